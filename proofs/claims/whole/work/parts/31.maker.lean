/-! Contracts of makers: from the cells ws to the cells ws', the heap ends at z' -/
def LdU (g : cx) (ws : va_W) (z : Nat) (U : State) : Prop := va_K g.1 vwCl (tysA g) U ∧ va_P g.1 vwCl ws U.heap ∧ va_D (fun _ => True) ws ∧ nestOK U ∧ U.heap.size = z
def PcL (g : cx) (ws : va_W) (z : Nat) (av : List Value) : Array Value → State → Prop := va_Pc av (fun U => LdU g ws z U)
abbrev QvL (g : cx) (ws : va_W) (z : Nat) (A : Nat → Prop) : Array Value → State → Outcome → State → Prop := va_Qv (fun (_ : Unit) => True) (fun _ t => LdU g ws z t) A
theorem LdU.calling {g : cx} {ws : va_W} {z : Nat} {U : State} {f : JFrame} {mk : MethodId} {a : Array Value} (h : LdU g ws z U) : LdU g ws z (U.calling f mk a) := ⟨va_K.moved (u := U) (U := U.calling f mk a) (Vm.Alike.refl U.vm) h.1, h.2.1, h.2.2.1, nestOK.same (s := U) (U := U.calling f mk a) rfl h.2.2.2.1, h.2.2.2.2⟩
theorem Ld.u {g : cx} {A : Nat → Prop} {s U : State} {H : Heap} {locs : List Loc} {ws : va_W} {z : Nat} (h : Ld g A s H locs ws z) (hU : U.heap = H) (hW : s.WarmedH U.vm) : LdU g ws z U := ⟨va_K.moved hW.alike h.1, by rw [hU]; exact h.2.1, h.2.2.1.weaken (fun _ _ _ _ => trivial), nestOK.warm hW h.2.2.2.2.1, by rw [hU]; exact h.2.2.2.2.2.1⟩
def rmK (d mc ms : Nat) : Room := { frames := d, cells := mc, slots := ms, locals := 40 * d }
theorem met_introL {l : Launch} {y : MethodName} {cc : ByteArray} {maxL : Nat} {rm : Room} {g : cx} {ws : va_W} {z mc ms : Nat} {Qc : Array Value → State → Outcome → State → Prop} (A : Nat → Prop) (hA : ∀ q, z ≤ q → A q) (hA0 : ∀ (k : Nat) (q : Nat × va_E), ws[k]? = some q → A q.1) (av : List Value) (own : String) (ho : y.cls = own) (hy1 : y.name = "<init>") (hy : plainName y.cls = true) (hfit : (lg_sl av).length ≤ maxL)
    (body : ∀ (p : Program) (e : Env) (s : State) (m : MethodId) (args : Array Value) (below : List Frame) (meth : Method) (c : Code) (H : Heap) (locs : List Loc), CallFix p m c cc maxL s args (wsU y cc maxL none) own → meth.sig.returnType = none → meth.locks = false → meth.name = "<init>" → s.heap.size = z → Ld g A s H locs ws z → ∀ ls, lv_has ls maxL (lv_args 0 av) →
      W p l e rm s m args below meth c H locs 0 0 (MQ below Qc args s mc ms A) (F0 m 0 ls [])) :
    Met l y (wsU y cc maxL none) rm (PcL g ws z av) Qc mc ms A := by
  refine Met.ofW (cc := cc) (maxL := maxL) (ret := none) hy rfl ?_
  intro p e s m args below meth c s₁ B hml hv
  obtain ⟨rfl, hU⟩ := hv
  have hts := atoms_spec (ws := wsU y cc maxL none) B.pre
  have hown : s.vm.findClass own = some m.cls := by rw [← ho]; exact findClass_of_methodNamed B.named
  have hl := lv_entry av (n := maxL) hfit
  rw [lg_entry_eq]
  exact body p e s m _ below meth c s.heap [] ⟨B.exec, B.bytes, hml, hown, hts⟩ B.returns B.notSynchronized ((name_of_methodNamed B.named B.method).1.trans hy1) hU.2.2.2.2 ⟨hU.1, hU.2.1, ⟨hU.2.2.1.1, hA0⟩, va_S.rf, hU.2.2.2.1, hU.2.2.2.2, fun q h => hA q (by rw [← hU.2.2.2.2]; exact h)⟩ _ hl
section Mk2
variable {p : Program} {l : Launch} {e : Env} {R : Room} {s : State} {m : MethodId} {args : Array Value} {below : List Frame} {meth : Method} {c : Code} {H : Heap} {locs : List Loc} {cells slots : Nat} {Q : State → Prop}
variable {cc : ByteArray} {pc nL : Nat} {ls : Array Slot} {rest st0 : List Value} {own : String} {g : cx} {A : Nat → Prop} {ws ws1 : va_W} {a z z1 : Nat} {y y' : MethodName} {ret : Option FieldType} {b' : ByteArray} {n' d' mc ms index : Nat} {host : String} {e0 : va_E}
theorem l_vret (F : CallFix p m c cc nL s args (wsU y cc nL ret) own) (hr : meth.sig.returnType = none) (hlocks : meth.locks = false) (B : Ld g A s H locs ws z) (hdg : decode cc pc = .ok (.return_, 1)) :
    W p l e R s m args below meth c H locs cells slots (MQ below (QvL g ws z A) args s cells slots A) (F0 m pc ls []) :=
  W.vret F.1 F.2.1 hr (fun t ht hW => ⟨⟨(), rfl, trivial, B.u ht hW⟩, B.2.2.2.1.F ht⟩) B.2.2.2.1.2.2 hdg hlocks
theorem l_objInit (F : CallFix p m c cc nL s args (wsU y cc nL ret) own) {idx : Nat} (hlink : Cond.methodLink own idx Lib.objectInit ∈ TBg) (hinst : Cond.instanceMethod Lib.objectInit ∈ TBg) (hcode : Cond.code Lib.objectInit ⟨#[0xb1]⟩ 1 none ∈ TBg) (hsz : ls.size = nL) (hd : decode cc pc = .ok (.invokespecial idx, 3)) (hframes : 1 ≤ R.frames) (hlocals : 12 ≤ R.locals)
    (kk : W p l e R s m args below meth c H locs cells slots Q (F0 m (pc + 3) ls [])) : W p l e R s m args below meth c H locs cells slots Q (F0 m pc ls [.ref a]) :=
  W.objInit F.1 F.2.1 F.2.2.2.1 (F.2.2.2.2 _ (wsU_in hlink)) (F.2.2.2.2 _ (wsU_in hinst)) (F.2.2.2.2 _ (wsU_in hcode)) rfl (by rw [F.2.2.1]; exact hsz) rfl hd hframes (by show 2 * 0 + 0 + 12 ≤ _; omega) kk
/-- behind a maker's call: the rest of the cells is as before -/
theorem l_back (B : Ld g A s H locs (ws ++ [(a, e0)]) z) {t : State} {H1 : Heap} {locs1 : List Loc} (ht : t.heap = H1) (hu : LdU g ws1 z1 t) (hk : ∀ q : Nat, q < H.size → ¬ va_A [(a, e0)] z q → H1[q]? = H[q]?) (hn : ∀ (k : Nat) (q : Nat × va_E), ws1[k]? = some q → q.1 = a ∨ z ≤ q.1) (hS : va_S A s.heap H1 locs1) (hz : H.size ≤ H1.size) (hsz : s.heap.size ≤ z) : Ld g A s H1 locs1 (ws ++ ws1) z1 := by
  obtain ⟨hK, hP, hD, hS0, hN0, hz0, hA⟩ := B
  have hPw : va_P g.1 vwCl ws H := fun k q hq => hP k q (by rw [List.getElem?_append_left (List.getElem?_eq_some_iff.mp hq).1]; exact hq)
  have hwl : ∀ (k : Nat) (q : Nat × va_E), ws[k]? = some q → q.1 < z ∧ q.1 ≠ a := fun k q hq => by
    refine ⟨by rw [← hz0]; exact (hPw k q hq).lt, fun h => ?_⟩
    have hl := (List.getElem?_eq_some_iff.mp hq).1
    have := hD.1 k ws.length q (a, e0) (by rw [List.getElem?_append_left hl]; exact hq) (by simp) h
    omega
  have hnot : ∀ q : Nat, q < z → q ≠ a → ¬ va_A [(a, e0)] z q := fun q h1 h2 h => by
    rcases h with ⟨k, e1, hk1⟩ | h
    · have hz : k < 1 := (List.getElem?_eq_some_iff.mp hk1).1
      rw [show k = 0 by omega] at hk1
      cases hk1
      exact h2 rfl
    · omega
  refine ⟨hK, (hPw.kept fun k q hq => ?_).app (by rw [← ht]; exact hu.2.1), ⟨fun i j x y hx hy hxy => ?_, fun k q hq => ?_⟩, hS, hN0, by rw [← ht]; exact hu.2.2.2.2, hA⟩
  · obtain ⟨h1, h2⟩ := hwl k q hq
    exact hk q.1 (by omega) (hnot q.1 h1 h2)
  · by_cases hi : i < ws.length <;> by_cases hj : j < ws.length
    · rw [List.getElem?_append_left hi] at hx
      rw [List.getElem?_append_left hj] at hy
      exact hD.1 i j x y (by rw [List.getElem?_append_left hi]; exact hx) (by rw [List.getElem?_append_left hj]; exact hy) hxy
    · rw [List.getElem?_append_left hi] at hx
      rw [List.getElem?_append_right (by omega)] at hy
      have h1 := hwl i x hx
      have h2 := hn _ y hy
      omega
    · rw [List.getElem?_append_right (by omega)] at hx
      rw [List.getElem?_append_left hj] at hy
      have h1 := hwl j y hy
      have h2 := hn _ x hx
      omega
    · rw [List.getElem?_append_right (by omega)] at hx hy
      have := hu.2.2.1.1 _ _ x y hx hy hxy
      omega
  · by_cases hi : k < ws.length
    · rw [List.getElem?_append_left hi] at hq
      exact hD.2 k q (by rw [List.getElem?_append_left hi]; exact hq)
    · rw [List.getElem?_append_right (by omega)] at hq
      rcases hn _ q hq with h | h
      · rw [h]; exact hD.2 ws.length (a, e0) (by simp)
      · exact hA _ (by omega)
theorem l_prI (B : Ld g A s H locs (ws ++ [(a, e0)]) z) : PreS s H (PcL g [(a, e0)] z [.ref a]) (.ref a :: []) := by
  obtain ⟨hK, hP, hD, hS0, hN0, hz0, hA⟩ := B
  refine ⟨fun v U f mk h => ⟨h.1, h.2.calling⟩, fun U hU hW => ⟨rfl, va_K.moved hW.alike hK, ?_, ⟨?_, fun _ _ _ => trivial⟩, nestOK.warm hW hN0, by rw [hU]; exact hz0⟩⟩
  · intro k q hq
    have hz : k < 1 := (List.getElem?_eq_some_iff.mp hq).1
    rw [show k = 0 by omega] at hq
    cases hq
    rw [hU]
    exact hP ws.length (a, e0) (by simp)
  · intro i j x y hx hy _
    have hi : i < 1 := (List.getElem?_eq_some_iff.mp hx).1
    have hj : j < 1 := (List.getElem?_eq_some_iff.mp hy).1
    omega
theorem l_callIN (F : CallFix p m c cc nL s args (wsU y cc nL ret) own) (B : Ld g A s H locs (ws ++ [(a, e0)]) z) (hM : Met l y' (wsU y' b' n' none) (rmK d' mc ms) (PcL g [(a, e0)] z [.ref a]) (QvL g ws1 z1 (va_A [(a, e0)] z)) mc ms (va_A [(a, e0)] z))
    (hcd : Cond.code y' b' n' none ∈ TBg) (hlk : Cond.methodLinkNest own index y' host ∈ nestW) (hini : Cond.initialized y'.cls ∈ TBg) (hins : Cond.instanceMethod y' ∈ TBg) (hy1 : y'.name = "<init>") (hd : y'.cls ≠ "java/lang/invoke/MethodHandle" ∧ y'.cls ≠ "java/lang/invoke/VarHandle" ∧ (parseMethodDescriptor y'.desc).map (fun d => d.parameters.length) = some 0) (hR : d' + 1 ≤ R.frames ∧ 8 + (n' + 11) + 40 * d' ≤ R.locals) (hc : cells + mc ≤ R.cells ∧ slots + ms ≤ R.slots) (hn : ∀ (k : Nat) (q : Nat × va_E), ws1[k]? = some q → q.1 = a ∨ z ≤ q.1) (hsz0 : s.heap.size ≤ z) (haA : A a) (hsz : ls.size = nL) (hst : st0 = .ref a :: rest) (hw : (rest.map fun v => v.category).sum ≤ 8) (hdg : decode cc pc = .ok (.invokespecial index, 3))
    (kk : ∀ (H1 : Heap) (locs1 : List Loc), Ld g A s H1 locs1 (ws ++ ws1) z1 → W p l e R s m args below meth c H1 locs1 (cells + mc) (slots + ms) Q (F0 m (pc + 3) ls rest)) : W p l e R s m args below meth c H locs cells slots Q (F0 m pc ls st0) := by
  have hfr : ∀ q, va_A [(a, e0)] z q → A q := fun q h => by
    rcases h with ⟨k, e1, hk1⟩ | h
    · have hz : k < 1 := (List.getElem?_eq_some_iff.mp hk1).1
      rw [show k = 0 by omega] at hk1
      cases hk1
      exact haA
    · exact B.2.2.2.2.2.2 _ (by omega)
  refine va_callv (va_runIN (As := []) (rest := rest) F hM ⟨va_cnB 0 F.2.2.2.2 (wsU_good hcd) rfl rfl rfl (B.2.2.2.2.1 _ hlk) (F.2.2.2.2 _ (wsU_in hini)) hd hR, hy1, F.2.2.2.2 _ (wsU_in hins)⟩ (l_prI B) rfl rfl hsz hst (lv_room hw) hdg hc) B.2.2.2.1 (fun q _ h => hfr q h) hfr (fun u t H1 locs1 ht _ hp hB hzz hkk hS => ?_)
  exact kk H1 locs1 (l_back B ht hB hkk hn hS hzz hsz0)
theorem l_callI (F : CallFix p m c cc nL s args (wsU y cc nL ret) own) (B : Ld g A s H locs (ws ++ [(a, e0)]) z) (hM : Met l y' (wsU y' b' n' none) (rmK d' mc ms) (PcL g [(a, e0)] z [.ref a]) (QvL g ws1 z1 (va_A [(a, e0)] z)) mc ms (va_A [(a, e0)] z))
    (hcd : Cond.code y' b' n' none ∈ TBg) (hlk : Cond.methodLink own index y' ∈ TBg) (hini : Cond.initialized y'.cls ∈ TBg) (hins : Cond.instanceMethod y' ∈ TBg) (hy1 : y'.name = "<init>") (hd : y'.cls ≠ "java/lang/invoke/MethodHandle" ∧ y'.cls ≠ "java/lang/invoke/VarHandle" ∧ (parseMethodDescriptor y'.desc).map (fun d => d.parameters.length) = some 0) (hR : d' + 1 ≤ R.frames ∧ 8 + (n' + 11) + 40 * d' ≤ R.locals) (hc : cells + mc ≤ R.cells ∧ slots + ms ≤ R.slots) (hn : ∀ (k : Nat) (q : Nat × va_E), ws1[k]? = some q → q.1 = a ∨ z ≤ q.1) (hsz0 : s.heap.size ≤ z) (haA : A a) (hsz : ls.size = nL) (hst : st0 = .ref a :: rest) (hw : (rest.map fun v => v.category).sum ≤ 8) (hdg : decode cc pc = .ok (.invokespecial index, 3))
    (kk : ∀ (H1 : Heap) (locs1 : List Loc), Ld g A s H1 locs1 (ws ++ ws1) z1 → W p l e R s m args below meth c H1 locs1 (cells + mc) (slots + ms) Q (F0 m (pc + 3) ls rest)) : W p l e R s m args below meth c H locs cells slots Q (F0 m pc ls st0) := by
  have hfr : ∀ q, va_A [(a, e0)] z q → A q := fun q h => by
    rcases h with ⟨k, e1, hk1⟩ | h
    · have hz : k < 1 := (List.getElem?_eq_some_iff.mp hk1).1
      rw [show k = 0 by omega] at hk1
      cases hk1
      exact haA
    · exact B.2.2.2.2.2.2 _ (by omega)
  refine va_callv (va_runI (As := []) (rest := rest) F hM (cwI 0 F.2.2.2.2 (wsU_good hcd) rfl rfl rfl (F.2.2.2.2 _ (wsU_in hini)) (F.2.2.2.2 _ (wsU_in hlk)) (F.2.2.2.2 _ (wsU_in hins)) hy1 hd hR) (l_prI B) rfl rfl hsz hst (lv_room hw) hdg hc) B.2.2.2.1 (fun q _ h => hfr q h) hfr (fun u t H1 locs1 ht _ hp hB hzz hkk hS => ?_)
  exact kk H1 locs1 (l_back B ht hB hkk hn hS hzz hsz0)
theorem hpI {s : State} (x y : ClassId) (h : va_RA s x .int) (h2 : s.vm.findClass ("[" ++ FieldType.int.toString) = some y) : y = x := Option.some.inj (h2.symm.trans h)
theorem hpZ {s : State} (x y : ClassId) (h : va_RA s x .boolean) (h2 : s.vm.findClass ("[" ++ FieldType.boolean.toString) = some y) : y = x := Option.some.inj (h2.symm.trans h)
theorem haI (N' : Nat) (cA : ClassId) : vp_cell cA (N', .inl (fun _ => 0)) = arrV cA N' (fun _ => defaultValue .int) := rfl
theorem haZ (N' : Nat) (cA : ClassId) : vp_cell cA (N', .inl (fun _ => 0)) = arrV cA N' (fun _ => defaultValue .boolean) := rfl
end Mk2
