/-! The law's world: the class, the reference, the law's own long[1] -/
abbrev gm (g : cx) (am : Nat → Nat → Nat) : cx := (g.1, g.2.1, am)
abbrev ocell (g : cx) (o : Nat → Int64) : va_E := .inl (g.2.1 4, 1, .inr (.inl o))
/-- the addresses are new ones, and apart -/
def LWs (g : cx) (am : Nat → Nat → Nat) (ao z : Nat) : Prop :=
  (∀ k i, (k, i) ∈ ixC → z ≤ g.2.2 k i) ∧ (∀ k i, (k, i) ∈ ixM → z ≤ am k i) ∧ z ≤ ao ∧ (∀ k i a b, (k, i) ∈ ixC → (a, b) ∈ ixM → g.2.2 k i ≠ am a b) ∧ (∀ k i, (k, i) ∈ ixC → g.2.2 k i ≠ ao) ∧ (∀ k i, (k, i) ∈ ixM → am k i ≠ ao) ∧ (∀ S, va_D (fun _ => True) (cwG ixC enC g S)) ∧ (∀ M, va_D (fun _ => True) (cwG ixM enM (gm g am) M))
def LW (g : cx) (am : Nat → Nat → Nat) (ao : Nat) (S M : mem) (o : Nat → Int64) (s : State) (H : Heap) (locs : List Loc) : Prop :=
  va_K g.1 vwCl (tysA g) s ∧ nestOK s ∧ va_S (fun q => s.heap.size ≤ q) s.heap H locs ∧ va_P g.1 vwCl (cwG ixC enC g S) H ∧ va_P g.1 vwCl (cwG ixM enM (gm g am) M) H ∧ va_P g.1 vwCl [(ao, ocell g o)] H ∧ LWs g am ao s.heap.size ∧ ExU (fun q => s.heap.size ≤ q) s s.heap
theorem cwG_ix {ix : List (Nat × Nat)} {en : enT} {g : cx} {S : mem} {k : Nat} {q : Nat × va_E} (h : (cwG ix en g S)[k]? = some q) : ∃ a b, (a, b) ∈ ix ∧ q.1 = g.2.2 a b := by
  simp only [cwG, List.getElem?_map, Option.map_eq_some_iff] at h
  obtain ⟨x, hx, rfl⟩ := h
  exact ⟨x.1, x.2, List.mem_of_getElem? hx, rfl⟩
theorem one_ix {a k : Nat} {e0 : va_E} {q : Nat × va_E} (h : [(a, e0)][k]? = some q) : q = (a, e0) := by
  have hz : k < 1 := (List.getElem?_eq_some_iff.mp h).1
  rw [show k = 0 by omega] at h
  exact (Option.some.inj h).symm
def Ax (g : cx) (ao sz : Nat) : Nat → Prop := fun q => Aw ixC g sz q ∨ q = ao
section LwR
variable {p : Program} {l : Launch} {e : Env} {R : Room} {s : State} {m : MethodId} {args : Array Value} {below : List Frame} {meth : Method} {c : Code} {H : Heap} {locs : List Loc} {cells slots : Nat} {Q : State → Prop}
variable {cc : ByteArray} {pc nL : Nat} {ls : Array Slot} {rest st0 : List Value} {own : String} {g : cx} {am : Nat → Nat → Nat} {ao : Nat} {S S' M M' : mem} {o o' : Nat → Int64} {y' : MethodName} {r' : Option FieldType} {b' : ByteArray} {n' d' index : Nat} {As : List Value} {r : Int32}
theorem LW.wuC (B : LW g am ao S M o s H locs) {U : State} (hU : U.heap = H) (hW : s.WarmedH U.vm) : Wu ixC enC g S U := ⟨va_K.moved hW.alike B.1, by rw [hU]; exact B.2.2.2.1, B.2.2.2.2.2.2.1.2.2.2.2.2.2.1 S, nestOK.warm hW B.2.1⟩
theorem LW.wuM (B : LW g am ao S M o s H locs) {U : State} (hU : U.heap = H) (hW : s.WarmedH U.vm) : Wu ixM enM (gm g am) M U := ⟨va_K.moved hW.alike B.1, by rw [hU]; exact B.2.2.2.2.1, B.2.2.2.2.2.2.1.2.2.2.2.2.2.2 M, nestOK.warm hW B.2.1⟩
theorem LW.backC (B : LW g am ao S M o s H locs) {H1 : Heap} {locs1 : List Loc} (hu : va_P g.1 vwCl (cwG ixC enC g S') H1) (hk : ∀ q : Nat, q < H.size → ¬ Aw ixC g H.size q → H1[q]? = H[q]?) (hS : va_S (fun q => s.heap.size ≤ q) s.heap H1 locs1) : LW g am ao S' M o s H1 locs1 := by
  obtain ⟨b1, b2, b3, b4, b5, b6, b7, b8⟩ := B
  refine ⟨b1, b2, hS, hu, b5.kept fun k q hq => ?_, b6.kept fun k q hq => ?_, b7, b8⟩
  · have hl := (b5 k q hq).lt
    obtain ⟨a, b, hab, e1⟩ := cwG_ix hq
    refine hk q.1 hl fun h => ?_
    rcases h with ⟨k1, i1, h1, h2⟩ | h
    · exact b7.2.2.2.1 k1 i1 a b h1 hab (h2.symm.trans e1)
    · omega
  · have hl := (b6 k q hq).lt
    have e1 := one_ix hq
    refine hk q.1 hl fun h => ?_
    rcases h with ⟨k1, i1, h1, h2⟩ | h
    · exact b7.2.2.2.2.1 k1 i1 h1 (by rw [← h2, e1])
    · omega
theorem LW.backM (B : LW g am ao S M o s H locs) {H1 : Heap} {locs1 : List Loc} (hu : va_P g.1 vwCl (cwG ixM enM (gm g am) M') H1) (hk : ∀ q : Nat, q < H.size → ¬ Aw ixM (gm g am) H.size q → H1[q]? = H[q]?) (hS : va_S (fun q => s.heap.size ≤ q) s.heap H1 locs1) : LW g am ao S M' o s H1 locs1 := by
  obtain ⟨b1, b2, b3, b4, b5, b6, b7, b8⟩ := B
  refine ⟨b1, b2, hS, b4.kept fun k q hq => ?_, hu, b6.kept fun k q hq => ?_, b7, b8⟩
  · have hl := (b4 k q hq).lt
    obtain ⟨a, b, hab, e1⟩ := cwG_ix hq
    refine hk q.1 hl fun h => ?_
    rcases h with ⟨k1, i1, h1, h2⟩ | h
    · exact b7.2.2.2.1 a b k1 i1 hab h1 (e1.symm.trans h2)
    · omega
  · have hl := (b6 k q hq).lt
    have e1 := one_ix hq
    refine hk q.1 hl fun h => ?_
    rcases h with ⟨k1, i1, h1, h2⟩ | h
    · exact b7.2.2.2.2.2.1 k1 i1 h1 (by rw [e1] at h2; exact h2.symm)
    · omega
theorem LW.awC (B : LW g am ao S M o s H locs) (q : Nat) (h : Aw ixC g H.size q) : s.heap.size ≤ q := by
  rcases h with ⟨k1, i1, h1, h2⟩ | h
  · rw [h2]; exact B.2.2.2.2.2.2.1.1 k1 i1 h1
  · exact Nat.le_trans B.2.2.1.1 h
theorem LW.awM (B : LW g am ao S M o s H locs) (q : Nat) (h : Aw ixM (gm g am) H.size q) : s.heap.size ≤ q := by
  rcases h with ⟨k1, i1, h1, h2⟩ | h
  · rw [h2]; exact B.2.2.2.2.2.2.1.2.1 k1 i1 h1
  · exact Nat.le_trans B.2.2.1.1 h
theorem TBg_good {y' : MethodName} {b' : ByteArray} {n' : Nat} {r' : Option FieldType} (h : Cond.code y' b' n' r' ∈ TBg) : GoodIn TBg (wsU y' b' n' r') := by
  intro w hw
  have hw' : w ∈ TBg := by
    rcases List.mem_cons.mp hw with rfl | hw
    · exact h
    · exact hw
  exact ⟨hw', good_of_word (List.mem_filter.mp hw').2⟩
theorem lwC {nn : Nat} (F : CallFix p m c cc nL s args TBg own) (B : LW g am ao S M o s H locs) (hM : Met l y' (wsU y' b' n' r') (rmD d') (PcW ixC enC g S H.size (.ref (g.2.2 3 0) :: As)) (QiW ixC enC g H.size r S') 0 0 (Aw ixC g H.size))
    (hcd : Cond.code y' b' n' r' ∈ TBg) (hlk : Cond.methodLink own index y' ∈ TBg) (hini : Cond.initialized y'.cls ∈ TBg) (hins : Cond.instanceMethod y' ∈ TBg) (hsel : Cond.selects RX3 y' y' ∈ TBg) (hd : okD (cells := cells) (slots := slots) y' n' d' nn R) (hn : As.length = nn) (hsz : ls.size = nL) (hst : st0 = As.reverse ++ .ref (g.2.2 3 0) :: rest) (hw : (rest.map fun v => v.category).sum ≤ 8) (hdg : decode cc pc = .ok (.invokevirtual index, 3))
    (kk : ∀ (H : Heap) (locs : List Loc), LW g am ao S' M o s H locs → W p l e R s m args below meth c H locs cells slots Q (F0 m (pc + 3) ls (.int r :: rest))) : W p l e R s m args below meth c H locs cells slots Q (F0 m pc ls st0) := by
  obtain ⟨q, -, hq⟩ := cwG_at enC g S ixC_3
  refine va_calli (va_runV (As := As) (rest := rest) F hM ⟨callB_of nn F.2.2.2.2 (TBg_good hcd) rfl rfl rfl (F.2.2.2.2 _ hini) (F.2.2.2.2 _ hlk) hd.1 ⟨hd.2.1, hd.2.2.1⟩, F.2.2.2.2 _ hins, F.2.2.2.2 _ hsel⟩ ⟨PcW.blind, va_recv (ci := 5) (q0 := q) B.1 B.2.2.2.1 rfl hq, fun U hU hW => ⟨rfl, by rw [hU], B.wuC hU hW⟩⟩ rfl hn hsz hst (lv_room hw) hdg ⟨hd.2.2.2.1, hd.2.2.2.2⟩) B.2.2.1 (fun q _ h => B.awC q h) B.awC (fun r1 u t H1 locs1 ht _ hp hB _ hkk hS => ?_)
  subst hp
  exact kk H1 locs1 (B.backC (by rw [← ht]; exact hB.2.1) hkk hS)
theorem lwM {nn : Nat} (F : CallFix p m c cc nL s args TBg own) (B : LW g am ao S M o s H locs) (hM : Met l y' (wsU y' b' n' r') (rmD d') (PcW ixM enM (gm g am) M H.size (.ref (am 0 0) :: As)) (QiW ixM enM (gm g am) H.size r M') 0 0 (Aw ixM (gm g am) H.size))
    (hcd : Cond.code y' b' n' r' ∈ TBg) (hlk : Cond.methodLink own index y' ∈ TBg) (hini : Cond.initialized y'.cls ∈ TBg) (hins : Cond.instanceMethod y' ∈ TBg) (hsel : Cond.selects RX4 y' y' ∈ TBg) (hd : okD (cells := cells) (slots := slots) y' n' d' nn R) (hn : As.length = nn) (hsz : ls.size = nL) (hst : st0 = As.reverse ++ .ref (am 0 0) :: rest) (hw : (rest.map fun v => v.category).sum ≤ 8) (hdg : decode cc pc = .ok (.invokevirtual index, 3))
    (kk : ∀ (H : Heap) (locs : List Loc), LW g am ao S M' o s H locs → W p l e R s m args below meth c H locs cells slots Q (F0 m (pc + 3) ls (.int r :: rest))) : W p l e R s m args below meth c H locs cells slots Q (F0 m pc ls st0) := by
  obtain ⟨q, -, hq⟩ := cwG_at enM (gm g am) M ixM_0
  refine va_calli (va_runV (As := As) (rest := rest) F hM ⟨callB_of nn F.2.2.2.2 (TBg_good hcd) rfl rfl rfl (F.2.2.2.2 _ hini) (F.2.2.2.2 _ hlk) hd.1 ⟨hd.2.1, hd.2.2.1⟩, F.2.2.2.2 _ hins, F.2.2.2.2 _ hsel⟩ ⟨PcW.blind, va_recv (ci := 6) (q0 := q) B.1 B.2.2.2.2.1 rfl hq, fun U hU hW => ⟨rfl, by rw [hU], B.wuM hU hW⟩⟩ rfl hn hsz hst (lv_room hw) hdg ⟨hd.2.2.2.1, hd.2.2.2.2⟩) B.2.2.1 (fun q _ h => B.awM q h) B.awM (fun r1 u t H1 locs1 ht _ hp hB _ hkk hS => ?_)
  subst hp
  exact kk H1 locs1 (B.backM (by rw [← ht]; exact hB.2.1) hkk hS)
end LwR
/-! The law's three catchers -/
def wsW (y : MethodName) (b : ByteArray) (n : Nat) (r : Option FieldType) (hh : List (Nat × Nat × Nat × Nat)) : List Cond := .codeWith y b n r hh :: TBg
def PcE (g : cx) (S : mem) (ao : Nat) (o : Nat → Int64) (sz : Nat) (av : List Value) : Array Value → State → Prop := va_Pc av (fun U => U.heap.size = sz ∧ Wu ixC enC g S U ∧ va_P g.1 vwCl [(ao, ocell g o)] U.heap ∧ (∀ k i, (k, i) ∈ ixC → g.2.2 k i ≠ ao) ∧ ExU (Ax g ao sz) U U.heap)
/-- what a catcher answers, and what it leaves in the long[1] -/
def ctR (q : Option Int32) : Int32 := match q with
  | some _ => 0
  | none => 1
def ctO (o : Nat → Int64) (q : Option Int32) : Nat → Int64 := match q with
  | some v => vp_updL o 0 v.toInt64
  | none => o
abbrev QcE (g : cx) (S : mem) (ao : Nat) (o : Nat → Int64) (sz : Nat) (q : Option Int32) : Array Value → State → Outcome → State → Prop := va_Qi (fun (x : Int32) (_ : Unit) => x = ctR q) (fun _ t => va_P g.1 vwCl (cwG ixC enC g S) t.heap ∧ va_P g.1 vwCl [(ao, ocell g (ctO o q))] t.heap) (Ax g ao sz)
theorem met_introE {l : Launch} {y : MethodName} {cc : ByteArray} {maxL : Nat} {ret : Option FieldType} {hh : List (Nat × Nat × Nat × Nat)} {g : cx} {S : mem} {ao : Nat} {o : Nat → Int64} {sz : Nat} {q : Option Int32} (av : List Value) (own : String) (ho : y.cls = own) (hy : plainName y.cls = true) (hfit : (lg_sl av).length ≤ maxL)
    (body : ∀ (p : Program) (e : Env) (s : State) (m : MethodId) (args : Array Value) (below : List Frame) (meth : Method) (c : Code), CallFix p m c cc maxL s args (wsW y cc maxL ret hh) own → meth.sig.returnType = ret → meth.locks = false → c.exceptionTable.toList = tableOf hh → s.heap.size = sz → Wu ixC enC g S s → va_P g.1 vwCl [(ao, ocell g o)] s.heap → (∀ k i, (k, i) ∈ ixC → g.2.2 k i ≠ ao) → ExU (Ax g ao sz) s s.heap → ∀ ls, lv_has ls maxL (lv_args 0 av) →
      W p l e (rmK 8 1 6) s m args below meth c s.heap [] 0 0 (MQ below (QcE g S ao o sz q) args s 1 6 (Ax g ao sz)) (F0 m 0 ls [])) :
    Met l y (wsW y cc maxL ret hh) (rmK 8 1 6) (PcE g S ao o sz av) (QcE g S ao o sz q) 1 6 (Ax g ao sz) := by
  refine MetFree.of_bodyS (code := cc) (maxLocals := maxL) (ret := ret) hy ?_ ?_
  · intro args s m h hn
    obtain ⟨m9, meth, c, hn9, h1, h2, h3, h4, -, h5, h6, -⟩ := Cond.codeWith_spec (atoms_spec (ws := wsW y cc maxL ret hh) h _ List.mem_cons_self)
    cases hn.symm.trans hn9
    exact ⟨meth, c, h1, h2, h3, h4, h5, h6⟩
  · intro p e s m args below meth c s₁ B hml hP _
    obtain ⟨rfl, hsz, hU, hO, hne, hE⟩ := hP
    have hts := atoms_spec (ws := wsW y cc maxL ret hh) B.pre
    have hown : s.vm.findClass own = some m.cls := by rw [← ho]; exact findClass_of_methodNamed B.named
    have hl := lv_entry av (n := maxL) hfit
    have hh0 : s₁.heap = s.heap := by rw [B.state]; rfl
    have K := body p e s m _ below meth c ⟨B.exec, B.bytes, hml, hown, hts⟩ B.returns B.notSynchronized (vx_table (x := y) B (hts _ List.mem_cons_self)) hsz hU hO hne hE _ hl
    rw [← lg_entry_eq] at K
    obtain ⟨t, a1, o1, b1, b2, b3⟩ := K s₁ hh0 (Stand.of_body B)
    exact ⟨t, o1, a1, b1, b2, ⟨b3.1, b3.2⟩⟩
theorem vx_Zq.at {C n d : String} {A : Nat → Prop} {s U : State} (hW : s.WarmedH U.vm) (h : vx_Zq C n d A s s.heap) (hk : ∀ a : Nat, a < s.heap.size → ¬ A a → U.heap[a]? = s.heap[a]?) : vx_Zq C n d A U U.heap := vx_Zq.moved hW.alike (vx_Zq.kept h hk)
theorem ExU.at {A A' : Nat → Prop} {s U : State} (hW : s.WarmedH U.vm) (h : ExU A s s.heap) (hk : ∀ a : Nat, a < s.heap.size → ¬ A a → U.heap[a]? = s.heap[a]?) (hA : ∀ q, A' q → A q) : ExU A' U U.heap := by
  obtain ⟨h1, h2, ⟨a3, h3⟩, ⟨a4, h4⟩, ⟨a5, h5⟩⟩ := h
  exact ⟨(vx_Zq.at hW h1 hk).narrow hA, (vx_Zq.at hW h2 hk).narrow hA, ⟨a3, h3.warm hW⟩, ⟨a4, h4.warm hW⟩, ⟨a5, h5.warm hW⟩⟩
