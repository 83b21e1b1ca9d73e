/-! Methods that return or throw, over the class's world -/
/-- what a throw needs of the start: Throwable's two statics, the three texts -/
def ExU (A : Nat → Prop) (U : State) (H : Heap) : Prop := vx_Zq Bundle.tN "UNASSIGNED_STACK" Bundle.steD A U H ∧ vx_Zq Bundle.tN "SUPPRESSED_SENTINEL" Bundle.listD A U H ∧ (∃ sa, vk_R RX3 152 "there is no such hyphen" sa U) ∧ (∃ sa, vk_R RX3 167 "nothing to measure by: no note, or the last one is at 0" sa U) ∧ (∃ sa, vk_R RX3 215 "there is no such cut" sa U)
def PcX (g : cx) (S : mem) (sz : Nat) (av : List Value) : Array Value → State → Prop := va_Pc av (fun U => U.heap.size = sz ∧ Wu ixC enC g S U ∧ ExU (Aw ixC g sz) U U.heap)
abbrev QrW (g : cx) (sz : Nat) (S : mem) (q : Option Int32) : Array Value → State → Outcome → State → Prop := va_Qi (fun (x : Int32) (_ : Unit) => q = some x) (fun _ t => va_P g.1 vwCl (cwG ixC enC g S) t.heap) (Aw ixC g sz)
abbrev XrW (g : cx) (sz : Nat) (S : mem) (E0 : String) (q : Option Int32) : String → State → State → Prop := vx_X (fun (_ : Unit) => q = none) (fun E _ t => E = E0 ∧ va_P g.1 vwCl (cwG ixC enC g S) t.heap) (Aw ixC g sz)
theorem met_introX {l : Launch} {y : MethodName} {cc : ByteArray} {maxL : Nat} {ret : Option FieldType} {g : cx} {S : mem} {sz : Nat} {q : Option Int32} {E0 : String} (av : List Value) (own : String) (ho : y.cls = own) (hy : plainName y.cls = true) (hfit : (lg_sl av).length ≤ maxL)
    (body : ∀ (p : Program) (e : Env) (s : State) (m : MethodId) (args : Array Value) (below : List Frame) (meth : Method) (c : Code) (H : Heap) (locs : List Loc), CallFix p m c cc maxL s args (wsU y cc maxL ret) own → meth.sig.returnType = ret → meth.locks = false → (∀ x ∈ c.exceptionTable.toList, False) → Wd ixC enC g S (Aw ixC g s.heap.size) s H locs → ExU (Aw ixC g s.heap.size) s s.heap → ∀ ls, lv_has ls maxL (lv_args 0 av) →
      W p l e (rmK 7 1 6) s m args below meth c H locs 0 0 (vx_MQ below (QrW g s.heap.size S q) (XrW g s.heap.size S E0 q) args s 1 6 (Aw ixC g s.heap.size)) (F0 m 0 ls [])) :
    vx_Met l y (wsU y cc maxL ret) (rmK 7 1 6) (PcX g S sz av) (QrW g sz S q) (XrW g sz S E0 q) 1 6 (Aw ixC g sz) := by
  refine vx_ofW (cc := cc) (maxL := maxL) (ret := ret) hy rfl ?_
  intro p e s m args below meth c s₁ B hml hno hv
  obtain ⟨rfl, hsz, hU, hE⟩ := hv
  subst hsz
  have hts := atoms_spec (ws := wsU y cc maxL ret) B.pre
  have hown : s.vm.findClass own = some m.cls := by rw [← ho]; exact findClass_of_methodNamed B.named
  have hl := lv_entry av (n := maxL) hfit
  rw [lg_entry_eq]
  exact body p e s m _ below meth c s.heap [] ⟨B.exec, B.bytes, hml, hown, hts⟩ B.returns B.notSynchronized hno (hU.d rfl) hE _ hl
section Xr
variable {p : Program} {l : Launch} {e : Env} {s : State} {m : MethodId} {args : Array Value} {below : List Frame} {meth : Method} {c : Code} {H : Heap} {locs : List Loc}
variable {cc : ByteArray} {pc nL : Nat} {ls : Array Slot} {rest : List Value} {g : cx} {S : mem} {y : MethodName} {ret : Option FieldType} {own : String}
theorem x_iret {v : Int32} {E0 : String} (F : CallFix p m c cc nL s args (wsU y cc nL ret) own) (hr : meth.sig.returnType = some .int) (hlocks : meth.locks = false) (B : Wd ixC enC g S (Aw ixC g s.heap.size) s H locs) (hdg : decode cc pc = .ok (.ireturn, 1)) :
    W p l e (rmK 7 1 6) s m args below meth c H locs 0 0 (vx_MQ below (QrW g s.heap.size S (some v)) (XrW g s.heap.size S E0 (some v)) args s 1 6 (Aw ixC g s.heap.size)) (F0 m pc ls [.int v]) :=
  W.widen (k := 1) (n := 6) (by decide) (by decide) (vx_ret (W.iret F.1 F.2.1 hr (fun t ht hW => ⟨⟨v, (), rfl, rfl, (show va_P g.1 vwCl (cwG ixC enC g S) t.heap by rw [ht]; exact B.2.1)⟩, B.2.2.2.1.F ht⟩) B.2.2.2.1.2.2 hdg hlocks))
theorem x_throw {E0 text : String} {names : List String} {ik is ic sa : Nat} (F : CallFix p m c cc nL s args (wsU y cc nL ret) RX3) (hl9 : l.stackTraces = false) (B : Wd ixC enC g S (Aw ixC g s.heap.size) s H locs) (hE : ExU (Aw ixC g s.heap.size) s s.heap) (hstr : vk_R RX3 is text sa s) (hcls : Bundle.fit E0 = true) (hnames : ∀ n ∈ names, Bundle.fit n = true)
    (hat : ∀ w ∈ vx_atS RX3 ic E0 names, w ∈ TBg ∨ w ∈ nestW) (hot : ∀ w ∈ Cond.classLink RX3 ik E0 :: Cond.initialized E0 :: vx_atS RX3 ic E0 names, vx_ot w = true) (hk : Cond.classLink RX3 ik E0 ∈ TBg) (hini : Cond.initialized E0 ∈ TBg) (hno : ∀ x ∈ c.exceptionTable.toList, False) (hlocks : meth.locks = false) (hsz : ls.size = nL)
    (d0 : decode cc pc = .ok (.new ik, 3)) (d3 : decode cc (pc + 3) = .ok (.dup, 1)) (d4 : decode cc (pc + 4) = .ok (.ldc is, 2)) (d6 : decode cc (pc + 6) = .ok (.invokespecial ic, 3)) (d9 : decode cc (pc + 9) = .ok (.athrow, 1)) (hn3 : names.length ≤ 3) (hw : (rest.map fun v => v.category).sum ≤ 8) :
    W p l e (rmK 7 1 6) s m args below meth c H locs 0 0 (vx_MQ below (QrW g s.heap.size S none) (XrW g s.heap.size S E0 none) args s 1 6 (Aw ixC g s.heap.size)) (F0 m pc ls rest) := by
  refine vx_throwS F.1 F.2.1 hl9 F.2.2.2.1 hcls hnames (F.2.2.2.2 _ (wsU_in hk)) (F.2.2.2.2 _ (wsU_in hini)) hstr (fun w hw => ?_) hot hE.1 hE.2.1 B.2.2.2.1 (hsz.trans F.2.2.1.symm) d0 d3 d4 d6 d9 (fun x hx => (hno x hx).elim) (by show _ < 7; omega) (by show _ ≤ 280; omega) (by decide) (by decide) hlocks (fun t ha hz hk => ?_) B.2.2.2.1.2.2 (by decide) (by decide)
  · rcases hat w hw with h | h
    · exact F.2.2.2.2 _ (wsU_in h)
    · have h1 := B.2.2.2.2 w h
      have h2 := (List.mem_filter.mp h).2
      cases w <;> first | (simp [isNest] at h2; done) | exact va_Nw.use rfl h1 | exact h1
  · refine ⟨(), rfl, ⟨rfl, B.2.1.kept fun k q hq => hk q.1 (B.2.1 k q hq).lt⟩, ⟨Nat.le_trans B.2.2.2.1.1 hz, fun q h1 h2 => ?_⟩⟩
    rw [hk q (Nat.lt_of_lt_of_le h1 B.2.2.2.1.1)]
    exact B.2.2.2.1.2.1 q h1 h2
end Xr
theorem exA_hyphen : ∀ w ∈ vx_atS RX3 154 "java/lang/ArrayIndexOutOfBoundsException" ["java/lang/IndexOutOfBoundsException", "java/lang/RuntimeException", "java/lang/Exception"], w ∈ TBg ∨ w ∈ nestW := by decide +kernel
theorem exO_hyphen : ∀ w ∈ Cond.classLink RX3 150 "java/lang/ArrayIndexOutOfBoundsException" :: Cond.initialized "java/lang/ArrayIndexOutOfBoundsException" :: vx_atS RX3 154 "java/lang/ArrayIndexOutOfBoundsException" ["java/lang/IndexOutOfBoundsException", "java/lang/RuntimeException", "java/lang/Exception"], vx_ot w = true := by decide +kernel
theorem exA_cut : ∀ w ∈ vx_atS RX3 154 "java/lang/ArrayIndexOutOfBoundsException" ["java/lang/IndexOutOfBoundsException", "java/lang/RuntimeException", "java/lang/Exception"], w ∈ TBg ∨ w ∈ nestW := exA_hyphen
theorem exO_cut : ∀ w ∈ Cond.classLink RX3 150 "java/lang/ArrayIndexOutOfBoundsException" :: Cond.initialized "java/lang/ArrayIndexOutOfBoundsException" :: vx_atS RX3 154 "java/lang/ArrayIndexOutOfBoundsException" ["java/lang/IndexOutOfBoundsException", "java/lang/RuntimeException", "java/lang/Exception"], vx_ot w = true := exO_hyphen
theorem exA_strain : ∀ w ∈ vx_atS RX3 169 "java/lang/ArithmeticException" ["java/lang/RuntimeException", "java/lang/Exception"], w ∈ TBg ∨ w ∈ nestW := by decide +kernel
theorem exO_strain : ∀ w ∈ Cond.classLink RX3 165 "java/lang/ArithmeticException" :: Cond.initialized "java/lang/ArithmeticException" :: vx_atS RX3 169 "java/lang/ArithmeticException" ["java/lang/RuntimeException", "java/lang/Exception"], vx_ot w = true := by decide +kernel
