/-! Rows over the world -/
section Rw
variable {p : Program} {l : Launch} {e : Env} {R : Room} {s : State} {m : MethodId} {args : Array Value} {below : List Frame} {meth : Method} {c : Code} {H : Heap} {locs : List Loc} {cells slots : Nat} {Q : State → Prop}
variable {cc : ByteArray} {pc nL : Nat} {ls : Array Slot} {rest : List Value} {Ts : List Cond} {own : String} {ix : List (Nat × Nat)} {en : enT} {g : cx} {S : mem} {A : Nat → Prop}
theorem w_get (F : CallFix p m c cc nL s args Ts own) (B : Wd ix en g S A s H locs) {k i : Nat} (hi : (k, i) ∈ ix) {C : String} {T : u_T} {N ci index : Nat} {fs : List Value} (he : en g k i (S k i) = .inr (ci, fs)) (hc : vwCl[ci]? = some (C, T, N)) (hin : ∀ w ∈ u_ws C T N, w ∈ Ts) (j : Nat) (hj : j < N)
    (hlink : (Cond.fieldLink own index (T j).1 (T j).2.1 (T j).2.2.1).before args s = true) {v : Value} (hv : fs[j]? = some v) (hdg : decode cc pc = .ok (.getfield index, 3))
    (kk : W p l e R s m args below meth c H locs cells slots Q (F0 m (pc + 3) ls (v :: rest))) : W p l e R s m args below meth c H locs cells slots Q (F0 m pc ls (.ref (g.2.2 k i) :: rest)) := by
  obtain ⟨q, -, hq⟩ := cwG_at en g S hi
  rw [he] at hq
  exact va_get F.1 F.2.1 F.2.2.2.2 hin F.2.2.2.1 B.1 B.2.1 q hq hc j hj hlink (fun _ h9 => h9) hv hdg kk
theorem w_getN (F : CallFix p m c cc nL s args Ts own) (B : Wd ix en g S A s H locs) {k i : Nat} (hi : (k, i) ∈ ix) {C host : String} {T : u_T} {N ci index : Nat} {fs : List Value} (he : en g k i (S k i) = .inr (ci, fs)) (hc : vwCl[ci]? = some (C, T, N)) (hin : ∀ w ∈ u_ws C T N, w ∈ Ts) (j : Nat) (hj : j < N)
    (hlink : Cond.fieldLinkNest own index (T j).1 (T j).2.1 (T j).2.2.1 host ∈ nestW) {v : Value} (hv : fs[j]? = some v) (hdg : decode cc pc = .ok (.getfield index, 3))
    (kk : W p l e R s m args below meth c H locs cells slots Q (F0 m (pc + 3) ls (v :: rest))) : W p l e R s m args below meth c H locs cells slots Q (F0 m pc ls (.ref (g.2.2 k i) :: rest)) := by
  obtain ⟨q, -, hq⟩ := cwG_at en g S hi
  rw [he] at hq
  exact va_getN F.1 F.2.1 F.2.2.2.2 hin F.2.2.2.1 B.1 B.2.1 q hq hc j hj (va_Nw.use rfl (B.2.2.2.2 _ hlink)) (fun _ h9 => h9) hv hdg kk
theorem w_put (F : CallFix p m c cc nL s args Ts own) (nd : ix.Nodup) (B : Wd ix en g S A s H locs) {k i : Nat} (hi : (k, i) ∈ ix) {C : String} {T : u_T} {N ci index : Nat} {fs : List Value} {x : Int32} (j : Nat) (hj : j < N) (he : en g k i (S k i) = .inr (ci, fs)) (he2 : en g k i (upd (S k i) j x) = .inr (ci, fs.set j (.int x))) (hc : vwCl[ci]? = some (C, T, N)) (hin : ∀ w ∈ u_ws C T N, w ∈ Ts) (ty0 : Nat → FieldType) (hty : ∀ k, k < N → parseFieldDescriptor (T k).2.2.1 = some (ty0 k)) (hnm : ∀ a, a < N → ∀ b, b < N → a ≠ b → (T a).2.1 ≠ (T b).2.1)
    (hlink : (Cond.fieldLink own index (T j).1 (T j).2.1 (T j).2.2.1).before args s = true) (hfin : (T j).2.2.2 = false) (hn : narrow (ty0 j) (.int x) = .int x) (hfit : fits (ty0 j) (.int x) = true) (hl : j < fs.length) (hdg : decode cc pc = .ok (.putfield index, 3))
    (kk : ∀ (H : Heap) (locs : List Loc), Wd ix en g (mup S k i j x) A s H locs → W p l e R s m args below meth c H locs cells slots Q (F0 m (pc + 3) ls rest)) : W p l e R s m args below meth c H locs cells slots Q (F0 m pc ls (.int x :: .ref (g.2.2 k i) :: rest)) := by
  obtain ⟨q, hqi, hq⟩ := cwG_at en g S hi
  rw [he] at hq
  refine va_put F.1 F.2.1 F.2.2.2.2 hin ty0 hty hnm F.2.2.2.1 B.1 B.2.1 B.2.2.1 B.2.2.2.1 q hq hc j hj hlink (fun _ h9 => h9) hfin (hty j hj) hn hfit hl hdg (fun H1 locs1 hP hD hS => ?_)
  rw [← he2, cwG_set nd en g S hqi j x] at hP hD
  exact kk H1 locs1 ⟨B.1, hP, hD, hS, B.2.2.2.2⟩
theorem w_putN (F : CallFix p m c cc nL s args Ts own) (nd : ix.Nodup) (B : Wd ix en g S A s H locs) {k i : Nat} (hi : (k, i) ∈ ix) {C host : String} {T : u_T} {N ci index : Nat} {fs : List Value} {x : Int32} (j : Nat) (hj : j < N) (he : en g k i (S k i) = .inr (ci, fs)) (he2 : en g k i (upd (S k i) j x) = .inr (ci, fs.set j (.int x))) (hc : vwCl[ci]? = some (C, T, N)) (hin : ∀ w ∈ u_ws C T N, w ∈ Ts) (ty0 : Nat → FieldType) (hty : ∀ k, k < N → parseFieldDescriptor (T k).2.2.1 = some (ty0 k)) (hnm : ∀ a, a < N → ∀ b, b < N → a ≠ b → (T a).2.1 ≠ (T b).2.1)
    (hlink : Cond.fieldLinkNest own index (T j).1 (T j).2.1 (T j).2.2.1 host ∈ nestW) (hfin : (T j).2.2.2 = false) (hn : narrow (ty0 j) (.int x) = .int x) (hfit : fits (ty0 j) (.int x) = true) (hl : j < fs.length) (hdg : decode cc pc = .ok (.putfield index, 3))
    (kk : ∀ (H : Heap) (locs : List Loc), Wd ix en g (mup S k i j x) A s H locs → W p l e R s m args below meth c H locs cells slots Q (F0 m (pc + 3) ls rest)) : W p l e R s m args below meth c H locs cells slots Q (F0 m pc ls (.int x :: .ref (g.2.2 k i) :: rest)) := by
  obtain ⟨q, hqi, hq⟩ := cwG_at en g S hi
  rw [he] at hq
  refine va_putN F.1 F.2.1 F.2.2.2.2 hin ty0 hty hnm F.2.2.2.1 B.1 B.2.1 B.2.2.1 B.2.2.2.1 q hq hc j hj (va_Nw.use rfl (B.2.2.2.2 _ hlink)) (fun _ h9 => h9) hfin (hty j hj) hn hfit hl hdg (fun H1 locs1 hP hD hS => ?_)
  rw [← he2, cwG_set nd en g S hqi j x] at hP hD
  exact kk H1 locs1 ⟨B.1, hP, hD, hS, B.2.2.2.2⟩
theorem w_iald (F : CallFix p m c cc nL s args Ts own) (B : Wd ix en g S A s H locs) {k i : Nat} (hi : (k, i) ∈ ix) {n : Nat} (he : en g k i (S k i) = .inl (g.2.1 0, n, .inl (S k i))) {x : Int32} (hin : ¬ (x < 0 ∨ n ≤ x.toNatClampNeg)) (hdg : decode cc pc = .ok (.iaload, 1))
    (kk : W p l e R s m args below meth c H locs cells slots Q (F0 m (pc + 1) ls (.int (S k i x.toNatClampNeg) :: rest))) : W p l e R s m args below meth c H locs cells slots Q (F0 m pc ls (.int x :: .ref (g.2.2 k i) :: rest)) := by
  obtain ⟨q, -, hq⟩ := cwG_at en g S hi
  rw [he] at hq
  exact va_iald F.1 F.2.1 B.1 B.2.1 q 0 hq rfl hin hdg kk
theorem w_zald (F : CallFix p m c cc nL s args Ts own) (B : Wd ix en g S A s H locs) {k i : Nat} (hi : (k, i) ∈ ix) {n : Nat} (he : en g k i (S k i) = .inl (g.2.1 1, n, .inl (S k i))) {x : Int32} (hin : ¬ (x < 0 ∨ n ≤ x.toNatClampNeg)) (hdg : decode cc pc = .ok (.baload, 1))
    (kk : W p l e R s m args below meth c H locs cells slots Q (F0 m (pc + 1) ls (.int (S k i x.toNatClampNeg) :: rest))) : W p l e R s m args below meth c H locs cells slots Q (F0 m pc ls (.int x :: .ref (g.2.2 k i) :: rest)) := by
  obtain ⟨q, -, hq⟩ := cwG_at en g S hi
  rw [he] at hq
  exact va_zald F.1 F.2.1 B.1 B.2.1 q 1 hq rfl hin hdg kk
theorem w_aald (F : CallFix p m c cc nL s args Ts own) (B : Wd ix en g S A s H locs) {k i : Nat} (hi : (k, i) ∈ ix) {n t k2 : Nat} {C : String} (he : en g k i (S k i) = .inl (g.2.1 t, n, .inr (.inr (.inr (.inr (fun j => some (g.2.2 k2 j))))))) (ht : (tysA g)[t]? = some (g.2.1 t, .object C)) {x : Int32} (hin : ¬ (x < 0 ∨ n ≤ x.toNatClampNeg)) (hdg : decode cc pc = .ok (.aaload, 1))
    (kk : W p l e R s m args below meth c H locs cells slots Q (F0 m (pc + 1) ls (.ref (g.2.2 k2 x.toNatClampNeg) :: rest))) : W p l e R s m args below meth c H locs cells slots Q (F0 m pc ls (.int x :: .ref (g.2.2 k i) :: rest)) := by
  obtain ⟨q, -, hq⟩ := cwG_at en g S hi
  rw [he] at hq
  exact va_aldq F.1 F.2.1 B.1 B.2.1 q t hq ht hin hdg kk
theorem w_iast (F : CallFix p m c cc nL s args Ts own) (nd : ix.Nodup) (B : Wd ix en g S A s H locs) {k i : Nat} (hi : (k, i) ∈ ix) {n : Nat} (he : ∀ r : Nat → Int32, en g k i r = .inl (g.2.1 0, n, .inl r)) {x v : Int32} (hin : ¬ (x < 0 ∨ n ≤ x.toNatClampNeg)) (hdg : decode cc pc = .ok (.iastore, 1))
    (kk : ∀ (H : Heap) (locs : List Loc), Wd ix en g (mup S k i x.toNatClampNeg v) A s H locs → W p l e R s m args below meth c H locs cells slots Q (F0 m (pc + 1) ls rest)) : W p l e R s m args below meth c H locs cells slots Q (F0 m pc ls (.int v :: .int x :: .ref (g.2.2 k i) :: rest)) := by
  obtain ⟨q, hqi, hq⟩ := cwG_at en g S hi
  rw [he] at hq
  refine va_iast F.1 F.2.1 B.1 B.2.1 B.2.2.1 B.2.2.2.1 q 0 hq rfl hin hdg (fun H1 locs1 hP hD hS => ?_)
  rw [← he, cwG_set nd en g S hqi] at hP hD
  exact kk H1 locs1 ⟨B.1, hP, hD, hS, B.2.2.2.2⟩
theorem w_zast (F : CallFix p m c cc nL s args Ts own) (nd : ix.Nodup) (B : Wd ix en g S A s H locs) {k i : Nat} (hi : (k, i) ∈ ix) {n : Nat} (he : ∀ r : Nat → Int32, en g k i r = .inl (g.2.1 1, n, .inl r)) {x v : Int32} (hin : ¬ (x < 0 ∨ n ≤ x.toNatClampNeg)) (hdg : decode cc pc = .ok (.bastore, 1))
    (kk : ∀ (H : Heap) (locs : List Loc), Wd ix en g (mup S k i x.toNatClampNeg (vp_nar .boolean v)) A s H locs → W p l e R s m args below meth c H locs cells slots Q (F0 m (pc + 1) ls rest)) : W p l e R s m args below meth c H locs cells slots Q (F0 m pc ls (.int v :: .int x :: .ref (g.2.2 k i) :: rest)) := by
  obtain ⟨q, hqi, hq⟩ := cwG_at en g S hi
  rw [he] at hq
  refine va_zast F.1 F.2.1 B.1 B.2.1 B.2.2.1 B.2.2.2.1 q 1 hq rfl hin hdg (fun H1 locs1 hP hD hS => ?_)
  rw [← he, cwG_set nd en g S hqi] at hP hD
  exact kk H1 locs1 ⟨B.1, hP, hD, hS, B.2.2.2.2⟩
/-- contracts over the world: the start, and the ends -/
def PcW (ix : List (Nat × Nat)) (en : enT) (g : cx) (S : mem) (sz : Nat) (av : List Value) : Array Value → State → Prop := va_Pc av (fun U => U.heap.size = sz ∧ Wu ix en g S U)
abbrev QiW (ix : List (Nat × Nat)) (en : enT) (g : cx) (sz : Nat) (r : Int32) (S' : mem) : Array Value → State → Outcome → State → Prop := va_Qi (fun (x : Int32) (_ : Unit) => x = r) (fun _ t => Wu ix en g S' t) (Aw ix g sz)
abbrev QvW (ix : List (Nat × Nat)) (en : enT) (g : cx) (sz : Nat) (S' : mem) : Array Value → State → Outcome → State → Prop := va_Qv (fun (_ : Unit) => True) (fun _ t => Wu ix en g S' t) (Aw ix g sz)
theorem PcW.blind {sz : Nat} {av : List Value} : FrameBlind (PcW ix en g S sz av) := fun a U f mk h => ⟨h.1, h.2.1, h.2.2.calling⟩
theorem w_iret {S' : mem} {v : Int32} (F : CallFix p m c cc nL s args Ts own) (hr : meth.sig.returnType = some .int) (hlocks : meth.locks = false) (B : Wd ix en g S' (Aw ix g s.heap.size) s H locs) (hdg : decode cc pc = .ok (.ireturn, 1)) :
    W p l e R s m args below meth c H locs cells slots (MQ below (QiW ix en g s.heap.size v S') args s cells slots (Aw ix g s.heap.size)) (F0 m pc ls [.int v]) :=
  W.iret F.1 F.2.1 hr (fun t ht hW => ⟨⟨v, (), rfl, rfl, B.u ht hW⟩, B.2.2.2.1.F ht⟩) B.2.2.2.1.2.2 hdg hlocks
theorem w_zret {S' : mem} {v : Int32} (F : CallFix p m c cc nL s args Ts own) (hr : meth.sig.returnType = some .boolean) (hlocks : meth.locks = false) (hv : v = 0 ∨ v = 1) (B : Wd ix en g S' (Aw ix g s.heap.size) s H locs) (hdg : decode cc pc = .ok (.ireturn, 1)) :
    W p l e R s m args below meth c H locs cells slots (MQ below (QiW ix en g s.heap.size v S') args s cells slots (Aw ix g s.heap.size)) (F0 m pc ls [.int v]) :=
  W.zret F.1 F.2.1 hr (by rcases hv with rfl | rfl <;> rfl) (fun t ht hW => ⟨⟨v, (), rfl, rfl, B.u ht hW⟩, B.2.2.2.1.F ht⟩) B.2.2.2.1.2.2 hdg hlocks
theorem w_vret {S' : mem} (F : CallFix p m c cc nL s args Ts own) (hr : meth.sig.returnType = none) (hlocks : meth.locks = false) (B : Wd ix en g S' (Aw ix g s.heap.size) s H locs) (hdg : decode cc pc = .ok (.return_, 1)) :
    W p l e R s m args below meth c H locs cells slots (MQ below (QvW ix en g s.heap.size S') args s cells slots (Aw ix g s.heap.size)) (F0 m pc ls []) :=
  W.vret F.1 F.2.1 hr (fun t ht hW => ⟨⟨(), rfl, trivial, B.u ht hW⟩, B.2.2.2.1.F ht⟩) B.2.2.2.1.2.2 hdg hlocks
end Rw
