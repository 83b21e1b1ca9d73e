/-! The start of a contract, and calls, over the world -/
def rmD (d : Nat) : Room := { frames := d, cells := 0, slots := 0, locals := 40 * d }
theorem met_intro {l : Launch} {y : MethodName} {cc : ByteArray} {maxL : Nat} {ret : Option FieldType} {rm : Room} {ix : List (Nat × Nat)} {en : enT} {g : cx} {S : mem} {sz : Nat} {Qc : Nat → Array Value → State → Outcome → State → Prop} {free : Nat → Addr → Prop} (av : List Value) (own : String) (ho : y.cls = own) (hy : plainName y.cls = true) (hfit : (lg_sl av).length ≤ maxL)
    (body : ∀ (p : Program) (e : Env) (s : State) (m : MethodId) (args : Array Value) (below : List Frame) (meth : Method) (c : Code) (H : Heap) (locs : List Loc), CallFix p m c cc maxL s args (wsU y cc maxL ret) own → meth.sig.returnType = ret → meth.locks = false → Wd ix en g S (Aw ix g s.heap.size) s H locs → ∀ ls, lv_has ls maxL (lv_args 0 av) →
      W p l e rm s m args below meth c H locs 0 0 (MQ below (Qc s.heap.size) args s 0 0 (free s.heap.size)) (F0 m 0 ls [])) :
    Met l y (wsU y cc maxL ret) rm (PcW ix en g S sz av) (Qc sz) 0 0 (free sz) := by
  refine Met.ofW (cc := cc) (maxL := maxL) (ret := ret) hy rfl ?_
  intro p e s m args below meth c s₁ B hml hv
  obtain ⟨rfl, hsz, hU⟩ := hv
  subst hsz
  have hts := atoms_spec (ws := wsU y cc maxL ret) B.pre
  have hown : s.vm.findClass own = some m.cls := by rw [← ho]; exact findClass_of_methodNamed B.named
  have hl := lv_entry av (n := maxL) hfit
  rw [lg_entry_eq]
  exact body p e s m _ below meth c s.heap [] ⟨B.exec, B.bytes, hml, hown, hts⟩ B.returns B.notSynchronized (hU.d rfl) _ hl
section Cl
variable {p : Program} {l : Launch} {e : Env} {R : Room} {s : State} {m : MethodId} {args : Array Value} {below : List Frame} {meth : Method} {c : Code} {H : Heap} {locs : List Loc} {cells slots : Nat} {Q : State → Prop}
variable {cc : ByteArray} {pc nL : Nat} {ls : Array Slot} {rest st0 : List Value} {own : String} {ix : List (Nat × Nat)} {en : enT} {g : cx} {S S' : mem} {y y' : MethodName} {ret r' : Option FieldType} {b' : ByteArray} {n' d' : Nat} {As : List Value} {k i index : Nat} {C host : String} {T : u_T} {N ci : Nat} {fs : List Value} {r : Int32}
theorem w_back (B : Wd ix en g S (Aw ix g s.heap.size) s H locs) {t : State} {H1 : Heap} {locs1 : List Loc} (ht : t.heap = H1) (hu : Wu ix en g S' t) (hS : va_S (Aw ix g s.heap.size) s.heap H1 locs1) : Wd ix en g S' (Aw ix g s.heap.size) s H1 locs1 :=
  ⟨B.1, by rw [← ht]; exact hu.2.1, cwG_ad B.2.2.1, hS, B.2.2.2.2⟩
theorem w_awA (B : Wd ix en g S (Aw ix g s.heap.size) s H locs) (q : Nat) (h : Aw ix g H.size q) : Aw ix g s.heap.size q := h.elim Or.inl (fun h => Or.inr (Nat.le_trans B.2.2.2.1.1 h))
theorem w_prV (B : Wd ix en g S (Aw ix g s.heap.size) s H locs) (hi : (k, i) ∈ ix) (he : en g k i (S k i) = .inr (ci, fs)) (hc : vwCl[ci]? = some (C, T, N)) : PreV s H C (g.2.2 k i) (PcW ix en g S H.size (.ref (g.2.2 k i) :: As)) As := by
  obtain ⟨q, -, hq⟩ := cwG_at en g S hi
  rw [he] at hq
  exact ⟨PcW.blind, va_recv B.1 B.2.1 hc hq, fun U hU hW => ⟨rfl, by rw [hU], B.u hU hW⟩⟩
theorem w_prS (B : Wd ix en g S (Aw ix g s.heap.size) s H locs) : PreS s H (PcW ix en g S H.size As) As := ⟨PcW.blind, fun U hU hW => ⟨rfl, by rw [hU], B.u hU hW⟩⟩
/-- what a call of y' by its name costs and needs -/
def okD (y' : MethodName) (n' d' nn : Nat) (R : Room) : Prop := (y'.cls ≠ "java/lang/invoke/MethodHandle" ∧ y'.cls ≠ "java/lang/invoke/VarHandle" ∧ (parseMethodDescriptor y'.desc).map (fun d => d.parameters.length) = some nn) ∧ (d' + 1 ≤ R.frames ∧ 8 + (n' + 11) + 40 * d' ≤ R.locals ∧ cells ≤ R.cells ∧ slots ≤ R.slots)
theorem w_cbB {nn : Nat} (F : CallFix p m c cc nL s args (wsU y cc nL ret) own) (hcd : Cond.code y' b' n' r' ∈ TBg) (hlk : Cond.methodLink own index y' ∈ TBg) (hini : Cond.initialized y'.cls ∈ TBg) (hd : okD (cells := cells) (slots := slots) y' n' d' nn R) : CallB R s args own index y' b' n' r' (wsU y' b' n' r') (rmD d') 0 0 nn :=
  callB_of nn F.2.2.2.2 (wsU_good hcd) rfl rfl rfl (F.2.2.2.2 _ (wsU_in hini)) (F.2.2.2.2 _ (wsU_in hlk)) hd.1 ⟨hd.2.1, hd.2.2.1⟩
theorem w_cbN {nn : Nat} (F : CallFix p m c cc nL s args (wsU y cc nL ret) own) (B : Wd ix en g S (Aw ix g s.heap.size) s H locs) (hcd : Cond.code y' b' n' r' ∈ TBg) (hlk : Cond.methodLinkNest own index y' host ∈ nestW) (hini : Cond.initialized y'.cls ∈ TBg) (hd : okD (cells := cells) (slots := slots) y' n' d' nn R) : va_CN R s args own index y' host b' n' r' (wsU y' b' n' r') (rmD d') 0 0 nn :=
  va_cnB nn F.2.2.2.2 (wsU_good hcd) rfl rfl rfl (B.2.2.2.2 _ hlk) (F.2.2.2.2 _ (wsU_in hini)) hd.1 ⟨hd.2.1, hd.2.2.1⟩
theorem w_callVi {nn : Nat} (F : CallFix p m c cc nL s args (wsU y cc nL ret) own) (B : Wd ix en g S (Aw ix g s.heap.size) s H locs) (hM : Met l y' (wsU y' b' n' r') (rmD d') (PcW ix en g S H.size (.ref (g.2.2 k i) :: As)) (QiW ix en g H.size r S') 0 0 (Aw ix g H.size))
    (hcd : Cond.code y' b' n' r' ∈ TBg) (hlk : Cond.methodLink own index y' ∈ TBg) (hini : Cond.initialized y'.cls ∈ TBg) (hins : Cond.instanceMethod y' ∈ TBg) (hsel : Cond.selects C y' y' ∈ TBg) (hi : (k, i) ∈ ix) (he : en g k i (S k i) = .inr (ci, fs)) (hc : vwCl[ci]? = some (C, T, N)) (hd : okD (cells := cells) (slots := slots) y' n' d' nn R) (hn : As.length = nn) (hsz : ls.size = nL) (hst : st0 = As.reverse ++ .ref (g.2.2 k i) :: rest) (hw : (rest.map fun v => v.category).sum ≤ 8) (hdg : decode cc pc = .ok (.invokevirtual index, 3))
    (kk : ∀ (H : Heap) (locs : List Loc), Wd ix en g S' (Aw ix g s.heap.size) s H locs → W p l e R s m args below meth c H locs cells slots Q (F0 m (pc + 3) ls (.int r :: rest))) : W p l e R s m args below meth c H locs cells slots Q (F0 m pc ls st0) := by
  refine va_calli (va_runV (As := As) (rest := rest) F hM ⟨w_cbB F hcd hlk hini hd, F.2.2.2.2 _ (wsU_in hins), F.2.2.2.2 _ (wsU_in hsel)⟩ (w_prV B hi he hc) rfl hn hsz hst (lv_room hw) hdg ⟨hd.2.2.2.1, hd.2.2.2.2⟩) B.2.2.2.1 (fun q _ h => w_awA B q h) (w_awA B) (fun r1 u t H1 locs1 ht _ hp hB _ _ hS => ?_)
  subst hp
  exact kk H1 locs1 (w_back B ht hB hS)
theorem w_callVv {nn : Nat} (F : CallFix p m c cc nL s args (wsU y cc nL ret) own) (B : Wd ix en g S (Aw ix g s.heap.size) s H locs) (hM : Met l y' (wsU y' b' n' r') (rmD d') (PcW ix en g S H.size (.ref (g.2.2 k i) :: As)) (QvW ix en g H.size S') 0 0 (Aw ix g H.size))
    (hcd : Cond.code y' b' n' r' ∈ TBg) (hlk : Cond.methodLink own index y' ∈ TBg) (hini : Cond.initialized y'.cls ∈ TBg) (hins : Cond.instanceMethod y' ∈ TBg) (hsel : Cond.selects C y' y' ∈ TBg) (hi : (k, i) ∈ ix) (he : en g k i (S k i) = .inr (ci, fs)) (hc : vwCl[ci]? = some (C, T, N)) (hd : okD (cells := cells) (slots := slots) y' n' d' nn R) (hn : As.length = nn) (hsz : ls.size = nL) (hst : st0 = As.reverse ++ .ref (g.2.2 k i) :: rest) (hw : (rest.map fun v => v.category).sum ≤ 8) (hdg : decode cc pc = .ok (.invokevirtual index, 3))
    (kk : ∀ (H : Heap) (locs : List Loc), Wd ix en g S' (Aw ix g s.heap.size) s H locs → W p l e R s m args below meth c H locs cells slots Q (F0 m (pc + 3) ls rest)) : W p l e R s m args below meth c H locs cells slots Q (F0 m pc ls st0) := by
  refine va_callv (va_runV (As := As) (rest := rest) F hM ⟨w_cbB F hcd hlk hini hd, F.2.2.2.2 _ (wsU_in hins), F.2.2.2.2 _ (wsU_in hsel)⟩ (w_prV B hi he hc) rfl hn hsz hst (lv_room hw) hdg ⟨hd.2.2.2.1, hd.2.2.2.2⟩) B.2.2.2.1 (fun q _ h => w_awA B q h) (w_awA B) (fun u t H1 locs1 ht _ hp hB _ _ hS => ?_)
  exact kk H1 locs1 (w_back B ht hB hS)
theorem w_callNi {nn : Nat} (F : CallFix p m c cc nL s args (wsU y cc nL ret) own) (B : Wd ix en g S (Aw ix g s.heap.size) s H locs) (hM : Met l y' (wsU y' b' n' r') (rmD d') (PcW ix en g S H.size (.ref (g.2.2 k i) :: As)) (QiW ix en g H.size r S') 0 0 (Aw ix g H.size))
    (hcd : Cond.code y' b' n' r' ∈ TBg) (hlk : Cond.methodLinkNest own index y' host ∈ nestW) (hini : Cond.initialized y'.cls ∈ TBg) (hins : Cond.instanceMethod y' ∈ TBg) (hsel : Cond.selects C y' y' ∈ TBg) (hi : (k, i) ∈ ix) (he : en g k i (S k i) = .inr (ci, fs)) (hc : vwCl[ci]? = some (C, T, N)) (hd : okD (cells := cells) (slots := slots) y' n' d' nn R) (hn : As.length = nn) (hsz : ls.size = nL) (hst : st0 = As.reverse ++ .ref (g.2.2 k i) :: rest) (hw : (rest.map fun v => v.category).sum ≤ 8) (hdg : decode cc pc = .ok (.invokevirtual index, 3))
    (kk : ∀ (H : Heap) (locs : List Loc), Wd ix en g S' (Aw ix g s.heap.size) s H locs → W p l e R s m args below meth c H locs cells slots Q (F0 m (pc + 3) ls (.int r :: rest))) : W p l e R s m args below meth c H locs cells slots Q (F0 m pc ls st0) := by
  refine va_calli (va_runVN (As := As) (rest := rest) F hM ⟨w_cbN F B hcd hlk hini hd, F.2.2.2.2 _ (wsU_in hins), F.2.2.2.2 _ (wsU_in hsel)⟩ (w_prV B hi he hc) rfl hn hsz hst (lv_room hw) hdg ⟨hd.2.2.2.1, hd.2.2.2.2⟩) B.2.2.2.1 (fun q _ h => w_awA B q h) (w_awA B) (fun r1 u t H1 locs1 ht _ hp hB _ _ hS => ?_)
  subst hp
  exact kk H1 locs1 (w_back B ht hB hS)
theorem w_callNv {nn : Nat} (F : CallFix p m c cc nL s args (wsU y cc nL ret) own) (B : Wd ix en g S (Aw ix g s.heap.size) s H locs) (hM : Met l y' (wsU y' b' n' r') (rmD d') (PcW ix en g S H.size (.ref (g.2.2 k i) :: As)) (QvW ix en g H.size S') 0 0 (Aw ix g H.size))
    (hcd : Cond.code y' b' n' r' ∈ TBg) (hlk : Cond.methodLinkNest own index y' host ∈ nestW) (hini : Cond.initialized y'.cls ∈ TBg) (hins : Cond.instanceMethod y' ∈ TBg) (hsel : Cond.selects C y' y' ∈ TBg) (hi : (k, i) ∈ ix) (he : en g k i (S k i) = .inr (ci, fs)) (hc : vwCl[ci]? = some (C, T, N)) (hd : okD (cells := cells) (slots := slots) y' n' d' nn R) (hn : As.length = nn) (hsz : ls.size = nL) (hst : st0 = As.reverse ++ .ref (g.2.2 k i) :: rest) (hw : (rest.map fun v => v.category).sum ≤ 8) (hdg : decode cc pc = .ok (.invokevirtual index, 3))
    (kk : ∀ (H : Heap) (locs : List Loc), Wd ix en g S' (Aw ix g s.heap.size) s H locs → W p l e R s m args below meth c H locs cells slots Q (F0 m (pc + 3) ls rest)) : W p l e R s m args below meth c H locs cells slots Q (F0 m pc ls st0) := by
  refine va_callv (va_runVN (As := As) (rest := rest) F hM ⟨w_cbN F B hcd hlk hini hd, F.2.2.2.2 _ (wsU_in hins), F.2.2.2.2 _ (wsU_in hsel)⟩ (w_prV B hi he hc) rfl hn hsz hst (lv_room hw) hdg ⟨hd.2.2.2.1, hd.2.2.2.2⟩) B.2.2.2.1 (fun q _ h => w_awA B q h) (w_awA B) (fun u t H1 locs1 ht _ hp hB _ _ hS => ?_)
  exact kk H1 locs1 (w_back B ht hB hS)
theorem w_callSi {nn : Nat} (F : CallFix p m c cc nL s args (wsU y cc nL ret) own) (B : Wd ix en g S (Aw ix g s.heap.size) s H locs) (hM : Met l y' (wsU y' b' n' r') (rmD d') (PcW ix en g S H.size As) (QiW ix en g H.size r S') 0 0 (Aw ix g H.size))
    (hcd : Cond.code y' b' n' r' ∈ TBg) (hlk : Cond.methodLink own index y' ∈ TBg) (hini : Cond.initialized y'.cls ∈ TBg) (hstt : Cond.static y' ∈ TBg) (hd : okD (cells := cells) (slots := slots) y' n' d' nn R) (hn : As.length = nn) (hsz : ls.size = nL) (hst : st0 = As.reverse ++ rest) (hw : (rest.map fun v => v.category).sum ≤ 8) (hdg : decode cc pc = .ok (.invokestatic index, 3))
    (kk : ∀ (H : Heap) (locs : List Loc), Wd ix en g S' (Aw ix g s.heap.size) s H locs → W p l e R s m args below meth c H locs cells slots Q (F0 m (pc + 3) ls (.int r :: rest))) : W p l e R s m args below meth c H locs cells slots Q (F0 m pc ls st0) := by
  refine va_calli (va_runS (As := As) (rest := rest) F hM ⟨w_cbB F hcd hlk hini hd, F.2.2.2.2 _ (wsU_in hstt)⟩ (w_prS B) rfl hn hsz hst (lv_room hw) hdg ⟨hd.2.2.2.1, hd.2.2.2.2⟩) B.2.2.2.1 (fun q _ h => w_awA B q h) (w_awA B) (fun r1 u t H1 locs1 ht _ hp hB _ _ hS => ?_)
  subst hp
  exact kk H1 locs1 (w_back B ht hB hS)
theorem w_callSNi {nn : Nat} (F : CallFix p m c cc nL s args (wsU y cc nL ret) own) (B : Wd ix en g S (Aw ix g s.heap.size) s H locs) (hM : Met l y' (wsU y' b' n' r') (rmD d') (PcW ix en g S H.size As) (QiW ix en g H.size r S') 0 0 (Aw ix g H.size))
    (hcd : Cond.code y' b' n' r' ∈ TBg) (hlk : Cond.methodLinkNest own index y' host ∈ nestW) (hini : Cond.initialized y'.cls ∈ TBg) (hstt : Cond.static y' ∈ TBg) (hd : okD (cells := cells) (slots := slots) y' n' d' nn R) (hn : As.length = nn) (hsz : ls.size = nL) (hst : st0 = As.reverse ++ rest) (hw : (rest.map fun v => v.category).sum ≤ 8) (hdg : decode cc pc = .ok (.invokestatic index, 3))
    (kk : ∀ (H : Heap) (locs : List Loc), Wd ix en g S' (Aw ix g s.heap.size) s H locs → W p l e R s m args below meth c H locs cells slots Q (F0 m (pc + 3) ls (.int r :: rest))) : W p l e R s m args below meth c H locs cells slots Q (F0 m pc ls st0) := by
  refine va_calli (va_runSN (As := As) (rest := rest) F hM ⟨w_cbN F B hcd hlk hini hd, F.2.2.2.2 _ (wsU_in hstt), trivial⟩ (w_prS B) rfl hn hsz hst (lv_room hw) hdg ⟨hd.2.2.2.1, hd.2.2.2.2⟩) B.2.2.2.1 (fun q _ h => w_awA B q h) (w_awA B) (fun r1 u t H1 locs1 ht _ hp hB _ _ hS => ?_)
  subst hp
  exact kk H1 locs1 (w_back B ht hB hS)
end Cl
/-! The pure side's words: guards, calls, loops -/
def grd {β : Type} (c : Prop) [Decidable c] (x : Option β) : Option β := if c then x else none
theorem grd_some {β : Type} {c : Prop} [Decidable c] {x : Option β} {r : β} (h : grd c x = some r) : c ∧ x = some r := by
  unfold grd at h
  split at h
  · exact ⟨by assumption, h⟩
  · cases h
def cal {α β : Type} (x : Option α) (k : α → Option β) : Option β := match x with
  | none => none
  | some a => k a
theorem cal_some {α β : Type} {x : Option α} {k : α → Option β} {r : β} (h : cal x k = some r) : ∃ a, x = some a ∧ k a = some r := by
  cases x with
  | none => cases h
  | some a => exact ⟨a, rfl, h⟩
def lp {σ ρ : Type} (body : σ → Option (σ ⊕ ρ)) : Nat → σ → Option ρ
  | 0, _ => none
  | n + 1, q => match body q with
    | none => none
    | some (.inl q') => lp body n q'
    | some (.inr r) => some r
def lpN {σ ρ : Type} (body : σ → Option (σ ⊕ ρ)) (n : Nat) (r : ρ) (t : σ ⊕ ρ) : Prop := match t with
  | .inl q' => lp body n q' = some r
  | .inr r' => r' = r
theorem lp_zero {σ ρ : Type} {body : σ → Option (σ ⊕ ρ)} {q : σ} {r : ρ} (h : lp body 0 q = some r) : False := by cases h
theorem lp_succ {σ ρ : Type} {body : σ → Option (σ ⊕ ρ)} {n : Nat} {q : σ} {r : ρ} (h : lp body (n + 1) q = some r) : ∃ t, body q = some t ∧ lpN body n r t := by
  rw [lp] at h
  cases hb : body q with
  | none => rw [hb] at h; cases h
  | some t =>
    rw [hb] at h
    refine ⟨t, rfl, ?_⟩
    cases t with
    | inl q' => exact h
    | inr r' => exact Option.some.inj h
