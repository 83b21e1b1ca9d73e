section Cm
variable {n N T P : Nat} {S M : mem}
theorem standsM (hn : 10 ≤ n) (hk : Kw S M P T) {p q : Nat} (hp : p < P) (hq : q ≤ T + 1) : f_X4_stands n M (nI p) (nI q) = some (if stB S T p q = true then 1 else 0) := by
  obtain ⟨k1, k2, -, -, -, k6, k3, k8⟩ := hk
  obtain ⟨l1, l2, l3, -, -, l4, -, -, l5, -⟩ := k3 p hp
  obtain ⟨hpp, hcp⟩ := nI_in' (i := p) (N := 30) (by omega) (by omega)
  have hp30 : p < 30 := by omega
  have stop : ∀ m x, 1 ≤ m → lp (b_X4_stands_26 n M (nI p) (nI q)) m (0, x) = some 0 := by
    intro m x hm
    obtain ⟨m, rfl⟩ : ∃ m', m = m' + 1 := ⟨m - 1, by omega⟩
    exact lp_end (by simp [b_X4_stands_26, grd])
  have e2 : M 0 0 26 + 2 = nI (T + 2) := by rw [k6]; exact nI_add T 2
  by_cases e : q + lnp S p ≤ T + 2
  · have hlt : ¬ nI (T + 2) < nI (q + lnp S p) := nI_nlt (by omega) (by omega)
    have key : ∀ (j m k : Nat), k + j = lnp S p → j + 1 < m → (∀ t, t < k → S 15 0 (q + t) = nI (D (sgp S p) t)) → lp (b_X4_stands_26 n M (nI p) (nI q)) m (1, nI k) = some (if stB S T p q = true then 1 else 0) := by
      intro j
      induction j with
      | zero =>
        intro m k hk hm hq
        obtain ⟨m, rfl⟩ : ∃ m', m = m' + 1 := ⟨m - 1, by omega⟩
        have hk' : k = lnp S p := by omega
        subst hk'
        have hst : stB S T p q = true := decide_eq_true ⟨e, hq⟩
        rw [if_pos hst]
        exact lp_end (by simp [b_X4_stands_26, grd, hpp, hcp, hp30, l4, Int32.le_refl])
      | succ j ih =>
        intro m k hk hm hq
        obtain ⟨m, rfl⟩ : ∃ m', m = m' + 1 := ⟨m - 1, by omega⟩
        have hle : ¬ nI (lnp S p) ≤ nI k := nI_ge (by omega) (by omega)
        have hs := k8 n (q + k) (by omega)
        have i6 : (6 : Int32) * nI p + nI k = nI (6 * p + k) := by rw [show (6 : Int32) = nI 6 from rfl, pk_mul, nI_add]
        obtain ⟨hp6, hc6⟩ := nI_in' (i := 6 * p + k) (N := 180) (by omega) (by omega)
        have hl6 : 6 * p + k < 180 := by omega
        have e24 := l5 k (by omega)
        by_cases c : S 15 0 (q + k) = nI (D (sgp S p) k)
        · rw [lp_go (q' := (1, nI (k + 1))) (by simp [b_X4_stands_26, grd, hpp, hcp, hp30, l4, hle, nI_add, cal, hs, i6, hp6, hc6, hl6, e24, c, nI_1])]
          exact ih m (k + 1) (by omega) (by omega) (fun t ht => by
            by_cases et : t = k
            · subst et; exact c
            · exact hq t (by omega))
        · rw [lp_go (q' := (0, nI (k + 1))) (by simp [b_X4_stands_26, grd, hpp, hcp, hp30, l4, hle, nI_add, cal, hs, i6, hp6, hc6, hl6, e24, c, nI_1]), stop m _ (by omega)]
          rw [if_neg (fun h => c ((of_decide_eq_true h).2 k (by omega)))]
    have := key (lnp S p) n 0 (by omega) (by omega) (fun t h => by omega)
    rw [nI_0] at this
    simp [f_X4_stands, grd, hpp, hcp, hp30, l4, e2, nI_add, hlt, this]
  · have hlt : nI (T + 2) < nI (q + lnp S p) := nI_lt (by omega) (by omega)
    rw [if_neg (fun h => e (of_decide_eq_true h).1)]
    simp [f_X4_stands, grd, hpp, hcp, hp30, l4, e2, nI_add, hlt, stop n 0 (by omega)]
theorem greatM (hn : 100 ≤ n) (hk : Kw S M P T) {w : Nat} (hw : w ≤ T) : f_X4_greatest n M (nI w) = some (nI (gp S T (w + 1) P)) := by
  obtain ⟨k1, k2, -, k4, -, k6, k3, -⟩ := id hk
  have e2 : M 0 0 26 + 2 = nI (T + 2) := by rw [k6]; exact nI_add T 2
  have key : ∃ r, lp (b_X4_greatest_4 n M (nI w)) n (0, 0) = some r ∧ r = nI (gp S T (w + 1) P) := by
    refine lp_up (I := fun p (x : Int32 × Int32) => x = (nI (gp S T (w + 1) p), nI p)) (Q := fun r => r = nI (gp S T (w + 1) P)) P ?_ ?_ n 0 (0, 0) (by omega) (by omega) rfl
    · rintro p x hp rfl
      left
      have hle : ¬ nI P ≤ nI p := nI_ge hp (by omega)
      obtain ⟨l1, l2, l3, -, -, l4, -, -, -, l6⟩ := k3 p hp
      obtain ⟨hpp, hcp⟩ := nI_in' (i := p) (N := 30) (by omega) (by omega)
      have hp30 : p < 30 := by omega
      have row : ∃ r, lp (b_X4_greatest_15 n M (nI w) (nI p)) n (nI (gp S T (w + 1) p), 0) = some r ∧ r = .inl (nI (gp S T (w + 1) (p + 1)), nI (p + 1)) := by
        refine lp_up (I := fun q (x : Int32 × Int32) => x = (nI (max (gp S T (w + 1) p) (gq S T p (w + 1) q)), nI q)) (Q := fun r : (Int32 × Int32) ⊕ Int32 => r = .inl (nI (gp S T (w + 1) (p + 1)), nI (p + 1))) (T + 2) ?_ ?_ n 0 (nI (gp S T (w + 1) p), 0) (by omega) (by omega) (by rw [gq, Nat.max_zero]; rfl)
        · rintro q x hq rfl
          left
          have hq2 : ¬ nI (T + 2) ≤ nI q := nI_ge hq (by omega)
          refine ⟨_, ?_, rfl⟩
          rw [gq, ← Nat.max_assoc]
          have b1 := gp_le (S := S) (T := T) (w + 1) p
          have b2 := gq_le (S := S) (T := T) p (w + 1) q
          generalize hm : max (gp S T (w + 1) p) (gq S T p (w + 1) q) = m
          have bm : m ≤ 9 := by omega
          by_cases c1 : q ≤ w + 1
          · have d1 : nI (w + 1) - nI q = nI (w + 1 - q) := pk_sub c1
            have d0 : ¬ nI (w + 1 - q) < 0 := nI_pos (by omega)
            by_cases c2 : w + 1 ≤ q + lnp S p
            · have d2 : ¬ nI (lnp S p) < nI (w + 1 - q) := nI_nlt (by omega) (by omega)
              have hs := standsM (n := n) (by omega) hk hp (q := q) (by omega)
              by_cases c3 : stB S T p q = true
              · rw [if_pos c3] at hs
                have i7 : (7 : Int32) * nI p + nI (w + 1 - q) = nI (7 * p + (w + 1 - q)) := by rw [show (7 : Int32) = nI 7 from rfl, pk_mul, nI_add]
                obtain ⟨hp7, hc7⟩ := nI_in' (i := 7 * p + (w + 1 - q)) (N := 210) (by omega) (by omega)
                have hl7 : 7 * p + (w + 1 - q) < 210 := by omega
                have e25 := l6 (w + 1 - q) (by omega)
                have hd := Nat.mod_lt (wpp S p / 10 ^ (w + 1 - q)) (show 0 < 10 by omega)
                have hg := greaterM (n := n) (M := M) (a := m) (b := wpp S p / 10 ^ (w + 1 - q) % 10) (by omega) (by omega)
                rw [show Ev S T p q (w + 1) = wpp S p / 10 ^ (w + 1 - q) % 10 by unfold Ev; rw [if_pos ⟨c3, c1, c2⟩]]
                simp [b_X4_greatest_15, e2, hq2, d1, d0, grd, hpp, hcp, hp30, l4, d2, cal, hs, i7, hp7, hc7, hl7, e25, hg, nI_1]
              · rw [if_neg c3] at hs
                rw [show Ev S T p q (w + 1) = 0 by unfold Ev; rw [if_neg (fun h => c3 h.1)], Nat.max_zero]
                simp [b_X4_greatest_15, e2, hq2, d1, d0, grd, hpp, hcp, hp30, l4, d2, cal, hs, nI_1]
            · have d2 : nI (lnp S p) < nI (w + 1 - q) := nI_lt (by omega) (by omega)
              rw [show Ev S T p q (w + 1) = 0 by unfold Ev; rw [if_neg (fun h => c2 h.2.2)], Nat.max_zero]
              simp [b_X4_greatest_15, e2, hq2, d1, d0, grd, hpp, hcp, hp30, l4, d2, nI_1]
          · have d0 : nI (w + 1) - nI q < 0 := pk_sneg (by omega) (by omega)
            rw [show Ev S T p q (w + 1) = 0 by unfold Ev; rw [if_neg (fun h => c1 h.2.1)], Nat.max_zero]
            simp [b_X4_greatest_15, e2, hq2, d0, nI_1]
        · rintro x rfl
          exact ⟨_, by simp [b_X4_greatest_15, e2, Int32.le_refl, nI_1]; rfl, rfl⟩
      obtain ⟨r, r1, rfl⟩ := row
      exact ⟨_, by simp [b_X4_greatest_4, k4, hle, r1], rfl⟩
    · rintro x rfl
      exact ⟨_, by simp [b_X4_greatest_4, k4, Int32.le_refl], rfl⟩
  obtain ⟨r, r1, rfl⟩ := key
  exact r1
theorem R.kw (h : R N S M) : ∃ P T, S 0 0 5 = nI T ∧ T ≤ 24 ∧ Kw (mup (mup S 15 0 0 27) 15 0 (T + 1) 27) M P T := by
  obtain ⟨P, p1, p2, p3, p4⟩ := h.2.2.2.2.2.2.2.2.2.1
  obtain ⟨⟨T, t1, t2, t3, t4⟩, -⟩ := h.2.2.2.2.2.2.2.2.2.2.1
  refine ⟨P, T, t2, t1, p1, t1, by simp [mup_at]; exact p2, p3, by simp [mup_at]; exact t2, t3, fun p hp => ?_, fun n i hi => ?_⟩
  · obtain ⟨ln, sg, w, a1, a2, a3, a4, a5, a6, a7, a8, a9, a10⟩ := p4 p hp
    have hw : w < 2 ^ 31 := by
      have := p7 (show ln + 1 ≤ 7 by omega)
      omega
    have e1 : lnp (mup (mup S 15 0 0 27) 15 0 (T + 1) 27) p = ln := by unfold lnp; simp [mup_at]; rw [a5, nI_clamp (by omega)]
    have e2 : sgp (mup (mup S 15 0 0 27) 15 0 (T + 1) 27) p = sg := by unfold sgp; simp [mup_at]; rw [a7, nI_clamp (by omega)]
    have e3 : wpp (mup (mup S 15 0 0 27) 15 0 (T + 1) 27) p = w := by unfold wpp; simp [mup_at]; rw [a8, nI_clamp hw]
    rw [e1, e2, e3]
    exact ⟨a1, a2, a3, hw, by simp [mup_at]; exact a5, a6, by simp [mup_at]; exact a7, by simp [mup_at]; exact a8, a9, a10⟩
  · by_cases i0 : i = 0
    · subst i0
      simp [f_X4_signAt, nI_0, mup_at]
    · have nz : ¬ nI i = 0 := nI_ne0 (by omega) (by omega)
      by_cases iT : i = T + 1
      · subst iT
        have hle : ¬ nI (T + 1) ≤ nI T := nI_ge (by omega) (by omega)
        simp [f_X4_signAt, nz, t3, hle, mup_at]
      · have hle : nI i ≤ nI T := nI_le (by omega) (by omega)
        obtain ⟨j, rfl⟩ : ∃ j, i = j + 1 := ⟨i - 1, by omega⟩
        obtain ⟨hp, hc⟩ := nI_in' (i := j) (N := 24) (by omega) (by omega)
        have e := (t4 j (by omega)).1
        have ne : ¬ j = T := by omega
        simp [f_X4_signAt, nz, t3, hle, nI_pred, grd, hp, hc, show j < 24 by omega, mup_at, ne, e]
theorem endc {T b w : Nat} (hT : T ≤ 24) (hb : b ≤ 24) (hw : w ≤ 100) : nI T - nI b < nI w ↔ T < w + b := by
  by_cases h : b ≤ T
  · rw [pk_sub h, nI_ltI (by omega) (by omega)]
    omega
  · have h1 : nI T - nI b < 0 := pk_sneg (by omega) (by omega)
    exact ⟨fun _ => by omega, fun _ => Int32.lt_of_lt_of_le h1 (nI_pos' (by omega))⟩
/-- the memories after the cuts are found -/
theorem R.cuts {S' M' : mem} {c : Nat} (h : R N S M) (hs : ∀ a b d, ¬ (a = 15 ∧ b = 0 ∧ d = 0) → ¬ (a = 15 ∧ b = 0 ∧ S 0 0 5 = nI (d - 1) ∧ 1 ≤ d ∧ d ≤ 25) → ¬ a = 16 → ¬ a = 17 → ¬ (a = 0 ∧ b = 0 ∧ d = 10) → S' a b d = S a b d) (hm : ∀ a b d, ¬ a = 31 → ¬ (a = 0 ∧ b = 0 ∧ d = 30) → M' a b d = M a b d) (hc : c ≤ 24) (h1 : S' 0 0 10 = nI c) (h2 : M' 0 0 30 = nI c) (h3 : ∀ j, j < c → S' 17 0 j = M' 31 0 j) : R N S' M' := by
  obtain ⟨h0, h1', h2', h3', h4, h4s, h5, h6, h7, h8, h9, -⟩ := h
  have g9 : G9 S' M' := by
    obtain ⟨⟨T, t1, t2, t3, t4⟩, s1, s2, s3, s4⟩ := h9
    have e7 : S' 0 0 7 = S 0 0 7 := hs _ _ _ (by omega) (by omega) (by omega) (by omega) (by omega)
    have e8 : S' 0 0 8 = S 0 0 8 := hs _ _ _ (by omega) (by omega) (by omega) (by omega) (by omega)
    refine ⟨⟨T, t1, (hs _ _ _ (by omega) (by omega) (by omega) (by omega) (by omega)).trans t2, (hm _ _ _ (by omega) (by omega)).trans t3, fun j hj => ?_⟩, ?_, ?_, ?_, ?_⟩
    · rw [hm 27 0 j (by omega) (by omega), hs 15 0 (j + 1) (by omega) (fun q => by
        have := q.2.2.1
        rw [t2] at this
        have := (nI_eq (by omega) (by omega)).mp this
        omega) (by omega) (by omega) (by omega)]
      exact t4 j hj
    · rw [e7, hm 0 0 28 (by omega) (by omega)]; exact s1
    · rw [e7]; exact s2
    · rw [e8, hm 0 0 29 (by omega) (by omega)]; exact s3
    · rw [e8]; exact s4
  refine ⟨h0.cg ?_ ?_, h1'.cg ?_ ?_ ?_ ?_ ?_ ?_ ?_ ?_, h2'.cg ?_ ?_ ?_ ?_, h3'.cg ?_ ?_, h4.cg ?_ ?_ ?_ ?_ ?_ ?_ ?_ ?_, h4s.cg ?_ ?_, h5.cg ?_ ?_ ?_ ?_, h6.cg ?_ ?_ ?_ ?_ ?_ ?_, h7.cg ?_ ?_ ?_ ?_ ?_ ?_ ?_ ?_ ?_ ?_, h8.cg ?_ ?_ ?_ ?_ ?_ ?_ ?_ ?_, g9, ⟨c, hc, h1, Or.inl h2, h3⟩⟩ <;> (intros; first | exact hs _ _ _ (by omega) (by omega) (by omega) (by omega) (by omega) | exact hm _ _ _ (by omega) (by omega))
theorem Kw.cg {M' : mem} (h : Kw S M P T) (hm : ∀ a b d, ¬ a = 31 → ¬ (a = 0 ∧ b = 0 ∧ d = 30) → M' a b d = M a b d) : Kw S M' P T := by
  obtain ⟨k1, k2, k3, k4, k5, k6, k7, k8⟩ := h
  refine ⟨k1, k2, k3, (hm _ _ _ (by omega) (by omega)).trans k4, k5, (hm _ _ _ (by omega) (by omega)).trans k6, fun p hp => ?_, fun n i hi => ?_⟩
  · obtain ⟨a1, a2, a3, a4, a5, a6, a7, a8, a9, a10⟩ := k7 p hp
    exact ⟨a1, a2, a3, a4, a5, (hm _ _ _ (by omega) (by omega)).trans a6, a7, a8, fun j hj => (hm _ _ _ (by omega) (by omega)).trans (a9 j hj), fun j hj => (hm _ _ _ (by omega) (by omega)).trans (a10 j hj)⟩
  · have : f_X4_signAt n M' (nI i) = f_X4_signAt n M (nI i) := by
      unfold f_X4_signAt
      rw [hm 0 0 26 (by omega) (by omega), hm 27 0 _ (by omega) (by omega)]
    rw [this]
    exact k8 n i hi
theorem op_cuts (hn : 100 ≤ n) (h : R N S M) : op2 (f_X3_cuts n S) (f_X4_cuts n M) := by
  have hT := h.thr 0
  obtain ⟨P, T, t1, t2, hk⟩ := hT.kw
  obtain ⟨S2, s1, s2, s3⟩ := weighC (n := n) hn hk S t1 rfl
  obtain ⟨-, a1, ⟨a, a2, a3, a4⟩, b1, ⟨b, b2, b3, b4⟩⟩ := h.2.2.2.2.2.2.2.2.2.2.1
  rw [a4] at a1
  rw [b4] at b1
  have hS2 : ∀ x y d, ¬ (x = 15 ∧ y = 0 ∧ d = 0) → ¬ (x = 15 ∧ y = 0 ∧ d = T + 1) → ¬ x = 16 → S2 x y d = S x y d := fun x y d q1 q2 q3 => by
    rw [s2 _ _ _ q3, mup_at, if_neg q2, mup_at, if_neg q1]
  have e7 : S2 0 0 7 = nI a := (hS2 _ _ _ (by omega) (by omega) (by omega)).trans a4
  have m26 : M 0 0 26 = nI T := by
    have := hk.2.2.2.2.2.1
    simpa [mup_at] using this
  have e0 : T + 1 - b ≤ 24 := by omega
  have key : ∃ r r', lp (b_X0_findCuts_14 n) n (nI a, mup S2 0 0 10 0) = some r ∧ lp (b_X4_cuts_15 n) n (nI a, mup (mup M 0 0 0 0) 0 0 30 0) = some r' ∧ r.1 = r'.1 ∧ R N r.2 r'.2 := by
    refine lp_two (I := fun w (x x' : Int32 × mem) => a ≤ w ∧ ∃ A B c, x = (nI w, A) ∧ x' = (nI w, B) ∧ (∀ x y d, ¬ x = 17 → ¬ (x = 0 ∧ y = 0 ∧ d = 10) → A x y d = S2 x y d) ∧ (∀ x y d, ¬ x = 31 → ¬ (x = 0 ∧ y = 0 ∧ d = 30) → B x y d = mup M 0 0 0 0 x y d) ∧ c ≤ w - a ∧ A 0 0 10 = nI c ∧ B 0 0 30 = nI c ∧ ∀ j, j < c → A 17 0 j = B 31 0 j) (Q := fun (r r' : Int32 × mem) => r.1 = r'.1 ∧ R N r.2 r'.2) (max a (T + 1 - b)) ?_ ?_ n a (nI a, mup S2 0 0 10 0) (nI a, mup (mup M 0 0 0 0) 0 0 30 0) (by omega) (by omega) ⟨by omega, _, _, 0, rfl, rfl, fun x y d q1 q2 => by rw [mup_at, if_neg q2], fun x y d q1 q2 => by rw [mup_at, if_neg q2], by omega, by simp [mup_at, nI_0], by simp [mup_at, nI_0], fun j hj => by omega⟩
    · rintro w x x' hw ⟨haw, A, B, c, rfl, rfl, gA, gB, hc, c1, c2, c3⟩
      left
      have wT : w + b ≤ T := by omega
      have hA5 : A 0 0 5 = nI T := (gA _ _ _ (by omega) (by omega)).trans ((hS2 _ _ _ (by omega) (by omega) (by omega)).trans t1)
      have hA8 : A 0 0 8 = nI b := (gA _ _ _ (by omega) (by omega)).trans ((hS2 _ _ _ (by omega) (by omega) (by omega)).trans b4)
      have hB26 : B 0 0 26 = nI T := (gB _ _ _ (by omega) (by omega)).trans (by simp [mup_at]; exact m26)
      have hB29 : B 0 0 29 = nI b := (gB _ _ _ (by omega) (by omega)).trans (by simp [mup_at]; exact b1.symm)
      have hlt : ¬ nI T - nI b < nI w := fun q => by have := (endc t2 (by omega) (by omega)).mp q; omega
      obtain ⟨hp, hcl⟩ := nI_in' (i := w + 1) (N := 27) (by omega) (by omega)
      have hg := greatM (n := n) hn (hk.cg gB) (w := w) (by omega)
      have e16 : A 16 0 (w + 1) = nI (gp (mup (mup S 15 0 0 27) 15 0 (T + 1) 27) T (w + 1) P) := (gA _ _ _ (by omega) (by omega)).trans (s3 _ (by omega))
      have bg := gp_le (S := mup (mup S 15 0 0 27) 15 0 (T + 1) 27) (T := T) (w + 1) P
      generalize gp (mup (mup S 15 0 0 27) 15 0 (T + 1) 27) T (w + 1) P = g at *
      have r2 : nI g - nI g / 2 * 2 = nI (g % 2) := pk_rem (a := g) (d := 2) (by omega) (by omega) (by omega)
      obtain ⟨hpc, hcc⟩ := nI_in' (i := c) (N := 24) (by omega) (by omega)
      by_cases e : g % 2 = 1
      · have e' : nI (g % 2) = 1 := by rw [e]; rfl
        refine ⟨(nI (w + 1), mup (mup A 17 0 c (nI w)) 0 0 10 (nI (c + 1))), (nI (w + 1), mup (mup B 31 0 c (nI w)) 0 0 30 (nI (c + 1))), ?_, ?_, by omega, _, _, c + 1, rfl, rfl, fun x y d q1 q2 => ?_, fun x y d q1 q2 => ?_, by omega, by simp [mup_at], by simp [mup_at], fun j hj => ?_⟩
        · simp only [b_X0_findCuts_14, hA5, hA8, hlt, if_false, nI_1, grd, hcl, e16, r2, e', c1, hcc, if_true]
          simp [hp, hpc, show w < 26 by omega, show c < 24 by omega]
        · simp only [b_X4_cuts_15, hB26, hB29, hlt, if_false, cal, hg, r2, e', if_true, grd, c2, hcc, nI_1]
          simp [hpc, show c < 24 by omega]
        · rw [mup_at, if_neg q2, mup_at, if_neg (fun q => q1 q.1)]; exact gA x y d q1 q2
        · rw [mup_at, if_neg q2, mup_at, if_neg (fun q => q1 q.1)]; exact gB x y d q1 q2
        · by_cases ej : j = c
          · subst ej; simp [mup_at]
          · simp [mup_at, ej]; exact c3 j (by omega)
      · have e' : ¬ nI (g % 2) = 1 := fun q => e ((nI_eq (b := 1) (by omega) (by omega)).mp q)
        refine ⟨(nI (w + 1), A), (nI (w + 1), B), ?_, ?_, by omega, A, B, c, rfl, rfl, gA, gB, by omega, c1, c2, c3⟩
        · simp only [b_X0_findCuts_14, hA5, hA8, hlt, if_false, nI_1, grd, hcl, e16, r2, e']
          simp [hp, show w < 26 by omega]
        · simp only [b_X4_cuts_15, hB26, hB29, hlt, if_false, cal, hg, r2, e', nI_1]
    · rintro x x' ⟨haw, A, B, c, rfl, rfl, gA, gB, hc, c1, c2, c3⟩
      have hA5 : A 0 0 5 = nI T := (gA _ _ _ (by omega) (by omega)).trans ((hS2 _ _ _ (by omega) (by omega) (by omega)).trans t1)
      have hA8 : A 0 0 8 = nI b := (gA _ _ _ (by omega) (by omega)).trans ((hS2 _ _ _ (by omega) (by omega) (by omega)).trans b4)
      have hB26 : B 0 0 26 = nI T := (gB _ _ _ (by omega) (by omega)).trans (by simp [mup_at]; exact m26)
      have hB29 : B 0 0 29 = nI b := (gB _ _ _ (by omega) (by omega)).trans (by simp [mup_at]; exact b1.symm)
      have hlt : nI T - nI b < nI (max a (T + 1 - b)) := (endc t2 (by omega) (by omega)).mpr (by omega)
      refine ⟨(nI c, A), (nI c, B), by simp only [b_X0_findCuts_14, hA5, hA8, hlt, if_true, c1], by simp only [b_X4_cuts_15, hB26, hB29, hlt, if_true, c2], rfl, hT.cuts (c := c) (fun x y d q1 q2 q3 q4 q5 => ?_) gB (by omega) c1 c2 c3⟩
      refine (gA x y d q4 q5).trans ?_
      refine hS2 x y d q1 (fun q => q2 ⟨q.1, q.2.1, ?_, by omega, by omega⟩) q3
      rw [t1, q.2.2]; rfl
  obtain ⟨⟨r, A⟩, ⟨r', B⟩, h1, h2, h3, h4⟩ := key
  dsimp only at h3 h4
  subst h3
  refine ⟨r, A, B, N, ?_, ?_, h4⟩
  · simp only [f_X3_cuts, f_X0_findCuts, s1, cal, e7, h1]
  · simp only [f_X4_cuts, ← a1, h2]
theorem op_cut (h : R N S M) (x : Int32) : opT S (f_X3_cut n S x) (f_X4_cut n M x) := by
  have hT := h.thr 0
  obtain ⟨c, c1, c2, c3, c4⟩ := h.2.2.2.2.2.2.2.2.2.2.2
  have m0 : mup M 0 0 0 0 0 0 0 = 0 := by simp [mup_at]
  have out : (x < 0 ∨ nI c ≤ x) → opT S (f_X3_cut n S x) (f_X4_cut n M x) := by
    intro hx
    have o1 : f_X3_isOutside n S x 0 (nI c - 1) = some 1 := by
      rcases hx with hx | hx
      · simp [f_X3_isOutside, hx]
      · by_cases h0 : x < 0
        · simp [f_X3_isOutside, h0]
        · have : ¬ x ≤ nI c - 1 := by
            cases c with
            | zero => exact fun q => h0 (Int32.lt_of_le_of_lt q (by decide))
            | succ c =>
              rw [nI_pred]
              exact fun q => absurd (Int32.le_trans hx q) (nI_ge (by omega) (by omega))
          simp [f_X3_isOutside, h0, this]
    have o2 : f_X4_lies n (mup M 0 0 0 0) x 0 (M 0 0 30 - 1) = some 0 := by
      by_cases h0 : x < 0
      · simp [f_X4_lies, h0]
      · have : M 0 0 30 - 1 < x := by
          rcases c3 with c3 | ⟨-, c3⟩
          · rw [c3]
            have hx : nI c ≤ x := by rcases hx with q | q; exact absurd q h0; exact q
            cases c with
            | zero => exact Int32.lt_of_lt_of_le (by decide) (Int32.not_lt.mp h0)
            | succ c =>
              rw [nI_pred]
              exact Int32.lt_of_lt_of_le (nI_lt (by omega) (by omega)) hx
          · rw [c3]
            exact Int32.lt_of_lt_of_le (by decide) (Int32.not_lt.mp h0)
        simp [f_X4_lies, h0, this]
    exact ⟨none, 0, _, N, by simp [f_X3_cut, c2, o1, cal], by simp [f_X4_cut, o2, cal], by simp [mup_at, ctR], fun x q => by simp at q, hT.thr 1⟩
  rcases pk_ix x (n := c) (by omega) with hx | hx | ⟨j, hj, rfl⟩
  · exact out (Or.inl hx)
  · exact out (Or.inr hx)
  · obtain ⟨hp, hc⟩ := nI_in' (i := j) (N := 24) (by omega) (by omega)
    have c3' : M 0 0 30 = nI c := by rcases c3 with q | ⟨q, -⟩; exact q; omega
    obtain ⟨d, rfl⟩ : ∃ d, c = d + 1 := ⟨c - 1, by omega⟩
    have h0 : ¬ nI j < 0 := nI_pos (by omega)
    have h1 : nI j ≤ nI d := nI_le (by omega) (by omega)
    have h2 : ¬ nI d < nI j := nI_nlt (by omega) (by omega)
    have o1 : f_X3_isOutside n S (nI j) 0 (nI (d + 1) - 1) = some 0 := by rw [nI_pred]; simp [f_X3_isOutside, h0, h1]
    have o2 : f_X4_lies n (mup M 0 0 0 0) (nI j) 0 (nI (d + 1) - 1) = some 1 := by rw [nI_pred]; simp [f_X4_lies, h0, h2]
    refine ⟨some (M 31 0 j), M 31 0 j, _, N, by simp [f_X3_cut, c2, o1, cal, grd, hp, hc, show j < 24 by omega, c4 j hj], by simp [f_X4_cut, c3', o2, cal, grd, hp, hc, show j < 24 by omega], m0, fun y q => (Option.some.inj q).symm, hT⟩
end Cm
