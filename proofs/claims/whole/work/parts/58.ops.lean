/-! the beginning, and clear() -/
theorem R_start {S M : mem} (a1 : S 3 0 4 = 0) (a2 : ∀ v i, v < 4 → i < 60 → S 7 v i = 0) (a3 : ∀ v, v < 4 → S 2 v 5 = 0 ∧ S 2 v 6 = 0 ∧ S 2 v 7 = 0) (a4 : S 3 0 5 = 0 ∧ S 3 0 6 = 0 ∧ S 3 0 7 = 2000 ∧ S 3 0 8 = 0) (a5 : S 0 0 3 = 0 ∧ S 0 0 5 = 0 ∧ S 0 0 7 = 2 ∧ S 0 0 8 = 3 ∧ S 0 0 10 = 0)
    (c1 : M 0 0 1 = 0 ∧ M 0 0 9 = 0 ∧ M 0 0 10 = 0 ∧ M 0 0 17 = 2000 ∧ M 0 0 18 = 0 ∧ M 0 0 22 = 0 ∧ M 0 0 26 = 0 ∧ M 0 0 28 = 2 ∧ M 0 0 29 = 3 ∧ M 0 0 30 = -1) (c2 : ∀ v, v < 4 → M 15 0 v = 0 ∧ M 16 0 v = 0) : R 0 S M := by
  obtain ⟨c11, c12, c13, c14, c15, c16, c17, c18, c19, c20⟩ := c1
  refine ⟨⟨a1, c11, by omega⟩, fun i hi => by omega, fun i hi => by omega, fun i hi => by omega, ⟨fun v i _ hi => by omega, fun v i hv _ hi => a2 v i hv hi⟩, fun v hv => (a3 v hv).1, fun v hv => ?_, ?_, Or.inl ⟨a4.2.2.2, c15⟩, ⟨0, by omega, a5.1, c16, fun p hp => by omega⟩, ⟨⟨0, by omega, a5.2.1, c17, fun j hj => by omega⟩, ?_⟩, ⟨0, by omega, a5.2.2.2.2, Or.inr ⟨rfl, c20⟩, fun j hj => by omega⟩⟩
  · obtain ⟨-, b1, b2⟩ := a3 v hv
    obtain ⟨d1, d2⟩ := c2 v hv
    rw [b1, b2, d1, d2]
    exact ⟨rfl, ⟨0, by omega, by omega, rfl⟩, rfl, Or.inl rfl⟩
  · obtain ⟨b1, b2, b3, b4⟩ := a4
    unfold G6
    rw [b1, b2, b3, c12, c13, c14]
    exact ⟨rfl, rfl, ⟨0, by omega, by omega, rfl⟩, rfl, ⟨2000, by omega, by omega, rfl⟩⟩
  · rw [a5.2.2.1, a5.2.2.2.1, c18, c19]
    exact ⟨rfl, ⟨2, by omega, by omega, rfl⟩, rfl, ⟨3, by omega, by omega, rfl⟩⟩
theorem b_fresh54 {n i : Nat} {M : mem} (hi : i < 4) : b_X4_fresh_54 n (nI i, M) = some (.inl (nI (i + 1), mup (mup M 15 0 i 0) 16 0 i 0)) := by
  obtain ⟨hp, hc⟩ := nI_in' hi (by omega)
  simp [b_X4_fresh_54, nI_lt4 hi, grd, hp, hc, hi, nI_1, nar01 (Or.inl rfl)]
theorem freshM {n : Nat} (hn : 10 ≤ n) (M : mem) : ∃ M', f_X4_fresh n M = some M' ∧ (M' 0 0 1 = 0 ∧ M' 0 0 9 = 0 ∧ M' 0 0 10 = 0 ∧ M' 0 0 17 = 2000 ∧ M' 0 0 18 = 0 ∧ M' 0 0 22 = 0 ∧ M' 0 0 26 = 0 ∧ M' 0 0 28 = 2 ∧ M' 0 0 29 = 3 ∧ M' 0 0 30 = -1) ∧ ∀ v, v < 4 → M' 15 0 v = 0 ∧ M' 16 0 v = 0 := by
  obtain ⟨k, rfl⟩ : ∃ k, n = k + 1 + 1 + 1 + 1 + 1 := ⟨n - 5, by omega⟩
  unfold f_X4_fresh
  have e0 : ∀ X : mem, ((0 : Int32), X) = (nI 0, X) := fun _ => rfl
  rw [e0, lp_go (b_fresh54 (by omega)), lp_go (b_fresh54 (by omega)), lp_go (b_fresh54 (by omega)), lp_go (b_fresh54 (by omega))]
  have e1 : ∀ (n : Nat) (X : mem), b_X4_fresh_54 n (nI (3 + 1), X) = some (.inr X) := fun n X => by simp [b_X4_fresh_54, show (4 : Int32) ≤ nI 4 by decide]
  refine ⟨_, lp_end (e1 _ _), by simp [mup_at], fun v hv => ?_⟩
  rcases (show v = 0 ∨ v = 1 ∨ v = 2 ∨ v = 3 by omega) with rfl | rfl | rfl | rfl <;> simp [mup_at]
theorem emptyC {n v : Nat} (hn : 70 ≤ n) (S : mem) : ∃ S', f_X2_empty n S v = some S' ∧ (∀ i, i < 60 → S' 7 v i = 0) ∧ (S' 2 v 5 = 0 ∧ S' 2 v 6 = 0 ∧ S' 2 v 7 = 0) ∧ ∀ a b c, ¬ (a = 7 ∧ b = v) → ¬ (a = 2 ∧ b = v) → S' a b c = S a b c := by
  unfold f_X2_empty
  refine lp_up (I := fun i (q : Int32 × mem) => q.1 = nI i ∧ (∀ j, j < i → q.2 7 v j = 0) ∧ ∀ a b c, ¬ (a = 7 ∧ b = v) → q.2 a b c = S a b c) _ 60 ?_ ?_ n 0 (0, S) (by omega) (by omega) ⟨rfl, fun j hj => by omega, fun a b c _ => rfl⟩
  · rintro i ⟨x, T⟩ hi ⟨h1, h2, h3⟩
    left
    dsimp only at h1 h2 h3
    subst h1
    obtain ⟨hp, hc⟩ := nI_in' hi (by omega)
    have hle : ¬ (60 : Int32) ≤ nI i := fun q => absurd ((nI_leI (a := 60) (by omega) (by omega)).mp q) (by omega)
    refine ⟨(nI (i + 1), mup T 7 v i 0), by simp [b_X2_empty_2, hle, grd, hp, hc, hi, nI_1], rfl, fun j hj => ?_, fun a b c hab => ?_⟩
    · by_cases e : j = i
      · subst e; simp [mup_at]
      · simp [mup_at, e]; exact h2 j (by omega)
    · show mup T 7 v i 0 a b c = S a b c
      rw [mup_at, if_neg (fun q => hab ⟨q.1, q.2.1⟩)]
      exact h3 a b c hab
  · rintro ⟨x, T⟩ ⟨h1, h2, h3⟩
    dsimp only at h1 h2 h3
    subst h1
    refine ⟨_, by simp [b_X2_empty_2, show (60 : Int32) ≤ nI 60 by decide]; rfl, fun i hi => ?_, ?_, fun a b c ha hb => ?_⟩
    · simp [mup_at]; exact h2 i hi
    · simp [mup_at]
    · rw [mup_at, if_neg (fun q => hb ⟨q.1, q.2.1⟩), mup_at, if_neg (fun q => hb ⟨q.1, q.2.1⟩), mup_at, if_neg (fun q => hb ⟨q.1, q.2.1⟩)]
      exact h3 a b c ha
theorem op_clear {n N : Nat} (hn : 100 ≤ n) {S M : mem} (h : R N S M) : op2 (f_X3_clear n S) (f_X4_clear n M) := by
  obtain ⟨hS, hM, hN⟩ := h.1
  obtain ⟨M', e1, c1, c2⟩ := freshM (n := n) (by omega) (mup M 0 0 0 0)
  have key : ∃ r : Int32 × mem, f_X3_clear n S = some r ∧ (r.1 = nI N ∧ R 0 r.2 M') := by
    unfold f_X3_clear
    refine lp_up (I := fun i (q : Int32 × mem) => q.1 = nI i ∧ ∀ v, v < i → (∀ j, j < 60 → q.2 7 v j = 0) ∧ (q.2 2 v 5 = 0 ∧ q.2 2 v 6 = 0 ∧ q.2 2 v 7 = 0)) (Q := fun r : Int32 × mem => r.1 = nI N ∧ R 0 r.2 M') 4 ?_ ?_ n 0 (0, S) (by omega) (by omega) ⟨rfl, fun v hv => by omega⟩
    · rintro i ⟨x, T⟩ hi ⟨h1, h2⟩
      left
      dsimp only at h1 h2
      subst h1
      obtain ⟨hp, hc⟩ := nI_in' hi (by omega)
      obtain ⟨T', t1, t2, t3, t4⟩ := emptyC (n := n) (v := i) (by omega) T
      refine ⟨(nI (i + 1), T'), by simp [b_X3_clear_7, nI_lt4 hi, grd, hp, hc, hi, cal, t1, nI_1], rfl, fun v hv => ?_⟩
      by_cases e : v = i
      · subst e; exact ⟨t2, t3⟩
      · have q := h2 v (by omega)
        refine ⟨fun j hj => ?_, ?_⟩
        · show T' 7 v j = 0
          rw [t4 7 v j (by omega) (by omega)]; exact q.1 j hj
        · show T' 2 v 5 = 0 ∧ T' 2 v 6 = 0 ∧ T' 2 v 7 = 0
          rw [t4 2 v 5 (by omega) (by omega), t4 2 v 6 (by omega) (by omega), t4 2 v 7 (by omega) (by omega)]; exact q.2
    · rintro ⟨x, T⟩ ⟨h1, h2⟩
      dsimp only at h1 h2
      subst h1
      refine ⟨(nI N, _), by simp [b_X3_clear_7, show (4 : Int32) ≤ nI 4 by decide, cal, f_X0_empty, hS]; rfl, rfl, R_start ?_ (fun v i hv hi => ?_) (fun v hv => ?_) ?_ ?_ c1 c2⟩
      · simp [mup_at]
      · simp [mup_at]; exact (h2 v hv).1 i hi
      · simp [mup_at]; exact (h2 v hv).2
      · simp [mup_at]
      · simp [mup_at]
  obtain ⟨⟨r, S'⟩, k1, k2, k3⟩ := key
  dsimp only at k2 k3
  subst k2
  exact ⟨nI N, S', M', 0, k1, by simp [f_X4_clear, cal, e1, hM], k3⟩
