theorem setMelC {n f z : Nat} (hn : 100 ≤ n) (hfz : f + z ≤ 60) (hz : 1 ≤ z) (S : mem) : ∃ r : Int32 × mem, lp (b_X3_melisma_48 n (nI f) (nI z)) n (nI f, S) = some r ∧ (r.1 = S 3 0 5 + 1 ∧ (∀ j, f ≤ j → j < f + z → r.2 1 j 4 = nI f ∧ r.2 1 j 5 = nI (f + z - 1)) ∧ r.2 3 0 5 = S 3 0 5 + 1 ∧ r.2 3 0 8 = 0 ∧ ∀ a b c, ¬ (a = 1 ∧ f ≤ b ∧ b < f + z ∧ (c = 4 ∨ c = 5)) → ¬ (a = 3 ∧ b = 0 ∧ (c = 5 ∨ c = 8)) → r.2 a b c = S a b c) := by
  have e1 : nI f + nI z - 1 = nI (f + z - 1) := by
    rw [nI_add]
    obtain ⟨m, hm⟩ : ∃ m, f + z = m + 1 := ⟨f + z - 1, by omega⟩
    rw [hm, nI_pred]
    rfl
  refine lp_up (I := fun j (q : Int32 × mem) => f ≤ j ∧ q.1 = nI j ∧ (∀ t, f ≤ t → t < j → q.2 1 t 4 = nI f ∧ q.2 1 t 5 = nI (f + z - 1)) ∧ ∀ a b c, ¬ (a = 1 ∧ f ≤ b ∧ b < f + z ∧ (c = 4 ∨ c = 5)) → q.2 a b c = S a b c) (Q := fun r : Int32 × mem => r.1 = S 3 0 5 + 1 ∧ (∀ j, f ≤ j → j < f + z → r.2 1 j 4 = nI f ∧ r.2 1 j 5 = nI (f + z - 1)) ∧ r.2 3 0 5 = S 3 0 5 + 1 ∧ r.2 3 0 8 = 0 ∧ ∀ a b c, ¬ (a = 1 ∧ f ≤ b ∧ b < f + z ∧ (c = 4 ∨ c = 5)) → ¬ (a = 3 ∧ b = 0 ∧ (c = 5 ∨ c = 8)) → r.2 a b c = S a b c) (f + z) ?_ ?_ n f (nI f, S) (by omega) (by omega) ⟨by omega, rfl, fun t h1 h2 => by omega, fun a b c _ => rfl⟩
  · rintro j ⟨x, T⟩ hj ⟨h1, h2, h3, h4⟩
    left
    dsimp only at h2 h3 h4
    subst h2
    have hle : ¬ nI (f + z) ≤ nI j := fun q => absurd ((nI_leI (by omega) (by omega)).mp q) (by omega)
    obtain ⟨hp, hc⟩ := nI_in' (i := j) (N := 60) (by omega) (by omega)
    have hlt : j < 60 := by omega
    refine ⟨(nI (j + 1), mup (mup T 1 j 4 (nI f)) 1 j 5 (nI (f + z - 1))), ?_, by omega, rfl, fun t t1 t2 => ?_, fun a b c hab => ?_⟩
    · have e2 := e1
      rw [nI_add] at e2
      simp [b_X3_melisma_48, nI_add, hle, grd, hp, hc, hlt, nI_1, e2]
    · by_cases e : t = j
      · subst e; simp [mup_at]
      · simp [mup_at, e]; exact h3 t t1 (by omega)
    · show mup (mup T 1 j 4 (nI f)) 1 j 5 (nI (f + z - 1)) a b c = S a b c
      rw [mup_at, if_neg (fun q => hab ⟨q.1, by omega, by omega, Or.inr q.2.2⟩), mup_at, if_neg (fun q => hab ⟨q.1, by omega, by omega, Or.inl q.2.2⟩)]
      exact h4 a b c hab
  · rintro ⟨x, T⟩ ⟨h1, h2, h3, h4⟩
    dsimp only at h2 h3 h4
    subst h2
    have hle : nI (f + z) ≤ nI (f + z) := Int32.le_refl _
    have e5 : T 3 0 5 = S 3 0 5 := h4 3 0 5 (by omega)
    refine ⟨(S 3 0 5 + 1, mup (mup T 3 0 5 (S 3 0 5 + 1)) 3 0 8 0), by simp [b_X3_melisma_48, nI_add, hle, e5], rfl, fun j j1 j2 => ?_, by simp [mup_at], by simp [mup_at], fun a b c ha hb => ?_⟩
    · simp [mup_at]; exact h3 j j1 j2
    · show mup (mup T 3 0 5 (S 3 0 5 + 1)) 3 0 8 0 a b c = S a b c
      rw [mup_at, if_neg (fun q => hb ⟨q.1, q.2.1, Or.inr q.2.2⟩), mup_at, if_neg (fun q => hb ⟨q.1, q.2.1, Or.inl q.2.2⟩)]
      exact h4 a b c ha
theorem setMelM {n f z : Nat} (hn : 100 ≤ n) (hfz : f + z ≤ 60) (hz : 1 ≤ z) (M : mem) : ∃ r : Int32 ⊕ (Int32 × mem), lp (b_X4_melisma_93 n (nI f) (nI z)) n (nI f, M) = some r ∧ ∃ M', r = .inr (M 0 0 9 + 1, M') ∧ (∀ j, f ≤ j → j < f + z → M' 6 0 j = nI f) ∧ M' 7 0 f = nI z ∧ M' 0 0 9 = M 0 0 9 + 1 ∧ M' 0 0 18 = 0 ∧ ∀ a b c, ¬ (a = 6 ∧ b = 0 ∧ f ≤ c ∧ c < f + z) → ¬ (a = 7 ∧ b = 0 ∧ c = f) → ¬ (a = 0 ∧ b = 0 ∧ (c = 9 ∨ c = 18)) → M' a b c = M a b c := by
  refine lp_up (I := fun j (q : Int32 × mem) => f ≤ j ∧ q.1 = nI j ∧ (∀ t, f ≤ t → t < j → q.2 6 0 t = nI f) ∧ ∀ a b c, ¬ (a = 6 ∧ b = 0 ∧ f ≤ c ∧ c < f + z) → q.2 a b c = M a b c) (Q := fun r : Int32 ⊕ (Int32 × mem) => ∃ M', r = .inr (M 0 0 9 + 1, M') ∧ (∀ j, f ≤ j → j < f + z → M' 6 0 j = nI f) ∧ M' 7 0 f = nI z ∧ M' 0 0 9 = M 0 0 9 + 1 ∧ M' 0 0 18 = 0 ∧ ∀ a b c, ¬ (a = 6 ∧ b = 0 ∧ f ≤ c ∧ c < f + z) → ¬ (a = 7 ∧ b = 0 ∧ c = f) → ¬ (a = 0 ∧ b = 0 ∧ (c = 9 ∨ c = 18)) → M' a b c = M a b c) (f + z) ?_ ?_ n f (nI f, M) (by omega) (by omega) ⟨by omega, rfl, fun t h1 h2 => by omega, fun a b c _ => rfl⟩
  · rintro j ⟨x, T⟩ hj ⟨h1, h2, h3, h4⟩
    left
    dsimp only at h2 h3 h4
    subst h2
    have hle : ¬ nI (f + z) ≤ nI j := fun q => absurd ((nI_leI (by omega) (by omega)).mp q) (by omega)
    obtain ⟨hp, hc⟩ := nI_in' (i := j) (N := 60) (by omega) (by omega)
    have hlt : j < 60 := by omega
    refine ⟨(nI (j + 1), mup T 6 0 j (nI f)), by simp [b_X4_melisma_93, nI_add, hle, grd, hp, hc, hlt, nI_1], by omega, rfl, fun t t1 t2 => ?_, fun a b c hab => ?_⟩
    · by_cases e : t = j
      · subst e; simp [mup_at]
      · simp [mup_at, e]; exact h3 t t1 (by omega)
    · show mup T 6 0 j (nI f) a b c = M a b c
      rw [mup_at, if_neg (fun q => hab ⟨q.1, q.2.1, by omega, by omega⟩)]
      exact h4 a b c hab
  · rintro ⟨x, T⟩ ⟨h1, h2, h3, h4⟩
    dsimp only at h2 h3 h4
    subst h2
    have hle : nI (f + z) ≤ nI (f + z) := Int32.le_refl _
    obtain ⟨hp, hc⟩ := nI_in' (i := f) (N := 60) (by omega) (by omega)
    have hlt : f < 60 := by omega
    have e9 : T 0 0 9 = M 0 0 9 := h4 0 0 9 (by omega)
    refine ⟨.inr (M 0 0 9 + 1, mup (mup (mup T 7 0 f (nI z)) 0 0 9 (M 0 0 9 + 1)) 0 0 18 0), by simp [b_X4_melisma_93, nI_add, hle, grd, hp, hc, hlt, e9], _, rfl, fun j j1 j2 => ?_, by simp [mup_at], by simp [mup_at], by simp [mup_at], fun a b c ha hb hd => ?_⟩
    · simp [mup_at]; exact h3 j j1 j2
    · rw [mup_at, if_neg (fun q => hd ⟨q.1, q.2.1, Or.inr q.2.2⟩), mup_at, if_neg (fun q => hd ⟨q.1, q.2.1, Or.inl q.2.2⟩), mup_at, if_neg hb]
      exact h4 a b c ha
theorem melM {n N f z : Nat} {S M : mem} (hn : 100 ≤ n) (h : R N S M) (hfz : f + z ≤ N) (hz : 1 ≤ z) : ∃ r : Int32 × mem, lp (b_X4_melisma_41 n M (nI f) (nI z)) n (nI f) = some r ∧ ((r = (-1000003, M) ∧ ∃ j, f ≤ j ∧ j < f + z ∧ ¬ melP S M f j) ∨ ((∀ j, f ≤ j → j < f + z → melP S M f j) ∧ ∃ M', r = (M 0 0 9 + 1, M') ∧ (∀ j, f ≤ j → j < f + z → M' 6 0 j = nI f) ∧ M' 7 0 f = nI z ∧ M' 0 0 9 = M 0 0 9 + 1 ∧ M' 0 0 18 = 0 ∧ ∀ a b c, ¬ (a = 6 ∧ b = 0 ∧ f ≤ c ∧ c < f + z) → ¬ (a = 7 ∧ b = 0 ∧ c = f) → ¬ (a = 0 ∧ b = 0 ∧ (c = 9 ∨ c = 18)) → M' a b c = M a b c)) := by
  have hN := h.1.2.2
  refine lp_up (I := fun j (q : Int32) => f ≤ j ∧ q = nI j ∧ ∀ t, f ≤ t → t < j → melP S M f t) _ (f + z) ?_ ?_ n f (nI f) (by omega) (by omega) ⟨by omega, rfl, fun t h1 h2 => by omega⟩
  · rintro j q hj ⟨h1, rfl, h3⟩
    have hle : ¬ nI (f + z) ≤ nI j := fun q => absurd ((nI_leI (by omega) (by omega)).mp q) (by omega)
    obtain ⟨hp, hc⟩ := nI_in' (i := j) (N := 60) (by omega) (by omega)
    have hlt : j < 60 := by omega
    have next : melP S M f j → b_X4_melisma_41 n M (nI f) (nI z) (nI j) = some (.inl (nI (j + 1))) → (∃ q', b_X4_melisma_41 n M (nI f) (nI z) (nI j) = some (.inl q') ∧ (f ≤ j + 1 ∧ q' = nI (j + 1) ∧ ∀ t, f ≤ t → t < j + 1 → melP S M f t)) := fun hm a1 => ⟨_, a1, by omega, rfl, fun t t1 t2 => by
      by_cases e : t = j
      · subst e; exact hm
      · exact h3 t t1 (by omega)⟩
    by_cases hr : M 4 0 j = 0
    · by_cases hm6 : M 6 0 j = -1000009
      · by_cases hjf : j = f
        · subst hjf
          left
          exact next ⟨hr, hm6, fun h => by omega⟩ (by simp [b_X4_melisma_41, nI_add, hle, grd, hp, hc, hlt, hr, hm6, nI_1])
        · have hgt : ¬ nI j ≤ nI f := fun q => absurd ((nI_leI (by omega) (by omega)).mp q) (by omega)
          have hs := sylM (n := n) (v0 := 0) (i := j) (by omega) h (by omega) (by omega)
          rw [nI_0] at hs
          have hsl := syl_le h hlt 4 0 (by omega)
          have hs0 := syl_0 (S := S) (i := j) 4 0
          by_cases hz0 : syl S j 0 4 = 0
          · left
            rw [show 4 - 0 = 4 from rfl, hz0] at hs
            exact next ⟨hr, hm6, fun _ v hv => hs0.mp hz0 v (by omega) (by omega)⟩ (by simp [b_X4_melisma_41, nI_add, hle, grd, hp, hc, hlt, hr, hm6, hgt, cal, hs, show nI 0 ≤ 0 by decide, nI_1])
          · right
            have hnz : ¬ nI (syl S j 0 4) ≤ 0 := nI_nle (by omega) (by omega)
            refine ⟨(-1000003, M), by simp [b_X4_melisma_41, nI_add, hle, grd, hp, hc, hlt, hr, hm6, hgt, cal, hs, hnz], Or.inl ⟨rfl, j, h1, hj, fun hm => hz0 (hs0.mpr fun u _ h9 => hm.2.2 (by omega) u (by omega))⟩⟩
      · right
        exact ⟨(-1000003, M), by simp [b_X4_melisma_41, nI_add, hle, grd, hp, hc, hlt, hr, hm6], Or.inl ⟨rfl, j, h1, hj, fun hm => hm6 hm.2.1⟩⟩
    · right
      exact ⟨(-1000003, M), by simp [b_X4_melisma_41, nI_add, hle, grd, hp, hc, hlt, hr], Or.inl ⟨rfl, j, h1, hj, fun hm => hr hm.1⟩⟩
  · rintro q ⟨h1, rfl, h3⟩
    have hle : nI (f + z) ≤ nI (f + z) := Int32.le_refl _
    obtain ⟨r, e1, M', rfl, e3⟩ := setMelM hn (show f + z ≤ 60 by omega) hz M
    exact ⟨(M 0 0 9 + 1, M'), by simp [b_X4_melisma_41, nI_add, hle, e1], Or.inr ⟨h3, M', rfl, e3⟩⟩
theorem R.mel {N f z : Nat} {S M S' M' : mem} (h : R N S M) (hfz : f + z ≤ N) (hz : 1 ≤ z) (hp : ∀ j, f ≤ j → j < f + z → melP S M f j)
    (s1 : ∀ j, f ≤ j → j < f + z → S' 1 j 4 = nI f ∧ S' 1 j 5 = nI (f + z - 1)) (s2 : S' 3 0 5 = S 3 0 5 + 1) (s3 : S' 3 0 8 = 0) (s4 : ∀ a b c, ¬ (a = 1 ∧ f ≤ b ∧ b < f + z ∧ (c = 4 ∨ c = 5)) → ¬ (a = 3 ∧ b = 0 ∧ (c = 5 ∨ c = 8)) → S' a b c = S a b c)
    (m1 : ∀ j, f ≤ j → j < f + z → M' 6 0 j = nI f) (m2 : M' 7 0 f = nI z) (m3 : M' 0 0 9 = M 0 0 9 + 1) (m4 : M' 0 0 18 = 0) (m5 : ∀ a b c, ¬ (a = 6 ∧ b = 0 ∧ f ≤ c ∧ c < f + z) → ¬ (a = 7 ∧ b = 0 ∧ c = f) → ¬ (a = 0 ∧ b = 0 ∧ (c = 9 ∨ c = 18)) → M' a b c = M a b c) : R N S' M' := by
  obtain ⟨h0, h1, h2, h3, h4, h4s, h5, h6, h7, h8, h9, h10⟩ := h
  have hN60 : N ≤ 60 := h0.2.2
  have g2 : G2 N S' M' := by
    intro i hi
    by_cases e : f ≤ i ∧ i < f + z
    · right
      exact ⟨f, z, e.1, e.2, hfz, (s1 i e.1 e.2).1, m1 i e.1 e.2, (s1 i e.1 e.2).2, m2, (s1 f (by omega) (by omega)).1⟩
    · rcases h2 i hi with ⟨q1, q2⟩ | ⟨f', z', f1, f2, f3, q1, q2, q3, q4, q5⟩
      · left
        exact ⟨by rw [s4 1 i 4 (by omega) (by omega)]; exact q1, by rw [m5 6 0 i (by omega) (by omega) (by omega)]; exact q2⟩
      · right
        -- the first note of an older melisma isn't of the new one
        have hf' : ¬ (f ≤ f' ∧ f' < f + z) := fun e2 => by
          rcases h2 f' (by omega) with ⟨b1, b2⟩ | ⟨f2', z2', g1, g2', g3, b1, b2, -⟩
          · exact nI_m1 (show f' < 2 ^ 31 by omega) (q5.symm.trans b1)
          · exact nI_none (show f2' < 2 ^ 31 by omega) (b2.symm.trans (hp f' e2.1 e2.2).2.1)
        exact ⟨f', z', f1, f2, f3, by rw [s4 1 i 4 (by omega) (by omega)]; exact q1, by rw [m5 6 0 i (by omega) (by omega) (by omega)]; exact q2, by rw [s4 1 i 5 (by omega) (by omega)]; exact q3, by rw [m5 7 0 f' (by omega) (by omega) (by omega)]; exact q4, by rw [s4 1 f' 4 (by omega) (by omega)]; exact q5⟩
  have g6 : G6 S' M' := by
    unfold G6
    rw [s2, m3, s4 3 0 6 (by omega) (by omega), s4 3 0 7 (by omega) (by omega), m5 0 0 10 (by omega) (by omega) (by omega), m5 0 0 17 (by omega) (by omega) (by omega), h6.1]
    exact ⟨rfl, h6.2⟩
  refine ⟨h0.cg ?_ ?_, h1.cg ?_ ?_ ?_ ?_ ?_ ?_ ?_ ?_, g2, h3.cg ?_ ?_, h4.cg ?_ ?_ ?_ ?_ ?_ ?_ ?_ ?_, h4s.cg ?_ ?_, h5.cg ?_ ?_ ?_ ?_, g6, G7.no s3 m4, h8.cg ?_ ?_ ?_ ?_ ?_ ?_ ?_ ?_, h9.cg ?_ ?_ ?_ ?_ ?_ ?_ ?_ ?_, h10.cg ?_ ?_ ?_ ?_⟩ <;> (intros; first | exact s4 _ _ _ (by omega) (by omega) | exact m5 _ _ _ (by omega) (by omega) (by omega))
theorem op_melisma {n N : Nat} (hn : 100 ≤ n) {S M : mem} (h : R N S M) (x w : Int32) : op2 (f_X3_melisma n S x w) (f_X4_melisma n M x w) := by
  have hT := h.thr 0
  rcases isNoteC (n := n) hT.1 x with ⟨e1, e2⟩ | ⟨f, hf, rfl, e1, e2⟩
  · exact ⟨-1000001, S, _, N, by simp [f_X3_melisma, e1, cal], by simp [f_X4_melisma, e2, cal], hT⟩
  · rcases outC (n := n) S (mup M 0 0 0 0) w 2 20 with ⟨e3, e4⟩ | ⟨b1, b2, e3, e4⟩
    · exact ⟨-1000002, S, _, N, by simp [f_X3_melisma, e1, e3, cal], by simp [f_X4_melisma, e2, e4, cal], hT⟩
    · obtain ⟨z, z1, z2, rfl⟩ := bd_of (a := 2) (b := 20) (by omega) (by omega) b1 b2
      obtain ⟨hS, hM, hN⟩ := h.1
      by_cases hfz : f + z ≤ N
      · have c1 : nI z ≤ nI N - nI f := by rw [pk_sub (by omega)]; exact nI_le (by omega) (by omega)
        have c2 : nI f + nI z ≤ nI N := by rw [nI_add]; exact nI_le hfz (by omega)
        obtain ⟨r, r1, r2⟩ := mayMelC (f := f) (z := z) hn hT hfz
        obtain ⟨r', q1, q2⟩ := melM (f := f) (z := z) hn hT hfz (by omega)
        rcases r2 with ⟨rfl, r2⟩ | ⟨rfl, j, j1, j2, j3⟩
        · rcases q2 with ⟨-, j, j1, j2, j3⟩ | ⟨-, M', rfl, q3, q4, q5, q6, q7⟩
          · exact absurd (r2 j j1 j2) j3
          · obtain ⟨⟨rr, S'⟩, t1, t2, t3, t4, t5, t6⟩ := setMelC (f := f) (z := z) hn (by omega) (by omega) S
            dsimp only at t2 t3 t4 t5 t6
            have h6 := h.2.2.2.2.2.2.2.1
            have e9 : (mup M 0 0 0 0) 0 0 9 = M 0 0 9 := by simp [mup_at]
            refine ⟨S 3 0 5 + 1, S', M', N, by simp [f_X3_melisma, e1, e3, cal, hS, c1, r1, t1, t2], by simp [f_X4_melisma, e2, e4, cal, hM, c2, q1, e9, h6.1], hT.mel hfz (by omega) r2 t3 t4 t5 t6 q3 q4 q5 q6 q7⟩
        · rcases q2 with ⟨rfl, -⟩ | ⟨q3, -⟩
          · exact ⟨-1000003, S, _, N, by simp [f_X3_melisma, e1, e3, cal, hS, c1, r1], by simp [f_X4_melisma, e2, e4, cal, hM, c2, q1], hT⟩
          · exact absurd (q3 j j1 j2) j3
      · have c1 : ¬ nI z ≤ nI N - nI f := by rw [pk_sub (by omega)]; exact fun q => absurd ((nI_leI (by omega) (by omega)).mp q) (by omega)
        have c2 : ¬ nI f + nI z ≤ nI N := by rw [nI_add]; exact fun q => absurd ((nI_leI (by omega) (by omega)).mp q) (by omega)
        exact ⟨-1000002, S, _, N, by simp [f_X3_melisma, e1, e3, cal, hS, c1], by simp [f_X4_melisma, e2, e4, cal, hM, c2], hT⟩
