/-! refrain -/
def refP (S M : mem) (j : Nat) : Prop := M 8 0 j = -1000009 ∧ ∀ v, 1 ≤ v → v < 4 → cn S v j = 0
theorem mayRefC {n N f z : Nat} {S M : mem} (hn : 100 ≤ n) (h : R N S M) (hfz : f + z ≤ N) : ∃ r : Int32, f_X3_mayBeRefrain n S (nI f) (nI z) = some r ∧ ((r = 1 ∧ ∀ j, f ≤ j → j < f + z → refP S M j) ∨ (r = 0 ∧ ∃ j, f ≤ j ∧ j < f + z ∧ ¬ refP S M j)) := by
  have hN := h.1.2.2
  unfold f_X3_mayBeRefrain
  refine lp_up (I := fun j (q : Int32) => f ≤ j ∧ q = nI j ∧ ∀ t, f ≤ t → t < j → refP S M t) (Q := fun r => (r = 1 ∧ ∀ j, f ≤ j → j < f + z → refP S M j) ∨ (r = 0 ∧ ∃ j, f ≤ j ∧ j < f + z ∧ ¬ refP S M j)) (f + z) ?_ ?_ n f (nI f) (by omega) (by omega) ⟨by omega, rfl, fun t h1 h2 => by omega⟩
  · rintro j q hj ⟨h1, rfl, h3⟩
    have hle : ¬ nI (f + z) ≤ nI j := fun q => absurd ((nI_leI (by omega) (by omega)).mp q) (by omega)
    obtain ⟨hp, hc⟩ := nI_in' (i := j) (N := 60) (by omega) (by omega)
    have hlt : j < 60 := by omega
    rcases h.2.2.2.1 j (by omega) with ⟨m1, m2⟩ | ⟨f', f1, m1, m2⟩
    · obtain ⟨r, b1, b2⟩ := boxFromC (n := n) (v0 := 1) (by omega) h hlt (by omega)
      rw [show nI 1 = 1 from rfl] at b1
      rcases b2 with ⟨rfl, b2⟩ | ⟨rfl, v, b5, b3, b4⟩
      · left
        refine ⟨nI (j + 1), by simp [b_X3_mayBeRefrain_2, nI_add, hle, grd, hp, hc, hlt, m1, cal, b1, nI_1], by omega, rfl, fun t t1 t2 => ?_⟩
        by_cases e : t = j
        · subst e; exact ⟨m2, b2⟩
        · exact h3 t t1 (by omega)
      · right
        refine ⟨0, by simp [b_X3_mayBeRefrain_2, nI_add, hle, grd, hp, hc, hlt, m1, cal, b1], Or.inr ⟨rfl, j, h1, hj, fun hm => ?_⟩⟩
        have := hm.2 v b5 b3
        omega
    · right
      have n1 := nI_m1 (show f' < 2 ^ 31 by omega)
      refine ⟨0, by simp [b_X3_mayBeRefrain_2, nI_add, hle, grd, hp, hc, hlt, m1, n1], Or.inr ⟨rfl, j, h1, hj, fun hm => ?_⟩⟩
      exact nI_none (show f' < 2 ^ 31 by omega) (m2.symm.trans hm.1)
  · rintro q ⟨h1, rfl, h3⟩
    have hle : nI (f + z) ≤ nI (f + z) := Int32.le_refl _
    exact ⟨1, by simp [b_X3_mayBeRefrain_2, nI_add, hle], Or.inl ⟨rfl, h3⟩⟩
theorem setRefC {n f z : Nat} (hn : 100 ≤ n) (hfz : f + z ≤ 60) (S : mem) : ∃ r : Int32 × mem, lp (b_X3_refrain_59 n (nI f) (nI z)) n (nI f, S) = some r ∧ (r.1 = S 3 0 6 + 1 ∧ (∀ j, f ≤ j → j < f + z → r.2 1 j 6 = nI f) ∧ r.2 3 0 6 = S 3 0 6 + 1 ∧ r.2 3 0 8 = 0 ∧ ∀ a b c, ¬ (a = 1 ∧ f ≤ b ∧ b < f + z ∧ c = 6) → ¬ (a = 3 ∧ b = 0 ∧ (c = 6 ∨ c = 8)) → r.2 a b c = S a b c) := by
  refine lp_up (I := fun j (q : Int32 × mem) => f ≤ j ∧ q.1 = nI j ∧ (∀ t, f ≤ t → t < j → q.2 1 t 6 = nI f) ∧ ∀ a b c, ¬ (a = 1 ∧ f ≤ b ∧ b < f + z ∧ c = 6) → q.2 a b c = S a b c) (Q := fun r : Int32 × mem => r.1 = S 3 0 6 + 1 ∧ (∀ j, f ≤ j → j < f + z → r.2 1 j 6 = nI f) ∧ r.2 3 0 6 = S 3 0 6 + 1 ∧ r.2 3 0 8 = 0 ∧ ∀ a b c, ¬ (a = 1 ∧ f ≤ b ∧ b < f + z ∧ c = 6) → ¬ (a = 3 ∧ b = 0 ∧ (c = 6 ∨ c = 8)) → r.2 a b c = S a b c) (f + z) ?_ ?_ n f (nI f, S) (by omega) (by omega) ⟨by omega, rfl, fun t h1 h2 => by omega, fun a b c _ => rfl⟩
  · rintro j ⟨x, T⟩ hj ⟨h1, h2, h3, h4⟩
    left
    dsimp only at h2 h3 h4
    subst h2
    have hle : ¬ nI (f + z) ≤ nI j := fun q => absurd ((nI_leI (by omega) (by omega)).mp q) (by omega)
    obtain ⟨hp, hc⟩ := nI_in' (i := j) (N := 60) (by omega) (by omega)
    have hlt : j < 60 := by omega
    refine ⟨(nI (j + 1), mup T 1 j 6 (nI f)), by simp [b_X3_refrain_59, nI_add, hle, grd, hp, hc, hlt, nI_1], by omega, rfl, fun t t1 t2 => ?_, fun a b c hab => ?_⟩
    · by_cases e : t = j
      · subst e; simp [mup_at]
      · simp [mup_at, e]; exact h3 t t1 (by omega)
    · show mup T 1 j 6 (nI f) a b c = S a b c
      rw [mup_at, if_neg (fun q => hab ⟨q.1, by omega, by omega, q.2.2⟩)]
      exact h4 a b c hab
  · rintro ⟨x, T⟩ ⟨h1, h2, h3, h4⟩
    dsimp only at h2 h3 h4
    subst h2
    have hle : nI (f + z) ≤ nI (f + z) := Int32.le_refl _
    have e5 : T 3 0 6 = S 3 0 6 := h4 3 0 6 (by omega)
    refine ⟨(S 3 0 6 + 1, mup (mup T 3 0 6 (S 3 0 6 + 1)) 3 0 8 0), by simp [b_X3_refrain_59, nI_add, hle, e5], rfl, fun j j1 j2 => ?_, by simp [mup_at], by simp [mup_at], fun a b c ha hb => ?_⟩
    · simp [mup_at]; exact h3 j j1 j2
    · show mup (mup T 3 0 6 (S 3 0 6 + 1)) 3 0 8 0 a b c = S a b c
      rw [mup_at, if_neg (fun q => hb ⟨q.1, q.2.1, Or.inr q.2.2⟩), mup_at, if_neg (fun q => hb ⟨q.1, q.2.1, Or.inl q.2.2⟩)]
      exact h4 a b c ha
theorem setRefM {n f z : Nat} (hn : 100 ≤ n) (hfz : f + z ≤ 60) (M : mem) : ∃ r : Int32 ⊕ (Int32 × mem), lp (b_X4_refrain_90 n (nI f) (nI z)) n (nI f, M) = some r ∧ ∃ M', r = .inr (M 0 0 10 + 1, M') ∧ (∀ j, f ≤ j → j < f + z → M' 8 0 j = nI f) ∧ M' 0 0 10 = M 0 0 10 + 1 ∧ M' 0 0 18 = 0 ∧ ∀ a b c, ¬ (a = 8 ∧ b = 0 ∧ f ≤ c ∧ c < f + z) → ¬ (a = 0 ∧ b = 0 ∧ (c = 10 ∨ c = 18)) → M' a b c = M a b c := by
  refine lp_up (I := fun j (q : Int32 × mem) => f ≤ j ∧ q.1 = nI j ∧ (∀ t, f ≤ t → t < j → q.2 8 0 t = nI f) ∧ ∀ a b c, ¬ (a = 8 ∧ b = 0 ∧ f ≤ c ∧ c < f + z) → q.2 a b c = M a b c) (Q := fun r : Int32 ⊕ (Int32 × mem) => ∃ M', r = .inr (M 0 0 10 + 1, M') ∧ (∀ j, f ≤ j → j < f + z → M' 8 0 j = nI f) ∧ M' 0 0 10 = M 0 0 10 + 1 ∧ M' 0 0 18 = 0 ∧ ∀ a b c, ¬ (a = 8 ∧ b = 0 ∧ f ≤ c ∧ c < f + z) → ¬ (a = 0 ∧ b = 0 ∧ (c = 10 ∨ c = 18)) → M' a b c = M a b c) (f + z) ?_ ?_ n f (nI f, M) (by omega) (by omega) ⟨by omega, rfl, fun t h1 h2 => by omega, fun a b c _ => rfl⟩
  · rintro j ⟨x, T⟩ hj ⟨h1, h2, h3, h4⟩
    left
    dsimp only at h2 h3 h4
    subst h2
    have hle : ¬ nI (f + z) ≤ nI j := fun q => absurd ((nI_leI (by omega) (by omega)).mp q) (by omega)
    obtain ⟨hp, hc⟩ := nI_in' (i := j) (N := 60) (by omega) (by omega)
    have hlt : j < 60 := by omega
    refine ⟨(nI (j + 1), mup T 8 0 j (nI f)), by simp [b_X4_refrain_90, nI_add, hle, grd, hp, hc, hlt, nI_1], by omega, rfl, fun t t1 t2 => ?_, fun a b c hab => ?_⟩
    · by_cases e : t = j
      · subst e; simp [mup_at]
      · simp [mup_at, e]; exact h3 t t1 (by omega)
    · show mup T 8 0 j (nI f) a b c = M a b c
      rw [mup_at, if_neg (fun q => hab ⟨q.1, q.2.1, by omega, by omega⟩)]
      exact h4 a b c hab
  · rintro ⟨x, T⟩ ⟨h1, h2, h3, h4⟩
    dsimp only at h2 h3 h4
    subst h2
    have hle : nI (f + z) ≤ nI (f + z) := Int32.le_refl _
    have e9 : T 0 0 10 = M 0 0 10 := h4 0 0 10 (by omega)
    refine ⟨.inr (M 0 0 10 + 1, mup (mup T 0 0 10 (M 0 0 10 + 1)) 0 0 18 0), by simp [b_X4_refrain_90, nI_add, hle, e9], _, rfl, fun j j1 j2 => ?_, by simp [mup_at], by simp [mup_at], fun a b c ha hd => ?_⟩
    · simp [mup_at]; exact h3 j j1 j2
    · rw [mup_at, if_neg (fun q => hd ⟨q.1, q.2.1, Or.inr q.2.2⟩), mup_at, if_neg (fun q => hd ⟨q.1, q.2.1, Or.inl q.2.2⟩)]
      exact h4 a b c ha
theorem refM {n N f z : Nat} {S M : mem} (hn : 100 ≤ n) (h : R N S M) (hfz : f + z ≤ N) : ∃ r : Int32 × mem, lp (b_X4_refrain_41 n M (nI f) (nI z)) n (nI f) = some r ∧ ((r = (-1000003, M) ∧ ∃ j, f ≤ j ∧ j < f + z ∧ ¬ refP S M j) ∨ ((∀ j, f ≤ j → j < f + z → refP S M j) ∧ ((M 0 0 10 = 3 ∧ r = (-1000004, M)) ∨ (M 0 0 10 ≠ 3 ∧ ∃ M', r = (M 0 0 10 + 1, M') ∧ (∀ j, f ≤ j → j < f + z → M' 8 0 j = nI f) ∧ M' 0 0 10 = M 0 0 10 + 1 ∧ M' 0 0 18 = 0 ∧ ∀ a b c, ¬ (a = 8 ∧ b = 0 ∧ f ≤ c ∧ c < f + z) → ¬ (a = 0 ∧ b = 0 ∧ (c = 10 ∨ c = 18)) → M' a b c = M a b c)))) := by
  have hN := h.1.2.2
  refine lp_up (I := fun j (q : Int32) => f ≤ j ∧ q = nI j ∧ ∀ t, f ≤ t → t < j → refP S M t) _ (f + z) ?_ ?_ n f (nI f) (by omega) (by omega) ⟨by omega, rfl, fun t h1 h2 => by omega⟩
  · rintro j q hj ⟨h1, rfl, h3⟩
    have hle : ¬ nI (f + z) ≤ nI j := fun q => absurd ((nI_leI (by omega) (by omega)).mp q) (by omega)
    obtain ⟨hp, hc⟩ := nI_in' (i := j) (N := 60) (by omega) (by omega)
    have hlt : j < 60 := by omega
    by_cases hm6 : M 8 0 j = -1000009
    · have hs := sylM (n := n) (v0 := 1) (i := j) (by omega) h (by omega) (by omega)
      rw [show nI 1 = 1 from rfl] at hs
      have hsl := syl_le h hlt 3 1 (by omega)
      have hs0 := syl_0 (S := S) (i := j) 3 1
      by_cases hz0 : syl S j 1 3 = 0
      · left
        rw [show 4 - 1 = 3 from rfl, hz0] at hs
        refine ⟨nI (j + 1), by simp [b_X4_refrain_41, nI_add, hle, grd, hp, hc, hlt, hm6, cal, hs, show nI 0 ≤ 0 by decide, nI_1], by omega, rfl, fun t t1 t2 => ?_⟩
        by_cases e : t = j
        · subst e; exact ⟨hm6, fun v v1 v2 => hs0.mp hz0 v (by omega) (by omega)⟩
        · exact h3 t t1 (by omega)
      · right
        have hnz : ¬ nI (syl S j 1 3) ≤ 0 := nI_nle (by omega) (by omega)
        refine ⟨(-1000003, M), by simp [b_X4_refrain_41, nI_add, hle, grd, hp, hc, hlt, hm6, cal, hs, hnz], Or.inl ⟨rfl, j, h1, hj, fun hm => hz0 (hs0.mpr fun u h8 h9 => hm.2 u (by omega) (by omega))⟩⟩
    · right
      exact ⟨(-1000003, M), by simp [b_X4_refrain_41, nI_add, hle, grd, hp, hc, hlt, hm6], Or.inl ⟨rfl, j, h1, hj, fun hm => hm6 hm.1⟩⟩
  · rintro q ⟨h1, rfl, h3⟩
    have hle : nI (f + z) ≤ nI (f + z) := Int32.le_refl _
    by_cases h10 : M 0 0 10 = 3
    · exact ⟨(-1000004, M), by simp [b_X4_refrain_41, nI_add, hle, h10], Or.inr ⟨h3, Or.inl ⟨h10, rfl⟩⟩⟩
    · obtain ⟨r, e1, M', rfl, e3⟩ := setRefM hn (show f + z ≤ 60 by omega) M
      exact ⟨(M 0 0 10 + 1, M'), by simp [b_X4_refrain_41, nI_add, hle, h10, e1], Or.inr ⟨h3, Or.inr ⟨h10, M', rfl, e3⟩⟩⟩
theorem R.ref {N f z : Nat} {S M S' M' : mem} (h : R N S M) (hfz : f + z ≤ N) (h10 : S 3 0 6 < 3)
    (s1 : ∀ j, f ≤ j → j < f + z → S' 1 j 6 = nI f) (s2 : S' 3 0 6 = S 3 0 6 + 1) (s3 : S' 3 0 8 = 0) (s4 : ∀ a b c, ¬ (a = 1 ∧ f ≤ b ∧ b < f + z ∧ c = 6) → ¬ (a = 3 ∧ b = 0 ∧ (c = 6 ∨ c = 8)) → S' a b c = S a b c)
    (m1 : ∀ j, f ≤ j → j < f + z → M' 8 0 j = nI f) (m3 : M' 0 0 10 = M 0 0 10 + 1) (m4 : M' 0 0 18 = 0) (m5 : ∀ a b c, ¬ (a = 8 ∧ b = 0 ∧ f ≤ c ∧ c < f + z) → ¬ (a = 0 ∧ b = 0 ∧ (c = 10 ∨ c = 18)) → M' a b c = M a b c) : R N S' M' := by
  obtain ⟨h0, h1, h2, h3, h4, h4s, h5, h6, h7, h8, h9, h10⟩ := h
  have hN60 : N ≤ 60 := h0.2.2
  have g3 : G3 N S' M' := by
    intro i hi
    by_cases e : f ≤ i ∧ i < f + z
    · right
      exact ⟨f, e.1, s1 i e.1 e.2, m1 i e.1 e.2⟩
    · rw [s4 1 i 6 (by omega) (by omega), m5 8 0 i (by omega) (by omega)]
      exact h3 i hi
  have g6 : G6 S' M' := by
    unfold G6
    rw [s2, m3, s4 3 0 5 (by omega) (by omega), s4 3 0 7 (by omega) (by omega), m5 0 0 9 (by omega) (by omega), m5 0 0 17 (by omega) (by omega), h6.2.1]
    refine ⟨h6.1, rfl, ?_, h6.2.2.2⟩
    obtain ⟨a, a1, a2, a3⟩ := h6.2.2.1
    rw [h6.2.1] at a3
    rename_i hlt
    rw [h6.2.1, a3] at hlt
    have : a < 3 := Nat.not_le.mp fun q => absurd hlt (nI_nlt (b := 3) q (by omega))
    exact ⟨a + 1, by omega, by omega, by rw [a3, nI_1]⟩
  refine ⟨h0.cg ?_ ?_, h1.cg ?_ ?_ ?_ ?_ ?_ ?_ ?_ ?_, h2.cg ?_ ?_ ?_ ?_, g3, h4.cg ?_ ?_ ?_ ?_ ?_ ?_ ?_ ?_, h4s.cg ?_ ?_, h5.cg ?_ ?_ ?_ ?_, g6, G7.no s3 m4, h8.cg ?_ ?_ ?_ ?_ ?_ ?_ ?_ ?_, h9.cg ?_ ?_ ?_ ?_ ?_ ?_ ?_ ?_, h10.cg ?_ ?_ ?_ ?_⟩ <;> (intros; first | exact s4 _ _ _ (by omega) (by omega) | exact m5 _ _ _ (by omega) (by omega))
theorem op_refrain {n N : Nat} (hn : 100 ≤ n) {S M : mem} (h : R N S M) (x w : Int32) : op2 (f_X3_refrain n S x w) (f_X4_refrain n M x w) := by
  have hT := h.thr 0
  rcases isNoteC (n := n) hT.1 x with ⟨e1, e2⟩ | ⟨f, hf, rfl, e1, e2⟩
  · exact ⟨-1000001, S, _, N, by simp [f_X3_refrain, e1, cal], by simp [f_X4_refrain, e2, cal], hT⟩
  · rcases outC (n := n) S (mup M 0 0 0 0) w 1 60 with ⟨e3, e4⟩ | ⟨b1, b2, e3, e4⟩
    · exact ⟨-1000002, S, _, N, by simp [f_X3_refrain, e1, e3, cal], by simp [f_X4_refrain, e2, e4, cal], hT⟩
    · obtain ⟨z, z1, z2, rfl⟩ := bd_of (a := 1) (b := 60) (by omega) (by omega) b1 b2
      obtain ⟨hS, hM, hN⟩ := h.1
      by_cases hfz : f + z ≤ N
      · have c1 : nI z ≤ nI N - nI f := by rw [pk_sub (by omega)]; exact nI_le (by omega) (by omega)
        have c2 : nI f + nI z ≤ nI N := by rw [nI_add]; exact nI_le hfz (by omega)
        obtain ⟨r, r1, r2⟩ := mayRefC (f := f) (z := z) hn hT hfz
        obtain ⟨r', q1, q2⟩ := refM (f := f) (z := z) hn hT hfz
        have h6 := h.2.2.2.2.2.2.2.1
        have e9 : (mup M 0 0 0 0) 0 0 10 = M 0 0 10 := by simp [mup_at]
        have h3c : M 0 0 10 = 3 ↔ ¬ S 3 0 6 < 3 := by
          obtain ⟨a, a1, a2, a3⟩ := h6.2.2.1
          rw [← h6.2.1, a3]
          rcases (show a = 0 ∨ a = 1 ∨ a = 2 ∨ a = 3 by omega) with rfl | rfl | rfl | rfl <;> decide
        rcases r2 with ⟨rfl, r2⟩ | ⟨rfl, j, j1, j2, j3⟩
        · rcases q2 with ⟨-, j, j1, j2, j3⟩ | ⟨-, ⟨g1, rfl⟩ | ⟨g1, M', rfl, q3, q5, q6, q7⟩⟩
          · exact absurd (r2 j j1 j2) j3
          · rw [e9] at g1
            exact ⟨-1000004, S, _, N, by simp [f_X3_refrain, e1, e3, cal, hS, c1, r1, h3c.mp g1], by simp [f_X4_refrain, e2, e4, cal, hM, c2, q1], hT⟩
          · rw [e9] at g1
            have g2 : S 3 0 6 < 3 := Decidable.byContradiction fun q => g1 (h3c.mpr q)
            obtain ⟨⟨rr, S'⟩, t1, t2, t3, t4, t5, t6⟩ := setRefC (f := f) (z := z) hn (by omega) S
            dsimp only at t2 t3 t4 t5 t6
            refine ⟨S 3 0 6 + 1, S', M', N, by simp [f_X3_refrain, e1, e3, cal, hS, c1, r1, t1, t2, g2], by simp [f_X4_refrain, e2, e4, cal, hM, c2, q1, e9, h6.2.1], hT.ref hfz g2 t3 t4 t5 t6 q3 q5 q6 q7⟩
        · rcases q2 with ⟨rfl, -⟩ | ⟨q3, -⟩
          · exact ⟨-1000003, S, _, N, by simp [f_X3_refrain, e1, e3, cal, hS, c1, r1], by simp [f_X4_refrain, e2, e4, cal, hM, c2, q1], hT⟩
          · exact absurd (q3 j j1 j2) j3
      · have c1 : ¬ nI z ≤ nI N - nI f := by rw [pk_sub (by omega)]; exact fun q => absurd ((nI_leI (by omega) (by omega)).mp q) (by omega)
        have c2 : ¬ nI f + nI z ≤ nI N := by rw [nI_add]; exact fun q => absurd ((nI_leI (by omega) (by omega)).mp q) (by omega)
        exact ⟨-1000002, S, _, N, by simp [f_X3_refrain, e1, e3, cal, hS, c1], by simp [f_X4_refrain, e2, e4, cal, hM, c2], hT⟩
