/-- a call that leaves the class as it is -/
def opR (S : mem) (a : Option Int32) (b : Option (Int32 × mem)) : Prop := ∃ r M' N', a = some r ∧ b = some (r, M') ∧ R N' S M'
theorem ix4 (i v : Nat) : (4 * nI i) + nI v = nI (4 * i + v) := by
  rw [show (4 : Int32) = nI 4 from rfl, pk_mul, nI_add]
theorem ix2 (i v : Nat) : (2 * nI i) + nI v = nI (2 * i + v) := by
  rw [show (2 : Int32) = nI 2 from rfl, pk_mul, nI_add]
theorem ix8 (i v k : Nat) : (2 * (nI (4 * i + v))) + nI k = nI (8 * i + 2 * v + k) := by
  rw [ix2, show 2 * (4 * i + v) + k = 8 * i + 2 * v + k by omega]
theorem nI_in' {i N : Nat} (h : i < N) (hN : N < 2 ^ 31) : 0 ≤ nI i ∧ (nI i).toNatClampNeg = i := ⟨nI_pos' (by omega), nI_clamp (by omega)⟩
theorem R.trans {N : Nat} {S M : mem} (h : R N S M) {v : Nat} (hv : v < 4) (w : Int32) (hw : b01 w) : R N (mup (mup S 2 v 7 w) 3 0 8 0) (mup (mup (mup M 0 0 0 0) 16 0 v w) 0 0 18 0) := by
  obtain ⟨h0, h1, h2, h3, h4, h4s, h5, h6, h7, h8, h9, h10⟩ := h
  have g5 : G5 (mup (mup S 2 v 7 w) 3 0 8 0) (mup (mup (mup M 0 0 0 0) 16 0 v w) 0 0 18 0) := by
    intro j hj
    have q := h5 j hj
    simp only [mup_at]
    by_cases hji : j = v
    · subst hji
      simp
      exact ⟨q.1, q.2.1, hw⟩
    · simp [hji]
      exact q
  refine ⟨h0.cg ?_ ?_, h1.cg ?_ ?_ ?_ ?_ ?_ ?_ ?_ ?_, h2.cg ?_ ?_ ?_ ?_, h3.cg ?_ ?_, h4.cg ?_ ?_ ?_ ?_ ?_ ?_ ?_ ?_, h4s.cg ?_ ?_, g5, h6.cg ?_ ?_ ?_ ?_ ?_ ?_, G7.no ?_ ?_, h8.cg ?_ ?_ ?_ ?_ ?_ ?_ ?_ ?_, h9.cg ?_ ?_ ?_ ?_ ?_ ?_ ?_ ?_, h10.cg ?_ ?_ ?_ ?_⟩ <;> (intros; simp [mup_at])
theorem op_translation {n N : Nat} {S M : mem} (h : R N S M) (x w : Int32) (hw : b01 w) : op2 (f_X3_translation n S x w) (f_X4_translation n M x w) := by
  have hT := h.thr 0
  rcases isVerseC (n := n) S (mup M 0 0 0 0) x with ⟨e1, e2⟩ | ⟨i, hi, rfl, e1, e2⟩
  · exact ⟨-1000001, S, _, N, by simp [f_X3_translation, e1, cal], by simp [f_X4_translation, e2, cal], hT⟩
  · obtain ⟨hp, hc⟩ := nI_in' hi (by omega)
    have q := h.2.2.2.2.2.2.1 i hi
    have hw' : w = 0 ∨ w = 1 := hw
    rcases q.2.2.2 with q7 | q7
    · exact ⟨0, _, _, N, by simp [f_X3_translation, f_X3_asNumber, e1, cal, grd, hc, hp, hi, q7, hw'], by simp [f_X4_translation, j_X4_translation_29, e2, cal, grd, hc, hp, hi, ← q.2.2.1, q7, nar01 hw'], h.trans hi w hw⟩
    · exact ⟨1, _, _, N, by simp [f_X3_translation, f_X3_asNumber, e1, cal, grd, hc, hp, hi, q7, hw'], by simp [f_X4_translation, j_X4_translation_29, e2, cal, grd, hc, hp, hi, ← q.2.2.1, q7, nar01 hw'], h.trans hi w hw⟩
theorem in01 {x : Int32} (h1 : ¬ x < 0) (h2 : ¬ 1 < x) : x = 0 ∨ x = 1 := by
  obtain ⟨a, h3, h4, rfl⟩ := bd_of (a := 0) (b := 1) (by omega) (by omega) h1 h2
  rcases (show a = 0 ∨ a = 1 by omega) with rfl | rfl
  · exact Or.inl rfl
  · exact Or.inr rfl
theorem out01 {x : Int32} (h : x < 0 ∨ 1 < x) : ¬ x = 0 ∧ ¬ x = 1 := by
  rcases h with h | h
  · exact ⟨fun q => by rw [q] at h; exact absurd h (by decide), fun q => by rw [q] at h; exact absurd h (by decide)⟩
  · exact ⟨fun q => by rw [q] at h; exact absurd h (by decide), fun q => by rw [q] at h; exact absurd h (by decide)⟩
/-- as outC, and where it is outside it is so -/
theorem outD {n : Nat} (S M : mem) (x a b : Int32) : ((x < a ∨ b < x) ∧ f_X3_isOutside n S x a b = some 1 ∧ f_X4_lies n M x a b = some 0) ∨ (¬ x < a ∧ ¬ b < x ∧ f_X3_isOutside n S x a b = some 0 ∧ f_X4_lies n M x a b = some 1) := by
  by_cases h1 : x < a
  · left
    exact ⟨Or.inl h1, by simp [f_X3_isOutside, h1], by simp [f_X4_lies, h1]⟩
  · by_cases h2 : b < x
    · left
      exact ⟨Or.inr h2, by simp [f_X3_isOutside, h1, Int32.not_le.mpr h2], by simp [f_X4_lies, h1, h2]⟩
    · right
      exact ⟨h1, h2, by simp [f_X3_isOutside, h1, Int32.not_lt.mp h2], by simp [f_X4_lies, h1, h2]⟩
theorem nI_m1 {n : Nat} (h : n < 2 ^ 31) : ¬ nI n = -1 := fun q => by
  have := nI_pos h
  rw [q] at this
  exact this (by decide)
theorem nI_none {n : Nat} (h : n < 2 ^ 31) : ¬ nI n = -1000009 := fun q => by
  have := nI_pos h
  rw [q] at this
  exact this (by decide)
theorem op_in {n N : Nat} {S M : mem} (h : R N S M) (x w : Int32) : opR S (f_X3_in n S x w) (f_X4_in n M x w) := by
  have hT := h.thr 0
  rcases isNoteC (n := n) hT.1 x with ⟨e1, e2⟩ | ⟨i, hi, rfl, e1, e2⟩
  · exact ⟨-1000001, _, N, by simp [f_X3_in, e1, cal], by simp [f_X4_in, e2, cal], hT⟩
  · have hN := h.1.2.2
    obtain ⟨hp, hc⟩ := nI_in' (i := i) (N := 60) (by omega) (by omega)
    have hlt : i < 60 := by omega
    rcases outD (n := n) S M w 0 1 with ⟨b1, e3, e4⟩ | ⟨b1, b2, e3, e4⟩
    · obtain ⟨w0, w1⟩ := out01 b1
      exact ⟨-1000002, _, N, by simp [f_X3_in, e1, e3, cal], by simp [f_X4_in, e2, cal, w0, w1], hT⟩
    · rcases in01 b1 b2 with rfl | rfl
      · rcases h.2.2.1 i hi with ⟨q1, q2⟩ | ⟨f, z, f1, f2, f3, q1, q2, -⟩
        · exact ⟨-1000009, _, N, by simp [f_X3_in, j_X3_in_48, e1, e3, cal, grd, hc, hp, hlt, q1], by simp [f_X4_in, e2, cal, grd, hc, hp, hlt, q2], hT⟩
        · exact ⟨nI f, _, N, by simp [f_X3_in, j_X3_in_48, e1, e3, cal, grd, hc, hp, hlt, q1, nI_m1 (show f < 2 ^ 31 by omega)], by simp [f_X4_in, e2, cal, grd, hc, hp, hlt, q2], hT⟩
      · rcases h.2.2.2.1 i hi with ⟨q1, q2⟩ | ⟨f, f1, q1, q2⟩
        · exact ⟨-1000009, _, N, by simp [f_X3_in, j_X3_in_48, e1, e3, cal, grd, hc, hp, hlt, q1], by simp [f_X4_in, e2, cal, grd, hc, hp, hlt, q2], hT⟩
        · exact ⟨nI f, _, N, by simp [f_X3_in, j_X3_in_48, e1, e3, cal, grd, hc, hp, hlt, q1, nI_m1 (show f < 2 ^ 31 by omega)], by simp [f_X4_in, e2, cal, grd, hc, hp, hlt, q2], hT⟩
theorem R.side0 {N : Nat} {S M : mem} (h : R N S M) (w : Int32) (hw : bd w 1 24) : R N (mup S 0 0 7 w) (mup (mup (mup M 0 0 0 0) 0 0 28 w) 0 0 29 (M 0 0 29)) := by
  obtain ⟨h0, h1, h2, h3, h4, h4s, h5, h6, h7, h8, h9, h10⟩ := h
  have g9 : G9 (mup S 0 0 7 w) (mup (mup (mup M 0 0 0 0) 0 0 28 w) 0 0 29 (M 0 0 29)) := by
    unfold G9
    simp only [mup_at]
    simp
    exact ⟨h9.1, hw, h9.2.2.2⟩
  refine ⟨h0.cg ?_ ?_, h1.cg ?_ ?_ ?_ ?_ ?_ ?_ ?_ ?_, h2.cg ?_ ?_ ?_ ?_, h3.cg ?_ ?_, h4.cg ?_ ?_ ?_ ?_ ?_ ?_ ?_ ?_, h4s.cg ?_ ?_, h5.cg ?_ ?_ ?_ ?_, h6.cg ?_ ?_ ?_ ?_ ?_ ?_, h7.cg ?_ ?_ ?_ ?_ ?_ ?_ ?_ ?_ ?_ ?_, h8.cg ?_ ?_ ?_ ?_ ?_ ?_ ?_ ?_, g9, h10.cg ?_ ?_ ?_ ?_⟩ <;> (intros; simp [mup_at])
theorem R.side1 {N : Nat} {S M : mem} (h : R N S M) (w : Int32) (hw : bd w 1 24) : R N (mup S 0 0 8 w) (mup (mup (mup M 0 0 0 0) 0 0 28 (M 0 0 28)) 0 0 29 w) := by
  obtain ⟨h0, h1, h2, h3, h4, h4s, h5, h6, h7, h8, h9, h10⟩ := h
  have g9 : G9 (mup S 0 0 8 w) (mup (mup (mup M 0 0 0 0) 0 0 28 (M 0 0 28)) 0 0 29 w) := by
    unfold G9
    simp only [mup_at]
    simp
    exact ⟨h9.1, h9.2.1, h9.2.2.1, hw⟩
  refine ⟨h0.cg ?_ ?_, h1.cg ?_ ?_ ?_ ?_ ?_ ?_ ?_ ?_, h2.cg ?_ ?_ ?_ ?_, h3.cg ?_ ?_, h4.cg ?_ ?_ ?_ ?_ ?_ ?_ ?_ ?_, h4s.cg ?_ ?_, h5.cg ?_ ?_ ?_ ?_, h6.cg ?_ ?_ ?_ ?_ ?_ ?_, h7.cg ?_ ?_ ?_ ?_ ?_ ?_ ?_ ?_ ?_ ?_, h8.cg ?_ ?_ ?_ ?_ ?_ ?_ ?_ ?_, g9, h10.cg ?_ ?_ ?_ ?_⟩ <;> (intros; simp [mup_at])
theorem op_sides {n N : Nat} {S M : mem} (h : R N S M) (x w : Int32) : op2 (f_X3_sides n S x w) (f_X4_sides n M x w) := by
  have hT := h.thr 0
  have q := h.2.2.2.2.2.2.2.2.2.2.1
  rcases outC (n := n) S (mup M 0 0 0 0) x 0 1 with ⟨e1, e2⟩ | ⟨b1, b2, e1, e2⟩
  · exact ⟨-1000002, S, _, N, by simp [f_X3_sides, e1, cal], by simp [f_X4_sides, e2, cal], hT⟩
  · rcases outC (n := n) S (mup M 0 0 0 0) w 1 24 with ⟨e3, e4⟩ | ⟨b3, b4, e3, e4⟩
    · exact ⟨-1000002, S, _, N, by simp [f_X3_sides, e1, e3, cal], by simp [f_X4_sides, e2, e4, cal], hT⟩
    · have hw := bd_of (a := 1) (b := 24) (by omega) (by omega) b3 b4
      rcases in01 b1 b2 with rfl | rfl
      · exact ⟨S 0 0 7, _, _, N, by simp [f_X3_sides, f_X0_changeAhead, e1, e3, cal], by simp [f_X4_sides, j_X4_sides_42, j_X4_sides_56, e2, e4, cal, q.2.1, mup_at], h.side0 w hw⟩
      · exact ⟨S 0 0 8, _, _, N, by simp [f_X3_sides, f_X0_changeBehind, e1, e3, cal], by simp [f_X4_sides, j_X4_sides_42, j_X4_sides_56, e2, e4, cal, q.2.2.2.1, mup_at], h.side1 w hw⟩
theorem R.word0 {N : Nat} {S M : mem} (h : R N S M) : R N (mup S 0 0 5 0) (mup (mup M 0 0 0 0) 0 0 26 0) := by
  obtain ⟨h0, h1, h2, h3, h4, h4s, h5, h6, h7, h8, h9, h10⟩ := h
  have g9 : G9 (mup S 0 0 5 0) (mup (mup M 0 0 0 0) 0 0 26 0) := by
    refine ⟨⟨0, by omega, by simp [mup_at, nI_0], by simp [mup_at, nI_0], fun j hj => by omega⟩, ?_⟩
    simp only [mup_at]
    simp
    exact h9.2
  refine ⟨h0.cg ?_ ?_, h1.cg ?_ ?_ ?_ ?_ ?_ ?_ ?_ ?_, h2.cg ?_ ?_ ?_ ?_, h3.cg ?_ ?_, h4.cg ?_ ?_ ?_ ?_ ?_ ?_ ?_ ?_, h4s.cg ?_ ?_, h5.cg ?_ ?_ ?_ ?_, h6.cg ?_ ?_ ?_ ?_ ?_ ?_, h7.cg ?_ ?_ ?_ ?_ ?_ ?_ ?_ ?_ ?_ ?_, h8.cg ?_ ?_ ?_ ?_ ?_ ?_ ?_ ?_, g9, h10.cg ?_ ?_ ?_ ?_⟩ <;> (intros; simp [mup_at])
theorem R.word1 {N T : Nat} {S M : mem} (h : R N S M) (hT : T < 24) (hS : S 0 0 5 = nI T) (hM : M 0 0 26 = nI T) (w : Int32) (hw : bd w 1 26) : R N (mup (mup S 0 0 5 (nI (T + 1))) 15 0 (T + 1) w) (mup (mup (mup M 0 0 0 0) 27 0 T w) 0 0 26 (nI (T + 1))) := by
  obtain ⟨h0, h1, h2, h3, h4, h4s, h5, h6, h7, h8, h9, h10⟩ := h
  have g9 : G9 (mup (mup S 0 0 5 (nI (T + 1))) 15 0 (T + 1) w) (mup (mup (mup M 0 0 0 0) 27 0 T w) 0 0 26 (nI (T + 1))) := by
    obtain ⟨⟨T2, t1, t2, t3, t4⟩, q⟩ := h9
    have e : T2 = T := (nI_eq (by omega) (by omega)).mp (t2.symm.trans hS)
    subst e
    refine ⟨⟨T2 + 1, by omega, by simp [mup_at], by simp [mup_at], fun j hj => ?_⟩, by simp only [mup_at]; simp; exact q⟩
    simp only [mup_at]
    by_cases hj2 : j = T2
    · subst hj2
      simp
      exact hw
    · simp [hj2]
      exact t4 j (by omega)
  refine ⟨h0.cg ?_ ?_, h1.cg ?_ ?_ ?_ ?_ ?_ ?_ ?_ ?_, h2.cg ?_ ?_ ?_ ?_, h3.cg ?_ ?_, h4.cg ?_ ?_ ?_ ?_ ?_ ?_ ?_ ?_, h4s.cg ?_ ?_, h5.cg ?_ ?_ ?_ ?_, h6.cg ?_ ?_ ?_ ?_ ?_ ?_, h7.cg ?_ ?_ ?_ ?_ ?_ ?_ ?_ ?_ ?_ ?_, h8.cg ?_ ?_ ?_ ?_ ?_ ?_ ?_ ?_, g9, h10.cg ?_ ?_ ?_ ?_⟩ <;> (intros; simp [mup_at])
theorem op_letter {n N : Nat} {S M : mem} (h : R N S M) (x : Int32) : op2 (f_X3_letter n S x) (f_X4_letter n M x) := by
  have hT := h.thr 0
  obtain ⟨⟨T, t1, t2, t3, t4⟩, q⟩ := h.2.2.2.2.2.2.2.2.2.2.1
  rcases outC (n := n) S (mup M 0 0 0 0) x 0 26 with ⟨e1, e2⟩ | ⟨b1, b2, e1, e2⟩
  · exact ⟨-1000002, S, _, N, by simp [f_X3_letter, e1, cal], by simp [f_X4_letter, e2, cal], hT⟩
  · obtain ⟨a, a1, a2, rfl⟩ := bd_of (a := 0) (b := 26) (by omega) (by omega) b1 b2
    by_cases ha : a = 0
    · subst ha
      rw [nI_0] at e1 e2 ⊢
      exact ⟨0, _, _, N, by simp [f_X3_letter, e1, cal], by simp [f_X4_letter, e2, cal], h.word0⟩
    · have ha0 : ¬ nI a = 0 := nI_ne0 (by omega) (by omega)
      by_cases hT4 : T = 24
      · subst hT4
        exact ⟨-1000004, S, _, N, by simp [f_X3_letter, e1, cal, ha0, t2, show nI 24 = 24 from rfl], by simp [f_X4_letter, e2, cal, ha0, t3, show nI 24 = 24 from rfl], hT⟩
      · have hlt : nI T < 24 := nI_lt (b := 24) (by omega) (by omega)
        have hne : ¬ nI T = 24 := fun e => hT4 ((nI_eq (b := 24) (by omega) (by omega)).mp e)
        obtain ⟨hp, hc⟩ := nI_in' (i := T) (N := 24) (by omega) (by omega)
        obtain ⟨hp1, hc1⟩ := nI_in' (i := T + 1) (N := 26) (by omega) (by omega)
        have hT24 : T < 24 := by omega
        have hT26 : T < 25 := by omega
        exact ⟨nI (T + 1), _, _, N, by simp [f_X3_letter, f_X0_addLetter, e1, cal, grd, ha0, t2, hlt, nI_1, hp1, hc1, hT26], by simp [f_X4_letter, e2, cal, grd, ha0, t3, hne, nI_1, hp, hc, hT24], h.word1 hT24 t2 t3 _ ⟨a, by omega, a2, rfl⟩⟩
theorem alone_eq {n N : Nat} {M : mem} {i : Nat} (hi : i < 61) : f_X4_alone n M (nI i) = some (al M i) := by
  cases i with
  | zero => simp [f_X4_alone, al, nI_0]
  | succ i =>
    have h0 : ¬ nI (i + 1) = 0 := nI_ne0 (by omega) (by omega)
    obtain ⟨hp, hc⟩ := nI_in' (i := i) (N := 60) (by omega) (by omega)
    have hlt : i < 60 := by omega
    simp [f_X4_alone, al, h0, nI_pred, grd, hp, hc, hlt]
theorem al_thr {M : mem} {v : Int32} {i : Nat} : al (mup M 0 0 0 v) i = al M i := al_cg (by intros; simp [mup_at]) (by intros; simp [mup_at]) (by intros; simp [mup_at]) i
theorem op_x {n N : Nat} {S M : mem} (h : R N S M) (x w : Int32) : opR S (f_X3_x n S x w) (f_X4_x n M x w) := by
  have hT := h.thr 0
  rcases isNoteC (n := n) hT.1 x with ⟨e1, e2⟩ | ⟨i, hi, rfl, e1, e2⟩
  · exact ⟨-1000001, _, N, by simp [f_X3_x, e1, cal], by simp [f_X4_x, e2, cal], hT⟩
  · have hN := h.1.2.2
    obtain ⟨hp, hc⟩ := nI_in' (i := i) (N := 60) (by omega) (by omega)
    have hlt : i < 60 := by omega
    rcases outC (n := n) S (mup M 0 0 0 0) w 0 1 with ⟨e3, e4⟩ | ⟨b1, b2, e3, e4⟩
    · exact ⟨-1000002, _, N, by simp [f_X3_x, e1, e3, cal], by simp [f_X4_x, e2, e4, cal], hT⟩
    · rcases h.2.2.2.2.2.2.2.2.1 with ⟨q1, q2⟩ | ⟨q1, q2, q3⟩
      · exact ⟨-1000003, _, N, by simp [f_X3_x, e1, e3, cal, q1], by simp [f_X4_x, e2, e4, cal, q2], hT⟩
      · have q := q3 i hi
        rcases in01 b1 b2 with rfl | rfl
        · exact ⟨M 19 0 i, _, N, by simp [f_X3_x, e1, e3, cal, grd, q1, hc, hp, hlt, q.1], by simp [f_X4_x, e2, e4, cal, grd, q2, hc, hp, hlt], hT⟩
        · exact ⟨M 19 0 i - al M i, _, N, by simp [f_X3_x, e1, e3, cal, grd, q1, hc, hp, hlt, q.2.2.2.1], by simp [f_X4_x, e2, e4, cal, grd, q2, hc, hp, hlt, alone_eq (n := n) (N := N) (M := mup M 0 0 0 0) (show i < 61 by omega), al_thr], hT⟩
