/-! the law: every step answers alike -/
def Go (x4 : Int32) (x : Option ((Int32 × mem × mem × (Nat → Int64)) ⊕ Int32)) : Prop := ∃ S' M' o' N', x = some (.inl (x4 + 6, S', M', o')) ∧ R N' S' M'
theorem go_if {x : Int32} {c : Prop} [Decidable c] {a b : Option ((Int32 × mem × mem × (Nat → Int64)) ⊕ Int32)} (ha : Go x a) (hb : Go x b) : Go x (if c then a else b) := by
  by_cases h : c
  · rw [if_pos h]; exact ha
  · rw [if_neg h]; exact hb
section Law
variable {n N t L : Nat} {xs : Nat → Int32} {S M : mem} {o : Nat → Int64}
theorem gdI {t L c : Nat} (h : t + c < L) (hL : L ≤ 3072) : (nI (t + c)).toNatClampNeg = t + c ∧ ¬ (nI (t + c) < 0 ∨ L ≤ t + c) := ⟨nI_clamp (by omega), fun q => q.elim (nI_pos (by omega)) (by omega)⟩
theorem go_0 (hn : 500 ≤ n) (hL : L ≤ 3072) (ht : t + 6 ≤ L) (h : R N S M) : Go (nI t) (k_law_0 n xs L (nI t) S M o) := by
  obtain ⟨c1, g1⟩ := gdI (t := t) (L := L) (c := 1) (by omega) hL
  have e1 : nI t + 1 = nI (t + 1) := nI_add t 1
  obtain ⟨c2, g2⟩ := gdI (t := t) (L := L) (c := 2) (by omega) hL
  have e2 : nI t + 2 = nI (t + 2) := nI_add t 2
  obtain ⟨c3, g3⟩ := gdI (t := t) (L := L) (c := 3) (by omega) hL
  have e3 : nI t + 3 = nI (t + 3) := nI_add t 3
  by_cases z : xs (t + 3) = 0
  · obtain ⟨r, S', M', N', h1, h2, h3⟩ := op_note (n := n) (by omega) h (xs (t + 1)) (xs (t + 2)) 0 (Or.inl rfl)
    exact ⟨S', M', o, N', by simp only [k_law_0, j_law_195, j_law_225, grd, cal, not_false_eq_true, if_true, if_false, e1, c1, g1, e2, c2, g2, e3, c3, g3, z, h1, h2], h3⟩
  · obtain ⟨r, S', M', N', h1, h2, h3⟩ := op_note (n := n) (by omega) h (xs (t + 1)) (xs (t + 2)) 1 (Or.inr rfl)
    exact ⟨S', M', o, N', by simp only [k_law_0, j_law_195, j_law_225, grd, cal, not_false_eq_true, if_true, if_false, e1, c1, g1, e2, c2, g2, e3, c3, g3, z, h1, h2], h3⟩
theorem go_1 (hn : 500 ≤ n) (hL : L ≤ 3072) (ht : t + 6 ≤ L) (h : R N S M) : Go (nI t) (k_law_1 n xs L (nI t) S M o) := by
  obtain ⟨c1, g1⟩ := gdI (t := t) (L := L) (c := 1) (by omega) hL
  have e1 : nI t + 1 = nI (t + 1) := nI_add t 1
  obtain ⟨c2, g2⟩ := gdI (t := t) (L := L) (c := 2) (by omega) hL
  have e2 : nI t + 2 = nI (t + 2) := nI_add t 2
  obtain ⟨c3, g3⟩ := gdI (t := t) (L := L) (c := 3) (by omega) hL
  have e3 : nI t + 3 = nI (t + 3) := nI_add t 3
  obtain ⟨c4, g4⟩ := gdI (t := t) (L := L) (c := 4) (by omega) hL
  have e4 : nI t + 4 = nI (t + 4) := nI_add t 4
  obtain ⟨c5, g5⟩ := gdI (t := t) (L := L) (c := 5) (by omega) hL
  have e5 : nI t + 5 = nI (t + 5) := nI_add t 5
  by_cases z : xs (t + 5) = 0
  · obtain ⟨r, S', M', N', h1, h2, h3⟩ := op_syllable (n := n) h (xs (t + 1)) (xs (t + 2)) (xs (t + 3)) (xs (t + 4)) 0 (Or.inl rfl)
    exact ⟨S', M', o, N', by simp only [k_law_1, j_law_272, j_law_314, grd, cal, not_false_eq_true, if_true, if_false, e1, c1, g1, e2, c2, g2, e3, c3, g3, e4, c4, g4, e5, c5, g5, z, h1, h2], h3⟩
  · obtain ⟨r, S', M', N', h1, h2, h3⟩ := op_syllable (n := n) h (xs (t + 1)) (xs (t + 2)) (xs (t + 3)) (xs (t + 4)) 1 (Or.inr rfl)
    exact ⟨S', M', o, N', by simp only [k_law_1, j_law_272, j_law_314, grd, cal, not_false_eq_true, if_true, if_false, e1, c1, g1, e2, c2, g2, e3, c3, g3, e4, c4, g4, e5, c5, g5, z, h1, h2], h3⟩
theorem go_2 (hn : 500 ≤ n) (hL : L ≤ 3072) (ht : t + 6 ≤ L) (h : R N S M) : Go (nI t) (k_law_2 n xs L (nI t) S M o) := by
  obtain ⟨c1, g1⟩ := gdI (t := t) (L := L) (c := 1) (by omega) hL
  have e1 : nI t + 1 = nI (t + 1) := nI_add t 1
  obtain ⟨c2, g2⟩ := gdI (t := t) (L := L) (c := 2) (by omega) hL
  have e2 : nI t + 2 = nI (t + 2) := nI_add t 2
  obtain ⟨r, S', M', N', h1, h2, h3⟩ := op_wipe (n := n) h (xs (t + 1)) (xs (t + 2))
  exact ⟨S', M', o, N', by simp only [k_law_2, grd, cal, not_false_eq_true, if_true, e1, c1, g1, e2, c2, g2, h1, h2], h3⟩
theorem go_3 (hn : 500 ≤ n) (hL : L ≤ 3072) (ht : t + 6 ≤ L) (h : R N S M) : Go (nI t) (k_law_3 n xs L (nI t) S M o) := by
  obtain ⟨c1, g1⟩ := gdI (t := t) (L := L) (c := 1) (by omega) hL
  have e1 : nI t + 1 = nI (t + 1) := nI_add t 1
  obtain ⟨c2, g2⟩ := gdI (t := t) (L := L) (c := 2) (by omega) hL
  have e2 : nI t + 2 = nI (t + 2) := nI_add t 2
  obtain ⟨r, S', M', N', h1, h2, h3⟩ := op_chord (n := n) h (xs (t + 1)) (xs (t + 2))
  exact ⟨S', M', o, N', by simp only [k_law_3, grd, cal, not_false_eq_true, if_true, e1, c1, g1, e2, c2, g2, h1, h2], h3⟩
theorem go_4 (hn : 500 ≤ n) (hL : L ≤ 3072) (ht : t + 6 ≤ L) (h : R N S M) : Go (nI t) (k_law_4 n xs L (nI t) S M o) := by
  obtain ⟨c1, g1⟩ := gdI (t := t) (L := L) (c := 1) (by omega) hL
  have e1 : nI t + 1 = nI (t + 1) := nI_add t 1
  obtain ⟨c2, g2⟩ := gdI (t := t) (L := L) (c := 2) (by omega) hL
  have e2 : nI t + 2 = nI (t + 2) := nI_add t 2
  obtain ⟨r, S', M', N', h1, h2, h3⟩ := op_melisma (n := n) (by omega) h (xs (t + 1)) (xs (t + 2))
  exact ⟨S', M', o, N', by simp only [k_law_4, grd, cal, not_false_eq_true, if_true, e1, c1, g1, e2, c2, g2, h1, h2], h3⟩
theorem go_5 (hn : 500 ≤ n) (hL : L ≤ 3072) (ht : t + 6 ≤ L) (h : R N S M) : Go (nI t) (k_law_5 n xs L (nI t) S M o) := by
  obtain ⟨c1, g1⟩ := gdI (t := t) (L := L) (c := 1) (by omega) hL
  have e1 : nI t + 1 = nI (t + 1) := nI_add t 1
  obtain ⟨c2, g2⟩ := gdI (t := t) (L := L) (c := 2) (by omega) hL
  have e2 : nI t + 2 = nI (t + 2) := nI_add t 2
  obtain ⟨r, S', M', N', h1, h2, h3⟩ := op_refrain (n := n) (by omega) h (xs (t + 1)) (xs (t + 2))
  exact ⟨S', M', o, N', by simp only [k_law_5, grd, cal, not_false_eq_true, if_true, e1, c1, g1, e2, c2, g2, h1, h2], h3⟩
theorem go_6 (hn : 500 ≤ n) (hL : L ≤ 3072) (ht : t + 6 ≤ L) (h : R N S M) : Go (nI t) (k_law_6 n xs L (nI t) S M o) := by
  obtain ⟨c1, g1⟩ := gdI (t := t) (L := L) (c := 1) (by omega) hL
  have e1 : nI t + 1 = nI (t + 1) := nI_add t 1
  obtain ⟨c2, g2⟩ := gdI (t := t) (L := L) (c := 2) (by omega) hL
  have e2 : nI t + 2 = nI (t + 2) := nI_add t 2
  obtain ⟨r, S', M', N', h1, h2, h3⟩ := op_align (n := n) h (xs (t + 1)) (xs (t + 2))
  exact ⟨S', M', o, N', by simp only [k_law_6, grd, cal, not_false_eq_true, if_true, e1, c1, g1, e2, c2, g2, h1, h2], h3⟩
theorem go_7 (hn : 500 ≤ n) (hL : L ≤ 3072) (ht : t + 6 ≤ L) (h : R N S M) : Go (nI t) (k_law_7 n xs L (nI t) S M o) := by
  obtain ⟨c1, g1⟩ := gdI (t := t) (L := L) (c := 1) (by omega) hL
  have e1 : nI t + 1 = nI (t + 1) := nI_add t 1
  obtain ⟨c2, g2⟩ := gdI (t := t) (L := L) (c := 2) (by omega) hL
  have e2 : nI t + 2 = nI (t + 2) := nI_add t 2
  by_cases z : xs (t + 2) = 0
  · obtain ⟨r, S', M', N', h1, h2, h3⟩ := op_translation (n := n) h (xs (t + 1)) 0 (Or.inl rfl)
    exact ⟨S', M', o, N', by simp only [k_law_7, j_law_528, j_law_552, grd, cal, not_false_eq_true, if_true, if_false, e1, c1, g1, e2, c2, g2, z, h1, h2], h3⟩
  · obtain ⟨r, S', M', N', h1, h2, h3⟩ := op_translation (n := n) h (xs (t + 1)) 1 (Or.inr rfl)
    exact ⟨S', M', o, N', by simp only [k_law_7, j_law_528, j_law_552, grd, cal, not_false_eq_true, if_true, if_false, e1, c1, g1, e2, c2, g2, z, h1, h2], h3⟩
theorem go_8 (hn : 500 ≤ n) (hL : L ≤ 3072) (ht : t + 6 ≤ L) (h : R N S M) : Go (nI t) (k_law_8 n xs L (nI t) S M o) := by
  obtain ⟨c1, g1⟩ := gdI (t := t) (L := L) (c := 1) (by omega) hL
  have e1 : nI t + 1 = nI (t + 1) := nI_add t 1
  obtain ⟨r, S', M', N', h1, h2, h3⟩ := op_limit (n := n) h (xs (t + 1))
  exact ⟨S', M', o, N', by simp only [k_law_8, grd, cal, not_false_eq_true, if_true, e1, c1, g1, h1, h2], h3⟩
theorem go_9 (hn : 500 ≤ n) (hL : L ≤ 3072) (ht : t + 6 ≤ L) (h : R N S M) : Go (nI t) (k_law_9 n xs L (nI t) S M o) := by
  obtain ⟨r, S', M', N', h1, h2, h3⟩ := op_place (n := n) (by omega) h 
  exact ⟨S', M', o, N', by simp only [k_law_9, grd, cal, not_false_eq_true, if_true, h1, h2], h3⟩
theorem go_10 (hn : 500 ≤ n) (hL : L ≤ 3072) (ht : t + 6 ≤ L) (h : R N S M) : Go (nI t) (k_law_10 n xs L (nI t) S M o) := by
  obtain ⟨c1, g1⟩ := gdI (t := t) (L := L) (c := 1) (by omega) hL
  have e1 : nI t + 1 = nI (t + 1) := nI_add t 1
  obtain ⟨c2, g2⟩ := gdI (t := t) (L := L) (c := 2) (by omega) hL
  have e2 : nI t + 2 = nI (t + 2) := nI_add t 2
  obtain ⟨r, M', N', h1, h2, h3⟩ := op_x (n := n) h (xs (t + 1)) (xs (t + 2))
  exact ⟨S, M', o, N', by simp only [k_law_10, grd, cal, not_false_eq_true, if_true, e1, c1, g1, e2, c2, g2, h1, h2], h3⟩
theorem go_11 (hn : 500 ≤ n) (hL : L ≤ 3072) (ht : t + 6 ≤ L) (h : R N S M) : Go (nI t) (k_law_11 n xs L (nI t) S M o) := by
  obtain ⟨c1, g1⟩ := gdI (t := t) (L := L) (c := 1) (by omega) hL
  have e1 : nI t + 1 = nI (t + 1) := nI_add t 1
  obtain ⟨c2, g2⟩ := gdI (t := t) (L := L) (c := 2) (by omega) hL
  have e2 : nI t + 2 = nI (t + 2) := nI_add t 2
  obtain ⟨c3, g3⟩ := gdI (t := t) (L := L) (c := 3) (by omega) hL
  have e3 : nI t + 3 = nI (t + 3) := nI_add t 3
  obtain ⟨r, M', N', h1, h2, h3⟩ := op_box (n := n) h (xs (t + 1)) (xs (t + 2)) (xs (t + 3))
  exact ⟨S, M', o, N', by simp only [k_law_11, grd, cal, not_false_eq_true, if_true, e1, c1, g1, e2, c2, g2, e3, c3, g3, h1, h2], h3⟩
theorem go_12 (hn : 500 ≤ n) (hL : L ≤ 3072) (ht : t + 6 ≤ L) (h : R N S M) : Go (nI t) (k_law_12 n xs L (nI t) S M o) := by
  obtain ⟨c1, g1⟩ := gdI (t := t) (L := L) (c := 1) (by omega) hL
  have e1 : nI t + 1 = nI (t + 1) := nI_add t 1
  obtain ⟨c2, g2⟩ := gdI (t := t) (L := L) (c := 2) (by omega) hL
  have e2 : nI t + 2 = nI (t + 2) := nI_add t 2
  obtain ⟨r, M', N', h1, h2, h3⟩ := op_hyphens (n := n) (by omega) h (xs (t + 1)) (xs (t + 2))
  exact ⟨S, M', o, N', by simp only [k_law_12, grd, cal, not_false_eq_true, if_true, e1, c1, g1, e2, c2, g2, h1, h2], h3⟩
theorem go_13 (hn : 500 ≤ n) (hL : L ≤ 3072) (ht : t + 6 ≤ L) (h : R N S M) : Go (nI t) (k_law_13 n xs L (nI t) S M o) := by
  obtain ⟨c1, g1⟩ := gdI (t := t) (L := L) (c := 1) (by omega) hL
  have e1 : nI t + 1 = nI (t + 1) := nI_add t 1
  obtain ⟨c2, g2⟩ := gdI (t := t) (L := L) (c := 2) (by omega) hL
  have e2 : nI t + 2 = nI (t + 2) := nI_add t 2
  obtain ⟨c3, g3⟩ := gdI (t := t) (L := L) (c := 3) (by omega) hL
  have e3 : nI t + 3 = nI (t + 3) := nI_add t 3
  obtain ⟨q, r, M', N', h1, h2, h3, h4, h5⟩ := op_hyphen (n := n) (by omega) h (xs (t + 1)) (xs (t + 2)) (xs (t + 3))
  refine ⟨S, M', ctO o q, N', ?_, h5⟩
  cases q with
  | none => simp only [k_law_13, grd, cal, not_false_eq_true, if_true, e1, c1, g1, e2, c2, g2, e3, c3, g3, h1, h2, f_X4_thrown, h3, ctR, show ¬ (1 : Int32) = 0 by decide, if_false]
  | some y =>
    have hy := h4 y rfl
    subst hy
    have hc : lg_cmp (ctO o (some y) (Int32.toNatClampNeg 0)) y.toInt64 = 0 := (lg_cmp_eq _ _).mpr rfl
    simp only [k_law_13, grd, cal, not_false_eq_true, if_true, e1, c1, g1, e2, c2, g2, e3, c3, g3, h1, h2, f_X4_thrown, h3, hc, ctR]
theorem go_14 (hn : 500 ≤ n) (hL : L ≤ 3072) (ht : t + 6 ≤ L) (h : R N S M) : Go (nI t) (k_law_14 n xs L (nI t) S M o) := by
  obtain ⟨c1, g1⟩ := gdI (t := t) (L := L) (c := 1) (by omega) hL
  have e1 : nI t + 1 = nI (t + 1) := nI_add t 1
  obtain ⟨c2, g2⟩ := gdI (t := t) (L := L) (c := 2) (by omega) hL
  have e2 : nI t + 2 = nI (t + 2) := nI_add t 2
  obtain ⟨c3, g3⟩ := gdI (t := t) (L := L) (c := 3) (by omega) hL
  have e3 : nI t + 3 = nI (t + 3) := nI_add t 3
  obtain ⟨r, M', N', h1, h2, h3⟩ := op_line (n := n) (by omega) h (xs (t + 1)) (xs (t + 2)) (xs (t + 3))
  exact ⟨S, M', o, N', by simp only [k_law_14, grd, cal, not_false_eq_true, if_true, e1, c1, g1, e2, c2, g2, e3, c3, g3, h1, h2], h3⟩
theorem go_15 (hn : 500 ≤ n) (hL : L ≤ 3072) (ht : t + 6 ≤ L) (h : R N S M) : Go (nI t) (k_law_15 n xs L (nI t) S M o) := by
  obtain ⟨q, r, M', N', h1, h2, h3, h4, h5⟩ := op_strain (n := n) (by omega) h 
  refine ⟨S, M', ctO o q, N', ?_, h5⟩
  cases q with
  | none => simp only [k_law_15, grd, cal, not_false_eq_true, if_true, h1, h2, f_X4_thrown, h3, ctR, show ¬ (1 : Int32) = 0 by decide, if_false]
  | some y =>
    have hy := h4 y rfl
    subst hy
    have hc : lg_cmp (ctO o (some y) (Int32.toNatClampNeg 0)) y.toInt64 = 0 := (lg_cmp_eq _ _).mpr rfl
    simp only [k_law_15, grd, cal, not_false_eq_true, if_true, h1, h2, f_X4_thrown, h3, hc, ctR]
theorem go_16 (hn : 500 ≤ n) (hL : L ≤ 3072) (ht : t + 6 ≤ L) (h : R N S M) : Go (nI t) (k_law_16 n xs L (nI t) S M o) := by
  obtain ⟨r, S', M', N', h1, h2, h3⟩ := op_faults (n := n) (by omega) h 
  exact ⟨S', M', o, N', by simp only [k_law_16, grd, cal, not_false_eq_true, if_true, h1, h2], h3⟩
theorem go_17 (hn : 500 ≤ n) (hL : L ≤ 3072) (ht : t + 6 ≤ L) (h : R N S M) : Go (nI t) (k_law_17 n xs L (nI t) S M o) := by
  obtain ⟨c1, g1⟩ := gdI (t := t) (L := L) (c := 1) (by omega) hL
  have e1 : nI t + 1 = nI (t + 1) := nI_add t 1
  obtain ⟨c2, g2⟩ := gdI (t := t) (L := L) (c := 2) (by omega) hL
  have e2 : nI t + 2 = nI (t + 2) := nI_add t 2
  obtain ⟨r, S', M', N', h1, h2, h3⟩ := op_fault (n := n) (by omega) h (xs (t + 1)) (xs (t + 2))
  exact ⟨S', M', o, N', by simp only [k_law_17, grd, cal, not_false_eq_true, if_true, e1, c1, g1, e2, c2, g2, h1, h2], h3⟩
theorem go_18 (hn : 500 ≤ n) (hL : L ≤ 3072) (ht : t + 6 ≤ L) (h : R N S M) : Go (nI t) (k_law_18 n xs L (nI t) S M o) := by
  obtain ⟨c1, g1⟩ := gdI (t := t) (L := L) (c := 1) (by omega) hL
  have e1 : nI t + 1 = nI (t + 1) := nI_add t 1
  obtain ⟨r, M', N', h1, h2, h3⟩ := op_shares (n := n) (by omega) h (xs (t + 1))
  exact ⟨S, M', o, N', by simp only [k_law_18, grd, cal, not_false_eq_true, if_true, e1, c1, g1, h1, h2], h3⟩
theorem go_19 (hn : 500 ≤ n) (hL : L ≤ 3072) (ht : t + 6 ≤ L) (h : R N S M) : Go (nI t) (k_law_19 n xs L (nI t) S M o) := by
  obtain ⟨c1, g1⟩ := gdI (t := t) (L := L) (c := 1) (by omega) hL
  have e1 : nI t + 1 = nI (t + 1) := nI_add t 1
  obtain ⟨r, M', N', h1, h2, h3⟩ := op_row (n := n) (by omega) h (xs (t + 1))
  exact ⟨S, M', o, N', by simp only [k_law_19, grd, cal, not_false_eq_true, if_true, e1, c1, g1, h1, h2], h3⟩
theorem go_20 (hn : 500 ≤ n) (hL : L ≤ 3072) (ht : t + 6 ≤ L) (h : R N S M) : Go (nI t) (k_law_20 n xs L (nI t) S M o) := by
  obtain ⟨c1, g1⟩ := gdI (t := t) (L := L) (c := 1) (by omega) hL
  have e1 : nI t + 1 = nI (t + 1) := nI_add t 1
  obtain ⟨c2, g2⟩ := gdI (t := t) (L := L) (c := 2) (by omega) hL
  have e2 : nI t + 2 = nI (t + 2) := nI_add t 2
  obtain ⟨r, M', N', h1, h2, h3⟩ := op_in (n := n) h (xs (t + 1)) (xs (t + 2))
  exact ⟨S, M', o, N', by simp only [k_law_20, grd, cal, not_false_eq_true, if_true, e1, c1, g1, e2, c2, g2, h1, h2], h3⟩
theorem go_21 (hn : 500 ≤ n) (hL : L ≤ 3072) (ht : t + 6 ≤ L) (h : R N S M) : Go (nI t) (k_law_21 n xs L (nI t) S M o) := by
  obtain ⟨c1, g1⟩ := gdI (t := t) (L := L) (c := 1) (by omega) hL
  have e1 : nI t + 1 = nI (t + 1) := nI_add t 1
  obtain ⟨c2, g2⟩ := gdI (t := t) (L := L) (c := 2) (by omega) hL
  have e2 : nI t + 2 = nI (t + 2) := nI_add t 2
  obtain ⟨c3, g3⟩ := gdI (t := t) (L := L) (c := 3) (by omega) hL
  have e3 : nI t + 3 = nI (t + 3) := nI_add t 3
  obtain ⟨r, S', M', N', h1, h2, h3⟩ := op_pattern (n := n) (by omega) h (((Int32.toInt64 (xs (t + 1))) <<< (Int32.toInt64 32 &&& 63)) ||| ((Int32.toInt64 (xs (t + 2))) &&& 4294967295)) (xs (t + 3))
  exact ⟨S', M', o, N', by simp only [k_law_21, grd, cal, not_false_eq_true, if_true, e1, c1, g1, e2, c2, g2, e3, c3, g3, h1, h2], h3⟩
theorem go_22 (hn : 500 ≤ n) (hL : L ≤ 3072) (ht : t + 6 ≤ L) (h : R N S M) : Go (nI t) (k_law_22 n xs L (nI t) S M o) := by
  obtain ⟨c1, g1⟩ := gdI (t := t) (L := L) (c := 1) (by omega) hL
  have e1 : nI t + 1 = nI (t + 1) := nI_add t 1
  obtain ⟨r, S', M', N', h1, h2, h3⟩ := op_letter (n := n) h (xs (t + 1))
  exact ⟨S', M', o, N', by simp only [k_law_22, grd, cal, not_false_eq_true, if_true, e1, c1, g1, h1, h2], h3⟩
theorem go_23 (hn : 500 ≤ n) (hL : L ≤ 3072) (ht : t + 6 ≤ L) (h : R N S M) : Go (nI t) (k_law_23 n xs L (nI t) S M o) := by
  obtain ⟨c1, g1⟩ := gdI (t := t) (L := L) (c := 1) (by omega) hL
  have e1 : nI t + 1 = nI (t + 1) := nI_add t 1
  obtain ⟨c2, g2⟩ := gdI (t := t) (L := L) (c := 2) (by omega) hL
  have e2 : nI t + 2 = nI (t + 2) := nI_add t 2
  obtain ⟨r, S', M', N', h1, h2, h3⟩ := op_sides (n := n) h (xs (t + 1)) (xs (t + 2))
  exact ⟨S', M', o, N', by simp only [k_law_23, grd, cal, not_false_eq_true, if_true, e1, c1, g1, e2, c2, g2, h1, h2], h3⟩
theorem go_24 (hn : 500 ≤ n) (hL : L ≤ 3072) (ht : t + 6 ≤ L) (h : R N S M) : Go (nI t) (k_law_24 n xs L (nI t) S M o) := by
  obtain ⟨r, S', M', N', h1, h2, h3⟩ := op_cuts (n := n) (by omega) h 
  exact ⟨S', M', o, N', by simp only [k_law_24, grd, cal, not_false_eq_true, if_true, h1, h2], h3⟩
theorem go_25 (hn : 500 ≤ n) (hL : L ≤ 3072) (ht : t + 6 ≤ L) (h : R N S M) : Go (nI t) (k_law_25 n xs L (nI t) S M o) := by
  obtain ⟨c1, g1⟩ := gdI (t := t) (L := L) (c := 1) (by omega) hL
  have e1 : nI t + 1 = nI (t + 1) := nI_add t 1
  obtain ⟨q, r, M', N', h1, h2, h3, h4, h5⟩ := op_cut (n := n) h (xs (t + 1))
  refine ⟨S, M', ctO o q, N', ?_, h5⟩
  cases q with
  | none => simp only [k_law_25, grd, cal, not_false_eq_true, if_true, e1, c1, g1, h1, h2, f_X4_thrown, h3, ctR, show ¬ (1 : Int32) = 0 by decide, if_false]
  | some y =>
    have hy := h4 y rfl
    subst hy
    have hc : lg_cmp (ctO o (some y) (Int32.toNatClampNeg 0)) y.toInt64 = 0 := (lg_cmp_eq _ _).mpr rfl
    simp only [k_law_25, grd, cal, not_false_eq_true, if_true, e1, c1, g1, h1, h2, f_X4_thrown, h3, hc, ctR]
theorem go_26 (hn : 500 ≤ n) (hL : L ≤ 3072) (ht : t + 6 ≤ L) (h : R N S M) : Go (nI t) (k_law_26 n xs L (nI t) S M o) := by
  obtain ⟨c1, g1⟩ := gdI (t := t) (L := L) (c := 1) (by omega) hL
  have e1 : nI t + 1 = nI (t + 1) := nI_add t 1
  obtain ⟨r, M', N', h1, h2, h3⟩ := op_told (n := n) (by omega) h (xs (t + 1))
  exact ⟨S, M', o, N', by simp only [k_law_26, grd, cal, not_false_eq_true, if_true, e1, c1, g1, h1, h2], h3⟩
theorem go_27 (hn : 500 ≤ n) (hL : L ≤ 3072) (ht : t + 6 ≤ L) (h : R N S M) : Go (nI t) (k_law_27 n xs L (nI t) S M o) := by
  obtain ⟨r, S', M', N', h1, h2, h3⟩ := op_clear (n := n) (by omega) h 
  exact ⟨S', M', o, N', by simp only [k_law_27, grd, cal, not_false_eq_true, if_true, h1, h2], h3⟩
theorem go_law (hn : 500 ≤ n) (hL : L ≤ 3072) (ht : t + 6 ≤ L) (h : R N S M) : Go (nI t) (b_law n xs L (nI t, S, M, o)) := by
  obtain ⟨c0, g0⟩ := gdI (t := t) (L := L) (c := 0) (by omega) hL
  rw [Nat.add_zero] at c0 g0
  have hend : ¬ Int32.ofNat L - 6 < nI t := by
    show ¬ nI L - nI 6 < nI t
    rw [pk_sub (by omega)]
    exact nI_nlt (by omega) (by omega)
  simp only [b_law, hend, if_false, grd, c0, g0, not_false_eq_true, if_true]
  refine go_if (go_0 hn hL ht h) ?_
  refine go_if (go_1 hn hL ht h) ?_
  refine go_if (go_2 hn hL ht h) ?_
  refine go_if (go_3 hn hL ht h) ?_
  refine go_if (go_4 hn hL ht h) ?_
  refine go_if (go_5 hn hL ht h) ?_
  refine go_if (go_6 hn hL ht h) ?_
  refine go_if (go_7 hn hL ht h) ?_
  refine go_if (go_8 hn hL ht h) ?_
  refine go_if (go_9 hn hL ht h) ?_
  refine go_if (go_10 hn hL ht h) ?_
  refine go_if (go_11 hn hL ht h) ?_
  refine go_if (go_12 hn hL ht h) ?_
  refine go_if (go_13 hn hL ht h) ?_
  refine go_if (go_14 hn hL ht h) ?_
  refine go_if (go_15 hn hL ht h) ?_
  refine go_if (go_16 hn hL ht h) ?_
  refine go_if (go_17 hn hL ht h) ?_
  refine go_if (go_18 hn hL ht h) ?_
  refine go_if (go_19 hn hL ht h) ?_
  refine go_if (go_20 hn hL ht h) ?_
  refine go_if (go_21 hn hL ht h) ?_
  refine go_if (go_22 hn hL ht h) ?_
  refine go_if (go_23 hn hL ht h) ?_
  refine go_if (go_24 hn hL ht h) ?_
  refine go_if (go_25 hn hL ht h) ?_
  refine go_if (go_26 hn hL ht h) ?_
  refine go_if (go_27 hn hL ht h) ?_
  exact ⟨S, M, o, N, rfl, h⟩
end Law
theorem pure_law (xs : Nat → Int32) (L : Nat) (hL : L ≤ 3072) : ∃ (n k : Nat) (M1 : mem), k ≤ 4000 ∧ f_X4_fresh n M0M = some M1 ∧ lp (b_law n xs L) k (0, S0C, M1, fun _ => 0) = some 1 := by
  obtain ⟨M1, m1, m2, m3⟩ := freshM (n := 1000) (by omega) M0M
  have h0 : R 0 S0C M1 := by
    refine R_start ?_ ?_ ?_ ?_ ?_ m2 m3
    · simp [S0C, mup_at]
    · intro v i _ _; simp [S0C, mup_at]
    · intro v _; simp [S0C, mup_at]
    · simp [S0C, mup_at]
    · simp [S0C, mup_at]
  have key : ∃ r, lp (b_law 1000 xs L) 1000 (0, S0C, M1, fun _ => 0) = some r ∧ r = 1 := by
    refine lp_up (I := fun i (q : Int32 × mem × mem × (Nat → Int64)) => q.1 = nI (6 * i) ∧ ∃ N, R N q.2.1 q.2.2.1) (Q := fun r => r = 1) (L / 6) ?_ ?_ 1000 0 (0, S0C, M1, fun _ => 0) (by omega) (by omega) ⟨rfl, 0, h0⟩
    · rintro i ⟨x, S, M, o⟩ hi ⟨hx, N, h⟩
      dsimp only at hx h
      subst hx
      left
      obtain ⟨S', M', o', N', e, h'⟩ := go_law (n := 1000) (t := 6 * i) (xs := xs) (o := o) (by omega) hL (by omega) h
      exact ⟨_, e, (nI_add (6 * i) 6).trans (by rw [show 6 * i + 6 = 6 * (i + 1) by omega]), N', h'⟩
    · rintro ⟨x, S, M, o⟩ ⟨hx, -⟩
      dsimp only at hx
      subst hx
      have hend : Int32.ofNat L - 6 < nI (6 * (L / 6)) := by
        show nI L - nI 6 < nI (6 * (L / 6))
        by_cases h6 : 6 ≤ L
        · rw [pk_sub h6]
          exact nI_lt (by omega) (by omega)
        · exact Int32.lt_of_lt_of_le (pk_sneg (by omega) (by omega)) (nI_pos' (by omega))
      exact ⟨1, by simp only [b_law, hend, if_true], rfl⟩
  obtain ⟨r, r1, rfl⟩ := key
  exact ⟨1000, 1000, M1, by omega, m1, r1⟩
