theorem R.lim {N : Nat} {S M : mem} (h : R N S M) (w : Int32) (hw : bd w 100 30000) : R N (mup (mup S 3 0 7 w) 3 0 8 0) (mup (mup (mup M 0 0 0 0) 0 0 17 w) 0 0 18 0) := by
  obtain ⟨h0, h1, h2, h3, h4, h4s, h5, h6, h7, h8, h9, h10⟩ := h
  have g6 : G6 (mup (mup S 3 0 7 w) 3 0 8 0) (mup (mup (mup M 0 0 0 0) 0 0 17 w) 0 0 18 0) := by
    unfold G6
    simp only [mup_at]
    simp
    exact ⟨h6.1, h6.2.1, h6.2.2.1, hw⟩
  refine ⟨h0.cg ?_ ?_, h1.cg ?_ ?_ ?_ ?_ ?_ ?_ ?_ ?_, h2.cg ?_ ?_ ?_ ?_, h3.cg ?_ ?_, h4.cg ?_ ?_ ?_ ?_ ?_ ?_ ?_ ?_, h4s.cg ?_ ?_, h5.cg ?_ ?_ ?_ ?_, g6, G7.no ?_ ?_, h8.cg ?_ ?_ ?_ ?_ ?_ ?_ ?_ ?_, h9.cg ?_ ?_ ?_ ?_ ?_ ?_ ?_ ?_, h10.cg ?_ ?_ ?_ ?_⟩ <;> (intros; simp [mup_at])
theorem op_limit {n N : Nat} {S M : mem} (h : R N S M) (w : Int32) : op2 (f_X3_limit n S w) (f_X4_limit n M w) := by
  rcases outC (n := n) S (mup M 0 0 0 0) w 100 30000 with ⟨e1, e2⟩ | ⟨b1, b2, e1, e2⟩
  · exact ⟨-1000002, S, _, N, by simp [f_X3_limit, e1, cal], by simp [f_X4_limit, e2, cal], h.thr 0⟩
  · have hw : bd w 100 30000 := bd_of (by omega) (by omega) b1 b2
    have h6 := h.2.2.2.2.2.2.2.1
    exact ⟨S 3 0 7, _, _, N, by simp [f_X3_limit, e1, cal], by simp [f_X4_limit, e2, cal, h6.2.2.2.1], h.lim w hw⟩
theorem R.chord {N : Nat} {S M : mem} (h : R N S M) {i : Nat} (hi : i < N) (w : Int32) (hw : bd w 0 200) : R N (mup (mup S 1 i 3 w) 3 0 8 0) (mup (mup (mup M 0 0 0 0) 5 0 i w) 0 0 18 0) := by
  obtain ⟨h0, h1, h2, h3, h4, h4s, h5, h6, h7, h8, h9, h10⟩ := h
  have g1 : G1 N (mup (mup S 1 i 3 w) 3 0 8 0) (mup (mup (mup M 0 0 0 0) 5 0 i w) 0 0 18 0) := by
    intro j hj
    have q := h1 j hj
    simp only [mup_at]
    by_cases hji : j = i
    · subst hji
      simp
      exact ⟨q.1, q.2.1, q.2.2.1, q.2.2.2.2.1, q.2.2.2.2.2.1, q.2.2.2.2.2.2.1, hw⟩
    · simp [hji]
      exact q
  refine ⟨h0.cg ?_ ?_, g1, h2.cg ?_ ?_ ?_ ?_, h3.cg ?_ ?_, h4.cg ?_ ?_ ?_ ?_ ?_ ?_ ?_ ?_, h4s.cg ?_ ?_, h5.cg ?_ ?_ ?_ ?_, h6.cg ?_ ?_ ?_ ?_ ?_ ?_, G7.no ?_ ?_, h8.cg ?_ ?_ ?_ ?_ ?_ ?_ ?_ ?_, h9.cg ?_ ?_ ?_ ?_ ?_ ?_ ?_ ?_, h10.cg ?_ ?_ ?_ ?_⟩ <;> (intros; simp [mup_at])
theorem op_chord {n N : Nat} {S M : mem} (h : R N S M) (x w : Int32) : op2 (f_X3_chord n S x w) (f_X4_chord n M x w) := by
  have hT := h.thr 0
  rcases isNoteC (n := n) hT.1 x with ⟨e1, e2⟩ | ⟨i, hi, rfl, e1, e2⟩
  · exact ⟨-1000001, S, _, N, by simp [f_X3_chord, e1, cal], by simp [f_X4_chord, e2, cal], hT⟩
  · rcases outC (n := n) S (mup M 0 0 0 0) w 0 200 with ⟨e3, e4⟩ | ⟨b1, b2, e3, e4⟩
    · exact ⟨-1000002, S, _, N, by simp [f_X3_chord, e1, e3, cal], by simp [f_X4_chord, e2, e4, cal], hT⟩
    · have hN := h.1.2.2
      have hp : 0 ≤ nI i := nI_pos' (by omega)
      have hlt : i < 60 := by omega
      have hc : (nI i).toNatClampNeg = i := nI_clamp (by omega)
      have q := h.2.1 i hi
      exact ⟨S 1 i 3, _, _, N, by simp [f_X3_chord, e1, e3, cal, grd, hc, hp, hlt], by simp [f_X4_chord, e2, e4, cal, grd, hc, hp, hlt, q.2.2.2.1], h.chord hi w (bd_of (by omega) (by omega) b1 b2)⟩
theorem R.align {N : Nat} {S M : mem} (h : R N S M) {v : Nat} (hv : v < 4) (w : Int32) (hw : bd w 0 2) : R N (mup (mup S 2 v 6 w) 3 0 8 0) (mup (mup (mup M 0 0 0 0) 15 0 v w) 0 0 18 0) := by
  obtain ⟨h0, h1, h2, h3, h4, h4s, h5, h6, h7, h8, h9, h10⟩ := h
  have g5 : G5 (mup (mup S 2 v 6 w) 3 0 8 0) (mup (mup (mup M 0 0 0 0) 15 0 v w) 0 0 18 0) := by
    intro j hj
    have q := h5 j hj
    simp only [mup_at]
    by_cases hji : j = v
    · subst hji
      simp
      exact ⟨hw, q.2.2⟩
    · simp [hji]
      exact q
  refine ⟨h0.cg ?_ ?_, h1.cg ?_ ?_ ?_ ?_ ?_ ?_ ?_ ?_, h2.cg ?_ ?_ ?_ ?_, h3.cg ?_ ?_, h4.cg ?_ ?_ ?_ ?_ ?_ ?_ ?_ ?_, h4s.cg ?_ ?_, g5, h6.cg ?_ ?_ ?_ ?_ ?_ ?_, G7.no ?_ ?_, h8.cg ?_ ?_ ?_ ?_ ?_ ?_ ?_ ?_, h9.cg ?_ ?_ ?_ ?_ ?_ ?_ ?_ ?_, h10.cg ?_ ?_ ?_ ?_⟩ <;> (intros; simp [mup_at])
theorem op_align {n N : Nat} {S M : mem} (h : R N S M) (x w : Int32) : op2 (f_X3_align n S x w) (f_X4_align n M x w) := by
  have hT := h.thr 0
  rcases isVerseC (n := n) S (mup M 0 0 0 0) x with ⟨e1, e2⟩ | ⟨i, hi, rfl, e1, e2⟩
  · exact ⟨-1000001, S, _, N, by simp [f_X3_align, e1, cal], by simp [f_X4_align, e2, cal], hT⟩
  · rcases outC (n := n) S (mup M 0 0 0 0) w 0 2 with ⟨e3, e4⟩ | ⟨b1, b2, e3, e4⟩
    · exact ⟨-1000002, S, _, N, by simp [f_X3_align, e1, e3, cal], by simp [f_X4_align, e2, e4, cal], hT⟩
    · have hp : 0 ≤ nI i := nI_pos' (by omega)
      have hc : (nI i).toNatClampNeg = i := nI_clamp (by omega)
      have q := h.2.2.2.2.2.2.1 i hi
      exact ⟨S 2 i 6, _, _, N, by simp [f_X3_align, e1, e3, cal, grd, hc, hp, hi], by simp [f_X4_align, e2, e4, cal, grd, hc, hp, hi, q.1], h.align hi w (bd_of (by omega) (by omega) b1 b2)⟩
