theorem R.note {N : Nat} {S M : mem} (h : R N S M) (hN : N < 60) {w l b : Int32} (hw : bd w 10 200) (hl : bd l 1 64) (hb : b01 b) : R (N + 1) (mup (mup (mup (mup (mup (mup (mup (mup (mup (mup (mup S 1 N 0 w) 1 N 1 l) 1 N 2 b) 1 N 3 0) 1 N 4 (-1)) 1 N 5 (-1)) 1 N 6 (-1)) 1 N 7 0) 1 N 8 0) 3 0 4 (nI (N + 1))) 3 0 8 0) (mup (mup (mup (mup (mup (mup (mup (mup (mup (mup (mup (mup (mup M 0 0 0 0) 2 0 N w) 3 0 N l) 4 0 N b) 5 0 N 0) 6 0 N (-1000009)) 8 0 N (-1000009)) 11 0 (4 * N + 0) 0) 11 0 (4 * N + 1) 0) 11 0 (4 * N + 2) 0) 11 0 (4 * N + 3) 0) 0 0 18 0) 0 0 1 (nI (N + 1))) := by
  obtain ⟨h0, h1, h2, h3, h4, h4s, h5, h6, h7, h8, h9, h10⟩ := h
  generalize hS' : mup (mup (mup (mup (mup (mup (mup (mup (mup (mup (mup S 1 N 0 w) 1 N 1 l) 1 N 2 b) 1 N 3 0) 1 N 4 (-1)) 1 N 5 (-1)) 1 N 6 (-1)) 1 N 7 0) 1 N 8 0) 3 0 4 (nI (N + 1))) 3 0 8 0 = S'
  generalize hM' : mup (mup (mup (mup (mup (mup (mup (mup (mup (mup (mup (mup (mup M 0 0 0 0) 2 0 N w) 3 0 N l) 4 0 N b) 5 0 N 0) 6 0 N (-1000009)) 8 0 N (-1000009)) 11 0 (4 * N + 0) 0) 11 0 (4 * N + 1) 0) 11 0 (4 * N + 2) 0) 11 0 (4 * N + 3) 0) 0 0 18 0) 0 0 1 (nI (N + 1)) = M'
  have s1 : ∀ i j, i ≠ N → S' 1 i j = S 1 i j := fun i j hi => by rw [← hS']; simp [mup_at, hi]
  have sk : ∀ k i j, k ≠ 1 → k ≠ 3 → S' k i j = S k i j := fun k i j h1 h2 => by rw [← hS']; simp [mup_at, h1, h2]
  have mk : ∀ k i, i ≠ N → k ≠ 0 → k ≠ 11 → M' k 0 i = M k 0 i := fun k i h1 h2 h3 => by rw [← hM']; simp [mup_at, h1, h2, h3]
  have mk2 : ∀ k i, k ≠ 0 → k ≠ 2 → k ≠ 3 → k ≠ 4 → k ≠ 5 → k ≠ 6 → k ≠ 8 → k ≠ 11 → M' k 0 i = M k 0 i := fun k i a1 a2 a3 a4 a5 a6 a7 a8 => by rw [← hM']; simp [mup_at, a1, a2, a3, a4, a5, a6, a7, a8]
  have m0 : ∀ j, j ≠ 0 → j ≠ 1 → j ≠ 18 → M' 0 0 j = M 0 0 j := fun j a1 a2 a3 => by rw [← hM']; simp [mup_at, a1, a2, a3]
  have m11 : ∀ j, j < 4 * N → M' 11 0 j = M 11 0 j := fun j hj => by rw [← hM']; simp [mup_at, show ¬ j = 4 * N by omega, show ¬ j = 4 * N + 1 by omega, show ¬ j = 4 * N + 2 by omega, show ¬ j = 4 * N + 3 by omega]
  have m11n : ∀ v, v < 4 → M' 11 0 (4 * N + v) = 0 := fun v hv => by
    rw [← hM']
    rcases (show v = 0 ∨ v = 1 ∨ v = 2 ∨ v = 3 by omega) with rfl | rfl | rfl | rfl <;> simp [mup_at]
  have ecn : ∀ v i, cn S' v i = cn S v i := fun v i => by unfold cn; rw [sk 7 v i (by omega) (by omega)]
  refine ⟨?_, ?_, ?_, ?_, ?_, ?_, ?_, ?_, ?_, ?_, ?_, ?_⟩
  · refine ⟨?_, ?_, by omega⟩
    · rw [← hS']; simp [mup_at]
    · rw [← hM']; simp [mup_at]
  · intro i hi
    by_cases e : i = N
    · subst e
      rw [← hS', ← hM']
      simp only [mup_at]
      simp
      exact ⟨hw, hl, hb, ⟨0, by omega, by omega, nI_0.symm⟩⟩
    · have := h1 i (by omega)
      simp only [s1 i _ e, mk 2 i e (by omega) (by omega), mk 3 i e (by omega) (by omega), mk 4 i e (by omega) (by omega), mk 5 i e (by omega) (by omega)]
      exact this
  · intro i hi
    by_cases e : i = N
    · subst e
      left
      rw [← hS', ← hM']
      simp [mup_at]
    · rcases h2 i (by omega) with ⟨q1, q2⟩ | ⟨f, z, f1, f2, f3, q1, q2, q3, q4, q5⟩
      · left
        exact ⟨by rw [s1 i 4 e]; exact q1, by rw [mk 6 i e (by omega) (by omega)]; exact q2⟩
      · right
        exact ⟨f, z, f1, f2, by omega, by rw [s1 i 4 e]; exact q1, by rw [mk 6 i e (by omega) (by omega)]; exact q2, by rw [s1 i 5 e]; exact q3, by rw [mk2 7 f (by omega) (by omega) (by omega) (by omega) (by omega) (by omega) (by omega) (by omega)]; exact q4, by rw [s1 f 4 (by omega)]; exact q5⟩
  · intro i hi
    by_cases e : i = N
    · subst e
      left
      rw [← hS', ← hM']
      simp [mup_at]
    · rcases h3 i (by omega) with ⟨q1, q2⟩ | ⟨f, f1, q1, q2⟩
      · left
        exact ⟨by rw [s1 i 6 e]; exact q1, by rw [mk 8 i e (by omega) (by omega)]; exact q2⟩
      · right
        exact ⟨f, f1, by rw [s1 i 6 e]; exact q1, by rw [mk 8 i e (by omega) (by omega)]; exact q2⟩
  · refine ⟨fun v i hv hi => ?_, fun v i hv hi hi6 => ?_⟩
    · by_cases e : i = N
      · subst e
        have z := h4.2 v i hv (by omega) hN
        have zc : cn S v i = 0 := by unfold cn; rw [z]; rfl
        refine ⟨by rw [sk 7 v i (by omega) (by omega), z, m11n v hv], ⟨0, by omega, by omega, by rw [sk 7 v i (by omega) (by omega), z, nI_0]⟩, fun k hk => ?_⟩
        rw [ecn, zc] at hk
        omega
      · have q := h4.1 v i hv (by omega)
        rw [ecn]
        refine ⟨by rw [sk 7 v i (by omega) (by omega), m11 _ (by omega)]; exact q.1, by rw [sk 7 v i (by omega) (by omega)]; exact q.2.1, fun k hk => ?_⟩
        rw [sk 8 _ _ (by omega) (by omega), sk 9 _ _ (by omega) (by omega), sk 10 _ _ (by omega) (by omega), mk2 12 _ (by omega) (by omega) (by omega) (by omega) (by omega) (by omega) (by omega) (by omega), mk2 13 _ (by omega) (by omega) (by omega) (by omega) (by omega) (by omega) (by omega) (by omega), mk2 14 _ (by omega) (by omega) (by omega) (by omega) (by omega) (by omega) (by omega) (by omega)]
        exact q.2.2 k hk
    · rw [sk 7 v i (by omega) (by omega)]
      exact h4.2 v i hv (by omega) hi6
  · intro v hv
    have z := h4.2 v N hv (by omega) hN
    have zc : cn S v N = 0 := by unfold cn; rw [z]; rfl
    rw [sumc, ecn, zc, sumc_eq (S := S) (S' := S') (fun j _ => ecn v j), sk 2 v 5 (by omega) (by omega)]
    exact h4s v hv
  · exact h5.cg (fun v => sk 2 v 6 (by omega) (by omega)) (fun v => sk 2 v 7 (by omega) (by omega)) (fun i => mk2 15 i (by omega) (by omega) (by omega) (by omega) (by omega) (by omega) (by omega) (by omega)) (fun i => mk2 16 i (by omega) (by omega) (by omega) (by omega) (by omega) (by omega) (by omega) (by omega))
  · refine h6.cg ?_ ?_ ?_ (m0 9 (by omega) (by omega) (by omega)) (m0 10 (by omega) (by omega) (by omega)) (m0 17 (by omega) (by omega) (by omega)) <;> (rw [← hS']; simp [mup_at])
  · refine G7.no ?_ ?_
    · rw [← hS']; simp [mup_at]
    · rw [← hM']; simp [mup_at]
  · exact h8.cg (sk 0 0 3 (by omega) (by omega)) (fun i => sk 12 0 i (by omega) (by omega)) (fun i => sk 13 0 i (by omega) (by omega)) (fun i => sk 14 0 i (by omega) (by omega)) (m0 22 (by omega) (by omega) (by omega)) (fun i => mk2 23 i (by omega) (by omega) (by omega) (by omega) (by omega) (by omega) (by omega) (by omega)) (fun i => mk2 24 i (by omega) (by omega) (by omega) (by omega) (by omega) (by omega) (by omega) (by omega)) (fun i => mk2 25 i (by omega) (by omega) (by omega) (by omega) (by omega) (by omega) (by omega) (by omega))
  · exact h9.cg (sk 0 0 5 (by omega) (by omega)) (sk 0 0 7 (by omega) (by omega)) (sk 0 0 8 (by omega) (by omega)) (fun i => sk 15 0 i (by omega) (by omega)) (m0 26 (by omega) (by omega) (by omega)) (m0 28 (by omega) (by omega) (by omega)) (m0 29 (by omega) (by omega) (by omega)) (fun i => mk2 27 i (by omega) (by omega) (by omega) (by omega) (by omega) (by omega) (by omega) (by omega))
  · exact h10.cg (sk 0 0 10 (by omega) (by omega)) (fun i => sk 17 0 i (by omega) (by omega)) (m0 30 (by omega) (by omega) (by omega)) (fun i => mk2 31 i (by omega) (by omega) (by omega) (by omega) (by omega) (by omega) (by omega) (by omega))
theorem op_note {n N : Nat} (hn : 10 ≤ n) {S M : mem} (h : R N S M) (w l b : Int32) (hb : b01 b) : op2 (f_X3_note n S w l b) (f_X4_note n M w l b) := by
  have hT := h.thr 0
  have hg : b = 0 ∨ b = 1 := hb
  rcases outC (n := n) S (mup M 0 0 0 0) w 10 200 with ⟨e1, e2⟩ | ⟨b1, b2, e1, e2⟩
  · exact ⟨-1000002, S, _, N, by simp [f_X3_note, e1, cal], by simp [f_X4_note, e2, cal], hT⟩
  · rcases outC (n := n) S (mup M 0 0 0 0) l 1 64 with ⟨e3, e4⟩ | ⟨b3, b4, e3, e4⟩
    · exact ⟨-1000002, S, _, N, by simp [f_X3_note, e1, e3, cal], by simp [f_X4_note, e2, e4, cal], hT⟩
    · obtain ⟨hS, hM, hN⟩ := h.1
      by_cases h60 : N = 60
      · subst h60
        exact ⟨-1000004, S, _, 60, by simp [f_X3_note, e1, e3, cal, hS, show nI 60 = 60 from rfl], by simp [f_X4_note, e2, e4, cal, hM, show nI 60 = 60 from rfl], hT⟩
      · have hlt : nI N < 60 := nI_lt (b := 60) (by omega) (by omega)
        obtain ⟨hp, hc⟩ := nI_in' (i := N) (N := 60) (by omega) (by omega)
        have hN6 : N < 60 := by omega
        refine ⟨nI N, _, _, N + 1, ?_, noteM hn hN6 hM w l b hb e2 e4, h.note hN6 (bd_of (by omega) (by omega) b1 b2) (bd_of (by omega) (by omega) b3 b4) hb⟩
        simp [f_X3_note, f_X1_become, e1, e3, cal, grd, hS, hlt, hp, hc, hN6, hg, mup_at, nI_1, nI_pred]
