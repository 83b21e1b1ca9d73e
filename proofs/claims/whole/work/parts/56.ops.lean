/-! a new note; the beginning -/
theorem nI_lt4 {i : Nat} (h : i < 4) : ¬ (4 : Int32) ≤ nI i := fun q => absurd ((nI_leI (a := 4) (by omega) (by omega)).mp q) (by omega)
theorem b_note107 {n N i : Nat} {M : mem} (hN : N < 60) (hM : M 0 0 1 = nI N) (hi : i < 4) : b_X4_note_107 n (nI i, M) = some (.inl (nI (i + 1), mup M 11 0 (4 * N + i) 0)) := by
  obtain ⟨hp, hc⟩ := nI_in' (i := 4 * N + i) (N := 240) (by omega) (by omega)
  have hlt : 4 * N + i < 240 := by omega
  simp [b_X4_note_107, hM, nI_lt4 hi, ix4, grd, hp, hc, hlt, nI_1]
theorem noteM {n N : Nat} {M : mem} (hn : 10 ≤ n) (hN : N < 60) (hM : M 0 0 1 = nI N) (w l b : Int32) (hb : b01 b) (e2 : f_X4_lies n (mup M 0 0 0 0) w 10 200 = some 1) (e4 : f_X4_lies n (mup M 0 0 0 0) l 1 64 = some 1) :
    f_X4_note n M w l b = some (nI N, mup (mup (mup (mup (mup (mup (mup (mup (mup (mup (mup (mup (mup M 0 0 0 0) 2 0 N w) 3 0 N l) 4 0 N b) 5 0 N 0) 6 0 N (-1000009)) 8 0 N (-1000009)) 11 0 (4 * N + 0) 0) 11 0 (4 * N + 1) 0) 11 0 (4 * N + 2) 0) 11 0 (4 * N + 3) 0) 0 0 18 0) 0 0 1 (nI (N + 1))) := by
  obtain ⟨hp, hc⟩ := nI_in' (i := N) (N := 60) (by omega) (by omega)
  have hne : ¬ nI N = 60 := fun e => absurd ((nI_eq (b := 60) (by omega) (by omega)).mp e) (by omega)
  have hg : b = 0 ∨ b = 1 := hb
  obtain ⟨k, rfl⟩ : ∃ k, n = k + 1 + 1 + 1 + 1 + 1 := ⟨n - 5, by omega⟩
  simp only [f_X4_note, e2, e4, cal_s, hM]
  simp only [show ¬ (1 : Int32) = 0 by decide, if_false, hne, hc, nar01 hg, if_neg hne]
  rw [grd_t (by intro q; rcases q with q | q; exact absurd hp (Int32.not_le.mpr q); omega)]
  have m1 : ∀ X : mem, X 0 0 1 = nI N → ∀ k c v, k ≠ 0 → (mup X k 0 c v) 0 0 1 = nI N := fun X hX k c v hk => by rw [mup_k (Ne.symm hk)]; exact hX
  have s0 : (mup (mup (mup (mup (mup (mup (mup M 0 0 0 0) 2 0 N w) 3 0 N l) 4 0 N b) 5 0 N 0) 6 0 N (-1000009)) 8 0 N (-1000009)) 0 0 1 = nI N := by simp [mup_at, hM]
  rw [show ((0 : Int32), (mup (mup (mup (mup (mup (mup (mup M 0 0 0 0) 2 0 N w) 3 0 N l) 4 0 N b) 5 0 N 0) 6 0 N (-1000009)) 8 0 N (-1000009))) = (nI 0, (mup (mup (mup (mup (mup (mup (mup M 0 0 0 0) 2 0 N w) 3 0 N l) 4 0 N b) 5 0 N 0) 6 0 N (-1000009)) 8 0 N (-1000009))) from rfl]
  rw [lp_go (b_note107 hN s0 (by omega)), lp_go (b_note107 hN (m1 _ s0 11 _ _ (by omega)) (by omega)), lp_go (b_note107 hN (m1 _ (m1 _ s0 11 _ _ (by omega)) 11 _ _ (by omega)) (by omega)), lp_go (b_note107 hN (m1 _ (m1 _ (m1 _ s0 11 _ _ (by omega)) 11 _ _ (by omega)) 11 _ _ (by omega)) (by omega))]
  refine lp_end ?_
  simp [b_X4_note_107, show (4 : Int32) ≤ nI (3 + 1) by decide, mup_at, hM, nI_1]
  exact nI_pred N
