section PM
variable {n N : Nat} {S T M : mem}
theorem pef_max (F : Nat → Nat) (x i : Nat) (e : Nat) : ∀ k, max e (pef S F x i (k + 1)) = if cn S k i = 0 then max e (pef S F x i k) else max (max e (pef S F x i k)) (pbf S F x k i + bw S k i) := by
  intro k
  rw [pef]
  split <;> omega
/-- the ends of a note's boxes -/
theorem endsM (hn : 100 ≤ n) (hT : RB N S T) {i : Nat} (hi : i < N) (hpl : plM S T (i + 1)) : ∃ r, lp (b_X4_place_24 n T (nI i)) n (nI (se S i), 0) = some r ∧ r = .inl (nI (se S (i + 1)), nI (i + 1), T) := by
  have hN := hT.1.2.2
  obtain ⟨b1, b2, b3, b4, b5⟩ := hT.st_le i (by omega)
  have bx := hT.sx_le hi
  obtain ⟨p1, p2⟩ := hpl i (by omega)
  have bp := fun k hk => pef_le hT (i := i) (x := sx S i) (F := sF S i) (B := 2000 * i + 202) (by omega) (fun v hv => by have := b4 v hv; omega) (by omega) k hk
  refine lp_up (I := fun j (q : Int32 × Int32) => q = (nI (max (se S i) (pef S (sF S i) (sx S i) i j)), nI j)) (Q := fun r : (Int32 × Int32 × mem) ⊕ (Int32 × mem) => r = .inl (nI (se S (i + 1)), nI (i + 1), T)) 4 ?_ ?_ n 0 (nI (se S i), 0) (by omega) (by omega) (by simp [pef]; rfl)
  · rintro j q hj rfl
    left
    have h1 := hT.boxM (n := n) hj hi
    have bp := bp j (by omega)
    refine ⟨_, ?_, rfl⟩
    rw [pef_max]
    by_cases e : cn S j i = 0
    · rw [if_pos e] at h1 ⊢
      simp [b_X4_place_24, nI_lt4 hj, cal, h1, nI_1]
    · rw [if_neg e] at h1 ⊢
      have h2 := hT.endM (n := n) hj hi (by omega)
      rw [p2 j hj e, nI_add] at h2
      have h3 := hT.bw_le hj hi (by omega)
      have h4 := hT.sb_le hj hi
      have h5 := greaterM (n := n) (M := T) (a := max (se S i) (pef S (sF S i) (sx S i) i j)) (b := sb S j i + bw S j i) (by omega) (by omega)
      rw [show pbf S (sF S i) (sx S i) j i = sb S j i from rfl]
      generalize max (se S i) (pef S (sF S i) (sx S i) i j) = m at h5 ⊢
      simp [b_X4_place_24, nI_lt4 hj, cal, h1, h2, h5, nI_1]
  · rintro q rfl
    have bp := bp 4 (by omega)
    obtain ⟨hpi, hci⟩ := nI_in' (i := i) (N := 60) (by omega) (by omega)
    obtain ⟨-, -, -, -, -, -, h8, -, -, h9⟩ := hT.g1 (i := i) (by omega)
    refine ⟨_, ?_, rfl⟩
    rw [se_s]
    by_cases e : cC S i = 0
    · rw [if_pos e]
      rw [e] at h9
      simp [b_X4_place_24, show (4 : Int32) ≤ nI 4 by decide, grd, hpi, hci, show i < 60 by omega, h9, show nI 0 ≤ 0 by decide, nI_1]
    · rw [if_neg e]
      have e3 : ¬ nI (cC S i) ≤ 0 := nI_nle (by omega) (by omega)
      have h5 := greaterM (n := n) (M := T) (a := max (se S i) (pef S (sF S i) (sx S i) i 4)) (b := sx S i + cC S i) (by omega) (by omega)
      rw [show max (max (se S i) (sx S i + cC S i)) (pef S (sF S i) (sx S i) i 4) = max (max (se S i) (pef S (sF S i) (sx S i) i 4)) (sx S i + cC S i) by omega]
      generalize max (se S i) (pef S (sF S i) (sx S i) i 4) = m at h5 ⊢
      simp [b_X4_place_24, show (4 : Int32) ≤ nI 4 by decide, grd, hpi, hci, show i < 60 by omega, h9, e3, p1, nI_add, cal, h5, nI_1]
theorem outM {y l : Int32} : f_X4_greater n T 0 (y - l) = some (if y - l < 0 then 0 else y - l) := by
  unfold f_X4_greater
  by_cases h : y - l < 0
  · rw [if_pos h, if_neg (Int32.not_le.mpr h)]
  · rw [if_neg h, if_pos (Int32.not_lt.mp h)]
theorem placeM (hn : 100 ≤ n) (hb : RB N S M) : ∃ T', lp (b_X4_place_9 n) n (0, 0, M) = some (if nI (wide S N) - M 0 0 17 < 0 then 0 else nI (wide S N) - M 0 0 17, mup T' 0 0 18 1) ∧ agM M T' ∧ plM S T' N := by
  have hN := hb.1.2.2
  have key : ∃ r, lp (b_X4_place_9 n) n (0, 0, M) = some r ∧ ∃ T', r = (if nI (wide S N) - M 0 0 17 < 0 then 0 else nI (wide S N) - M 0 0 17, mup T' 0 0 18 1) ∧ agM M T' ∧ plM S T' N := by
    refine lp_up (I := fun i (q : Int32 × Int32 × mem) => ∃ T', q = (nI (se S i), nI i, T') ∧ agM M T' ∧ plM S T' i) (Q := fun r : Int32 × mem => ∃ T', r = (if nI (wide S N) - M 0 0 17 < 0 then 0 else nI (wide S N) - M 0 0 17, mup T' 0 0 18 1) ∧ agM M T' ∧ plM S T' N) N ?_ ?_ n 0 (0, 0, M) (by omega) (by omega) ⟨M, rfl, fun _ _ _ _ _ _ => rfl, fun j h => by omega⟩
    · rintro i q hi ⟨T', rfl, g1, g2⟩
      left
      have hle : ¬ nI N ≤ nI i := nI_ge hi (by omega)
      have h1 := (g1.rb hb).1.2.1
      obtain ⟨T2, t1, t2, t3⟩ := noteM2 hn hb g1 hi g2
      obtain ⟨r, e1, rfl⟩ := endsM (n := n) hn (t2.rb hb) hi t3
      exact ⟨_, by simp [b_X4_place_9, h1, hle, cal, t1, e1], T2, rfl, t2, t3⟩
    · rintro q ⟨T', rfl, g1, g2⟩
      have h1 := (g1.rb hb).1.2.1
      have h17 : T' 0 0 17 = M 0 0 17 := g1 0 0 17 (by omega) (by omega) (by omega)
      obtain ⟨b1, b2, b3, b4, b5⟩ := hb.st_le N (by omega)
      refine ⟨_, ?_, T', rfl, g1, g2⟩
      by_cases e : N = 0
      · subst e
        simp [b_X4_place_9, j_X4_place_134, h1, Int32.le_refl, show nI 0 ≤ 0 by decide, cal, outM, h17, wide, show se S 0 = 0 from rfl]
      · have e3 : ¬ nI N ≤ 0 := nI_nle (by omega) (by omega)
        obtain ⟨K, rfl⟩ : ∃ K, N = K + 1 := ⟨N - 1, by omega⟩
        obtain ⟨hp, hc⟩ := nI_in' (i := K) (N := 60) (by omega) (by omega)
        obtain ⟨-, -, w1, -, -, -, -, w2, -⟩ := (g1.rb hb).g1 (i := K) (by omega)
        have bx := hb.sx_le (i := K) (by omega)
        have p1 := (g2 K (by omega)).1
        have h5 := greaterM (n := n) (M := T') (a := se S (K + 1)) (b := sx S K + cW S K) (by omega) (by omega)
        have hw : wide S (K + 1) = max (se S (K + 1)) (sx S K + cW S K) := by unfold wide; rw [if_neg e]; rfl
        rw [hw]
        simp [b_X4_place_9, j_X4_place_134, h1, Int32.le_refl, e3, nI_pred, grd, hp, hc, show K < 60 by omega, cal, p1, w2, nI_add, h5, outM, h17]
  obtain ⟨r, h1, T', rfl, h2⟩ := key
  exact ⟨T', h1, h2⟩
theorem R.placed {S' M' : mem} (h : R N S M) (ha : agC S S') (hc : plC S S' N) (hm : agM M M') (hp : plM S M' N) : R N (mup S' 3 0 8 1) (mup M' 0 0 18 1) := by
  have hb := h.rb
  obtain ⟨h0, h1, h2, h3, h4, h4s, h5, h6, h7, h8, h9, h10⟩ := h
  have hN := h0.2.2
  have hA : agC S (mup S' 3 0 8 1) := ha.up (by omega)
  have hM : agM M (mup M' 0 0 18 1) := hm.up (by omega)
  have hC : plC S (mup S' 3 0 8 1) N := fun j hj => by
    obtain ⟨a, b, c⟩ := hc j hj
    refine ⟨by rw [mup_at, if_neg (by omega)]; exact a, by rw [mup_at, if_neg (by omega)]; exact b, fun v hv h0 => by rw [mup_at, if_neg (by omega)]; exact c v hv h0⟩
  have hP : plM S (mup M' 0 0 18 1) N := fun j hj => by
    obtain ⟨a, c⟩ := hp j hj
    refine ⟨by rw [mup_at, if_neg (by omega)]; exact a, fun v hv h0 => by rw [mup_at, if_neg (by omega)]; exact c v hv h0⟩
  have g7 : G7 N (mup S' 3 0 8 1) (mup M' 0 0 18 1) := by
    refine Or.inr ⟨by simp [mup_at], by simp [mup_at], fun i hi => ?_⟩
    obtain ⟨a, b, c⟩ := hC i hi
    obtain ⟨d, e⟩ := hP i hi
    have hb' := hM.rb hb
    have hal : al (mup M' 0 0 18 1) i = nI (sa S i) := by
      have q := aloneM (n := 0) hb' hi (fun j hj => hP j (by omega))
      rw [alone_eq (N := N) (by omega)] at q
      exact Option.some.inj q
    have bx := hb.sx_le hi
    have sl := sa_le (S := S) (i := i)
    refine ⟨a.trans d.symm, ⟨sx S i, by omega, by omega, d⟩, by rw [hal, d]; exact nI_le sl (by omega), by rw [b, d, hal], fun v hv h0 => ?_⟩
    have h0' : cn S v i ≠ 0 := by rw [hA.c] at h0; omega
    exact (c v hv h0').trans (e v hv h0').symm
  refine ⟨h0.cg ?_ ?_, h1.cg ?_ ?_ ?_ ?_ ?_ ?_ ?_ ?_, h2.cg ?_ ?_ ?_ ?_, h3.cg ?_ ?_, h4.cg ?_ ?_ ?_ ?_ ?_ ?_ ?_ ?_, h4s.cg ?_ ?_, h5.cg ?_ ?_ ?_ ?_, h6.cg ?_ ?_ ?_ ?_ ?_ ?_, g7, h8.cg ?_ ?_ ?_ ?_ ?_ ?_ ?_ ?_, h9.cg ?_ ?_ ?_ ?_ ?_ ?_ ?_ ?_, h10.cg ?_ ?_ ?_ ?_⟩ <;> (intros; first | exact hA _ _ _ (by omega) (by omega) (by omega) (by omega) | exact hM _ _ _ (by omega) (by omega) (by omega))
theorem op_place (hn : 100 ≤ n) (h : R N S M) : op2 (f_X3_place n S) (f_X4_place n M) := by
  have hT := h.thr 0
  obtain ⟨S', s1, s2, s3⟩ := placeNotesC (n := n) hn hT.rb
  obtain ⟨M', m1, m2, m3⟩ := placeM (n := n) hn hT.rb
  have e7 : S' 3 0 7 = M 0 0 17 := (s2 3 0 7 (by omega) (by omega) (by omega) (by omega)).trans h.2.2.2.2.2.2.2.1.2.2.2.1
  have e17 : mup M 0 0 0 0 0 0 17 = M 0 0 17 := by simp [mup_at]
  rw [e17] at m1
  exact ⟨_, _, _, N, by simp only [f_X3_place, s1, cal, e7], m1, hT.placed s2 s3 m2 m3⟩
end PM
