section Hy
variable {n N : Nat} {S M : mem}
/-- how many hyphens there is room for -/
def hyN (r : Int32) : Int32 := if 10 ≤ r then 1 + (r - 10) / 80 else 0
theorem hyN_big {r : Int32} (h : (10 : Int32) ≤ r) : ∃ k : Nat, 1 ≤ k ∧ k < 2 ^ 26 ∧ hyN r = nI k := by
  have h0 : ¬ r < 0 := fun q => absurd (Int32.lt_of_le_of_lt h q) (by decide)
  obtain ⟨j, hj, rfl⟩ := nI_of h0
  have h1 : 10 ≤ j := (nI_leI (a := 10) (by omega) hj).mp h
  refine ⟨1 + (j - 10) / 80, by omega, by omega, ?_⟩
  unfold hyN
  rw [if_pos h, show (10 : Int32) = nI 10 from rfl, pk_sub h1, show (80 : Int32) = nI 80 from rfl, pk_div (by omega) (by omega) (by omega), show (1 : Int32) = nI 1 from rfl, nI_add]
theorem hyNC (r : Int32) : f_X3_hyphensIn n S r = some (hyN r) := by
  unfold f_X3_hyphensIn hyN
  split <;> rfl
theorem roomB (hn : 100 ≤ n) (h : R N S M) (hpl : PL N S M) {v i : Nat} (hv : v < 4) (hi : i < N) (h0 : 0 < cn S v i) : ∃ r k, f_X2_hyphenRoom n S v (nI i) = some r ∧ k = hyN r ∧ (f_X4_hyphenMany n M (nI i) (nI v) = some (k, mup M 0 0 21 r) ∨ (k = 0 ∧ f_X4_hyphenMany n M (nI i) (nI v) = some (0, M))) := by
  have hN := h.1.2.2
  have hb := h.rb
  have g1 := hb.goC (n := n) hv hi h0
  have g2 := hb.goM (n := n) hv hi h0
  have t1 := hb.endC (n := n) hv hi h0
  have t2 := hb.endM (n := n) hv hi h0
  have l1 := (hpl i hi).2.2.2.2 v hv h0
  rw [l1] at t1
  have z : hyN 0 = 0 := by decide
  rcases nextB (n := n) hn h hv hi with ⟨e1, e2⟩ | ⟨j, hij, hj, hj0, e1, e2⟩
  · refine ⟨0, 0, by simp [f_X2_hyphenRoom, e1, cal], z.symm, Or.inr ⟨rfl, ?_⟩⟩
    by_cases g : bgo S v i = 0
    · simp [f_X4_hyphenMany, e2, cal, g2, g]
    · simp [f_X4_hyphenMany, e2, cal, g2, g]
  · have q1 := nI_m1 (n := j) (by omega)
    have q2 := nI_none (n := j) (by omega)
    by_cases g : bgo S v i = 0
    · exact ⟨0, 0, by simp [f_X2_hyphenRoom, e1, cal, q1, g1, g], z.symm, Or.inr ⟨rfl, by simp [f_X4_hyphenMany, e2, cal, g2, g]⟩⟩
    · obtain ⟨hpj, hcj⟩ := nI_in' (i := j) (N := 60) (by omega) (by omega)
      obtain ⟨hp, hc⟩ := nI_in' (i := 4 * j + v) (N := 240) (by omega) (by omega)
      have l2 := (hpl j hj).2.2.2.2 v hv hj0
      refine ⟨M 20 0 (4 * j + v) - (M 20 0 (4 * i + v) + nI (bw S v i)), _, by simp [f_X2_hyphenRoom, e1, cal, q1, g1, g, grd, hpj, hcj, show j < 60 by omega, t1, l2], rfl, Or.inl ?_⟩
      unfold hyN
      by_cases e : (10 : Int32) ≤ M 20 0 (4 * j + v) - (M 20 0 (4 * i + v) + nI (bw S v i))
      · simp [f_X4_hyphenMany, e2, cal, g2, g, q2, grd, ix4, hp, hc, show 4 * j + v < 240 by omega, t2, e]
      · simp [f_X4_hyphenMany, e2, cal, g2, g, q2, grd, ix4, hp, hc, show 4 * j + v < 240 by omega, t2, e]
theorem PL.thr (h : PL N S M) (v : Int32) : PL N S (mup M 0 0 0 v) := by
  have e19 : ∀ j, mup M 0 0 0 v 19 0 j = M 19 0 j := fun j => by simp [mup_at]
  have e20 : ∀ j, mup M 0 0 0 v 20 0 j = M 20 0 j := fun j => by simp [mup_at]
  unfold PL at *
  simp only [al_thr, e19, e20]
  exact h
theorem op_hyphens (hn : 100 ≤ n) (h : R N S M) (x w : Int32) : opR S (f_X3_hyphens n S x w) (f_X4_hyphens n M x w) := by
  have hT := h.thr 0
  have hN := h.1.2.2
  have hb := hT.rb
  rcases hb.ask (n := n) x w with ⟨e1, e2⟩ | ⟨i, v, hi, hv, rfl, rfl, h0, e1, e2⟩
  · exact ⟨-1000001, _, N, by simp [f_X3_hyphens, e1, cal], by simp [f_X4_hyphens, e2, cal], hT⟩
  · rcases h.2.2.2.2.2.2.2.2.1 with ⟨p1, p2⟩ | ⟨p1, p2, hpl⟩
    · exact ⟨-1000003, _, N, by simp [f_X3_hyphens, e1, cal, p1], by simp [f_X4_hyphens, e2, cal, p2], hT⟩
    · obtain ⟨hpv, hcv⟩ := nI_in' hv (by omega)
      obtain ⟨r, k, r1, rfl, r2⟩ := roomB (n := n) hn hT (hpl.thr 0) hv hi h0
      rcases r2 with r2 | ⟨z, r2⟩
      · exact ⟨hyN r, _, N, by simp [f_X3_hyphens, e1, cal, p1, grd, hpv, hcv, hv, r1, hyNC], by simp [f_X4_hyphens, e2, cal, p2, r2], hT.room r⟩
      · exact ⟨hyN r, _, N, by simp [f_X3_hyphens, e1, cal, p1, grd, hpv, hcv, hv, r1, hyNC], by simp [f_X4_hyphens, e2, cal, p2, r2, z], hT⟩
theorem lies0 {x : Int32} : f_X4_lies n M x 0 (0 - 1) = some 0 := by
  unfold f_X4_lies
  by_cases h : x < 0
  · rw [if_pos h]
  · rw [if_neg h, if_pos (Int32.lt_of_lt_of_le (show (0 - 1 : Int32) < 0 by decide) (Int32.not_lt.mp h))]
theorem op_hyphen (hn : 100 ≤ n) (h : R N S M) (x w u : Int32) : opT S (f_X3_hyphen n S x w u) (f_X4_hyphen n M x w u) := by
  have hT := h.thr 0
  have hN := h.1.2.2
  have hb := hT.rb
  have m0 : mup M 0 0 0 0 0 0 0 = 0 := by simp [mup_at]
  have nn : ∀ x y : Int32, some x = some y → y = x := fun x y q => (Option.some.inj q).symm
  rcases hb.ask (n := n) x w with ⟨e1, e2⟩ | ⟨i, v, hi, hv, rfl, rfl, h0, e1, e2⟩
  · exact ⟨some (-1000001), -1000001, _, N, by simp [f_X3_hyphen, e1, cal], by simp [f_X4_hyphen, e2, cal], m0, fun x q => nn _ _ q, hT⟩
  · rcases h.2.2.2.2.2.2.2.2.1 with ⟨p1, p2⟩ | ⟨p1, p2, hpl⟩
    · exact ⟨some (-1000003), -1000003, _, N, by simp [f_X3_hyphen, e1, cal, p1], by simp [f_X4_hyphen, e2, cal, p2], m0, fun x q => nn _ _ q, hT⟩
    · obtain ⟨hpv, hcv⟩ := nI_in' hv (by omega)
      obtain ⟨r, k, r1, hk, r2⟩ := roomB (n := n) hn hT (hpl.thr 0) hv hi h0
      have hyC : f_X3_hyphensIn n S r = some k := by rw [hk]; exact hyNC r
      have t1 := hb.endC (n := n) hv hi h0
      have l1 := (hpl i hi).2.2.2.2 v hv h0
      rw [l1] at t1
      by_cases hr : (10 : Int32) ≤ r
      · obtain ⟨c, c1, c2, c3⟩ := hyN_big hr
        rw [c3] at hk
        subst hk
        have r2 : f_X4_hyphenMany n (mup M 0 0 0 0) (nI i) (nI v) = some (nI c, mup (mup M 0 0 0 0) 0 0 21 r) := by
          rcases r2 with r2 | ⟨z, r2⟩
          · exact r2
          · exact absurd z (nI_ne0 (by omega) (by omega))
        have hR := hT.room r
        have t2 := hR.rb.endM (n := n) hv hi h0
        have t3 : mup (mup M 0 0 0 0) 0 0 21 r 20 0 (4 * i + v) = M 20 0 (4 * i + v) := by simp [mup_at]
        rw [t3] at t2
        have k1 : ¬ nI c < 1 := nI_nlt (b := 1) c1 (by omega)
        have k2 : ¬ 2 * nI c = 0 := by rw [nI_2]; exact nI_ne0 (by omega) (by omega)
        have t4 : mup (mup M 0 0 0 0) 0 0 21 r 0 0 21 = r := by simp [mup_at]
        rcases outC (n := n) S (mup (mup M 0 0 0 0) 0 0 21 r) u 0 (nI c - 1) with ⟨o1, o2⟩ | ⟨-, -, o1, o2⟩
        · exact ⟨none, 0, _, N, by simp [f_X3_hyphen, j_X3_hyphen_59, e1, cal, p1, grd, hpv, hcv, hv, r1, hyC, k1, o1], by simp [f_X4_hyphen, e2, cal, p2, r2, o2], by simp [mup_at, ctR], fun x q => by simp at q, hR.thr 1⟩
        · refine ⟨some _, _, _, N, by simp only [f_X3_hyphen, e1, cal, p1, grd, hpv, hcv, hv, r1, hyC, k1, o1, t1, k2]; simp [hpv, hv]; rfl, by simp only [f_X4_hyphen, e2, cal, p2, r2, o2, t2, grd, k2, t4]; simp, by simp [mup_at, ctR], fun x q => nn _ _ q, hR⟩
      · have hz : k = 0 := by rw [hk]; unfold hyN; rw [if_neg hr]
        subst hz
        have k1 : (0 : Int32) < 1 := by decide
        rcases r2 with r2 | ⟨-, r2⟩
        · exact ⟨none, 0, _, N, by simp [f_X3_hyphen, j_X3_hyphen_59, e1, cal, p1, grd, hpv, hcv, hv, r1, hyC, k1], by simp only [f_X4_hyphen, e2, cal, p2, r2, lies0]; simp, by simp [mup_at, ctR], fun x q => by simp at q, (hT.room r).thr 1⟩
        · exact ⟨none, 0, _, N, by simp [f_X3_hyphen, j_X3_hyphen_59, e1, cal, p1, grd, hpv, hcv, hv, r1, hyC, k1], by simp only [f_X4_hyphen, e2, cal, p2, r2, lies0]; simp, by simp [mup_at, ctR], fun x q => by simp at q, hT.thr 1⟩
end Hy
