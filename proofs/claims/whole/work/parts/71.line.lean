section Ln
variable {n N : Nat} {S M : mem}
theorem minLn (a b : Int32) : (if b < a then b else a) = if a ≤ b then a else b := by
  by_cases h : b < a
  · rw [if_pos h, if_neg (Int32.not_le.mpr h)]
  · rw [if_neg h, if_pos (Int32.not_lt.mp h)]
theorem op_line (hn : 100 ≤ n) (h : R N S M) (x w u : Int32) : opR S (f_X3_line n S x w u) (f_X4_line n M x w u) := by
  have hT := h.thr 0
  have hN := h.1.2.2
  have hb := hT.rb
  rcases hb.ask (n := n) x w with ⟨e1, e2⟩ | ⟨i, v, hi, hv, rfl, rfl, h0, e1, e2⟩
  · exact ⟨-1000001, _, N, by simp [f_X3_line, e1, cal], by simp [f_X4_line, e2, cal], hT⟩
  · rcases outC (n := n) S (mup M 0 0 0 0) u 0 1 with ⟨e3, e4⟩ | ⟨b1, b2, e3, e4⟩
    · exact ⟨-1000002, _, N, by simp [f_X3_line, e1, e3, cal], by simp [f_X4_line, e2, e4, cal], hT⟩
    · rcases h.2.2.2.2.2.2.2.2.1 with ⟨p1, p2⟩ | ⟨p1, p2, hpl⟩
      · exact ⟨-1000003, _, N, by simp [f_X3_line, e1, e3, cal, p1], by simp [f_X4_line, e2, e4, cal, p2], hT⟩
      · obtain ⟨hpv, hcv⟩ := nI_in' hv (by omega)
        obtain ⟨hpi, hci⟩ := nI_in' (i := i) (N := 60) (by omega) (by omega)
        have hli : i < 60 := by omega
        have g1 := hb.goC (n := n) hv hi h0
        have g2 := hb.goM (n := n) hv hi h0
        -- is it a melisma's first note?
        have none' : S 1 i 4 ≠ nI i → M 6 0 i ≠ nI i → opR S (f_X3_line n S (nI i) (nI v) u) (f_X4_line n M (nI i) (nI v) u) := by
          intro q1 q2
          by_cases g : bgo S v i = 0
          · exact ⟨-1000009, _, N, by simp [f_X3_line, e1, e3, cal, p1, grd, hpv, hcv, hv, hpi, hci, hli, q1], by simp [f_X4_line, e2, e4, cal, p2, g2, g, grd, hpi, hci, hli, q2], hT⟩
          · exact ⟨-1000009, _, N, by simp [f_X3_line, e1, e3, cal, p1, grd, hpv, hcv, hv, hpi, hci, hli, q1], by simp [f_X4_line, e2, e4, cal, p2, g2, g], hT⟩
        rcases h.2.2.1 i hi with ⟨m1, m2⟩ | ⟨f, z, f1, f2, f3, m1, m2, m3, m4, m5⟩
        · exact none' (by rw [m1]; exact fun q => nI_m1 (n := i) (by omega) q.symm) (by rw [m2]; exact fun q => nI_none (n := i) (by omega) q.symm)
        · by_cases ef : f = i
          · subst ef
            by_cases g : bgo S v f = 0
            · have t1 := hb.endC (n := n) hv hi h0
              have t2 := hb.endM (n := n) hv hi h0
              have t3 : mup M 0 0 0 0 20 0 (4 * f + v) = M 20 0 (4 * f + v) := by simp [mup_at]
              have l1 := (hpl f hi).2.2.2.2 v hv h0
              rw [l1] at t1
              rw [t3] at t2
              obtain ⟨K, hK⟩ : ∃ K, f + z = K + 1 := ⟨f + z - 1, by omega⟩
              have k1 : nI f + nI z - 1 = nI K := by rw [nI_add, hK, nI_pred]
              rw [show f + z - 1 = K by omega] at m3
              obtain ⟨hpk, hck⟩ := nI_in' (i := K) (N := 60) (by omega) (by omega)
              have hlk : K < 60 := by omega
              have lk := (hpl K (by omega)).1
              have wk := (h.2.1 K (by omega)).1
              -- the end of the line
              obtain ⟨E, q1, q2⟩ : ∃ E, f_X3_lineEnd n S (nI f) v = some E ∧ f_X4_line n M (nI f) (nI v) u = j_X4_line_149 n (mup M 0 0 0 0) u (M 20 0 (4 * f + v) + nI (bw S v f) + 2) E := by
                rcases nextB (n := n) hn hT hv hi with ⟨x1, x2⟩ | ⟨j, hij, hj, hj0, x1, x2⟩
                · exact ⟨M 19 0 K + M 2 0 K, by simp [f_X3_lineEnd, grd, hpi, hci, hli, m3, hpk, hck, hlk, f_X1_end, lk, wk, cal, x1], by simp [f_X4_line, e2, e4, cal, p2, g2, g, grd, hpi, hci, hli, m2, t2, m4, k1, hpk, hck, hlk, x2]⟩
                · have q1 := nI_m1 (n := j) (by omega)
                  have q2 := nI_none (n := j) (by omega)
                  obtain ⟨hpj, hcj⟩ := nI_in' (i := j) (N := 60) (by omega) (by omega)
                  obtain ⟨hp, hc⟩ := nI_in' (i := 4 * j + v) (N := 240) (by omega) (by omega)
                  have l2 := (hpl j hj).2.2.2.2 v hv hj0
                  refine ⟨if M 19 0 K + M 2 0 K ≤ M 20 0 (4 * j + v) - 4 then M 19 0 K + M 2 0 K else M 20 0 (4 * j + v) - 4, by simp [f_X3_lineEnd, grd, hpi, hci, hli, m3, hpk, hck, hlk, f_X1_end, lk, wk, cal, x1, q1, hpj, hcj, show j < 60 by omega, l2, minLn], ?_⟩
                  by_cases e : M 19 0 K + M 2 0 K ≤ M 20 0 (4 * j + v) - 4
                  · simp [f_X4_line, e2, e4, cal, p2, g2, g, grd, hpi, hci, hli, m2, t2, m4, k1, hpk, hck, hlk, x2, q2, ix4, hp, hc, show 4 * j + v < 240 by omega, e]
                  · simp [f_X4_line, e2, e4, cal, p2, g2, g, grd, hpi, hci, hli, m2, t2, m4, k1, hpk, hck, hlk, x2, q2, ix4, hp, hc, show 4 * j + v < 240 by omega, e]
              rw [q2]
              by_cases c10 : (10 : Int32) ≤ E - (M 20 0 (4 * f + v) + nI (bw S v f) + 2)
              · by_cases u0 : u = 0
                · subst u0
                  exact ⟨M 20 0 (4 * f + v) + nI (bw S v f) + 2, _, N, by simp [f_X3_line, e1, e3, cal, p1, grd, hpv, hcv, hv, hpi, hci, hli, m1, g1, g, t1, q1, c10], by simp [j_X4_line_149, c10], hT⟩
                · exact ⟨E, _, N, by simp [f_X3_line, e1, e3, cal, p1, grd, hpv, hcv, hv, hpi, hci, hli, m1, g1, g, t1, q1, c10, u0], by simp [j_X4_line_149, c10, u0], hT⟩
              · exact ⟨-1000009, _, N, by simp [f_X3_line, e1, e3, cal, p1, grd, hpv, hcv, hv, hpi, hci, hli, m1, g1, g, t1, q1, c10], by simp [j_X4_line_149, c10], hT⟩
            · exact ⟨-1000009, _, N, by simp [f_X3_line, e1, e3, cal, p1, grd, hpv, hcv, hv, hpi, hci, hli, m1, g1, g], by simp [f_X4_line, e2, e4, cal, p2, g2, g], hT⟩
          · exact none' (by rw [m1]; exact fun q => ef ((nI_eq (by omega) (by omega)).mp q)) (by rw [m2]; exact fun q => ef ((nI_eq (by omega) (by omega)).mp q))
/-! strain -/
def tn (M : mem) : Nat → Nat
  | 0 => 0
  | i + 1 => tn M i + ((M 19 0 i).toNatClampNeg - (al M i).toNatClampNeg)
theorem tn_s (h : R N S M) (hpl : PL N S M) : ∀ i, i < N → ∃ p a, p ≤ 2000 * (i + 1) ∧ M 19 0 i = nI p ∧ al M i = nI a ∧ a ≤ p ∧ S 1 i 8 = nI (p - a) ∧ tn M (i + 1) = tn M i + (p - a) ∧ tn M (i + 1) ≤ p
  | 0, hi => by
    have hN := h.1.2.2
    obtain ⟨h1, ⟨p, -, p2, p3⟩, h3, h4, -⟩ := hpl 0 hi
    have e : al M 0 = nI 0 := rfl
    have cp : (M 19 0 0).toNatClampNeg = p := by rw [p3, nI_clamp (by omega)]
    have ca : (al M 0).toNatClampNeg = 0 := by rw [e, nI_clamp (by omega)]
    refine ⟨p, 0, p2, p3, e, by omega, ?_, ?_, ?_⟩
    · rw [h4, p3, e, pk_sub (by omega)]
    · show tn M 0 + ((M 19 0 0).toNatClampNeg - (al M 0).toNatClampNeg) = _
      rw [cp, ca]
    · show tn M 0 + ((M 19 0 0).toNatClampNeg - (al M 0).toNatClampNeg) ≤ p
      rw [cp, ca, tn]; omega
  | i + 1, hi => by
    have hN := h.1.2.2
    obtain ⟨p', a', q1, q2, q3, q4, q5, q6, q7⟩ := tn_s h hpl i (by omega)
    obtain ⟨h1, ⟨p, -, p2, p3⟩, h3, h4, -⟩ := hpl (i + 1) hi
    obtain ⟨-, -, w1, -, w2, -, -, w3, w4, -⟩ := h.rb.g1 (i := i) (by omega)
    have e : al M (i + 1) = nI (p' + cW S i + 10 * cL S i) := by
      unfold al
      rw [if_neg (by omega), show i + 1 - 1 = i from rfl, q2, w3, w4, nI_add, show (10 : Int32) * nI (cL S i) = nI (10 * cL S i) from pk_mul 10 _, nI_add]
    have cp : (M 19 0 (i + 1)).toNatClampNeg = p := by rw [p3, nI_clamp (by omega)]
    have ca : (al M (i + 1)).toNatClampNeg = p' + cW S i + 10 * cL S i := by rw [e, nI_clamp (by omega)]
    have hle : p' + cW S i + 10 * cL S i ≤ p := by
      rw [e, p3] at h3
      exact (nI_leI (by omega) (by omega)).mp h3
    refine ⟨p, _, p2, p3, e, hle, ?_, ?_, ?_⟩
    · rw [h4, p3, e, pk_sub hle]
    · rw [tn, cp, ca]
    · rw [tn, cp, ca]; omega
theorem op_strain (hn : 100 ≤ n) (h : R N S M) : opT S (f_X3_strain n S) (f_X4_strain n M) := by
  have hT := h.thr 0
  obtain ⟨hS, hM, hN⟩ := h.1
  have m0 : mup M 0 0 0 0 0 0 0 = 0 := by simp [mup_at]
  have nn : ∀ x y : Int32, some x = some y → y = x := fun x y q => (Option.some.inj q).symm
  rcases h.2.2.2.2.2.2.2.2.1 with ⟨p1, p2⟩ | ⟨p1, p2, hpl⟩
  · exact ⟨some (-1000003), -1000003, _, N, by simp [f_X3_strain, p1], by simp [f_X4_strain, p2], m0, fun x q => nn _ _ q, hT⟩
  · by_cases eN : N = 0
    · subst eN
      exact ⟨none, 0, _, 0, by simp [f_X3_strain, j_X3_strain_35, p1, hS, nI_0], by simp [f_X4_strain, p2, hM, nI_0], by simp [mup_at, ctR], fun x q => by simp at q, hT.thr 1⟩
    · obtain ⟨K, rfl⟩ : ∃ K, N = K + 1 := ⟨N - 1, by omega⟩
      have nz : ¬ nI (K + 1) = 0 := nI_ne0 (by omega) (by omega)
      obtain ⟨hpk, hck⟩ := nI_in' (i := K) (N := 60) (by omega) (by omega)
      have hlk : K < 60 := by omega
      obtain ⟨p, a, k1, k2, k3, k4, k5, k6, k7⟩ := tn_s h hpl K (by omega)
      have l1 := (hpl K (by omega)).1
      rw [k2] at l1
      by_cases e0 : p = 0
      · subst e0
        exact ⟨none, 0, _, K + 1, by simp [f_X3_strain, j_X3_strain_35, p1, hS, nz, nI_pred, grd, hpk, hck, hlk, l1, nI_0], by simp [f_X4_strain, p2, hM, nz, nI_pred, grd, hpk, hck, hlk, k2, nI_0], by simp [mup_at, ctR], fun x q => by simp at q, hT.thr 1⟩
      · have pz : ¬ nI p = 0 := nI_ne0 (by omega) (by omega)
        have cl : ∃ r, lp (b_X3_strain_54 n S (nI p)) n (0, 0) = some r ∧ r = some (nI (1000 * tn M (K + 1) / p)) := by
          refine lp_up (I := fun j (q : Int32 × Int32) => q = (nI (tn M j), nI j)) (Q := fun r => r = some (nI (1000 * tn M (K + 1) / p))) (K + 1) ?_ ?_ n 0 (0, 0) (by omega) (by omega) rfl
          · rintro j q hj rfl
            left
            obtain ⟨p', a', -, -, -, -, q5, q6, -⟩ := tn_s h hpl j hj
            obtain ⟨hp, hc⟩ := nI_in' (i := j) (N := 60) (by omega) (by omega)
            have hle : ¬ nI (K + 1) ≤ nI j := nI_ge hj (by omega)
            exact ⟨(nI (tn M (j + 1)), nI (j + 1)), by simp [b_X3_strain_54, hS, hle, grd, hp, hc, show j < 60 by omega, q5, nI_add, nI_1, q6], rfl⟩
          · rintro q rfl
            refine ⟨_, ?_, rfl⟩
            rw [← pk_div (by omega) (by omega) (by omega), ← pk_mul]
            simp [b_X3_strain_54, hS, Int32.le_refl, grd, pz]
            rfl
        have mo : ∃ r, lp (b_X4_strain_47 n (mup M 0 0 0 0)) n (0, 0) = some r ∧ r = (nI (1000 * tn M (K + 1) / p), mup M 0 0 0 0) := by
          have e19 : ∀ j, mup M 0 0 0 0 19 0 j = M 19 0 j := fun j => by simp [mup_at]
          have e1 : mup M 0 0 0 0 0 0 1 = nI (K + 1) := by simp [mup_at, hM]
          refine lp_up (I := fun j (q : Int32 × Int32) => q = (nI (tn M j), nI j)) (Q := fun r => r = (nI (1000 * tn M (K + 1) / p), mup M 0 0 0 0)) (K + 1) ?_ ?_ n 0 (0, 0) (by omega) (by omega) rfl
          · rintro j q hj rfl
            left
            obtain ⟨p', a', -, q2, q3, q4, q5, q6, -⟩ := tn_s h hpl j hj
            obtain ⟨hp, hc⟩ := nI_in' (i := j) (N := 60) (by omega) (by omega)
            have hle : ¬ nI (K + 1) ≤ nI j := nI_ge hj (by omega)
            have ha : f_X4_alone n (mup M 0 0 0 0) (nI j) = some (nI a') := by rw [alone_eq (N := 0) (by omega), al_thr, q3]
            exact ⟨(nI (tn M (j + 1)), nI (j + 1)), by simp [b_X4_strain_47, e1, hle, grd, hp, hc, show j < 60 by omega, cal, ha, e19, q2, pk_sub q4, nI_add, nI_1, q6], rfl⟩
          · rintro q rfl
            refine ⟨_, ?_, rfl⟩
            have z1 : ¬ (nI p).toInt64 = 0 := by
              rw [nI_l (by omega)]
              exact fun q => e0 ((lN_eq (b := 0) (by omega) (by omega)).mp q)
            have z2 : Int64.toInt32 (1000 * (nI (tn M (K + 1))).toInt64 / (nI p).toInt64) = nI (1000 * tn M (K + 1) / p) := by
              rw [nI_l (by omega), nI_l (by omega), show (1000 : Int64) = lN 1000 from rfl, lN_mul, pk_lDiv (by omega) (by omega) (by omega), lN_i]
            simp [b_X4_strain_47, e1, Int32.le_refl, nI_pred, grd, hpk, hck, hlk, e19, k2, z1, z2]
        obtain ⟨r, c1, rfl⟩ := cl
        obtain ⟨r, c2, rfl⟩ := mo
        exact ⟨some _, _, _, K + 1, by simp [f_X3_strain, j_X3_strain_35, p1, hS, nz, nI_pred, grd, hpk, hck, hlk, l1, pz, c1]; rfl, by simp [f_X4_strain, p2, hM, nz, nI_pred, grd, hpk, hck, hlk, k2, pz, c2], m0, fun x q => nn _ _ q, hT⟩
end Ln
