section Pb
variable {n N : Nat} {S M : mem}
def patF (M M' : mem) (P z X v : Nat) : Prop := M' 23 0 P = nI z ∧ M' 0 0 22 = nI (P + 1) ∧ (∀ j, j < z → M' 24 0 (6 * P + j) = nI (D X j)) ∧ (∀ j, j ≤ z → M' 25 0 (7 * P + j) = nI (v / 10 ^ j % 10)) ∧ ∀ a b c, ¬ (a = 23 ∧ b = 0 ∧ c = P) → ¬ (a = 24 ∧ b = 0 ∧ 6 * P ≤ c ∧ c < 6 * P + 6) → ¬ (a = 25 ∧ b = 0 ∧ 7 * P ≤ c ∧ c < 7 * P + 7) → ¬ (a = 0 ∧ b = 0 ∧ c = 22) → M' a b c = M a b c
theorem patM {X z v P : Nat} (hn : 20 ≤ n) (hX : X < 2 ^ 63) (hv : v < 2 ^ 31) (hz : z ≤ 13) (h1 : ∀ t, t < z → D X t ≠ 0) (h2 : D X z = 0) (hP : P ≤ 30) (hM : M 0 0 22 = nI P) : ∃ r, lp (b_X4_pattern_34 n M (lN X) (nI v)) n (0, lN X, 10, 1, 0) = some r ∧ ((¬ (goodP X z ∧ v < 10 ^ (z + 1)) ∧ r = (-1000002, M)) ∨ ((goodP X z ∧ v < 10 ^ (z + 1)) ∧ ((P = 30 ∧ r = (-1000004, M)) ∨ (P < 30 ∧ ∃ M', r = (nI P, M') ∧ patF M M' P z X v)))) := by
  refine lp_up (I := fun k (q : Int32 × Int64 × Int32 × Int32 × Int32) => ∃ ok le, q = (nI k, lN (X / 32 ^ k), nI (10 ^ (min k 6 + 1)), ok, le) ∧ ((ok = 1 ∧ okP X k) ∨ (ok = 0 ∧ ¬ okP X k)) ∧ ((le = 1 ∧ ∃ t, t < k ∧ D X t < 27) ∨ (le = 0 ∧ ∀ t, t < k → 27 ≤ D X t))) (Q := fun r : Int32 × mem => (¬ (goodP X z ∧ v < 10 ^ (z + 1)) ∧ r = (-1000002, M)) ∨ ((goodP X z ∧ v < 10 ^ (z + 1)) ∧ ((P = 30 ∧ r = (-1000004, M)) ∨ (P < 30 ∧ ∃ M', r = (nI P, M') ∧ patF M M' P z X v)))) z ?_ ?_ n 0 (0, lN X, 10, 1, 0) (by omega) (by omega) ⟨1, 0, by rw [Nat.pow_zero, Nat.div_one]; rfl, Or.inl ⟨rfl, by omega, fun t h => by omega⟩, Or.inr ⟨rfl, fun t h => by omega⟩⟩
  · rintro k q hk ⟨ok, le, rfl, ho, hl⟩
    left
    obtain ⟨ok', le', e1, e2, e3⟩ := stepM (n := n) (M := M) (x1 := lN X) (x3 := nI v) hX (by omega) (h1 k hk) ho hl
    exact ⟨_, e1, ok', le', rfl, e2, e3⟩
  · rintro q ⟨ok, le, rfl, ho, hl⟩
    have hX' : X / 32 ^ z < 2 ^ 63 := Nat.lt_of_le_of_lt (Nat.div_le_self _ _) hX
    have a1 : lN (X / 32 ^ z) &&& 31 = 0 := by
      rw [land31]
      show lN (D X z) = 0
      rw [h2]; rfl
    have a2 : lg_cmp 0 0 = 0 := by decide
    have a5 := lN_z hX'
    have gi := good_iff h1
    have bad : ¬ (goodP X z ∧ v < 10 ^ (z + 1)) → b_X4_pattern_34 n M (lN X) (nI v) (nI z, lN (X / 32 ^ z), nI (10 ^ (min z 6 + 1)), ok, le) = some (.inr (-1000002, M)) → ∃ r, b_X4_pattern_34 n M (lN X) (nI v) (nI z, lN (X / 32 ^ z), nI (10 ^ (min z 6 + 1)), ok, le) = some (.inr r) ∧ ((¬ (goodP X z ∧ v < 10 ^ (z + 1)) ∧ r = (-1000002, M)) ∨ ((goodP X z ∧ v < 10 ^ (z + 1)) ∧ ((P = 30 ∧ r = (-1000004, M)) ∨ (P < 30 ∧ ∃ M', r = (nI P, M') ∧ patF M M' P z X v)))) := fun q1 q2 => ⟨_, q2, Or.inl ⟨q1, rfl⟩⟩
    rcases ho with ⟨rfl, ho⟩ | ⟨rfl, ho⟩
    · rcases hl with ⟨rfl, hl⟩ | ⟨rfl, hl⟩
      · by_cases er : X / 32 ^ z = 0
        · have z6 := ho.1
          have good : goodP X z := gi.mpr ⟨ho, hl, er⟩
          have hpw : (10 : Nat) ^ (z + 1) ≤ 10 ^ 7 := p7 (by omega)
          rw [show min z 6 = z by omega] at *
          have hlt := nI_ltI (a := v) (b := 10 ^ (z + 1)) hv (by omega)
          by_cases ev : v < 10 ^ (z + 1)
          · by_cases eP : P = 30
            · rw [eP] at hM
              exact ⟨(-1000004, M), by simp [b_X4_pattern_34, a1, a2, a5.mpr er, hlt.mpr ev, hM, show nI 30 = 30 from rfl], Or.inr ⟨⟨good, ev⟩, Or.inl ⟨eP, rfl⟩⟩⟩
            · have hne : ¬ nI P = 30 := fun q => eP ((nI_eq (b := 30) (by omega) (by omega)).mp q)
              obtain ⟨r, r1, M', rfl, r2⟩ := putM (n := n) (M := M) (X := X) (z := z) (v := v) (P := P) (by omega) hX z6 hv (by omega) hM
              exact ⟨(nI P, M'), by simp [b_X4_pattern_34, a1, a2, a5.mpr er, hlt.mpr ev, hM, hne, r1], Or.inr ⟨⟨good, ev⟩, Or.inr ⟨by omega, M', rfl, r2⟩⟩⟩
          · have hnlt : ¬ nI v < nI (10 ^ (z + 1)) := fun q => ev (hlt.mp q)
            exact bad (fun q => ev q.2) (by simp [b_X4_pattern_34, a1, a2, a5.mpr er, hnlt])
        · have hr : ¬ lg_cmp (lN (X / 32 ^ z)) 0 = 0 := fun q => er (a5.mp q)
          exact bad (fun q => er q.1.2.1) (by simp [b_X4_pattern_34, a1, a2, hr])
      · exact bad (fun q => by
          obtain ⟨t, t1, t2⟩ := q.1.2.2.2
          have := hl t t1
          omega) (by simp [b_X4_pattern_34, a1, a2])
    · exact bad (fun q => ho (gi.mp q.1).1) (by simp [b_X4_pattern_34, a1, a2])
theorem R.pat {P z X v : Nat} {M' : mem} (h : R N S M) (hg : goodP X z) (hv : v < 10 ^ (z + 1)) (hP : P < 30) (hS : S 0 0 3 = nI P) (hf : patF M M' P z X v) : R N (mup (mup (mup (mup S 12 0 P (nI X)) 13 0 P (nI z)) 14 0 P (nI v)) 0 0 3 (nI (P + 1))) M' := by
  obtain ⟨h0, h1, h2, h3, h4, h4s, h5, h6, h7, h8, h9, h10⟩ := h
  obtain ⟨f1, f2, f3, f4, f5⟩ := hf
  have hX30 : X < 2 ^ 30 := by
    obtain ⟨z6, e, -, -⟩ := hg
    have : X < 32 ^ z := by
      rcases Nat.div_eq_zero_iff.mp e with q | q
      · exact absurd q (Nat.ne_of_gt (Nat.pow_pos (by omega)))
      · exact q
    have h6 : (32 : Nat) ^ z ≤ 32 ^ 6 := Nat.pow_le_pow_right (by omega) z6
    have : (32 : Nat) ^ 6 = 2 ^ 30 := by decide
    omega
  have g8 : G8 (mup (mup (mup (mup S 12 0 P (nI X)) 13 0 P (nI z)) 14 0 P (nI v)) 0 0 3 (nI (P + 1))) M' := by
    obtain ⟨P', q0, q1, q2, q3⟩ := h8
    have eP : P' = P := (nI_eq (by omega) (by omega)).mp (q1.symm.trans hS)
    subst eP
    refine ⟨P' + 1, by omega, by simp [mup_at], f2, fun p hp => ?_⟩
    by_cases e : p = P'
    · subst e
      obtain ⟨z6, e0, e1, t, t1, t2⟩ := hg
      exact ⟨z, X, v, by omega, z6, hX30, hv, by simp [mup_at], f1, by simp [mup_at], by simp [mup_at], fun j hj => f3 j hj, fun j hj => f4 j hj⟩
    · obtain ⟨ln, sg, w, a1, a2, a3, a4, a5, a6, a7, a8, a9, a10⟩ := q3 p (by omega)
      refine ⟨ln, sg, w, a1, a2, a3, a4, by simp [mup_at, e]; exact a5, by rw [f5 _ _ _ (by omega) (by omega) (by omega) (by omega)]; exact a6, by simp [mup_at, e]; exact a7, by simp [mup_at, e]; exact a8, fun j hj => by rw [f5 _ _ _ (by omega) (by omega) (by omega) (by omega)]; exact a9 j hj, fun j hj => by rw [f5 _ _ _ (by omega) (by omega) (by omega) (by omega)]; exact a10 j hj⟩
  refine ⟨h0.cg ?_ ?_, h1.cg ?_ ?_ ?_ ?_ ?_ ?_ ?_ ?_, h2.cg ?_ ?_ ?_ ?_, h3.cg ?_ ?_, h4.cg ?_ ?_ ?_ ?_ ?_ ?_ ?_ ?_, h4s.cg ?_ ?_, h5.cg ?_ ?_ ?_ ?_, h6.cg ?_ ?_ ?_ ?_ ?_ ?_, h7.cg ?_ ?_ ?_ ?_ ?_ ?_ ?_ ?_ ?_ ?_, g8, h9.cg ?_ ?_ ?_ ?_ ?_ ?_ ?_ ?_, h10.cg ?_ ?_ ?_ ?_⟩ <;> (intros; first | exact f5 _ _ _ (by omega) (by omega) (by omega) (by omega) | simp [mup_at])
theorem D_13 {X : Nat} (hX : X < 2 ^ 63) : D X 13 = 0 := by
  unfold D
  rw [Nat.div_eq_of_lt (Nat.lt_trans hX (by decide))]
theorem op_pattern (hn : 20 ≤ n) (h : R N S M) (x : Int64) (w : Int32) : op2 (f_X3_pattern n S x w) (f_X4_pattern n M x w) := by
  have hT := h.thr 0
  by_cases hx : x < 0
  · have c := countNeg (n := n) (S := S) (by omega) hx
    have hl : lg_cmp x 1 < 0 := (lg_cmp_lt _ _).mpr (Int64.lt_trans hx (by decide))
    exact ⟨-1000002, S, _, N, by simp [f_X3_pattern, c, cal], by simp [f_X4_pattern, hl], hT⟩
  · obtain ⟨X, hX, rfl⟩ := pk_lOf hx
    obtain ⟨z, z1, z2⟩ := pk_least (fun z => D X z = 0) ⟨13, D_13 hX⟩
    have hz : z ≤ 13 := Nat.not_lt.mp fun q => z2 13 q (D_13 hX)
    have c := countC (n := n) (S := S) (by omega) hX z2 z1
    obtain ⟨P, hP, hS, hM, -⟩ := h.2.2.2.2.2.2.2.2.2.1
    by_cases hX0 : X = 0
    · subst hX0
      have hl : lg_cmp (lN 0) 1 < 0 := by decide
      have ng : ¬ goodP 0 z := by
        rintro ⟨-, -, -, t, t1, t2⟩
        exact z2 t t1 (by unfold D; rw [Nat.zero_div])
      rcases c with ⟨-, c⟩ | ⟨c, -⟩
      · exact absurd c ng
      · exact ⟨-1000002, S, _, N, by simp [f_X3_pattern, c, cal], by simp [f_X4_pattern, hl], hT⟩
    · have hl : ¬ lg_cmp (lN X) 1 < 0 := fun q => by
        have := (pk_lLT (b := 1) hX (by omega)).mp ((lg_cmp_lt _ _).mp q)
        omega
      by_cases hw : w < 0
      · have hw' : ¬ (0 : Int32) ≤ w := Int32.not_le.mpr hw
        rcases c with ⟨c, g⟩ | ⟨c, -⟩
        · have z0 : 0 < z := by obtain ⟨-, -, -, t, t1, -⟩ := g; omega
          have nz : ¬ nI z = 0 := nI_ne0 z0 (by omega)
          rcases valuesC (n := n) (S := S) (by omega) g.1 w with ⟨v1, -⟩ | ⟨-, u, u1, rfl⟩
          · exact ⟨-1000002, S, _, N, by simp [f_X3_pattern, c, cal, nz, v1], by simp [f_X4_pattern, hl, hw'], hT⟩
          · have := p7 (show z + 1 ≤ 7 by have := g.1; omega)
            exact absurd hw (nI_pos (by omega))
        · exact ⟨-1000002, S, _, N, by simp [f_X3_pattern, c, cal], by simp [f_X4_pattern, hl, hw'], hT⟩
      · obtain ⟨v, hv, rfl⟩ := nI_of hw
        have hw' : (0 : Int32) ≤ nI v := Int32.not_lt.mp hw
        have hM' : mup M 0 0 0 0 0 0 22 = nI P := by simp [mup_at]; exact hM
        obtain ⟨r, r1, r2⟩ := patM (n := n) (M := mup M 0 0 0 0) hn hX hv hz z2 z1 hP hM'
        have fm : f_X4_pattern n M (lN X) (nI v) = some r := by simp [f_X4_pattern, hl, hw', r1]
        rw [fm]
        rcases c with ⟨c, g⟩ | ⟨c, g⟩
        · have z6 := g.1
          have hpw := p7 (show z + 1 ≤ 7 by omega)
          have z0 : 0 < z := by obtain ⟨-, -, -, t, t1, -⟩ := g; omega
          have nz : ¬ nI z = 0 := nI_ne0 z0 (by omega)
          rcases valuesC (n := n) (S := S) (by omega) z6 (nI v) with ⟨v1, v2⟩ | ⟨v1, u, u1, u2⟩
          · rcases r2 with ⟨-, rfl⟩ | ⟨⟨-, q⟩, -⟩
            · exact ⟨-1000002, S, _, N, by simp [f_X3_pattern, c, cal, nz, v1], rfl, hT⟩
            · exact absurd ⟨v, q, rfl⟩ v2
          · have ev : v = u := (nI_eq hv (by omega)).mp u2
            subst ev
            rcases r2 with ⟨q, -⟩ | ⟨-, r2⟩
            · exact absurd ⟨g, u1⟩ q
            · rcases r2 with ⟨rfl, rfl⟩ | ⟨hP30, M', rfl, hf⟩
              · exact ⟨-1000004, S, _, N, by simp [f_X3_pattern, c, cal, nz, v1, hS, show ¬ nI 30 < 30 by decide], rfl, hT⟩
              · have hlt : nI P < 30 := nI_lt (b := 30) hP30 (by omega)
                obtain ⟨hp, hc⟩ := nI_in' (i := P) (N := 30) hP30 (by omega)
                exact ⟨nI P, _, M', N, by simp [f_X3_pattern, c, cal, nz, v1, hS, hlt, f_X0_addPattern, grd, hp, hc, hP30, nI_1, nI_pred, lN_i], rfl, hT.pat g u1 hP30 hS hf⟩
        · rcases r2 with ⟨-, rfl⟩ | ⟨⟨q, -⟩, -⟩
          · exact ⟨-1000002, S, _, N, by simp [f_X3_pattern, c, cal], rfl, hT⟩
          · exact absurd q g
end Pb
