/-! a pattern, of the reference -/
section Pa
variable {n N : Nat} {S M : mem}
def okP (X k : Nat) : Prop := k ≤ 6 ∧ ∀ t, t < k → D X t ≤ 27 ∧ (D X t = 27 → t = 0 ∨ X / 32 ^ (t + 1) = 0)
theorem good_iff {X z : Nat} (h1 : ∀ t, t < z → D X t ≠ 0) : goodP X z ↔ okP X z ∧ (∃ t, t < z ∧ D X t < 27) ∧ X / 32 ^ z = 0 := by
  have nz : ∀ t, t < z → X / 32 ^ t ≠ 0 := fun t ht q => h1 t ht (by unfold D; rw [q])
  constructor
  · rintro ⟨a, b, c, d⟩
    refine ⟨⟨a, fun t ht => ⟨(c t ht).1, fun q => ?_⟩⟩, d, b⟩
    rcases (c t ht).2 q with e | e
    · exact Or.inl e
    · exact Or.inr (by rw [e]; exact b)
  · rintro ⟨⟨a, c⟩, d, b⟩
    refine ⟨a, b, fun t ht => ⟨(c t ht).1, fun q => ?_⟩, d⟩
    rcases (c t ht).2 q with e | e
    · exact Or.inl e
    · right
      by_cases e2 : t + 1 = z
      · exact e2
      · exact absurd e (nz (t + 1) (by omega))
theorem p7 {k : Nat} (h : k ≤ 7) : (10 : Nat) ^ k ≤ 10 ^ 7 := Nat.pow_le_pow_right (by omega) h
theorem j103 {k s : Nat} {x1 x5 : Int64} {x3 le y0 : Int32} (hk : k < 20) (hs : s < 32) (hl : le = 0 ∨ le = 1) : j_X4_pattern_103 n M x1 x3 (nI k) x5 (nI (10 ^ (min k 6 + 1))) le (nI s) y0 = some (.inl (nI (k + 1), x5, nI (10 ^ (min (k + 1) 6 + 1)), y0, if le = 0 ∧ 27 ≤ s then 0 else 1)) := by
  have hp : ∀ z, j_X4_pattern_122 n M x1 x3 (nI k) x5 (nI (10 ^ (min k 6 + 1))) y0 z = some (.inl (nI (k + 1), x5, nI (10 ^ (min (k + 1) 6 + 1)), y0, z)) := by
    intro z
    by_cases e : 6 ≤ k
    · have h6 : (6 : Int32) ≤ nI k := nI_le (a := 6) e (by omega)
      rw [show min k 6 = 6 by omega, show min (k + 1) 6 = 6 by omega]
      simp [j_X4_pattern_122, h6, nI_1]
    · have h6 : ¬ (6 : Int32) ≤ nI k := nI_ge (b := 6) (by omega) (by omega)
      have e10 : (10 : Int32) * nI (10 ^ (k + 1)) = nI (10 ^ (k + 1 + 1)) := by
        rw [show (10 : Int32) = nI 10 from rfl, pk_mul, Nat.pow_succ 10 (k + 1), Nat.mul_comm]
      rw [show min k 6 = k by omega, show min (k + 1) 6 = k + 1 by omega]
      simp [j_X4_pattern_122, h6, nI_1, e10]
  rcases hl with rfl | rfl
  · by_cases e : 27 ≤ s
    · have h27 : (27 : Int32) ≤ nI s := nI_le (a := 27) e (by omega)
      simp [j_X4_pattern_103, h27, hp, e]
    · have h27 : ¬ (27 : Int32) ≤ nI s := nI_ge (b := 27) (by omega) (by omega)
      simp [j_X4_pattern_103, h27, hp, e]
  · simp [j_X4_pattern_103, hp]
/-- one sign more -/
theorem stepM {X k : Nat} {x1 : Int64} {x3 ok le : Int32} (hX : X < 2 ^ 63) (hk : k < 20) (hd : D X k ≠ 0) (ho : (ok = 1 ∧ okP X k) ∨ (ok = 0 ∧ ¬ okP X k)) (hl : (le = 1 ∧ ∃ t, t < k ∧ D X t < 27) ∨ (le = 0 ∧ ∀ t, t < k → 27 ≤ D X t)) : ∃ ok' le', b_X4_pattern_34 n M x1 x3 (nI k, lN (X / 32 ^ k), nI (10 ^ (min k 6 + 1)), ok, le) = some (.inl (nI (k + 1), lN (X / 32 ^ (k + 1)), nI (10 ^ (min (k + 1) 6 + 1)), ok', le')) ∧ ((ok' = 1 ∧ okP X (k + 1)) ∨ (ok' = 0 ∧ ¬ okP X (k + 1))) ∧ ((le' = 1 ∧ ∃ t, t < k + 1 ∧ D X t < 27) ∨ (le' = 0 ∧ ∀ t, t < k + 1 → 27 ≤ D X t)) := by
  have hX' : X / 32 ^ k < 2 ^ 63 := Nat.lt_of_le_of_lt (Nat.div_le_self _ _) hX
  have hX2 : X / 32 ^ (k + 1) < 2 ^ 63 := Nat.lt_of_le_of_lt (Nat.div_le_self _ _) hX
  have hlt : D X k < 32 := Nat.mod_lt _ (by omega)
  have a1 : lN (X / 32 ^ k) &&& 31 = lN (D X k) := land31 _
  have a2 : ¬ lg_cmp (lN (D X k)) 0 = 0 := fun q => hd ((lN_z (by omega)).mp q)
  have a3 : lN (X / 32 ^ k) >>> (Int32.toInt64 5 &&& 63) = lN (X / 32 ^ (k + 1)) := by rw [sh1 hX', div_s]
  have a3' : lN (X / 32 ^ k) >>> ((5 : Int64) &&& 63) = lN (X / 32 ^ (k + 1)) := a3
  have a4 : Int64.toInt32 (lN (D X k)) = nI (D X k) := lN_i _
  have a5 := lN_z hX2
  have hl01 : le = 0 ∨ le = 1 := by rcases hl with ⟨q, -⟩ | ⟨q, -⟩; exact Or.inr q; exact Or.inl q
  have hle : (((if le = 0 ∧ 27 ≤ D X k then (0 : Int32) else 1) = 1 ∧ ∃ t, t < k + 1 ∧ D X t < 27) ∨ ((if le = 0 ∧ 27 ≤ D X k then (0 : Int32) else 1) = 0 ∧ ∀ t, t < k + 1 → 27 ≤ D X t)) := by
    by_cases e : le = 0 ∧ 27 ≤ D X k
    · right
      rw [if_pos e]
      refine ⟨rfl, fun t ht => ?_⟩
      by_cases et : t = k
      · subst et; exact e.2
      · rcases hl with ⟨q, -⟩ | ⟨-, q⟩
        · rw [q] at e; exact absurd e.1 (by decide)
        · exact q t (by omega)
    · left
      rw [if_neg e]
      refine ⟨rfl, ?_⟩
      rcases hl with ⟨-, t, t1, t2⟩ | ⟨q, -⟩
      · exact ⟨t, by omega, t2⟩
      · exact ⟨k, by omega, Nat.not_le.mp fun q2 => e ⟨q, q2⟩⟩
  -- the new flag
  have fin : ∀ y0, b_X4_pattern_34 n M x1 x3 (nI k, lN (X / 32 ^ k), nI (10 ^ (min k 6 + 1)), ok, le) = j_X4_pattern_103 n M x1 x3 (nI k) (lN (X / 32 ^ (k + 1))) (nI (10 ^ (min k 6 + 1))) le (nI (D X k)) y0 → ((y0 = 1 ∧ okP X (k + 1)) ∨ (y0 = 0 ∧ ¬ okP X (k + 1))) → ∃ ok' le', b_X4_pattern_34 n M x1 x3 (nI k, lN (X / 32 ^ k), nI (10 ^ (min k 6 + 1)), ok, le) = some (.inl (nI (k + 1), lN (X / 32 ^ (k + 1)), nI (10 ^ (min (k + 1) 6 + 1)), ok', le')) ∧ ((ok' = 1 ∧ okP X (k + 1)) ∨ (ok' = 0 ∧ ¬ okP X (k + 1))) ∧ ((le' = 1 ∧ ∃ t, t < k + 1 ∧ D X t < 27) ∨ (le' = 0 ∧ ∀ t, t < k + 1 → 27 ≤ D X t)) := by
    intro y0 q1 q2
    exact ⟨y0, _, q1.trans (j103 hk hlt hl01), q2, hle⟩
  have no : ¬ okP X k → ¬ okP X (k + 1) := fun h q => h ⟨by have := q.1; omega, fun t ht => q.2 t (by omega)⟩
  have up : okP X k → k + 1 ≤ 6 → (D X k ≤ 27 ∧ (D X k = 27 → k = 0 ∨ X / 32 ^ (k + 1) = 0)) → okP X (k + 1) := fun h h6 q => ⟨h6, fun t ht => by
    by_cases et : t = k
    · subst et; exact q
    · exact h.2 t (by omega)⟩
  rcases ho with ⟨rfl, ho⟩ | ⟨rfl, ho⟩
  · by_cases e6 : 6 ≤ k
    · have h6 : (6 : Int32) ≤ nI k := nI_le (a := 6) e6 (by omega)
      exact fin 0 (by simp [b_X4_pattern_34, a1, a2, a3', a4, h6]) (Or.inr ⟨rfl, fun q => by have := q.1; omega⟩)
    · have h6 : ¬ (6 : Int32) ≤ nI k := nI_ge (b := 6) (by omega) (by omega)
      by_cases e28 : 28 ≤ D X k
      · have h28 : (28 : Int32) ≤ nI (D X k) := nI_le (a := 28) e28 (by omega)
        exact fin 0 (by simp [b_X4_pattern_34, a1, a2, a3', a4, h6, h28]) (Or.inr ⟨rfl, fun q => by have := (q.2 k (by omega)).1; omega⟩)
      · have h28 : ¬ (28 : Int32) ≤ nI (D X k) := nI_ge (b := 28) (by omega) (by omega)
        by_cases e27 : D X k < 27
        · have h27 : nI (D X k) < 27 := nI_lt (b := 27) e27 (by omega)
          exact fin 1 (by simp [b_X4_pattern_34, a1, a2, a3', a4, h6, h28, h27]) (Or.inl ⟨rfl, up ho (by omega) ⟨by omega, fun q => by omega⟩⟩)
        · have h27 : ¬ nI (D X k) < 27 := nI_nlt (b := 27) (by omega) (by omega)
          by_cases e0 : k = 0
          · have h0 : nI k = 0 := by rw [e0]; rfl
            exact fin 1 (by simp [b_X4_pattern_34, a1, a2, a3', a4, h6, h28, h27, h0]) (Or.inl ⟨rfl, up ho (by omega) ⟨by omega, fun _ => Or.inl e0⟩⟩)
          · have h0 : ¬ nI k = 0 := nI_ne0 (by omega) (by omega)
            by_cases er : X / 32 ^ (k + 1) = 0
            · exact fin 1 (by simp [b_X4_pattern_34, a1, a2, a3', a4, h6, h28, h27, h0, a5.mpr er]) (Or.inl ⟨rfl, up ho (by omega) ⟨by omega, fun _ => Or.inr er⟩⟩)
            · have hr : ¬ lg_cmp (lN (X / 32 ^ (k + 1))) 0 = 0 := fun q => er (a5.mp q)
              refine fin 0 (by simp [b_X4_pattern_34, a1, a2, a3', a4, h6, h28, h27, h0, hr]) (Or.inr ⟨rfl, fun q => ?_⟩)
              rcases (q.2 k (by omega)).2 (by omega) with q | q
              · exact e0 q
              · exact er q
  · exact fin 0 (by simp [b_X4_pattern_34, a1, a2, a3', a4]) (Or.inr ⟨rfl, no ho⟩)
/-- the pattern is put down -/
theorem putM {X z v P : Nat} (hn : 10 ≤ n) (hX : X < 2 ^ 63) (hz : z ≤ 6) (hv : v < 2 ^ 31) (hP : P < 30) (hM : M 0 0 22 = nI P) : ∃ r, lp (b_X4_pattern_193 n (lN X) (nI z)) n (nI v, 0, M) = some r ∧ ∃ M', r = .inr (nI P, M') ∧ M' 23 0 P = nI z ∧ M' 0 0 22 = nI (P + 1) ∧ (∀ j, j < z → M' 24 0 (6 * P + j) = nI (D X j)) ∧ (∀ j, j ≤ z → M' 25 0 (7 * P + j) = nI (v / 10 ^ j % 10)) ∧ ∀ a b c, ¬ (a = 23 ∧ b = 0 ∧ c = P) → ¬ (a = 24 ∧ b = 0 ∧ 6 * P ≤ c ∧ c < 6 * P + 6) → ¬ (a = 25 ∧ b = 0 ∧ 7 * P ≤ c ∧ c < 7 * P + 7) → ¬ (a = 0 ∧ b = 0 ∧ c = 22) → M' a b c = M a b c := by
  refine lp_up (I := fun k (q : Int32 × Int32 × mem) => ∃ T, q = (nI (v / 10 ^ k), nI k, T) ∧ (∀ j, j < k → j < z → T 24 0 (6 * P + j) = nI (D X j)) ∧ (∀ j, j < k → T 25 0 (7 * P + j) = nI (v / 10 ^ j % 10)) ∧ ∀ a b c, ¬ (a = 24 ∧ b = 0 ∧ 6 * P ≤ c ∧ c < 6 * P + 6) → ¬ (a = 25 ∧ b = 0 ∧ 7 * P ≤ c ∧ c < 7 * P + 7) → T a b c = M a b c) (Q := fun r : (Int32 × Int64 × Int32 × Int32 × Int32) ⊕ (Int32 × mem) => ∃ M', r = .inr (nI P, M') ∧ M' 23 0 P = nI z ∧ M' 0 0 22 = nI (P + 1) ∧ (∀ j, j < z → M' 24 0 (6 * P + j) = nI (D X j)) ∧ (∀ j, j ≤ z → M' 25 0 (7 * P + j) = nI (v / 10 ^ j % 10)) ∧ ∀ a b c, ¬ (a = 23 ∧ b = 0 ∧ c = P) → ¬ (a = 24 ∧ b = 0 ∧ 6 * P ≤ c ∧ c < 6 * P + 6) → ¬ (a = 25 ∧ b = 0 ∧ 7 * P ≤ c ∧ c < 7 * P + 7) → ¬ (a = 0 ∧ b = 0 ∧ c = 22) → M' a b c = M a b c) (z + 1) ?_ ?_ n 0 (nI v, 0, M) (by omega) (by omega) ⟨M, by simp; rfl, fun j h => by omega, fun j h => by omega, fun _ _ _ _ _ => rfl⟩
  · rintro k q hk ⟨T, rfl, g1, g2, g3⟩
    left
    have hlt : ¬ nI z < nI k := nI_nlt (by omega) (by omega)
    have e22 : T 0 0 22 = nI P := (g3 0 0 22 (by omega) (by omega)).trans hM
    have i7 : (7 : Int32) * nI P + nI k = nI (7 * P + k) := by rw [show (7 : Int32) = nI 7 from rfl, pk_mul, nI_add]
    have i6 : (6 : Int32) * nI P + nI k = nI (6 * P + k) := by rw [show (6 : Int32) = nI 6 from rfl, pk_mul, nI_add]
    obtain ⟨hp7, hc7⟩ := nI_in' (i := 7 * P + k) (N := 210) (by omega) (by omega)
    have hl7 : 7 * P + k < 210 := by omega
    have hd : v / 10 ^ k < 2 ^ 31 := Nat.lt_of_le_of_lt (Nat.div_le_self _ _) hv
    have d10 : nI (v / 10 ^ k) / 10 = nI (v / 10 ^ (k + 1)) := by
      rw [show (10 : Int32) = nI 10 from rfl, pk_div hd (by omega) (by omega), Nat.div_div_eq_div_mul, Nat.pow_succ]
    have r10 : nI (v / 10 ^ k) - nI (v / 10 ^ (k + 1)) * 10 = nI (v / 10 ^ k % 10) := by
      rw [← d10]
      exact pk_rem hd (d := 10) (by omega) (by omega)
    by_cases ez : z ≤ k
    · have hle : nI z ≤ nI k := nI_le ez (by omega)
      refine ⟨(nI (v / 10 ^ (k + 1)), nI (k + 1), mup T 25 0 (7 * P + k) (nI (v / 10 ^ k % 10))), by simp [b_X4_pattern_193, hlt, e22, i7, grd, hp7, hc7, hl7, hle, d10, r10, nI_1], _, rfl, fun j h h' => ?_, fun j h => ?_, fun a b c h1 h2 => ?_⟩
      · rw [mup_at, if_neg (by omega)]; exact g1 j (by omega) h'
      · by_cases ej : j = k
        · subst ej; simp [mup_at]
        · rw [mup_at, if_neg (by omega)]; exact g2 j (by omega)
      · rw [mup_at, if_neg (by omega)]; exact g3 a b c h1 h2
    · have hle : ¬ nI z ≤ nI k := nI_ge (by omega) (by omega)
      obtain ⟨hp6, hc6⟩ := nI_in' (i := 6 * P + k) (N := 180) (by omega) (by omega)
      have hl6 : 6 * P + k < 180 := by omega
      have sg : Int64.toInt32 ((lN X >>> (Int32.toInt64 (5 * nI k) &&& 63)) &&& 31) = nI (D X k) := by
        rw [shS hX (by omega), land31, lN_i]; rfl
      refine ⟨(nI (v / 10 ^ (k + 1)), nI (k + 1), mup (mup T 25 0 (7 * P + k) (nI (v / 10 ^ k % 10))) 24 0 (6 * P + k) (nI (D X k))), by simp [b_X4_pattern_193, hlt, e22, i7, i6, grd, hp7, hc7, hl7, hp6, hc6, hl6, hle, d10, r10, sg, nI_1], _, rfl, fun j h h' => ?_, fun j h => ?_, fun a b c h1 h2 => ?_⟩
      · by_cases ej : j = k
        · subst ej; simp [mup_at]
        · rw [mup_at, if_neg (by omega), mup_at, if_neg (by omega)]; exact g1 j (by omega) h'
      · by_cases ej : j = k
        · subst ej; simp [mup_at]
        · rw [mup_at, if_neg (by omega), mup_at, if_neg (by omega)]; exact g2 j (by omega)
      · rw [mup_at, if_neg (by omega), mup_at, if_neg (by omega)]; exact g3 a b c h1 h2
  · rintro q ⟨T, rfl, g1, g2, g3⟩
    have hlt : nI z < nI (z + 1) := nI_lt (by omega) (by omega)
    have e22 : T 0 0 22 = nI P := (g3 0 0 22 (by omega) (by omega)).trans hM
    obtain ⟨hp, hc⟩ := nI_in' (i := P) (N := 30) (by omega) (by omega)
    refine ⟨.inr (nI P, mup (mup T 23 0 P (nI z)) 0 0 22 (nI (P + 1))), by simp [b_X4_pattern_193, hlt, e22, grd, hp, hc, hP, nI_1, nI_pred], _, rfl, by simp [mup_at], by simp [mup_at], fun j h => ?_, fun j h => ?_, fun a b c h1 h2 h3 h4 => ?_⟩
    · rw [mup_at, if_neg (by omega), mup_at, if_neg (by omega)]; exact g1 j (by omega) h
    · rw [mup_at, if_neg (by omega), mup_at, if_neg (by omega)]; exact g2 j (by omega)
    · rw [mup_at, if_neg (by omega), mup_at, if_neg (by omega)]; exact g3 a b c h2 h3
end Pa
