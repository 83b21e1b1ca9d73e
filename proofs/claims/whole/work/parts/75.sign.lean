/-! signs, packed five bits each -/
theorem lshr (a s : Int64) (k : Nat) (hs : (s.toBitVec.smod 64).toNat = k) : (a >>> s).toInt = a.toInt >>> k := by
  show (a.toBitVec.sshiftRight (s.toBitVec.smod 64).toNat).toInt = _
  rw [hs, BitVec.toInt_sshiftRight]
  rfl
theorem lshrN {n : Nat} (h : n < 2 ^ 63) (s : Int64) (k : Nat) (hs : (s.toBitVec.smod 64).toNat = k) : lN n >>> s = lN (n / 2 ^ k) := by
  apply Int64.toInt_inj.mp
  have h2 : n / 2 ^ k ≤ n := Nat.div_le_self _ _
  rw [lshr _ _ k hs, pk_lT h, pk_lT (by omega), Int.shiftRight_eq_div_pow]
  rfl
theorem land31 (y : Nat) : lN y &&& 31 = lN (y % 32) := by
  apply Int64.toBitVec_inj.mp
  apply BitVec.eq_of_toNat_eq
  have hm : (31 : Int64).toBitVec.toNat = 2 ^ 5 - 1 := by decide
  rw [Int64.toBitVec_and, BitVec.toNat_and, hm, Nat.and_two_pow_sub_one_eq_mod]
  show (BitVec.ofNat 64 y).toNat % 32 = (BitVec.ofNat 64 (y % 32)).toNat
  rw [BitVec.toNat_ofNat, BitVec.toNat_ofNat]
  omega
theorem and31 (y : Nat) : nI y &&& 31 = nI (y % 32) := by
  rw [pk_and (nI y) 5 (by decide)]
  have : (nI y).toBitVec.toNat = y % 2 ^ 32 := by
    show (BitVec.ofNat 32 y).toNat = _
    rw [BitVec.toNat_ofNat]
  rw [this]
  congr 1
  omega
theorem sh5 {w : Nat} (hw : w ≤ 6) : ((Int32.toInt64 (5 * nI w) &&& 63).toBitVec.smod 64).toNat = 5 * w := by
  rcases (show w = 0 ∨ w = 1 ∨ w = 2 ∨ w = 3 ∨ w = 4 ∨ w = 5 ∨ w = 6 by omega) with rfl | rfl | rfl | rfl | rfl | rfl | rfl <;> decide
/-- a sign -/
def D (X j : Nat) : Nat := X / 32 ^ j % 32
theorem p32 (w : Nat) : 2 ^ (5 * w) = 32 ^ w := by rw [Nat.pow_mul]
theorem shS {X w : Nat} (hX : X < 2 ^ 63) (hw : w ≤ 6) : lN X >>> (Int32.toInt64 (5 * nI w) &&& 63) = lN (X / 32 ^ w) := by
  rw [lshrN hX _ _ (sh5 hw), p32]
theorem sh1 {X : Nat} (hX : X < 2 ^ 63) : lN X >>> (Int32.toInt64 5 &&& 63) = lN (X / 32) := lshrN hX _ 5 (by decide)
theorem div_s (X k : Nat) : X / 32 ^ (k + 1) = X / 32 ^ k / 32 := by rw [Nat.div_div_eq_div_mul, Nat.pow_succ]
theorem lN_z {y : Nat} (hy : y < 2 ^ 63) : lg_cmp (lN y) 0 = 0 ↔ y = 0 := (lg_cmp_eq _ _).trans (pk_lEQ (b := 0) hy (by omega))
section Sg
variable {n : Nat} {S : mem}
theorem signC {X w : Nat} (hX : X < 2 ^ 63) (hw : w ≤ 6) : f_X0_signAt n S (lN X) (nI w) = some (nI (D X w)) := by
  unfold f_X0_signAt D
  rw [shS hX hw, lN_i, and31]
/-- which sign may stand where -/
def sgP (X z t : Nat) : Prop := D X t ≤ 27 ∧ (D X t = 27 → t = 0 ∨ t + 1 = z)
def goodP (X z : Nat) : Prop := z ≤ 6 ∧ X / 32 ^ z = 0 ∧ (∀ t, t < z → sgP X z t) ∧ ∃ t, t < z ∧ D X t < 27
theorem areSigns {X z : Nat} (hn : 10 ≤ n) (hX : X < 2 ^ 63) (hz : z ≤ 6) : ∃ r, f_X0_areSigns n S (lN X) (nI z) = some r ∧ ((r = 1 ∧ (∀ t, t < z → sgP X z t) ∧ ∃ t, t < z ∧ D X t < 27) ∨ (r = 0 ∧ ¬ ((∀ t, t < z → sgP X z t) ∧ ∃ t, t < z ∧ D X t < 27))) := by
  unfold f_X0_areSigns
  refine lp_up (I := fun j (q : Int32 × Int32) => ∃ l, q = (l, nI j) ∧ (∀ t, t < j → sgP X z t) ∧ ((l = 1 ∧ ∃ t, t < j ∧ D X t < 27) ∨ (l = 0 ∧ ∀ t, t < j → 27 ≤ D X t))) (Q := fun r => (r = 1 ∧ (∀ t, t < z → sgP X z t) ∧ ∃ t, t < z ∧ D X t < 27) ∨ (r = 0 ∧ ¬ ((∀ t, t < z → sgP X z t) ∧ ∃ t, t < z ∧ D X t < 27))) z ?_ ?_ n 0 (0, 0) (by omega) (by omega) ⟨0, rfl, fun t h => by omega, Or.inr ⟨rfl, fun t h => by omega⟩⟩
  · rintro j q hj ⟨l, rfl, g1, g2⟩
    have hs := signC (n := n) (S := S) hX (show j ≤ 6 by omega)
    have hd : D X j < 32 := Nat.mod_lt _ (by omega)
    have hle : ¬ nI z ≤ nI j := nI_ge hj (by omega)
    have hz1 : nI z - 1 = nI (z - 1) := by
      obtain ⟨m, rfl⟩ : ∃ m, z = m + 1 := ⟨z - 1, by omega⟩
      rw [nI_pred]; rfl
    have hb : b_X0_areSigns_5 n S (lN X) (nI z) (l, nI j) = j_X0_areSigns_37 n S (lN X) (nI z) l (nI j) (nI (D X j)) (if j = 0 ∨ j + 1 = z then 0 else 1) := by
      by_cases e : j = 0
      · have e' : nI j ≤ 0 := by rw [e]; decide
        simp [b_X0_areSigns_5, hle, cal, hs, e']
        rw [if_pos (Or.inl e)]
      · have e' : ¬ nI j ≤ 0 := nI_nle (by omega) (by omega)
        by_cases e2 : j + 1 = z
        · have e3 : nI (z - 1) ≤ nI j := nI_le (by omega) (by omega)
          rw [if_pos (Or.inr e2)]
          simp [b_X0_areSigns_5, hle, cal, hs, e', hz1, e3]
        · have e3 : ¬ nI (z - 1) ≤ nI j := nI_ge (by omega) (by omega)
          rw [if_neg (by omega)]
          simp [b_X0_areSigns_5, hle, cal, hs, e', hz1, e3]
    rw [hb]
    have add : sgP X z j → ∀ t, t < j + 1 → sgP X z t := fun h t ht => by
      by_cases e : t = j
      · subst e; exact h
      · exact g1 t (by omega)
    by_cases s1 : D X j < 27
    · have c1 : ¬ 27 < nI (D X j) := nI_nlt (a := 27) (by omega) (by omega)
      have c2 : ¬ nI (D X j) = 27 := fun q => by have := (nI_eq (b := 27) (by omega) (by omega)).mp q; omega
      have c3 : ¬ 26 < nI (D X j) := nI_nlt (a := 26) (by omega) (by omega)
      left
      refine ⟨(1, nI (j + 1)), ?_, 1, rfl, add ⟨by omega, fun h => by omega⟩, Or.inl ⟨rfl, j, by omega, s1⟩⟩
      rcases g2 with ⟨rfl, -⟩ | ⟨rfl, -⟩
      · simp [j_X0_areSigns_37, j_X0_areSigns_60, j_X0_areSigns_71, c1, c2, nI_1]
      · simp [j_X0_areSigns_37, j_X0_areSigns_60, j_X0_areSigns_71, c1, c2, c3, nI_1]
    · by_cases s2 : D X j = 27
      · have c1 : ¬ 27 < nI (D X j) := nI_nlt (a := 27) (by omega) (by omega)
        have c2 : nI (D X j) = 27 := by rw [s2]; rfl
        have c3 : 26 < nI (D X j) := nI_lt (a := 26) (by omega) (by omega)
        by_cases e : j = 0 ∨ j + 1 = z
        · left
          rw [if_pos e]
          rcases g2 with ⟨rfl, t, t1, t2⟩ | ⟨rfl, g2⟩
          · exact ⟨(1, nI (j + 1)), by simp [j_X0_areSigns_37, j_X0_areSigns_60, j_X0_areSigns_71, c1, nI_1], 1, rfl, add ⟨by omega, fun _ => e⟩, Or.inl ⟨rfl, t, by omega, t2⟩⟩
          · refine ⟨(0, nI (j + 1)), ?_, 0, rfl, add ⟨by omega, fun _ => e⟩, Or.inr ⟨rfl, fun t ht => ?_⟩⟩
            · simp [j_X0_areSigns_37, j_X0_areSigns_60, c1, c3, nI_1]
            · by_cases et : t = j
              · subst et; omega
              · exact g2 t (by omega)
        · right
          rw [if_neg e]
          exact ⟨0, by simp [j_X0_areSigns_37, c1, c2, show ¬ (27 : Int32) < 27 by decide], Or.inr ⟨rfl, fun h => e ((h.1 j hj).2 s2)⟩⟩
      · have c1 : 27 < nI (D X j) := nI_lt (a := 27) (by omega) (by omega)
        right
        exact ⟨0, by simp [j_X0_areSigns_37, c1], Or.inr ⟨rfl, fun h => by have := (h.1 j hj).1; omega⟩⟩
  · rintro q ⟨l, rfl, g1, g2⟩
    rcases g2 with ⟨rfl, g2⟩ | ⟨rfl, g2⟩
    · exact ⟨1, by simp [b_X0_areSigns_5, Int32.le_refl, grd], Or.inl ⟨rfl, g1, g2⟩⟩
    · exact ⟨0, by simp [b_X0_areSigns_5, Int32.le_refl, grd], Or.inr ⟨rfl, fun ⟨_, t, t1, t2⟩ => by have := g2 t t1; omega⟩⟩
theorem countC {X z : Nat} (hn : 10 ≤ n) (hX : X < 2 ^ 63) (h1 : ∀ t, t < z → D X t ≠ 0) (h2 : D X z = 0) : (f_X0_signCount n S (lN X) = some (nI z) ∧ goodP X z) ∨ (f_X0_signCount n S (lN X) = some 0 ∧ ¬ goodP X z) := by
  have hdl : ∀ w, X / 32 ^ w < 2 ^ 63 := fun w => Nat.lt_of_le_of_lt (Nat.div_le_self _ _) hX
  have fin : ∀ w, w ≤ 6 → w ≤ z → (w = z ∨ w = 6) → ∃ r, j_X0_signCount_22 n S (lN X) (nI w) = some (.inr r) ∧ ((r = nI z ∧ goodP X z) ∨ (r = 0 ∧ ¬ goodP X z)) := by
    intro w hw hwz hcase
    have hs := shS hX hw
    have hzz := lN_z (hdl w)
    by_cases e : X / 32 ^ w = 0
    · have ewz : w = z := by
        rcases hcase with q | q
        · exact q
        · refine Decidable.byContradiction fun hne => ?_
          have := h1 w (by omega)
          unfold D at this
          rw [e] at this
          exact this rfl
      subst ewz
      obtain ⟨r, r1, r2⟩ := areSigns (n := n) (S := S) hn hX hw
      rcases r2 with ⟨rfl, r2⟩ | ⟨rfl, r2⟩
      · exact ⟨nI w, by simp [j_X0_signCount_22, j_X0_signCount_37, hs, hzz.mpr e, cal, r1], Or.inl ⟨rfl, hw, e, r2⟩⟩
      · exact ⟨0, by simp [j_X0_signCount_22, j_X0_signCount_37, hs, hzz, e, cal, r1], Or.inr ⟨rfl, fun g => r2 g.2.2⟩⟩
    · refine ⟨0, by simp [j_X0_signCount_22, j_X0_signCount_37, hs, hzz, e], Or.inr ⟨rfl, fun g => ?_⟩⟩
      rcases hcase with rfl | rfl
      · exact e g.2.1
      · have : z = 6 := by have := g.1; omega
        subst this
        exact e g.2.1
  have key : ∃ r, lp (b_X0_signCount_2 n S (lN X)) n 0 = some r ∧ ((r = nI z ∧ goodP X z) ∨ (r = 0 ∧ ¬ goodP X z)) := by
    refine lp_up (I := fun w (q : Int32) => q = nI w ∧ w ≤ z) (Q := fun r => (r = nI z ∧ goodP X z) ∨ (r = 0 ∧ ¬ goodP X z)) 6 ?_ ?_ n 0 0 (by omega) (by omega) ⟨rfl, Nat.zero_le _⟩
    · rintro w q hw ⟨rfl, hwz⟩
      have hle : ¬ (6 : Int32) ≤ nI w := nI_ge (b := 6) hw (by omega)
      have hs := signC (n := n) (S := S) hX (show w ≤ 6 by omega)
      have hd : D X w < 32 := Nat.mod_lt _ (by omega)
      by_cases e : w = z
      · right
        obtain ⟨r, r1, r2⟩ := fin w (by omega) hwz (Or.inl e)
        rw [e, h2] at hs
        refine ⟨r, ?_, r2⟩
        rw [← r1, e]
        simp [b_X0_signCount_2, show ¬ (6 : Int32) ≤ nI z by rw [← e]; exact hle, cal, hs, nI_0]
      · left
        have ne : ¬ nI (D X w) = 0 := nI_ne0 (Nat.pos_of_ne_zero (h1 w (by omega))) (by omega)
        exact ⟨nI (w + 1), by simp [b_X0_signCount_2, hle, cal, hs, ne, nI_1], rfl, by omega⟩
    · rintro q ⟨rfl, hwz⟩
      obtain ⟨r, r1, r2⟩ := fin 6 (by omega) hwz (Or.inr rfl)
      exact ⟨r, by simp [b_X0_signCount_2, show (6 : Int32) ≤ nI 6 by decide]; exact r1, r2⟩
  obtain ⟨r, r1, r2⟩ := key
  unfold f_X0_signCount
  rw [r1]
  rcases r2 with ⟨rfl, r2⟩ | ⟨rfl, r2⟩
  · exact Or.inl ⟨rfl, r2⟩
  · exact Or.inr ⟨rfl, r2⟩
theorem countNeg {x : Int64} (hn : 10 ≤ n) (hx : x < 0) : f_X0_signCount n S x = some 0 := by
  have nz : ∀ w, w ≤ 6 → ¬ lg_cmp (x >>> (Int32.toInt64 (5 * nI w) &&& 63)) 0 = 0 := by
    intro w hw q
    rw [lg_cmp_eq] at q
    have h1 := lshr x _ _ (sh5 hw)
    rw [q] at h1
    have h2 : x.toInt < 0 := Int64.lt_iff_toInt_lt.mp hx
    have h3 : x.toInt >>> (5 * w) < 0 := by
      rw [Int.shiftRight_eq_div_pow]
      exact Int.ediv_neg_of_neg_of_pos h2 (by exact_mod_cast Nat.two_pow_pos _)
    rw [← h1] at h3
    exact absurd h3 (by decide)
  have fin : ∀ w, w ≤ 6 → j_X0_signCount_22 n S x (nI w) = some (.inr 0) := by
    intro w hw
    simp [j_X0_signCount_22, j_X0_signCount_37, nz w hw]
  have key : ∃ r, lp (b_X0_signCount_2 n S x) n 0 = some r ∧ r = 0 := by
    refine lp_up (I := fun w (q : Int32) => q = nI w) (Q := fun r => r = 0) 6 ?_ ?_ n 0 0 (by omega) (by omega) rfl
    · rintro w q hw rfl
      have hle : ¬ (6 : Int32) ≤ nI w := nI_ge (b := 6) hw (by omega)
      have f1 := fin w (by omega)
      by_cases e : (Int64.toInt32 (x >>> (Int32.toInt64 (5 * nI w) &&& 63))) &&& 31 = 0
      · right
        exact ⟨0, by simp only [b_X0_signCount_2, hle, cal, f_X0_signAt, e, f1, if_true, if_false], rfl⟩
      · left
        exact ⟨nI (w + 1), by simp only [b_X0_signCount_2, hle, cal, f_X0_signAt, e, if_false, nI_1], rfl⟩
    · rintro q rfl
      have f1 := fin 6 (by omega)
      exact ⟨0, by simp only [b_X0_signCount_2, show (6 : Int32) ≤ nI 6 by decide, if_true, f1], rfl⟩
  obtain ⟨r, r1, rfl⟩ := key
  exact r1
theorem valuesC {z : Nat} (hn : 10 ≤ n) (hz : z ≤ 6) (x : Int32) : (f_X0_areValuesFor n S (nI z) x = some 0 ∧ ¬ ∃ v, v < 10 ^ (z + 1) ∧ x = nI v) ∨ (f_X0_areValuesFor n S (nI z) x = some 1 ∧ ∃ v, v < 10 ^ (z + 1) ∧ x = nI v) := by
  have hb : (10 : Nat) ^ (z + 1) ≤ 10 ^ 7 := Nat.pow_le_pow_right (by omega) (by omega)
  by_cases h0 : x < 0
  · left
    refine ⟨?_, fun ⟨v, v1, v2⟩ => by rw [v2] at h0; exact nI_pos (by omega) h0⟩
    have key : ∃ r, lp (b_X0_areValuesFor_4 n S (nI z) x) n (x, 0) = some r ∧ r = 0 := by
      refine lp_up (I := fun w (q : Int32 × Int32) => q.2 = nI w) (Q := fun r => r = 0) (z + 1) ?_ ?_ n 0 (x, 0) (by omega) (by omega) rfl
      · rintro w ⟨y, q⟩ hw hq
        dsimp only at hq
        subst hq
        left
        have hlt : ¬ nI z < nI w := nI_nlt (by omega) (by omega)
        exact ⟨(y / 10, nI (w + 1)), by simp [b_X0_areValuesFor_4, hlt, nI_1], rfl⟩
      · rintro ⟨y, q⟩ hq
        dsimp only at hq
        subst hq
        have hlt : nI z < nI (z + 1) := nI_lt (by omega) (by omega)
        exact ⟨0, by simp [b_X0_areValuesFor_4, hlt, h0], rfl⟩
    obtain ⟨r, r1, rfl⟩ := key
    exact r1
  · obtain ⟨v, hv, rfl⟩ := nI_of h0
    have key : ∃ r, lp (b_X0_areValuesFor_4 n S (nI z) (nI v)) n (nI v, 0) = some r ∧ r = if v / 10 ^ (z + 1) = 0 then 1 else 0 := by
      refine lp_up (I := fun w (q : Int32 × Int32) => q = (nI (v / 10 ^ w), nI w)) (Q := fun r => r = if v / 10 ^ (z + 1) = 0 then 1 else 0) (z + 1) ?_ ?_ n 0 (nI v, 0) (by omega) (by omega) (by simp; rfl)
      · rintro w q hw rfl
        left
        have hlt : ¬ nI z < nI w := nI_nlt (by omega) (by omega)
        have hd : v / 10 ^ w < 2 ^ 31 := Nat.lt_of_le_of_lt (Nat.div_le_self _ _) hv
        have e : nI (v / 10 ^ w) / 10 = nI (v / 10 ^ (w + 1)) := by
          rw [show (10 : Int32) = nI 10 from rfl, pk_div hd (by omega) (by omega), Nat.div_div_eq_div_mul, Nat.pow_succ]
        exact ⟨(nI (v / 10 ^ (w + 1)), nI (w + 1)), by simp [b_X0_areValuesFor_4, hlt, nI_1, e], rfl⟩
      · rintro q rfl
        have hlt : nI z < nI (z + 1) := nI_lt (by omega) (by omega)
        have hd : v / 10 ^ (z + 1) < 2 ^ 31 := Nat.lt_of_le_of_lt (Nat.div_le_self _ _) hv
        refine ⟨_, ?_, rfl⟩
        by_cases e : v / 10 ^ (z + 1) = 0
        · rw [if_pos e, e]
          simp [b_X0_areValuesFor_4, hlt, h0, nI_0]
        · rw [if_neg e]
          have := nI_ne0 (n := v / 10 ^ (z + 1)) (Nat.pos_of_ne_zero e) hd
          simp [b_X0_areValuesFor_4, hlt, h0, this]
    obtain ⟨r, r1, rfl⟩ := key
    have hdz : v / 10 ^ (z + 1) = 0 ↔ v < 10 ^ (z + 1) := by
      constructor
      · intro q
        rcases Nat.div_eq_zero_iff.mp q with q | q
        · exact absurd q (Nat.ne_of_gt (Nat.pow_pos (by omega)))
        · exact q
      · exact Nat.div_eq_of_lt
    by_cases e : v / 10 ^ (z + 1) = 0
    · right
      rw [if_pos e] at r1
      exact ⟨r1, v, hdz.mp e, rfl⟩
    · left
      rw [if_neg e] at r1
      refine ⟨r1, fun ⟨u, u1, u2⟩ => e (hdz.mpr ?_)⟩
      have := (nI_eq hv (by omega)).mp u2
      omega
end Sg
