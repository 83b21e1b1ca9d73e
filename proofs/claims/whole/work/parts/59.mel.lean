/-! melismas and refrains -/
theorem hasBoxC {n v i : Nat} {S : mem} (hi : i < 60) (h2 : S 7 v i = nI (cn S v i)) (hc : cn S v i ≤ 2) : (cn S v i = 0 ∧ f_X2_hasBox n S v (nI i) = some 0) ∨ (0 < cn S v i ∧ f_X2_hasBox n S v (nI i) = some 1) := by
  obtain ⟨hp, hcl⟩ := nI_in' hi (by omega)
  by_cases h0 : cn S v i = 0
  · left
    refine ⟨h0, ?_⟩
    rw [h0] at h2
    simp [f_X2_hasBox, grd, hp, hcl, hi, h2, show nI 0 ≤ 0 by decide]
  · right
    refine ⟨by omega, ?_⟩
    have : ¬ nI (cn S v i) ≤ 0 := nI_nle (by omega) (by omega)
    simp [f_X2_hasBox, grd, hp, hcl, hi, h2, this]
theorem R.c7 {N : Nat} {S M : mem} (h : R N S M) {v i : Nat} (hv : v < 4) (hi : i < 60) : S 7 v i = nI (cn S v i) ∧ cn S v i ≤ 2 ∧ (N ≤ i → cn S v i = 0) := by
  by_cases hN : i < N
  · have q := h.2.2.2.2.1.cn2 hv hN
    exact ⟨q.2.1, q.1, fun h => by omega⟩
  · have q := h.2.2.2.2.1.2 v i hv (by omega) hi
    have e : cn S v i = 0 := by unfold cn; rw [q]; rfl
    rw [e]
    exact ⟨q, by omega, fun _ => rfl⟩
theorem boxFromC {n N v0 i : Nat} {S M : mem} (hn : 10 ≤ n) (h : R N S M) (hi : i < 60) (hv0 : v0 ≤ 4) : ∃ r, f_X3_hasBoxFrom n S (nI v0) (nI i) = some r ∧ ((r = 0 ∧ ∀ v, v0 ≤ v → v < 4 → cn S v i = 0) ∨ (r = 1 ∧ ∃ v, v0 ≤ v ∧ v < 4 ∧ 0 < cn S v i)) := by
  unfold f_X3_hasBoxFrom
  refine lp_up (I := fun j (q : Int32) => v0 ≤ j ∧ q = nI j ∧ ∀ v, v0 ≤ v → v < j → cn S v i = 0) (Q := fun r => (r = 0 ∧ ∀ v, v0 ≤ v → v < 4 → cn S v i = 0) ∨ (r = 1 ∧ ∃ v, v0 ≤ v ∧ v < 4 ∧ 0 < cn S v i)) 4 ?_ ?_ n v0 (nI v0) hv0 (by omega) ⟨by omega, rfl, fun v h1 h2 => by omega⟩
  · rintro j q hj ⟨h1, rfl, h3⟩
    obtain ⟨hp, hc⟩ := nI_in' hj (by omega)
    have c7 := h.c7 (v := j) (by omega) hi
    rcases hasBoxC (n := n) hi c7.1 c7.2.1 with ⟨z1, z2⟩ | ⟨z1, z2⟩
    · left
      refine ⟨nI (j + 1), by simp [b_X3_hasBoxFrom_2, nI_lt4 hj, grd, hp, hc, hj, cal, z2, nI_1], by omega, rfl, fun v h4 h5 => ?_⟩
      by_cases e : v = j
      · subst e; exact z1
      · exact h3 v h4 (by omega)
    · right
      exact ⟨1, by simp [b_X3_hasBoxFrom_2, nI_lt4 hj, grd, hp, hc, hj, cal, z2], Or.inr ⟨rfl, j, h1, hj, z1⟩⟩
  · rintro q ⟨h1, rfl, h3⟩
    exact ⟨0, by simp [b_X3_hasBoxFrom_2, show (4 : Int32) ≤ nI 4 by decide], Or.inl ⟨rfl, h3⟩⟩
/-- how many syllables a note has from a verse on -/
def syl (S : mem) (i : Nat) : Nat → Nat → Nat
  | _, 0 => 0
  | v, k + 1 => cn S v i + syl S i (v + 1) k
theorem syl_0 {S : mem} {i : Nat} : ∀ (k v : Nat), syl S i v k = 0 ↔ ∀ u, v ≤ u → u < v + k → cn S u i = 0
  | 0, v => by simp [syl]; omega
  | k + 1, v => by
    rw [syl]
    have ih := syl_0 (S := S) (i := i) k (v + 1)
    constructor
    · intro h u h1 h2
      by_cases e : u = v
      · subst e; omega
      · exact ih.mp (by omega) u (by omega) (by omega)
    · intro h
      have h1 := h v (by omega) (by omega)
      have h2 := ih.mpr (fun u a b => h u (by omega) (by omega))
      omega
theorem sylM {n N v0 i : Nat} {S M : mem} (hn : 10 ≤ n) (h : R N S M) (hi : i < N) (hv0 : v0 ≤ 4) : f_X4_syllablesOf n M (nI i) (nI v0) = some (nI (syl S i v0 (4 - v0))) := by
  have hN := h.1.2.2
  have key : ∃ r, lp (b_X4_syllablesOf_5 n M (nI i)) n (0, nI v0) = some r ∧ r = nI (syl S i v0 (4 - v0)) := by
    refine lp_up (I := fun j (q : Int32 × Int32) => v0 ≤ j ∧ q.2 = nI j ∧ ∃ a, q.1 = nI a ∧ a + syl S i j (4 - j) = syl S i v0 (4 - v0)) (Q := fun r => r = nI (syl S i v0 (4 - v0))) 4 ?_ ?_ n v0 (0, nI v0) hv0 (by omega) ⟨by omega, rfl, 0, rfl, by omega⟩
    · rintro j ⟨x, y⟩ hj ⟨h1, h2, a, h3, h4⟩
      left
      dsimp only at h2 h3
      subst h2 h3
      obtain ⟨hp, hc⟩ := nI_in' (i := 4 * i + j) (N := 240) (by omega) (by omega)
      have hlt : 4 * i + j < 240 := by omega
      have q := (h.2.2.2.2.1.cn2 hj hi).2.2
      refine ⟨(nI (a + cn S j i), nI (j + 1)), by simp [b_X4_syllablesOf_5, nI_lt4 hj, ix4, grd, hp, hc, hlt, q, nI_add, nI_1], by omega, rfl, a + cn S j i, rfl, ?_⟩
      rw [show 4 - j = (4 - (j + 1)) + 1 by omega, syl] at h4
      omega
    · rintro ⟨x, y⟩ ⟨h1, h2, a, h3, h4⟩
      dsimp only at h2 h3
      subst h2 h3
      refine ⟨nI a, by simp [b_X4_syllablesOf_5, show (4 : Int32) ≤ nI 4 by decide], ?_⟩
      rw [← h4]
      simp [syl]
  obtain ⟨r, h1, h2⟩ := key
  unfold f_X4_syllablesOf
  rw [h1, h2]
theorem syl_le {N i : Nat} {S M : mem} (h : R N S M) (hi : i < 60) : ∀ (k v : Nat), v + k ≤ 4 → syl S i v k ≤ 2 * k
  | 0, v, _ => by simp [syl]
  | k + 1, v, hk => by
    have ih := syl_le h hi k (v + 1) (by omega)
    have := (h.c7 (v := v) (by omega) hi).2.1
    rw [syl]
    omega
/-- which notes may be a melisma's -/
def melP (S M : mem) (f j : Nat) : Prop := M 4 0 j = 0 ∧ M 6 0 j = -1000009 ∧ (f < j → ∀ v, v < 4 → cn S v j = 0)
theorem mayMelC {n N f z : Nat} {S M : mem} (hn : 100 ≤ n) (h : R N S M) (hfz : f + z ≤ N) : ∃ r, f_X3_mayBeMelisma n S (nI f) (nI z) = some r ∧ ((r = 1 ∧ ∀ j, f ≤ j → j < f + z → melP S M f j) ∨ (r = 0 ∧ ∃ j, f ≤ j ∧ j < f + z ∧ ¬ melP S M f j)) := by
  have hN := h.1.2.2
  unfold f_X3_mayBeMelisma
  refine lp_up (I := fun j (q : Int32) => f ≤ j ∧ q = nI j ∧ ∀ t, f ≤ t → t < j → melP S M f t) (Q := fun r => (r = 1 ∧ ∀ j, f ≤ j → j < f + z → melP S M f j) ∨ (r = 0 ∧ ∃ j, f ≤ j ∧ j < f + z ∧ ¬ melP S M f j)) (f + z) ?_ ?_ n f (nI f) (by omega) (by omega) ⟨by omega, rfl, fun t h1 h2 => by omega⟩
  · rintro j q hj ⟨h1, rfl, h3⟩
    have hle : ¬ nI (f + z) ≤ nI j := fun q => absurd ((nI_leI (by omega) (by omega)).mp q) (by omega)
    obtain ⟨hp, hc⟩ := nI_in' (i := j) (N := 60) (by omega) (by omega)
    have hlt : j < 60 := by omega
    have q2 := (h.2.1 j (by omega)).2.2.1
    have next : melP S M f j → (∃ q', b_X3_mayBeMelisma_2 n S (nI f) (nI z) (nI j) = some (.inl q') ∧ q' = nI (j + 1)) → (∃ q', b_X3_mayBeMelisma_2 n S (nI f) (nI z) (nI j) = some (.inl q') ∧ (f ≤ j + 1 ∧ q' = nI (j + 1) ∧ ∀ t, f ≤ t → t < j + 1 → melP S M f t)) := fun hm ⟨q', a1, a2⟩ => ⟨q', a1, by omega, a2, fun t t1 t2 => by
      by_cases e : t = j
      · subst e; exact hm
      · exact h3 t t1 (by omega)⟩
    by_cases hr : M 4 0 j = 0
    · rcases h.2.2.1 j (by omega) with ⟨m1, m2⟩ | ⟨f', z', f1, f2, f3, m1, m2, -⟩
      · by_cases hjf : j = f
        · subst hjf
          left
          exact next ⟨hr, m2, fun h => by omega⟩ ⟨_, by simp [b_X3_mayBeMelisma_2, nI_add, hle, grd, hp, hc, hlt, q2, hr, m1, nI_1], rfl⟩
        · have hgt : ¬ nI j ≤ nI f := fun q => absurd ((nI_leI (by omega) (by omega)).mp q) (by omega)
          obtain ⟨r, b1, b2⟩ := boxFromC (n := n) (v0 := 0) (by omega) h hlt (by omega)
          rw [nI_0] at b1
          rcases b2 with ⟨rfl, b2⟩ | ⟨rfl, v, -, b3, b4⟩
          · left
            exact next ⟨hr, m2, fun _ v hv => b2 v (by omega) hv⟩ ⟨_, by simp [b_X3_mayBeMelisma_2, nI_add, hle, grd, hp, hc, hlt, q2, hr, m1, hgt, cal, b1, nI_1], rfl⟩
          · right
            refine ⟨0, by simp [b_X3_mayBeMelisma_2, nI_add, hle, grd, hp, hc, hlt, q2, hr, m1, hgt, cal, b1], Or.inr ⟨rfl, j, h1, hj, fun hm => ?_⟩⟩
            have := hm.2.2 (by omega) v b3
            omega
      · right
        have n1 := nI_m1 (show f' < 2 ^ 31 by omega)
        refine ⟨0, by simp [b_X3_mayBeMelisma_2, nI_add, hle, grd, hp, hc, hlt, q2, hr, m1, n1], Or.inr ⟨rfl, j, h1, hj, fun hm => ?_⟩⟩
        exact nI_none (show f' < 2 ^ 31 by omega) (m2.symm.trans hm.2.1)
    · right
      exact ⟨0, by simp [b_X3_mayBeMelisma_2, nI_add, hle, grd, hp, hc, hlt, q2, hr], Or.inr ⟨rfl, j, h1, hj, fun hm => hr hm.1⟩⟩
  · rintro q ⟨h1, rfl, h3⟩
    have hle : nI (f + z) ≤ nI (f + z) := Int32.le_refl _
    exact ⟨1, by simp [b_X3_mayBeMelisma_2, nI_add, hle], Or.inl ⟨rfl, h3⟩⟩
