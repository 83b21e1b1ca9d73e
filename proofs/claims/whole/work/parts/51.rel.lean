/-! The relation of the class's memory S and the reference's M, in groups; N notes -/
def b01 (x : Int32) : Prop := x = 0 ∨ x = 1
def G1 (N : Nat) (S M : mem) : Prop := ∀ i, i < N → S 1 i 0 = M 2 0 i ∧ S 1 i 1 = M 3 0 i ∧ S 1 i 2 = M 4 0 i ∧ S 1 i 3 = M 5 0 i ∧ bd (M 2 0 i) 10 200 ∧ bd (M 3 0 i) 1 64 ∧ b01 (M 4 0 i) ∧ bd (M 5 0 i) 0 200
/-- melismas -/
def G2 (N : Nat) (S M : mem) : Prop := ∀ i, i < N → (S 1 i 4 = -1 ∧ M 6 0 i = -1000009) ∨ ∃ f z, f ≤ i ∧ i < f + z ∧ f + z ≤ N ∧ S 1 i 4 = nI f ∧ M 6 0 i = nI f ∧ S 1 i 5 = nI (f + z - 1) ∧ M 7 0 f = nI z ∧ S 1 f 4 = nI f
/-- refrains -/
def G3 (N : Nat) (S M : mem) : Prop := ∀ i, i < N → (S 1 i 6 = -1 ∧ M 8 0 i = -1000009) ∨ ∃ f, f ≤ i ∧ S 1 i 6 = nI f ∧ M 8 0 i = nI f
/-- syllables: how many are under a note in a verse -/
def cn (S : mem) (v i : Nat) : Nat := Int32.toNatClampNeg (S 7 v i)
def G4 (N : Nat) (S M : mem) : Prop := (∀ v i, v < 4 → i < N → S 7 v i = M 11 0 (4 * i + v) ∧ bd (S 7 v i) 0 2 ∧ ∀ k, k < cn S v i → S 8 v (2 * i + k) = M 12 0 (8 * i + 2 * v + k) ∧ S 9 v (2 * i + k) = M 13 0 (8 * i + 2 * v + k) ∧ S 10 v (2 * i + k) = M 14 0 (8 * i + 2 * v + k) ∧ bd (S 8 v (2 * i + k)) 1 200 ∧ bd (S 9 v (2 * i + k)) 0 200 ∧ b01 (S 10 v (2 * i + k))) ∧ ∀ v i, v < 4 → N ≤ i → i < 60 → S 7 v i = 0
def sumc (S : mem) (v : Nat) : Nat → Nat
  | 0 => 0
  | n + 1 => sumc S v n + cn S v n
def G4s (N : Nat) (S : mem) : Prop := ∀ v, v < 4 → S 2 v 5 = nI (sumc S v N)
/-- verses -/
def G5 (S M : mem) : Prop := ∀ v, v < 4 → S 2 v 6 = M 15 0 v ∧ bd (S 2 v 6) 0 2 ∧ S 2 v 7 = M 16 0 v ∧ b01 (S 2 v 7)
/-- counters, the limit -/
def G6 (S M : mem) : Prop := S 3 0 5 = M 0 0 9 ∧ S 3 0 6 = M 0 0 10 ∧ bd (S 3 0 6) 0 3 ∧ S 3 0 7 = M 0 0 17 ∧ bd (S 3 0 7) 100 30000
/-- what the second rule of placing makes of the note before -/
def al (M : mem) (i : Nat) : Int32 := if i = 0 then 0 else M 19 0 (i - 1) + M 2 0 (i - 1) + 10 * M 3 0 (i - 1)
def PL (N : Nat) (S M : mem) : Prop := ∀ i, i < N → S 1 i 7 = M 19 0 i ∧ bd (M 19 0 i) 0 (2000 * (i + 1)) ∧ al M i ≤ M 19 0 i ∧ S 1 i 8 = M 19 0 i - al M i ∧ ∀ v, v < 4 → 0 < cn S v i → S 11 v i = M 20 0 (4 * i + v)
def G7 (N : Nat) (S M : mem) : Prop := (S 3 0 8 = 0 ∧ M 0 0 18 = 0) ∨ (S 3 0 8 = 1 ∧ M 0 0 18 = 1 ∧ PL N S M)
/-- patterns -/
def G8 (S M : mem) : Prop := ∃ P, P ≤ 30 ∧ S 0 0 3 = nI P ∧ M 0 0 22 = nI P ∧ ∀ p, p < P → ∃ ln sg w, 1 ≤ ln ∧ ln ≤ 6 ∧ sg < 2 ^ 30 ∧ w < 10 ^ (ln + 1) ∧ S 13 0 p = nI ln ∧ M 23 0 p = nI ln ∧ S 12 0 p = nI sg ∧ S 14 0 p = nI w ∧ (∀ j, j < ln → M 24 0 (6 * p + j) = nI (sg / 32 ^ j % 32)) ∧ ∀ j, j ≤ ln → M 25 0 (7 * p + j) = nI (w / 10 ^ j % 10)
/-- the word, its sides -/
def G9 (S M : mem) : Prop := (∃ T, T ≤ 24 ∧ S 0 0 5 = nI T ∧ M 0 0 26 = nI T ∧ ∀ j, j < T → S 15 0 (j + 1) = M 27 0 j ∧ bd (M 27 0 j) 1 26) ∧ S 0 0 7 = M 0 0 28 ∧ bd (S 0 0 7) 1 24 ∧ S 0 0 8 = M 0 0 29 ∧ bd (S 0 0 8) 1 24
/-- the latest cuts -/
def G10 (S M : mem) : Prop := ∃ c, c ≤ 24 ∧ S 0 0 10 = nI c ∧ (M 0 0 30 = nI c ∨ (c = 0 ∧ M 0 0 30 = -1)) ∧ ∀ j, j < c → S 17 0 j = M 31 0 j
def R (N : Nat) (S M : mem) : Prop := G0 N S M ∧ G1 N S M ∧ G2 N S M ∧ G3 N S M ∧ G4 N S M ∧ G4s N S ∧ G5 S M ∧ G6 S M ∧ G7 N S M ∧ G8 S M ∧ G9 S M ∧ G10 S M
/-- class and reference answer the same, and are related again -/
def op2 (a b : Option (Int32 × mem)) : Prop := ∃ r S' M' N', a = some (r, S') ∧ b = some (r, M') ∧ R N' S' M'
section Cg
variable {N : Nat} {S M S' M' : mem}
theorem G0.cg (h : G0 N S M) (h1 : S' 3 0 4 = S 3 0 4) (h2 : M' 0 0 1 = M 0 0 1) : G0 N S' M' := ⟨h1.trans h.1, h2.trans h.2.1, h.2.2⟩
theorem G1.cg (h : G1 N S M) (s0 : ∀ i, S' 1 i 0 = S 1 i 0) (s1 : ∀ i, S' 1 i 1 = S 1 i 1) (s2 : ∀ i, S' 1 i 2 = S 1 i 2) (s3 : ∀ i, S' 1 i 3 = S 1 i 3) (m0 : ∀ i, M' 2 0 i = M 2 0 i) (m1 : ∀ i, M' 3 0 i = M 3 0 i) (m2 : ∀ i, M' 4 0 i = M 4 0 i) (m3 : ∀ i, M' 5 0 i = M 5 0 i) : G1 N S' M' := by
  intro i hi
  rw [s0, s1, s2, s3, m0, m1, m2, m3]
  exact h i hi
theorem G2.cg (h : G2 N S M) (s0 : ∀ i, S' 1 i 4 = S 1 i 4) (s1 : ∀ i, S' 1 i 5 = S 1 i 5) (m0 : ∀ i, M' 6 0 i = M 6 0 i) (m1 : ∀ i, M' 7 0 i = M 7 0 i) : G2 N S' M' := by
  intro i hi
  simp only [s0, s1, m0, m1]
  exact h i hi
theorem G3.cg (h : G3 N S M) (s0 : ∀ i, S' 1 i 6 = S 1 i 6) (m0 : ∀ i, M' 8 0 i = M 8 0 i) : G3 N S' M' := by
  intro i hi
  simp only [s0, m0]
  exact h i hi
theorem cn_cg (s0 : ∀ v i, S' 7 v i = S 7 v i) (v i : Nat) : cn S' v i = cn S v i := by unfold cn; rw [s0]
theorem G4.cg (h : G4 N S M) (s0 : ∀ v i, S' 7 v i = S 7 v i) (s1 : ∀ v i, S' 8 v i = S 8 v i) (s2 : ∀ v i, S' 9 v i = S 9 v i) (s3 : ∀ v i, S' 10 v i = S 10 v i) (m0 : ∀ i, M' 11 0 i = M 11 0 i) (m1 : ∀ i, M' 12 0 i = M 12 0 i) (m2 : ∀ i, M' 13 0 i = M 13 0 i) (m3 : ∀ i, M' 14 0 i = M 14 0 i) : G4 N S' M' := by
  unfold G4
  simp only [s0, s1, s2, s3, m0, m1, m2, m3, cn_cg s0]
  exact h
theorem sumc_cg (s0 : ∀ v i, S' 7 v i = S 7 v i) (v : Nat) : ∀ n, sumc S' v n = sumc S v n
  | 0 => rfl
  | n + 1 => by rw [sumc, sumc, sumc_cg s0 v n, cn_cg s0]
theorem G4s.cg (h : G4s N S) (s0 : ∀ v i, S' 7 v i = S 7 v i) (s1 : ∀ v, S' 2 v 5 = S 2 v 5) : G4s N S' := by
  intro v hv
  rw [s1, sumc_cg s0]
  exact h v hv
theorem G5.cg (h : G5 S M) (s0 : ∀ v, S' 2 v 6 = S 2 v 6) (s1 : ∀ v, S' 2 v 7 = S 2 v 7) (m0 : ∀ i, M' 15 0 i = M 15 0 i) (m1 : ∀ i, M' 16 0 i = M 16 0 i) : G5 S' M' := by
  intro v hv
  rw [s0, s1, m0, m1]
  exact h v hv
theorem G6.cg (h : G6 S M) (s0 : S' 3 0 5 = S 3 0 5) (s1 : S' 3 0 6 = S 3 0 6) (s2 : S' 3 0 7 = S 3 0 7) (m0 : M' 0 0 9 = M 0 0 9) (m1 : M' 0 0 10 = M 0 0 10) (m2 : M' 0 0 17 = M 0 0 17) : G6 S' M' := by
  unfold G6
  rw [s0, s1, s2, m0, m1, m2]
  exact h
theorem G7.no (s0 : S' 3 0 8 = 0) (m0 : M' 0 0 18 = 0) : G7 N S' M' := Or.inl ⟨s0, m0⟩
theorem al_cg (m0 : ∀ i, M' 2 0 i = M 2 0 i) (m1 : ∀ i, M' 3 0 i = M 3 0 i) (m2 : ∀ i, M' 19 0 i = M 19 0 i) (i : Nat) : al M' i = al M i := by unfold al; rw [m0, m1, m2]
theorem G7.cg (h : G7 N S M) (s0 : S' 3 0 8 = S 3 0 8) (s1 : ∀ i, S' 1 i 7 = S 1 i 7) (s2 : ∀ i, S' 1 i 8 = S 1 i 8) (s3 : ∀ v i, S' 11 v i = S 11 v i) (s4 : ∀ v i, S' 7 v i = S 7 v i) (m0 : M' 0 0 18 = M 0 0 18) (m1 : ∀ i, M' 2 0 i = M 2 0 i) (m2 : ∀ i, M' 3 0 i = M 3 0 i) (m3 : ∀ i, M' 19 0 i = M 19 0 i) (m4 : ∀ i, M' 20 0 i = M 20 0 i) : G7 N S' M' := by
  unfold G7 PL
  simp only [s0, s1, s2, s3, m0, m3, m4, cn_cg s4, al_cg m1 m2 m3]
  exact h
theorem G8.cg (h : G8 S M) (s0 : S' 0 0 3 = S 0 0 3) (s1 : ∀ i, S' 12 0 i = S 12 0 i) (s2 : ∀ i, S' 13 0 i = S 13 0 i) (s3 : ∀ i, S' 14 0 i = S 14 0 i) (m0 : M' 0 0 22 = M 0 0 22) (m1 : ∀ i, M' 23 0 i = M 23 0 i) (m2 : ∀ i, M' 24 0 i = M 24 0 i) (m3 : ∀ i, M' 25 0 i = M 25 0 i) : G8 S' M' := by
  unfold G8
  simp only [s0, s1, s2, s3, m0, m1, m2, m3]
  exact h
theorem G9.cg (h : G9 S M) (s0 : S' 0 0 5 = S 0 0 5) (s1 : S' 0 0 7 = S 0 0 7) (s2 : S' 0 0 8 = S 0 0 8) (s3 : ∀ i, S' 15 0 i = S 15 0 i) (m0 : M' 0 0 26 = M 0 0 26) (m1 : M' 0 0 28 = M 0 0 28) (m2 : M' 0 0 29 = M 0 0 29) (m3 : ∀ i, M' 27 0 i = M 27 0 i) : G9 S' M' := by
  unfold G9
  simp only [s0, s1, s2, s3, m0, m1, m2, m3]
  exact h
theorem G10.cg (h : G10 S M) (s0 : S' 0 0 10 = S 0 0 10) (s1 : ∀ i, S' 17 0 i = S 17 0 i) (m0 : M' 0 0 30 = M 0 0 30) (m1 : ∀ i, M' 31 0 i = M 31 0 i) : G10 S' M' := by
  unfold G10
  simp only [s0, s1, m0, m1]
  exact h
end Cg
theorem R.thr {N : Nat} {S M : mem} (h : R N S M) (v : Int32) : R N S (mup M 0 0 0 v) := by
  obtain ⟨h0, h1, h2, h3, h4, h4s, h5, h6, h7, h8, h9, h10⟩ := h
  refine ⟨h0.cg ?_ ?_, h1.cg ?_ ?_ ?_ ?_ ?_ ?_ ?_ ?_, h2.cg ?_ ?_ ?_ ?_, h3.cg ?_ ?_, h4.cg ?_ ?_ ?_ ?_ ?_ ?_ ?_ ?_, h4s, h5.cg ?_ ?_ ?_ ?_, h6.cg ?_ ?_ ?_ ?_ ?_ ?_, h7.cg ?_ ?_ ?_ ?_ ?_ ?_ ?_ ?_ ?_ ?_, h8.cg ?_ ?_ ?_ ?_ ?_ ?_ ?_ ?_, h9.cg ?_ ?_ ?_ ?_ ?_ ?_ ?_ ?_, h10.cg ?_ ?_ ?_ ?_⟩ <;> (intros; simp [mup_at])
