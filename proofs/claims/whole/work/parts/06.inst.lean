/-! The two worlds: the class (C), the reference (M) -/
def cntC : Nat → Nat := fun k => match k with
  | 0 => 1
  | 1 => 60
  | 2 => 4
  | 3 => 1
  | 4 => 1
  | 5 => 1
  | 6 => 1
  | 7 => 4
  | 8 => 4
  | 9 => 4
  | 10 => 4
  | 11 => 4
  | 12 => 1
  | 13 => 1
  | 14 => 1
  | 15 => 1
  | 16 => 1
  | 17 => 1
  | _ => 0
def ixC : List (Nat × Nat) := [0, 1, 2, 3, 4, 5, 6, 7, 8, 9, 10, 11, 12, 13, 14, 15, 16, 17].flatMap (fun k => (List.range (cntC k)).map (fun i => (k, i)))
def enC : enT := fun g k i r => match k with
  | 0 => .inr (2, [.ref (g.2.2 12 0), .ref (g.2.2 13 0), .ref (g.2.2 14 0), .int (r 3), .ref (g.2.2 15 0), .int (r 5), .ref (g.2.2 16 0), .int (r 7), .int (r 8), .ref (g.2.2 17 0), .int (r 10)])
  | 1 => .inr (3, [.int (r 0), .int (r 1), .int (r 2), .int (r 3), .int (r 4), .int (r 5), .int (r 6), .int (r 7), .int (r 8)])
  | 2 => .inr (4, [.ref (g.2.2 7 i), .ref (g.2.2 8 i), .ref (g.2.2 9 i), .ref (g.2.2 10 i), .ref (g.2.2 11 i), .int (r 5), .int (r 6), .int (r 7), .int (r 8)])
  | 3 => .inr (5, [.ref (g.2.2 4 0), .ref (g.2.2 5 0), .ref (g.2.2 0 0), .ref (g.2.2 6 0), .int (r 4), .int (r 5), .int (r 6), .int (r 7), .int (r 8)])
  | 4 => .inl (g.2.1 2, 60, .inr (.inr (.inr (.inr (fun j => some (g.2.2 1 j))))))
  | 5 => .inl (g.2.1 3, 4, .inr (.inr (.inr (.inr (fun j => some (g.2.2 2 j))))))
  | 6 => .inl (g.2.1 0, 240, .inl r)
  | 7 => .inl (g.2.1 0, 60, .inl r)
  | 8 => .inl (g.2.1 0, 120, .inl r)
  | 9 => .inl (g.2.1 0, 120, .inl r)
  | 10 => .inl (g.2.1 1, 120, .inl r)
  | 11 => .inl (g.2.1 0, 60, .inl r)
  | 12 => .inl (g.2.1 0, 30, .inl r)
  | 13 => .inl (g.2.1 0, 30, .inl r)
  | 14 => .inl (g.2.1 0, 30, .inl r)
  | 15 => .inl (g.2.1 0, 26, .inl r)
  | 16 => .inl (g.2.1 0, 27, .inl r)
  | 17 => .inl (g.2.1 0, 24, .inl r)
  | _ => .inl (g.2.1 0, 0, .inl r)
theorem ndC : ixC.Nodup := by decide +kernel
theorem ixC_0 : (0, 0) ∈ ixC := by decide +kernel
theorem ixC_1 {i : Nat} (h : i < 60) : (1, i) ∈ ixC := (by decide +kernel : ∀ i, i < 60 → (1, i) ∈ ixC) i h
theorem ixC_2 {i : Nat} (h : i < 4) : (2, i) ∈ ixC := (by decide +kernel : ∀ i, i < 4 → (2, i) ∈ ixC) i h
theorem ixC_3 : (3, 0) ∈ ixC := by decide +kernel
theorem ixC_4 : (4, 0) ∈ ixC := by decide +kernel
theorem ixC_5 : (5, 0) ∈ ixC := by decide +kernel
theorem ixC_6 : (6, 0) ∈ ixC := by decide +kernel
theorem ixC_7 {i : Nat} (h : i < 4) : (7, i) ∈ ixC := (by decide +kernel : ∀ i, i < 4 → (7, i) ∈ ixC) i h
theorem ixC_8 {i : Nat} (h : i < 4) : (8, i) ∈ ixC := (by decide +kernel : ∀ i, i < 4 → (8, i) ∈ ixC) i h
theorem ixC_9 {i : Nat} (h : i < 4) : (9, i) ∈ ixC := (by decide +kernel : ∀ i, i < 4 → (9, i) ∈ ixC) i h
theorem ixC_10 {i : Nat} (h : i < 4) : (10, i) ∈ ixC := (by decide +kernel : ∀ i, i < 4 → (10, i) ∈ ixC) i h
theorem ixC_11 {i : Nat} (h : i < 4) : (11, i) ∈ ixC := (by decide +kernel : ∀ i, i < 4 → (11, i) ∈ ixC) i h
theorem ixC_12 : (12, 0) ∈ ixC := by decide +kernel
theorem ixC_13 : (13, 0) ∈ ixC := by decide +kernel
theorem ixC_14 : (14, 0) ∈ ixC := by decide +kernel
theorem ixC_15 : (15, 0) ∈ ixC := by decide +kernel
theorem ixC_16 : (16, 0) ∈ ixC := by decide +kernel
theorem ixC_17 : (17, 0) ∈ ixC := by decide +kernel
def cntM : Nat → Nat := fun k => match k with
  | 0 => 1
  | 2 => 1
  | 3 => 1
  | 4 => 1
  | 5 => 1
  | 6 => 1
  | 7 => 1
  | 8 => 1
  | 11 => 1
  | 12 => 1
  | 13 => 1
  | 14 => 1
  | 15 => 1
  | 16 => 1
  | 19 => 1
  | 20 => 1
  | 23 => 1
  | 24 => 1
  | 25 => 1
  | 27 => 1
  | 31 => 1
  | _ => 0
def ixM : List (Nat × Nat) := [0, 2, 3, 4, 5, 6, 7, 8, 11, 12, 13, 14, 15, 16, 19, 20, 23, 24, 25, 27, 31].flatMap (fun k => (List.range (cntM k)).map (fun i => (k, i)))
def enM : enT := fun g k i r => match k with
  | 0 => .inr (6, [.int (r 0), .int (r 1), .ref (g.2.2 2 0), .ref (g.2.2 3 0), .ref (g.2.2 4 0), .ref (g.2.2 5 0), .ref (g.2.2 6 0), .ref (g.2.2 7 0), .ref (g.2.2 8 0), .int (r 9), .int (r 10), .ref (g.2.2 11 0), .ref (g.2.2 12 0), .ref (g.2.2 13 0), .ref (g.2.2 14 0), .ref (g.2.2 15 0), .ref (g.2.2 16 0), .int (r 17), .int (r 18), .ref (g.2.2 19 0), .ref (g.2.2 20 0), .int (r 21), .int (r 22), .ref (g.2.2 23 0), .ref (g.2.2 24 0), .ref (g.2.2 25 0), .int (r 26), .ref (g.2.2 27 0), .int (r 28), .int (r 29), .int (r 30), .ref (g.2.2 31 0)])
  | 2 => .inl (g.2.1 0, 60, .inl r)
  | 3 => .inl (g.2.1 0, 60, .inl r)
  | 4 => .inl (g.2.1 1, 60, .inl r)
  | 5 => .inl (g.2.1 0, 60, .inl r)
  | 6 => .inl (g.2.1 0, 60, .inl r)
  | 7 => .inl (g.2.1 0, 60, .inl r)
  | 8 => .inl (g.2.1 0, 60, .inl r)
  | 11 => .inl (g.2.1 0, 240, .inl r)
  | 12 => .inl (g.2.1 0, 480, .inl r)
  | 13 => .inl (g.2.1 0, 480, .inl r)
  | 14 => .inl (g.2.1 1, 480, .inl r)
  | 15 => .inl (g.2.1 0, 4, .inl r)
  | 16 => .inl (g.2.1 1, 4, .inl r)
  | 19 => .inl (g.2.1 0, 60, .inl r)
  | 20 => .inl (g.2.1 0, 240, .inl r)
  | 23 => .inl (g.2.1 0, 30, .inl r)
  | 24 => .inl (g.2.1 0, 180, .inl r)
  | 25 => .inl (g.2.1 0, 210, .inl r)
  | 27 => .inl (g.2.1 0, 24, .inl r)
  | 31 => .inl (g.2.1 0, 24, .inl r)
  | _ => .inl (g.2.1 0, 0, .inl r)
theorem ndM : ixM.Nodup := by decide +kernel
theorem ixM_0 : (0, 0) ∈ ixM := by decide +kernel
theorem ixM_2 : (2, 0) ∈ ixM := by decide +kernel
theorem ixM_3 : (3, 0) ∈ ixM := by decide +kernel
theorem ixM_4 : (4, 0) ∈ ixM := by decide +kernel
theorem ixM_5 : (5, 0) ∈ ixM := by decide +kernel
theorem ixM_6 : (6, 0) ∈ ixM := by decide +kernel
theorem ixM_7 : (7, 0) ∈ ixM := by decide +kernel
theorem ixM_8 : (8, 0) ∈ ixM := by decide +kernel
theorem ixM_11 : (11, 0) ∈ ixM := by decide +kernel
theorem ixM_12 : (12, 0) ∈ ixM := by decide +kernel
theorem ixM_13 : (13, 0) ∈ ixM := by decide +kernel
theorem ixM_14 : (14, 0) ∈ ixM := by decide +kernel
theorem ixM_15 : (15, 0) ∈ ixM := by decide +kernel
theorem ixM_16 : (16, 0) ∈ ixM := by decide +kernel
theorem ixM_19 : (19, 0) ∈ ixM := by decide +kernel
theorem ixM_20 : (20, 0) ∈ ixM := by decide +kernel
theorem ixM_23 : (23, 0) ∈ ixM := by decide +kernel
theorem ixM_24 : (24, 0) ∈ ixM := by decide +kernel
theorem ixM_25 : (25, 0) ∈ ixM := by decide +kernel
theorem ixM_27 : (27, 0) ∈ ixM := by decide +kernel
theorem ixM_31 : (31, 0) ∈ ixM := by decide +kernel
theorem mup_k {S : mem} {k i j : Nat} {v : Int32} {a b c : Nat} (h : a ≠ k) : mup S k i j v a b c = S a b c := by simp [mup, h]
theorem mup_j {S : mem} {k i j : Nat} {v : Int32} {a b c : Nat} (h : c ≠ j) : mup S k i j v a b c = S a b c := by
  unfold mup
  split
  · rename_i q; rw [q.1, q.2]; simp [upd, h]
  · rfl
theorem mup_s {S : mem} {k i j : Nat} {v : Int32} : mup S k i j v k i j = v := by simp [mup, upd]
theorem ltI {x : Int32} {n : Nat} (h : ¬ (x < 0 ∨ n ≤ x.toNatClampNeg)) : x.toNatClampNeg < n := Nat.not_le.mp fun q => h (Or.inr q)
theorem sw_out {x : Int32} {lo hi : Int} (h : ∀ z : Int, lo ≤ z → z ≤ hi → ¬ x = Int32.ofInt z) : x.toInt < lo ∨ hi < x.toInt := by
  by_cases h1 : x.toInt < lo
  · exact Or.inl h1
  · refine Or.inr (Int.not_le.mp fun h2 => h x.toInt (Int.not_lt.mp h1) h2 ?_)
    simp
theorem mem_TBg {w : Cond} (i : Nat) (h : lw_tbl[i]? = some w) (hg : goodWord w = true) : w ∈ TBg := List.mem_filter.mpr ⟨List.mem_of_getElem? h, hg⟩
theorem mem_nest {w : Cond} (i : Nat) (h : tables_1[i]? = some w) (hg : isNest w = true) : w ∈ nestW := List.mem_filter.mpr ⟨List.mem_of_getElem? h, hg⟩
theorem inGX0 : ∀ w ∈ wsX00, w ∈ TBg := by decide +kernel
theorem inGX1 : ∀ w ∈ wsX10, w ∈ TBg := by decide +kernel
theorem inGX2 : ∀ w ∈ wsX20, w ∈ TBg := by decide +kernel
theorem inGX3 : ∀ w ∈ wsX30, w ∈ TBg := by decide +kernel
theorem inGX4 : ∀ w ∈ wsX40, w ∈ TBg := by decide +kernel
