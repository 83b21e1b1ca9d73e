/-! placing: the numbers -/
def cW (S : mem) (i : Nat) : Nat := (S 1 i 0).toNatClampNeg
def cL (S : mem) (i : Nat) : Nat := (S 1 i 1).toNatClampNeg
def cC (S : mem) (i : Nat) : Nat := (S 1 i 3).toNatClampNeg
def gap (S : mem) (v i : Nat) : Nat := if bgo S v i = 0 then 12 else 4
def lbs (S : mem) (F : Nat → Nat) (i : Nat) : Nat → Nat
  | 0 => 0
  | v + 1 => if cn S v i = 0 then lbs S F i v else if S 2 v 7 = 0 then max (lbs S F i v) (F v + bo S v i) else lbs S F i v
def pxf (S : mem) (a c : Nat) (F : Nat → Nat) (i : Nat) : Nat := if cC S i = 0 then max a (lbs S F i 4) else max (max a (lbs S F i 4)) c
def pbf (S : mem) (F : Nat → Nat) (x v i : Nat) : Nat := max (F v) (x - bo S v i)
def pef (S : mem) (F : Nat → Nat) (x i : Nat) : Nat → Nat
  | 0 => 0
  | v + 1 => if cn S v i = 0 then pef S F x i v else max (pef S F x i v) (pbf S F x v i + bw S v i)
def Fn (S : mem) (F : Nat → Nat) (x i v : Nat) : Nat := if cn S v i = 0 then F v else pbf S F x v i + bw S v i + gap S v i
def stn (S : mem) (i : Nat) (s : Nat × Nat × Nat × (Nat → Nat)) (x : Nat) : Nat × Nat × Nat × (Nat → Nat) := (x + cW S i + 10 * cL S i, if cC S i = 0 then s.2.1 else x + cC S i + 10, max (if cC S i = 0 then s.2.2.1 else max s.2.2.1 (x + cC S i)) (pef S s.2.2.2 x i 4), Fn S s.2.2.2 x i)
def st (S : mem) : Nat → Nat × Nat × Nat × (Nat → Nat)
  | 0 => (0, 0, 0, fun _ => 0)
  | i + 1 => stn S i (st S i) (pxf S (st S i).1 (st S i).2.1 (st S i).2.2.2 i)
def sa (S : mem) (i : Nat) : Nat := (st S i).1
def sc (S : mem) (i : Nat) : Nat := (st S i).2.1
def se (S : mem) (i : Nat) : Nat := (st S i).2.2.1
def sF (S : mem) (i : Nat) : Nat → Nat := (st S i).2.2.2
def sx (S : mem) (i : Nat) : Nat := pxf S (sa S i) (sc S i) (sF S i) i
def sb (S : mem) (v i : Nat) : Nat := pbf S (sF S i) (sx S i) v i
section Num
variable {S : mem} {i v : Nat}
theorem sa_0 : sa S 0 = 0 := rfl
theorem sc_0 : sc S 0 = 0 := rfl
theorem se_0 : se S 0 = 0 := rfl
theorem sF_0 : sF S 0 v = 0 := rfl
theorem sa_s : sa S (i + 1) = sx S i + cW S i + 10 * cL S i := rfl
theorem sc_s : sc S (i + 1) = if cC S i = 0 then sc S i else sx S i + cC S i + 10 := rfl
theorem se_s : se S (i + 1) = max (if cC S i = 0 then se S i else max (se S i) (sx S i + cC S i)) (pef S (sF S i) (sx S i) i 4) := rfl
theorem sF_s : sF S (i + 1) v = Fn S (sF S i) (sx S i) i v := rfl
theorem sa_le : sa S i ≤ sx S i := by
  unfold sx pxf
  split <;> omega
theorem lbs_ge {F : Nat → Nat} : ∀ k, v < k → cn S v i ≠ 0 → S 2 v 7 = 0 → F v + bo S v i ≤ lbs S F i k
  | 0, h, _, _ => by omega
  | k + 1, h, h1, h2 => by
    rw [lbs]
    by_cases e : v = k
    · subst e
      rw [if_neg h1, if_pos h2]
      omega
    · have := lbs_ge (F := F) k (by omega) h1 h2
      split
      · exact this
      · split <;> omega
theorem sF_off (hv : v < 4) (h1 : cn S v i ≠ 0) (h2 : S 2 v 7 = 0) : sF S i v + bo S v i ≤ sx S i := by
  have := lbs_ge (F := sF S i) 4 hv h1 h2
  unfold sx pxf
  split <;> omega
end Num
theorem nI_max {a b : Nat} (ha : a < 2 ^ 31) (hb : b < 2 ^ 31) : (if nI a < nI b then nI b else nI a) = nI (max a b) := by
  by_cases h : a < b
  · rw [if_pos (nI_lt h hb), Nat.max_eq_right (by omega)]
  · rw [if_neg (nI_nlt (by omega) ha), Nat.max_eq_left (by omega)]
theorem greaterM {n : Nat} {M : mem} {a b : Nat} (ha : a < 2 ^ 31) (hb : b < 2 ^ 31) : f_X4_greater n M (nI a) (nI b) = some (nI (max a b)) := by
  unfold f_X4_greater
  by_cases h : a ≤ b
  · rw [if_pos (nI_le h hb), Nat.max_eq_right h]
  · rw [if_neg (nI_ge (by omega) ha), Nat.max_eq_left (by omega)]
section Bnd
variable {N : Nat} {S M : mem}
theorem RB.g1 (h : RB N S M) {i : Nat} (hi : i < N) : S 1 i 0 = nI (cW S i) ∧ 10 ≤ cW S i ∧ cW S i ≤ 200 ∧ S 1 i 1 = nI (cL S i) ∧ cL S i ≤ 64 ∧ S 1 i 3 = nI (cC S i) ∧ cC S i ≤ 200 ∧ M 2 0 i = nI (cW S i) ∧ M 3 0 i = nI (cL S i) ∧ M 5 0 i = nI (cC S i) := by
  obtain ⟨a0, a1, a2, a3, b0, b1, b2, b3⟩ := h.2.1 i hi
  rw [← a0] at b0
  rw [← a1] at b1
  rw [← a3] at b3
  have c0 := b0.nI (by omega)
  have c1 := b1.nI (by omega)
  have c3 := b3.nI (by omega)
  exact ⟨c0.1, c0.2.1, c0.2.2, c1.1, c1.2.2, c3.1, c3.2.2, a0.symm.trans c0.1, a1.symm.trans c1.1, a3.symm.trans c3.1⟩
theorem lbs_le (h : RB N S M) {i : Nat} (hi : i < N) {F : Nat → Nat} {B : Nat} (hF : ∀ v, v < 4 → S 2 v 7 = 0 → F v ≤ B) : ∀ k, k ≤ 4 → lbs S F i k ≤ B + 202
  | 0, _ => by simp [lbs]
  | k + 1, hk => by
    have ih := lbs_le h hi hF k (by omega)
    rw [lbs]
    split
    · exact ih
    · split
      · have := hF k (by omega) (by assumption)
        have := h.bo_le (v := k) (by omega) hi (by omega)
        omega
      · exact ih
theorem pef_le (h : RB N S M) {i x : Nat} (hi : i < N) {F : Nat → Nat} {B : Nat} (hF : ∀ v, v < 4 → F v ≤ B) (hx : x ≤ B) : ∀ k, k ≤ 4 → pef S F x i k ≤ B + 405
  | 0, _ => by simp [pef]
  | k + 1, hk => by
    have ih := pef_le h hi hF hx k (by omega)
    rw [pef]
    split
    · exact ih
    · have := hF k (by omega)
      have := h.bw_le (v := k) (by omega) hi (by omega)
      unfold pbf
      omega
theorem gap_le (v i : Nat) : gap S v i ≤ 12 := by unfold gap; split <;> omega
/-- how large they grow -/
theorem RB.st_le (h : RB N S M) : ∀ i, i ≤ N → sa S i ≤ 1042 * i ∧ sc S i ≤ 1042 * i ∧ se S i ≤ 2000 * i ∧ (∀ v, v < 4 → sF S i v ≤ 2000 * i) ∧ ∀ v, v < 4 → S 2 v 7 = 0 → sF S i v ≤ 1042 * i
  | 0, _ => ⟨by simp [sa_0], by simp [sc_0], by simp [se_0], fun v _ => by simp [sF_0], fun v _ _ => by simp [sF_0]⟩
  | i + 1, hi => by
    obtain ⟨h1, h2, h3, h4, h5⟩ := h.st_le i (by omega)
    obtain ⟨-, -, w1, -, w2, -, w3, -⟩ := h.g1 (i := i) (by omega)
    have l := lbs_le h (i := i) (by omega) h5 4 (by omega)
    have hx : sx S i ≤ 1042 * i + 202 := by
      unfold sx pxf
      split <;> omega
    have p := pef_le h (i := i) (x := sx S i) (F := sF S i) (B := 2000 * i + 202) (by omega) (fun v hv => by have := h4 v hv; omega) (by omega) 4 (by omega)
    refine ⟨by rw [sa_s]; omega, ?_, ?_, fun v hv => ?_, fun v hv ht => ?_⟩
    · rw [sc_s]; split <;> omega
    · rw [se_s]; split <;> omega
    · rw [sF_s]
      unfold Fn
      have := h4 v hv
      split
      · omega
      · have := h.bw_le (v := v) hv (i := i) (by omega) (by omega)
        have := gap_le (S := S) v i
        unfold pbf
        omega
    · rw [sF_s]
      unfold Fn
      have := h5 v hv ht
      split
      · omega
      · have := h.bw_le (v := v) hv (i := i) (by omega) (by omega)
        have := gap_le (S := S) v i
        unfold pbf
        omega
theorem RB.sx_le (h : RB N S M) {i : Nat} (hi : i < N) : sx S i ≤ 1042 * i + 202 := by
  obtain ⟨h1, h2, h3, h4, h5⟩ := h.st_le i (by omega)
  have l := lbs_le h (i := i) (by omega) h5 4 (by omega)
  unfold sx pxf
  split <;> omega
theorem RB.sb_le (h : RB N S M) {v i : Nat} (hv : v < 4) (hi : i < N) : sb S v i ≤ 2000 * i + 202 := by
  obtain ⟨h1, h2, h3, h4, h5⟩ := h.st_le i (by omega)
  have := h.sx_le hi
  have := h4 v hv
  unfold sb pbf
  omega
end Bnd
