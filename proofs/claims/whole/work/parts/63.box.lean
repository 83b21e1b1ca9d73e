/-! what a box is: its width, its offset, whether it goes on -/
def RB (N : Nat) (S M : mem) : Prop := G0 N S M ∧ G1 N S M ∧ G4 N S M ∧ G5 S M
theorem R.rb {N : Nat} {S M : mem} (h : R N S M) : RB N S M := ⟨h.1, h.2.1, h.2.2.2.2.1, h.2.2.2.2.2.2.1⟩
def bw (S : mem) (v i : Nat) : Nat := if cn S v i = 2 then (S 8 v (2 * i)).toNatClampNeg + 5 + (S 8 v (2 * i + 1)).toNatClampNeg else (S 8 v (2 * i)).toNatClampNeg
def bo (S : mem) (v i : Nat) : Nat := if S 2 v 6 = 0 then bw S v i / 2 else if S 2 v 6 = 1 then 0 else (S 9 v (2 * i)).toNatClampNeg
def bgo (S : mem) (v i : Nat) : Int32 := if cn S v i = 2 then S 10 v (2 * i + 1) else S 10 v (2 * i)
theorem bd.nI {x : Int32} {a b : Nat} (h : bd x a b) (hb : b < 2 ^ 31) : x = nI x.toNatClampNeg ∧ a ≤ x.toNatClampNeg ∧ x.toNatClampNeg ≤ b := by
  obtain ⟨k, h1, h2, rfl⟩ := h
  rw [nI_clamp (by omega)]
  exact ⟨rfl, h1, h2⟩
theorem nI_2 (i : Nat) : (2 : Int32) * nI i = nI (2 * i) := pk_mul 2 i
theorem nI_8 (i v : Nat) : (8 : Int32) * nI i + 2 * nI v = nI (8 * i + 2 * v) := by rw [nI_2, show (8 : Int32) = nI 8 from rfl, pk_mul, nI_add]
section Box
variable {n N v i : Nat} {S M : mem}
theorem RB.s0 (h : RB N S M) (hv : v < 4) (hi : i < N) (hc : 0 < cn S v i) : (S 8 v (2 * i) = nI (S 8 v (2 * i)).toNatClampNeg ∧ (S 8 v (2 * i)).toNatClampNeg ≤ 200) ∧ (S 9 v (2 * i) = nI (S 9 v (2 * i)).toNatClampNeg ∧ (S 9 v (2 * i)).toNatClampNeg ≤ 200) ∧ b01 (S 10 v (2 * i)) ∧ M 12 0 (8 * i + 2 * v) = S 8 v (2 * i) ∧ M 13 0 (8 * i + 2 * v) = S 9 v (2 * i) ∧ M 14 0 (8 * i + 2 * v) = S 10 v (2 * i) := by
  obtain ⟨a1, a2, a3, a4, a5, a6⟩ := (h.2.2.1.1 v i hv hi).2.2 0 hc
  have b1 := a4.nI (by omega)
  have b2 := a5.nI (by omega)
  exact ⟨⟨b1.1, b1.2.2⟩, ⟨b2.1, b2.2.2⟩, a6, a1.symm, a2.symm, a3.symm⟩
theorem RB.s1 (h : RB N S M) (hv : v < 4) (hi : i < N) (hc : cn S v i = 2) : (S 8 v (2 * i + 1) = nI (S 8 v (2 * i + 1)).toNatClampNeg ∧ (S 8 v (2 * i + 1)).toNatClampNeg ≤ 200) ∧ b01 (S 10 v (2 * i + 1)) ∧ M 12 0 (8 * i + 2 * v + 1) = S 8 v (2 * i + 1) ∧ M 14 0 (8 * i + 2 * v + 1) = S 10 v (2 * i + 1) := by
  obtain ⟨a1, a2, a3, a4, a5, a6⟩ := (h.2.2.1.1 v i hv hi).2.2 1 (by omega)
  have b1 := a4.nI (by omega)
  exact ⟨⟨b1.1, b1.2.2⟩, a6, a1.symm, a3.symm⟩
theorem RB.bw_le (h : RB N S M) (hv : v < 4) (hi : i < N) (hc : 0 < cn S v i) : bw S v i ≤ 405 := by
  have a := (h.s0 hv hi hc).1.2
  unfold bw
  by_cases e : cn S v i = 2
  · rw [if_pos e]
    have := (h.s1 hv hi e).1.2
    omega
  · rw [if_neg e]; omega
theorem RB.bo_le (h : RB N S M) (hv : v < 4) (hi : i < N) (hc : 0 < cn S v i) : bo S v i ≤ 202 := by
  have a := h.bw_le hv hi hc
  have b := (h.s0 hv hi hc).2.1.2
  unfold bo
  by_cases e : S 2 v 6 = 0
  · rw [if_pos e]; omega
  · rw [if_neg e]
    by_cases e : S 2 v 6 = 1
    · rw [if_pos e]; omega
    · rw [if_neg e]; omega
theorem RB.bgo01 (h : RB N S M) (hv : v < 4) (hi : i < N) (hc : 0 < cn S v i) : b01 (bgo S v i) := by
  unfold bgo
  by_cases e : cn S v i = 2
  · rw [if_pos e]; exact (h.s1 hv hi e).2.1
  · rw [if_neg e]; exact (h.s0 hv hi hc).2.2.1
theorem RB.c2 (h : RB N S M) (hv : v < 4) (hi : i < N) : cn S v i ≤ 2 ∧ S 7 v i = nI (cn S v i) ∧ M 11 0 (4 * i + v) = nI (cn S v i) := h.2.2.1.cn2 hv hi
theorem nI_c2 {c : Nat} (hc : c ≤ 2) : nI c = 2 ↔ c = 2 := by rcases (show c = 0 ∨ c = 1 ∨ c = 2 by omega) with rfl | rfl | rfl <;> decide
theorem RB.tiedC (h : RB N S M) (hv : v < 4) (hi : i < N) : f_X2_isTied n S v (nI i) = some (if cn S v i = 2 then 1 else 0) := by
  have hN := h.1.2.2
  obtain ⟨hp, hc⟩ := nI_in' (i := i) (N := 60) (by omega) (by omega)
  obtain ⟨c1, c2, -⟩ := h.c2 hv hi
  have := nI_c2 c1
  by_cases e : cn S v i = 2 <;> simp [f_X2_isTied, grd, hp, hc, show i < 60 by omega, c2, this, e, show nI 2 = 2 from rfl]
theorem RB.widthC (h : RB N S M) (hv : v < 4) (hi : i < N) (h0 : 0 < cn S v i) : f_X2_boxWidth n S v (nI i) = some (nI (bw S v i)) := by
  have hN := h.1.2.2
  obtain ⟨hp, hc⟩ := nI_in' (i := 2 * i) (N := 120) (by omega) (by omega)
  obtain ⟨hp', hc'⟩ := nI_in' (i := 2 * i + 1) (N := 120) (by omega) (by omega)
  have t := h.tiedC (n := n) hv hi
  have a := (h.s0 hv hi h0).1.1
  unfold bw
  by_cases e : cn S v i = 2
  · have b := (h.s1 hv hi e).1.1
    rw [if_pos e] at t ⊢
    rw [← nI_add, ← nI_add, ← a, ← b]
    simp [f_X2_boxWidth, t, cal, nI_2, nI_1, grd, hp, hc, hp', hc', show 2 * i < 120 by omega, show 2 * i < 119 by omega]
    rfl
  · rw [if_neg e] at t ⊢
    rw [← a]
    simp [f_X2_boxWidth, t, cal, nI_2, grd, hp, hc, show 2 * i < 120 by omega]
theorem RB.endC (h : RB N S M) (hv : v < 4) (hi : i < N) (h0 : 0 < cn S v i) : f_X2_boxEnd n S v (nI i) = some (S 11 v i + nI (bw S v i)) := by
  have hN := h.1.2.2
  obtain ⟨hp, hc⟩ := nI_in' (i := i) (N := 60) (by omega) (by omega)
  simp [f_X2_boxEnd, grd, hp, hc, show i < 60 by omega, h.widthC hv hi h0, cal]
theorem RB.offC (h : RB N S M) (hv : v < 4) (hi : i < N) (h0 : 0 < cn S v i) : f_X2_offset n S v (nI i) = some (nI (bo S v i)) := by
  have hN := h.1.2.2
  obtain ⟨hp, hc⟩ := nI_in' (i := 2 * i) (N := 120) (by omega) (by omega)
  have a := (h.s0 hv hi h0).2.1.1
  have b := h.bw_le hv hi h0
  unfold bo
  by_cases e : S 2 v 6 = 0
  · rw [if_pos e, ← pk_div (by omega) (by omega) (by omega)]
    simp [f_X2_offset, e, h.widthC hv hi h0, cal]
    rfl
  · rw [if_neg e]
    by_cases e2 : S 2 v 6 = 1
    · rw [if_pos e2]
      simp [f_X2_offset, e2, nI_0]
    · rw [if_neg e2, ← a]
      simp [f_X2_offset, e, e2, nI_2, grd, hp, hc, show 2 * i < 120 by omega]
theorem RB.goC (h : RB N S M) (hv : v < 4) (hi : i < N) (h0 : 0 < cn S v i) : f_X2_isGoingOn n S v (nI i) = some (bgo S v i) := by
  have hN := h.1.2.2
  obtain ⟨hp, hc⟩ := nI_in' (i := 2 * i) (N := 120) (by omega) (by omega)
  obtain ⟨hp', hc'⟩ := nI_in' (i := 2 * i + 1) (N := 120) (by omega) (by omega)
  have t := h.tiedC (n := n) hv hi
  have g := h.bgo01 hv hi h0
  unfold bgo b01 at *
  by_cases e : cn S v i = 2
  · rw [if_pos e] at t ⊢ g
    simp [f_X2_isGoingOn, t, cal, nI_2, nI_1, grd, hp', hc', show 2 * i < 119 by omega, g]
  · rw [if_neg e] at t ⊢ g
    simp [f_X2_isGoingOn, t, cal, nI_2, grd, hp, hc, show 2 * i < 120 by omega, g]
theorem RB.boxM (h : RB N S M) (hv : v < 4) (hi : i < N) : f_X4_isBox n M (nI i) (nI v) = some (if cn S v i = 0 then 0 else 1) := by
  have hN := h.1.2.2
  obtain ⟨hp, hc⟩ := nI_in' (i := 4 * i + v) (N := 240) (by omega) (by omega)
  obtain ⟨c1, c2, c3⟩ := h.c2 hv hi
  by_cases e : cn S v i = 0
  · rw [e] at c3
    simp [f_X4_isBox, ix4, grd, hp, hc, show 4 * i + v < 240 by omega, c3, e, show nI 0 ≤ 0 by decide]
  · have := nI_nle (n := cn S v i) (by omega) (by omega)
    simp [f_X4_isBox, ix4, grd, hp, hc, show 4 * i + v < 240 by omega, c3, e, this]
theorem RB.wideM (h : RB N S M) (hv : v < 4) (hi : i < N) (h0 : 0 < cn S v i) : f_X4_wideOf n M (nI i) (nI v) = some (nI (bw S v i)) := by
  have hN := h.1.2.2
  obtain ⟨hp, hc⟩ := nI_in' (i := 4 * i + v) (N := 240) (by omega) (by omega)
  obtain ⟨hp1, hc1⟩ := nI_in' (i := 8 * i + 2 * v) (N := 480) (by omega) (by omega)
  obtain ⟨hp', hc'⟩ := nI_in' (i := 8 * i + 2 * v + 1) (N := 480) (by omega) (by omega)
  obtain ⟨c1, c2, c3⟩ := h.c2 hv hi
  have c4 := nI_c2 c1
  obtain ⟨⟨a, -⟩, -, -, a2, -⟩ := h.s0 hv hi h0
  unfold bw
  by_cases e : cn S v i = 2
  · obtain ⟨⟨b, -⟩, -, b2, -⟩ := h.s1 hv hi e
    rw [if_pos e, ← nI_add, ← nI_add, ← a, ← b, Int32.add_assoc, Int32.add_comm (nI 5), ← Int32.add_assoc]
    simp [f_X4_wideOf, ix4, nI_8, nI_1, grd, hp, hc, hp1, hc1, hp', hc', show 4 * i + v < 240 by omega, show 8 * i + 2 * v < 480 by omega, show 8 * i + 2 * v < 479 by omega, c3, c4, e, a2, b2, show nI 2 = 2 from rfl]
    rfl
  · rw [if_neg e, ← a]
    simp [f_X4_wideOf, ix4, nI_8, nI_1, grd, hp, hc, hp1, hc1, show 4 * i + v < 240 by omega, show 8 * i + 2 * v < 480 by omega, c3, c4, e, a2]
theorem RB.endM (h : RB N S M) (hv : v < 4) (hi : i < N) (h0 : 0 < cn S v i) : f_X4_endOf n M (nI i) (nI v) = some (M 20 0 (4 * i + v) + nI (bw S v i)) := by
  have hN := h.1.2.2
  obtain ⟨hp, hc⟩ := nI_in' (i := 4 * i + v) (N := 240) (by omega) (by omega)
  simp [f_X4_endOf, ix4, grd, hp, hc, show 4 * i + v < 240 by omega, h.wideM hv hi h0, cal]
theorem RB.offM (h : RB N S M) (hv : v < 4) (hi : i < N) (h0 : 0 < cn S v i) : f_X4_offset n M (nI i) (nI v) = some (nI (bo S v i)) := by
  have hN := h.1.2.2
  obtain ⟨hp, hc⟩ := nI_in' (i := v) (N := 4) (by omega) (by omega)
  obtain ⟨hp1, hc1⟩ := nI_in' (i := 8 * i + 2 * v) (N := 480) (by omega) (by omega)
  obtain ⟨-, ⟨a, -⟩, -, -, a2, -⟩ := h.s0 hv hi h0
  have g5 := (h.2.2.2 v hv).1
  have b := h.bw_le hv hi h0
  unfold bo
  rw [g5]
  by_cases e : M 15 0 v = 0
  · rw [if_pos e, ← pk_div (by omega) (by omega) (by omega)]
    simp [f_X4_offset, e, h.wideM hv hi h0, cal, grd, hp, hc, hv]
    rfl
  · rw [if_neg e]
    by_cases e2 : M 15 0 v = 1
    · rw [if_pos e2]
      simp [f_X4_offset, e2, nI_0, grd, hp, hc, hv]
    · rw [if_neg e2, ← a]
      simp [f_X4_offset, e, e2, nI_8, grd, hp, hc, hv, hp1, hc1, show 8 * i + 2 * v < 480 by omega, a2]
theorem RB.goM (h : RB N S M) (hv : v < 4) (hi : i < N) (h0 : 0 < cn S v i) : f_X4_goesOn n M (nI i) (nI v) = some (bgo S v i) := by
  have hN := h.1.2.2
  obtain ⟨hp, hc⟩ := nI_in' (i := 4 * i + v) (N := 240) (by omega) (by omega)
  obtain ⟨hp1, hc1⟩ := nI_in' (i := 8 * i + 2 * v) (N := 480) (by omega) (by omega)
  obtain ⟨hp', hc'⟩ := nI_in' (i := 8 * i + 2 * v + 1) (N := 480) (by omega) (by omega)
  obtain ⟨c1, c2, c3⟩ := h.c2 hv hi
  obtain ⟨-, -, a1, -, -, a2⟩ := h.s0 hv hi h0
  unfold bgo
  by_cases e : cn S v i = 2
  · obtain ⟨-, b1, -, b2⟩ := h.s1 hv hi e
    rw [if_pos e]
    rw [e] at c3
    unfold b01 at b1
    simp [f_X4_goesOn, ix4, nI_8, nI_add, nI_pred, grd, hp, hc, hp', hc', show 4 * i + v < 240 by omega, show 8 * i + 2 * v < 479 by omega, c3, b2, b1]
  · rw [if_neg e]
    rw [show cn S v i = 1 by omega] at c3
    unfold b01 at a1
    simp [f_X4_goesOn, ix4, nI_8, nI_add, nI_pred, grd, hp, hc, hp1, hc1, show 4 * i + v < 240 by omega, show 8 * i + 2 * v < 480 by omega, c3, a2, a1]
theorem RB.hasC (h : RB N S M) (hv : v < 4) (hi : i < N) : f_X2_hasBox n S v (nI i) = some (if cn S v i = 0 then 0 else 1) := by
  have hN := h.1.2.2
  obtain ⟨c1, c2, -⟩ := h.c2 hv hi
  rcases hasBoxC (n := n) (i := i) (by omega) c2 c1 with ⟨a, b⟩ | ⟨a, b⟩
  · rw [b, if_pos a]
  · rw [b, if_neg (by omega)]
end Box
