abbrev e3 : va_E := .inr (5, [.null, .null, .null, .null, .int 0, .int 0, .int 0, .int 0, .int 0])
def fx3 (g : cx) (h0 z : Nat) (nf vf : Nat → Option Nat) : va_W := [(h0, .inr (5, [.ref (z), .ref (z + 1), .ref (z + 2), .ref (z + 9), .int 0, .int 0, .int 0, .int 2000, .int 0])), (z, .inl (g.2.1 2, 60, .inr (.inr (.inr (.inr (nf)))))), (z + 1, .inl (g.2.1 3, 4, .inr (.inr (.inr (.inr (vf)))))), (z + 2, .inr (2, [.ref (z + 3), .ref (z + 4), .ref (z + 5), .int 0, .ref (z + 6), .int 0, .ref (z + 7), .int 2, .int 3, .ref (z + 8), .int 0])), (z + 3, .inl (g.2.1 0, 30, .inl (fun _ => 0))), (z + 4, .inl (g.2.1 0, 30, .inl (fun _ => 0))), (z + 5, .inl (g.2.1 0, 30, .inl (fun _ => 0))), (z + 6, .inl (g.2.1 0, 26, .inl (fun _ => 0))), (z + 7, .inl (g.2.1 0, 27, .inl (fun _ => 0))), (z + 8, .inl (g.2.1 0, 24, .inl (fun _ => 0))), (z + 9, .inl (g.2.1 0, 240, .inl (fun _ => 0)))]
def wN (z n : Nat) : va_W := (List.range n).map (fun i => (z + (10 + i), .inr (3, [.int 0, .int 0, .int 0, .int 0, .int 0, .int 0, .int 0, .int 0, .int 0])))
def sixV (g : cx) (z i : Nat) : va_W := [(z + (70 + 6 * i), .inr (4, [.ref (z + (70 + 6 * i) + 1), .ref (z + (70 + 6 * i) + 1 + 1), .ref (z + (70 + 6 * i) + 1 + 2), .ref (z + (70 + 6 * i) + 1 + 3), .ref (z + (70 + 6 * i) + 1 + 4), .int 0, .int 0, .int 0, .int 0])), (z + (70 + 6 * i) + 1, .inl (g.2.1 0, 60, .inl (fun _ => 0))), (z + (70 + 6 * i) + 1 + 1, .inl (g.2.1 0, 120, .inl (fun _ => 0))), (z + (70 + 6 * i) + 1 + 2, .inl (g.2.1 0, 120, .inl (fun _ => 0))), (z + (70 + 6 * i) + 1 + 3, .inl (g.2.1 1, 120, .inl (fun _ => 0))), (z + (70 + 6 * i) + 1 + 4, .inl (g.2.1 0, 60, .inl (fun _ => 0)))]
def wV (g : cx) (z v : Nat) : va_W := (List.range v).flatMap (sixV g z)
def nfn (z n : Nat) : Nat → Option Nat := fun j => if j < n then some (z + (10 + j)) else none
def vfn (z n : Nat) : Nat → Option Nat := fun j => if j < n then some (z + (70 + 6 * j)) else none
theorem nfn_up (z n : Nat) : va_up (nfn z n) n (some (z + (10 + n))) = nfn z (n + 1) := by
  funext j
  simp only [va_up, nfn]
  by_cases h : j = n
  · subst h; simp
  · rw [if_neg h]
    by_cases h2 : j < n
    · rw [if_pos h2, if_pos (by omega)]
    · rw [if_neg h2, if_neg (by omega)]
theorem vfn_up (z n : Nat) : va_up (vfn z n) n (some (z + (70 + 6 * n))) = vfn z (n + 1) := by
  funext j
  simp only [va_up, vfn]
  by_cases h : j = n
  · subst h; simp
  · rw [if_neg h]
    by_cases h2 : j < n
    · rw [if_pos h2, if_pos (by omega)]
    · rw [if_neg h2, if_neg (by omega)]
theorem wN_succ (z n : Nat) : wN z (n + 1) = wN z n ++ [(z + (10 + n), .inr (3, [.int 0, .int 0, .int 0, .int 0, .int 0, .int 0, .int 0, .int 0, .int 0]))] := by simp [wN, List.range_succ]
theorem wV_succ (g : cx) (z n : Nat) : wV g z (n + 1) = wV g z n ++ sixV g z n := by simp [wV, List.range_succ]
theorem nfn_0 (z : Nat) : (fun _ => none) = nfn z 0 := by funext j; simp [nfn]
theorem vfn_0 (z : Nat) : (fun _ => none) = vfn z 0 := by funext j; simp [vfn]
def adC (h0 z : Nat) : Nat → Nat → Nat := fun k i => match k with
  | 0 => z + 2
  | 1 => z + (10 + i)
  | 2 => z + (70 + 6 * i)
  | 3 => h0
  | 4 => z
  | 5 => z + 1
  | 6 => z + 9
  | 7 => z + (70 + 6 * i) + 1
  | 8 => z + (70 + 6 * i) + 1 + 1
  | 9 => z + (70 + 6 * i) + 1 + 2
  | 10 => z + (70 + 6 * i) + 1 + 3
  | 11 => z + (70 + 6 * i) + 1 + 4
  | 12 => z + 3
  | 13 => z + 4
  | 14 => z + 5
  | 15 => z + 6
  | 16 => z + 7
  | 17 => z + 8
  | _ => 0
abbrev gC (g : cx) (h0 z : Nat) : cx := (g.1, g.2.1, adC h0 z)
def S0C : mem := mup (mup (mup (fun _ _ _ => 0) 3 0 7 2000) 0 0 7 2) 0 0 8 3
theorem arr_cong {cA : ClassId} {n : Nat} {f f2 : Nat → Option Nat} (h : ∀ j, j < n → f j = f2 j) : vp_cell cA (n, .inr (.inr (.inr (.inr f)))) = vp_cell cA (n, .inr (.inr (.inr (.inr f2)))) := by
  rw [vp_cell_q, vp_cell_q]
  unfold arrV
  have e : (fun j : Fin n => va_rf (f j.val)) = (fun j : Fin n => va_rf (f2 j.val)) := funext fun j => by rw [h j.val j.isLt]
  rw [e]
theorem fx3_full {g : cx} {h0 z : Nat} {H : Heap} {X : va_W} (h : va_P g.1 vwCl (fx3 g h0 z (nfn z 60) (vfn z 4) ++ X) H) : va_P g.1 vwCl (fx3 g h0 z (fun j => some (z + (10 + j))) (fun j => some (z + (70 + 6 * j))) ++ X) H := by
  intro k q hq
  match k, hq with
  | 0, hq => exact h 0 q hq
  | 1, hq =>
    cases hq
    have := h 1 _ rfl
    show H[z]? = some (vp_cell _ _)
    rw [arr_cong (f2 := nfn z 60) (fun j hj => by simp [nfn, hj])]
    exact this
  | 2, hq =>
    cases hq
    have := h 2 _ rfl
    show H[z + 1]? = some (vp_cell _ _)
    rw [arr_cong (f2 := vfn z 4) (fun j hj => by simp [vfn, hj])]
    exact this
  | k + 3, hq => exact h (k + 3) q hq
set_option maxRecDepth 100000 in
set_option maxHeartbeats 4000000 in
theorem x3_to {g : cx} {h0 z : Nat} {A : Nat → Prop} {s : State} {H : Heap} {locs : List Loc} (B : Ld g A s H locs (fx3 g h0 z (nfn z 60) (vfn z 4) ++ wN z 60 ++ wV g z 4) (z + 94)) : Wd ixC enC (gC g h0 z) S0C A s H locs := by
  obtain ⟨hK, hP, hD, hS, hN, hz, hA⟩ := B
  have hP2 : va_P g.1 vwCl (fx3 g h0 z (fun j => some (z + (10 + j))) (fun j => some (z + (70 + 6 * j))) ++ (wN z 60 ++ wV g z 4)) H := fx3_full (by rw [← List.append_assoc]; exact hP)
  have hD2 : va_D A (fx3 g h0 z (fun j => some (z + (10 + j))) (fun j => some (z + (70 + 6 * j))) ++ (wN z 60 ++ wV g z 4)) := by
    have h1 := (hD.set (p := 1) (a := z) (e := .inl (g.2.1 2, 60, .inr (.inr (.inr (.inr (fun j => some (z + (10 + j)))))))) rfl).set (p := 2) (a := z + 1) (e := .inl (g.2.1 3, 4, .inr (.inr (.inr (.inr (fun j => some (z + (70 + 6 * j)))))))) rfl
    rw [← List.append_assoc]
    exact h1
  exact ⟨hK, hP2.sub (ws' := cwG ixC enC (gC g h0 z) S0C) [3, 11, 12, 13, 14, 15, 16, 17, 18, 19, 20, 21, 22, 23, 24, 25, 26, 27, 28, 29, 30, 31, 32, 33, 34, 35, 36, 37, 38, 39, 40, 41, 42, 43, 44, 45, 46, 47, 48, 49, 50, 51, 52, 53, 54, 55, 56, 57, 58, 59, 60, 61, 62, 63, 64, 65, 66, 67, 68, 69, 70, 71, 77, 83, 89, 0, 1, 2, 10, 72, 78, 84, 90, 73, 79, 85, 91, 74, 80, 86, 92, 75, 81, 87, 93, 76, 82, 88, 94, 4, 5, 6, 7, 8, 9] rfl, hD2.sub (ws' := cwG ixC enC (gC g h0 z) S0C) [3, 11, 12, 13, 14, 15, 16, 17, 18, 19, 20, 21, 22, 23, 24, 25, 26, 27, 28, 29, 30, 31, 32, 33, 34, 35, 36, 37, 38, 39, 40, 41, 42, 43, 44, 45, 46, 47, 48, 49, 50, 51, 52, 53, 54, 55, 56, 57, 58, 59, 60, 61, 62, 63, 64, 65, 66, 67, 68, 69, 70, 71, 77, 83, 89, 0, 1, 2, 10, 72, 78, 84, 90, 73, 79, 85, 91, 74, 80, 86, 92, 75, 81, 87, 93, 76, 82, 88, 94, 4, 5, 6, 7, 8, 9] (by decide) rfl, hS, hN⟩
theorem nI_in_of {n N : Nat} {x : Int32} (h : n < N ∧ ¬ x < 0) : ¬ (x < 0 ∨ N ≤ n) := fun q => q.elim h.2 (by omega)
set_option maxRecDepth 100000 in
set_option maxHeartbeats 4000000 in
theorem c_X3_init (l : Launch) (g : cx) (h0 z : Nat) (hh : h0 < z) : Met l yX3_init (wsU yX3_init cX3_init 2 none) (rmK 2 94 2978) (PcL g [(h0, e3)] z [.ref h0]) (va_Qv (fun (_ : Unit) => True) (fun _ t => Wu ixC enC (gC g h0 z) S0C t ∧ t.heap.size = z + 94) (va_A [(h0, e3)] z)) 94 2978 (va_A [(h0, e3)] z) := by
  refine met_introL (va_A [(h0, e3)] z) (fun q h => Or.inr h) (fun k q hk => Or.inl ⟨k, q.2, hk⟩) [.ref h0] RX3 rfl rfl (by decide) (Nat.le_of_ble_eq_true rfl) (fun p e s m args below meth c H locs F hr hlocks hin hsz B ls hl => ?_)
  have hl : lv_has ls 2 [(0, .ref h0)] := hl
  have hx := F.1
  have hb := F.2.1
  have hA3 : ∀ q, z ≤ q → (va_A [(h0, e3)] z) q := fun q h => Or.inr h
  have LV : ∀ (k v : Nat), v + k = 4 → ∀ (H : Heap) (locs : List Loc) (ls : Array Slot), Ld g (va_A [(h0, e3)] z) s H locs (fx3 g h0 z (nfn z 60) (vfn z v) ++ wN z 60 ++ wV g z v) (z + (70 + 6 * v)) → lv_has ls 2 [(1, .int (nI v)), (0, .ref h0)] → W p l e (rmK 2 94 2978) s m args below meth c H locs (70 + 6 * v) (1022 + 489 * v) (MQ below (va_Qv (fun (_ : Unit) => True) (fun _ t => Wu ixC enC (gC g h0 z) S0C t ∧ t.heap.size = z + 94) (va_A [(h0, e3)] z)) args s 94 2978 (va_A [(h0, e3)] z)) (F0 m 77 ls []) := by
    intro k
    induction k with
    | zero =>
      intro v hv H locs ls B hl
      have hv4 : v = 4 := by omega
      subst hv4
      refine lv_iload_n hx hb dX3_init_77 rfl (lv_at hl 0 rfl) ?_
      refine lv_iconst (v := 4) hx hb dX3_init_78 (by decide) ?_
      refine lv_icmp_ge (tgt := 101) hx hb dX3_init_79 (by decide) (fun c1 => ?_) (fun c1 => absurd (by decide) c1)
      have BW := x3_to B
      refine W.vret hx hb hr (fun t ht hW => ⟨⟨(), rfl, trivial, BW.u ht hW, by rw [ht]; exact B.2.2.2.2.2.1⟩, B.2.2.2.1.F ht⟩) B.2.2.2.1.2.2 dX3_init_101 hlocks
    | succ k ih =>
      intro v hv H locs ls B hl
      refine lv_iload_n hx hb dX3_init_77 rfl (lv_at hl 0 rfl) ?_
      refine lv_iconst (v := 4) hx hb dX3_init_78 (by decide) ?_
      refine lv_icmp_ge (tgt := 101) hx hb dX3_init_79 (by decide) (fun c1 => absurd ((nI_leI (a := 4) (b := v) (by omega) (by omega)).mp c1) (by omega)) (fun c1 => ?_)
      refine lv_aload_n hx hb dX3_init_82 rfl (lv_at hl 1 rfl) ?_
      refine va_get (D := g.1) (ci := 5) (v := .ref (z + 1)) (C := RX3) (T := TX3) (N := 9) hx hb F.2.2.2.2 (fun w h => wsU_in (inGX3 w h)) F.2.2.2.1 B.1 B.2.1 0 rfl rfl 1 (by decide) (F.2.2.2.2 _ (wsU_in mF_X3_17)) (fun _ h9 => h9) rfl dX3_init_83 ?_
      refine lv_iload_n hx hb dX3_init_86 rfl (lv_at hl 0 rfl) ?_
      refine l_new F B (fun w h => wsU_in (inGX2 w h)) tyX2 tyX2_ok (wsU_in mL_X3_15) (wsU_in mB_X2) (wsU_in mN_X2) (ci := 4) rfl (fs := [.null, .null, .null, .null, .null, .int 0, .int 0, .int 0, .int 0]) (fun j hj => by rcases (show j = 0 ∨ j = 1 ∨ j = 2 ∨ j = 3 ∨ j = 4 ∨ j = 5 ∨ j = 6 ∨ j = 7 ∨ j = 8 by omega) with rfl | rfl | rfl | rfl | rfl | rfl | rfl | rfl | rfl <;> rfl) (by show _ ≤ 94; omega) (by show _ ≤ 2978; omega) dX3_init_87 (fun H B => ?_)
      refine lv_dup hx hb dX3_init_90 rfl ?_
      refine l_callIN F B (c_X2_init l g (z + (70 + 6 * v)) (z + (70 + 6 * v) + 1)) mC_X2_init nM_X3_37 mN_X2 mI_X2_init rfl ok_X2_init (by decide) ⟨by show _ ≤ 94; omega, by show _ ≤ 2978; omega⟩ (fun k q hq => ?_) (by omega) (hA3 _ (by omega)) hl.1 rfl (Nat.le_of_ble_eq_true rfl) dX3_init_91 (fun H locs B => ?_)
      · have hk : k < 6 := (List.getElem?_eq_some_iff.mp hq).1
        rcases (show k = 0 ∨ k = 1 ∨ k = 2 ∨ k = 3 ∨ k = 4 ∨ k = 5 by omega) with rfl | rfl | rfl | rfl | rfl | rfl <;> cases hq <;> simp
      have hvi : (nI v).toNatClampNeg = v := nI_clamp (by omega)
      refine l_ast F B 2 3 (fx3 g h0 z (nfn z 60) (vfn z v) ++ wN z 60 ++ wV g z v).length 4 (r := (RX2, TX2, 9)) rfl rfl (by rw [List.getElem?_append_right (Nat.le_refl _), Nat.sub_self]; rfl) rfl (by rw [vp_in, hvi]; exact nI_in_of ⟨by omega, nI_pos (by omega)⟩) dX3_init_94 (fun H locs B => ?_)
      rw [hvi] at B
      have B : Ld g (va_A [(h0, e3)] z) s H locs (fx3 g h0 z (nfn z 60) (va_up (vfn z v) v (some (z + (70 + 6 * v)))) ++ wN z 60 ++ wV g z v ++ sixV g z v) (z + (70 + 6 * v) + 1 + 5) := B
      rw [vfn_up, List.append_assoc, ← wV_succ, show z + (70 + 6 * v) + 1 + 5 = z + (70 + 6 * (v + 1)) by omega] at B
      refine lv_iinc (v := nI (v + 1)) (lv' := [(1, .int (nI (v + 1))), (0, .ref h0)]) hx hb dX3_init_95 hl (k := 0) rfl (by rw [nI_succ]; rfl) (by decide) rfl (fun ls hl => ?_)
      refine lv_goto (tgt := 77) hx hb dX3_init_98 (by decide) ?_
      have := ih (v + 1) (by omega) H locs ls B hl
      rw [show 70 + 6 * (v + 1) = 70 + 6 * v + 1 + 5 by omega, show 1022 + 489 * (v + 1) = 1022 + 489 * v + 9 + 480 by omega] at this
      exact this
  have LN : ∀ (k n : Nat), n + k = 60 → ∀ (H : Heap) (locs : List Loc) (ls : Array Slot), Ld g (va_A [(h0, e3)] z) s H locs (fx3 g h0 z (nfn z n) (fun _ => none) ++ wN z n) (z + (10 + n)) → lv_has ls 2 [(1, .int (nI n)), (0, .ref h0)] → W p l e (rmK 2 94 2978) s m args below meth c H locs (10 + n) (482 + 9 * n) (MQ below (va_Qv (fun (_ : Unit) => True) (fun _ t => Wu ixC enC (gC g h0 z) S0C t ∧ t.heap.size = z + 94) (va_A [(h0, e3)] z)) args s 94 2978 (va_A [(h0, e3)] z)) (F0 m 50 ls []) := by
    intro k
    induction k with
    | zero =>
      intro n hn H locs ls B hl
      have hn6 : n = 60 := by omega
      subst hn6
      refine lv_iload_n hx hb dX3_init_50 rfl (lv_at hl 0 rfl) ?_
      refine lv_bipush (v := 60) hx hb dX3_init_51 (by decide) ?_
      refine lv_icmp_ge (tgt := 75) hx hb dX3_init_53 (by decide) (fun c1 => ?_) (fun c1 => absurd (by decide) c1)
      refine lv_iconst (v := 0) hx hb dX3_init_75 (by decide) ?_
      refine lv_istore_n (lv' := [(1, .int 0), (0, .ref h0)]) hx hb dX3_init_76 rfl hl (by decide) rfl (fun ls hl => ?_)
      rw [vfn_0 z] at B
      have B : Ld g (va_A [(h0, e3)] z) s H locs (fx3 g h0 z (nfn z 60) (vfn z 0) ++ wN z 60 ++ wV g z 0) (z + (70 + 6 * 0)) := by rw [show wV g z 0 = [] from rfl, List.append_nil]; exact B
      exact LV 4 0 rfl H locs ls B hl
    | succ k ih =>
      intro n hn H locs ls B hl
      refine lv_iload_n hx hb dX3_init_50 rfl (lv_at hl 0 rfl) ?_
      refine lv_bipush (v := 60) hx hb dX3_init_51 (by decide) ?_
      refine lv_icmp_ge (tgt := 75) hx hb dX3_init_53 (by decide) (fun c1 => absurd ((nI_leI (a := 60) (b := n) (by omega) (by omega)).mp c1) (by omega)) (fun c1 => ?_)
      refine lv_aload_n hx hb dX3_init_56 rfl (lv_at hl 1 rfl) ?_
      refine va_get (D := g.1) (ci := 5) (v := .ref z) (C := RX3) (T := TX3) (N := 9) hx hb F.2.2.2.2 (fun w h => wsU_in (inGX3 w h)) F.2.2.2.1 B.1 B.2.1 0 rfl rfl 0 (by decide) (F.2.2.2.2 _ (wsU_in mF_X3_11)) (fun _ h9 => h9) rfl dX3_init_57 ?_
      refine lv_iload_n hx hb dX3_init_60 rfl (lv_at hl 0 rfl) ?_
      refine l_new F B (fun w h => wsU_in (inGX1 w h)) tyX1 tyX1_ok (wsU_in mL_X3_9) (wsU_in mB_X1) (wsU_in mN_X1) (ci := 3) rfl (fs := [.int 0, .int 0, .int 0, .int 0, .int 0, .int 0, .int 0, .int 0, .int 0]) (fun j hj => by rcases (show j = 0 ∨ j = 1 ∨ j = 2 ∨ j = 3 ∨ j = 4 ∨ j = 5 ∨ j = 6 ∨ j = 7 ∨ j = 8 by omega) with rfl | rfl | rfl | rfl | rfl | rfl | rfl | rfl | rfl <;> rfl) (by show _ ≤ 94; omega) (by show _ ≤ 2978; omega) dX3_init_61 (fun H B => ?_)
      refine lv_dup hx hb dX3_init_64 rfl ?_
      refine l_callIN F B (c_X1_init l g (z + (10 + n)) (z + (10 + n) + 1)) mC_X1_init nM_X3_36 mN_X1 mI_X1_init rfl ok_X1_init (by decide) ⟨by show _ ≤ 94; omega, by show _ ≤ 2978; omega⟩ (fun k q hq => ?_) (by omega) (hA3 _ (by omega)) hl.1 rfl (Nat.le_of_ble_eq_true rfl) dX3_init_65 (fun H locs B => ?_)
      · have hk : k < 1 := (List.getElem?_eq_some_iff.mp hq).1
        rcases (show k = 0 by omega) with rfl
        cases hq
        simp
      have hni : (nI n).toNatClampNeg = n := nI_clamp (by omega)
      refine l_ast F B 1 2 (fx3 g h0 z (nfn z n) (fun _ => none) ++ wN z n).length 3 (r := (RX1, TX1, 9)) rfl rfl (by rw [List.getElem?_append_right (Nat.le_refl _), Nat.sub_self]; rfl) rfl (by rw [vp_in, hni]; exact nI_in_of ⟨by omega, nI_pos (by omega)⟩) dX3_init_68 (fun H locs B => ?_)
      rw [hni] at B
      have B : Ld g (va_A [(h0, e3)] z) s H locs (fx3 g h0 z (va_up (nfn z n) n (some (z + (10 + n)))) (fun _ => none) ++ wN z n ++ [(z + (10 + n), .inr (3, [.int 0, .int 0, .int 0, .int 0, .int 0, .int 0, .int 0, .int 0, .int 0]))]) (z + (10 + n) + 1) := B
      rw [nfn_up, List.append_assoc, ← wN_succ, show z + (10 + n) + 1 = z + (10 + (n + 1)) by omega] at B
      refine lv_iinc (v := nI (n + 1)) (lv' := [(1, .int (nI (n + 1))), (0, .ref h0)]) hx hb dX3_init_69 hl (k := 0) rfl (by rw [nI_succ]; rfl) (by decide) rfl (fun ls hl => ?_)
      refine lv_goto (tgt := 50) hx hb dX3_init_72 (by decide) ?_
      have := ih (n + 1) (by omega) H locs ls B hl
      rw [show 10 + (n + 1) = 10 + n + 1 + 0 by omega, show 482 + 9 * (n + 1) = 482 + 9 * n + 9 + 0 by omega] at this
      exact this
  refine lv_aload_n hx hb dX3_init_0 rfl (lv_at hl 0 rfl) ?_
  refine l_objInit F mO_X3 mI_obj mC_obj hl.1 dX3_init_1 (by decide) (by decide) ?_
  refine lv_aload_n hx hb dX3_init_4 rfl (lv_at hl 0 rfl) ?_
  refine lv_bipush (v := 60) hx hb dX3_init_5 (by decide) ?_
  refine l_newq F B (wsU_in mL_X3_9) (B.2.2.2.2.1 _ nA_Note) 2 rfl (by decide) (by rfl : Int32.toNatClampNeg 60 = 60) (by decide) (by decide) (by decide) dX3_init_7 (fun H B => ?_)
  have B : Ld g (va_A [(h0, e3)] z) s H locs [(h0, .inr (5, [.null, .null, .null, .null, .int 0, .int 0, .int 0, .int 0, .int 0])), (z, .inl (g.2.1 2, 60, .inr (.inr (.inr (.inr (fun _ => none))))))] (z + 1) := B
  refine l_putF F hin B (fun w h => wsU_in (inGX3 w h)) tyX3 tyX3_ok nmX3 0 rfl rfl 0 (by decide) (wsU_in mF_X3_11) rfl rfl rfl rfl (Nat.le_of_ble_eq_true rfl) dX3_init_10 (fun H locs B => ?_)
  have B : Ld g (va_A [(h0, e3)] z) s H locs [(h0, .inr (5, [.ref (z), .null, .null, .null, .int 0, .int 0, .int 0, .int 0, .int 0])), (z, .inl (g.2.1 2, 60, .inr (.inr (.inr (.inr (fun _ => none))))))] (z + 1) := B
  refine lv_aload_n hx hb dX3_init_13 rfl (lv_at hl 0 rfl) ?_
  refine lv_iconst (v := 4) hx hb dX3_init_14 (by decide) ?_
  refine l_newq F B (wsU_in mL_X3_15) (B.2.2.2.2.1 _ nA_Verse) 3 rfl (by decide) (by rfl : Int32.toNatClampNeg 4 = 4) (by decide) (by decide) (by decide) dX3_init_15 (fun H B => ?_)
  have B : Ld g (va_A [(h0, e3)] z) s H locs [(h0, .inr (5, [.ref (z), .null, .null, .null, .int 0, .int 0, .int 0, .int 0, .int 0])), (z, .inl (g.2.1 2, 60, .inr (.inr (.inr (.inr (fun _ => none)))))), (z + 1, .inl (g.2.1 3, 4, .inr (.inr (.inr (.inr (fun _ => none))))))] (z + 2) := B
  refine l_putF F hin B (fun w h => wsU_in (inGX3 w h)) tyX3 tyX3_ok nmX3 0 rfl rfl 1 (by decide) (wsU_in mF_X3_17) rfl rfl rfl rfl (Nat.le_of_ble_eq_true rfl) dX3_init_18 (fun H locs B => ?_)
  have B : Ld g (va_A [(h0, e3)] z) s H locs [(h0, .inr (5, [.ref (z), .ref (z + 1), .null, .null, .int 0, .int 0, .int 0, .int 0, .int 0])), (z, .inl (g.2.1 2, 60, .inr (.inr (.inr (.inr (fun _ => none)))))), (z + 1, .inl (g.2.1 3, 4, .inr (.inr (.inr (.inr (fun _ => none))))))] (z + 2) := B
  refine lv_aload_n hx hb dX3_init_21 rfl (lv_at hl 0 rfl) ?_
  refine l_new F B (fun w h => wsU_in (inGX0 w h)) tyX0 tyX0_ok (wsU_in mL_X3_21) (wsU_in mB_X0) (wsU_in mN_X0) (ci := 2) rfl (fs := [.null, .null, .null, .int 0, .null, .int 0, .null, .int 0, .int 0, .null, .int 0]) (fun j hj => by rcases (show j = 0 ∨ j = 1 ∨ j = 2 ∨ j = 3 ∨ j = 4 ∨ j = 5 ∨ j = 6 ∨ j = 7 ∨ j = 8 ∨ j = 9 ∨ j = 10 by omega) with rfl | rfl | rfl | rfl | rfl | rfl | rfl | rfl | rfl | rfl | rfl <;> rfl) (by decide) (by decide) dX3_init_22 (fun H B => ?_)
  have B : Ld g (va_A [(h0, e3)] z) s H locs [(h0, .inr (5, [.ref (z), .ref (z + 1), .null, .null, .int 0, .int 0, .int 0, .int 0, .int 0])), (z, .inl (g.2.1 2, 60, .inr (.inr (.inr (.inr (fun _ => none)))))), (z + 1, .inl (g.2.1 3, 4, .inr (.inr (.inr (.inr (fun _ => none)))))), (z + 2, .inr (2, [.null, .null, .null, .int 0, .null, .int 0, .null, .int 0, .int 0, .null, .int 0]))] (z + 3) := B
  refine lv_dup hx hb dX3_init_25 rfl ?_
  have B : Ld g (va_A [(h0, e3)] z) s H locs ([(h0, .inr (5, [.ref (z), .ref (z + 1), .null, .null, .int 0, .int 0, .int 0, .int 0, .int 0])), (z, .inl (g.2.1 2, 60, .inr (.inr (.inr (.inr (fun _ => none)))))), (z + 1, .inl (g.2.1 3, 4, .inr (.inr (.inr (.inr (fun _ => none))))))] ++ [(z + 2, .inr (2, [.null, .null, .null, .int 0, .null, .int 0, .null, .int 0, .int 0, .null, .int 0]))]) (z + 3) := B
  refine l_callIN F B (c_X0_init l g (z + 2) (z + 3)) mC_X0_init nM_X3_23 mN_X0 mI_X0_init rfl ok_X0_init (by decide) (by decide) (fun k q hq => ?_) (by omega) (hA3 _ (by omega)) hl.1 rfl (Nat.le_of_ble_eq_true rfl) dX3_init_26 (fun H locs B => ?_)
  · have hk : k < 7 := (List.getElem?_eq_some_iff.mp hq).1
    rcases (show k = 0 ∨ k = 1 ∨ k = 2 ∨ k = 3 ∨ k = 4 ∨ k = 5 ∨ k = 6 by omega) with rfl | rfl | rfl | rfl | rfl | rfl | rfl <;> cases hq <;> simp
  have B : Ld g (va_A [(h0, e3)] z) s H locs [(h0, .inr (5, [.ref (z), .ref (z + 1), .null, .null, .int 0, .int 0, .int 0, .int 0, .int 0])), (z, .inl (g.2.1 2, 60, .inr (.inr (.inr (.inr (fun _ => none)))))), (z + 1, .inl (g.2.1 3, 4, .inr (.inr (.inr (.inr (fun _ => none)))))), (z + 2, .inr (2, [.ref (z + 3), .ref (z + 4), .ref (z + 5), .int 0, .ref (z + 6), .int 0, .ref (z + 7), .int 2, .int 3, .ref (z + 8), .int 0])), (z + 3, .inl (g.2.1 0, 30, .inl (fun _ => 0))), (z + 4, .inl (g.2.1 0, 30, .inl (fun _ => 0))), (z + 5, .inl (g.2.1 0, 30, .inl (fun _ => 0))), (z + 6, .inl (g.2.1 0, 26, .inl (fun _ => 0))), (z + 7, .inl (g.2.1 0, 27, .inl (fun _ => 0))), (z + 8, .inl (g.2.1 0, 24, .inl (fun _ => 0)))] (z + 9) := B
  refine l_putF F hin B (fun w h => wsU_in (inGX3 w h)) tyX3 tyX3_ok nmX3 0 rfl rfl 2 (by decide) (wsU_in mF_X3_24) rfl rfl rfl rfl (Nat.le_of_ble_eq_true rfl) dX3_init_29 (fun H locs B => ?_)
  have B : Ld g (va_A [(h0, e3)] z) s H locs [(h0, .inr (5, [.ref (z), .ref (z + 1), .ref (z + 2), .null, .int 0, .int 0, .int 0, .int 0, .int 0])), (z, .inl (g.2.1 2, 60, .inr (.inr (.inr (.inr (fun _ => none)))))), (z + 1, .inl (g.2.1 3, 4, .inr (.inr (.inr (.inr (fun _ => none)))))), (z + 2, .inr (2, [.ref (z + 3), .ref (z + 4), .ref (z + 5), .int 0, .ref (z + 6), .int 0, .ref (z + 7), .int 2, .int 3, .ref (z + 8), .int 0])), (z + 3, .inl (g.2.1 0, 30, .inl (fun _ => 0))), (z + 4, .inl (g.2.1 0, 30, .inl (fun _ => 0))), (z + 5, .inl (g.2.1 0, 30, .inl (fun _ => 0))), (z + 6, .inl (g.2.1 0, 26, .inl (fun _ => 0))), (z + 7, .inl (g.2.1 0, 27, .inl (fun _ => 0))), (z + 8, .inl (g.2.1 0, 24, .inl (fun _ => 0)))] (z + 9) := B
  refine lv_aload_n hx hb dX3_init_32 rfl (lv_at hl 0 rfl) ?_
  refine lv_sipush (v := 240) hx hb dX3_init_33 (by decide) ?_
  refine l_newa F B (atype := .int) (wsU_in mA_int) 0 rfl hpI rfl (haI 240) (by decide) rfl (by decide) (by decide) (by decide) dX3_init_36 (fun H B => ?_)
  have B : Ld g (va_A [(h0, e3)] z) s H locs [(h0, .inr (5, [.ref (z), .ref (z + 1), .ref (z + 2), .null, .int 0, .int 0, .int 0, .int 0, .int 0])), (z, .inl (g.2.1 2, 60, .inr (.inr (.inr (.inr (fun _ => none)))))), (z + 1, .inl (g.2.1 3, 4, .inr (.inr (.inr (.inr (fun _ => none)))))), (z + 2, .inr (2, [.ref (z + 3), .ref (z + 4), .ref (z + 5), .int 0, .ref (z + 6), .int 0, .ref (z + 7), .int 2, .int 3, .ref (z + 8), .int 0])), (z + 3, .inl (g.2.1 0, 30, .inl (fun _ => 0))), (z + 4, .inl (g.2.1 0, 30, .inl (fun _ => 0))), (z + 5, .inl (g.2.1 0, 30, .inl (fun _ => 0))), (z + 6, .inl (g.2.1 0, 26, .inl (fun _ => 0))), (z + 7, .inl (g.2.1 0, 27, .inl (fun _ => 0))), (z + 8, .inl (g.2.1 0, 24, .inl (fun _ => 0))), (z + 9, .inl (g.2.1 0, 240, .inl (fun _ => 0)))] (z + 10) := B
  refine l_putF F hin B (fun w h => wsU_in (inGX3 w h)) tyX3 tyX3_ok nmX3 0 rfl rfl 3 (by decide) (wsU_in mF_X3_28) rfl rfl rfl rfl (Nat.le_of_ble_eq_true rfl) dX3_init_38 (fun H locs B => ?_)
  have B : Ld g (va_A [(h0, e3)] z) s H locs [(h0, .inr (5, [.ref (z), .ref (z + 1), .ref (z + 2), .ref (z + 9), .int 0, .int 0, .int 0, .int 0, .int 0])), (z, .inl (g.2.1 2, 60, .inr (.inr (.inr (.inr (fun _ => none)))))), (z + 1, .inl (g.2.1 3, 4, .inr (.inr (.inr (.inr (fun _ => none)))))), (z + 2, .inr (2, [.ref (z + 3), .ref (z + 4), .ref (z + 5), .int 0, .ref (z + 6), .int 0, .ref (z + 7), .int 2, .int 3, .ref (z + 8), .int 0])), (z + 3, .inl (g.2.1 0, 30, .inl (fun _ => 0))), (z + 4, .inl (g.2.1 0, 30, .inl (fun _ => 0))), (z + 5, .inl (g.2.1 0, 30, .inl (fun _ => 0))), (z + 6, .inl (g.2.1 0, 26, .inl (fun _ => 0))), (z + 7, .inl (g.2.1 0, 27, .inl (fun _ => 0))), (z + 8, .inl (g.2.1 0, 24, .inl (fun _ => 0))), (z + 9, .inl (g.2.1 0, 240, .inl (fun _ => 0)))] (z + 10) := B
  refine lv_aload_n hx hb dX3_init_41 rfl (lv_at hl 0 rfl) ?_
  refine lv_sipush (v := 2000) hx hb dX3_init_42 (by decide) ?_
  refine l_put F B (fun w h => wsU_in (inGX3 w h)) tyX3 tyX3_ok nmX3 0 rfl rfl 7 (by decide) (wsU_in mF_X3_32) rfl rfl rfl (Nat.le_of_ble_eq_true rfl) dX3_init_45 (fun H locs B => ?_)
  have B : Ld g (va_A [(h0, e3)] z) s H locs [(h0, .inr (5, [.ref (z), .ref (z + 1), .ref (z + 2), .ref (z + 9), .int 0, .int 0, .int 0, .int 2000, .int 0])), (z, .inl (g.2.1 2, 60, .inr (.inr (.inr (.inr (fun _ => none)))))), (z + 1, .inl (g.2.1 3, 4, .inr (.inr (.inr (.inr (fun _ => none)))))), (z + 2, .inr (2, [.ref (z + 3), .ref (z + 4), .ref (z + 5), .int 0, .ref (z + 6), .int 0, .ref (z + 7), .int 2, .int 3, .ref (z + 8), .int 0])), (z + 3, .inl (g.2.1 0, 30, .inl (fun _ => 0))), (z + 4, .inl (g.2.1 0, 30, .inl (fun _ => 0))), (z + 5, .inl (g.2.1 0, 30, .inl (fun _ => 0))), (z + 6, .inl (g.2.1 0, 26, .inl (fun _ => 0))), (z + 7, .inl (g.2.1 0, 27, .inl (fun _ => 0))), (z + 8, .inl (g.2.1 0, 24, .inl (fun _ => 0))), (z + 9, .inl (g.2.1 0, 240, .inl (fun _ => 0)))] (z + 10) := B
  refine lv_iconst (v := 0) hx hb dX3_init_48 (by decide) ?_
  refine lv_istore_n (lv' := [(1, .int 0), (0, .ref h0)]) hx hb dX3_init_49 rfl hl (by decide) rfl (fun ls hl => ?_)
  have B : Ld g (va_A [(h0, e3)] z) s H locs (fx3 g h0 z (nfn z 0) (fun _ => none) ++ wN z 0) (z + (10 + 0)) := by rw [show wN z 0 = [] from rfl, List.append_nil, ← nfn_0]; exact B
  exact LN 60 0 rfl H locs ls B hl
def adM (h0 z : Nat) : Nat → Nat → Nat := fun k _ => match k with
  | 0 => h0
  | 2 => z + 0
  | 3 => z + 1
  | 4 => z + 2
  | 5 => z + 3
  | 6 => z + 4
  | 7 => z + 5
  | 8 => z + 6
  | 11 => z + 7
  | 12 => z + 8
  | 13 => z + 9
  | 14 => z + 10
  | 15 => z + 11
  | 16 => z + 12
  | 19 => z + 13
  | 20 => z + 14
  | 23 => z + 15
  | 24 => z + 16
  | 25 => z + 17
  | 27 => z + 18
  | 31 => z + 19
  | _ => 0
abbrev gM (g : cx) (h0 z : Nat) : cx := (g.1, g.2.1, adM h0 z)
def M0M : mem := mup (fun _ _ _ => 0) 0 0 17 2000
set_option maxRecDepth 100000 in
set_option maxHeartbeats 4000000 in
theorem x4_to (g : cx) (h0 z : Nat) {A : Nat → Prop} {s : State} {H : Heap} {locs : List Loc} (B : Ld g A s H locs [(h0, .inr (6, [.int 0, .int 0, .ref (z), .ref (z + 1), .ref (z + 2), .ref (z + 3), .ref (z + 4), .ref (z + 5), .ref (z + 6), .int 0, .int 0, .ref (z + 7), .ref (z + 8), .ref (z + 9), .ref (z + 10), .ref (z + 11), .ref (z + 12), .int 2000, .int 0, .ref (z + 13), .ref (z + 14), .int 0, .int 0, .ref (z + 15), .ref (z + 16), .ref (z + 17), .int 0, .ref (z + 18), .int 0, .int 0, .int 0, .ref (z + 19)])), (z, .inl (g.2.1 0, 60, .inl (fun _ => 0))), (z + 1, .inl (g.2.1 0, 60, .inl (fun _ => 0))), (z + 2, .inl (g.2.1 1, 60, .inl (fun _ => 0))), (z + 3, .inl (g.2.1 0, 60, .inl (fun _ => 0))), (z + 4, .inl (g.2.1 0, 60, .inl (fun _ => 0))), (z + 5, .inl (g.2.1 0, 60, .inl (fun _ => 0))), (z + 6, .inl (g.2.1 0, 60, .inl (fun _ => 0))), (z + 7, .inl (g.2.1 0, 240, .inl (fun _ => 0))), (z + 8, .inl (g.2.1 0, 480, .inl (fun _ => 0))), (z + 9, .inl (g.2.1 0, 480, .inl (fun _ => 0))), (z + 10, .inl (g.2.1 1, 480, .inl (fun _ => 0))), (z + 11, .inl (g.2.1 0, 4, .inl (fun _ => 0))), (z + 12, .inl (g.2.1 1, 4, .inl (fun _ => 0))), (z + 13, .inl (g.2.1 0, 60, .inl (fun _ => 0))), (z + 14, .inl (g.2.1 0, 240, .inl (fun _ => 0))), (z + 15, .inl (g.2.1 0, 30, .inl (fun _ => 0))), (z + 16, .inl (g.2.1 0, 180, .inl (fun _ => 0))), (z + 17, .inl (g.2.1 0, 210, .inl (fun _ => 0))), (z + 18, .inl (g.2.1 0, 24, .inl (fun _ => 0))), (z + 19, .inl (g.2.1 0, 24, .inl (fun _ => 0)))] (z + 20)) : Wd ixM enM (gM g h0 z) M0M A s H locs := by
  obtain ⟨hK, hP, hD, hS, hN, hz, hA⟩ := B
  exact ⟨hK, hP.sub (ws' := cwG ixM enM (gM g h0 z) M0M) [0, 1, 2, 3, 4, 5, 6, 7, 8, 9, 10, 11, 12, 13, 14, 15, 16, 17, 18, 19, 20] rfl, hD.sub (ws' := cwG ixM enM (gM g h0 z) M0M) [0, 1, 2, 3, 4, 5, 6, 7, 8, 9, 10, 11, 12, 13, 14, 15, 16, 17, 18, 19, 20] (by decide) rfl, hS, hN⟩
set_option maxRecDepth 100000 in
set_option maxHeartbeats 4000000 in
theorem c_X4_init (l : Launch) (g : cx) (n h0 z : Nat) (q : mem) (h : f_X4_fresh n M0M = some q) : Met l yX4_init (wsU yX4_init cX4_init 1 none) (rmK 2 20 2876) (PcL g [(h0, .inr (6, [.int 0, .int 0, .null, .null, .null, .null, .null, .null, .null, .int 0, .int 0, .null, .null, .null, .null, .null, .null, .int 0, .int 0, .null, .null, .int 0, .int 0, .null, .null, .null, .int 0, .null, .int 0, .int 0, .int 0, .null]))] z [.ref h0]) (va_Qv (fun (_ : Unit) => True) (fun _ t => Wu ixM enM (gM g h0 z) q t) (Aw ixM (gM g h0 z) z)) 20 2876 (Aw ixM (gM g h0 z) z) := by
  refine met_introL (Aw ixM (gM g h0 z) z) (fun q h => Or.inr h) (fun k q hk => ?_) [.ref h0] RX4 rfl rfl (by decide) (Nat.le_of_ble_eq_true rfl) (fun p e s m args below meth c H locs F hr hlocks hin hsz B ls hl => ?_)
  · have hz : k < 1 := (List.getElem?_eq_some_iff.mp hk).1
    rw [show k = 0 by omega] at hk
    cases hk
    exact Or.inl ⟨0, 0, ixM_0, rfl⟩
  have hl : lv_has ls 1 [(0, .ref h0)] := hl
  have hx := F.1
  have hb := F.2.1
  refine lv_aload_n hx hb dX4_init_0 rfl (lv_at hl 0 rfl) ?_
  refine l_objInit F mO_X4 mI_obj mC_obj hl.1 dX4_init_1 (by decide) (by decide) ?_
  refine lv_aload_n hx hb dX4_init_4 rfl (lv_at hl 0 rfl) ?_
  refine lv_bipush (v := 60) hx hb dX4_init_5 (by decide) ?_
  refine l_newa F B (atype := .int) (wsU_in mA_int) 0 rfl hpI rfl (haI 60) (by decide) rfl (by decide) (by decide) (by decide) dX4_init_7 (fun H B => ?_)
  have B : Ld g (Aw ixM (gM g h0 z) z) s H locs [(h0, .inr (6, [.int 0, .int 0, .null, .null, .null, .null, .null, .null, .null, .int 0, .int 0, .null, .null, .null, .null, .null, .null, .int 0, .int 0, .null, .null, .int 0, .int 0, .null, .null, .null, .int 0, .null, .int 0, .int 0, .int 0, .null])), (z, .inl (g.2.1 0, 60, .inl (fun _ => 0)))] (z + 1) := B
  refine l_putF F hin B (fun w h => wsU_in (inGX4 w h)) tyX4 tyX4_ok nmX4 0 rfl rfl 2 (by decide) (wsU_in mF_X4_52) rfl rfl rfl rfl (Nat.le_of_ble_eq_true rfl) dX4_init_9 (fun H locs B => ?_)
  have B : Ld g (Aw ixM (gM g h0 z) z) s H locs [(h0, .inr (6, [.int 0, .int 0, .ref (z), .null, .null, .null, .null, .null, .null, .int 0, .int 0, .null, .null, .null, .null, .null, .null, .int 0, .int 0, .null, .null, .int 0, .int 0, .null, .null, .null, .int 0, .null, .int 0, .int 0, .int 0, .null])), (z, .inl (g.2.1 0, 60, .inl (fun _ => 0)))] (z + 1) := B
  refine lv_aload_n hx hb dX4_init_12 rfl (lv_at hl 0 rfl) ?_
  refine lv_bipush (v := 60) hx hb dX4_init_13 (by decide) ?_
  refine l_newa F B (atype := .int) (wsU_in mA_int) 0 rfl hpI rfl (haI 60) (by decide) rfl (by decide) (by decide) (by decide) dX4_init_15 (fun H B => ?_)
  have B : Ld g (Aw ixM (gM g h0 z) z) s H locs [(h0, .inr (6, [.int 0, .int 0, .ref (z), .null, .null, .null, .null, .null, .null, .int 0, .int 0, .null, .null, .null, .null, .null, .null, .int 0, .int 0, .null, .null, .int 0, .int 0, .null, .null, .null, .int 0, .null, .int 0, .int 0, .int 0, .null])), (z, .inl (g.2.1 0, 60, .inl (fun _ => 0))), (z + 1, .inl (g.2.1 0, 60, .inl (fun _ => 0)))] (z + 2) := B
  refine l_putF F hin B (fun w h => wsU_in (inGX4 w h)) tyX4 tyX4_ok nmX4 0 rfl rfl 3 (by decide) (wsU_in mF_X4_55) rfl rfl rfl rfl (Nat.le_of_ble_eq_true rfl) dX4_init_17 (fun H locs B => ?_)
  have B : Ld g (Aw ixM (gM g h0 z) z) s H locs [(h0, .inr (6, [.int 0, .int 0, .ref (z), .ref (z + 1), .null, .null, .null, .null, .null, .int 0, .int 0, .null, .null, .null, .null, .null, .null, .int 0, .int 0, .null, .null, .int 0, .int 0, .null, .null, .null, .int 0, .null, .int 0, .int 0, .int 0, .null])), (z, .inl (g.2.1 0, 60, .inl (fun _ => 0))), (z + 1, .inl (g.2.1 0, 60, .inl (fun _ => 0)))] (z + 2) := B
  refine lv_aload_n hx hb dX4_init_20 rfl (lv_at hl 0 rfl) ?_
  refine lv_bipush (v := 60) hx hb dX4_init_21 (by decide) ?_
  refine l_newa F B (atype := .boolean) (wsU_in mA_bool) 1 rfl hpZ rfl (haZ 60) (by decide) rfl (by decide) (by decide) (by decide) dX4_init_23 (fun H B => ?_)
  have B : Ld g (Aw ixM (gM g h0 z) z) s H locs [(h0, .inr (6, [.int 0, .int 0, .ref (z), .ref (z + 1), .null, .null, .null, .null, .null, .int 0, .int 0, .null, .null, .null, .null, .null, .null, .int 0, .int 0, .null, .null, .int 0, .int 0, .null, .null, .null, .int 0, .null, .int 0, .int 0, .int 0, .null])), (z, .inl (g.2.1 0, 60, .inl (fun _ => 0))), (z + 1, .inl (g.2.1 0, 60, .inl (fun _ => 0))), (z + 2, .inl (g.2.1 1, 60, .inl (fun _ => 0)))] (z + 3) := B
  refine l_putF F hin B (fun w h => wsU_in (inGX4 w h)) tyX4 tyX4_ok nmX4 0 rfl rfl 4 (by decide) (wsU_in mF_X4_58) rfl rfl rfl rfl (Nat.le_of_ble_eq_true rfl) dX4_init_25 (fun H locs B => ?_)
  have B : Ld g (Aw ixM (gM g h0 z) z) s H locs [(h0, .inr (6, [.int 0, .int 0, .ref (z), .ref (z + 1), .ref (z + 2), .null, .null, .null, .null, .int 0, .int 0, .null, .null, .null, .null, .null, .null, .int 0, .int 0, .null, .null, .int 0, .int 0, .null, .null, .null, .int 0, .null, .int 0, .int 0, .int 0, .null])), (z, .inl (g.2.1 0, 60, .inl (fun _ => 0))), (z + 1, .inl (g.2.1 0, 60, .inl (fun _ => 0))), (z + 2, .inl (g.2.1 1, 60, .inl (fun _ => 0)))] (z + 3) := B
  refine lv_aload_n hx hb dX4_init_28 rfl (lv_at hl 0 rfl) ?_
  refine lv_bipush (v := 60) hx hb dX4_init_29 (by decide) ?_
  refine l_newa F B (atype := .int) (wsU_in mA_int) 0 rfl hpI rfl (haI 60) (by decide) rfl (by decide) (by decide) (by decide) dX4_init_31 (fun H B => ?_)
  have B : Ld g (Aw ixM (gM g h0 z) z) s H locs [(h0, .inr (6, [.int 0, .int 0, .ref (z), .ref (z + 1), .ref (z + 2), .null, .null, .null, .null, .int 0, .int 0, .null, .null, .null, .null, .null, .null, .int 0, .int 0, .null, .null, .int 0, .int 0, .null, .null, .null, .int 0, .null, .int 0, .int 0, .int 0, .null])), (z, .inl (g.2.1 0, 60, .inl (fun _ => 0))), (z + 1, .inl (g.2.1 0, 60, .inl (fun _ => 0))), (z + 2, .inl (g.2.1 1, 60, .inl (fun _ => 0))), (z + 3, .inl (g.2.1 0, 60, .inl (fun _ => 0)))] (z + 4) := B
  refine l_putF F hin B (fun w h => wsU_in (inGX4 w h)) tyX4 tyX4_ok nmX4 0 rfl rfl 5 (by decide) (wsU_in mF_X4_61) rfl rfl rfl rfl (Nat.le_of_ble_eq_true rfl) dX4_init_33 (fun H locs B => ?_)
  have B : Ld g (Aw ixM (gM g h0 z) z) s H locs [(h0, .inr (6, [.int 0, .int 0, .ref (z), .ref (z + 1), .ref (z + 2), .ref (z + 3), .null, .null, .null, .int 0, .int 0, .null, .null, .null, .null, .null, .null, .int 0, .int 0, .null, .null, .int 0, .int 0, .null, .null, .null, .int 0, .null, .int 0, .int 0, .int 0, .null])), (z, .inl (g.2.1 0, 60, .inl (fun _ => 0))), (z + 1, .inl (g.2.1 0, 60, .inl (fun _ => 0))), (z + 2, .inl (g.2.1 1, 60, .inl (fun _ => 0))), (z + 3, .inl (g.2.1 0, 60, .inl (fun _ => 0)))] (z + 4) := B
  refine lv_aload_n hx hb dX4_init_36 rfl (lv_at hl 0 rfl) ?_
  refine lv_bipush (v := 60) hx hb dX4_init_37 (by decide) ?_
  refine l_newa F B (atype := .int) (wsU_in mA_int) 0 rfl hpI rfl (haI 60) (by decide) rfl (by decide) (by decide) (by decide) dX4_init_39 (fun H B => ?_)
  have B : Ld g (Aw ixM (gM g h0 z) z) s H locs [(h0, .inr (6, [.int 0, .int 0, .ref (z), .ref (z + 1), .ref (z + 2), .ref (z + 3), .null, .null, .null, .int 0, .int 0, .null, .null, .null, .null, .null, .null, .int 0, .int 0, .null, .null, .int 0, .int 0, .null, .null, .null, .int 0, .null, .int 0, .int 0, .int 0, .null])), (z, .inl (g.2.1 0, 60, .inl (fun _ => 0))), (z + 1, .inl (g.2.1 0, 60, .inl (fun _ => 0))), (z + 2, .inl (g.2.1 1, 60, .inl (fun _ => 0))), (z + 3, .inl (g.2.1 0, 60, .inl (fun _ => 0))), (z + 4, .inl (g.2.1 0, 60, .inl (fun _ => 0)))] (z + 5) := B
  refine l_putF F hin B (fun w h => wsU_in (inGX4 w h)) tyX4 tyX4_ok nmX4 0 rfl rfl 6 (by decide) (wsU_in mF_X4_64) rfl rfl rfl rfl (Nat.le_of_ble_eq_true rfl) dX4_init_41 (fun H locs B => ?_)
  have B : Ld g (Aw ixM (gM g h0 z) z) s H locs [(h0, .inr (6, [.int 0, .int 0, .ref (z), .ref (z + 1), .ref (z + 2), .ref (z + 3), .ref (z + 4), .null, .null, .int 0, .int 0, .null, .null, .null, .null, .null, .null, .int 0, .int 0, .null, .null, .int 0, .int 0, .null, .null, .null, .int 0, .null, .int 0, .int 0, .int 0, .null])), (z, .inl (g.2.1 0, 60, .inl (fun _ => 0))), (z + 1, .inl (g.2.1 0, 60, .inl (fun _ => 0))), (z + 2, .inl (g.2.1 1, 60, .inl (fun _ => 0))), (z + 3, .inl (g.2.1 0, 60, .inl (fun _ => 0))), (z + 4, .inl (g.2.1 0, 60, .inl (fun _ => 0)))] (z + 5) := B
  refine lv_aload_n hx hb dX4_init_44 rfl (lv_at hl 0 rfl) ?_
  refine lv_bipush (v := 60) hx hb dX4_init_45 (by decide) ?_
  refine l_newa F B (atype := .int) (wsU_in mA_int) 0 rfl hpI rfl (haI 60) (by decide) rfl (by decide) (by decide) (by decide) dX4_init_47 (fun H B => ?_)
  have B : Ld g (Aw ixM (gM g h0 z) z) s H locs [(h0, .inr (6, [.int 0, .int 0, .ref (z), .ref (z + 1), .ref (z + 2), .ref (z + 3), .ref (z + 4), .null, .null, .int 0, .int 0, .null, .null, .null, .null, .null, .null, .int 0, .int 0, .null, .null, .int 0, .int 0, .null, .null, .null, .int 0, .null, .int 0, .int 0, .int 0, .null])), (z, .inl (g.2.1 0, 60, .inl (fun _ => 0))), (z + 1, .inl (g.2.1 0, 60, .inl (fun _ => 0))), (z + 2, .inl (g.2.1 1, 60, .inl (fun _ => 0))), (z + 3, .inl (g.2.1 0, 60, .inl (fun _ => 0))), (z + 4, .inl (g.2.1 0, 60, .inl (fun _ => 0))), (z + 5, .inl (g.2.1 0, 60, .inl (fun _ => 0)))] (z + 6) := B
  refine l_putF F hin B (fun w h => wsU_in (inGX4 w h)) tyX4 tyX4_ok nmX4 0 rfl rfl 7 (by decide) (wsU_in mF_X4_67) rfl rfl rfl rfl (Nat.le_of_ble_eq_true rfl) dX4_init_49 (fun H locs B => ?_)
  have B : Ld g (Aw ixM (gM g h0 z) z) s H locs [(h0, .inr (6, [.int 0, .int 0, .ref (z), .ref (z + 1), .ref (z + 2), .ref (z + 3), .ref (z + 4), .ref (z + 5), .null, .int 0, .int 0, .null, .null, .null, .null, .null, .null, .int 0, .int 0, .null, .null, .int 0, .int 0, .null, .null, .null, .int 0, .null, .int 0, .int 0, .int 0, .null])), (z, .inl (g.2.1 0, 60, .inl (fun _ => 0))), (z + 1, .inl (g.2.1 0, 60, .inl (fun _ => 0))), (z + 2, .inl (g.2.1 1, 60, .inl (fun _ => 0))), (z + 3, .inl (g.2.1 0, 60, .inl (fun _ => 0))), (z + 4, .inl (g.2.1 0, 60, .inl (fun _ => 0))), (z + 5, .inl (g.2.1 0, 60, .inl (fun _ => 0)))] (z + 6) := B
  refine lv_aload_n hx hb dX4_init_52 rfl (lv_at hl 0 rfl) ?_
  refine lv_bipush (v := 60) hx hb dX4_init_53 (by decide) ?_
  refine l_newa F B (atype := .int) (wsU_in mA_int) 0 rfl hpI rfl (haI 60) (by decide) rfl (by decide) (by decide) (by decide) dX4_init_55 (fun H B => ?_)
  have B : Ld g (Aw ixM (gM g h0 z) z) s H locs [(h0, .inr (6, [.int 0, .int 0, .ref (z), .ref (z + 1), .ref (z + 2), .ref (z + 3), .ref (z + 4), .ref (z + 5), .null, .int 0, .int 0, .null, .null, .null, .null, .null, .null, .int 0, .int 0, .null, .null, .int 0, .int 0, .null, .null, .null, .int 0, .null, .int 0, .int 0, .int 0, .null])), (z, .inl (g.2.1 0, 60, .inl (fun _ => 0))), (z + 1, .inl (g.2.1 0, 60, .inl (fun _ => 0))), (z + 2, .inl (g.2.1 1, 60, .inl (fun _ => 0))), (z + 3, .inl (g.2.1 0, 60, .inl (fun _ => 0))), (z + 4, .inl (g.2.1 0, 60, .inl (fun _ => 0))), (z + 5, .inl (g.2.1 0, 60, .inl (fun _ => 0))), (z + 6, .inl (g.2.1 0, 60, .inl (fun _ => 0)))] (z + 7) := B
  refine l_putF F hin B (fun w h => wsU_in (inGX4 w h)) tyX4 tyX4_ok nmX4 0 rfl rfl 8 (by decide) (wsU_in mF_X4_70) rfl rfl rfl rfl (Nat.le_of_ble_eq_true rfl) dX4_init_57 (fun H locs B => ?_)
  have B : Ld g (Aw ixM (gM g h0 z) z) s H locs [(h0, .inr (6, [.int 0, .int 0, .ref (z), .ref (z + 1), .ref (z + 2), .ref (z + 3), .ref (z + 4), .ref (z + 5), .ref (z + 6), .int 0, .int 0, .null, .null, .null, .null, .null, .null, .int 0, .int 0, .null, .null, .int 0, .int 0, .null, .null, .null, .int 0, .null, .int 0, .int 0, .int 0, .null])), (z, .inl (g.2.1 0, 60, .inl (fun _ => 0))), (z + 1, .inl (g.2.1 0, 60, .inl (fun _ => 0))), (z + 2, .inl (g.2.1 1, 60, .inl (fun _ => 0))), (z + 3, .inl (g.2.1 0, 60, .inl (fun _ => 0))), (z + 4, .inl (g.2.1 0, 60, .inl (fun _ => 0))), (z + 5, .inl (g.2.1 0, 60, .inl (fun _ => 0))), (z + 6, .inl (g.2.1 0, 60, .inl (fun _ => 0)))] (z + 7) := B
  refine lv_aload_n hx hb dX4_init_60 rfl (lv_at hl 0 rfl) ?_
  refine lv_sipush (v := 240) hx hb dX4_init_61 (by decide) ?_
  refine l_newa F B (atype := .int) (wsU_in mA_int) 0 rfl hpI rfl (haI 240) (by decide) rfl (by decide) (by decide) (by decide) dX4_init_64 (fun H B => ?_)
  have B : Ld g (Aw ixM (gM g h0 z) z) s H locs [(h0, .inr (6, [.int 0, .int 0, .ref (z), .ref (z + 1), .ref (z + 2), .ref (z + 3), .ref (z + 4), .ref (z + 5), .ref (z + 6), .int 0, .int 0, .null, .null, .null, .null, .null, .null, .int 0, .int 0, .null, .null, .int 0, .int 0, .null, .null, .null, .int 0, .null, .int 0, .int 0, .int 0, .null])), (z, .inl (g.2.1 0, 60, .inl (fun _ => 0))), (z + 1, .inl (g.2.1 0, 60, .inl (fun _ => 0))), (z + 2, .inl (g.2.1 1, 60, .inl (fun _ => 0))), (z + 3, .inl (g.2.1 0, 60, .inl (fun _ => 0))), (z + 4, .inl (g.2.1 0, 60, .inl (fun _ => 0))), (z + 5, .inl (g.2.1 0, 60, .inl (fun _ => 0))), (z + 6, .inl (g.2.1 0, 60, .inl (fun _ => 0))), (z + 7, .inl (g.2.1 0, 240, .inl (fun _ => 0)))] (z + 8) := B
  refine l_putF F hin B (fun w h => wsU_in (inGX4 w h)) tyX4 tyX4_ok nmX4 0 rfl rfl 11 (by decide) (wsU_in mF_X4_73) rfl rfl rfl rfl (Nat.le_of_ble_eq_true rfl) dX4_init_66 (fun H locs B => ?_)
  have B : Ld g (Aw ixM (gM g h0 z) z) s H locs [(h0, .inr (6, [.int 0, .int 0, .ref (z), .ref (z + 1), .ref (z + 2), .ref (z + 3), .ref (z + 4), .ref (z + 5), .ref (z + 6), .int 0, .int 0, .ref (z + 7), .null, .null, .null, .null, .null, .int 0, .int 0, .null, .null, .int 0, .int 0, .null, .null, .null, .int 0, .null, .int 0, .int 0, .int 0, .null])), (z, .inl (g.2.1 0, 60, .inl (fun _ => 0))), (z + 1, .inl (g.2.1 0, 60, .inl (fun _ => 0))), (z + 2, .inl (g.2.1 1, 60, .inl (fun _ => 0))), (z + 3, .inl (g.2.1 0, 60, .inl (fun _ => 0))), (z + 4, .inl (g.2.1 0, 60, .inl (fun _ => 0))), (z + 5, .inl (g.2.1 0, 60, .inl (fun _ => 0))), (z + 6, .inl (g.2.1 0, 60, .inl (fun _ => 0))), (z + 7, .inl (g.2.1 0, 240, .inl (fun _ => 0)))] (z + 8) := B
  refine lv_aload_n hx hb dX4_init_69 rfl (lv_at hl 0 rfl) ?_
  refine lv_sipush (v := 480) hx hb dX4_init_70 (by decide) ?_
  refine l_newa F B (atype := .int) (wsU_in mA_int) 0 rfl hpI rfl (haI 480) (by decide) rfl (by decide) (by decide) (by decide) dX4_init_73 (fun H B => ?_)
  have B : Ld g (Aw ixM (gM g h0 z) z) s H locs [(h0, .inr (6, [.int 0, .int 0, .ref (z), .ref (z + 1), .ref (z + 2), .ref (z + 3), .ref (z + 4), .ref (z + 5), .ref (z + 6), .int 0, .int 0, .ref (z + 7), .null, .null, .null, .null, .null, .int 0, .int 0, .null, .null, .int 0, .int 0, .null, .null, .null, .int 0, .null, .int 0, .int 0, .int 0, .null])), (z, .inl (g.2.1 0, 60, .inl (fun _ => 0))), (z + 1, .inl (g.2.1 0, 60, .inl (fun _ => 0))), (z + 2, .inl (g.2.1 1, 60, .inl (fun _ => 0))), (z + 3, .inl (g.2.1 0, 60, .inl (fun _ => 0))), (z + 4, .inl (g.2.1 0, 60, .inl (fun _ => 0))), (z + 5, .inl (g.2.1 0, 60, .inl (fun _ => 0))), (z + 6, .inl (g.2.1 0, 60, .inl (fun _ => 0))), (z + 7, .inl (g.2.1 0, 240, .inl (fun _ => 0))), (z + 8, .inl (g.2.1 0, 480, .inl (fun _ => 0)))] (z + 9) := B
  refine l_putF F hin B (fun w h => wsU_in (inGX4 w h)) tyX4 tyX4_ok nmX4 0 rfl rfl 12 (by decide) (wsU_in mF_X4_76) rfl rfl rfl rfl (Nat.le_of_ble_eq_true rfl) dX4_init_75 (fun H locs B => ?_)
  have B : Ld g (Aw ixM (gM g h0 z) z) s H locs [(h0, .inr (6, [.int 0, .int 0, .ref (z), .ref (z + 1), .ref (z + 2), .ref (z + 3), .ref (z + 4), .ref (z + 5), .ref (z + 6), .int 0, .int 0, .ref (z + 7), .ref (z + 8), .null, .null, .null, .null, .int 0, .int 0, .null, .null, .int 0, .int 0, .null, .null, .null, .int 0, .null, .int 0, .int 0, .int 0, .null])), (z, .inl (g.2.1 0, 60, .inl (fun _ => 0))), (z + 1, .inl (g.2.1 0, 60, .inl (fun _ => 0))), (z + 2, .inl (g.2.1 1, 60, .inl (fun _ => 0))), (z + 3, .inl (g.2.1 0, 60, .inl (fun _ => 0))), (z + 4, .inl (g.2.1 0, 60, .inl (fun _ => 0))), (z + 5, .inl (g.2.1 0, 60, .inl (fun _ => 0))), (z + 6, .inl (g.2.1 0, 60, .inl (fun _ => 0))), (z + 7, .inl (g.2.1 0, 240, .inl (fun _ => 0))), (z + 8, .inl (g.2.1 0, 480, .inl (fun _ => 0)))] (z + 9) := B
  refine lv_aload_n hx hb dX4_init_78 rfl (lv_at hl 0 rfl) ?_
  refine lv_sipush (v := 480) hx hb dX4_init_79 (by decide) ?_
  refine l_newa F B (atype := .int) (wsU_in mA_int) 0 rfl hpI rfl (haI 480) (by decide) rfl (by decide) (by decide) (by decide) dX4_init_82 (fun H B => ?_)
  have B : Ld g (Aw ixM (gM g h0 z) z) s H locs [(h0, .inr (6, [.int 0, .int 0, .ref (z), .ref (z + 1), .ref (z + 2), .ref (z + 3), .ref (z + 4), .ref (z + 5), .ref (z + 6), .int 0, .int 0, .ref (z + 7), .ref (z + 8), .null, .null, .null, .null, .int 0, .int 0, .null, .null, .int 0, .int 0, .null, .null, .null, .int 0, .null, .int 0, .int 0, .int 0, .null])), (z, .inl (g.2.1 0, 60, .inl (fun _ => 0))), (z + 1, .inl (g.2.1 0, 60, .inl (fun _ => 0))), (z + 2, .inl (g.2.1 1, 60, .inl (fun _ => 0))), (z + 3, .inl (g.2.1 0, 60, .inl (fun _ => 0))), (z + 4, .inl (g.2.1 0, 60, .inl (fun _ => 0))), (z + 5, .inl (g.2.1 0, 60, .inl (fun _ => 0))), (z + 6, .inl (g.2.1 0, 60, .inl (fun _ => 0))), (z + 7, .inl (g.2.1 0, 240, .inl (fun _ => 0))), (z + 8, .inl (g.2.1 0, 480, .inl (fun _ => 0))), (z + 9, .inl (g.2.1 0, 480, .inl (fun _ => 0)))] (z + 10) := B
  refine l_putF F hin B (fun w h => wsU_in (inGX4 w h)) tyX4 tyX4_ok nmX4 0 rfl rfl 13 (by decide) (wsU_in mF_X4_79) rfl rfl rfl rfl (Nat.le_of_ble_eq_true rfl) dX4_init_84 (fun H locs B => ?_)
  have B : Ld g (Aw ixM (gM g h0 z) z) s H locs [(h0, .inr (6, [.int 0, .int 0, .ref (z), .ref (z + 1), .ref (z + 2), .ref (z + 3), .ref (z + 4), .ref (z + 5), .ref (z + 6), .int 0, .int 0, .ref (z + 7), .ref (z + 8), .ref (z + 9), .null, .null, .null, .int 0, .int 0, .null, .null, .int 0, .int 0, .null, .null, .null, .int 0, .null, .int 0, .int 0, .int 0, .null])), (z, .inl (g.2.1 0, 60, .inl (fun _ => 0))), (z + 1, .inl (g.2.1 0, 60, .inl (fun _ => 0))), (z + 2, .inl (g.2.1 1, 60, .inl (fun _ => 0))), (z + 3, .inl (g.2.1 0, 60, .inl (fun _ => 0))), (z + 4, .inl (g.2.1 0, 60, .inl (fun _ => 0))), (z + 5, .inl (g.2.1 0, 60, .inl (fun _ => 0))), (z + 6, .inl (g.2.1 0, 60, .inl (fun _ => 0))), (z + 7, .inl (g.2.1 0, 240, .inl (fun _ => 0))), (z + 8, .inl (g.2.1 0, 480, .inl (fun _ => 0))), (z + 9, .inl (g.2.1 0, 480, .inl (fun _ => 0)))] (z + 10) := B
  refine lv_aload_n hx hb dX4_init_87 rfl (lv_at hl 0 rfl) ?_
  refine lv_sipush (v := 480) hx hb dX4_init_88 (by decide) ?_
  refine l_newa F B (atype := .boolean) (wsU_in mA_bool) 1 rfl hpZ rfl (haZ 480) (by decide) rfl (by decide) (by decide) (by decide) dX4_init_91 (fun H B => ?_)
  have B : Ld g (Aw ixM (gM g h0 z) z) s H locs [(h0, .inr (6, [.int 0, .int 0, .ref (z), .ref (z + 1), .ref (z + 2), .ref (z + 3), .ref (z + 4), .ref (z + 5), .ref (z + 6), .int 0, .int 0, .ref (z + 7), .ref (z + 8), .ref (z + 9), .null, .null, .null, .int 0, .int 0, .null, .null, .int 0, .int 0, .null, .null, .null, .int 0, .null, .int 0, .int 0, .int 0, .null])), (z, .inl (g.2.1 0, 60, .inl (fun _ => 0))), (z + 1, .inl (g.2.1 0, 60, .inl (fun _ => 0))), (z + 2, .inl (g.2.1 1, 60, .inl (fun _ => 0))), (z + 3, .inl (g.2.1 0, 60, .inl (fun _ => 0))), (z + 4, .inl (g.2.1 0, 60, .inl (fun _ => 0))), (z + 5, .inl (g.2.1 0, 60, .inl (fun _ => 0))), (z + 6, .inl (g.2.1 0, 60, .inl (fun _ => 0))), (z + 7, .inl (g.2.1 0, 240, .inl (fun _ => 0))), (z + 8, .inl (g.2.1 0, 480, .inl (fun _ => 0))), (z + 9, .inl (g.2.1 0, 480, .inl (fun _ => 0))), (z + 10, .inl (g.2.1 1, 480, .inl (fun _ => 0)))] (z + 11) := B
  refine l_putF F hin B (fun w h => wsU_in (inGX4 w h)) tyX4 tyX4_ok nmX4 0 rfl rfl 14 (by decide) (wsU_in mF_X4_82) rfl rfl rfl rfl (Nat.le_of_ble_eq_true rfl) dX4_init_93 (fun H locs B => ?_)
  have B : Ld g (Aw ixM (gM g h0 z) z) s H locs [(h0, .inr (6, [.int 0, .int 0, .ref (z), .ref (z + 1), .ref (z + 2), .ref (z + 3), .ref (z + 4), .ref (z + 5), .ref (z + 6), .int 0, .int 0, .ref (z + 7), .ref (z + 8), .ref (z + 9), .ref (z + 10), .null, .null, .int 0, .int 0, .null, .null, .int 0, .int 0, .null, .null, .null, .int 0, .null, .int 0, .int 0, .int 0, .null])), (z, .inl (g.2.1 0, 60, .inl (fun _ => 0))), (z + 1, .inl (g.2.1 0, 60, .inl (fun _ => 0))), (z + 2, .inl (g.2.1 1, 60, .inl (fun _ => 0))), (z + 3, .inl (g.2.1 0, 60, .inl (fun _ => 0))), (z + 4, .inl (g.2.1 0, 60, .inl (fun _ => 0))), (z + 5, .inl (g.2.1 0, 60, .inl (fun _ => 0))), (z + 6, .inl (g.2.1 0, 60, .inl (fun _ => 0))), (z + 7, .inl (g.2.1 0, 240, .inl (fun _ => 0))), (z + 8, .inl (g.2.1 0, 480, .inl (fun _ => 0))), (z + 9, .inl (g.2.1 0, 480, .inl (fun _ => 0))), (z + 10, .inl (g.2.1 1, 480, .inl (fun _ => 0)))] (z + 11) := B
  refine lv_aload_n hx hb dX4_init_96 rfl (lv_at hl 0 rfl) ?_
  refine lv_iconst (v := 4) hx hb dX4_init_97 (by decide) ?_
  refine l_newa F B (atype := .int) (wsU_in mA_int) 0 rfl hpI rfl (haI 4) (by decide) rfl (by decide) (by decide) (by decide) dX4_init_98 (fun H B => ?_)
  have B : Ld g (Aw ixM (gM g h0 z) z) s H locs [(h0, .inr (6, [.int 0, .int 0, .ref (z), .ref (z + 1), .ref (z + 2), .ref (z + 3), .ref (z + 4), .ref (z + 5), .ref (z + 6), .int 0, .int 0, .ref (z + 7), .ref (z + 8), .ref (z + 9), .ref (z + 10), .null, .null, .int 0, .int 0, .null, .null, .int 0, .int 0, .null, .null, .null, .int 0, .null, .int 0, .int 0, .int 0, .null])), (z, .inl (g.2.1 0, 60, .inl (fun _ => 0))), (z + 1, .inl (g.2.1 0, 60, .inl (fun _ => 0))), (z + 2, .inl (g.2.1 1, 60, .inl (fun _ => 0))), (z + 3, .inl (g.2.1 0, 60, .inl (fun _ => 0))), (z + 4, .inl (g.2.1 0, 60, .inl (fun _ => 0))), (z + 5, .inl (g.2.1 0, 60, .inl (fun _ => 0))), (z + 6, .inl (g.2.1 0, 60, .inl (fun _ => 0))), (z + 7, .inl (g.2.1 0, 240, .inl (fun _ => 0))), (z + 8, .inl (g.2.1 0, 480, .inl (fun _ => 0))), (z + 9, .inl (g.2.1 0, 480, .inl (fun _ => 0))), (z + 10, .inl (g.2.1 1, 480, .inl (fun _ => 0))), (z + 11, .inl (g.2.1 0, 4, .inl (fun _ => 0)))] (z + 12) := B
  refine l_putF F hin B (fun w h => wsU_in (inGX4 w h)) tyX4 tyX4_ok nmX4 0 rfl rfl 15 (by decide) (wsU_in mF_X4_38) rfl rfl rfl rfl (Nat.le_of_ble_eq_true rfl) dX4_init_100 (fun H locs B => ?_)
  have B : Ld g (Aw ixM (gM g h0 z) z) s H locs [(h0, .inr (6, [.int 0, .int 0, .ref (z), .ref (z + 1), .ref (z + 2), .ref (z + 3), .ref (z + 4), .ref (z + 5), .ref (z + 6), .int 0, .int 0, .ref (z + 7), .ref (z + 8), .ref (z + 9), .ref (z + 10), .ref (z + 11), .null, .int 0, .int 0, .null, .null, .int 0, .int 0, .null, .null, .null, .int 0, .null, .int 0, .int 0, .int 0, .null])), (z, .inl (g.2.1 0, 60, .inl (fun _ => 0))), (z + 1, .inl (g.2.1 0, 60, .inl (fun _ => 0))), (z + 2, .inl (g.2.1 1, 60, .inl (fun _ => 0))), (z + 3, .inl (g.2.1 0, 60, .inl (fun _ => 0))), (z + 4, .inl (g.2.1 0, 60, .inl (fun _ => 0))), (z + 5, .inl (g.2.1 0, 60, .inl (fun _ => 0))), (z + 6, .inl (g.2.1 0, 60, .inl (fun _ => 0))), (z + 7, .inl (g.2.1 0, 240, .inl (fun _ => 0))), (z + 8, .inl (g.2.1 0, 480, .inl (fun _ => 0))), (z + 9, .inl (g.2.1 0, 480, .inl (fun _ => 0))), (z + 10, .inl (g.2.1 1, 480, .inl (fun _ => 0))), (z + 11, .inl (g.2.1 0, 4, .inl (fun _ => 0)))] (z + 12) := B
  refine lv_aload_n hx hb dX4_init_103 rfl (lv_at hl 0 rfl) ?_
  refine lv_iconst (v := 4) hx hb dX4_init_104 (by decide) ?_
  refine l_newa F B (atype := .boolean) (wsU_in mA_bool) 1 rfl hpZ rfl (haZ 4) (by decide) rfl (by decide) (by decide) (by decide) dX4_init_105 (fun H B => ?_)
  have B : Ld g (Aw ixM (gM g h0 z) z) s H locs [(h0, .inr (6, [.int 0, .int 0, .ref (z), .ref (z + 1), .ref (z + 2), .ref (z + 3), .ref (z + 4), .ref (z + 5), .ref (z + 6), .int 0, .int 0, .ref (z + 7), .ref (z + 8), .ref (z + 9), .ref (z + 10), .ref (z + 11), .null, .int 0, .int 0, .null, .null, .int 0, .int 0, .null, .null, .null, .int 0, .null, .int 0, .int 0, .int 0, .null])), (z, .inl (g.2.1 0, 60, .inl (fun _ => 0))), (z + 1, .inl (g.2.1 0, 60, .inl (fun _ => 0))), (z + 2, .inl (g.2.1 1, 60, .inl (fun _ => 0))), (z + 3, .inl (g.2.1 0, 60, .inl (fun _ => 0))), (z + 4, .inl (g.2.1 0, 60, .inl (fun _ => 0))), (z + 5, .inl (g.2.1 0, 60, .inl (fun _ => 0))), (z + 6, .inl (g.2.1 0, 60, .inl (fun _ => 0))), (z + 7, .inl (g.2.1 0, 240, .inl (fun _ => 0))), (z + 8, .inl (g.2.1 0, 480, .inl (fun _ => 0))), (z + 9, .inl (g.2.1 0, 480, .inl (fun _ => 0))), (z + 10, .inl (g.2.1 1, 480, .inl (fun _ => 0))), (z + 11, .inl (g.2.1 0, 4, .inl (fun _ => 0))), (z + 12, .inl (g.2.1 1, 4, .inl (fun _ => 0)))] (z + 13) := B
  refine l_putF F hin B (fun w h => wsU_in (inGX4 w h)) tyX4 tyX4_ok nmX4 0 rfl rfl 16 (by decide) (wsU_in mF_X4_42) rfl rfl rfl rfl (Nat.le_of_ble_eq_true rfl) dX4_init_107 (fun H locs B => ?_)
  have B : Ld g (Aw ixM (gM g h0 z) z) s H locs [(h0, .inr (6, [.int 0, .int 0, .ref (z), .ref (z + 1), .ref (z + 2), .ref (z + 3), .ref (z + 4), .ref (z + 5), .ref (z + 6), .int 0, .int 0, .ref (z + 7), .ref (z + 8), .ref (z + 9), .ref (z + 10), .ref (z + 11), .ref (z + 12), .int 0, .int 0, .null, .null, .int 0, .int 0, .null, .null, .null, .int 0, .null, .int 0, .int 0, .int 0, .null])), (z, .inl (g.2.1 0, 60, .inl (fun _ => 0))), (z + 1, .inl (g.2.1 0, 60, .inl (fun _ => 0))), (z + 2, .inl (g.2.1 1, 60, .inl (fun _ => 0))), (z + 3, .inl (g.2.1 0, 60, .inl (fun _ => 0))), (z + 4, .inl (g.2.1 0, 60, .inl (fun _ => 0))), (z + 5, .inl (g.2.1 0, 60, .inl (fun _ => 0))), (z + 6, .inl (g.2.1 0, 60, .inl (fun _ => 0))), (z + 7, .inl (g.2.1 0, 240, .inl (fun _ => 0))), (z + 8, .inl (g.2.1 0, 480, .inl (fun _ => 0))), (z + 9, .inl (g.2.1 0, 480, .inl (fun _ => 0))), (z + 10, .inl (g.2.1 1, 480, .inl (fun _ => 0))), (z + 11, .inl (g.2.1 0, 4, .inl (fun _ => 0))), (z + 12, .inl (g.2.1 1, 4, .inl (fun _ => 0)))] (z + 13) := B
  refine lv_aload_n hx hb dX4_init_110 rfl (lv_at hl 0 rfl) ?_
  refine lv_sipush (v := 2000) hx hb dX4_init_111 (by decide) ?_
  refine l_put F B (fun w h => wsU_in (inGX4 w h)) tyX4 tyX4_ok nmX4 0 rfl rfl 17 (by decide) (wsU_in mF_X4_16) rfl rfl rfl (Nat.le_of_ble_eq_true rfl) dX4_init_114 (fun H locs B => ?_)
  have B : Ld g (Aw ixM (gM g h0 z) z) s H locs [(h0, .inr (6, [.int 0, .int 0, .ref (z), .ref (z + 1), .ref (z + 2), .ref (z + 3), .ref (z + 4), .ref (z + 5), .ref (z + 6), .int 0, .int 0, .ref (z + 7), .ref (z + 8), .ref (z + 9), .ref (z + 10), .ref (z + 11), .ref (z + 12), .int 2000, .int 0, .null, .null, .int 0, .int 0, .null, .null, .null, .int 0, .null, .int 0, .int 0, .int 0, .null])), (z, .inl (g.2.1 0, 60, .inl (fun _ => 0))), (z + 1, .inl (g.2.1 0, 60, .inl (fun _ => 0))), (z + 2, .inl (g.2.1 1, 60, .inl (fun _ => 0))), (z + 3, .inl (g.2.1 0, 60, .inl (fun _ => 0))), (z + 4, .inl (g.2.1 0, 60, .inl (fun _ => 0))), (z + 5, .inl (g.2.1 0, 60, .inl (fun _ => 0))), (z + 6, .inl (g.2.1 0, 60, .inl (fun _ => 0))), (z + 7, .inl (g.2.1 0, 240, .inl (fun _ => 0))), (z + 8, .inl (g.2.1 0, 480, .inl (fun _ => 0))), (z + 9, .inl (g.2.1 0, 480, .inl (fun _ => 0))), (z + 10, .inl (g.2.1 1, 480, .inl (fun _ => 0))), (z + 11, .inl (g.2.1 0, 4, .inl (fun _ => 0))), (z + 12, .inl (g.2.1 1, 4, .inl (fun _ => 0)))] (z + 13) := B
  refine lv_aload_n hx hb dX4_init_117 rfl (lv_at hl 0 rfl) ?_
  refine lv_bipush (v := 60) hx hb dX4_init_118 (by decide) ?_
  refine l_newa F B (atype := .int) (wsU_in mA_int) 0 rfl hpI rfl (haI 60) (by decide) rfl (by decide) (by decide) (by decide) dX4_init_120 (fun H B => ?_)
  have B : Ld g (Aw ixM (gM g h0 z) z) s H locs [(h0, .inr (6, [.int 0, .int 0, .ref (z), .ref (z + 1), .ref (z + 2), .ref (z + 3), .ref (z + 4), .ref (z + 5), .ref (z + 6), .int 0, .int 0, .ref (z + 7), .ref (z + 8), .ref (z + 9), .ref (z + 10), .ref (z + 11), .ref (z + 12), .int 2000, .int 0, .null, .null, .int 0, .int 0, .null, .null, .null, .int 0, .null, .int 0, .int 0, .int 0, .null])), (z, .inl (g.2.1 0, 60, .inl (fun _ => 0))), (z + 1, .inl (g.2.1 0, 60, .inl (fun _ => 0))), (z + 2, .inl (g.2.1 1, 60, .inl (fun _ => 0))), (z + 3, .inl (g.2.1 0, 60, .inl (fun _ => 0))), (z + 4, .inl (g.2.1 0, 60, .inl (fun _ => 0))), (z + 5, .inl (g.2.1 0, 60, .inl (fun _ => 0))), (z + 6, .inl (g.2.1 0, 60, .inl (fun _ => 0))), (z + 7, .inl (g.2.1 0, 240, .inl (fun _ => 0))), (z + 8, .inl (g.2.1 0, 480, .inl (fun _ => 0))), (z + 9, .inl (g.2.1 0, 480, .inl (fun _ => 0))), (z + 10, .inl (g.2.1 1, 480, .inl (fun _ => 0))), (z + 11, .inl (g.2.1 0, 4, .inl (fun _ => 0))), (z + 12, .inl (g.2.1 1, 4, .inl (fun _ => 0))), (z + 13, .inl (g.2.1 0, 60, .inl (fun _ => 0)))] (z + 14) := B
  refine l_putF F hin B (fun w h => wsU_in (inGX4 w h)) tyX4 tyX4_ok nmX4 0 rfl rfl 19 (by decide) (wsU_in mF_X4_85) rfl rfl rfl rfl (Nat.le_of_ble_eq_true rfl) dX4_init_122 (fun H locs B => ?_)
  have B : Ld g (Aw ixM (gM g h0 z) z) s H locs [(h0, .inr (6, [.int 0, .int 0, .ref (z), .ref (z + 1), .ref (z + 2), .ref (z + 3), .ref (z + 4), .ref (z + 5), .ref (z + 6), .int 0, .int 0, .ref (z + 7), .ref (z + 8), .ref (z + 9), .ref (z + 10), .ref (z + 11), .ref (z + 12), .int 2000, .int 0, .ref (z + 13), .null, .int 0, .int 0, .null, .null, .null, .int 0, .null, .int 0, .int 0, .int 0, .null])), (z, .inl (g.2.1 0, 60, .inl (fun _ => 0))), (z + 1, .inl (g.2.1 0, 60, .inl (fun _ => 0))), (z + 2, .inl (g.2.1 1, 60, .inl (fun _ => 0))), (z + 3, .inl (g.2.1 0, 60, .inl (fun _ => 0))), (z + 4, .inl (g.2.1 0, 60, .inl (fun _ => 0))), (z + 5, .inl (g.2.1 0, 60, .inl (fun _ => 0))), (z + 6, .inl (g.2.1 0, 60, .inl (fun _ => 0))), (z + 7, .inl (g.2.1 0, 240, .inl (fun _ => 0))), (z + 8, .inl (g.2.1 0, 480, .inl (fun _ => 0))), (z + 9, .inl (g.2.1 0, 480, .inl (fun _ => 0))), (z + 10, .inl (g.2.1 1, 480, .inl (fun _ => 0))), (z + 11, .inl (g.2.1 0, 4, .inl (fun _ => 0))), (z + 12, .inl (g.2.1 1, 4, .inl (fun _ => 0))), (z + 13, .inl (g.2.1 0, 60, .inl (fun _ => 0)))] (z + 14) := B
  refine lv_aload_n hx hb dX4_init_125 rfl (lv_at hl 0 rfl) ?_
  refine lv_sipush (v := 240) hx hb dX4_init_126 (by decide) ?_
  refine l_newa F B (atype := .int) (wsU_in mA_int) 0 rfl hpI rfl (haI 240) (by decide) rfl (by decide) (by decide) (by decide) dX4_init_129 (fun H B => ?_)
  have B : Ld g (Aw ixM (gM g h0 z) z) s H locs [(h0, .inr (6, [.int 0, .int 0, .ref (z), .ref (z + 1), .ref (z + 2), .ref (z + 3), .ref (z + 4), .ref (z + 5), .ref (z + 6), .int 0, .int 0, .ref (z + 7), .ref (z + 8), .ref (z + 9), .ref (z + 10), .ref (z + 11), .ref (z + 12), .int 2000, .int 0, .ref (z + 13), .null, .int 0, .int 0, .null, .null, .null, .int 0, .null, .int 0, .int 0, .int 0, .null])), (z, .inl (g.2.1 0, 60, .inl (fun _ => 0))), (z + 1, .inl (g.2.1 0, 60, .inl (fun _ => 0))), (z + 2, .inl (g.2.1 1, 60, .inl (fun _ => 0))), (z + 3, .inl (g.2.1 0, 60, .inl (fun _ => 0))), (z + 4, .inl (g.2.1 0, 60, .inl (fun _ => 0))), (z + 5, .inl (g.2.1 0, 60, .inl (fun _ => 0))), (z + 6, .inl (g.2.1 0, 60, .inl (fun _ => 0))), (z + 7, .inl (g.2.1 0, 240, .inl (fun _ => 0))), (z + 8, .inl (g.2.1 0, 480, .inl (fun _ => 0))), (z + 9, .inl (g.2.1 0, 480, .inl (fun _ => 0))), (z + 10, .inl (g.2.1 1, 480, .inl (fun _ => 0))), (z + 11, .inl (g.2.1 0, 4, .inl (fun _ => 0))), (z + 12, .inl (g.2.1 1, 4, .inl (fun _ => 0))), (z + 13, .inl (g.2.1 0, 60, .inl (fun _ => 0))), (z + 14, .inl (g.2.1 0, 240, .inl (fun _ => 0)))] (z + 15) := B
  refine l_putF F hin B (fun w h => wsU_in (inGX4 w h)) tyX4 tyX4_ok nmX4 0 rfl rfl 20 (by decide) (wsU_in mF_X4_88) rfl rfl rfl rfl (Nat.le_of_ble_eq_true rfl) dX4_init_131 (fun H locs B => ?_)
  have B : Ld g (Aw ixM (gM g h0 z) z) s H locs [(h0, .inr (6, [.int 0, .int 0, .ref (z), .ref (z + 1), .ref (z + 2), .ref (z + 3), .ref (z + 4), .ref (z + 5), .ref (z + 6), .int 0, .int 0, .ref (z + 7), .ref (z + 8), .ref (z + 9), .ref (z + 10), .ref (z + 11), .ref (z + 12), .int 2000, .int 0, .ref (z + 13), .ref (z + 14), .int 0, .int 0, .null, .null, .null, .int 0, .null, .int 0, .int 0, .int 0, .null])), (z, .inl (g.2.1 0, 60, .inl (fun _ => 0))), (z + 1, .inl (g.2.1 0, 60, .inl (fun _ => 0))), (z + 2, .inl (g.2.1 1, 60, .inl (fun _ => 0))), (z + 3, .inl (g.2.1 0, 60, .inl (fun _ => 0))), (z + 4, .inl (g.2.1 0, 60, .inl (fun _ => 0))), (z + 5, .inl (g.2.1 0, 60, .inl (fun _ => 0))), (z + 6, .inl (g.2.1 0, 60, .inl (fun _ => 0))), (z + 7, .inl (g.2.1 0, 240, .inl (fun _ => 0))), (z + 8, .inl (g.2.1 0, 480, .inl (fun _ => 0))), (z + 9, .inl (g.2.1 0, 480, .inl (fun _ => 0))), (z + 10, .inl (g.2.1 1, 480, .inl (fun _ => 0))), (z + 11, .inl (g.2.1 0, 4, .inl (fun _ => 0))), (z + 12, .inl (g.2.1 1, 4, .inl (fun _ => 0))), (z + 13, .inl (g.2.1 0, 60, .inl (fun _ => 0))), (z + 14, .inl (g.2.1 0, 240, .inl (fun _ => 0)))] (z + 15) := B
  refine lv_aload_n hx hb dX4_init_134 rfl (lv_at hl 0 rfl) ?_
  refine lv_bipush (v := 30) hx hb dX4_init_135 (by decide) ?_
  refine l_newa F B (atype := .int) (wsU_in mA_int) 0 rfl hpI rfl (haI 30) (by decide) rfl (by decide) (by decide) (by decide) dX4_init_137 (fun H B => ?_)
  have B : Ld g (Aw ixM (gM g h0 z) z) s H locs [(h0, .inr (6, [.int 0, .int 0, .ref (z), .ref (z + 1), .ref (z + 2), .ref (z + 3), .ref (z + 4), .ref (z + 5), .ref (z + 6), .int 0, .int 0, .ref (z + 7), .ref (z + 8), .ref (z + 9), .ref (z + 10), .ref (z + 11), .ref (z + 12), .int 2000, .int 0, .ref (z + 13), .ref (z + 14), .int 0, .int 0, .null, .null, .null, .int 0, .null, .int 0, .int 0, .int 0, .null])), (z, .inl (g.2.1 0, 60, .inl (fun _ => 0))), (z + 1, .inl (g.2.1 0, 60, .inl (fun _ => 0))), (z + 2, .inl (g.2.1 1, 60, .inl (fun _ => 0))), (z + 3, .inl (g.2.1 0, 60, .inl (fun _ => 0))), (z + 4, .inl (g.2.1 0, 60, .inl (fun _ => 0))), (z + 5, .inl (g.2.1 0, 60, .inl (fun _ => 0))), (z + 6, .inl (g.2.1 0, 60, .inl (fun _ => 0))), (z + 7, .inl (g.2.1 0, 240, .inl (fun _ => 0))), (z + 8, .inl (g.2.1 0, 480, .inl (fun _ => 0))), (z + 9, .inl (g.2.1 0, 480, .inl (fun _ => 0))), (z + 10, .inl (g.2.1 1, 480, .inl (fun _ => 0))), (z + 11, .inl (g.2.1 0, 4, .inl (fun _ => 0))), (z + 12, .inl (g.2.1 1, 4, .inl (fun _ => 0))), (z + 13, .inl (g.2.1 0, 60, .inl (fun _ => 0))), (z + 14, .inl (g.2.1 0, 240, .inl (fun _ => 0))), (z + 15, .inl (g.2.1 0, 30, .inl (fun _ => 0)))] (z + 16) := B
  refine l_putF F hin B (fun w h => wsU_in (inGX4 w h)) tyX4 tyX4_ok nmX4 0 rfl rfl 23 (by decide) (wsU_in mF_X4_91) rfl rfl rfl rfl (Nat.le_of_ble_eq_true rfl) dX4_init_139 (fun H locs B => ?_)
  have B : Ld g (Aw ixM (gM g h0 z) z) s H locs [(h0, .inr (6, [.int 0, .int 0, .ref (z), .ref (z + 1), .ref (z + 2), .ref (z + 3), .ref (z + 4), .ref (z + 5), .ref (z + 6), .int 0, .int 0, .ref (z + 7), .ref (z + 8), .ref (z + 9), .ref (z + 10), .ref (z + 11), .ref (z + 12), .int 2000, .int 0, .ref (z + 13), .ref (z + 14), .int 0, .int 0, .ref (z + 15), .null, .null, .int 0, .null, .int 0, .int 0, .int 0, .null])), (z, .inl (g.2.1 0, 60, .inl (fun _ => 0))), (z + 1, .inl (g.2.1 0, 60, .inl (fun _ => 0))), (z + 2, .inl (g.2.1 1, 60, .inl (fun _ => 0))), (z + 3, .inl (g.2.1 0, 60, .inl (fun _ => 0))), (z + 4, .inl (g.2.1 0, 60, .inl (fun _ => 0))), (z + 5, .inl (g.2.1 0, 60, .inl (fun _ => 0))), (z + 6, .inl (g.2.1 0, 60, .inl (fun _ => 0))), (z + 7, .inl (g.2.1 0, 240, .inl (fun _ => 0))), (z + 8, .inl (g.2.1 0, 480, .inl (fun _ => 0))), (z + 9, .inl (g.2.1 0, 480, .inl (fun _ => 0))), (z + 10, .inl (g.2.1 1, 480, .inl (fun _ => 0))), (z + 11, .inl (g.2.1 0, 4, .inl (fun _ => 0))), (z + 12, .inl (g.2.1 1, 4, .inl (fun _ => 0))), (z + 13, .inl (g.2.1 0, 60, .inl (fun _ => 0))), (z + 14, .inl (g.2.1 0, 240, .inl (fun _ => 0))), (z + 15, .inl (g.2.1 0, 30, .inl (fun _ => 0)))] (z + 16) := B
  refine lv_aload_n hx hb dX4_init_142 rfl (lv_at hl 0 rfl) ?_
  refine lv_sipush (v := 180) hx hb dX4_init_143 (by decide) ?_
  refine l_newa F B (atype := .int) (wsU_in mA_int) 0 rfl hpI rfl (haI 180) (by decide) rfl (by decide) (by decide) (by decide) dX4_init_146 (fun H B => ?_)
  have B : Ld g (Aw ixM (gM g h0 z) z) s H locs [(h0, .inr (6, [.int 0, .int 0, .ref (z), .ref (z + 1), .ref (z + 2), .ref (z + 3), .ref (z + 4), .ref (z + 5), .ref (z + 6), .int 0, .int 0, .ref (z + 7), .ref (z + 8), .ref (z + 9), .ref (z + 10), .ref (z + 11), .ref (z + 12), .int 2000, .int 0, .ref (z + 13), .ref (z + 14), .int 0, .int 0, .ref (z + 15), .null, .null, .int 0, .null, .int 0, .int 0, .int 0, .null])), (z, .inl (g.2.1 0, 60, .inl (fun _ => 0))), (z + 1, .inl (g.2.1 0, 60, .inl (fun _ => 0))), (z + 2, .inl (g.2.1 1, 60, .inl (fun _ => 0))), (z + 3, .inl (g.2.1 0, 60, .inl (fun _ => 0))), (z + 4, .inl (g.2.1 0, 60, .inl (fun _ => 0))), (z + 5, .inl (g.2.1 0, 60, .inl (fun _ => 0))), (z + 6, .inl (g.2.1 0, 60, .inl (fun _ => 0))), (z + 7, .inl (g.2.1 0, 240, .inl (fun _ => 0))), (z + 8, .inl (g.2.1 0, 480, .inl (fun _ => 0))), (z + 9, .inl (g.2.1 0, 480, .inl (fun _ => 0))), (z + 10, .inl (g.2.1 1, 480, .inl (fun _ => 0))), (z + 11, .inl (g.2.1 0, 4, .inl (fun _ => 0))), (z + 12, .inl (g.2.1 1, 4, .inl (fun _ => 0))), (z + 13, .inl (g.2.1 0, 60, .inl (fun _ => 0))), (z + 14, .inl (g.2.1 0, 240, .inl (fun _ => 0))), (z + 15, .inl (g.2.1 0, 30, .inl (fun _ => 0))), (z + 16, .inl (g.2.1 0, 180, .inl (fun _ => 0)))] (z + 17) := B
  refine l_putF F hin B (fun w h => wsU_in (inGX4 w h)) tyX4 tyX4_ok nmX4 0 rfl rfl 24 (by decide) (wsU_in mF_X4_94) rfl rfl rfl rfl (Nat.le_of_ble_eq_true rfl) dX4_init_148 (fun H locs B => ?_)
  have B : Ld g (Aw ixM (gM g h0 z) z) s H locs [(h0, .inr (6, [.int 0, .int 0, .ref (z), .ref (z + 1), .ref (z + 2), .ref (z + 3), .ref (z + 4), .ref (z + 5), .ref (z + 6), .int 0, .int 0, .ref (z + 7), .ref (z + 8), .ref (z + 9), .ref (z + 10), .ref (z + 11), .ref (z + 12), .int 2000, .int 0, .ref (z + 13), .ref (z + 14), .int 0, .int 0, .ref (z + 15), .ref (z + 16), .null, .int 0, .null, .int 0, .int 0, .int 0, .null])), (z, .inl (g.2.1 0, 60, .inl (fun _ => 0))), (z + 1, .inl (g.2.1 0, 60, .inl (fun _ => 0))), (z + 2, .inl (g.2.1 1, 60, .inl (fun _ => 0))), (z + 3, .inl (g.2.1 0, 60, .inl (fun _ => 0))), (z + 4, .inl (g.2.1 0, 60, .inl (fun _ => 0))), (z + 5, .inl (g.2.1 0, 60, .inl (fun _ => 0))), (z + 6, .inl (g.2.1 0, 60, .inl (fun _ => 0))), (z + 7, .inl (g.2.1 0, 240, .inl (fun _ => 0))), (z + 8, .inl (g.2.1 0, 480, .inl (fun _ => 0))), (z + 9, .inl (g.2.1 0, 480, .inl (fun _ => 0))), (z + 10, .inl (g.2.1 1, 480, .inl (fun _ => 0))), (z + 11, .inl (g.2.1 0, 4, .inl (fun _ => 0))), (z + 12, .inl (g.2.1 1, 4, .inl (fun _ => 0))), (z + 13, .inl (g.2.1 0, 60, .inl (fun _ => 0))), (z + 14, .inl (g.2.1 0, 240, .inl (fun _ => 0))), (z + 15, .inl (g.2.1 0, 30, .inl (fun _ => 0))), (z + 16, .inl (g.2.1 0, 180, .inl (fun _ => 0)))] (z + 17) := B
  refine lv_aload_n hx hb dX4_init_151 rfl (lv_at hl 0 rfl) ?_
  refine lv_sipush (v := 210) hx hb dX4_init_152 (by decide) ?_
  refine l_newa F B (atype := .int) (wsU_in mA_int) 0 rfl hpI rfl (haI 210) (by decide) rfl (by decide) (by decide) (by decide) dX4_init_155 (fun H B => ?_)
  have B : Ld g (Aw ixM (gM g h0 z) z) s H locs [(h0, .inr (6, [.int 0, .int 0, .ref (z), .ref (z + 1), .ref (z + 2), .ref (z + 3), .ref (z + 4), .ref (z + 5), .ref (z + 6), .int 0, .int 0, .ref (z + 7), .ref (z + 8), .ref (z + 9), .ref (z + 10), .ref (z + 11), .ref (z + 12), .int 2000, .int 0, .ref (z + 13), .ref (z + 14), .int 0, .int 0, .ref (z + 15), .ref (z + 16), .null, .int 0, .null, .int 0, .int 0, .int 0, .null])), (z, .inl (g.2.1 0, 60, .inl (fun _ => 0))), (z + 1, .inl (g.2.1 0, 60, .inl (fun _ => 0))), (z + 2, .inl (g.2.1 1, 60, .inl (fun _ => 0))), (z + 3, .inl (g.2.1 0, 60, .inl (fun _ => 0))), (z + 4, .inl (g.2.1 0, 60, .inl (fun _ => 0))), (z + 5, .inl (g.2.1 0, 60, .inl (fun _ => 0))), (z + 6, .inl (g.2.1 0, 60, .inl (fun _ => 0))), (z + 7, .inl (g.2.1 0, 240, .inl (fun _ => 0))), (z + 8, .inl (g.2.1 0, 480, .inl (fun _ => 0))), (z + 9, .inl (g.2.1 0, 480, .inl (fun _ => 0))), (z + 10, .inl (g.2.1 1, 480, .inl (fun _ => 0))), (z + 11, .inl (g.2.1 0, 4, .inl (fun _ => 0))), (z + 12, .inl (g.2.1 1, 4, .inl (fun _ => 0))), (z + 13, .inl (g.2.1 0, 60, .inl (fun _ => 0))), (z + 14, .inl (g.2.1 0, 240, .inl (fun _ => 0))), (z + 15, .inl (g.2.1 0, 30, .inl (fun _ => 0))), (z + 16, .inl (g.2.1 0, 180, .inl (fun _ => 0))), (z + 17, .inl (g.2.1 0, 210, .inl (fun _ => 0)))] (z + 18) := B
  refine l_putF F hin B (fun w h => wsU_in (inGX4 w h)) tyX4 tyX4_ok nmX4 0 rfl rfl 25 (by decide) (wsU_in mF_X4_97) rfl rfl rfl rfl (Nat.le_of_ble_eq_true rfl) dX4_init_157 (fun H locs B => ?_)
  have B : Ld g (Aw ixM (gM g h0 z) z) s H locs [(h0, .inr (6, [.int 0, .int 0, .ref (z), .ref (z + 1), .ref (z + 2), .ref (z + 3), .ref (z + 4), .ref (z + 5), .ref (z + 6), .int 0, .int 0, .ref (z + 7), .ref (z + 8), .ref (z + 9), .ref (z + 10), .ref (z + 11), .ref (z + 12), .int 2000, .int 0, .ref (z + 13), .ref (z + 14), .int 0, .int 0, .ref (z + 15), .ref (z + 16), .ref (z + 17), .int 0, .null, .int 0, .int 0, .int 0, .null])), (z, .inl (g.2.1 0, 60, .inl (fun _ => 0))), (z + 1, .inl (g.2.1 0, 60, .inl (fun _ => 0))), (z + 2, .inl (g.2.1 1, 60, .inl (fun _ => 0))), (z + 3, .inl (g.2.1 0, 60, .inl (fun _ => 0))), (z + 4, .inl (g.2.1 0, 60, .inl (fun _ => 0))), (z + 5, .inl (g.2.1 0, 60, .inl (fun _ => 0))), (z + 6, .inl (g.2.1 0, 60, .inl (fun _ => 0))), (z + 7, .inl (g.2.1 0, 240, .inl (fun _ => 0))), (z + 8, .inl (g.2.1 0, 480, .inl (fun _ => 0))), (z + 9, .inl (g.2.1 0, 480, .inl (fun _ => 0))), (z + 10, .inl (g.2.1 1, 480, .inl (fun _ => 0))), (z + 11, .inl (g.2.1 0, 4, .inl (fun _ => 0))), (z + 12, .inl (g.2.1 1, 4, .inl (fun _ => 0))), (z + 13, .inl (g.2.1 0, 60, .inl (fun _ => 0))), (z + 14, .inl (g.2.1 0, 240, .inl (fun _ => 0))), (z + 15, .inl (g.2.1 0, 30, .inl (fun _ => 0))), (z + 16, .inl (g.2.1 0, 180, .inl (fun _ => 0))), (z + 17, .inl (g.2.1 0, 210, .inl (fun _ => 0)))] (z + 18) := B
  refine lv_aload_n hx hb dX4_init_160 rfl (lv_at hl 0 rfl) ?_
  refine lv_bipush (v := 24) hx hb dX4_init_161 (by decide) ?_
  refine l_newa F B (atype := .int) (wsU_in mA_int) 0 rfl hpI rfl (haI 24) (by decide) rfl (by decide) (by decide) (by decide) dX4_init_163 (fun H B => ?_)
  have B : Ld g (Aw ixM (gM g h0 z) z) s H locs [(h0, .inr (6, [.int 0, .int 0, .ref (z), .ref (z + 1), .ref (z + 2), .ref (z + 3), .ref (z + 4), .ref (z + 5), .ref (z + 6), .int 0, .int 0, .ref (z + 7), .ref (z + 8), .ref (z + 9), .ref (z + 10), .ref (z + 11), .ref (z + 12), .int 2000, .int 0, .ref (z + 13), .ref (z + 14), .int 0, .int 0, .ref (z + 15), .ref (z + 16), .ref (z + 17), .int 0, .null, .int 0, .int 0, .int 0, .null])), (z, .inl (g.2.1 0, 60, .inl (fun _ => 0))), (z + 1, .inl (g.2.1 0, 60, .inl (fun _ => 0))), (z + 2, .inl (g.2.1 1, 60, .inl (fun _ => 0))), (z + 3, .inl (g.2.1 0, 60, .inl (fun _ => 0))), (z + 4, .inl (g.2.1 0, 60, .inl (fun _ => 0))), (z + 5, .inl (g.2.1 0, 60, .inl (fun _ => 0))), (z + 6, .inl (g.2.1 0, 60, .inl (fun _ => 0))), (z + 7, .inl (g.2.1 0, 240, .inl (fun _ => 0))), (z + 8, .inl (g.2.1 0, 480, .inl (fun _ => 0))), (z + 9, .inl (g.2.1 0, 480, .inl (fun _ => 0))), (z + 10, .inl (g.2.1 1, 480, .inl (fun _ => 0))), (z + 11, .inl (g.2.1 0, 4, .inl (fun _ => 0))), (z + 12, .inl (g.2.1 1, 4, .inl (fun _ => 0))), (z + 13, .inl (g.2.1 0, 60, .inl (fun _ => 0))), (z + 14, .inl (g.2.1 0, 240, .inl (fun _ => 0))), (z + 15, .inl (g.2.1 0, 30, .inl (fun _ => 0))), (z + 16, .inl (g.2.1 0, 180, .inl (fun _ => 0))), (z + 17, .inl (g.2.1 0, 210, .inl (fun _ => 0))), (z + 18, .inl (g.2.1 0, 24, .inl (fun _ => 0)))] (z + 19) := B
  refine l_putF F hin B (fun w h => wsU_in (inGX4 w h)) tyX4 tyX4_ok nmX4 0 rfl rfl 27 (by decide) (wsU_in mF_X4_100) rfl rfl rfl rfl (Nat.le_of_ble_eq_true rfl) dX4_init_165 (fun H locs B => ?_)
  have B : Ld g (Aw ixM (gM g h0 z) z) s H locs [(h0, .inr (6, [.int 0, .int 0, .ref (z), .ref (z + 1), .ref (z + 2), .ref (z + 3), .ref (z + 4), .ref (z + 5), .ref (z + 6), .int 0, .int 0, .ref (z + 7), .ref (z + 8), .ref (z + 9), .ref (z + 10), .ref (z + 11), .ref (z + 12), .int 2000, .int 0, .ref (z + 13), .ref (z + 14), .int 0, .int 0, .ref (z + 15), .ref (z + 16), .ref (z + 17), .int 0, .ref (z + 18), .int 0, .int 0, .int 0, .null])), (z, .inl (g.2.1 0, 60, .inl (fun _ => 0))), (z + 1, .inl (g.2.1 0, 60, .inl (fun _ => 0))), (z + 2, .inl (g.2.1 1, 60, .inl (fun _ => 0))), (z + 3, .inl (g.2.1 0, 60, .inl (fun _ => 0))), (z + 4, .inl (g.2.1 0, 60, .inl (fun _ => 0))), (z + 5, .inl (g.2.1 0, 60, .inl (fun _ => 0))), (z + 6, .inl (g.2.1 0, 60, .inl (fun _ => 0))), (z + 7, .inl (g.2.1 0, 240, .inl (fun _ => 0))), (z + 8, .inl (g.2.1 0, 480, .inl (fun _ => 0))), (z + 9, .inl (g.2.1 0, 480, .inl (fun _ => 0))), (z + 10, .inl (g.2.1 1, 480, .inl (fun _ => 0))), (z + 11, .inl (g.2.1 0, 4, .inl (fun _ => 0))), (z + 12, .inl (g.2.1 1, 4, .inl (fun _ => 0))), (z + 13, .inl (g.2.1 0, 60, .inl (fun _ => 0))), (z + 14, .inl (g.2.1 0, 240, .inl (fun _ => 0))), (z + 15, .inl (g.2.1 0, 30, .inl (fun _ => 0))), (z + 16, .inl (g.2.1 0, 180, .inl (fun _ => 0))), (z + 17, .inl (g.2.1 0, 210, .inl (fun _ => 0))), (z + 18, .inl (g.2.1 0, 24, .inl (fun _ => 0)))] (z + 19) := B
  refine lv_aload_n hx hb dX4_init_168 rfl (lv_at hl 0 rfl) ?_
  refine lv_bipush (v := 24) hx hb dX4_init_169 (by decide) ?_
  refine l_newa F B (atype := .int) (wsU_in mA_int) 0 rfl hpI rfl (haI 24) (by decide) rfl (by decide) (by decide) (by decide) dX4_init_171 (fun H B => ?_)
  have B : Ld g (Aw ixM (gM g h0 z) z) s H locs [(h0, .inr (6, [.int 0, .int 0, .ref (z), .ref (z + 1), .ref (z + 2), .ref (z + 3), .ref (z + 4), .ref (z + 5), .ref (z + 6), .int 0, .int 0, .ref (z + 7), .ref (z + 8), .ref (z + 9), .ref (z + 10), .ref (z + 11), .ref (z + 12), .int 2000, .int 0, .ref (z + 13), .ref (z + 14), .int 0, .int 0, .ref (z + 15), .ref (z + 16), .ref (z + 17), .int 0, .ref (z + 18), .int 0, .int 0, .int 0, .null])), (z, .inl (g.2.1 0, 60, .inl (fun _ => 0))), (z + 1, .inl (g.2.1 0, 60, .inl (fun _ => 0))), (z + 2, .inl (g.2.1 1, 60, .inl (fun _ => 0))), (z + 3, .inl (g.2.1 0, 60, .inl (fun _ => 0))), (z + 4, .inl (g.2.1 0, 60, .inl (fun _ => 0))), (z + 5, .inl (g.2.1 0, 60, .inl (fun _ => 0))), (z + 6, .inl (g.2.1 0, 60, .inl (fun _ => 0))), (z + 7, .inl (g.2.1 0, 240, .inl (fun _ => 0))), (z + 8, .inl (g.2.1 0, 480, .inl (fun _ => 0))), (z + 9, .inl (g.2.1 0, 480, .inl (fun _ => 0))), (z + 10, .inl (g.2.1 1, 480, .inl (fun _ => 0))), (z + 11, .inl (g.2.1 0, 4, .inl (fun _ => 0))), (z + 12, .inl (g.2.1 1, 4, .inl (fun _ => 0))), (z + 13, .inl (g.2.1 0, 60, .inl (fun _ => 0))), (z + 14, .inl (g.2.1 0, 240, .inl (fun _ => 0))), (z + 15, .inl (g.2.1 0, 30, .inl (fun _ => 0))), (z + 16, .inl (g.2.1 0, 180, .inl (fun _ => 0))), (z + 17, .inl (g.2.1 0, 210, .inl (fun _ => 0))), (z + 18, .inl (g.2.1 0, 24, .inl (fun _ => 0))), (z + 19, .inl (g.2.1 0, 24, .inl (fun _ => 0)))] (z + 20) := B
  refine l_putF F hin B (fun w h => wsU_in (inGX4 w h)) tyX4 tyX4_ok nmX4 0 rfl rfl 31 (by decide) (wsU_in mF_X4_103) rfl rfl rfl rfl (Nat.le_of_ble_eq_true rfl) dX4_init_173 (fun H locs B => ?_)
  have B : Ld g (Aw ixM (gM g h0 z) z) s H locs [(h0, .inr (6, [.int 0, .int 0, .ref (z), .ref (z + 1), .ref (z + 2), .ref (z + 3), .ref (z + 4), .ref (z + 5), .ref (z + 6), .int 0, .int 0, .ref (z + 7), .ref (z + 8), .ref (z + 9), .ref (z + 10), .ref (z + 11), .ref (z + 12), .int 2000, .int 0, .ref (z + 13), .ref (z + 14), .int 0, .int 0, .ref (z + 15), .ref (z + 16), .ref (z + 17), .int 0, .ref (z + 18), .int 0, .int 0, .int 0, .ref (z + 19)])), (z, .inl (g.2.1 0, 60, .inl (fun _ => 0))), (z + 1, .inl (g.2.1 0, 60, .inl (fun _ => 0))), (z + 2, .inl (g.2.1 1, 60, .inl (fun _ => 0))), (z + 3, .inl (g.2.1 0, 60, .inl (fun _ => 0))), (z + 4, .inl (g.2.1 0, 60, .inl (fun _ => 0))), (z + 5, .inl (g.2.1 0, 60, .inl (fun _ => 0))), (z + 6, .inl (g.2.1 0, 60, .inl (fun _ => 0))), (z + 7, .inl (g.2.1 0, 240, .inl (fun _ => 0))), (z + 8, .inl (g.2.1 0, 480, .inl (fun _ => 0))), (z + 9, .inl (g.2.1 0, 480, .inl (fun _ => 0))), (z + 10, .inl (g.2.1 1, 480, .inl (fun _ => 0))), (z + 11, .inl (g.2.1 0, 4, .inl (fun _ => 0))), (z + 12, .inl (g.2.1 1, 4, .inl (fun _ => 0))), (z + 13, .inl (g.2.1 0, 60, .inl (fun _ => 0))), (z + 14, .inl (g.2.1 0, 240, .inl (fun _ => 0))), (z + 15, .inl (g.2.1 0, 30, .inl (fun _ => 0))), (z + 16, .inl (g.2.1 0, 180, .inl (fun _ => 0))), (z + 17, .inl (g.2.1 0, 210, .inl (fun _ => 0))), (z + 18, .inl (g.2.1 0, 24, .inl (fun _ => 0))), (z + 19, .inl (g.2.1 0, 24, .inl (fun _ => 0)))] (z + 20) := B
  refine lv_aload_n hx hb dX4_init_176 rfl (lv_at hl 0 rfl) ?_
  have BW := x4_to g h0 z B
  have BW : Wd ixM enM (gM g h0 z) M0M (Aw ixM (gM g h0 z) s.heap.size) s H locs := by rw [hsz]; exact BW
  refine w_callVv F BW (c_X4_fresh l (gM g h0 z) n M0M H.size q h) mC_X4_fresh mM_X4_106 mN_X4 mI_X4_fresh mS_X4_fresh ixM_0 rfl rfl ⟨ok_X4_fresh, by decide⟩ rfl hl.1 rfl (Nat.le_of_ble_eq_true rfl) dX4_init_177 (fun H locs BW => ?_)
  have hS9 := BW.2.2.2.1
  rw [hsz] at hS9
  exact W.vret hx hb hr (fun t ht hW => ⟨⟨(), rfl, trivial, BW.u ht hW⟩, hS9.F ht⟩) hS9.2.2 dX4_init_180 hlocks
