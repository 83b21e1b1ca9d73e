def b_X3_placeBoxes_4 (n : Nat) (x1 : Int32) : (Int32 × Int32 × mem) → Option ((Int32 × Int32 × mem) ⊕ (Int32 × mem)) := fun w =>
if 4 ≤ w.2.1 then (
some (.inr ((w.1, w.2.2)))) else (
grd (¬ (w.2.1 < 0 ∨ 4 ≤ Int32.toNatClampNeg w.2.1)) (
cal (f_X2_hasBox n w.2.2 (Int32.toNatClampNeg w.2.1) x1) fun q3 => (
if q3 = 0 then (
some (.inl (w.1, (w.2.1 + 1), w.2.2))) else (
grd (¬ (x1 < 0 ∨ 60 ≤ Int32.toNatClampNeg x1)) (
cal (f_X2_placeBox n w.2.2 (Int32.toNatClampNeg w.2.1) x1 (w.2.2 1 (Int32.toNatClampNeg x1) 7)) fun q6 => (
some (.inl ((if w.1 < q6.1 then q6.1 else w.1), (w.2.1 + 1), q6.2))))))))
/-- private int placeBoxes(int) -/
def f_X3_placeBoxes (n : Nat) (S0 : mem) (x1 : Int32) : Option (Int32 × mem) :=
lp (b_X3_placeBoxes_4 n x1) n (0, 0, S0)
set_option maxRecDepth 100000 in
set_option maxHeartbeats 4000000 in
theorem c_X3_placeBoxes (l : Launch) (g : cx) (n : Nat) (S0 : mem) (sz : Nat) (x1 : Int32) (q : Int32 × mem) (h : f_X3_placeBoxes n S0 x1 = some q) : Met l yX3_placeBoxes (wsU yX3_placeBoxes cX3_placeBoxes 4 (some .int)) (rmD 4) (PcW ixC enC g S0 sz [.ref (g.2.2 3 0), .int x1]) (QiW ixC enC g sz q.1 q.2) 0 0 (Aw ixC g sz) := by
  refine met_intro (Qc := fun z9 => QiW ixC enC g z9 q.1 q.2) (free := fun z9 => Aw ixC g z9) [.ref (g.2.2 3 0), .int x1] RX3 rfl (by decide) (Nat.le_of_ble_eq_true rfl) (fun p e s m args below meth c H locs F hr hlocks B ls hl => ?_)
  have hl : lv_has ls 4 [(0, .ref (g.2.2 3 0)), (1, .int x1)] := hl
  have hx := F.1
  have hb := F.2.1
  unfold f_X3_placeBoxes at h
  refine lv_iconst (v := 0) hx hb dX3_placeBoxes_0 (by decide) ?_
  refine lv_istore_n (lv' := [(2, .int 0), (0, .ref (g.2.2 3 0)), (1, .int x1)]) hx hb dX3_placeBoxes_1 rfl hl (by decide) rfl (fun ls hl => ?_)
  refine lv_iconst (v := 0) hx hb dX3_placeBoxes_2 (by decide) ?_
  refine lv_istore_n (lv' := [(3, .int 0), (2, .int 0), (0, .ref (g.2.2 3 0)), (1, .int x1)]) hx hb dX3_placeBoxes_3 rfl hl (by decide) rfl (fun ls hl => ?_)
  have L4 : ∀ (k4 : Nat) (x1 : Int32) (x2 : Int32) (x3 : Int32) (S : mem), lp (b_X3_placeBoxes_4 n x1) k4 (x2, x3, S) = some q → ∀ (H : Heap) (locs : List Loc) (ls : Array Slot), Wd ixC enC g S (Aw ixC g s.heap.size) s H locs → lv_has ls 4 [(0, .ref (g.2.2 3 0)), (1, .int x1), (2, .int x2), (3, .int x3)] → W p l e (rmD 4) s m args below meth c H locs 0 0 (MQ below (QiW ixC enC g s.heap.size q.1 q.2) args s 0 0 (Aw ixC g s.heap.size)) (F0 m 4 ls []) := by
    intro k4
    induction k4 with
    | zero => intro x1 x2 x3 S h; exact (lp_zero h).elim
    | succ k4 ih4 =>
      intro x1 x2 x3 S h H locs ls B hl
      obtain ⟨t4, h, ht4⟩ := lp_succ h
      unfold b_X3_placeBoxes_4 at h
      (try dsimp only at h)
      refine lv_iload_n hx hb dX3_placeBoxes_4 rfl (lv_at hl 3 rfl) ?_
      refine lv_iconst (v := 4) hx hb dX3_placeBoxes_5 (by decide) ?_
      refine lv_icmp_ge (tgt := 52) hx hb dX3_placeBoxes_6 (by decide) (fun c1 => ?_) (fun c1 => ?_)
      · rw [if_pos c1] at h
        refine lv_iload_n hx hb dX3_placeBoxes_52 rfl (lv_at hl 2 rfl) ?_
        obtain rfl := Option.some.inj h
        obtain rfl := (show _ = q from ht4)
        exact w_iret F hr hlocks B dX3_placeBoxes_53
      · rw [if_neg c1] at h
        refine lv_aload_n hx hb dX3_placeBoxes_9 rfl (lv_at hl 0 rfl) ?_
        refine gt_X3_1 F B mF_X3_17 dX3_placeBoxes_10 ?_
        refine lv_iload_n hx hb dX3_placeBoxes_13 rfl (lv_at hl 3 rfl) ?_
        obtain ⟨z2, h⟩ := grd_some h
        refine al_C5 F B  z2 dX3_placeBoxes_14 ?_
        refine lv_iload_n hx hb dX3_placeBoxes_15 rfl (lv_at hl 1 rfl) ?_
        obtain ⟨q3, hq3, h⟩ := cal_some h
        refine w_callNi F B (c_X2_hasBox l g n S H.size (Int32.toNatClampNeg x3) (ltI z2) x1 q3 hq3) mC_X2_hasBox nM_X3_173 mN_X2 mI_X2_hasBox mS_X2_hasBox (ixC_2 (ltI z2)) rfl rfl ⟨ok_X2_hasBox, by decide⟩ rfl hl.1 rfl (Nat.le_of_ble_eq_true rfl) dX3_placeBoxes_16 (fun H locs B => ?_)
        refine lv_if_eq (tgt := 46) hx hb dX3_placeBoxes_19 (by decide) (fun c4 => ?_) (fun c4 => ?_)
        · rw [if_pos c4] at h
          refine lv_iinc (v := x3 + 1) (lv' := [(3, .int (x3 + 1)), (0, .ref (g.2.2 3 0)), (1, .int x1), (2, .int x2)]) hx hb dX3_placeBoxes_46 hl (k := 3) rfl rfl (by decide) rfl (fun ls hl => ?_)
          refine lv_goto (tgt := 4) hx hb dX3_placeBoxes_49 (by decide) ?_
          obtain rfl := Option.some.inj h
          exact ih4 x1 x2 (x3 + 1) S ht4 H locs ls B (lv_sub hl [1, 2, 3, 0] rfl)
        · rw [if_neg c4] at h
          refine lv_iload_n hx hb dX3_placeBoxes_22 rfl (lv_at hl 2 rfl) ?_
          refine lv_aload_n hx hb dX3_placeBoxes_23 rfl (lv_at hl 0 rfl) ?_
          refine gt_X3_1 F B mF_X3_17 dX3_placeBoxes_24 ?_
          refine lv_iload_n hx hb dX3_placeBoxes_27 rfl (lv_at hl 3 rfl) ?_
          refine al_C5 F B  z2 dX3_placeBoxes_28 ?_
          refine lv_iload_n hx hb dX3_placeBoxes_29 rfl (lv_at hl 1 rfl) ?_
          refine lv_aload_n hx hb dX3_placeBoxes_30 rfl (lv_at hl 0 rfl) ?_
          refine gt_X3_0 F B mF_X3_11 dX3_placeBoxes_31 ?_
          refine lv_iload_n hx hb dX3_placeBoxes_34 rfl (lv_at hl 1 rfl) ?_
          obtain ⟨z5, h⟩ := grd_some h
          refine al_C4 F B  z5 dX3_placeBoxes_35 ?_
          refine gn_X1_7 F B (ltI z5) nF_X3_123 dX3_placeBoxes_36 ?_
          obtain ⟨q6, hq6, h⟩ := cal_some h
          refine w_callNi F B (c_X2_placeBox l g n S H.size (Int32.toNatClampNeg x3) (ltI z2) x1 (S 1 (Int32.toNatClampNeg x1) 7) q6 hq6) mC_X2_placeBox nM_X3_260 mN_X2 mI_X2_placeBox mS_X2_placeBox (ixC_2 (ltI z2)) rfl rfl ⟨ok_X2_placeBox, by decide⟩ rfl hl.1 rfl (Nat.le_of_ble_eq_true rfl) dX3_placeBoxes_39 (fun H locs B => ?_)
          refine w_mmax F hl.1 mM_X3_117 (by decide) (Nat.le_of_ble_eq_true rfl) dX3_placeBoxes_42 ?_
          refine lv_istore_n (lv' := [(2, .int (if x2 < q6.1 then q6.1 else x2)), (0, .ref (g.2.2 3 0)), (1, .int x1), (3, .int x3)]) hx hb dX3_placeBoxes_45 rfl hl (by decide) rfl (fun ls hl => ?_)
          refine lv_iinc (v := x3 + 1) (lv' := [(3, .int (x3 + 1)), (2, .int (if x2 < q6.1 then q6.1 else x2)), (0, .ref (g.2.2 3 0)), (1, .int x1)]) hx hb dX3_placeBoxes_46 hl (k := 3) rfl rfl (by decide) rfl (fun ls hl => ?_)
          refine lv_goto (tgt := 4) hx hb dX3_placeBoxes_49 (by decide) ?_
          obtain rfl := Option.some.inj h
          exact ih4 x1 (if x2 < q6.1 then q6.1 else x2) (x3 + 1) q6.2 ht4 H locs ls B (lv_sub hl [2, 3, 1, 0] rfl)
  exact L4 n x1 0 0 S0 h H locs ls B (lv_sub hl [2, 3, 1, 0] rfl)
/-- private int end() -/
def f_X1_end (n : Nat) (S0 : mem) (i0 : Nat) : Option (Int32) :=
some ((S0 1 i0 7) + (S0 1 i0 0))
set_option maxRecDepth 100000 in
set_option maxHeartbeats 4000000 in
theorem c_X1_end (l : Launch) (g : cx) (n : Nat) (S0 : mem) (sz : Nat) (i0 : Nat) (hi0 : i0 < 60) (q : Int32) (h : f_X1_end n S0 i0 = some q) : Met l yX1_end (wsU yX1_end cX1_end 1 (some .int)) (rmD 0) (PcW ixC enC g S0 sz [.ref (g.2.2 1 i0)]) (QiW ixC enC g sz q S0) 0 0 (Aw ixC g sz) := by
  refine met_intro (Qc := fun z9 => QiW ixC enC g z9 q S0) (free := fun z9 => Aw ixC g z9) [.ref (g.2.2 1 i0)] RX1 rfl (by decide) (Nat.le_of_ble_eq_true rfl) (fun p e s m args below meth c H locs F hr hlocks B ls hl => ?_)
  have hl : lv_has ls 1 [(0, .ref (g.2.2 1 i0))] := hl
  have hx := F.1
  have hb := F.2.1
  unfold f_X1_end at h
  refine lv_aload_n hx hb dX1_end_0 rfl (lv_at hl 0 rfl) ?_
  refine gt_X1_7 F B hi0 mF_X1_34 dX1_end_1 ?_
  refine lv_aload_n hx hb dX1_end_4 rfl (lv_at hl 0 rfl) ?_
  refine gt_X1_0 F B hi0 mF_X1_9 dX1_end_5 ?_
  refine lv_iadd hx hb dX1_end_8 ?_
  obtain rfl := Option.some.inj h
  exact w_iret F hr hlocks B dX1_end_9
def j_X3_placeNotes_118 (n : Nat) (S : mem) (x1 : Int32) (x2 : Int32) (x3 : Int32) (x4 : Int32) (i5 : Nat) : Option ((Int32 × Int32 × Int32 × Int32 × mem) ⊕ ((Int32 × mem) ⊕ (Int32 × mem))) :=
cal (f_X3_placeBoxes n (mup S 1 i5 8 ((S 1 i5 7) - x1)) x4) fun q8 => (
some (.inl ((((S 1 i5 7) + (S 1 i5 0)) + (10 * (S 1 i5 1))), x2, (if x3 < q8.1 then q8.1 else x3), (x4 + 1), q8.2)))
def b_X3_placeNotes_32 (n : Nat) : (Int32 × Int32 × Int32 × Int32 × mem) → Option ((Int32 × Int32 × Int32 × Int32 × mem) ⊕ ((Int32 × mem) ⊕ (Int32 × mem))) := fun w =>
if (w.2.2.2.2 3 0 4) ≤ w.2.2.2.1 then (
if (w.2.2.2.2 3 0 4) ≤ 0 then (
some (.inr (.inr ((w.2.2.1, w.2.2.2.2))))) else (
grd (¬ ((w.2.2.2.2 3 0 4) - 1 < 0 ∨ 60 ≤ Int32.toNatClampNeg ((w.2.2.2.2 3 0 4) - 1))) (
cal (f_X1_end n w.2.2.2.2 (Int32.toNatClampNeg ((w.2.2.2.2 3 0 4) - 1))) fun q5 => (
some (.inr (.inr ((if w.2.2.1 < q5 then q5 else w.2.2.1, w.2.2.2.2)))))))) else (
grd (¬ (w.2.2.2.1 < 0 ∨ 60 ≤ Int32.toNatClampNeg w.2.2.2.1)) (
cal (f_X3_leastForBoxes n w.2.2.2.2 w.2.2.2.1) fun q7 => (
if (w.2.2.2.2 1 (Int32.toNatClampNeg w.2.2.2.1) 3) ≤ 0 then (
j_X3_placeNotes_118 n (mup w.2.2.2.2 1 (Int32.toNatClampNeg w.2.2.2.1) 7 (if w.1 < q7 then q7 else w.1)) w.1 w.2.1 w.2.2.1 w.2.2.2.1 (Int32.toNatClampNeg w.2.2.2.1)) else (
j_X3_placeNotes_118 n (mup (mup w.2.2.2.2 1 (Int32.toNatClampNeg w.2.2.2.1) 7 (if w.1 < q7 then q7 else w.1)) 1 (Int32.toNatClampNeg w.2.2.2.1) 7 (if (if w.1 < q7 then q7 else w.1) < w.2.1 then w.2.1 else (if w.1 < q7 then q7 else w.1))) w.1 (((if (if w.1 < q7 then q7 else w.1) < w.2.1 then w.2.1 else (if w.1 < q7 then q7 else w.1)) + (w.2.2.2.2 1 (Int32.toNatClampNeg w.2.2.2.1) 3)) + 10) (if w.2.2.1 < ((if (if w.1 < q7 then q7 else w.1) < w.2.1 then w.2.1 else (if w.1 < q7 then q7 else w.1)) + (w.2.2.2.2 1 (Int32.toNatClampNeg w.2.2.2.1) 3)) then ((if (if w.1 < q7 then q7 else w.1) < w.2.1 then w.2.1 else (if w.1 < q7 then q7 else w.1)) + (w.2.2.2.2 1 (Int32.toNatClampNeg w.2.2.2.1) 3)) else w.2.2.1) w.2.2.2.1 (Int32.toNatClampNeg w.2.2.2.1)))))
def b_X3_placeNotes_2 (n : Nat) : (Int32 × mem) → Option ((Int32 × mem) ⊕ (Int32 × mem)) := fun w =>
if 4 ≤ w.1 then (
lp (b_X3_placeNotes_32 n ) n (0, 0, 0, 0, w.2)) else (
grd (¬ (w.1 < 0 ∨ 4 ≤ Int32.toNatClampNeg w.1)) (
some (.inl ((w.1 + 1), (mup w.2 2 (Int32.toNatClampNeg w.1) 8 0)))))
/-- private int placeNotes() -/
def f_X3_placeNotes (n : Nat) (S0 : mem) : Option (Int32 × mem) :=
lp (b_X3_placeNotes_2 n ) n (0, S0)
set_option maxRecDepth 100000 in
set_option maxHeartbeats 4000000 in
theorem c_X3_placeNotes (l : Launch) (g : cx) (n : Nat) (S0 : mem) (sz : Nat)  (q : Int32 × mem) (h : f_X3_placeNotes n S0 = some q) : Met l yX3_placeNotes (wsU yX3_placeNotes cX3_placeNotes 6 (some .int)) (rmD 5) (PcW ixC enC g S0 sz [.ref (g.2.2 3 0)]) (QiW ixC enC g sz q.1 q.2) 0 0 (Aw ixC g sz) := by
  refine met_intro (Qc := fun z9 => QiW ixC enC g z9 q.1 q.2) (free := fun z9 => Aw ixC g z9) [.ref (g.2.2 3 0)] RX3 rfl (by decide) (Nat.le_of_ble_eq_true rfl) (fun p e s m args below meth c H locs F hr hlocks B ls hl => ?_)
  have hl : lv_has ls 6 [(0, .ref (g.2.2 3 0))] := hl
  have hx := F.1
  have hb := F.2.1
  unfold f_X3_placeNotes at h
  refine lv_iconst (v := 0) hx hb dX3_placeNotes_0 (by decide) ?_
  refine lv_istore_n (lv' := [(1, .int 0), (0, .ref (g.2.2 3 0))]) hx hb dX3_placeNotes_1 rfl hl (by decide) rfl (fun ls hl => ?_)
  have L2 : ∀ (k2 : Nat) (x1 : Int32) (S : mem), lp (b_X3_placeNotes_2 n) k2 (x1, S) = some q → ∀ (H : Heap) (locs : List Loc) (ls : Array Slot), Wd ixC enC g S (Aw ixC g s.heap.size) s H locs → lv_has ls 6 [(0, .ref (g.2.2 3 0)), (1, .int x1)] → W p l e (rmD 5) s m args below meth c H locs 0 0 (MQ below (QiW ixC enC g s.heap.size q.1 q.2) args s 0 0 (Aw ixC g s.heap.size)) (F0 m 2 ls []) := by
    intro k2
    induction k2 with
    | zero => intro x1 S h; exact (lp_zero h).elim
    | succ k2 ih2 =>
      intro x1 S h H locs ls B hl
      obtain ⟨t2, h, ht2⟩ := lp_succ h
      unfold b_X3_placeNotes_2 at h
      (try dsimp only at h)
      refine lv_iload_n hx hb dX3_placeNotes_2 rfl (lv_at hl 1 rfl) ?_
      refine lv_iconst (v := 4) hx hb dX3_placeNotes_3 (by decide) ?_
      refine lv_icmp_ge (tgt := 23) hx hb dX3_placeNotes_4 (by decide) (fun c1 => ?_) (fun c1 => ?_)
      · rw [if_pos c1] at h
        refine lv_iconst (v := 0) hx hb dX3_placeNotes_23 (by decide) ?_
        refine lv_istore_n (lv' := [(1, .int 0), (0, .ref (g.2.2 3 0))]) hx hb dX3_placeNotes_24 rfl hl (by decide) rfl (fun ls hl => ?_)
        refine lv_iconst (v := 0) hx hb dX3_placeNotes_25 (by decide) ?_
        refine lv_istore_n (lv' := [(2, .int 0), (1, .int 0), (0, .ref (g.2.2 3 0))]) hx hb dX3_placeNotes_26 rfl hl (by decide) rfl (fun ls hl => ?_)
        refine lv_iconst (v := 0) hx hb dX3_placeNotes_27 (by decide) ?_
        refine lv_istore_n (lv' := [(3, .int 0), (2, .int 0), (1, .int 0), (0, .ref (g.2.2 3 0))]) hx hb dX3_placeNotes_28 rfl hl (by decide) rfl (fun ls hl => ?_)
        refine lv_iconst (v := 0) hx hb dX3_placeNotes_29 (by decide) ?_
        refine lv_istore (lv' := [(4, .int 0), (3, .int 0), (2, .int 0), (1, .int 0), (0, .ref (g.2.2 3 0))]) hx hb dX3_placeNotes_30 hl (by decide) rfl (fun ls hl => ?_)
        have L32 : ∀ (k32 : Nat) (x1 : Int32) (x2 : Int32) (x3 : Int32) (x4 : Int32) (S : mem), lp (b_X3_placeNotes_32 n) k32 (x1, x2, x3, x4, S) = some t2 → ∀ (H : Heap) (locs : List Loc) (ls : Array Slot), Wd ixC enC g S (Aw ixC g s.heap.size) s H locs → lv_has ls 6 [(0, .ref (g.2.2 3 0)), (1, .int x1), (2, .int x2), (3, .int x3), (4, .int x4)] → W p l e (rmD 5) s m args below meth c H locs 0 0 (MQ below (QiW ixC enC g s.heap.size q.1 q.2) args s 0 0 (Aw ixC g s.heap.size)) (F0 m 32 ls []) := by
          intro k32
          induction k32 with
          | zero => intro x1 x2 x3 x4 S h; exact (lp_zero h).elim
          | succ k32 ih32 =>
            intro x1 x2 x3 x4 S h H locs ls B hl
            obtain ⟨t32, h, ht32⟩ := lp_succ h
            unfold b_X3_placeNotes_32 at h
            (try dsimp only at h)
            refine lv_iload hx hb dX3_placeNotes_32 (lv_at hl 4 rfl) ?_
            refine lv_aload_n hx hb dX3_placeNotes_34 rfl (lv_at hl 0 rfl) ?_
            refine gt_X3_4 F B mF_X3_43 dX3_placeNotes_35 ?_
            refine lv_icmp_ge (tgt := 168) hx hb dX3_placeNotes_38 (by decide) (fun c2 => ?_) (fun c2 => ?_)
            · rw [if_pos c2] at h
              refine lv_aload_n hx hb dX3_placeNotes_168 rfl (lv_at hl 0 rfl) ?_
              refine gt_X3_4 F B mF_X3_43 dX3_placeNotes_169 ?_
              refine lv_if_le (tgt := 194) hx hb dX3_placeNotes_172 (by decide) (fun c3 => ?_) (fun c3 => ?_)
              · rw [if_pos c3] at h
                refine lv_iload_n hx hb dX3_placeNotes_194 rfl (lv_at hl 3 rfl) ?_
                obtain rfl := Option.some.inj h
                obtain rfl := (show _ = t2 from ht32)
                obtain rfl := (show _ = q from ht2)
                exact w_iret F hr hlocks B dX3_placeNotes_195
              · rw [if_neg c3] at h
                refine lv_iload_n hx hb dX3_placeNotes_175 rfl (lv_at hl 3 rfl) ?_
                refine lv_aload_n hx hb dX3_placeNotes_176 rfl (lv_at hl 0 rfl) ?_
                refine gt_X3_0 F B mF_X3_11 dX3_placeNotes_177 ?_
                refine lv_aload_n hx hb dX3_placeNotes_180 rfl (lv_at hl 0 rfl) ?_
                refine gt_X3_4 F B mF_X3_43 dX3_placeNotes_181 ?_
                refine lv_iconst (v := 1) hx hb dX3_placeNotes_184 (by decide) ?_
                refine lv_isub hx hb dX3_placeNotes_185 ?_
                obtain ⟨z4, h⟩ := grd_some h
                refine al_C4 F B  z4 dX3_placeNotes_186 ?_
                obtain ⟨q5, hq5, h⟩ := cal_some h
                refine w_callNi F B (c_X1_end l g n S H.size (Int32.toNatClampNeg ((S 3 0 4) - 1)) (ltI z4) q5 hq5) mC_X1_end nM_X3_254 mN_X1 mI_X1_end mS_X1_end (ixC_1 (ltI z4)) rfl rfl ⟨ok_X1_end, by decide⟩ rfl hl.1 rfl (Nat.le_of_ble_eq_true rfl) dX3_placeNotes_187 (fun H locs B => ?_)
                refine w_mmax F hl.1 mM_X3_117 (by decide) (Nat.le_of_ble_eq_true rfl) dX3_placeNotes_190 ?_
                refine lv_istore_n (lv' := [(3, .int (if x3 < q5 then q5 else x3)), (0, .ref (g.2.2 3 0)), (1, .int x1), (2, .int x2), (4, .int x4)]) hx hb dX3_placeNotes_193 rfl hl (by decide) rfl (fun ls hl => ?_)
                refine lv_iload_n hx hb dX3_placeNotes_194 rfl (lv_at hl 0 rfl) ?_
                obtain rfl := Option.some.inj h
                obtain rfl := (show _ = t2 from ht32)
                obtain rfl := (show _ = q from ht2)
                exact w_iret F hr hlocks B dX3_placeNotes_195
            · rw [if_neg c2] at h
              refine lv_aload_n hx hb dX3_placeNotes_41 rfl (lv_at hl 0 rfl) ?_
              refine gt_X3_0 F B mF_X3_11 dX3_placeNotes_42 ?_
              refine lv_iload hx hb dX3_placeNotes_45 (lv_at hl 4 rfl) ?_
              obtain ⟨z6, h⟩ := grd_some h
              refine al_C4 F B  z6 dX3_placeNotes_47 ?_
              refine lv_astore (lv' := [(5, .ref (g.2.2 1 (Int32.toNatClampNeg x4))), (0, .ref (g.2.2 3 0)), (1, .int x1), (2, .int x2), (3, .int x3), (4, .int x4)]) hx hb dX3_placeNotes_48 hl (by decide) rfl (fun ls hl => ?_)
              refine lv_aload hx hb dX3_placeNotes_50 (lv_at hl 0 rfl) ?_
              refine lv_iload_n hx hb dX3_placeNotes_52 rfl (lv_at hl 2 rfl) ?_
              refine lv_aload_n hx hb dX3_placeNotes_53 rfl (lv_at hl 1 rfl) ?_
              refine lv_iload hx hb dX3_placeNotes_54 (lv_at hl 5 rfl) ?_
              obtain ⟨q7, hq7, h⟩ := cal_some h
              refine w_callVi F B (c_X3_leastForBoxes l g n S H.size x4 q7 hq7) mC_X3_leastForBoxes mM_X3_242 mN_X3 mI_X3_leastForBoxes mS_X3_leastForBoxes ixC_3 rfl rfl ⟨ok_X3_leastForBoxes, by decide⟩ rfl hl.1 rfl (Nat.le_of_ble_eq_true rfl) dX3_placeNotes_56 (fun H locs B => ?_)
              refine w_mmax F hl.1 mM_X3_117 (by decide) (Nat.le_of_ble_eq_true rfl) dX3_placeNotes_59 ?_
              refine pn_X1_7 F B (ltI z6) nF_X3_123 dX3_placeNotes_62 (fun H locs B => ?_)
              refine lv_aload hx hb dX3_placeNotes_65 (lv_at hl 0 rfl) ?_
              refine gn_X1_3 F B (ltI z6) nF_X3_79 dX3_placeNotes_67 ?_
              refine w_cv (S 1 (Int32.toNatClampNeg x4) 3) (mup_j (by decide)) ?_
              have J118 : ∀ (S : mem) (x1 : Int32) (x2 : Int32) (x3 : Int32) (x4 : Int32) (i5 : Nat) (hi5 : i5 < 60), j_X3_placeNotes_118 n S x1 x2 x3 x4 i5 = some t32 → ∀ (H : Heap) (locs : List Loc) (ls : Array Slot), Wd ixC enC g S (Aw ixC g s.heap.size) s H locs → lv_has ls 6 [(0, .ref (g.2.2 3 0)), (1, .int x1), (2, .int x2), (3, .int x3), (4, .int x4), (5, .ref (g.2.2 1 i5))] → W p l e (rmD 5) s m args below meth c H locs 0 0 (MQ below (QiW ixC enC g s.heap.size q.1 q.2) args s 0 0 (Aw ixC g s.heap.size)) (F0 m 118 ls []) := by
                intro S x1 x2 x3 x4 i5 hi5 h H locs ls B hl
                unfold j_X3_placeNotes_118 at h
                refine lv_aload hx hb dX3_placeNotes_118 (lv_at hl 5 rfl) ?_
                refine lv_aload hx hb dX3_placeNotes_120 (lv_at hl 5 rfl) ?_
                refine gn_X1_7 F B hi5 nF_X3_123 dX3_placeNotes_122 ?_
                refine lv_iload_n hx hb dX3_placeNotes_125 rfl (lv_at hl 1 rfl) ?_
                refine lv_isub hx hb dX3_placeNotes_126 ?_
                refine pn_X1_8 F B hi5 nF_X3_126 dX3_placeNotes_127 (fun H locs B => ?_)
                refine lv_aload hx hb dX3_placeNotes_130 (lv_at hl 5 rfl) ?_
                refine gn_X1_7 F B hi5 nF_X3_123 dX3_placeNotes_132 ?_
                refine w_cv (S 1 i5 7) (mup_j (by decide)) ?_
                refine lv_aload hx hb dX3_placeNotes_135 (lv_at hl 5 rfl) ?_
                refine gn_X1_0 F B hi5 nF_X3_245 dX3_placeNotes_137 ?_
                refine w_cv (S 1 i5 0) (mup_j (by decide)) ?_
                refine lv_iadd hx hb dX3_placeNotes_140 ?_
                refine lv_bipush (v := 10) hx hb dX3_placeNotes_141 (by decide) ?_
                refine lv_aload hx hb dX3_placeNotes_143 (lv_at hl 5 rfl) ?_
                refine gn_X1_1 F B hi5 nF_X3_248 dX3_placeNotes_145 ?_
                refine w_cv (S 1 i5 1) (mup_j (by decide)) ?_
                refine lv_imul hx hb dX3_placeNotes_148 ?_
                refine lv_iadd hx hb dX3_placeNotes_149 ?_
                refine lv_istore_n (lv' := [(1, .int (((S 1 i5 7) + (S 1 i5 0)) + (10 * (S 1 i5 1)))), (0, .ref (g.2.2 3 0)), (2, .int x2), (3, .int x3), (4, .int x4), (5, .ref (g.2.2 1 i5))]) hx hb dX3_placeNotes_150 rfl hl (by decide) rfl (fun ls hl => ?_)
                refine lv_iload_n hx hb dX3_placeNotes_151 rfl (lv_at hl 3 rfl) ?_
                refine lv_aload_n hx hb dX3_placeNotes_152 rfl (lv_at hl 1 rfl) ?_
                refine lv_iload hx hb dX3_placeNotes_153 (lv_at hl 4 rfl) ?_
                obtain ⟨q8, hq8, h⟩ := cal_some h
                refine w_callVi F B (c_X3_placeBoxes l g n (mup S 1 i5 8 ((S 1 i5 7) - x1)) H.size x4 q8 hq8) mC_X3_placeBoxes mM_X3_251 mN_X3 mI_X3_placeBoxes mS_X3_placeBoxes ixC_3 rfl rfl ⟨ok_X3_placeBoxes, by decide⟩ rfl hl.1 rfl (Nat.le_of_ble_eq_true rfl) dX3_placeNotes_155 (fun H locs B => ?_)
                refine w_mmax F hl.1 mM_X3_117 (by decide) (Nat.le_of_ble_eq_true rfl) dX3_placeNotes_158 ?_
                refine lv_istore_n (lv' := [(3, .int (if x3 < q8.1 then q8.1 else x3)), (1, .int (((S 1 i5 7) + (S 1 i5 0)) + (10 * (S 1 i5 1)))), (0, .ref (g.2.2 3 0)), (2, .int x2), (4, .int x4), (5, .ref (g.2.2 1 i5))]) hx hb dX3_placeNotes_161 rfl hl (by decide) rfl (fun ls hl => ?_)
                refine lv_iinc (v := x4 + 1) (lv' := [(4, .int (x4 + 1)), (3, .int (if x3 < q8.1 then q8.1 else x3)), (1, .int (((S 1 i5 7) + (S 1 i5 0)) + (10 * (S 1 i5 1)))), (0, .ref (g.2.2 3 0)), (2, .int x2), (5, .ref (g.2.2 1 i5))]) hx hb dX3_placeNotes_162 hl (k := 4) rfl rfl (by decide) rfl (fun ls hl => ?_)
                refine lv_goto (tgt := 32) hx hb dX3_placeNotes_165 (by decide) ?_
                obtain rfl := Option.some.inj h
                exact ih32 (((S 1 i5 7) + (S 1 i5 0)) + (10 * (S 1 i5 1))) x2 (if x3 < q8.1 then q8.1 else x3) (x4 + 1) q8.2 ht32 H locs ls B (lv_sub hl [3, 2, 4, 1, 0] rfl)
              refine lv_if_le (tgt := 118) hx hb dX3_placeNotes_70 (by decide) (fun c9 => ?_) (fun c9 => ?_)
              · rw [if_pos c9] at h
                exact J118 (mup S 1 (Int32.toNatClampNeg x4) 7 (if x1 < q7 then q7 else x1)) x1 x2 x3 x4 (Int32.toNatClampNeg x4) (ltI z6) h H locs ls B (lv_sub hl [1, 2, 3, 4, 5, 0] rfl)
              · rw [if_neg c9] at h
                refine lv_aload hx hb dX3_placeNotes_73 (lv_at hl 0 rfl) ?_
                refine lv_aload hx hb dX3_placeNotes_75 (lv_at hl 0 rfl) ?_
                refine gn_X1_7 F B (ltI z6) nF_X3_123 dX3_placeNotes_77 ?_
                refine w_cv (if x1 < q7 then q7 else x1) (mup_s) ?_
                refine lv_iload_n hx hb dX3_placeNotes_80 rfl (lv_at hl 3 rfl) ?_
                refine w_mmax F hl.1 mM_X3_117 (by decide) (Nat.le_of_ble_eq_true rfl) dX3_placeNotes_81 ?_
                refine pn_X1_7 F B (ltI z6) nF_X3_123 dX3_placeNotes_84 (fun H locs B => ?_)
                refine lv_iload_n hx hb dX3_placeNotes_87 rfl (lv_at hl 4 rfl) ?_
                refine lv_aload hx hb dX3_placeNotes_88 (lv_at hl 0 rfl) ?_
                refine gn_X1_7 F B (ltI z6) nF_X3_123 dX3_placeNotes_90 ?_
                refine w_cv (if (if x1 < q7 then q7 else x1) < x2 then x2 else (if x1 < q7 then q7 else x1)) (mup_s) ?_
                refine lv_aload hx hb dX3_placeNotes_93 (lv_at hl 0 rfl) ?_
                refine gn_X1_3 F B (ltI z6) nF_X3_79 dX3_placeNotes_95 ?_
                refine w_cv (S 1 (Int32.toNatClampNeg x4) 3) ((mup_j (by decide)).trans (mup_j (by decide))) ?_
                refine lv_iadd hx hb dX3_placeNotes_98 ?_
                refine w_mmax F hl.1 mM_X3_117 (by decide) (Nat.le_of_ble_eq_true rfl) dX3_placeNotes_99 ?_
                refine lv_istore_n (lv' := [(3, .int (if x3 < ((if (if x1 < q7 then q7 else x1) < x2 then x2 else (if x1 < q7 then q7 else x1)) + (S 1 (Int32.toNatClampNeg x4) 3)) then ((if (if x1 < q7 then q7 else x1) < x2 then x2 else (if x1 < q7 then q7 else x1)) + (S 1 (Int32.toNatClampNeg x4) 3)) else x3)), (5, .ref (g.2.2 1 (Int32.toNatClampNeg x4))), (0, .ref (g.2.2 3 0)), (1, .int x1), (2, .int x2), (4, .int x4)]) hx hb dX3_placeNotes_102 rfl hl (by decide) rfl (fun ls hl => ?_)
                refine lv_aload hx hb dX3_placeNotes_103 (lv_at hl 1 rfl) ?_
                refine gn_X1_7 F B (ltI z6) nF_X3_123 dX3_placeNotes_105 ?_
                refine w_cv (if (if x1 < q7 then q7 else x1) < x2 then x2 else (if x1 < q7 then q7 else x1)) (mup_s) ?_
                refine lv_aload hx hb dX3_placeNotes_108 (lv_at hl 1 rfl) ?_
                refine gn_X1_3 F B (ltI z6) nF_X3_79 dX3_placeNotes_110 ?_
                refine w_cv (S 1 (Int32.toNatClampNeg x4) 3) ((mup_j (by decide)).trans (mup_j (by decide))) ?_
                refine lv_iadd hx hb dX3_placeNotes_113 ?_
                refine lv_bipush (v := 10) hx hb dX3_placeNotes_114 (by decide) ?_
                refine lv_iadd hx hb dX3_placeNotes_116 ?_
                refine lv_istore_n (lv' := [(2, .int (((if (if x1 < q7 then q7 else x1) < x2 then x2 else (if x1 < q7 then q7 else x1)) + (S 1 (Int32.toNatClampNeg x4) 3)) + 10)), (3, .int (if x3 < ((if (if x1 < q7 then q7 else x1) < x2 then x2 else (if x1 < q7 then q7 else x1)) + (S 1 (Int32.toNatClampNeg x4) 3)) then ((if (if x1 < q7 then q7 else x1) < x2 then x2 else (if x1 < q7 then q7 else x1)) + (S 1 (Int32.toNatClampNeg x4) 3)) else x3)), (5, .ref (g.2.2 1 (Int32.toNatClampNeg x4))), (0, .ref (g.2.2 3 0)), (1, .int x1), (4, .int x4)]) hx hb dX3_placeNotes_117 rfl hl (by decide) rfl (fun ls hl => ?_)
                exact J118 (mup (mup S 1 (Int32.toNatClampNeg x4) 7 (if x1 < q7 then q7 else x1)) 1 (Int32.toNatClampNeg x4) 7 (if (if x1 < q7 then q7 else x1) < x2 then x2 else (if x1 < q7 then q7 else x1))) x1 (((if (if x1 < q7 then q7 else x1) < x2 then x2 else (if x1 < q7 then q7 else x1)) + (S 1 (Int32.toNatClampNeg x4) 3)) + 10) (if x3 < ((if (if x1 < q7 then q7 else x1) < x2 then x2 else (if x1 < q7 then q7 else x1)) + (S 1 (Int32.toNatClampNeg x4) 3)) then ((if (if x1 < q7 then q7 else x1) < x2 then x2 else (if x1 < q7 then q7 else x1)) + (S 1 (Int32.toNatClampNeg x4) 3)) else x3) x4 (Int32.toNatClampNeg x4) (ltI z6) h H locs ls B (lv_sub hl [3, 4, 0, 1, 5, 2] rfl)
        exact L32 n 0 0 0 0 S h H locs ls B (lv_sub hl [4, 3, 2, 1, 0] rfl)
      · rw [if_neg c1] at h
        refine lv_aload_n hx hb dX3_placeNotes_7 rfl (lv_at hl 0 rfl) ?_
        refine gt_X3_1 F B mF_X3_17 dX3_placeNotes_8 ?_
        refine lv_iload_n hx hb dX3_placeNotes_11 rfl (lv_at hl 1 rfl) ?_
        obtain ⟨z10, h⟩ := grd_some h
        refine al_C5 F B  z10 dX3_placeNotes_12 ?_
        refine lv_iconst (v := 0) hx hb dX3_placeNotes_13 (by decide) ?_
        refine pn_X2_8 F B (ltI z10) nF_X3_239 dX3_placeNotes_14 (fun H locs B => ?_)
        refine lv_iinc (v := x1 + 1) (lv' := [(1, .int (x1 + 1)), (0, .ref (g.2.2 3 0))]) hx hb dX3_placeNotes_17 hl (k := 1) rfl rfl (by decide) rfl (fun ls hl => ?_)
        refine lv_goto (tgt := 2) hx hb dX3_placeNotes_20 (by decide) ?_
        obtain rfl := Option.some.inj h
        exact ih2 (x1 + 1) (mup S 2 (Int32.toNatClampNeg x1) 8 0) ht2 H locs ls B (lv_sub hl [1, 0] rfl)
  exact L2 n 0 S0 h H locs ls B (lv_sub hl [1, 0] rfl)
/-- public int place() -/
def f_X3_place (n : Nat) (S0 : mem) : Option (Int32 × mem) :=
cal (f_X3_placeNotes n S0) fun q1 => (
some ((if (q1.1 - (q1.2 3 0 7)) < 0 then 0 else (q1.1 - (q1.2 3 0 7)), mup q1.2 3 0 8 1)))
set_option maxRecDepth 100000 in
set_option maxHeartbeats 4000000 in
theorem c_X3_place (l : Launch) (g : cx) (n : Nat) (S0 : mem) (sz : Nat)  (q : Int32 × mem) (h : f_X3_place n S0 = some q) : Met l yX3_place (wsU yX3_place cX3_place 2 (some .int)) (rmD 6) (PcW ixC enC g S0 sz [.ref (g.2.2 3 0)]) (QiW ixC enC g sz q.1 q.2) 0 0 (Aw ixC g sz) := by
  refine met_intro (Qc := fun z9 => QiW ixC enC g z9 q.1 q.2) (free := fun z9 => Aw ixC g z9) [.ref (g.2.2 3 0)] RX3 rfl (by decide) (Nat.le_of_ble_eq_true rfl) (fun p e s m args below meth c H locs F hr hlocks B ls hl => ?_)
  have hl : lv_has ls 2 [(0, .ref (g.2.2 3 0))] := hl
  have hx := F.1
  have hb := F.2.1
  unfold f_X3_place at h
  refine lv_aload_n hx hb dX3_place_0 rfl (lv_at hl 0 rfl) ?_
  obtain ⟨q1, hq1, h⟩ := cal_some h
  refine w_callVi F B (c_X3_placeNotes l g n S0 H.size  q1 hq1) mC_X3_placeNotes mM_X3_113 mN_X3 mI_X3_placeNotes mS_X3_placeNotes ixC_3 rfl rfl ⟨ok_X3_placeNotes, by decide⟩ rfl hl.1 rfl (Nat.le_of_ble_eq_true rfl) dX3_place_1 (fun H locs B => ?_)
  refine lv_aload_n hx hb dX3_place_4 rfl (lv_at hl 0 rfl) ?_
  refine gt_X3_7 F B mF_X3_32 dX3_place_5 ?_
  refine lv_isub hx hb dX3_place_8 ?_
  refine lv_istore_n (lv' := [(1, .int (q1.1 - (q1.2 3 0 7))), (0, .ref (g.2.2 3 0))]) hx hb dX3_place_9 rfl hl (by decide) rfl (fun ls hl => ?_)
  refine lv_aload_n hx hb dX3_place_10 rfl (lv_at hl 1 rfl) ?_
  refine lv_iconst (v := 1) hx hb dX3_place_11 (by decide) ?_
  refine pt_X3_8 F B (Or.inr rfl) mF_X3_51 dX3_place_12 (fun H locs B => ?_)
  refine lv_iload_n hx hb dX3_place_15 rfl (lv_at hl 0 rfl) ?_
  refine lv_iconst (v := 0) hx hb dX3_place_16 (by decide) ?_
  refine w_mmax F hl.1 mM_X3_117 (by decide) (Nat.le_of_ble_eq_true rfl) dX3_place_17 ?_
  obtain rfl := Option.some.inj h
  exact w_iret F hr hlocks B dX3_place_20
/-- public int x(int, int) -/
def f_X3_x (n : Nat) (S0 : mem) (x1 : Int32) (x2 : Int32) : Option (Int32) :=
cal (f_X3_isNote n S0 x1) fun q1 => (
if q1 = 0 then (
some (-1000001)) else (
cal (f_X3_isOutside n S0 x2 0 1) fun q3 => (
if q3 = 0 then (
if (S0 3 0 8) = 0 then (
some (-1000003)) else (
if x2 = 0 then (
grd (¬ (x1 < 0 ∨ 60 ≤ Int32.toNatClampNeg x1)) (
some (S0 1 (Int32.toNatClampNeg x1) 7))) else (
grd (¬ (x1 < 0 ∨ 60 ≤ Int32.toNatClampNeg x1)) (
some (S0 1 (Int32.toNatClampNeg x1) 8))))) else (
some (-1000002)))))
set_option maxRecDepth 100000 in
set_option maxHeartbeats 4000000 in
theorem c_X3_x (l : Launch) (g : cx) (n : Nat) (S0 : mem) (sz : Nat) (x1 : Int32) (x2 : Int32) (q : Int32) (h : f_X3_x n S0 x1 x2 = some q) : Met l yX3_x (wsU yX3_x cX3_x 3 (some .int)) (rmD 1) (PcW ixC enC g S0 sz [.ref (g.2.2 3 0), .int x1, .int x2]) (QiW ixC enC g sz q S0) 0 0 (Aw ixC g sz) := by
  refine met_intro (Qc := fun z9 => QiW ixC enC g z9 q S0) (free := fun z9 => Aw ixC g z9) [.ref (g.2.2 3 0), .int x1, .int x2] RX3 rfl (by decide) (Nat.le_of_ble_eq_true rfl) (fun p e s m args below meth c H locs F hr hlocks B ls hl => ?_)
  have hl : lv_has ls 3 [(0, .ref (g.2.2 3 0)), (1, .int x1), (2, .int x2)] := hl
  have hx := F.1
  have hb := F.2.1
  unfold f_X3_x at h
  refine lv_aload_n hx hb dX3_x_0 rfl (lv_at hl 0 rfl) ?_
  refine lv_iload_n hx hb dX3_x_1 rfl (lv_at hl 1 rfl) ?_
  obtain ⟨q1, hq1, h⟩ := cal_some h
  refine w_callVi F B (c_X3_isNote l g n S0 H.size x1 q1 hq1) mC_X3_isNote mM_X3_55 mN_X3 mI_X3_isNote mS_X3_isNote ixC_3 rfl rfl ⟨ok_X3_isNote, by decide⟩ rfl hl.1 rfl (Nat.le_of_ble_eq_true rfl) dX3_x_2 (fun H locs B => ?_)
  refine lv_if_ne (tgt := 11) hx hb dX3_x_5 (by decide) (fun c2 => ?_) (fun c2 => ?_)
  · rw [if_neg c2] at h
    refine lv_iload_n hx hb dX3_x_11 rfl (lv_at hl 2 rfl) ?_
    refine lv_iconst (v := 0) hx hb dX3_x_12 (by decide) ?_
    refine lv_iconst (v := 1) hx hb dX3_x_13 (by decide) ?_
    obtain ⟨q3, hq3, h⟩ := cal_some h
    refine w_callSi F B (c_X3_isOutside l g n S0 H.size x2 0 1 q3 hq3) mC_X3_isOutside mM_X3_38 mN_X3 mT_X3_isOutside ⟨ok_X3_isOutside, by decide⟩ rfl hl.1 rfl (Nat.le_of_ble_eq_true rfl) dX3_x_14 (fun H locs B => ?_)
    refine lv_if_eq (tgt := 23) hx hb dX3_x_17 (by decide) (fun c4 => ?_) (fun c4 => ?_)
    · rw [if_pos c4] at h
      refine lv_aload_n hx hb dX3_x_23 rfl (lv_at hl 0 rfl) ?_
      refine gt_X3_8 F B mF_X3_51 dX3_x_24 ?_
      refine lv_if_ne (tgt := 33) hx hb dX3_x_27 (by decide) (fun c5 => ?_) (fun c5 => ?_)
      · rw [if_neg c5] at h
        refine lv_iload_n hx hb dX3_x_33 rfl (lv_at hl 2 rfl) ?_
        refine lv_if_ne (tgt := 49) hx hb dX3_x_34 (by decide) (fun c6 => ?_) (fun c6 => ?_)
        · rw [if_neg c6] at h
          refine lv_aload_n hx hb dX3_x_49 rfl (lv_at hl 0 rfl) ?_
          refine gt_X3_0 F B mF_X3_11 dX3_x_50 ?_
          refine lv_iload_n hx hb dX3_x_53 rfl (lv_at hl 1 rfl) ?_
          obtain ⟨z7, h⟩ := grd_some h
          refine al_C4 F B  z7 dX3_x_54 ?_
          refine gn_X1_8 F B (ltI z7) nF_X3_126 dX3_x_55 ?_
          obtain rfl := Option.some.inj h
          exact w_iret F hr hlocks B dX3_x_58
        · rw [if_pos c6] at h
          refine lv_aload_n hx hb dX3_x_37 rfl (lv_at hl 0 rfl) ?_
          refine gt_X3_0 F B mF_X3_11 dX3_x_38 ?_
          refine lv_iload_n hx hb dX3_x_41 rfl (lv_at hl 1 rfl) ?_
          obtain ⟨z8, h⟩ := grd_some h
          refine al_C4 F B  z8 dX3_x_42 ?_
          refine gn_X1_7 F B (ltI z8) nF_X3_123 dX3_x_43 ?_
          refine lv_goto (tgt := 58) hx hb dX3_x_46 (by decide) ?_
          obtain rfl := Option.some.inj h
          exact w_iret F hr hlocks B dX3_x_58
      · rw [if_pos c5] at h
        refine lv_ldc (v := -1000003) hx hb F.2.2.2.1 (F.2.2.2.2 _ (wsU_in mK_X3_67)) dX3_x_30 ?_
        obtain rfl := Option.some.inj h
        exact w_iret F hr hlocks B dX3_x_32
    · rw [if_neg c4] at h
      refine lv_ldc (v := -1000002) hx hb F.2.2.2.1 (F.2.2.2.2 _ (wsU_in mK_X3_42)) dX3_x_20 ?_
      obtain rfl := Option.some.inj h
      exact w_iret F hr hlocks B dX3_x_22
  · rw [if_pos c2] at h
    refine lv_ldc (v := -1000001) hx hb F.2.2.2.1 (F.2.2.2.2 _ (wsU_in mK_X3_62)) dX3_x_8 ?_
    obtain rfl := Option.some.inj h
    exact w_iret F hr hlocks B dX3_x_10
/-- private boolean isBox(int, int) -/
def f_X3_isBox (n : Nat) (S0 : mem) (x1 : Int32) (x2 : Int32) : Option (Int32) :=
cal (f_X3_isNote n S0 x1) fun q1 => (
if q1 = 0 then (
some (0)) else (
cal (f_X3_isVerse n S0 x2) fun q3 => (
if q3 = 0 then (
some (0)) else (
grd (¬ (x2 < 0 ∨ 4 ≤ Int32.toNatClampNeg x2)) (
cal (f_X2_hasBox n S0 (Int32.toNatClampNeg x2) x1) fun q6 => (
if q6 = 0 then (
some (0)) else (
some (1))))))))
set_option maxRecDepth 100000 in
set_option maxHeartbeats 4000000 in
theorem c_X3_isBox (l : Launch) (g : cx) (n : Nat) (S0 : mem) (sz : Nat) (x1 : Int32) (x2 : Int32) (q : Int32) (h : f_X3_isBox n S0 x1 x2 = some q) : Met l yX3_isBox (wsU yX3_isBox cX3_isBox 3 (some .boolean)) (rmD 1) (PcW ixC enC g S0 sz [.ref (g.2.2 3 0), .int x1, .int x2]) (QiW ixC enC g sz q S0) 0 0 (Aw ixC g sz) := by
  refine met_intro (Qc := fun z9 => QiW ixC enC g z9 q S0) (free := fun z9 => Aw ixC g z9) [.ref (g.2.2 3 0), .int x1, .int x2] RX3 rfl (by decide) (Nat.le_of_ble_eq_true rfl) (fun p e s m args below meth c H locs F hr hlocks B ls hl => ?_)
  have hl : lv_has ls 3 [(0, .ref (g.2.2 3 0)), (1, .int x1), (2, .int x2)] := hl
  have hx := F.1
  have hb := F.2.1
  unfold f_X3_isBox at h
  refine lv_aload_n hx hb dX3_isBox_0 rfl (lv_at hl 0 rfl) ?_
  refine lv_iload_n hx hb dX3_isBox_1 rfl (lv_at hl 1 rfl) ?_
  obtain ⟨q1, hq1, h⟩ := cal_some h
  refine w_callVi F B (c_X3_isNote l g n S0 H.size x1 q1 hq1) mC_X3_isNote mM_X3_55 mN_X3 mI_X3_isNote mS_X3_isNote ixC_3 rfl rfl ⟨ok_X3_isNote, by decide⟩ rfl hl.1 rfl (Nat.le_of_ble_eq_true rfl) dX3_isBox_2 (fun H locs B => ?_)
  refine lv_if_eq (tgt := 32) hx hb dX3_isBox_5 (by decide) (fun c2 => ?_) (fun c2 => ?_)
  · rw [if_pos c2] at h
    refine lv_iconst (v := 0) hx hb dX3_isBox_32 (by decide) ?_
    obtain rfl := Option.some.inj h
    exact w_zret F hr hlocks (Or.inl rfl) B dX3_isBox_33
  · rw [if_neg c2] at h
    refine lv_iload_n hx hb dX3_isBox_8 rfl (lv_at hl 2 rfl) ?_
    obtain ⟨q3, hq3, h⟩ := cal_some h
    refine w_callSi F B (c_X3_isVerse l g n S0 H.size x2 q3 hq3) mC_X3_isVerse mM_X3_59 mN_X3 mT_X3_isVerse ⟨ok_X3_isVerse, by decide⟩ rfl hl.1 rfl (Nat.le_of_ble_eq_true rfl) dX3_isBox_9 (fun H locs B => ?_)
    refine lv_if_eq (tgt := 32) hx hb dX3_isBox_12 (by decide) (fun c4 => ?_) (fun c4 => ?_)
    · rw [if_pos c4] at h
      refine lv_iconst (v := 0) hx hb dX3_isBox_32 (by decide) ?_
      obtain rfl := Option.some.inj h
      exact w_zret F hr hlocks (Or.inl rfl) B dX3_isBox_33
    · rw [if_neg c4] at h
      refine lv_aload_n hx hb dX3_isBox_15 rfl (lv_at hl 0 rfl) ?_
      refine gt_X3_1 F B mF_X3_17 dX3_isBox_16 ?_
      refine lv_iload_n hx hb dX3_isBox_19 rfl (lv_at hl 2 rfl) ?_
      obtain ⟨z5, h⟩ := grd_some h
      refine al_C5 F B  z5 dX3_isBox_20 ?_
      refine lv_iload_n hx hb dX3_isBox_21 rfl (lv_at hl 1 rfl) ?_
      obtain ⟨q6, hq6, h⟩ := cal_some h
      refine w_callNi F B (c_X2_hasBox l g n S0 H.size (Int32.toNatClampNeg x2) (ltI z5) x1 q6 hq6) mC_X2_hasBox nM_X3_173 mN_X2 mI_X2_hasBox mS_X2_hasBox (ixC_2 (ltI z5)) rfl rfl ⟨ok_X2_hasBox, by decide⟩ rfl hl.1 rfl (Nat.le_of_ble_eq_true rfl) dX3_isBox_22 (fun H locs B => ?_)
      refine lv_if_eq (tgt := 32) hx hb dX3_isBox_25 (by decide) (fun c7 => ?_) (fun c7 => ?_)
      · rw [if_pos c7] at h
        refine lv_iconst (v := 0) hx hb dX3_isBox_32 (by decide) ?_
        obtain rfl := Option.some.inj h
        exact w_zret F hr hlocks (Or.inl rfl) B dX3_isBox_33
      · rw [if_neg c7] at h
        refine lv_iconst (v := 1) hx hb dX3_isBox_28 (by decide) ?_
        refine lv_goto (tgt := 33) hx hb dX3_isBox_29 (by decide) ?_
        obtain rfl := Option.some.inj h
        exact w_zret F hr hlocks (Or.inr rfl) B dX3_isBox_33
def j_X3_box_137 (n : Nat) (S0 : mem) (y0 : Int32) : Option (Int32) :=
cal (f_X3_asNumber n S0 y0) fun q19 => (
some (q19))
/-- public int box(int, int, int) -/
def f_X3_box (n : Nat) (S0 : mem) (x1 : Int32) (x2 : Int32) (x3 : Int32) : Option (Int32) :=
cal (f_X3_isBox n S0 x1 x2) fun q1 => (
if q1 = 0 then (
some (-1000001)) else (
cal (f_X3_isOutside n S0 x3 0 4) fun q3 => (
if q3 = 0 then (
if (S0 3 0 8) = 0 then (
some (-1000003)) else (
grd (¬ (x2 < 0 ∨ 4 ≤ Int32.toNatClampNeg x2)) (
if x3 = 0 then (
grd (¬ (x1 < 0 ∨ 60 ≤ Int32.toNatClampNeg x1)) (
some (S0 11 (Int32.toNatClampNeg x2) (Int32.toNatClampNeg x1)))) else (
if x3 = 1 then (
cal (f_X2_boxWidth n S0 (Int32.toNatClampNeg x2) x1) fun q10 => (
some (q10))) else (
if x3 = 2 then (
cal (f_X2_isTied n S0 (Int32.toNatClampNeg x2) x1) fun q12 => (
cal (f_X3_asNumber n S0 q12) fun q13 => (
some (q13)))) else (
if x3 = 3 then (
cal (f_X2_boxEnd n S0 (Int32.toNatClampNeg x2) x1) fun q15 => (
some (q15))) else (
grd (¬ (x1 < 0 ∨ 60 ≤ Int32.toNatClampNeg x1)) (
cal (f_X2_boxEnd n S0 (Int32.toNatClampNeg x2) x1) fun q17 => (
cal (f_X3_isOutside n S0 (S0 1 (Int32.toNatClampNeg x1) 7) (S0 11 (Int32.toNatClampNeg x2) (Int32.toNatClampNeg x1)) q17) fun q18 => (
if q18 = 0 then (
j_X3_box_137 n S0 1) else (
j_X3_box_137 n S0 0))))))))))) else (
some (-1000002)))))
set_option maxRecDepth 100000 in
set_option maxHeartbeats 4000000 in
theorem c_X3_box (l : Launch) (g : cx) (n : Nat) (S0 : mem) (sz : Nat) (x1 : Int32) (x2 : Int32) (x3 : Int32) (q : Int32) (h : f_X3_box n S0 x1 x2 x3 = some q) : Met l yX3_box (wsU yX3_box cX3_box 5 (some .int)) (rmD 3) (PcW ixC enC g S0 sz [.ref (g.2.2 3 0), .int x1, .int x2, .int x3]) (QiW ixC enC g sz q S0) 0 0 (Aw ixC g sz) := by
  refine met_intro (Qc := fun z9 => QiW ixC enC g z9 q S0) (free := fun z9 => Aw ixC g z9) [.ref (g.2.2 3 0), .int x1, .int x2, .int x3] RX3 rfl (by decide) (Nat.le_of_ble_eq_true rfl) (fun p e s m args below meth c H locs F hr hlocks B ls hl => ?_)
  have hl : lv_has ls 5 [(0, .ref (g.2.2 3 0)), (1, .int x1), (2, .int x2), (3, .int x3)] := hl
  have hx := F.1
  have hb := F.2.1
  unfold f_X3_box at h
  refine lv_aload_n hx hb dX3_box_0 rfl (lv_at hl 0 rfl) ?_
  refine lv_iload_n hx hb dX3_box_1 rfl (lv_at hl 1 rfl) ?_
  refine lv_iload_n hx hb dX3_box_2 rfl (lv_at hl 2 rfl) ?_
  obtain ⟨q1, hq1, h⟩ := cal_some h
  refine w_callVi F B (c_X3_isBox l g n S0 H.size x1 x2 q1 hq1) mC_X3_isBox mM_X3_129 mN_X3 mI_X3_isBox mS_X3_isBox ixC_3 rfl rfl ⟨ok_X3_isBox, by decide⟩ rfl hl.1 rfl (Nat.le_of_ble_eq_true rfl) dX3_box_3 (fun H locs B => ?_)
  refine lv_if_ne (tgt := 12) hx hb dX3_box_6 (by decide) (fun c2 => ?_) (fun c2 => ?_)
  · rw [if_neg c2] at h
    refine lv_iload_n hx hb dX3_box_12 rfl (lv_at hl 3 rfl) ?_
    refine lv_iconst (v := 0) hx hb dX3_box_13 (by decide) ?_
    refine lv_iconst (v := 4) hx hb dX3_box_14 (by decide) ?_
    obtain ⟨q3, hq3, h⟩ := cal_some h
    refine w_callSi F B (c_X3_isOutside l g n S0 H.size x3 0 4 q3 hq3) mC_X3_isOutside mM_X3_38 mN_X3 mT_X3_isOutside ⟨ok_X3_isOutside, by decide⟩ rfl hl.1 rfl (Nat.le_of_ble_eq_true rfl) dX3_box_15 (fun H locs B => ?_)
    refine lv_if_eq (tgt := 24) hx hb dX3_box_18 (by decide) (fun c4 => ?_) (fun c4 => ?_)
    · rw [if_pos c4] at h
      refine lv_aload_n hx hb dX3_box_24 rfl (lv_at hl 0 rfl) ?_
      refine gt_X3_8 F B mF_X3_51 dX3_box_25 ?_
      refine lv_if_ne (tgt := 34) hx hb dX3_box_28 (by decide) (fun c5 => ?_) (fun c5 => ?_)
      · rw [if_neg c5] at h
        refine lv_aload_n hx hb dX3_box_34 rfl (lv_at hl 0 rfl) ?_
        refine gt_X3_1 F B mF_X3_17 dX3_box_35 ?_
        refine lv_iload_n hx hb dX3_box_38 rfl (lv_at hl 2 rfl) ?_
        obtain ⟨z6, h⟩ := grd_some h
        refine al_C5 F B  z6 dX3_box_39 ?_
        refine lv_astore (lv' := [(4, .ref (g.2.2 2 (Int32.toNatClampNeg x2))), (0, .ref (g.2.2 3 0)), (1, .int x1), (2, .int x2), (3, .int x3)]) hx hb dX3_box_40 hl (by decide) rfl (fun ls hl => ?_)
        refine lv_iload_n hx hb dX3_box_42 rfl (lv_at hl 4 rfl) ?_
        by_cases c7 : x3 = 0
        · rw [if_pos c7] at h
          refine lv_tableIn (tgt := 72) hx hb dX3_box_43 (by rw [c7]; decide) (by rw [c7]; decide) (by rw [c7]; rfl) (by decide) ?_
          refine lv_aload hx hb dX3_box_72 (lv_at hl 0 rfl) ?_
          refine gn_X2_4 F B (ltI z6) nF_X3_132 dX3_box_74 ?_
          refine lv_iload_n hx hb dX3_box_77 rfl (lv_at hl 2 rfl) ?_
          obtain ⟨z8, h⟩ := grd_some h
          refine al_C11 F B (ixC_11 (ltI z6)) z8 dX3_box_78 ?_
          obtain rfl := Option.some.inj h
          exact w_iret F hr hlocks B dX3_box_79
        · rw [if_neg c7] at h
          by_cases c9 : x3 = 1
          · rw [if_pos c9] at h
            refine lv_tableIn (tgt := 80) hx hb dX3_box_43 (by rw [c9]; decide) (by rw [c9]; decide) (by rw [c9]; rfl) (by decide) ?_
            refine lv_aload hx hb dX3_box_80 (lv_at hl 0 rfl) ?_
            refine lv_iload_n hx hb dX3_box_82 rfl (lv_at hl 2 rfl) ?_
            obtain ⟨q10, hq10, h⟩ := cal_some h
            refine w_callNi F B (c_X2_boxWidth l g n S0 H.size (Int32.toNatClampNeg x2) (ltI z6) x1 q10 hq10) mC_X2_boxWidth nM_X3_135 mN_X2 mI_X2_boxWidth mS_X2_boxWidth (ixC_2 (ltI z6)) rfl rfl ⟨ok_X2_boxWidth, by decide⟩ rfl hl.1 rfl (Nat.le_of_ble_eq_true rfl) dX3_box_83 (fun H locs B => ?_)
            obtain rfl := Option.some.inj h
            exact w_iret F hr hlocks B dX3_box_86
          · rw [if_neg c9] at h
            by_cases c11 : x3 = 2
            · rw [if_pos c11] at h
              refine lv_tableIn (tgt := 87) hx hb dX3_box_43 (by rw [c11]; decide) (by rw [c11]; decide) (by rw [c11]; rfl) (by decide) ?_
              refine lv_aload hx hb dX3_box_87 (lv_at hl 0 rfl) ?_
              refine lv_iload_n hx hb dX3_box_89 rfl (lv_at hl 2 rfl) ?_
              obtain ⟨q12, hq12, h⟩ := cal_some h
              refine w_callNi F B (c_X2_isTied l g n S0 H.size (Int32.toNatClampNeg x2) (ltI z6) x1 q12 hq12) mC_X2_isTied nM_X3_138 mN_X2 mI_X2_isTied mS_X2_isTied (ixC_2 (ltI z6)) rfl rfl ⟨ok_X2_isTied, by decide⟩ rfl hl.1 rfl (Nat.le_of_ble_eq_true rfl) dX3_box_90 (fun H locs B => ?_)
              obtain ⟨q13, hq13, h⟩ := cal_some h
              refine w_callSi F B (c_X3_asNumber l g n S0 H.size q12 q13 hq13) mC_X3_asNumber mM_X3_109 mN_X3 mT_X3_asNumber ⟨ok_X3_asNumber, by decide⟩ rfl hl.1 rfl (Nat.le_of_ble_eq_true rfl) dX3_box_93 (fun H locs B => ?_)
              obtain rfl := Option.some.inj h
              exact w_iret F hr hlocks B dX3_box_96
            · rw [if_neg c11] at h
              by_cases c14 : x3 = 3
              · rw [if_pos c14] at h
                refine lv_tableIn (tgt := 97) hx hb dX3_box_43 (by rw [c14]; decide) (by rw [c14]; decide) (by rw [c14]; rfl) (by decide) ?_
                refine lv_aload hx hb dX3_box_97 (lv_at hl 0 rfl) ?_
                refine lv_iload_n hx hb dX3_box_99 rfl (lv_at hl 2 rfl) ?_
                obtain ⟨q15, hq15, h⟩ := cal_some h
                refine w_callNi F B (c_X2_boxEnd l g n S0 H.size (Int32.toNatClampNeg x2) (ltI z6) x1 q15 hq15) mC_X2_boxEnd nM_X3_141 mN_X2 mI_X2_boxEnd mS_X2_boxEnd (ixC_2 (ltI z6)) rfl rfl ⟨ok_X2_boxEnd, by decide⟩ rfl hl.1 rfl (Nat.le_of_ble_eq_true rfl) dX3_box_100 (fun H locs B => ?_)
                obtain rfl := Option.some.inj h
                exact w_iret F hr hlocks B dX3_box_103
              · rw [if_neg c14] at h
                refine lv_tableOut (tgt := 104) hx hb dX3_box_43 (sw_out (fun z h1 h2 => by rcases (show z = 0 ∨ z = 1 ∨ z = 2 ∨ z = 3 by omega) with rfl | rfl | rfl | rfl <;> first | exact c7 | exact c9 | exact c11 | exact c14)) (by decide) ?_
                refine lv_aload_n hx hb dX3_box_104 rfl (lv_at hl 1 rfl) ?_
                refine gt_X3_0 F B mF_X3_11 dX3_box_105 ?_
                refine lv_iload_n hx hb dX3_box_108 rfl (lv_at hl 2 rfl) ?_
                obtain ⟨z16, h⟩ := grd_some h
                refine al_C4 F B  z16 dX3_box_109 ?_
                refine gn_X1_7 F B (ltI z16) nF_X3_123 dX3_box_110 ?_
                refine lv_aload hx hb dX3_box_113 (lv_at hl 0 rfl) ?_
                refine gn_X2_4 F B (ltI z6) nF_X3_132 dX3_box_115 ?_
                refine lv_iload_n hx hb dX3_box_118 rfl (lv_at hl 2 rfl) ?_
                refine al_C11 F B (ixC_11 (ltI z6)) z16 dX3_box_119 ?_
                refine lv_aload hx hb dX3_box_120 (lv_at hl 0 rfl) ?_
                refine lv_iload_n hx hb dX3_box_122 rfl (lv_at hl 2 rfl) ?_
                obtain ⟨q17, hq17, h⟩ := cal_some h
                refine w_callNi F B (c_X2_boxEnd l g n S0 H.size (Int32.toNatClampNeg x2) (ltI z6) x1 q17 hq17) mC_X2_boxEnd nM_X3_141 mN_X2 mI_X2_boxEnd mS_X2_boxEnd (ixC_2 (ltI z6)) rfl rfl ⟨ok_X2_boxEnd, by decide⟩ rfl hl.1 rfl (Nat.le_of_ble_eq_true rfl) dX3_box_123 (fun H locs B => ?_)
                obtain ⟨q18, hq18, h⟩ := cal_some h
                refine w_callSi F B (c_X3_isOutside l g n S0 H.size (S0 1 (Int32.toNatClampNeg x1) 7) (S0 11 (Int32.toNatClampNeg x2) (Int32.toNatClampNeg x1)) q17 q18 hq18) mC_X3_isOutside mM_X3_38 mN_X3 mT_X3_isOutside ⟨ok_X3_isOutside, by decide⟩ rfl hl.1 rfl (Nat.le_of_ble_eq_true rfl) dX3_box_126 (fun H locs B => ?_)
                have J137 : ∀ (y0 : Int32), j_X3_box_137 n S0 y0 = some q → ∀ (H : Heap) (locs : List Loc) (ls : Array Slot), Wd ixC enC g S0 (Aw ixC g s.heap.size) s H locs → lv_has ls 5 [] → W p l e (rmD 3) s m args below meth c H locs 0 0 (MQ below (QiW ixC enC g s.heap.size q S0) args s 0 0 (Aw ixC g s.heap.size)) (F0 m 137 ls [.int y0]) := by
                  intro y0 h H locs ls B hl
                  unfold j_X3_box_137 at h
                  obtain ⟨q19, hq19, h⟩ := cal_some h
                  refine w_callSi F B (c_X3_asNumber l g n S0 H.size y0 q19 hq19) mC_X3_asNumber mM_X3_109 mN_X3 mT_X3_asNumber ⟨ok_X3_asNumber, by decide⟩ rfl hl.1 rfl (Nat.le_of_ble_eq_true rfl) dX3_box_137 (fun H locs B => ?_)
                  obtain rfl := Option.some.inj h
                  exact w_iret F hr hlocks B dX3_box_140
                refine lv_if_ne (tgt := 136) hx hb dX3_box_129 (by decide) (fun c20 => ?_) (fun c20 => ?_)
                · rw [if_neg c20] at h
                  refine lv_iconst (v := 0) hx hb dX3_box_136 (by decide) ?_
                  exact J137 0 h H locs ls B (lv_sub hl [] rfl)
                · rw [if_pos c20] at h
                  refine lv_iconst (v := 1) hx hb dX3_box_132 (by decide) ?_
                  refine lv_goto (tgt := 137) hx hb dX3_box_133 (by decide) ?_
                  exact J137 1 h H locs ls B (lv_sub hl [] rfl)
      · rw [if_pos c5] at h
        refine lv_ldc (v := -1000003) hx hb F.2.2.2.1 (F.2.2.2.2 _ (wsU_in mK_X3_67)) dX3_box_31 ?_
        obtain rfl := Option.some.inj h
        exact w_iret F hr hlocks B dX3_box_33
    · rw [if_neg c4] at h
      refine lv_ldc (v := -1000002) hx hb F.2.2.2.1 (F.2.2.2.2 _ (wsU_in mK_X3_42)) dX3_box_21 ?_
      obtain rfl := Option.some.inj h
      exact w_iret F hr hlocks B dX3_box_23
  · rw [if_pos c2] at h
    refine lv_ldc (v := -1000001) hx hb F.2.2.2.1 (F.2.2.2.2 _ (wsU_in mK_X3_62)) dX3_box_9 ?_
    obtain rfl := Option.some.inj h
    exact w_iret F hr hlocks B dX3_box_11
def b_X2_nextBox_4 (n : Nat) (S0 : mem) (i0 : Nat) : (Int32) → Option ((Int32) ⊕ (Int32)) := fun w =>
if 60 ≤ w then (
some (.inr (-1))) else (
cal (f_X2_hasBox n S0 i0 w) fun q2 => (
if q2 = 0 then (
some (.inl ((w + 1)))) else (
some (.inr (w)))))
/-- private int nextBox(int) -/
def f_X2_nextBox (n : Nat) (S0 : mem) (i0 : Nat) (x1 : Int32) : Option (Int32) :=
lp (b_X2_nextBox_4 n S0 i0) n ((x1 + 1))
set_option maxRecDepth 100000 in
set_option maxHeartbeats 4000000 in
theorem c_X2_nextBox (l : Launch) (g : cx) (n : Nat) (S0 : mem) (sz : Nat) (i0 : Nat) (hi0 : i0 < 4) (x1 : Int32) (q : Int32) (h : f_X2_nextBox n S0 i0 x1 = some q) : Met l yX2_nextBox (wsU yX2_nextBox cX2_nextBox 3 (some .int)) (rmD 1) (PcW ixC enC g S0 sz [.ref (g.2.2 2 i0), .int x1]) (QiW ixC enC g sz q S0) 0 0 (Aw ixC g sz) := by
  refine met_intro (Qc := fun z9 => QiW ixC enC g z9 q S0) (free := fun z9 => Aw ixC g z9) [.ref (g.2.2 2 i0), .int x1] RX2 rfl (by decide) (Nat.le_of_ble_eq_true rfl) (fun p e s m args below meth c H locs F hr hlocks B ls hl => ?_)
  have hl : lv_has ls 3 [(0, .ref (g.2.2 2 i0)), (1, .int x1)] := hl
  have hx := F.1
  have hb := F.2.1
  unfold f_X2_nextBox at h
  refine lv_iload_n hx hb dX2_nextBox_0 rfl (lv_at hl 1 rfl) ?_
  refine lv_iconst (v := 1) hx hb dX2_nextBox_1 (by decide) ?_
  refine lv_iadd hx hb dX2_nextBox_2 ?_
  refine lv_istore_n (lv' := [(2, .int (x1 + 1)), (0, .ref (g.2.2 2 i0)), (1, .int x1)]) hx hb dX2_nextBox_3 rfl hl (by decide) rfl (fun ls hl => ?_)
  have L4 : ∀ (k4 : Nat) (i0 : Nat) (hi0 : i0 < 4) (x2 : Int32), lp (b_X2_nextBox_4 n S0 i0) k4 (x2) = some q → ∀ (H : Heap) (locs : List Loc) (ls : Array Slot), Wd ixC enC g S0 (Aw ixC g s.heap.size) s H locs → lv_has ls 3 [(0, .ref (g.2.2 2 i0)), (2, .int x2)] → W p l e (rmD 1) s m args below meth c H locs 0 0 (MQ below (QiW ixC enC g s.heap.size q S0) args s 0 0 (Aw ixC g s.heap.size)) (F0 m 4 ls []) := by
    intro k4
    induction k4 with
    | zero => intro i0 hi0 x2 h; exact (lp_zero h).elim
    | succ k4 ih4 =>
      intro i0 hi0 x2 h H locs ls B hl
      obtain ⟨t4, h, ht4⟩ := lp_succ h
      unfold b_X2_nextBox_4 at h
      (try dsimp only at h)
      refine lv_iload_n hx hb dX2_nextBox_4 rfl (lv_at hl 1 rfl) ?_
      refine lv_bipush (v := 60) hx hb dX2_nextBox_5 (by decide) ?_
      refine lv_icmp_ge (tgt := 26) hx hb dX2_nextBox_7 (by decide) (fun c1 => ?_) (fun c1 => ?_)
      · rw [if_pos c1] at h
        refine lv_iconst (v := -1) hx hb dX2_nextBox_26 (by decide) ?_
        obtain rfl := Option.some.inj h
        obtain rfl := (show _ = q from ht4)
        exact w_iret F hr hlocks B dX2_nextBox_27
      · rw [if_neg c1] at h
        refine lv_aload_n hx hb dX2_nextBox_10 rfl (lv_at hl 0 rfl) ?_
        refine lv_iload_n hx hb dX2_nextBox_11 rfl (lv_at hl 1 rfl) ?_
        obtain ⟨q2, hq2, h⟩ := cal_some h
        refine w_callVi F B (c_X2_hasBox l g n S0 H.size i0 hi0 x2 q2 hq2) mC_X2_hasBox mM_X2_65 mN_X2 mI_X2_hasBox mS_X2_hasBox (ixC_2 hi0) rfl rfl ⟨ok_X2_hasBox, by decide⟩ rfl hl.1 rfl (Nat.le_of_ble_eq_true rfl) dX2_nextBox_12 (fun H locs B => ?_)
        refine lv_if_eq (tgt := 20) hx hb dX2_nextBox_15 (by decide) (fun c3 => ?_) (fun c3 => ?_)
        · rw [if_pos c3] at h
          refine lv_iinc (v := x2 + 1) (lv' := [(2, .int (x2 + 1)), (0, .ref (g.2.2 2 i0))]) hx hb dX2_nextBox_20 hl (k := 1) rfl rfl (by decide) rfl (fun ls hl => ?_)
          refine lv_goto (tgt := 4) hx hb dX2_nextBox_23 (by decide) ?_
          obtain rfl := Option.some.inj h
          exact ih4 i0 hi0 (x2 + 1) ht4 H locs ls B (lv_sub hl [1, 0] rfl)
        · rw [if_neg c3] at h
          refine lv_iload_n hx hb dX2_nextBox_18 rfl (lv_at hl 1 rfl) ?_
          obtain rfl := Option.some.inj h
          obtain rfl := (show _ = q from ht4)
          exact w_iret F hr hlocks B dX2_nextBox_19
  exact L4 n i0 hi0 (x1 + 1) h H locs ls B (lv_sub hl [1, 0] rfl)
/-- private int hyphenRoom(int) -/
def f_X2_hyphenRoom (n : Nat) (S0 : mem) (i0 : Nat) (x1 : Int32) : Option (Int32) :=
cal (f_X2_nextBox n S0 i0 x1) fun q1 => (
if q1 = (-1) then (
some (0)) else (
cal (f_X2_isGoingOn n S0 i0 x1) fun q3 => (
if q3 = 0 then (
some (0)) else (
grd (¬ (q1 < 0 ∨ 60 ≤ Int32.toNatClampNeg q1)) (
cal (f_X2_boxEnd n S0 i0 x1) fun q6 => (
some ((S0 11 i0 (Int32.toNatClampNeg q1)) - q6)))))))
set_option maxRecDepth 100000 in
set_option maxHeartbeats 4000000 in
theorem c_X2_hyphenRoom (l : Launch) (g : cx) (n : Nat) (S0 : mem) (sz : Nat) (i0 : Nat) (hi0 : i0 < 4) (x1 : Int32) (q : Int32) (h : f_X2_hyphenRoom n S0 i0 x1 = some q) : Met l yX2_hyphenRoom (wsU yX2_hyphenRoom cX2_hyphenRoom 3 (some .int)) (rmD 3) (PcW ixC enC g S0 sz [.ref (g.2.2 2 i0), .int x1]) (QiW ixC enC g sz q S0) 0 0 (Aw ixC g sz) := by
  refine met_intro (Qc := fun z9 => QiW ixC enC g z9 q S0) (free := fun z9 => Aw ixC g z9) [.ref (g.2.2 2 i0), .int x1] RX2 rfl (by decide) (Nat.le_of_ble_eq_true rfl) (fun p e s m args below meth c H locs F hr hlocks B ls hl => ?_)
  have hl : lv_has ls 3 [(0, .ref (g.2.2 2 i0)), (1, .int x1)] := hl
  have hx := F.1
  have hb := F.2.1
  unfold f_X2_hyphenRoom at h
  refine lv_aload_n hx hb dX2_hyphenRoom_0 rfl (lv_at hl 0 rfl) ?_
  refine lv_iload_n hx hb dX2_hyphenRoom_1 rfl (lv_at hl 1 rfl) ?_
  obtain ⟨q1, hq1, h⟩ := cal_some h
  refine w_callVi F B (c_X2_nextBox l g n S0 H.size i0 hi0 x1 q1 hq1) mC_X2_nextBox mM_X2_68 mN_X2 mI_X2_nextBox mS_X2_nextBox (ixC_2 hi0) rfl rfl ⟨ok_X2_nextBox, by decide⟩ rfl hl.1 rfl (Nat.le_of_ble_eq_true rfl) dX2_hyphenRoom_2 (fun H locs B => ?_)
  refine lv_istore_n (lv' := [(2, .int q1), (0, .ref (g.2.2 2 i0)), (1, .int x1)]) hx hb dX2_hyphenRoom_5 rfl hl (by decide) rfl (fun ls hl => ?_)
  refine lv_iload_n hx hb dX2_hyphenRoom_6 rfl (lv_at hl 0 rfl) ?_
  refine lv_iconst (v := -1) hx hb dX2_hyphenRoom_7 (by decide) ?_
  refine lv_icmp_eq (tgt := 19) hx hb dX2_hyphenRoom_8 (by decide) (fun c2 => ?_) (fun c2 => ?_)
  · rw [if_pos c2] at h
    refine lv_iconst (v := 0) hx hb dX2_hyphenRoom_19 (by decide) ?_
    obtain rfl := Option.some.inj h
    exact w_iret F hr hlocks B dX2_hyphenRoom_20
  · rw [if_neg c2] at h
    refine lv_aload_n hx hb dX2_hyphenRoom_11 rfl (lv_at hl 1 rfl) ?_
    refine lv_iload_n hx hb dX2_hyphenRoom_12 rfl (lv_at hl 2 rfl) ?_
    obtain ⟨q3, hq3, h⟩ := cal_some h
    refine w_callVi F B (c_X2_isGoingOn l g n S0 H.size i0 hi0 x1 q3 hq3) mC_X2_isGoingOn mM_X2_62 mN_X2 mI_X2_isGoingOn mS_X2_isGoingOn (ixC_2 hi0) rfl rfl ⟨ok_X2_isGoingOn, by decide⟩ rfl hl.1 rfl (Nat.le_of_ble_eq_true rfl) dX2_hyphenRoom_13 (fun H locs B => ?_)
    refine lv_if_ne (tgt := 21) hx hb dX2_hyphenRoom_16 (by decide) (fun c4 => ?_) (fun c4 => ?_)
    · rw [if_neg c4] at h
      refine lv_aload_n hx hb dX2_hyphenRoom_21 rfl (lv_at hl 1 rfl) ?_
      refine gt_X2_4 F B hi0 mF_X2_25 dX2_hyphenRoom_22 ?_
      refine lv_iload_n hx hb dX2_hyphenRoom_25 rfl (lv_at hl 0 rfl) ?_
      obtain ⟨z5, h⟩ := grd_some h
      refine al_C11 F B (ixC_11 hi0) z5 dX2_hyphenRoom_26 ?_
      refine lv_aload_n hx hb dX2_hyphenRoom_27 rfl (lv_at hl 1 rfl) ?_
      refine lv_iload_n hx hb dX2_hyphenRoom_28 rfl (lv_at hl 2 rfl) ?_
      obtain ⟨q6, hq6, h⟩ := cal_some h
      refine w_callVi F B (c_X2_boxEnd l g n S0 H.size i0 hi0 x1 q6 hq6) mC_X2_boxEnd mM_X2_59 mN_X2 mI_X2_boxEnd mS_X2_boxEnd (ixC_2 hi0) rfl rfl ⟨ok_X2_boxEnd, by decide⟩ rfl hl.1 rfl (Nat.le_of_ble_eq_true rfl) dX2_hyphenRoom_29 (fun H locs B => ?_)
      refine lv_isub hx hb dX2_hyphenRoom_32 ?_
      obtain rfl := Option.some.inj h
      exact w_iret F hr hlocks B dX2_hyphenRoom_33
    · rw [if_pos c4] at h
      refine lv_iconst (v := 0) hx hb dX2_hyphenRoom_19 (by decide) ?_
      obtain rfl := Option.some.inj h
      exact w_iret F hr hlocks B dX2_hyphenRoom_20
/-- private static int hyphensIn(int) -/
def f_X3_hyphensIn (n : Nat) (S0 : mem) (x0 : Int32) : Option (Int32) :=
if 10 ≤ x0 then (
some (1 + ((x0 - 10) / 80))) else (
some (0))
set_option maxRecDepth 100000 in
set_option maxHeartbeats 4000000 in
theorem c_X3_hyphensIn (l : Launch) (g : cx) (n : Nat) (S0 : mem) (sz : Nat) (x0 : Int32) (q : Int32) (h : f_X3_hyphensIn n S0 x0 = some q) : Met l yX3_hyphensIn (wsU yX3_hyphensIn cX3_hyphensIn 1 (some .int)) (rmD 0) (PcW ixC enC g S0 sz [.int x0]) (QiW ixC enC g sz q S0) 0 0 (Aw ixC g sz) := by
  refine met_intro (Qc := fun z9 => QiW ixC enC g z9 q S0) (free := fun z9 => Aw ixC g z9) [.int x0] RX3 rfl (by decide) (Nat.le_of_ble_eq_true rfl) (fun p e s m args below meth c H locs F hr hlocks B ls hl => ?_)
  have hl : lv_has ls 1 [(0, .int x0)] := hl
  have hx := F.1
  have hb := F.2.1
  unfold f_X3_hyphensIn at h
  refine lv_iload_n hx hb dX3_hyphensIn_0 rfl (lv_at hl 0 rfl) ?_
  refine lv_bipush (v := 10) hx hb dX3_hyphensIn_1 (by decide) ?_
  refine lv_icmp_ge (tgt := 10) hx hb dX3_hyphensIn_3 (by decide) (fun c1 => ?_) (fun c1 => ?_)
  · rw [if_pos c1] at h
    refine lv_iconst (v := 1) hx hb dX3_hyphensIn_10 (by decide) ?_
    refine lv_iload_n hx hb dX3_hyphensIn_11 rfl (lv_at hl 0 rfl) ?_
    refine lv_bipush (v := 10) hx hb dX3_hyphensIn_12 (by decide) ?_
    refine lv_isub hx hb dX3_hyphensIn_14 ?_
    refine lv_bipush (v := 80) hx hb dX3_hyphensIn_15 (by decide) ?_
    refine lv_idiv hx hb dX3_hyphensIn_17 (by decide) ?_
    refine lv_iadd hx hb dX3_hyphensIn_18 ?_
    obtain rfl := Option.some.inj h
    exact w_iret F hr hlocks B dX3_hyphensIn_19
  · rw [if_neg c1] at h
    refine lv_iconst (v := 0) hx hb dX3_hyphensIn_6 (by decide) ?_
    refine lv_goto (tgt := 19) hx hb dX3_hyphensIn_7 (by decide) ?_
    obtain rfl := Option.some.inj h
    exact w_iret F hr hlocks B dX3_hyphensIn_19
/-- public int hyphens(int, int) -/
def f_X3_hyphens (n : Nat) (S0 : mem) (x1 : Int32) (x2 : Int32) : Option (Int32) :=
cal (f_X3_isBox n S0 x1 x2) fun q1 => (
if q1 = 0 then (
some (-1000001)) else (
if (S0 3 0 8) = 0 then (
some (-1000003)) else (
grd (¬ (x2 < 0 ∨ 4 ≤ Int32.toNatClampNeg x2)) (
cal (f_X2_hyphenRoom n S0 (Int32.toNatClampNeg x2) x1) fun q5 => (
cal (f_X3_hyphensIn n S0 q5) fun q6 => (
some (q6)))))))
set_option maxRecDepth 100000 in
set_option maxHeartbeats 4000000 in
theorem c_X3_hyphens (l : Launch) (g : cx) (n : Nat) (S0 : mem) (sz : Nat) (x1 : Int32) (x2 : Int32) (q : Int32) (h : f_X3_hyphens n S0 x1 x2 = some q) : Met l yX3_hyphens (wsU yX3_hyphens cX3_hyphens 3 (some .int)) (rmD 4) (PcW ixC enC g S0 sz [.ref (g.2.2 3 0), .int x1, .int x2]) (QiW ixC enC g sz q S0) 0 0 (Aw ixC g sz) := by
  refine met_intro (Qc := fun z9 => QiW ixC enC g z9 q S0) (free := fun z9 => Aw ixC g z9) [.ref (g.2.2 3 0), .int x1, .int x2] RX3 rfl (by decide) (Nat.le_of_ble_eq_true rfl) (fun p e s m args below meth c H locs F hr hlocks B ls hl => ?_)
  have hl : lv_has ls 3 [(0, .ref (g.2.2 3 0)), (1, .int x1), (2, .int x2)] := hl
  have hx := F.1
  have hb := F.2.1
  unfold f_X3_hyphens at h
  refine lv_aload_n hx hb dX3_hyphens_0 rfl (lv_at hl 0 rfl) ?_
  refine lv_iload_n hx hb dX3_hyphens_1 rfl (lv_at hl 1 rfl) ?_
  refine lv_iload_n hx hb dX3_hyphens_2 rfl (lv_at hl 2 rfl) ?_
  obtain ⟨q1, hq1, h⟩ := cal_some h
  refine w_callVi F B (c_X3_isBox l g n S0 H.size x1 x2 q1 hq1) mC_X3_isBox mM_X3_129 mN_X3 mI_X3_isBox mS_X3_isBox ixC_3 rfl rfl ⟨ok_X3_isBox, by decide⟩ rfl hl.1 rfl (Nat.le_of_ble_eq_true rfl) dX3_hyphens_3 (fun H locs B => ?_)
  refine lv_if_ne (tgt := 12) hx hb dX3_hyphens_6 (by decide) (fun c2 => ?_) (fun c2 => ?_)
  · rw [if_neg c2] at h
    refine lv_aload_n hx hb dX3_hyphens_12 rfl (lv_at hl 0 rfl) ?_
    refine gt_X3_8 F B mF_X3_51 dX3_hyphens_13 ?_
    refine lv_if_ne (tgt := 22) hx hb dX3_hyphens_16 (by decide) (fun c3 => ?_) (fun c3 => ?_)
    · rw [if_neg c3] at h
      refine lv_aload_n hx hb dX3_hyphens_22 rfl (lv_at hl 0 rfl) ?_
      refine gt_X3_1 F B mF_X3_17 dX3_hyphens_23 ?_
      refine lv_iload_n hx hb dX3_hyphens_26 rfl (lv_at hl 2 rfl) ?_
      obtain ⟨z4, h⟩ := grd_some h
      refine al_C5 F B  z4 dX3_hyphens_27 ?_
      refine lv_iload_n hx hb dX3_hyphens_28 rfl (lv_at hl 1 rfl) ?_
      obtain ⟨q5, hq5, h⟩ := cal_some h
      refine w_callNi F B (c_X2_hyphenRoom l g n S0 H.size (Int32.toNatClampNeg x2) (ltI z4) x1 q5 hq5) mC_X2_hyphenRoom nM_X3_144 mN_X2 mI_X2_hyphenRoom mS_X2_hyphenRoom (ixC_2 (ltI z4)) rfl rfl ⟨ok_X2_hyphenRoom, by decide⟩ rfl hl.1 rfl (Nat.le_of_ble_eq_true rfl) dX3_hyphens_29 (fun H locs B => ?_)
      obtain ⟨q6, hq6, h⟩ := cal_some h
      refine w_callSi F B (c_X3_hyphensIn l g n S0 H.size q5 q6 hq6) mC_X3_hyphensIn mM_X3_147 mN_X3 mT_X3_hyphensIn ⟨ok_X3_hyphensIn, by decide⟩ rfl hl.1 rfl (Nat.le_of_ble_eq_true rfl) dX3_hyphens_32 (fun H locs B => ?_)
      obtain rfl := Option.some.inj h
      exact w_iret F hr hlocks B dX3_hyphens_35
    · rw [if_pos c3] at h
      refine lv_ldc (v := -1000003) hx hb F.2.2.2.1 (F.2.2.2.2 _ (wsU_in mK_X3_67)) dX3_hyphens_19 ?_
      obtain rfl := Option.some.inj h
      exact w_iret F hr hlocks B dX3_hyphens_21
  · rw [if_pos c2] at h
    refine lv_ldc (v := -1000001) hx hb F.2.2.2.1 (F.2.2.2.2 _ (wsU_in mK_X3_62)) dX3_hyphens_9 ?_
    obtain rfl := Option.some.inj h
    exact w_iret F hr hlocks B dX3_hyphens_11
/-- private int lineEnd(int, WordRows$Verse) -/
def f_X3_lineEnd (n : Nat) (S0 : mem) (x1 : Int32) (i2 : Nat) : Option (Int32) :=
grd (¬ (x1 < 0 ∨ 60 ≤ Int32.toNatClampNeg x1)) (
grd (¬ (S0 1 (Int32.toNatClampNeg x1) 5 < 0 ∨ 60 ≤ Int32.toNatClampNeg (S0 1 (Int32.toNatClampNeg x1) 5))) (
cal (f_X1_end n S0 (Int32.toNatClampNeg (S0 1 (Int32.toNatClampNeg x1) 5))) fun q3 => (
cal (f_X2_nextBox n S0 i2 x1) fun q4 => (
if q4 = (-1) then (
some (q3)) else (
grd (¬ (q4 < 0 ∨ 60 ≤ Int32.toNatClampNeg q4)) (
some (if ((S0 11 i2 (Int32.toNatClampNeg q4)) - 4) < q3 then ((S0 11 i2 (Int32.toNatClampNeg q4)) - 4) else q3)))))))
set_option maxRecDepth 100000 in
set_option maxHeartbeats 4000000 in
theorem c_X3_lineEnd (l : Launch) (g : cx) (n : Nat) (S0 : mem) (sz : Nat) (x1 : Int32) (i2 : Nat) (hi2 : i2 < 4) (q : Int32) (h : f_X3_lineEnd n S0 x1 i2 = some q) : Met l yX3_lineEnd (wsU yX3_lineEnd cX3_lineEnd 5 (some .int)) (rmD 2) (PcW ixC enC g S0 sz [.ref (g.2.2 3 0), .int x1, .ref (g.2.2 2 i2)]) (QiW ixC enC g sz q S0) 0 0 (Aw ixC g sz) := by
  refine met_intro (Qc := fun z9 => QiW ixC enC g z9 q S0) (free := fun z9 => Aw ixC g z9) [.ref (g.2.2 3 0), .int x1, .ref (g.2.2 2 i2)] RX3 rfl (by decide) (Nat.le_of_ble_eq_true rfl) (fun p e s m args below meth c H locs F hr hlocks B ls hl => ?_)
  have hl : lv_has ls 5 [(0, .ref (g.2.2 3 0)), (1, .int x1), (2, .ref (g.2.2 2 i2))] := hl
  have hx := F.1
  have hb := F.2.1
  unfold f_X3_lineEnd at h
  refine lv_aload_n hx hb dX3_lineEnd_0 rfl (lv_at hl 0 rfl) ?_
  refine gt_X3_0 F B mF_X3_11 dX3_lineEnd_1 ?_
  refine lv_aload_n hx hb dX3_lineEnd_4 rfl (lv_at hl 0 rfl) ?_
  refine gt_X3_0 F B mF_X3_11 dX3_lineEnd_5 ?_
  refine lv_iload_n hx hb dX3_lineEnd_8 rfl (lv_at hl 1 rfl) ?_
  obtain ⟨z1, h⟩ := grd_some h
  refine al_C4 F B  z1 dX3_lineEnd_9 ?_
  refine gn_X1_5 F B (ltI z1) nF_X3_88 dX3_lineEnd_10 ?_
  obtain ⟨z2, h⟩ := grd_some h
  refine al_C4 F B  z2 dX3_lineEnd_13 ?_
  obtain ⟨q3, hq3, h⟩ := cal_some h
  refine w_callNi F B (c_X1_end l g n S0 H.size (Int32.toNatClampNeg (S0 1 (Int32.toNatClampNeg x1) 5)) (ltI z2) q3 hq3) mC_X1_end nM_X3_254 mN_X1 mI_X1_end mS_X1_end (ixC_1 (ltI z2)) rfl rfl ⟨ok_X1_end, by decide⟩ rfl hl.1 rfl (Nat.le_of_ble_eq_true rfl) dX3_lineEnd_14 (fun H locs B => ?_)
  refine lv_istore_n (lv' := [(3, .int q3), (0, .ref (g.2.2 3 0)), (1, .int x1), (2, .ref (g.2.2 2 i2))]) hx hb dX3_lineEnd_17 rfl hl (by decide) rfl (fun ls hl => ?_)
  refine lv_aload_n hx hb dX3_lineEnd_18 rfl (lv_at hl 3 rfl) ?_
  refine lv_iload_n hx hb dX3_lineEnd_19 rfl (lv_at hl 2 rfl) ?_
  obtain ⟨q4, hq4, h⟩ := cal_some h
  refine w_callNi F B (c_X2_nextBox l g n S0 H.size i2 hi2 x1 q4 hq4) mC_X2_nextBox nM_X3_263 mN_X2 mI_X2_nextBox mS_X2_nextBox (ixC_2 hi2) rfl rfl ⟨ok_X2_nextBox, by decide⟩ rfl hl.1 rfl (Nat.le_of_ble_eq_true rfl) dX3_lineEnd_20 (fun H locs B => ?_)
  refine lv_istore (lv' := [(4, .int q4), (3, .int q3), (0, .ref (g.2.2 3 0)), (1, .int x1), (2, .ref (g.2.2 2 i2))]) hx hb dX3_lineEnd_23 hl (by decide) rfl (fun ls hl => ?_)
  refine lv_iload hx hb dX3_lineEnd_25 (lv_at hl 0 rfl) ?_
  refine lv_iconst (v := -1) hx hb dX3_lineEnd_27 (by decide) ?_
  refine lv_icmp_ne (tgt := 35) hx hb dX3_lineEnd_28 (by decide) (fun c5 => ?_) (fun c5 => ?_)
  · rw [if_neg c5] at h
    refine lv_iload_n hx hb dX3_lineEnd_35 rfl (lv_at hl 1 rfl) ?_
    refine lv_aload_n hx hb dX3_lineEnd_36 rfl (lv_at hl 4 rfl) ?_
    refine gn_X2_4 F B hi2 nF_X3_132 dX3_lineEnd_37 ?_
    refine lv_iload hx hb dX3_lineEnd_40 (lv_at hl 0 rfl) ?_
    obtain ⟨z6, h⟩ := grd_some h
    refine al_C11 F B (ixC_11 hi2) z6 dX3_lineEnd_42 ?_
    refine lv_iconst (v := 4) hx hb dX3_lineEnd_43 (by decide) ?_
    refine lv_isub hx hb dX3_lineEnd_44 ?_
    refine w_mmin F hl.1 mM_X3_266 (by decide) (Nat.le_of_ble_eq_true rfl) dX3_lineEnd_45 ?_
    obtain rfl := Option.some.inj h
    exact w_iret F hr hlocks B dX3_lineEnd_48
  · rw [if_pos c5] at h
    refine lv_iload_n hx hb dX3_lineEnd_31 rfl (lv_at hl 1 rfl) ?_
    refine lv_goto (tgt := 48) hx hb dX3_lineEnd_32 (by decide) ?_
    obtain rfl := Option.some.inj h
    exact w_iret F hr hlocks B dX3_lineEnd_48
