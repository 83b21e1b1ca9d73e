def b_X3_row_48 (n : Nat) (S0 : mem) (x3 : Int32) : (Int32 × Int32) → Option ((Int32 × Int32) ⊕ (Int32)) := fun w =>
if x3 ≤ w.2 then (
some (.inr (w.1))) else (
grd (¬ (w.2 < 0 ∨ 4 ≤ Int32.toNatClampNeg w.2)) (
cal (f_X2_hasBoxes n S0 (Int32.toNatClampNeg w.2)) fun q9 => (
if q9 = 0 then (
some (.inl (w.1, (w.2 + 1)))) else (
cal (f_X3_sharedVerse n S0 w.2) fun q11 => (
if q11 = (-1) then (
some (.inl ((w.1 + 1), (w.2 + 1)))) else (
some (.inl (w.1, (w.2 + 1)))))))))
def j_X3_row_41 (n : Nat) (S0 : mem) (y0 : Int32) : Option (Int32) :=
lp (b_X3_row_48 n S0 y0) n (0, 0)
/-- public int row(int) -/
def f_X3_row (n : Nat) (S0 : mem) (x1 : Int32) : Option (Int32) :=
cal (f_X3_isVerse n S0 x1) fun q1 => (
if q1 = 0 then (
some (-1000001)) else (
grd (¬ (x1 < 0 ∨ 4 ≤ Int32.toNatClampNeg x1)) (
cal (f_X2_hasBoxes n S0 (Int32.toNatClampNeg x1)) fun q4 => (
if q4 = 0 then (
some (-1000009)) else (
cal (f_X3_sharedVerse n S0 x1) fun q6 => (
if q6 = (-1) then (
j_X3_row_41 n S0 x1) else (
j_X3_row_41 n S0 q6)))))))
set_option maxRecDepth 100000 in
set_option maxHeartbeats 4000000 in
theorem c_X3_row (l : Launch) (g : cx) (n : Nat) (S0 : mem) (sz : Nat) (x1 : Int32) (q : Int32) (h : f_X3_row n S0 x1 = some q) : Met l yX3_row (wsU yX3_row cX3_row 6 (some .int)) (rmD 3) (PcW ixC enC g S0 sz [.ref (g.2.2 3 0), .int x1]) (QiW ixC enC g sz q S0) 0 0 (Aw ixC g sz) := by
  refine met_intro (Qc := fun z9 => QiW ixC enC g z9 q S0) (free := fun z9 => Aw ixC g z9) [.ref (g.2.2 3 0), .int x1] RX3 rfl (by decide) (Nat.le_of_ble_eq_true rfl) (fun p e s m args below meth c H locs F hr hlocks B ls hl => ?_)
  have hl : lv_has ls 6 [(0, .ref (g.2.2 3 0)), (1, .int x1)] := hl
  have hx := F.1
  have hb := F.2.1
  unfold f_X3_row at h
  refine lv_iload_n hx hb dX3_row_0 rfl (lv_at hl 1 rfl) ?_
  obtain ⟨q1, hq1, h⟩ := cal_some h
  refine w_callSi F B (c_X3_isVerse l g n S0 H.size x1 q1 hq1) mC_X3_isVerse mM_X3_59 mN_X3 mT_X3_isVerse ⟨ok_X3_isVerse, by decide⟩ rfl hl.1 rfl (Nat.le_of_ble_eq_true rfl) dX3_row_1 (fun H locs B => ?_)
  refine lv_if_ne (tgt := 10) hx hb dX3_row_4 (by decide) (fun c2 => ?_) (fun c2 => ?_)
  · rw [if_neg c2] at h
    refine lv_aload_n hx hb dX3_row_10 rfl (lv_at hl 0 rfl) ?_
    refine gt_X3_1 F B mF_X3_17 dX3_row_11 ?_
    refine lv_iload_n hx hb dX3_row_14 rfl (lv_at hl 1 rfl) ?_
    obtain ⟨z3, h⟩ := grd_some h
    refine al_C5 F B  z3 dX3_row_15 ?_
    obtain ⟨q4, hq4, h⟩ := cal_some h
    refine w_callNi F B (c_X2_hasBoxes l g n S0 H.size (Int32.toNatClampNeg x1) (ltI z3) q4 hq4) mC_X2_hasBoxes nM_X3_179 mN_X2 mI_X2_hasBoxes mS_X2_hasBoxes (ixC_2 (ltI z3)) rfl rfl ⟨ok_X2_hasBoxes, by decide⟩ rfl hl.1 rfl (Nat.le_of_ble_eq_true rfl) dX3_row_16 (fun H locs B => ?_)
    refine lv_if_ne (tgt := 25) hx hb dX3_row_19 (by decide) (fun c5 => ?_) (fun c5 => ?_)
    · rw [if_neg c5] at h
      refine lv_aload_n hx hb dX3_row_25 rfl (lv_at hl 0 rfl) ?_
      refine lv_iload_n hx hb dX3_row_26 rfl (lv_at hl 1 rfl) ?_
      obtain ⟨q6, hq6, h⟩ := cal_some h
      refine w_callVi F B (c_X3_sharedVerse l g n S0 H.size x1 q6 hq6) mC_X3_sharedVerse mM_X3_176 mN_X3 mI_X3_sharedVerse mS_X3_sharedVerse ixC_3 rfl rfl ⟨ok_X3_sharedVerse, by decide⟩ rfl hl.1 rfl (Nat.le_of_ble_eq_true rfl) dX3_row_27 (fun H locs B => ?_)
      refine lv_istore_n (lv' := [(2, .int q6), (0, .ref (g.2.2 3 0)), (1, .int x1)]) hx hb dX3_row_30 rfl hl (by decide) rfl (fun ls hl => ?_)
      refine lv_iload_n hx hb dX3_row_31 rfl (lv_at hl 0 rfl) ?_
      refine lv_iconst (v := -1) hx hb dX3_row_32 (by decide) ?_
      have J41 : ∀ (y0 : Int32), j_X3_row_41 n S0 y0 = some q → ∀ (H : Heap) (locs : List Loc) (ls : Array Slot), Wd ixC enC g S0 (Aw ixC g s.heap.size) s H locs → lv_has ls 6 [(0, .ref (g.2.2 3 0))] → W p l e (rmD 3) s m args below meth c H locs 0 0 (MQ below (QiW ixC enC g s.heap.size q S0) args s 0 0 (Aw ixC g s.heap.size)) (F0 m 41 ls [.int y0]) := by
        intro y0 h H locs ls B hl
        unfold j_X3_row_41 at h
        refine lv_istore_n (lv' := [(3, .int y0), (0, .ref (g.2.2 3 0))]) hx hb dX3_row_41 rfl hl (by decide) rfl (fun ls hl => ?_)
        refine lv_iconst (v := 0) hx hb dX3_row_42 (by decide) ?_
        refine lv_istore (lv' := [(4, .int 0), (3, .int y0), (0, .ref (g.2.2 3 0))]) hx hb dX3_row_43 hl (by decide) rfl (fun ls hl => ?_)
        refine lv_iconst (v := 0) hx hb dX3_row_45 (by decide) ?_
        refine lv_istore (lv' := [(5, .int 0), (4, .int 0), (3, .int y0), (0, .ref (g.2.2 3 0))]) hx hb dX3_row_46 hl (by decide) rfl (fun ls hl => ?_)
        have L48 : ∀ (k48 : Nat) (x3 : Int32) (x4 : Int32) (x5 : Int32), lp (b_X3_row_48 n S0 x3) k48 (x4, x5) = some q → ∀ (H : Heap) (locs : List Loc) (ls : Array Slot), Wd ixC enC g S0 (Aw ixC g s.heap.size) s H locs → lv_has ls 6 [(0, .ref (g.2.2 3 0)), (3, .int x3), (4, .int x4), (5, .int x5)] → W p l e (rmD 3) s m args below meth c H locs 0 0 (MQ below (QiW ixC enC g s.heap.size q S0) args s 0 0 (Aw ixC g s.heap.size)) (F0 m 48 ls []) := by
          intro k48
          induction k48 with
          | zero => intro x3 x4 x5 h; exact (lp_zero h).elim
          | succ k48 ih48 =>
            intro x3 x4 x5 h H locs ls B hl
            obtain ⟨t48, h, ht48⟩ := lp_succ h
            unfold b_X3_row_48 at h
            (try dsimp only at h)
            refine lv_iload hx hb dX3_row_48 (lv_at hl 3 rfl) ?_
            refine lv_iload_n hx hb dX3_row_50 rfl (lv_at hl 1 rfl) ?_
            refine lv_icmp_ge (tgt := 86) hx hb dX3_row_51 (by decide) (fun c7 => ?_) (fun c7 => ?_)
            · rw [if_pos c7] at h
              refine lv_iload hx hb dX3_row_86 (lv_at hl 2 rfl) ?_
              obtain rfl := Option.some.inj h
              obtain rfl := (show _ = q from ht48)
              exact w_iret F hr hlocks B dX3_row_88
            · rw [if_neg c7] at h
              refine lv_aload_n hx hb dX3_row_54 rfl (lv_at hl 0 rfl) ?_
              refine gt_X3_1 F B mF_X3_17 dX3_row_55 ?_
              refine lv_iload hx hb dX3_row_58 (lv_at hl 3 rfl) ?_
              obtain ⟨z8, h⟩ := grd_some h
              refine al_C5 F B  z8 dX3_row_60 ?_
              obtain ⟨q9, hq9, h⟩ := cal_some h
              refine w_callNi F B (c_X2_hasBoxes l g n S0 H.size (Int32.toNatClampNeg x5) (ltI z8) q9 hq9) mC_X2_hasBoxes nM_X3_179 mN_X2 mI_X2_hasBoxes mS_X2_hasBoxes (ixC_2 (ltI z8)) rfl rfl ⟨ok_X2_hasBoxes, by decide⟩ rfl hl.1 rfl (Nat.le_of_ble_eq_true rfl) dX3_row_61 (fun H locs B => ?_)
              refine lv_if_eq (tgt := 80) hx hb dX3_row_64 (by decide) (fun c10 => ?_) (fun c10 => ?_)
              · rw [if_pos c10] at h
                refine lv_iinc (v := x5 + 1) (lv' := [(5, .int (x5 + 1)), (0, .ref (g.2.2 3 0)), (3, .int x3), (4, .int x4)]) hx hb dX3_row_80 hl (k := 3) rfl rfl (by decide) rfl (fun ls hl => ?_)
                refine lv_goto (tgt := 48) hx hb dX3_row_83 (by decide) ?_
                obtain rfl := Option.some.inj h
                exact ih48 x3 x4 (x5 + 1) ht48 H locs ls B (lv_sub hl [1, 2, 3, 0] rfl)
              · rw [if_neg c10] at h
                refine lv_aload_n hx hb dX3_row_67 rfl (lv_at hl 0 rfl) ?_
                refine lv_iload hx hb dX3_row_68 (lv_at hl 3 rfl) ?_
                obtain ⟨q11, hq11, h⟩ := cal_some h
                refine w_callVi F B (c_X3_sharedVerse l g n S0 H.size x5 q11 hq11) mC_X3_sharedVerse mM_X3_176 mN_X3 mI_X3_sharedVerse mS_X3_sharedVerse ixC_3 rfl rfl ⟨ok_X3_sharedVerse, by decide⟩ rfl hl.1 rfl (Nat.le_of_ble_eq_true rfl) dX3_row_70 (fun H locs B => ?_)
                refine lv_iconst (v := -1) hx hb dX3_row_73 (by decide) ?_
                refine lv_icmp_ne (tgt := 80) hx hb dX3_row_74 (by decide) (fun c12 => ?_) (fun c12 => ?_)
                · rw [if_neg c12] at h
                  refine lv_iinc (v := x5 + 1) (lv' := [(5, .int (x5 + 1)), (0, .ref (g.2.2 3 0)), (3, .int x3), (4, .int x4)]) hx hb dX3_row_80 hl (k := 3) rfl rfl (by decide) rfl (fun ls hl => ?_)
                  refine lv_goto (tgt := 48) hx hb dX3_row_83 (by decide) ?_
                  obtain rfl := Option.some.inj h
                  exact ih48 x3 x4 (x5 + 1) ht48 H locs ls B (lv_sub hl [1, 2, 3, 0] rfl)
                · rw [if_pos c12] at h
                  refine lv_iinc (v := x4 + 1) (lv' := [(4, .int (x4 + 1)), (0, .ref (g.2.2 3 0)), (3, .int x3), (5, .int x5)]) hx hb dX3_row_77 hl (k := 2) rfl rfl (by decide) rfl (fun ls hl => ?_)
                  refine lv_iinc (v := x5 + 1) (lv' := [(5, .int (x5 + 1)), (4, .int (x4 + 1)), (0, .ref (g.2.2 3 0)), (3, .int x3)]) hx hb dX3_row_80 hl (k := 3) rfl rfl (by decide) rfl (fun ls hl => ?_)
                  refine lv_goto (tgt := 48) hx hb dX3_row_83 (by decide) ?_
                  obtain rfl := Option.some.inj h
                  exact ih48 x3 (x4 + 1) (x5 + 1) ht48 H locs ls B (lv_sub hl [2, 3, 1, 0] rfl)
        exact L48 n y0 0 0 h H locs ls B (lv_sub hl [3, 2, 1, 0] rfl)
      refine lv_icmp_ne (tgt := 40) hx hb dX3_row_33 (by decide) (fun c13 => ?_) (fun c13 => ?_)
      · rw [if_neg c13] at h
        refine lv_iload_n hx hb dX3_row_40 rfl (lv_at hl 0 rfl) ?_
        exact J41 q6 h H locs ls B (lv_sub hl [1] rfl)
      · rw [if_pos c13] at h
        refine lv_iload_n hx hb dX3_row_36 rfl (lv_at hl 2 rfl) ?_
        refine lv_goto (tgt := 41) hx hb dX3_row_37 (by decide) ?_
        exact J41 x1 h H locs ls B (lv_sub hl [1] rfl)
    · rw [if_pos c5] at h
      refine lv_ldc (v := -1000009) hx hb F.2.2.2.1 (F.2.2.2.2 _ (wsU_in mK_X3_160)) dX3_row_22 ?_
      obtain rfl := Option.some.inj h
      exact w_iret F hr hlocks B dX3_row_24
  · rw [if_pos c2] at h
    refine lv_ldc (v := -1000001) hx hb F.2.2.2.1 (F.2.2.2.2 _ (wsU_in mK_X3_62)) dX3_row_7 ?_
    obtain rfl := Option.some.inj h
    exact w_iret F hr hlocks B dX3_row_9
def j_X3_in_48 (n : Nat) (S0 : mem) (y0 : Int32) : Option (Int32) :=
if y0 = (-1) then (
some (-1000009)) else (
some (y0))
/-- public int in(int, int) -/
def f_X3_in (n : Nat) (S0 : mem) (x1 : Int32) (x2 : Int32) : Option (Int32) :=
cal (f_X3_isNote n S0 x1) fun q1 => (
if q1 = 0 then (
some (-1000001)) else (
cal (f_X3_isOutside n S0 x2 0 1) fun q3 => (
if q3 = 0 then (
if x2 = 0 then (
grd (¬ (x1 < 0 ∨ 60 ≤ Int32.toNatClampNeg x1)) (
j_X3_in_48 n S0 (S0 1 (Int32.toNatClampNeg x1) 4))) else (
grd (¬ (x1 < 0 ∨ 60 ≤ Int32.toNatClampNeg x1)) (
j_X3_in_48 n S0 (S0 1 (Int32.toNatClampNeg x1) 6)))) else (
some (-1000002)))))
set_option maxRecDepth 100000 in
set_option maxHeartbeats 4000000 in
theorem c_X3_in (l : Launch) (g : cx) (n : Nat) (S0 : mem) (sz : Nat) (x1 : Int32) (x2 : Int32) (q : Int32) (h : f_X3_in n S0 x1 x2 = some q) : Met l yX3_in (wsU yX3_in cX3_in 4 (some .int)) (rmD 1) (PcW ixC enC g S0 sz [.ref (g.2.2 3 0), .int x1, .int x2]) (QiW ixC enC g sz q S0) 0 0 (Aw ixC g sz) := by
  refine met_intro (Qc := fun z9 => QiW ixC enC g z9 q S0) (free := fun z9 => Aw ixC g z9) [.ref (g.2.2 3 0), .int x1, .int x2] RX3 rfl (by decide) (Nat.le_of_ble_eq_true rfl) (fun p e s m args below meth c H locs F hr hlocks B ls hl => ?_)
  have hl : lv_has ls 4 [(0, .ref (g.2.2 3 0)), (1, .int x1), (2, .int x2)] := hl
  have hx := F.1
  have hb := F.2.1
  unfold f_X3_in at h
  refine lv_aload_n hx hb dX3_in_0 rfl (lv_at hl 0 rfl) ?_
  refine lv_iload_n hx hb dX3_in_1 rfl (lv_at hl 1 rfl) ?_
  obtain ⟨q1, hq1, h⟩ := cal_some h
  refine w_callVi F B (c_X3_isNote l g n S0 H.size x1 q1 hq1) mC_X3_isNote mM_X3_55 mN_X3 mI_X3_isNote mS_X3_isNote ixC_3 rfl rfl ⟨ok_X3_isNote, by decide⟩ rfl hl.1 rfl (Nat.le_of_ble_eq_true rfl) dX3_in_2 (fun H locs B => ?_)
  refine lv_if_ne (tgt := 11) hx hb dX3_in_5 (by decide) (fun c2 => ?_) (fun c2 => ?_)
  · rw [if_neg c2] at h
    refine lv_iload_n hx hb dX3_in_11 rfl (lv_at hl 2 rfl) ?_
    refine lv_iconst (v := 0) hx hb dX3_in_12 (by decide) ?_
    refine lv_iconst (v := 1) hx hb dX3_in_13 (by decide) ?_
    obtain ⟨q3, hq3, h⟩ := cal_some h
    refine w_callSi F B (c_X3_isOutside l g n S0 H.size x2 0 1 q3 hq3) mC_X3_isOutside mM_X3_38 mN_X3 mT_X3_isOutside ⟨ok_X3_isOutside, by decide⟩ rfl hl.1 rfl (Nat.le_of_ble_eq_true rfl) dX3_in_14 (fun H locs B => ?_)
    refine lv_if_eq (tgt := 23) hx hb dX3_in_17 (by decide) (fun c4 => ?_) (fun c4 => ?_)
    · rw [if_pos c4] at h
      refine lv_iload_n hx hb dX3_in_23 rfl (lv_at hl 2 rfl) ?_
      have J48 : ∀ (y0 : Int32), j_X3_in_48 n S0 y0 = some q → ∀ (H : Heap) (locs : List Loc) (ls : Array Slot), Wd ixC enC g S0 (Aw ixC g s.heap.size) s H locs → lv_has ls 4 [] → W p l e (rmD 1) s m args below meth c H locs 0 0 (MQ below (QiW ixC enC g s.heap.size q S0) args s 0 0 (Aw ixC g s.heap.size)) (F0 m 48 ls [.int y0]) := by
        intro y0 h H locs ls B hl
        unfold j_X3_in_48 at h
        refine lv_istore_n (lv' := [(3, .int y0)]) hx hb dX3_in_48 rfl hl (by decide) rfl (fun ls hl => ?_)
        refine lv_iload_n hx hb dX3_in_49 rfl (lv_at hl 0 rfl) ?_
        refine lv_iconst (v := -1) hx hb dX3_in_50 (by decide) ?_
        refine lv_icmp_ne (tgt := 59) hx hb dX3_in_51 (by decide) (fun c5 => ?_) (fun c5 => ?_)
        · rw [if_neg c5] at h
          refine lv_iload_n hx hb dX3_in_59 rfl (lv_at hl 0 rfl) ?_
          obtain rfl := Option.some.inj h
          exact w_iret F hr hlocks B dX3_in_60
        · rw [if_pos c5] at h
          refine lv_ldc (v := -1000009) hx hb F.2.2.2.1 (F.2.2.2.2 _ (wsU_in mK_X3_160)) dX3_in_54 ?_
          refine lv_goto (tgt := 60) hx hb dX3_in_56 (by decide) ?_
          obtain rfl := Option.some.inj h
          exact w_iret F hr hlocks B dX3_in_60
      refine lv_if_ne (tgt := 39) hx hb dX3_in_24 (by decide) (fun c6 => ?_) (fun c6 => ?_)
      · rw [if_neg c6] at h
        refine lv_aload_n hx hb dX3_in_39 rfl (lv_at hl 0 rfl) ?_
        refine gt_X3_0 F B mF_X3_11 dX3_in_40 ?_
        refine lv_iload_n hx hb dX3_in_43 rfl (lv_at hl 1 rfl) ?_
        obtain ⟨z7, h⟩ := grd_some h
        refine al_C4 F B  z7 dX3_in_44 ?_
        refine gn_X1_6 F B (ltI z7) nF_X3_100 dX3_in_45 ?_
        exact J48 (S0 1 (Int32.toNatClampNeg x1) 6) h H locs ls B (lv_sub hl [] rfl)
      · rw [if_pos c6] at h
        refine lv_aload_n hx hb dX3_in_27 rfl (lv_at hl 0 rfl) ?_
        refine gt_X3_0 F B mF_X3_11 dX3_in_28 ?_
        refine lv_iload_n hx hb dX3_in_31 rfl (lv_at hl 1 rfl) ?_
        obtain ⟨z8, h⟩ := grd_some h
        refine al_C4 F B  z8 dX3_in_32 ?_
        refine gn_X1_4 F B (ltI z8) nF_X3_85 dX3_in_33 ?_
        refine lv_goto (tgt := 48) hx hb dX3_in_36 (by decide) ?_
        exact J48 (S0 1 (Int32.toNatClampNeg x1) 4) h H locs ls B (lv_sub hl [] rfl)
    · rw [if_neg c4] at h
      refine lv_ldc (v := -1000002) hx hb F.2.2.2.1 (F.2.2.2.2 _ (wsU_in mK_X3_42)) dX3_in_20 ?_
      obtain rfl := Option.some.inj h
      exact w_iret F hr hlocks B dX3_in_22
  · rw [if_pos c2] at h
    refine lv_ldc (v := -1000001) hx hb F.2.2.2.1 (F.2.2.2.2 _ (wsU_in mK_X3_62)) dX3_in_8 ?_
    obtain rfl := Option.some.inj h
    exact w_iret F hr hlocks B dX3_in_10
/-- private static int signAt(long, int) -/
def f_X0_signAt (n : Nat) (S0 : mem) (x0 : Int64) (x2 : Int32) : Option (Int32) :=
some ((Int64.toInt32 (x0 >>> (Int32.toInt64 (5 * x2) &&& 63))) &&& 31)
set_option maxRecDepth 100000 in
set_option maxHeartbeats 4000000 in
theorem c_X0_signAt (l : Launch) (g : cx) (n : Nat) (S0 : mem) (sz : Nat) (x0 : Int64) (x2 : Int32) (q : Int32) (h : f_X0_signAt n S0 x0 x2 = some q) : Met l yX0_signAt (wsU yX0_signAt cX0_signAt 3 (some .int)) (rmD 0) (PcW ixC enC g S0 sz [.long x0, .int x2]) (QiW ixC enC g sz q S0) 0 0 (Aw ixC g sz) := by
  refine met_intro (Qc := fun z9 => QiW ixC enC g z9 q S0) (free := fun z9 => Aw ixC g z9) [.long x0, .int x2] RX0 rfl (by decide) (Nat.le_of_ble_eq_true rfl) (fun p e s m args below meth c H locs F hr hlocks B ls hl => ?_)
  have hl : lv_has ls 3 [(0, .long x0), (2, .int x2)] := hl
  have hx := F.1
  have hb := F.2.1
  unfold f_X0_signAt at h
  refine lv_lload_n hx hb dX0_signAt_0 rfl (lv_at hl 0 rfl) ?_
  refine lv_iconst (v := 5) hx hb dX0_signAt_1 (by decide) ?_
  refine lv_iload_n hx hb dX0_signAt_2 rfl (lv_at hl 1 rfl) ?_
  refine lv_imul hx hb dX0_signAt_3 ?_
  refine lv_lshr hx hb dX0_signAt_4 rfl ?_
  refine lv_l2i hx hb dX0_signAt_5 rfl ?_
  refine lv_bipush (v := 31) hx hb dX0_signAt_6 (by decide) ?_
  refine lv_iand hx hb dX0_signAt_8 ?_
  obtain rfl := Option.some.inj h
  exact w_iret F hr hlocks B dX0_signAt_9
def j_X0_areSigns_71 (n : Nat) (S0 : mem) (x0 : Int64) (x2 : Int32) (x4 : Int32) : Option ((Int32 × Int32) ⊕ (Int32)) :=
some (.inl (1, (x4 + 1)))
def j_X0_areSigns_60 (n : Nat) (S0 : mem) (x0 : Int64) (x2 : Int32) (x3 : Int32) (x4 : Int32) (x5 : Int32) : Option ((Int32 × Int32) ⊕ (Int32)) :=
if x3 = 0 then (
if 26 < x5 then (
some (.inl (0, (x4 + 1)))) else (
j_X0_areSigns_71 n S0 x0 x2 x4)) else (
j_X0_areSigns_71 n S0 x0 x2 x4)
def j_X0_areSigns_37 (n : Nat) (S0 : mem) (x0 : Int64) (x2 : Int32) (x3 : Int32) (x4 : Int32) (x5 : Int32) (y0 : Int32) : Option ((Int32 × Int32) ⊕ (Int32)) :=
if 27 < x5 then (
some (.inr (0))) else (
if x5 = 27 then (
if y0 = 0 then (
j_X0_areSigns_60 n S0 x0 x2 x3 x4 x5) else (
some (.inr (0)))) else (
j_X0_areSigns_60 n S0 x0 x2 x3 x4 x5))
def b_X0_areSigns_5 (n : Nat) (S0 : mem) (x0 : Int64) (x2 : Int32) : (Int32 × Int32) → Option ((Int32 × Int32) ⊕ (Int32)) := fun w =>
if x2 ≤ w.2 then (
grd (w.1 = 0 ∨ w.1 = 1) (some (.inr (w.1)))) else (
cal (f_X0_signAt n S0 x0 w.2) fun q3 => (
if w.2 ≤ 0 then (
j_X0_areSigns_37 n S0 x0 x2 w.1 w.2 q3 0) else (
if (x2 - 1) ≤ w.2 then (
j_X0_areSigns_37 n S0 x0 x2 w.1 w.2 q3 0) else (
j_X0_areSigns_37 n S0 x0 x2 w.1 w.2 q3 1))))
/-- private static boolean areSigns(long, int) -/
def f_X0_areSigns (n : Nat) (S0 : mem) (x0 : Int64) (x2 : Int32) : Option (Int32) :=
lp (b_X0_areSigns_5 n S0 x0 x2) n (0, 0)
set_option maxRecDepth 100000 in
set_option maxHeartbeats 4000000 in
theorem c_X0_areSigns (l : Launch) (g : cx) (n : Nat) (S0 : mem) (sz : Nat) (x0 : Int64) (x2 : Int32) (q : Int32) (h : f_X0_areSigns n S0 x0 x2 = some q) : Met l yX0_areSigns (wsU yX0_areSigns cX0_areSigns 7 (some .boolean)) (rmD 1) (PcW ixC enC g S0 sz [.long x0, .int x2]) (QiW ixC enC g sz q S0) 0 0 (Aw ixC g sz) := by
  refine met_intro (Qc := fun z9 => QiW ixC enC g z9 q S0) (free := fun z9 => Aw ixC g z9) [.long x0, .int x2] RX0 rfl (by decide) (Nat.le_of_ble_eq_true rfl) (fun p e s m args below meth c H locs F hr hlocks B ls hl => ?_)
  have hl : lv_has ls 7 [(0, .long x0), (2, .int x2)] := hl
  have hx := F.1
  have hb := F.2.1
  unfold f_X0_areSigns at h
  refine lv_iconst (v := 0) hx hb dX0_areSigns_0 (by decide) ?_
  refine lv_istore_n (lv' := [(3, .int 0), (0, .long x0), (2, .int x2)]) hx hb dX0_areSigns_1 rfl hl (by decide) rfl (fun ls hl => ?_)
  refine lv_iconst (v := 0) hx hb dX0_areSigns_2 (by decide) ?_
  refine lv_istore (lv' := [(4, .int 0), (3, .int 0), (0, .long x0), (2, .int x2)]) hx hb dX0_areSigns_3 hl (by decide) rfl (fun ls hl => ?_)
  have L5 : ∀ (k5 : Nat) (x0 : Int64) (x2 : Int32) (x3 : Int32) (x4 : Int32), lp (b_X0_areSigns_5 n S0 x0 x2) k5 (x3, x4) = some q → ∀ (H : Heap) (locs : List Loc) (ls : Array Slot), Wd ixC enC g S0 (Aw ixC g s.heap.size) s H locs → lv_has ls 7 [(0, .long x0), (2, .int x2), (3, .int x3), (4, .int x4)] → W p l e (rmD 1) s m args below meth c H locs 0 0 (MQ below (QiW ixC enC g s.heap.size q S0) args s 0 0 (Aw ixC g s.heap.size)) (F0 m 5 ls []) := by
    intro k5
    induction k5 with
    | zero => intro x0 x2 x3 x4 h; exact (lp_zero h).elim
    | succ k5 ih5 =>
      intro x0 x2 x3 x4 h H locs ls B hl
      obtain ⟨t5, h, ht5⟩ := lp_succ h
      unfold b_X0_areSigns_5 at h
      (try dsimp only at h)
      refine lv_iload hx hb dX0_areSigns_5 (lv_at hl 3 rfl) ?_
      refine lv_iload_n hx hb dX0_areSigns_7 rfl (lv_at hl 1 rfl) ?_
      refine lv_icmp_ge (tgt := 83) hx hb dX0_areSigns_8 (by decide) (fun c1 => ?_) (fun c1 => ?_)
      · rw [if_pos c1] at h
        refine lv_iload_n hx hb dX0_areSigns_83 rfl (lv_at hl 2 rfl) ?_
        obtain ⟨z2, h⟩ := grd_some h
        obtain rfl := Option.some.inj h
        obtain rfl := (show _ = q from ht5)
        exact w_zret F hr hlocks z2 B dX0_areSigns_84
      · rw [if_neg c1] at h
        refine lv_lload_n hx hb dX0_areSigns_11 rfl (lv_at hl 0 rfl) ?_
        refine lv_iload hx hb dX0_areSigns_12 (lv_at hl 3 rfl) ?_
        obtain ⟨q3, hq3, h⟩ := cal_some h
        refine w_callSi F B (c_X0_signAt l g n S0 H.size x0 x4 q3 hq3) mC_X0_signAt mM_X0_46 mN_X0 mT_X0_signAt ⟨ok_X0_signAt, by decide⟩ rfl hl.1 rfl (Nat.le_of_ble_eq_true rfl) dX0_areSigns_14 (fun H locs B => ?_)
        refine lv_istore (lv' := [(5, .int q3), (0, .long x0), (2, .int x2), (3, .int x3), (4, .int x4)]) hx hb dX0_areSigns_17 hl (by decide) rfl (fun ls hl => ?_)
        refine lv_iload hx hb dX0_areSigns_19 (lv_at hl 4 rfl) ?_
        have J37 : ∀ (x3 : Int32) (x4 : Int32) (x5 : Int32) (y0 : Int32), j_X0_areSigns_37 n S0 x0 x2 x3 x4 x5 y0 = some t5 → ∀ (H : Heap) (locs : List Loc) (ls : Array Slot), Wd ixC enC g S0 (Aw ixC g s.heap.size) s H locs → lv_has ls 7 [(0, .long x0), (2, .int x2), (3, .int x3), (4, .int x4), (5, .int x5)] → W p l e (rmD 1) s m args below meth c H locs 0 0 (MQ below (QiW ixC enC g s.heap.size q S0) args s 0 0 (Aw ixC g s.heap.size)) (F0 m 37 ls [.int y0]) := by
          intro x3 x4 x5 y0 h H locs ls B hl
          unfold j_X0_areSigns_37 at h
          refine lv_istore (lv' := [(6, .int y0), (0, .long x0), (2, .int x2), (3, .int x3), (4, .int x4), (5, .int x5)]) hx hb dX0_areSigns_37 hl (by decide) rfl (fun ls hl => ?_)
          refine lv_iload hx hb dX0_areSigns_39 (lv_at hl 5 rfl) ?_
          refine lv_bipush (v := 27) hx hb dX0_areSigns_41 (by decide) ?_
          refine lv_icmp_gt (tgt := 58) hx hb dX0_areSigns_43 (by decide) (fun c4 => ?_) (fun c4 => ?_)
          · rw [if_pos c4] at h
            refine lv_iconst (v := 0) hx hb dX0_areSigns_58 (by decide) ?_
            obtain rfl := Option.some.inj h
            obtain rfl := (show _ = q from ht5)
            exact w_zret F hr hlocks (Or.inl rfl) B dX0_areSigns_59
          · rw [if_neg c4] at h
            refine lv_iload hx hb dX0_areSigns_46 (lv_at hl 5 rfl) ?_
            refine lv_bipush (v := 27) hx hb dX0_areSigns_48 (by decide) ?_
            have J60 : ∀ (x3 : Int32) (x4 : Int32) (x5 : Int32), j_X0_areSigns_60 n S0 x0 x2 x3 x4 x5 = some t5 → ∀ (H : Heap) (locs : List Loc) (ls : Array Slot), Wd ixC enC g S0 (Aw ixC g s.heap.size) s H locs → lv_has ls 7 [(0, .long x0), (2, .int x2), (3, .int x3), (4, .int x4), (5, .int x5)] → W p l e (rmD 1) s m args below meth c H locs 0 0 (MQ below (QiW ixC enC g s.heap.size q S0) args s 0 0 (Aw ixC g s.heap.size)) (F0 m 60 ls []) := by
              intro x3 x4 x5 h H locs ls B hl
              unfold j_X0_areSigns_60 at h
              refine lv_iload_n hx hb dX0_areSigns_60 rfl (lv_at hl 2 rfl) ?_
              have J71 : ∀ (x4 : Int32), j_X0_areSigns_71 n S0 x0 x2 x4 = some t5 → ∀ (H : Heap) (locs : List Loc) (ls : Array Slot), Wd ixC enC g S0 (Aw ixC g s.heap.size) s H locs → lv_has ls 7 [(0, .long x0), (2, .int x2), (4, .int x4)] → W p l e (rmD 1) s m args below meth c H locs 0 0 (MQ below (QiW ixC enC g s.heap.size q S0) args s 0 0 (Aw ixC g s.heap.size)) (F0 m 71 ls []) := by
                intro x4 h H locs ls B hl
                unfold j_X0_areSigns_71 at h
                refine lv_iconst (v := 1) hx hb dX0_areSigns_71 (by decide) ?_
                refine lv_goto (tgt := 76) hx hb dX0_areSigns_72 (by decide) ?_
                refine lv_istore_n (lv' := [(3, .int 1), (0, .long x0), (2, .int x2), (4, .int x4)]) hx hb dX0_areSigns_76 rfl hl (by decide) rfl (fun ls hl => ?_)
                refine lv_iinc (v := x4 + 1) (lv' := [(4, .int (x4 + 1)), (3, .int 1), (0, .long x0), (2, .int x2)]) hx hb dX0_areSigns_77 hl (k := 3) rfl rfl (by decide) rfl (fun ls hl => ?_)
                refine lv_goto (tgt := 5) hx hb dX0_areSigns_80 (by decide) ?_
                obtain rfl := Option.some.inj h
                exact ih5 x0 x2 1 (x4 + 1) ht5 H locs ls B (lv_sub hl [2, 3, 1, 0] rfl)
              refine lv_if_ne (tgt := 71) hx hb dX0_areSigns_61 (by decide) (fun c5 => ?_) (fun c5 => ?_)
              · rw [if_neg c5] at h
                exact J71 x4 h H locs ls B (lv_sub hl [0, 1, 3] rfl)
              · rw [if_pos c5] at h
                refine lv_iload hx hb dX0_areSigns_64 (lv_at hl 4 rfl) ?_
                refine lv_bipush (v := 26) hx hb dX0_areSigns_66 (by decide) ?_
                refine lv_icmp_gt (tgt := 75) hx hb dX0_areSigns_68 (by decide) (fun c6 => ?_) (fun c6 => ?_)
                · rw [if_pos c6] at h
                  refine lv_iconst (v := 0) hx hb dX0_areSigns_75 (by decide) ?_
                  refine lv_istore_n (lv' := [(3, .int 0), (0, .long x0), (2, .int x2), (4, .int x4), (5, .int x5)]) hx hb dX0_areSigns_76 rfl hl (by decide) rfl (fun ls hl => ?_)
                  refine lv_iinc (v := x4 + 1) (lv' := [(4, .int (x4 + 1)), (3, .int 0), (0, .long x0), (2, .int x2), (5, .int x5)]) hx hb dX0_areSigns_77 hl (k := 3) rfl rfl (by decide) rfl (fun ls hl => ?_)
                  refine lv_goto (tgt := 5) hx hb dX0_areSigns_80 (by decide) ?_
                  obtain rfl := Option.some.inj h
                  exact ih5 x0 x2 0 (x4 + 1) ht5 H locs ls B (lv_sub hl [2, 3, 1, 0] rfl)
                · rw [if_neg c6] at h
                  exact J71 x4 h H locs ls B (lv_sub hl [0, 1, 3] rfl)
            refine lv_icmp_ne (tgt := 60) hx hb dX0_areSigns_50 (by decide) (fun c7 => ?_) (fun c7 => ?_)
            · rw [if_neg c7] at h
              exact J60 x3 x4 x5 h H locs ls B (lv_sub hl [1, 2, 3, 4, 5] rfl)
            · rw [if_pos c7] at h
              refine lv_iload hx hb dX0_areSigns_53 (lv_at hl 0 rfl) ?_
              refine lv_if_eq (tgt := 60) hx hb dX0_areSigns_55 (by decide) (fun c8 => ?_) (fun c8 => ?_)
              · rw [if_pos c8] at h
                exact J60 x3 x4 x5 h H locs ls B (lv_sub hl [1, 2, 3, 4, 5] rfl)
              · rw [if_neg c8] at h
                refine lv_iconst (v := 0) hx hb dX0_areSigns_58 (by decide) ?_
                obtain rfl := Option.some.inj h
                obtain rfl := (show _ = q from ht5)
                exact w_zret F hr hlocks (Or.inl rfl) B dX0_areSigns_59
        refine lv_if_le (tgt := 36) hx hb dX0_areSigns_21 (by decide) (fun c9 => ?_) (fun c9 => ?_)
        · rw [if_pos c9] at h
          refine lv_iconst (v := 0) hx hb dX0_areSigns_36 (by decide) ?_
          exact J37 x3 x4 q3 0 h H locs ls B (lv_sub hl [1, 2, 3, 4, 0] rfl)
        · rw [if_neg c9] at h
          refine lv_iload hx hb dX0_areSigns_24 (lv_at hl 4 rfl) ?_
          refine lv_iload_n hx hb dX0_areSigns_26 rfl (lv_at hl 2 rfl) ?_
          refine lv_iconst (v := 1) hx hb dX0_areSigns_27 (by decide) ?_
          refine lv_isub hx hb dX0_areSigns_28 ?_
          refine lv_icmp_ge (tgt := 36) hx hb dX0_areSigns_29 (by decide) (fun c10 => ?_) (fun c10 => ?_)
          · rw [if_pos c10] at h
            refine lv_iconst (v := 0) hx hb dX0_areSigns_36 (by decide) ?_
            exact J37 x3 x4 q3 0 h H locs ls B (lv_sub hl [1, 2, 3, 4, 0] rfl)
          · rw [if_neg c10] at h
            refine lv_iconst (v := 1) hx hb dX0_areSigns_32 (by decide) ?_
            refine lv_goto (tgt := 37) hx hb dX0_areSigns_33 (by decide) ?_
            exact J37 x3 x4 q3 1 h H locs ls B (lv_sub hl [1, 2, 3, 4, 0] rfl)
  exact L5 n x0 x2 0 0 h H locs ls B (lv_sub hl [2, 3, 1, 0] rfl)
def j_X0_signCount_37 (n : Nat) (S0 : mem) (x0 : Int64) (x2 : Int32) (y0 : Int32) : Option ((Int32) ⊕ (Int32)) :=
if y0 = 0 then (
cal (f_X0_areSigns n S0 x0 x2) fun q2 => (
if q2 = 0 then (
some (.inr (0))) else (
some (.inr (x2))))) else (
some (.inr (0)))
def j_X0_signCount_22 (n : Nat) (S0 : mem) (x0 : Int64) (x2 : Int32) : Option ((Int32) ⊕ (Int32)) :=
if (lg_cmp (x0 >>> (Int32.toInt64 (5 * x2) &&& 63)) 0) = 0 then (
j_X0_signCount_37 n S0 x0 x2 0) else (
j_X0_signCount_37 n S0 x0 x2 1)
def b_X0_signCount_2 (n : Nat) (S0 : mem) (x0 : Int64) : (Int32) → Option ((Int32) ⊕ (Int32)) := fun w =>
if 6 ≤ w then (
j_X0_signCount_22 n S0 x0 w) else (
cal (f_X0_signAt n S0 x0 w) fun q6 => (
if q6 = 0 then (
j_X0_signCount_22 n S0 x0 w) else (
some (.inl ((w + 1))))))
/-- private static int signCount(long) -/
def f_X0_signCount (n : Nat) (S0 : mem) (x0 : Int64) : Option (Int32) :=
lp (b_X0_signCount_2 n S0 x0) n (0)
set_option maxRecDepth 100000 in
set_option maxHeartbeats 4000000 in
theorem c_X0_signCount (l : Launch) (g : cx) (n : Nat) (S0 : mem) (sz : Nat) (x0 : Int64) (q : Int32) (h : f_X0_signCount n S0 x0 = some q) : Met l yX0_signCount (wsU yX0_signCount cX0_signCount 4 (some .int)) (rmD 2) (PcW ixC enC g S0 sz [.long x0]) (QiW ixC enC g sz q S0) 0 0 (Aw ixC g sz) := by
  refine met_intro (Qc := fun z9 => QiW ixC enC g z9 q S0) (free := fun z9 => Aw ixC g z9) [.long x0] RX0 rfl (by decide) (Nat.le_of_ble_eq_true rfl) (fun p e s m args below meth c H locs F hr hlocks B ls hl => ?_)
  have hl : lv_has ls 4 [(0, .long x0)] := hl
  have hx := F.1
  have hb := F.2.1
  unfold f_X0_signCount at h
  refine lv_iconst (v := 0) hx hb dX0_signCount_0 (by decide) ?_
  refine lv_istore_n (lv' := [(2, .int 0), (0, .long x0)]) hx hb dX0_signCount_1 rfl hl (by decide) rfl (fun ls hl => ?_)
  have L2 : ∀ (k2 : Nat) (x0 : Int64) (x2 : Int32), lp (b_X0_signCount_2 n S0 x0) k2 (x2) = some q → ∀ (H : Heap) (locs : List Loc) (ls : Array Slot), Wd ixC enC g S0 (Aw ixC g s.heap.size) s H locs → lv_has ls 4 [(0, .long x0), (2, .int x2)] → W p l e (rmD 2) s m args below meth c H locs 0 0 (MQ below (QiW ixC enC g s.heap.size q S0) args s 0 0 (Aw ixC g s.heap.size)) (F0 m 2 ls []) := by
    intro k2
    induction k2 with
    | zero => intro x0 x2 h; exact (lp_zero h).elim
    | succ k2 ih2 =>
      intro x0 x2 h H locs ls B hl
      obtain ⟨t2, h, ht2⟩ := lp_succ h
      unfold b_X0_signCount_2 at h
      (try dsimp only at h)
      refine lv_iload_n hx hb dX0_signCount_2 rfl (lv_at hl 1 rfl) ?_
      refine lv_bipush (v := 6) hx hb dX0_signCount_3 (by decide) ?_
      have J22 : ∀ (x2 : Int32), j_X0_signCount_22 n S0 x0 x2 = some t2 → ∀ (H : Heap) (locs : List Loc) (ls : Array Slot), Wd ixC enC g S0 (Aw ixC g s.heap.size) s H locs → lv_has ls 4 [(0, .long x0), (2, .int x2)] → W p l e (rmD 2) s m args below meth c H locs 0 0 (MQ below (QiW ixC enC g s.heap.size q S0) args s 0 0 (Aw ixC g s.heap.size)) (F0 m 22 ls []) := by
        intro x2 h H locs ls B hl
        unfold j_X0_signCount_22 at h
        refine lv_lload_n hx hb dX0_signCount_22 rfl (lv_at hl 0 rfl) ?_
        refine lv_iconst (v := 5) hx hb dX0_signCount_23 (by decide) ?_
        refine lv_iload_n hx hb dX0_signCount_24 rfl (lv_at hl 1 rfl) ?_
        refine lv_imul hx hb dX0_signCount_25 ?_
        refine lv_lshr hx hb dX0_signCount_26 rfl ?_
        refine lv_lconst (v := 0) hx hb dX0_signCount_27 (by decide) ?_
        refine W.lcmp hx hb dX0_signCount_28 ?_
        have J37 : ∀ (x2 : Int32) (y0 : Int32), j_X0_signCount_37 n S0 x0 x2 y0 = some t2 → ∀ (H : Heap) (locs : List Loc) (ls : Array Slot), Wd ixC enC g S0 (Aw ixC g s.heap.size) s H locs → lv_has ls 4 [(0, .long x0), (2, .int x2)] → W p l e (rmD 2) s m args below meth c H locs 0 0 (MQ below (QiW ixC enC g s.heap.size q S0) args s 0 0 (Aw ixC g s.heap.size)) (F0 m 37 ls [.int y0]) := by
          intro x2 y0 h H locs ls B hl
          unfold j_X0_signCount_37 at h
          refine lv_istore_n (lv' := [(3, .int y0), (0, .long x0), (2, .int x2)]) hx hb dX0_signCount_37 rfl hl (by decide) rfl (fun ls hl => ?_)
          refine lv_iload_n hx hb dX0_signCount_38 rfl (lv_at hl 0 rfl) ?_
          refine lv_if_ne (tgt := 54) hx hb dX0_signCount_39 (by decide) (fun c1 => ?_) (fun c1 => ?_)
          · rw [if_neg c1] at h
            refine lv_iconst (v := 0) hx hb dX0_signCount_54 (by decide) ?_
            obtain rfl := Option.some.inj h
            obtain rfl := (show _ = q from ht2)
            exact w_iret F hr hlocks B dX0_signCount_55
          · rw [if_pos c1] at h
            refine lv_lload_n hx hb dX0_signCount_42 rfl (lv_at hl 1 rfl) ?_
            refine lv_iload_n hx hb dX0_signCount_43 rfl (lv_at hl 2 rfl) ?_
            obtain ⟨q2, hq2, h⟩ := cal_some h
            refine w_callSi F B (c_X0_areSigns l g n S0 H.size x0 x2 q2 hq2) mC_X0_areSigns mM_X0_50 mN_X0 mT_X0_areSigns ⟨ok_X0_areSigns, by decide⟩ rfl hl.1 rfl (Nat.le_of_ble_eq_true rfl) dX0_signCount_44 (fun H locs B => ?_)
            refine lv_if_eq (tgt := 54) hx hb dX0_signCount_47 (by decide) (fun c3 => ?_) (fun c3 => ?_)
            · rw [if_pos c3] at h
              refine lv_iconst (v := 0) hx hb dX0_signCount_54 (by decide) ?_
              obtain rfl := Option.some.inj h
              obtain rfl := (show _ = q from ht2)
              exact w_iret F hr hlocks B dX0_signCount_55
            · rw [if_neg c3] at h
              refine lv_iload_n hx hb dX0_signCount_50 rfl (lv_at hl 2 rfl) ?_
              refine lv_goto (tgt := 55) hx hb dX0_signCount_51 (by decide) ?_
              obtain rfl := Option.some.inj h
              obtain rfl := (show _ = q from ht2)
              exact w_iret F hr hlocks B dX0_signCount_55
        refine lv_if_eq (tgt := 36) hx hb dX0_signCount_29 (by decide) (fun c4 => ?_) (fun c4 => ?_)
        · rw [if_pos c4] at h
          refine lv_iconst (v := 0) hx hb dX0_signCount_36 (by decide) ?_
          exact J37 x2 0 h H locs ls B (lv_sub hl [0, 1] rfl)
        · rw [if_neg c4] at h
          refine lv_iconst (v := 1) hx hb dX0_signCount_32 (by decide) ?_
          refine lv_goto (tgt := 37) hx hb dX0_signCount_33 (by decide) ?_
          exact J37 x2 1 h H locs ls B (lv_sub hl [0, 1] rfl)
      refine lv_icmp_ge (tgt := 22) hx hb dX0_signCount_5 (by decide) (fun c5 => ?_) (fun c5 => ?_)
      · rw [if_pos c5] at h
        exact J22 x2 h H locs ls B (lv_sub hl [0, 1] rfl)
      · rw [if_neg c5] at h
        refine lv_lload_n hx hb dX0_signCount_8 rfl (lv_at hl 0 rfl) ?_
        refine lv_iload_n hx hb dX0_signCount_9 rfl (lv_at hl 1 rfl) ?_
        obtain ⟨q6, hq6, h⟩ := cal_some h
        refine w_callSi F B (c_X0_signAt l g n S0 H.size x0 x2 q6 hq6) mC_X0_signAt mM_X0_46 mN_X0 mT_X0_signAt ⟨ok_X0_signAt, by decide⟩ rfl hl.1 rfl (Nat.le_of_ble_eq_true rfl) dX0_signCount_10 (fun H locs B => ?_)
        refine lv_if_eq (tgt := 22) hx hb dX0_signCount_13 (by decide) (fun c7 => ?_) (fun c7 => ?_)
        · rw [if_pos c7] at h
          exact J22 x2 h H locs ls B (lv_sub hl [0, 1] rfl)
        · rw [if_neg c7] at h
          refine lv_iinc (v := x2 + 1) (lv' := [(2, .int (x2 + 1)), (0, .long x0)]) hx hb dX0_signCount_16 hl (k := 1) rfl rfl (by decide) rfl (fun ls hl => ?_)
          refine lv_goto (tgt := 2) hx hb dX0_signCount_19 (by decide) ?_
          obtain rfl := Option.some.inj h
          exact ih2 x0 (x2 + 1) ht2 H locs ls B (lv_sub hl [1, 0] rfl)
  exact L2 n x0 0 h H locs ls B (lv_sub hl [1, 0] rfl)
def b_X0_areValuesFor_4 (n : Nat) (S0 : mem) (x0 : Int32) (x1 : Int32) : (Int32 × Int32) → Option ((Int32 × Int32) ⊕ (Int32)) := fun w =>
if x0 < w.2 then (
if x1 < 0 then (
some (.inr (0))) else (
if w.1 = 0 then (
some (.inr (1))) else (
some (.inr (0))))) else (
some (.inl ((w.1 / 10), (w.2 + 1))))
/-- private static boolean areValuesFor(int, int) -/
def f_X0_areValuesFor (n : Nat) (S0 : mem) (x0 : Int32) (x1 : Int32) : Option (Int32) :=
lp (b_X0_areValuesFor_4 n S0 x0 x1) n (x1, 0)
set_option maxRecDepth 100000 in
set_option maxHeartbeats 4000000 in
theorem c_X0_areValuesFor (l : Launch) (g : cx) (n : Nat) (S0 : mem) (sz : Nat) (x0 : Int32) (x1 : Int32) (q : Int32) (h : f_X0_areValuesFor n S0 x0 x1 = some q) : Met l yX0_areValuesFor (wsU yX0_areValuesFor cX0_areValuesFor 4 (some .boolean)) (rmD 0) (PcW ixC enC g S0 sz [.int x0, .int x1]) (QiW ixC enC g sz q S0) 0 0 (Aw ixC g sz) := by
  refine met_intro (Qc := fun z9 => QiW ixC enC g z9 q S0) (free := fun z9 => Aw ixC g z9) [.int x0, .int x1] RX0 rfl (by decide) (Nat.le_of_ble_eq_true rfl) (fun p e s m args below meth c H locs F hr hlocks B ls hl => ?_)
  have hl : lv_has ls 4 [(0, .int x0), (1, .int x1)] := hl
  have hx := F.1
  have hb := F.2.1
  unfold f_X0_areValuesFor at h
  refine lv_iload_n hx hb dX0_areValuesFor_0 rfl (lv_at hl 1 rfl) ?_
  refine lv_istore_n (lv' := [(2, .int x1), (0, .int x0), (1, .int x1)]) hx hb dX0_areValuesFor_1 rfl hl (by decide) rfl (fun ls hl => ?_)
  refine lv_iconst (v := 0) hx hb dX0_areValuesFor_2 (by decide) ?_
  refine lv_istore_n (lv' := [(3, .int 0), (2, .int x1), (0, .int x0), (1, .int x1)]) hx hb dX0_areValuesFor_3 rfl hl (by decide) rfl (fun ls hl => ?_)
  have L4 : ∀ (k4 : Nat) (x0 : Int32) (x1 : Int32) (x2 : Int32) (x3 : Int32), lp (b_X0_areValuesFor_4 n S0 x0 x1) k4 (x2, x3) = some q → ∀ (H : Heap) (locs : List Loc) (ls : Array Slot), Wd ixC enC g S0 (Aw ixC g s.heap.size) s H locs → lv_has ls 4 [(0, .int x0), (1, .int x1), (2, .int x2), (3, .int x3)] → W p l e (rmD 0) s m args below meth c H locs 0 0 (MQ below (QiW ixC enC g s.heap.size q S0) args s 0 0 (Aw ixC g s.heap.size)) (F0 m 4 ls []) := by
    intro k4
    induction k4 with
    | zero => intro x0 x1 x2 x3 h; exact (lp_zero h).elim
    | succ k4 ih4 =>
      intro x0 x1 x2 x3 h H locs ls B hl
      obtain ⟨t4, h, ht4⟩ := lp_succ h
      unfold b_X0_areValuesFor_4 at h
      (try dsimp only at h)
      refine lv_iload_n hx hb dX0_areValuesFor_4 rfl (lv_at hl 3 rfl) ?_
      refine lv_iload_n hx hb dX0_areValuesFor_5 rfl (lv_at hl 0 rfl) ?_
      refine lv_icmp_gt (tgt := 20) hx hb dX0_areValuesFor_6 (by decide) (fun c1 => ?_) (fun c1 => ?_)
      · rw [if_pos c1] at h
        refine lv_iload_n hx hb dX0_areValuesFor_20 rfl (lv_at hl 1 rfl) ?_
        refine lv_if_lt (tgt := 32) hx hb dX0_areValuesFor_21 (by decide) (fun c2 => ?_) (fun c2 => ?_)
        · rw [if_pos c2] at h
          refine lv_iconst (v := 0) hx hb dX0_areValuesFor_32 (by decide) ?_
          obtain rfl := Option.some.inj h
          obtain rfl := (show _ = q from ht4)
          exact w_zret F hr hlocks (Or.inl rfl) B dX0_areValuesFor_33
        · rw [if_neg c2] at h
          refine lv_iload_n hx hb dX0_areValuesFor_24 rfl (lv_at hl 2 rfl) ?_
          refine lv_if_ne (tgt := 32) hx hb dX0_areValuesFor_25 (by decide) (fun c3 => ?_) (fun c3 => ?_)
          · rw [if_neg c3] at h
            refine lv_iconst (v := 0) hx hb dX0_areValuesFor_32 (by decide) ?_
            obtain rfl := Option.some.inj h
            obtain rfl := (show _ = q from ht4)
            exact w_zret F hr hlocks (Or.inl rfl) B dX0_areValuesFor_33
          · rw [if_pos c3] at h
            refine lv_iconst (v := 1) hx hb dX0_areValuesFor_28 (by decide) ?_
            refine lv_goto (tgt := 33) hx hb dX0_areValuesFor_29 (by decide) ?_
            obtain rfl := Option.some.inj h
            obtain rfl := (show _ = q from ht4)
            exact w_zret F hr hlocks (Or.inr rfl) B dX0_areValuesFor_33
      · rw [if_neg c1] at h
        refine lv_iload_n hx hb dX0_areValuesFor_9 rfl (lv_at hl 2 rfl) ?_
        refine lv_bipush (v := 10) hx hb dX0_areValuesFor_10 (by decide) ?_
        refine lv_idiv hx hb dX0_areValuesFor_12 (by decide) ?_
        refine lv_istore_n (lv' := [(2, .int (x2 / 10)), (0, .int x0), (1, .int x1), (3, .int x3)]) hx hb dX0_areValuesFor_13 rfl hl (by decide) rfl (fun ls hl => ?_)
        refine lv_iinc (v := x3 + 1) (lv' := [(3, .int (x3 + 1)), (2, .int (x2 / 10)), (0, .int x0), (1, .int x1)]) hx hb dX0_areValuesFor_14 hl (k := 3) rfl rfl (by decide) rfl (fun ls hl => ?_)
        refine lv_goto (tgt := 4) hx hb dX0_areValuesFor_17 (by decide) ?_
        obtain rfl := Option.some.inj h
        exact ih4 x0 x1 (x2 / 10) (x3 + 1) ht4 H locs ls B (lv_sub hl [2, 3, 1, 0] rfl)
  exact L4 n x0 x1 x1 0 h H locs ls B (lv_sub hl [2, 3, 1, 0] rfl)
/-- private int addPattern(int, int, int) -/
def f_X0_addPattern (n : Nat) (S0 : mem) (x1 : Int32) (x2 : Int32) (x3 : Int32) : Option (Int32 × mem) :=
grd (¬ (S0 0 0 3 < 0 ∨ 30 ≤ Int32.toNatClampNeg (S0 0 0 3))) (
some ((((S0 0 0 3) + 1) - 1, mup (mup (mup (mup S0 12 0 (Int32.toNatClampNeg (S0 0 0 3)) x1) 13 0 (Int32.toNatClampNeg (S0 0 0 3)) x2) 14 0 (Int32.toNatClampNeg (S0 0 0 3)) x3) 0 0 3 ((S0 0 0 3) + 1))))
set_option maxRecDepth 100000 in
set_option maxHeartbeats 4000000 in
theorem c_X0_addPattern (l : Launch) (g : cx) (n : Nat) (S0 : mem) (sz : Nat) (x1 : Int32) (x2 : Int32) (x3 : Int32) (q : Int32 × mem) (h : f_X0_addPattern n S0 x1 x2 x3 = some q) : Met l yX0_addPattern (wsU yX0_addPattern cX0_addPattern 4 (some .int)) (rmD 0) (PcW ixC enC g S0 sz [.ref (g.2.2 0 0), .int x1, .int x2, .int x3]) (QiW ixC enC g sz q.1 q.2) 0 0 (Aw ixC g sz) := by
  refine met_intro (Qc := fun z9 => QiW ixC enC g z9 q.1 q.2) (free := fun z9 => Aw ixC g z9) [.ref (g.2.2 0 0), .int x1, .int x2, .int x3] RX0 rfl (by decide) (Nat.le_of_ble_eq_true rfl) (fun p e s m args below meth c H locs F hr hlocks B ls hl => ?_)
  have hl : lv_has ls 4 [(0, .ref (g.2.2 0 0)), (1, .int x1), (2, .int x2), (3, .int x3)] := hl
  have hx := F.1
  have hb := F.2.1
  unfold f_X0_addPattern at h
  refine lv_aload_n hx hb dX0_addPattern_0 rfl (lv_at hl 0 rfl) ?_
  refine gt_X0_0 F B mF_X0_9 dX0_addPattern_1 ?_
  refine lv_aload_n hx hb dX0_addPattern_4 rfl (lv_at hl 0 rfl) ?_
  refine gt_X0_3 F B mF_X0_37 dX0_addPattern_5 ?_
  refine lv_iload_n hx hb dX0_addPattern_8 rfl (lv_at hl 1 rfl) ?_
  obtain ⟨z1, h⟩ := grd_some h
  refine as_C12 F B  z1 dX0_addPattern_9 (fun H locs B => ?_)
  refine lv_aload_n hx hb dX0_addPattern_10 rfl (lv_at hl 0 rfl) ?_
  refine gt_X0_1 F B mF_X0_15 dX0_addPattern_11 ?_
  refine lv_aload_n hx hb dX0_addPattern_14 rfl (lv_at hl 0 rfl) ?_
  refine gt_X0_3 F B mF_X0_37 dX0_addPattern_15 ?_
  refine w_cv (S0 0 0 3) (mup_k (by decide)) ?_
  refine lv_iload_n hx hb dX0_addPattern_18 rfl (lv_at hl 2 rfl) ?_
  refine as_C13 F B  z1 dX0_addPattern_19 (fun H locs B => ?_)
  refine lv_aload_n hx hb dX0_addPattern_20 rfl (lv_at hl 0 rfl) ?_
  refine gt_X0_2 F B mF_X0_18 dX0_addPattern_21 ?_
  refine lv_aload_n hx hb dX0_addPattern_24 rfl (lv_at hl 0 rfl) ?_
  refine gt_X0_3 F B mF_X0_37 dX0_addPattern_25 ?_
  refine w_cv (S0 0 0 3) ((mup_k (by decide)).trans (mup_k (by decide))) ?_
  refine lv_iload_n hx hb dX0_addPattern_28 rfl (lv_at hl 3 rfl) ?_
  refine as_C14 F B  z1 dX0_addPattern_29 (fun H locs B => ?_)
  refine lv_aload_n hx hb dX0_addPattern_30 rfl (lv_at hl 0 rfl) ?_
  refine lv_dup hx hb dX0_addPattern_31 rfl ?_
  refine gt_X0_3 F B mF_X0_37 dX0_addPattern_32 ?_
  refine w_cv (S0 0 0 3) ((mup_k (by decide)).trans ((mup_k (by decide)).trans (mup_k (by decide)))) ?_
  refine lv_iconst (v := 1) hx hb dX0_addPattern_35 (by decide) ?_
  refine lv_iadd hx hb dX0_addPattern_36 ?_
  refine pt_X0_3 F B mF_X0_37 dX0_addPattern_37 (fun H locs B => ?_)
  refine lv_aload_n hx hb dX0_addPattern_40 rfl (lv_at hl 0 rfl) ?_
  refine gt_X0_3 F B mF_X0_37 dX0_addPattern_41 ?_
  refine w_cv ((S0 0 0 3) + 1) (mup_s) ?_
  refine lv_iconst (v := 1) hx hb dX0_addPattern_44 (by decide) ?_
  refine lv_isub hx hb dX0_addPattern_45 ?_
  obtain rfl := Option.some.inj h
  exact w_iret F hr hlocks B dX0_addPattern_46
/-- public int pattern(long, int) -/
def f_X3_pattern (n : Nat) (S0 : mem) (x1 : Int64) (x3 : Int32) : Option (Int32 × mem) :=
cal (f_X0_signCount n S0 x1) fun q1 => (
if q1 = 0 then (
some ((-1000002, S0))) else (
cal (f_X0_areValuesFor n S0 q1 x3) fun q3 => (
if q3 = 0 then (
some ((-1000002, S0))) else (
if (S0 0 0 3) < 30 then (
cal (f_X0_addPattern n S0 (Int64.toInt32 x1) q1 x3) fun q6 => (
some ((q6.1, q6.2)))) else (
some ((-1000004, S0)))))))
set_option maxRecDepth 100000 in
set_option maxHeartbeats 4000000 in
theorem c_X3_pattern (l : Launch) (g : cx) (n : Nat) (S0 : mem) (sz : Nat) (x1 : Int64) (x3 : Int32) (q : Int32 × mem) (h : f_X3_pattern n S0 x1 x3 = some q) : Met l yX3_pattern (wsU yX3_pattern cX3_pattern 5 (some .int)) (rmD 3) (PcW ixC enC g S0 sz [.ref (g.2.2 3 0), .long x1, .int x3]) (QiW ixC enC g sz q.1 q.2) 0 0 (Aw ixC g sz) := by
  refine met_intro (Qc := fun z9 => QiW ixC enC g z9 q.1 q.2) (free := fun z9 => Aw ixC g z9) [.ref (g.2.2 3 0), .long x1, .int x3] RX3 rfl (by decide) (Nat.le_of_ble_eq_true rfl) (fun p e s m args below meth c H locs F hr hlocks B ls hl => ?_)
  have hl : lv_has ls 5 [(0, .ref (g.2.2 3 0)), (1, .long x1), (3, .int x3)] := hl
  have hx := F.1
  have hb := F.2.1
  unfold f_X3_pattern at h
  refine lv_lload_n hx hb dX3_pattern_0 rfl (lv_at hl 1 rfl) ?_
  obtain ⟨q1, hq1, h⟩ := cal_some h
  refine w_callSNi F B (c_X0_signCount l g n S0 H.size x1 q1 hq1) mC_X0_signCount nM_X3_183 mN_X0 mT_X0_signCount ⟨ok_X0_signCount, by decide⟩ rfl hl.1 rfl (Nat.le_of_ble_eq_true rfl) dX3_pattern_1 (fun H locs B => ?_)
  refine lv_istore (lv' := [(4, .int q1), (0, .ref (g.2.2 3 0)), (1, .long x1), (3, .int x3)]) hx hb dX3_pattern_4 hl (by decide) rfl (fun ls hl => ?_)
  refine lv_iload hx hb dX3_pattern_6 (lv_at hl 0 rfl) ?_
  refine lv_if_eq (tgt := 20) hx hb dX3_pattern_8 (by decide) (fun c2 => ?_) (fun c2 => ?_)
  · rw [if_pos c2] at h
    refine lv_ldc (v := -1000002) hx hb F.2.2.2.1 (F.2.2.2.2 _ (wsU_in mK_X3_42)) dX3_pattern_20 ?_
    obtain rfl := Option.some.inj h
    exact w_iret F hr hlocks B dX3_pattern_22
  · rw [if_neg c2] at h
    refine lv_iload hx hb dX3_pattern_11 (lv_at hl 0 rfl) ?_
    refine lv_iload_n hx hb dX3_pattern_13 rfl (lv_at hl 3 rfl) ?_
    obtain ⟨q3, hq3, h⟩ := cal_some h
    refine w_callSNi F B (c_X0_areValuesFor l g n S0 H.size q1 x3 q3 hq3) mC_X0_areValuesFor nM_X3_187 mN_X0 mT_X0_areValuesFor ⟨ok_X0_areValuesFor, by decide⟩ rfl hl.1 rfl (Nat.le_of_ble_eq_true rfl) dX3_pattern_14 (fun H locs B => ?_)
    refine lv_if_ne (tgt := 23) hx hb dX3_pattern_17 (by decide) (fun c4 => ?_) (fun c4 => ?_)
    · rw [if_neg c4] at h
      refine lv_aload_n hx hb dX3_pattern_23 rfl (lv_at hl 1 rfl) ?_
      refine gt_X3_2 F B mF_X3_24 dX3_pattern_24 ?_
      refine gn_X0_3 F B nF_X3_190 dX3_pattern_27 ?_
      refine lv_bipush (v := 30) hx hb dX3_pattern_30 (by decide) ?_
      refine lv_icmp_lt (tgt := 38) hx hb dX3_pattern_32 (by decide) (fun c5 => ?_) (fun c5 => ?_)
      · rw [if_pos c5] at h
        refine lv_aload_n hx hb dX3_pattern_38 rfl (lv_at hl 1 rfl) ?_
        refine gt_X3_2 F B mF_X3_24 dX3_pattern_39 ?_
        refine lv_lload_n hx hb dX3_pattern_42 rfl (lv_at hl 2 rfl) ?_
        refine lv_l2i hx hb dX3_pattern_43 rfl ?_
        refine lv_iload hx hb dX3_pattern_44 (lv_at hl 0 rfl) ?_
        refine lv_iload_n hx hb dX3_pattern_46 rfl (lv_at hl 3 rfl) ?_
        obtain ⟨q6, hq6, h⟩ := cal_some h
        refine w_callNi F B (c_X0_addPattern l g n S0 H.size (Int64.toInt32 x1) q1 x3 q6 hq6) mC_X0_addPattern nM_X3_193 mN_X0 mI_X0_addPattern mS_X0_addPattern ixC_0 rfl rfl ⟨ok_X0_addPattern, by decide⟩ rfl hl.1 rfl (Nat.le_of_ble_eq_true rfl) dX3_pattern_47 (fun H locs B => ?_)
        obtain rfl := Option.some.inj h
        exact w_iret F hr hlocks B dX3_pattern_50
      · rw [if_neg c5] at h
        refine lv_ldc (v := -1000004) hx hb F.2.2.2.1 (F.2.2.2.2 _ (wsU_in mK_X3_46)) dX3_pattern_35 ?_
        obtain rfl := Option.some.inj h
        exact w_iret F hr hlocks B dX3_pattern_37
    · rw [if_pos c4] at h
      refine lv_ldc (v := -1000002) hx hb F.2.2.2.1 (F.2.2.2.2 _ (wsU_in mK_X3_42)) dX3_pattern_20 ?_
      obtain rfl := Option.some.inj h
      exact w_iret F hr hlocks B dX3_pattern_22
/-- private int addLetter(int) -/
def f_X0_addLetter (n : Nat) (S0 : mem) (x1 : Int32) : Option (Int32 × mem) :=
grd (¬ ((S0 0 0 5) + 1 < 0 ∨ 26 ≤ Int32.toNatClampNeg ((S0 0 0 5) + 1))) (
some (((S0 0 0 5) + 1, mup (mup S0 0 0 5 ((S0 0 0 5) + 1)) 15 0 (Int32.toNatClampNeg ((S0 0 0 5) + 1)) x1)))
set_option maxRecDepth 100000 in
set_option maxHeartbeats 4000000 in
theorem c_X0_addLetter (l : Launch) (g : cx) (n : Nat) (S0 : mem) (sz : Nat) (x1 : Int32) (q : Int32 × mem) (h : f_X0_addLetter n S0 x1 = some q) : Met l yX0_addLetter (wsU yX0_addLetter cX0_addLetter 2 (some .int)) (rmD 0) (PcW ixC enC g S0 sz [.ref (g.2.2 0 0), .int x1]) (QiW ixC enC g sz q.1 q.2) 0 0 (Aw ixC g sz) := by
  refine met_intro (Qc := fun z9 => QiW ixC enC g z9 q.1 q.2) (free := fun z9 => Aw ixC g z9) [.ref (g.2.2 0 0), .int x1] RX0 rfl (by decide) (Nat.le_of_ble_eq_true rfl) (fun p e s m args below meth c H locs F hr hlocks B ls hl => ?_)
  have hl : lv_has ls 2 [(0, .ref (g.2.2 0 0)), (1, .int x1)] := hl
  have hx := F.1
  have hb := F.2.1
  unfold f_X0_addLetter at h
  refine lv_aload_n hx hb dX0_addLetter_0 rfl (lv_at hl 0 rfl) ?_
  refine lv_dup hx hb dX0_addLetter_1 rfl ?_
  refine gt_X0_5 F B mF_X0_40 dX0_addLetter_2 ?_
  refine lv_iconst (v := 1) hx hb dX0_addLetter_5 (by decide) ?_
  refine lv_iadd hx hb dX0_addLetter_6 ?_
  refine pt_X0_5 F B mF_X0_40 dX0_addLetter_7 (fun H locs B => ?_)
  refine lv_aload_n hx hb dX0_addLetter_10 rfl (lv_at hl 0 rfl) ?_
  refine gt_X0_4 F B mF_X0_21 dX0_addLetter_11 ?_
  refine lv_aload_n hx hb dX0_addLetter_14 rfl (lv_at hl 0 rfl) ?_
  refine gt_X0_5 F B mF_X0_40 dX0_addLetter_15 ?_
  refine w_cv ((S0 0 0 5) + 1) (mup_s) ?_
  refine lv_iload_n hx hb dX0_addLetter_18 rfl (lv_at hl 1 rfl) ?_
  obtain ⟨z1, h⟩ := grd_some h
  refine as_C15 F B  z1 dX0_addLetter_19 (fun H locs B => ?_)
  refine lv_aload_n hx hb dX0_addLetter_20 rfl (lv_at hl 0 rfl) ?_
  refine gt_X0_5 F B mF_X0_40 dX0_addLetter_21 ?_
  refine w_cv ((S0 0 0 5) + 1) ((mup_k (by decide)).trans (mup_s)) ?_
  obtain rfl := Option.some.inj h
  exact w_iret F hr hlocks B dX0_addLetter_24
/-- public int letter(int) -/
def f_X3_letter (n : Nat) (S0 : mem) (x1 : Int32) : Option (Int32 × mem) :=
cal (f_X3_isOutside n S0 x1 0 26) fun q1 => (
if q1 = 0 then (
if x1 = 0 then (
some ((0, mup S0 0 0 5 0))) else (
if (S0 0 0 5) < 24 then (
cal (f_X0_addLetter n S0 x1) fun q5 => (
some ((q5.1, q5.2)))) else (
some ((-1000004, S0))))) else (
some ((-1000002, S0))))
set_option maxRecDepth 100000 in
set_option maxHeartbeats 4000000 in
theorem c_X3_letter (l : Launch) (g : cx) (n : Nat) (S0 : mem) (sz : Nat) (x1 : Int32) (q : Int32 × mem) (h : f_X3_letter n S0 x1 = some q) : Met l yX3_letter (wsU yX3_letter cX3_letter 2 (some .int)) (rmD 1) (PcW ixC enC g S0 sz [.ref (g.2.2 3 0), .int x1]) (QiW ixC enC g sz q.1 q.2) 0 0 (Aw ixC g sz) := by
  refine met_intro (Qc := fun z9 => QiW ixC enC g z9 q.1 q.2) (free := fun z9 => Aw ixC g z9) [.ref (g.2.2 3 0), .int x1] RX3 rfl (by decide) (Nat.le_of_ble_eq_true rfl) (fun p e s m args below meth c H locs F hr hlocks B ls hl => ?_)
  have hl : lv_has ls 2 [(0, .ref (g.2.2 3 0)), (1, .int x1)] := hl
  have hx := F.1
  have hb := F.2.1
  unfold f_X3_letter at h
  refine lv_iload_n hx hb dX3_letter_0 rfl (lv_at hl 1 rfl) ?_
  refine lv_iconst (v := 0) hx hb dX3_letter_1 (by decide) ?_
  refine lv_bipush (v := 26) hx hb dX3_letter_2 (by decide) ?_
  obtain ⟨q1, hq1, h⟩ := cal_some h
  refine w_callSi F B (c_X3_isOutside l g n S0 H.size x1 0 26 q1 hq1) mC_X3_isOutside mM_X3_38 mN_X3 mT_X3_isOutside ⟨ok_X3_isOutside, by decide⟩ rfl hl.1 rfl (Nat.le_of_ble_eq_true rfl) dX3_letter_4 (fun H locs B => ?_)
  refine lv_if_eq (tgt := 13) hx hb dX3_letter_7 (by decide) (fun c2 => ?_) (fun c2 => ?_)
  · rw [if_pos c2] at h
    refine lv_iload_n hx hb dX3_letter_13 rfl (lv_at hl 1 rfl) ?_
    refine lv_if_ne (tgt := 27) hx hb dX3_letter_14 (by decide) (fun c3 => ?_) (fun c3 => ?_)
    · rw [if_neg c3] at h
      refine lv_aload_n hx hb dX3_letter_27 rfl (lv_at hl 0 rfl) ?_
      refine gt_X3_2 F B mF_X3_24 dX3_letter_28 ?_
      refine gn_X0_5 F B nF_X3_197 dX3_letter_31 ?_
      refine lv_bipush (v := 24) hx hb dX3_letter_34 (by decide) ?_
      refine lv_icmp_lt (tgt := 42) hx hb dX3_letter_36 (by decide) (fun c4 => ?_) (fun c4 => ?_)
      · rw [if_pos c4] at h
        refine lv_aload_n hx hb dX3_letter_42 rfl (lv_at hl 0 rfl) ?_
        refine gt_X3_2 F B mF_X3_24 dX3_letter_43 ?_
        refine lv_iload_n hx hb dX3_letter_46 rfl (lv_at hl 1 rfl) ?_
        obtain ⟨q5, hq5, h⟩ := cal_some h
        refine w_callNi F B (c_X0_addLetter l g n S0 H.size x1 q5 hq5) mC_X0_addLetter nM_X3_200 mN_X0 mI_X0_addLetter mS_X0_addLetter ixC_0 rfl rfl ⟨ok_X0_addLetter, by decide⟩ rfl hl.1 rfl (Nat.le_of_ble_eq_true rfl) dX3_letter_47 (fun H locs B => ?_)
        obtain rfl := Option.some.inj h
        exact w_iret F hr hlocks B dX3_letter_50
      · rw [if_neg c4] at h
        refine lv_ldc (v := -1000004) hx hb F.2.2.2.1 (F.2.2.2.2 _ (wsU_in mK_X3_46)) dX3_letter_39 ?_
        obtain rfl := Option.some.inj h
        exact w_iret F hr hlocks B dX3_letter_41
    · rw [if_pos c3] at h
      refine lv_aload_n hx hb dX3_letter_17 rfl (lv_at hl 0 rfl) ?_
      refine gt_X3_2 F B mF_X3_24 dX3_letter_18 ?_
      refine lv_iconst (v := 0) hx hb dX3_letter_21 (by decide) ?_
      refine pn_X0_5 F B nF_X3_197 dX3_letter_22 (fun H locs B => ?_)
      refine lv_iconst (v := 0) hx hb dX3_letter_25 (by decide) ?_
      obtain rfl := Option.some.inj h
      exact w_iret F hr hlocks B dX3_letter_26
  · rw [if_neg c2] at h
    refine lv_ldc (v := -1000002) hx hb F.2.2.2.1 (F.2.2.2.2 _ (wsU_in mK_X3_42)) dX3_letter_10 ?_
    obtain rfl := Option.some.inj h
    exact w_iret F hr hlocks B dX3_letter_12
/-- private int changeAhead(int) -/
def f_X0_changeAhead (n : Nat) (S0 : mem) (x1 : Int32) : Option (Int32 × mem) :=
some ((S0 0 0 7, mup S0 0 0 7 x1))
set_option maxRecDepth 100000 in
set_option maxHeartbeats 4000000 in
theorem c_X0_changeAhead (l : Launch) (g : cx) (n : Nat) (S0 : mem) (sz : Nat) (x1 : Int32) (q : Int32 × mem) (h : f_X0_changeAhead n S0 x1 = some q) : Met l yX0_changeAhead (wsU yX0_changeAhead cX0_changeAhead 3 (some .int)) (rmD 0) (PcW ixC enC g S0 sz [.ref (g.2.2 0 0), .int x1]) (QiW ixC enC g sz q.1 q.2) 0 0 (Aw ixC g sz) := by
  refine met_intro (Qc := fun z9 => QiW ixC enC g z9 q.1 q.2) (free := fun z9 => Aw ixC g z9) [.ref (g.2.2 0 0), .int x1] RX0 rfl (by decide) (Nat.le_of_ble_eq_true rfl) (fun p e s m args below meth c H locs F hr hlocks B ls hl => ?_)
  have hl : lv_has ls 3 [(0, .ref (g.2.2 0 0)), (1, .int x1)] := hl
  have hx := F.1
  have hb := F.2.1
  unfold f_X0_changeAhead at h
  refine lv_aload_n hx hb dX0_changeAhead_0 rfl (lv_at hl 0 rfl) ?_
  refine gt_X0_7 F B mF_X0_27 dX0_changeAhead_1 ?_
  refine lv_istore_n (lv' := [(2, .int (S0 0 0 7)), (0, .ref (g.2.2 0 0)), (1, .int x1)]) hx hb dX0_changeAhead_4 rfl hl (by decide) rfl (fun ls hl => ?_)
  refine lv_aload_n hx hb dX0_changeAhead_5 rfl (lv_at hl 1 rfl) ?_
  refine lv_iload_n hx hb dX0_changeAhead_6 rfl (lv_at hl 2 rfl) ?_
  refine pt_X0_7 F B mF_X0_27 dX0_changeAhead_7 (fun H locs B => ?_)
  refine lv_iload_n hx hb dX0_changeAhead_10 rfl (lv_at hl 0 rfl) ?_
  obtain rfl := Option.some.inj h
  exact w_iret F hr hlocks B dX0_changeAhead_11
/-- private int changeBehind(int) -/
def f_X0_changeBehind (n : Nat) (S0 : mem) (x1 : Int32) : Option (Int32 × mem) :=
some ((S0 0 0 8, mup S0 0 0 8 x1))
set_option maxRecDepth 100000 in
set_option maxHeartbeats 4000000 in
theorem c_X0_changeBehind (l : Launch) (g : cx) (n : Nat) (S0 : mem) (sz : Nat) (x1 : Int32) (q : Int32 × mem) (h : f_X0_changeBehind n S0 x1 = some q) : Met l yX0_changeBehind (wsU yX0_changeBehind cX0_changeBehind 3 (some .int)) (rmD 0) (PcW ixC enC g S0 sz [.ref (g.2.2 0 0), .int x1]) (QiW ixC enC g sz q.1 q.2) 0 0 (Aw ixC g sz) := by
  refine met_intro (Qc := fun z9 => QiW ixC enC g z9 q.1 q.2) (free := fun z9 => Aw ixC g z9) [.ref (g.2.2 0 0), .int x1] RX0 rfl (by decide) (Nat.le_of_ble_eq_true rfl) (fun p e s m args below meth c H locs F hr hlocks B ls hl => ?_)
  have hl : lv_has ls 3 [(0, .ref (g.2.2 0 0)), (1, .int x1)] := hl
  have hx := F.1
  have hb := F.2.1
  unfold f_X0_changeBehind at h
  refine lv_aload_n hx hb dX0_changeBehind_0 rfl (lv_at hl 0 rfl) ?_
  refine gt_X0_8 F B mF_X0_31 dX0_changeBehind_1 ?_
  refine lv_istore_n (lv' := [(2, .int (S0 0 0 8)), (0, .ref (g.2.2 0 0)), (1, .int x1)]) hx hb dX0_changeBehind_4 rfl hl (by decide) rfl (fun ls hl => ?_)
  refine lv_aload_n hx hb dX0_changeBehind_5 rfl (lv_at hl 1 rfl) ?_
  refine lv_iload_n hx hb dX0_changeBehind_6 rfl (lv_at hl 2 rfl) ?_
  refine pt_X0_8 F B mF_X0_31 dX0_changeBehind_7 (fun H locs B => ?_)
  refine lv_iload_n hx hb dX0_changeBehind_10 rfl (lv_at hl 0 rfl) ?_
  obtain rfl := Option.some.inj h
  exact w_iret F hr hlocks B dX0_changeBehind_11
/-- public int sides(int, int) -/
def f_X3_sides (n : Nat) (S0 : mem) (x1 : Int32) (x2 : Int32) : Option (Int32 × mem) :=
cal (f_X3_isOutside n S0 x1 0 1) fun q1 => (
if q1 = 0 then (
cal (f_X3_isOutside n S0 x2 1 24) fun q3 => (
if q3 = 0 then (
if x1 = 0 then (
cal (f_X0_changeAhead n S0 x2) fun q7 => (
some ((q7.1, q7.2)))) else (
cal (f_X0_changeBehind n S0 x2) fun q6 => (
some ((q6.1, q6.2))))) else (
some ((-1000002, S0))))) else (
some ((-1000002, S0))))
set_option maxRecDepth 100000 in
set_option maxHeartbeats 4000000 in
theorem c_X3_sides (l : Launch) (g : cx) (n : Nat) (S0 : mem) (sz : Nat) (x1 : Int32) (x2 : Int32) (q : Int32 × mem) (h : f_X3_sides n S0 x1 x2 = some q) : Met l yX3_sides (wsU yX3_sides cX3_sides 3 (some .int)) (rmD 1) (PcW ixC enC g S0 sz [.ref (g.2.2 3 0), .int x1, .int x2]) (QiW ixC enC g sz q.1 q.2) 0 0 (Aw ixC g sz) := by
  refine met_intro (Qc := fun z9 => QiW ixC enC g z9 q.1 q.2) (free := fun z9 => Aw ixC g z9) [.ref (g.2.2 3 0), .int x1, .int x2] RX3 rfl (by decide) (Nat.le_of_ble_eq_true rfl) (fun p e s m args below meth c H locs F hr hlocks B ls hl => ?_)
  have hl : lv_has ls 3 [(0, .ref (g.2.2 3 0)), (1, .int x1), (2, .int x2)] := hl
  have hx := F.1
  have hb := F.2.1
  unfold f_X3_sides at h
  refine lv_iload_n hx hb dX3_sides_0 rfl (lv_at hl 1 rfl) ?_
  refine lv_iconst (v := 0) hx hb dX3_sides_1 (by decide) ?_
  refine lv_iconst (v := 1) hx hb dX3_sides_2 (by decide) ?_
  obtain ⟨q1, hq1, h⟩ := cal_some h
  refine w_callSi F B (c_X3_isOutside l g n S0 H.size x1 0 1 q1 hq1) mC_X3_isOutside mM_X3_38 mN_X3 mT_X3_isOutside ⟨ok_X3_isOutside, by decide⟩ rfl hl.1 rfl (Nat.le_of_ble_eq_true rfl) dX3_sides_3 (fun H locs B => ?_)
  refine lv_if_ne (tgt := 19) hx hb dX3_sides_6 (by decide) (fun c2 => ?_) (fun c2 => ?_)
  · rw [if_neg c2] at h
    refine lv_ldc (v := -1000002) hx hb F.2.2.2.1 (F.2.2.2.2 _ (wsU_in mK_X3_42)) dX3_sides_19 ?_
    obtain rfl := Option.some.inj h
    exact w_iret F hr hlocks B dX3_sides_21
  · rw [if_pos c2] at h
    refine lv_iload_n hx hb dX3_sides_9 rfl (lv_at hl 2 rfl) ?_
    refine lv_iconst (v := 1) hx hb dX3_sides_10 (by decide) ?_
    refine lv_bipush (v := 24) hx hb dX3_sides_11 (by decide) ?_
    obtain ⟨q3, hq3, h⟩ := cal_some h
    refine w_callSi F B (c_X3_isOutside l g n S0 H.size x2 1 24 q3 hq3) mC_X3_isOutside mM_X3_38 mN_X3 mT_X3_isOutside ⟨ok_X3_isOutside, by decide⟩ rfl hl.1 rfl (Nat.le_of_ble_eq_true rfl) dX3_sides_13 (fun H locs B => ?_)
    refine lv_if_eq (tgt := 22) hx hb dX3_sides_16 (by decide) (fun c4 => ?_) (fun c4 => ?_)
    · rw [if_pos c4] at h
      refine lv_iload_n hx hb dX3_sides_22 rfl (lv_at hl 1 rfl) ?_
      refine lv_if_ne (tgt := 37) hx hb dX3_sides_23 (by decide) (fun c5 => ?_) (fun c5 => ?_)
      · rw [if_neg c5] at h
        refine lv_aload_n hx hb dX3_sides_37 rfl (lv_at hl 0 rfl) ?_
        refine gt_X3_2 F B mF_X3_24 dX3_sides_38 ?_
        refine lv_iload_n hx hb dX3_sides_41 rfl (lv_at hl 2 rfl) ?_
        obtain ⟨q6, hq6, h⟩ := cal_some h
        refine w_callNi F B (c_X0_changeBehind l g n S0 H.size x2 q6 hq6) mC_X0_changeBehind nM_X3_206 mN_X0 mI_X0_changeBehind mS_X0_changeBehind ixC_0 rfl rfl ⟨ok_X0_changeBehind, by decide⟩ rfl hl.1 rfl (Nat.le_of_ble_eq_true rfl) dX3_sides_42 (fun H locs B => ?_)
        obtain rfl := Option.some.inj h
        exact w_iret F hr hlocks B dX3_sides_45
      · rw [if_pos c5] at h
        refine lv_aload_n hx hb dX3_sides_26 rfl (lv_at hl 0 rfl) ?_
        refine gt_X3_2 F B mF_X3_24 dX3_sides_27 ?_
        refine lv_iload_n hx hb dX3_sides_30 rfl (lv_at hl 2 rfl) ?_
        obtain ⟨q7, hq7, h⟩ := cal_some h
        refine w_callNi F B (c_X0_changeAhead l g n S0 H.size x2 q7 hq7) mC_X0_changeAhead nM_X3_203 mN_X0 mI_X0_changeAhead mS_X0_changeAhead ixC_0 rfl rfl ⟨ok_X0_changeAhead, by decide⟩ rfl hl.1 rfl (Nat.le_of_ble_eq_true rfl) dX3_sides_31 (fun H locs B => ?_)
        refine lv_goto (tgt := 45) hx hb dX3_sides_34 (by decide) ?_
        obtain rfl := Option.some.inj h
        exact w_iret F hr hlocks B dX3_sides_45
    · rw [if_neg c4] at h
      refine lv_ldc (v := -1000002) hx hb F.2.2.2.1 (F.2.2.2.2 _ (wsU_in mK_X3_42)) dX3_sides_19 ?_
      obtain rfl := Option.some.inj h
      exact w_iret F hr hlocks B dX3_sides_21
def b_X0_standsAt_2 (n : Nat) (S0 : mem) (x1 : Int32) (x2 : Int32) : (Int32) → Option ((Int32) ⊕ (Int32)) := fun w =>
grd (¬ (x1 < 0 ∨ 30 ≤ Int32.toNatClampNeg x1)) (
if (S0 13 0 (Int32.toNatClampNeg x1)) ≤ w then (
some (.inr (1))) else (
grd (¬ (x2 + w < 0 ∨ 26 ≤ Int32.toNatClampNeg (x2 + w))) (
cal (f_X0_signAt n S0 (Int32.toInt64 (S0 12 0 (Int32.toNatClampNeg x1))) w) fun q4 => (
if (S0 15 0 (Int32.toNatClampNeg (x2 + w))) = q4 then (
some (.inl ((w + 1)))) else (
some (.inr (0)))))))
/-- private boolean standsAt(int, int) -/
def f_X0_standsAt (n : Nat) (S0 : mem) (x1 : Int32) (x2 : Int32) : Option (Int32) :=
lp (b_X0_standsAt_2 n S0 x1 x2) n (0)
set_option maxRecDepth 100000 in
set_option maxHeartbeats 4000000 in
theorem c_X0_standsAt (l : Launch) (g : cx) (n : Nat) (S0 : mem) (sz : Nat) (x1 : Int32) (x2 : Int32) (q : Int32) (h : f_X0_standsAt n S0 x1 x2 = some q) : Met l yX0_standsAt (wsU yX0_standsAt cX0_standsAt 4 (some .boolean)) (rmD 1) (PcW ixC enC g S0 sz [.ref (g.2.2 0 0), .int x1, .int x2]) (QiW ixC enC g sz q S0) 0 0 (Aw ixC g sz) := by
  refine met_intro (Qc := fun z9 => QiW ixC enC g z9 q S0) (free := fun z9 => Aw ixC g z9) [.ref (g.2.2 0 0), .int x1, .int x2] RX0 rfl (by decide) (Nat.le_of_ble_eq_true rfl) (fun p e s m args below meth c H locs F hr hlocks B ls hl => ?_)
  have hl : lv_has ls 4 [(0, .ref (g.2.2 0 0)), (1, .int x1), (2, .int x2)] := hl
  have hx := F.1
  have hb := F.2.1
  unfold f_X0_standsAt at h
  refine lv_iconst (v := 0) hx hb dX0_standsAt_0 (by decide) ?_
  refine lv_istore_n (lv' := [(3, .int 0), (0, .ref (g.2.2 0 0)), (1, .int x1), (2, .int x2)]) hx hb dX0_standsAt_1 rfl hl (by decide) rfl (fun ls hl => ?_)
  have L2 : ∀ (k2 : Nat) (x1 : Int32) (x2 : Int32) (x3 : Int32), lp (b_X0_standsAt_2 n S0 x1 x2) k2 (x3) = some q → ∀ (H : Heap) (locs : List Loc) (ls : Array Slot), Wd ixC enC g S0 (Aw ixC g s.heap.size) s H locs → lv_has ls 4 [(0, .ref (g.2.2 0 0)), (1, .int x1), (2, .int x2), (3, .int x3)] → W p l e (rmD 1) s m args below meth c H locs 0 0 (MQ below (QiW ixC enC g s.heap.size q S0) args s 0 0 (Aw ixC g s.heap.size)) (F0 m 2 ls []) := by
    intro k2
    induction k2 with
    | zero => intro x1 x2 x3 h; exact (lp_zero h).elim
    | succ k2 ih2 =>
      intro x1 x2 x3 h H locs ls B hl
      obtain ⟨t2, h, ht2⟩ := lp_succ h
      unfold b_X0_standsAt_2 at h
      (try dsimp only at h)
      refine lv_iload_n hx hb dX0_standsAt_2 rfl (lv_at hl 3 rfl) ?_
      refine lv_aload_n hx hb dX0_standsAt_3 rfl (lv_at hl 0 rfl) ?_
      refine gt_X0_1 F B mF_X0_15 dX0_standsAt_4 ?_
      refine lv_iload_n hx hb dX0_standsAt_7 rfl (lv_at hl 1 rfl) ?_
      obtain ⟨z1, h⟩ := grd_some h
      refine al_C13 F B  z1 dX0_standsAt_8 ?_
      refine lv_icmp_ge (tgt := 42) hx hb dX0_standsAt_9 (by decide) (fun c2 => ?_) (fun c2 => ?_)
      · rw [if_pos c2] at h
        refine lv_iconst (v := 1) hx hb dX0_standsAt_42 (by decide) ?_
        obtain rfl := Option.some.inj h
        obtain rfl := (show _ = q from ht2)
        exact w_zret F hr hlocks (Or.inr rfl) B dX0_standsAt_43
      · rw [if_neg c2] at h
        refine lv_aload_n hx hb dX0_standsAt_12 rfl (lv_at hl 0 rfl) ?_
        refine gt_X0_4 F B mF_X0_21 dX0_standsAt_13 ?_
        refine lv_iload_n hx hb dX0_standsAt_16 rfl (lv_at hl 2 rfl) ?_
        refine lv_iload_n hx hb dX0_standsAt_17 rfl (lv_at hl 3 rfl) ?_
        refine lv_iadd hx hb dX0_standsAt_18 ?_
        obtain ⟨z3, h⟩ := grd_some h
        refine al_C15 F B  z3 dX0_standsAt_19 ?_
        refine lv_aload_n hx hb dX0_standsAt_20 rfl (lv_at hl 0 rfl) ?_
        refine gt_X0_0 F B mF_X0_9 dX0_standsAt_21 ?_
        refine lv_iload_n hx hb dX0_standsAt_24 rfl (lv_at hl 1 rfl) ?_
        refine al_C12 F B  z1 dX0_standsAt_25 ?_
        refine lv_i2l hx hb dX0_standsAt_26 rfl ?_
        refine lv_iload_n hx hb dX0_standsAt_27 rfl (lv_at hl 3 rfl) ?_
        obtain ⟨q4, hq4, h⟩ := cal_some h
        refine w_callSi F B (c_X0_signAt l g n S0 H.size (Int32.toInt64 (S0 12 0 (Int32.toNatClampNeg x1))) x3 q4 hq4) mC_X0_signAt mM_X0_46 mN_X0 mT_X0_signAt ⟨ok_X0_signAt, by decide⟩ rfl hl.1 rfl (Nat.le_of_ble_eq_true rfl) dX0_standsAt_28 (fun H locs B => ?_)
        refine lv_icmp_eq (tgt := 36) hx hb dX0_standsAt_31 (by decide) (fun c5 => ?_) (fun c5 => ?_)
        · rw [if_pos c5] at h
          refine lv_iinc (v := x3 + 1) (lv' := [(3, .int (x3 + 1)), (0, .ref (g.2.2 0 0)), (1, .int x1), (2, .int x2)]) hx hb dX0_standsAt_36 hl (k := 3) rfl rfl (by decide) rfl (fun ls hl => ?_)
          refine lv_goto (tgt := 2) hx hb dX0_standsAt_39 (by decide) ?_
          obtain rfl := Option.some.inj h
          exact ih2 x1 x2 (x3 + 1) ht2 H locs ls B (lv_sub hl [1, 2, 3, 0] rfl)
        · rw [if_neg c5] at h
          refine lv_iconst (v := 0) hx hb dX0_standsAt_34 (by decide) ?_
          obtain rfl := Option.some.inj h
          obtain rfl := (show _ = q from ht2)
          exact w_zret F hr hlocks (Or.inl rfl) B dX0_standsAt_35
  exact L2 n x1 x2 0 h H locs ls B (lv_sub hl [1, 2, 3, 0] rfl)
