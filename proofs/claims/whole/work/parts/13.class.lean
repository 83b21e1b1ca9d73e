/-- public int line(int, int, int) -/
def f_X3_line (n : Nat) (S0 : mem) (x1 : Int32) (x2 : Int32) (x3 : Int32) : Option (Int32) :=
cal (f_X3_isBox n S0 x1 x2) fun q1 => (
if q1 = 0 then (
some (-1000001)) else (
cal (f_X3_isOutside n S0 x3 0 1) fun q3 => (
if q3 = 0 then (
if (S0 3 0 8) = 0 then (
some (-1000003)) else (
grd (¬ (x2 < 0 ∨ 4 ≤ Int32.toNatClampNeg x2)) (
grd (¬ (x1 < 0 ∨ 60 ≤ Int32.toNatClampNeg x1)) (
if (S0 1 (Int32.toNatClampNeg x1) 4) = x1 then (
cal (f_X2_isGoingOn n S0 (Int32.toNatClampNeg x2) x1) fun q9 => (
if q9 = 0 then (
cal (f_X2_boxEnd n S0 (Int32.toNatClampNeg x2) x1) fun q11 => (
cal (f_X3_lineEnd n S0 x1 (Int32.toNatClampNeg x2)) fun q12 => (
if 10 ≤ (q12 - (q11 + 2)) then (
if x3 = 0 then (
some (q11 + 2)) else (
some (q12))) else (
some (-1000009))))) else (
some (-1000009)))) else (
some (-1000009)))))) else (
some (-1000002)))))
set_option maxRecDepth 100000 in
set_option maxHeartbeats 4000000 in
theorem c_X3_line (l : Launch) (g : cx) (n : Nat) (S0 : mem) (sz : Nat) (x1 : Int32) (x2 : Int32) (x3 : Int32) (q : Int32) (h : f_X3_line n S0 x1 x2 x3 = some q) : Met l yX3_line (wsU yX3_line cX3_line 7 (some .int)) (rmD 3) (PcW ixC enC g S0 sz [.ref (g.2.2 3 0), .int x1, .int x2, .int x3]) (QiW ixC enC g sz q S0) 0 0 (Aw ixC g sz) := by
  refine met_intro (Qc := fun z9 => QiW ixC enC g z9 q S0) (free := fun z9 => Aw ixC g z9) [.ref (g.2.2 3 0), .int x1, .int x2, .int x3] RX3 rfl (by decide) (Nat.le_of_ble_eq_true rfl) (fun p e s m args below meth c H locs F hr hlocks B ls hl => ?_)
  have hl : lv_has ls 7 [(0, .ref (g.2.2 3 0)), (1, .int x1), (2, .int x2), (3, .int x3)] := hl
  have hx := F.1
  have hb := F.2.1
  unfold f_X3_line at h
  refine lv_aload_n hx hb dX3_line_0 rfl (lv_at hl 0 rfl) ?_
  refine lv_iload_n hx hb dX3_line_1 rfl (lv_at hl 1 rfl) ?_
  refine lv_iload_n hx hb dX3_line_2 rfl (lv_at hl 2 rfl) ?_
  obtain ⟨q1, hq1, h⟩ := cal_some h
  refine w_callVi F B (c_X3_isBox l g n S0 H.size x1 x2 q1 hq1) mC_X3_isBox mM_X3_129 mN_X3 mI_X3_isBox mS_X3_isBox ixC_3 rfl rfl ⟨ok_X3_isBox, by decide⟩ rfl hl.1 rfl (Nat.le_of_ble_eq_true rfl) dX3_line_3 (fun H locs B => ?_)
  refine lv_if_ne (tgt := 12) hx hb dX3_line_6 (by decide) (fun c2 => ?_) (fun c2 => ?_)
  · rw [if_neg c2] at h
    refine lv_iload_n hx hb dX3_line_12 rfl (lv_at hl 3 rfl) ?_
    refine lv_iconst (v := 0) hx hb dX3_line_13 (by decide) ?_
    refine lv_iconst (v := 1) hx hb dX3_line_14 (by decide) ?_
    obtain ⟨q3, hq3, h⟩ := cal_some h
    refine w_callSi F B (c_X3_isOutside l g n S0 H.size x3 0 1 q3 hq3) mC_X3_isOutside mM_X3_38 mN_X3 mT_X3_isOutside ⟨ok_X3_isOutside, by decide⟩ rfl hl.1 rfl (Nat.le_of_ble_eq_true rfl) dX3_line_15 (fun H locs B => ?_)
    refine lv_if_eq (tgt := 24) hx hb dX3_line_18 (by decide) (fun c4 => ?_) (fun c4 => ?_)
    · rw [if_pos c4] at h
      refine lv_aload_n hx hb dX3_line_24 rfl (lv_at hl 0 rfl) ?_
      refine gt_X3_8 F B mF_X3_51 dX3_line_25 ?_
      refine lv_if_ne (tgt := 34) hx hb dX3_line_28 (by decide) (fun c5 => ?_) (fun c5 => ?_)
      · rw [if_neg c5] at h
        refine lv_aload_n hx hb dX3_line_34 rfl (lv_at hl 0 rfl) ?_
        refine gt_X3_1 F B mF_X3_17 dX3_line_35 ?_
        refine lv_iload_n hx hb dX3_line_38 rfl (lv_at hl 2 rfl) ?_
        obtain ⟨z6, h⟩ := grd_some h
        refine al_C5 F B  z6 dX3_line_39 ?_
        refine lv_astore (lv' := [(4, .ref (g.2.2 2 (Int32.toNatClampNeg x2))), (0, .ref (g.2.2 3 0)), (1, .int x1), (2, .int x2), (3, .int x3)]) hx hb dX3_line_40 hl (by decide) rfl (fun ls hl => ?_)
        refine lv_aload_n hx hb dX3_line_42 rfl (lv_at hl 1 rfl) ?_
        refine gt_X3_0 F B mF_X3_11 dX3_line_43 ?_
        refine lv_iload_n hx hb dX3_line_46 rfl (lv_at hl 2 rfl) ?_
        obtain ⟨z7, h⟩ := grd_some h
        refine al_C4 F B  z7 dX3_line_47 ?_
        refine gn_X1_4 F B (ltI z7) nF_X3_85 dX3_line_48 ?_
        refine lv_iload_n hx hb dX3_line_51 rfl (lv_at hl 2 rfl) ?_
        refine lv_icmp_ne (tgt := 64) hx hb dX3_line_52 (by decide) (fun c8 => ?_) (fun c8 => ?_)
        · rw [if_neg c8] at h
          refine lv_ldc (v := -1000009) hx hb F.2.2.2.1 (F.2.2.2.2 _ (wsU_in mK_X3_160)) dX3_line_64 ?_
          obtain rfl := Option.some.inj h
          exact w_iret F hr hlocks B dX3_line_66
        · rw [if_pos c8] at h
          refine lv_aload hx hb dX3_line_55 (lv_at hl 0 rfl) ?_
          refine lv_iload_n hx hb dX3_line_57 rfl (lv_at hl 2 rfl) ?_
          obtain ⟨q9, hq9, h⟩ := cal_some h
          refine w_callNi F B (c_X2_isGoingOn l g n S0 H.size (Int32.toNatClampNeg x2) (ltI z6) x1 q9 hq9) mC_X2_isGoingOn nM_X3_157 mN_X2 mI_X2_isGoingOn mS_X2_isGoingOn (ixC_2 (ltI z6)) rfl rfl ⟨ok_X2_isGoingOn, by decide⟩ rfl hl.1 rfl (Nat.le_of_ble_eq_true rfl) dX3_line_58 (fun H locs B => ?_)
          refine lv_if_eq (tgt := 67) hx hb dX3_line_61 (by decide) (fun c10 => ?_) (fun c10 => ?_)
          · rw [if_pos c10] at h
            refine lv_aload hx hb dX3_line_67 (lv_at hl 0 rfl) ?_
            refine lv_iload_n hx hb dX3_line_69 rfl (lv_at hl 2 rfl) ?_
            obtain ⟨q11, hq11, h⟩ := cal_some h
            refine w_callNi F B (c_X2_boxEnd l g n S0 H.size (Int32.toNatClampNeg x2) (ltI z6) x1 q11 hq11) mC_X2_boxEnd nM_X3_141 mN_X2 mI_X2_boxEnd mS_X2_boxEnd (ixC_2 (ltI z6)) rfl rfl ⟨ok_X2_boxEnd, by decide⟩ rfl hl.1 rfl (Nat.le_of_ble_eq_true rfl) dX3_line_70 (fun H locs B => ?_)
            refine lv_iconst (v := 2) hx hb dX3_line_73 (by decide) ?_
            refine lv_iadd hx hb dX3_line_74 ?_
            refine lv_istore (lv' := [(5, .int (q11 + 2)), (4, .ref (g.2.2 2 (Int32.toNatClampNeg x2))), (0, .ref (g.2.2 3 0)), (1, .int x1), (2, .int x2), (3, .int x3)]) hx hb dX3_line_75 hl (by decide) rfl (fun ls hl => ?_)
            refine lv_aload_n hx hb dX3_line_77 rfl (lv_at hl 2 rfl) ?_
            refine lv_iload_n hx hb dX3_line_78 rfl (lv_at hl 3 rfl) ?_
            refine lv_aload hx hb dX3_line_79 (lv_at hl 1 rfl) ?_
            obtain ⟨q12, hq12, h⟩ := cal_some h
            refine w_callVi F B (c_X3_lineEnd l g n S0 H.size x1 (Int32.toNatClampNeg x2) (ltI z6) q12 hq12) mC_X3_lineEnd mM_X3_161 mN_X3 mI_X3_lineEnd mS_X3_lineEnd ixC_3 rfl rfl ⟨ok_X3_lineEnd, by decide⟩ rfl hl.1 rfl (Nat.le_of_ble_eq_true rfl) dX3_line_81 (fun H locs B => ?_)
            refine lv_istore (lv' := [(6, .int q12), (5, .int (q11 + 2)), (4, .ref (g.2.2 2 (Int32.toNatClampNeg x2))), (0, .ref (g.2.2 3 0)), (1, .int x1), (2, .int x2), (3, .int x3)]) hx hb dX3_line_84 hl (by decide) rfl (fun ls hl => ?_)
            refine lv_iload hx hb dX3_line_86 (lv_at hl 0 rfl) ?_
            refine lv_iload hx hb dX3_line_88 (lv_at hl 1 rfl) ?_
            refine lv_isub hx hb dX3_line_90 ?_
            refine lv_bipush (v := 10) hx hb dX3_line_91 (by decide) ?_
            refine lv_icmp_ge (tgt := 99) hx hb dX3_line_93 (by decide) (fun c13 => ?_) (fun c13 => ?_)
            · rw [if_pos c13] at h
              refine lv_iload_n hx hb dX3_line_99 rfl (lv_at hl 6 rfl) ?_
              refine lv_if_ne (tgt := 108) hx hb dX3_line_100 (by decide) (fun c14 => ?_) (fun c14 => ?_)
              · rw [if_neg c14] at h
                refine lv_iload hx hb dX3_line_108 (lv_at hl 0 rfl) ?_
                obtain rfl := Option.some.inj h
                exact w_iret F hr hlocks B dX3_line_110
              · rw [if_pos c14] at h
                refine lv_iload hx hb dX3_line_103 (lv_at hl 1 rfl) ?_
                refine lv_goto (tgt := 110) hx hb dX3_line_105 (by decide) ?_
                obtain rfl := Option.some.inj h
                exact w_iret F hr hlocks B dX3_line_110
            · rw [if_neg c13] at h
              refine lv_ldc (v := -1000009) hx hb F.2.2.2.1 (F.2.2.2.2 _ (wsU_in mK_X3_160)) dX3_line_96 ?_
              obtain rfl := Option.some.inj h
              exact w_iret F hr hlocks B dX3_line_98
          · rw [if_neg c10] at h
            refine lv_ldc (v := -1000009) hx hb F.2.2.2.1 (F.2.2.2.2 _ (wsU_in mK_X3_160)) dX3_line_64 ?_
            obtain rfl := Option.some.inj h
            exact w_iret F hr hlocks B dX3_line_66
      · rw [if_pos c5] at h
        refine lv_ldc (v := -1000003) hx hb F.2.2.2.1 (F.2.2.2.2 _ (wsU_in mK_X3_67)) dX3_line_31 ?_
        obtain rfl := Option.some.inj h
        exact w_iret F hr hlocks B dX3_line_33
    · rw [if_neg c4] at h
      refine lv_ldc (v := -1000002) hx hb F.2.2.2.1 (F.2.2.2.2 _ (wsU_in mK_X3_42)) dX3_line_21 ?_
      obtain rfl := Option.some.inj h
      exact w_iret F hr hlocks B dX3_line_23
  · rw [if_pos c2] at h
    refine lv_ldc (v := -1000001) hx hb F.2.2.2.1 (F.2.2.2.2 _ (wsU_in mK_X3_62)) dX3_line_9 ?_
    obtain rfl := Option.some.inj h
    exact w_iret F hr hlocks B dX3_line_11
def b_X2_lastBox_3 (n : Nat) (S0 : mem) (i0 : Nat) : (Int32) → Option ((Int32) ⊕ (Int32)) := fun w =>
if w < 0 then (
some (.inr (-1))) else (
cal (f_X2_hasBox n S0 i0 w) fun q2 => (
if q2 = 0 then (
some (.inl ((w + (-1))))) else (
some (.inr (w)))))
/-- private int lastBox() -/
def f_X2_lastBox (n : Nat) (S0 : mem) (i0 : Nat) : Option (Int32) :=
lp (b_X2_lastBox_3 n S0 i0) n (59)
set_option maxRecDepth 100000 in
set_option maxHeartbeats 4000000 in
theorem c_X2_lastBox (l : Launch) (g : cx) (n : Nat) (S0 : mem) (sz : Nat) (i0 : Nat) (hi0 : i0 < 4) (q : Int32) (h : f_X2_lastBox n S0 i0 = some q) : Met l yX2_lastBox (wsU yX2_lastBox cX2_lastBox 2 (some .int)) (rmD 1) (PcW ixC enC g S0 sz [.ref (g.2.2 2 i0)]) (QiW ixC enC g sz q S0) 0 0 (Aw ixC g sz) := by
  refine met_intro (Qc := fun z9 => QiW ixC enC g z9 q S0) (free := fun z9 => Aw ixC g z9) [.ref (g.2.2 2 i0)] RX2 rfl (by decide) (Nat.le_of_ble_eq_true rfl) (fun p e s m args below meth c H locs F hr hlocks B ls hl => ?_)
  have hl : lv_has ls 2 [(0, .ref (g.2.2 2 i0))] := hl
  have hx := F.1
  have hb := F.2.1
  unfold f_X2_lastBox at h
  refine lv_bipush (v := 59) hx hb dX2_lastBox_0 (by decide) ?_
  refine lv_istore_n (lv' := [(1, .int 59), (0, .ref (g.2.2 2 i0))]) hx hb dX2_lastBox_2 rfl hl (by decide) rfl (fun ls hl => ?_)
  have L3 : ∀ (k3 : Nat) (i0 : Nat) (hi0 : i0 < 4) (x1 : Int32), lp (b_X2_lastBox_3 n S0 i0) k3 (x1) = some q → ∀ (H : Heap) (locs : List Loc) (ls : Array Slot), Wd ixC enC g S0 (Aw ixC g s.heap.size) s H locs → lv_has ls 2 [(0, .ref (g.2.2 2 i0)), (1, .int x1)] → W p l e (rmD 1) s m args below meth c H locs 0 0 (MQ below (QiW ixC enC g s.heap.size q S0) args s 0 0 (Aw ixC g s.heap.size)) (F0 m 3 ls []) := by
    intro k3
    induction k3 with
    | zero => intro i0 hi0 x1 h; exact (lp_zero h).elim
    | succ k3 ih3 =>
      intro i0 hi0 x1 h H locs ls B hl
      obtain ⟨t3, h, ht3⟩ := lp_succ h
      unfold b_X2_lastBox_3 at h
      (try dsimp only at h)
      refine lv_iload_n hx hb dX2_lastBox_3 rfl (lv_at hl 1 rfl) ?_
      refine lv_if_lt (tgt := 23) hx hb dX2_lastBox_4 (by decide) (fun c1 => ?_) (fun c1 => ?_)
      · rw [if_pos c1] at h
        refine lv_iconst (v := -1) hx hb dX2_lastBox_23 (by decide) ?_
        obtain rfl := Option.some.inj h
        obtain rfl := (show _ = q from ht3)
        exact w_iret F hr hlocks B dX2_lastBox_24
      · rw [if_neg c1] at h
        refine lv_aload_n hx hb dX2_lastBox_7 rfl (lv_at hl 0 rfl) ?_
        refine lv_iload_n hx hb dX2_lastBox_8 rfl (lv_at hl 1 rfl) ?_
        obtain ⟨q2, hq2, h⟩ := cal_some h
        refine w_callVi F B (c_X2_hasBox l g n S0 H.size i0 hi0 x1 q2 hq2) mC_X2_hasBox mM_X2_65 mN_X2 mI_X2_hasBox mS_X2_hasBox (ixC_2 hi0) rfl rfl ⟨ok_X2_hasBox, by decide⟩ rfl hl.1 rfl (Nat.le_of_ble_eq_true rfl) dX2_lastBox_9 (fun H locs B => ?_)
        refine lv_if_eq (tgt := 17) hx hb dX2_lastBox_12 (by decide) (fun c3 => ?_) (fun c3 => ?_)
        · rw [if_pos c3] at h
          refine lv_iinc (v := x1 + (-1)) (lv' := [(1, .int (x1 + (-1))), (0, .ref (g.2.2 2 i0))]) hx hb dX2_lastBox_17 hl (k := 1) rfl rfl (by decide) rfl (fun ls hl => ?_)
          refine lv_goto (tgt := 3) hx hb dX2_lastBox_20 (by decide) ?_
          obtain rfl := Option.some.inj h
          exact ih3 i0 hi0 (x1 + (-1)) ht3 H locs ls B (lv_sub hl [1, 0] rfl)
        · rw [if_neg c3] at h
          refine lv_iload_n hx hb dX2_lastBox_15 rfl (lv_at hl 1 rfl) ?_
          obtain rfl := Option.some.inj h
          obtain rfl := (show _ = q from ht3)
          exact w_iret F hr hlocks B dX2_lastBox_16
  exact L3 n i0 hi0 59 h H locs ls B (lv_sub hl [1, 0] rfl)
/-- private boolean isFault(int, int, int) -/
def f_X3_isFault (n : Nat) (S0 : mem) (x1 : Int32) (x2 : Int32) (x3 : Int32) : Option (Int32) :=
grd (¬ (x1 < 0 ∨ 4 ≤ Int32.toNatClampNeg x1)) (
cal (f_X2_hasBox n S0 (Int32.toNatClampNeg x1) x2) fun q2 => (
if q2 = 0 then (
if x3 = (-1) then (
some (0)) else (
if (S0 2 (Int32.toNatClampNeg x1) 7) = 0 then (
cal (f_X3_maySing n S0 x2 x1) fun q6 => (
if q6 = 0 then (
some (0)) else (
some (1)))) else (
some (0)))) else (
if x2 = x3 then (
cal (f_X2_isGoingOn n S0 (Int32.toNatClampNeg x1) x2) fun q9 => (
if q9 = 0 then (
some (0)) else (
some (1)))) else (
some (0)))))
set_option maxRecDepth 100000 in
set_option maxHeartbeats 4000000 in
theorem c_X3_isFault (l : Launch) (g : cx) (n : Nat) (S0 : mem) (sz : Nat) (x1 : Int32) (x2 : Int32) (x3 : Int32) (q : Int32) (h : f_X3_isFault n S0 x1 x2 x3 = some q) : Met l yX3_isFault (wsU yX3_isFault cX3_isFault 5 (some .boolean)) (rmD 2) (PcW ixC enC g S0 sz [.ref (g.2.2 3 0), .int x1, .int x2, .int x3]) (QiW ixC enC g sz q S0) 0 0 (Aw ixC g sz) := by
  refine met_intro (Qc := fun z9 => QiW ixC enC g z9 q S0) (free := fun z9 => Aw ixC g z9) [.ref (g.2.2 3 0), .int x1, .int x2, .int x3] RX3 rfl (by decide) (Nat.le_of_ble_eq_true rfl) (fun p e s m args below meth c H locs F hr hlocks B ls hl => ?_)
  have hl : lv_has ls 5 [(0, .ref (g.2.2 3 0)), (1, .int x1), (2, .int x2), (3, .int x3)] := hl
  have hx := F.1
  have hb := F.2.1
  unfold f_X3_isFault at h
  refine lv_aload_n hx hb dX3_isFault_0 rfl (lv_at hl 0 rfl) ?_
  refine gt_X3_1 F B mF_X3_17 dX3_isFault_1 ?_
  refine lv_iload_n hx hb dX3_isFault_4 rfl (lv_at hl 1 rfl) ?_
  obtain ⟨z1, h⟩ := grd_some h
  refine al_C5 F B  z1 dX3_isFault_5 ?_
  refine lv_astore (lv' := [(4, .ref (g.2.2 2 (Int32.toNatClampNeg x1))), (0, .ref (g.2.2 3 0)), (1, .int x1), (2, .int x2), (3, .int x3)]) hx hb dX3_isFault_6 hl (by decide) rfl (fun ls hl => ?_)
  refine lv_aload hx hb dX3_isFault_8 (lv_at hl 0 rfl) ?_
  refine lv_iload_n hx hb dX3_isFault_10 rfl (lv_at hl 3 rfl) ?_
  obtain ⟨q2, hq2, h⟩ := cal_some h
  refine w_callNi F B (c_X2_hasBox l g n S0 H.size (Int32.toNatClampNeg x1) (ltI z1) x2 q2 hq2) mC_X2_hasBox nM_X3_173 mN_X2 mI_X2_hasBox mS_X2_hasBox (ixC_2 (ltI z1)) rfl rfl ⟨ok_X2_hasBox, by decide⟩ rfl hl.1 rfl (Nat.le_of_ble_eq_true rfl) dX3_isFault_11 (fun H locs B => ?_)
  refine lv_if_eq (tgt := 37) hx hb dX3_isFault_14 (by decide) (fun c3 => ?_) (fun c3 => ?_)
  · rw [if_pos c3] at h
    refine lv_iload_n hx hb dX3_isFault_37 rfl (lv_at hl 4 rfl) ?_
    refine lv_iconst (v := -1) hx hb dX3_isFault_38 (by decide) ?_
    refine lv_icmp_eq (tgt := 63) hx hb dX3_isFault_39 (by decide) (fun c4 => ?_) (fun c4 => ?_)
    · rw [if_pos c4] at h
      refine lv_iconst (v := 0) hx hb dX3_isFault_63 (by decide) ?_
      obtain rfl := Option.some.inj h
      exact w_zret F hr hlocks (Or.inl rfl) B dX3_isFault_64
    · rw [if_neg c4] at h
      refine lv_aload hx hb dX3_isFault_42 (lv_at hl 0 rfl) ?_
      refine gn_X2_7 F B (ltI z1) nF_X3_106 dX3_isFault_44 ?_
      refine lv_if_ne (tgt := 63) hx hb dX3_isFault_47 (by decide) (fun c5 => ?_) (fun c5 => ?_)
      · rw [if_neg c5] at h
        refine lv_iconst (v := 0) hx hb dX3_isFault_63 (by decide) ?_
        obtain rfl := Option.some.inj h
        exact w_zret F hr hlocks (Or.inl rfl) B dX3_isFault_64
      · rw [if_pos c5] at h
        refine lv_aload_n hx hb dX3_isFault_50 rfl (lv_at hl 1 rfl) ?_
        refine lv_iload_n hx hb dX3_isFault_51 rfl (lv_at hl 3 rfl) ?_
        refine lv_iload_n hx hb dX3_isFault_52 rfl (lv_at hl 2 rfl) ?_
        obtain ⟨q6, hq6, h⟩ := cal_some h
        refine w_callVi F B (c_X3_maySing l g n S0 H.size x2 x1 q6 hq6) mC_X3_maySing mM_X3_63 mN_X3 mI_X3_maySing mS_X3_maySing ixC_3 rfl rfl ⟨ok_X3_maySing, by decide⟩ rfl hl.1 rfl (Nat.le_of_ble_eq_true rfl) dX3_isFault_53 (fun H locs B => ?_)
        refine lv_if_eq (tgt := 63) hx hb dX3_isFault_56 (by decide) (fun c7 => ?_) (fun c7 => ?_)
        · rw [if_pos c7] at h
          refine lv_iconst (v := 0) hx hb dX3_isFault_63 (by decide) ?_
          obtain rfl := Option.some.inj h
          exact w_zret F hr hlocks (Or.inl rfl) B dX3_isFault_64
        · rw [if_neg c7] at h
          refine lv_iconst (v := 1) hx hb dX3_isFault_59 (by decide) ?_
          refine lv_goto (tgt := 64) hx hb dX3_isFault_60 (by decide) ?_
          obtain rfl := Option.some.inj h
          exact w_zret F hr hlocks (Or.inr rfl) B dX3_isFault_64
  · rw [if_neg c3] at h
    refine lv_iload_n hx hb dX3_isFault_17 rfl (lv_at hl 3 rfl) ?_
    refine lv_iload_n hx hb dX3_isFault_18 rfl (lv_at hl 4 rfl) ?_
    refine lv_icmp_ne (tgt := 35) hx hb dX3_isFault_19 (by decide) (fun c8 => ?_) (fun c8 => ?_)
    · rw [if_neg c8] at h
      refine lv_iconst (v := 0) hx hb dX3_isFault_35 (by decide) ?_
      obtain rfl := Option.some.inj h
      exact w_zret F hr hlocks (Or.inl rfl) B dX3_isFault_36
    · rw [if_pos c8] at h
      refine lv_aload hx hb dX3_isFault_22 (lv_at hl 0 rfl) ?_
      refine lv_iload_n hx hb dX3_isFault_24 rfl (lv_at hl 3 rfl) ?_
      obtain ⟨q9, hq9, h⟩ := cal_some h
      refine w_callNi F B (c_X2_isGoingOn l g n S0 H.size (Int32.toNatClampNeg x1) (ltI z1) x2 q9 hq9) mC_X2_isGoingOn nM_X3_157 mN_X2 mI_X2_isGoingOn mS_X2_isGoingOn (ixC_2 (ltI z1)) rfl rfl ⟨ok_X2_isGoingOn, by decide⟩ rfl hl.1 rfl (Nat.le_of_ble_eq_true rfl) dX3_isFault_25 (fun H locs B => ?_)
      refine lv_if_eq (tgt := 35) hx hb dX3_isFault_28 (by decide) (fun c10 => ?_) (fun c10 => ?_)
      · rw [if_pos c10] at h
        refine lv_iconst (v := 0) hx hb dX3_isFault_35 (by decide) ?_
        obtain rfl := Option.some.inj h
        exact w_zret F hr hlocks (Or.inl rfl) B dX3_isFault_36
      · rw [if_neg c10] at h
        refine lv_iconst (v := 1) hx hb dX3_isFault_31 (by decide) ?_
        refine lv_goto (tgt := 36) hx hb dX3_isFault_32 (by decide) ?_
        obtain rfl := Option.some.inj h
        exact w_zret F hr hlocks (Or.inr rfl) B dX3_isFault_36
def b_X3_listFaults_22 (n : Nat) (x2 : Int32) (x3 : Int32) : (Int32 × Int32 × mem) → Option ((Int32 × Int32 × mem) ⊕ ((Int32 × Int32 × mem) ⊕ (Int32 × mem))) := fun w =>
if (w.2.2 3 0 4) ≤ w.2.1 then (
some (.inr (.inl (w.1, (x2 + 1), w.2.2)))) else (
cal (f_X3_isFault n w.2.2 x2 w.2.1 x3) fun q5 => (
if q5 = 0 then (
some (.inl (w.1, (w.2.1 + 1), w.2.2))) else (
grd (¬ (w.1 < 0 ∨ 240 ≤ Int32.toNatClampNeg w.1)) (
some (.inl ((w.1 + 1), (w.2.1 + 1), (mup w.2.2 6 0 (Int32.toNatClampNeg w.1) ((x2 * 60) + w.2.1))))))))
def b_X3_listFaults_4 (n : Nat) : (Int32 × Int32 × mem) → Option ((Int32 × Int32 × mem) ⊕ (Int32 × mem)) := fun w =>
if 4 ≤ w.2.1 then (
some (.inr ((w.1, w.2.2)))) else (
grd (¬ (w.2.1 < 0 ∨ 4 ≤ Int32.toNatClampNeg w.2.1)) (
cal (f_X2_lastBox n w.2.2 (Int32.toNatClampNeg w.2.1)) fun q3 => (
lp (b_X3_listFaults_22 n w.2.1 q3) n (w.1, 0, w.2.2))))
/-- private int listFaults() -/
def f_X3_listFaults (n : Nat) (S0 : mem) : Option (Int32 × mem) :=
lp (b_X3_listFaults_4 n ) n (0, 0, S0)
set_option maxRecDepth 100000 in
set_option maxHeartbeats 4000000 in
theorem c_X3_listFaults (l : Launch) (g : cx) (n : Nat) (S0 : mem) (sz : Nat)  (q : Int32 × mem) (h : f_X3_listFaults n S0 = some q) : Met l yX3_listFaults (wsU yX3_listFaults cX3_listFaults 5 (some .int)) (rmD 3) (PcW ixC enC g S0 sz [.ref (g.2.2 3 0)]) (QiW ixC enC g sz q.1 q.2) 0 0 (Aw ixC g sz) := by
  refine met_intro (Qc := fun z9 => QiW ixC enC g z9 q.1 q.2) (free := fun z9 => Aw ixC g z9) [.ref (g.2.2 3 0)] RX3 rfl (by decide) (Nat.le_of_ble_eq_true rfl) (fun p e s m args below meth c H locs F hr hlocks B ls hl => ?_)
  have hl : lv_has ls 5 [(0, .ref (g.2.2 3 0))] := hl
  have hx := F.1
  have hb := F.2.1
  unfold f_X3_listFaults at h
  refine lv_iconst (v := 0) hx hb dX3_listFaults_0 (by decide) ?_
  refine lv_istore_n (lv' := [(1, .int 0), (0, .ref (g.2.2 3 0))]) hx hb dX3_listFaults_1 rfl hl (by decide) rfl (fun ls hl => ?_)
  refine lv_iconst (v := 0) hx hb dX3_listFaults_2 (by decide) ?_
  refine lv_istore_n (lv' := [(2, .int 0), (1, .int 0), (0, .ref (g.2.2 3 0))]) hx hb dX3_listFaults_3 rfl hl (by decide) rfl (fun ls hl => ?_)
  have L4 : ∀ (k4 : Nat) (x1 : Int32) (x2 : Int32) (S : mem), lp (b_X3_listFaults_4 n) k4 (x1, x2, S) = some q → ∀ (H : Heap) (locs : List Loc) (ls : Array Slot), Wd ixC enC g S (Aw ixC g s.heap.size) s H locs → lv_has ls 5 [(0, .ref (g.2.2 3 0)), (1, .int x1), (2, .int x2)] → W p l e (rmD 3) s m args below meth c H locs 0 0 (MQ below (QiW ixC enC g s.heap.size q.1 q.2) args s 0 0 (Aw ixC g s.heap.size)) (F0 m 4 ls []) := by
    intro k4
    induction k4 with
    | zero => intro x1 x2 S h; exact (lp_zero h).elim
    | succ k4 ih4 =>
      intro x1 x2 S h H locs ls B hl
      obtain ⟨t4, h, ht4⟩ := lp_succ h
      unfold b_X3_listFaults_4 at h
      (try dsimp only at h)
      refine lv_iload_n hx hb dX3_listFaults_4 rfl (lv_at hl 2 rfl) ?_
      refine lv_iconst (v := 4) hx hb dX3_listFaults_5 (by decide) ?_
      refine lv_icmp_ge (tgt := 70) hx hb dX3_listFaults_6 (by decide) (fun c1 => ?_) (fun c1 => ?_)
      · rw [if_pos c1] at h
        refine lv_iload_n hx hb dX3_listFaults_70 rfl (lv_at hl 1 rfl) ?_
        obtain rfl := Option.some.inj h
        obtain rfl := (show _ = q from ht4)
        exact w_iret F hr hlocks B dX3_listFaults_71
      · rw [if_neg c1] at h
        refine lv_aload_n hx hb dX3_listFaults_9 rfl (lv_at hl 0 rfl) ?_
        refine gt_X3_1 F B mF_X3_17 dX3_listFaults_10 ?_
        refine lv_iload_n hx hb dX3_listFaults_13 rfl (lv_at hl 2 rfl) ?_
        obtain ⟨z2, h⟩ := grd_some h
        refine al_C5 F B  z2 dX3_listFaults_14 ?_
        obtain ⟨q3, hq3, h⟩ := cal_some h
        refine w_callNi F B (c_X2_lastBox l g n S H.size (Int32.toNatClampNeg x2) (ltI z2) q3 hq3) mC_X2_lastBox nM_X3_269 mN_X2 mI_X2_lastBox mS_X2_lastBox (ixC_2 (ltI z2)) rfl rfl ⟨ok_X2_lastBox, by decide⟩ rfl hl.1 rfl (Nat.le_of_ble_eq_true rfl) dX3_listFaults_15 (fun H locs B => ?_)
        refine lv_istore_n (lv' := [(3, .int q3), (0, .ref (g.2.2 3 0)), (1, .int x1), (2, .int x2)]) hx hb dX3_listFaults_18 rfl hl (by decide) rfl (fun ls hl => ?_)
        refine lv_iconst (v := 0) hx hb dX3_listFaults_19 (by decide) ?_
        refine lv_istore (lv' := [(4, .int 0), (3, .int q3), (0, .ref (g.2.2 3 0)), (1, .int x1), (2, .int x2)]) hx hb dX3_listFaults_20 hl (by decide) rfl (fun ls hl => ?_)
        have L22 : ∀ (k22 : Nat) (x2 : Int32) (x3 : Int32) (x1 : Int32) (x4 : Int32) (S : mem), lp (b_X3_listFaults_22 n x2 x3) k22 (x1, x4, S) = some t4 → ∀ (H : Heap) (locs : List Loc) (ls : Array Slot), Wd ixC enC g S (Aw ixC g s.heap.size) s H locs → lv_has ls 5 [(0, .ref (g.2.2 3 0)), (1, .int x1), (2, .int x2), (3, .int x3), (4, .int x4)] → W p l e (rmD 3) s m args below meth c H locs 0 0 (MQ below (QiW ixC enC g s.heap.size q.1 q.2) args s 0 0 (Aw ixC g s.heap.size)) (F0 m 22 ls []) := by
          intro k22
          induction k22 with
          | zero => intro x2 x3 x1 x4 S h; exact (lp_zero h).elim
          | succ k22 ih22 =>
            intro x2 x3 x1 x4 S h H locs ls B hl
            obtain ⟨t22, h, ht22⟩ := lp_succ h
            unfold b_X3_listFaults_22 at h
            (try dsimp only at h)
            refine lv_iload hx hb dX3_listFaults_22 (lv_at hl 4 rfl) ?_
            refine lv_aload_n hx hb dX3_listFaults_24 rfl (lv_at hl 0 rfl) ?_
            refine gt_X3_4 F B mF_X3_43 dX3_listFaults_25 ?_
            refine lv_icmp_ge (tgt := 64) hx hb dX3_listFaults_28 (by decide) (fun c4 => ?_) (fun c4 => ?_)
            · rw [if_pos c4] at h
              refine lv_iinc (v := x2 + 1) (lv' := [(2, .int (x2 + 1)), (0, .ref (g.2.2 3 0)), (1, .int x1), (3, .int x3), (4, .int x4)]) hx hb dX3_listFaults_64 hl (k := 2) rfl rfl (by decide) rfl (fun ls hl => ?_)
              refine lv_goto (tgt := 4) hx hb dX3_listFaults_67 (by decide) ?_
              obtain rfl := Option.some.inj h
              obtain rfl := (show _ = t4 from ht22)
              exact ih4 x1 (x2 + 1) S ht4 H locs ls B (lv_sub hl [1, 2, 0] rfl)
            · rw [if_neg c4] at h
              refine lv_aload_n hx hb dX3_listFaults_31 rfl (lv_at hl 0 rfl) ?_
              refine lv_iload_n hx hb dX3_listFaults_32 rfl (lv_at hl 2 rfl) ?_
              refine lv_iload hx hb dX3_listFaults_33 (lv_at hl 4 rfl) ?_
              refine lv_iload_n hx hb dX3_listFaults_35 rfl (lv_at hl 3 rfl) ?_
              obtain ⟨q5, hq5, h⟩ := cal_some h
              refine w_callVi F B (c_X3_isFault l g n S H.size x2 x4 x3 q5 hq5) mC_X3_isFault mM_X3_272 mN_X3 mI_X3_isFault mS_X3_isFault ixC_3 rfl rfl ⟨ok_X3_isFault, by decide⟩ rfl hl.1 rfl (Nat.le_of_ble_eq_true rfl) dX3_listFaults_36 (fun H locs B => ?_)
              refine lv_if_eq (tgt := 58) hx hb dX3_listFaults_39 (by decide) (fun c6 => ?_) (fun c6 => ?_)
              · rw [if_pos c6] at h
                refine lv_iinc (v := x4 + 1) (lv' := [(4, .int (x4 + 1)), (0, .ref (g.2.2 3 0)), (1, .int x1), (2, .int x2), (3, .int x3)]) hx hb dX3_listFaults_58 hl (k := 4) rfl rfl (by decide) rfl (fun ls hl => ?_)
                refine lv_goto (tgt := 22) hx hb dX3_listFaults_61 (by decide) ?_
                obtain rfl := Option.some.inj h
                exact ih22 x2 x3 x1 (x4 + 1) S ht22 H locs ls B (lv_sub hl [1, 2, 3, 4, 0] rfl)
              · rw [if_neg c6] at h
                refine lv_aload_n hx hb dX3_listFaults_42 rfl (lv_at hl 0 rfl) ?_
                refine gt_X3_3 F B mF_X3_28 dX3_listFaults_43 ?_
                refine lv_iload_n hx hb dX3_listFaults_46 rfl (lv_at hl 1 rfl) ?_
                refine lv_iload_n hx hb dX3_listFaults_47 rfl (lv_at hl 2 rfl) ?_
                refine lv_bipush (v := 60) hx hb dX3_listFaults_48 (by decide) ?_
                refine lv_imul hx hb dX3_listFaults_50 ?_
                refine lv_iload hx hb dX3_listFaults_51 (lv_at hl 4 rfl) ?_
                refine lv_iadd hx hb dX3_listFaults_53 ?_
                obtain ⟨z7, h⟩ := grd_some h
                refine as_C6 F B  z7 dX3_listFaults_54 (fun H locs B => ?_)
                refine lv_iinc (v := x1 + 1) (lv' := [(1, .int (x1 + 1)), (0, .ref (g.2.2 3 0)), (2, .int x2), (3, .int x3), (4, .int x4)]) hx hb dX3_listFaults_55 hl (k := 1) rfl rfl (by decide) rfl (fun ls hl => ?_)
                refine lv_iinc (v := x4 + 1) (lv' := [(4, .int (x4 + 1)), (1, .int (x1 + 1)), (0, .ref (g.2.2 3 0)), (2, .int x2), (3, .int x3)]) hx hb dX3_listFaults_58 hl (k := 4) rfl rfl (by decide) rfl (fun ls hl => ?_)
                refine lv_goto (tgt := 22) hx hb dX3_listFaults_61 (by decide) ?_
                obtain rfl := Option.some.inj h
                exact ih22 x2 x3 (x1 + 1) (x4 + 1) (mup S 6 0 (Int32.toNatClampNeg x1) ((x2 * 60) + x4)) ht22 H locs ls B (lv_sub hl [2, 1, 3, 4, 0] rfl)
        exact L22 n x2 q3 x1 0 S h H locs ls B (lv_sub hl [2, 3, 4, 1, 0] rfl)
  exact L4 n 0 0 S0 h H locs ls B (lv_sub hl [2, 1, 0] rfl)
/-- public int faults() -/
def f_X3_faults (n : Nat) (S0 : mem) : Option (Int32 × mem) :=
cal (f_X3_listFaults n S0) fun q1 => (
some ((q1.1, q1.2)))
set_option maxRecDepth 100000 in
set_option maxHeartbeats 4000000 in
theorem c_X3_faults (l : Launch) (g : cx) (n : Nat) (S0 : mem) (sz : Nat)  (q : Int32 × mem) (h : f_X3_faults n S0 = some q) : Met l yX3_faults (wsU yX3_faults cX3_faults 1 (some .int)) (rmD 4) (PcW ixC enC g S0 sz [.ref (g.2.2 3 0)]) (QiW ixC enC g sz q.1 q.2) 0 0 (Aw ixC g sz) := by
  refine met_intro (Qc := fun z9 => QiW ixC enC g z9 q.1 q.2) (free := fun z9 => Aw ixC g z9) [.ref (g.2.2 3 0)] RX3 rfl (by decide) (Nat.le_of_ble_eq_true rfl) (fun p e s m args below meth c H locs F hr hlocks B ls hl => ?_)
  have hl : lv_has ls 1 [(0, .ref (g.2.2 3 0))] := hl
  have hx := F.1
  have hb := F.2.1
  unfold f_X3_faults at h
  refine lv_aload_n hx hb dX3_faults_0 rfl (lv_at hl 0 rfl) ?_
  obtain ⟨q1, hq1, h⟩ := cal_some h
  refine w_callVi F B (c_X3_listFaults l g n S0 H.size  q1 hq1) mC_X3_listFaults mM_X3_170 mN_X3 mI_X3_listFaults mS_X3_listFaults ixC_3 rfl rfl ⟨ok_X3_listFaults, by decide⟩ rfl hl.1 rfl (Nat.le_of_ble_eq_true rfl) dX3_faults_1 (fun H locs B => ?_)
  obtain rfl := Option.some.inj h
  exact w_iret F hr hlocks B dX3_faults_4
/-- public int fault(int, int) -/
def f_X3_fault (n : Nat) (S0 : mem) (x1 : Int32) (x2 : Int32) : Option (Int32 × mem) :=
cal (f_X3_listFaults n S0) fun q1 => (
cal (f_X3_isOutside n q1.2 x1 0 (q1.1 - 1)) fun q2 => (
if q2 = 0 then (
cal (f_X3_isOutside n q1.2 x2 0 2) fun q4 => (
if q4 = 0 then (
grd (¬ (x1 < 0 ∨ 240 ≤ Int32.toNatClampNeg x1)) (
if x2 = 0 then (
grd (¬ ((q1.2 6 0 (Int32.toNatClampNeg x1)) / 60 < 0 ∨ 4 ≤ Int32.toNatClampNeg ((q1.2 6 0 (Int32.toNatClampNeg x1)) / 60))) (
cal (f_X2_hasBox n q1.2 (Int32.toNatClampNeg ((q1.2 6 0 (Int32.toNatClampNeg x1)) / 60)) ((q1.2 6 0 (Int32.toNatClampNeg x1)) - (q1.2 6 0 (Int32.toNatClampNeg x1)) / 60 * 60)) fun q9 => (
if q9 = 0 then (
some ((1, q1.2))) else (
some ((2, q1.2)))))) else (
if x2 = 1 then (
some (((q1.2 6 0 (Int32.toNatClampNeg x1)) / 60, q1.2))) else (
some (((q1.2 6 0 (Int32.toNatClampNeg x1)) - (q1.2 6 0 (Int32.toNatClampNeg x1)) / 60 * 60, q1.2)))))) else (
some ((-1000002, q1.2))))) else (
some ((-1000001, q1.2)))))
set_option maxRecDepth 100000 in
set_option maxHeartbeats 4000000 in
theorem c_X3_fault (l : Launch) (g : cx) (n : Nat) (S0 : mem) (sz : Nat) (x1 : Int32) (x2 : Int32) (q : Int32 × mem) (h : f_X3_fault n S0 x1 x2 = some q) : Met l yX3_fault (wsU yX3_fault cX3_fault 6 (some .int)) (rmD 4) (PcW ixC enC g S0 sz [.ref (g.2.2 3 0), .int x1, .int x2]) (QiW ixC enC g sz q.1 q.2) 0 0 (Aw ixC g sz) := by
  refine met_intro (Qc := fun z9 => QiW ixC enC g z9 q.1 q.2) (free := fun z9 => Aw ixC g z9) [.ref (g.2.2 3 0), .int x1, .int x2] RX3 rfl (by decide) (Nat.le_of_ble_eq_true rfl) (fun p e s m args below meth c H locs F hr hlocks B ls hl => ?_)
  have hl : lv_has ls 6 [(0, .ref (g.2.2 3 0)), (1, .int x1), (2, .int x2)] := hl
  have hx := F.1
  have hb := F.2.1
  unfold f_X3_fault at h
  refine lv_aload_n hx hb dX3_fault_0 rfl (lv_at hl 0 rfl) ?_
  obtain ⟨q1, hq1, h⟩ := cal_some h
  refine w_callVi F B (c_X3_listFaults l g n S0 H.size  q1 hq1) mC_X3_listFaults mM_X3_170 mN_X3 mI_X3_listFaults mS_X3_listFaults ixC_3 rfl rfl ⟨ok_X3_listFaults, by decide⟩ rfl hl.1 rfl (Nat.le_of_ble_eq_true rfl) dX3_fault_1 (fun H locs B => ?_)
  refine lv_istore_n (lv' := [(3, .int q1.1), (0, .ref (g.2.2 3 0)), (1, .int x1), (2, .int x2)]) hx hb dX3_fault_4 rfl hl (by decide) rfl (fun ls hl => ?_)
  refine lv_iload_n hx hb dX3_fault_5 rfl (lv_at hl 2 rfl) ?_
  refine lv_iconst (v := 0) hx hb dX3_fault_6 (by decide) ?_
  refine lv_iload_n hx hb dX3_fault_7 rfl (lv_at hl 0 rfl) ?_
  refine lv_iconst (v := 1) hx hb dX3_fault_8 (by decide) ?_
  refine lv_isub hx hb dX3_fault_9 ?_
  obtain ⟨q2, hq2, h⟩ := cal_some h
  refine w_callSi F B (c_X3_isOutside l g n q1.2 H.size x1 0 (q1.1 - 1) q2 hq2) mC_X3_isOutside mM_X3_38 mN_X3 mT_X3_isOutside ⟨ok_X3_isOutside, by decide⟩ rfl hl.1 rfl (Nat.le_of_ble_eq_true rfl) dX3_fault_10 (fun H locs B => ?_)
  refine lv_if_eq (tgt := 19) hx hb dX3_fault_13 (by decide) (fun c3 => ?_) (fun c3 => ?_)
  · rw [if_pos c3] at h
    refine lv_iload_n hx hb dX3_fault_19 rfl (lv_at hl 3 rfl) ?_
    refine lv_iconst (v := 0) hx hb dX3_fault_20 (by decide) ?_
    refine lv_iconst (v := 2) hx hb dX3_fault_21 (by decide) ?_
    obtain ⟨q4, hq4, h⟩ := cal_some h
    refine w_callSi F B (c_X3_isOutside l g n q1.2 H.size x2 0 2 q4 hq4) mC_X3_isOutside mM_X3_38 mN_X3 mT_X3_isOutside ⟨ok_X3_isOutside, by decide⟩ rfl hl.1 rfl (Nat.le_of_ble_eq_true rfl) dX3_fault_22 (fun H locs B => ?_)
    refine lv_if_eq (tgt := 31) hx hb dX3_fault_25 (by decide) (fun c5 => ?_) (fun c5 => ?_)
    · rw [if_pos c5] at h
      refine lv_aload_n hx hb dX3_fault_31 rfl (lv_at hl 1 rfl) ?_
      refine gt_X3_3 F B mF_X3_28 dX3_fault_32 ?_
      refine lv_iload_n hx hb dX3_fault_35 rfl (lv_at hl 2 rfl) ?_
      obtain ⟨z6, h⟩ := grd_some h
      refine al_C6 F B  z6 dX3_fault_36 ?_
      refine lv_bipush (v := 60) hx hb dX3_fault_37 (by decide) ?_
      refine lv_idiv hx hb dX3_fault_39 (by decide) ?_
      refine lv_istore (lv' := [(4, .int ((q1.2 6 0 (Int32.toNatClampNeg x1)) / 60)), (3, .int q1.1), (0, .ref (g.2.2 3 0)), (1, .int x1), (2, .int x2)]) hx hb dX3_fault_40 hl (by decide) rfl (fun ls hl => ?_)
      refine lv_aload_n hx hb dX3_fault_42 rfl (lv_at hl 2 rfl) ?_
      refine gt_X3_3 F B mF_X3_28 dX3_fault_43 ?_
      refine lv_iload_n hx hb dX3_fault_46 rfl (lv_at hl 3 rfl) ?_
      refine al_C6 F B  z6 dX3_fault_47 ?_
      refine lv_bipush (v := 60) hx hb dX3_fault_48 (by decide) ?_
      refine lv_irem hx hb dX3_fault_50 (by decide) ?_
      refine lv_istore (lv' := [(5, .int ((q1.2 6 0 (Int32.toNatClampNeg x1)) - (q1.2 6 0 (Int32.toNatClampNeg x1)) / 60 * 60)), (4, .int ((q1.2 6 0 (Int32.toNatClampNeg x1)) / 60)), (3, .int q1.1), (0, .ref (g.2.2 3 0)), (1, .int x1), (2, .int x2)]) hx hb dX3_fault_51 hl (by decide) rfl (fun ls hl => ?_)
      refine lv_iload_n hx hb dX3_fault_53 rfl (lv_at hl 5 rfl) ?_
      by_cases c7 : x2 = 0
      · rw [if_pos c7] at h
        refine lv_lookup (off := 26) (tgt := 80) hx hb dX3_fault_54 (by decide) (by rw [c7]; first | done | rfl) (by decide) ?_
        refine lv_aload_n hx hb dX3_fault_80 rfl (lv_at hl 3 rfl) ?_
        refine gt_X3_1 F B mF_X3_17 dX3_fault_81 ?_
        refine lv_iload hx hb dX3_fault_84 (lv_at hl 1 rfl) ?_
        obtain ⟨z8, h⟩ := grd_some h
        refine al_C5 F B  z8 dX3_fault_86 ?_
        refine lv_iload hx hb dX3_fault_87 (lv_at hl 0 rfl) ?_
        obtain ⟨q9, hq9, h⟩ := cal_some h
        refine w_callNi F B (c_X2_hasBox l g n q1.2 H.size (Int32.toNatClampNeg ((q1.2 6 0 (Int32.toNatClampNeg x1)) / 60)) (ltI z8) ((q1.2 6 0 (Int32.toNatClampNeg x1)) - (q1.2 6 0 (Int32.toNatClampNeg x1)) / 60 * 60) q9 hq9) mC_X2_hasBox nM_X3_173 mN_X2 mI_X2_hasBox mS_X2_hasBox (ixC_2 (ltI z8)) rfl rfl ⟨ok_X2_hasBox, by decide⟩ rfl hl.1 rfl (Nat.le_of_ble_eq_true rfl) dX3_fault_89 (fun H locs B => ?_)
        refine lv_if_eq (tgt := 99) hx hb dX3_fault_92 (by decide) (fun c10 => ?_) (fun c10 => ?_)
        · rw [if_pos c10] at h
          refine lv_iconst (v := 1) hx hb dX3_fault_99 (by decide) ?_
          obtain rfl := Option.some.inj h
          exact w_iret F hr hlocks B dX3_fault_100
        · rw [if_neg c10] at h
          refine lv_iconst (v := 2) hx hb dX3_fault_95 (by decide) ?_
          refine lv_goto (tgt := 100) hx hb dX3_fault_96 (by decide) ?_
          obtain rfl := Option.some.inj h
          exact w_iret F hr hlocks B dX3_fault_100
      · rw [if_neg c7] at h
        by_cases c11 : x2 = 1
        · rw [if_pos c11] at h
          refine lv_lookup (off := 47) (tgt := 101) hx hb dX3_fault_54 (by decide) (by rw [c11]; first | done | rfl) (by decide) ?_
          refine lv_iload hx hb dX3_fault_101 (lv_at hl 1 rfl) ?_
          obtain rfl := Option.some.inj h
          exact w_iret F hr hlocks B dX3_fault_103
        · rw [if_neg c11] at h
          refine lv_lookup (off := 50) (tgt := 104) hx hb dX3_fault_54 (by decide) ((lv_osw c7 (by decide)).trans ((lv_osw c11 (by decide)).trans (rfl))) (by decide) ?_
          refine lv_iload hx hb dX3_fault_104 (lv_at hl 0 rfl) ?_
          obtain rfl := Option.some.inj h
          exact w_iret F hr hlocks B dX3_fault_106
    · rw [if_neg c5] at h
      refine lv_ldc (v := -1000002) hx hb F.2.2.2.1 (F.2.2.2.2 _ (wsU_in mK_X3_42)) dX3_fault_28 ?_
      obtain rfl := Option.some.inj h
      exact w_iret F hr hlocks B dX3_fault_30
  · rw [if_neg c3] at h
    refine lv_ldc (v := -1000001) hx hb F.2.2.2.1 (F.2.2.2.2 _ (wsU_in mK_X3_62)) dX3_fault_16 ?_
    obtain rfl := Option.some.inj h
    exact w_iret F hr hlocks B dX3_fault_18
/-- private boolean hasBoxes() -/
def f_X2_hasBoxes (n : Nat) (S0 : mem) (i0 : Nat) : Option (Int32) :=
if (S0 2 i0 5) ≤ 0 then (
some (0)) else (
some (1))
set_option maxRecDepth 100000 in
set_option maxHeartbeats 4000000 in
theorem c_X2_hasBoxes (l : Launch) (g : cx) (n : Nat) (S0 : mem) (sz : Nat) (i0 : Nat) (hi0 : i0 < 4) (q : Int32) (h : f_X2_hasBoxes n S0 i0 = some q) : Met l yX2_hasBoxes (wsU yX2_hasBoxes cX2_hasBoxes 1 (some .boolean)) (rmD 0) (PcW ixC enC g S0 sz [.ref (g.2.2 2 i0)]) (QiW ixC enC g sz q S0) 0 0 (Aw ixC g sz) := by
  refine met_intro (Qc := fun z9 => QiW ixC enC g z9 q S0) (free := fun z9 => Aw ixC g z9) [.ref (g.2.2 2 i0)] RX2 rfl (by decide) (Nat.le_of_ble_eq_true rfl) (fun p e s m args below meth c H locs F hr hlocks B ls hl => ?_)
  have hl : lv_has ls 1 [(0, .ref (g.2.2 2 i0))] := hl
  have hx := F.1
  have hb := F.2.1
  unfold f_X2_hasBoxes at h
  refine lv_aload_n hx hb dX2_hasBoxes_0 rfl (lv_at hl 0 rfl) ?_
  refine gt_X2_5 F B hi0 mF_X2_32 dX2_hasBoxes_1 ?_
  refine lv_if_le (tgt := 11) hx hb dX2_hasBoxes_4 (by decide) (fun c1 => ?_) (fun c1 => ?_)
  · rw [if_pos c1] at h
    refine lv_iconst (v := 0) hx hb dX2_hasBoxes_11 (by decide) ?_
    obtain rfl := Option.some.inj h
    exact w_zret F hr hlocks (Or.inl rfl) B dX2_hasBoxes_12
  · rw [if_neg c1] at h
    refine lv_iconst (v := 1) hx hb dX2_hasBoxes_7 (by decide) ?_
    refine lv_goto (tgt := 12) hx hb dX2_hasBoxes_8 (by decide) ?_
    obtain rfl := Option.some.inj h
    exact w_zret F hr hlocks (Or.inr rfl) B dX2_hasBoxes_12
def b_X2_hasSameSyllables_24 (n : Nat) (S0 : mem) (i0 : Nat) (i1 : Nat) (x2 : Int32) (x3 : Int32) : (Int32) → Option ((Int32) ⊕ (Int32)) := fun w =>
grd (¬ (x2 < 0 ∨ 60 ≤ Int32.toNatClampNeg x2)) (
if (x3 + (S0 7 i0 (Int32.toNatClampNeg x2))) ≤ w then (
some (.inr (1))) else (
grd (¬ (w < 0 ∨ 120 ≤ Int32.toNatClampNeg w)) (
if (S0 8 i0 (Int32.toNatClampNeg w)) = (S0 8 i1 (Int32.toNatClampNeg w)) then (
if (S0 9 i0 (Int32.toNatClampNeg w)) = (S0 9 i1 (Int32.toNatClampNeg w)) then (
if (S0 10 i0 (Int32.toNatClampNeg w)) = (S0 10 i1 (Int32.toNatClampNeg w)) then (
some (.inl ((w + 1)))) else (
some (.inr (0)))) else (
some (.inr (0)))) else (
some (.inr (0))))))
/-- private boolean hasSameSyllables(WordRows$Verse, int) -/
def f_X2_hasSameSyllables (n : Nat) (S0 : mem) (i0 : Nat) (i1 : Nat) (x2 : Int32) : Option (Int32) :=
grd (¬ (x2 < 0 ∨ 60 ≤ Int32.toNatClampNeg x2)) (
if (S0 7 i0 (Int32.toNatClampNeg x2)) = (S0 7 i1 (Int32.toNatClampNeg x2)) then (
lp (b_X2_hasSameSyllables_24 n S0 i0 i1 x2 (2 * x2)) n ((2 * x2))) else (
some (0)))
set_option maxRecDepth 100000 in
set_option maxHeartbeats 4000000 in
theorem c_X2_hasSameSyllables (l : Launch) (g : cx) (n : Nat) (S0 : mem) (sz : Nat) (i0 : Nat) (hi0 : i0 < 4) (i1 : Nat) (hi1 : i1 < 4) (x2 : Int32) (q : Int32) (h : f_X2_hasSameSyllables n S0 i0 i1 x2 = some q) : Met l yX2_hasSameSyllables (wsU yX2_hasSameSyllables cX2_hasSameSyllables 5 (some .boolean)) (rmD 0) (PcW ixC enC g S0 sz [.ref (g.2.2 2 i0), .ref (g.2.2 2 i1), .int x2]) (QiW ixC enC g sz q S0) 0 0 (Aw ixC g sz) := by
  refine met_intro (Qc := fun z9 => QiW ixC enC g z9 q S0) (free := fun z9 => Aw ixC g z9) [.ref (g.2.2 2 i0), .ref (g.2.2 2 i1), .int x2] RX2 rfl (by decide) (Nat.le_of_ble_eq_true rfl) (fun p e s m args below meth c H locs F hr hlocks B ls hl => ?_)
  have hl : lv_has ls 5 [(0, .ref (g.2.2 2 i0)), (1, .ref (g.2.2 2 i1)), (2, .int x2)] := hl
  have hx := F.1
  have hb := F.2.1
  unfold f_X2_hasSameSyllables at h
  refine lv_aload_n hx hb dX2_hasSameSyllables_0 rfl (lv_at hl 0 rfl) ?_
  refine gt_X2_0 F B hi0 mF_X2_9 dX2_hasSameSyllables_1 ?_
  refine lv_iload_n hx hb dX2_hasSameSyllables_4 rfl (lv_at hl 2 rfl) ?_
  obtain ⟨z1, h⟩ := grd_some h
  refine al_C7 F B (ixC_7 hi0) z1 dX2_hasSameSyllables_5 ?_
  refine lv_aload_n hx hb dX2_hasSameSyllables_6 rfl (lv_at hl 1 rfl) ?_
  refine gt_X2_0 F B hi1 mF_X2_9 dX2_hasSameSyllables_7 ?_
  refine lv_iload_n hx hb dX2_hasSameSyllables_10 rfl (lv_at hl 2 rfl) ?_
  refine al_C7 F B (ixC_7 hi1) z1 dX2_hasSameSyllables_11 ?_
  refine lv_icmp_eq (tgt := 17) hx hb dX2_hasSameSyllables_12 (by decide) (fun c2 => ?_) (fun c2 => ?_)
  · rw [if_pos c2] at h
    refine lv_iconst (v := 2) hx hb dX2_hasSameSyllables_17 (by decide) ?_
    refine lv_iload_n hx hb dX2_hasSameSyllables_18 rfl (lv_at hl 2 rfl) ?_
    refine lv_imul hx hb dX2_hasSameSyllables_19 ?_
    refine lv_istore_n (lv' := [(3, .int (2 * x2)), (0, .ref (g.2.2 2 i0)), (1, .ref (g.2.2 2 i1)), (2, .int x2)]) hx hb dX2_hasSameSyllables_20 rfl hl (by decide) rfl (fun ls hl => ?_)
    refine lv_iload_n hx hb dX2_hasSameSyllables_21 rfl (lv_at hl 0 rfl) ?_
    refine lv_istore (lv' := [(4, .int (2 * x2)), (3, .int (2 * x2)), (0, .ref (g.2.2 2 i0)), (1, .ref (g.2.2 2 i1)), (2, .int x2)]) hx hb dX2_hasSameSyllables_22 hl (by decide) rfl (fun ls hl => ?_)
    have L24 : ∀ (k24 : Nat) (i0 : Nat) (i1 : Nat) (x2 : Int32) (x3 : Int32) (hi0 : i0 < 4) (hi1 : i1 < 4) (x4 : Int32), lp (b_X2_hasSameSyllables_24 n S0 i0 i1 x2 x3) k24 (x4) = some q → ∀ (H : Heap) (locs : List Loc) (ls : Array Slot), Wd ixC enC g S0 (Aw ixC g s.heap.size) s H locs → lv_has ls 5 [(0, .ref (g.2.2 2 i0)), (1, .ref (g.2.2 2 i1)), (2, .int x2), (3, .int x3), (4, .int x4)] → W p l e (rmD 0) s m args below meth c H locs 0 0 (MQ below (QiW ixC enC g s.heap.size q S0) args s 0 0 (Aw ixC g s.heap.size)) (F0 m 24 ls []) := by
      intro k24
      induction k24 with
      | zero => intro i0 i1 x2 x3 hi0 hi1 x4 h; exact (lp_zero h).elim
      | succ k24 ih24 =>
        intro i0 i1 x2 x3 hi0 hi1 x4 h H locs ls B hl
        obtain ⟨t24, h, ht24⟩ := lp_succ h
        unfold b_X2_hasSameSyllables_24 at h
        (try dsimp only at h)
        refine lv_iload hx hb dX2_hasSameSyllables_24 (lv_at hl 4 rfl) ?_
        refine lv_iload_n hx hb dX2_hasSameSyllables_26 rfl (lv_at hl 3 rfl) ?_
        refine lv_aload_n hx hb dX2_hasSameSyllables_27 rfl (lv_at hl 0 rfl) ?_
        refine gt_X2_0 F B hi0 mF_X2_9 dX2_hasSameSyllables_28 ?_
        refine lv_iload_n hx hb dX2_hasSameSyllables_31 rfl (lv_at hl 2 rfl) ?_
        obtain ⟨z3, h⟩ := grd_some h
        refine al_C7 F B (ixC_7 hi0) z3 dX2_hasSameSyllables_32 ?_
        refine lv_iadd hx hb dX2_hasSameSyllables_33 ?_
        refine lv_icmp_ge (tgt := 96) hx hb dX2_hasSameSyllables_34 (by decide) (fun c4 => ?_) (fun c4 => ?_)
        · rw [if_pos c4] at h
          refine lv_iconst (v := 1) hx hb dX2_hasSameSyllables_96 (by decide) ?_
          obtain rfl := Option.some.inj h
          obtain rfl := (show _ = q from ht24)
          exact w_zret F hr hlocks (Or.inr rfl) B dX2_hasSameSyllables_97
        · rw [if_neg c4] at h
          refine lv_aload_n hx hb dX2_hasSameSyllables_37 rfl (lv_at hl 0 rfl) ?_
          refine gt_X2_1 F B hi0 mF_X2_15 dX2_hasSameSyllables_38 ?_
          refine lv_iload hx hb dX2_hasSameSyllables_41 (lv_at hl 4 rfl) ?_
          obtain ⟨z5, h⟩ := grd_some h
          refine al_C8 F B (ixC_8 hi0) z5 dX2_hasSameSyllables_43 ?_
          refine lv_aload_n hx hb dX2_hasSameSyllables_44 rfl (lv_at hl 1 rfl) ?_
          refine gt_X2_1 F B hi1 mF_X2_15 dX2_hasSameSyllables_45 ?_
          refine lv_iload hx hb dX2_hasSameSyllables_48 (lv_at hl 4 rfl) ?_
          refine al_C8 F B (ixC_8 hi1) z5 dX2_hasSameSyllables_50 ?_
          refine lv_icmp_ne (tgt := 88) hx hb dX2_hasSameSyllables_51 (by decide) (fun c6 => ?_) (fun c6 => ?_)
          · rw [if_neg c6] at h
            refine lv_iconst (v := 0) hx hb dX2_hasSameSyllables_88 (by decide) ?_
            obtain rfl := Option.some.inj h
            obtain rfl := (show _ = q from ht24)
            exact w_zret F hr hlocks (Or.inl rfl) B dX2_hasSameSyllables_89
          · rw [if_pos c6] at h
            refine lv_aload_n hx hb dX2_hasSameSyllables_54 rfl (lv_at hl 0 rfl) ?_
            refine gt_X2_2 F B hi0 mF_X2_18 dX2_hasSameSyllables_55 ?_
            refine lv_iload hx hb dX2_hasSameSyllables_58 (lv_at hl 4 rfl) ?_
            refine al_C9 F B (ixC_9 hi0) z5 dX2_hasSameSyllables_60 ?_
            refine lv_aload_n hx hb dX2_hasSameSyllables_61 rfl (lv_at hl 1 rfl) ?_
            refine gt_X2_2 F B hi1 mF_X2_18 dX2_hasSameSyllables_62 ?_
            refine lv_iload hx hb dX2_hasSameSyllables_65 (lv_at hl 4 rfl) ?_
            refine al_C9 F B (ixC_9 hi1) z5 dX2_hasSameSyllables_67 ?_
            refine lv_icmp_ne (tgt := 88) hx hb dX2_hasSameSyllables_68 (by decide) (fun c7 => ?_) (fun c7 => ?_)
            · rw [if_neg c7] at h
              refine lv_iconst (v := 0) hx hb dX2_hasSameSyllables_88 (by decide) ?_
              obtain rfl := Option.some.inj h
              obtain rfl := (show _ = q from ht24)
              exact w_zret F hr hlocks (Or.inl rfl) B dX2_hasSameSyllables_89
            · rw [if_pos c7] at h
              refine lv_aload_n hx hb dX2_hasSameSyllables_71 rfl (lv_at hl 0 rfl) ?_
              refine gt_X2_3 F B hi0 mF_X2_21 dX2_hasSameSyllables_72 ?_
              refine lv_iload hx hb dX2_hasSameSyllables_75 (lv_at hl 4 rfl) ?_
              refine al_C10 F B (ixC_10 hi0) z5 dX2_hasSameSyllables_77 ?_
              refine lv_aload_n hx hb dX2_hasSameSyllables_78 rfl (lv_at hl 1 rfl) ?_
              refine gt_X2_3 F B hi1 mF_X2_21 dX2_hasSameSyllables_79 ?_
              refine lv_iload hx hb dX2_hasSameSyllables_82 (lv_at hl 4 rfl) ?_
              refine al_C10 F B (ixC_10 hi1) z5 dX2_hasSameSyllables_84 ?_
              refine lv_icmp_eq (tgt := 90) hx hb dX2_hasSameSyllables_85 (by decide) (fun c8 => ?_) (fun c8 => ?_)
              · rw [if_pos c8] at h
                refine lv_iinc (v := x4 + 1) (lv' := [(4, .int (x4 + 1)), (0, .ref (g.2.2 2 i0)), (1, .ref (g.2.2 2 i1)), (2, .int x2), (3, .int x3)]) hx hb dX2_hasSameSyllables_90 hl (k := 4) rfl rfl (by decide) rfl (fun ls hl => ?_)
                refine lv_goto (tgt := 24) hx hb dX2_hasSameSyllables_93 (by decide) ?_
                obtain rfl := Option.some.inj h
                exact ih24 i0 i1 x2 x3 hi0 hi1 (x4 + 1) ht24 H locs ls B (lv_sub hl [1, 2, 3, 4, 0] rfl)
              · rw [if_neg c8] at h
                refine lv_iconst (v := 0) hx hb dX2_hasSameSyllables_88 (by decide) ?_
                obtain rfl := Option.some.inj h
                obtain rfl := (show _ = q from ht24)
                exact w_zret F hr hlocks (Or.inl rfl) B dX2_hasSameSyllables_89
    exact L24 n i0 i1 x2 (2 * x2) hi0 hi1 (2 * x2) h H locs ls B (lv_sub hl [2, 3, 4, 1, 0] rfl)
  · rw [if_neg c2] at h
    refine lv_iconst (v := 0) hx hb dX2_hasSameSyllables_15 (by decide) ?_
    obtain rfl := Option.some.inj h
    exact w_zret F hr hlocks (Or.inl rfl) B dX2_hasSameSyllables_16
def b_X3_areAlike_42 (n : Nat) (S0 : mem) (i1 : Nat) (i2 : Nat) : (Int32) → Option ((Int32) ⊕ (Int32)) := fun w =>
if (S0 3 0 4) ≤ w then (
some (.inr (1))) else (
grd (¬ (w < 0 ∨ 60 ≤ Int32.toNatClampNeg w)) (
if (S0 1 (Int32.toNatClampNeg w) 6) = (-1) then (
cal (f_X2_hasSameSyllables n S0 i1 i2 w) fun q10 => (
if q10 = 0 then (
some (.inr (0))) else (
some (.inl ((w + 1)))))) else (
some (.inl ((w + 1))))))
/-- private boolean areAlike(WordRows$Verse, WordRows$Verse) -/
def f_X3_areAlike (n : Nat) (S0 : mem) (i1 : Nat) (i2 : Nat) : Option (Int32) :=
cal (f_X2_hasBoxes n S0 i1) fun q1 => (
if q1 = 0 then (
some (0)) else (
cal (f_X2_hasBoxes n S0 i2) fun q3 => (
if q3 = 0 then (
some (0)) else (
if (S0 2 i1 6) = (S0 2 i2 6) then (
if (S0 2 i1 7) = (S0 2 i2 7) then (
lp (b_X3_areAlike_42 n S0 i1 i2) n (0)) else (
some (0))) else (
some (0))))))
set_option maxRecDepth 100000 in
set_option maxHeartbeats 4000000 in
theorem c_X3_areAlike (l : Launch) (g : cx) (n : Nat) (S0 : mem) (sz : Nat) (i1 : Nat) (hi1 : i1 < 4) (i2 : Nat) (hi2 : i2 < 4) (q : Int32) (h : f_X3_areAlike n S0 i1 i2 = some q) : Met l yX3_areAlike (wsU yX3_areAlike cX3_areAlike 4 (some .boolean)) (rmD 1) (PcW ixC enC g S0 sz [.ref (g.2.2 3 0), .ref (g.2.2 2 i1), .ref (g.2.2 2 i2)]) (QiW ixC enC g sz q S0) 0 0 (Aw ixC g sz) := by
  refine met_intro (Qc := fun z9 => QiW ixC enC g z9 q S0) (free := fun z9 => Aw ixC g z9) [.ref (g.2.2 3 0), .ref (g.2.2 2 i1), .ref (g.2.2 2 i2)] RX3 rfl (by decide) (Nat.le_of_ble_eq_true rfl) (fun p e s m args below meth c H locs F hr hlocks B ls hl => ?_)
  have hl : lv_has ls 4 [(0, .ref (g.2.2 3 0)), (1, .ref (g.2.2 2 i1)), (2, .ref (g.2.2 2 i2))] := hl
  have hx := F.1
  have hb := F.2.1
  unfold f_X3_areAlike at h
  refine lv_aload_n hx hb dX3_areAlike_0 rfl (lv_at hl 1 rfl) ?_
  obtain ⟨q1, hq1, h⟩ := cal_some h
  refine w_callNi F B (c_X2_hasBoxes l g n S0 H.size i1 hi1 q1 hq1) mC_X2_hasBoxes nM_X3_179 mN_X2 mI_X2_hasBoxes mS_X2_hasBoxes (ixC_2 hi1) rfl rfl ⟨ok_X2_hasBoxes, by decide⟩ rfl hl.1 rfl (Nat.le_of_ble_eq_true rfl) dX3_areAlike_1 (fun H locs B => ?_)
  refine lv_if_eq (tgt := 14) hx hb dX3_areAlike_4 (by decide) (fun c2 => ?_) (fun c2 => ?_)
  · rw [if_pos c2] at h
    refine lv_iconst (v := 0) hx hb dX3_areAlike_14 (by decide) ?_
    obtain rfl := Option.some.inj h
    exact w_zret F hr hlocks (Or.inl rfl) B dX3_areAlike_15
  · rw [if_neg c2] at h
    refine lv_aload_n hx hb dX3_areAlike_7 rfl (lv_at hl 2 rfl) ?_
    obtain ⟨q3, hq3, h⟩ := cal_some h
    refine w_callNi F B (c_X2_hasBoxes l g n S0 H.size i2 hi2 q3 hq3) mC_X2_hasBoxes nM_X3_179 mN_X2 mI_X2_hasBoxes mS_X2_hasBoxes (ixC_2 hi2) rfl rfl ⟨ok_X2_hasBoxes, by decide⟩ rfl hl.1 rfl (Nat.le_of_ble_eq_true rfl) dX3_areAlike_8 (fun H locs B => ?_)
    refine lv_if_ne (tgt := 16) hx hb dX3_areAlike_11 (by decide) (fun c4 => ?_) (fun c4 => ?_)
    · rw [if_neg c4] at h
      refine lv_aload_n hx hb dX3_areAlike_16 rfl (lv_at hl 1 rfl) ?_
      refine gn_X2_6 F B hi1 nF_X3_103 dX3_areAlike_17 ?_
      refine lv_aload_n hx hb dX3_areAlike_20 rfl (lv_at hl 2 rfl) ?_
      refine gn_X2_6 F B hi2 nF_X3_103 dX3_areAlike_21 ?_
      refine lv_icmp_ne (tgt := 38) hx hb dX3_areAlike_24 (by decide) (fun c5 => ?_) (fun c5 => ?_)
      · rw [if_neg c5] at h
        refine lv_iconst (v := 0) hx hb dX3_areAlike_38 (by decide) ?_
        obtain rfl := Option.some.inj h
        exact w_zret F hr hlocks (Or.inl rfl) B dX3_areAlike_39
      · rw [if_pos c5] at h
        refine lv_aload_n hx hb dX3_areAlike_27 rfl (lv_at hl 1 rfl) ?_
        refine gn_X2_7 F B hi1 nF_X3_106 dX3_areAlike_28 ?_
        refine lv_aload_n hx hb dX3_areAlike_31 rfl (lv_at hl 2 rfl) ?_
        refine gn_X2_7 F B hi2 nF_X3_106 dX3_areAlike_32 ?_
        refine lv_icmp_eq (tgt := 40) hx hb dX3_areAlike_35 (by decide) (fun c6 => ?_) (fun c6 => ?_)
        · rw [if_pos c6] at h
          refine lv_iconst (v := 0) hx hb dX3_areAlike_40 (by decide) ?_
          refine lv_istore_n (lv' := [(3, .int 0), (0, .ref (g.2.2 3 0)), (1, .ref (g.2.2 2 i1)), (2, .ref (g.2.2 2 i2))]) hx hb dX3_areAlike_41 rfl hl (by decide) rfl (fun ls hl => ?_)
          have L42 : ∀ (k42 : Nat) (i1 : Nat) (i2 : Nat) (hi1 : i1 < 4) (hi2 : i2 < 4) (x3 : Int32), lp (b_X3_areAlike_42 n S0 i1 i2) k42 (x3) = some q → ∀ (H : Heap) (locs : List Loc) (ls : Array Slot), Wd ixC enC g S0 (Aw ixC g s.heap.size) s H locs → lv_has ls 4 [(0, .ref (g.2.2 3 0)), (1, .ref (g.2.2 2 i1)), (2, .ref (g.2.2 2 i2)), (3, .int x3)] → W p l e (rmD 1) s m args below meth c H locs 0 0 (MQ below (QiW ixC enC g s.heap.size q S0) args s 0 0 (Aw ixC g s.heap.size)) (F0 m 42 ls []) := by
            intro k42
            induction k42 with
            | zero => intro i1 i2 hi1 hi2 x3 h; exact (lp_zero h).elim
            | succ k42 ih42 =>
              intro i1 i2 hi1 hi2 x3 h H locs ls B hl
              obtain ⟨t42, h, ht42⟩ := lp_succ h
              unfold b_X3_areAlike_42 at h
              (try dsimp only at h)
              refine lv_iload_n hx hb dX3_areAlike_42 rfl (lv_at hl 3 rfl) ?_
              refine lv_aload_n hx hb dX3_areAlike_43 rfl (lv_at hl 0 rfl) ?_
              refine gt_X3_4 F B mF_X3_43 dX3_areAlike_44 ?_
              refine lv_icmp_ge (tgt := 80) hx hb dX3_areAlike_47 (by decide) (fun c7 => ?_) (fun c7 => ?_)
              · rw [if_pos c7] at h
                refine lv_iconst (v := 1) hx hb dX3_areAlike_80 (by decide) ?_
                obtain rfl := Option.some.inj h
                obtain rfl := (show _ = q from ht42)
                exact w_zret F hr hlocks (Or.inr rfl) B dX3_areAlike_81
              · rw [if_neg c7] at h
                refine lv_aload_n hx hb dX3_areAlike_50 rfl (lv_at hl 0 rfl) ?_
                refine gt_X3_0 F B mF_X3_11 dX3_areAlike_51 ?_
                refine lv_iload_n hx hb dX3_areAlike_54 rfl (lv_at hl 3 rfl) ?_
                obtain ⟨z8, h⟩ := grd_some h
                refine al_C4 F B  z8 dX3_areAlike_55 ?_
                refine gn_X1_6 F B (ltI z8) nF_X3_100 dX3_areAlike_56 ?_
                refine lv_iconst (v := -1) hx hb dX3_areAlike_59 (by decide) ?_
                refine lv_icmp_ne (tgt := 74) hx hb dX3_areAlike_60 (by decide) (fun c9 => ?_) (fun c9 => ?_)
                · rw [if_neg c9] at h
                  refine lv_iinc (v := x3 + 1) (lv' := [(3, .int (x3 + 1)), (0, .ref (g.2.2 3 0)), (1, .ref (g.2.2 2 i1)), (2, .ref (g.2.2 2 i2))]) hx hb dX3_areAlike_74 hl (k := 3) rfl rfl (by decide) rfl (fun ls hl => ?_)
                  refine lv_goto (tgt := 42) hx hb dX3_areAlike_77 (by decide) ?_
                  obtain rfl := Option.some.inj h
                  exact ih42 i1 i2 hi1 hi2 (x3 + 1) ht42 H locs ls B (lv_sub hl [1, 2, 3, 0] rfl)
                · rw [if_pos c9] at h
                  refine lv_aload_n hx hb dX3_areAlike_63 rfl (lv_at hl 1 rfl) ?_
                  refine lv_aload_n hx hb dX3_areAlike_64 rfl (lv_at hl 2 rfl) ?_
                  refine lv_iload_n hx hb dX3_areAlike_65 rfl (lv_at hl 3 rfl) ?_
                  obtain ⟨q10, hq10, h⟩ := cal_some h
                  refine w_callNi F B (c_X2_hasSameSyllables l g n S0 H.size i1 hi1 i2 hi2 x3 q10 hq10) mC_X2_hasSameSyllables nM_X3_279 mN_X2 mI_X2_hasSameSyllables mS_X2_hasSameSyllables (ixC_2 hi1) rfl rfl ⟨ok_X2_hasSameSyllables, by decide⟩ rfl hl.1 rfl (Nat.le_of_ble_eq_true rfl) dX3_areAlike_66 (fun H locs B => ?_)
                  refine lv_if_ne (tgt := 74) hx hb dX3_areAlike_69 (by decide) (fun c11 => ?_) (fun c11 => ?_)
                  · rw [if_neg c11] at h
                    refine lv_iinc (v := x3 + 1) (lv' := [(3, .int (x3 + 1)), (0, .ref (g.2.2 3 0)), (1, .ref (g.2.2 2 i1)), (2, .ref (g.2.2 2 i2))]) hx hb dX3_areAlike_74 hl (k := 3) rfl rfl (by decide) rfl (fun ls hl => ?_)
                    refine lv_goto (tgt := 42) hx hb dX3_areAlike_77 (by decide) ?_
                    obtain rfl := Option.some.inj h
                    exact ih42 i1 i2 hi1 hi2 (x3 + 1) ht42 H locs ls B (lv_sub hl [1, 2, 3, 0] rfl)
                  · rw [if_pos c11] at h
                    refine lv_iconst (v := 0) hx hb dX3_areAlike_72 (by decide) ?_
                    obtain rfl := Option.some.inj h
                    obtain rfl := (show _ = q from ht42)
                    exact w_zret F hr hlocks (Or.inl rfl) B dX3_areAlike_73
          exact L42 n i1 i2 hi1 hi2 0 h H locs ls B (lv_sub hl [1, 2, 3, 0] rfl)
        · rw [if_neg c6] at h
          refine lv_iconst (v := 0) hx hb dX3_areAlike_38 (by decide) ?_
          obtain rfl := Option.some.inj h
          exact w_zret F hr hlocks (Or.inl rfl) B dX3_areAlike_39
    · rw [if_pos c4] at h
      refine lv_iconst (v := 0) hx hb dX3_areAlike_14 (by decide) ?_
      obtain rfl := Option.some.inj h
      exact w_zret F hr hlocks (Or.inl rfl) B dX3_areAlike_15
def b_X3_sharedVerse_2 (n : Nat) (S0 : mem) (x1 : Int32) : (Int32) → Option ((Int32) ⊕ (Int32)) := fun w =>
if x1 ≤ w then (
some (.inr (-1))) else (
grd (¬ (w < 0 ∨ 4 ≤ Int32.toNatClampNeg w)) (
grd (¬ (x1 < 0 ∨ 4 ≤ Int32.toNatClampNeg x1)) (
cal (f_X3_areAlike n S0 (Int32.toNatClampNeg w) (Int32.toNatClampNeg x1)) fun q4 => (
if q4 = 0 then (
some (.inl ((w + 1)))) else (
some (.inr (w)))))))
/-- private int sharedVerse(int) -/
def f_X3_sharedVerse (n : Nat) (S0 : mem) (x1 : Int32) : Option (Int32) :=
lp (b_X3_sharedVerse_2 n S0 x1) n (0)
set_option maxRecDepth 100000 in
set_option maxHeartbeats 4000000 in
theorem c_X3_sharedVerse (l : Launch) (g : cx) (n : Nat) (S0 : mem) (sz : Nat) (x1 : Int32) (q : Int32) (h : f_X3_sharedVerse n S0 x1 = some q) : Met l yX3_sharedVerse (wsU yX3_sharedVerse cX3_sharedVerse 3 (some .int)) (rmD 2) (PcW ixC enC g S0 sz [.ref (g.2.2 3 0), .int x1]) (QiW ixC enC g sz q S0) 0 0 (Aw ixC g sz) := by
  refine met_intro (Qc := fun z9 => QiW ixC enC g z9 q S0) (free := fun z9 => Aw ixC g z9) [.ref (g.2.2 3 0), .int x1] RX3 rfl (by decide) (Nat.le_of_ble_eq_true rfl) (fun p e s m args below meth c H locs F hr hlocks B ls hl => ?_)
  have hl : lv_has ls 3 [(0, .ref (g.2.2 3 0)), (1, .int x1)] := hl
  have hx := F.1
  have hb := F.2.1
  unfold f_X3_sharedVerse at h
  refine lv_iconst (v := 0) hx hb dX3_sharedVerse_0 (by decide) ?_
  refine lv_istore_n (lv' := [(2, .int 0), (0, .ref (g.2.2 3 0)), (1, .int x1)]) hx hb dX3_sharedVerse_1 rfl hl (by decide) rfl (fun ls hl => ?_)
  have L2 : ∀ (k2 : Nat) (x1 : Int32) (x2 : Int32), lp (b_X3_sharedVerse_2 n S0 x1) k2 (x2) = some q → ∀ (H : Heap) (locs : List Loc) (ls : Array Slot), Wd ixC enC g S0 (Aw ixC g s.heap.size) s H locs → lv_has ls 3 [(0, .ref (g.2.2 3 0)), (1, .int x1), (2, .int x2)] → W p l e (rmD 2) s m args below meth c H locs 0 0 (MQ below (QiW ixC enC g s.heap.size q S0) args s 0 0 (Aw ixC g s.heap.size)) (F0 m 2 ls []) := by
    intro k2
    induction k2 with
    | zero => intro x1 x2 h; exact (lp_zero h).elim
    | succ k2 ih2 =>
      intro x1 x2 h H locs ls B hl
      obtain ⟨t2, h, ht2⟩ := lp_succ h
      unfold b_X3_sharedVerse_2 at h
      (try dsimp only at h)
      refine lv_iload_n hx hb dX3_sharedVerse_2 rfl (lv_at hl 2 rfl) ?_
      refine lv_iload_n hx hb dX3_sharedVerse_3 rfl (lv_at hl 1 rfl) ?_
      refine lv_icmp_ge (tgt := 34) hx hb dX3_sharedVerse_4 (by decide) (fun c1 => ?_) (fun c1 => ?_)
      · rw [if_pos c1] at h
        refine lv_iconst (v := -1) hx hb dX3_sharedVerse_34 (by decide) ?_
        obtain rfl := Option.some.inj h
        obtain rfl := (show _ = q from ht2)
        exact w_iret F hr hlocks B dX3_sharedVerse_35
      · rw [if_neg c1] at h
        refine lv_aload_n hx hb dX3_sharedVerse_7 rfl (lv_at hl 0 rfl) ?_
        refine lv_aload_n hx hb dX3_sharedVerse_8 rfl (lv_at hl 0 rfl) ?_
        refine gt_X3_1 F B mF_X3_17 dX3_sharedVerse_9 ?_
        refine lv_iload_n hx hb dX3_sharedVerse_12 rfl (lv_at hl 2 rfl) ?_
        obtain ⟨z2, h⟩ := grd_some h
        refine al_C5 F B  z2 dX3_sharedVerse_13 ?_
        refine lv_aload_n hx hb dX3_sharedVerse_14 rfl (lv_at hl 0 rfl) ?_
        refine gt_X3_1 F B mF_X3_17 dX3_sharedVerse_15 ?_
        refine lv_iload_n hx hb dX3_sharedVerse_18 rfl (lv_at hl 1 rfl) ?_
        obtain ⟨z3, h⟩ := grd_some h
        refine al_C5 F B  z3 dX3_sharedVerse_19 ?_
        obtain ⟨q4, hq4, h⟩ := cal_some h
        refine w_callVi F B (c_X3_areAlike l g n S0 H.size (Int32.toNatClampNeg x2) (ltI z2) (Int32.toNatClampNeg x1) (ltI z3) q4 hq4) mC_X3_areAlike mM_X3_275 mN_X3 mI_X3_areAlike mS_X3_areAlike ixC_3 rfl rfl ⟨ok_X3_areAlike, by decide⟩ rfl hl.1 rfl (Nat.le_of_ble_eq_true rfl) dX3_sharedVerse_20 (fun H locs B => ?_)
        refine lv_if_eq (tgt := 28) hx hb dX3_sharedVerse_23 (by decide) (fun c5 => ?_) (fun c5 => ?_)
        · rw [if_pos c5] at h
          refine lv_iinc (v := x2 + 1) (lv' := [(2, .int (x2 + 1)), (0, .ref (g.2.2 3 0)), (1, .int x1)]) hx hb dX3_sharedVerse_28 hl (k := 2) rfl rfl (by decide) rfl (fun ls hl => ?_)
          refine lv_goto (tgt := 2) hx hb dX3_sharedVerse_31 (by decide) ?_
          obtain rfl := Option.some.inj h
          exact ih2 x1 (x2 + 1) ht2 H locs ls B (lv_sub hl [1, 2, 0] rfl)
        · rw [if_neg c5] at h
          refine lv_iload_n hx hb dX3_sharedVerse_26 rfl (lv_at hl 2 rfl) ?_
          obtain rfl := Option.some.inj h
          obtain rfl := (show _ = q from ht2)
          exact w_iret F hr hlocks B dX3_sharedVerse_27
  exact L2 n x1 0 h H locs ls B (lv_sub hl [1, 2, 0] rfl)
/-- public int shares(int) -/
def f_X3_shares (n : Nat) (S0 : mem) (x1 : Int32) : Option (Int32) :=
cal (f_X3_isVerse n S0 x1) fun q1 => (
if q1 = 0 then (
some (-1000001)) else (
cal (f_X3_sharedVerse n S0 x1) fun q3 => (
if q3 = (-1) then (
some (-1000009)) else (
some (q3)))))
set_option maxRecDepth 100000 in
set_option maxHeartbeats 4000000 in
theorem c_X3_shares (l : Launch) (g : cx) (n : Nat) (S0 : mem) (sz : Nat) (x1 : Int32) (q : Int32) (h : f_X3_shares n S0 x1 = some q) : Met l yX3_shares (wsU yX3_shares cX3_shares 3 (some .int)) (rmD 3) (PcW ixC enC g S0 sz [.ref (g.2.2 3 0), .int x1]) (QiW ixC enC g sz q S0) 0 0 (Aw ixC g sz) := by
  refine met_intro (Qc := fun z9 => QiW ixC enC g z9 q S0) (free := fun z9 => Aw ixC g z9) [.ref (g.2.2 3 0), .int x1] RX3 rfl (by decide) (Nat.le_of_ble_eq_true rfl) (fun p e s m args below meth c H locs F hr hlocks B ls hl => ?_)
  have hl : lv_has ls 3 [(0, .ref (g.2.2 3 0)), (1, .int x1)] := hl
  have hx := F.1
  have hb := F.2.1
  unfold f_X3_shares at h
  refine lv_iload_n hx hb dX3_shares_0 rfl (lv_at hl 1 rfl) ?_
  obtain ⟨q1, hq1, h⟩ := cal_some h
  refine w_callSi F B (c_X3_isVerse l g n S0 H.size x1 q1 hq1) mC_X3_isVerse mM_X3_59 mN_X3 mT_X3_isVerse ⟨ok_X3_isVerse, by decide⟩ rfl hl.1 rfl (Nat.le_of_ble_eq_true rfl) dX3_shares_1 (fun H locs B => ?_)
  refine lv_if_ne (tgt := 10) hx hb dX3_shares_4 (by decide) (fun c2 => ?_) (fun c2 => ?_)
  · rw [if_neg c2] at h
    refine lv_aload_n hx hb dX3_shares_10 rfl (lv_at hl 0 rfl) ?_
    refine lv_iload_n hx hb dX3_shares_11 rfl (lv_at hl 1 rfl) ?_
    obtain ⟨q3, hq3, h⟩ := cal_some h
    refine w_callVi F B (c_X3_sharedVerse l g n S0 H.size x1 q3 hq3) mC_X3_sharedVerse mM_X3_176 mN_X3 mI_X3_sharedVerse mS_X3_sharedVerse ixC_3 rfl rfl ⟨ok_X3_sharedVerse, by decide⟩ rfl hl.1 rfl (Nat.le_of_ble_eq_true rfl) dX3_shares_12 (fun H locs B => ?_)
    refine lv_istore_n (lv' := [(2, .int q3), (0, .ref (g.2.2 3 0)), (1, .int x1)]) hx hb dX3_shares_15 rfl hl (by decide) rfl (fun ls hl => ?_)
    refine lv_iload_n hx hb dX3_shares_16 rfl (lv_at hl 0 rfl) ?_
    refine lv_iconst (v := -1) hx hb dX3_shares_17 (by decide) ?_
    refine lv_icmp_ne (tgt := 26) hx hb dX3_shares_18 (by decide) (fun c4 => ?_) (fun c4 => ?_)
    · rw [if_neg c4] at h
      refine lv_iload_n hx hb dX3_shares_26 rfl (lv_at hl 0 rfl) ?_
      obtain rfl := Option.some.inj h
      exact w_iret F hr hlocks B dX3_shares_27
    · rw [if_pos c4] at h
      refine lv_ldc (v := -1000009) hx hb F.2.2.2.1 (F.2.2.2.2 _ (wsU_in mK_X3_160)) dX3_shares_21 ?_
      refine lv_goto (tgt := 27) hx hb dX3_shares_23 (by decide) ?_
      obtain rfl := Option.some.inj h
      exact w_iret F hr hlocks B dX3_shares_27
  · rw [if_pos c2] at h
    refine lv_ldc (v := -1000001) hx hb F.2.2.2.1 (F.2.2.2.2 _ (wsU_in mK_X3_62)) dX3_shares_7 ?_
    obtain rfl := Option.some.inj h
    exact w_iret F hr hlocks B dX3_shares_9
