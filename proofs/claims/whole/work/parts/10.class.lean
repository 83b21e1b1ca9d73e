/-- private static boolean isOutside(int, int, int) -/
def f_X3_isOutside (n : Nat) (S0 : mem) (x0 : Int32) (x1 : Int32) (x2 : Int32) : Option (Int32) :=
if x0 < x1 then (
some (1)) else (
if x0 ≤ x2 then (
some (0)) else (
some (1)))
set_option maxRecDepth 100000 in
set_option maxHeartbeats 4000000 in
theorem c_X3_isOutside (l : Launch) (g : cx) (n : Nat) (S0 : mem) (sz : Nat) (x0 : Int32) (x1 : Int32) (x2 : Int32) (q : Int32) (h : f_X3_isOutside n S0 x0 x1 x2 = some q) : Met l yX3_isOutside (wsU yX3_isOutside cX3_isOutside 3 (some .boolean)) (rmD 0) (PcW ixC enC g S0 sz [.int x0, .int x1, .int x2]) (QiW ixC enC g sz q S0) 0 0 (Aw ixC g sz) := by
  refine met_intro (Qc := fun z9 => QiW ixC enC g z9 q S0) (free := fun z9 => Aw ixC g z9) [.int x0, .int x1, .int x2] RX3 rfl (by decide) (Nat.le_of_ble_eq_true rfl) (fun p e s m args below meth c H locs F hr hlocks B ls hl => ?_)
  have hl : lv_has ls 3 [(0, .int x0), (1, .int x1), (2, .int x2)] := hl
  have hx := F.1
  have hb := F.2.1
  unfold f_X3_isOutside at h
  refine lv_iload_n hx hb dX3_isOutside_0 rfl (lv_at hl 0 rfl) ?_
  refine lv_iload_n hx hb dX3_isOutside_1 rfl (lv_at hl 1 rfl) ?_
  refine lv_icmp_lt (tgt := 10) hx hb dX3_isOutside_2 (by decide) (fun c1 => ?_) (fun c1 => ?_)
  · rw [if_pos c1] at h
    refine lv_iconst (v := 1) hx hb dX3_isOutside_10 (by decide) ?_
    refine lv_goto (tgt := 15) hx hb dX3_isOutside_11 (by decide) ?_
    obtain rfl := Option.some.inj h
    exact w_zret F hr hlocks (Or.inr rfl) B dX3_isOutside_15
  · rw [if_neg c1] at h
    refine lv_iload_n hx hb dX3_isOutside_5 rfl (lv_at hl 0 rfl) ?_
    refine lv_iload_n hx hb dX3_isOutside_6 rfl (lv_at hl 2 rfl) ?_
    refine lv_icmp_le (tgt := 14) hx hb dX3_isOutside_7 (by decide) (fun c2 => ?_) (fun c2 => ?_)
    · rw [if_pos c2] at h
      refine lv_iconst (v := 0) hx hb dX3_isOutside_14 (by decide) ?_
      obtain rfl := Option.some.inj h
      exact w_zret F hr hlocks (Or.inl rfl) B dX3_isOutside_15
    · rw [if_neg c2] at h
      refine lv_iconst (v := 1) hx hb dX3_isOutside_10 (by decide) ?_
      refine lv_goto (tgt := 15) hx hb dX3_isOutside_11 (by decide) ?_
      obtain rfl := Option.some.inj h
      exact w_zret F hr hlocks (Or.inr rfl) B dX3_isOutside_15
/-- private void become(int, int, boolean) -/
def f_X1_become (n : Nat) (S0 : mem) (i0 : Nat) (x1 : Int32) (x2 : Int32) (x3 : Int32) : Option (mem) :=
grd (x3 = 0 ∨ x3 = 1) (
some (mup (mup (mup (mup (mup (mup (mup (mup (mup S0 1 i0 0 x1) 1 i0 1 x2) 1 i0 2 x3) 1 i0 3 0) 1 i0 4 (-1)) 1 i0 5 (-1)) 1 i0 6 (-1)) 1 i0 7 0) 1 i0 8 0))
set_option maxRecDepth 100000 in
set_option maxHeartbeats 4000000 in
theorem c_X1_become (l : Launch) (g : cx) (n : Nat) (S0 : mem) (sz : Nat) (i0 : Nat) (hi0 : i0 < 60) (x1 : Int32) (x2 : Int32) (x3 : Int32) (q : mem) (h : f_X1_become n S0 i0 x1 x2 x3 = some q) : Met l yX1_become (wsU yX1_become cX1_become 4 none) (rmD 0) (PcW ixC enC g S0 sz [.ref (g.2.2 1 i0), .int x1, .int x2, .int x3]) (QvW ixC enC g sz q) 0 0 (Aw ixC g sz) := by
  refine met_intro (Qc := fun z9 => QvW ixC enC g z9 q) (free := fun z9 => Aw ixC g z9) [.ref (g.2.2 1 i0), .int x1, .int x2, .int x3] RX1 rfl (by decide) (Nat.le_of_ble_eq_true rfl) (fun p e s m args below meth c H locs F hr hlocks B ls hl => ?_)
  have hl : lv_has ls 4 [(0, .ref (g.2.2 1 i0)), (1, .int x1), (2, .int x2), (3, .int x3)] := hl
  have hx := F.1
  have hb := F.2.1
  unfold f_X1_become at h
  refine lv_aload_n hx hb dX1_become_0 rfl (lv_at hl 0 rfl) ?_
  refine lv_iload_n hx hb dX1_become_1 rfl (lv_at hl 1 rfl) ?_
  refine pt_X1_0 F B hi0 mF_X1_9 dX1_become_2 (fun H locs B => ?_)
  refine lv_aload_n hx hb dX1_become_5 rfl (lv_at hl 0 rfl) ?_
  refine lv_iload_n hx hb dX1_become_6 rfl (lv_at hl 2 rfl) ?_
  refine pt_X1_1 F B hi0 mF_X1_15 dX1_become_7 (fun H locs B => ?_)
  refine lv_aload_n hx hb dX1_become_10 rfl (lv_at hl 0 rfl) ?_
  refine lv_iload_n hx hb dX1_become_11 rfl (lv_at hl 3 rfl) ?_
  obtain ⟨z1, h⟩ := grd_some h
  refine pt_X1_2 F B hi0 z1 mF_X1_18 dX1_become_12 (fun H locs B => ?_)
  refine lv_aload_n hx hb dX1_become_15 rfl (lv_at hl 0 rfl) ?_
  refine lv_iconst (v := 0) hx hb dX1_become_16 (by decide) ?_
  refine pt_X1_3 F B hi0 mF_X1_22 dX1_become_17 (fun H locs B => ?_)
  refine lv_aload_n hx hb dX1_become_20 rfl (lv_at hl 0 rfl) ?_
  refine lv_iconst (v := -1) hx hb dX1_become_21 (by decide) ?_
  refine pt_X1_4 F B hi0 mF_X1_25 dX1_become_22 (fun H locs B => ?_)
  refine lv_aload_n hx hb dX1_become_25 rfl (lv_at hl 0 rfl) ?_
  refine lv_iconst (v := -1) hx hb dX1_become_26 (by decide) ?_
  refine pt_X1_5 F B hi0 mF_X1_28 dX1_become_27 (fun H locs B => ?_)
  refine lv_aload_n hx hb dX1_become_30 rfl (lv_at hl 0 rfl) ?_
  refine lv_iconst (v := -1) hx hb dX1_become_31 (by decide) ?_
  refine pt_X1_6 F B hi0 mF_X1_31 dX1_become_32 (fun H locs B => ?_)
  refine lv_aload_n hx hb dX1_become_35 rfl (lv_at hl 0 rfl) ?_
  refine lv_iconst (v := 0) hx hb dX1_become_36 (by decide) ?_
  refine pt_X1_7 F B hi0 mF_X1_34 dX1_become_37 (fun H locs B => ?_)
  refine lv_aload_n hx hb dX1_become_40 rfl (lv_at hl 0 rfl) ?_
  refine lv_iconst (v := 0) hx hb dX1_become_41 (by decide) ?_
  refine pt_X1_8 F B hi0 mF_X1_37 dX1_become_42 (fun H locs B => ?_)
  obtain rfl := Option.some.inj h
  exact w_vret F hr hlocks B dX1_become_45
/-- public int note(int, int, boolean) -/
def f_X3_note (n : Nat) (S0 : mem) (x1 : Int32) (x2 : Int32) (x3 : Int32) : Option (Int32 × mem) :=
cal (f_X3_isOutside n S0 x1 10 200) fun q1 => (
if q1 = 0 then (
cal (f_X3_isOutside n S0 x2 1 64) fun q3 => (
if q3 = 0 then (
if (S0 3 0 4) < 60 then (
grd (¬ (S0 3 0 4 < 0 ∨ 60 ≤ Int32.toNatClampNeg (S0 3 0 4))) (
cal (f_X1_become n S0 (Int32.toNatClampNeg (S0 3 0 4)) x1 x2 x3) fun q7 => (
some ((((q7 3 0 4) + 1) - 1, mup (mup q7 3 0 4 ((q7 3 0 4) + 1)) 3 0 8 0))))) else (
some ((-1000004, S0)))) else (
some ((-1000002, S0))))) else (
some ((-1000002, S0))))
set_option maxRecDepth 100000 in
set_option maxHeartbeats 4000000 in
theorem c_X3_note (l : Launch) (g : cx) (n : Nat) (S0 : mem) (sz : Nat) (x1 : Int32) (x2 : Int32) (x3 : Int32) (q : Int32 × mem) (h : f_X3_note n S0 x1 x2 x3 = some q) : Met l yX3_note (wsU yX3_note cX3_note 4 (some .int)) (rmD 1) (PcW ixC enC g S0 sz [.ref (g.2.2 3 0), .int x1, .int x2, .int x3]) (QiW ixC enC g sz q.1 q.2) 0 0 (Aw ixC g sz) := by
  refine met_intro (Qc := fun z9 => QiW ixC enC g z9 q.1 q.2) (free := fun z9 => Aw ixC g z9) [.ref (g.2.2 3 0), .int x1, .int x2, .int x3] RX3 rfl (by decide) (Nat.le_of_ble_eq_true rfl) (fun p e s m args below meth c H locs F hr hlocks B ls hl => ?_)
  have hl : lv_has ls 4 [(0, .ref (g.2.2 3 0)), (1, .int x1), (2, .int x2), (3, .int x3)] := hl
  have hx := F.1
  have hb := F.2.1
  unfold f_X3_note at h
  refine lv_iload_n hx hb dX3_note_0 rfl (lv_at hl 1 rfl) ?_
  refine lv_bipush (v := 10) hx hb dX3_note_1 (by decide) ?_
  refine lv_sipush (v := 200) hx hb dX3_note_3 (by decide) ?_
  obtain ⟨q1, hq1, h⟩ := cal_some h
  refine w_callSi F B (c_X3_isOutside l g n S0 H.size x1 10 200 q1 hq1) mC_X3_isOutside mM_X3_38 mN_X3 mT_X3_isOutside ⟨ok_X3_isOutside, by decide⟩ rfl hl.1 rfl (Nat.le_of_ble_eq_true rfl) dX3_note_6 (fun H locs B => ?_)
  refine lv_if_ne (tgt := 22) hx hb dX3_note_9 (by decide) (fun c2 => ?_) (fun c2 => ?_)
  · rw [if_neg c2] at h
    refine lv_ldc (v := -1000002) hx hb F.2.2.2.1 (F.2.2.2.2 _ (wsU_in mK_X3_42)) dX3_note_22 ?_
    obtain rfl := Option.some.inj h
    exact w_iret F hr hlocks B dX3_note_24
  · rw [if_pos c2] at h
    refine lv_iload_n hx hb dX3_note_12 rfl (lv_at hl 2 rfl) ?_
    refine lv_iconst (v := 1) hx hb dX3_note_13 (by decide) ?_
    refine lv_bipush (v := 64) hx hb dX3_note_14 (by decide) ?_
    obtain ⟨q3, hq3, h⟩ := cal_some h
    refine w_callSi F B (c_X3_isOutside l g n S0 H.size x2 1 64 q3 hq3) mC_X3_isOutside mM_X3_38 mN_X3 mT_X3_isOutside ⟨ok_X3_isOutside, by decide⟩ rfl hl.1 rfl (Nat.le_of_ble_eq_true rfl) dX3_note_16 (fun H locs B => ?_)
    refine lv_if_eq (tgt := 25) hx hb dX3_note_19 (by decide) (fun c4 => ?_) (fun c4 => ?_)
    · rw [if_pos c4] at h
      refine lv_aload_n hx hb dX3_note_25 rfl (lv_at hl 0 rfl) ?_
      refine gt_X3_4 F B mF_X3_43 dX3_note_26 ?_
      refine lv_bipush (v := 60) hx hb dX3_note_29 (by decide) ?_
      refine lv_icmp_lt (tgt := 37) hx hb dX3_note_31 (by decide) (fun c5 => ?_) (fun c5 => ?_)
      · rw [if_pos c5] at h
        refine lv_aload_n hx hb dX3_note_37 rfl (lv_at hl 0 rfl) ?_
        refine gt_X3_0 F B mF_X3_11 dX3_note_38 ?_
        refine lv_aload_n hx hb dX3_note_41 rfl (lv_at hl 0 rfl) ?_
        refine gt_X3_4 F B mF_X3_43 dX3_note_42 ?_
        obtain ⟨z6, h⟩ := grd_some h
        refine al_C4 F B  z6 dX3_note_45 ?_
        refine lv_iload_n hx hb dX3_note_46 rfl (lv_at hl 1 rfl) ?_
        refine lv_iload_n hx hb dX3_note_47 rfl (lv_at hl 2 rfl) ?_
        refine lv_iload_n hx hb dX3_note_48 rfl (lv_at hl 3 rfl) ?_
        obtain ⟨q7, hq7, h⟩ := cal_some h
        refine w_callNv F B (c_X1_become l g n S0 H.size (Int32.toNatClampNeg (S0 3 0 4)) (ltI z6) x1 x2 x3 q7 hq7) mC_X1_become nM_X3_47 mN_X1 mI_X1_become mS_X1_become (ixC_1 (ltI z6)) rfl rfl ⟨ok_X1_become, by decide⟩ rfl hl.1 rfl (Nat.le_of_ble_eq_true rfl) dX3_note_49 (fun H locs B => ?_)
        refine lv_aload_n hx hb dX3_note_52 rfl (lv_at hl 0 rfl) ?_
        refine lv_dup hx hb dX3_note_53 rfl ?_
        refine gt_X3_4 F B mF_X3_43 dX3_note_54 ?_
        refine lv_iconst (v := 1) hx hb dX3_note_57 (by decide) ?_
        refine lv_iadd hx hb dX3_note_58 ?_
        refine pt_X3_4 F B mF_X3_43 dX3_note_59 (fun H locs B => ?_)
        refine lv_aload_n hx hb dX3_note_62 rfl (lv_at hl 0 rfl) ?_
        refine lv_iconst (v := 0) hx hb dX3_note_63 (by decide) ?_
        refine pt_X3_8 F B (Or.inl rfl) mF_X3_51 dX3_note_64 (fun H locs B => ?_)
        refine lv_aload_n hx hb dX3_note_67 rfl (lv_at hl 0 rfl) ?_
        refine gt_X3_4 F B mF_X3_43 dX3_note_68 ?_
        refine w_cv ((q7 3 0 4) + 1) ((mup_j (by decide)).trans (mup_s)) ?_
        refine lv_iconst (v := 1) hx hb dX3_note_71 (by decide) ?_
        refine lv_isub hx hb dX3_note_72 ?_
        obtain rfl := Option.some.inj h
        exact w_iret F hr hlocks B dX3_note_73
      · rw [if_neg c5] at h
        refine lv_ldc (v := -1000004) hx hb F.2.2.2.1 (F.2.2.2.2 _ (wsU_in mK_X3_46)) dX3_note_34 ?_
        obtain rfl := Option.some.inj h
        exact w_iret F hr hlocks B dX3_note_36
    · rw [if_neg c4] at h
      refine lv_ldc (v := -1000002) hx hb F.2.2.2.1 (F.2.2.2.2 _ (wsU_in mK_X3_42)) dX3_note_22 ?_
      obtain rfl := Option.some.inj h
      exact w_iret F hr hlocks B dX3_note_24
/-- private boolean isNote(int) -/
def f_X3_isNote (n : Nat) (S0 : mem) (x1 : Int32) : Option (Int32) :=
if x1 < 0 then (
some (0)) else (
if (S0 3 0 4) ≤ x1 then (
some (0)) else (
some (1)))
set_option maxRecDepth 100000 in
set_option maxHeartbeats 4000000 in
theorem c_X3_isNote (l : Launch) (g : cx) (n : Nat) (S0 : mem) (sz : Nat) (x1 : Int32) (q : Int32) (h : f_X3_isNote n S0 x1 = some q) : Met l yX3_isNote (wsU yX3_isNote cX3_isNote 2 (some .boolean)) (rmD 0) (PcW ixC enC g S0 sz [.ref (g.2.2 3 0), .int x1]) (QiW ixC enC g sz q S0) 0 0 (Aw ixC g sz) := by
  refine met_intro (Qc := fun z9 => QiW ixC enC g z9 q S0) (free := fun z9 => Aw ixC g z9) [.ref (g.2.2 3 0), .int x1] RX3 rfl (by decide) (Nat.le_of_ble_eq_true rfl) (fun p e s m args below meth c H locs F hr hlocks B ls hl => ?_)
  have hl : lv_has ls 2 [(0, .ref (g.2.2 3 0)), (1, .int x1)] := hl
  have hx := F.1
  have hb := F.2.1
  unfold f_X3_isNote at h
  refine lv_iload_n hx hb dX3_isNote_0 rfl (lv_at hl 1 rfl) ?_
  refine lv_if_lt (tgt := 16) hx hb dX3_isNote_1 (by decide) (fun c1 => ?_) (fun c1 => ?_)
  · rw [if_pos c1] at h
    refine lv_iconst (v := 0) hx hb dX3_isNote_16 (by decide) ?_
    obtain rfl := Option.some.inj h
    exact w_zret F hr hlocks (Or.inl rfl) B dX3_isNote_17
  · rw [if_neg c1] at h
    refine lv_iload_n hx hb dX3_isNote_4 rfl (lv_at hl 1 rfl) ?_
    refine lv_aload_n hx hb dX3_isNote_5 rfl (lv_at hl 0 rfl) ?_
    refine gt_X3_4 F B mF_X3_43 dX3_isNote_6 ?_
    refine lv_icmp_ge (tgt := 16) hx hb dX3_isNote_9 (by decide) (fun c2 => ?_) (fun c2 => ?_)
    · rw [if_pos c2] at h
      refine lv_iconst (v := 0) hx hb dX3_isNote_16 (by decide) ?_
      obtain rfl := Option.some.inj h
      exact w_zret F hr hlocks (Or.inl rfl) B dX3_isNote_17
    · rw [if_neg c2] at h
      refine lv_iconst (v := 1) hx hb dX3_isNote_12 (by decide) ?_
      refine lv_goto (tgt := 17) hx hb dX3_isNote_13 (by decide) ?_
      obtain rfl := Option.some.inj h
      exact w_zret F hr hlocks (Or.inr rfl) B dX3_isNote_17
/-- private static boolean isVerse(int) -/
def f_X3_isVerse (n : Nat) (S0 : mem) (x0 : Int32) : Option (Int32) :=
if x0 < 0 then (
some (0)) else (
if 4 ≤ x0 then (
some (0)) else (
some (1)))
set_option maxRecDepth 100000 in
set_option maxHeartbeats 4000000 in
theorem c_X3_isVerse (l : Launch) (g : cx) (n : Nat) (S0 : mem) (sz : Nat) (x0 : Int32) (q : Int32) (h : f_X3_isVerse n S0 x0 = some q) : Met l yX3_isVerse (wsU yX3_isVerse cX3_isVerse 1 (some .boolean)) (rmD 0) (PcW ixC enC g S0 sz [.int x0]) (QiW ixC enC g sz q S0) 0 0 (Aw ixC g sz) := by
  refine met_intro (Qc := fun z9 => QiW ixC enC g z9 q S0) (free := fun z9 => Aw ixC g z9) [.int x0] RX3 rfl (by decide) (Nat.le_of_ble_eq_true rfl) (fun p e s m args below meth c H locs F hr hlocks B ls hl => ?_)
  have hl : lv_has ls 1 [(0, .int x0)] := hl
  have hx := F.1
  have hb := F.2.1
  unfold f_X3_isVerse at h
  refine lv_iload_n hx hb dX3_isVerse_0 rfl (lv_at hl 0 rfl) ?_
  refine lv_if_lt (tgt := 13) hx hb dX3_isVerse_1 (by decide) (fun c1 => ?_) (fun c1 => ?_)
  · rw [if_pos c1] at h
    refine lv_iconst (v := 0) hx hb dX3_isVerse_13 (by decide) ?_
    obtain rfl := Option.some.inj h
    exact w_zret F hr hlocks (Or.inl rfl) B dX3_isVerse_14
  · rw [if_neg c1] at h
    refine lv_iload_n hx hb dX3_isVerse_4 rfl (lv_at hl 0 rfl) ?_
    refine lv_iconst (v := 4) hx hb dX3_isVerse_5 (by decide) ?_
    refine lv_icmp_ge (tgt := 13) hx hb dX3_isVerse_6 (by decide) (fun c2 => ?_) (fun c2 => ?_)
    · rw [if_pos c2] at h
      refine lv_iconst (v := 0) hx hb dX3_isVerse_13 (by decide) ?_
      obtain rfl := Option.some.inj h
      exact w_zret F hr hlocks (Or.inl rfl) B dX3_isVerse_14
    · rw [if_neg c2] at h
      refine lv_iconst (v := 1) hx hb dX3_isVerse_9 (by decide) ?_
      refine lv_goto (tgt := 14) hx hb dX3_isVerse_10 (by decide) ?_
      obtain rfl := Option.some.inj h
      exact w_zret F hr hlocks (Or.inr rfl) B dX3_isVerse_14
/-- private boolean isBehindMelismaFirst(int) -/
def f_X3_isBehindMelismaFirst (n : Nat) (S0 : mem) (x1 : Int32) : Option (Int32) :=
grd (¬ (x1 < 0 ∨ 60 ≤ Int32.toNatClampNeg x1)) (
if (S0 1 (Int32.toNatClampNeg x1) 4) = (-1) then (
some (0)) else (
if (S0 1 (Int32.toNatClampNeg x1) 4) = x1 then (
some (0)) else (
some (1))))
set_option maxRecDepth 100000 in
set_option maxHeartbeats 4000000 in
theorem c_X3_isBehindMelismaFirst (l : Launch) (g : cx) (n : Nat) (S0 : mem) (sz : Nat) (x1 : Int32) (q : Int32) (h : f_X3_isBehindMelismaFirst n S0 x1 = some q) : Met l yX3_isBehindMelismaFirst (wsU yX3_isBehindMelismaFirst cX3_isBehindMelismaFirst 2 (some .boolean)) (rmD 0) (PcW ixC enC g S0 sz [.ref (g.2.2 3 0), .int x1]) (QiW ixC enC g sz q S0) 0 0 (Aw ixC g sz) := by
  refine met_intro (Qc := fun z9 => QiW ixC enC g z9 q S0) (free := fun z9 => Aw ixC g z9) [.ref (g.2.2 3 0), .int x1] RX3 rfl (by decide) (Nat.le_of_ble_eq_true rfl) (fun p e s m args below meth c H locs F hr hlocks B ls hl => ?_)
  have hl : lv_has ls 2 [(0, .ref (g.2.2 3 0)), (1, .int x1)] := hl
  have hx := F.1
  have hb := F.2.1
  unfold f_X3_isBehindMelismaFirst at h
  refine lv_aload_n hx hb dX3_isBehindMelismaFirst_0 rfl (lv_at hl 0 rfl) ?_
  refine gt_X3_0 F B mF_X3_11 dX3_isBehindMelismaFirst_1 ?_
  refine lv_iload_n hx hb dX3_isBehindMelismaFirst_4 rfl (lv_at hl 1 rfl) ?_
  obtain ⟨z1, h⟩ := grd_some h
  refine al_C4 F B  z1 dX3_isBehindMelismaFirst_5 ?_
  refine gn_X1_4 F B (ltI z1) nF_X3_85 dX3_isBehindMelismaFirst_6 ?_
  refine lv_iconst (v := -1) hx hb dX3_isBehindMelismaFirst_9 (by decide) ?_
  refine lv_icmp_eq (tgt := 30) hx hb dX3_isBehindMelismaFirst_10 (by decide) (fun c2 => ?_) (fun c2 => ?_)
  · rw [if_pos c2] at h
    refine lv_iconst (v := 0) hx hb dX3_isBehindMelismaFirst_30 (by decide) ?_
    obtain rfl := Option.some.inj h
    exact w_zret F hr hlocks (Or.inl rfl) B dX3_isBehindMelismaFirst_31
  · rw [if_neg c2] at h
    refine lv_aload_n hx hb dX3_isBehindMelismaFirst_13 rfl (lv_at hl 0 rfl) ?_
    refine gt_X3_0 F B mF_X3_11 dX3_isBehindMelismaFirst_14 ?_
    refine lv_iload_n hx hb dX3_isBehindMelismaFirst_17 rfl (lv_at hl 1 rfl) ?_
    refine al_C4 F B  z1 dX3_isBehindMelismaFirst_18 ?_
    refine gn_X1_4 F B (ltI z1) nF_X3_85 dX3_isBehindMelismaFirst_19 ?_
    refine lv_iload_n hx hb dX3_isBehindMelismaFirst_22 rfl (lv_at hl 1 rfl) ?_
    refine lv_icmp_eq (tgt := 30) hx hb dX3_isBehindMelismaFirst_23 (by decide) (fun c3 => ?_) (fun c3 => ?_)
    · rw [if_pos c3] at h
      refine lv_iconst (v := 0) hx hb dX3_isBehindMelismaFirst_30 (by decide) ?_
      obtain rfl := Option.some.inj h
      exact w_zret F hr hlocks (Or.inl rfl) B dX3_isBehindMelismaFirst_31
    · rw [if_neg c3] at h
      refine lv_iconst (v := 1) hx hb dX3_isBehindMelismaFirst_26 (by decide) ?_
      refine lv_goto (tgt := 31) hx hb dX3_isBehindMelismaFirst_27 (by decide) ?_
      obtain rfl := Option.some.inj h
      exact w_zret F hr hlocks (Or.inr rfl) B dX3_isBehindMelismaFirst_31
/-- private boolean maySing(int, int) -/
def f_X3_maySing (n : Nat) (S0 : mem) (x1 : Int32) (x2 : Int32) : Option (Int32) :=
grd (¬ (x1 < 0 ∨ 60 ≤ Int32.toNatClampNeg x1)) (
if (S0 1 (Int32.toNatClampNeg x1) 2) = 0 then (
cal (f_X3_isBehindMelismaFirst n S0 x1) fun q3 => (
if q3 = 0 then (
if x2 = 0 then (
some (1)) else (
if (S0 1 (Int32.toNatClampNeg x1) 6) = (-1) then (
some (1)) else (
some (0)))) else (
some (0)))) else (
some (0)))
set_option maxRecDepth 100000 in
set_option maxHeartbeats 4000000 in
theorem c_X3_maySing (l : Launch) (g : cx) (n : Nat) (S0 : mem) (sz : Nat) (x1 : Int32) (x2 : Int32) (q : Int32) (h : f_X3_maySing n S0 x1 x2 = some q) : Met l yX3_maySing (wsU yX3_maySing cX3_maySing 4 (some .boolean)) (rmD 1) (PcW ixC enC g S0 sz [.ref (g.2.2 3 0), .int x1, .int x2]) (QiW ixC enC g sz q S0) 0 0 (Aw ixC g sz) := by
  refine met_intro (Qc := fun z9 => QiW ixC enC g z9 q S0) (free := fun z9 => Aw ixC g z9) [.ref (g.2.2 3 0), .int x1, .int x2] RX3 rfl (by decide) (Nat.le_of_ble_eq_true rfl) (fun p e s m args below meth c H locs F hr hlocks B ls hl => ?_)
  have hl : lv_has ls 4 [(0, .ref (g.2.2 3 0)), (1, .int x1), (2, .int x2)] := hl
  have hx := F.1
  have hb := F.2.1
  unfold f_X3_maySing at h
  refine lv_aload_n hx hb dX3_maySing_0 rfl (lv_at hl 0 rfl) ?_
  refine gt_X3_0 F B mF_X3_11 dX3_maySing_1 ?_
  refine lv_iload_n hx hb dX3_maySing_4 rfl (lv_at hl 1 rfl) ?_
  obtain ⟨z1, h⟩ := grd_some h
  refine al_C4 F B  z1 dX3_maySing_5 ?_
  refine lv_astore_n (lv' := [(3, .ref (g.2.2 1 (Int32.toNatClampNeg x1))), (0, .ref (g.2.2 3 0)), (1, .int x1), (2, .int x2)]) hx hb dX3_maySing_6 rfl hl (by decide) rfl (fun ls hl => ?_)
  refine lv_aload_n hx hb dX3_maySing_7 rfl (lv_at hl 0 rfl) ?_
  refine gn_X1_2 F B (ltI z1) nF_X3_230 dX3_maySing_8 ?_
  refine lv_if_ne (tgt := 38) hx hb dX3_maySing_11 (by decide) (fun c2 => ?_) (fun c2 => ?_)
  · rw [if_neg c2] at h
    refine lv_iconst (v := 0) hx hb dX3_maySing_38 (by decide) ?_
    obtain rfl := Option.some.inj h
    exact w_zret F hr hlocks (Or.inl rfl) B dX3_maySing_39
  · rw [if_pos c2] at h
    refine lv_aload_n hx hb dX3_maySing_14 rfl (lv_at hl 1 rfl) ?_
    refine lv_iload_n hx hb dX3_maySing_15 rfl (lv_at hl 2 rfl) ?_
    obtain ⟨q3, hq3, h⟩ := cal_some h
    refine w_callVi F B (c_X3_isBehindMelismaFirst l g n S0 H.size x1 q3 hq3) mC_X3_isBehindMelismaFirst mM_X3_233 mN_X3 mI_X3_isBehindMelismaFirst mS_X3_isBehindMelismaFirst ixC_3 rfl rfl ⟨ok_X3_isBehindMelismaFirst, by decide⟩ rfl hl.1 rfl (Nat.le_of_ble_eq_true rfl) dX3_maySing_16 (fun H locs B => ?_)
    refine lv_if_ne (tgt := 38) hx hb dX3_maySing_19 (by decide) (fun c4 => ?_) (fun c4 => ?_)
    · rw [if_neg c4] at h
      refine lv_iconst (v := 0) hx hb dX3_maySing_38 (by decide) ?_
      obtain rfl := Option.some.inj h
      exact w_zret F hr hlocks (Or.inl rfl) B dX3_maySing_39
    · rw [if_pos c4] at h
      refine lv_iload_n hx hb dX3_maySing_22 rfl (lv_at hl 3 rfl) ?_
      refine lv_if_eq (tgt := 34) hx hb dX3_maySing_23 (by decide) (fun c5 => ?_) (fun c5 => ?_)
      · rw [if_pos c5] at h
        refine lv_iconst (v := 1) hx hb dX3_maySing_34 (by decide) ?_
        refine lv_goto (tgt := 39) hx hb dX3_maySing_35 (by decide) ?_
        obtain rfl := Option.some.inj h
        exact w_zret F hr hlocks (Or.inr rfl) B dX3_maySing_39
      · rw [if_neg c5] at h
        refine lv_aload_n hx hb dX3_maySing_26 rfl (lv_at hl 0 rfl) ?_
        refine gn_X1_6 F B (ltI z1) nF_X3_100 dX3_maySing_27 ?_
        refine lv_iconst (v := -1) hx hb dX3_maySing_30 (by decide) ?_
        refine lv_icmp_ne (tgt := 38) hx hb dX3_maySing_31 (by decide) (fun c6 => ?_) (fun c6 => ?_)
        · rw [if_neg c6] at h
          refine lv_iconst (v := 0) hx hb dX3_maySing_38 (by decide) ?_
          obtain rfl := Option.some.inj h
          exact w_zret F hr hlocks (Or.inl rfl) B dX3_maySing_39
        · rw [if_pos c6] at h
          refine lv_iconst (v := 1) hx hb dX3_maySing_34 (by decide) ?_
          refine lv_goto (tgt := 39) hx hb dX3_maySing_35 (by decide) ?_
          obtain rfl := Option.some.inj h
          exact w_zret F hr hlocks (Or.inr rfl) B dX3_maySing_39
/-- private int addSyllable(int, int, int, boolean) -/
def f_X2_addSyllable (n : Nat) (S0 : mem) (i0 : Nat) (x1 : Int32) (x2 : Int32) (x3 : Int32) (x4 : Int32) : Option (Int32 × mem) :=
grd (¬ (x1 < 0 ∨ 60 ≤ Int32.toNatClampNeg x1)) (
grd (¬ ((2 * x1) + (S0 7 i0 (Int32.toNatClampNeg x1)) < 0 ∨ 120 ≤ Int32.toNatClampNeg ((2 * x1) + (S0 7 i0 (Int32.toNatClampNeg x1))))) (
some (((S0 7 i0 (Int32.toNatClampNeg x1)) + 1, mup (mup (mup (mup (mup S0 8 i0 (Int32.toNatClampNeg ((2 * x1) + (S0 7 i0 (Int32.toNatClampNeg x1)))) x2) 9 i0 (Int32.toNatClampNeg ((2 * x1) + (S0 7 i0 (Int32.toNatClampNeg x1)))) x3) 10 i0 (Int32.toNatClampNeg ((2 * x1) + (S0 7 i0 (Int32.toNatClampNeg x1)))) (vp_nar .boolean x4)) 7 i0 (Int32.toNatClampNeg x1) ((S0 7 i0 (Int32.toNatClampNeg x1)) + 1)) 2 i0 5 ((S0 2 i0 5) + 1)))))
set_option maxRecDepth 100000 in
set_option maxHeartbeats 4000000 in
theorem c_X2_addSyllable (l : Launch) (g : cx) (n : Nat) (S0 : mem) (sz : Nat) (i0 : Nat) (hi0 : i0 < 4) (x1 : Int32) (x2 : Int32) (x3 : Int32) (x4 : Int32) (q : Int32 × mem) (h : f_X2_addSyllable n S0 i0 x1 x2 x3 x4 = some q) : Met l yX2_addSyllable (wsU yX2_addSyllable cX2_addSyllable 6 (some .int)) (rmD 0) (PcW ixC enC g S0 sz [.ref (g.2.2 2 i0), .int x1, .int x2, .int x3, .int x4]) (QiW ixC enC g sz q.1 q.2) 0 0 (Aw ixC g sz) := by
  refine met_intro (Qc := fun z9 => QiW ixC enC g z9 q.1 q.2) (free := fun z9 => Aw ixC g z9) [.ref (g.2.2 2 i0), .int x1, .int x2, .int x3, .int x4] RX2 rfl (by decide) (Nat.le_of_ble_eq_true rfl) (fun p e s m args below meth c H locs F hr hlocks B ls hl => ?_)
  have hl : lv_has ls 6 [(0, .ref (g.2.2 2 i0)), (1, .int x1), (2, .int x2), (3, .int x3), (4, .int x4)] := hl
  have hx := F.1
  have hb := F.2.1
  unfold f_X2_addSyllable at h
  refine lv_iconst (v := 2) hx hb dX2_addSyllable_0 (by decide) ?_
  refine lv_iload_n hx hb dX2_addSyllable_1 rfl (lv_at hl 1 rfl) ?_
  refine lv_imul hx hb dX2_addSyllable_2 ?_
  refine lv_aload_n hx hb dX2_addSyllable_3 rfl (lv_at hl 0 rfl) ?_
  refine gt_X2_0 F B hi0 mF_X2_9 dX2_addSyllable_4 ?_
  refine lv_iload_n hx hb dX2_addSyllable_7 rfl (lv_at hl 1 rfl) ?_
  obtain ⟨z1, h⟩ := grd_some h
  refine al_C7 F B (ixC_7 hi0) z1 dX2_addSyllable_8 ?_
  refine lv_iadd hx hb dX2_addSyllable_9 ?_
  refine lv_istore (lv' := [(5, .int ((2 * x1) + (S0 7 i0 (Int32.toNatClampNeg x1)))), (0, .ref (g.2.2 2 i0)), (1, .int x1), (2, .int x2), (3, .int x3), (4, .int x4)]) hx hb dX2_addSyllable_10 hl (by decide) rfl (fun ls hl => ?_)
  refine lv_aload_n hx hb dX2_addSyllable_12 rfl (lv_at hl 1 rfl) ?_
  refine gt_X2_1 F B hi0 mF_X2_15 dX2_addSyllable_13 ?_
  refine lv_iload hx hb dX2_addSyllable_16 (lv_at hl 0 rfl) ?_
  refine lv_iload_n hx hb dX2_addSyllable_18 rfl (lv_at hl 3 rfl) ?_
  obtain ⟨z2, h⟩ := grd_some h
  refine as_C8 F B (ixC_8 hi0) z2 dX2_addSyllable_19 (fun H locs B => ?_)
  refine lv_aload_n hx hb dX2_addSyllable_20 rfl (lv_at hl 1 rfl) ?_
  refine gt_X2_2 F B hi0 mF_X2_18 dX2_addSyllable_21 ?_
  refine lv_iload hx hb dX2_addSyllable_24 (lv_at hl 0 rfl) ?_
  refine lv_iload_n hx hb dX2_addSyllable_26 rfl (lv_at hl 4 rfl) ?_
  refine as_C9 F B (ixC_9 hi0) z2 dX2_addSyllable_27 (fun H locs B => ?_)
  refine lv_aload_n hx hb dX2_addSyllable_28 rfl (lv_at hl 1 rfl) ?_
  refine gt_X2_3 F B hi0 mF_X2_21 dX2_addSyllable_29 ?_
  refine lv_iload hx hb dX2_addSyllable_32 (lv_at hl 0 rfl) ?_
  refine lv_iload hx hb dX2_addSyllable_34 (lv_at hl 5 rfl) ?_
  refine as_C10 F B (ixC_10 hi0) z2 dX2_addSyllable_36 (fun H locs B => ?_)
  refine lv_aload_n hx hb dX2_addSyllable_37 rfl (lv_at hl 1 rfl) ?_
  refine gt_X2_0 F B hi0 mF_X2_9 dX2_addSyllable_38 ?_
  refine lv_iload_n hx hb dX2_addSyllable_41 rfl (lv_at hl 2 rfl) ?_
  refine lv_dup2_11 hx hb dX2_addSyllable_42 rfl rfl ?_
  refine al_C7 F B (ixC_7 hi0) z1 dX2_addSyllable_43 ?_
  refine w_cv (S0 7 i0 (Int32.toNatClampNeg x1)) ((mup_k (by decide)).trans ((mup_k (by decide)).trans (mup_k (by decide)))) ?_
  refine lv_iconst (v := 1) hx hb dX2_addSyllable_44 (by decide) ?_
  refine lv_iadd hx hb dX2_addSyllable_45 ?_
  refine as_C7 F B (ixC_7 hi0) z1 dX2_addSyllable_46 (fun H locs B => ?_)
  refine lv_aload_n hx hb dX2_addSyllable_47 rfl (lv_at hl 1 rfl) ?_
  refine lv_dup hx hb dX2_addSyllable_48 rfl ?_
  refine gt_X2_5 F B hi0 mF_X2_32 dX2_addSyllable_49 ?_
  refine w_cv (S0 2 i0 5) ((mup_k (by decide)).trans ((mup_k (by decide)).trans ((mup_k (by decide)).trans (mup_k (by decide))))) ?_
  refine lv_iconst (v := 1) hx hb dX2_addSyllable_52 (by decide) ?_
  refine lv_iadd hx hb dX2_addSyllable_53 ?_
  refine pt_X2_5 F B hi0 mF_X2_32 dX2_addSyllable_54 (fun H locs B => ?_)
  refine lv_aload_n hx hb dX2_addSyllable_57 rfl (lv_at hl 1 rfl) ?_
  refine gt_X2_0 F B hi0 mF_X2_9 dX2_addSyllable_58 ?_
  refine lv_iload_n hx hb dX2_addSyllable_61 rfl (lv_at hl 2 rfl) ?_
  refine al_C7 F B (ixC_7 hi0) z1 dX2_addSyllable_62 ?_
  refine w_cv ((S0 7 i0 (Int32.toNatClampNeg x1)) + 1) ((mup_k (by decide)).trans (mup_s)) ?_
  obtain rfl := Option.some.inj h
  exact w_iret F hr hlocks B dX2_addSyllable_63
/-- public int syllable(int, int, int, int, boolean) -/
def f_X3_syllable (n : Nat) (S0 : mem) (x1 : Int32) (x2 : Int32) (x3 : Int32) (x4 : Int32) (x5 : Int32) : Option (Int32 × mem) :=
cal (f_X3_isNote n S0 x1) fun q1 => (
if q1 = 0 then (
some ((-1000001, S0))) else (
cal (f_X3_isVerse n S0 x2) fun q3 => (
if q3 = 0 then (
some ((-1000001, S0))) else (
cal (f_X3_isOutside n S0 x3 1 200) fun q5 => (
if q5 = 0 then (
cal (f_X3_isOutside n S0 x4 0 x3) fun q7 => (
if q7 = 0 then (
cal (f_X3_maySing n S0 x1 x2) fun q9 => (
if q9 = 0 then (
some ((-1000003, S0))) else (
grd (¬ (x2 < 0 ∨ 4 ≤ Int32.toNatClampNeg x2)) (
grd (¬ (x1 < 0 ∨ 60 ≤ Int32.toNatClampNeg x1)) (
if (S0 7 (Int32.toNatClampNeg x2) (Int32.toNatClampNeg x1)) < 2 then (
cal (f_X2_addSyllable n (mup S0 3 0 8 0) (Int32.toNatClampNeg x2) x1 x3 x4 x5) fun q14 => (
some ((q14.1, q14.2)))) else (
some ((-1000004, S0)))))))) else (
some ((-1000002, S0))))) else (
some ((-1000002, S0))))))))
set_option maxRecDepth 100000 in
set_option maxHeartbeats 4000000 in
theorem c_X3_syllable (l : Launch) (g : cx) (n : Nat) (S0 : mem) (sz : Nat) (x1 : Int32) (x2 : Int32) (x3 : Int32) (x4 : Int32) (x5 : Int32) (q : Int32 × mem) (h : f_X3_syllable n S0 x1 x2 x3 x4 x5 = some q) : Met l yX3_syllable (wsU yX3_syllable cX3_syllable 6 (some .int)) (rmD 2) (PcW ixC enC g S0 sz [.ref (g.2.2 3 0), .int x1, .int x2, .int x3, .int x4, .int x5]) (QiW ixC enC g sz q.1 q.2) 0 0 (Aw ixC g sz) := by
  refine met_intro (Qc := fun z9 => QiW ixC enC g z9 q.1 q.2) (free := fun z9 => Aw ixC g z9) [.ref (g.2.2 3 0), .int x1, .int x2, .int x3, .int x4, .int x5] RX3 rfl (by decide) (Nat.le_of_ble_eq_true rfl) (fun p e s m args below meth c H locs F hr hlocks B ls hl => ?_)
  have hl : lv_has ls 6 [(0, .ref (g.2.2 3 0)), (1, .int x1), (2, .int x2), (3, .int x3), (4, .int x4), (5, .int x5)] := hl
  have hx := F.1
  have hb := F.2.1
  unfold f_X3_syllable at h
  refine lv_aload_n hx hb dX3_syllable_0 rfl (lv_at hl 0 rfl) ?_
  refine lv_iload_n hx hb dX3_syllable_1 rfl (lv_at hl 1 rfl) ?_
  obtain ⟨q1, hq1, h⟩ := cal_some h
  refine w_callVi F B (c_X3_isNote l g n S0 H.size x1 q1 hq1) mC_X3_isNote mM_X3_55 mN_X3 mI_X3_isNote mS_X3_isNote ixC_3 rfl rfl ⟨ok_X3_isNote, by decide⟩ rfl hl.1 rfl (Nat.le_of_ble_eq_true rfl) dX3_syllable_2 (fun H locs B => ?_)
  refine lv_if_eq (tgt := 15) hx hb dX3_syllable_5 (by decide) (fun c2 => ?_) (fun c2 => ?_)
  · rw [if_pos c2] at h
    refine lv_ldc (v := -1000001) hx hb F.2.2.2.1 (F.2.2.2.2 _ (wsU_in mK_X3_62)) dX3_syllable_15 ?_
    obtain rfl := Option.some.inj h
    exact w_iret F hr hlocks B dX3_syllable_17
  · rw [if_neg c2] at h
    refine lv_iload_n hx hb dX3_syllable_8 rfl (lv_at hl 2 rfl) ?_
    obtain ⟨q3, hq3, h⟩ := cal_some h
    refine w_callSi F B (c_X3_isVerse l g n S0 H.size x2 q3 hq3) mC_X3_isVerse mM_X3_59 mN_X3 mT_X3_isVerse ⟨ok_X3_isVerse, by decide⟩ rfl hl.1 rfl (Nat.le_of_ble_eq_true rfl) dX3_syllable_9 (fun H locs B => ?_)
    refine lv_if_ne (tgt := 18) hx hb dX3_syllable_12 (by decide) (fun c4 => ?_) (fun c4 => ?_)
    · rw [if_neg c4] at h
      refine lv_iload_n hx hb dX3_syllable_18 rfl (lv_at hl 3 rfl) ?_
      refine lv_iconst (v := 1) hx hb dX3_syllable_19 (by decide) ?_
      refine lv_sipush (v := 200) hx hb dX3_syllable_20 (by decide) ?_
      obtain ⟨q5, hq5, h⟩ := cal_some h
      refine w_callSi F B (c_X3_isOutside l g n S0 H.size x3 1 200 q5 hq5) mC_X3_isOutside mM_X3_38 mN_X3 mT_X3_isOutside ⟨ok_X3_isOutside, by decide⟩ rfl hl.1 rfl (Nat.le_of_ble_eq_true rfl) dX3_syllable_23 (fun H locs B => ?_)
      refine lv_if_ne (tgt := 39) hx hb dX3_syllable_26 (by decide) (fun c6 => ?_) (fun c6 => ?_)
      · rw [if_neg c6] at h
        refine lv_ldc (v := -1000002) hx hb F.2.2.2.1 (F.2.2.2.2 _ (wsU_in mK_X3_42)) dX3_syllable_39 ?_
        obtain rfl := Option.some.inj h
        exact w_iret F hr hlocks B dX3_syllable_41
      · rw [if_pos c6] at h
        refine lv_iload hx hb dX3_syllable_29 (lv_at hl 4 rfl) ?_
        refine lv_iconst (v := 0) hx hb dX3_syllable_31 (by decide) ?_
        refine lv_iload_n hx hb dX3_syllable_32 rfl (lv_at hl 3 rfl) ?_
        obtain ⟨q7, hq7, h⟩ := cal_some h
        refine w_callSi F B (c_X3_isOutside l g n S0 H.size x4 0 x3 q7 hq7) mC_X3_isOutside mM_X3_38 mN_X3 mT_X3_isOutside ⟨ok_X3_isOutside, by decide⟩ rfl hl.1 rfl (Nat.le_of_ble_eq_true rfl) dX3_syllable_33 (fun H locs B => ?_)
        refine lv_if_eq (tgt := 42) hx hb dX3_syllable_36 (by decide) (fun c8 => ?_) (fun c8 => ?_)
        · rw [if_pos c8] at h
          refine lv_aload_n hx hb dX3_syllable_42 rfl (lv_at hl 0 rfl) ?_
          refine lv_iload_n hx hb dX3_syllable_43 rfl (lv_at hl 1 rfl) ?_
          refine lv_iload_n hx hb dX3_syllable_44 rfl (lv_at hl 2 rfl) ?_
          obtain ⟨q9, hq9, h⟩ := cal_some h
          refine w_callVi F B (c_X3_maySing l g n S0 H.size x1 x2 q9 hq9) mC_X3_maySing mM_X3_63 mN_X3 mI_X3_maySing mS_X3_maySing ixC_3 rfl rfl ⟨ok_X3_maySing, by decide⟩ rfl hl.1 rfl (Nat.le_of_ble_eq_true rfl) dX3_syllable_45 (fun H locs B => ?_)
          refine lv_if_ne (tgt := 54) hx hb dX3_syllable_48 (by decide) (fun c10 => ?_) (fun c10 => ?_)
          · rw [if_neg c10] at h
            refine lv_aload_n hx hb dX3_syllable_54 rfl (lv_at hl 0 rfl) ?_
            refine gt_X3_1 F B mF_X3_17 dX3_syllable_55 ?_
            refine lv_iload_n hx hb dX3_syllable_58 rfl (lv_at hl 2 rfl) ?_
            obtain ⟨z11, h⟩ := grd_some h
            refine al_C5 F B  z11 dX3_syllable_59 ?_
            refine gn_X2_0 F B (ltI z11) nF_X3_68 dX3_syllable_60 ?_
            refine lv_iload_n hx hb dX3_syllable_63 rfl (lv_at hl 1 rfl) ?_
            obtain ⟨z12, h⟩ := grd_some h
            refine al_C7 F B (ixC_7 (ltI z11)) z12 dX3_syllable_64 ?_
            refine lv_iconst (v := 2) hx hb dX3_syllable_65 (by decide) ?_
            refine lv_icmp_lt (tgt := 72) hx hb dX3_syllable_66 (by decide) (fun c13 => ?_) (fun c13 => ?_)
            · rw [if_pos c13] at h
              refine lv_aload_n hx hb dX3_syllable_72 rfl (lv_at hl 0 rfl) ?_
              refine lv_iconst (v := 0) hx hb dX3_syllable_73 (by decide) ?_
              refine pt_X3_8 F B (Or.inl rfl) mF_X3_51 dX3_syllable_74 (fun H locs B => ?_)
              refine lv_aload_n hx hb dX3_syllable_77 rfl (lv_at hl 0 rfl) ?_
              refine gt_X3_1 F B mF_X3_17 dX3_syllable_78 ?_
              refine lv_iload_n hx hb dX3_syllable_81 rfl (lv_at hl 2 rfl) ?_
              refine al_C5 F B  z11 dX3_syllable_82 ?_
              refine lv_iload_n hx hb dX3_syllable_83 rfl (lv_at hl 1 rfl) ?_
              refine lv_iload_n hx hb dX3_syllable_84 rfl (lv_at hl 3 rfl) ?_
              refine lv_iload hx hb dX3_syllable_85 (lv_at hl 4 rfl) ?_
              refine lv_iload hx hb dX3_syllable_87 (lv_at hl 5 rfl) ?_
              obtain ⟨q14, hq14, h⟩ := cal_some h
              refine w_callNi F B (c_X2_addSyllable l g n (mup S0 3 0 8 0) H.size (Int32.toNatClampNeg x2) (ltI z11) x1 x3 x4 x5 q14 hq14) mC_X2_addSyllable nM_X3_71 mN_X2 mI_X2_addSyllable mS_X2_addSyllable (ixC_2 (ltI z11)) rfl rfl ⟨ok_X2_addSyllable, by decide⟩ rfl hl.1 rfl (Nat.le_of_ble_eq_true rfl) dX3_syllable_89 (fun H locs B => ?_)
              obtain rfl := Option.some.inj h
              exact w_iret F hr hlocks B dX3_syllable_92
            · rw [if_neg c13] at h
              refine lv_ldc (v := -1000004) hx hb F.2.2.2.1 (F.2.2.2.2 _ (wsU_in mK_X3_46)) dX3_syllable_69 ?_
              obtain rfl := Option.some.inj h
              exact w_iret F hr hlocks B dX3_syllable_71
          · rw [if_pos c10] at h
            refine lv_ldc (v := -1000003) hx hb F.2.2.2.1 (F.2.2.2.2 _ (wsU_in mK_X3_67)) dX3_syllable_51 ?_
            obtain rfl := Option.some.inj h
            exact w_iret F hr hlocks B dX3_syllable_53
        · rw [if_neg c8] at h
          refine lv_ldc (v := -1000002) hx hb F.2.2.2.1 (F.2.2.2.2 _ (wsU_in mK_X3_42)) dX3_syllable_39 ?_
          obtain rfl := Option.some.inj h
          exact w_iret F hr hlocks B dX3_syllable_41
    · rw [if_pos c4] at h
      refine lv_ldc (v := -1000001) hx hb F.2.2.2.1 (F.2.2.2.2 _ (wsU_in mK_X3_62)) dX3_syllable_15 ?_
      obtain rfl := Option.some.inj h
      exact w_iret F hr hlocks B dX3_syllable_17
/-- private int removeSyllables(int) -/
def f_X2_removeSyllables (n : Nat) (S0 : mem) (i0 : Nat) (x1 : Int32) : Option (Int32 × mem) :=
grd (¬ (x1 < 0 ∨ 60 ≤ Int32.toNatClampNeg x1)) (
some ((S0 7 i0 (Int32.toNatClampNeg x1), mup (mup S0 7 i0 (Int32.toNatClampNeg x1) 0) 2 i0 5 ((S0 2 i0 5) - (S0 7 i0 (Int32.toNatClampNeg x1))))))
set_option maxRecDepth 100000 in
set_option maxHeartbeats 4000000 in
theorem c_X2_removeSyllables (l : Launch) (g : cx) (n : Nat) (S0 : mem) (sz : Nat) (i0 : Nat) (hi0 : i0 < 4) (x1 : Int32) (q : Int32 × mem) (h : f_X2_removeSyllables n S0 i0 x1 = some q) : Met l yX2_removeSyllables (wsU yX2_removeSyllables cX2_removeSyllables 3 (some .int)) (rmD 0) (PcW ixC enC g S0 sz [.ref (g.2.2 2 i0), .int x1]) (QiW ixC enC g sz q.1 q.2) 0 0 (Aw ixC g sz) := by
  refine met_intro (Qc := fun z9 => QiW ixC enC g z9 q.1 q.2) (free := fun z9 => Aw ixC g z9) [.ref (g.2.2 2 i0), .int x1] RX2 rfl (by decide) (Nat.le_of_ble_eq_true rfl) (fun p e s m args below meth c H locs F hr hlocks B ls hl => ?_)
  have hl : lv_has ls 3 [(0, .ref (g.2.2 2 i0)), (1, .int x1)] := hl
  have hx := F.1
  have hb := F.2.1
  unfold f_X2_removeSyllables at h
  refine lv_aload_n hx hb dX2_removeSyllables_0 rfl (lv_at hl 0 rfl) ?_
  refine gt_X2_0 F B hi0 mF_X2_9 dX2_removeSyllables_1 ?_
  refine lv_iload_n hx hb dX2_removeSyllables_4 rfl (lv_at hl 1 rfl) ?_
  obtain ⟨z1, h⟩ := grd_some h
  refine al_C7 F B (ixC_7 hi0) z1 dX2_removeSyllables_5 ?_
  refine lv_istore_n (lv' := [(2, .int (S0 7 i0 (Int32.toNatClampNeg x1))), (0, .ref (g.2.2 2 i0)), (1, .int x1)]) hx hb dX2_removeSyllables_6 rfl hl (by decide) rfl (fun ls hl => ?_)
  refine lv_aload_n hx hb dX2_removeSyllables_7 rfl (lv_at hl 1 rfl) ?_
  refine gt_X2_0 F B hi0 mF_X2_9 dX2_removeSyllables_8 ?_
  refine lv_iload_n hx hb dX2_removeSyllables_11 rfl (lv_at hl 2 rfl) ?_
  refine lv_iconst (v := 0) hx hb dX2_removeSyllables_12 (by decide) ?_
  refine as_C7 F B (ixC_7 hi0) z1 dX2_removeSyllables_13 (fun H locs B => ?_)
  refine lv_aload_n hx hb dX2_removeSyllables_14 rfl (lv_at hl 1 rfl) ?_
  refine lv_dup hx hb dX2_removeSyllables_15 rfl ?_
  refine gt_X2_5 F B hi0 mF_X2_32 dX2_removeSyllables_16 ?_
  refine w_cv (S0 2 i0 5) (mup_k (by decide)) ?_
  refine lv_iload_n hx hb dX2_removeSyllables_19 rfl (lv_at hl 0 rfl) ?_
  refine lv_isub hx hb dX2_removeSyllables_20 ?_
  refine pt_X2_5 F B hi0 mF_X2_32 dX2_removeSyllables_21 (fun H locs B => ?_)
  refine lv_iload_n hx hb dX2_removeSyllables_24 rfl (lv_at hl 0 rfl) ?_
  obtain rfl := Option.some.inj h
  exact w_iret F hr hlocks B dX2_removeSyllables_25
/-- public int wipe(int, int) -/
def f_X3_wipe (n : Nat) (S0 : mem) (x1 : Int32) (x2 : Int32) : Option (Int32 × mem) :=
cal (f_X3_isNote n S0 x1) fun q1 => (
if q1 = 0 then (
some ((-1000001, S0))) else (
cal (f_X3_isVerse n S0 x2) fun q3 => (
if q3 = 0 then (
some ((-1000001, S0))) else (
grd (¬ (x2 < 0 ∨ 4 ≤ Int32.toNatClampNeg x2)) (
cal (f_X2_removeSyllables n (mup S0 3 0 8 0) (Int32.toNatClampNeg x2) x1) fun q6 => (
some ((q6.1, q6.2))))))))
set_option maxRecDepth 100000 in
set_option maxHeartbeats 4000000 in
theorem c_X3_wipe (l : Launch) (g : cx) (n : Nat) (S0 : mem) (sz : Nat) (x1 : Int32) (x2 : Int32) (q : Int32 × mem) (h : f_X3_wipe n S0 x1 x2 = some q) : Met l yX3_wipe (wsU yX3_wipe cX3_wipe 3 (some .int)) (rmD 1) (PcW ixC enC g S0 sz [.ref (g.2.2 3 0), .int x1, .int x2]) (QiW ixC enC g sz q.1 q.2) 0 0 (Aw ixC g sz) := by
  refine met_intro (Qc := fun z9 => QiW ixC enC g z9 q.1 q.2) (free := fun z9 => Aw ixC g z9) [.ref (g.2.2 3 0), .int x1, .int x2] RX3 rfl (by decide) (Nat.le_of_ble_eq_true rfl) (fun p e s m args below meth c H locs F hr hlocks B ls hl => ?_)
  have hl : lv_has ls 3 [(0, .ref (g.2.2 3 0)), (1, .int x1), (2, .int x2)] := hl
  have hx := F.1
  have hb := F.2.1
  unfold f_X3_wipe at h
  refine lv_aload_n hx hb dX3_wipe_0 rfl (lv_at hl 0 rfl) ?_
  refine lv_iload_n hx hb dX3_wipe_1 rfl (lv_at hl 1 rfl) ?_
  obtain ⟨q1, hq1, h⟩ := cal_some h
  refine w_callVi F B (c_X3_isNote l g n S0 H.size x1 q1 hq1) mC_X3_isNote mM_X3_55 mN_X3 mI_X3_isNote mS_X3_isNote ixC_3 rfl rfl ⟨ok_X3_isNote, by decide⟩ rfl hl.1 rfl (Nat.le_of_ble_eq_true rfl) dX3_wipe_2 (fun H locs B => ?_)
  refine lv_if_eq (tgt := 15) hx hb dX3_wipe_5 (by decide) (fun c2 => ?_) (fun c2 => ?_)
  · rw [if_pos c2] at h
    refine lv_ldc (v := -1000001) hx hb F.2.2.2.1 (F.2.2.2.2 _ (wsU_in mK_X3_62)) dX3_wipe_15 ?_
    obtain rfl := Option.some.inj h
    exact w_iret F hr hlocks B dX3_wipe_17
  · rw [if_neg c2] at h
    refine lv_iload_n hx hb dX3_wipe_8 rfl (lv_at hl 2 rfl) ?_
    obtain ⟨q3, hq3, h⟩ := cal_some h
    refine w_callSi F B (c_X3_isVerse l g n S0 H.size x2 q3 hq3) mC_X3_isVerse mM_X3_59 mN_X3 mT_X3_isVerse ⟨ok_X3_isVerse, by decide⟩ rfl hl.1 rfl (Nat.le_of_ble_eq_true rfl) dX3_wipe_9 (fun H locs B => ?_)
    refine lv_if_ne (tgt := 18) hx hb dX3_wipe_12 (by decide) (fun c4 => ?_) (fun c4 => ?_)
    · rw [if_neg c4] at h
      refine lv_aload_n hx hb dX3_wipe_18 rfl (lv_at hl 0 rfl) ?_
      refine lv_iconst (v := 0) hx hb dX3_wipe_19 (by decide) ?_
      refine pt_X3_8 F B (Or.inl rfl) mF_X3_51 dX3_wipe_20 (fun H locs B => ?_)
      refine lv_aload_n hx hb dX3_wipe_23 rfl (lv_at hl 0 rfl) ?_
      refine gt_X3_1 F B mF_X3_17 dX3_wipe_24 ?_
      refine lv_iload_n hx hb dX3_wipe_27 rfl (lv_at hl 2 rfl) ?_
      obtain ⟨z5, h⟩ := grd_some h
      refine al_C5 F B  z5 dX3_wipe_28 ?_
      refine lv_iload_n hx hb dX3_wipe_29 rfl (lv_at hl 1 rfl) ?_
      obtain ⟨q6, hq6, h⟩ := cal_some h
      refine w_callNi F B (c_X2_removeSyllables l g n (mup S0 3 0 8 0) H.size (Int32.toNatClampNeg x2) (ltI z5) x1 q6 hq6) mC_X2_removeSyllables nM_X3_75 mN_X2 mI_X2_removeSyllables mS_X2_removeSyllables (ixC_2 (ltI z5)) rfl rfl ⟨ok_X2_removeSyllables, by decide⟩ rfl hl.1 rfl (Nat.le_of_ble_eq_true rfl) dX3_wipe_30 (fun H locs B => ?_)
      obtain rfl := Option.some.inj h
      exact w_iret F hr hlocks B dX3_wipe_33
    · rw [if_pos c4] at h
      refine lv_ldc (v := -1000001) hx hb F.2.2.2.1 (F.2.2.2.2 _ (wsU_in mK_X3_62)) dX3_wipe_15 ?_
      obtain rfl := Option.some.inj h
      exact w_iret F hr hlocks B dX3_wipe_17
/-- public int chord(int, int) -/
def f_X3_chord (n : Nat) (S0 : mem) (x1 : Int32) (x2 : Int32) : Option (Int32 × mem) :=
cal (f_X3_isNote n S0 x1) fun q1 => (
if q1 = 0 then (
some ((-1000001, S0))) else (
cal (f_X3_isOutside n S0 x2 0 200) fun q3 => (
if q3 = 0 then (
grd (¬ (x1 < 0 ∨ 60 ≤ Int32.toNatClampNeg x1)) (
some ((S0 1 (Int32.toNatClampNeg x1) 3, mup (mup S0 1 (Int32.toNatClampNeg x1) 3 x2) 3 0 8 0)))) else (
some ((-1000002, S0))))))
set_option maxRecDepth 100000 in
set_option maxHeartbeats 4000000 in
theorem c_X3_chord (l : Launch) (g : cx) (n : Nat) (S0 : mem) (sz : Nat) (x1 : Int32) (x2 : Int32) (q : Int32 × mem) (h : f_X3_chord n S0 x1 x2 = some q) : Met l yX3_chord (wsU yX3_chord cX3_chord 4 (some .int)) (rmD 1) (PcW ixC enC g S0 sz [.ref (g.2.2 3 0), .int x1, .int x2]) (QiW ixC enC g sz q.1 q.2) 0 0 (Aw ixC g sz) := by
  refine met_intro (Qc := fun z9 => QiW ixC enC g z9 q.1 q.2) (free := fun z9 => Aw ixC g z9) [.ref (g.2.2 3 0), .int x1, .int x2] RX3 rfl (by decide) (Nat.le_of_ble_eq_true rfl) (fun p e s m args below meth c H locs F hr hlocks B ls hl => ?_)
  have hl : lv_has ls 4 [(0, .ref (g.2.2 3 0)), (1, .int x1), (2, .int x2)] := hl
  have hx := F.1
  have hb := F.2.1
  unfold f_X3_chord at h
  refine lv_aload_n hx hb dX3_chord_0 rfl (lv_at hl 0 rfl) ?_
  refine lv_iload_n hx hb dX3_chord_1 rfl (lv_at hl 1 rfl) ?_
  obtain ⟨q1, hq1, h⟩ := cal_some h
  refine w_callVi F B (c_X3_isNote l g n S0 H.size x1 q1 hq1) mC_X3_isNote mM_X3_55 mN_X3 mI_X3_isNote mS_X3_isNote ixC_3 rfl rfl ⟨ok_X3_isNote, by decide⟩ rfl hl.1 rfl (Nat.le_of_ble_eq_true rfl) dX3_chord_2 (fun H locs B => ?_)
  refine lv_if_ne (tgt := 11) hx hb dX3_chord_5 (by decide) (fun c2 => ?_) (fun c2 => ?_)
  · rw [if_neg c2] at h
    refine lv_iload_n hx hb dX3_chord_11 rfl (lv_at hl 2 rfl) ?_
    refine lv_iconst (v := 0) hx hb dX3_chord_12 (by decide) ?_
    refine lv_sipush (v := 200) hx hb dX3_chord_13 (by decide) ?_
    obtain ⟨q3, hq3, h⟩ := cal_some h
    refine w_callSi F B (c_X3_isOutside l g n S0 H.size x2 0 200 q3 hq3) mC_X3_isOutside mM_X3_38 mN_X3 mT_X3_isOutside ⟨ok_X3_isOutside, by decide⟩ rfl hl.1 rfl (Nat.le_of_ble_eq_true rfl) dX3_chord_16 (fun H locs B => ?_)
    refine lv_if_eq (tgt := 25) hx hb dX3_chord_19 (by decide) (fun c4 => ?_) (fun c4 => ?_)
    · rw [if_pos c4] at h
      refine lv_aload_n hx hb dX3_chord_25 rfl (lv_at hl 0 rfl) ?_
      refine gt_X3_0 F B mF_X3_11 dX3_chord_26 ?_
      refine lv_iload_n hx hb dX3_chord_29 rfl (lv_at hl 1 rfl) ?_
      obtain ⟨z5, h⟩ := grd_some h
      refine al_C4 F B  z5 dX3_chord_30 ?_
      refine gn_X1_3 F B (ltI z5) nF_X3_79 dX3_chord_31 ?_
      refine lv_istore_n (lv' := [(3, .int (S0 1 (Int32.toNatClampNeg x1) 3)), (0, .ref (g.2.2 3 0)), (1, .int x1), (2, .int x2)]) hx hb dX3_chord_34 rfl hl (by decide) rfl (fun ls hl => ?_)
      refine lv_aload_n hx hb dX3_chord_35 rfl (lv_at hl 1 rfl) ?_
      refine gt_X3_0 F B mF_X3_11 dX3_chord_36 ?_
      refine lv_iload_n hx hb dX3_chord_39 rfl (lv_at hl 2 rfl) ?_
      refine al_C4 F B  z5 dX3_chord_40 ?_
      refine lv_iload_n hx hb dX3_chord_41 rfl (lv_at hl 3 rfl) ?_
      refine pn_X1_3 F B (ltI z5) nF_X3_79 dX3_chord_42 (fun H locs B => ?_)
      refine lv_aload_n hx hb dX3_chord_45 rfl (lv_at hl 1 rfl) ?_
      refine lv_iconst (v := 0) hx hb dX3_chord_46 (by decide) ?_
      refine pt_X3_8 F B (Or.inl rfl) mF_X3_51 dX3_chord_47 (fun H locs B => ?_)
      refine lv_iload_n hx hb dX3_chord_50 rfl (lv_at hl 0 rfl) ?_
      obtain rfl := Option.some.inj h
      exact w_iret F hr hlocks B dX3_chord_51
    · rw [if_neg c4] at h
      refine lv_ldc (v := -1000002) hx hb F.2.2.2.1 (F.2.2.2.2 _ (wsU_in mK_X3_42)) dX3_chord_22 ?_
      obtain rfl := Option.some.inj h
      exact w_iret F hr hlocks B dX3_chord_24
  · rw [if_pos c2] at h
    refine lv_ldc (v := -1000001) hx hb F.2.2.2.1 (F.2.2.2.2 _ (wsU_in mK_X3_62)) dX3_chord_8 ?_
    obtain rfl := Option.some.inj h
    exact w_iret F hr hlocks B dX3_chord_10
/-- private boolean hasBox(int) -/
def f_X2_hasBox (n : Nat) (S0 : mem) (i0 : Nat) (x1 : Int32) : Option (Int32) :=
grd (¬ (x1 < 0 ∨ 60 ≤ Int32.toNatClampNeg x1)) (
if (S0 7 i0 (Int32.toNatClampNeg x1)) ≤ 0 then (
some (0)) else (
some (1)))
set_option maxRecDepth 100000 in
set_option maxHeartbeats 4000000 in
theorem c_X2_hasBox (l : Launch) (g : cx) (n : Nat) (S0 : mem) (sz : Nat) (i0 : Nat) (hi0 : i0 < 4) (x1 : Int32) (q : Int32) (h : f_X2_hasBox n S0 i0 x1 = some q) : Met l yX2_hasBox (wsU yX2_hasBox cX2_hasBox 2 (some .boolean)) (rmD 0) (PcW ixC enC g S0 sz [.ref (g.2.2 2 i0), .int x1]) (QiW ixC enC g sz q S0) 0 0 (Aw ixC g sz) := by
  refine met_intro (Qc := fun z9 => QiW ixC enC g z9 q S0) (free := fun z9 => Aw ixC g z9) [.ref (g.2.2 2 i0), .int x1] RX2 rfl (by decide) (Nat.le_of_ble_eq_true rfl) (fun p e s m args below meth c H locs F hr hlocks B ls hl => ?_)
  have hl : lv_has ls 2 [(0, .ref (g.2.2 2 i0)), (1, .int x1)] := hl
  have hx := F.1
  have hb := F.2.1
  unfold f_X2_hasBox at h
  refine lv_aload_n hx hb dX2_hasBox_0 rfl (lv_at hl 0 rfl) ?_
  refine gt_X2_0 F B hi0 mF_X2_9 dX2_hasBox_1 ?_
  refine lv_iload_n hx hb dX2_hasBox_4 rfl (lv_at hl 1 rfl) ?_
  obtain ⟨z1, h⟩ := grd_some h
  refine al_C7 F B (ixC_7 hi0) z1 dX2_hasBox_5 ?_
  refine lv_if_le (tgt := 13) hx hb dX2_hasBox_6 (by decide) (fun c2 => ?_) (fun c2 => ?_)
  · rw [if_pos c2] at h
    refine lv_iconst (v := 0) hx hb dX2_hasBox_13 (by decide) ?_
    obtain rfl := Option.some.inj h
    exact w_zret F hr hlocks (Or.inl rfl) B dX2_hasBox_14
  · rw [if_neg c2] at h
    refine lv_iconst (v := 1) hx hb dX2_hasBox_9 (by decide) ?_
    refine lv_goto (tgt := 14) hx hb dX2_hasBox_10 (by decide) ?_
    obtain rfl := Option.some.inj h
    exact w_zret F hr hlocks (Or.inr rfl) B dX2_hasBox_14
def b_X3_hasBoxFrom_2 (n : Nat) (S0 : mem) (x2 : Int32) : (Int32) → Option ((Int32) ⊕ (Int32)) := fun w =>
if 4 ≤ w then (
some (.inr (0))) else (
grd (¬ (w < 0 ∨ 4 ≤ Int32.toNatClampNeg w)) (
cal (f_X2_hasBox n S0 (Int32.toNatClampNeg w) x2) fun q3 => (
if q3 = 0 then (
some (.inl ((w + 1)))) else (
some (.inr (1))))))
/-- private boolean hasBoxFrom(int, int) -/
def f_X3_hasBoxFrom (n : Nat) (S0 : mem) (x1 : Int32) (x2 : Int32) : Option (Int32) :=
lp (b_X3_hasBoxFrom_2 n S0 x2) n (x1)
set_option maxRecDepth 100000 in
set_option maxHeartbeats 4000000 in
theorem c_X3_hasBoxFrom (l : Launch) (g : cx) (n : Nat) (S0 : mem) (sz : Nat) (x1 : Int32) (x2 : Int32) (q : Int32) (h : f_X3_hasBoxFrom n S0 x1 x2 = some q) : Met l yX3_hasBoxFrom (wsU yX3_hasBoxFrom cX3_hasBoxFrom 4 (some .boolean)) (rmD 1) (PcW ixC enC g S0 sz [.ref (g.2.2 3 0), .int x1, .int x2]) (QiW ixC enC g sz q S0) 0 0 (Aw ixC g sz) := by
  refine met_intro (Qc := fun z9 => QiW ixC enC g z9 q S0) (free := fun z9 => Aw ixC g z9) [.ref (g.2.2 3 0), .int x1, .int x2] RX3 rfl (by decide) (Nat.le_of_ble_eq_true rfl) (fun p e s m args below meth c H locs F hr hlocks B ls hl => ?_)
  have hl : lv_has ls 4 [(0, .ref (g.2.2 3 0)), (1, .int x1), (2, .int x2)] := hl
  have hx := F.1
  have hb := F.2.1
  unfold f_X3_hasBoxFrom at h
  refine lv_iload_n hx hb dX3_hasBoxFrom_0 rfl (lv_at hl 1 rfl) ?_
  refine lv_istore_n (lv' := [(3, .int x1), (0, .ref (g.2.2 3 0)), (1, .int x1), (2, .int x2)]) hx hb dX3_hasBoxFrom_1 rfl hl (by decide) rfl (fun ls hl => ?_)
  have L2 : ∀ (k2 : Nat) (x2 : Int32) (x3 : Int32), lp (b_X3_hasBoxFrom_2 n S0 x2) k2 (x3) = some q → ∀ (H : Heap) (locs : List Loc) (ls : Array Slot), Wd ixC enC g S0 (Aw ixC g s.heap.size) s H locs → lv_has ls 4 [(0, .ref (g.2.2 3 0)), (2, .int x2), (3, .int x3)] → W p l e (rmD 1) s m args below meth c H locs 0 0 (MQ below (QiW ixC enC g s.heap.size q S0) args s 0 0 (Aw ixC g s.heap.size)) (F0 m 2 ls []) := by
    intro k2
    induction k2 with
    | zero => intro x2 x3 h; exact (lp_zero h).elim
    | succ k2 ih2 =>
      intro x2 x3 h H locs ls B hl
      obtain ⟨t2, h, ht2⟩ := lp_succ h
      unfold b_X3_hasBoxFrom_2 at h
      (try dsimp only at h)
      refine lv_iload_n hx hb dX3_hasBoxFrom_2 rfl (lv_at hl 2 rfl) ?_
      refine lv_iconst (v := 4) hx hb dX3_hasBoxFrom_3 (by decide) ?_
      refine lv_icmp_ge (tgt := 28) hx hb dX3_hasBoxFrom_4 (by decide) (fun c1 => ?_) (fun c1 => ?_)
      · rw [if_pos c1] at h
        refine lv_iconst (v := 0) hx hb dX3_hasBoxFrom_28 (by decide) ?_
        obtain rfl := Option.some.inj h
        obtain rfl := (show _ = q from ht2)
        exact w_zret F hr hlocks (Or.inl rfl) B dX3_hasBoxFrom_29
      · rw [if_neg c1] at h
        refine lv_aload_n hx hb dX3_hasBoxFrom_7 rfl (lv_at hl 0 rfl) ?_
        refine gt_X3_1 F B mF_X3_17 dX3_hasBoxFrom_8 ?_
        refine lv_iload_n hx hb dX3_hasBoxFrom_11 rfl (lv_at hl 2 rfl) ?_
        obtain ⟨z2, h⟩ := grd_some h
        refine al_C5 F B  z2 dX3_hasBoxFrom_12 ?_
        refine lv_iload_n hx hb dX3_hasBoxFrom_13 rfl (lv_at hl 1 rfl) ?_
        obtain ⟨q3, hq3, h⟩ := cal_some h
        refine w_callNi F B (c_X2_hasBox l g n S0 H.size (Int32.toNatClampNeg x3) (ltI z2) x2 q3 hq3) mC_X2_hasBox nM_X3_173 mN_X2 mI_X2_hasBox mS_X2_hasBox (ixC_2 (ltI z2)) rfl rfl ⟨ok_X2_hasBox, by decide⟩ rfl hl.1 rfl (Nat.le_of_ble_eq_true rfl) dX3_hasBoxFrom_14 (fun H locs B => ?_)
        refine lv_if_eq (tgt := 22) hx hb dX3_hasBoxFrom_17 (by decide) (fun c4 => ?_) (fun c4 => ?_)
        · rw [if_pos c4] at h
          refine lv_iinc (v := x3 + 1) (lv' := [(3, .int (x3 + 1)), (0, .ref (g.2.2 3 0)), (2, .int x2)]) hx hb dX3_hasBoxFrom_22 hl (k := 2) rfl rfl (by decide) rfl (fun ls hl => ?_)
          refine lv_goto (tgt := 2) hx hb dX3_hasBoxFrom_25 (by decide) ?_
          obtain rfl := Option.some.inj h
          exact ih2 x2 (x3 + 1) ht2 H locs ls B (lv_sub hl [1, 2, 0] rfl)
        · rw [if_neg c4] at h
          refine lv_iconst (v := 1) hx hb dX3_hasBoxFrom_20 (by decide) ?_
          obtain rfl := Option.some.inj h
          obtain rfl := (show _ = q from ht2)
          exact w_zret F hr hlocks (Or.inr rfl) B dX3_hasBoxFrom_21
  exact L2 n x2 x1 h H locs ls B (lv_sub hl [1, 3, 0] rfl)
def b_X3_mayBeMelisma_2 (n : Nat) (S0 : mem) (x1 : Int32) (x2 : Int32) : (Int32) → Option ((Int32) ⊕ (Int32)) := fun w =>
if (x1 + x2) ≤ w then (
some (.inr (1))) else (
grd (¬ (w < 0 ∨ 60 ≤ Int32.toNatClampNeg w)) (
if (S0 1 (Int32.toNatClampNeg w) 2) = 0 then (
if (S0 1 (Int32.toNatClampNeg w) 4) = (-1) then (
if w ≤ x1 then (
some (.inl ((w + 1)))) else (
cal (f_X3_hasBoxFrom n S0 0 w) fun q6 => (
if q6 = 0 then (
some (.inl ((w + 1)))) else (
some (.inr (0)))))) else (
some (.inr (0)))) else (
some (.inr (0)))))
/-- private boolean mayBeMelisma(int, int) -/
def f_X3_mayBeMelisma (n : Nat) (S0 : mem) (x1 : Int32) (x2 : Int32) : Option (Int32) :=
lp (b_X3_mayBeMelisma_2 n S0 x1 x2) n (x1)
set_option maxRecDepth 100000 in
set_option maxHeartbeats 4000000 in
theorem c_X3_mayBeMelisma (l : Launch) (g : cx) (n : Nat) (S0 : mem) (sz : Nat) (x1 : Int32) (x2 : Int32) (q : Int32) (h : f_X3_mayBeMelisma n S0 x1 x2 = some q) : Met l yX3_mayBeMelisma (wsU yX3_mayBeMelisma cX3_mayBeMelisma 4 (some .boolean)) (rmD 2) (PcW ixC enC g S0 sz [.ref (g.2.2 3 0), .int x1, .int x2]) (QiW ixC enC g sz q S0) 0 0 (Aw ixC g sz) := by
  refine met_intro (Qc := fun z9 => QiW ixC enC g z9 q S0) (free := fun z9 => Aw ixC g z9) [.ref (g.2.2 3 0), .int x1, .int x2] RX3 rfl (by decide) (Nat.le_of_ble_eq_true rfl) (fun p e s m args below meth c H locs F hr hlocks B ls hl => ?_)
  have hl : lv_has ls 4 [(0, .ref (g.2.2 3 0)), (1, .int x1), (2, .int x2)] := hl
  have hx := F.1
  have hb := F.2.1
  unfold f_X3_mayBeMelisma at h
  refine lv_iload_n hx hb dX3_mayBeMelisma_0 rfl (lv_at hl 1 rfl) ?_
  refine lv_istore_n (lv' := [(3, .int x1), (0, .ref (g.2.2 3 0)), (1, .int x1), (2, .int x2)]) hx hb dX3_mayBeMelisma_1 rfl hl (by decide) rfl (fun ls hl => ?_)
  have L2 : ∀ (k2 : Nat) (x1 : Int32) (x2 : Int32) (x3 : Int32), lp (b_X3_mayBeMelisma_2 n S0 x1 x2) k2 (x3) = some q → ∀ (H : Heap) (locs : List Loc) (ls : Array Slot), Wd ixC enC g S0 (Aw ixC g s.heap.size) s H locs → lv_has ls 4 [(0, .ref (g.2.2 3 0)), (1, .int x1), (2, .int x2), (3, .int x3)] → W p l e (rmD 2) s m args below meth c H locs 0 0 (MQ below (QiW ixC enC g s.heap.size q S0) args s 0 0 (Aw ixC g s.heap.size)) (F0 m 2 ls []) := by
    intro k2
    induction k2 with
    | zero => intro x1 x2 x3 h; exact (lp_zero h).elim
    | succ k2 ih2 =>
      intro x1 x2 x3 h H locs ls B hl
      obtain ⟨t2, h, ht2⟩ := lp_succ h
      unfold b_X3_mayBeMelisma_2 at h
      (try dsimp only at h)
      refine lv_iload_n hx hb dX3_mayBeMelisma_2 rfl (lv_at hl 3 rfl) ?_
      refine lv_iload_n hx hb dX3_mayBeMelisma_3 rfl (lv_at hl 1 rfl) ?_
      refine lv_iload_n hx hb dX3_mayBeMelisma_4 rfl (lv_at hl 2 rfl) ?_
      refine lv_iadd hx hb dX3_mayBeMelisma_5 ?_
      refine lv_icmp_ge (tgt := 58) hx hb dX3_mayBeMelisma_6 (by decide) (fun c1 => ?_) (fun c1 => ?_)
      · rw [if_pos c1] at h
        refine lv_iconst (v := 1) hx hb dX3_mayBeMelisma_58 (by decide) ?_
        obtain rfl := Option.some.inj h
        obtain rfl := (show _ = q from ht2)
        exact w_zret F hr hlocks (Or.inr rfl) B dX3_mayBeMelisma_59
      · rw [if_neg c1] at h
        refine lv_aload_n hx hb dX3_mayBeMelisma_9 rfl (lv_at hl 0 rfl) ?_
        refine gt_X3_0 F B mF_X3_11 dX3_mayBeMelisma_10 ?_
        refine lv_iload_n hx hb dX3_mayBeMelisma_13 rfl (lv_at hl 3 rfl) ?_
        obtain ⟨z2, h⟩ := grd_some h
        refine al_C4 F B  z2 dX3_mayBeMelisma_14 ?_
        refine gn_X1_2 F B (ltI z2) nF_X3_230 dX3_mayBeMelisma_15 ?_
        refine lv_if_ne (tgt := 34) hx hb dX3_mayBeMelisma_18 (by decide) (fun c3 => ?_) (fun c3 => ?_)
        · rw [if_neg c3] at h
          refine lv_iconst (v := 0) hx hb dX3_mayBeMelisma_34 (by decide) ?_
          obtain rfl := Option.some.inj h
          obtain rfl := (show _ = q from ht2)
          exact w_zret F hr hlocks (Or.inl rfl) B dX3_mayBeMelisma_35
        · rw [if_pos c3] at h
          refine lv_aload_n hx hb dX3_mayBeMelisma_21 rfl (lv_at hl 0 rfl) ?_
          refine gt_X3_0 F B mF_X3_11 dX3_mayBeMelisma_22 ?_
          refine lv_iload_n hx hb dX3_mayBeMelisma_25 rfl (lv_at hl 3 rfl) ?_
          refine al_C4 F B  z2 dX3_mayBeMelisma_26 ?_
          refine gn_X1_4 F B (ltI z2) nF_X3_85 dX3_mayBeMelisma_27 ?_
          refine lv_iconst (v := -1) hx hb dX3_mayBeMelisma_30 (by decide) ?_
          refine lv_icmp_eq (tgt := 36) hx hb dX3_mayBeMelisma_31 (by decide) (fun c4 => ?_) (fun c4 => ?_)
          · rw [if_pos c4] at h
            refine lv_iload_n hx hb dX3_mayBeMelisma_36 rfl (lv_at hl 3 rfl) ?_
            refine lv_iload_n hx hb dX3_mayBeMelisma_37 rfl (lv_at hl 1 rfl) ?_
            refine lv_icmp_le (tgt := 52) hx hb dX3_mayBeMelisma_38 (by decide) (fun c5 => ?_) (fun c5 => ?_)
            · rw [if_pos c5] at h
              refine lv_iinc (v := x3 + 1) (lv' := [(3, .int (x3 + 1)), (0, .ref (g.2.2 3 0)), (1, .int x1), (2, .int x2)]) hx hb dX3_mayBeMelisma_52 hl (k := 3) rfl rfl (by decide) rfl (fun ls hl => ?_)
              refine lv_goto (tgt := 2) hx hb dX3_mayBeMelisma_55 (by decide) ?_
              obtain rfl := Option.some.inj h
              exact ih2 x1 x2 (x3 + 1) ht2 H locs ls B (lv_sub hl [1, 2, 3, 0] rfl)
            · rw [if_neg c5] at h
              refine lv_aload_n hx hb dX3_mayBeMelisma_41 rfl (lv_at hl 0 rfl) ?_
              refine lv_iconst (v := 0) hx hb dX3_mayBeMelisma_42 (by decide) ?_
              refine lv_iload_n hx hb dX3_mayBeMelisma_43 rfl (lv_at hl 3 rfl) ?_
              obtain ⟨q6, hq6, h⟩ := cal_some h
              refine w_callVi F B (c_X3_hasBoxFrom l g n S0 H.size 0 x3 q6 hq6) mC_X3_hasBoxFrom mM_X3_236 mN_X3 mI_X3_hasBoxFrom mS_X3_hasBoxFrom ixC_3 rfl rfl ⟨ok_X3_hasBoxFrom, by decide⟩ rfl hl.1 rfl (Nat.le_of_ble_eq_true rfl) dX3_mayBeMelisma_44 (fun H locs B => ?_)
              refine lv_if_eq (tgt := 52) hx hb dX3_mayBeMelisma_47 (by decide) (fun c7 => ?_) (fun c7 => ?_)
              · rw [if_pos c7] at h
                refine lv_iinc (v := x3 + 1) (lv' := [(3, .int (x3 + 1)), (0, .ref (g.2.2 3 0)), (1, .int x1), (2, .int x2)]) hx hb dX3_mayBeMelisma_52 hl (k := 3) rfl rfl (by decide) rfl (fun ls hl => ?_)
                refine lv_goto (tgt := 2) hx hb dX3_mayBeMelisma_55 (by decide) ?_
                obtain rfl := Option.some.inj h
                exact ih2 x1 x2 (x3 + 1) ht2 H locs ls B (lv_sub hl [1, 2, 3, 0] rfl)
              · rw [if_neg c7] at h
                refine lv_iconst (v := 0) hx hb dX3_mayBeMelisma_50 (by decide) ?_
                obtain rfl := Option.some.inj h
                obtain rfl := (show _ = q from ht2)
                exact w_zret F hr hlocks (Or.inl rfl) B dX3_mayBeMelisma_51
          · rw [if_neg c4] at h
            refine lv_iconst (v := 0) hx hb dX3_mayBeMelisma_34 (by decide) ?_
            obtain rfl := Option.some.inj h
            obtain rfl := (show _ = q from ht2)
            exact w_zret F hr hlocks (Or.inl rfl) B dX3_mayBeMelisma_35
  exact L2 n x1 x2 x1 h H locs ls B (lv_sub hl [1, 2, 3, 0] rfl)
