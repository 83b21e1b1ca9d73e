def b_X3_melisma_48 (n : Nat) (x1 : Int32) (x2 : Int32) : (Int32 × mem) → Option ((Int32 × mem) ⊕ (Int32 × mem)) := fun w =>
if (x1 + x2) ≤ w.1 then (
some (.inr (((w.2 3 0 5) + 1, mup (mup w.2 3 0 5 ((w.2 3 0 5) + 1)) 3 0 8 0)))) else (
grd (¬ (w.1 < 0 ∨ 60 ≤ Int32.toNatClampNeg w.1)) (
some (.inl ((w.1 + 1), (mup (mup w.2 1 (Int32.toNatClampNeg w.1) 4 x1) 1 (Int32.toNatClampNeg w.1) 5 ((x1 + x2) - 1))))))
/-- public int melisma(int, int) -/
def f_X3_melisma (n : Nat) (S0 : mem) (x1 : Int32) (x2 : Int32) : Option (Int32 × mem) :=
cal (f_X3_isNote n S0 x1) fun q1 => (
if q1 = 0 then (
some ((-1000001, S0))) else (
cal (f_X3_isOutside n S0 x2 2 20) fun q3 => (
if q3 = 0 then (
if x2 ≤ ((S0 3 0 4) - x1) then (
cal (f_X3_mayBeMelisma n S0 x1 x2) fun q6 => (
if q6 = 0 then (
some ((-1000003, S0))) else (
lp (b_X3_melisma_48 n x1 x2) n (x1, S0)))) else (
some ((-1000002, S0)))) else (
some ((-1000002, S0))))))
set_option maxRecDepth 100000 in
set_option maxHeartbeats 4000000 in
theorem c_X3_melisma (l : Launch) (g : cx) (n : Nat) (S0 : mem) (sz : Nat) (x1 : Int32) (x2 : Int32) (q : Int32 × mem) (h : f_X3_melisma n S0 x1 x2 = some q) : Met l yX3_melisma (wsU yX3_melisma cX3_melisma 4 (some .int)) (rmD 3) (PcW ixC enC g S0 sz [.ref (g.2.2 3 0), .int x1, .int x2]) (QiW ixC enC g sz q.1 q.2) 0 0 (Aw ixC g sz) := by
  refine met_intro (Qc := fun z9 => QiW ixC enC g z9 q.1 q.2) (free := fun z9 => Aw ixC g z9) [.ref (g.2.2 3 0), .int x1, .int x2] RX3 rfl (by decide) (Nat.le_of_ble_eq_true rfl) (fun p e s m args below meth c H locs F hr hlocks B ls hl => ?_)
  have hl : lv_has ls 4 [(0, .ref (g.2.2 3 0)), (1, .int x1), (2, .int x2)] := hl
  have hx := F.1
  have hb := F.2.1
  unfold f_X3_melisma at h
  refine lv_aload_n hx hb dX3_melisma_0 rfl (lv_at hl 0 rfl) ?_
  refine lv_iload_n hx hb dX3_melisma_1 rfl (lv_at hl 1 rfl) ?_
  obtain ⟨q1, hq1, h⟩ := cal_some h
  refine w_callVi F B (c_X3_isNote l g n S0 H.size x1 q1 hq1) mC_X3_isNote mM_X3_55 mN_X3 mI_X3_isNote mS_X3_isNote ixC_3 rfl rfl ⟨ok_X3_isNote, by decide⟩ rfl hl.1 rfl (Nat.le_of_ble_eq_true rfl) dX3_melisma_2 (fun H locs B => ?_)
  refine lv_if_ne (tgt := 11) hx hb dX3_melisma_5 (by decide) (fun c2 => ?_) (fun c2 => ?_)
  · rw [if_neg c2] at h
    refine lv_iload_n hx hb dX3_melisma_11 rfl (lv_at hl 2 rfl) ?_
    refine lv_iconst (v := 2) hx hb dX3_melisma_12 (by decide) ?_
    refine lv_bipush (v := 20) hx hb dX3_melisma_13 (by decide) ?_
    obtain ⟨q3, hq3, h⟩ := cal_some h
    refine w_callSi F B (c_X3_isOutside l g n S0 H.size x2 2 20 q3 hq3) mC_X3_isOutside mM_X3_38 mN_X3 mT_X3_isOutside ⟨ok_X3_isOutside, by decide⟩ rfl hl.1 rfl (Nat.le_of_ble_eq_true rfl) dX3_melisma_15 (fun H locs B => ?_)
    refine lv_if_ne (tgt := 31) hx hb dX3_melisma_18 (by decide) (fun c4 => ?_) (fun c4 => ?_)
    · rw [if_neg c4] at h
      refine lv_ldc (v := -1000002) hx hb F.2.2.2.1 (F.2.2.2.2 _ (wsU_in mK_X3_42)) dX3_melisma_31 ?_
      obtain rfl := Option.some.inj h
      exact w_iret F hr hlocks B dX3_melisma_33
    · rw [if_pos c4] at h
      refine lv_iload_n hx hb dX3_melisma_21 rfl (lv_at hl 2 rfl) ?_
      refine lv_aload_n hx hb dX3_melisma_22 rfl (lv_at hl 0 rfl) ?_
      refine gt_X3_4 F B mF_X3_43 dX3_melisma_23 ?_
      refine lv_iload_n hx hb dX3_melisma_26 rfl (lv_at hl 1 rfl) ?_
      refine lv_isub hx hb dX3_melisma_27 ?_
      refine lv_icmp_le (tgt := 34) hx hb dX3_melisma_28 (by decide) (fun c5 => ?_) (fun c5 => ?_)
      · rw [if_pos c5] at h
        refine lv_aload_n hx hb dX3_melisma_34 rfl (lv_at hl 0 rfl) ?_
        refine lv_iload_n hx hb dX3_melisma_35 rfl (lv_at hl 1 rfl) ?_
        refine lv_iload_n hx hb dX3_melisma_36 rfl (lv_at hl 2 rfl) ?_
        obtain ⟨q6, hq6, h⟩ := cal_some h
        refine w_callVi F B (c_X3_mayBeMelisma l g n S0 H.size x1 x2 q6 hq6) mC_X3_mayBeMelisma mM_X3_82 mN_X3 mI_X3_mayBeMelisma mS_X3_mayBeMelisma ixC_3 rfl rfl ⟨ok_X3_mayBeMelisma, by decide⟩ rfl hl.1 rfl (Nat.le_of_ble_eq_true rfl) dX3_melisma_37 (fun H locs B => ?_)
        refine lv_if_ne (tgt := 46) hx hb dX3_melisma_40 (by decide) (fun c7 => ?_) (fun c7 => ?_)
        · rw [if_neg c7] at h
          refine lv_iload_n hx hb dX3_melisma_46 rfl (lv_at hl 1 rfl) ?_
          refine lv_istore_n (lv' := [(3, .int x1), (0, .ref (g.2.2 3 0)), (1, .int x1), (2, .int x2)]) hx hb dX3_melisma_47 rfl hl (by decide) rfl (fun ls hl => ?_)
          have L48 : ∀ (k48 : Nat) (x1 : Int32) (x2 : Int32) (x3 : Int32) (S : mem), lp (b_X3_melisma_48 n x1 x2) k48 (x3, S) = some q → ∀ (H : Heap) (locs : List Loc) (ls : Array Slot), Wd ixC enC g S (Aw ixC g s.heap.size) s H locs → lv_has ls 4 [(0, .ref (g.2.2 3 0)), (1, .int x1), (2, .int x2), (3, .int x3)] → W p l e (rmD 3) s m args below meth c H locs 0 0 (MQ below (QiW ixC enC g s.heap.size q.1 q.2) args s 0 0 (Aw ixC g s.heap.size)) (F0 m 48 ls []) := by
            intro k48
            induction k48 with
            | zero => intro x1 x2 x3 S h; exact (lp_zero h).elim
            | succ k48 ih48 =>
              intro x1 x2 x3 S h H locs ls B hl
              obtain ⟨t48, h, ht48⟩ := lp_succ h
              unfold b_X3_melisma_48 at h
              (try dsimp only at h)
              refine lv_iload_n hx hb dX3_melisma_48 rfl (lv_at hl 3 rfl) ?_
              refine lv_iload_n hx hb dX3_melisma_49 rfl (lv_at hl 1 rfl) ?_
              refine lv_iload_n hx hb dX3_melisma_50 rfl (lv_at hl 2 rfl) ?_
              refine lv_iadd hx hb dX3_melisma_51 ?_
              refine lv_icmp_ge (tgt := 85) hx hb dX3_melisma_52 (by decide) (fun c8 => ?_) (fun c8 => ?_)
              · rw [if_pos c8] at h
                refine lv_aload_n hx hb dX3_melisma_85 rfl (lv_at hl 0 rfl) ?_
                refine lv_dup hx hb dX3_melisma_86 rfl ?_
                refine gt_X3_5 F B mF_X3_91 dX3_melisma_87 ?_
                refine lv_iconst (v := 1) hx hb dX3_melisma_90 (by decide) ?_
                refine lv_iadd hx hb dX3_melisma_91 ?_
                refine pt_X3_5 F B mF_X3_91 dX3_melisma_92 (fun H locs B => ?_)
                refine lv_aload_n hx hb dX3_melisma_95 rfl (lv_at hl 0 rfl) ?_
                refine lv_iconst (v := 0) hx hb dX3_melisma_96 (by decide) ?_
                refine pt_X3_8 F B (Or.inl rfl) mF_X3_51 dX3_melisma_97 (fun H locs B => ?_)
                refine lv_aload_n hx hb dX3_melisma_100 rfl (lv_at hl 0 rfl) ?_
                refine gt_X3_5 F B mF_X3_91 dX3_melisma_101 ?_
                refine w_cv ((S 3 0 5) + 1) ((mup_j (by decide)).trans (mup_s)) ?_
                obtain rfl := Option.some.inj h
                obtain rfl := (show _ = q from ht48)
                exact w_iret F hr hlocks B dX3_melisma_104
              · rw [if_neg c8] at h
                refine lv_aload_n hx hb dX3_melisma_55 rfl (lv_at hl 0 rfl) ?_
                refine gt_X3_0 F B mF_X3_11 dX3_melisma_56 ?_
                refine lv_iload_n hx hb dX3_melisma_59 rfl (lv_at hl 3 rfl) ?_
                obtain ⟨z9, h⟩ := grd_some h
                refine al_C4 F B  z9 dX3_melisma_60 ?_
                refine lv_iload_n hx hb dX3_melisma_61 rfl (lv_at hl 1 rfl) ?_
                refine pn_X1_4 F B (ltI z9) nF_X3_85 dX3_melisma_62 (fun H locs B => ?_)
                refine lv_aload_n hx hb dX3_melisma_65 rfl (lv_at hl 0 rfl) ?_
                refine gt_X3_0 F B mF_X3_11 dX3_melisma_66 ?_
                refine lv_iload_n hx hb dX3_melisma_69 rfl (lv_at hl 3 rfl) ?_
                refine al_C4 F B  z9 dX3_melisma_70 ?_
                refine lv_iload_n hx hb dX3_melisma_71 rfl (lv_at hl 1 rfl) ?_
                refine lv_iload_n hx hb dX3_melisma_72 rfl (lv_at hl 2 rfl) ?_
                refine lv_iadd hx hb dX3_melisma_73 ?_
                refine lv_iconst (v := 1) hx hb dX3_melisma_74 (by decide) ?_
                refine lv_isub hx hb dX3_melisma_75 ?_
                refine pn_X1_5 F B (ltI z9) nF_X3_88 dX3_melisma_76 (fun H locs B => ?_)
                refine lv_iinc (v := x3 + 1) (lv' := [(3, .int (x3 + 1)), (0, .ref (g.2.2 3 0)), (1, .int x1), (2, .int x2)]) hx hb dX3_melisma_79 hl (k := 3) rfl rfl (by decide) rfl (fun ls hl => ?_)
                refine lv_goto (tgt := 48) hx hb dX3_melisma_82 (by decide) ?_
                obtain rfl := Option.some.inj h
                exact ih48 x1 x2 (x3 + 1) (mup (mup S 1 (Int32.toNatClampNeg x3) 4 x1) 1 (Int32.toNatClampNeg x3) 5 ((x1 + x2) - 1)) ht48 H locs ls B (lv_sub hl [1, 2, 3, 0] rfl)
          exact L48 n x1 x2 x1 S0 h H locs ls B (lv_sub hl [1, 2, 3, 0] rfl)
        · rw [if_pos c7] at h
          refine lv_ldc (v := -1000003) hx hb F.2.2.2.1 (F.2.2.2.2 _ (wsU_in mK_X3_67)) dX3_melisma_43 ?_
          obtain rfl := Option.some.inj h
          exact w_iret F hr hlocks B dX3_melisma_45
      · rw [if_neg c5] at h
        refine lv_ldc (v := -1000002) hx hb F.2.2.2.1 (F.2.2.2.2 _ (wsU_in mK_X3_42)) dX3_melisma_31 ?_
        obtain rfl := Option.some.inj h
        exact w_iret F hr hlocks B dX3_melisma_33
  · rw [if_pos c2] at h
    refine lv_ldc (v := -1000001) hx hb F.2.2.2.1 (F.2.2.2.2 _ (wsU_in mK_X3_62)) dX3_melisma_8 ?_
    obtain rfl := Option.some.inj h
    exact w_iret F hr hlocks B dX3_melisma_10
def b_X3_mayBeRefrain_2 (n : Nat) (S0 : mem) (x1 : Int32) (x2 : Int32) : (Int32) → Option ((Int32) ⊕ (Int32)) := fun w =>
if (x1 + x2) ≤ w then (
some (.inr (1))) else (
grd (¬ (w < 0 ∨ 60 ≤ Int32.toNatClampNeg w)) (
if (S0 1 (Int32.toNatClampNeg w) 6) = (-1) then (
cal (f_X3_hasBoxFrom n S0 1 w) fun q4 => (
if q4 = 0 then (
some (.inl ((w + 1)))) else (
some (.inr (0))))) else (
some (.inr (0)))))
/-- private boolean mayBeRefrain(int, int) -/
def f_X3_mayBeRefrain (n : Nat) (S0 : mem) (x1 : Int32) (x2 : Int32) : Option (Int32) :=
lp (b_X3_mayBeRefrain_2 n S0 x1 x2) n (x1)
set_option maxRecDepth 100000 in
set_option maxHeartbeats 4000000 in
theorem c_X3_mayBeRefrain (l : Launch) (g : cx) (n : Nat) (S0 : mem) (sz : Nat) (x1 : Int32) (x2 : Int32) (q : Int32) (h : f_X3_mayBeRefrain n S0 x1 x2 = some q) : Met l yX3_mayBeRefrain (wsU yX3_mayBeRefrain cX3_mayBeRefrain 4 (some .boolean)) (rmD 2) (PcW ixC enC g S0 sz [.ref (g.2.2 3 0), .int x1, .int x2]) (QiW ixC enC g sz q S0) 0 0 (Aw ixC g sz) := by
  refine met_intro (Qc := fun z9 => QiW ixC enC g z9 q S0) (free := fun z9 => Aw ixC g z9) [.ref (g.2.2 3 0), .int x1, .int x2] RX3 rfl (by decide) (Nat.le_of_ble_eq_true rfl) (fun p e s m args below meth c H locs F hr hlocks B ls hl => ?_)
  have hl : lv_has ls 4 [(0, .ref (g.2.2 3 0)), (1, .int x1), (2, .int x2)] := hl
  have hx := F.1
  have hb := F.2.1
  unfold f_X3_mayBeRefrain at h
  refine lv_iload_n hx hb dX3_mayBeRefrain_0 rfl (lv_at hl 1 rfl) ?_
  refine lv_istore_n (lv' := [(3, .int x1), (0, .ref (g.2.2 3 0)), (1, .int x1), (2, .int x2)]) hx hb dX3_mayBeRefrain_1 rfl hl (by decide) rfl (fun ls hl => ?_)
  have L2 : ∀ (k2 : Nat) (x1 : Int32) (x2 : Int32) (x3 : Int32), lp (b_X3_mayBeRefrain_2 n S0 x1 x2) k2 (x3) = some q → ∀ (H : Heap) (locs : List Loc) (ls : Array Slot), Wd ixC enC g S0 (Aw ixC g s.heap.size) s H locs → lv_has ls 4 [(0, .ref (g.2.2 3 0)), (1, .int x1), (2, .int x2), (3, .int x3)] → W p l e (rmD 2) s m args below meth c H locs 0 0 (MQ below (QiW ixC enC g s.heap.size q S0) args s 0 0 (Aw ixC g s.heap.size)) (F0 m 2 ls []) := by
    intro k2
    induction k2 with
    | zero => intro x1 x2 x3 h; exact (lp_zero h).elim
    | succ k2 ih2 =>
      intro x1 x2 x3 h H locs ls B hl
      obtain ⟨t2, h, ht2⟩ := lp_succ h
      unfold b_X3_mayBeRefrain_2 at h
      (try dsimp only at h)
      refine lv_iload_n hx hb dX3_mayBeRefrain_2 rfl (lv_at hl 3 rfl) ?_
      refine lv_iload_n hx hb dX3_mayBeRefrain_3 rfl (lv_at hl 1 rfl) ?_
      refine lv_iload_n hx hb dX3_mayBeRefrain_4 rfl (lv_at hl 2 rfl) ?_
      refine lv_iadd hx hb dX3_mayBeRefrain_5 ?_
      refine lv_icmp_ge (tgt := 39) hx hb dX3_mayBeRefrain_6 (by decide) (fun c1 => ?_) (fun c1 => ?_)
      · rw [if_pos c1] at h
        refine lv_iconst (v := 1) hx hb dX3_mayBeRefrain_39 (by decide) ?_
        obtain rfl := Option.some.inj h
        obtain rfl := (show _ = q from ht2)
        exact w_zret F hr hlocks (Or.inr rfl) B dX3_mayBeRefrain_40
      · rw [if_neg c1] at h
        refine lv_aload_n hx hb dX3_mayBeRefrain_9 rfl (lv_at hl 0 rfl) ?_
        refine gt_X3_0 F B mF_X3_11 dX3_mayBeRefrain_10 ?_
        refine lv_iload_n hx hb dX3_mayBeRefrain_13 rfl (lv_at hl 3 rfl) ?_
        obtain ⟨z2, h⟩ := grd_some h
        refine al_C4 F B  z2 dX3_mayBeRefrain_14 ?_
        refine gn_X1_6 F B (ltI z2) nF_X3_100 dX3_mayBeRefrain_15 ?_
        refine lv_iconst (v := -1) hx hb dX3_mayBeRefrain_18 (by decide) ?_
        refine lv_icmp_ne (tgt := 31) hx hb dX3_mayBeRefrain_19 (by decide) (fun c3 => ?_) (fun c3 => ?_)
        · rw [if_neg c3] at h
          refine lv_iconst (v := 0) hx hb dX3_mayBeRefrain_31 (by decide) ?_
          obtain rfl := Option.some.inj h
          obtain rfl := (show _ = q from ht2)
          exact w_zret F hr hlocks (Or.inl rfl) B dX3_mayBeRefrain_32
        · rw [if_pos c3] at h
          refine lv_aload_n hx hb dX3_mayBeRefrain_22 rfl (lv_at hl 0 rfl) ?_
          refine lv_iconst (v := 1) hx hb dX3_mayBeRefrain_23 (by decide) ?_
          refine lv_iload_n hx hb dX3_mayBeRefrain_24 rfl (lv_at hl 3 rfl) ?_
          obtain ⟨q4, hq4, h⟩ := cal_some h
          refine w_callVi F B (c_X3_hasBoxFrom l g n S0 H.size 1 x3 q4 hq4) mC_X3_hasBoxFrom mM_X3_236 mN_X3 mI_X3_hasBoxFrom mS_X3_hasBoxFrom ixC_3 rfl rfl ⟨ok_X3_hasBoxFrom, by decide⟩ rfl hl.1 rfl (Nat.le_of_ble_eq_true rfl) dX3_mayBeRefrain_25 (fun H locs B => ?_)
          refine lv_if_eq (tgt := 33) hx hb dX3_mayBeRefrain_28 (by decide) (fun c5 => ?_) (fun c5 => ?_)
          · rw [if_pos c5] at h
            refine lv_iinc (v := x3 + 1) (lv' := [(3, .int (x3 + 1)), (0, .ref (g.2.2 3 0)), (1, .int x1), (2, .int x2)]) hx hb dX3_mayBeRefrain_33 hl (k := 3) rfl rfl (by decide) rfl (fun ls hl => ?_)
            refine lv_goto (tgt := 2) hx hb dX3_mayBeRefrain_36 (by decide) ?_
            obtain rfl := Option.some.inj h
            exact ih2 x1 x2 (x3 + 1) ht2 H locs ls B (lv_sub hl [1, 2, 3, 0] rfl)
          · rw [if_neg c5] at h
            refine lv_iconst (v := 0) hx hb dX3_mayBeRefrain_31 (by decide) ?_
            obtain rfl := Option.some.inj h
            obtain rfl := (show _ = q from ht2)
            exact w_zret F hr hlocks (Or.inl rfl) B dX3_mayBeRefrain_32
  exact L2 n x1 x2 x1 h H locs ls B (lv_sub hl [1, 2, 3, 0] rfl)
def b_X3_refrain_59 (n : Nat) (x1 : Int32) (x2 : Int32) : (Int32 × mem) → Option ((Int32 × mem) ⊕ (Int32 × mem)) := fun w =>
if (x1 + x2) ≤ w.1 then (
some (.inr (((w.2 3 0 6) + 1, mup (mup w.2 3 0 6 ((w.2 3 0 6) + 1)) 3 0 8 0)))) else (
grd (¬ (w.1 < 0 ∨ 60 ≤ Int32.toNatClampNeg w.1)) (
some (.inl ((w.1 + 1), (mup w.2 1 (Int32.toNatClampNeg w.1) 6 x1)))))
/-- public int refrain(int, int) -/
def f_X3_refrain (n : Nat) (S0 : mem) (x1 : Int32) (x2 : Int32) : Option (Int32 × mem) :=
cal (f_X3_isNote n S0 x1) fun q1 => (
if q1 = 0 then (
some ((-1000001, S0))) else (
cal (f_X3_isOutside n S0 x2 1 60) fun q3 => (
if q3 = 0 then (
if x2 ≤ ((S0 3 0 4) - x1) then (
cal (f_X3_mayBeRefrain n S0 x1 x2) fun q6 => (
if q6 = 0 then (
some ((-1000003, S0))) else (
if (S0 3 0 6) < 3 then (
lp (b_X3_refrain_59 n x1 x2) n (x1, S0)) else (
some ((-1000004, S0)))))) else (
some ((-1000002, S0)))) else (
some ((-1000002, S0))))))
set_option maxRecDepth 100000 in
set_option maxHeartbeats 4000000 in
theorem c_X3_refrain (l : Launch) (g : cx) (n : Nat) (S0 : mem) (sz : Nat) (x1 : Int32) (x2 : Int32) (q : Int32 × mem) (h : f_X3_refrain n S0 x1 x2 = some q) : Met l yX3_refrain (wsU yX3_refrain cX3_refrain 4 (some .int)) (rmD 3) (PcW ixC enC g S0 sz [.ref (g.2.2 3 0), .int x1, .int x2]) (QiW ixC enC g sz q.1 q.2) 0 0 (Aw ixC g sz) := by
  refine met_intro (Qc := fun z9 => QiW ixC enC g z9 q.1 q.2) (free := fun z9 => Aw ixC g z9) [.ref (g.2.2 3 0), .int x1, .int x2] RX3 rfl (by decide) (Nat.le_of_ble_eq_true rfl) (fun p e s m args below meth c H locs F hr hlocks B ls hl => ?_)
  have hl : lv_has ls 4 [(0, .ref (g.2.2 3 0)), (1, .int x1), (2, .int x2)] := hl
  have hx := F.1
  have hb := F.2.1
  unfold f_X3_refrain at h
  refine lv_aload_n hx hb dX3_refrain_0 rfl (lv_at hl 0 rfl) ?_
  refine lv_iload_n hx hb dX3_refrain_1 rfl (lv_at hl 1 rfl) ?_
  obtain ⟨q1, hq1, h⟩ := cal_some h
  refine w_callVi F B (c_X3_isNote l g n S0 H.size x1 q1 hq1) mC_X3_isNote mM_X3_55 mN_X3 mI_X3_isNote mS_X3_isNote ixC_3 rfl rfl ⟨ok_X3_isNote, by decide⟩ rfl hl.1 rfl (Nat.le_of_ble_eq_true rfl) dX3_refrain_2 (fun H locs B => ?_)
  refine lv_if_ne (tgt := 11) hx hb dX3_refrain_5 (by decide) (fun c2 => ?_) (fun c2 => ?_)
  · rw [if_neg c2] at h
    refine lv_iload_n hx hb dX3_refrain_11 rfl (lv_at hl 2 rfl) ?_
    refine lv_iconst (v := 1) hx hb dX3_refrain_12 (by decide) ?_
    refine lv_bipush (v := 60) hx hb dX3_refrain_13 (by decide) ?_
    obtain ⟨q3, hq3, h⟩ := cal_some h
    refine w_callSi F B (c_X3_isOutside l g n S0 H.size x2 1 60 q3 hq3) mC_X3_isOutside mM_X3_38 mN_X3 mT_X3_isOutside ⟨ok_X3_isOutside, by decide⟩ rfl hl.1 rfl (Nat.le_of_ble_eq_true rfl) dX3_refrain_15 (fun H locs B => ?_)
    refine lv_if_ne (tgt := 31) hx hb dX3_refrain_18 (by decide) (fun c4 => ?_) (fun c4 => ?_)
    · rw [if_neg c4] at h
      refine lv_ldc (v := -1000002) hx hb F.2.2.2.1 (F.2.2.2.2 _ (wsU_in mK_X3_42)) dX3_refrain_31 ?_
      obtain rfl := Option.some.inj h
      exact w_iret F hr hlocks B dX3_refrain_33
    · rw [if_pos c4] at h
      refine lv_iload_n hx hb dX3_refrain_21 rfl (lv_at hl 2 rfl) ?_
      refine lv_aload_n hx hb dX3_refrain_22 rfl (lv_at hl 0 rfl) ?_
      refine gt_X3_4 F B mF_X3_43 dX3_refrain_23 ?_
      refine lv_iload_n hx hb dX3_refrain_26 rfl (lv_at hl 1 rfl) ?_
      refine lv_isub hx hb dX3_refrain_27 ?_
      refine lv_icmp_le (tgt := 34) hx hb dX3_refrain_28 (by decide) (fun c5 => ?_) (fun c5 => ?_)
      · rw [if_pos c5] at h
        refine lv_aload_n hx hb dX3_refrain_34 rfl (lv_at hl 0 rfl) ?_
        refine lv_iload_n hx hb dX3_refrain_35 rfl (lv_at hl 1 rfl) ?_
        refine lv_iload_n hx hb dX3_refrain_36 rfl (lv_at hl 2 rfl) ?_
        obtain ⟨q6, hq6, h⟩ := cal_some h
        refine w_callVi F B (c_X3_mayBeRefrain l g n S0 H.size x1 x2 q6 hq6) mC_X3_mayBeRefrain mM_X3_94 mN_X3 mI_X3_mayBeRefrain mS_X3_mayBeRefrain ixC_3 rfl rfl ⟨ok_X3_mayBeRefrain, by decide⟩ rfl hl.1 rfl (Nat.le_of_ble_eq_true rfl) dX3_refrain_37 (fun H locs B => ?_)
        refine lv_if_ne (tgt := 46) hx hb dX3_refrain_40 (by decide) (fun c7 => ?_) (fun c7 => ?_)
        · rw [if_neg c7] at h
          refine lv_aload_n hx hb dX3_refrain_46 rfl (lv_at hl 0 rfl) ?_
          refine gt_X3_6 F B mF_X3_97 dX3_refrain_47 ?_
          refine lv_iconst (v := 3) hx hb dX3_refrain_50 (by decide) ?_
          refine lv_icmp_lt (tgt := 57) hx hb dX3_refrain_51 (by decide) (fun c8 => ?_) (fun c8 => ?_)
          · rw [if_pos c8] at h
            refine lv_iload_n hx hb dX3_refrain_57 rfl (lv_at hl 1 rfl) ?_
            refine lv_istore_n (lv' := [(3, .int x1), (0, .ref (g.2.2 3 0)), (1, .int x1), (2, .int x2)]) hx hb dX3_refrain_58 rfl hl (by decide) rfl (fun ls hl => ?_)
            have L59 : ∀ (k59 : Nat) (x1 : Int32) (x2 : Int32) (x3 : Int32) (S : mem), lp (b_X3_refrain_59 n x1 x2) k59 (x3, S) = some q → ∀ (H : Heap) (locs : List Loc) (ls : Array Slot), Wd ixC enC g S (Aw ixC g s.heap.size) s H locs → lv_has ls 4 [(0, .ref (g.2.2 3 0)), (1, .int x1), (2, .int x2), (3, .int x3)] → W p l e (rmD 3) s m args below meth c H locs 0 0 (MQ below (QiW ixC enC g s.heap.size q.1 q.2) args s 0 0 (Aw ixC g s.heap.size)) (F0 m 59 ls []) := by
              intro k59
              induction k59 with
              | zero => intro x1 x2 x3 S h; exact (lp_zero h).elim
              | succ k59 ih59 =>
                intro x1 x2 x3 S h H locs ls B hl
                obtain ⟨t59, h, ht59⟩ := lp_succ h
                unfold b_X3_refrain_59 at h
                (try dsimp only at h)
                refine lv_iload_n hx hb dX3_refrain_59 rfl (lv_at hl 3 rfl) ?_
                refine lv_iload_n hx hb dX3_refrain_60 rfl (lv_at hl 1 rfl) ?_
                refine lv_iload_n hx hb dX3_refrain_61 rfl (lv_at hl 2 rfl) ?_
                refine lv_iadd hx hb dX3_refrain_62 ?_
                refine lv_icmp_ge (tgt := 82) hx hb dX3_refrain_63 (by decide) (fun c9 => ?_) (fun c9 => ?_)
                · rw [if_pos c9] at h
                  refine lv_aload_n hx hb dX3_refrain_82 rfl (lv_at hl 0 rfl) ?_
                  refine lv_dup hx hb dX3_refrain_83 rfl ?_
                  refine gt_X3_6 F B mF_X3_97 dX3_refrain_84 ?_
                  refine lv_iconst (v := 1) hx hb dX3_refrain_87 (by decide) ?_
                  refine lv_iadd hx hb dX3_refrain_88 ?_
                  refine pt_X3_6 F B mF_X3_97 dX3_refrain_89 (fun H locs B => ?_)
                  refine lv_aload_n hx hb dX3_refrain_92 rfl (lv_at hl 0 rfl) ?_
                  refine lv_iconst (v := 0) hx hb dX3_refrain_93 (by decide) ?_
                  refine pt_X3_8 F B (Or.inl rfl) mF_X3_51 dX3_refrain_94 (fun H locs B => ?_)
                  refine lv_aload_n hx hb dX3_refrain_97 rfl (lv_at hl 0 rfl) ?_
                  refine gt_X3_6 F B mF_X3_97 dX3_refrain_98 ?_
                  refine w_cv ((S 3 0 6) + 1) ((mup_j (by decide)).trans (mup_s)) ?_
                  obtain rfl := Option.some.inj h
                  obtain rfl := (show _ = q from ht59)
                  exact w_iret F hr hlocks B dX3_refrain_101
                · rw [if_neg c9] at h
                  refine lv_aload_n hx hb dX3_refrain_66 rfl (lv_at hl 0 rfl) ?_
                  refine gt_X3_0 F B mF_X3_11 dX3_refrain_67 ?_
                  refine lv_iload_n hx hb dX3_refrain_70 rfl (lv_at hl 3 rfl) ?_
                  obtain ⟨z10, h⟩ := grd_some h
                  refine al_C4 F B  z10 dX3_refrain_71 ?_
                  refine lv_iload_n hx hb dX3_refrain_72 rfl (lv_at hl 1 rfl) ?_
                  refine pn_X1_6 F B (ltI z10) nF_X3_100 dX3_refrain_73 (fun H locs B => ?_)
                  refine lv_iinc (v := x3 + 1) (lv' := [(3, .int (x3 + 1)), (0, .ref (g.2.2 3 0)), (1, .int x1), (2, .int x2)]) hx hb dX3_refrain_76 hl (k := 3) rfl rfl (by decide) rfl (fun ls hl => ?_)
                  refine lv_goto (tgt := 59) hx hb dX3_refrain_79 (by decide) ?_
                  obtain rfl := Option.some.inj h
                  exact ih59 x1 x2 (x3 + 1) (mup S 1 (Int32.toNatClampNeg x3) 6 x1) ht59 H locs ls B (lv_sub hl [1, 2, 3, 0] rfl)
            exact L59 n x1 x2 x1 S0 h H locs ls B (lv_sub hl [1, 2, 3, 0] rfl)
          · rw [if_neg c8] at h
            refine lv_ldc (v := -1000004) hx hb F.2.2.2.1 (F.2.2.2.2 _ (wsU_in mK_X3_46)) dX3_refrain_54 ?_
            obtain rfl := Option.some.inj h
            exact w_iret F hr hlocks B dX3_refrain_56
        · rw [if_pos c7] at h
          refine lv_ldc (v := -1000003) hx hb F.2.2.2.1 (F.2.2.2.2 _ (wsU_in mK_X3_67)) dX3_refrain_43 ?_
          obtain rfl := Option.some.inj h
          exact w_iret F hr hlocks B dX3_refrain_45
      · rw [if_neg c5] at h
        refine lv_ldc (v := -1000002) hx hb F.2.2.2.1 (F.2.2.2.2 _ (wsU_in mK_X3_42)) dX3_refrain_31 ?_
        obtain rfl := Option.some.inj h
        exact w_iret F hr hlocks B dX3_refrain_33
  · rw [if_pos c2] at h
    refine lv_ldc (v := -1000001) hx hb F.2.2.2.1 (F.2.2.2.2 _ (wsU_in mK_X3_62)) dX3_refrain_8 ?_
    obtain rfl := Option.some.inj h
    exact w_iret F hr hlocks B dX3_refrain_10
/-- public int align(int, int) -/
def f_X3_align (n : Nat) (S0 : mem) (x1 : Int32) (x2 : Int32) : Option (Int32 × mem) :=
cal (f_X3_isVerse n S0 x1) fun q1 => (
if q1 = 0 then (
some ((-1000001, S0))) else (
cal (f_X3_isOutside n S0 x2 0 2) fun q3 => (
if q3 = 0 then (
grd (¬ (x1 < 0 ∨ 4 ≤ Int32.toNatClampNeg x1)) (
some ((S0 2 (Int32.toNatClampNeg x1) 6, mup (mup S0 2 (Int32.toNatClampNeg x1) 6 x2) 3 0 8 0)))) else (
some ((-1000002, S0))))))
set_option maxRecDepth 100000 in
set_option maxHeartbeats 4000000 in
theorem c_X3_align (l : Launch) (g : cx) (n : Nat) (S0 : mem) (sz : Nat) (x1 : Int32) (x2 : Int32) (q : Int32 × mem) (h : f_X3_align n S0 x1 x2 = some q) : Met l yX3_align (wsU yX3_align cX3_align 4 (some .int)) (rmD 1) (PcW ixC enC g S0 sz [.ref (g.2.2 3 0), .int x1, .int x2]) (QiW ixC enC g sz q.1 q.2) 0 0 (Aw ixC g sz) := by
  refine met_intro (Qc := fun z9 => QiW ixC enC g z9 q.1 q.2) (free := fun z9 => Aw ixC g z9) [.ref (g.2.2 3 0), .int x1, .int x2] RX3 rfl (by decide) (Nat.le_of_ble_eq_true rfl) (fun p e s m args below meth c H locs F hr hlocks B ls hl => ?_)
  have hl : lv_has ls 4 [(0, .ref (g.2.2 3 0)), (1, .int x1), (2, .int x2)] := hl
  have hx := F.1
  have hb := F.2.1
  unfold f_X3_align at h
  refine lv_iload_n hx hb dX3_align_0 rfl (lv_at hl 1 rfl) ?_
  obtain ⟨q1, hq1, h⟩ := cal_some h
  refine w_callSi F B (c_X3_isVerse l g n S0 H.size x1 q1 hq1) mC_X3_isVerse mM_X3_59 mN_X3 mT_X3_isVerse ⟨ok_X3_isVerse, by decide⟩ rfl hl.1 rfl (Nat.le_of_ble_eq_true rfl) dX3_align_1 (fun H locs B => ?_)
  refine lv_if_ne (tgt := 10) hx hb dX3_align_4 (by decide) (fun c2 => ?_) (fun c2 => ?_)
  · rw [if_neg c2] at h
    refine lv_iload_n hx hb dX3_align_10 rfl (lv_at hl 2 rfl) ?_
    refine lv_iconst (v := 0) hx hb dX3_align_11 (by decide) ?_
    refine lv_iconst (v := 2) hx hb dX3_align_12 (by decide) ?_
    obtain ⟨q3, hq3, h⟩ := cal_some h
    refine w_callSi F B (c_X3_isOutside l g n S0 H.size x2 0 2 q3 hq3) mC_X3_isOutside mM_X3_38 mN_X3 mT_X3_isOutside ⟨ok_X3_isOutside, by decide⟩ rfl hl.1 rfl (Nat.le_of_ble_eq_true rfl) dX3_align_13 (fun H locs B => ?_)
    refine lv_if_eq (tgt := 22) hx hb dX3_align_16 (by decide) (fun c4 => ?_) (fun c4 => ?_)
    · rw [if_pos c4] at h
      refine lv_aload_n hx hb dX3_align_22 rfl (lv_at hl 0 rfl) ?_
      refine gt_X3_1 F B mF_X3_17 dX3_align_23 ?_
      refine lv_iload_n hx hb dX3_align_26 rfl (lv_at hl 1 rfl) ?_
      obtain ⟨z5, h⟩ := grd_some h
      refine al_C5 F B  z5 dX3_align_27 ?_
      refine gn_X2_6 F B (ltI z5) nF_X3_103 dX3_align_28 ?_
      refine lv_istore_n (lv' := [(3, .int (S0 2 (Int32.toNatClampNeg x1) 6)), (0, .ref (g.2.2 3 0)), (1, .int x1), (2, .int x2)]) hx hb dX3_align_31 rfl hl (by decide) rfl (fun ls hl => ?_)
      refine lv_aload_n hx hb dX3_align_32 rfl (lv_at hl 1 rfl) ?_
      refine gt_X3_1 F B mF_X3_17 dX3_align_33 ?_
      refine lv_iload_n hx hb dX3_align_36 rfl (lv_at hl 2 rfl) ?_
      refine al_C5 F B  z5 dX3_align_37 ?_
      refine lv_iload_n hx hb dX3_align_38 rfl (lv_at hl 3 rfl) ?_
      refine pn_X2_6 F B (ltI z5) nF_X3_103 dX3_align_39 (fun H locs B => ?_)
      refine lv_aload_n hx hb dX3_align_42 rfl (lv_at hl 1 rfl) ?_
      refine lv_iconst (v := 0) hx hb dX3_align_43 (by decide) ?_
      refine pt_X3_8 F B (Or.inl rfl) mF_X3_51 dX3_align_44 (fun H locs B => ?_)
      refine lv_iload_n hx hb dX3_align_47 rfl (lv_at hl 0 rfl) ?_
      obtain rfl := Option.some.inj h
      exact w_iret F hr hlocks B dX3_align_48
    · rw [if_neg c4] at h
      refine lv_ldc (v := -1000002) hx hb F.2.2.2.1 (F.2.2.2.2 _ (wsU_in mK_X3_42)) dX3_align_19 ?_
      obtain rfl := Option.some.inj h
      exact w_iret F hr hlocks B dX3_align_21
  · rw [if_pos c2] at h
    refine lv_ldc (v := -1000001) hx hb F.2.2.2.1 (F.2.2.2.2 _ (wsU_in mK_X3_62)) dX3_align_7 ?_
    obtain rfl := Option.some.inj h
    exact w_iret F hr hlocks B dX3_align_9
/-- private static int asNumber(boolean) -/
def f_X3_asNumber (n : Nat) (S0 : mem) (x0 : Int32) : Option (Int32) :=
if x0 = 0 then (
some (0)) else (
some (1))
set_option maxRecDepth 100000 in
set_option maxHeartbeats 4000000 in
theorem c_X3_asNumber (l : Launch) (g : cx) (n : Nat) (S0 : mem) (sz : Nat) (x0 : Int32) (q : Int32) (h : f_X3_asNumber n S0 x0 = some q) : Met l yX3_asNumber (wsU yX3_asNumber cX3_asNumber 1 (some .int)) (rmD 0) (PcW ixC enC g S0 sz [.int x0]) (QiW ixC enC g sz q S0) 0 0 (Aw ixC g sz) := by
  refine met_intro (Qc := fun z9 => QiW ixC enC g z9 q S0) (free := fun z9 => Aw ixC g z9) [.int x0] RX3 rfl (by decide) (Nat.le_of_ble_eq_true rfl) (fun p e s m args below meth c H locs F hr hlocks B ls hl => ?_)
  have hl : lv_has ls 1 [(0, .int x0)] := hl
  have hx := F.1
  have hb := F.2.1
  unfold f_X3_asNumber at h
  refine lv_iload_n hx hb dX3_asNumber_0 rfl (lv_at hl 0 rfl) ?_
  refine lv_if_eq (tgt := 8) hx hb dX3_asNumber_1 (by decide) (fun c1 => ?_) (fun c1 => ?_)
  · rw [if_pos c1] at h
    refine lv_iconst (v := 0) hx hb dX3_asNumber_8 (by decide) ?_
    obtain rfl := Option.some.inj h
    exact w_iret F hr hlocks B dX3_asNumber_9
  · rw [if_neg c1] at h
    refine lv_iconst (v := 1) hx hb dX3_asNumber_4 (by decide) ?_
    refine lv_goto (tgt := 9) hx hb dX3_asNumber_5 (by decide) ?_
    obtain rfl := Option.some.inj h
    exact w_iret F hr hlocks B dX3_asNumber_9
/-- public int translation(int, boolean) -/
def f_X3_translation (n : Nat) (S0 : mem) (x1 : Int32) (x2 : Int32) : Option (Int32 × mem) :=
cal (f_X3_isVerse n S0 x1) fun q1 => (
if q1 = 0 then (
some ((-1000001, S0))) else (
grd (¬ (x1 < 0 ∨ 4 ≤ Int32.toNatClampNeg x1)) (
cal (f_X3_asNumber n S0 (S0 2 (Int32.toNatClampNeg x1) 7)) fun q4 => (
grd (x2 = 0 ∨ x2 = 1) (
some ((q4, mup (mup S0 2 (Int32.toNatClampNeg x1) 7 x2) 3 0 8 0)))))))
set_option maxRecDepth 100000 in
set_option maxHeartbeats 4000000 in
theorem c_X3_translation (l : Launch) (g : cx) (n : Nat) (S0 : mem) (sz : Nat) (x1 : Int32) (x2 : Int32) (q : Int32 × mem) (h : f_X3_translation n S0 x1 x2 = some q) : Met l yX3_translation (wsU yX3_translation cX3_translation 4 (some .int)) (rmD 1) (PcW ixC enC g S0 sz [.ref (g.2.2 3 0), .int x1, .int x2]) (QiW ixC enC g sz q.1 q.2) 0 0 (Aw ixC g sz) := by
  refine met_intro (Qc := fun z9 => QiW ixC enC g z9 q.1 q.2) (free := fun z9 => Aw ixC g z9) [.ref (g.2.2 3 0), .int x1, .int x2] RX3 rfl (by decide) (Nat.le_of_ble_eq_true rfl) (fun p e s m args below meth c H locs F hr hlocks B ls hl => ?_)
  have hl : lv_has ls 4 [(0, .ref (g.2.2 3 0)), (1, .int x1), (2, .int x2)] := hl
  have hx := F.1
  have hb := F.2.1
  unfold f_X3_translation at h
  refine lv_iload_n hx hb dX3_translation_0 rfl (lv_at hl 1 rfl) ?_
  obtain ⟨q1, hq1, h⟩ := cal_some h
  refine w_callSi F B (c_X3_isVerse l g n S0 H.size x1 q1 hq1) mC_X3_isVerse mM_X3_59 mN_X3 mT_X3_isVerse ⟨ok_X3_isVerse, by decide⟩ rfl hl.1 rfl (Nat.le_of_ble_eq_true rfl) dX3_translation_1 (fun H locs B => ?_)
  refine lv_if_ne (tgt := 10) hx hb dX3_translation_4 (by decide) (fun c2 => ?_) (fun c2 => ?_)
  · rw [if_neg c2] at h
    refine lv_aload_n hx hb dX3_translation_10 rfl (lv_at hl 0 rfl) ?_
    refine gt_X3_1 F B mF_X3_17 dX3_translation_11 ?_
    refine lv_iload_n hx hb dX3_translation_14 rfl (lv_at hl 1 rfl) ?_
    obtain ⟨z3, h⟩ := grd_some h
    refine al_C5 F B  z3 dX3_translation_15 ?_
    refine gn_X2_7 F B (ltI z3) nF_X3_106 dX3_translation_16 ?_
    obtain ⟨q4, hq4, h⟩ := cal_some h
    refine w_callSi F B (c_X3_asNumber l g n S0 H.size (S0 2 (Int32.toNatClampNeg x1) 7) q4 hq4) mC_X3_asNumber mM_X3_109 mN_X3 mT_X3_asNumber ⟨ok_X3_asNumber, by decide⟩ rfl hl.1 rfl (Nat.le_of_ble_eq_true rfl) dX3_translation_19 (fun H locs B => ?_)
    refine lv_istore_n (lv' := [(3, .int q4), (0, .ref (g.2.2 3 0)), (1, .int x1), (2, .int x2)]) hx hb dX3_translation_22 rfl hl (by decide) rfl (fun ls hl => ?_)
    refine lv_aload_n hx hb dX3_translation_23 rfl (lv_at hl 1 rfl) ?_
    refine gt_X3_1 F B mF_X3_17 dX3_translation_24 ?_
    refine lv_iload_n hx hb dX3_translation_27 rfl (lv_at hl 2 rfl) ?_
    refine al_C5 F B  z3 dX3_translation_28 ?_
    refine lv_iload_n hx hb dX3_translation_29 rfl (lv_at hl 3 rfl) ?_
    obtain ⟨z5, h⟩ := grd_some h
    refine pn_X2_7 F B (ltI z3) z5 nF_X3_106 dX3_translation_30 (fun H locs B => ?_)
    refine lv_aload_n hx hb dX3_translation_33 rfl (lv_at hl 1 rfl) ?_
    refine lv_iconst (v := 0) hx hb dX3_translation_34 (by decide) ?_
    refine pt_X3_8 F B (Or.inl rfl) mF_X3_51 dX3_translation_35 (fun H locs B => ?_)
    refine lv_iload_n hx hb dX3_translation_38 rfl (lv_at hl 0 rfl) ?_
    obtain rfl := Option.some.inj h
    exact w_iret F hr hlocks B dX3_translation_39
  · rw [if_pos c2] at h
    refine lv_ldc (v := -1000001) hx hb F.2.2.2.1 (F.2.2.2.2 _ (wsU_in mK_X3_62)) dX3_translation_7 ?_
    obtain rfl := Option.some.inj h
    exact w_iret F hr hlocks B dX3_translation_9
/-- public int limit(int) -/
def f_X3_limit (n : Nat) (S0 : mem) (x1 : Int32) : Option (Int32 × mem) :=
cal (f_X3_isOutside n S0 x1 100 30000) fun q1 => (
if q1 = 0 then (
some ((S0 3 0 7, mup (mup S0 3 0 7 x1) 3 0 8 0))) else (
some ((-1000002, S0))))
set_option maxRecDepth 100000 in
set_option maxHeartbeats 4000000 in
theorem c_X3_limit (l : Launch) (g : cx) (n : Nat) (S0 : mem) (sz : Nat) (x1 : Int32) (q : Int32 × mem) (h : f_X3_limit n S0 x1 = some q) : Met l yX3_limit (wsU yX3_limit cX3_limit 3 (some .int)) (rmD 1) (PcW ixC enC g S0 sz [.ref (g.2.2 3 0), .int x1]) (QiW ixC enC g sz q.1 q.2) 0 0 (Aw ixC g sz) := by
  refine met_intro (Qc := fun z9 => QiW ixC enC g z9 q.1 q.2) (free := fun z9 => Aw ixC g z9) [.ref (g.2.2 3 0), .int x1] RX3 rfl (by decide) (Nat.le_of_ble_eq_true rfl) (fun p e s m args below meth c H locs F hr hlocks B ls hl => ?_)
  have hl : lv_has ls 3 [(0, .ref (g.2.2 3 0)), (1, .int x1)] := hl
  have hx := F.1
  have hb := F.2.1
  unfold f_X3_limit at h
  refine lv_iload_n hx hb dX3_limit_0 rfl (lv_at hl 1 rfl) ?_
  refine lv_bipush (v := 100) hx hb dX3_limit_1 (by decide) ?_
  refine lv_sipush (v := 30000) hx hb dX3_limit_3 (by decide) ?_
  obtain ⟨q1, hq1, h⟩ := cal_some h
  refine w_callSi F B (c_X3_isOutside l g n S0 H.size x1 100 30000 q1 hq1) mC_X3_isOutside mM_X3_38 mN_X3 mT_X3_isOutside ⟨ok_X3_isOutside, by decide⟩ rfl hl.1 rfl (Nat.le_of_ble_eq_true rfl) dX3_limit_6 (fun H locs B => ?_)
  refine lv_if_eq (tgt := 15) hx hb dX3_limit_9 (by decide) (fun c2 => ?_) (fun c2 => ?_)
  · rw [if_pos c2] at h
    refine lv_aload_n hx hb dX3_limit_15 rfl (lv_at hl 0 rfl) ?_
    refine gt_X3_7 F B mF_X3_32 dX3_limit_16 ?_
    refine lv_istore_n (lv' := [(2, .int (S0 3 0 7)), (0, .ref (g.2.2 3 0)), (1, .int x1)]) hx hb dX3_limit_19 rfl hl (by decide) rfl (fun ls hl => ?_)
    refine lv_aload_n hx hb dX3_limit_20 rfl (lv_at hl 1 rfl) ?_
    refine lv_iload_n hx hb dX3_limit_21 rfl (lv_at hl 2 rfl) ?_
    refine pt_X3_7 F B mF_X3_32 dX3_limit_22 (fun H locs B => ?_)
    refine lv_aload_n hx hb dX3_limit_25 rfl (lv_at hl 1 rfl) ?_
    refine lv_iconst (v := 0) hx hb dX3_limit_26 (by decide) ?_
    refine pt_X3_8 F B (Or.inl rfl) mF_X3_51 dX3_limit_27 (fun H locs B => ?_)
    refine lv_iload_n hx hb dX3_limit_30 rfl (lv_at hl 0 rfl) ?_
    obtain rfl := Option.some.inj h
    exact w_iret F hr hlocks B dX3_limit_31
  · rw [if_neg c2] at h
    refine lv_ldc (v := -1000002) hx hb F.2.2.2.1 (F.2.2.2.2 _ (wsU_in mK_X3_42)) dX3_limit_12 ?_
    obtain rfl := Option.some.inj h
    exact w_iret F hr hlocks B dX3_limit_14
/-- private boolean isTied(int) -/
def f_X2_isTied (n : Nat) (S0 : mem) (i0 : Nat) (x1 : Int32) : Option (Int32) :=
grd (¬ (x1 < 0 ∨ 60 ≤ Int32.toNatClampNeg x1)) (
if (S0 7 i0 (Int32.toNatClampNeg x1)) = 2 then (
some (1)) else (
some (0)))
set_option maxRecDepth 100000 in
set_option maxHeartbeats 4000000 in
theorem c_X2_isTied (l : Launch) (g : cx) (n : Nat) (S0 : mem) (sz : Nat) (i0 : Nat) (hi0 : i0 < 4) (x1 : Int32) (q : Int32) (h : f_X2_isTied n S0 i0 x1 = some q) : Met l yX2_isTied (wsU yX2_isTied cX2_isTied 2 (some .boolean)) (rmD 0) (PcW ixC enC g S0 sz [.ref (g.2.2 2 i0), .int x1]) (QiW ixC enC g sz q S0) 0 0 (Aw ixC g sz) := by
  refine met_intro (Qc := fun z9 => QiW ixC enC g z9 q S0) (free := fun z9 => Aw ixC g z9) [.ref (g.2.2 2 i0), .int x1] RX2 rfl (by decide) (Nat.le_of_ble_eq_true rfl) (fun p e s m args below meth c H locs F hr hlocks B ls hl => ?_)
  have hl : lv_has ls 2 [(0, .ref (g.2.2 2 i0)), (1, .int x1)] := hl
  have hx := F.1
  have hb := F.2.1
  unfold f_X2_isTied at h
  refine lv_aload_n hx hb dX2_isTied_0 rfl (lv_at hl 0 rfl) ?_
  refine gt_X2_0 F B hi0 mF_X2_9 dX2_isTied_1 ?_
  refine lv_iload_n hx hb dX2_isTied_4 rfl (lv_at hl 1 rfl) ?_
  obtain ⟨z1, h⟩ := grd_some h
  refine al_C7 F B (ixC_7 hi0) z1 dX2_isTied_5 ?_
  refine lv_iconst (v := 2) hx hb dX2_isTied_6 (by decide) ?_
  refine lv_icmp_ne (tgt := 14) hx hb dX2_isTied_7 (by decide) (fun c2 => ?_) (fun c2 => ?_)
  · rw [if_neg c2] at h
    refine lv_iconst (v := 0) hx hb dX2_isTied_14 (by decide) ?_
    obtain rfl := Option.some.inj h
    exact w_zret F hr hlocks (Or.inl rfl) B dX2_isTied_15
  · rw [if_pos c2] at h
    refine lv_iconst (v := 1) hx hb dX2_isTied_10 (by decide) ?_
    refine lv_goto (tgt := 15) hx hb dX2_isTied_11 (by decide) ?_
    obtain rfl := Option.some.inj h
    exact w_zret F hr hlocks (Or.inr rfl) B dX2_isTied_15
/-- private int boxWidth(int) -/
def f_X2_boxWidth (n : Nat) (S0 : mem) (i0 : Nat) (x1 : Int32) : Option (Int32) :=
cal (f_X2_isTied n S0 i0 x1) fun q1 => (
if q1 = 0 then (
grd (¬ (2 * x1 < 0 ∨ 120 ≤ Int32.toNatClampNeg (2 * x1))) (
some (S0 8 i0 (Int32.toNatClampNeg (2 * x1))))) else (
grd (¬ (2 * x1 < 0 ∨ 120 ≤ Int32.toNatClampNeg (2 * x1))) (
grd (¬ ((2 * x1) + 1 < 0 ∨ 120 ≤ Int32.toNatClampNeg ((2 * x1) + 1))) (
some (((S0 8 i0 (Int32.toNatClampNeg (2 * x1))) + 5) + (S0 8 i0 (Int32.toNatClampNeg ((2 * x1) + 1))))))))
set_option maxRecDepth 100000 in
set_option maxHeartbeats 4000000 in
theorem c_X2_boxWidth (l : Launch) (g : cx) (n : Nat) (S0 : mem) (sz : Nat) (i0 : Nat) (hi0 : i0 < 4) (x1 : Int32) (q : Int32) (h : f_X2_boxWidth n S0 i0 x1 = some q) : Met l yX2_boxWidth (wsU yX2_boxWidth cX2_boxWidth 3 (some .int)) (rmD 1) (PcW ixC enC g S0 sz [.ref (g.2.2 2 i0), .int x1]) (QiW ixC enC g sz q S0) 0 0 (Aw ixC g sz) := by
  refine met_intro (Qc := fun z9 => QiW ixC enC g z9 q S0) (free := fun z9 => Aw ixC g z9) [.ref (g.2.2 2 i0), .int x1] RX2 rfl (by decide) (Nat.le_of_ble_eq_true rfl) (fun p e s m args below meth c H locs F hr hlocks B ls hl => ?_)
  have hl : lv_has ls 3 [(0, .ref (g.2.2 2 i0)), (1, .int x1)] := hl
  have hx := F.1
  have hb := F.2.1
  unfold f_X2_boxWidth at h
  refine lv_iconst (v := 2) hx hb dX2_boxWidth_0 (by decide) ?_
  refine lv_iload_n hx hb dX2_boxWidth_1 rfl (lv_at hl 1 rfl) ?_
  refine lv_imul hx hb dX2_boxWidth_2 ?_
  refine lv_istore_n (lv' := [(2, .int (2 * x1)), (0, .ref (g.2.2 2 i0)), (1, .int x1)]) hx hb dX2_boxWidth_3 rfl hl (by decide) rfl (fun ls hl => ?_)
  refine lv_aload_n hx hb dX2_boxWidth_4 rfl (lv_at hl 1 rfl) ?_
  refine lv_iload_n hx hb dX2_boxWidth_5 rfl (lv_at hl 2 rfl) ?_
  obtain ⟨q1, hq1, h⟩ := cal_some h
  refine w_callVi F B (c_X2_isTied l g n S0 H.size i0 hi0 x1 q1 hq1) mC_X2_isTied mM_X2_39 mN_X2 mI_X2_isTied mS_X2_isTied (ixC_2 hi0) rfl rfl ⟨ok_X2_isTied, by decide⟩ rfl hl.1 rfl (Nat.le_of_ble_eq_true rfl) dX2_boxWidth_6 (fun H locs B => ?_)
  refine lv_if_eq (tgt := 32) hx hb dX2_boxWidth_9 (by decide) (fun c2 => ?_) (fun c2 => ?_)
  · rw [if_pos c2] at h
    refine lv_aload_n hx hb dX2_boxWidth_32 rfl (lv_at hl 1 rfl) ?_
    refine gt_X2_1 F B hi0 mF_X2_15 dX2_boxWidth_33 ?_
    refine lv_iload_n hx hb dX2_boxWidth_36 rfl (lv_at hl 0 rfl) ?_
    obtain ⟨z3, h⟩ := grd_some h
    refine al_C8 F B (ixC_8 hi0) z3 dX2_boxWidth_37 ?_
    obtain rfl := Option.some.inj h
    exact w_iret F hr hlocks B dX2_boxWidth_38
  · rw [if_neg c2] at h
    refine lv_aload_n hx hb dX2_boxWidth_12 rfl (lv_at hl 1 rfl) ?_
    refine gt_X2_1 F B hi0 mF_X2_15 dX2_boxWidth_13 ?_
    refine lv_iload_n hx hb dX2_boxWidth_16 rfl (lv_at hl 0 rfl) ?_
    obtain ⟨z4, h⟩ := grd_some h
    refine al_C8 F B (ixC_8 hi0) z4 dX2_boxWidth_17 ?_
    refine lv_iconst (v := 5) hx hb dX2_boxWidth_18 (by decide) ?_
    refine lv_iadd hx hb dX2_boxWidth_19 ?_
    refine lv_aload_n hx hb dX2_boxWidth_20 rfl (lv_at hl 1 rfl) ?_
    refine gt_X2_1 F B hi0 mF_X2_15 dX2_boxWidth_21 ?_
    refine lv_iload_n hx hb dX2_boxWidth_24 rfl (lv_at hl 0 rfl) ?_
    refine lv_iconst (v := 1) hx hb dX2_boxWidth_25 (by decide) ?_
    refine lv_iadd hx hb dX2_boxWidth_26 ?_
    obtain ⟨z5, h⟩ := grd_some h
    refine al_C8 F B (ixC_8 hi0) z5 dX2_boxWidth_27 ?_
    refine lv_iadd hx hb dX2_boxWidth_28 ?_
    refine lv_goto (tgt := 38) hx hb dX2_boxWidth_29 (by decide) ?_
    obtain rfl := Option.some.inj h
    exact w_iret F hr hlocks B dX2_boxWidth_38
/-- private int offset(int) -/
def f_X2_offset (n : Nat) (S0 : mem) (i0 : Nat) (x1 : Int32) : Option (Int32) :=
if (S0 2 i0 6) = 0 then (
cal (f_X2_boxWidth n S0 i0 x1) fun q2 => (
some (q2 / 2))) else (
if (S0 2 i0 6) = 1 then (
some (0)) else (
grd (¬ (2 * x1 < 0 ∨ 120 ≤ Int32.toNatClampNeg (2 * x1))) (
some (S0 9 i0 (Int32.toNatClampNeg (2 * x1))))))
set_option maxRecDepth 100000 in
set_option maxHeartbeats 4000000 in
theorem c_X2_offset (l : Launch) (g : cx) (n : Nat) (S0 : mem) (sz : Nat) (i0 : Nat) (hi0 : i0 < 4) (x1 : Int32) (q : Int32) (h : f_X2_offset n S0 i0 x1 = some q) : Met l yX2_offset (wsU yX2_offset cX2_offset 2 (some .int)) (rmD 2) (PcW ixC enC g S0 sz [.ref (g.2.2 2 i0), .int x1]) (QiW ixC enC g sz q S0) 0 0 (Aw ixC g sz) := by
  refine met_intro (Qc := fun z9 => QiW ixC enC g z9 q S0) (free := fun z9 => Aw ixC g z9) [.ref (g.2.2 2 i0), .int x1] RX2 rfl (by decide) (Nat.le_of_ble_eq_true rfl) (fun p e s m args below meth c H locs F hr hlocks B ls hl => ?_)
  have hl : lv_has ls 2 [(0, .ref (g.2.2 2 i0)), (1, .int x1)] := hl
  have hx := F.1
  have hb := F.2.1
  unfold f_X2_offset at h
  refine lv_aload_n hx hb dX2_offset_0 rfl (lv_at hl 0 rfl) ?_
  refine gt_X2_6 F B hi0 mF_X2_28 dX2_offset_1 ?_
  by_cases c1 : (S0 2 i0 6) = 0
  · rw [if_pos c1] at h
    refine lv_lookup (off := 28) (tgt := 32) hx hb dX2_offset_4 (by decide) (by rw [c1]; first | done | rfl) (by decide) ?_
    refine lv_aload_n hx hb dX2_offset_32 rfl (lv_at hl 0 rfl) ?_
    refine lv_iload_n hx hb dX2_offset_33 rfl (lv_at hl 1 rfl) ?_
    obtain ⟨q2, hq2, h⟩ := cal_some h
    refine w_callVi F B (c_X2_boxWidth l g n S0 H.size i0 hi0 x1 q2 hq2) mC_X2_boxWidth mM_X2_43 mN_X2 mI_X2_boxWidth mS_X2_boxWidth (ixC_2 hi0) rfl rfl ⟨ok_X2_boxWidth, by decide⟩ rfl hl.1 rfl (Nat.le_of_ble_eq_true rfl) dX2_offset_34 (fun H locs B => ?_)
    refine lv_iconst (v := 2) hx hb dX2_offset_37 (by decide) ?_
    refine lv_idiv hx hb dX2_offset_38 (by decide) ?_
    obtain rfl := Option.some.inj h
    exact w_iret F hr hlocks B dX2_offset_39
  · rw [if_neg c1] at h
    by_cases c3 : (S0 2 i0 6) = 1
    · rw [if_pos c3] at h
      refine lv_lookup (off := 36) (tgt := 40) hx hb dX2_offset_4 (by decide) (by rw [c3]; first | done | rfl) (by decide) ?_
      refine lv_iconst (v := 0) hx hb dX2_offset_40 (by decide) ?_
      obtain rfl := Option.some.inj h
      exact w_iret F hr hlocks B dX2_offset_41
    · rw [if_neg c3] at h
      refine lv_lookup (off := 38) (tgt := 42) hx hb dX2_offset_4 (by decide) ((lv_osw c1 (by decide)).trans ((lv_osw c3 (by decide)).trans (rfl))) (by decide) ?_
      refine lv_aload_n hx hb dX2_offset_42 rfl (lv_at hl 0 rfl) ?_
      refine gt_X2_2 F B hi0 mF_X2_18 dX2_offset_43 ?_
      refine lv_iconst (v := 2) hx hb dX2_offset_46 (by decide) ?_
      refine lv_iload_n hx hb dX2_offset_47 rfl (lv_at hl 1 rfl) ?_
      refine lv_imul hx hb dX2_offset_48 ?_
      obtain ⟨z4, h⟩ := grd_some h
      refine al_C9 F B (ixC_9 hi0) z4 dX2_offset_49 ?_
      obtain rfl := Option.some.inj h
      exact w_iret F hr hlocks B dX2_offset_50
def b_X3_leastForBoxes_4 (n : Nat) (S0 : mem) (x1 : Int32) : (Int32 × Int32) → Option ((Int32 × Int32) ⊕ (Int32)) := fun w =>
if 4 ≤ w.2 then (
some (.inr (w.1))) else (
grd (¬ (w.2 < 0 ∨ 4 ≤ Int32.toNatClampNeg w.2)) (
cal (f_X2_hasBox n S0 (Int32.toNatClampNeg w.2) x1) fun q3 => (
if q3 = 0 then (
some (.inl (w.1, (w.2 + 1)))) else (
if (S0 2 (Int32.toNatClampNeg w.2) 7) = 0 then (
cal (f_X2_offset n S0 (Int32.toNatClampNeg w.2) x1) fun q6 => (
some (.inl ((if w.1 < ((S0 2 (Int32.toNatClampNeg w.2) 8) + q6) then ((S0 2 (Int32.toNatClampNeg w.2) 8) + q6) else w.1), (w.2 + 1))))) else (
some (.inl (w.1, (w.2 + 1))))))))
/-- private int leastForBoxes(int) -/
def f_X3_leastForBoxes (n : Nat) (S0 : mem) (x1 : Int32) : Option (Int32) :=
lp (b_X3_leastForBoxes_4 n S0 x1) n (0, 0)
set_option maxRecDepth 100000 in
set_option maxHeartbeats 4000000 in
theorem c_X3_leastForBoxes (l : Launch) (g : cx) (n : Nat) (S0 : mem) (sz : Nat) (x1 : Int32) (q : Int32) (h : f_X3_leastForBoxes n S0 x1 = some q) : Met l yX3_leastForBoxes (wsU yX3_leastForBoxes cX3_leastForBoxes 5 (some .int)) (rmD 3) (PcW ixC enC g S0 sz [.ref (g.2.2 3 0), .int x1]) (QiW ixC enC g sz q S0) 0 0 (Aw ixC g sz) := by
  refine met_intro (Qc := fun z9 => QiW ixC enC g z9 q S0) (free := fun z9 => Aw ixC g z9) [.ref (g.2.2 3 0), .int x1] RX3 rfl (by decide) (Nat.le_of_ble_eq_true rfl) (fun p e s m args below meth c H locs F hr hlocks B ls hl => ?_)
  have hl : lv_has ls 5 [(0, .ref (g.2.2 3 0)), (1, .int x1)] := hl
  have hx := F.1
  have hb := F.2.1
  unfold f_X3_leastForBoxes at h
  refine lv_iconst (v := 0) hx hb dX3_leastForBoxes_0 (by decide) ?_
  refine lv_istore_n (lv' := [(2, .int 0), (0, .ref (g.2.2 3 0)), (1, .int x1)]) hx hb dX3_leastForBoxes_1 rfl hl (by decide) rfl (fun ls hl => ?_)
  refine lv_iconst (v := 0) hx hb dX3_leastForBoxes_2 (by decide) ?_
  refine lv_istore_n (lv' := [(3, .int 0), (2, .int 0), (0, .ref (g.2.2 3 0)), (1, .int x1)]) hx hb dX3_leastForBoxes_3 rfl hl (by decide) rfl (fun ls hl => ?_)
  have L4 : ∀ (k4 : Nat) (x1 : Int32) (x2 : Int32) (x3 : Int32), lp (b_X3_leastForBoxes_4 n S0 x1) k4 (x2, x3) = some q → ∀ (H : Heap) (locs : List Loc) (ls : Array Slot), Wd ixC enC g S0 (Aw ixC g s.heap.size) s H locs → lv_has ls 5 [(0, .ref (g.2.2 3 0)), (1, .int x1), (2, .int x2), (3, .int x3)] → W p l e (rmD 3) s m args below meth c H locs 0 0 (MQ below (QiW ixC enC g s.heap.size q S0) args s 0 0 (Aw ixC g s.heap.size)) (F0 m 4 ls []) := by
    intro k4
    induction k4 with
    | zero => intro x1 x2 x3 h; exact (lp_zero h).elim
    | succ k4 ih4 =>
      intro x1 x2 x3 h H locs ls B hl
      obtain ⟨t4, h, ht4⟩ := lp_succ h
      unfold b_X3_leastForBoxes_4 at h
      (try dsimp only at h)
      refine lv_iload_n hx hb dX3_leastForBoxes_4 rfl (lv_at hl 3 rfl) ?_
      refine lv_iconst (v := 4) hx hb dX3_leastForBoxes_5 (by decide) ?_
      refine lv_icmp_ge (tgt := 57) hx hb dX3_leastForBoxes_6 (by decide) (fun c1 => ?_) (fun c1 => ?_)
      · rw [if_pos c1] at h
        refine lv_iload_n hx hb dX3_leastForBoxes_57 rfl (lv_at hl 2 rfl) ?_
        obtain rfl := Option.some.inj h
        obtain rfl := (show _ = q from ht4)
        exact w_iret F hr hlocks B dX3_leastForBoxes_58
      · rw [if_neg c1] at h
        refine lv_aload_n hx hb dX3_leastForBoxes_9 rfl (lv_at hl 0 rfl) ?_
        refine gt_X3_1 F B mF_X3_17 dX3_leastForBoxes_10 ?_
        refine lv_iload_n hx hb dX3_leastForBoxes_13 rfl (lv_at hl 3 rfl) ?_
        obtain ⟨z2, h⟩ := grd_some h
        refine al_C5 F B  z2 dX3_leastForBoxes_14 ?_
        refine lv_astore (lv' := [(4, .ref (g.2.2 2 (Int32.toNatClampNeg x3))), (0, .ref (g.2.2 3 0)), (1, .int x1), (2, .int x2), (3, .int x3)]) hx hb dX3_leastForBoxes_15 hl (by decide) rfl (fun ls hl => ?_)
        refine lv_aload hx hb dX3_leastForBoxes_17 (lv_at hl 0 rfl) ?_
        refine lv_iload_n hx hb dX3_leastForBoxes_19 rfl (lv_at hl 2 rfl) ?_
        obtain ⟨q3, hq3, h⟩ := cal_some h
        refine w_callNi F B (c_X2_hasBox l g n S0 H.size (Int32.toNatClampNeg x3) (ltI z2) x1 q3 hq3) mC_X2_hasBox nM_X3_173 mN_X2 mI_X2_hasBox mS_X2_hasBox (ixC_2 (ltI z2)) rfl rfl ⟨ok_X2_hasBox, by decide⟩ rfl hl.1 rfl (Nat.le_of_ble_eq_true rfl) dX3_leastForBoxes_20 (fun H locs B => ?_)
        refine lv_if_eq (tgt := 51) hx hb dX3_leastForBoxes_23 (by decide) (fun c4 => ?_) (fun c4 => ?_)
        · rw [if_pos c4] at h
          refine lv_iinc (v := x3 + 1) (lv' := [(3, .int (x3 + 1)), (4, .ref (g.2.2 2 (Int32.toNatClampNeg x3))), (0, .ref (g.2.2 3 0)), (1, .int x1), (2, .int x2)]) hx hb dX3_leastForBoxes_51 hl (k := 4) rfl rfl (by decide) rfl (fun ls hl => ?_)
          refine lv_goto (tgt := 4) hx hb dX3_leastForBoxes_54 (by decide) ?_
          obtain rfl := Option.some.inj h
          exact ih4 x1 x2 (x3 + 1) ht4 H locs ls B (lv_sub hl [2, 3, 4, 0] rfl)
        · rw [if_neg c4] at h
          refine lv_aload hx hb dX3_leastForBoxes_26 (lv_at hl 0 rfl) ?_
          refine gn_X2_7 F B (ltI z2) nF_X3_106 dX3_leastForBoxes_28 ?_
          refine lv_if_ne (tgt := 51) hx hb dX3_leastForBoxes_31 (by decide) (fun c5 => ?_) (fun c5 => ?_)
          · rw [if_neg c5] at h
            refine lv_iinc (v := x3 + 1) (lv' := [(3, .int (x3 + 1)), (4, .ref (g.2.2 2 (Int32.toNatClampNeg x3))), (0, .ref (g.2.2 3 0)), (1, .int x1), (2, .int x2)]) hx hb dX3_leastForBoxes_51 hl (k := 4) rfl rfl (by decide) rfl (fun ls hl => ?_)
            refine lv_goto (tgt := 4) hx hb dX3_leastForBoxes_54 (by decide) ?_
            obtain rfl := Option.some.inj h
            exact ih4 x1 x2 (x3 + 1) ht4 H locs ls B (lv_sub hl [2, 3, 4, 0] rfl)
          · rw [if_pos c5] at h
            refine lv_iload_n hx hb dX3_leastForBoxes_34 rfl (lv_at hl 3 rfl) ?_
            refine lv_aload hx hb dX3_leastForBoxes_35 (lv_at hl 0 rfl) ?_
            refine gn_X2_8 F B (ltI z2) nF_X3_239 dX3_leastForBoxes_37 ?_
            refine lv_aload hx hb dX3_leastForBoxes_40 (lv_at hl 0 rfl) ?_
            refine lv_iload_n hx hb dX3_leastForBoxes_42 rfl (lv_at hl 2 rfl) ?_
            obtain ⟨q6, hq6, h⟩ := cal_some h
            refine w_callNi F B (c_X2_offset l g n S0 H.size (Int32.toNatClampNeg x3) (ltI z2) x1 q6 hq6) mC_X2_offset nM_X3_257 mN_X2 mI_X2_offset mS_X2_offset (ixC_2 (ltI z2)) rfl rfl ⟨ok_X2_offset, by decide⟩ rfl hl.1 rfl (Nat.le_of_ble_eq_true rfl) dX3_leastForBoxes_43 (fun H locs B => ?_)
            refine lv_iadd hx hb dX3_leastForBoxes_46 ?_
            refine w_mmax F hl.1 mM_X3_117 (by decide) (Nat.le_of_ble_eq_true rfl) dX3_leastForBoxes_47 ?_
            refine lv_istore_n (lv' := [(2, .int (if x2 < ((S0 2 (Int32.toNatClampNeg x3) 8) + q6) then ((S0 2 (Int32.toNatClampNeg x3) 8) + q6) else x2)), (4, .ref (g.2.2 2 (Int32.toNatClampNeg x3))), (0, .ref (g.2.2 3 0)), (1, .int x1), (3, .int x3)]) hx hb dX3_leastForBoxes_50 rfl hl (by decide) rfl (fun ls hl => ?_)
            refine lv_iinc (v := x3 + 1) (lv' := [(3, .int (x3 + 1)), (2, .int (if x2 < ((S0 2 (Int32.toNatClampNeg x3) 8) + q6) then ((S0 2 (Int32.toNatClampNeg x3) 8) + q6) else x2)), (4, .ref (g.2.2 2 (Int32.toNatClampNeg x3))), (0, .ref (g.2.2 3 0)), (1, .int x1)]) hx hb dX3_leastForBoxes_51 hl (k := 4) rfl rfl (by decide) rfl (fun ls hl => ?_)
            refine lv_goto (tgt := 4) hx hb dX3_leastForBoxes_54 (by decide) ?_
            obtain rfl := Option.some.inj h
            exact ih4 x1 (if x2 < ((S0 2 (Int32.toNatClampNeg x3) 8) + q6) then ((S0 2 (Int32.toNatClampNeg x3) 8) + q6) else x2) (x3 + 1) ht4 H locs ls B (lv_sub hl [3, 4, 1, 0] rfl)
  exact L4 n x1 0 0 h H locs ls B (lv_sub hl [2, 3, 1, 0] rfl)
/-- private int boxEnd(int) -/
def f_X2_boxEnd (n : Nat) (S0 : mem) (i0 : Nat) (x1 : Int32) : Option (Int32) :=
grd (¬ (x1 < 0 ∨ 60 ≤ Int32.toNatClampNeg x1)) (
cal (f_X2_boxWidth n S0 i0 x1) fun q2 => (
some ((S0 11 i0 (Int32.toNatClampNeg x1)) + q2)))
set_option maxRecDepth 100000 in
set_option maxHeartbeats 4000000 in
theorem c_X2_boxEnd (l : Launch) (g : cx) (n : Nat) (S0 : mem) (sz : Nat) (i0 : Nat) (hi0 : i0 < 4) (x1 : Int32) (q : Int32) (h : f_X2_boxEnd n S0 i0 x1 = some q) : Met l yX2_boxEnd (wsU yX2_boxEnd cX2_boxEnd 2 (some .int)) (rmD 2) (PcW ixC enC g S0 sz [.ref (g.2.2 2 i0), .int x1]) (QiW ixC enC g sz q S0) 0 0 (Aw ixC g sz) := by
  refine met_intro (Qc := fun z9 => QiW ixC enC g z9 q S0) (free := fun z9 => Aw ixC g z9) [.ref (g.2.2 2 i0), .int x1] RX2 rfl (by decide) (Nat.le_of_ble_eq_true rfl) (fun p e s m args below meth c H locs F hr hlocks B ls hl => ?_)
  have hl : lv_has ls 2 [(0, .ref (g.2.2 2 i0)), (1, .int x1)] := hl
  have hx := F.1
  have hb := F.2.1
  unfold f_X2_boxEnd at h
  refine lv_aload_n hx hb dX2_boxEnd_0 rfl (lv_at hl 0 rfl) ?_
  refine gt_X2_4 F B hi0 mF_X2_25 dX2_boxEnd_1 ?_
  refine lv_iload_n hx hb dX2_boxEnd_4 rfl (lv_at hl 1 rfl) ?_
  obtain ⟨z1, h⟩ := grd_some h
  refine al_C11 F B (ixC_11 hi0) z1 dX2_boxEnd_5 ?_
  refine lv_aload_n hx hb dX2_boxEnd_6 rfl (lv_at hl 0 rfl) ?_
  refine lv_iload_n hx hb dX2_boxEnd_7 rfl (lv_at hl 1 rfl) ?_
  obtain ⟨q2, hq2, h⟩ := cal_some h
  refine w_callVi F B (c_X2_boxWidth l g n S0 H.size i0 hi0 x1 q2 hq2) mC_X2_boxWidth mM_X2_43 mN_X2 mI_X2_boxWidth mS_X2_boxWidth (ixC_2 hi0) rfl rfl ⟨ok_X2_boxWidth, by decide⟩ rfl hl.1 rfl (Nat.le_of_ble_eq_true rfl) dX2_boxEnd_8 (fun H locs B => ?_)
  refine lv_iadd hx hb dX2_boxEnd_11 ?_
  obtain rfl := Option.some.inj h
  exact w_iret F hr hlocks B dX2_boxEnd_12
/-- private boolean isGoingOn(int) -/
def f_X2_isGoingOn (n : Nat) (S0 : mem) (i0 : Nat) (x1 : Int32) : Option (Int32) :=
cal (f_X2_isTied n S0 i0 x1) fun q1 => (
if q1 = 0 then (
grd (¬ (2 * x1 < 0 ∨ 120 ≤ Int32.toNatClampNeg (2 * x1))) (
grd ((S0 10 i0 (Int32.toNatClampNeg (2 * x1))) = 0 ∨ (S0 10 i0 (Int32.toNatClampNeg (2 * x1))) = 1) (some (S0 10 i0 (Int32.toNatClampNeg (2 * x1)))))) else (
grd (¬ ((2 * x1) + 1 < 0 ∨ 120 ≤ Int32.toNatClampNeg ((2 * x1) + 1))) (
grd ((S0 10 i0 (Int32.toNatClampNeg ((2 * x1) + 1))) = 0 ∨ (S0 10 i0 (Int32.toNatClampNeg ((2 * x1) + 1))) = 1) (some (S0 10 i0 (Int32.toNatClampNeg ((2 * x1) + 1)))))))
set_option maxRecDepth 100000 in
set_option maxHeartbeats 4000000 in
theorem c_X2_isGoingOn (l : Launch) (g : cx) (n : Nat) (S0 : mem) (sz : Nat) (i0 : Nat) (hi0 : i0 < 4) (x1 : Int32) (q : Int32) (h : f_X2_isGoingOn n S0 i0 x1 = some q) : Met l yX2_isGoingOn (wsU yX2_isGoingOn cX2_isGoingOn 3 (some .boolean)) (rmD 1) (PcW ixC enC g S0 sz [.ref (g.2.2 2 i0), .int x1]) (QiW ixC enC g sz q S0) 0 0 (Aw ixC g sz) := by
  refine met_intro (Qc := fun z9 => QiW ixC enC g z9 q S0) (free := fun z9 => Aw ixC g z9) [.ref (g.2.2 2 i0), .int x1] RX2 rfl (by decide) (Nat.le_of_ble_eq_true rfl) (fun p e s m args below meth c H locs F hr hlocks B ls hl => ?_)
  have hl : lv_has ls 3 [(0, .ref (g.2.2 2 i0)), (1, .int x1)] := hl
  have hx := F.1
  have hb := F.2.1
  unfold f_X2_isGoingOn at h
  refine lv_iconst (v := 2) hx hb dX2_isGoingOn_0 (by decide) ?_
  refine lv_iload_n hx hb dX2_isGoingOn_1 rfl (lv_at hl 1 rfl) ?_
  refine lv_imul hx hb dX2_isGoingOn_2 ?_
  refine lv_istore_n (lv' := [(2, .int (2 * x1)), (0, .ref (g.2.2 2 i0)), (1, .int x1)]) hx hb dX2_isGoingOn_3 rfl hl (by decide) rfl (fun ls hl => ?_)
  refine lv_aload_n hx hb dX2_isGoingOn_4 rfl (lv_at hl 1 rfl) ?_
  refine lv_iload_n hx hb dX2_isGoingOn_5 rfl (lv_at hl 2 rfl) ?_
  obtain ⟨q1, hq1, h⟩ := cal_some h
  refine w_callVi F B (c_X2_isTied l g n S0 H.size i0 hi0 x1 q1 hq1) mC_X2_isTied mM_X2_39 mN_X2 mI_X2_isTied mS_X2_isTied (ixC_2 hi0) rfl rfl ⟨ok_X2_isTied, by decide⟩ rfl hl.1 rfl (Nat.le_of_ble_eq_true rfl) dX2_isGoingOn_6 (fun H locs B => ?_)
  refine lv_if_eq (tgt := 23) hx hb dX2_isGoingOn_9 (by decide) (fun c2 => ?_) (fun c2 => ?_)
  · rw [if_pos c2] at h
    refine lv_aload_n hx hb dX2_isGoingOn_23 rfl (lv_at hl 1 rfl) ?_
    refine gt_X2_3 F B hi0 mF_X2_21 dX2_isGoingOn_24 ?_
    refine lv_iload_n hx hb dX2_isGoingOn_27 rfl (lv_at hl 0 rfl) ?_
    obtain ⟨z3, h⟩ := grd_some h
    refine al_C10 F B (ixC_10 hi0) z3 dX2_isGoingOn_28 ?_
    obtain ⟨z4, h⟩ := grd_some h
    obtain rfl := Option.some.inj h
    exact w_zret F hr hlocks z4 B dX2_isGoingOn_29
  · rw [if_neg c2] at h
    refine lv_aload_n hx hb dX2_isGoingOn_12 rfl (lv_at hl 1 rfl) ?_
    refine gt_X2_3 F B hi0 mF_X2_21 dX2_isGoingOn_13 ?_
    refine lv_iload_n hx hb dX2_isGoingOn_16 rfl (lv_at hl 0 rfl) ?_
    refine lv_iconst (v := 1) hx hb dX2_isGoingOn_17 (by decide) ?_
    refine lv_iadd hx hb dX2_isGoingOn_18 ?_
    obtain ⟨z5, h⟩ := grd_some h
    refine al_C10 F B (ixC_10 hi0) z5 dX2_isGoingOn_19 ?_
    refine lv_goto (tgt := 29) hx hb dX2_isGoingOn_20 (by decide) ?_
    obtain ⟨z6, h⟩ := grd_some h
    obtain rfl := Option.some.inj h
    exact w_zret F hr hlocks z6 B dX2_isGoingOn_29
/-- private int placeBox(int, int) -/
def f_X2_placeBox (n : Nat) (S0 : mem) (i0 : Nat) (x1 : Int32) (x2 : Int32) : Option (Int32 × mem) :=
cal (f_X2_offset n S0 i0 x1) fun q1 => (
grd (¬ (x1 < 0 ∨ 60 ≤ Int32.toNatClampNeg x1)) (
cal (f_X2_boxEnd n (mup S0 11 i0 (Int32.toNatClampNeg x1) (if (S0 2 i0 8) < (x2 - q1) then (x2 - q1) else (S0 2 i0 8))) i0 x1) fun q3 => (
cal (f_X2_isGoingOn n (mup S0 11 i0 (Int32.toNatClampNeg x1) (if (S0 2 i0 8) < (x2 - q1) then (x2 - q1) else (S0 2 i0 8))) i0 x1) fun q4 => (
if q4 = 0 then (
some ((q3, mup (mup S0 11 i0 (Int32.toNatClampNeg x1) (if (S0 2 i0 8) < (x2 - q1) then (x2 - q1) else (S0 2 i0 8))) 2 i0 8 (q3 + 12)))) else (
some ((q3, mup (mup S0 11 i0 (Int32.toNatClampNeg x1) (if (S0 2 i0 8) < (x2 - q1) then (x2 - q1) else (S0 2 i0 8))) 2 i0 8 (q3 + 4))))))))
set_option maxRecDepth 100000 in
set_option maxHeartbeats 4000000 in
theorem c_X2_placeBox (l : Launch) (g : cx) (n : Nat) (S0 : mem) (sz : Nat) (i0 : Nat) (hi0 : i0 < 4) (x1 : Int32) (x2 : Int32) (q : Int32 × mem) (h : f_X2_placeBox n S0 i0 x1 x2 = some q) : Met l yX2_placeBox (wsU yX2_placeBox cX2_placeBox 4 (some .int)) (rmD 3) (PcW ixC enC g S0 sz [.ref (g.2.2 2 i0), .int x1, .int x2]) (QiW ixC enC g sz q.1 q.2) 0 0 (Aw ixC g sz) := by
  refine met_intro (Qc := fun z9 => QiW ixC enC g z9 q.1 q.2) (free := fun z9 => Aw ixC g z9) [.ref (g.2.2 2 i0), .int x1, .int x2] RX2 rfl (by decide) (Nat.le_of_ble_eq_true rfl) (fun p e s m args below meth c H locs F hr hlocks B ls hl => ?_)
  have hl : lv_has ls 4 [(0, .ref (g.2.2 2 i0)), (1, .int x1), (2, .int x2)] := hl
  have hx := F.1
  have hb := F.2.1
  unfold f_X2_placeBox at h
  refine lv_aload_n hx hb dX2_placeBox_0 rfl (lv_at hl 0 rfl) ?_
  refine gt_X2_4 F B hi0 mF_X2_25 dX2_placeBox_1 ?_
  refine lv_iload_n hx hb dX2_placeBox_4 rfl (lv_at hl 1 rfl) ?_
  refine lv_aload_n hx hb dX2_placeBox_5 rfl (lv_at hl 0 rfl) ?_
  refine gt_X2_8 F B hi0 mF_X2_47 dX2_placeBox_6 ?_
  refine lv_iload_n hx hb dX2_placeBox_9 rfl (lv_at hl 2 rfl) ?_
  refine lv_aload_n hx hb dX2_placeBox_10 rfl (lv_at hl 0 rfl) ?_
  refine lv_iload_n hx hb dX2_placeBox_11 rfl (lv_at hl 1 rfl) ?_
  obtain ⟨q1, hq1, h⟩ := cal_some h
  refine w_callVi F B (c_X2_offset l g n S0 H.size i0 hi0 x1 q1 hq1) mC_X2_offset mM_X2_50 mN_X2 mI_X2_offset mS_X2_offset (ixC_2 hi0) rfl rfl ⟨ok_X2_offset, by decide⟩ rfl hl.1 rfl (Nat.le_of_ble_eq_true rfl) dX2_placeBox_12 (fun H locs B => ?_)
  refine lv_isub hx hb dX2_placeBox_15 ?_
  refine w_mmax F hl.1 mM_X2_53 (by decide) (Nat.le_of_ble_eq_true rfl) dX2_placeBox_16 ?_
  obtain ⟨z2, h⟩ := grd_some h
  refine as_C11 F B (ixC_11 hi0) z2 dX2_placeBox_19 (fun H locs B => ?_)
  refine lv_aload_n hx hb dX2_placeBox_20 rfl (lv_at hl 0 rfl) ?_
  refine lv_iload_n hx hb dX2_placeBox_21 rfl (lv_at hl 1 rfl) ?_
  obtain ⟨q3, hq3, h⟩ := cal_some h
  refine w_callVi F B (c_X2_boxEnd l g n (mup S0 11 i0 (Int32.toNatClampNeg x1) (if (S0 2 i0 8) < (x2 - q1) then (x2 - q1) else (S0 2 i0 8))) H.size i0 hi0 x1 q3 hq3) mC_X2_boxEnd mM_X2_59 mN_X2 mI_X2_boxEnd mS_X2_boxEnd (ixC_2 hi0) rfl rfl ⟨ok_X2_boxEnd, by decide⟩ rfl hl.1 rfl (Nat.le_of_ble_eq_true rfl) dX2_placeBox_22 (fun H locs B => ?_)
  refine lv_istore_n (lv' := [(3, .int q3), (0, .ref (g.2.2 2 i0)), (1, .int x1), (2, .int x2)]) hx hb dX2_placeBox_25 rfl hl (by decide) rfl (fun ls hl => ?_)
  refine lv_aload_n hx hb dX2_placeBox_26 rfl (lv_at hl 1 rfl) ?_
  refine lv_iload_n hx hb dX2_placeBox_27 rfl (lv_at hl 0 rfl) ?_
  refine lv_aload_n hx hb dX2_placeBox_28 rfl (lv_at hl 1 rfl) ?_
  refine lv_iload_n hx hb dX2_placeBox_29 rfl (lv_at hl 2 rfl) ?_
  obtain ⟨q4, hq4, h⟩ := cal_some h
  refine w_callVi F B (c_X2_isGoingOn l g n (mup S0 11 i0 (Int32.toNatClampNeg x1) (if (S0 2 i0 8) < (x2 - q1) then (x2 - q1) else (S0 2 i0 8))) H.size i0 hi0 x1 q4 hq4) mC_X2_isGoingOn mM_X2_62 mN_X2 mI_X2_isGoingOn mS_X2_isGoingOn (ixC_2 hi0) rfl rfl ⟨ok_X2_isGoingOn, by decide⟩ rfl hl.1 rfl (Nat.le_of_ble_eq_true rfl) dX2_placeBox_30 (fun H locs B => ?_)
  refine lv_if_eq (tgt := 40) hx hb dX2_placeBox_33 (by decide) (fun c5 => ?_) (fun c5 => ?_)
  · rw [if_pos c5] at h
    refine lv_bipush (v := 12) hx hb dX2_placeBox_40 (by decide) ?_
    refine lv_iadd hx hb dX2_placeBox_42 ?_
    refine pt_X2_8 F B hi0 mF_X2_47 dX2_placeBox_43 (fun H locs B => ?_)
    refine lv_iload_n hx hb dX2_placeBox_46 rfl (lv_at hl 0 rfl) ?_
    obtain rfl := Option.some.inj h
    exact w_iret F hr hlocks B dX2_placeBox_47
  · rw [if_neg c5] at h
    refine lv_iconst (v := 4) hx hb dX2_placeBox_36 (by decide) ?_
    refine lv_goto (tgt := 42) hx hb dX2_placeBox_37 (by decide) ?_
    refine lv_iadd hx hb dX2_placeBox_42 ?_
    refine pt_X2_8 F B hi0 mF_X2_47 dX2_placeBox_43 (fun H locs B => ?_)
    refine lv_iload_n hx hb dX2_placeBox_46 rfl (lv_at hl 0 rfl) ?_
    obtain rfl := Option.some.inj h
    exact w_iret F hr hlocks B dX2_placeBox_47
