def b_X4_strain_47 (n : Nat) (S : mem) : (Int32 × Int32) → Option ((Int32 × Int32) ⊕ (Int32 × mem)) := fun w =>
if (S 0 0 1) ≤ w.2 then (
grd (¬ ((S 0 0 1) - 1 < 0 ∨ 60 ≤ Int32.toNatClampNeg ((S 0 0 1) - 1))) (
grd (¬ (Int32.toInt64 (S 19 0 (Int32.toNatClampNeg ((S 0 0 1) - 1)))) = 0) (
some (.inr ((Int64.toInt32 ((1000 * (Int32.toInt64 w.1)) / (Int32.toInt64 (S 19 0 (Int32.toNatClampNeg ((S 0 0 1) - 1))))), S)))))) else (
grd (¬ (w.2 < 0 ∨ 60 ≤ Int32.toNatClampNeg w.2)) (
cal (f_X4_alone n S w.2) fun q9 => (
some (.inl ((w.1 + ((S 19 0 (Int32.toNatClampNeg w.2)) - q9)), (w.2 + 1))))))
/-- public int strain() -/
def f_X4_strain (n : Nat) (S0 : mem) : Option (Int32 × mem) :=
if (S0 0 0 18) = 0 then (
some ((-1000003, mup S0 0 0 0 0))) else (
if (S0 0 0 1) = 0 then (
some ((0, mup (mup S0 0 0 0 0) 0 0 0 1))) else (
grd (¬ ((S0 0 0 1) - 1 < 0 ∨ 60 ≤ Int32.toNatClampNeg ((S0 0 0 1) - 1))) (
if (S0 19 0 (Int32.toNatClampNeg ((S0 0 0 1) - 1))) = 0 then (
some ((0, mup (mup S0 0 0 0 0) 0 0 0 1))) else (
lp (b_X4_strain_47 n (mup S0 0 0 0 0)) n (0, 0)))))
set_option maxRecDepth 100000 in
set_option maxHeartbeats 4000000 in
theorem c_X4_strain (l : Launch) (g : cx) (n : Nat) (S0 : mem) (sz : Nat)  (q : Int32 × mem) (h : f_X4_strain n S0 = some q) : Met l yX4_strain (wsU yX4_strain cX4_strain 3 (some .int)) (rmD 1) (PcW ixM enM g S0 sz [.ref (g.2.2 0 0)]) (QiW ixM enM g sz q.1 q.2) 0 0 (Aw ixM g sz) := by
  refine met_intro (Qc := fun z9 => QiW ixM enM g z9 q.1 q.2) (free := fun z9 => Aw ixM g z9) [.ref (g.2.2 0 0)] RX4 rfl (by decide) (Nat.le_of_ble_eq_true rfl) (fun p e s m args below meth c H locs F hr hlocks B ls hl => ?_)
  have hl : lv_has ls 3 [(0, .ref (g.2.2 0 0))] := hl
  have hx := F.1
  have hb := F.2.1
  unfold f_X4_strain at h
  refine lv_aload_n hx hb dX4_strain_0 rfl (lv_at hl 0 rfl) ?_
  refine lv_iconst (v := 0) hx hb dX4_strain_1 (by decide) ?_
  refine pt_X4_0 F B mF_X4_1 dX4_strain_2 (fun H locs B => ?_)
  refine lv_aload_n hx hb dX4_strain_5 rfl (lv_at hl 0 rfl) ?_
  refine gt_X4_18 F B mF_X4_19 dX4_strain_6 ?_
  refine w_cv (S0 0 0 18) (mup_j (by decide)) ?_
  refine lv_if_ne (tgt := 15) hx hb dX4_strain_9 (by decide) (fun c1 => ?_) (fun c1 => ?_)
  · rw [if_neg c1] at h
    refine lv_aload_n hx hb dX4_strain_15 rfl (lv_at hl 0 rfl) ?_
    refine gt_X4_1 F B mF_X4_7 dX4_strain_16 ?_
    refine w_cv (S0 0 0 1) (mup_j (by decide)) ?_
    refine lv_if_eq (tgt := 36) hx hb dX4_strain_19 (by decide) (fun c2 => ?_) (fun c2 => ?_)
    · rw [if_pos c2] at h
      refine lv_aload_n hx hb dX4_strain_36 rfl (lv_at hl 0 rfl) ?_
      refine lv_iconst (v := 1) hx hb dX4_strain_37 (by decide) ?_
      refine pt_X4_0 F B mF_X4_1 dX4_strain_38 (fun H locs B => ?_)
      refine lv_iconst (v := 0) hx hb dX4_strain_41 (by decide) ?_
      obtain rfl := Option.some.inj h
      exact w_iret F hr hlocks B dX4_strain_42
    · rw [if_neg c2] at h
      refine lv_aload_n hx hb dX4_strain_22 rfl (lv_at hl 0 rfl) ?_
      refine gt_X4_19 F B mF_X4_85 dX4_strain_23 ?_
      refine lv_aload_n hx hb dX4_strain_26 rfl (lv_at hl 0 rfl) ?_
      refine gt_X4_1 F B mF_X4_7 dX4_strain_27 ?_
      refine w_cv (S0 0 0 1) (mup_j (by decide)) ?_
      refine lv_iconst (v := 1) hx hb dX4_strain_30 (by decide) ?_
      refine lv_isub hx hb dX4_strain_31 ?_
      obtain ⟨z3, h⟩ := grd_some h
      refine al_M19 F B  z3 dX4_strain_32 ?_
      refine w_cv (S0 19 0 (Int32.toNatClampNeg ((S0 0 0 1) - 1))) (mup_k (by decide)) ?_
      refine lv_if_ne (tgt := 43) hx hb dX4_strain_33 (by decide) (fun c4 => ?_) (fun c4 => ?_)
      · rw [if_neg c4] at h
        refine lv_iconst (v := 0) hx hb dX4_strain_43 (by decide) ?_
        refine lv_istore_n (lv' := [(1, .int 0), (0, .ref (g.2.2 0 0))]) hx hb dX4_strain_44 rfl hl (by decide) rfl (fun ls hl => ?_)
        refine lv_iconst (v := 0) hx hb dX4_strain_45 (by decide) ?_
        refine lv_istore_n (lv' := [(2, .int 0), (1, .int 0), (0, .ref (g.2.2 0 0))]) hx hb dX4_strain_46 rfl hl (by decide) rfl (fun ls hl => ?_)
        have L47 : ∀ (k47 : Nat) (S : mem) (x1 : Int32) (x2 : Int32), lp (b_X4_strain_47 n S) k47 (x1, x2) = some q → ∀ (H : Heap) (locs : List Loc) (ls : Array Slot), Wd ixM enM g S (Aw ixM g s.heap.size) s H locs → lv_has ls 3 [(0, .ref (g.2.2 0 0)), (1, .int x1), (2, .int x2)] → W p l e (rmD 1) s m args below meth c H locs 0 0 (MQ below (QiW ixM enM g s.heap.size q.1 q.2) args s 0 0 (Aw ixM g s.heap.size)) (F0 m 47 ls []) := by
          intro k47
          induction k47 with
          | zero => intro S x1 x2 h; exact (lp_zero h).elim
          | succ k47 ih47 =>
            intro S x1 x2 h H locs ls B hl
            obtain ⟨t47, h, ht47⟩ := lp_succ h
            unfold b_X4_strain_47 at h
            (try dsimp only at h)
            refine lv_iload_n hx hb dX4_strain_47 rfl (lv_at hl 2 rfl) ?_
            refine lv_aload_n hx hb dX4_strain_48 rfl (lv_at hl 0 rfl) ?_
            refine gt_X4_1 F B mF_X4_7 dX4_strain_49 ?_
            refine lv_icmp_ge (tgt := 76) hx hb dX4_strain_52 (by decide) (fun c5 => ?_) (fun c5 => ?_)
            · rw [if_pos c5] at h
              refine lv_ldc2 (v := 1000) hx hb F.2.2.2.1 (F.2.2.2.2 _ (wsU_in mKL_X4_178)) dX4_strain_76 ?_
              refine lv_iload_n hx hb dX4_strain_79 rfl (lv_at hl 1 rfl) ?_
              refine lv_i2l hx hb dX4_strain_80 rfl ?_
              refine lv_lmul hx hb dX4_strain_81 ?_
              refine lv_aload_n hx hb dX4_strain_82 rfl (lv_at hl 0 rfl) ?_
              refine gt_X4_19 F B mF_X4_85 dX4_strain_83 ?_
              refine lv_aload_n hx hb dX4_strain_86 rfl (lv_at hl 0 rfl) ?_
              refine gt_X4_1 F B mF_X4_7 dX4_strain_87 ?_
              refine lv_iconst (v := 1) hx hb dX4_strain_90 (by decide) ?_
              refine lv_isub hx hb dX4_strain_91 ?_
              obtain ⟨z6, h⟩ := grd_some h
              refine al_M19 F B  z6 dX4_strain_92 ?_
              refine lv_i2l hx hb dX4_strain_93 rfl ?_
              obtain ⟨z7, h⟩ := grd_some h
              refine lv_ldiv hx hb dX4_strain_94 z7 ?_
              refine lv_l2i hx hb dX4_strain_95 rfl ?_
              obtain rfl := Option.some.inj h
              obtain rfl := (show _ = q from ht47)
              exact w_iret F hr hlocks B dX4_strain_96
            · rw [if_neg c5] at h
              refine lv_iload_n hx hb dX4_strain_55 rfl (lv_at hl 1 rfl) ?_
              refine lv_aload_n hx hb dX4_strain_56 rfl (lv_at hl 0 rfl) ?_
              refine gt_X4_19 F B mF_X4_85 dX4_strain_57 ?_
              refine lv_iload_n hx hb dX4_strain_60 rfl (lv_at hl 2 rfl) ?_
              obtain ⟨z8, h⟩ := grd_some h
              refine al_M19 F B  z8 dX4_strain_61 ?_
              refine lv_aload_n hx hb dX4_strain_62 rfl (lv_at hl 0 rfl) ?_
              refine lv_iload_n hx hb dX4_strain_63 rfl (lv_at hl 2 rfl) ?_
              obtain ⟨q9, hq9, h⟩ := cal_some h
              refine w_callVi F B (c_X4_alone l g n S H.size x2 q9 hq9) mC_X4_alone mM_X4_149 mN_X4 mI_X4_alone mS_X4_alone ixM_0 rfl rfl ⟨ok_X4_alone, by decide⟩ rfl hl.1 rfl (Nat.le_of_ble_eq_true rfl) dX4_strain_64 (fun H locs B => ?_)
              refine lv_isub hx hb dX4_strain_67 ?_
              refine lv_iadd hx hb dX4_strain_68 ?_
              refine lv_istore_n (lv' := [(1, .int (x1 + ((S 19 0 (Int32.toNatClampNeg x2)) - q9))), (0, .ref (g.2.2 0 0)), (2, .int x2)]) hx hb dX4_strain_69 rfl hl (by decide) rfl (fun ls hl => ?_)
              refine lv_iinc (v := x2 + 1) (lv' := [(2, .int (x2 + 1)), (1, .int (x1 + ((S 19 0 (Int32.toNatClampNeg x2)) - q9))), (0, .ref (g.2.2 0 0))]) hx hb dX4_strain_70 hl (k := 2) rfl rfl (by decide) rfl (fun ls hl => ?_)
              refine lv_goto (tgt := 47) hx hb dX4_strain_73 (by decide) ?_
              obtain rfl := Option.some.inj h
              exact ih47 S (x1 + ((S 19 0 (Int32.toNatClampNeg x2)) - q9)) (x2 + 1) ht47 H locs ls B (lv_sub hl [2, 1, 0] rfl)
        exact L47 n (mup S0 0 0 0 0) 0 0 h H locs ls B (lv_sub hl [2, 1, 0] rfl)
      · rw [if_pos c4] at h
        refine lv_aload_n hx hb dX4_strain_36 rfl (lv_at hl 0 rfl) ?_
        refine lv_iconst (v := 1) hx hb dX4_strain_37 (by decide) ?_
        refine pt_X4_0 F B mF_X4_1 dX4_strain_38 (fun H locs B => ?_)
        refine lv_iconst (v := 0) hx hb dX4_strain_41 (by decide) ?_
        obtain rfl := Option.some.inj h
        exact w_iret F hr hlocks B dX4_strain_42
  · rw [if_pos c1] at h
    refine lv_ldc (v := -1000003) hx hb F.2.2.2.1 (F.2.2.2.2 _ (wsU_in mK_X4_127)) dX4_strain_12 ?_
    obtain rfl := Option.some.inj h
    exact w_iret F hr hlocks B dX4_strain_14
def j_X4_hasBoxes_25 (n : Nat) (S0 : mem) (x1 : Int32) (x3 : Int32) : Option ((Int32 × Int32) ⊕ (Int32)) :=
some (.inl (1, (x3 + 1)))
def b_X4_hasBoxes_4 (n : Nat) (S0 : mem) (x1 : Int32) : (Int32 × Int32) → Option ((Int32 × Int32) ⊕ (Int32)) := fun w =>
if (S0 0 0 1) ≤ w.2 then (
grd (w.1 = 0 ∨ w.1 = 1) (some (.inr (w.1)))) else (
if w.1 = 0 then (
cal (f_X4_isBox n S0 w.2 x1) fun q4 => (
if q4 = 0 then (
some (.inl (0, (w.2 + 1)))) else (
j_X4_hasBoxes_25 n S0 x1 w.2))) else (
j_X4_hasBoxes_25 n S0 x1 w.2))
/-- private boolean hasBoxes(int) -/
def f_X4_hasBoxes (n : Nat) (S0 : mem) (x1 : Int32) : Option (Int32) :=
lp (b_X4_hasBoxes_4 n S0 x1) n (0, 0)
set_option maxRecDepth 100000 in
set_option maxHeartbeats 4000000 in
theorem c_X4_hasBoxes (l : Launch) (g : cx) (n : Nat) (S0 : mem) (sz : Nat) (x1 : Int32) (q : Int32) (h : f_X4_hasBoxes n S0 x1 = some q) : Met l yX4_hasBoxes (wsU yX4_hasBoxes cX4_hasBoxes 4 (some .boolean)) (rmD 1) (PcW ixM enM g S0 sz [.ref (g.2.2 0 0), .int x1]) (QiW ixM enM g sz q S0) 0 0 (Aw ixM g sz) := by
  refine met_intro (Qc := fun z9 => QiW ixM enM g z9 q S0) (free := fun z9 => Aw ixM g z9) [.ref (g.2.2 0 0), .int x1] RX4 rfl (by decide) (Nat.le_of_ble_eq_true rfl) (fun p e s m args below meth c H locs F hr hlocks B ls hl => ?_)
  have hl : lv_has ls 4 [(0, .ref (g.2.2 0 0)), (1, .int x1)] := hl
  have hx := F.1
  have hb := F.2.1
  unfold f_X4_hasBoxes at h
  refine lv_iconst (v := 0) hx hb dX4_hasBoxes_0 (by decide) ?_
  refine lv_istore_n (lv' := [(2, .int 0), (0, .ref (g.2.2 0 0)), (1, .int x1)]) hx hb dX4_hasBoxes_1 rfl hl (by decide) rfl (fun ls hl => ?_)
  refine lv_iconst (v := 0) hx hb dX4_hasBoxes_2 (by decide) ?_
  refine lv_istore_n (lv' := [(3, .int 0), (2, .int 0), (0, .ref (g.2.2 0 0)), (1, .int x1)]) hx hb dX4_hasBoxes_3 rfl hl (by decide) rfl (fun ls hl => ?_)
  have L4 : ∀ (k4 : Nat) (x1 : Int32) (x2 : Int32) (x3 : Int32), lp (b_X4_hasBoxes_4 n S0 x1) k4 (x2, x3) = some q → ∀ (H : Heap) (locs : List Loc) (ls : Array Slot), Wd ixM enM g S0 (Aw ixM g s.heap.size) s H locs → lv_has ls 4 [(0, .ref (g.2.2 0 0)), (1, .int x1), (2, .int x2), (3, .int x3)] → W p l e (rmD 1) s m args below meth c H locs 0 0 (MQ below (QiW ixM enM g s.heap.size q S0) args s 0 0 (Aw ixM g s.heap.size)) (F0 m 4 ls []) := by
    intro k4
    induction k4 with
    | zero => intro x1 x2 x3 h; exact (lp_zero h).elim
    | succ k4 ih4 =>
      intro x1 x2 x3 h H locs ls B hl
      obtain ⟨t4, h, ht4⟩ := lp_succ h
      unfold b_X4_hasBoxes_4 at h
      (try dsimp only at h)
      refine lv_iload_n hx hb dX4_hasBoxes_4 rfl (lv_at hl 3 rfl) ?_
      refine lv_aload_n hx hb dX4_hasBoxes_5 rfl (lv_at hl 0 rfl) ?_
      refine gt_X4_1 F B mF_X4_7 dX4_hasBoxes_6 ?_
      refine lv_icmp_ge (tgt := 37) hx hb dX4_hasBoxes_9 (by decide) (fun c1 => ?_) (fun c1 => ?_)
      · rw [if_pos c1] at h
        refine lv_iload_n hx hb dX4_hasBoxes_37 rfl (lv_at hl 2 rfl) ?_
        obtain ⟨z2, h⟩ := grd_some h
        obtain rfl := Option.some.inj h
        obtain rfl := (show _ = q from ht4)
        exact w_zret F hr hlocks z2 B dX4_hasBoxes_38
      · rw [if_neg c1] at h
        refine lv_iload_n hx hb dX4_hasBoxes_12 rfl (lv_at hl 2 rfl) ?_
        have J25 : ∀ (x3 : Int32), j_X4_hasBoxes_25 n S0 x1 x3 = some t4 → ∀ (H : Heap) (locs : List Loc) (ls : Array Slot), Wd ixM enM g S0 (Aw ixM g s.heap.size) s H locs → lv_has ls 4 [(0, .ref (g.2.2 0 0)), (1, .int x1), (3, .int x3)] → W p l e (rmD 1) s m args below meth c H locs 0 0 (MQ below (QiW ixM enM g s.heap.size q S0) args s 0 0 (Aw ixM g s.heap.size)) (F0 m 25 ls []) := by
          intro x3 h H locs ls B hl
          unfold j_X4_hasBoxes_25 at h
          refine lv_iconst (v := 1) hx hb dX4_hasBoxes_25 (by decide) ?_
          refine lv_goto (tgt := 30) hx hb dX4_hasBoxes_26 (by decide) ?_
          refine lv_istore_n (lv' := [(2, .int 1), (0, .ref (g.2.2 0 0)), (1, .int x1), (3, .int x3)]) hx hb dX4_hasBoxes_30 rfl hl (by decide) rfl (fun ls hl => ?_)
          refine lv_iinc (v := x3 + 1) (lv' := [(3, .int (x3 + 1)), (2, .int 1), (0, .ref (g.2.2 0 0)), (1, .int x1)]) hx hb dX4_hasBoxes_31 hl (k := 3) rfl rfl (by decide) rfl (fun ls hl => ?_)
          refine lv_goto (tgt := 4) hx hb dX4_hasBoxes_34 (by decide) ?_
          obtain rfl := Option.some.inj h
          exact ih4 x1 1 (x3 + 1) ht4 H locs ls B (lv_sub hl [2, 3, 1, 0] rfl)
        refine lv_if_ne (tgt := 25) hx hb dX4_hasBoxes_13 (by decide) (fun c3 => ?_) (fun c3 => ?_)
        · rw [if_neg c3] at h
          exact J25 x3 h H locs ls B (lv_sub hl [0, 1, 3] rfl)
        · rw [if_pos c3] at h
          refine lv_aload_n hx hb dX4_hasBoxes_16 rfl (lv_at hl 0 rfl) ?_
          refine lv_iload_n hx hb dX4_hasBoxes_17 rfl (lv_at hl 3 rfl) ?_
          refine lv_iload_n hx hb dX4_hasBoxes_18 rfl (lv_at hl 1 rfl) ?_
          obtain ⟨q4, hq4, h⟩ := cal_some h
          refine w_callVi F B (c_X4_isBox l g n S0 H.size x3 x1 q4 hq4) mC_X4_isBox mM_X4_135 mN_X4 mI_X4_isBox mS_X4_isBox ixM_0 rfl rfl ⟨ok_X4_isBox, by decide⟩ rfl hl.1 rfl (Nat.le_of_ble_eq_true rfl) dX4_hasBoxes_19 (fun H locs B => ?_)
          refine lv_if_eq (tgt := 29) hx hb dX4_hasBoxes_22 (by decide) (fun c5 => ?_) (fun c5 => ?_)
          · rw [if_pos c5] at h
            refine lv_iconst (v := 0) hx hb dX4_hasBoxes_29 (by decide) ?_
            refine lv_istore_n (lv' := [(2, .int 0), (0, .ref (g.2.2 0 0)), (1, .int x1), (3, .int x3)]) hx hb dX4_hasBoxes_30 rfl hl (by decide) rfl (fun ls hl => ?_)
            refine lv_iinc (v := x3 + 1) (lv' := [(3, .int (x3 + 1)), (2, .int 0), (0, .ref (g.2.2 0 0)), (1, .int x1)]) hx hb dX4_hasBoxes_31 hl (k := 3) rfl rfl (by decide) rfl (fun ls hl => ?_)
            refine lv_goto (tgt := 4) hx hb dX4_hasBoxes_34 (by decide) ?_
            obtain rfl := Option.some.inj h
            exact ih4 x1 0 (x3 + 1) ht4 H locs ls B (lv_sub hl [2, 3, 1, 0] rfl)
          · rw [if_neg c5] at h
            exact J25 x3 h H locs ls B (lv_sub hl [0, 1, 3] rfl)
  exact L4 n x1 0 0 h H locs ls B (lv_sub hl [2, 3, 1, 0] rfl)
def j_X4_faultAt_82 (n : Nat) (S0 : mem) (x1 : Int32) (y0 : Int32) : Option (Int32) :=
if y0 = 0 then (
cal (f_X4_hasBoxes n S0 x1) fun q5 => (
if q5 = 0 then (
some (0)) else (
some (1)))) else (
some (0))
def j_X4_faultAt_68 (n : Nat) (S0 : mem) (x1 : Int32) : Option (Int32) :=
grd (¬ (x1 < 0 ∨ 4 ≤ Int32.toNatClampNeg x1)) (
if (S0 16 0 (Int32.toNatClampNeg x1)) = 0 then (
j_X4_faultAt_82 n S0 x1 0) else (
j_X4_faultAt_82 n S0 x1 1))
/-- private int faultAt(int, int) -/
def f_X4_faultAt (n : Nat) (S0 : mem) (x1 : Int32) (x2 : Int32) : Option (Int32) :=
cal (f_X4_isBox n S0 x2 x1) fun q1 => (
if q1 = 0 then (
grd (¬ (x2 < 0 ∨ 60 ≤ Int32.toNatClampNeg x2)) (
if (S0 4 0 (Int32.toNatClampNeg x2)) = 0 then (
cal (f_X4_isBehindFirst n S0 x2) fun q8 => (
if q8 = 0 then (
if x1 ≤ 0 then (
j_X4_faultAt_68 n S0 x1) else (
if (S0 8 0 (Int32.toNatClampNeg x2)) = (-1000009) then (
j_X4_faultAt_68 n S0 x1) else (
j_X4_faultAt_82 n S0 x1 1))) else (
j_X4_faultAt_82 n S0 x1 1))) else (
j_X4_faultAt_82 n S0 x1 1))) else (
cal (f_X4_goesOn n S0 x2 x1) fun q14 => (
if q14 = 0 then (
some (0)) else (
cal (f_X4_other n S0 x2 x1 1) fun q16 => (
if q16 = (-1000009) then (
some (2)) else (
some (0)))))))
set_option maxRecDepth 100000 in
set_option maxHeartbeats 4000000 in
theorem c_X4_faultAt (l : Launch) (g : cx) (n : Nat) (S0 : mem) (sz : Nat) (x1 : Int32) (x2 : Int32) (q : Int32) (h : f_X4_faultAt n S0 x1 x2 = some q) : Met l yX4_faultAt (wsU yX4_faultAt cX4_faultAt 4 (some .int)) (rmD 2) (PcW ixM enM g S0 sz [.ref (g.2.2 0 0), .int x1, .int x2]) (QiW ixM enM g sz q S0) 0 0 (Aw ixM g sz) := by
  refine met_intro (Qc := fun z9 => QiW ixM enM g z9 q S0) (free := fun z9 => Aw ixM g z9) [.ref (g.2.2 0 0), .int x1, .int x2] RX4 rfl (by decide) (Nat.le_of_ble_eq_true rfl) (fun p e s m args below meth c H locs F hr hlocks B ls hl => ?_)
  have hl : lv_has ls 4 [(0, .ref (g.2.2 0 0)), (1, .int x1), (2, .int x2)] := hl
  have hx := F.1
  have hb := F.2.1
  unfold f_X4_faultAt at h
  refine lv_aload_n hx hb dX4_faultAt_0 rfl (lv_at hl 0 rfl) ?_
  refine lv_iload_n hx hb dX4_faultAt_1 rfl (lv_at hl 2 rfl) ?_
  refine lv_iload_n hx hb dX4_faultAt_2 rfl (lv_at hl 1 rfl) ?_
  obtain ⟨q1, hq1, h⟩ := cal_some h
  refine w_callVi F B (c_X4_isBox l g n S0 H.size x2 x1 q1 hq1) mC_X4_isBox mM_X4_135 mN_X4 mI_X4_isBox mS_X4_isBox ixM_0 rfl rfl ⟨ok_X4_isBox, by decide⟩ rfl hl.1 rfl (Nat.le_of_ble_eq_true rfl) dX4_faultAt_3 (fun H locs B => ?_)
  refine lv_if_eq (tgt := 36) hx hb dX4_faultAt_6 (by decide) (fun c2 => ?_) (fun c2 => ?_)
  · rw [if_pos c2] at h
    refine lv_aload_n hx hb dX4_faultAt_36 rfl (lv_at hl 0 rfl) ?_
    refine gt_X4_4 F B mF_X4_58 dX4_faultAt_37 ?_
    refine lv_iload_n hx hb dX4_faultAt_40 rfl (lv_at hl 2 rfl) ?_
    obtain ⟨z3, h⟩ := grd_some h
    refine al_M4 F B  z3 dX4_faultAt_41 ?_
    have J82 : ∀ (x1 : Int32) (y0 : Int32), j_X4_faultAt_82 n S0 x1 y0 = some q → ∀ (H : Heap) (locs : List Loc) (ls : Array Slot), Wd ixM enM g S0 (Aw ixM g s.heap.size) s H locs → lv_has ls 4 [(0, .ref (g.2.2 0 0)), (1, .int x1)] → W p l e (rmD 2) s m args below meth c H locs 0 0 (MQ below (QiW ixM enM g s.heap.size q S0) args s 0 0 (Aw ixM g s.heap.size)) (F0 m 82 ls [.int y0]) := by
      intro x1 y0 h H locs ls B hl
      unfold j_X4_faultAt_82 at h
      refine lv_istore_n (lv' := [(3, .int y0), (0, .ref (g.2.2 0 0)), (1, .int x1)]) hx hb dX4_faultAt_82 rfl hl (by decide) rfl (fun ls hl => ?_)
      refine lv_iload_n hx hb dX4_faultAt_83 rfl (lv_at hl 0 rfl) ?_
      refine lv_if_ne (tgt := 95) hx hb dX4_faultAt_84 (by decide) (fun c4 => ?_) (fun c4 => ?_)
      · rw [if_neg c4] at h
        refine lv_iconst (v := 0) hx hb dX4_faultAt_95 (by decide) ?_
        refine lv_goto (tgt := 100) hx hb dX4_faultAt_96 (by decide) ?_
        obtain rfl := Option.some.inj h
        exact w_iret F hr hlocks B dX4_faultAt_100
      · rw [if_pos c4] at h
        refine lv_aload_n hx hb dX4_faultAt_87 rfl (lv_at hl 1 rfl) ?_
        refine lv_iload_n hx hb dX4_faultAt_88 rfl (lv_at hl 2 rfl) ?_
        obtain ⟨q5, hq5, h⟩ := cal_some h
        refine w_callVi F B (c_X4_hasBoxes l g n S0 H.size x1 q5 hq5) mC_X4_hasBoxes mM_X4_180 mN_X4 mI_X4_hasBoxes mS_X4_hasBoxes ixM_0 rfl rfl ⟨ok_X4_hasBoxes, by decide⟩ rfl hl.1 rfl (Nat.le_of_ble_eq_true rfl) dX4_faultAt_89 (fun H locs B => ?_)
        refine lv_if_ne (tgt := 99) hx hb dX4_faultAt_92 (by decide) (fun c6 => ?_) (fun c6 => ?_)
        · rw [if_neg c6] at h
          refine lv_iconst (v := 1) hx hb dX4_faultAt_99 (by decide) ?_
          obtain rfl := Option.some.inj h
          exact w_iret F hr hlocks B dX4_faultAt_100
        · rw [if_pos c6] at h
          refine lv_iconst (v := 0) hx hb dX4_faultAt_95 (by decide) ?_
          refine lv_goto (tgt := 100) hx hb dX4_faultAt_96 (by decide) ?_
          obtain rfl := Option.some.inj h
          exact w_iret F hr hlocks B dX4_faultAt_100
    refine lv_if_ne (tgt := 77) hx hb dX4_faultAt_42 (by decide) (fun c7 => ?_) (fun c7 => ?_)
    · rw [if_neg c7] at h
      refine lv_iconst (v := 1) hx hb dX4_faultAt_77 (by decide) ?_
      refine lv_goto (tgt := 82) hx hb dX4_faultAt_78 (by decide) ?_
      exact J82 x1 1 h H locs ls B (lv_sub hl [0, 1] rfl)
    · rw [if_pos c7] at h
      refine lv_aload_n hx hb dX4_faultAt_45 rfl (lv_at hl 0 rfl) ?_
      refine lv_iload_n hx hb dX4_faultAt_46 rfl (lv_at hl 2 rfl) ?_
      obtain ⟨q8, hq8, h⟩ := cal_some h
      refine w_callVi F B (c_X4_isBehindFirst l g n S0 H.size x2 q8 hq8) mC_X4_isBehindFirst mM_X4_124 mN_X4 mI_X4_isBehindFirst mS_X4_isBehindFirst ixM_0 rfl rfl ⟨ok_X4_isBehindFirst, by decide⟩ rfl hl.1 rfl (Nat.le_of_ble_eq_true rfl) dX4_faultAt_47 (fun H locs B => ?_)
      refine lv_if_ne (tgt := 77) hx hb dX4_faultAt_50 (by decide) (fun c9 => ?_) (fun c9 => ?_)
      · rw [if_neg c9] at h
        refine lv_iconst (v := 1) hx hb dX4_faultAt_77 (by decide) ?_
        refine lv_goto (tgt := 82) hx hb dX4_faultAt_78 (by decide) ?_
        exact J82 x1 1 h H locs ls B (lv_sub hl [0, 1] rfl)
      · rw [if_pos c9] at h
        refine lv_iload_n hx hb dX4_faultAt_53 rfl (lv_at hl 1 rfl) ?_
        have J68 : ∀ (x1 : Int32), j_X4_faultAt_68 n S0 x1 = some q → ∀ (H : Heap) (locs : List Loc) (ls : Array Slot), Wd ixM enM g S0 (Aw ixM g s.heap.size) s H locs → lv_has ls 4 [(0, .ref (g.2.2 0 0)), (1, .int x1)] → W p l e (rmD 2) s m args below meth c H locs 0 0 (MQ below (QiW ixM enM g s.heap.size q S0) args s 0 0 (Aw ixM g s.heap.size)) (F0 m 68 ls []) := by
          intro x1 h H locs ls B hl
          unfold j_X4_faultAt_68 at h
          refine lv_aload_n hx hb dX4_faultAt_68 rfl (lv_at hl 0 rfl) ?_
          refine gt_X4_16 F B mF_X4_42 dX4_faultAt_69 ?_
          refine lv_iload_n hx hb dX4_faultAt_72 rfl (lv_at hl 1 rfl) ?_
          obtain ⟨z10, h⟩ := grd_some h
          refine al_M16 F B  z10 dX4_faultAt_73 ?_
          refine lv_if_eq (tgt := 81) hx hb dX4_faultAt_74 (by decide) (fun c11 => ?_) (fun c11 => ?_)
          · rw [if_pos c11] at h
            refine lv_iconst (v := 0) hx hb dX4_faultAt_81 (by decide) ?_
            exact J82 x1 0 h H locs ls B (lv_sub hl [0, 1] rfl)
          · rw [if_neg c11] at h
            refine lv_iconst (v := 1) hx hb dX4_faultAt_77 (by decide) ?_
            refine lv_goto (tgt := 82) hx hb dX4_faultAt_78 (by decide) ?_
            exact J82 x1 1 h H locs ls B (lv_sub hl [0, 1] rfl)
        refine lv_if_le (tgt := 68) hx hb dX4_faultAt_54 (by decide) (fun c12 => ?_) (fun c12 => ?_)
        · rw [if_pos c12] at h
          exact J68 x1 h H locs ls B (lv_sub hl [0, 1] rfl)
        · rw [if_neg c12] at h
          refine lv_aload_n hx hb dX4_faultAt_57 rfl (lv_at hl 0 rfl) ?_
          refine gt_X4_8 F B mF_X4_70 dX4_faultAt_58 ?_
          refine lv_iload_n hx hb dX4_faultAt_61 rfl (lv_at hl 2 rfl) ?_
          refine al_M8 F B  z3 dX4_faultAt_62 ?_
          refine lv_ldc (v := -1000009) hx hb F.2.2.2.1 (F.2.2.2.2 _ (wsU_in mK_X4_115)) dX4_faultAt_63 ?_
          refine lv_icmp_ne (tgt := 77) hx hb dX4_faultAt_65 (by decide) (fun c13 => ?_) (fun c13 => ?_)
          · rw [if_neg c13] at h
            refine lv_iconst (v := 1) hx hb dX4_faultAt_77 (by decide) ?_
            refine lv_goto (tgt := 82) hx hb dX4_faultAt_78 (by decide) ?_
            exact J82 x1 1 h H locs ls B (lv_sub hl [0, 1] rfl)
          · rw [if_pos c13] at h
            exact J68 x1 h H locs ls B (lv_sub hl [0, 1] rfl)
  · rw [if_neg c2] at h
    refine lv_aload_n hx hb dX4_faultAt_9 rfl (lv_at hl 0 rfl) ?_
    refine lv_iload_n hx hb dX4_faultAt_10 rfl (lv_at hl 2 rfl) ?_
    refine lv_iload_n hx hb dX4_faultAt_11 rfl (lv_at hl 1 rfl) ?_
    obtain ⟨q14, hq14, h⟩ := cal_some h
    refine w_callVi F B (c_X4_goesOn l g n S0 H.size x2 x1 q14 hq14) mC_X4_goesOn mM_X4_146 mN_X4 mI_X4_goesOn mS_X4_goesOn ixM_0 rfl rfl ⟨ok_X4_goesOn, by decide⟩ rfl hl.1 rfl (Nat.le_of_ble_eq_true rfl) dX4_faultAt_12 (fun H locs B => ?_)
    refine lv_if_eq (tgt := 34) hx hb dX4_faultAt_15 (by decide) (fun c15 => ?_) (fun c15 => ?_)
    · rw [if_pos c15] at h
      refine lv_iconst (v := 0) hx hb dX4_faultAt_34 (by decide) ?_
      obtain rfl := Option.some.inj h
      exact w_iret F hr hlocks B dX4_faultAt_35
    · rw [if_neg c15] at h
      refine lv_aload_n hx hb dX4_faultAt_18 rfl (lv_at hl 0 rfl) ?_
      refine lv_iload_n hx hb dX4_faultAt_19 rfl (lv_at hl 2 rfl) ?_
      refine lv_iload_n hx hb dX4_faultAt_20 rfl (lv_at hl 1 rfl) ?_
      refine lv_iconst (v := 1) hx hb dX4_faultAt_21 (by decide) ?_
      obtain ⟨q16, hq16, h⟩ := cal_some h
      refine w_callVi F B (c_X4_other l g n S0 H.size x2 x1 1 q16 hq16) mC_X4_other mM_X4_139 mN_X4 mI_X4_other mS_X4_other ixM_0 rfl rfl ⟨ok_X4_other, by decide⟩ rfl hl.1 rfl (Nat.le_of_ble_eq_true rfl) dX4_faultAt_22 (fun H locs B => ?_)
      refine lv_ldc (v := -1000009) hx hb F.2.2.2.1 (F.2.2.2.2 _ (wsU_in mK_X4_115)) dX4_faultAt_25 ?_
      refine lv_icmp_ne (tgt := 34) hx hb dX4_faultAt_27 (by decide) (fun c17 => ?_) (fun c17 => ?_)
      · rw [if_neg c17] at h
        refine lv_iconst (v := 0) hx hb dX4_faultAt_34 (by decide) ?_
        obtain rfl := Option.some.inj h
        exact w_iret F hr hlocks B dX4_faultAt_35
      · rw [if_pos c17] at h
        refine lv_iconst (v := 2) hx hb dX4_faultAt_30 (by decide) ?_
        refine lv_goto (tgt := 35) hx hb dX4_faultAt_31 (by decide) ?_
        obtain rfl := Option.some.inj h
        exact w_iret F hr hlocks B dX4_faultAt_35
def b_X4_faults_16 (n : Nat) (S : mem) (x2 : Int32) : (Int32 × Int32) → Option ((Int32 × Int32) ⊕ ((Int32 × Int32) ⊕ (Int32 × mem))) := fun w =>
if (S 0 0 1) ≤ w.2 then (
some (.inr (.inl (w.1, (x2 + 1))))) else (
cal (f_X4_faultAt n S x2 w.2) fun q3 => (
if q3 ≤ 0 then (
some (.inl ((w.1 + 0), (w.2 + 1)))) else (
some (.inl ((w.1 + 1), (w.2 + 1))))))
def b_X4_faults_9 (n : Nat) (S : mem) : (Int32 × Int32) → Option ((Int32 × Int32) ⊕ (Int32 × mem)) := fun w =>
if 4 ≤ w.2 then (
some (.inr ((w.1, S)))) else (
lp (b_X4_faults_16 n S w.2) n (w.1, 0))
/-- public int faults() -/
def f_X4_faults (n : Nat) (S0 : mem) : Option (Int32 × mem) :=
lp (b_X4_faults_9 n (mup S0 0 0 0 0)) n (0, 0)
set_option maxRecDepth 100000 in
set_option maxHeartbeats 4000000 in
theorem c_X4_faults (l : Launch) (g : cx) (n : Nat) (S0 : mem) (sz : Nat)  (q : Int32 × mem) (h : f_X4_faults n S0 = some q) : Met l yX4_faults (wsU yX4_faults cX4_faults 4 (some .int)) (rmD 3) (PcW ixM enM g S0 sz [.ref (g.2.2 0 0)]) (QiW ixM enM g sz q.1 q.2) 0 0 (Aw ixM g sz) := by
  refine met_intro (Qc := fun z9 => QiW ixM enM g z9 q.1 q.2) (free := fun z9 => Aw ixM g z9) [.ref (g.2.2 0 0)] RX4 rfl (by decide) (Nat.le_of_ble_eq_true rfl) (fun p e s m args below meth c H locs F hr hlocks B ls hl => ?_)
  have hl : lv_has ls 4 [(0, .ref (g.2.2 0 0))] := hl
  have hx := F.1
  have hb := F.2.1
  unfold f_X4_faults at h
  refine lv_aload_n hx hb dX4_faults_0 rfl (lv_at hl 0 rfl) ?_
  refine lv_iconst (v := 0) hx hb dX4_faults_1 (by decide) ?_
  refine pt_X4_0 F B mF_X4_1 dX4_faults_2 (fun H locs B => ?_)
  refine lv_iconst (v := 0) hx hb dX4_faults_5 (by decide) ?_
  refine lv_istore_n (lv' := [(1, .int 0), (0, .ref (g.2.2 0 0))]) hx hb dX4_faults_6 rfl hl (by decide) rfl (fun ls hl => ?_)
  refine lv_iconst (v := 0) hx hb dX4_faults_7 (by decide) ?_
  refine lv_istore_n (lv' := [(2, .int 0), (1, .int 0), (0, .ref (g.2.2 0 0))]) hx hb dX4_faults_8 rfl hl (by decide) rfl (fun ls hl => ?_)
  have L9 : ∀ (k9 : Nat) (S : mem) (x1 : Int32) (x2 : Int32), lp (b_X4_faults_9 n S) k9 (x1, x2) = some q → ∀ (H : Heap) (locs : List Loc) (ls : Array Slot), Wd ixM enM g S (Aw ixM g s.heap.size) s H locs → lv_has ls 4 [(0, .ref (g.2.2 0 0)), (1, .int x1), (2, .int x2)] → W p l e (rmD 3) s m args below meth c H locs 0 0 (MQ below (QiW ixM enM g s.heap.size q.1 q.2) args s 0 0 (Aw ixM g s.heap.size)) (F0 m 9 ls []) := by
    intro k9
    induction k9 with
    | zero => intro S x1 x2 h; exact (lp_zero h).elim
    | succ k9 ih9 =>
      intro S x1 x2 h H locs ls B hl
      obtain ⟨t9, h, ht9⟩ := lp_succ h
      unfold b_X4_faults_9 at h
      (try dsimp only at h)
      refine lv_iload_n hx hb dX4_faults_9 rfl (lv_at hl 2 rfl) ?_
      refine lv_iconst (v := 4) hx hb dX4_faults_10 (by decide) ?_
      refine lv_icmp_ge (tgt := 53) hx hb dX4_faults_11 (by decide) (fun c1 => ?_) (fun c1 => ?_)
      · rw [if_pos c1] at h
        refine lv_iload_n hx hb dX4_faults_53 rfl (lv_at hl 1 rfl) ?_
        obtain rfl := Option.some.inj h
        obtain rfl := (show _ = q from ht9)
        exact w_iret F hr hlocks B dX4_faults_54
      · rw [if_neg c1] at h
        refine lv_iconst (v := 0) hx hb dX4_faults_14 (by decide) ?_
        refine lv_istore_n (lv' := [(3, .int 0), (0, .ref (g.2.2 0 0)), (1, .int x1), (2, .int x2)]) hx hb dX4_faults_15 rfl hl (by decide) rfl (fun ls hl => ?_)
        have L16 : ∀ (k16 : Nat) (x2 : Int32) (x1 : Int32) (x3 : Int32), lp (b_X4_faults_16 n S x2) k16 (x1, x3) = some t9 → ∀ (H : Heap) (locs : List Loc) (ls : Array Slot), Wd ixM enM g S (Aw ixM g s.heap.size) s H locs → lv_has ls 4 [(0, .ref (g.2.2 0 0)), (1, .int x1), (2, .int x2), (3, .int x3)] → W p l e (rmD 3) s m args below meth c H locs 0 0 (MQ below (QiW ixM enM g s.heap.size q.1 q.2) args s 0 0 (Aw ixM g s.heap.size)) (F0 m 16 ls []) := by
          intro k16
          induction k16 with
          | zero => intro x2 x1 x3 h; exact (lp_zero h).elim
          | succ k16 ih16 =>
            intro x2 x1 x3 h H locs ls B hl
            obtain ⟨t16, h, ht16⟩ := lp_succ h
            unfold b_X4_faults_16 at h
            (try dsimp only at h)
            refine lv_iload_n hx hb dX4_faults_16 rfl (lv_at hl 3 rfl) ?_
            refine lv_aload_n hx hb dX4_faults_17 rfl (lv_at hl 0 rfl) ?_
            refine gt_X4_1 F B mF_X4_7 dX4_faults_18 ?_
            refine lv_icmp_ge (tgt := 47) hx hb dX4_faults_21 (by decide) (fun c2 => ?_) (fun c2 => ?_)
            · rw [if_pos c2] at h
              refine lv_iinc (v := x2 + 1) (lv' := [(2, .int (x2 + 1)), (0, .ref (g.2.2 0 0)), (1, .int x1), (3, .int x3)]) hx hb dX4_faults_47 hl (k := 2) rfl rfl (by decide) rfl (fun ls hl => ?_)
              refine lv_goto (tgt := 9) hx hb dX4_faults_50 (by decide) ?_
              obtain rfl := Option.some.inj h
              obtain rfl := (show _ = t9 from ht16)
              exact ih9 S x1 (x2 + 1) ht9 H locs ls B (lv_sub hl [1, 2, 0] rfl)
            · rw [if_neg c2] at h
              refine lv_iload_n hx hb dX4_faults_24 rfl (lv_at hl 1 rfl) ?_
              refine lv_aload_n hx hb dX4_faults_25 rfl (lv_at hl 0 rfl) ?_
              refine lv_iload_n hx hb dX4_faults_26 rfl (lv_at hl 2 rfl) ?_
              refine lv_iload_n hx hb dX4_faults_27 rfl (lv_at hl 3 rfl) ?_
              obtain ⟨q3, hq3, h⟩ := cal_some h
              refine w_callVi F B (c_X4_faultAt l g n S H.size x2 x3 q3 hq3) mC_X4_faultAt mM_X4_183 mN_X4 mI_X4_faultAt mS_X4_faultAt ixM_0 rfl rfl ⟨ok_X4_faultAt, by decide⟩ rfl hl.1 rfl (Nat.le_of_ble_eq_true rfl) dX4_faults_28 (fun H locs B => ?_)
              refine lv_if_le (tgt := 38) hx hb dX4_faults_31 (by decide) (fun c4 => ?_) (fun c4 => ?_)
              · rw [if_pos c4] at h
                refine lv_iconst (v := 0) hx hb dX4_faults_38 (by decide) ?_
                refine lv_iadd hx hb dX4_faults_39 ?_
                refine lv_istore_n (lv' := [(1, .int (x1 + 0)), (0, .ref (g.2.2 0 0)), (2, .int x2), (3, .int x3)]) hx hb dX4_faults_40 rfl hl (by decide) rfl (fun ls hl => ?_)
                refine lv_iinc (v := x3 + 1) (lv' := [(3, .int (x3 + 1)), (1, .int (x1 + 0)), (0, .ref (g.2.2 0 0)), (2, .int x2)]) hx hb dX4_faults_41 hl (k := 3) rfl rfl (by decide) rfl (fun ls hl => ?_)
                refine lv_goto (tgt := 16) hx hb dX4_faults_44 (by decide) ?_
                obtain rfl := Option.some.inj h
                exact ih16 x2 (x1 + 0) (x3 + 1) ht16 H locs ls B (lv_sub hl [2, 1, 3, 0] rfl)
              · rw [if_neg c4] at h
                refine lv_iconst (v := 1) hx hb dX4_faults_34 (by decide) ?_
                refine lv_goto (tgt := 39) hx hb dX4_faults_35 (by decide) ?_
                refine lv_iadd hx hb dX4_faults_39 ?_
                refine lv_istore_n (lv' := [(1, .int (x1 + 1)), (0, .ref (g.2.2 0 0)), (2, .int x2), (3, .int x3)]) hx hb dX4_faults_40 rfl hl (by decide) rfl (fun ls hl => ?_)
                refine lv_iinc (v := x3 + 1) (lv' := [(3, .int (x3 + 1)), (1, .int (x1 + 1)), (0, .ref (g.2.2 0 0)), (2, .int x2)]) hx hb dX4_faults_41 hl (k := 3) rfl rfl (by decide) rfl (fun ls hl => ?_)
                refine lv_goto (tgt := 16) hx hb dX4_faults_44 (by decide) ?_
                obtain rfl := Option.some.inj h
                exact ih16 x2 (x1 + 1) (x3 + 1) ht16 H locs ls B (lv_sub hl [2, 1, 3, 0] rfl)
        exact L16 n x2 x1 0 h H locs ls B (lv_sub hl [1, 2, 3, 0] rfl)
  exact L9 n (mup S0 0 0 0 0) 0 0 h H locs ls B (lv_sub hl [2, 1, 0] rfl)
def j_X4_fault_62 (n : Nat) (S : mem) (x2 : Int32) (x3 : Int32) (x4 : Int32) : Option ((Int32 × Int32) ⊕ (Int32 × mem)) :=
grd (¬ (S 0 0 1) = 0) (
grd (¬ (S 0 0 1) = 0) (
cal (f_X4_faultAt n S (x4 / (S 0 0 1)) (x4 - x4 / (S 0 0 1) * (S 0 0 1))) fun q11 => (
if q11 ≤ 0 then (
some (.inl ((x3 - 0), (x4 + 1)))) else (
some (.inl ((x3 - 1), (x4 + 1)))))))
def b_X4_fault_37 (n : Nat) (S : mem) (x2 : Int32) : (Int32 × Int32) → Option ((Int32 × Int32) ⊕ (Int32 × mem)) := fun w =>
grd (¬ (S 0 0 1) = 0) (
grd (¬ (S 0 0 1) = 0) (
cal (f_X4_faultAt n S (w.2 / (S 0 0 1)) (w.2 - w.2 / (S 0 0 1) * (S 0 0 1))) fun q8 => (
if q8 = 0 then (
j_X4_fault_62 n S x2 w.1 w.2) else (
if w.1 ≤ 0 then (
if x2 = 0 then (
grd (¬ (S 0 0 1) = 0) (
grd (¬ (S 0 0 1) = 0) (
cal (f_X4_faultAt n S (w.2 / (S 0 0 1)) (w.2 - w.2 / (S 0 0 1) * (S 0 0 1))) fun q21 => (
some (.inr ((q21, S))))))) else (
if x2 = 1 then (
grd (¬ (S 0 0 1) = 0) (
some (.inr ((w.2 / (S 0 0 1), S))))) else (
grd (¬ (S 0 0 1) = 0) (
some (.inr ((w.2 - w.2 / (S 0 0 1) * (S 0 0 1), S))))))) else (
j_X4_fault_62 n S x2 w.1 w.2)))))
/-- public int fault(int, int) -/
def f_X4_fault (n : Nat) (S0 : mem) (x1 : Int32) (x2 : Int32) : Option (Int32 × mem) :=
if x1 < 0 then (
some ((-1000001, mup S0 0 0 0 0))) else (
cal (f_X4_faults n (mup S0 0 0 0 0)) fun q2 => (
if x1 < q2.1 then (
cal (f_X4_lies n q2.2 x2 0 2) fun q4 => (
if q4 = 0 then (
some ((-1000002, q2.2))) else (
lp (b_X4_fault_37 n q2.2 x2) n (x1, 0)))) else (
some ((-1000001, q2.2)))))
set_option maxRecDepth 100000 in
set_option maxHeartbeats 4000000 in
theorem c_X4_fault (l : Launch) (g : cx) (n : Nat) (S0 : mem) (sz : Nat) (x1 : Int32) (x2 : Int32) (q : Int32 × mem) (h : f_X4_fault n S0 x1 x2 = some q) : Met l yX4_fault (wsU yX4_fault cX4_fault 5 (some .int)) (rmD 4) (PcW ixM enM g S0 sz [.ref (g.2.2 0 0), .int x1, .int x2]) (QiW ixM enM g sz q.1 q.2) 0 0 (Aw ixM g sz) := by
  refine met_intro (Qc := fun z9 => QiW ixM enM g z9 q.1 q.2) (free := fun z9 => Aw ixM g z9) [.ref (g.2.2 0 0), .int x1, .int x2] RX4 rfl (by decide) (Nat.le_of_ble_eq_true rfl) (fun p e s m args below meth c H locs F hr hlocks B ls hl => ?_)
  have hl : lv_has ls 5 [(0, .ref (g.2.2 0 0)), (1, .int x1), (2, .int x2)] := hl
  have hx := F.1
  have hb := F.2.1
  unfold f_X4_fault at h
  refine lv_aload_n hx hb dX4_fault_0 rfl (lv_at hl 0 rfl) ?_
  refine lv_iconst (v := 0) hx hb dX4_fault_1 (by decide) ?_
  refine pt_X4_0 F B mF_X4_1 dX4_fault_2 (fun H locs B => ?_)
  refine lv_iload_n hx hb dX4_fault_5 rfl (lv_at hl 1 rfl) ?_
  refine lv_if_lt (tgt := 17) hx hb dX4_fault_6 (by decide) (fun c1 => ?_) (fun c1 => ?_)
  · rw [if_pos c1] at h
    refine lv_ldc (v := -1000001) hx hb F.2.2.2.1 (F.2.2.2.2 _ (wsU_in mK_X4_123)) dX4_fault_17 ?_
    obtain rfl := Option.some.inj h
    exact w_iret F hr hlocks B dX4_fault_19
  · rw [if_neg c1] at h
    refine lv_iload_n hx hb dX4_fault_9 rfl (lv_at hl 1 rfl) ?_
    refine lv_aload_n hx hb dX4_fault_10 rfl (lv_at hl 0 rfl) ?_
    obtain ⟨q2, hq2, h⟩ := cal_some h
    refine w_callVi F B (c_X4_faults l g n (mup S0 0 0 0 0) H.size  q2 hq2) mC_X4_faults mM_X4_186 mN_X4 mI_X4_faults mS_X4_faults ixM_0 rfl rfl ⟨ok_X4_faults, by decide⟩ rfl hl.1 rfl (Nat.le_of_ble_eq_true rfl) dX4_fault_11 (fun H locs B => ?_)
    refine lv_icmp_lt (tgt := 20) hx hb dX4_fault_14 (by decide) (fun c3 => ?_) (fun c3 => ?_)
    · rw [if_pos c3] at h
      refine lv_iload_n hx hb dX4_fault_20 rfl (lv_at hl 2 rfl) ?_
      refine lv_iconst (v := 0) hx hb dX4_fault_21 (by decide) ?_
      refine lv_iconst (v := 2) hx hb dX4_fault_22 (by decide) ?_
      obtain ⟨q4, hq4, h⟩ := cal_some h
      refine w_callSi F B (c_X4_lies l g n q2.2 H.size x2 0 2 q4 hq4) mC_X4_lies mM_X4_109 mN_X4 mT_X4_lies ⟨ok_X4_lies, by decide⟩ rfl hl.1 rfl (Nat.le_of_ble_eq_true rfl) dX4_fault_23 (fun H locs B => ?_)
      refine lv_if_ne (tgt := 32) hx hb dX4_fault_26 (by decide) (fun c5 => ?_) (fun c5 => ?_)
      · rw [if_neg c5] at h
        refine lv_iload_n hx hb dX4_fault_32 rfl (lv_at hl 1 rfl) ?_
        refine lv_istore_n (lv' := [(3, .int x1), (0, .ref (g.2.2 0 0)), (1, .int x1), (2, .int x2)]) hx hb dX4_fault_33 rfl hl (by decide) rfl (fun ls hl => ?_)
        refine lv_iconst (v := 0) hx hb dX4_fault_34 (by decide) ?_
        refine lv_istore (lv' := [(4, .int 0), (3, .int x1), (0, .ref (g.2.2 0 0)), (1, .int x1), (2, .int x2)]) hx hb dX4_fault_35 hl (by decide) rfl (fun ls hl => ?_)
        have L37 : ∀ (k37 : Nat) (S : mem) (x2 : Int32) (x3 : Int32) (x4 : Int32), lp (b_X4_fault_37 n S x2) k37 (x3, x4) = some q → ∀ (H : Heap) (locs : List Loc) (ls : Array Slot), Wd ixM enM g S (Aw ixM g s.heap.size) s H locs → lv_has ls 5 [(0, .ref (g.2.2 0 0)), (2, .int x2), (3, .int x3), (4, .int x4)] → W p l e (rmD 4) s m args below meth c H locs 0 0 (MQ below (QiW ixM enM g s.heap.size q.1 q.2) args s 0 0 (Aw ixM g s.heap.size)) (F0 m 37 ls []) := by
          intro k37
          induction k37 with
          | zero => intro S x2 x3 x4 h; exact (lp_zero h).elim
          | succ k37 ih37 =>
            intro S x2 x3 x4 h H locs ls B hl
            obtain ⟨t37, h, ht37⟩ := lp_succ h
            unfold b_X4_fault_37 at h
            (try dsimp only at h)
            refine lv_aload_n hx hb dX4_fault_37 rfl (lv_at hl 0 rfl) ?_
            refine lv_iload hx hb dX4_fault_38 (lv_at hl 3 rfl) ?_
            refine lv_aload_n hx hb dX4_fault_40 rfl (lv_at hl 0 rfl) ?_
            refine gt_X4_1 F B mF_X4_7 dX4_fault_41 ?_
            obtain ⟨z6, h⟩ := grd_some h
            refine lv_idiv hx hb dX4_fault_44 z6 ?_
            refine lv_iload hx hb dX4_fault_45 (lv_at hl 3 rfl) ?_
            refine lv_aload_n hx hb dX4_fault_47 rfl (lv_at hl 0 rfl) ?_
            refine gt_X4_1 F B mF_X4_7 dX4_fault_48 ?_
            obtain ⟨z7, h⟩ := grd_some h
            refine lv_irem hx hb dX4_fault_51 z7 ?_
            obtain ⟨q8, hq8, h⟩ := cal_some h
            refine w_callVi F B (c_X4_faultAt l g n S H.size (x4 / (S 0 0 1)) (x4 - x4 / (S 0 0 1) * (S 0 0 1)) q8 hq8) mC_X4_faultAt mM_X4_183 mN_X4 mI_X4_faultAt mS_X4_faultAt ixM_0 rfl rfl ⟨ok_X4_faultAt, by decide⟩ rfl hl.1 rfl (Nat.le_of_ble_eq_true rfl) dX4_fault_52 (fun H locs B => ?_)
            have J62 : ∀ (x3 : Int32) (x4 : Int32), j_X4_fault_62 n S x2 x3 x4 = some t37 → ∀ (H : Heap) (locs : List Loc) (ls : Array Slot), Wd ixM enM g S (Aw ixM g s.heap.size) s H locs → lv_has ls 5 [(0, .ref (g.2.2 0 0)), (2, .int x2), (3, .int x3), (4, .int x4)] → W p l e (rmD 4) s m args below meth c H locs 0 0 (MQ below (QiW ixM enM g s.heap.size q.1 q.2) args s 0 0 (Aw ixM g s.heap.size)) (F0 m 62 ls []) := by
              intro x3 x4 h H locs ls B hl
              unfold j_X4_fault_62 at h
              refine lv_iload_n hx hb dX4_fault_62 rfl (lv_at hl 2 rfl) ?_
              refine lv_aload_n hx hb dX4_fault_63 rfl (lv_at hl 0 rfl) ?_
              refine lv_iload hx hb dX4_fault_64 (lv_at hl 3 rfl) ?_
              refine lv_aload_n hx hb dX4_fault_66 rfl (lv_at hl 0 rfl) ?_
              refine gt_X4_1 F B mF_X4_7 dX4_fault_67 ?_
              obtain ⟨z9, h⟩ := grd_some h
              refine lv_idiv hx hb dX4_fault_70 z9 ?_
              refine lv_iload hx hb dX4_fault_71 (lv_at hl 3 rfl) ?_
              refine lv_aload_n hx hb dX4_fault_73 rfl (lv_at hl 0 rfl) ?_
              refine gt_X4_1 F B mF_X4_7 dX4_fault_74 ?_
              obtain ⟨z10, h⟩ := grd_some h
              refine lv_irem hx hb dX4_fault_77 z10 ?_
              obtain ⟨q11, hq11, h⟩ := cal_some h
              refine w_callVi F B (c_X4_faultAt l g n S H.size (x4 / (S 0 0 1)) (x4 - x4 / (S 0 0 1) * (S 0 0 1)) q11 hq11) mC_X4_faultAt mM_X4_183 mN_X4 mI_X4_faultAt mS_X4_faultAt ixM_0 rfl rfl ⟨ok_X4_faultAt, by decide⟩ rfl hl.1 rfl (Nat.le_of_ble_eq_true rfl) dX4_fault_78 (fun H locs B => ?_)
              refine lv_if_le (tgt := 88) hx hb dX4_fault_81 (by decide) (fun c12 => ?_) (fun c12 => ?_)
              · rw [if_pos c12] at h
                refine lv_iconst (v := 0) hx hb dX4_fault_88 (by decide) ?_
                refine lv_isub hx hb dX4_fault_89 ?_
                refine lv_istore_n (lv' := [(3, .int (x3 - 0)), (0, .ref (g.2.2 0 0)), (2, .int x2), (4, .int x4)]) hx hb dX4_fault_90 rfl hl (by decide) rfl (fun ls hl => ?_)
                refine lv_iinc (v := x4 + 1) (lv' := [(4, .int (x4 + 1)), (3, .int (x3 - 0)), (0, .ref (g.2.2 0 0)), (2, .int x2)]) hx hb dX4_fault_91 hl (k := 3) rfl rfl (by decide) rfl (fun ls hl => ?_)
                refine lv_goto (tgt := 37) hx hb dX4_fault_94 (by decide) ?_
                obtain rfl := Option.some.inj h
                exact ih37 S x2 (x3 - 0) (x4 + 1) ht37 H locs ls B (lv_sub hl [2, 3, 1, 0] rfl)
              · rw [if_neg c12] at h
                refine lv_iconst (v := 1) hx hb dX4_fault_84 (by decide) ?_
                refine lv_goto (tgt := 89) hx hb dX4_fault_85 (by decide) ?_
                refine lv_isub hx hb dX4_fault_89 ?_
                refine lv_istore_n (lv' := [(3, .int (x3 - 1)), (0, .ref (g.2.2 0 0)), (2, .int x2), (4, .int x4)]) hx hb dX4_fault_90 rfl hl (by decide) rfl (fun ls hl => ?_)
                refine lv_iinc (v := x4 + 1) (lv' := [(4, .int (x4 + 1)), (3, .int (x3 - 1)), (0, .ref (g.2.2 0 0)), (2, .int x2)]) hx hb dX4_fault_91 hl (k := 3) rfl rfl (by decide) rfl (fun ls hl => ?_)
                refine lv_goto (tgt := 37) hx hb dX4_fault_94 (by decide) ?_
                obtain rfl := Option.some.inj h
                exact ih37 S x2 (x3 - 1) (x4 + 1) ht37 H locs ls B (lv_sub hl [2, 3, 1, 0] rfl)
            refine lv_if_eq (tgt := 62) hx hb dX4_fault_55 (by decide) (fun c13 => ?_) (fun c13 => ?_)
            · rw [if_pos c13] at h
              exact J62 x3 x4 h H locs ls B (lv_sub hl [0, 1, 2, 3] rfl)
            · rw [if_neg c13] at h
              refine lv_iload_n hx hb dX4_fault_58 rfl (lv_at hl 2 rfl) ?_
              refine lv_if_le (tgt := 97) hx hb dX4_fault_59 (by decide) (fun c14 => ?_) (fun c14 => ?_)
              · rw [if_pos c14] at h
                refine lv_iload_n hx hb dX4_fault_97 rfl (lv_at hl 1 rfl) ?_
                refine lv_if_ne (tgt := 122) hx hb dX4_fault_98 (by decide) (fun c15 => ?_) (fun c15 => ?_)
                · rw [if_neg c15] at h
                  refine lv_iload_n hx hb dX4_fault_122 rfl (lv_at hl 1 rfl) ?_
                  refine lv_iconst (v := 1) hx hb dX4_fault_123 (by decide) ?_
                  refine lv_icmp_ne (tgt := 137) hx hb dX4_fault_124 (by decide) (fun c16 => ?_) (fun c16 => ?_)
                  · rw [if_neg c16] at h
                    refine lv_iload hx hb dX4_fault_137 (lv_at hl 3 rfl) ?_
                    refine lv_aload_n hx hb dX4_fault_139 rfl (lv_at hl 0 rfl) ?_
                    refine gt_X4_1 F B mF_X4_7 dX4_fault_140 ?_
                    obtain ⟨z17, h⟩ := grd_some h
                    refine lv_irem hx hb dX4_fault_143 z17 ?_
                    obtain rfl := Option.some.inj h
                    obtain rfl := (show _ = q from ht37)
                    exact w_iret F hr hlocks B dX4_fault_144
                  · rw [if_pos c16] at h
                    refine lv_iload hx hb dX4_fault_127 (lv_at hl 3 rfl) ?_
                    refine lv_aload_n hx hb dX4_fault_129 rfl (lv_at hl 0 rfl) ?_
                    refine gt_X4_1 F B mF_X4_7 dX4_fault_130 ?_
                    obtain ⟨z18, h⟩ := grd_some h
                    refine lv_idiv hx hb dX4_fault_133 z18 ?_
                    refine lv_goto (tgt := 144) hx hb dX4_fault_134 (by decide) ?_
                    obtain rfl := Option.some.inj h
                    obtain rfl := (show _ = q from ht37)
                    exact w_iret F hr hlocks B dX4_fault_144
                · rw [if_pos c15] at h
                  refine lv_aload_n hx hb dX4_fault_101 rfl (lv_at hl 0 rfl) ?_
                  refine lv_iload hx hb dX4_fault_102 (lv_at hl 3 rfl) ?_
                  refine lv_aload_n hx hb dX4_fault_104 rfl (lv_at hl 0 rfl) ?_
                  refine gt_X4_1 F B mF_X4_7 dX4_fault_105 ?_
                  obtain ⟨z19, h⟩ := grd_some h
                  refine lv_idiv hx hb dX4_fault_108 z19 ?_
                  refine lv_iload hx hb dX4_fault_109 (lv_at hl 3 rfl) ?_
                  refine lv_aload_n hx hb dX4_fault_111 rfl (lv_at hl 0 rfl) ?_
                  refine gt_X4_1 F B mF_X4_7 dX4_fault_112 ?_
                  obtain ⟨z20, h⟩ := grd_some h
                  refine lv_irem hx hb dX4_fault_115 z20 ?_
                  obtain ⟨q21, hq21, h⟩ := cal_some h
                  refine w_callVi F B (c_X4_faultAt l g n S H.size (x4 / (S 0 0 1)) (x4 - x4 / (S 0 0 1) * (S 0 0 1)) q21 hq21) mC_X4_faultAt mM_X4_183 mN_X4 mI_X4_faultAt mS_X4_faultAt ixM_0 rfl rfl ⟨ok_X4_faultAt, by decide⟩ rfl hl.1 rfl (Nat.le_of_ble_eq_true rfl) dX4_fault_116 (fun H locs B => ?_)
                  refine lv_goto (tgt := 144) hx hb dX4_fault_119 (by decide) ?_
                  obtain rfl := Option.some.inj h
                  obtain rfl := (show _ = q from ht37)
                  exact w_iret F hr hlocks B dX4_fault_144
              · rw [if_neg c14] at h
                exact J62 x3 x4 h H locs ls B (lv_sub hl [0, 1, 2, 3] rfl)
        exact L37 n q2.2 x2 x1 0 h H locs ls B (lv_sub hl [2, 4, 1, 0] rfl)
      · rw [if_pos c5] at h
        refine lv_ldc (v := -1000002) hx hb F.2.2.2.1 (F.2.2.2.2 _ (wsU_in mK_X4_113)) dX4_fault_29 ?_
        obtain rfl := Option.some.inj h
        exact w_iret F hr hlocks B dX4_fault_31
    · rw [if_neg c3] at h
      refine lv_ldc (v := -1000001) hx hb F.2.2.2.1 (F.2.2.2.2 _ (wsU_in mK_X4_123)) dX4_fault_17 ?_
      obtain rfl := Option.some.inj h
      exact w_iret F hr hlocks B dX4_fault_19
def b_X4_areAlikeAt_33 (n : Nat) (S0 : mem) (x1 : Int32) (x2 : Int32) (x3 : Int32) : (Int32 × Int32) → Option ((Int32 × Int32) ⊕ (Int32)) := fun w =>
if w.1 = 0 then (
grd (w.1 = 0 ∨ w.1 = 1) (some (.inr (w.1)))) else (
grd (¬ ((4 * x1) + x2 < 0 ∨ 240 ≤ Int32.toNatClampNeg ((4 * x1) + x2))) (
if (S0 11 0 (Int32.toNatClampNeg ((4 * x1) + x2))) ≤ w.2 then (
grd (w.1 = 0 ∨ w.1 = 1) (some (.inr (w.1)))) else (
grd (¬ (((8 * x1) + (2 * x2)) + w.2 < 0 ∨ 480 ≤ Int32.toNatClampNeg (((8 * x1) + (2 * x2)) + w.2))) (
grd (¬ (((8 * x1) + (2 * x3)) + w.2 < 0 ∨ 480 ≤ Int32.toNatClampNeg (((8 * x1) + (2 * x3)) + w.2))) (
if (S0 12 0 (Int32.toNatClampNeg (((8 * x1) + (2 * x2)) + w.2))) = (S0 12 0 (Int32.toNatClampNeg (((8 * x1) + (2 * x3)) + w.2))) then (
if (S0 13 0 (Int32.toNatClampNeg (((8 * x1) + (2 * x2)) + w.2))) = (S0 13 0 (Int32.toNatClampNeg (((8 * x1) + (2 * x3)) + w.2))) then (
if (S0 14 0 (Int32.toNatClampNeg (((8 * x1) + (2 * x2)) + w.2))) = (S0 14 0 (Int32.toNatClampNeg (((8 * x1) + (2 * x3)) + w.2))) then (
some (.inl (1, (w.2 + 1)))) else (
some (.inl (0, (w.2 + 1))))) else (
some (.inl (0, (w.2 + 1))))) else (
some (.inl (0, (w.2 + 1)))))))))
/-- private boolean areAlikeAt(int, int, int) -/
def f_X4_areAlikeAt (n : Nat) (S0 : mem) (x1 : Int32) (x2 : Int32) (x3 : Int32) : Option (Int32) :=
grd (¬ ((4 * x1) + x2 < 0 ∨ 240 ≤ Int32.toNatClampNeg ((4 * x1) + x2))) (
grd (¬ ((4 * x1) + x3 < 0 ∨ 240 ≤ Int32.toNatClampNeg ((4 * x1) + x3))) (
if (S0 11 0 (Int32.toNatClampNeg ((4 * x1) + x2))) = (S0 11 0 (Int32.toNatClampNeg ((4 * x1) + x3))) then (
lp (b_X4_areAlikeAt_33 n S0 x1 x2 x3) n (1, 0)) else (
lp (b_X4_areAlikeAt_33 n S0 x1 x2 x3) n (0, 0))))
set_option maxRecDepth 100000 in
set_option maxHeartbeats 4000000 in
theorem c_X4_areAlikeAt (l : Launch) (g : cx) (n : Nat) (S0 : mem) (sz : Nat) (x1 : Int32) (x2 : Int32) (x3 : Int32) (q : Int32) (h : f_X4_areAlikeAt n S0 x1 x2 x3 = some q) : Met l yX4_areAlikeAt (wsU yX4_areAlikeAt cX4_areAlikeAt 8 (some .boolean)) (rmD 0) (PcW ixM enM g S0 sz [.ref (g.2.2 0 0), .int x1, .int x2, .int x3]) (QiW ixM enM g sz q S0) 0 0 (Aw ixM g sz) := by
  refine met_intro (Qc := fun z9 => QiW ixM enM g z9 q S0) (free := fun z9 => Aw ixM g z9) [.ref (g.2.2 0 0), .int x1, .int x2, .int x3] RX4 rfl (by decide) (Nat.le_of_ble_eq_true rfl) (fun p e s m args below meth c H locs F hr hlocks B ls hl => ?_)
  have hl : lv_has ls 8 [(0, .ref (g.2.2 0 0)), (1, .int x1), (2, .int x2), (3, .int x3)] := hl
  have hx := F.1
  have hb := F.2.1
  unfold f_X4_areAlikeAt at h
  refine lv_aload_n hx hb dX4_areAlikeAt_0 rfl (lv_at hl 0 rfl) ?_
  refine gt_X4_11 F B mF_X4_73 dX4_areAlikeAt_1 ?_
  refine lv_iconst (v := 4) hx hb dX4_areAlikeAt_4 (by decide) ?_
  refine lv_iload_n hx hb dX4_areAlikeAt_5 rfl (lv_at hl 1 rfl) ?_
  refine lv_imul hx hb dX4_areAlikeAt_6 ?_
  refine lv_iload_n hx hb dX4_areAlikeAt_7 rfl (lv_at hl 2 rfl) ?_
  refine lv_iadd hx hb dX4_areAlikeAt_8 ?_
  obtain ⟨z1, h⟩ := grd_some h
  refine al_M11 F B  z1 dX4_areAlikeAt_9 ?_
  refine lv_aload_n hx hb dX4_areAlikeAt_10 rfl (lv_at hl 0 rfl) ?_
  refine gt_X4_11 F B mF_X4_73 dX4_areAlikeAt_11 ?_
  refine lv_iconst (v := 4) hx hb dX4_areAlikeAt_14 (by decide) ?_
  refine lv_iload_n hx hb dX4_areAlikeAt_15 rfl (lv_at hl 1 rfl) ?_
  refine lv_imul hx hb dX4_areAlikeAt_16 ?_
  refine lv_iload_n hx hb dX4_areAlikeAt_17 rfl (lv_at hl 3 rfl) ?_
  refine lv_iadd hx hb dX4_areAlikeAt_18 ?_
  obtain ⟨z2, h⟩ := grd_some h
  refine al_M11 F B  z2 dX4_areAlikeAt_19 ?_
  refine lv_icmp_ne (tgt := 27) hx hb dX4_areAlikeAt_20 (by decide) (fun c3 => ?_) (fun c3 => ?_)
  · rw [if_neg c3] at h
    refine lv_iconst (v := 0) hx hb dX4_areAlikeAt_27 (by decide) ?_
    refine lv_istore (lv' := [(4, .int 0), (0, .ref (g.2.2 0 0)), (1, .int x1), (2, .int x2), (3, .int x3)]) hx hb dX4_areAlikeAt_28 hl (by decide) rfl (fun ls hl => ?_)
    refine lv_iconst (v := 0) hx hb dX4_areAlikeAt_30 (by decide) ?_
    refine lv_istore (lv' := [(5, .int 0), (4, .int 0), (0, .ref (g.2.2 0 0)), (1, .int x1), (2, .int x2), (3, .int x3)]) hx hb dX4_areAlikeAt_31 hl (by decide) rfl (fun ls hl => ?_)
    have L33 : ∀ (k33 : Nat) (x1 : Int32) (x2 : Int32) (x3 : Int32) (x4 : Int32) (x5 : Int32), lp (b_X4_areAlikeAt_33 n S0 x1 x2 x3) k33 (x4, x5) = some q → ∀ (H : Heap) (locs : List Loc) (ls : Array Slot), Wd ixM enM g S0 (Aw ixM g s.heap.size) s H locs → lv_has ls 8 [(0, .ref (g.2.2 0 0)), (1, .int x1), (2, .int x2), (3, .int x3), (4, .int x4), (5, .int x5)] → W p l e (rmD 0) s m args below meth c H locs 0 0 (MQ below (QiW ixM enM g s.heap.size q S0) args s 0 0 (Aw ixM g s.heap.size)) (F0 m 33 ls []) := by
      intro k33
      induction k33 with
      | zero => intro x1 x2 x3 x4 x5 h; exact (lp_zero h).elim
      | succ k33 ih33 =>
        intro x1 x2 x3 x4 x5 h H locs ls B hl
        obtain ⟨t33, h, ht33⟩ := lp_succ h
        unfold b_X4_areAlikeAt_33 at h
        (try dsimp only at h)
        refine lv_iload hx hb dX4_areAlikeAt_33 (lv_at hl 4 rfl) ?_
        refine lv_if_eq (tgt := 143) hx hb dX4_areAlikeAt_35 (by decide) (fun c4 => ?_) (fun c4 => ?_)
        · rw [if_pos c4] at h
          refine lv_iload hx hb dX4_areAlikeAt_143 (lv_at hl 4 rfl) ?_
          obtain ⟨z5, h⟩ := grd_some h
          obtain rfl := Option.some.inj h
          obtain rfl := (show _ = q from ht33)
          exact w_zret F hr hlocks z5 B dX4_areAlikeAt_145
        · rw [if_neg c4] at h
          refine lv_iload hx hb dX4_areAlikeAt_38 (lv_at hl 5 rfl) ?_
          refine lv_aload_n hx hb dX4_areAlikeAt_40 rfl (lv_at hl 0 rfl) ?_
          refine gt_X4_11 F B mF_X4_73 dX4_areAlikeAt_41 ?_
          refine lv_iconst (v := 4) hx hb dX4_areAlikeAt_44 (by decide) ?_
          refine lv_iload_n hx hb dX4_areAlikeAt_45 rfl (lv_at hl 1 rfl) ?_
          refine lv_imul hx hb dX4_areAlikeAt_46 ?_
          refine lv_iload_n hx hb dX4_areAlikeAt_47 rfl (lv_at hl 2 rfl) ?_
          refine lv_iadd hx hb dX4_areAlikeAt_48 ?_
          obtain ⟨z6, h⟩ := grd_some h
          refine al_M11 F B  z6 dX4_areAlikeAt_49 ?_
          refine lv_icmp_ge (tgt := 143) hx hb dX4_areAlikeAt_50 (by decide) (fun c7 => ?_) (fun c7 => ?_)
          · rw [if_pos c7] at h
            refine lv_iload hx hb dX4_areAlikeAt_143 (lv_at hl 4 rfl) ?_
            obtain ⟨z8, h⟩ := grd_some h
            obtain rfl := Option.some.inj h
            obtain rfl := (show _ = q from ht33)
            exact w_zret F hr hlocks z8 B dX4_areAlikeAt_145
          · rw [if_neg c7] at h
            refine lv_bipush (v := 8) hx hb dX4_areAlikeAt_53 (by decide) ?_
            refine lv_iload_n hx hb dX4_areAlikeAt_55 rfl (lv_at hl 1 rfl) ?_
            refine lv_imul hx hb dX4_areAlikeAt_56 ?_
            refine lv_iconst (v := 2) hx hb dX4_areAlikeAt_57 (by decide) ?_
            refine lv_iload_n hx hb dX4_areAlikeAt_58 rfl (lv_at hl 2 rfl) ?_
            refine lv_imul hx hb dX4_areAlikeAt_59 ?_
            refine lv_iadd hx hb dX4_areAlikeAt_60 ?_
            refine lv_iload hx hb dX4_areAlikeAt_61 (lv_at hl 5 rfl) ?_
            refine lv_iadd hx hb dX4_areAlikeAt_63 ?_
            refine lv_istore (lv' := [(6, .int (((8 * x1) + (2 * x2)) + x5)), (0, .ref (g.2.2 0 0)), (1, .int x1), (2, .int x2), (3, .int x3), (4, .int x4), (5, .int x5)]) hx hb dX4_areAlikeAt_64 hl (by decide) rfl (fun ls hl => ?_)
            refine lv_bipush (v := 8) hx hb dX4_areAlikeAt_66 (by decide) ?_
            refine lv_iload_n hx hb dX4_areAlikeAt_68 rfl (lv_at hl 2 rfl) ?_
            refine lv_imul hx hb dX4_areAlikeAt_69 ?_
            refine lv_iconst (v := 2) hx hb dX4_areAlikeAt_70 (by decide) ?_
            refine lv_iload_n hx hb dX4_areAlikeAt_71 rfl (lv_at hl 4 rfl) ?_
            refine lv_imul hx hb dX4_areAlikeAt_72 ?_
            refine lv_iadd hx hb dX4_areAlikeAt_73 ?_
            refine lv_iload hx hb dX4_areAlikeAt_74 (lv_at hl 6 rfl) ?_
            refine lv_iadd hx hb dX4_areAlikeAt_76 ?_
            refine lv_istore (lv' := [(7, .int (((8 * x1) + (2 * x3)) + x5)), (6, .int (((8 * x1) + (2 * x2)) + x5)), (0, .ref (g.2.2 0 0)), (1, .int x1), (2, .int x2), (3, .int x3), (4, .int x4), (5, .int x5)]) hx hb dX4_areAlikeAt_77 hl (by decide) rfl (fun ls hl => ?_)
            refine lv_aload_n hx hb dX4_areAlikeAt_79 rfl (lv_at hl 2 rfl) ?_
            refine gt_X4_12 F B mF_X4_76 dX4_areAlikeAt_80 ?_
            refine lv_iload hx hb dX4_areAlikeAt_83 (lv_at hl 1 rfl) ?_
            obtain ⟨z9, h⟩ := grd_some h
            refine al_M12 F B  z9 dX4_areAlikeAt_85 ?_
            refine lv_aload_n hx hb dX4_areAlikeAt_86 rfl (lv_at hl 2 rfl) ?_
            refine gt_X4_12 F B mF_X4_76 dX4_areAlikeAt_87 ?_
            refine lv_iload hx hb dX4_areAlikeAt_90 (lv_at hl 0 rfl) ?_
            obtain ⟨z10, h⟩ := grd_some h
            refine al_M12 F B  z10 dX4_areAlikeAt_92 ?_
            refine lv_icmp_ne (tgt := 134) hx hb dX4_areAlikeAt_93 (by decide) (fun c11 => ?_) (fun c11 => ?_)
            · rw [if_neg c11] at h
              refine lv_iconst (v := 0) hx hb dX4_areAlikeAt_134 (by decide) ?_
              refine lv_istore (lv' := [(4, .int 0), (7, .int (((8 * x1) + (2 * x3)) + x5)), (6, .int (((8 * x1) + (2 * x2)) + x5)), (0, .ref (g.2.2 0 0)), (1, .int x1), (2, .int x2), (3, .int x3), (5, .int x5)]) hx hb dX4_areAlikeAt_135 hl (by decide) rfl (fun ls hl => ?_)
              refine lv_iinc (v := x5 + 1) (lv' := [(5, .int (x5 + 1)), (4, .int 0), (7, .int (((8 * x1) + (2 * x3)) + x5)), (6, .int (((8 * x1) + (2 * x2)) + x5)), (0, .ref (g.2.2 0 0)), (1, .int x1), (2, .int x2), (3, .int x3)]) hx hb dX4_areAlikeAt_137 hl (k := 7) rfl rfl (by decide) rfl (fun ls hl => ?_)
              refine lv_goto (tgt := 33) hx hb dX4_areAlikeAt_140 (by decide) ?_
              obtain rfl := Option.some.inj h
              exact ih33 x1 x2 x3 0 (x5 + 1) ht33 H locs ls B (lv_sub hl [4, 5, 6, 7, 1, 0] rfl)
            · rw [if_pos c11] at h
              refine lv_aload_n hx hb dX4_areAlikeAt_96 rfl (lv_at hl 2 rfl) ?_
              refine gt_X4_13 F B mF_X4_79 dX4_areAlikeAt_97 ?_
              refine lv_iload hx hb dX4_areAlikeAt_100 (lv_at hl 1 rfl) ?_
              refine al_M13 F B  z9 dX4_areAlikeAt_102 ?_
              refine lv_aload_n hx hb dX4_areAlikeAt_103 rfl (lv_at hl 2 rfl) ?_
              refine gt_X4_13 F B mF_X4_79 dX4_areAlikeAt_104 ?_
              refine lv_iload hx hb dX4_areAlikeAt_107 (lv_at hl 0 rfl) ?_
              refine al_M13 F B  z10 dX4_areAlikeAt_109 ?_
              refine lv_icmp_ne (tgt := 134) hx hb dX4_areAlikeAt_110 (by decide) (fun c12 => ?_) (fun c12 => ?_)
              · rw [if_neg c12] at h
                refine lv_iconst (v := 0) hx hb dX4_areAlikeAt_134 (by decide) ?_
                refine lv_istore (lv' := [(4, .int 0), (7, .int (((8 * x1) + (2 * x3)) + x5)), (6, .int (((8 * x1) + (2 * x2)) + x5)), (0, .ref (g.2.2 0 0)), (1, .int x1), (2, .int x2), (3, .int x3), (5, .int x5)]) hx hb dX4_areAlikeAt_135 hl (by decide) rfl (fun ls hl => ?_)
                refine lv_iinc (v := x5 + 1) (lv' := [(5, .int (x5 + 1)), (4, .int 0), (7, .int (((8 * x1) + (2 * x3)) + x5)), (6, .int (((8 * x1) + (2 * x2)) + x5)), (0, .ref (g.2.2 0 0)), (1, .int x1), (2, .int x2), (3, .int x3)]) hx hb dX4_areAlikeAt_137 hl (k := 7) rfl rfl (by decide) rfl (fun ls hl => ?_)
                refine lv_goto (tgt := 33) hx hb dX4_areAlikeAt_140 (by decide) ?_
                obtain rfl := Option.some.inj h
                exact ih33 x1 x2 x3 0 (x5 + 1) ht33 H locs ls B (lv_sub hl [4, 5, 6, 7, 1, 0] rfl)
              · rw [if_pos c12] at h
                refine lv_aload_n hx hb dX4_areAlikeAt_113 rfl (lv_at hl 2 rfl) ?_
                refine gt_X4_14 F B mF_X4_82 dX4_areAlikeAt_114 ?_
                refine lv_iload hx hb dX4_areAlikeAt_117 (lv_at hl 1 rfl) ?_
                refine al_M14 F B  z9 dX4_areAlikeAt_119 ?_
                refine lv_aload_n hx hb dX4_areAlikeAt_120 rfl (lv_at hl 2 rfl) ?_
                refine gt_X4_14 F B mF_X4_82 dX4_areAlikeAt_121 ?_
                refine lv_iload hx hb dX4_areAlikeAt_124 (lv_at hl 0 rfl) ?_
                refine al_M14 F B  z10 dX4_areAlikeAt_126 ?_
                refine lv_icmp_ne (tgt := 134) hx hb dX4_areAlikeAt_127 (by decide) (fun c13 => ?_) (fun c13 => ?_)
                · rw [if_neg c13] at h
                  refine lv_iconst (v := 0) hx hb dX4_areAlikeAt_134 (by decide) ?_
                  refine lv_istore (lv' := [(4, .int 0), (7, .int (((8 * x1) + (2 * x3)) + x5)), (6, .int (((8 * x1) + (2 * x2)) + x5)), (0, .ref (g.2.2 0 0)), (1, .int x1), (2, .int x2), (3, .int x3), (5, .int x5)]) hx hb dX4_areAlikeAt_135 hl (by decide) rfl (fun ls hl => ?_)
                  refine lv_iinc (v := x5 + 1) (lv' := [(5, .int (x5 + 1)), (4, .int 0), (7, .int (((8 * x1) + (2 * x3)) + x5)), (6, .int (((8 * x1) + (2 * x2)) + x5)), (0, .ref (g.2.2 0 0)), (1, .int x1), (2, .int x2), (3, .int x3)]) hx hb dX4_areAlikeAt_137 hl (k := 7) rfl rfl (by decide) rfl (fun ls hl => ?_)
                  refine lv_goto (tgt := 33) hx hb dX4_areAlikeAt_140 (by decide) ?_
                  obtain rfl := Option.some.inj h
                  exact ih33 x1 x2 x3 0 (x5 + 1) ht33 H locs ls B (lv_sub hl [4, 5, 6, 7, 1, 0] rfl)
                · rw [if_pos c13] at h
                  refine lv_iconst (v := 1) hx hb dX4_areAlikeAt_130 (by decide) ?_
                  refine lv_goto (tgt := 135) hx hb dX4_areAlikeAt_131 (by decide) ?_
                  refine lv_istore (lv' := [(4, .int 1), (7, .int (((8 * x1) + (2 * x3)) + x5)), (6, .int (((8 * x1) + (2 * x2)) + x5)), (0, .ref (g.2.2 0 0)), (1, .int x1), (2, .int x2), (3, .int x3), (5, .int x5)]) hx hb dX4_areAlikeAt_135 hl (by decide) rfl (fun ls hl => ?_)
                  refine lv_iinc (v := x5 + 1) (lv' := [(5, .int (x5 + 1)), (4, .int 1), (7, .int (((8 * x1) + (2 * x3)) + x5)), (6, .int (((8 * x1) + (2 * x2)) + x5)), (0, .ref (g.2.2 0 0)), (1, .int x1), (2, .int x2), (3, .int x3)]) hx hb dX4_areAlikeAt_137 hl (k := 7) rfl rfl (by decide) rfl (fun ls hl => ?_)
                  refine lv_goto (tgt := 33) hx hb dX4_areAlikeAt_140 (by decide) ?_
                  obtain rfl := Option.some.inj h
                  exact ih33 x1 x2 x3 1 (x5 + 1) ht33 H locs ls B (lv_sub hl [4, 5, 6, 7, 1, 0] rfl)
    exact L33 n x1 x2 x3 0 0 h H locs ls B (lv_sub hl [2, 3, 4, 5, 1, 0] rfl)
  · rw [if_pos c3] at h
    refine lv_iconst (v := 1) hx hb dX4_areAlikeAt_23 (by decide) ?_
    refine lv_goto (tgt := 28) hx hb dX4_areAlikeAt_24 (by decide) ?_
    refine lv_istore (lv' := [(4, .int 1), (0, .ref (g.2.2 0 0)), (1, .int x1), (2, .int x2), (3, .int x3)]) hx hb dX4_areAlikeAt_28 hl (by decide) rfl (fun ls hl => ?_)
    refine lv_iconst (v := 0) hx hb dX4_areAlikeAt_30 (by decide) ?_
    refine lv_istore (lv' := [(5, .int 0), (4, .int 1), (0, .ref (g.2.2 0 0)), (1, .int x1), (2, .int x2), (3, .int x3)]) hx hb dX4_areAlikeAt_31 hl (by decide) rfl (fun ls hl => ?_)
    have L33 : ∀ (k33 : Nat) (x1 : Int32) (x2 : Int32) (x3 : Int32) (x4 : Int32) (x5 : Int32), lp (b_X4_areAlikeAt_33 n S0 x1 x2 x3) k33 (x4, x5) = some q → ∀ (H : Heap) (locs : List Loc) (ls : Array Slot), Wd ixM enM g S0 (Aw ixM g s.heap.size) s H locs → lv_has ls 8 [(0, .ref (g.2.2 0 0)), (1, .int x1), (2, .int x2), (3, .int x3), (4, .int x4), (5, .int x5)] → W p l e (rmD 0) s m args below meth c H locs 0 0 (MQ below (QiW ixM enM g s.heap.size q S0) args s 0 0 (Aw ixM g s.heap.size)) (F0 m 33 ls []) := by
      intro k33
      induction k33 with
      | zero => intro x1 x2 x3 x4 x5 h; exact (lp_zero h).elim
      | succ k33 ih33 =>
        intro x1 x2 x3 x4 x5 h H locs ls B hl
        obtain ⟨t33, h, ht33⟩ := lp_succ h
        unfold b_X4_areAlikeAt_33 at h
        (try dsimp only at h)
        refine lv_iload hx hb dX4_areAlikeAt_33 (lv_at hl 4 rfl) ?_
        refine lv_if_eq (tgt := 143) hx hb dX4_areAlikeAt_35 (by decide) (fun c14 => ?_) (fun c14 => ?_)
        · rw [if_pos c14] at h
          refine lv_iload hx hb dX4_areAlikeAt_143 (lv_at hl 4 rfl) ?_
          obtain ⟨z15, h⟩ := grd_some h
          obtain rfl := Option.some.inj h
          obtain rfl := (show _ = q from ht33)
          exact w_zret F hr hlocks z15 B dX4_areAlikeAt_145
        · rw [if_neg c14] at h
          refine lv_iload hx hb dX4_areAlikeAt_38 (lv_at hl 5 rfl) ?_
          refine lv_aload_n hx hb dX4_areAlikeAt_40 rfl (lv_at hl 0 rfl) ?_
          refine gt_X4_11 F B mF_X4_73 dX4_areAlikeAt_41 ?_
          refine lv_iconst (v := 4) hx hb dX4_areAlikeAt_44 (by decide) ?_
          refine lv_iload_n hx hb dX4_areAlikeAt_45 rfl (lv_at hl 1 rfl) ?_
          refine lv_imul hx hb dX4_areAlikeAt_46 ?_
          refine lv_iload_n hx hb dX4_areAlikeAt_47 rfl (lv_at hl 2 rfl) ?_
          refine lv_iadd hx hb dX4_areAlikeAt_48 ?_
          obtain ⟨z16, h⟩ := grd_some h
          refine al_M11 F B  z16 dX4_areAlikeAt_49 ?_
          refine lv_icmp_ge (tgt := 143) hx hb dX4_areAlikeAt_50 (by decide) (fun c17 => ?_) (fun c17 => ?_)
          · rw [if_pos c17] at h
            refine lv_iload hx hb dX4_areAlikeAt_143 (lv_at hl 4 rfl) ?_
            obtain ⟨z18, h⟩ := grd_some h
            obtain rfl := Option.some.inj h
            obtain rfl := (show _ = q from ht33)
            exact w_zret F hr hlocks z18 B dX4_areAlikeAt_145
          · rw [if_neg c17] at h
            refine lv_bipush (v := 8) hx hb dX4_areAlikeAt_53 (by decide) ?_
            refine lv_iload_n hx hb dX4_areAlikeAt_55 rfl (lv_at hl 1 rfl) ?_
            refine lv_imul hx hb dX4_areAlikeAt_56 ?_
            refine lv_iconst (v := 2) hx hb dX4_areAlikeAt_57 (by decide) ?_
            refine lv_iload_n hx hb dX4_areAlikeAt_58 rfl (lv_at hl 2 rfl) ?_
            refine lv_imul hx hb dX4_areAlikeAt_59 ?_
            refine lv_iadd hx hb dX4_areAlikeAt_60 ?_
            refine lv_iload hx hb dX4_areAlikeAt_61 (lv_at hl 5 rfl) ?_
            refine lv_iadd hx hb dX4_areAlikeAt_63 ?_
            refine lv_istore (lv' := [(6, .int (((8 * x1) + (2 * x2)) + x5)), (0, .ref (g.2.2 0 0)), (1, .int x1), (2, .int x2), (3, .int x3), (4, .int x4), (5, .int x5)]) hx hb dX4_areAlikeAt_64 hl (by decide) rfl (fun ls hl => ?_)
            refine lv_bipush (v := 8) hx hb dX4_areAlikeAt_66 (by decide) ?_
            refine lv_iload_n hx hb dX4_areAlikeAt_68 rfl (lv_at hl 2 rfl) ?_
            refine lv_imul hx hb dX4_areAlikeAt_69 ?_
            refine lv_iconst (v := 2) hx hb dX4_areAlikeAt_70 (by decide) ?_
            refine lv_iload_n hx hb dX4_areAlikeAt_71 rfl (lv_at hl 4 rfl) ?_
            refine lv_imul hx hb dX4_areAlikeAt_72 ?_
            refine lv_iadd hx hb dX4_areAlikeAt_73 ?_
            refine lv_iload hx hb dX4_areAlikeAt_74 (lv_at hl 6 rfl) ?_
            refine lv_iadd hx hb dX4_areAlikeAt_76 ?_
            refine lv_istore (lv' := [(7, .int (((8 * x1) + (2 * x3)) + x5)), (6, .int (((8 * x1) + (2 * x2)) + x5)), (0, .ref (g.2.2 0 0)), (1, .int x1), (2, .int x2), (3, .int x3), (4, .int x4), (5, .int x5)]) hx hb dX4_areAlikeAt_77 hl (by decide) rfl (fun ls hl => ?_)
            refine lv_aload_n hx hb dX4_areAlikeAt_79 rfl (lv_at hl 2 rfl) ?_
            refine gt_X4_12 F B mF_X4_76 dX4_areAlikeAt_80 ?_
            refine lv_iload hx hb dX4_areAlikeAt_83 (lv_at hl 1 rfl) ?_
            obtain ⟨z19, h⟩ := grd_some h
            refine al_M12 F B  z19 dX4_areAlikeAt_85 ?_
            refine lv_aload_n hx hb dX4_areAlikeAt_86 rfl (lv_at hl 2 rfl) ?_
            refine gt_X4_12 F B mF_X4_76 dX4_areAlikeAt_87 ?_
            refine lv_iload hx hb dX4_areAlikeAt_90 (lv_at hl 0 rfl) ?_
            obtain ⟨z20, h⟩ := grd_some h
            refine al_M12 F B  z20 dX4_areAlikeAt_92 ?_
            refine lv_icmp_ne (tgt := 134) hx hb dX4_areAlikeAt_93 (by decide) (fun c21 => ?_) (fun c21 => ?_)
            · rw [if_neg c21] at h
              refine lv_iconst (v := 0) hx hb dX4_areAlikeAt_134 (by decide) ?_
              refine lv_istore (lv' := [(4, .int 0), (7, .int (((8 * x1) + (2 * x3)) + x5)), (6, .int (((8 * x1) + (2 * x2)) + x5)), (0, .ref (g.2.2 0 0)), (1, .int x1), (2, .int x2), (3, .int x3), (5, .int x5)]) hx hb dX4_areAlikeAt_135 hl (by decide) rfl (fun ls hl => ?_)
              refine lv_iinc (v := x5 + 1) (lv' := [(5, .int (x5 + 1)), (4, .int 0), (7, .int (((8 * x1) + (2 * x3)) + x5)), (6, .int (((8 * x1) + (2 * x2)) + x5)), (0, .ref (g.2.2 0 0)), (1, .int x1), (2, .int x2), (3, .int x3)]) hx hb dX4_areAlikeAt_137 hl (k := 7) rfl rfl (by decide) rfl (fun ls hl => ?_)
              refine lv_goto (tgt := 33) hx hb dX4_areAlikeAt_140 (by decide) ?_
              obtain rfl := Option.some.inj h
              exact ih33 x1 x2 x3 0 (x5 + 1) ht33 H locs ls B (lv_sub hl [4, 5, 6, 7, 1, 0] rfl)
            · rw [if_pos c21] at h
              refine lv_aload_n hx hb dX4_areAlikeAt_96 rfl (lv_at hl 2 rfl) ?_
              refine gt_X4_13 F B mF_X4_79 dX4_areAlikeAt_97 ?_
              refine lv_iload hx hb dX4_areAlikeAt_100 (lv_at hl 1 rfl) ?_
              refine al_M13 F B  z19 dX4_areAlikeAt_102 ?_
              refine lv_aload_n hx hb dX4_areAlikeAt_103 rfl (lv_at hl 2 rfl) ?_
              refine gt_X4_13 F B mF_X4_79 dX4_areAlikeAt_104 ?_
              refine lv_iload hx hb dX4_areAlikeAt_107 (lv_at hl 0 rfl) ?_
              refine al_M13 F B  z20 dX4_areAlikeAt_109 ?_
              refine lv_icmp_ne (tgt := 134) hx hb dX4_areAlikeAt_110 (by decide) (fun c22 => ?_) (fun c22 => ?_)
              · rw [if_neg c22] at h
                refine lv_iconst (v := 0) hx hb dX4_areAlikeAt_134 (by decide) ?_
                refine lv_istore (lv' := [(4, .int 0), (7, .int (((8 * x1) + (2 * x3)) + x5)), (6, .int (((8 * x1) + (2 * x2)) + x5)), (0, .ref (g.2.2 0 0)), (1, .int x1), (2, .int x2), (3, .int x3), (5, .int x5)]) hx hb dX4_areAlikeAt_135 hl (by decide) rfl (fun ls hl => ?_)
                refine lv_iinc (v := x5 + 1) (lv' := [(5, .int (x5 + 1)), (4, .int 0), (7, .int (((8 * x1) + (2 * x3)) + x5)), (6, .int (((8 * x1) + (2 * x2)) + x5)), (0, .ref (g.2.2 0 0)), (1, .int x1), (2, .int x2), (3, .int x3)]) hx hb dX4_areAlikeAt_137 hl (k := 7) rfl rfl (by decide) rfl (fun ls hl => ?_)
                refine lv_goto (tgt := 33) hx hb dX4_areAlikeAt_140 (by decide) ?_
                obtain rfl := Option.some.inj h
                exact ih33 x1 x2 x3 0 (x5 + 1) ht33 H locs ls B (lv_sub hl [4, 5, 6, 7, 1, 0] rfl)
              · rw [if_pos c22] at h
                refine lv_aload_n hx hb dX4_areAlikeAt_113 rfl (lv_at hl 2 rfl) ?_
                refine gt_X4_14 F B mF_X4_82 dX4_areAlikeAt_114 ?_
                refine lv_iload hx hb dX4_areAlikeAt_117 (lv_at hl 1 rfl) ?_
                refine al_M14 F B  z19 dX4_areAlikeAt_119 ?_
                refine lv_aload_n hx hb dX4_areAlikeAt_120 rfl (lv_at hl 2 rfl) ?_
                refine gt_X4_14 F B mF_X4_82 dX4_areAlikeAt_121 ?_
                refine lv_iload hx hb dX4_areAlikeAt_124 (lv_at hl 0 rfl) ?_
                refine al_M14 F B  z20 dX4_areAlikeAt_126 ?_
                refine lv_icmp_ne (tgt := 134) hx hb dX4_areAlikeAt_127 (by decide) (fun c23 => ?_) (fun c23 => ?_)
                · rw [if_neg c23] at h
                  refine lv_iconst (v := 0) hx hb dX4_areAlikeAt_134 (by decide) ?_
                  refine lv_istore (lv' := [(4, .int 0), (7, .int (((8 * x1) + (2 * x3)) + x5)), (6, .int (((8 * x1) + (2 * x2)) + x5)), (0, .ref (g.2.2 0 0)), (1, .int x1), (2, .int x2), (3, .int x3), (5, .int x5)]) hx hb dX4_areAlikeAt_135 hl (by decide) rfl (fun ls hl => ?_)
                  refine lv_iinc (v := x5 + 1) (lv' := [(5, .int (x5 + 1)), (4, .int 0), (7, .int (((8 * x1) + (2 * x3)) + x5)), (6, .int (((8 * x1) + (2 * x2)) + x5)), (0, .ref (g.2.2 0 0)), (1, .int x1), (2, .int x2), (3, .int x3)]) hx hb dX4_areAlikeAt_137 hl (k := 7) rfl rfl (by decide) rfl (fun ls hl => ?_)
                  refine lv_goto (tgt := 33) hx hb dX4_areAlikeAt_140 (by decide) ?_
                  obtain rfl := Option.some.inj h
                  exact ih33 x1 x2 x3 0 (x5 + 1) ht33 H locs ls B (lv_sub hl [4, 5, 6, 7, 1, 0] rfl)
                · rw [if_pos c23] at h
                  refine lv_iconst (v := 1) hx hb dX4_areAlikeAt_130 (by decide) ?_
                  refine lv_goto (tgt := 135) hx hb dX4_areAlikeAt_131 (by decide) ?_
                  refine lv_istore (lv' := [(4, .int 1), (7, .int (((8 * x1) + (2 * x3)) + x5)), (6, .int (((8 * x1) + (2 * x2)) + x5)), (0, .ref (g.2.2 0 0)), (1, .int x1), (2, .int x2), (3, .int x3), (5, .int x5)]) hx hb dX4_areAlikeAt_135 hl (by decide) rfl (fun ls hl => ?_)
                  refine lv_iinc (v := x5 + 1) (lv' := [(5, .int (x5 + 1)), (4, .int 1), (7, .int (((8 * x1) + (2 * x3)) + x5)), (6, .int (((8 * x1) + (2 * x2)) + x5)), (0, .ref (g.2.2 0 0)), (1, .int x1), (2, .int x2), (3, .int x3)]) hx hb dX4_areAlikeAt_137 hl (k := 7) rfl rfl (by decide) rfl (fun ls hl => ?_)
                  refine lv_goto (tgt := 33) hx hb dX4_areAlikeAt_140 (by decide) ?_
                  obtain rfl := Option.some.inj h
                  exact ih33 x1 x2 x3 1 (x5 + 1) ht33 H locs ls B (lv_sub hl [4, 5, 6, 7, 1, 0] rfl)
    exact L33 n x1 x2 x3 1 0 h H locs ls B (lv_sub hl [2, 3, 4, 5, 1, 0] rfl)
def j_X4_areAlike_91 (n : Nat) (S0 : mem) (x1 : Int32) (x2 : Int32) (x4 : Int32) : Option ((Int32 × Int32) ⊕ (Int32)) :=
some (.inl (1, (x4 + 1)))
def b_X4_areAlike_55 (n : Nat) (S0 : mem) (x1 : Int32) (x2 : Int32) : (Int32 × Int32) → Option ((Int32 × Int32) ⊕ (Int32)) := fun w =>
if (S0 0 0 1) ≤ w.2 then (
grd (w.1 = 0 ∨ w.1 = 1) (some (.inr (w.1)))) else (
if w.1 = 0 then (
some (.inl (0, (w.2 + 1)))) else (
grd (¬ (w.2 < 0 ∨ 60 ≤ Int32.toNatClampNeg w.2)) (
if (S0 8 0 (Int32.toNatClampNeg w.2)) = (-1000009) then (
cal (f_X4_areAlikeAt n S0 w.2 x1 x2) fun q8 => (
if q8 = 0 then (
some (.inl (0, (w.2 + 1)))) else (
j_X4_areAlike_91 n S0 x1 x2 w.2))) else (
j_X4_areAlike_91 n S0 x1 x2 w.2))))
/-- private boolean areAlike(int, int) -/
def f_X4_areAlike (n : Nat) (S0 : mem) (x1 : Int32) (x2 : Int32) : Option (Int32) :=
cal (f_X4_hasBoxes n S0 x1) fun q1 => (
if q1 = 0 then (
lp (b_X4_areAlike_55 n S0 x1 x2) n (0, 0)) else (
cal (f_X4_hasBoxes n S0 x2) fun q10 => (
if q10 = 0 then (
lp (b_X4_areAlike_55 n S0 x1 x2) n (0, 0)) else (
grd (¬ (x1 < 0 ∨ 4 ≤ Int32.toNatClampNeg x1)) (
grd (¬ (x2 < 0 ∨ 4 ≤ Int32.toNatClampNeg x2)) (
if (S0 15 0 (Int32.toNatClampNeg x1)) = (S0 15 0 (Int32.toNatClampNeg x2)) then (
if (S0 16 0 (Int32.toNatClampNeg x1)) = (S0 16 0 (Int32.toNatClampNeg x2)) then (
lp (b_X4_areAlike_55 n S0 x1 x2) n (1, 0)) else (
lp (b_X4_areAlike_55 n S0 x1 x2) n (0, 0))) else (
lp (b_X4_areAlike_55 n S0 x1 x2) n (0, 0))))))))
set_option maxRecDepth 100000 in
set_option maxHeartbeats 4000000 in
theorem c_X4_areAlike (l : Launch) (g : cx) (n : Nat) (S0 : mem) (sz : Nat) (x1 : Int32) (x2 : Int32) (q : Int32) (h : f_X4_areAlike n S0 x1 x2 = some q) : Met l yX4_areAlike (wsU yX4_areAlike cX4_areAlike 5 (some .boolean)) (rmD 2) (PcW ixM enM g S0 sz [.ref (g.2.2 0 0), .int x1, .int x2]) (QiW ixM enM g sz q S0) 0 0 (Aw ixM g sz) := by
  refine met_intro (Qc := fun z9 => QiW ixM enM g z9 q S0) (free := fun z9 => Aw ixM g z9) [.ref (g.2.2 0 0), .int x1, .int x2] RX4 rfl (by decide) (Nat.le_of_ble_eq_true rfl) (fun p e s m args below meth c H locs F hr hlocks B ls hl => ?_)
  have hl : lv_has ls 5 [(0, .ref (g.2.2 0 0)), (1, .int x1), (2, .int x2)] := hl
  have hx := F.1
  have hb := F.2.1
  unfold f_X4_areAlike at h
  refine lv_aload_n hx hb dX4_areAlike_0 rfl (lv_at hl 0 rfl) ?_
  refine lv_iload_n hx hb dX4_areAlike_1 rfl (lv_at hl 1 rfl) ?_
  obtain ⟨q1, hq1, h⟩ := cal_some h
  refine w_callVi F B (c_X4_hasBoxes l g n S0 H.size x1 q1 hq1) mC_X4_hasBoxes mM_X4_180 mN_X4 mI_X4_hasBoxes mS_X4_hasBoxes ixM_0 rfl rfl ⟨ok_X4_hasBoxes, by decide⟩ rfl hl.1 rfl (Nat.le_of_ble_eq_true rfl) dX4_areAlike_2 (fun H locs B => ?_)
  refine lv_if_eq (tgt := 50) hx hb dX4_areAlike_5 (by decide) (fun c2 => ?_) (fun c2 => ?_)
  · rw [if_pos c2] at h
    refine lv_iconst (v := 0) hx hb dX4_areAlike_50 (by decide) ?_
    refine lv_istore_n (lv' := [(3, .int 0), (0, .ref (g.2.2 0 0)), (1, .int x1), (2, .int x2)]) hx hb dX4_areAlike_51 rfl hl (by decide) rfl (fun ls hl => ?_)
    refine lv_iconst (v := 0) hx hb dX4_areAlike_52 (by decide) ?_
    refine lv_istore (lv' := [(4, .int 0), (3, .int 0), (0, .ref (g.2.2 0 0)), (1, .int x1), (2, .int x2)]) hx hb dX4_areAlike_53 hl (by decide) rfl (fun ls hl => ?_)
    have L55 : ∀ (k55 : Nat) (x1 : Int32) (x2 : Int32) (x3 : Int32) (x4 : Int32), lp (b_X4_areAlike_55 n S0 x1 x2) k55 (x3, x4) = some q → ∀ (H : Heap) (locs : List Loc) (ls : Array Slot), Wd ixM enM g S0 (Aw ixM g s.heap.size) s H locs → lv_has ls 5 [(0, .ref (g.2.2 0 0)), (1, .int x1), (2, .int x2), (3, .int x3), (4, .int x4)] → W p l e (rmD 2) s m args below meth c H locs 0 0 (MQ below (QiW ixM enM g s.heap.size q S0) args s 0 0 (Aw ixM g s.heap.size)) (F0 m 55 ls []) := by
      intro k55
      induction k55 with
      | zero => intro x1 x2 x3 x4 h; exact (lp_zero h).elim
      | succ k55 ih55 =>
        intro x1 x2 x3 x4 h H locs ls B hl
        obtain ⟨t55, h, ht55⟩ := lp_succ h
        unfold b_X4_areAlike_55 at h
        (try dsimp only at h)
        refine lv_iload hx hb dX4_areAlike_55 (lv_at hl 4 rfl) ?_
        refine lv_aload_n hx hb dX4_areAlike_57 rfl (lv_at hl 0 rfl) ?_
        refine gt_X4_1 F B mF_X4_7 dX4_areAlike_58 ?_
        refine lv_icmp_ge (tgt := 103) hx hb dX4_areAlike_61 (by decide) (fun c3 => ?_) (fun c3 => ?_)
        · rw [if_pos c3] at h
          refine lv_iload_n hx hb dX4_areAlike_103 rfl (lv_at hl 3 rfl) ?_
          obtain ⟨z4, h⟩ := grd_some h
          obtain rfl := Option.some.inj h
          obtain rfl := (show _ = q from ht55)
          exact w_zret F hr hlocks z4 B dX4_areAlike_104
        · rw [if_neg c3] at h
          refine lv_iload_n hx hb dX4_areAlike_64 rfl (lv_at hl 3 rfl) ?_
          refine lv_if_eq (tgt := 95) hx hb dX4_areAlike_65 (by decide) (fun c5 => ?_) (fun c5 => ?_)
          · rw [if_pos c5] at h
            refine lv_iconst (v := 0) hx hb dX4_areAlike_95 (by decide) ?_
            refine lv_istore_n (lv' := [(3, .int 0), (0, .ref (g.2.2 0 0)), (1, .int x1), (2, .int x2), (4, .int x4)]) hx hb dX4_areAlike_96 rfl hl (by decide) rfl (fun ls hl => ?_)
            refine lv_iinc (v := x4 + 1) (lv' := [(4, .int (x4 + 1)), (3, .int 0), (0, .ref (g.2.2 0 0)), (1, .int x1), (2, .int x2)]) hx hb dX4_areAlike_97 hl (k := 4) rfl rfl (by decide) rfl (fun ls hl => ?_)
            refine lv_goto (tgt := 55) hx hb dX4_areAlike_100 (by decide) ?_
            obtain rfl := Option.some.inj h
            exact ih55 x1 x2 0 (x4 + 1) ht55 H locs ls B (lv_sub hl [2, 3, 4, 1, 0] rfl)
          · rw [if_neg c5] at h
            refine lv_aload_n hx hb dX4_areAlike_68 rfl (lv_at hl 0 rfl) ?_
            refine gt_X4_8 F B mF_X4_70 dX4_areAlike_69 ?_
            refine lv_iload hx hb dX4_areAlike_72 (lv_at hl 4 rfl) ?_
            obtain ⟨z6, h⟩ := grd_some h
            refine al_M8 F B  z6 dX4_areAlike_74 ?_
            refine lv_ldc (v := -1000009) hx hb F.2.2.2.1 (F.2.2.2.2 _ (wsU_in mK_X4_115)) dX4_areAlike_75 ?_
            have J91 : ∀ (x4 : Int32), j_X4_areAlike_91 n S0 x1 x2 x4 = some t55 → ∀ (H : Heap) (locs : List Loc) (ls : Array Slot), Wd ixM enM g S0 (Aw ixM g s.heap.size) s H locs → lv_has ls 5 [(0, .ref (g.2.2 0 0)), (1, .int x1), (2, .int x2), (4, .int x4)] → W p l e (rmD 2) s m args below meth c H locs 0 0 (MQ below (QiW ixM enM g s.heap.size q S0) args s 0 0 (Aw ixM g s.heap.size)) (F0 m 91 ls []) := by
              intro x4 h H locs ls B hl
              unfold j_X4_areAlike_91 at h
              refine lv_iconst (v := 1) hx hb dX4_areAlike_91 (by decide) ?_
              refine lv_goto (tgt := 96) hx hb dX4_areAlike_92 (by decide) ?_
              refine lv_istore_n (lv' := [(3, .int 1), (0, .ref (g.2.2 0 0)), (1, .int x1), (2, .int x2), (4, .int x4)]) hx hb dX4_areAlike_96 rfl hl (by decide) rfl (fun ls hl => ?_)
              refine lv_iinc (v := x4 + 1) (lv' := [(4, .int (x4 + 1)), (3, .int 1), (0, .ref (g.2.2 0 0)), (1, .int x1), (2, .int x2)]) hx hb dX4_areAlike_97 hl (k := 4) rfl rfl (by decide) rfl (fun ls hl => ?_)
              refine lv_goto (tgt := 55) hx hb dX4_areAlike_100 (by decide) ?_
              obtain rfl := Option.some.inj h
              exact ih55 x1 x2 1 (x4 + 1) ht55 H locs ls B (lv_sub hl [2, 3, 4, 1, 0] rfl)
            refine lv_icmp_ne (tgt := 91) hx hb dX4_areAlike_77 (by decide) (fun c7 => ?_) (fun c7 => ?_)
            · rw [if_neg c7] at h
              exact J91 x4 h H locs ls B (lv_sub hl [0, 1, 2, 4] rfl)
            · rw [if_pos c7] at h
              refine lv_aload_n hx hb dX4_areAlike_80 rfl (lv_at hl 0 rfl) ?_
              refine lv_iload hx hb dX4_areAlike_81 (lv_at hl 4 rfl) ?_
              refine lv_iload_n hx hb dX4_areAlike_83 rfl (lv_at hl 1 rfl) ?_
              refine lv_iload_n hx hb dX4_areAlike_84 rfl (lv_at hl 2 rfl) ?_
              obtain ⟨q8, hq8, h⟩ := cal_some h
              refine w_callVi F B (c_X4_areAlikeAt l g n S0 H.size x4 x1 x2 q8 hq8) mC_X4_areAlikeAt mM_X4_190 mN_X4 mI_X4_areAlikeAt mS_X4_areAlikeAt ixM_0 rfl rfl ⟨ok_X4_areAlikeAt, by decide⟩ rfl hl.1 rfl (Nat.le_of_ble_eq_true rfl) dX4_areAlike_85 (fun H locs B => ?_)
              refine lv_if_eq (tgt := 95) hx hb dX4_areAlike_88 (by decide) (fun c9 => ?_) (fun c9 => ?_)
              · rw [if_pos c9] at h
                refine lv_iconst (v := 0) hx hb dX4_areAlike_95 (by decide) ?_
                refine lv_istore_n (lv' := [(3, .int 0), (0, .ref (g.2.2 0 0)), (1, .int x1), (2, .int x2), (4, .int x4)]) hx hb dX4_areAlike_96 rfl hl (by decide) rfl (fun ls hl => ?_)
                refine lv_iinc (v := x4 + 1) (lv' := [(4, .int (x4 + 1)), (3, .int 0), (0, .ref (g.2.2 0 0)), (1, .int x1), (2, .int x2)]) hx hb dX4_areAlike_97 hl (k := 4) rfl rfl (by decide) rfl (fun ls hl => ?_)
                refine lv_goto (tgt := 55) hx hb dX4_areAlike_100 (by decide) ?_
                obtain rfl := Option.some.inj h
                exact ih55 x1 x2 0 (x4 + 1) ht55 H locs ls B (lv_sub hl [2, 3, 4, 1, 0] rfl)
              · rw [if_neg c9] at h
                exact J91 x4 h H locs ls B (lv_sub hl [0, 1, 2, 4] rfl)
    exact L55 n x1 x2 0 0 h H locs ls B (lv_sub hl [2, 3, 4, 1, 0] rfl)
  · rw [if_neg c2] at h
    refine lv_aload_n hx hb dX4_areAlike_8 rfl (lv_at hl 0 rfl) ?_
    refine lv_iload_n hx hb dX4_areAlike_9 rfl (lv_at hl 2 rfl) ?_
    obtain ⟨q10, hq10, h⟩ := cal_some h
    refine w_callVi F B (c_X4_hasBoxes l g n S0 H.size x2 q10 hq10) mC_X4_hasBoxes mM_X4_180 mN_X4 mI_X4_hasBoxes mS_X4_hasBoxes ixM_0 rfl rfl ⟨ok_X4_hasBoxes, by decide⟩ rfl hl.1 rfl (Nat.le_of_ble_eq_true rfl) dX4_areAlike_10 (fun H locs B => ?_)
    refine lv_if_eq (tgt := 50) hx hb dX4_areAlike_13 (by decide) (fun c11 => ?_) (fun c11 => ?_)
    · rw [if_pos c11] at h
      refine lv_iconst (v := 0) hx hb dX4_areAlike_50 (by decide) ?_
      refine lv_istore_n (lv' := [(3, .int 0), (0, .ref (g.2.2 0 0)), (1, .int x1), (2, .int x2)]) hx hb dX4_areAlike_51 rfl hl (by decide) rfl (fun ls hl => ?_)
      refine lv_iconst (v := 0) hx hb dX4_areAlike_52 (by decide) ?_
      refine lv_istore (lv' := [(4, .int 0), (3, .int 0), (0, .ref (g.2.2 0 0)), (1, .int x1), (2, .int x2)]) hx hb dX4_areAlike_53 hl (by decide) rfl (fun ls hl => ?_)
      have L55 : ∀ (k55 : Nat) (x1 : Int32) (x2 : Int32) (x3 : Int32) (x4 : Int32), lp (b_X4_areAlike_55 n S0 x1 x2) k55 (x3, x4) = some q → ∀ (H : Heap) (locs : List Loc) (ls : Array Slot), Wd ixM enM g S0 (Aw ixM g s.heap.size) s H locs → lv_has ls 5 [(0, .ref (g.2.2 0 0)), (1, .int x1), (2, .int x2), (3, .int x3), (4, .int x4)] → W p l e (rmD 2) s m args below meth c H locs 0 0 (MQ below (QiW ixM enM g s.heap.size q S0) args s 0 0 (Aw ixM g s.heap.size)) (F0 m 55 ls []) := by
        intro k55
        induction k55 with
        | zero => intro x1 x2 x3 x4 h; exact (lp_zero h).elim
        | succ k55 ih55 =>
          intro x1 x2 x3 x4 h H locs ls B hl
          obtain ⟨t55, h, ht55⟩ := lp_succ h
          unfold b_X4_areAlike_55 at h
          (try dsimp only at h)
          refine lv_iload hx hb dX4_areAlike_55 (lv_at hl 4 rfl) ?_
          refine lv_aload_n hx hb dX4_areAlike_57 rfl (lv_at hl 0 rfl) ?_
          refine gt_X4_1 F B mF_X4_7 dX4_areAlike_58 ?_
          refine lv_icmp_ge (tgt := 103) hx hb dX4_areAlike_61 (by decide) (fun c12 => ?_) (fun c12 => ?_)
          · rw [if_pos c12] at h
            refine lv_iload_n hx hb dX4_areAlike_103 rfl (lv_at hl 3 rfl) ?_
            obtain ⟨z13, h⟩ := grd_some h
            obtain rfl := Option.some.inj h
            obtain rfl := (show _ = q from ht55)
            exact w_zret F hr hlocks z13 B dX4_areAlike_104
          · rw [if_neg c12] at h
            refine lv_iload_n hx hb dX4_areAlike_64 rfl (lv_at hl 3 rfl) ?_
            refine lv_if_eq (tgt := 95) hx hb dX4_areAlike_65 (by decide) (fun c14 => ?_) (fun c14 => ?_)
            · rw [if_pos c14] at h
              refine lv_iconst (v := 0) hx hb dX4_areAlike_95 (by decide) ?_
              refine lv_istore_n (lv' := [(3, .int 0), (0, .ref (g.2.2 0 0)), (1, .int x1), (2, .int x2), (4, .int x4)]) hx hb dX4_areAlike_96 rfl hl (by decide) rfl (fun ls hl => ?_)
              refine lv_iinc (v := x4 + 1) (lv' := [(4, .int (x4 + 1)), (3, .int 0), (0, .ref (g.2.2 0 0)), (1, .int x1), (2, .int x2)]) hx hb dX4_areAlike_97 hl (k := 4) rfl rfl (by decide) rfl (fun ls hl => ?_)
              refine lv_goto (tgt := 55) hx hb dX4_areAlike_100 (by decide) ?_
              obtain rfl := Option.some.inj h
              exact ih55 x1 x2 0 (x4 + 1) ht55 H locs ls B (lv_sub hl [2, 3, 4, 1, 0] rfl)
            · rw [if_neg c14] at h
              refine lv_aload_n hx hb dX4_areAlike_68 rfl (lv_at hl 0 rfl) ?_
              refine gt_X4_8 F B mF_X4_70 dX4_areAlike_69 ?_
              refine lv_iload hx hb dX4_areAlike_72 (lv_at hl 4 rfl) ?_
              obtain ⟨z15, h⟩ := grd_some h
              refine al_M8 F B  z15 dX4_areAlike_74 ?_
              refine lv_ldc (v := -1000009) hx hb F.2.2.2.1 (F.2.2.2.2 _ (wsU_in mK_X4_115)) dX4_areAlike_75 ?_
              have J91 : ∀ (x4 : Int32), j_X4_areAlike_91 n S0 x1 x2 x4 = some t55 → ∀ (H : Heap) (locs : List Loc) (ls : Array Slot), Wd ixM enM g S0 (Aw ixM g s.heap.size) s H locs → lv_has ls 5 [(0, .ref (g.2.2 0 0)), (1, .int x1), (2, .int x2), (4, .int x4)] → W p l e (rmD 2) s m args below meth c H locs 0 0 (MQ below (QiW ixM enM g s.heap.size q S0) args s 0 0 (Aw ixM g s.heap.size)) (F0 m 91 ls []) := by
                intro x4 h H locs ls B hl
                unfold j_X4_areAlike_91 at h
                refine lv_iconst (v := 1) hx hb dX4_areAlike_91 (by decide) ?_
                refine lv_goto (tgt := 96) hx hb dX4_areAlike_92 (by decide) ?_
                refine lv_istore_n (lv' := [(3, .int 1), (0, .ref (g.2.2 0 0)), (1, .int x1), (2, .int x2), (4, .int x4)]) hx hb dX4_areAlike_96 rfl hl (by decide) rfl (fun ls hl => ?_)
                refine lv_iinc (v := x4 + 1) (lv' := [(4, .int (x4 + 1)), (3, .int 1), (0, .ref (g.2.2 0 0)), (1, .int x1), (2, .int x2)]) hx hb dX4_areAlike_97 hl (k := 4) rfl rfl (by decide) rfl (fun ls hl => ?_)
                refine lv_goto (tgt := 55) hx hb dX4_areAlike_100 (by decide) ?_
                obtain rfl := Option.some.inj h
                exact ih55 x1 x2 1 (x4 + 1) ht55 H locs ls B (lv_sub hl [2, 3, 4, 1, 0] rfl)
              refine lv_icmp_ne (tgt := 91) hx hb dX4_areAlike_77 (by decide) (fun c16 => ?_) (fun c16 => ?_)
              · rw [if_neg c16] at h
                exact J91 x4 h H locs ls B (lv_sub hl [0, 1, 2, 4] rfl)
              · rw [if_pos c16] at h
                refine lv_aload_n hx hb dX4_areAlike_80 rfl (lv_at hl 0 rfl) ?_
                refine lv_iload hx hb dX4_areAlike_81 (lv_at hl 4 rfl) ?_
                refine lv_iload_n hx hb dX4_areAlike_83 rfl (lv_at hl 1 rfl) ?_
                refine lv_iload_n hx hb dX4_areAlike_84 rfl (lv_at hl 2 rfl) ?_
                obtain ⟨q17, hq17, h⟩ := cal_some h
                refine w_callVi F B (c_X4_areAlikeAt l g n S0 H.size x4 x1 x2 q17 hq17) mC_X4_areAlikeAt mM_X4_190 mN_X4 mI_X4_areAlikeAt mS_X4_areAlikeAt ixM_0 rfl rfl ⟨ok_X4_areAlikeAt, by decide⟩ rfl hl.1 rfl (Nat.le_of_ble_eq_true rfl) dX4_areAlike_85 (fun H locs B => ?_)
                refine lv_if_eq (tgt := 95) hx hb dX4_areAlike_88 (by decide) (fun c18 => ?_) (fun c18 => ?_)
                · rw [if_pos c18] at h
                  refine lv_iconst (v := 0) hx hb dX4_areAlike_95 (by decide) ?_
                  refine lv_istore_n (lv' := [(3, .int 0), (0, .ref (g.2.2 0 0)), (1, .int x1), (2, .int x2), (4, .int x4)]) hx hb dX4_areAlike_96 rfl hl (by decide) rfl (fun ls hl => ?_)
                  refine lv_iinc (v := x4 + 1) (lv' := [(4, .int (x4 + 1)), (3, .int 0), (0, .ref (g.2.2 0 0)), (1, .int x1), (2, .int x2)]) hx hb dX4_areAlike_97 hl (k := 4) rfl rfl (by decide) rfl (fun ls hl => ?_)
                  refine lv_goto (tgt := 55) hx hb dX4_areAlike_100 (by decide) ?_
                  obtain rfl := Option.some.inj h
                  exact ih55 x1 x2 0 (x4 + 1) ht55 H locs ls B (lv_sub hl [2, 3, 4, 1, 0] rfl)
                · rw [if_neg c18] at h
                  exact J91 x4 h H locs ls B (lv_sub hl [0, 1, 2, 4] rfl)
      exact L55 n x1 x2 0 0 h H locs ls B (lv_sub hl [2, 3, 4, 1, 0] rfl)
    · rw [if_neg c11] at h
      refine lv_aload_n hx hb dX4_areAlike_16 rfl (lv_at hl 0 rfl) ?_
      refine gt_X4_15 F B mF_X4_38 dX4_areAlike_17 ?_
      refine lv_iload_n hx hb dX4_areAlike_20 rfl (lv_at hl 1 rfl) ?_
      obtain ⟨z19, h⟩ := grd_some h
      refine al_M15 F B  z19 dX4_areAlike_21 ?_
      refine lv_aload_n hx hb dX4_areAlike_22 rfl (lv_at hl 0 rfl) ?_
      refine gt_X4_15 F B mF_X4_38 dX4_areAlike_23 ?_
      refine lv_iload_n hx hb dX4_areAlike_26 rfl (lv_at hl 2 rfl) ?_
      obtain ⟨z20, h⟩ := grd_some h
      refine al_M15 F B  z20 dX4_areAlike_27 ?_
      refine lv_icmp_ne (tgt := 50) hx hb dX4_areAlike_28 (by decide) (fun c21 => ?_) (fun c21 => ?_)
      · rw [if_neg c21] at h
        refine lv_iconst (v := 0) hx hb dX4_areAlike_50 (by decide) ?_
        refine lv_istore_n (lv' := [(3, .int 0), (0, .ref (g.2.2 0 0)), (1, .int x1), (2, .int x2)]) hx hb dX4_areAlike_51 rfl hl (by decide) rfl (fun ls hl => ?_)
        refine lv_iconst (v := 0) hx hb dX4_areAlike_52 (by decide) ?_
        refine lv_istore (lv' := [(4, .int 0), (3, .int 0), (0, .ref (g.2.2 0 0)), (1, .int x1), (2, .int x2)]) hx hb dX4_areAlike_53 hl (by decide) rfl (fun ls hl => ?_)
        have L55 : ∀ (k55 : Nat) (x1 : Int32) (x2 : Int32) (x3 : Int32) (x4 : Int32), lp (b_X4_areAlike_55 n S0 x1 x2) k55 (x3, x4) = some q → ∀ (H : Heap) (locs : List Loc) (ls : Array Slot), Wd ixM enM g S0 (Aw ixM g s.heap.size) s H locs → lv_has ls 5 [(0, .ref (g.2.2 0 0)), (1, .int x1), (2, .int x2), (3, .int x3), (4, .int x4)] → W p l e (rmD 2) s m args below meth c H locs 0 0 (MQ below (QiW ixM enM g s.heap.size q S0) args s 0 0 (Aw ixM g s.heap.size)) (F0 m 55 ls []) := by
          intro k55
          induction k55 with
          | zero => intro x1 x2 x3 x4 h; exact (lp_zero h).elim
          | succ k55 ih55 =>
            intro x1 x2 x3 x4 h H locs ls B hl
            obtain ⟨t55, h, ht55⟩ := lp_succ h
            unfold b_X4_areAlike_55 at h
            (try dsimp only at h)
            refine lv_iload hx hb dX4_areAlike_55 (lv_at hl 4 rfl) ?_
            refine lv_aload_n hx hb dX4_areAlike_57 rfl (lv_at hl 0 rfl) ?_
            refine gt_X4_1 F B mF_X4_7 dX4_areAlike_58 ?_
            refine lv_icmp_ge (tgt := 103) hx hb dX4_areAlike_61 (by decide) (fun c22 => ?_) (fun c22 => ?_)
            · rw [if_pos c22] at h
              refine lv_iload_n hx hb dX4_areAlike_103 rfl (lv_at hl 3 rfl) ?_
              obtain ⟨z23, h⟩ := grd_some h
              obtain rfl := Option.some.inj h
              obtain rfl := (show _ = q from ht55)
              exact w_zret F hr hlocks z23 B dX4_areAlike_104
            · rw [if_neg c22] at h
              refine lv_iload_n hx hb dX4_areAlike_64 rfl (lv_at hl 3 rfl) ?_
              refine lv_if_eq (tgt := 95) hx hb dX4_areAlike_65 (by decide) (fun c24 => ?_) (fun c24 => ?_)
              · rw [if_pos c24] at h
                refine lv_iconst (v := 0) hx hb dX4_areAlike_95 (by decide) ?_
                refine lv_istore_n (lv' := [(3, .int 0), (0, .ref (g.2.2 0 0)), (1, .int x1), (2, .int x2), (4, .int x4)]) hx hb dX4_areAlike_96 rfl hl (by decide) rfl (fun ls hl => ?_)
                refine lv_iinc (v := x4 + 1) (lv' := [(4, .int (x4 + 1)), (3, .int 0), (0, .ref (g.2.2 0 0)), (1, .int x1), (2, .int x2)]) hx hb dX4_areAlike_97 hl (k := 4) rfl rfl (by decide) rfl (fun ls hl => ?_)
                refine lv_goto (tgt := 55) hx hb dX4_areAlike_100 (by decide) ?_
                obtain rfl := Option.some.inj h
                exact ih55 x1 x2 0 (x4 + 1) ht55 H locs ls B (lv_sub hl [2, 3, 4, 1, 0] rfl)
              · rw [if_neg c24] at h
                refine lv_aload_n hx hb dX4_areAlike_68 rfl (lv_at hl 0 rfl) ?_
                refine gt_X4_8 F B mF_X4_70 dX4_areAlike_69 ?_
                refine lv_iload hx hb dX4_areAlike_72 (lv_at hl 4 rfl) ?_
                obtain ⟨z25, h⟩ := grd_some h
                refine al_M8 F B  z25 dX4_areAlike_74 ?_
                refine lv_ldc (v := -1000009) hx hb F.2.2.2.1 (F.2.2.2.2 _ (wsU_in mK_X4_115)) dX4_areAlike_75 ?_
                have J91 : ∀ (x4 : Int32), j_X4_areAlike_91 n S0 x1 x2 x4 = some t55 → ∀ (H : Heap) (locs : List Loc) (ls : Array Slot), Wd ixM enM g S0 (Aw ixM g s.heap.size) s H locs → lv_has ls 5 [(0, .ref (g.2.2 0 0)), (1, .int x1), (2, .int x2), (4, .int x4)] → W p l e (rmD 2) s m args below meth c H locs 0 0 (MQ below (QiW ixM enM g s.heap.size q S0) args s 0 0 (Aw ixM g s.heap.size)) (F0 m 91 ls []) := by
                  intro x4 h H locs ls B hl
                  unfold j_X4_areAlike_91 at h
                  refine lv_iconst (v := 1) hx hb dX4_areAlike_91 (by decide) ?_
                  refine lv_goto (tgt := 96) hx hb dX4_areAlike_92 (by decide) ?_
                  refine lv_istore_n (lv' := [(3, .int 1), (0, .ref (g.2.2 0 0)), (1, .int x1), (2, .int x2), (4, .int x4)]) hx hb dX4_areAlike_96 rfl hl (by decide) rfl (fun ls hl => ?_)
                  refine lv_iinc (v := x4 + 1) (lv' := [(4, .int (x4 + 1)), (3, .int 1), (0, .ref (g.2.2 0 0)), (1, .int x1), (2, .int x2)]) hx hb dX4_areAlike_97 hl (k := 4) rfl rfl (by decide) rfl (fun ls hl => ?_)
                  refine lv_goto (tgt := 55) hx hb dX4_areAlike_100 (by decide) ?_
                  obtain rfl := Option.some.inj h
                  exact ih55 x1 x2 1 (x4 + 1) ht55 H locs ls B (lv_sub hl [2, 3, 4, 1, 0] rfl)
                refine lv_icmp_ne (tgt := 91) hx hb dX4_areAlike_77 (by decide) (fun c26 => ?_) (fun c26 => ?_)
                · rw [if_neg c26] at h
                  exact J91 x4 h H locs ls B (lv_sub hl [0, 1, 2, 4] rfl)
                · rw [if_pos c26] at h
                  refine lv_aload_n hx hb dX4_areAlike_80 rfl (lv_at hl 0 rfl) ?_
                  refine lv_iload hx hb dX4_areAlike_81 (lv_at hl 4 rfl) ?_
                  refine lv_iload_n hx hb dX4_areAlike_83 rfl (lv_at hl 1 rfl) ?_
                  refine lv_iload_n hx hb dX4_areAlike_84 rfl (lv_at hl 2 rfl) ?_
                  obtain ⟨q27, hq27, h⟩ := cal_some h
                  refine w_callVi F B (c_X4_areAlikeAt l g n S0 H.size x4 x1 x2 q27 hq27) mC_X4_areAlikeAt mM_X4_190 mN_X4 mI_X4_areAlikeAt mS_X4_areAlikeAt ixM_0 rfl rfl ⟨ok_X4_areAlikeAt, by decide⟩ rfl hl.1 rfl (Nat.le_of_ble_eq_true rfl) dX4_areAlike_85 (fun H locs B => ?_)
                  refine lv_if_eq (tgt := 95) hx hb dX4_areAlike_88 (by decide) (fun c28 => ?_) (fun c28 => ?_)
                  · rw [if_pos c28] at h
                    refine lv_iconst (v := 0) hx hb dX4_areAlike_95 (by decide) ?_
                    refine lv_istore_n (lv' := [(3, .int 0), (0, .ref (g.2.2 0 0)), (1, .int x1), (2, .int x2), (4, .int x4)]) hx hb dX4_areAlike_96 rfl hl (by decide) rfl (fun ls hl => ?_)
                    refine lv_iinc (v := x4 + 1) (lv' := [(4, .int (x4 + 1)), (3, .int 0), (0, .ref (g.2.2 0 0)), (1, .int x1), (2, .int x2)]) hx hb dX4_areAlike_97 hl (k := 4) rfl rfl (by decide) rfl (fun ls hl => ?_)
                    refine lv_goto (tgt := 55) hx hb dX4_areAlike_100 (by decide) ?_
                    obtain rfl := Option.some.inj h
                    exact ih55 x1 x2 0 (x4 + 1) ht55 H locs ls B (lv_sub hl [2, 3, 4, 1, 0] rfl)
                  · rw [if_neg c28] at h
                    exact J91 x4 h H locs ls B (lv_sub hl [0, 1, 2, 4] rfl)
        exact L55 n x1 x2 0 0 h H locs ls B (lv_sub hl [2, 3, 4, 1, 0] rfl)
      · rw [if_pos c21] at h
        refine lv_aload_n hx hb dX4_areAlike_31 rfl (lv_at hl 0 rfl) ?_
        refine gt_X4_16 F B mF_X4_42 dX4_areAlike_32 ?_
        refine lv_iload_n hx hb dX4_areAlike_35 rfl (lv_at hl 1 rfl) ?_
        refine al_M16 F B  z19 dX4_areAlike_36 ?_
        refine lv_aload_n hx hb dX4_areAlike_37 rfl (lv_at hl 0 rfl) ?_
        refine gt_X4_16 F B mF_X4_42 dX4_areAlike_38 ?_
        refine lv_iload_n hx hb dX4_areAlike_41 rfl (lv_at hl 2 rfl) ?_
        refine al_M16 F B  z20 dX4_areAlike_42 ?_
        refine lv_icmp_ne (tgt := 50) hx hb dX4_areAlike_43 (by decide) (fun c29 => ?_) (fun c29 => ?_)
        · rw [if_neg c29] at h
          refine lv_iconst (v := 0) hx hb dX4_areAlike_50 (by decide) ?_
          refine lv_istore_n (lv' := [(3, .int 0), (0, .ref (g.2.2 0 0)), (1, .int x1), (2, .int x2)]) hx hb dX4_areAlike_51 rfl hl (by decide) rfl (fun ls hl => ?_)
          refine lv_iconst (v := 0) hx hb dX4_areAlike_52 (by decide) ?_
          refine lv_istore (lv' := [(4, .int 0), (3, .int 0), (0, .ref (g.2.2 0 0)), (1, .int x1), (2, .int x2)]) hx hb dX4_areAlike_53 hl (by decide) rfl (fun ls hl => ?_)
          have L55 : ∀ (k55 : Nat) (x1 : Int32) (x2 : Int32) (x3 : Int32) (x4 : Int32), lp (b_X4_areAlike_55 n S0 x1 x2) k55 (x3, x4) = some q → ∀ (H : Heap) (locs : List Loc) (ls : Array Slot), Wd ixM enM g S0 (Aw ixM g s.heap.size) s H locs → lv_has ls 5 [(0, .ref (g.2.2 0 0)), (1, .int x1), (2, .int x2), (3, .int x3), (4, .int x4)] → W p l e (rmD 2) s m args below meth c H locs 0 0 (MQ below (QiW ixM enM g s.heap.size q S0) args s 0 0 (Aw ixM g s.heap.size)) (F0 m 55 ls []) := by
            intro k55
            induction k55 with
            | zero => intro x1 x2 x3 x4 h; exact (lp_zero h).elim
            | succ k55 ih55 =>
              intro x1 x2 x3 x4 h H locs ls B hl
              obtain ⟨t55, h, ht55⟩ := lp_succ h
              unfold b_X4_areAlike_55 at h
              (try dsimp only at h)
              refine lv_iload hx hb dX4_areAlike_55 (lv_at hl 4 rfl) ?_
              refine lv_aload_n hx hb dX4_areAlike_57 rfl (lv_at hl 0 rfl) ?_
              refine gt_X4_1 F B mF_X4_7 dX4_areAlike_58 ?_
              refine lv_icmp_ge (tgt := 103) hx hb dX4_areAlike_61 (by decide) (fun c30 => ?_) (fun c30 => ?_)
              · rw [if_pos c30] at h
                refine lv_iload_n hx hb dX4_areAlike_103 rfl (lv_at hl 3 rfl) ?_
                obtain ⟨z31, h⟩ := grd_some h
                obtain rfl := Option.some.inj h
                obtain rfl := (show _ = q from ht55)
                exact w_zret F hr hlocks z31 B dX4_areAlike_104
              · rw [if_neg c30] at h
                refine lv_iload_n hx hb dX4_areAlike_64 rfl (lv_at hl 3 rfl) ?_
                refine lv_if_eq (tgt := 95) hx hb dX4_areAlike_65 (by decide) (fun c32 => ?_) (fun c32 => ?_)
                · rw [if_pos c32] at h
                  refine lv_iconst (v := 0) hx hb dX4_areAlike_95 (by decide) ?_
                  refine lv_istore_n (lv' := [(3, .int 0), (0, .ref (g.2.2 0 0)), (1, .int x1), (2, .int x2), (4, .int x4)]) hx hb dX4_areAlike_96 rfl hl (by decide) rfl (fun ls hl => ?_)
                  refine lv_iinc (v := x4 + 1) (lv' := [(4, .int (x4 + 1)), (3, .int 0), (0, .ref (g.2.2 0 0)), (1, .int x1), (2, .int x2)]) hx hb dX4_areAlike_97 hl (k := 4) rfl rfl (by decide) rfl (fun ls hl => ?_)
                  refine lv_goto (tgt := 55) hx hb dX4_areAlike_100 (by decide) ?_
                  obtain rfl := Option.some.inj h
                  exact ih55 x1 x2 0 (x4 + 1) ht55 H locs ls B (lv_sub hl [2, 3, 4, 1, 0] rfl)
                · rw [if_neg c32] at h
                  refine lv_aload_n hx hb dX4_areAlike_68 rfl (lv_at hl 0 rfl) ?_
                  refine gt_X4_8 F B mF_X4_70 dX4_areAlike_69 ?_
                  refine lv_iload hx hb dX4_areAlike_72 (lv_at hl 4 rfl) ?_
                  obtain ⟨z33, h⟩ := grd_some h
                  refine al_M8 F B  z33 dX4_areAlike_74 ?_
                  refine lv_ldc (v := -1000009) hx hb F.2.2.2.1 (F.2.2.2.2 _ (wsU_in mK_X4_115)) dX4_areAlike_75 ?_
                  have J91 : ∀ (x4 : Int32), j_X4_areAlike_91 n S0 x1 x2 x4 = some t55 → ∀ (H : Heap) (locs : List Loc) (ls : Array Slot), Wd ixM enM g S0 (Aw ixM g s.heap.size) s H locs → lv_has ls 5 [(0, .ref (g.2.2 0 0)), (1, .int x1), (2, .int x2), (4, .int x4)] → W p l e (rmD 2) s m args below meth c H locs 0 0 (MQ below (QiW ixM enM g s.heap.size q S0) args s 0 0 (Aw ixM g s.heap.size)) (F0 m 91 ls []) := by
                    intro x4 h H locs ls B hl
                    unfold j_X4_areAlike_91 at h
                    refine lv_iconst (v := 1) hx hb dX4_areAlike_91 (by decide) ?_
                    refine lv_goto (tgt := 96) hx hb dX4_areAlike_92 (by decide) ?_
                    refine lv_istore_n (lv' := [(3, .int 1), (0, .ref (g.2.2 0 0)), (1, .int x1), (2, .int x2), (4, .int x4)]) hx hb dX4_areAlike_96 rfl hl (by decide) rfl (fun ls hl => ?_)
                    refine lv_iinc (v := x4 + 1) (lv' := [(4, .int (x4 + 1)), (3, .int 1), (0, .ref (g.2.2 0 0)), (1, .int x1), (2, .int x2)]) hx hb dX4_areAlike_97 hl (k := 4) rfl rfl (by decide) rfl (fun ls hl => ?_)
                    refine lv_goto (tgt := 55) hx hb dX4_areAlike_100 (by decide) ?_
                    obtain rfl := Option.some.inj h
                    exact ih55 x1 x2 1 (x4 + 1) ht55 H locs ls B (lv_sub hl [2, 3, 4, 1, 0] rfl)
                  refine lv_icmp_ne (tgt := 91) hx hb dX4_areAlike_77 (by decide) (fun c34 => ?_) (fun c34 => ?_)
                  · rw [if_neg c34] at h
                    exact J91 x4 h H locs ls B (lv_sub hl [0, 1, 2, 4] rfl)
                  · rw [if_pos c34] at h
                    refine lv_aload_n hx hb dX4_areAlike_80 rfl (lv_at hl 0 rfl) ?_
                    refine lv_iload hx hb dX4_areAlike_81 (lv_at hl 4 rfl) ?_
                    refine lv_iload_n hx hb dX4_areAlike_83 rfl (lv_at hl 1 rfl) ?_
                    refine lv_iload_n hx hb dX4_areAlike_84 rfl (lv_at hl 2 rfl) ?_
                    obtain ⟨q35, hq35, h⟩ := cal_some h
                    refine w_callVi F B (c_X4_areAlikeAt l g n S0 H.size x4 x1 x2 q35 hq35) mC_X4_areAlikeAt mM_X4_190 mN_X4 mI_X4_areAlikeAt mS_X4_areAlikeAt ixM_0 rfl rfl ⟨ok_X4_areAlikeAt, by decide⟩ rfl hl.1 rfl (Nat.le_of_ble_eq_true rfl) dX4_areAlike_85 (fun H locs B => ?_)
                    refine lv_if_eq (tgt := 95) hx hb dX4_areAlike_88 (by decide) (fun c36 => ?_) (fun c36 => ?_)
                    · rw [if_pos c36] at h
                      refine lv_iconst (v := 0) hx hb dX4_areAlike_95 (by decide) ?_
                      refine lv_istore_n (lv' := [(3, .int 0), (0, .ref (g.2.2 0 0)), (1, .int x1), (2, .int x2), (4, .int x4)]) hx hb dX4_areAlike_96 rfl hl (by decide) rfl (fun ls hl => ?_)
                      refine lv_iinc (v := x4 + 1) (lv' := [(4, .int (x4 + 1)), (3, .int 0), (0, .ref (g.2.2 0 0)), (1, .int x1), (2, .int x2)]) hx hb dX4_areAlike_97 hl (k := 4) rfl rfl (by decide) rfl (fun ls hl => ?_)
                      refine lv_goto (tgt := 55) hx hb dX4_areAlike_100 (by decide) ?_
                      obtain rfl := Option.some.inj h
                      exact ih55 x1 x2 0 (x4 + 1) ht55 H locs ls B (lv_sub hl [2, 3, 4, 1, 0] rfl)
                    · rw [if_neg c36] at h
                      exact J91 x4 h H locs ls B (lv_sub hl [0, 1, 2, 4] rfl)
          exact L55 n x1 x2 0 0 h H locs ls B (lv_sub hl [2, 3, 4, 1, 0] rfl)
        · rw [if_pos c29] at h
          refine lv_iconst (v := 1) hx hb dX4_areAlike_46 (by decide) ?_
          refine lv_goto (tgt := 51) hx hb dX4_areAlike_47 (by decide) ?_
          refine lv_istore_n (lv' := [(3, .int 1), (0, .ref (g.2.2 0 0)), (1, .int x1), (2, .int x2)]) hx hb dX4_areAlike_51 rfl hl (by decide) rfl (fun ls hl => ?_)
          refine lv_iconst (v := 0) hx hb dX4_areAlike_52 (by decide) ?_
          refine lv_istore (lv' := [(4, .int 0), (3, .int 1), (0, .ref (g.2.2 0 0)), (1, .int x1), (2, .int x2)]) hx hb dX4_areAlike_53 hl (by decide) rfl (fun ls hl => ?_)
          have L55 : ∀ (k55 : Nat) (x1 : Int32) (x2 : Int32) (x3 : Int32) (x4 : Int32), lp (b_X4_areAlike_55 n S0 x1 x2) k55 (x3, x4) = some q → ∀ (H : Heap) (locs : List Loc) (ls : Array Slot), Wd ixM enM g S0 (Aw ixM g s.heap.size) s H locs → lv_has ls 5 [(0, .ref (g.2.2 0 0)), (1, .int x1), (2, .int x2), (3, .int x3), (4, .int x4)] → W p l e (rmD 2) s m args below meth c H locs 0 0 (MQ below (QiW ixM enM g s.heap.size q S0) args s 0 0 (Aw ixM g s.heap.size)) (F0 m 55 ls []) := by
            intro k55
            induction k55 with
            | zero => intro x1 x2 x3 x4 h; exact (lp_zero h).elim
            | succ k55 ih55 =>
              intro x1 x2 x3 x4 h H locs ls B hl
              obtain ⟨t55, h, ht55⟩ := lp_succ h
              unfold b_X4_areAlike_55 at h
              (try dsimp only at h)
              refine lv_iload hx hb dX4_areAlike_55 (lv_at hl 4 rfl) ?_
              refine lv_aload_n hx hb dX4_areAlike_57 rfl (lv_at hl 0 rfl) ?_
              refine gt_X4_1 F B mF_X4_7 dX4_areAlike_58 ?_
              refine lv_icmp_ge (tgt := 103) hx hb dX4_areAlike_61 (by decide) (fun c37 => ?_) (fun c37 => ?_)
              · rw [if_pos c37] at h
                refine lv_iload_n hx hb dX4_areAlike_103 rfl (lv_at hl 3 rfl) ?_
                obtain ⟨z38, h⟩ := grd_some h
                obtain rfl := Option.some.inj h
                obtain rfl := (show _ = q from ht55)
                exact w_zret F hr hlocks z38 B dX4_areAlike_104
              · rw [if_neg c37] at h
                refine lv_iload_n hx hb dX4_areAlike_64 rfl (lv_at hl 3 rfl) ?_
                refine lv_if_eq (tgt := 95) hx hb dX4_areAlike_65 (by decide) (fun c39 => ?_) (fun c39 => ?_)
                · rw [if_pos c39] at h
                  refine lv_iconst (v := 0) hx hb dX4_areAlike_95 (by decide) ?_
                  refine lv_istore_n (lv' := [(3, .int 0), (0, .ref (g.2.2 0 0)), (1, .int x1), (2, .int x2), (4, .int x4)]) hx hb dX4_areAlike_96 rfl hl (by decide) rfl (fun ls hl => ?_)
                  refine lv_iinc (v := x4 + 1) (lv' := [(4, .int (x4 + 1)), (3, .int 0), (0, .ref (g.2.2 0 0)), (1, .int x1), (2, .int x2)]) hx hb dX4_areAlike_97 hl (k := 4) rfl rfl (by decide) rfl (fun ls hl => ?_)
                  refine lv_goto (tgt := 55) hx hb dX4_areAlike_100 (by decide) ?_
                  obtain rfl := Option.some.inj h
                  exact ih55 x1 x2 0 (x4 + 1) ht55 H locs ls B (lv_sub hl [2, 3, 4, 1, 0] rfl)
                · rw [if_neg c39] at h
                  refine lv_aload_n hx hb dX4_areAlike_68 rfl (lv_at hl 0 rfl) ?_
                  refine gt_X4_8 F B mF_X4_70 dX4_areAlike_69 ?_
                  refine lv_iload hx hb dX4_areAlike_72 (lv_at hl 4 rfl) ?_
                  obtain ⟨z40, h⟩ := grd_some h
                  refine al_M8 F B  z40 dX4_areAlike_74 ?_
                  refine lv_ldc (v := -1000009) hx hb F.2.2.2.1 (F.2.2.2.2 _ (wsU_in mK_X4_115)) dX4_areAlike_75 ?_
                  have J91 : ∀ (x4 : Int32), j_X4_areAlike_91 n S0 x1 x2 x4 = some t55 → ∀ (H : Heap) (locs : List Loc) (ls : Array Slot), Wd ixM enM g S0 (Aw ixM g s.heap.size) s H locs → lv_has ls 5 [(0, .ref (g.2.2 0 0)), (1, .int x1), (2, .int x2), (4, .int x4)] → W p l e (rmD 2) s m args below meth c H locs 0 0 (MQ below (QiW ixM enM g s.heap.size q S0) args s 0 0 (Aw ixM g s.heap.size)) (F0 m 91 ls []) := by
                    intro x4 h H locs ls B hl
                    unfold j_X4_areAlike_91 at h
                    refine lv_iconst (v := 1) hx hb dX4_areAlike_91 (by decide) ?_
                    refine lv_goto (tgt := 96) hx hb dX4_areAlike_92 (by decide) ?_
                    refine lv_istore_n (lv' := [(3, .int 1), (0, .ref (g.2.2 0 0)), (1, .int x1), (2, .int x2), (4, .int x4)]) hx hb dX4_areAlike_96 rfl hl (by decide) rfl (fun ls hl => ?_)
                    refine lv_iinc (v := x4 + 1) (lv' := [(4, .int (x4 + 1)), (3, .int 1), (0, .ref (g.2.2 0 0)), (1, .int x1), (2, .int x2)]) hx hb dX4_areAlike_97 hl (k := 4) rfl rfl (by decide) rfl (fun ls hl => ?_)
                    refine lv_goto (tgt := 55) hx hb dX4_areAlike_100 (by decide) ?_
                    obtain rfl := Option.some.inj h
                    exact ih55 x1 x2 1 (x4 + 1) ht55 H locs ls B (lv_sub hl [2, 3, 4, 1, 0] rfl)
                  refine lv_icmp_ne (tgt := 91) hx hb dX4_areAlike_77 (by decide) (fun c41 => ?_) (fun c41 => ?_)
                  · rw [if_neg c41] at h
                    exact J91 x4 h H locs ls B (lv_sub hl [0, 1, 2, 4] rfl)
                  · rw [if_pos c41] at h
                    refine lv_aload_n hx hb dX4_areAlike_80 rfl (lv_at hl 0 rfl) ?_
                    refine lv_iload hx hb dX4_areAlike_81 (lv_at hl 4 rfl) ?_
                    refine lv_iload_n hx hb dX4_areAlike_83 rfl (lv_at hl 1 rfl) ?_
                    refine lv_iload_n hx hb dX4_areAlike_84 rfl (lv_at hl 2 rfl) ?_
                    obtain ⟨q42, hq42, h⟩ := cal_some h
                    refine w_callVi F B (c_X4_areAlikeAt l g n S0 H.size x4 x1 x2 q42 hq42) mC_X4_areAlikeAt mM_X4_190 mN_X4 mI_X4_areAlikeAt mS_X4_areAlikeAt ixM_0 rfl rfl ⟨ok_X4_areAlikeAt, by decide⟩ rfl hl.1 rfl (Nat.le_of_ble_eq_true rfl) dX4_areAlike_85 (fun H locs B => ?_)
                    refine lv_if_eq (tgt := 95) hx hb dX4_areAlike_88 (by decide) (fun c43 => ?_) (fun c43 => ?_)
                    · rw [if_pos c43] at h
                      refine lv_iconst (v := 0) hx hb dX4_areAlike_95 (by decide) ?_
                      refine lv_istore_n (lv' := [(3, .int 0), (0, .ref (g.2.2 0 0)), (1, .int x1), (2, .int x2), (4, .int x4)]) hx hb dX4_areAlike_96 rfl hl (by decide) rfl (fun ls hl => ?_)
                      refine lv_iinc (v := x4 + 1) (lv' := [(4, .int (x4 + 1)), (3, .int 0), (0, .ref (g.2.2 0 0)), (1, .int x1), (2, .int x2)]) hx hb dX4_areAlike_97 hl (k := 4) rfl rfl (by decide) rfl (fun ls hl => ?_)
                      refine lv_goto (tgt := 55) hx hb dX4_areAlike_100 (by decide) ?_
                      obtain rfl := Option.some.inj h
                      exact ih55 x1 x2 0 (x4 + 1) ht55 H locs ls B (lv_sub hl [2, 3, 4, 1, 0] rfl)
                    · rw [if_neg c43] at h
                      exact J91 x4 h H locs ls B (lv_sub hl [0, 1, 2, 4] rfl)
          exact L55 n x1 x2 1 0 h H locs ls B (lv_sub hl [2, 3, 4, 1, 0] rfl)
