def b_X4_sharedWith_2 (n : Nat) (S0 : mem) (x1 : Int32) : (Int32) → Option ((Int32) ⊕ (Int32)) := fun w =>
if x1 ≤ w then (
some (.inr (-1000009))) else (
cal (f_X4_areAlike n S0 w x1) fun q2 => (
if q2 = 0 then (
some (.inl ((w + 1)))) else (
some (.inr (w)))))
/-- private int sharedWith(int) -/
def f_X4_sharedWith (n : Nat) (S0 : mem) (x1 : Int32) : Option (Int32) :=
lp (b_X4_sharedWith_2 n S0 x1) n (0)
set_option maxRecDepth 100000 in
set_option maxHeartbeats 4000000 in
theorem c_X4_sharedWith (l : Launch) (g : cx) (n : Nat) (S0 : mem) (sz : Nat) (x1 : Int32) (q : Int32) (h : f_X4_sharedWith n S0 x1 = some q) : Met l yX4_sharedWith (wsU yX4_sharedWith cX4_sharedWith 3 (some .int)) (rmD 3) (PcW ixM enM g S0 sz [.ref (g.2.2 0 0), .int x1]) (QiW ixM enM g sz q S0) 0 0 (Aw ixM g sz) := by
  refine met_intro (Qc := fun z9 => QiW ixM enM g z9 q S0) (free := fun z9 => Aw ixM g z9) [.ref (g.2.2 0 0), .int x1] RX4 rfl (by decide) (Nat.le_of_ble_eq_true rfl) (fun p e s m args below meth c H locs F hr hlocks B ls hl => ?_)
  have hl : lv_has ls 3 [(0, .ref (g.2.2 0 0)), (1, .int x1)] := hl
  have hx := F.1
  have hb := F.2.1
  unfold f_X4_sharedWith at h
  refine lv_iconst (v := 0) hx hb dX4_sharedWith_0 (by decide) ?_
  refine lv_istore_n (lv' := [(2, .int 0), (0, .ref (g.2.2 0 0)), (1, .int x1)]) hx hb dX4_sharedWith_1 rfl hl (by decide) rfl (fun ls hl => ?_)
  have L2 : ∀ (k2 : Nat) (x1 : Int32) (x2 : Int32), lp (b_X4_sharedWith_2 n S0 x1) k2 (x2) = some q → ∀ (H : Heap) (locs : List Loc) (ls : Array Slot), Wd ixM enM g S0 (Aw ixM g s.heap.size) s H locs → lv_has ls 3 [(0, .ref (g.2.2 0 0)), (1, .int x1), (2, .int x2)] → W p l e (rmD 3) s m args below meth c H locs 0 0 (MQ below (QiW ixM enM g s.heap.size q S0) args s 0 0 (Aw ixM g s.heap.size)) (F0 m 2 ls []) := by
    intro k2
    induction k2 with
    | zero => intro x1 x2 h; exact (lp_zero h).elim
    | succ k2 ih2 =>
      intro x1 x2 h H locs ls B hl
      obtain ⟨t2, h, ht2⟩ := lp_succ h
      unfold b_X4_sharedWith_2 at h
      (try dsimp only at h)
      refine lv_iload_n hx hb dX4_sharedWith_2 rfl (lv_at hl 2 rfl) ?_
      refine lv_iload_n hx hb dX4_sharedWith_3 rfl (lv_at hl 1 rfl) ?_
      refine lv_icmp_ge (tgt := 24) hx hb dX4_sharedWith_4 (by decide) (fun c1 => ?_) (fun c1 => ?_)
      · rw [if_pos c1] at h
        refine lv_ldc (v := -1000009) hx hb F.2.2.2.1 (F.2.2.2.2 _ (wsU_in mK_X4_115)) dX4_sharedWith_24 ?_
        obtain rfl := Option.some.inj h
        obtain rfl := (show _ = q from ht2)
        exact w_iret F hr hlocks B dX4_sharedWith_26
      · rw [if_neg c1] at h
        refine lv_aload_n hx hb dX4_sharedWith_7 rfl (lv_at hl 0 rfl) ?_
        refine lv_iload_n hx hb dX4_sharedWith_8 rfl (lv_at hl 2 rfl) ?_
        refine lv_iload_n hx hb dX4_sharedWith_9 rfl (lv_at hl 1 rfl) ?_
        obtain ⟨q2, hq2, h⟩ := cal_some h
        refine w_callVi F B (c_X4_areAlike l g n S0 H.size x2 x1 q2 hq2) mC_X4_areAlike mM_X4_193 mN_X4 mI_X4_areAlike mS_X4_areAlike ixM_0 rfl rfl ⟨ok_X4_areAlike, by decide⟩ rfl hl.1 rfl (Nat.le_of_ble_eq_true rfl) dX4_sharedWith_10 (fun H locs B => ?_)
        refine lv_if_eq (tgt := 18) hx hb dX4_sharedWith_13 (by decide) (fun c3 => ?_) (fun c3 => ?_)
        · rw [if_pos c3] at h
          refine lv_iinc (v := x2 + 1) (lv' := [(2, .int (x2 + 1)), (0, .ref (g.2.2 0 0)), (1, .int x1)]) hx hb dX4_sharedWith_18 hl (k := 2) rfl rfl (by decide) rfl (fun ls hl => ?_)
          refine lv_goto (tgt := 2) hx hb dX4_sharedWith_21 (by decide) ?_
          obtain rfl := Option.some.inj h
          exact ih2 x1 (x2 + 1) ht2 H locs ls B (lv_sub hl [1, 2, 0] rfl)
        · rw [if_neg c3] at h
          refine lv_iload_n hx hb dX4_sharedWith_16 rfl (lv_at hl 2 rfl) ?_
          obtain rfl := Option.some.inj h
          obtain rfl := (show _ = q from ht2)
          exact w_iret F hr hlocks B dX4_sharedWith_17
  exact L2 n x1 0 h H locs ls B (lv_sub hl [1, 2, 0] rfl)
/-- public int shares(int) -/
def f_X4_shares (n : Nat) (S0 : mem) (x1 : Int32) : Option (Int32 × mem) :=
cal (f_X4_isVerse n (mup S0 0 0 0 0) x1) fun q1 => (
if q1 = 0 then (
some ((-1000001, mup S0 0 0 0 0))) else (
cal (f_X4_sharedWith n (mup S0 0 0 0 0) x1) fun q3 => (
some ((q3, mup S0 0 0 0 0)))))
set_option maxRecDepth 100000 in
set_option maxHeartbeats 4000000 in
theorem c_X4_shares (l : Launch) (g : cx) (n : Nat) (S0 : mem) (sz : Nat) (x1 : Int32) (q : Int32 × mem) (h : f_X4_shares n S0 x1 = some q) : Met l yX4_shares (wsU yX4_shares cX4_shares 2 (some .int)) (rmD 4) (PcW ixM enM g S0 sz [.ref (g.2.2 0 0), .int x1]) (QiW ixM enM g sz q.1 q.2) 0 0 (Aw ixM g sz) := by
  refine met_intro (Qc := fun z9 => QiW ixM enM g z9 q.1 q.2) (free := fun z9 => Aw ixM g z9) [.ref (g.2.2 0 0), .int x1] RX4 rfl (by decide) (Nat.le_of_ble_eq_true rfl) (fun p e s m args below meth c H locs F hr hlocks B ls hl => ?_)
  have hl : lv_has ls 2 [(0, .ref (g.2.2 0 0)), (1, .int x1)] := hl
  have hx := F.1
  have hb := F.2.1
  unfold f_X4_shares at h
  refine lv_aload_n hx hb dX4_shares_0 rfl (lv_at hl 0 rfl) ?_
  refine lv_iconst (v := 0) hx hb dX4_shares_1 (by decide) ?_
  refine pt_X4_0 F B mF_X4_1 dX4_shares_2 (fun H locs B => ?_)
  refine lv_iload_n hx hb dX4_shares_5 rfl (lv_at hl 1 rfl) ?_
  obtain ⟨q1, hq1, h⟩ := cal_some h
  refine w_callSi F B (c_X4_isVerse l g n (mup S0 0 0 0 0) H.size x1 q1 hq1) mC_X4_isVerse mM_X4_120 mN_X4 mT_X4_isVerse ⟨ok_X4_isVerse, by decide⟩ rfl hl.1 rfl (Nat.le_of_ble_eq_true rfl) dX4_shares_6 (fun H locs B => ?_)
  refine lv_if_eq (tgt := 20) hx hb dX4_shares_9 (by decide) (fun c2 => ?_) (fun c2 => ?_)
  · rw [if_pos c2] at h
    refine lv_ldc (v := -1000001) hx hb F.2.2.2.1 (F.2.2.2.2 _ (wsU_in mK_X4_123)) dX4_shares_20 ?_
    obtain rfl := Option.some.inj h
    exact w_iret F hr hlocks B dX4_shares_22
  · rw [if_neg c2] at h
    refine lv_aload_n hx hb dX4_shares_12 rfl (lv_at hl 0 rfl) ?_
    refine lv_iload_n hx hb dX4_shares_13 rfl (lv_at hl 1 rfl) ?_
    obtain ⟨q3, hq3, h⟩ := cal_some h
    refine w_callVi F B (c_X4_sharedWith l g n (mup S0 0 0 0 0) H.size x1 q3 hq3) mC_X4_sharedWith mM_X4_196 mN_X4 mI_X4_sharedWith mS_X4_sharedWith ixM_0 rfl rfl ⟨ok_X4_sharedWith, by decide⟩ rfl hl.1 rfl (Nat.le_of_ble_eq_true rfl) dX4_shares_14 (fun H locs B => ?_)
    refine lv_goto (tgt := 22) hx hb dX4_shares_17 (by decide) ?_
    obtain rfl := Option.some.inj h
    exact w_iret F hr hlocks B dX4_shares_22
def j_X4_row_82 (n : Nat) (S : mem) (x2 : Int32) (x4 : Int32) (y0 : Int32) : Option ((Int32 × Int32) ⊕ (Int32 × mem)) :=
some (.inl ((y0 + 0), (x4 + 1)))
def b_X4_row_51 (n : Nat) (S : mem) (x2 : Int32) : (Int32 × Int32) → Option ((Int32 × Int32) ⊕ (Int32 × mem)) := fun w =>
if x2 ≤ w.2 then (
some (.inr ((w.1, S)))) else (
cal (f_X4_hasBoxes n S w.2) fun q7 => (
if q7 = 0 then (
j_X4_row_82 n S x2 w.2 w.1) else (
cal (f_X4_sharedWith n S w.2) fun q9 => (
if q9 = (-1000009) then (
some (.inl ((w.1 + 1), (w.2 + 1)))) else (
j_X4_row_82 n S x2 w.2 w.1)))))
def j_X4_row_45 (n : Nat) (S : mem) (y0 : Int32) : Option (Int32 × mem) :=
lp (b_X4_row_51 n S y0) n (0, 0)
/-- public int row(int) -/
def f_X4_row (n : Nat) (S0 : mem) (x1 : Int32) : Option (Int32 × mem) :=
cal (f_X4_isVerse n (mup S0 0 0 0 0) x1) fun q1 => (
if q1 = 0 then (
some ((-1000001, mup S0 0 0 0 0))) else (
cal (f_X4_hasBoxes n (mup S0 0 0 0 0) x1) fun q3 => (
if q3 = 0 then (
some ((-1000009, mup S0 0 0 0 0))) else (
cal (f_X4_sharedWith n (mup S0 0 0 0 0) x1) fun q5 => (
if q5 = (-1000009) then (
j_X4_row_45 n (mup S0 0 0 0 0) x1) else (
cal (f_X4_sharedWith n (mup S0 0 0 0 0) x1) fun q12 => (
j_X4_row_45 n (mup S0 0 0 0 0) q12)))))))
set_option maxRecDepth 100000 in
set_option maxHeartbeats 4000000 in
theorem c_X4_row (l : Launch) (g : cx) (n : Nat) (S0 : mem) (sz : Nat) (x1 : Int32) (q : Int32 × mem) (h : f_X4_row n S0 x1 = some q) : Met l yX4_row (wsU yX4_row cX4_row 5 (some .int)) (rmD 4) (PcW ixM enM g S0 sz [.ref (g.2.2 0 0), .int x1]) (QiW ixM enM g sz q.1 q.2) 0 0 (Aw ixM g sz) := by
  refine met_intro (Qc := fun z9 => QiW ixM enM g z9 q.1 q.2) (free := fun z9 => Aw ixM g z9) [.ref (g.2.2 0 0), .int x1] RX4 rfl (by decide) (Nat.le_of_ble_eq_true rfl) (fun p e s m args below meth c H locs F hr hlocks B ls hl => ?_)
  have hl : lv_has ls 5 [(0, .ref (g.2.2 0 0)), (1, .int x1)] := hl
  have hx := F.1
  have hb := F.2.1
  unfold f_X4_row at h
  refine lv_aload_n hx hb dX4_row_0 rfl (lv_at hl 0 rfl) ?_
  refine lv_iconst (v := 0) hx hb dX4_row_1 (by decide) ?_
  refine pt_X4_0 F B mF_X4_1 dX4_row_2 (fun H locs B => ?_)
  refine lv_iload_n hx hb dX4_row_5 rfl (lv_at hl 1 rfl) ?_
  obtain ⟨q1, hq1, h⟩ := cal_some h
  refine w_callSi F B (c_X4_isVerse l g n (mup S0 0 0 0 0) H.size x1 q1 hq1) mC_X4_isVerse mM_X4_120 mN_X4 mT_X4_isVerse ⟨ok_X4_isVerse, by decide⟩ rfl hl.1 rfl (Nat.le_of_ble_eq_true rfl) dX4_row_6 (fun H locs B => ?_)
  refine lv_if_ne (tgt := 15) hx hb dX4_row_9 (by decide) (fun c2 => ?_) (fun c2 => ?_)
  · rw [if_neg c2] at h
    refine lv_aload_n hx hb dX4_row_15 rfl (lv_at hl 0 rfl) ?_
    refine lv_iload_n hx hb dX4_row_16 rfl (lv_at hl 1 rfl) ?_
    obtain ⟨q3, hq3, h⟩ := cal_some h
    refine w_callVi F B (c_X4_hasBoxes l g n (mup S0 0 0 0 0) H.size x1 q3 hq3) mC_X4_hasBoxes mM_X4_180 mN_X4 mI_X4_hasBoxes mS_X4_hasBoxes ixM_0 rfl rfl ⟨ok_X4_hasBoxes, by decide⟩ rfl hl.1 rfl (Nat.le_of_ble_eq_true rfl) dX4_row_17 (fun H locs B => ?_)
    refine lv_if_ne (tgt := 26) hx hb dX4_row_20 (by decide) (fun c4 => ?_) (fun c4 => ?_)
    · rw [if_neg c4] at h
      refine lv_aload_n hx hb dX4_row_26 rfl (lv_at hl 0 rfl) ?_
      refine lv_iload_n hx hb dX4_row_27 rfl (lv_at hl 1 rfl) ?_
      obtain ⟨q5, hq5, h⟩ := cal_some h
      refine w_callVi F B (c_X4_sharedWith l g n (mup S0 0 0 0 0) H.size x1 q5 hq5) mC_X4_sharedWith mM_X4_196 mN_X4 mI_X4_sharedWith mS_X4_sharedWith ixM_0 rfl rfl ⟨ok_X4_sharedWith, by decide⟩ rfl hl.1 rfl (Nat.le_of_ble_eq_true rfl) dX4_row_28 (fun H locs B => ?_)
      refine lv_ldc (v := -1000009) hx hb F.2.2.2.1 (F.2.2.2.2 _ (wsU_in mK_X4_115)) dX4_row_31 ?_
      have J45 : ∀ (S : mem) (y0 : Int32), j_X4_row_45 n S y0 = some q → ∀ (H : Heap) (locs : List Loc) (ls : Array Slot), Wd ixM enM g S (Aw ixM g s.heap.size) s H locs → lv_has ls 5 [(0, .ref (g.2.2 0 0))] → W p l e (rmD 4) s m args below meth c H locs 0 0 (MQ below (QiW ixM enM g s.heap.size q.1 q.2) args s 0 0 (Aw ixM g s.heap.size)) (F0 m 45 ls [.int y0]) := by
        intro S y0 h H locs ls B hl
        unfold j_X4_row_45 at h
        refine lv_istore_n (lv' := [(2, .int y0), (0, .ref (g.2.2 0 0))]) hx hb dX4_row_45 rfl hl (by decide) rfl (fun ls hl => ?_)
        refine lv_iconst (v := 0) hx hb dX4_row_46 (by decide) ?_
        refine lv_istore_n (lv' := [(3, .int 0), (2, .int y0), (0, .ref (g.2.2 0 0))]) hx hb dX4_row_47 rfl hl (by decide) rfl (fun ls hl => ?_)
        refine lv_iconst (v := 0) hx hb dX4_row_48 (by decide) ?_
        refine lv_istore (lv' := [(4, .int 0), (3, .int 0), (2, .int y0), (0, .ref (g.2.2 0 0))]) hx hb dX4_row_49 hl (by decide) rfl (fun ls hl => ?_)
        have L51 : ∀ (k51 : Nat) (S : mem) (x2 : Int32) (x3 : Int32) (x4 : Int32), lp (b_X4_row_51 n S x2) k51 (x3, x4) = some q → ∀ (H : Heap) (locs : List Loc) (ls : Array Slot), Wd ixM enM g S (Aw ixM g s.heap.size) s H locs → lv_has ls 5 [(0, .ref (g.2.2 0 0)), (2, .int x2), (3, .int x3), (4, .int x4)] → W p l e (rmD 4) s m args below meth c H locs 0 0 (MQ below (QiW ixM enM g s.heap.size q.1 q.2) args s 0 0 (Aw ixM g s.heap.size)) (F0 m 51 ls []) := by
          intro k51
          induction k51 with
          | zero => intro S x2 x3 x4 h; exact (lp_zero h).elim
          | succ k51 ih51 =>
            intro S x2 x3 x4 h H locs ls B hl
            obtain ⟨t51, h, ht51⟩ := lp_succ h
            unfold b_X4_row_51 at h
            (try dsimp only at h)
            refine lv_iload hx hb dX4_row_51 (lv_at hl 3 rfl) ?_
            refine lv_iload_n hx hb dX4_row_53 rfl (lv_at hl 1 rfl) ?_
            refine lv_icmp_ge (tgt := 91) hx hb dX4_row_54 (by decide) (fun c6 => ?_) (fun c6 => ?_)
            · rw [if_pos c6] at h
              refine lv_iload_n hx hb dX4_row_91 rfl (lv_at hl 2 rfl) ?_
              obtain rfl := Option.some.inj h
              obtain rfl := (show _ = q from ht51)
              exact w_iret F hr hlocks B dX4_row_92
            · rw [if_neg c6] at h
              refine lv_iload_n hx hb dX4_row_57 rfl (lv_at hl 2 rfl) ?_
              refine lv_aload_n hx hb dX4_row_58 rfl (lv_at hl 0 rfl) ?_
              refine lv_iload hx hb dX4_row_59 (lv_at hl 3 rfl) ?_
              obtain ⟨q7, hq7, h⟩ := cal_some h
              refine w_callVi F B (c_X4_hasBoxes l g n S H.size x4 q7 hq7) mC_X4_hasBoxes mM_X4_180 mN_X4 mI_X4_hasBoxes mS_X4_hasBoxes ixM_0 rfl rfl ⟨ok_X4_hasBoxes, by decide⟩ rfl hl.1 rfl (Nat.le_of_ble_eq_true rfl) dX4_row_61 (fun H locs B => ?_)
              have J82 : ∀ (x4 : Int32) (y0 : Int32), j_X4_row_82 n S x2 x4 y0 = some t51 → ∀ (H : Heap) (locs : List Loc) (ls : Array Slot), Wd ixM enM g S (Aw ixM g s.heap.size) s H locs → lv_has ls 5 [(0, .ref (g.2.2 0 0)), (2, .int x2), (4, .int x4)] → W p l e (rmD 4) s m args below meth c H locs 0 0 (MQ below (QiW ixM enM g s.heap.size q.1 q.2) args s 0 0 (Aw ixM g s.heap.size)) (F0 m 82 ls [.int y0]) := by
                intro x4 y0 h H locs ls B hl
                unfold j_X4_row_82 at h
                refine lv_iconst (v := 0) hx hb dX4_row_82 (by decide) ?_
                refine lv_iadd hx hb dX4_row_83 ?_
                refine lv_istore_n (lv' := [(3, .int (y0 + 0)), (0, .ref (g.2.2 0 0)), (2, .int x2), (4, .int x4)]) hx hb dX4_row_84 rfl hl (by decide) rfl (fun ls hl => ?_)
                refine lv_iinc (v := x4 + 1) (lv' := [(4, .int (x4 + 1)), (3, .int (y0 + 0)), (0, .ref (g.2.2 0 0)), (2, .int x2)]) hx hb dX4_row_85 hl (k := 3) rfl rfl (by decide) rfl (fun ls hl => ?_)
                refine lv_goto (tgt := 51) hx hb dX4_row_88 (by decide) ?_
                obtain rfl := Option.some.inj h
                exact ih51 S x2 (y0 + 0) (x4 + 1) ht51 H locs ls B (lv_sub hl [2, 3, 1, 0] rfl)
              refine lv_if_eq (tgt := 82) hx hb dX4_row_64 (by decide) (fun c8 => ?_) (fun c8 => ?_)
              · rw [if_pos c8] at h
                exact J82 x4 x3 h H locs ls B (lv_sub hl [0, 1, 3] rfl)
              · rw [if_neg c8] at h
                refine lv_aload_n hx hb dX4_row_67 rfl (lv_at hl 0 rfl) ?_
                refine lv_iload hx hb dX4_row_68 (lv_at hl 3 rfl) ?_
                obtain ⟨q9, hq9, h⟩ := cal_some h
                refine w_callVi F B (c_X4_sharedWith l g n S H.size x4 q9 hq9) mC_X4_sharedWith mM_X4_196 mN_X4 mI_X4_sharedWith mS_X4_sharedWith ixM_0 rfl rfl ⟨ok_X4_sharedWith, by decide⟩ rfl hl.1 rfl (Nat.le_of_ble_eq_true rfl) dX4_row_70 (fun H locs B => ?_)
                refine lv_ldc (v := -1000009) hx hb F.2.2.2.1 (F.2.2.2.2 _ (wsU_in mK_X4_115)) dX4_row_73 ?_
                refine lv_icmp_ne (tgt := 82) hx hb dX4_row_75 (by decide) (fun c10 => ?_) (fun c10 => ?_)
                · rw [if_neg c10] at h
                  exact J82 x4 x3 h H locs ls B (lv_sub hl [0, 1, 3] rfl)
                · rw [if_pos c10] at h
                  refine lv_iconst (v := 1) hx hb dX4_row_78 (by decide) ?_
                  refine lv_goto (tgt := 83) hx hb dX4_row_79 (by decide) ?_
                  refine lv_iadd hx hb dX4_row_83 ?_
                  refine lv_istore_n (lv' := [(3, .int (x3 + 1)), (0, .ref (g.2.2 0 0)), (2, .int x2), (4, .int x4)]) hx hb dX4_row_84 rfl hl (by decide) rfl (fun ls hl => ?_)
                  refine lv_iinc (v := x4 + 1) (lv' := [(4, .int (x4 + 1)), (3, .int (x3 + 1)), (0, .ref (g.2.2 0 0)), (2, .int x2)]) hx hb dX4_row_85 hl (k := 3) rfl rfl (by decide) rfl (fun ls hl => ?_)
                  refine lv_goto (tgt := 51) hx hb dX4_row_88 (by decide) ?_
                  obtain rfl := Option.some.inj h
                  exact ih51 S x2 (x3 + 1) (x4 + 1) ht51 H locs ls B (lv_sub hl [2, 3, 1, 0] rfl)
        exact L51 n S y0 0 0 h H locs ls B (lv_sub hl [3, 2, 1, 0] rfl)
      refine lv_icmp_ne (tgt := 40) hx hb dX4_row_33 (by decide) (fun c11 => ?_) (fun c11 => ?_)
      · rw [if_neg c11] at h
        refine lv_aload_n hx hb dX4_row_40 rfl (lv_at hl 0 rfl) ?_
        refine lv_iload_n hx hb dX4_row_41 rfl (lv_at hl 1 rfl) ?_
        obtain ⟨q12, hq12, h⟩ := cal_some h
        refine w_callVi F B (c_X4_sharedWith l g n (mup S0 0 0 0 0) H.size x1 q12 hq12) mC_X4_sharedWith mM_X4_196 mN_X4 mI_X4_sharedWith mS_X4_sharedWith ixM_0 rfl rfl ⟨ok_X4_sharedWith, by decide⟩ rfl hl.1 rfl (Nat.le_of_ble_eq_true rfl) dX4_row_42 (fun H locs B => ?_)
        exact J45 (mup S0 0 0 0 0) q12 h H locs ls B (lv_sub hl [0] rfl)
      · rw [if_pos c11] at h
        refine lv_iload_n hx hb dX4_row_36 rfl (lv_at hl 1 rfl) ?_
        refine lv_goto (tgt := 45) hx hb dX4_row_37 (by decide) ?_
        exact J45 (mup S0 0 0 0 0) x1 h H locs ls B (lv_sub hl [0] rfl)
    · rw [if_pos c4] at h
      refine lv_ldc (v := -1000009) hx hb F.2.2.2.1 (F.2.2.2.2 _ (wsU_in mK_X4_115)) dX4_row_23 ?_
      obtain rfl := Option.some.inj h
      exact w_iret F hr hlocks B dX4_row_25
  · rw [if_pos c2] at h
    refine lv_ldc (v := -1000001) hx hb F.2.2.2.1 (F.2.2.2.2 _ (wsU_in mK_X4_123)) dX4_row_12 ?_
    obtain rfl := Option.some.inj h
    exact w_iret F hr hlocks B dX4_row_14
/-- public int in(int, int) -/
def f_X4_in (n : Nat) (S0 : mem) (x1 : Int32) (x2 : Int32) : Option (Int32 × mem) :=
cal (f_X4_isNote n (mup S0 0 0 0 0) x1) fun q1 => (
if q1 = 0 then (
some ((-1000001, mup S0 0 0 0 0))) else (
if x2 = 0 then (
grd (¬ (x1 < 0 ∨ 60 ≤ Int32.toNatClampNeg x1)) (
some ((S0 6 0 (Int32.toNatClampNeg x1), mup S0 0 0 0 0)))) else (
if x2 = 1 then (
grd (¬ (x1 < 0 ∨ 60 ≤ Int32.toNatClampNeg x1)) (
some ((S0 8 0 (Int32.toNatClampNeg x1), mup S0 0 0 0 0)))) else (
some ((-1000002, mup S0 0 0 0 0))))))
set_option maxRecDepth 100000 in
set_option maxHeartbeats 4000000 in
theorem c_X4_in (l : Launch) (g : cx) (n : Nat) (S0 : mem) (sz : Nat) (x1 : Int32) (x2 : Int32) (q : Int32 × mem) (h : f_X4_in n S0 x1 x2 = some q) : Met l yX4_in (wsU yX4_in cX4_in 3 (some .int)) (rmD 2) (PcW ixM enM g S0 sz [.ref (g.2.2 0 0), .int x1, .int x2]) (QiW ixM enM g sz q.1 q.2) 0 0 (Aw ixM g sz) := by
  refine met_intro (Qc := fun z9 => QiW ixM enM g z9 q.1 q.2) (free := fun z9 => Aw ixM g z9) [.ref (g.2.2 0 0), .int x1, .int x2] RX4 rfl (by decide) (Nat.le_of_ble_eq_true rfl) (fun p e s m args below meth c H locs F hr hlocks B ls hl => ?_)
  have hl : lv_has ls 3 [(0, .ref (g.2.2 0 0)), (1, .int x1), (2, .int x2)] := hl
  have hx := F.1
  have hb := F.2.1
  unfold f_X4_in at h
  refine lv_aload_n hx hb dX4_in_0 rfl (lv_at hl 0 rfl) ?_
  refine lv_iconst (v := 0) hx hb dX4_in_1 (by decide) ?_
  refine pt_X4_0 F B mF_X4_1 dX4_in_2 (fun H locs B => ?_)
  refine lv_aload_n hx hb dX4_in_5 rfl (lv_at hl 0 rfl) ?_
  refine lv_iload_n hx hb dX4_in_6 rfl (lv_at hl 1 rfl) ?_
  obtain ⟨q1, hq1, h⟩ := cal_some h
  refine w_callVi F B (c_X4_isNote l g n (mup S0 0 0 0 0) H.size x1 q1 hq1) mC_X4_isNote mM_X4_116 mN_X4 mI_X4_isNote mS_X4_isNote ixM_0 rfl rfl ⟨ok_X4_isNote, by decide⟩ rfl hl.1 rfl (Nat.le_of_ble_eq_true rfl) dX4_in_7 (fun H locs B => ?_)
  refine lv_if_ne (tgt := 16) hx hb dX4_in_10 (by decide) (fun c2 => ?_) (fun c2 => ?_)
  · rw [if_neg c2] at h
    refine lv_iload_n hx hb dX4_in_16 rfl (lv_at hl 2 rfl) ?_
    refine lv_if_ne (tgt := 29) hx hb dX4_in_17 (by decide) (fun c3 => ?_) (fun c3 => ?_)
    · rw [if_neg c3] at h
      refine lv_iload_n hx hb dX4_in_29 rfl (lv_at hl 2 rfl) ?_
      refine lv_iconst (v := 1) hx hb dX4_in_30 (by decide) ?_
      refine lv_icmp_ne (tgt := 43) hx hb dX4_in_31 (by decide) (fun c4 => ?_) (fun c4 => ?_)
      · rw [if_neg c4] at h
        refine lv_ldc (v := -1000002) hx hb F.2.2.2.1 (F.2.2.2.2 _ (wsU_in mK_X4_113)) dX4_in_43 ?_
        obtain rfl := Option.some.inj h
        exact w_iret F hr hlocks B dX4_in_45
      · rw [if_pos c4] at h
        refine lv_aload_n hx hb dX4_in_34 rfl (lv_at hl 0 rfl) ?_
        refine gt_X4_8 F B mF_X4_70 dX4_in_35 ?_
        refine lv_iload_n hx hb dX4_in_38 rfl (lv_at hl 1 rfl) ?_
        obtain ⟨z5, h⟩ := grd_some h
        refine al_M8 F B  z5 dX4_in_39 ?_
        refine w_cv (S0 8 0 (Int32.toNatClampNeg x1)) (mup_k (by decide)) ?_
        refine lv_goto (tgt := 45) hx hb dX4_in_40 (by decide) ?_
        obtain rfl := Option.some.inj h
        exact w_iret F hr hlocks B dX4_in_45
    · rw [if_pos c3] at h
      refine lv_aload_n hx hb dX4_in_20 rfl (lv_at hl 0 rfl) ?_
      refine gt_X4_6 F B mF_X4_64 dX4_in_21 ?_
      refine lv_iload_n hx hb dX4_in_24 rfl (lv_at hl 1 rfl) ?_
      obtain ⟨z6, h⟩ := grd_some h
      refine al_M6 F B  z6 dX4_in_25 ?_
      refine w_cv (S0 6 0 (Int32.toNatClampNeg x1)) (mup_k (by decide)) ?_
      refine lv_goto (tgt := 45) hx hb dX4_in_26 (by decide) ?_
      obtain rfl := Option.some.inj h
      exact w_iret F hr hlocks B dX4_in_45
  · rw [if_pos c2] at h
    refine lv_ldc (v := -1000001) hx hb F.2.2.2.1 (F.2.2.2.2 _ (wsU_in mK_X4_123)) dX4_in_13 ?_
    obtain rfl := Option.some.inj h
    exact w_iret F hr hlocks B dX4_in_15
def b_X4_pattern_193 (n : Nat) (x1 : Int64) (x4 : Int32) : (Int32 × Int32 × mem) → Option ((Int32 × Int32 × mem) ⊕ ((Int32 × Int64 × Int32 × Int32 × Int32) ⊕ (Int32 × mem))) := fun w =>
if x4 < w.2.1 then (
grd (¬ (w.2.2 0 0 22 < 0 ∨ 30 ≤ Int32.toNatClampNeg (w.2.2 0 0 22))) (
some (.inr (.inr ((((w.2.2 0 0 22) + 1) - 1, mup (mup w.2.2 23 0 (Int32.toNatClampNeg (w.2.2 0 0 22)) x4) 0 0 22 ((w.2.2 0 0 22) + 1))))))) else (
grd (¬ ((7 * (w.2.2 0 0 22)) + w.2.1 < 0 ∨ 210 ≤ Int32.toNatClampNeg ((7 * (w.2.2 0 0 22)) + w.2.1))) (
if x4 ≤ w.2.1 then (
some (.inl ((w.1 / 10), (w.2.1 + 1), (mup w.2.2 25 0 (Int32.toNatClampNeg ((7 * (w.2.2 0 0 22)) + w.2.1)) (w.1 - w.1 / 10 * 10))))) else (
grd (¬ ((6 * (w.2.2 0 0 22)) + w.2.1 < 0 ∨ 180 ≤ Int32.toNatClampNeg ((6 * (w.2.2 0 0 22)) + w.2.1))) (
some (.inl ((w.1 / 10), (w.2.1 + 1), (mup (mup w.2.2 25 0 (Int32.toNatClampNeg ((7 * (w.2.2 0 0 22)) + w.2.1)) (w.1 - w.1 / 10 * 10)) 24 0 (Int32.toNatClampNeg ((6 * (w.2.2 0 0 22)) + w.2.1)) (Int64.toInt32 ((x1 >>> (Int32.toInt64 (5 * w.2.1) &&& 63)) &&& 31)))))))))
def j_X4_pattern_122 (n : Nat) (S : mem) (x1 : Int64) (x3 : Int32) (x4 : Int32) (x5 : Int64) (x7 : Int32) (x8 : Int32) (y0 : Int32) : Option ((Int32 × Int64 × Int32 × Int32 × Int32) ⊕ (Int32 × mem)) :=
if 6 ≤ x4 then (
some (.inl ((x4 + 1), x5, x7, x8, y0))) else (
some (.inl ((x4 + 1), x5, (10 * x7), x8, y0)))
def j_X4_pattern_103 (n : Nat) (S : mem) (x1 : Int64) (x3 : Int32) (x4 : Int32) (x5 : Int64) (x7 : Int32) (x9 : Int32) (x10 : Int32) (y0 : Int32) : Option ((Int32 × Int64 × Int32 × Int32 × Int32) ⊕ (Int32 × mem)) :=
if x9 = 0 then (
if 27 ≤ x10 then (
j_X4_pattern_122 n S x1 x3 x4 x5 x7 y0 0) else (
j_X4_pattern_122 n S x1 x3 x4 x5 x7 y0 1)) else (
j_X4_pattern_122 n S x1 x3 x4 x5 x7 y0 1)
def b_X4_pattern_34 (n : Nat) (S : mem) (x1 : Int64) (x3 : Int32) : (Int32 × Int64 × Int32 × Int32 × Int32) → Option ((Int32 × Int64 × Int32 × Int32 × Int32) ⊕ (Int32 × mem)) := fun w =>
if (lg_cmp (w.2.1 &&& 31) 0) = 0 then (
if w.2.2.2.1 = 0 then (
some (.inr ((-1000002, S)))) else (
if w.2.2.2.2 = 0 then (
some (.inr ((-1000002, S)))) else (
if (lg_cmp w.2.1 0) = 0 then (
if x3 < w.2.2.1 then (
if (S 0 0 22) = 30 then (
some (.inr ((-1000004, S)))) else (
lp (b_X4_pattern_193 n x1 w.1) n (x3, 0, S))) else (
some (.inr ((-1000002, S))))) else (
some (.inr ((-1000002, S))))))) else (
if w.2.2.2.1 = 0 then (
j_X4_pattern_103 n S x1 x3 w.1 (w.2.1 >>> (Int32.toInt64 5 &&& 63)) w.2.2.1 w.2.2.2.2 (Int64.toInt32 (w.2.1 &&& 31)) 0) else (
if 6 ≤ w.1 then (
j_X4_pattern_103 n S x1 x3 w.1 (w.2.1 >>> (Int32.toInt64 5 &&& 63)) w.2.2.1 w.2.2.2.2 (Int64.toInt32 (w.2.1 &&& 31)) 0) else (
if 28 ≤ (Int64.toInt32 (w.2.1 &&& 31)) then (
j_X4_pattern_103 n S x1 x3 w.1 (w.2.1 >>> (Int32.toInt64 5 &&& 63)) w.2.2.1 w.2.2.2.2 (Int64.toInt32 (w.2.1 &&& 31)) 0) else (
if (Int64.toInt32 (w.2.1 &&& 31)) < 27 then (
j_X4_pattern_103 n S x1 x3 w.1 (w.2.1 >>> (Int32.toInt64 5 &&& 63)) w.2.2.1 w.2.2.2.2 (Int64.toInt32 (w.2.1 &&& 31)) 1) else (
if w.1 = 0 then (
j_X4_pattern_103 n S x1 x3 w.1 (w.2.1 >>> (Int32.toInt64 5 &&& 63)) w.2.2.1 w.2.2.2.2 (Int64.toInt32 (w.2.1 &&& 31)) 1) else (
if (lg_cmp (w.2.1 >>> (Int32.toInt64 5 &&& 63)) 0) = 0 then (
j_X4_pattern_103 n S x1 x3 w.1 (w.2.1 >>> (Int32.toInt64 5 &&& 63)) w.2.2.1 w.2.2.2.2 (Int64.toInt32 (w.2.1 &&& 31)) 1) else (
j_X4_pattern_103 n S x1 x3 w.1 (w.2.1 >>> (Int32.toInt64 5 &&& 63)) w.2.2.1 w.2.2.2.2 (Int64.toInt32 (w.2.1 &&& 31)) 0)))))))
/-- public int pattern(long, int) -/
def f_X4_pattern (n : Nat) (S0 : mem) (x1 : Int64) (x3 : Int32) : Option (Int32 × mem) :=
if (lg_cmp x1 1) < 0 then (
some ((-1000002, mup S0 0 0 0 0))) else (
if 0 ≤ x3 then (
lp (b_X4_pattern_34 n (mup S0 0 0 0 0) x1 x3) n (0, x1, 10, 1, 0)) else (
some ((-1000002, mup S0 0 0 0 0))))
set_option maxRecDepth 100000 in
set_option maxHeartbeats 4000000 in
theorem c_X4_pattern (l : Launch) (g : cx) (n : Nat) (S0 : mem) (sz : Nat) (x1 : Int64) (x3 : Int32) (q : Int32 × mem) (h : f_X4_pattern n S0 x1 x3 = some q) : Met l yX4_pattern (wsU yX4_pattern cX4_pattern 12 (some .int)) (rmD 0) (PcW ixM enM g S0 sz [.ref (g.2.2 0 0), .long x1, .int x3]) (QiW ixM enM g sz q.1 q.2) 0 0 (Aw ixM g sz) := by
  refine met_intro (Qc := fun z9 => QiW ixM enM g z9 q.1 q.2) (free := fun z9 => Aw ixM g z9) [.ref (g.2.2 0 0), .long x1, .int x3] RX4 rfl (by decide) (Nat.le_of_ble_eq_true rfl) (fun p e s m args below meth c H locs F hr hlocks B ls hl => ?_)
  have hl : lv_has ls 12 [(0, .ref (g.2.2 0 0)), (1, .long x1), (3, .int x3)] := hl
  have hx := F.1
  have hb := F.2.1
  unfold f_X4_pattern at h
  refine lv_aload_n hx hb dX4_pattern_0 rfl (lv_at hl 0 rfl) ?_
  refine lv_iconst (v := 0) hx hb dX4_pattern_1 (by decide) ?_
  refine pt_X4_0 F B mF_X4_1 dX4_pattern_2 (fun H locs B => ?_)
  refine lv_lload_n hx hb dX4_pattern_5 rfl (lv_at hl 1 rfl) ?_
  refine lv_lconst (v := 1) hx hb dX4_pattern_6 (by decide) ?_
  refine W.lcmp hx hb dX4_pattern_7 ?_
  refine lv_if_lt (tgt := 15) hx hb dX4_pattern_8 (by decide) (fun c1 => ?_) (fun c1 => ?_)
  · rw [if_pos c1] at h
    refine lv_ldc (v := -1000002) hx hb F.2.2.2.1 (F.2.2.2.2 _ (wsU_in mK_X4_113)) dX4_pattern_15 ?_
    obtain rfl := Option.some.inj h
    exact w_iret F hr hlocks B dX4_pattern_17
  · rw [if_neg c1] at h
    refine lv_iload_n hx hb dX4_pattern_11 rfl (lv_at hl 2 rfl) ?_
    refine lv_if_ge (tgt := 18) hx hb dX4_pattern_12 (by decide) (fun c2 => ?_) (fun c2 => ?_)
    · rw [if_pos c2] at h
      refine lv_iconst (v := 0) hx hb dX4_pattern_18 (by decide) ?_
      refine lv_istore (lv' := [(4, .int 0), (0, .ref (g.2.2 0 0)), (1, .long x1), (3, .int x3)]) hx hb dX4_pattern_19 hl (by decide) rfl (fun ls hl => ?_)
      refine lv_lload_n hx hb dX4_pattern_21 rfl (lv_at hl 2 rfl) ?_
      refine lv_lstore (lv' := [(5, .long x1), (4, .int 0), (0, .ref (g.2.2 0 0)), (1, .long x1), (3, .int x3)]) hx hb dX4_pattern_22 hl (by decide) rfl (fun ls hl => ?_)
      refine lv_bipush (v := 10) hx hb dX4_pattern_24 (by decide) ?_
      refine lv_istore (lv' := [(7, .int 10), (5, .long x1), (4, .int 0), (0, .ref (g.2.2 0 0)), (1, .long x1), (3, .int x3)]) hx hb dX4_pattern_26 hl (by decide) rfl (fun ls hl => ?_)
      refine lv_iconst (v := 1) hx hb dX4_pattern_28 (by decide) ?_
      refine lv_istore (lv' := [(8, .int 1), (7, .int 10), (5, .long x1), (4, .int 0), (0, .ref (g.2.2 0 0)), (1, .long x1), (3, .int x3)]) hx hb dX4_pattern_29 hl (by decide) rfl (fun ls hl => ?_)
      refine lv_iconst (v := 0) hx hb dX4_pattern_31 (by decide) ?_
      refine lv_istore (lv' := [(9, .int 0), (8, .int 1), (7, .int 10), (5, .long x1), (4, .int 0), (0, .ref (g.2.2 0 0)), (1, .long x1), (3, .int x3)]) hx hb dX4_pattern_32 hl (by decide) rfl (fun ls hl => ?_)
      have L34 : ∀ (k34 : Nat) (S : mem) (x1 : Int64) (x3 : Int32) (x4 : Int32) (x5 : Int64) (x7 : Int32) (x8 : Int32) (x9 : Int32), lp (b_X4_pattern_34 n S x1 x3) k34 (x4, x5, x7, x8, x9) = some q → ∀ (H : Heap) (locs : List Loc) (ls : Array Slot), Wd ixM enM g S (Aw ixM g s.heap.size) s H locs → lv_has ls 12 [(0, .ref (g.2.2 0 0)), (1, .long x1), (3, .int x3), (4, .int x4), (5, .long x5), (7, .int x7), (8, .int x8), (9, .int x9)] → W p l e (rmD 0) s m args below meth c H locs 0 0 (MQ below (QiW ixM enM g s.heap.size q.1 q.2) args s 0 0 (Aw ixM g s.heap.size)) (F0 m 34 ls []) := by
        intro k34
        induction k34 with
        | zero => intro S x1 x3 x4 x5 x7 x8 x9 h; exact (lp_zero h).elim
        | succ k34 ih34 =>
          intro S x1 x3 x4 x5 x7 x8 x9 h H locs ls B hl
          obtain ⟨t34, h, ht34⟩ := lp_succ h
          unfold b_X4_pattern_34 at h
          (try dsimp only at h)
          refine lv_lload hx hb dX4_pattern_34 (lv_at hl 4 rfl) ?_
          refine lv_ldc2 (v := 31) hx hb F.2.2.2.1 (F.2.2.2.2 _ (wsU_in mKL_X4_199)) dX4_pattern_36 ?_
          refine lv_land hx hb dX4_pattern_39 ?_
          refine lv_lconst (v := 0) hx hb dX4_pattern_40 (by decide) ?_
          refine W.lcmp hx hb dX4_pattern_41 ?_
          refine lv_if_eq (tgt := 149) hx hb dX4_pattern_42 (by decide) (fun c3 => ?_) (fun c3 => ?_)
          · rw [if_pos c3] at h
            refine lv_iload hx hb dX4_pattern_149 (lv_at hl 6 rfl) ?_
            refine lv_if_eq (tgt := 172) hx hb dX4_pattern_151 (by decide) (fun c4 => ?_) (fun c4 => ?_)
            · rw [if_pos c4] at h
              refine lv_ldc (v := -1000002) hx hb F.2.2.2.1 (F.2.2.2.2 _ (wsU_in mK_X4_113)) dX4_pattern_172 ?_
              obtain rfl := Option.some.inj h
              obtain rfl := (show _ = q from ht34)
              exact w_iret F hr hlocks B dX4_pattern_174
            · rw [if_neg c4] at h
              refine lv_iload hx hb dX4_pattern_154 (lv_at hl 7 rfl) ?_
              refine lv_if_eq (tgt := 172) hx hb dX4_pattern_156 (by decide) (fun c5 => ?_) (fun c5 => ?_)
              · rw [if_pos c5] at h
                refine lv_ldc (v := -1000002) hx hb F.2.2.2.1 (F.2.2.2.2 _ (wsU_in mK_X4_113)) dX4_pattern_172 ?_
                obtain rfl := Option.some.inj h
                obtain rfl := (show _ = q from ht34)
                exact w_iret F hr hlocks B dX4_pattern_174
              · rw [if_neg c5] at h
                refine lv_lload hx hb dX4_pattern_159 (lv_at hl 4 rfl) ?_
                refine lv_lconst (v := 0) hx hb dX4_pattern_161 (by decide) ?_
                refine W.lcmp hx hb dX4_pattern_162 ?_
                refine lv_if_ne (tgt := 172) hx hb dX4_pattern_163 (by decide) (fun c6 => ?_) (fun c6 => ?_)
                · rw [if_neg c6] at h
                  refine lv_ldc (v := -1000002) hx hb F.2.2.2.1 (F.2.2.2.2 _ (wsU_in mK_X4_113)) dX4_pattern_172 ?_
                  obtain rfl := Option.some.inj h
                  obtain rfl := (show _ = q from ht34)
                  exact w_iret F hr hlocks B dX4_pattern_174
                · rw [if_pos c6] at h
                  refine lv_iload_n hx hb dX4_pattern_166 rfl (lv_at hl 2 rfl) ?_
                  refine lv_iload hx hb dX4_pattern_167 (lv_at hl 5 rfl) ?_
                  refine lv_icmp_lt (tgt := 175) hx hb dX4_pattern_169 (by decide) (fun c7 => ?_) (fun c7 => ?_)
                  · rw [if_pos c7] at h
                    refine lv_aload_n hx hb dX4_pattern_175 rfl (lv_at hl 0 rfl) ?_
                    refine gt_X4_22 F B mF_X4_23 dX4_pattern_176 ?_
                    refine lv_bipush (v := 30) hx hb dX4_pattern_179 (by decide) ?_
                    refine lv_icmp_ne (tgt := 187) hx hb dX4_pattern_181 (by decide) (fun c8 => ?_) (fun c8 => ?_)
                    · rw [if_neg c8] at h
                      refine lv_iload_n hx hb dX4_pattern_187 rfl (lv_at hl 2 rfl) ?_
                      refine lv_istore (lv' := [(10, .int x3), (0, .ref (g.2.2 0 0)), (1, .long x1), (3, .int x3), (4, .int x4), (5, .long x5), (7, .int x7), (8, .int x8), (9, .int x9)]) hx hb dX4_pattern_188 hl (by decide) rfl (fun ls hl => ?_)
                      refine lv_iconst (v := 0) hx hb dX4_pattern_190 (by decide) ?_
                      refine lv_istore (lv' := [(11, .int 0), (10, .int x3), (0, .ref (g.2.2 0 0)), (1, .long x1), (3, .int x3), (4, .int x4), (5, .long x5), (7, .int x7), (8, .int x8), (9, .int x9)]) hx hb dX4_pattern_191 hl (by decide) rfl (fun ls hl => ?_)
                      have L193 : ∀ (k193 : Nat) (x4 : Int32) (x10 : Int32) (x11 : Int32) (S : mem), lp (b_X4_pattern_193 n x1 x4) k193 (x10, x11, S) = some t34 → ∀ (H : Heap) (locs : List Loc) (ls : Array Slot), Wd ixM enM g S (Aw ixM g s.heap.size) s H locs → lv_has ls 12 [(0, .ref (g.2.2 0 0)), (1, .long x1), (4, .int x4), (10, .int x10), (11, .int x11)] → W p l e (rmD 0) s m args below meth c H locs 0 0 (MQ below (QiW ixM enM g s.heap.size q.1 q.2) args s 0 0 (Aw ixM g s.heap.size)) (F0 m 193 ls []) := by
                        intro k193
                        induction k193 with
                        | zero => intro x4 x10 x11 S h; exact (lp_zero h).elim
                        | succ k193 ih193 =>
                          intro x4 x10 x11 S h H locs ls B hl
                          obtain ⟨t193, h, ht193⟩ := lp_succ h
                          unfold b_X4_pattern_193 at h
                          (try dsimp only at h)
                          refine lv_iload hx hb dX4_pattern_193 (lv_at hl 4 rfl) ?_
                          refine lv_iload hx hb dX4_pattern_195 (lv_at hl 2 rfl) ?_
                          refine lv_icmp_gt (tgt := 266) hx hb dX4_pattern_197 (by decide) (fun c9 => ?_) (fun c9 => ?_)
                          · rw [if_pos c9] at h
                            refine lv_aload_n hx hb dX4_pattern_266 rfl (lv_at hl 0 rfl) ?_
                            refine gt_X4_23 F B mF_X4_91 dX4_pattern_267 ?_
                            refine lv_aload_n hx hb dX4_pattern_270 rfl (lv_at hl 0 rfl) ?_
                            refine gt_X4_22 F B mF_X4_23 dX4_pattern_271 ?_
                            refine lv_iload hx hb dX4_pattern_274 (lv_at hl 2 rfl) ?_
                            obtain ⟨z10, h⟩ := grd_some h
                            refine as_M23 F B  z10 dX4_pattern_276 (fun H locs B => ?_)
                            refine lv_aload_n hx hb dX4_pattern_277 rfl (lv_at hl 0 rfl) ?_
                            refine lv_dup hx hb dX4_pattern_278 rfl ?_
                            refine gt_X4_22 F B mF_X4_23 dX4_pattern_279 ?_
                            refine w_cv (S 0 0 22) (mup_k (by decide)) ?_
                            refine lv_iconst (v := 1) hx hb dX4_pattern_282 (by decide) ?_
                            refine lv_iadd hx hb dX4_pattern_283 ?_
                            refine pt_X4_22 F B mF_X4_23 dX4_pattern_284 (fun H locs B => ?_)
                            refine lv_aload_n hx hb dX4_pattern_287 rfl (lv_at hl 0 rfl) ?_
                            refine gt_X4_22 F B mF_X4_23 dX4_pattern_288 ?_
                            refine w_cv ((S 0 0 22) + 1) (mup_s) ?_
                            refine lv_iconst (v := 1) hx hb dX4_pattern_291 (by decide) ?_
                            refine lv_isub hx hb dX4_pattern_292 ?_
                            obtain rfl := Option.some.inj h
                            obtain rfl := (show _ = t34 from ht193)
                            obtain rfl := (show _ = q from ht34)
                            exact w_iret F hr hlocks B dX4_pattern_293
                          · rw [if_neg c9] at h
                            refine lv_aload_n hx hb dX4_pattern_200 rfl (lv_at hl 0 rfl) ?_
                            refine gt_X4_25 F B mF_X4_97 dX4_pattern_201 ?_
                            refine lv_bipush (v := 7) hx hb dX4_pattern_204 (by decide) ?_
                            refine lv_aload_n hx hb dX4_pattern_206 rfl (lv_at hl 0 rfl) ?_
                            refine gt_X4_22 F B mF_X4_23 dX4_pattern_207 ?_
                            refine lv_imul hx hb dX4_pattern_210 ?_
                            refine lv_iload hx hb dX4_pattern_211 (lv_at hl 4 rfl) ?_
                            refine lv_iadd hx hb dX4_pattern_213 ?_
                            refine lv_iload hx hb dX4_pattern_214 (lv_at hl 3 rfl) ?_
                            refine lv_bipush (v := 10) hx hb dX4_pattern_216 (by decide) ?_
                            refine lv_irem hx hb dX4_pattern_218 (by decide) ?_
                            obtain ⟨z11, h⟩ := grd_some h
                            refine as_M25 F B  z11 dX4_pattern_219 (fun H locs B => ?_)
                            refine lv_iload hx hb dX4_pattern_220 (lv_at hl 3 rfl) ?_
                            refine lv_bipush (v := 10) hx hb dX4_pattern_222 (by decide) ?_
                            refine lv_idiv hx hb dX4_pattern_224 (by decide) ?_
                            refine lv_istore (lv' := [(10, .int (x10 / 10)), (0, .ref (g.2.2 0 0)), (1, .long x1), (4, .int x4), (11, .int x11)]) hx hb dX4_pattern_225 hl (by decide) rfl (fun ls hl => ?_)
                            refine lv_iload hx hb dX4_pattern_227 (lv_at hl 4 rfl) ?_
                            refine lv_iload hx hb dX4_pattern_229 (lv_at hl 3 rfl) ?_
                            refine lv_icmp_ge (tgt := 260) hx hb dX4_pattern_231 (by decide) (fun c12 => ?_) (fun c12 => ?_)
                            · rw [if_pos c12] at h
                              refine lv_iinc (v := x11 + 1) (lv' := [(11, .int (x11 + 1)), (10, .int (x10 / 10)), (0, .ref (g.2.2 0 0)), (1, .long x1), (4, .int x4)]) hx hb dX4_pattern_260 hl (k := 4) rfl rfl (by decide) rfl (fun ls hl => ?_)
                              refine lv_goto (tgt := 193) hx hb dX4_pattern_263 (by decide) ?_
                              obtain rfl := Option.some.inj h
                              exact ih193 x4 (x10 / 10) (x11 + 1) (mup S 25 0 (Int32.toNatClampNeg ((7 * (S 0 0 22)) + x11)) (x10 - x10 / 10 * 10)) ht193 H locs ls B (lv_sub hl [2, 3, 4, 1, 0] rfl)
                            · rw [if_neg c12] at h
                              refine lv_aload_n hx hb dX4_pattern_234 rfl (lv_at hl 1 rfl) ?_
                              refine gt_X4_24 F B mF_X4_94 dX4_pattern_235 ?_
                              refine lv_bipush (v := 6) hx hb dX4_pattern_238 (by decide) ?_
                              refine lv_aload_n hx hb dX4_pattern_240 rfl (lv_at hl 1 rfl) ?_
                              refine gt_X4_22 F B mF_X4_23 dX4_pattern_241 ?_
                              refine w_cv (S 0 0 22) (mup_k (by decide)) ?_
                              refine lv_imul hx hb dX4_pattern_244 ?_
                              refine lv_iload hx hb dX4_pattern_245 (lv_at hl 4 rfl) ?_
                              refine lv_iadd hx hb dX4_pattern_247 ?_
                              refine lv_lload_n hx hb dX4_pattern_248 rfl (lv_at hl 2 rfl) ?_
                              refine lv_iconst (v := 5) hx hb dX4_pattern_249 (by decide) ?_
                              refine lv_iload hx hb dX4_pattern_250 (lv_at hl 4 rfl) ?_
                              refine lv_imul hx hb dX4_pattern_252 ?_
                              refine lv_lshr hx hb dX4_pattern_253 rfl ?_
                              refine lv_ldc2 (v := 31) hx hb F.2.2.2.1 (F.2.2.2.2 _ (wsU_in mKL_X4_199)) dX4_pattern_254 ?_
                              refine lv_land hx hb dX4_pattern_257 ?_
                              refine lv_l2i hx hb dX4_pattern_258 rfl ?_
                              obtain ⟨z13, h⟩ := grd_some h
                              refine as_M24 F B  z13 dX4_pattern_259 (fun H locs B => ?_)
                              refine lv_iinc (v := x11 + 1) (lv' := [(11, .int (x11 + 1)), (10, .int (x10 / 10)), (0, .ref (g.2.2 0 0)), (1, .long x1), (4, .int x4)]) hx hb dX4_pattern_260 hl (k := 4) rfl rfl (by decide) rfl (fun ls hl => ?_)
                              refine lv_goto (tgt := 193) hx hb dX4_pattern_263 (by decide) ?_
                              obtain rfl := Option.some.inj h
                              exact ih193 x4 (x10 / 10) (x11 + 1) (mup (mup S 25 0 (Int32.toNatClampNeg ((7 * (S 0 0 22)) + x11)) (x10 - x10 / 10 * 10)) 24 0 (Int32.toNatClampNeg ((6 * (S 0 0 22)) + x11)) (Int64.toInt32 ((x1 >>> (Int32.toInt64 (5 * x11) &&& 63)) &&& 31))) ht193 H locs ls B (lv_sub hl [2, 3, 4, 1, 0] rfl)
                      exact L193 n x4 x3 0 S h H locs ls B (lv_sub hl [2, 3, 5, 1, 0] rfl)
                    · rw [if_pos c8] at h
                      refine lv_ldc (v := -1000004) hx hb F.2.2.2.1 (F.2.2.2.2 _ (wsU_in mK_X4_114)) dX4_pattern_184 ?_
                      obtain rfl := Option.some.inj h
                      obtain rfl := (show _ = q from ht34)
                      exact w_iret F hr hlocks B dX4_pattern_186
                  · rw [if_neg c7] at h
                    refine lv_ldc (v := -1000002) hx hb F.2.2.2.1 (F.2.2.2.2 _ (wsU_in mK_X4_113)) dX4_pattern_172 ?_
                    obtain rfl := Option.some.inj h
                    obtain rfl := (show _ = q from ht34)
                    exact w_iret F hr hlocks B dX4_pattern_174
          · rw [if_neg c3] at h
            refine lv_lload hx hb dX4_pattern_45 (lv_at hl 4 rfl) ?_
            refine lv_ldc2 (v := 31) hx hb F.2.2.2.1 (F.2.2.2.2 _ (wsU_in mKL_X4_199)) dX4_pattern_47 ?_
            refine lv_land hx hb dX4_pattern_50 ?_
            refine lv_l2i hx hb dX4_pattern_51 rfl ?_
            refine lv_istore (lv' := [(10, .int (Int64.toInt32 (x5 &&& 31))), (0, .ref (g.2.2 0 0)), (1, .long x1), (3, .int x3), (4, .int x4), (5, .long x5), (7, .int x7), (8, .int x8), (9, .int x9)]) hx hb dX4_pattern_52 hl (by decide) rfl (fun ls hl => ?_)
            refine lv_lload hx hb dX4_pattern_54 (lv_at hl 5 rfl) ?_
            refine lv_iconst (v := 5) hx hb dX4_pattern_56 (by decide) ?_
            refine lv_lshr hx hb dX4_pattern_57 rfl ?_
            refine lv_lstore (lv' := [(5, .long (x5 >>> (Int32.toInt64 5 &&& 63))), (10, .int (Int64.toInt32 (x5 &&& 31))), (0, .ref (g.2.2 0 0)), (1, .long x1), (3, .int x3), (4, .int x4), (7, .int x7), (8, .int x8), (9, .int x9)]) hx hb dX4_pattern_58 hl (by decide) rfl (fun ls hl => ?_)
            refine lv_iload hx hb dX4_pattern_60 (lv_at hl 7 rfl) ?_
            have J103 : ∀ (x4 : Int32) (x5 : Int64) (x7 : Int32) (x9 : Int32) (x10 : Int32) (y0 : Int32), j_X4_pattern_103 n S x1 x3 x4 x5 x7 x9 x10 y0 = some t34 → ∀ (H : Heap) (locs : List Loc) (ls : Array Slot), Wd ixM enM g S (Aw ixM g s.heap.size) s H locs → lv_has ls 12 [(0, .ref (g.2.2 0 0)), (1, .long x1), (3, .int x3), (4, .int x4), (5, .long x5), (7, .int x7), (9, .int x9), (10, .int x10)] → W p l e (rmD 0) s m args below meth c H locs 0 0 (MQ below (QiW ixM enM g s.heap.size q.1 q.2) args s 0 0 (Aw ixM g s.heap.size)) (F0 m 103 ls [.int y0]) := by
              intro x4 x5 x7 x9 x10 y0 h H locs ls B hl
              unfold j_X4_pattern_103 at h
              refine lv_istore (lv' := [(8, .int y0), (0, .ref (g.2.2 0 0)), (1, .long x1), (3, .int x3), (4, .int x4), (5, .long x5), (7, .int x7), (9, .int x9), (10, .int x10)]) hx hb dX4_pattern_103 hl (by decide) rfl (fun ls hl => ?_)
              refine lv_iload hx hb dX4_pattern_105 (lv_at hl 7 rfl) ?_
              have J122 : ∀ (x4 : Int32) (x5 : Int64) (x7 : Int32) (x8 : Int32) (y0 : Int32), j_X4_pattern_122 n S x1 x3 x4 x5 x7 x8 y0 = some t34 → ∀ (H : Heap) (locs : List Loc) (ls : Array Slot), Wd ixM enM g S (Aw ixM g s.heap.size) s H locs → lv_has ls 12 [(0, .ref (g.2.2 0 0)), (1, .long x1), (3, .int x3), (4, .int x4), (5, .long x5), (7, .int x7), (8, .int x8)] → W p l e (rmD 0) s m args below meth c H locs 0 0 (MQ below (QiW ixM enM g s.heap.size q.1 q.2) args s 0 0 (Aw ixM g s.heap.size)) (F0 m 122 ls [.int y0]) := by
                intro x4 x5 x7 x8 y0 h H locs ls B hl
                unfold j_X4_pattern_122 at h
                refine lv_istore (lv' := [(9, .int y0), (0, .ref (g.2.2 0 0)), (1, .long x1), (3, .int x3), (4, .int x4), (5, .long x5), (7, .int x7), (8, .int x8)]) hx hb dX4_pattern_122 hl (by decide) rfl (fun ls hl => ?_)
                refine lv_iload hx hb dX4_pattern_124 (lv_at hl 4 rfl) ?_
                refine lv_bipush (v := 6) hx hb dX4_pattern_126 (by decide) ?_
                refine lv_icmp_ge (tgt := 139) hx hb dX4_pattern_128 (by decide) (fun c14 => ?_) (fun c14 => ?_)
                · rw [if_pos c14] at h
                  refine lv_iload hx hb dX4_pattern_139 (lv_at hl 6 rfl) ?_
                  refine lv_istore (lv' := [(7, .int x7), (9, .int y0), (0, .ref (g.2.2 0 0)), (1, .long x1), (3, .int x3), (4, .int x4), (5, .long x5), (8, .int x8)]) hx hb dX4_pattern_141 hl (by decide) rfl (fun ls hl => ?_)
                  refine lv_iinc (v := x4 + 1) (lv' := [(4, .int (x4 + 1)), (7, .int x7), (9, .int y0), (0, .ref (g.2.2 0 0)), (1, .long x1), (3, .int x3), (5, .long x5), (8, .int x8)]) hx hb dX4_pattern_143 hl (k := 5) rfl rfl (by decide) rfl (fun ls hl => ?_)
                  refine lv_goto (tgt := 34) hx hb dX4_pattern_146 (by decide) ?_
                  obtain rfl := Option.some.inj h
                  exact ih34 S x1 x3 (x4 + 1) x5 x7 x8 y0 ht34 H locs ls B (lv_sub hl [3, 4, 5, 0, 6, 1, 7, 2] rfl)
                · rw [if_neg c14] at h
                  refine lv_bipush (v := 10) hx hb dX4_pattern_131 (by decide) ?_
                  refine lv_iload hx hb dX4_pattern_133 (lv_at hl 6 rfl) ?_
                  refine lv_imul hx hb dX4_pattern_135 ?_
                  refine lv_goto (tgt := 141) hx hb dX4_pattern_136 (by decide) ?_
                  refine lv_istore (lv' := [(7, .int (10 * x7)), (9, .int y0), (0, .ref (g.2.2 0 0)), (1, .long x1), (3, .int x3), (4, .int x4), (5, .long x5), (8, .int x8)]) hx hb dX4_pattern_141 hl (by decide) rfl (fun ls hl => ?_)
                  refine lv_iinc (v := x4 + 1) (lv' := [(4, .int (x4 + 1)), (7, .int (10 * x7)), (9, .int y0), (0, .ref (g.2.2 0 0)), (1, .long x1), (3, .int x3), (5, .long x5), (8, .int x8)]) hx hb dX4_pattern_143 hl (k := 5) rfl rfl (by decide) rfl (fun ls hl => ?_)
                  refine lv_goto (tgt := 34) hx hb dX4_pattern_146 (by decide) ?_
                  obtain rfl := Option.some.inj h
                  exact ih34 S x1 x3 (x4 + 1) x5 (10 * x7) x8 y0 ht34 H locs ls B (lv_sub hl [3, 4, 5, 0, 6, 1, 7, 2] rfl)
              refine lv_if_ne (tgt := 117) hx hb dX4_pattern_107 (by decide) (fun c15 => ?_) (fun c15 => ?_)
              · rw [if_neg c15] at h
                refine lv_iconst (v := 1) hx hb dX4_pattern_117 (by decide) ?_
                refine lv_goto (tgt := 122) hx hb dX4_pattern_118 (by decide) ?_
                exact J122 x4 x5 x7 y0 1 h H locs ls B (lv_sub hl [1, 2, 3, 4, 5, 6, 0] rfl)
              · rw [if_pos c15] at h
                refine lv_iload hx hb dX4_pattern_110 (lv_at hl 8 rfl) ?_
                refine lv_bipush (v := 27) hx hb dX4_pattern_112 (by decide) ?_
                refine lv_icmp_ge (tgt := 121) hx hb dX4_pattern_114 (by decide) (fun c16 => ?_) (fun c16 => ?_)
                · rw [if_pos c16] at h
                  refine lv_iconst (v := 0) hx hb dX4_pattern_121 (by decide) ?_
                  exact J122 x4 x5 x7 y0 0 h H locs ls B (lv_sub hl [1, 2, 3, 4, 5, 6, 0] rfl)
                · rw [if_neg c16] at h
                  refine lv_iconst (v := 1) hx hb dX4_pattern_117 (by decide) ?_
                  refine lv_goto (tgt := 122) hx hb dX4_pattern_118 (by decide) ?_
                  exact J122 x4 x5 x7 y0 1 h H locs ls B (lv_sub hl [1, 2, 3, 4, 5, 6, 0] rfl)
            refine lv_if_eq (tgt := 102) hx hb dX4_pattern_62 (by decide) (fun c17 => ?_) (fun c17 => ?_)
            · rw [if_pos c17] at h
              refine lv_iconst (v := 0) hx hb dX4_pattern_102 (by decide) ?_
              exact J103 x4 (x5 >>> (Int32.toInt64 5 &&& 63)) x7 x9 (Int64.toInt32 (x5 &&& 31)) 0 h H locs ls B (lv_sub hl [2, 3, 4, 5, 0, 6, 8, 1] rfl)
            · rw [if_neg c17] at h
              refine lv_iload hx hb dX4_pattern_65 (lv_at hl 5 rfl) ?_
              refine lv_bipush (v := 6) hx hb dX4_pattern_67 (by decide) ?_
              refine lv_icmp_ge (tgt := 102) hx hb dX4_pattern_69 (by decide) (fun c18 => ?_) (fun c18 => ?_)
              · rw [if_pos c18] at h
                refine lv_iconst (v := 0) hx hb dX4_pattern_102 (by decide) ?_
                exact J103 x4 (x5 >>> (Int32.toInt64 5 &&& 63)) x7 x9 (Int64.toInt32 (x5 &&& 31)) 0 h H locs ls B (lv_sub hl [2, 3, 4, 5, 0, 6, 8, 1] rfl)
              · rw [if_neg c18] at h
                refine lv_iload hx hb dX4_pattern_72 (lv_at hl 1 rfl) ?_
                refine lv_bipush (v := 28) hx hb dX4_pattern_74 (by decide) ?_
                refine lv_icmp_ge (tgt := 102) hx hb dX4_pattern_76 (by decide) (fun c19 => ?_) (fun c19 => ?_)
                · rw [if_pos c19] at h
                  refine lv_iconst (v := 0) hx hb dX4_pattern_102 (by decide) ?_
                  exact J103 x4 (x5 >>> (Int32.toInt64 5 &&& 63)) x7 x9 (Int64.toInt32 (x5 &&& 31)) 0 h H locs ls B (lv_sub hl [2, 3, 4, 5, 0, 6, 8, 1] rfl)
                · rw [if_neg c19] at h
                  refine lv_iload hx hb dX4_pattern_79 (lv_at hl 1 rfl) ?_
                  refine lv_bipush (v := 27) hx hb dX4_pattern_81 (by decide) ?_
                  refine lv_icmp_lt (tgt := 98) hx hb dX4_pattern_83 (by decide) (fun c20 => ?_) (fun c20 => ?_)
                  · rw [if_pos c20] at h
                    refine lv_iconst (v := 1) hx hb dX4_pattern_98 (by decide) ?_
                    refine lv_goto (tgt := 103) hx hb dX4_pattern_99 (by decide) ?_
                    exact J103 x4 (x5 >>> (Int32.toInt64 5 &&& 63)) x7 x9 (Int64.toInt32 (x5 &&& 31)) 1 h H locs ls B (lv_sub hl [2, 3, 4, 5, 0, 6, 8, 1] rfl)
                  · rw [if_neg c20] at h
                    refine lv_iload hx hb dX4_pattern_86 (lv_at hl 5 rfl) ?_
                    refine lv_if_eq (tgt := 98) hx hb dX4_pattern_88 (by decide) (fun c21 => ?_) (fun c21 => ?_)
                    · rw [if_pos c21] at h
                      refine lv_iconst (v := 1) hx hb dX4_pattern_98 (by decide) ?_
                      refine lv_goto (tgt := 103) hx hb dX4_pattern_99 (by decide) ?_
                      exact J103 x4 (x5 >>> (Int32.toInt64 5 &&& 63)) x7 x9 (Int64.toInt32 (x5 &&& 31)) 1 h H locs ls B (lv_sub hl [2, 3, 4, 5, 0, 6, 8, 1] rfl)
                    · rw [if_neg c21] at h
                      refine lv_lload hx hb dX4_pattern_91 (lv_at hl 0 rfl) ?_
                      refine lv_lconst (v := 0) hx hb dX4_pattern_93 (by decide) ?_
                      refine W.lcmp hx hb dX4_pattern_94 ?_
                      refine lv_if_ne (tgt := 102) hx hb dX4_pattern_95 (by decide) (fun c22 => ?_) (fun c22 => ?_)
                      · rw [if_neg c22] at h
                        refine lv_iconst (v := 0) hx hb dX4_pattern_102 (by decide) ?_
                        exact J103 x4 (x5 >>> (Int32.toInt64 5 &&& 63)) x7 x9 (Int64.toInt32 (x5 &&& 31)) 0 h H locs ls B (lv_sub hl [2, 3, 4, 5, 0, 6, 8, 1] rfl)
                      · rw [if_pos c22] at h
                        refine lv_iconst (v := 1) hx hb dX4_pattern_98 (by decide) ?_
                        refine lv_goto (tgt := 103) hx hb dX4_pattern_99 (by decide) ?_
                        exact J103 x4 (x5 >>> (Int32.toInt64 5 &&& 63)) x7 x9 (Int64.toInt32 (x5 &&& 31)) 1 h H locs ls B (lv_sub hl [2, 3, 4, 5, 0, 6, 8, 1] rfl)
      exact L34 n (mup S0 0 0 0 0) x1 x3 0 x1 10 1 0 h H locs ls B (lv_sub hl [5, 6, 7, 4, 3, 2, 1, 0] rfl)
    · rw [if_neg c2] at h
      refine lv_ldc (v := -1000002) hx hb F.2.2.2.1 (F.2.2.2.2 _ (wsU_in mK_X4_113)) dX4_pattern_15 ?_
      obtain rfl := Option.some.inj h
      exact w_iret F hr hlocks B dX4_pattern_17
/-- public int letter(int) -/
def f_X4_letter (n : Nat) (S0 : mem) (x1 : Int32) : Option (Int32 × mem) :=
cal (f_X4_lies n (mup S0 0 0 0 0) x1 0 26) fun q1 => (
if q1 = 0 then (
some ((-1000002, mup S0 0 0 0 0))) else (
if x1 = 0 then (
some ((0, mup (mup S0 0 0 0 0) 0 0 26 0))) else (
if (S0 0 0 26) = 24 then (
some ((-1000004, mup S0 0 0 0 0))) else (
grd (¬ (S0 0 0 26 < 0 ∨ 24 ≤ Int32.toNatClampNeg (S0 0 0 26))) (
some (((S0 0 0 26) + 1, mup (mup (mup S0 0 0 0 0) 27 0 (Int32.toNatClampNeg (S0 0 0 26)) x1) 0 0 26 ((S0 0 0 26) + 1))))))))
set_option maxRecDepth 100000 in
set_option maxHeartbeats 4000000 in
theorem c_X4_letter (l : Launch) (g : cx) (n : Nat) (S0 : mem) (sz : Nat) (x1 : Int32) (q : Int32 × mem) (h : f_X4_letter n S0 x1 = some q) : Met l yX4_letter (wsU yX4_letter cX4_letter 2 (some .int)) (rmD 1) (PcW ixM enM g S0 sz [.ref (g.2.2 0 0), .int x1]) (QiW ixM enM g sz q.1 q.2) 0 0 (Aw ixM g sz) := by
  refine met_intro (Qc := fun z9 => QiW ixM enM g z9 q.1 q.2) (free := fun z9 => Aw ixM g z9) [.ref (g.2.2 0 0), .int x1] RX4 rfl (by decide) (Nat.le_of_ble_eq_true rfl) (fun p e s m args below meth c H locs F hr hlocks B ls hl => ?_)
  have hl : lv_has ls 2 [(0, .ref (g.2.2 0 0)), (1, .int x1)] := hl
  have hx := F.1
  have hb := F.2.1
  unfold f_X4_letter at h
  refine lv_aload_n hx hb dX4_letter_0 rfl (lv_at hl 0 rfl) ?_
  refine lv_iconst (v := 0) hx hb dX4_letter_1 (by decide) ?_
  refine pt_X4_0 F B mF_X4_1 dX4_letter_2 (fun H locs B => ?_)
  refine lv_iload_n hx hb dX4_letter_5 rfl (lv_at hl 1 rfl) ?_
  refine lv_iconst (v := 0) hx hb dX4_letter_6 (by decide) ?_
  refine lv_bipush (v := 26) hx hb dX4_letter_7 (by decide) ?_
  obtain ⟨q1, hq1, h⟩ := cal_some h
  refine w_callSi F B (c_X4_lies l g n (mup S0 0 0 0 0) H.size x1 0 26 q1 hq1) mC_X4_lies mM_X4_109 mN_X4 mT_X4_lies ⟨ok_X4_lies, by decide⟩ rfl hl.1 rfl (Nat.le_of_ble_eq_true rfl) dX4_letter_9 (fun H locs B => ?_)
  refine lv_if_ne (tgt := 18) hx hb dX4_letter_12 (by decide) (fun c2 => ?_) (fun c2 => ?_)
  · rw [if_neg c2] at h
    refine lv_iload_n hx hb dX4_letter_18 rfl (lv_at hl 1 rfl) ?_
    refine lv_if_ne (tgt := 29) hx hb dX4_letter_19 (by decide) (fun c3 => ?_) (fun c3 => ?_)
    · rw [if_neg c3] at h
      refine lv_aload_n hx hb dX4_letter_29 rfl (lv_at hl 0 rfl) ?_
      refine gt_X4_26 F B mF_X4_26 dX4_letter_30 ?_
      refine w_cv (S0 0 0 26) (mup_j (by decide)) ?_
      refine lv_bipush (v := 24) hx hb dX4_letter_33 (by decide) ?_
      refine lv_icmp_ne (tgt := 41) hx hb dX4_letter_35 (by decide) (fun c4 => ?_) (fun c4 => ?_)
      · rw [if_neg c4] at h
        refine lv_aload_n hx hb dX4_letter_41 rfl (lv_at hl 0 rfl) ?_
        refine gt_X4_27 F B mF_X4_100 dX4_letter_42 ?_
        refine lv_aload_n hx hb dX4_letter_45 rfl (lv_at hl 0 rfl) ?_
        refine gt_X4_26 F B mF_X4_26 dX4_letter_46 ?_
        refine w_cv (S0 0 0 26) (mup_j (by decide)) ?_
        refine lv_iload_n hx hb dX4_letter_49 rfl (lv_at hl 1 rfl) ?_
        obtain ⟨z5, h⟩ := grd_some h
        refine as_M27 F B  z5 dX4_letter_50 (fun H locs B => ?_)
        refine lv_aload_n hx hb dX4_letter_51 rfl (lv_at hl 0 rfl) ?_
        refine lv_dup hx hb dX4_letter_52 rfl ?_
        refine gt_X4_26 F B mF_X4_26 dX4_letter_53 ?_
        refine w_cv (S0 0 0 26) ((mup_k (by decide)).trans (mup_j (by decide))) ?_
        refine lv_iconst (v := 1) hx hb dX4_letter_56 (by decide) ?_
        refine lv_iadd hx hb dX4_letter_57 ?_
        refine pt_X4_26 F B mF_X4_26 dX4_letter_58 (fun H locs B => ?_)
        refine lv_aload_n hx hb dX4_letter_61 rfl (lv_at hl 0 rfl) ?_
        refine gt_X4_26 F B mF_X4_26 dX4_letter_62 ?_
        refine w_cv ((S0 0 0 26) + 1) (mup_s) ?_
        obtain rfl := Option.some.inj h
        exact w_iret F hr hlocks B dX4_letter_65
      · rw [if_pos c4] at h
        refine lv_ldc (v := -1000004) hx hb F.2.2.2.1 (F.2.2.2.2 _ (wsU_in mK_X4_114)) dX4_letter_38 ?_
        obtain rfl := Option.some.inj h
        exact w_iret F hr hlocks B dX4_letter_40
    · rw [if_pos c3] at h
      refine lv_aload_n hx hb dX4_letter_22 rfl (lv_at hl 0 rfl) ?_
      refine lv_iconst (v := 0) hx hb dX4_letter_23 (by decide) ?_
      refine pt_X4_26 F B mF_X4_26 dX4_letter_24 (fun H locs B => ?_)
      refine lv_iconst (v := 0) hx hb dX4_letter_27 (by decide) ?_
      obtain rfl := Option.some.inj h
      exact w_iret F hr hlocks B dX4_letter_28
  · rw [if_pos c2] at h
    refine lv_ldc (v := -1000002) hx hb F.2.2.2.1 (F.2.2.2.2 _ (wsU_in mK_X4_113)) dX4_letter_15 ?_
    obtain rfl := Option.some.inj h
    exact w_iret F hr hlocks B dX4_letter_17
def j_X4_sides_56 (n : Nat) (S : mem) (x1 : Int32) (x2 : Int32) (x3 : Int32) (y1 : Int32) : Option (Int32 × mem) :=
if x1 = 1 then (
some ((x3, mup (mup S 0 0 28 y1) 0 0 29 x2))) else (
some ((x3, mup (mup S 0 0 28 y1) 0 0 29 (S 0 0 29))))
def j_X4_sides_42 (n : Nat) (S : mem) (x1 : Int32) (x2 : Int32) (y0 : Int32) : Option (Int32 × mem) :=
if x1 = 0 then (
j_X4_sides_56 n S x1 x2 y0 x2) else (
j_X4_sides_56 n S x1 x2 y0 (S 0 0 28))
/-- public int sides(int, int) -/
def f_X4_sides (n : Nat) (S0 : mem) (x1 : Int32) (x2 : Int32) : Option (Int32 × mem) :=
cal (f_X4_lies n (mup S0 0 0 0 0) x1 0 1) fun q1 => (
if q1 = 0 then (
some ((-1000002, mup S0 0 0 0 0))) else (
cal (f_X4_lies n (mup S0 0 0 0 0) x2 1 24) fun q3 => (
if q3 = 0 then (
some ((-1000002, mup S0 0 0 0 0))) else (
if x1 = 0 then (
j_X4_sides_42 n (mup S0 0 0 0 0) x1 x2 (S0 0 0 28)) else (
j_X4_sides_42 n (mup S0 0 0 0 0) x1 x2 (S0 0 0 29))))))
set_option maxRecDepth 100000 in
set_option maxHeartbeats 4000000 in
theorem c_X4_sides (l : Launch) (g : cx) (n : Nat) (S0 : mem) (sz : Nat) (x1 : Int32) (x2 : Int32) (q : Int32 × mem) (h : f_X4_sides n S0 x1 x2 = some q) : Met l yX4_sides (wsU yX4_sides cX4_sides 4 (some .int)) (rmD 1) (PcW ixM enM g S0 sz [.ref (g.2.2 0 0), .int x1, .int x2]) (QiW ixM enM g sz q.1 q.2) 0 0 (Aw ixM g sz) := by
  refine met_intro (Qc := fun z9 => QiW ixM enM g z9 q.1 q.2) (free := fun z9 => Aw ixM g z9) [.ref (g.2.2 0 0), .int x1, .int x2] RX4 rfl (by decide) (Nat.le_of_ble_eq_true rfl) (fun p e s m args below meth c H locs F hr hlocks B ls hl => ?_)
  have hl : lv_has ls 4 [(0, .ref (g.2.2 0 0)), (1, .int x1), (2, .int x2)] := hl
  have hx := F.1
  have hb := F.2.1
  unfold f_X4_sides at h
  refine lv_aload_n hx hb dX4_sides_0 rfl (lv_at hl 0 rfl) ?_
  refine lv_iconst (v := 0) hx hb dX4_sides_1 (by decide) ?_
  refine pt_X4_0 F B mF_X4_1 dX4_sides_2 (fun H locs B => ?_)
  refine lv_iload_n hx hb dX4_sides_5 rfl (lv_at hl 1 rfl) ?_
  refine lv_iconst (v := 0) hx hb dX4_sides_6 (by decide) ?_
  refine lv_iconst (v := 1) hx hb dX4_sides_7 (by decide) ?_
  obtain ⟨q1, hq1, h⟩ := cal_some h
  refine w_callSi F B (c_X4_lies l g n (mup S0 0 0 0 0) H.size x1 0 1 q1 hq1) mC_X4_lies mM_X4_109 mN_X4 mT_X4_lies ⟨ok_X4_lies, by decide⟩ rfl hl.1 rfl (Nat.le_of_ble_eq_true rfl) dX4_sides_8 (fun H locs B => ?_)
  refine lv_if_eq (tgt := 24) hx hb dX4_sides_11 (by decide) (fun c2 => ?_) (fun c2 => ?_)
  · rw [if_pos c2] at h
    refine lv_ldc (v := -1000002) hx hb F.2.2.2.1 (F.2.2.2.2 _ (wsU_in mK_X4_113)) dX4_sides_24 ?_
    obtain rfl := Option.some.inj h
    exact w_iret F hr hlocks B dX4_sides_26
  · rw [if_neg c2] at h
    refine lv_iload_n hx hb dX4_sides_14 rfl (lv_at hl 2 rfl) ?_
    refine lv_iconst (v := 1) hx hb dX4_sides_15 (by decide) ?_
    refine lv_bipush (v := 24) hx hb dX4_sides_16 (by decide) ?_
    obtain ⟨q3, hq3, h⟩ := cal_some h
    refine w_callSi F B (c_X4_lies l g n (mup S0 0 0 0 0) H.size x2 1 24 q3 hq3) mC_X4_lies mM_X4_109 mN_X4 mT_X4_lies ⟨ok_X4_lies, by decide⟩ rfl hl.1 rfl (Nat.le_of_ble_eq_true rfl) dX4_sides_18 (fun H locs B => ?_)
    refine lv_if_ne (tgt := 27) hx hb dX4_sides_21 (by decide) (fun c4 => ?_) (fun c4 => ?_)
    · rw [if_neg c4] at h
      refine lv_iload_n hx hb dX4_sides_27 rfl (lv_at hl 1 rfl) ?_
      have J42 : ∀ (S : mem) (x1 : Int32) (x2 : Int32) (y0 : Int32), j_X4_sides_42 n S x1 x2 y0 = some q → ∀ (H : Heap) (locs : List Loc) (ls : Array Slot), Wd ixM enM g S (Aw ixM g s.heap.size) s H locs → lv_has ls 4 [(0, .ref (g.2.2 0 0)), (1, .int x1), (2, .int x2)] → W p l e (rmD 1) s m args below meth c H locs 0 0 (MQ below (QiW ixM enM g s.heap.size q.1 q.2) args s 0 0 (Aw ixM g s.heap.size)) (F0 m 42 ls [.int y0]) := by
        intro S x1 x2 y0 h H locs ls B hl
        unfold j_X4_sides_42 at h
        refine lv_istore_n (lv' := [(3, .int y0), (0, .ref (g.2.2 0 0)), (1, .int x1), (2, .int x2)]) hx hb dX4_sides_42 rfl hl (by decide) rfl (fun ls hl => ?_)
        refine lv_aload_n hx hb dX4_sides_43 rfl (lv_at hl 1 rfl) ?_
        refine lv_iload_n hx hb dX4_sides_44 rfl (lv_at hl 2 rfl) ?_
        have J56 : ∀ (S : mem) (x1 : Int32) (x2 : Int32) (x3 : Int32) (y1 : Int32), j_X4_sides_56 n S x1 x2 x3 y1 = some q → ∀ (H : Heap) (locs : List Loc) (ls : Array Slot), Wd ixM enM g S (Aw ixM g s.heap.size) s H locs → lv_has ls 4 [(0, .ref (g.2.2 0 0)), (1, .int x1), (2, .int x2), (3, .int x3)] → W p l e (rmD 1) s m args below meth c H locs 0 0 (MQ below (QiW ixM enM g s.heap.size q.1 q.2) args s 0 0 (Aw ixM g s.heap.size)) (F0 m 56 ls [.int y1, .ref (g.2.2 0 0)]) := by
          intro S x1 x2 x3 y1 h H locs ls B hl
          unfold j_X4_sides_56 at h
          refine pt_X4_28 F B mF_X4_29 dX4_sides_56 (fun H locs B => ?_)
          refine lv_aload_n hx hb dX4_sides_59 rfl (lv_at hl 0 rfl) ?_
          refine lv_iload_n hx hb dX4_sides_60 rfl (lv_at hl 1 rfl) ?_
          refine lv_iconst (v := 1) hx hb dX4_sides_61 (by decide) ?_
          refine lv_icmp_ne (tgt := 69) hx hb dX4_sides_62 (by decide) (fun c5 => ?_) (fun c5 => ?_)
          · rw [if_neg c5] at h
            refine lv_aload_n hx hb dX4_sides_69 rfl (lv_at hl 0 rfl) ?_
            refine gt_X4_29 F B mF_X4_32 dX4_sides_70 ?_
            refine w_cv (S 0 0 29) (mup_j (by decide)) ?_
            refine pt_X4_29 F B mF_X4_32 dX4_sides_73 (fun H locs B => ?_)
            refine lv_iload_n hx hb dX4_sides_76 rfl (lv_at hl 3 rfl) ?_
            obtain rfl := Option.some.inj h
            exact w_iret F hr hlocks B dX4_sides_77
          · rw [if_pos c5] at h
            refine lv_iload_n hx hb dX4_sides_65 rfl (lv_at hl 2 rfl) ?_
            refine lv_goto (tgt := 73) hx hb dX4_sides_66 (by decide) ?_
            refine pt_X4_29 F B mF_X4_32 dX4_sides_73 (fun H locs B => ?_)
            refine lv_iload_n hx hb dX4_sides_76 rfl (lv_at hl 3 rfl) ?_
            obtain rfl := Option.some.inj h
            exact w_iret F hr hlocks B dX4_sides_77
        refine lv_if_ne (tgt := 52) hx hb dX4_sides_45 (by decide) (fun c6 => ?_) (fun c6 => ?_)
        · rw [if_neg c6] at h
          refine lv_aload_n hx hb dX4_sides_52 rfl (lv_at hl 1 rfl) ?_
          refine gt_X4_28 F B mF_X4_29 dX4_sides_53 ?_
          exact J56 S x1 x2 y0 (S 0 0 28) h H locs ls B (lv_sub hl [1, 2, 3, 0] rfl)
        · rw [if_pos c6] at h
          refine lv_iload_n hx hb dX4_sides_48 rfl (lv_at hl 3 rfl) ?_
          refine lv_goto (tgt := 56) hx hb dX4_sides_49 (by decide) ?_
          exact J56 S x1 x2 y0 x2 h H locs ls B (lv_sub hl [1, 2, 3, 0] rfl)
      refine lv_if_ne (tgt := 38) hx hb dX4_sides_28 (by decide) (fun c7 => ?_) (fun c7 => ?_)
      · rw [if_neg c7] at h
        refine lv_aload_n hx hb dX4_sides_38 rfl (lv_at hl 0 rfl) ?_
        refine gt_X4_29 F B mF_X4_32 dX4_sides_39 ?_
        refine w_cv (S0 0 0 29) (mup_j (by decide)) ?_
        exact J42 (mup S0 0 0 0 0) x1 x2 (S0 0 0 29) h H locs ls B (lv_sub hl [0, 1, 2] rfl)
      · rw [if_pos c7] at h
        refine lv_aload_n hx hb dX4_sides_31 rfl (lv_at hl 0 rfl) ?_
        refine gt_X4_28 F B mF_X4_29 dX4_sides_32 ?_
        refine w_cv (S0 0 0 28) (mup_j (by decide)) ?_
        refine lv_goto (tgt := 42) hx hb dX4_sides_35 (by decide) ?_
        exact J42 (mup S0 0 0 0 0) x1 x2 (S0 0 0 28) h H locs ls B (lv_sub hl [0, 1, 2] rfl)
    · rw [if_pos c4] at h
      refine lv_ldc (v := -1000002) hx hb F.2.2.2.1 (F.2.2.2.2 _ (wsU_in mK_X4_113)) dX4_sides_24 ?_
      obtain rfl := Option.some.inj h
      exact w_iret F hr hlocks B dX4_sides_26
/-- private int signAt(int) -/
def f_X4_signAt (n : Nat) (S0 : mem) (x1 : Int32) : Option (Int32) :=
if x1 = 0 then (
some (27)) else (
if x1 ≤ (S0 0 0 26) then (
grd (¬ (x1 - 1 < 0 ∨ 24 ≤ Int32.toNatClampNeg (x1 - 1))) (
some (S0 27 0 (Int32.toNatClampNeg (x1 - 1))))) else (
some (27)))
set_option maxRecDepth 100000 in
set_option maxHeartbeats 4000000 in
theorem c_X4_signAt (l : Launch) (g : cx) (n : Nat) (S0 : mem) (sz : Nat) (x1 : Int32) (q : Int32) (h : f_X4_signAt n S0 x1 = some q) : Met l yX4_signAt (wsU yX4_signAt cX4_signAt 2 (some .int)) (rmD 0) (PcW ixM enM g S0 sz [.ref (g.2.2 0 0), .int x1]) (QiW ixM enM g sz q S0) 0 0 (Aw ixM g sz) := by
  refine met_intro (Qc := fun z9 => QiW ixM enM g z9 q S0) (free := fun z9 => Aw ixM g z9) [.ref (g.2.2 0 0), .int x1] RX4 rfl (by decide) (Nat.le_of_ble_eq_true rfl) (fun p e s m args below meth c H locs F hr hlocks B ls hl => ?_)
  have hl : lv_has ls 2 [(0, .ref (g.2.2 0 0)), (1, .int x1)] := hl
  have hx := F.1
  have hb := F.2.1
  unfold f_X4_signAt at h
  refine lv_iload_n hx hb dX4_signAt_0 rfl (lv_at hl 1 rfl) ?_
  refine lv_if_eq (tgt := 12) hx hb dX4_signAt_1 (by decide) (fun c1 => ?_) (fun c1 => ?_)
  · rw [if_pos c1] at h
    refine lv_bipush (v := 27) hx hb dX4_signAt_12 (by decide) ?_
    refine lv_goto (tgt := 25) hx hb dX4_signAt_14 (by decide) ?_
    obtain rfl := Option.some.inj h
    exact w_iret F hr hlocks B dX4_signAt_25
  · rw [if_neg c1] at h
    refine lv_iload_n hx hb dX4_signAt_4 rfl (lv_at hl 1 rfl) ?_
    refine lv_aload_n hx hb dX4_signAt_5 rfl (lv_at hl 0 rfl) ?_
    refine gt_X4_26 F B mF_X4_26 dX4_signAt_6 ?_
    refine lv_icmp_le (tgt := 17) hx hb dX4_signAt_9 (by decide) (fun c2 => ?_) (fun c2 => ?_)
    · rw [if_pos c2] at h
      refine lv_aload_n hx hb dX4_signAt_17 rfl (lv_at hl 0 rfl) ?_
      refine gt_X4_27 F B mF_X4_100 dX4_signAt_18 ?_
      refine lv_iload_n hx hb dX4_signAt_21 rfl (lv_at hl 1 rfl) ?_
      refine lv_iconst (v := 1) hx hb dX4_signAt_22 (by decide) ?_
      refine lv_isub hx hb dX4_signAt_23 ?_
      obtain ⟨z3, h⟩ := grd_some h
      refine al_M27 F B  z3 dX4_signAt_24 ?_
      obtain rfl := Option.some.inj h
      exact w_iret F hr hlocks B dX4_signAt_25
    · rw [if_neg c2] at h
      refine lv_bipush (v := 27) hx hb dX4_signAt_12 (by decide) ?_
      refine lv_goto (tgt := 25) hx hb dX4_signAt_14 (by decide) ?_
      obtain rfl := Option.some.inj h
      exact w_iret F hr hlocks B dX4_signAt_25
def b_X4_stands_26 (n : Nat) (S0 : mem) (x1 : Int32) (x2 : Int32) : (Int32 × Int32) → Option ((Int32 × Int32) ⊕ (Int32)) := fun w =>
if w.1 = 0 then (
grd (w.1 = 0 ∨ w.1 = 1) (some (.inr (w.1)))) else (
grd (¬ (x1 < 0 ∨ 30 ≤ Int32.toNatClampNeg x1)) (
if (S0 23 0 (Int32.toNatClampNeg x1)) ≤ w.2 then (
grd (w.1 = 0 ∨ w.1 = 1) (some (.inr (w.1)))) else (
cal (f_X4_signAt n S0 (x2 + w.2)) fun q8 => (
grd (¬ ((6 * x1) + w.2 < 0 ∨ 180 ≤ Int32.toNatClampNeg ((6 * x1) + w.2))) (
if q8 = (S0 24 0 (Int32.toNatClampNeg ((6 * x1) + w.2))) then (
some (.inl (1, (w.2 + 1)))) else (
some (.inl (0, (w.2 + 1)))))))))
/-- private boolean stands(int, int) -/
def f_X4_stands (n : Nat) (S0 : mem) (x1 : Int32) (x2 : Int32) : Option (Int32) :=
grd (¬ (x1 < 0 ∨ 30 ≤ Int32.toNatClampNeg x1)) (
if ((S0 0 0 26) + 2) < (x2 + (S0 23 0 (Int32.toNatClampNeg x1))) then (
lp (b_X4_stands_26 n S0 x1 x2) n (0, 0)) else (
lp (b_X4_stands_26 n S0 x1 x2) n (1, 0)))
set_option maxRecDepth 100000 in
set_option maxHeartbeats 4000000 in
theorem c_X4_stands (l : Launch) (g : cx) (n : Nat) (S0 : mem) (sz : Nat) (x1 : Int32) (x2 : Int32) (q : Int32) (h : f_X4_stands n S0 x1 x2 = some q) : Met l yX4_stands (wsU yX4_stands cX4_stands 5 (some .boolean)) (rmD 1) (PcW ixM enM g S0 sz [.ref (g.2.2 0 0), .int x1, .int x2]) (QiW ixM enM g sz q S0) 0 0 (Aw ixM g sz) := by
  refine met_intro (Qc := fun z9 => QiW ixM enM g z9 q S0) (free := fun z9 => Aw ixM g z9) [.ref (g.2.2 0 0), .int x1, .int x2] RX4 rfl (by decide) (Nat.le_of_ble_eq_true rfl) (fun p e s m args below meth c H locs F hr hlocks B ls hl => ?_)
  have hl : lv_has ls 5 [(0, .ref (g.2.2 0 0)), (1, .int x1), (2, .int x2)] := hl
  have hx := F.1
  have hb := F.2.1
  unfold f_X4_stands at h
  refine lv_iload_n hx hb dX4_stands_0 rfl (lv_at hl 2 rfl) ?_
  refine lv_aload_n hx hb dX4_stands_1 rfl (lv_at hl 0 rfl) ?_
  refine gt_X4_23 F B mF_X4_91 dX4_stands_2 ?_
  refine lv_iload_n hx hb dX4_stands_5 rfl (lv_at hl 1 rfl) ?_
  obtain ⟨z1, h⟩ := grd_some h
  refine al_M23 F B  z1 dX4_stands_6 ?_
  refine lv_iadd hx hb dX4_stands_7 ?_
  refine lv_aload_n hx hb dX4_stands_8 rfl (lv_at hl 0 rfl) ?_
  refine gt_X4_26 F B mF_X4_26 dX4_stands_9 ?_
  refine lv_iconst (v := 2) hx hb dX4_stands_12 (by decide) ?_
  refine lv_iadd hx hb dX4_stands_13 ?_
  refine lv_icmp_gt (tgt := 21) hx hb dX4_stands_14 (by decide) (fun c2 => ?_) (fun c2 => ?_)
  · rw [if_pos c2] at h
    refine lv_iconst (v := 0) hx hb dX4_stands_21 (by decide) ?_
    refine lv_istore_n (lv' := [(3, .int 0), (0, .ref (g.2.2 0 0)), (1, .int x1), (2, .int x2)]) hx hb dX4_stands_22 rfl hl (by decide) rfl (fun ls hl => ?_)
    refine lv_iconst (v := 0) hx hb dX4_stands_23 (by decide) ?_
    refine lv_istore (lv' := [(4, .int 0), (3, .int 0), (0, .ref (g.2.2 0 0)), (1, .int x1), (2, .int x2)]) hx hb dX4_stands_24 hl (by decide) rfl (fun ls hl => ?_)
    have L26 : ∀ (k26 : Nat) (x1 : Int32) (x2 : Int32) (x3 : Int32) (x4 : Int32), lp (b_X4_stands_26 n S0 x1 x2) k26 (x3, x4) = some q → ∀ (H : Heap) (locs : List Loc) (ls : Array Slot), Wd ixM enM g S0 (Aw ixM g s.heap.size) s H locs → lv_has ls 5 [(0, .ref (g.2.2 0 0)), (1, .int x1), (2, .int x2), (3, .int x3), (4, .int x4)] → W p l e (rmD 1) s m args below meth c H locs 0 0 (MQ below (QiW ixM enM g s.heap.size q S0) args s 0 0 (Aw ixM g s.heap.size)) (F0 m 26 ls []) := by
      intro k26
      induction k26 with
      | zero => intro x1 x2 x3 x4 h; exact (lp_zero h).elim
      | succ k26 ih26 =>
        intro x1 x2 x3 x4 h H locs ls B hl
        obtain ⟨t26, h, ht26⟩ := lp_succ h
        unfold b_X4_stands_26 at h
        (try dsimp only at h)
        refine lv_iload_n hx hb dX4_stands_26 rfl (lv_at hl 3 rfl) ?_
        refine lv_if_eq (tgt := 76) hx hb dX4_stands_27 (by decide) (fun c3 => ?_) (fun c3 => ?_)
        · rw [if_pos c3] at h
          refine lv_iload_n hx hb dX4_stands_76 rfl (lv_at hl 3 rfl) ?_
          obtain ⟨z4, h⟩ := grd_some h
          obtain rfl := Option.some.inj h
          obtain rfl := (show _ = q from ht26)
          exact w_zret F hr hlocks z4 B dX4_stands_77
        · rw [if_neg c3] at h
          refine lv_iload hx hb dX4_stands_30 (lv_at hl 4 rfl) ?_
          refine lv_aload_n hx hb dX4_stands_32 rfl (lv_at hl 0 rfl) ?_
          refine gt_X4_23 F B mF_X4_91 dX4_stands_33 ?_
          refine lv_iload_n hx hb dX4_stands_36 rfl (lv_at hl 1 rfl) ?_
          obtain ⟨z5, h⟩ := grd_some h
          refine al_M23 F B  z5 dX4_stands_37 ?_
          refine lv_icmp_ge (tgt := 76) hx hb dX4_stands_38 (by decide) (fun c6 => ?_) (fun c6 => ?_)
          · rw [if_pos c6] at h
            refine lv_iload_n hx hb dX4_stands_76 rfl (lv_at hl 3 rfl) ?_
            obtain ⟨z7, h⟩ := grd_some h
            obtain rfl := Option.some.inj h
            obtain rfl := (show _ = q from ht26)
            exact w_zret F hr hlocks z7 B dX4_stands_77
          · rw [if_neg c6] at h
            refine lv_aload_n hx hb dX4_stands_41 rfl (lv_at hl 0 rfl) ?_
            refine lv_iload_n hx hb dX4_stands_42 rfl (lv_at hl 2 rfl) ?_
            refine lv_iload hx hb dX4_stands_43 (lv_at hl 4 rfl) ?_
            refine lv_iadd hx hb dX4_stands_45 ?_
            obtain ⟨q8, hq8, h⟩ := cal_some h
            refine w_callVi F B (c_X4_signAt l g n S0 H.size (x2 + x4) q8 hq8) mC_X4_signAt mM_X4_201 mN_X4 mI_X4_signAt mS_X4_signAt ixM_0 rfl rfl ⟨ok_X4_signAt, by decide⟩ rfl hl.1 rfl (Nat.le_of_ble_eq_true rfl) dX4_stands_46 (fun H locs B => ?_)
            refine lv_aload_n hx hb dX4_stands_49 rfl (lv_at hl 0 rfl) ?_
            refine gt_X4_24 F B mF_X4_94 dX4_stands_50 ?_
            refine lv_bipush (v := 6) hx hb dX4_stands_53 (by decide) ?_
            refine lv_iload_n hx hb dX4_stands_55 rfl (lv_at hl 1 rfl) ?_
            refine lv_imul hx hb dX4_stands_56 ?_
            refine lv_iload hx hb dX4_stands_57 (lv_at hl 4 rfl) ?_
            refine lv_iadd hx hb dX4_stands_59 ?_
            obtain ⟨z9, h⟩ := grd_some h
            refine al_M24 F B  z9 dX4_stands_60 ?_
            refine lv_icmp_ne (tgt := 68) hx hb dX4_stands_61 (by decide) (fun c10 => ?_) (fun c10 => ?_)
            · rw [if_neg c10] at h
              refine lv_iconst (v := 0) hx hb dX4_stands_68 (by decide) ?_
              refine lv_istore_n (lv' := [(3, .int 0), (0, .ref (g.2.2 0 0)), (1, .int x1), (2, .int x2), (4, .int x4)]) hx hb dX4_stands_69 rfl hl (by decide) rfl (fun ls hl => ?_)
              refine lv_iinc (v := x4 + 1) (lv' := [(4, .int (x4 + 1)), (3, .int 0), (0, .ref (g.2.2 0 0)), (1, .int x1), (2, .int x2)]) hx hb dX4_stands_70 hl (k := 4) rfl rfl (by decide) rfl (fun ls hl => ?_)
              refine lv_goto (tgt := 26) hx hb dX4_stands_73 (by decide) ?_
              obtain rfl := Option.some.inj h
              exact ih26 x1 x2 0 (x4 + 1) ht26 H locs ls B (lv_sub hl [2, 3, 4, 1, 0] rfl)
            · rw [if_pos c10] at h
              refine lv_iconst (v := 1) hx hb dX4_stands_64 (by decide) ?_
              refine lv_goto (tgt := 69) hx hb dX4_stands_65 (by decide) ?_
              refine lv_istore_n (lv' := [(3, .int 1), (0, .ref (g.2.2 0 0)), (1, .int x1), (2, .int x2), (4, .int x4)]) hx hb dX4_stands_69 rfl hl (by decide) rfl (fun ls hl => ?_)
              refine lv_iinc (v := x4 + 1) (lv' := [(4, .int (x4 + 1)), (3, .int 1), (0, .ref (g.2.2 0 0)), (1, .int x1), (2, .int x2)]) hx hb dX4_stands_70 hl (k := 4) rfl rfl (by decide) rfl (fun ls hl => ?_)
              refine lv_goto (tgt := 26) hx hb dX4_stands_73 (by decide) ?_
              obtain rfl := Option.some.inj h
              exact ih26 x1 x2 1 (x4 + 1) ht26 H locs ls B (lv_sub hl [2, 3, 4, 1, 0] rfl)
    exact L26 n x1 x2 0 0 h H locs ls B (lv_sub hl [2, 3, 4, 1, 0] rfl)
  · rw [if_neg c2] at h
    refine lv_iconst (v := 1) hx hb dX4_stands_17 (by decide) ?_
    refine lv_goto (tgt := 22) hx hb dX4_stands_18 (by decide) ?_
    refine lv_istore_n (lv' := [(3, .int 1), (0, .ref (g.2.2 0 0)), (1, .int x1), (2, .int x2)]) hx hb dX4_stands_22 rfl hl (by decide) rfl (fun ls hl => ?_)
    refine lv_iconst (v := 0) hx hb dX4_stands_23 (by decide) ?_
    refine lv_istore (lv' := [(4, .int 0), (3, .int 1), (0, .ref (g.2.2 0 0)), (1, .int x1), (2, .int x2)]) hx hb dX4_stands_24 hl (by decide) rfl (fun ls hl => ?_)
    have L26 : ∀ (k26 : Nat) (x1 : Int32) (x2 : Int32) (x3 : Int32) (x4 : Int32), lp (b_X4_stands_26 n S0 x1 x2) k26 (x3, x4) = some q → ∀ (H : Heap) (locs : List Loc) (ls : Array Slot), Wd ixM enM g S0 (Aw ixM g s.heap.size) s H locs → lv_has ls 5 [(0, .ref (g.2.2 0 0)), (1, .int x1), (2, .int x2), (3, .int x3), (4, .int x4)] → W p l e (rmD 1) s m args below meth c H locs 0 0 (MQ below (QiW ixM enM g s.heap.size q S0) args s 0 0 (Aw ixM g s.heap.size)) (F0 m 26 ls []) := by
      intro k26
      induction k26 with
      | zero => intro x1 x2 x3 x4 h; exact (lp_zero h).elim
      | succ k26 ih26 =>
        intro x1 x2 x3 x4 h H locs ls B hl
        obtain ⟨t26, h, ht26⟩ := lp_succ h
        unfold b_X4_stands_26 at h
        (try dsimp only at h)
        refine lv_iload_n hx hb dX4_stands_26 rfl (lv_at hl 3 rfl) ?_
        refine lv_if_eq (tgt := 76) hx hb dX4_stands_27 (by decide) (fun c11 => ?_) (fun c11 => ?_)
        · rw [if_pos c11] at h
          refine lv_iload_n hx hb dX4_stands_76 rfl (lv_at hl 3 rfl) ?_
          obtain ⟨z12, h⟩ := grd_some h
          obtain rfl := Option.some.inj h
          obtain rfl := (show _ = q from ht26)
          exact w_zret F hr hlocks z12 B dX4_stands_77
        · rw [if_neg c11] at h
          refine lv_iload hx hb dX4_stands_30 (lv_at hl 4 rfl) ?_
          refine lv_aload_n hx hb dX4_stands_32 rfl (lv_at hl 0 rfl) ?_
          refine gt_X4_23 F B mF_X4_91 dX4_stands_33 ?_
          refine lv_iload_n hx hb dX4_stands_36 rfl (lv_at hl 1 rfl) ?_
          obtain ⟨z13, h⟩ := grd_some h
          refine al_M23 F B  z13 dX4_stands_37 ?_
          refine lv_icmp_ge (tgt := 76) hx hb dX4_stands_38 (by decide) (fun c14 => ?_) (fun c14 => ?_)
          · rw [if_pos c14] at h
            refine lv_iload_n hx hb dX4_stands_76 rfl (lv_at hl 3 rfl) ?_
            obtain ⟨z15, h⟩ := grd_some h
            obtain rfl := Option.some.inj h
            obtain rfl := (show _ = q from ht26)
            exact w_zret F hr hlocks z15 B dX4_stands_77
          · rw [if_neg c14] at h
            refine lv_aload_n hx hb dX4_stands_41 rfl (lv_at hl 0 rfl) ?_
            refine lv_iload_n hx hb dX4_stands_42 rfl (lv_at hl 2 rfl) ?_
            refine lv_iload hx hb dX4_stands_43 (lv_at hl 4 rfl) ?_
            refine lv_iadd hx hb dX4_stands_45 ?_
            obtain ⟨q16, hq16, h⟩ := cal_some h
            refine w_callVi F B (c_X4_signAt l g n S0 H.size (x2 + x4) q16 hq16) mC_X4_signAt mM_X4_201 mN_X4 mI_X4_signAt mS_X4_signAt ixM_0 rfl rfl ⟨ok_X4_signAt, by decide⟩ rfl hl.1 rfl (Nat.le_of_ble_eq_true rfl) dX4_stands_46 (fun H locs B => ?_)
            refine lv_aload_n hx hb dX4_stands_49 rfl (lv_at hl 0 rfl) ?_
            refine gt_X4_24 F B mF_X4_94 dX4_stands_50 ?_
            refine lv_bipush (v := 6) hx hb dX4_stands_53 (by decide) ?_
            refine lv_iload_n hx hb dX4_stands_55 rfl (lv_at hl 1 rfl) ?_
            refine lv_imul hx hb dX4_stands_56 ?_
            refine lv_iload hx hb dX4_stands_57 (lv_at hl 4 rfl) ?_
            refine lv_iadd hx hb dX4_stands_59 ?_
            obtain ⟨z17, h⟩ := grd_some h
            refine al_M24 F B  z17 dX4_stands_60 ?_
            refine lv_icmp_ne (tgt := 68) hx hb dX4_stands_61 (by decide) (fun c18 => ?_) (fun c18 => ?_)
            · rw [if_neg c18] at h
              refine lv_iconst (v := 0) hx hb dX4_stands_68 (by decide) ?_
              refine lv_istore_n (lv' := [(3, .int 0), (0, .ref (g.2.2 0 0)), (1, .int x1), (2, .int x2), (4, .int x4)]) hx hb dX4_stands_69 rfl hl (by decide) rfl (fun ls hl => ?_)
              refine lv_iinc (v := x4 + 1) (lv' := [(4, .int (x4 + 1)), (3, .int 0), (0, .ref (g.2.2 0 0)), (1, .int x1), (2, .int x2)]) hx hb dX4_stands_70 hl (k := 4) rfl rfl (by decide) rfl (fun ls hl => ?_)
              refine lv_goto (tgt := 26) hx hb dX4_stands_73 (by decide) ?_
              obtain rfl := Option.some.inj h
              exact ih26 x1 x2 0 (x4 + 1) ht26 H locs ls B (lv_sub hl [2, 3, 4, 1, 0] rfl)
            · rw [if_pos c18] at h
              refine lv_iconst (v := 1) hx hb dX4_stands_64 (by decide) ?_
              refine lv_goto (tgt := 69) hx hb dX4_stands_65 (by decide) ?_
              refine lv_istore_n (lv' := [(3, .int 1), (0, .ref (g.2.2 0 0)), (1, .int x1), (2, .int x2), (4, .int x4)]) hx hb dX4_stands_69 rfl hl (by decide) rfl (fun ls hl => ?_)
              refine lv_iinc (v := x4 + 1) (lv' := [(4, .int (x4 + 1)), (3, .int 1), (0, .ref (g.2.2 0 0)), (1, .int x1), (2, .int x2)]) hx hb dX4_stands_70 hl (k := 4) rfl rfl (by decide) rfl (fun ls hl => ?_)
              refine lv_goto (tgt := 26) hx hb dX4_stands_73 (by decide) ?_
              obtain rfl := Option.some.inj h
              exact ih26 x1 x2 1 (x4 + 1) ht26 H locs ls B (lv_sub hl [2, 3, 4, 1, 0] rfl)
    exact L26 n x1 x2 1 0 h H locs ls B (lv_sub hl [2, 3, 4, 1, 0] rfl)
