/-- public int thrown() -/
def f_X4_thrown (n : Nat) (S0 : mem) : Option (Int32) :=
some (S0 0 0 0)
set_option maxRecDepth 100000 in
set_option maxHeartbeats 4000000 in
theorem c_X4_thrown (l : Launch) (g : cx) (n : Nat) (S0 : mem) (sz : Nat)  (q : Int32) (h : f_X4_thrown n S0 = some q) : Met l yX4_thrown (wsU yX4_thrown cX4_thrown 1 (some .int)) (rmD 0) (PcW ixM enM g S0 sz [.ref (g.2.2 0 0)]) (QiW ixM enM g sz q S0) 0 0 (Aw ixM g sz) := by
  refine met_intro (Qc := fun z9 => QiW ixM enM g z9 q S0) (free := fun z9 => Aw ixM g z9) [.ref (g.2.2 0 0)] RX4 rfl (by decide) (Nat.le_of_ble_eq_true rfl) (fun p e s m args below meth c H locs F hr hlocks B ls hl => ?_)
  have hl : lv_has ls 1 [(0, .ref (g.2.2 0 0))] := hl
  have hx := F.1
  have hb := F.2.1
  unfold f_X4_thrown at h
  refine lv_aload_n hx hb dX4_thrown_0 rfl (lv_at hl 0 rfl) ?_
  refine gt_X4_0 F B mF_X4_1 dX4_thrown_1 ?_
  obtain rfl := Option.some.inj h
  exact w_iret F hr hlocks B dX4_thrown_4
def b_X4_fresh_54 (n : Nat) : (Int32 × mem) → Option ((Int32 × mem) ⊕ (mem)) := fun w =>
if 4 ≤ w.1 then (
some (.inr (w.2))) else (
grd (¬ (w.1 < 0 ∨ 4 ≤ Int32.toNatClampNeg w.1)) (
some (.inl ((w.1 + 1), (mup (mup w.2 15 0 (Int32.toNatClampNeg w.1) 0) 16 0 (Int32.toNatClampNeg w.1) (vp_nar .boolean 0))))))
/-- private void fresh() -/
def f_X4_fresh (n : Nat) (S0 : mem) : Option (mem) :=
lp (b_X4_fresh_54 n ) n (0, (mup (mup (mup (mup (mup (mup (mup (mup (mup (mup S0 0 0 1 0) 0 0 9 0) 0 0 10 0) 0 0 17 2000) 0 0 18 0) 0 0 22 0) 0 0 26 0) 0 0 28 2) 0 0 29 3) 0 0 30 (-1)))
set_option maxRecDepth 100000 in
set_option maxHeartbeats 4000000 in
theorem c_X4_fresh (l : Launch) (g : cx) (n : Nat) (S0 : mem) (sz : Nat)  (q : mem) (h : f_X4_fresh n S0 = some q) : Met l yX4_fresh (wsU yX4_fresh cX4_fresh 2 none) (rmD 0) (PcW ixM enM g S0 sz [.ref (g.2.2 0 0)]) (QvW ixM enM g sz q) 0 0 (Aw ixM g sz) := by
  refine met_intro (Qc := fun z9 => QvW ixM enM g z9 q) (free := fun z9 => Aw ixM g z9) [.ref (g.2.2 0 0)] RX4 rfl (by decide) (Nat.le_of_ble_eq_true rfl) (fun p e s m args below meth c H locs F hr hlocks B ls hl => ?_)
  have hl : lv_has ls 2 [(0, .ref (g.2.2 0 0))] := hl
  have hx := F.1
  have hb := F.2.1
  unfold f_X4_fresh at h
  refine lv_aload_n hx hb dX4_fresh_0 rfl (lv_at hl 0 rfl) ?_
  refine lv_iconst (v := 0) hx hb dX4_fresh_1 (by decide) ?_
  refine pt_X4_1 F B mF_X4_7 dX4_fresh_2 (fun H locs B => ?_)
  refine lv_aload_n hx hb dX4_fresh_5 rfl (lv_at hl 0 rfl) ?_
  refine lv_iconst (v := 0) hx hb dX4_fresh_6 (by decide) ?_
  refine pt_X4_9 F B mF_X4_10 dX4_fresh_7 (fun H locs B => ?_)
  refine lv_aload_n hx hb dX4_fresh_10 rfl (lv_at hl 0 rfl) ?_
  refine lv_iconst (v := 0) hx hb dX4_fresh_11 (by decide) ?_
  refine pt_X4_10 F B mF_X4_13 dX4_fresh_12 (fun H locs B => ?_)
  refine lv_aload_n hx hb dX4_fresh_15 rfl (lv_at hl 0 rfl) ?_
  refine lv_sipush (v := 2000) hx hb dX4_fresh_16 (by decide) ?_
  refine pt_X4_17 F B mF_X4_16 dX4_fresh_19 (fun H locs B => ?_)
  refine lv_aload_n hx hb dX4_fresh_22 rfl (lv_at hl 0 rfl) ?_
  refine lv_iconst (v := 0) hx hb dX4_fresh_23 (by decide) ?_
  refine pt_X4_18 F B (Or.inl rfl) mF_X4_19 dX4_fresh_24 (fun H locs B => ?_)
  refine lv_aload_n hx hb dX4_fresh_27 rfl (lv_at hl 0 rfl) ?_
  refine lv_iconst (v := 0) hx hb dX4_fresh_28 (by decide) ?_
  refine pt_X4_22 F B mF_X4_23 dX4_fresh_29 (fun H locs B => ?_)
  refine lv_aload_n hx hb dX4_fresh_32 rfl (lv_at hl 0 rfl) ?_
  refine lv_iconst (v := 0) hx hb dX4_fresh_33 (by decide) ?_
  refine pt_X4_26 F B mF_X4_26 dX4_fresh_34 (fun H locs B => ?_)
  refine lv_aload_n hx hb dX4_fresh_37 rfl (lv_at hl 0 rfl) ?_
  refine lv_iconst (v := 2) hx hb dX4_fresh_38 (by decide) ?_
  refine pt_X4_28 F B mF_X4_29 dX4_fresh_39 (fun H locs B => ?_)
  refine lv_aload_n hx hb dX4_fresh_42 rfl (lv_at hl 0 rfl) ?_
  refine lv_iconst (v := 3) hx hb dX4_fresh_43 (by decide) ?_
  refine pt_X4_29 F B mF_X4_32 dX4_fresh_44 (fun H locs B => ?_)
  refine lv_aload_n hx hb dX4_fresh_47 rfl (lv_at hl 0 rfl) ?_
  refine lv_iconst (v := -1) hx hb dX4_fresh_48 (by decide) ?_
  refine pt_X4_30 F B mF_X4_35 dX4_fresh_49 (fun H locs B => ?_)
  refine lv_iconst (v := 0) hx hb dX4_fresh_52 (by decide) ?_
  refine lv_istore_n (lv' := [(1, .int 0), (0, .ref (g.2.2 0 0))]) hx hb dX4_fresh_53 rfl hl (by decide) rfl (fun ls hl => ?_)
  have L54 : ∀ (k54 : Nat) (x1 : Int32) (S : mem), lp (b_X4_fresh_54 n) k54 (x1, S) = some q → ∀ (H : Heap) (locs : List Loc) (ls : Array Slot), Wd ixM enM g S (Aw ixM g s.heap.size) s H locs → lv_has ls 2 [(0, .ref (g.2.2 0 0)), (1, .int x1)] → W p l e (rmD 0) s m args below meth c H locs 0 0 (MQ below (QvW ixM enM g s.heap.size q) args s 0 0 (Aw ixM g s.heap.size)) (F0 m 54 ls []) := by
    intro k54
    induction k54 with
    | zero => intro x1 S h; exact (lp_zero h).elim
    | succ k54 ih54 =>
      intro x1 S h H locs ls B hl
      obtain ⟨t54, h, ht54⟩ := lp_succ h
      unfold b_X4_fresh_54 at h
      (try dsimp only at h)
      refine lv_iload_n hx hb dX4_fresh_54 rfl (lv_at hl 1 rfl) ?_
      refine lv_iconst (v := 4) hx hb dX4_fresh_55 (by decide) ?_
      refine lv_icmp_ge (tgt := 79) hx hb dX4_fresh_56 (by decide) (fun c1 => ?_) (fun c1 => ?_)
      · rw [if_pos c1] at h
        obtain rfl := Option.some.inj h
        obtain rfl := (show _ = q from ht54)
        exact w_vret F hr hlocks B dX4_fresh_79
      · rw [if_neg c1] at h
        refine lv_aload_n hx hb dX4_fresh_59 rfl (lv_at hl 0 rfl) ?_
        refine gt_X4_15 F B mF_X4_38 dX4_fresh_60 ?_
        refine lv_iload_n hx hb dX4_fresh_63 rfl (lv_at hl 1 rfl) ?_
        refine lv_iconst (v := 0) hx hb dX4_fresh_64 (by decide) ?_
        obtain ⟨z2, h⟩ := grd_some h
        refine as_M15 F B  z2 dX4_fresh_65 (fun H locs B => ?_)
        refine lv_aload_n hx hb dX4_fresh_66 rfl (lv_at hl 0 rfl) ?_
        refine gt_X4_16 F B mF_X4_42 dX4_fresh_67 ?_
        refine lv_iload_n hx hb dX4_fresh_70 rfl (lv_at hl 1 rfl) ?_
        refine lv_iconst (v := 0) hx hb dX4_fresh_71 (by decide) ?_
        refine as_M16 F B  z2 dX4_fresh_72 (fun H locs B => ?_)
        refine lv_iinc (v := x1 + 1) (lv' := [(1, .int (x1 + 1)), (0, .ref (g.2.2 0 0))]) hx hb dX4_fresh_73 hl (k := 1) rfl rfl (by decide) rfl (fun ls hl => ?_)
        refine lv_goto (tgt := 54) hx hb dX4_fresh_76 (by decide) ?_
        obtain rfl := Option.some.inj h
        exact ih54 (x1 + 1) (mup (mup S 15 0 (Int32.toNatClampNeg x1) 0) 16 0 (Int32.toNatClampNeg x1) (vp_nar .boolean 0)) ht54 H locs ls B (lv_sub hl [1, 0] rfl)
  exact L54 n 0 (mup (mup (mup (mup (mup (mup (mup (mup (mup (mup S0 0 0 1 0) 0 0 9 0) 0 0 10 0) 0 0 17 2000) 0 0 18 0) 0 0 22 0) 0 0 26 0) 0 0 28 2) 0 0 29 3) 0 0 30 (-1)) h H locs ls B (lv_sub hl [1, 0] rfl)
/-- private static boolean lies(int, int, int) -/
def f_X4_lies (n : Nat) (S0 : mem) (x0 : Int32) (x1 : Int32) (x2 : Int32) : Option (Int32) :=
if x0 < x1 then (
some (0)) else (
if x2 < x0 then (
some (0)) else (
some (1)))
set_option maxRecDepth 100000 in
set_option maxHeartbeats 4000000 in
theorem c_X4_lies (l : Launch) (g : cx) (n : Nat) (S0 : mem) (sz : Nat) (x0 : Int32) (x1 : Int32) (x2 : Int32) (q : Int32) (h : f_X4_lies n S0 x0 x1 x2 = some q) : Met l yX4_lies (wsU yX4_lies cX4_lies 3 (some .boolean)) (rmD 0) (PcW ixM enM g S0 sz [.int x0, .int x1, .int x2]) (QiW ixM enM g sz q S0) 0 0 (Aw ixM g sz) := by
  refine met_intro (Qc := fun z9 => QiW ixM enM g z9 q S0) (free := fun z9 => Aw ixM g z9) [.int x0, .int x1, .int x2] RX4 rfl (by decide) (Nat.le_of_ble_eq_true rfl) (fun p e s m args below meth c H locs F hr hlocks B ls hl => ?_)
  have hl : lv_has ls 3 [(0, .int x0), (1, .int x1), (2, .int x2)] := hl
  have hx := F.1
  have hb := F.2.1
  unfold f_X4_lies at h
  refine lv_iload_n hx hb dX4_lies_0 rfl (lv_at hl 0 rfl) ?_
  refine lv_iload_n hx hb dX4_lies_1 rfl (lv_at hl 1 rfl) ?_
  refine lv_icmp_lt (tgt := 14) hx hb dX4_lies_2 (by decide) (fun c1 => ?_) (fun c1 => ?_)
  · rw [if_pos c1] at h
    refine lv_iconst (v := 0) hx hb dX4_lies_14 (by decide) ?_
    obtain rfl := Option.some.inj h
    exact w_zret F hr hlocks (Or.inl rfl) B dX4_lies_15
  · rw [if_neg c1] at h
    refine lv_iload_n hx hb dX4_lies_5 rfl (lv_at hl 0 rfl) ?_
    refine lv_iload_n hx hb dX4_lies_6 rfl (lv_at hl 2 rfl) ?_
    refine lv_icmp_gt (tgt := 14) hx hb dX4_lies_7 (by decide) (fun c2 => ?_) (fun c2 => ?_)
    · rw [if_pos c2] at h
      refine lv_iconst (v := 0) hx hb dX4_lies_14 (by decide) ?_
      obtain rfl := Option.some.inj h
      exact w_zret F hr hlocks (Or.inl rfl) B dX4_lies_15
    · rw [if_neg c2] at h
      refine lv_iconst (v := 1) hx hb dX4_lies_10 (by decide) ?_
      refine lv_goto (tgt := 15) hx hb dX4_lies_11 (by decide) ?_
      obtain rfl := Option.some.inj h
      exact w_zret F hr hlocks (Or.inr rfl) B dX4_lies_15
/-- private boolean isNote(int) -/
def f_X4_isNote (n : Nat) (S0 : mem) (x1 : Int32) : Option (Int32) :=
cal (f_X4_lies n S0 x1 0 ((S0 0 0 1) - 1)) fun q1 => (
grd (q1 = 0 ∨ q1 = 1) (some (q1)))
set_option maxRecDepth 100000 in
set_option maxHeartbeats 4000000 in
theorem c_X4_isNote (l : Launch) (g : cx) (n : Nat) (S0 : mem) (sz : Nat) (x1 : Int32) (q : Int32) (h : f_X4_isNote n S0 x1 = some q) : Met l yX4_isNote (wsU yX4_isNote cX4_isNote 2 (some .boolean)) (rmD 1) (PcW ixM enM g S0 sz [.ref (g.2.2 0 0), .int x1]) (QiW ixM enM g sz q S0) 0 0 (Aw ixM g sz) := by
  refine met_intro (Qc := fun z9 => QiW ixM enM g z9 q S0) (free := fun z9 => Aw ixM g z9) [.ref (g.2.2 0 0), .int x1] RX4 rfl (by decide) (Nat.le_of_ble_eq_true rfl) (fun p e s m args below meth c H locs F hr hlocks B ls hl => ?_)
  have hl : lv_has ls 2 [(0, .ref (g.2.2 0 0)), (1, .int x1)] := hl
  have hx := F.1
  have hb := F.2.1
  unfold f_X4_isNote at h
  refine lv_iload_n hx hb dX4_isNote_0 rfl (lv_at hl 1 rfl) ?_
  refine lv_iconst (v := 0) hx hb dX4_isNote_1 (by decide) ?_
  refine lv_aload_n hx hb dX4_isNote_2 rfl (lv_at hl 0 rfl) ?_
  refine gt_X4_1 F B mF_X4_7 dX4_isNote_3 ?_
  refine lv_iconst (v := 1) hx hb dX4_isNote_6 (by decide) ?_
  refine lv_isub hx hb dX4_isNote_7 ?_
  obtain ⟨q1, hq1, h⟩ := cal_some h
  refine w_callSi F B (c_X4_lies l g n S0 H.size x1 0 ((S0 0 0 1) - 1) q1 hq1) mC_X4_lies mM_X4_109 mN_X4 mT_X4_lies ⟨ok_X4_lies, by decide⟩ rfl hl.1 rfl (Nat.le_of_ble_eq_true rfl) dX4_isNote_8 (fun H locs B => ?_)
  obtain ⟨z2, h⟩ := grd_some h
  obtain rfl := Option.some.inj h
  exact w_zret F hr hlocks z2 B dX4_isNote_11
/-- private static boolean isVerse(int) -/
def f_X4_isVerse (n : Nat) (S0 : mem) (x0 : Int32) : Option (Int32) :=
cal (f_X4_lies n S0 x0 0 3) fun q1 => (
grd (q1 = 0 ∨ q1 = 1) (some (q1)))
set_option maxRecDepth 100000 in
set_option maxHeartbeats 4000000 in
theorem c_X4_isVerse (l : Launch) (g : cx) (n : Nat) (S0 : mem) (sz : Nat) (x0 : Int32) (q : Int32) (h : f_X4_isVerse n S0 x0 = some q) : Met l yX4_isVerse (wsU yX4_isVerse cX4_isVerse 1 (some .boolean)) (rmD 1) (PcW ixM enM g S0 sz [.int x0]) (QiW ixM enM g sz q S0) 0 0 (Aw ixM g sz) := by
  refine met_intro (Qc := fun z9 => QiW ixM enM g z9 q S0) (free := fun z9 => Aw ixM g z9) [.int x0] RX4 rfl (by decide) (Nat.le_of_ble_eq_true rfl) (fun p e s m args below meth c H locs F hr hlocks B ls hl => ?_)
  have hl : lv_has ls 1 [(0, .int x0)] := hl
  have hx := F.1
  have hb := F.2.1
  unfold f_X4_isVerse at h
  refine lv_iload_n hx hb dX4_isVerse_0 rfl (lv_at hl 0 rfl) ?_
  refine lv_iconst (v := 0) hx hb dX4_isVerse_1 (by decide) ?_
  refine lv_iconst (v := 3) hx hb dX4_isVerse_2 (by decide) ?_
  obtain ⟨q1, hq1, h⟩ := cal_some h
  refine w_callSi F B (c_X4_lies l g n S0 H.size x0 0 3 q1 hq1) mC_X4_lies mM_X4_109 mN_X4 mT_X4_lies ⟨ok_X4_lies, by decide⟩ rfl hl.1 rfl (Nat.le_of_ble_eq_true rfl) dX4_isVerse_3 (fun H locs B => ?_)
  obtain ⟨z2, h⟩ := grd_some h
  obtain rfl := Option.some.inj h
  exact w_zret F hr hlocks z2 B dX4_isVerse_6
def b_X4_note_107 (n : Nat) : (Int32 × mem) → Option ((Int32 × mem) ⊕ (Int32 × mem)) := fun w =>
if 4 ≤ w.1 then (
some (.inr ((((w.2 0 0 1) + 1) - 1, mup (mup w.2 0 0 18 0) 0 0 1 ((w.2 0 0 1) + 1))))) else (
grd (¬ ((4 * (w.2 0 0 1)) + w.1 < 0 ∨ 240 ≤ Int32.toNatClampNeg ((4 * (w.2 0 0 1)) + w.1))) (
some (.inl ((w.1 + 1), (mup w.2 11 0 (Int32.toNatClampNeg ((4 * (w.2 0 0 1)) + w.1)) 0)))))
/-- public int note(int, int, boolean) -/
def f_X4_note (n : Nat) (S0 : mem) (x1 : Int32) (x2 : Int32) (x3 : Int32) : Option (Int32 × mem) :=
cal (f_X4_lies n (mup S0 0 0 0 0) x1 10 200) fun q1 => (
if q1 = 0 then (
some ((-1000002, mup S0 0 0 0 0))) else (
cal (f_X4_lies n (mup S0 0 0 0 0) x2 1 64) fun q3 => (
if q3 = 0 then (
some ((-1000002, mup S0 0 0 0 0))) else (
if (S0 0 0 1) = 60 then (
some ((-1000004, mup S0 0 0 0 0))) else (
grd (¬ (S0 0 0 1 < 0 ∨ 60 ≤ Int32.toNatClampNeg (S0 0 0 1))) (
lp (b_X4_note_107 n ) n (0, (mup (mup (mup (mup (mup (mup (mup S0 0 0 0 0) 2 0 (Int32.toNatClampNeg (S0 0 0 1)) x1) 3 0 (Int32.toNatClampNeg (S0 0 0 1)) x2) 4 0 (Int32.toNatClampNeg (S0 0 0 1)) (vp_nar .boolean x3)) 5 0 (Int32.toNatClampNeg (S0 0 0 1)) 0) 6 0 (Int32.toNatClampNeg (S0 0 0 1)) (-1000009)) 8 0 (Int32.toNatClampNeg (S0 0 0 1)) (-1000009)))))))))
set_option maxRecDepth 100000 in
set_option maxHeartbeats 4000000 in
theorem c_X4_note (l : Launch) (g : cx) (n : Nat) (S0 : mem) (sz : Nat) (x1 : Int32) (x2 : Int32) (x3 : Int32) (q : Int32 × mem) (h : f_X4_note n S0 x1 x2 x3 = some q) : Met l yX4_note (wsU yX4_note cX4_note 5 (some .int)) (rmD 1) (PcW ixM enM g S0 sz [.ref (g.2.2 0 0), .int x1, .int x2, .int x3]) (QiW ixM enM g sz q.1 q.2) 0 0 (Aw ixM g sz) := by
  refine met_intro (Qc := fun z9 => QiW ixM enM g z9 q.1 q.2) (free := fun z9 => Aw ixM g z9) [.ref (g.2.2 0 0), .int x1, .int x2, .int x3] RX4 rfl (by decide) (Nat.le_of_ble_eq_true rfl) (fun p e s m args below meth c H locs F hr hlocks B ls hl => ?_)
  have hl : lv_has ls 5 [(0, .ref (g.2.2 0 0)), (1, .int x1), (2, .int x2), (3, .int x3)] := hl
  have hx := F.1
  have hb := F.2.1
  unfold f_X4_note at h
  refine lv_aload_n hx hb dX4_note_0 rfl (lv_at hl 0 rfl) ?_
  refine lv_iconst (v := 0) hx hb dX4_note_1 (by decide) ?_
  refine pt_X4_0 F B mF_X4_1 dX4_note_2 (fun H locs B => ?_)
  refine lv_iload_n hx hb dX4_note_5 rfl (lv_at hl 1 rfl) ?_
  refine lv_bipush (v := 10) hx hb dX4_note_6 (by decide) ?_
  refine lv_sipush (v := 200) hx hb dX4_note_8 (by decide) ?_
  obtain ⟨q1, hq1, h⟩ := cal_some h
  refine w_callSi F B (c_X4_lies l g n (mup S0 0 0 0 0) H.size x1 10 200 q1 hq1) mC_X4_lies mM_X4_109 mN_X4 mT_X4_lies ⟨ok_X4_lies, by decide⟩ rfl hl.1 rfl (Nat.le_of_ble_eq_true rfl) dX4_note_11 (fun H locs B => ?_)
  refine lv_if_eq (tgt := 27) hx hb dX4_note_14 (by decide) (fun c2 => ?_) (fun c2 => ?_)
  · rw [if_pos c2] at h
    refine lv_ldc (v := -1000002) hx hb F.2.2.2.1 (F.2.2.2.2 _ (wsU_in mK_X4_113)) dX4_note_27 ?_
    obtain rfl := Option.some.inj h
    exact w_iret F hr hlocks B dX4_note_29
  · rw [if_neg c2] at h
    refine lv_iload_n hx hb dX4_note_17 rfl (lv_at hl 2 rfl) ?_
    refine lv_iconst (v := 1) hx hb dX4_note_18 (by decide) ?_
    refine lv_bipush (v := 64) hx hb dX4_note_19 (by decide) ?_
    obtain ⟨q3, hq3, h⟩ := cal_some h
    refine w_callSi F B (c_X4_lies l g n (mup S0 0 0 0 0) H.size x2 1 64 q3 hq3) mC_X4_lies mM_X4_109 mN_X4 mT_X4_lies ⟨ok_X4_lies, by decide⟩ rfl hl.1 rfl (Nat.le_of_ble_eq_true rfl) dX4_note_21 (fun H locs B => ?_)
    refine lv_if_ne (tgt := 30) hx hb dX4_note_24 (by decide) (fun c4 => ?_) (fun c4 => ?_)
    · rw [if_neg c4] at h
      refine lv_aload_n hx hb dX4_note_30 rfl (lv_at hl 0 rfl) ?_
      refine gt_X4_1 F B mF_X4_7 dX4_note_31 ?_
      refine w_cv (S0 0 0 1) (mup_j (by decide)) ?_
      refine lv_bipush (v := 60) hx hb dX4_note_34 (by decide) ?_
      refine lv_icmp_ne (tgt := 42) hx hb dX4_note_36 (by decide) (fun c5 => ?_) (fun c5 => ?_)
      · rw [if_neg c5] at h
        refine lv_aload_n hx hb dX4_note_42 rfl (lv_at hl 0 rfl) ?_
        refine gt_X4_2 F B mF_X4_52 dX4_note_43 ?_
        refine lv_aload_n hx hb dX4_note_46 rfl (lv_at hl 0 rfl) ?_
        refine gt_X4_1 F B mF_X4_7 dX4_note_47 ?_
        refine w_cv (S0 0 0 1) (mup_j (by decide)) ?_
        refine lv_iload_n hx hb dX4_note_50 rfl (lv_at hl 1 rfl) ?_
        obtain ⟨z6, h⟩ := grd_some h
        refine as_M2 F B  z6 dX4_note_51 (fun H locs B => ?_)
        refine lv_aload_n hx hb dX4_note_52 rfl (lv_at hl 0 rfl) ?_
        refine gt_X4_3 F B mF_X4_55 dX4_note_53 ?_
        refine lv_aload_n hx hb dX4_note_56 rfl (lv_at hl 0 rfl) ?_
        refine gt_X4_1 F B mF_X4_7 dX4_note_57 ?_
        refine w_cv (S0 0 0 1) ((mup_k (by decide)).trans (mup_j (by decide))) ?_
        refine lv_iload_n hx hb dX4_note_60 rfl (lv_at hl 2 rfl) ?_
        refine as_M3 F B  z6 dX4_note_61 (fun H locs B => ?_)
        refine lv_aload_n hx hb dX4_note_62 rfl (lv_at hl 0 rfl) ?_
        refine gt_X4_4 F B mF_X4_58 dX4_note_63 ?_
        refine lv_aload_n hx hb dX4_note_66 rfl (lv_at hl 0 rfl) ?_
        refine gt_X4_1 F B mF_X4_7 dX4_note_67 ?_
        refine w_cv (S0 0 0 1) ((mup_k (by decide)).trans ((mup_k (by decide)).trans (mup_j (by decide)))) ?_
        refine lv_iload_n hx hb dX4_note_70 rfl (lv_at hl 3 rfl) ?_
        refine as_M4 F B  z6 dX4_note_71 (fun H locs B => ?_)
        refine lv_aload_n hx hb dX4_note_72 rfl (lv_at hl 0 rfl) ?_
        refine gt_X4_5 F B mF_X4_61 dX4_note_73 ?_
        refine lv_aload_n hx hb dX4_note_76 rfl (lv_at hl 0 rfl) ?_
        refine gt_X4_1 F B mF_X4_7 dX4_note_77 ?_
        refine w_cv (S0 0 0 1) ((mup_k (by decide)).trans ((mup_k (by decide)).trans ((mup_k (by decide)).trans (mup_j (by decide))))) ?_
        refine lv_iconst (v := 0) hx hb dX4_note_80 (by decide) ?_
        refine as_M5 F B  z6 dX4_note_81 (fun H locs B => ?_)
        refine lv_aload_n hx hb dX4_note_82 rfl (lv_at hl 0 rfl) ?_
        refine gt_X4_6 F B mF_X4_64 dX4_note_83 ?_
        refine lv_aload_n hx hb dX4_note_86 rfl (lv_at hl 0 rfl) ?_
        refine gt_X4_1 F B mF_X4_7 dX4_note_87 ?_
        refine w_cv (S0 0 0 1) ((mup_k (by decide)).trans ((mup_k (by decide)).trans ((mup_k (by decide)).trans ((mup_k (by decide)).trans (mup_j (by decide)))))) ?_
        refine lv_ldc (v := -1000009) hx hb F.2.2.2.1 (F.2.2.2.2 _ (wsU_in mK_X4_115)) dX4_note_90 ?_
        refine as_M6 F B  z6 dX4_note_92 (fun H locs B => ?_)
        refine lv_aload_n hx hb dX4_note_93 rfl (lv_at hl 0 rfl) ?_
        refine gt_X4_8 F B mF_X4_70 dX4_note_94 ?_
        refine lv_aload_n hx hb dX4_note_97 rfl (lv_at hl 0 rfl) ?_
        refine gt_X4_1 F B mF_X4_7 dX4_note_98 ?_
        refine w_cv (S0 0 0 1) ((mup_k (by decide)).trans ((mup_k (by decide)).trans ((mup_k (by decide)).trans ((mup_k (by decide)).trans ((mup_k (by decide)).trans (mup_j (by decide))))))) ?_
        refine lv_ldc (v := -1000009) hx hb F.2.2.2.1 (F.2.2.2.2 _ (wsU_in mK_X4_115)) dX4_note_101 ?_
        refine as_M8 F B  z6 dX4_note_103 (fun H locs B => ?_)
        refine lv_iconst (v := 0) hx hb dX4_note_104 (by decide) ?_
        refine lv_istore (lv' := [(4, .int 0), (0, .ref (g.2.2 0 0)), (1, .int x1), (2, .int x2), (3, .int x3)]) hx hb dX4_note_105 hl (by decide) rfl (fun ls hl => ?_)
        have L107 : ∀ (k107 : Nat) (x4 : Int32) (S : mem), lp (b_X4_note_107 n) k107 (x4, S) = some q → ∀ (H : Heap) (locs : List Loc) (ls : Array Slot), Wd ixM enM g S (Aw ixM g s.heap.size) s H locs → lv_has ls 5 [(0, .ref (g.2.2 0 0)), (4, .int x4)] → W p l e (rmD 1) s m args below meth c H locs 0 0 (MQ below (QiW ixM enM g s.heap.size q.1 q.2) args s 0 0 (Aw ixM g s.heap.size)) (F0 m 107 ls []) := by
          intro k107
          induction k107 with
          | zero => intro x4 S h; exact (lp_zero h).elim
          | succ k107 ih107 =>
            intro x4 S h H locs ls B hl
            obtain ⟨t107, h, ht107⟩ := lp_succ h
            unfold b_X4_note_107 at h
            (try dsimp only at h)
            refine lv_iload hx hb dX4_note_107 (lv_at hl 1 rfl) ?_
            refine lv_iconst (v := 4) hx hb dX4_note_109 (by decide) ?_
            refine lv_icmp_ge (tgt := 134) hx hb dX4_note_110 (by decide) (fun c7 => ?_) (fun c7 => ?_)
            · rw [if_pos c7] at h
              refine lv_aload_n hx hb dX4_note_134 rfl (lv_at hl 0 rfl) ?_
              refine lv_iconst (v := 0) hx hb dX4_note_135 (by decide) ?_
              refine pt_X4_18 F B (Or.inl rfl) mF_X4_19 dX4_note_136 (fun H locs B => ?_)
              refine lv_aload_n hx hb dX4_note_139 rfl (lv_at hl 0 rfl) ?_
              refine lv_dup hx hb dX4_note_140 rfl ?_
              refine gt_X4_1 F B mF_X4_7 dX4_note_141 ?_
              refine w_cv (S 0 0 1) (mup_j (by decide)) ?_
              refine lv_iconst (v := 1) hx hb dX4_note_144 (by decide) ?_
              refine lv_iadd hx hb dX4_note_145 ?_
              refine pt_X4_1 F B mF_X4_7 dX4_note_146 (fun H locs B => ?_)
              refine lv_aload_n hx hb dX4_note_149 rfl (lv_at hl 0 rfl) ?_
              refine gt_X4_1 F B mF_X4_7 dX4_note_150 ?_
              refine w_cv ((S 0 0 1) + 1) (mup_s) ?_
              refine lv_iconst (v := 1) hx hb dX4_note_153 (by decide) ?_
              refine lv_isub hx hb dX4_note_154 ?_
              obtain rfl := Option.some.inj h
              obtain rfl := (show _ = q from ht107)
              exact w_iret F hr hlocks B dX4_note_155
            · rw [if_neg c7] at h
              refine lv_aload_n hx hb dX4_note_113 rfl (lv_at hl 0 rfl) ?_
              refine gt_X4_11 F B mF_X4_73 dX4_note_114 ?_
              refine lv_iconst (v := 4) hx hb dX4_note_117 (by decide) ?_
              refine lv_aload_n hx hb dX4_note_118 rfl (lv_at hl 0 rfl) ?_
              refine gt_X4_1 F B mF_X4_7 dX4_note_119 ?_
              refine lv_imul hx hb dX4_note_122 ?_
              refine lv_iload hx hb dX4_note_123 (lv_at hl 1 rfl) ?_
              refine lv_iadd hx hb dX4_note_125 ?_
              refine lv_iconst (v := 0) hx hb dX4_note_126 (by decide) ?_
              obtain ⟨z8, h⟩ := grd_some h
              refine as_M11 F B  z8 dX4_note_127 (fun H locs B => ?_)
              refine lv_iinc (v := x4 + 1) (lv' := [(4, .int (x4 + 1)), (0, .ref (g.2.2 0 0))]) hx hb dX4_note_128 hl (k := 1) rfl rfl (by decide) rfl (fun ls hl => ?_)
              refine lv_goto (tgt := 107) hx hb dX4_note_131 (by decide) ?_
              obtain rfl := Option.some.inj h
              exact ih107 (x4 + 1) (mup S 11 0 (Int32.toNatClampNeg ((4 * (S 0 0 1)) + x4)) 0) ht107 H locs ls B (lv_sub hl [1, 0] rfl)
        exact L107 n 0 (mup (mup (mup (mup (mup (mup (mup S0 0 0 0 0) 2 0 (Int32.toNatClampNeg (S0 0 0 1)) x1) 3 0 (Int32.toNatClampNeg (S0 0 0 1)) x2) 4 0 (Int32.toNatClampNeg (S0 0 0 1)) (vp_nar .boolean x3)) 5 0 (Int32.toNatClampNeg (S0 0 0 1)) 0) 6 0 (Int32.toNatClampNeg (S0 0 0 1)) (-1000009)) 8 0 (Int32.toNatClampNeg (S0 0 0 1)) (-1000009)) h H locs ls B (lv_sub hl [1, 0] rfl)
      · rw [if_pos c5] at h
        refine lv_ldc (v := -1000004) hx hb F.2.2.2.1 (F.2.2.2.2 _ (wsU_in mK_X4_114)) dX4_note_39 ?_
        obtain rfl := Option.some.inj h
        exact w_iret F hr hlocks B dX4_note_41
    · rw [if_pos c4] at h
      refine lv_ldc (v := -1000002) hx hb F.2.2.2.1 (F.2.2.2.2 _ (wsU_in mK_X4_113)) dX4_note_27 ?_
      obtain rfl := Option.some.inj h
      exact w_iret F hr hlocks B dX4_note_29
/-- private boolean isBehindFirst(int) -/
def f_X4_isBehindFirst (n : Nat) (S0 : mem) (x1 : Int32) : Option (Int32) :=
grd (¬ (x1 < 0 ∨ 60 ≤ Int32.toNatClampNeg x1)) (
if (S0 6 0 (Int32.toNatClampNeg x1)) = (-1000009) then (
some (0)) else (
if (S0 6 0 (Int32.toNatClampNeg x1)) = x1 then (
some (0)) else (
some (1))))
set_option maxRecDepth 100000 in
set_option maxHeartbeats 4000000 in
theorem c_X4_isBehindFirst (l : Launch) (g : cx) (n : Nat) (S0 : mem) (sz : Nat) (x1 : Int32) (q : Int32) (h : f_X4_isBehindFirst n S0 x1 = some q) : Met l yX4_isBehindFirst (wsU yX4_isBehindFirst cX4_isBehindFirst 2 (some .boolean)) (rmD 0) (PcW ixM enM g S0 sz [.ref (g.2.2 0 0), .int x1]) (QiW ixM enM g sz q S0) 0 0 (Aw ixM g sz) := by
  refine met_intro (Qc := fun z9 => QiW ixM enM g z9 q S0) (free := fun z9 => Aw ixM g z9) [.ref (g.2.2 0 0), .int x1] RX4 rfl (by decide) (Nat.le_of_ble_eq_true rfl) (fun p e s m args below meth c H locs F hr hlocks B ls hl => ?_)
  have hl : lv_has ls 2 [(0, .ref (g.2.2 0 0)), (1, .int x1)] := hl
  have hx := F.1
  have hb := F.2.1
  unfold f_X4_isBehindFirst at h
  refine lv_aload_n hx hb dX4_isBehindFirst_0 rfl (lv_at hl 0 rfl) ?_
  refine gt_X4_6 F B mF_X4_64 dX4_isBehindFirst_1 ?_
  refine lv_iload_n hx hb dX4_isBehindFirst_4 rfl (lv_at hl 1 rfl) ?_
  obtain ⟨z1, h⟩ := grd_some h
  refine al_M6 F B  z1 dX4_isBehindFirst_5 ?_
  refine lv_ldc (v := -1000009) hx hb F.2.2.2.1 (F.2.2.2.2 _ (wsU_in mK_X4_115)) dX4_isBehindFirst_6 ?_
  refine lv_icmp_eq (tgt := 25) hx hb dX4_isBehindFirst_8 (by decide) (fun c2 => ?_) (fun c2 => ?_)
  · rw [if_pos c2] at h
    refine lv_iconst (v := 0) hx hb dX4_isBehindFirst_25 (by decide) ?_
    obtain rfl := Option.some.inj h
    exact w_zret F hr hlocks (Or.inl rfl) B dX4_isBehindFirst_26
  · rw [if_neg c2] at h
    refine lv_aload_n hx hb dX4_isBehindFirst_11 rfl (lv_at hl 0 rfl) ?_
    refine gt_X4_6 F B mF_X4_64 dX4_isBehindFirst_12 ?_
    refine lv_iload_n hx hb dX4_isBehindFirst_15 rfl (lv_at hl 1 rfl) ?_
    refine al_M6 F B  z1 dX4_isBehindFirst_16 ?_
    refine lv_iload_n hx hb dX4_isBehindFirst_17 rfl (lv_at hl 1 rfl) ?_
    refine lv_icmp_eq (tgt := 25) hx hb dX4_isBehindFirst_18 (by decide) (fun c3 => ?_) (fun c3 => ?_)
    · rw [if_pos c3] at h
      refine lv_iconst (v := 0) hx hb dX4_isBehindFirst_25 (by decide) ?_
      obtain rfl := Option.some.inj h
      exact w_zret F hr hlocks (Or.inl rfl) B dX4_isBehindFirst_26
    · rw [if_neg c3] at h
      refine lv_iconst (v := 1) hx hb dX4_isBehindFirst_21 (by decide) ?_
      refine lv_goto (tgt := 26) hx hb dX4_isBehindFirst_22 (by decide) ?_
      obtain rfl := Option.some.inj h
      exact w_zret F hr hlocks (Or.inr rfl) B dX4_isBehindFirst_26
def j_X4_syllable_82 (n : Nat) (S : mem) (x1 : Int32) (x2 : Int32) (x3 : Int32) (x4 : Int32) (x5 : Int32) : Option (Int32 × mem) :=
grd (¬ ((4 * x1) + x2 < 0 ∨ 240 ≤ Int32.toNatClampNeg ((4 * x1) + x2))) (
if (S 11 0 (Int32.toNatClampNeg ((4 * x1) + x2))) = 2 then (
some ((-1000004, S))) else (
grd (¬ ((2 * ((4 * x1) + x2)) + (S 11 0 (Int32.toNatClampNeg ((4 * x1) + x2))) < 0 ∨ 480 ≤ Int32.toNatClampNeg ((2 * ((4 * x1) + x2)) + (S 11 0 (Int32.toNatClampNeg ((4 * x1) + x2)))))) (
some (((S 11 0 (Int32.toNatClampNeg ((4 * x1) + x2))) + 1, mup (mup (mup (mup (mup S 12 0 (Int32.toNatClampNeg ((2 * ((4 * x1) + x2)) + (S 11 0 (Int32.toNatClampNeg ((4 * x1) + x2))))) x3) 13 0 (Int32.toNatClampNeg ((2 * ((4 * x1) + x2)) + (S 11 0 (Int32.toNatClampNeg ((4 * x1) + x2))))) x4) 14 0 (Int32.toNatClampNeg ((2 * ((4 * x1) + x2)) + (S 11 0 (Int32.toNatClampNeg ((4 * x1) + x2))))) (vp_nar .boolean x5)) 11 0 (Int32.toNatClampNeg ((4 * x1) + x2)) ((S 11 0 (Int32.toNatClampNeg ((4 * x1) + x2))) + 1)) 0 0 18 0)))))
/-- public int syllable(int, int, int, int, boolean) -/
def f_X4_syllable (n : Nat) (S0 : mem) (x1 : Int32) (x2 : Int32) (x3 : Int32) (x4 : Int32) (x5 : Int32) : Option (Int32 × mem) :=
cal (f_X4_isNote n (mup S0 0 0 0 0) x1) fun q1 => (
if q1 = 0 then (
some ((-1000001, mup S0 0 0 0 0))) else (
cal (f_X4_isVerse n (mup S0 0 0 0 0) x2) fun q3 => (
if q3 = 0 then (
some ((-1000001, mup S0 0 0 0 0))) else (
cal (f_X4_lies n (mup S0 0 0 0 0) x3 1 200) fun q5 => (
if q5 = 0 then (
some ((-1000002, mup S0 0 0 0 0))) else (
cal (f_X4_lies n (mup S0 0 0 0 0) x4 0 x3) fun q7 => (
if q7 = 0 then (
some ((-1000002, mup S0 0 0 0 0))) else (
grd (¬ (x1 < 0 ∨ 60 ≤ Int32.toNatClampNeg x1)) (
if (S0 4 0 (Int32.toNatClampNeg x1)) = 0 then (
cal (f_X4_isBehindFirst n (mup S0 0 0 0 0) x1) fun q11 => (
if q11 = 0 then (
if x2 ≤ 0 then (
j_X4_syllable_82 n (mup S0 0 0 0 0) x1 x2 x3 x4 x5) else (
if (S0 8 0 (Int32.toNatClampNeg x1)) = (-1000009) then (
j_X4_syllable_82 n (mup S0 0 0 0 0) x1 x2 x3 x4 x5) else (
some ((-1000003, mup S0 0 0 0 0))))) else (
some ((-1000003, mup S0 0 0 0 0))))) else (
some ((-1000003, mup S0 0 0 0 0))))))))))))
set_option maxRecDepth 100000 in
set_option maxHeartbeats 4000000 in
theorem c_X4_syllable (l : Launch) (g : cx) (n : Nat) (S0 : mem) (sz : Nat) (x1 : Int32) (x2 : Int32) (x3 : Int32) (x4 : Int32) (x5 : Int32) (q : Int32 × mem) (h : f_X4_syllable n S0 x1 x2 x3 x4 x5 = some q) : Met l yX4_syllable (wsU yX4_syllable cX4_syllable 7 (some .int)) (rmD 2) (PcW ixM enM g S0 sz [.ref (g.2.2 0 0), .int x1, .int x2, .int x3, .int x4, .int x5]) (QiW ixM enM g sz q.1 q.2) 0 0 (Aw ixM g sz) := by
  refine met_intro (Qc := fun z9 => QiW ixM enM g z9 q.1 q.2) (free := fun z9 => Aw ixM g z9) [.ref (g.2.2 0 0), .int x1, .int x2, .int x3, .int x4, .int x5] RX4 rfl (by decide) (Nat.le_of_ble_eq_true rfl) (fun p e s m args below meth c H locs F hr hlocks B ls hl => ?_)
  have hl : lv_has ls 7 [(0, .ref (g.2.2 0 0)), (1, .int x1), (2, .int x2), (3, .int x3), (4, .int x4), (5, .int x5)] := hl
  have hx := F.1
  have hb := F.2.1
  unfold f_X4_syllable at h
  refine lv_aload_n hx hb dX4_syllable_0 rfl (lv_at hl 0 rfl) ?_
  refine lv_iconst (v := 0) hx hb dX4_syllable_1 (by decide) ?_
  refine pt_X4_0 F B mF_X4_1 dX4_syllable_2 (fun H locs B => ?_)
  refine lv_aload_n hx hb dX4_syllable_5 rfl (lv_at hl 0 rfl) ?_
  refine lv_iload_n hx hb dX4_syllable_6 rfl (lv_at hl 1 rfl) ?_
  obtain ⟨q1, hq1, h⟩ := cal_some h
  refine w_callVi F B (c_X4_isNote l g n (mup S0 0 0 0 0) H.size x1 q1 hq1) mC_X4_isNote mM_X4_116 mN_X4 mI_X4_isNote mS_X4_isNote ixM_0 rfl rfl ⟨ok_X4_isNote, by decide⟩ rfl hl.1 rfl (Nat.le_of_ble_eq_true rfl) dX4_syllable_7 (fun H locs B => ?_)
  refine lv_if_eq (tgt := 20) hx hb dX4_syllable_10 (by decide) (fun c2 => ?_) (fun c2 => ?_)
  · rw [if_pos c2] at h
    refine lv_ldc (v := -1000001) hx hb F.2.2.2.1 (F.2.2.2.2 _ (wsU_in mK_X4_123)) dX4_syllable_20 ?_
    obtain rfl := Option.some.inj h
    exact w_iret F hr hlocks B dX4_syllable_22
  · rw [if_neg c2] at h
    refine lv_iload_n hx hb dX4_syllable_13 rfl (lv_at hl 2 rfl) ?_
    obtain ⟨q3, hq3, h⟩ := cal_some h
    refine w_callSi F B (c_X4_isVerse l g n (mup S0 0 0 0 0) H.size x2 q3 hq3) mC_X4_isVerse mM_X4_120 mN_X4 mT_X4_isVerse ⟨ok_X4_isVerse, by decide⟩ rfl hl.1 rfl (Nat.le_of_ble_eq_true rfl) dX4_syllable_14 (fun H locs B => ?_)
    refine lv_if_ne (tgt := 23) hx hb dX4_syllable_17 (by decide) (fun c4 => ?_) (fun c4 => ?_)
    · rw [if_neg c4] at h
      refine lv_iload_n hx hb dX4_syllable_23 rfl (lv_at hl 3 rfl) ?_
      refine lv_iconst (v := 1) hx hb dX4_syllable_24 (by decide) ?_
      refine lv_sipush (v := 200) hx hb dX4_syllable_25 (by decide) ?_
      obtain ⟨q5, hq5, h⟩ := cal_some h
      refine w_callSi F B (c_X4_lies l g n (mup S0 0 0 0 0) H.size x3 1 200 q5 hq5) mC_X4_lies mM_X4_109 mN_X4 mT_X4_lies ⟨ok_X4_lies, by decide⟩ rfl hl.1 rfl (Nat.le_of_ble_eq_true rfl) dX4_syllable_28 (fun H locs B => ?_)
      refine lv_if_eq (tgt := 44) hx hb dX4_syllable_31 (by decide) (fun c6 => ?_) (fun c6 => ?_)
      · rw [if_pos c6] at h
        refine lv_ldc (v := -1000002) hx hb F.2.2.2.1 (F.2.2.2.2 _ (wsU_in mK_X4_113)) dX4_syllable_44 ?_
        obtain rfl := Option.some.inj h
        exact w_iret F hr hlocks B dX4_syllable_46
      · rw [if_neg c6] at h
        refine lv_iload hx hb dX4_syllable_34 (lv_at hl 4 rfl) ?_
        refine lv_iconst (v := 0) hx hb dX4_syllable_36 (by decide) ?_
        refine lv_iload_n hx hb dX4_syllable_37 rfl (lv_at hl 3 rfl) ?_
        obtain ⟨q7, hq7, h⟩ := cal_some h
        refine w_callSi F B (c_X4_lies l g n (mup S0 0 0 0 0) H.size x4 0 x3 q7 hq7) mC_X4_lies mM_X4_109 mN_X4 mT_X4_lies ⟨ok_X4_lies, by decide⟩ rfl hl.1 rfl (Nat.le_of_ble_eq_true rfl) dX4_syllable_38 (fun H locs B => ?_)
        refine lv_if_ne (tgt := 47) hx hb dX4_syllable_41 (by decide) (fun c8 => ?_) (fun c8 => ?_)
        · rw [if_neg c8] at h
          refine lv_aload_n hx hb dX4_syllable_47 rfl (lv_at hl 0 rfl) ?_
          refine gt_X4_4 F B mF_X4_58 dX4_syllable_48 ?_
          refine lv_iload_n hx hb dX4_syllable_51 rfl (lv_at hl 1 rfl) ?_
          obtain ⟨z9, h⟩ := grd_some h
          refine al_M4 F B  z9 dX4_syllable_52 ?_
          refine w_cv (S0 4 0 (Int32.toNatClampNeg x1)) (mup_k (by decide)) ?_
          refine lv_if_ne (tgt := 79) hx hb dX4_syllable_53 (by decide) (fun c10 => ?_) (fun c10 => ?_)
          · rw [if_neg c10] at h
            refine lv_ldc (v := -1000003) hx hb F.2.2.2.1 (F.2.2.2.2 _ (wsU_in mK_X4_127)) dX4_syllable_79 ?_
            obtain rfl := Option.some.inj h
            exact w_iret F hr hlocks B dX4_syllable_81
          · rw [if_pos c10] at h
            refine lv_aload_n hx hb dX4_syllable_56 rfl (lv_at hl 0 rfl) ?_
            refine lv_iload_n hx hb dX4_syllable_57 rfl (lv_at hl 1 rfl) ?_
            obtain ⟨q11, hq11, h⟩ := cal_some h
            refine w_callVi F B (c_X4_isBehindFirst l g n (mup S0 0 0 0 0) H.size x1 q11 hq11) mC_X4_isBehindFirst mM_X4_124 mN_X4 mI_X4_isBehindFirst mS_X4_isBehindFirst ixM_0 rfl rfl ⟨ok_X4_isBehindFirst, by decide⟩ rfl hl.1 rfl (Nat.le_of_ble_eq_true rfl) dX4_syllable_58 (fun H locs B => ?_)
            refine lv_if_ne (tgt := 79) hx hb dX4_syllable_61 (by decide) (fun c12 => ?_) (fun c12 => ?_)
            · rw [if_neg c12] at h
              refine lv_ldc (v := -1000003) hx hb F.2.2.2.1 (F.2.2.2.2 _ (wsU_in mK_X4_127)) dX4_syllable_79 ?_
              obtain rfl := Option.some.inj h
              exact w_iret F hr hlocks B dX4_syllable_81
            · rw [if_pos c12] at h
              refine lv_iload_n hx hb dX4_syllable_64 rfl (lv_at hl 2 rfl) ?_
              have J82 : ∀ (S : mem) (x1 : Int32) (x2 : Int32) (x3 : Int32) (x4 : Int32) (x5 : Int32), j_X4_syllable_82 n S x1 x2 x3 x4 x5 = some q → ∀ (H : Heap) (locs : List Loc) (ls : Array Slot), Wd ixM enM g S (Aw ixM g s.heap.size) s H locs → lv_has ls 7 [(0, .ref (g.2.2 0 0)), (1, .int x1), (2, .int x2), (3, .int x3), (4, .int x4), (5, .int x5)] → W p l e (rmD 2) s m args below meth c H locs 0 0 (MQ below (QiW ixM enM g s.heap.size q.1 q.2) args s 0 0 (Aw ixM g s.heap.size)) (F0 m 82 ls []) := by
                intro S x1 x2 x3 x4 x5 h H locs ls B hl
                unfold j_X4_syllable_82 at h
                refine lv_iconst (v := 4) hx hb dX4_syllable_82 (by decide) ?_
                refine lv_iload_n hx hb dX4_syllable_83 rfl (lv_at hl 1 rfl) ?_
                refine lv_imul hx hb dX4_syllable_84 ?_
                refine lv_iload_n hx hb dX4_syllable_85 rfl (lv_at hl 2 rfl) ?_
                refine lv_iadd hx hb dX4_syllable_86 ?_
                refine lv_istore (lv' := [(6, .int ((4 * x1) + x2)), (0, .ref (g.2.2 0 0)), (1, .int x1), (2, .int x2), (3, .int x3), (4, .int x4), (5, .int x5)]) hx hb dX4_syllable_87 hl (by decide) rfl (fun ls hl => ?_)
                refine lv_aload_n hx hb dX4_syllable_89 rfl (lv_at hl 1 rfl) ?_
                refine gt_X4_11 F B mF_X4_73 dX4_syllable_90 ?_
                refine lv_iload hx hb dX4_syllable_93 (lv_at hl 0 rfl) ?_
                obtain ⟨z13, h⟩ := grd_some h
                refine al_M11 F B  z13 dX4_syllable_95 ?_
                refine lv_iconst (v := 2) hx hb dX4_syllable_96 (by decide) ?_
                refine lv_icmp_ne (tgt := 103) hx hb dX4_syllable_97 (by decide) (fun c14 => ?_) (fun c14 => ?_)
                · rw [if_neg c14] at h
                  refine lv_aload_n hx hb dX4_syllable_103 rfl (lv_at hl 1 rfl) ?_
                  refine gt_X4_12 F B mF_X4_76 dX4_syllable_104 ?_
                  refine lv_iconst (v := 2) hx hb dX4_syllable_107 (by decide) ?_
                  refine lv_iload hx hb dX4_syllable_108 (lv_at hl 0 rfl) ?_
                  refine lv_imul hx hb dX4_syllable_110 ?_
                  refine lv_aload_n hx hb dX4_syllable_111 rfl (lv_at hl 1 rfl) ?_
                  refine gt_X4_11 F B mF_X4_73 dX4_syllable_112 ?_
                  refine lv_iload hx hb dX4_syllable_115 (lv_at hl 0 rfl) ?_
                  refine al_M11 F B  z13 dX4_syllable_117 ?_
                  refine lv_iadd hx hb dX4_syllable_118 ?_
                  refine lv_iload_n hx hb dX4_syllable_119 rfl (lv_at hl 4 rfl) ?_
                  obtain ⟨z15, h⟩ := grd_some h
                  refine as_M12 F B  z15 dX4_syllable_120 (fun H locs B => ?_)
                  refine lv_aload_n hx hb dX4_syllable_121 rfl (lv_at hl 1 rfl) ?_
                  refine gt_X4_13 F B mF_X4_79 dX4_syllable_122 ?_
                  refine lv_iconst (v := 2) hx hb dX4_syllable_125 (by decide) ?_
                  refine lv_iload hx hb dX4_syllable_126 (lv_at hl 0 rfl) ?_
                  refine lv_imul hx hb dX4_syllable_128 ?_
                  refine lv_aload_n hx hb dX4_syllable_129 rfl (lv_at hl 1 rfl) ?_
                  refine gt_X4_11 F B mF_X4_73 dX4_syllable_130 ?_
                  refine lv_iload hx hb dX4_syllable_133 (lv_at hl 0 rfl) ?_
                  refine al_M11 F B  z13 dX4_syllable_135 ?_
                  refine w_cv (S 11 0 (Int32.toNatClampNeg ((4 * x1) + x2))) (mup_k (by decide)) ?_
                  refine lv_iadd hx hb dX4_syllable_136 ?_
                  refine lv_iload hx hb dX4_syllable_137 (lv_at hl 5 rfl) ?_
                  refine as_M13 F B  z15 dX4_syllable_139 (fun H locs B => ?_)
                  refine lv_aload_n hx hb dX4_syllable_140 rfl (lv_at hl 1 rfl) ?_
                  refine gt_X4_14 F B mF_X4_82 dX4_syllable_141 ?_
                  refine lv_iconst (v := 2) hx hb dX4_syllable_144 (by decide) ?_
                  refine lv_iload hx hb dX4_syllable_145 (lv_at hl 0 rfl) ?_
                  refine lv_imul hx hb dX4_syllable_147 ?_
                  refine lv_aload_n hx hb dX4_syllable_148 rfl (lv_at hl 1 rfl) ?_
                  refine gt_X4_11 F B mF_X4_73 dX4_syllable_149 ?_
                  refine lv_iload hx hb dX4_syllable_152 (lv_at hl 0 rfl) ?_
                  refine al_M11 F B  z13 dX4_syllable_154 ?_
                  refine w_cv (S 11 0 (Int32.toNatClampNeg ((4 * x1) + x2))) ((mup_k (by decide)).trans (mup_k (by decide))) ?_
                  refine lv_iadd hx hb dX4_syllable_155 ?_
                  refine lv_iload hx hb dX4_syllable_156 (lv_at hl 6 rfl) ?_
                  refine as_M14 F B  z15 dX4_syllable_158 (fun H locs B => ?_)
                  refine lv_aload_n hx hb dX4_syllable_159 rfl (lv_at hl 1 rfl) ?_
                  refine gt_X4_11 F B mF_X4_73 dX4_syllable_160 ?_
                  refine lv_iload hx hb dX4_syllable_163 (lv_at hl 0 rfl) ?_
                  refine lv_dup2_11 hx hb dX4_syllable_165 rfl rfl ?_
                  refine al_M11 F B  z13 dX4_syllable_166 ?_
                  refine w_cv (S 11 0 (Int32.toNatClampNeg ((4 * x1) + x2))) ((mup_k (by decide)).trans ((mup_k (by decide)).trans (mup_k (by decide)))) ?_
                  refine lv_iconst (v := 1) hx hb dX4_syllable_167 (by decide) ?_
                  refine lv_iadd hx hb dX4_syllable_168 ?_
                  refine as_M11 F B  z13 dX4_syllable_169 (fun H locs B => ?_)
                  refine lv_aload_n hx hb dX4_syllable_170 rfl (lv_at hl 1 rfl) ?_
                  refine lv_iconst (v := 0) hx hb dX4_syllable_171 (by decide) ?_
                  refine pt_X4_18 F B (Or.inl rfl) mF_X4_19 dX4_syllable_172 (fun H locs B => ?_)
                  refine lv_aload_n hx hb dX4_syllable_175 rfl (lv_at hl 1 rfl) ?_
                  refine gt_X4_11 F B mF_X4_73 dX4_syllable_176 ?_
                  refine lv_iload hx hb dX4_syllable_179 (lv_at hl 0 rfl) ?_
                  refine al_M11 F B  z13 dX4_syllable_181 ?_
                  refine w_cv ((S 11 0 (Int32.toNatClampNeg ((4 * x1) + x2))) + 1) ((mup_k (by decide)).trans (mup_s)) ?_
                  obtain rfl := Option.some.inj h
                  exact w_iret F hr hlocks B dX4_syllable_182
                · rw [if_pos c14] at h
                  refine lv_ldc (v := -1000004) hx hb F.2.2.2.1 (F.2.2.2.2 _ (wsU_in mK_X4_114)) dX4_syllable_100 ?_
                  obtain rfl := Option.some.inj h
                  exact w_iret F hr hlocks B dX4_syllable_102
              refine lv_if_le (tgt := 82) hx hb dX4_syllable_65 (by decide) (fun c16 => ?_) (fun c16 => ?_)
              · rw [if_pos c16] at h
                exact J82 (mup S0 0 0 0 0) x1 x2 x3 x4 x5 h H locs ls B (lv_sub hl [0, 1, 2, 3, 4, 5] rfl)
              · rw [if_neg c16] at h
                refine lv_aload_n hx hb dX4_syllable_68 rfl (lv_at hl 0 rfl) ?_
                refine gt_X4_8 F B mF_X4_70 dX4_syllable_69 ?_
                refine lv_iload_n hx hb dX4_syllable_72 rfl (lv_at hl 1 rfl) ?_
                refine al_M8 F B  z9 dX4_syllable_73 ?_
                refine w_cv (S0 8 0 (Int32.toNatClampNeg x1)) (mup_k (by decide)) ?_
                refine lv_ldc (v := -1000009) hx hb F.2.2.2.1 (F.2.2.2.2 _ (wsU_in mK_X4_115)) dX4_syllable_74 ?_
                refine lv_icmp_eq (tgt := 82) hx hb dX4_syllable_76 (by decide) (fun c17 => ?_) (fun c17 => ?_)
                · rw [if_pos c17] at h
                  exact J82 (mup S0 0 0 0 0) x1 x2 x3 x4 x5 h H locs ls B (lv_sub hl [0, 1, 2, 3, 4, 5] rfl)
                · rw [if_neg c17] at h
                  refine lv_ldc (v := -1000003) hx hb F.2.2.2.1 (F.2.2.2.2 _ (wsU_in mK_X4_127)) dX4_syllable_79 ?_
                  obtain rfl := Option.some.inj h
                  exact w_iret F hr hlocks B dX4_syllable_81
        · rw [if_pos c8] at h
          refine lv_ldc (v := -1000002) hx hb F.2.2.2.1 (F.2.2.2.2 _ (wsU_in mK_X4_113)) dX4_syllable_44 ?_
          obtain rfl := Option.some.inj h
          exact w_iret F hr hlocks B dX4_syllable_46
    · rw [if_pos c4] at h
      refine lv_ldc (v := -1000001) hx hb F.2.2.2.1 (F.2.2.2.2 _ (wsU_in mK_X4_123)) dX4_syllable_20 ?_
      obtain rfl := Option.some.inj h
      exact w_iret F hr hlocks B dX4_syllable_22
/-- public int wipe(int, int) -/
def f_X4_wipe (n : Nat) (S0 : mem) (x1 : Int32) (x2 : Int32) : Option (Int32 × mem) :=
cal (f_X4_isNote n (mup S0 0 0 0 0) x1) fun q1 => (
if q1 = 0 then (
some ((-1000001, mup S0 0 0 0 0))) else (
cal (f_X4_isVerse n (mup S0 0 0 0 0) x2) fun q3 => (
if q3 = 0 then (
some ((-1000001, mup S0 0 0 0 0))) else (
grd (¬ ((4 * x1) + x2 < 0 ∨ 240 ≤ Int32.toNatClampNeg ((4 * x1) + x2))) (
some ((S0 11 0 (Int32.toNatClampNeg ((4 * x1) + x2)), mup (mup (mup S0 0 0 0 0) 11 0 (Int32.toNatClampNeg ((4 * x1) + x2)) 0) 0 0 18 0)))))))
set_option maxRecDepth 100000 in
set_option maxHeartbeats 4000000 in
theorem c_X4_wipe (l : Launch) (g : cx) (n : Nat) (S0 : mem) (sz : Nat) (x1 : Int32) (x2 : Int32) (q : Int32 × mem) (h : f_X4_wipe n S0 x1 x2 = some q) : Met l yX4_wipe (wsU yX4_wipe cX4_wipe 4 (some .int)) (rmD 2) (PcW ixM enM g S0 sz [.ref (g.2.2 0 0), .int x1, .int x2]) (QiW ixM enM g sz q.1 q.2) 0 0 (Aw ixM g sz) := by
  refine met_intro (Qc := fun z9 => QiW ixM enM g z9 q.1 q.2) (free := fun z9 => Aw ixM g z9) [.ref (g.2.2 0 0), .int x1, .int x2] RX4 rfl (by decide) (Nat.le_of_ble_eq_true rfl) (fun p e s m args below meth c H locs F hr hlocks B ls hl => ?_)
  have hl : lv_has ls 4 [(0, .ref (g.2.2 0 0)), (1, .int x1), (2, .int x2)] := hl
  have hx := F.1
  have hb := F.2.1
  unfold f_X4_wipe at h
  refine lv_aload_n hx hb dX4_wipe_0 rfl (lv_at hl 0 rfl) ?_
  refine lv_iconst (v := 0) hx hb dX4_wipe_1 (by decide) ?_
  refine pt_X4_0 F B mF_X4_1 dX4_wipe_2 (fun H locs B => ?_)
  refine lv_aload_n hx hb dX4_wipe_5 rfl (lv_at hl 0 rfl) ?_
  refine lv_iload_n hx hb dX4_wipe_6 rfl (lv_at hl 1 rfl) ?_
  obtain ⟨q1, hq1, h⟩ := cal_some h
  refine w_callVi F B (c_X4_isNote l g n (mup S0 0 0 0 0) H.size x1 q1 hq1) mC_X4_isNote mM_X4_116 mN_X4 mI_X4_isNote mS_X4_isNote ixM_0 rfl rfl ⟨ok_X4_isNote, by decide⟩ rfl hl.1 rfl (Nat.le_of_ble_eq_true rfl) dX4_wipe_7 (fun H locs B => ?_)
  refine lv_if_eq (tgt := 20) hx hb dX4_wipe_10 (by decide) (fun c2 => ?_) (fun c2 => ?_)
  · rw [if_pos c2] at h
    refine lv_ldc (v := -1000001) hx hb F.2.2.2.1 (F.2.2.2.2 _ (wsU_in mK_X4_123)) dX4_wipe_20 ?_
    obtain rfl := Option.some.inj h
    exact w_iret F hr hlocks B dX4_wipe_22
  · rw [if_neg c2] at h
    refine lv_iload_n hx hb dX4_wipe_13 rfl (lv_at hl 2 rfl) ?_
    obtain ⟨q3, hq3, h⟩ := cal_some h
    refine w_callSi F B (c_X4_isVerse l g n (mup S0 0 0 0 0) H.size x2 q3 hq3) mC_X4_isVerse mM_X4_120 mN_X4 mT_X4_isVerse ⟨ok_X4_isVerse, by decide⟩ rfl hl.1 rfl (Nat.le_of_ble_eq_true rfl) dX4_wipe_14 (fun H locs B => ?_)
    refine lv_if_ne (tgt := 23) hx hb dX4_wipe_17 (by decide) (fun c4 => ?_) (fun c4 => ?_)
    · rw [if_neg c4] at h
      refine lv_aload_n hx hb dX4_wipe_23 rfl (lv_at hl 0 rfl) ?_
      refine gt_X4_11 F B mF_X4_73 dX4_wipe_24 ?_
      refine lv_iconst (v := 4) hx hb dX4_wipe_27 (by decide) ?_
      refine lv_iload_n hx hb dX4_wipe_28 rfl (lv_at hl 1 rfl) ?_
      refine lv_imul hx hb dX4_wipe_29 ?_
      refine lv_iload_n hx hb dX4_wipe_30 rfl (lv_at hl 2 rfl) ?_
      refine lv_iadd hx hb dX4_wipe_31 ?_
      obtain ⟨z5, h⟩ := grd_some h
      refine al_M11 F B  z5 dX4_wipe_32 ?_
      refine w_cv (S0 11 0 (Int32.toNatClampNeg ((4 * x1) + x2))) (mup_k (by decide)) ?_
      refine lv_istore_n (lv' := [(3, .int (S0 11 0 (Int32.toNatClampNeg ((4 * x1) + x2)))), (0, .ref (g.2.2 0 0)), (1, .int x1), (2, .int x2)]) hx hb dX4_wipe_33 rfl hl (by decide) rfl (fun ls hl => ?_)
      refine lv_aload_n hx hb dX4_wipe_34 rfl (lv_at hl 1 rfl) ?_
      refine gt_X4_11 F B mF_X4_73 dX4_wipe_35 ?_
      refine lv_iconst (v := 4) hx hb dX4_wipe_38 (by decide) ?_
      refine lv_iload_n hx hb dX4_wipe_39 rfl (lv_at hl 2 rfl) ?_
      refine lv_imul hx hb dX4_wipe_40 ?_
      refine lv_iload_n hx hb dX4_wipe_41 rfl (lv_at hl 3 rfl) ?_
      refine lv_iadd hx hb dX4_wipe_42 ?_
      refine lv_iconst (v := 0) hx hb dX4_wipe_43 (by decide) ?_
      refine as_M11 F B  z5 dX4_wipe_44 (fun H locs B => ?_)
      refine lv_aload_n hx hb dX4_wipe_45 rfl (lv_at hl 1 rfl) ?_
      refine lv_iconst (v := 0) hx hb dX4_wipe_46 (by decide) ?_
      refine pt_X4_18 F B (Or.inl rfl) mF_X4_19 dX4_wipe_47 (fun H locs B => ?_)
      refine lv_iload_n hx hb dX4_wipe_50 rfl (lv_at hl 0 rfl) ?_
      obtain rfl := Option.some.inj h
      exact w_iret F hr hlocks B dX4_wipe_51
    · rw [if_pos c4] at h
      refine lv_ldc (v := -1000001) hx hb F.2.2.2.1 (F.2.2.2.2 _ (wsU_in mK_X4_123)) dX4_wipe_20 ?_
      obtain rfl := Option.some.inj h
      exact w_iret F hr hlocks B dX4_wipe_22
/-- public int chord(int, int) -/
def f_X4_chord (n : Nat) (S0 : mem) (x1 : Int32) (x2 : Int32) : Option (Int32 × mem) :=
cal (f_X4_isNote n (mup S0 0 0 0 0) x1) fun q1 => (
if q1 = 0 then (
some ((-1000001, mup S0 0 0 0 0))) else (
cal (f_X4_lies n (mup S0 0 0 0 0) x2 0 200) fun q3 => (
if q3 = 0 then (
some ((-1000002, mup S0 0 0 0 0))) else (
grd (¬ (x1 < 0 ∨ 60 ≤ Int32.toNatClampNeg x1)) (
some ((S0 5 0 (Int32.toNatClampNeg x1), mup (mup (mup S0 0 0 0 0) 5 0 (Int32.toNatClampNeg x1) x2) 0 0 18 0)))))))
set_option maxRecDepth 100000 in
set_option maxHeartbeats 4000000 in
theorem c_X4_chord (l : Launch) (g : cx) (n : Nat) (S0 : mem) (sz : Nat) (x1 : Int32) (x2 : Int32) (q : Int32 × mem) (h : f_X4_chord n S0 x1 x2 = some q) : Met l yX4_chord (wsU yX4_chord cX4_chord 4 (some .int)) (rmD 2) (PcW ixM enM g S0 sz [.ref (g.2.2 0 0), .int x1, .int x2]) (QiW ixM enM g sz q.1 q.2) 0 0 (Aw ixM g sz) := by
  refine met_intro (Qc := fun z9 => QiW ixM enM g z9 q.1 q.2) (free := fun z9 => Aw ixM g z9) [.ref (g.2.2 0 0), .int x1, .int x2] RX4 rfl (by decide) (Nat.le_of_ble_eq_true rfl) (fun p e s m args below meth c H locs F hr hlocks B ls hl => ?_)
  have hl : lv_has ls 4 [(0, .ref (g.2.2 0 0)), (1, .int x1), (2, .int x2)] := hl
  have hx := F.1
  have hb := F.2.1
  unfold f_X4_chord at h
  refine lv_aload_n hx hb dX4_chord_0 rfl (lv_at hl 0 rfl) ?_
  refine lv_iconst (v := 0) hx hb dX4_chord_1 (by decide) ?_
  refine pt_X4_0 F B mF_X4_1 dX4_chord_2 (fun H locs B => ?_)
  refine lv_aload_n hx hb dX4_chord_5 rfl (lv_at hl 0 rfl) ?_
  refine lv_iload_n hx hb dX4_chord_6 rfl (lv_at hl 1 rfl) ?_
  obtain ⟨q1, hq1, h⟩ := cal_some h
  refine w_callVi F B (c_X4_isNote l g n (mup S0 0 0 0 0) H.size x1 q1 hq1) mC_X4_isNote mM_X4_116 mN_X4 mI_X4_isNote mS_X4_isNote ixM_0 rfl rfl ⟨ok_X4_isNote, by decide⟩ rfl hl.1 rfl (Nat.le_of_ble_eq_true rfl) dX4_chord_7 (fun H locs B => ?_)
  refine lv_if_ne (tgt := 16) hx hb dX4_chord_10 (by decide) (fun c2 => ?_) (fun c2 => ?_)
  · rw [if_neg c2] at h
    refine lv_iload_n hx hb dX4_chord_16 rfl (lv_at hl 2 rfl) ?_
    refine lv_iconst (v := 0) hx hb dX4_chord_17 (by decide) ?_
    refine lv_sipush (v := 200) hx hb dX4_chord_18 (by decide) ?_
    obtain ⟨q3, hq3, h⟩ := cal_some h
    refine w_callSi F B (c_X4_lies l g n (mup S0 0 0 0 0) H.size x2 0 200 q3 hq3) mC_X4_lies mM_X4_109 mN_X4 mT_X4_lies ⟨ok_X4_lies, by decide⟩ rfl hl.1 rfl (Nat.le_of_ble_eq_true rfl) dX4_chord_21 (fun H locs B => ?_)
    refine lv_if_ne (tgt := 30) hx hb dX4_chord_24 (by decide) (fun c4 => ?_) (fun c4 => ?_)
    · rw [if_neg c4] at h
      refine lv_aload_n hx hb dX4_chord_30 rfl (lv_at hl 0 rfl) ?_
      refine gt_X4_5 F B mF_X4_61 dX4_chord_31 ?_
      refine lv_iload_n hx hb dX4_chord_34 rfl (lv_at hl 1 rfl) ?_
      obtain ⟨z5, h⟩ := grd_some h
      refine al_M5 F B  z5 dX4_chord_35 ?_
      refine w_cv (S0 5 0 (Int32.toNatClampNeg x1)) (mup_k (by decide)) ?_
      refine lv_istore_n (lv' := [(3, .int (S0 5 0 (Int32.toNatClampNeg x1))), (0, .ref (g.2.2 0 0)), (1, .int x1), (2, .int x2)]) hx hb dX4_chord_36 rfl hl (by decide) rfl (fun ls hl => ?_)
      refine lv_aload_n hx hb dX4_chord_37 rfl (lv_at hl 1 rfl) ?_
      refine gt_X4_5 F B mF_X4_61 dX4_chord_38 ?_
      refine lv_iload_n hx hb dX4_chord_41 rfl (lv_at hl 2 rfl) ?_
      refine lv_iload_n hx hb dX4_chord_42 rfl (lv_at hl 3 rfl) ?_
      refine as_M5 F B  z5 dX4_chord_43 (fun H locs B => ?_)
      refine lv_aload_n hx hb dX4_chord_44 rfl (lv_at hl 1 rfl) ?_
      refine lv_iconst (v := 0) hx hb dX4_chord_45 (by decide) ?_
      refine pt_X4_18 F B (Or.inl rfl) mF_X4_19 dX4_chord_46 (fun H locs B => ?_)
      refine lv_iload_n hx hb dX4_chord_49 rfl (lv_at hl 0 rfl) ?_
      obtain rfl := Option.some.inj h
      exact w_iret F hr hlocks B dX4_chord_50
    · rw [if_pos c4] at h
      refine lv_ldc (v := -1000002) hx hb F.2.2.2.1 (F.2.2.2.2 _ (wsU_in mK_X4_113)) dX4_chord_27 ?_
      obtain rfl := Option.some.inj h
      exact w_iret F hr hlocks B dX4_chord_29
  · rw [if_pos c2] at h
    refine lv_ldc (v := -1000001) hx hb F.2.2.2.1 (F.2.2.2.2 _ (wsU_in mK_X4_123)) dX4_chord_13 ?_
    obtain rfl := Option.some.inj h
    exact w_iret F hr hlocks B dX4_chord_15
def b_X4_syllablesOf_5 (n : Nat) (S0 : mem) (x1 : Int32) : (Int32 × Int32) → Option ((Int32 × Int32) ⊕ (Int32)) := fun w =>
if 4 ≤ w.2 then (
some (.inr (w.1))) else (
grd (¬ ((4 * x1) + w.2 < 0 ∨ 240 ≤ Int32.toNatClampNeg ((4 * x1) + w.2))) (
some (.inl ((w.1 + (S0 11 0 (Int32.toNatClampNeg ((4 * x1) + w.2)))), (w.2 + 1)))))
/-- private int syllablesOf(int, int) -/
def f_X4_syllablesOf (n : Nat) (S0 : mem) (x1 : Int32) (x2 : Int32) : Option (Int32) :=
lp (b_X4_syllablesOf_5 n S0 x1) n (0, x2)
set_option maxRecDepth 100000 in
set_option maxHeartbeats 4000000 in
theorem c_X4_syllablesOf (l : Launch) (g : cx) (n : Nat) (S0 : mem) (sz : Nat) (x1 : Int32) (x2 : Int32) (q : Int32) (h : f_X4_syllablesOf n S0 x1 x2 = some q) : Met l yX4_syllablesOf (wsU yX4_syllablesOf cX4_syllablesOf 5 (some .int)) (rmD 0) (PcW ixM enM g S0 sz [.ref (g.2.2 0 0), .int x1, .int x2]) (QiW ixM enM g sz q S0) 0 0 (Aw ixM g sz) := by
  refine met_intro (Qc := fun z9 => QiW ixM enM g z9 q S0) (free := fun z9 => Aw ixM g z9) [.ref (g.2.2 0 0), .int x1, .int x2] RX4 rfl (by decide) (Nat.le_of_ble_eq_true rfl) (fun p e s m args below meth c H locs F hr hlocks B ls hl => ?_)
  have hl : lv_has ls 5 [(0, .ref (g.2.2 0 0)), (1, .int x1), (2, .int x2)] := hl
  have hx := F.1
  have hb := F.2.1
  unfold f_X4_syllablesOf at h
  refine lv_iconst (v := 0) hx hb dX4_syllablesOf_0 (by decide) ?_
  refine lv_istore_n (lv' := [(3, .int 0), (0, .ref (g.2.2 0 0)), (1, .int x1), (2, .int x2)]) hx hb dX4_syllablesOf_1 rfl hl (by decide) rfl (fun ls hl => ?_)
  refine lv_iload_n hx hb dX4_syllablesOf_2 rfl (lv_at hl 3 rfl) ?_
  refine lv_istore (lv' := [(4, .int x2), (3, .int 0), (0, .ref (g.2.2 0 0)), (1, .int x1), (2, .int x2)]) hx hb dX4_syllablesOf_3 hl (by decide) rfl (fun ls hl => ?_)
  have L5 : ∀ (k5 : Nat) (x1 : Int32) (x3 : Int32) (x4 : Int32), lp (b_X4_syllablesOf_5 n S0 x1) k5 (x3, x4) = some q → ∀ (H : Heap) (locs : List Loc) (ls : Array Slot), Wd ixM enM g S0 (Aw ixM g s.heap.size) s H locs → lv_has ls 5 [(0, .ref (g.2.2 0 0)), (1, .int x1), (3, .int x3), (4, .int x4)] → W p l e (rmD 0) s m args below meth c H locs 0 0 (MQ below (QiW ixM enM g s.heap.size q S0) args s 0 0 (Aw ixM g s.heap.size)) (F0 m 5 ls []) := by
    intro k5
    induction k5 with
    | zero => intro x1 x3 x4 h; exact (lp_zero h).elim
    | succ k5 ih5 =>
      intro x1 x3 x4 h H locs ls B hl
      obtain ⟨t5, h, ht5⟩ := lp_succ h
      unfold b_X4_syllablesOf_5 at h
      (try dsimp only at h)
      refine lv_iload hx hb dX4_syllablesOf_5 (lv_at hl 3 rfl) ?_
      refine lv_iconst (v := 4) hx hb dX4_syllablesOf_7 (by decide) ?_
      refine lv_icmp_ge (tgt := 31) hx hb dX4_syllablesOf_8 (by decide) (fun c1 => ?_) (fun c1 => ?_)
      · rw [if_pos c1] at h
        refine lv_iload_n hx hb dX4_syllablesOf_31 rfl (lv_at hl 2 rfl) ?_
        obtain rfl := Option.some.inj h
        obtain rfl := (show _ = q from ht5)
        exact w_iret F hr hlocks B dX4_syllablesOf_32
      · rw [if_neg c1] at h
        refine lv_iload_n hx hb dX4_syllablesOf_11 rfl (lv_at hl 2 rfl) ?_
        refine lv_aload_n hx hb dX4_syllablesOf_12 rfl (lv_at hl 0 rfl) ?_
        refine gt_X4_11 F B mF_X4_73 dX4_syllablesOf_13 ?_
        refine lv_iconst (v := 4) hx hb dX4_syllablesOf_16 (by decide) ?_
        refine lv_iload_n hx hb dX4_syllablesOf_17 rfl (lv_at hl 1 rfl) ?_
        refine lv_imul hx hb dX4_syllablesOf_18 ?_
        refine lv_iload hx hb dX4_syllablesOf_19 (lv_at hl 3 rfl) ?_
        refine lv_iadd hx hb dX4_syllablesOf_21 ?_
        obtain ⟨z2, h⟩ := grd_some h
        refine al_M11 F B  z2 dX4_syllablesOf_22 ?_
        refine lv_iadd hx hb dX4_syllablesOf_23 ?_
        refine lv_istore_n (lv' := [(3, .int (x3 + (S0 11 0 (Int32.toNatClampNeg ((4 * x1) + x4))))), (0, .ref (g.2.2 0 0)), (1, .int x1), (4, .int x4)]) hx hb dX4_syllablesOf_24 rfl hl (by decide) rfl (fun ls hl => ?_)
        refine lv_iinc (v := x4 + 1) (lv' := [(4, .int (x4 + 1)), (3, .int (x3 + (S0 11 0 (Int32.toNatClampNeg ((4 * x1) + x4))))), (0, .ref (g.2.2 0 0)), (1, .int x1)]) hx hb dX4_syllablesOf_25 hl (k := 3) rfl rfl (by decide) rfl (fun ls hl => ?_)
        refine lv_goto (tgt := 5) hx hb dX4_syllablesOf_28 (by decide) ?_
        obtain rfl := Option.some.inj h
        exact ih5 x1 (x3 + (S0 11 0 (Int32.toNatClampNeg ((4 * x1) + x4)))) (x4 + 1) ht5 H locs ls B (lv_sub hl [2, 3, 1, 0] rfl)
  exact L5 n x1 0 x2 h H locs ls B (lv_sub hl [2, 3, 1, 0] rfl)
def b_X4_melisma_93 (n : Nat) (x1 : Int32) (x2 : Int32) : (Int32 × mem) → Option ((Int32 × mem) ⊕ ((Int32) ⊕ (Int32 × mem))) := fun w =>
if (x1 + x2) ≤ w.1 then (
grd (¬ (x1 < 0 ∨ 60 ≤ Int32.toNatClampNeg x1)) (
some (.inr (.inr (((w.2 0 0 9) + 1, mup (mup (mup w.2 7 0 (Int32.toNatClampNeg x1) x2) 0 0 9 ((w.2 0 0 9) + 1)) 0 0 18 0)))))) else (
grd (¬ (w.1 < 0 ∨ 60 ≤ Int32.toNatClampNeg w.1)) (
some (.inl ((w.1 + 1), (mup w.2 6 0 (Int32.toNatClampNeg w.1) x1)))))
def b_X4_melisma_41 (n : Nat) (S : mem) (x1 : Int32) (x2 : Int32) : (Int32) → Option ((Int32) ⊕ (Int32 × mem)) := fun w =>
if (x1 + x2) ≤ w then (
lp (b_X4_melisma_93 n x1 x2) n (x1, S)) else (
grd (¬ (w < 0 ∨ 60 ≤ Int32.toNatClampNeg w)) (
if (S 4 0 (Int32.toNatClampNeg w)) = 0 then (
if (S 6 0 (Int32.toNatClampNeg w)) = (-1000009) then (
if w ≤ x1 then (
some (.inl ((w + 1)))) else (
cal (f_X4_syllablesOf n S w 0) fun q14 => (
if q14 ≤ 0 then (
some (.inl ((w + 1)))) else (
some (.inr ((-1000003, S))))))) else (
some (.inr ((-1000003, S))))) else (
some (.inr ((-1000003, S))))))
/-- public int melisma(int, int) -/
def f_X4_melisma (n : Nat) (S0 : mem) (x1 : Int32) (x2 : Int32) : Option (Int32 × mem) :=
cal (f_X4_isNote n (mup S0 0 0 0 0) x1) fun q1 => (
if q1 = 0 then (
some ((-1000001, mup S0 0 0 0 0))) else (
cal (f_X4_lies n (mup S0 0 0 0 0) x2 2 20) fun q3 => (
if q3 = 0 then (
some ((-1000002, mup S0 0 0 0 0))) else (
if (x1 + x2) ≤ (S0 0 0 1) then (
lp (b_X4_melisma_41 n (mup S0 0 0 0 0) x1 x2) n (x1)) else (
some ((-1000002, mup S0 0 0 0 0)))))))
set_option maxRecDepth 100000 in
set_option maxHeartbeats 4000000 in
theorem c_X4_melisma (l : Launch) (g : cx) (n : Nat) (S0 : mem) (sz : Nat) (x1 : Int32) (x2 : Int32) (q : Int32 × mem) (h : f_X4_melisma n S0 x1 x2 = some q) : Met l yX4_melisma (wsU yX4_melisma cX4_melisma 4 (some .int)) (rmD 2) (PcW ixM enM g S0 sz [.ref (g.2.2 0 0), .int x1, .int x2]) (QiW ixM enM g sz q.1 q.2) 0 0 (Aw ixM g sz) := by
  refine met_intro (Qc := fun z9 => QiW ixM enM g z9 q.1 q.2) (free := fun z9 => Aw ixM g z9) [.ref (g.2.2 0 0), .int x1, .int x2] RX4 rfl (by decide) (Nat.le_of_ble_eq_true rfl) (fun p e s m args below meth c H locs F hr hlocks B ls hl => ?_)
  have hl : lv_has ls 4 [(0, .ref (g.2.2 0 0)), (1, .int x1), (2, .int x2)] := hl
  have hx := F.1
  have hb := F.2.1
  unfold f_X4_melisma at h
  refine lv_aload_n hx hb dX4_melisma_0 rfl (lv_at hl 0 rfl) ?_
  refine lv_iconst (v := 0) hx hb dX4_melisma_1 (by decide) ?_
  refine pt_X4_0 F B mF_X4_1 dX4_melisma_2 (fun H locs B => ?_)
  refine lv_aload_n hx hb dX4_melisma_5 rfl (lv_at hl 0 rfl) ?_
  refine lv_iload_n hx hb dX4_melisma_6 rfl (lv_at hl 1 rfl) ?_
  obtain ⟨q1, hq1, h⟩ := cal_some h
  refine w_callVi F B (c_X4_isNote l g n (mup S0 0 0 0 0) H.size x1 q1 hq1) mC_X4_isNote mM_X4_116 mN_X4 mI_X4_isNote mS_X4_isNote ixM_0 rfl rfl ⟨ok_X4_isNote, by decide⟩ rfl hl.1 rfl (Nat.le_of_ble_eq_true rfl) dX4_melisma_7 (fun H locs B => ?_)
  refine lv_if_ne (tgt := 16) hx hb dX4_melisma_10 (by decide) (fun c2 => ?_) (fun c2 => ?_)
  · rw [if_neg c2] at h
    refine lv_iload_n hx hb dX4_melisma_16 rfl (lv_at hl 2 rfl) ?_
    refine lv_iconst (v := 2) hx hb dX4_melisma_17 (by decide) ?_
    refine lv_bipush (v := 20) hx hb dX4_melisma_18 (by decide) ?_
    obtain ⟨q3, hq3, h⟩ := cal_some h
    refine w_callSi F B (c_X4_lies l g n (mup S0 0 0 0 0) H.size x2 2 20 q3 hq3) mC_X4_lies mM_X4_109 mN_X4 mT_X4_lies ⟨ok_X4_lies, by decide⟩ rfl hl.1 rfl (Nat.le_of_ble_eq_true rfl) dX4_melisma_20 (fun H locs B => ?_)
    refine lv_if_eq (tgt := 36) hx hb dX4_melisma_23 (by decide) (fun c4 => ?_) (fun c4 => ?_)
    · rw [if_pos c4] at h
      refine lv_ldc (v := -1000002) hx hb F.2.2.2.1 (F.2.2.2.2 _ (wsU_in mK_X4_113)) dX4_melisma_36 ?_
      obtain rfl := Option.some.inj h
      exact w_iret F hr hlocks B dX4_melisma_38
    · rw [if_neg c4] at h
      refine lv_iload_n hx hb dX4_melisma_26 rfl (lv_at hl 1 rfl) ?_
      refine lv_iload_n hx hb dX4_melisma_27 rfl (lv_at hl 2 rfl) ?_
      refine lv_iadd hx hb dX4_melisma_28 ?_
      refine lv_aload_n hx hb dX4_melisma_29 rfl (lv_at hl 0 rfl) ?_
      refine gt_X4_1 F B mF_X4_7 dX4_melisma_30 ?_
      refine w_cv (S0 0 0 1) (mup_j (by decide)) ?_
      refine lv_icmp_le (tgt := 39) hx hb dX4_melisma_33 (by decide) (fun c5 => ?_) (fun c5 => ?_)
      · rw [if_pos c5] at h
        refine lv_iload_n hx hb dX4_melisma_39 rfl (lv_at hl 1 rfl) ?_
        refine lv_istore_n (lv' := [(3, .int x1), (0, .ref (g.2.2 0 0)), (1, .int x1), (2, .int x2)]) hx hb dX4_melisma_40 rfl hl (by decide) rfl (fun ls hl => ?_)
        have L41 : ∀ (k41 : Nat) (S : mem) (x1 : Int32) (x2 : Int32) (x3 : Int32), lp (b_X4_melisma_41 n S x1 x2) k41 (x3) = some q → ∀ (H : Heap) (locs : List Loc) (ls : Array Slot), Wd ixM enM g S (Aw ixM g s.heap.size) s H locs → lv_has ls 4 [(0, .ref (g.2.2 0 0)), (1, .int x1), (2, .int x2), (3, .int x3)] → W p l e (rmD 2) s m args below meth c H locs 0 0 (MQ below (QiW ixM enM g s.heap.size q.1 q.2) args s 0 0 (Aw ixM g s.heap.size)) (F0 m 41 ls []) := by
          intro k41
          induction k41 with
          | zero => intro S x1 x2 x3 h; exact (lp_zero h).elim
          | succ k41 ih41 =>
            intro S x1 x2 x3 h H locs ls B hl
            obtain ⟨t41, h, ht41⟩ := lp_succ h
            unfold b_X4_melisma_41 at h
            (try dsimp only at h)
            refine lv_iload_n hx hb dX4_melisma_41 rfl (lv_at hl 3 rfl) ?_
            refine lv_iload_n hx hb dX4_melisma_42 rfl (lv_at hl 1 rfl) ?_
            refine lv_iload_n hx hb dX4_melisma_43 rfl (lv_at hl 2 rfl) ?_
            refine lv_iadd hx hb dX4_melisma_44 ?_
            refine lv_icmp_ge (tgt := 91) hx hb dX4_melisma_45 (by decide) (fun c6 => ?_) (fun c6 => ?_)
            · rw [if_pos c6] at h
              refine lv_iload_n hx hb dX4_melisma_91 rfl (lv_at hl 1 rfl) ?_
              refine lv_istore_n (lv' := [(3, .int x1), (0, .ref (g.2.2 0 0)), (1, .int x1), (2, .int x2)]) hx hb dX4_melisma_92 rfl hl (by decide) rfl (fun ls hl => ?_)
              have L93 : ∀ (k93 : Nat) (x3 : Int32) (S : mem), lp (b_X4_melisma_93 n x1 x2) k93 (x3, S) = some t41 → ∀ (H : Heap) (locs : List Loc) (ls : Array Slot), Wd ixM enM g S (Aw ixM g s.heap.size) s H locs → lv_has ls 4 [(0, .ref (g.2.2 0 0)), (1, .int x1), (2, .int x2), (3, .int x3)] → W p l e (rmD 2) s m args below meth c H locs 0 0 (MQ below (QiW ixM enM g s.heap.size q.1 q.2) args s 0 0 (Aw ixM g s.heap.size)) (F0 m 93 ls []) := by
                intro k93
                induction k93 with
                | zero => intro x3 S h; exact (lp_zero h).elim
                | succ k93 ih93 =>
                  intro x3 S h H locs ls B hl
                  obtain ⟨t93, h, ht93⟩ := lp_succ h
                  unfold b_X4_melisma_93 at h
                  (try dsimp only at h)
                  refine lv_iload_n hx hb dX4_melisma_93 rfl (lv_at hl 3 rfl) ?_
                  refine lv_iload_n hx hb dX4_melisma_94 rfl (lv_at hl 1 rfl) ?_
                  refine lv_iload_n hx hb dX4_melisma_95 rfl (lv_at hl 2 rfl) ?_
                  refine lv_iadd hx hb dX4_melisma_96 ?_
                  refine lv_icmp_ge (tgt := 113) hx hb dX4_melisma_97 (by decide) (fun c7 => ?_) (fun c7 => ?_)
                  · rw [if_pos c7] at h
                    refine lv_aload_n hx hb dX4_melisma_113 rfl (lv_at hl 0 rfl) ?_
                    refine gt_X4_7 F B mF_X4_67 dX4_melisma_114 ?_
                    refine lv_iload_n hx hb dX4_melisma_117 rfl (lv_at hl 1 rfl) ?_
                    refine lv_iload_n hx hb dX4_melisma_118 rfl (lv_at hl 2 rfl) ?_
                    obtain ⟨z8, h⟩ := grd_some h
                    refine as_M7 F B  z8 dX4_melisma_119 (fun H locs B => ?_)
                    refine lv_aload_n hx hb dX4_melisma_120 rfl (lv_at hl 0 rfl) ?_
                    refine lv_dup hx hb dX4_melisma_121 rfl ?_
                    refine gt_X4_9 F B mF_X4_10 dX4_melisma_122 ?_
                    refine w_cv (S 0 0 9) (mup_k (by decide)) ?_
                    refine lv_iconst (v := 1) hx hb dX4_melisma_125 (by decide) ?_
                    refine lv_iadd hx hb dX4_melisma_126 ?_
                    refine pt_X4_9 F B mF_X4_10 dX4_melisma_127 (fun H locs B => ?_)
                    refine lv_aload_n hx hb dX4_melisma_130 rfl (lv_at hl 0 rfl) ?_
                    refine lv_iconst (v := 0) hx hb dX4_melisma_131 (by decide) ?_
                    refine pt_X4_18 F B (Or.inl rfl) mF_X4_19 dX4_melisma_132 (fun H locs B => ?_)
                    refine lv_aload_n hx hb dX4_melisma_135 rfl (lv_at hl 0 rfl) ?_
                    refine gt_X4_9 F B mF_X4_10 dX4_melisma_136 ?_
                    refine w_cv ((S 0 0 9) + 1) ((mup_j (by decide)).trans (mup_s)) ?_
                    obtain rfl := Option.some.inj h
                    obtain rfl := (show _ = t41 from ht93)
                    obtain rfl := (show _ = q from ht41)
                    exact w_iret F hr hlocks B dX4_melisma_139
                  · rw [if_neg c7] at h
                    refine lv_aload_n hx hb dX4_melisma_100 rfl (lv_at hl 0 rfl) ?_
                    refine gt_X4_6 F B mF_X4_64 dX4_melisma_101 ?_
                    refine lv_iload_n hx hb dX4_melisma_104 rfl (lv_at hl 3 rfl) ?_
                    refine lv_iload_n hx hb dX4_melisma_105 rfl (lv_at hl 1 rfl) ?_
                    obtain ⟨z9, h⟩ := grd_some h
                    refine as_M6 F B  z9 dX4_melisma_106 (fun H locs B => ?_)
                    refine lv_iinc (v := x3 + 1) (lv' := [(3, .int (x3 + 1)), (0, .ref (g.2.2 0 0)), (1, .int x1), (2, .int x2)]) hx hb dX4_melisma_107 hl (k := 3) rfl rfl (by decide) rfl (fun ls hl => ?_)
                    refine lv_goto (tgt := 93) hx hb dX4_melisma_110 (by decide) ?_
                    obtain rfl := Option.some.inj h
                    exact ih93 (x3 + 1) (mup S 6 0 (Int32.toNatClampNeg x3) x1) ht93 H locs ls B (lv_sub hl [1, 2, 3, 0] rfl)
              exact L93 n x1 S h H locs ls B (lv_sub hl [1, 2, 3, 0] rfl)
            · rw [if_neg c6] at h
              refine lv_aload_n hx hb dX4_melisma_48 rfl (lv_at hl 0 rfl) ?_
              refine gt_X4_4 F B mF_X4_58 dX4_melisma_49 ?_
              refine lv_iload_n hx hb dX4_melisma_52 rfl (lv_at hl 3 rfl) ?_
              obtain ⟨z10, h⟩ := grd_some h
              refine al_M4 F B  z10 dX4_melisma_53 ?_
              refine lv_if_ne (tgt := 82) hx hb dX4_melisma_54 (by decide) (fun c11 => ?_) (fun c11 => ?_)
              · rw [if_neg c11] at h
                refine lv_ldc (v := -1000003) hx hb F.2.2.2.1 (F.2.2.2.2 _ (wsU_in mK_X4_127)) dX4_melisma_82 ?_
                obtain rfl := Option.some.inj h
                obtain rfl := (show _ = q from ht41)
                exact w_iret F hr hlocks B dX4_melisma_84
              · rw [if_pos c11] at h
                refine lv_aload_n hx hb dX4_melisma_57 rfl (lv_at hl 0 rfl) ?_
                refine gt_X4_6 F B mF_X4_64 dX4_melisma_58 ?_
                refine lv_iload_n hx hb dX4_melisma_61 rfl (lv_at hl 3 rfl) ?_
                refine al_M6 F B  z10 dX4_melisma_62 ?_
                refine lv_ldc (v := -1000009) hx hb F.2.2.2.1 (F.2.2.2.2 _ (wsU_in mK_X4_115)) dX4_melisma_63 ?_
                refine lv_icmp_ne (tgt := 82) hx hb dX4_melisma_65 (by decide) (fun c12 => ?_) (fun c12 => ?_)
                · rw [if_neg c12] at h
                  refine lv_ldc (v := -1000003) hx hb F.2.2.2.1 (F.2.2.2.2 _ (wsU_in mK_X4_127)) dX4_melisma_82 ?_
                  obtain rfl := Option.some.inj h
                  obtain rfl := (show _ = q from ht41)
                  exact w_iret F hr hlocks B dX4_melisma_84
                · rw [if_pos c12] at h
                  refine lv_iload_n hx hb dX4_melisma_68 rfl (lv_at hl 3 rfl) ?_
                  refine lv_iload_n hx hb dX4_melisma_69 rfl (lv_at hl 1 rfl) ?_
                  refine lv_icmp_le (tgt := 85) hx hb dX4_melisma_70 (by decide) (fun c13 => ?_) (fun c13 => ?_)
                  · rw [if_pos c13] at h
                    refine lv_iinc (v := x3 + 1) (lv' := [(3, .int (x3 + 1)), (0, .ref (g.2.2 0 0)), (1, .int x1), (2, .int x2)]) hx hb dX4_melisma_85 hl (k := 3) rfl rfl (by decide) rfl (fun ls hl => ?_)
                    refine lv_goto (tgt := 41) hx hb dX4_melisma_88 (by decide) ?_
                    obtain rfl := Option.some.inj h
                    exact ih41 S x1 x2 (x3 + 1) ht41 H locs ls B (lv_sub hl [1, 2, 3, 0] rfl)
                  · rw [if_neg c13] at h
                    refine lv_aload_n hx hb dX4_melisma_73 rfl (lv_at hl 0 rfl) ?_
                    refine lv_iload_n hx hb dX4_melisma_74 rfl (lv_at hl 3 rfl) ?_
                    refine lv_iconst (v := 0) hx hb dX4_melisma_75 (by decide) ?_
                    obtain ⟨q14, hq14, h⟩ := cal_some h
                    refine w_callVi F B (c_X4_syllablesOf l g n S H.size x3 0 q14 hq14) mC_X4_syllablesOf mM_X4_128 mN_X4 mI_X4_syllablesOf mS_X4_syllablesOf ixM_0 rfl rfl ⟨ok_X4_syllablesOf, by decide⟩ rfl hl.1 rfl (Nat.le_of_ble_eq_true rfl) dX4_melisma_76 (fun H locs B => ?_)
                    refine lv_if_le (tgt := 85) hx hb dX4_melisma_79 (by decide) (fun c15 => ?_) (fun c15 => ?_)
                    · rw [if_pos c15] at h
                      refine lv_iinc (v := x3 + 1) (lv' := [(3, .int (x3 + 1)), (0, .ref (g.2.2 0 0)), (1, .int x1), (2, .int x2)]) hx hb dX4_melisma_85 hl (k := 3) rfl rfl (by decide) rfl (fun ls hl => ?_)
                      refine lv_goto (tgt := 41) hx hb dX4_melisma_88 (by decide) ?_
                      obtain rfl := Option.some.inj h
                      exact ih41 S x1 x2 (x3 + 1) ht41 H locs ls B (lv_sub hl [1, 2, 3, 0] rfl)
                    · rw [if_neg c15] at h
                      refine lv_ldc (v := -1000003) hx hb F.2.2.2.1 (F.2.2.2.2 _ (wsU_in mK_X4_127)) dX4_melisma_82 ?_
                      obtain rfl := Option.some.inj h
                      obtain rfl := (show _ = q from ht41)
                      exact w_iret F hr hlocks B dX4_melisma_84
        exact L41 n (mup S0 0 0 0 0) x1 x2 x1 h H locs ls B (lv_sub hl [1, 2, 3, 0] rfl)
      · rw [if_neg c5] at h
        refine lv_ldc (v := -1000002) hx hb F.2.2.2.1 (F.2.2.2.2 _ (wsU_in mK_X4_113)) dX4_melisma_36 ?_
        obtain rfl := Option.some.inj h
        exact w_iret F hr hlocks B dX4_melisma_38
  · rw [if_pos c2] at h
    refine lv_ldc (v := -1000001) hx hb F.2.2.2.1 (F.2.2.2.2 _ (wsU_in mK_X4_123)) dX4_melisma_13 ?_
    obtain rfl := Option.some.inj h
    exact w_iret F hr hlocks B dX4_melisma_15
