def b_X4_greatest_15 (n : Nat) (S0 : mem) (x1 : Int32) (x3 : Int32) : (Int32 × Int32) → Option ((Int32 × Int32) ⊕ ((Int32 × Int32) ⊕ (Int32))) := fun w =>
if ((S0 0 0 26) + 2) ≤ w.2 then (
some (.inr (.inl (w.1, (x3 + 1))))) else (
if ((x1 + 1) - w.2) < 0 then (
some (.inl (w.1, (w.2 + 1)))) else (
grd (¬ (x3 < 0 ∨ 30 ≤ Int32.toNatClampNeg x3)) (
if (S0 23 0 (Int32.toNatClampNeg x3)) < ((x1 + 1) - w.2) then (
some (.inl (w.1, (w.2 + 1)))) else (
cal (f_X4_stands n S0 x3 w.2) fun q6 => (
if q6 = 0 then (
some (.inl (w.1, (w.2 + 1)))) else (
grd (¬ ((7 * x3) + ((x1 + 1) - w.2) < 0 ∨ 210 ≤ Int32.toNatClampNeg ((7 * x3) + ((x1 + 1) - w.2)))) (
cal (f_X4_greater n S0 w.1 (S0 25 0 (Int32.toNatClampNeg ((7 * x3) + ((x1 + 1) - w.2))))) fun q9 => (
some (.inl (q9, (w.2 + 1)))))))))))
def b_X4_greatest_4 (n : Nat) (S0 : mem) (x1 : Int32) : (Int32 × Int32) → Option ((Int32 × Int32) ⊕ (Int32)) := fun w =>
if (S0 0 0 22) ≤ w.2 then (
some (.inr (w.1))) else (
lp (b_X4_greatest_15 n S0 x1 w.2) n (w.1, 0))
/-- private int greatest(int) -/
def f_X4_greatest (n : Nat) (S0 : mem) (x1 : Int32) : Option (Int32) :=
lp (b_X4_greatest_4 n S0 x1) n (0, 0)
set_option maxRecDepth 100000 in
set_option maxHeartbeats 4000000 in
theorem c_X4_greatest (l : Launch) (g : cx) (n : Nat) (S0 : mem) (sz : Nat) (x1 : Int32) (q : Int32) (h : f_X4_greatest n S0 x1 = some q) : Met l yX4_greatest (wsU yX4_greatest cX4_greatest 6 (some .int)) (rmD 2) (PcW ixM enM g S0 sz [.ref (g.2.2 0 0), .int x1]) (QiW ixM enM g sz q S0) 0 0 (Aw ixM g sz) := by
  refine met_intro (Qc := fun z9 => QiW ixM enM g z9 q S0) (free := fun z9 => Aw ixM g z9) [.ref (g.2.2 0 0), .int x1] RX4 rfl (by decide) (Nat.le_of_ble_eq_true rfl) (fun p e s m args below meth c H locs F hr hlocks B ls hl => ?_)
  have hl : lv_has ls 6 [(0, .ref (g.2.2 0 0)), (1, .int x1)] := hl
  have hx := F.1
  have hb := F.2.1
  unfold f_X4_greatest at h
  refine lv_iconst (v := 0) hx hb dX4_greatest_0 (by decide) ?_
  refine lv_istore_n (lv' := [(2, .int 0), (0, .ref (g.2.2 0 0)), (1, .int x1)]) hx hb dX4_greatest_1 rfl hl (by decide) rfl (fun ls hl => ?_)
  refine lv_iconst (v := 0) hx hb dX4_greatest_2 (by decide) ?_
  refine lv_istore_n (lv' := [(3, .int 0), (2, .int 0), (0, .ref (g.2.2 0 0)), (1, .int x1)]) hx hb dX4_greatest_3 rfl hl (by decide) rfl (fun ls hl => ?_)
  have L4 : ∀ (k4 : Nat) (x1 : Int32) (x2 : Int32) (x3 : Int32), lp (b_X4_greatest_4 n S0 x1) k4 (x2, x3) = some q → ∀ (H : Heap) (locs : List Loc) (ls : Array Slot), Wd ixM enM g S0 (Aw ixM g s.heap.size) s H locs → lv_has ls 6 [(0, .ref (g.2.2 0 0)), (1, .int x1), (2, .int x2), (3, .int x3)] → W p l e (rmD 2) s m args below meth c H locs 0 0 (MQ below (QiW ixM enM g s.heap.size q S0) args s 0 0 (Aw ixM g s.heap.size)) (F0 m 4 ls []) := by
    intro k4
    induction k4 with
    | zero => intro x1 x2 x3 h; exact (lp_zero h).elim
    | succ k4 ih4 =>
      intro x1 x2 x3 h H locs ls B hl
      obtain ⟨t4, h, ht4⟩ := lp_succ h
      unfold b_X4_greatest_4 at h
      (try dsimp only at h)
      refine lv_iload_n hx hb dX4_greatest_4 rfl (lv_at hl 3 rfl) ?_
      refine lv_aload_n hx hb dX4_greatest_5 rfl (lv_at hl 0 rfl) ?_
      refine gt_X4_22 F B mF_X4_23 dX4_greatest_6 ?_
      refine lv_icmp_ge (tgt := 89) hx hb dX4_greatest_9 (by decide) (fun c1 => ?_) (fun c1 => ?_)
      · rw [if_pos c1] at h
        refine lv_iload_n hx hb dX4_greatest_89 rfl (lv_at hl 2 rfl) ?_
        obtain rfl := Option.some.inj h
        obtain rfl := (show _ = q from ht4)
        exact w_iret F hr hlocks B dX4_greatest_90
      · rw [if_neg c1] at h
        refine lv_iconst (v := 0) hx hb dX4_greatest_12 (by decide) ?_
        refine lv_istore (lv' := [(4, .int 0), (0, .ref (g.2.2 0 0)), (1, .int x1), (2, .int x2), (3, .int x3)]) hx hb dX4_greatest_13 hl (by decide) rfl (fun ls hl => ?_)
        have L15 : ∀ (k15 : Nat) (x3 : Int32) (x2 : Int32) (x4 : Int32), lp (b_X4_greatest_15 n S0 x1 x3) k15 (x2, x4) = some t4 → ∀ (H : Heap) (locs : List Loc) (ls : Array Slot), Wd ixM enM g S0 (Aw ixM g s.heap.size) s H locs → lv_has ls 6 [(0, .ref (g.2.2 0 0)), (1, .int x1), (2, .int x2), (3, .int x3), (4, .int x4)] → W p l e (rmD 2) s m args below meth c H locs 0 0 (MQ below (QiW ixM enM g s.heap.size q S0) args s 0 0 (Aw ixM g s.heap.size)) (F0 m 15 ls []) := by
          intro k15
          induction k15 with
          | zero => intro x3 x2 x4 h; exact (lp_zero h).elim
          | succ k15 ih15 =>
            intro x3 x2 x4 h H locs ls B hl
            obtain ⟨t15, h, ht15⟩ := lp_succ h
            unfold b_X4_greatest_15 at h
            (try dsimp only at h)
            refine lv_iload hx hb dX4_greatest_15 (lv_at hl 4 rfl) ?_
            refine lv_aload_n hx hb dX4_greatest_17 rfl (lv_at hl 0 rfl) ?_
            refine gt_X4_26 F B mF_X4_26 dX4_greatest_18 ?_
            refine lv_iconst (v := 2) hx hb dX4_greatest_21 (by decide) ?_
            refine lv_iadd hx hb dX4_greatest_22 ?_
            refine lv_icmp_ge (tgt := 83) hx hb dX4_greatest_23 (by decide) (fun c2 => ?_) (fun c2 => ?_)
            · rw [if_pos c2] at h
              refine lv_iinc (v := x3 + 1) (lv' := [(3, .int (x3 + 1)), (0, .ref (g.2.2 0 0)), (1, .int x1), (2, .int x2), (4, .int x4)]) hx hb dX4_greatest_83 hl (k := 3) rfl rfl (by decide) rfl (fun ls hl => ?_)
              refine lv_goto (tgt := 4) hx hb dX4_greatest_86 (by decide) ?_
              obtain rfl := Option.some.inj h
              obtain rfl := (show _ = t4 from ht15)
              exact ih4 x1 x2 (x3 + 1) ht4 H locs ls B (lv_sub hl [1, 2, 3, 0] rfl)
            · rw [if_neg c2] at h
              refine lv_iload_n hx hb dX4_greatest_26 rfl (lv_at hl 1 rfl) ?_
              refine lv_iconst (v := 1) hx hb dX4_greatest_27 (by decide) ?_
              refine lv_iadd hx hb dX4_greatest_28 ?_
              refine lv_iload hx hb dX4_greatest_29 (lv_at hl 4 rfl) ?_
              refine lv_isub hx hb dX4_greatest_31 ?_
              refine lv_istore (lv' := [(5, .int ((x1 + 1) - x4)), (0, .ref (g.2.2 0 0)), (1, .int x1), (2, .int x2), (3, .int x3), (4, .int x4)]) hx hb dX4_greatest_32 hl (by decide) rfl (fun ls hl => ?_)
              refine lv_iload hx hb dX4_greatest_34 (lv_at hl 0 rfl) ?_
              refine lv_if_lt (tgt := 77) hx hb dX4_greatest_36 (by decide) (fun c3 => ?_) (fun c3 => ?_)
              · rw [if_pos c3] at h
                refine lv_iinc (v := x4 + 1) (lv' := [(4, .int (x4 + 1)), (5, .int ((x1 + 1) - x4)), (0, .ref (g.2.2 0 0)), (1, .int x1), (2, .int x2), (3, .int x3)]) hx hb dX4_greatest_77 hl (k := 5) rfl rfl (by decide) rfl (fun ls hl => ?_)
                refine lv_goto (tgt := 15) hx hb dX4_greatest_80 (by decide) ?_
                obtain rfl := Option.some.inj h
                exact ih15 x3 x2 (x4 + 1) ht15 H locs ls B (lv_sub hl [2, 3, 4, 5, 0] rfl)
              · rw [if_neg c3] at h
                refine lv_iload hx hb dX4_greatest_39 (lv_at hl 0 rfl) ?_
                refine lv_aload_n hx hb dX4_greatest_41 rfl (lv_at hl 1 rfl) ?_
                refine gt_X4_23 F B mF_X4_91 dX4_greatest_42 ?_
                refine lv_iload_n hx hb dX4_greatest_45 rfl (lv_at hl 4 rfl) ?_
                obtain ⟨z4, h⟩ := grd_some h
                refine al_M23 F B  z4 dX4_greatest_46 ?_
                refine lv_icmp_gt (tgt := 77) hx hb dX4_greatest_47 (by decide) (fun c5 => ?_) (fun c5 => ?_)
                · rw [if_pos c5] at h
                  refine lv_iinc (v := x4 + 1) (lv' := [(4, .int (x4 + 1)), (5, .int ((x1 + 1) - x4)), (0, .ref (g.2.2 0 0)), (1, .int x1), (2, .int x2), (3, .int x3)]) hx hb dX4_greatest_77 hl (k := 5) rfl rfl (by decide) rfl (fun ls hl => ?_)
                  refine lv_goto (tgt := 15) hx hb dX4_greatest_80 (by decide) ?_
                  obtain rfl := Option.some.inj h
                  exact ih15 x3 x2 (x4 + 1) ht15 H locs ls B (lv_sub hl [2, 3, 4, 5, 0] rfl)
                · rw [if_neg c5] at h
                  refine lv_aload_n hx hb dX4_greatest_50 rfl (lv_at hl 1 rfl) ?_
                  refine lv_iload_n hx hb dX4_greatest_51 rfl (lv_at hl 4 rfl) ?_
                  refine lv_iload hx hb dX4_greatest_52 (lv_at hl 5 rfl) ?_
                  obtain ⟨q6, hq6, h⟩ := cal_some h
                  refine w_callVi F B (c_X4_stands l g n S0 H.size x3 x4 q6 hq6) mC_X4_stands mM_X4_204 mN_X4 mI_X4_stands mS_X4_stands ixM_0 rfl rfl ⟨ok_X4_stands, by decide⟩ rfl hl.1 rfl (Nat.le_of_ble_eq_true rfl) dX4_greatest_54 (fun H locs B => ?_)
                  refine lv_if_eq (tgt := 77) hx hb dX4_greatest_57 (by decide) (fun c7 => ?_) (fun c7 => ?_)
                  · rw [if_pos c7] at h
                    refine lv_iinc (v := x4 + 1) (lv' := [(4, .int (x4 + 1)), (5, .int ((x1 + 1) - x4)), (0, .ref (g.2.2 0 0)), (1, .int x1), (2, .int x2), (3, .int x3)]) hx hb dX4_greatest_77 hl (k := 5) rfl rfl (by decide) rfl (fun ls hl => ?_)
                    refine lv_goto (tgt := 15) hx hb dX4_greatest_80 (by decide) ?_
                    obtain rfl := Option.some.inj h
                    exact ih15 x3 x2 (x4 + 1) ht15 H locs ls B (lv_sub hl [2, 3, 4, 5, 0] rfl)
                  · rw [if_neg c7] at h
                    refine lv_iload_n hx hb dX4_greatest_60 rfl (lv_at hl 3 rfl) ?_
                    refine lv_aload_n hx hb dX4_greatest_61 rfl (lv_at hl 1 rfl) ?_
                    refine gt_X4_25 F B mF_X4_97 dX4_greatest_62 ?_
                    refine lv_bipush (v := 7) hx hb dX4_greatest_65 (by decide) ?_
                    refine lv_iload_n hx hb dX4_greatest_67 rfl (lv_at hl 4 rfl) ?_
                    refine lv_imul hx hb dX4_greatest_68 ?_
                    refine lv_iload hx hb dX4_greatest_69 (lv_at hl 0 rfl) ?_
                    refine lv_iadd hx hb dX4_greatest_71 ?_
                    obtain ⟨z8, h⟩ := grd_some h
                    refine al_M25 F B  z8 dX4_greatest_72 ?_
                    obtain ⟨q9, hq9, h⟩ := cal_some h
                    refine w_callSi F B (c_X4_greater l g n S0 H.size x2 (S0 25 0 (Int32.toNatClampNeg ((7 * x3) + ((x1 + 1) - x4)))) q9 hq9) mC_X4_greater mM_X4_156 mN_X4 mT_X4_greater ⟨ok_X4_greater, by decide⟩ rfl hl.1 rfl (Nat.le_of_ble_eq_true rfl) dX4_greatest_73 (fun H locs B => ?_)
                    refine lv_istore_n (lv' := [(2, .int q9), (5, .int ((x1 + 1) - x4)), (0, .ref (g.2.2 0 0)), (1, .int x1), (3, .int x3), (4, .int x4)]) hx hb dX4_greatest_76 rfl hl (by decide) rfl (fun ls hl => ?_)
                    refine lv_iinc (v := x4 + 1) (lv' := [(4, .int (x4 + 1)), (2, .int q9), (5, .int ((x1 + 1) - x4)), (0, .ref (g.2.2 0 0)), (1, .int x1), (3, .int x3)]) hx hb dX4_greatest_77 hl (k := 5) rfl rfl (by decide) rfl (fun ls hl => ?_)
                    refine lv_goto (tgt := 15) hx hb dX4_greatest_80 (by decide) ?_
                    obtain rfl := Option.some.inj h
                    exact ih15 x3 q9 (x4 + 1) ht15 H locs ls B (lv_sub hl [3, 4, 1, 5, 0] rfl)
        exact L15 n x3 x2 0 h H locs ls B (lv_sub hl [1, 2, 3, 4, 0] rfl)
  exact L4 n x1 0 0 h H locs ls B (lv_sub hl [2, 3, 1, 0] rfl)
def b_X4_cuts_15 (n : Nat) : (Int32 × mem) → Option ((Int32 × mem) ⊕ (Int32 × mem)) := fun w =>
if ((w.2 0 0 26) - (w.2 0 0 29)) < w.1 then (
some (.inr ((w.2 0 0 30, w.2)))) else (
cal (f_X4_greatest n w.2 w.1) fun q2 => (
if (q2 - q2 / 2 * 2) = 1 then (
grd (¬ (w.2 0 0 30 < 0 ∨ 24 ≤ Int32.toNatClampNeg (w.2 0 0 30))) (
some (.inl ((w.1 + 1), (mup (mup w.2 31 0 (Int32.toNatClampNeg (w.2 0 0 30)) w.1) 0 0 30 ((w.2 0 0 30) + 1)))))) else (
some (.inl ((w.1 + 1), w.2)))))
/-- public int cuts() -/
def f_X4_cuts (n : Nat) (S0 : mem) : Option (Int32 × mem) :=
lp (b_X4_cuts_15 n ) n ((S0 0 0 28), (mup (mup S0 0 0 0 0) 0 0 30 0))
set_option maxRecDepth 100000 in
set_option maxHeartbeats 4000000 in
theorem c_X4_cuts (l : Launch) (g : cx) (n : Nat) (S0 : mem) (sz : Nat)  (q : Int32 × mem) (h : f_X4_cuts n S0 = some q) : Met l yX4_cuts (wsU yX4_cuts cX4_cuts 2 (some .int)) (rmD 3) (PcW ixM enM g S0 sz [.ref (g.2.2 0 0)]) (QiW ixM enM g sz q.1 q.2) 0 0 (Aw ixM g sz) := by
  refine met_intro (Qc := fun z9 => QiW ixM enM g z9 q.1 q.2) (free := fun z9 => Aw ixM g z9) [.ref (g.2.2 0 0)] RX4 rfl (by decide) (Nat.le_of_ble_eq_true rfl) (fun p e s m args below meth c H locs F hr hlocks B ls hl => ?_)
  have hl : lv_has ls 2 [(0, .ref (g.2.2 0 0))] := hl
  have hx := F.1
  have hb := F.2.1
  unfold f_X4_cuts at h
  refine lv_aload_n hx hb dX4_cuts_0 rfl (lv_at hl 0 rfl) ?_
  refine lv_iconst (v := 0) hx hb dX4_cuts_1 (by decide) ?_
  refine pt_X4_0 F B mF_X4_1 dX4_cuts_2 (fun H locs B => ?_)
  refine lv_aload_n hx hb dX4_cuts_5 rfl (lv_at hl 0 rfl) ?_
  refine lv_iconst (v := 0) hx hb dX4_cuts_6 (by decide) ?_
  refine pt_X4_30 F B mF_X4_35 dX4_cuts_7 (fun H locs B => ?_)
  refine lv_aload_n hx hb dX4_cuts_10 rfl (lv_at hl 0 rfl) ?_
  refine gt_X4_28 F B mF_X4_29 dX4_cuts_11 ?_
  refine w_cv (S0 0 0 28) ((mup_j (by decide)).trans (mup_j (by decide))) ?_
  refine lv_istore_n (lv' := [(1, .int (S0 0 0 28)), (0, .ref (g.2.2 0 0))]) hx hb dX4_cuts_14 rfl hl (by decide) rfl (fun ls hl => ?_)
  have L15 : ∀ (k15 : Nat) (x1 : Int32) (S : mem), lp (b_X4_cuts_15 n) k15 (x1, S) = some q → ∀ (H : Heap) (locs : List Loc) (ls : Array Slot), Wd ixM enM g S (Aw ixM g s.heap.size) s H locs → lv_has ls 2 [(0, .ref (g.2.2 0 0)), (1, .int x1)] → W p l e (rmD 3) s m args below meth c H locs 0 0 (MQ below (QiW ixM enM g s.heap.size q.1 q.2) args s 0 0 (Aw ixM g s.heap.size)) (F0 m 15 ls []) := by
    intro k15
    induction k15 with
    | zero => intro x1 S h; exact (lp_zero h).elim
    | succ k15 ih15 =>
      intro x1 S h H locs ls B hl
      obtain ⟨t15, h, ht15⟩ := lp_succ h
      unfold b_X4_cuts_15 at h
      (try dsimp only at h)
      refine lv_iload_n hx hb dX4_cuts_15 rfl (lv_at hl 1 rfl) ?_
      refine lv_aload_n hx hb dX4_cuts_16 rfl (lv_at hl 0 rfl) ?_
      refine gt_X4_26 F B mF_X4_26 dX4_cuts_17 ?_
      refine lv_aload_n hx hb dX4_cuts_20 rfl (lv_at hl 0 rfl) ?_
      refine gt_X4_29 F B mF_X4_32 dX4_cuts_21 ?_
      refine lv_isub hx hb dX4_cuts_24 ?_
      refine lv_icmp_gt (tgt := 65) hx hb dX4_cuts_25 (by decide) (fun c1 => ?_) (fun c1 => ?_)
      · rw [if_pos c1] at h
        refine lv_aload_n hx hb dX4_cuts_65 rfl (lv_at hl 0 rfl) ?_
        refine gt_X4_30 F B mF_X4_35 dX4_cuts_66 ?_
        obtain rfl := Option.some.inj h
        obtain rfl := (show _ = q from ht15)
        exact w_iret F hr hlocks B dX4_cuts_69
      · rw [if_neg c1] at h
        refine lv_aload_n hx hb dX4_cuts_28 rfl (lv_at hl 0 rfl) ?_
        refine lv_iload_n hx hb dX4_cuts_29 rfl (lv_at hl 1 rfl) ?_
        obtain ⟨q2, hq2, h⟩ := cal_some h
        refine w_callVi F B (c_X4_greatest l g n S H.size x1 q2 hq2) mC_X4_greatest mM_X4_207 mN_X4 mI_X4_greatest mS_X4_greatest ixM_0 rfl rfl ⟨ok_X4_greatest, by decide⟩ rfl hl.1 rfl (Nat.le_of_ble_eq_true rfl) dX4_cuts_30 (fun H locs B => ?_)
        refine lv_iconst (v := 2) hx hb dX4_cuts_33 (by decide) ?_
        refine lv_irem hx hb dX4_cuts_34 (by decide) ?_
        refine lv_iconst (v := 1) hx hb dX4_cuts_35 (by decide) ?_
        refine lv_icmp_ne (tgt := 59) hx hb dX4_cuts_36 (by decide) (fun c3 => ?_) (fun c3 => ?_)
        · rw [if_neg c3] at h
          refine lv_iinc (v := x1 + 1) (lv' := [(1, .int (x1 + 1)), (0, .ref (g.2.2 0 0))]) hx hb dX4_cuts_59 hl (k := 1) rfl rfl (by decide) rfl (fun ls hl => ?_)
          refine lv_goto (tgt := 15) hx hb dX4_cuts_62 (by decide) ?_
          obtain rfl := Option.some.inj h
          exact ih15 (x1 + 1) S ht15 H locs ls B (lv_sub hl [1, 0] rfl)
        · rw [if_pos c3] at h
          refine lv_aload_n hx hb dX4_cuts_39 rfl (lv_at hl 0 rfl) ?_
          refine gt_X4_31 F B mF_X4_103 dX4_cuts_40 ?_
          refine lv_aload_n hx hb dX4_cuts_43 rfl (lv_at hl 0 rfl) ?_
          refine gt_X4_30 F B mF_X4_35 dX4_cuts_44 ?_
          refine lv_iload_n hx hb dX4_cuts_47 rfl (lv_at hl 1 rfl) ?_
          obtain ⟨z4, h⟩ := grd_some h
          refine as_M31 F B  z4 dX4_cuts_48 (fun H locs B => ?_)
          refine lv_aload_n hx hb dX4_cuts_49 rfl (lv_at hl 0 rfl) ?_
          refine lv_dup hx hb dX4_cuts_50 rfl ?_
          refine gt_X4_30 F B mF_X4_35 dX4_cuts_51 ?_
          refine w_cv (S 0 0 30) (mup_k (by decide)) ?_
          refine lv_iconst (v := 1) hx hb dX4_cuts_54 (by decide) ?_
          refine lv_iadd hx hb dX4_cuts_55 ?_
          refine pt_X4_30 F B mF_X4_35 dX4_cuts_56 (fun H locs B => ?_)
          refine lv_iinc (v := x1 + 1) (lv' := [(1, .int (x1 + 1)), (0, .ref (g.2.2 0 0))]) hx hb dX4_cuts_59 hl (k := 1) rfl rfl (by decide) rfl (fun ls hl => ?_)
          refine lv_goto (tgt := 15) hx hb dX4_cuts_62 (by decide) ?_
          obtain rfl := Option.some.inj h
          exact ih15 (x1 + 1) (mup (mup S 31 0 (Int32.toNatClampNeg (S 0 0 30)) x1) 0 0 30 ((S 0 0 30) + 1)) ht15 H locs ls B (lv_sub hl [1, 0] rfl)
  exact L15 n (S0 0 0 28) (mup (mup S0 0 0 0 0) 0 0 30 0) h H locs ls B (lv_sub hl [1, 0] rfl)
/-- public int cut(int) -/
def f_X4_cut (n : Nat) (S0 : mem) (x1 : Int32) : Option (Int32 × mem) :=
cal (f_X4_lies n (mup S0 0 0 0 0) x1 0 ((S0 0 0 30) - 1)) fun q1 => (
if q1 = 0 then (
some ((0, mup (mup S0 0 0 0 0) 0 0 0 1))) else (
grd (¬ (x1 < 0 ∨ 24 ≤ Int32.toNatClampNeg x1)) (
some ((S0 31 0 (Int32.toNatClampNeg x1), mup S0 0 0 0 0)))))
set_option maxRecDepth 100000 in
set_option maxHeartbeats 4000000 in
theorem c_X4_cut (l : Launch) (g : cx) (n : Nat) (S0 : mem) (sz : Nat) (x1 : Int32) (q : Int32 × mem) (h : f_X4_cut n S0 x1 = some q) : Met l yX4_cut (wsU yX4_cut cX4_cut 2 (some .int)) (rmD 1) (PcW ixM enM g S0 sz [.ref (g.2.2 0 0), .int x1]) (QiW ixM enM g sz q.1 q.2) 0 0 (Aw ixM g sz) := by
  refine met_intro (Qc := fun z9 => QiW ixM enM g z9 q.1 q.2) (free := fun z9 => Aw ixM g z9) [.ref (g.2.2 0 0), .int x1] RX4 rfl (by decide) (Nat.le_of_ble_eq_true rfl) (fun p e s m args below meth c H locs F hr hlocks B ls hl => ?_)
  have hl : lv_has ls 2 [(0, .ref (g.2.2 0 0)), (1, .int x1)] := hl
  have hx := F.1
  have hb := F.2.1
  unfold f_X4_cut at h
  refine lv_aload_n hx hb dX4_cut_0 rfl (lv_at hl 0 rfl) ?_
  refine lv_iconst (v := 0) hx hb dX4_cut_1 (by decide) ?_
  refine pt_X4_0 F B mF_X4_1 dX4_cut_2 (fun H locs B => ?_)
  refine lv_iload_n hx hb dX4_cut_5 rfl (lv_at hl 1 rfl) ?_
  refine lv_iconst (v := 0) hx hb dX4_cut_6 (by decide) ?_
  refine lv_aload_n hx hb dX4_cut_7 rfl (lv_at hl 0 rfl) ?_
  refine gt_X4_30 F B mF_X4_35 dX4_cut_8 ?_
  refine w_cv (S0 0 0 30) (mup_j (by decide)) ?_
  refine lv_iconst (v := 1) hx hb dX4_cut_11 (by decide) ?_
  refine lv_isub hx hb dX4_cut_12 ?_
  obtain ⟨q1, hq1, h⟩ := cal_some h
  refine w_callSi F B (c_X4_lies l g n (mup S0 0 0 0 0) H.size x1 0 ((S0 0 0 30) - 1) q1 hq1) mC_X4_lies mM_X4_109 mN_X4 mT_X4_lies ⟨ok_X4_lies, by decide⟩ rfl hl.1 rfl (Nat.le_of_ble_eq_true rfl) dX4_cut_13 (fun H locs B => ?_)
  refine lv_if_ne (tgt := 26) hx hb dX4_cut_16 (by decide) (fun c2 => ?_) (fun c2 => ?_)
  · rw [if_neg c2] at h
    refine lv_aload_n hx hb dX4_cut_26 rfl (lv_at hl 0 rfl) ?_
    refine gt_X4_31 F B mF_X4_103 dX4_cut_27 ?_
    refine lv_iload_n hx hb dX4_cut_30 rfl (lv_at hl 1 rfl) ?_
    obtain ⟨z3, h⟩ := grd_some h
    refine al_M31 F B  z3 dX4_cut_31 ?_
    refine w_cv (S0 31 0 (Int32.toNatClampNeg x1)) (mup_k (by decide)) ?_
    obtain rfl := Option.some.inj h
    exact w_iret F hr hlocks B dX4_cut_32
  · rw [if_pos c2] at h
    refine lv_aload_n hx hb dX4_cut_19 rfl (lv_at hl 0 rfl) ?_
    refine lv_iconst (v := 1) hx hb dX4_cut_20 (by decide) ?_
    refine pt_X4_0 F B mF_X4_1 dX4_cut_21 (fun H locs B => ?_)
    refine lv_iconst (v := 0) hx hb dX4_cut_24 (by decide) ?_
    obtain rfl := Option.some.inj h
    exact w_iret F hr hlocks B dX4_cut_25
def b_X4_told_63 (n : Nat) (S : mem) : (Int32 × Int32) → Option ((Int32 × Int32) ⊕ (Int32 × mem)) := fun w =>
if (S 0 0 1) ≤ w.2 then (
some (.inr ((w.1, S)))) else (
cal (f_X4_syllablesOf n S w.2 0) fun q4 => (
some (.inl ((w.1 + q4), (w.2 + 1)))))
def b_X4_told_110 (n : Nat) (S : mem) : (Int32 × Int32) → Option ((Int32 × Int32) ⊕ (Int32 × mem)) := fun w =>
if (S 0 0 1) ≤ w.2 then (
some (.inr ((w.1, S)))) else (
grd (¬ (w.2 < 0 ∨ 60 ≤ Int32.toNatClampNeg w.2)) (
if (S 5 0 (Int32.toNatClampNeg w.2)) ≤ 0 then (
some (.inl ((w.1 + 0), (w.2 + 1)))) else (
some (.inl ((w.1 + 1), (w.2 + 1))))))
/-- public int told(int) -/
def f_X4_told (n : Nat) (S0 : mem) (x1 : Int32) : Option (Int32 × mem) :=
if x1 = 0 then (
some ((S0 0 0 1, mup S0 0 0 0 0))) else (
if x1 = 1 then (
lp (b_X4_told_63 n (mup S0 0 0 0 0)) n (0, 0)) else (
if x1 = 2 then (
some ((S0 0 0 9, mup S0 0 0 0 0))) else (
if x1 = 3 then (
some ((S0 0 0 10, mup S0 0 0 0 0))) else (
if x1 = 4 then (
some ((S0 0 0 22, mup S0 0 0 0 0))) else (
if x1 = 5 then (
some ((S0 0 0 26, mup S0 0 0 0 0))) else (
if x1 = 6 then (
lp (b_X4_told_110 n (mup S0 0 0 0 0)) n (0, 0)) else (
if x1 = 7 then (
if (S0 0 0 18) = 0 then (
some ((0, mup S0 0 0 0 0))) else (
some ((1, mup S0 0 0 0 0)))) else (
some ((-1000002, mup S0 0 0 0 0))))))))))
set_option maxRecDepth 100000 in
set_option maxHeartbeats 4000000 in
theorem c_X4_told (l : Launch) (g : cx) (n : Nat) (S0 : mem) (sz : Nat) (x1 : Int32) (q : Int32 × mem) (h : f_X4_told n S0 x1 = some q) : Met l yX4_told (wsU yX4_told cX4_told 4 (some .int)) (rmD 1) (PcW ixM enM g S0 sz [.ref (g.2.2 0 0), .int x1]) (QiW ixM enM g sz q.1 q.2) 0 0 (Aw ixM g sz) := by
  refine met_intro (Qc := fun z9 => QiW ixM enM g z9 q.1 q.2) (free := fun z9 => Aw ixM g z9) [.ref (g.2.2 0 0), .int x1] RX4 rfl (by decide) (Nat.le_of_ble_eq_true rfl) (fun p e s m args below meth c H locs F hr hlocks B ls hl => ?_)
  have hl : lv_has ls 4 [(0, .ref (g.2.2 0 0)), (1, .int x1)] := hl
  have hx := F.1
  have hb := F.2.1
  unfold f_X4_told at h
  refine lv_aload_n hx hb dX4_told_0 rfl (lv_at hl 0 rfl) ?_
  refine lv_iconst (v := 0) hx hb dX4_told_1 (by decide) ?_
  refine pt_X4_0 F B mF_X4_1 dX4_told_2 (fun H locs B => ?_)
  refine lv_iconst (v := 0) hx hb dX4_told_5 (by decide) ?_
  refine lv_istore_n (lv' := [(2, .int 0), (0, .ref (g.2.2 0 0)), (1, .int x1)]) hx hb dX4_told_6 rfl hl (by decide) rfl (fun ls hl => ?_)
  refine lv_iload_n hx hb dX4_told_7 rfl (lv_at hl 2 rfl) ?_
  by_cases c1 : x1 = 0
  · rw [if_pos c1] at h
    refine lv_tableIn (tgt := 56) hx hb dX4_told_8 (by rw [c1]; decide) (by rw [c1]; decide) (by rw [c1]; rfl) (by decide) ?_
    refine lv_aload_n hx hb dX4_told_56 rfl (lv_at hl 1 rfl) ?_
    refine gt_X4_1 F B mF_X4_7 dX4_told_57 ?_
    refine w_cv (S0 0 0 1) (mup_j (by decide)) ?_
    obtain rfl := Option.some.inj h
    exact w_iret F hr hlocks B dX4_told_60
  · rw [if_neg c1] at h
    by_cases c2 : x1 = 1
    · rw [if_pos c2] at h
      refine lv_tableIn (tgt := 61) hx hb dX4_told_8 (by rw [c2]; decide) (by rw [c2]; decide) (by rw [c2]; rfl) (by decide) ?_
      refine lv_iconst (v := 0) hx hb dX4_told_61 (by decide) ?_
      refine lv_istore_n (lv' := [(3, .int 0), (2, .int 0), (0, .ref (g.2.2 0 0)), (1, .int x1)]) hx hb dX4_told_62 rfl hl (by decide) rfl (fun ls hl => ?_)
      have L63 : ∀ (k63 : Nat) (S : mem) (x2 : Int32) (x3 : Int32), lp (b_X4_told_63 n S) k63 (x2, x3) = some q → ∀ (H : Heap) (locs : List Loc) (ls : Array Slot), Wd ixM enM g S (Aw ixM g s.heap.size) s H locs → lv_has ls 4 [(0, .ref (g.2.2 0 0)), (2, .int x2), (3, .int x3)] → W p l e (rmD 1) s m args below meth c H locs 0 0 (MQ below (QiW ixM enM g s.heap.size q.1 q.2) args s 0 0 (Aw ixM g s.heap.size)) (F0 m 63 ls []) := by
        intro k63
        induction k63 with
        | zero => intro S x2 x3 h; exact (lp_zero h).elim
        | succ k63 ih63 =>
          intro S x2 x3 h H locs ls B hl
          obtain ⟨t63, h, ht63⟩ := lp_succ h
          unfold b_X4_told_63 at h
          (try dsimp only at h)
          refine lv_iload_n hx hb dX4_told_63 rfl (lv_at hl 2 rfl) ?_
          refine lv_aload_n hx hb dX4_told_64 rfl (lv_at hl 0 rfl) ?_
          refine gt_X4_1 F B mF_X4_7 dX4_told_65 ?_
          refine lv_icmp_ge (tgt := 86) hx hb dX4_told_68 (by decide) (fun c3 => ?_) (fun c3 => ?_)
          · rw [if_pos c3] at h
            refine lv_iload_n hx hb dX4_told_86 rfl (lv_at hl 1 rfl) ?_
            obtain rfl := Option.some.inj h
            obtain rfl := (show _ = q from ht63)
            exact w_iret F hr hlocks B dX4_told_87
          · rw [if_neg c3] at h
            refine lv_iload_n hx hb dX4_told_71 rfl (lv_at hl 1 rfl) ?_
            refine lv_aload_n hx hb dX4_told_72 rfl (lv_at hl 0 rfl) ?_
            refine lv_iload_n hx hb dX4_told_73 rfl (lv_at hl 2 rfl) ?_
            refine lv_iconst (v := 0) hx hb dX4_told_74 (by decide) ?_
            obtain ⟨q4, hq4, h⟩ := cal_some h
            refine w_callVi F B (c_X4_syllablesOf l g n S H.size x3 0 q4 hq4) mC_X4_syllablesOf mM_X4_128 mN_X4 mI_X4_syllablesOf mS_X4_syllablesOf ixM_0 rfl rfl ⟨ok_X4_syllablesOf, by decide⟩ rfl hl.1 rfl (Nat.le_of_ble_eq_true rfl) dX4_told_75 (fun H locs B => ?_)
            refine lv_iadd hx hb dX4_told_78 ?_
            refine lv_istore_n (lv' := [(2, .int (x2 + q4)), (0, .ref (g.2.2 0 0)), (3, .int x3)]) hx hb dX4_told_79 rfl hl (by decide) rfl (fun ls hl => ?_)
            refine lv_iinc (v := x3 + 1) (lv' := [(3, .int (x3 + 1)), (2, .int (x2 + q4)), (0, .ref (g.2.2 0 0))]) hx hb dX4_told_80 hl (k := 2) rfl rfl (by decide) rfl (fun ls hl => ?_)
            refine lv_goto (tgt := 63) hx hb dX4_told_83 (by decide) ?_
            obtain rfl := Option.some.inj h
            exact ih63 S (x2 + q4) (x3 + 1) ht63 H locs ls B (lv_sub hl [2, 1, 0] rfl)
      exact L63 n (mup S0 0 0 0 0) 0 0 h H locs ls B (lv_sub hl [2, 1, 0] rfl)
    · rw [if_neg c2] at h
      by_cases c5 : x1 = 2
      · rw [if_pos c5] at h
        refine lv_tableIn (tgt := 88) hx hb dX4_told_8 (by rw [c5]; decide) (by rw [c5]; decide) (by rw [c5]; rfl) (by decide) ?_
        refine lv_aload_n hx hb dX4_told_88 rfl (lv_at hl 1 rfl) ?_
        refine gt_X4_9 F B mF_X4_10 dX4_told_89 ?_
        refine w_cv (S0 0 0 9) (mup_j (by decide)) ?_
        obtain rfl := Option.some.inj h
        exact w_iret F hr hlocks B dX4_told_92
      · rw [if_neg c5] at h
        by_cases c6 : x1 = 3
        · rw [if_pos c6] at h
          refine lv_tableIn (tgt := 93) hx hb dX4_told_8 (by rw [c6]; decide) (by rw [c6]; decide) (by rw [c6]; rfl) (by decide) ?_
          refine lv_aload_n hx hb dX4_told_93 rfl (lv_at hl 1 rfl) ?_
          refine gt_X4_10 F B mF_X4_13 dX4_told_94 ?_
          refine w_cv (S0 0 0 10) (mup_j (by decide)) ?_
          obtain rfl := Option.some.inj h
          exact w_iret F hr hlocks B dX4_told_97
        · rw [if_neg c6] at h
          by_cases c7 : x1 = 4
          · rw [if_pos c7] at h
            refine lv_tableIn (tgt := 98) hx hb dX4_told_8 (by rw [c7]; decide) (by rw [c7]; decide) (by rw [c7]; rfl) (by decide) ?_
            refine lv_aload_n hx hb dX4_told_98 rfl (lv_at hl 1 rfl) ?_
            refine gt_X4_22 F B mF_X4_23 dX4_told_99 ?_
            refine w_cv (S0 0 0 22) (mup_j (by decide)) ?_
            obtain rfl := Option.some.inj h
            exact w_iret F hr hlocks B dX4_told_102
          · rw [if_neg c7] at h
            by_cases c8 : x1 = 5
            · rw [if_pos c8] at h
              refine lv_tableIn (tgt := 103) hx hb dX4_told_8 (by rw [c8]; decide) (by rw [c8]; decide) (by rw [c8]; rfl) (by decide) ?_
              refine lv_aload_n hx hb dX4_told_103 rfl (lv_at hl 1 rfl) ?_
              refine gt_X4_26 F B mF_X4_26 dX4_told_104 ?_
              refine w_cv (S0 0 0 26) (mup_j (by decide)) ?_
              obtain rfl := Option.some.inj h
              exact w_iret F hr hlocks B dX4_told_107
            · rw [if_neg c8] at h
              by_cases c9 : x1 = 6
              · rw [if_pos c9] at h
                refine lv_tableIn (tgt := 108) hx hb dX4_told_8 (by rw [c9]; decide) (by rw [c9]; decide) (by rw [c9]; rfl) (by decide) ?_
                refine lv_iconst (v := 0) hx hb dX4_told_108 (by decide) ?_
                refine lv_istore_n (lv' := [(3, .int 0), (2, .int 0), (0, .ref (g.2.2 0 0)), (1, .int x1)]) hx hb dX4_told_109 rfl hl (by decide) rfl (fun ls hl => ?_)
                have L110 : ∀ (k110 : Nat) (S : mem) (x2 : Int32) (x3 : Int32), lp (b_X4_told_110 n S) k110 (x2, x3) = some q → ∀ (H : Heap) (locs : List Loc) (ls : Array Slot), Wd ixM enM g S (Aw ixM g s.heap.size) s H locs → lv_has ls 4 [(0, .ref (g.2.2 0 0)), (2, .int x2), (3, .int x3)] → W p l e (rmD 1) s m args below meth c H locs 0 0 (MQ below (QiW ixM enM g s.heap.size q.1 q.2) args s 0 0 (Aw ixM g s.heap.size)) (F0 m 110 ls []) := by
                  intro k110
                  induction k110 with
                  | zero => intro S x2 x3 h; exact (lp_zero h).elim
                  | succ k110 ih110 =>
                    intro S x2 x3 h H locs ls B hl
                    obtain ⟨t110, h, ht110⟩ := lp_succ h
                    unfold b_X4_told_110 at h
                    (try dsimp only at h)
                    refine lv_iload_n hx hb dX4_told_110 rfl (lv_at hl 2 rfl) ?_
                    refine lv_aload_n hx hb dX4_told_111 rfl (lv_at hl 0 rfl) ?_
                    refine gt_X4_1 F B mF_X4_7 dX4_told_112 ?_
                    refine lv_icmp_ge (tgt := 141) hx hb dX4_told_115 (by decide) (fun c10 => ?_) (fun c10 => ?_)
                    · rw [if_pos c10] at h
                      refine lv_iload_n hx hb dX4_told_141 rfl (lv_at hl 1 rfl) ?_
                      obtain rfl := Option.some.inj h
                      obtain rfl := (show _ = q from ht110)
                      exact w_iret F hr hlocks B dX4_told_142
                    · rw [if_neg c10] at h
                      refine lv_iload_n hx hb dX4_told_118 rfl (lv_at hl 1 rfl) ?_
                      refine lv_aload_n hx hb dX4_told_119 rfl (lv_at hl 0 rfl) ?_
                      refine gt_X4_5 F B mF_X4_61 dX4_told_120 ?_
                      refine lv_iload_n hx hb dX4_told_123 rfl (lv_at hl 2 rfl) ?_
                      obtain ⟨z11, h⟩ := grd_some h
                      refine al_M5 F B  z11 dX4_told_124 ?_
                      refine lv_if_le (tgt := 132) hx hb dX4_told_125 (by decide) (fun c12 => ?_) (fun c12 => ?_)
                      · rw [if_pos c12] at h
                        refine lv_iconst (v := 0) hx hb dX4_told_132 (by decide) ?_
                        refine lv_iadd hx hb dX4_told_133 ?_
                        refine lv_istore_n (lv' := [(2, .int (x2 + 0)), (0, .ref (g.2.2 0 0)), (3, .int x3)]) hx hb dX4_told_134 rfl hl (by decide) rfl (fun ls hl => ?_)
                        refine lv_iinc (v := x3 + 1) (lv' := [(3, .int (x3 + 1)), (2, .int (x2 + 0)), (0, .ref (g.2.2 0 0))]) hx hb dX4_told_135 hl (k := 2) rfl rfl (by decide) rfl (fun ls hl => ?_)
                        refine lv_goto (tgt := 110) hx hb dX4_told_138 (by decide) ?_
                        obtain rfl := Option.some.inj h
                        exact ih110 S (x2 + 0) (x3 + 1) ht110 H locs ls B (lv_sub hl [2, 1, 0] rfl)
                      · rw [if_neg c12] at h
                        refine lv_iconst (v := 1) hx hb dX4_told_128 (by decide) ?_
                        refine lv_goto (tgt := 133) hx hb dX4_told_129 (by decide) ?_
                        refine lv_iadd hx hb dX4_told_133 ?_
                        refine lv_istore_n (lv' := [(2, .int (x2 + 1)), (0, .ref (g.2.2 0 0)), (3, .int x3)]) hx hb dX4_told_134 rfl hl (by decide) rfl (fun ls hl => ?_)
                        refine lv_iinc (v := x3 + 1) (lv' := [(3, .int (x3 + 1)), (2, .int (x2 + 1)), (0, .ref (g.2.2 0 0))]) hx hb dX4_told_135 hl (k := 2) rfl rfl (by decide) rfl (fun ls hl => ?_)
                        refine lv_goto (tgt := 110) hx hb dX4_told_138 (by decide) ?_
                        obtain rfl := Option.some.inj h
                        exact ih110 S (x2 + 1) (x3 + 1) ht110 H locs ls B (lv_sub hl [2, 1, 0] rfl)
                exact L110 n (mup S0 0 0 0 0) 0 0 h H locs ls B (lv_sub hl [2, 1, 0] rfl)
              · rw [if_neg c9] at h
                by_cases c13 : x1 = 7
                · rw [if_pos c13] at h
                  refine lv_tableIn (tgt := 143) hx hb dX4_told_8 (by rw [c13]; decide) (by rw [c13]; decide) (by rw [c13]; rfl) (by decide) ?_
                  refine lv_aload_n hx hb dX4_told_143 rfl (lv_at hl 1 rfl) ?_
                  refine gt_X4_18 F B mF_X4_19 dX4_told_144 ?_
                  refine w_cv (S0 0 0 18) (mup_j (by decide)) ?_
                  refine lv_if_eq (tgt := 154) hx hb dX4_told_147 (by decide) (fun c14 => ?_) (fun c14 => ?_)
                  · rw [if_pos c14] at h
                    refine lv_iconst (v := 0) hx hb dX4_told_154 (by decide) ?_
                    obtain rfl := Option.some.inj h
                    exact w_iret F hr hlocks B dX4_told_155
                  · rw [if_neg c14] at h
                    refine lv_iconst (v := 1) hx hb dX4_told_150 (by decide) ?_
                    refine lv_goto (tgt := 155) hx hb dX4_told_151 (by decide) ?_
                    obtain rfl := Option.some.inj h
                    exact w_iret F hr hlocks B dX4_told_155
                · rw [if_neg c13] at h
                  refine lv_tableOut (tgt := 156) hx hb dX4_told_8 (sw_out (fun z h1 h2 => by rcases (show z = 0 ∨ z = 1 ∨ z = 2 ∨ z = 3 ∨ z = 4 ∨ z = 5 ∨ z = 6 ∨ z = 7 by omega) with rfl | rfl | rfl | rfl | rfl | rfl | rfl | rfl <;> first | exact c1 | exact c2 | exact c5 | exact c6 | exact c7 | exact c8 | exact c9 | exact c13)) (by decide) ?_
                  refine lv_ldc (v := -1000002) hx hb F.2.2.2.1 (F.2.2.2.2 _ (wsU_in mK_X4_113)) dX4_told_156 ?_
                  obtain rfl := Option.some.inj h
                  exact w_iret F hr hlocks B dX4_told_158
/-- public int clear() -/
def f_X4_clear (n : Nat) (S0 : mem) : Option (Int32 × mem) :=
cal (f_X4_fresh n (mup S0 0 0 0 0)) fun q1 => (
some ((S0 0 0 1, q1)))
set_option maxRecDepth 100000 in
set_option maxHeartbeats 4000000 in
theorem c_X4_clear (l : Launch) (g : cx) (n : Nat) (S0 : mem) (sz : Nat)  (q : Int32 × mem) (h : f_X4_clear n S0 = some q) : Met l yX4_clear (wsU yX4_clear cX4_clear 2 (some .int)) (rmD 1) (PcW ixM enM g S0 sz [.ref (g.2.2 0 0)]) (QiW ixM enM g sz q.1 q.2) 0 0 (Aw ixM g sz) := by
  refine met_intro (Qc := fun z9 => QiW ixM enM g z9 q.1 q.2) (free := fun z9 => Aw ixM g z9) [.ref (g.2.2 0 0)] RX4 rfl (by decide) (Nat.le_of_ble_eq_true rfl) (fun p e s m args below meth c H locs F hr hlocks B ls hl => ?_)
  have hl : lv_has ls 2 [(0, .ref (g.2.2 0 0))] := hl
  have hx := F.1
  have hb := F.2.1
  unfold f_X4_clear at h
  refine lv_aload_n hx hb dX4_clear_0 rfl (lv_at hl 0 rfl) ?_
  refine lv_iconst (v := 0) hx hb dX4_clear_1 (by decide) ?_
  refine pt_X4_0 F B mF_X4_1 dX4_clear_2 (fun H locs B => ?_)
  refine lv_aload_n hx hb dX4_clear_5 rfl (lv_at hl 0 rfl) ?_
  refine gt_X4_1 F B mF_X4_7 dX4_clear_6 ?_
  refine w_cv (S0 0 0 1) (mup_j (by decide)) ?_
  refine lv_istore_n (lv' := [(1, .int (S0 0 0 1)), (0, .ref (g.2.2 0 0))]) hx hb dX4_clear_9 rfl hl (by decide) rfl (fun ls hl => ?_)
  refine lv_aload_n hx hb dX4_clear_10 rfl (lv_at hl 1 rfl) ?_
  obtain ⟨q1, hq1, h⟩ := cal_some h
  refine w_callVv F B (c_X4_fresh l g n (mup S0 0 0 0 0) H.size  q1 hq1) mC_X4_fresh mM_X4_106 mN_X4 mI_X4_fresh mS_X4_fresh ixM_0 rfl rfl ⟨ok_X4_fresh, by decide⟩ rfl hl.1 rfl (Nat.le_of_ble_eq_true rfl) dX4_clear_11 (fun H locs B => ?_)
  refine lv_iload_n hx hb dX4_clear_14 rfl (lv_at hl 0 rfl) ?_
  obtain rfl := Option.some.inj h
  exact w_iret F hr hlocks B dX4_clear_15
