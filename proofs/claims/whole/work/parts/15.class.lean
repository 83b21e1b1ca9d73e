def b_X0_raiseValues_10 (n : Nat) (x1 : Int32) (x2 : Int32) : (Int32 × Int32 × mem) → Option ((Int32 × Int32 × mem) ⊕ (mem)) := fun w =>
grd (¬ (x1 < 0 ∨ 30 ≤ Int32.toNatClampNeg x1)) (
if (w.2.2 13 0 (Int32.toNatClampNeg x1)) < w.2.1 then (
some (.inr (w.2.2))) else (
grd (¬ (x2 + w.2.1 < 0 ∨ 27 ≤ Int32.toNatClampNeg (x2 + w.2.1))) (
some (.inl ((w.1 / 10), (w.2.1 + 1), (mup w.2.2 16 0 (Int32.toNatClampNeg (x2 + w.2.1)) (if (w.2.2 16 0 (Int32.toNatClampNeg (x2 + w.2.1))) < (w.1 - w.1 / 10 * 10) then (w.1 - w.1 / 10 * 10) else (w.2.2 16 0 (Int32.toNatClampNeg (x2 + w.2.1))))))))))
/-- private void raiseValues(int, int) -/
def f_X0_raiseValues (n : Nat) (S0 : mem) (x1 : Int32) (x2 : Int32) : Option (mem) :=
grd (¬ (x1 < 0 ∨ 30 ≤ Int32.toNatClampNeg x1)) (
lp (b_X0_raiseValues_10 n x1 x2) n ((S0 14 0 (Int32.toNatClampNeg x1)), 0, S0))
set_option maxRecDepth 100000 in
set_option maxHeartbeats 4000000 in
theorem c_X0_raiseValues (l : Launch) (g : cx) (n : Nat) (S0 : mem) (sz : Nat) (x1 : Int32) (x2 : Int32) (q : mem) (h : f_X0_raiseValues n S0 x1 x2 = some q) : Met l yX0_raiseValues (wsU yX0_raiseValues cX0_raiseValues 5 none) (rmD 1) (PcW ixC enC g S0 sz [.ref (g.2.2 0 0), .int x1, .int x2]) (QvW ixC enC g sz q) 0 0 (Aw ixC g sz) := by
  refine met_intro (Qc := fun z9 => QvW ixC enC g z9 q) (free := fun z9 => Aw ixC g z9) [.ref (g.2.2 0 0), .int x1, .int x2] RX0 rfl (by decide) (Nat.le_of_ble_eq_true rfl) (fun p e s m args below meth c H locs F hr hlocks B ls hl => ?_)
  have hl : lv_has ls 5 [(0, .ref (g.2.2 0 0)), (1, .int x1), (2, .int x2)] := hl
  have hx := F.1
  have hb := F.2.1
  unfold f_X0_raiseValues at h
  refine lv_aload_n hx hb dX0_raiseValues_0 rfl (lv_at hl 0 rfl) ?_
  refine gt_X0_2 F B mF_X0_18 dX0_raiseValues_1 ?_
  refine lv_iload_n hx hb dX0_raiseValues_4 rfl (lv_at hl 1 rfl) ?_
  obtain ⟨z1, h⟩ := grd_some h
  refine al_C14 F B  z1 dX0_raiseValues_5 ?_
  refine lv_istore_n (lv' := [(3, .int (S0 14 0 (Int32.toNatClampNeg x1))), (0, .ref (g.2.2 0 0)), (1, .int x1), (2, .int x2)]) hx hb dX0_raiseValues_6 rfl hl (by decide) rfl (fun ls hl => ?_)
  refine lv_iconst (v := 0) hx hb dX0_raiseValues_7 (by decide) ?_
  refine lv_istore (lv' := [(4, .int 0), (3, .int (S0 14 0 (Int32.toNatClampNeg x1))), (0, .ref (g.2.2 0 0)), (1, .int x1), (2, .int x2)]) hx hb dX0_raiseValues_8 hl (by decide) rfl (fun ls hl => ?_)
  have L10 : ∀ (k10 : Nat) (x1 : Int32) (x2 : Int32) (x3 : Int32) (x4 : Int32) (S : mem), lp (b_X0_raiseValues_10 n x1 x2) k10 (x3, x4, S) = some q → ∀ (H : Heap) (locs : List Loc) (ls : Array Slot), Wd ixC enC g S (Aw ixC g s.heap.size) s H locs → lv_has ls 5 [(0, .ref (g.2.2 0 0)), (1, .int x1), (2, .int x2), (3, .int x3), (4, .int x4)] → W p l e (rmD 1) s m args below meth c H locs 0 0 (MQ below (QvW ixC enC g s.heap.size q) args s 0 0 (Aw ixC g s.heap.size)) (F0 m 10 ls []) := by
    intro k10
    induction k10 with
    | zero => intro x1 x2 x3 x4 S h; exact (lp_zero h).elim
    | succ k10 ih10 =>
      intro x1 x2 x3 x4 S h H locs ls B hl
      obtain ⟨t10, h, ht10⟩ := lp_succ h
      unfold b_X0_raiseValues_10 at h
      (try dsimp only at h)
      refine lv_iload hx hb dX0_raiseValues_10 (lv_at hl 4 rfl) ?_
      refine lv_aload_n hx hb dX0_raiseValues_12 rfl (lv_at hl 0 rfl) ?_
      refine gt_X0_1 F B mF_X0_15 dX0_raiseValues_13 ?_
      refine lv_iload_n hx hb dX0_raiseValues_16 rfl (lv_at hl 1 rfl) ?_
      obtain ⟨z2, h⟩ := grd_some h
      refine al_C13 F B  z2 dX0_raiseValues_17 ?_
      refine lv_icmp_gt (tgt := 57) hx hb dX0_raiseValues_18 (by decide) (fun c3 => ?_) (fun c3 => ?_)
      · rw [if_pos c3] at h
        obtain rfl := Option.some.inj h
        obtain rfl := (show _ = q from ht10)
        exact w_vret F hr hlocks B dX0_raiseValues_57
      · rw [if_neg c3] at h
        refine lv_aload_n hx hb dX0_raiseValues_21 rfl (lv_at hl 0 rfl) ?_
        refine gt_X0_6 F B mF_X0_24 dX0_raiseValues_22 ?_
        refine lv_iload_n hx hb dX0_raiseValues_25 rfl (lv_at hl 2 rfl) ?_
        refine lv_iload hx hb dX0_raiseValues_26 (lv_at hl 4 rfl) ?_
        refine lv_iadd hx hb dX0_raiseValues_28 ?_
        refine lv_aload_n hx hb dX0_raiseValues_29 rfl (lv_at hl 0 rfl) ?_
        refine gt_X0_6 F B mF_X0_24 dX0_raiseValues_30 ?_
        refine lv_iload_n hx hb dX0_raiseValues_33 rfl (lv_at hl 2 rfl) ?_
        refine lv_iload hx hb dX0_raiseValues_34 (lv_at hl 4 rfl) ?_
        refine lv_iadd hx hb dX0_raiseValues_36 ?_
        obtain ⟨z4, h⟩ := grd_some h
        refine al_C16 F B  z4 dX0_raiseValues_37 ?_
        refine lv_iload_n hx hb dX0_raiseValues_38 rfl (lv_at hl 3 rfl) ?_
        refine lv_bipush (v := 10) hx hb dX0_raiseValues_39 (by decide) ?_
        refine lv_irem hx hb dX0_raiseValues_41 (by decide) ?_
        refine w_mmax F hl.1 mM_X0_65 (by decide) (Nat.le_of_ble_eq_true rfl) dX0_raiseValues_42 ?_
        refine as_C16 F B  z4 dX0_raiseValues_45 (fun H locs B => ?_)
        refine lv_iload_n hx hb dX0_raiseValues_46 rfl (lv_at hl 3 rfl) ?_
        refine lv_bipush (v := 10) hx hb dX0_raiseValues_47 (by decide) ?_
        refine lv_idiv hx hb dX0_raiseValues_49 (by decide) ?_
        refine lv_istore_n (lv' := [(3, .int (x3 / 10)), (0, .ref (g.2.2 0 0)), (1, .int x1), (2, .int x2), (4, .int x4)]) hx hb dX0_raiseValues_50 rfl hl (by decide) rfl (fun ls hl => ?_)
        refine lv_iinc (v := x4 + 1) (lv' := [(4, .int (x4 + 1)), (3, .int (x3 / 10)), (0, .ref (g.2.2 0 0)), (1, .int x1), (2, .int x2)]) hx hb dX0_raiseValues_51 hl (k := 4) rfl rfl (by decide) rfl (fun ls hl => ?_)
        refine lv_goto (tgt := 10) hx hb dX0_raiseValues_54 (by decide) ?_
        obtain rfl := Option.some.inj h
        exact ih10 x1 x2 (x3 / 10) (x4 + 1) (mup S 16 0 (Int32.toNatClampNeg (x2 + x4)) (if (S 16 0 (Int32.toNatClampNeg (x2 + x4))) < (x3 - x3 / 10 * 10) then (x3 - x3 / 10 * 10) else (S 16 0 (Int32.toNatClampNeg (x2 + x4))))) ht10 H locs ls B (lv_sub hl [2, 3, 4, 1, 0] rfl)
  exact L10 n x1 x2 (S0 14 0 (Int32.toNatClampNeg x1)) 0 S0 h H locs ls B (lv_sub hl [2, 3, 4, 1, 0] rfl)
def b_X0_weighPlaces_58 (n : Nat) (x1 : Int32) : (Int32 × mem) → Option ((Int32 × mem) ⊕ ((Int32 × mem) ⊕ ((Int32 × mem) ⊕ (mem)))) := fun w =>
grd (¬ (x1 < 0 ∨ 30 ≤ Int32.toNatClampNeg x1)) (
if ((w.2 0 0 5) + 2) < (w.1 + (w.2 13 0 (Int32.toNatClampNeg x1))) then (
some (.inr (.inl ((x1 + 1), w.2)))) else (
cal (f_X0_standsAt n w.2 x1 w.1) fun q7 => (
if q7 = 0 then (
some (.inl ((w.1 + 1), w.2))) else (
cal (f_X0_raiseValues n w.2 x1 w.1) fun q9 => (
some (.inl ((w.1 + 1), q9)))))))
def b_X0_weighPlaces_48 (n : Nat) : (Int32 × mem) → Option ((Int32 × mem) ⊕ ((Int32 × mem) ⊕ (mem))) := fun w =>
if (w.2 0 0 3) ≤ w.1 then (
some (.inr (.inr (w.2)))) else (
lp (b_X0_weighPlaces_58 n w.1) n (0, w.2))
def b_X0_weighPlaces_23 (n : Nat) : (Int32 × mem) → Option ((Int32 × mem) ⊕ (mem)) := fun w =>
if ((w.2 0 0 5) + 2) < w.1 then (
lp (b_X0_weighPlaces_48 n ) n (0, w.2)) else (
grd (¬ (w.1 < 0 ∨ 27 ≤ Int32.toNatClampNeg w.1)) (
some (.inl ((w.1 + 1), (mup w.2 16 0 (Int32.toNatClampNeg w.1) 0)))))
/-- private void weighPlaces() -/
def f_X0_weighPlaces (n : Nat) (S0 : mem) : Option (mem) :=
grd (¬ ((S0 0 0 5) + 1 < 0 ∨ 26 ≤ Int32.toNatClampNeg ((S0 0 0 5) + 1))) (
lp (b_X0_weighPlaces_23 n ) n (0, (mup (mup S0 15 0 (Int32.toNatClampNeg 0) 27) 15 0 (Int32.toNatClampNeg ((S0 0 0 5) + 1)) 27)))
set_option maxRecDepth 100000 in
set_option maxHeartbeats 4000000 in
theorem c_X0_weighPlaces (l : Launch) (g : cx) (n : Nat) (S0 : mem) (sz : Nat)  (q : mem) (h : f_X0_weighPlaces n S0 = some q) : Met l yX0_weighPlaces (wsU yX0_weighPlaces cX0_weighPlaces 3 none) (rmD 2) (PcW ixC enC g S0 sz [.ref (g.2.2 0 0)]) (QvW ixC enC g sz q) 0 0 (Aw ixC g sz) := by
  refine met_intro (Qc := fun z9 => QvW ixC enC g z9 q) (free := fun z9 => Aw ixC g z9) [.ref (g.2.2 0 0)] RX0 rfl (by decide) (Nat.le_of_ble_eq_true rfl) (fun p e s m args below meth c H locs F hr hlocks B ls hl => ?_)
  have hl : lv_has ls 3 [(0, .ref (g.2.2 0 0))] := hl
  have hx := F.1
  have hb := F.2.1
  unfold f_X0_weighPlaces at h
  refine lv_aload_n hx hb dX0_weighPlaces_0 rfl (lv_at hl 0 rfl) ?_
  refine gt_X0_4 F B mF_X0_21 dX0_weighPlaces_1 ?_
  refine lv_iconst (v := 0) hx hb dX0_weighPlaces_4 (by decide) ?_
  refine lv_bipush (v := 27) hx hb dX0_weighPlaces_5 (by decide) ?_
  refine as_C15 F B  (by decide) dX0_weighPlaces_7 (fun H locs B => ?_)
  refine lv_aload_n hx hb dX0_weighPlaces_8 rfl (lv_at hl 0 rfl) ?_
  refine gt_X0_4 F B mF_X0_21 dX0_weighPlaces_9 ?_
  refine lv_aload_n hx hb dX0_weighPlaces_12 rfl (lv_at hl 0 rfl) ?_
  refine gt_X0_5 F B mF_X0_40 dX0_weighPlaces_13 ?_
  refine w_cv (S0 0 0 5) (mup_k (by decide)) ?_
  refine lv_iconst (v := 1) hx hb dX0_weighPlaces_16 (by decide) ?_
  refine lv_iadd hx hb dX0_weighPlaces_17 ?_
  refine lv_bipush (v := 27) hx hb dX0_weighPlaces_18 (by decide) ?_
  obtain ⟨z2, h⟩ := grd_some h
  refine as_C15 F B  z2 dX0_weighPlaces_20 (fun H locs B => ?_)
  refine lv_iconst (v := 0) hx hb dX0_weighPlaces_21 (by decide) ?_
  refine lv_istore_n (lv' := [(1, .int 0), (0, .ref (g.2.2 0 0))]) hx hb dX0_weighPlaces_22 rfl hl (by decide) rfl (fun ls hl => ?_)
  have L23 : ∀ (k23 : Nat) (x1 : Int32) (S : mem), lp (b_X0_weighPlaces_23 n) k23 (x1, S) = some q → ∀ (H : Heap) (locs : List Loc) (ls : Array Slot), Wd ixC enC g S (Aw ixC g s.heap.size) s H locs → lv_has ls 3 [(0, .ref (g.2.2 0 0)), (1, .int x1)] → W p l e (rmD 2) s m args below meth c H locs 0 0 (MQ below (QvW ixC enC g s.heap.size q) args s 0 0 (Aw ixC g s.heap.size)) (F0 m 23 ls []) := by
    intro k23
    induction k23 with
    | zero => intro x1 S h; exact (lp_zero h).elim
    | succ k23 ih23 =>
      intro x1 S h H locs ls B hl
      obtain ⟨t23, h, ht23⟩ := lp_succ h
      unfold b_X0_weighPlaces_23 at h
      (try dsimp only at h)
      refine lv_iload_n hx hb dX0_weighPlaces_23 rfl (lv_at hl 1 rfl) ?_
      refine lv_aload_n hx hb dX0_weighPlaces_24 rfl (lv_at hl 0 rfl) ?_
      refine gt_X0_5 F B mF_X0_40 dX0_weighPlaces_25 ?_
      refine lv_iconst (v := 2) hx hb dX0_weighPlaces_28 (by decide) ?_
      refine lv_iadd hx hb dX0_weighPlaces_29 ?_
      refine lv_icmp_gt (tgt := 46) hx hb dX0_weighPlaces_30 (by decide) (fun c3 => ?_) (fun c3 => ?_)
      · rw [if_pos c3] at h
        refine lv_iconst (v := 0) hx hb dX0_weighPlaces_46 (by decide) ?_
        refine lv_istore_n (lv' := [(1, .int 0), (0, .ref (g.2.2 0 0))]) hx hb dX0_weighPlaces_47 rfl hl (by decide) rfl (fun ls hl => ?_)
        have L48 : ∀ (k48 : Nat) (x1 : Int32) (S : mem), lp (b_X0_weighPlaces_48 n) k48 (x1, S) = some t23 → ∀ (H : Heap) (locs : List Loc) (ls : Array Slot), Wd ixC enC g S (Aw ixC g s.heap.size) s H locs → lv_has ls 3 [(0, .ref (g.2.2 0 0)), (1, .int x1)] → W p l e (rmD 2) s m args below meth c H locs 0 0 (MQ below (QvW ixC enC g s.heap.size q) args s 0 0 (Aw ixC g s.heap.size)) (F0 m 48 ls []) := by
          intro k48
          induction k48 with
          | zero => intro x1 S h; exact (lp_zero h).elim
          | succ k48 ih48 =>
            intro x1 S h H locs ls B hl
            obtain ⟨t48, h, ht48⟩ := lp_succ h
            unfold b_X0_weighPlaces_48 at h
            (try dsimp only at h)
            refine lv_iload_n hx hb dX0_weighPlaces_48 rfl (lv_at hl 1 rfl) ?_
            refine lv_aload_n hx hb dX0_weighPlaces_49 rfl (lv_at hl 0 rfl) ?_
            refine gt_X0_3 F B mF_X0_37 dX0_weighPlaces_50 ?_
            refine lv_icmp_ge (tgt := 102) hx hb dX0_weighPlaces_53 (by decide) (fun c4 => ?_) (fun c4 => ?_)
            · rw [if_pos c4] at h
              obtain rfl := Option.some.inj h
              obtain rfl := (show _ = t23 from ht48)
              obtain rfl := (show _ = q from ht23)
              exact w_vret F hr hlocks B dX0_weighPlaces_102
            · rw [if_neg c4] at h
              refine lv_iconst (v := 0) hx hb dX0_weighPlaces_56 (by decide) ?_
              refine lv_istore_n (lv' := [(2, .int 0), (0, .ref (g.2.2 0 0)), (1, .int x1)]) hx hb dX0_weighPlaces_57 rfl hl (by decide) rfl (fun ls hl => ?_)
              have L58 : ∀ (k58 : Nat) (x1 : Int32) (x2 : Int32) (S : mem), lp (b_X0_weighPlaces_58 n x1) k58 (x2, S) = some t48 → ∀ (H : Heap) (locs : List Loc) (ls : Array Slot), Wd ixC enC g S (Aw ixC g s.heap.size) s H locs → lv_has ls 3 [(0, .ref (g.2.2 0 0)), (1, .int x1), (2, .int x2)] → W p l e (rmD 2) s m args below meth c H locs 0 0 (MQ below (QvW ixC enC g s.heap.size q) args s 0 0 (Aw ixC g s.heap.size)) (F0 m 58 ls []) := by
                intro k58
                induction k58 with
                | zero => intro x1 x2 S h; exact (lp_zero h).elim
                | succ k58 ih58 =>
                  intro x1 x2 S h H locs ls B hl
                  obtain ⟨t58, h, ht58⟩ := lp_succ h
                  unfold b_X0_weighPlaces_58 at h
                  (try dsimp only at h)
                  refine lv_iload_n hx hb dX0_weighPlaces_58 rfl (lv_at hl 2 rfl) ?_
                  refine lv_aload_n hx hb dX0_weighPlaces_59 rfl (lv_at hl 0 rfl) ?_
                  refine gt_X0_1 F B mF_X0_15 dX0_weighPlaces_60 ?_
                  refine lv_iload_n hx hb dX0_weighPlaces_63 rfl (lv_at hl 1 rfl) ?_
                  obtain ⟨z5, h⟩ := grd_some h
                  refine al_C13 F B  z5 dX0_weighPlaces_64 ?_
                  refine lv_iadd hx hb dX0_weighPlaces_65 ?_
                  refine lv_aload_n hx hb dX0_weighPlaces_66 rfl (lv_at hl 0 rfl) ?_
                  refine gt_X0_5 F B mF_X0_40 dX0_weighPlaces_67 ?_
                  refine lv_iconst (v := 2) hx hb dX0_weighPlaces_70 (by decide) ?_
                  refine lv_iadd hx hb dX0_weighPlaces_71 ?_
                  refine lv_icmp_gt (tgt := 96) hx hb dX0_weighPlaces_72 (by decide) (fun c6 => ?_) (fun c6 => ?_)
                  · rw [if_pos c6] at h
                    refine lv_iinc (v := x1 + 1) (lv' := [(1, .int (x1 + 1)), (0, .ref (g.2.2 0 0)), (2, .int x2)]) hx hb dX0_weighPlaces_96 hl (k := 1) rfl rfl (by decide) rfl (fun ls hl => ?_)
                    refine lv_goto (tgt := 48) hx hb dX0_weighPlaces_99 (by decide) ?_
                    obtain rfl := Option.some.inj h
                    obtain rfl := (show _ = t48 from ht58)
                    exact ih48 (x1 + 1) S ht48 H locs ls B (lv_sub hl [1, 0] rfl)
                  · rw [if_neg c6] at h
                    refine lv_aload_n hx hb dX0_weighPlaces_75 rfl (lv_at hl 0 rfl) ?_
                    refine lv_iload_n hx hb dX0_weighPlaces_76 rfl (lv_at hl 1 rfl) ?_
                    refine lv_iload_n hx hb dX0_weighPlaces_77 rfl (lv_at hl 2 rfl) ?_
                    obtain ⟨q7, hq7, h⟩ := cal_some h
                    refine w_callVi F B (c_X0_standsAt l g n S H.size x1 x2 q7 hq7) mC_X0_standsAt mM_X0_57 mN_X0 mI_X0_standsAt mS_X0_standsAt ixC_0 rfl rfl ⟨ok_X0_standsAt, by decide⟩ rfl hl.1 rfl (Nat.le_of_ble_eq_true rfl) dX0_weighPlaces_78 (fun H locs B => ?_)
                    refine lv_if_eq (tgt := 90) hx hb dX0_weighPlaces_81 (by decide) (fun c8 => ?_) (fun c8 => ?_)
                    · rw [if_pos c8] at h
                      refine lv_iinc (v := x2 + 1) (lv' := [(2, .int (x2 + 1)), (0, .ref (g.2.2 0 0)), (1, .int x1)]) hx hb dX0_weighPlaces_90 hl (k := 2) rfl rfl (by decide) rfl (fun ls hl => ?_)
                      refine lv_goto (tgt := 58) hx hb dX0_weighPlaces_93 (by decide) ?_
                      obtain rfl := Option.some.inj h
                      exact ih58 x1 (x2 + 1) S ht58 H locs ls B (lv_sub hl [1, 2, 0] rfl)
                    · rw [if_neg c8] at h
                      refine lv_aload_n hx hb dX0_weighPlaces_84 rfl (lv_at hl 0 rfl) ?_
                      refine lv_iload_n hx hb dX0_weighPlaces_85 rfl (lv_at hl 1 rfl) ?_
                      refine lv_iload_n hx hb dX0_weighPlaces_86 rfl (lv_at hl 2 rfl) ?_
                      obtain ⟨q9, hq9, h⟩ := cal_some h
                      refine w_callVv F B (c_X0_raiseValues l g n S H.size x1 x2 q9 hq9) mC_X0_raiseValues mM_X0_61 mN_X0 mI_X0_raiseValues mS_X0_raiseValues ixC_0 rfl rfl ⟨ok_X0_raiseValues, by decide⟩ rfl hl.1 rfl (Nat.le_of_ble_eq_true rfl) dX0_weighPlaces_87 (fun H locs B => ?_)
                      refine lv_iinc (v := x2 + 1) (lv' := [(2, .int (x2 + 1)), (0, .ref (g.2.2 0 0)), (1, .int x1)]) hx hb dX0_weighPlaces_90 hl (k := 2) rfl rfl (by decide) rfl (fun ls hl => ?_)
                      refine lv_goto (tgt := 58) hx hb dX0_weighPlaces_93 (by decide) ?_
                      obtain rfl := Option.some.inj h
                      exact ih58 x1 (x2 + 1) q9 ht58 H locs ls B (lv_sub hl [1, 2, 0] rfl)
              exact L58 n x1 0 S h H locs ls B (lv_sub hl [1, 2, 0] rfl)
        exact L48 n 0 S h H locs ls B (lv_sub hl [1, 0] rfl)
      · rw [if_neg c3] at h
        refine lv_aload_n hx hb dX0_weighPlaces_33 rfl (lv_at hl 0 rfl) ?_
        refine gt_X0_6 F B mF_X0_24 dX0_weighPlaces_34 ?_
        refine lv_iload_n hx hb dX0_weighPlaces_37 rfl (lv_at hl 1 rfl) ?_
        refine lv_iconst (v := 0) hx hb dX0_weighPlaces_38 (by decide) ?_
        obtain ⟨z10, h⟩ := grd_some h
        refine as_C16 F B  z10 dX0_weighPlaces_39 (fun H locs B => ?_)
        refine lv_iinc (v := x1 + 1) (lv' := [(1, .int (x1 + 1)), (0, .ref (g.2.2 0 0))]) hx hb dX0_weighPlaces_40 hl (k := 1) rfl rfl (by decide) rfl (fun ls hl => ?_)
        refine lv_goto (tgt := 23) hx hb dX0_weighPlaces_43 (by decide) ?_
        obtain rfl := Option.some.inj h
        exact ih23 (x1 + 1) (mup S 16 0 (Int32.toNatClampNeg x1) 0) ht23 H locs ls B (lv_sub hl [1, 0] rfl)
  exact L23 n 0 (mup (mup S0 15 0 (Int32.toNatClampNeg 0) 27) 15 0 (Int32.toNatClampNeg ((S0 0 0 5) + 1)) 27) h H locs ls B (lv_sub hl [1, 0] rfl)
def b_X0_findCuts_14 (n : Nat) : (Int32 × mem) → Option ((Int32 × mem) ⊕ (Int32 × mem)) := fun w =>
if ((w.2 0 0 5) - (w.2 0 0 8)) < w.1 then (
some (.inr ((w.2 0 0 10, w.2)))) else (
grd (¬ (w.1 + 1 < 0 ∨ 27 ≤ Int32.toNatClampNeg (w.1 + 1))) (
if ((w.2 16 0 (Int32.toNatClampNeg (w.1 + 1))) - (w.2 16 0 (Int32.toNatClampNeg (w.1 + 1))) / 2 * 2) = 1 then (
grd (¬ (w.2 0 0 10 < 0 ∨ 24 ≤ Int32.toNatClampNeg (w.2 0 0 10))) (
some (.inl ((w.1 + 1), (mup (mup w.2 17 0 (Int32.toNatClampNeg (w.2 0 0 10)) w.1) 0 0 10 ((w.2 0 0 10) + 1)))))) else (
some (.inl ((w.1 + 1), w.2)))))
/-- private int findCuts() -/
def f_X0_findCuts (n : Nat) (S0 : mem) : Option (Int32 × mem) :=
cal (f_X0_weighPlaces n S0) fun q1 => (
lp (b_X0_findCuts_14 n ) n ((q1 0 0 7), (mup q1 0 0 10 0)))
set_option maxRecDepth 100000 in
set_option maxHeartbeats 4000000 in
theorem c_X0_findCuts (l : Launch) (g : cx) (n : Nat) (S0 : mem) (sz : Nat)  (q : Int32 × mem) (h : f_X0_findCuts n S0 = some q) : Met l yX0_findCuts (wsU yX0_findCuts cX0_findCuts 2 (some .int)) (rmD 3) (PcW ixC enC g S0 sz [.ref (g.2.2 0 0)]) (QiW ixC enC g sz q.1 q.2) 0 0 (Aw ixC g sz) := by
  refine met_intro (Qc := fun z9 => QiW ixC enC g z9 q.1 q.2) (free := fun z9 => Aw ixC g z9) [.ref (g.2.2 0 0)] RX0 rfl (by decide) (Nat.le_of_ble_eq_true rfl) (fun p e s m args below meth c H locs F hr hlocks B ls hl => ?_)
  have hl : lv_has ls 2 [(0, .ref (g.2.2 0 0))] := hl
  have hx := F.1
  have hb := F.2.1
  unfold f_X0_findCuts at h
  refine lv_aload_n hx hb dX0_findCuts_0 rfl (lv_at hl 0 rfl) ?_
  obtain ⟨q1, hq1, h⟩ := cal_some h
  refine w_callVv F B (c_X0_weighPlaces l g n S0 H.size  q1 hq1) mC_X0_weighPlaces mM_X0_54 mN_X0 mI_X0_weighPlaces mS_X0_weighPlaces ixC_0 rfl rfl ⟨ok_X0_weighPlaces, by decide⟩ rfl hl.1 rfl (Nat.le_of_ble_eq_true rfl) dX0_findCuts_1 (fun H locs B => ?_)
  refine lv_aload_n hx hb dX0_findCuts_4 rfl (lv_at hl 0 rfl) ?_
  refine lv_iconst (v := 0) hx hb dX0_findCuts_5 (by decide) ?_
  refine pt_X0_10 F B mF_X0_43 dX0_findCuts_6 (fun H locs B => ?_)
  refine lv_aload_n hx hb dX0_findCuts_9 rfl (lv_at hl 0 rfl) ?_
  refine gt_X0_7 F B mF_X0_27 dX0_findCuts_10 ?_
  refine w_cv (q1 0 0 7) (mup_j (by decide)) ?_
  refine lv_istore_n (lv' := [(1, .int (q1 0 0 7)), (0, .ref (g.2.2 0 0))]) hx hb dX0_findCuts_13 rfl hl (by decide) rfl (fun ls hl => ?_)
  have L14 : ∀ (k14 : Nat) (x1 : Int32) (S : mem), lp (b_X0_findCuts_14 n) k14 (x1, S) = some q → ∀ (H : Heap) (locs : List Loc) (ls : Array Slot), Wd ixC enC g S (Aw ixC g s.heap.size) s H locs → lv_has ls 2 [(0, .ref (g.2.2 0 0)), (1, .int x1)] → W p l e (rmD 3) s m args below meth c H locs 0 0 (MQ below (QiW ixC enC g s.heap.size q.1 q.2) args s 0 0 (Aw ixC g s.heap.size)) (F0 m 14 ls []) := by
    intro k14
    induction k14 with
    | zero => intro x1 S h; exact (lp_zero h).elim
    | succ k14 ih14 =>
      intro x1 S h H locs ls B hl
      obtain ⟨t14, h, ht14⟩ := lp_succ h
      unfold b_X0_findCuts_14 at h
      (try dsimp only at h)
      refine lv_iload_n hx hb dX0_findCuts_14 rfl (lv_at hl 1 rfl) ?_
      refine lv_aload_n hx hb dX0_findCuts_15 rfl (lv_at hl 0 rfl) ?_
      refine gt_X0_5 F B mF_X0_40 dX0_findCuts_16 ?_
      refine lv_aload_n hx hb dX0_findCuts_19 rfl (lv_at hl 0 rfl) ?_
      refine gt_X0_8 F B mF_X0_31 dX0_findCuts_20 ?_
      refine lv_isub hx hb dX0_findCuts_23 ?_
      refine lv_icmp_gt (tgt := 67) hx hb dX0_findCuts_24 (by decide) (fun c2 => ?_) (fun c2 => ?_)
      · rw [if_pos c2] at h
        refine lv_aload_n hx hb dX0_findCuts_67 rfl (lv_at hl 0 rfl) ?_
        refine gt_X0_10 F B mF_X0_43 dX0_findCuts_68 ?_
        obtain rfl := Option.some.inj h
        obtain rfl := (show _ = q from ht14)
        exact w_iret F hr hlocks B dX0_findCuts_71
      · rw [if_neg c2] at h
        refine lv_aload_n hx hb dX0_findCuts_27 rfl (lv_at hl 0 rfl) ?_
        refine gt_X0_6 F B mF_X0_24 dX0_findCuts_28 ?_
        refine lv_iload_n hx hb dX0_findCuts_31 rfl (lv_at hl 1 rfl) ?_
        refine lv_iconst (v := 1) hx hb dX0_findCuts_32 (by decide) ?_
        refine lv_iadd hx hb dX0_findCuts_33 ?_
        obtain ⟨z3, h⟩ := grd_some h
        refine al_C16 F B  z3 dX0_findCuts_34 ?_
        refine lv_iconst (v := 2) hx hb dX0_findCuts_35 (by decide) ?_
        refine lv_irem hx hb dX0_findCuts_36 (by decide) ?_
        refine lv_iconst (v := 1) hx hb dX0_findCuts_37 (by decide) ?_
        refine lv_icmp_ne (tgt := 61) hx hb dX0_findCuts_38 (by decide) (fun c4 => ?_) (fun c4 => ?_)
        · rw [if_neg c4] at h
          refine lv_iinc (v := x1 + 1) (lv' := [(1, .int (x1 + 1)), (0, .ref (g.2.2 0 0))]) hx hb dX0_findCuts_61 hl (k := 1) rfl rfl (by decide) rfl (fun ls hl => ?_)
          refine lv_goto (tgt := 14) hx hb dX0_findCuts_64 (by decide) ?_
          obtain rfl := Option.some.inj h
          exact ih14 (x1 + 1) S ht14 H locs ls B (lv_sub hl [1, 0] rfl)
        · rw [if_pos c4] at h
          refine lv_aload_n hx hb dX0_findCuts_41 rfl (lv_at hl 0 rfl) ?_
          refine gt_X0_9 F B mF_X0_34 dX0_findCuts_42 ?_
          refine lv_aload_n hx hb dX0_findCuts_45 rfl (lv_at hl 0 rfl) ?_
          refine gt_X0_10 F B mF_X0_43 dX0_findCuts_46 ?_
          refine lv_iload_n hx hb dX0_findCuts_49 rfl (lv_at hl 1 rfl) ?_
          obtain ⟨z5, h⟩ := grd_some h
          refine as_C17 F B  z5 dX0_findCuts_50 (fun H locs B => ?_)
          refine lv_aload_n hx hb dX0_findCuts_51 rfl (lv_at hl 0 rfl) ?_
          refine lv_dup hx hb dX0_findCuts_52 rfl ?_
          refine gt_X0_10 F B mF_X0_43 dX0_findCuts_53 ?_
          refine w_cv (S 0 0 10) (mup_k (by decide)) ?_
          refine lv_iconst (v := 1) hx hb dX0_findCuts_56 (by decide) ?_
          refine lv_iadd hx hb dX0_findCuts_57 ?_
          refine pt_X0_10 F B mF_X0_43 dX0_findCuts_58 (fun H locs B => ?_)
          refine lv_iinc (v := x1 + 1) (lv' := [(1, .int (x1 + 1)), (0, .ref (g.2.2 0 0))]) hx hb dX0_findCuts_61 hl (k := 1) rfl rfl (by decide) rfl (fun ls hl => ?_)
          refine lv_goto (tgt := 14) hx hb dX0_findCuts_64 (by decide) ?_
          obtain rfl := Option.some.inj h
          exact ih14 (x1 + 1) (mup (mup S 17 0 (Int32.toNatClampNeg (S 0 0 10)) x1) 0 0 10 ((S 0 0 10) + 1)) ht14 H locs ls B (lv_sub hl [1, 0] rfl)
  exact L14 n (q1 0 0 7) (mup q1 0 0 10 0) h H locs ls B (lv_sub hl [1, 0] rfl)
/-- public int cuts() -/
def f_X3_cuts (n : Nat) (S0 : mem) : Option (Int32 × mem) :=
cal (f_X0_findCuts n S0) fun q1 => (
some ((q1.1, q1.2)))
set_option maxRecDepth 100000 in
set_option maxHeartbeats 4000000 in
theorem c_X3_cuts (l : Launch) (g : cx) (n : Nat) (S0 : mem) (sz : Nat)  (q : Int32 × mem) (h : f_X3_cuts n S0 = some q) : Met l yX3_cuts (wsU yX3_cuts cX3_cuts 1 (some .int)) (rmD 4) (PcW ixC enC g S0 sz [.ref (g.2.2 3 0)]) (QiW ixC enC g sz q.1 q.2) 0 0 (Aw ixC g sz) := by
  refine met_intro (Qc := fun z9 => QiW ixC enC g z9 q.1 q.2) (free := fun z9 => Aw ixC g z9) [.ref (g.2.2 3 0)] RX3 rfl (by decide) (Nat.le_of_ble_eq_true rfl) (fun p e s m args below meth c H locs F hr hlocks B ls hl => ?_)
  have hl : lv_has ls 1 [(0, .ref (g.2.2 3 0))] := hl
  have hx := F.1
  have hb := F.2.1
  unfold f_X3_cuts at h
  refine lv_aload_n hx hb dX3_cuts_0 rfl (lv_at hl 0 rfl) ?_
  refine gt_X3_2 F B mF_X3_24 dX3_cuts_1 ?_
  obtain ⟨q1, hq1, h⟩ := cal_some h
  refine w_callNi F B (c_X0_findCuts l g n S0 H.size  q1 hq1) mC_X0_findCuts nM_X3_209 mN_X0 mI_X0_findCuts mS_X0_findCuts ixC_0 rfl rfl ⟨ok_X0_findCuts, by decide⟩ rfl hl.1 rfl (Nat.le_of_ble_eq_true rfl) dX3_cuts_4 (fun H locs B => ?_)
  obtain rfl := Option.some.inj h
  exact w_iret F hr hlocks B dX3_cuts_7
def b_X3_syllablesInAll_4 (n : Nat) (S0 : mem) : (Int32 × Int32) → Option ((Int32 × Int32) ⊕ (Int32)) := fun w =>
if 4 ≤ w.2 then (
some (.inr (w.1))) else (
grd (¬ (w.2 < 0 ∨ 4 ≤ Int32.toNatClampNeg w.2)) (
some (.inl ((w.1 + (S0 2 (Int32.toNatClampNeg w.2) 5)), (w.2 + 1)))))
/-- private int syllablesInAll() -/
def f_X3_syllablesInAll (n : Nat) (S0 : mem) : Option (Int32) :=
lp (b_X3_syllablesInAll_4 n S0) n (0, 0)
set_option maxRecDepth 100000 in
set_option maxHeartbeats 4000000 in
theorem c_X3_syllablesInAll (l : Launch) (g : cx) (n : Nat) (S0 : mem) (sz : Nat)  (q : Int32) (h : f_X3_syllablesInAll n S0 = some q) : Met l yX3_syllablesInAll (wsU yX3_syllablesInAll cX3_syllablesInAll 3 (some .int)) (rmD 0) (PcW ixC enC g S0 sz [.ref (g.2.2 3 0)]) (QiW ixC enC g sz q S0) 0 0 (Aw ixC g sz) := by
  refine met_intro (Qc := fun z9 => QiW ixC enC g z9 q S0) (free := fun z9 => Aw ixC g z9) [.ref (g.2.2 3 0)] RX3 rfl (by decide) (Nat.le_of_ble_eq_true rfl) (fun p e s m args below meth c H locs F hr hlocks B ls hl => ?_)
  have hl : lv_has ls 3 [(0, .ref (g.2.2 3 0))] := hl
  have hx := F.1
  have hb := F.2.1
  unfold f_X3_syllablesInAll at h
  refine lv_iconst (v := 0) hx hb dX3_syllablesInAll_0 (by decide) ?_
  refine lv_istore_n (lv' := [(1, .int 0), (0, .ref (g.2.2 3 0))]) hx hb dX3_syllablesInAll_1 rfl hl (by decide) rfl (fun ls hl => ?_)
  refine lv_iconst (v := 0) hx hb dX3_syllablesInAll_2 (by decide) ?_
  refine lv_istore_n (lv' := [(2, .int 0), (1, .int 0), (0, .ref (g.2.2 3 0))]) hx hb dX3_syllablesInAll_3 rfl hl (by decide) rfl (fun ls hl => ?_)
  have L4 : ∀ (k4 : Nat) (x1 : Int32) (x2 : Int32), lp (b_X3_syllablesInAll_4 n S0) k4 (x1, x2) = some q → ∀ (H : Heap) (locs : List Loc) (ls : Array Slot), Wd ixC enC g S0 (Aw ixC g s.heap.size) s H locs → lv_has ls 3 [(0, .ref (g.2.2 3 0)), (1, .int x1), (2, .int x2)] → W p l e (rmD 0) s m args below meth c H locs 0 0 (MQ below (QiW ixC enC g s.heap.size q S0) args s 0 0 (Aw ixC g s.heap.size)) (F0 m 4 ls []) := by
    intro k4
    induction k4 with
    | zero => intro x1 x2 h; exact (lp_zero h).elim
    | succ k4 ih4 =>
      intro x1 x2 h H locs ls B hl
      obtain ⟨t4, h, ht4⟩ := lp_succ h
      unfold b_X3_syllablesInAll_4 at h
      (try dsimp only at h)
      refine lv_iload_n hx hb dX3_syllablesInAll_4 rfl (lv_at hl 2 rfl) ?_
      refine lv_iconst (v := 4) hx hb dX3_syllablesInAll_5 (by decide) ?_
      refine lv_icmp_ge (tgt := 27) hx hb dX3_syllablesInAll_6 (by decide) (fun c1 => ?_) (fun c1 => ?_)
      · rw [if_pos c1] at h
        refine lv_iload_n hx hb dX3_syllablesInAll_27 rfl (lv_at hl 1 rfl) ?_
        obtain rfl := Option.some.inj h
        obtain rfl := (show _ = q from ht4)
        exact w_iret F hr hlocks B dX3_syllablesInAll_28
      · rw [if_neg c1] at h
        refine lv_iload_n hx hb dX3_syllablesInAll_9 rfl (lv_at hl 1 rfl) ?_
        refine lv_aload_n hx hb dX3_syllablesInAll_10 rfl (lv_at hl 0 rfl) ?_
        refine gt_X3_1 F B mF_X3_17 dX3_syllablesInAll_11 ?_
        refine lv_iload_n hx hb dX3_syllablesInAll_14 rfl (lv_at hl 2 rfl) ?_
        obtain ⟨z2, h⟩ := grd_some h
        refine al_C5 F B  z2 dX3_syllablesInAll_15 ?_
        refine gn_X2_5 F B (ltI z2) nF_X3_283 dX3_syllablesInAll_16 ?_
        refine lv_iadd hx hb dX3_syllablesInAll_19 ?_
        refine lv_istore_n (lv' := [(1, .int (x1 + (S0 2 (Int32.toNatClampNeg x2) 5))), (0, .ref (g.2.2 3 0)), (2, .int x2)]) hx hb dX3_syllablesInAll_20 rfl hl (by decide) rfl (fun ls hl => ?_)
        refine lv_iinc (v := x2 + 1) (lv' := [(2, .int (x2 + 1)), (1, .int (x1 + (S0 2 (Int32.toNatClampNeg x2) 5))), (0, .ref (g.2.2 3 0))]) hx hb dX3_syllablesInAll_21 hl (k := 2) rfl rfl (by decide) rfl (fun ls hl => ?_)
        refine lv_goto (tgt := 4) hx hb dX3_syllablesInAll_24 (by decide) ?_
        obtain rfl := Option.some.inj h
        exact ih4 (x1 + (S0 2 (Int32.toNatClampNeg x2) 5)) (x2 + 1) ht4 H locs ls B (lv_sub hl [2, 1, 0] rfl)
  exact L4 n 0 0 h H locs ls B (lv_sub hl [2, 1, 0] rfl)
def j_X3_chordsInAll_30 (n : Nat) (S0 : mem) (x2 : Int32) (y0 : Int32) (y1 : Int32) : Option ((Int32 × Int32) ⊕ (Int32)) :=
cal (f_X3_asNumber n S0 y1) fun q3 => (
some (.inl ((y0 + q3), (x2 + 1))))
def b_X3_chordsInAll_4 (n : Nat) (S0 : mem) : (Int32 × Int32) → Option ((Int32 × Int32) ⊕ (Int32)) := fun w =>
if (S0 3 0 4) ≤ w.2 then (
some (.inr (w.1))) else (
grd (¬ (w.2 < 0 ∨ 60 ≤ Int32.toNatClampNeg w.2)) (
if (S0 1 (Int32.toNatClampNeg w.2) 3) ≤ 0 then (
j_X3_chordsInAll_30 n S0 w.2 w.1 0) else (
j_X3_chordsInAll_30 n S0 w.2 w.1 1)))
/-- private int chordsInAll() -/
def f_X3_chordsInAll (n : Nat) (S0 : mem) : Option (Int32) :=
lp (b_X3_chordsInAll_4 n S0) n (0, 0)
set_option maxRecDepth 100000 in
set_option maxHeartbeats 4000000 in
theorem c_X3_chordsInAll (l : Launch) (g : cx) (n : Nat) (S0 : mem) (sz : Nat)  (q : Int32) (h : f_X3_chordsInAll n S0 = some q) : Met l yX3_chordsInAll (wsU yX3_chordsInAll cX3_chordsInAll 3 (some .int)) (rmD 1) (PcW ixC enC g S0 sz [.ref (g.2.2 3 0)]) (QiW ixC enC g sz q S0) 0 0 (Aw ixC g sz) := by
  refine met_intro (Qc := fun z9 => QiW ixC enC g z9 q S0) (free := fun z9 => Aw ixC g z9) [.ref (g.2.2 3 0)] RX3 rfl (by decide) (Nat.le_of_ble_eq_true rfl) (fun p e s m args below meth c H locs F hr hlocks B ls hl => ?_)
  have hl : lv_has ls 3 [(0, .ref (g.2.2 3 0))] := hl
  have hx := F.1
  have hb := F.2.1
  unfold f_X3_chordsInAll at h
  refine lv_iconst (v := 0) hx hb dX3_chordsInAll_0 (by decide) ?_
  refine lv_istore_n (lv' := [(1, .int 0), (0, .ref (g.2.2 3 0))]) hx hb dX3_chordsInAll_1 rfl hl (by decide) rfl (fun ls hl => ?_)
  refine lv_iconst (v := 0) hx hb dX3_chordsInAll_2 (by decide) ?_
  refine lv_istore_n (lv' := [(2, .int 0), (1, .int 0), (0, .ref (g.2.2 3 0))]) hx hb dX3_chordsInAll_3 rfl hl (by decide) rfl (fun ls hl => ?_)
  have L4 : ∀ (k4 : Nat) (x1 : Int32) (x2 : Int32), lp (b_X3_chordsInAll_4 n S0) k4 (x1, x2) = some q → ∀ (H : Heap) (locs : List Loc) (ls : Array Slot), Wd ixC enC g S0 (Aw ixC g s.heap.size) s H locs → lv_has ls 3 [(0, .ref (g.2.2 3 0)), (1, .int x1), (2, .int x2)] → W p l e (rmD 1) s m args below meth c H locs 0 0 (MQ below (QiW ixC enC g s.heap.size q S0) args s 0 0 (Aw ixC g s.heap.size)) (F0 m 4 ls []) := by
    intro k4
    induction k4 with
    | zero => intro x1 x2 h; exact (lp_zero h).elim
    | succ k4 ih4 =>
      intro x1 x2 h H locs ls B hl
      obtain ⟨t4, h, ht4⟩ := lp_succ h
      unfold b_X3_chordsInAll_4 at h
      (try dsimp only at h)
      refine lv_iload_n hx hb dX3_chordsInAll_4 rfl (lv_at hl 2 rfl) ?_
      refine lv_aload_n hx hb dX3_chordsInAll_5 rfl (lv_at hl 0 rfl) ?_
      refine gt_X3_4 F B mF_X3_43 dX3_chordsInAll_6 ?_
      refine lv_icmp_ge (tgt := 41) hx hb dX3_chordsInAll_9 (by decide) (fun c1 => ?_) (fun c1 => ?_)
      · rw [if_pos c1] at h
        refine lv_iload_n hx hb dX3_chordsInAll_41 rfl (lv_at hl 1 rfl) ?_
        obtain rfl := Option.some.inj h
        obtain rfl := (show _ = q from ht4)
        exact w_iret F hr hlocks B dX3_chordsInAll_42
      · rw [if_neg c1] at h
        refine lv_iload_n hx hb dX3_chordsInAll_12 rfl (lv_at hl 1 rfl) ?_
        refine lv_aload_n hx hb dX3_chordsInAll_13 rfl (lv_at hl 0 rfl) ?_
        refine gt_X3_0 F B mF_X3_11 dX3_chordsInAll_14 ?_
        refine lv_iload_n hx hb dX3_chordsInAll_17 rfl (lv_at hl 2 rfl) ?_
        obtain ⟨z2, h⟩ := grd_some h
        refine al_C4 F B  z2 dX3_chordsInAll_18 ?_
        refine gn_X1_3 F B (ltI z2) nF_X3_79 dX3_chordsInAll_19 ?_
        have J30 : ∀ (x2 : Int32) (y0 : Int32) (y1 : Int32), j_X3_chordsInAll_30 n S0 x2 y0 y1 = some t4 → ∀ (H : Heap) (locs : List Loc) (ls : Array Slot), Wd ixC enC g S0 (Aw ixC g s.heap.size) s H locs → lv_has ls 3 [(0, .ref (g.2.2 3 0)), (2, .int x2)] → W p l e (rmD 1) s m args below meth c H locs 0 0 (MQ below (QiW ixC enC g s.heap.size q S0) args s 0 0 (Aw ixC g s.heap.size)) (F0 m 30 ls [.int y1, .int y0]) := by
          intro x2 y0 y1 h H locs ls B hl
          unfold j_X3_chordsInAll_30 at h
          obtain ⟨q3, hq3, h⟩ := cal_some h
          refine w_callSi F B (c_X3_asNumber l g n S0 H.size y1 q3 hq3) mC_X3_asNumber mM_X3_109 mN_X3 mT_X3_asNumber ⟨ok_X3_asNumber, by decide⟩ rfl hl.1 rfl (Nat.le_of_ble_eq_true rfl) dX3_chordsInAll_30 (fun H locs B => ?_)
          refine lv_iadd hx hb dX3_chordsInAll_33 ?_
          refine lv_istore_n (lv' := [(1, .int (y0 + q3)), (0, .ref (g.2.2 3 0)), (2, .int x2)]) hx hb dX3_chordsInAll_34 rfl hl (by decide) rfl (fun ls hl => ?_)
          refine lv_iinc (v := x2 + 1) (lv' := [(2, .int (x2 + 1)), (1, .int (y0 + q3)), (0, .ref (g.2.2 3 0))]) hx hb dX3_chordsInAll_35 hl (k := 2) rfl rfl (by decide) rfl (fun ls hl => ?_)
          refine lv_goto (tgt := 4) hx hb dX3_chordsInAll_38 (by decide) ?_
          obtain rfl := Option.some.inj h
          exact ih4 (y0 + q3) (x2 + 1) ht4 H locs ls B (lv_sub hl [2, 1, 0] rfl)
        refine lv_if_le (tgt := 29) hx hb dX3_chordsInAll_22 (by decide) (fun c4 => ?_) (fun c4 => ?_)
        · rw [if_pos c4] at h
          refine lv_iconst (v := 0) hx hb dX3_chordsInAll_29 (by decide) ?_
          exact J30 x2 x1 0 h H locs ls B (lv_sub hl [0, 2] rfl)
        · rw [if_neg c4] at h
          refine lv_iconst (v := 1) hx hb dX3_chordsInAll_25 (by decide) ?_
          refine lv_goto (tgt := 30) hx hb dX3_chordsInAll_26 (by decide) ?_
          exact J30 x2 x1 1 h H locs ls B (lv_sub hl [0, 2] rfl)
  exact L4 n 0 0 h H locs ls B (lv_sub hl [2, 1, 0] rfl)
/-- public int told(int) -/
def f_X3_told (n : Nat) (S0 : mem) (x1 : Int32) : Option (Int32) :=
if x1 = 0 then (
some (S0 3 0 4)) else (
if x1 = 1 then (
cal (f_X3_syllablesInAll n S0) fun q3 => (
some (q3))) else (
if x1 = 2 then (
some (S0 3 0 5)) else (
if x1 = 3 then (
some (S0 3 0 6)) else (
if x1 = 4 then (
some (S0 0 0 3)) else (
if x1 = 5 then (
some (S0 0 0 5)) else (
if x1 = 6 then (
cal (f_X3_chordsInAll n S0) fun q9 => (
some (q9))) else (
if x1 = 7 then (
cal (f_X3_asNumber n S0 (S0 3 0 8)) fun q11 => (
some (q11))) else (
some (-1000002)))))))))
set_option maxRecDepth 100000 in
set_option maxHeartbeats 4000000 in
theorem c_X3_told (l : Launch) (g : cx) (n : Nat) (S0 : mem) (sz : Nat) (x1 : Int32) (q : Int32) (h : f_X3_told n S0 x1 = some q) : Met l yX3_told (wsU yX3_told cX3_told 2 (some .int)) (rmD 2) (PcW ixC enC g S0 sz [.ref (g.2.2 3 0), .int x1]) (QiW ixC enC g sz q S0) 0 0 (Aw ixC g sz) := by
  refine met_intro (Qc := fun z9 => QiW ixC enC g z9 q S0) (free := fun z9 => Aw ixC g z9) [.ref (g.2.2 3 0), .int x1] RX3 rfl (by decide) (Nat.le_of_ble_eq_true rfl) (fun p e s m args below meth c H locs F hr hlocks B ls hl => ?_)
  have hl : lv_has ls 2 [(0, .ref (g.2.2 3 0)), (1, .int x1)] := hl
  have hx := F.1
  have hb := F.2.1
  unfold f_X3_told at h
  refine lv_iload_n hx hb dX3_told_0 rfl (lv_at hl 1 rfl) ?_
  by_cases c1 : x1 = 0
  · rw [if_pos c1] at h
    refine lv_tableIn (tgt := 48) hx hb dX3_told_1 (by rw [c1]; decide) (by rw [c1]; decide) (by rw [c1]; rfl) (by decide) ?_
    refine lv_aload_n hx hb dX3_told_48 rfl (lv_at hl 0 rfl) ?_
    refine gt_X3_4 F B mF_X3_43 dX3_told_49 ?_
    obtain rfl := Option.some.inj h
    exact w_iret F hr hlocks B dX3_told_52
  · rw [if_neg c1] at h
    by_cases c2 : x1 = 1
    · rw [if_pos c2] at h
      refine lv_tableIn (tgt := 53) hx hb dX3_told_1 (by rw [c2]; decide) (by rw [c2]; decide) (by rw [c2]; rfl) (by decide) ?_
      refine lv_aload_n hx hb dX3_told_53 rfl (lv_at hl 0 rfl) ?_
      obtain ⟨q3, hq3, h⟩ := cal_some h
      refine w_callVi F B (c_X3_syllablesInAll l g n S0 H.size  q3 hq3) mC_X3_syllablesInAll mM_X3_220 mN_X3 mI_X3_syllablesInAll mS_X3_syllablesInAll ixC_3 rfl rfl ⟨ok_X3_syllablesInAll, by decide⟩ rfl hl.1 rfl (Nat.le_of_ble_eq_true rfl) dX3_told_54 (fun H locs B => ?_)
      obtain rfl := Option.some.inj h
      exact w_iret F hr hlocks B dX3_told_57
    · rw [if_neg c2] at h
      by_cases c4 : x1 = 2
      · rw [if_pos c4] at h
        refine lv_tableIn (tgt := 58) hx hb dX3_told_1 (by rw [c4]; decide) (by rw [c4]; decide) (by rw [c4]; rfl) (by decide) ?_
        refine lv_aload_n hx hb dX3_told_58 rfl (lv_at hl 0 rfl) ?_
        refine gt_X3_5 F B mF_X3_91 dX3_told_59 ?_
        obtain rfl := Option.some.inj h
        exact w_iret F hr hlocks B dX3_told_62
      · rw [if_neg c4] at h
        by_cases c5 : x1 = 3
        · rw [if_pos c5] at h
          refine lv_tableIn (tgt := 63) hx hb dX3_told_1 (by rw [c5]; decide) (by rw [c5]; decide) (by rw [c5]; rfl) (by decide) ?_
          refine lv_aload_n hx hb dX3_told_63 rfl (lv_at hl 0 rfl) ?_
          refine gt_X3_6 F B mF_X3_97 dX3_told_64 ?_
          obtain rfl := Option.some.inj h
          exact w_iret F hr hlocks B dX3_told_67
        · rw [if_neg c5] at h
          by_cases c6 : x1 = 4
          · rw [if_pos c6] at h
            refine lv_tableIn (tgt := 68) hx hb dX3_told_1 (by rw [c6]; decide) (by rw [c6]; decide) (by rw [c6]; rfl) (by decide) ?_
            refine lv_aload_n hx hb dX3_told_68 rfl (lv_at hl 0 rfl) ?_
            refine gt_X3_2 F B mF_X3_24 dX3_told_69 ?_
            refine gn_X0_3 F B nF_X3_190 dX3_told_72 ?_
            obtain rfl := Option.some.inj h
            exact w_iret F hr hlocks B dX3_told_75
          · rw [if_neg c6] at h
            by_cases c7 : x1 = 5
            · rw [if_pos c7] at h
              refine lv_tableIn (tgt := 76) hx hb dX3_told_1 (by rw [c7]; decide) (by rw [c7]; decide) (by rw [c7]; rfl) (by decide) ?_
              refine lv_aload_n hx hb dX3_told_76 rfl (lv_at hl 0 rfl) ?_
              refine gt_X3_2 F B mF_X3_24 dX3_told_77 ?_
              refine gn_X0_5 F B nF_X3_197 dX3_told_80 ?_
              obtain rfl := Option.some.inj h
              exact w_iret F hr hlocks B dX3_told_83
            · rw [if_neg c7] at h
              by_cases c8 : x1 = 6
              · rw [if_pos c8] at h
                refine lv_tableIn (tgt := 84) hx hb dX3_told_1 (by rw [c8]; decide) (by rw [c8]; decide) (by rw [c8]; rfl) (by decide) ?_
                refine lv_aload_n hx hb dX3_told_84 rfl (lv_at hl 0 rfl) ?_
                obtain ⟨q9, hq9, h⟩ := cal_some h
                refine w_callVi F B (c_X3_chordsInAll l g n S0 H.size  q9 hq9) mC_X3_chordsInAll mM_X3_223 mN_X3 mI_X3_chordsInAll mS_X3_chordsInAll ixC_3 rfl rfl ⟨ok_X3_chordsInAll, by decide⟩ rfl hl.1 rfl (Nat.le_of_ble_eq_true rfl) dX3_told_85 (fun H locs B => ?_)
                obtain rfl := Option.some.inj h
                exact w_iret F hr hlocks B dX3_told_88
              · rw [if_neg c8] at h
                by_cases c10 : x1 = 7
                · rw [if_pos c10] at h
                  refine lv_tableIn (tgt := 89) hx hb dX3_told_1 (by rw [c10]; decide) (by rw [c10]; decide) (by rw [c10]; rfl) (by decide) ?_
                  refine lv_aload_n hx hb dX3_told_89 rfl (lv_at hl 0 rfl) ?_
                  refine gt_X3_8 F B mF_X3_51 dX3_told_90 ?_
                  obtain ⟨q11, hq11, h⟩ := cal_some h
                  refine w_callSi F B (c_X3_asNumber l g n S0 H.size (S0 3 0 8) q11 hq11) mC_X3_asNumber mM_X3_109 mN_X3 mT_X3_asNumber ⟨ok_X3_asNumber, by decide⟩ rfl hl.1 rfl (Nat.le_of_ble_eq_true rfl) dX3_told_93 (fun H locs B => ?_)
                  obtain rfl := Option.some.inj h
                  exact w_iret F hr hlocks B dX3_told_96
                · rw [if_neg c10] at h
                  refine lv_tableOut (tgt := 97) hx hb dX3_told_1 (sw_out (fun z h1 h2 => by rcases (show z = 0 ∨ z = 1 ∨ z = 2 ∨ z = 3 ∨ z = 4 ∨ z = 5 ∨ z = 6 ∨ z = 7 by omega) with rfl | rfl | rfl | rfl | rfl | rfl | rfl | rfl <;> first | exact c1 | exact c2 | exact c4 | exact c5 | exact c6 | exact c7 | exact c8 | exact c10)) (by decide) ?_
                  refine lv_ldc (v := -1000002) hx hb F.2.2.2.1 (F.2.2.2.2 _ (wsU_in mK_X3_42)) dX3_told_97 ?_
                  obtain rfl := Option.some.inj h
                  exact w_iret F hr hlocks B dX3_told_99
def b_X2_empty_2 (n : Nat) (i0 : Nat) : (Int32 × mem) → Option ((Int32 × mem) ⊕ (mem)) := fun w =>
if 60 ≤ w.1 then (
some (.inr (mup (mup (mup w.2 2 i0 5 0) 2 i0 6 0) 2 i0 7 0))) else (
grd (¬ (w.1 < 0 ∨ 60 ≤ Int32.toNatClampNeg w.1)) (
some (.inl ((w.1 + 1), (mup w.2 7 i0 (Int32.toNatClampNeg w.1) 0)))))
/-- private void empty() -/
def f_X2_empty (n : Nat) (S0 : mem) (i0 : Nat) : Option (mem) :=
lp (b_X2_empty_2 n i0) n (0, S0)
set_option maxRecDepth 100000 in
set_option maxHeartbeats 4000000 in
theorem c_X2_empty (l : Launch) (g : cx) (n : Nat) (S0 : mem) (sz : Nat) (i0 : Nat) (hi0 : i0 < 4) (q : mem) (h : f_X2_empty n S0 i0 = some q) : Met l yX2_empty (wsU yX2_empty cX2_empty 2 none) (rmD 0) (PcW ixC enC g S0 sz [.ref (g.2.2 2 i0)]) (QvW ixC enC g sz q) 0 0 (Aw ixC g sz) := by
  refine met_intro (Qc := fun z9 => QvW ixC enC g z9 q) (free := fun z9 => Aw ixC g z9) [.ref (g.2.2 2 i0)] RX2 rfl (by decide) (Nat.le_of_ble_eq_true rfl) (fun p e s m args below meth c H locs F hr hlocks B ls hl => ?_)
  have hl : lv_has ls 2 [(0, .ref (g.2.2 2 i0))] := hl
  have hx := F.1
  have hb := F.2.1
  unfold f_X2_empty at h
  refine lv_iconst (v := 0) hx hb dX2_empty_0 (by decide) ?_
  refine lv_istore_n (lv' := [(1, .int 0), (0, .ref (g.2.2 2 i0))]) hx hb dX2_empty_1 rfl hl (by decide) rfl (fun ls hl => ?_)
  have L2 : ∀ (k2 : Nat) (i0 : Nat) (hi0 : i0 < 4) (x1 : Int32) (S : mem), lp (b_X2_empty_2 n i0) k2 (x1, S) = some q → ∀ (H : Heap) (locs : List Loc) (ls : Array Slot), Wd ixC enC g S (Aw ixC g s.heap.size) s H locs → lv_has ls 2 [(0, .ref (g.2.2 2 i0)), (1, .int x1)] → W p l e (rmD 0) s m args below meth c H locs 0 0 (MQ below (QvW ixC enC g s.heap.size q) args s 0 0 (Aw ixC g s.heap.size)) (F0 m 2 ls []) := by
    intro k2
    induction k2 with
    | zero => intro i0 hi0 x1 S h; exact (lp_zero h).elim
    | succ k2 ih2 =>
      intro i0 hi0 x1 S h H locs ls B hl
      obtain ⟨t2, h, ht2⟩ := lp_succ h
      unfold b_X2_empty_2 at h
      (try dsimp only at h)
      refine lv_iload_n hx hb dX2_empty_2 rfl (lv_at hl 1 rfl) ?_
      refine lv_bipush (v := 60) hx hb dX2_empty_3 (by decide) ?_
      refine lv_icmp_ge (tgt := 21) hx hb dX2_empty_5 (by decide) (fun c1 => ?_) (fun c1 => ?_)
      · rw [if_pos c1] at h
        refine lv_aload_n hx hb dX2_empty_21 rfl (lv_at hl 0 rfl) ?_
        refine lv_iconst (v := 0) hx hb dX2_empty_22 (by decide) ?_
        refine pt_X2_5 F B hi0 mF_X2_32 dX2_empty_23 (fun H locs B => ?_)
        refine lv_aload_n hx hb dX2_empty_26 rfl (lv_at hl 0 rfl) ?_
        refine lv_iconst (v := 0) hx hb dX2_empty_27 (by decide) ?_
        refine pt_X2_6 F B hi0 mF_X2_28 dX2_empty_28 (fun H locs B => ?_)
        refine lv_aload_n hx hb dX2_empty_31 rfl (lv_at hl 0 rfl) ?_
        refine lv_iconst (v := 0) hx hb dX2_empty_32 (by decide) ?_
        refine pt_X2_7 F B hi0 (Or.inl rfl) mF_X2_35 dX2_empty_33 (fun H locs B => ?_)
        obtain rfl := Option.some.inj h
        obtain rfl := (show _ = q from ht2)
        exact w_vret F hr hlocks B dX2_empty_36
      · rw [if_neg c1] at h
        refine lv_aload_n hx hb dX2_empty_8 rfl (lv_at hl 0 rfl) ?_
        refine gt_X2_0 F B hi0 mF_X2_9 dX2_empty_9 ?_
        refine lv_iload_n hx hb dX2_empty_12 rfl (lv_at hl 1 rfl) ?_
        refine lv_iconst (v := 0) hx hb dX2_empty_13 (by decide) ?_
        obtain ⟨z2, h⟩ := grd_some h
        refine as_C7 F B (ixC_7 hi0) z2 dX2_empty_14 (fun H locs B => ?_)
        refine lv_iinc (v := x1 + 1) (lv' := [(1, .int (x1 + 1)), (0, .ref (g.2.2 2 i0))]) hx hb dX2_empty_15 hl (k := 1) rfl rfl (by decide) rfl (fun ls hl => ?_)
        refine lv_goto (tgt := 2) hx hb dX2_empty_18 (by decide) ?_
        obtain rfl := Option.some.inj h
        exact ih2 i0 hi0 (x1 + 1) (mup S 7 i0 (Int32.toNatClampNeg x1) 0) ht2 H locs ls B (lv_sub hl [1, 0] rfl)
  exact L2 n i0 hi0 0 S0 h H locs ls B (lv_sub hl [1, 0] rfl)
/-- private void empty() -/
def f_X0_empty (n : Nat) (S0 : mem) : Option (mem) :=
some (mup (mup (mup (mup (mup S0 0 0 3 0) 0 0 5 0) 0 0 7 2) 0 0 8 3) 0 0 10 0)
set_option maxRecDepth 100000 in
set_option maxHeartbeats 4000000 in
theorem c_X0_empty (l : Launch) (g : cx) (n : Nat) (S0 : mem) (sz : Nat)  (q : mem) (h : f_X0_empty n S0 = some q) : Met l yX0_empty (wsU yX0_empty cX0_empty 1 none) (rmD 0) (PcW ixC enC g S0 sz [.ref (g.2.2 0 0)]) (QvW ixC enC g sz q) 0 0 (Aw ixC g sz) := by
  refine met_intro (Qc := fun z9 => QvW ixC enC g z9 q) (free := fun z9 => Aw ixC g z9) [.ref (g.2.2 0 0)] RX0 rfl (by decide) (Nat.le_of_ble_eq_true rfl) (fun p e s m args below meth c H locs F hr hlocks B ls hl => ?_)
  have hl : lv_has ls 1 [(0, .ref (g.2.2 0 0))] := hl
  have hx := F.1
  have hb := F.2.1
  unfold f_X0_empty at h
  refine lv_aload_n hx hb dX0_empty_0 rfl (lv_at hl 0 rfl) ?_
  refine lv_iconst (v := 0) hx hb dX0_empty_1 (by decide) ?_
  refine pt_X0_3 F B mF_X0_37 dX0_empty_2 (fun H locs B => ?_)
  refine lv_aload_n hx hb dX0_empty_5 rfl (lv_at hl 0 rfl) ?_
  refine lv_iconst (v := 0) hx hb dX0_empty_6 (by decide) ?_
  refine pt_X0_5 F B mF_X0_40 dX0_empty_7 (fun H locs B => ?_)
  refine lv_aload_n hx hb dX0_empty_10 rfl (lv_at hl 0 rfl) ?_
  refine lv_iconst (v := 2) hx hb dX0_empty_11 (by decide) ?_
  refine pt_X0_7 F B mF_X0_27 dX0_empty_12 (fun H locs B => ?_)
  refine lv_aload_n hx hb dX0_empty_15 rfl (lv_at hl 0 rfl) ?_
  refine lv_iconst (v := 3) hx hb dX0_empty_16 (by decide) ?_
  refine pt_X0_8 F B mF_X0_31 dX0_empty_17 (fun H locs B => ?_)
  refine lv_aload_n hx hb dX0_empty_20 rfl (lv_at hl 0 rfl) ?_
  refine lv_iconst (v := 0) hx hb dX0_empty_21 (by decide) ?_
  refine pt_X0_10 F B mF_X0_43 dX0_empty_22 (fun H locs B => ?_)
  obtain rfl := Option.some.inj h
  exact w_vret F hr hlocks B dX0_empty_25
def b_X3_clear_7 (n : Nat) (x1 : Int32) : (Int32 × mem) → Option ((Int32 × mem) ⊕ (Int32 × mem)) := fun w =>
if 4 ≤ w.1 then (
cal (f_X0_empty n w.2) fun q2 => (
some (.inr ((x1, mup (mup (mup (mup (mup q2 3 0 4 0) 3 0 5 0) 3 0 6 0) 3 0 7 2000) 3 0 8 0))))) else (
grd (¬ (w.1 < 0 ∨ 4 ≤ Int32.toNatClampNeg w.1)) (
cal (f_X2_empty n w.2 (Int32.toNatClampNeg w.1)) fun q4 => (
some (.inl ((w.1 + 1), q4)))))
/-- public int clear() -/
def f_X3_clear (n : Nat) (S0 : mem) : Option (Int32 × mem) :=
lp (b_X3_clear_7 n (S0 3 0 4)) n (0, S0)
set_option maxRecDepth 100000 in
set_option maxHeartbeats 4000000 in
theorem c_X3_clear (l : Launch) (g : cx) (n : Nat) (S0 : mem) (sz : Nat)  (q : Int32 × mem) (h : f_X3_clear n S0 = some q) : Met l yX3_clear (wsU yX3_clear cX3_clear 3 (some .int)) (rmD 1) (PcW ixC enC g S0 sz [.ref (g.2.2 3 0)]) (QiW ixC enC g sz q.1 q.2) 0 0 (Aw ixC g sz) := by
  refine met_intro (Qc := fun z9 => QiW ixC enC g z9 q.1 q.2) (free := fun z9 => Aw ixC g z9) [.ref (g.2.2 3 0)] RX3 rfl (by decide) (Nat.le_of_ble_eq_true rfl) (fun p e s m args below meth c H locs F hr hlocks B ls hl => ?_)
  have hl : lv_has ls 3 [(0, .ref (g.2.2 3 0))] := hl
  have hx := F.1
  have hb := F.2.1
  unfold f_X3_clear at h
  refine lv_aload_n hx hb dX3_clear_0 rfl (lv_at hl 0 rfl) ?_
  refine gt_X3_4 F B mF_X3_43 dX3_clear_1 ?_
  refine lv_istore_n (lv' := [(1, .int (S0 3 0 4)), (0, .ref (g.2.2 3 0))]) hx hb dX3_clear_4 rfl hl (by decide) rfl (fun ls hl => ?_)
  refine lv_iconst (v := 0) hx hb dX3_clear_5 (by decide) ?_
  refine lv_istore_n (lv' := [(2, .int 0), (1, .int (S0 3 0 4)), (0, .ref (g.2.2 3 0))]) hx hb dX3_clear_6 rfl hl (by decide) rfl (fun ls hl => ?_)
  have L7 : ∀ (k7 : Nat) (x1 : Int32) (x2 : Int32) (S : mem), lp (b_X3_clear_7 n x1) k7 (x2, S) = some q → ∀ (H : Heap) (locs : List Loc) (ls : Array Slot), Wd ixC enC g S (Aw ixC g s.heap.size) s H locs → lv_has ls 3 [(0, .ref (g.2.2 3 0)), (1, .int x1), (2, .int x2)] → W p l e (rmD 1) s m args below meth c H locs 0 0 (MQ below (QiW ixC enC g s.heap.size q.1 q.2) args s 0 0 (Aw ixC g s.heap.size)) (F0 m 7 ls []) := by
    intro k7
    induction k7 with
    | zero => intro x1 x2 S h; exact (lp_zero h).elim
    | succ k7 ih7 =>
      intro x1 x2 S h H locs ls B hl
      obtain ⟨t7, h, ht7⟩ := lp_succ h
      unfold b_X3_clear_7 at h
      (try dsimp only at h)
      refine lv_iload_n hx hb dX3_clear_7 rfl (lv_at hl 2 rfl) ?_
      refine lv_iconst (v := 4) hx hb dX3_clear_8 (by decide) ?_
      refine lv_icmp_ge (tgt := 27) hx hb dX3_clear_9 (by decide) (fun c1 => ?_) (fun c1 => ?_)
      · rw [if_pos c1] at h
        refine lv_aload_n hx hb dX3_clear_27 rfl (lv_at hl 0 rfl) ?_
        refine gt_X3_2 F B mF_X3_24 dX3_clear_28 ?_
        obtain ⟨q2, hq2, h⟩ := cal_some h
        refine w_callNv F B (c_X0_empty l g n S H.size  q2 hq2) mC_X0_empty nM_X3_229 mN_X0 mI_X0_empty mS_X0_empty ixC_0 rfl rfl ⟨ok_X0_empty, by decide⟩ rfl hl.1 rfl (Nat.le_of_ble_eq_true rfl) dX3_clear_31 (fun H locs B => ?_)
        refine lv_aload_n hx hb dX3_clear_34 rfl (lv_at hl 0 rfl) ?_
        refine lv_iconst (v := 0) hx hb dX3_clear_35 (by decide) ?_
        refine pt_X3_4 F B mF_X3_43 dX3_clear_36 (fun H locs B => ?_)
        refine lv_aload_n hx hb dX3_clear_39 rfl (lv_at hl 0 rfl) ?_
        refine lv_iconst (v := 0) hx hb dX3_clear_40 (by decide) ?_
        refine pt_X3_5 F B mF_X3_91 dX3_clear_41 (fun H locs B => ?_)
        refine lv_aload_n hx hb dX3_clear_44 rfl (lv_at hl 0 rfl) ?_
        refine lv_iconst (v := 0) hx hb dX3_clear_45 (by decide) ?_
        refine pt_X3_6 F B mF_X3_97 dX3_clear_46 (fun H locs B => ?_)
        refine lv_aload_n hx hb dX3_clear_49 rfl (lv_at hl 0 rfl) ?_
        refine lv_sipush (v := 2000) hx hb dX3_clear_50 (by decide) ?_
        refine pt_X3_7 F B mF_X3_32 dX3_clear_53 (fun H locs B => ?_)
        refine lv_aload_n hx hb dX3_clear_56 rfl (lv_at hl 0 rfl) ?_
        refine lv_iconst (v := 0) hx hb dX3_clear_57 (by decide) ?_
        refine pt_X3_8 F B (Or.inl rfl) mF_X3_51 dX3_clear_58 (fun H locs B => ?_)
        refine lv_iload_n hx hb dX3_clear_61 rfl (lv_at hl 1 rfl) ?_
        obtain rfl := Option.some.inj h
        obtain rfl := (show _ = q from ht7)
        exact w_iret F hr hlocks B dX3_clear_62
      · rw [if_neg c1] at h
        refine lv_aload_n hx hb dX3_clear_12 rfl (lv_at hl 0 rfl) ?_
        refine gt_X3_1 F B mF_X3_17 dX3_clear_13 ?_
        refine lv_iload_n hx hb dX3_clear_16 rfl (lv_at hl 2 rfl) ?_
        obtain ⟨z3, h⟩ := grd_some h
        refine al_C5 F B  z3 dX3_clear_17 ?_
        obtain ⟨q4, hq4, h⟩ := cal_some h
        refine w_callNv F B (c_X2_empty l g n S H.size (Int32.toNatClampNeg x2) (ltI z3) q4 hq4) mC_X2_empty nM_X3_226 mN_X2 mI_X2_empty mS_X2_empty (ixC_2 (ltI z3)) rfl rfl ⟨ok_X2_empty, by decide⟩ rfl hl.1 rfl (Nat.le_of_ble_eq_true rfl) dX3_clear_18 (fun H locs B => ?_)
        refine lv_iinc (v := x2 + 1) (lv' := [(2, .int (x2 + 1)), (0, .ref (g.2.2 3 0)), (1, .int x1)]) hx hb dX3_clear_21 hl (k := 2) rfl rfl (by decide) rfl (fun ls hl => ?_)
        refine lv_goto (tgt := 7) hx hb dX3_clear_24 (by decide) ?_
        obtain rfl := Option.some.inj h
        exact ih7 x1 (x2 + 1) q4 ht7 H locs ls B (lv_sub hl [1, 2, 0] rfl)
  exact L7 n (S0 3 0 4) 0 S0 h H locs ls B (lv_sub hl [2, 1, 0] rfl)
