def b_X4_refrain_90 (n : Nat) (x1 : Int32) (x2 : Int32) : (Int32 × mem) → Option ((Int32 × mem) ⊕ ((Int32) ⊕ (Int32 × mem))) := fun w =>
if (x1 + x2) ≤ w.1 then (
some (.inr (.inr (((w.2 0 0 10) + 1, mup (mup w.2 0 0 10 ((w.2 0 0 10) + 1)) 0 0 18 0))))) else (
grd (¬ (w.1 < 0 ∨ 60 ≤ Int32.toNatClampNeg w.1)) (
some (.inl ((w.1 + 1), (mup w.2 8 0 (Int32.toNatClampNeg w.1) x1)))))
def b_X4_refrain_41 (n : Nat) (S : mem) (x1 : Int32) (x2 : Int32) : (Int32) → Option ((Int32) ⊕ (Int32 × mem)) := fun w =>
if (x1 + x2) ≤ w then (
if (S 0 0 10) = 3 then (
some (.inr ((-1000004, S)))) else (
lp (b_X4_refrain_90 n x1 x2) n (x1, S))) else (
grd (¬ (w < 0 ∨ 60 ≤ Int32.toNatClampNeg w)) (
if (S 8 0 (Int32.toNatClampNeg w)) = (-1000009) then (
cal (f_X4_syllablesOf n S w 1) fun q12 => (
if q12 ≤ 0 then (
some (.inl ((w + 1)))) else (
some (.inr ((-1000003, S)))))) else (
some (.inr ((-1000003, S))))))
/-- public int refrain(int, int) -/
def f_X4_refrain (n : Nat) (S0 : mem) (x1 : Int32) (x2 : Int32) : Option (Int32 × mem) :=
cal (f_X4_isNote n (mup S0 0 0 0 0) x1) fun q1 => (
if q1 = 0 then (
some ((-1000001, mup S0 0 0 0 0))) else (
cal (f_X4_lies n (mup S0 0 0 0 0) x2 1 60) fun q3 => (
if q3 = 0 then (
some ((-1000002, mup S0 0 0 0 0))) else (
if (x1 + x2) ≤ (S0 0 0 1) then (
lp (b_X4_refrain_41 n (mup S0 0 0 0 0) x1 x2) n (x1)) else (
some ((-1000002, mup S0 0 0 0 0)))))))
set_option maxRecDepth 100000 in
set_option maxHeartbeats 4000000 in
theorem c_X4_refrain (l : Launch) (g : cx) (n : Nat) (S0 : mem) (sz : Nat) (x1 : Int32) (x2 : Int32) (q : Int32 × mem) (h : f_X4_refrain n S0 x1 x2 = some q) : Met l yX4_refrain (wsU yX4_refrain cX4_refrain 4 (some .int)) (rmD 2) (PcW ixM enM g S0 sz [.ref (g.2.2 0 0), .int x1, .int x2]) (QiW ixM enM g sz q.1 q.2) 0 0 (Aw ixM g sz) := by
  refine met_intro (Qc := fun z9 => QiW ixM enM g z9 q.1 q.2) (free := fun z9 => Aw ixM g z9) [.ref (g.2.2 0 0), .int x1, .int x2] RX4 rfl (by decide) (Nat.le_of_ble_eq_true rfl) (fun p e s m args below meth c H locs F hr hlocks B ls hl => ?_)
  have hl : lv_has ls 4 [(0, .ref (g.2.2 0 0)), (1, .int x1), (2, .int x2)] := hl
  have hx := F.1
  have hb := F.2.1
  unfold f_X4_refrain at h
  refine lv_aload_n hx hb dX4_refrain_0 rfl (lv_at hl 0 rfl) ?_
  refine lv_iconst (v := 0) hx hb dX4_refrain_1 (by decide) ?_
  refine pt_X4_0 F B mF_X4_1 dX4_refrain_2 (fun H locs B => ?_)
  refine lv_aload_n hx hb dX4_refrain_5 rfl (lv_at hl 0 rfl) ?_
  refine lv_iload_n hx hb dX4_refrain_6 rfl (lv_at hl 1 rfl) ?_
  obtain ⟨q1, hq1, h⟩ := cal_some h
  refine w_callVi F B (c_X4_isNote l g n (mup S0 0 0 0 0) H.size x1 q1 hq1) mC_X4_isNote mM_X4_116 mN_X4 mI_X4_isNote mS_X4_isNote ixM_0 rfl rfl ⟨ok_X4_isNote, by decide⟩ rfl hl.1 rfl (Nat.le_of_ble_eq_true rfl) dX4_refrain_7 (fun H locs B => ?_)
  refine lv_if_ne (tgt := 16) hx hb dX4_refrain_10 (by decide) (fun c2 => ?_) (fun c2 => ?_)
  · rw [if_neg c2] at h
    refine lv_iload_n hx hb dX4_refrain_16 rfl (lv_at hl 2 rfl) ?_
    refine lv_iconst (v := 1) hx hb dX4_refrain_17 (by decide) ?_
    refine lv_bipush (v := 60) hx hb dX4_refrain_18 (by decide) ?_
    obtain ⟨q3, hq3, h⟩ := cal_some h
    refine w_callSi F B (c_X4_lies l g n (mup S0 0 0 0 0) H.size x2 1 60 q3 hq3) mC_X4_lies mM_X4_109 mN_X4 mT_X4_lies ⟨ok_X4_lies, by decide⟩ rfl hl.1 rfl (Nat.le_of_ble_eq_true rfl) dX4_refrain_20 (fun H locs B => ?_)
    refine lv_if_eq (tgt := 36) hx hb dX4_refrain_23 (by decide) (fun c4 => ?_) (fun c4 => ?_)
    · rw [if_pos c4] at h
      refine lv_ldc (v := -1000002) hx hb F.2.2.2.1 (F.2.2.2.2 _ (wsU_in mK_X4_113)) dX4_refrain_36 ?_
      obtain rfl := Option.some.inj h
      exact w_iret F hr hlocks B dX4_refrain_38
    · rw [if_neg c4] at h
      refine lv_iload_n hx hb dX4_refrain_26 rfl (lv_at hl 1 rfl) ?_
      refine lv_iload_n hx hb dX4_refrain_27 rfl (lv_at hl 2 rfl) ?_
      refine lv_iadd hx hb dX4_refrain_28 ?_
      refine lv_aload_n hx hb dX4_refrain_29 rfl (lv_at hl 0 rfl) ?_
      refine gt_X4_1 F B mF_X4_7 dX4_refrain_30 ?_
      refine w_cv (S0 0 0 1) (mup_j (by decide)) ?_
      refine lv_icmp_le (tgt := 39) hx hb dX4_refrain_33 (by decide) (fun c5 => ?_) (fun c5 => ?_)
      · rw [if_pos c5] at h
        refine lv_iload_n hx hb dX4_refrain_39 rfl (lv_at hl 1 rfl) ?_
        refine lv_istore_n (lv' := [(3, .int x1), (0, .ref (g.2.2 0 0)), (1, .int x1), (2, .int x2)]) hx hb dX4_refrain_40 rfl hl (by decide) rfl (fun ls hl => ?_)
        have L41 : ∀ (k41 : Nat) (S : mem) (x1 : Int32) (x2 : Int32) (x3 : Int32), lp (b_X4_refrain_41 n S x1 x2) k41 (x3) = some q → ∀ (H : Heap) (locs : List Loc) (ls : Array Slot), Wd ixM enM g S (Aw ixM g s.heap.size) s H locs → lv_has ls 4 [(0, .ref (g.2.2 0 0)), (1, .int x1), (2, .int x2), (3, .int x3)] → W p l e (rmD 2) s m args below meth c H locs 0 0 (MQ below (QiW ixM enM g s.heap.size q.1 q.2) args s 0 0 (Aw ixM g s.heap.size)) (F0 m 41 ls []) := by
          intro k41
          induction k41 with
          | zero => intro S x1 x2 x3 h; exact (lp_zero h).elim
          | succ k41 ih41 =>
            intro S x1 x2 x3 h H locs ls B hl
            obtain ⟨t41, h, ht41⟩ := lp_succ h
            unfold b_X4_refrain_41 at h
            (try dsimp only at h)
            refine lv_iload_n hx hb dX4_refrain_41 rfl (lv_at hl 3 rfl) ?_
            refine lv_iload_n hx hb dX4_refrain_42 rfl (lv_at hl 1 rfl) ?_
            refine lv_iload_n hx hb dX4_refrain_43 rfl (lv_at hl 2 rfl) ?_
            refine lv_iadd hx hb dX4_refrain_44 ?_
            refine lv_icmp_ge (tgt := 77) hx hb dX4_refrain_45 (by decide) (fun c6 => ?_) (fun c6 => ?_)
            · rw [if_pos c6] at h
              refine lv_aload_n hx hb dX4_refrain_77 rfl (lv_at hl 0 rfl) ?_
              refine gt_X4_10 F B mF_X4_13 dX4_refrain_78 ?_
              refine lv_iconst (v := 3) hx hb dX4_refrain_81 (by decide) ?_
              refine lv_icmp_ne (tgt := 88) hx hb dX4_refrain_82 (by decide) (fun c7 => ?_) (fun c7 => ?_)
              · rw [if_neg c7] at h
                refine lv_iload_n hx hb dX4_refrain_88 rfl (lv_at hl 1 rfl) ?_
                refine lv_istore_n (lv' := [(3, .int x1), (0, .ref (g.2.2 0 0)), (1, .int x1), (2, .int x2)]) hx hb dX4_refrain_89 rfl hl (by decide) rfl (fun ls hl => ?_)
                have L90 : ∀ (k90 : Nat) (x3 : Int32) (S : mem), lp (b_X4_refrain_90 n x1 x2) k90 (x3, S) = some t41 → ∀ (H : Heap) (locs : List Loc) (ls : Array Slot), Wd ixM enM g S (Aw ixM g s.heap.size) s H locs → lv_has ls 4 [(0, .ref (g.2.2 0 0)), (1, .int x1), (2, .int x2), (3, .int x3)] → W p l e (rmD 2) s m args below meth c H locs 0 0 (MQ below (QiW ixM enM g s.heap.size q.1 q.2) args s 0 0 (Aw ixM g s.heap.size)) (F0 m 90 ls []) := by
                  intro k90
                  induction k90 with
                  | zero => intro x3 S h; exact (lp_zero h).elim
                  | succ k90 ih90 =>
                    intro x3 S h H locs ls B hl
                    obtain ⟨t90, h, ht90⟩ := lp_succ h
                    unfold b_X4_refrain_90 at h
                    (try dsimp only at h)
                    refine lv_iload_n hx hb dX4_refrain_90 rfl (lv_at hl 3 rfl) ?_
                    refine lv_iload_n hx hb dX4_refrain_91 rfl (lv_at hl 1 rfl) ?_
                    refine lv_iload_n hx hb dX4_refrain_92 rfl (lv_at hl 2 rfl) ?_
                    refine lv_iadd hx hb dX4_refrain_93 ?_
                    refine lv_icmp_ge (tgt := 110) hx hb dX4_refrain_94 (by decide) (fun c8 => ?_) (fun c8 => ?_)
                    · rw [if_pos c8] at h
                      refine lv_aload_n hx hb dX4_refrain_110 rfl (lv_at hl 0 rfl) ?_
                      refine lv_dup hx hb dX4_refrain_111 rfl ?_
                      refine gt_X4_10 F B mF_X4_13 dX4_refrain_112 ?_
                      refine lv_iconst (v := 1) hx hb dX4_refrain_115 (by decide) ?_
                      refine lv_iadd hx hb dX4_refrain_116 ?_
                      refine pt_X4_10 F B mF_X4_13 dX4_refrain_117 (fun H locs B => ?_)
                      refine lv_aload_n hx hb dX4_refrain_120 rfl (lv_at hl 0 rfl) ?_
                      refine lv_iconst (v := 0) hx hb dX4_refrain_121 (by decide) ?_
                      refine pt_X4_18 F B (Or.inl rfl) mF_X4_19 dX4_refrain_122 (fun H locs B => ?_)
                      refine lv_aload_n hx hb dX4_refrain_125 rfl (lv_at hl 0 rfl) ?_
                      refine gt_X4_10 F B mF_X4_13 dX4_refrain_126 ?_
                      refine w_cv ((S 0 0 10) + 1) ((mup_j (by decide)).trans (mup_s)) ?_
                      obtain rfl := Option.some.inj h
                      obtain rfl := (show _ = t41 from ht90)
                      obtain rfl := (show _ = q from ht41)
                      exact w_iret F hr hlocks B dX4_refrain_129
                    · rw [if_neg c8] at h
                      refine lv_aload_n hx hb dX4_refrain_97 rfl (lv_at hl 0 rfl) ?_
                      refine gt_X4_8 F B mF_X4_70 dX4_refrain_98 ?_
                      refine lv_iload_n hx hb dX4_refrain_101 rfl (lv_at hl 3 rfl) ?_
                      refine lv_iload_n hx hb dX4_refrain_102 rfl (lv_at hl 1 rfl) ?_
                      obtain ⟨z9, h⟩ := grd_some h
                      refine as_M8 F B  z9 dX4_refrain_103 (fun H locs B => ?_)
                      refine lv_iinc (v := x3 + 1) (lv' := [(3, .int (x3 + 1)), (0, .ref (g.2.2 0 0)), (1, .int x1), (2, .int x2)]) hx hb dX4_refrain_104 hl (k := 3) rfl rfl (by decide) rfl (fun ls hl => ?_)
                      refine lv_goto (tgt := 90) hx hb dX4_refrain_107 (by decide) ?_
                      obtain rfl := Option.some.inj h
                      exact ih90 (x3 + 1) (mup S 8 0 (Int32.toNatClampNeg x3) x1) ht90 H locs ls B (lv_sub hl [1, 2, 3, 0] rfl)
                exact L90 n x1 S h H locs ls B (lv_sub hl [1, 2, 3, 0] rfl)
              · rw [if_pos c7] at h
                refine lv_ldc (v := -1000004) hx hb F.2.2.2.1 (F.2.2.2.2 _ (wsU_in mK_X4_114)) dX4_refrain_85 ?_
                obtain rfl := Option.some.inj h
                obtain rfl := (show _ = q from ht41)
                exact w_iret F hr hlocks B dX4_refrain_87
            · rw [if_neg c6] at h
              refine lv_aload_n hx hb dX4_refrain_48 rfl (lv_at hl 0 rfl) ?_
              refine gt_X4_8 F B mF_X4_70 dX4_refrain_49 ?_
              refine lv_iload_n hx hb dX4_refrain_52 rfl (lv_at hl 3 rfl) ?_
              obtain ⟨z10, h⟩ := grd_some h
              refine al_M8 F B  z10 dX4_refrain_53 ?_
              refine lv_ldc (v := -1000009) hx hb F.2.2.2.1 (F.2.2.2.2 _ (wsU_in mK_X4_115)) dX4_refrain_54 ?_
              refine lv_icmp_ne (tgt := 68) hx hb dX4_refrain_56 (by decide) (fun c11 => ?_) (fun c11 => ?_)
              · rw [if_neg c11] at h
                refine lv_ldc (v := -1000003) hx hb F.2.2.2.1 (F.2.2.2.2 _ (wsU_in mK_X4_127)) dX4_refrain_68 ?_
                obtain rfl := Option.some.inj h
                obtain rfl := (show _ = q from ht41)
                exact w_iret F hr hlocks B dX4_refrain_70
              · rw [if_pos c11] at h
                refine lv_aload_n hx hb dX4_refrain_59 rfl (lv_at hl 0 rfl) ?_
                refine lv_iload_n hx hb dX4_refrain_60 rfl (lv_at hl 3 rfl) ?_
                refine lv_iconst (v := 1) hx hb dX4_refrain_61 (by decide) ?_
                obtain ⟨q12, hq12, h⟩ := cal_some h
                refine w_callVi F B (c_X4_syllablesOf l g n S H.size x3 1 q12 hq12) mC_X4_syllablesOf mM_X4_128 mN_X4 mI_X4_syllablesOf mS_X4_syllablesOf ixM_0 rfl rfl ⟨ok_X4_syllablesOf, by decide⟩ rfl hl.1 rfl (Nat.le_of_ble_eq_true rfl) dX4_refrain_62 (fun H locs B => ?_)
                refine lv_if_le (tgt := 71) hx hb dX4_refrain_65 (by decide) (fun c13 => ?_) (fun c13 => ?_)
                · rw [if_pos c13] at h
                  refine lv_iinc (v := x3 + 1) (lv' := [(3, .int (x3 + 1)), (0, .ref (g.2.2 0 0)), (1, .int x1), (2, .int x2)]) hx hb dX4_refrain_71 hl (k := 3) rfl rfl (by decide) rfl (fun ls hl => ?_)
                  refine lv_goto (tgt := 41) hx hb dX4_refrain_74 (by decide) ?_
                  obtain rfl := Option.some.inj h
                  exact ih41 S x1 x2 (x3 + 1) ht41 H locs ls B (lv_sub hl [1, 2, 3, 0] rfl)
                · rw [if_neg c13] at h
                  refine lv_ldc (v := -1000003) hx hb F.2.2.2.1 (F.2.2.2.2 _ (wsU_in mK_X4_127)) dX4_refrain_68 ?_
                  obtain rfl := Option.some.inj h
                  obtain rfl := (show _ = q from ht41)
                  exact w_iret F hr hlocks B dX4_refrain_70
        exact L41 n (mup S0 0 0 0 0) x1 x2 x1 h H locs ls B (lv_sub hl [1, 2, 3, 0] rfl)
      · rw [if_neg c5] at h
        refine lv_ldc (v := -1000002) hx hb F.2.2.2.1 (F.2.2.2.2 _ (wsU_in mK_X4_113)) dX4_refrain_36 ?_
        obtain rfl := Option.some.inj h
        exact w_iret F hr hlocks B dX4_refrain_38
  · rw [if_pos c2] at h
    refine lv_ldc (v := -1000001) hx hb F.2.2.2.1 (F.2.2.2.2 _ (wsU_in mK_X4_123)) dX4_refrain_13 ?_
    obtain rfl := Option.some.inj h
    exact w_iret F hr hlocks B dX4_refrain_15
/-- public int align(int, int) -/
def f_X4_align (n : Nat) (S0 : mem) (x1 : Int32) (x2 : Int32) : Option (Int32 × mem) :=
cal (f_X4_isVerse n (mup S0 0 0 0 0) x1) fun q1 => (
if q1 = 0 then (
some ((-1000001, mup S0 0 0 0 0))) else (
cal (f_X4_lies n (mup S0 0 0 0 0) x2 0 2) fun q3 => (
if q3 = 0 then (
some ((-1000002, mup S0 0 0 0 0))) else (
grd (¬ (x1 < 0 ∨ 4 ≤ Int32.toNatClampNeg x1)) (
some ((S0 15 0 (Int32.toNatClampNeg x1), mup (mup (mup S0 0 0 0 0) 15 0 (Int32.toNatClampNeg x1) x2) 0 0 18 0)))))))
set_option maxRecDepth 100000 in
set_option maxHeartbeats 4000000 in
theorem c_X4_align (l : Launch) (g : cx) (n : Nat) (S0 : mem) (sz : Nat) (x1 : Int32) (x2 : Int32) (q : Int32 × mem) (h : f_X4_align n S0 x1 x2 = some q) : Met l yX4_align (wsU yX4_align cX4_align 4 (some .int)) (rmD 2) (PcW ixM enM g S0 sz [.ref (g.2.2 0 0), .int x1, .int x2]) (QiW ixM enM g sz q.1 q.2) 0 0 (Aw ixM g sz) := by
  refine met_intro (Qc := fun z9 => QiW ixM enM g z9 q.1 q.2) (free := fun z9 => Aw ixM g z9) [.ref (g.2.2 0 0), .int x1, .int x2] RX4 rfl (by decide) (Nat.le_of_ble_eq_true rfl) (fun p e s m args below meth c H locs F hr hlocks B ls hl => ?_)
  have hl : lv_has ls 4 [(0, .ref (g.2.2 0 0)), (1, .int x1), (2, .int x2)] := hl
  have hx := F.1
  have hb := F.2.1
  unfold f_X4_align at h
  refine lv_aload_n hx hb dX4_align_0 rfl (lv_at hl 0 rfl) ?_
  refine lv_iconst (v := 0) hx hb dX4_align_1 (by decide) ?_
  refine pt_X4_0 F B mF_X4_1 dX4_align_2 (fun H locs B => ?_)
  refine lv_iload_n hx hb dX4_align_5 rfl (lv_at hl 1 rfl) ?_
  obtain ⟨q1, hq1, h⟩ := cal_some h
  refine w_callSi F B (c_X4_isVerse l g n (mup S0 0 0 0 0) H.size x1 q1 hq1) mC_X4_isVerse mM_X4_120 mN_X4 mT_X4_isVerse ⟨ok_X4_isVerse, by decide⟩ rfl hl.1 rfl (Nat.le_of_ble_eq_true rfl) dX4_align_6 (fun H locs B => ?_)
  refine lv_if_ne (tgt := 15) hx hb dX4_align_9 (by decide) (fun c2 => ?_) (fun c2 => ?_)
  · rw [if_neg c2] at h
    refine lv_iload_n hx hb dX4_align_15 rfl (lv_at hl 2 rfl) ?_
    refine lv_iconst (v := 0) hx hb dX4_align_16 (by decide) ?_
    refine lv_iconst (v := 2) hx hb dX4_align_17 (by decide) ?_
    obtain ⟨q3, hq3, h⟩ := cal_some h
    refine w_callSi F B (c_X4_lies l g n (mup S0 0 0 0 0) H.size x2 0 2 q3 hq3) mC_X4_lies mM_X4_109 mN_X4 mT_X4_lies ⟨ok_X4_lies, by decide⟩ rfl hl.1 rfl (Nat.le_of_ble_eq_true rfl) dX4_align_18 (fun H locs B => ?_)
    refine lv_if_ne (tgt := 27) hx hb dX4_align_21 (by decide) (fun c4 => ?_) (fun c4 => ?_)
    · rw [if_neg c4] at h
      refine lv_aload_n hx hb dX4_align_27 rfl (lv_at hl 0 rfl) ?_
      refine gt_X4_15 F B mF_X4_38 dX4_align_28 ?_
      refine lv_iload_n hx hb dX4_align_31 rfl (lv_at hl 1 rfl) ?_
      obtain ⟨z5, h⟩ := grd_some h
      refine al_M15 F B  z5 dX4_align_32 ?_
      refine w_cv (S0 15 0 (Int32.toNatClampNeg x1)) (mup_k (by decide)) ?_
      refine lv_istore_n (lv' := [(3, .int (S0 15 0 (Int32.toNatClampNeg x1))), (0, .ref (g.2.2 0 0)), (1, .int x1), (2, .int x2)]) hx hb dX4_align_33 rfl hl (by decide) rfl (fun ls hl => ?_)
      refine lv_aload_n hx hb dX4_align_34 rfl (lv_at hl 1 rfl) ?_
      refine gt_X4_15 F B mF_X4_38 dX4_align_35 ?_
      refine lv_iload_n hx hb dX4_align_38 rfl (lv_at hl 2 rfl) ?_
      refine lv_iload_n hx hb dX4_align_39 rfl (lv_at hl 3 rfl) ?_
      refine as_M15 F B  z5 dX4_align_40 (fun H locs B => ?_)
      refine lv_aload_n hx hb dX4_align_41 rfl (lv_at hl 1 rfl) ?_
      refine lv_iconst (v := 0) hx hb dX4_align_42 (by decide) ?_
      refine pt_X4_18 F B (Or.inl rfl) mF_X4_19 dX4_align_43 (fun H locs B => ?_)
      refine lv_iload_n hx hb dX4_align_46 rfl (lv_at hl 0 rfl) ?_
      obtain rfl := Option.some.inj h
      exact w_iret F hr hlocks B dX4_align_47
    · rw [if_pos c4] at h
      refine lv_ldc (v := -1000002) hx hb F.2.2.2.1 (F.2.2.2.2 _ (wsU_in mK_X4_113)) dX4_align_24 ?_
      obtain rfl := Option.some.inj h
      exact w_iret F hr hlocks B dX4_align_26
  · rw [if_pos c2] at h
    refine lv_ldc (v := -1000001) hx hb F.2.2.2.1 (F.2.2.2.2 _ (wsU_in mK_X4_123)) dX4_align_12 ?_
    obtain rfl := Option.some.inj h
    exact w_iret F hr hlocks B dX4_align_14
def j_X4_translation_29 (n : Nat) (S : mem) (x1 : Int32) (x2 : Int32) (y0 : Int32) : Option (Int32 × mem) :=
grd (¬ (x1 < 0 ∨ 4 ≤ Int32.toNatClampNeg x1)) (
some ((y0, mup (mup S 16 0 (Int32.toNatClampNeg x1) (vp_nar .boolean x2)) 0 0 18 0)))
/-- public int translation(int, boolean) -/
def f_X4_translation (n : Nat) (S0 : mem) (x1 : Int32) (x2 : Int32) : Option (Int32 × mem) :=
cal (f_X4_isVerse n (mup S0 0 0 0 0) x1) fun q1 => (
if q1 = 0 then (
some ((-1000001, mup S0 0 0 0 0))) else (
grd (¬ (x1 < 0 ∨ 4 ≤ Int32.toNatClampNeg x1)) (
if (S0 16 0 (Int32.toNatClampNeg x1)) = 0 then (
j_X4_translation_29 n (mup S0 0 0 0 0) x1 x2 0) else (
j_X4_translation_29 n (mup S0 0 0 0 0) x1 x2 1))))
set_option maxRecDepth 100000 in
set_option maxHeartbeats 4000000 in
theorem c_X4_translation (l : Launch) (g : cx) (n : Nat) (S0 : mem) (sz : Nat) (x1 : Int32) (x2 : Int32) (q : Int32 × mem) (h : f_X4_translation n S0 x1 x2 = some q) : Met l yX4_translation (wsU yX4_translation cX4_translation 4 (some .int)) (rmD 2) (PcW ixM enM g S0 sz [.ref (g.2.2 0 0), .int x1, .int x2]) (QiW ixM enM g sz q.1 q.2) 0 0 (Aw ixM g sz) := by
  refine met_intro (Qc := fun z9 => QiW ixM enM g z9 q.1 q.2) (free := fun z9 => Aw ixM g z9) [.ref (g.2.2 0 0), .int x1, .int x2] RX4 rfl (by decide) (Nat.le_of_ble_eq_true rfl) (fun p e s m args below meth c H locs F hr hlocks B ls hl => ?_)
  have hl : lv_has ls 4 [(0, .ref (g.2.2 0 0)), (1, .int x1), (2, .int x2)] := hl
  have hx := F.1
  have hb := F.2.1
  unfold f_X4_translation at h
  refine lv_aload_n hx hb dX4_translation_0 rfl (lv_at hl 0 rfl) ?_
  refine lv_iconst (v := 0) hx hb dX4_translation_1 (by decide) ?_
  refine pt_X4_0 F B mF_X4_1 dX4_translation_2 (fun H locs B => ?_)
  refine lv_iload_n hx hb dX4_translation_5 rfl (lv_at hl 1 rfl) ?_
  obtain ⟨q1, hq1, h⟩ := cal_some h
  refine w_callSi F B (c_X4_isVerse l g n (mup S0 0 0 0 0) H.size x1 q1 hq1) mC_X4_isVerse mM_X4_120 mN_X4 mT_X4_isVerse ⟨ok_X4_isVerse, by decide⟩ rfl hl.1 rfl (Nat.le_of_ble_eq_true rfl) dX4_translation_6 (fun H locs B => ?_)
  refine lv_if_ne (tgt := 15) hx hb dX4_translation_9 (by decide) (fun c2 => ?_) (fun c2 => ?_)
  · rw [if_neg c2] at h
    refine lv_aload_n hx hb dX4_translation_15 rfl (lv_at hl 0 rfl) ?_
    refine gt_X4_16 F B mF_X4_42 dX4_translation_16 ?_
    refine lv_iload_n hx hb dX4_translation_19 rfl (lv_at hl 1 rfl) ?_
    obtain ⟨z3, h⟩ := grd_some h
    refine al_M16 F B  z3 dX4_translation_20 ?_
    refine w_cv (S0 16 0 (Int32.toNatClampNeg x1)) (mup_k (by decide)) ?_
    have J29 : ∀ (S : mem) (x1 : Int32) (x2 : Int32) (y0 : Int32), j_X4_translation_29 n S x1 x2 y0 = some q → ∀ (H : Heap) (locs : List Loc) (ls : Array Slot), Wd ixM enM g S (Aw ixM g s.heap.size) s H locs → lv_has ls 4 [(0, .ref (g.2.2 0 0)), (1, .int x1), (2, .int x2)] → W p l e (rmD 2) s m args below meth c H locs 0 0 (MQ below (QiW ixM enM g s.heap.size q.1 q.2) args s 0 0 (Aw ixM g s.heap.size)) (F0 m 29 ls [.int y0]) := by
      intro S x1 x2 y0 h H locs ls B hl
      unfold j_X4_translation_29 at h
      refine lv_istore_n (lv' := [(3, .int y0), (0, .ref (g.2.2 0 0)), (1, .int x1), (2, .int x2)]) hx hb dX4_translation_29 rfl hl (by decide) rfl (fun ls hl => ?_)
      refine lv_aload_n hx hb dX4_translation_30 rfl (lv_at hl 1 rfl) ?_
      refine gt_X4_16 F B mF_X4_42 dX4_translation_31 ?_
      refine lv_iload_n hx hb dX4_translation_34 rfl (lv_at hl 2 rfl) ?_
      refine lv_iload_n hx hb dX4_translation_35 rfl (lv_at hl 3 rfl) ?_
      obtain ⟨z4, h⟩ := grd_some h
      refine as_M16 F B  z4 dX4_translation_36 (fun H locs B => ?_)
      refine lv_aload_n hx hb dX4_translation_37 rfl (lv_at hl 1 rfl) ?_
      refine lv_iconst (v := 0) hx hb dX4_translation_38 (by decide) ?_
      refine pt_X4_18 F B (Or.inl rfl) mF_X4_19 dX4_translation_39 (fun H locs B => ?_)
      refine lv_iload_n hx hb dX4_translation_42 rfl (lv_at hl 0 rfl) ?_
      obtain rfl := Option.some.inj h
      exact w_iret F hr hlocks B dX4_translation_43
    refine lv_if_eq (tgt := 28) hx hb dX4_translation_21 (by decide) (fun c5 => ?_) (fun c5 => ?_)
    · rw [if_pos c5] at h
      refine lv_iconst (v := 0) hx hb dX4_translation_28 (by decide) ?_
      exact J29 (mup S0 0 0 0 0) x1 x2 0 h H locs ls B (lv_sub hl [0, 1, 2] rfl)
    · rw [if_neg c5] at h
      refine lv_iconst (v := 1) hx hb dX4_translation_24 (by decide) ?_
      refine lv_goto (tgt := 29) hx hb dX4_translation_25 (by decide) ?_
      exact J29 (mup S0 0 0 0 0) x1 x2 1 h H locs ls B (lv_sub hl [0, 1, 2] rfl)
  · rw [if_pos c2] at h
    refine lv_ldc (v := -1000001) hx hb F.2.2.2.1 (F.2.2.2.2 _ (wsU_in mK_X4_123)) dX4_translation_12 ?_
    obtain rfl := Option.some.inj h
    exact w_iret F hr hlocks B dX4_translation_14
/-- public int limit(int) -/
def f_X4_limit (n : Nat) (S0 : mem) (x1 : Int32) : Option (Int32 × mem) :=
cal (f_X4_lies n (mup S0 0 0 0 0) x1 100 30000) fun q1 => (
if q1 = 0 then (
some ((-1000002, mup S0 0 0 0 0))) else (
some ((S0 0 0 17, mup (mup (mup S0 0 0 0 0) 0 0 17 x1) 0 0 18 0))))
set_option maxRecDepth 100000 in
set_option maxHeartbeats 4000000 in
theorem c_X4_limit (l : Launch) (g : cx) (n : Nat) (S0 : mem) (sz : Nat) (x1 : Int32) (q : Int32 × mem) (h : f_X4_limit n S0 x1 = some q) : Met l yX4_limit (wsU yX4_limit cX4_limit 3 (some .int)) (rmD 1) (PcW ixM enM g S0 sz [.ref (g.2.2 0 0), .int x1]) (QiW ixM enM g sz q.1 q.2) 0 0 (Aw ixM g sz) := by
  refine met_intro (Qc := fun z9 => QiW ixM enM g z9 q.1 q.2) (free := fun z9 => Aw ixM g z9) [.ref (g.2.2 0 0), .int x1] RX4 rfl (by decide) (Nat.le_of_ble_eq_true rfl) (fun p e s m args below meth c H locs F hr hlocks B ls hl => ?_)
  have hl : lv_has ls 3 [(0, .ref (g.2.2 0 0)), (1, .int x1)] := hl
  have hx := F.1
  have hb := F.2.1
  unfold f_X4_limit at h
  refine lv_aload_n hx hb dX4_limit_0 rfl (lv_at hl 0 rfl) ?_
  refine lv_iconst (v := 0) hx hb dX4_limit_1 (by decide) ?_
  refine pt_X4_0 F B mF_X4_1 dX4_limit_2 (fun H locs B => ?_)
  refine lv_iload_n hx hb dX4_limit_5 rfl (lv_at hl 1 rfl) ?_
  refine lv_bipush (v := 100) hx hb dX4_limit_6 (by decide) ?_
  refine lv_sipush (v := 30000) hx hb dX4_limit_8 (by decide) ?_
  obtain ⟨q1, hq1, h⟩ := cal_some h
  refine w_callSi F B (c_X4_lies l g n (mup S0 0 0 0 0) H.size x1 100 30000 q1 hq1) mC_X4_lies mM_X4_109 mN_X4 mT_X4_lies ⟨ok_X4_lies, by decide⟩ rfl hl.1 rfl (Nat.le_of_ble_eq_true rfl) dX4_limit_11 (fun H locs B => ?_)
  refine lv_if_ne (tgt := 20) hx hb dX4_limit_14 (by decide) (fun c2 => ?_) (fun c2 => ?_)
  · rw [if_neg c2] at h
    refine lv_aload_n hx hb dX4_limit_20 rfl (lv_at hl 0 rfl) ?_
    refine gt_X4_17 F B mF_X4_16 dX4_limit_21 ?_
    refine w_cv (S0 0 0 17) (mup_j (by decide)) ?_
    refine lv_istore_n (lv' := [(2, .int (S0 0 0 17)), (0, .ref (g.2.2 0 0)), (1, .int x1)]) hx hb dX4_limit_24 rfl hl (by decide) rfl (fun ls hl => ?_)
    refine lv_aload_n hx hb dX4_limit_25 rfl (lv_at hl 1 rfl) ?_
    refine lv_iload_n hx hb dX4_limit_26 rfl (lv_at hl 2 rfl) ?_
    refine pt_X4_17 F B mF_X4_16 dX4_limit_27 (fun H locs B => ?_)
    refine lv_aload_n hx hb dX4_limit_30 rfl (lv_at hl 1 rfl) ?_
    refine lv_iconst (v := 0) hx hb dX4_limit_31 (by decide) ?_
    refine pt_X4_18 F B (Or.inl rfl) mF_X4_19 dX4_limit_32 (fun H locs B => ?_)
    refine lv_iload_n hx hb dX4_limit_35 rfl (lv_at hl 0 rfl) ?_
    obtain rfl := Option.some.inj h
    exact w_iret F hr hlocks B dX4_limit_36
  · rw [if_pos c2] at h
    refine lv_ldc (v := -1000002) hx hb F.2.2.2.1 (F.2.2.2.2 _ (wsU_in mK_X4_113)) dX4_limit_17 ?_
    obtain rfl := Option.some.inj h
    exact w_iret F hr hlocks B dX4_limit_19
/-- private boolean isBox(int, int) -/
def f_X4_isBox (n : Nat) (S0 : mem) (x1 : Int32) (x2 : Int32) : Option (Int32) :=
grd (¬ ((4 * x1) + x2 < 0 ∨ 240 ≤ Int32.toNatClampNeg ((4 * x1) + x2))) (
if (S0 11 0 (Int32.toNatClampNeg ((4 * x1) + x2))) ≤ 0 then (
some (0)) else (
some (1)))
set_option maxRecDepth 100000 in
set_option maxHeartbeats 4000000 in
theorem c_X4_isBox (l : Launch) (g : cx) (n : Nat) (S0 : mem) (sz : Nat) (x1 : Int32) (x2 : Int32) (q : Int32) (h : f_X4_isBox n S0 x1 x2 = some q) : Met l yX4_isBox (wsU yX4_isBox cX4_isBox 3 (some .boolean)) (rmD 0) (PcW ixM enM g S0 sz [.ref (g.2.2 0 0), .int x1, .int x2]) (QiW ixM enM g sz q S0) 0 0 (Aw ixM g sz) := by
  refine met_intro (Qc := fun z9 => QiW ixM enM g z9 q S0) (free := fun z9 => Aw ixM g z9) [.ref (g.2.2 0 0), .int x1, .int x2] RX4 rfl (by decide) (Nat.le_of_ble_eq_true rfl) (fun p e s m args below meth c H locs F hr hlocks B ls hl => ?_)
  have hl : lv_has ls 3 [(0, .ref (g.2.2 0 0)), (1, .int x1), (2, .int x2)] := hl
  have hx := F.1
  have hb := F.2.1
  unfold f_X4_isBox at h
  refine lv_aload_n hx hb dX4_isBox_0 rfl (lv_at hl 0 rfl) ?_
  refine gt_X4_11 F B mF_X4_73 dX4_isBox_1 ?_
  refine lv_iconst (v := 4) hx hb dX4_isBox_4 (by decide) ?_
  refine lv_iload_n hx hb dX4_isBox_5 rfl (lv_at hl 1 rfl) ?_
  refine lv_imul hx hb dX4_isBox_6 ?_
  refine lv_iload_n hx hb dX4_isBox_7 rfl (lv_at hl 2 rfl) ?_
  refine lv_iadd hx hb dX4_isBox_8 ?_
  obtain ⟨z1, h⟩ := grd_some h
  refine al_M11 F B  z1 dX4_isBox_9 ?_
  refine lv_if_le (tgt := 17) hx hb dX4_isBox_10 (by decide) (fun c2 => ?_) (fun c2 => ?_)
  · rw [if_pos c2] at h
    refine lv_iconst (v := 0) hx hb dX4_isBox_17 (by decide) ?_
    obtain rfl := Option.some.inj h
    exact w_zret F hr hlocks (Or.inl rfl) B dX4_isBox_18
  · rw [if_neg c2] at h
    refine lv_iconst (v := 1) hx hb dX4_isBox_13 (by decide) ?_
    refine lv_goto (tgt := 18) hx hb dX4_isBox_14 (by decide) ?_
    obtain rfl := Option.some.inj h
    exact w_zret F hr hlocks (Or.inr rfl) B dX4_isBox_18
/-- private int wideOf(int, int) -/
def f_X4_wideOf (n : Nat) (S0 : mem) (x1 : Int32) (x2 : Int32) : Option (Int32) :=
grd (¬ ((4 * x1) + x2 < 0 ∨ 240 ≤ Int32.toNatClampNeg ((4 * x1) + x2))) (
if (S0 11 0 (Int32.toNatClampNeg ((4 * x1) + x2))) = 2 then (
grd (¬ ((8 * x1) + (2 * x2) < 0 ∨ 480 ≤ Int32.toNatClampNeg ((8 * x1) + (2 * x2)))) (
grd (¬ (((8 * x1) + (2 * x2)) + 1 < 0 ∨ 480 ≤ Int32.toNatClampNeg (((8 * x1) + (2 * x2)) + 1))) (
some (((S0 12 0 (Int32.toNatClampNeg ((8 * x1) + (2 * x2)))) + (S0 12 0 (Int32.toNatClampNeg (((8 * x1) + (2 * x2)) + 1)))) + 5)))) else (
grd (¬ ((8 * x1) + (2 * x2) < 0 ∨ 480 ≤ Int32.toNatClampNeg ((8 * x1) + (2 * x2)))) (
some (S0 12 0 (Int32.toNatClampNeg ((8 * x1) + (2 * x2)))))))
set_option maxRecDepth 100000 in
set_option maxHeartbeats 4000000 in
theorem c_X4_wideOf (l : Launch) (g : cx) (n : Nat) (S0 : mem) (sz : Nat) (x1 : Int32) (x2 : Int32) (q : Int32) (h : f_X4_wideOf n S0 x1 x2 = some q) : Met l yX4_wideOf (wsU yX4_wideOf cX4_wideOf 4 (some .int)) (rmD 0) (PcW ixM enM g S0 sz [.ref (g.2.2 0 0), .int x1, .int x2]) (QiW ixM enM g sz q S0) 0 0 (Aw ixM g sz) := by
  refine met_intro (Qc := fun z9 => QiW ixM enM g z9 q S0) (free := fun z9 => Aw ixM g z9) [.ref (g.2.2 0 0), .int x1, .int x2] RX4 rfl (by decide) (Nat.le_of_ble_eq_true rfl) (fun p e s m args below meth c H locs F hr hlocks B ls hl => ?_)
  have hl : lv_has ls 4 [(0, .ref (g.2.2 0 0)), (1, .int x1), (2, .int x2)] := hl
  have hx := F.1
  have hb := F.2.1
  unfold f_X4_wideOf at h
  refine lv_bipush (v := 8) hx hb dX4_wideOf_0 (by decide) ?_
  refine lv_iload_n hx hb dX4_wideOf_2 rfl (lv_at hl 1 rfl) ?_
  refine lv_imul hx hb dX4_wideOf_3 ?_
  refine lv_iconst (v := 2) hx hb dX4_wideOf_4 (by decide) ?_
  refine lv_iload_n hx hb dX4_wideOf_5 rfl (lv_at hl 2 rfl) ?_
  refine lv_imul hx hb dX4_wideOf_6 ?_
  refine lv_iadd hx hb dX4_wideOf_7 ?_
  refine lv_istore_n (lv' := [(3, .int ((8 * x1) + (2 * x2))), (0, .ref (g.2.2 0 0)), (1, .int x1), (2, .int x2)]) hx hb dX4_wideOf_8 rfl hl (by decide) rfl (fun ls hl => ?_)
  refine lv_aload_n hx hb dX4_wideOf_9 rfl (lv_at hl 1 rfl) ?_
  refine gt_X4_11 F B mF_X4_73 dX4_wideOf_10 ?_
  refine lv_iconst (v := 4) hx hb dX4_wideOf_13 (by decide) ?_
  refine lv_iload_n hx hb dX4_wideOf_14 rfl (lv_at hl 2 rfl) ?_
  refine lv_imul hx hb dX4_wideOf_15 ?_
  refine lv_iload_n hx hb dX4_wideOf_16 rfl (lv_at hl 3 rfl) ?_
  refine lv_iadd hx hb dX4_wideOf_17 ?_
  obtain ⟨z1, h⟩ := grd_some h
  refine al_M11 F B  z1 dX4_wideOf_18 ?_
  refine lv_iconst (v := 2) hx hb dX4_wideOf_19 (by decide) ?_
  refine lv_icmp_ne (tgt := 43) hx hb dX4_wideOf_20 (by decide) (fun c2 => ?_) (fun c2 => ?_)
  · rw [if_neg c2] at h
    refine lv_aload_n hx hb dX4_wideOf_43 rfl (lv_at hl 1 rfl) ?_
    refine gt_X4_12 F B mF_X4_76 dX4_wideOf_44 ?_
    refine lv_iload_n hx hb dX4_wideOf_47 rfl (lv_at hl 0 rfl) ?_
    obtain ⟨z3, h⟩ := grd_some h
    refine al_M12 F B  z3 dX4_wideOf_48 ?_
    obtain rfl := Option.some.inj h
    exact w_iret F hr hlocks B dX4_wideOf_49
  · rw [if_pos c2] at h
    refine lv_aload_n hx hb dX4_wideOf_23 rfl (lv_at hl 1 rfl) ?_
    refine gt_X4_12 F B mF_X4_76 dX4_wideOf_24 ?_
    refine lv_iload_n hx hb dX4_wideOf_27 rfl (lv_at hl 0 rfl) ?_
    obtain ⟨z4, h⟩ := grd_some h
    refine al_M12 F B  z4 dX4_wideOf_28 ?_
    refine lv_aload_n hx hb dX4_wideOf_29 rfl (lv_at hl 1 rfl) ?_
    refine gt_X4_12 F B mF_X4_76 dX4_wideOf_30 ?_
    refine lv_iload_n hx hb dX4_wideOf_33 rfl (lv_at hl 0 rfl) ?_
    refine lv_iconst (v := 1) hx hb dX4_wideOf_34 (by decide) ?_
    refine lv_iadd hx hb dX4_wideOf_35 ?_
    obtain ⟨z5, h⟩ := grd_some h
    refine al_M12 F B  z5 dX4_wideOf_36 ?_
    refine lv_iadd hx hb dX4_wideOf_37 ?_
    refine lv_iconst (v := 5) hx hb dX4_wideOf_38 (by decide) ?_
    refine lv_iadd hx hb dX4_wideOf_39 ?_
    refine lv_goto (tgt := 49) hx hb dX4_wideOf_40 (by decide) ?_
    obtain rfl := Option.some.inj h
    exact w_iret F hr hlocks B dX4_wideOf_49
/-- private boolean goesOn(int, int) -/
def f_X4_goesOn (n : Nat) (S0 : mem) (x1 : Int32) (x2 : Int32) : Option (Int32) :=
grd (¬ ((4 * x1) + x2 < 0 ∨ 240 ≤ Int32.toNatClampNeg ((4 * x1) + x2))) (
grd (¬ ((((8 * x1) + (2 * x2)) + (S0 11 0 (Int32.toNatClampNeg ((4 * x1) + x2)))) - 1 < 0 ∨ 480 ≤ Int32.toNatClampNeg ((((8 * x1) + (2 * x2)) + (S0 11 0 (Int32.toNatClampNeg ((4 * x1) + x2)))) - 1))) (
grd ((S0 14 0 (Int32.toNatClampNeg ((((8 * x1) + (2 * x2)) + (S0 11 0 (Int32.toNatClampNeg ((4 * x1) + x2)))) - 1))) = 0 ∨ (S0 14 0 (Int32.toNatClampNeg ((((8 * x1) + (2 * x2)) + (S0 11 0 (Int32.toNatClampNeg ((4 * x1) + x2)))) - 1))) = 1) (some (S0 14 0 (Int32.toNatClampNeg ((((8 * x1) + (2 * x2)) + (S0 11 0 (Int32.toNatClampNeg ((4 * x1) + x2)))) - 1))))))
set_option maxRecDepth 100000 in
set_option maxHeartbeats 4000000 in
theorem c_X4_goesOn (l : Launch) (g : cx) (n : Nat) (S0 : mem) (sz : Nat) (x1 : Int32) (x2 : Int32) (q : Int32) (h : f_X4_goesOn n S0 x1 x2 = some q) : Met l yX4_goesOn (wsU yX4_goesOn cX4_goesOn 3 (some .boolean)) (rmD 0) (PcW ixM enM g S0 sz [.ref (g.2.2 0 0), .int x1, .int x2]) (QiW ixM enM g sz q S0) 0 0 (Aw ixM g sz) := by
  refine met_intro (Qc := fun z9 => QiW ixM enM g z9 q S0) (free := fun z9 => Aw ixM g z9) [.ref (g.2.2 0 0), .int x1, .int x2] RX4 rfl (by decide) (Nat.le_of_ble_eq_true rfl) (fun p e s m args below meth c H locs F hr hlocks B ls hl => ?_)
  have hl : lv_has ls 3 [(0, .ref (g.2.2 0 0)), (1, .int x1), (2, .int x2)] := hl
  have hx := F.1
  have hb := F.2.1
  unfold f_X4_goesOn at h
  refine lv_aload_n hx hb dX4_goesOn_0 rfl (lv_at hl 0 rfl) ?_
  refine gt_X4_14 F B mF_X4_82 dX4_goesOn_1 ?_
  refine lv_bipush (v := 8) hx hb dX4_goesOn_4 (by decide) ?_
  refine lv_iload_n hx hb dX4_goesOn_6 rfl (lv_at hl 1 rfl) ?_
  refine lv_imul hx hb dX4_goesOn_7 ?_
  refine lv_iconst (v := 2) hx hb dX4_goesOn_8 (by decide) ?_
  refine lv_iload_n hx hb dX4_goesOn_9 rfl (lv_at hl 2 rfl) ?_
  refine lv_imul hx hb dX4_goesOn_10 ?_
  refine lv_iadd hx hb dX4_goesOn_11 ?_
  refine lv_aload_n hx hb dX4_goesOn_12 rfl (lv_at hl 0 rfl) ?_
  refine gt_X4_11 F B mF_X4_73 dX4_goesOn_13 ?_
  refine lv_iconst (v := 4) hx hb dX4_goesOn_16 (by decide) ?_
  refine lv_iload_n hx hb dX4_goesOn_17 rfl (lv_at hl 1 rfl) ?_
  refine lv_imul hx hb dX4_goesOn_18 ?_
  refine lv_iload_n hx hb dX4_goesOn_19 rfl (lv_at hl 2 rfl) ?_
  refine lv_iadd hx hb dX4_goesOn_20 ?_
  obtain ⟨z1, h⟩ := grd_some h
  refine al_M11 F B  z1 dX4_goesOn_21 ?_
  refine lv_iadd hx hb dX4_goesOn_22 ?_
  refine lv_iconst (v := 1) hx hb dX4_goesOn_23 (by decide) ?_
  refine lv_isub hx hb dX4_goesOn_24 ?_
  obtain ⟨z2, h⟩ := grd_some h
  refine al_M14 F B  z2 dX4_goesOn_25 ?_
  obtain ⟨z3, h⟩ := grd_some h
  obtain rfl := Option.some.inj h
  exact w_zret F hr hlocks z3 B dX4_goesOn_26
/-- private int offset(int, int) -/
def f_X4_offset (n : Nat) (S0 : mem) (x1 : Int32) (x2 : Int32) : Option (Int32) :=
grd (¬ (x2 < 0 ∨ 4 ≤ Int32.toNatClampNeg x2)) (
if (S0 15 0 (Int32.toNatClampNeg x2)) = 0 then (
cal (f_X4_wideOf n S0 x1 x2) fun q5 => (
some (q5 / 2))) else (
if (S0 15 0 (Int32.toNatClampNeg x2)) = 1 then (
some (0)) else (
grd (¬ ((8 * x1) + (2 * x2) < 0 ∨ 480 ≤ Int32.toNatClampNeg ((8 * x1) + (2 * x2)))) (
some (S0 13 0 (Int32.toNatClampNeg ((8 * x1) + (2 * x2))))))))
set_option maxRecDepth 100000 in
set_option maxHeartbeats 4000000 in
theorem c_X4_offset (l : Launch) (g : cx) (n : Nat) (S0 : mem) (sz : Nat) (x1 : Int32) (x2 : Int32) (q : Int32) (h : f_X4_offset n S0 x1 x2 = some q) : Met l yX4_offset (wsU yX4_offset cX4_offset 3 (some .int)) (rmD 1) (PcW ixM enM g S0 sz [.ref (g.2.2 0 0), .int x1, .int x2]) (QiW ixM enM g sz q S0) 0 0 (Aw ixM g sz) := by
  refine met_intro (Qc := fun z9 => QiW ixM enM g z9 q S0) (free := fun z9 => Aw ixM g z9) [.ref (g.2.2 0 0), .int x1, .int x2] RX4 rfl (by decide) (Nat.le_of_ble_eq_true rfl) (fun p e s m args below meth c H locs F hr hlocks B ls hl => ?_)
  have hl : lv_has ls 3 [(0, .ref (g.2.2 0 0)), (1, .int x1), (2, .int x2)] := hl
  have hx := F.1
  have hb := F.2.1
  unfold f_X4_offset at h
  refine lv_aload_n hx hb dX4_offset_0 rfl (lv_at hl 0 rfl) ?_
  refine gt_X4_15 F B mF_X4_38 dX4_offset_1 ?_
  refine lv_iload_n hx hb dX4_offset_4 rfl (lv_at hl 2 rfl) ?_
  obtain ⟨z1, h⟩ := grd_some h
  refine al_M15 F B  z1 dX4_offset_5 ?_
  refine lv_if_ne (tgt := 20) hx hb dX4_offset_6 (by decide) (fun c2 => ?_) (fun c2 => ?_)
  · rw [if_neg c2] at h
    refine lv_aload_n hx hb dX4_offset_20 rfl (lv_at hl 0 rfl) ?_
    refine gt_X4_15 F B mF_X4_38 dX4_offset_21 ?_
    refine lv_iload_n hx hb dX4_offset_24 rfl (lv_at hl 2 rfl) ?_
    refine al_M15 F B  z1 dX4_offset_25 ?_
    refine lv_iconst (v := 1) hx hb dX4_offset_26 (by decide) ?_
    refine lv_icmp_ne (tgt := 34) hx hb dX4_offset_27 (by decide) (fun c3 => ?_) (fun c3 => ?_)
    · rw [if_neg c3] at h
      refine lv_aload_n hx hb dX4_offset_34 rfl (lv_at hl 0 rfl) ?_
      refine gt_X4_13 F B mF_X4_79 dX4_offset_35 ?_
      refine lv_bipush (v := 8) hx hb dX4_offset_38 (by decide) ?_
      refine lv_iload_n hx hb dX4_offset_40 rfl (lv_at hl 1 rfl) ?_
      refine lv_imul hx hb dX4_offset_41 ?_
      refine lv_iconst (v := 2) hx hb dX4_offset_42 (by decide) ?_
      refine lv_iload_n hx hb dX4_offset_43 rfl (lv_at hl 2 rfl) ?_
      refine lv_imul hx hb dX4_offset_44 ?_
      refine lv_iadd hx hb dX4_offset_45 ?_
      obtain ⟨z4, h⟩ := grd_some h
      refine al_M13 F B  z4 dX4_offset_46 ?_
      obtain rfl := Option.some.inj h
      exact w_iret F hr hlocks B dX4_offset_47
    · rw [if_pos c3] at h
      refine lv_iconst (v := 0) hx hb dX4_offset_30 (by decide) ?_
      refine lv_goto (tgt := 47) hx hb dX4_offset_31 (by decide) ?_
      obtain rfl := Option.some.inj h
      exact w_iret F hr hlocks B dX4_offset_47
  · rw [if_pos c2] at h
    refine lv_aload_n hx hb dX4_offset_9 rfl (lv_at hl 0 rfl) ?_
    refine lv_iload_n hx hb dX4_offset_10 rfl (lv_at hl 1 rfl) ?_
    refine lv_iload_n hx hb dX4_offset_11 rfl (lv_at hl 2 rfl) ?_
    obtain ⟨q5, hq5, h⟩ := cal_some h
    refine w_callVi F B (c_X4_wideOf l g n S0 H.size x1 x2 q5 hq5) mC_X4_wideOf mM_X4_132 mN_X4 mI_X4_wideOf mS_X4_wideOf ixM_0 rfl rfl ⟨ok_X4_wideOf, by decide⟩ rfl hl.1 rfl (Nat.le_of_ble_eq_true rfl) dX4_offset_12 (fun H locs B => ?_)
    refine lv_iconst (v := 2) hx hb dX4_offset_15 (by decide) ?_
    refine lv_idiv hx hb dX4_offset_16 (by decide) ?_
    refine lv_goto (tgt := 47) hx hb dX4_offset_17 (by decide) ?_
    obtain rfl := Option.some.inj h
    exact w_iret F hr hlocks B dX4_offset_47
def j_X4_other_38 (n : Nat) (S0 : mem) (x4 : Int32) : Option ((Int32) ⊕ (Int32)) :=
if x4 < 0 then (
some (.inr (-1000009))) else (
if (S0 0 0 1) ≤ x4 then (
some (.inr (-1000009))) else (
some (.inr (x4))))
def b_X4_other_5 (n : Nat) (S0 : mem) (x2 : Int32) (x3 : Int32) : (Int32) → Option ((Int32) ⊕ (Int32)) := fun w =>
if w < 0 then (
j_X4_other_38 n S0 w) else (
if (S0 0 0 1) ≤ w then (
j_X4_other_38 n S0 w) else (
cal (f_X4_isBox n S0 w x2) fun q5 => (
if q5 = 0 then (
some (.inl ((w + x3)))) else (
j_X4_other_38 n S0 w))))
/-- private int other(int, int, int) -/
def f_X4_other (n : Nat) (S0 : mem) (x1 : Int32) (x2 : Int32) (x3 : Int32) : Option (Int32) :=
lp (b_X4_other_5 n S0 x2 x3) n ((x1 + x3))
set_option maxRecDepth 100000 in
set_option maxHeartbeats 4000000 in
theorem c_X4_other (l : Launch) (g : cx) (n : Nat) (S0 : mem) (sz : Nat) (x1 : Int32) (x2 : Int32) (x3 : Int32) (q : Int32) (h : f_X4_other n S0 x1 x2 x3 = some q) : Met l yX4_other (wsU yX4_other cX4_other 5 (some .int)) (rmD 1) (PcW ixM enM g S0 sz [.ref (g.2.2 0 0), .int x1, .int x2, .int x3]) (QiW ixM enM g sz q S0) 0 0 (Aw ixM g sz) := by
  refine met_intro (Qc := fun z9 => QiW ixM enM g z9 q S0) (free := fun z9 => Aw ixM g z9) [.ref (g.2.2 0 0), .int x1, .int x2, .int x3] RX4 rfl (by decide) (Nat.le_of_ble_eq_true rfl) (fun p e s m args below meth c H locs F hr hlocks B ls hl => ?_)
  have hl : lv_has ls 5 [(0, .ref (g.2.2 0 0)), (1, .int x1), (2, .int x2), (3, .int x3)] := hl
  have hx := F.1
  have hb := F.2.1
  unfold f_X4_other at h
  refine lv_iload_n hx hb dX4_other_0 rfl (lv_at hl 1 rfl) ?_
  refine lv_iload_n hx hb dX4_other_1 rfl (lv_at hl 3 rfl) ?_
  refine lv_iadd hx hb dX4_other_2 ?_
  refine lv_istore (lv' := [(4, .int (x1 + x3)), (0, .ref (g.2.2 0 0)), (1, .int x1), (2, .int x2), (3, .int x3)]) hx hb dX4_other_3 hl (by decide) rfl (fun ls hl => ?_)
  have L5 : ∀ (k5 : Nat) (x2 : Int32) (x3 : Int32) (x4 : Int32), lp (b_X4_other_5 n S0 x2 x3) k5 (x4) = some q → ∀ (H : Heap) (locs : List Loc) (ls : Array Slot), Wd ixM enM g S0 (Aw ixM g s.heap.size) s H locs → lv_has ls 5 [(0, .ref (g.2.2 0 0)), (2, .int x2), (3, .int x3), (4, .int x4)] → W p l e (rmD 1) s m args below meth c H locs 0 0 (MQ below (QiW ixM enM g s.heap.size q S0) args s 0 0 (Aw ixM g s.heap.size)) (F0 m 5 ls []) := by
    intro k5
    induction k5 with
    | zero => intro x2 x3 x4 h; exact (lp_zero h).elim
    | succ k5 ih5 =>
      intro x2 x3 x4 h H locs ls B hl
      obtain ⟨t5, h, ht5⟩ := lp_succ h
      unfold b_X4_other_5 at h
      (try dsimp only at h)
      refine lv_iload hx hb dX4_other_5 (lv_at hl 3 rfl) ?_
      have J38 : ∀ (x4 : Int32), j_X4_other_38 n S0 x4 = some t5 → ∀ (H : Heap) (locs : List Loc) (ls : Array Slot), Wd ixM enM g S0 (Aw ixM g s.heap.size) s H locs → lv_has ls 5 [(0, .ref (g.2.2 0 0)), (4, .int x4)] → W p l e (rmD 1) s m args below meth c H locs 0 0 (MQ below (QiW ixM enM g s.heap.size q S0) args s 0 0 (Aw ixM g s.heap.size)) (F0 m 38 ls []) := by
        intro x4 h H locs ls B hl
        unfold j_X4_other_38 at h
        refine lv_iload hx hb dX4_other_38 (lv_at hl 1 rfl) ?_
        refine lv_if_lt (tgt := 57) hx hb dX4_other_40 (by decide) (fun c1 => ?_) (fun c1 => ?_)
        · rw [if_pos c1] at h
          refine lv_ldc (v := -1000009) hx hb F.2.2.2.1 (F.2.2.2.2 _ (wsU_in mK_X4_115)) dX4_other_57 ?_
          obtain rfl := Option.some.inj h
          obtain rfl := (show _ = q from ht5)
          exact w_iret F hr hlocks B dX4_other_59
        · rw [if_neg c1] at h
          refine lv_iload hx hb dX4_other_43 (lv_at hl 1 rfl) ?_
          refine lv_aload_n hx hb dX4_other_45 rfl (lv_at hl 0 rfl) ?_
          refine gt_X4_1 F B mF_X4_7 dX4_other_46 ?_
          refine lv_icmp_ge (tgt := 57) hx hb dX4_other_49 (by decide) (fun c2 => ?_) (fun c2 => ?_)
          · rw [if_pos c2] at h
            refine lv_ldc (v := -1000009) hx hb F.2.2.2.1 (F.2.2.2.2 _ (wsU_in mK_X4_115)) dX4_other_57 ?_
            obtain rfl := Option.some.inj h
            obtain rfl := (show _ = q from ht5)
            exact w_iret F hr hlocks B dX4_other_59
          · rw [if_neg c2] at h
            refine lv_iload hx hb dX4_other_52 (lv_at hl 1 rfl) ?_
            refine lv_goto (tgt := 59) hx hb dX4_other_54 (by decide) ?_
            obtain rfl := Option.some.inj h
            obtain rfl := (show _ = q from ht5)
            exact w_iret F hr hlocks B dX4_other_59
      refine lv_if_lt (tgt := 38) hx hb dX4_other_7 (by decide) (fun c3 => ?_) (fun c3 => ?_)
      · rw [if_pos c3] at h
        exact J38 x4 h H locs ls B (lv_sub hl [0, 3] rfl)
      · rw [if_neg c3] at h
        refine lv_iload hx hb dX4_other_10 (lv_at hl 3 rfl) ?_
        refine lv_aload_n hx hb dX4_other_12 rfl (lv_at hl 0 rfl) ?_
        refine gt_X4_1 F B mF_X4_7 dX4_other_13 ?_
        refine lv_icmp_ge (tgt := 38) hx hb dX4_other_16 (by decide) (fun c4 => ?_) (fun c4 => ?_)
        · rw [if_pos c4] at h
          exact J38 x4 h H locs ls B (lv_sub hl [0, 3] rfl)
        · rw [if_neg c4] at h
          refine lv_aload_n hx hb dX4_other_19 rfl (lv_at hl 0 rfl) ?_
          refine lv_iload hx hb dX4_other_20 (lv_at hl 3 rfl) ?_
          refine lv_iload_n hx hb dX4_other_22 rfl (lv_at hl 1 rfl) ?_
          obtain ⟨q5, hq5, h⟩ := cal_some h
          refine w_callVi F B (c_X4_isBox l g n S0 H.size x4 x2 q5 hq5) mC_X4_isBox mM_X4_135 mN_X4 mI_X4_isBox mS_X4_isBox ixM_0 rfl rfl ⟨ok_X4_isBox, by decide⟩ rfl hl.1 rfl (Nat.le_of_ble_eq_true rfl) dX4_other_23 (fun H locs B => ?_)
          refine lv_if_ne (tgt := 38) hx hb dX4_other_26 (by decide) (fun c6 => ?_) (fun c6 => ?_)
          · rw [if_neg c6] at h
            exact J38 x4 h H locs ls B (lv_sub hl [0, 3] rfl)
          · rw [if_pos c6] at h
            refine lv_iload hx hb dX4_other_29 (lv_at hl 3 rfl) ?_
            refine lv_iload_n hx hb dX4_other_31 rfl (lv_at hl 2 rfl) ?_
            refine lv_iadd hx hb dX4_other_32 ?_
            refine lv_istore (lv' := [(4, .int (x4 + x3)), (0, .ref (g.2.2 0 0)), (2, .int x2), (3, .int x3)]) hx hb dX4_other_33 hl (by decide) rfl (fun ls hl => ?_)
            refine lv_goto (tgt := 5) hx hb dX4_other_35 (by decide) ?_
            obtain rfl := Option.some.inj h
            exact ih5 x2 x3 (x4 + x3) ht5 H locs ls B (lv_sub hl [1, 2, 3, 0] rfl)
  exact L5 n x2 x3 (x1 + x3) h H locs ls B (lv_sub hl [1, 3, 4, 0] rfl)
def b_X4_chordBefore_4 (n : Nat) (S0 : mem) : (Int32) → Option ((Int32) ⊕ (Int32)) := fun w =>
if w < 0 then (
some (.inr (w))) else (
grd (¬ (w < 0 ∨ 60 ≤ Int32.toNatClampNeg w)) (
if (S0 5 0 (Int32.toNatClampNeg w)) = 0 then (
some (.inl ((w + (-1))))) else (
some (.inr (w)))))
/-- private int chordBefore(int) -/
def f_X4_chordBefore (n : Nat) (S0 : mem) (x1 : Int32) : Option (Int32) :=
lp (b_X4_chordBefore_4 n S0) n ((x1 - 1))
set_option maxRecDepth 100000 in
set_option maxHeartbeats 4000000 in
theorem c_X4_chordBefore (l : Launch) (g : cx) (n : Nat) (S0 : mem) (sz : Nat) (x1 : Int32) (q : Int32) (h : f_X4_chordBefore n S0 x1 = some q) : Met l yX4_chordBefore (wsU yX4_chordBefore cX4_chordBefore 3 (some .int)) (rmD 0) (PcW ixM enM g S0 sz [.ref (g.2.2 0 0), .int x1]) (QiW ixM enM g sz q S0) 0 0 (Aw ixM g sz) := by
  refine met_intro (Qc := fun z9 => QiW ixM enM g z9 q S0) (free := fun z9 => Aw ixM g z9) [.ref (g.2.2 0 0), .int x1] RX4 rfl (by decide) (Nat.le_of_ble_eq_true rfl) (fun p e s m args below meth c H locs F hr hlocks B ls hl => ?_)
  have hl : lv_has ls 3 [(0, .ref (g.2.2 0 0)), (1, .int x1)] := hl
  have hx := F.1
  have hb := F.2.1
  unfold f_X4_chordBefore at h
  refine lv_iload_n hx hb dX4_chordBefore_0 rfl (lv_at hl 1 rfl) ?_
  refine lv_iconst (v := 1) hx hb dX4_chordBefore_1 (by decide) ?_
  refine lv_isub hx hb dX4_chordBefore_2 ?_
  refine lv_istore_n (lv' := [(2, .int (x1 - 1)), (0, .ref (g.2.2 0 0)), (1, .int x1)]) hx hb dX4_chordBefore_3 rfl hl (by decide) rfl (fun ls hl => ?_)
  have L4 : ∀ (k4 : Nat) (x2 : Int32), lp (b_X4_chordBefore_4 n S0) k4 (x2) = some q → ∀ (H : Heap) (locs : List Loc) (ls : Array Slot), Wd ixM enM g S0 (Aw ixM g s.heap.size) s H locs → lv_has ls 3 [(0, .ref (g.2.2 0 0)), (2, .int x2)] → W p l e (rmD 0) s m args below meth c H locs 0 0 (MQ below (QiW ixM enM g s.heap.size q S0) args s 0 0 (Aw ixM g s.heap.size)) (F0 m 4 ls []) := by
    intro k4
    induction k4 with
    | zero => intro x2 h; exact (lp_zero h).elim
    | succ k4 ih4 =>
      intro x2 h H locs ls B hl
      obtain ⟨t4, h, ht4⟩ := lp_succ h
      unfold b_X4_chordBefore_4 at h
      (try dsimp only at h)
      refine lv_iload_n hx hb dX4_chordBefore_4 rfl (lv_at hl 1 rfl) ?_
      refine lv_if_lt (tgt := 23) hx hb dX4_chordBefore_5 (by decide) (fun c1 => ?_) (fun c1 => ?_)
      · rw [if_pos c1] at h
        refine lv_iload_n hx hb dX4_chordBefore_23 rfl (lv_at hl 1 rfl) ?_
        obtain rfl := Option.some.inj h
        obtain rfl := (show _ = q from ht4)
        exact w_iret F hr hlocks B dX4_chordBefore_24
      · rw [if_neg c1] at h
        refine lv_aload_n hx hb dX4_chordBefore_8 rfl (lv_at hl 0 rfl) ?_
        refine gt_X4_5 F B mF_X4_61 dX4_chordBefore_9 ?_
        refine lv_iload_n hx hb dX4_chordBefore_12 rfl (lv_at hl 1 rfl) ?_
        obtain ⟨z2, h⟩ := grd_some h
        refine al_M5 F B  z2 dX4_chordBefore_13 ?_
        refine lv_if_ne (tgt := 23) hx hb dX4_chordBefore_14 (by decide) (fun c3 => ?_) (fun c3 => ?_)
        · rw [if_neg c3] at h
          refine lv_iload_n hx hb dX4_chordBefore_23 rfl (lv_at hl 1 rfl) ?_
          obtain rfl := Option.some.inj h
          obtain rfl := (show _ = q from ht4)
          exact w_iret F hr hlocks B dX4_chordBefore_24
        · rw [if_pos c3] at h
          refine lv_iinc (v := x2 + (-1)) (lv' := [(2, .int (x2 + (-1))), (0, .ref (g.2.2 0 0))]) hx hb dX4_chordBefore_17 hl (k := 1) rfl rfl (by decide) rfl (fun ls hl => ?_)
          refine lv_goto (tgt := 4) hx hb dX4_chordBefore_20 (by decide) ?_
          obtain rfl := Option.some.inj h
          exact ih4 (x2 + (-1)) ht4 H locs ls B (lv_sub hl [1, 0] rfl)
  exact L4 n (x1 - 1) h H locs ls B (lv_sub hl [1, 0] rfl)
/-- private int endOf(int, int) -/
def f_X4_endOf (n : Nat) (S0 : mem) (x1 : Int32) (x2 : Int32) : Option (Int32) :=
grd (¬ ((4 * x1) + x2 < 0 ∨ 240 ≤ Int32.toNatClampNeg ((4 * x1) + x2))) (
cal (f_X4_wideOf n S0 x1 x2) fun q2 => (
some ((S0 20 0 (Int32.toNatClampNeg ((4 * x1) + x2))) + q2)))
set_option maxRecDepth 100000 in
set_option maxHeartbeats 4000000 in
theorem c_X4_endOf (l : Launch) (g : cx) (n : Nat) (S0 : mem) (sz : Nat) (x1 : Int32) (x2 : Int32) (q : Int32) (h : f_X4_endOf n S0 x1 x2 = some q) : Met l yX4_endOf (wsU yX4_endOf cX4_endOf 3 (some .int)) (rmD 1) (PcW ixM enM g S0 sz [.ref (g.2.2 0 0), .int x1, .int x2]) (QiW ixM enM g sz q S0) 0 0 (Aw ixM g sz) := by
  refine met_intro (Qc := fun z9 => QiW ixM enM g z9 q S0) (free := fun z9 => Aw ixM g z9) [.ref (g.2.2 0 0), .int x1, .int x2] RX4 rfl (by decide) (Nat.le_of_ble_eq_true rfl) (fun p e s m args below meth c H locs F hr hlocks B ls hl => ?_)
  have hl : lv_has ls 3 [(0, .ref (g.2.2 0 0)), (1, .int x1), (2, .int x2)] := hl
  have hx := F.1
  have hb := F.2.1
  unfold f_X4_endOf at h
  refine lv_aload_n hx hb dX4_endOf_0 rfl (lv_at hl 0 rfl) ?_
  refine gt_X4_20 F B mF_X4_88 dX4_endOf_1 ?_
  refine lv_iconst (v := 4) hx hb dX4_endOf_4 (by decide) ?_
  refine lv_iload_n hx hb dX4_endOf_5 rfl (lv_at hl 1 rfl) ?_
  refine lv_imul hx hb dX4_endOf_6 ?_
  refine lv_iload_n hx hb dX4_endOf_7 rfl (lv_at hl 2 rfl) ?_
  refine lv_iadd hx hb dX4_endOf_8 ?_
  obtain ⟨z1, h⟩ := grd_some h
  refine al_M20 F B  z1 dX4_endOf_9 ?_
  refine lv_aload_n hx hb dX4_endOf_10 rfl (lv_at hl 0 rfl) ?_
  refine lv_iload_n hx hb dX4_endOf_11 rfl (lv_at hl 1 rfl) ?_
  refine lv_iload_n hx hb dX4_endOf_12 rfl (lv_at hl 2 rfl) ?_
  obtain ⟨q2, hq2, h⟩ := cal_some h
  refine w_callVi F B (c_X4_wideOf l g n S0 H.size x1 x2 q2 hq2) mC_X4_wideOf mM_X4_132 mN_X4 mI_X4_wideOf mS_X4_wideOf ixM_0 rfl rfl ⟨ok_X4_wideOf, by decide⟩ rfl hl.1 rfl (Nat.le_of_ble_eq_true rfl) dX4_endOf_13 (fun H locs B => ?_)
  refine lv_iadd hx hb dX4_endOf_16 ?_
  obtain rfl := Option.some.inj h
  exact w_iret F hr hlocks B dX4_endOf_17
/-- private int free(int, int) -/
def f_X4_free (n : Nat) (S0 : mem) (x1 : Int32) (x2 : Int32) : Option (Int32) :=
cal (f_X4_other n S0 x1 x2 (-1)) fun q1 => (
if q1 = (-1000009) then (
some (-1)) else (
cal (f_X4_endOf n S0 q1 x2) fun q3 => (
cal (f_X4_goesOn n S0 q1 x2) fun q4 => (
if q4 = 0 then (
some (q3 + 12)) else (
some (q3 + 4))))))
set_option maxRecDepth 100000 in
set_option maxHeartbeats 4000000 in
theorem c_X4_free (l : Launch) (g : cx) (n : Nat) (S0 : mem) (sz : Nat) (x1 : Int32) (x2 : Int32) (q : Int32) (h : f_X4_free n S0 x1 x2 = some q) : Met l yX4_free (wsU yX4_free cX4_free 4 (some .int)) (rmD 2) (PcW ixM enM g S0 sz [.ref (g.2.2 0 0), .int x1, .int x2]) (QiW ixM enM g sz q S0) 0 0 (Aw ixM g sz) := by
  refine met_intro (Qc := fun z9 => QiW ixM enM g z9 q S0) (free := fun z9 => Aw ixM g z9) [.ref (g.2.2 0 0), .int x1, .int x2] RX4 rfl (by decide) (Nat.le_of_ble_eq_true rfl) (fun p e s m args below meth c H locs F hr hlocks B ls hl => ?_)
  have hl : lv_has ls 4 [(0, .ref (g.2.2 0 0)), (1, .int x1), (2, .int x2)] := hl
  have hx := F.1
  have hb := F.2.1
  unfold f_X4_free at h
  refine lv_aload_n hx hb dX4_free_0 rfl (lv_at hl 0 rfl) ?_
  refine lv_iload_n hx hb dX4_free_1 rfl (lv_at hl 1 rfl) ?_
  refine lv_iload_n hx hb dX4_free_2 rfl (lv_at hl 2 rfl) ?_
  refine lv_iconst (v := -1) hx hb dX4_free_3 (by decide) ?_
  obtain ⟨q1, hq1, h⟩ := cal_some h
  refine w_callVi F B (c_X4_other l g n S0 H.size x1 x2 (-1) q1 hq1) mC_X4_other mM_X4_139 mN_X4 mI_X4_other mS_X4_other ixM_0 rfl rfl ⟨ok_X4_other, by decide⟩ rfl hl.1 rfl (Nat.le_of_ble_eq_true rfl) dX4_free_4 (fun H locs B => ?_)
  refine lv_istore_n (lv' := [(3, .int q1), (0, .ref (g.2.2 0 0)), (1, .int x1), (2, .int x2)]) hx hb dX4_free_7 rfl hl (by decide) rfl (fun ls hl => ?_)
  refine lv_iload_n hx hb dX4_free_8 rfl (lv_at hl 0 rfl) ?_
  refine lv_ldc (v := -1000009) hx hb F.2.2.2.1 (F.2.2.2.2 _ (wsU_in mK_X4_115)) dX4_free_9 ?_
  refine lv_icmp_ne (tgt := 18) hx hb dX4_free_11 (by decide) (fun c2 => ?_) (fun c2 => ?_)
  · rw [if_neg c2] at h
    refine lv_aload_n hx hb dX4_free_18 rfl (lv_at hl 1 rfl) ?_
    refine lv_iload_n hx hb dX4_free_19 rfl (lv_at hl 0 rfl) ?_
    refine lv_iload_n hx hb dX4_free_20 rfl (lv_at hl 3 rfl) ?_
    obtain ⟨q3, hq3, h⟩ := cal_some h
    refine w_callVi F B (c_X4_endOf l g n S0 H.size q1 x2 q3 hq3) mC_X4_endOf mM_X4_143 mN_X4 mI_X4_endOf mS_X4_endOf ixM_0 rfl rfl ⟨ok_X4_endOf, by decide⟩ rfl hl.1 rfl (Nat.le_of_ble_eq_true rfl) dX4_free_21 (fun H locs B => ?_)
    refine lv_aload_n hx hb dX4_free_24 rfl (lv_at hl 1 rfl) ?_
    refine lv_iload_n hx hb dX4_free_25 rfl (lv_at hl 0 rfl) ?_
    refine lv_iload_n hx hb dX4_free_26 rfl (lv_at hl 3 rfl) ?_
    obtain ⟨q4, hq4, h⟩ := cal_some h
    refine w_callVi F B (c_X4_goesOn l g n S0 H.size q1 x2 q4 hq4) mC_X4_goesOn mM_X4_146 mN_X4 mI_X4_goesOn mS_X4_goesOn ixM_0 rfl rfl ⟨ok_X4_goesOn, by decide⟩ rfl hl.1 rfl (Nat.le_of_ble_eq_true rfl) dX4_free_27 (fun H locs B => ?_)
    refine lv_if_eq (tgt := 37) hx hb dX4_free_30 (by decide) (fun c5 => ?_) (fun c5 => ?_)
    · rw [if_pos c5] at h
      refine lv_bipush (v := 12) hx hb dX4_free_37 (by decide) ?_
      refine lv_iadd hx hb dX4_free_39 ?_
      obtain rfl := Option.some.inj h
      exact w_iret F hr hlocks B dX4_free_40
    · rw [if_neg c5] at h
      refine lv_iconst (v := 4) hx hb dX4_free_33 (by decide) ?_
      refine lv_goto (tgt := 39) hx hb dX4_free_34 (by decide) ?_
      refine lv_iadd hx hb dX4_free_39 ?_
      obtain rfl := Option.some.inj h
      exact w_iret F hr hlocks B dX4_free_40
  · rw [if_pos c2] at h
    refine lv_iconst (v := -1) hx hb dX4_free_14 (by decide) ?_
    refine lv_goto (tgt := 40) hx hb dX4_free_15 (by decide) ?_
    obtain rfl := Option.some.inj h
    exact w_iret F hr hlocks B dX4_free_40
/-- private int alone(int) -/
def f_X4_alone (n : Nat) (S0 : mem) (x1 : Int32) : Option (Int32) :=
if x1 = 0 then (
some (0)) else (
grd (¬ (x1 - 1 < 0 ∨ 60 ≤ Int32.toNatClampNeg (x1 - 1))) (
some (((S0 19 0 (Int32.toNatClampNeg (x1 - 1))) + (S0 2 0 (Int32.toNatClampNeg (x1 - 1)))) + (10 * (S0 3 0 (Int32.toNatClampNeg (x1 - 1)))))))
set_option maxRecDepth 100000 in
set_option maxHeartbeats 4000000 in
theorem c_X4_alone (l : Launch) (g : cx) (n : Nat) (S0 : mem) (sz : Nat) (x1 : Int32) (q : Int32) (h : f_X4_alone n S0 x1 = some q) : Met l yX4_alone (wsU yX4_alone cX4_alone 2 (some .int)) (rmD 0) (PcW ixM enM g S0 sz [.ref (g.2.2 0 0), .int x1]) (QiW ixM enM g sz q S0) 0 0 (Aw ixM g sz) := by
  refine met_intro (Qc := fun z9 => QiW ixM enM g z9 q S0) (free := fun z9 => Aw ixM g z9) [.ref (g.2.2 0 0), .int x1] RX4 rfl (by decide) (Nat.le_of_ble_eq_true rfl) (fun p e s m args below meth c H locs F hr hlocks B ls hl => ?_)
  have hl : lv_has ls 2 [(0, .ref (g.2.2 0 0)), (1, .int x1)] := hl
  have hx := F.1
  have hb := F.2.1
  unfold f_X4_alone at h
  refine lv_iload_n hx hb dX4_alone_0 rfl (lv_at hl 1 rfl) ?_
  refine lv_if_ne (tgt := 8) hx hb dX4_alone_1 (by decide) (fun c1 => ?_) (fun c1 => ?_)
  · rw [if_neg c1] at h
    refine lv_aload_n hx hb dX4_alone_8 rfl (lv_at hl 0 rfl) ?_
    refine gt_X4_19 F B mF_X4_85 dX4_alone_9 ?_
    refine lv_iload_n hx hb dX4_alone_12 rfl (lv_at hl 1 rfl) ?_
    refine lv_iconst (v := 1) hx hb dX4_alone_13 (by decide) ?_
    refine lv_isub hx hb dX4_alone_14 ?_
    obtain ⟨z2, h⟩ := grd_some h
    refine al_M19 F B  z2 dX4_alone_15 ?_
    refine lv_aload_n hx hb dX4_alone_16 rfl (lv_at hl 0 rfl) ?_
    refine gt_X4_2 F B mF_X4_52 dX4_alone_17 ?_
    refine lv_iload_n hx hb dX4_alone_20 rfl (lv_at hl 1 rfl) ?_
    refine lv_iconst (v := 1) hx hb dX4_alone_21 (by decide) ?_
    refine lv_isub hx hb dX4_alone_22 ?_
    refine al_M2 F B  z2 dX4_alone_23 ?_
    refine lv_iadd hx hb dX4_alone_24 ?_
    refine lv_bipush (v := 10) hx hb dX4_alone_25 (by decide) ?_
    refine lv_aload_n hx hb dX4_alone_27 rfl (lv_at hl 0 rfl) ?_
    refine gt_X4_3 F B mF_X4_55 dX4_alone_28 ?_
    refine lv_iload_n hx hb dX4_alone_31 rfl (lv_at hl 1 rfl) ?_
    refine lv_iconst (v := 1) hx hb dX4_alone_32 (by decide) ?_
    refine lv_isub hx hb dX4_alone_33 ?_
    refine al_M3 F B  z2 dX4_alone_34 ?_
    refine lv_imul hx hb dX4_alone_35 ?_
    refine lv_iadd hx hb dX4_alone_36 ?_
    obtain rfl := Option.some.inj h
    exact w_iret F hr hlocks B dX4_alone_37
  · rw [if_pos c1] at h
    refine lv_iconst (v := 0) hx hb dX4_alone_4 (by decide) ?_
    refine lv_goto (tgt := 37) hx hb dX4_alone_5 (by decide) ?_
    obtain rfl := Option.some.inj h
    exact w_iret F hr hlocks B dX4_alone_37
/-- private static int greater(int, int) -/
def f_X4_greater (n : Nat) (S0 : mem) (x0 : Int32) (x1 : Int32) : Option (Int32) :=
if x0 ≤ x1 then (
some (x1)) else (
some (x0))
set_option maxRecDepth 100000 in
set_option maxHeartbeats 4000000 in
theorem c_X4_greater (l : Launch) (g : cx) (n : Nat) (S0 : mem) (sz : Nat) (x0 : Int32) (x1 : Int32) (q : Int32) (h : f_X4_greater n S0 x0 x1 = some q) : Met l yX4_greater (wsU yX4_greater cX4_greater 2 (some .int)) (rmD 0) (PcW ixM enM g S0 sz [.int x0, .int x1]) (QiW ixM enM g sz q S0) 0 0 (Aw ixM g sz) := by
  refine met_intro (Qc := fun z9 => QiW ixM enM g z9 q S0) (free := fun z9 => Aw ixM g z9) [.int x0, .int x1] RX4 rfl (by decide) (Nat.le_of_ble_eq_true rfl) (fun p e s m args below meth c H locs F hr hlocks B ls hl => ?_)
  have hl : lv_has ls 2 [(0, .int x0), (1, .int x1)] := hl
  have hx := F.1
  have hb := F.2.1
  unfold f_X4_greater at h
  refine lv_iload_n hx hb dX4_greater_0 rfl (lv_at hl 0 rfl) ?_
  refine lv_iload_n hx hb dX4_greater_1 rfl (lv_at hl 1 rfl) ?_
  refine lv_icmp_le (tgt := 9) hx hb dX4_greater_2 (by decide) (fun c1 => ?_) (fun c1 => ?_)
  · rw [if_pos c1] at h
    refine lv_iload_n hx hb dX4_greater_9 rfl (lv_at hl 1 rfl) ?_
    obtain rfl := Option.some.inj h
    exact w_iret F hr hlocks B dX4_greater_10
  · rw [if_neg c1] at h
    refine lv_iload_n hx hb dX4_greater_5 rfl (lv_at hl 0 rfl) ?_
    refine lv_goto (tgt := 10) hx hb dX4_greater_6 (by decide) ?_
    obtain rfl := Option.some.inj h
    exact w_iret F hr hlocks B dX4_greater_10
def b_X4_placeNote_129 (n : Nat) (x1 : Int32) (x2 : Int32) : (Int32 × mem) → Option ((Int32 × mem) ⊕ ((Int32 × Int32) ⊕ (mem))) := fun w =>
if 4 ≤ w.1 then (
some (.inr (.inr (w.2)))) else (
cal (f_X4_isBox n w.2 x1 w.1) fun q7 => (
if q7 = 0 then (
some (.inl ((w.1 + 1), w.2))) else (
cal (f_X4_offset n w.2 x1 w.1) fun q9 => (
grd (¬ (w.1 < 0 ∨ 4 ≤ Int32.toNatClampNeg w.1)) (
if (w.2 16 0 (Int32.toNatClampNeg w.1)) = 0 then (
grd (¬ ((4 * x1) + w.1 < 0 ∨ 240 ≤ Int32.toNatClampNeg ((4 * x1) + w.1))) (
some (.inl ((w.1 + 1), (mup w.2 20 0 (Int32.toNatClampNeg ((4 * x1) + w.1)) (x2 - q9)))))) else (
cal (f_X4_greater n w.2 0 (x2 - q9)) fun q13 => (
cal (f_X4_free n w.2 x1 w.1) fun q14 => (
cal (f_X4_greater n w.2 q13 q14) fun q15 => (
grd (¬ ((4 * x1) + w.1 < 0 ∨ 240 ≤ Int32.toNatClampNeg ((4 * x1) + w.1))) (
some (.inl ((w.1 + 1), (mup w.2 20 0 (Int32.toNatClampNeg ((4 * x1) + w.1)) q15)))))))))))))
def j_X4_placeNote_119 (n : Nat) (S : mem) (x1 : Int32) (x2 : Int32) : Option ((Int32 × Int32) ⊕ (mem)) :=
grd (¬ (x1 < 0 ∨ 60 ≤ Int32.toNatClampNeg x1)) (
lp (b_X4_placeNote_129 n x1 x2) n (0, (mup S 19 0 (Int32.toNatClampNeg x1) x2)))
def b_X4_placeNote_8 (n : Nat) (S : mem) (x1 : Int32) : (Int32 × Int32) → Option ((Int32 × Int32) ⊕ (mem)) := fun w =>
if 4 ≤ w.2 then (
cal (f_X4_chordBefore n S x1) fun q3 => (
grd (¬ (x1 < 0 ∨ 60 ≤ Int32.toNatClampNeg x1)) (
if (S 5 0 (Int32.toNatClampNeg x1)) ≤ 0 then (
j_X4_placeNote_119 n S x1 w.1) else (
if q3 < 0 then (
j_X4_placeNote_119 n S x1 w.1) else (
grd (¬ (q3 < 0 ∨ 60 ≤ Int32.toNatClampNeg q3)) (
cal (f_X4_greater n S w.1 (((S 19 0 (Int32.toNatClampNeg q3)) + (S 5 0 (Int32.toNatClampNeg q3))) + 10)) fun q20 => (
j_X4_placeNote_119 n S x1 q20))))))) else (
cal (f_X4_isBox n S x1 w.2) fun q21 => (
if q21 = 0 then (
some (.inl (w.1, (w.2 + 1)))) else (
grd (¬ (w.2 < 0 ∨ 4 ≤ Int32.toNatClampNeg w.2)) (
if (S 16 0 (Int32.toNatClampNeg w.2)) = 0 then (
cal (f_X4_offset n S x1 w.2) fun q25 => (
cal (f_X4_greater n S w.1 q25) fun q26 => (
cal (f_X4_free n S x1 w.2) fun q27 => (
if 0 ≤ q27 then (
cal (f_X4_offset n S x1 w.2) fun q29 => (
cal (f_X4_greater n S q26 (q27 + q29)) fun q30 => (
some (.inl (q30, (w.2 + 1)))))) else (
some (.inl (q26, (w.2 + 1)))))))) else (
some (.inl (w.1, (w.2 + 1))))))))
/-- private void placeNote(int) -/
def f_X4_placeNote (n : Nat) (S0 : mem) (x1 : Int32) : Option (mem) :=
cal (f_X4_alone n S0 x1) fun q1 => (
lp (b_X4_placeNote_8 n S0 x1) n (q1, 0))
set_option maxRecDepth 100000 in
set_option maxHeartbeats 4000000 in
theorem c_X4_placeNote (l : Launch) (g : cx) (n : Nat) (S0 : mem) (sz : Nat) (x1 : Int32) (q : mem) (h : f_X4_placeNote n S0 x1 = some q) : Met l yX4_placeNote (wsU yX4_placeNote cX4_placeNote 6 none) (rmD 3) (PcW ixM enM g S0 sz [.ref (g.2.2 0 0), .int x1]) (QvW ixM enM g sz q) 0 0 (Aw ixM g sz) := by
  refine met_intro (Qc := fun z9 => QvW ixM enM g z9 q) (free := fun z9 => Aw ixM g z9) [.ref (g.2.2 0 0), .int x1] RX4 rfl (by decide) (Nat.le_of_ble_eq_true rfl) (fun p e s m args below meth c H locs F hr hlocks B ls hl => ?_)
  have hl : lv_has ls 6 [(0, .ref (g.2.2 0 0)), (1, .int x1)] := hl
  have hx := F.1
  have hb := F.2.1
  unfold f_X4_placeNote at h
  refine lv_aload_n hx hb dX4_placeNote_0 rfl (lv_at hl 0 rfl) ?_
  refine lv_iload_n hx hb dX4_placeNote_1 rfl (lv_at hl 1 rfl) ?_
  obtain ⟨q1, hq1, h⟩ := cal_some h
  refine w_callVi F B (c_X4_alone l g n S0 H.size x1 q1 hq1) mC_X4_alone mM_X4_149 mN_X4 mI_X4_alone mS_X4_alone ixM_0 rfl rfl ⟨ok_X4_alone, by decide⟩ rfl hl.1 rfl (Nat.le_of_ble_eq_true rfl) dX4_placeNote_2 (fun H locs B => ?_)
  refine lv_istore_n (lv' := [(2, .int q1), (0, .ref (g.2.2 0 0)), (1, .int x1)]) hx hb dX4_placeNote_5 rfl hl (by decide) rfl (fun ls hl => ?_)
  refine lv_iconst (v := 0) hx hb dX4_placeNote_6 (by decide) ?_
  refine lv_istore_n (lv' := [(3, .int 0), (2, .int q1), (0, .ref (g.2.2 0 0)), (1, .int x1)]) hx hb dX4_placeNote_7 rfl hl (by decide) rfl (fun ls hl => ?_)
  have L8 : ∀ (k8 : Nat) (S : mem) (x1 : Int32) (x2 : Int32) (x3 : Int32), lp (b_X4_placeNote_8 n S x1) k8 (x2, x3) = some q → ∀ (H : Heap) (locs : List Loc) (ls : Array Slot), Wd ixM enM g S (Aw ixM g s.heap.size) s H locs → lv_has ls 6 [(0, .ref (g.2.2 0 0)), (1, .int x1), (2, .int x2), (3, .int x3)] → W p l e (rmD 3) s m args below meth c H locs 0 0 (MQ below (QvW ixM enM g s.heap.size q) args s 0 0 (Aw ixM g s.heap.size)) (F0 m 8 ls []) := by
    intro k8
    induction k8 with
    | zero => intro S x1 x2 x3 h; exact (lp_zero h).elim
    | succ k8 ih8 =>
      intro S x1 x2 x3 h H locs ls B hl
      obtain ⟨t8, h, ht8⟩ := lp_succ h
      unfold b_X4_placeNote_8 at h
      (try dsimp only at h)
      refine lv_iload_n hx hb dX4_placeNote_8 rfl (lv_at hl 3 rfl) ?_
      refine lv_iconst (v := 4) hx hb dX4_placeNote_9 (by decide) ?_
      refine lv_icmp_ge (tgt := 79) hx hb dX4_placeNote_10 (by decide) (fun c2 => ?_) (fun c2 => ?_)
      · rw [if_pos c2] at h
        refine lv_aload_n hx hb dX4_placeNote_79 rfl (lv_at hl 0 rfl) ?_
        refine lv_iload_n hx hb dX4_placeNote_80 rfl (lv_at hl 1 rfl) ?_
        obtain ⟨q3, hq3, h⟩ := cal_some h
        refine w_callVi F B (c_X4_chordBefore l g n S H.size x1 q3 hq3) mC_X4_chordBefore mM_X4_162 mN_X4 mI_X4_chordBefore mS_X4_chordBefore ixM_0 rfl rfl ⟨ok_X4_chordBefore, by decide⟩ rfl hl.1 rfl (Nat.le_of_ble_eq_true rfl) dX4_placeNote_81 (fun H locs B => ?_)
        refine lv_istore_n (lv' := [(3, .int q3), (0, .ref (g.2.2 0 0)), (1, .int x1), (2, .int x2)]) hx hb dX4_placeNote_84 rfl hl (by decide) rfl (fun ls hl => ?_)
        refine lv_aload_n hx hb dX4_placeNote_85 rfl (lv_at hl 1 rfl) ?_
        refine gt_X4_5 F B mF_X4_61 dX4_placeNote_86 ?_
        refine lv_iload_n hx hb dX4_placeNote_89 rfl (lv_at hl 2 rfl) ?_
        obtain ⟨z4, h⟩ := grd_some h
        refine al_M5 F B  z4 dX4_placeNote_90 ?_
        have J119 : ∀ (x2 : Int32), j_X4_placeNote_119 n S x1 x2 = some t8 → ∀ (H : Heap) (locs : List Loc) (ls : Array Slot), Wd ixM enM g S (Aw ixM g s.heap.size) s H locs → lv_has ls 6 [(0, .ref (g.2.2 0 0)), (1, .int x1), (2, .int x2)] → W p l e (rmD 3) s m args below meth c H locs 0 0 (MQ below (QvW ixM enM g s.heap.size q) args s 0 0 (Aw ixM g s.heap.size)) (F0 m 119 ls []) := by
          intro x2 h H locs ls B hl
          unfold j_X4_placeNote_119 at h
          refine lv_aload_n hx hb dX4_placeNote_119 rfl (lv_at hl 0 rfl) ?_
          refine gt_X4_19 F B mF_X4_85 dX4_placeNote_120 ?_
          refine lv_iload_n hx hb dX4_placeNote_123 rfl (lv_at hl 1 rfl) ?_
          refine lv_iload_n hx hb dX4_placeNote_124 rfl (lv_at hl 2 rfl) ?_
          obtain ⟨z5, h⟩ := grd_some h
          refine as_M19 F B  z5 dX4_placeNote_125 (fun H locs B => ?_)
          refine lv_iconst (v := 0) hx hb dX4_placeNote_126 (by decide) ?_
          refine lv_istore (lv' := [(4, .int 0), (0, .ref (g.2.2 0 0)), (1, .int x1), (2, .int x2)]) hx hb dX4_placeNote_127 hl (by decide) rfl (fun ls hl => ?_)
          have L129 : ∀ (k129 : Nat) (x2 : Int32) (x4 : Int32) (S : mem), lp (b_X4_placeNote_129 n x1 x2) k129 (x4, S) = some t8 → ∀ (H : Heap) (locs : List Loc) (ls : Array Slot), Wd ixM enM g S (Aw ixM g s.heap.size) s H locs → lv_has ls 6 [(0, .ref (g.2.2 0 0)), (1, .int x1), (2, .int x2), (4, .int x4)] → W p l e (rmD 3) s m args below meth c H locs 0 0 (MQ below (QvW ixM enM g s.heap.size q) args s 0 0 (Aw ixM g s.heap.size)) (F0 m 129 ls []) := by
            intro k129
            induction k129 with
            | zero => intro x2 x4 S h; exact (lp_zero h).elim
            | succ k129 ih129 =>
              intro x2 x4 S h H locs ls B hl
              obtain ⟨t129, h, ht129⟩ := lp_succ h
              unfold b_X4_placeNote_129 at h
              (try dsimp only at h)
              refine lv_iload hx hb dX4_placeNote_129 (lv_at hl 3 rfl) ?_
              refine lv_iconst (v := 4) hx hb dX4_placeNote_131 (by decide) ?_
              refine lv_icmp_ge (tgt := 204) hx hb dX4_placeNote_132 (by decide) (fun c6 => ?_) (fun c6 => ?_)
              · rw [if_pos c6] at h
                obtain rfl := Option.some.inj h
                obtain rfl := (show _ = t8 from ht129)
                obtain rfl := (show _ = q from ht8)
                exact w_vret F hr hlocks B dX4_placeNote_204
              · rw [if_neg c6] at h
                refine lv_aload_n hx hb dX4_placeNote_135 rfl (lv_at hl 0 rfl) ?_
                refine lv_iload_n hx hb dX4_placeNote_136 rfl (lv_at hl 1 rfl) ?_
                refine lv_iload hx hb dX4_placeNote_137 (lv_at hl 3 rfl) ?_
                obtain ⟨q7, hq7, h⟩ := cal_some h
                refine w_callVi F B (c_X4_isBox l g n S H.size x1 x4 q7 hq7) mC_X4_isBox mM_X4_135 mN_X4 mI_X4_isBox mS_X4_isBox ixM_0 rfl rfl ⟨ok_X4_isBox, by decide⟩ rfl hl.1 rfl (Nat.le_of_ble_eq_true rfl) dX4_placeNote_139 (fun H locs B => ?_)
                refine lv_if_eq (tgt := 198) hx hb dX4_placeNote_142 (by decide) (fun c8 => ?_) (fun c8 => ?_)
                · rw [if_pos c8] at h
                  refine lv_iinc (v := x4 + 1) (lv' := [(4, .int (x4 + 1)), (0, .ref (g.2.2 0 0)), (1, .int x1), (2, .int x2)]) hx hb dX4_placeNote_198 hl (k := 3) rfl rfl (by decide) rfl (fun ls hl => ?_)
                  refine lv_goto (tgt := 129) hx hb dX4_placeNote_201 (by decide) ?_
                  obtain rfl := Option.some.inj h
                  exact ih129 x2 (x4 + 1) S ht129 H locs ls B (lv_sub hl [1, 2, 3, 0] rfl)
                · rw [if_neg c8] at h
                  refine lv_iload_n hx hb dX4_placeNote_145 rfl (lv_at hl 2 rfl) ?_
                  refine lv_aload_n hx hb dX4_placeNote_146 rfl (lv_at hl 0 rfl) ?_
                  refine lv_iload_n hx hb dX4_placeNote_147 rfl (lv_at hl 1 rfl) ?_
                  refine lv_iload hx hb dX4_placeNote_148 (lv_at hl 3 rfl) ?_
                  obtain ⟨q9, hq9, h⟩ := cal_some h
                  refine w_callVi F B (c_X4_offset l g n S H.size x1 x4 q9 hq9) mC_X4_offset mM_X4_153 mN_X4 mI_X4_offset mS_X4_offset ixM_0 rfl rfl ⟨ok_X4_offset, by decide⟩ rfl hl.1 rfl (Nat.le_of_ble_eq_true rfl) dX4_placeNote_150 (fun H locs B => ?_)
                  refine lv_isub hx hb dX4_placeNote_153 ?_
                  refine lv_istore (lv' := [(5, .int (x2 - q9)), (0, .ref (g.2.2 0 0)), (1, .int x1), (2, .int x2), (4, .int x4)]) hx hb dX4_placeNote_154 hl (by decide) rfl (fun ls hl => ?_)
                  refine lv_aload_n hx hb dX4_placeNote_156 rfl (lv_at hl 1 rfl) ?_
                  refine gt_X4_20 F B mF_X4_88 dX4_placeNote_157 ?_
                  refine lv_iconst (v := 4) hx hb dX4_placeNote_160 (by decide) ?_
                  refine lv_iload_n hx hb dX4_placeNote_161 rfl (lv_at hl 2 rfl) ?_
                  refine lv_imul hx hb dX4_placeNote_162 ?_
                  refine lv_iload hx hb dX4_placeNote_163 (lv_at hl 4 rfl) ?_
                  refine lv_iadd hx hb dX4_placeNote_165 ?_
                  refine lv_aload_n hx hb dX4_placeNote_166 rfl (lv_at hl 1 rfl) ?_
                  refine gt_X4_16 F B mF_X4_42 dX4_placeNote_167 ?_
                  refine lv_iload hx hb dX4_placeNote_170 (lv_at hl 4 rfl) ?_
                  obtain ⟨z10, h⟩ := grd_some h
                  refine al_M16 F B  z10 dX4_placeNote_172 ?_
                  refine lv_if_eq (tgt := 195) hx hb dX4_placeNote_173 (by decide) (fun c11 => ?_) (fun c11 => ?_)
                  · rw [if_pos c11] at h
                    refine lv_iload hx hb dX4_placeNote_195 (lv_at hl 0 rfl) ?_
                    obtain ⟨z12, h⟩ := grd_some h
                    refine as_M20 F B  z12 dX4_placeNote_197 (fun H locs B => ?_)
                    refine lv_iinc (v := x4 + 1) (lv' := [(4, .int (x4 + 1)), (5, .int (x2 - q9)), (0, .ref (g.2.2 0 0)), (1, .int x1), (2, .int x2)]) hx hb dX4_placeNote_198 hl (k := 4) rfl rfl (by decide) rfl (fun ls hl => ?_)
                    refine lv_goto (tgt := 129) hx hb dX4_placeNote_201 (by decide) ?_
                    obtain rfl := Option.some.inj h
                    exact ih129 x2 (x4 + 1) (mup S 20 0 (Int32.toNatClampNeg ((4 * x1) + x4)) (x2 - q9)) ht129 H locs ls B (lv_sub hl [2, 3, 4, 0] rfl)
                  · rw [if_neg c11] at h
                    refine lv_iconst (v := 0) hx hb dX4_placeNote_176 (by decide) ?_
                    refine lv_iload hx hb dX4_placeNote_177 (lv_at hl 0 rfl) ?_
                    obtain ⟨q13, hq13, h⟩ := cal_some h
                    refine w_callSi F B (c_X4_greater l g n S H.size 0 (x2 - q9) q13 hq13) mC_X4_greater mM_X4_156 mN_X4 mT_X4_greater ⟨ok_X4_greater, by decide⟩ rfl hl.1 rfl (Nat.le_of_ble_eq_true rfl) dX4_placeNote_179 (fun H locs B => ?_)
                    refine lv_aload_n hx hb dX4_placeNote_182 rfl (lv_at hl 1 rfl) ?_
                    refine lv_iload_n hx hb dX4_placeNote_183 rfl (lv_at hl 2 rfl) ?_
                    refine lv_iload hx hb dX4_placeNote_184 (lv_at hl 4 rfl) ?_
                    obtain ⟨q14, hq14, h⟩ := cal_some h
                    refine w_callVi F B (c_X4_free l g n S H.size x1 x4 q14 hq14) mC_X4_free mM_X4_159 mN_X4 mI_X4_free mS_X4_free ixM_0 rfl rfl ⟨ok_X4_free, by decide⟩ rfl hl.1 rfl (Nat.le_of_ble_eq_true rfl) dX4_placeNote_186 (fun H locs B => ?_)
                    obtain ⟨q15, hq15, h⟩ := cal_some h
                    refine w_callSi F B (c_X4_greater l g n S H.size q13 q14 q15 hq15) mC_X4_greater mM_X4_156 mN_X4 mT_X4_greater ⟨ok_X4_greater, by decide⟩ rfl hl.1 rfl (Nat.le_of_ble_eq_true rfl) dX4_placeNote_189 (fun H locs B => ?_)
                    refine lv_goto (tgt := 197) hx hb dX4_placeNote_192 (by decide) ?_
                    obtain ⟨z16, h⟩ := grd_some h
                    refine as_M20 F B  z16 dX4_placeNote_197 (fun H locs B => ?_)
                    refine lv_iinc (v := x4 + 1) (lv' := [(4, .int (x4 + 1)), (5, .int (x2 - q9)), (0, .ref (g.2.2 0 0)), (1, .int x1), (2, .int x2)]) hx hb dX4_placeNote_198 hl (k := 4) rfl rfl (by decide) rfl (fun ls hl => ?_)
                    refine lv_goto (tgt := 129) hx hb dX4_placeNote_201 (by decide) ?_
                    obtain rfl := Option.some.inj h
                    exact ih129 x2 (x4 + 1) (mup S 20 0 (Int32.toNatClampNeg ((4 * x1) + x4)) q15) ht129 H locs ls B (lv_sub hl [2, 3, 4, 0] rfl)
          exact L129 n x2 0 (mup S 19 0 (Int32.toNatClampNeg x1) x2) h H locs ls B (lv_sub hl [1, 2, 3, 0] rfl)
        refine lv_if_le (tgt := 119) hx hb dX4_placeNote_91 (by decide) (fun c17 => ?_) (fun c17 => ?_)
        · rw [if_pos c17] at h
          exact J119 x2 h H locs ls B (lv_sub hl [1, 2, 3] rfl)
        · rw [if_neg c17] at h
          refine lv_iload_n hx hb dX4_placeNote_94 rfl (lv_at hl 0 rfl) ?_
          refine lv_if_lt (tgt := 119) hx hb dX4_placeNote_95 (by decide) (fun c18 => ?_) (fun c18 => ?_)
          · rw [if_pos c18] at h
            exact J119 x2 h H locs ls B (lv_sub hl [1, 2, 3] rfl)
          · rw [if_neg c18] at h
            refine lv_iload_n hx hb dX4_placeNote_98 rfl (lv_at hl 3 rfl) ?_
            refine lv_aload_n hx hb dX4_placeNote_99 rfl (lv_at hl 1 rfl) ?_
            refine gt_X4_19 F B mF_X4_85 dX4_placeNote_100 ?_
            refine lv_iload_n hx hb dX4_placeNote_103 rfl (lv_at hl 0 rfl) ?_
            obtain ⟨z19, h⟩ := grd_some h
            refine al_M19 F B  z19 dX4_placeNote_104 ?_
            refine lv_aload_n hx hb dX4_placeNote_105 rfl (lv_at hl 1 rfl) ?_
            refine gt_X4_5 F B mF_X4_61 dX4_placeNote_106 ?_
            refine lv_iload_n hx hb dX4_placeNote_109 rfl (lv_at hl 0 rfl) ?_
            refine al_M5 F B  z19 dX4_placeNote_110 ?_
            refine lv_iadd hx hb dX4_placeNote_111 ?_
            refine lv_bipush (v := 10) hx hb dX4_placeNote_112 (by decide) ?_
            refine lv_iadd hx hb dX4_placeNote_114 ?_
            obtain ⟨q20, hq20, h⟩ := cal_some h
            refine w_callSi F B (c_X4_greater l g n S H.size x2 (((S 19 0 (Int32.toNatClampNeg q3)) + (S 5 0 (Int32.toNatClampNeg q3))) + 10) q20 hq20) mC_X4_greater mM_X4_156 mN_X4 mT_X4_greater ⟨ok_X4_greater, by decide⟩ rfl hl.1 rfl (Nat.le_of_ble_eq_true rfl) dX4_placeNote_115 (fun H locs B => ?_)
            refine lv_istore_n (lv' := [(2, .int q20), (3, .int q3), (0, .ref (g.2.2 0 0)), (1, .int x1)]) hx hb dX4_placeNote_118 rfl hl (by decide) rfl (fun ls hl => ?_)
            exact J119 q20 h H locs ls B (lv_sub hl [2, 3, 0] rfl)
      · rw [if_neg c2] at h
        refine lv_aload_n hx hb dX4_placeNote_13 rfl (lv_at hl 0 rfl) ?_
        refine lv_iload_n hx hb dX4_placeNote_14 rfl (lv_at hl 1 rfl) ?_
        refine lv_iload_n hx hb dX4_placeNote_15 rfl (lv_at hl 3 rfl) ?_
        obtain ⟨q21, hq21, h⟩ := cal_some h
        refine w_callVi F B (c_X4_isBox l g n S H.size x1 x3 q21 hq21) mC_X4_isBox mM_X4_135 mN_X4 mI_X4_isBox mS_X4_isBox ixM_0 rfl rfl ⟨ok_X4_isBox, by decide⟩ rfl hl.1 rfl (Nat.le_of_ble_eq_true rfl) dX4_placeNote_16 (fun H locs B => ?_)
        refine lv_if_eq (tgt := 73) hx hb dX4_placeNote_19 (by decide) (fun c22 => ?_) (fun c22 => ?_)
        · rw [if_pos c22] at h
          refine lv_iinc (v := x3 + 1) (lv' := [(3, .int (x3 + 1)), (0, .ref (g.2.2 0 0)), (1, .int x1), (2, .int x2)]) hx hb dX4_placeNote_73 hl (k := 3) rfl rfl (by decide) rfl (fun ls hl => ?_)
          refine lv_goto (tgt := 8) hx hb dX4_placeNote_76 (by decide) ?_
          obtain rfl := Option.some.inj h
          exact ih8 S x1 x2 (x3 + 1) ht8 H locs ls B (lv_sub hl [1, 2, 3, 0] rfl)
        · rw [if_neg c22] at h
          refine lv_aload_n hx hb dX4_placeNote_22 rfl (lv_at hl 0 rfl) ?_
          refine gt_X4_16 F B mF_X4_42 dX4_placeNote_23 ?_
          refine lv_iload_n hx hb dX4_placeNote_26 rfl (lv_at hl 3 rfl) ?_
          obtain ⟨z23, h⟩ := grd_some h
          refine al_M16 F B  z23 dX4_placeNote_27 ?_
          refine lv_if_ne (tgt := 73) hx hb dX4_placeNote_28 (by decide) (fun c24 => ?_) (fun c24 => ?_)
          · rw [if_neg c24] at h
            refine lv_iinc (v := x3 + 1) (lv' := [(3, .int (x3 + 1)), (0, .ref (g.2.2 0 0)), (1, .int x1), (2, .int x2)]) hx hb dX4_placeNote_73 hl (k := 3) rfl rfl (by decide) rfl (fun ls hl => ?_)
            refine lv_goto (tgt := 8) hx hb dX4_placeNote_76 (by decide) ?_
            obtain rfl := Option.some.inj h
            exact ih8 S x1 x2 (x3 + 1) ht8 H locs ls B (lv_sub hl [1, 2, 3, 0] rfl)
          · rw [if_pos c24] at h
            refine lv_iload_n hx hb dX4_placeNote_31 rfl (lv_at hl 2 rfl) ?_
            refine lv_aload_n hx hb dX4_placeNote_32 rfl (lv_at hl 0 rfl) ?_
            refine lv_iload_n hx hb dX4_placeNote_33 rfl (lv_at hl 1 rfl) ?_
            refine lv_iload_n hx hb dX4_placeNote_34 rfl (lv_at hl 3 rfl) ?_
            obtain ⟨q25, hq25, h⟩ := cal_some h
            refine w_callVi F B (c_X4_offset l g n S H.size x1 x3 q25 hq25) mC_X4_offset mM_X4_153 mN_X4 mI_X4_offset mS_X4_offset ixM_0 rfl rfl ⟨ok_X4_offset, by decide⟩ rfl hl.1 rfl (Nat.le_of_ble_eq_true rfl) dX4_placeNote_35 (fun H locs B => ?_)
            obtain ⟨q26, hq26, h⟩ := cal_some h
            refine w_callSi F B (c_X4_greater l g n S H.size x2 q25 q26 hq26) mC_X4_greater mM_X4_156 mN_X4 mT_X4_greater ⟨ok_X4_greater, by decide⟩ rfl hl.1 rfl (Nat.le_of_ble_eq_true rfl) dX4_placeNote_38 (fun H locs B => ?_)
            refine lv_istore_n (lv' := [(2, .int q26), (0, .ref (g.2.2 0 0)), (1, .int x1), (3, .int x3)]) hx hb dX4_placeNote_41 rfl hl (by decide) rfl (fun ls hl => ?_)
            refine lv_aload_n hx hb dX4_placeNote_42 rfl (lv_at hl 1 rfl) ?_
            refine lv_iload_n hx hb dX4_placeNote_43 rfl (lv_at hl 2 rfl) ?_
            refine lv_iload_n hx hb dX4_placeNote_44 rfl (lv_at hl 3 rfl) ?_
            obtain ⟨q27, hq27, h⟩ := cal_some h
            refine w_callVi F B (c_X4_free l g n S H.size x1 x3 q27 hq27) mC_X4_free mM_X4_159 mN_X4 mI_X4_free mS_X4_free ixM_0 rfl rfl ⟨ok_X4_free, by decide⟩ rfl hl.1 rfl (Nat.le_of_ble_eq_true rfl) dX4_placeNote_45 (fun H locs B => ?_)
            refine lv_istore (lv' := [(4, .int q27), (2, .int q26), (0, .ref (g.2.2 0 0)), (1, .int x1), (3, .int x3)]) hx hb dX4_placeNote_48 hl (by decide) rfl (fun ls hl => ?_)
            refine lv_iload hx hb dX4_placeNote_50 (lv_at hl 0 rfl) ?_
            refine lv_if_ge (tgt := 59) hx hb dX4_placeNote_52 (by decide) (fun c28 => ?_) (fun c28 => ?_)
            · rw [if_pos c28] at h
              refine lv_iload_n hx hb dX4_placeNote_59 rfl (lv_at hl 1 rfl) ?_
              refine lv_iload hx hb dX4_placeNote_60 (lv_at hl 0 rfl) ?_
              refine lv_aload_n hx hb dX4_placeNote_62 rfl (lv_at hl 2 rfl) ?_
              refine lv_iload_n hx hb dX4_placeNote_63 rfl (lv_at hl 3 rfl) ?_
              refine lv_iload_n hx hb dX4_placeNote_64 rfl (lv_at hl 4 rfl) ?_
              obtain ⟨q29, hq29, h⟩ := cal_some h
              refine w_callVi F B (c_X4_offset l g n S H.size x1 x3 q29 hq29) mC_X4_offset mM_X4_153 mN_X4 mI_X4_offset mS_X4_offset ixM_0 rfl rfl ⟨ok_X4_offset, by decide⟩ rfl hl.1 rfl (Nat.le_of_ble_eq_true rfl) dX4_placeNote_65 (fun H locs B => ?_)
              refine lv_iadd hx hb dX4_placeNote_68 ?_
              obtain ⟨q30, hq30, h⟩ := cal_some h
              refine w_callSi F B (c_X4_greater l g n S H.size q26 (q27 + q29) q30 hq30) mC_X4_greater mM_X4_156 mN_X4 mT_X4_greater ⟨ok_X4_greater, by decide⟩ rfl hl.1 rfl (Nat.le_of_ble_eq_true rfl) dX4_placeNote_69 (fun H locs B => ?_)
              refine lv_istore_n (lv' := [(2, .int q30), (4, .int q27), (0, .ref (g.2.2 0 0)), (1, .int x1), (3, .int x3)]) hx hb dX4_placeNote_72 rfl hl (by decide) rfl (fun ls hl => ?_)
              refine lv_iinc (v := x3 + 1) (lv' := [(3, .int (x3 + 1)), (2, .int q30), (4, .int q27), (0, .ref (g.2.2 0 0)), (1, .int x1)]) hx hb dX4_placeNote_73 hl (k := 4) rfl rfl (by decide) rfl (fun ls hl => ?_)
              refine lv_goto (tgt := 8) hx hb dX4_placeNote_76 (by decide) ?_
              obtain rfl := Option.some.inj h
              exact ih8 S x1 q30 (x3 + 1) ht8 H locs ls B (lv_sub hl [3, 4, 1, 0] rfl)
            · rw [if_neg c28] at h
              refine lv_iload_n hx hb dX4_placeNote_55 rfl (lv_at hl 1 rfl) ?_
              refine lv_goto (tgt := 72) hx hb dX4_placeNote_56 (by decide) ?_
              refine lv_istore_n (lv' := [(2, .int q26), (4, .int q27), (0, .ref (g.2.2 0 0)), (1, .int x1), (3, .int x3)]) hx hb dX4_placeNote_72 rfl hl (by decide) rfl (fun ls hl => ?_)
              refine lv_iinc (v := x3 + 1) (lv' := [(3, .int (x3 + 1)), (2, .int q26), (4, .int q27), (0, .ref (g.2.2 0 0)), (1, .int x1)]) hx hb dX4_placeNote_73 hl (k := 4) rfl rfl (by decide) rfl (fun ls hl => ?_)
              refine lv_goto (tgt := 8) hx hb dX4_placeNote_76 (by decide) ?_
              obtain rfl := Option.some.inj h
              exact ih8 S x1 q26 (x3 + 1) ht8 H locs ls B (lv_sub hl [3, 4, 1, 0] rfl)
  exact L8 n S0 x1 q1 0 h H locs ls B (lv_sub hl [2, 3, 1, 0] rfl)
