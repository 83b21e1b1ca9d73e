def j_X4_place_134 (n : Nat) (S : mem) (y0 : Int32) : Option ((Int32 × Int32 × mem) ⊕ (Int32 × mem)) :=
cal (f_X4_greater n (mup S 0 0 18 1) 0 (y0 - (S 0 0 17))) fun q2 => (
some (.inr ((q2, mup S 0 0 18 1))))
def b_X4_place_24 (n : Nat) (S : mem) (x2 : Int32) : (Int32 × Int32) → Option ((Int32 × Int32) ⊕ ((Int32 × Int32 × mem) ⊕ (Int32 × mem))) := fun w =>
if 4 ≤ w.2 then (
grd (¬ (x2 < 0 ∨ 60 ≤ Int32.toNatClampNeg x2)) (
if (S 5 0 (Int32.toNatClampNeg x2)) ≤ 0 then (
some (.inr (.inl (w.1, (x2 + 1), S)))) else (
cal (f_X4_greater n S w.1 ((S 19 0 (Int32.toNatClampNeg x2)) + (S 5 0 (Int32.toNatClampNeg x2)))) fun q10 => (
some (.inr (.inl (q10, (x2 + 1), S))))))) else (
cal (f_X4_isBox n S x2 w.2) fun q11 => (
if q11 = 0 then (
some (.inl (w.1, (w.2 + 1)))) else (
cal (f_X4_endOf n S x2 w.2) fun q13 => (
cal (f_X4_greater n S w.1 q13) fun q14 => (
some (.inl (q14, (w.2 + 1))))))))
def b_X4_place_9 (n : Nat) : (Int32 × Int32 × mem) → Option ((Int32 × Int32 × mem) ⊕ (Int32 × mem)) := fun w =>
if (w.2.2 0 0 1) ≤ w.2.1 then (
if (w.2.2 0 0 1) ≤ 0 then (
j_X4_place_134 n w.2.2 w.1) else (
grd (¬ ((w.2.2 0 0 1) - 1 < 0 ∨ 60 ≤ Int32.toNatClampNeg ((w.2.2 0 0 1) - 1))) (
cal (f_X4_greater n w.2.2 w.1 ((w.2.2 19 0 (Int32.toNatClampNeg ((w.2.2 0 0 1) - 1))) + (w.2.2 2 0 (Int32.toNatClampNeg ((w.2.2 0 0 1) - 1))))) fun q5 => (
j_X4_place_134 n w.2.2 q5)))) else (
cal (f_X4_placeNote n w.2.2 w.2.1) fun q6 => (
lp (b_X4_place_24 n q6 w.2.1) n (w.1, 0)))
/-- public int place() -/
def f_X4_place (n : Nat) (S0 : mem) : Option (Int32 × mem) :=
lp (b_X4_place_9 n ) n (0, 0, (mup S0 0 0 0 0))
set_option maxRecDepth 100000 in
set_option maxHeartbeats 4000000 in
theorem c_X4_place (l : Launch) (g : cx) (n : Nat) (S0 : mem) (sz : Nat)  (q : Int32 × mem) (h : f_X4_place n S0 = some q) : Met l yX4_place (wsU yX4_place cX4_place 4 (some .int)) (rmD 4) (PcW ixM enM g S0 sz [.ref (g.2.2 0 0)]) (QiW ixM enM g sz q.1 q.2) 0 0 (Aw ixM g sz) := by
  refine met_intro (Qc := fun z9 => QiW ixM enM g z9 q.1 q.2) (free := fun z9 => Aw ixM g z9) [.ref (g.2.2 0 0)] RX4 rfl (by decide) (Nat.le_of_ble_eq_true rfl) (fun p e s m args below meth c H locs F hr hlocks B ls hl => ?_)
  have hl : lv_has ls 4 [(0, .ref (g.2.2 0 0))] := hl
  have hx := F.1
  have hb := F.2.1
  unfold f_X4_place at h
  refine lv_aload_n hx hb dX4_place_0 rfl (lv_at hl 0 rfl) ?_
  refine lv_iconst (v := 0) hx hb dX4_place_1 (by decide) ?_
  refine pt_X4_0 F B mF_X4_1 dX4_place_2 (fun H locs B => ?_)
  refine lv_iconst (v := 0) hx hb dX4_place_5 (by decide) ?_
  refine lv_istore_n (lv' := [(1, .int 0), (0, .ref (g.2.2 0 0))]) hx hb dX4_place_6 rfl hl (by decide) rfl (fun ls hl => ?_)
  refine lv_iconst (v := 0) hx hb dX4_place_7 (by decide) ?_
  refine lv_istore_n (lv' := [(2, .int 0), (1, .int 0), (0, .ref (g.2.2 0 0))]) hx hb dX4_place_8 rfl hl (by decide) rfl (fun ls hl => ?_)
  have L9 : ∀ (k9 : Nat) (x1 : Int32) (x2 : Int32) (S : mem), lp (b_X4_place_9 n) k9 (x1, x2, S) = some q → ∀ (H : Heap) (locs : List Loc) (ls : Array Slot), Wd ixM enM g S (Aw ixM g s.heap.size) s H locs → lv_has ls 4 [(0, .ref (g.2.2 0 0)), (1, .int x1), (2, .int x2)] → W p l e (rmD 4) s m args below meth c H locs 0 0 (MQ below (QiW ixM enM g s.heap.size q.1 q.2) args s 0 0 (Aw ixM g s.heap.size)) (F0 m 9 ls []) := by
    intro k9
    induction k9 with
    | zero => intro x1 x2 S h; exact (lp_zero h).elim
    | succ k9 ih9 =>
      intro x1 x2 S h H locs ls B hl
      obtain ⟨t9, h, ht9⟩ := lp_succ h
      unfold b_X4_place_9 at h
      (try dsimp only at h)
      refine lv_iload_n hx hb dX4_place_9 rfl (lv_at hl 2 rfl) ?_
      refine lv_aload_n hx hb dX4_place_10 rfl (lv_at hl 0 rfl) ?_
      refine gt_X4_1 F B mF_X4_7 dX4_place_11 ?_
      refine lv_icmp_ge (tgt := 96) hx hb dX4_place_14 (by decide) (fun c1 => ?_) (fun c1 => ?_)
      · rw [if_pos c1] at h
        refine lv_aload_n hx hb dX4_place_96 rfl (lv_at hl 0 rfl) ?_
        refine gt_X4_1 F B mF_X4_7 dX4_place_97 ?_
        have J134 : ∀ (S : mem) (y0 : Int32), j_X4_place_134 n S y0 = some t9 → ∀ (H : Heap) (locs : List Loc) (ls : Array Slot), Wd ixM enM g S (Aw ixM g s.heap.size) s H locs → lv_has ls 4 [(0, .ref (g.2.2 0 0))] → W p l e (rmD 4) s m args below meth c H locs 0 0 (MQ below (QiW ixM enM g s.heap.size q.1 q.2) args s 0 0 (Aw ixM g s.heap.size)) (F0 m 134 ls [.int y0]) := by
          intro S y0 h H locs ls B hl
          unfold j_X4_place_134 at h
          refine lv_istore_n (lv' := [(1, .int y0), (0, .ref (g.2.2 0 0))]) hx hb dX4_place_134 rfl hl (by decide) rfl (fun ls hl => ?_)
          refine lv_aload_n hx hb dX4_place_135 rfl (lv_at hl 1 rfl) ?_
          refine lv_iconst (v := 1) hx hb dX4_place_136 (by decide) ?_
          refine pt_X4_18 F B (Or.inr rfl) mF_X4_19 dX4_place_137 (fun H locs B => ?_)
          refine lv_iconst (v := 0) hx hb dX4_place_140 (by decide) ?_
          refine lv_iload_n hx hb dX4_place_141 rfl (lv_at hl 0 rfl) ?_
          refine lv_aload_n hx hb dX4_place_142 rfl (lv_at hl 1 rfl) ?_
          refine gt_X4_17 F B mF_X4_16 dX4_place_143 ?_
          refine w_cv (S 0 0 17) (mup_j (by decide)) ?_
          refine lv_isub hx hb dX4_place_146 ?_
          obtain ⟨q2, hq2, h⟩ := cal_some h
          refine w_callSi F B (c_X4_greater l g n (mup S 0 0 18 1) H.size 0 (y0 - (S 0 0 17)) q2 hq2) mC_X4_greater mM_X4_156 mN_X4 mT_X4_greater ⟨ok_X4_greater, by decide⟩ rfl hl.1 rfl (Nat.le_of_ble_eq_true rfl) dX4_place_147 (fun H locs B => ?_)
          obtain rfl := Option.some.inj h
          obtain rfl := (show _ = q from ht9)
          exact w_iret F hr hlocks B dX4_place_150
        refine lv_if_le (tgt := 133) hx hb dX4_place_100 (by decide) (fun c3 => ?_) (fun c3 => ?_)
        · rw [if_pos c3] at h
          refine lv_iload_n hx hb dX4_place_133 rfl (lv_at hl 1 rfl) ?_
          exact J134 S x1 h H locs ls B (lv_sub hl [0] rfl)
        · rw [if_neg c3] at h
          refine lv_iload_n hx hb dX4_place_103 rfl (lv_at hl 1 rfl) ?_
          refine lv_aload_n hx hb dX4_place_104 rfl (lv_at hl 0 rfl) ?_
          refine gt_X4_19 F B mF_X4_85 dX4_place_105 ?_
          refine lv_aload_n hx hb dX4_place_108 rfl (lv_at hl 0 rfl) ?_
          refine gt_X4_1 F B mF_X4_7 dX4_place_109 ?_
          refine lv_iconst (v := 1) hx hb dX4_place_112 (by decide) ?_
          refine lv_isub hx hb dX4_place_113 ?_
          obtain ⟨z4, h⟩ := grd_some h
          refine al_M19 F B  z4 dX4_place_114 ?_
          refine lv_aload_n hx hb dX4_place_115 rfl (lv_at hl 0 rfl) ?_
          refine gt_X4_2 F B mF_X4_52 dX4_place_116 ?_
          refine lv_aload_n hx hb dX4_place_119 rfl (lv_at hl 0 rfl) ?_
          refine gt_X4_1 F B mF_X4_7 dX4_place_120 ?_
          refine lv_iconst (v := 1) hx hb dX4_place_123 (by decide) ?_
          refine lv_isub hx hb dX4_place_124 ?_
          refine al_M2 F B  z4 dX4_place_125 ?_
          refine lv_iadd hx hb dX4_place_126 ?_
          obtain ⟨q5, hq5, h⟩ := cal_some h
          refine w_callSi F B (c_X4_greater l g n S H.size x1 ((S 19 0 (Int32.toNatClampNeg ((S 0 0 1) - 1))) + (S 2 0 (Int32.toNatClampNeg ((S 0 0 1) - 1)))) q5 hq5) mC_X4_greater mM_X4_156 mN_X4 mT_X4_greater ⟨ok_X4_greater, by decide⟩ rfl hl.1 rfl (Nat.le_of_ble_eq_true rfl) dX4_place_127 (fun H locs B => ?_)
          refine lv_goto (tgt := 134) hx hb dX4_place_130 (by decide) ?_
          exact J134 S q5 h H locs ls B (lv_sub hl [0] rfl)
      · rw [if_neg c1] at h
        refine lv_aload_n hx hb dX4_place_17 rfl (lv_at hl 0 rfl) ?_
        refine lv_iload_n hx hb dX4_place_18 rfl (lv_at hl 2 rfl) ?_
        obtain ⟨q6, hq6, h⟩ := cal_some h
        refine w_callVv F B (c_X4_placeNote l g n S H.size x2 q6 hq6) mC_X4_placeNote mM_X4_165 mN_X4 mI_X4_placeNote mS_X4_placeNote ixM_0 rfl rfl ⟨ok_X4_placeNote, by decide⟩ rfl hl.1 rfl (Nat.le_of_ble_eq_true rfl) dX4_place_19 (fun H locs B => ?_)
        refine lv_iconst (v := 0) hx hb dX4_place_22 (by decide) ?_
        refine lv_istore_n (lv' := [(3, .int 0), (0, .ref (g.2.2 0 0)), (1, .int x1), (2, .int x2)]) hx hb dX4_place_23 rfl hl (by decide) rfl (fun ls hl => ?_)
        have L24 : ∀ (k24 : Nat) (S : mem) (x2 : Int32) (x1 : Int32) (x3 : Int32), lp (b_X4_place_24 n S x2) k24 (x1, x3) = some t9 → ∀ (H : Heap) (locs : List Loc) (ls : Array Slot), Wd ixM enM g S (Aw ixM g s.heap.size) s H locs → lv_has ls 4 [(0, .ref (g.2.2 0 0)), (1, .int x1), (2, .int x2), (3, .int x3)] → W p l e (rmD 4) s m args below meth c H locs 0 0 (MQ below (QiW ixM enM g s.heap.size q.1 q.2) args s 0 0 (Aw ixM g s.heap.size)) (F0 m 24 ls []) := by
          intro k24
          induction k24 with
          | zero => intro S x2 x1 x3 h; exact (lp_zero h).elim
          | succ k24 ih24 =>
            intro S x2 x1 x3 h H locs ls B hl
            obtain ⟨t24, h, ht24⟩ := lp_succ h
            unfold b_X4_place_24 at h
            (try dsimp only at h)
            refine lv_iload_n hx hb dX4_place_24 rfl (lv_at hl 3 rfl) ?_
            refine lv_iconst (v := 4) hx hb dX4_place_25 (by decide) ?_
            refine lv_icmp_ge (tgt := 59) hx hb dX4_place_26 (by decide) (fun c7 => ?_) (fun c7 => ?_)
            · rw [if_pos c7] at h
              refine lv_aload_n hx hb dX4_place_59 rfl (lv_at hl 0 rfl) ?_
              refine gt_X4_5 F B mF_X4_61 dX4_place_60 ?_
              refine lv_iload_n hx hb dX4_place_63 rfl (lv_at hl 2 rfl) ?_
              obtain ⟨z8, h⟩ := grd_some h
              refine al_M5 F B  z8 dX4_place_64 ?_
              refine lv_if_le (tgt := 88) hx hb dX4_place_65 (by decide) (fun c9 => ?_) (fun c9 => ?_)
              · rw [if_pos c9] at h
                refine lv_iload_n hx hb dX4_place_88 rfl (lv_at hl 1 rfl) ?_
                refine lv_istore_n (lv' := [(1, .int x1), (0, .ref (g.2.2 0 0)), (2, .int x2), (3, .int x3)]) hx hb dX4_place_89 rfl hl (by decide) rfl (fun ls hl => ?_)
                refine lv_iinc (v := x2 + 1) (lv' := [(2, .int (x2 + 1)), (1, .int x1), (0, .ref (g.2.2 0 0)), (3, .int x3)]) hx hb dX4_place_90 hl (k := 2) rfl rfl (by decide) rfl (fun ls hl => ?_)
                refine lv_goto (tgt := 9) hx hb dX4_place_93 (by decide) ?_
                obtain rfl := Option.some.inj h
                obtain rfl := (show _ = t9 from ht24)
                exact ih9 x1 (x2 + 1) S ht9 H locs ls B (lv_sub hl [2, 1, 0] rfl)
              · rw [if_neg c9] at h
                refine lv_iload_n hx hb dX4_place_68 rfl (lv_at hl 1 rfl) ?_
                refine lv_aload_n hx hb dX4_place_69 rfl (lv_at hl 0 rfl) ?_
                refine gt_X4_19 F B mF_X4_85 dX4_place_70 ?_
                refine lv_iload_n hx hb dX4_place_73 rfl (lv_at hl 2 rfl) ?_
                refine al_M19 F B  z8 dX4_place_74 ?_
                refine lv_aload_n hx hb dX4_place_75 rfl (lv_at hl 0 rfl) ?_
                refine gt_X4_5 F B mF_X4_61 dX4_place_76 ?_
                refine lv_iload_n hx hb dX4_place_79 rfl (lv_at hl 2 rfl) ?_
                refine al_M5 F B  z8 dX4_place_80 ?_
                refine lv_iadd hx hb dX4_place_81 ?_
                obtain ⟨q10, hq10, h⟩ := cal_some h
                refine w_callSi F B (c_X4_greater l g n S H.size x1 ((S 19 0 (Int32.toNatClampNeg x2)) + (S 5 0 (Int32.toNatClampNeg x2))) q10 hq10) mC_X4_greater mM_X4_156 mN_X4 mT_X4_greater ⟨ok_X4_greater, by decide⟩ rfl hl.1 rfl (Nat.le_of_ble_eq_true rfl) dX4_place_82 (fun H locs B => ?_)
                refine lv_goto (tgt := 89) hx hb dX4_place_85 (by decide) ?_
                refine lv_istore_n (lv' := [(1, .int q10), (0, .ref (g.2.2 0 0)), (2, .int x2), (3, .int x3)]) hx hb dX4_place_89 rfl hl (by decide) rfl (fun ls hl => ?_)
                refine lv_iinc (v := x2 + 1) (lv' := [(2, .int (x2 + 1)), (1, .int q10), (0, .ref (g.2.2 0 0)), (3, .int x3)]) hx hb dX4_place_90 hl (k := 2) rfl rfl (by decide) rfl (fun ls hl => ?_)
                refine lv_goto (tgt := 9) hx hb dX4_place_93 (by decide) ?_
                obtain rfl := Option.some.inj h
                obtain rfl := (show _ = t9 from ht24)
                exact ih9 q10 (x2 + 1) S ht9 H locs ls B (lv_sub hl [2, 1, 0] rfl)
            · rw [if_neg c7] at h
              refine lv_aload_n hx hb dX4_place_29 rfl (lv_at hl 0 rfl) ?_
              refine lv_iload_n hx hb dX4_place_30 rfl (lv_at hl 2 rfl) ?_
              refine lv_iload_n hx hb dX4_place_31 rfl (lv_at hl 3 rfl) ?_
              obtain ⟨q11, hq11, h⟩ := cal_some h
              refine w_callVi F B (c_X4_isBox l g n S H.size x2 x3 q11 hq11) mC_X4_isBox mM_X4_135 mN_X4 mI_X4_isBox mS_X4_isBox ixM_0 rfl rfl ⟨ok_X4_isBox, by decide⟩ rfl hl.1 rfl (Nat.le_of_ble_eq_true rfl) dX4_place_32 (fun H locs B => ?_)
              refine lv_if_eq (tgt := 51) hx hb dX4_place_35 (by decide) (fun c12 => ?_) (fun c12 => ?_)
              · rw [if_pos c12] at h
                refine lv_iload_n hx hb dX4_place_51 rfl (lv_at hl 1 rfl) ?_
                refine lv_istore_n (lv' := [(1, .int x1), (0, .ref (g.2.2 0 0)), (2, .int x2), (3, .int x3)]) hx hb dX4_place_52 rfl hl (by decide) rfl (fun ls hl => ?_)
                refine lv_iinc (v := x3 + 1) (lv' := [(3, .int (x3 + 1)), (1, .int x1), (0, .ref (g.2.2 0 0)), (2, .int x2)]) hx hb dX4_place_53 hl (k := 3) rfl rfl (by decide) rfl (fun ls hl => ?_)
                refine lv_goto (tgt := 24) hx hb dX4_place_56 (by decide) ?_
                obtain rfl := Option.some.inj h
                exact ih24 S x2 x1 (x3 + 1) ht24 H locs ls B (lv_sub hl [2, 1, 3, 0] rfl)
              · rw [if_neg c12] at h
                refine lv_iload_n hx hb dX4_place_38 rfl (lv_at hl 1 rfl) ?_
                refine lv_aload_n hx hb dX4_place_39 rfl (lv_at hl 0 rfl) ?_
                refine lv_iload_n hx hb dX4_place_40 rfl (lv_at hl 2 rfl) ?_
                refine lv_iload_n hx hb dX4_place_41 rfl (lv_at hl 3 rfl) ?_
                obtain ⟨q13, hq13, h⟩ := cal_some h
                refine w_callVi F B (c_X4_endOf l g n S H.size x2 x3 q13 hq13) mC_X4_endOf mM_X4_143 mN_X4 mI_X4_endOf mS_X4_endOf ixM_0 rfl rfl ⟨ok_X4_endOf, by decide⟩ rfl hl.1 rfl (Nat.le_of_ble_eq_true rfl) dX4_place_42 (fun H locs B => ?_)
                obtain ⟨q14, hq14, h⟩ := cal_some h
                refine w_callSi F B (c_X4_greater l g n S H.size x1 q13 q14 hq14) mC_X4_greater mM_X4_156 mN_X4 mT_X4_greater ⟨ok_X4_greater, by decide⟩ rfl hl.1 rfl (Nat.le_of_ble_eq_true rfl) dX4_place_45 (fun H locs B => ?_)
                refine lv_goto (tgt := 52) hx hb dX4_place_48 (by decide) ?_
                refine lv_istore_n (lv' := [(1, .int q14), (0, .ref (g.2.2 0 0)), (2, .int x2), (3, .int x3)]) hx hb dX4_place_52 rfl hl (by decide) rfl (fun ls hl => ?_)
                refine lv_iinc (v := x3 + 1) (lv' := [(3, .int (x3 + 1)), (1, .int q14), (0, .ref (g.2.2 0 0)), (2, .int x2)]) hx hb dX4_place_53 hl (k := 3) rfl rfl (by decide) rfl (fun ls hl => ?_)
                refine lv_goto (tgt := 24) hx hb dX4_place_56 (by decide) ?_
                obtain rfl := Option.some.inj h
                exact ih24 S x2 q14 (x3 + 1) ht24 H locs ls B (lv_sub hl [2, 1, 3, 0] rfl)
        exact L24 n q6 x2 x1 0 h H locs ls B (lv_sub hl [1, 2, 3, 0] rfl)
  exact L9 n 0 0 (mup S0 0 0 0 0) h H locs ls B (lv_sub hl [2, 1, 0] rfl)
/-- public int x(int, int) -/
def f_X4_x (n : Nat) (S0 : mem) (x1 : Int32) (x2 : Int32) : Option (Int32 × mem) :=
cal (f_X4_isNote n (mup S0 0 0 0 0) x1) fun q1 => (
if q1 = 0 then (
some ((-1000001, mup S0 0 0 0 0))) else (
cal (f_X4_lies n (mup S0 0 0 0 0) x2 0 1) fun q3 => (
if q3 = 0 then (
some ((-1000002, mup S0 0 0 0 0))) else (
if (S0 0 0 18) = 0 then (
some ((-1000003, mup S0 0 0 0 0))) else (
if x2 = 0 then (
grd (¬ (x1 < 0 ∨ 60 ≤ Int32.toNatClampNeg x1)) (
some ((S0 19 0 (Int32.toNatClampNeg x1), mup S0 0 0 0 0)))) else (
grd (¬ (x1 < 0 ∨ 60 ≤ Int32.toNatClampNeg x1)) (
cal (f_X4_alone n (mup S0 0 0 0 0) x1) fun q8 => (
some (((S0 19 0 (Int32.toNatClampNeg x1)) - q8, mup S0 0 0 0 0))))))))))
set_option maxRecDepth 100000 in
set_option maxHeartbeats 4000000 in
theorem c_X4_x (l : Launch) (g : cx) (n : Nat) (S0 : mem) (sz : Nat) (x1 : Int32) (x2 : Int32) (q : Int32 × mem) (h : f_X4_x n S0 x1 x2 = some q) : Met l yX4_x (wsU yX4_x cX4_x 3 (some .int)) (rmD 2) (PcW ixM enM g S0 sz [.ref (g.2.2 0 0), .int x1, .int x2]) (QiW ixM enM g sz q.1 q.2) 0 0 (Aw ixM g sz) := by
  refine met_intro (Qc := fun z9 => QiW ixM enM g z9 q.1 q.2) (free := fun z9 => Aw ixM g z9) [.ref (g.2.2 0 0), .int x1, .int x2] RX4 rfl (by decide) (Nat.le_of_ble_eq_true rfl) (fun p e s m args below meth c H locs F hr hlocks B ls hl => ?_)
  have hl : lv_has ls 3 [(0, .ref (g.2.2 0 0)), (1, .int x1), (2, .int x2)] := hl
  have hx := F.1
  have hb := F.2.1
  unfold f_X4_x at h
  refine lv_aload_n hx hb dX4_x_0 rfl (lv_at hl 0 rfl) ?_
  refine lv_iconst (v := 0) hx hb dX4_x_1 (by decide) ?_
  refine pt_X4_0 F B mF_X4_1 dX4_x_2 (fun H locs B => ?_)
  refine lv_aload_n hx hb dX4_x_5 rfl (lv_at hl 0 rfl) ?_
  refine lv_iload_n hx hb dX4_x_6 rfl (lv_at hl 1 rfl) ?_
  obtain ⟨q1, hq1, h⟩ := cal_some h
  refine w_callVi F B (c_X4_isNote l g n (mup S0 0 0 0 0) H.size x1 q1 hq1) mC_X4_isNote mM_X4_116 mN_X4 mI_X4_isNote mS_X4_isNote ixM_0 rfl rfl ⟨ok_X4_isNote, by decide⟩ rfl hl.1 rfl (Nat.le_of_ble_eq_true rfl) dX4_x_7 (fun H locs B => ?_)
  refine lv_if_ne (tgt := 16) hx hb dX4_x_10 (by decide) (fun c2 => ?_) (fun c2 => ?_)
  · rw [if_neg c2] at h
    refine lv_iload_n hx hb dX4_x_16 rfl (lv_at hl 2 rfl) ?_
    refine lv_iconst (v := 0) hx hb dX4_x_17 (by decide) ?_
    refine lv_iconst (v := 1) hx hb dX4_x_18 (by decide) ?_
    obtain ⟨q3, hq3, h⟩ := cal_some h
    refine w_callSi F B (c_X4_lies l g n (mup S0 0 0 0 0) H.size x2 0 1 q3 hq3) mC_X4_lies mM_X4_109 mN_X4 mT_X4_lies ⟨ok_X4_lies, by decide⟩ rfl hl.1 rfl (Nat.le_of_ble_eq_true rfl) dX4_x_19 (fun H locs B => ?_)
    refine lv_if_ne (tgt := 28) hx hb dX4_x_22 (by decide) (fun c4 => ?_) (fun c4 => ?_)
    · rw [if_neg c4] at h
      refine lv_aload_n hx hb dX4_x_28 rfl (lv_at hl 0 rfl) ?_
      refine gt_X4_18 F B mF_X4_19 dX4_x_29 ?_
      refine w_cv (S0 0 0 18) (mup_j (by decide)) ?_
      refine lv_if_ne (tgt := 38) hx hb dX4_x_32 (by decide) (fun c5 => ?_) (fun c5 => ?_)
      · rw [if_neg c5] at h
        refine lv_iload_n hx hb dX4_x_38 rfl (lv_at hl 2 rfl) ?_
        refine lv_if_ne (tgt := 51) hx hb dX4_x_39 (by decide) (fun c6 => ?_) (fun c6 => ?_)
        · rw [if_neg c6] at h
          refine lv_aload_n hx hb dX4_x_51 rfl (lv_at hl 0 rfl) ?_
          refine gt_X4_19 F B mF_X4_85 dX4_x_52 ?_
          refine lv_iload_n hx hb dX4_x_55 rfl (lv_at hl 1 rfl) ?_
          obtain ⟨z7, h⟩ := grd_some h
          refine al_M19 F B  z7 dX4_x_56 ?_
          refine w_cv (S0 19 0 (Int32.toNatClampNeg x1)) (mup_k (by decide)) ?_
          refine lv_aload_n hx hb dX4_x_57 rfl (lv_at hl 0 rfl) ?_
          refine lv_iload_n hx hb dX4_x_58 rfl (lv_at hl 1 rfl) ?_
          obtain ⟨q8, hq8, h⟩ := cal_some h
          refine w_callVi F B (c_X4_alone l g n (mup S0 0 0 0 0) H.size x1 q8 hq8) mC_X4_alone mM_X4_149 mN_X4 mI_X4_alone mS_X4_alone ixM_0 rfl rfl ⟨ok_X4_alone, by decide⟩ rfl hl.1 rfl (Nat.le_of_ble_eq_true rfl) dX4_x_59 (fun H locs B => ?_)
          refine lv_isub hx hb dX4_x_62 ?_
          obtain rfl := Option.some.inj h
          exact w_iret F hr hlocks B dX4_x_63
        · rw [if_pos c6] at h
          refine lv_aload_n hx hb dX4_x_42 rfl (lv_at hl 0 rfl) ?_
          refine gt_X4_19 F B mF_X4_85 dX4_x_43 ?_
          refine lv_iload_n hx hb dX4_x_46 rfl (lv_at hl 1 rfl) ?_
          obtain ⟨z9, h⟩ := grd_some h
          refine al_M19 F B  z9 dX4_x_47 ?_
          refine w_cv (S0 19 0 (Int32.toNatClampNeg x1)) (mup_k (by decide)) ?_
          refine lv_goto (tgt := 63) hx hb dX4_x_48 (by decide) ?_
          obtain rfl := Option.some.inj h
          exact w_iret F hr hlocks B dX4_x_63
      · rw [if_pos c5] at h
        refine lv_ldc (v := -1000003) hx hb F.2.2.2.1 (F.2.2.2.2 _ (wsU_in mK_X4_127)) dX4_x_35 ?_
        obtain rfl := Option.some.inj h
        exact w_iret F hr hlocks B dX4_x_37
    · rw [if_pos c4] at h
      refine lv_ldc (v := -1000002) hx hb F.2.2.2.1 (F.2.2.2.2 _ (wsU_in mK_X4_113)) dX4_x_25 ?_
      obtain rfl := Option.some.inj h
      exact w_iret F hr hlocks B dX4_x_27
  · rw [if_pos c2] at h
    refine lv_ldc (v := -1000001) hx hb F.2.2.2.1 (F.2.2.2.2 _ (wsU_in mK_X4_123)) dX4_x_13 ?_
    obtain rfl := Option.some.inj h
    exact w_iret F hr hlocks B dX4_x_15
/-- private boolean noBox(int, int) -/
def f_X4_noBox (n : Nat) (S0 : mem) (x1 : Int32) (x2 : Int32) : Option (Int32) :=
cal (f_X4_isNote n S0 x1) fun q1 => (
if q1 = 0 then (
some (1)) else (
cal (f_X4_isVerse n S0 x2) fun q3 => (
if q3 = 0 then (
some (1)) else (
cal (f_X4_isBox n S0 x1 x2) fun q5 => (
if q5 = 0 then (
some (1)) else (
some (0)))))))
set_option maxRecDepth 100000 in
set_option maxHeartbeats 4000000 in
theorem c_X4_noBox (l : Launch) (g : cx) (n : Nat) (S0 : mem) (sz : Nat) (x1 : Int32) (x2 : Int32) (q : Int32) (h : f_X4_noBox n S0 x1 x2 = some q) : Met l yX4_noBox (wsU yX4_noBox cX4_noBox 3 (some .boolean)) (rmD 2) (PcW ixM enM g S0 sz [.ref (g.2.2 0 0), .int x1, .int x2]) (QiW ixM enM g sz q S0) 0 0 (Aw ixM g sz) := by
  refine met_intro (Qc := fun z9 => QiW ixM enM g z9 q S0) (free := fun z9 => Aw ixM g z9) [.ref (g.2.2 0 0), .int x1, .int x2] RX4 rfl (by decide) (Nat.le_of_ble_eq_true rfl) (fun p e s m args below meth c H locs F hr hlocks B ls hl => ?_)
  have hl : lv_has ls 3 [(0, .ref (g.2.2 0 0)), (1, .int x1), (2, .int x2)] := hl
  have hx := F.1
  have hb := F.2.1
  unfold f_X4_noBox at h
  refine lv_aload_n hx hb dX4_noBox_0 rfl (lv_at hl 0 rfl) ?_
  refine lv_iload_n hx hb dX4_noBox_1 rfl (lv_at hl 1 rfl) ?_
  obtain ⟨q1, hq1, h⟩ := cal_some h
  refine w_callVi F B (c_X4_isNote l g n S0 H.size x1 q1 hq1) mC_X4_isNote mM_X4_116 mN_X4 mI_X4_isNote mS_X4_isNote ixM_0 rfl rfl ⟨ok_X4_isNote, by decide⟩ rfl hl.1 rfl (Nat.le_of_ble_eq_true rfl) dX4_noBox_2 (fun H locs B => ?_)
  refine lv_if_eq (tgt := 24) hx hb dX4_noBox_5 (by decide) (fun c2 => ?_) (fun c2 => ?_)
  · rw [if_pos c2] at h
    refine lv_iconst (v := 1) hx hb dX4_noBox_24 (by decide) ?_
    refine lv_goto (tgt := 29) hx hb dX4_noBox_25 (by decide) ?_
    obtain rfl := Option.some.inj h
    exact w_zret F hr hlocks (Or.inr rfl) B dX4_noBox_29
  · rw [if_neg c2] at h
    refine lv_iload_n hx hb dX4_noBox_8 rfl (lv_at hl 2 rfl) ?_
    obtain ⟨q3, hq3, h⟩ := cal_some h
    refine w_callSi F B (c_X4_isVerse l g n S0 H.size x2 q3 hq3) mC_X4_isVerse mM_X4_120 mN_X4 mT_X4_isVerse ⟨ok_X4_isVerse, by decide⟩ rfl hl.1 rfl (Nat.le_of_ble_eq_true rfl) dX4_noBox_9 (fun H locs B => ?_)
    refine lv_if_eq (tgt := 24) hx hb dX4_noBox_12 (by decide) (fun c4 => ?_) (fun c4 => ?_)
    · rw [if_pos c4] at h
      refine lv_iconst (v := 1) hx hb dX4_noBox_24 (by decide) ?_
      refine lv_goto (tgt := 29) hx hb dX4_noBox_25 (by decide) ?_
      obtain rfl := Option.some.inj h
      exact w_zret F hr hlocks (Or.inr rfl) B dX4_noBox_29
    · rw [if_neg c4] at h
      refine lv_aload_n hx hb dX4_noBox_15 rfl (lv_at hl 0 rfl) ?_
      refine lv_iload_n hx hb dX4_noBox_16 rfl (lv_at hl 1 rfl) ?_
      refine lv_iload_n hx hb dX4_noBox_17 rfl (lv_at hl 2 rfl) ?_
      obtain ⟨q5, hq5, h⟩ := cal_some h
      refine w_callVi F B (c_X4_isBox l g n S0 H.size x1 x2 q5 hq5) mC_X4_isBox mM_X4_135 mN_X4 mI_X4_isBox mS_X4_isBox ixM_0 rfl rfl ⟨ok_X4_isBox, by decide⟩ rfl hl.1 rfl (Nat.le_of_ble_eq_true rfl) dX4_noBox_18 (fun H locs B => ?_)
      refine lv_if_ne (tgt := 28) hx hb dX4_noBox_21 (by decide) (fun c6 => ?_) (fun c6 => ?_)
      · rw [if_neg c6] at h
        refine lv_iconst (v := 0) hx hb dX4_noBox_28 (by decide) ?_
        obtain rfl := Option.some.inj h
        exact w_zret F hr hlocks (Or.inl rfl) B dX4_noBox_29
      · rw [if_pos c6] at h
        refine lv_iconst (v := 1) hx hb dX4_noBox_24 (by decide) ?_
        refine lv_goto (tgt := 29) hx hb dX4_noBox_25 (by decide) ?_
        obtain rfl := Option.some.inj h
        exact w_zret F hr hlocks (Or.inr rfl) B dX4_noBox_29
/-- public int box(int, int, int) -/
def f_X4_box (n : Nat) (S0 : mem) (x1 : Int32) (x2 : Int32) (x3 : Int32) : Option (Int32 × mem) :=
cal (f_X4_noBox n (mup S0 0 0 0 0) x1 x2) fun q1 => (
if q1 = 0 then (
cal (f_X4_lies n (mup S0 0 0 0 0) x3 0 4) fun q3 => (
if q3 = 0 then (
some ((-1000002, mup S0 0 0 0 0))) else (
if (S0 0 0 18) = 0 then (
some ((-1000003, mup S0 0 0 0 0))) else (
grd (¬ ((4 * x1) + x2 < 0 ∨ 240 ≤ Int32.toNatClampNeg ((4 * x1) + x2))) (
cal (f_X4_endOf n (mup S0 0 0 0 0) x1 x2) fun q7 => (
if x3 = 0 then (
some ((S0 20 0 (Int32.toNatClampNeg ((4 * x1) + x2)), mup S0 0 0 0 0))) else (
if x3 = 1 then (
cal (f_X4_wideOf n (mup S0 0 0 0 0) x1 x2) fun q10 => (
some ((q10, mup S0 0 0 0 0)))) else (
if x3 = 2 then (
if (S0 11 0 (Int32.toNatClampNeg ((4 * x1) + x2))) = 2 then (
some ((1, mup S0 0 0 0 0))) else (
some ((0, mup S0 0 0 0 0)))) else (
if x3 = 3 then (
some ((q7, mup S0 0 0 0 0))) else (
grd (¬ (x1 < 0 ∨ 60 ≤ Int32.toNatClampNeg x1)) (
if (S0 19 0 (Int32.toNatClampNeg x1)) < (S0 20 0 (Int32.toNatClampNeg ((4 * x1) + x2))) then (
some ((0, mup S0 0 0 0 0))) else (
if q7 < (S0 19 0 (Int32.toNatClampNeg x1)) then (
some ((0, mup S0 0 0 0 0))) else (
some ((1, mup S0 0 0 0 0))))))))))))))) else (
some ((-1000001, mup S0 0 0 0 0))))
set_option maxRecDepth 100000 in
set_option maxHeartbeats 4000000 in
theorem c_X4_box (l : Launch) (g : cx) (n : Nat) (S0 : mem) (sz : Nat) (x1 : Int32) (x2 : Int32) (x3 : Int32) (q : Int32 × mem) (h : f_X4_box n S0 x1 x2 x3 = some q) : Met l yX4_box (wsU yX4_box cX4_box 6 (some .int)) (rmD 3) (PcW ixM enM g S0 sz [.ref (g.2.2 0 0), .int x1, .int x2, .int x3]) (QiW ixM enM g sz q.1 q.2) 0 0 (Aw ixM g sz) := by
  refine met_intro (Qc := fun z9 => QiW ixM enM g z9 q.1 q.2) (free := fun z9 => Aw ixM g z9) [.ref (g.2.2 0 0), .int x1, .int x2, .int x3] RX4 rfl (by decide) (Nat.le_of_ble_eq_true rfl) (fun p e s m args below meth c H locs F hr hlocks B ls hl => ?_)
  have hl : lv_has ls 6 [(0, .ref (g.2.2 0 0)), (1, .int x1), (2, .int x2), (3, .int x3)] := hl
  have hx := F.1
  have hb := F.2.1
  unfold f_X4_box at h
  refine lv_aload_n hx hb dX4_box_0 rfl (lv_at hl 0 rfl) ?_
  refine lv_iconst (v := 0) hx hb dX4_box_1 (by decide) ?_
  refine pt_X4_0 F B mF_X4_1 dX4_box_2 (fun H locs B => ?_)
  refine lv_aload_n hx hb dX4_box_5 rfl (lv_at hl 0 rfl) ?_
  refine lv_iload_n hx hb dX4_box_6 rfl (lv_at hl 1 rfl) ?_
  refine lv_iload_n hx hb dX4_box_7 rfl (lv_at hl 2 rfl) ?_
  obtain ⟨q1, hq1, h⟩ := cal_some h
  refine w_callVi F B (c_X4_noBox l g n (mup S0 0 0 0 0) H.size x1 x2 q1 hq1) mC_X4_noBox mM_X4_169 mN_X4 mI_X4_noBox mS_X4_noBox ixM_0 rfl rfl ⟨ok_X4_noBox, by decide⟩ rfl hl.1 rfl (Nat.le_of_ble_eq_true rfl) dX4_box_8 (fun H locs B => ?_)
  refine lv_if_eq (tgt := 17) hx hb dX4_box_11 (by decide) (fun c2 => ?_) (fun c2 => ?_)
  · rw [if_pos c2] at h
    refine lv_iload_n hx hb dX4_box_17 rfl (lv_at hl 3 rfl) ?_
    refine lv_iconst (v := 0) hx hb dX4_box_18 (by decide) ?_
    refine lv_iconst (v := 4) hx hb dX4_box_19 (by decide) ?_
    obtain ⟨q3, hq3, h⟩ := cal_some h
    refine w_callSi F B (c_X4_lies l g n (mup S0 0 0 0 0) H.size x3 0 4 q3 hq3) mC_X4_lies mM_X4_109 mN_X4 mT_X4_lies ⟨ok_X4_lies, by decide⟩ rfl hl.1 rfl (Nat.le_of_ble_eq_true rfl) dX4_box_20 (fun H locs B => ?_)
    refine lv_if_ne (tgt := 29) hx hb dX4_box_23 (by decide) (fun c4 => ?_) (fun c4 => ?_)
    · rw [if_neg c4] at h
      refine lv_aload_n hx hb dX4_box_29 rfl (lv_at hl 0 rfl) ?_
      refine gt_X4_18 F B mF_X4_19 dX4_box_30 ?_
      refine w_cv (S0 0 0 18) (mup_j (by decide)) ?_
      refine lv_if_ne (tgt := 39) hx hb dX4_box_33 (by decide) (fun c5 => ?_) (fun c5 => ?_)
      · rw [if_neg c5] at h
        refine lv_aload_n hx hb dX4_box_39 rfl (lv_at hl 0 rfl) ?_
        refine gt_X4_20 F B mF_X4_88 dX4_box_40 ?_
        refine lv_iconst (v := 4) hx hb dX4_box_43 (by decide) ?_
        refine lv_iload_n hx hb dX4_box_44 rfl (lv_at hl 1 rfl) ?_
        refine lv_imul hx hb dX4_box_45 ?_
        refine lv_iload_n hx hb dX4_box_46 rfl (lv_at hl 2 rfl) ?_
        refine lv_iadd hx hb dX4_box_47 ?_
        obtain ⟨z6, h⟩ := grd_some h
        refine al_M20 F B  z6 dX4_box_48 ?_
        refine w_cv (S0 20 0 (Int32.toNatClampNeg ((4 * x1) + x2))) (mup_k (by decide)) ?_
        refine lv_istore (lv' := [(4, .int (S0 20 0 (Int32.toNatClampNeg ((4 * x1) + x2)))), (0, .ref (g.2.2 0 0)), (1, .int x1), (2, .int x2), (3, .int x3)]) hx hb dX4_box_49 hl (by decide) rfl (fun ls hl => ?_)
        refine lv_aload_n hx hb dX4_box_51 rfl (lv_at hl 1 rfl) ?_
        refine lv_iload_n hx hb dX4_box_52 rfl (lv_at hl 2 rfl) ?_
        refine lv_iload_n hx hb dX4_box_53 rfl (lv_at hl 3 rfl) ?_
        obtain ⟨q7, hq7, h⟩ := cal_some h
        refine w_callVi F B (c_X4_endOf l g n (mup S0 0 0 0 0) H.size x1 x2 q7 hq7) mC_X4_endOf mM_X4_143 mN_X4 mI_X4_endOf mS_X4_endOf ixM_0 rfl rfl ⟨ok_X4_endOf, by decide⟩ rfl hl.1 rfl (Nat.le_of_ble_eq_true rfl) dX4_box_54 (fun H locs B => ?_)
        refine lv_istore (lv' := [(5, .int q7), (4, .int (S0 20 0 (Int32.toNatClampNeg ((4 * x1) + x2)))), (0, .ref (g.2.2 0 0)), (1, .int x1), (2, .int x2), (3, .int x3)]) hx hb dX4_box_57 hl (by decide) rfl (fun ls hl => ?_)
        refine lv_iload_n hx hb dX4_box_59 rfl (lv_at hl 5 rfl) ?_
        by_cases c8 : x3 = 0
        · rw [if_pos c8] at h
          refine lv_tableIn (tgt := 92) hx hb dX4_box_60 (by rw [c8]; decide) (by rw [c8]; decide) (by rw [c8]; rfl) (by decide) ?_
          refine lv_iload hx hb dX4_box_92 (lv_at hl 1 rfl) ?_
          obtain rfl := Option.some.inj h
          exact w_iret F hr hlocks B dX4_box_94
        · rw [if_neg c8] at h
          by_cases c9 : x3 = 1
          · rw [if_pos c9] at h
            refine lv_tableIn (tgt := 95) hx hb dX4_box_60 (by rw [c9]; decide) (by rw [c9]; decide) (by rw [c9]; rfl) (by decide) ?_
            refine lv_aload_n hx hb dX4_box_95 rfl (lv_at hl 2 rfl) ?_
            refine lv_iload_n hx hb dX4_box_96 rfl (lv_at hl 3 rfl) ?_
            refine lv_iload_n hx hb dX4_box_97 rfl (lv_at hl 4 rfl) ?_
            obtain ⟨q10, hq10, h⟩ := cal_some h
            refine w_callVi F B (c_X4_wideOf l g n (mup S0 0 0 0 0) H.size x1 x2 q10 hq10) mC_X4_wideOf mM_X4_132 mN_X4 mI_X4_wideOf mS_X4_wideOf ixM_0 rfl rfl ⟨ok_X4_wideOf, by decide⟩ rfl hl.1 rfl (Nat.le_of_ble_eq_true rfl) dX4_box_98 (fun H locs B => ?_)
            obtain rfl := Option.some.inj h
            exact w_iret F hr hlocks B dX4_box_101
          · rw [if_neg c9] at h
            by_cases c11 : x3 = 2
            · rw [if_pos c11] at h
              refine lv_tableIn (tgt := 102) hx hb dX4_box_60 (by rw [c11]; decide) (by rw [c11]; decide) (by rw [c11]; rfl) (by decide) ?_
              refine lv_aload_n hx hb dX4_box_102 rfl (lv_at hl 2 rfl) ?_
              refine gt_X4_11 F B mF_X4_73 dX4_box_103 ?_
              refine lv_iconst (v := 4) hx hb dX4_box_106 (by decide) ?_
              refine lv_iload_n hx hb dX4_box_107 rfl (lv_at hl 3 rfl) ?_
              refine lv_imul hx hb dX4_box_108 ?_
              refine lv_iload_n hx hb dX4_box_109 rfl (lv_at hl 4 rfl) ?_
              refine lv_iadd hx hb dX4_box_110 ?_
              refine al_M11 F B  z6 dX4_box_111 ?_
              refine w_cv (S0 11 0 (Int32.toNatClampNeg ((4 * x1) + x2))) (mup_k (by decide)) ?_
              refine lv_iconst (v := 2) hx hb dX4_box_112 (by decide) ?_
              refine lv_icmp_ne (tgt := 120) hx hb dX4_box_113 (by decide) (fun c12 => ?_) (fun c12 => ?_)
              · rw [if_neg c12] at h
                refine lv_iconst (v := 0) hx hb dX4_box_120 (by decide) ?_
                obtain rfl := Option.some.inj h
                exact w_iret F hr hlocks B dX4_box_121
              · rw [if_pos c12] at h
                refine lv_iconst (v := 1) hx hb dX4_box_116 (by decide) ?_
                refine lv_goto (tgt := 121) hx hb dX4_box_117 (by decide) ?_
                obtain rfl := Option.some.inj h
                exact w_iret F hr hlocks B dX4_box_121
            · rw [if_neg c11] at h
              by_cases c13 : x3 = 3
              · rw [if_pos c13] at h
                refine lv_tableIn (tgt := 122) hx hb dX4_box_60 (by rw [c13]; decide) (by rw [c13]; decide) (by rw [c13]; rfl) (by decide) ?_
                refine lv_iload hx hb dX4_box_122 (lv_at hl 0 rfl) ?_
                obtain rfl := Option.some.inj h
                exact w_iret F hr hlocks B dX4_box_124
              · rw [if_neg c13] at h
                refine lv_tableOut (tgt := 125) hx hb dX4_box_60 (sw_out (fun z h1 h2 => by rcases (show z = 0 ∨ z = 1 ∨ z = 2 ∨ z = 3 by omega) with rfl | rfl | rfl | rfl <;> first | exact c8 | exact c9 | exact c11 | exact c13)) (by decide) ?_
                refine lv_aload_n hx hb dX4_box_125 rfl (lv_at hl 2 rfl) ?_
                refine gt_X4_19 F B mF_X4_85 dX4_box_126 ?_
                refine lv_iload_n hx hb dX4_box_129 rfl (lv_at hl 3 rfl) ?_
                obtain ⟨z14, h⟩ := grd_some h
                refine al_M19 F B  z14 dX4_box_130 ?_
                refine w_cv (S0 19 0 (Int32.toNatClampNeg x1)) (mup_k (by decide)) ?_
                refine lv_iload hx hb dX4_box_131 (lv_at hl 1 rfl) ?_
                refine lv_icmp_lt (tgt := 151) hx hb dX4_box_133 (by decide) (fun c15 => ?_) (fun c15 => ?_)
                · rw [if_pos c15] at h
                  refine lv_iconst (v := 0) hx hb dX4_box_151 (by decide) ?_
                  obtain rfl := Option.some.inj h
                  exact w_iret F hr hlocks B dX4_box_152
                · rw [if_neg c15] at h
                  refine lv_aload_n hx hb dX4_box_136 rfl (lv_at hl 2 rfl) ?_
                  refine gt_X4_19 F B mF_X4_85 dX4_box_137 ?_
                  refine lv_iload_n hx hb dX4_box_140 rfl (lv_at hl 3 rfl) ?_
                  refine al_M19 F B  z14 dX4_box_141 ?_
                  refine w_cv (S0 19 0 (Int32.toNatClampNeg x1)) (mup_k (by decide)) ?_
                  refine lv_iload hx hb dX4_box_142 (lv_at hl 0 rfl) ?_
                  refine lv_icmp_gt (tgt := 151) hx hb dX4_box_144 (by decide) (fun c16 => ?_) (fun c16 => ?_)
                  · rw [if_pos c16] at h
                    refine lv_iconst (v := 0) hx hb dX4_box_151 (by decide) ?_
                    obtain rfl := Option.some.inj h
                    exact w_iret F hr hlocks B dX4_box_152
                  · rw [if_neg c16] at h
                    refine lv_iconst (v := 1) hx hb dX4_box_147 (by decide) ?_
                    refine lv_goto (tgt := 152) hx hb dX4_box_148 (by decide) ?_
                    obtain rfl := Option.some.inj h
                    exact w_iret F hr hlocks B dX4_box_152
      · rw [if_pos c5] at h
        refine lv_ldc (v := -1000003) hx hb F.2.2.2.1 (F.2.2.2.2 _ (wsU_in mK_X4_127)) dX4_box_36 ?_
        obtain rfl := Option.some.inj h
        exact w_iret F hr hlocks B dX4_box_38
    · rw [if_pos c4] at h
      refine lv_ldc (v := -1000002) hx hb F.2.2.2.1 (F.2.2.2.2 _ (wsU_in mK_X4_113)) dX4_box_26 ?_
      obtain rfl := Option.some.inj h
      exact w_iret F hr hlocks B dX4_box_28
  · rw [if_neg c2] at h
    refine lv_ldc (v := -1000001) hx hb F.2.2.2.1 (F.2.2.2.2 _ (wsU_in mK_X4_123)) dX4_box_14 ?_
    obtain rfl := Option.some.inj h
    exact w_iret F hr hlocks B dX4_box_16
/-- private int hyphenMany(int, int) -/
def f_X4_hyphenMany (n : Nat) (S0 : mem) (x1 : Int32) (x2 : Int32) : Option (Int32 × mem) :=
cal (f_X4_other n S0 x1 x2 1) fun q1 => (
cal (f_X4_goesOn n S0 x1 x2) fun q2 => (
if q2 = 0 then (
some ((0, S0))) else (
if q1 = (-1000009) then (
some ((0, S0))) else (
grd (¬ ((4 * q1) + x2 < 0 ∨ 240 ≤ Int32.toNatClampNeg ((4 * q1) + x2))) (
cal (f_X4_endOf n S0 x1 x2) fun q6 => (
if 10 ≤ ((S0 20 0 (Int32.toNatClampNeg ((4 * q1) + x2))) - q6) then (
some ((1 + ((((S0 20 0 (Int32.toNatClampNeg ((4 * q1) + x2))) - q6) - 10) / 80), mup S0 0 0 21 ((S0 20 0 (Int32.toNatClampNeg ((4 * q1) + x2))) - q6)))) else (
some ((0, mup S0 0 0 21 ((S0 20 0 (Int32.toNatClampNeg ((4 * q1) + x2))) - q6))))))))))
set_option maxRecDepth 100000 in
set_option maxHeartbeats 4000000 in
theorem c_X4_hyphenMany (l : Launch) (g : cx) (n : Nat) (S0 : mem) (sz : Nat) (x1 : Int32) (x2 : Int32) (q : Int32 × mem) (h : f_X4_hyphenMany n S0 x1 x2 = some q) : Met l yX4_hyphenMany (wsU yX4_hyphenMany cX4_hyphenMany 4 (some .int)) (rmD 2) (PcW ixM enM g S0 sz [.ref (g.2.2 0 0), .int x1, .int x2]) (QiW ixM enM g sz q.1 q.2) 0 0 (Aw ixM g sz) := by
  refine met_intro (Qc := fun z9 => QiW ixM enM g z9 q.1 q.2) (free := fun z9 => Aw ixM g z9) [.ref (g.2.2 0 0), .int x1, .int x2] RX4 rfl (by decide) (Nat.le_of_ble_eq_true rfl) (fun p e s m args below meth c H locs F hr hlocks B ls hl => ?_)
  have hl : lv_has ls 4 [(0, .ref (g.2.2 0 0)), (1, .int x1), (2, .int x2)] := hl
  have hx := F.1
  have hb := F.2.1
  unfold f_X4_hyphenMany at h
  refine lv_aload_n hx hb dX4_hyphenMany_0 rfl (lv_at hl 0 rfl) ?_
  refine lv_iload_n hx hb dX4_hyphenMany_1 rfl (lv_at hl 1 rfl) ?_
  refine lv_iload_n hx hb dX4_hyphenMany_2 rfl (lv_at hl 2 rfl) ?_
  refine lv_iconst (v := 1) hx hb dX4_hyphenMany_3 (by decide) ?_
  obtain ⟨q1, hq1, h⟩ := cal_some h
  refine w_callVi F B (c_X4_other l g n S0 H.size x1 x2 1 q1 hq1) mC_X4_other mM_X4_139 mN_X4 mI_X4_other mS_X4_other ixM_0 rfl rfl ⟨ok_X4_other, by decide⟩ rfl hl.1 rfl (Nat.le_of_ble_eq_true rfl) dX4_hyphenMany_4 (fun H locs B => ?_)
  refine lv_istore_n (lv' := [(3, .int q1), (0, .ref (g.2.2 0 0)), (1, .int x1), (2, .int x2)]) hx hb dX4_hyphenMany_7 rfl hl (by decide) rfl (fun ls hl => ?_)
  refine lv_aload_n hx hb dX4_hyphenMany_8 rfl (lv_at hl 1 rfl) ?_
  refine lv_iload_n hx hb dX4_hyphenMany_9 rfl (lv_at hl 2 rfl) ?_
  refine lv_iload_n hx hb dX4_hyphenMany_10 rfl (lv_at hl 3 rfl) ?_
  obtain ⟨q2, hq2, h⟩ := cal_some h
  refine w_callVi F B (c_X4_goesOn l g n S0 H.size x1 x2 q2 hq2) mC_X4_goesOn mM_X4_146 mN_X4 mI_X4_goesOn mS_X4_goesOn ixM_0 rfl rfl ⟨ok_X4_goesOn, by decide⟩ rfl hl.1 rfl (Nat.le_of_ble_eq_true rfl) dX4_hyphenMany_11 (fun H locs B => ?_)
  refine lv_if_eq (tgt := 23) hx hb dX4_hyphenMany_14 (by decide) (fun c3 => ?_) (fun c3 => ?_)
  · rw [if_pos c3] at h
    refine lv_iconst (v := 0) hx hb dX4_hyphenMany_23 (by decide) ?_
    obtain rfl := Option.some.inj h
    exact w_iret F hr hlocks B dX4_hyphenMany_24
  · rw [if_neg c3] at h
    refine lv_iload_n hx hb dX4_hyphenMany_17 rfl (lv_at hl 0 rfl) ?_
    refine lv_ldc (v := -1000009) hx hb F.2.2.2.1 (F.2.2.2.2 _ (wsU_in mK_X4_115)) dX4_hyphenMany_18 ?_
    refine lv_icmp_ne (tgt := 25) hx hb dX4_hyphenMany_20 (by decide) (fun c4 => ?_) (fun c4 => ?_)
    · rw [if_neg c4] at h
      refine lv_aload_n hx hb dX4_hyphenMany_25 rfl (lv_at hl 1 rfl) ?_
      refine lv_aload_n hx hb dX4_hyphenMany_26 rfl (lv_at hl 1 rfl) ?_
      refine gt_X4_20 F B mF_X4_88 dX4_hyphenMany_27 ?_
      refine lv_iconst (v := 4) hx hb dX4_hyphenMany_30 (by decide) ?_
      refine lv_iload_n hx hb dX4_hyphenMany_31 rfl (lv_at hl 0 rfl) ?_
      refine lv_imul hx hb dX4_hyphenMany_32 ?_
      refine lv_iload_n hx hb dX4_hyphenMany_33 rfl (lv_at hl 3 rfl) ?_
      refine lv_iadd hx hb dX4_hyphenMany_34 ?_
      obtain ⟨z5, h⟩ := grd_some h
      refine al_M20 F B  z5 dX4_hyphenMany_35 ?_
      refine lv_aload_n hx hb dX4_hyphenMany_36 rfl (lv_at hl 1 rfl) ?_
      refine lv_iload_n hx hb dX4_hyphenMany_37 rfl (lv_at hl 2 rfl) ?_
      refine lv_iload_n hx hb dX4_hyphenMany_38 rfl (lv_at hl 3 rfl) ?_
      obtain ⟨q6, hq6, h⟩ := cal_some h
      refine w_callVi F B (c_X4_endOf l g n S0 H.size x1 x2 q6 hq6) mC_X4_endOf mM_X4_143 mN_X4 mI_X4_endOf mS_X4_endOf ixM_0 rfl rfl ⟨ok_X4_endOf, by decide⟩ rfl hl.1 rfl (Nat.le_of_ble_eq_true rfl) dX4_hyphenMany_39 (fun H locs B => ?_)
      refine lv_isub hx hb dX4_hyphenMany_42 ?_
      refine pt_X4_21 F B mF_X4_172 dX4_hyphenMany_43 (fun H locs B => ?_)
      refine lv_aload_n hx hb dX4_hyphenMany_46 rfl (lv_at hl 1 rfl) ?_
      refine gt_X4_21 F B mF_X4_172 dX4_hyphenMany_47 ?_
      refine w_cv ((S0 20 0 (Int32.toNatClampNeg ((4 * q1) + x2))) - q6) (mup_s) ?_
      refine lv_bipush (v := 10) hx hb dX4_hyphenMany_50 (by decide) ?_
      refine lv_icmp_ge (tgt := 59) hx hb dX4_hyphenMany_52 (by decide) (fun c7 => ?_) (fun c7 => ?_)
      · rw [if_pos c7] at h
        refine lv_iconst (v := 1) hx hb dX4_hyphenMany_59 (by decide) ?_
        refine lv_aload_n hx hb dX4_hyphenMany_60 rfl (lv_at hl 1 rfl) ?_
        refine gt_X4_21 F B mF_X4_172 dX4_hyphenMany_61 ?_
        refine w_cv ((S0 20 0 (Int32.toNatClampNeg ((4 * q1) + x2))) - q6) (mup_s) ?_
        refine lv_bipush (v := 10) hx hb dX4_hyphenMany_64 (by decide) ?_
        refine lv_isub hx hb dX4_hyphenMany_66 ?_
        refine lv_bipush (v := 80) hx hb dX4_hyphenMany_67 (by decide) ?_
        refine lv_idiv hx hb dX4_hyphenMany_69 (by decide) ?_
        refine lv_iadd hx hb dX4_hyphenMany_70 ?_
        obtain rfl := Option.some.inj h
        exact w_iret F hr hlocks B dX4_hyphenMany_71
      · rw [if_neg c7] at h
        refine lv_iconst (v := 0) hx hb dX4_hyphenMany_55 (by decide) ?_
        refine lv_goto (tgt := 71) hx hb dX4_hyphenMany_56 (by decide) ?_
        obtain rfl := Option.some.inj h
        exact w_iret F hr hlocks B dX4_hyphenMany_71
    · rw [if_pos c4] at h
      refine lv_iconst (v := 0) hx hb dX4_hyphenMany_23 (by decide) ?_
      obtain rfl := Option.some.inj h
      exact w_iret F hr hlocks B dX4_hyphenMany_24
/-- public int hyphens(int, int) -/
def f_X4_hyphens (n : Nat) (S0 : mem) (x1 : Int32) (x2 : Int32) : Option (Int32 × mem) :=
cal (f_X4_noBox n (mup S0 0 0 0 0) x1 x2) fun q1 => (
if q1 = 0 then (
if (S0 0 0 18) = 0 then (
some ((-1000003, mup S0 0 0 0 0))) else (
cal (f_X4_hyphenMany n (mup S0 0 0 0 0) x1 x2) fun q4 => (
some ((q4.1, q4.2))))) else (
some ((-1000001, mup S0 0 0 0 0))))
set_option maxRecDepth 100000 in
set_option maxHeartbeats 4000000 in
theorem c_X4_hyphens (l : Launch) (g : cx) (n : Nat) (S0 : mem) (sz : Nat) (x1 : Int32) (x2 : Int32) (q : Int32 × mem) (h : f_X4_hyphens n S0 x1 x2 = some q) : Met l yX4_hyphens (wsU yX4_hyphens cX4_hyphens 3 (some .int)) (rmD 3) (PcW ixM enM g S0 sz [.ref (g.2.2 0 0), .int x1, .int x2]) (QiW ixM enM g sz q.1 q.2) 0 0 (Aw ixM g sz) := by
  refine met_intro (Qc := fun z9 => QiW ixM enM g z9 q.1 q.2) (free := fun z9 => Aw ixM g z9) [.ref (g.2.2 0 0), .int x1, .int x2] RX4 rfl (by decide) (Nat.le_of_ble_eq_true rfl) (fun p e s m args below meth c H locs F hr hlocks B ls hl => ?_)
  have hl : lv_has ls 3 [(0, .ref (g.2.2 0 0)), (1, .int x1), (2, .int x2)] := hl
  have hx := F.1
  have hb := F.2.1
  unfold f_X4_hyphens at h
  refine lv_aload_n hx hb dX4_hyphens_0 rfl (lv_at hl 0 rfl) ?_
  refine lv_iconst (v := 0) hx hb dX4_hyphens_1 (by decide) ?_
  refine pt_X4_0 F B mF_X4_1 dX4_hyphens_2 (fun H locs B => ?_)
  refine lv_aload_n hx hb dX4_hyphens_5 rfl (lv_at hl 0 rfl) ?_
  refine lv_iload_n hx hb dX4_hyphens_6 rfl (lv_at hl 1 rfl) ?_
  refine lv_iload_n hx hb dX4_hyphens_7 rfl (lv_at hl 2 rfl) ?_
  obtain ⟨q1, hq1, h⟩ := cal_some h
  refine w_callVi F B (c_X4_noBox l g n (mup S0 0 0 0 0) H.size x1 x2 q1 hq1) mC_X4_noBox mM_X4_169 mN_X4 mI_X4_noBox mS_X4_noBox ixM_0 rfl rfl ⟨ok_X4_noBox, by decide⟩ rfl hl.1 rfl (Nat.le_of_ble_eq_true rfl) dX4_hyphens_8 (fun H locs B => ?_)
  refine lv_if_eq (tgt := 17) hx hb dX4_hyphens_11 (by decide) (fun c2 => ?_) (fun c2 => ?_)
  · rw [if_pos c2] at h
    refine lv_aload_n hx hb dX4_hyphens_17 rfl (lv_at hl 0 rfl) ?_
    refine gt_X4_18 F B mF_X4_19 dX4_hyphens_18 ?_
    refine w_cv (S0 0 0 18) (mup_j (by decide)) ?_
    refine lv_if_eq (tgt := 33) hx hb dX4_hyphens_21 (by decide) (fun c3 => ?_) (fun c3 => ?_)
    · rw [if_pos c3] at h
      refine lv_ldc (v := -1000003) hx hb F.2.2.2.1 (F.2.2.2.2 _ (wsU_in mK_X4_127)) dX4_hyphens_33 ?_
      obtain rfl := Option.some.inj h
      exact w_iret F hr hlocks B dX4_hyphens_35
    · rw [if_neg c3] at h
      refine lv_aload_n hx hb dX4_hyphens_24 rfl (lv_at hl 0 rfl) ?_
      refine lv_iload_n hx hb dX4_hyphens_25 rfl (lv_at hl 1 rfl) ?_
      refine lv_iload_n hx hb dX4_hyphens_26 rfl (lv_at hl 2 rfl) ?_
      obtain ⟨q4, hq4, h⟩ := cal_some h
      refine w_callVi F B (c_X4_hyphenMany l g n (mup S0 0 0 0 0) H.size x1 x2 q4 hq4) mC_X4_hyphenMany mM_X4_175 mN_X4 mI_X4_hyphenMany mS_X4_hyphenMany ixM_0 rfl rfl ⟨ok_X4_hyphenMany, by decide⟩ rfl hl.1 rfl (Nat.le_of_ble_eq_true rfl) dX4_hyphens_27 (fun H locs B => ?_)
      refine lv_goto (tgt := 35) hx hb dX4_hyphens_30 (by decide) ?_
      obtain rfl := Option.some.inj h
      exact w_iret F hr hlocks B dX4_hyphens_35
  · rw [if_neg c2] at h
    refine lv_ldc (v := -1000001) hx hb F.2.2.2.1 (F.2.2.2.2 _ (wsU_in mK_X4_123)) dX4_hyphens_14 ?_
    obtain rfl := Option.some.inj h
    exact w_iret F hr hlocks B dX4_hyphens_16
/-- public int hyphen(int, int, int) -/
def f_X4_hyphen (n : Nat) (S0 : mem) (x1 : Int32) (x2 : Int32) (x3 : Int32) : Option (Int32 × mem) :=
cal (f_X4_noBox n (mup S0 0 0 0 0) x1 x2) fun q1 => (
if q1 = 0 then (
if (S0 0 0 18) = 0 then (
some ((-1000003, mup S0 0 0 0 0))) else (
cal (f_X4_hyphenMany n (mup S0 0 0 0 0) x1 x2) fun q4 => (
cal (f_X4_lies n q4.2 x3 0 (q4.1 - 1)) fun q5 => (
if q5 = 0 then (
some ((0, mup q4.2 0 0 0 1))) else (
cal (f_X4_endOf n q4.2 x1 x2) fun q7 => (
grd (¬ (2 * q4.1) = 0) (
some (((q7 + ((((2 * x3) + 1) * (q4.2 0 0 21)) / (2 * q4.1))) - 3, q4.2))))))))) else (
some ((-1000001, mup S0 0 0 0 0))))
set_option maxRecDepth 100000 in
set_option maxHeartbeats 4000000 in
theorem c_X4_hyphen (l : Launch) (g : cx) (n : Nat) (S0 : mem) (sz : Nat) (x1 : Int32) (x2 : Int32) (x3 : Int32) (q : Int32 × mem) (h : f_X4_hyphen n S0 x1 x2 x3 = some q) : Met l yX4_hyphen (wsU yX4_hyphen cX4_hyphen 5 (some .int)) (rmD 3) (PcW ixM enM g S0 sz [.ref (g.2.2 0 0), .int x1, .int x2, .int x3]) (QiW ixM enM g sz q.1 q.2) 0 0 (Aw ixM g sz) := by
  refine met_intro (Qc := fun z9 => QiW ixM enM g z9 q.1 q.2) (free := fun z9 => Aw ixM g z9) [.ref (g.2.2 0 0), .int x1, .int x2, .int x3] RX4 rfl (by decide) (Nat.le_of_ble_eq_true rfl) (fun p e s m args below meth c H locs F hr hlocks B ls hl => ?_)
  have hl : lv_has ls 5 [(0, .ref (g.2.2 0 0)), (1, .int x1), (2, .int x2), (3, .int x3)] := hl
  have hx := F.1
  have hb := F.2.1
  unfold f_X4_hyphen at h
  refine lv_aload_n hx hb dX4_hyphen_0 rfl (lv_at hl 0 rfl) ?_
  refine lv_iconst (v := 0) hx hb dX4_hyphen_1 (by decide) ?_
  refine pt_X4_0 F B mF_X4_1 dX4_hyphen_2 (fun H locs B => ?_)
  refine lv_aload_n hx hb dX4_hyphen_5 rfl (lv_at hl 0 rfl) ?_
  refine lv_iload_n hx hb dX4_hyphen_6 rfl (lv_at hl 1 rfl) ?_
  refine lv_iload_n hx hb dX4_hyphen_7 rfl (lv_at hl 2 rfl) ?_
  obtain ⟨q1, hq1, h⟩ := cal_some h
  refine w_callVi F B (c_X4_noBox l g n (mup S0 0 0 0 0) H.size x1 x2 q1 hq1) mC_X4_noBox mM_X4_169 mN_X4 mI_X4_noBox mS_X4_noBox ixM_0 rfl rfl ⟨ok_X4_noBox, by decide⟩ rfl hl.1 rfl (Nat.le_of_ble_eq_true rfl) dX4_hyphen_8 (fun H locs B => ?_)
  refine lv_if_eq (tgt := 17) hx hb dX4_hyphen_11 (by decide) (fun c2 => ?_) (fun c2 => ?_)
  · rw [if_pos c2] at h
    refine lv_aload_n hx hb dX4_hyphen_17 rfl (lv_at hl 0 rfl) ?_
    refine gt_X4_18 F B mF_X4_19 dX4_hyphen_18 ?_
    refine w_cv (S0 0 0 18) (mup_j (by decide)) ?_
    refine lv_if_ne (tgt := 27) hx hb dX4_hyphen_21 (by decide) (fun c3 => ?_) (fun c3 => ?_)
    · rw [if_neg c3] at h
      refine lv_aload_n hx hb dX4_hyphen_27 rfl (lv_at hl 0 rfl) ?_
      refine lv_iload_n hx hb dX4_hyphen_28 rfl (lv_at hl 1 rfl) ?_
      refine lv_iload_n hx hb dX4_hyphen_29 rfl (lv_at hl 2 rfl) ?_
      obtain ⟨q4, hq4, h⟩ := cal_some h
      refine w_callVi F B (c_X4_hyphenMany l g n (mup S0 0 0 0 0) H.size x1 x2 q4 hq4) mC_X4_hyphenMany mM_X4_175 mN_X4 mI_X4_hyphenMany mS_X4_hyphenMany ixM_0 rfl rfl ⟨ok_X4_hyphenMany, by decide⟩ rfl hl.1 rfl (Nat.le_of_ble_eq_true rfl) dX4_hyphen_30 (fun H locs B => ?_)
      refine lv_istore (lv' := [(4, .int q4.1), (0, .ref (g.2.2 0 0)), (1, .int x1), (2, .int x2), (3, .int x3)]) hx hb dX4_hyphen_33 hl (by decide) rfl (fun ls hl => ?_)
      refine lv_iload_n hx hb dX4_hyphen_35 rfl (lv_at hl 4 rfl) ?_
      refine lv_iconst (v := 0) hx hb dX4_hyphen_36 (by decide) ?_
      refine lv_iload hx hb dX4_hyphen_37 (lv_at hl 0 rfl) ?_
      refine lv_iconst (v := 1) hx hb dX4_hyphen_39 (by decide) ?_
      refine lv_isub hx hb dX4_hyphen_40 ?_
      obtain ⟨q5, hq5, h⟩ := cal_some h
      refine w_callSi F B (c_X4_lies l g n q4.2 H.size x3 0 (q4.1 - 1) q5 hq5) mC_X4_lies mM_X4_109 mN_X4 mT_X4_lies ⟨ok_X4_lies, by decide⟩ rfl hl.1 rfl (Nat.le_of_ble_eq_true rfl) dX4_hyphen_41 (fun H locs B => ?_)
      refine lv_if_ne (tgt := 54) hx hb dX4_hyphen_44 (by decide) (fun c6 => ?_) (fun c6 => ?_)
      · rw [if_neg c6] at h
        refine lv_aload_n hx hb dX4_hyphen_54 rfl (lv_at hl 1 rfl) ?_
        refine lv_iload_n hx hb dX4_hyphen_55 rfl (lv_at hl 2 rfl) ?_
        refine lv_iload_n hx hb dX4_hyphen_56 rfl (lv_at hl 3 rfl) ?_
        obtain ⟨q7, hq7, h⟩ := cal_some h
        refine w_callVi F B (c_X4_endOf l g n q4.2 H.size x1 x2 q7 hq7) mC_X4_endOf mM_X4_143 mN_X4 mI_X4_endOf mS_X4_endOf ixM_0 rfl rfl ⟨ok_X4_endOf, by decide⟩ rfl hl.1 rfl (Nat.le_of_ble_eq_true rfl) dX4_hyphen_57 (fun H locs B => ?_)
        refine lv_iconst (v := 2) hx hb dX4_hyphen_60 (by decide) ?_
        refine lv_iload_n hx hb dX4_hyphen_61 rfl (lv_at hl 4 rfl) ?_
        refine lv_imul hx hb dX4_hyphen_62 ?_
        refine lv_iconst (v := 1) hx hb dX4_hyphen_63 (by decide) ?_
        refine lv_iadd hx hb dX4_hyphen_64 ?_
        refine lv_aload_n hx hb dX4_hyphen_65 rfl (lv_at hl 1 rfl) ?_
        refine gt_X4_21 F B mF_X4_172 dX4_hyphen_66 ?_
        refine lv_imul hx hb dX4_hyphen_69 ?_
        refine lv_iconst (v := 2) hx hb dX4_hyphen_70 (by decide) ?_
        refine lv_iload hx hb dX4_hyphen_71 (lv_at hl 0 rfl) ?_
        refine lv_imul hx hb dX4_hyphen_73 ?_
        obtain ⟨z8, h⟩ := grd_some h
        refine lv_idiv hx hb dX4_hyphen_74 z8 ?_
        refine lv_iadd hx hb dX4_hyphen_75 ?_
        refine lv_iconst (v := 3) hx hb dX4_hyphen_76 (by decide) ?_
        refine lv_isub hx hb dX4_hyphen_77 ?_
        obtain rfl := Option.some.inj h
        exact w_iret F hr hlocks B dX4_hyphen_78
      · rw [if_pos c6] at h
        refine lv_aload_n hx hb dX4_hyphen_47 rfl (lv_at hl 1 rfl) ?_
        refine lv_iconst (v := 1) hx hb dX4_hyphen_48 (by decide) ?_
        refine pt_X4_0 F B mF_X4_1 dX4_hyphen_49 (fun H locs B => ?_)
        refine lv_iconst (v := 0) hx hb dX4_hyphen_52 (by decide) ?_
        obtain rfl := Option.some.inj h
        exact w_iret F hr hlocks B dX4_hyphen_53
    · rw [if_pos c3] at h
      refine lv_ldc (v := -1000003) hx hb F.2.2.2.1 (F.2.2.2.2 _ (wsU_in mK_X4_127)) dX4_hyphen_24 ?_
      obtain rfl := Option.some.inj h
      exact w_iret F hr hlocks B dX4_hyphen_26
  · rw [if_neg c2] at h
    refine lv_ldc (v := -1000001) hx hb F.2.2.2.1 (F.2.2.2.2 _ (wsU_in mK_X4_123)) dX4_hyphen_14 ?_
    obtain rfl := Option.some.inj h
    exact w_iret F hr hlocks B dX4_hyphen_16
def j_X4_line_149 (n : Nat) (S : mem) (x3 : Int32) (x4 : Int32) (x6 : Int32) : Option (Int32 × mem) :=
if 10 ≤ (x6 - x4) then (
if x3 = 0 then (
some ((x4, S))) else (
some ((x6, S)))) else (
some ((-1000009, S)))
/-- public int line(int, int, int) -/
def f_X4_line (n : Nat) (S0 : mem) (x1 : Int32) (x2 : Int32) (x3 : Int32) : Option (Int32 × mem) :=
cal (f_X4_noBox n (mup S0 0 0 0 0) x1 x2) fun q1 => (
if q1 = 0 then (
cal (f_X4_lies n (mup S0 0 0 0 0) x3 0 1) fun q3 => (
if q3 = 0 then (
some ((-1000002, mup S0 0 0 0 0))) else (
if (S0 0 0 18) = 0 then (
some ((-1000003, mup S0 0 0 0 0))) else (
cal (f_X4_goesOn n (mup S0 0 0 0 0) x1 x2) fun q6 => (
if q6 = 0 then (
grd (¬ (x1 < 0 ∨ 60 ≤ Int32.toNatClampNeg x1)) (
if (S0 6 0 (Int32.toNatClampNeg x1)) = x1 then (
cal (f_X4_endOf n (mup S0 0 0 0 0) x1 x2) fun q10 => (
grd (¬ ((x1 + (S0 7 0 (Int32.toNatClampNeg x1))) - 1 < 0 ∨ 60 ≤ Int32.toNatClampNeg ((x1 + (S0 7 0 (Int32.toNatClampNeg x1))) - 1))) (
cal (f_X4_other n (mup S0 0 0 0 0) x1 x2 1) fun q12 => (
if q12 = (-1000009) then (
j_X4_line_149 n (mup S0 0 0 0 0) x3 (q10 + 2) ((S0 19 0 (Int32.toNatClampNeg ((x1 + (S0 7 0 (Int32.toNatClampNeg x1))) - 1))) + (S0 2 0 (Int32.toNatClampNeg ((x1 + (S0 7 0 (Int32.toNatClampNeg x1))) - 1))))) else (
grd (¬ ((4 * q12) + x2 < 0 ∨ 240 ≤ Int32.toNatClampNeg ((4 * q12) + x2))) (
if ((S0 19 0 (Int32.toNatClampNeg ((x1 + (S0 7 0 (Int32.toNatClampNeg x1))) - 1))) + (S0 2 0 (Int32.toNatClampNeg ((x1 + (S0 7 0 (Int32.toNatClampNeg x1))) - 1)))) ≤ ((S0 20 0 (Int32.toNatClampNeg ((4 * q12) + x2))) - 4) then (
j_X4_line_149 n (mup S0 0 0 0 0) x3 (q10 + 2) ((S0 19 0 (Int32.toNatClampNeg ((x1 + (S0 7 0 (Int32.toNatClampNeg x1))) - 1))) + (S0 2 0 (Int32.toNatClampNeg ((x1 + (S0 7 0 (Int32.toNatClampNeg x1))) - 1))))) else (
j_X4_line_149 n (mup S0 0 0 0 0) x3 (q10 + 2) ((S0 20 0 (Int32.toNatClampNeg ((4 * q12) + x2))) - 4)))))))) else (
some ((-1000009, mup S0 0 0 0 0))))) else (
some ((-1000009, mup S0 0 0 0 0)))))))) else (
some ((-1000001, mup S0 0 0 0 0))))
set_option maxRecDepth 100000 in
set_option maxHeartbeats 4000000 in
theorem c_X4_line (l : Launch) (g : cx) (n : Nat) (S0 : mem) (sz : Nat) (x1 : Int32) (x2 : Int32) (x3 : Int32) (q : Int32 × mem) (h : f_X4_line n S0 x1 x2 x3 = some q) : Met l yX4_line (wsU yX4_line cX4_line 8 (some .int)) (rmD 3) (PcW ixM enM g S0 sz [.ref (g.2.2 0 0), .int x1, .int x2, .int x3]) (QiW ixM enM g sz q.1 q.2) 0 0 (Aw ixM g sz) := by
  refine met_intro (Qc := fun z9 => QiW ixM enM g z9 q.1 q.2) (free := fun z9 => Aw ixM g z9) [.ref (g.2.2 0 0), .int x1, .int x2, .int x3] RX4 rfl (by decide) (Nat.le_of_ble_eq_true rfl) (fun p e s m args below meth c H locs F hr hlocks B ls hl => ?_)
  have hl : lv_has ls 8 [(0, .ref (g.2.2 0 0)), (1, .int x1), (2, .int x2), (3, .int x3)] := hl
  have hx := F.1
  have hb := F.2.1
  unfold f_X4_line at h
  refine lv_aload_n hx hb dX4_line_0 rfl (lv_at hl 0 rfl) ?_
  refine lv_iconst (v := 0) hx hb dX4_line_1 (by decide) ?_
  refine pt_X4_0 F B mF_X4_1 dX4_line_2 (fun H locs B => ?_)
  refine lv_aload_n hx hb dX4_line_5 rfl (lv_at hl 0 rfl) ?_
  refine lv_iload_n hx hb dX4_line_6 rfl (lv_at hl 1 rfl) ?_
  refine lv_iload_n hx hb dX4_line_7 rfl (lv_at hl 2 rfl) ?_
  obtain ⟨q1, hq1, h⟩ := cal_some h
  refine w_callVi F B (c_X4_noBox l g n (mup S0 0 0 0 0) H.size x1 x2 q1 hq1) mC_X4_noBox mM_X4_169 mN_X4 mI_X4_noBox mS_X4_noBox ixM_0 rfl rfl ⟨ok_X4_noBox, by decide⟩ rfl hl.1 rfl (Nat.le_of_ble_eq_true rfl) dX4_line_8 (fun H locs B => ?_)
  refine lv_if_eq (tgt := 17) hx hb dX4_line_11 (by decide) (fun c2 => ?_) (fun c2 => ?_)
  · rw [if_pos c2] at h
    refine lv_iload_n hx hb dX4_line_17 rfl (lv_at hl 3 rfl) ?_
    refine lv_iconst (v := 0) hx hb dX4_line_18 (by decide) ?_
    refine lv_iconst (v := 1) hx hb dX4_line_19 (by decide) ?_
    obtain ⟨q3, hq3, h⟩ := cal_some h
    refine w_callSi F B (c_X4_lies l g n (mup S0 0 0 0 0) H.size x3 0 1 q3 hq3) mC_X4_lies mM_X4_109 mN_X4 mT_X4_lies ⟨ok_X4_lies, by decide⟩ rfl hl.1 rfl (Nat.le_of_ble_eq_true rfl) dX4_line_20 (fun H locs B => ?_)
    refine lv_if_ne (tgt := 29) hx hb dX4_line_23 (by decide) (fun c4 => ?_) (fun c4 => ?_)
    · rw [if_neg c4] at h
      refine lv_aload_n hx hb dX4_line_29 rfl (lv_at hl 0 rfl) ?_
      refine gt_X4_18 F B mF_X4_19 dX4_line_30 ?_
      refine w_cv (S0 0 0 18) (mup_j (by decide)) ?_
      refine lv_if_ne (tgt := 39) hx hb dX4_line_33 (by decide) (fun c5 => ?_) (fun c5 => ?_)
      · rw [if_neg c5] at h
        refine lv_aload_n hx hb dX4_line_39 rfl (lv_at hl 0 rfl) ?_
        refine lv_iload_n hx hb dX4_line_40 rfl (lv_at hl 1 rfl) ?_
        refine lv_iload_n hx hb dX4_line_41 rfl (lv_at hl 2 rfl) ?_
        obtain ⟨q6, hq6, h⟩ := cal_some h
        refine w_callVi F B (c_X4_goesOn l g n (mup S0 0 0 0 0) H.size x1 x2 q6 hq6) mC_X4_goesOn mM_X4_146 mN_X4 mI_X4_goesOn mS_X4_goesOn ixM_0 rfl rfl ⟨ok_X4_goesOn, by decide⟩ rfl hl.1 rfl (Nat.le_of_ble_eq_true rfl) dX4_line_42 (fun H locs B => ?_)
        refine lv_if_ne (tgt := 58) hx hb dX4_line_45 (by decide) (fun c7 => ?_) (fun c7 => ?_)
        · rw [if_neg c7] at h
          refine lv_ldc (v := -1000009) hx hb F.2.2.2.1 (F.2.2.2.2 _ (wsU_in mK_X4_115)) dX4_line_58 ?_
          obtain rfl := Option.some.inj h
          exact w_iret F hr hlocks B dX4_line_60
        · rw [if_pos c7] at h
          refine lv_aload_n hx hb dX4_line_48 rfl (lv_at hl 0 rfl) ?_
          refine gt_X4_6 F B mF_X4_64 dX4_line_49 ?_
          refine lv_iload_n hx hb dX4_line_52 rfl (lv_at hl 1 rfl) ?_
          obtain ⟨z8, h⟩ := grd_some h
          refine al_M6 F B  z8 dX4_line_53 ?_
          refine w_cv (S0 6 0 (Int32.toNatClampNeg x1)) (mup_k (by decide)) ?_
          refine lv_iload_n hx hb dX4_line_54 rfl (lv_at hl 1 rfl) ?_
          refine lv_icmp_eq (tgt := 61) hx hb dX4_line_55 (by decide) (fun c9 => ?_) (fun c9 => ?_)
          · rw [if_pos c9] at h
            refine lv_aload_n hx hb dX4_line_61 rfl (lv_at hl 0 rfl) ?_
            refine lv_iload_n hx hb dX4_line_62 rfl (lv_at hl 1 rfl) ?_
            refine lv_iload_n hx hb dX4_line_63 rfl (lv_at hl 2 rfl) ?_
            obtain ⟨q10, hq10, h⟩ := cal_some h
            refine w_callVi F B (c_X4_endOf l g n (mup S0 0 0 0 0) H.size x1 x2 q10 hq10) mC_X4_endOf mM_X4_143 mN_X4 mI_X4_endOf mS_X4_endOf ixM_0 rfl rfl ⟨ok_X4_endOf, by decide⟩ rfl hl.1 rfl (Nat.le_of_ble_eq_true rfl) dX4_line_64 (fun H locs B => ?_)
            refine lv_iconst (v := 2) hx hb dX4_line_67 (by decide) ?_
            refine lv_iadd hx hb dX4_line_68 ?_
            refine lv_istore (lv' := [(4, .int (q10 + 2)), (0, .ref (g.2.2 0 0)), (1, .int x1), (2, .int x2), (3, .int x3)]) hx hb dX4_line_69 hl (by decide) rfl (fun ls hl => ?_)
            refine lv_iload_n hx hb dX4_line_71 rfl (lv_at hl 2 rfl) ?_
            refine lv_aload_n hx hb dX4_line_72 rfl (lv_at hl 1 rfl) ?_
            refine gt_X4_7 F B mF_X4_67 dX4_line_73 ?_
            refine lv_iload_n hx hb dX4_line_76 rfl (lv_at hl 2 rfl) ?_
            refine al_M7 F B  z8 dX4_line_77 ?_
            refine w_cv (S0 7 0 (Int32.toNatClampNeg x1)) (mup_k (by decide)) ?_
            refine lv_iadd hx hb dX4_line_78 ?_
            refine lv_iconst (v := 1) hx hb dX4_line_79 (by decide) ?_
            refine lv_isub hx hb dX4_line_80 ?_
            refine lv_istore (lv' := [(5, .int ((x1 + (S0 7 0 (Int32.toNatClampNeg x1))) - 1)), (4, .int (q10 + 2)), (0, .ref (g.2.2 0 0)), (1, .int x1), (2, .int x2), (3, .int x3)]) hx hb dX4_line_81 hl (by decide) rfl (fun ls hl => ?_)
            refine lv_aload_n hx hb dX4_line_83 rfl (lv_at hl 2 rfl) ?_
            refine gt_X4_19 F B mF_X4_85 dX4_line_84 ?_
            refine lv_iload hx hb dX4_line_87 (lv_at hl 0 rfl) ?_
            obtain ⟨z11, h⟩ := grd_some h
            refine al_M19 F B  z11 dX4_line_89 ?_
            refine w_cv (S0 19 0 (Int32.toNatClampNeg ((x1 + (S0 7 0 (Int32.toNatClampNeg x1))) - 1))) (mup_k (by decide)) ?_
            refine lv_aload_n hx hb dX4_line_90 rfl (lv_at hl 2 rfl) ?_
            refine gt_X4_2 F B mF_X4_52 dX4_line_91 ?_
            refine lv_iload hx hb dX4_line_94 (lv_at hl 0 rfl) ?_
            refine al_M2 F B  z11 dX4_line_96 ?_
            refine w_cv (S0 2 0 (Int32.toNatClampNeg ((x1 + (S0 7 0 (Int32.toNatClampNeg x1))) - 1))) (mup_k (by decide)) ?_
            refine lv_iadd hx hb dX4_line_97 ?_
            refine lv_istore (lv' := [(6, .int ((S0 19 0 (Int32.toNatClampNeg ((x1 + (S0 7 0 (Int32.toNatClampNeg x1))) - 1))) + (S0 2 0 (Int32.toNatClampNeg ((x1 + (S0 7 0 (Int32.toNatClampNeg x1))) - 1))))), (5, .int ((x1 + (S0 7 0 (Int32.toNatClampNeg x1))) - 1)), (4, .int (q10 + 2)), (0, .ref (g.2.2 0 0)), (1, .int x1), (2, .int x2), (3, .int x3)]) hx hb dX4_line_98 hl (by decide) rfl (fun ls hl => ?_)
            refine lv_aload_n hx hb dX4_line_100 rfl (lv_at hl 3 rfl) ?_
            refine lv_iload_n hx hb dX4_line_101 rfl (lv_at hl 4 rfl) ?_
            refine lv_iload_n hx hb dX4_line_102 rfl (lv_at hl 5 rfl) ?_
            refine lv_iconst (v := 1) hx hb dX4_line_103 (by decide) ?_
            obtain ⟨q12, hq12, h⟩ := cal_some h
            refine w_callVi F B (c_X4_other l g n (mup S0 0 0 0 0) H.size x1 x2 1 q12 hq12) mC_X4_other mM_X4_139 mN_X4 mI_X4_other mS_X4_other ixM_0 rfl rfl ⟨ok_X4_other, by decide⟩ rfl hl.1 rfl (Nat.le_of_ble_eq_true rfl) dX4_line_104 (fun H locs B => ?_)
            refine lv_istore (lv' := [(7, .int q12), (6, .int ((S0 19 0 (Int32.toNatClampNeg ((x1 + (S0 7 0 (Int32.toNatClampNeg x1))) - 1))) + (S0 2 0 (Int32.toNatClampNeg ((x1 + (S0 7 0 (Int32.toNatClampNeg x1))) - 1))))), (5, .int ((x1 + (S0 7 0 (Int32.toNatClampNeg x1))) - 1)), (4, .int (q10 + 2)), (0, .ref (g.2.2 0 0)), (1, .int x1), (2, .int x2), (3, .int x3)]) hx hb dX4_line_107 hl (by decide) rfl (fun ls hl => ?_)
            refine lv_iload hx hb dX4_line_109 (lv_at hl 0 rfl) ?_
            refine lv_ldc (v := -1000009) hx hb F.2.2.2.1 (F.2.2.2.2 _ (wsU_in mK_X4_115)) dX4_line_111 ?_
            have J149 : ∀ (S : mem) (x3 : Int32) (x4 : Int32) (x6 : Int32), j_X4_line_149 n S x3 x4 x6 = some q → ∀ (H : Heap) (locs : List Loc) (ls : Array Slot), Wd ixM enM g S (Aw ixM g s.heap.size) s H locs → lv_has ls 8 [(3, .int x3), (4, .int x4), (6, .int x6)] → W p l e (rmD 3) s m args below meth c H locs 0 0 (MQ below (QiW ixM enM g s.heap.size q.1 q.2) args s 0 0 (Aw ixM g s.heap.size)) (F0 m 149 ls []) := by
              intro S x3 x4 x6 h H locs ls B hl
              unfold j_X4_line_149 at h
              refine lv_iload hx hb dX4_line_149 (lv_at hl 2 rfl) ?_
              refine lv_iload hx hb dX4_line_151 (lv_at hl 1 rfl) ?_
              refine lv_isub hx hb dX4_line_153 ?_
              refine lv_bipush (v := 10) hx hb dX4_line_154 (by decide) ?_
              refine lv_icmp_ge (tgt := 164) hx hb dX4_line_156 (by decide) (fun c13 => ?_) (fun c13 => ?_)
              · rw [if_pos c13] at h
                refine lv_iload_n hx hb dX4_line_164 rfl (lv_at hl 0 rfl) ?_
                refine lv_if_ne (tgt := 173) hx hb dX4_line_165 (by decide) (fun c14 => ?_) (fun c14 => ?_)
                · rw [if_neg c14] at h
                  refine lv_iload hx hb dX4_line_173 (lv_at hl 2 rfl) ?_
                  obtain rfl := Option.some.inj h
                  exact w_iret F hr hlocks B dX4_line_175
                · rw [if_pos c14] at h
                  refine lv_iload hx hb dX4_line_168 (lv_at hl 1 rfl) ?_
                  refine lv_goto (tgt := 175) hx hb dX4_line_170 (by decide) ?_
                  obtain rfl := Option.some.inj h
                  exact w_iret F hr hlocks B dX4_line_175
              · rw [if_neg c13] at h
                refine lv_ldc (v := -1000009) hx hb F.2.2.2.1 (F.2.2.2.2 _ (wsU_in mK_X4_115)) dX4_line_159 ?_
                refine lv_goto (tgt := 175) hx hb dX4_line_161 (by decide) ?_
                obtain rfl := Option.some.inj h
                exact w_iret F hr hlocks B dX4_line_175
            refine lv_icmp_eq (tgt := 149) hx hb dX4_line_113 (by decide) (fun c15 => ?_) (fun c15 => ?_)
            · rw [if_pos c15] at h
              exact J149 (mup S0 0 0 0 0) x3 (q10 + 2) ((S0 19 0 (Int32.toNatClampNeg ((x1 + (S0 7 0 (Int32.toNatClampNeg x1))) - 1))) + (S0 2 0 (Int32.toNatClampNeg ((x1 + (S0 7 0 (Int32.toNatClampNeg x1))) - 1)))) h H locs ls B (lv_sub hl [7, 3, 1] rfl)
            · rw [if_neg c15] at h
              refine lv_aload_n hx hb dX4_line_116 rfl (lv_at hl 4 rfl) ?_
              refine gt_X4_20 F B mF_X4_88 dX4_line_117 ?_
              refine lv_iconst (v := 4) hx hb dX4_line_120 (by decide) ?_
              refine lv_iload hx hb dX4_line_121 (lv_at hl 0 rfl) ?_
              refine lv_imul hx hb dX4_line_123 ?_
              refine lv_iload_n hx hb dX4_line_124 rfl (lv_at hl 6 rfl) ?_
              refine lv_iadd hx hb dX4_line_125 ?_
              obtain ⟨z16, h⟩ := grd_some h
              refine al_M20 F B  z16 dX4_line_126 ?_
              refine w_cv (S0 20 0 (Int32.toNatClampNeg ((4 * q12) + x2))) (mup_k (by decide)) ?_
              refine lv_iconst (v := 4) hx hb dX4_line_127 (by decide) ?_
              refine lv_isub hx hb dX4_line_128 ?_
              refine lv_iload hx hb dX4_line_129 (lv_at hl 1 rfl) ?_
              refine lv_icmp_ge (tgt := 149) hx hb dX4_line_131 (by decide) (fun c17 => ?_) (fun c17 => ?_)
              · rw [if_pos c17] at h
                exact J149 (mup S0 0 0 0 0) x3 (q10 + 2) ((S0 19 0 (Int32.toNatClampNeg ((x1 + (S0 7 0 (Int32.toNatClampNeg x1))) - 1))) + (S0 2 0 (Int32.toNatClampNeg ((x1 + (S0 7 0 (Int32.toNatClampNeg x1))) - 1)))) h H locs ls B (lv_sub hl [7, 3, 1] rfl)
              · rw [if_neg c17] at h
                refine lv_aload_n hx hb dX4_line_134 rfl (lv_at hl 4 rfl) ?_
                refine gt_X4_20 F B mF_X4_88 dX4_line_135 ?_
                refine lv_iconst (v := 4) hx hb dX4_line_138 (by decide) ?_
                refine lv_iload hx hb dX4_line_139 (lv_at hl 0 rfl) ?_
                refine lv_imul hx hb dX4_line_141 ?_
                refine lv_iload_n hx hb dX4_line_142 rfl (lv_at hl 6 rfl) ?_
                refine lv_iadd hx hb dX4_line_143 ?_
                refine al_M20 F B  z16 dX4_line_144 ?_
                refine w_cv (S0 20 0 (Int32.toNatClampNeg ((4 * q12) + x2))) (mup_k (by decide)) ?_
                refine lv_iconst (v := 4) hx hb dX4_line_145 (by decide) ?_
                refine lv_isub hx hb dX4_line_146 ?_
                refine lv_istore (lv' := [(6, .int ((S0 20 0 (Int32.toNatClampNeg ((4 * q12) + x2))) - 4)), (7, .int q12), (5, .int ((x1 + (S0 7 0 (Int32.toNatClampNeg x1))) - 1)), (4, .int (q10 + 2)), (0, .ref (g.2.2 0 0)), (1, .int x1), (2, .int x2), (3, .int x3)]) hx hb dX4_line_147 hl (by decide) rfl (fun ls hl => ?_)
                exact J149 (mup S0 0 0 0 0) x3 (q10 + 2) ((S0 20 0 (Int32.toNatClampNeg ((4 * q12) + x2))) - 4) h H locs ls B (lv_sub hl [7, 3, 0] rfl)
          · rw [if_neg c9] at h
            refine lv_ldc (v := -1000009) hx hb F.2.2.2.1 (F.2.2.2.2 _ (wsU_in mK_X4_115)) dX4_line_58 ?_
            obtain rfl := Option.some.inj h
            exact w_iret F hr hlocks B dX4_line_60
      · rw [if_pos c5] at h
        refine lv_ldc (v := -1000003) hx hb F.2.2.2.1 (F.2.2.2.2 _ (wsU_in mK_X4_127)) dX4_line_36 ?_
        obtain rfl := Option.some.inj h
        exact w_iret F hr hlocks B dX4_line_38
    · rw [if_pos c4] at h
      refine lv_ldc (v := -1000002) hx hb F.2.2.2.1 (F.2.2.2.2 _ (wsU_in mK_X4_113)) dX4_line_26 ?_
      obtain rfl := Option.some.inj h
      exact w_iret F hr hlocks B dX4_line_28
  · rw [if_neg c2] at h
    refine lv_ldc (v := -1000001) hx hb F.2.2.2.1 (F.2.2.2.2 _ (wsU_in mK_X4_123)) dX4_line_14 ?_
    obtain rfl := Option.some.inj h
    exact w_iret F hr hlocks B dX4_line_16
