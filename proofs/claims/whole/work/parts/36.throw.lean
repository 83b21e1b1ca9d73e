/-- public int cut(int) throws java.lang.ArrayIndexOutOfBoundsException -/
def f_X3_cut (n : Nat) (S0 : mem) (x1 : Int32) : Option (Option Int32) :=
cal (f_X3_isOutside n S0 x1 0 ((S0 0 0 10) - 1)) fun q1 => (
if q1 = 0 then (
grd (¬ (x1 < 0 ∨ 24 ≤ Int32.toNatClampNeg x1)) (
some (some (S0 17 0 (Int32.toNatClampNeg x1))))) else (
some (none)))
set_option maxRecDepth 100000 in
set_option maxHeartbeats 4000000 in
theorem c_X3_cut (l : Launch) (hl9 : l.stackTraces = false) (g : cx) (n : Nat) (S0 : mem) (sz : Nat) (x1 : Int32) (q : Option Int32) (h : f_X3_cut n S0 x1 = some q) : vx_Met l yX3_cut (wsU yX3_cut cX3_cut 2 (some .int)) (rmK 7 1 6) (PcX g S0 sz [.ref (g.2.2 3 0), .int x1]) (QrW g sz S0 q) (XrW g sz S0 "java/lang/ArrayIndexOutOfBoundsException" q) 1 6 (Aw ixC g sz) := by
  refine met_introX [.ref (g.2.2 3 0), .int x1] RX3 rfl (by decide) (Nat.le_of_ble_eq_true rfl) (fun p e s m args below meth c H locs F hr hlocks hno B hE ls hl => ?_)
  obtain ⟨sa, hstr⟩ := hE.2.2.2.2
  have hl : lv_has ls 2 [(0, .ref (g.2.2 3 0)), (1, .int x1)] := hl
  have hx := F.1
  have hb := F.2.1
  unfold f_X3_cut at h
  refine lv_iload_n hx hb dX3_cut_0 rfl (lv_at hl 1 rfl) ?_
  refine lv_iconst (v := 0) hx hb dX3_cut_1 (by decide) ?_
  refine lv_aload_n hx hb dX3_cut_2 rfl (lv_at hl 0 rfl) ?_
  refine gt_X3_2 F B mF_X3_24 dX3_cut_3 ?_
  refine gn_X0_10 F B nF_X3_212 dX3_cut_6 ?_
  refine lv_iconst (v := 1) hx hb dX3_cut_9 (by decide) ?_
  refine lv_isub hx hb dX3_cut_10 ?_
  obtain ⟨q1, hq1, h⟩ := cal_some h
  refine w_callSi F B (c_X3_isOutside l g n S0 H.size x1 0 ((S0 0 0 10) - 1) q1 hq1) mC_X3_isOutside mM_X3_38 mN_X3 mT_X3_isOutside ⟨ok_X3_isOutside, by decide⟩ rfl hl.1 rfl (Nat.le_of_ble_eq_true rfl) dX3_cut_11 (fun H locs B => ?_)
  refine lv_if_eq (tgt := 27) hx hb dX3_cut_14 (by decide) (fun c2 => ?_) (fun c2 => ?_)
  · rw [if_pos c2] at h
    refine lv_aload_n hx hb dX3_cut_27 rfl (lv_at hl 0 rfl) ?_
    refine gt_X3_2 F B mF_X3_24 dX3_cut_28 ?_
    refine gn_X0_9 F B nF_X3_217 dX3_cut_31 ?_
    refine lv_iload_n hx hb dX3_cut_34 rfl (lv_at hl 1 rfl) ?_
    obtain ⟨z3, h⟩ := grd_some h
    refine al_C17 F B  z3 dX3_cut_35 ?_
    obtain rfl := Option.some.inj h
    exact x_iret F hr hlocks B dX3_cut_36
  · rw [if_neg c2] at h
    obtain rfl := Option.some.inj h
    exact x_throw F hl9 B hE hstr (by decide +kernel) (by decide +kernel) exA_cut exO_cut mL_X3_150 mN_ArrayIndexOutOfBoundsException hno hlocks hl.1 dX3_cut_17 dX3_cut_20 dX3_cut_21 dX3_cut_23 dX3_cut_26 (by decide) (Nat.le_of_ble_eq_true rfl)
def j_X3_hyphen_59 (n : Nat) (S0 : mem) : Option (Option Int32) :=
some (none)
/-- public int hyphen(int, int, int) throws java.lang.ArrayIndexOutOfBoundsException -/
def f_X3_hyphen (n : Nat) (S0 : mem) (x1 : Int32) (x2 : Int32) (x3 : Int32) : Option (Option Int32) :=
cal (f_X3_isBox n S0 x1 x2) fun q1 => (
if q1 = 0 then (
some (some (-1000001))) else (
if (S0 3 0 8) = 0 then (
some (some (-1000003))) else (
grd (¬ (x2 < 0 ∨ 4 ≤ Int32.toNatClampNeg x2)) (
cal (f_X2_hyphenRoom n S0 (Int32.toNatClampNeg x2) x1) fun q5 => (
cal (f_X3_hyphensIn n S0 q5) fun q6 => (
if q6 < 1 then (
j_X3_hyphen_59 n S0) else (
cal (f_X3_isOutside n S0 x3 0 (q6 - 1)) fun q8 => (
if q8 = 0 then (
cal (f_X2_boxEnd n S0 (Int32.toNatClampNeg x2) x1) fun q10 => (
grd (¬ (2 * q6) = 0) (
some (some ((q10 + ((((2 * x3) + 1) * q5) / (2 * q6))) - 3))))) else (
j_X3_hyphen_59 n S0)))))))))
set_option maxRecDepth 100000 in
set_option maxHeartbeats 4000000 in
theorem c_X3_hyphen (l : Launch) (hl9 : l.stackTraces = false) (g : cx) (n : Nat) (S0 : mem) (sz : Nat) (x1 : Int32) (x2 : Int32) (x3 : Int32) (q : Option Int32) (h : f_X3_hyphen n S0 x1 x2 x3 = some q) : vx_Met l yX3_hyphen (wsU yX3_hyphen cX3_hyphen 6 (some .int)) (rmK 7 1 6) (PcX g S0 sz [.ref (g.2.2 3 0), .int x1, .int x2, .int x3]) (QrW g sz S0 q) (XrW g sz S0 "java/lang/ArrayIndexOutOfBoundsException" q) 1 6 (Aw ixC g sz) := by
  refine met_introX [.ref (g.2.2 3 0), .int x1, .int x2, .int x3] RX3 rfl (by decide) (Nat.le_of_ble_eq_true rfl) (fun p e s m args below meth c H locs F hr hlocks hno B hE ls hl => ?_)
  obtain ⟨sa, hstr⟩ := hE.2.2.1
  have hl : lv_has ls 6 [(0, .ref (g.2.2 3 0)), (1, .int x1), (2, .int x2), (3, .int x3)] := hl
  have hx := F.1
  have hb := F.2.1
  unfold f_X3_hyphen at h
  refine lv_aload_n hx hb dX3_hyphen_0 rfl (lv_at hl 0 rfl) ?_
  refine lv_iload_n hx hb dX3_hyphen_1 rfl (lv_at hl 1 rfl) ?_
  refine lv_iload_n hx hb dX3_hyphen_2 rfl (lv_at hl 2 rfl) ?_
  obtain ⟨q1, hq1, h⟩ := cal_some h
  refine w_callVi F B (c_X3_isBox l g n S0 H.size x1 x2 q1 hq1) mC_X3_isBox mM_X3_129 mN_X3 mI_X3_isBox mS_X3_isBox ixC_3 rfl rfl ⟨ok_X3_isBox, by decide⟩ rfl hl.1 rfl (Nat.le_of_ble_eq_true rfl) dX3_hyphen_3 (fun H locs B => ?_)
  refine lv_if_ne (tgt := 12) hx hb dX3_hyphen_6 (by decide) (fun c2 => ?_) (fun c2 => ?_)
  · rw [if_neg c2] at h
    refine lv_aload_n hx hb dX3_hyphen_12 rfl (lv_at hl 0 rfl) ?_
    refine gt_X3_8 F B mF_X3_51 dX3_hyphen_13 ?_
    refine lv_if_ne (tgt := 22) hx hb dX3_hyphen_16 (by decide) (fun c3 => ?_) (fun c3 => ?_)
    · rw [if_neg c3] at h
      refine lv_aload_n hx hb dX3_hyphen_22 rfl (lv_at hl 0 rfl) ?_
      refine gt_X3_1 F B mF_X3_17 dX3_hyphen_23 ?_
      refine lv_iload_n hx hb dX3_hyphen_26 rfl (lv_at hl 2 rfl) ?_
      obtain ⟨z4, h⟩ := grd_some h
      refine al_C5 F B  z4 dX3_hyphen_27 ?_
      refine lv_iload_n hx hb dX3_hyphen_28 rfl (lv_at hl 1 rfl) ?_
      obtain ⟨q5, hq5, h⟩ := cal_some h
      refine w_callNi F B (c_X2_hyphenRoom l g n S0 H.size (Int32.toNatClampNeg x2) (ltI z4) x1 q5 hq5) mC_X2_hyphenRoom nM_X3_144 mN_X2 mI_X2_hyphenRoom mS_X2_hyphenRoom (ixC_2 (ltI z4)) rfl rfl ⟨ok_X2_hyphenRoom, by decide⟩ rfl hl.1 rfl (Nat.le_of_ble_eq_true rfl) dX3_hyphen_29 (fun H locs B => ?_)
      refine lv_istore (lv' := [(4, .int q5), (0, .ref (g.2.2 3 0)), (1, .int x1), (2, .int x2), (3, .int x3)]) hx hb dX3_hyphen_32 hl (by decide) rfl (fun ls hl => ?_)
      refine lv_iload hx hb dX3_hyphen_34 (lv_at hl 0 rfl) ?_
      obtain ⟨q6, hq6, h⟩ := cal_some h
      refine w_callSi F B (c_X3_hyphensIn l g n S0 H.size q5 q6 hq6) mC_X3_hyphensIn mM_X3_147 mN_X3 mT_X3_hyphensIn ⟨ok_X3_hyphensIn, by decide⟩ rfl hl.1 rfl (Nat.le_of_ble_eq_true rfl) dX3_hyphen_36 (fun H locs B => ?_)
      refine lv_istore (lv' := [(5, .int q6), (4, .int q5), (0, .ref (g.2.2 3 0)), (1, .int x1), (2, .int x2), (3, .int x3)]) hx hb dX3_hyphen_39 hl (by decide) rfl (fun ls hl => ?_)
      refine lv_iload hx hb dX3_hyphen_41 (lv_at hl 0 rfl) ?_
      refine lv_iconst (v := 1) hx hb dX3_hyphen_43 (by decide) ?_
      have J59 : j_X3_hyphen_59 n S0 = some q → ∀ (H : Heap) (locs : List Loc) (ls : Array Slot), Wd ixC enC g S0 (Aw ixC g s.heap.size) s H locs → lv_has ls 6 [] → W p l e (rmK 7 1 6) s m args below meth c H locs 0 0 (vx_MQ below (QrW g s.heap.size S0 q) (XrW g s.heap.size S0 "java/lang/ArrayIndexOutOfBoundsException" q) args s 1 6 (Aw ixC g s.heap.size)) (F0 m 59 ls []) := by
        intro  h H locs ls B hl
        unfold j_X3_hyphen_59 at h
        obtain rfl := Option.some.inj h
        exact x_throw F hl9 B hE hstr (by decide +kernel) (by decide +kernel) exA_hyphen exO_hyphen mL_X3_150 mN_ArrayIndexOutOfBoundsException hno hlocks hl.1 dX3_hyphen_59 dX3_hyphen_62 dX3_hyphen_63 dX3_hyphen_65 dX3_hyphen_68 (by decide) (Nat.le_of_ble_eq_true rfl)
      refine lv_icmp_lt (tgt := 59) hx hb dX3_hyphen_44 (by decide) (fun c7 => ?_) (fun c7 => ?_)
      · rw [if_pos c7] at h
        exact J59  h H locs ls B (lv_sub hl [] rfl)
      · rw [if_neg c7] at h
        refine lv_iload_n hx hb dX3_hyphen_47 rfl (lv_at hl 5 rfl) ?_
        refine lv_iconst (v := 0) hx hb dX3_hyphen_48 (by decide) ?_
        refine lv_iload hx hb dX3_hyphen_49 (lv_at hl 0 rfl) ?_
        refine lv_iconst (v := 1) hx hb dX3_hyphen_51 (by decide) ?_
        refine lv_isub hx hb dX3_hyphen_52 ?_
        obtain ⟨q8, hq8, h⟩ := cal_some h
        refine w_callSi F B (c_X3_isOutside l g n S0 H.size x3 0 (q6 - 1) q8 hq8) mC_X3_isOutside mM_X3_38 mN_X3 mT_X3_isOutside ⟨ok_X3_isOutside, by decide⟩ rfl hl.1 rfl (Nat.le_of_ble_eq_true rfl) dX3_hyphen_53 (fun H locs B => ?_)
        refine lv_if_eq (tgt := 69) hx hb dX3_hyphen_56 (by decide) (fun c9 => ?_) (fun c9 => ?_)
        · rw [if_pos c9] at h
          refine lv_aload_n hx hb dX3_hyphen_69 rfl (lv_at hl 2 rfl) ?_
          refine gt_X3_1 F B mF_X3_17 dX3_hyphen_70 ?_
          refine lv_iload_n hx hb dX3_hyphen_73 rfl (lv_at hl 4 rfl) ?_
          refine al_C5 F B  z4 dX3_hyphen_74 ?_
          refine lv_iload_n hx hb dX3_hyphen_75 rfl (lv_at hl 3 rfl) ?_
          obtain ⟨q10, hq10, h⟩ := cal_some h
          refine w_callNi F B (c_X2_boxEnd l g n S0 H.size (Int32.toNatClampNeg x2) (ltI z4) x1 q10 hq10) mC_X2_boxEnd nM_X3_141 mN_X2 mI_X2_boxEnd mS_X2_boxEnd (ixC_2 (ltI z4)) rfl rfl ⟨ok_X2_boxEnd, by decide⟩ rfl hl.1 rfl (Nat.le_of_ble_eq_true rfl) dX3_hyphen_76 (fun H locs B => ?_)
          refine lv_iconst (v := 2) hx hb dX3_hyphen_79 (by decide) ?_
          refine lv_iload_n hx hb dX3_hyphen_80 rfl (lv_at hl 5 rfl) ?_
          refine lv_imul hx hb dX3_hyphen_81 ?_
          refine lv_iconst (v := 1) hx hb dX3_hyphen_82 (by decide) ?_
          refine lv_iadd hx hb dX3_hyphen_83 ?_
          refine lv_iload hx hb dX3_hyphen_84 (lv_at hl 1 rfl) ?_
          refine lv_imul hx hb dX3_hyphen_86 ?_
          refine lv_iconst (v := 2) hx hb dX3_hyphen_87 (by decide) ?_
          refine lv_iload hx hb dX3_hyphen_88 (lv_at hl 0 rfl) ?_
          refine lv_imul hx hb dX3_hyphen_90 ?_
          obtain ⟨z11, h⟩ := grd_some h
          refine lv_idiv hx hb dX3_hyphen_91 z11 ?_
          refine lv_iadd hx hb dX3_hyphen_92 ?_
          refine lv_iconst (v := 3) hx hb dX3_hyphen_93 (by decide) ?_
          refine lv_isub hx hb dX3_hyphen_94 ?_
          obtain rfl := Option.some.inj h
          exact x_iret F hr hlocks B dX3_hyphen_95
        · rw [if_neg c9] at h
          exact J59  h H locs ls B (lv_sub hl [] rfl)
    · rw [if_pos c3] at h
      refine lv_ldc (v := -1000003) hx hb F.2.2.2.1 (F.2.2.2.2 _ (wsU_in mK_X3_67)) dX3_hyphen_19 ?_
      obtain rfl := Option.some.inj h
      exact x_iret F hr hlocks B dX3_hyphen_21
  · rw [if_pos c2] at h
    refine lv_ldc (v := -1000001) hx hb F.2.2.2.1 (F.2.2.2.2 _ (wsU_in mK_X3_62)) dX3_hyphen_9 ?_
    obtain rfl := Option.some.inj h
    exact x_iret F hr hlocks B dX3_hyphen_11
def b_X3_strain_54 (n : Nat) (S0 : mem) (x1 : Int32) : (Int32 × Int32) → Option ((Int32 × Int32) ⊕ (Option Int32)) := fun w =>
if (S0 3 0 4) ≤ w.2 then (
grd (¬ x1 = 0) (
some (.inr (some ((1000 * w.1) / x1))))) else (
grd (¬ (w.2 < 0 ∨ 60 ≤ Int32.toNatClampNeg w.2)) (
some (.inl ((w.1 + (S0 1 (Int32.toNatClampNeg w.2) 8)), (w.2 + 1)))))
def j_X3_strain_35 (n : Nat) (S0 : mem) (y0 : Int32) : Option (Option Int32) :=
if y0 = 0 then (
some (none)) else (
lp (b_X3_strain_54 n S0 y0) n (0, 0))
/-- public int strain() throws java.lang.ArithmeticException -/
def f_X3_strain (n : Nat) (S0 : mem) : Option (Option Int32) :=
if (S0 3 0 8) = 0 then (
some (some (-1000003))) else (
if (S0 3 0 4) = 0 then (
j_X3_strain_35 n S0 0) else (
grd (¬ ((S0 3 0 4) - 1 < 0 ∨ 60 ≤ Int32.toNatClampNeg ((S0 3 0 4) - 1))) (
j_X3_strain_35 n S0 (S0 1 (Int32.toNatClampNeg ((S0 3 0 4) - 1)) 7))))
set_option maxRecDepth 100000 in
set_option maxHeartbeats 4000000 in
theorem c_X3_strain (l : Launch) (hl9 : l.stackTraces = false) (g : cx) (n : Nat) (S0 : mem) (sz : Nat)  (q : Option Int32) (h : f_X3_strain n S0 = some q) : vx_Met l yX3_strain (wsU yX3_strain cX3_strain 4 (some .int)) (rmK 7 1 6) (PcX g S0 sz [.ref (g.2.2 3 0)]) (QrW g sz S0 q) (XrW g sz S0 "java/lang/ArithmeticException" q) 1 6 (Aw ixC g sz) := by
  refine met_introX [.ref (g.2.2 3 0)] RX3 rfl (by decide) (Nat.le_of_ble_eq_true rfl) (fun p e s m args below meth c H locs F hr hlocks hno B hE ls hl => ?_)
  obtain ⟨sa, hstr⟩ := hE.2.2.2.1
  have hl : lv_has ls 4 [(0, .ref (g.2.2 3 0))] := hl
  have hx := F.1
  have hb := F.2.1
  unfold f_X3_strain at h
  refine lv_aload_n hx hb dX3_strain_0 rfl (lv_at hl 0 rfl) ?_
  refine gt_X3_8 F B mF_X3_51 dX3_strain_1 ?_
  refine lv_if_ne (tgt := 10) hx hb dX3_strain_4 (by decide) (fun c1 => ?_) (fun c1 => ?_)
  · rw [if_neg c1] at h
    refine lv_aload_n hx hb dX3_strain_10 rfl (lv_at hl 0 rfl) ?_
    refine gt_X3_4 F B mF_X3_43 dX3_strain_11 ?_
    have J35 : ∀ (y0 : Int32), j_X3_strain_35 n S0 y0 = some q → ∀ (H : Heap) (locs : List Loc) (ls : Array Slot), Wd ixC enC g S0 (Aw ixC g s.heap.size) s H locs → lv_has ls 4 [(0, .ref (g.2.2 3 0))] → W p l e (rmK 7 1 6) s m args below meth c H locs 0 0 (vx_MQ below (QrW g s.heap.size S0 q) (XrW g s.heap.size S0 "java/lang/ArithmeticException" q) args s 1 6 (Aw ixC g s.heap.size)) (F0 m 35 ls [.int y0]) := by
      intro y0 h H locs ls B hl
      unfold j_X3_strain_35 at h
      refine lv_istore_n (lv' := [(1, .int y0), (0, .ref (g.2.2 3 0))]) hx hb dX3_strain_35 rfl hl (by decide) rfl (fun ls hl => ?_)
      refine lv_iload_n hx hb dX3_strain_36 rfl (lv_at hl 0 rfl) ?_
      refine lv_if_ne (tgt := 50) hx hb dX3_strain_37 (by decide) (fun c2 => ?_) (fun c2 => ?_)
      · rw [if_neg c2] at h
        refine lv_iconst (v := 0) hx hb dX3_strain_50 (by decide) ?_
        refine lv_istore_n (lv' := [(2, .int 0), (1, .int y0), (0, .ref (g.2.2 3 0))]) hx hb dX3_strain_51 rfl hl (by decide) rfl (fun ls hl => ?_)
        refine lv_iconst (v := 0) hx hb dX3_strain_52 (by decide) ?_
        refine lv_istore_n (lv' := [(3, .int 0), (2, .int 0), (1, .int y0), (0, .ref (g.2.2 3 0))]) hx hb dX3_strain_53 rfl hl (by decide) rfl (fun ls hl => ?_)
        have L54 : ∀ (k54 : Nat) (x1 : Int32) (x2 : Int32) (x3 : Int32), lp (b_X3_strain_54 n S0 x1) k54 (x2, x3) = some q → ∀ (H : Heap) (locs : List Loc) (ls : Array Slot), Wd ixC enC g S0 (Aw ixC g s.heap.size) s H locs → lv_has ls 4 [(0, .ref (g.2.2 3 0)), (1, .int x1), (2, .int x2), (3, .int x3)] → W p l e (rmK 7 1 6) s m args below meth c H locs 0 0 (vx_MQ below (QrW g s.heap.size S0 q) (XrW g s.heap.size S0 "java/lang/ArithmeticException" q) args s 1 6 (Aw ixC g s.heap.size)) (F0 m 54 ls []) := by
          intro k54
          induction k54 with
          | zero => intro x1 x2 x3 h; exact (lp_zero h).elim
          | succ k54 ih54 =>
            intro x1 x2 x3 h H locs ls B hl
            obtain ⟨t54, h, ht54⟩ := lp_succ h
            unfold b_X3_strain_54 at h
            (try dsimp only at h)
            refine lv_iload_n hx hb dX3_strain_54 rfl (lv_at hl 3 rfl) ?_
            refine lv_aload_n hx hb dX3_strain_55 rfl (lv_at hl 0 rfl) ?_
            refine gt_X3_4 F B mF_X3_43 dX3_strain_56 ?_
            refine lv_icmp_ge (tgt := 80) hx hb dX3_strain_59 (by decide) (fun c3 => ?_) (fun c3 => ?_)
            · rw [if_pos c3] at h
              refine lv_sipush (v := 1000) hx hb dX3_strain_80 (by decide) ?_
              refine lv_iload_n hx hb dX3_strain_83 rfl (lv_at hl 2 rfl) ?_
              refine lv_imul hx hb dX3_strain_84 ?_
              refine lv_iload_n hx hb dX3_strain_85 rfl (lv_at hl 1 rfl) ?_
              obtain ⟨z4, h⟩ := grd_some h
              refine lv_idiv hx hb dX3_strain_86 z4 ?_
              obtain rfl := Option.some.inj h
              obtain rfl := (show _ = q from ht54)
              exact x_iret F hr hlocks B dX3_strain_87
            · rw [if_neg c3] at h
              refine lv_iload_n hx hb dX3_strain_62 rfl (lv_at hl 2 rfl) ?_
              refine lv_aload_n hx hb dX3_strain_63 rfl (lv_at hl 0 rfl) ?_
              refine gt_X3_0 F B mF_X3_11 dX3_strain_64 ?_
              refine lv_iload_n hx hb dX3_strain_67 rfl (lv_at hl 3 rfl) ?_
              obtain ⟨z5, h⟩ := grd_some h
              refine al_C4 F B  z5 dX3_strain_68 ?_
              refine gn_X1_8 F B (ltI z5) nF_X3_126 dX3_strain_69 ?_
              refine lv_iadd hx hb dX3_strain_72 ?_
              refine lv_istore_n (lv' := [(2, .int (x2 + (S0 1 (Int32.toNatClampNeg x3) 8))), (0, .ref (g.2.2 3 0)), (1, .int x1), (3, .int x3)]) hx hb dX3_strain_73 rfl hl (by decide) rfl (fun ls hl => ?_)
              refine lv_iinc (v := x3 + 1) (lv' := [(3, .int (x3 + 1)), (2, .int (x2 + (S0 1 (Int32.toNatClampNeg x3) 8))), (0, .ref (g.2.2 3 0)), (1, .int x1)]) hx hb dX3_strain_74 hl (k := 3) rfl rfl (by decide) rfl (fun ls hl => ?_)
              refine lv_goto (tgt := 54) hx hb dX3_strain_77 (by decide) ?_
              obtain rfl := Option.some.inj h
              exact ih54 x1 (x2 + (S0 1 (Int32.toNatClampNeg x3) 8)) (x3 + 1) ht54 H locs ls B (lv_sub hl [2, 3, 1, 0] rfl)
        exact L54 n y0 0 0 h H locs ls B (lv_sub hl [3, 2, 1, 0] rfl)
      · rw [if_pos c2] at h
        obtain rfl := Option.some.inj h
        exact x_throw F hl9 B hE hstr (by decide +kernel) (by decide +kernel) exA_strain exO_strain mL_X3_165 mN_ArithmeticException hno hlocks hl.1 dX3_strain_40 dX3_strain_43 dX3_strain_44 dX3_strain_46 dX3_strain_49 (by decide) (Nat.le_of_ble_eq_true rfl)
    refine lv_if_ne (tgt := 21) hx hb dX3_strain_14 (by decide) (fun c6 => ?_) (fun c6 => ?_)
    · rw [if_neg c6] at h
      refine lv_aload_n hx hb dX3_strain_21 rfl (lv_at hl 0 rfl) ?_
      refine gt_X3_0 F B mF_X3_11 dX3_strain_22 ?_
      refine lv_aload_n hx hb dX3_strain_25 rfl (lv_at hl 0 rfl) ?_
      refine gt_X3_4 F B mF_X3_43 dX3_strain_26 ?_
      refine lv_iconst (v := 1) hx hb dX3_strain_29 (by decide) ?_
      refine lv_isub hx hb dX3_strain_30 ?_
      obtain ⟨z7, h⟩ := grd_some h
      refine al_C4 F B  z7 dX3_strain_31 ?_
      refine gn_X1_7 F B (ltI z7) nF_X3_123 dX3_strain_32 ?_
      exact J35 (S0 1 (Int32.toNatClampNeg ((S0 3 0 4) - 1)) 7) h H locs ls B (lv_sub hl [0] rfl)
    · rw [if_pos c6] at h
      refine lv_iconst (v := 0) hx hb dX3_strain_17 (by decide) ?_
      refine lv_goto (tgt := 35) hx hb dX3_strain_18 (by decide) ?_
      exact J35 0 h H locs ls B (lv_sub hl [0] rfl)
  · rw [if_pos c1] at h
    refine lv_ldc (v := -1000003) hx hb F.2.2.2.1 (F.2.2.2.2 _ (wsU_in mK_X3_67)) dX3_strain_7 ?_
    obtain rfl := Option.some.inj h
    exact x_iret F hr hlocks B dX3_strain_9
