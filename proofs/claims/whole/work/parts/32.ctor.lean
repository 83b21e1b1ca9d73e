set_option maxRecDepth 100000 in
set_option maxHeartbeats 4000000 in
theorem c_X0_init (l : Launch) (g : cx) (h0 z : Nat) : Met l yX0_init (wsU yX0_init cX0_init 1 none) (rmK 1 6 167) (PcL g [(h0, .inr (2, [.null, .null, .null, .int 0, .null, .int 0, .null, .int 0, .int 0, .null, .int 0]))] z [.ref h0]) (QvL g [(h0, .inr (2, [.ref (z), .ref (z + 1), .ref (z + 2), .int 0, .ref (z + 3), .int 0, .ref (z + 4), .int 2, .int 3, .ref (z + 5), .int 0])), (z, .inl (g.2.1 0, 30, .inl (fun _ => 0))), (z + 1, .inl (g.2.1 0, 30, .inl (fun _ => 0))), (z + 2, .inl (g.2.1 0, 30, .inl (fun _ => 0))), (z + 3, .inl (g.2.1 0, 26, .inl (fun _ => 0))), (z + 4, .inl (g.2.1 0, 27, .inl (fun _ => 0))), (z + 5, .inl (g.2.1 0, 24, .inl (fun _ => 0)))] (z + 6) (va_A [(h0, .inr (2, [.null, .null, .null, .int 0, .null, .int 0, .null, .int 0, .int 0, .null, .int 0]))] z)) 6 167 (va_A [(h0, .inr (2, [.null, .null, .null, .int 0, .null, .int 0, .null, .int 0, .int 0, .null, .int 0]))] z) := by
  refine met_introL (va_A [(h0, .inr (2, [.null, .null, .null, .int 0, .null, .int 0, .null, .int 0, .int 0, .null, .int 0]))] z) (fun q h => Or.inr h) (fun k q hk => Or.inl ⟨k, q.2, hk⟩) [.ref h0] RX0 rfl rfl (by decide) (Nat.le_of_ble_eq_true rfl) (fun p e s m args below meth c H locs F hr hlocks hin hsz B ls hl => ?_)
  have hl : lv_has ls 1 [(0, .ref h0)] := hl
  have hx := F.1
  have hb := F.2.1
  refine lv_aload_n hx hb dX0_init_0 rfl (lv_at hl 0 rfl) ?_
  refine l_objInit F mO_X0 mI_obj mC_obj hl.1 dX0_init_1 (by decide) (by decide) ?_
  refine lv_aload_n hx hb dX0_init_4 rfl (lv_at hl 0 rfl) ?_
  refine lv_bipush (v := 30) hx hb dX0_init_5 (by decide) ?_
  refine l_newa F B (atype := .int) (wsU_in mA_int) 0 rfl hpI rfl (haI 30) (by decide) rfl (by decide) (by decide) (by decide) dX0_init_7 (fun H B => ?_)
  have B : Ld g (va_A [(h0, .inr (2, [.null, .null, .null, .int 0, .null, .int 0, .null, .int 0, .int 0, .null, .int 0]))] z) s H locs [(h0, .inr (2, [.null, .null, .null, .int 0, .null, .int 0, .null, .int 0, .int 0, .null, .int 0])), (z, .inl (g.2.1 0, 30, .inl (fun _ => 0)))] (z + 1) := B
  refine l_putF F hin B (fun w h => wsU_in (inGX0 w h)) tyX0 tyX0_ok nmX0 0 rfl rfl 0 (by decide) (wsU_in mF_X0_9) rfl rfl rfl rfl (Nat.le_of_ble_eq_true rfl) dX0_init_9 (fun H locs B => ?_)
  have B : Ld g (va_A [(h0, .inr (2, [.null, .null, .null, .int 0, .null, .int 0, .null, .int 0, .int 0, .null, .int 0]))] z) s H locs [(h0, .inr (2, [.ref (z), .null, .null, .int 0, .null, .int 0, .null, .int 0, .int 0, .null, .int 0])), (z, .inl (g.2.1 0, 30, .inl (fun _ => 0)))] (z + 1) := B
  refine lv_aload_n hx hb dX0_init_12 rfl (lv_at hl 0 rfl) ?_
  refine lv_bipush (v := 30) hx hb dX0_init_13 (by decide) ?_
  refine l_newa F B (atype := .int) (wsU_in mA_int) 0 rfl hpI rfl (haI 30) (by decide) rfl (by decide) (by decide) (by decide) dX0_init_15 (fun H B => ?_)
  have B : Ld g (va_A [(h0, .inr (2, [.null, .null, .null, .int 0, .null, .int 0, .null, .int 0, .int 0, .null, .int 0]))] z) s H locs [(h0, .inr (2, [.ref (z), .null, .null, .int 0, .null, .int 0, .null, .int 0, .int 0, .null, .int 0])), (z, .inl (g.2.1 0, 30, .inl (fun _ => 0))), (z + 1, .inl (g.2.1 0, 30, .inl (fun _ => 0)))] (z + 2) := B
  refine l_putF F hin B (fun w h => wsU_in (inGX0 w h)) tyX0 tyX0_ok nmX0 0 rfl rfl 1 (by decide) (wsU_in mF_X0_15) rfl rfl rfl rfl (Nat.le_of_ble_eq_true rfl) dX0_init_17 (fun H locs B => ?_)
  have B : Ld g (va_A [(h0, .inr (2, [.null, .null, .null, .int 0, .null, .int 0, .null, .int 0, .int 0, .null, .int 0]))] z) s H locs [(h0, .inr (2, [.ref (z), .ref (z + 1), .null, .int 0, .null, .int 0, .null, .int 0, .int 0, .null, .int 0])), (z, .inl (g.2.1 0, 30, .inl (fun _ => 0))), (z + 1, .inl (g.2.1 0, 30, .inl (fun _ => 0)))] (z + 2) := B
  refine lv_aload_n hx hb dX0_init_20 rfl (lv_at hl 0 rfl) ?_
  refine lv_bipush (v := 30) hx hb dX0_init_21 (by decide) ?_
  refine l_newa F B (atype := .int) (wsU_in mA_int) 0 rfl hpI rfl (haI 30) (by decide) rfl (by decide) (by decide) (by decide) dX0_init_23 (fun H B => ?_)
  have B : Ld g (va_A [(h0, .inr (2, [.null, .null, .null, .int 0, .null, .int 0, .null, .int 0, .int 0, .null, .int 0]))] z) s H locs [(h0, .inr (2, [.ref (z), .ref (z + 1), .null, .int 0, .null, .int 0, .null, .int 0, .int 0, .null, .int 0])), (z, .inl (g.2.1 0, 30, .inl (fun _ => 0))), (z + 1, .inl (g.2.1 0, 30, .inl (fun _ => 0))), (z + 2, .inl (g.2.1 0, 30, .inl (fun _ => 0)))] (z + 3) := B
  refine l_putF F hin B (fun w h => wsU_in (inGX0 w h)) tyX0 tyX0_ok nmX0 0 rfl rfl 2 (by decide) (wsU_in mF_X0_18) rfl rfl rfl rfl (Nat.le_of_ble_eq_true rfl) dX0_init_25 (fun H locs B => ?_)
  have B : Ld g (va_A [(h0, .inr (2, [.null, .null, .null, .int 0, .null, .int 0, .null, .int 0, .int 0, .null, .int 0]))] z) s H locs [(h0, .inr (2, [.ref (z), .ref (z + 1), .ref (z + 2), .int 0, .null, .int 0, .null, .int 0, .int 0, .null, .int 0])), (z, .inl (g.2.1 0, 30, .inl (fun _ => 0))), (z + 1, .inl (g.2.1 0, 30, .inl (fun _ => 0))), (z + 2, .inl (g.2.1 0, 30, .inl (fun _ => 0)))] (z + 3) := B
  refine lv_aload_n hx hb dX0_init_28 rfl (lv_at hl 0 rfl) ?_
  refine lv_bipush (v := 26) hx hb dX0_init_29 (by decide) ?_
  refine l_newa F B (atype := .int) (wsU_in mA_int) 0 rfl hpI rfl (haI 26) (by decide) rfl (by decide) (by decide) (by decide) dX0_init_31 (fun H B => ?_)
  have B : Ld g (va_A [(h0, .inr (2, [.null, .null, .null, .int 0, .null, .int 0, .null, .int 0, .int 0, .null, .int 0]))] z) s H locs [(h0, .inr (2, [.ref (z), .ref (z + 1), .ref (z + 2), .int 0, .null, .int 0, .null, .int 0, .int 0, .null, .int 0])), (z, .inl (g.2.1 0, 30, .inl (fun _ => 0))), (z + 1, .inl (g.2.1 0, 30, .inl (fun _ => 0))), (z + 2, .inl (g.2.1 0, 30, .inl (fun _ => 0))), (z + 3, .inl (g.2.1 0, 26, .inl (fun _ => 0)))] (z + 4) := B
  refine l_putF F hin B (fun w h => wsU_in (inGX0 w h)) tyX0 tyX0_ok nmX0 0 rfl rfl 4 (by decide) (wsU_in mF_X0_21) rfl rfl rfl rfl (Nat.le_of_ble_eq_true rfl) dX0_init_33 (fun H locs B => ?_)
  have B : Ld g (va_A [(h0, .inr (2, [.null, .null, .null, .int 0, .null, .int 0, .null, .int 0, .int 0, .null, .int 0]))] z) s H locs [(h0, .inr (2, [.ref (z), .ref (z + 1), .ref (z + 2), .int 0, .ref (z + 3), .int 0, .null, .int 0, .int 0, .null, .int 0])), (z, .inl (g.2.1 0, 30, .inl (fun _ => 0))), (z + 1, .inl (g.2.1 0, 30, .inl (fun _ => 0))), (z + 2, .inl (g.2.1 0, 30, .inl (fun _ => 0))), (z + 3, .inl (g.2.1 0, 26, .inl (fun _ => 0)))] (z + 4) := B
  refine lv_aload_n hx hb dX0_init_36 rfl (lv_at hl 0 rfl) ?_
  refine lv_bipush (v := 27) hx hb dX0_init_37 (by decide) ?_
  refine l_newa F B (atype := .int) (wsU_in mA_int) 0 rfl hpI rfl (haI 27) (by decide) rfl (by decide) (by decide) (by decide) dX0_init_39 (fun H B => ?_)
  have B : Ld g (va_A [(h0, .inr (2, [.null, .null, .null, .int 0, .null, .int 0, .null, .int 0, .int 0, .null, .int 0]))] z) s H locs [(h0, .inr (2, [.ref (z), .ref (z + 1), .ref (z + 2), .int 0, .ref (z + 3), .int 0, .null, .int 0, .int 0, .null, .int 0])), (z, .inl (g.2.1 0, 30, .inl (fun _ => 0))), (z + 1, .inl (g.2.1 0, 30, .inl (fun _ => 0))), (z + 2, .inl (g.2.1 0, 30, .inl (fun _ => 0))), (z + 3, .inl (g.2.1 0, 26, .inl (fun _ => 0))), (z + 4, .inl (g.2.1 0, 27, .inl (fun _ => 0)))] (z + 5) := B
  refine l_putF F hin B (fun w h => wsU_in (inGX0 w h)) tyX0 tyX0_ok nmX0 0 rfl rfl 6 (by decide) (wsU_in mF_X0_24) rfl rfl rfl rfl (Nat.le_of_ble_eq_true rfl) dX0_init_41 (fun H locs B => ?_)
  have B : Ld g (va_A [(h0, .inr (2, [.null, .null, .null, .int 0, .null, .int 0, .null, .int 0, .int 0, .null, .int 0]))] z) s H locs [(h0, .inr (2, [.ref (z), .ref (z + 1), .ref (z + 2), .int 0, .ref (z + 3), .int 0, .ref (z + 4), .int 0, .int 0, .null, .int 0])), (z, .inl (g.2.1 0, 30, .inl (fun _ => 0))), (z + 1, .inl (g.2.1 0, 30, .inl (fun _ => 0))), (z + 2, .inl (g.2.1 0, 30, .inl (fun _ => 0))), (z + 3, .inl (g.2.1 0, 26, .inl (fun _ => 0))), (z + 4, .inl (g.2.1 0, 27, .inl (fun _ => 0)))] (z + 5) := B
  refine lv_aload_n hx hb dX0_init_44 rfl (lv_at hl 0 rfl) ?_
  refine lv_iconst (v := 2) hx hb dX0_init_45 (by decide) ?_
  refine l_put F B (fun w h => wsU_in (inGX0 w h)) tyX0 tyX0_ok nmX0 0 rfl rfl 7 (by decide) (wsU_in mF_X0_27) rfl rfl rfl (Nat.le_of_ble_eq_true rfl) dX0_init_46 (fun H locs B => ?_)
  have B : Ld g (va_A [(h0, .inr (2, [.null, .null, .null, .int 0, .null, .int 0, .null, .int 0, .int 0, .null, .int 0]))] z) s H locs [(h0, .inr (2, [.ref (z), .ref (z + 1), .ref (z + 2), .int 0, .ref (z + 3), .int 0, .ref (z + 4), .int 2, .int 0, .null, .int 0])), (z, .inl (g.2.1 0, 30, .inl (fun _ => 0))), (z + 1, .inl (g.2.1 0, 30, .inl (fun _ => 0))), (z + 2, .inl (g.2.1 0, 30, .inl (fun _ => 0))), (z + 3, .inl (g.2.1 0, 26, .inl (fun _ => 0))), (z + 4, .inl (g.2.1 0, 27, .inl (fun _ => 0)))] (z + 5) := B
  refine lv_aload_n hx hb dX0_init_49 rfl (lv_at hl 0 rfl) ?_
  refine lv_iconst (v := 3) hx hb dX0_init_50 (by decide) ?_
  refine l_put F B (fun w h => wsU_in (inGX0 w h)) tyX0 tyX0_ok nmX0 0 rfl rfl 8 (by decide) (wsU_in mF_X0_31) rfl rfl rfl (Nat.le_of_ble_eq_true rfl) dX0_init_51 (fun H locs B => ?_)
  have B : Ld g (va_A [(h0, .inr (2, [.null, .null, .null, .int 0, .null, .int 0, .null, .int 0, .int 0, .null, .int 0]))] z) s H locs [(h0, .inr (2, [.ref (z), .ref (z + 1), .ref (z + 2), .int 0, .ref (z + 3), .int 0, .ref (z + 4), .int 2, .int 3, .null, .int 0])), (z, .inl (g.2.1 0, 30, .inl (fun _ => 0))), (z + 1, .inl (g.2.1 0, 30, .inl (fun _ => 0))), (z + 2, .inl (g.2.1 0, 30, .inl (fun _ => 0))), (z + 3, .inl (g.2.1 0, 26, .inl (fun _ => 0))), (z + 4, .inl (g.2.1 0, 27, .inl (fun _ => 0)))] (z + 5) := B
  refine lv_aload_n hx hb dX0_init_54 rfl (lv_at hl 0 rfl) ?_
  refine lv_bipush (v := 24) hx hb dX0_init_55 (by decide) ?_
  refine l_newa F B (atype := .int) (wsU_in mA_int) 0 rfl hpI rfl (haI 24) (by decide) rfl (by decide) (by decide) (by decide) dX0_init_57 (fun H B => ?_)
  have B : Ld g (va_A [(h0, .inr (2, [.null, .null, .null, .int 0, .null, .int 0, .null, .int 0, .int 0, .null, .int 0]))] z) s H locs [(h0, .inr (2, [.ref (z), .ref (z + 1), .ref (z + 2), .int 0, .ref (z + 3), .int 0, .ref (z + 4), .int 2, .int 3, .null, .int 0])), (z, .inl (g.2.1 0, 30, .inl (fun _ => 0))), (z + 1, .inl (g.2.1 0, 30, .inl (fun _ => 0))), (z + 2, .inl (g.2.1 0, 30, .inl (fun _ => 0))), (z + 3, .inl (g.2.1 0, 26, .inl (fun _ => 0))), (z + 4, .inl (g.2.1 0, 27, .inl (fun _ => 0))), (z + 5, .inl (g.2.1 0, 24, .inl (fun _ => 0)))] (z + 6) := B
  refine l_putF F hin B (fun w h => wsU_in (inGX0 w h)) tyX0 tyX0_ok nmX0 0 rfl rfl 9 (by decide) (wsU_in mF_X0_34) rfl rfl rfl rfl (Nat.le_of_ble_eq_true rfl) dX0_init_59 (fun H locs B => ?_)
  have B : Ld g (va_A [(h0, .inr (2, [.null, .null, .null, .int 0, .null, .int 0, .null, .int 0, .int 0, .null, .int 0]))] z) s H locs [(h0, .inr (2, [.ref (z), .ref (z + 1), .ref (z + 2), .int 0, .ref (z + 3), .int 0, .ref (z + 4), .int 2, .int 3, .ref (z + 5), .int 0])), (z, .inl (g.2.1 0, 30, .inl (fun _ => 0))), (z + 1, .inl (g.2.1 0, 30, .inl (fun _ => 0))), (z + 2, .inl (g.2.1 0, 30, .inl (fun _ => 0))), (z + 3, .inl (g.2.1 0, 26, .inl (fun _ => 0))), (z + 4, .inl (g.2.1 0, 27, .inl (fun _ => 0))), (z + 5, .inl (g.2.1 0, 24, .inl (fun _ => 0)))] (z + 6) := B
  exact l_vret F hr hlocks B dX0_init_62
set_option maxRecDepth 100000 in
set_option maxHeartbeats 4000000 in
theorem c_X1_init (l : Launch) (g : cx) (h0 z : Nat) : Met l yX1_init (wsU yX1_init cX1_init 1 none) (rmK 1 0 0) (PcL g [(h0, .inr (3, [.int 0, .int 0, .int 0, .int 0, .int 0, .int 0, .int 0, .int 0, .int 0]))] z [.ref h0]) (QvL g [(h0, .inr (3, [.int 0, .int 0, .int 0, .int 0, .int 0, .int 0, .int 0, .int 0, .int 0]))] (z) (va_A [(h0, .inr (3, [.int 0, .int 0, .int 0, .int 0, .int 0, .int 0, .int 0, .int 0, .int 0]))] z)) 0 0 (va_A [(h0, .inr (3, [.int 0, .int 0, .int 0, .int 0, .int 0, .int 0, .int 0, .int 0, .int 0]))] z) := by
  refine met_introL (va_A [(h0, .inr (3, [.int 0, .int 0, .int 0, .int 0, .int 0, .int 0, .int 0, .int 0, .int 0]))] z) (fun q h => Or.inr h) (fun k q hk => Or.inl ⟨k, q.2, hk⟩) [.ref h0] RX1 rfl rfl (by decide) (Nat.le_of_ble_eq_true rfl) (fun p e s m args below meth c H locs F hr hlocks hin hsz B ls hl => ?_)
  have hl : lv_has ls 1 [(0, .ref h0)] := hl
  have hx := F.1
  have hb := F.2.1
  refine lv_aload_n hx hb dX1_init_0 rfl (lv_at hl 0 rfl) ?_
  refine l_objInit F mO_X1 mI_obj mC_obj hl.1 dX1_init_1 (by decide) (by decide) ?_
  exact l_vret F hr hlocks B dX1_init_4
set_option maxRecDepth 100000 in
set_option maxHeartbeats 4000000 in
theorem c_X2_init (l : Launch) (g : cx) (h0 z : Nat) : Met l yX2_init (wsU yX2_init cX2_init 1 none) (rmK 1 5 480) (PcL g [(h0, .inr (4, [.null, .null, .null, .null, .null, .int 0, .int 0, .int 0, .int 0]))] z [.ref h0]) (QvL g [(h0, .inr (4, [.ref (z), .ref (z + 1), .ref (z + 2), .ref (z + 3), .ref (z + 4), .int 0, .int 0, .int 0, .int 0])), (z, .inl (g.2.1 0, 60, .inl (fun _ => 0))), (z + 1, .inl (g.2.1 0, 120, .inl (fun _ => 0))), (z + 2, .inl (g.2.1 0, 120, .inl (fun _ => 0))), (z + 3, .inl (g.2.1 1, 120, .inl (fun _ => 0))), (z + 4, .inl (g.2.1 0, 60, .inl (fun _ => 0)))] (z + 5) (va_A [(h0, .inr (4, [.null, .null, .null, .null, .null, .int 0, .int 0, .int 0, .int 0]))] z)) 5 480 (va_A [(h0, .inr (4, [.null, .null, .null, .null, .null, .int 0, .int 0, .int 0, .int 0]))] z) := by
  refine met_introL (va_A [(h0, .inr (4, [.null, .null, .null, .null, .null, .int 0, .int 0, .int 0, .int 0]))] z) (fun q h => Or.inr h) (fun k q hk => Or.inl ⟨k, q.2, hk⟩) [.ref h0] RX2 rfl rfl (by decide) (Nat.le_of_ble_eq_true rfl) (fun p e s m args below meth c H locs F hr hlocks hin hsz B ls hl => ?_)
  have hl : lv_has ls 1 [(0, .ref h0)] := hl
  have hx := F.1
  have hb := F.2.1
  refine lv_aload_n hx hb dX2_init_0 rfl (lv_at hl 0 rfl) ?_
  refine l_objInit F mO_X2 mI_obj mC_obj hl.1 dX2_init_1 (by decide) (by decide) ?_
  refine lv_aload_n hx hb dX2_init_4 rfl (lv_at hl 0 rfl) ?_
  refine lv_bipush (v := 60) hx hb dX2_init_5 (by decide) ?_
  refine l_newa F B (atype := .int) (wsU_in mA_int) 0 rfl hpI rfl (haI 60) (by decide) rfl (by decide) (by decide) (by decide) dX2_init_7 (fun H B => ?_)
  have B : Ld g (va_A [(h0, .inr (4, [.null, .null, .null, .null, .null, .int 0, .int 0, .int 0, .int 0]))] z) s H locs [(h0, .inr (4, [.null, .null, .null, .null, .null, .int 0, .int 0, .int 0, .int 0])), (z, .inl (g.2.1 0, 60, .inl (fun _ => 0)))] (z + 1) := B
  refine l_putF F hin B (fun w h => wsU_in (inGX2 w h)) tyX2 tyX2_ok nmX2 0 rfl rfl 0 (by decide) (wsU_in mF_X2_9) rfl rfl rfl rfl (Nat.le_of_ble_eq_true rfl) dX2_init_9 (fun H locs B => ?_)
  have B : Ld g (va_A [(h0, .inr (4, [.null, .null, .null, .null, .null, .int 0, .int 0, .int 0, .int 0]))] z) s H locs [(h0, .inr (4, [.ref (z), .null, .null, .null, .null, .int 0, .int 0, .int 0, .int 0])), (z, .inl (g.2.1 0, 60, .inl (fun _ => 0)))] (z + 1) := B
  refine lv_aload_n hx hb dX2_init_12 rfl (lv_at hl 0 rfl) ?_
  refine lv_bipush (v := 120) hx hb dX2_init_13 (by decide) ?_
  refine l_newa F B (atype := .int) (wsU_in mA_int) 0 rfl hpI rfl (haI 120) (by decide) rfl (by decide) (by decide) (by decide) dX2_init_15 (fun H B => ?_)
  have B : Ld g (va_A [(h0, .inr (4, [.null, .null, .null, .null, .null, .int 0, .int 0, .int 0, .int 0]))] z) s H locs [(h0, .inr (4, [.ref (z), .null, .null, .null, .null, .int 0, .int 0, .int 0, .int 0])), (z, .inl (g.2.1 0, 60, .inl (fun _ => 0))), (z + 1, .inl (g.2.1 0, 120, .inl (fun _ => 0)))] (z + 2) := B
  refine l_putF F hin B (fun w h => wsU_in (inGX2 w h)) tyX2 tyX2_ok nmX2 0 rfl rfl 1 (by decide) (wsU_in mF_X2_15) rfl rfl rfl rfl (Nat.le_of_ble_eq_true rfl) dX2_init_17 (fun H locs B => ?_)
  have B : Ld g (va_A [(h0, .inr (4, [.null, .null, .null, .null, .null, .int 0, .int 0, .int 0, .int 0]))] z) s H locs [(h0, .inr (4, [.ref (z), .ref (z + 1), .null, .null, .null, .int 0, .int 0, .int 0, .int 0])), (z, .inl (g.2.1 0, 60, .inl (fun _ => 0))), (z + 1, .inl (g.2.1 0, 120, .inl (fun _ => 0)))] (z + 2) := B
  refine lv_aload_n hx hb dX2_init_20 rfl (lv_at hl 0 rfl) ?_
  refine lv_bipush (v := 120) hx hb dX2_init_21 (by decide) ?_
  refine l_newa F B (atype := .int) (wsU_in mA_int) 0 rfl hpI rfl (haI 120) (by decide) rfl (by decide) (by decide) (by decide) dX2_init_23 (fun H B => ?_)
  have B : Ld g (va_A [(h0, .inr (4, [.null, .null, .null, .null, .null, .int 0, .int 0, .int 0, .int 0]))] z) s H locs [(h0, .inr (4, [.ref (z), .ref (z + 1), .null, .null, .null, .int 0, .int 0, .int 0, .int 0])), (z, .inl (g.2.1 0, 60, .inl (fun _ => 0))), (z + 1, .inl (g.2.1 0, 120, .inl (fun _ => 0))), (z + 2, .inl (g.2.1 0, 120, .inl (fun _ => 0)))] (z + 3) := B
  refine l_putF F hin B (fun w h => wsU_in (inGX2 w h)) tyX2 tyX2_ok nmX2 0 rfl rfl 2 (by decide) (wsU_in mF_X2_18) rfl rfl rfl rfl (Nat.le_of_ble_eq_true rfl) dX2_init_25 (fun H locs B => ?_)
  have B : Ld g (va_A [(h0, .inr (4, [.null, .null, .null, .null, .null, .int 0, .int 0, .int 0, .int 0]))] z) s H locs [(h0, .inr (4, [.ref (z), .ref (z + 1), .ref (z + 2), .null, .null, .int 0, .int 0, .int 0, .int 0])), (z, .inl (g.2.1 0, 60, .inl (fun _ => 0))), (z + 1, .inl (g.2.1 0, 120, .inl (fun _ => 0))), (z + 2, .inl (g.2.1 0, 120, .inl (fun _ => 0)))] (z + 3) := B
  refine lv_aload_n hx hb dX2_init_28 rfl (lv_at hl 0 rfl) ?_
  refine lv_bipush (v := 120) hx hb dX2_init_29 (by decide) ?_
  refine l_newa F B (atype := .boolean) (wsU_in mA_bool) 1 rfl hpZ rfl (haZ 120) (by decide) rfl (by decide) (by decide) (by decide) dX2_init_31 (fun H B => ?_)
  have B : Ld g (va_A [(h0, .inr (4, [.null, .null, .null, .null, .null, .int 0, .int 0, .int 0, .int 0]))] z) s H locs [(h0, .inr (4, [.ref (z), .ref (z + 1), .ref (z + 2), .null, .null, .int 0, .int 0, .int 0, .int 0])), (z, .inl (g.2.1 0, 60, .inl (fun _ => 0))), (z + 1, .inl (g.2.1 0, 120, .inl (fun _ => 0))), (z + 2, .inl (g.2.1 0, 120, .inl (fun _ => 0))), (z + 3, .inl (g.2.1 1, 120, .inl (fun _ => 0)))] (z + 4) := B
  refine l_putF F hin B (fun w h => wsU_in (inGX2 w h)) tyX2 tyX2_ok nmX2 0 rfl rfl 3 (by decide) (wsU_in mF_X2_21) rfl rfl rfl rfl (Nat.le_of_ble_eq_true rfl) dX2_init_33 (fun H locs B => ?_)
  have B : Ld g (va_A [(h0, .inr (4, [.null, .null, .null, .null, .null, .int 0, .int 0, .int 0, .int 0]))] z) s H locs [(h0, .inr (4, [.ref (z), .ref (z + 1), .ref (z + 2), .ref (z + 3), .null, .int 0, .int 0, .int 0, .int 0])), (z, .inl (g.2.1 0, 60, .inl (fun _ => 0))), (z + 1, .inl (g.2.1 0, 120, .inl (fun _ => 0))), (z + 2, .inl (g.2.1 0, 120, .inl (fun _ => 0))), (z + 3, .inl (g.2.1 1, 120, .inl (fun _ => 0)))] (z + 4) := B
  refine lv_aload_n hx hb dX2_init_36 rfl (lv_at hl 0 rfl) ?_
  refine lv_bipush (v := 60) hx hb dX2_init_37 (by decide) ?_
  refine l_newa F B (atype := .int) (wsU_in mA_int) 0 rfl hpI rfl (haI 60) (by decide) rfl (by decide) (by decide) (by decide) dX2_init_39 (fun H B => ?_)
  have B : Ld g (va_A [(h0, .inr (4, [.null, .null, .null, .null, .null, .int 0, .int 0, .int 0, .int 0]))] z) s H locs [(h0, .inr (4, [.ref (z), .ref (z + 1), .ref (z + 2), .ref (z + 3), .null, .int 0, .int 0, .int 0, .int 0])), (z, .inl (g.2.1 0, 60, .inl (fun _ => 0))), (z + 1, .inl (g.2.1 0, 120, .inl (fun _ => 0))), (z + 2, .inl (g.2.1 0, 120, .inl (fun _ => 0))), (z + 3, .inl (g.2.1 1, 120, .inl (fun _ => 0))), (z + 4, .inl (g.2.1 0, 60, .inl (fun _ => 0)))] (z + 5) := B
  refine l_putF F hin B (fun w h => wsU_in (inGX2 w h)) tyX2 tyX2_ok nmX2 0 rfl rfl 4 (by decide) (wsU_in mF_X2_25) rfl rfl rfl rfl (Nat.le_of_ble_eq_true rfl) dX2_init_41 (fun H locs B => ?_)
  have B : Ld g (va_A [(h0, .inr (4, [.null, .null, .null, .null, .null, .int 0, .int 0, .int 0, .int 0]))] z) s H locs [(h0, .inr (4, [.ref (z), .ref (z + 1), .ref (z + 2), .ref (z + 3), .ref (z + 4), .int 0, .int 0, .int 0, .int 0])), (z, .inl (g.2.1 0, 60, .inl (fun _ => 0))), (z + 1, .inl (g.2.1 0, 120, .inl (fun _ => 0))), (z + 2, .inl (g.2.1 0, 120, .inl (fun _ => 0))), (z + 3, .inl (g.2.1 1, 120, .inl (fun _ => 0))), (z + 4, .inl (g.2.1 0, 60, .inl (fun _ => 0)))] (z + 5) := B
  refine lv_aload_n hx hb dX2_init_44 rfl (lv_at hl 0 rfl) ?_
  refine lv_iconst (v := 0) hx hb dX2_init_45 (by decide) ?_
  refine l_put F B (fun w h => wsU_in (inGX2 w h)) tyX2 tyX2_ok nmX2 0 rfl rfl 6 (by decide) (wsU_in mF_X2_28) rfl rfl rfl (Nat.le_of_ble_eq_true rfl) dX2_init_46 (fun H locs B => ?_)
  have B : Ld g (va_A [(h0, .inr (4, [.null, .null, .null, .null, .null, .int 0, .int 0, .int 0, .int 0]))] z) s H locs [(h0, .inr (4, [.ref (z), .ref (z + 1), .ref (z + 2), .ref (z + 3), .ref (z + 4), .int 0, .int 0, .int 0, .int 0])), (z, .inl (g.2.1 0, 60, .inl (fun _ => 0))), (z + 1, .inl (g.2.1 0, 120, .inl (fun _ => 0))), (z + 2, .inl (g.2.1 0, 120, .inl (fun _ => 0))), (z + 3, .inl (g.2.1 1, 120, .inl (fun _ => 0))), (z + 4, .inl (g.2.1 0, 60, .inl (fun _ => 0)))] (z + 5) := B
  exact l_vret F hr hlocks B dX2_init_49
