theorem ok_X3_strain : yX3_strain.cls ≠ "java/lang/invoke/MethodHandle" ∧ yX3_strain.cls ≠ "java/lang/invoke/VarHandle" ∧ (parseMethodDescriptor yX3_strain.desc).map (fun d => d.parameters.length) = some 0 := by decide +kernel
theorem ok_X3_hyphen : yX3_hyphen.cls ≠ "java/lang/invoke/MethodHandle" ∧ yX3_hyphen.cls ≠ "java/lang/invoke/VarHandle" ∧ (parseMethodDescriptor yX3_hyphen.desc).map (fun d => d.parameters.length) = some 3 := by decide +kernel
theorem ok_X3_cut : yX3_cut.cls ≠ "java/lang/invoke/MethodHandle" ∧ yX3_cut.cls ≠ "java/lang/invoke/VarHandle" ∧ (parseMethodDescriptor yX3_cut.desc).map (fun d => d.parameters.length) = some 1 := by decide +kernel
theorem wsW_in {y : MethodName} {b : ByteArray} {n : Nat} {r : Option FieldType} {hh : List (Nat × Nat × Nat × Nat)} {w : Cond} (h : w ∈ TBg) : w ∈ wsW y b n r hh := List.mem_cons_of_mem _ h
theorem wsW_good {y y' : MethodName} {b b' : ByteArray} {n n' : Nat} {r r' : Option FieldType} {hh : List (Nat × Nat × Nat × Nat)} (h : Cond.code y' b' n' r' ∈ TBg) : GoodIn (wsW y b n r hh) (wsU y' b' n' r') := by
  intro w hw
  have hw' : w ∈ TBg := by
    rcases List.mem_cons.mp hw with rfl | hw
    · exact h
    · exact hw
  exact ⟨wsW_in hw', good_of_word (List.mem_filter.mp hw').2⟩
theorem ExU.calling {A : Nat → Prop} {U : State} {f : JFrame} {mk : MethodId} {a : Array Value} (h : ExU A U U.heap) : ExU A (U.calling f mk a) (U.calling f mk a).heap := by
  obtain ⟨h1, h2, ⟨a3, h3⟩, ⟨a4, h4⟩, ⟨a5, h5⟩⟩ := h
  exact ⟨vx_Zq.moved (u := U) (U := U.calling f mk a) (Vm.Alike.refl U.vm) h1, vx_Zq.moved (u := U) (U := U.calling f mk a) (Vm.Alike.refl U.vm) h2, ⟨a3, vk_R.same (u := U) rfl h3⟩, ⟨a4, vk_R.same (u := U) rfl h4⟩, ⟨a5, vk_R.same (u := U) rfl h5⟩⟩
theorem mW_L_hyphen : Cond.codeWith yL_hyphen cL_hyphen 6 (some .int) [(0, 12, 15, 13)] ∈ TBg := mem_TBg 567 (by decide +kernel) (by decide +kernel)
theorem mT_L_hyphen : Cond.static yL_hyphen ∈ TBg := mem_TBg 566 (by decide +kernel) (by decide +kernel)
theorem mN_L : Cond.initialized RL ∈ TBg := mem_TBg 68 (by decide +kernel) (by decide +kernel)
theorem mLL_13 : Cond.classLink RL 13 "java/lang/ArrayIndexOutOfBoundsException" ∈ TBg := mem_TBg 568 (by decide +kernel) (by decide +kernel)
theorem mM_L_7 : Cond.methodLink RL 7 yX3_hyphen ∈ TBg := mem_TBg 643 (by decide +kernel) (by decide +kernel)
theorem nC_ArrayIndexOutOfBoundsException : Cond.castable "java/lang/ArrayIndexOutOfBoundsException" "java/lang/ArrayIndexOutOfBoundsException" ∈ nestW := mem_nest 550 (by decide +kernel) rfl
theorem mC_X3_hyphen : Cond.code yX3_hyphen cX3_hyphen 6 (some .int) ∈ TBg := mem_TBg 646 (by decide +kernel) (by decide +kernel)
theorem mI_X3_hyphen : Cond.instanceMethod yX3_hyphen ∈ TBg := mem_TBg 644 (by decide +kernel) (by decide +kernel)
theorem mS_X3_hyphen : Cond.selects RX3 yX3_hyphen yX3_hyphen ∈ TBg := mem_TBg 645 (by decide +kernel) (by decide +kernel)
theorem mW_L_strain : Cond.codeWith yL_strain cL_strain 3 (some .int) [(0, 8, 11, 19)] ∈ TBg := mem_TBg 652 (by decide +kernel) (by decide +kernel)
theorem mT_L_strain : Cond.static yL_strain ∈ TBg := mem_TBg 651 (by decide +kernel) (by decide +kernel)
theorem mLL_19 : Cond.classLink RL 19 "java/lang/ArithmeticException" ∈ TBg := mem_TBg 653 (by decide +kernel) (by decide +kernel)
theorem mM_L_15 : Cond.methodLink RL 15 yX3_strain ∈ TBg := mem_TBg 667 (by decide +kernel) (by decide +kernel)
theorem nC_ArithmeticException : Cond.castable "java/lang/ArithmeticException" "java/lang/ArithmeticException" ∈ nestW := mem_nest 597 (by decide +kernel) rfl
theorem mC_X3_strain : Cond.code yX3_strain cX3_strain 4 (some .int) ∈ TBg := mem_TBg 670 (by decide +kernel) (by decide +kernel)
theorem mI_X3_strain : Cond.instanceMethod yX3_strain ∈ TBg := mem_TBg 668 (by decide +kernel) (by decide +kernel)
theorem mS_X3_strain : Cond.selects RX3 yX3_strain yX3_strain ∈ TBg := mem_TBg 669 (by decide +kernel) (by decide +kernel)
theorem mW_L_cut : Cond.codeWith yL_cut cL_cut 4 (some .int) [(0, 9, 12, 13)] ∈ TBg := mem_TBg 676 (by decide +kernel) (by decide +kernel)
theorem mT_L_cut : Cond.static yL_cut ∈ TBg := mem_TBg 675 (by decide +kernel) (by decide +kernel)
theorem mM_L_21 : Cond.methodLink RL 21 yX3_cut ∈ TBg := mem_TBg 677 (by decide +kernel) (by decide +kernel)
theorem mC_X3_cut : Cond.code yX3_cut cX3_cut 2 (some .int) ∈ TBg := mem_TBg 680 (by decide +kernel) (by decide +kernel)
theorem mI_X3_cut : Cond.instanceMethod yX3_cut ∈ TBg := mem_TBg 678 (by decide +kernel) (by decide +kernel)
theorem mS_X3_cut : Cond.selects RX3 yX3_cut yX3_cut ∈ TBg := mem_TBg 679 (by decide +kernel) (by decide +kernel)
set_option maxRecDepth 100000 in
set_option maxHeartbeats 4000000 in
theorem c_L_hyphen (l : Launch) (hl9 : l.stackTraces = false) (g : cx) (n : Nat) (S : mem) (ao : Nat) (o : Nat → Int64) (sz : Nat) (x1 : Int32) (x2 : Int32) (x3 : Int32) (q : Option Int32) (h : f_X3_hyphen n S x1 x2 x3 = some q) : Met l yL_hyphen (wsW yL_hyphen cL_hyphen 6 (some .int) [(0, 12, 15, 13)]) (rmK 8 1 6) (PcE g S ao o sz [.ref (g.2.2 3 0), .int x1, .int x2, .int x3, .ref ao]) (QcE g S ao o sz q) 1 6 (Ax g ao sz) := by
  refine met_introE [.ref (g.2.2 3 0), .int x1, .int x2, .int x3, .ref ao] RL rfl (by decide) (Nat.le_of_ble_eq_true rfl) (fun p e s m args below meth c F hr hlocks htab hsz hU hO hne hE ls hl => ?_)
  subst hsz
  have hl : lv_has ls 6 [(0, .ref (g.2.2 3 0)), (1, .int x1), (2, .int x2), (3, .int x3), (4, .ref ao)] := hl
  have hx := F.1
  have hb := F.2.1
  have hS0 : va_S (Ax g ao s.heap.size) s.heap s.heap [] := va_S.rf
  refine lv_aload hx hb dL_hyphen_0 (lv_at hl 4 rfl) ?_
  refine lv_iconst (v := 0) hx hb dL_hyphen_2 (by decide) ?_
  refine lv_aload_n hx hb dL_hyphen_3 rfl (lv_at hl 0 rfl) ?_
  refine lv_iload_n hx hb dL_hyphen_4 rfl (lv_at hl 1 rfl) ?_
  refine lv_iload_n hx hb dL_hyphen_5 rfl (lv_at hl 2 rfl) ?_
  refine lv_iload_n hx hb dL_hyphen_6 rfl (lv_at hl 3 rfl) ?_
  obtain ⟨k0, -, hk0⟩ := cwG_at enC g S ixC_3
  refine vx_calli (vx_runV (As := [.int x1, .int x2, .int x3]) (rest := [.int 0, .ref ao]) F (c_X3_hyphen l hl9 g n S s.heap.size x1 x2 x3 q h) ⟨callB_of 3 F.2.2.2.2 (wsW_good mC_X3_hyphen) rfl rfl rfl (F.2.2.2.2 _ (wsW_in mN_X3)) (F.2.2.2.2 _ (wsW_in mM_L_7)) ok_X3_hyphen (by decide), F.2.2.2.2 _ (wsW_in mI_X3_hyphen), F.2.2.2.2 _ (wsW_in mS_X3_hyphen)⟩ ⟨fun a U f mk h => ⟨h.1, h.2.1, h.2.2.1.calling, ExU.calling h.2.2.2⟩, va_recv (ci := 5) (q0 := k0) hU.1 hU.2.1 rfl hk0, fun U hU1 hW => ⟨rfl, by rw [hU1], ⟨va_K.moved hW.alike hU.1, by rw [hU1]; exact hU.2.1, hU.2.2.1, nestOK.warm hW hU.2.2.2⟩, ExU.at hW hE (fun a h1 h2 => by rw [hU1]) (fun q h => Or.inl h)⟩⟩ rfl rfl hl.1 rfl (lv_room (Nat.le_of_ble_eq_true rfl)) dL_hyphen_7 (by decide)) hS0 (fun q _ h => Or.inl h) (fun q h => Or.inl h) (fun q _ h => Or.inl h) (fun E ce q9 u t H1 locs1 ht _ hp hB hz hk hS hcell hv hcl => ?_) (fun r u t H1 locs1 ht _ hp hB hz hk hS => ?_)
  · obtain ⟨rfl, hP1⟩ := hB
    subst hp
    rw [ht] at hP1
    have hO1 : va_P g.1 vwCl [(ao, ocell g o)] H1 := hO.kept fun k q hq => by
      have hl9 := (hO k q hq).lt
      have e1 := one_ix hq
      refine hk q.1 hl9 fun h => ?_
      rcases h with ⟨k1, i1, h1, h2⟩ | h
      · exact hne k1 i1 h1 (by rw [← h2, e1])
      · omega
    refine vx_catch (own := RL) F.2.2.2.1 [] ⟨0, 12, 15, 13⟩ [] (by rw [htab]; rfl) (fun z h => by cases h) (by decide) (by decide) (F.2.2.2.2 _ (wsW_in mLL_13)) (va_Nw.use rfl (hU.2.2.2 _ nC_ArrayIndexOutOfBoundsException)) hcell hv hcl ?_
    refine lv_astore (lv' := [(5, .ref q9), (0, .ref (g.2.2 3 0)), (1, .int x1), (2, .int x2), (3, .int x3), (4, .ref ao)]) hx hb dL_hyphen_15 hl (by decide) rfl (fun ls hl => ?_)
    refine lv_iconst (v := 1) hx hb dL_hyphen_17 (by decide) ?_
    exact W.iret hx hb hr (fun t ht hW => ⟨⟨1, (), rfl, rfl, by rw [ht]; exact hP1, by rw [ht]; exact hO1⟩, hS.F ht⟩) hS.2.2 dL_hyphen_18 hlocks
  · subst hp
    rw [ht] at hB
    have hO1 : va_P g.1 vwCl [(ao, ocell g o)] H1 := hO.kept fun k q hq => by
      have hl9 := (hO k q hq).lt
      have e1 := one_ix hq
      refine hk q.1 hl9 fun h => ?_
      rcases h with ⟨k1, i1, h1, h2⟩ | h
      · exact hne k1 i1 h1 (by rw [← h2, e1])
      · omega
    refine lv_i2l hx hb dL_hyphen_10 rfl ?_
    have hD1 : va_D (Ax g ao s.heap.size) [(ao, ocell g o)] := ⟨fun i j x y hx hy _ => by
      have hi : i < 1 := (List.getElem?_eq_some_iff.mp hx).1
      have hj : j < 1 := (List.getElem?_eq_some_iff.mp hy).1
      omega, fun k q hq => by rw [one_ix hq]; exact Or.inr rfl⟩
    have hCo : va_P g.1 vwCl (cwG ixC enC g S ++ [(ao, ocell g o)]) H1 := hB.app hO1
    have hDo : va_D (Ax g ao s.heap.size) (cwG ixC enC g S ++ [(ao, ocell g o)]) := by
      refine ⟨fun i j x y hx hy hxy => ?_, fun k q hq => ?_⟩
      · by_cases hi : i < (cwG ixC enC g S).length <;> by_cases hj : j < (cwG ixC enC g S).length
        · rw [List.getElem?_append_left hi] at hx
          rw [List.getElem?_append_left hj] at hy
          exact hU.2.2.1.1 i j x y hx hy hxy
        · rw [List.getElem?_append_left hi] at hx
          rw [List.getElem?_append_right (by omega)] at hy
          obtain ⟨a, b, hab, e1⟩ := cwG_ix hx
          exact absurd (by rw [← e1, hxy, one_ix hy]) (hne a b hab)
        · rw [List.getElem?_append_right (by omega)] at hx
          rw [List.getElem?_append_left hj] at hy
          obtain ⟨a, b, hab, e1⟩ := cwG_ix hy
          exact absurd (by rw [← e1, ← hxy, one_ix hx]) (hne a b hab)
        · rw [List.getElem?_append_right (by omega)] at hx hy
          have h1 := (List.getElem?_eq_some_iff.mp hx).1
          have h2 := (List.getElem?_eq_some_iff.mp hy).1
          simp at h1 h2
          omega
      · by_cases hi : k < (cwG ixC enC g S).length
        · rw [List.getElem?_append_left hi] at hq
          obtain ⟨a, b, hab, e1⟩ := cwG_ix hq
          exact Or.inl (Or.inl ⟨a, b, hab, e1⟩)
        · rw [List.getElem?_append_right (by omega)] at hq
          rw [one_ix hq]; exact Or.inr rfl
    refine va_last hx hb hU.1 hCo hDo hS (cwG ixC enC g S).length 4 (by rw [List.getElem?_append_right (Nat.le_refl _), Nat.sub_self]; rfl) rfl (by unfold vp_in; decide) dL_hyphen_11 (fun H2 locs2 hP2 hD2 hS2 => ?_)
    have hP2 : va_P g.1 vwCl (cwG ixC enC g S ++ [(ao, ocell g (vp_updL o 0 r.toInt64))]) H2 := by
      rw [List.set_append_right _ _ (Nat.le_refl _), Nat.sub_self] at hP2
      exact hP2
    refine lv_goto (tgt := 19) hx hb dL_hyphen_12 (by decide) ?_
    refine lv_iconst (v := 0) hx hb dL_hyphen_19 (by decide) ?_
    refine W.iret hx hb hr (fun t ht hW => ⟨⟨0, (), rfl, rfl, ?_, ?_⟩, hS2.F ht⟩) hS2.2.2 dL_hyphen_20 hlocks
    · rw [ht]
      exact fun k q hq => hP2 k q (by rw [List.getElem?_append_left (List.getElem?_eq_some_iff.mp hq).1]; exact hq)
    · rw [ht]
      exact fun k q hq => hP2 ((cwG ixC enC g S).length + k) q (by rw [List.getElem?_append_right (by omega), Nat.add_sub_cancel_left]; exact hq)
set_option maxRecDepth 100000 in
set_option maxHeartbeats 4000000 in
theorem c_L_strain (l : Launch) (hl9 : l.stackTraces = false) (g : cx) (n : Nat) (S : mem) (ao : Nat) (o : Nat → Int64) (sz : Nat) (q : Option Int32) (h : f_X3_strain n S = some q) : Met l yL_strain (wsW yL_strain cL_strain 3 (some .int) [(0, 8, 11, 19)]) (rmK 8 1 6) (PcE g S ao o sz [.ref (g.2.2 3 0), .ref ao]) (QcE g S ao o sz q) 1 6 (Ax g ao sz) := by
  refine met_introE [.ref (g.2.2 3 0), .ref ao] RL rfl (by decide) (Nat.le_of_ble_eq_true rfl) (fun p e s m args below meth c F hr hlocks htab hsz hU hO hne hE ls hl => ?_)
  subst hsz
  have hl : lv_has ls 3 [(0, .ref (g.2.2 3 0)), (1, .ref ao)] := hl
  have hx := F.1
  have hb := F.2.1
  have hS0 : va_S (Ax g ao s.heap.size) s.heap s.heap [] := va_S.rf
  refine lv_aload_n hx hb dL_strain_0 rfl (lv_at hl 1 rfl) ?_
  refine lv_iconst (v := 0) hx hb dL_strain_1 (by decide) ?_
  refine lv_aload_n hx hb dL_strain_2 rfl (lv_at hl 0 rfl) ?_
  obtain ⟨k0, -, hk0⟩ := cwG_at enC g S ixC_3
  refine vx_calli (vx_runV (As := []) (rest := [.int 0, .ref ao]) F (c_X3_strain l hl9 g n S s.heap.size q h) ⟨callB_of 0 F.2.2.2.2 (wsW_good mC_X3_strain) rfl rfl rfl (F.2.2.2.2 _ (wsW_in mN_X3)) (F.2.2.2.2 _ (wsW_in mM_L_15)) ok_X3_strain (by decide), F.2.2.2.2 _ (wsW_in mI_X3_strain), F.2.2.2.2 _ (wsW_in mS_X3_strain)⟩ ⟨fun a U f mk h => ⟨h.1, h.2.1, h.2.2.1.calling, ExU.calling h.2.2.2⟩, va_recv (ci := 5) (q0 := k0) hU.1 hU.2.1 rfl hk0, fun U hU1 hW => ⟨rfl, by rw [hU1], ⟨va_K.moved hW.alike hU.1, by rw [hU1]; exact hU.2.1, hU.2.2.1, nestOK.warm hW hU.2.2.2⟩, ExU.at hW hE (fun a h1 h2 => by rw [hU1]) (fun q h => Or.inl h)⟩⟩ rfl rfl hl.1 rfl (lv_room (Nat.le_of_ble_eq_true rfl)) dL_strain_3 (by decide)) hS0 (fun q _ h => Or.inl h) (fun q h => Or.inl h) (fun q _ h => Or.inl h) (fun E ce q9 u t H1 locs1 ht _ hp hB hz hk hS hcell hv hcl => ?_) (fun r u t H1 locs1 ht _ hp hB hz hk hS => ?_)
  · obtain ⟨rfl, hP1⟩ := hB
    subst hp
    rw [ht] at hP1
    have hO1 : va_P g.1 vwCl [(ao, ocell g o)] H1 := hO.kept fun k q hq => by
      have hl9 := (hO k q hq).lt
      have e1 := one_ix hq
      refine hk q.1 hl9 fun h => ?_
      rcases h with ⟨k1, i1, h1, h2⟩ | h
      · exact hne k1 i1 h1 (by rw [← h2, e1])
      · omega
    refine vx_catch (own := RL) F.2.2.2.1 [] ⟨0, 8, 11, 19⟩ [] (by rw [htab]; rfl) (fun z h => by cases h) (by decide) (by decide) (F.2.2.2.2 _ (wsW_in mLL_19)) (va_Nw.use rfl (hU.2.2.2 _ nC_ArithmeticException)) hcell hv hcl ?_
    refine lv_astore_n (lv' := [(2, .ref q9), (0, .ref (g.2.2 3 0)), (1, .ref ao)]) hx hb dL_strain_11 rfl hl (by decide) rfl (fun ls hl => ?_)
    refine lv_iconst (v := 1) hx hb dL_strain_12 (by decide) ?_
    exact W.iret hx hb hr (fun t ht hW => ⟨⟨1, (), rfl, rfl, by rw [ht]; exact hP1, by rw [ht]; exact hO1⟩, hS.F ht⟩) hS.2.2 dL_strain_13 hlocks
  · subst hp
    rw [ht] at hB
    have hO1 : va_P g.1 vwCl [(ao, ocell g o)] H1 := hO.kept fun k q hq => by
      have hl9 := (hO k q hq).lt
      have e1 := one_ix hq
      refine hk q.1 hl9 fun h => ?_
      rcases h with ⟨k1, i1, h1, h2⟩ | h
      · exact hne k1 i1 h1 (by rw [← h2, e1])
      · omega
    refine lv_i2l hx hb dL_strain_6 rfl ?_
    have hD1 : va_D (Ax g ao s.heap.size) [(ao, ocell g o)] := ⟨fun i j x y hx hy _ => by
      have hi : i < 1 := (List.getElem?_eq_some_iff.mp hx).1
      have hj : j < 1 := (List.getElem?_eq_some_iff.mp hy).1
      omega, fun k q hq => by rw [one_ix hq]; exact Or.inr rfl⟩
    have hCo : va_P g.1 vwCl (cwG ixC enC g S ++ [(ao, ocell g o)]) H1 := hB.app hO1
    have hDo : va_D (Ax g ao s.heap.size) (cwG ixC enC g S ++ [(ao, ocell g o)]) := by
      refine ⟨fun i j x y hx hy hxy => ?_, fun k q hq => ?_⟩
      · by_cases hi : i < (cwG ixC enC g S).length <;> by_cases hj : j < (cwG ixC enC g S).length
        · rw [List.getElem?_append_left hi] at hx
          rw [List.getElem?_append_left hj] at hy
          exact hU.2.2.1.1 i j x y hx hy hxy
        · rw [List.getElem?_append_left hi] at hx
          rw [List.getElem?_append_right (by omega)] at hy
          obtain ⟨a, b, hab, e1⟩ := cwG_ix hx
          exact absurd (by rw [← e1, hxy, one_ix hy]) (hne a b hab)
        · rw [List.getElem?_append_right (by omega)] at hx
          rw [List.getElem?_append_left hj] at hy
          obtain ⟨a, b, hab, e1⟩ := cwG_ix hy
          exact absurd (by rw [← e1, ← hxy, one_ix hx]) (hne a b hab)
        · rw [List.getElem?_append_right (by omega)] at hx hy
          have h1 := (List.getElem?_eq_some_iff.mp hx).1
          have h2 := (List.getElem?_eq_some_iff.mp hy).1
          simp at h1 h2
          omega
      · by_cases hi : k < (cwG ixC enC g S).length
        · rw [List.getElem?_append_left hi] at hq
          obtain ⟨a, b, hab, e1⟩ := cwG_ix hq
          exact Or.inl (Or.inl ⟨a, b, hab, e1⟩)
        · rw [List.getElem?_append_right (by omega)] at hq
          rw [one_ix hq]; exact Or.inr rfl
    refine va_last hx hb hU.1 hCo hDo hS (cwG ixC enC g S).length 4 (by rw [List.getElem?_append_right (Nat.le_refl _), Nat.sub_self]; rfl) rfl (by unfold vp_in; decide) dL_strain_7 (fun H2 locs2 hP2 hD2 hS2 => ?_)
    have hP2 : va_P g.1 vwCl (cwG ixC enC g S ++ [(ao, ocell g (vp_updL o 0 r.toInt64))]) H2 := by
      rw [List.set_append_right _ _ (Nat.le_refl _), Nat.sub_self] at hP2
      exact hP2
    refine lv_goto (tgt := 14) hx hb dL_strain_8 (by decide) ?_
    refine lv_iconst (v := 0) hx hb dL_strain_14 (by decide) ?_
    refine W.iret hx hb hr (fun t ht hW => ⟨⟨0, (), rfl, rfl, ?_, ?_⟩, hS2.F ht⟩) hS2.2.2 dL_strain_15 hlocks
    · rw [ht]
      exact fun k q hq => hP2 k q (by rw [List.getElem?_append_left (List.getElem?_eq_some_iff.mp hq).1]; exact hq)
    · rw [ht]
      exact fun k q hq => hP2 ((cwG ixC enC g S).length + k) q (by rw [List.getElem?_append_right (by omega), Nat.add_sub_cancel_left]; exact hq)
set_option maxRecDepth 100000 in
set_option maxHeartbeats 4000000 in
theorem c_L_cut (l : Launch) (hl9 : l.stackTraces = false) (g : cx) (n : Nat) (S : mem) (ao : Nat) (o : Nat → Int64) (sz : Nat) (x1 : Int32) (q : Option Int32) (h : f_X3_cut n S x1 = some q) : Met l yL_cut (wsW yL_cut cL_cut 4 (some .int) [(0, 9, 12, 13)]) (rmK 8 1 6) (PcE g S ao o sz [.ref (g.2.2 3 0), .int x1, .ref ao]) (QcE g S ao o sz q) 1 6 (Ax g ao sz) := by
  refine met_introE [.ref (g.2.2 3 0), .int x1, .ref ao] RL rfl (by decide) (Nat.le_of_ble_eq_true rfl) (fun p e s m args below meth c F hr hlocks htab hsz hU hO hne hE ls hl => ?_)
  subst hsz
  have hl : lv_has ls 4 [(0, .ref (g.2.2 3 0)), (1, .int x1), (2, .ref ao)] := hl
  have hx := F.1
  have hb := F.2.1
  have hS0 : va_S (Ax g ao s.heap.size) s.heap s.heap [] := va_S.rf
  refine lv_aload_n hx hb dL_cut_0 rfl (lv_at hl 2 rfl) ?_
  refine lv_iconst (v := 0) hx hb dL_cut_1 (by decide) ?_
  refine lv_aload_n hx hb dL_cut_2 rfl (lv_at hl 0 rfl) ?_
  refine lv_iload_n hx hb dL_cut_3 rfl (lv_at hl 1 rfl) ?_
  obtain ⟨k0, -, hk0⟩ := cwG_at enC g S ixC_3
  refine vx_calli (vx_runV (As := [.int x1]) (rest := [.int 0, .ref ao]) F (c_X3_cut l hl9 g n S s.heap.size x1 q h) ⟨callB_of 1 F.2.2.2.2 (wsW_good mC_X3_cut) rfl rfl rfl (F.2.2.2.2 _ (wsW_in mN_X3)) (F.2.2.2.2 _ (wsW_in mM_L_21)) ok_X3_cut (by decide), F.2.2.2.2 _ (wsW_in mI_X3_cut), F.2.2.2.2 _ (wsW_in mS_X3_cut)⟩ ⟨fun a U f mk h => ⟨h.1, h.2.1, h.2.2.1.calling, ExU.calling h.2.2.2⟩, va_recv (ci := 5) (q0 := k0) hU.1 hU.2.1 rfl hk0, fun U hU1 hW => ⟨rfl, by rw [hU1], ⟨va_K.moved hW.alike hU.1, by rw [hU1]; exact hU.2.1, hU.2.2.1, nestOK.warm hW hU.2.2.2⟩, ExU.at hW hE (fun a h1 h2 => by rw [hU1]) (fun q h => Or.inl h)⟩⟩ rfl rfl hl.1 rfl (lv_room (Nat.le_of_ble_eq_true rfl)) dL_cut_4 (by decide)) hS0 (fun q _ h => Or.inl h) (fun q h => Or.inl h) (fun q _ h => Or.inl h) (fun E ce q9 u t H1 locs1 ht _ hp hB hz hk hS hcell hv hcl => ?_) (fun r u t H1 locs1 ht _ hp hB hz hk hS => ?_)
  · obtain ⟨rfl, hP1⟩ := hB
    subst hp
    rw [ht] at hP1
    have hO1 : va_P g.1 vwCl [(ao, ocell g o)] H1 := hO.kept fun k q hq => by
      have hl9 := (hO k q hq).lt
      have e1 := one_ix hq
      refine hk q.1 hl9 fun h => ?_
      rcases h with ⟨k1, i1, h1, h2⟩ | h
      · exact hne k1 i1 h1 (by rw [← h2, e1])
      · omega
    refine vx_catch (own := RL) F.2.2.2.1 [] ⟨0, 9, 12, 13⟩ [] (by rw [htab]; rfl) (fun z h => by cases h) (by decide) (by decide) (F.2.2.2.2 _ (wsW_in mLL_13)) (va_Nw.use rfl (hU.2.2.2 _ nC_ArrayIndexOutOfBoundsException)) hcell hv hcl ?_
    refine lv_astore_n (lv' := [(3, .ref q9), (0, .ref (g.2.2 3 0)), (1, .int x1), (2, .ref ao)]) hx hb dL_cut_12 rfl hl (by decide) rfl (fun ls hl => ?_)
    refine lv_iconst (v := 1) hx hb dL_cut_13 (by decide) ?_
    exact W.iret hx hb hr (fun t ht hW => ⟨⟨1, (), rfl, rfl, by rw [ht]; exact hP1, by rw [ht]; exact hO1⟩, hS.F ht⟩) hS.2.2 dL_cut_14 hlocks
  · subst hp
    rw [ht] at hB
    have hO1 : va_P g.1 vwCl [(ao, ocell g o)] H1 := hO.kept fun k q hq => by
      have hl9 := (hO k q hq).lt
      have e1 := one_ix hq
      refine hk q.1 hl9 fun h => ?_
      rcases h with ⟨k1, i1, h1, h2⟩ | h
      · exact hne k1 i1 h1 (by rw [← h2, e1])
      · omega
    refine lv_i2l hx hb dL_cut_7 rfl ?_
    have hD1 : va_D (Ax g ao s.heap.size) [(ao, ocell g o)] := ⟨fun i j x y hx hy _ => by
      have hi : i < 1 := (List.getElem?_eq_some_iff.mp hx).1
      have hj : j < 1 := (List.getElem?_eq_some_iff.mp hy).1
      omega, fun k q hq => by rw [one_ix hq]; exact Or.inr rfl⟩
    have hCo : va_P g.1 vwCl (cwG ixC enC g S ++ [(ao, ocell g o)]) H1 := hB.app hO1
    have hDo : va_D (Ax g ao s.heap.size) (cwG ixC enC g S ++ [(ao, ocell g o)]) := by
      refine ⟨fun i j x y hx hy hxy => ?_, fun k q hq => ?_⟩
      · by_cases hi : i < (cwG ixC enC g S).length <;> by_cases hj : j < (cwG ixC enC g S).length
        · rw [List.getElem?_append_left hi] at hx
          rw [List.getElem?_append_left hj] at hy
          exact hU.2.2.1.1 i j x y hx hy hxy
        · rw [List.getElem?_append_left hi] at hx
          rw [List.getElem?_append_right (by omega)] at hy
          obtain ⟨a, b, hab, e1⟩ := cwG_ix hx
          exact absurd (by rw [← e1, hxy, one_ix hy]) (hne a b hab)
        · rw [List.getElem?_append_right (by omega)] at hx
          rw [List.getElem?_append_left hj] at hy
          obtain ⟨a, b, hab, e1⟩ := cwG_ix hy
          exact absurd (by rw [← e1, ← hxy, one_ix hx]) (hne a b hab)
        · rw [List.getElem?_append_right (by omega)] at hx hy
          have h1 := (List.getElem?_eq_some_iff.mp hx).1
          have h2 := (List.getElem?_eq_some_iff.mp hy).1
          simp at h1 h2
          omega
      · by_cases hi : k < (cwG ixC enC g S).length
        · rw [List.getElem?_append_left hi] at hq
          obtain ⟨a, b, hab, e1⟩ := cwG_ix hq
          exact Or.inl (Or.inl ⟨a, b, hab, e1⟩)
        · rw [List.getElem?_append_right (by omega)] at hq
          rw [one_ix hq]; exact Or.inr rfl
    refine va_last hx hb hU.1 hCo hDo hS (cwG ixC enC g S).length 4 (by rw [List.getElem?_append_right (Nat.le_refl _), Nat.sub_self]; rfl) rfl (by unfold vp_in; decide) dL_cut_8 (fun H2 locs2 hP2 hD2 hS2 => ?_)
    have hP2 : va_P g.1 vwCl (cwG ixC enC g S ++ [(ao, ocell g (vp_updL o 0 r.toInt64))]) H2 := by
      rw [List.set_append_right _ _ (Nat.le_refl _), Nat.sub_self] at hP2
      exact hP2
    refine lv_goto (tgt := 15) hx hb dL_cut_9 (by decide) ?_
    refine lv_iconst (v := 0) hx hb dL_cut_15 (by decide) ?_
    refine W.iret hx hb hr (fun t ht hW => ⟨⟨0, (), rfl, rfl, ?_, ?_⟩, hS2.F ht⟩) hS2.2.2 dL_cut_16 hlocks
    · rw [ht]
      exact fun k q hq => hP2 k q (by rw [List.getElem?_append_left (List.getElem?_eq_some_iff.mp hq).1]; exact hq)
    · rw [ht]
      exact fun k q hq => hP2 ((cwG ixC enC g S).length + k) q (by rw [List.getElem?_append_right (by omega), Nat.add_sub_cancel_left]; exact hq)
