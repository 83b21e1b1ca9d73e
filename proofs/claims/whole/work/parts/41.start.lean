theorem mLL_8 : Cond.classLink RL 8 RX3 ∈ TBg := mem_TBg 82 (by decide +kernel) (by decide +kernel)
theorem mLL_26 : Cond.classLink RL 26 RX4 ∈ TBg := mem_TBg 686 (by decide +kernel) (by decide +kernel)
theorem mML_25 : Cond.methodLink RL 25 yX3_init ∈ TBg := mem_TBg 84 (by decide +kernel) (by decide +kernel)
theorem mML_28 : Cond.methodLink RL 28 yX4_init ∈ TBg := mem_TBg 688 (by decide +kernel) (by decide +kernel)
theorem ixM_e : ixM = [(0, 0), (2, 0), (3, 0), (4, 0), (5, 0), (6, 0), (7, 0), (8, 0), (11, 0), (12, 0), (13, 0), (14, 0), (15, 0), (16, 0), (19, 0), (20, 0), (23, 0), (24, 0), (25, 0), (27, 0), (31, 0)] := by decide +kernel
theorem adM_ge {h0 k i : Nat} (h : (k, i) ∈ ixM) : h0 ≤ adM h0 (h0 + 1) k i := by
  rw [ixM_e] at h
  simp only [List.mem_cons, List.not_mem_nil, or_false, Prod.mk.injEq] at h
  rcases h with ⟨rfl, rfl⟩ | ⟨rfl, rfl⟩ | ⟨rfl, rfl⟩ | ⟨rfl, rfl⟩ | ⟨rfl, rfl⟩ | ⟨rfl, rfl⟩ | ⟨rfl, rfl⟩ | ⟨rfl, rfl⟩ | ⟨rfl, rfl⟩ | ⟨rfl, rfl⟩ | ⟨rfl, rfl⟩ | ⟨rfl, rfl⟩ | ⟨rfl, rfl⟩ | ⟨rfl, rfl⟩ | ⟨rfl, rfl⟩ | ⟨rfl, rfl⟩ | ⟨rfl, rfl⟩ | ⟨rfl, rfl⟩ | ⟨rfl, rfl⟩ | ⟨rfl, rfl⟩ | ⟨rfl, rfl⟩ <;> simp [adM] <;> omega
theorem ixC_k {k i : Nat} (h : (k, i) ∈ ixC) : k < 18 := by
  have := (by decide +kernel : ∀ x ∈ ixC, x.1 < 18) (k, i) h
  exact this
theorem adC_ge {h0 k i : Nat} (h : (k, i) ∈ ixC) : h0 ≤ adC h0 (h0 + 1) k i := by
  have hk := ixC_k h
  rcases (show k = 0 ∨ k = 1 ∨ k = 2 ∨ k = 3 ∨ k = 4 ∨ k = 5 ∨ k = 6 ∨ k = 7 ∨ k = 8 ∨ k = 9 ∨ k = 10 ∨ k = 11 ∨ k = 12 ∨ k = 13 ∨ k = 14 ∨ k = 15 ∨ k = 16 ∨ k = 17 by omega) with rfl | rfl | rfl | rfl | rfl | rfl | rfl | rfl | rfl | rfl | rfl | rfl | rfl | rfl | rfl | rfl | rfl | rfl <;> simp [adC] <;> omega
theorem arrKp {s : State} {args : Array Value} {ty : FieldType} (h : (Cond.arrayClass ty).before args s = true) : ∃ cA : ClassId, ArrOfT s cA ty ∧ s.vm.findClass ("[" ++ ty.toString) = some cA := by
  obtain ⟨cA, kA, comp, h1, h2, h3⟩ := Cond.arrayClass_spec h
  exact ⟨cA, fun n z => ⟨fun k h => (by cases h), kA, h2, comp, h3⟩, h1⟩
theorem arrKo {s : State} {args : Array Value} {C : String} (h : (Cond.arrayOver (.object C)).before args s = true) : ∃ cA : ClassId, ArrOfT s cA (.object C) ∧ va_RA s cA (.object C) := by
  obtain ⟨comp, cA, kA, h1, h2, h3, h4, h5⟩ := Cond.arrayOver_spec h
  exact ⟨cA, fun n z => ⟨fun k h => (by cases h), kA, h3, comp, h4⟩, kA, comp, h3, h4, h1, h5⟩
theorem strAt {s : State} {args : Array Value} {k cur : Nat} {tx : String} (hcur : s.vm.findClass RX3 = some cur) (h1 : (Cond.stringRef RX3 k tx).before args s = true) : ∃ sa, vk_R RX3 k tx sa s := by
  obtain ⟨_, _, _, a, _, _, _, _, _, h3⟩ := Cond.stringRef_spec (args := args) (first := s) (o := none) (idx := []) hcur h1
  exact ⟨a, vk_R.of h1 h3⟩
theorem va_D_app {A : Nat → Prop} {w1 w2 : va_W} (h1 : va_D A w1) (h2 : va_D A w2) (h : ∀ (i j : Nat) (x y : Nat × va_E), w1[i]? = some x → w2[j]? = some y → x.1 ≠ y.1) : va_D A (w1 ++ w2) := by
  refine ⟨fun i j x y hx hy hxy => ?_, fun k q hq => ?_⟩
  · by_cases hi : i < w1.length <;> by_cases hj : j < w1.length
    · rw [List.getElem?_append_left hi] at hx
      rw [List.getElem?_append_left hj] at hy
      exact h1.1 i j x y hx hy hxy
    · rw [List.getElem?_append_left hi] at hx
      rw [List.getElem?_append_right (by omega)] at hy
      exact absurd hxy (h _ _ x y hx hy)
    · rw [List.getElem?_append_right (by omega)] at hx
      rw [List.getElem?_append_left hj] at hy
      exact absurd hxy.symm (h _ _ y x hy hx)
    · rw [List.getElem?_append_right (by omega)] at hx hy
      have := h2.1 _ _ x y hx hy hxy
      omega
  · by_cases hi : k < w1.length
    · rw [List.getElem?_append_left hi] at hq
      exact h1.2 k q hq
    · rw [List.getElem?_append_right (by omega)] at hq
      exact h2.2 _ q hq
theorem nestOK_start {s : State} {args : Array Value} (h : ∀ w ∈ lw_tbl, w.before args s = true) : nestOK s := by
  intro w hw
  have h1 := h w (List.mem_append_right _ (List.mem_filter.mp hw).1)
  have h2 := (List.mem_filter.mp hw).2
  cases w <;> first | (simp [isNest] at h2; done) | exact va_Nw.of rfl h1 | (rename_i ty; cases ty <;> first | (simp [isNest] at h2; done) | exact va_AO.of h1)
abbrev e4 : va_E := .inr (6, [.int 0, .int 0, .null, .null, .null, .null, .null, .null, .null, .int 0, .int 0, .null, .null, .null, .null, .null, .null, .int 0, .int 0, .null, .null, .int 0, .int 0, .null, .null, .null, .int 0, .null, .int 0, .int 0, .int 0, .null])
set_option maxRecDepth 100000 in
set_option maxHeartbeats 8000000 in
/-- the law from its entry, where its pure function answers 1 -/
theorem start_open {p : Program} {e : Env} {s : State} {m : MethodId} {below : List Frame} {meth : Method} {c : Code} (l : Launch) (hl9 : l.stackTraces = false) {b L : Nat} {xs : Nat → Int32} (C0 : lw_At p s m meth c b L xs) (n k : Nat) (hk : k ≤ 4000) (M1 : mem) (hf : f_X4_fresh n M0M = some M1) (hp : lp (b_law n xs L) k (0, S0C, M1, fun _ => 0) = some 1) : W p l e room_1 s m #[Value.ref b] below meth c s.heap [] 0 0 (lw_Z below #[Value.ref b] s) (entryFrame m ([Value.ref b] : List Value).toArray 7) := by
  obtain ⟨hx, hb, hr, hml, hown, hts, hX, hbl, hlocks, hgv⟩ := C0
  have htb : ∀ w ∈ TBg, w.before #[Value.ref b] s = true := fun w h => hts w (List.mem_filter.mp h).1
  have F : CallFix p m c code 7 s #[Value.ref b] TBg RL := ⟨hx, hb, hml, hown, htb⟩
  have hN := nestOK_start hts
  have hfl := flat_of_before _ hgv
  obtain ⟨c0, i0, hk0⟩ := u_known (C := RJ0) (T := TJ0) (N := 2) (n := 4) hts (by decide +kernel) (hts (.instantiable RJ0 4) (by decide +kernel))
  obtain ⟨c1, i1, hk1⟩ := u_known (C := RJx00060) (T := TJx00060) (N := 6) (n := 6) hts (by decide +kernel) (hts (.instantiable RJx00060 6) (by decide +kernel))
  obtain ⟨c2, i2, hk2⟩ := u_known (C := RX0) (T := TX0) (N := 11) (n := 11) htb inGX0 (htb _ mB_X0)
  obtain ⟨c3, i3, hk3⟩ := u_known (C := RX1) (T := TX1) (N := 9) (n := 9) htb inGX1 (htb _ mB_X1)
  obtain ⟨c4, i4, hk4⟩ := u_known (C := RX2) (T := TX2) (N := 9) (n := 9) htb inGX2 (htb _ mB_X2)
  obtain ⟨c5, i5, hk5⟩ := u_known (C := RX3) (T := TX3) (N := 9) (n := 9) htb inGX3 (htb _ mB_X3)
  obtain ⟨c6, i6, hk6⟩ := u_known (C := RX4) (T := TX4) (N := 32) (n := 32) htb inGX4 (htb _ mB_X4)
  obtain ⟨a0, ha0, hb0⟩ := arrKp (htb _ mA_int)
  obtain ⟨a1, ha1, hb1⟩ := arrKp (htb _ mA_bool)
  obtain ⟨a4, ha4, hb4⟩ := arrKp (htb _ mA_long)
  obtain ⟨a2, ha2, hb2⟩ := arrKo (args := #[]) (hN _ nA_Note)
  obtain ⟨a3, ha3, hb3⟩ := arrKo (args := #[]) (hN _ nA_Verse)
  obtain ⟨g, hg1, hg2⟩ : ∃ g : cx, (∀ (k : Nat) (q : vw_C), vwCl[k]? = some q → u_Kn s q.1 q.2.1 q.2.2 (g.1.1 k) (g.1.2 k)) ∧ (g.2.1 0 = a0 ∧ g.2.1 1 = a1 ∧ g.2.1 2 = a2 ∧ g.2.1 3 = a3 ∧ g.2.1 4 = a4) := by
    refine ⟨((fun k => match k with | 0 => c0 | 1 => c1 | 2 => c2 | 3 => c3 | 4 => c4 | 5 => c5 | _ => c6, fun k => match k with | 0 => i0 | 1 => i1 | 2 => i2 | 3 => i3 | 4 => i4 | 5 => i5 | _ => i6), fun k => match k with | 0 => a0 | 1 => a1 | 2 => a2 | 3 => a3 | _ => a4, fun _ _ => 0), ?_, rfl, rfl, rfl, rfl, rfl⟩
    intro k q hq
    match k, hq with
    | 0, hq => cases hq; exact hk0
    | 1, hq => cases hq; exact hk1
    | 2, hq => cases hq; exact hk2
    | 3, hq => cases hq; exact hk3
    | 4, hq => cases hq; exact hk4
    | 5, hq => cases hq; exact hk5
    | 6, hq => cases hq; exact hk6
    | k + 7, hq => simp [vwCl] at hq
  have hK : va_K g.1 vwCl (tysA g) s := by
    refine ⟨hg1, fun k q hq => ?_⟩
    obtain ⟨q0, q1, q2, q3, q4⟩ := hg2
    match k, hq with
    | 0, hq => cases hq; rw [q0]; exact ⟨ha0, hb0⟩
    | 1, hq => cases hq; rw [q1]; exact ⟨ha1, hb1⟩
    | 2, hq => cases hq; rw [q2]; exact ⟨ha2, hb2⟩
    | 3, hq => cases hq; rw [q3]; exact ⟨ha3, hb3⟩
    | 4, hq => cases hq; rw [q4]; exact ⟨ha4, hb4⟩
    | k + 5, hq => simp at hq
  have hE : ExU (fun q => s.heap.size ≤ q) s s.heap := by
    refine ⟨vx_Zqof (hts (.laysStatic "java/lang/Throwable" "UNASSIGNED_STACK" "[Ljava/lang/StackTraceElement;") (by decide +kernel)) (hts (.initialized "java/lang/Throwable") (by decide +kernel)) (hfl _ (by decide +kernel)) (fun a ha => Nat.not_le.mpr ha), vx_Zqof (hts (.laysStatic "java/lang/Throwable" "SUPPRESSED_SENTINEL" "Ljava/util/List;") (by decide +kernel)) (hts (.initialized "java/lang/Throwable") (by decide +kernel)) (hfl _ (by decide +kernel)) (fun a ha => Nat.not_le.mpr ha), strAt hk5.2.1 (hts _ (by decide +kernel)), strAt hk5.2.1 (hts _ (by decide +kernel)), strAt hk5.2.1 (hts _ (by decide +kernel))⟩
  have hl := lv_entry ([.ref b]) (n := 7) (Nat.le_of_ble_eq_true rfl)
  rw [lg_entry_eq]
  generalize (lg_sl ([.ref b]) ++ List.replicate (7 - (lg_sl ([.ref b])).length) Slot.unset).toArray = ls at hl ⊢
  have hl : lv_has ls 7 [(0, .ref b)] := hl
  have B : Ld g (fun q => s.heap.size ≤ q) s s.heap [] [] s.heap.size := ⟨hK, fun k q h => by simp at h, ⟨fun i j p q h => by simp at h, fun k q h => by simp at h⟩, va_S.rf, hN, rfl, fun q h => h⟩
  refine l_new F B inGX3 tyX3 tyX3_ok mLL_8 mB_X3 mN_X3 (ci := 5) rfl (fs := [.null, .null, .null, .null, .int 0, .int 0, .int 0, .int 0, .int 0]) (fun j hj => by rcases (show j = 0 ∨ j = 1 ∨ j = 2 ∨ j = 3 ∨ j = 4 ∨ j = 5 ∨ j = 6 ∨ j = 7 ∨ j = 8 by omega) with rfl | rfl | rfl | rfl | rfl | rfl | rfl | rfl | rfl <;> rfl) (by decide) (by decide) dL_law_0 (fun H B => ?_)
  have B : Ld g (fun q => s.heap.size ≤ q) s H [] ([] ++ [(s.heap.size, e3)]) (s.heap.size + 1) := B
  refine lv_dup hx hb dL_law_3 rfl ?_
  have hfr : ∀ q, va_A [(s.heap.size, e3)] (s.heap.size + 1) q → s.heap.size ≤ q := fun q h => by
    rcases h with ⟨k, e1, hk1⟩ | h
    · have := one_ix hk1
      rw [(Prod.mk.inj this).1]
      exact Nat.le_refl _
    · omega
  refine va_callv (va_runI (As := []) (rest := [.ref s.heap.size]) F (c_X3_init l g s.heap.size (s.heap.size + 1) (by omega)) (cwI 0 F.2.2.2.2 (TBg_good mC_X3_init) rfl rfl rfl (htb _ mN_X3) (htb _ mML_25) (htb _ mI_X3_init) rfl ok_X3_init (by decide)) (l_prI B) rfl rfl hl.1 rfl (lv_room (Nat.le_of_ble_eq_true rfl)) dL_law_4 (by decide)) B.2.2.2.1 (fun q _ h => hfr q h) hfr (fun u t H1 locs1 ht _ _ hB hzz hkk hS => ?_)
  obtain ⟨hWu, hsz1⟩ := hB
  rw [ht] at hsz1
  have hPC : va_P g.1 vwCl (cwG ixC enC (gC g s.heap.size (s.heap.size + 1)) S0C) H1 := by rw [← ht]; exact hWu.2.1
  have hDC : va_D (fun q => s.heap.size ≤ q) (cwG ixC enC (gC g s.heap.size (s.heap.size + 1)) S0C) := ⟨hWu.2.2.1.1, fun k q hq => by obtain ⟨a, b, hab, e1⟩ := cwG_ix hq; rw [e1]; exact adC_ge hab⟩
  have hCl : ∀ k i, (k, i) ∈ ixC → adC s.heap.size (s.heap.size + 1) k i < s.heap.size + 95 := fun k i h => by
    obtain ⟨q, -, hq⟩ := cwG_at enC (gC g s.heap.size (s.heap.size + 1)) S0C h
    have h9 : adC s.heap.size (s.heap.size + 1) k i < H1.size := (hPC q _ hq).lt
    omega
  refine lv_astore_n (lv' := [(1, .ref s.heap.size), (0, .ref b)]) hx hb dL_law_7 rfl hl (by decide) rfl (fun ls hl => ?_)
  have B : Ld g (fun q => s.heap.size ≤ q) s H1 locs1 (cwG ixC enC (gC g s.heap.size (s.heap.size + 1)) S0C) (s.heap.size + 95) := ⟨hK, hPC, hDC, hS, hN, hsz1, fun q h => h⟩
  refine l_new F B inGX4 tyX4 tyX4_ok mLL_26 mB_X4 mN_X4 (ci := 6) rfl (fs := [.int 0, .int 0, .null, .null, .null, .null, .null, .null, .null, .int 0, .int 0, .null, .null, .null, .null, .null, .null, .int 0, .int 0, .null, .null, .int 0, .int 0, .null, .null, .null, .int 0, .null, .int 0, .int 0, .int 0, .null]) (fun j hj => (by decide +kernel : ∀ j, j < 32 → defaultValue (tyX4 j) = vp_V [.int 0, .int 0, .null, .null, .null, .null, .null, .null, .null, .int 0, .int 0, .null, .null, .null, .null, .null, .null, .int 0, .int 0, .null, .null, .int 0, .int 0, .null, .null, .null, .int 0, .null, .int 0, .int 0, .int 0, .null] j) j hj) (by decide) (by decide) dL_law_8 (fun H B => ?_)
  have B : Ld g (fun q => s.heap.size ≤ q) s H locs1 (cwG ixC enC (gC g s.heap.size (s.heap.size + 1)) S0C ++ [(s.heap.size + 95, e4)]) (s.heap.size + 95 + 1) := B
  have hPC2 : va_P g.1 vwCl (cwG ixC enC (gC g s.heap.size (s.heap.size + 1)) S0C) H := fun k q hq => B.2.1 k q (by rw [List.getElem?_append_left (List.getElem?_eq_some_iff.mp hq).1]; exact hq)
  refine lv_dup hx hb dL_law_11 rfl ?_
  have hfr2 : ∀ q, Aw ixM (gM g (s.heap.size + 95) (s.heap.size + 95 + 1)) (s.heap.size + 95 + 1) q → s.heap.size + 95 ≤ q := fun q h => by
    rcases h with ⟨k, i, hk1, h⟩ | h
    · rw [h]; exact adM_ge hk1
    · omega
  refine va_callv (va_runI (As := []) (rest := [.ref (s.heap.size + 95)]) F (c_X4_init l g n (s.heap.size + 95) (s.heap.size + 95 + 1) M1 hf) (cwI 0 F.2.2.2.2 (TBg_good mC_X4_init) rfl rfl rfl (htb _ mN_X4) (htb _ mML_28) (htb _ mI_X4_init) rfl ok_X4_init (by decide)) (l_prI B) rfl rfl hl.1 rfl (lv_room (Nat.le_of_ble_eq_true rfl)) dL_law_12 (by decide)) B.2.2.2.1 (fun q _ h => Nat.le_trans (Nat.le_add_right _ 95) (hfr2 q h)) (fun q h => Nat.le_trans (Nat.le_add_right _ 95) (hfr2 q h)) (fun u t H2 locs2 ht2 _ _ hB2 hz2 hkk2 hS2 => ?_)
  have hPM : va_P g.1 vwCl (cwG ixM enM (gM g (s.heap.size + 95) (s.heap.size + 95 + 1)) M1) H2 := by rw [← ht2]; exact hB2.2.1
  have hPC3 : va_P g.1 vwCl (cwG ixC enC (gC g s.heap.size (s.heap.size + 1)) S0C) H2 := hPC2.kept fun k q hq => by
    have hl9 := (hPC2 k q hq).lt
    obtain ⟨a, b, hab, e1⟩ := cwG_ix hq
    refine hkk2 q.1 hl9 fun h => ?_
    have h1 := hfr2 _ h
    have h2 := hCl a b hab
    rw [e1] at h1
    exact absurd h1 (Nat.not_le.mpr h2)
  refine lv_astore_n (lv' := [(2, .ref (s.heap.size + 95)), (1, .ref s.heap.size), (0, .ref b)]) hx hb dL_law_15 rfl hl (by decide) rfl (fun ls hl => ?_)
  refine lv_iconst (v := 1) hx hb dL_law_16 (by decide) ?_
  have hDM : va_D (fun q => s.heap.size ≤ q) (cwG ixM enM (gM g (s.heap.size + 95) (s.heap.size + 95 + 1)) M1) := ⟨hB2.2.2.1.1, fun k q hq => by obtain ⟨a, b, hab, e1⟩ := cwG_ix hq; rw [e1]; exact Nat.le_trans (Nat.le_add_right _ 95) (adM_ge hab)⟩
  have hCM : ∀ k i a b, (k, i) ∈ ixC → (a, b) ∈ ixM → adC s.heap.size (s.heap.size + 1) k i ≠ adM (s.heap.size + 95) (s.heap.size + 95 + 1) a b := fun k i a b h1 h2 h => by
    have h3 := hCl k i h1
    have h4 := adM_ge (h0 := s.heap.size + 95) h2
    omega
  have hDA := va_D_app hDC hDM (fun i j x y hx hy h => by
    obtain ⟨a, b, hab, e1⟩ := cwG_ix hx
    obtain ⟨a2, b2, hab2, e2⟩ := cwG_ix hy
    exact hCM a b a2 b2 hab hab2 (by rw [e1, e2] at h; exact h))
  refine va_newa (D := g.1) (tys := tysA g) (atype := .long) (a0 := (1, .inr (.inl (fun _ => 0)))) hx hb (htb _ mA_long) rfl hK (hPC3.app hPM) hDA hS2 (fun q h => h) (fun cA => rfl) (by decide) rfl (by decide) (by decide) (by decide) dL_law_17 (fun ao cA H3 hK3 hP3 hD3 hS3 => ?_)
  have hcA : cA = g.2.1 4 := by
    have h1 : s.vm.findClass ("[" ++ FieldType.long.toString) = some cA := (hK3.2 5 _ rfl).2
    have h2 : s.vm.findClass ("[" ++ FieldType.long.toString) = some (g.2.1 4) := (hK.2 4 _ rfl).2
    exact Option.some.inj (h1.symm.trans h2)
  subst hcA
  have hPC4 : va_P g.1 vwCl (cwG ixC enC (gC g s.heap.size (s.heap.size + 1)) S0C) H3 := fun k q hq => hP3 k q (by rw [List.append_assoc, List.getElem?_append_left (List.getElem?_eq_some_iff.mp hq).1]; exact hq)
  have hPM4 : va_P g.1 vwCl (cwG ixM enM (gM g (s.heap.size + 95) (s.heap.size + 95 + 1)) M1) H3 := fun k q hq => hP3 ((cwG ixC enC (gC g s.heap.size (s.heap.size + 1)) S0C).length + k) q (by
    rw [List.append_assoc, List.getElem?_append_right (by omega), Nat.add_sub_cancel_left, List.getElem?_append_left (List.getElem?_eq_some_iff.mp hq).1]; exact hq)
  have hlast : ((cwG ixC enC (gC g s.heap.size (s.heap.size + 1)) S0C ++ cwG ixM enM (gM g (s.heap.size + 95) (s.heap.size + 95 + 1)) M1) ++ [(ao, ocell g (fun _ => 0))])[(cwG ixC enC (gC g s.heap.size (s.heap.size + 1)) S0C ++ cwG ixM enM (gM g (s.heap.size + 95) (s.heap.size + 95 + 1)) M1).length]? = some (ao, ocell g (fun _ => 0)) := by rw [List.getElem?_append_right (Nat.le_refl _), Nat.sub_self]; rfl
  have hPO : va_P g.1 vwCl [(ao, ocell g (fun _ => 0))] H3 := fun k q hq => by
    rw [one_ix hq]
    exact hP3 _ _ hlast
  have hao : ∀ (k : Nat) (q : Nat × va_E), (cwG ixC enC (gC g s.heap.size (s.heap.size + 1)) S0C ++ cwG ixM enM (gM g (s.heap.size + 95) (s.heap.size + 95 + 1)) M1)[k]? = some q → q.1 ≠ ao := fun k q hq h => by
    have hk9 := (List.getElem?_eq_some_iff.mp hq).1
    have := hD3.1 k _ q (ao, ocell g (fun _ => 0)) (by rw [List.getElem?_append_left hk9]; exact hq) hlast h
    omega
  refine lv_astore_n (lv' := [(3, .ref ao), (2, .ref (s.heap.size + 95)), (1, .ref s.heap.size), (0, .ref b)]) hx hb dL_law_19 rfl hl (by decide) rfl (fun ls hl => ?_)
  refine lv_iconst (v := 0) hx hb dL_law_20 (by decide) ?_
  refine lv_istore (lv' := [(4, .int 0), (3, .ref ao), (2, .ref (s.heap.size + 95)), (1, .ref s.heap.size), (0, .ref b)]) hx hb dL_law_21 hl (by decide) rfl (fun ls hl => ?_)
  have hLW : LW (gC g s.heap.size (s.heap.size + 1)) (adM (s.heap.size + 95) (s.heap.size + 95 + 1)) ao S0C M1 (fun _ => 0) s H3 locs2 := by
    refine ⟨hK, hN, hS3, hPC4, hPM4, hPO, ⟨fun k i h => adC_ge h, fun k i h => Nat.le_trans (Nat.le_add_right _ 95) (adM_ge h), hD3.2 _ _ hlast, hCM, fun k i h => ?_, fun k i h => ?_, fun S => cwG_ad (hWu.2.2.1), fun M => cwG_ad hB2.2.2.1⟩, hE⟩
    · obtain ⟨q, -, hq⟩ := cwG_at enC (gC g s.heap.size (s.heap.size + 1)) S0C h
      exact hao q _ (by rw [List.getElem?_append_left (List.getElem?_eq_some_iff.mp hq).1]; exact hq)
    · obtain ⟨q, -, hq⟩ := cwG_at enM (gM g (s.heap.size + 95) (s.heap.size + 95 + 1)) M1 h
      exact hao ((cwG ixC enC (gC g s.heap.size (s.heap.size + 1)) S0C).length + q) _ (by rw [List.getElem?_append_right (by omega), Nat.add_sub_cancel_left]; exact hq)
  exact law_loop (g := gC g s.heap.size (s.heap.size + 1)) (am := adM (s.heap.size + 95) (s.heap.size + 95 + 1)) (ao := ao) hl9 F hr hlocks hX hbl k 0 S0C M1 (fun _ => 0) _ _ (by omega) hp H3 locs2 ls hLW (lv_sub hl [4, 3, 2, 1, 0] rfl)
