def fk (n : Nat) (M : mem) (v i : Nat) : Nat := ((f_X4_faultAt n M (nI v) (nI i)).getD 0).toNatClampNeg
/-- the places one after another, verse by verse -/
def fl (n : Nat) (M : mem) (N t : Nat) : Nat := fk n M (t / N) (t % N)
def fc (n : Nat) (M : mem) (N : Nat) : Nat → Nat
  | 0 => 0
  | t + 1 => fc n M N t + if fl n M N t = 0 then 0 else 1
theorem dm {N v i : Nat} (hi : i < N) : (v * N + i) / N = v ∧ (v * N + i) % N = i := by
  rw [Nat.mul_comm]
  exact ⟨by rw [Nat.mul_add_div (by omega), Nat.div_eq_of_lt hi, Nat.add_zero], by rw [Nat.mul_add_mod, Nat.mod_eq_of_lt hi]⟩
theorem fc_le {n N : Nat} {M : mem} : ∀ t, fc n M N t ≤ t
  | 0 => Nat.le_refl _
  | t + 1 => by
    have := fc_le (n := n) (N := N) (M := M) t
    rw [fc]
    split <;> omega
theorem fc_mono {n N : Nat} {M : mem} {s : Nat} : ∀ t, s ≤ t → fc n M N s ≤ fc n M N t
  | 0, h => by rw [show s = 0 by omega]; exact Nat.le_refl _
  | t + 1, h => by
    by_cases e : s = t + 1
    · rw [e]; exact Nat.le_refl _
    · have := fc_mono (n := n) (N := N) (M := M) (s := s) t (by omega)
      rw [fc]
      omega
section Fl
variable {n N : Nat} {S M : mem}
theorem fkB (hn : 100 ≤ n) (h : R N S M) {v i : Nat} (hv : v < 4) (hi : i < N) : f_X4_faultAt n M (nI v) (nI i) = some (nI (fk n M v i)) ∧ (fk n M v i = 0 ∨ fk n M v i = if cn S v i = 0 then 1 else 2) ∧ ∀ x, f_X2_lastBox n S v = some x → f_X3_isFault n S (nI v) (nI i) x = some (if fk n M v i = 0 then 0 else 1) := by
  have hx : ∃ x, f_X2_lastBox n S v = some x := by
    rcases lastC (n := n) hn h hv with ⟨a, -⟩ | ⟨j, -, a, -⟩
    · exact ⟨_, a⟩
    · exact ⟨_, a⟩
  obtain ⟨x, hx⟩ := hx
  obtain ⟨k, k1, k2, k3⟩ := faultAtB (n := n) hn h hv hi hx
  have e : fk n M v i = k := by
    unfold fk
    rw [k1]
    exact nI_clamp (by rcases k3 with rfl | rfl <;> first | omega | (split <;> omega))
  rw [e]
  refine ⟨k1, k3, fun y hy => ?_⟩
  rw [hx] at hy
  rw [← Option.some.inj hy]
  exact k2
theorem fl_at {v i : Nat} (hi : i < N) : fl n M N (v * N + i) = fk n M v i := by
  unfold fl
  rw [(dm hi).1, (dm hi).2]
/-- the list the class makes -/
def lst (n : Nat) (M T : mem) (N t : Nat) : Prop := ∀ s, s < t → fl n M N s ≠ 0 → T 6 0 (fc n M N s) = nI (60 * (s / N) + s % N)
theorem rowC (hn : 100 ≤ n) (h : R N S M) {v : Nat} (hv : v < 4) {x : Int32} (hx : f_X2_lastBox n S v = some x) {T : mem} (hT : ∀ a b c, ¬ a = 6 → T a b c = S a b c) (hl : lst n M T N (v * N)) : ∃ r, lp (b_X3_listFaults_22 n (nI v) x) n (nI (fc n M N (v * N)), 0, T) = some r ∧ ∃ T', r = .inl (nI (fc n M N ((v + 1) * N)), nI (v + 1), T') ∧ (∀ a b c, ¬ a = 6 → T' a b c = S a b c) ∧ lst n M T' N ((v + 1) * N) := by
  have hN := h.1.2.2
  have hvN : (v + 1) * N = v * N + N := by rw [Nat.add_mul, Nat.one_mul]
  have hv4 : v * N ≤ 3 * N := Nat.mul_le_mul_right N (by omega)
  refine lp_up (I := fun i (q : Int32 × Int32 × mem) => ∃ T', q = (nI (fc n M N (v * N + i)), nI i, T') ∧ (∀ a b c, ¬ a = 6 → T' a b c = S a b c) ∧ lst n M T' N (v * N + i)) (Q := fun r : (Int32 × Int32 × mem) ⊕ (Int32 × mem) => ∃ T', r = .inl (nI (fc n M N ((v + 1) * N)), nI (v + 1), T') ∧ (∀ a b c, ¬ a = 6 → T' a b c = S a b c) ∧ lst n M T' N ((v + 1) * N)) N ?_ ?_ n 0 (nI (fc n M N (v * N)), 0, T) (by omega) (by omega) ⟨T, rfl, hT, hl⟩
  · rintro i q hi ⟨T', rfl, g1, g2⟩
    left
    have hR := h.c6 g1
    have e4 : T' 3 0 4 = nI N := hR.1.1
    have hle : ¬ nI N ≤ nI i := nI_ge hi (by omega)
    have hx' : f_X2_lastBox n T' v = some x := by
      have : ∀ m k, lp (b_X2_lastBox_3 n T' v) m k = lp (b_X2_lastBox_3 n S v) m k := by
        have e : b_X2_lastBox_3 n T' v = b_X2_lastBox_3 n S v := by
          funext w
          simp only [b_X2_lastBox_3, f_X2_hasBox, g1 7 v _ (show ¬ 7 = 6 by omega)]
        intro m k
        rw [e]
      unfold f_X2_lastBox at *
      rw [this]; exact hx
    obtain ⟨f1, f2, f3⟩ := fkB (n := n) hn hR hv hi
    have f3 := f3 x hx'
    have ft := fl_at (n := n) (M := M) (v := v) hi
    have fle := fc_le (n := n) (N := N) (M := M) (v * N + i)
    by_cases e : fk n M v i = 0
    · rw [if_pos e] at f3
      have ec : fc n M N (v * N + (i + 1)) = fc n M N (v * N + i) := by
        show fc n M N (v * N + i + 1) = _
        rw [fc, ft, if_pos e]; omega
      refine ⟨(nI (fc n M N (v * N + i)), nI (i + 1), T'), by simp [b_X3_listFaults_22, e4, hle, cal, f3, nI_1], T', by rw [ec], g1, fun s hs h0 => ?_⟩
      by_cases es : s = v * N + i
      · subst es; exact absurd (ft.trans e) h0
      · exact g2 s (by omega) h0
    · rw [if_neg e] at f3
      have ec : fc n M N (v * N + (i + 1)) = fc n M N (v * N + i) + 1 := by
        show fc n M N (v * N + i + 1) = _
        rw [fc, ft, if_neg e]
      obtain ⟨hp, hc⟩ := nI_in' (i := fc n M N (v * N + i)) (N := 240) (by omega) (by omega)
      have e60 : nI v * 60 + nI i = nI (60 * v + i) := by
        rw [show (60 : Int32) = nI 60 from rfl, pk_mul, nI_add, Nat.mul_comm]
      refine ⟨(nI (fc n M N (v * N + (i + 1))), nI (i + 1), mup T' 6 0 (fc n M N (v * N + i)) (nI (60 * v + i))), by simp [b_X3_listFaults_22, e4, hle, cal, f3, grd, hp, hc, show fc n M N (v * N + i) < 240 by omega, e60, nI_1, ec], _, rfl, fun a b c ha => by rw [mup_at, if_neg (by omega)]; exact g1 a b c ha, fun s hs h0 => ?_⟩
      by_cases es : s = v * N + i
      · subst es
        rw [(dm hi).1, (dm hi).2]
        simp [mup_at]
      · have l1 := fc_mono (n := n) (N := N) (M := M) (s := s + 1) (v * N + i) (by omega)
        rw [fc, if_neg h0] at l1
        rw [mup_at, if_neg (by omega)]
        exact g2 s (by omega) h0
  · rintro q ⟨T', rfl, g1, g2⟩
    have e4 : T' 3 0 4 = nI N := (h.c6 g1).1.1
    rw [hvN]
    exact ⟨_, by simp [b_X3_listFaults_22, e4, Int32.le_refl, nI_1], T', rfl, g1, g2⟩
theorem listC (hn : 100 ≤ n) (h : R N S M) : ∃ T', f_X3_listFaults n S = some (nI (fc n M N (4 * N)), T') ∧ (∀ a b c, ¬ a = 6 → T' a b c = S a b c) ∧ lst n M T' N (4 * N) := by
  have key : ∃ r, lp (b_X3_listFaults_4 n) n (0, 0, S) = some r ∧ ∃ T', r = (nI (fc n M N (4 * N)), T') ∧ (∀ a b c, ¬ a = 6 → T' a b c = S a b c) ∧ lst n M T' N (4 * N) := by
    refine lp_up (I := fun v (q : Int32 × Int32 × mem) => ∃ T', q = (nI (fc n M N (v * N)), nI v, T') ∧ (∀ a b c, ¬ a = 6 → T' a b c = S a b c) ∧ lst n M T' N (v * N)) (Q := fun r : Int32 × mem => ∃ T', r = (nI (fc n M N (4 * N)), T') ∧ (∀ a b c, ¬ a = 6 → T' a b c = S a b c) ∧ lst n M T' N (4 * N)) 4 ?_ ?_ n 0 (0, 0, S) (by omega) (by omega) ⟨S, by rw [Nat.zero_mul]; rfl, fun _ _ _ _ => rfl, fun s hs => by omega⟩
    · rintro v q hv ⟨T', rfl, g1, g2⟩
      left
      obtain ⟨hp, hc⟩ := nI_in' hv (by omega)
      have hR := h.c6 g1
      have hx : ∃ x, f_X2_lastBox n T' v = some x := by
        rcases lastC (n := n) hn hR hv with ⟨a, -⟩ | ⟨j, -, a, -⟩
        · exact ⟨_, a⟩
        · exact ⟨_, a⟩
      obtain ⟨x, hx⟩ := hx
      obtain ⟨r, r1, T2, rfl, r2, r3⟩ := rowC (n := n) hn hR hv hx (fun _ _ _ _ => rfl) g2
      exact ⟨_, by simp [b_X3_listFaults_4, nI_lt4 hv, grd, hp, hc, hv, cal, hx, r1], T2, rfl, fun a b c ha => (r2 a b c ha).trans (g1 a b c ha), r3⟩
    · rintro q ⟨T', rfl, g1, g2⟩
      exact ⟨_, by simp [b_X3_listFaults_4, show (4 : Int32) ≤ nI 4 by decide], T', rfl, g1, g2⟩
  obtain ⟨r, h1, T', rfl, h2⟩ := key
  exact ⟨T', h1, h2⟩
theorem faultsM (hn : 100 ≤ n) (h : R N S M) : lp (b_X4_faults_9 n M) n (0, 0) = some (nI (fc n M N (4 * N)), M) := by
  have hN := h.1.2.2
  have key : ∃ r, lp (b_X4_faults_9 n M) n (0, 0) = some r ∧ r = (nI (fc n M N (4 * N)), M) := by
    refine lp_up (I := fun v (q : Int32 × Int32) => q = (nI (fc n M N (v * N)), nI v)) (Q := fun r => r = (nI (fc n M N (4 * N)), M)) 4 ?_ ?_ n 0 (0, 0) (by omega) (by omega) (by rw [Nat.zero_mul]; rfl)
    · rintro v q hv rfl
      left
      have hvN : (v + 1) * N = v * N + N := by rw [Nat.add_mul, Nat.one_mul]
      have row : ∃ r, lp (b_X4_faults_16 n M (nI v)) n (nI (fc n M N (v * N)), 0) = some r ∧ r = .inl (nI (fc n M N ((v + 1) * N)), nI (v + 1)) := by
        refine lp_up (I := fun i (q : Int32 × Int32) => q = (nI (fc n M N (v * N + i)), nI i)) (Q := fun r : (Int32 × Int32) ⊕ (Int32 × mem) => r = .inl (nI (fc n M N ((v + 1) * N)), nI (v + 1))) N ?_ ?_ n 0 (nI (fc n M N (v * N)), 0) (by omega) (by omega) rfl
        · rintro i q hi rfl
          left
          have hle : ¬ nI N ≤ nI i := nI_ge hi (by omega)
          obtain ⟨f1, f2, -⟩ := fkB (n := n) hn h hv hi
          have ft := fl_at (n := n) (M := M) (v := v) hi
          refine ⟨(nI (fc n M N (v * N + (i + 1))), nI (i + 1)), ?_, rfl⟩
          rw [show fc n M N (v * N + (i + 1)) = fc n M N (v * N + i) + if fk n M v i = 0 then 0 else 1 by rw [← ft]; rfl]
          by_cases e : fk n M v i = 0
          · rw [e] at f1
            simp [b_X4_faults_16, h.1.2.1, hle, cal, f1, show nI 0 ≤ 0 by decide, nI_1, e]
          · have e' : ¬ nI (fk n M v i) ≤ 0 := nI_nle (by omega) (by rcases f2 with q | q <;> rw [q] <;> first | omega | (split <;> omega))
            simp [b_X4_faults_16, h.1.2.1, hle, cal, f1, e', nI_1, e]
        · rintro q rfl
          rw [hvN]
          exact ⟨_, by simp [b_X4_faults_16, h.1.2.1, Int32.le_refl, nI_1], rfl⟩
      obtain ⟨r, r1, rfl⟩ := row
      exact ⟨_, by simp [b_X4_faults_9, nI_lt4 hv, r1], rfl⟩
    · rintro q rfl
      exact ⟨_, by simp [b_X4_faults_9, show (4 : Int32) ≤ nI 4 by decide], rfl⟩
  obtain ⟨r, h1, rfl⟩ := key
  exact h1
theorem op_faults (hn : 100 ≤ n) (h : R N S M) : op2 (f_X3_faults n S) (f_X4_faults n M) := by
  have hT := h.thr 0
  obtain ⟨T', t1, t2, -⟩ := listC (n := n) hn hT
  exact ⟨_, T', _, N, by simp [f_X3_faults, t1, cal], faultsM hn hT, hT.c6 t2⟩
theorem thr_thr (x y : Int32) : mup (mup M 0 0 0 x) 0 0 0 y = mup M 0 0 0 y := by
  funext a b c
  simp only [mup_at]
  split <;> rfl
theorem op_fault (hn : 300 ≤ n) (h : R N S M) (x w : Int32) : op2 (f_X3_fault n S x w) (f_X4_fault n M x w) := by
  have hT := h.thr 0
  have hN := h.1.2.2
  obtain ⟨T', t1, t2, t3⟩ := listC (n := n) (by omega) hT
  have hR := hT.c6 t2
  have fm : f_X4_faults n (mup M 0 0 0 0) = some (nI (fc n (mup M 0 0 0 0) N (4 * N)), mup M 0 0 0 0) := by
    unfold f_X4_faults
    rw [thr_thr]
    exact faultsM (by omega) hT
  have m0 : mup M 0 0 0 0 0 0 0 = 0 := by simp [mup_at]
  generalize hQ : mup M 0 0 0 0 = Q at *
  have cle := fc_le (n := n) (N := N) (M := Q) (4 * N)
  rcases pk_ix x (n := fc n Q N (4 * N)) (by omega) with hx | hx | ⟨s, hs, rfl⟩
  · have o : f_X3_isOutside n T' x 0 (nI (fc n Q N (4 * N)) - 1) = some 1 := by simp [f_X3_isOutside, hx]
    exact ⟨-1000001, T', Q, N, by simp [f_X3_fault, t1, cal, o], by simp [f_X4_fault, hx, hQ], hR⟩
  · have h0 : ¬ x < 0 := fun q => absurd (Int32.lt_of_le_of_lt hx q) (nI_pos (by omega))
    have o : f_X3_isOutside n T' x 0 (nI (fc n Q N (4 * N)) - 1) = some 1 := by
      have : ¬ x ≤ nI (fc n Q N (4 * N)) - 1 := by
        cases hc : fc n Q N (4 * N) with
        | zero => exact fun q => h0 (Int32.lt_of_le_of_lt q (by decide))
        | succ c =>
          rw [nI_pred]
          rw [hc] at hx
          exact fun q => absurd (Int32.le_trans hx q) (nI_ge (by omega) (by omega))
      simp [f_X3_isOutside, h0, this]
    have hx' : ¬ x < nI (fc n Q N (4 * N)) := Int32.not_lt.mpr hx
    exact ⟨-1000001, T', Q, N, by simp [f_X3_fault, t1, cal, o], by simp [f_X4_fault, h0, hQ, fm, cal, hx'], hR⟩
  · have h0 : ¬ nI s < 0 := nI_pos (by omega)
    have hlt : nI s < nI (fc n Q N (4 * N)) := nI_lt hs (by omega)
    have o : f_X3_isOutside n T' (nI s) 0 (nI (fc n Q N (4 * N)) - 1) = some 0 := by
      have : nI s ≤ nI (fc n Q N (4 * N)) - 1 := by
        cases hc : fc n Q N (4 * N) with
        | zero => omega
        | succ c =>
          rw [nI_pred]
          exact nI_le (by omega) (by omega)
      simp [f_X3_isOutside, h0, this]
    rcases outC (n := n) T' Q w 0 2 with ⟨o1, o2⟩ | ⟨b1, b2, o1, o2⟩
    · exact ⟨-1000002, T', Q, N, by simp [f_X3_fault, t1, cal, o, o1], by simp [f_X4_fault, h0, hQ, fm, cal, hlt, o2], hR⟩
    · have hN0 : 0 < N := by omega
      have nz : ¬ nI N = 0 := nI_ne0 (by omega) (by omega)
      have lo : ∃ r, lp (b_X4_fault_37 n Q w) n (nI s, 0) = some r ∧ ∃ v i, v < 4 ∧ i < N ∧ fk n Q v i ≠ 0 ∧ T' 6 0 s = nI (60 * v + i) ∧ r = (if w = 0 then nI (fk n Q v i) else if w = 1 then nI v else nI i, Q) := by
        refine lp_up (I := fun t (q : Int32 × Int32) => q = (nI (s - fc n Q N t), nI t) ∧ fc n Q N t ≤ s) (Q := fun r : Int32 × mem => ∃ v i, v < 4 ∧ i < N ∧ fk n Q v i ≠ 0 ∧ T' 6 0 s = nI (60 * v + i) ∧ r = (if w = 0 then nI (fk n Q v i) else if w = 1 then nI v else nI i, Q)) (4 * N) ?_ ?_ n 0 (nI s, 0) (by omega) (by omega) ⟨rfl, Nat.zero_le _⟩
        · rintro t q ht ⟨rfl, hle⟩
          have dv : t / N < 4 := Nat.div_lt_of_lt_mul (by rw [Nat.mul_comm]; exact ht)
          have dr : t % N < N := Nat.mod_lt _ hN0
          have e1 : nI t / nI N = nI (t / N) := pk_div (by omega) hN0 (by omega)
          have e2 : nI t - nI t / nI N * nI N = nI (t % N) := pk_rem (by omega) hN0 (by omega)
          rw [e1] at e2
          obtain ⟨f1, f2, -⟩ := fkB (n := n) (by omega) hT dv dr
          have ft : fl n Q N t = fk n Q (t / N) (t % N) := rfl
          have fb : fk n Q (t / N) (t % N) < 2 ^ 31 := by rcases f2 with q | q <;> rw [q] <;> first | omega | (split <;> omega)
          by_cases e : fk n Q (t / N) (t % N) = 0
          · left
            rw [e] at f1
            have ec : fc n Q N (t + 1) = fc n Q N t := by rw [fc, ft, if_pos e]; omega
            exact ⟨(nI (s - fc n Q N (t + 1)), nI (t + 1)), by simp [b_X4_fault_37, j_X4_fault_62, hT.1.2.1, nz, grd, e1, e2, cal, f1, nI_0, nI_1, ec], rfl, by omega⟩
          · have ez : ¬ nI (fk n Q (t / N) (t % N)) = 0 := nI_ne0 (by omega) fb
            have ez' : ¬ nI (fk n Q (t / N) (t % N)) ≤ 0 := nI_nle (by omega) fb
            have ec : fc n Q N (t + 1) = fc n Q N t + 1 := by rw [fc, ft, if_neg e]
            by_cases es : fc n Q N t = s
            · right
              have hz : nI (s - fc n Q N t) ≤ 0 := by rw [es, Nat.sub_self]; decide
              have l1 := t3 t ht (by rw [ft]; exact e)
              rw [es] at l1
              refine ⟨_, ?_, t / N, t % N, dv, dr, e, l1, rfl⟩
              by_cases w0 : w = 0
              · simp [b_X4_fault_37, hT.1.2.1, nz, grd, e1, e2, cal, f1, ez, hz, w0]
              · by_cases w1 : w = 1
                · simp [b_X4_fault_37, hT.1.2.1, nz, grd, e1, e2, cal, f1, ez, hz, w1]
                · simp [b_X4_fault_37, hT.1.2.1, nz, grd, e1, e2, cal, f1, ez, hz, w0, w1]
            · left
              have hz : ¬ nI (s - fc n Q N t) ≤ 0 := nI_nle (by omega) (by omega)
              have e5 : nI (s - fc n Q N t) - 1 = nI (s - fc n Q N (t + 1)) := by
                rw [ec, show s - fc n Q N t = (s - (fc n Q N t + 1)) + 1 by omega, nI_pred]
              exact ⟨(nI (s - fc n Q N (t + 1)), nI (t + 1)), by simp [b_X4_fault_37, j_X4_fault_62, hT.1.2.1, nz, grd, e1, e2, cal, f1, ez, ez', hz, e5, nI_1], rfl, by omega⟩
        · rintro q ⟨rfl, hle⟩
          omega
      obtain ⟨r, r1, v, i, hv, hi, hk, l1, rfl⟩ := lo
      obtain ⟨hps, hcs⟩ := nI_in' (i := s) (N := 240) (by omega) (by omega)
      have e1 : nI (60 * v + i) / 60 = nI v := by
        rw [show (60 : Int32) = nI 60 from rfl, pk_div (by omega) (by omega) (by omega), Nat.mul_add_div (by omega), Nat.div_eq_of_lt (by omega), Nat.add_zero]
      have e2 : nI (60 * v + i) - nI v * 60 = nI i := by
        rw [show (60 : Int32) = nI 60 from rfl, pk_mul, pk_sub (by omega), show 60 * v + i - v * 60 = i by omega]
      obtain ⟨hpv, hcv⟩ := nI_in' hv (by omega)
      refine ⟨_, T', Q, N, ?_, by simp [f_X4_fault, h0, hQ, fm, cal, hlt, o2, r1]; rfl, hR⟩
      by_cases w0 : w = 0
      · subst w0
        have z := hR.rb.hasC (n := n) hv hi
        obtain ⟨-, f2, -⟩ := fkB (n := n) (by omega) hR hv hi
        by_cases e : cn T' v i = 0
        · rw [if_pos e] at z
          have f3 : fk n Q v i = 1 := by rcases f2 with q | q; exact absurd q hk; rw [q, if_pos e]
          simp [f_X3_fault, t1, cal, o, o1, grd, hps, hcs, show s < 240 by omega, l1, e1, e2, hpv, hcv, hv, z, f3]
          rfl
        · rw [if_neg e] at z
          have f3 : fk n Q v i = 2 := by rcases f2 with q | q; exact absurd q hk; rw [q, if_neg e]
          simp [f_X3_fault, t1, cal, o, o1, grd, hps, hcs, show s < 240 by omega, l1, e1, e2, hpv, hcv, hv, z, f3]
          rfl
      · by_cases w1 : w = 1
        · subst w1
          simp [f_X3_fault, t1, cal, o, o1, grd, hps, hcs, show s < 240 by omega, l1, e1]
        · simp [f_X3_fault, t1, cal, o, o1, grd, hps, hcs, show s < 240 by omega, l1, e1, e2, w0, w1]
end Fl
