/-- the reference's memory while it places -/
def agM (M T : mem) : Prop := ∀ a b c, ¬ a = 19 → ¬ a = 20 → ¬ (a = 0 ∧ c = 18) → T a b c = M a b c
def plM (S T : mem) (i : Nat) : Prop := ∀ j, j < i → T 19 0 j = nI (sx S j) ∧ ∀ v, v < 4 → cn S v j ≠ 0 → T 20 0 (4 * j + v) = nI (sb S v j)
def lastb (S : mem) (v : Nat) : Nat → Int32
  | 0 => -1000009
  | k + 1 => if cn S v k = 0 then lastb S v k else nI k
def lastc (S : mem) : Nat → Int32
  | 0 => -1
  | k + 1 => if cC S k = 0 then lastc S k else nI k
theorem lastb_s (S : mem) (v : Nat) : ∀ i, (lastb S v i = -1000009 ∧ sF S i v = 0) ∨ ∃ j, j < i ∧ lastb S v i = nI j ∧ cn S v j ≠ 0 ∧ sF S i v = sb S v j + bw S v j + gap S v j
  | 0 => Or.inl ⟨rfl, rfl⟩
  | i + 1 => by
    rw [lastb, sF_s, Fn]
    by_cases e : cn S v i = 0
    · rw [if_pos e, if_pos e]
      rcases lastb_s S v i with h | ⟨j, h1, h2⟩
      · exact Or.inl h
      · exact Or.inr ⟨j, by omega, h2⟩
    · rw [if_neg e, if_neg e]
      exact Or.inr ⟨i, by omega, rfl, e, rfl⟩
theorem lastc_s (S : mem) : ∀ i, (lastc S i = -1 ∧ sc S i = 0) ∨ ∃ j, j < i ∧ lastc S i = nI j ∧ cC S j ≠ 0 ∧ sc S i = sx S j + cC S j + 10
  | 0 => Or.inl ⟨rfl, rfl⟩
  | i + 1 => by
    rw [lastc, sc_s]
    by_cases e : cC S i = 0
    · rw [if_pos e, if_pos e]
      rcases lastc_s S i with h | ⟨j, h1, h2⟩
      · exact Or.inl h
      · exact Or.inr ⟨j, by omega, h2⟩
    · rw [if_neg e, if_neg e]
      exact Or.inr ⟨i, by omega, rfl, e, rfl⟩
section PM
variable {n N : Nat} {S T M : mem}
theorem agM.rb (h : agM M T) (hb : RB N S M) : RB N S T := by
  obtain ⟨h0, h1, h4, h5⟩ := hb
  refine ⟨h0.cg rfl ?_, h1.cg ?_ ?_ ?_ ?_ ?_ ?_ ?_ ?_, h4.cg ?_ ?_ ?_ ?_ ?_ ?_ ?_ ?_, h5.cg ?_ ?_ ?_ ?_⟩ <;> (intros; first | rfl | exact h _ _ _ (by omega) (by omega) (by omega))
theorem agM.up (h : agM M T) {a b c : Nat} {x : Int32} (hc : a = 19 ∨ a = 20 ∨ (a = 0 ∧ c = 18)) : agM M (mup T a b c x) := by
  intro a' b' c' h1 h2 h3
  rw [mup_at, if_neg (by omega)]
  exact h _ _ _ h1 h2 h3
/-- the box before -/
theorem beforeM (hb : RB N S T) {v : Nat} (hv : v < 4) : ∀ (k m : Nat), k ≤ N → k < m → lp (b_X4_other_5 n T (nI v) (-1)) m (nI k + (-1)) = some (lastb S v k)
  | 0, m, _, hm => by
    obtain ⟨m, rfl⟩ : ∃ m', m = m' + 1 := ⟨m - 1, by omega⟩
    exact lp_end (by simp [b_X4_other_5, j_X4_other_38, show nI 0 + -1 < 0 by decide, lastb])
  | k + 1, m, hk, hm => by
    have hN := hb.1.2.2
    obtain ⟨m, rfl⟩ : ∃ m', m = m' + 1 := ⟨m - 1, by omega⟩
    rw [pk_m1, lastb]
    have hp : ¬ nI k < 0 := nI_pos (by omega)
    have hle : ¬ nI N ≤ nI k := nI_ge (by omega) (by omega)
    have h1 := hb.boxM (n := n) hv (i := k) (by omega)
    by_cases e : cn S v k = 0
    · rw [if_pos e] at h1 ⊢
      rw [lp_go (q' := nI k + (-1)) (by simp only [b_X4_other_5, hp, hb.1.2.1, hle, cal, h1, if_false, if_true])]
      exact beforeM hb hv k m (by omega) (by omega)
    · rw [if_neg e] at h1 ⊢
      refine lp_end ?_
      simp only [b_X4_other_5, j_X4_other_38, hp, hb.1.2.1, hle, cal, h1, if_false, if_true]
      rfl
theorem beforeCh (hb : RB N S T) : ∀ (k m : Nat), k ≤ N → k < m → lp (b_X4_chordBefore_4 n T) m (nI k + (-1)) = some (lastc S k)
  | 0, m, _, hm => by
    obtain ⟨m, rfl⟩ : ∃ m', m = m' + 1 := ⟨m - 1, by omega⟩
    refine lp_end ?_
    have : nI 0 + -1 < 0 := by decide
    simp [b_X4_chordBefore_4, this, lastc]
    decide
  | k + 1, m, hk, hm => by
    have hN := hb.1.2.2
    obtain ⟨m, rfl⟩ : ∃ m', m = m' + 1 := ⟨m - 1, by omega⟩
    rw [pk_m1, lastc]
    have hp : ¬ nI k < 0 := nI_pos (by omega)
    obtain ⟨hp', hc⟩ := nI_in' (i := k) (N := 60) (by omega) (by omega)
    obtain ⟨-, -, -, -, -, -, h8, -, -, h9⟩ := hb.g1 (i := k) (by omega)
    by_cases e : cC S k = 0
    · rw [if_pos e]
      rw [e] at h9
      rw [lp_go (q' := nI k + (-1)) (by simp [b_X4_chordBefore_4, hp, hp', hc, grd, show k < 60 by omega, h9, nI_0])]
      exact beforeCh hb k m (by omega) (by omega)
    · rw [if_neg e]
      have := nI_ne0 (n := cC S k) (by omega) (by omega)
      exact lp_end (by simp [b_X4_chordBefore_4, hp, hp', hc, grd, show k < 60 by omega, h9, this])
theorem sub1 (x : Int32) : x - 1 = x + (-1) := Int32.sub_eq_add_neg x 1
theorem freeM (hn : 100 ≤ n) (hb : RB N S T) {v i : Nat} (hv : v < 4) (hi : i < N) (hpl : plM S T i) : (f_X4_free n T (nI i) (nI v) = some (-1) ∧ sF S i v = 0) ∨ f_X4_free n T (nI i) (nI v) = some (nI (sF S i v)) := by
  have hN := hb.1.2.2
  have h1 := beforeM (n := n) hb hv i n (by omega) (by omega)
  rcases lastb_s S v i with ⟨g1, g2⟩ | ⟨j, g1, g2, g3, g4⟩
  · left
    rw [g1] at h1
    exact ⟨by simp [f_X4_free, f_X4_other, h1, cal], g2⟩
  · right
    rw [g2] at h1
    have h2 := hb.endM (n := n) hv (i := j) (by omega) (by omega)
    have h3 := hb.goM (n := n) hv (i := j) (by omega) (by omega)
    rw [(hpl j g1).2 v hv g3, nI_add] at h2
    have h4 := nI_none (n := j) (by omega)
    rw [g4, gap]
    by_cases e : bgo S v j = 0
    · rw [if_pos e, show nI (sb S v j + bw S v j + 12) = nI (sb S v j + bw S v j) + 12 from (nI_add _ 12).symm]
      simp [f_X4_free, f_X4_other, h1, cal, h4, h2, h3, e]
    · rw [if_neg e, show nI (sb S v j + bw S v j + 4) = nI (sb S v j + bw S v j) + 4 from (nI_add _ 4).symm]
      simp [f_X4_free, f_X4_other, h1, cal, h4, h2, h3, e]
theorem aloneM (hb : RB N S T) {i : Nat} (hi : i < N) (hpl : plM S T i) : f_X4_alone n T (nI i) = some (nI (sa S i)) := by
  have hN := hb.1.2.2
  rw [alone_eq (N := N) (by omega)]
  unfold al
  cases i with
  | zero => rfl
  | succ i =>
    rw [if_neg (by omega), show i + 1 - 1 = i from rfl, (hpl i (by omega)).1]
    obtain ⟨-, -, -, -, -, -, -, h2, h3, -⟩ := hb.g1 (i := i) (by omega)
    rw [h2, h3, sa_s, nI_add, show (10 : Int32) * nI (cL S i) = nI (10 * cL S i) from pk_mul 10 _, nI_add]
theorem subM {x o : Nat} (hx : x < 2 ^ 30) (ho : o < 2 ^ 30) : f_X4_greater n T 0 (nI x - nI o) = some (nI (x - o)) := by
  by_cases h : o ≤ x
  · rw [pk_sub h, ← nI_0, greaterM (by omega) (by omega), Nat.zero_max]
  · have h1 : nI x - nI o < 0 := pk_sneg ho (by omega)
    unfold f_X4_greater
    rw [if_neg (fun q => absurd (Int32.lt_of_le_of_lt q h1) (by decide)), show x - o = 0 by omega]
    rfl
/-- the boxes of a note that is placed -/
theorem boxesM (hn : 100 ≤ n) (hb : RB N S M) (ha : agM M T) {i : Nat} (hi : i < N) (h19 : T 19 0 i = nI (sx S i)) (hpl : plM S T i) : ∃ r, lp (b_X4_placeNote_129 n (nI i) (nI (sx S i))) n (0, T) = some r ∧ ∃ T', r = .inr T' ∧ agM M T' ∧ plM S T' (i + 1) := by
  have hN := hb.1.2.2
  refine lp_up (I := fun j (q : Int32 × mem) => ∃ T', q = (nI j, T') ∧ agM M T' ∧ T' 19 0 i = nI (sx S i) ∧ plM S T' i ∧ ∀ v, v < j → cn S v i ≠ 0 → T' 20 0 (4 * i + v) = nI (sb S v i)) (Q := fun r : (Int32 × Int32) ⊕ mem => ∃ T', r = .inr T' ∧ agM M T' ∧ plM S T' (i + 1)) 4 ?_ ?_ n 0 (0, T) (by omega) (by omega) ⟨T, rfl, ha, h19, hpl, fun v h => by omega⟩
  · rintro j q hj ⟨T', rfl, g1, g2, g3, g4⟩
    left
    have hT := g1.rb hb
    obtain ⟨hp, hc⟩ := nI_in' hj (by omega)
    obtain ⟨hp', hc'⟩ := nI_in' (i := 4 * i + j) (N := 240) (by omega) (by omega)
    have h1 := hT.boxM (n := n) hj hi
    by_cases e : cn S j i = 0
    · rw [if_pos e] at h1
      refine ⟨(nI (j + 1), T'), by simp [b_X4_placeNote_129, nI_lt4 hj, cal, h1, nI_1], T', rfl, g1, g2, g3, fun v h h0 => ?_⟩
      by_cases ev : v = j
      · subst ev; exact absurd e h0
      · exact g4 v (by omega) h0
    · rw [if_neg e] at h1
      have h2 := hT.offM (n := n) hj hi (by omega)
      have h3 := hT.bo_le hj hi (by omega)
      have bx := hb.sx_le hi
      obtain ⟨b1, b2, b3, b4, b5⟩ := hb.st_le i (by omega)
      have b4 := b4 j hj
      have e16 : T' 16 0 j = S 2 j 7 := (hT.2.2.2 j hj).2.2.1.symm
      suffices hs : b_X4_placeNote_129 n (nI i) (nI (sx S i)) (nI j, T') = some (.inl (nI (j + 1), mup T' 20 0 (4 * i + j) (nI (sb S j i)))) by
        refine ⟨_, hs, _, rfl, g1.up (by omega), by simp [mup_at]; exact g2, fun k hk => ⟨?_, fun v hv h0 => ?_⟩, fun v h h0 => ?_⟩
        · simp [mup_at]; exact (g3 k hk).1
        · rw [mup_at, if_neg (by omega)]; exact (g3 k hk).2 v hv h0
        · by_cases ev : v = j
          · subst ev; simp [mup_at]
          · rw [mup_at, if_neg (by omega)]; exact g4 v (by omega) h0
      by_cases e7 : S 2 j 7 = 0
      · have h4 := sF_off (i := i) hj e e7
        have h5 : nI (sx S i) - nI (bo S j i) = nI (sb S j i) := by
          rw [pk_sub (by omega)]
          unfold sb pbf
          rw [Nat.max_eq_right (by omega)]
        rw [e7] at e16
        simp [b_X4_placeNote_129, nI_lt4 hj, cal, h1, h2, grd, hp, hc, hj, e16, ix4, hp', hc', show 4 * i + j < 240 by omega, h5, nI_1]
      · have h6 := subM (n := n) (T := T') (x := sx S i) (o := bo S j i) (by omega) (by omega)
        have e16' : ¬ T' 16 0 j = 0 := fun q => e7 (e16.symm.trans q)
        rcases freeM hn hT hj hi g3 with ⟨f1, f2⟩ | f1
        · have h7 : f_X4_greater n T' (nI (sx S i - bo S j i)) (-1) = some (nI (sb S j i)) := by
            unfold f_X4_greater sb pbf
            rw [f2, Nat.zero_max, if_neg (fun q => absurd (Int32.lt_of_le_of_lt q (show (-1 : Int32) < 0 by decide)) (nI_pos (by omega)))]
          simp [b_X4_placeNote_129, nI_lt4 hj, cal, h1, h2, grd, hp, hc, hj, e16', ix4, hp', hc', show 4 * i + j < 240 by omega, h6, f1, h7, nI_1]
        · have h7 : f_X4_greater n T' (nI (sx S i - bo S j i)) (nI (sF S i j)) = some (nI (sb S j i)) := by
            rw [greaterM (by omega) (by omega)]
            unfold sb pbf
            rw [Nat.max_comm]
          simp [b_X4_placeNote_129, nI_lt4 hj, cal, h1, h2, grd, hp, hc, hj, e16', ix4, hp', hc', show 4 * i + j < 240 by omega, h6, f1, h7, nI_1]
  · rintro q ⟨T', rfl, g1, g2, g3, g4⟩
    refine ⟨_, by simp [b_X4_placeNote_129, show (4 : Int32) ≤ nI 4 by decide], T', rfl, g1, fun j hj => ?_⟩
    by_cases e : j = i
    · subst e; exact ⟨g2, g4⟩
    · exact g3 j (by omega)
theorem noteM2 (hn : 100 ≤ n) (hb : RB N S M) (ha : agM M T) {i : Nat} (hi : i < N) (hpl : plM S T i) : ∃ T', f_X4_placeNote n T (nI i) = some T' ∧ agM M T' ∧ plM S T' (i + 1) := by
  have hN := hb.1.2.2
  have hT := ha.rb hb
  obtain ⟨hpi, hci⟩ := nI_in' (i := i) (N := 60) (by omega) (by omega)
  obtain ⟨b1, b2, b3, b4, b5⟩ := hb.st_le i (by omega)
  have bx := hb.sx_le hi
  have hA : agM M (mup T 19 0 i (nI (sx S i))) := ha.up (by omega)
  obtain ⟨r, r1, T', rfl, r2, r3⟩ := boxesM (n := n) hn hb hA hi (by simp [mup_at]) (fun j hj => ⟨by rw [mup_at, if_neg (by omega)]; exact (hpl j hj).1, fun v hv h0 => by rw [mup_at, if_neg (by omega)]; exact (hpl j hj).2 v hv h0⟩)
  have hj : j_X4_placeNote_119 n T (nI i) (nI (sx S i)) = some (.inr T') := by
    simp [j_X4_placeNote_119, grd, hpi, hci, show i < 60 by omega, r1]
  have key : ∃ r, lp (b_X4_placeNote_8 n T (nI i)) n (nI (sa S i), 0) = some r ∧ r = T' := by
    refine lp_up (I := fun j (q : Int32 × Int32) => q = (nI (max (sa S i) (lbs S (sF S i) i j)), nI j)) (Q := fun r => r = T') 4 ?_ ?_ n 0 (nI (sa S i), 0) (by omega) (by omega) (by simp [lbs]; rfl)
    · rintro j q hj ⟨rfl⟩
      left
      obtain ⟨hp, hc⟩ := nI_in' hj (by omega)
      have h1 := hT.boxM (n := n) hj hi
      by_cases e : cn S j i = 0
      · rw [if_pos e] at h1
        refine ⟨_, ?_, rfl⟩
        rw [lbs, if_pos e]
        simp [b_X4_placeNote_8, nI_lt4 hj, cal, h1, nI_1]
      · rw [if_neg e] at h1
        have e16 : T 16 0 j = S 2 j 7 := (hT.2.2.2 j hj).2.2.1.symm
        by_cases e7 : S 2 j 7 = 0
        · rw [e7] at e16
          refine ⟨_, ?_, rfl⟩
          rw [lbs, if_neg e, if_pos e7]
          have h2 := hT.offM (n := n) hj hi (by omega)
          have h3 := hT.bo_le hj hi (by omega)
          have b5 := b5 j hj e7
          have bl := lbs_le hb (i := i) (by omega) (fun v hv hw => (hb.st_le i (by omega)).2.2.2.2 v hv hw) j (by omega)
          have h4 := greaterM (n := n) (M := T) (a := max (sa S i) (lbs S (sF S i) i j)) (b := bo S j i) (by omega) (by omega)
          rcases freeM hn hT hj hi hpl with ⟨f1, f2⟩ | f1
          · rw [f2, show max (sa S i) (max (lbs S (sF S i) i j) (0 + bo S j i)) = max (max (sa S i) (lbs S (sF S i) i j)) (bo S j i) by omega]
            simp [b_X4_placeNote_8, nI_lt4 hj, cal, h1, grd, hp, hc, hj, e16, h2, h4, f1, show ¬ (0 : Int32) ≤ -1 by decide, nI_1]
          · have h5 := greaterM (n := n) (M := T) (a := max (max (sa S i) (lbs S (sF S i) i j)) (bo S j i)) (b := sF S i j + bo S j i) (by omega) (by omega)
            rw [show max (sa S i) (max (lbs S (sF S i) i j) (sF S i j + bo S j i)) = max (max (max (sa S i) (lbs S (sF S i) i j)) (bo S j i)) (sF S i j + bo S j i) by omega]
            have h6 := nI_pos' (n := sF S i j) (by omega)
            generalize max (max (sa S i) (lbs S (sF S i) i j)) (bo S j i) = m at h4 h5 ⊢
            simp [b_X4_placeNote_8, nI_lt4 hj, cal, h1, grd, hp, hc, hj, e16, h2, h4, f1, h6, nI_add, h5, nI_1]
        · have e16' : ¬ T 16 0 j = 0 := fun q => e7 (e16.symm.trans q)
          refine ⟨_, ?_, rfl⟩
          rw [lbs, if_neg e, if_neg e7]
          simp [b_X4_placeNote_8, nI_lt4 hj, cal, h1, grd, hp, hc, hj, e16', nI_1]
    · rintro q ⟨rfl⟩
      refine ⟨T', ?_, rfl⟩
      have h1 := beforeCh (n := n) hT i n (by omega) (by omega)
      rw [← sub1] at h1
      have h2 : f_X4_chordBefore n T (nI i) = some (lastc S i) := h1
      obtain ⟨-, -, -, -, -, -, h8, -, -, h9⟩ := hT.g1 (i := i) (by omega)
      have bl := lbs_le hb (i := i) (by omega) (fun v hv hw => (hb.st_le i (by omega)).2.2.2.2 v hv hw) 4 (by omega)
      by_cases e : cC S i = 0
      · have hx : sx S i = max (sa S i) (lbs S (sF S i) i 4) := by unfold sx pxf; rw [if_pos e]
        rw [← hx]
        rw [e] at h9
        simp [b_X4_placeNote_8, show (4 : Int32) ≤ nI 4 by decide, h2, cal, grd, hpi, hci, show i < 60 by omega, h9, show nI 0 ≤ 0 by decide, hj]
      · have hx : sx S i = max (max (sa S i) (lbs S (sF S i) i 4)) (sc S i) := by unfold sx pxf; rw [if_neg e]
        have e3 : ¬ nI (cC S i) ≤ 0 := nI_nle (by omega) (by omega)
        rcases lastc_s S i with ⟨g1, g2⟩ | ⟨k, g1, g2, g3, g4⟩
        · rw [g2, Nat.max_zero] at hx
          rw [← hx]
          rw [g1] at h2
          simp [b_X4_placeNote_8, show (4 : Int32) ≤ nI 4 by decide, h2, cal, grd, hpi, hci, show i < 60 by omega, h9, e3, show (-1 : Int32) < 0 by decide, hj]
        · rw [g2] at h2
          obtain ⟨hpk, hck⟩ := nI_in' (i := k) (N := 60) (by omega) (by omega)
          have hpk' := nI_pos (n := k) (by omega)
          obtain ⟨-, -, -, -, -, -, k8, -, -, k9⟩ := hT.g1 (i := k) (by omega)
          have k19 := (hpl k g1).1
          have bk := hb.sx_le (i := k) (by omega)
          have h5 := greaterM (n := n) (M := T) (a := max (sa S i) (lbs S (sF S i) i 4)) (b := sc S i) (by omega) (by omega)
          rw [← hx] at h5
          have h6 : nI (sx S k) + nI (cC S k) + 10 = nI (sc S i) := by rw [g4, nI_add]; exact nI_add _ 10
          simp [b_X4_placeNote_8, show (4 : Int32) ≤ nI 4 by decide, h2, cal, grd, hpi, hci, hpk, hck, hpk', show k < 60 by omega, show i < 60 by omega, h9, e3, k9, k19, h6, h5, hj]
  obtain ⟨r, h1, rfl⟩ := key
  exact ⟨_, by simp only [f_X4_placeNote, aloneM hT hi hpl, cal]; exact h1, r2, r3⟩
end PM
