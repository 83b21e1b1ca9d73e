/-- the class's memory while it places -/
def agC (S T : mem) : Prop := ∀ a b c, ¬ a = 11 → ¬ (a = 2 ∧ c = 8) → ¬ (a = 1 ∧ (c = 7 ∨ c = 8)) → ¬ (a = 3 ∧ c = 8) → T a b c = S a b c
section Ag
variable {n N : Nat} {S T M : mem}
theorem agC.c (h : agC S T) (v i : Nat) : cn T v i = cn S v i := cn_cg (fun _ _ => h _ _ _ (by omega) (by omega) (by omega) (by omega)) v i
theorem agC.w (h : agC S T) (v i : Nat) : bw T v i = bw S v i := by
  unfold bw
  rw [h.c, h 8 v (2 * i) (by omega) (by omega) (by omega) (by omega), h 8 v (2 * i + 1) (by omega) (by omega) (by omega) (by omega)]
theorem agC.o (h : agC S T) (v i : Nat) : bo T v i = bo S v i := by
  unfold bo
  rw [h.w, h 2 v 6 (by omega) (by omega) (by omega) (by omega), h 9 v (2 * i) (by omega) (by omega) (by omega) (by omega)]
theorem agC.g (h : agC S T) (v i : Nat) : bgo T v i = bgo S v i := by
  unfold bgo
  rw [h.c, h 10 v (2 * i) (by omega) (by omega) (by omega) (by omega), h 10 v (2 * i + 1) (by omega) (by omega) (by omega) (by omega)]
theorem agC.rb (h : agC S T) (hb : RB N S M) : RB N T M := by
  obtain ⟨h0, h1, h4, h5⟩ := hb
  refine ⟨h0.cg ?_ rfl, h1.cg ?_ ?_ ?_ ?_ ?_ ?_ ?_ ?_, h4.cg ?_ ?_ ?_ ?_ ?_ ?_ ?_ ?_, h5.cg ?_ ?_ ?_ ?_⟩ <;> (intros; first | rfl | exact h _ _ _ (by omega) (by omega) (by omega) (by omega))
theorem leastC (hn : 10 ≤ n) (hb : RB N S M) (ha : agC S T) {F : Nat → Nat} {i : Nat} (hi : i < N) (hF : ∀ v, v < 4 → T 2 v 8 = nI (F v) ∧ F v ≤ 200000) : f_X3_leastForBoxes n T (nI i) = some (nI (lbs S F i 4)) := by
  have hT := ha.rb hb
  have key : ∃ r, lp (b_X3_leastForBoxes_4 n T (nI i)) n (0, 0) = some r ∧ r = nI (lbs S F i 4) := by
    refine lp_up (I := fun j (q : Int32 × Int32) => q = (nI (lbs S F i j), nI j) ∧ lbs S F i j ≤ 300000) (Q := fun r => r = nI (lbs S F i 4)) 4 ?_ ?_ n 0 (0, 0) (by omega) (by omega) ⟨rfl, by simp [lbs]⟩
    · rintro j q hj ⟨rfl, hl⟩
      left
      obtain ⟨hp, hc⟩ := nI_in' hj (by omega)
      have h1 := hT.hasC (n := n) hj hi
      rw [ha.c] at h1
      have h7 := ha 2 j 7 (by omega) (by omega) (by omega) (by omega)
      by_cases e : cn S j i = 0
      · rw [if_pos e] at h1
        exact ⟨(nI (lbs S F i (j + 1)), nI (j + 1)), by simp [b_X3_leastForBoxes_4, nI_lt4 hj, grd, hp, hc, hj, cal, h1, nI_1, lbs, e], rfl, by simp [lbs, e]; exact hl⟩
      · rw [if_neg e] at h1
        by_cases e7 : S 2 j 7 = 0
        · have h2 := hT.offC (n := n) hj hi (by rw [ha.c]; omega)
          rw [ha.o] at h2
          have h3 := hb.bo_le hj hi (by omega)
          obtain ⟨f1, f2⟩ := hF j hj
          refine ⟨(nI (lbs S F i (j + 1)), nI (j + 1)), ?_, rfl, by simp [lbs, e, e7]; omega⟩
          have hm := nI_max (a := lbs S F i j) (b := F j + bo S j i) (by omega) (by omega)
          simp [b_X3_leastForBoxes_4, nI_lt4 hj, grd, hp, hc, hj, cal, h1, h7, e7, h2, f1, nI_add, nI_1, lbs, e, hm]
        · exact ⟨(nI (lbs S F i (j + 1)), nI (j + 1)), by simp [b_X3_leastForBoxes_4, nI_lt4 hj, grd, hp, hc, hj, cal, h1, h7, e7, nI_1, lbs, e], rfl, by simp [lbs, e, e7]; exact hl⟩
    · rintro q ⟨rfl, -⟩
      exact ⟨_, by simp [b_X3_leastForBoxes_4, show (4 : Int32) ≤ nI 4 by decide], rfl⟩
  obtain ⟨r, h1, h2⟩ := key
  unfold f_X3_leastForBoxes
  rw [h1, h2]
theorem agC.up (h : agC S T) {a b c : Nat} {x : Int32} (hc : a = 11 ∨ (a = 2 ∧ c = 8) ∨ (a = 1 ∧ (c = 7 ∨ c = 8)) ∨ (a = 3 ∧ c = 8)) : agC S (mup T a b c x) := by
  intro a' b' c' h1 h2 h3 h4
  rw [mup_at, if_neg (by omega)]
  exact h _ _ _ h1 h2 h3 h4
theorem nI_maxs {f x o : Nat} (hf : f < 2 ^ 30) (hx : x < 2 ^ 30) (ho : o < 2 ^ 30) : (if nI f < nI x - nI o then nI x - nI o else nI f) = nI (max f (x - o)) := by
  by_cases h : o ≤ x
  · rw [pk_sub h, nI_max (by omega) (by omega)]
  · have h1 : nI x - nI o < 0 := pk_sneg ho (by omega)
    rw [if_neg (fun q => absurd (Int32.lt_trans q h1) (nI_pos (by omega))), show x - o = 0 by omega, Nat.max_zero]
theorem boxPC (hb : RB N S M) (ha : agC S T) {F : Nat → Nat} {i v x : Nat} (hv : v < 4) (hi : i < N) (h0 : cn S v i ≠ 0) (hF : T 2 v 8 = nI (F v)) (hF2 : F v ≤ 200000) (hx : x ≤ 200000) : f_X2_placeBox n T v (nI i) (nI x) = some (nI (pbf S F x v i + bw S v i), mup (mup T 11 v i (nI (pbf S F x v i))) 2 v 8 (nI (Fn S F x i v))) := by
  have hT := ha.rb hb
  have hN := hb.1.2.2
  obtain ⟨hp, hc⟩ := nI_in' (i := i) (N := 60) (by omega) (by omega)
  have h2 := hT.offC (n := n) hv hi (by rw [ha.c]; omega)
  rw [ha.o] at h2
  have h3 := hb.bo_le hv hi (by omega)
  have hm := nI_maxs (f := F v) (x := x) (o := bo S v i) (by omega) (by omega) (by omega)
  have hA : agC S (mup T 11 v i (nI (pbf S F x v i))) := ha.up (by omega)
  have hT' := hA.rb hb
  have h4 := hT'.endC (n := n) hv hi (by rw [hA.c]; omega)
  have h5 := hT'.goC (n := n) hv hi (by rw [hA.c]; omega)
  rw [hA.w] at h4
  rw [hA.g] at h5
  have e1 : mup T 11 v i (nI (pbf S F x v i)) 11 v i = nI (pbf S F x v i) := by simp [mup_at]
  rw [e1, nI_add] at h4
  have e2 : nI (max (F v) (x - bo S v i)) = nI (pbf S F x v i) := rfl
  unfold Fn gap
  rw [if_neg h0]
  by_cases e : bgo S v i = 0
  · rw [if_pos e, show nI (pbf S F x v i + bw S v i + 12) = nI (pbf S F x v i + bw S v i) + 12 from (nI_add _ 12).symm]
    simp [f_X2_placeBox, h2, cal, grd, hp, hc, show i < 60 by omega, hF, hm, e2, h4, h5, e]
  · rw [if_neg e, show nI (pbf S F x v i + bw S v i + 4) = nI (pbf S F x v i + bw S v i) + 4 from (nI_add _ 4).symm]
    simp [f_X2_placeBox, h2, cal, grd, hp, hc, show i < 60 by omega, hF, hm, e2, h4, h5, e]
theorem boxesC (hn : 10 ≤ n) (hb : RB N S M) (ha : agC S T) {F : Nat → Nat} {i x : Nat} (hi : i < N) (hF : ∀ v, v < 4 → T 2 v 8 = nI (F v) ∧ F v ≤ 200000) (hx : x ≤ 200000) (h7 : T 1 i 7 = nI x) : ∃ T', f_X3_placeBoxes n T (nI i) = some (nI (pef S F x i 4), T') ∧ agC S T' ∧ (∀ v, v < 4 → T' 2 v 8 = nI (Fn S F x i v)) ∧ (∀ v, v < 4 → cn S v i ≠ 0 → T' 11 v i = nI (pbf S F x v i)) ∧ ∀ a b c, ¬ (a = 2 ∧ c = 8) → ¬ (a = 11 ∧ c = i) → T' a b c = T a b c := by
  have hN := hb.1.2.2
  have key : ∃ r, lp (b_X3_placeBoxes_4 n (nI i)) n (0, 0, T) = some r ∧ ∃ T', r = (nI (pef S F x i 4), T') ∧ agC S T' ∧ (∀ v, v < 4 → T' 2 v 8 = nI (Fn S F x i v)) ∧ (∀ v, v < 4 → cn S v i ≠ 0 → T' 11 v i = nI (pbf S F x v i)) ∧ ∀ a b c, ¬ (a = 2 ∧ c = 8) → ¬ (a = 11 ∧ c = i) → T' a b c = T a b c := by
    refine lp_up (I := fun j (q : Int32 × Int32 × mem) => ∃ T', q = (nI (pef S F x i j), nI j, T') ∧ pef S F x i j ≤ 300000 ∧ agC S T' ∧ (∀ v, v < j → T' 2 v 8 = nI (Fn S F x i v)) ∧ (∀ v, j ≤ v → v < 4 → T' 2 v 8 = nI (F v)) ∧ (∀ v, v < j → cn S v i ≠ 0 → T' 11 v i = nI (pbf S F x v i)) ∧ ∀ a b c, ¬ (a = 2 ∧ c = 8) → ¬ (a = 11 ∧ c = i) → T' a b c = T a b c) (Q := fun r : Int32 × mem => ∃ T', r = (nI (pef S F x i 4), T') ∧ agC S T' ∧ (∀ v, v < 4 → T' 2 v 8 = nI (Fn S F x i v)) ∧ (∀ v, v < 4 → cn S v i ≠ 0 → T' 11 v i = nI (pbf S F x v i)) ∧ ∀ a b c, ¬ (a = 2 ∧ c = 8) → ¬ (a = 11 ∧ c = i) → T' a b c = T a b c) 4 ?_ ?_ n 0 (0, 0, T) (by omega) (by omega) ⟨T, rfl, by simp [pef], ha, fun v h => by omega, fun v _ h => (hF v h).1, fun v h => by omega, fun _ _ _ _ _ => rfl⟩
    · rintro j q hj ⟨T', rfl, g0, g1, g2, g3, g4, g5⟩
      left
      obtain ⟨hp, hc⟩ := nI_in' hj (by omega)
      obtain ⟨hp', hc'⟩ := nI_in' (i := i) (N := 60) (by omega) (by omega)
      have hT := g1.rb hb
      have h1 := hT.hasC (n := n) hj hi
      rw [g1.c] at h1
      by_cases e : cn S j i = 0
      · rw [if_pos e] at h1
        refine ⟨(nI (pef S F x i (j + 1)), nI (j + 1), T'), by simp [b_X3_placeBoxes_4, nI_lt4 hj, grd, hp, hc, hj, cal, h1, nI_1, pef, e], T', rfl, by simp [pef, e]; exact g0, g1, fun v h => ?_, fun v h h' => g3 v (by omega) h', fun v h h' => ?_, g5⟩
        · by_cases ev : v = j
          · subst ev
            rw [g3 v (by omega) hj, Fn, if_pos e]
          · exact g2 v (by omega)
        · by_cases ev : v = j
          · subst ev; exact absurd e h'
          · exact g4 v (by omega) h'
      · rw [if_neg e] at h1
        have f2 := (hF j hj).2
        have h2 := boxPC (n := n) hb g1 (F := F) (i := i) (v := j) (x := x) hj hi e (g3 j (by omega) hj) f2 hx
        have hw := hb.bw_le hj hi (by omega)
        have hpb : pbf S F x j i ≤ 200000 := by unfold pbf; omega
        have hm := nI_max (a := pef S F x i j) (b := pbf S F x j i + bw S j i) (by omega) (by omega)
        have e7 : T' 1 i 7 = nI x := (g5 1 i 7 (by omega) (by omega)).trans h7
        refine ⟨(nI (pef S F x i (j + 1)), nI (j + 1), mup (mup T' 11 j i (nI (pbf S F x j i))) 2 j 8 (nI (Fn S F x i j))), by simp [b_X3_placeBoxes_4, nI_lt4 hj, grd, hp, hc, hp', hc', show i < 60 by omega, hj, cal, h1, e7, h2, hm, nI_1, pef, e], _, rfl, by simp [pef, e]; omega, (g1.up (by omega)).up (by omega), fun v h => ?_, fun v h h' => ?_, fun v h h' => ?_, fun a b c q1 q2 => ?_⟩
        · by_cases ev : v = j
          · subst ev; simp [mup_at]
          · simp [mup_at, ev]; exact g2 v (by omega)
        · simp [mup_at, show ¬ v = j by omega]; exact g3 v (by omega) h'
        · by_cases ev : v = j
          · subst ev; simp [mup_at]
          · simp [mup_at, ev]; exact g4 v (by omega) h'
        · rw [mup_at, if_neg (by omega), mup_at, if_neg (by omega)]
          exact g5 a b c q1 q2
    · rintro q ⟨T', rfl, g0, g1, g2, g3, g4, g5⟩
      exact ⟨_, by simp [b_X3_placeBoxes_4, show (4 : Int32) ≤ nI 4 by decide], T', rfl, g1, g2, g4, g5⟩
  obtain ⟨r, h1, T', rfl, h2⟩ := key
  exact ⟨T', h1, h2⟩
end Ag
