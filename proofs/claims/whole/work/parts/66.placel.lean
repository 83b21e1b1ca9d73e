/-- what stands when the first i notes are placed -/
def plC (S T : mem) (i : Nat) : Prop := ∀ j, j < i → T 1 j 7 = nI (sx S j) ∧ T 1 j 8 = nI (sx S j) - nI (sa S j) ∧ ∀ v, v < 4 → cn S v j ≠ 0 → T 11 v j = nI (sb S v j)
section Pl
variable {n N : Nat} {S T M : mem}
theorem jC (hn : 10 ≤ n) (hb : RB N S M) (ha : agC S T) {i y3 : Nat} {y2 : Int32} (hi : i < N) (h7 : T 1 i 7 = nI (sx S i)) (hF : ∀ v, v < 4 → T 2 v 8 = nI (sF S i v)) (hy : y3 ≤ 200000) (hpl : plC S T i) : ∃ T', j_X3_placeNotes_118 n T (nI (sa S i)) y2 (nI y3) (nI i) i = some (.inl (nI (sa S (i + 1)), y2, nI (max y3 (pef S (sF S i) (sx S i) i 4)), nI (i + 1), T')) ∧ agC S T' ∧ (∀ v, v < 4 → T' 2 v 8 = nI (sF S (i + 1) v)) ∧ plC S T' (i + 1) := by
  have hN := hb.1.2.2
  obtain ⟨b1, b2, b3, b4, b5⟩ := hb.st_le i (by omega)
  have bx := hb.sx_le hi
  have hA : agC S (mup T 1 i 8 (nI (sx S i) - nI (sa S i))) := ha.up (by omega)
  obtain ⟨T', t1, t2, t3, t4, t5⟩ := boxesC (n := n) hn hb hA (F := sF S i) (i := i) (x := sx S i) hi (fun v hv => ⟨by simp [mup_at]; exact hF v hv, by have := b4 v hv; omega⟩) (by omega) (by simp [mup_at]; exact h7)
  have bp := pef_le hb (i := i) (x := sx S i) (F := sF S i) (B := 2000 * i + 202) (by omega) (fun v hv => by have := b4 v hv; omega) (by omega) 4 (by omega)
  obtain ⟨g0, -, g1, g2, g3, -⟩ := hb.g1 hi
  have q0 : T 1 i 0 = nI (cW S i) := (ha 1 i 0 (by omega) (by omega) (by omega) (by omega)).trans g0
  have q1 : T 1 i 1 = nI (cL S i) := (ha 1 i 1 (by omega) (by omega) (by omega) (by omega)).trans g2
  have hm := nI_max (a := y3) (b := pef S (sF S i) (sx S i) i 4) (by omega) (by omega)
  refine ⟨T', ?_, t2, t3, fun j hj => ?_⟩
  · rw [sa_s]
    simp [j_X3_placeNotes_118, h7, t1, cal, q0, q1, hm, nI_1, show (10 : Int32) * nI (cL S i) = nI (10 * cL S i) from pk_mul 10 _, nI_add]
  · by_cases e : j = i
    · subst e
      refine ⟨?_, ?_, fun v hv h0 => t4 v hv h0⟩
      · rw [t5 1 j 7 (by omega) (by omega)]; simp [mup_at]; exact h7
      · rw [t5 1 j 8 (by omega) (by omega)]; simp [mup_at]
    · obtain ⟨p1, p2, p3⟩ := hpl j (by omega)
      refine ⟨?_, ?_, fun v hv h0 => ?_⟩
      · rw [t5 1 j 7 (by omega) (by omega)]; simp [mup_at]; exact p1
      · rw [t5 1 j 8 (by omega) (by omega)]; simp [mup_at, e]; exact p2
      · rw [t5 11 v j (by omega) (by omega)]; simp [mup_at]; exact p3 v hv h0
/-- how wide all is -/
def wide (S : mem) (N : Nat) : Nat := if N = 0 then 0 else max (se S N) (sx S (N - 1) + cW S (N - 1))
theorem loopC (hn : 100 ≤ n) (hb : RB N S M) (ha : agC S T) (hF : ∀ v, v < 4 → T 2 v 8 = 0) : ∃ r, lp (b_X3_placeNotes_32 n) n (0, 0, 0, 0, T) = some r ∧ ∃ T', r = .inr (nI (wide S N), T') ∧ agC S T' ∧ plC S T' N := by
  have hN := hb.1.2.2
  refine lp_up (I := fun i (q : Int32 × Int32 × Int32 × Int32 × mem) => ∃ T', q = (nI (sa S i), nI (sc S i), nI (se S i), nI i, T') ∧ agC S T' ∧ (∀ v, v < 4 → T' 2 v 8 = nI (sF S i v)) ∧ plC S T' i) (Q := fun r : (Int32 × mem) ⊕ (Int32 × mem) => ∃ T', r = .inr (nI (wide S N), T') ∧ agC S T' ∧ plC S T' N) N ?_ ?_ n 0 (0, 0, 0, 0, T) (by omega) (by omega) ⟨T, rfl, ha, hF, fun j h => by omega⟩
  · rintro i q hi ⟨T', rfl, g1, g2, g3⟩
    left
    obtain ⟨b1, b2, b3, b4, b5⟩ := hb.st_le i (by omega)
    have bx := hb.sx_le hi
    have hl := leastC (n := n) (by omega) hb g1 (F := sF S i) hi (fun v hv => ⟨g2 v hv, by have := b4 v hv; omega⟩)
    have bl := lbs_le hb (i := i) (by omega) b5 4 (by omega)
    have hm := nI_max (a := sa S i) (b := lbs S (sF S i) i 4) (by omega) (by omega)
    obtain ⟨hp, hc⟩ := nI_in' (i := i) (N := 60) (by omega) (by omega)
    have hle : ¬ nI N ≤ nI i := nI_ge hi (by omega)
    have h4 : T' 3 0 4 = nI N := (g1 3 0 4 (by omega) (by omega) (by omega) (by omega)).trans hb.1.1
    obtain ⟨-, -, -, -, -, g4, g5, -⟩ := hb.g1 hi
    have q3 : T' 1 i 3 = nI (cC S i) := (g1 1 i 3 (by omega) (by omega) (by omega) (by omega)).trans g4
    by_cases e : cC S i = 0
    · have hx : sx S i = max (sa S i) (lbs S (sF S i) i 4) := by unfold sx pxf; rw [if_pos e]
      rw [← hx] at hm
      have hA : agC S (mup T' 1 i 7 (nI (sx S i))) := g1.up (by omega)
      obtain ⟨T2, t1, t2, t3, t4⟩ := jC (n := n) (y2 := nI (sc S i)) (y3 := se S i) (by omega) hb hA hi (by simp [mup_at]) (fun v hv => by simp [mup_at]; exact g2 v hv) (by omega) (fun j hj => by
        obtain ⟨p1, p2, p3⟩ := g3 j hj
        refine ⟨by simp [mup_at, show ¬ j = i by omega]; exact p1, by simp [mup_at]; exact p2, fun v hv h0 => by simp [mup_at]; exact p3 v hv h0⟩)
      refine ⟨_, ?_, T2, rfl, t2, t3, t4⟩
      rw [e] at q3
      rw [sc_s, se_s, if_pos e, if_pos e]
      simp [b_X3_placeNotes_32, h4, hle, grd, hp, hc, show i < 60 by omega, cal, hl, q3, show nI 0 ≤ 0 by decide, hm, t1]
    · have hx : sx S i = max (max (sa S i) (lbs S (sF S i) i 4)) (sc S i) := by unfold sx pxf; rw [if_neg e]
      have hm2 := nI_max (a := max (sa S i) (lbs S (sF S i) i 4)) (b := sc S i) (by omega) (by omega)
      rw [← hx] at hm2
      have hm3 := nI_max (a := se S i) (b := sx S i + cC S i) (by omega) (by omega)
      have hA : agC S (mup (mup T' 1 i 7 (nI (max (sa S i) (lbs S (sF S i) i 4)))) 1 i 7 (nI (sx S i))) := (g1.up (by omega)).up (by omega)
      obtain ⟨T2, t1, t2, t3, t4⟩ := jC (n := n) (y2 := nI (sc S (i + 1))) (y3 := max (se S i) (sx S i + cC S i)) (by omega) hb hA hi (by simp [mup_at]) (fun v hv => by simp [mup_at]; exact g2 v hv) (by omega) (fun j hj => by
        obtain ⟨p1, p2, p3⟩ := g3 j hj
        refine ⟨by simp [mup_at, show ¬ j = i by omega]; exact p1, by simp [mup_at]; exact p2, fun v hv h0 => by simp [mup_at]; exact p3 v hv h0⟩)
      refine ⟨_, ?_, T2, rfl, t2, t3, t4⟩
      have e3 : ¬ nI (cC S i) ≤ 0 := nI_nle (by omega) (by omega)
      rw [sc_s, if_neg e] at t1
      rw [sc_s, se_s, if_neg e, if_neg e]
      have e10 : nI (sx S i + cC S i) + 10 = nI (sx S i + cC S i + 10) := nI_add _ 10
      simp only [b_X3_placeNotes_32, h4, hle, grd, hp, hc, show i < 60 by omega, cal, hl, q3, e3, hm, hm2, hm3, nI_add, if_false, e10]
      simp [hp, show i < 60 by omega, t1]
  · rintro q ⟨T', rfl, g1, g2, g3⟩
    have h4 : T' 3 0 4 = nI N := (g1 3 0 4 (by omega) (by omega) (by omega) (by omega)).trans hb.1.1
    obtain ⟨b1, b2, b3, b4, b5⟩ := hb.st_le N (by omega)
    by_cases e : N = 0
    · subst e
      exact ⟨_, by simp [b_X3_placeNotes_32, h4, Int32.le_refl, show nI 0 ≤ 0 by decide]; rfl, T', rfl, g1, g3⟩
    · have e3 : ¬ nI N ≤ 0 := nI_nle (by omega) (by omega)
      obtain ⟨K, rfl⟩ : ∃ K, N = K + 1 := ⟨N - 1, by omega⟩
      obtain ⟨hp, hc⟩ := nI_in' (i := K) (N := 60) (by omega) (by omega)
      have p1 := (g3 K (by omega)).1
      obtain ⟨g4, -, g5, -⟩ := hb.g1 (i := K) (by omega)
      have bx := hb.sx_le (i := K) (by omega)
      have q0 : T' 1 K 0 = nI (cW S K) := (g1 1 K 0 (by omega) (by omega) (by omega) (by omega)).trans g4
      have hm := nI_max (a := se S (K + 1)) (b := sx S K + cW S K) (by omega) (by omega)
      refine ⟨_, ?_, T', rfl, g1, g3⟩
      have hw : wide S (K + 1) = max (se S (K + 1)) (sx S K + cW S K) := by unfold wide; rw [if_neg e]; rfl
      rw [hw]
      simp [b_X3_placeNotes_32, h4, Int32.le_refl, e3, nI_pred, grd, hp, hc, show K < 60 by omega, cal, f_X1_end, p1, q0, nI_add, hm]
theorem placeNotesC (hn : 100 ≤ n) (hb : RB N S M) : ∃ T', f_X3_placeNotes n S = some (nI (wide S N), T') ∧ agC S T' ∧ plC S T' N := by
  have hN := hb.1.2.2
  have key : ∃ r, lp (b_X3_placeNotes_2 n) n (0, S) = some r ∧ ∃ T', r = (nI (wide S N), T') ∧ agC S T' ∧ plC S T' N := by
    refine lp_up (I := fun j (q : Int32 × mem) => ∃ T, q = (nI j, T) ∧ agC S T ∧ ∀ v, v < j → T 2 v 8 = 0) (Q := fun r : Int32 × mem => ∃ T', r = (nI (wide S N), T') ∧ agC S T' ∧ plC S T' N) 4 ?_ ?_ n 0 (0, S) (by omega) (by omega) ⟨S, rfl, fun _ _ _ _ _ _ _ => rfl, fun v h => by omega⟩
    · rintro j q hj ⟨T, rfl, g1, g2⟩
      left
      obtain ⟨hp, hc⟩ := nI_in' hj (by omega)
      refine ⟨(nI (j + 1), mup T 2 j 8 0), by simp [b_X3_placeNotes_2, nI_lt4 hj, grd, hp, hc, hj, nI_1], _, rfl, g1.up (by omega), fun v h => ?_⟩
      by_cases e : v = j
      · subst e; simp [mup_at]
      · simp [mup_at, e]; exact g2 v (by omega)
    · rintro q ⟨T, rfl, g1, g2⟩
      obtain ⟨r, h1, T', rfl, h2⟩ := loopC (n := n) hn hb g1 g2
      exact ⟨_, by simp [b_X3_placeNotes_2, show (4 : Int32) ≤ nI 4 by decide, h1], T', rfl, h2⟩
  obtain ⟨r, h1, T', rfl, h2⟩ := key
  exact ⟨T', h1, h2⟩
end Pl
