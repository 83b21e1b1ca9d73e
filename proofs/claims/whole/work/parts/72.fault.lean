/-! faults -/
theorem R.c6 {N : Nat} {S M S' : mem} (h : R N S M) (hs : ∀ a b c, ¬ a = 6 → S' a b c = S a b c) : R N S' M := by
  obtain ⟨h0, h1, h2, h3, h4, h4s, h5, h6, h7, h8, h9, h10⟩ := h
  refine ⟨h0.cg ?_ rfl, h1.cg ?_ ?_ ?_ ?_ ?_ ?_ ?_ ?_, h2.cg ?_ ?_ ?_ ?_, h3.cg ?_ ?_, h4.cg ?_ ?_ ?_ ?_ ?_ ?_ ?_ ?_, h4s.cg ?_ ?_, h5.cg ?_ ?_ ?_ ?_, h6.cg ?_ ?_ ?_ ?_ ?_ ?_, h7.cg ?_ ?_ ?_ ?_ ?_ ?_ ?_ ?_ ?_ ?_, h8.cg ?_ ?_ ?_ ?_ ?_ ?_ ?_ ?_, h9.cg ?_ ?_ ?_ ?_ ?_ ?_ ?_ ?_, h10.cg ?_ ?_ ?_ ?_⟩ <;> (intros; first | rfl | exact hs _ _ _ (by omega))
section Fl
variable {n N : Nat} {S M : mem}
theorem lastC (hn : 100 ≤ n) (h : R N S M) {v : Nat} (hv : v < 4) : (f_X2_lastBox n S v = some (-1) ∧ ∀ j, j < N → cn S v j = 0) ∨ ∃ j, j < N ∧ f_X2_lastBox n S v = some (nI j) ∧ 0 < cn S v j ∧ ∀ t, j < t → t < N → cn S v t = 0 := by
  have hN := h.1.2.2
  have key : ∀ (k m : Nat), k ≤ 60 → k < m → (∀ t, k ≤ t → t < 60 → cn S v t = 0) → (lp (b_X2_lastBox_3 n S v) m (nI k + (-1)) = some (-1) ∧ ∀ j, j < 60 → cn S v j = 0) ∨ ∃ j, j < 60 ∧ lp (b_X2_lastBox_3 n S v) m (nI k + (-1)) = some (nI j) ∧ 0 < cn S v j ∧ ∀ t, j < t → t < 60 → cn S v t = 0 := by
    intro k
    induction k with
    | zero =>
      intro m _ hm hz
      obtain ⟨m, rfl⟩ : ∃ m', m = m' + 1 := ⟨m - 1, by omega⟩
      have : nI 0 + -1 < 0 := by decide
      exact Or.inl ⟨lp_end (by simp [b_X2_lastBox_3, this]), fun j hj => hz j (by omega) hj⟩
    | succ k ih =>
      intro m hk hm hz
      obtain ⟨m, rfl⟩ : ∃ m', m = m' + 1 := ⟨m - 1, by omega⟩
      rw [pk_m1]
      have hp : ¬ nI k < 0 := nI_pos (by omega)
      have c7 := h.c7 (v := v) hv (i := k) (by omega)
      rcases hasBoxC (n := n) (i := k) (by omega) c7.1 c7.2.1 with ⟨z1, z2⟩ | ⟨z1, z2⟩
      · rw [lp_go (q' := nI k + (-1)) (by simp [b_X2_lastBox_3, hp, cal, z2])]
        exact ih m (by omega) (by omega) (fun t t1 t2 => by
          by_cases e : t = k
          · subst e; exact z1
          · exact hz t (by omega) t2)
      · exact Or.inr ⟨k, by omega, lp_end (by simp [b_X2_lastBox_3, hp, cal, z2]), z1, fun t t1 t2 => hz t (by omega) t2⟩
  have e : (59 : Int32) = nI 60 + (-1) := by decide
  unfold f_X2_lastBox
  rw [e]
  rcases key 60 n (by omega) (by omega) (fun t h1 h2 => by omega) with ⟨a, b⟩ | ⟨j, a, b, c, d⟩
  · exact Or.inl ⟨a, fun j hj => b j (by omega)⟩
  · refine Or.inr ⟨j, ?_, b, c, fun t t1 t2 => d t t1 (by omega)⟩
    exact Nat.not_le.mp fun q => by have := (h.c7 (v := v) hv a).2.2 q; omega
theorem boxesAll (hn : 100 ≤ n) (h : RB N S M) {v : Nat} (hv : v < 4) : (f_X4_hasBoxes n M (nI v) = some 0 ∧ ∀ j, j < N → cn S v j = 0) ∨ (f_X4_hasBoxes n M (nI v) = some 1 ∧ ∃ j, j < N ∧ 0 < cn S v j) := by
  have hN := h.1.2.2
  have key : ∃ r, lp (b_X4_hasBoxes_4 n M (nI v)) n (0, 0) = some r ∧ ((r = 0 ∧ ∀ j, j < N → cn S v j = 0) ∨ (r = 1 ∧ ∃ j, j < N ∧ 0 < cn S v j)) := by
    refine lp_up (I := fun k (q : Int32 × Int32) => (q = (0, nI k) ∧ ∀ j, j < k → cn S v j = 0) ∨ (q = (1, nI k) ∧ ∃ j, j < N ∧ 0 < cn S v j)) (Q := fun r => (r = 0 ∧ ∀ j, j < N → cn S v j = 0) ∨ (r = 1 ∧ ∃ j, j < N ∧ 0 < cn S v j)) N ?_ ?_ n 0 (0, 0) (by omega) (by omega) (Or.inl ⟨rfl, fun j hj => by omega⟩)
    · rintro k q hk (⟨rfl, hq⟩ | ⟨rfl, hq⟩)
      · left
        have hle : ¬ nI N ≤ nI k := nI_ge hk (by omega)
        have z := h.boxM (n := n) hv hk
        by_cases e : cn S v k = 0
        · rw [if_pos e] at z
          refine ⟨(0, nI (k + 1)), by simp [b_X4_hasBoxes_4, h.1.2.1, hle, cal, z, nI_1], Or.inl ⟨rfl, fun j hj => ?_⟩⟩
          by_cases ej : j = k
          · subst ej; exact e
          · exact hq j (by omega)
        · rw [if_neg e] at z
          exact ⟨(1, nI (k + 1)), by simp [b_X4_hasBoxes_4, j_X4_hasBoxes_25, h.1.2.1, hle, cal, z, nI_1], Or.inr ⟨rfl, k, hk, by omega⟩⟩
      · left
        have hle : ¬ nI N ≤ nI k := nI_ge hk (by omega)
        exact ⟨(1, nI (k + 1)), by simp [b_X4_hasBoxes_4, j_X4_hasBoxes_25, h.1.2.1, hle, nI_1], Or.inr ⟨rfl, hq⟩⟩
    · have hle : nI N ≤ nI N := Int32.le_refl _
      rintro q (⟨rfl, hq⟩ | ⟨rfl, hq⟩)
      · exact ⟨0, by simp [b_X4_hasBoxes_4, h.1.2.1, hle, grd], Or.inl ⟨rfl, hq⟩⟩
      · exact ⟨1, by simp [b_X4_hasBoxes_4, h.1.2.1, hle, grd], Or.inr ⟨rfl, hq⟩⟩
  obtain ⟨r, h1, h2⟩ := key
  unfold f_X4_hasBoxes
  rw [h1]
  rcases h2 with ⟨rfl, h2⟩ | ⟨rfl, h2⟩
  · exact Or.inl ⟨rfl, h2⟩
  · exact Or.inr ⟨rfl, h2⟩
theorem singB (h : R N S M) {v i : Nat} (hv : v < 4) (hi : i < N) (h0 : cn S v i = 0) : (f_X3_maySing n S (nI i) (nI v) = some 0 ∧ f_X4_faultAt n M (nI v) (nI i) = some 0) ∨ (f_X3_maySing n S (nI i) (nI v) = some 1 ∧ f_X4_faultAt n M (nI v) (nI i) = j_X4_faultAt_68 n M (nI v)) := by
  have hN := h.1.2.2
  obtain ⟨hp, hc⟩ := nI_in' (i := i) (N := 60) (by omega) (by omega)
  have hlt : i < 60 := by omega
  have z := h.rb.boxM (n := n) hv hi
  rw [if_pos h0] at z
  have r2 := (h.2.1 i hi).2.2.1
  have v0 : nI v ≤ 0 ↔ v = 0 := (nI_leI (a := v) (b := 0) (by omega) (by omega)).trans (by omega)
  have v0' : nI v = 0 ↔ v = 0 := nI_eq (a := v) (b := 0) (by omega) (by omega)
  by_cases hr : M 4 0 i = 0
  · rw [hr] at r2
    rcases behindC (n := n) h hi with ⟨b1, b2⟩ | ⟨b1, b2⟩
    · by_cases ev : v = 0
      · right
        exact ⟨by simp [f_X3_maySing, grd, hp, hc, hlt, r2, cal, b1, v0'.mpr ev], by simp [f_X4_faultAt, z, cal, grd, hp, hc, hlt, hr, b2, v0.mpr ev]⟩
      · rcases h.2.2.2.1 i hi with ⟨m1, m2⟩ | ⟨f, f1, m1, m2⟩
        · right
          exact ⟨by simp [f_X3_maySing, grd, hp, hc, hlt, r2, cal, b1, m1], by simp [f_X4_faultAt, z, cal, grd, hp, hc, hlt, hr, b2, m2]⟩
        · left
          have q1 := nI_m1 (n := f) (by omega)
          have q2 := nI_none (n := f) (by omega)
          exact ⟨by simp [f_X3_maySing, grd, hp, hc, hlt, r2, cal, b1, m1, q1, v0', ev], by simp [f_X4_faultAt, j_X4_faultAt_82, z, cal, grd, hp, hc, hlt, hr, b2, m2, q2, v0, ev]⟩
    · left
      exact ⟨by simp [f_X3_maySing, grd, hp, hc, hlt, r2, cal, b1], by simp [f_X4_faultAt, j_X4_faultAt_82, z, cal, grd, hp, hc, hlt, hr, b2]⟩
  · left
    have r3 : ¬ S 1 i 2 = 0 := fun q => hr (r2.symm.trans q)
    exact ⟨by simp [f_X3_maySing, grd, hp, hc, hlt, r3], by simp [f_X4_faultAt, j_X4_faultAt_82, z, cal, grd, hp, hc, hlt, hr]⟩
theorem faultAtB (hn : 100 ≤ n) (h : R N S M) {v i : Nat} {x : Int32} (hv : v < 4) (hi : i < N) (hx : f_X2_lastBox n S v = some x) : ∃ k : Nat, f_X4_faultAt n M (nI v) (nI i) = some (nI k) ∧ f_X3_isFault n S (nI v) (nI i) x = some (if k = 0 then 0 else 1) ∧ (k = 0 ∨ k = if cn S v i = 0 then 1 else 2) := by
  have hN := h.1.2.2
  obtain ⟨hpv, hcv⟩ := nI_in' hv (by omega)
  have hb := h.rb
  have z1 := hb.hasC (n := n) hv hi
  have z2 := hb.boxM (n := n) hv hi
  have l := lastC (n := n) hn h hv
  rw [hx] at l
  have g5 := (h.2.2.2.2.2.2.1 v hv).2.2.1
  by_cases h0 : cn S v i = 0
  · rw [if_pos h0] at z1 z2 ⊢
    have bx := boxesAll (n := n) hn hb hv
    rcases l with ⟨l1, l2⟩ | ⟨j, l1, l2, l3, l4⟩
    · have l1 := Option.some.inj l1
      subst l1
      refine ⟨0, ?_, by simp [f_X3_isFault, grd, hpv, hcv, hv, cal, z1], Or.inl rfl⟩
      have b0 : f_X4_hasBoxes n M (nI v) = some 0 := by
        rcases bx with ⟨b1, b2⟩ | ⟨b1, j, b2, b3⟩
        · exact b1
        · have := l2 j b2; omega
      rcases singB (n := n) h hv hi h0 with ⟨s1, s2⟩ | ⟨s1, s2⟩
      · rw [s2]; rfl
      · rw [s2]
        by_cases e : M 16 0 v = 0
        · simp [j_X4_faultAt_68, j_X4_faultAt_82, grd, hpv, hcv, hv, e, b0, cal, nI_0]
        · simp [j_X4_faultAt_68, j_X4_faultAt_82, grd, hpv, hcv, hv, e, nI_0]
    · have l2 := Option.some.inj l2
      subst l2
      have q1 := nI_m1 (n := j) (by omega)
      have b1 : f_X4_hasBoxes n M (nI v) = some 1 := by
        rcases bx with ⟨b1, b2⟩ | ⟨b1, -⟩
        · have := b2 j l1; omega
        · exact b1
      rcases singB (n := n) h hv hi h0 with ⟨s1, s2⟩ | ⟨s1, s2⟩
      · refine ⟨0, s2, ?_, Or.inl rfl⟩
        by_cases e : S 2 v 7 = 0
        · simp [f_X3_isFault, grd, hpv, hcv, hv, cal, z1, q1, e, s1]
        · simp [f_X3_isFault, grd, hpv, hcv, hv, cal, z1, q1, e]
      · rw [s2]
        by_cases e : M 16 0 v = 0
        · rw [e] at g5
          exact ⟨1, by simp [j_X4_faultAt_68, j_X4_faultAt_82, grd, hpv, hcv, hv, e, b1, cal]; rfl, by simp [f_X3_isFault, grd, hpv, hcv, hv, cal, z1, q1, g5, s1], Or.inr rfl⟩
        · have e' : ¬ S 2 v 7 = 0 := fun q => e (g5.symm.trans q)
          exact ⟨0, by simp [j_X4_faultAt_68, j_X4_faultAt_82, grd, hpv, hcv, hv, e, nI_0], by simp [f_X3_isFault, grd, hpv, hcv, hv, cal, z1, q1, e'], Or.inl rfl⟩
  · rw [if_neg h0] at z1 z2 ⊢
    have g1 := hb.goC (n := n) hv hi (by omega)
    have g2 := hb.goM (n := n) hv hi (by omega)
    rcases l with ⟨l1, l2⟩ | ⟨j, l1, l2, l3, l4⟩
    · exact absurd (l2 i hi) h0
    · have l2 := Option.some.inj l2
      subst l2
      by_cases ej : i = j
      · subst ej
        by_cases g : bgo S v i = 0
        · exact ⟨0, by simp [f_X4_faultAt, z2, cal, g2, g, nI_0], by simp [f_X3_isFault, grd, hpv, hcv, hv, cal, z1, g1, g], Or.inl rfl⟩
        · have nx : f_X4_other n M (nI i) (nI v) 1 = some (-1000009) := by
            rcases nextB (n := n) hn h hv hi with ⟨-, e2⟩ | ⟨j, hij, hj, hj0, -⟩
            · exact e2
            · have := l4 j hij hj; omega
          exact ⟨2, by simp [f_X4_faultAt, z2, cal, g2, g, nx]; rfl, by simp [f_X3_isFault, grd, hpv, hcv, hv, cal, z1, g1, g], Or.inr rfl⟩
      · have ne : ¬ nI i = nI j := fun q => ej ((nI_eq (by omega) (by omega)).mp q)
        refine ⟨0, ?_, by simp [f_X3_isFault, grd, hpv, hcv, hv, cal, z1, ne], Or.inl rfl⟩
        by_cases g : bgo S v i = 0
        · simp [f_X4_faultAt, z2, cal, g2, g, nI_0]
        · rcases nextB (n := n) hn h hv hi with ⟨e1, e2⟩ | ⟨k, hij, hj, hj0, e1, e2⟩
          · exfalso
            obtain ⟨o, o1, o2⟩ := nextC (n := n) hn h hv hi
            cases o with
            | none =>
              by_cases c : i < j
              · have := o1 j c l1; omega
              · have := l4 i (by omega) hi; omega
            | some t =>
              rw [e1] at o2
              exact nI_m1 (n := t) (by have := o1.2.1; omega) (Option.some.inj o2).symm
          · have q2 := nI_none (n := k) (by omega)
            simp [f_X4_faultAt, z2, cal, g2, g, e2, q2, nI_0]
end Fl
