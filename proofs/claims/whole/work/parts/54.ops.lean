theorem sumc_upd {S S' : mem} {v i : Nat} (h : ∀ j, j ≠ i → cn S' v j = cn S v j) : ∀ n, sumc S' v n + (if i < n then cn S v i else 0) = sumc S v n + (if i < n then cn S' v i else 0)
  | 0 => by simp [sumc]
  | n + 1 => by
    have ih := sumc_upd h n
    rw [sumc, sumc]
    by_cases hi : i = n
    · subst hi
      rw [if_neg (by omega), if_neg (by omega)] at ih
      rw [if_pos (by omega), if_pos (by omega)]
      omega
    · rw [h n (fun q => hi q.symm)]
      by_cases h2 : i < n
      · rw [if_pos h2, if_pos h2] at ih
        rw [if_pos (by omega), if_pos (by omega)]
        omega
      · rw [if_neg h2, if_neg h2] at ih
        rw [if_neg (by omega), if_neg (by omega)]
        omega
theorem sumc_eq {S S' : mem} {v : Nat} {n : Nat} (h : ∀ j, j < n → cn S' v j = cn S v j) : sumc S' v n = sumc S v n := by
  induction n with
  | zero => rfl
  | succ n ih => rw [sumc, sumc, ih (fun j hj => h j (by omega)), h n (by omega)]
theorem G4.cn2 {N : Nat} {S M : mem} (h : G4 N S M) {v i : Nat} (hv : v < 4) (hi : i < N) : cn S v i ≤ 2 ∧ S 7 v i = nI (cn S v i) ∧ M 11 0 (4 * i + v) = nI (cn S v i) := by
  have q := h.1 v i hv hi
  obtain ⟨a, a1, a2, a3⟩ := q.2.1
  have e : cn S v i = a := by unfold cn; rw [a3]; exact nI_clamp (by omega)
  rw [e]
  exact ⟨a2, a3, q.1.symm.trans a3⟩
theorem sumc_le {N : Nat} {S M : mem} (h : G4 N S M) {v : Nat} (hv : v < 4) : ∀ n, n ≤ N → sumc S v n ≤ 2 * n
  | 0, _ => by simp [sumc]
  | n + 1, hn => by
    have ih := sumc_le h hv n (by omega)
    have := (h.cn2 hv (show n < N by omega)).1
    rw [sumc]
    omega
theorem sumc_ge {S : mem} {v i : Nat} : ∀ n, i < n → cn S v i ≤ sumc S v n
  | 0, h => by omega
  | n + 1, h => by
    rw [sumc]
    by_cases hi : i = n
    · subst hi; omega
    · have := sumc_ge (S := S) (v := v) (i := i) n (by omega)
      omega
theorem R.wipe {N : Nat} {S M : mem} (h : R N S M) {v i : Nat} (hv : v < 4) (hi : i < N) : R N (mup (mup (mup S 3 0 8 0) 7 v i 0) 2 v 5 (nI (sumc S v N) - nI (cn S v i))) (mup (mup (mup M 0 0 0 0) 11 0 (4 * i + v) 0) 0 0 18 0) := by
  obtain ⟨h0, h1, h2, h3, h4, h4s, h5, h6, h7, h8, h9, h10⟩ := h
  have g4 : G4 N (mup (mup (mup S 3 0 8 0) 7 v i 0) 2 v 5 (nI (sumc S v N) - nI (cn S v i))) (mup (mup (mup M 0 0 0 0) 11 0 (4 * i + v) 0) 0 0 18 0) := by
    refine ⟨fun u j hu hj => ?_, fun u j hu hj hj6 => ?_⟩
    · have q := h4.1 u j hu hj
      by_cases e : u = v ∧ j = i
      · obtain ⟨rfl, rfl⟩ := e
        refine ⟨by simp [mup_at], ⟨0, by omega, by omega, by simp [mup_at, nI_0]⟩, fun k hk => ?_⟩
        simp [cn, mup_at] at hk
      · have e2 : ¬ 4 * j + u = 4 * i + v := fun q => e (by omega)
        have ec : cn (mup (mup (mup S 3 0 8 0) 7 v i 0) 2 v 5 (nI (sumc S v N) - nI (cn S v i))) u j = cn S u j := by simp [cn, mup_at, e]
        rw [ec]
        simp only [mup_at]
        simp [e, e2]
        exact q
    · have q := h4.2 u j hu hj hj6
      have e : ¬ (u = v ∧ j = i) := fun e => by omega
      simp only [mup_at]
      simp [e]
      exact q
  have g4s : G4s N (mup (mup (mup S 3 0 8 0) 7 v i 0) 2 v 5 (nI (sumc S v N) - nI (cn S v i))) := by
    intro u hu
    by_cases e : u = v
    · subst e
      have hs := sumc_upd (S := S) (S' := mup (mup (mup S 3 0 8 0) 7 u i 0) 2 u 5 (nI (sumc S u N) - nI (cn S u i))) (v := u) (i := i) (fun j hj => by simp [cn, mup_at, hj]) N
      rw [if_pos hi, if_pos hi] at hs
      have hz : cn (mup (mup (mup S 3 0 8 0) 7 u i 0) 2 u 5 (nI (sumc S u N) - nI (cn S u i))) u i = 0 := by simp [cn, mup_at]
      rw [hz] at hs
      have hge := sumc_ge (S := S) (v := u) N hi
      rw [show sumc (mup (mup (mup S 3 0 8 0) 7 u i 0) 2 u 5 (nI (sumc S u N) - nI (cn S u i))) u N = sumc S u N - cn S u i by omega, ← pk_sub hge]
      simp [mup_at]
    · have := h4s u hu
      refine Eq.trans ?_ (congrArg nI (sumc_eq (S := S) (fun j hj => by simp [cn, mup_at, e])).symm)
      simp [mup_at, e]
      exact this
  refine ⟨h0.cg ?_ ?_, h1.cg ?_ ?_ ?_ ?_ ?_ ?_ ?_ ?_, h2.cg ?_ ?_ ?_ ?_, h3.cg ?_ ?_, g4, g4s, h5.cg ?_ ?_ ?_ ?_, h6.cg ?_ ?_ ?_ ?_ ?_ ?_, G7.no ?_ ?_, h8.cg ?_ ?_ ?_ ?_ ?_ ?_ ?_ ?_, h9.cg ?_ ?_ ?_ ?_ ?_ ?_ ?_ ?_, h10.cg ?_ ?_ ?_ ?_⟩ <;> (intros; simp [mup_at])
theorem op_wipe {n N : Nat} {S M : mem} (h : R N S M) (x w : Int32) : op2 (f_X3_wipe n S x w) (f_X4_wipe n M x w) := by
  have hT := h.thr 0
  rcases isNoteC (n := n) hT.1 x with ⟨e1, e2⟩ | ⟨i, hi, rfl, e1, e2⟩
  · exact ⟨-1000001, S, _, N, by simp [f_X3_wipe, e1, cal], by simp [f_X4_wipe, e2, cal], hT⟩
  · rcases isVerseC (n := n) S (mup M 0 0 0 0) w with ⟨e3, e4⟩ | ⟨v, hv, rfl, e3, e4⟩
    · exact ⟨-1000001, S, _, N, by simp [f_X3_wipe, e1, e3, cal], by simp [f_X4_wipe, e2, e4, cal], hT⟩
    · have hN := h.1.2.2
      obtain ⟨hp, hc⟩ := nI_in' (i := i) (N := 60) (by omega) (by omega)
      obtain ⟨hpv, hcv⟩ := nI_in' hv (by omega)
      obtain ⟨hp4, hc4⟩ := nI_in' (i := 4 * i + v) (N := 240) (by omega) (by omega)
      have hlt : i < 60 := by omega
      have hlt4 : 4 * i + v < 240 := by omega
      have q := h.2.2.2.2.1.cn2 hv hi
      have qs := h.2.2.2.2.2.1 v hv
      exact ⟨nI (cn S v i), _, _, N, by simp [f_X3_wipe, f_X2_removeSyllables, e1, e3, cal, grd, hc, hp, hlt, hpv, hcv, hv, mup_at, q.2.1, qs], by simp [f_X4_wipe, e2, e4, cal, grd, ix4, hp4, hc4, hlt4, q.2.2], h.wipe hv hi⟩
/-- a note behind the first of its melisma: both say so -/
theorem behindC {n N : Nat} {S M : mem} (h : R N S M) {i : Nat} (hi : i < N) : (f_X3_isBehindMelismaFirst n S (nI i) = some 0 ∧ f_X4_isBehindFirst n M (nI i) = some 0) ∨ (f_X3_isBehindMelismaFirst n S (nI i) = some 1 ∧ f_X4_isBehindFirst n M (nI i) = some 1) := by
  have hN := h.1.2.2
  obtain ⟨hp, hc⟩ := nI_in' (i := i) (N := 60) (by omega) (by omega)
  have hlt : i < 60 := by omega
  rcases h.2.2.1 i hi with ⟨q1, q2⟩ | ⟨f, z, f1, f2, f3, q1, q2, -⟩
  · left
    exact ⟨by simp [f_X3_isBehindMelismaFirst, grd, hp, hc, hlt, q1], by simp [f_X4_isBehindFirst, grd, hp, hc, hlt, q2]⟩
  · have n1 := nI_m1 (show f < 2 ^ 31 by omega)
    have n2 := nI_none (show f < 2 ^ 31 by omega)
    by_cases e : f = i
    · subst e
      left
      exact ⟨by simp [f_X3_isBehindMelismaFirst, grd, hp, hc, hlt, q1], by simp [f_X4_isBehindFirst, grd, hp, hc, hlt, q2]⟩
    · have ne : ¬ nI f = nI i := fun q => e ((nI_eq (by omega) (by omega)).mp q)
      right
      exact ⟨by simp [f_X3_isBehindMelismaFirst, grd, hp, hc, hlt, q1, n1, ne], by simp [f_X4_isBehindFirst, grd, hp, hc, hlt, q2, n2, ne]⟩
theorem R.syl {N : Nat} {S M : mem} (h : R N S M) {v i : Nat} (hv : v < 4) (hi : i < N) (hc2 : cn S v i < 2) {w vo go : Int32} (hw : bd w 1 200) (hvo : bd vo 0 200) (hgo : b01 go) : R N (mup (mup (mup (mup (mup (mup S 3 0 8 0) 8 v (2 * i + cn S v i) w) 9 v (2 * i + cn S v i) vo) 10 v (2 * i + cn S v i) go) 7 v i (nI (cn S v i + 1))) 2 v 5 (nI (sumc S v N + 1))) (mup (mup (mup (mup (mup (mup M 0 0 0 0) 12 0 (8 * i + 2 * v + cn S v i) w) 13 0 (8 * i + 2 * v + cn S v i) vo) 14 0 (8 * i + 2 * v + cn S v i) go) 11 0 (4 * i + v) (nI (cn S v i + 1))) 0 0 18 0) := by
  obtain ⟨h0, h1, h2, h3, h4, h4s, h5, h6, h7, h8, h9, h10⟩ := h
  generalize hcd : cn S v i = d at hc2 ⊢
  have g4 : G4 N (mup (mup (mup (mup (mup (mup S 3 0 8 0) 8 v (2 * i + d) w) 9 v (2 * i + d) vo) 10 v (2 * i + d) go) 7 v i (nI (d + 1))) 2 v 5 (nI (sumc S v N + 1))) (mup (mup (mup (mup (mup (mup M 0 0 0 0) 12 0 (8 * i + 2 * v + d) w) 13 0 (8 * i + 2 * v + d) vo) 14 0 (8 * i + 2 * v + d) go) 11 0 (4 * i + v) (nI (d + 1))) 0 0 18 0) := by
    refine ⟨fun u j hu hj => ?_, fun u j hu hj hj6 => ?_⟩
    · have q := h4.1 u j hu hj
      by_cases e : u = v ∧ j = i
      · obtain ⟨rfl, rfl⟩ := e
        refine ⟨by simp [mup_at], ⟨d + 1, by omega, by omega, by simp [mup_at]⟩, fun k hk => ?_⟩
        have hk : k < d + 1 := by
          have e9 : cn (mup (mup (mup (mup (mup (mup S 3 0 8 0) 8 u (2 * j + d) w) 9 u (2 * j + d) vo) 10 u (2 * j + d) go) 7 u j (nI (d + 1))) 2 u 5 (nI (sumc S u N + 1))) u j = d + 1 := by simp [cn, mup_at, nI_clamp (show d + 1 < 2 ^ 31 by omega)]
          rw [e9] at hk
          exact hk
        by_cases hkd : k = d
        · subst hkd
          simp only [mup_at]
          simp
          exact ⟨hw, hvo, hgo⟩
        · have := q.2.2 k (by omega)
          simp only [mup_at]
          simp [hkd]
          exact this
      · have e2 : ¬ 4 * j + u = 4 * i + v := fun q => e (by omega)
        have ec : cn (mup (mup (mup (mup (mup (mup S 3 0 8 0) 8 v (2 * i + d) w) 9 v (2 * i + d) vo) 10 v (2 * i + d) go) 7 v i (nI (d + 1))) 2 v 5 (nI (sumc S v N + 1))) u j = cn S u j := by simp [cn, mup_at, e]
        rw [ec]
        refine ⟨by simp [mup_at, e, e2, q.1], by simp [mup_at, e]; exact q.2.1, fun k hk => ?_⟩
        have hk2 := (h4.cn2 hu hj).1
        have e3 : ¬ (u = v ∧ 2 * j + k = 2 * i + d) := fun q => e (by omega)
        have e4 : ¬ 8 * j + 2 * u + k = 8 * i + 2 * v + d := fun q => e (by omega)
        have := q.2.2 k hk
        simp only [mup_at]
        simp [e3, e4]
        exact this
    · have q := h4.2 u j hu hj hj6
      have e : ¬ (u = v ∧ j = i) := fun e => by omega
      simp only [mup_at]
      simp [e]
      exact q
  have g4s : G4s N (mup (mup (mup (mup (mup (mup S 3 0 8 0) 8 v (2 * i + d) w) 9 v (2 * i + d) vo) 10 v (2 * i + d) go) 7 v i (nI (d + 1))) 2 v 5 (nI (sumc S v N + 1))) := by
    intro u hu
    by_cases e : u = v
    · subst e
      have hs := sumc_upd (S := S) (S' := mup (mup (mup (mup (mup (mup S 3 0 8 0) 8 u (2 * i + d) w) 9 u (2 * i + d) vo) 10 u (2 * i + d) go) 7 u i (nI (d + 1))) 2 u 5 (nI (sumc S u N + 1))) (v := u) (i := i) (fun j hj => by simp [cn, mup_at, hj]) N
      rw [if_pos hi, if_pos hi, hcd] at hs
      have hz : cn (mup (mup (mup (mup (mup (mup S 3 0 8 0) 8 u (2 * i + d) w) 9 u (2 * i + d) vo) 10 u (2 * i + d) go) 7 u i (nI (d + 1))) 2 u 5 (nI (sumc S u N + 1))) u i = d + 1 := by simp [cn, mup_at, nI_clamp (show d + 1 < 2 ^ 31 by omega)]
      rw [hz] at hs
      rw [show sumc (mup (mup (mup (mup (mup (mup S 3 0 8 0) 8 u (2 * i + d) w) 9 u (2 * i + d) vo) 10 u (2 * i + d) go) 7 u i (nI (d + 1))) 2 u 5 (nI (sumc S u N + 1))) u N = sumc S u N + 1 by omega]
      simp [mup_at]
    · have := h4s u hu
      refine Eq.trans ?_ (congrArg nI (sumc_eq (S := S) (fun j hj => by simp [cn, mup_at, e])).symm)
      simp [mup_at, e]
      exact this
  refine ⟨h0.cg ?_ ?_, h1.cg ?_ ?_ ?_ ?_ ?_ ?_ ?_ ?_, h2.cg ?_ ?_ ?_ ?_, h3.cg ?_ ?_, g4, g4s, h5.cg ?_ ?_ ?_ ?_, h6.cg ?_ ?_ ?_ ?_ ?_ ?_, G7.no ?_ ?_, h8.cg ?_ ?_ ?_ ?_ ?_ ?_ ?_ ?_, h9.cg ?_ ?_ ?_ ?_ ?_ ?_ ?_ ?_, h10.cg ?_ ?_ ?_ ?_⟩ <;> (intros; simp [mup_at])
