/-! told -/
def totc (S : mem) (N : Nat) : Nat → Nat
  | 0 => 0
  | v + 1 => totc S N v + sumc S v N
theorem totc_s (S : mem) (N : Nat) : totc S (N + 1) 4 = totc S N 4 + syl S N 0 4 := by
  simp only [totc, sumc, syl, Nat.zero_add, Nat.reduceAdd]
  omega
theorem sylAllC {n N : Nat} {S M : mem} (hn : 100 ≤ n) (h : R N S M) : f_X3_syllablesInAll n S = some (nI (totc S N 4)) := by
  have h4s := h.2.2.2.2.2.1
  have key : ∃ r, lp (b_X3_syllablesInAll_4 n S) n (0, 0) = some r ∧ r = nI (totc S N 4) := by
    refine lp_up (I := fun j (q : Int32 × Int32) => q = (nI (totc S N j), nI j)) (Q := fun r => r = nI (totc S N 4)) 4 ?_ ?_ n 0 (0, 0) (by omega) (by omega) rfl
    · rintro j q hj rfl
      left
      obtain ⟨hp, hc⟩ := nI_in' hj (by omega)
      exact ⟨(nI (totc S N (j + 1)), nI (j + 1)), by simp [b_X3_syllablesInAll_4, nI_lt4 hj, grd, hp, hc, hj, h4s j hj, nI_add, nI_1, totc], rfl⟩
    · rintro q rfl
      exact ⟨_, by simp [b_X3_syllablesInAll_4, show (4 : Int32) ≤ nI 4 by decide], rfl⟩
  obtain ⟨r, h1, h2⟩ := key
  unfold f_X3_syllablesInAll
  rw [h1, h2]
theorem sylAllM {n N : Nat} {S M : mem} (hn : 100 ≤ n) (h : R N S M) : lp (b_X4_told_63 n M) n (0, 0) = some (nI (totc S N 4), M) := by
  obtain ⟨hS, hM, hN⟩ := h.1
  have key : ∃ r, lp (b_X4_told_63 n M) n (0, 0) = some r ∧ r = (nI (totc S N 4), M) := by
    refine lp_up (I := fun j (q : Int32 × Int32) => q = (nI (totc S j 4), nI j)) (Q := fun r => r = (nI (totc S N 4), M)) N ?_ ?_ n 0 (0, 0) (by omega) (by omega) rfl
    · rintro j q hj rfl
      left
      have hle : ¬ nI N ≤ nI j := nI_ge hj (by omega)
      have hs := sylM (n := n) (v0 := 0) (i := j) (by omega) h hj (by omega)
      rw [nI_0] at hs
      exact ⟨(nI (totc S (j + 1) 4), nI (j + 1)), by simp [b_X4_told_63, hM, hle, cal, hs, nI_add, nI_1, totc_s], rfl⟩
    · rintro q rfl
      exact ⟨_, by simp [b_X4_told_63, hM, Int32.le_refl], rfl⟩
  obtain ⟨r, h1, h2⟩ := key
  rw [h1, h2]
def totk (M : mem) : Nat → Nat
  | 0 => 0
  | i + 1 => totk M i + if M 5 0 i ≤ 0 then 0 else 1
theorem chAllC {n N : Nat} {S M : mem} (hn : 100 ≤ n) (h : R N S M) : f_X3_chordsInAll n S = some (nI (totk M N)) := by
  obtain ⟨hS, hM, hN⟩ := h.1
  have key : ∃ r, lp (b_X3_chordsInAll_4 n S) n (0, 0) = some r ∧ r = nI (totk M N) := by
    refine lp_up (I := fun j (q : Int32 × Int32) => q = (nI (totk M j), nI j)) (Q := fun r => r = nI (totk M N)) N ?_ ?_ n 0 (0, 0) (by omega) (by omega) rfl
    · rintro j q hj rfl
      left
      have hle : ¬ nI N ≤ nI j := nI_ge hj (by omega)
      obtain ⟨hp, hc⟩ := nI_in' (i := j) (N := 60) (by omega) (by omega)
      have hlt : j < 60 := by omega
      have g := (h.2.1 j hj).2.2.2.1
      by_cases e : M 5 0 j ≤ 0
      · exact ⟨(nI (totk M (j + 1)), nI (j + 1)), by simp [b_X3_chordsInAll_4, j_X3_chordsInAll_30, f_X3_asNumber, hS, hle, grd, hp, hc, hlt, cal, g, e, nI_1, totk], rfl⟩
      · exact ⟨(nI (totk M (j + 1)), nI (j + 1)), by simp [b_X3_chordsInAll_4, j_X3_chordsInAll_30, f_X3_asNumber, hS, hle, grd, hp, hc, hlt, cal, g, e, nI_1, totk], rfl⟩
    · rintro q rfl
      exact ⟨_, by simp [b_X3_chordsInAll_4, hS, Int32.le_refl], rfl⟩
  obtain ⟨r, h1, h2⟩ := key
  unfold f_X3_chordsInAll
  rw [h1, h2]
theorem chAllM {n N : Nat} {S M : mem} (hn : 100 ≤ n) (h : R N S M) : lp (b_X4_told_110 n M) n (0, 0) = some (nI (totk M N), M) := by
  obtain ⟨hS, hM, hN⟩ := h.1
  have key : ∃ r, lp (b_X4_told_110 n M) n (0, 0) = some r ∧ r = (nI (totk M N), M) := by
    refine lp_up (I := fun j (q : Int32 × Int32) => q = (nI (totk M j), nI j)) (Q := fun r => r = (nI (totk M N), M)) N ?_ ?_ n 0 (0, 0) (by omega) (by omega) rfl
    · rintro j q hj rfl
      left
      have hle : ¬ nI N ≤ nI j := nI_ge hj (by omega)
      obtain ⟨hp, hc⟩ := nI_in' (i := j) (N := 60) (by omega) (by omega)
      have hlt : j < 60 := by omega
      by_cases e : M 5 0 j ≤ 0
      · exact ⟨(nI (totk M (j + 1)), nI (j + 1)), by simp [b_X4_told_110, hM, hle, grd, hp, hc, hlt, e, nI_1, totk], rfl⟩
      · exact ⟨(nI (totk M (j + 1)), nI (j + 1)), by simp [b_X4_told_110, hM, hle, grd, hp, hc, hlt, e, nI_1, totk], rfl⟩
    · rintro q rfl
      exact ⟨_, by simp [b_X4_told_110, hM, Int32.le_refl], rfl⟩
  obtain ⟨r, h1, h2⟩ := key
  rw [h1, h2]
theorem op_told {n N : Nat} (hn : 100 ≤ n) {S M : mem} (h : R N S M) (x : Int32) : opR S (f_X3_told n S x) (f_X4_told n M x) := by
  have hT := h.thr 0
  have s1 := sylAllC hn hT
  have s2 := sylAllM hn hT
  have s3 := chAllC hn hT
  have s4 := chAllM hn hT
  obtain ⟨hS, hM, hN⟩ := h.1
  obtain ⟨P, -, p1, p2, -⟩ := h.2.2.2.2.2.2.2.2.2.1
  obtain ⟨T, -, t1, t2, -⟩ := h.2.2.2.2.2.2.2.2.2.2.1.1
  have h6 := h.2.2.2.2.2.2.2.1
  have h7 := h.2.2.2.2.2.2.2.2.1
  by_cases x0 : x = 0
  · subst x0; exact ⟨nI N, _, N, by simp [f_X3_told, hS], by simp [f_X4_told, hM], hT⟩
  by_cases x1 : x = 1
  · subst x1; exact ⟨nI (totc S N 4), _, N, by simp [f_X3_told, s1, cal], by simp [f_X4_told, s2], hT⟩
  by_cases x2 : x = 2
  · subst x2; exact ⟨M 0 0 9, _, N, by simp [f_X3_told, h6.1], by simp [f_X4_told], hT⟩
  by_cases x3 : x = 3
  · subst x3; exact ⟨M 0 0 10, _, N, by simp [f_X3_told, h6.2.1], by simp [f_X4_told], hT⟩
  by_cases x4 : x = 4
  · subst x4; exact ⟨nI P, _, N, by simp [f_X3_told, p1], by simp [f_X4_told, p2], hT⟩
  by_cases x5 : x = 5
  · subst x5; exact ⟨nI T, _, N, by simp [f_X3_told, t1], by simp [f_X4_told, t2], hT⟩
  by_cases x6 : x = 6
  · subst x6; exact ⟨nI (totk (mup M 0 0 0 0) N), _, N, by simp [f_X3_told, s3, cal], by simp [f_X4_told, s4], hT⟩
  by_cases x7 : x = 7
  · subst x7
    rcases h7 with ⟨a1, a2⟩ | ⟨a1, a2, -⟩
    · exact ⟨0, _, N, by simp [f_X3_told, f_X3_asNumber, a1, cal], by simp [f_X4_told, a2], hT⟩
    · exact ⟨1, _, N, by simp [f_X3_told, f_X3_asNumber, a1, cal], by simp [f_X4_told, a2], hT⟩
  exact ⟨-1000002, _, N, by simp [f_X3_told, x0, x1, x2, x3, x4, x5, x6, x7], by simp [f_X4_told, x0, x1, x2, x3, x4, x5, x6, x7], hT⟩
