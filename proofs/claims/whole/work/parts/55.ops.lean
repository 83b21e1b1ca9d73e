theorem syl_sing {n N : Nat} {S M : mem} (h : R N S M) {v i : Nat} (hv : v < 4) (hi : i < N) {a b c : Int32} (ha : bd a 1 200) (hb : bd b 0 200) (hgo : b01 c) (e1 : f_X3_isNote n S (nI i) = some 1) (e3 : f_X3_isVerse n S (nI v) = some 1) (e5 : f_X3_isOutside n S a 1 200 = some 0) (e7 : f_X3_isOutside n S b 0 a = some 0) (em : f_X3_maySing n S (nI i) (nI v) = some 1) : op2 (f_X3_syllable n S (nI i) (nI v) a b c) (j_X4_syllable_82 n (mup M 0 0 0 0) (nI i) (nI v) a b c) := by
  have hN := h.1.2.2
  obtain ⟨hp, hc⟩ := nI_in' (i := i) (N := 60) (by omega) (by omega)
  obtain ⟨hpv, hcv⟩ := nI_in' hv (by omega)
  obtain ⟨hp4, hc4⟩ := nI_in' (i := 4 * i + v) (N := 240) (by omega) (by omega)
  have hlt : i < 60 := by omega
  have hlt4 : 4 * i + v < 240 := by omega
  have q := h.2.2.2.2.1.cn2 hv hi
  have qs := h.2.2.2.2.2.1 v hv
  have hg : c = 0 ∨ c = 1 := hgo
  by_cases c2 : cn S v i = 2
  · rw [c2] at q
    exact ⟨-1000004, S, _, N, by simp [f_X3_syllable, e1, e3, e5, e7, em, cal, grd, hp, hc, hlt, hpv, hcv, hv, q.2.1, show nI 2 = 2 from rfl], by simp [j_X4_syllable_82, ix4, grd, hp4, hc4, hlt4, mup_at, q.2.2, show nI 2 = 2 from rfl], h.thr 0⟩
  · have hlt2 : nI (cn S v i) < 2 := nI_lt (b := 2) (by omega) (by omega)
    have hne2 : ¬ nI (cn S v i) = 2 := fun e => c2 ((nI_eq (b := 2) (by omega) (by omega)).mp e)
    obtain ⟨hpa, hca⟩ := nI_in' (i := 2 * i + cn S v i) (N := 120) (by omega) (by omega)
    obtain ⟨hpm, hcm⟩ := nI_in' (i := 8 * i + 2 * v + cn S v i) (N := 480) (by omega) (by omega)
    have hla : 2 * i + cn S v i < 120 := by omega
    have hlm : 8 * i + 2 * v + cn S v i < 480 := by omega
    exact ⟨nI (cn S v i + 1), _, _, N, by simp [f_X3_syllable, f_X2_addSyllable, e1, e3, e5, e7, em, cal, grd, hp, hc, hlt, hpv, hcv, hv, mup_at, q.2.1, hlt2, ix2, hpa, hca, hla, nI_1, nar01 hg, qs], by simp [j_X4_syllable_82, ix4, grd, hp4, hc4, hlt4, mup_at, q.2.2, hne2, ix8, hpm, hcm, hlm, nI_1, nar01 hg], h.syl hv hi (by omega) ha hb hgo⟩
theorem op_syllable {n N : Nat} {S M : mem} (h : R N S M) (x w a b c : Int32) (hc5 : b01 c) : op2 (f_X3_syllable n S x w a b c) (f_X4_syllable n M x w a b c) := by
  have hT := h.thr 0
  rcases isNoteC (n := n) hT.1 x with ⟨e1, e2⟩ | ⟨i, hi, rfl, e1, e2⟩
  · exact ⟨-1000001, S, _, N, by simp [f_X3_syllable, e1, cal], by simp [f_X4_syllable, e2, cal], hT⟩
  · rcases isVerseC (n := n) S (mup M 0 0 0 0) w with ⟨e3, e4⟩ | ⟨v, hv, rfl, e3, e4⟩
    · exact ⟨-1000001, S, _, N, by simp [f_X3_syllable, e1, e3, cal], by simp [f_X4_syllable, e2, e4, cal], hT⟩
    · rcases outC (n := n) S (mup M 0 0 0 0) a 1 200 with ⟨e5, e6⟩ | ⟨b1, b2, e5, e6⟩
      · exact ⟨-1000002, S, _, N, by simp [f_X3_syllable, e1, e3, e5, cal], by simp [f_X4_syllable, e2, e4, e6, cal], hT⟩
      · rcases outC (n := n) S (mup M 0 0 0 0) b 0 a with ⟨e7, e8⟩ | ⟨b3, b4, e7, e8⟩
        · exact ⟨-1000002, S, _, N, by simp [f_X3_syllable, e1, e3, e5, e7, cal], by simp [f_X4_syllable, e2, e4, e6, e8, cal], hT⟩
        · have hN := h.1.2.2
          obtain ⟨hp, hc⟩ := nI_in' (i := i) (N := 60) (by omega) (by omega)
          have hlt : i < 60 := by omega
          have ha := bd_of (a := 1) (b := 200) (by omega) (by omega) b1 b2
          have hb : bd b 0 200 := by
            obtain ⟨a0, a1, a2, rfl⟩ := ha
            exact bd_of (a := 0) (b := 200) (by omega) (by omega) b3 (fun q => b4 (Int32.lt_of_le_of_lt (nI_le a2 (by omega)) q))
          have q1 := h.2.1 i hi
          have q2 := q1.2.2.1
          have go : ∀ em : f_X3_maySing n S (nI i) (nI v) = some 1, f_X4_syllable n M (nI i) (nI v) a b c = j_X4_syllable_82 n (mup M 0 0 0 0) (nI i) (nI v) a b c → op2 (f_X3_syllable n S (nI i) (nI v) a b c) (f_X4_syllable n M (nI i) (nI v) a b c) := fun em e9 => by
            rw [e9]
            exact syl_sing h hv hi ha hb hc5 e1 e3 e5 e7 em
          have no : f_X3_maySing n S (nI i) (nI v) = some 0 → f_X4_syllable n M (nI i) (nI v) a b c = some (-1000003, mup M 0 0 0 0) → op2 (f_X3_syllable n S (nI i) (nI v) a b c) (f_X4_syllable n M (nI i) (nI v) a b c) := fun em e9 => by
            rw [e9]
            exact ⟨-1000003, S, _, N, by simp [f_X3_syllable, e1, e3, e5, e7, em, cal], rfl, hT⟩
          by_cases hr : M 4 0 i = 0
          · have hB : (f_X3_isBehindMelismaFirst n S (nI i) = some 0 ∧ f_X4_isBehindFirst n (mup M 0 0 0 0) (nI i) = some 0) ∨ (f_X3_isBehindMelismaFirst n S (nI i) = some 1 ∧ f_X4_isBehindFirst n (mup M 0 0 0 0) (nI i) = some 1) := behindC hT hi
            rcases hB with ⟨f1, f2⟩ | ⟨f1, f2⟩
            · by_cases v0 : v = 0
              · subst v0
                have hz : nI 0 ≤ 0 := by decide
                exact go (by simp [f_X3_maySing, f1, cal, grd, hp, hc, hlt, q2, hr, nI_0]) (by simp [f_X4_syllable, e2, e4, e6, e8, f2, cal, grd, hp, hc, hlt, hr, hz])
              · have n1 : ¬ nI v = 0 := nI_ne0 (by omega) (by omega)
                have n2 : ¬ nI v ≤ 0 := nI_nle (by omega) (by omega)
                rcases h.2.2.2.1 i hi with ⟨r1, r2⟩ | ⟨f, r0, r1, r2⟩
                · exact go (by simp [f_X3_maySing, f1, cal, grd, hp, hc, hlt, q2, hr, n1, r1]) (by simp [f_X4_syllable, e2, e4, e6, e8, f2, cal, grd, hp, hc, hlt, hr, n2, r2])
                · have m1 := nI_m1 (show f < 2 ^ 31 by omega)
                  have m2 := nI_none (show f < 2 ^ 31 by omega)
                  exact no (by simp [f_X3_maySing, f1, cal, grd, hp, hc, hlt, q2, hr, n1, r1, m1]) (by simp [f_X4_syllable, e2, e4, e6, e8, f2, cal, grd, hp, hc, hlt, hr, n2, r2, m2])
            · exact no (by simp [f_X3_maySing, f1, cal, grd, hp, hc, hlt, q2, hr]) (by simp [f_X4_syllable, e2, e4, e6, e8, f2, cal, grd, hp, hc, hlt, hr])
          · exact no (by simp [f_X3_maySing, cal, grd, hp, hc, hlt, q2, hr]) (by simp [f_X4_syllable, e2, e4, e6, e8, cal, grd, hp, hc, hlt, hr])
