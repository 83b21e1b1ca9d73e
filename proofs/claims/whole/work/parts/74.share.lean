/-! verses that are alike; rows -/
theorem lp_two {σ τ ρ υ : Type} {b : σ → Option (σ ⊕ ρ)} {b' : τ → Option (τ ⊕ υ)} (I : Nat → σ → τ → Prop) (Q : ρ → υ → Prop) (e : Nat) (hs : ∀ i q q', i < e → I i q q' → (∃ p p', b q = some (.inl p) ∧ b' q' = some (.inl p') ∧ I (i + 1) p p') ∨ ∃ r r', b q = some (.inr r) ∧ b' q' = some (.inr r') ∧ Q r r') (he : ∀ q q', I e q q' → ∃ r r', b q = some (.inr r) ∧ b' q' = some (.inr r') ∧ Q r r') : ∀ (n i : Nat) (q : σ) (q' : τ), i ≤ e → e - i < n → I i q q' → ∃ r r', lp b n q = some r ∧ lp b' n q' = some r' ∧ Q r r' := by
  intro n
  induction n with
  | zero => intro i q q' _ h; omega
  | succ n ih =>
    intro i q q' hi hn hI
    by_cases h : i = e
    · subst h
      obtain ⟨r, r', h1, h2, h3⟩ := he q q' hI
      exact ⟨r, r', lp_end h1, lp_end h2, h3⟩
    · rcases hs i q q' (by omega) hI with ⟨p, p', h1, h2, h3⟩ | ⟨r, r', h1, h2, h3⟩
      · obtain ⟨r, r', h4, h5, h6⟩ := ih (i + 1) p p' (by omega) (by omega) h3
        exact ⟨r, r', (lp_go h1).trans h4, (lp_go h2).trans h5, h6⟩
      · exact ⟨r, r', lp_end h1, lp_end h2, h3⟩
section Sh
variable {n N : Nat} {S M : mem}
def smk (S : mem) (u v i k : Nat) : Prop := S 8 u (2 * i + k) = S 8 v (2 * i + k) ∧ S 9 u (2 * i + k) = S 9 v (2 * i + k) ∧ S 10 u (2 * i + k) = S 10 v (2 * i + k)
def sme (S : mem) (u v i : Nat) : Prop := cn S u i = cn S v i ∧ ∀ k, k < cn S u i → smk S u v i k
theorem sameC (hn : 10 ≤ n) (h : RB N S M) {u v i : Nat} (hu : u < 4) (hv : v < 4) (hi : i < N) : (f_X2_hasSameSyllables n S u v (nI i) = some 1 ∧ sme S u v i) ∨ (f_X2_hasSameSyllables n S u v (nI i) = some 0 ∧ ¬ sme S u v i) := by
  have hN := h.1.2.2
  obtain ⟨hp, hc⟩ := nI_in' (i := i) (N := 60) (by omega) (by omega)
  have hlt : i < 60 := by omega
  obtain ⟨c1, c2, -⟩ := h.c2 hu hi
  obtain ⟨d1, d2, -⟩ := h.c2 hv hi
  by_cases e : cn S u i = cn S v i
  · have key : ∃ r, lp (b_X2_hasSameSyllables_24 n S u v (nI i) (nI (2 * i))) n (nI (2 * i)) = some r ∧ ((r = 1 ∧ sme S u v i) ∨ (r = 0 ∧ ¬ sme S u v i)) := by
      refine lp_up (I := fun k (q : Int32) => q = nI (2 * i + k) ∧ ∀ t, t < k → smk S u v i t) (Q := fun r => (r = 1 ∧ sme S u v i) ∨ (r = 0 ∧ ¬ sme S u v i)) (cn S u i) ?_ ?_ n 0 (nI (2 * i)) (by omega) (by omega) ⟨rfl, fun t ht => by omega⟩
      · rintro k q hk ⟨rfl, hq⟩
        obtain ⟨hp', hc'⟩ := nI_in' (i := 2 * i + k) (N := 120) (by omega) (by omega)
        have hl' : 2 * i + k < 120 := by omega
        have hle : ¬ nI (2 * i + cn S u i) ≤ nI (2 * i + k) := nI_ge (by omega) (by omega)
        by_cases a1 : S 8 u (2 * i + k) = S 8 v (2 * i + k)
        · by_cases a2 : S 9 u (2 * i + k) = S 9 v (2 * i + k)
          · by_cases a3 : S 10 u (2 * i + k) = S 10 v (2 * i + k)
            · left
              refine ⟨nI (2 * i + (k + 1)), by simp [b_X2_hasSameSyllables_24, grd, hp, hc, hlt, c2, nI_add, hle, hp', hc', hl', a1, a2, a3, nI_1]; rfl, rfl, fun t ht => ?_⟩
              by_cases et : t = k
              · subst et; exact ⟨a1, a2, a3⟩
              · exact hq t (by omega)
            · right
              exact ⟨0, by simp [b_X2_hasSameSyllables_24, grd, hp, hc, hlt, c2, nI_add, hle, hp', hc', hl', a1, a2, a3], Or.inr ⟨rfl, fun q => a3 (q.2 k hk).2.2⟩⟩
          · right
            exact ⟨0, by simp [b_X2_hasSameSyllables_24, grd, hp, hc, hlt, c2, nI_add, hle, hp', hc', hl', a1, a2], Or.inr ⟨rfl, fun q => a2 (q.2 k hk).2.1⟩⟩
        · right
          exact ⟨0, by simp [b_X2_hasSameSyllables_24, grd, hp, hc, hlt, c2, nI_add, hle, hp', hc', hl', a1], Or.inr ⟨rfl, fun q => a1 (q.2 k hk).1⟩⟩
      · rintro q ⟨rfl, hq⟩
        exact ⟨1, by simp [b_X2_hasSameSyllables_24, grd, hp, hc, hlt, c2, nI_add, Int32.le_refl], Or.inl ⟨rfl, e, hq⟩⟩
    obtain ⟨r, r1, r2⟩ := key
    have hf : f_X2_hasSameSyllables n S u v (nI i) = some r := by
      simp [f_X2_hasSameSyllables, grd, hp, hc, hlt, c2, d2, e, nI_2, r1]
    rw [hf]
    rcases r2 with ⟨rfl, r2⟩ | ⟨rfl, r2⟩
    · exact Or.inl ⟨rfl, r2⟩
    · exact Or.inr ⟨rfl, r2⟩
  · right
    have ne : ¬ nI (cn S u i) = nI (cn S v i) := fun q => e ((nI_eq (by omega) (by omega)).mp q)
    exact ⟨by simp [f_X2_hasSameSyllables, grd, hp, hc, hlt, c2, d2, ne], fun q => e q.1⟩
theorem ix8' (i u k : Nat) : (8 : Int32) * nI i + 2 * nI u + nI k = nI (8 * i + 2 * u + k) := by rw [nI_8, nI_add]
theorem sameM (hn : 10 ≤ n) (h : RB N S M) {u v i : Nat} (hu : u < 4) (hv : v < 4) (hi : i < N) : (f_X4_areAlikeAt n M (nI i) (nI u) (nI v) = some 1 ∧ sme S u v i) ∨ (f_X4_areAlikeAt n M (nI i) (nI u) (nI v) = some 0 ∧ ¬ sme S u v i) := by
  have hN := h.1.2.2
  obtain ⟨hp, hc⟩ := nI_in' (i := 4 * i + u) (N := 240) (by omega) (by omega)
  obtain ⟨hp', hc'⟩ := nI_in' (i := 4 * i + v) (N := 240) (by omega) (by omega)
  have hlt : 4 * i + u < 240 := by omega
  have hlt' : 4 * i + v < 240 := by omega
  obtain ⟨c1, -, c2⟩ := h.c2 hu hi
  obtain ⟨d1, -, d2⟩ := h.c2 hv hi
  have stop : ∀ m x, 1 ≤ m → lp (b_X4_areAlikeAt_33 n M (nI i) (nI u) (nI v)) m (0, x) = some 0 := by
    intro m x hm
    obtain ⟨m, rfl⟩ : ∃ m', m = m' + 1 := ⟨m - 1, by omega⟩
    exact lp_end (by simp [b_X4_areAlikeAt_33, grd])
  by_cases e : cn S u i = cn S v i
  · have key : ∀ (j m k : Nat), k + j = cn S u i → j + 1 < m → (∀ t, t < k → smk S u v i t) → ∃ r, lp (b_X4_areAlikeAt_33 n M (nI i) (nI u) (nI v)) m (1, nI k) = some r ∧ ((r = 1 ∧ sme S u v i) ∨ (r = 0 ∧ ¬ sme S u v i)) := by
      intro j
      induction j with
      | zero =>
        intro m k hk hm hq
        obtain ⟨m, rfl⟩ : ∃ m', m = m' + 1 := ⟨m - 1, by omega⟩
        have hk' : k = cn S u i := by omega
        subst hk'
        exact ⟨1, lp_end (by simp [b_X4_areAlikeAt_33, grd, ix4, hp, hc, hlt, c2, Int32.le_refl]), Or.inl ⟨rfl, e, hq⟩⟩
      | succ j ih =>
        intro m k hk hm hq
        obtain ⟨m, rfl⟩ : ∃ m', m = m' + 1 := ⟨m - 1, by omega⟩
        have hle : ¬ nI (cn S u i) ≤ nI k := nI_ge (by omega) (by omega)
        obtain ⟨a1, a2, a3, -⟩ := (h.2.2.1.1 u i hu hi).2.2 k (by omega)
        obtain ⟨b1, b2, b3, -⟩ := (h.2.2.1.1 v i hv hi).2.2 k (by omega)
        obtain ⟨hpu, hcu⟩ := nI_in' (i := 8 * i + 2 * u + k) (N := 480) (by omega) (by omega)
        obtain ⟨hpv, hcv⟩ := nI_in' (i := 8 * i + 2 * v + k) (N := 480) (by omega) (by omega)
        have hlu : 8 * i + 2 * u + k < 480 := by omega
        have hlv : 8 * i + 2 * v + k < 480 := by omega
        by_cases q1 : S 8 u (2 * i + k) = S 8 v (2 * i + k)
        · by_cases q2 : S 9 u (2 * i + k) = S 9 v (2 * i + k)
          · by_cases q3 : S 10 u (2 * i + k) = S 10 v (2 * i + k)
            · obtain ⟨r, r1, r2⟩ := ih m (k + 1) (by omega) (by omega) (fun t ht => by
                by_cases et : t = k
                · subst et; exact ⟨q1, q2, q3⟩
                · exact hq t (by omega))
              refine ⟨r, (lp_go ?_).trans r1, r2⟩
              simp [b_X4_areAlikeAt_33, grd, ix4, hp, hc, hlt, c2, hle, ix8', hpu, hcu, hpv, hcv, hlu, hlv, ← a1, ← b1, q1, ← a2, ← b2, q2, ← a3, ← b3, q3, nI_1]
            · refine ⟨0, (lp_go ?_).trans (stop m (nI (k + 1)) (by omega)), Or.inr ⟨rfl, fun q => q3 (q.2 k (by omega)).2.2⟩⟩
              simp [b_X4_areAlikeAt_33, grd, ix4, hp, hc, hlt, c2, hle, ix8', hpu, hcu, hpv, hcv, hlu, hlv, ← a1, ← b1, q1, ← a2, ← b2, q2, ← a3, ← b3, q3, nI_1]
          · refine ⟨0, (lp_go ?_).trans (stop m (nI (k + 1)) (by omega)), Or.inr ⟨rfl, fun q => q2 (q.2 k (by omega)).2.1⟩⟩
            simp [b_X4_areAlikeAt_33, grd, ix4, hp, hc, hlt, c2, hle, ix8', hpu, hcu, hpv, hcv, hlu, hlv, ← a1, ← b1, q1, ← a2, ← b2, q2, nI_1]
        · refine ⟨0, (lp_go ?_).trans (stop m (nI (k + 1)) (by omega)), Or.inr ⟨rfl, fun q => q1 (q.2 k (by omega)).1⟩⟩
          simp [b_X4_areAlikeAt_33, grd, ix4, hp, hc, hlt, c2, hle, ix8', hpu, hcu, hpv, hcv, hlu, hlv, ← a1, ← b1, q1, nI_1]
    obtain ⟨r, r1, r2⟩ := key (cn S u i) n 0 (by omega) (by omega) (fun t ht => by omega)
    rw [nI_0] at r1
    have hf : f_X4_areAlikeAt n M (nI i) (nI u) (nI v) = some r := by
      simp [f_X4_areAlikeAt, grd, ix4, hp, hc, hlt, hp', hc', hlt', c2, d2, e, r1]
    rw [hf]
    rcases r2 with ⟨rfl, r2⟩ | ⟨rfl, r2⟩
    · exact Or.inl ⟨rfl, r2⟩
    · exact Or.inr ⟨rfl, r2⟩
  · right
    have ne : ¬ nI (cn S u i) = nI (cn S v i) := fun q => e ((nI_eq (by omega) (by omega)).mp q)
    exact ⟨by simp [f_X4_areAlikeAt, grd, ix4, hp, hc, hlt, hp', hc', hlt', c2, d2, ne, stop n 0 (by omega)], fun q => e q.1⟩
theorem sumc_0 {v : Nat} : ∀ k, (∀ j, j < k → cn S v j = 0) → sumc S v k = 0
  | 0, _ => rfl
  | k + 1, h => by rw [sumc, sumc_0 k (fun j hj => h j (by omega)), h k (by omega)]
theorem hbB (hn : 100 ≤ n) (h : R N S M) {v : Nat} (hv : v < 4) : (f_X2_hasBoxes n S v = some 0 ∧ f_X4_hasBoxes n M (nI v) = some 0) ∨ (f_X2_hasBoxes n S v = some 1 ∧ f_X4_hasBoxes n M (nI v) = some 1) := by
  have hN := h.1.2.2
  have h4s := h.2.2.2.2.2.1 v hv
  rcases boxesAll (n := n) hn h.rb hv with ⟨b1, b2⟩ | ⟨b1, j, b2, b3⟩
  · left
    rw [sumc_0 N b2] at h4s
    exact ⟨by simp [f_X2_hasBoxes, h4s, show nI 0 ≤ 0 by decide], b1⟩
  · right
    have q1 := sumc_ge (S := S) (v := v) N b2
    have q2 := sumc_le h.2.2.2.2.1 hv N (Nat.le_refl _)
    have q3 : ¬ nI (sumc S v N) ≤ 0 := nI_nle (by omega) (by omega)
    exact ⟨by simp [f_X2_hasBoxes, h4s, q3], b1⟩
theorem alikeC (hn : 100 ≤ n) (h : R N S M) {u v : Nat} (hu : u < 4) (hv : v < 4) : ∃ r, lp (b_X3_areAlike_42 n S u v) n 0 = some r ∧ ((r = 1 ∧ ∀ i, i < N → M 8 0 i = -1000009 → sme S u v i) ∨ (r = 0 ∧ ∃ i, i < N ∧ M 8 0 i = -1000009 ∧ ¬ sme S u v i)) := by
  obtain ⟨hS, hM, hN⟩ := h.1
  refine lp_up (I := fun k (q : Int32) => q = nI k ∧ ∀ i, i < k → M 8 0 i = -1000009 → sme S u v i) (Q := fun r => (r = 1 ∧ ∀ i, i < N → M 8 0 i = -1000009 → sme S u v i) ∨ (r = 0 ∧ ∃ i, i < N ∧ M 8 0 i = -1000009 ∧ ¬ sme S u v i)) N ?_ ?_ n 0 0 (by omega) (by omega) ⟨rfl, fun i hi => by omega⟩
  · rintro k q hk ⟨rfl, hq⟩
    have hle : ¬ nI N ≤ nI k := nI_ge hk (by omega)
    obtain ⟨hp, hc⟩ := nI_in' (i := k) (N := 60) (by omega) (by omega)
    have hlt : k < 60 := by omega
    rcases h.2.2.2.1 k hk with ⟨m1, m2⟩ | ⟨f, f1, m1, m2⟩
    · rcases sameC (n := n) (by omega) h.rb hu hv hk with ⟨s1, s2⟩ | ⟨s1, s2⟩
      · left
        refine ⟨nI (k + 1), by simp [b_X3_areAlike_42, hS, hle, grd, hp, hc, hlt, m1, cal, s1, nI_1], rfl, fun i hi hr => ?_⟩
        by_cases e : i = k
        · subst e; exact s2
        · exact hq i (by omega) hr
      · right
        exact ⟨0, by simp [b_X3_areAlike_42, hS, hle, grd, hp, hc, hlt, m1, cal, s1], Or.inr ⟨rfl, k, hk, m2, s2⟩⟩
    · left
      have q1 := nI_m1 (n := f) (by omega)
      have q2 := nI_none (n := f) (by omega)
      refine ⟨nI (k + 1), by simp [b_X3_areAlike_42, hS, hle, grd, hp, hc, hlt, m1, q1, nI_1], rfl, fun i hi hr => ?_⟩
      by_cases e : i = k
      · subst e; exact absurd (m2.symm.trans hr) q2
      · exact hq i (by omega) hr
  · rintro q ⟨rfl, hq⟩
    exact ⟨1, by simp [b_X3_areAlike_42, hS, Int32.le_refl], Or.inl ⟨rfl, hq⟩⟩
theorem alikeM0 (hn : 100 ≤ n) (h : R N S M) {x y : Int32} : lp (b_X4_areAlike_55 n M x y) n (0, 0) = some 0 := by
  obtain ⟨hS, hM, hN⟩ := h.1
  have key : ∃ r, lp (b_X4_areAlike_55 n M x y) n (0, 0) = some r ∧ r = 0 := by
    refine lp_up (I := fun k (q : Int32 × Int32) => q = (0, nI k)) (Q := fun r => r = 0) N ?_ ?_ n 0 (0, 0) (by omega) (by omega) rfl
    · rintro k q hk rfl
      left
      have hle : ¬ nI N ≤ nI k := nI_ge hk (by omega)
      exact ⟨(0, nI (k + 1)), by simp [b_X4_areAlike_55, hM, hle, nI_1], rfl⟩
    · rintro q rfl
      exact ⟨0, by simp [b_X4_areAlike_55, hM, Int32.le_refl, grd], rfl⟩
  obtain ⟨r, h1, rfl⟩ := key
  exact h1
theorem alikeM (hn : 100 ≤ n) (h : R N S M) {u v : Nat} (hu : u < 4) (hv : v < 4) : ∃ r, lp (b_X4_areAlike_55 n M (nI u) (nI v)) n (1, 0) = some r ∧ ((r = 1 ∧ ∀ i, i < N → M 8 0 i = -1000009 → sme S u v i) ∨ (r = 0 ∧ ∃ i, i < N ∧ M 8 0 i = -1000009 ∧ ¬ sme S u v i)) := by
  obtain ⟨hS, hM, hN⟩ := h.1
  refine lp_up (I := fun k (q : Int32 × Int32) => (q = (1, nI k) ∧ ∀ i, i < k → M 8 0 i = -1000009 → sme S u v i) ∨ (q = (0, nI k) ∧ ∃ i, i < N ∧ M 8 0 i = -1000009 ∧ ¬ sme S u v i)) (Q := fun r => (r = 1 ∧ ∀ i, i < N → M 8 0 i = -1000009 → sme S u v i) ∨ (r = 0 ∧ ∃ i, i < N ∧ M 8 0 i = -1000009 ∧ ¬ sme S u v i)) N ?_ ?_ n 0 (1, 0) (by omega) (by omega) (Or.inl ⟨rfl, fun i hi => by omega⟩)
  · rintro k q hk (⟨rfl, hq⟩ | ⟨rfl, hq⟩)
    · left
      have hle : ¬ nI N ≤ nI k := nI_ge hk (by omega)
      obtain ⟨hp, hc⟩ := nI_in' (i := k) (N := 60) (by omega) (by omega)
      have hlt : k < 60 := by omega
      by_cases m2 : M 8 0 k = -1000009
      · rcases sameM (n := n) (by omega) h.rb hu hv hk with ⟨s1, s2⟩ | ⟨s1, s2⟩
        · refine ⟨(1, nI (k + 1)), by simp [b_X4_areAlike_55, j_X4_areAlike_91, hM, hle, grd, hp, hc, hlt, m2, cal, s1, nI_1], Or.inl ⟨rfl, fun i hi hr => ?_⟩⟩
          by_cases e : i = k
          · subst e; exact s2
          · exact hq i (by omega) hr
        · exact ⟨(0, nI (k + 1)), by simp [b_X4_areAlike_55, hM, hle, grd, hp, hc, hlt, m2, cal, s1, nI_1], Or.inr ⟨rfl, k, hk, m2, s2⟩⟩
      · refine ⟨(1, nI (k + 1)), by simp [b_X4_areAlike_55, j_X4_areAlike_91, hM, hle, grd, hp, hc, hlt, m2, nI_1], Or.inl ⟨rfl, fun i hi hr => ?_⟩⟩
        by_cases e : i = k
        · subst e; exact absurd hr m2
        · exact hq i (by omega) hr
    · left
      have hle : ¬ nI N ≤ nI k := nI_ge hk (by omega)
      exact ⟨(0, nI (k + 1)), by simp [b_X4_areAlike_55, hM, hle, nI_1], Or.inr ⟨rfl, hq⟩⟩
  · rintro q (⟨rfl, hq⟩ | ⟨rfl, hq⟩)
    · exact ⟨1, by simp [b_X4_areAlike_55, hM, Int32.le_refl, grd], Or.inl ⟨rfl, hq⟩⟩
    · exact ⟨0, by simp [b_X4_areAlike_55, hM, Int32.le_refl, grd], Or.inr ⟨rfl, hq⟩⟩
theorem alikeB (hn : 100 ≤ n) (h : R N S M) {u v : Nat} (hu : u < 4) (hv : v < 4) : (f_X3_areAlike n S u v = some 0 ∧ f_X4_areAlike n M (nI u) (nI v) = some 0) ∨ (f_X3_areAlike n S u v = some 1 ∧ f_X4_areAlike n M (nI u) (nI v) = some 1) := by
  obtain ⟨hpu, hcu⟩ := nI_in' hu (by omega)
  obtain ⟨hpv, hcv⟩ := nI_in' hv (by omega)
  have z := alikeM0 (n := n) hn h (x := nI u) (y := nI v)
  rcases hbB (n := n) hn h hu with ⟨a1, a2⟩ | ⟨a1, a2⟩
  · exact Or.inl ⟨by simp [f_X3_areAlike, a1, cal], by simp [f_X4_areAlike, a2, cal, z]⟩
  · rcases hbB (n := n) hn h hv with ⟨b1, b2⟩ | ⟨b1, b2⟩
    · exact Or.inl ⟨by simp [f_X3_areAlike, a1, b1, cal], by simp [f_X4_areAlike, a2, b2, cal, z]⟩
    · obtain ⟨u6, -, u7, -⟩ := h.2.2.2.2.2.2.1 u hu
      obtain ⟨v6, -, v7, -⟩ := h.2.2.2.2.2.2.1 v hv
      by_cases e6 : M 15 0 u = M 15 0 v
      · by_cases e7 : M 16 0 u = M 16 0 v
        · obtain ⟨r, r1, r2⟩ := alikeC (n := n) hn h hu hv
          obtain ⟨t, t1, t2⟩ := alikeM (n := n) hn h hu hv
          have q1 : f_X3_areAlike n S u v = some r := by simp [f_X3_areAlike, a1, b1, cal, u6, v6, e6, u7, v7, e7, r1]
          have q2 : f_X4_areAlike n M (nI u) (nI v) = some t := by simp [f_X4_areAlike, a2, b2, cal, grd, hpu, hcu, hu, hpv, hcv, hv, e6, e7, t1]
          rw [q1, q2]
          rcases r2 with ⟨rfl, r2⟩ | ⟨rfl, i, i1, i2, i3⟩
          · rcases t2 with ⟨rfl, t2⟩ | ⟨rfl, i, i1, i2, i3⟩
            · exact Or.inr ⟨rfl, rfl⟩
            · exact absurd (r2 i i1 i2) i3
          · rcases t2 with ⟨rfl, t2⟩ | ⟨rfl, -⟩
            · exact absurd (t2 i i1 i2) i3
            · exact Or.inl ⟨rfl, rfl⟩
        · exact Or.inl ⟨by simp [f_X3_areAlike, a1, b1, cal, u6, v6, e6, u7, v7, e7], by simp [f_X4_areAlike, a2, b2, cal, grd, hpu, hcu, hu, hpv, hcv, hv, e6, e7, z]⟩
      · exact Or.inl ⟨by simp [f_X3_areAlike, a1, b1, cal, u6, v6, e6], by simp [f_X4_areAlike, a2, b2, cal, grd, hpu, hcu, hu, hpv, hcv, hv, e6, z]⟩
theorem sharedB (hn : 100 ≤ n) (h : R N S M) {v : Nat} (hv : v < 4) : (f_X3_sharedVerse n S (nI v) = some (-1) ∧ f_X4_sharedWith n M (nI v) = some (-1000009)) ∨ ∃ u, u < v ∧ f_X3_sharedVerse n S (nI v) = some (nI u) ∧ f_X4_sharedWith n M (nI v) = some (nI u) := by
  obtain ⟨hpv, hcv⟩ := nI_in' hv (by omega)
  have key : ∃ r r', lp (b_X3_sharedVerse_2 n S (nI v)) n 0 = some r ∧ lp (b_X4_sharedWith_2 n M (nI v)) n 0 = some r' ∧ ((r = -1 ∧ r' = -1000009) ∨ ∃ u, u < v ∧ r = nI u ∧ r' = nI u) := by
    refine lp_two (I := fun u (q q' : Int32) => q = nI u ∧ q' = nI u) (Q := fun r r' => (r = -1 ∧ r' = -1000009) ∨ ∃ u, u < v ∧ r = nI u ∧ r' = nI u) v ?_ ?_ n 0 0 0 (by omega) (by omega) ⟨rfl, rfl⟩
    · rintro u q q' hu ⟨rfl, rfl⟩
      obtain ⟨hpu, hcu⟩ := nI_in' (i := u) (N := 4) (by omega) (by omega)
      have hle : ¬ nI v ≤ nI u := nI_ge hu (by omega)
      rcases alikeB (n := n) hn h (u := u) (by omega) hv with ⟨a1, a2⟩ | ⟨a1, a2⟩
      · left
        exact ⟨nI (u + 1), nI (u + 1), by simp [b_X3_sharedVerse_2, hle, grd, hpu, hcu, show u < 4 by omega, hpv, hcv, hv, cal, a1, nI_1], by simp [b_X4_sharedWith_2, hle, cal, a2, nI_1], rfl, rfl⟩
      · right
        exact ⟨nI u, nI u, by simp [b_X3_sharedVerse_2, hle, grd, hpu, hcu, show u < 4 by omega, hpv, hcv, hv, cal, a1], by simp [b_X4_sharedWith_2, hle, cal, a2], Or.inr ⟨u, hu, rfl, rfl⟩⟩
    · rintro q q' ⟨rfl, rfl⟩
      exact ⟨-1, -1000009, by simp [b_X3_sharedVerse_2, Int32.le_refl], by simp [b_X4_sharedWith_2, Int32.le_refl], Or.inl ⟨rfl, rfl⟩⟩
  obtain ⟨r, r', h1, h2, h3⟩ := key
  unfold f_X3_sharedVerse f_X4_sharedWith
  rw [h1, h2]
  rcases h3 with ⟨rfl, rfl⟩ | ⟨u, hu, rfl, rfl⟩
  · exact Or.inl ⟨rfl, rfl⟩
  · exact Or.inr ⟨u, hu, rfl, rfl⟩
theorem op_shares (hn : 100 ≤ n) (h : R N S M) (x : Int32) : opR S (f_X3_shares n S x) (f_X4_shares n M x) := by
  have hT := h.thr 0
  rcases isVerseC (n := n) S (mup M 0 0 0 0) x with ⟨e1, e2⟩ | ⟨v, hv, rfl, e1, e2⟩
  · exact ⟨-1000001, _, N, by simp [f_X3_shares, e1, cal], by simp [f_X4_shares, e2, cal], hT⟩
  · rcases sharedB (n := n) hn hT hv with ⟨a1, a2⟩ | ⟨u, hu, a1, a2⟩
    · exact ⟨-1000009, _, N, by simp [f_X3_shares, e1, cal, a1], by simp [f_X4_shares, e2, cal, a2], hT⟩
    · have q1 := nI_m1 (n := u) (by omega)
      exact ⟨nI u, _, N, by simp [f_X3_shares, e1, cal, a1, q1], by simp [f_X4_shares, e2, cal, a2], hT⟩
theorem rowB (hn : 100 ≤ n) (h : R N S M) {v : Nat} (hv : v < 4) : ∃ r, j_X3_row_41 n S (nI v) = some r ∧ j_X4_row_45 n M (nI v) = some (r, M) := by
  have key : ∃ r r', lp (b_X3_row_48 n S (nI v)) n (0, 0) = some r ∧ lp (b_X4_row_51 n M (nI v)) n (0, 0) = some r' ∧ r' = (r, M) := by
    refine lp_two (I := fun u (q q' : Int32 × Int32) => q = q' ∧ q.2 = nI u) (Q := fun r r' => r' = (r, M)) v ?_ ?_ n 0 (0, 0) (0, 0) (by omega) (by omega) ⟨rfl, rfl⟩
    · rintro u ⟨c, x⟩ q' hu ⟨rfl, hx⟩
      dsimp only at hx
      subst hx
      left
      obtain ⟨hpu, hcu⟩ := nI_in' (i := u) (N := 4) (by omega) (by omega)
      have hle : ¬ nI v ≤ nI u := nI_ge hu (by omega)
      rcases hbB (n := n) hn h (v := u) (by omega) with ⟨a1, a2⟩ | ⟨a1, a2⟩
      · exact ⟨(c, nI (u + 1)), (c, nI (u + 1)), by simp [b_X3_row_48, hle, grd, hpu, hcu, show u < 4 by omega, cal, a1, nI_1], by simp [b_X4_row_51, j_X4_row_82, hle, cal, a2, nI_1], rfl, rfl⟩
      · rcases sharedB (n := n) hn h (v := u) (by omega) with ⟨b1, b2⟩ | ⟨t, ht, b1, b2⟩
        · exact ⟨(c + 1, nI (u + 1)), (c + 1, nI (u + 1)), by simp [b_X3_row_48, hle, grd, hpu, hcu, show u < 4 by omega, cal, a1, b1, nI_1], by simp [b_X4_row_51, hle, cal, a2, b2, nI_1], rfl, rfl⟩
        · have q1 := nI_m1 (n := t) (by omega)
          have q2 := nI_none (n := t) (by omega)
          exact ⟨(c, nI (u + 1)), (c, nI (u + 1)), by simp [b_X3_row_48, hle, grd, hpu, hcu, show u < 4 by omega, cal, a1, b1, q1, nI_1], by simp [b_X4_row_51, j_X4_row_82, hle, cal, a2, b2, q2, nI_1], rfl, rfl⟩
    · rintro ⟨c, x⟩ q' ⟨rfl, hx⟩
      dsimp only at hx
      subst hx
      exact ⟨c, (c, M), by simp [b_X3_row_48, Int32.le_refl], by simp [b_X4_row_51, Int32.le_refl], rfl⟩
  obtain ⟨r, r', h1, h2, rfl⟩ := key
  exact ⟨r, h1, h2⟩
theorem op_row (hn : 100 ≤ n) (h : R N S M) (x : Int32) : opR S (f_X3_row n S x) (f_X4_row n M x) := by
  have hT := h.thr 0
  rcases isVerseC (n := n) S (mup M 0 0 0 0) x with ⟨e1, e2⟩ | ⟨v, hv, rfl, e1, e2⟩
  · exact ⟨-1000001, _, N, by simp [f_X3_row, e1, cal], by simp [f_X4_row, e2, cal], hT⟩
  · obtain ⟨hpv, hcv⟩ := nI_in' hv (by omega)
    rcases hbB (n := n) hn hT hv with ⟨a1, a2⟩ | ⟨a1, a2⟩
    · exact ⟨-1000009, _, N, by simp [f_X3_row, e1, cal, grd, hpv, hcv, hv, a1], by simp [f_X4_row, e2, cal, a2], hT⟩
    · rcases sharedB (n := n) hn hT hv with ⟨b1, b2⟩ | ⟨u, hu, b1, b2⟩
      · obtain ⟨r, r1, r2⟩ := rowB (n := n) hn hT hv
        exact ⟨r, _, N, by simp [f_X3_row, e1, cal, grd, hpv, hcv, hv, a1, b1, r1], by simp [f_X4_row, e2, cal, a2, b2, r2], hT⟩
      · have q1 := nI_m1 (n := u) (by omega)
        have q2 := nI_none (n := u) (by omega)
        obtain ⟨r, r1, r2⟩ := rowB (n := n) hn hT (v := u) (by omega)
        exact ⟨r, _, N, by simp [f_X3_row, e1, cal, grd, hpv, hcv, hv, a1, b1, q1, r1], by simp [f_X4_row, e2, cal, a2, b2, q2, r2], hT⟩
end Sh
