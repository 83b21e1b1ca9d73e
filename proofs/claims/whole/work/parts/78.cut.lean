/-! cuts: the greatest values -/
def lnp (S : mem) (p : Nat) : Nat := (S 13 0 p).toNatClampNeg
def sgp (S : mem) (p : Nat) : Nat := (S 12 0 p).toNatClampNeg
def wpp (S : mem) (p : Nat) : Nat := (S 14 0 p).toNatClampNeg
def stB (S : mem) (T p q : Nat) : Bool := decide (q + lnp S p ≤ T + 2 ∧ ∀ j, j < lnp S p → S 15 0 (q + j) = nI (D (sgp S p) j))
def Ev (S : mem) (T p q i : Nat) : Nat := if stB S T p q = true ∧ q ≤ i ∧ i ≤ q + lnp S p then wpp S p / 10 ^ (i - q) % 10 else 0
def gq (S : mem) (T p i : Nat) : Nat → Nat
  | 0 => 0
  | q + 1 => max (gq S T p i q) (Ev S T p q i)
def gp (S : mem) (T i : Nat) : Nat → Nat
  | 0 => 0
  | p + 1 => max (gp S T i p) (gq S T p i (T + 2))
section Cu
variable {n T P : Nat} {S M : mem}
theorem Ev_le (p q i : Nat) : Ev S T p q i ≤ 9 := by
  unfold Ev
  split
  · have := Nat.mod_lt (wpp S p / 10 ^ (i - q)) (show 0 < 10 by omega); omega
  · omega
theorem gq_le (p i : Nat) : ∀ q, gq S T p i q ≤ 9
  | 0 => by simp [gq]
  | q + 1 => by
    have := gq_le p i q
    have := Ev_le (S := S) (T := T) p q i
    rw [gq]; omega
theorem gp_le (i : Nat) : ∀ p, gp S T i p ≤ 9
  | 0 => by simp [gp]
  | p + 1 => by
    have := gp_le i p
    have := gq_le (S := S) (T := T) p i (T + 2)
    rw [gp]; omega
theorem gq_end (p i : Nat) {q : Nat} (h : T + 2 < q + lnp S p) : ∀ k, gq S T p i (q + k) = gq S T p i q
  | 0 => rfl
  | k + 1 => by
    show max (gq S T p i (q + k)) (Ev S T p (q + k) i) = _
    rw [gq_end p i h k]
    have : Ev S T p (q + k) i = 0 := by
      unfold Ev
      rw [if_neg]
      rintro ⟨a, -⟩
      have := (of_decide_eq_true a).1
      omega
    rw [this]; omega
/-- what class and reference know of patterns and word, the word framed -/
def Kw (S M : mem) (P T : Nat) : Prop := P ≤ 30 ∧ T ≤ 24 ∧ S 0 0 3 = nI P ∧ M 0 0 22 = nI P ∧ S 0 0 5 = nI T ∧ M 0 0 26 = nI T ∧ (∀ p, p < P → 1 ≤ lnp S p ∧ lnp S p ≤ 6 ∧ sgp S p < 2 ^ 30 ∧ wpp S p < 2 ^ 31 ∧ S 13 0 p = nI (lnp S p) ∧ M 23 0 p = nI (lnp S p) ∧ S 12 0 p = nI (sgp S p) ∧ S 14 0 p = nI (wpp S p) ∧ (∀ j, j < lnp S p → M 24 0 (6 * p + j) = nI (D (sgp S p) j)) ∧ ∀ j, j ≤ lnp S p → M 25 0 (7 * p + j) = nI (wpp S p / 10 ^ j % 10)) ∧ ∀ n i, i ≤ T + 1 → f_X4_signAt n M (nI i) = some (S 15 0 i)
def ag16 (S S' : mem) : Prop := ∀ a b c, ¬ a = 16 → S' a b c = S a b c
theorem standsC {S' : mem} (hn : 10 ≤ n) (hk : Kw S M P T) (ha : ag16 S S') {p q : Nat} (hp : p < P) (hq : q + lnp S p ≤ T + 2) : f_X0_standsAt n S' (nI p) (nI q) = some (if stB S T p q = true then 1 else 0) := by
  obtain ⟨k1, k2, -, -, -, -, k3, -⟩ := hk
  obtain ⟨l1, l2, l3, -, l4, -, l5, -⟩ := k3 p hp
  obtain ⟨hpp, hcp⟩ := nI_in' (i := p) (N := 30) (by omega) (by omega)
  have e13 : S' 13 0 p = nI (lnp S p) := (ha _ _ _ (by omega)).trans l4
  have e12 : S' 12 0 p = nI (sgp S p) := (ha _ _ _ (by omega)).trans l5
  have key : ∃ r, lp (b_X0_standsAt_2 n S' (nI p) (nI q)) n 0 = some r ∧ r = if stB S T p q = true then 1 else 0 := by
    refine lp_up (I := fun j (x : Int32) => x = nI j ∧ ∀ t, t < j → S 15 0 (q + t) = nI (D (sgp S p) t)) (Q := fun r => r = if stB S T p q = true then 1 else 0) (lnp S p) ?_ ?_ n 0 0 (by omega) (by omega) ⟨rfl, fun t h => by omega⟩
    · rintro j x hj ⟨rfl, g⟩
      have hle : ¬ nI (lnp S p) ≤ nI j := nI_ge hj (by omega)
      obtain ⟨hpq, hcq⟩ := nI_in' (i := q + j) (N := 26) (by omega) (by omega)
      have hs : f_X0_signAt n S' (Int32.toInt64 (nI (sgp S p))) (nI j) = some (nI (D (sgp S p) j)) := by
        rw [nI_l (by omega)]
        exact signC (by omega) (by omega)
      have e15 : S' 15 0 (q + j) = S 15 0 (q + j) := ha _ _ _ (by omega)
      by_cases e : S 15 0 (q + j) = nI (D (sgp S p) j)
      · left
        refine ⟨nI (j + 1), by simp [b_X0_standsAt_2, grd, hpp, hcp, show p < 30 by omega, e13, hle, nI_add, hpq, hcq, show q + j < 26 by omega, e12, cal, hs, e15, e, nI_1], rfl, fun t ht => ?_⟩
        by_cases et : t = j
        · subst et; exact e
        · exact g t (by omega)
      · right
        refine ⟨0, by simp [b_X0_standsAt_2, grd, hpp, hcp, show p < 30 by omega, e13, hle, nI_add, hpq, hcq, show q + j < 26 by omega, e12, cal, hs, e15, e], ?_⟩
        rw [if_neg (fun h => e ((of_decide_eq_true h).2 j hj))]
    · rintro x ⟨rfl, g⟩
      refine ⟨1, by simp [b_X0_standsAt_2, grd, hpp, hcp, show p < 30 by omega, e13, Int32.le_refl], ?_⟩
      have hst : stB S T p q = true := decide_eq_true ⟨hq, g⟩
      rw [if_pos hst]
  obtain ⟨r, r1, rfl⟩ := key
  exact r1
theorem raiseC {S' : mem} (hn : 10 ≤ n) (hk : Kw S M P T) (ha : ag16 S S') {p q : Nat} {f : Nat → Nat} (hp : p < P) (hq : q + lnp S p ≤ T + 2) (hf : ∀ i, i ≤ T + 2 → S' 16 0 i = nI (f i) ∧ f i ≤ 9) : ∃ S2, f_X0_raiseValues n S' (nI p) (nI q) = some S2 ∧ ag16 S S2 ∧ ∀ i, i ≤ T + 2 → S2 16 0 i = nI (if q ≤ i ∧ i ≤ q + lnp S p then max (f i) (wpp S p / 10 ^ (i - q) % 10) else f i) := by
  obtain ⟨k1, k2, -, -, -, -, k3, -⟩ := hk
  obtain ⟨l1, l2, l3, lw, l4, -, l5, l6, -⟩ := k3 p hp
  obtain ⟨hpp, hcp⟩ := nI_in' (i := p) (N := 30) (by omega) (by omega)
  have e14 : S' 14 0 p = nI (wpp S p) := (ha _ _ _ (by omega)).trans l6
  have key : ∃ r, lp (b_X0_raiseValues_10 n (nI p) (nI q)) n (nI (wpp S p), 0, S') = some r ∧ ag16 S r ∧ ∀ i, i ≤ T + 2 → r 16 0 i = nI (if q ≤ i ∧ i ≤ q + lnp S p then max (f i) (wpp S p / 10 ^ (i - q) % 10) else f i) := by
    refine lp_up (I := fun j (x : Int32 × Int32 × mem) => ∃ S2, x = (nI (wpp S p / 10 ^ j), nI j, S2) ∧ ag16 S S2 ∧ ∀ i, i ≤ T + 2 → S2 16 0 i = nI (if q ≤ i ∧ i < q + j then max (f i) (wpp S p / 10 ^ (i - q) % 10) else f i)) (Q := fun r => ag16 S r ∧ ∀ i, i ≤ T + 2 → r 16 0 i = nI (if q ≤ i ∧ i ≤ q + lnp S p then max (f i) (wpp S p / 10 ^ (i - q) % 10) else f i)) (lnp S p + 1) ?_ ?_ n 0 (nI (wpp S p), 0, S') (by omega) (by omega) ⟨S', by simp; rfl, ha, fun i hi => by rw [if_neg (by omega)]; exact (hf i hi).1⟩
    · rintro j x hj ⟨S2, rfl, g1, g2⟩
      left
      have e13 : S2 13 0 p = nI (lnp S p) := (g1 _ _ _ (by omega)).trans l4
      have hlt : ¬ nI (lnp S p) < nI j := nI_nlt (by omega) (by omega)
      obtain ⟨hpq, hcq⟩ := nI_in' (i := q + j) (N := 27) (by omega) (by omega)
      have hd : wpp S p / 10 ^ j < 2 ^ 31 := Nat.lt_of_le_of_lt (Nat.div_le_self _ _) lw
      have d10 : nI (wpp S p / 10 ^ j) / 10 = nI (wpp S p / 10 ^ (j + 1)) := by
        rw [show (10 : Int32) = nI 10 from rfl, pk_div hd (by omega) (by omega), Nat.div_div_eq_div_mul, Nat.pow_succ]
      have r10 : nI (wpp S p / 10 ^ j) - nI (wpp S p / 10 ^ (j + 1)) * 10 = nI (wpp S p / 10 ^ j % 10) := by
        rw [← d10]
        exact pk_rem hd (d := 10) (by omega) (by omega)
      have e16 : S2 16 0 (q + j) = nI (f (q + j)) := by rw [g2 _ (by omega), if_neg (by omega)]
      have hm := nI_max (a := f (q + j)) (b := wpp S p / 10 ^ j % 10) (by have := (hf (q + j) (by omega)).2; omega) (by have := Nat.mod_lt (wpp S p / 10 ^ j) (show 0 < 10 by omega); omega)
      refine ⟨(nI (wpp S p / 10 ^ (j + 1)), nI (j + 1), mup S2 16 0 (q + j) (nI (max (f (q + j)) (wpp S p / 10 ^ j % 10)))), by simp [b_X0_raiseValues_10, grd, hpp, hcp, show p < 30 by omega, e13, hlt, nI_add, hpq, hcq, show q + j < 27 by omega, d10, r10, e16, hm, nI_1], _, rfl, fun a b c h => by rw [mup_at, if_neg (by omega)]; exact g1 a b c h, fun i hi => ?_⟩
      by_cases ei : i = q + j
      · subst ei
        rw [mup_at, if_pos ⟨rfl, rfl, rfl⟩, if_pos (by omega), show q + j - q = j by omega]
      · rw [mup_at, if_neg (by omega), g2 i hi]
        by_cases c : q ≤ i ∧ i < q + j
        · rw [if_pos c, if_pos (by omega)]
        · rw [if_neg c, if_neg (by omega)]
    · rintro x ⟨S2, rfl, g1, g2⟩
      have e13 : S2 13 0 p = nI (lnp S p) := (g1 _ _ _ (by omega)).trans l4
      have hlt : nI (lnp S p) < nI (lnp S p + 1) := nI_lt (by omega) (by omega)
      refine ⟨S2, by simp [b_X0_raiseValues_10, grd, hpp, hcp, show p < 30 by omega, e13, hlt], g1, fun i hi => ?_⟩
      rw [g2 i hi]
      by_cases c : q ≤ i ∧ i ≤ q + lnp S p
      · rw [if_pos c, if_pos (by omega)]
      · rw [if_neg c, if_neg (by omega)]
  obtain ⟨r, r1, r2⟩ := key
  exact ⟨r, by simp [f_X0_raiseValues, grd, hpp, hcp, show p < 30 by omega, e14, r1], r2⟩
def wv (S S' : mem) (T p q : Nat) : Prop := ∀ i, i ≤ T + 2 → S' 16 0 i = nI (max (gp S T i p) (gq S T p i q))
theorem weighQ {S' : mem} (hn : 100 ≤ n) (hk : Kw S M P T) (ha : ag16 S S') {p : Nat} (hp : p < P) (hw : wv S S' T p 0) : ∃ r, lp (b_X0_weighPlaces_58 n (nI p)) n (0, S') = some r ∧ ∃ S2, r = .inl (nI (p + 1), S2) ∧ ag16 S S2 ∧ wv S S2 T (p + 1) 0 := by
  obtain ⟨k1, k2, k3, -, k5, -, k7, -⟩ := id hk
  obtain ⟨l1, l2, l3, lw, l4, -, l5, l6, -⟩ := k7 p hp
  obtain ⟨hpp, hcp⟩ := nI_in' (i := p) (N := 30) (by omega) (by omega)
  refine lp_up (I := fun q (x : Int32 × mem) => ∃ S2, x = (nI q, S2) ∧ ag16 S S2 ∧ wv S S2 T p q) (Q := fun r : (Int32 × mem) ⊕ ((Int32 × mem) ⊕ mem) => ∃ S2, r = .inl (nI (p + 1), S2) ∧ ag16 S S2 ∧ wv S S2 T (p + 1) 0) (T + 3 - lnp S p) ?_ ?_ n 0 (0, S') (by omega) (by omega) ⟨S', rfl, ha, hw⟩
  · rintro q x hq ⟨S2, rfl, g1, g2⟩
    left
    have e13 : S2 13 0 p = nI (lnp S p) := (g1 _ _ _ (by omega)).trans l4
    have e5 : S2 0 0 5 + 2 = nI (T + 2) := by rw [g1 _ _ _ (by omega), k5]; exact nI_add T 2
    have hlt : ¬ nI (T + 2) < nI q + nI (lnp S p) := by rw [nI_add]; exact nI_nlt (by omega) (by omega)
    have hs := standsC (n := n) (by omega) hk g1 hp (q := q) (by omega)
    by_cases e : stB S T p q = true
    · rw [if_pos e] at hs
      obtain ⟨S3, s1, s2, s3⟩ := raiseC (n := n) (by omega) hk g1 (p := p) (q := q) (f := fun i => max (gp S T i p) (gq S T p i q)) hp (by omega) (fun i hi => ⟨g2 i hi, by have := gp_le (S := S) (T := T) i p; have := gq_le (S := S) (T := T) p i q; omega⟩)
      refine ⟨(nI (q + 1), S3), by simp [b_X0_weighPlaces_58, grd, hpp, hcp, show p < 30 by omega, e5, e13, hlt, cal, hs, s1, nI_1], S3, rfl, s2, fun i hi => ?_⟩
      rw [s3 i hi, gq, Ev]
      by_cases c : q ≤ i ∧ i ≤ q + lnp S p
      · rw [if_pos c, if_pos ⟨e, c⟩, Nat.max_assoc]
      · rw [if_neg c, if_neg (fun h => c h.2), Nat.max_zero]
    · rw [if_neg e] at hs
      refine ⟨(nI (q + 1), S2), by simp [b_X0_weighPlaces_58, grd, hpp, hcp, show p < 30 by omega, e5, e13, hlt, cal, hs, nI_1], S2, rfl, g1, fun i hi => ?_⟩
      rw [g2 i hi, gq, Ev, if_neg (fun h => e h.1), Nat.max_zero]
  · rintro x ⟨S2, rfl, g1, g2⟩
    have e13 : S2 13 0 p = nI (lnp S p) := (g1 _ _ _ (by omega)).trans l4
    have e5 : S2 0 0 5 + 2 = nI (T + 2) := by rw [g1 _ _ _ (by omega), k5]; exact nI_add T 2
    have hlt : nI (T + 2) < nI (T + 3 - lnp S p) + nI (lnp S p) := by rw [nI_add]; exact nI_lt (by omega) (by omega)
    refine ⟨_, by simp [b_X0_weighPlaces_58, grd, hpp, hcp, show p < 30 by omega, e5, e13, hlt, nI_1], S2, rfl, g1, fun i hi => ?_⟩
    rw [g2 i hi, gp, gq, Nat.max_zero]
    have := gq_end (S := S) (T := T) p i (q := T + 3 - lnp S p) (by omega) (T + 2 - (T + 3 - lnp S p))
    rw [show T + 3 - lnp S p + (T + 2 - (T + 3 - lnp S p)) = T + 2 by omega] at this
    rw [this]
theorem weighP {S' : mem} (hn : 100 ≤ n) (hk : Kw S M P T) (ha : ag16 S S') (hw : wv S S' T 0 0) : ∃ r, lp (b_X0_weighPlaces_48 n) n (0, S') = some r ∧ ∃ S2, r = .inr S2 ∧ ag16 S S2 ∧ ∀ i, i ≤ T + 2 → S2 16 0 i = nI (gp S T i P) := by
  obtain ⟨k1, k2, k3, -⟩ := id hk
  refine lp_up (I := fun p (x : Int32 × mem) => ∃ S2, x = (nI p, S2) ∧ ag16 S S2 ∧ wv S S2 T p 0) (Q := fun r : (Int32 × mem) ⊕ mem => ∃ S2, r = .inr S2 ∧ ag16 S S2 ∧ ∀ i, i ≤ T + 2 → S2 16 0 i = nI (gp S T i P)) P ?_ ?_ n 0 (0, S') (by omega) (by omega) ⟨S', rfl, ha, hw⟩
  · rintro p x hp ⟨S2, rfl, g1, g2⟩
    left
    have e3 : S2 0 0 3 = nI P := (g1 _ _ _ (by omega)).trans k3
    have hle : ¬ nI P ≤ nI p := nI_ge hp (by omega)
    obtain ⟨r, r1, S3, rfl, r2, r3⟩ := weighQ (n := n) hn hk g1 hp g2
    exact ⟨_, by simp [b_X0_weighPlaces_48, e3, hle, r1], S3, rfl, r2, r3⟩
  · rintro x ⟨S2, rfl, g1, g2⟩
    have e3 : S2 0 0 3 = nI P := (g1 _ _ _ (by omega)).trans k3
    refine ⟨_, by simp [b_X0_weighPlaces_48, e3, Int32.le_refl], S2, rfl, g1, fun i hi => ?_⟩
    rw [g2 i hi, gq, Nat.max_zero]
theorem weighC (hn : 100 ≤ n) (hk : Kw S M P T) (hS0 : mem) (h5 : hS0 0 0 5 = nI T) (hS : S = mup (mup hS0 15 0 0 27) 15 0 (T + 1) 27) : ∃ S2, f_X0_weighPlaces n hS0 = some S2 ∧ ag16 S S2 ∧ ∀ i, i ≤ T + 2 → S2 16 0 i = nI (gp S T i P) := by
  obtain ⟨k1, k2, k3, -, k5, -⟩ := id hk
  obtain ⟨hp1, hc1⟩ := nI_in' (i := T + 1) (N := 26) (by omega) (by omega)
  have key : ∃ r, lp (b_X0_weighPlaces_23 n) n (0, S) = some r ∧ ag16 S r ∧ ∀ i, i ≤ T + 2 → r 16 0 i = nI (gp S T i P) := by
    refine lp_up (I := fun i (x : Int32 × mem) => ∃ S2, x = (nI i, S2) ∧ ag16 S S2 ∧ ∀ t, t < i → S2 16 0 t = 0) (Q := fun r => ag16 S r ∧ ∀ i, i ≤ T + 2 → r 16 0 i = nI (gp S T i P)) (T + 3) ?_ ?_ n 0 (0, S) (by omega) (by omega) ⟨S, rfl, fun _ _ _ _ => rfl, fun t h => by omega⟩
    · rintro i x hi ⟨S2, rfl, g1, g2⟩
      left
      have e5 : S2 0 0 5 + 2 = nI (T + 2) := by rw [g1 _ _ _ (by omega), k5]; exact nI_add T 2
      have hlt : ¬ nI (T + 2) < nI i := nI_nlt (by omega) (by omega)
      obtain ⟨hp, hc⟩ := nI_in' (i := i) (N := 27) (by omega) (by omega)
      refine ⟨(nI (i + 1), mup S2 16 0 i 0), by simp [b_X0_weighPlaces_23, e5, hlt, grd, hp, hc, show i < 27 by omega, nI_1], _, rfl, fun a b c h => by rw [mup_at, if_neg (by omega)]; exact g1 a b c h, fun t ht => ?_⟩
      by_cases et : t = i
      · subst et; simp [mup_at]
      · rw [mup_at, if_neg (by omega)]; exact g2 t (by omega)
    · rintro x ⟨S2, rfl, g1, g2⟩
      have e5 : S2 0 0 5 + 2 = nI (T + 2) := by rw [g1 _ _ _ (by omega), k5]; exact nI_add T 2
      have hlt : nI (T + 2) < nI (T + 3) := nI_lt (by omega) (by omega)
      obtain ⟨r, r1, S3, rfl, r2, r3⟩ := weighP (n := n) hn hk g1 (fun i hi => by rw [g2 i (by omega)]; rfl)
      exact ⟨S3, by simp [b_X0_weighPlaces_23, e5, hlt, r1], r2, r3⟩
  obtain ⟨r, r1, r2⟩ := key
  refine ⟨r, ?_, r2⟩
  rw [hS] at r1
  simp [f_X0_weighPlaces, h5, nI_1, grd, hp1, hc1, show T + 1 < 26 by omega]
  exact ⟨by omega, r1⟩
end Cu
