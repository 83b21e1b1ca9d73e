/-! The pure side: small words -/
def bd (x : Int32) (lo hi : Nat) : Prop := ∃ a : Nat, lo ≤ a ∧ a ≤ hi ∧ x = nI a
theorem grd_t {β : Type} {c : Prop} [Decidable c] {x : Option β} (h : c) : grd c x = x := if_pos h
theorem grd_T {β : Type} {x : Option β} : grd True x = x := rfl
theorem cal_s {α β : Type} {a : α} {k : α → Option β} : cal (some a) k = k a := rfl
theorem cal_e {α β : Type} {x : Option α} {a : α} {k : α → Option β} (h : x = some a) : cal x k = k a := by rw [h]; rfl
theorem lp_s {σ ρ : Type} {body : σ → Option (σ ⊕ ρ)} {n : Nat} {q : σ} : lp body (n + 1) q = (match body q with
    | none => none
    | some (.inl q') => lp body n q'
    | some (.inr r) => some r) := rfl
theorem lp_go {σ ρ : Type} {body : σ → Option (σ ⊕ ρ)} {n : Nat} {q q' : σ} (h : body q = some (.inl q')) : lp body (n + 1) q = lp body n q' := by rw [lp_s, h]
theorem lp_end {σ ρ : Type} {body : σ → Option (σ ⊕ ρ)} {n : Nat} {q : σ} {r : ρ} (h : body q = some (.inr r)) : lp body (n + 1) q = some r := by rw [lp_s, h]
/-- a loop that counts up: from i to e by an invariant I of the state at each number -/
theorem lp_up {σ ρ : Type} {body : σ → Option (σ ⊕ ρ)} (I : Nat → σ → Prop) (Q : ρ → Prop) (e : Nat) (hs : ∀ i q, i < e → I i q → (∃ q', body q = some (.inl q') ∧ I (i + 1) q') ∨ ∃ r, body q = some (.inr r) ∧ Q r) (he : ∀ q, I e q → ∃ r, body q = some (.inr r) ∧ Q r) : ∀ (n i : Nat) (q : σ), i ≤ e → e - i < n → I i q → ∃ r, lp body n q = some r ∧ Q r := by
  intro n
  induction n with
  | zero => intro i q _ h; omega
  | succ n ih =>
    intro i q hi hn hI
    by_cases h : i = e
    · subst h
      obtain ⟨r, h1, h2⟩ := he q hI
      exact ⟨r, lp_end h1, h2⟩
    · rcases hs i q (by omega) hI with ⟨q', h1, h2⟩ | ⟨r, h1, h2⟩
      · obtain ⟨r, h3, h4⟩ := ih (i + 1) q' (by omega) (by omega) h2
        exact ⟨r, (lp_go h1).trans h3, h4⟩
      · exact ⟨r, lp_end h1, h2⟩
/-- a loop by a measure -/
theorem lp_me {σ ρ : Type} {body : σ → Option (σ ⊕ ρ)} (I : σ → Prop) (μ : σ → Nat) (Q : ρ → Prop) (hs : ∀ q, I q → (∃ q', body q = some (.inl q') ∧ I q' ∧ μ q' < μ q) ∨ ∃ r, body q = some (.inr r) ∧ Q r) : ∀ (n : Nat) (q : σ), μ q < n → I q → ∃ r, lp body n q = some r ∧ Q r := by
  intro n
  induction n with
  | zero => intro q h; omega
  | succ n ih =>
    intro q hn hI
    rcases hs q hI with ⟨q', h1, h2, h3⟩ | ⟨r, h1, h2⟩
    · obtain ⟨r, h4, h5⟩ := ih q' (by omega) h2
      exact ⟨r, (lp_go h1).trans h4, h5⟩
    · exact ⟨r, lp_end h1, h2⟩
theorem mup_at (S : mem) (k i j : Nat) (v : Int32) (a b c : Nat) : mup S k i j v a b c = if a = k ∧ b = i ∧ c = j then v else S a b c := by
  unfold mup
  by_cases h1 : a = k ∧ b = i
  · rw [if_pos h1]
    obtain ⟨rfl, rfl⟩ := h1
    by_cases h2 : c = j
    · simp [upd, h2]
    · simp [upd, h2]
  · rw [if_neg h1, if_neg (fun h => h1 ⟨h.1, h.2.1⟩)]
theorem nar01 {x : Int32} (h : x = 0 ∨ x = 1) : vp_nar .boolean x = x := by rcases h with rfl | rfl <;> rfl
theorem nI_lt0 {n : Nat} (h : n < 2 ^ 31) : (nI n < 0) ↔ False := ⟨nI_pos h, False.elim⟩
theorem nI_num (k : Nat) : (OfNat.ofNat k : Int32) = nI k := rfl
theorem in_n {i N : Nat} (h : i < N) (hN : N < 2 ^ 31) : ¬ (nI i < 0 ∨ N ≤ Int32.toNatClampNeg (nI i)) := fun q => q.elim (nI_pos (by omega)) (by rw [nI_clamp (by omega)]; omega)
/-- the memories are as one: how many notes there are -/
def G0 (N : Nat) (S M : mem) : Prop := S 3 0 4 = nI N ∧ M 0 0 1 = nI N ∧ N ≤ 60
theorem isNoteC {n N : Nat} {S M : mem} (h : G0 N S M) (x : Int32) : (f_X3_isNote n S x = some 0 ∧ f_X4_isNote n M x = some 0) ∨ ∃ i, i < N ∧ x = nI i ∧ f_X3_isNote n S x = some 1 ∧ f_X4_isNote n M x = some 1 := by
  obtain ⟨h1, h2, h3⟩ := h
  rcases pk_ix x (n := N) (by omega) with hx | hx | ⟨i, hi, rfl⟩
  · left
    refine ⟨by simp [f_X3_isNote, hx], ?_⟩
    simp [f_X4_isNote, f_X4_lies, hx, cal, grd]
  · left
    have h0 : ¬ x < 0 := fun q => absurd (Int32.le_trans hx (Int32.le_of_lt q)) (by
      intro q2
      cases N with
      | zero => exact absurd (Int32.lt_of_le_of_lt hx q) (by decide)
      | succ N => exact nI_nle (by omega) (by omega) q2)
    refine ⟨by simp [f_X3_isNote, h0, h1, hx], ?_⟩
    have h4 : nI N - 1 < x := by
      cases N with
      | zero => exact Int32.lt_of_lt_of_le (by decide) hx
      | succ N =>
        rw [nI_pred]
        exact Int32.lt_of_lt_of_le (nI_lt (by omega) (by omega)) hx
    simp [f_X4_isNote, f_X4_lies, h0, h2, h4, cal, grd]
  · right
    refine ⟨i, hi, rfl, ?_, ?_⟩
    · simp [f_X3_isNote, nI_pos (show i < 2 ^ 31 by omega), h1, nI_ge hi (by omega)]
    · have h4 : ¬ nI N - 1 < nI i := by
        cases N with
        | zero => omega
        | succ N =>
          rw [nI_pred]
          exact nI_nlt (by omega) (by omega)
      simp [f_X4_isNote, f_X4_lies, nI_pos (show i < 2 ^ 31 by omega), h2, h4, cal, grd]
theorem isVerseC {n : Nat} (S M : mem) (x : Int32) : (f_X3_isVerse n S x = some 0 ∧ f_X4_isVerse n M x = some 0) ∨ ∃ i, i < 4 ∧ x = nI i ∧ f_X3_isVerse n S x = some 1 ∧ f_X4_isVerse n M x = some 1 := by
  rcases pk_ix x (n := 4) (by omega) with hx | hx | ⟨i, hi, rfl⟩
  · left
    refine ⟨by simp [f_X3_isVerse, hx], ?_⟩
    simp [f_X4_isVerse, f_X4_lies, hx, cal, grd]
  · left
    have hx : (4 : Int32) ≤ x := hx
    have h0 : ¬ x < 0 := fun q => absurd (Int32.lt_of_le_of_lt hx q) (by decide)
    have h4 : (3 : Int32) < x := Int32.lt_of_lt_of_le (by decide) hx
    refine ⟨by simp [f_X3_isVerse, h0, hx], ?_⟩
    simp [f_X4_isVerse, f_X4_lies, h0, h4, cal, grd]
  · right
    refine ⟨i, hi, rfl, ?_, ?_⟩ <;> rcases (show i = 0 ∨ i = 1 ∨ i = 2 ∨ i = 3 by omega) with rfl | rfl | rfl | rfl <;> rfl
/-- a number within its bounds, or not: both tests say so -/
theorem outC {n : Nat} (S M : mem) (x a b : Int32) : (f_X3_isOutside n S x a b = some 1 ∧ f_X4_lies n M x a b = some 0) ∨ (¬ x < a ∧ ¬ b < x ∧ f_X3_isOutside n S x a b = some 0 ∧ f_X4_lies n M x a b = some 1) := by
  by_cases h1 : x < a
  · left
    exact ⟨by simp [f_X3_isOutside, h1], by simp [f_X4_lies, h1]⟩
  · by_cases h2 : b < x
    · left
      exact ⟨by simp [f_X3_isOutside, h1, Int32.not_le.mpr h2], by simp [f_X4_lies, h1, h2]⟩
    · right
      exact ⟨h1, h2, by simp [f_X3_isOutside, h1, Int32.not_lt.mp h2], by simp [f_X4_lies, h1, h2]⟩
theorem bd_of {x : Int32} {a b : Nat} (hb : b < 2 ^ 31) (ha : a ≤ b) (h1 : ¬ x < nI a) (h2 : ¬ nI b < x) : bd x a b := by
  have h0 : ¬ x < 0 := fun q => h1 (Int32.lt_of_lt_of_le q (nI_pos' (by omega)))
  obtain ⟨j, hj, rfl⟩ := nI_of h0
  refine ⟨j, ?_, ?_, rfl⟩
  · exact Nat.not_lt.mp fun q => h1 (nI_lt q (by omega))
  · exact Nat.not_lt.mp fun q => h2 (nI_lt q hj)
