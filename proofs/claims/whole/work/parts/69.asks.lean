/-! questions about placed boxes -/
def opT (S : mem) (a : Option (Option Int32)) (b : Option (Int32 × mem)) : Prop := ∃ q r M' N', a = some q ∧ b = some (r, M') ∧ M' 0 0 0 = ctR q ∧ (∀ x, q = some x → x = r) ∧ R N' S M'
theorem R.room {N : Nat} {S M : mem} (h : R N S M) (v : Int32) : R N S (mup M 0 0 21 v) := by
  obtain ⟨h0, h1, h2, h3, h4, h4s, h5, h6, h7, h8, h9, h10⟩ := h
  refine ⟨h0.cg ?_ ?_, h1.cg ?_ ?_ ?_ ?_ ?_ ?_ ?_ ?_, h2.cg ?_ ?_ ?_ ?_, h3.cg ?_ ?_, h4.cg ?_ ?_ ?_ ?_ ?_ ?_ ?_ ?_, h4s, h5.cg ?_ ?_ ?_ ?_, h6.cg ?_ ?_ ?_ ?_ ?_ ?_, h7.cg ?_ ?_ ?_ ?_ ?_ ?_ ?_ ?_ ?_ ?_, h8.cg ?_ ?_ ?_ ?_ ?_ ?_ ?_ ?_, h9.cg ?_ ?_ ?_ ?_ ?_ ?_ ?_ ?_, h10.cg ?_ ?_ ?_ ?_⟩ <;> (intros; simp [mup_at])
section Ask
variable {n N : Nat} {S M : mem}
theorem RB.ask (h : RB N S M) (x w : Int32) : (f_X3_isBox n S x w = some 0 ∧ f_X4_noBox n M x w = some 1) ∨ ∃ i v, i < N ∧ v < 4 ∧ x = nI i ∧ w = nI v ∧ 0 < cn S v i ∧ f_X3_isBox n S x w = some 1 ∧ f_X4_noBox n M x w = some 0 := by
  rcases isNoteC (n := n) h.1 x with ⟨e1, e2⟩ | ⟨i, hi, rfl, e1, e2⟩
  · exact Or.inl ⟨by simp [f_X3_isBox, e1, cal], by simp [f_X4_noBox, e2, cal]⟩
  · rcases isVerseC (n := n) S M w with ⟨e3, e4⟩ | ⟨v, hv, rfl, e3, e4⟩
    · exact Or.inl ⟨by simp [f_X3_isBox, e1, e3, cal], by simp [f_X4_noBox, e2, e4, cal]⟩
    · obtain ⟨hp, hc⟩ := nI_in' hv (by omega)
      have h1 := h.hasC (n := n) hv hi
      have h2 := h.boxM (n := n) hv hi
      by_cases e : cn S v i = 0
      · rw [if_pos e] at h1 h2
        exact Or.inl ⟨by simp [f_X3_isBox, e1, e3, cal, grd, hp, hc, hv, h1], by simp [f_X4_noBox, e2, e4, cal, h2]⟩
      · rw [if_neg e] at h1 h2
        exact Or.inr ⟨i, v, hi, hv, rfl, rfl, by omega, by simp [f_X3_isBox, e1, e3, cal, grd, hp, hc, hv, h1], by simp [f_X4_noBox, e2, e4, cal, h2]⟩
theorem bd04 {x : Int32} {b : Nat} (hb : b < 2 ^ 31) (h1 : ¬ x < 0) (h2 : ¬ nI b < x) : ∃ k, k ≤ b ∧ x = nI k := by
  obtain ⟨k, -, h3, h4⟩ := bd_of (a := 0) hb (by omega) h1 h2
  exact ⟨k, h3, h4⟩
theorem in04 {x : Int32} (h1 : ¬ x < 0) (h2 : ¬ 4 < x) : x = 0 ∨ x = 1 ∨ x = 2 ∨ x = 3 ∨ x = 4 := by
  obtain ⟨k, hk, rfl⟩ := bd04 (b := 4) (by omega) h1 h2
  rcases (show k = 0 ∨ k = 1 ∨ k = 2 ∨ k = 3 ∨ k = 4 by omega) with rfl | rfl | rfl | rfl | rfl <;> decide
theorem op_box (h : R N S M) (x w u : Int32) : opR S (f_X3_box n S x w u) (f_X4_box n M x w u) := by
  have hT := h.thr 0
  have hN := h.1.2.2
  have hb := hT.rb
  rcases hb.ask (n := n) x w with ⟨e1, e2⟩ | ⟨i, v, hi, hv, rfl, rfl, h0, e1, e2⟩
  · exact ⟨-1000001, _, N, by simp [f_X3_box, e1, cal], by simp [f_X4_box, e2, cal], hT⟩
  · rcases outC (n := n) S (mup M 0 0 0 0) u 0 4 with ⟨e3, e4⟩ | ⟨b1, b2, e3, e4⟩
    · exact ⟨-1000002, _, N, by simp [f_X3_box, e1, e3, cal], by simp [f_X4_box, e2, e4, cal], hT⟩
    · rcases h.2.2.2.2.2.2.2.2.1 with ⟨p1, p2⟩ | ⟨p1, p2, hpl⟩
      · exact ⟨-1000003, _, N, by simp [f_X3_box, e1, e3, cal, p1], by simp [f_X4_box, e2, e4, cal, p2], hT⟩
      · obtain ⟨l1, -, -, -, l2⟩ := hpl i hi
        have l2 := l2 v hv h0
        obtain ⟨hpv, hcv⟩ := nI_in' hv (by omega)
        obtain ⟨hpi, hci⟩ := nI_in' (i := i) (N := 60) (by omega) (by omega)
        obtain ⟨hp, hc⟩ := nI_in' (i := 4 * i + v) (N := 240) (by omega) (by omega)
        have hlt : 4 * i + v < 240 := by omega
        have hli : i < 60 := by omega
        have w1 := hb.widthC (n := n) hv hi h0
        have w2 := hb.wideM (n := n) hv hi h0
        have t1 := hb.endC (n := n) hv hi h0
        have t2 := hb.endM (n := n) hv hi h0
        have t3 : mup M 0 0 0 0 20 0 (4 * i + v) = M 20 0 (4 * i + v) := by simp [mup_at]
        rw [l2] at t1
        rw [t3] at t2
        have a1 := hb.tiedC (n := n) hv hi
        obtain ⟨c1, -, c3⟩ := h.rb.c2 hv hi
        have c4 := nI_c2 c1
        rcases in04 b1 b2 with rfl | rfl | rfl | rfl | rfl
        · exact ⟨M 20 0 (4 * i + v), _, N, by simp [f_X3_box, e1, e3, cal, p1, grd, hpv, hcv, hv, hpi, hci, hli, l2, nI_0], by simp [f_X4_box, e2, e4, cal, p2, grd, ix4, hp, hc, hlt, t2, nI_0], hT⟩
        · exact ⟨nI (bw S v i), _, N, by simp [f_X3_box, e1, e3, cal, p1, grd, hpv, hcv, hv, w1, show nI 1 = 1 from rfl], by simp [f_X4_box, e2, e4, cal, p2, grd, ix4, hp, hc, hlt, t2, w2, show nI 1 = 1 from rfl], hT⟩
        · by_cases e : cn S v i = 2
          · rw [if_pos e] at a1
            exact ⟨1, _, N, by simp [f_X3_box, e1, e3, cal, p1, grd, hpv, hcv, hv, a1, f_X3_asNumber, show nI 2 = 2 from rfl], by simp [f_X4_box, e2, e4, cal, p2, grd, ix4, hp, hc, hlt, t2, c3, c4, e, show nI 2 = 2 from rfl], hT⟩
          · rw [if_neg e] at a1
            exact ⟨0, _, N, by simp [f_X3_box, e1, e3, cal, p1, grd, hpv, hcv, hv, a1, f_X3_asNumber, show nI 2 = 2 from rfl], by simp [f_X4_box, e2, e4, cal, p2, grd, ix4, hp, hc, hlt, t2, c3, c4, e, show nI 2 = 2 from rfl], hT⟩
        · exact ⟨M 20 0 (4 * i + v) + nI (bw S v i), _, N, by simp [f_X3_box, e1, e3, cal, p1, grd, hpv, hcv, hv, t1, show nI 3 = 3 from rfl], by simp [f_X4_box, e2, e4, cal, p2, grd, ix4, hp, hc, hlt, t2, show nI 3 = 3 from rfl], hT⟩
        · rcases outD (n := n) S (mup M 0 0 0 0) (M 19 0 i) (M 20 0 (4 * i + v)) (M 20 0 (4 * i + v) + nI (bw S v i)) with ⟨o1, o2, -⟩ | ⟨o1, o1', o2, -⟩
          · refine ⟨0, _, N, by simp [f_X3_box, j_X3_box_137, e1, e3, cal, p1, grd, hpv, hcv, hv, hpi, hci, hli, l1, l2, t1, o2, f_X3_asNumber], ?_, hT⟩
            rcases o1 with o1 | o1
            · simp [f_X4_box, e2, e4, cal, p2, grd, ix4, hp, hc, hlt, t2, hpi, hci, hli, o1]
            · by_cases o3 : M 19 0 i < M 20 0 (4 * i + v)
              · simp [f_X4_box, e2, e4, cal, p2, grd, ix4, hp, hc, hlt, t2, hpi, hci, hli, o3]
              · simp [f_X4_box, e2, e4, cal, p2, grd, ix4, hp, hc, hlt, t2, hpi, hci, hli, o3, o1]
          · exact ⟨1, _, N, by simp [f_X3_box, j_X3_box_137, e1, e3, cal, p1, grd, hpv, hcv, hv, hpi, hci, hli, l1, l2, t1, o2, f_X3_asNumber], by simp [f_X4_box, e2, e4, cal, p2, grd, ix4, hp, hc, hlt, t2, hpi, hci, hli, o1, o1'], hT⟩
/-- the next box of a verse -/
def nxt (S : mem) (N v i : Nat) (o : Option Nat) : Prop := match o with
  | none => ∀ j, i < j → j < N → cn S v j = 0
  | some j => i < j ∧ j < N ∧ 0 < cn S v j ∧ ∀ t, i < t → t < j → cn S v t = 0
theorem nxt_u {v i : Nat} {o o' : Option Nat} (h : nxt S N v i o) (h' : nxt S N v i o') : o = o' := by
  cases o with
  | none =>
    cases o' with
    | none => rfl
    | some j =>
      obtain ⟨a, b, c, d⟩ := h'
      have := h j a b
      omega
  | some j =>
    obtain ⟨a, b, c, d⟩ := h
    cases o' with
    | none =>
      have := h' j a b
      omega
    | some k =>
      obtain ⟨a', b', c', d'⟩ := h'
      rcases Nat.lt_trichotomy j k with q | q | q
      · have := d' j a q; omega
      · rw [q]
      · have := d k a' q; omega
theorem nextC (hn : 100 ≤ n) (h : R N S M) {v i : Nat} (hv : v < 4) (hi : i < N) : ∃ o, nxt S N v i o ∧ f_X2_nextBox n S v (nI i) = some (match o with | none => -1 | some j => nI j) := by
  have hN := h.1.2.2
  have key : ∃ r, lp (b_X2_nextBox_4 n S v) n (nI (i + 1)) = some r ∧ ∃ o, nxt S N v i o ∧ r = (match o with | none => -1 | some j => nI j) := by
    refine lp_up (I := fun j (q : Int32) => q = nI j ∧ i < j ∧ ∀ t, i < t → t < j → cn S v t = 0) (Q := fun r => ∃ o, nxt S N v i o ∧ r = (match o with | none => -1 | some j => nI j)) 60 ?_ ?_ n (i + 1) (nI (i + 1)) (by omega) (by omega) ⟨rfl, by omega, fun t h1 h2 => by omega⟩
    · rintro j q hj ⟨rfl, h1, h2⟩
      have c7 := h.c7 (v := v) hv hj
      have hle : ¬ (60 : Int32) ≤ nI j := nI_ge (b := 60) hj (by omega)
      rcases hasBoxC (n := n) hj c7.1 c7.2.1 with ⟨z1, z2⟩ | ⟨z1, z2⟩
      · left
        refine ⟨nI (j + 1), by simp [b_X2_nextBox_4, hle, cal, z2, nI_1], rfl, by omega, fun t h3 h4 => ?_⟩
        by_cases e : t = j
        · subst e; exact z1
        · exact h2 t h3 (by omega)
      · right
        refine ⟨nI j, by simp [b_X2_nextBox_4, hle, cal, z2], some j, ⟨h1, ?_, z1, h2⟩, rfl⟩
        exact Nat.not_le.mp fun q => by have := c7.2.2 q; omega
    · rintro q ⟨rfl, h1, h2⟩
      exact ⟨-1, by simp [b_X2_nextBox_4, show (60 : Int32) ≤ nI 60 by decide], none, fun j a b => h2 j a (by omega), rfl⟩
  obtain ⟨r, h1, o, h2, rfl⟩ := key
  exact ⟨o, h2, by simp only [f_X2_nextBox, nI_1]; exact h1⟩
theorem nextM (hn : 100 ≤ n) (h : RB N S M) {v i : Nat} (hv : v < 4) (hi : i < N) : ∃ o, nxt S N v i o ∧ f_X4_other n M (nI i) (nI v) 1 = some (match o with | none => -1000009 | some j => nI j) := by
  have hN := h.1.2.2
  have key : ∃ r, lp (b_X4_other_5 n M (nI v) 1) n (nI (i + 1)) = some r ∧ ∃ o, nxt S N v i o ∧ r = (match o with | none => -1000009 | some j => nI j) := by
    refine lp_up (I := fun j (q : Int32) => q = nI j ∧ i < j ∧ ∀ t, i < t → t < j → cn S v t = 0) (Q := fun r => ∃ o, nxt S N v i o ∧ r = (match o with | none => -1000009 | some j => nI j)) N ?_ ?_ n (i + 1) (nI (i + 1)) (by omega) (by omega) ⟨rfl, by omega, fun t h1 h2 => by omega⟩
    · rintro j q hj ⟨rfl, h1, h2⟩
      have hle : ¬ nI N ≤ nI j := nI_ge hj (by omega)
      have hp : ¬ nI j < 0 := nI_pos (by omega)
      have z := h.boxM (n := n) hv hj
      by_cases e : cn S v j = 0
      · rw [if_pos e] at z
        left
        refine ⟨nI (j + 1), by simp only [b_X4_other_5, hp, h.1.2.1, hle, cal, z, if_false, if_true, nI_1], rfl, by omega, fun t h3 h4 => ?_⟩
        by_cases e : t = j
        · subst e; assumption
        · exact h2 t h3 (by omega)
      · rw [if_neg e] at z
        right
        refine ⟨nI j, ?_, some j, ⟨h1, hj, by omega, h2⟩, rfl⟩
        simp only [b_X4_other_5, j_X4_other_38, hp, h.1.2.1, hle, cal, z, if_false]
        rfl
    · rintro q ⟨rfl, h1, h2⟩
      have hp : ¬ nI N < 0 := nI_pos (by omega)
      have hle : nI N ≤ nI N := Int32.le_refl _
      exact ⟨-1000009, by simp only [b_X4_other_5, j_X4_other_38, hp, h.1.2.1, hle, if_false, if_true], none, fun j a b => h2 j a b, rfl⟩
  obtain ⟨r, h1, o, h2, rfl⟩ := key
  exact ⟨o, h2, by simp only [f_X4_other, nI_1]; exact h1⟩
theorem nextB (hn : 100 ≤ n) (h : R N S M) {v i : Nat} (hv : v < 4) (hi : i < N) : (f_X2_nextBox n S v (nI i) = some (-1) ∧ f_X4_other n M (nI i) (nI v) 1 = some (-1000009)) ∨ ∃ j, i < j ∧ j < N ∧ 0 < cn S v j ∧ f_X2_nextBox n S v (nI i) = some (nI j) ∧ f_X4_other n M (nI i) (nI v) 1 = some (nI j) := by
  obtain ⟨o, h1, h2⟩ := nextC (n := n) hn h hv hi
  obtain ⟨o', h3, h4⟩ := nextM (n := n) hn h.rb hv hi
  have e := nxt_u h1 h3
  subst e
  cases o with
  | none => exact Or.inl ⟨h2, h4⟩
  | some j => exact Or.inr ⟨j, h1.1, h1.2.1, h1.2.2.1, h2, h4⟩
end Ask
