/-! The world: cells by kind and number; a memory of ints by kind, number and slot. -/
abbrev mem : Type := Nat → Nat → Nat → Int32
/-- one int changes -/
def mup (S : mem) (k i j : Nat) (v : Int32) : mem := fun a b => if a = k ∧ b = i then upd (S k i) j v else S a b
/-- the tables' numbers, the array classes by a number, the addresses by kind and number -/
abbrev cx : Type := va_G × (Nat → ClassId) × (Nat → Nat → Nat)
abbrev enT : Type := cx → Nat → Nat → (Nat → Int32) → va_E
def cwG (ix : List (Nat × Nat)) (en : enT) (g : cx) (S : mem) : va_W := ix.map (fun q => (g.2.2 q.1 q.2, en g q.1 q.2 (S q.1 q.2)))
abbrev tysA (g : cx) : List (ClassId × FieldType) := [(g.2.1 0, .int), (g.2.1 1, .boolean), (g.2.1 2, .object "WordRows$Note"), (g.2.1 3, .object "WordRows$Verse"), (g.2.1 4, .long)]
theorem cwG_at {ix : List (Nat × Nat)} (en : enT) (g : cx) (S : mem) {k i : Nat} (h : (k, i) ∈ ix) : ∃ q : Nat, ix[q]? = some (k, i) ∧ (cwG ix en g S)[q]? = some (g.2.2 k i, en g k i (S k i)) := by
  obtain ⟨q, hq⟩ := List.getElem?_of_mem h
  exact ⟨q, hq, by simp [cwG, hq]⟩
theorem cwG_set {ix : List (Nat × Nat)} (nd : ix.Nodup) (en : enT) (g : cx) (S : mem) {k i q : Nat} (hq : ix[q]? = some (k, i)) (j : Nat) (v : Int32) : (cwG ix en g S).set q (g.2.2 k i, en g k i (upd (S k i) j v)) = cwG ix en g (mup S k i j v) := by
  have hl := (List.getElem?_eq_some_iff.mp hq).1
  apply List.ext_getElem?
  intro n
  by_cases hn : q = n
  · subst hn
    rw [List.getElem?_set_self (by simpa [cwG] using hl)]
    simp [cwG, hq, mup]
  · rw [List.getElem?_set_ne hn]
    simp only [cwG, List.getElem?_map]
    cases hm : ix[n]? with
    | none => rfl
    | some z =>
      obtain ⟨a, b⟩ := z
      have : ¬ (a = k ∧ b = i) := by
        rintro ⟨rfl, rfl⟩
        have hln := (List.getElem?_eq_some_iff.mp hm).1
        exact hn ((List.getElem?_inj hl nd).mp (hq.trans hm.symm))
      simp [mup, this]
theorem cwG_ad {ix : List (Nat × Nat)} {en : enT} {g : cx} {S S' : mem} {A : Nat → Prop} (h : va_D A (cwG ix en g S)) : va_D A (cwG ix en g S') := by
  refine ⟨fun i j p q hi hj e => ?_, fun k q hk => ?_⟩
  · simp only [cwG, List.getElem?_map, Option.map_eq_some_iff] at hi hj
    obtain ⟨a, ha, rfl⟩ := hi
    obtain ⟨b, hb, rfl⟩ := hj
    exact h.1 i j (g.2.2 a.1 a.2, en g a.1 a.2 (S a.1 a.2)) (g.2.2 b.1 b.2, en g b.1 b.2 (S b.1 b.2)) (by simp [cwG, ha]) (by simp [cwG, hb]) e
  · simp only [cwG, List.getElem?_map, Option.map_eq_some_iff] at hk
    obtain ⟨a, ha, rfl⟩ := hk
    exact h.2 k (g.2.2 a.1 a.2, en g a.1 a.2 (S a.1 a.2)) (by simp [cwG, ha])
/-- the words on nest mates -/
def isNest (w : Cond) : Bool := match w with
  | .fieldLinkNest _ _ _ _ _ _ => true
  | .methodLinkNest _ _ _ _ => true
  | .arrayOver (.object _) => true
  | .declares _ => true
  | .castable _ _ => true
  | _ => false
def nestW : List Cond := tables_1.filter isNest
def nestOK (U : State) : Prop := ∀ w ∈ nestW, va_Nw w U
theorem nestOK.warm {s U : State} (hW : s.WarmedH U.vm) (h : nestOK s) : nestOK U := by
  intro w hw
  have h1 := h w hw
  have h2 := (List.mem_filter.mp hw).2
  cases w <;> first | (simp [isNest] at h2; done) | exact va_Nw.warmF hW h1 | exact va_Nw.warmM hW h1 | exact va_Nw.warmD hW h1 | exact va_Nw.warmC hW h1 | (rename_i ty; cases ty <;> first | (simp [isNest] at h2; done) | exact va_AO.moved hW.alike h1)
theorem nestOK.same {s U : State} (hv : s.vm = U.vm) (h : nestOK s) : nestOK U := by
  intro w hw
  have h1 := h w hw
  have h2 := (List.mem_filter.mp hw).2
  cases w <;> first | (simp [isNest] at h2; done) | exact va_Nw.same rfl hv h1 | (rename_i ty; cases ty <;> first | (simp [isNest] at h2; done) | exact va_AO.moved (hv ▸ Vm.Alike.refl _) h1)
/-- the common words of all methods -/
def TBg : List Cond := lw_tbl.filter goodWord
def wsU (y : MethodName) (b : ByteArray) (n : Nat) (r : Option FieldType) : List Cond := .code y b n r :: TBg
theorem wsU_in {y : MethodName} {b : ByteArray} {n : Nat} {r : Option FieldType} {w : Cond} (h : w ∈ TBg) : w ∈ wsU y b n r := List.mem_cons_of_mem _ h
theorem wsU_good {y y' : MethodName} {b b' : ByteArray} {n n' : Nat} {r r' : Option FieldType} (h : Cond.code y' b' n' r' ∈ TBg) : GoodIn (wsU y b n r) (wsU y' b' n' r') := by
  intro w hw
  have hw' : w ∈ TBg := by
    rcases List.mem_cons.mp hw with rfl | hw
    · exact h
    · exact hw
  exact ⟨wsU_in hw', good_of_word (List.mem_filter.mp hw').2⟩
/-- the world as a method sees it on its way -/
def Wd (ix : List (Nat × Nat)) (en : enT) (g : cx) (S : mem) (A : Nat → Prop) (s : State) (H : Heap) (locs : List Loc) : Prop :=
  va_K g.1 vwCl (tysA g) s ∧ va_P g.1 vwCl (cwG ix en g S) H ∧ va_D A (cwG ix en g S) ∧ va_S A s.heap H locs ∧ nestOK s
/-- the world as a state holds it -/
def Wu (ix : List (Nat × Nat)) (en : enT) (g : cx) (S : mem) (U : State) : Prop :=
  va_K g.1 vwCl (tysA g) U ∧ va_P g.1 vwCl (cwG ix en g S) U.heap ∧ va_D (fun _ => True) (cwG ix en g S) ∧ nestOK U
/-- the cells that a method may write -/
def Aw (ix : List (Nat × Nat)) (g : cx) (sz : Nat) : Nat → Prop := fun q => (∃ k i : Nat, (k, i) ∈ ix ∧ q = g.2.2 k i) ∨ sz ≤ q
theorem Wu.calling {ix : List (Nat × Nat)} {en : enT} {g : cx} {S : mem} {U : State} {f : JFrame} {mk : MethodId} {a : Array Value} (h : Wu ix en g S U) : Wu ix en g S (U.calling f mk a) := ⟨va_K.moved (u := U) (U := U.calling f mk a) (Vm.Alike.refl U.vm) h.1, h.2.1, h.2.2.1, nestOK.same (s := U) (U := U.calling f mk a) rfl h.2.2.2⟩
theorem Wd.u {ix : List (Nat × Nat)} {en : enT} {g : cx} {S : mem} {A : Nat → Prop} {s U : State} {H : Heap} {locs : List Loc} (h : Wd ix en g S A s H locs) (hU : U.heap = H) (hW : s.WarmedH U.vm) : Wu ix en g S U := ⟨va_K.moved hW.alike h.1, by rw [hU]; exact h.2.1, h.2.2.1.weaken (fun _ _ _ _ => trivial), nestOK.warm hW h.2.2.2.2⟩
theorem Wu.d {ix : List (Nat × Nat)} {en : enT} {g : cx} {S : mem} {s : State} {sz : Nat} (h : Wu ix en g S s) (hz : s.heap.size = sz) : Wd ix en g S (Aw ix g sz) s s.heap [] := by
  refine ⟨h.1, h.2.1, ⟨h.2.2.1.1, fun k q hk => ?_⟩, va_S.rf, h.2.2.2⟩
  simp only [cwG, List.getElem?_map, Option.map_eq_some_iff] at hk
  obtain ⟨a, ha, rfl⟩ := hk
  exact Or.inl ⟨a.1, a.2, List.mem_of_getElem? ha, rfl⟩
