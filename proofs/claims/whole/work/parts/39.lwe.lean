section LwE
variable {p : Program} {l : Launch} {e : Env} {R : Room} {s : State} {m : MethodId} {args : Array Value} {below : List Frame} {meth : Method} {c : Code} {H : Heap} {locs : List Loc} {cells slots : Nat} {Q : State → Prop}
variable {cc : ByteArray} {pc nL : Nat} {ls : Array Slot} {rest st0 : List Value} {own : String} {g : cx} {am : Nat → Nat → Nat} {ao : Nat} {S M : mem} {o : Nat → Int64} {y' : MethodName} {b' : ByteArray} {n' index : Nat} {As : List Value} {q : Option Int32} {hh : List (Nat × Nat × Nat × Nat)}
/-- the law calls one of its catchers -/
theorem lwE {nn : Nat} (F : CallFix p m c cc nL s args TBg own) (B : LW g am ao S M o s H locs) (hM : Met l y' (wsW y' b' n' (some .int) hh) (rmK 8 1 6) (PcE g S ao o H.size As) (QcE g S ao o H.size q) 1 6 (Ax g ao H.size))
    (hcd : Cond.codeWith y' b' n' (some .int) hh ∈ TBg) (hlk : Cond.methodLink own index y' ∈ TBg) (hini : Cond.initialized y'.cls ∈ TBg) (hstt : Cond.static y' ∈ TBg) (hd : y'.cls ≠ "java/lang/invoke/MethodHandle" ∧ y'.cls ≠ "java/lang/invoke/VarHandle" ∧ (parseMethodDescriptor y'.desc).map (fun d => d.parameters.length) = some nn) (hR : 8 + 1 ≤ R.frames ∧ 8 + (n' + 11) + 320 ≤ R.locals) (hc1 : cells + 1 ≤ R.cells) (hs1 : slots + 6 ≤ R.slots) (hn : As.length = nn) (hsz : ls.size = nL) (hst : st0 = As.reverse ++ rest) (hw : (rest.map fun v => v.category).sum ≤ 8) (hdg : decode cc pc = .ok (.invokestatic index, 3))
    (kk : ∀ (H : Heap) (locs : List Loc), LW g am ao S M (ctO o q) s H locs → W p l e R s m args below meth c H locs (cells + 1) (slots + 6) Q (F0 m (pc + 3) ls (.int (ctR q) :: rest))) : W p l e R s m args below meth c H locs cells slots Q (F0 m pc ls st0) := by
  have hG : GoodIn TBg (va_wsS own index y' (wsW y' b' n' (some .int) hh)) := by
    intro w hw
    have hw' : w ∈ TBg := by
      rcases List.mem_append.mp hw with hw | hw
      · simp only [List.mem_cons, List.not_mem_nil, or_false] at hw
        rcases hw with rfl | rfl | rfl
        · exact hlk
        · exact hstt
        · exact hini
      · rcases List.mem_cons.mp hw with rfl | hw
        · exact hcd
        · exact hw
    exact ⟨hw', good_of_word (List.mem_filter.mp hw').2⟩
  have hAx : ∀ q, Ax g ao H.size q → s.heap.size ≤ q := fun q h => by
    rcases h with h | h
    · exact B.awC q h
    · rw [h]; exact B.2.2.2.2.2.2.1.2.2.1
  refine va_calli (vx_runSW (As := As) (rest := rest) F hM (vx_cwSW nn F.2.2.2.2 hG rfl rfl rfl hd hR) ⟨fun a U f mk h => ⟨h.1, h.2.1, h.2.2.1.calling, h.2.2.2.1, h.2.2.2.2.1, ExU.calling h.2.2.2.2.2⟩, fun U hU hW => ⟨rfl, by rw [hU], B.wuC hU hW, by rw [hU]; exact B.2.2.2.2.2.1, B.2.2.2.2.2.2.1.2.2.2.2.1, ExU.at hW B.2.2.2.2.2.2.2 (fun a h1 h2 => by rw [hU]; exact B.2.2.1.2.1 a h1 h2) hAx⟩⟩ rfl hn hsz hst (lv_room hw) hdg ⟨hc1, hs1⟩) B.2.2.1 (fun q _ h => hAx q h) hAx (fun r1 u t H1 locs1 ht _ hp hB _ hkk hS => ?_)
  subst hp
  obtain ⟨hB1, hB2⟩ := hB
  rw [ht] at hB1 hB2
  obtain ⟨b1, b2, b3, b4, b5, b6, b7, b8⟩ := B
  refine kk H1 locs1 ⟨b1, b2, hS, hB1, b5.kept fun k q hq => ?_, hB2, b7, b8⟩
  have hl := (b5 k q hq).lt
  obtain ⟨a, b, hab, e1⟩ := cwG_ix hq
  refine hkk q.1 hl fun h => ?_
  rcases h with (⟨k1, i1, h1, h2⟩ | h) | h
  · exact b7.2.2.2.1 k1 i1 a b h1 hab (h2.symm.trans e1)
  · omega
  · exact b7.2.2.2.2.2.1 a b hab (e1.symm.trans h)
end LwE
