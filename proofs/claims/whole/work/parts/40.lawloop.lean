/-! THE CLAIM OUT OF ONE WALK OF THE LAW'S BODY. Your part is whole_start (and what it stands on); all else here is the same for every law, but numbers. -/
def R_law : String := "WordRowsLaw"
def lw_P (b : Addr) (xs : List Int32) (args : Array Value) (s : State) : Prop := args = #[.ref b] ∧ s.IntsAt b xs ∧ xs.length ≤ 3072 ∧ (Jvm.Cond.and given_1 narrow_1).before args s = true
def lw_Q (_ : Array Value) (s : State) (o : Outcome) (t : State) : Prop := o = .returned (some (.int 1)) ∧ Framed s o t [] 603072 7227498
def lw_Z (below : List Frame) (a : Array Value) (s : State) : State → Prop := fun t => ∃ o, t.status = .running ∧ Ended t below o ∧ lw_Q a s o t
/-- the law's own end, with 1 on the stack, nothing written that was there before, its room as the claim has it -/
theorem lw_ret {p : Program} {l : Launch} {e : Env} {s : State} {m : MethodId} {below : List Frame} {meth : Method} {c : Code} {b : Nat} (hx : p.tables.exec = Jvm.exec) (hb : c.code = code) (hr : meth.sig.returnType = ret) (hlocks : meth.locks = false) {pc : Nat} {H : Heap} {ls : Array Slot} (hdg : decode code pc = .ok (.ireturn, 1)) : W p l e room_1 s m #[Value.ref b] below meth c H [] 603072 7227498 (lw_Z below #[Value.ref b] s) (F0 m pc ls [.int 1]) := by
  intro T hT X
  obtain ⟨fs, hret, hrun, hended, hW, hframe⟩ := X.leave (v := some (.int 1)) (hlocks := hlocks) (fun h => by rw [hr] at h; cases h)
  have hmeth' : T.vm.method? m = some meth := X.method'
  refine ⟨T.setFrames fs, ?_, .returned (some (.int 1)), hrun, hended, rfl, ⟨_, rfl⟩, hW, hframe⟩
  jvm_step X.here [X.here.top, hx, hb, hdg, hmeth', hr, ret, narrow_b1]
  (try refine ⟨rfl, ?_⟩); (try refine ⟨rfl, ?_⟩)
  first | (intro acts; rw [hret _ acts rfl rfl rfl]) | rw [hret _ _ rfl rfl rfl]
  exact Steps.refl _
/-- what holds at the law's entry: the machine, the code, the tables' words (any of lw_tbl by 'hts w (by decide +kernel)'), the script of L ints xs at the cell b, what the Statement gives of the start (any of its parts by flat_of_before) -/
def lw_At (p : Program) (s : State) (m : MethodId) (meth : Method) (c : Code) (b L : Nat) (xs : Nat → Int32) : Prop :=
  p.tables.exec = Jvm.exec ∧ c.code = code ∧ meth.sig.returnType = ret ∧ c.maxLocals = 7 ∧ s.vm.findClass R_law = some m.cls ∧ (∀ w ∈ lw_tbl, w.before #[Value.ref b] s = true) ∧ va_X b L xs s s.heap ∧ b < s.heap.size ∧ meth.locks = false ∧ (Jvm.Cond.and given_1 narrow_1).before #[Value.ref b] s = true
theorem ok_X4_x : yX4_x.cls ≠ "java/lang/invoke/MethodHandle" ∧ yX4_x.cls ≠ "java/lang/invoke/VarHandle" ∧ (parseMethodDescriptor yX4_x.desc).map (fun d => d.parameters.length) = some 2 := by decide +kernel
theorem ok_X4_wipe : yX4_wipe.cls ≠ "java/lang/invoke/MethodHandle" ∧ yX4_wipe.cls ≠ "java/lang/invoke/VarHandle" ∧ (parseMethodDescriptor yX4_wipe.desc).map (fun d => d.parameters.length) = some 2 := by decide +kernel
theorem ok_X4_translation : yX4_translation.cls ≠ "java/lang/invoke/MethodHandle" ∧ yX4_translation.cls ≠ "java/lang/invoke/VarHandle" ∧ (parseMethodDescriptor yX4_translation.desc).map (fun d => d.parameters.length) = some 2 := by decide +kernel
theorem ok_X4_told : yX4_told.cls ≠ "java/lang/invoke/MethodHandle" ∧ yX4_told.cls ≠ "java/lang/invoke/VarHandle" ∧ (parseMethodDescriptor yX4_told.desc).map (fun d => d.parameters.length) = some 1 := by decide +kernel
theorem ok_X4_thrown : yX4_thrown.cls ≠ "java/lang/invoke/MethodHandle" ∧ yX4_thrown.cls ≠ "java/lang/invoke/VarHandle" ∧ (parseMethodDescriptor yX4_thrown.desc).map (fun d => d.parameters.length) = some 0 := by decide +kernel
theorem ok_X4_syllable : yX4_syllable.cls ≠ "java/lang/invoke/MethodHandle" ∧ yX4_syllable.cls ≠ "java/lang/invoke/VarHandle" ∧ (parseMethodDescriptor yX4_syllable.desc).map (fun d => d.parameters.length) = some 5 := by decide +kernel
theorem ok_X4_strain : yX4_strain.cls ≠ "java/lang/invoke/MethodHandle" ∧ yX4_strain.cls ≠ "java/lang/invoke/VarHandle" ∧ (parseMethodDescriptor yX4_strain.desc).map (fun d => d.parameters.length) = some 0 := by decide +kernel
theorem ok_X4_sides : yX4_sides.cls ≠ "java/lang/invoke/MethodHandle" ∧ yX4_sides.cls ≠ "java/lang/invoke/VarHandle" ∧ (parseMethodDescriptor yX4_sides.desc).map (fun d => d.parameters.length) = some 2 := by decide +kernel
theorem ok_X4_shares : yX4_shares.cls ≠ "java/lang/invoke/MethodHandle" ∧ yX4_shares.cls ≠ "java/lang/invoke/VarHandle" ∧ (parseMethodDescriptor yX4_shares.desc).map (fun d => d.parameters.length) = some 1 := by decide +kernel
theorem ok_X4_row : yX4_row.cls ≠ "java/lang/invoke/MethodHandle" ∧ yX4_row.cls ≠ "java/lang/invoke/VarHandle" ∧ (parseMethodDescriptor yX4_row.desc).map (fun d => d.parameters.length) = some 1 := by decide +kernel
theorem ok_X4_refrain : yX4_refrain.cls ≠ "java/lang/invoke/MethodHandle" ∧ yX4_refrain.cls ≠ "java/lang/invoke/VarHandle" ∧ (parseMethodDescriptor yX4_refrain.desc).map (fun d => d.parameters.length) = some 2 := by decide +kernel
theorem ok_X4_place : yX4_place.cls ≠ "java/lang/invoke/MethodHandle" ∧ yX4_place.cls ≠ "java/lang/invoke/VarHandle" ∧ (parseMethodDescriptor yX4_place.desc).map (fun d => d.parameters.length) = some 0 := by decide +kernel
theorem ok_X4_pattern : yX4_pattern.cls ≠ "java/lang/invoke/MethodHandle" ∧ yX4_pattern.cls ≠ "java/lang/invoke/VarHandle" ∧ (parseMethodDescriptor yX4_pattern.desc).map (fun d => d.parameters.length) = some 2 := by decide +kernel
theorem ok_X4_note : yX4_note.cls ≠ "java/lang/invoke/MethodHandle" ∧ yX4_note.cls ≠ "java/lang/invoke/VarHandle" ∧ (parseMethodDescriptor yX4_note.desc).map (fun d => d.parameters.length) = some 3 := by decide +kernel
theorem ok_X4_melisma : yX4_melisma.cls ≠ "java/lang/invoke/MethodHandle" ∧ yX4_melisma.cls ≠ "java/lang/invoke/VarHandle" ∧ (parseMethodDescriptor yX4_melisma.desc).map (fun d => d.parameters.length) = some 2 := by decide +kernel
theorem ok_X4_line : yX4_line.cls ≠ "java/lang/invoke/MethodHandle" ∧ yX4_line.cls ≠ "java/lang/invoke/VarHandle" ∧ (parseMethodDescriptor yX4_line.desc).map (fun d => d.parameters.length) = some 3 := by decide +kernel
theorem ok_X4_limit : yX4_limit.cls ≠ "java/lang/invoke/MethodHandle" ∧ yX4_limit.cls ≠ "java/lang/invoke/VarHandle" ∧ (parseMethodDescriptor yX4_limit.desc).map (fun d => d.parameters.length) = some 1 := by decide +kernel
theorem ok_X4_letter : yX4_letter.cls ≠ "java/lang/invoke/MethodHandle" ∧ yX4_letter.cls ≠ "java/lang/invoke/VarHandle" ∧ (parseMethodDescriptor yX4_letter.desc).map (fun d => d.parameters.length) = some 1 := by decide +kernel
theorem ok_X4_in : yX4_in.cls ≠ "java/lang/invoke/MethodHandle" ∧ yX4_in.cls ≠ "java/lang/invoke/VarHandle" ∧ (parseMethodDescriptor yX4_in.desc).map (fun d => d.parameters.length) = some 2 := by decide +kernel
theorem ok_X4_hyphens : yX4_hyphens.cls ≠ "java/lang/invoke/MethodHandle" ∧ yX4_hyphens.cls ≠ "java/lang/invoke/VarHandle" ∧ (parseMethodDescriptor yX4_hyphens.desc).map (fun d => d.parameters.length) = some 2 := by decide +kernel
theorem ok_X4_hyphen : yX4_hyphen.cls ≠ "java/lang/invoke/MethodHandle" ∧ yX4_hyphen.cls ≠ "java/lang/invoke/VarHandle" ∧ (parseMethodDescriptor yX4_hyphen.desc).map (fun d => d.parameters.length) = some 3 := by decide +kernel
theorem ok_X4_fault : yX4_fault.cls ≠ "java/lang/invoke/MethodHandle" ∧ yX4_fault.cls ≠ "java/lang/invoke/VarHandle" ∧ (parseMethodDescriptor yX4_fault.desc).map (fun d => d.parameters.length) = some 2 := by decide +kernel
theorem ok_X4_cuts : yX4_cuts.cls ≠ "java/lang/invoke/MethodHandle" ∧ yX4_cuts.cls ≠ "java/lang/invoke/VarHandle" ∧ (parseMethodDescriptor yX4_cuts.desc).map (fun d => d.parameters.length) = some 0 := by decide +kernel
theorem ok_X4_cut : yX4_cut.cls ≠ "java/lang/invoke/MethodHandle" ∧ yX4_cut.cls ≠ "java/lang/invoke/VarHandle" ∧ (parseMethodDescriptor yX4_cut.desc).map (fun d => d.parameters.length) = some 1 := by decide +kernel
theorem ok_X4_clear : yX4_clear.cls ≠ "java/lang/invoke/MethodHandle" ∧ yX4_clear.cls ≠ "java/lang/invoke/VarHandle" ∧ (parseMethodDescriptor yX4_clear.desc).map (fun d => d.parameters.length) = some 0 := by decide +kernel
theorem ok_X4_chord : yX4_chord.cls ≠ "java/lang/invoke/MethodHandle" ∧ yX4_chord.cls ≠ "java/lang/invoke/VarHandle" ∧ (parseMethodDescriptor yX4_chord.desc).map (fun d => d.parameters.length) = some 2 := by decide +kernel
theorem ok_X4_box : yX4_box.cls ≠ "java/lang/invoke/MethodHandle" ∧ yX4_box.cls ≠ "java/lang/invoke/VarHandle" ∧ (parseMethodDescriptor yX4_box.desc).map (fun d => d.parameters.length) = some 3 := by decide +kernel
theorem ok_X4_align : yX4_align.cls ≠ "java/lang/invoke/MethodHandle" ∧ yX4_align.cls ≠ "java/lang/invoke/VarHandle" ∧ (parseMethodDescriptor yX4_align.desc).map (fun d => d.parameters.length) = some 2 := by decide +kernel
theorem ok_X3_x : yX3_x.cls ≠ "java/lang/invoke/MethodHandle" ∧ yX3_x.cls ≠ "java/lang/invoke/VarHandle" ∧ (parseMethodDescriptor yX3_x.desc).map (fun d => d.parameters.length) = some 2 := by decide +kernel
theorem ok_X3_wipe : yX3_wipe.cls ≠ "java/lang/invoke/MethodHandle" ∧ yX3_wipe.cls ≠ "java/lang/invoke/VarHandle" ∧ (parseMethodDescriptor yX3_wipe.desc).map (fun d => d.parameters.length) = some 2 := by decide +kernel
theorem ok_X3_translation : yX3_translation.cls ≠ "java/lang/invoke/MethodHandle" ∧ yX3_translation.cls ≠ "java/lang/invoke/VarHandle" ∧ (parseMethodDescriptor yX3_translation.desc).map (fun d => d.parameters.length) = some 2 := by decide +kernel
theorem ok_X3_told : yX3_told.cls ≠ "java/lang/invoke/MethodHandle" ∧ yX3_told.cls ≠ "java/lang/invoke/VarHandle" ∧ (parseMethodDescriptor yX3_told.desc).map (fun d => d.parameters.length) = some 1 := by decide +kernel
theorem ok_X3_syllable : yX3_syllable.cls ≠ "java/lang/invoke/MethodHandle" ∧ yX3_syllable.cls ≠ "java/lang/invoke/VarHandle" ∧ (parseMethodDescriptor yX3_syllable.desc).map (fun d => d.parameters.length) = some 5 := by decide +kernel
theorem ok_X3_sides : yX3_sides.cls ≠ "java/lang/invoke/MethodHandle" ∧ yX3_sides.cls ≠ "java/lang/invoke/VarHandle" ∧ (parseMethodDescriptor yX3_sides.desc).map (fun d => d.parameters.length) = some 2 := by decide +kernel
theorem ok_X3_shares : yX3_shares.cls ≠ "java/lang/invoke/MethodHandle" ∧ yX3_shares.cls ≠ "java/lang/invoke/VarHandle" ∧ (parseMethodDescriptor yX3_shares.desc).map (fun d => d.parameters.length) = some 1 := by decide +kernel
theorem ok_X3_row : yX3_row.cls ≠ "java/lang/invoke/MethodHandle" ∧ yX3_row.cls ≠ "java/lang/invoke/VarHandle" ∧ (parseMethodDescriptor yX3_row.desc).map (fun d => d.parameters.length) = some 1 := by decide +kernel
theorem ok_X3_refrain : yX3_refrain.cls ≠ "java/lang/invoke/MethodHandle" ∧ yX3_refrain.cls ≠ "java/lang/invoke/VarHandle" ∧ (parseMethodDescriptor yX3_refrain.desc).map (fun d => d.parameters.length) = some 2 := by decide +kernel
theorem ok_X3_place : yX3_place.cls ≠ "java/lang/invoke/MethodHandle" ∧ yX3_place.cls ≠ "java/lang/invoke/VarHandle" ∧ (parseMethodDescriptor yX3_place.desc).map (fun d => d.parameters.length) = some 0 := by decide +kernel
theorem ok_X3_pattern : yX3_pattern.cls ≠ "java/lang/invoke/MethodHandle" ∧ yX3_pattern.cls ≠ "java/lang/invoke/VarHandle" ∧ (parseMethodDescriptor yX3_pattern.desc).map (fun d => d.parameters.length) = some 2 := by decide +kernel
theorem ok_X3_note : yX3_note.cls ≠ "java/lang/invoke/MethodHandle" ∧ yX3_note.cls ≠ "java/lang/invoke/VarHandle" ∧ (parseMethodDescriptor yX3_note.desc).map (fun d => d.parameters.length) = some 3 := by decide +kernel
theorem ok_X3_melisma : yX3_melisma.cls ≠ "java/lang/invoke/MethodHandle" ∧ yX3_melisma.cls ≠ "java/lang/invoke/VarHandle" ∧ (parseMethodDescriptor yX3_melisma.desc).map (fun d => d.parameters.length) = some 2 := by decide +kernel
theorem ok_X3_line : yX3_line.cls ≠ "java/lang/invoke/MethodHandle" ∧ yX3_line.cls ≠ "java/lang/invoke/VarHandle" ∧ (parseMethodDescriptor yX3_line.desc).map (fun d => d.parameters.length) = some 3 := by decide +kernel
theorem ok_X3_limit : yX3_limit.cls ≠ "java/lang/invoke/MethodHandle" ∧ yX3_limit.cls ≠ "java/lang/invoke/VarHandle" ∧ (parseMethodDescriptor yX3_limit.desc).map (fun d => d.parameters.length) = some 1 := by decide +kernel
theorem ok_X3_letter : yX3_letter.cls ≠ "java/lang/invoke/MethodHandle" ∧ yX3_letter.cls ≠ "java/lang/invoke/VarHandle" ∧ (parseMethodDescriptor yX3_letter.desc).map (fun d => d.parameters.length) = some 1 := by decide +kernel
theorem ok_X3_in : yX3_in.cls ≠ "java/lang/invoke/MethodHandle" ∧ yX3_in.cls ≠ "java/lang/invoke/VarHandle" ∧ (parseMethodDescriptor yX3_in.desc).map (fun d => d.parameters.length) = some 2 := by decide +kernel
theorem ok_X3_hyphens : yX3_hyphens.cls ≠ "java/lang/invoke/MethodHandle" ∧ yX3_hyphens.cls ≠ "java/lang/invoke/VarHandle" ∧ (parseMethodDescriptor yX3_hyphens.desc).map (fun d => d.parameters.length) = some 2 := by decide +kernel
theorem ok_X3_faults : yX3_faults.cls ≠ "java/lang/invoke/MethodHandle" ∧ yX3_faults.cls ≠ "java/lang/invoke/VarHandle" ∧ (parseMethodDescriptor yX3_faults.desc).map (fun d => d.parameters.length) = some 0 := by decide +kernel
theorem ok_X3_fault : yX3_fault.cls ≠ "java/lang/invoke/MethodHandle" ∧ yX3_fault.cls ≠ "java/lang/invoke/VarHandle" ∧ (parseMethodDescriptor yX3_fault.desc).map (fun d => d.parameters.length) = some 2 := by decide +kernel
theorem ok_X3_cuts : yX3_cuts.cls ≠ "java/lang/invoke/MethodHandle" ∧ yX3_cuts.cls ≠ "java/lang/invoke/VarHandle" ∧ (parseMethodDescriptor yX3_cuts.desc).map (fun d => d.parameters.length) = some 0 := by decide +kernel
theorem ok_X3_clear : yX3_clear.cls ≠ "java/lang/invoke/MethodHandle" ∧ yX3_clear.cls ≠ "java/lang/invoke/VarHandle" ∧ (parseMethodDescriptor yX3_clear.desc).map (fun d => d.parameters.length) = some 0 := by decide +kernel
theorem ok_X3_chord : yX3_chord.cls ≠ "java/lang/invoke/MethodHandle" ∧ yX3_chord.cls ≠ "java/lang/invoke/VarHandle" ∧ (parseMethodDescriptor yX3_chord.desc).map (fun d => d.parameters.length) = some 2 := by decide +kernel
theorem ok_X3_box : yX3_box.cls ≠ "java/lang/invoke/MethodHandle" ∧ yX3_box.cls ≠ "java/lang/invoke/VarHandle" ∧ (parseMethodDescriptor yX3_box.desc).map (fun d => d.parameters.length) = some 3 := by decide +kernel
theorem ok_X3_align : yX3_align.cls ≠ "java/lang/invoke/MethodHandle" ∧ yX3_align.cls ≠ "java/lang/invoke/VarHandle" ∧ (parseMethodDescriptor yX3_align.desc).map (fun d => d.parameters.length) = some 2 := by decide +kernel
theorem mM_L_29 : Cond.methodLink RL 29 yX3_note ∈ TBg := mem_TBg 249 (by decide +kernel) (by decide +kernel)
theorem mC_X3_note : Cond.code yX3_note cX3_note 4 (some .int) ∈ TBg := mem_TBg 252 (by decide +kernel) (by decide +kernel)
theorem mI_X3_note : Cond.instanceMethod yX3_note ∈ TBg := mem_TBg 250 (by decide +kernel) (by decide +kernel)
theorem mS_X3_note : Cond.selects RX3 yX3_note yX3_note ∈ TBg := mem_TBg 251 (by decide +kernel) (by decide +kernel)
theorem mM_L_33 : Cond.methodLink RL 33 yX4_note ∈ TBg := mem_TBg 793 (by decide +kernel) (by decide +kernel)
theorem mC_X4_note : Cond.code yX4_note cX4_note 5 (some .int) ∈ TBg := mem_TBg 796 (by decide +kernel) (by decide +kernel)
theorem mI_X4_note : Cond.instanceMethod yX4_note ∈ TBg := mem_TBg 794 (by decide +kernel) (by decide +kernel)
theorem mS_X4_note : Cond.selects RX4 yX4_note yX4_note ∈ TBg := mem_TBg 795 (by decide +kernel) (by decide +kernel)
theorem mM_L_34 : Cond.methodLink RL 34 yX3_syllable ∈ TBg := mem_TBg 262 (by decide +kernel) (by decide +kernel)
theorem mC_X3_syllable : Cond.code yX3_syllable cX3_syllable 6 (some .int) ∈ TBg := mem_TBg 265 (by decide +kernel) (by decide +kernel)
theorem mI_X3_syllable : Cond.instanceMethod yX3_syllable ∈ TBg := mem_TBg 263 (by decide +kernel) (by decide +kernel)
theorem mS_X3_syllable : Cond.selects RX3 yX3_syllable yX3_syllable ∈ TBg := mem_TBg 264 (by decide +kernel) (by decide +kernel)
theorem mM_L_38 : Cond.methodLink RL 38 yX4_syllable ∈ TBg := mem_TBg 803 (by decide +kernel) (by decide +kernel)
theorem mC_X4_syllable : Cond.code yX4_syllable cX4_syllable 7 (some .int) ∈ TBg := mem_TBg 806 (by decide +kernel) (by decide +kernel)
theorem mI_X4_syllable : Cond.instanceMethod yX4_syllable ∈ TBg := mem_TBg 804 (by decide +kernel) (by decide +kernel)
theorem mS_X4_syllable : Cond.selects RX4 yX4_syllable yX4_syllable ∈ TBg := mem_TBg 805 (by decide +kernel) (by decide +kernel)
theorem mM_L_39 : Cond.methodLink RL 39 yX3_wipe ∈ TBg := mem_TBg 287 (by decide +kernel) (by decide +kernel)
theorem mC_X3_wipe : Cond.code yX3_wipe cX3_wipe 3 (some .int) ∈ TBg := mem_TBg 290 (by decide +kernel) (by decide +kernel)
theorem mI_X3_wipe : Cond.instanceMethod yX3_wipe ∈ TBg := mem_TBg 288 (by decide +kernel) (by decide +kernel)
theorem mS_X3_wipe : Cond.selects RX3 yX3_wipe yX3_wipe ∈ TBg := mem_TBg 289 (by decide +kernel) (by decide +kernel)
theorem mM_L_43 : Cond.methodLink RL 43 yX4_wipe ∈ TBg := mem_TBg 820 (by decide +kernel) (by decide +kernel)
theorem mC_X4_wipe : Cond.code yX4_wipe cX4_wipe 4 (some .int) ∈ TBg := mem_TBg 823 (by decide +kernel) (by decide +kernel)
theorem mI_X4_wipe : Cond.instanceMethod yX4_wipe ∈ TBg := mem_TBg 821 (by decide +kernel) (by decide +kernel)
theorem mS_X4_wipe : Cond.selects RX4 yX4_wipe yX4_wipe ∈ TBg := mem_TBg 822 (by decide +kernel) (by decide +kernel)
theorem mM_L_44 : Cond.methodLink RL 44 yX3_chord ∈ TBg := mem_TBg 295 (by decide +kernel) (by decide +kernel)
theorem mC_X3_chord : Cond.code yX3_chord cX3_chord 4 (some .int) ∈ TBg := mem_TBg 298 (by decide +kernel) (by decide +kernel)
theorem mI_X3_chord : Cond.instanceMethod yX3_chord ∈ TBg := mem_TBg 296 (by decide +kernel) (by decide +kernel)
theorem mS_X3_chord : Cond.selects RX3 yX3_chord yX3_chord ∈ TBg := mem_TBg 297 (by decide +kernel) (by decide +kernel)
theorem mM_L_47 : Cond.methodLink RL 47 yX4_chord ∈ TBg := mem_TBg 824 (by decide +kernel) (by decide +kernel)
theorem mC_X4_chord : Cond.code yX4_chord cX4_chord 4 (some .int) ∈ TBg := mem_TBg 827 (by decide +kernel) (by decide +kernel)
theorem mI_X4_chord : Cond.instanceMethod yX4_chord ∈ TBg := mem_TBg 825 (by decide +kernel) (by decide +kernel)
theorem mS_X4_chord : Cond.selects RX4 yX4_chord yX4_chord ∈ TBg := mem_TBg 826 (by decide +kernel) (by decide +kernel)
theorem mM_L_48 : Cond.methodLink RL 48 yX3_melisma ∈ TBg := mem_TBg 299 (by decide +kernel) (by decide +kernel)
theorem mC_X3_melisma : Cond.code yX3_melisma cX3_melisma 4 (some .int) ∈ TBg := mem_TBg 302 (by decide +kernel) (by decide +kernel)
theorem mI_X3_melisma : Cond.instanceMethod yX3_melisma ∈ TBg := mem_TBg 300 (by decide +kernel) (by decide +kernel)
theorem mS_X3_melisma : Cond.selects RX3 yX3_melisma yX3_melisma ∈ TBg := mem_TBg 301 (by decide +kernel) (by decide +kernel)
theorem mM_L_51 : Cond.methodLink RL 51 yX4_melisma ∈ TBg := mem_TBg 828 (by decide +kernel) (by decide +kernel)
theorem mC_X4_melisma : Cond.code yX4_melisma cX4_melisma 4 (some .int) ∈ TBg := mem_TBg 831 (by decide +kernel) (by decide +kernel)
theorem mI_X4_melisma : Cond.instanceMethod yX4_melisma ∈ TBg := mem_TBg 829 (by decide +kernel) (by decide +kernel)
theorem mS_X4_melisma : Cond.selects RX4 yX4_melisma yX4_melisma ∈ TBg := mem_TBg 830 (by decide +kernel) (by decide +kernel)
theorem mM_L_52 : Cond.methodLink RL 52 yX3_refrain ∈ TBg := mem_TBg 315 (by decide +kernel) (by decide +kernel)
theorem mC_X3_refrain : Cond.code yX3_refrain cX3_refrain 4 (some .int) ∈ TBg := mem_TBg 318 (by decide +kernel) (by decide +kernel)
theorem mI_X3_refrain : Cond.instanceMethod yX3_refrain ∈ TBg := mem_TBg 316 (by decide +kernel) (by decide +kernel)
theorem mS_X3_refrain : Cond.selects RX3 yX3_refrain yX3_refrain ∈ TBg := mem_TBg 317 (by decide +kernel) (by decide +kernel)
theorem mM_L_55 : Cond.methodLink RL 55 yX4_refrain ∈ TBg := mem_TBg 836 (by decide +kernel) (by decide +kernel)
theorem mC_X4_refrain : Cond.code yX4_refrain cX4_refrain 4 (some .int) ∈ TBg := mem_TBg 839 (by decide +kernel) (by decide +kernel)
theorem mI_X4_refrain : Cond.instanceMethod yX4_refrain ∈ TBg := mem_TBg 837 (by decide +kernel) (by decide +kernel)
theorem mS_X4_refrain : Cond.selects RX4 yX4_refrain yX4_refrain ∈ TBg := mem_TBg 838 (by decide +kernel) (by decide +kernel)
theorem mM_L_56 : Cond.methodLink RL 56 yX3_align ∈ TBg := mem_TBg 323 (by decide +kernel) (by decide +kernel)
theorem mC_X3_align : Cond.code yX3_align cX3_align 4 (some .int) ∈ TBg := mem_TBg 326 (by decide +kernel) (by decide +kernel)
theorem mI_X3_align : Cond.instanceMethod yX3_align ∈ TBg := mem_TBg 324 (by decide +kernel) (by decide +kernel)
theorem mS_X3_align : Cond.selects RX3 yX3_align yX3_align ∈ TBg := mem_TBg 325 (by decide +kernel) (by decide +kernel)
theorem mM_L_59 : Cond.methodLink RL 59 yX4_align ∈ TBg := mem_TBg 840 (by decide +kernel) (by decide +kernel)
theorem mC_X4_align : Cond.code yX4_align cX4_align 4 (some .int) ∈ TBg := mem_TBg 843 (by decide +kernel) (by decide +kernel)
theorem mI_X4_align : Cond.instanceMethod yX4_align ∈ TBg := mem_TBg 841 (by decide +kernel) (by decide +kernel)
theorem mS_X4_align : Cond.selects RX4 yX4_align yX4_align ∈ TBg := mem_TBg 842 (by decide +kernel) (by decide +kernel)
theorem mM_L_60 : Cond.methodLink RL 60 yX3_translation ∈ TBg := mem_TBg 327 (by decide +kernel) (by decide +kernel)
theorem mC_X3_translation : Cond.code yX3_translation cX3_translation 4 (some .int) ∈ TBg := mem_TBg 330 (by decide +kernel) (by decide +kernel)
theorem mI_X3_translation : Cond.instanceMethod yX3_translation ∈ TBg := mem_TBg 328 (by decide +kernel) (by decide +kernel)
theorem mS_X3_translation : Cond.selects RX3 yX3_translation yX3_translation ∈ TBg := mem_TBg 329 (by decide +kernel) (by decide +kernel)
theorem mM_L_64 : Cond.methodLink RL 64 yX4_translation ∈ TBg := mem_TBg 844 (by decide +kernel) (by decide +kernel)
theorem mC_X4_translation : Cond.code yX4_translation cX4_translation 4 (some .int) ∈ TBg := mem_TBg 847 (by decide +kernel) (by decide +kernel)
theorem mI_X4_translation : Cond.instanceMethod yX4_translation ∈ TBg := mem_TBg 845 (by decide +kernel) (by decide +kernel)
theorem mS_X4_translation : Cond.selects RX4 yX4_translation yX4_translation ∈ TBg := mem_TBg 846 (by decide +kernel) (by decide +kernel)
theorem mM_L_65 : Cond.methodLink RL 65 yX3_limit ∈ TBg := mem_TBg 334 (by decide +kernel) (by decide +kernel)
theorem mC_X3_limit : Cond.code yX3_limit cX3_limit 3 (some .int) ∈ TBg := mem_TBg 337 (by decide +kernel) (by decide +kernel)
theorem mI_X3_limit : Cond.instanceMethod yX3_limit ∈ TBg := mem_TBg 335 (by decide +kernel) (by decide +kernel)
theorem mS_X3_limit : Cond.selects RX3 yX3_limit yX3_limit ∈ TBg := mem_TBg 336 (by decide +kernel) (by decide +kernel)
theorem mM_L_68 : Cond.methodLink RL 68 yX4_limit ∈ TBg := mem_TBg 848 (by decide +kernel) (by decide +kernel)
theorem mC_X4_limit : Cond.code yX4_limit cX4_limit 3 (some .int) ∈ TBg := mem_TBg 851 (by decide +kernel) (by decide +kernel)
theorem mI_X4_limit : Cond.instanceMethod yX4_limit ∈ TBg := mem_TBg 849 (by decide +kernel) (by decide +kernel)
theorem mS_X4_limit : Cond.selects RX4 yX4_limit yX4_limit ∈ TBg := mem_TBg 850 (by decide +kernel) (by decide +kernel)
theorem mM_L_69 : Cond.methodLink RL 69 yX3_place ∈ TBg := mem_TBg 338 (by decide +kernel) (by decide +kernel)
theorem mC_X3_place : Cond.code yX3_place cX3_place 2 (some .int) ∈ TBg := mem_TBg 341 (by decide +kernel) (by decide +kernel)
theorem mI_X3_place : Cond.instanceMethod yX3_place ∈ TBg := mem_TBg 339 (by decide +kernel) (by decide +kernel)
theorem mS_X3_place : Cond.selects RX3 yX3_place yX3_place ∈ TBg := mem_TBg 340 (by decide +kernel) (by decide +kernel)
theorem mM_L_72 : Cond.methodLink RL 72 yX4_place ∈ TBg := mem_TBg 852 (by decide +kernel) (by decide +kernel)
theorem mC_X4_place : Cond.code yX4_place cX4_place 4 (some .int) ∈ TBg := mem_TBg 855 (by decide +kernel) (by decide +kernel)
theorem mI_X4_place : Cond.instanceMethod yX4_place ∈ TBg := mem_TBg 853 (by decide +kernel) (by decide +kernel)
theorem mS_X4_place : Cond.selects RX4 yX4_place yX4_place ∈ TBg := mem_TBg 854 (by decide +kernel) (by decide +kernel)
theorem mM_L_73 : Cond.methodLink RL 73 yX3_x ∈ TBg := mem_TBg 387 (by decide +kernel) (by decide +kernel)
theorem mC_X3_x : Cond.code yX3_x cX3_x 3 (some .int) ∈ TBg := mem_TBg 390 (by decide +kernel) (by decide +kernel)
theorem mI_X3_x : Cond.instanceMethod yX3_x ∈ TBg := mem_TBg 388 (by decide +kernel) (by decide +kernel)
theorem mS_X3_x : Cond.selects RX3 yX3_x yX3_x ∈ TBg := mem_TBg 389 (by decide +kernel) (by decide +kernel)
theorem mM_L_76 : Cond.methodLink RL 76 yX4_x ∈ TBg := mem_TBg 899 (by decide +kernel) (by decide +kernel)
theorem mC_X4_x : Cond.code yX4_x cX4_x 3 (some .int) ∈ TBg := mem_TBg 902 (by decide +kernel) (by decide +kernel)
theorem mI_X4_x : Cond.instanceMethod yX4_x ∈ TBg := mem_TBg 900 (by decide +kernel) (by decide +kernel)
theorem mS_X4_x : Cond.selects RX4 yX4_x yX4_x ∈ TBg := mem_TBg 901 (by decide +kernel) (by decide +kernel)
theorem mM_L_77 : Cond.methodLink RL 77 yX3_box ∈ TBg := mem_TBg 391 (by decide +kernel) (by decide +kernel)
theorem mC_X3_box : Cond.code yX3_box cX3_box 5 (some .int) ∈ TBg := mem_TBg 394 (by decide +kernel) (by decide +kernel)
theorem mI_X3_box : Cond.instanceMethod yX3_box ∈ TBg := mem_TBg 392 (by decide +kernel) (by decide +kernel)
theorem mS_X3_box : Cond.selects RX3 yX3_box yX3_box ∈ TBg := mem_TBg 393 (by decide +kernel) (by decide +kernel)
theorem mM_L_80 : Cond.methodLink RL 80 yX4_box ∈ TBg := mem_TBg 903 (by decide +kernel) (by decide +kernel)
theorem mC_X4_box : Cond.code yX4_box cX4_box 6 (some .int) ∈ TBg := mem_TBg 906 (by decide +kernel) (by decide +kernel)
theorem mI_X4_box : Cond.instanceMethod yX4_box ∈ TBg := mem_TBg 904 (by decide +kernel) (by decide +kernel)
theorem mS_X4_box : Cond.selects RX4 yX4_box yX4_box ∈ TBg := mem_TBg 905 (by decide +kernel) (by decide +kernel)
theorem mM_L_81 : Cond.methodLink RL 81 yX3_hyphens ∈ TBg := mem_TBg 402 (by decide +kernel) (by decide +kernel)
theorem mC_X3_hyphens : Cond.code yX3_hyphens cX3_hyphens 3 (some .int) ∈ TBg := mem_TBg 405 (by decide +kernel) (by decide +kernel)
theorem mI_X3_hyphens : Cond.instanceMethod yX3_hyphens ∈ TBg := mem_TBg 403 (by decide +kernel) (by decide +kernel)
theorem mS_X3_hyphens : Cond.selects RX3 yX3_hyphens yX3_hyphens ∈ TBg := mem_TBg 404 (by decide +kernel) (by decide +kernel)
theorem mM_L_84 : Cond.methodLink RL 84 yX4_hyphens ∈ TBg := mem_TBg 911 (by decide +kernel) (by decide +kernel)
theorem mC_X4_hyphens : Cond.code yX4_hyphens cX4_hyphens 3 (some .int) ∈ TBg := mem_TBg 914 (by decide +kernel) (by decide +kernel)
theorem mI_X4_hyphens : Cond.instanceMethod yX4_hyphens ∈ TBg := mem_TBg 912 (by decide +kernel) (by decide +kernel)
theorem mS_X4_hyphens : Cond.selects RX4 yX4_hyphens yX4_hyphens ∈ TBg := mem_TBg 913 (by decide +kernel) (by decide +kernel)
theorem mM_L_85 : Cond.methodLink RL 85 yL_hyphen ∈ TBg := mem_TBg 565 (by decide +kernel) (by decide +kernel)
theorem mM_L_90 : Cond.methodLink RL 90 yX4_hyphen ∈ TBg := mem_TBg 919 (by decide +kernel) (by decide +kernel)
theorem mC_X4_hyphen : Cond.code yX4_hyphen cX4_hyphen 5 (some .int) ∈ TBg := mem_TBg 922 (by decide +kernel) (by decide +kernel)
theorem mI_X4_hyphen : Cond.instanceMethod yX4_hyphen ∈ TBg := mem_TBg 920 (by decide +kernel) (by decide +kernel)
theorem mS_X4_hyphen : Cond.selects RX4 yX4_hyphen yX4_hyphen ∈ TBg := mem_TBg 921 (by decide +kernel) (by decide +kernel)
theorem mM_L_91 : Cond.methodLink RL 91 yX4_thrown ∈ TBg := mem_TBg 682 (by decide +kernel) (by decide +kernel)
theorem mC_X4_thrown : Cond.code yX4_thrown cX4_thrown 1 (some .int) ∈ TBg := mem_TBg 685 (by decide +kernel) (by decide +kernel)
theorem mI_X4_thrown : Cond.instanceMethod yX4_thrown ∈ TBg := mem_TBg 683 (by decide +kernel) (by decide +kernel)
theorem mS_X4_thrown : Cond.selects RX4 yX4_thrown yX4_thrown ∈ TBg := mem_TBg 684 (by decide +kernel) (by decide +kernel)
theorem mM_L_94 : Cond.methodLink RL 94 yX3_line ∈ TBg := mem_TBg 418 (by decide +kernel) (by decide +kernel)
theorem mC_X3_line : Cond.code yX3_line cX3_line 7 (some .int) ∈ TBg := mem_TBg 421 (by decide +kernel) (by decide +kernel)
theorem mI_X3_line : Cond.instanceMethod yX3_line ∈ TBg := mem_TBg 419 (by decide +kernel) (by decide +kernel)
theorem mS_X3_line : Cond.selects RX3 yX3_line yX3_line ∈ TBg := mem_TBg 420 (by decide +kernel) (by decide +kernel)
theorem mM_L_97 : Cond.methodLink RL 97 yX4_line ∈ TBg := mem_TBg 923 (by decide +kernel) (by decide +kernel)
theorem mC_X4_line : Cond.code yX4_line cX4_line 8 (some .int) ∈ TBg := mem_TBg 926 (by decide +kernel) (by decide +kernel)
theorem mI_X4_line : Cond.instanceMethod yX4_line ∈ TBg := mem_TBg 924 (by decide +kernel) (by decide +kernel)
theorem mS_X4_line : Cond.selects RX4 yX4_line yX4_line ∈ TBg := mem_TBg 925 (by decide +kernel) (by decide +kernel)
theorem mM_L_98 : Cond.methodLink RL 98 yL_strain ∈ TBg := mem_TBg 650 (by decide +kernel) (by decide +kernel)
theorem mM_L_101 : Cond.methodLink RL 101 yX4_strain ∈ TBg := mem_TBg 927 (by decide +kernel) (by decide +kernel)
theorem mC_X4_strain : Cond.code yX4_strain cX4_strain 3 (some .int) ∈ TBg := mem_TBg 930 (by decide +kernel) (by decide +kernel)
theorem mI_X4_strain : Cond.instanceMethod yX4_strain ∈ TBg := mem_TBg 928 (by decide +kernel) (by decide +kernel)
theorem mS_X4_strain : Cond.selects RX4 yX4_strain yX4_strain ∈ TBg := mem_TBg 929 (by decide +kernel) (by decide +kernel)
theorem mM_L_102 : Cond.methodLink RL 102 yX3_faults ∈ TBg := mem_TBg 432 (by decide +kernel) (by decide +kernel)
theorem mC_X3_faults : Cond.code yX3_faults cX3_faults 1 (some .int) ∈ TBg := mem_TBg 435 (by decide +kernel) (by decide +kernel)
theorem mI_X3_faults : Cond.instanceMethod yX3_faults ∈ TBg := mem_TBg 433 (by decide +kernel) (by decide +kernel)
theorem mS_X3_faults : Cond.selects RX3 yX3_faults yX3_faults ∈ TBg := mem_TBg 434 (by decide +kernel) (by decide +kernel)
theorem mM_L_105 : Cond.methodLink RL 105 yX4_faults ∈ TBg := mem_TBg 932 (by decide +kernel) (by decide +kernel)
theorem mM_L_106 : Cond.methodLink RL 106 yX3_fault ∈ TBg := mem_TBg 448 (by decide +kernel) (by decide +kernel)
theorem mC_X3_fault : Cond.code yX3_fault cX3_fault 6 (some .int) ∈ TBg := mem_TBg 451 (by decide +kernel) (by decide +kernel)
theorem mI_X3_fault : Cond.instanceMethod yX3_fault ∈ TBg := mem_TBg 449 (by decide +kernel) (by decide +kernel)
theorem mS_X3_fault : Cond.selects RX3 yX3_fault yX3_fault ∈ TBg := mem_TBg 450 (by decide +kernel) (by decide +kernel)
theorem mM_L_109 : Cond.methodLink RL 109 yX4_fault ∈ TBg := mem_TBg 944 (by decide +kernel) (by decide +kernel)
theorem mC_X4_fault : Cond.code yX4_fault cX4_fault 5 (some .int) ∈ TBg := mem_TBg 947 (by decide +kernel) (by decide +kernel)
theorem mI_X4_fault : Cond.instanceMethod yX4_fault ∈ TBg := mem_TBg 945 (by decide +kernel) (by decide +kernel)
theorem mS_X4_fault : Cond.selects RX4 yX4_fault yX4_fault ∈ TBg := mem_TBg 946 (by decide +kernel) (by decide +kernel)
theorem mM_L_110 : Cond.methodLink RL 110 yX3_shares ∈ TBg := mem_TBg 452 (by decide +kernel) (by decide +kernel)
theorem mC_X3_shares : Cond.code yX3_shares cX3_shares 3 (some .int) ∈ TBg := mem_TBg 455 (by decide +kernel) (by decide +kernel)
theorem mI_X3_shares : Cond.instanceMethod yX3_shares ∈ TBg := mem_TBg 453 (by decide +kernel) (by decide +kernel)
theorem mS_X3_shares : Cond.selects RX3 yX3_shares yX3_shares ∈ TBg := mem_TBg 454 (by decide +kernel) (by decide +kernel)
theorem mM_L_113 : Cond.methodLink RL 113 yX4_shares ∈ TBg := mem_TBg 949 (by decide +kernel) (by decide +kernel)
theorem mC_X4_shares : Cond.code yX4_shares cX4_shares 2 (some .int) ∈ TBg := mem_TBg 952 (by decide +kernel) (by decide +kernel)
theorem mI_X4_shares : Cond.instanceMethod yX4_shares ∈ TBg := mem_TBg 950 (by decide +kernel) (by decide +kernel)
theorem mS_X4_shares : Cond.selects RX4 yX4_shares yX4_shares ∈ TBg := mem_TBg 951 (by decide +kernel) (by decide +kernel)
theorem mM_L_114 : Cond.methodLink RL 114 yX3_row ∈ TBg := mem_TBg 472 (by decide +kernel) (by decide +kernel)
theorem mC_X3_row : Cond.code yX3_row cX3_row 6 (some .int) ∈ TBg := mem_TBg 475 (by decide +kernel) (by decide +kernel)
theorem mI_X3_row : Cond.instanceMethod yX3_row ∈ TBg := mem_TBg 473 (by decide +kernel) (by decide +kernel)
theorem mS_X3_row : Cond.selects RX3 yX3_row yX3_row ∈ TBg := mem_TBg 474 (by decide +kernel) (by decide +kernel)
theorem mM_L_117 : Cond.methodLink RL 117 yX4_row ∈ TBg := mem_TBg 965 (by decide +kernel) (by decide +kernel)
theorem mC_X4_row : Cond.code yX4_row cX4_row 5 (some .int) ∈ TBg := mem_TBg 968 (by decide +kernel) (by decide +kernel)
theorem mI_X4_row : Cond.instanceMethod yX4_row ∈ TBg := mem_TBg 966 (by decide +kernel) (by decide +kernel)
theorem mS_X4_row : Cond.selects RX4 yX4_row yX4_row ∈ TBg := mem_TBg 967 (by decide +kernel) (by decide +kernel)
theorem mM_L_118 : Cond.methodLink RL 118 yX3_in ∈ TBg := mem_TBg 476 (by decide +kernel) (by decide +kernel)
theorem mC_X3_in : Cond.code yX3_in cX3_in 4 (some .int) ∈ TBg := mem_TBg 479 (by decide +kernel) (by decide +kernel)
theorem mI_X3_in : Cond.instanceMethod yX3_in ∈ TBg := mem_TBg 477 (by decide +kernel) (by decide +kernel)
theorem mS_X3_in : Cond.selects RX3 yX3_in yX3_in ∈ TBg := mem_TBg 478 (by decide +kernel) (by decide +kernel)
theorem mM_L_121 : Cond.methodLink RL 121 yX4_in ∈ TBg := mem_TBg 969 (by decide +kernel) (by decide +kernel)
theorem mC_X4_in : Cond.code yX4_in cX4_in 3 (some .int) ∈ TBg := mem_TBg 972 (by decide +kernel) (by decide +kernel)
theorem mI_X4_in : Cond.instanceMethod yX4_in ∈ TBg := mem_TBg 970 (by decide +kernel) (by decide +kernel)
theorem mS_X4_in : Cond.selects RX4 yX4_in yX4_in ∈ TBg := mem_TBg 971 (by decide +kernel) (by decide +kernel)
theorem mKL_L_122 : Cond.constantLong RL 122 (4294967295) ∈ TBg := mem_TBg 1014 (by decide +kernel) (by decide +kernel)
theorem mM_L_124 : Cond.methodLink RL 124 yX3_pattern ∈ TBg := mem_TBg 480 (by decide +kernel) (by decide +kernel)
theorem mC_X3_pattern : Cond.code yX3_pattern cX3_pattern 5 (some .int) ∈ TBg := mem_TBg 483 (by decide +kernel) (by decide +kernel)
theorem mI_X3_pattern : Cond.instanceMethod yX3_pattern ∈ TBg := mem_TBg 481 (by decide +kernel) (by decide +kernel)
theorem mS_X3_pattern : Cond.selects RX3 yX3_pattern yX3_pattern ∈ TBg := mem_TBg 482 (by decide +kernel) (by decide +kernel)
theorem mM_L_128 : Cond.methodLink RL 128 yX4_pattern ∈ TBg := mem_TBg 973 (by decide +kernel) (by decide +kernel)
theorem mC_X4_pattern : Cond.code yX4_pattern cX4_pattern 12 (some .int) ∈ TBg := mem_TBg 976 (by decide +kernel) (by decide +kernel)
theorem mI_X4_pattern : Cond.instanceMethod yX4_pattern ∈ TBg := mem_TBg 974 (by decide +kernel) (by decide +kernel)
theorem mS_X4_pattern : Cond.selects RX4 yX4_pattern yX4_pattern ∈ TBg := mem_TBg 975 (by decide +kernel) (by decide +kernel)
theorem mM_L_129 : Cond.methodLink RL 129 yX3_letter ∈ TBg := mem_TBg 500 (by decide +kernel) (by decide +kernel)
theorem mC_X3_letter : Cond.code yX3_letter cX3_letter 2 (some .int) ∈ TBg := mem_TBg 503 (by decide +kernel) (by decide +kernel)
theorem mI_X3_letter : Cond.instanceMethod yX3_letter ∈ TBg := mem_TBg 501 (by decide +kernel) (by decide +kernel)
theorem mS_X3_letter : Cond.selects RX3 yX3_letter yX3_letter ∈ TBg := mem_TBg 502 (by decide +kernel) (by decide +kernel)
theorem mM_L_132 : Cond.methodLink RL 132 yX4_letter ∈ TBg := mem_TBg 978 (by decide +kernel) (by decide +kernel)
theorem mC_X4_letter : Cond.code yX4_letter cX4_letter 2 (some .int) ∈ TBg := mem_TBg 981 (by decide +kernel) (by decide +kernel)
theorem mI_X4_letter : Cond.instanceMethod yX4_letter ∈ TBg := mem_TBg 979 (by decide +kernel) (by decide +kernel)
theorem mS_X4_letter : Cond.selects RX4 yX4_letter yX4_letter ∈ TBg := mem_TBg 980 (by decide +kernel) (by decide +kernel)
theorem mM_L_133 : Cond.methodLink RL 133 yX3_sides ∈ TBg := mem_TBg 508 (by decide +kernel) (by decide +kernel)
theorem mC_X3_sides : Cond.code yX3_sides cX3_sides 3 (some .int) ∈ TBg := mem_TBg 511 (by decide +kernel) (by decide +kernel)
theorem mI_X3_sides : Cond.instanceMethod yX3_sides ∈ TBg := mem_TBg 509 (by decide +kernel) (by decide +kernel)
theorem mS_X3_sides : Cond.selects RX3 yX3_sides yX3_sides ∈ TBg := mem_TBg 510 (by decide +kernel) (by decide +kernel)
theorem mM_L_136 : Cond.methodLink RL 136 yX4_sides ∈ TBg := mem_TBg 982 (by decide +kernel) (by decide +kernel)
theorem mC_X4_sides : Cond.code yX4_sides cX4_sides 4 (some .int) ∈ TBg := mem_TBg 985 (by decide +kernel) (by decide +kernel)
theorem mI_X4_sides : Cond.instanceMethod yX4_sides ∈ TBg := mem_TBg 983 (by decide +kernel) (by decide +kernel)
theorem mS_X4_sides : Cond.selects RX4 yX4_sides yX4_sides ∈ TBg := mem_TBg 984 (by decide +kernel) (by decide +kernel)
theorem mM_L_137 : Cond.methodLink RL 137 yX3_cuts ∈ TBg := mem_TBg 520 (by decide +kernel) (by decide +kernel)
theorem mC_X3_cuts : Cond.code yX3_cuts cX3_cuts 1 (some .int) ∈ TBg := mem_TBg 523 (by decide +kernel) (by decide +kernel)
theorem mI_X3_cuts : Cond.instanceMethod yX3_cuts ∈ TBg := mem_TBg 521 (by decide +kernel) (by decide +kernel)
theorem mS_X3_cuts : Cond.selects RX3 yX3_cuts yX3_cuts ∈ TBg := mem_TBg 522 (by decide +kernel) (by decide +kernel)
theorem mM_L_140 : Cond.methodLink RL 140 yX4_cuts ∈ TBg := mem_TBg 986 (by decide +kernel) (by decide +kernel)
theorem mC_X4_cuts : Cond.code yX4_cuts cX4_cuts 2 (some .int) ∈ TBg := mem_TBg 989 (by decide +kernel) (by decide +kernel)
theorem mI_X4_cuts : Cond.instanceMethod yX4_cuts ∈ TBg := mem_TBg 987 (by decide +kernel) (by decide +kernel)
theorem mS_X4_cuts : Cond.selects RX4 yX4_cuts yX4_cuts ∈ TBg := mem_TBg 988 (by decide +kernel) (by decide +kernel)
theorem mM_L_141 : Cond.methodLink RL 141 yL_cut ∈ TBg := mem_TBg 674 (by decide +kernel) (by decide +kernel)
theorem mM_L_144 : Cond.methodLink RL 144 yX4_cut ∈ TBg := mem_TBg 1002 (by decide +kernel) (by decide +kernel)
theorem mC_X4_cut : Cond.code yX4_cut cX4_cut 2 (some .int) ∈ TBg := mem_TBg 1005 (by decide +kernel) (by decide +kernel)
theorem mI_X4_cut : Cond.instanceMethod yX4_cut ∈ TBg := mem_TBg 1003 (by decide +kernel) (by decide +kernel)
theorem mS_X4_cut : Cond.selects RX4 yX4_cut yX4_cut ∈ TBg := mem_TBg 1004 (by decide +kernel) (by decide +kernel)
theorem mM_L_145 : Cond.methodLink RL 145 yX3_told ∈ TBg := mem_TBg 541 (by decide +kernel) (by decide +kernel)
theorem mC_X3_told : Cond.code yX3_told cX3_told 2 (some .int) ∈ TBg := mem_TBg 544 (by decide +kernel) (by decide +kernel)
theorem mI_X3_told : Cond.instanceMethod yX3_told ∈ TBg := mem_TBg 542 (by decide +kernel) (by decide +kernel)
theorem mS_X3_told : Cond.selects RX3 yX3_told yX3_told ∈ TBg := mem_TBg 543 (by decide +kernel) (by decide +kernel)
theorem mM_L_148 : Cond.methodLink RL 148 yX4_told ∈ TBg := mem_TBg 1006 (by decide +kernel) (by decide +kernel)
theorem mC_X4_told : Cond.code yX4_told cX4_told 4 (some .int) ∈ TBg := mem_TBg 1009 (by decide +kernel) (by decide +kernel)
theorem mI_X4_told : Cond.instanceMethod yX4_told ∈ TBg := mem_TBg 1007 (by decide +kernel) (by decide +kernel)
theorem mS_X4_told : Cond.selects RX4 yX4_told yX4_told ∈ TBg := mem_TBg 1008 (by decide +kernel) (by decide +kernel)
theorem mM_L_149 : Cond.methodLink RL 149 yX3_clear ∈ TBg := mem_TBg 553 (by decide +kernel) (by decide +kernel)
theorem mC_X3_clear : Cond.code yX3_clear cX3_clear 3 (some .int) ∈ TBg := mem_TBg 556 (by decide +kernel) (by decide +kernel)
theorem mI_X3_clear : Cond.instanceMethod yX3_clear ∈ TBg := mem_TBg 554 (by decide +kernel) (by decide +kernel)
theorem mS_X3_clear : Cond.selects RX3 yX3_clear yX3_clear ∈ TBg := mem_TBg 555 (by decide +kernel) (by decide +kernel)
theorem mM_L_152 : Cond.methodLink RL 152 yX4_clear ∈ TBg := mem_TBg 1010 (by decide +kernel) (by decide +kernel)
theorem mC_X4_clear : Cond.code yX4_clear cX4_clear 2 (some .int) ∈ TBg := mem_TBg 1013 (by decide +kernel) (by decide +kernel)
theorem mI_X4_clear : Cond.instanceMethod yX4_clear ∈ TBg := mem_TBg 1011 (by decide +kernel) (by decide +kernel)
theorem mS_X4_clear : Cond.selects RX4 yX4_clear yX4_clear ∈ TBg := mem_TBg 1012 (by decide +kernel) (by decide +kernel)
theorem okL_hyphen : yL_hyphen.cls ≠ "java/lang/invoke/MethodHandle" ∧ yL_hyphen.cls ≠ "java/lang/invoke/VarHandle" ∧ (parseMethodDescriptor yL_hyphen.desc).map (fun d => d.parameters.length) = some 5 := by decide +kernel
theorem okL_strain : yL_strain.cls ≠ "java/lang/invoke/MethodHandle" ∧ yL_strain.cls ≠ "java/lang/invoke/VarHandle" ∧ (parseMethodDescriptor yL_strain.desc).map (fun d => d.parameters.length) = some 2 := by decide +kernel
theorem okL_cut : yL_cut.cls ≠ "java/lang/invoke/MethodHandle" ∧ yL_cut.cls ≠ "java/lang/invoke/VarHandle" ∧ (parseMethodDescriptor yL_cut.desc).map (fun d => d.parameters.length) = some 3 := by decide +kernel
def j_law_225 (n : Nat) (xs : Nat → Int32) (L : Nat) (x4 : Int32) (S M : mem) (o : Nat → Int64) (y0 y1 y2 y3 : Int32) : Option ((Int32 × mem × mem × (Nat → Int64)) ⊕ Int32) :=
cal (f_X4_note n M y1 y2 y3) fun q11 => (
if y0 = q11.1 then (
some (.inl (x4 + 6, S, q11.2, o))) else (
some (.inr 0)))
def j_law_195 (n : Nat) (xs : Nat → Int32) (L : Nat) (x4 : Int32) (S M : mem) (o : Nat → Int64) (y0 y1 y2 : Int32) : Option ((Int32 × mem × mem × (Nat → Int64)) ⊕ Int32) :=
cal (f_X3_note n S y0 y1 y2) fun q7 => (
grd (¬ (x4 + 1 < 0 ∨ L ≤ Int32.toNatClampNeg (x4 + 1))) (
grd (¬ (x4 + 2 < 0 ∨ L ≤ Int32.toNatClampNeg (x4 + 2))) (
grd (¬ (x4 + 3 < 0 ∨ L ≤ Int32.toNatClampNeg (x4 + 3))) (
if (xs (Int32.toNatClampNeg (x4 + 3))) = 0 then (
j_law_225 n xs L x4 q7.2 M o q7.1 (xs (Int32.toNatClampNeg (x4 + 1))) (xs (Int32.toNatClampNeg (x4 + 2))) 0) else (
j_law_225 n xs L x4 q7.2 M o q7.1 (xs (Int32.toNatClampNeg (x4 + 1))) (xs (Int32.toNatClampNeg (x4 + 2))) 1)))))
def k_law_0 (n : Nat) (xs : Nat → Int32) (L : Nat) (x4 : Int32) (S M : mem) (o : Nat → Int64) : Option ((Int32 × mem × mem × (Nat → Int64)) ⊕ Int32) :=
grd (¬ (x4 + 1 < 0 ∨ L ≤ Int32.toNatClampNeg (x4 + 1))) (
grd (¬ (x4 + 2 < 0 ∨ L ≤ Int32.toNatClampNeg (x4 + 2))) (
grd (¬ (x4 + 3 < 0 ∨ L ≤ Int32.toNatClampNeg (x4 + 3))) (
if (xs (Int32.toNatClampNeg (x4 + 3))) = 0 then (
j_law_195 n xs L x4 S M o (xs (Int32.toNatClampNeg (x4 + 1))) (xs (Int32.toNatClampNeg (x4 + 2))) 0) else (
j_law_195 n xs L x4 S M o (xs (Int32.toNatClampNeg (x4 + 1))) (xs (Int32.toNatClampNeg (x4 + 2))) 1))))
def j_law_314 (n : Nat) (xs : Nat → Int32) (L : Nat) (x4 : Int32) (S M : mem) (o : Nat → Int64) (y0 y1 y2 y3 y4 y5 : Int32) : Option ((Int32 × mem × mem × (Nat → Int64)) ⊕ Int32) :=
cal (f_X4_syllable n M y1 y2 y3 y4 y5) fun q27 => (
if y0 = q27.1 then (
some (.inl (x4 + 6, S, q27.2, o))) else (
some (.inr 0)))
def j_law_272 (n : Nat) (xs : Nat → Int32) (L : Nat) (x4 : Int32) (S M : mem) (o : Nat → Int64) (y0 y1 y2 y3 y4 : Int32) : Option ((Int32 × mem × mem × (Nat → Int64)) ⊕ Int32) :=
cal (f_X3_syllable n S y0 y1 y2 y3 y4) fun q21 => (
grd (¬ (x4 + 1 < 0 ∨ L ≤ Int32.toNatClampNeg (x4 + 1))) (
grd (¬ (x4 + 2 < 0 ∨ L ≤ Int32.toNatClampNeg (x4 + 2))) (
grd (¬ (x4 + 3 < 0 ∨ L ≤ Int32.toNatClampNeg (x4 + 3))) (
grd (¬ (x4 + 4 < 0 ∨ L ≤ Int32.toNatClampNeg (x4 + 4))) (
grd (¬ (x4 + 5 < 0 ∨ L ≤ Int32.toNatClampNeg (x4 + 5))) (
if (xs (Int32.toNatClampNeg (x4 + 5))) = 0 then (
j_law_314 n xs L x4 q21.2 M o q21.1 (xs (Int32.toNatClampNeg (x4 + 1))) (xs (Int32.toNatClampNeg (x4 + 2))) (xs (Int32.toNatClampNeg (x4 + 3))) (xs (Int32.toNatClampNeg (x4 + 4))) 0) else (
j_law_314 n xs L x4 q21.2 M o q21.1 (xs (Int32.toNatClampNeg (x4 + 1))) (xs (Int32.toNatClampNeg (x4 + 2))) (xs (Int32.toNatClampNeg (x4 + 3))) (xs (Int32.toNatClampNeg (x4 + 4))) 1)))))))
def k_law_1 (n : Nat) (xs : Nat → Int32) (L : Nat) (x4 : Int32) (S M : mem) (o : Nat → Int64) : Option ((Int32 × mem × mem × (Nat → Int64)) ⊕ Int32) :=
grd (¬ (x4 + 1 < 0 ∨ L ≤ Int32.toNatClampNeg (x4 + 1))) (
grd (¬ (x4 + 2 < 0 ∨ L ≤ Int32.toNatClampNeg (x4 + 2))) (
grd (¬ (x4 + 3 < 0 ∨ L ≤ Int32.toNatClampNeg (x4 + 3))) (
grd (¬ (x4 + 4 < 0 ∨ L ≤ Int32.toNatClampNeg (x4 + 4))) (
grd (¬ (x4 + 5 < 0 ∨ L ≤ Int32.toNatClampNeg (x4 + 5))) (
if (xs (Int32.toNatClampNeg (x4 + 5))) = 0 then (
j_law_272 n xs L x4 S M o (xs (Int32.toNatClampNeg (x4 + 1))) (xs (Int32.toNatClampNeg (x4 + 2))) (xs (Int32.toNatClampNeg (x4 + 3))) (xs (Int32.toNatClampNeg (x4 + 4))) 0) else (
j_law_272 n xs L x4 S M o (xs (Int32.toNatClampNeg (x4 + 1))) (xs (Int32.toNatClampNeg (x4 + 2))) (xs (Int32.toNatClampNeg (x4 + 3))) (xs (Int32.toNatClampNeg (x4 + 4))) 1))))))
def k_law_2 (n : Nat) (xs : Nat → Int32) (L : Nat) (x4 : Int32) (S M : mem) (o : Nat → Int64) : Option ((Int32 × mem × mem × (Nat → Int64)) ⊕ Int32) :=
grd (¬ (x4 + 1 < 0 ∨ L ≤ Int32.toNatClampNeg (x4 + 1))) (
grd (¬ (x4 + 2 < 0 ∨ L ≤ Int32.toNatClampNeg (x4 + 2))) (
cal (f_X3_wipe n S (xs (Int32.toNatClampNeg (x4 + 1))) (xs (Int32.toNatClampNeg (x4 + 2)))) fun q34 => (
cal (f_X4_wipe n M (xs (Int32.toNatClampNeg (x4 + 1))) (xs (Int32.toNatClampNeg (x4 + 2)))) fun q35 => (
if q34.1 = q35.1 then (
some (.inl (x4 + 6, q34.2, q35.2, o))) else (
some (.inr 0))))))
def k_law_3 (n : Nat) (xs : Nat → Int32) (L : Nat) (x4 : Int32) (S M : mem) (o : Nat → Int64) : Option ((Int32 × mem × mem × (Nat → Int64)) ⊕ Int32) :=
grd (¬ (x4 + 1 < 0 ∨ L ≤ Int32.toNatClampNeg (x4 + 1))) (
grd (¬ (x4 + 2 < 0 ∨ L ≤ Int32.toNatClampNeg (x4 + 2))) (
cal (f_X3_chord n S (xs (Int32.toNatClampNeg (x4 + 1))) (xs (Int32.toNatClampNeg (x4 + 2)))) fun q40 => (
cal (f_X4_chord n M (xs (Int32.toNatClampNeg (x4 + 1))) (xs (Int32.toNatClampNeg (x4 + 2)))) fun q41 => (
if q40.1 = q41.1 then (
some (.inl (x4 + 6, q40.2, q41.2, o))) else (
some (.inr 0))))))
def k_law_4 (n : Nat) (xs : Nat → Int32) (L : Nat) (x4 : Int32) (S M : mem) (o : Nat → Int64) : Option ((Int32 × mem × mem × (Nat → Int64)) ⊕ Int32) :=
grd (¬ (x4 + 1 < 0 ∨ L ≤ Int32.toNatClampNeg (x4 + 1))) (
grd (¬ (x4 + 2 < 0 ∨ L ≤ Int32.toNatClampNeg (x4 + 2))) (
cal (f_X3_melisma n S (xs (Int32.toNatClampNeg (x4 + 1))) (xs (Int32.toNatClampNeg (x4 + 2)))) fun q46 => (
cal (f_X4_melisma n M (xs (Int32.toNatClampNeg (x4 + 1))) (xs (Int32.toNatClampNeg (x4 + 2)))) fun q47 => (
if q46.1 = q47.1 then (
some (.inl (x4 + 6, q46.2, q47.2, o))) else (
some (.inr 0))))))
def k_law_5 (n : Nat) (xs : Nat → Int32) (L : Nat) (x4 : Int32) (S M : mem) (o : Nat → Int64) : Option ((Int32 × mem × mem × (Nat → Int64)) ⊕ Int32) :=
grd (¬ (x4 + 1 < 0 ∨ L ≤ Int32.toNatClampNeg (x4 + 1))) (
grd (¬ (x4 + 2 < 0 ∨ L ≤ Int32.toNatClampNeg (x4 + 2))) (
cal (f_X3_refrain n S (xs (Int32.toNatClampNeg (x4 + 1))) (xs (Int32.toNatClampNeg (x4 + 2)))) fun q52 => (
cal (f_X4_refrain n M (xs (Int32.toNatClampNeg (x4 + 1))) (xs (Int32.toNatClampNeg (x4 + 2)))) fun q53 => (
if q52.1 = q53.1 then (
some (.inl (x4 + 6, q52.2, q53.2, o))) else (
some (.inr 0))))))
def k_law_6 (n : Nat) (xs : Nat → Int32) (L : Nat) (x4 : Int32) (S M : mem) (o : Nat → Int64) : Option ((Int32 × mem × mem × (Nat → Int64)) ⊕ Int32) :=
grd (¬ (x4 + 1 < 0 ∨ L ≤ Int32.toNatClampNeg (x4 + 1))) (
grd (¬ (x4 + 2 < 0 ∨ L ≤ Int32.toNatClampNeg (x4 + 2))) (
cal (f_X3_align n S (xs (Int32.toNatClampNeg (x4 + 1))) (xs (Int32.toNatClampNeg (x4 + 2)))) fun q58 => (
cal (f_X4_align n M (xs (Int32.toNatClampNeg (x4 + 1))) (xs (Int32.toNatClampNeg (x4 + 2)))) fun q59 => (
if q58.1 = q59.1 then (
some (.inl (x4 + 6, q58.2, q59.2, o))) else (
some (.inr 0))))))
def j_law_552 (n : Nat) (xs : Nat → Int32) (L : Nat) (x4 : Int32) (S M : mem) (o : Nat → Int64) (y0 y1 y2 : Int32) : Option ((Int32 × mem × mem × (Nat → Int64)) ⊕ Int32) :=
cal (f_X4_translation n M y1 y2) fun q67 => (
if y0 = q67.1 then (
some (.inl (x4 + 6, S, q67.2, o))) else (
some (.inr 0)))
def j_law_528 (n : Nat) (xs : Nat → Int32) (L : Nat) (x4 : Int32) (S M : mem) (o : Nat → Int64) (y0 y1 : Int32) : Option ((Int32 × mem × mem × (Nat → Int64)) ⊕ Int32) :=
cal (f_X3_translation n S y0 y1) fun q64 => (
grd (¬ (x4 + 1 < 0 ∨ L ≤ Int32.toNatClampNeg (x4 + 1))) (
grd (¬ (x4 + 2 < 0 ∨ L ≤ Int32.toNatClampNeg (x4 + 2))) (
if (xs (Int32.toNatClampNeg (x4 + 2))) = 0 then (
j_law_552 n xs L x4 q64.2 M o q64.1 (xs (Int32.toNatClampNeg (x4 + 1))) 0) else (
j_law_552 n xs L x4 q64.2 M o q64.1 (xs (Int32.toNatClampNeg (x4 + 1))) 1))))
def k_law_7 (n : Nat) (xs : Nat → Int32) (L : Nat) (x4 : Int32) (S M : mem) (o : Nat → Int64) : Option ((Int32 × mem × mem × (Nat → Int64)) ⊕ Int32) :=
grd (¬ (x4 + 1 < 0 ∨ L ≤ Int32.toNatClampNeg (x4 + 1))) (
grd (¬ (x4 + 2 < 0 ∨ L ≤ Int32.toNatClampNeg (x4 + 2))) (
if (xs (Int32.toNatClampNeg (x4 + 2))) = 0 then (
j_law_528 n xs L x4 S M o (xs (Int32.toNatClampNeg (x4 + 1))) 0) else (
j_law_528 n xs L x4 S M o (xs (Int32.toNatClampNeg (x4 + 1))) 1)))
def k_law_8 (n : Nat) (xs : Nat → Int32) (L : Nat) (x4 : Int32) (S M : mem) (o : Nat → Int64) : Option ((Int32 × mem × mem × (Nat → Int64)) ⊕ Int32) :=
grd (¬ (x4 + 1 < 0 ∨ L ≤ Int32.toNatClampNeg (x4 + 1))) (
cal (f_X3_limit n S (xs (Int32.toNatClampNeg (x4 + 1)))) fun q73 => (
cal (f_X4_limit n M (xs (Int32.toNatClampNeg (x4 + 1)))) fun q74 => (
if q73.1 = q74.1 then (
some (.inl (x4 + 6, q73.2, q74.2, o))) else (
some (.inr 0)))))
def k_law_9 (n : Nat) (xs : Nat → Int32) (L : Nat) (x4 : Int32) (S M : mem) (o : Nat → Int64) : Option ((Int32 × mem × mem × (Nat → Int64)) ⊕ Int32) :=
cal (f_X3_place n S) fun q77 => (
cal (f_X4_place n M) fun q78 => (
if q77.1 = q78.1 then (
some (.inl (x4 + 6, q77.2, q78.2, o))) else (
some (.inr 0))))
def k_law_10 (n : Nat) (xs : Nat → Int32) (L : Nat) (x4 : Int32) (S M : mem) (o : Nat → Int64) : Option ((Int32 × mem × mem × (Nat → Int64)) ⊕ Int32) :=
grd (¬ (x4 + 1 < 0 ∨ L ≤ Int32.toNatClampNeg (x4 + 1))) (
grd (¬ (x4 + 2 < 0 ∨ L ≤ Int32.toNatClampNeg (x4 + 2))) (
cal (f_X3_x n S (xs (Int32.toNatClampNeg (x4 + 1))) (xs (Int32.toNatClampNeg (x4 + 2)))) fun q83 => (
cal (f_X4_x n M (xs (Int32.toNatClampNeg (x4 + 1))) (xs (Int32.toNatClampNeg (x4 + 2)))) fun q84 => (
if q83 = q84.1 then (
some (.inl (x4 + 6, S, q84.2, o))) else (
some (.inr 0))))))
def k_law_11 (n : Nat) (xs : Nat → Int32) (L : Nat) (x4 : Int32) (S M : mem) (o : Nat → Int64) : Option ((Int32 × mem × mem × (Nat → Int64)) ⊕ Int32) :=
grd (¬ (x4 + 1 < 0 ∨ L ≤ Int32.toNatClampNeg (x4 + 1))) (
grd (¬ (x4 + 2 < 0 ∨ L ≤ Int32.toNatClampNeg (x4 + 2))) (
grd (¬ (x4 + 3 < 0 ∨ L ≤ Int32.toNatClampNeg (x4 + 3))) (
cal (f_X3_box n S (xs (Int32.toNatClampNeg (x4 + 1))) (xs (Int32.toNatClampNeg (x4 + 2))) (xs (Int32.toNatClampNeg (x4 + 3)))) fun q90 => (
cal (f_X4_box n M (xs (Int32.toNatClampNeg (x4 + 1))) (xs (Int32.toNatClampNeg (x4 + 2))) (xs (Int32.toNatClampNeg (x4 + 3)))) fun q91 => (
if q90 = q91.1 then (
some (.inl (x4 + 6, S, q91.2, o))) else (
some (.inr 0)))))))
def k_law_12 (n : Nat) (xs : Nat → Int32) (L : Nat) (x4 : Int32) (S M : mem) (o : Nat → Int64) : Option ((Int32 × mem × mem × (Nat → Int64)) ⊕ Int32) :=
grd (¬ (x4 + 1 < 0 ∨ L ≤ Int32.toNatClampNeg (x4 + 1))) (
grd (¬ (x4 + 2 < 0 ∨ L ≤ Int32.toNatClampNeg (x4 + 2))) (
cal (f_X3_hyphens n S (xs (Int32.toNatClampNeg (x4 + 1))) (xs (Int32.toNatClampNeg (x4 + 2)))) fun q96 => (
cal (f_X4_hyphens n M (xs (Int32.toNatClampNeg (x4 + 1))) (xs (Int32.toNatClampNeg (x4 + 2)))) fun q97 => (
if q96 = q97.1 then (
some (.inl (x4 + 6, S, q97.2, o))) else (
some (.inr 0))))))
def k_law_13 (n : Nat) (xs : Nat → Int32) (L : Nat) (x4 : Int32) (S M : mem) (o : Nat → Int64) : Option ((Int32 × mem × mem × (Nat → Int64)) ⊕ Int32) :=
grd (¬ (x4 + 1 < 0 ∨ L ≤ Int32.toNatClampNeg (x4 + 1))) (
grd (¬ (x4 + 2 < 0 ∨ L ≤ Int32.toNatClampNeg (x4 + 2))) (
grd (¬ (x4 + 3 < 0 ∨ L ≤ Int32.toNatClampNeg (x4 + 3))) (
cal (f_X3_hyphen n S (xs (Int32.toNatClampNeg (x4 + 1))) (xs (Int32.toNatClampNeg (x4 + 2))) (xs (Int32.toNatClampNeg (x4 + 3)))) fun q103 => (
cal (f_X4_hyphen n M (xs (Int32.toNatClampNeg (x4 + 1))) (xs (Int32.toNatClampNeg (x4 + 2))) (xs (Int32.toNatClampNeg (x4 + 3)))) fun q104 => (
cal (f_X4_thrown n q104.2) fun q105 => (
if q105 = (ctR q103) then (
if (ctR q103) = 0 then (
if (lg_cmp ((ctO o q103) (Int32.toNatClampNeg 0)) (Int32.toInt64 q104.1)) = 0 then (
some (.inl (x4 + 6, S, q104.2, ctO o q103))) else (
some (.inr 0))) else (
some (.inl (x4 + 6, S, q104.2, ctO o q103)))) else (
some (.inr 0))))))))
def k_law_14 (n : Nat) (xs : Nat → Int32) (L : Nat) (x4 : Int32) (S M : mem) (o : Nat → Int64) : Option ((Int32 × mem × mem × (Nat → Int64)) ⊕ Int32) :=
grd (¬ (x4 + 1 < 0 ∨ L ≤ Int32.toNatClampNeg (x4 + 1))) (
grd (¬ (x4 + 2 < 0 ∨ L ≤ Int32.toNatClampNeg (x4 + 2))) (
grd (¬ (x4 + 3 < 0 ∨ L ≤ Int32.toNatClampNeg (x4 + 3))) (
cal (f_X3_line n S (xs (Int32.toNatClampNeg (x4 + 1))) (xs (Int32.toNatClampNeg (x4 + 2))) (xs (Int32.toNatClampNeg (x4 + 3)))) fun q113 => (
cal (f_X4_line n M (xs (Int32.toNatClampNeg (x4 + 1))) (xs (Int32.toNatClampNeg (x4 + 2))) (xs (Int32.toNatClampNeg (x4 + 3)))) fun q114 => (
if q113 = q114.1 then (
some (.inl (x4 + 6, S, q114.2, o))) else (
some (.inr 0)))))))
def k_law_15 (n : Nat) (xs : Nat → Int32) (L : Nat) (x4 : Int32) (S M : mem) (o : Nat → Int64) : Option ((Int32 × mem × mem × (Nat → Int64)) ⊕ Int32) :=
cal (f_X3_strain n S) fun q117 => (
cal (f_X4_strain n M) fun q118 => (
cal (f_X4_thrown n q118.2) fun q119 => (
if q119 = (ctR q117) then (
if (ctR q117) = 0 then (
if (lg_cmp ((ctO o q117) (Int32.toNatClampNeg 0)) (Int32.toInt64 q118.1)) = 0 then (
some (.inl (x4 + 6, S, q118.2, ctO o q117))) else (
some (.inr 0))) else (
some (.inl (x4 + 6, S, q118.2, ctO o q117)))) else (
some (.inr 0)))))
def k_law_16 (n : Nat) (xs : Nat → Int32) (L : Nat) (x4 : Int32) (S M : mem) (o : Nat → Int64) : Option ((Int32 × mem × mem × (Nat → Int64)) ⊕ Int32) :=
cal (f_X3_faults n S) fun q124 => (
cal (f_X4_faults n M) fun q125 => (
if q124.1 = q125.1 then (
some (.inl (x4 + 6, q124.2, q125.2, o))) else (
some (.inr 0))))
def k_law_17 (n : Nat) (xs : Nat → Int32) (L : Nat) (x4 : Int32) (S M : mem) (o : Nat → Int64) : Option ((Int32 × mem × mem × (Nat → Int64)) ⊕ Int32) :=
grd (¬ (x4 + 1 < 0 ∨ L ≤ Int32.toNatClampNeg (x4 + 1))) (
grd (¬ (x4 + 2 < 0 ∨ L ≤ Int32.toNatClampNeg (x4 + 2))) (
cal (f_X3_fault n S (xs (Int32.toNatClampNeg (x4 + 1))) (xs (Int32.toNatClampNeg (x4 + 2)))) fun q130 => (
cal (f_X4_fault n M (xs (Int32.toNatClampNeg (x4 + 1))) (xs (Int32.toNatClampNeg (x4 + 2)))) fun q131 => (
if q130.1 = q131.1 then (
some (.inl (x4 + 6, q130.2, q131.2, o))) else (
some (.inr 0))))))
def k_law_18 (n : Nat) (xs : Nat → Int32) (L : Nat) (x4 : Int32) (S M : mem) (o : Nat → Int64) : Option ((Int32 × mem × mem × (Nat → Int64)) ⊕ Int32) :=
grd (¬ (x4 + 1 < 0 ∨ L ≤ Int32.toNatClampNeg (x4 + 1))) (
cal (f_X3_shares n S (xs (Int32.toNatClampNeg (x4 + 1)))) fun q135 => (
cal (f_X4_shares n M (xs (Int32.toNatClampNeg (x4 + 1)))) fun q136 => (
if q135 = q136.1 then (
some (.inl (x4 + 6, S, q136.2, o))) else (
some (.inr 0)))))
def k_law_19 (n : Nat) (xs : Nat → Int32) (L : Nat) (x4 : Int32) (S M : mem) (o : Nat → Int64) : Option ((Int32 × mem × mem × (Nat → Int64)) ⊕ Int32) :=
grd (¬ (x4 + 1 < 0 ∨ L ≤ Int32.toNatClampNeg (x4 + 1))) (
cal (f_X3_row n S (xs (Int32.toNatClampNeg (x4 + 1)))) fun q140 => (
cal (f_X4_row n M (xs (Int32.toNatClampNeg (x4 + 1)))) fun q141 => (
if q140 = q141.1 then (
some (.inl (x4 + 6, S, q141.2, o))) else (
some (.inr 0)))))
def k_law_20 (n : Nat) (xs : Nat → Int32) (L : Nat) (x4 : Int32) (S M : mem) (o : Nat → Int64) : Option ((Int32 × mem × mem × (Nat → Int64)) ⊕ Int32) :=
grd (¬ (x4 + 1 < 0 ∨ L ≤ Int32.toNatClampNeg (x4 + 1))) (
grd (¬ (x4 + 2 < 0 ∨ L ≤ Int32.toNatClampNeg (x4 + 2))) (
cal (f_X3_in n S (xs (Int32.toNatClampNeg (x4 + 1))) (xs (Int32.toNatClampNeg (x4 + 2)))) fun q146 => (
cal (f_X4_in n M (xs (Int32.toNatClampNeg (x4 + 1))) (xs (Int32.toNatClampNeg (x4 + 2)))) fun q147 => (
if q146 = q147.1 then (
some (.inl (x4 + 6, S, q147.2, o))) else (
some (.inr 0))))))
def k_law_21 (n : Nat) (xs : Nat → Int32) (L : Nat) (x4 : Int32) (S M : mem) (o : Nat → Int64) : Option ((Int32 × mem × mem × (Nat → Int64)) ⊕ Int32) :=
grd (¬ (x4 + 1 < 0 ∨ L ≤ Int32.toNatClampNeg (x4 + 1))) (
grd (¬ (x4 + 2 < 0 ∨ L ≤ Int32.toNatClampNeg (x4 + 2))) (
grd (¬ (x4 + 3 < 0 ∨ L ≤ Int32.toNatClampNeg (x4 + 3))) (
cal (f_X3_pattern n S (((Int32.toInt64 (xs (Int32.toNatClampNeg (x4 + 1)))) <<< (Int32.toInt64 32 &&& 63)) ||| ((Int32.toInt64 (xs (Int32.toNatClampNeg (x4 + 2)))) &&& 4294967295)) (xs (Int32.toNatClampNeg (x4 + 3)))) fun q153 => (
cal (f_X4_pattern n M (((Int32.toInt64 (xs (Int32.toNatClampNeg (x4 + 1)))) <<< (Int32.toInt64 32 &&& 63)) ||| ((Int32.toInt64 (xs (Int32.toNatClampNeg (x4 + 2)))) &&& 4294967295)) (xs (Int32.toNatClampNeg (x4 + 3)))) fun q154 => (
if q153.1 = q154.1 then (
some (.inl (x4 + 6, q153.2, q154.2, o))) else (
some (.inr 0)))))))
def k_law_22 (n : Nat) (xs : Nat → Int32) (L : Nat) (x4 : Int32) (S M : mem) (o : Nat → Int64) : Option ((Int32 × mem × mem × (Nat → Int64)) ⊕ Int32) :=
grd (¬ (x4 + 1 < 0 ∨ L ≤ Int32.toNatClampNeg (x4 + 1))) (
cal (f_X3_letter n S (xs (Int32.toNatClampNeg (x4 + 1)))) fun q158 => (
cal (f_X4_letter n M (xs (Int32.toNatClampNeg (x4 + 1)))) fun q159 => (
if q158.1 = q159.1 then (
some (.inl (x4 + 6, q158.2, q159.2, o))) else (
some (.inr 0)))))
def k_law_23 (n : Nat) (xs : Nat → Int32) (L : Nat) (x4 : Int32) (S M : mem) (o : Nat → Int64) : Option ((Int32 × mem × mem × (Nat → Int64)) ⊕ Int32) :=
grd (¬ (x4 + 1 < 0 ∨ L ≤ Int32.toNatClampNeg (x4 + 1))) (
grd (¬ (x4 + 2 < 0 ∨ L ≤ Int32.toNatClampNeg (x4 + 2))) (
cal (f_X3_sides n S (xs (Int32.toNatClampNeg (x4 + 1))) (xs (Int32.toNatClampNeg (x4 + 2)))) fun q164 => (
cal (f_X4_sides n M (xs (Int32.toNatClampNeg (x4 + 1))) (xs (Int32.toNatClampNeg (x4 + 2)))) fun q165 => (
if q164.1 = q165.1 then (
some (.inl (x4 + 6, q164.2, q165.2, o))) else (
some (.inr 0))))))
def k_law_24 (n : Nat) (xs : Nat → Int32) (L : Nat) (x4 : Int32) (S M : mem) (o : Nat → Int64) : Option ((Int32 × mem × mem × (Nat → Int64)) ⊕ Int32) :=
cal (f_X3_cuts n S) fun q168 => (
cal (f_X4_cuts n M) fun q169 => (
if q168.1 = q169.1 then (
some (.inl (x4 + 6, q168.2, q169.2, o))) else (
some (.inr 0))))
def k_law_25 (n : Nat) (xs : Nat → Int32) (L : Nat) (x4 : Int32) (S M : mem) (o : Nat → Int64) : Option ((Int32 × mem × mem × (Nat → Int64)) ⊕ Int32) :=
grd (¬ (x4 + 1 < 0 ∨ L ≤ Int32.toNatClampNeg (x4 + 1))) (
cal (f_X3_cut n S (xs (Int32.toNatClampNeg (x4 + 1)))) fun q173 => (
cal (f_X4_cut n M (xs (Int32.toNatClampNeg (x4 + 1)))) fun q174 => (
cal (f_X4_thrown n q174.2) fun q175 => (
if q175 = (ctR q173) then (
if (ctR q173) = 0 then (
if (lg_cmp ((ctO o q173) (Int32.toNatClampNeg 0)) (Int32.toInt64 q174.1)) = 0 then (
some (.inl (x4 + 6, S, q174.2, ctO o q173))) else (
some (.inr 0))) else (
some (.inl (x4 + 6, S, q174.2, ctO o q173)))) else (
some (.inr 0))))))
def k_law_26 (n : Nat) (xs : Nat → Int32) (L : Nat) (x4 : Int32) (S M : mem) (o : Nat → Int64) : Option ((Int32 × mem × mem × (Nat → Int64)) ⊕ Int32) :=
grd (¬ (x4 + 1 < 0 ∨ L ≤ Int32.toNatClampNeg (x4 + 1))) (
cal (f_X3_told n S (xs (Int32.toNatClampNeg (x4 + 1)))) fun q181 => (
cal (f_X4_told n M (xs (Int32.toNatClampNeg (x4 + 1)))) fun q182 => (
if q181 = q182.1 then (
some (.inl (x4 + 6, S, q182.2, o))) else (
some (.inr 0)))))
def k_law_27 (n : Nat) (xs : Nat → Int32) (L : Nat) (x4 : Int32) (S M : mem) (o : Nat → Int64) : Option ((Int32 × mem × mem × (Nat → Int64)) ⊕ Int32) :=
cal (f_X3_clear n S) fun q185 => (
cal (f_X4_clear n M) fun q186 => (
if q185.1 = q186.1 then (
some (.inl (x4 + 6, q185.2, q186.2, o))) else (
some (.inr 0))))
def b_law (n : Nat) (xs : Nat → Int32) (L : Nat) : (Int32 × mem × mem × (Nat → Int64)) → Option ((Int32 × mem × mem × (Nat → Int64)) ⊕ Int32) := fun w =>
if ((Int32.ofNat L) - 6) < w.1 then (
some (.inr 1)) else (
grd (¬ (w.1 < 0 ∨ L ≤ Int32.toNatClampNeg w.1)) (
if ((xs (Int32.toNatClampNeg w.1)) &&& 31) = 0 then (
k_law_0 n xs L w.1 w.2.1 w.2.2.1 w.2.2.2) else (
if ((xs (Int32.toNatClampNeg w.1)) &&& 31) = 1 then (
k_law_1 n xs L w.1 w.2.1 w.2.2.1 w.2.2.2) else (
if ((xs (Int32.toNatClampNeg w.1)) &&& 31) = 2 then (
k_law_2 n xs L w.1 w.2.1 w.2.2.1 w.2.2.2) else (
if ((xs (Int32.toNatClampNeg w.1)) &&& 31) = 3 then (
k_law_3 n xs L w.1 w.2.1 w.2.2.1 w.2.2.2) else (
if ((xs (Int32.toNatClampNeg w.1)) &&& 31) = 4 then (
k_law_4 n xs L w.1 w.2.1 w.2.2.1 w.2.2.2) else (
if ((xs (Int32.toNatClampNeg w.1)) &&& 31) = 5 then (
k_law_5 n xs L w.1 w.2.1 w.2.2.1 w.2.2.2) else (
if ((xs (Int32.toNatClampNeg w.1)) &&& 31) = 6 then (
k_law_6 n xs L w.1 w.2.1 w.2.2.1 w.2.2.2) else (
if ((xs (Int32.toNatClampNeg w.1)) &&& 31) = 7 then (
k_law_7 n xs L w.1 w.2.1 w.2.2.1 w.2.2.2) else (
if ((xs (Int32.toNatClampNeg w.1)) &&& 31) = 8 then (
k_law_8 n xs L w.1 w.2.1 w.2.2.1 w.2.2.2) else (
if ((xs (Int32.toNatClampNeg w.1)) &&& 31) = 9 then (
k_law_9 n xs L w.1 w.2.1 w.2.2.1 w.2.2.2) else (
if ((xs (Int32.toNatClampNeg w.1)) &&& 31) = 10 then (
k_law_10 n xs L w.1 w.2.1 w.2.2.1 w.2.2.2) else (
if ((xs (Int32.toNatClampNeg w.1)) &&& 31) = 11 then (
k_law_11 n xs L w.1 w.2.1 w.2.2.1 w.2.2.2) else (
if ((xs (Int32.toNatClampNeg w.1)) &&& 31) = 12 then (
k_law_12 n xs L w.1 w.2.1 w.2.2.1 w.2.2.2) else (
if ((xs (Int32.toNatClampNeg w.1)) &&& 31) = 13 then (
k_law_13 n xs L w.1 w.2.1 w.2.2.1 w.2.2.2) else (
if ((xs (Int32.toNatClampNeg w.1)) &&& 31) = 14 then (
k_law_14 n xs L w.1 w.2.1 w.2.2.1 w.2.2.2) else (
if ((xs (Int32.toNatClampNeg w.1)) &&& 31) = 15 then (
k_law_15 n xs L w.1 w.2.1 w.2.2.1 w.2.2.2) else (
if ((xs (Int32.toNatClampNeg w.1)) &&& 31) = 16 then (
k_law_16 n xs L w.1 w.2.1 w.2.2.1 w.2.2.2) else (
if ((xs (Int32.toNatClampNeg w.1)) &&& 31) = 17 then (
k_law_17 n xs L w.1 w.2.1 w.2.2.1 w.2.2.2) else (
if ((xs (Int32.toNatClampNeg w.1)) &&& 31) = 18 then (
k_law_18 n xs L w.1 w.2.1 w.2.2.1 w.2.2.2) else (
if ((xs (Int32.toNatClampNeg w.1)) &&& 31) = 19 then (
k_law_19 n xs L w.1 w.2.1 w.2.2.1 w.2.2.2) else (
if ((xs (Int32.toNatClampNeg w.1)) &&& 31) = 20 then (
k_law_20 n xs L w.1 w.2.1 w.2.2.1 w.2.2.2) else (
if ((xs (Int32.toNatClampNeg w.1)) &&& 31) = 21 then (
k_law_21 n xs L w.1 w.2.1 w.2.2.1 w.2.2.2) else (
if ((xs (Int32.toNatClampNeg w.1)) &&& 31) = 22 then (
k_law_22 n xs L w.1 w.2.1 w.2.2.1 w.2.2.2) else (
if ((xs (Int32.toNatClampNeg w.1)) &&& 31) = 23 then (
k_law_23 n xs L w.1 w.2.1 w.2.2.1 w.2.2.2) else (
if ((xs (Int32.toNatClampNeg w.1)) &&& 31) = 24 then (
k_law_24 n xs L w.1 w.2.1 w.2.2.1 w.2.2.2) else (
if ((xs (Int32.toNatClampNeg w.1)) &&& 31) = 25 then (
k_law_25 n xs L w.1 w.2.1 w.2.2.1 w.2.2.2) else (
if ((xs (Int32.toNatClampNeg w.1)) &&& 31) = 26 then (
k_law_26 n xs L w.1 w.2.1 w.2.2.1 w.2.2.2) else (
if ((xs (Int32.toNatClampNeg w.1)) &&& 31) = 27 then (
k_law_27 n xs L w.1 w.2.1 w.2.2.1 w.2.2.2) else (
some (.inl (w.1 + 6, w.2.1, w.2.2.1, w.2.2.2))))))))))))))))))))))))))))))))
set_option maxRecDepth 100000 in
set_option maxHeartbeats 8000000 in
/-- the law's loop: where its pure function answers 1, the machine comes to the law's end with true -/
theorem law_loop {p : Program} {l : Launch} {e : Env} {s : State} {m : MethodId} {below : List Frame} {meth : Method} {c : Code} {b L n : Nat} {xs : Nat → Int32} {g : cx} {am : Nat → Nat → Nat} {ao : Nat} (hl9 : l.stackTraces = false) (F : CallFix p m c code 7 s #[Value.ref b] TBg RL) (hr : meth.sig.returnType = ret) (hlocks : meth.locks = false) (hX : va_X b L xs s s.heap) (hbl : b < s.heap.size) :
    ∀ (k : Nat) (x4 : Int32) (S M : mem) (o : Nat → Int64) (cells slots : Nat), cells + k ≤ 5000 ∧ slots + 6 * k ≤ 50000 → lp (b_law n xs L) k (x4, S, M, o) = some 1 → ∀ (H : Heap) (locs : List Loc) (ls : Array Slot), LW g am ao S M o s H locs → lv_has ls 7 [(0, .ref b), (1, .ref (g.2.2 3 0)), (2, .ref (am 0 0)), (3, .ref ao), (4, .int x4)] → W p l e room_1 s m #[Value.ref b] below meth c H locs cells slots (lw_Z below #[Value.ref b] s) (F0 m 23 ls []) := by
  have hx := F.1
  have hb := F.2.1
  have hbA : ¬ (fun q : Nat => s.heap.size ≤ q) b := Nat.not_le.mpr hbl
  intro k
  induction k with
  | zero => intro x4 S M o cells slots hbud h; exact (lp_zero h).elim
  | succ k ih =>
    intro x4 S M o cells slots hbud h H locs ls B hl
    have hcl : cells ≤ room_1.cells := by show _ ≤ 603072; omega
    have hsl : slots ≤ room_1.slots := by show _ ≤ 7227498; omega
    obtain ⟨t, h, ht⟩ := lp_succ h
    unfold b_law at h
    dsimp only at h
    refine lv_iload hx hb dL_law_23 (lv_at hl 4 rfl) ?_
    refine lv_aload_n hx hb dL_law_25 rfl (lv_at hl 0 rfl) ?_
    refine va_slen hx hb hX hbl hbA B.2.2.1 dL_law_26 ?_
    refine lv_bipush (v := 6) hx hb dL_law_27 (by decide) ?_
    refine lv_isub hx hb dL_law_29 ?_
    refine lv_icmp_gt (tgt := 1275) hx hb dL_law_30 (by decide) (fun c1 => ?_) (fun c1 => ?_)
    · rw [if_pos c1] at h
      refine lv_iconst (v := 1) hx hb dL_law_1275 (by decide) ?_
      obtain rfl := Option.some.inj h
      refine va_forget (fun q hq => B.2.2.1.2.2 q hq) ?_
      refine W.widen (k := 603072) (n := 7227498) hcl hsl ?_
      exact lw_ret hx hb hr hlocks dL_law_1276
    · rw [if_neg c1] at h
      refine lv_aload_n hx hb dL_law_33 rfl (lv_at hl 0 rfl) ?_
      refine lv_iload hx hb dL_law_34 (lv_at hl 4 rfl) ?_
      obtain ⟨z2, h⟩ := grd_some h
      refine va_sld hx hb hX hbl hbA B.2.2.1 z2 dL_law_36 ?_
      refine lv_bipush (v := 31) hx hb dL_law_37 (by decide) ?_
      refine lv_iand hx hb dL_law_39 ?_
      by_cases c3 : ((xs (Int32.toNatClampNeg x4)) &&& 31) = 0
      · rw [if_pos c3] at h
        refine lv_tableIn (tgt := 168) hx hb dL_law_40 (by rw [c3]; decide) (by rw [c3]; decide) (by rw [c3]; rfl) (by decide) ?_
        unfold k_law_0 at h
        refine lv_aload_n hx hb dL_law_168 rfl (lv_at hl 1 rfl) ?_
        refine lv_aload_n hx hb dL_law_169 rfl (lv_at hl 0 rfl) ?_
        refine lv_iload hx hb dL_law_170 (lv_at hl 4 rfl) ?_
        refine lv_iconst (v := 1) hx hb dL_law_172 (by decide) ?_
        refine lv_iadd hx hb dL_law_173 ?_
        obtain ⟨z4, h⟩ := grd_some h
        refine va_sld hx hb hX hbl hbA B.2.2.1 z4 dL_law_174 ?_
        refine lv_aload_n hx hb dL_law_175 rfl (lv_at hl 0 rfl) ?_
        refine lv_iload hx hb dL_law_176 (lv_at hl 4 rfl) ?_
        refine lv_iconst (v := 2) hx hb dL_law_178 (by decide) ?_
        refine lv_iadd hx hb dL_law_179 ?_
        obtain ⟨z5, h⟩ := grd_some h
        refine va_sld hx hb hX hbl hbA B.2.2.1 z5 dL_law_180 ?_
        refine lv_aload_n hx hb dL_law_181 rfl (lv_at hl 0 rfl) ?_
        refine lv_iload hx hb dL_law_182 (lv_at hl 4 rfl) ?_
        refine lv_iconst (v := 3) hx hb dL_law_184 (by decide) ?_
        refine lv_iadd hx hb dL_law_185 ?_
        obtain ⟨z6, h⟩ := grd_some h
        refine va_sld hx hb hX hbl hbA B.2.2.1 z6 dL_law_186 ?_
        have J195 : ∀ (x4 : Int32) (S M : mem) (o : Nat → Int64) (y0 y1 y2 : Int32), j_law_195 n xs L x4 S M o y0 y1 y2 = some t → ∀ (H : Heap) (locs : List Loc) (ls : Array Slot), LW g am ao S M o s H locs → lv_has ls 7 [(0, .ref b), (1, .ref (g.2.2 3 0)), (2, .ref (am 0 0)), (3, .ref ao), (4, .int x4)] → W p l e room_1 s m #[Value.ref b] below meth c H locs cells slots (lw_Z below #[Value.ref b] s) (F0 m 195 ls [.int y2, .int y1, .int y0, .ref (g.2.2 3 0)]) := by
          intro x4 S M o y0 y1 y2 h H locs ls B hl
          unfold j_law_195 at h
          obtain ⟨q7, hq7, h⟩ := cal_some h
          refine lwC F B (c_X3_note l g n S H.size y0 y1 y2 q7 hq7) mC_X3_note mM_L_29 mN_X3 mI_X3_note mS_X3_note ⟨ok_X3_note, by decide, by decide, hcl, hsl⟩ rfl hl.1 rfl (Nat.le_of_ble_eq_true rfl) dL_law_195 (fun H locs B => ?_)
          refine lv_aload_n hx hb dL_law_198 rfl (lv_at hl 2 rfl) ?_
          refine lv_aload_n hx hb dL_law_199 rfl (lv_at hl 0 rfl) ?_
          refine lv_iload hx hb dL_law_200 (lv_at hl 4 rfl) ?_
          refine lv_iconst (v := 1) hx hb dL_law_202 (by decide) ?_
          refine lv_iadd hx hb dL_law_203 ?_
          obtain ⟨z8, h⟩ := grd_some h
          refine va_sld hx hb hX hbl hbA B.2.2.1 z8 dL_law_204 ?_
          refine lv_aload_n hx hb dL_law_205 rfl (lv_at hl 0 rfl) ?_
          refine lv_iload hx hb dL_law_206 (lv_at hl 4 rfl) ?_
          refine lv_iconst (v := 2) hx hb dL_law_208 (by decide) ?_
          refine lv_iadd hx hb dL_law_209 ?_
          obtain ⟨z9, h⟩ := grd_some h
          refine va_sld hx hb hX hbl hbA B.2.2.1 z9 dL_law_210 ?_
          refine lv_aload_n hx hb dL_law_211 rfl (lv_at hl 0 rfl) ?_
          refine lv_iload hx hb dL_law_212 (lv_at hl 4 rfl) ?_
          refine lv_iconst (v := 3) hx hb dL_law_214 (by decide) ?_
          refine lv_iadd hx hb dL_law_215 ?_
          obtain ⟨z10, h⟩ := grd_some h
          refine va_sld hx hb hX hbl hbA B.2.2.1 z10 dL_law_216 ?_
          have J225 : ∀ (x4 : Int32) (S M : mem) (o : Nat → Int64) (y0 y1 y2 y3 : Int32), j_law_225 n xs L x4 S M o y0 y1 y2 y3 = some t → ∀ (H : Heap) (locs : List Loc) (ls : Array Slot), LW g am ao S M o s H locs → lv_has ls 7 [(0, .ref b), (1, .ref (g.2.2 3 0)), (2, .ref (am 0 0)), (3, .ref ao), (4, .int x4)] → W p l e room_1 s m #[Value.ref b] below meth c H locs cells slots (lw_Z below #[Value.ref b] s) (F0 m 225 ls [.int y3, .int y2, .int y1, .ref (am 0 0), .int y0]) := by
            intro x4 S M o y0 y1 y2 y3 h H locs ls B hl
            unfold j_law_225 at h
            obtain ⟨q11, hq11, h⟩ := cal_some h
            refine lwM F B (c_X4_note l (gm g am) n M H.size y1 y2 y3 q11 hq11) mC_X4_note mM_L_33 mN_X4 mI_X4_note mS_X4_note ⟨ok_X4_note, by decide, by decide, hcl, hsl⟩ rfl hl.1 rfl (Nat.le_of_ble_eq_true rfl) dL_law_225 (fun H locs B => ?_)
            refine lv_icmp_eq (tgt := 1269) hx hb dL_law_228 (by decide) (fun c12 => ?_) (fun c12 => ?_)
            · rw [if_pos c12] at h
              refine lv_iinc (v := x4 + 6) (lv' := [(4, .int (x4 + 6)), (0, .ref b), (1, .ref (g.2.2 3 0)), (2, .ref (am 0 0)), (3, .ref ao)]) hx hb dL_law_1269 hl (k := 4) rfl rfl (by decide) rfl (fun ls hl => ?_)
              refine lv_goto (tgt := 23) hx hb dL_law_1272 (by decide) ?_
              obtain rfl := Option.some.inj h
              exact ih (x4 + 6) S q11.2 o (cells) (slots) (by omega) ht H locs ls B (lv_sub hl [1, 2, 3, 4, 0] rfl)
            · rw [if_neg c12] at h
              refine lv_iconst (v := 0) hx hb dL_law_231 (by decide) ?_
              obtain rfl := Option.some.inj h
              exact absurd (show (0 : Int32) = 1 from ht) (by decide)
          refine lv_if_eq (tgt := 224) hx hb dL_law_217 (by decide) (fun c13 => ?_) (fun c13 => ?_)
          · rw [if_pos c13] at h
            refine lv_iconst (v := 0) hx hb dL_law_224 (by decide) ?_
            exact J225 x4 q7.2 M o q7.1 (xs (Int32.toNatClampNeg (x4 + 1))) (xs (Int32.toNatClampNeg (x4 + 2))) 0 h H locs ls B (lv_sub hl [0, 1, 2, 3, 4] rfl)
          · rw [if_neg c13] at h
            refine lv_iconst (v := 1) hx hb dL_law_220 (by decide) ?_
            refine lv_goto (tgt := 225) hx hb dL_law_221 (by decide) ?_
            exact J225 x4 q7.2 M o q7.1 (xs (Int32.toNatClampNeg (x4 + 1))) (xs (Int32.toNatClampNeg (x4 + 2))) 1 h H locs ls B (lv_sub hl [0, 1, 2, 3, 4] rfl)
        refine lv_if_eq (tgt := 194) hx hb dL_law_187 (by decide) (fun c14 => ?_) (fun c14 => ?_)
        · rw [if_pos c14] at h
          refine lv_iconst (v := 0) hx hb dL_law_194 (by decide) ?_
          exact J195 x4 S M o (xs (Int32.toNatClampNeg (x4 + 1))) (xs (Int32.toNatClampNeg (x4 + 2))) 0 h H locs ls B (lv_sub hl [0, 1, 2, 3, 4] rfl)
        · rw [if_neg c14] at h
          refine lv_iconst (v := 1) hx hb dL_law_190 (by decide) ?_
          refine lv_goto (tgt := 195) hx hb dL_law_191 (by decide) ?_
          exact J195 x4 S M o (xs (Int32.toNatClampNeg (x4 + 1))) (xs (Int32.toNatClampNeg (x4 + 2))) 1 h H locs ls B (lv_sub hl [0, 1, 2, 3, 4] rfl)
      · rw [if_neg c3] at h
        by_cases c15 : ((xs (Int32.toNatClampNeg x4)) &&& 31) = 1
        · rw [if_pos c15] at h
          refine lv_tableIn (tgt := 233) hx hb dL_law_40 (by rw [c15]; decide) (by rw [c15]; decide) (by rw [c15]; rfl) (by decide) ?_
          unfold k_law_1 at h
          refine lv_aload_n hx hb dL_law_233 rfl (lv_at hl 1 rfl) ?_
          refine lv_aload_n hx hb dL_law_234 rfl (lv_at hl 0 rfl) ?_
          refine lv_iload hx hb dL_law_235 (lv_at hl 4 rfl) ?_
          refine lv_iconst (v := 1) hx hb dL_law_237 (by decide) ?_
          refine lv_iadd hx hb dL_law_238 ?_
          obtain ⟨z16, h⟩ := grd_some h
          refine va_sld hx hb hX hbl hbA B.2.2.1 z16 dL_law_239 ?_
          refine lv_aload_n hx hb dL_law_240 rfl (lv_at hl 0 rfl) ?_
          refine lv_iload hx hb dL_law_241 (lv_at hl 4 rfl) ?_
          refine lv_iconst (v := 2) hx hb dL_law_243 (by decide) ?_
          refine lv_iadd hx hb dL_law_244 ?_
          obtain ⟨z17, h⟩ := grd_some h
          refine va_sld hx hb hX hbl hbA B.2.2.1 z17 dL_law_245 ?_
          refine lv_aload_n hx hb dL_law_246 rfl (lv_at hl 0 rfl) ?_
          refine lv_iload hx hb dL_law_247 (lv_at hl 4 rfl) ?_
          refine lv_iconst (v := 3) hx hb dL_law_249 (by decide) ?_
          refine lv_iadd hx hb dL_law_250 ?_
          obtain ⟨z18, h⟩ := grd_some h
          refine va_sld hx hb hX hbl hbA B.2.2.1 z18 dL_law_251 ?_
          refine lv_aload_n hx hb dL_law_252 rfl (lv_at hl 0 rfl) ?_
          refine lv_iload hx hb dL_law_253 (lv_at hl 4 rfl) ?_
          refine lv_iconst (v := 4) hx hb dL_law_255 (by decide) ?_
          refine lv_iadd hx hb dL_law_256 ?_
          obtain ⟨z19, h⟩ := grd_some h
          refine va_sld hx hb hX hbl hbA B.2.2.1 z19 dL_law_257 ?_
          refine lv_aload_n hx hb dL_law_258 rfl (lv_at hl 0 rfl) ?_
          refine lv_iload hx hb dL_law_259 (lv_at hl 4 rfl) ?_
          refine lv_iconst (v := 5) hx hb dL_law_261 (by decide) ?_
          refine lv_iadd hx hb dL_law_262 ?_
          obtain ⟨z20, h⟩ := grd_some h
          refine va_sld hx hb hX hbl hbA B.2.2.1 z20 dL_law_263 ?_
          have J272 : ∀ (x4 : Int32) (S M : mem) (o : Nat → Int64) (y0 y1 y2 y3 y4 : Int32), j_law_272 n xs L x4 S M o y0 y1 y2 y3 y4 = some t → ∀ (H : Heap) (locs : List Loc) (ls : Array Slot), LW g am ao S M o s H locs → lv_has ls 7 [(0, .ref b), (1, .ref (g.2.2 3 0)), (2, .ref (am 0 0)), (3, .ref ao), (4, .int x4)] → W p l e room_1 s m #[Value.ref b] below meth c H locs cells slots (lw_Z below #[Value.ref b] s) (F0 m 272 ls [.int y4, .int y3, .int y2, .int y1, .int y0, .ref (g.2.2 3 0)]) := by
            intro x4 S M o y0 y1 y2 y3 y4 h H locs ls B hl
            unfold j_law_272 at h
            obtain ⟨q21, hq21, h⟩ := cal_some h
            refine lwC F B (c_X3_syllable l g n S H.size y0 y1 y2 y3 y4 q21 hq21) mC_X3_syllable mM_L_34 mN_X3 mI_X3_syllable mS_X3_syllable ⟨ok_X3_syllable, by decide, by decide, hcl, hsl⟩ rfl hl.1 rfl (Nat.le_of_ble_eq_true rfl) dL_law_272 (fun H locs B => ?_)
            refine lv_aload_n hx hb dL_law_275 rfl (lv_at hl 2 rfl) ?_
            refine lv_aload_n hx hb dL_law_276 rfl (lv_at hl 0 rfl) ?_
            refine lv_iload hx hb dL_law_277 (lv_at hl 4 rfl) ?_
            refine lv_iconst (v := 1) hx hb dL_law_279 (by decide) ?_
            refine lv_iadd hx hb dL_law_280 ?_
            obtain ⟨z22, h⟩ := grd_some h
            refine va_sld hx hb hX hbl hbA B.2.2.1 z22 dL_law_281 ?_
            refine lv_aload_n hx hb dL_law_282 rfl (lv_at hl 0 rfl) ?_
            refine lv_iload hx hb dL_law_283 (lv_at hl 4 rfl) ?_
            refine lv_iconst (v := 2) hx hb dL_law_285 (by decide) ?_
            refine lv_iadd hx hb dL_law_286 ?_
            obtain ⟨z23, h⟩ := grd_some h
            refine va_sld hx hb hX hbl hbA B.2.2.1 z23 dL_law_287 ?_
            refine lv_aload_n hx hb dL_law_288 rfl (lv_at hl 0 rfl) ?_
            refine lv_iload hx hb dL_law_289 (lv_at hl 4 rfl) ?_
            refine lv_iconst (v := 3) hx hb dL_law_291 (by decide) ?_
            refine lv_iadd hx hb dL_law_292 ?_
            obtain ⟨z24, h⟩ := grd_some h
            refine va_sld hx hb hX hbl hbA B.2.2.1 z24 dL_law_293 ?_
            refine lv_aload_n hx hb dL_law_294 rfl (lv_at hl 0 rfl) ?_
            refine lv_iload hx hb dL_law_295 (lv_at hl 4 rfl) ?_
            refine lv_iconst (v := 4) hx hb dL_law_297 (by decide) ?_
            refine lv_iadd hx hb dL_law_298 ?_
            obtain ⟨z25, h⟩ := grd_some h
            refine va_sld hx hb hX hbl hbA B.2.2.1 z25 dL_law_299 ?_
            refine lv_aload_n hx hb dL_law_300 rfl (lv_at hl 0 rfl) ?_
            refine lv_iload hx hb dL_law_301 (lv_at hl 4 rfl) ?_
            refine lv_iconst (v := 5) hx hb dL_law_303 (by decide) ?_
            refine lv_iadd hx hb dL_law_304 ?_
            obtain ⟨z26, h⟩ := grd_some h
            refine va_sld hx hb hX hbl hbA B.2.2.1 z26 dL_law_305 ?_
            have J314 : ∀ (x4 : Int32) (S M : mem) (o : Nat → Int64) (y0 y1 y2 y3 y4 y5 : Int32), j_law_314 n xs L x4 S M o y0 y1 y2 y3 y4 y5 = some t → ∀ (H : Heap) (locs : List Loc) (ls : Array Slot), LW g am ao S M o s H locs → lv_has ls 7 [(0, .ref b), (1, .ref (g.2.2 3 0)), (2, .ref (am 0 0)), (3, .ref ao), (4, .int x4)] → W p l e room_1 s m #[Value.ref b] below meth c H locs cells slots (lw_Z below #[Value.ref b] s) (F0 m 314 ls [.int y5, .int y4, .int y3, .int y2, .int y1, .ref (am 0 0), .int y0]) := by
              intro x4 S M o y0 y1 y2 y3 y4 y5 h H locs ls B hl
              unfold j_law_314 at h
              obtain ⟨q27, hq27, h⟩ := cal_some h
              refine lwM F B (c_X4_syllable l (gm g am) n M H.size y1 y2 y3 y4 y5 q27 hq27) mC_X4_syllable mM_L_38 mN_X4 mI_X4_syllable mS_X4_syllable ⟨ok_X4_syllable, by decide, by decide, hcl, hsl⟩ rfl hl.1 rfl (Nat.le_of_ble_eq_true rfl) dL_law_314 (fun H locs B => ?_)
              refine lv_icmp_eq (tgt := 1269) hx hb dL_law_317 (by decide) (fun c28 => ?_) (fun c28 => ?_)
              · rw [if_pos c28] at h
                refine lv_iinc (v := x4 + 6) (lv' := [(4, .int (x4 + 6)), (0, .ref b), (1, .ref (g.2.2 3 0)), (2, .ref (am 0 0)), (3, .ref ao)]) hx hb dL_law_1269 hl (k := 4) rfl rfl (by decide) rfl (fun ls hl => ?_)
                refine lv_goto (tgt := 23) hx hb dL_law_1272 (by decide) ?_
                obtain rfl := Option.some.inj h
                exact ih (x4 + 6) S q27.2 o (cells) (slots) (by omega) ht H locs ls B (lv_sub hl [1, 2, 3, 4, 0] rfl)
              · rw [if_neg c28] at h
                refine lv_iconst (v := 0) hx hb dL_law_320 (by decide) ?_
                obtain rfl := Option.some.inj h
                exact absurd (show (0 : Int32) = 1 from ht) (by decide)
            refine lv_if_eq (tgt := 313) hx hb dL_law_306 (by decide) (fun c29 => ?_) (fun c29 => ?_)
            · rw [if_pos c29] at h
              refine lv_iconst (v := 0) hx hb dL_law_313 (by decide) ?_
              exact J314 x4 q21.2 M o q21.1 (xs (Int32.toNatClampNeg (x4 + 1))) (xs (Int32.toNatClampNeg (x4 + 2))) (xs (Int32.toNatClampNeg (x4 + 3))) (xs (Int32.toNatClampNeg (x4 + 4))) 0 h H locs ls B (lv_sub hl [0, 1, 2, 3, 4] rfl)
            · rw [if_neg c29] at h
              refine lv_iconst (v := 1) hx hb dL_law_309 (by decide) ?_
              refine lv_goto (tgt := 314) hx hb dL_law_310 (by decide) ?_
              exact J314 x4 q21.2 M o q21.1 (xs (Int32.toNatClampNeg (x4 + 1))) (xs (Int32.toNatClampNeg (x4 + 2))) (xs (Int32.toNatClampNeg (x4 + 3))) (xs (Int32.toNatClampNeg (x4 + 4))) 1 h H locs ls B (lv_sub hl [0, 1, 2, 3, 4] rfl)
          refine lv_if_eq (tgt := 271) hx hb dL_law_264 (by decide) (fun c30 => ?_) (fun c30 => ?_)
          · rw [if_pos c30] at h
            refine lv_iconst (v := 0) hx hb dL_law_271 (by decide) ?_
            exact J272 x4 S M o (xs (Int32.toNatClampNeg (x4 + 1))) (xs (Int32.toNatClampNeg (x4 + 2))) (xs (Int32.toNatClampNeg (x4 + 3))) (xs (Int32.toNatClampNeg (x4 + 4))) 0 h H locs ls B (lv_sub hl [0, 1, 2, 3, 4] rfl)
          · rw [if_neg c30] at h
            refine lv_iconst (v := 1) hx hb dL_law_267 (by decide) ?_
            refine lv_goto (tgt := 272) hx hb dL_law_268 (by decide) ?_
            exact J272 x4 S M o (xs (Int32.toNatClampNeg (x4 + 1))) (xs (Int32.toNatClampNeg (x4 + 2))) (xs (Int32.toNatClampNeg (x4 + 3))) (xs (Int32.toNatClampNeg (x4 + 4))) 1 h H locs ls B (lv_sub hl [0, 1, 2, 3, 4] rfl)
        · rw [if_neg c15] at h
          by_cases c31 : ((xs (Int32.toNatClampNeg x4)) &&& 31) = 2
          · rw [if_pos c31] at h
            refine lv_tableIn (tgt := 322) hx hb dL_law_40 (by rw [c31]; decide) (by rw [c31]; decide) (by rw [c31]; rfl) (by decide) ?_
            unfold k_law_2 at h
            refine lv_aload_n hx hb dL_law_322 rfl (lv_at hl 1 rfl) ?_
            refine lv_aload_n hx hb dL_law_323 rfl (lv_at hl 0 rfl) ?_
            refine lv_iload hx hb dL_law_324 (lv_at hl 4 rfl) ?_
            refine lv_iconst (v := 1) hx hb dL_law_326 (by decide) ?_
            refine lv_iadd hx hb dL_law_327 ?_
            obtain ⟨z32, h⟩ := grd_some h
            refine va_sld hx hb hX hbl hbA B.2.2.1 z32 dL_law_328 ?_
            refine lv_aload_n hx hb dL_law_329 rfl (lv_at hl 0 rfl) ?_
            refine lv_iload hx hb dL_law_330 (lv_at hl 4 rfl) ?_
            refine lv_iconst (v := 2) hx hb dL_law_332 (by decide) ?_
            refine lv_iadd hx hb dL_law_333 ?_
            obtain ⟨z33, h⟩ := grd_some h
            refine va_sld hx hb hX hbl hbA B.2.2.1 z33 dL_law_334 ?_
            obtain ⟨q34, hq34, h⟩ := cal_some h
            refine lwC F B (c_X3_wipe l g n S H.size (xs (Int32.toNatClampNeg (x4 + 1))) (xs (Int32.toNatClampNeg (x4 + 2))) q34 hq34) mC_X3_wipe mM_L_39 mN_X3 mI_X3_wipe mS_X3_wipe ⟨ok_X3_wipe, by decide, by decide, hcl, hsl⟩ rfl hl.1 rfl (Nat.le_of_ble_eq_true rfl) dL_law_335 (fun H locs B => ?_)
            refine lv_aload_n hx hb dL_law_338 rfl (lv_at hl 2 rfl) ?_
            refine lv_aload_n hx hb dL_law_339 rfl (lv_at hl 0 rfl) ?_
            refine lv_iload hx hb dL_law_340 (lv_at hl 4 rfl) ?_
            refine lv_iconst (v := 1) hx hb dL_law_342 (by decide) ?_
            refine lv_iadd hx hb dL_law_343 ?_
            refine va_sld hx hb hX hbl hbA B.2.2.1 z32 dL_law_344 ?_
            refine lv_aload_n hx hb dL_law_345 rfl (lv_at hl 0 rfl) ?_
            refine lv_iload hx hb dL_law_346 (lv_at hl 4 rfl) ?_
            refine lv_iconst (v := 2) hx hb dL_law_348 (by decide) ?_
            refine lv_iadd hx hb dL_law_349 ?_
            refine va_sld hx hb hX hbl hbA B.2.2.1 z33 dL_law_350 ?_
            obtain ⟨q35, hq35, h⟩ := cal_some h
            refine lwM F B (c_X4_wipe l (gm g am) n M H.size (xs (Int32.toNatClampNeg (x4 + 1))) (xs (Int32.toNatClampNeg (x4 + 2))) q35 hq35) mC_X4_wipe mM_L_43 mN_X4 mI_X4_wipe mS_X4_wipe ⟨ok_X4_wipe, by decide, by decide, hcl, hsl⟩ rfl hl.1 rfl (Nat.le_of_ble_eq_true rfl) dL_law_351 (fun H locs B => ?_)
            refine lv_icmp_eq (tgt := 1269) hx hb dL_law_354 (by decide) (fun c36 => ?_) (fun c36 => ?_)
            · rw [if_pos c36] at h
              refine lv_iinc (v := x4 + 6) (lv' := [(4, .int (x4 + 6)), (0, .ref b), (1, .ref (g.2.2 3 0)), (2, .ref (am 0 0)), (3, .ref ao)]) hx hb dL_law_1269 hl (k := 4) rfl rfl (by decide) rfl (fun ls hl => ?_)
              refine lv_goto (tgt := 23) hx hb dL_law_1272 (by decide) ?_
              obtain rfl := Option.some.inj h
              exact ih (x4 + 6) q34.2 q35.2 o (cells) (slots) (by omega) ht H locs ls B (lv_sub hl [1, 2, 3, 4, 0] rfl)
            · rw [if_neg c36] at h
              refine lv_iconst (v := 0) hx hb dL_law_357 (by decide) ?_
              obtain rfl := Option.some.inj h
              exact absurd (show (0 : Int32) = 1 from ht) (by decide)
          · rw [if_neg c31] at h
            by_cases c37 : ((xs (Int32.toNatClampNeg x4)) &&& 31) = 3
            · rw [if_pos c37] at h
              refine lv_tableIn (tgt := 359) hx hb dL_law_40 (by rw [c37]; decide) (by rw [c37]; decide) (by rw [c37]; rfl) (by decide) ?_
              unfold k_law_3 at h
              refine lv_aload_n hx hb dL_law_359 rfl (lv_at hl 1 rfl) ?_
              refine lv_aload_n hx hb dL_law_360 rfl (lv_at hl 0 rfl) ?_
              refine lv_iload hx hb dL_law_361 (lv_at hl 4 rfl) ?_
              refine lv_iconst (v := 1) hx hb dL_law_363 (by decide) ?_
              refine lv_iadd hx hb dL_law_364 ?_
              obtain ⟨z38, h⟩ := grd_some h
              refine va_sld hx hb hX hbl hbA B.2.2.1 z38 dL_law_365 ?_
              refine lv_aload_n hx hb dL_law_366 rfl (lv_at hl 0 rfl) ?_
              refine lv_iload hx hb dL_law_367 (lv_at hl 4 rfl) ?_
              refine lv_iconst (v := 2) hx hb dL_law_369 (by decide) ?_
              refine lv_iadd hx hb dL_law_370 ?_
              obtain ⟨z39, h⟩ := grd_some h
              refine va_sld hx hb hX hbl hbA B.2.2.1 z39 dL_law_371 ?_
              obtain ⟨q40, hq40, h⟩ := cal_some h
              refine lwC F B (c_X3_chord l g n S H.size (xs (Int32.toNatClampNeg (x4 + 1))) (xs (Int32.toNatClampNeg (x4 + 2))) q40 hq40) mC_X3_chord mM_L_44 mN_X3 mI_X3_chord mS_X3_chord ⟨ok_X3_chord, by decide, by decide, hcl, hsl⟩ rfl hl.1 rfl (Nat.le_of_ble_eq_true rfl) dL_law_372 (fun H locs B => ?_)
              refine lv_aload_n hx hb dL_law_375 rfl (lv_at hl 2 rfl) ?_
              refine lv_aload_n hx hb dL_law_376 rfl (lv_at hl 0 rfl) ?_
              refine lv_iload hx hb dL_law_377 (lv_at hl 4 rfl) ?_
              refine lv_iconst (v := 1) hx hb dL_law_379 (by decide) ?_
              refine lv_iadd hx hb dL_law_380 ?_
              refine va_sld hx hb hX hbl hbA B.2.2.1 z38 dL_law_381 ?_
              refine lv_aload_n hx hb dL_law_382 rfl (lv_at hl 0 rfl) ?_
              refine lv_iload hx hb dL_law_383 (lv_at hl 4 rfl) ?_
              refine lv_iconst (v := 2) hx hb dL_law_385 (by decide) ?_
              refine lv_iadd hx hb dL_law_386 ?_
              refine va_sld hx hb hX hbl hbA B.2.2.1 z39 dL_law_387 ?_
              obtain ⟨q41, hq41, h⟩ := cal_some h
              refine lwM F B (c_X4_chord l (gm g am) n M H.size (xs (Int32.toNatClampNeg (x4 + 1))) (xs (Int32.toNatClampNeg (x4 + 2))) q41 hq41) mC_X4_chord mM_L_47 mN_X4 mI_X4_chord mS_X4_chord ⟨ok_X4_chord, by decide, by decide, hcl, hsl⟩ rfl hl.1 rfl (Nat.le_of_ble_eq_true rfl) dL_law_388 (fun H locs B => ?_)
              refine lv_icmp_eq (tgt := 1269) hx hb dL_law_391 (by decide) (fun c42 => ?_) (fun c42 => ?_)
              · rw [if_pos c42] at h
                refine lv_iinc (v := x4 + 6) (lv' := [(4, .int (x4 + 6)), (0, .ref b), (1, .ref (g.2.2 3 0)), (2, .ref (am 0 0)), (3, .ref ao)]) hx hb dL_law_1269 hl (k := 4) rfl rfl (by decide) rfl (fun ls hl => ?_)
                refine lv_goto (tgt := 23) hx hb dL_law_1272 (by decide) ?_
                obtain rfl := Option.some.inj h
                exact ih (x4 + 6) q40.2 q41.2 o (cells) (slots) (by omega) ht H locs ls B (lv_sub hl [1, 2, 3, 4, 0] rfl)
              · rw [if_neg c42] at h
                refine lv_iconst (v := 0) hx hb dL_law_394 (by decide) ?_
                obtain rfl := Option.some.inj h
                exact absurd (show (0 : Int32) = 1 from ht) (by decide)
            · rw [if_neg c37] at h
              by_cases c43 : ((xs (Int32.toNatClampNeg x4)) &&& 31) = 4
              · rw [if_pos c43] at h
                refine lv_tableIn (tgt := 396) hx hb dL_law_40 (by rw [c43]; decide) (by rw [c43]; decide) (by rw [c43]; rfl) (by decide) ?_
                unfold k_law_4 at h
                refine lv_aload_n hx hb dL_law_396 rfl (lv_at hl 1 rfl) ?_
                refine lv_aload_n hx hb dL_law_397 rfl (lv_at hl 0 rfl) ?_
                refine lv_iload hx hb dL_law_398 (lv_at hl 4 rfl) ?_
                refine lv_iconst (v := 1) hx hb dL_law_400 (by decide) ?_
                refine lv_iadd hx hb dL_law_401 ?_
                obtain ⟨z44, h⟩ := grd_some h
                refine va_sld hx hb hX hbl hbA B.2.2.1 z44 dL_law_402 ?_
                refine lv_aload_n hx hb dL_law_403 rfl (lv_at hl 0 rfl) ?_
                refine lv_iload hx hb dL_law_404 (lv_at hl 4 rfl) ?_
                refine lv_iconst (v := 2) hx hb dL_law_406 (by decide) ?_
                refine lv_iadd hx hb dL_law_407 ?_
                obtain ⟨z45, h⟩ := grd_some h
                refine va_sld hx hb hX hbl hbA B.2.2.1 z45 dL_law_408 ?_
                obtain ⟨q46, hq46, h⟩ := cal_some h
                refine lwC F B (c_X3_melisma l g n S H.size (xs (Int32.toNatClampNeg (x4 + 1))) (xs (Int32.toNatClampNeg (x4 + 2))) q46 hq46) mC_X3_melisma mM_L_48 mN_X3 mI_X3_melisma mS_X3_melisma ⟨ok_X3_melisma, by decide, by decide, hcl, hsl⟩ rfl hl.1 rfl (Nat.le_of_ble_eq_true rfl) dL_law_409 (fun H locs B => ?_)
                refine lv_aload_n hx hb dL_law_412 rfl (lv_at hl 2 rfl) ?_
                refine lv_aload_n hx hb dL_law_413 rfl (lv_at hl 0 rfl) ?_
                refine lv_iload hx hb dL_law_414 (lv_at hl 4 rfl) ?_
                refine lv_iconst (v := 1) hx hb dL_law_416 (by decide) ?_
                refine lv_iadd hx hb dL_law_417 ?_
                refine va_sld hx hb hX hbl hbA B.2.2.1 z44 dL_law_418 ?_
                refine lv_aload_n hx hb dL_law_419 rfl (lv_at hl 0 rfl) ?_
                refine lv_iload hx hb dL_law_420 (lv_at hl 4 rfl) ?_
                refine lv_iconst (v := 2) hx hb dL_law_422 (by decide) ?_
                refine lv_iadd hx hb dL_law_423 ?_
                refine va_sld hx hb hX hbl hbA B.2.2.1 z45 dL_law_424 ?_
                obtain ⟨q47, hq47, h⟩ := cal_some h
                refine lwM F B (c_X4_melisma l (gm g am) n M H.size (xs (Int32.toNatClampNeg (x4 + 1))) (xs (Int32.toNatClampNeg (x4 + 2))) q47 hq47) mC_X4_melisma mM_L_51 mN_X4 mI_X4_melisma mS_X4_melisma ⟨ok_X4_melisma, by decide, by decide, hcl, hsl⟩ rfl hl.1 rfl (Nat.le_of_ble_eq_true rfl) dL_law_425 (fun H locs B => ?_)
                refine lv_icmp_eq (tgt := 1269) hx hb dL_law_428 (by decide) (fun c48 => ?_) (fun c48 => ?_)
                · rw [if_pos c48] at h
                  refine lv_iinc (v := x4 + 6) (lv' := [(4, .int (x4 + 6)), (0, .ref b), (1, .ref (g.2.2 3 0)), (2, .ref (am 0 0)), (3, .ref ao)]) hx hb dL_law_1269 hl (k := 4) rfl rfl (by decide) rfl (fun ls hl => ?_)
                  refine lv_goto (tgt := 23) hx hb dL_law_1272 (by decide) ?_
                  obtain rfl := Option.some.inj h
                  exact ih (x4 + 6) q46.2 q47.2 o (cells) (slots) (by omega) ht H locs ls B (lv_sub hl [1, 2, 3, 4, 0] rfl)
                · rw [if_neg c48] at h
                  refine lv_iconst (v := 0) hx hb dL_law_431 (by decide) ?_
                  obtain rfl := Option.some.inj h
                  exact absurd (show (0 : Int32) = 1 from ht) (by decide)
              · rw [if_neg c43] at h
                by_cases c49 : ((xs (Int32.toNatClampNeg x4)) &&& 31) = 5
                · rw [if_pos c49] at h
                  refine lv_tableIn (tgt := 433) hx hb dL_law_40 (by rw [c49]; decide) (by rw [c49]; decide) (by rw [c49]; rfl) (by decide) ?_
                  unfold k_law_5 at h
                  refine lv_aload_n hx hb dL_law_433 rfl (lv_at hl 1 rfl) ?_
                  refine lv_aload_n hx hb dL_law_434 rfl (lv_at hl 0 rfl) ?_
                  refine lv_iload hx hb dL_law_435 (lv_at hl 4 rfl) ?_
                  refine lv_iconst (v := 1) hx hb dL_law_437 (by decide) ?_
                  refine lv_iadd hx hb dL_law_438 ?_
                  obtain ⟨z50, h⟩ := grd_some h
                  refine va_sld hx hb hX hbl hbA B.2.2.1 z50 dL_law_439 ?_
                  refine lv_aload_n hx hb dL_law_440 rfl (lv_at hl 0 rfl) ?_
                  refine lv_iload hx hb dL_law_441 (lv_at hl 4 rfl) ?_
                  refine lv_iconst (v := 2) hx hb dL_law_443 (by decide) ?_
                  refine lv_iadd hx hb dL_law_444 ?_
                  obtain ⟨z51, h⟩ := grd_some h
                  refine va_sld hx hb hX hbl hbA B.2.2.1 z51 dL_law_445 ?_
                  obtain ⟨q52, hq52, h⟩ := cal_some h
                  refine lwC F B (c_X3_refrain l g n S H.size (xs (Int32.toNatClampNeg (x4 + 1))) (xs (Int32.toNatClampNeg (x4 + 2))) q52 hq52) mC_X3_refrain mM_L_52 mN_X3 mI_X3_refrain mS_X3_refrain ⟨ok_X3_refrain, by decide, by decide, hcl, hsl⟩ rfl hl.1 rfl (Nat.le_of_ble_eq_true rfl) dL_law_446 (fun H locs B => ?_)
                  refine lv_aload_n hx hb dL_law_449 rfl (lv_at hl 2 rfl) ?_
                  refine lv_aload_n hx hb dL_law_450 rfl (lv_at hl 0 rfl) ?_
                  refine lv_iload hx hb dL_law_451 (lv_at hl 4 rfl) ?_
                  refine lv_iconst (v := 1) hx hb dL_law_453 (by decide) ?_
                  refine lv_iadd hx hb dL_law_454 ?_
                  refine va_sld hx hb hX hbl hbA B.2.2.1 z50 dL_law_455 ?_
                  refine lv_aload_n hx hb dL_law_456 rfl (lv_at hl 0 rfl) ?_
                  refine lv_iload hx hb dL_law_457 (lv_at hl 4 rfl) ?_
                  refine lv_iconst (v := 2) hx hb dL_law_459 (by decide) ?_
                  refine lv_iadd hx hb dL_law_460 ?_
                  refine va_sld hx hb hX hbl hbA B.2.2.1 z51 dL_law_461 ?_
                  obtain ⟨q53, hq53, h⟩ := cal_some h
                  refine lwM F B (c_X4_refrain l (gm g am) n M H.size (xs (Int32.toNatClampNeg (x4 + 1))) (xs (Int32.toNatClampNeg (x4 + 2))) q53 hq53) mC_X4_refrain mM_L_55 mN_X4 mI_X4_refrain mS_X4_refrain ⟨ok_X4_refrain, by decide, by decide, hcl, hsl⟩ rfl hl.1 rfl (Nat.le_of_ble_eq_true rfl) dL_law_462 (fun H locs B => ?_)
                  refine lv_icmp_eq (tgt := 1269) hx hb dL_law_465 (by decide) (fun c54 => ?_) (fun c54 => ?_)
                  · rw [if_pos c54] at h
                    refine lv_iinc (v := x4 + 6) (lv' := [(4, .int (x4 + 6)), (0, .ref b), (1, .ref (g.2.2 3 0)), (2, .ref (am 0 0)), (3, .ref ao)]) hx hb dL_law_1269 hl (k := 4) rfl rfl (by decide) rfl (fun ls hl => ?_)
                    refine lv_goto (tgt := 23) hx hb dL_law_1272 (by decide) ?_
                    obtain rfl := Option.some.inj h
                    exact ih (x4 + 6) q52.2 q53.2 o (cells) (slots) (by omega) ht H locs ls B (lv_sub hl [1, 2, 3, 4, 0] rfl)
                  · rw [if_neg c54] at h
                    refine lv_iconst (v := 0) hx hb dL_law_468 (by decide) ?_
                    obtain rfl := Option.some.inj h
                    exact absurd (show (0 : Int32) = 1 from ht) (by decide)
                · rw [if_neg c49] at h
                  by_cases c55 : ((xs (Int32.toNatClampNeg x4)) &&& 31) = 6
                  · rw [if_pos c55] at h
                    refine lv_tableIn (tgt := 470) hx hb dL_law_40 (by rw [c55]; decide) (by rw [c55]; decide) (by rw [c55]; rfl) (by decide) ?_
                    unfold k_law_6 at h
                    refine lv_aload_n hx hb dL_law_470 rfl (lv_at hl 1 rfl) ?_
                    refine lv_aload_n hx hb dL_law_471 rfl (lv_at hl 0 rfl) ?_
                    refine lv_iload hx hb dL_law_472 (lv_at hl 4 rfl) ?_
                    refine lv_iconst (v := 1) hx hb dL_law_474 (by decide) ?_
                    refine lv_iadd hx hb dL_law_475 ?_
                    obtain ⟨z56, h⟩ := grd_some h
                    refine va_sld hx hb hX hbl hbA B.2.2.1 z56 dL_law_476 ?_
                    refine lv_aload_n hx hb dL_law_477 rfl (lv_at hl 0 rfl) ?_
                    refine lv_iload hx hb dL_law_478 (lv_at hl 4 rfl) ?_
                    refine lv_iconst (v := 2) hx hb dL_law_480 (by decide) ?_
                    refine lv_iadd hx hb dL_law_481 ?_
                    obtain ⟨z57, h⟩ := grd_some h
                    refine va_sld hx hb hX hbl hbA B.2.2.1 z57 dL_law_482 ?_
                    obtain ⟨q58, hq58, h⟩ := cal_some h
                    refine lwC F B (c_X3_align l g n S H.size (xs (Int32.toNatClampNeg (x4 + 1))) (xs (Int32.toNatClampNeg (x4 + 2))) q58 hq58) mC_X3_align mM_L_56 mN_X3 mI_X3_align mS_X3_align ⟨ok_X3_align, by decide, by decide, hcl, hsl⟩ rfl hl.1 rfl (Nat.le_of_ble_eq_true rfl) dL_law_483 (fun H locs B => ?_)
                    refine lv_aload_n hx hb dL_law_486 rfl (lv_at hl 2 rfl) ?_
                    refine lv_aload_n hx hb dL_law_487 rfl (lv_at hl 0 rfl) ?_
                    refine lv_iload hx hb dL_law_488 (lv_at hl 4 rfl) ?_
                    refine lv_iconst (v := 1) hx hb dL_law_490 (by decide) ?_
                    refine lv_iadd hx hb dL_law_491 ?_
                    refine va_sld hx hb hX hbl hbA B.2.2.1 z56 dL_law_492 ?_
                    refine lv_aload_n hx hb dL_law_493 rfl (lv_at hl 0 rfl) ?_
                    refine lv_iload hx hb dL_law_494 (lv_at hl 4 rfl) ?_
                    refine lv_iconst (v := 2) hx hb dL_law_496 (by decide) ?_
                    refine lv_iadd hx hb dL_law_497 ?_
                    refine va_sld hx hb hX hbl hbA B.2.2.1 z57 dL_law_498 ?_
                    obtain ⟨q59, hq59, h⟩ := cal_some h
                    refine lwM F B (c_X4_align l (gm g am) n M H.size (xs (Int32.toNatClampNeg (x4 + 1))) (xs (Int32.toNatClampNeg (x4 + 2))) q59 hq59) mC_X4_align mM_L_59 mN_X4 mI_X4_align mS_X4_align ⟨ok_X4_align, by decide, by decide, hcl, hsl⟩ rfl hl.1 rfl (Nat.le_of_ble_eq_true rfl) dL_law_499 (fun H locs B => ?_)
                    refine lv_icmp_eq (tgt := 1269) hx hb dL_law_502 (by decide) (fun c60 => ?_) (fun c60 => ?_)
                    · rw [if_pos c60] at h
                      refine lv_iinc (v := x4 + 6) (lv' := [(4, .int (x4 + 6)), (0, .ref b), (1, .ref (g.2.2 3 0)), (2, .ref (am 0 0)), (3, .ref ao)]) hx hb dL_law_1269 hl (k := 4) rfl rfl (by decide) rfl (fun ls hl => ?_)
                      refine lv_goto (tgt := 23) hx hb dL_law_1272 (by decide) ?_
                      obtain rfl := Option.some.inj h
                      exact ih (x4 + 6) q58.2 q59.2 o (cells) (slots) (by omega) ht H locs ls B (lv_sub hl [1, 2, 3, 4, 0] rfl)
                    · rw [if_neg c60] at h
                      refine lv_iconst (v := 0) hx hb dL_law_505 (by decide) ?_
                      obtain rfl := Option.some.inj h
                      exact absurd (show (0 : Int32) = 1 from ht) (by decide)
                  · rw [if_neg c55] at h
                    by_cases c61 : ((xs (Int32.toNatClampNeg x4)) &&& 31) = 7
                    · rw [if_pos c61] at h
                      refine lv_tableIn (tgt := 507) hx hb dL_law_40 (by rw [c61]; decide) (by rw [c61]; decide) (by rw [c61]; rfl) (by decide) ?_
                      unfold k_law_7 at h
                      refine lv_aload_n hx hb dL_law_507 rfl (lv_at hl 1 rfl) ?_
                      refine lv_aload_n hx hb dL_law_508 rfl (lv_at hl 0 rfl) ?_
                      refine lv_iload hx hb dL_law_509 (lv_at hl 4 rfl) ?_
                      refine lv_iconst (v := 1) hx hb dL_law_511 (by decide) ?_
                      refine lv_iadd hx hb dL_law_512 ?_
                      obtain ⟨z62, h⟩ := grd_some h
                      refine va_sld hx hb hX hbl hbA B.2.2.1 z62 dL_law_513 ?_
                      refine lv_aload_n hx hb dL_law_514 rfl (lv_at hl 0 rfl) ?_
                      refine lv_iload hx hb dL_law_515 (lv_at hl 4 rfl) ?_
                      refine lv_iconst (v := 2) hx hb dL_law_517 (by decide) ?_
                      refine lv_iadd hx hb dL_law_518 ?_
                      obtain ⟨z63, h⟩ := grd_some h
                      refine va_sld hx hb hX hbl hbA B.2.2.1 z63 dL_law_519 ?_
                      have J528 : ∀ (x4 : Int32) (S M : mem) (o : Nat → Int64) (y0 y1 : Int32), j_law_528 n xs L x4 S M o y0 y1 = some t → ∀ (H : Heap) (locs : List Loc) (ls : Array Slot), LW g am ao S M o s H locs → lv_has ls 7 [(0, .ref b), (1, .ref (g.2.2 3 0)), (2, .ref (am 0 0)), (3, .ref ao), (4, .int x4)] → W p l e room_1 s m #[Value.ref b] below meth c H locs cells slots (lw_Z below #[Value.ref b] s) (F0 m 528 ls [.int y1, .int y0, .ref (g.2.2 3 0)]) := by
                        intro x4 S M o y0 y1 h H locs ls B hl
                        unfold j_law_528 at h
                        obtain ⟨q64, hq64, h⟩ := cal_some h
                        refine lwC F B (c_X3_translation l g n S H.size y0 y1 q64 hq64) mC_X3_translation mM_L_60 mN_X3 mI_X3_translation mS_X3_translation ⟨ok_X3_translation, by decide, by decide, hcl, hsl⟩ rfl hl.1 rfl (Nat.le_of_ble_eq_true rfl) dL_law_528 (fun H locs B => ?_)
                        refine lv_aload_n hx hb dL_law_531 rfl (lv_at hl 2 rfl) ?_
                        refine lv_aload_n hx hb dL_law_532 rfl (lv_at hl 0 rfl) ?_
                        refine lv_iload hx hb dL_law_533 (lv_at hl 4 rfl) ?_
                        refine lv_iconst (v := 1) hx hb dL_law_535 (by decide) ?_
                        refine lv_iadd hx hb dL_law_536 ?_
                        obtain ⟨z65, h⟩ := grd_some h
                        refine va_sld hx hb hX hbl hbA B.2.2.1 z65 dL_law_537 ?_
                        refine lv_aload_n hx hb dL_law_538 rfl (lv_at hl 0 rfl) ?_
                        refine lv_iload hx hb dL_law_539 (lv_at hl 4 rfl) ?_
                        refine lv_iconst (v := 2) hx hb dL_law_541 (by decide) ?_
                        refine lv_iadd hx hb dL_law_542 ?_
                        obtain ⟨z66, h⟩ := grd_some h
                        refine va_sld hx hb hX hbl hbA B.2.2.1 z66 dL_law_543 ?_
                        have J552 : ∀ (x4 : Int32) (S M : mem) (o : Nat → Int64) (y0 y1 y2 : Int32), j_law_552 n xs L x4 S M o y0 y1 y2 = some t → ∀ (H : Heap) (locs : List Loc) (ls : Array Slot), LW g am ao S M o s H locs → lv_has ls 7 [(0, .ref b), (1, .ref (g.2.2 3 0)), (2, .ref (am 0 0)), (3, .ref ao), (4, .int x4)] → W p l e room_1 s m #[Value.ref b] below meth c H locs cells slots (lw_Z below #[Value.ref b] s) (F0 m 552 ls [.int y2, .int y1, .ref (am 0 0), .int y0]) := by
                          intro x4 S M o y0 y1 y2 h H locs ls B hl
                          unfold j_law_552 at h
                          obtain ⟨q67, hq67, h⟩ := cal_some h
                          refine lwM F B (c_X4_translation l (gm g am) n M H.size y1 y2 q67 hq67) mC_X4_translation mM_L_64 mN_X4 mI_X4_translation mS_X4_translation ⟨ok_X4_translation, by decide, by decide, hcl, hsl⟩ rfl hl.1 rfl (Nat.le_of_ble_eq_true rfl) dL_law_552 (fun H locs B => ?_)
                          refine lv_icmp_eq (tgt := 1269) hx hb dL_law_555 (by decide) (fun c68 => ?_) (fun c68 => ?_)
                          · rw [if_pos c68] at h
                            refine lv_iinc (v := x4 + 6) (lv' := [(4, .int (x4 + 6)), (0, .ref b), (1, .ref (g.2.2 3 0)), (2, .ref (am 0 0)), (3, .ref ao)]) hx hb dL_law_1269 hl (k := 4) rfl rfl (by decide) rfl (fun ls hl => ?_)
                            refine lv_goto (tgt := 23) hx hb dL_law_1272 (by decide) ?_
                            obtain rfl := Option.some.inj h
                            exact ih (x4 + 6) S q67.2 o (cells) (slots) (by omega) ht H locs ls B (lv_sub hl [1, 2, 3, 4, 0] rfl)
                          · rw [if_neg c68] at h
                            refine lv_iconst (v := 0) hx hb dL_law_558 (by decide) ?_
                            obtain rfl := Option.some.inj h
                            exact absurd (show (0 : Int32) = 1 from ht) (by decide)
                        refine lv_if_eq (tgt := 551) hx hb dL_law_544 (by decide) (fun c69 => ?_) (fun c69 => ?_)
                        · rw [if_pos c69] at h
                          refine lv_iconst (v := 0) hx hb dL_law_551 (by decide) ?_
                          exact J552 x4 q64.2 M o q64.1 (xs (Int32.toNatClampNeg (x4 + 1))) 0 h H locs ls B (lv_sub hl [0, 1, 2, 3, 4] rfl)
                        · rw [if_neg c69] at h
                          refine lv_iconst (v := 1) hx hb dL_law_547 (by decide) ?_
                          refine lv_goto (tgt := 552) hx hb dL_law_548 (by decide) ?_
                          exact J552 x4 q64.2 M o q64.1 (xs (Int32.toNatClampNeg (x4 + 1))) 1 h H locs ls B (lv_sub hl [0, 1, 2, 3, 4] rfl)
                      refine lv_if_eq (tgt := 527) hx hb dL_law_520 (by decide) (fun c70 => ?_) (fun c70 => ?_)
                      · rw [if_pos c70] at h
                        refine lv_iconst (v := 0) hx hb dL_law_527 (by decide) ?_
                        exact J528 x4 S M o (xs (Int32.toNatClampNeg (x4 + 1))) 0 h H locs ls B (lv_sub hl [0, 1, 2, 3, 4] rfl)
                      · rw [if_neg c70] at h
                        refine lv_iconst (v := 1) hx hb dL_law_523 (by decide) ?_
                        refine lv_goto (tgt := 528) hx hb dL_law_524 (by decide) ?_
                        exact J528 x4 S M o (xs (Int32.toNatClampNeg (x4 + 1))) 1 h H locs ls B (lv_sub hl [0, 1, 2, 3, 4] rfl)
                    · rw [if_neg c61] at h
                      by_cases c71 : ((xs (Int32.toNatClampNeg x4)) &&& 31) = 8
                      · rw [if_pos c71] at h
                        refine lv_tableIn (tgt := 560) hx hb dL_law_40 (by rw [c71]; decide) (by rw [c71]; decide) (by rw [c71]; rfl) (by decide) ?_
                        unfold k_law_8 at h
                        refine lv_aload_n hx hb dL_law_560 rfl (lv_at hl 1 rfl) ?_
                        refine lv_aload_n hx hb dL_law_561 rfl (lv_at hl 0 rfl) ?_
                        refine lv_iload hx hb dL_law_562 (lv_at hl 4 rfl) ?_
                        refine lv_iconst (v := 1) hx hb dL_law_564 (by decide) ?_
                        refine lv_iadd hx hb dL_law_565 ?_
                        obtain ⟨z72, h⟩ := grd_some h
                        refine va_sld hx hb hX hbl hbA B.2.2.1 z72 dL_law_566 ?_
                        obtain ⟨q73, hq73, h⟩ := cal_some h
                        refine lwC F B (c_X3_limit l g n S H.size (xs (Int32.toNatClampNeg (x4 + 1))) q73 hq73) mC_X3_limit mM_L_65 mN_X3 mI_X3_limit mS_X3_limit ⟨ok_X3_limit, by decide, by decide, hcl, hsl⟩ rfl hl.1 rfl (Nat.le_of_ble_eq_true rfl) dL_law_567 (fun H locs B => ?_)
                        refine lv_aload_n hx hb dL_law_570 rfl (lv_at hl 2 rfl) ?_
                        refine lv_aload_n hx hb dL_law_571 rfl (lv_at hl 0 rfl) ?_
                        refine lv_iload hx hb dL_law_572 (lv_at hl 4 rfl) ?_
                        refine lv_iconst (v := 1) hx hb dL_law_574 (by decide) ?_
                        refine lv_iadd hx hb dL_law_575 ?_
                        refine va_sld hx hb hX hbl hbA B.2.2.1 z72 dL_law_576 ?_
                        obtain ⟨q74, hq74, h⟩ := cal_some h
                        refine lwM F B (c_X4_limit l (gm g am) n M H.size (xs (Int32.toNatClampNeg (x4 + 1))) q74 hq74) mC_X4_limit mM_L_68 mN_X4 mI_X4_limit mS_X4_limit ⟨ok_X4_limit, by decide, by decide, hcl, hsl⟩ rfl hl.1 rfl (Nat.le_of_ble_eq_true rfl) dL_law_577 (fun H locs B => ?_)
                        refine lv_icmp_eq (tgt := 1269) hx hb dL_law_580 (by decide) (fun c75 => ?_) (fun c75 => ?_)
                        · rw [if_pos c75] at h
                          refine lv_iinc (v := x4 + 6) (lv' := [(4, .int (x4 + 6)), (0, .ref b), (1, .ref (g.2.2 3 0)), (2, .ref (am 0 0)), (3, .ref ao)]) hx hb dL_law_1269 hl (k := 4) rfl rfl (by decide) rfl (fun ls hl => ?_)
                          refine lv_goto (tgt := 23) hx hb dL_law_1272 (by decide) ?_
                          obtain rfl := Option.some.inj h
                          exact ih (x4 + 6) q73.2 q74.2 o (cells) (slots) (by omega) ht H locs ls B (lv_sub hl [1, 2, 3, 4, 0] rfl)
                        · rw [if_neg c75] at h
                          refine lv_iconst (v := 0) hx hb dL_law_583 (by decide) ?_
                          obtain rfl := Option.some.inj h
                          exact absurd (show (0 : Int32) = 1 from ht) (by decide)
                      · rw [if_neg c71] at h
                        by_cases c76 : ((xs (Int32.toNatClampNeg x4)) &&& 31) = 9
                        · rw [if_pos c76] at h
                          refine lv_tableIn (tgt := 585) hx hb dL_law_40 (by rw [c76]; decide) (by rw [c76]; decide) (by rw [c76]; rfl) (by decide) ?_
                          unfold k_law_9 at h
                          refine lv_aload_n hx hb dL_law_585 rfl (lv_at hl 1 rfl) ?_
                          obtain ⟨q77, hq77, h⟩ := cal_some h
                          refine lwC F B (c_X3_place l g n S H.size  q77 hq77) mC_X3_place mM_L_69 mN_X3 mI_X3_place mS_X3_place ⟨ok_X3_place, by decide, by decide, hcl, hsl⟩ rfl hl.1 rfl (Nat.le_of_ble_eq_true rfl) dL_law_586 (fun H locs B => ?_)
                          refine lv_aload_n hx hb dL_law_589 rfl (lv_at hl 2 rfl) ?_
                          obtain ⟨q78, hq78, h⟩ := cal_some h
                          refine lwM F B (c_X4_place l (gm g am) n M H.size  q78 hq78) mC_X4_place mM_L_72 mN_X4 mI_X4_place mS_X4_place ⟨ok_X4_place, by decide, by decide, hcl, hsl⟩ rfl hl.1 rfl (Nat.le_of_ble_eq_true rfl) dL_law_590 (fun H locs B => ?_)
                          refine lv_icmp_eq (tgt := 1269) hx hb dL_law_593 (by decide) (fun c79 => ?_) (fun c79 => ?_)
                          · rw [if_pos c79] at h
                            refine lv_iinc (v := x4 + 6) (lv' := [(4, .int (x4 + 6)), (0, .ref b), (1, .ref (g.2.2 3 0)), (2, .ref (am 0 0)), (3, .ref ao)]) hx hb dL_law_1269 hl (k := 4) rfl rfl (by decide) rfl (fun ls hl => ?_)
                            refine lv_goto (tgt := 23) hx hb dL_law_1272 (by decide) ?_
                            obtain rfl := Option.some.inj h
                            exact ih (x4 + 6) q77.2 q78.2 o (cells) (slots) (by omega) ht H locs ls B (lv_sub hl [1, 2, 3, 4, 0] rfl)
                          · rw [if_neg c79] at h
                            refine lv_iconst (v := 0) hx hb dL_law_596 (by decide) ?_
                            obtain rfl := Option.some.inj h
                            exact absurd (show (0 : Int32) = 1 from ht) (by decide)
                        · rw [if_neg c76] at h
                          by_cases c80 : ((xs (Int32.toNatClampNeg x4)) &&& 31) = 10
                          · rw [if_pos c80] at h
                            refine lv_tableIn (tgt := 598) hx hb dL_law_40 (by rw [c80]; decide) (by rw [c80]; decide) (by rw [c80]; rfl) (by decide) ?_
                            unfold k_law_10 at h
                            refine lv_aload_n hx hb dL_law_598 rfl (lv_at hl 1 rfl) ?_
                            refine lv_aload_n hx hb dL_law_599 rfl (lv_at hl 0 rfl) ?_
                            refine lv_iload hx hb dL_law_600 (lv_at hl 4 rfl) ?_
                            refine lv_iconst (v := 1) hx hb dL_law_602 (by decide) ?_
                            refine lv_iadd hx hb dL_law_603 ?_
                            obtain ⟨z81, h⟩ := grd_some h
                            refine va_sld hx hb hX hbl hbA B.2.2.1 z81 dL_law_604 ?_
                            refine lv_aload_n hx hb dL_law_605 rfl (lv_at hl 0 rfl) ?_
                            refine lv_iload hx hb dL_law_606 (lv_at hl 4 rfl) ?_
                            refine lv_iconst (v := 2) hx hb dL_law_608 (by decide) ?_
                            refine lv_iadd hx hb dL_law_609 ?_
                            obtain ⟨z82, h⟩ := grd_some h
                            refine va_sld hx hb hX hbl hbA B.2.2.1 z82 dL_law_610 ?_
                            obtain ⟨q83, hq83, h⟩ := cal_some h
                            refine lwC F B (c_X3_x l g n S H.size (xs (Int32.toNatClampNeg (x4 + 1))) (xs (Int32.toNatClampNeg (x4 + 2))) q83 hq83) mC_X3_x mM_L_73 mN_X3 mI_X3_x mS_X3_x ⟨ok_X3_x, by decide, by decide, hcl, hsl⟩ rfl hl.1 rfl (Nat.le_of_ble_eq_true rfl) dL_law_611 (fun H locs B => ?_)
                            refine lv_aload_n hx hb dL_law_614 rfl (lv_at hl 2 rfl) ?_
                            refine lv_aload_n hx hb dL_law_615 rfl (lv_at hl 0 rfl) ?_
                            refine lv_iload hx hb dL_law_616 (lv_at hl 4 rfl) ?_
                            refine lv_iconst (v := 1) hx hb dL_law_618 (by decide) ?_
                            refine lv_iadd hx hb dL_law_619 ?_
                            refine va_sld hx hb hX hbl hbA B.2.2.1 z81 dL_law_620 ?_
                            refine lv_aload_n hx hb dL_law_621 rfl (lv_at hl 0 rfl) ?_
                            refine lv_iload hx hb dL_law_622 (lv_at hl 4 rfl) ?_
                            refine lv_iconst (v := 2) hx hb dL_law_624 (by decide) ?_
                            refine lv_iadd hx hb dL_law_625 ?_
                            refine va_sld hx hb hX hbl hbA B.2.2.1 z82 dL_law_626 ?_
                            obtain ⟨q84, hq84, h⟩ := cal_some h
                            refine lwM F B (c_X4_x l (gm g am) n M H.size (xs (Int32.toNatClampNeg (x4 + 1))) (xs (Int32.toNatClampNeg (x4 + 2))) q84 hq84) mC_X4_x mM_L_76 mN_X4 mI_X4_x mS_X4_x ⟨ok_X4_x, by decide, by decide, hcl, hsl⟩ rfl hl.1 rfl (Nat.le_of_ble_eq_true rfl) dL_law_627 (fun H locs B => ?_)
                            refine lv_icmp_eq (tgt := 1269) hx hb dL_law_630 (by decide) (fun c85 => ?_) (fun c85 => ?_)
                            · rw [if_pos c85] at h
                              refine lv_iinc (v := x4 + 6) (lv' := [(4, .int (x4 + 6)), (0, .ref b), (1, .ref (g.2.2 3 0)), (2, .ref (am 0 0)), (3, .ref ao)]) hx hb dL_law_1269 hl (k := 4) rfl rfl (by decide) rfl (fun ls hl => ?_)
                              refine lv_goto (tgt := 23) hx hb dL_law_1272 (by decide) ?_
                              obtain rfl := Option.some.inj h
                              exact ih (x4 + 6) S q84.2 o (cells) (slots) (by omega) ht H locs ls B (lv_sub hl [1, 2, 3, 4, 0] rfl)
                            · rw [if_neg c85] at h
                              refine lv_iconst (v := 0) hx hb dL_law_633 (by decide) ?_
                              obtain rfl := Option.some.inj h
                              exact absurd (show (0 : Int32) = 1 from ht) (by decide)
                          · rw [if_neg c80] at h
                            by_cases c86 : ((xs (Int32.toNatClampNeg x4)) &&& 31) = 11
                            · rw [if_pos c86] at h
                              refine lv_tableIn (tgt := 635) hx hb dL_law_40 (by rw [c86]; decide) (by rw [c86]; decide) (by rw [c86]; rfl) (by decide) ?_
                              unfold k_law_11 at h
                              refine lv_aload_n hx hb dL_law_635 rfl (lv_at hl 1 rfl) ?_
                              refine lv_aload_n hx hb dL_law_636 rfl (lv_at hl 0 rfl) ?_
                              refine lv_iload hx hb dL_law_637 (lv_at hl 4 rfl) ?_
                              refine lv_iconst (v := 1) hx hb dL_law_639 (by decide) ?_
                              refine lv_iadd hx hb dL_law_640 ?_
                              obtain ⟨z87, h⟩ := grd_some h
                              refine va_sld hx hb hX hbl hbA B.2.2.1 z87 dL_law_641 ?_
                              refine lv_aload_n hx hb dL_law_642 rfl (lv_at hl 0 rfl) ?_
                              refine lv_iload hx hb dL_law_643 (lv_at hl 4 rfl) ?_
                              refine lv_iconst (v := 2) hx hb dL_law_645 (by decide) ?_
                              refine lv_iadd hx hb dL_law_646 ?_
                              obtain ⟨z88, h⟩ := grd_some h
                              refine va_sld hx hb hX hbl hbA B.2.2.1 z88 dL_law_647 ?_
                              refine lv_aload_n hx hb dL_law_648 rfl (lv_at hl 0 rfl) ?_
                              refine lv_iload hx hb dL_law_649 (lv_at hl 4 rfl) ?_
                              refine lv_iconst (v := 3) hx hb dL_law_651 (by decide) ?_
                              refine lv_iadd hx hb dL_law_652 ?_
                              obtain ⟨z89, h⟩ := grd_some h
                              refine va_sld hx hb hX hbl hbA B.2.2.1 z89 dL_law_653 ?_
                              obtain ⟨q90, hq90, h⟩ := cal_some h
                              refine lwC F B (c_X3_box l g n S H.size (xs (Int32.toNatClampNeg (x4 + 1))) (xs (Int32.toNatClampNeg (x4 + 2))) (xs (Int32.toNatClampNeg (x4 + 3))) q90 hq90) mC_X3_box mM_L_77 mN_X3 mI_X3_box mS_X3_box ⟨ok_X3_box, by decide, by decide, hcl, hsl⟩ rfl hl.1 rfl (Nat.le_of_ble_eq_true rfl) dL_law_654 (fun H locs B => ?_)
                              refine lv_aload_n hx hb dL_law_657 rfl (lv_at hl 2 rfl) ?_
                              refine lv_aload_n hx hb dL_law_658 rfl (lv_at hl 0 rfl) ?_
                              refine lv_iload hx hb dL_law_659 (lv_at hl 4 rfl) ?_
                              refine lv_iconst (v := 1) hx hb dL_law_661 (by decide) ?_
                              refine lv_iadd hx hb dL_law_662 ?_
                              refine va_sld hx hb hX hbl hbA B.2.2.1 z87 dL_law_663 ?_
                              refine lv_aload_n hx hb dL_law_664 rfl (lv_at hl 0 rfl) ?_
                              refine lv_iload hx hb dL_law_665 (lv_at hl 4 rfl) ?_
                              refine lv_iconst (v := 2) hx hb dL_law_667 (by decide) ?_
                              refine lv_iadd hx hb dL_law_668 ?_
                              refine va_sld hx hb hX hbl hbA B.2.2.1 z88 dL_law_669 ?_
                              refine lv_aload_n hx hb dL_law_670 rfl (lv_at hl 0 rfl) ?_
                              refine lv_iload hx hb dL_law_671 (lv_at hl 4 rfl) ?_
                              refine lv_iconst (v := 3) hx hb dL_law_673 (by decide) ?_
                              refine lv_iadd hx hb dL_law_674 ?_
                              refine va_sld hx hb hX hbl hbA B.2.2.1 z89 dL_law_675 ?_
                              obtain ⟨q91, hq91, h⟩ := cal_some h
                              refine lwM F B (c_X4_box l (gm g am) n M H.size (xs (Int32.toNatClampNeg (x4 + 1))) (xs (Int32.toNatClampNeg (x4 + 2))) (xs (Int32.toNatClampNeg (x4 + 3))) q91 hq91) mC_X4_box mM_L_80 mN_X4 mI_X4_box mS_X4_box ⟨ok_X4_box, by decide, by decide, hcl, hsl⟩ rfl hl.1 rfl (Nat.le_of_ble_eq_true rfl) dL_law_676 (fun H locs B => ?_)
                              refine lv_icmp_eq (tgt := 1269) hx hb dL_law_679 (by decide) (fun c92 => ?_) (fun c92 => ?_)
                              · rw [if_pos c92] at h
                                refine lv_iinc (v := x4 + 6) (lv' := [(4, .int (x4 + 6)), (0, .ref b), (1, .ref (g.2.2 3 0)), (2, .ref (am 0 0)), (3, .ref ao)]) hx hb dL_law_1269 hl (k := 4) rfl rfl (by decide) rfl (fun ls hl => ?_)
                                refine lv_goto (tgt := 23) hx hb dL_law_1272 (by decide) ?_
                                obtain rfl := Option.some.inj h
                                exact ih (x4 + 6) S q91.2 o (cells) (slots) (by omega) ht H locs ls B (lv_sub hl [1, 2, 3, 4, 0] rfl)
                              · rw [if_neg c92] at h
                                refine lv_iconst (v := 0) hx hb dL_law_682 (by decide) ?_
                                obtain rfl := Option.some.inj h
                                exact absurd (show (0 : Int32) = 1 from ht) (by decide)
                            · rw [if_neg c86] at h
                              by_cases c93 : ((xs (Int32.toNatClampNeg x4)) &&& 31) = 12
                              · rw [if_pos c93] at h
                                refine lv_tableIn (tgt := 684) hx hb dL_law_40 (by rw [c93]; decide) (by rw [c93]; decide) (by rw [c93]; rfl) (by decide) ?_
                                unfold k_law_12 at h
                                refine lv_aload_n hx hb dL_law_684 rfl (lv_at hl 1 rfl) ?_
                                refine lv_aload_n hx hb dL_law_685 rfl (lv_at hl 0 rfl) ?_
                                refine lv_iload hx hb dL_law_686 (lv_at hl 4 rfl) ?_
                                refine lv_iconst (v := 1) hx hb dL_law_688 (by decide) ?_
                                refine lv_iadd hx hb dL_law_689 ?_
                                obtain ⟨z94, h⟩ := grd_some h
                                refine va_sld hx hb hX hbl hbA B.2.2.1 z94 dL_law_690 ?_
                                refine lv_aload_n hx hb dL_law_691 rfl (lv_at hl 0 rfl) ?_
                                refine lv_iload hx hb dL_law_692 (lv_at hl 4 rfl) ?_
                                refine lv_iconst (v := 2) hx hb dL_law_694 (by decide) ?_
                                refine lv_iadd hx hb dL_law_695 ?_
                                obtain ⟨z95, h⟩ := grd_some h
                                refine va_sld hx hb hX hbl hbA B.2.2.1 z95 dL_law_696 ?_
                                obtain ⟨q96, hq96, h⟩ := cal_some h
                                refine lwC F B (c_X3_hyphens l g n S H.size (xs (Int32.toNatClampNeg (x4 + 1))) (xs (Int32.toNatClampNeg (x4 + 2))) q96 hq96) mC_X3_hyphens mM_L_81 mN_X3 mI_X3_hyphens mS_X3_hyphens ⟨ok_X3_hyphens, by decide, by decide, hcl, hsl⟩ rfl hl.1 rfl (Nat.le_of_ble_eq_true rfl) dL_law_697 (fun H locs B => ?_)
                                refine lv_aload_n hx hb dL_law_700 rfl (lv_at hl 2 rfl) ?_
                                refine lv_aload_n hx hb dL_law_701 rfl (lv_at hl 0 rfl) ?_
                                refine lv_iload hx hb dL_law_702 (lv_at hl 4 rfl) ?_
                                refine lv_iconst (v := 1) hx hb dL_law_704 (by decide) ?_
                                refine lv_iadd hx hb dL_law_705 ?_
                                refine va_sld hx hb hX hbl hbA B.2.2.1 z94 dL_law_706 ?_
                                refine lv_aload_n hx hb dL_law_707 rfl (lv_at hl 0 rfl) ?_
                                refine lv_iload hx hb dL_law_708 (lv_at hl 4 rfl) ?_
                                refine lv_iconst (v := 2) hx hb dL_law_710 (by decide) ?_
                                refine lv_iadd hx hb dL_law_711 ?_
                                refine va_sld hx hb hX hbl hbA B.2.2.1 z95 dL_law_712 ?_
                                obtain ⟨q97, hq97, h⟩ := cal_some h
                                refine lwM F B (c_X4_hyphens l (gm g am) n M H.size (xs (Int32.toNatClampNeg (x4 + 1))) (xs (Int32.toNatClampNeg (x4 + 2))) q97 hq97) mC_X4_hyphens mM_L_84 mN_X4 mI_X4_hyphens mS_X4_hyphens ⟨ok_X4_hyphens, by decide, by decide, hcl, hsl⟩ rfl hl.1 rfl (Nat.le_of_ble_eq_true rfl) dL_law_713 (fun H locs B => ?_)
                                refine lv_icmp_eq (tgt := 1269) hx hb dL_law_716 (by decide) (fun c98 => ?_) (fun c98 => ?_)
                                · rw [if_pos c98] at h
                                  refine lv_iinc (v := x4 + 6) (lv' := [(4, .int (x4 + 6)), (0, .ref b), (1, .ref (g.2.2 3 0)), (2, .ref (am 0 0)), (3, .ref ao)]) hx hb dL_law_1269 hl (k := 4) rfl rfl (by decide) rfl (fun ls hl => ?_)
                                  refine lv_goto (tgt := 23) hx hb dL_law_1272 (by decide) ?_
                                  obtain rfl := Option.some.inj h
                                  exact ih (x4 + 6) S q97.2 o (cells) (slots) (by omega) ht H locs ls B (lv_sub hl [1, 2, 3, 4, 0] rfl)
                                · rw [if_neg c98] at h
                                  refine lv_iconst (v := 0) hx hb dL_law_719 (by decide) ?_
                                  obtain rfl := Option.some.inj h
                                  exact absurd (show (0 : Int32) = 1 from ht) (by decide)
                              · rw [if_neg c93] at h
                                by_cases c99 : ((xs (Int32.toNatClampNeg x4)) &&& 31) = 13
                                · rw [if_pos c99] at h
                                  refine lv_tableIn (tgt := 721) hx hb dL_law_40 (by rw [c99]; decide) (by rw [c99]; decide) (by rw [c99]; rfl) (by decide) ?_
                                  unfold k_law_13 at h
                                  refine lv_aload_n hx hb dL_law_721 rfl (lv_at hl 1 rfl) ?_
                                  refine lv_aload_n hx hb dL_law_722 rfl (lv_at hl 0 rfl) ?_
                                  refine lv_iload hx hb dL_law_723 (lv_at hl 4 rfl) ?_
                                  refine lv_iconst (v := 1) hx hb dL_law_725 (by decide) ?_
                                  refine lv_iadd hx hb dL_law_726 ?_
                                  obtain ⟨z100, h⟩ := grd_some h
                                  refine va_sld hx hb hX hbl hbA B.2.2.1 z100 dL_law_727 ?_
                                  refine lv_aload_n hx hb dL_law_728 rfl (lv_at hl 0 rfl) ?_
                                  refine lv_iload hx hb dL_law_729 (lv_at hl 4 rfl) ?_
                                  refine lv_iconst (v := 2) hx hb dL_law_731 (by decide) ?_
                                  refine lv_iadd hx hb dL_law_732 ?_
                                  obtain ⟨z101, h⟩ := grd_some h
                                  refine va_sld hx hb hX hbl hbA B.2.2.1 z101 dL_law_733 ?_
                                  refine lv_aload_n hx hb dL_law_734 rfl (lv_at hl 0 rfl) ?_
                                  refine lv_iload hx hb dL_law_735 (lv_at hl 4 rfl) ?_
                                  refine lv_iconst (v := 3) hx hb dL_law_737 (by decide) ?_
                                  refine lv_iadd hx hb dL_law_738 ?_
                                  obtain ⟨z102, h⟩ := grd_some h
                                  refine va_sld hx hb hX hbl hbA B.2.2.1 z102 dL_law_739 ?_
                                  refine lv_aload_n hx hb dL_law_740 rfl (lv_at hl 3 rfl) ?_
                                  obtain ⟨q103, hq103, h⟩ := cal_some h
                                  refine lwE F B (c_L_hyphen l hl9 g n S ao o H.size (xs (Int32.toNatClampNeg (x4 + 1))) (xs (Int32.toNatClampNeg (x4 + 2))) (xs (Int32.toNatClampNeg (x4 + 3))) q103 hq103) mW_L_hyphen mM_L_85 mN_L mT_L_hyphen okL_hyphen (by decide) (by show _ ≤ 603072; omega) (by show _ ≤ 7227498; omega) rfl hl.1 rfl (Nat.le_of_ble_eq_true rfl) dL_law_741 (fun H locs B => ?_)
                                  have hcl : cells + 1 ≤ room_1.cells := by show _ ≤ 603072; omega
                                  have hsl : slots + 6 ≤ room_1.slots := by show _ ≤ 7227498; omega
                                  refine lv_istore (lv' := [(5, .int (ctR q103)), (0, .ref b), (1, .ref (g.2.2 3 0)), (2, .ref (am 0 0)), (3, .ref ao), (4, .int x4)]) hx hb dL_law_744 hl (by decide) rfl (fun ls hl => ?_)
                                  refine lv_aload_n hx hb dL_law_746 rfl (lv_at hl 3 rfl) ?_
                                  refine lv_aload_n hx hb dL_law_747 rfl (lv_at hl 1 rfl) ?_
                                  refine lv_iload hx hb dL_law_748 (lv_at hl 5 rfl) ?_
                                  refine lv_iconst (v := 1) hx hb dL_law_750 (by decide) ?_
                                  refine lv_iadd hx hb dL_law_751 ?_
                                  refine va_sld hx hb hX hbl hbA B.2.2.1 z100 dL_law_752 ?_
                                  refine lv_aload_n hx hb dL_law_753 rfl (lv_at hl 1 rfl) ?_
                                  refine lv_iload hx hb dL_law_754 (lv_at hl 5 rfl) ?_
                                  refine lv_iconst (v := 2) hx hb dL_law_756 (by decide) ?_
                                  refine lv_iadd hx hb dL_law_757 ?_
                                  refine va_sld hx hb hX hbl hbA B.2.2.1 z101 dL_law_758 ?_
                                  refine lv_aload_n hx hb dL_law_759 rfl (lv_at hl 1 rfl) ?_
                                  refine lv_iload hx hb dL_law_760 (lv_at hl 5 rfl) ?_
                                  refine lv_iconst (v := 3) hx hb dL_law_762 (by decide) ?_
                                  refine lv_iadd hx hb dL_law_763 ?_
                                  refine va_sld hx hb hX hbl hbA B.2.2.1 z102 dL_law_764 ?_
                                  obtain ⟨q104, hq104, h⟩ := cal_some h
                                  refine lwM F B (c_X4_hyphen l (gm g am) n M H.size (xs (Int32.toNatClampNeg (x4 + 1))) (xs (Int32.toNatClampNeg (x4 + 2))) (xs (Int32.toNatClampNeg (x4 + 3))) q104 hq104) mC_X4_hyphen mM_L_90 mN_X4 mI_X4_hyphen mS_X4_hyphen ⟨ok_X4_hyphen, by decide, by decide, hcl, hsl⟩ rfl hl.1 rfl (Nat.le_of_ble_eq_true rfl) dL_law_765 (fun H locs B => ?_)
                                  refine lv_istore (lv' := [(6, .int q104.1), (5, .int (ctR q103)), (0, .ref b), (1, .ref (g.2.2 3 0)), (2, .ref (am 0 0)), (3, .ref ao), (4, .int x4)]) hx hb dL_law_768 hl (by decide) rfl (fun ls hl => ?_)
                                  refine lv_aload_n hx hb dL_law_770 rfl (lv_at hl 4 rfl) ?_
                                  obtain ⟨q105, hq105, h⟩ := cal_some h
                                  refine lwM F B (c_X4_thrown l (gm g am) n q104.2 H.size  q105 hq105) mC_X4_thrown mM_L_91 mN_X4 mI_X4_thrown mS_X4_thrown ⟨ok_X4_thrown, by decide, by decide, hcl, hsl⟩ rfl hl.1 rfl (Nat.le_of_ble_eq_true rfl) dL_law_771 (fun H locs B => ?_)
                                  refine lv_iload hx hb dL_law_774 (lv_at hl 1 rfl) ?_
                                  refine lv_icmp_eq (tgt := 781) hx hb dL_law_776 (by decide) (fun c106 => ?_) (fun c106 => ?_)
                                  · rw [if_pos c106] at h
                                    refine lv_iload hx hb dL_law_781 (lv_at hl 1 rfl) ?_
                                    refine lv_if_ne (tgt := 798) hx hb dL_law_783 (by decide) (fun c107 => ?_) (fun c107 => ?_)
                                    · rw [if_neg c107] at h
                                      refine lv_goto (tgt := 1269) hx hb dL_law_798 (by decide) ?_
                                      refine lv_iinc (v := x4 + 6) (lv' := [(4, .int (x4 + 6)), (6, .int q104.1), (5, .int (ctR q103)), (0, .ref b), (1, .ref (g.2.2 3 0)), (2, .ref (am 0 0)), (3, .ref ao)]) hx hb dL_law_1269 hl (k := 6) rfl rfl (by decide) rfl (fun ls hl => ?_)
                                      refine lv_goto (tgt := 23) hx hb dL_law_1272 (by decide) ?_
                                      obtain rfl := Option.some.inj h
                                      exact ih (x4 + 6) S q104.2 (ctO o q103) (cells + 1) (slots + 6) (by omega) ht H locs ls B (lv_sub hl [3, 4, 5, 6, 0] rfl)
                                    · rw [if_pos c107] at h
                                      refine lv_aload_n hx hb dL_law_786 rfl (lv_at hl 5 rfl) ?_
                                      refine lv_iconst (v := 0) hx hb dL_law_787 (by decide) ?_
                                      refine va_lald hx hb B.1 B.2.2.2.2.2.1 0 4 rfl rfl (by unfold vp_in; decide) dL_law_788 ?_
                                      refine lv_iload hx hb dL_law_789 (lv_at hl 0 rfl) ?_
                                      refine lv_i2l hx hb dL_law_791 rfl ?_
                                      refine W.lcmp hx hb dL_law_792 ?_
                                      refine lv_if_eq (tgt := 798) hx hb dL_law_793 (by decide) (fun c108 => ?_) (fun c108 => ?_)
                                      · rw [if_pos c108] at h
                                        refine lv_goto (tgt := 1269) hx hb dL_law_798 (by decide) ?_
                                        refine lv_iinc (v := x4 + 6) (lv' := [(4, .int (x4 + 6)), (6, .int q104.1), (5, .int (ctR q103)), (0, .ref b), (1, .ref (g.2.2 3 0)), (2, .ref (am 0 0)), (3, .ref ao)]) hx hb dL_law_1269 hl (k := 6) rfl rfl (by decide) rfl (fun ls hl => ?_)
                                        refine lv_goto (tgt := 23) hx hb dL_law_1272 (by decide) ?_
                                        obtain rfl := Option.some.inj h
                                        exact ih (x4 + 6) S q104.2 (ctO o q103) (cells + 1) (slots + 6) (by omega) ht H locs ls B (lv_sub hl [3, 4, 5, 6, 0] rfl)
                                      · rw [if_neg c108] at h
                                        refine lv_iconst (v := 0) hx hb dL_law_796 (by decide) ?_
                                        obtain rfl := Option.some.inj h
                                        exact absurd (show (0 : Int32) = 1 from ht) (by decide)
                                  · rw [if_neg c106] at h
                                    refine lv_iconst (v := 0) hx hb dL_law_779 (by decide) ?_
                                    obtain rfl := Option.some.inj h
                                    exact absurd (show (0 : Int32) = 1 from ht) (by decide)
                                · rw [if_neg c99] at h
                                  by_cases c109 : ((xs (Int32.toNatClampNeg x4)) &&& 31) = 14
                                  · rw [if_pos c109] at h
                                    refine lv_tableIn (tgt := 801) hx hb dL_law_40 (by rw [c109]; decide) (by rw [c109]; decide) (by rw [c109]; rfl) (by decide) ?_
                                    unfold k_law_14 at h
                                    refine lv_aload_n hx hb dL_law_801 rfl (lv_at hl 1 rfl) ?_
                                    refine lv_aload_n hx hb dL_law_802 rfl (lv_at hl 0 rfl) ?_
                                    refine lv_iload hx hb dL_law_803 (lv_at hl 4 rfl) ?_
                                    refine lv_iconst (v := 1) hx hb dL_law_805 (by decide) ?_
                                    refine lv_iadd hx hb dL_law_806 ?_
                                    obtain ⟨z110, h⟩ := grd_some h
                                    refine va_sld hx hb hX hbl hbA B.2.2.1 z110 dL_law_807 ?_
                                    refine lv_aload_n hx hb dL_law_808 rfl (lv_at hl 0 rfl) ?_
                                    refine lv_iload hx hb dL_law_809 (lv_at hl 4 rfl) ?_
                                    refine lv_iconst (v := 2) hx hb dL_law_811 (by decide) ?_
                                    refine lv_iadd hx hb dL_law_812 ?_
                                    obtain ⟨z111, h⟩ := grd_some h
                                    refine va_sld hx hb hX hbl hbA B.2.2.1 z111 dL_law_813 ?_
                                    refine lv_aload_n hx hb dL_law_814 rfl (lv_at hl 0 rfl) ?_
                                    refine lv_iload hx hb dL_law_815 (lv_at hl 4 rfl) ?_
                                    refine lv_iconst (v := 3) hx hb dL_law_817 (by decide) ?_
                                    refine lv_iadd hx hb dL_law_818 ?_
                                    obtain ⟨z112, h⟩ := grd_some h
                                    refine va_sld hx hb hX hbl hbA B.2.2.1 z112 dL_law_819 ?_
                                    obtain ⟨q113, hq113, h⟩ := cal_some h
                                    refine lwC F B (c_X3_line l g n S H.size (xs (Int32.toNatClampNeg (x4 + 1))) (xs (Int32.toNatClampNeg (x4 + 2))) (xs (Int32.toNatClampNeg (x4 + 3))) q113 hq113) mC_X3_line mM_L_94 mN_X3 mI_X3_line mS_X3_line ⟨ok_X3_line, by decide, by decide, hcl, hsl⟩ rfl hl.1 rfl (Nat.le_of_ble_eq_true rfl) dL_law_820 (fun H locs B => ?_)
                                    refine lv_aload_n hx hb dL_law_823 rfl (lv_at hl 2 rfl) ?_
                                    refine lv_aload_n hx hb dL_law_824 rfl (lv_at hl 0 rfl) ?_
                                    refine lv_iload hx hb dL_law_825 (lv_at hl 4 rfl) ?_
                                    refine lv_iconst (v := 1) hx hb dL_law_827 (by decide) ?_
                                    refine lv_iadd hx hb dL_law_828 ?_
                                    refine va_sld hx hb hX hbl hbA B.2.2.1 z110 dL_law_829 ?_
                                    refine lv_aload_n hx hb dL_law_830 rfl (lv_at hl 0 rfl) ?_
                                    refine lv_iload hx hb dL_law_831 (lv_at hl 4 rfl) ?_
                                    refine lv_iconst (v := 2) hx hb dL_law_833 (by decide) ?_
                                    refine lv_iadd hx hb dL_law_834 ?_
                                    refine va_sld hx hb hX hbl hbA B.2.2.1 z111 dL_law_835 ?_
                                    refine lv_aload_n hx hb dL_law_836 rfl (lv_at hl 0 rfl) ?_
                                    refine lv_iload hx hb dL_law_837 (lv_at hl 4 rfl) ?_
                                    refine lv_iconst (v := 3) hx hb dL_law_839 (by decide) ?_
                                    refine lv_iadd hx hb dL_law_840 ?_
                                    refine va_sld hx hb hX hbl hbA B.2.2.1 z112 dL_law_841 ?_
                                    obtain ⟨q114, hq114, h⟩ := cal_some h
                                    refine lwM F B (c_X4_line l (gm g am) n M H.size (xs (Int32.toNatClampNeg (x4 + 1))) (xs (Int32.toNatClampNeg (x4 + 2))) (xs (Int32.toNatClampNeg (x4 + 3))) q114 hq114) mC_X4_line mM_L_97 mN_X4 mI_X4_line mS_X4_line ⟨ok_X4_line, by decide, by decide, hcl, hsl⟩ rfl hl.1 rfl (Nat.le_of_ble_eq_true rfl) dL_law_842 (fun H locs B => ?_)
                                    refine lv_icmp_eq (tgt := 1269) hx hb dL_law_845 (by decide) (fun c115 => ?_) (fun c115 => ?_)
                                    · rw [if_pos c115] at h
                                      refine lv_iinc (v := x4 + 6) (lv' := [(4, .int (x4 + 6)), (0, .ref b), (1, .ref (g.2.2 3 0)), (2, .ref (am 0 0)), (3, .ref ao)]) hx hb dL_law_1269 hl (k := 4) rfl rfl (by decide) rfl (fun ls hl => ?_)
                                      refine lv_goto (tgt := 23) hx hb dL_law_1272 (by decide) ?_
                                      obtain rfl := Option.some.inj h
                                      exact ih (x4 + 6) S q114.2 o (cells) (slots) (by omega) ht H locs ls B (lv_sub hl [1, 2, 3, 4, 0] rfl)
                                    · rw [if_neg c115] at h
                                      refine lv_iconst (v := 0) hx hb dL_law_848 (by decide) ?_
                                      obtain rfl := Option.some.inj h
                                      exact absurd (show (0 : Int32) = 1 from ht) (by decide)
                                  · rw [if_neg c109] at h
                                    by_cases c116 : ((xs (Int32.toNatClampNeg x4)) &&& 31) = 15
                                    · rw [if_pos c116] at h
                                      refine lv_tableIn (tgt := 850) hx hb dL_law_40 (by rw [c116]; decide) (by rw [c116]; decide) (by rw [c116]; rfl) (by decide) ?_
                                      unfold k_law_15 at h
                                      refine lv_aload_n hx hb dL_law_850 rfl (lv_at hl 1 rfl) ?_
                                      refine lv_aload_n hx hb dL_law_851 rfl (lv_at hl 3 rfl) ?_
                                      obtain ⟨q117, hq117, h⟩ := cal_some h
                                      refine lwE F B (c_L_strain l hl9 g n S ao o H.size  q117 hq117) mW_L_strain mM_L_98 mN_L mT_L_strain okL_strain (by decide) (by show _ ≤ 603072; omega) (by show _ ≤ 7227498; omega) rfl hl.1 rfl (Nat.le_of_ble_eq_true rfl) dL_law_852 (fun H locs B => ?_)
                                      have hcl : cells + 1 ≤ room_1.cells := by show _ ≤ 603072; omega
                                      have hsl : slots + 6 ≤ room_1.slots := by show _ ≤ 7227498; omega
                                      refine lv_istore (lv' := [(5, .int (ctR q117)), (0, .ref b), (1, .ref (g.2.2 3 0)), (2, .ref (am 0 0)), (3, .ref ao), (4, .int x4)]) hx hb dL_law_855 hl (by decide) rfl (fun ls hl => ?_)
                                      refine lv_aload_n hx hb dL_law_857 rfl (lv_at hl 3 rfl) ?_
                                      obtain ⟨q118, hq118, h⟩ := cal_some h
                                      refine lwM F B (c_X4_strain l (gm g am) n M H.size  q118 hq118) mC_X4_strain mM_L_101 mN_X4 mI_X4_strain mS_X4_strain ⟨ok_X4_strain, by decide, by decide, hcl, hsl⟩ rfl hl.1 rfl (Nat.le_of_ble_eq_true rfl) dL_law_858 (fun H locs B => ?_)
                                      refine lv_istore (lv' := [(6, .int q118.1), (5, .int (ctR q117)), (0, .ref b), (1, .ref (g.2.2 3 0)), (2, .ref (am 0 0)), (3, .ref ao), (4, .int x4)]) hx hb dL_law_861 hl (by decide) rfl (fun ls hl => ?_)
                                      refine lv_aload_n hx hb dL_law_863 rfl (lv_at hl 4 rfl) ?_
                                      obtain ⟨q119, hq119, h⟩ := cal_some h
                                      refine lwM F B (c_X4_thrown l (gm g am) n q118.2 H.size  q119 hq119) mC_X4_thrown mM_L_91 mN_X4 mI_X4_thrown mS_X4_thrown ⟨ok_X4_thrown, by decide, by decide, hcl, hsl⟩ rfl hl.1 rfl (Nat.le_of_ble_eq_true rfl) dL_law_864 (fun H locs B => ?_)
                                      refine lv_iload hx hb dL_law_867 (lv_at hl 1 rfl) ?_
                                      refine lv_icmp_eq (tgt := 874) hx hb dL_law_869 (by decide) (fun c120 => ?_) (fun c120 => ?_)
                                      · rw [if_pos c120] at h
                                        refine lv_iload hx hb dL_law_874 (lv_at hl 1 rfl) ?_
                                        refine lv_if_ne (tgt := 891) hx hb dL_law_876 (by decide) (fun c121 => ?_) (fun c121 => ?_)
                                        · rw [if_neg c121] at h
                                          refine lv_goto (tgt := 1269) hx hb dL_law_891 (by decide) ?_
                                          refine lv_iinc (v := x4 + 6) (lv' := [(4, .int (x4 + 6)), (6, .int q118.1), (5, .int (ctR q117)), (0, .ref b), (1, .ref (g.2.2 3 0)), (2, .ref (am 0 0)), (3, .ref ao)]) hx hb dL_law_1269 hl (k := 6) rfl rfl (by decide) rfl (fun ls hl => ?_)
                                          refine lv_goto (tgt := 23) hx hb dL_law_1272 (by decide) ?_
                                          obtain rfl := Option.some.inj h
                                          exact ih (x4 + 6) S q118.2 (ctO o q117) (cells + 1) (slots + 6) (by omega) ht H locs ls B (lv_sub hl [3, 4, 5, 6, 0] rfl)
                                        · rw [if_pos c121] at h
                                          refine lv_aload_n hx hb dL_law_879 rfl (lv_at hl 5 rfl) ?_
                                          refine lv_iconst (v := 0) hx hb dL_law_880 (by decide) ?_
                                          refine va_lald hx hb B.1 B.2.2.2.2.2.1 0 4 rfl rfl (by unfold vp_in; decide) dL_law_881 ?_
                                          refine lv_iload hx hb dL_law_882 (lv_at hl 0 rfl) ?_
                                          refine lv_i2l hx hb dL_law_884 rfl ?_
                                          refine W.lcmp hx hb dL_law_885 ?_
                                          refine lv_if_eq (tgt := 891) hx hb dL_law_886 (by decide) (fun c122 => ?_) (fun c122 => ?_)
                                          · rw [if_pos c122] at h
                                            refine lv_goto (tgt := 1269) hx hb dL_law_891 (by decide) ?_
                                            refine lv_iinc (v := x4 + 6) (lv' := [(4, .int (x4 + 6)), (6, .int q118.1), (5, .int (ctR q117)), (0, .ref b), (1, .ref (g.2.2 3 0)), (2, .ref (am 0 0)), (3, .ref ao)]) hx hb dL_law_1269 hl (k := 6) rfl rfl (by decide) rfl (fun ls hl => ?_)
                                            refine lv_goto (tgt := 23) hx hb dL_law_1272 (by decide) ?_
                                            obtain rfl := Option.some.inj h
                                            exact ih (x4 + 6) S q118.2 (ctO o q117) (cells + 1) (slots + 6) (by omega) ht H locs ls B (lv_sub hl [3, 4, 5, 6, 0] rfl)
                                          · rw [if_neg c122] at h
                                            refine lv_iconst (v := 0) hx hb dL_law_889 (by decide) ?_
                                            obtain rfl := Option.some.inj h
                                            exact absurd (show (0 : Int32) = 1 from ht) (by decide)
                                      · rw [if_neg c120] at h
                                        refine lv_iconst (v := 0) hx hb dL_law_872 (by decide) ?_
                                        obtain rfl := Option.some.inj h
                                        exact absurd (show (0 : Int32) = 1 from ht) (by decide)
                                    · rw [if_neg c116] at h
                                      by_cases c123 : ((xs (Int32.toNatClampNeg x4)) &&& 31) = 16
                                      · rw [if_pos c123] at h
                                        refine lv_tableIn (tgt := 894) hx hb dL_law_40 (by rw [c123]; decide) (by rw [c123]; decide) (by rw [c123]; rfl) (by decide) ?_
                                        unfold k_law_16 at h
                                        refine lv_aload_n hx hb dL_law_894 rfl (lv_at hl 1 rfl) ?_
                                        obtain ⟨q124, hq124, h⟩ := cal_some h
                                        refine lwC F B (c_X3_faults l g n S H.size  q124 hq124) mC_X3_faults mM_L_102 mN_X3 mI_X3_faults mS_X3_faults ⟨ok_X3_faults, by decide, by decide, hcl, hsl⟩ rfl hl.1 rfl (Nat.le_of_ble_eq_true rfl) dL_law_895 (fun H locs B => ?_)
                                        refine lv_aload_n hx hb dL_law_898 rfl (lv_at hl 2 rfl) ?_
                                        obtain ⟨q125, hq125, h⟩ := cal_some h
                                        refine lwM F B (c_X4_faults l (gm g am) n M H.size  q125 hq125) mC_X4_faults mM_L_105 mN_X4 mI_X4_faults mS_X4_faults ⟨ok_X4_faults, by decide, by decide, hcl, hsl⟩ rfl hl.1 rfl (Nat.le_of_ble_eq_true rfl) dL_law_899 (fun H locs B => ?_)
                                        refine lv_icmp_eq (tgt := 1269) hx hb dL_law_902 (by decide) (fun c126 => ?_) (fun c126 => ?_)
                                        · rw [if_pos c126] at h
                                          refine lv_iinc (v := x4 + 6) (lv' := [(4, .int (x4 + 6)), (0, .ref b), (1, .ref (g.2.2 3 0)), (2, .ref (am 0 0)), (3, .ref ao)]) hx hb dL_law_1269 hl (k := 4) rfl rfl (by decide) rfl (fun ls hl => ?_)
                                          refine lv_goto (tgt := 23) hx hb dL_law_1272 (by decide) ?_
                                          obtain rfl := Option.some.inj h
                                          exact ih (x4 + 6) q124.2 q125.2 o (cells) (slots) (by omega) ht H locs ls B (lv_sub hl [1, 2, 3, 4, 0] rfl)
                                        · rw [if_neg c126] at h
                                          refine lv_iconst (v := 0) hx hb dL_law_905 (by decide) ?_
                                          obtain rfl := Option.some.inj h
                                          exact absurd (show (0 : Int32) = 1 from ht) (by decide)
                                      · rw [if_neg c123] at h
                                        by_cases c127 : ((xs (Int32.toNatClampNeg x4)) &&& 31) = 17
                                        · rw [if_pos c127] at h
                                          refine lv_tableIn (tgt := 907) hx hb dL_law_40 (by rw [c127]; decide) (by rw [c127]; decide) (by rw [c127]; rfl) (by decide) ?_
                                          unfold k_law_17 at h
                                          refine lv_aload_n hx hb dL_law_907 rfl (lv_at hl 1 rfl) ?_
                                          refine lv_aload_n hx hb dL_law_908 rfl (lv_at hl 0 rfl) ?_
                                          refine lv_iload hx hb dL_law_909 (lv_at hl 4 rfl) ?_
                                          refine lv_iconst (v := 1) hx hb dL_law_911 (by decide) ?_
                                          refine lv_iadd hx hb dL_law_912 ?_
                                          obtain ⟨z128, h⟩ := grd_some h
                                          refine va_sld hx hb hX hbl hbA B.2.2.1 z128 dL_law_913 ?_
                                          refine lv_aload_n hx hb dL_law_914 rfl (lv_at hl 0 rfl) ?_
                                          refine lv_iload hx hb dL_law_915 (lv_at hl 4 rfl) ?_
                                          refine lv_iconst (v := 2) hx hb dL_law_917 (by decide) ?_
                                          refine lv_iadd hx hb dL_law_918 ?_
                                          obtain ⟨z129, h⟩ := grd_some h
                                          refine va_sld hx hb hX hbl hbA B.2.2.1 z129 dL_law_919 ?_
                                          obtain ⟨q130, hq130, h⟩ := cal_some h
                                          refine lwC F B (c_X3_fault l g n S H.size (xs (Int32.toNatClampNeg (x4 + 1))) (xs (Int32.toNatClampNeg (x4 + 2))) q130 hq130) mC_X3_fault mM_L_106 mN_X3 mI_X3_fault mS_X3_fault ⟨ok_X3_fault, by decide, by decide, hcl, hsl⟩ rfl hl.1 rfl (Nat.le_of_ble_eq_true rfl) dL_law_920 (fun H locs B => ?_)
                                          refine lv_aload_n hx hb dL_law_923 rfl (lv_at hl 2 rfl) ?_
                                          refine lv_aload_n hx hb dL_law_924 rfl (lv_at hl 0 rfl) ?_
                                          refine lv_iload hx hb dL_law_925 (lv_at hl 4 rfl) ?_
                                          refine lv_iconst (v := 1) hx hb dL_law_927 (by decide) ?_
                                          refine lv_iadd hx hb dL_law_928 ?_
                                          refine va_sld hx hb hX hbl hbA B.2.2.1 z128 dL_law_929 ?_
                                          refine lv_aload_n hx hb dL_law_930 rfl (lv_at hl 0 rfl) ?_
                                          refine lv_iload hx hb dL_law_931 (lv_at hl 4 rfl) ?_
                                          refine lv_iconst (v := 2) hx hb dL_law_933 (by decide) ?_
                                          refine lv_iadd hx hb dL_law_934 ?_
                                          refine va_sld hx hb hX hbl hbA B.2.2.1 z129 dL_law_935 ?_
                                          obtain ⟨q131, hq131, h⟩ := cal_some h
                                          refine lwM F B (c_X4_fault l (gm g am) n M H.size (xs (Int32.toNatClampNeg (x4 + 1))) (xs (Int32.toNatClampNeg (x4 + 2))) q131 hq131) mC_X4_fault mM_L_109 mN_X4 mI_X4_fault mS_X4_fault ⟨ok_X4_fault, by decide, by decide, hcl, hsl⟩ rfl hl.1 rfl (Nat.le_of_ble_eq_true rfl) dL_law_936 (fun H locs B => ?_)
                                          refine lv_icmp_eq (tgt := 1269) hx hb dL_law_939 (by decide) (fun c132 => ?_) (fun c132 => ?_)
                                          · rw [if_pos c132] at h
                                            refine lv_iinc (v := x4 + 6) (lv' := [(4, .int (x4 + 6)), (0, .ref b), (1, .ref (g.2.2 3 0)), (2, .ref (am 0 0)), (3, .ref ao)]) hx hb dL_law_1269 hl (k := 4) rfl rfl (by decide) rfl (fun ls hl => ?_)
                                            refine lv_goto (tgt := 23) hx hb dL_law_1272 (by decide) ?_
                                            obtain rfl := Option.some.inj h
                                            exact ih (x4 + 6) q130.2 q131.2 o (cells) (slots) (by omega) ht H locs ls B (lv_sub hl [1, 2, 3, 4, 0] rfl)
                                          · rw [if_neg c132] at h
                                            refine lv_iconst (v := 0) hx hb dL_law_942 (by decide) ?_
                                            obtain rfl := Option.some.inj h
                                            exact absurd (show (0 : Int32) = 1 from ht) (by decide)
                                        · rw [if_neg c127] at h
                                          by_cases c133 : ((xs (Int32.toNatClampNeg x4)) &&& 31) = 18
                                          · rw [if_pos c133] at h
                                            refine lv_tableIn (tgt := 944) hx hb dL_law_40 (by rw [c133]; decide) (by rw [c133]; decide) (by rw [c133]; rfl) (by decide) ?_
                                            unfold k_law_18 at h
                                            refine lv_aload_n hx hb dL_law_944 rfl (lv_at hl 1 rfl) ?_
                                            refine lv_aload_n hx hb dL_law_945 rfl (lv_at hl 0 rfl) ?_
                                            refine lv_iload hx hb dL_law_946 (lv_at hl 4 rfl) ?_
                                            refine lv_iconst (v := 1) hx hb dL_law_948 (by decide) ?_
                                            refine lv_iadd hx hb dL_law_949 ?_
                                            obtain ⟨z134, h⟩ := grd_some h
                                            refine va_sld hx hb hX hbl hbA B.2.2.1 z134 dL_law_950 ?_
                                            obtain ⟨q135, hq135, h⟩ := cal_some h
                                            refine lwC F B (c_X3_shares l g n S H.size (xs (Int32.toNatClampNeg (x4 + 1))) q135 hq135) mC_X3_shares mM_L_110 mN_X3 mI_X3_shares mS_X3_shares ⟨ok_X3_shares, by decide, by decide, hcl, hsl⟩ rfl hl.1 rfl (Nat.le_of_ble_eq_true rfl) dL_law_951 (fun H locs B => ?_)
                                            refine lv_aload_n hx hb dL_law_954 rfl (lv_at hl 2 rfl) ?_
                                            refine lv_aload_n hx hb dL_law_955 rfl (lv_at hl 0 rfl) ?_
                                            refine lv_iload hx hb dL_law_956 (lv_at hl 4 rfl) ?_
                                            refine lv_iconst (v := 1) hx hb dL_law_958 (by decide) ?_
                                            refine lv_iadd hx hb dL_law_959 ?_
                                            refine va_sld hx hb hX hbl hbA B.2.2.1 z134 dL_law_960 ?_
                                            obtain ⟨q136, hq136, h⟩ := cal_some h
                                            refine lwM F B (c_X4_shares l (gm g am) n M H.size (xs (Int32.toNatClampNeg (x4 + 1))) q136 hq136) mC_X4_shares mM_L_113 mN_X4 mI_X4_shares mS_X4_shares ⟨ok_X4_shares, by decide, by decide, hcl, hsl⟩ rfl hl.1 rfl (Nat.le_of_ble_eq_true rfl) dL_law_961 (fun H locs B => ?_)
                                            refine lv_icmp_eq (tgt := 1269) hx hb dL_law_964 (by decide) (fun c137 => ?_) (fun c137 => ?_)
                                            · rw [if_pos c137] at h
                                              refine lv_iinc (v := x4 + 6) (lv' := [(4, .int (x4 + 6)), (0, .ref b), (1, .ref (g.2.2 3 0)), (2, .ref (am 0 0)), (3, .ref ao)]) hx hb dL_law_1269 hl (k := 4) rfl rfl (by decide) rfl (fun ls hl => ?_)
                                              refine lv_goto (tgt := 23) hx hb dL_law_1272 (by decide) ?_
                                              obtain rfl := Option.some.inj h
                                              exact ih (x4 + 6) S q136.2 o (cells) (slots) (by omega) ht H locs ls B (lv_sub hl [1, 2, 3, 4, 0] rfl)
                                            · rw [if_neg c137] at h
                                              refine lv_iconst (v := 0) hx hb dL_law_967 (by decide) ?_
                                              obtain rfl := Option.some.inj h
                                              exact absurd (show (0 : Int32) = 1 from ht) (by decide)
                                          · rw [if_neg c133] at h
                                            by_cases c138 : ((xs (Int32.toNatClampNeg x4)) &&& 31) = 19
                                            · rw [if_pos c138] at h
                                              refine lv_tableIn (tgt := 969) hx hb dL_law_40 (by rw [c138]; decide) (by rw [c138]; decide) (by rw [c138]; rfl) (by decide) ?_
                                              unfold k_law_19 at h
                                              refine lv_aload_n hx hb dL_law_969 rfl (lv_at hl 1 rfl) ?_
                                              refine lv_aload_n hx hb dL_law_970 rfl (lv_at hl 0 rfl) ?_
                                              refine lv_iload hx hb dL_law_971 (lv_at hl 4 rfl) ?_
                                              refine lv_iconst (v := 1) hx hb dL_law_973 (by decide) ?_
                                              refine lv_iadd hx hb dL_law_974 ?_
                                              obtain ⟨z139, h⟩ := grd_some h
                                              refine va_sld hx hb hX hbl hbA B.2.2.1 z139 dL_law_975 ?_
                                              obtain ⟨q140, hq140, h⟩ := cal_some h
                                              refine lwC F B (c_X3_row l g n S H.size (xs (Int32.toNatClampNeg (x4 + 1))) q140 hq140) mC_X3_row mM_L_114 mN_X3 mI_X3_row mS_X3_row ⟨ok_X3_row, by decide, by decide, hcl, hsl⟩ rfl hl.1 rfl (Nat.le_of_ble_eq_true rfl) dL_law_976 (fun H locs B => ?_)
                                              refine lv_aload_n hx hb dL_law_979 rfl (lv_at hl 2 rfl) ?_
                                              refine lv_aload_n hx hb dL_law_980 rfl (lv_at hl 0 rfl) ?_
                                              refine lv_iload hx hb dL_law_981 (lv_at hl 4 rfl) ?_
                                              refine lv_iconst (v := 1) hx hb dL_law_983 (by decide) ?_
                                              refine lv_iadd hx hb dL_law_984 ?_
                                              refine va_sld hx hb hX hbl hbA B.2.2.1 z139 dL_law_985 ?_
                                              obtain ⟨q141, hq141, h⟩ := cal_some h
                                              refine lwM F B (c_X4_row l (gm g am) n M H.size (xs (Int32.toNatClampNeg (x4 + 1))) q141 hq141) mC_X4_row mM_L_117 mN_X4 mI_X4_row mS_X4_row ⟨ok_X4_row, by decide, by decide, hcl, hsl⟩ rfl hl.1 rfl (Nat.le_of_ble_eq_true rfl) dL_law_986 (fun H locs B => ?_)
                                              refine lv_icmp_eq (tgt := 1269) hx hb dL_law_989 (by decide) (fun c142 => ?_) (fun c142 => ?_)
                                              · rw [if_pos c142] at h
                                                refine lv_iinc (v := x4 + 6) (lv' := [(4, .int (x4 + 6)), (0, .ref b), (1, .ref (g.2.2 3 0)), (2, .ref (am 0 0)), (3, .ref ao)]) hx hb dL_law_1269 hl (k := 4) rfl rfl (by decide) rfl (fun ls hl => ?_)
                                                refine lv_goto (tgt := 23) hx hb dL_law_1272 (by decide) ?_
                                                obtain rfl := Option.some.inj h
                                                exact ih (x4 + 6) S q141.2 o (cells) (slots) (by omega) ht H locs ls B (lv_sub hl [1, 2, 3, 4, 0] rfl)
                                              · rw [if_neg c142] at h
                                                refine lv_iconst (v := 0) hx hb dL_law_992 (by decide) ?_
                                                obtain rfl := Option.some.inj h
                                                exact absurd (show (0 : Int32) = 1 from ht) (by decide)
                                            · rw [if_neg c138] at h
                                              by_cases c143 : ((xs (Int32.toNatClampNeg x4)) &&& 31) = 20
                                              · rw [if_pos c143] at h
                                                refine lv_tableIn (tgt := 994) hx hb dL_law_40 (by rw [c143]; decide) (by rw [c143]; decide) (by rw [c143]; rfl) (by decide) ?_
                                                unfold k_law_20 at h
                                                refine lv_aload_n hx hb dL_law_994 rfl (lv_at hl 1 rfl) ?_
                                                refine lv_aload_n hx hb dL_law_995 rfl (lv_at hl 0 rfl) ?_
                                                refine lv_iload hx hb dL_law_996 (lv_at hl 4 rfl) ?_
                                                refine lv_iconst (v := 1) hx hb dL_law_998 (by decide) ?_
                                                refine lv_iadd hx hb dL_law_999 ?_
                                                obtain ⟨z144, h⟩ := grd_some h
                                                refine va_sld hx hb hX hbl hbA B.2.2.1 z144 dL_law_1000 ?_
                                                refine lv_aload_n hx hb dL_law_1001 rfl (lv_at hl 0 rfl) ?_
                                                refine lv_iload hx hb dL_law_1002 (lv_at hl 4 rfl) ?_
                                                refine lv_iconst (v := 2) hx hb dL_law_1004 (by decide) ?_
                                                refine lv_iadd hx hb dL_law_1005 ?_
                                                obtain ⟨z145, h⟩ := grd_some h
                                                refine va_sld hx hb hX hbl hbA B.2.2.1 z145 dL_law_1006 ?_
                                                obtain ⟨q146, hq146, h⟩ := cal_some h
                                                refine lwC F B (c_X3_in l g n S H.size (xs (Int32.toNatClampNeg (x4 + 1))) (xs (Int32.toNatClampNeg (x4 + 2))) q146 hq146) mC_X3_in mM_L_118 mN_X3 mI_X3_in mS_X3_in ⟨ok_X3_in, by decide, by decide, hcl, hsl⟩ rfl hl.1 rfl (Nat.le_of_ble_eq_true rfl) dL_law_1007 (fun H locs B => ?_)
                                                refine lv_aload_n hx hb dL_law_1010 rfl (lv_at hl 2 rfl) ?_
                                                refine lv_aload_n hx hb dL_law_1011 rfl (lv_at hl 0 rfl) ?_
                                                refine lv_iload hx hb dL_law_1012 (lv_at hl 4 rfl) ?_
                                                refine lv_iconst (v := 1) hx hb dL_law_1014 (by decide) ?_
                                                refine lv_iadd hx hb dL_law_1015 ?_
                                                refine va_sld hx hb hX hbl hbA B.2.2.1 z144 dL_law_1016 ?_
                                                refine lv_aload_n hx hb dL_law_1017 rfl (lv_at hl 0 rfl) ?_
                                                refine lv_iload hx hb dL_law_1018 (lv_at hl 4 rfl) ?_
                                                refine lv_iconst (v := 2) hx hb dL_law_1020 (by decide) ?_
                                                refine lv_iadd hx hb dL_law_1021 ?_
                                                refine va_sld hx hb hX hbl hbA B.2.2.1 z145 dL_law_1022 ?_
                                                obtain ⟨q147, hq147, h⟩ := cal_some h
                                                refine lwM F B (c_X4_in l (gm g am) n M H.size (xs (Int32.toNatClampNeg (x4 + 1))) (xs (Int32.toNatClampNeg (x4 + 2))) q147 hq147) mC_X4_in mM_L_121 mN_X4 mI_X4_in mS_X4_in ⟨ok_X4_in, by decide, by decide, hcl, hsl⟩ rfl hl.1 rfl (Nat.le_of_ble_eq_true rfl) dL_law_1023 (fun H locs B => ?_)
                                                refine lv_icmp_eq (tgt := 1269) hx hb dL_law_1026 (by decide) (fun c148 => ?_) (fun c148 => ?_)
                                                · rw [if_pos c148] at h
                                                  refine lv_iinc (v := x4 + 6) (lv' := [(4, .int (x4 + 6)), (0, .ref b), (1, .ref (g.2.2 3 0)), (2, .ref (am 0 0)), (3, .ref ao)]) hx hb dL_law_1269 hl (k := 4) rfl rfl (by decide) rfl (fun ls hl => ?_)
                                                  refine lv_goto (tgt := 23) hx hb dL_law_1272 (by decide) ?_
                                                  obtain rfl := Option.some.inj h
                                                  exact ih (x4 + 6) S q147.2 o (cells) (slots) (by omega) ht H locs ls B (lv_sub hl [1, 2, 3, 4, 0] rfl)
                                                · rw [if_neg c148] at h
                                                  refine lv_iconst (v := 0) hx hb dL_law_1029 (by decide) ?_
                                                  obtain rfl := Option.some.inj h
                                                  exact absurd (show (0 : Int32) = 1 from ht) (by decide)
                                              · rw [if_neg c143] at h
                                                by_cases c149 : ((xs (Int32.toNatClampNeg x4)) &&& 31) = 21
                                                · rw [if_pos c149] at h
                                                  refine lv_tableIn (tgt := 1031) hx hb dL_law_40 (by rw [c149]; decide) (by rw [c149]; decide) (by rw [c149]; rfl) (by decide) ?_
                                                  unfold k_law_21 at h
                                                  refine lv_aload_n hx hb dL_law_1031 rfl (lv_at hl 1 rfl) ?_
                                                  refine lv_aload_n hx hb dL_law_1032 rfl (lv_at hl 0 rfl) ?_
                                                  refine lv_iload hx hb dL_law_1033 (lv_at hl 4 rfl) ?_
                                                  refine lv_iconst (v := 1) hx hb dL_law_1035 (by decide) ?_
                                                  refine lv_iadd hx hb dL_law_1036 ?_
                                                  obtain ⟨z150, h⟩ := grd_some h
                                                  refine va_sld hx hb hX hbl hbA B.2.2.1 z150 dL_law_1037 ?_
                                                  refine lv_i2l hx hb dL_law_1038 rfl ?_
                                                  refine lv_bipush (v := 32) hx hb dL_law_1039 (by decide) ?_
                                                  refine lv_lshl hx hb dL_law_1041 rfl ?_
                                                  refine lv_aload_n hx hb dL_law_1042 rfl (lv_at hl 0 rfl) ?_
                                                  refine lv_iload hx hb dL_law_1043 (lv_at hl 4 rfl) ?_
                                                  refine lv_iconst (v := 2) hx hb dL_law_1045 (by decide) ?_
                                                  refine lv_iadd hx hb dL_law_1046 ?_
                                                  obtain ⟨z151, h⟩ := grd_some h
                                                  refine va_sld hx hb hX hbl hbA B.2.2.1 z151 dL_law_1047 ?_
                                                  refine lv_i2l hx hb dL_law_1048 rfl ?_
                                                  refine lv_ldc2 (v := 4294967295) hx hb F.2.2.2.1 (F.2.2.2.2 _ mKL_L_122) dL_law_1049 ?_
                                                  refine lv_land hx hb dL_law_1052 ?_
                                                  refine lv_lor hx hb dL_law_1053 ?_
                                                  refine lv_aload_n hx hb dL_law_1054 rfl (lv_at hl 0 rfl) ?_
                                                  refine lv_iload hx hb dL_law_1055 (lv_at hl 4 rfl) ?_
                                                  refine lv_iconst (v := 3) hx hb dL_law_1057 (by decide) ?_
                                                  refine lv_iadd hx hb dL_law_1058 ?_
                                                  obtain ⟨z152, h⟩ := grd_some h
                                                  refine va_sld hx hb hX hbl hbA B.2.2.1 z152 dL_law_1059 ?_
                                                  obtain ⟨q153, hq153, h⟩ := cal_some h
                                                  refine lwC F B (c_X3_pattern l g n S H.size (((Int32.toInt64 (xs (Int32.toNatClampNeg (x4 + 1)))) <<< (Int32.toInt64 32 &&& 63)) ||| ((Int32.toInt64 (xs (Int32.toNatClampNeg (x4 + 2)))) &&& 4294967295)) (xs (Int32.toNatClampNeg (x4 + 3))) q153 hq153) mC_X3_pattern mM_L_124 mN_X3 mI_X3_pattern mS_X3_pattern ⟨ok_X3_pattern, by decide, by decide, hcl, hsl⟩ rfl hl.1 rfl (Nat.le_of_ble_eq_true rfl) dL_law_1060 (fun H locs B => ?_)
                                                  refine lv_aload_n hx hb dL_law_1063 rfl (lv_at hl 2 rfl) ?_
                                                  refine lv_aload_n hx hb dL_law_1064 rfl (lv_at hl 0 rfl) ?_
                                                  refine lv_iload hx hb dL_law_1065 (lv_at hl 4 rfl) ?_
                                                  refine lv_iconst (v := 1) hx hb dL_law_1067 (by decide) ?_
                                                  refine lv_iadd hx hb dL_law_1068 ?_
                                                  refine va_sld hx hb hX hbl hbA B.2.2.1 z150 dL_law_1069 ?_
                                                  refine lv_i2l hx hb dL_law_1070 rfl ?_
                                                  refine lv_bipush (v := 32) hx hb dL_law_1071 (by decide) ?_
                                                  refine lv_lshl hx hb dL_law_1073 rfl ?_
                                                  refine lv_aload_n hx hb dL_law_1074 rfl (lv_at hl 0 rfl) ?_
                                                  refine lv_iload hx hb dL_law_1075 (lv_at hl 4 rfl) ?_
                                                  refine lv_iconst (v := 2) hx hb dL_law_1077 (by decide) ?_
                                                  refine lv_iadd hx hb dL_law_1078 ?_
                                                  refine va_sld hx hb hX hbl hbA B.2.2.1 z151 dL_law_1079 ?_
                                                  refine lv_i2l hx hb dL_law_1080 rfl ?_
                                                  refine lv_ldc2 (v := 4294967295) hx hb F.2.2.2.1 (F.2.2.2.2 _ mKL_L_122) dL_law_1081 ?_
                                                  refine lv_land hx hb dL_law_1084 ?_
                                                  refine lv_lor hx hb dL_law_1085 ?_
                                                  refine lv_aload_n hx hb dL_law_1086 rfl (lv_at hl 0 rfl) ?_
                                                  refine lv_iload hx hb dL_law_1087 (lv_at hl 4 rfl) ?_
                                                  refine lv_iconst (v := 3) hx hb dL_law_1089 (by decide) ?_
                                                  refine lv_iadd hx hb dL_law_1090 ?_
                                                  refine va_sld hx hb hX hbl hbA B.2.2.1 z152 dL_law_1091 ?_
                                                  obtain ⟨q154, hq154, h⟩ := cal_some h
                                                  refine lwM F B (c_X4_pattern l (gm g am) n M H.size (((Int32.toInt64 (xs (Int32.toNatClampNeg (x4 + 1)))) <<< (Int32.toInt64 32 &&& 63)) ||| ((Int32.toInt64 (xs (Int32.toNatClampNeg (x4 + 2)))) &&& 4294967295)) (xs (Int32.toNatClampNeg (x4 + 3))) q154 hq154) mC_X4_pattern mM_L_128 mN_X4 mI_X4_pattern mS_X4_pattern ⟨ok_X4_pattern, by decide, by decide, hcl, hsl⟩ rfl hl.1 rfl (Nat.le_of_ble_eq_true rfl) dL_law_1092 (fun H locs B => ?_)
                                                  refine lv_icmp_eq (tgt := 1269) hx hb dL_law_1095 (by decide) (fun c155 => ?_) (fun c155 => ?_)
                                                  · rw [if_pos c155] at h
                                                    refine lv_iinc (v := x4 + 6) (lv' := [(4, .int (x4 + 6)), (0, .ref b), (1, .ref (g.2.2 3 0)), (2, .ref (am 0 0)), (3, .ref ao)]) hx hb dL_law_1269 hl (k := 4) rfl rfl (by decide) rfl (fun ls hl => ?_)
                                                    refine lv_goto (tgt := 23) hx hb dL_law_1272 (by decide) ?_
                                                    obtain rfl := Option.some.inj h
                                                    exact ih (x4 + 6) q153.2 q154.2 o (cells) (slots) (by omega) ht H locs ls B (lv_sub hl [1, 2, 3, 4, 0] rfl)
                                                  · rw [if_neg c155] at h
                                                    refine lv_iconst (v := 0) hx hb dL_law_1098 (by decide) ?_
                                                    obtain rfl := Option.some.inj h
                                                    exact absurd (show (0 : Int32) = 1 from ht) (by decide)
                                                · rw [if_neg c149] at h
                                                  by_cases c156 : ((xs (Int32.toNatClampNeg x4)) &&& 31) = 22
                                                  · rw [if_pos c156] at h
                                                    refine lv_tableIn (tgt := 1100) hx hb dL_law_40 (by rw [c156]; decide) (by rw [c156]; decide) (by rw [c156]; rfl) (by decide) ?_
                                                    unfold k_law_22 at h
                                                    refine lv_aload_n hx hb dL_law_1100 rfl (lv_at hl 1 rfl) ?_
                                                    refine lv_aload_n hx hb dL_law_1101 rfl (lv_at hl 0 rfl) ?_
                                                    refine lv_iload hx hb dL_law_1102 (lv_at hl 4 rfl) ?_
                                                    refine lv_iconst (v := 1) hx hb dL_law_1104 (by decide) ?_
                                                    refine lv_iadd hx hb dL_law_1105 ?_
                                                    obtain ⟨z157, h⟩ := grd_some h
                                                    refine va_sld hx hb hX hbl hbA B.2.2.1 z157 dL_law_1106 ?_
                                                    obtain ⟨q158, hq158, h⟩ := cal_some h
                                                    refine lwC F B (c_X3_letter l g n S H.size (xs (Int32.toNatClampNeg (x4 + 1))) q158 hq158) mC_X3_letter mM_L_129 mN_X3 mI_X3_letter mS_X3_letter ⟨ok_X3_letter, by decide, by decide, hcl, hsl⟩ rfl hl.1 rfl (Nat.le_of_ble_eq_true rfl) dL_law_1107 (fun H locs B => ?_)
                                                    refine lv_aload_n hx hb dL_law_1110 rfl (lv_at hl 2 rfl) ?_
                                                    refine lv_aload_n hx hb dL_law_1111 rfl (lv_at hl 0 rfl) ?_
                                                    refine lv_iload hx hb dL_law_1112 (lv_at hl 4 rfl) ?_
                                                    refine lv_iconst (v := 1) hx hb dL_law_1114 (by decide) ?_
                                                    refine lv_iadd hx hb dL_law_1115 ?_
                                                    refine va_sld hx hb hX hbl hbA B.2.2.1 z157 dL_law_1116 ?_
                                                    obtain ⟨q159, hq159, h⟩ := cal_some h
                                                    refine lwM F B (c_X4_letter l (gm g am) n M H.size (xs (Int32.toNatClampNeg (x4 + 1))) q159 hq159) mC_X4_letter mM_L_132 mN_X4 mI_X4_letter mS_X4_letter ⟨ok_X4_letter, by decide, by decide, hcl, hsl⟩ rfl hl.1 rfl (Nat.le_of_ble_eq_true rfl) dL_law_1117 (fun H locs B => ?_)
                                                    refine lv_icmp_eq (tgt := 1269) hx hb dL_law_1120 (by decide) (fun c160 => ?_) (fun c160 => ?_)
                                                    · rw [if_pos c160] at h
                                                      refine lv_iinc (v := x4 + 6) (lv' := [(4, .int (x4 + 6)), (0, .ref b), (1, .ref (g.2.2 3 0)), (2, .ref (am 0 0)), (3, .ref ao)]) hx hb dL_law_1269 hl (k := 4) rfl rfl (by decide) rfl (fun ls hl => ?_)
                                                      refine lv_goto (tgt := 23) hx hb dL_law_1272 (by decide) ?_
                                                      obtain rfl := Option.some.inj h
                                                      exact ih (x4 + 6) q158.2 q159.2 o (cells) (slots) (by omega) ht H locs ls B (lv_sub hl [1, 2, 3, 4, 0] rfl)
                                                    · rw [if_neg c160] at h
                                                      refine lv_iconst (v := 0) hx hb dL_law_1123 (by decide) ?_
                                                      obtain rfl := Option.some.inj h
                                                      exact absurd (show (0 : Int32) = 1 from ht) (by decide)
                                                  · rw [if_neg c156] at h
                                                    by_cases c161 : ((xs (Int32.toNatClampNeg x4)) &&& 31) = 23
                                                    · rw [if_pos c161] at h
                                                      refine lv_tableIn (tgt := 1125) hx hb dL_law_40 (by rw [c161]; decide) (by rw [c161]; decide) (by rw [c161]; rfl) (by decide) ?_
                                                      unfold k_law_23 at h
                                                      refine lv_aload_n hx hb dL_law_1125 rfl (lv_at hl 1 rfl) ?_
                                                      refine lv_aload_n hx hb dL_law_1126 rfl (lv_at hl 0 rfl) ?_
                                                      refine lv_iload hx hb dL_law_1127 (lv_at hl 4 rfl) ?_
                                                      refine lv_iconst (v := 1) hx hb dL_law_1129 (by decide) ?_
                                                      refine lv_iadd hx hb dL_law_1130 ?_
                                                      obtain ⟨z162, h⟩ := grd_some h
                                                      refine va_sld hx hb hX hbl hbA B.2.2.1 z162 dL_law_1131 ?_
                                                      refine lv_aload_n hx hb dL_law_1132 rfl (lv_at hl 0 rfl) ?_
                                                      refine lv_iload hx hb dL_law_1133 (lv_at hl 4 rfl) ?_
                                                      refine lv_iconst (v := 2) hx hb dL_law_1135 (by decide) ?_
                                                      refine lv_iadd hx hb dL_law_1136 ?_
                                                      obtain ⟨z163, h⟩ := grd_some h
                                                      refine va_sld hx hb hX hbl hbA B.2.2.1 z163 dL_law_1137 ?_
                                                      obtain ⟨q164, hq164, h⟩ := cal_some h
                                                      refine lwC F B (c_X3_sides l g n S H.size (xs (Int32.toNatClampNeg (x4 + 1))) (xs (Int32.toNatClampNeg (x4 + 2))) q164 hq164) mC_X3_sides mM_L_133 mN_X3 mI_X3_sides mS_X3_sides ⟨ok_X3_sides, by decide, by decide, hcl, hsl⟩ rfl hl.1 rfl (Nat.le_of_ble_eq_true rfl) dL_law_1138 (fun H locs B => ?_)
                                                      refine lv_aload_n hx hb dL_law_1141 rfl (lv_at hl 2 rfl) ?_
                                                      refine lv_aload_n hx hb dL_law_1142 rfl (lv_at hl 0 rfl) ?_
                                                      refine lv_iload hx hb dL_law_1143 (lv_at hl 4 rfl) ?_
                                                      refine lv_iconst (v := 1) hx hb dL_law_1145 (by decide) ?_
                                                      refine lv_iadd hx hb dL_law_1146 ?_
                                                      refine va_sld hx hb hX hbl hbA B.2.2.1 z162 dL_law_1147 ?_
                                                      refine lv_aload_n hx hb dL_law_1148 rfl (lv_at hl 0 rfl) ?_
                                                      refine lv_iload hx hb dL_law_1149 (lv_at hl 4 rfl) ?_
                                                      refine lv_iconst (v := 2) hx hb dL_law_1151 (by decide) ?_
                                                      refine lv_iadd hx hb dL_law_1152 ?_
                                                      refine va_sld hx hb hX hbl hbA B.2.2.1 z163 dL_law_1153 ?_
                                                      obtain ⟨q165, hq165, h⟩ := cal_some h
                                                      refine lwM F B (c_X4_sides l (gm g am) n M H.size (xs (Int32.toNatClampNeg (x4 + 1))) (xs (Int32.toNatClampNeg (x4 + 2))) q165 hq165) mC_X4_sides mM_L_136 mN_X4 mI_X4_sides mS_X4_sides ⟨ok_X4_sides, by decide, by decide, hcl, hsl⟩ rfl hl.1 rfl (Nat.le_of_ble_eq_true rfl) dL_law_1154 (fun H locs B => ?_)
                                                      refine lv_icmp_eq (tgt := 1269) hx hb dL_law_1157 (by decide) (fun c166 => ?_) (fun c166 => ?_)
                                                      · rw [if_pos c166] at h
                                                        refine lv_iinc (v := x4 + 6) (lv' := [(4, .int (x4 + 6)), (0, .ref b), (1, .ref (g.2.2 3 0)), (2, .ref (am 0 0)), (3, .ref ao)]) hx hb dL_law_1269 hl (k := 4) rfl rfl (by decide) rfl (fun ls hl => ?_)
                                                        refine lv_goto (tgt := 23) hx hb dL_law_1272 (by decide) ?_
                                                        obtain rfl := Option.some.inj h
                                                        exact ih (x4 + 6) q164.2 q165.2 o (cells) (slots) (by omega) ht H locs ls B (lv_sub hl [1, 2, 3, 4, 0] rfl)
                                                      · rw [if_neg c166] at h
                                                        refine lv_iconst (v := 0) hx hb dL_law_1160 (by decide) ?_
                                                        obtain rfl := Option.some.inj h
                                                        exact absurd (show (0 : Int32) = 1 from ht) (by decide)
                                                    · rw [if_neg c161] at h
                                                      by_cases c167 : ((xs (Int32.toNatClampNeg x4)) &&& 31) = 24
                                                      · rw [if_pos c167] at h
                                                        refine lv_tableIn (tgt := 1162) hx hb dL_law_40 (by rw [c167]; decide) (by rw [c167]; decide) (by rw [c167]; rfl) (by decide) ?_
                                                        unfold k_law_24 at h
                                                        refine lv_aload_n hx hb dL_law_1162 rfl (lv_at hl 1 rfl) ?_
                                                        obtain ⟨q168, hq168, h⟩ := cal_some h
                                                        refine lwC F B (c_X3_cuts l g n S H.size  q168 hq168) mC_X3_cuts mM_L_137 mN_X3 mI_X3_cuts mS_X3_cuts ⟨ok_X3_cuts, by decide, by decide, hcl, hsl⟩ rfl hl.1 rfl (Nat.le_of_ble_eq_true rfl) dL_law_1163 (fun H locs B => ?_)
                                                        refine lv_aload_n hx hb dL_law_1166 rfl (lv_at hl 2 rfl) ?_
                                                        obtain ⟨q169, hq169, h⟩ := cal_some h
                                                        refine lwM F B (c_X4_cuts l (gm g am) n M H.size  q169 hq169) mC_X4_cuts mM_L_140 mN_X4 mI_X4_cuts mS_X4_cuts ⟨ok_X4_cuts, by decide, by decide, hcl, hsl⟩ rfl hl.1 rfl (Nat.le_of_ble_eq_true rfl) dL_law_1167 (fun H locs B => ?_)
                                                        refine lv_icmp_eq (tgt := 1269) hx hb dL_law_1170 (by decide) (fun c170 => ?_) (fun c170 => ?_)
                                                        · rw [if_pos c170] at h
                                                          refine lv_iinc (v := x4 + 6) (lv' := [(4, .int (x4 + 6)), (0, .ref b), (1, .ref (g.2.2 3 0)), (2, .ref (am 0 0)), (3, .ref ao)]) hx hb dL_law_1269 hl (k := 4) rfl rfl (by decide) rfl (fun ls hl => ?_)
                                                          refine lv_goto (tgt := 23) hx hb dL_law_1272 (by decide) ?_
                                                          obtain rfl := Option.some.inj h
                                                          exact ih (x4 + 6) q168.2 q169.2 o (cells) (slots) (by omega) ht H locs ls B (lv_sub hl [1, 2, 3, 4, 0] rfl)
                                                        · rw [if_neg c170] at h
                                                          refine lv_iconst (v := 0) hx hb dL_law_1173 (by decide) ?_
                                                          obtain rfl := Option.some.inj h
                                                          exact absurd (show (0 : Int32) = 1 from ht) (by decide)
                                                      · rw [if_neg c167] at h
                                                        by_cases c171 : ((xs (Int32.toNatClampNeg x4)) &&& 31) = 25
                                                        · rw [if_pos c171] at h
                                                          refine lv_tableIn (tgt := 1175) hx hb dL_law_40 (by rw [c171]; decide) (by rw [c171]; decide) (by rw [c171]; rfl) (by decide) ?_
                                                          unfold k_law_25 at h
                                                          refine lv_aload_n hx hb dL_law_1175 rfl (lv_at hl 1 rfl) ?_
                                                          refine lv_aload_n hx hb dL_law_1176 rfl (lv_at hl 0 rfl) ?_
                                                          refine lv_iload hx hb dL_law_1177 (lv_at hl 4 rfl) ?_
                                                          refine lv_iconst (v := 1) hx hb dL_law_1179 (by decide) ?_
                                                          refine lv_iadd hx hb dL_law_1180 ?_
                                                          obtain ⟨z172, h⟩ := grd_some h
                                                          refine va_sld hx hb hX hbl hbA B.2.2.1 z172 dL_law_1181 ?_
                                                          refine lv_aload_n hx hb dL_law_1182 rfl (lv_at hl 3 rfl) ?_
                                                          obtain ⟨q173, hq173, h⟩ := cal_some h
                                                          refine lwE F B (c_L_cut l hl9 g n S ao o H.size (xs (Int32.toNatClampNeg (x4 + 1))) q173 hq173) mW_L_cut mM_L_141 mN_L mT_L_cut okL_cut (by decide) (by show _ ≤ 603072; omega) (by show _ ≤ 7227498; omega) rfl hl.1 rfl (Nat.le_of_ble_eq_true rfl) dL_law_1183 (fun H locs B => ?_)
                                                          have hcl : cells + 1 ≤ room_1.cells := by show _ ≤ 603072; omega
                                                          have hsl : slots + 6 ≤ room_1.slots := by show _ ≤ 7227498; omega
                                                          refine lv_istore (lv' := [(5, .int (ctR q173)), (0, .ref b), (1, .ref (g.2.2 3 0)), (2, .ref (am 0 0)), (3, .ref ao), (4, .int x4)]) hx hb dL_law_1186 hl (by decide) rfl (fun ls hl => ?_)
                                                          refine lv_aload_n hx hb dL_law_1188 rfl (lv_at hl 3 rfl) ?_
                                                          refine lv_aload_n hx hb dL_law_1189 rfl (lv_at hl 1 rfl) ?_
                                                          refine lv_iload hx hb dL_law_1190 (lv_at hl 5 rfl) ?_
                                                          refine lv_iconst (v := 1) hx hb dL_law_1192 (by decide) ?_
                                                          refine lv_iadd hx hb dL_law_1193 ?_
                                                          refine va_sld hx hb hX hbl hbA B.2.2.1 z172 dL_law_1194 ?_
                                                          obtain ⟨q174, hq174, h⟩ := cal_some h
                                                          refine lwM F B (c_X4_cut l (gm g am) n M H.size (xs (Int32.toNatClampNeg (x4 + 1))) q174 hq174) mC_X4_cut mM_L_144 mN_X4 mI_X4_cut mS_X4_cut ⟨ok_X4_cut, by decide, by decide, hcl, hsl⟩ rfl hl.1 rfl (Nat.le_of_ble_eq_true rfl) dL_law_1195 (fun H locs B => ?_)
                                                          refine lv_istore (lv' := [(6, .int q174.1), (5, .int (ctR q173)), (0, .ref b), (1, .ref (g.2.2 3 0)), (2, .ref (am 0 0)), (3, .ref ao), (4, .int x4)]) hx hb dL_law_1198 hl (by decide) rfl (fun ls hl => ?_)
                                                          refine lv_aload_n hx hb dL_law_1200 rfl (lv_at hl 4 rfl) ?_
                                                          obtain ⟨q175, hq175, h⟩ := cal_some h
                                                          refine lwM F B (c_X4_thrown l (gm g am) n q174.2 H.size  q175 hq175) mC_X4_thrown mM_L_91 mN_X4 mI_X4_thrown mS_X4_thrown ⟨ok_X4_thrown, by decide, by decide, hcl, hsl⟩ rfl hl.1 rfl (Nat.le_of_ble_eq_true rfl) dL_law_1201 (fun H locs B => ?_)
                                                          refine lv_iload hx hb dL_law_1204 (lv_at hl 1 rfl) ?_
                                                          refine lv_icmp_eq (tgt := 1211) hx hb dL_law_1206 (by decide) (fun c176 => ?_) (fun c176 => ?_)
                                                          · rw [if_pos c176] at h
                                                            refine lv_iload hx hb dL_law_1211 (lv_at hl 1 rfl) ?_
                                                            refine lv_if_ne (tgt := 1228) hx hb dL_law_1213 (by decide) (fun c177 => ?_) (fun c177 => ?_)
                                                            · rw [if_neg c177] at h
                                                              refine lv_goto (tgt := 1269) hx hb dL_law_1228 (by decide) ?_
                                                              refine lv_iinc (v := x4 + 6) (lv' := [(4, .int (x4 + 6)), (6, .int q174.1), (5, .int (ctR q173)), (0, .ref b), (1, .ref (g.2.2 3 0)), (2, .ref (am 0 0)), (3, .ref ao)]) hx hb dL_law_1269 hl (k := 6) rfl rfl (by decide) rfl (fun ls hl => ?_)
                                                              refine lv_goto (tgt := 23) hx hb dL_law_1272 (by decide) ?_
                                                              obtain rfl := Option.some.inj h
                                                              exact ih (x4 + 6) S q174.2 (ctO o q173) (cells + 1) (slots + 6) (by omega) ht H locs ls B (lv_sub hl [3, 4, 5, 6, 0] rfl)
                                                            · rw [if_pos c177] at h
                                                              refine lv_aload_n hx hb dL_law_1216 rfl (lv_at hl 5 rfl) ?_
                                                              refine lv_iconst (v := 0) hx hb dL_law_1217 (by decide) ?_
                                                              refine va_lald hx hb B.1 B.2.2.2.2.2.1 0 4 rfl rfl (by unfold vp_in; decide) dL_law_1218 ?_
                                                              refine lv_iload hx hb dL_law_1219 (lv_at hl 0 rfl) ?_
                                                              refine lv_i2l hx hb dL_law_1221 rfl ?_
                                                              refine W.lcmp hx hb dL_law_1222 ?_
                                                              refine lv_if_eq (tgt := 1228) hx hb dL_law_1223 (by decide) (fun c178 => ?_) (fun c178 => ?_)
                                                              · rw [if_pos c178] at h
                                                                refine lv_goto (tgt := 1269) hx hb dL_law_1228 (by decide) ?_
                                                                refine lv_iinc (v := x4 + 6) (lv' := [(4, .int (x4 + 6)), (6, .int q174.1), (5, .int (ctR q173)), (0, .ref b), (1, .ref (g.2.2 3 0)), (2, .ref (am 0 0)), (3, .ref ao)]) hx hb dL_law_1269 hl (k := 6) rfl rfl (by decide) rfl (fun ls hl => ?_)
                                                                refine lv_goto (tgt := 23) hx hb dL_law_1272 (by decide) ?_
                                                                obtain rfl := Option.some.inj h
                                                                exact ih (x4 + 6) S q174.2 (ctO o q173) (cells + 1) (slots + 6) (by omega) ht H locs ls B (lv_sub hl [3, 4, 5, 6, 0] rfl)
                                                              · rw [if_neg c178] at h
                                                                refine lv_iconst (v := 0) hx hb dL_law_1226 (by decide) ?_
                                                                obtain rfl := Option.some.inj h
                                                                exact absurd (show (0 : Int32) = 1 from ht) (by decide)
                                                          · rw [if_neg c176] at h
                                                            refine lv_iconst (v := 0) hx hb dL_law_1209 (by decide) ?_
                                                            obtain rfl := Option.some.inj h
                                                            exact absurd (show (0 : Int32) = 1 from ht) (by decide)
                                                        · rw [if_neg c171] at h
                                                          by_cases c179 : ((xs (Int32.toNatClampNeg x4)) &&& 31) = 26
                                                          · rw [if_pos c179] at h
                                                            refine lv_tableIn (tgt := 1231) hx hb dL_law_40 (by rw [c179]; decide) (by rw [c179]; decide) (by rw [c179]; rfl) (by decide) ?_
                                                            unfold k_law_26 at h
                                                            refine lv_aload_n hx hb dL_law_1231 rfl (lv_at hl 1 rfl) ?_
                                                            refine lv_aload_n hx hb dL_law_1232 rfl (lv_at hl 0 rfl) ?_
                                                            refine lv_iload hx hb dL_law_1233 (lv_at hl 4 rfl) ?_
                                                            refine lv_iconst (v := 1) hx hb dL_law_1235 (by decide) ?_
                                                            refine lv_iadd hx hb dL_law_1236 ?_
                                                            obtain ⟨z180, h⟩ := grd_some h
                                                            refine va_sld hx hb hX hbl hbA B.2.2.1 z180 dL_law_1237 ?_
                                                            obtain ⟨q181, hq181, h⟩ := cal_some h
                                                            refine lwC F B (c_X3_told l g n S H.size (xs (Int32.toNatClampNeg (x4 + 1))) q181 hq181) mC_X3_told mM_L_145 mN_X3 mI_X3_told mS_X3_told ⟨ok_X3_told, by decide, by decide, hcl, hsl⟩ rfl hl.1 rfl (Nat.le_of_ble_eq_true rfl) dL_law_1238 (fun H locs B => ?_)
                                                            refine lv_aload_n hx hb dL_law_1241 rfl (lv_at hl 2 rfl) ?_
                                                            refine lv_aload_n hx hb dL_law_1242 rfl (lv_at hl 0 rfl) ?_
                                                            refine lv_iload hx hb dL_law_1243 (lv_at hl 4 rfl) ?_
                                                            refine lv_iconst (v := 1) hx hb dL_law_1245 (by decide) ?_
                                                            refine lv_iadd hx hb dL_law_1246 ?_
                                                            refine va_sld hx hb hX hbl hbA B.2.2.1 z180 dL_law_1247 ?_
                                                            obtain ⟨q182, hq182, h⟩ := cal_some h
                                                            refine lwM F B (c_X4_told l (gm g am) n M H.size (xs (Int32.toNatClampNeg (x4 + 1))) q182 hq182) mC_X4_told mM_L_148 mN_X4 mI_X4_told mS_X4_told ⟨ok_X4_told, by decide, by decide, hcl, hsl⟩ rfl hl.1 rfl (Nat.le_of_ble_eq_true rfl) dL_law_1248 (fun H locs B => ?_)
                                                            refine lv_icmp_eq (tgt := 1269) hx hb dL_law_1251 (by decide) (fun c183 => ?_) (fun c183 => ?_)
                                                            · rw [if_pos c183] at h
                                                              refine lv_iinc (v := x4 + 6) (lv' := [(4, .int (x4 + 6)), (0, .ref b), (1, .ref (g.2.2 3 0)), (2, .ref (am 0 0)), (3, .ref ao)]) hx hb dL_law_1269 hl (k := 4) rfl rfl (by decide) rfl (fun ls hl => ?_)
                                                              refine lv_goto (tgt := 23) hx hb dL_law_1272 (by decide) ?_
                                                              obtain rfl := Option.some.inj h
                                                              exact ih (x4 + 6) S q182.2 o (cells) (slots) (by omega) ht H locs ls B (lv_sub hl [1, 2, 3, 4, 0] rfl)
                                                            · rw [if_neg c183] at h
                                                              refine lv_iconst (v := 0) hx hb dL_law_1254 (by decide) ?_
                                                              obtain rfl := Option.some.inj h
                                                              exact absurd (show (0 : Int32) = 1 from ht) (by decide)
                                                          · rw [if_neg c179] at h
                                                            by_cases c184 : ((xs (Int32.toNatClampNeg x4)) &&& 31) = 27
                                                            · rw [if_pos c184] at h
                                                              refine lv_tableIn (tgt := 1256) hx hb dL_law_40 (by rw [c184]; decide) (by rw [c184]; decide) (by rw [c184]; rfl) (by decide) ?_
                                                              unfold k_law_27 at h
                                                              refine lv_aload_n hx hb dL_law_1256 rfl (lv_at hl 1 rfl) ?_
                                                              obtain ⟨q185, hq185, h⟩ := cal_some h
                                                              refine lwC F B (c_X3_clear l g n S H.size  q185 hq185) mC_X3_clear mM_L_149 mN_X3 mI_X3_clear mS_X3_clear ⟨ok_X3_clear, by decide, by decide, hcl, hsl⟩ rfl hl.1 rfl (Nat.le_of_ble_eq_true rfl) dL_law_1257 (fun H locs B => ?_)
                                                              refine lv_aload_n hx hb dL_law_1260 rfl (lv_at hl 2 rfl) ?_
                                                              obtain ⟨q186, hq186, h⟩ := cal_some h
                                                              refine lwM F B (c_X4_clear l (gm g am) n M H.size  q186 hq186) mC_X4_clear mM_L_152 mN_X4 mI_X4_clear mS_X4_clear ⟨ok_X4_clear, by decide, by decide, hcl, hsl⟩ rfl hl.1 rfl (Nat.le_of_ble_eq_true rfl) dL_law_1261 (fun H locs B => ?_)
                                                              refine lv_icmp_eq (tgt := 1269) hx hb dL_law_1264 (by decide) (fun c187 => ?_) (fun c187 => ?_)
                                                              · rw [if_pos c187] at h
                                                                refine lv_iinc (v := x4 + 6) (lv' := [(4, .int (x4 + 6)), (0, .ref b), (1, .ref (g.2.2 3 0)), (2, .ref (am 0 0)), (3, .ref ao)]) hx hb dL_law_1269 hl (k := 4) rfl rfl (by decide) rfl (fun ls hl => ?_)
                                                                refine lv_goto (tgt := 23) hx hb dL_law_1272 (by decide) ?_
                                                                obtain rfl := Option.some.inj h
                                                                exact ih (x4 + 6) q185.2 q186.2 o (cells) (slots) (by omega) ht H locs ls B (lv_sub hl [1, 2, 3, 4, 0] rfl)
                                                              · rw [if_neg c187] at h
                                                                refine lv_iconst (v := 0) hx hb dL_law_1267 (by decide) ?_
                                                                obtain rfl := Option.some.inj h
                                                                exact absurd (show (0 : Int32) = 1 from ht) (by decide)
                                                            · rw [if_neg c184] at h
                                                              refine lv_tableOut (tgt := 1269) hx hb dL_law_40 (sw_out (fun z h1 h2 => by rcases (show z = 0 ∨ z = 1 ∨ z = 2 ∨ z = 3 ∨ z = 4 ∨ z = 5 ∨ z = 6 ∨ z = 7 ∨ z = 8 ∨ z = 9 ∨ z = 10 ∨ z = 11 ∨ z = 12 ∨ z = 13 ∨ z = 14 ∨ z = 15 ∨ z = 16 ∨ z = 17 ∨ z = 18 ∨ z = 19 ∨ z = 20 ∨ z = 21 ∨ z = 22 ∨ z = 23 ∨ z = 24 ∨ z = 25 ∨ z = 26 ∨ z = 27 by omega) with rfl | rfl | rfl | rfl | rfl | rfl | rfl | rfl | rfl | rfl | rfl | rfl | rfl | rfl | rfl | rfl | rfl | rfl | rfl | rfl | rfl | rfl | rfl | rfl | rfl | rfl | rfl | rfl <;> first | exact c3 | exact c15 | exact c31 | exact c37 | exact c43 | exact c49 | exact c55 | exact c61 | exact c71 | exact c76 | exact c80 | exact c86 | exact c93 | exact c99 | exact c109 | exact c116 | exact c123 | exact c127 | exact c133 | exact c138 | exact c143 | exact c149 | exact c156 | exact c161 | exact c167 | exact c171 | exact c179 | exact c184)) (by decide) ?_
                                                              refine lv_iinc (v := x4 + 6) (lv' := [(4, .int (x4 + 6)), (0, .ref b), (1, .ref (g.2.2 3 0)), (2, .ref (am 0 0)), (3, .ref ao)]) hx hb dL_law_1269 hl (k := 4) rfl rfl (by decide) rfl (fun ls hl => ?_)
                                                              refine lv_goto (tgt := 23) hx hb dL_law_1272 (by decide) ?_
                                                              obtain rfl := Option.some.inj h
                                                              exact ih (x4 + 6) S M o (cells) (slots) (by omega) ht H locs ls B (lv_sub hl [1, 2, 3, 4, 0] rfl)
