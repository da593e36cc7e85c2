theorem dL_deed_0 : decode cL_deed 0 = .ok (.aload_n 2, 1) := by decide +kernel
theorem dL_deed_1 : decode cL_deed 1 = .ok (.iconst 0, 1) := by decide +kernel
theorem dL_deed_2 : decode cL_deed 2 = .ok (.aload_n 0, 1) := by decide +kernel
theorem dL_deed_3 : decode cL_deed 3 = .ok (.iload_n 1, 1) := by decide +kernel
theorem dL_deed_4 : decode cL_deed 4 = .ok (.invokevirtual 7, 3) := by decide +kernel
theorem dL_deed_7 : decode cL_deed 7 = .ok (.i2l, 1) := by decide +kernel
theorem dL_deed_8 : decode cL_deed 8 = .ok (.lastore, 1) := by decide +kernel
theorem dL_deed_9 : decode cL_deed 9 = .ok (.goto 6, 3) := by decide +kernel
theorem dL_deed_12 : decode cL_deed 12 = .ok (.astore_n 3, 1) := by decide +kernel
theorem dL_deed_13 : decode cL_deed 13 = .ok (.iconst 1, 1) := by decide +kernel
theorem dL_deed_14 : decode cL_deed 14 = .ok (.ireturn, 1) := by decide +kernel
theorem dL_deed_15 : decode cL_deed 15 = .ok (.iconst 0, 1) := by decide +kernel
theorem dL_deed_16 : decode cL_deed 16 = .ok (.ireturn, 1) := by decide +kernel
abbrev mL_deed : MD := (cL_deed, "BlottedDeedLaw", 4, 11, 246, (some .int), "deed", [(0, 9, 12, 13)])
def bL_deed_0 (g : GE) (J : Nat → KT) : KT := i_aload 2 (i_push (.int 0) (i_aload 0 (i_iload 1 (i_cvC fX10_deed g 1 9 [("java/lang/IllegalArgumentException", i_astore 3 (i_push (.int 1) (i_ireturn)))] (i_i2l (i_lastore (i_jmp [false, false, false, false] (i_push (.int 0) (i_ireturn)))))))))
theorem sbL_deed_0 (g : GE) (J : Nat → KT)  : Snd mL_deed g 0 (bL_deed_0 g J) := by
  unfold bL_deed_0
  refine s_aload_n (pc := 0) (i := 2) ?_ dL_deed_0 rfl
  refine s_iconst (pc := 1) (v := 0) ?_ dL_deed_1 (by decide)
  refine s_aload_n (pc := 2) (i := 0) ?_ dL_deed_2 rfl
  refine s_iload_n (pc := 3) (i := 1) ?_ dL_deed_3 rfl
  refine s_cvC (pc := 4) (n := 1) (ci := 9) ?_ ?_ tX10_deed rfl rfl wt_622 wt_623 wt_624 wt_1 wt_625 ⟨crX10_deed, by decide, by decide⟩ dL_deed_4
  · skip
    refine s_i2l (pc := 7) ?_ dL_deed_7
    refine s_lastore (pc := 8) ?_ dL_deed_8
    refine s_goto (pc := 9) (tgt := 15) ?_ dL_deed_9 (by decide)
    refine s_iconst (pc := 15) (v := 0) ?_ dL_deed_15 (by decide)
    exact s_ireturn (pc := 16) rfl dL_deed_16
  · skip
    refine List.forall_mem_cons.mpr ⟨⟨[], ⟨0, 9, 12, 13⟩, [], "java/lang/IllegalArgumentException", rfl, fun z hz => (by cases hz), by decide, by decide, wt_621, by decide +kernel, ?_, fun _ _ _ => rfl⟩, ?_⟩
    · skip
      refine s_astore_n (pc := 12) (i := 3) ?_ dL_deed_12 rfl (by decide)
      refine s_iconst (pc := 13) (v := 1) ?_ dL_deed_13 (by decide)
      exact s_ireturn (pc := 14) rfl dL_deed_14
    exact fun _ h => by cases h
def kL_deed (g : GE) : KT := bL_deed_0 g (fun _ _ _ _ => none)
theorem sL_deed (g : GE) : Snd mL_deed g 0 (kL_deed g) := sbL_deed_0 g _
def fL_deed : FT := fun g av w => if (ent av).length ≤ 4 then kL_deed g [] (entp 4 av) w else none
theorem tL_deed : MtW yL_deed cL_deed 4 (some .int) [(0, 9, 12, 13)] 11 246 fL_deed := MtW.of (K := kL_deed) (by decide +kernel) (fun _ _ _ => rfl) sL_deed
theorem crL_deed : yL_deed.cls ≠ "java/lang/invoke/MethodHandle" ∧ yL_deed.cls ≠ "java/lang/invoke/VarHandle" ∧ (parseMethodDescriptor yL_deed.desc).map (fun d => d.parameters.length) = some 3 := by decide +kernel
theorem dL_fewest_0 : decode cL_fewest 0 = .ok (.aload_n 3, 1) := by decide +kernel
theorem dL_fewest_1 : decode cL_fewest 1 = .ok (.iconst 0, 1) := by decide +kernel
theorem dL_fewest_2 : decode cL_fewest 2 = .ok (.aload_n 0, 1) := by decide +kernel
theorem dL_fewest_3 : decode cL_fewest 3 = .ok (.iload_n 1, 1) := by decide +kernel
theorem dL_fewest_4 : decode cL_fewest 4 = .ok (.iload_n 2, 1) := by decide +kernel
theorem dL_fewest_5 : decode cL_fewest 5 = .ok (.invokevirtual 58, 3) := by decide +kernel
theorem dL_fewest_8 : decode cL_fewest 8 = .ok (.i2l, 1) := by decide +kernel
theorem dL_fewest_9 : decode cL_fewest 9 = .ok (.lastore, 1) := by decide +kernel
theorem dL_fewest_10 : decode cL_fewest 10 = .ok (.goto 11, 3) := by decide +kernel
theorem dL_fewest_13 : decode cL_fewest 13 = .ok (.astore 4, 2) := by decide +kernel
theorem dL_fewest_15 : decode cL_fewest 15 = .ok (.iconst 1, 1) := by decide +kernel
theorem dL_fewest_16 : decode cL_fewest 16 = .ok (.ireturn, 1) := by decide +kernel
theorem dL_fewest_17 : decode cL_fewest 17 = .ok (.astore 4, 2) := by decide +kernel
theorem dL_fewest_19 : decode cL_fewest 19 = .ok (.iconst 2, 1) := by decide +kernel
theorem dL_fewest_20 : decode cL_fewest 20 = .ok (.ireturn, 1) := by decide +kernel
theorem dL_fewest_21 : decode cL_fewest 21 = .ok (.iconst 0, 1) := by decide +kernel
theorem dL_fewest_22 : decode cL_fewest 22 = .ok (.ireturn, 1) := by decide +kernel
abbrev mL_fewest : MD := (cL_fewest, "BlottedDeedLaw", 5, 9, 193, (some .int), "fewest", [(0, 10, 13, 30), (0, 10, 17, 13)])
def bL_fewest_0 (g : GE) (J : Nat → KT) : KT := i_aload 3 (i_push (.int 0) (i_aload 0 (i_iload 1 (i_iload 2 (i_cvC fX10_fewest g 2 9 [("java/lang/IndexOutOfBoundsException", i_astore 4 (i_push (.int 1) (i_ireturn))), ("java/lang/IllegalArgumentException", i_astore 4 (i_push (.int 2) (i_ireturn)))] (i_i2l (i_lastore (i_jmp [false, false, false, false, false] (i_push (.int 0) (i_ireturn))))))))))
theorem sbL_fewest_0 (g : GE) (J : Nat → KT)  : Snd mL_fewest g 0 (bL_fewest_0 g J) := by
  unfold bL_fewest_0
  refine s_aload_n (pc := 0) (i := 3) ?_ dL_fewest_0 rfl
  refine s_iconst (pc := 1) (v := 0) ?_ dL_fewest_1 (by decide)
  refine s_aload_n (pc := 2) (i := 0) ?_ dL_fewest_2 rfl
  refine s_iload_n (pc := 3) (i := 1) ?_ dL_fewest_3 rfl
  refine s_iload_n (pc := 4) (i := 2) ?_ dL_fewest_4 rfl
  refine s_cvC (pc := 5) (n := 2) (ci := 9) ?_ ?_ tX10_fewest rfl rfl wt_1092 wt_1093 wt_1094 wt_1 wt_1095 ⟨crX10_fewest, by decide, by decide⟩ dL_fewest_5
  · skip
    refine s_i2l (pc := 8) ?_ dL_fewest_8
    refine s_lastore (pc := 9) ?_ dL_fewest_9
    refine s_goto (pc := 10) (tgt := 21) ?_ dL_fewest_10 (by decide)
    refine s_iconst (pc := 21) (v := 0) ?_ dL_fewest_21 (by decide)
    exact s_ireturn (pc := 22) rfl dL_fewest_22
  · skip
    refine List.forall_mem_cons.mpr ⟨⟨[], ⟨0, 10, 13, 30⟩, [⟨0, 10, 17, 13⟩], "java/lang/IndexOutOfBoundsException", rfl, fun z hz => (by cases hz), by decide, by decide, wt_962, by decide +kernel, ?_, fun _ _ _ => rfl⟩, ?_⟩
    · skip
      refine s_astore (pc := 13) (i := 4) ?_ dL_fewest_13 (by decide)
      refine s_iconst (pc := 15) (v := 1) ?_ dL_fewest_15 (by decide)
      exact s_ireturn (pc := 16) rfl dL_fewest_16
    refine List.forall_mem_cons.mpr ⟨⟨[⟨0, 10, 13, 30⟩], ⟨0, 10, 17, 13⟩, [], "java/lang/IllegalArgumentException", rfl, fun z hz => (by rw [List.mem_singleton.mp hz]; exact ⟨by decide, "java/lang/IndexOutOfBoundsException", wt_962, by decide +kernel⟩), by decide, by decide, wt_621, by decide +kernel, ?_, fun _ _ _ => rfl⟩, ?_⟩
    · skip
      refine s_astore (pc := 17) (i := 4) ?_ dL_fewest_17 (by decide)
      refine s_iconst (pc := 19) (v := 2) ?_ dL_fewest_19 (by decide)
      exact s_ireturn (pc := 20) rfl dL_fewest_20
    exact fun _ h => by cases h
def kL_fewest (g : GE) : KT := bL_fewest_0 g (fun _ _ _ _ => none)
theorem sL_fewest (g : GE) : Snd mL_fewest g 0 (kL_fewest g) := sbL_fewest_0 g _
def fL_fewest : FT := fun g av w => if (ent av).length ≤ 5 then kL_fewest g [] (entp 5 av) w else none
theorem tL_fewest : MtW yL_fewest cL_fewest 5 (some .int) [(0, 10, 13, 30), (0, 10, 17, 13)] 9 193 fL_fewest := MtW.of (K := kL_fewest) (by decide +kernel) (fun _ _ _ => rfl) sL_fewest
theorem crL_fewest : yL_fewest.cls ≠ "java/lang/invoke/MethodHandle" ∧ yL_fewest.cls ≠ "java/lang/invoke/VarHandle" ∧ (parseMethodDescriptor yL_fewest.desc).map (fun d => d.parameters.length) = some 4 := by decide +kernel
theorem dL_gains_0 : decode cL_gains 0 = .ok (.aload_n 2, 1) := by decide +kernel
theorem dL_gains_1 : decode cL_gains 1 = .ok (.iconst 0, 1) := by decide +kernel
theorem dL_gains_2 : decode cL_gains 2 = .ok (.aload_n 0, 1) := by decide +kernel
theorem dL_gains_3 : decode cL_gains 3 = .ok (.iload_n 1, 1) := by decide +kernel
theorem dL_gains_4 : decode cL_gains 4 = .ok (.invokevirtual 64, 3) := by decide +kernel
theorem dL_gains_7 : decode cL_gains 7 = .ok (.i2l, 1) := by decide +kernel
theorem dL_gains_8 : decode cL_gains 8 = .ok (.lastore, 1) := by decide +kernel
theorem dL_gains_9 : decode cL_gains 9 = .ok (.goto 6, 3) := by decide +kernel
theorem dL_gains_12 : decode cL_gains 12 = .ok (.astore_n 3, 1) := by decide +kernel
theorem dL_gains_13 : decode cL_gains 13 = .ok (.iconst 1, 1) := by decide +kernel
theorem dL_gains_14 : decode cL_gains 14 = .ok (.ireturn, 1) := by decide +kernel
theorem dL_gains_15 : decode cL_gains 15 = .ok (.iconst 0, 1) := by decide +kernel
theorem dL_gains_16 : decode cL_gains 16 = .ok (.ireturn, 1) := by decide +kernel
abbrev mL_gains : MD := (cL_gains, "BlottedDeedLaw", 4, 8, 149, (some .int), "gains", [(0, 9, 12, 22)])
def bL_gains_0 (g : GE) (J : Nat → KT) : KT := i_aload 2 (i_push (.int 0) (i_aload 0 (i_iload 1 (i_cvC fX10_gains g 1 9 [("java/util/NoSuchElementException", i_astore 3 (i_push (.int 1) (i_ireturn)))] (i_i2l (i_lastore (i_jmp [false, false, false, false] (i_push (.int 0) (i_ireturn)))))))))
theorem sbL_gains_0 (g : GE) (J : Nat → KT)  : Snd mL_gains g 0 (bL_gains_0 g J) := by
  unfold bL_gains_0
  refine s_aload_n (pc := 0) (i := 2) ?_ dL_gains_0 rfl
  refine s_iconst (pc := 1) (v := 0) ?_ dL_gains_1 (by decide)
  refine s_aload_n (pc := 2) (i := 0) ?_ dL_gains_2 rfl
  refine s_iload_n (pc := 3) (i := 1) ?_ dL_gains_3 rfl
  refine s_cvC (pc := 4) (n := 1) (ci := 9) ?_ ?_ tX10_gains rfl rfl wt_1131 wt_1132 wt_1133 wt_1 wt_1134 ⟨crX10_gains, by decide, by decide⟩ dL_gains_4
  · skip
    refine s_i2l (pc := 7) ?_ dL_gains_7
    refine s_lastore (pc := 8) ?_ dL_gains_8
    refine s_goto (pc := 9) (tgt := 15) ?_ dL_gains_9 (by decide)
    refine s_iconst (pc := 15) (v := 0) ?_ dL_gains_15 (by decide)
    exact s_ireturn (pc := 16) rfl dL_gains_16
  · skip
    refine List.forall_mem_cons.mpr ⟨⟨[], ⟨0, 9, 12, 22⟩, [], "java/util/NoSuchElementException", rfl, fun z hz => (by cases hz), by decide, by decide, wt_927, by decide +kernel, ?_, fun _ _ _ => rfl⟩, ?_⟩
    · skip
      refine s_astore_n (pc := 12) (i := 3) ?_ dL_gains_12 rfl (by decide)
      refine s_iconst (pc := 13) (v := 1) ?_ dL_gains_13 (by decide)
      exact s_ireturn (pc := 14) rfl dL_gains_14
    exact fun _ h => by cases h
def kL_gains (g : GE) : KT := bL_gains_0 g (fun _ _ _ _ => none)
theorem sL_gains (g : GE) : Snd mL_gains g 0 (kL_gains g) := sbL_gains_0 g _
def fL_gains : FT := fun g av w => if (ent av).length ≤ 4 then kL_gains g [] (entp 4 av) w else none
theorem tL_gains : MtW yL_gains cL_gains 4 (some .int) [(0, 9, 12, 22)] 8 149 fL_gains := MtW.of (K := kL_gains) (by decide +kernel) (fun _ _ _ => rfl) sL_gains
theorem crL_gains : yL_gains.cls ≠ "java/lang/invoke/MethodHandle" ∧ yL_gains.cls ≠ "java/lang/invoke/VarHandle" ∧ (parseMethodDescriptor yL_gains.desc).map (fun d => d.parameters.length) = some 3 := by decide +kernel
theorem dL_gets_0 : decode cL_gets 0 = .ok (.aload 4, 2) := by decide +kernel
theorem dL_gets_2 : decode cL_gets 2 = .ok (.iconst 0, 1) := by decide +kernel
theorem dL_gets_3 : decode cL_gets 3 = .ok (.aload_n 0, 1) := by decide +kernel
theorem dL_gets_4 : decode cL_gets 4 = .ok (.iload_n 1, 1) := by decide +kernel
theorem dL_gets_5 : decode cL_gets 5 = .ok (.iload_n 2, 1) := by decide +kernel
theorem dL_gets_6 : decode cL_gets 6 = .ok (.iload_n 3, 1) := by decide +kernel
theorem dL_gets_7 : decode cL_gets 7 = .ok (.invokevirtual 35, 3) := by decide +kernel
theorem dL_gets_10 : decode cL_gets 10 = .ok (.i2l, 1) := by decide +kernel
theorem dL_gets_11 : decode cL_gets 11 = .ok (.lastore, 1) := by decide +kernel
theorem dL_gets_12 : decode cL_gets 12 = .ok (.goto 11, 3) := by decide +kernel
theorem dL_gets_15 : decode cL_gets 15 = .ok (.astore 5, 2) := by decide +kernel
theorem dL_gets_17 : decode cL_gets 17 = .ok (.iconst 1, 1) := by decide +kernel
theorem dL_gets_18 : decode cL_gets 18 = .ok (.ireturn, 1) := by decide +kernel
theorem dL_gets_19 : decode cL_gets 19 = .ok (.astore 5, 2) := by decide +kernel
theorem dL_gets_21 : decode cL_gets 21 = .ok (.iconst 2, 1) := by decide +kernel
theorem dL_gets_22 : decode cL_gets 22 = .ok (.ireturn, 1) := by decide +kernel
theorem dL_gets_23 : decode cL_gets 23 = .ok (.iconst 0, 1) := by decide +kernel
theorem dL_gets_24 : decode cL_gets 24 = .ok (.ireturn, 1) := by decide +kernel
abbrev mL_gets : MD := (cL_gets, "BlottedDeedLaw", 6, 9, 166, (some .int), "gets", [(0, 12, 15, 30), (0, 12, 19, 13)])
def bL_gets_0 (g : GE) (J : Nat → KT) : KT := i_aload 4 (i_push (.int 0) (i_aload 0 (i_iload 1 (i_iload 2 (i_iload 3 (i_cvC fX10_gets g 3 9 [("java/lang/IndexOutOfBoundsException", i_astore 5 (i_push (.int 1) (i_ireturn))), ("java/lang/IllegalArgumentException", i_astore 5 (i_push (.int 2) (i_ireturn)))] (i_i2l (i_lastore (i_jmp [false, false, false, false, false, false] (i_push (.int 0) (i_ireturn)))))))))))
theorem sbL_gets_0 (g : GE) (J : Nat → KT)  : Snd mL_gets g 0 (bL_gets_0 g J) := by
  unfold bL_gets_0
  refine s_aload (pc := 0) (i := 4) ?_ dL_gets_0
  refine s_iconst (pc := 2) (v := 0) ?_ dL_gets_2 (by decide)
  refine s_aload_n (pc := 3) (i := 0) ?_ dL_gets_3 rfl
  refine s_iload_n (pc := 4) (i := 1) ?_ dL_gets_4 rfl
  refine s_iload_n (pc := 5) (i := 2) ?_ dL_gets_5 rfl
  refine s_iload_n (pc := 6) (i := 3) ?_ dL_gets_6 rfl
  refine s_cvC (pc := 7) (n := 3) (ci := 9) ?_ ?_ tX10_gets rfl rfl wt_1006 wt_1007 wt_1008 wt_1 wt_1009 ⟨crX10_gets, by decide, by decide⟩ dL_gets_7
  · skip
    refine s_i2l (pc := 10) ?_ dL_gets_10
    refine s_lastore (pc := 11) ?_ dL_gets_11
    refine s_goto (pc := 12) (tgt := 23) ?_ dL_gets_12 (by decide)
    refine s_iconst (pc := 23) (v := 0) ?_ dL_gets_23 (by decide)
    exact s_ireturn (pc := 24) rfl dL_gets_24
  · skip
    refine List.forall_mem_cons.mpr ⟨⟨[], ⟨0, 12, 15, 30⟩, [⟨0, 12, 19, 13⟩], "java/lang/IndexOutOfBoundsException", rfl, fun z hz => (by cases hz), by decide, by decide, wt_962, by decide +kernel, ?_, fun _ _ _ => rfl⟩, ?_⟩
    · skip
      refine s_astore (pc := 15) (i := 5) ?_ dL_gets_15 (by decide)
      refine s_iconst (pc := 17) (v := 1) ?_ dL_gets_17 (by decide)
      exact s_ireturn (pc := 18) rfl dL_gets_18
    refine List.forall_mem_cons.mpr ⟨⟨[⟨0, 12, 15, 30⟩], ⟨0, 12, 19, 13⟩, [], "java/lang/IllegalArgumentException", rfl, fun z hz => (by rw [List.mem_singleton.mp hz]; exact ⟨by decide, "java/lang/IndexOutOfBoundsException", wt_962, by decide +kernel⟩), by decide, by decide, wt_621, by decide +kernel, ?_, fun _ _ _ => rfl⟩, ?_⟩
    · skip
      refine s_astore (pc := 19) (i := 5) ?_ dL_gets_19 (by decide)
      refine s_iconst (pc := 21) (v := 2) ?_ dL_gets_21 (by decide)
      exact s_ireturn (pc := 22) rfl dL_gets_22
    exact fun _ h => by cases h
def kL_gets (g : GE) : KT := bL_gets_0 g (fun _ _ _ _ => none)
theorem sL_gets (g : GE) : Snd mL_gets g 0 (kL_gets g) := sbL_gets_0 g _
def fL_gets : FT := fun g av w => if (ent av).length ≤ 6 then kL_gets g [] (entp 6 av) w else none
theorem tL_gets : MtW yL_gets cL_gets 6 (some .int) [(0, 12, 15, 30), (0, 12, 19, 13)] 9 166 fL_gets := MtW.of (K := kL_gets) (by decide +kernel) (fun _ _ _ => rfl) sL_gets
theorem crL_gets : yL_gets.cls ≠ "java/lang/invoke/MethodHandle" ∧ yL_gets.cls ≠ "java/lang/invoke/VarHandle" ∧ (parseMethodDescriptor yL_gets.desc).map (fun d => d.parameters.length) = some 5 := by decide +kernel
theorem dL_goes_0 : decode cL_goes 0 = .ok (.aload_n 3, 1) := by decide +kernel
theorem dL_goes_1 : decode cL_goes 1 = .ok (.iconst 0, 1) := by decide +kernel
theorem dL_goes_2 : decode cL_goes 2 = .ok (.aload_n 0, 1) := by decide +kernel
theorem dL_goes_3 : decode cL_goes 3 = .ok (.iload_n 1, 1) := by decide +kernel
theorem dL_goes_4 : decode cL_goes 4 = .ok (.iload_n 2, 1) := by decide +kernel
theorem dL_goes_5 : decode cL_goes 5 = .ok (.invokevirtual 39, 3) := by decide +kernel
theorem dL_goes_8 : decode cL_goes 8 = .ok (.i2l, 1) := by decide +kernel
theorem dL_goes_9 : decode cL_goes 9 = .ok (.lastore, 1) := by decide +kernel
theorem dL_goes_10 : decode cL_goes 10 = .ok (.goto 7, 3) := by decide +kernel
theorem dL_goes_13 : decode cL_goes 13 = .ok (.astore 4, 2) := by decide +kernel
theorem dL_goes_15 : decode cL_goes 15 = .ok (.iconst 1, 1) := by decide +kernel
theorem dL_goes_16 : decode cL_goes 16 = .ok (.ireturn, 1) := by decide +kernel
theorem dL_goes_17 : decode cL_goes 17 = .ok (.iconst 0, 1) := by decide +kernel
theorem dL_goes_18 : decode cL_goes 18 = .ok (.ireturn, 1) := by decide +kernel
abbrev mL_goes : MD := (cL_goes, "BlottedDeedLaw", 5, 9, 165, (some .int), "goes", [(0, 10, 13, 30)])
def bL_goes_0 (g : GE) (J : Nat → KT) : KT := i_aload 3 (i_push (.int 0) (i_aload 0 (i_iload 1 (i_iload 2 (i_cvC fX10_goes g 2 9 [("java/lang/IndexOutOfBoundsException", i_astore 4 (i_push (.int 1) (i_ireturn)))] (i_i2l (i_lastore (i_jmp [false, false, false, false, false] (i_push (.int 0) (i_ireturn))))))))))
theorem sbL_goes_0 (g : GE) (J : Nat → KT)  : Snd mL_goes g 0 (bL_goes_0 g J) := by
  unfold bL_goes_0
  refine s_aload_n (pc := 0) (i := 3) ?_ dL_goes_0 rfl
  refine s_iconst (pc := 1) (v := 0) ?_ dL_goes_1 (by decide)
  refine s_aload_n (pc := 2) (i := 0) ?_ dL_goes_2 rfl
  refine s_iload_n (pc := 3) (i := 1) ?_ dL_goes_3 rfl
  refine s_iload_n (pc := 4) (i := 2) ?_ dL_goes_4 rfl
  refine s_cvC (pc := 5) (n := 2) (ci := 9) ?_ ?_ tX10_goes rfl rfl wt_1026 wt_1027 wt_1028 wt_1 wt_1029 ⟨crX10_goes, by decide, by decide⟩ dL_goes_5
  · skip
    refine s_i2l (pc := 8) ?_ dL_goes_8
    refine s_lastore (pc := 9) ?_ dL_goes_9
    refine s_goto (pc := 10) (tgt := 17) ?_ dL_goes_10 (by decide)
    refine s_iconst (pc := 17) (v := 0) ?_ dL_goes_17 (by decide)
    exact s_ireturn (pc := 18) rfl dL_goes_18
  · skip
    refine List.forall_mem_cons.mpr ⟨⟨[], ⟨0, 10, 13, 30⟩, [], "java/lang/IndexOutOfBoundsException", rfl, fun z hz => (by cases hz), by decide, by decide, wt_962, by decide +kernel, ?_, fun _ _ _ => rfl⟩, ?_⟩
    · skip
      refine s_astore (pc := 13) (i := 4) ?_ dL_goes_13 (by decide)
      refine s_iconst (pc := 15) (v := 1) ?_ dL_goes_15 (by decide)
      exact s_ireturn (pc := 16) rfl dL_goes_16
    exact fun _ h => by cases h
def kL_goes (g : GE) : KT := bL_goes_0 g (fun _ _ _ _ => none)
theorem sL_goes (g : GE) : Snd mL_goes g 0 (kL_goes g) := sbL_goes_0 g _
def fL_goes : FT := fun g av w => if (ent av).length ≤ 5 then kL_goes g [] (entp 5 av) w else none
theorem tL_goes : MtW yL_goes cL_goes 5 (some .int) [(0, 10, 13, 30)] 9 165 fL_goes := MtW.of (K := kL_goes) (by decide +kernel) (fun _ _ _ => rfl) sL_goes
theorem crL_goes : yL_goes.cls ≠ "java/lang/invoke/MethodHandle" ∧ yL_goes.cls ≠ "java/lang/invoke/VarHandle" ∧ (parseMethodDescriptor yL_goes.desc).map (fun d => d.parameters.length) = some 4 := by decide +kernel
theorem dL_habit_0 : decode cL_habit 0 = .ok (.aload 5, 2) := by decide +kernel
theorem dL_habit_2 : decode cL_habit 2 = .ok (.iconst 0, 1) := by decide +kernel
theorem dL_habit_3 : decode cL_habit 3 = .ok (.aload_n 0, 1) := by decide +kernel
theorem dL_habit_4 : decode cL_habit 4 = .ok (.iload_n 1, 1) := by decide +kernel
theorem dL_habit_5 : decode cL_habit 5 = .ok (.iload_n 2, 1) := by decide +kernel
theorem dL_habit_6 : decode cL_habit 6 = .ok (.iload_n 3, 1) := by decide +kernel
theorem dL_habit_7 : decode cL_habit 7 = .ok (.iload 4, 2) := by decide +kernel
theorem dL_habit_9 : decode cL_habit 9 = .ok (.invokevirtual 73, 3) := by decide +kernel
theorem dL_habit_12 : decode cL_habit 12 = .ok (.i2l, 1) := by decide +kernel
theorem dL_habit_13 : decode cL_habit 13 = .ok (.lastore, 1) := by decide +kernel
theorem dL_habit_14 : decode cL_habit 14 = .ok (.goto 7, 3) := by decide +kernel
theorem dL_habit_17 : decode cL_habit 17 = .ok (.astore 6, 2) := by decide +kernel
theorem dL_habit_19 : decode cL_habit 19 = .ok (.iconst 1, 1) := by decide +kernel
theorem dL_habit_20 : decode cL_habit 20 = .ok (.ireturn, 1) := by decide +kernel
theorem dL_habit_21 : decode cL_habit 21 = .ok (.iconst 0, 1) := by decide +kernel
theorem dL_habit_22 : decode cL_habit 22 = .ok (.ireturn, 1) := by decide +kernel
abbrev mL_habit : MD := (cL_habit, "BlottedDeedLaw", 7, 8, 145, (some .int), "habit", [(0, 14, 17, 13)])
def bL_habit_0 (g : GE) (J : Nat → KT) : KT := i_aload 5 (i_push (.int 0) (i_aload 0 (i_iload 1 (i_iload 2 (i_iload 3 (i_iload 4 (i_cvC fX10_habit g 4 9 [("java/lang/IllegalArgumentException", i_astore 6 (i_push (.int 1) (i_ireturn)))] (i_i2l (i_lastore (i_jmp [false, false, false, false, false, false, false] (i_push (.int 0) (i_ireturn))))))))))))
theorem sbL_habit_0 (g : GE) (J : Nat → KT)  : Snd mL_habit g 0 (bL_habit_0 g J) := by
  unfold bL_habit_0
  refine s_aload (pc := 0) (i := 5) ?_ dL_habit_0
  refine s_iconst (pc := 2) (v := 0) ?_ dL_habit_2 (by decide)
  refine s_aload_n (pc := 3) (i := 0) ?_ dL_habit_3 rfl
  refine s_iload_n (pc := 4) (i := 1) ?_ dL_habit_4 rfl
  refine s_iload_n (pc := 5) (i := 2) ?_ dL_habit_5 rfl
  refine s_iload_n (pc := 6) (i := 3) ?_ dL_habit_6 rfl
  refine s_iload (pc := 7) (i := 4) ?_ dL_habit_7
  refine s_cvC (pc := 9) (n := 4) (ci := 9) ?_ ?_ tX10_habit rfl rfl wt_1172 wt_1173 wt_1174 wt_1 wt_1175 ⟨crX10_habit, by decide, by decide⟩ dL_habit_9
  · skip
    refine s_i2l (pc := 12) ?_ dL_habit_12
    refine s_lastore (pc := 13) ?_ dL_habit_13
    refine s_goto (pc := 14) (tgt := 21) ?_ dL_habit_14 (by decide)
    refine s_iconst (pc := 21) (v := 0) ?_ dL_habit_21 (by decide)
    exact s_ireturn (pc := 22) rfl dL_habit_22
  · skip
    refine List.forall_mem_cons.mpr ⟨⟨[], ⟨0, 14, 17, 13⟩, [], "java/lang/IllegalArgumentException", rfl, fun z hz => (by cases hz), by decide, by decide, wt_621, by decide +kernel, ?_, fun _ _ _ => rfl⟩, ?_⟩
    · skip
      refine s_astore (pc := 17) (i := 6) ?_ dL_habit_17 (by decide)
      refine s_iconst (pc := 19) (v := 1) ?_ dL_habit_19 (by decide)
      exact s_ireturn (pc := 20) rfl dL_habit_20
    exact fun _ h => by cases h
def kL_habit (g : GE) : KT := bL_habit_0 g (fun _ _ _ _ => none)
theorem sL_habit (g : GE) : Snd mL_habit g 0 (kL_habit g) := sbL_habit_0 g _
def fL_habit : FT := fun g av w => if (ent av).length ≤ 7 then kL_habit g [] (entp 7 av) w else none
theorem tL_habit : MtW yL_habit cL_habit 7 (some .int) [(0, 14, 17, 13)] 8 145 fL_habit := MtW.of (K := kL_habit) (by decide +kernel) (fun _ _ _ => rfl) sL_habit
theorem crL_habit : yL_habit.cls ≠ "java/lang/invoke/MethodHandle" ∧ yL_habit.cls ≠ "java/lang/invoke/VarHandle" ∧ (parseMethodDescriptor yL_habit.desc).map (fun d => d.parameters.length) = some 6 := by decide +kernel
theorem dL_holding_0 : decode cL_holding 0 = .ok (.aload_n 3, 1) := by decide +kernel
theorem dL_holding_1 : decode cL_holding 1 = .ok (.iconst 0, 1) := by decide +kernel
theorem dL_holding_2 : decode cL_holding 2 = .ok (.aload_n 0, 1) := by decide +kernel
theorem dL_holding_3 : decode cL_holding 3 = .ok (.iload_n 1, 1) := by decide +kernel
theorem dL_holding_4 : decode cL_holding 4 = .ok (.iload_n 2, 1) := by decide +kernel
theorem dL_holding_5 : decode cL_holding 5 = .ok (.invokevirtual 94, 3) := by decide +kernel
theorem dL_holding_8 : decode cL_holding 8 = .ok (.i2l, 1) := by decide +kernel
theorem dL_holding_9 : decode cL_holding 9 = .ok (.lastore, 1) := by decide +kernel
theorem dL_holding_10 : decode cL_holding 10 = .ok (.goto 7, 3) := by decide +kernel
theorem dL_holding_13 : decode cL_holding 13 = .ok (.astore 4, 2) := by decide +kernel
theorem dL_holding_15 : decode cL_holding 15 = .ok (.iconst 1, 1) := by decide +kernel
theorem dL_holding_16 : decode cL_holding 16 = .ok (.ireturn, 1) := by decide +kernel
theorem dL_holding_17 : decode cL_holding 17 = .ok (.iconst 0, 1) := by decide +kernel
theorem dL_holding_18 : decode cL_holding 18 = .ok (.ireturn, 1) := by decide +kernel
abbrev mL_holding : MD := (cL_holding, "BlottedDeedLaw", 5, 8, 145, (some .int), "holding", [(0, 10, 13, 22)])
def bL_holding_0 (g : GE) (J : Nat → KT) : KT := i_aload 3 (i_push (.int 0) (i_aload 0 (i_iload 1 (i_iload 2 (i_cvC fX10_holding g 2 9 [("java/util/NoSuchElementException", i_astore 4 (i_push (.int 1) (i_ireturn)))] (i_i2l (i_lastore (i_jmp [false, false, false, false, false] (i_push (.int 0) (i_ireturn))))))))))
theorem sbL_holding_0 (g : GE) (J : Nat → KT)  : Snd mL_holding g 0 (bL_holding_0 g J) := by
  unfold bL_holding_0
  refine s_aload_n (pc := 0) (i := 3) ?_ dL_holding_0 rfl
  refine s_iconst (pc := 1) (v := 0) ?_ dL_holding_1 (by decide)
  refine s_aload_n (pc := 2) (i := 0) ?_ dL_holding_2 rfl
  refine s_iload_n (pc := 3) (i := 1) ?_ dL_holding_3 rfl
  refine s_iload_n (pc := 4) (i := 2) ?_ dL_holding_4 rfl
  refine s_cvC (pc := 5) (n := 2) (ci := 9) ?_ ?_ tX10_holding rfl rfl wt_1265 wt_1266 wt_1267 wt_1 wt_1268 ⟨crX10_holding, by decide, by decide⟩ dL_holding_5
  · skip
    refine s_i2l (pc := 8) ?_ dL_holding_8
    refine s_lastore (pc := 9) ?_ dL_holding_9
    refine s_goto (pc := 10) (tgt := 17) ?_ dL_holding_10 (by decide)
    refine s_iconst (pc := 17) (v := 0) ?_ dL_holding_17 (by decide)
    exact s_ireturn (pc := 18) rfl dL_holding_18
  · skip
    refine List.forall_mem_cons.mpr ⟨⟨[], ⟨0, 10, 13, 22⟩, [], "java/util/NoSuchElementException", rfl, fun z hz => (by cases hz), by decide, by decide, wt_927, by decide +kernel, ?_, fun _ _ _ => rfl⟩, ?_⟩
    · skip
      refine s_astore (pc := 13) (i := 4) ?_ dL_holding_13 (by decide)
      refine s_iconst (pc := 15) (v := 1) ?_ dL_holding_15 (by decide)
      exact s_ireturn (pc := 16) rfl dL_holding_16
    exact fun _ h => by cases h
def kL_holding (g : GE) : KT := bL_holding_0 g (fun _ _ _ _ => none)
theorem sL_holding (g : GE) : Snd mL_holding g 0 (kL_holding g) := sbL_holding_0 g _
def fL_holding : FT := fun g av w => if (ent av).length ≤ 5 then kL_holding g [] (entp 5 av) w else none
theorem tL_holding : MtW yL_holding cL_holding 5 (some .int) [(0, 10, 13, 22)] 8 145 fL_holding := MtW.of (K := kL_holding) (by decide +kernel) (fun _ _ _ => rfl) sL_holding
theorem crL_holding : yL_holding.cls ≠ "java/lang/invoke/MethodHandle" ∧ yL_holding.cls ≠ "java/lang/invoke/VarHandle" ∧ (parseMethodDescriptor yL_holding.desc).map (fun d => d.parameters.length) = some 4 := by decide +kernel
theorem dL_told_0 : decode cL_told 0 = .ok (.aload_n 2, 1) := by decide +kernel
theorem dL_told_1 : decode cL_told 1 = .ok (.iconst 0, 1) := by decide +kernel
theorem dL_told_2 : decode cL_told 2 = .ok (.aload_n 0, 1) := by decide +kernel
theorem dL_told_3 : decode cL_told 3 = .ok (.iload_n 1, 1) := by decide +kernel
theorem dL_told_4 : decode cL_told 4 = .ok (.invokevirtual 15, 3) := by decide +kernel
theorem dL_told_7 : decode cL_told 7 = .ok (.i2l, 1) := by decide +kernel
theorem dL_told_8 : decode cL_told 8 = .ok (.lastore, 1) := by decide +kernel
theorem dL_told_9 : decode cL_told 9 = .ok (.goto 6, 3) := by decide +kernel
theorem dL_told_12 : decode cL_told 12 = .ok (.astore_n 3, 1) := by decide +kernel
theorem dL_told_13 : decode cL_told 13 = .ok (.iconst 1, 1) := by decide +kernel
theorem dL_told_14 : decode cL_told 14 = .ok (.ireturn, 1) := by decide +kernel
theorem dL_told_15 : decode cL_told 15 = .ok (.iconst 0, 1) := by decide +kernel
theorem dL_told_16 : decode cL_told 16 = .ok (.ireturn, 1) := by decide +kernel
abbrev mL_told : MD := (cL_told, "BlottedDeedLaw", 4, 9, 164, (some .int), "told", [(0, 9, 12, 13)])
def bL_told_0 (g : GE) (J : Nat → KT) : KT := i_aload 2 (i_push (.int 0) (i_aload 0 (i_iload 1 (i_cvC fX10_told g 1 9 [("java/lang/IllegalArgumentException", i_astore 3 (i_push (.int 1) (i_ireturn)))] (i_i2l (i_lastore (i_jmp [false, false, false, false] (i_push (.int 0) (i_ireturn)))))))))
theorem sbL_told_0 (g : GE) (J : Nat → KT)  : Snd mL_told g 0 (bL_told_0 g J) := by
  unfold bL_told_0
  refine s_aload_n (pc := 0) (i := 2) ?_ dL_told_0 rfl
  refine s_iconst (pc := 1) (v := 0) ?_ dL_told_1 (by decide)
  refine s_aload_n (pc := 2) (i := 0) ?_ dL_told_2 rfl
  refine s_iload_n (pc := 3) (i := 1) ?_ dL_told_3 rfl
  refine s_cvC (pc := 4) (n := 1) (ci := 9) ?_ ?_ tX10_told rfl rfl wt_916 wt_917 wt_918 wt_1 wt_919 ⟨crX10_told, by decide, by decide⟩ dL_told_4
  · skip
    refine s_i2l (pc := 7) ?_ dL_told_7
    refine s_lastore (pc := 8) ?_ dL_told_8
    refine s_goto (pc := 9) (tgt := 15) ?_ dL_told_9 (by decide)
    refine s_iconst (pc := 15) (v := 0) ?_ dL_told_15 (by decide)
    exact s_ireturn (pc := 16) rfl dL_told_16
  · skip
    refine List.forall_mem_cons.mpr ⟨⟨[], ⟨0, 9, 12, 13⟩, [], "java/lang/IllegalArgumentException", rfl, fun z hz => (by cases hz), by decide, by decide, wt_621, by decide +kernel, ?_, fun _ _ _ => rfl⟩, ?_⟩
    · skip
      refine s_astore_n (pc := 12) (i := 3) ?_ dL_told_12 rfl (by decide)
      refine s_iconst (pc := 13) (v := 1) ?_ dL_told_13 (by decide)
      exact s_ireturn (pc := 14) rfl dL_told_14
    exact fun _ h => by cases h
def kL_told (g : GE) : KT := bL_told_0 g (fun _ _ _ _ => none)
theorem sL_told (g : GE) : Snd mL_told g 0 (kL_told g) := sbL_told_0 g _
def fL_told : FT := fun g av w => if (ent av).length ≤ 4 then kL_told g [] (entp 4 av) w else none
theorem tL_told : MtW yL_told cL_told 4 (some .int) [(0, 9, 12, 13)] 9 164 fL_told := MtW.of (K := kL_told) (by decide +kernel) (fun _ _ _ => rfl) sL_told
theorem crL_told : yL_told.cls ≠ "java/lang/invoke/MethodHandle" ∧ yL_told.cls ≠ "java/lang/invoke/VarHandle" ∧ (parseMethodDescriptor yL_told.desc).map (fun d => d.parameters.length) = some 3 := by decide +kernel
theorem dL_reading_0 : decode cL_reading 0 = .ok (.aload_n 3, 1) := by decide +kernel
theorem dL_reading_1 : decode cL_reading 1 = .ok (.iconst 0, 1) := by decide +kernel
theorem dL_reading_2 : decode cL_reading 2 = .ok (.aload_n 0, 1) := by decide +kernel
theorem dL_reading_3 : decode cL_reading 3 = .ok (.iload_n 1, 1) := by decide +kernel
theorem dL_reading_4 : decode cL_reading 4 = .ok (.iload_n 2, 1) := by decide +kernel
theorem dL_reading_5 : decode cL_reading 5 = .ok (.invokevirtual 27, 3) := by decide +kernel
theorem dL_reading_8 : decode cL_reading 8 = .ok (.i2l, 1) := by decide +kernel
theorem dL_reading_9 : decode cL_reading 9 = .ok (.lastore, 1) := by decide +kernel
theorem dL_reading_10 : decode cL_reading 10 = .ok (.goto 11, 3) := by decide +kernel
theorem dL_reading_13 : decode cL_reading 13 = .ok (.astore 4, 2) := by decide +kernel
theorem dL_reading_15 : decode cL_reading 15 = .ok (.iconst 1, 1) := by decide +kernel
theorem dL_reading_16 : decode cL_reading 16 = .ok (.ireturn, 1) := by decide +kernel
theorem dL_reading_17 : decode cL_reading 17 = .ok (.astore 4, 2) := by decide +kernel
theorem dL_reading_19 : decode cL_reading 19 = .ok (.iconst 2, 1) := by decide +kernel
theorem dL_reading_20 : decode cL_reading 20 = .ok (.ireturn, 1) := by decide +kernel
theorem dL_reading_21 : decode cL_reading 21 = .ok (.iconst 0, 1) := by decide +kernel
theorem dL_reading_22 : decode cL_reading 22 = .ok (.ireturn, 1) := by decide +kernel
abbrev mL_reading : MD := (cL_reading, "BlottedDeedLaw", 5, 9, 165, (some .int), "reading", [(0, 10, 13, 30), (0, 10, 17, 22)])
def bL_reading_0 (g : GE) (J : Nat → KT) : KT := i_aload 3 (i_push (.int 0) (i_aload 0 (i_iload 1 (i_iload 2 (i_cvC fX10_reading g 2 9 [("java/lang/IndexOutOfBoundsException", i_astore 4 (i_push (.int 1) (i_ireturn))), ("java/util/NoSuchElementException", i_astore 4 (i_push (.int 2) (i_ireturn)))] (i_i2l (i_lastore (i_jmp [false, false, false, false, false] (i_push (.int 0) (i_ireturn))))))))))
theorem sbL_reading_0 (g : GE) (J : Nat → KT)  : Snd mL_reading g 0 (bL_reading_0 g J) := by
  unfold bL_reading_0
  refine s_aload_n (pc := 0) (i := 3) ?_ dL_reading_0 rfl
  refine s_iconst (pc := 1) (v := 0) ?_ dL_reading_1 (by decide)
  refine s_aload_n (pc := 2) (i := 0) ?_ dL_reading_2 rfl
  refine s_iload_n (pc := 3) (i := 1) ?_ dL_reading_3 rfl
  refine s_iload_n (pc := 4) (i := 2) ?_ dL_reading_4 rfl
  refine s_cvC (pc := 5) (n := 2) (ci := 9) ?_ ?_ tX10_reading rfl rfl wt_963 wt_964 wt_965 wt_1 wt_966 ⟨crX10_reading, by decide, by decide⟩ dL_reading_5
  · skip
    refine s_i2l (pc := 8) ?_ dL_reading_8
    refine s_lastore (pc := 9) ?_ dL_reading_9
    refine s_goto (pc := 10) (tgt := 21) ?_ dL_reading_10 (by decide)
    refine s_iconst (pc := 21) (v := 0) ?_ dL_reading_21 (by decide)
    exact s_ireturn (pc := 22) rfl dL_reading_22
  · skip
    refine List.forall_mem_cons.mpr ⟨⟨[], ⟨0, 10, 13, 30⟩, [⟨0, 10, 17, 22⟩], "java/lang/IndexOutOfBoundsException", rfl, fun z hz => (by cases hz), by decide, by decide, wt_962, by decide +kernel, ?_, fun _ _ _ => rfl⟩, ?_⟩
    · skip
      refine s_astore (pc := 13) (i := 4) ?_ dL_reading_13 (by decide)
      refine s_iconst (pc := 15) (v := 1) ?_ dL_reading_15 (by decide)
      exact s_ireturn (pc := 16) rfl dL_reading_16
    refine List.forall_mem_cons.mpr ⟨⟨[⟨0, 10, 13, 30⟩], ⟨0, 10, 17, 22⟩, [], "java/util/NoSuchElementException", rfl, fun z hz => (by rw [List.mem_singleton.mp hz]; exact ⟨by decide, "java/lang/IndexOutOfBoundsException", wt_962, by decide +kernel⟩), by decide, by decide, wt_927, by decide +kernel, ?_, fun _ _ _ => rfl⟩, ?_⟩
    · skip
      refine s_astore (pc := 17) (i := 4) ?_ dL_reading_17 (by decide)
      refine s_iconst (pc := 19) (v := 2) ?_ dL_reading_19 (by decide)
      exact s_ireturn (pc := 20) rfl dL_reading_20
    exact fun _ h => by cases h
def kL_reading (g : GE) : KT := bL_reading_0 g (fun _ _ _ _ => none)
theorem sL_reading (g : GE) : Snd mL_reading g 0 (kL_reading g) := sbL_reading_0 g _
def fL_reading : FT := fun g av w => if (ent av).length ≤ 5 then kL_reading g [] (entp 5 av) w else none
theorem tL_reading : MtW yL_reading cL_reading 5 (some .int) [(0, 10, 13, 30), (0, 10, 17, 22)] 9 165 fL_reading := MtW.of (K := kL_reading) (by decide +kernel) (fun _ _ _ => rfl) sL_reading
theorem crL_reading : yL_reading.cls ≠ "java/lang/invoke/MethodHandle" ∧ yL_reading.cls ≠ "java/lang/invoke/VarHandle" ∧ (parseMethodDescriptor yL_reading.desc).map (fun d => d.parameters.length) = some 4 := by decide +kernel
theorem dL_often_0 : decode cL_often 0 = .ok (.aload_n 3, 1) := by decide +kernel
theorem dL_often_1 : decode cL_often 1 = .ok (.iconst 0, 1) := by decide +kernel
theorem dL_often_2 : decode cL_often 2 = .ok (.aload_n 0, 1) := by decide +kernel
theorem dL_often_3 : decode cL_often 3 = .ok (.iload_n 1, 1) := by decide +kernel
theorem dL_often_4 : decode cL_often 4 = .ok (.iload_n 2, 1) := by decide +kernel
theorem dL_often_5 : decode cL_often 5 = .ok (.invokevirtual 42, 3) := by decide +kernel
theorem dL_often_8 : decode cL_often 8 = .ok (.i2l, 1) := by decide +kernel
theorem dL_often_9 : decode cL_often 9 = .ok (.lastore, 1) := by decide +kernel
theorem dL_often_10 : decode cL_often 10 = .ok (.goto 7, 3) := by decide +kernel
theorem dL_often_13 : decode cL_often 13 = .ok (.astore 4, 2) := by decide +kernel
theorem dL_often_15 : decode cL_often 15 = .ok (.iconst 1, 1) := by decide +kernel
theorem dL_often_16 : decode cL_often 16 = .ok (.ireturn, 1) := by decide +kernel
theorem dL_often_17 : decode cL_often 17 = .ok (.iconst 0, 1) := by decide +kernel
theorem dL_often_18 : decode cL_often 18 = .ok (.ireturn, 1) := by decide +kernel
abbrev mL_often : MD := (cL_often, "BlottedDeedLaw", 5, 9, 165, (some .int), "often", [(0, 10, 13, 30)])
def bL_often_0 (g : GE) (J : Nat → KT) : KT := i_aload 3 (i_push (.int 0) (i_aload 0 (i_iload 1 (i_iload 2 (i_cvC fX10_often g 2 9 [("java/lang/IndexOutOfBoundsException", i_astore 4 (i_push (.int 1) (i_ireturn)))] (i_i2l (i_lastore (i_jmp [false, false, false, false, false] (i_push (.int 0) (i_ireturn))))))))))
theorem sbL_often_0 (g : GE) (J : Nat → KT)  : Snd mL_often g 0 (bL_often_0 g J) := by
  unfold bL_often_0
  refine s_aload_n (pc := 0) (i := 3) ?_ dL_often_0 rfl
  refine s_iconst (pc := 1) (v := 0) ?_ dL_often_1 (by decide)
  refine s_aload_n (pc := 2) (i := 0) ?_ dL_often_2 rfl
  refine s_iload_n (pc := 3) (i := 1) ?_ dL_often_3 rfl
  refine s_iload_n (pc := 4) (i := 2) ?_ dL_often_4 rfl
  refine s_cvC (pc := 5) (n := 2) (ci := 9) ?_ ?_ tX10_often rfl rfl wt_1038 wt_1039 wt_1040 wt_1 wt_1041 ⟨crX10_often, by decide, by decide⟩ dL_often_5
  · skip
    refine s_i2l (pc := 8) ?_ dL_often_8
    refine s_lastore (pc := 9) ?_ dL_often_9
    refine s_goto (pc := 10) (tgt := 17) ?_ dL_often_10 (by decide)
    refine s_iconst (pc := 17) (v := 0) ?_ dL_often_17 (by decide)
    exact s_ireturn (pc := 18) rfl dL_often_18
  · skip
    refine List.forall_mem_cons.mpr ⟨⟨[], ⟨0, 10, 13, 30⟩, [], "java/lang/IndexOutOfBoundsException", rfl, fun z hz => (by cases hz), by decide, by decide, wt_962, by decide +kernel, ?_, fun _ _ _ => rfl⟩, ?_⟩
    · skip
      refine s_astore (pc := 13) (i := 4) ?_ dL_often_13 (by decide)
      refine s_iconst (pc := 15) (v := 1) ?_ dL_often_15 (by decide)
      exact s_ireturn (pc := 16) rfl dL_often_16
    exact fun _ h => by cases h
def kL_often (g : GE) : KT := bL_often_0 g (fun _ _ _ _ => none)
theorem sL_often (g : GE) : Snd mL_often g 0 (kL_often g) := sbL_often_0 g _
def fL_often : FT := fun g av w => if (ent av).length ≤ 5 then kL_often g [] (entp 5 av) w else none
theorem tL_often : MtW yL_often cL_often 5 (some .int) [(0, 10, 13, 30)] 9 165 fL_often := MtW.of (K := kL_often) (by decide +kernel) (fun _ _ _ => rfl) sL_often
theorem crL_often : yL_often.cls ≠ "java/lang/invoke/MethodHandle" ∧ yL_often.cls ≠ "java/lang/invoke/VarHandle" ∧ (parseMethodDescriptor yL_often.desc).map (fun d => d.parameters.length) = some 4 := by decide +kernel
theorem dL_sure_0 : decode cL_sure 0 = .ok (.aload_n 3, 1) := by decide +kernel
theorem dL_sure_1 : decode cL_sure 1 = .ok (.iconst 0, 1) := by decide +kernel
theorem dL_sure_2 : decode cL_sure 2 = .ok (.aload_n 0, 1) := by decide +kernel
theorem dL_sure_3 : decode cL_sure 3 = .ok (.iload_n 1, 1) := by decide +kernel
theorem dL_sure_4 : decode cL_sure 4 = .ok (.iload_n 2, 1) := by decide +kernel
theorem dL_sure_5 : decode cL_sure 5 = .ok (.invokevirtual 45, 3) := by decide +kernel
theorem dL_sure_8 : decode cL_sure 8 = .ok (.ifCond .eq 7, 3) := by decide +kernel
theorem dL_sure_11 : decode cL_sure 11 = .ok (.lconst 1, 1) := by decide +kernel
theorem dL_sure_12 : decode cL_sure 12 = .ok (.goto 4, 3) := by decide +kernel
theorem dL_sure_15 : decode cL_sure 15 = .ok (.lconst 0, 1) := by decide +kernel
theorem dL_sure_16 : decode cL_sure 16 = .ok (.lastore, 1) := by decide +kernel
theorem dL_sure_17 : decode cL_sure 17 = .ok (.goto 7, 3) := by decide +kernel
theorem dL_sure_20 : decode cL_sure 20 = .ok (.astore 4, 2) := by decide +kernel
theorem dL_sure_22 : decode cL_sure 22 = .ok (.iconst 1, 1) := by decide +kernel
theorem dL_sure_23 : decode cL_sure 23 = .ok (.ireturn, 1) := by decide +kernel
theorem dL_sure_24 : decode cL_sure 24 = .ok (.iconst 0, 1) := by decide +kernel
theorem dL_sure_25 : decode cL_sure 25 = .ok (.ireturn, 1) := by decide +kernel
abbrev mL_sure : MD := (cL_sure, "BlottedDeedLaw", 5, 9, 165, (some .int), "sure", [(0, 17, 20, 30)])
def bL_sure_0 (g : GE) (J : Nat → KT) : KT := i_aload 3 (i_push (.int 0) (i_aload 0 (i_iload 1 (i_iload 2 (i_cvC fX10_sure g 2 9 [("java/lang/IndexOutOfBoundsException", i_astore 4 (i_push (.int 1) (i_ireturn)))] (i_ifeq (i_push (.long 0) (i_jmp [false, false, false, false, false] (J 1))) (i_push (.long 1) (i_jmp [false, false, false, false, false] (J 1)))))))))
def bL_sure_1 (g : GE) (J : Nat → KT) : KT := i_lastore (i_jmp [false, false, false, false, false] (i_push (.int 0) (i_ireturn)))
theorem sbL_sure_0 (g : GE) (J : Nat → KT) (h1 : Snd mL_sure g 16 (J 1)) : Snd mL_sure g 0 (bL_sure_0 g J) := by
  unfold bL_sure_0
  refine s_aload_n (pc := 0) (i := 3) ?_ dL_sure_0 rfl
  refine s_iconst (pc := 1) (v := 0) ?_ dL_sure_1 (by decide)
  refine s_aload_n (pc := 2) (i := 0) ?_ dL_sure_2 rfl
  refine s_iload_n (pc := 3) (i := 1) ?_ dL_sure_3 rfl
  refine s_iload_n (pc := 4) (i := 2) ?_ dL_sure_4 rfl
  refine s_cvC (pc := 5) (n := 2) (ci := 9) ?_ ?_ tX10_sure rfl rfl wt_1046 wt_1047 wt_1048 wt_1 wt_1049 ⟨crX10_sure, by decide, by decide⟩ dL_sure_5
  · skip
    refine s_ifeq (pc := 8) (tgt := 15) ?_ ?_ dL_sure_8 (by decide)
    · skip
      refine s_lconst (pc := 15) (v := 0) ?_ dL_sure_15 (by decide)
      exact s_fall (pc := 16) h1
    · skip
      refine s_lconst (pc := 11) (v := 1) ?_ dL_sure_11 (by decide)
      exact s_goto (pc := 12) (tgt := 16) h1 dL_sure_12 (by decide)
  · skip
    refine List.forall_mem_cons.mpr ⟨⟨[], ⟨0, 17, 20, 30⟩, [], "java/lang/IndexOutOfBoundsException", rfl, fun z hz => (by cases hz), by decide, by decide, wt_962, by decide +kernel, ?_, fun _ _ _ => rfl⟩, ?_⟩
    · skip
      refine s_astore (pc := 20) (i := 4) ?_ dL_sure_20 (by decide)
      refine s_iconst (pc := 22) (v := 1) ?_ dL_sure_22 (by decide)
      exact s_ireturn (pc := 23) rfl dL_sure_23
    exact fun _ h => by cases h
theorem sbL_sure_1 (g : GE) (J : Nat → KT) (h1 : Snd mL_sure g 16 (J 1)) : Snd mL_sure g 16 (bL_sure_1 g J) := by
  unfold bL_sure_1
  refine s_lastore (pc := 16) ?_ dL_sure_16
  refine s_goto (pc := 17) (tgt := 24) ?_ dL_sure_17 (by decide)
  refine s_iconst (pc := 24) (v := 0) ?_ dL_sure_24 (by decide)
  exact s_ireturn (pc := 25) rfl dL_sure_25
def jL_sure (g : GE) : Nat → Nat → KT
  | 0, _ => fun _ _ _ => none
  | n + 1, 0 => bL_sure_0 g (jL_sure g n)
  | n + 1, 1 => bL_sure_1 g (jL_sure g n)
  | _ + 1, _ + 2 => fun _ _ _ => none
theorem sjL_sure (g : GE) : ∀ n, Snd mL_sure g 0 (jL_sure g n 0) ∧ Snd mL_sure g 16 (jL_sure g n 1)
  | 0 => ⟨s_none, s_none⟩
  | n + 1 => by
    obtain ⟨-, h1⟩ := sjL_sure g n
    exact ⟨sbL_sure_0 g _ h1, sbL_sure_1 g _ h1⟩
def kL_sure (g : GE) : KT := jL_sure g g.1 0
theorem sL_sure (g : GE) : Snd mL_sure g 0 (kL_sure g) := (sjL_sure g g.1).1
def fL_sure : FT := fun g av w => if (ent av).length ≤ 5 then kL_sure g [] (entp 5 av) w else none
theorem tL_sure : MtW yL_sure cL_sure 5 (some .int) [(0, 17, 20, 30)] 9 165 fL_sure := MtW.of (K := kL_sure) (by decide +kernel) (fun _ _ _ => rfl) sL_sure
theorem crL_sure : yL_sure.cls ≠ "java/lang/invoke/MethodHandle" ∧ yL_sure.cls ≠ "java/lang/invoke/VarHandle" ∧ (parseMethodDescriptor yL_sure.desc).map (fun d => d.parameters.length) = some 4 := by decide +kernel
theorem dL_worth_0 : decode cL_worth 0 = .ok (.aload_n 3, 1) := by decide +kernel
theorem dL_worth_1 : decode cL_worth 1 = .ok (.iconst 0, 1) := by decide +kernel
theorem dL_worth_2 : decode cL_worth 2 = .ok (.aload_n 0, 1) := by decide +kernel
theorem dL_worth_3 : decode cL_worth 3 = .ok (.iload_n 1, 1) := by decide +kernel
theorem dL_worth_4 : decode cL_worth 4 = .ok (.iload_n 2, 1) := by decide +kernel
theorem dL_worth_5 : decode cL_worth 5 = .ok (.invokevirtual 52, 3) := by decide +kernel
theorem dL_worth_8 : decode cL_worth 8 = .ok (.i2l, 1) := by decide +kernel
theorem dL_worth_9 : decode cL_worth 9 = .ok (.lastore, 1) := by decide +kernel
theorem dL_worth_10 : decode cL_worth 10 = .ok (.goto 11, 3) := by decide +kernel
theorem dL_worth_13 : decode cL_worth 13 = .ok (.astore 4, 2) := by decide +kernel
theorem dL_worth_15 : decode cL_worth 15 = .ok (.iconst 1, 1) := by decide +kernel
theorem dL_worth_16 : decode cL_worth 16 = .ok (.ireturn, 1) := by decide +kernel
theorem dL_worth_17 : decode cL_worth 17 = .ok (.astore 4, 2) := by decide +kernel
theorem dL_worth_19 : decode cL_worth 19 = .ok (.iconst 2, 1) := by decide +kernel
theorem dL_worth_20 : decode cL_worth 20 = .ok (.ireturn, 1) := by decide +kernel
theorem dL_worth_21 : decode cL_worth 21 = .ok (.iconst 0, 1) := by decide +kernel
theorem dL_worth_22 : decode cL_worth 22 = .ok (.ireturn, 1) := by decide +kernel
abbrev mL_worth : MD := (cL_worth, "BlottedDeedLaw", 5, 9, 166, (some .int), "worth", [(0, 10, 13, 30), (0, 10, 17, 13)])
def bL_worth_0 (g : GE) (J : Nat → KT) : KT := i_aload 3 (i_push (.int 0) (i_aload 0 (i_iload 1 (i_iload 2 (i_cvC fX10_worth g 2 9 [("java/lang/IndexOutOfBoundsException", i_astore 4 (i_push (.int 1) (i_ireturn))), ("java/lang/IllegalArgumentException", i_astore 4 (i_push (.int 2) (i_ireturn)))] (i_i2l (i_lastore (i_jmp [false, false, false, false, false] (i_push (.int 0) (i_ireturn))))))))))
theorem sbL_worth_0 (g : GE) (J : Nat → KT)  : Snd mL_worth g 0 (bL_worth_0 g J) := by
  unfold bL_worth_0
  refine s_aload_n (pc := 0) (i := 3) ?_ dL_worth_0 rfl
  refine s_iconst (pc := 1) (v := 0) ?_ dL_worth_1 (by decide)
  refine s_aload_n (pc := 2) (i := 0) ?_ dL_worth_2 rfl
  refine s_iload_n (pc := 3) (i := 1) ?_ dL_worth_3 rfl
  refine s_iload_n (pc := 4) (i := 2) ?_ dL_worth_4 rfl
  refine s_cvC (pc := 5) (n := 2) (ci := 9) ?_ ?_ tX10_worth rfl rfl wt_1068 wt_1069 wt_1070 wt_1 wt_1071 ⟨crX10_worth, by decide, by decide⟩ dL_worth_5
  · skip
    refine s_i2l (pc := 8) ?_ dL_worth_8
    refine s_lastore (pc := 9) ?_ dL_worth_9
    refine s_goto (pc := 10) (tgt := 21) ?_ dL_worth_10 (by decide)
    refine s_iconst (pc := 21) (v := 0) ?_ dL_worth_21 (by decide)
    exact s_ireturn (pc := 22) rfl dL_worth_22
  · skip
    refine List.forall_mem_cons.mpr ⟨⟨[], ⟨0, 10, 13, 30⟩, [⟨0, 10, 17, 13⟩], "java/lang/IndexOutOfBoundsException", rfl, fun z hz => (by cases hz), by decide, by decide, wt_962, by decide +kernel, ?_, fun _ _ _ => rfl⟩, ?_⟩
    · skip
      refine s_astore (pc := 13) (i := 4) ?_ dL_worth_13 (by decide)
      refine s_iconst (pc := 15) (v := 1) ?_ dL_worth_15 (by decide)
      exact s_ireturn (pc := 16) rfl dL_worth_16
    refine List.forall_mem_cons.mpr ⟨⟨[⟨0, 10, 13, 30⟩], ⟨0, 10, 17, 13⟩, [], "java/lang/IllegalArgumentException", rfl, fun z hz => (by rw [List.mem_singleton.mp hz]; exact ⟨by decide, "java/lang/IndexOutOfBoundsException", wt_962, by decide +kernel⟩), by decide, by decide, wt_621, by decide +kernel, ?_, fun _ _ _ => rfl⟩, ?_⟩
    · skip
      refine s_astore (pc := 17) (i := 4) ?_ dL_worth_17 (by decide)
      refine s_iconst (pc := 19) (v := 2) ?_ dL_worth_19 (by decide)
      exact s_ireturn (pc := 20) rfl dL_worth_20
    exact fun _ h => by cases h
def kL_worth (g : GE) : KT := bL_worth_0 g (fun _ _ _ _ => none)
theorem sL_worth (g : GE) : Snd mL_worth g 0 (kL_worth g) := sbL_worth_0 g _
def fL_worth : FT := fun g av w => if (ent av).length ≤ 5 then kL_worth g [] (entp 5 av) w else none
theorem tL_worth : MtW yL_worth cL_worth 5 (some .int) [(0, 10, 13, 30), (0, 10, 17, 13)] 9 166 fL_worth := MtW.of (K := kL_worth) (by decide +kernel) (fun _ _ _ => rfl) sL_worth
theorem crL_worth : yL_worth.cls ≠ "java/lang/invoke/MethodHandle" ∧ yL_worth.cls ≠ "java/lang/invoke/VarHandle" ∧ (parseMethodDescriptor yL_worth.desc).map (fun d => d.parameters.length) = some 4 := by decide +kernel
theorem dL_sway_0 : decode cL_sway 0 = .ok (.aload_n 3, 1) := by decide +kernel
theorem dL_sway_1 : decode cL_sway 1 = .ok (.iconst 0, 1) := by decide +kernel
theorem dL_sway_2 : decode cL_sway 2 = .ok (.aload_n 0, 1) := by decide +kernel
theorem dL_sway_3 : decode cL_sway 3 = .ok (.iload_n 1, 1) := by decide +kernel
theorem dL_sway_4 : decode cL_sway 4 = .ok (.iload_n 2, 1) := by decide +kernel
theorem dL_sway_5 : decode cL_sway 5 = .ok (.invokevirtual 61, 3) := by decide +kernel
theorem dL_sway_8 : decode cL_sway 8 = .ok (.i2l, 1) := by decide +kernel
theorem dL_sway_9 : decode cL_sway 9 = .ok (.lastore, 1) := by decide +kernel
theorem dL_sway_10 : decode cL_sway 10 = .ok (.goto 11, 3) := by decide +kernel
theorem dL_sway_13 : decode cL_sway 13 = .ok (.astore 4, 2) := by decide +kernel
theorem dL_sway_15 : decode cL_sway 15 = .ok (.iconst 1, 1) := by decide +kernel
theorem dL_sway_16 : decode cL_sway 16 = .ok (.ireturn, 1) := by decide +kernel
theorem dL_sway_17 : decode cL_sway 17 = .ok (.astore 4, 2) := by decide +kernel
theorem dL_sway_19 : decode cL_sway 19 = .ok (.iconst 2, 1) := by decide +kernel
theorem dL_sway_20 : decode cL_sway 20 = .ok (.ireturn, 1) := by decide +kernel
theorem dL_sway_21 : decode cL_sway 21 = .ok (.iconst 0, 1) := by decide +kernel
theorem dL_sway_22 : decode cL_sway 22 = .ok (.ireturn, 1) := by decide +kernel
abbrev mL_sway : MD := (cL_sway, "BlottedDeedLaw", 5, 9, 172, (some .int), "sway", [(0, 10, 13, 30), (0, 10, 17, 22)])
def bL_sway_0 (g : GE) (J : Nat → KT) : KT := i_aload 3 (i_push (.int 0) (i_aload 0 (i_iload 1 (i_iload 2 (i_cvC fX10_sway g 2 9 [("java/lang/IndexOutOfBoundsException", i_astore 4 (i_push (.int 1) (i_ireturn))), ("java/util/NoSuchElementException", i_astore 4 (i_push (.int 2) (i_ireturn)))] (i_i2l (i_lastore (i_jmp [false, false, false, false, false] (i_push (.int 0) (i_ireturn))))))))))
theorem sbL_sway_0 (g : GE) (J : Nat → KT)  : Snd mL_sway g 0 (bL_sway_0 g J) := by
  unfold bL_sway_0
  refine s_aload_n (pc := 0) (i := 3) ?_ dL_sway_0 rfl
  refine s_iconst (pc := 1) (v := 0) ?_ dL_sway_1 (by decide)
  refine s_aload_n (pc := 2) (i := 0) ?_ dL_sway_2 rfl
  refine s_iload_n (pc := 3) (i := 1) ?_ dL_sway_3 rfl
  refine s_iload_n (pc := 4) (i := 2) ?_ dL_sway_4 rfl
  refine s_cvC (pc := 5) (n := 2) (ci := 9) ?_ ?_ tX10_sway rfl rfl wt_1120 wt_1121 wt_1122 wt_1 wt_1123 ⟨crX10_sway, by decide, by decide⟩ dL_sway_5
  · skip
    refine s_i2l (pc := 8) ?_ dL_sway_8
    refine s_lastore (pc := 9) ?_ dL_sway_9
    refine s_goto (pc := 10) (tgt := 21) ?_ dL_sway_10 (by decide)
    refine s_iconst (pc := 21) (v := 0) ?_ dL_sway_21 (by decide)
    exact s_ireturn (pc := 22) rfl dL_sway_22
  · skip
    refine List.forall_mem_cons.mpr ⟨⟨[], ⟨0, 10, 13, 30⟩, [⟨0, 10, 17, 22⟩], "java/lang/IndexOutOfBoundsException", rfl, fun z hz => (by cases hz), by decide, by decide, wt_962, by decide +kernel, ?_, fun _ _ _ => rfl⟩, ?_⟩
    · skip
      refine s_astore (pc := 13) (i := 4) ?_ dL_sway_13 (by decide)
      refine s_iconst (pc := 15) (v := 1) ?_ dL_sway_15 (by decide)
      exact s_ireturn (pc := 16) rfl dL_sway_16
    refine List.forall_mem_cons.mpr ⟨⟨[⟨0, 10, 13, 30⟩], ⟨0, 10, 17, 22⟩, [], "java/util/NoSuchElementException", rfl, fun z hz => (by rw [List.mem_singleton.mp hz]; exact ⟨by decide, "java/lang/IndexOutOfBoundsException", wt_962, by decide +kernel⟩), by decide, by decide, wt_927, by decide +kernel, ?_, fun _ _ _ => rfl⟩, ?_⟩
    · skip
      refine s_astore (pc := 17) (i := 4) ?_ dL_sway_17 (by decide)
      refine s_iconst (pc := 19) (v := 2) ?_ dL_sway_19 (by decide)
      exact s_ireturn (pc := 20) rfl dL_sway_20
    exact fun _ h => by cases h
def kL_sway (g : GE) : KT := bL_sway_0 g (fun _ _ _ _ => none)
theorem sL_sway (g : GE) : Snd mL_sway g 0 (kL_sway g) := sbL_sway_0 g _
def fL_sway : FT := fun g av w => if (ent av).length ≤ 5 then kL_sway g [] (entp 5 av) w else none
theorem tL_sway : MtW yL_sway cL_sway 5 (some .int) [(0, 10, 13, 30), (0, 10, 17, 22)] 9 172 fL_sway := MtW.of (K := kL_sway) (by decide +kernel) (fun _ _ _ => rfl) sL_sway
theorem crL_sway : yL_sway.cls ≠ "java/lang/invoke/MethodHandle" ∧ yL_sway.cls ≠ "java/lang/invoke/VarHandle" ∧ (parseMethodDescriptor yL_sway.desc).map (fun d => d.parameters.length) = some 4 := by decide +kernel
theorem dL_settlement_0 : decode cL_settlement 0 = .ok (.aload_n 2, 1) := by decide +kernel
theorem dL_settlement_1 : decode cL_settlement 1 = .ok (.iconst 0, 1) := by decide +kernel
theorem dL_settlement_2 : decode cL_settlement 2 = .ok (.aload_n 0, 1) := by decide +kernel
theorem dL_settlement_3 : decode cL_settlement 3 = .ok (.iload_n 1, 1) := by decide +kernel
theorem dL_settlement_4 : decode cL_settlement 4 = .ok (.invokevirtual 67, 3) := by decide +kernel
theorem dL_settlement_7 : decode cL_settlement 7 = .ok (.i2l, 1) := by decide +kernel
theorem dL_settlement_8 : decode cL_settlement 8 = .ok (.lastore, 1) := by decide +kernel
theorem dL_settlement_9 : decode cL_settlement 9 = .ok (.goto 6, 3) := by decide +kernel
theorem dL_settlement_12 : decode cL_settlement 12 = .ok (.astore_n 3, 1) := by decide +kernel
theorem dL_settlement_13 : decode cL_settlement 13 = .ok (.iconst 1, 1) := by decide +kernel
theorem dL_settlement_14 : decode cL_settlement 14 = .ok (.ireturn, 1) := by decide +kernel
theorem dL_settlement_15 : decode cL_settlement 15 = .ok (.iconst 0, 1) := by decide +kernel
theorem dL_settlement_16 : decode cL_settlement 16 = .ok (.ireturn, 1) := by decide +kernel
abbrev mL_settlement : MD := (cL_settlement, "BlottedDeedLaw", 4, 9, 166, (some .int), "settlement", [(0, 9, 12, 30)])
def bL_settlement_0 (g : GE) (J : Nat → KT) : KT := i_aload 2 (i_push (.int 0) (i_aload 0 (i_iload 1 (i_cvC fX10_settlement g 1 9 [("java/lang/IndexOutOfBoundsException", i_astore 3 (i_push (.int 1) (i_ireturn)))] (i_i2l (i_lastore (i_jmp [false, false, false, false] (i_push (.int 0) (i_ireturn)))))))))
theorem sbL_settlement_0 (g : GE) (J : Nat → KT)  : Snd mL_settlement g 0 (bL_settlement_0 g J) := by
  unfold bL_settlement_0
  refine s_aload_n (pc := 0) (i := 2) ?_ dL_settlement_0 rfl
  refine s_iconst (pc := 1) (v := 0) ?_ dL_settlement_1 (by decide)
  refine s_aload_n (pc := 2) (i := 0) ?_ dL_settlement_2 rfl
  refine s_iload_n (pc := 3) (i := 1) ?_ dL_settlement_3 rfl
  refine s_cvC (pc := 4) (n := 1) (ci := 9) ?_ ?_ tX10_settlement rfl rfl wt_1143 wt_1144 wt_1145 wt_1 wt_1146 ⟨crX10_settlement, by decide, by decide⟩ dL_settlement_4
  · skip
    refine s_i2l (pc := 7) ?_ dL_settlement_7
    refine s_lastore (pc := 8) ?_ dL_settlement_8
    refine s_goto (pc := 9) (tgt := 15) ?_ dL_settlement_9 (by decide)
    refine s_iconst (pc := 15) (v := 0) ?_ dL_settlement_15 (by decide)
    exact s_ireturn (pc := 16) rfl dL_settlement_16
  · skip
    refine List.forall_mem_cons.mpr ⟨⟨[], ⟨0, 9, 12, 30⟩, [], "java/lang/IndexOutOfBoundsException", rfl, fun z hz => (by cases hz), by decide, by decide, wt_962, by decide +kernel, ?_, fun _ _ _ => rfl⟩, ?_⟩
    · skip
      refine s_astore_n (pc := 12) (i := 3) ?_ dL_settlement_12 rfl (by decide)
      refine s_iconst (pc := 13) (v := 1) ?_ dL_settlement_13 (by decide)
      exact s_ireturn (pc := 14) rfl dL_settlement_14
    exact fun _ h => by cases h
def kL_settlement (g : GE) : KT := bL_settlement_0 g (fun _ _ _ _ => none)
theorem sL_settlement (g : GE) : Snd mL_settlement g 0 (kL_settlement g) := sbL_settlement_0 g _
def fL_settlement : FT := fun g av w => if (ent av).length ≤ 4 then kL_settlement g [] (entp 4 av) w else none
theorem tL_settlement : MtW yL_settlement cL_settlement 4 (some .int) [(0, 9, 12, 30)] 9 166 fL_settlement := MtW.of (K := kL_settlement) (by decide +kernel) (fun _ _ _ => rfl) sL_settlement
theorem crL_settlement : yL_settlement.cls ≠ "java/lang/invoke/MethodHandle" ∧ yL_settlement.cls ≠ "java/lang/invoke/VarHandle" ∧ (parseMethodDescriptor yL_settlement.desc).map (fun d => d.parameters.length) = some 3 := by decide +kernel
theorem dL_odds_0 : decode cL_odds 0 = .ok (.aload_n 2, 1) := by decide +kernel
theorem dL_odds_1 : decode cL_odds 1 = .ok (.iconst 0, 1) := by decide +kernel
theorem dL_odds_2 : decode cL_odds 2 = .ok (.aload_n 0, 1) := by decide +kernel
theorem dL_odds_3 : decode cL_odds 3 = .ok (.iload_n 1, 1) := by decide +kernel
theorem dL_odds_4 : decode cL_odds 4 = .ok (.invokevirtual 77, 3) := by decide +kernel
theorem dL_odds_7 : decode cL_odds 7 = .ok (.lastore, 1) := by decide +kernel
theorem dL_odds_8 : decode cL_odds 8 = .ok (.goto 6, 3) := by decide +kernel
theorem dL_odds_11 : decode cL_odds 11 = .ok (.astore_n 3, 1) := by decide +kernel
theorem dL_odds_12 : decode cL_odds 12 = .ok (.iconst 1, 1) := by decide +kernel
theorem dL_odds_13 : decode cL_odds 13 = .ok (.ireturn, 1) := by decide +kernel
theorem dL_odds_14 : decode cL_odds 14 = .ok (.iconst 0, 1) := by decide +kernel
theorem dL_odds_15 : decode cL_odds 15 = .ok (.ireturn, 1) := by decide +kernel
abbrev mL_odds : MD := (cL_odds, "BlottedDeedLaw", 4, 9, 164, (some .int), "odds", [(0, 8, 11, 30)])
def bL_odds_0 (g : GE) (J : Nat → KT) : KT := i_aload 2 (i_push (.int 0) (i_aload 0 (i_iload 1 (i_cvC fX10_odds g 1 9 [("java/lang/IndexOutOfBoundsException", i_astore 3 (i_push (.int 1) (i_ireturn)))] (i_lastore (i_jmp [false, false, false, false] (i_push (.int 0) (i_ireturn))))))))
theorem sbL_odds_0 (g : GE) (J : Nat → KT)  : Snd mL_odds g 0 (bL_odds_0 g J) := by
  unfold bL_odds_0
  refine s_aload_n (pc := 0) (i := 2) ?_ dL_odds_0 rfl
  refine s_iconst (pc := 1) (v := 0) ?_ dL_odds_1 (by decide)
  refine s_aload_n (pc := 2) (i := 0) ?_ dL_odds_2 rfl
  refine s_iload_n (pc := 3) (i := 1) ?_ dL_odds_3 rfl
  refine s_cvC (pc := 4) (n := 1) (ci := 9) ?_ ?_ tX10_odds rfl rfl wt_1186 wt_1187 wt_1188 wt_1 wt_1189 ⟨crX10_odds, by decide, by decide⟩ dL_odds_4
  · skip
    refine s_lastore (pc := 7) ?_ dL_odds_7
    refine s_goto (pc := 8) (tgt := 14) ?_ dL_odds_8 (by decide)
    refine s_iconst (pc := 14) (v := 0) ?_ dL_odds_14 (by decide)
    exact s_ireturn (pc := 15) rfl dL_odds_15
  · skip
    refine List.forall_mem_cons.mpr ⟨⟨[], ⟨0, 8, 11, 30⟩, [], "java/lang/IndexOutOfBoundsException", rfl, fun z hz => (by cases hz), by decide, by decide, wt_962, by decide +kernel, ?_, fun _ _ _ => rfl⟩, ?_⟩
    · skip
      refine s_astore_n (pc := 11) (i := 3) ?_ dL_odds_11 rfl (by decide)
      refine s_iconst (pc := 12) (v := 1) ?_ dL_odds_12 (by decide)
      exact s_ireturn (pc := 13) rfl dL_odds_13
    exact fun _ h => by cases h
def kL_odds (g : GE) : KT := bL_odds_0 g (fun _ _ _ _ => none)
theorem sL_odds (g : GE) : Snd mL_odds g 0 (kL_odds g) := sbL_odds_0 g _
def fL_odds : FT := fun g av w => if (ent av).length ≤ 4 then kL_odds g [] (entp 4 av) w else none
theorem tL_odds : MtW yL_odds cL_odds 4 (some .int) [(0, 8, 11, 30)] 9 164 fL_odds := MtW.of (K := kL_odds) (by decide +kernel) (fun _ _ _ => rfl) sL_odds
theorem crL_odds : yL_odds.cls ≠ "java/lang/invoke/MethodHandle" ∧ yL_odds.cls ≠ "java/lang/invoke/VarHandle" ∧ (parseMethodDescriptor yL_odds.desc).map (fun d => d.parameters.length) = some 3 := by decide +kernel
theorem dL_likely_0 : decode cL_likely 0 = .ok (.aload 4, 2) := by decide +kernel
theorem dL_likely_2 : decode cL_likely 2 = .ok (.iconst 0, 1) := by decide +kernel
theorem dL_likely_3 : decode cL_likely 3 = .ok (.aload_n 0, 1) := by decide +kernel
theorem dL_likely_4 : decode cL_likely 4 = .ok (.iload_n 1, 1) := by decide +kernel
theorem dL_likely_5 : decode cL_likely 5 = .ok (.iload_n 2, 1) := by decide +kernel
theorem dL_likely_6 : decode cL_likely 6 = .ok (.iload_n 3, 1) := by decide +kernel
theorem dL_likely_7 : decode cL_likely 7 = .ok (.invokevirtual 81, 3) := by decide +kernel
theorem dL_likely_10 : decode cL_likely 10 = .ok (.lastore, 1) := by decide +kernel
theorem dL_likely_11 : decode cL_likely 11 = .ok (.goto 11, 3) := by decide +kernel
theorem dL_likely_14 : decode cL_likely 14 = .ok (.astore 5, 2) := by decide +kernel
theorem dL_likely_16 : decode cL_likely 16 = .ok (.iconst 1, 1) := by decide +kernel
theorem dL_likely_17 : decode cL_likely 17 = .ok (.ireturn, 1) := by decide +kernel
theorem dL_likely_18 : decode cL_likely 18 = .ok (.astore 5, 2) := by decide +kernel
theorem dL_likely_20 : decode cL_likely 20 = .ok (.iconst 2, 1) := by decide +kernel
theorem dL_likely_21 : decode cL_likely 21 = .ok (.ireturn, 1) := by decide +kernel
theorem dL_likely_22 : decode cL_likely 22 = .ok (.iconst 0, 1) := by decide +kernel
theorem dL_likely_23 : decode cL_likely 23 = .ok (.ireturn, 1) := by decide +kernel
abbrev mL_likely : MD := (cL_likely, "BlottedDeedLaw", 6, 9, 173, (some .int), "likely", [(0, 11, 14, 30), (0, 11, 18, 13)])
def bL_likely_0 (g : GE) (J : Nat → KT) : KT := i_aload 4 (i_push (.int 0) (i_aload 0 (i_iload 1 (i_iload 2 (i_iload 3 (i_cvC fX10_likely g 3 9 [("java/lang/IndexOutOfBoundsException", i_astore 5 (i_push (.int 1) (i_ireturn))), ("java/lang/IllegalArgumentException", i_astore 5 (i_push (.int 2) (i_ireturn)))] (i_lastore (i_jmp [false, false, false, false, false, false] (i_push (.int 0) (i_ireturn))))))))))
theorem sbL_likely_0 (g : GE) (J : Nat → KT)  : Snd mL_likely g 0 (bL_likely_0 g J) := by
  unfold bL_likely_0
  refine s_aload (pc := 0) (i := 4) ?_ dL_likely_0
  refine s_iconst (pc := 2) (v := 0) ?_ dL_likely_2 (by decide)
  refine s_aload_n (pc := 3) (i := 0) ?_ dL_likely_3 rfl
  refine s_iload_n (pc := 4) (i := 1) ?_ dL_likely_4 rfl
  refine s_iload_n (pc := 5) (i := 2) ?_ dL_likely_5 rfl
  refine s_iload_n (pc := 6) (i := 3) ?_ dL_likely_6 rfl
  refine s_cvC (pc := 7) (n := 3) (ci := 9) ?_ ?_ tX10_likely rfl rfl wt_1193 wt_1194 wt_1195 wt_1 wt_1196 ⟨crX10_likely, by decide, by decide⟩ dL_likely_7
  · skip
    refine s_lastore (pc := 10) ?_ dL_likely_10
    refine s_goto (pc := 11) (tgt := 22) ?_ dL_likely_11 (by decide)
    refine s_iconst (pc := 22) (v := 0) ?_ dL_likely_22 (by decide)
    exact s_ireturn (pc := 23) rfl dL_likely_23
  · skip
    refine List.forall_mem_cons.mpr ⟨⟨[], ⟨0, 11, 14, 30⟩, [⟨0, 11, 18, 13⟩], "java/lang/IndexOutOfBoundsException", rfl, fun z hz => (by cases hz), by decide, by decide, wt_962, by decide +kernel, ?_, fun _ _ _ => rfl⟩, ?_⟩
    · skip
      refine s_astore (pc := 14) (i := 5) ?_ dL_likely_14 (by decide)
      refine s_iconst (pc := 16) (v := 1) ?_ dL_likely_16 (by decide)
      exact s_ireturn (pc := 17) rfl dL_likely_17
    refine List.forall_mem_cons.mpr ⟨⟨[⟨0, 11, 14, 30⟩], ⟨0, 11, 18, 13⟩, [], "java/lang/IllegalArgumentException", rfl, fun z hz => (by rw [List.mem_singleton.mp hz]; exact ⟨by decide, "java/lang/IndexOutOfBoundsException", wt_962, by decide +kernel⟩), by decide, by decide, wt_621, by decide +kernel, ?_, fun _ _ _ => rfl⟩, ?_⟩
    · skip
      refine s_astore (pc := 18) (i := 5) ?_ dL_likely_18 (by decide)
      refine s_iconst (pc := 20) (v := 2) ?_ dL_likely_20 (by decide)
      exact s_ireturn (pc := 21) rfl dL_likely_21
    exact fun _ h => by cases h
def kL_likely (g : GE) : KT := bL_likely_0 g (fun _ _ _ _ => none)
theorem sL_likely (g : GE) : Snd mL_likely g 0 (kL_likely g) := sbL_likely_0 g _
def fL_likely : FT := fun g av w => if (ent av).length ≤ 6 then kL_likely g [] (entp 6 av) w else none
theorem tL_likely : MtW yL_likely cL_likely 6 (some .int) [(0, 11, 14, 30), (0, 11, 18, 13)] 9 173 fL_likely := MtW.of (K := kL_likely) (by decide +kernel) (fun _ _ _ => rfl) sL_likely
theorem crL_likely : yL_likely.cls ≠ "java/lang/invoke/MethodHandle" ∧ yL_likely.cls ≠ "java/lang/invoke/VarHandle" ∧ (parseMethodDescriptor yL_likely.desc).map (fun d => d.parameters.length) = some 5 := by decide +kernel
theorem dL_slips_0 : decode cL_slips 0 = .ok (.aload_n 2, 1) := by decide +kernel
theorem dL_slips_1 : decode cL_slips 1 = .ok (.iconst 0, 1) := by decide +kernel
theorem dL_slips_2 : decode cL_slips 2 = .ok (.aload_n 0, 1) := by decide +kernel
theorem dL_slips_3 : decode cL_slips 3 = .ok (.iload_n 1, 1) := by decide +kernel
theorem dL_slips_4 : decode cL_slips 4 = .ok (.invokevirtual 85, 3) := by decide +kernel
theorem dL_slips_7 : decode cL_slips 7 = .ok (.i2l, 1) := by decide +kernel
theorem dL_slips_8 : decode cL_slips 8 = .ok (.lastore, 1) := by decide +kernel
theorem dL_slips_9 : decode cL_slips 9 = .ok (.goto 6, 3) := by decide +kernel
theorem dL_slips_12 : decode cL_slips 12 = .ok (.astore_n 3, 1) := by decide +kernel
theorem dL_slips_13 : decode cL_slips 13 = .ok (.iconst 1, 1) := by decide +kernel
theorem dL_slips_14 : decode cL_slips 14 = .ok (.ireturn, 1) := by decide +kernel
theorem dL_slips_15 : decode cL_slips 15 = .ok (.iconst 0, 1) := by decide +kernel
theorem dL_slips_16 : decode cL_slips 16 = .ok (.ireturn, 1) := by decide +kernel
abbrev mL_slips : MD := (cL_slips, "BlottedDeedLaw", 4, 9, 168, (some .int), "slips", [(0, 9, 12, 13)])
def bL_slips_0 (g : GE) (J : Nat → KT) : KT := i_aload 2 (i_push (.int 0) (i_aload 0 (i_iload 1 (i_cvC fX10_slips g 1 9 [("java/lang/IllegalArgumentException", i_astore 3 (i_push (.int 1) (i_ireturn)))] (i_i2l (i_lastore (i_jmp [false, false, false, false] (i_push (.int 0) (i_ireturn)))))))))
theorem sbL_slips_0 (g : GE) (J : Nat → KT)  : Snd mL_slips g 0 (bL_slips_0 g J) := by
  unfold bL_slips_0
  refine s_aload_n (pc := 0) (i := 2) ?_ dL_slips_0 rfl
  refine s_iconst (pc := 1) (v := 0) ?_ dL_slips_1 (by decide)
  refine s_aload_n (pc := 2) (i := 0) ?_ dL_slips_2 rfl
  refine s_iload_n (pc := 3) (i := 1) ?_ dL_slips_3 rfl
  refine s_cvC (pc := 4) (n := 1) (ci := 9) ?_ ?_ tX10_slips rfl rfl wt_1203 wt_1204 wt_1205 wt_1 wt_1206 ⟨crX10_slips, by decide, by decide⟩ dL_slips_4
  · skip
    refine s_i2l (pc := 7) ?_ dL_slips_7
    refine s_lastore (pc := 8) ?_ dL_slips_8
    refine s_goto (pc := 9) (tgt := 15) ?_ dL_slips_9 (by decide)
    refine s_iconst (pc := 15) (v := 0) ?_ dL_slips_15 (by decide)
    exact s_ireturn (pc := 16) rfl dL_slips_16
  · skip
    refine List.forall_mem_cons.mpr ⟨⟨[], ⟨0, 9, 12, 13⟩, [], "java/lang/IllegalArgumentException", rfl, fun z hz => (by cases hz), by decide, by decide, wt_621, by decide +kernel, ?_, fun _ _ _ => rfl⟩, ?_⟩
    · skip
      refine s_astore_n (pc := 12) (i := 3) ?_ dL_slips_12 rfl (by decide)
      refine s_iconst (pc := 13) (v := 1) ?_ dL_slips_13 (by decide)
      exact s_ireturn (pc := 14) rfl dL_slips_14
    exact fun _ h => by cases h
def kL_slips (g : GE) : KT := bL_slips_0 g (fun _ _ _ _ => none)
theorem sL_slips (g : GE) : Snd mL_slips g 0 (kL_slips g) := sbL_slips_0 g _
def fL_slips : FT := fun g av w => if (ent av).length ≤ 4 then kL_slips g [] (entp 4 av) w else none
theorem tL_slips : MtW yL_slips cL_slips 4 (some .int) [(0, 9, 12, 13)] 9 168 fL_slips := MtW.of (K := kL_slips) (by decide +kernel) (fun _ _ _ => rfl) sL_slips
theorem crL_slips : yL_slips.cls ≠ "java/lang/invoke/MethodHandle" ∧ yL_slips.cls ≠ "java/lang/invoke/VarHandle" ∧ (parseMethodDescriptor yL_slips.desc).map (fun d => d.parameters.length) = some 3 := by decide +kernel
theorem dL_more_0 : decode cL_more 0 = .ok (.aload_n 3, 1) := by decide +kernel
theorem dL_more_1 : decode cL_more 1 = .ok (.iconst 0, 1) := by decide +kernel
theorem dL_more_2 : decode cL_more 2 = .ok (.aload_n 0, 1) := by decide +kernel
theorem dL_more_3 : decode cL_more 3 = .ok (.iload_n 1, 1) := by decide +kernel
theorem dL_more_4 : decode cL_more 4 = .ok (.iload_n 2, 1) := by decide +kernel
theorem dL_more_5 : decode cL_more 5 = .ok (.invokevirtual 88, 3) := by decide +kernel
theorem dL_more_8 : decode cL_more 8 = .ok (.i2l, 1) := by decide +kernel
theorem dL_more_9 : decode cL_more 9 = .ok (.lastore, 1) := by decide +kernel
theorem dL_more_10 : decode cL_more 10 = .ok (.goto 11, 3) := by decide +kernel
theorem dL_more_13 : decode cL_more 13 = .ok (.astore 4, 2) := by decide +kernel
theorem dL_more_15 : decode cL_more 15 = .ok (.iconst 1, 1) := by decide +kernel
theorem dL_more_16 : decode cL_more 16 = .ok (.ireturn, 1) := by decide +kernel
theorem dL_more_17 : decode cL_more 17 = .ok (.astore 4, 2) := by decide +kernel
theorem dL_more_19 : decode cL_more 19 = .ok (.iconst 2, 1) := by decide +kernel
theorem dL_more_20 : decode cL_more 20 = .ok (.ireturn, 1) := by decide +kernel
theorem dL_more_21 : decode cL_more 21 = .ok (.iconst 0, 1) := by decide +kernel
theorem dL_more_22 : decode cL_more 22 = .ok (.ireturn, 1) := by decide +kernel
abbrev mL_more : MD := (cL_more, "BlottedDeedLaw", 5, 9, 165, (some .int), "more", [(0, 10, 13, 30), (0, 10, 17, 13)])
def bL_more_0 (g : GE) (J : Nat → KT) : KT := i_aload 3 (i_push (.int 0) (i_aload 0 (i_iload 1 (i_iload 2 (i_cvC fX10_more g 2 9 [("java/lang/IndexOutOfBoundsException", i_astore 4 (i_push (.int 1) (i_ireturn))), ("java/lang/IllegalArgumentException", i_astore 4 (i_push (.int 2) (i_ireturn)))] (i_i2l (i_lastore (i_jmp [false, false, false, false, false] (i_push (.int 0) (i_ireturn))))))))))
theorem sbL_more_0 (g : GE) (J : Nat → KT)  : Snd mL_more g 0 (bL_more_0 g J) := by
  unfold bL_more_0
  refine s_aload_n (pc := 0) (i := 3) ?_ dL_more_0 rfl
  refine s_iconst (pc := 1) (v := 0) ?_ dL_more_1 (by decide)
  refine s_aload_n (pc := 2) (i := 0) ?_ dL_more_2 rfl
  refine s_iload_n (pc := 3) (i := 1) ?_ dL_more_3 rfl
  refine s_iload_n (pc := 4) (i := 2) ?_ dL_more_4 rfl
  refine s_cvC (pc := 5) (n := 2) (ci := 9) ?_ ?_ tX10_more rfl rfl wt_1214 wt_1215 wt_1216 wt_1 wt_1217 ⟨crX10_more, by decide, by decide⟩ dL_more_5
  · skip
    refine s_i2l (pc := 8) ?_ dL_more_8
    refine s_lastore (pc := 9) ?_ dL_more_9
    refine s_goto (pc := 10) (tgt := 21) ?_ dL_more_10 (by decide)
    refine s_iconst (pc := 21) (v := 0) ?_ dL_more_21 (by decide)
    exact s_ireturn (pc := 22) rfl dL_more_22
  · skip
    refine List.forall_mem_cons.mpr ⟨⟨[], ⟨0, 10, 13, 30⟩, [⟨0, 10, 17, 13⟩], "java/lang/IndexOutOfBoundsException", rfl, fun z hz => (by cases hz), by decide, by decide, wt_962, by decide +kernel, ?_, fun _ _ _ => rfl⟩, ?_⟩
    · skip
      refine s_astore (pc := 13) (i := 4) ?_ dL_more_13 (by decide)
      refine s_iconst (pc := 15) (v := 1) ?_ dL_more_15 (by decide)
      exact s_ireturn (pc := 16) rfl dL_more_16
    refine List.forall_mem_cons.mpr ⟨⟨[⟨0, 10, 13, 30⟩], ⟨0, 10, 17, 13⟩, [], "java/lang/IllegalArgumentException", rfl, fun z hz => (by rw [List.mem_singleton.mp hz]; exact ⟨by decide, "java/lang/IndexOutOfBoundsException", wt_962, by decide +kernel⟩), by decide, by decide, wt_621, by decide +kernel, ?_, fun _ _ _ => rfl⟩, ?_⟩
    · skip
      refine s_astore (pc := 17) (i := 4) ?_ dL_more_17 (by decide)
      refine s_iconst (pc := 19) (v := 2) ?_ dL_more_19 (by decide)
      exact s_ireturn (pc := 20) rfl dL_more_20
    exact fun _ h => by cases h
def kL_more (g : GE) : KT := bL_more_0 g (fun _ _ _ _ => none)
theorem sL_more (g : GE) : Snd mL_more g 0 (kL_more g) := sbL_more_0 g _
def fL_more : FT := fun g av w => if (ent av).length ≤ 5 then kL_more g [] (entp 5 av) w else none
theorem tL_more : MtW yL_more cL_more 5 (some .int) [(0, 10, 13, 30), (0, 10, 17, 13)] 9 165 fL_more := MtW.of (K := kL_more) (by decide +kernel) (fun _ _ _ => rfl) sL_more
theorem crL_more : yL_more.cls ≠ "java/lang/invoke/MethodHandle" ∧ yL_more.cls ≠ "java/lang/invoke/VarHandle" ∧ (parseMethodDescriptor yL_more.desc).map (fun d => d.parameters.length) = some 4 := by decide +kernel
theorem dL_weak_0 : decode cL_weak 0 = .ok (.aload_n 2, 1) := by decide +kernel
theorem dL_weak_1 : decode cL_weak 1 = .ok (.iconst 0, 1) := by decide +kernel
theorem dL_weak_2 : decode cL_weak 2 = .ok (.aload_n 0, 1) := by decide +kernel
theorem dL_weak_3 : decode cL_weak 3 = .ok (.iload_n 1, 1) := by decide +kernel
theorem dL_weak_4 : decode cL_weak 4 = .ok (.invokevirtual 91, 3) := by decide +kernel
theorem dL_weak_7 : decode cL_weak 7 = .ok (.i2l, 1) := by decide +kernel
theorem dL_weak_8 : decode cL_weak 8 = .ok (.lastore, 1) := by decide +kernel
theorem dL_weak_9 : decode cL_weak 9 = .ok (.goto 6, 3) := by decide +kernel
theorem dL_weak_12 : decode cL_weak 12 = .ok (.astore_n 3, 1) := by decide +kernel
theorem dL_weak_13 : decode cL_weak 13 = .ok (.iconst 1, 1) := by decide +kernel
theorem dL_weak_14 : decode cL_weak 14 = .ok (.ireturn, 1) := by decide +kernel
theorem dL_weak_15 : decode cL_weak 15 = .ok (.iconst 0, 1) := by decide +kernel
theorem dL_weak_16 : decode cL_weak 16 = .ok (.ireturn, 1) := by decide +kernel
abbrev mL_weak : MD := (cL_weak, "BlottedDeedLaw", 4, 9, 166, (some .int), "weak", [(0, 9, 12, 30)])
def bL_weak_0 (g : GE) (J : Nat → KT) : KT := i_aload 2 (i_push (.int 0) (i_aload 0 (i_iload 1 (i_cvC fX10_weak g 1 9 [("java/lang/IndexOutOfBoundsException", i_astore 3 (i_push (.int 1) (i_ireturn)))] (i_i2l (i_lastore (i_jmp [false, false, false, false] (i_push (.int 0) (i_ireturn)))))))))
theorem sbL_weak_0 (g : GE) (J : Nat → KT)  : Snd mL_weak g 0 (bL_weak_0 g J) := by
  unfold bL_weak_0
  refine s_aload_n (pc := 0) (i := 2) ?_ dL_weak_0 rfl
  refine s_iconst (pc := 1) (v := 0) ?_ dL_weak_1 (by decide)
  refine s_aload_n (pc := 2) (i := 0) ?_ dL_weak_2 rfl
  refine s_iload_n (pc := 3) (i := 1) ?_ dL_weak_3 rfl
  refine s_cvC (pc := 4) (n := 1) (ci := 9) ?_ ?_ tX10_weak rfl rfl wt_1254 wt_1255 wt_1256 wt_1 wt_1257 ⟨crX10_weak, by decide, by decide⟩ dL_weak_4
  · skip
    refine s_i2l (pc := 7) ?_ dL_weak_7
    refine s_lastore (pc := 8) ?_ dL_weak_8
    refine s_goto (pc := 9) (tgt := 15) ?_ dL_weak_9 (by decide)
    refine s_iconst (pc := 15) (v := 0) ?_ dL_weak_15 (by decide)
    exact s_ireturn (pc := 16) rfl dL_weak_16
  · skip
    refine List.forall_mem_cons.mpr ⟨⟨[], ⟨0, 9, 12, 30⟩, [], "java/lang/IndexOutOfBoundsException", rfl, fun z hz => (by cases hz), by decide, by decide, wt_962, by decide +kernel, ?_, fun _ _ _ => rfl⟩, ?_⟩
    · skip
      refine s_astore_n (pc := 12) (i := 3) ?_ dL_weak_12 rfl (by decide)
      refine s_iconst (pc := 13) (v := 1) ?_ dL_weak_13 (by decide)
      exact s_ireturn (pc := 14) rfl dL_weak_14
    exact fun _ h => by cases h
def kL_weak (g : GE) : KT := bL_weak_0 g (fun _ _ _ _ => none)
theorem sL_weak (g : GE) : Snd mL_weak g 0 (kL_weak g) := sbL_weak_0 g _
def fL_weak : FT := fun g av w => if (ent av).length ≤ 4 then kL_weak g [] (entp 4 av) w else none
theorem tL_weak : MtW yL_weak cL_weak 4 (some .int) [(0, 9, 12, 30)] 9 166 fL_weak := MtW.of (K := kL_weak) (by decide +kernel) (fun _ _ _ => rfl) sL_weak
theorem crL_weak : yL_weak.cls ≠ "java/lang/invoke/MethodHandle" ∧ yL_weak.cls ≠ "java/lang/invoke/VarHandle" ∧ (parseMethodDescriptor yL_weak.desc).map (fun d => d.parameters.length) = some 3 := by decide +kernel
theorem dL_struck_0 : decode cL_struck 0 = .ok (.aload_n 2, 1) := by decide +kernel
theorem dL_struck_1 : decode cL_struck 1 = .ok (.iconst 0, 1) := by decide +kernel
theorem dL_struck_2 : decode cL_struck 2 = .ok (.aload_n 0, 1) := by decide +kernel
theorem dL_struck_3 : decode cL_struck 3 = .ok (.iload_n 1, 1) := by decide +kernel
theorem dL_struck_4 : decode cL_struck 4 = .ok (.invokevirtual 97, 3) := by decide +kernel
theorem dL_struck_7 : decode cL_struck 7 = .ok (.i2l, 1) := by decide +kernel
theorem dL_struck_8 : decode cL_struck 8 = .ok (.lastore, 1) := by decide +kernel
theorem dL_struck_9 : decode cL_struck 9 = .ok (.goto 6, 3) := by decide +kernel
theorem dL_struck_12 : decode cL_struck 12 = .ok (.astore_n 3, 1) := by decide +kernel
theorem dL_struck_13 : decode cL_struck 13 = .ok (.iconst 1, 1) := by decide +kernel
theorem dL_struck_14 : decode cL_struck 14 = .ok (.ireturn, 1) := by decide +kernel
theorem dL_struck_15 : decode cL_struck 15 = .ok (.iconst 0, 1) := by decide +kernel
theorem dL_struck_16 : decode cL_struck 16 = .ok (.ireturn, 1) := by decide +kernel
abbrev mL_struck : MD := (cL_struck, "BlottedDeedLaw", 4, 8, 146, (some .int), "struck", [(0, 9, 12, 30)])
def bL_struck_0 (g : GE) (J : Nat → KT) : KT := i_aload 2 (i_push (.int 0) (i_aload 0 (i_iload 1 (i_cvC fX10_struck g 1 9 [("java/lang/IndexOutOfBoundsException", i_astore 3 (i_push (.int 1) (i_ireturn)))] (i_i2l (i_lastore (i_jmp [false, false, false, false] (i_push (.int 0) (i_ireturn)))))))))
theorem sbL_struck_0 (g : GE) (J : Nat → KT)  : Snd mL_struck g 0 (bL_struck_0 g J) := by
  unfold bL_struck_0
  refine s_aload_n (pc := 0) (i := 2) ?_ dL_struck_0 rfl
  refine s_iconst (pc := 1) (v := 0) ?_ dL_struck_1 (by decide)
  refine s_aload_n (pc := 2) (i := 0) ?_ dL_struck_2 rfl
  refine s_iload_n (pc := 3) (i := 1) ?_ dL_struck_3 rfl
  refine s_cvC (pc := 4) (n := 1) (ci := 9) ?_ ?_ tX10_struck rfl rfl wt_1280 wt_1281 wt_1282 wt_1 wt_1283 ⟨crX10_struck, by decide, by decide⟩ dL_struck_4
  · skip
    refine s_i2l (pc := 7) ?_ dL_struck_7
    refine s_lastore (pc := 8) ?_ dL_struck_8
    refine s_goto (pc := 9) (tgt := 15) ?_ dL_struck_9 (by decide)
    refine s_iconst (pc := 15) (v := 0) ?_ dL_struck_15 (by decide)
    exact s_ireturn (pc := 16) rfl dL_struck_16
  · skip
    refine List.forall_mem_cons.mpr ⟨⟨[], ⟨0, 9, 12, 30⟩, [], "java/lang/IndexOutOfBoundsException", rfl, fun z hz => (by cases hz), by decide, by decide, wt_962, by decide +kernel, ?_, fun _ _ _ => rfl⟩, ?_⟩
    · skip
      refine s_astore_n (pc := 12) (i := 3) ?_ dL_struck_12 rfl (by decide)
      refine s_iconst (pc := 13) (v := 1) ?_ dL_struck_13 (by decide)
      exact s_ireturn (pc := 14) rfl dL_struck_14
    exact fun _ h => by cases h
def kL_struck (g : GE) : KT := bL_struck_0 g (fun _ _ _ _ => none)
theorem sL_struck (g : GE) : Snd mL_struck g 0 (kL_struck g) := sbL_struck_0 g _
def fL_struck : FT := fun g av w => if (ent av).length ≤ 4 then kL_struck g [] (entp 4 av) w else none
theorem tL_struck : MtW yL_struck cL_struck 4 (some .int) [(0, 9, 12, 30)] 8 146 fL_struck := MtW.of (K := kL_struck) (by decide +kernel) (fun _ _ _ => rfl) sL_struck
theorem crL_struck : yL_struck.cls ≠ "java/lang/invoke/MethodHandle" ∧ yL_struck.cls ≠ "java/lang/invoke/VarHandle" ∧ (parseMethodDescriptor yL_struck.desc).map (fun d => d.parameters.length) = some 3 := by decide +kernel
theorem dL_middle_0 : decode cL_middle 0 = .ok (.aload_n 2, 1) := by decide +kernel
theorem dL_middle_1 : decode cL_middle 1 = .ok (.iconst 0, 1) := by decide +kernel
theorem dL_middle_2 : decode cL_middle 2 = .ok (.aload_n 0, 1) := by decide +kernel
theorem dL_middle_3 : decode cL_middle 3 = .ok (.iload_n 1, 1) := by decide +kernel
theorem dL_middle_4 : decode cL_middle 4 = .ok (.invokevirtual 103, 3) := by decide +kernel
theorem dL_middle_7 : decode cL_middle 7 = .ok (.i2l, 1) := by decide +kernel
theorem dL_middle_8 : decode cL_middle 8 = .ok (.lastore, 1) := by decide +kernel
theorem dL_middle_9 : decode cL_middle 9 = .ok (.goto 6, 3) := by decide +kernel
theorem dL_middle_12 : decode cL_middle 12 = .ok (.astore_n 3, 1) := by decide +kernel
theorem dL_middle_13 : decode cL_middle 13 = .ok (.iconst 1, 1) := by decide +kernel
theorem dL_middle_14 : decode cL_middle 14 = .ok (.ireturn, 1) := by decide +kernel
theorem dL_middle_15 : decode cL_middle 15 = .ok (.iconst 0, 1) := by decide +kernel
theorem dL_middle_16 : decode cL_middle 16 = .ok (.ireturn, 1) := by decide +kernel
abbrev mL_middle : MD := (cL_middle, "BlottedDeedLaw", 4, 9, 165, (some .int), "middle", [(0, 9, 12, 13)])
def bL_middle_0 (g : GE) (J : Nat → KT) : KT := i_aload 2 (i_push (.int 0) (i_aload 0 (i_iload 1 (i_cvC fX10_middle g 1 9 [("java/lang/IllegalArgumentException", i_astore 3 (i_push (.int 1) (i_ireturn)))] (i_i2l (i_lastore (i_jmp [false, false, false, false] (i_push (.int 0) (i_ireturn)))))))))
theorem sbL_middle_0 (g : GE) (J : Nat → KT)  : Snd mL_middle g 0 (bL_middle_0 g J) := by
  unfold bL_middle_0
  refine s_aload_n (pc := 0) (i := 2) ?_ dL_middle_0 rfl
  refine s_iconst (pc := 1) (v := 0) ?_ dL_middle_1 (by decide)
  refine s_aload_n (pc := 2) (i := 0) ?_ dL_middle_2 rfl
  refine s_iload_n (pc := 3) (i := 1) ?_ dL_middle_3 rfl
  refine s_cvC (pc := 4) (n := 1) (ci := 9) ?_ ?_ tX10_middle rfl rfl wt_1314 wt_1315 wt_1316 wt_1 wt_1317 ⟨crX10_middle, by decide, by decide⟩ dL_middle_4
  · skip
    refine s_i2l (pc := 7) ?_ dL_middle_7
    refine s_lastore (pc := 8) ?_ dL_middle_8
    refine s_goto (pc := 9) (tgt := 15) ?_ dL_middle_9 (by decide)
    refine s_iconst (pc := 15) (v := 0) ?_ dL_middle_15 (by decide)
    exact s_ireturn (pc := 16) rfl dL_middle_16
  · skip
    refine List.forall_mem_cons.mpr ⟨⟨[], ⟨0, 9, 12, 13⟩, [], "java/lang/IllegalArgumentException", rfl, fun z hz => (by cases hz), by decide, by decide, wt_621, by decide +kernel, ?_, fun _ _ _ => rfl⟩, ?_⟩
    · skip
      refine s_astore_n (pc := 12) (i := 3) ?_ dL_middle_12 rfl (by decide)
      refine s_iconst (pc := 13) (v := 1) ?_ dL_middle_13 (by decide)
      exact s_ireturn (pc := 14) rfl dL_middle_14
    exact fun _ h => by cases h
def kL_middle (g : GE) : KT := bL_middle_0 g (fun _ _ _ _ => none)
theorem sL_middle (g : GE) : Snd mL_middle g 0 (kL_middle g) := sbL_middle_0 g _
def fL_middle : FT := fun g av w => if (ent av).length ≤ 4 then kL_middle g [] (entp 4 av) w else none
theorem tL_middle : MtW yL_middle cL_middle 4 (some .int) [(0, 9, 12, 13)] 9 165 fL_middle := MtW.of (K := kL_middle) (by decide +kernel) (fun _ _ _ => rfl) sL_middle
theorem crL_middle : yL_middle.cls ≠ "java/lang/invoke/MethodHandle" ∧ yL_middle.cls ≠ "java/lang/invoke/VarHandle" ∧ (parseMethodDescriptor yL_middle.desc).map (fun d => d.parameters.length) = some 3 := by decide +kernel
theorem dL_when_0 : decode cL_when 0 = .ok (.aload 5, 2) := by decide +kernel
theorem dL_when_2 : decode cL_when 2 = .ok (.iconst 0, 1) := by decide +kernel
theorem dL_when_3 : decode cL_when 3 = .ok (.aload_n 0, 1) := by decide +kernel
theorem dL_when_4 : decode cL_when 4 = .ok (.iload_n 1, 1) := by decide +kernel
theorem dL_when_5 : decode cL_when 5 = .ok (.iload_n 2, 1) := by decide +kernel
theorem dL_when_6 : decode cL_when 6 = .ok (.iload_n 3, 1) := by decide +kernel
theorem dL_when_7 : decode cL_when 7 = .ok (.iload 4, 2) := by decide +kernel
theorem dL_when_9 : decode cL_when 9 = .ok (.invokevirtual 106, 3) := by decide +kernel
theorem dL_when_12 : decode cL_when 12 = .ok (.i2l, 1) := by decide +kernel
theorem dL_when_13 : decode cL_when 13 = .ok (.lastore, 1) := by decide +kernel
theorem dL_when_14 : decode cL_when 14 = .ok (.goto 11, 3) := by decide +kernel
theorem dL_when_17 : decode cL_when 17 = .ok (.astore 6, 2) := by decide +kernel
theorem dL_when_19 : decode cL_when 19 = .ok (.iconst 1, 1) := by decide +kernel
theorem dL_when_20 : decode cL_when 20 = .ok (.ireturn, 1) := by decide +kernel
theorem dL_when_21 : decode cL_when 21 = .ok (.astore 6, 2) := by decide +kernel
theorem dL_when_23 : decode cL_when 23 = .ok (.iconst 2, 1) := by decide +kernel
theorem dL_when_24 : decode cL_when 24 = .ok (.ireturn, 1) := by decide +kernel
theorem dL_when_25 : decode cL_when 25 = .ok (.iconst 0, 1) := by decide +kernel
theorem dL_when_26 : decode cL_when 26 = .ok (.ireturn, 1) := by decide +kernel
abbrev mL_when : MD := (cL_when, "BlottedDeedLaw", 7, 9, 170, (some .int), "when", [(0, 14, 17, 30), (0, 14, 21, 13)])
def bL_when_0 (g : GE) (J : Nat → KT) : KT := i_aload 5 (i_push (.int 0) (i_aload 0 (i_iload 1 (i_iload 2 (i_iload 3 (i_iload 4 (i_cvC fX10_when g 4 9 [("java/lang/IndexOutOfBoundsException", i_astore 6 (i_push (.int 1) (i_ireturn))), ("java/lang/IllegalArgumentException", i_astore 6 (i_push (.int 2) (i_ireturn)))] (i_i2l (i_lastore (i_jmp [false, false, false, false, false, false, false] (i_push (.int 0) (i_ireturn))))))))))))
theorem sbL_when_0 (g : GE) (J : Nat → KT)  : Snd mL_when g 0 (bL_when_0 g J) := by
  unfold bL_when_0
  refine s_aload (pc := 0) (i := 5) ?_ dL_when_0
  refine s_iconst (pc := 2) (v := 0) ?_ dL_when_2 (by decide)
  refine s_aload_n (pc := 3) (i := 0) ?_ dL_when_3 rfl
  refine s_iload_n (pc := 4) (i := 1) ?_ dL_when_4 rfl
  refine s_iload_n (pc := 5) (i := 2) ?_ dL_when_5 rfl
  refine s_iload_n (pc := 6) (i := 3) ?_ dL_when_6 rfl
  refine s_iload (pc := 7) (i := 4) ?_ dL_when_7
  refine s_cvC (pc := 9) (n := 4) (ci := 9) ?_ ?_ tX10_when rfl rfl wt_1331 wt_1332 wt_1333 wt_1 wt_1334 ⟨crX10_when, by decide, by decide⟩ dL_when_9
  · skip
    refine s_i2l (pc := 12) ?_ dL_when_12
    refine s_lastore (pc := 13) ?_ dL_when_13
    refine s_goto (pc := 14) (tgt := 25) ?_ dL_when_14 (by decide)
    refine s_iconst (pc := 25) (v := 0) ?_ dL_when_25 (by decide)
    exact s_ireturn (pc := 26) rfl dL_when_26
  · skip
    refine List.forall_mem_cons.mpr ⟨⟨[], ⟨0, 14, 17, 30⟩, [⟨0, 14, 21, 13⟩], "java/lang/IndexOutOfBoundsException", rfl, fun z hz => (by cases hz), by decide, by decide, wt_962, by decide +kernel, ?_, fun _ _ _ => rfl⟩, ?_⟩
    · skip
      refine s_astore (pc := 17) (i := 6) ?_ dL_when_17 (by decide)
      refine s_iconst (pc := 19) (v := 1) ?_ dL_when_19 (by decide)
      exact s_ireturn (pc := 20) rfl dL_when_20
    refine List.forall_mem_cons.mpr ⟨⟨[⟨0, 14, 17, 30⟩], ⟨0, 14, 21, 13⟩, [], "java/lang/IllegalArgumentException", rfl, fun z hz => (by rw [List.mem_singleton.mp hz]; exact ⟨by decide, "java/lang/IndexOutOfBoundsException", wt_962, by decide +kernel⟩), by decide, by decide, wt_621, by decide +kernel, ?_, fun _ _ _ => rfl⟩, ?_⟩
    · skip
      refine s_astore (pc := 21) (i := 6) ?_ dL_when_21 (by decide)
      refine s_iconst (pc := 23) (v := 2) ?_ dL_when_23 (by decide)
      exact s_ireturn (pc := 24) rfl dL_when_24
    exact fun _ h => by cases h
def kL_when (g : GE) : KT := bL_when_0 g (fun _ _ _ _ => none)
theorem sL_when (g : GE) : Snd mL_when g 0 (kL_when g) := sbL_when_0 g _
def fL_when : FT := fun g av w => if (ent av).length ≤ 7 then kL_when g [] (entp 7 av) w else none
theorem tL_when : MtW yL_when cL_when 7 (some .int) [(0, 14, 17, 30), (0, 14, 21, 13)] 9 170 fL_when := MtW.of (K := kL_when) (by decide +kernel) (fun _ _ _ => rfl) sL_when
theorem crL_when : yL_when.cls ≠ "java/lang/invoke/MethodHandle" ∧ yL_when.cls ≠ "java/lang/invoke/VarHandle" ∧ (parseMethodDescriptor yL_when.desc).map (fun d => d.parameters.length) = some 6 := by decide +kernel
theorem dL_steps_0 : decode cL_steps 0 = .ok (.aload 4, 2) := by decide +kernel
theorem dL_steps_2 : decode cL_steps 2 = .ok (.iconst 0, 1) := by decide +kernel
theorem dL_steps_3 : decode cL_steps 3 = .ok (.aload_n 0, 1) := by decide +kernel
theorem dL_steps_4 : decode cL_steps 4 = .ok (.iload_n 1, 1) := by decide +kernel
theorem dL_steps_5 : decode cL_steps 5 = .ok (.iload_n 2, 1) := by decide +kernel
theorem dL_steps_6 : decode cL_steps 6 = .ok (.iload_n 3, 1) := by decide +kernel
theorem dL_steps_7 : decode cL_steps 7 = .ok (.invokevirtual 109, 3) := by decide +kernel
theorem dL_steps_10 : decode cL_steps 10 = .ok (.i2l, 1) := by decide +kernel
theorem dL_steps_11 : decode cL_steps 11 = .ok (.lastore, 1) := by decide +kernel
theorem dL_steps_12 : decode cL_steps 12 = .ok (.goto 11, 3) := by decide +kernel
theorem dL_steps_15 : decode cL_steps 15 = .ok (.astore 5, 2) := by decide +kernel
theorem dL_steps_17 : decode cL_steps 17 = .ok (.iconst 1, 1) := by decide +kernel
theorem dL_steps_18 : decode cL_steps 18 = .ok (.ireturn, 1) := by decide +kernel
theorem dL_steps_19 : decode cL_steps 19 = .ok (.astore 5, 2) := by decide +kernel
theorem dL_steps_21 : decode cL_steps 21 = .ok (.iconst 2, 1) := by decide +kernel
theorem dL_steps_22 : decode cL_steps 22 = .ok (.ireturn, 1) := by decide +kernel
theorem dL_steps_23 : decode cL_steps 23 = .ok (.iconst 0, 1) := by decide +kernel
theorem dL_steps_24 : decode cL_steps 24 = .ok (.ireturn, 1) := by decide +kernel
abbrev mL_steps : MD := (cL_steps, "BlottedDeedLaw", 6, 9, 205, (some .int), "steps", [(0, 12, 15, 30), (0, 12, 19, 13)])
def bL_steps_0 (g : GE) (J : Nat → KT) : KT := i_aload 4 (i_push (.int 0) (i_aload 0 (i_iload 1 (i_iload 2 (i_iload 3 (i_cvC fX10_steps g 3 9 [("java/lang/IndexOutOfBoundsException", i_astore 5 (i_push (.int 1) (i_ireturn))), ("java/lang/IllegalArgumentException", i_astore 5 (i_push (.int 2) (i_ireturn)))] (i_i2l (i_lastore (i_jmp [false, false, false, false, false, false] (i_push (.int 0) (i_ireturn)))))))))))
theorem sbL_steps_0 (g : GE) (J : Nat → KT)  : Snd mL_steps g 0 (bL_steps_0 g J) := by
  unfold bL_steps_0
  refine s_aload (pc := 0) (i := 4) ?_ dL_steps_0
  refine s_iconst (pc := 2) (v := 0) ?_ dL_steps_2 (by decide)
  refine s_aload_n (pc := 3) (i := 0) ?_ dL_steps_3 rfl
  refine s_iload_n (pc := 4) (i := 1) ?_ dL_steps_4 rfl
  refine s_iload_n (pc := 5) (i := 2) ?_ dL_steps_5 rfl
  refine s_iload_n (pc := 6) (i := 3) ?_ dL_steps_6 rfl
  refine s_cvC (pc := 7) (n := 3) (ci := 9) ?_ ?_ tX10_steps rfl rfl wt_1338 wt_1339 wt_1340 wt_1 wt_1341 ⟨crX10_steps, by decide, by decide⟩ dL_steps_7
  · skip
    refine s_i2l (pc := 10) ?_ dL_steps_10
    refine s_lastore (pc := 11) ?_ dL_steps_11
    refine s_goto (pc := 12) (tgt := 23) ?_ dL_steps_12 (by decide)
    refine s_iconst (pc := 23) (v := 0) ?_ dL_steps_23 (by decide)
    exact s_ireturn (pc := 24) rfl dL_steps_24
  · skip
    refine List.forall_mem_cons.mpr ⟨⟨[], ⟨0, 12, 15, 30⟩, [⟨0, 12, 19, 13⟩], "java/lang/IndexOutOfBoundsException", rfl, fun z hz => (by cases hz), by decide, by decide, wt_962, by decide +kernel, ?_, fun _ _ _ => rfl⟩, ?_⟩
    · skip
      refine s_astore (pc := 15) (i := 5) ?_ dL_steps_15 (by decide)
      refine s_iconst (pc := 17) (v := 1) ?_ dL_steps_17 (by decide)
      exact s_ireturn (pc := 18) rfl dL_steps_18
    refine List.forall_mem_cons.mpr ⟨⟨[⟨0, 12, 15, 30⟩], ⟨0, 12, 19, 13⟩, [], "java/lang/IllegalArgumentException", rfl, fun z hz => (by rw [List.mem_singleton.mp hz]; exact ⟨by decide, "java/lang/IndexOutOfBoundsException", wt_962, by decide +kernel⟩), by decide, by decide, wt_621, by decide +kernel, ?_, fun _ _ _ => rfl⟩, ?_⟩
    · skip
      refine s_astore (pc := 19) (i := 5) ?_ dL_steps_19 (by decide)
      refine s_iconst (pc := 21) (v := 2) ?_ dL_steps_21 (by decide)
      exact s_ireturn (pc := 22) rfl dL_steps_22
    exact fun _ h => by cases h
def kL_steps (g : GE) : KT := bL_steps_0 g (fun _ _ _ _ => none)
theorem sL_steps (g : GE) : Snd mL_steps g 0 (kL_steps g) := sbL_steps_0 g _
def fL_steps : FT := fun g av w => if (ent av).length ≤ 6 then kL_steps g [] (entp 6 av) w else none
theorem tL_steps : MtW yL_steps cL_steps 6 (some .int) [(0, 12, 15, 30), (0, 12, 19, 13)] 9 205 fL_steps := MtW.of (K := kL_steps) (by decide +kernel) (fun _ _ _ => rfl) sL_steps
theorem crL_steps : yL_steps.cls ≠ "java/lang/invoke/MethodHandle" ∧ yL_steps.cls ≠ "java/lang/invoke/VarHandle" ∧ (parseMethodDescriptor yL_steps.desc).map (fun d => d.parameters.length) = some 5 := by decide +kernel
theorem dL_pairs_0 : decode cL_pairs 0 = .ok (.aload_n 3, 1) := by decide +kernel
theorem dL_pairs_1 : decode cL_pairs 1 = .ok (.iconst 0, 1) := by decide +kernel
theorem dL_pairs_2 : decode cL_pairs 2 = .ok (.aload_n 0, 1) := by decide +kernel
theorem dL_pairs_3 : decode cL_pairs 3 = .ok (.iload_n 1, 1) := by decide +kernel
theorem dL_pairs_4 : decode cL_pairs 4 = .ok (.iload_n 2, 1) := by decide +kernel
theorem dL_pairs_5 : decode cL_pairs 5 = .ok (.invokevirtual 112, 3) := by decide +kernel
theorem dL_pairs_8 : decode cL_pairs 8 = .ok (.i2l, 1) := by decide +kernel
theorem dL_pairs_9 : decode cL_pairs 9 = .ok (.lastore, 1) := by decide +kernel
theorem dL_pairs_10 : decode cL_pairs 10 = .ok (.goto 11, 3) := by decide +kernel
theorem dL_pairs_13 : decode cL_pairs 13 = .ok (.astore 4, 2) := by decide +kernel
theorem dL_pairs_15 : decode cL_pairs 15 = .ok (.iconst 1, 1) := by decide +kernel
theorem dL_pairs_16 : decode cL_pairs 16 = .ok (.ireturn, 1) := by decide +kernel
theorem dL_pairs_17 : decode cL_pairs 17 = .ok (.astore 4, 2) := by decide +kernel
theorem dL_pairs_19 : decode cL_pairs 19 = .ok (.iconst 2, 1) := by decide +kernel
theorem dL_pairs_20 : decode cL_pairs 20 = .ok (.ireturn, 1) := by decide +kernel
theorem dL_pairs_21 : decode cL_pairs 21 = .ok (.iconst 0, 1) := by decide +kernel
theorem dL_pairs_22 : decode cL_pairs 22 = .ok (.ireturn, 1) := by decide +kernel
abbrev mL_pairs : MD := (cL_pairs, "BlottedDeedLaw", 5, 9, 168, (some .int), "pairs", [(0, 10, 13, 30), (0, 10, 17, 13)])
def bL_pairs_0 (g : GE) (J : Nat → KT) : KT := i_aload 3 (i_push (.int 0) (i_aload 0 (i_iload 1 (i_iload 2 (i_cvC fX10_pairs g 2 9 [("java/lang/IndexOutOfBoundsException", i_astore 4 (i_push (.int 1) (i_ireturn))), ("java/lang/IllegalArgumentException", i_astore 4 (i_push (.int 2) (i_ireturn)))] (i_i2l (i_lastore (i_jmp [false, false, false, false, false] (i_push (.int 0) (i_ireturn))))))))))
theorem sbL_pairs_0 (g : GE) (J : Nat → KT)  : Snd mL_pairs g 0 (bL_pairs_0 g J) := by
  unfold bL_pairs_0
  refine s_aload_n (pc := 0) (i := 3) ?_ dL_pairs_0 rfl
  refine s_iconst (pc := 1) (v := 0) ?_ dL_pairs_1 (by decide)
  refine s_aload_n (pc := 2) (i := 0) ?_ dL_pairs_2 rfl
  refine s_iload_n (pc := 3) (i := 1) ?_ dL_pairs_3 rfl
  refine s_iload_n (pc := 4) (i := 2) ?_ dL_pairs_4 rfl
  refine s_cvC (pc := 5) (n := 2) (ci := 9) ?_ ?_ tX10_pairs rfl rfl wt_1354 wt_1355 wt_1356 wt_1 wt_1357 ⟨crX10_pairs, by decide, by decide⟩ dL_pairs_5
  · skip
    refine s_i2l (pc := 8) ?_ dL_pairs_8
    refine s_lastore (pc := 9) ?_ dL_pairs_9
    refine s_goto (pc := 10) (tgt := 21) ?_ dL_pairs_10 (by decide)
    refine s_iconst (pc := 21) (v := 0) ?_ dL_pairs_21 (by decide)
    exact s_ireturn (pc := 22) rfl dL_pairs_22
  · skip
    refine List.forall_mem_cons.mpr ⟨⟨[], ⟨0, 10, 13, 30⟩, [⟨0, 10, 17, 13⟩], "java/lang/IndexOutOfBoundsException", rfl, fun z hz => (by cases hz), by decide, by decide, wt_962, by decide +kernel, ?_, fun _ _ _ => rfl⟩, ?_⟩
    · skip
      refine s_astore (pc := 13) (i := 4) ?_ dL_pairs_13 (by decide)
      refine s_iconst (pc := 15) (v := 1) ?_ dL_pairs_15 (by decide)
      exact s_ireturn (pc := 16) rfl dL_pairs_16
    refine List.forall_mem_cons.mpr ⟨⟨[⟨0, 10, 13, 30⟩], ⟨0, 10, 17, 13⟩, [], "java/lang/IllegalArgumentException", rfl, fun z hz => (by rw [List.mem_singleton.mp hz]; exact ⟨by decide, "java/lang/IndexOutOfBoundsException", wt_962, by decide +kernel⟩), by decide, by decide, wt_621, by decide +kernel, ?_, fun _ _ _ => rfl⟩, ?_⟩
    · skip
      refine s_astore (pc := 17) (i := 4) ?_ dL_pairs_17 (by decide)
      refine s_iconst (pc := 19) (v := 2) ?_ dL_pairs_19 (by decide)
      exact s_ireturn (pc := 20) rfl dL_pairs_20
    exact fun _ h => by cases h
def kL_pairs (g : GE) : KT := bL_pairs_0 g (fun _ _ _ _ => none)
theorem sL_pairs (g : GE) : Snd mL_pairs g 0 (kL_pairs g) := sbL_pairs_0 g _
def fL_pairs : FT := fun g av w => if (ent av).length ≤ 5 then kL_pairs g [] (entp 5 av) w else none
theorem tL_pairs : MtW yL_pairs cL_pairs 5 (some .int) [(0, 10, 13, 30), (0, 10, 17, 13)] 9 168 fL_pairs := MtW.of (K := kL_pairs) (by decide +kernel) (fun _ _ _ => rfl) sL_pairs
theorem crL_pairs : yL_pairs.cls ≠ "java/lang/invoke/MethodHandle" ∧ yL_pairs.cls ≠ "java/lang/invoke/VarHandle" ∧ (parseMethodDescriptor yL_pairs.desc).map (fun d => d.parameters.length) = some 4 := by decide +kernel
theorem dL_rows_0 : decode cL_rows 0 = .ok (.aload_n 2, 1) := by decide +kernel
theorem dL_rows_1 : decode cL_rows 1 = .ok (.iconst 0, 1) := by decide +kernel
theorem dL_rows_2 : decode cL_rows 2 = .ok (.aload_n 0, 1) := by decide +kernel
theorem dL_rows_3 : decode cL_rows 3 = .ok (.iload_n 1, 1) := by decide +kernel
theorem dL_rows_4 : decode cL_rows 4 = .ok (.invokevirtual 115, 3) := by decide +kernel
theorem dL_rows_7 : decode cL_rows 7 = .ok (.i2l, 1) := by decide +kernel
theorem dL_rows_8 : decode cL_rows 8 = .ok (.lastore, 1) := by decide +kernel
theorem dL_rows_9 : decode cL_rows 9 = .ok (.goto 6, 3) := by decide +kernel
theorem dL_rows_12 : decode cL_rows 12 = .ok (.astore_n 3, 1) := by decide +kernel
theorem dL_rows_13 : decode cL_rows 13 = .ok (.iconst 1, 1) := by decide +kernel
theorem dL_rows_14 : decode cL_rows 14 = .ok (.ireturn, 1) := by decide +kernel
theorem dL_rows_15 : decode cL_rows 15 = .ok (.iconst 0, 1) := by decide +kernel
theorem dL_rows_16 : decode cL_rows 16 = .ok (.ireturn, 1) := by decide +kernel
abbrev mL_rows : MD := (cL_rows, "BlottedDeedLaw", 4, 8, 142, (some .int), "rows", [(0, 9, 12, 13)])
def bL_rows_0 (g : GE) (J : Nat → KT) : KT := i_aload 2 (i_push (.int 0) (i_aload 0 (i_iload 1 (i_cvC fX10_rows g 1 9 [("java/lang/IllegalArgumentException", i_astore 3 (i_push (.int 1) (i_ireturn)))] (i_i2l (i_lastore (i_jmp [false, false, false, false] (i_push (.int 0) (i_ireturn)))))))))
theorem sbL_rows_0 (g : GE) (J : Nat → KT)  : Snd mL_rows g 0 (bL_rows_0 g J) := by
  unfold bL_rows_0
  refine s_aload_n (pc := 0) (i := 2) ?_ dL_rows_0 rfl
  refine s_iconst (pc := 1) (v := 0) ?_ dL_rows_1 (by decide)
  refine s_aload_n (pc := 2) (i := 0) ?_ dL_rows_2 rfl
  refine s_iload_n (pc := 3) (i := 1) ?_ dL_rows_3 rfl
  refine s_cvC (pc := 4) (n := 1) (ci := 9) ?_ ?_ tX10_rows rfl rfl wt_1361 wt_1362 wt_1363 wt_1 wt_1364 ⟨crX10_rows, by decide, by decide⟩ dL_rows_4
  · skip
    refine s_i2l (pc := 7) ?_ dL_rows_7
    refine s_lastore (pc := 8) ?_ dL_rows_8
    refine s_goto (pc := 9) (tgt := 15) ?_ dL_rows_9 (by decide)
    refine s_iconst (pc := 15) (v := 0) ?_ dL_rows_15 (by decide)
    exact s_ireturn (pc := 16) rfl dL_rows_16
  · skip
    refine List.forall_mem_cons.mpr ⟨⟨[], ⟨0, 9, 12, 13⟩, [], "java/lang/IllegalArgumentException", rfl, fun z hz => (by cases hz), by decide, by decide, wt_621, by decide +kernel, ?_, fun _ _ _ => rfl⟩, ?_⟩
    · skip
      refine s_astore_n (pc := 12) (i := 3) ?_ dL_rows_12 rfl (by decide)
      refine s_iconst (pc := 13) (v := 1) ?_ dL_rows_13 (by decide)
      exact s_ireturn (pc := 14) rfl dL_rows_14
    exact fun _ h => by cases h
def kL_rows (g : GE) : KT := bL_rows_0 g (fun _ _ _ _ => none)
theorem sL_rows (g : GE) : Snd mL_rows g 0 (kL_rows g) := sbL_rows_0 g _
def fL_rows : FT := fun g av w => if (ent av).length ≤ 4 then kL_rows g [] (entp 4 av) w else none
theorem tL_rows : MtW yL_rows cL_rows 4 (some .int) [(0, 9, 12, 13)] 8 142 fL_rows := MtW.of (K := kL_rows) (by decide +kernel) (fun _ _ _ => rfl) sL_rows
theorem crL_rows : yL_rows.cls ≠ "java/lang/invoke/MethodHandle" ∧ yL_rows.cls ≠ "java/lang/invoke/VarHandle" ∧ (parseMethodDescriptor yL_rows.desc).map (fun d => d.parameters.length) = some 3 := by decide +kernel
theorem dL_law_0 : decode cL_law 0 = .ok (.new 8, 3) := by decide +kernel
theorem dL_law_3 : decode cL_law 3 = .ok (.dup, 1) := by decide +kernel
theorem dL_law_4 : decode cL_law 4 = .ok (.invokespecial 118, 3) := by decide +kernel
theorem dL_law_7 : decode cL_law 7 = .ok (.astore_n 1, 1) := by decide +kernel
theorem dL_law_8 : decode cL_law 8 = .ok (.new 119, 3) := by decide +kernel
theorem dL_law_11 : decode cL_law 11 = .ok (.dup, 1) := by decide +kernel
theorem dL_law_12 : decode cL_law 12 = .ok (.invokespecial 121, 3) := by decide +kernel
theorem dL_law_15 : decode cL_law 15 = .ok (.astore_n 2, 1) := by decide +kernel
theorem dL_law_16 : decode cL_law 16 = .ok (.iconst 1, 1) := by decide +kernel
theorem dL_law_17 : decode cL_law 17 = .ok (.newarray .long, 2) := by decide +kernel
theorem dL_law_19 : decode cL_law 19 = .ok (.astore_n 3, 1) := by decide +kernel
theorem dL_law_20 : decode cL_law 20 = .ok (.iconst 0, 1) := by decide +kernel
theorem dL_law_21 : decode cL_law 21 = .ok (.istore 4, 2) := by decide +kernel
theorem dL_law_23 : decode cL_law 23 = .ok (.iload 4, 2) := by decide +kernel
theorem dL_law_25 : decode cL_law 25 = .ok (.aload_n 0, 1) := by decide +kernel
theorem dL_law_26 : decode cL_law 26 = .ok (.arraylength, 1) := by decide +kernel
theorem dL_law_27 : decode cL_law 27 = .ok (.bipush 6, 2) := by decide +kernel
theorem dL_law_29 : decode cL_law 29 = .ok (.isub, 1) := by decide +kernel
theorem dL_law_30 : decode cL_law 30 = .ok (.if_icmp .gt 2581, 3) := by decide +kernel
theorem dL_law_33 : decode cL_law 33 = .ok (.aload_n 0, 1) := by decide +kernel
theorem dL_law_34 : decode cL_law 34 = .ok (.iload 4, 2) := by decide +kernel
theorem dL_law_36 : decode cL_law 36 = .ok (.iaload, 1) := by decide +kernel
theorem dL_law_37 : decode cL_law 37 = .ok (.bipush 63, 2) := by decide +kernel
theorem dL_law_39 : decode cL_law 39 = .ok (.iand, 1) := by decide +kernel
theorem dL_law_40 : decode cL_law 40 = .ok (.tableswitch 2565 0 43 #[192, 265, 321, 334, 390, 458, 526, 539, 607, 663, 676, 756, 824, 892, 967, 1035, 1103, 1159, 1172, 1240, 1308, 1364, 1420, 1500, 1592, 1605, 1660, 1739, 1752, 1808, 1876, 1932, 2000, 2056, 2124, 2180, 2272, 2352, 2420, 2476, 2489, 2502, 2515, 2540], 192) := by decide +kernel
theorem dL_law_232 : decode cL_law 232 = .ok (.aload_n 1, 1) := by decide +kernel
theorem dL_law_233 : decode cL_law 233 = .ok (.aload_n 0, 1) := by decide +kernel
theorem dL_law_234 : decode cL_law 234 = .ok (.iload 4, 2) := by decide +kernel
theorem dL_law_236 : decode cL_law 236 = .ok (.iconst 1, 1) := by decide +kernel
theorem dL_law_237 : decode cL_law 237 = .ok (.iadd, 1) := by decide +kernel
theorem dL_law_238 : decode cL_law 238 = .ok (.iaload, 1) := by decide +kernel
theorem dL_law_239 : decode cL_law 239 = .ok (.aload_n 0, 1) := by decide +kernel
theorem dL_law_240 : decode cL_law 240 = .ok (.iload 4, 2) := by decide +kernel
theorem dL_law_242 : decode cL_law 242 = .ok (.iconst 2, 1) := by decide +kernel
theorem dL_law_243 : decode cL_law 243 = .ok (.iadd, 1) := by decide +kernel
theorem dL_law_244 : decode cL_law 244 = .ok (.iaload, 1) := by decide +kernel
theorem dL_law_245 : decode cL_law 245 = .ok (.aload_n 0, 1) := by decide +kernel
theorem dL_law_246 : decode cL_law 246 = .ok (.iload 4, 2) := by decide +kernel
theorem dL_law_248 : decode cL_law 248 = .ok (.iconst 3, 1) := by decide +kernel
theorem dL_law_249 : decode cL_law 249 = .ok (.iadd, 1) := by decide +kernel
theorem dL_law_250 : decode cL_law 250 = .ok (.iaload, 1) := by decide +kernel
theorem dL_law_251 : decode cL_law 251 = .ok (.aload_n 0, 1) := by decide +kernel
theorem dL_law_252 : decode cL_law 252 = .ok (.iload 4, 2) := by decide +kernel
theorem dL_law_254 : decode cL_law 254 = .ok (.iconst 4, 1) := by decide +kernel
theorem dL_law_255 : decode cL_law 255 = .ok (.iadd, 1) := by decide +kernel
theorem dL_law_256 : decode cL_law 256 = .ok (.iaload, 1) := by decide +kernel
theorem dL_law_257 : decode cL_law 257 = .ok (.aload_n 0, 1) := by decide +kernel
theorem dL_law_258 : decode cL_law 258 = .ok (.iload 4, 2) := by decide +kernel
theorem dL_law_260 : decode cL_law 260 = .ok (.iconst 5, 1) := by decide +kernel
theorem dL_law_261 : decode cL_law 261 = .ok (.iadd, 1) := by decide +kernel
theorem dL_law_262 : decode cL_law 262 = .ok (.iaload, 1) := by decide +kernel
theorem dL_law_263 : decode cL_law 263 = .ok (.invokevirtual 122, 3) := by decide +kernel
theorem dL_law_266 : decode cL_law 266 = .ok (.aload_n 2, 1) := by decide +kernel
theorem dL_law_267 : decode cL_law 267 = .ok (.aload_n 0, 1) := by decide +kernel
theorem dL_law_268 : decode cL_law 268 = .ok (.iload 4, 2) := by decide +kernel
theorem dL_law_270 : decode cL_law 270 = .ok (.iconst 1, 1) := by decide +kernel
theorem dL_law_271 : decode cL_law 271 = .ok (.iadd, 1) := by decide +kernel
theorem dL_law_272 : decode cL_law 272 = .ok (.iaload, 1) := by decide +kernel
theorem dL_law_273 : decode cL_law 273 = .ok (.aload_n 0, 1) := by decide +kernel
theorem dL_law_274 : decode cL_law 274 = .ok (.iload 4, 2) := by decide +kernel
theorem dL_law_276 : decode cL_law 276 = .ok (.iconst 2, 1) := by decide +kernel
theorem dL_law_277 : decode cL_law 277 = .ok (.iadd, 1) := by decide +kernel
theorem dL_law_278 : decode cL_law 278 = .ok (.iaload, 1) := by decide +kernel
theorem dL_law_279 : decode cL_law 279 = .ok (.aload_n 0, 1) := by decide +kernel
theorem dL_law_280 : decode cL_law 280 = .ok (.iload 4, 2) := by decide +kernel
theorem dL_law_282 : decode cL_law 282 = .ok (.iconst 3, 1) := by decide +kernel
theorem dL_law_283 : decode cL_law 283 = .ok (.iadd, 1) := by decide +kernel
theorem dL_law_284 : decode cL_law 284 = .ok (.iaload, 1) := by decide +kernel
theorem dL_law_285 : decode cL_law 285 = .ok (.aload_n 0, 1) := by decide +kernel
theorem dL_law_286 : decode cL_law 286 = .ok (.iload 4, 2) := by decide +kernel
theorem dL_law_288 : decode cL_law 288 = .ok (.iconst 4, 1) := by decide +kernel
theorem dL_law_289 : decode cL_law 289 = .ok (.iadd, 1) := by decide +kernel
theorem dL_law_290 : decode cL_law 290 = .ok (.iaload, 1) := by decide +kernel
theorem dL_law_291 : decode cL_law 291 = .ok (.aload_n 0, 1) := by decide +kernel
theorem dL_law_292 : decode cL_law 292 = .ok (.iload 4, 2) := by decide +kernel
theorem dL_law_294 : decode cL_law 294 = .ok (.iconst 5, 1) := by decide +kernel
theorem dL_law_295 : decode cL_law 295 = .ok (.iadd, 1) := by decide +kernel
theorem dL_law_296 : decode cL_law 296 = .ok (.iaload, 1) := by decide +kernel
theorem dL_law_297 : decode cL_law 297 = .ok (.invokevirtual 126, 3) := by decide +kernel
theorem dL_law_300 : decode cL_law 300 = .ok (.if_icmp .eq 2305, 3) := by decide +kernel
theorem dL_law_303 : decode cL_law 303 = .ok (.iconst 0, 1) := by decide +kernel
theorem dL_law_304 : decode cL_law 304 = .ok (.ireturn, 1) := by decide +kernel
theorem dL_law_305 : decode cL_law 305 = .ok (.aload_n 1, 1) := by decide +kernel
theorem dL_law_306 : decode cL_law 306 = .ok (.aload_n 0, 1) := by decide +kernel
theorem dL_law_307 : decode cL_law 307 = .ok (.iload 4, 2) := by decide +kernel
theorem dL_law_309 : decode cL_law 309 = .ok (.iconst 1, 1) := by decide +kernel
theorem dL_law_310 : decode cL_law 310 = .ok (.iadd, 1) := by decide +kernel
theorem dL_law_311 : decode cL_law 311 = .ok (.iaload, 1) := by decide +kernel
theorem dL_law_312 : decode cL_law 312 = .ok (.aload_n 3, 1) := by decide +kernel
theorem dL_law_313 : decode cL_law 313 = .ok (.invokestatic 127, 3) := by decide +kernel
theorem dL_law_316 : decode cL_law 316 = .ok (.istore 5, 2) := by decide +kernel
theorem dL_law_318 : decode cL_law 318 = .ok (.aload_n 2, 1) := by decide +kernel
theorem dL_law_319 : decode cL_law 319 = .ok (.aload_n 0, 1) := by decide +kernel
theorem dL_law_320 : decode cL_law 320 = .ok (.iload 4, 2) := by decide +kernel
theorem dL_law_322 : decode cL_law 322 = .ok (.iconst 1, 1) := by decide +kernel
theorem dL_law_323 : decode cL_law 323 = .ok (.iadd, 1) := by decide +kernel
theorem dL_law_324 : decode cL_law 324 = .ok (.iaload, 1) := by decide +kernel
theorem dL_law_325 : decode cL_law 325 = .ok (.invokevirtual 132, 3) := by decide +kernel
theorem dL_law_328 : decode cL_law 328 = .ok (.istore 6, 2) := by decide +kernel
theorem dL_law_330 : decode cL_law 330 = .ok (.aload_n 2, 1) := by decide +kernel
theorem dL_law_331 : decode cL_law 331 = .ok (.invokevirtual 133, 3) := by decide +kernel
theorem dL_law_334 : decode cL_law 334 = .ok (.iload 5, 2) := by decide +kernel
theorem dL_law_336 : decode cL_law 336 = .ok (.if_icmp .eq 5, 3) := by decide +kernel
theorem dL_law_339 : decode cL_law 339 = .ok (.iconst 0, 1) := by decide +kernel
theorem dL_law_340 : decode cL_law 340 = .ok (.ireturn, 1) := by decide +kernel
theorem dL_law_341 : decode cL_law 341 = .ok (.iload 5, 2) := by decide +kernel
theorem dL_law_343 : decode cL_law 343 = .ok (.ifCond .ne 15, 3) := by decide +kernel
theorem dL_law_346 : decode cL_law 346 = .ok (.aload_n 3, 1) := by decide +kernel
theorem dL_law_347 : decode cL_law 347 = .ok (.iconst 0, 1) := by decide +kernel
theorem dL_law_348 : decode cL_law 348 = .ok (.laload, 1) := by decide +kernel
theorem dL_law_349 : decode cL_law 349 = .ok (.iload 6, 2) := by decide +kernel
theorem dL_law_351 : decode cL_law 351 = .ok (.i2l, 1) := by decide +kernel
theorem dL_law_352 : decode cL_law 352 = .ok (.lcmp, 1) := by decide +kernel
theorem dL_law_353 : decode cL_law 353 = .ok (.ifCond .eq 5, 3) := by decide +kernel
theorem dL_law_356 : decode cL_law 356 = .ok (.iconst 0, 1) := by decide +kernel
theorem dL_law_357 : decode cL_law 357 = .ok (.ireturn, 1) := by decide +kernel
theorem dL_law_358 : decode cL_law 358 = .ok (.goto 2247, 3) := by decide +kernel
theorem dL_law_361 : decode cL_law 361 = .ok (.aload_n 1, 1) := by decide +kernel
theorem dL_law_362 : decode cL_law 362 = .ok (.invokevirtual 137, 3) := by decide +kernel
theorem dL_law_365 : decode cL_law 365 = .ok (.aload_n 2, 1) := by decide +kernel
theorem dL_law_366 : decode cL_law 366 = .ok (.invokevirtual 140, 3) := by decide +kernel
theorem dL_law_369 : decode cL_law 369 = .ok (.if_icmp .eq 2236, 3) := by decide +kernel
theorem dL_law_372 : decode cL_law 372 = .ok (.iconst 0, 1) := by decide +kernel
theorem dL_law_373 : decode cL_law 373 = .ok (.ireturn, 1) := by decide +kernel
theorem dL_law_374 : decode cL_law 374 = .ok (.aload_n 1, 1) := by decide +kernel
theorem dL_law_375 : decode cL_law 375 = .ok (.aload_n 0, 1) := by decide +kernel
theorem dL_law_376 : decode cL_law 376 = .ok (.iload 4, 2) := by decide +kernel
theorem dL_law_378 : decode cL_law 378 = .ok (.iconst 1, 1) := by decide +kernel
theorem dL_law_379 : decode cL_law 379 = .ok (.iadd, 1) := by decide +kernel
theorem dL_law_380 : decode cL_law 380 = .ok (.iaload, 1) := by decide +kernel
theorem dL_law_381 : decode cL_law 381 = .ok (.aload_n 3, 1) := by decide +kernel
theorem dL_law_382 : decode cL_law 382 = .ok (.invokestatic 141, 3) := by decide +kernel
theorem dL_law_385 : decode cL_law 385 = .ok (.istore 5, 2) := by decide +kernel
theorem dL_law_387 : decode cL_law 387 = .ok (.aload_n 2, 1) := by decide +kernel
theorem dL_law_388 : decode cL_law 388 = .ok (.aload_n 0, 1) := by decide +kernel
theorem dL_law_389 : decode cL_law 389 = .ok (.iload 4, 2) := by decide +kernel
theorem dL_law_391 : decode cL_law 391 = .ok (.iconst 1, 1) := by decide +kernel
theorem dL_law_392 : decode cL_law 392 = .ok (.iadd, 1) := by decide +kernel
theorem dL_law_393 : decode cL_law 393 = .ok (.iaload, 1) := by decide +kernel
theorem dL_law_394 : decode cL_law 394 = .ok (.invokevirtual 143, 3) := by decide +kernel
theorem dL_law_397 : decode cL_law 397 = .ok (.istore 6, 2) := by decide +kernel
theorem dL_law_399 : decode cL_law 399 = .ok (.aload_n 2, 1) := by decide +kernel
theorem dL_law_400 : decode cL_law 400 = .ok (.invokevirtual 133, 3) := by decide +kernel
theorem dL_law_403 : decode cL_law 403 = .ok (.iload 5, 2) := by decide +kernel
theorem dL_law_405 : decode cL_law 405 = .ok (.if_icmp .eq 5, 3) := by decide +kernel
theorem dL_law_408 : decode cL_law 408 = .ok (.iconst 0, 1) := by decide +kernel
theorem dL_law_409 : decode cL_law 409 = .ok (.ireturn, 1) := by decide +kernel
theorem dL_law_410 : decode cL_law 410 = .ok (.iload 5, 2) := by decide +kernel
theorem dL_law_412 : decode cL_law 412 = .ok (.ifCond .ne 15, 3) := by decide +kernel
theorem dL_law_415 : decode cL_law 415 = .ok (.aload_n 3, 1) := by decide +kernel
theorem dL_law_416 : decode cL_law 416 = .ok (.iconst 0, 1) := by decide +kernel
theorem dL_law_417 : decode cL_law 417 = .ok (.laload, 1) := by decide +kernel
theorem dL_law_418 : decode cL_law 418 = .ok (.iload 6, 2) := by decide +kernel
theorem dL_law_420 : decode cL_law 420 = .ok (.i2l, 1) := by decide +kernel
theorem dL_law_421 : decode cL_law 421 = .ok (.lcmp, 1) := by decide +kernel
theorem dL_law_422 : decode cL_law 422 = .ok (.ifCond .eq 5, 3) := by decide +kernel
theorem dL_law_425 : decode cL_law 425 = .ok (.iconst 0, 1) := by decide +kernel
theorem dL_law_426 : decode cL_law 426 = .ok (.ireturn, 1) := by decide +kernel
theorem dL_law_427 : decode cL_law 427 = .ok (.goto 2178, 3) := by decide +kernel
theorem dL_law_430 : decode cL_law 430 = .ok (.aload_n 1, 1) := by decide +kernel
theorem dL_law_431 : decode cL_law 431 = .ok (.aload_n 0, 1) := by decide +kernel
theorem dL_law_432 : decode cL_law 432 = .ok (.iload 4, 2) := by decide +kernel
theorem dL_law_434 : decode cL_law 434 = .ok (.iconst 1, 1) := by decide +kernel
theorem dL_law_435 : decode cL_law 435 = .ok (.iadd, 1) := by decide +kernel
theorem dL_law_436 : decode cL_law 436 = .ok (.iaload, 1) := by decide +kernel
theorem dL_law_437 : decode cL_law 437 = .ok (.aload_n 0, 1) := by decide +kernel
theorem dL_law_438 : decode cL_law 438 = .ok (.iload 4, 2) := by decide +kernel
theorem dL_law_440 : decode cL_law 440 = .ok (.iconst 2, 1) := by decide +kernel
theorem dL_law_441 : decode cL_law 441 = .ok (.iadd, 1) := by decide +kernel
theorem dL_law_442 : decode cL_law 442 = .ok (.iaload, 1) := by decide +kernel
theorem dL_law_443 : decode cL_law 443 = .ok (.aload_n 3, 1) := by decide +kernel
theorem dL_law_444 : decode cL_law 444 = .ok (.invokestatic 144, 3) := by decide +kernel
theorem dL_law_447 : decode cL_law 447 = .ok (.istore 5, 2) := by decide +kernel
theorem dL_law_449 : decode cL_law 449 = .ok (.aload_n 2, 1) := by decide +kernel
theorem dL_law_450 : decode cL_law 450 = .ok (.aload_n 0, 1) := by decide +kernel
theorem dL_law_451 : decode cL_law 451 = .ok (.iload 4, 2) := by decide +kernel
theorem dL_law_453 : decode cL_law 453 = .ok (.iconst 1, 1) := by decide +kernel
theorem dL_law_454 : decode cL_law 454 = .ok (.iadd, 1) := by decide +kernel
theorem dL_law_455 : decode cL_law 455 = .ok (.iaload, 1) := by decide +kernel
theorem dL_law_456 : decode cL_law 456 = .ok (.aload_n 0, 1) := by decide +kernel
theorem dL_law_457 : decode cL_law 457 = .ok (.iload 4, 2) := by decide +kernel
theorem dL_law_459 : decode cL_law 459 = .ok (.iconst 2, 1) := by decide +kernel
theorem dL_law_460 : decode cL_law 460 = .ok (.iadd, 1) := by decide +kernel
theorem dL_law_461 : decode cL_law 461 = .ok (.iaload, 1) := by decide +kernel
theorem dL_law_462 : decode cL_law 462 = .ok (.invokevirtual 147, 3) := by decide +kernel
theorem dL_law_465 : decode cL_law 465 = .ok (.istore 6, 2) := by decide +kernel
theorem dL_law_467 : decode cL_law 467 = .ok (.aload_n 2, 1) := by decide +kernel
theorem dL_law_468 : decode cL_law 468 = .ok (.invokevirtual 133, 3) := by decide +kernel
theorem dL_law_471 : decode cL_law 471 = .ok (.iload 5, 2) := by decide +kernel
theorem dL_law_473 : decode cL_law 473 = .ok (.if_icmp .eq 5, 3) := by decide +kernel
theorem dL_law_476 : decode cL_law 476 = .ok (.iconst 0, 1) := by decide +kernel
theorem dL_law_477 : decode cL_law 477 = .ok (.ireturn, 1) := by decide +kernel
theorem dL_law_478 : decode cL_law 478 = .ok (.iload 5, 2) := by decide +kernel
theorem dL_law_480 : decode cL_law 480 = .ok (.ifCond .ne 15, 3) := by decide +kernel
theorem dL_law_483 : decode cL_law 483 = .ok (.aload_n 3, 1) := by decide +kernel
theorem dL_law_484 : decode cL_law 484 = .ok (.iconst 0, 1) := by decide +kernel
theorem dL_law_485 : decode cL_law 485 = .ok (.laload, 1) := by decide +kernel
theorem dL_law_486 : decode cL_law 486 = .ok (.iload 6, 2) := by decide +kernel
theorem dL_law_488 : decode cL_law 488 = .ok (.i2l, 1) := by decide +kernel
theorem dL_law_489 : decode cL_law 489 = .ok (.lcmp, 1) := by decide +kernel
theorem dL_law_490 : decode cL_law 490 = .ok (.ifCond .eq 5, 3) := by decide +kernel
theorem dL_law_493 : decode cL_law 493 = .ok (.iconst 0, 1) := by decide +kernel
theorem dL_law_494 : decode cL_law 494 = .ok (.ireturn, 1) := by decide +kernel
theorem dL_law_495 : decode cL_law 495 = .ok (.goto 2110, 3) := by decide +kernel
theorem dL_law_498 : decode cL_law 498 = .ok (.aload_n 1, 1) := by decide +kernel
theorem dL_law_499 : decode cL_law 499 = .ok (.aload_n 0, 1) := by decide +kernel
theorem dL_law_500 : decode cL_law 500 = .ok (.iload 4, 2) := by decide +kernel
theorem dL_law_502 : decode cL_law 502 = .ok (.iconst 1, 1) := by decide +kernel
theorem dL_law_503 : decode cL_law 503 = .ok (.iadd, 1) := by decide +kernel
theorem dL_law_504 : decode cL_law 504 = .ok (.iaload, 1) := by decide +kernel
theorem dL_law_505 : decode cL_law 505 = .ok (.aload_n 0, 1) := by decide +kernel
theorem dL_law_506 : decode cL_law 506 = .ok (.iload 4, 2) := by decide +kernel
theorem dL_law_508 : decode cL_law 508 = .ok (.iconst 2, 1) := by decide +kernel
theorem dL_law_509 : decode cL_law 509 = .ok (.iadd, 1) := by decide +kernel
theorem dL_law_510 : decode cL_law 510 = .ok (.iaload, 1) := by decide +kernel
theorem dL_law_511 : decode cL_law 511 = .ok (.aload_n 3, 1) := by decide +kernel
theorem dL_law_512 : decode cL_law 512 = .ok (.invokestatic 148, 3) := by decide +kernel
theorem dL_law_515 : decode cL_law 515 = .ok (.istore 5, 2) := by decide +kernel
theorem dL_law_517 : decode cL_law 517 = .ok (.aload_n 2, 1) := by decide +kernel
theorem dL_law_518 : decode cL_law 518 = .ok (.aload_n 0, 1) := by decide +kernel
theorem dL_law_519 : decode cL_law 519 = .ok (.iload 4, 2) := by decide +kernel
theorem dL_law_521 : decode cL_law 521 = .ok (.iconst 1, 1) := by decide +kernel
theorem dL_law_522 : decode cL_law 522 = .ok (.iadd, 1) := by decide +kernel
theorem dL_law_523 : decode cL_law 523 = .ok (.iaload, 1) := by decide +kernel
theorem dL_law_524 : decode cL_law 524 = .ok (.aload_n 0, 1) := by decide +kernel
theorem dL_law_525 : decode cL_law 525 = .ok (.iload 4, 2) := by decide +kernel
theorem dL_law_527 : decode cL_law 527 = .ok (.iconst 2, 1) := by decide +kernel
theorem dL_law_528 : decode cL_law 528 = .ok (.iadd, 1) := by decide +kernel
theorem dL_law_529 : decode cL_law 529 = .ok (.iaload, 1) := by decide +kernel
theorem dL_law_530 : decode cL_law 530 = .ok (.invokevirtual 150, 3) := by decide +kernel
theorem dL_law_533 : decode cL_law 533 = .ok (.istore 6, 2) := by decide +kernel
theorem dL_law_535 : decode cL_law 535 = .ok (.aload_n 2, 1) := by decide +kernel
theorem dL_law_536 : decode cL_law 536 = .ok (.invokevirtual 133, 3) := by decide +kernel
theorem dL_law_539 : decode cL_law 539 = .ok (.iload 5, 2) := by decide +kernel
theorem dL_law_541 : decode cL_law 541 = .ok (.if_icmp .eq 5, 3) := by decide +kernel
theorem dL_law_544 : decode cL_law 544 = .ok (.iconst 0, 1) := by decide +kernel
theorem dL_law_545 : decode cL_law 545 = .ok (.ireturn, 1) := by decide +kernel
theorem dL_law_546 : decode cL_law 546 = .ok (.iload 5, 2) := by decide +kernel
theorem dL_law_548 : decode cL_law 548 = .ok (.ifCond .ne 15, 3) := by decide +kernel
theorem dL_law_551 : decode cL_law 551 = .ok (.aload_n 3, 1) := by decide +kernel
theorem dL_law_552 : decode cL_law 552 = .ok (.iconst 0, 1) := by decide +kernel
theorem dL_law_553 : decode cL_law 553 = .ok (.laload, 1) := by decide +kernel
theorem dL_law_554 : decode cL_law 554 = .ok (.iload 6, 2) := by decide +kernel
theorem dL_law_556 : decode cL_law 556 = .ok (.i2l, 1) := by decide +kernel
theorem dL_law_557 : decode cL_law 557 = .ok (.lcmp, 1) := by decide +kernel
theorem dL_law_558 : decode cL_law 558 = .ok (.ifCond .eq 5, 3) := by decide +kernel
theorem dL_law_561 : decode cL_law 561 = .ok (.iconst 0, 1) := by decide +kernel
theorem dL_law_562 : decode cL_law 562 = .ok (.ireturn, 1) := by decide +kernel
theorem dL_law_563 : decode cL_law 563 = .ok (.goto 2042, 3) := by decide +kernel
theorem dL_law_566 : decode cL_law 566 = .ok (.aload_n 1, 1) := by decide +kernel
theorem dL_law_567 : decode cL_law 567 = .ok (.invokevirtual 151, 3) := by decide +kernel
theorem dL_law_570 : decode cL_law 570 = .ok (.aload_n 2, 1) := by decide +kernel
theorem dL_law_571 : decode cL_law 571 = .ok (.invokevirtual 154, 3) := by decide +kernel
theorem dL_law_574 : decode cL_law 574 = .ok (.if_icmp .eq 2031, 3) := by decide +kernel
theorem dL_law_577 : decode cL_law 577 = .ok (.iconst 0, 1) := by decide +kernel
theorem dL_law_578 : decode cL_law 578 = .ok (.ireturn, 1) := by decide +kernel
theorem dL_law_579 : decode cL_law 579 = .ok (.aload_n 1, 1) := by decide +kernel
theorem dL_law_580 : decode cL_law 580 = .ok (.aload_n 0, 1) := by decide +kernel
theorem dL_law_581 : decode cL_law 581 = .ok (.iload 4, 2) := by decide +kernel
theorem dL_law_583 : decode cL_law 583 = .ok (.iconst 1, 1) := by decide +kernel
theorem dL_law_584 : decode cL_law 584 = .ok (.iadd, 1) := by decide +kernel
theorem dL_law_585 : decode cL_law 585 = .ok (.iaload, 1) := by decide +kernel
theorem dL_law_586 : decode cL_law 586 = .ok (.aload_n 0, 1) := by decide +kernel
theorem dL_law_587 : decode cL_law 587 = .ok (.iload 4, 2) := by decide +kernel
theorem dL_law_589 : decode cL_law 589 = .ok (.iconst 2, 1) := by decide +kernel
theorem dL_law_590 : decode cL_law 590 = .ok (.iadd, 1) := by decide +kernel
theorem dL_law_591 : decode cL_law 591 = .ok (.iaload, 1) := by decide +kernel
theorem dL_law_592 : decode cL_law 592 = .ok (.aload_n 3, 1) := by decide +kernel
theorem dL_law_593 : decode cL_law 593 = .ok (.invokestatic 155, 3) := by decide +kernel
theorem dL_law_596 : decode cL_law 596 = .ok (.istore 5, 2) := by decide +kernel
theorem dL_law_598 : decode cL_law 598 = .ok (.aload_n 2, 1) := by decide +kernel
theorem dL_law_599 : decode cL_law 599 = .ok (.aload_n 0, 1) := by decide +kernel
theorem dL_law_600 : decode cL_law 600 = .ok (.iload 4, 2) := by decide +kernel
theorem dL_law_602 : decode cL_law 602 = .ok (.iconst 1, 1) := by decide +kernel
theorem dL_law_603 : decode cL_law 603 = .ok (.iadd, 1) := by decide +kernel
theorem dL_law_604 : decode cL_law 604 = .ok (.iaload, 1) := by decide +kernel
theorem dL_law_605 : decode cL_law 605 = .ok (.aload_n 0, 1) := by decide +kernel
theorem dL_law_606 : decode cL_law 606 = .ok (.iload 4, 2) := by decide +kernel
theorem dL_law_608 : decode cL_law 608 = .ok (.iconst 2, 1) := by decide +kernel
theorem dL_law_609 : decode cL_law 609 = .ok (.iadd, 1) := by decide +kernel
theorem dL_law_610 : decode cL_law 610 = .ok (.iaload, 1) := by decide +kernel
theorem dL_law_611 : decode cL_law 611 = .ok (.invokevirtual 157, 3) := by decide +kernel
theorem dL_law_614 : decode cL_law 614 = .ok (.istore 6, 2) := by decide +kernel
theorem dL_law_616 : decode cL_law 616 = .ok (.aload_n 2, 1) := by decide +kernel
theorem dL_law_617 : decode cL_law 617 = .ok (.invokevirtual 133, 3) := by decide +kernel
theorem dL_law_620 : decode cL_law 620 = .ok (.iload 5, 2) := by decide +kernel
theorem dL_law_622 : decode cL_law 622 = .ok (.if_icmp .eq 5, 3) := by decide +kernel
theorem dL_law_625 : decode cL_law 625 = .ok (.iconst 0, 1) := by decide +kernel
theorem dL_law_626 : decode cL_law 626 = .ok (.ireturn, 1) := by decide +kernel
theorem dL_law_627 : decode cL_law 627 = .ok (.iload 5, 2) := by decide +kernel
theorem dL_law_629 : decode cL_law 629 = .ok (.ifCond .ne 15, 3) := by decide +kernel
theorem dL_law_632 : decode cL_law 632 = .ok (.aload_n 3, 1) := by decide +kernel
theorem dL_law_633 : decode cL_law 633 = .ok (.iconst 0, 1) := by decide +kernel
theorem dL_law_634 : decode cL_law 634 = .ok (.laload, 1) := by decide +kernel
theorem dL_law_635 : decode cL_law 635 = .ok (.iload 6, 2) := by decide +kernel
theorem dL_law_637 : decode cL_law 637 = .ok (.i2l, 1) := by decide +kernel
theorem dL_law_638 : decode cL_law 638 = .ok (.lcmp, 1) := by decide +kernel
theorem dL_law_639 : decode cL_law 639 = .ok (.ifCond .eq 5, 3) := by decide +kernel
theorem dL_law_642 : decode cL_law 642 = .ok (.iconst 0, 1) := by decide +kernel
theorem dL_law_643 : decode cL_law 643 = .ok (.ireturn, 1) := by decide +kernel
theorem dL_law_644 : decode cL_law 644 = .ok (.goto 1961, 3) := by decide +kernel
theorem dL_law_647 : decode cL_law 647 = .ok (.aload_n 1, 1) := by decide +kernel
theorem dL_law_648 : decode cL_law 648 = .ok (.aload_n 0, 1) := by decide +kernel
theorem dL_law_649 : decode cL_law 649 = .ok (.iload 4, 2) := by decide +kernel
theorem dL_law_651 : decode cL_law 651 = .ok (.iconst 1, 1) := by decide +kernel
theorem dL_law_652 : decode cL_law 652 = .ok (.iadd, 1) := by decide +kernel
theorem dL_law_653 : decode cL_law 653 = .ok (.iaload, 1) := by decide +kernel
theorem dL_law_654 : decode cL_law 654 = .ok (.aload_n 3, 1) := by decide +kernel
theorem dL_law_655 : decode cL_law 655 = .ok (.invokestatic 158, 3) := by decide +kernel
theorem dL_law_658 : decode cL_law 658 = .ok (.istore 5, 2) := by decide +kernel
theorem dL_law_660 : decode cL_law 660 = .ok (.aload_n 2, 1) := by decide +kernel
theorem dL_law_661 : decode cL_law 661 = .ok (.aload_n 0, 1) := by decide +kernel
theorem dL_law_662 : decode cL_law 662 = .ok (.iload 4, 2) := by decide +kernel
theorem dL_law_664 : decode cL_law 664 = .ok (.iconst 1, 1) := by decide +kernel
theorem dL_law_665 : decode cL_law 665 = .ok (.iadd, 1) := by decide +kernel
theorem dL_law_666 : decode cL_law 666 = .ok (.iaload, 1) := by decide +kernel
theorem dL_law_667 : decode cL_law 667 = .ok (.invokevirtual 160, 3) := by decide +kernel
theorem dL_law_670 : decode cL_law 670 = .ok (.istore 6, 2) := by decide +kernel
theorem dL_law_672 : decode cL_law 672 = .ok (.aload_n 2, 1) := by decide +kernel
theorem dL_law_673 : decode cL_law 673 = .ok (.invokevirtual 133, 3) := by decide +kernel
theorem dL_law_676 : decode cL_law 676 = .ok (.iload 5, 2) := by decide +kernel
theorem dL_law_678 : decode cL_law 678 = .ok (.if_icmp .eq 5, 3) := by decide +kernel
theorem dL_law_681 : decode cL_law 681 = .ok (.iconst 0, 1) := by decide +kernel
theorem dL_law_682 : decode cL_law 682 = .ok (.ireturn, 1) := by decide +kernel
theorem dL_law_683 : decode cL_law 683 = .ok (.iload 5, 2) := by decide +kernel
theorem dL_law_685 : decode cL_law 685 = .ok (.ifCond .ne 15, 3) := by decide +kernel
theorem dL_law_688 : decode cL_law 688 = .ok (.aload_n 3, 1) := by decide +kernel
theorem dL_law_689 : decode cL_law 689 = .ok (.iconst 0, 1) := by decide +kernel
theorem dL_law_690 : decode cL_law 690 = .ok (.laload, 1) := by decide +kernel
theorem dL_law_691 : decode cL_law 691 = .ok (.iload 6, 2) := by decide +kernel
theorem dL_law_693 : decode cL_law 693 = .ok (.i2l, 1) := by decide +kernel
theorem dL_law_694 : decode cL_law 694 = .ok (.lcmp, 1) := by decide +kernel
theorem dL_law_695 : decode cL_law 695 = .ok (.ifCond .eq 5, 3) := by decide +kernel
theorem dL_law_698 : decode cL_law 698 = .ok (.iconst 0, 1) := by decide +kernel
theorem dL_law_699 : decode cL_law 699 = .ok (.ireturn, 1) := by decide +kernel
theorem dL_law_700 : decode cL_law 700 = .ok (.goto 1905, 3) := by decide +kernel
theorem dL_law_703 : decode cL_law 703 = .ok (.aload_n 1, 1) := by decide +kernel
theorem dL_law_704 : decode cL_law 704 = .ok (.invokevirtual 161, 3) := by decide +kernel
theorem dL_law_707 : decode cL_law 707 = .ok (.aload_n 2, 1) := by decide +kernel
theorem dL_law_708 : decode cL_law 708 = .ok (.invokevirtual 164, 3) := by decide +kernel
theorem dL_law_711 : decode cL_law 711 = .ok (.if_icmp .eq 1894, 3) := by decide +kernel
theorem dL_law_714 : decode cL_law 714 = .ok (.iconst 0, 1) := by decide +kernel
theorem dL_law_715 : decode cL_law 715 = .ok (.ireturn, 1) := by decide +kernel
theorem dL_law_716 : decode cL_law 716 = .ok (.aload_n 1, 1) := by decide +kernel
theorem dL_law_717 : decode cL_law 717 = .ok (.aload_n 0, 1) := by decide +kernel
theorem dL_law_718 : decode cL_law 718 = .ok (.iload 4, 2) := by decide +kernel
theorem dL_law_720 : decode cL_law 720 = .ok (.iconst 1, 1) := by decide +kernel
theorem dL_law_721 : decode cL_law 721 = .ok (.iadd, 1) := by decide +kernel
theorem dL_law_722 : decode cL_law 722 = .ok (.iaload, 1) := by decide +kernel
theorem dL_law_723 : decode cL_law 723 = .ok (.aload_n 0, 1) := by decide +kernel
theorem dL_law_724 : decode cL_law 724 = .ok (.iload 4, 2) := by decide +kernel
theorem dL_law_726 : decode cL_law 726 = .ok (.iconst 2, 1) := by decide +kernel
theorem dL_law_727 : decode cL_law 727 = .ok (.iadd, 1) := by decide +kernel
theorem dL_law_728 : decode cL_law 728 = .ok (.iaload, 1) := by decide +kernel
theorem dL_law_729 : decode cL_law 729 = .ok (.aload_n 0, 1) := by decide +kernel
theorem dL_law_730 : decode cL_law 730 = .ok (.iload 4, 2) := by decide +kernel
theorem dL_law_732 : decode cL_law 732 = .ok (.iconst 3, 1) := by decide +kernel
theorem dL_law_733 : decode cL_law 733 = .ok (.iadd, 1) := by decide +kernel
theorem dL_law_734 : decode cL_law 734 = .ok (.iaload, 1) := by decide +kernel
theorem dL_law_735 : decode cL_law 735 = .ok (.aload_n 3, 1) := by decide +kernel
theorem dL_law_736 : decode cL_law 736 = .ok (.invokestatic 165, 3) := by decide +kernel
theorem dL_law_739 : decode cL_law 739 = .ok (.istore 5, 2) := by decide +kernel
theorem dL_law_741 : decode cL_law 741 = .ok (.aload_n 2, 1) := by decide +kernel
theorem dL_law_742 : decode cL_law 742 = .ok (.aload_n 0, 1) := by decide +kernel
theorem dL_law_743 : decode cL_law 743 = .ok (.iload 4, 2) := by decide +kernel
theorem dL_law_745 : decode cL_law 745 = .ok (.iconst 1, 1) := by decide +kernel
theorem dL_law_746 : decode cL_law 746 = .ok (.iadd, 1) := by decide +kernel
theorem dL_law_747 : decode cL_law 747 = .ok (.iaload, 1) := by decide +kernel
theorem dL_law_748 : decode cL_law 748 = .ok (.aload_n 0, 1) := by decide +kernel
theorem dL_law_749 : decode cL_law 749 = .ok (.iload 4, 2) := by decide +kernel
theorem dL_law_751 : decode cL_law 751 = .ok (.iconst 2, 1) := by decide +kernel
theorem dL_law_752 : decode cL_law 752 = .ok (.iadd, 1) := by decide +kernel
theorem dL_law_753 : decode cL_law 753 = .ok (.iaload, 1) := by decide +kernel
theorem dL_law_754 : decode cL_law 754 = .ok (.aload_n 0, 1) := by decide +kernel
theorem dL_law_755 : decode cL_law 755 = .ok (.iload 4, 2) := by decide +kernel
theorem dL_law_757 : decode cL_law 757 = .ok (.iconst 3, 1) := by decide +kernel
theorem dL_law_758 : decode cL_law 758 = .ok (.iadd, 1) := by decide +kernel
theorem dL_law_759 : decode cL_law 759 = .ok (.iaload, 1) := by decide +kernel
theorem dL_law_760 : decode cL_law 760 = .ok (.invokevirtual 168, 3) := by decide +kernel
theorem dL_law_763 : decode cL_law 763 = .ok (.istore 6, 2) := by decide +kernel
theorem dL_law_765 : decode cL_law 765 = .ok (.aload_n 2, 1) := by decide +kernel
theorem dL_law_766 : decode cL_law 766 = .ok (.invokevirtual 133, 3) := by decide +kernel
theorem dL_law_769 : decode cL_law 769 = .ok (.iload 5, 2) := by decide +kernel
theorem dL_law_771 : decode cL_law 771 = .ok (.if_icmp .eq 5, 3) := by decide +kernel
theorem dL_law_774 : decode cL_law 774 = .ok (.iconst 0, 1) := by decide +kernel
theorem dL_law_775 : decode cL_law 775 = .ok (.ireturn, 1) := by decide +kernel
theorem dL_law_776 : decode cL_law 776 = .ok (.iload 5, 2) := by decide +kernel
theorem dL_law_778 : decode cL_law 778 = .ok (.ifCond .ne 15, 3) := by decide +kernel
theorem dL_law_781 : decode cL_law 781 = .ok (.aload_n 3, 1) := by decide +kernel
theorem dL_law_782 : decode cL_law 782 = .ok (.iconst 0, 1) := by decide +kernel
theorem dL_law_783 : decode cL_law 783 = .ok (.laload, 1) := by decide +kernel
theorem dL_law_784 : decode cL_law 784 = .ok (.iload 6, 2) := by decide +kernel
theorem dL_law_786 : decode cL_law 786 = .ok (.i2l, 1) := by decide +kernel
theorem dL_law_787 : decode cL_law 787 = .ok (.lcmp, 1) := by decide +kernel
theorem dL_law_788 : decode cL_law 788 = .ok (.ifCond .eq 5, 3) := by decide +kernel
theorem dL_law_791 : decode cL_law 791 = .ok (.iconst 0, 1) := by decide +kernel
theorem dL_law_792 : decode cL_law 792 = .ok (.ireturn, 1) := by decide +kernel
theorem dL_law_793 : decode cL_law 793 = .ok (.goto 1812, 3) := by decide +kernel
theorem dL_law_796 : decode cL_law 796 = .ok (.aload_n 1, 1) := by decide +kernel
theorem dL_law_797 : decode cL_law 797 = .ok (.aload_n 0, 1) := by decide +kernel
theorem dL_law_798 : decode cL_law 798 = .ok (.iload 4, 2) := by decide +kernel
theorem dL_law_800 : decode cL_law 800 = .ok (.iconst 1, 1) := by decide +kernel
theorem dL_law_801 : decode cL_law 801 = .ok (.iadd, 1) := by decide +kernel
theorem dL_law_802 : decode cL_law 802 = .ok (.iaload, 1) := by decide +kernel
theorem dL_law_803 : decode cL_law 803 = .ok (.aload_n 0, 1) := by decide +kernel
theorem dL_law_804 : decode cL_law 804 = .ok (.iload 4, 2) := by decide +kernel
theorem dL_law_806 : decode cL_law 806 = .ok (.iconst 2, 1) := by decide +kernel
theorem dL_law_807 : decode cL_law 807 = .ok (.iadd, 1) := by decide +kernel
theorem dL_law_808 : decode cL_law 808 = .ok (.iaload, 1) := by decide +kernel
theorem dL_law_809 : decode cL_law 809 = .ok (.aload_n 3, 1) := by decide +kernel
theorem dL_law_810 : decode cL_law 810 = .ok (.invokestatic 169, 3) := by decide +kernel
theorem dL_law_813 : decode cL_law 813 = .ok (.istore 5, 2) := by decide +kernel
theorem dL_law_815 : decode cL_law 815 = .ok (.aload_n 2, 1) := by decide +kernel
theorem dL_law_816 : decode cL_law 816 = .ok (.aload_n 0, 1) := by decide +kernel
theorem dL_law_817 : decode cL_law 817 = .ok (.iload 4, 2) := by decide +kernel
theorem dL_law_819 : decode cL_law 819 = .ok (.iconst 1, 1) := by decide +kernel
theorem dL_law_820 : decode cL_law 820 = .ok (.iadd, 1) := by decide +kernel
theorem dL_law_821 : decode cL_law 821 = .ok (.iaload, 1) := by decide +kernel
theorem dL_law_822 : decode cL_law 822 = .ok (.aload_n 0, 1) := by decide +kernel
theorem dL_law_823 : decode cL_law 823 = .ok (.iload 4, 2) := by decide +kernel
theorem dL_law_825 : decode cL_law 825 = .ok (.iconst 2, 1) := by decide +kernel
theorem dL_law_826 : decode cL_law 826 = .ok (.iadd, 1) := by decide +kernel
theorem dL_law_827 : decode cL_law 827 = .ok (.iaload, 1) := by decide +kernel
theorem dL_law_828 : decode cL_law 828 = .ok (.invokevirtual 171, 3) := by decide +kernel
theorem dL_law_831 : decode cL_law 831 = .ok (.istore 6, 2) := by decide +kernel
theorem dL_law_833 : decode cL_law 833 = .ok (.aload_n 2, 1) := by decide +kernel
theorem dL_law_834 : decode cL_law 834 = .ok (.invokevirtual 133, 3) := by decide +kernel
theorem dL_law_837 : decode cL_law 837 = .ok (.iload 5, 2) := by decide +kernel
theorem dL_law_839 : decode cL_law 839 = .ok (.if_icmp .eq 5, 3) := by decide +kernel
theorem dL_law_842 : decode cL_law 842 = .ok (.iconst 0, 1) := by decide +kernel
theorem dL_law_843 : decode cL_law 843 = .ok (.ireturn, 1) := by decide +kernel
theorem dL_law_844 : decode cL_law 844 = .ok (.iload 5, 2) := by decide +kernel
theorem dL_law_846 : decode cL_law 846 = .ok (.ifCond .ne 15, 3) := by decide +kernel
theorem dL_law_849 : decode cL_law 849 = .ok (.aload_n 3, 1) := by decide +kernel
theorem dL_law_850 : decode cL_law 850 = .ok (.iconst 0, 1) := by decide +kernel
theorem dL_law_851 : decode cL_law 851 = .ok (.laload, 1) := by decide +kernel
theorem dL_law_852 : decode cL_law 852 = .ok (.iload 6, 2) := by decide +kernel
theorem dL_law_854 : decode cL_law 854 = .ok (.i2l, 1) := by decide +kernel
theorem dL_law_855 : decode cL_law 855 = .ok (.lcmp, 1) := by decide +kernel
theorem dL_law_856 : decode cL_law 856 = .ok (.ifCond .eq 5, 3) := by decide +kernel
theorem dL_law_859 : decode cL_law 859 = .ok (.iconst 0, 1) := by decide +kernel
theorem dL_law_860 : decode cL_law 860 = .ok (.ireturn, 1) := by decide +kernel
theorem dL_law_861 : decode cL_law 861 = .ok (.goto 1744, 3) := by decide +kernel
theorem dL_law_864 : decode cL_law 864 = .ok (.aload_n 1, 1) := by decide +kernel
theorem dL_law_865 : decode cL_law 865 = .ok (.aload_n 0, 1) := by decide +kernel
theorem dL_law_866 : decode cL_law 866 = .ok (.iload 4, 2) := by decide +kernel
theorem dL_law_868 : decode cL_law 868 = .ok (.iconst 1, 1) := by decide +kernel
theorem dL_law_869 : decode cL_law 869 = .ok (.iadd, 1) := by decide +kernel
theorem dL_law_870 : decode cL_law 870 = .ok (.iaload, 1) := by decide +kernel
theorem dL_law_871 : decode cL_law 871 = .ok (.aload_n 0, 1) := by decide +kernel
theorem dL_law_872 : decode cL_law 872 = .ok (.iload 4, 2) := by decide +kernel
theorem dL_law_874 : decode cL_law 874 = .ok (.iconst 2, 1) := by decide +kernel
theorem dL_law_875 : decode cL_law 875 = .ok (.iadd, 1) := by decide +kernel
theorem dL_law_876 : decode cL_law 876 = .ok (.iaload, 1) := by decide +kernel
theorem dL_law_877 : decode cL_law 877 = .ok (.aload_n 3, 1) := by decide +kernel
theorem dL_law_878 : decode cL_law 878 = .ok (.invokestatic 172, 3) := by decide +kernel
theorem dL_law_881 : decode cL_law 881 = .ok (.istore 5, 2) := by decide +kernel
theorem dL_law_883 : decode cL_law 883 = .ok (.aload_n 2, 1) := by decide +kernel
theorem dL_law_884 : decode cL_law 884 = .ok (.aload_n 0, 1) := by decide +kernel
theorem dL_law_885 : decode cL_law 885 = .ok (.iload 4, 2) := by decide +kernel
theorem dL_law_887 : decode cL_law 887 = .ok (.iconst 1, 1) := by decide +kernel
theorem dL_law_888 : decode cL_law 888 = .ok (.iadd, 1) := by decide +kernel
theorem dL_law_889 : decode cL_law 889 = .ok (.iaload, 1) := by decide +kernel
theorem dL_law_890 : decode cL_law 890 = .ok (.aload_n 0, 1) := by decide +kernel
theorem dL_law_891 : decode cL_law 891 = .ok (.iload 4, 2) := by decide +kernel
theorem dL_law_893 : decode cL_law 893 = .ok (.iconst 2, 1) := by decide +kernel
theorem dL_law_894 : decode cL_law 894 = .ok (.iadd, 1) := by decide +kernel
theorem dL_law_895 : decode cL_law 895 = .ok (.iaload, 1) := by decide +kernel
theorem dL_law_896 : decode cL_law 896 = .ok (.invokevirtual 174, 3) := by decide +kernel
theorem dL_law_899 : decode cL_law 899 = .ok (.istore 6, 2) := by decide +kernel
theorem dL_law_901 : decode cL_law 901 = .ok (.aload_n 2, 1) := by decide +kernel
theorem dL_law_902 : decode cL_law 902 = .ok (.invokevirtual 133, 3) := by decide +kernel
theorem dL_law_905 : decode cL_law 905 = .ok (.iload 5, 2) := by decide +kernel
theorem dL_law_907 : decode cL_law 907 = .ok (.if_icmp .eq 5, 3) := by decide +kernel
theorem dL_law_910 : decode cL_law 910 = .ok (.iconst 0, 1) := by decide +kernel
theorem dL_law_911 : decode cL_law 911 = .ok (.ireturn, 1) := by decide +kernel
theorem dL_law_912 : decode cL_law 912 = .ok (.iload 5, 2) := by decide +kernel
theorem dL_law_914 : decode cL_law 914 = .ok (.ifCond .ne 15, 3) := by decide +kernel
theorem dL_law_917 : decode cL_law 917 = .ok (.aload_n 3, 1) := by decide +kernel
theorem dL_law_918 : decode cL_law 918 = .ok (.iconst 0, 1) := by decide +kernel
theorem dL_law_919 : decode cL_law 919 = .ok (.laload, 1) := by decide +kernel
theorem dL_law_920 : decode cL_law 920 = .ok (.iload 6, 2) := by decide +kernel
theorem dL_law_922 : decode cL_law 922 = .ok (.i2l, 1) := by decide +kernel
theorem dL_law_923 : decode cL_law 923 = .ok (.lcmp, 1) := by decide +kernel
theorem dL_law_924 : decode cL_law 924 = .ok (.ifCond .eq 5, 3) := by decide +kernel
theorem dL_law_927 : decode cL_law 927 = .ok (.iconst 0, 1) := by decide +kernel
theorem dL_law_928 : decode cL_law 928 = .ok (.ireturn, 1) := by decide +kernel
theorem dL_law_929 : decode cL_law 929 = .ok (.goto 1676, 3) := by decide +kernel
theorem dL_law_932 : decode cL_law 932 = .ok (.aload_n 1, 1) := by decide +kernel
theorem dL_law_933 : decode cL_law 933 = .ok (.aload_n 0, 1) := by decide +kernel
theorem dL_law_934 : decode cL_law 934 = .ok (.iload 4, 2) := by decide +kernel
theorem dL_law_936 : decode cL_law 936 = .ok (.iconst 1, 1) := by decide +kernel
theorem dL_law_937 : decode cL_law 937 = .ok (.iadd, 1) := by decide +kernel
theorem dL_law_938 : decode cL_law 938 = .ok (.iaload, 1) := by decide +kernel
theorem dL_law_939 : decode cL_law 939 = .ok (.aload_n 0, 1) := by decide +kernel
theorem dL_law_940 : decode cL_law 940 = .ok (.iload 4, 2) := by decide +kernel
theorem dL_law_942 : decode cL_law 942 = .ok (.iconst 2, 1) := by decide +kernel
theorem dL_law_943 : decode cL_law 943 = .ok (.iadd, 1) := by decide +kernel
theorem dL_law_944 : decode cL_law 944 = .ok (.iaload, 1) := by decide +kernel
theorem dL_law_945 : decode cL_law 945 = .ok (.aload_n 3, 1) := by decide +kernel
theorem dL_law_946 : decode cL_law 946 = .ok (.invokestatic 175, 3) := by decide +kernel
theorem dL_law_949 : decode cL_law 949 = .ok (.istore 5, 2) := by decide +kernel
theorem dL_law_951 : decode cL_law 951 = .ok (.aload_n 2, 1) := by decide +kernel
theorem dL_law_952 : decode cL_law 952 = .ok (.aload_n 0, 1) := by decide +kernel
theorem dL_law_953 : decode cL_law 953 = .ok (.iload 4, 2) := by decide +kernel
theorem dL_law_955 : decode cL_law 955 = .ok (.iconst 1, 1) := by decide +kernel
theorem dL_law_956 : decode cL_law 956 = .ok (.iadd, 1) := by decide +kernel
theorem dL_law_957 : decode cL_law 957 = .ok (.iaload, 1) := by decide +kernel
theorem dL_law_958 : decode cL_law 958 = .ok (.aload_n 0, 1) := by decide +kernel
theorem dL_law_959 : decode cL_law 959 = .ok (.iload 4, 2) := by decide +kernel
theorem dL_law_961 : decode cL_law 961 = .ok (.iconst 2, 1) := by decide +kernel
theorem dL_law_962 : decode cL_law 962 = .ok (.iadd, 1) := by decide +kernel
theorem dL_law_963 : decode cL_law 963 = .ok (.iaload, 1) := by decide +kernel
theorem dL_law_964 : decode cL_law 964 = .ok (.invokevirtual 177, 3) := by decide +kernel
theorem dL_law_967 : decode cL_law 967 = .ok (.istore 6, 2) := by decide +kernel
theorem dL_law_969 : decode cL_law 969 = .ok (.aload_n 2, 1) := by decide +kernel
theorem dL_law_970 : decode cL_law 970 = .ok (.invokevirtual 133, 3) := by decide +kernel
theorem dL_law_973 : decode cL_law 973 = .ok (.iload 5, 2) := by decide +kernel
theorem dL_law_975 : decode cL_law 975 = .ok (.if_icmp .eq 5, 3) := by decide +kernel
theorem dL_law_978 : decode cL_law 978 = .ok (.iconst 0, 1) := by decide +kernel
theorem dL_law_979 : decode cL_law 979 = .ok (.ireturn, 1) := by decide +kernel
theorem dL_law_980 : decode cL_law 980 = .ok (.iload 5, 2) := by decide +kernel
theorem dL_law_982 : decode cL_law 982 = .ok (.ifCond .ne 22, 3) := by decide +kernel
theorem dL_law_985 : decode cL_law 985 = .ok (.aload_n 3, 1) := by decide +kernel
theorem dL_law_986 : decode cL_law 986 = .ok (.iconst 0, 1) := by decide +kernel
theorem dL_law_987 : decode cL_law 987 = .ok (.laload, 1) := by decide +kernel
theorem dL_law_988 : decode cL_law 988 = .ok (.iload 6, 2) := by decide +kernel
theorem dL_law_990 : decode cL_law 990 = .ok (.ifCond .eq 7, 3) := by decide +kernel
theorem dL_law_993 : decode cL_law 993 = .ok (.lconst 1, 1) := by decide +kernel
theorem dL_law_994 : decode cL_law 994 = .ok (.goto 4, 3) := by decide +kernel
theorem dL_law_997 : decode cL_law 997 = .ok (.lconst 0, 1) := by decide +kernel
theorem dL_law_998 : decode cL_law 998 = .ok (.lcmp, 1) := by decide +kernel
theorem dL_law_999 : decode cL_law 999 = .ok (.ifCond .eq 5, 3) := by decide +kernel
theorem dL_law_1002 : decode cL_law 1002 = .ok (.iconst 0, 1) := by decide +kernel
theorem dL_law_1003 : decode cL_law 1003 = .ok (.ireturn, 1) := by decide +kernel
theorem dL_law_1004 : decode cL_law 1004 = .ok (.goto 1601, 3) := by decide +kernel
theorem dL_law_1007 : decode cL_law 1007 = .ok (.aload_n 1, 1) := by decide +kernel
theorem dL_law_1008 : decode cL_law 1008 = .ok (.aload_n 0, 1) := by decide +kernel
theorem dL_law_1009 : decode cL_law 1009 = .ok (.iload 4, 2) := by decide +kernel
theorem dL_law_1011 : decode cL_law 1011 = .ok (.iconst 1, 1) := by decide +kernel
theorem dL_law_1012 : decode cL_law 1012 = .ok (.iadd, 1) := by decide +kernel
theorem dL_law_1013 : decode cL_law 1013 = .ok (.iaload, 1) := by decide +kernel
theorem dL_law_1014 : decode cL_law 1014 = .ok (.aload_n 0, 1) := by decide +kernel
theorem dL_law_1015 : decode cL_law 1015 = .ok (.iload 4, 2) := by decide +kernel
theorem dL_law_1017 : decode cL_law 1017 = .ok (.iconst 2, 1) := by decide +kernel
theorem dL_law_1018 : decode cL_law 1018 = .ok (.iadd, 1) := by decide +kernel
theorem dL_law_1019 : decode cL_law 1019 = .ok (.iaload, 1) := by decide +kernel
theorem dL_law_1020 : decode cL_law 1020 = .ok (.aload_n 3, 1) := by decide +kernel
theorem dL_law_1021 : decode cL_law 1021 = .ok (.invokestatic 178, 3) := by decide +kernel
theorem dL_law_1024 : decode cL_law 1024 = .ok (.istore 5, 2) := by decide +kernel
theorem dL_law_1026 : decode cL_law 1026 = .ok (.aload_n 2, 1) := by decide +kernel
theorem dL_law_1027 : decode cL_law 1027 = .ok (.aload_n 0, 1) := by decide +kernel
theorem dL_law_1028 : decode cL_law 1028 = .ok (.iload 4, 2) := by decide +kernel
theorem dL_law_1030 : decode cL_law 1030 = .ok (.iconst 1, 1) := by decide +kernel
theorem dL_law_1031 : decode cL_law 1031 = .ok (.iadd, 1) := by decide +kernel
theorem dL_law_1032 : decode cL_law 1032 = .ok (.iaload, 1) := by decide +kernel
theorem dL_law_1033 : decode cL_law 1033 = .ok (.aload_n 0, 1) := by decide +kernel
theorem dL_law_1034 : decode cL_law 1034 = .ok (.iload 4, 2) := by decide +kernel
theorem dL_law_1036 : decode cL_law 1036 = .ok (.iconst 2, 1) := by decide +kernel
theorem dL_law_1037 : decode cL_law 1037 = .ok (.iadd, 1) := by decide +kernel
theorem dL_law_1038 : decode cL_law 1038 = .ok (.iaload, 1) := by decide +kernel
theorem dL_law_1039 : decode cL_law 1039 = .ok (.invokevirtual 180, 3) := by decide +kernel
theorem dL_law_1042 : decode cL_law 1042 = .ok (.istore 6, 2) := by decide +kernel
theorem dL_law_1044 : decode cL_law 1044 = .ok (.aload_n 2, 1) := by decide +kernel
theorem dL_law_1045 : decode cL_law 1045 = .ok (.invokevirtual 133, 3) := by decide +kernel
theorem dL_law_1048 : decode cL_law 1048 = .ok (.iload 5, 2) := by decide +kernel
theorem dL_law_1050 : decode cL_law 1050 = .ok (.if_icmp .eq 5, 3) := by decide +kernel
theorem dL_law_1053 : decode cL_law 1053 = .ok (.iconst 0, 1) := by decide +kernel
theorem dL_law_1054 : decode cL_law 1054 = .ok (.ireturn, 1) := by decide +kernel
theorem dL_law_1055 : decode cL_law 1055 = .ok (.iload 5, 2) := by decide +kernel
theorem dL_law_1057 : decode cL_law 1057 = .ok (.ifCond .ne 15, 3) := by decide +kernel
theorem dL_law_1060 : decode cL_law 1060 = .ok (.aload_n 3, 1) := by decide +kernel
theorem dL_law_1061 : decode cL_law 1061 = .ok (.iconst 0, 1) := by decide +kernel
theorem dL_law_1062 : decode cL_law 1062 = .ok (.laload, 1) := by decide +kernel
theorem dL_law_1063 : decode cL_law 1063 = .ok (.iload 6, 2) := by decide +kernel
theorem dL_law_1065 : decode cL_law 1065 = .ok (.i2l, 1) := by decide +kernel
theorem dL_law_1066 : decode cL_law 1066 = .ok (.lcmp, 1) := by decide +kernel
theorem dL_law_1067 : decode cL_law 1067 = .ok (.ifCond .eq 5, 3) := by decide +kernel
theorem dL_law_1070 : decode cL_law 1070 = .ok (.iconst 0, 1) := by decide +kernel
theorem dL_law_1071 : decode cL_law 1071 = .ok (.ireturn, 1) := by decide +kernel
theorem dL_law_1072 : decode cL_law 1072 = .ok (.goto 1533, 3) := by decide +kernel
theorem dL_law_1075 : decode cL_law 1075 = .ok (.aload_n 1, 1) := by decide +kernel
theorem dL_law_1076 : decode cL_law 1076 = .ok (.aload_n 0, 1) := by decide +kernel
theorem dL_law_1077 : decode cL_law 1077 = .ok (.iload 4, 2) := by decide +kernel
theorem dL_law_1079 : decode cL_law 1079 = .ok (.iconst 1, 1) := by decide +kernel
theorem dL_law_1080 : decode cL_law 1080 = .ok (.iadd, 1) := by decide +kernel
theorem dL_law_1081 : decode cL_law 1081 = .ok (.iaload, 1) := by decide +kernel
theorem dL_law_1082 : decode cL_law 1082 = .ok (.aload_n 0, 1) := by decide +kernel
theorem dL_law_1083 : decode cL_law 1083 = .ok (.iload 4, 2) := by decide +kernel
theorem dL_law_1085 : decode cL_law 1085 = .ok (.iconst 2, 1) := by decide +kernel
theorem dL_law_1086 : decode cL_law 1086 = .ok (.iadd, 1) := by decide +kernel
theorem dL_law_1087 : decode cL_law 1087 = .ok (.iaload, 1) := by decide +kernel
theorem dL_law_1088 : decode cL_law 1088 = .ok (.aload_n 3, 1) := by decide +kernel
theorem dL_law_1089 : decode cL_law 1089 = .ok (.invokestatic 181, 3) := by decide +kernel
theorem dL_law_1092 : decode cL_law 1092 = .ok (.istore 5, 2) := by decide +kernel
theorem dL_law_1094 : decode cL_law 1094 = .ok (.aload_n 2, 1) := by decide +kernel
theorem dL_law_1095 : decode cL_law 1095 = .ok (.aload_n 0, 1) := by decide +kernel
theorem dL_law_1096 : decode cL_law 1096 = .ok (.iload 4, 2) := by decide +kernel
theorem dL_law_1098 : decode cL_law 1098 = .ok (.iconst 1, 1) := by decide +kernel
theorem dL_law_1099 : decode cL_law 1099 = .ok (.iadd, 1) := by decide +kernel
theorem dL_law_1100 : decode cL_law 1100 = .ok (.iaload, 1) := by decide +kernel
theorem dL_law_1101 : decode cL_law 1101 = .ok (.aload_n 0, 1) := by decide +kernel
theorem dL_law_1102 : decode cL_law 1102 = .ok (.iload 4, 2) := by decide +kernel
theorem dL_law_1104 : decode cL_law 1104 = .ok (.iconst 2, 1) := by decide +kernel
theorem dL_law_1105 : decode cL_law 1105 = .ok (.iadd, 1) := by decide +kernel
theorem dL_law_1106 : decode cL_law 1106 = .ok (.iaload, 1) := by decide +kernel
theorem dL_law_1107 : decode cL_law 1107 = .ok (.invokevirtual 183, 3) := by decide +kernel
theorem dL_law_1110 : decode cL_law 1110 = .ok (.istore 6, 2) := by decide +kernel
theorem dL_law_1112 : decode cL_law 1112 = .ok (.aload_n 2, 1) := by decide +kernel
theorem dL_law_1113 : decode cL_law 1113 = .ok (.invokevirtual 133, 3) := by decide +kernel
theorem dL_law_1116 : decode cL_law 1116 = .ok (.iload 5, 2) := by decide +kernel
theorem dL_law_1118 : decode cL_law 1118 = .ok (.if_icmp .eq 5, 3) := by decide +kernel
theorem dL_law_1121 : decode cL_law 1121 = .ok (.iconst 0, 1) := by decide +kernel
theorem dL_law_1122 : decode cL_law 1122 = .ok (.ireturn, 1) := by decide +kernel
theorem dL_law_1123 : decode cL_law 1123 = .ok (.iload 5, 2) := by decide +kernel
theorem dL_law_1125 : decode cL_law 1125 = .ok (.ifCond .ne 15, 3) := by decide +kernel
theorem dL_law_1128 : decode cL_law 1128 = .ok (.aload_n 3, 1) := by decide +kernel
theorem dL_law_1129 : decode cL_law 1129 = .ok (.iconst 0, 1) := by decide +kernel
theorem dL_law_1130 : decode cL_law 1130 = .ok (.laload, 1) := by decide +kernel
theorem dL_law_1131 : decode cL_law 1131 = .ok (.iload 6, 2) := by decide +kernel
theorem dL_law_1133 : decode cL_law 1133 = .ok (.i2l, 1) := by decide +kernel
theorem dL_law_1134 : decode cL_law 1134 = .ok (.lcmp, 1) := by decide +kernel
theorem dL_law_1135 : decode cL_law 1135 = .ok (.ifCond .eq 5, 3) := by decide +kernel
theorem dL_law_1138 : decode cL_law 1138 = .ok (.iconst 0, 1) := by decide +kernel
theorem dL_law_1139 : decode cL_law 1139 = .ok (.ireturn, 1) := by decide +kernel
theorem dL_law_1140 : decode cL_law 1140 = .ok (.goto 1465, 3) := by decide +kernel
theorem dL_law_1143 : decode cL_law 1143 = .ok (.aload_n 1, 1) := by decide +kernel
theorem dL_law_1144 : decode cL_law 1144 = .ok (.aload_n 0, 1) := by decide +kernel
theorem dL_law_1145 : decode cL_law 1145 = .ok (.iload 4, 2) := by decide +kernel
theorem dL_law_1147 : decode cL_law 1147 = .ok (.iconst 1, 1) := by decide +kernel
theorem dL_law_1148 : decode cL_law 1148 = .ok (.iadd, 1) := by decide +kernel
theorem dL_law_1149 : decode cL_law 1149 = .ok (.iaload, 1) := by decide +kernel
theorem dL_law_1150 : decode cL_law 1150 = .ok (.aload_n 3, 1) := by decide +kernel
theorem dL_law_1151 : decode cL_law 1151 = .ok (.invokestatic 184, 3) := by decide +kernel
theorem dL_law_1154 : decode cL_law 1154 = .ok (.istore 5, 2) := by decide +kernel
theorem dL_law_1156 : decode cL_law 1156 = .ok (.aload_n 2, 1) := by decide +kernel
theorem dL_law_1157 : decode cL_law 1157 = .ok (.aload_n 0, 1) := by decide +kernel
theorem dL_law_1158 : decode cL_law 1158 = .ok (.iload 4, 2) := by decide +kernel
theorem dL_law_1160 : decode cL_law 1160 = .ok (.iconst 1, 1) := by decide +kernel
theorem dL_law_1161 : decode cL_law 1161 = .ok (.iadd, 1) := by decide +kernel
theorem dL_law_1162 : decode cL_law 1162 = .ok (.iaload, 1) := by decide +kernel
theorem dL_law_1163 : decode cL_law 1163 = .ok (.invokevirtual 186, 3) := by decide +kernel
theorem dL_law_1166 : decode cL_law 1166 = .ok (.istore 6, 2) := by decide +kernel
theorem dL_law_1168 : decode cL_law 1168 = .ok (.aload_n 2, 1) := by decide +kernel
theorem dL_law_1169 : decode cL_law 1169 = .ok (.invokevirtual 133, 3) := by decide +kernel
theorem dL_law_1172 : decode cL_law 1172 = .ok (.iload 5, 2) := by decide +kernel
theorem dL_law_1174 : decode cL_law 1174 = .ok (.if_icmp .eq 5, 3) := by decide +kernel
theorem dL_law_1177 : decode cL_law 1177 = .ok (.iconst 0, 1) := by decide +kernel
theorem dL_law_1178 : decode cL_law 1178 = .ok (.ireturn, 1) := by decide +kernel
theorem dL_law_1179 : decode cL_law 1179 = .ok (.iload 5, 2) := by decide +kernel
theorem dL_law_1181 : decode cL_law 1181 = .ok (.ifCond .ne 15, 3) := by decide +kernel
theorem dL_law_1184 : decode cL_law 1184 = .ok (.aload_n 3, 1) := by decide +kernel
theorem dL_law_1185 : decode cL_law 1185 = .ok (.iconst 0, 1) := by decide +kernel
theorem dL_law_1186 : decode cL_law 1186 = .ok (.laload, 1) := by decide +kernel
theorem dL_law_1187 : decode cL_law 1187 = .ok (.iload 6, 2) := by decide +kernel
theorem dL_law_1189 : decode cL_law 1189 = .ok (.i2l, 1) := by decide +kernel
theorem dL_law_1190 : decode cL_law 1190 = .ok (.lcmp, 1) := by decide +kernel
theorem dL_law_1191 : decode cL_law 1191 = .ok (.ifCond .eq 5, 3) := by decide +kernel
theorem dL_law_1194 : decode cL_law 1194 = .ok (.iconst 0, 1) := by decide +kernel
theorem dL_law_1195 : decode cL_law 1195 = .ok (.ireturn, 1) := by decide +kernel
theorem dL_law_1196 : decode cL_law 1196 = .ok (.goto 1409, 3) := by decide +kernel
theorem dL_law_1199 : decode cL_law 1199 = .ok (.aload_n 1, 1) := by decide +kernel
theorem dL_law_1200 : decode cL_law 1200 = .ok (.invokevirtual 187, 3) := by decide +kernel
theorem dL_law_1203 : decode cL_law 1203 = .ok (.aload_n 2, 1) := by decide +kernel
theorem dL_law_1204 : decode cL_law 1204 = .ok (.invokevirtual 190, 3) := by decide +kernel
theorem dL_law_1207 : decode cL_law 1207 = .ok (.if_icmp .eq 1398, 3) := by decide +kernel
theorem dL_law_1210 : decode cL_law 1210 = .ok (.iconst 0, 1) := by decide +kernel
theorem dL_law_1211 : decode cL_law 1211 = .ok (.ireturn, 1) := by decide +kernel
theorem dL_law_1212 : decode cL_law 1212 = .ok (.aload_n 1, 1) := by decide +kernel
theorem dL_law_1213 : decode cL_law 1213 = .ok (.aload_n 0, 1) := by decide +kernel
theorem dL_law_1214 : decode cL_law 1214 = .ok (.iload 4, 2) := by decide +kernel
theorem dL_law_1216 : decode cL_law 1216 = .ok (.iconst 1, 1) := by decide +kernel
theorem dL_law_1217 : decode cL_law 1217 = .ok (.iadd, 1) := by decide +kernel
theorem dL_law_1218 : decode cL_law 1218 = .ok (.iaload, 1) := by decide +kernel
theorem dL_law_1219 : decode cL_law 1219 = .ok (.aload_n 0, 1) := by decide +kernel
theorem dL_law_1220 : decode cL_law 1220 = .ok (.iload 4, 2) := by decide +kernel
theorem dL_law_1222 : decode cL_law 1222 = .ok (.iconst 2, 1) := by decide +kernel
theorem dL_law_1223 : decode cL_law 1223 = .ok (.iadd, 1) := by decide +kernel
theorem dL_law_1224 : decode cL_law 1224 = .ok (.iaload, 1) := by decide +kernel
theorem dL_law_1225 : decode cL_law 1225 = .ok (.aload_n 3, 1) := by decide +kernel
theorem dL_law_1226 : decode cL_law 1226 = .ok (.invokestatic 191, 3) := by decide +kernel
theorem dL_law_1229 : decode cL_law 1229 = .ok (.istore 5, 2) := by decide +kernel
theorem dL_law_1231 : decode cL_law 1231 = .ok (.aload_n 2, 1) := by decide +kernel
theorem dL_law_1232 : decode cL_law 1232 = .ok (.aload_n 0, 1) := by decide +kernel
theorem dL_law_1233 : decode cL_law 1233 = .ok (.iload 4, 2) := by decide +kernel
theorem dL_law_1235 : decode cL_law 1235 = .ok (.iconst 1, 1) := by decide +kernel
theorem dL_law_1236 : decode cL_law 1236 = .ok (.iadd, 1) := by decide +kernel
theorem dL_law_1237 : decode cL_law 1237 = .ok (.iaload, 1) := by decide +kernel
theorem dL_law_1238 : decode cL_law 1238 = .ok (.aload_n 0, 1) := by decide +kernel
theorem dL_law_1239 : decode cL_law 1239 = .ok (.iload 4, 2) := by decide +kernel
theorem dL_law_1241 : decode cL_law 1241 = .ok (.iconst 2, 1) := by decide +kernel
theorem dL_law_1242 : decode cL_law 1242 = .ok (.iadd, 1) := by decide +kernel
theorem dL_law_1243 : decode cL_law 1243 = .ok (.iaload, 1) := by decide +kernel
theorem dL_law_1244 : decode cL_law 1244 = .ok (.invokevirtual 193, 3) := by decide +kernel
theorem dL_law_1247 : decode cL_law 1247 = .ok (.istore 6, 2) := by decide +kernel
theorem dL_law_1249 : decode cL_law 1249 = .ok (.aload_n 2, 1) := by decide +kernel
theorem dL_law_1250 : decode cL_law 1250 = .ok (.invokevirtual 133, 3) := by decide +kernel
theorem dL_law_1253 : decode cL_law 1253 = .ok (.iload 5, 2) := by decide +kernel
theorem dL_law_1255 : decode cL_law 1255 = .ok (.if_icmp .eq 5, 3) := by decide +kernel
theorem dL_law_1258 : decode cL_law 1258 = .ok (.iconst 0, 1) := by decide +kernel
theorem dL_law_1259 : decode cL_law 1259 = .ok (.ireturn, 1) := by decide +kernel
theorem dL_law_1260 : decode cL_law 1260 = .ok (.iload 5, 2) := by decide +kernel
theorem dL_law_1262 : decode cL_law 1262 = .ok (.ifCond .ne 15, 3) := by decide +kernel
theorem dL_law_1265 : decode cL_law 1265 = .ok (.aload_n 3, 1) := by decide +kernel
theorem dL_law_1266 : decode cL_law 1266 = .ok (.iconst 0, 1) := by decide +kernel
theorem dL_law_1267 : decode cL_law 1267 = .ok (.laload, 1) := by decide +kernel
theorem dL_law_1268 : decode cL_law 1268 = .ok (.iload 6, 2) := by decide +kernel
theorem dL_law_1270 : decode cL_law 1270 = .ok (.i2l, 1) := by decide +kernel
theorem dL_law_1271 : decode cL_law 1271 = .ok (.lcmp, 1) := by decide +kernel
theorem dL_law_1272 : decode cL_law 1272 = .ok (.ifCond .eq 5, 3) := by decide +kernel
theorem dL_law_1275 : decode cL_law 1275 = .ok (.iconst 0, 1) := by decide +kernel
theorem dL_law_1276 : decode cL_law 1276 = .ok (.ireturn, 1) := by decide +kernel
theorem dL_law_1277 : decode cL_law 1277 = .ok (.goto 1328, 3) := by decide +kernel
theorem dL_law_1280 : decode cL_law 1280 = .ok (.aload_n 1, 1) := by decide +kernel
theorem dL_law_1281 : decode cL_law 1281 = .ok (.aload_n 0, 1) := by decide +kernel
theorem dL_law_1282 : decode cL_law 1282 = .ok (.iload 4, 2) := by decide +kernel
theorem dL_law_1284 : decode cL_law 1284 = .ok (.iconst 1, 1) := by decide +kernel
theorem dL_law_1285 : decode cL_law 1285 = .ok (.iadd, 1) := by decide +kernel
theorem dL_law_1286 : decode cL_law 1286 = .ok (.iaload, 1) := by decide +kernel
theorem dL_law_1287 : decode cL_law 1287 = .ok (.aload_n 0, 1) := by decide +kernel
theorem dL_law_1288 : decode cL_law 1288 = .ok (.iload 4, 2) := by decide +kernel
theorem dL_law_1290 : decode cL_law 1290 = .ok (.iconst 2, 1) := by decide +kernel
theorem dL_law_1291 : decode cL_law 1291 = .ok (.iadd, 1) := by decide +kernel
theorem dL_law_1292 : decode cL_law 1292 = .ok (.iaload, 1) := by decide +kernel
theorem dL_law_1293 : decode cL_law 1293 = .ok (.aload_n 3, 1) := by decide +kernel
theorem dL_law_1294 : decode cL_law 1294 = .ok (.invokestatic 194, 3) := by decide +kernel
theorem dL_law_1297 : decode cL_law 1297 = .ok (.istore 5, 2) := by decide +kernel
theorem dL_law_1299 : decode cL_law 1299 = .ok (.aload_n 2, 1) := by decide +kernel
theorem dL_law_1300 : decode cL_law 1300 = .ok (.aload_n 0, 1) := by decide +kernel
theorem dL_law_1301 : decode cL_law 1301 = .ok (.iload 4, 2) := by decide +kernel
theorem dL_law_1303 : decode cL_law 1303 = .ok (.iconst 1, 1) := by decide +kernel
theorem dL_law_1304 : decode cL_law 1304 = .ok (.iadd, 1) := by decide +kernel
theorem dL_law_1305 : decode cL_law 1305 = .ok (.iaload, 1) := by decide +kernel
theorem dL_law_1306 : decode cL_law 1306 = .ok (.aload_n 0, 1) := by decide +kernel
theorem dL_law_1307 : decode cL_law 1307 = .ok (.iload 4, 2) := by decide +kernel
theorem dL_law_1309 : decode cL_law 1309 = .ok (.iconst 2, 1) := by decide +kernel
theorem dL_law_1310 : decode cL_law 1310 = .ok (.iadd, 1) := by decide +kernel
theorem dL_law_1311 : decode cL_law 1311 = .ok (.iaload, 1) := by decide +kernel
theorem dL_law_1312 : decode cL_law 1312 = .ok (.invokevirtual 196, 3) := by decide +kernel
theorem dL_law_1315 : decode cL_law 1315 = .ok (.istore 6, 2) := by decide +kernel
theorem dL_law_1317 : decode cL_law 1317 = .ok (.aload_n 2, 1) := by decide +kernel
theorem dL_law_1318 : decode cL_law 1318 = .ok (.invokevirtual 133, 3) := by decide +kernel
theorem dL_law_1321 : decode cL_law 1321 = .ok (.iload 5, 2) := by decide +kernel
theorem dL_law_1323 : decode cL_law 1323 = .ok (.if_icmp .eq 5, 3) := by decide +kernel
theorem dL_law_1326 : decode cL_law 1326 = .ok (.iconst 0, 1) := by decide +kernel
theorem dL_law_1327 : decode cL_law 1327 = .ok (.ireturn, 1) := by decide +kernel
theorem dL_law_1328 : decode cL_law 1328 = .ok (.iload 5, 2) := by decide +kernel
theorem dL_law_1330 : decode cL_law 1330 = .ok (.ifCond .ne 15, 3) := by decide +kernel
theorem dL_law_1333 : decode cL_law 1333 = .ok (.aload_n 3, 1) := by decide +kernel
theorem dL_law_1334 : decode cL_law 1334 = .ok (.iconst 0, 1) := by decide +kernel
theorem dL_law_1335 : decode cL_law 1335 = .ok (.laload, 1) := by decide +kernel
theorem dL_law_1336 : decode cL_law 1336 = .ok (.iload 6, 2) := by decide +kernel
theorem dL_law_1338 : decode cL_law 1338 = .ok (.i2l, 1) := by decide +kernel
theorem dL_law_1339 : decode cL_law 1339 = .ok (.lcmp, 1) := by decide +kernel
theorem dL_law_1340 : decode cL_law 1340 = .ok (.ifCond .eq 5, 3) := by decide +kernel
theorem dL_law_1343 : decode cL_law 1343 = .ok (.iconst 0, 1) := by decide +kernel
theorem dL_law_1344 : decode cL_law 1344 = .ok (.ireturn, 1) := by decide +kernel
theorem dL_law_1345 : decode cL_law 1345 = .ok (.goto 1260, 3) := by decide +kernel
theorem dL_law_1348 : decode cL_law 1348 = .ok (.aload_n 1, 1) := by decide +kernel
theorem dL_law_1349 : decode cL_law 1349 = .ok (.aload_n 0, 1) := by decide +kernel
theorem dL_law_1350 : decode cL_law 1350 = .ok (.iload 4, 2) := by decide +kernel
theorem dL_law_1352 : decode cL_law 1352 = .ok (.iconst 1, 1) := by decide +kernel
theorem dL_law_1353 : decode cL_law 1353 = .ok (.iadd, 1) := by decide +kernel
theorem dL_law_1354 : decode cL_law 1354 = .ok (.iaload, 1) := by decide +kernel
theorem dL_law_1355 : decode cL_law 1355 = .ok (.aload_n 3, 1) := by decide +kernel
theorem dL_law_1356 : decode cL_law 1356 = .ok (.invokestatic 197, 3) := by decide +kernel
theorem dL_law_1359 : decode cL_law 1359 = .ok (.istore 5, 2) := by decide +kernel
theorem dL_law_1361 : decode cL_law 1361 = .ok (.aload_n 2, 1) := by decide +kernel
theorem dL_law_1362 : decode cL_law 1362 = .ok (.aload_n 0, 1) := by decide +kernel
theorem dL_law_1363 : decode cL_law 1363 = .ok (.iload 4, 2) := by decide +kernel
theorem dL_law_1365 : decode cL_law 1365 = .ok (.iconst 1, 1) := by decide +kernel
theorem dL_law_1366 : decode cL_law 1366 = .ok (.iadd, 1) := by decide +kernel
theorem dL_law_1367 : decode cL_law 1367 = .ok (.iaload, 1) := by decide +kernel
theorem dL_law_1368 : decode cL_law 1368 = .ok (.invokevirtual 199, 3) := by decide +kernel
theorem dL_law_1371 : decode cL_law 1371 = .ok (.istore 6, 2) := by decide +kernel
theorem dL_law_1373 : decode cL_law 1373 = .ok (.aload_n 2, 1) := by decide +kernel
theorem dL_law_1374 : decode cL_law 1374 = .ok (.invokevirtual 133, 3) := by decide +kernel
theorem dL_law_1377 : decode cL_law 1377 = .ok (.iload 5, 2) := by decide +kernel
theorem dL_law_1379 : decode cL_law 1379 = .ok (.if_icmp .eq 5, 3) := by decide +kernel
theorem dL_law_1382 : decode cL_law 1382 = .ok (.iconst 0, 1) := by decide +kernel
theorem dL_law_1383 : decode cL_law 1383 = .ok (.ireturn, 1) := by decide +kernel
theorem dL_law_1384 : decode cL_law 1384 = .ok (.iload 5, 2) := by decide +kernel
theorem dL_law_1386 : decode cL_law 1386 = .ok (.ifCond .ne 15, 3) := by decide +kernel
theorem dL_law_1389 : decode cL_law 1389 = .ok (.aload_n 3, 1) := by decide +kernel
theorem dL_law_1390 : decode cL_law 1390 = .ok (.iconst 0, 1) := by decide +kernel
theorem dL_law_1391 : decode cL_law 1391 = .ok (.laload, 1) := by decide +kernel
theorem dL_law_1392 : decode cL_law 1392 = .ok (.iload 6, 2) := by decide +kernel
theorem dL_law_1394 : decode cL_law 1394 = .ok (.i2l, 1) := by decide +kernel
theorem dL_law_1395 : decode cL_law 1395 = .ok (.lcmp, 1) := by decide +kernel
theorem dL_law_1396 : decode cL_law 1396 = .ok (.ifCond .eq 5, 3) := by decide +kernel
theorem dL_law_1399 : decode cL_law 1399 = .ok (.iconst 0, 1) := by decide +kernel
theorem dL_law_1400 : decode cL_law 1400 = .ok (.ireturn, 1) := by decide +kernel
theorem dL_law_1401 : decode cL_law 1401 = .ok (.goto 1204, 3) := by decide +kernel
theorem dL_law_1404 : decode cL_law 1404 = .ok (.aload_n 1, 1) := by decide +kernel
theorem dL_law_1405 : decode cL_law 1405 = .ok (.aload_n 0, 1) := by decide +kernel
theorem dL_law_1406 : decode cL_law 1406 = .ok (.iload 4, 2) := by decide +kernel
theorem dL_law_1408 : decode cL_law 1408 = .ok (.iconst 1, 1) := by decide +kernel
theorem dL_law_1409 : decode cL_law 1409 = .ok (.iadd, 1) := by decide +kernel
theorem dL_law_1410 : decode cL_law 1410 = .ok (.iaload, 1) := by decide +kernel
theorem dL_law_1411 : decode cL_law 1411 = .ok (.aload_n 3, 1) := by decide +kernel
theorem dL_law_1412 : decode cL_law 1412 = .ok (.invokestatic 200, 3) := by decide +kernel
theorem dL_law_1415 : decode cL_law 1415 = .ok (.istore 5, 2) := by decide +kernel
theorem dL_law_1417 : decode cL_law 1417 = .ok (.aload_n 2, 1) := by decide +kernel
theorem dL_law_1418 : decode cL_law 1418 = .ok (.aload_n 0, 1) := by decide +kernel
theorem dL_law_1419 : decode cL_law 1419 = .ok (.iload 4, 2) := by decide +kernel
theorem dL_law_1421 : decode cL_law 1421 = .ok (.iconst 1, 1) := by decide +kernel
theorem dL_law_1422 : decode cL_law 1422 = .ok (.iadd, 1) := by decide +kernel
theorem dL_law_1423 : decode cL_law 1423 = .ok (.iaload, 1) := by decide +kernel
theorem dL_law_1424 : decode cL_law 1424 = .ok (.invokevirtual 202, 3) := by decide +kernel
theorem dL_law_1427 : decode cL_law 1427 = .ok (.istore 6, 2) := by decide +kernel
theorem dL_law_1429 : decode cL_law 1429 = .ok (.aload_n 2, 1) := by decide +kernel
theorem dL_law_1430 : decode cL_law 1430 = .ok (.invokevirtual 133, 3) := by decide +kernel
theorem dL_law_1433 : decode cL_law 1433 = .ok (.iload 5, 2) := by decide +kernel
theorem dL_law_1435 : decode cL_law 1435 = .ok (.if_icmp .eq 5, 3) := by decide +kernel
theorem dL_law_1438 : decode cL_law 1438 = .ok (.iconst 0, 1) := by decide +kernel
theorem dL_law_1439 : decode cL_law 1439 = .ok (.ireturn, 1) := by decide +kernel
theorem dL_law_1440 : decode cL_law 1440 = .ok (.iload 5, 2) := by decide +kernel
theorem dL_law_1442 : decode cL_law 1442 = .ok (.ifCond .ne 15, 3) := by decide +kernel
theorem dL_law_1445 : decode cL_law 1445 = .ok (.aload_n 3, 1) := by decide +kernel
theorem dL_law_1446 : decode cL_law 1446 = .ok (.iconst 0, 1) := by decide +kernel
theorem dL_law_1447 : decode cL_law 1447 = .ok (.laload, 1) := by decide +kernel
theorem dL_law_1448 : decode cL_law 1448 = .ok (.iload 6, 2) := by decide +kernel
theorem dL_law_1450 : decode cL_law 1450 = .ok (.i2l, 1) := by decide +kernel
theorem dL_law_1451 : decode cL_law 1451 = .ok (.lcmp, 1) := by decide +kernel
theorem dL_law_1452 : decode cL_law 1452 = .ok (.ifCond .eq 5, 3) := by decide +kernel
theorem dL_law_1455 : decode cL_law 1455 = .ok (.iconst 0, 1) := by decide +kernel
theorem dL_law_1456 : decode cL_law 1456 = .ok (.ireturn, 1) := by decide +kernel
theorem dL_law_1457 : decode cL_law 1457 = .ok (.goto 1148, 3) := by decide +kernel
theorem dL_law_1460 : decode cL_law 1460 = .ok (.aload_n 1, 1) := by decide +kernel
theorem dL_law_1461 : decode cL_law 1461 = .ok (.aload_n 0, 1) := by decide +kernel
theorem dL_law_1462 : decode cL_law 1462 = .ok (.iload 4, 2) := by decide +kernel
theorem dL_law_1464 : decode cL_law 1464 = .ok (.iconst 1, 1) := by decide +kernel
theorem dL_law_1465 : decode cL_law 1465 = .ok (.iadd, 1) := by decide +kernel
theorem dL_law_1466 : decode cL_law 1466 = .ok (.iaload, 1) := by decide +kernel
theorem dL_law_1467 : decode cL_law 1467 = .ok (.aload_n 0, 1) := by decide +kernel
theorem dL_law_1468 : decode cL_law 1468 = .ok (.iload 4, 2) := by decide +kernel
theorem dL_law_1470 : decode cL_law 1470 = .ok (.iconst 2, 1) := by decide +kernel
theorem dL_law_1471 : decode cL_law 1471 = .ok (.iadd, 1) := by decide +kernel
theorem dL_law_1472 : decode cL_law 1472 = .ok (.iaload, 1) := by decide +kernel
theorem dL_law_1473 : decode cL_law 1473 = .ok (.aload_n 0, 1) := by decide +kernel
theorem dL_law_1474 : decode cL_law 1474 = .ok (.iload 4, 2) := by decide +kernel
theorem dL_law_1476 : decode cL_law 1476 = .ok (.iconst 3, 1) := by decide +kernel
theorem dL_law_1477 : decode cL_law 1477 = .ok (.iadd, 1) := by decide +kernel
theorem dL_law_1478 : decode cL_law 1478 = .ok (.iaload, 1) := by decide +kernel
theorem dL_law_1479 : decode cL_law 1479 = .ok (.aload_n 3, 1) := by decide +kernel
theorem dL_law_1480 : decode cL_law 1480 = .ok (.invokestatic 203, 3) := by decide +kernel
theorem dL_law_1483 : decode cL_law 1483 = .ok (.istore 5, 2) := by decide +kernel
theorem dL_law_1485 : decode cL_law 1485 = .ok (.aload_n 2, 1) := by decide +kernel
theorem dL_law_1486 : decode cL_law 1486 = .ok (.aload_n 0, 1) := by decide +kernel
theorem dL_law_1487 : decode cL_law 1487 = .ok (.iload 4, 2) := by decide +kernel
theorem dL_law_1489 : decode cL_law 1489 = .ok (.iconst 1, 1) := by decide +kernel
theorem dL_law_1490 : decode cL_law 1490 = .ok (.iadd, 1) := by decide +kernel
theorem dL_law_1491 : decode cL_law 1491 = .ok (.iaload, 1) := by decide +kernel
theorem dL_law_1492 : decode cL_law 1492 = .ok (.aload_n 0, 1) := by decide +kernel
theorem dL_law_1493 : decode cL_law 1493 = .ok (.iload 4, 2) := by decide +kernel
theorem dL_law_1495 : decode cL_law 1495 = .ok (.iconst 2, 1) := by decide +kernel
theorem dL_law_1496 : decode cL_law 1496 = .ok (.iadd, 1) := by decide +kernel
theorem dL_law_1497 : decode cL_law 1497 = .ok (.iaload, 1) := by decide +kernel
theorem dL_law_1498 : decode cL_law 1498 = .ok (.aload_n 0, 1) := by decide +kernel
theorem dL_law_1499 : decode cL_law 1499 = .ok (.iload 4, 2) := by decide +kernel
theorem dL_law_1501 : decode cL_law 1501 = .ok (.iconst 3, 1) := by decide +kernel
theorem dL_law_1502 : decode cL_law 1502 = .ok (.iadd, 1) := by decide +kernel
theorem dL_law_1503 : decode cL_law 1503 = .ok (.iaload, 1) := by decide +kernel
theorem dL_law_1504 : decode cL_law 1504 = .ok (.invokevirtual 205, 3) := by decide +kernel
theorem dL_law_1507 : decode cL_law 1507 = .ok (.istore 6, 2) := by decide +kernel
theorem dL_law_1509 : decode cL_law 1509 = .ok (.aload_n 2, 1) := by decide +kernel
theorem dL_law_1510 : decode cL_law 1510 = .ok (.invokevirtual 133, 3) := by decide +kernel
theorem dL_law_1513 : decode cL_law 1513 = .ok (.iload 5, 2) := by decide +kernel
theorem dL_law_1515 : decode cL_law 1515 = .ok (.if_icmp .eq 5, 3) := by decide +kernel
theorem dL_law_1518 : decode cL_law 1518 = .ok (.iconst 0, 1) := by decide +kernel
theorem dL_law_1519 : decode cL_law 1519 = .ok (.ireturn, 1) := by decide +kernel
theorem dL_law_1520 : decode cL_law 1520 = .ok (.iload 5, 2) := by decide +kernel
theorem dL_law_1522 : decode cL_law 1522 = .ok (.ifCond .ne 15, 3) := by decide +kernel
theorem dL_law_1525 : decode cL_law 1525 = .ok (.aload_n 3, 1) := by decide +kernel
theorem dL_law_1526 : decode cL_law 1526 = .ok (.iconst 0, 1) := by decide +kernel
theorem dL_law_1527 : decode cL_law 1527 = .ok (.laload, 1) := by decide +kernel
theorem dL_law_1528 : decode cL_law 1528 = .ok (.iload 6, 2) := by decide +kernel
theorem dL_law_1530 : decode cL_law 1530 = .ok (.i2l, 1) := by decide +kernel
theorem dL_law_1531 : decode cL_law 1531 = .ok (.lcmp, 1) := by decide +kernel
theorem dL_law_1532 : decode cL_law 1532 = .ok (.ifCond .eq 5, 3) := by decide +kernel
theorem dL_law_1535 : decode cL_law 1535 = .ok (.iconst 0, 1) := by decide +kernel
theorem dL_law_1536 : decode cL_law 1536 = .ok (.ireturn, 1) := by decide +kernel
theorem dL_law_1537 : decode cL_law 1537 = .ok (.goto 1068, 3) := by decide +kernel
theorem dL_law_1540 : decode cL_law 1540 = .ok (.aload_n 1, 1) := by decide +kernel
theorem dL_law_1541 : decode cL_law 1541 = .ok (.aload_n 0, 1) := by decide +kernel
theorem dL_law_1542 : decode cL_law 1542 = .ok (.iload 4, 2) := by decide +kernel
theorem dL_law_1544 : decode cL_law 1544 = .ok (.iconst 1, 1) := by decide +kernel
theorem dL_law_1545 : decode cL_law 1545 = .ok (.iadd, 1) := by decide +kernel
theorem dL_law_1546 : decode cL_law 1546 = .ok (.iaload, 1) := by decide +kernel
theorem dL_law_1547 : decode cL_law 1547 = .ok (.aload_n 0, 1) := by decide +kernel
theorem dL_law_1548 : decode cL_law 1548 = .ok (.iload 4, 2) := by decide +kernel
theorem dL_law_1550 : decode cL_law 1550 = .ok (.iconst 2, 1) := by decide +kernel
theorem dL_law_1551 : decode cL_law 1551 = .ok (.iadd, 1) := by decide +kernel
theorem dL_law_1552 : decode cL_law 1552 = .ok (.iaload, 1) := by decide +kernel
theorem dL_law_1553 : decode cL_law 1553 = .ok (.aload_n 0, 1) := by decide +kernel
theorem dL_law_1554 : decode cL_law 1554 = .ok (.iload 4, 2) := by decide +kernel
theorem dL_law_1556 : decode cL_law 1556 = .ok (.iconst 3, 1) := by decide +kernel
theorem dL_law_1557 : decode cL_law 1557 = .ok (.iadd, 1) := by decide +kernel
theorem dL_law_1558 : decode cL_law 1558 = .ok (.iaload, 1) := by decide +kernel
theorem dL_law_1559 : decode cL_law 1559 = .ok (.aload_n 0, 1) := by decide +kernel
theorem dL_law_1560 : decode cL_law 1560 = .ok (.iload 4, 2) := by decide +kernel
theorem dL_law_1562 : decode cL_law 1562 = .ok (.iconst 4, 1) := by decide +kernel
theorem dL_law_1563 : decode cL_law 1563 = .ok (.iadd, 1) := by decide +kernel
theorem dL_law_1564 : decode cL_law 1564 = .ok (.iaload, 1) := by decide +kernel
theorem dL_law_1565 : decode cL_law 1565 = .ok (.aload_n 3, 1) := by decide +kernel
theorem dL_law_1566 : decode cL_law 1566 = .ok (.invokestatic 206, 3) := by decide +kernel
theorem dL_law_1569 : decode cL_law 1569 = .ok (.istore 5, 2) := by decide +kernel
theorem dL_law_1571 : decode cL_law 1571 = .ok (.aload_n 2, 1) := by decide +kernel
theorem dL_law_1572 : decode cL_law 1572 = .ok (.aload_n 0, 1) := by decide +kernel
theorem dL_law_1573 : decode cL_law 1573 = .ok (.iload 4, 2) := by decide +kernel
theorem dL_law_1575 : decode cL_law 1575 = .ok (.iconst 1, 1) := by decide +kernel
theorem dL_law_1576 : decode cL_law 1576 = .ok (.iadd, 1) := by decide +kernel
theorem dL_law_1577 : decode cL_law 1577 = .ok (.iaload, 1) := by decide +kernel
theorem dL_law_1578 : decode cL_law 1578 = .ok (.aload_n 0, 1) := by decide +kernel
theorem dL_law_1579 : decode cL_law 1579 = .ok (.iload 4, 2) := by decide +kernel
theorem dL_law_1581 : decode cL_law 1581 = .ok (.iconst 2, 1) := by decide +kernel
theorem dL_law_1582 : decode cL_law 1582 = .ok (.iadd, 1) := by decide +kernel
theorem dL_law_1583 : decode cL_law 1583 = .ok (.iaload, 1) := by decide +kernel
theorem dL_law_1584 : decode cL_law 1584 = .ok (.aload_n 0, 1) := by decide +kernel
theorem dL_law_1585 : decode cL_law 1585 = .ok (.iload 4, 2) := by decide +kernel
theorem dL_law_1587 : decode cL_law 1587 = .ok (.iconst 3, 1) := by decide +kernel
theorem dL_law_1588 : decode cL_law 1588 = .ok (.iadd, 1) := by decide +kernel
theorem dL_law_1589 : decode cL_law 1589 = .ok (.iaload, 1) := by decide +kernel
theorem dL_law_1590 : decode cL_law 1590 = .ok (.aload_n 0, 1) := by decide +kernel
theorem dL_law_1591 : decode cL_law 1591 = .ok (.iload 4, 2) := by decide +kernel
theorem dL_law_1593 : decode cL_law 1593 = .ok (.iconst 4, 1) := by decide +kernel
theorem dL_law_1594 : decode cL_law 1594 = .ok (.iadd, 1) := by decide +kernel
theorem dL_law_1595 : decode cL_law 1595 = .ok (.iaload, 1) := by decide +kernel
theorem dL_law_1596 : decode cL_law 1596 = .ok (.invokevirtual 209, 3) := by decide +kernel
theorem dL_law_1599 : decode cL_law 1599 = .ok (.istore 6, 2) := by decide +kernel
theorem dL_law_1601 : decode cL_law 1601 = .ok (.aload_n 2, 1) := by decide +kernel
theorem dL_law_1602 : decode cL_law 1602 = .ok (.invokevirtual 133, 3) := by decide +kernel
theorem dL_law_1605 : decode cL_law 1605 = .ok (.iload 5, 2) := by decide +kernel
theorem dL_law_1607 : decode cL_law 1607 = .ok (.if_icmp .eq 5, 3) := by decide +kernel
theorem dL_law_1610 : decode cL_law 1610 = .ok (.iconst 0, 1) := by decide +kernel
theorem dL_law_1611 : decode cL_law 1611 = .ok (.ireturn, 1) := by decide +kernel
theorem dL_law_1612 : decode cL_law 1612 = .ok (.iload 5, 2) := by decide +kernel
theorem dL_law_1614 : decode cL_law 1614 = .ok (.ifCond .ne 15, 3) := by decide +kernel
theorem dL_law_1617 : decode cL_law 1617 = .ok (.aload_n 3, 1) := by decide +kernel
theorem dL_law_1618 : decode cL_law 1618 = .ok (.iconst 0, 1) := by decide +kernel
theorem dL_law_1619 : decode cL_law 1619 = .ok (.laload, 1) := by decide +kernel
theorem dL_law_1620 : decode cL_law 1620 = .ok (.iload 6, 2) := by decide +kernel
theorem dL_law_1622 : decode cL_law 1622 = .ok (.i2l, 1) := by decide +kernel
theorem dL_law_1623 : decode cL_law 1623 = .ok (.lcmp, 1) := by decide +kernel
theorem dL_law_1624 : decode cL_law 1624 = .ok (.ifCond .eq 5, 3) := by decide +kernel
theorem dL_law_1627 : decode cL_law 1627 = .ok (.iconst 0, 1) := by decide +kernel
theorem dL_law_1628 : decode cL_law 1628 = .ok (.ireturn, 1) := by decide +kernel
theorem dL_law_1629 : decode cL_law 1629 = .ok (.goto 976, 3) := by decide +kernel
theorem dL_law_1632 : decode cL_law 1632 = .ok (.aload_n 1, 1) := by decide +kernel
theorem dL_law_1633 : decode cL_law 1633 = .ok (.invokevirtual 210, 3) := by decide +kernel
theorem dL_law_1636 : decode cL_law 1636 = .ok (.aload_n 2, 1) := by decide +kernel
theorem dL_law_1637 : decode cL_law 1637 = .ok (.invokevirtual 213, 3) := by decide +kernel
theorem dL_law_1640 : decode cL_law 1640 = .ok (.if_icmp .eq 965, 3) := by decide +kernel
theorem dL_law_1643 : decode cL_law 1643 = .ok (.iconst 0, 1) := by decide +kernel
theorem dL_law_1644 : decode cL_law 1644 = .ok (.ireturn, 1) := by decide +kernel
theorem dL_law_1645 : decode cL_law 1645 = .ok (.aload_n 1, 1) := by decide +kernel
theorem dL_law_1646 : decode cL_law 1646 = .ok (.aload_n 0, 1) := by decide +kernel
theorem dL_law_1647 : decode cL_law 1647 = .ok (.iload 4, 2) := by decide +kernel
theorem dL_law_1649 : decode cL_law 1649 = .ok (.iconst 1, 1) := by decide +kernel
theorem dL_law_1650 : decode cL_law 1650 = .ok (.iadd, 1) := by decide +kernel
theorem dL_law_1651 : decode cL_law 1651 = .ok (.iaload, 1) := by decide +kernel
theorem dL_law_1652 : decode cL_law 1652 = .ok (.aload_n 3, 1) := by decide +kernel
theorem dL_law_1653 : decode cL_law 1653 = .ok (.invokestatic 214, 3) := by decide +kernel
theorem dL_law_1656 : decode cL_law 1656 = .ok (.istore 5, 2) := by decide +kernel
theorem dL_law_1658 : decode cL_law 1658 = .ok (.aload_n 2, 1) := by decide +kernel
theorem dL_law_1659 : decode cL_law 1659 = .ok (.aload_n 0, 1) := by decide +kernel
theorem dL_law_1660 : decode cL_law 1660 = .ok (.iload 4, 2) := by decide +kernel
theorem dL_law_1662 : decode cL_law 1662 = .ok (.iconst 1, 1) := by decide +kernel
theorem dL_law_1663 : decode cL_law 1663 = .ok (.iadd, 1) := by decide +kernel
theorem dL_law_1664 : decode cL_law 1664 = .ok (.iaload, 1) := by decide +kernel
theorem dL_law_1665 : decode cL_law 1665 = .ok (.invokevirtual 216, 3) := by decide +kernel
theorem dL_law_1668 : decode cL_law 1668 = .ok (.lstore 6, 2) := by decide +kernel
theorem dL_law_1670 : decode cL_law 1670 = .ok (.aload_n 2, 1) := by decide +kernel
theorem dL_law_1671 : decode cL_law 1671 = .ok (.invokevirtual 133, 3) := by decide +kernel
theorem dL_law_1674 : decode cL_law 1674 = .ok (.iload 5, 2) := by decide +kernel
theorem dL_law_1676 : decode cL_law 1676 = .ok (.if_icmp .eq 5, 3) := by decide +kernel
theorem dL_law_1679 : decode cL_law 1679 = .ok (.iconst 0, 1) := by decide +kernel
theorem dL_law_1680 : decode cL_law 1680 = .ok (.ireturn, 1) := by decide +kernel
theorem dL_law_1681 : decode cL_law 1681 = .ok (.iload 5, 2) := by decide +kernel
theorem dL_law_1683 : decode cL_law 1683 = .ok (.ifCond .ne 14, 3) := by decide +kernel
theorem dL_law_1686 : decode cL_law 1686 = .ok (.aload_n 3, 1) := by decide +kernel
theorem dL_law_1687 : decode cL_law 1687 = .ok (.iconst 0, 1) := by decide +kernel
theorem dL_law_1688 : decode cL_law 1688 = .ok (.laload, 1) := by decide +kernel
theorem dL_law_1689 : decode cL_law 1689 = .ok (.lload 6, 2) := by decide +kernel
theorem dL_law_1691 : decode cL_law 1691 = .ok (.lcmp, 1) := by decide +kernel
theorem dL_law_1692 : decode cL_law 1692 = .ok (.ifCond .eq 5, 3) := by decide +kernel
theorem dL_law_1695 : decode cL_law 1695 = .ok (.iconst 0, 1) := by decide +kernel
theorem dL_law_1696 : decode cL_law 1696 = .ok (.ireturn, 1) := by decide +kernel
theorem dL_law_1697 : decode cL_law 1697 = .ok (.goto 908, 3) := by decide +kernel
theorem dL_law_1700 : decode cL_law 1700 = .ok (.aload_n 1, 1) := by decide +kernel
theorem dL_law_1701 : decode cL_law 1701 = .ok (.aload_n 0, 1) := by decide +kernel
theorem dL_law_1702 : decode cL_law 1702 = .ok (.iload 4, 2) := by decide +kernel
theorem dL_law_1704 : decode cL_law 1704 = .ok (.iconst 1, 1) := by decide +kernel
theorem dL_law_1705 : decode cL_law 1705 = .ok (.iadd, 1) := by decide +kernel
theorem dL_law_1706 : decode cL_law 1706 = .ok (.iaload, 1) := by decide +kernel
theorem dL_law_1707 : decode cL_law 1707 = .ok (.aload_n 0, 1) := by decide +kernel
theorem dL_law_1708 : decode cL_law 1708 = .ok (.iload 4, 2) := by decide +kernel
theorem dL_law_1710 : decode cL_law 1710 = .ok (.iconst 2, 1) := by decide +kernel
theorem dL_law_1711 : decode cL_law 1711 = .ok (.iadd, 1) := by decide +kernel
theorem dL_law_1712 : decode cL_law 1712 = .ok (.iaload, 1) := by decide +kernel
theorem dL_law_1713 : decode cL_law 1713 = .ok (.aload_n 0, 1) := by decide +kernel
theorem dL_law_1714 : decode cL_law 1714 = .ok (.iload 4, 2) := by decide +kernel
theorem dL_law_1716 : decode cL_law 1716 = .ok (.iconst 3, 1) := by decide +kernel
theorem dL_law_1717 : decode cL_law 1717 = .ok (.iadd, 1) := by decide +kernel
theorem dL_law_1718 : decode cL_law 1718 = .ok (.iaload, 1) := by decide +kernel
theorem dL_law_1719 : decode cL_law 1719 = .ok (.aload_n 3, 1) := by decide +kernel
theorem dL_law_1720 : decode cL_law 1720 = .ok (.invokestatic 217, 3) := by decide +kernel
theorem dL_law_1723 : decode cL_law 1723 = .ok (.istore 5, 2) := by decide +kernel
theorem dL_law_1725 : decode cL_law 1725 = .ok (.aload_n 2, 1) := by decide +kernel
theorem dL_law_1726 : decode cL_law 1726 = .ok (.aload_n 0, 1) := by decide +kernel
theorem dL_law_1727 : decode cL_law 1727 = .ok (.iload 4, 2) := by decide +kernel
theorem dL_law_1729 : decode cL_law 1729 = .ok (.iconst 1, 1) := by decide +kernel
theorem dL_law_1730 : decode cL_law 1730 = .ok (.iadd, 1) := by decide +kernel
theorem dL_law_1731 : decode cL_law 1731 = .ok (.iaload, 1) := by decide +kernel
theorem dL_law_1732 : decode cL_law 1732 = .ok (.aload_n 0, 1) := by decide +kernel
theorem dL_law_1733 : decode cL_law 1733 = .ok (.iload 4, 2) := by decide +kernel
theorem dL_law_1735 : decode cL_law 1735 = .ok (.iconst 2, 1) := by decide +kernel
theorem dL_law_1736 : decode cL_law 1736 = .ok (.iadd, 1) := by decide +kernel
theorem dL_law_1737 : decode cL_law 1737 = .ok (.iaload, 1) := by decide +kernel
theorem dL_law_1738 : decode cL_law 1738 = .ok (.aload_n 0, 1) := by decide +kernel
theorem dL_law_1739 : decode cL_law 1739 = .ok (.iload 4, 2) := by decide +kernel
theorem dL_law_1741 : decode cL_law 1741 = .ok (.iconst 3, 1) := by decide +kernel
theorem dL_law_1742 : decode cL_law 1742 = .ok (.iadd, 1) := by decide +kernel
theorem dL_law_1743 : decode cL_law 1743 = .ok (.iaload, 1) := by decide +kernel
theorem dL_law_1744 : decode cL_law 1744 = .ok (.invokevirtual 219, 3) := by decide +kernel
theorem dL_law_1747 : decode cL_law 1747 = .ok (.lstore 6, 2) := by decide +kernel
theorem dL_law_1749 : decode cL_law 1749 = .ok (.aload_n 2, 1) := by decide +kernel
theorem dL_law_1750 : decode cL_law 1750 = .ok (.invokevirtual 133, 3) := by decide +kernel
theorem dL_law_1753 : decode cL_law 1753 = .ok (.iload 5, 2) := by decide +kernel
theorem dL_law_1755 : decode cL_law 1755 = .ok (.if_icmp .eq 5, 3) := by decide +kernel
theorem dL_law_1758 : decode cL_law 1758 = .ok (.iconst 0, 1) := by decide +kernel
theorem dL_law_1759 : decode cL_law 1759 = .ok (.ireturn, 1) := by decide +kernel
theorem dL_law_1760 : decode cL_law 1760 = .ok (.iload 5, 2) := by decide +kernel
theorem dL_law_1762 : decode cL_law 1762 = .ok (.ifCond .ne 14, 3) := by decide +kernel
theorem dL_law_1765 : decode cL_law 1765 = .ok (.aload_n 3, 1) := by decide +kernel
theorem dL_law_1766 : decode cL_law 1766 = .ok (.iconst 0, 1) := by decide +kernel
theorem dL_law_1767 : decode cL_law 1767 = .ok (.laload, 1) := by decide +kernel
theorem dL_law_1768 : decode cL_law 1768 = .ok (.lload 6, 2) := by decide +kernel
theorem dL_law_1770 : decode cL_law 1770 = .ok (.lcmp, 1) := by decide +kernel
theorem dL_law_1771 : decode cL_law 1771 = .ok (.ifCond .eq 5, 3) := by decide +kernel
theorem dL_law_1774 : decode cL_law 1774 = .ok (.iconst 0, 1) := by decide +kernel
theorem dL_law_1775 : decode cL_law 1775 = .ok (.ireturn, 1) := by decide +kernel
theorem dL_law_1776 : decode cL_law 1776 = .ok (.goto 829, 3) := by decide +kernel
theorem dL_law_1779 : decode cL_law 1779 = .ok (.aload_n 1, 1) := by decide +kernel
theorem dL_law_1780 : decode cL_law 1780 = .ok (.invokevirtual 220, 3) := by decide +kernel
theorem dL_law_1783 : decode cL_law 1783 = .ok (.aload_n 2, 1) := by decide +kernel
theorem dL_law_1784 : decode cL_law 1784 = .ok (.invokevirtual 223, 3) := by decide +kernel
theorem dL_law_1787 : decode cL_law 1787 = .ok (.if_icmp .eq 818, 3) := by decide +kernel
theorem dL_law_1790 : decode cL_law 1790 = .ok (.iconst 0, 1) := by decide +kernel
theorem dL_law_1791 : decode cL_law 1791 = .ok (.ireturn, 1) := by decide +kernel
theorem dL_law_1792 : decode cL_law 1792 = .ok (.aload_n 1, 1) := by decide +kernel
theorem dL_law_1793 : decode cL_law 1793 = .ok (.aload_n 0, 1) := by decide +kernel
theorem dL_law_1794 : decode cL_law 1794 = .ok (.iload 4, 2) := by decide +kernel
theorem dL_law_1796 : decode cL_law 1796 = .ok (.iconst 1, 1) := by decide +kernel
theorem dL_law_1797 : decode cL_law 1797 = .ok (.iadd, 1) := by decide +kernel
theorem dL_law_1798 : decode cL_law 1798 = .ok (.iaload, 1) := by decide +kernel
theorem dL_law_1799 : decode cL_law 1799 = .ok (.aload_n 3, 1) := by decide +kernel
theorem dL_law_1800 : decode cL_law 1800 = .ok (.invokestatic 224, 3) := by decide +kernel
theorem dL_law_1803 : decode cL_law 1803 = .ok (.istore 5, 2) := by decide +kernel
theorem dL_law_1805 : decode cL_law 1805 = .ok (.aload_n 2, 1) := by decide +kernel
theorem dL_law_1806 : decode cL_law 1806 = .ok (.aload_n 0, 1) := by decide +kernel
theorem dL_law_1807 : decode cL_law 1807 = .ok (.iload 4, 2) := by decide +kernel
theorem dL_law_1809 : decode cL_law 1809 = .ok (.iconst 1, 1) := by decide +kernel
theorem dL_law_1810 : decode cL_law 1810 = .ok (.iadd, 1) := by decide +kernel
theorem dL_law_1811 : decode cL_law 1811 = .ok (.iaload, 1) := by decide +kernel
theorem dL_law_1812 : decode cL_law 1812 = .ok (.invokevirtual 226, 3) := by decide +kernel
theorem dL_law_1815 : decode cL_law 1815 = .ok (.istore 6, 2) := by decide +kernel
theorem dL_law_1817 : decode cL_law 1817 = .ok (.aload_n 2, 1) := by decide +kernel
theorem dL_law_1818 : decode cL_law 1818 = .ok (.invokevirtual 133, 3) := by decide +kernel
theorem dL_law_1821 : decode cL_law 1821 = .ok (.iload 5, 2) := by decide +kernel
theorem dL_law_1823 : decode cL_law 1823 = .ok (.if_icmp .eq 5, 3) := by decide +kernel
theorem dL_law_1826 : decode cL_law 1826 = .ok (.iconst 0, 1) := by decide +kernel
theorem dL_law_1827 : decode cL_law 1827 = .ok (.ireturn, 1) := by decide +kernel
theorem dL_law_1828 : decode cL_law 1828 = .ok (.iload 5, 2) := by decide +kernel
theorem dL_law_1830 : decode cL_law 1830 = .ok (.ifCond .ne 15, 3) := by decide +kernel
theorem dL_law_1833 : decode cL_law 1833 = .ok (.aload_n 3, 1) := by decide +kernel
theorem dL_law_1834 : decode cL_law 1834 = .ok (.iconst 0, 1) := by decide +kernel
theorem dL_law_1835 : decode cL_law 1835 = .ok (.laload, 1) := by decide +kernel
theorem dL_law_1836 : decode cL_law 1836 = .ok (.iload 6, 2) := by decide +kernel
theorem dL_law_1838 : decode cL_law 1838 = .ok (.i2l, 1) := by decide +kernel
theorem dL_law_1839 : decode cL_law 1839 = .ok (.lcmp, 1) := by decide +kernel
theorem dL_law_1840 : decode cL_law 1840 = .ok (.ifCond .eq 5, 3) := by decide +kernel
theorem dL_law_1843 : decode cL_law 1843 = .ok (.iconst 0, 1) := by decide +kernel
theorem dL_law_1844 : decode cL_law 1844 = .ok (.ireturn, 1) := by decide +kernel
theorem dL_law_1845 : decode cL_law 1845 = .ok (.goto 760, 3) := by decide +kernel
theorem dL_law_1848 : decode cL_law 1848 = .ok (.aload_n 1, 1) := by decide +kernel
theorem dL_law_1849 : decode cL_law 1849 = .ok (.aload_n 0, 1) := by decide +kernel
theorem dL_law_1850 : decode cL_law 1850 = .ok (.iload 4, 2) := by decide +kernel
theorem dL_law_1852 : decode cL_law 1852 = .ok (.iconst 1, 1) := by decide +kernel
theorem dL_law_1853 : decode cL_law 1853 = .ok (.iadd, 1) := by decide +kernel
theorem dL_law_1854 : decode cL_law 1854 = .ok (.iaload, 1) := by decide +kernel
theorem dL_law_1855 : decode cL_law 1855 = .ok (.aload_n 0, 1) := by decide +kernel
theorem dL_law_1856 : decode cL_law 1856 = .ok (.iload 4, 2) := by decide +kernel
theorem dL_law_1858 : decode cL_law 1858 = .ok (.iconst 2, 1) := by decide +kernel
theorem dL_law_1859 : decode cL_law 1859 = .ok (.iadd, 1) := by decide +kernel
theorem dL_law_1860 : decode cL_law 1860 = .ok (.iaload, 1) := by decide +kernel
theorem dL_law_1861 : decode cL_law 1861 = .ok (.aload_n 3, 1) := by decide +kernel
theorem dL_law_1862 : decode cL_law 1862 = .ok (.invokestatic 227, 3) := by decide +kernel
theorem dL_law_1865 : decode cL_law 1865 = .ok (.istore 5, 2) := by decide +kernel
theorem dL_law_1867 : decode cL_law 1867 = .ok (.aload_n 2, 1) := by decide +kernel
theorem dL_law_1868 : decode cL_law 1868 = .ok (.aload_n 0, 1) := by decide +kernel
theorem dL_law_1869 : decode cL_law 1869 = .ok (.iload 4, 2) := by decide +kernel
theorem dL_law_1871 : decode cL_law 1871 = .ok (.iconst 1, 1) := by decide +kernel
theorem dL_law_1872 : decode cL_law 1872 = .ok (.iadd, 1) := by decide +kernel
theorem dL_law_1873 : decode cL_law 1873 = .ok (.iaload, 1) := by decide +kernel
theorem dL_law_1874 : decode cL_law 1874 = .ok (.aload_n 0, 1) := by decide +kernel
theorem dL_law_1875 : decode cL_law 1875 = .ok (.iload 4, 2) := by decide +kernel
theorem dL_law_1877 : decode cL_law 1877 = .ok (.iconst 2, 1) := by decide +kernel
theorem dL_law_1878 : decode cL_law 1878 = .ok (.iadd, 1) := by decide +kernel
theorem dL_law_1879 : decode cL_law 1879 = .ok (.iaload, 1) := by decide +kernel
theorem dL_law_1880 : decode cL_law 1880 = .ok (.invokevirtual 229, 3) := by decide +kernel
theorem dL_law_1883 : decode cL_law 1883 = .ok (.istore 6, 2) := by decide +kernel
theorem dL_law_1885 : decode cL_law 1885 = .ok (.aload_n 2, 1) := by decide +kernel
theorem dL_law_1886 : decode cL_law 1886 = .ok (.invokevirtual 133, 3) := by decide +kernel
theorem dL_law_1889 : decode cL_law 1889 = .ok (.iload 5, 2) := by decide +kernel
theorem dL_law_1891 : decode cL_law 1891 = .ok (.if_icmp .eq 5, 3) := by decide +kernel
theorem dL_law_1894 : decode cL_law 1894 = .ok (.iconst 0, 1) := by decide +kernel
theorem dL_law_1895 : decode cL_law 1895 = .ok (.ireturn, 1) := by decide +kernel
theorem dL_law_1896 : decode cL_law 1896 = .ok (.iload 5, 2) := by decide +kernel
theorem dL_law_1898 : decode cL_law 1898 = .ok (.ifCond .ne 15, 3) := by decide +kernel
theorem dL_law_1901 : decode cL_law 1901 = .ok (.aload_n 3, 1) := by decide +kernel
theorem dL_law_1902 : decode cL_law 1902 = .ok (.iconst 0, 1) := by decide +kernel
theorem dL_law_1903 : decode cL_law 1903 = .ok (.laload, 1) := by decide +kernel
theorem dL_law_1904 : decode cL_law 1904 = .ok (.iload 6, 2) := by decide +kernel
theorem dL_law_1906 : decode cL_law 1906 = .ok (.i2l, 1) := by decide +kernel
theorem dL_law_1907 : decode cL_law 1907 = .ok (.lcmp, 1) := by decide +kernel
theorem dL_law_1908 : decode cL_law 1908 = .ok (.ifCond .eq 5, 3) := by decide +kernel
theorem dL_law_1911 : decode cL_law 1911 = .ok (.iconst 0, 1) := by decide +kernel
theorem dL_law_1912 : decode cL_law 1912 = .ok (.ireturn, 1) := by decide +kernel
theorem dL_law_1913 : decode cL_law 1913 = .ok (.goto 692, 3) := by decide +kernel
theorem dL_law_1916 : decode cL_law 1916 = .ok (.aload_n 1, 1) := by decide +kernel
theorem dL_law_1917 : decode cL_law 1917 = .ok (.aload_n 0, 1) := by decide +kernel
theorem dL_law_1918 : decode cL_law 1918 = .ok (.iload 4, 2) := by decide +kernel
theorem dL_law_1920 : decode cL_law 1920 = .ok (.iconst 1, 1) := by decide +kernel
theorem dL_law_1921 : decode cL_law 1921 = .ok (.iadd, 1) := by decide +kernel
theorem dL_law_1922 : decode cL_law 1922 = .ok (.iaload, 1) := by decide +kernel
theorem dL_law_1923 : decode cL_law 1923 = .ok (.aload_n 3, 1) := by decide +kernel
theorem dL_law_1924 : decode cL_law 1924 = .ok (.invokestatic 230, 3) := by decide +kernel
theorem dL_law_1927 : decode cL_law 1927 = .ok (.istore 5, 2) := by decide +kernel
theorem dL_law_1929 : decode cL_law 1929 = .ok (.aload_n 2, 1) := by decide +kernel
theorem dL_law_1930 : decode cL_law 1930 = .ok (.aload_n 0, 1) := by decide +kernel
theorem dL_law_1931 : decode cL_law 1931 = .ok (.iload 4, 2) := by decide +kernel
theorem dL_law_1933 : decode cL_law 1933 = .ok (.iconst 1, 1) := by decide +kernel
theorem dL_law_1934 : decode cL_law 1934 = .ok (.iadd, 1) := by decide +kernel
theorem dL_law_1935 : decode cL_law 1935 = .ok (.iaload, 1) := by decide +kernel
theorem dL_law_1936 : decode cL_law 1936 = .ok (.invokevirtual 232, 3) := by decide +kernel
theorem dL_law_1939 : decode cL_law 1939 = .ok (.istore 6, 2) := by decide +kernel
theorem dL_law_1941 : decode cL_law 1941 = .ok (.aload_n 2, 1) := by decide +kernel
theorem dL_law_1942 : decode cL_law 1942 = .ok (.invokevirtual 133, 3) := by decide +kernel
theorem dL_law_1945 : decode cL_law 1945 = .ok (.iload 5, 2) := by decide +kernel
theorem dL_law_1947 : decode cL_law 1947 = .ok (.if_icmp .eq 5, 3) := by decide +kernel
theorem dL_law_1950 : decode cL_law 1950 = .ok (.iconst 0, 1) := by decide +kernel
theorem dL_law_1951 : decode cL_law 1951 = .ok (.ireturn, 1) := by decide +kernel
theorem dL_law_1952 : decode cL_law 1952 = .ok (.iload 5, 2) := by decide +kernel
theorem dL_law_1954 : decode cL_law 1954 = .ok (.ifCond .ne 15, 3) := by decide +kernel
theorem dL_law_1957 : decode cL_law 1957 = .ok (.aload_n 3, 1) := by decide +kernel
theorem dL_law_1958 : decode cL_law 1958 = .ok (.iconst 0, 1) := by decide +kernel
theorem dL_law_1959 : decode cL_law 1959 = .ok (.laload, 1) := by decide +kernel
theorem dL_law_1960 : decode cL_law 1960 = .ok (.iload 6, 2) := by decide +kernel
theorem dL_law_1962 : decode cL_law 1962 = .ok (.i2l, 1) := by decide +kernel
theorem dL_law_1963 : decode cL_law 1963 = .ok (.lcmp, 1) := by decide +kernel
theorem dL_law_1964 : decode cL_law 1964 = .ok (.ifCond .eq 5, 3) := by decide +kernel
theorem dL_law_1967 : decode cL_law 1967 = .ok (.iconst 0, 1) := by decide +kernel
theorem dL_law_1968 : decode cL_law 1968 = .ok (.ireturn, 1) := by decide +kernel
theorem dL_law_1969 : decode cL_law 1969 = .ok (.goto 636, 3) := by decide +kernel
theorem dL_law_1972 : decode cL_law 1972 = .ok (.aload_n 1, 1) := by decide +kernel
theorem dL_law_1973 : decode cL_law 1973 = .ok (.aload_n 0, 1) := by decide +kernel
theorem dL_law_1974 : decode cL_law 1974 = .ok (.iload 4, 2) := by decide +kernel
theorem dL_law_1976 : decode cL_law 1976 = .ok (.iconst 1, 1) := by decide +kernel
theorem dL_law_1977 : decode cL_law 1977 = .ok (.iadd, 1) := by decide +kernel
theorem dL_law_1978 : decode cL_law 1978 = .ok (.iaload, 1) := by decide +kernel
theorem dL_law_1979 : decode cL_law 1979 = .ok (.aload_n 0, 1) := by decide +kernel
theorem dL_law_1980 : decode cL_law 1980 = .ok (.iload 4, 2) := by decide +kernel
theorem dL_law_1982 : decode cL_law 1982 = .ok (.iconst 2, 1) := by decide +kernel
theorem dL_law_1983 : decode cL_law 1983 = .ok (.iadd, 1) := by decide +kernel
theorem dL_law_1984 : decode cL_law 1984 = .ok (.iaload, 1) := by decide +kernel
theorem dL_law_1985 : decode cL_law 1985 = .ok (.aload_n 3, 1) := by decide +kernel
theorem dL_law_1986 : decode cL_law 1986 = .ok (.invokestatic 233, 3) := by decide +kernel
theorem dL_law_1989 : decode cL_law 1989 = .ok (.istore 5, 2) := by decide +kernel
theorem dL_law_1991 : decode cL_law 1991 = .ok (.aload_n 2, 1) := by decide +kernel
theorem dL_law_1992 : decode cL_law 1992 = .ok (.aload_n 0, 1) := by decide +kernel
theorem dL_law_1993 : decode cL_law 1993 = .ok (.iload 4, 2) := by decide +kernel
theorem dL_law_1995 : decode cL_law 1995 = .ok (.iconst 1, 1) := by decide +kernel
theorem dL_law_1996 : decode cL_law 1996 = .ok (.iadd, 1) := by decide +kernel
theorem dL_law_1997 : decode cL_law 1997 = .ok (.iaload, 1) := by decide +kernel
theorem dL_law_1998 : decode cL_law 1998 = .ok (.aload_n 0, 1) := by decide +kernel
theorem dL_law_1999 : decode cL_law 1999 = .ok (.iload 4, 2) := by decide +kernel
theorem dL_law_2001 : decode cL_law 2001 = .ok (.iconst 2, 1) := by decide +kernel
theorem dL_law_2002 : decode cL_law 2002 = .ok (.iadd, 1) := by decide +kernel
theorem dL_law_2003 : decode cL_law 2003 = .ok (.iaload, 1) := by decide +kernel
theorem dL_law_2004 : decode cL_law 2004 = .ok (.invokevirtual 235, 3) := by decide +kernel
theorem dL_law_2007 : decode cL_law 2007 = .ok (.istore 6, 2) := by decide +kernel
theorem dL_law_2009 : decode cL_law 2009 = .ok (.aload_n 2, 1) := by decide +kernel
theorem dL_law_2010 : decode cL_law 2010 = .ok (.invokevirtual 133, 3) := by decide +kernel
theorem dL_law_2013 : decode cL_law 2013 = .ok (.iload 5, 2) := by decide +kernel
theorem dL_law_2015 : decode cL_law 2015 = .ok (.if_icmp .eq 5, 3) := by decide +kernel
theorem dL_law_2018 : decode cL_law 2018 = .ok (.iconst 0, 1) := by decide +kernel
theorem dL_law_2019 : decode cL_law 2019 = .ok (.ireturn, 1) := by decide +kernel
theorem dL_law_2020 : decode cL_law 2020 = .ok (.iload 5, 2) := by decide +kernel
theorem dL_law_2022 : decode cL_law 2022 = .ok (.ifCond .ne 15, 3) := by decide +kernel
theorem dL_law_2025 : decode cL_law 2025 = .ok (.aload_n 3, 1) := by decide +kernel
theorem dL_law_2026 : decode cL_law 2026 = .ok (.iconst 0, 1) := by decide +kernel
theorem dL_law_2027 : decode cL_law 2027 = .ok (.laload, 1) := by decide +kernel
theorem dL_law_2028 : decode cL_law 2028 = .ok (.iload 6, 2) := by decide +kernel
theorem dL_law_2030 : decode cL_law 2030 = .ok (.i2l, 1) := by decide +kernel
theorem dL_law_2031 : decode cL_law 2031 = .ok (.lcmp, 1) := by decide +kernel
theorem dL_law_2032 : decode cL_law 2032 = .ok (.ifCond .eq 5, 3) := by decide +kernel
theorem dL_law_2035 : decode cL_law 2035 = .ok (.iconst 0, 1) := by decide +kernel
theorem dL_law_2036 : decode cL_law 2036 = .ok (.ireturn, 1) := by decide +kernel
theorem dL_law_2037 : decode cL_law 2037 = .ok (.goto 568, 3) := by decide +kernel
theorem dL_law_2040 : decode cL_law 2040 = .ok (.aload_n 1, 1) := by decide +kernel
theorem dL_law_2041 : decode cL_law 2041 = .ok (.aload_n 0, 1) := by decide +kernel
theorem dL_law_2042 : decode cL_law 2042 = .ok (.iload 4, 2) := by decide +kernel
theorem dL_law_2044 : decode cL_law 2044 = .ok (.iconst 1, 1) := by decide +kernel
theorem dL_law_2045 : decode cL_law 2045 = .ok (.iadd, 1) := by decide +kernel
theorem dL_law_2046 : decode cL_law 2046 = .ok (.iaload, 1) := by decide +kernel
theorem dL_law_2047 : decode cL_law 2047 = .ok (.aload_n 3, 1) := by decide +kernel
theorem dL_law_2048 : decode cL_law 2048 = .ok (.invokestatic 236, 3) := by decide +kernel
theorem dL_law_2051 : decode cL_law 2051 = .ok (.istore 5, 2) := by decide +kernel
theorem dL_law_2053 : decode cL_law 2053 = .ok (.aload_n 2, 1) := by decide +kernel
theorem dL_law_2054 : decode cL_law 2054 = .ok (.aload_n 0, 1) := by decide +kernel
theorem dL_law_2055 : decode cL_law 2055 = .ok (.iload 4, 2) := by decide +kernel
theorem dL_law_2057 : decode cL_law 2057 = .ok (.iconst 1, 1) := by decide +kernel
theorem dL_law_2058 : decode cL_law 2058 = .ok (.iadd, 1) := by decide +kernel
theorem dL_law_2059 : decode cL_law 2059 = .ok (.iaload, 1) := by decide +kernel
theorem dL_law_2060 : decode cL_law 2060 = .ok (.invokevirtual 238, 3) := by decide +kernel
theorem dL_law_2063 : decode cL_law 2063 = .ok (.istore 6, 2) := by decide +kernel
theorem dL_law_2065 : decode cL_law 2065 = .ok (.aload_n 2, 1) := by decide +kernel
theorem dL_law_2066 : decode cL_law 2066 = .ok (.invokevirtual 133, 3) := by decide +kernel
theorem dL_law_2069 : decode cL_law 2069 = .ok (.iload 5, 2) := by decide +kernel
theorem dL_law_2071 : decode cL_law 2071 = .ok (.if_icmp .eq 5, 3) := by decide +kernel
theorem dL_law_2074 : decode cL_law 2074 = .ok (.iconst 0, 1) := by decide +kernel
theorem dL_law_2075 : decode cL_law 2075 = .ok (.ireturn, 1) := by decide +kernel
theorem dL_law_2076 : decode cL_law 2076 = .ok (.iload 5, 2) := by decide +kernel
theorem dL_law_2078 : decode cL_law 2078 = .ok (.ifCond .ne 15, 3) := by decide +kernel
theorem dL_law_2081 : decode cL_law 2081 = .ok (.aload_n 3, 1) := by decide +kernel
theorem dL_law_2082 : decode cL_law 2082 = .ok (.iconst 0, 1) := by decide +kernel
theorem dL_law_2083 : decode cL_law 2083 = .ok (.laload, 1) := by decide +kernel
theorem dL_law_2084 : decode cL_law 2084 = .ok (.iload 6, 2) := by decide +kernel
theorem dL_law_2086 : decode cL_law 2086 = .ok (.i2l, 1) := by decide +kernel
theorem dL_law_2087 : decode cL_law 2087 = .ok (.lcmp, 1) := by decide +kernel
theorem dL_law_2088 : decode cL_law 2088 = .ok (.ifCond .eq 5, 3) := by decide +kernel
theorem dL_law_2091 : decode cL_law 2091 = .ok (.iconst 0, 1) := by decide +kernel
theorem dL_law_2092 : decode cL_law 2092 = .ok (.ireturn, 1) := by decide +kernel
theorem dL_law_2093 : decode cL_law 2093 = .ok (.goto 512, 3) := by decide +kernel
theorem dL_law_2096 : decode cL_law 2096 = .ok (.aload_n 1, 1) := by decide +kernel
theorem dL_law_2097 : decode cL_law 2097 = .ok (.aload_n 0, 1) := by decide +kernel
theorem dL_law_2098 : decode cL_law 2098 = .ok (.iload 4, 2) := by decide +kernel
theorem dL_law_2100 : decode cL_law 2100 = .ok (.iconst 1, 1) := by decide +kernel
theorem dL_law_2101 : decode cL_law 2101 = .ok (.iadd, 1) := by decide +kernel
theorem dL_law_2102 : decode cL_law 2102 = .ok (.iaload, 1) := by decide +kernel
theorem dL_law_2103 : decode cL_law 2103 = .ok (.aload_n 0, 1) := by decide +kernel
theorem dL_law_2104 : decode cL_law 2104 = .ok (.iload 4, 2) := by decide +kernel
theorem dL_law_2106 : decode cL_law 2106 = .ok (.iconst 2, 1) := by decide +kernel
theorem dL_law_2107 : decode cL_law 2107 = .ok (.iadd, 1) := by decide +kernel
theorem dL_law_2108 : decode cL_law 2108 = .ok (.iaload, 1) := by decide +kernel
theorem dL_law_2109 : decode cL_law 2109 = .ok (.aload_n 3, 1) := by decide +kernel
theorem dL_law_2110 : decode cL_law 2110 = .ok (.invokestatic 239, 3) := by decide +kernel
theorem dL_law_2113 : decode cL_law 2113 = .ok (.istore 5, 2) := by decide +kernel
theorem dL_law_2115 : decode cL_law 2115 = .ok (.aload_n 2, 1) := by decide +kernel
theorem dL_law_2116 : decode cL_law 2116 = .ok (.aload_n 0, 1) := by decide +kernel
theorem dL_law_2117 : decode cL_law 2117 = .ok (.iload 4, 2) := by decide +kernel
theorem dL_law_2119 : decode cL_law 2119 = .ok (.iconst 1, 1) := by decide +kernel
theorem dL_law_2120 : decode cL_law 2120 = .ok (.iadd, 1) := by decide +kernel
theorem dL_law_2121 : decode cL_law 2121 = .ok (.iaload, 1) := by decide +kernel
theorem dL_law_2122 : decode cL_law 2122 = .ok (.aload_n 0, 1) := by decide +kernel
theorem dL_law_2123 : decode cL_law 2123 = .ok (.iload 4, 2) := by decide +kernel
theorem dL_law_2125 : decode cL_law 2125 = .ok (.iconst 2, 1) := by decide +kernel
theorem dL_law_2126 : decode cL_law 2126 = .ok (.iadd, 1) := by decide +kernel
theorem dL_law_2127 : decode cL_law 2127 = .ok (.iaload, 1) := by decide +kernel
theorem dL_law_2128 : decode cL_law 2128 = .ok (.invokevirtual 241, 3) := by decide +kernel
theorem dL_law_2131 : decode cL_law 2131 = .ok (.istore 6, 2) := by decide +kernel
theorem dL_law_2133 : decode cL_law 2133 = .ok (.aload_n 2, 1) := by decide +kernel
theorem dL_law_2134 : decode cL_law 2134 = .ok (.invokevirtual 133, 3) := by decide +kernel
theorem dL_law_2137 : decode cL_law 2137 = .ok (.iload 5, 2) := by decide +kernel
theorem dL_law_2139 : decode cL_law 2139 = .ok (.if_icmp .eq 5, 3) := by decide +kernel
theorem dL_law_2142 : decode cL_law 2142 = .ok (.iconst 0, 1) := by decide +kernel
theorem dL_law_2143 : decode cL_law 2143 = .ok (.ireturn, 1) := by decide +kernel
theorem dL_law_2144 : decode cL_law 2144 = .ok (.iload 5, 2) := by decide +kernel
theorem dL_law_2146 : decode cL_law 2146 = .ok (.ifCond .ne 15, 3) := by decide +kernel
theorem dL_law_2149 : decode cL_law 2149 = .ok (.aload_n 3, 1) := by decide +kernel
theorem dL_law_2150 : decode cL_law 2150 = .ok (.iconst 0, 1) := by decide +kernel
theorem dL_law_2151 : decode cL_law 2151 = .ok (.laload, 1) := by decide +kernel
theorem dL_law_2152 : decode cL_law 2152 = .ok (.iload 6, 2) := by decide +kernel
theorem dL_law_2154 : decode cL_law 2154 = .ok (.i2l, 1) := by decide +kernel
theorem dL_law_2155 : decode cL_law 2155 = .ok (.lcmp, 1) := by decide +kernel
theorem dL_law_2156 : decode cL_law 2156 = .ok (.ifCond .eq 5, 3) := by decide +kernel
theorem dL_law_2159 : decode cL_law 2159 = .ok (.iconst 0, 1) := by decide +kernel
theorem dL_law_2160 : decode cL_law 2160 = .ok (.ireturn, 1) := by decide +kernel
theorem dL_law_2161 : decode cL_law 2161 = .ok (.goto 444, 3) := by decide +kernel
theorem dL_law_2164 : decode cL_law 2164 = .ok (.aload_n 1, 1) := by decide +kernel
theorem dL_law_2165 : decode cL_law 2165 = .ok (.aload_n 0, 1) := by decide +kernel
theorem dL_law_2166 : decode cL_law 2166 = .ok (.iload 4, 2) := by decide +kernel
theorem dL_law_2168 : decode cL_law 2168 = .ok (.iconst 1, 1) := by decide +kernel
theorem dL_law_2169 : decode cL_law 2169 = .ok (.iadd, 1) := by decide +kernel
theorem dL_law_2170 : decode cL_law 2170 = .ok (.iaload, 1) := by decide +kernel
theorem dL_law_2171 : decode cL_law 2171 = .ok (.aload_n 3, 1) := by decide +kernel
theorem dL_law_2172 : decode cL_law 2172 = .ok (.invokestatic 242, 3) := by decide +kernel
theorem dL_law_2175 : decode cL_law 2175 = .ok (.istore 5, 2) := by decide +kernel
theorem dL_law_2177 : decode cL_law 2177 = .ok (.aload_n 2, 1) := by decide +kernel
theorem dL_law_2178 : decode cL_law 2178 = .ok (.aload_n 0, 1) := by decide +kernel
theorem dL_law_2179 : decode cL_law 2179 = .ok (.iload 4, 2) := by decide +kernel
theorem dL_law_2181 : decode cL_law 2181 = .ok (.iconst 1, 1) := by decide +kernel
theorem dL_law_2182 : decode cL_law 2182 = .ok (.iadd, 1) := by decide +kernel
theorem dL_law_2183 : decode cL_law 2183 = .ok (.iaload, 1) := by decide +kernel
theorem dL_law_2184 : decode cL_law 2184 = .ok (.invokevirtual 244, 3) := by decide +kernel
theorem dL_law_2187 : decode cL_law 2187 = .ok (.istore 6, 2) := by decide +kernel
theorem dL_law_2189 : decode cL_law 2189 = .ok (.aload_n 2, 1) := by decide +kernel
theorem dL_law_2190 : decode cL_law 2190 = .ok (.invokevirtual 133, 3) := by decide +kernel
theorem dL_law_2193 : decode cL_law 2193 = .ok (.iload 5, 2) := by decide +kernel
theorem dL_law_2195 : decode cL_law 2195 = .ok (.if_icmp .eq 5, 3) := by decide +kernel
theorem dL_law_2198 : decode cL_law 2198 = .ok (.iconst 0, 1) := by decide +kernel
theorem dL_law_2199 : decode cL_law 2199 = .ok (.ireturn, 1) := by decide +kernel
theorem dL_law_2200 : decode cL_law 2200 = .ok (.iload 5, 2) := by decide +kernel
theorem dL_law_2202 : decode cL_law 2202 = .ok (.ifCond .ne 15, 3) := by decide +kernel
theorem dL_law_2205 : decode cL_law 2205 = .ok (.aload_n 3, 1) := by decide +kernel
theorem dL_law_2206 : decode cL_law 2206 = .ok (.iconst 0, 1) := by decide +kernel
theorem dL_law_2207 : decode cL_law 2207 = .ok (.laload, 1) := by decide +kernel
theorem dL_law_2208 : decode cL_law 2208 = .ok (.iload 6, 2) := by decide +kernel
theorem dL_law_2210 : decode cL_law 2210 = .ok (.i2l, 1) := by decide +kernel
theorem dL_law_2211 : decode cL_law 2211 = .ok (.lcmp, 1) := by decide +kernel
theorem dL_law_2212 : decode cL_law 2212 = .ok (.ifCond .eq 5, 3) := by decide +kernel
theorem dL_law_2215 : decode cL_law 2215 = .ok (.iconst 0, 1) := by decide +kernel
theorem dL_law_2216 : decode cL_law 2216 = .ok (.ireturn, 1) := by decide +kernel
theorem dL_law_2217 : decode cL_law 2217 = .ok (.goto 388, 3) := by decide +kernel
theorem dL_law_2220 : decode cL_law 2220 = .ok (.aload_n 1, 1) := by decide +kernel
theorem dL_law_2221 : decode cL_law 2221 = .ok (.aload_n 0, 1) := by decide +kernel
theorem dL_law_2222 : decode cL_law 2222 = .ok (.iload 4, 2) := by decide +kernel
theorem dL_law_2224 : decode cL_law 2224 = .ok (.iconst 1, 1) := by decide +kernel
theorem dL_law_2225 : decode cL_law 2225 = .ok (.iadd, 1) := by decide +kernel
theorem dL_law_2226 : decode cL_law 2226 = .ok (.iaload, 1) := by decide +kernel
theorem dL_law_2227 : decode cL_law 2227 = .ok (.aload_n 0, 1) := by decide +kernel
theorem dL_law_2228 : decode cL_law 2228 = .ok (.iload 4, 2) := by decide +kernel
theorem dL_law_2230 : decode cL_law 2230 = .ok (.iconst 2, 1) := by decide +kernel
theorem dL_law_2231 : decode cL_law 2231 = .ok (.iadd, 1) := by decide +kernel
theorem dL_law_2232 : decode cL_law 2232 = .ok (.iaload, 1) := by decide +kernel
theorem dL_law_2233 : decode cL_law 2233 = .ok (.aload_n 0, 1) := by decide +kernel
theorem dL_law_2234 : decode cL_law 2234 = .ok (.iload 4, 2) := by decide +kernel
theorem dL_law_2236 : decode cL_law 2236 = .ok (.iconst 3, 1) := by decide +kernel
theorem dL_law_2237 : decode cL_law 2237 = .ok (.iadd, 1) := by decide +kernel
theorem dL_law_2238 : decode cL_law 2238 = .ok (.iaload, 1) := by decide +kernel
theorem dL_law_2239 : decode cL_law 2239 = .ok (.aload_n 0, 1) := by decide +kernel
theorem dL_law_2240 : decode cL_law 2240 = .ok (.iload 4, 2) := by decide +kernel
theorem dL_law_2242 : decode cL_law 2242 = .ok (.iconst 4, 1) := by decide +kernel
theorem dL_law_2243 : decode cL_law 2243 = .ok (.iadd, 1) := by decide +kernel
theorem dL_law_2244 : decode cL_law 2244 = .ok (.iaload, 1) := by decide +kernel
theorem dL_law_2245 : decode cL_law 2245 = .ok (.aload_n 3, 1) := by decide +kernel
theorem dL_law_2246 : decode cL_law 2246 = .ok (.invokestatic 245, 3) := by decide +kernel
theorem dL_law_2249 : decode cL_law 2249 = .ok (.istore 5, 2) := by decide +kernel
theorem dL_law_2251 : decode cL_law 2251 = .ok (.aload_n 2, 1) := by decide +kernel
theorem dL_law_2252 : decode cL_law 2252 = .ok (.aload_n 0, 1) := by decide +kernel
theorem dL_law_2253 : decode cL_law 2253 = .ok (.iload 4, 2) := by decide +kernel
theorem dL_law_2255 : decode cL_law 2255 = .ok (.iconst 1, 1) := by decide +kernel
theorem dL_law_2256 : decode cL_law 2256 = .ok (.iadd, 1) := by decide +kernel
theorem dL_law_2257 : decode cL_law 2257 = .ok (.iaload, 1) := by decide +kernel
theorem dL_law_2258 : decode cL_law 2258 = .ok (.aload_n 0, 1) := by decide +kernel
theorem dL_law_2259 : decode cL_law 2259 = .ok (.iload 4, 2) := by decide +kernel
theorem dL_law_2261 : decode cL_law 2261 = .ok (.iconst 2, 1) := by decide +kernel
theorem dL_law_2262 : decode cL_law 2262 = .ok (.iadd, 1) := by decide +kernel
theorem dL_law_2263 : decode cL_law 2263 = .ok (.iaload, 1) := by decide +kernel
theorem dL_law_2264 : decode cL_law 2264 = .ok (.aload_n 0, 1) := by decide +kernel
theorem dL_law_2265 : decode cL_law 2265 = .ok (.iload 4, 2) := by decide +kernel
theorem dL_law_2267 : decode cL_law 2267 = .ok (.iconst 3, 1) := by decide +kernel
theorem dL_law_2268 : decode cL_law 2268 = .ok (.iadd, 1) := by decide +kernel
theorem dL_law_2269 : decode cL_law 2269 = .ok (.iaload, 1) := by decide +kernel
theorem dL_law_2270 : decode cL_law 2270 = .ok (.aload_n 0, 1) := by decide +kernel
theorem dL_law_2271 : decode cL_law 2271 = .ok (.iload 4, 2) := by decide +kernel
theorem dL_law_2273 : decode cL_law 2273 = .ok (.iconst 4, 1) := by decide +kernel
theorem dL_law_2274 : decode cL_law 2274 = .ok (.iadd, 1) := by decide +kernel
theorem dL_law_2275 : decode cL_law 2275 = .ok (.iaload, 1) := by decide +kernel
theorem dL_law_2276 : decode cL_law 2276 = .ok (.invokevirtual 247, 3) := by decide +kernel
theorem dL_law_2279 : decode cL_law 2279 = .ok (.istore 6, 2) := by decide +kernel
theorem dL_law_2281 : decode cL_law 2281 = .ok (.aload_n 2, 1) := by decide +kernel
theorem dL_law_2282 : decode cL_law 2282 = .ok (.invokevirtual 133, 3) := by decide +kernel
theorem dL_law_2285 : decode cL_law 2285 = .ok (.iload 5, 2) := by decide +kernel
theorem dL_law_2287 : decode cL_law 2287 = .ok (.if_icmp .eq 5, 3) := by decide +kernel
theorem dL_law_2290 : decode cL_law 2290 = .ok (.iconst 0, 1) := by decide +kernel
theorem dL_law_2291 : decode cL_law 2291 = .ok (.ireturn, 1) := by decide +kernel
theorem dL_law_2292 : decode cL_law 2292 = .ok (.iload 5, 2) := by decide +kernel
theorem dL_law_2294 : decode cL_law 2294 = .ok (.ifCond .ne 15, 3) := by decide +kernel
theorem dL_law_2297 : decode cL_law 2297 = .ok (.aload_n 3, 1) := by decide +kernel
theorem dL_law_2298 : decode cL_law 2298 = .ok (.iconst 0, 1) := by decide +kernel
theorem dL_law_2299 : decode cL_law 2299 = .ok (.laload, 1) := by decide +kernel
theorem dL_law_2300 : decode cL_law 2300 = .ok (.iload 6, 2) := by decide +kernel
theorem dL_law_2302 : decode cL_law 2302 = .ok (.i2l, 1) := by decide +kernel
theorem dL_law_2303 : decode cL_law 2303 = .ok (.lcmp, 1) := by decide +kernel
theorem dL_law_2304 : decode cL_law 2304 = .ok (.ifCond .eq 5, 3) := by decide +kernel
theorem dL_law_2307 : decode cL_law 2307 = .ok (.iconst 0, 1) := by decide +kernel
theorem dL_law_2308 : decode cL_law 2308 = .ok (.ireturn, 1) := by decide +kernel
theorem dL_law_2309 : decode cL_law 2309 = .ok (.goto 296, 3) := by decide +kernel
theorem dL_law_2312 : decode cL_law 2312 = .ok (.aload_n 1, 1) := by decide +kernel
theorem dL_law_2313 : decode cL_law 2313 = .ok (.aload_n 0, 1) := by decide +kernel
theorem dL_law_2314 : decode cL_law 2314 = .ok (.iload 4, 2) := by decide +kernel
theorem dL_law_2316 : decode cL_law 2316 = .ok (.iconst 1, 1) := by decide +kernel
theorem dL_law_2317 : decode cL_law 2317 = .ok (.iadd, 1) := by decide +kernel
theorem dL_law_2318 : decode cL_law 2318 = .ok (.iaload, 1) := by decide +kernel
theorem dL_law_2319 : decode cL_law 2319 = .ok (.aload_n 0, 1) := by decide +kernel
theorem dL_law_2320 : decode cL_law 2320 = .ok (.iload 4, 2) := by decide +kernel
theorem dL_law_2322 : decode cL_law 2322 = .ok (.iconst 2, 1) := by decide +kernel
theorem dL_law_2323 : decode cL_law 2323 = .ok (.iadd, 1) := by decide +kernel
theorem dL_law_2324 : decode cL_law 2324 = .ok (.iaload, 1) := by decide +kernel
theorem dL_law_2325 : decode cL_law 2325 = .ok (.aload_n 0, 1) := by decide +kernel
theorem dL_law_2326 : decode cL_law 2326 = .ok (.iload 4, 2) := by decide +kernel
theorem dL_law_2328 : decode cL_law 2328 = .ok (.iconst 3, 1) := by decide +kernel
theorem dL_law_2329 : decode cL_law 2329 = .ok (.iadd, 1) := by decide +kernel
theorem dL_law_2330 : decode cL_law 2330 = .ok (.iaload, 1) := by decide +kernel
theorem dL_law_2331 : decode cL_law 2331 = .ok (.aload_n 3, 1) := by decide +kernel
theorem dL_law_2332 : decode cL_law 2332 = .ok (.invokestatic 248, 3) := by decide +kernel
theorem dL_law_2335 : decode cL_law 2335 = .ok (.istore 5, 2) := by decide +kernel
theorem dL_law_2337 : decode cL_law 2337 = .ok (.aload_n 2, 1) := by decide +kernel
theorem dL_law_2338 : decode cL_law 2338 = .ok (.aload_n 0, 1) := by decide +kernel
theorem dL_law_2339 : decode cL_law 2339 = .ok (.iload 4, 2) := by decide +kernel
theorem dL_law_2341 : decode cL_law 2341 = .ok (.iconst 1, 1) := by decide +kernel
theorem dL_law_2342 : decode cL_law 2342 = .ok (.iadd, 1) := by decide +kernel
theorem dL_law_2343 : decode cL_law 2343 = .ok (.iaload, 1) := by decide +kernel
theorem dL_law_2344 : decode cL_law 2344 = .ok (.aload_n 0, 1) := by decide +kernel
theorem dL_law_2345 : decode cL_law 2345 = .ok (.iload 4, 2) := by decide +kernel
theorem dL_law_2347 : decode cL_law 2347 = .ok (.iconst 2, 1) := by decide +kernel
theorem dL_law_2348 : decode cL_law 2348 = .ok (.iadd, 1) := by decide +kernel
theorem dL_law_2349 : decode cL_law 2349 = .ok (.iaload, 1) := by decide +kernel
theorem dL_law_2350 : decode cL_law 2350 = .ok (.aload_n 0, 1) := by decide +kernel
theorem dL_law_2351 : decode cL_law 2351 = .ok (.iload 4, 2) := by decide +kernel
theorem dL_law_2353 : decode cL_law 2353 = .ok (.iconst 3, 1) := by decide +kernel
theorem dL_law_2354 : decode cL_law 2354 = .ok (.iadd, 1) := by decide +kernel
theorem dL_law_2355 : decode cL_law 2355 = .ok (.iaload, 1) := by decide +kernel
theorem dL_law_2356 : decode cL_law 2356 = .ok (.invokevirtual 250, 3) := by decide +kernel
theorem dL_law_2359 : decode cL_law 2359 = .ok (.istore 6, 2) := by decide +kernel
theorem dL_law_2361 : decode cL_law 2361 = .ok (.aload_n 2, 1) := by decide +kernel
theorem dL_law_2362 : decode cL_law 2362 = .ok (.invokevirtual 133, 3) := by decide +kernel
theorem dL_law_2365 : decode cL_law 2365 = .ok (.iload 5, 2) := by decide +kernel
theorem dL_law_2367 : decode cL_law 2367 = .ok (.if_icmp .eq 5, 3) := by decide +kernel
theorem dL_law_2370 : decode cL_law 2370 = .ok (.iconst 0, 1) := by decide +kernel
theorem dL_law_2371 : decode cL_law 2371 = .ok (.ireturn, 1) := by decide +kernel
theorem dL_law_2372 : decode cL_law 2372 = .ok (.iload 5, 2) := by decide +kernel
theorem dL_law_2374 : decode cL_law 2374 = .ok (.ifCond .ne 15, 3) := by decide +kernel
theorem dL_law_2377 : decode cL_law 2377 = .ok (.aload_n 3, 1) := by decide +kernel
theorem dL_law_2378 : decode cL_law 2378 = .ok (.iconst 0, 1) := by decide +kernel
theorem dL_law_2379 : decode cL_law 2379 = .ok (.laload, 1) := by decide +kernel
theorem dL_law_2380 : decode cL_law 2380 = .ok (.iload 6, 2) := by decide +kernel
theorem dL_law_2382 : decode cL_law 2382 = .ok (.i2l, 1) := by decide +kernel
theorem dL_law_2383 : decode cL_law 2383 = .ok (.lcmp, 1) := by decide +kernel
theorem dL_law_2384 : decode cL_law 2384 = .ok (.ifCond .eq 5, 3) := by decide +kernel
theorem dL_law_2387 : decode cL_law 2387 = .ok (.iconst 0, 1) := by decide +kernel
theorem dL_law_2388 : decode cL_law 2388 = .ok (.ireturn, 1) := by decide +kernel
theorem dL_law_2389 : decode cL_law 2389 = .ok (.goto 216, 3) := by decide +kernel
theorem dL_law_2392 : decode cL_law 2392 = .ok (.aload_n 1, 1) := by decide +kernel
theorem dL_law_2393 : decode cL_law 2393 = .ok (.aload_n 0, 1) := by decide +kernel
theorem dL_law_2394 : decode cL_law 2394 = .ok (.iload 4, 2) := by decide +kernel
theorem dL_law_2396 : decode cL_law 2396 = .ok (.iconst 1, 1) := by decide +kernel
theorem dL_law_2397 : decode cL_law 2397 = .ok (.iadd, 1) := by decide +kernel
theorem dL_law_2398 : decode cL_law 2398 = .ok (.iaload, 1) := by decide +kernel
theorem dL_law_2399 : decode cL_law 2399 = .ok (.aload_n 0, 1) := by decide +kernel
theorem dL_law_2400 : decode cL_law 2400 = .ok (.iload 4, 2) := by decide +kernel
theorem dL_law_2402 : decode cL_law 2402 = .ok (.iconst 2, 1) := by decide +kernel
theorem dL_law_2403 : decode cL_law 2403 = .ok (.iadd, 1) := by decide +kernel
theorem dL_law_2404 : decode cL_law 2404 = .ok (.iaload, 1) := by decide +kernel
theorem dL_law_2405 : decode cL_law 2405 = .ok (.aload_n 3, 1) := by decide +kernel
theorem dL_law_2406 : decode cL_law 2406 = .ok (.invokestatic 251, 3) := by decide +kernel
theorem dL_law_2409 : decode cL_law 2409 = .ok (.istore 5, 2) := by decide +kernel
theorem dL_law_2411 : decode cL_law 2411 = .ok (.aload_n 2, 1) := by decide +kernel
theorem dL_law_2412 : decode cL_law 2412 = .ok (.aload_n 0, 1) := by decide +kernel
theorem dL_law_2413 : decode cL_law 2413 = .ok (.iload 4, 2) := by decide +kernel
theorem dL_law_2415 : decode cL_law 2415 = .ok (.iconst 1, 1) := by decide +kernel
theorem dL_law_2416 : decode cL_law 2416 = .ok (.iadd, 1) := by decide +kernel
theorem dL_law_2417 : decode cL_law 2417 = .ok (.iaload, 1) := by decide +kernel
theorem dL_law_2418 : decode cL_law 2418 = .ok (.aload_n 0, 1) := by decide +kernel
theorem dL_law_2419 : decode cL_law 2419 = .ok (.iload 4, 2) := by decide +kernel
theorem dL_law_2421 : decode cL_law 2421 = .ok (.iconst 2, 1) := by decide +kernel
theorem dL_law_2422 : decode cL_law 2422 = .ok (.iadd, 1) := by decide +kernel
theorem dL_law_2423 : decode cL_law 2423 = .ok (.iaload, 1) := by decide +kernel
theorem dL_law_2424 : decode cL_law 2424 = .ok (.invokevirtual 253, 3) := by decide +kernel
theorem dL_law_2427 : decode cL_law 2427 = .ok (.istore 6, 2) := by decide +kernel
theorem dL_law_2429 : decode cL_law 2429 = .ok (.aload_n 2, 1) := by decide +kernel
theorem dL_law_2430 : decode cL_law 2430 = .ok (.invokevirtual 133, 3) := by decide +kernel
theorem dL_law_2433 : decode cL_law 2433 = .ok (.iload 5, 2) := by decide +kernel
theorem dL_law_2435 : decode cL_law 2435 = .ok (.if_icmp .eq 5, 3) := by decide +kernel
theorem dL_law_2438 : decode cL_law 2438 = .ok (.iconst 0, 1) := by decide +kernel
theorem dL_law_2439 : decode cL_law 2439 = .ok (.ireturn, 1) := by decide +kernel
theorem dL_law_2440 : decode cL_law 2440 = .ok (.iload 5, 2) := by decide +kernel
theorem dL_law_2442 : decode cL_law 2442 = .ok (.ifCond .ne 15, 3) := by decide +kernel
theorem dL_law_2445 : decode cL_law 2445 = .ok (.aload_n 3, 1) := by decide +kernel
theorem dL_law_2446 : decode cL_law 2446 = .ok (.iconst 0, 1) := by decide +kernel
theorem dL_law_2447 : decode cL_law 2447 = .ok (.laload, 1) := by decide +kernel
theorem dL_law_2448 : decode cL_law 2448 = .ok (.iload 6, 2) := by decide +kernel
theorem dL_law_2450 : decode cL_law 2450 = .ok (.i2l, 1) := by decide +kernel
theorem dL_law_2451 : decode cL_law 2451 = .ok (.lcmp, 1) := by decide +kernel
theorem dL_law_2452 : decode cL_law 2452 = .ok (.ifCond .eq 5, 3) := by decide +kernel
theorem dL_law_2455 : decode cL_law 2455 = .ok (.iconst 0, 1) := by decide +kernel
theorem dL_law_2456 : decode cL_law 2456 = .ok (.ireturn, 1) := by decide +kernel
theorem dL_law_2457 : decode cL_law 2457 = .ok (.goto 148, 3) := by decide +kernel
theorem dL_law_2460 : decode cL_law 2460 = .ok (.aload_n 1, 1) := by decide +kernel
theorem dL_law_2461 : decode cL_law 2461 = .ok (.aload_n 0, 1) := by decide +kernel
theorem dL_law_2462 : decode cL_law 2462 = .ok (.iload 4, 2) := by decide +kernel
theorem dL_law_2464 : decode cL_law 2464 = .ok (.iconst 1, 1) := by decide +kernel
theorem dL_law_2465 : decode cL_law 2465 = .ok (.iadd, 1) := by decide +kernel
theorem dL_law_2466 : decode cL_law 2466 = .ok (.iaload, 1) := by decide +kernel
theorem dL_law_2467 : decode cL_law 2467 = .ok (.aload_n 3, 1) := by decide +kernel
theorem dL_law_2468 : decode cL_law 2468 = .ok (.invokestatic 254, 3) := by decide +kernel
theorem dL_law_2471 : decode cL_law 2471 = .ok (.istore 5, 2) := by decide +kernel
theorem dL_law_2473 : decode cL_law 2473 = .ok (.aload_n 2, 1) := by decide +kernel
theorem dL_law_2474 : decode cL_law 2474 = .ok (.aload_n 0, 1) := by decide +kernel
theorem dL_law_2475 : decode cL_law 2475 = .ok (.iload 4, 2) := by decide +kernel
theorem dL_law_2477 : decode cL_law 2477 = .ok (.iconst 1, 1) := by decide +kernel
theorem dL_law_2478 : decode cL_law 2478 = .ok (.iadd, 1) := by decide +kernel
theorem dL_law_2479 : decode cL_law 2479 = .ok (.iaload, 1) := by decide +kernel
theorem dL_law_2480 : decode cL_law 2480 = .ok (.invokevirtual 256, 3) := by decide +kernel
theorem dL_law_2483 : decode cL_law 2483 = .ok (.istore 6, 2) := by decide +kernel
theorem dL_law_2485 : decode cL_law 2485 = .ok (.aload_n 2, 1) := by decide +kernel
theorem dL_law_2486 : decode cL_law 2486 = .ok (.invokevirtual 133, 3) := by decide +kernel
theorem dL_law_2489 : decode cL_law 2489 = .ok (.iload 5, 2) := by decide +kernel
theorem dL_law_2491 : decode cL_law 2491 = .ok (.if_icmp .eq 5, 3) := by decide +kernel
theorem dL_law_2494 : decode cL_law 2494 = .ok (.iconst 0, 1) := by decide +kernel
theorem dL_law_2495 : decode cL_law 2495 = .ok (.ireturn, 1) := by decide +kernel
theorem dL_law_2496 : decode cL_law 2496 = .ok (.iload 5, 2) := by decide +kernel
theorem dL_law_2498 : decode cL_law 2498 = .ok (.ifCond .ne 15, 3) := by decide +kernel
theorem dL_law_2501 : decode cL_law 2501 = .ok (.aload_n 3, 1) := by decide +kernel
theorem dL_law_2502 : decode cL_law 2502 = .ok (.iconst 0, 1) := by decide +kernel
theorem dL_law_2503 : decode cL_law 2503 = .ok (.laload, 1) := by decide +kernel
theorem dL_law_2504 : decode cL_law 2504 = .ok (.iload 6, 2) := by decide +kernel
theorem dL_law_2506 : decode cL_law 2506 = .ok (.i2l, 1) := by decide +kernel
theorem dL_law_2507 : decode cL_law 2507 = .ok (.lcmp, 1) := by decide +kernel
theorem dL_law_2508 : decode cL_law 2508 = .ok (.ifCond .eq 5, 3) := by decide +kernel
theorem dL_law_2511 : decode cL_law 2511 = .ok (.iconst 0, 1) := by decide +kernel
theorem dL_law_2512 : decode cL_law 2512 = .ok (.ireturn, 1) := by decide +kernel
theorem dL_law_2513 : decode cL_law 2513 = .ok (.goto 92, 3) := by decide +kernel
theorem dL_law_2516 : decode cL_law 2516 = .ok (.aload_n 1, 1) := by decide +kernel
theorem dL_law_2517 : decode cL_law 2517 = .ok (.invokevirtual 257, 3) := by decide +kernel
theorem dL_law_2520 : decode cL_law 2520 = .ok (.aload_n 2, 1) := by decide +kernel
theorem dL_law_2521 : decode cL_law 2521 = .ok (.invokevirtual 260, 3) := by decide +kernel
theorem dL_law_2524 : decode cL_law 2524 = .ok (.if_icmp .eq 81, 3) := by decide +kernel
theorem dL_law_2527 : decode cL_law 2527 = .ok (.iconst 0, 1) := by decide +kernel
theorem dL_law_2528 : decode cL_law 2528 = .ok (.ireturn, 1) := by decide +kernel
theorem dL_law_2529 : decode cL_law 2529 = .ok (.aload_n 1, 1) := by decide +kernel
theorem dL_law_2530 : decode cL_law 2530 = .ok (.invokevirtual 261, 3) := by decide +kernel
theorem dL_law_2533 : decode cL_law 2533 = .ok (.aload_n 2, 1) := by decide +kernel
theorem dL_law_2534 : decode cL_law 2534 = .ok (.invokevirtual 264, 3) := by decide +kernel
theorem dL_law_2537 : decode cL_law 2537 = .ok (.if_icmp .eq 68, 3) := by decide +kernel
theorem dL_law_2540 : decode cL_law 2540 = .ok (.iconst 0, 1) := by decide +kernel
theorem dL_law_2541 : decode cL_law 2541 = .ok (.ireturn, 1) := by decide +kernel
theorem dL_law_2542 : decode cL_law 2542 = .ok (.aload_n 1, 1) := by decide +kernel
theorem dL_law_2543 : decode cL_law 2543 = .ok (.invokevirtual 265, 3) := by decide +kernel
theorem dL_law_2546 : decode cL_law 2546 = .ok (.aload_n 2, 1) := by decide +kernel
theorem dL_law_2547 : decode cL_law 2547 = .ok (.invokevirtual 268, 3) := by decide +kernel
theorem dL_law_2550 : decode cL_law 2550 = .ok (.if_icmp .eq 55, 3) := by decide +kernel
theorem dL_law_2553 : decode cL_law 2553 = .ok (.iconst 0, 1) := by decide +kernel
theorem dL_law_2554 : decode cL_law 2554 = .ok (.ireturn, 1) := by decide +kernel
theorem dL_law_2555 : decode cL_law 2555 = .ok (.aload_n 1, 1) := by decide +kernel
theorem dL_law_2556 : decode cL_law 2556 = .ok (.aload_n 0, 1) := by decide +kernel
theorem dL_law_2557 : decode cL_law 2557 = .ok (.iload 4, 2) := by decide +kernel
theorem dL_law_2559 : decode cL_law 2559 = .ok (.iconst 1, 1) := by decide +kernel
theorem dL_law_2560 : decode cL_law 2560 = .ok (.iadd, 1) := by decide +kernel
theorem dL_law_2561 : decode cL_law 2561 = .ok (.iaload, 1) := by decide +kernel
theorem dL_law_2562 : decode cL_law 2562 = .ok (.invokevirtual 269, 3) := by decide +kernel
theorem dL_law_2565 : decode cL_law 2565 = .ok (.aload_n 2, 1) := by decide +kernel
theorem dL_law_2566 : decode cL_law 2566 = .ok (.aload_n 0, 1) := by decide +kernel
theorem dL_law_2567 : decode cL_law 2567 = .ok (.iload 4, 2) := by decide +kernel
theorem dL_law_2569 : decode cL_law 2569 = .ok (.iconst 1, 1) := by decide +kernel
theorem dL_law_2570 : decode cL_law 2570 = .ok (.iadd, 1) := by decide +kernel
theorem dL_law_2571 : decode cL_law 2571 = .ok (.iaload, 1) := by decide +kernel
theorem dL_law_2572 : decode cL_law 2572 = .ok (.invokevirtual 272, 3) := by decide +kernel
theorem dL_law_2575 : decode cL_law 2575 = .ok (.if_icmp .eq 30, 3) := by decide +kernel
theorem dL_law_2578 : decode cL_law 2578 = .ok (.iconst 0, 1) := by decide +kernel
theorem dL_law_2579 : decode cL_law 2579 = .ok (.ireturn, 1) := by decide +kernel
theorem dL_law_2580 : decode cL_law 2580 = .ok (.aload_n 1, 1) := by decide +kernel
theorem dL_law_2581 : decode cL_law 2581 = .ok (.aload_n 0, 1) := by decide +kernel
theorem dL_law_2582 : decode cL_law 2582 = .ok (.iload 4, 2) := by decide +kernel
theorem dL_law_2584 : decode cL_law 2584 = .ok (.iconst 1, 1) := by decide +kernel
theorem dL_law_2585 : decode cL_law 2585 = .ok (.iadd, 1) := by decide +kernel
theorem dL_law_2586 : decode cL_law 2586 = .ok (.iaload, 1) := by decide +kernel
theorem dL_law_2587 : decode cL_law 2587 = .ok (.invokevirtual 273, 3) := by decide +kernel
theorem dL_law_2590 : decode cL_law 2590 = .ok (.aload_n 2, 1) := by decide +kernel
theorem dL_law_2591 : decode cL_law 2591 = .ok (.aload_n 0, 1) := by decide +kernel
theorem dL_law_2592 : decode cL_law 2592 = .ok (.iload 4, 2) := by decide +kernel
theorem dL_law_2594 : decode cL_law 2594 = .ok (.iconst 1, 1) := by decide +kernel
theorem dL_law_2595 : decode cL_law 2595 = .ok (.iadd, 1) := by decide +kernel
theorem dL_law_2596 : decode cL_law 2596 = .ok (.iaload, 1) := by decide +kernel
theorem dL_law_2597 : decode cL_law 2597 = .ok (.invokevirtual 276, 3) := by decide +kernel
theorem dL_law_2600 : decode cL_law 2600 = .ok (.if_icmp .eq 5, 3) := by decide +kernel
theorem dL_law_2603 : decode cL_law 2603 = .ok (.iconst 0, 1) := by decide +kernel
theorem dL_law_2604 : decode cL_law 2604 = .ok (.ireturn, 1) := by decide +kernel
theorem dL_law_2605 : decode cL_law 2605 = .ok (.iinc 4 6, 3) := by decide +kernel
theorem dL_law_2608 : decode cL_law 2608 = .ok (.goto (-2585), 3) := by decide +kernel
theorem dL_law_2611 : decode cL_law 2611 = .ok (.iconst 1, 1) := by decide +kernel
theorem dL_law_2612 : decode cL_law 2612 = .ok (.ireturn, 1) := by decide +kernel
abbrev mL_law : MD := (cL_law, "BlottedDeedLaw", 8, 14, 522, (some .boolean), "law", [])
def bL_law_0 (g : GE) (J : Nat → KT) : KT := i_new 9 13 [.null, .int 0, .null, .null, .null, .null, .null, .null, .null, .null, .int 0, .int 0, .null] (i_dup (i_ci fX10_init g 0 (i_astore 1 (i_new 10 50 [.int 0, .int 0, .int 0, .int 0, .int 0, .int 0, .int 0, .int 0, .null, .null, .null, .null, .null, .null, .null, .null, .null, .null, .null, .null, .null, .null, .null, .null, .null, .null, .null, .int 0, .null, .null, .null, .null, .int 0, .int 0, .int 0, .int 0, .null, .null, .null, .null, .null, .null, .int 0, .null, .null, .int 0, .int 0, .int 0, .null, .null] (i_dup (i_ci fX11_init g 0 (i_astore 2 (i_push (.int 1) (i_newarr 1 (i_astore 3 (i_push (.int 0) (i_istore 4 (i_jmp [true, true, true, true, true, false, false, false] (J 1))))))))))))))
def bL_law_1 (g : GE) (J : Nat → KT) : KT := i_iload 4 (i_aload 0 (i_sla g (i_push (.int 6) (i_isub (i_icgt (i_push (.int 1) (i_zreturn)) (i_aload 0 (i_iload 4 (i_sli g (i_push (.int 63) (i_iand (i_tsw 0 43 [i_jmp [true, true, true, true, true, false, false, false] (J 2), i_jmp [true, true, true, true, true, false, false, false] (J 3), i_jmp [true, true, true, true, true, false, false, false] (J 5), i_jmp [true, true, true, true, true, false, false, false] (J 6), i_jmp [true, true, true, true, true, false, false, false] (J 8), i_jmp [true, true, true, true, true, false, false, false] (J 10), i_jmp [true, true, true, true, true, false, false, false] (J 12), i_jmp [true, true, true, true, true, false, false, false] (J 13), i_jmp [true, true, true, true, true, false, false, false] (J 15), i_jmp [true, true, true, true, true, false, false, false] (J 17), i_jmp [true, true, true, true, true, false, false, false] (J 18), i_jmp [true, true, true, true, true, false, false, false] (J 20), i_jmp [true, true, true, true, true, false, false, false] (J 22), i_jmp [true, true, true, true, true, false, false, false] (J 24), i_jmp [true, true, true, true, true, false, false, false] (J 27), i_jmp [true, true, true, true, true, false, false, false] (J 29), i_jmp [true, true, true, true, true, false, false, false] (J 31), i_jmp [true, true, true, true, true, false, false, false] (J 33), i_jmp [true, true, true, true, true, false, false, false] (J 34), i_jmp [true, true, true, true, true, false, false, false] (J 36), i_jmp [true, true, true, true, true, false, false, false] (J 38), i_jmp [true, true, true, true, true, false, false, false] (J 40), i_jmp [true, true, true, true, true, false, false, false] (J 42), i_jmp [true, true, true, true, true, false, false, false] (J 44), i_jmp [true, true, true, true, true, false, false, false] (J 46), i_jmp [true, true, true, true, true, false, false, false] (J 47), i_jmp [true, true, true, true, true, false, false, false] (J 49), i_jmp [true, true, true, true, true, false, false, false] (J 51), i_jmp [true, true, true, true, true, false, false, false] (J 52), i_jmp [true, true, true, true, true, false, false, false] (J 54), i_jmp [true, true, true, true, true, false, false, false] (J 56), i_jmp [true, true, true, true, true, false, false, false] (J 58), i_jmp [true, true, true, true, true, false, false, false] (J 60), i_jmp [true, true, true, true, true, false, false, false] (J 62), i_jmp [true, true, true, true, true, false, false, false] (J 64), i_jmp [true, true, true, true, true, false, false, false] (J 66), i_jmp [true, true, true, true, true, false, false, false] (J 68), i_jmp [true, true, true, true, true, false, false, false] (J 70), i_jmp [true, true, true, true, true, false, false, false] (J 72), i_jmp [true, true, true, true, true, false, false, false] (J 74), i_jmp [true, true, true, true, true, false, false, false] (J 75), i_jmp [true, true, true, true, true, false, false, false] (J 76), i_jmp [true, true, true, true, true, false, false, false] (J 77), i_jmp [true, true, true, true, true, false, false, false] (J 78)] (i_jmp [true, true, true, true, true, false, false, false] (J 79)))))))))))))
def bL_law_2 (g : GE) (J : Nat → KT) : KT := i_aload 1 (i_aload 0 (i_iload 4 (i_push (.int 1) (i_iadd (i_sli g (i_aload 0 (i_iload 4 (i_push (.int 2) (i_iadd (i_sli g (i_aload 0 (i_iload 4 (i_push (.int 3) (i_iadd (i_sli g (i_aload 0 (i_iload 4 (i_push (.int 4) (i_iadd (i_sli g (i_aload 0 (i_iload 4 (i_push (.int 5) (i_iadd (i_sli g (i_cv fX10_feed g 5 9 (i_aload 2 (i_aload 0 (i_iload 4 (i_push (.int 1) (i_iadd (i_sli g (i_aload 0 (i_iload 4 (i_push (.int 2) (i_iadd (i_sli g (i_aload 0 (i_iload 4 (i_push (.int 3) (i_iadd (i_sli g (i_aload 0 (i_iload 4 (i_push (.int 4) (i_iadd (i_sli g (i_aload 0 (i_iload 4 (i_push (.int 5) (i_iadd (i_sli g (i_cv fX11_feed g 5 10 (i_iceq (i_jmp [true, true, true, true, true, false, false, false] (J 79)) (i_push (.int 0) (i_zreturn))))))))))))))))))))))))))))))))))))))))))))))))))))))))
def bL_law_3 (g : GE) (J : Nat → KT) : KT := i_aload 1 (i_aload 0 (i_iload 4 (i_push (.int 1) (i_iadd (i_sli g (i_aload 3 (i_cs fL_deed g 3 (i_istore 5 (i_aload 2 (i_aload 0 (i_iload 4 (i_push (.int 1) (i_iadd (i_sli g (i_cv fX11_deed g 1 10 (i_istore 6 (i_aload 2 (i_cv fX11_thrown g 0 10 (i_iload 5 (i_iceq (i_iload 5 (i_ifne (i_jmp [true, true, true, true, true, false, false, false] (J 4)) (i_aload 3 (i_push (.int 0) (i_laload (i_iload 6 (i_i2l (i_lcmp (i_ifeq (i_jmp [true, true, true, true, true, false, false, false] (J 4)) (i_push (.int 0) (i_zreturn))))))))))) (i_push (.int 0) (i_zreturn))))))))))))))))))))))
def bL_law_4 (g : GE) (J : Nat → KT) : KT := i_jmp [true, true, true, true, true, false, false, false] (J 79)
def bL_law_5 (g : GE) (J : Nat → KT) : KT := i_aload 1 (i_cv fX10_fault g 0 9 (i_aload 2 (i_cv fX11_fault g 0 10 (i_iceq (i_jmp [true, true, true, true, true, false, false, false] (J 79)) (i_push (.int 0) (i_zreturn))))))
def bL_law_6 (g : GE) (J : Nat → KT) : KT := i_aload 1 (i_aload 0 (i_iload 4 (i_push (.int 1) (i_iadd (i_sli g (i_aload 3 (i_cs fL_told g 3 (i_istore 5 (i_aload 2 (i_aload 0 (i_iload 4 (i_push (.int 1) (i_iadd (i_sli g (i_cv fX11_told g 1 10 (i_istore 6 (i_aload 2 (i_cv fX11_thrown g 0 10 (i_iload 5 (i_iceq (i_iload 5 (i_ifne (i_jmp [true, true, true, true, true, false, false, false] (J 7)) (i_aload 3 (i_push (.int 0) (i_laload (i_iload 6 (i_i2l (i_lcmp (i_ifeq (i_jmp [true, true, true, true, true, false, false, false] (J 7)) (i_push (.int 0) (i_zreturn))))))))))) (i_push (.int 0) (i_zreturn))))))))))))))))))))))
def bL_law_7 (g : GE) (J : Nat → KT) : KT := i_jmp [true, true, true, true, true, false, false, false] (J 79)
def bL_law_8 (g : GE) (J : Nat → KT) : KT := i_aload 1 (i_aload 0 (i_iload 4 (i_push (.int 1) (i_iadd (i_sli g (i_aload 0 (i_iload 4 (i_push (.int 2) (i_iadd (i_sli g (i_aload 3 (i_cs fL_blot g 4 (i_istore 5 (i_aload 2 (i_aload 0 (i_iload 4 (i_push (.int 1) (i_iadd (i_sli g (i_aload 0 (i_iload 4 (i_push (.int 2) (i_iadd (i_sli g (i_cv fX11_blot g 2 10 (i_istore 6 (i_aload 2 (i_cv fX11_thrown g 0 10 (i_iload 5 (i_iceq (i_iload 5 (i_ifne (i_jmp [true, true, true, true, true, false, false, false] (J 9)) (i_aload 3 (i_push (.int 0) (i_laload (i_iload 6 (i_i2l (i_lcmp (i_ifeq (i_jmp [true, true, true, true, true, false, false, false] (J 9)) (i_push (.int 0) (i_zreturn))))))))))) (i_push (.int 0) (i_zreturn))))))))))))))))))))))))))))))))
def bL_law_9 (g : GE) (J : Nat → KT) : KT := i_jmp [true, true, true, true, true, false, false, false] (J 79)
def bL_law_10 (g : GE) (J : Nat → KT) : KT := i_aload 1 (i_aload 0 (i_iload 4 (i_push (.int 1) (i_iadd (i_sli g (i_aload 0 (i_iload 4 (i_push (.int 2) (i_iadd (i_sli g (i_aload 3 (i_cs fL_candidate g 4 (i_istore 5 (i_aload 2 (i_aload 0 (i_iload 4 (i_push (.int 1) (i_iadd (i_sli g (i_aload 0 (i_iload 4 (i_push (.int 2) (i_iadd (i_sli g (i_cv fX11_candidate g 2 10 (i_istore 6 (i_aload 2 (i_cv fX11_thrown g 0 10 (i_iload 5 (i_iceq (i_iload 5 (i_ifne (i_jmp [true, true, true, true, true, false, false, false] (J 11)) (i_aload 3 (i_push (.int 0) (i_laload (i_iload 6 (i_i2l (i_lcmp (i_ifeq (i_jmp [true, true, true, true, true, false, false, false] (J 11)) (i_push (.int 0) (i_zreturn))))))))))) (i_push (.int 0) (i_zreturn))))))))))))))))))))))))))))))))
def bL_law_11 (g : GE) (J : Nat → KT) : KT := i_jmp [true, true, true, true, true, false, false, false] (J 79)
def bL_law_12 (g : GE) (J : Nat → KT) : KT := i_aload 1 (i_cv fX10_readings g 0 9 (i_aload 2 (i_cv fX11_readings g 0 10 (i_iceq (i_jmp [true, true, true, true, true, false, false, false] (J 79)) (i_push (.int 0) (i_zreturn))))))
def bL_law_13 (g : GE) (J : Nat → KT) : KT := i_aload 1 (i_aload 0 (i_iload 4 (i_push (.int 1) (i_iadd (i_sli g (i_aload 0 (i_iload 4 (i_push (.int 2) (i_iadd (i_sli g (i_aload 3 (i_cs fL_reading g 4 (i_istore 5 (i_aload 2 (i_aload 0 (i_iload 4 (i_push (.int 1) (i_iadd (i_sli g (i_aload 0 (i_iload 4 (i_push (.int 2) (i_iadd (i_sli g (i_cv fX11_reading g 2 10 (i_istore 6 (i_aload 2 (i_cv fX11_thrown g 0 10 (i_iload 5 (i_iceq (i_iload 5 (i_ifne (i_jmp [true, true, true, true, true, false, false, false] (J 14)) (i_aload 3 (i_push (.int 0) (i_laload (i_iload 6 (i_i2l (i_lcmp (i_ifeq (i_jmp [true, true, true, true, true, false, false, false] (J 14)) (i_push (.int 0) (i_zreturn))))))))))) (i_push (.int 0) (i_zreturn))))))))))))))))))))))))))))))))
def bL_law_14 (g : GE) (J : Nat → KT) : KT := i_jmp [true, true, true, true, true, false, false, false] (J 79)
def bL_law_15 (g : GE) (J : Nat → KT) : KT := i_aload 1 (i_aload 0 (i_iload 4 (i_push (.int 1) (i_iadd (i_sli g (i_aload 3 (i_cs fL_alive g 3 (i_istore 5 (i_aload 2 (i_aload 0 (i_iload 4 (i_push (.int 1) (i_iadd (i_sli g (i_cv fX11_alive g 1 10 (i_istore 6 (i_aload 2 (i_cv fX11_thrown g 0 10 (i_iload 5 (i_iceq (i_iload 5 (i_ifne (i_jmp [true, true, true, true, true, false, false, false] (J 16)) (i_aload 3 (i_push (.int 0) (i_laload (i_iload 6 (i_i2l (i_lcmp (i_ifeq (i_jmp [true, true, true, true, true, false, false, false] (J 16)) (i_push (.int 0) (i_zreturn))))))))))) (i_push (.int 0) (i_zreturn))))))))))))))))))))))
def bL_law_16 (g : GE) (J : Nat → KT) : KT := i_jmp [true, true, true, true, true, false, false, false] (J 79)
def bL_law_17 (g : GE) (J : Nat → KT) : KT := i_aload 1 (i_cv fX10_bars g 0 9 (i_aload 2 (i_cv fX11_bars g 0 10 (i_iceq (i_jmp [true, true, true, true, true, false, false, false] (J 79)) (i_push (.int 0) (i_zreturn))))))
def bL_law_18 (g : GE) (J : Nat → KT) : KT := i_aload 1 (i_aload 0 (i_iload 4 (i_push (.int 1) (i_iadd (i_sli g (i_aload 0 (i_iload 4 (i_push (.int 2) (i_iadd (i_sli g (i_aload 0 (i_iload 4 (i_push (.int 3) (i_iadd (i_sli g (i_aload 3 (i_cs fL_gets g 5 (i_istore 5 (i_aload 2 (i_aload 0 (i_iload 4 (i_push (.int 1) (i_iadd (i_sli g (i_aload 0 (i_iload 4 (i_push (.int 2) (i_iadd (i_sli g (i_aload 0 (i_iload 4 (i_push (.int 3) (i_iadd (i_sli g (i_cv fX11_gets g 3 10 (i_istore 6 (i_aload 2 (i_cv fX11_thrown g 0 10 (i_iload 5 (i_iceq (i_iload 5 (i_ifne (i_jmp [true, true, true, true, true, false, false, false] (J 19)) (i_aload 3 (i_push (.int 0) (i_laload (i_iload 6 (i_i2l (i_lcmp (i_ifeq (i_jmp [true, true, true, true, true, false, false, false] (J 19)) (i_push (.int 0) (i_zreturn))))))))))) (i_push (.int 0) (i_zreturn))))))))))))))))))))))))))))))))))))))))))
def bL_law_19 (g : GE) (J : Nat → KT) : KT := i_jmp [true, true, true, true, true, false, false, false] (J 79)
def bL_law_20 (g : GE) (J : Nat → KT) : KT := i_aload 1 (i_aload 0 (i_iload 4 (i_push (.int 1) (i_iadd (i_sli g (i_aload 0 (i_iload 4 (i_push (.int 2) (i_iadd (i_sli g (i_aload 3 (i_cs fL_goes g 4 (i_istore 5 (i_aload 2 (i_aload 0 (i_iload 4 (i_push (.int 1) (i_iadd (i_sli g (i_aload 0 (i_iload 4 (i_push (.int 2) (i_iadd (i_sli g (i_cv fX11_goes g 2 10 (i_istore 6 (i_aload 2 (i_cv fX11_thrown g 0 10 (i_iload 5 (i_iceq (i_iload 5 (i_ifne (i_jmp [true, true, true, true, true, false, false, false] (J 21)) (i_aload 3 (i_push (.int 0) (i_laload (i_iload 6 (i_i2l (i_lcmp (i_ifeq (i_jmp [true, true, true, true, true, false, false, false] (J 21)) (i_push (.int 0) (i_zreturn))))))))))) (i_push (.int 0) (i_zreturn))))))))))))))))))))))))))))))))
def bL_law_21 (g : GE) (J : Nat → KT) : KT := i_jmp [true, true, true, true, true, false, false, false] (J 79)
def bL_law_22 (g : GE) (J : Nat → KT) : KT := i_aload 1 (i_aload 0 (i_iload 4 (i_push (.int 1) (i_iadd (i_sli g (i_aload 0 (i_iload 4 (i_push (.int 2) (i_iadd (i_sli g (i_aload 3 (i_cs fL_often g 4 (i_istore 5 (i_aload 2 (i_aload 0 (i_iload 4 (i_push (.int 1) (i_iadd (i_sli g (i_aload 0 (i_iload 4 (i_push (.int 2) (i_iadd (i_sli g (i_cv fX11_often g 2 10 (i_istore 6 (i_aload 2 (i_cv fX11_thrown g 0 10 (i_iload 5 (i_iceq (i_iload 5 (i_ifne (i_jmp [true, true, true, true, true, false, false, false] (J 23)) (i_aload 3 (i_push (.int 0) (i_laload (i_iload 6 (i_i2l (i_lcmp (i_ifeq (i_jmp [true, true, true, true, true, false, false, false] (J 23)) (i_push (.int 0) (i_zreturn))))))))))) (i_push (.int 0) (i_zreturn))))))))))))))))))))))))))))))))
def bL_law_23 (g : GE) (J : Nat → KT) : KT := i_jmp [true, true, true, true, true, false, false, false] (J 79)
def bL_law_24 (g : GE) (J : Nat → KT) : KT := i_aload 1 (i_aload 0 (i_iload 4 (i_push (.int 1) (i_iadd (i_sli g (i_aload 0 (i_iload 4 (i_push (.int 2) (i_iadd (i_sli g (i_aload 3 (i_cs fL_sure g 4 (i_istore 5 (i_aload 2 (i_aload 0 (i_iload 4 (i_push (.int 1) (i_iadd (i_sli g (i_aload 0 (i_iload 4 (i_push (.int 2) (i_iadd (i_sli g (i_cv fX11_sure g 2 10 (i_istore 6 (i_aload 2 (i_cv fX11_thrown g 0 10 (i_iload 5 (i_iceq (i_iload 5 (i_ifne (i_jmp [true, true, true, true, true, false, false, false] (J 26)) (i_aload 3 (i_push (.int 0) (i_laload (i_iload 6 (i_ifeq (i_push (.long 0) (i_jmp [true, true, true, true, true, false, false, false] (J 25))) (i_push (.long 1) (i_jmp [true, true, true, true, true, false, false, false] (J 25)))))))))) (i_push (.int 0) (i_zreturn))))))))))))))))))))))))))))))))
def bL_law_25 (g : GE) (J : Nat → KT) : KT := i_lcmp (i_ifeq (i_jmp [true, true, true, true, true, false, false, false] (J 26)) (i_push (.int 0) (i_zreturn)))
def bL_law_26 (g : GE) (J : Nat → KT) : KT := i_jmp [true, true, true, true, true, false, false, false] (J 79)
def bL_law_27 (g : GE) (J : Nat → KT) : KT := i_aload 1 (i_aload 0 (i_iload 4 (i_push (.int 1) (i_iadd (i_sli g (i_aload 0 (i_iload 4 (i_push (.int 2) (i_iadd (i_sli g (i_aload 3 (i_cs fL_coin g 4 (i_istore 5 (i_aload 2 (i_aload 0 (i_iload 4 (i_push (.int 1) (i_iadd (i_sli g (i_aload 0 (i_iload 4 (i_push (.int 2) (i_iadd (i_sli g (i_cv fX11_coin g 2 10 (i_istore 6 (i_aload 2 (i_cv fX11_thrown g 0 10 (i_iload 5 (i_iceq (i_iload 5 (i_ifne (i_jmp [true, true, true, true, true, false, false, false] (J 28)) (i_aload 3 (i_push (.int 0) (i_laload (i_iload 6 (i_i2l (i_lcmp (i_ifeq (i_jmp [true, true, true, true, true, false, false, false] (J 28)) (i_push (.int 0) (i_zreturn))))))))))) (i_push (.int 0) (i_zreturn))))))))))))))))))))))))))))))))
def bL_law_28 (g : GE) (J : Nat → KT) : KT := i_jmp [true, true, true, true, true, false, false, false] (J 79)
def bL_law_29 (g : GE) (J : Nat → KT) : KT := i_aload 1 (i_aload 0 (i_iload 4 (i_push (.int 1) (i_iadd (i_sli g (i_aload 0 (i_iload 4 (i_push (.int 2) (i_iadd (i_sli g (i_aload 3 (i_cs fL_worth g 4 (i_istore 5 (i_aload 2 (i_aload 0 (i_iload 4 (i_push (.int 1) (i_iadd (i_sli g (i_aload 0 (i_iload 4 (i_push (.int 2) (i_iadd (i_sli g (i_cv fX11_worth g 2 10 (i_istore 6 (i_aload 2 (i_cv fX11_thrown g 0 10 (i_iload 5 (i_iceq (i_iload 5 (i_ifne (i_jmp [true, true, true, true, true, false, false, false] (J 30)) (i_aload 3 (i_push (.int 0) (i_laload (i_iload 6 (i_i2l (i_lcmp (i_ifeq (i_jmp [true, true, true, true, true, false, false, false] (J 30)) (i_push (.int 0) (i_zreturn))))))))))) (i_push (.int 0) (i_zreturn))))))))))))))))))))))))))))))))
def bL_law_30 (g : GE) (J : Nat → KT) : KT := i_jmp [true, true, true, true, true, false, false, false] (J 79)
def bL_law_31 (g : GE) (J : Nat → KT) : KT := i_aload 1 (i_aload 0 (i_iload 4 (i_push (.int 1) (i_iadd (i_sli g (i_aload 3 (i_cs fL_cleaned g 3 (i_istore 5 (i_aload 2 (i_aload 0 (i_iload 4 (i_push (.int 1) (i_iadd (i_sli g (i_cv fX11_cleaned g 1 10 (i_istore 6 (i_aload 2 (i_cv fX11_thrown g 0 10 (i_iload 5 (i_iceq (i_iload 5 (i_ifne (i_jmp [true, true, true, true, true, false, false, false] (J 32)) (i_aload 3 (i_push (.int 0) (i_laload (i_iload 6 (i_i2l (i_lcmp (i_ifeq (i_jmp [true, true, true, true, true, false, false, false] (J 32)) (i_push (.int 0) (i_zreturn))))))))))) (i_push (.int 0) (i_zreturn))))))))))))))))))))))
def bL_law_32 (g : GE) (J : Nat → KT) : KT := i_jmp [true, true, true, true, true, false, false, false] (J 79)
def bL_law_33 (g : GE) (J : Nat → KT) : KT := i_aload 1 (i_cv fX10_settles g 0 9 (i_aload 2 (i_cv fX11_settles g 0 10 (i_iceq (i_jmp [true, true, true, true, true, false, false, false] (J 79)) (i_push (.int 0) (i_zreturn))))))
def bL_law_34 (g : GE) (J : Nat → KT) : KT := i_aload 1 (i_aload 0 (i_iload 4 (i_push (.int 1) (i_iadd (i_sli g (i_aload 0 (i_iload 4 (i_push (.int 2) (i_iadd (i_sli g (i_aload 3 (i_cs fL_fewest g 4 (i_istore 5 (i_aload 2 (i_aload 0 (i_iload 4 (i_push (.int 1) (i_iadd (i_sli g (i_aload 0 (i_iload 4 (i_push (.int 2) (i_iadd (i_sli g (i_cv fX11_fewest g 2 10 (i_istore 6 (i_aload 2 (i_cv fX11_thrown g 0 10 (i_iload 5 (i_iceq (i_iload 5 (i_ifne (i_jmp [true, true, true, true, true, false, false, false] (J 35)) (i_aload 3 (i_push (.int 0) (i_laload (i_iload 6 (i_i2l (i_lcmp (i_ifeq (i_jmp [true, true, true, true, true, false, false, false] (J 35)) (i_push (.int 0) (i_zreturn))))))))))) (i_push (.int 0) (i_zreturn))))))))))))))))))))))))))))))))
def bL_law_35 (g : GE) (J : Nat → KT) : KT := i_jmp [true, true, true, true, true, false, false, false] (J 79)
def bL_law_36 (g : GE) (J : Nat → KT) : KT := i_aload 1 (i_aload 0 (i_iload 4 (i_push (.int 1) (i_iadd (i_sli g (i_aload 0 (i_iload 4 (i_push (.int 2) (i_iadd (i_sli g (i_aload 3 (i_cs fL_sway g 4 (i_istore 5 (i_aload 2 (i_aload 0 (i_iload 4 (i_push (.int 1) (i_iadd (i_sli g (i_aload 0 (i_iload 4 (i_push (.int 2) (i_iadd (i_sli g (i_cv fX11_sway g 2 10 (i_istore 6 (i_aload 2 (i_cv fX11_thrown g 0 10 (i_iload 5 (i_iceq (i_iload 5 (i_ifne (i_jmp [true, true, true, true, true, false, false, false] (J 37)) (i_aload 3 (i_push (.int 0) (i_laload (i_iload 6 (i_i2l (i_lcmp (i_ifeq (i_jmp [true, true, true, true, true, false, false, false] (J 37)) (i_push (.int 0) (i_zreturn))))))))))) (i_push (.int 0) (i_zreturn))))))))))))))))))))))))))))))))
def bL_law_37 (g : GE) (J : Nat → KT) : KT := i_jmp [true, true, true, true, true, false, false, false] (J 79)
def bL_law_38 (g : GE) (J : Nat → KT) : KT := i_aload 1 (i_aload 0 (i_iload 4 (i_push (.int 1) (i_iadd (i_sli g (i_aload 3 (i_cs fL_gains g 3 (i_istore 5 (i_aload 2 (i_aload 0 (i_iload 4 (i_push (.int 1) (i_iadd (i_sli g (i_cv fX11_gains g 1 10 (i_istore 6 (i_aload 2 (i_cv fX11_thrown g 0 10 (i_iload 5 (i_iceq (i_iload 5 (i_ifne (i_jmp [true, true, true, true, true, false, false, false] (J 39)) (i_aload 3 (i_push (.int 0) (i_laload (i_iload 6 (i_i2l (i_lcmp (i_ifeq (i_jmp [true, true, true, true, true, false, false, false] (J 39)) (i_push (.int 0) (i_zreturn))))))))))) (i_push (.int 0) (i_zreturn))))))))))))))))))))))
def bL_law_39 (g : GE) (J : Nat → KT) : KT := i_jmp [true, true, true, true, true, false, false, false] (J 79)
def bL_law_40 (g : GE) (J : Nat → KT) : KT := i_aload 1 (i_aload 0 (i_iload 4 (i_push (.int 1) (i_iadd (i_sli g (i_aload 3 (i_cs fL_settlement g 3 (i_istore 5 (i_aload 2 (i_aload 0 (i_iload 4 (i_push (.int 1) (i_iadd (i_sli g (i_cv fX11_settlement g 1 10 (i_istore 6 (i_aload 2 (i_cv fX11_thrown g 0 10 (i_iload 5 (i_iceq (i_iload 5 (i_ifne (i_jmp [true, true, true, true, true, false, false, false] (J 41)) (i_aload 3 (i_push (.int 0) (i_laload (i_iload 6 (i_i2l (i_lcmp (i_ifeq (i_jmp [true, true, true, true, true, false, false, false] (J 41)) (i_push (.int 0) (i_zreturn))))))))))) (i_push (.int 0) (i_zreturn))))))))))))))))))))))
def bL_law_41 (g : GE) (J : Nat → KT) : KT := i_jmp [true, true, true, true, true, false, false, false] (J 79)
def bL_law_42 (g : GE) (J : Nat → KT) : KT := i_aload 1 (i_aload 0 (i_iload 4 (i_push (.int 1) (i_iadd (i_sli g (i_aload 0 (i_iload 4 (i_push (.int 2) (i_iadd (i_sli g (i_aload 0 (i_iload 4 (i_push (.int 3) (i_iadd (i_sli g (i_aload 3 (i_cs fL_copy g 5 (i_istore 5 (i_aload 2 (i_aload 0 (i_iload 4 (i_push (.int 1) (i_iadd (i_sli g (i_aload 0 (i_iload 4 (i_push (.int 2) (i_iadd (i_sli g (i_aload 0 (i_iload 4 (i_push (.int 3) (i_iadd (i_sli g (i_cv fX11_copy g 3 10 (i_istore 6 (i_aload 2 (i_cv fX11_thrown g 0 10 (i_iload 5 (i_iceq (i_iload 5 (i_ifne (i_jmp [true, true, true, true, true, false, false, false] (J 43)) (i_aload 3 (i_push (.int 0) (i_laload (i_iload 6 (i_i2l (i_lcmp (i_ifeq (i_jmp [true, true, true, true, true, false, false, false] (J 43)) (i_push (.int 0) (i_zreturn))))))))))) (i_push (.int 0) (i_zreturn))))))))))))))))))))))))))))))))))))))))))
def bL_law_43 (g : GE) (J : Nat → KT) : KT := i_jmp [true, true, true, true, true, false, false, false] (J 79)
def bL_law_44 (g : GE) (J : Nat → KT) : KT := i_aload 1 (i_aload 0 (i_iload 4 (i_push (.int 1) (i_iadd (i_sli g (i_aload 0 (i_iload 4 (i_push (.int 2) (i_iadd (i_sli g (i_aload 0 (i_iload 4 (i_push (.int 3) (i_iadd (i_sli g (i_aload 0 (i_iload 4 (i_push (.int 4) (i_iadd (i_sli g (i_aload 3 (i_cs fL_habit g 6 (i_istore 5 (i_aload 2 (i_aload 0 (i_iload 4 (i_push (.int 1) (i_iadd (i_sli g (i_aload 0 (i_iload 4 (i_push (.int 2) (i_iadd (i_sli g (i_aload 0 (i_iload 4 (i_push (.int 3) (i_iadd (i_sli g (i_aload 0 (i_iload 4 (i_push (.int 4) (i_iadd (i_sli g (i_cv fX11_habit g 4 10 (i_istore 6 (i_aload 2 (i_cv fX11_thrown g 0 10 (i_iload 5 (i_iceq (i_iload 5 (i_ifne (i_jmp [true, true, true, true, true, false, false, false] (J 45)) (i_aload 3 (i_push (.int 0) (i_laload (i_iload 6 (i_i2l (i_lcmp (i_ifeq (i_jmp [true, true, true, true, true, false, false, false] (J 45)) (i_push (.int 0) (i_zreturn))))))))))) (i_push (.int 0) (i_zreturn))))))))))))))))))))))))))))))))))))))))))))))))))))
def bL_law_45 (g : GE) (J : Nat → KT) : KT := i_jmp [true, true, true, true, true, false, false, false] (J 79)
def bL_law_46 (g : GE) (J : Nat → KT) : KT := i_aload 1 (i_cv fX10_forget g 0 9 (i_aload 2 (i_cv fX11_forget g 0 10 (i_iceq (i_jmp [true, true, true, true, true, false, false, false] (J 79)) (i_push (.int 0) (i_zreturn))))))
def bL_law_47 (g : GE) (J : Nat → KT) : KT := i_aload 1 (i_aload 0 (i_iload 4 (i_push (.int 1) (i_iadd (i_sli g (i_aload 3 (i_cs fL_odds g 3 (i_istore 5 (i_aload 2 (i_aload 0 (i_iload 4 (i_push (.int 1) (i_iadd (i_sli g (i_cv fX11_odds g 1 10 (i_lstore 6 (i_aload 2 (i_cv fX11_thrown g 0 10 (i_iload 5 (i_iceq (i_iload 5 (i_ifne (i_jmp [true, true, true, true, true, false, false, false] (J 48)) (i_aload 3 (i_push (.int 0) (i_laload (i_lload 6 (i_lcmp (i_ifeq (i_jmp [true, true, true, true, true, false, false, false] (J 48)) (i_push (.int 0) (i_zreturn)))))))))) (i_push (.int 0) (i_zreturn))))))))))))))))))))))
def bL_law_48 (g : GE) (J : Nat → KT) : KT := i_jmp [true, true, true, true, true, false, false, false] (J 79)
def bL_law_49 (g : GE) (J : Nat → KT) : KT := i_aload 1 (i_aload 0 (i_iload 4 (i_push (.int 1) (i_iadd (i_sli g (i_aload 0 (i_iload 4 (i_push (.int 2) (i_iadd (i_sli g (i_aload 0 (i_iload 4 (i_push (.int 3) (i_iadd (i_sli g (i_aload 3 (i_cs fL_likely g 5 (i_istore 5 (i_aload 2 (i_aload 0 (i_iload 4 (i_push (.int 1) (i_iadd (i_sli g (i_aload 0 (i_iload 4 (i_push (.int 2) (i_iadd (i_sli g (i_aload 0 (i_iload 4 (i_push (.int 3) (i_iadd (i_sli g (i_cv fX11_likely g 3 10 (i_lstore 6 (i_aload 2 (i_cv fX11_thrown g 0 10 (i_iload 5 (i_iceq (i_iload 5 (i_ifne (i_jmp [true, true, true, true, true, false, false, false] (J 50)) (i_aload 3 (i_push (.int 0) (i_laload (i_lload 6 (i_lcmp (i_ifeq (i_jmp [true, true, true, true, true, false, false, false] (J 50)) (i_push (.int 0) (i_zreturn)))))))))) (i_push (.int 0) (i_zreturn))))))))))))))))))))))))))))))))))))))))))
def bL_law_50 (g : GE) (J : Nat → KT) : KT := i_jmp [true, true, true, true, true, false, false, false] (J 79)
def bL_law_51 (g : GE) (J : Nat → KT) : KT := i_aload 1 (i_cv fX10_likeliest g 0 9 (i_aload 2 (i_cv fX11_likeliest g 0 10 (i_iceq (i_jmp [true, true, true, true, true, false, false, false] (J 79)) (i_push (.int 0) (i_zreturn))))))
def bL_law_52 (g : GE) (J : Nat → KT) : KT := i_aload 1 (i_aload 0 (i_iload 4 (i_push (.int 1) (i_iadd (i_sli g (i_aload 3 (i_cs fL_slips g 3 (i_istore 5 (i_aload 2 (i_aload 0 (i_iload 4 (i_push (.int 1) (i_iadd (i_sli g (i_cv fX11_slips g 1 10 (i_istore 6 (i_aload 2 (i_cv fX11_thrown g 0 10 (i_iload 5 (i_iceq (i_iload 5 (i_ifne (i_jmp [true, true, true, true, true, false, false, false] (J 53)) (i_aload 3 (i_push (.int 0) (i_laload (i_iload 6 (i_i2l (i_lcmp (i_ifeq (i_jmp [true, true, true, true, true, false, false, false] (J 53)) (i_push (.int 0) (i_zreturn))))))))))) (i_push (.int 0) (i_zreturn))))))))))))))))))))))
def bL_law_53 (g : GE) (J : Nat → KT) : KT := i_jmp [true, true, true, true, true, false, false, false] (J 79)
def bL_law_54 (g : GE) (J : Nat → KT) : KT := i_aload 1 (i_aload 0 (i_iload 4 (i_push (.int 1) (i_iadd (i_sli g (i_aload 0 (i_iload 4 (i_push (.int 2) (i_iadd (i_sli g (i_aload 3 (i_cs fL_more g 4 (i_istore 5 (i_aload 2 (i_aload 0 (i_iload 4 (i_push (.int 1) (i_iadd (i_sli g (i_aload 0 (i_iload 4 (i_push (.int 2) (i_iadd (i_sli g (i_cv fX11_more g 2 10 (i_istore 6 (i_aload 2 (i_cv fX11_thrown g 0 10 (i_iload 5 (i_iceq (i_iload 5 (i_ifne (i_jmp [true, true, true, true, true, false, false, false] (J 55)) (i_aload 3 (i_push (.int 0) (i_laload (i_iload 6 (i_i2l (i_lcmp (i_ifeq (i_jmp [true, true, true, true, true, false, false, false] (J 55)) (i_push (.int 0) (i_zreturn))))))))))) (i_push (.int 0) (i_zreturn))))))))))))))))))))))))))))))))
def bL_law_55 (g : GE) (J : Nat → KT) : KT := i_jmp [true, true, true, true, true, false, false, false] (J 79)
def bL_law_56 (g : GE) (J : Nat → KT) : KT := i_aload 1 (i_aload 0 (i_iload 4 (i_push (.int 1) (i_iadd (i_sli g (i_aload 3 (i_cs fL_weak g 3 (i_istore 5 (i_aload 2 (i_aload 0 (i_iload 4 (i_push (.int 1) (i_iadd (i_sli g (i_cv fX11_weak g 1 10 (i_istore 6 (i_aload 2 (i_cv fX11_thrown g 0 10 (i_iload 5 (i_iceq (i_iload 5 (i_ifne (i_jmp [true, true, true, true, true, false, false, false] (J 57)) (i_aload 3 (i_push (.int 0) (i_laload (i_iload 6 (i_i2l (i_lcmp (i_ifeq (i_jmp [true, true, true, true, true, false, false, false] (J 57)) (i_push (.int 0) (i_zreturn))))))))))) (i_push (.int 0) (i_zreturn))))))))))))))))))))))
def bL_law_57 (g : GE) (J : Nat → KT) : KT := i_jmp [true, true, true, true, true, false, false, false] (J 79)
def bL_law_58 (g : GE) (J : Nat → KT) : KT := i_aload 1 (i_aload 0 (i_iload 4 (i_push (.int 1) (i_iadd (i_sli g (i_aload 0 (i_iload 4 (i_push (.int 2) (i_iadd (i_sli g (i_aload 3 (i_cs fL_holding g 4 (i_istore 5 (i_aload 2 (i_aload 0 (i_iload 4 (i_push (.int 1) (i_iadd (i_sli g (i_aload 0 (i_iload 4 (i_push (.int 2) (i_iadd (i_sli g (i_cv fX11_holding g 2 10 (i_istore 6 (i_aload 2 (i_cv fX11_thrown g 0 10 (i_iload 5 (i_iceq (i_iload 5 (i_ifne (i_jmp [true, true, true, true, true, false, false, false] (J 59)) (i_aload 3 (i_push (.int 0) (i_laload (i_iload 6 (i_i2l (i_lcmp (i_ifeq (i_jmp [true, true, true, true, true, false, false, false] (J 59)) (i_push (.int 0) (i_zreturn))))))))))) (i_push (.int 0) (i_zreturn))))))))))))))))))))))))))))))))
def bL_law_59 (g : GE) (J : Nat → KT) : KT := i_jmp [true, true, true, true, true, false, false, false] (J 79)
def bL_law_60 (g : GE) (J : Nat → KT) : KT := i_aload 1 (i_aload 0 (i_iload 4 (i_push (.int 1) (i_iadd (i_sli g (i_aload 3 (i_cs fL_struck g 3 (i_istore 5 (i_aload 2 (i_aload 0 (i_iload 4 (i_push (.int 1) (i_iadd (i_sli g (i_cv fX11_struck g 1 10 (i_istore 6 (i_aload 2 (i_cv fX11_thrown g 0 10 (i_iload 5 (i_iceq (i_iload 5 (i_ifne (i_jmp [true, true, true, true, true, false, false, false] (J 61)) (i_aload 3 (i_push (.int 0) (i_laload (i_iload 6 (i_i2l (i_lcmp (i_ifeq (i_jmp [true, true, true, true, true, false, false, false] (J 61)) (i_push (.int 0) (i_zreturn))))))))))) (i_push (.int 0) (i_zreturn))))))))))))))))))))))
def bL_law_61 (g : GE) (J : Nat → KT) : KT := i_jmp [true, true, true, true, true, false, false, false] (J 79)
def bL_law_62 (g : GE) (J : Nat → KT) : KT := i_aload 1 (i_aload 0 (i_iload 4 (i_push (.int 1) (i_iadd (i_sli g (i_aload 0 (i_iload 4 (i_push (.int 2) (i_iadd (i_sli g (i_aload 3 (i_cs fL_apart g 4 (i_istore 5 (i_aload 2 (i_aload 0 (i_iload 4 (i_push (.int 1) (i_iadd (i_sli g (i_aload 0 (i_iload 4 (i_push (.int 2) (i_iadd (i_sli g (i_cv fX11_apart g 2 10 (i_istore 6 (i_aload 2 (i_cv fX11_thrown g 0 10 (i_iload 5 (i_iceq (i_iload 5 (i_ifne (i_jmp [true, true, true, true, true, false, false, false] (J 63)) (i_aload 3 (i_push (.int 0) (i_laload (i_iload 6 (i_i2l (i_lcmp (i_ifeq (i_jmp [true, true, true, true, true, false, false, false] (J 63)) (i_push (.int 0) (i_zreturn))))))))))) (i_push (.int 0) (i_zreturn))))))))))))))))))))))))))))))))
def bL_law_63 (g : GE) (J : Nat → KT) : KT := i_jmp [true, true, true, true, true, false, false, false] (J 79)
def bL_law_64 (g : GE) (J : Nat → KT) : KT := i_aload 1 (i_aload 0 (i_iload 4 (i_push (.int 1) (i_iadd (i_sli g (i_aload 3 (i_cs fL_middle g 3 (i_istore 5 (i_aload 2 (i_aload 0 (i_iload 4 (i_push (.int 1) (i_iadd (i_sli g (i_cv fX11_middle g 1 10 (i_istore 6 (i_aload 2 (i_cv fX11_thrown g 0 10 (i_iload 5 (i_iceq (i_iload 5 (i_ifne (i_jmp [true, true, true, true, true, false, false, false] (J 65)) (i_aload 3 (i_push (.int 0) (i_laload (i_iload 6 (i_i2l (i_lcmp (i_ifeq (i_jmp [true, true, true, true, true, false, false, false] (J 65)) (i_push (.int 0) (i_zreturn))))))))))) (i_push (.int 0) (i_zreturn))))))))))))))))))))))
def bL_law_65 (g : GE) (J : Nat → KT) : KT := i_jmp [true, true, true, true, true, false, false, false] (J 79)
def bL_law_66 (g : GE) (J : Nat → KT) : KT := i_aload 1 (i_aload 0 (i_iload 4 (i_push (.int 1) (i_iadd (i_sli g (i_aload 0 (i_iload 4 (i_push (.int 2) (i_iadd (i_sli g (i_aload 0 (i_iload 4 (i_push (.int 3) (i_iadd (i_sli g (i_aload 0 (i_iload 4 (i_push (.int 4) (i_iadd (i_sli g (i_aload 3 (i_cs fL_when g 6 (i_istore 5 (i_aload 2 (i_aload 0 (i_iload 4 (i_push (.int 1) (i_iadd (i_sli g (i_aload 0 (i_iload 4 (i_push (.int 2) (i_iadd (i_sli g (i_aload 0 (i_iload 4 (i_push (.int 3) (i_iadd (i_sli g (i_aload 0 (i_iload 4 (i_push (.int 4) (i_iadd (i_sli g (i_cv fX11_when g 4 10 (i_istore 6 (i_aload 2 (i_cv fX11_thrown g 0 10 (i_iload 5 (i_iceq (i_iload 5 (i_ifne (i_jmp [true, true, true, true, true, false, false, false] (J 67)) (i_aload 3 (i_push (.int 0) (i_laload (i_iload 6 (i_i2l (i_lcmp (i_ifeq (i_jmp [true, true, true, true, true, false, false, false] (J 67)) (i_push (.int 0) (i_zreturn))))))))))) (i_push (.int 0) (i_zreturn))))))))))))))))))))))))))))))))))))))))))))))))))))
def bL_law_67 (g : GE) (J : Nat → KT) : KT := i_jmp [true, true, true, true, true, false, false, false] (J 79)
def bL_law_68 (g : GE) (J : Nat → KT) : KT := i_aload 1 (i_aload 0 (i_iload 4 (i_push (.int 1) (i_iadd (i_sli g (i_aload 0 (i_iload 4 (i_push (.int 2) (i_iadd (i_sli g (i_aload 0 (i_iload 4 (i_push (.int 3) (i_iadd (i_sli g (i_aload 3 (i_cs fL_steps g 5 (i_istore 5 (i_aload 2 (i_aload 0 (i_iload 4 (i_push (.int 1) (i_iadd (i_sli g (i_aload 0 (i_iload 4 (i_push (.int 2) (i_iadd (i_sli g (i_aload 0 (i_iload 4 (i_push (.int 3) (i_iadd (i_sli g (i_cv fX11_steps g 3 10 (i_istore 6 (i_aload 2 (i_cv fX11_thrown g 0 10 (i_iload 5 (i_iceq (i_iload 5 (i_ifne (i_jmp [true, true, true, true, true, false, false, false] (J 69)) (i_aload 3 (i_push (.int 0) (i_laload (i_iload 6 (i_i2l (i_lcmp (i_ifeq (i_jmp [true, true, true, true, true, false, false, false] (J 69)) (i_push (.int 0) (i_zreturn))))))))))) (i_push (.int 0) (i_zreturn))))))))))))))))))))))))))))))))))))))))))
def bL_law_69 (g : GE) (J : Nat → KT) : KT := i_jmp [true, true, true, true, true, false, false, false] (J 79)
def bL_law_70 (g : GE) (J : Nat → KT) : KT := i_aload 1 (i_aload 0 (i_iload 4 (i_push (.int 1) (i_iadd (i_sli g (i_aload 0 (i_iload 4 (i_push (.int 2) (i_iadd (i_sli g (i_aload 3 (i_cs fL_pairs g 4 (i_istore 5 (i_aload 2 (i_aload 0 (i_iload 4 (i_push (.int 1) (i_iadd (i_sli g (i_aload 0 (i_iload 4 (i_push (.int 2) (i_iadd (i_sli g (i_cv fX11_pairs g 2 10 (i_istore 6 (i_aload 2 (i_cv fX11_thrown g 0 10 (i_iload 5 (i_iceq (i_iload 5 (i_ifne (i_jmp [true, true, true, true, true, false, false, false] (J 71)) (i_aload 3 (i_push (.int 0) (i_laload (i_iload 6 (i_i2l (i_lcmp (i_ifeq (i_jmp [true, true, true, true, true, false, false, false] (J 71)) (i_push (.int 0) (i_zreturn))))))))))) (i_push (.int 0) (i_zreturn))))))))))))))))))))))))))))))))
def bL_law_71 (g : GE) (J : Nat → KT) : KT := i_jmp [true, true, true, true, true, false, false, false] (J 79)
def bL_law_72 (g : GE) (J : Nat → KT) : KT := i_aload 1 (i_aload 0 (i_iload 4 (i_push (.int 1) (i_iadd (i_sli g (i_aload 3 (i_cs fL_rows g 3 (i_istore 5 (i_aload 2 (i_aload 0 (i_iload 4 (i_push (.int 1) (i_iadd (i_sli g (i_cv fX11_rows g 1 10 (i_istore 6 (i_aload 2 (i_cv fX11_thrown g 0 10 (i_iload 5 (i_iceq (i_iload 5 (i_ifne (i_jmp [true, true, true, true, true, false, false, false] (J 73)) (i_aload 3 (i_push (.int 0) (i_laload (i_iload 6 (i_i2l (i_lcmp (i_ifeq (i_jmp [true, true, true, true, true, false, false, false] (J 73)) (i_push (.int 0) (i_zreturn))))))))))) (i_push (.int 0) (i_zreturn))))))))))))))))))))))
def bL_law_73 (g : GE) (J : Nat → KT) : KT := i_jmp [true, true, true, true, true, false, false, false] (J 79)
def bL_law_74 (g : GE) (J : Nat → KT) : KT := i_aload 1 (i_cv fX10_bare g 0 9 (i_aload 2 (i_cv fX11_bare g 0 10 (i_iceq (i_jmp [true, true, true, true, true, false, false, false] (J 79)) (i_push (.int 0) (i_zreturn))))))
def bL_law_75 (g : GE) (J : Nat → KT) : KT := i_aload 1 (i_cv fX10_image g 0 9 (i_aload 2 (i_cv fX11_image g 0 10 (i_iceq (i_jmp [true, true, true, true, true, false, false, false] (J 79)) (i_push (.int 0) (i_zreturn))))))
def bL_law_76 (g : GE) (J : Nat → KT) : KT := i_aload 1 (i_cv fX10_restore g 0 9 (i_aload 2 (i_cv fX11_restore g 0 10 (i_iceq (i_jmp [true, true, true, true, true, false, false, false] (J 79)) (i_push (.int 0) (i_zreturn))))))
def bL_law_77 (g : GE) (J : Nat → KT) : KT := i_aload 1 (i_aload 0 (i_iload 4 (i_push (.int 1) (i_iadd (i_sli g (i_cv fX10_status g 1 9 (i_aload 2 (i_aload 0 (i_iload 4 (i_push (.int 1) (i_iadd (i_sli g (i_cv fX11_status g 1 10 (i_iceq (i_jmp [true, true, true, true, true, false, false, false] (J 79)) (i_push (.int 0) (i_zreturn))))))))))))))))
def bL_law_78 (g : GE) (J : Nat → KT) : KT := i_aload 1 (i_aload 0 (i_iload 4 (i_push (.int 1) (i_iadd (i_sli g (i_cv fX10_count g 1 9 (i_aload 2 (i_aload 0 (i_iload 4 (i_push (.int 1) (i_iadd (i_sli g (i_cv fX11_count g 1 10 (i_iceq (i_jmp [true, true, true, true, true, false, false, false] (J 79)) (i_push (.int 0) (i_zreturn))))))))))))))))
def bL_law_79 (g : GE) (J : Nat → KT) : KT := i_iinc 4 6 (i_jmp [true, true, true, true, true, false, false, false] (J 1))
theorem sbL_law_0 (g : GE) (J : Nat → KT) (h1 : Snd mL_law g 23 (J 1)) (h2 : Snd mL_law g 232 (J 2)) (h3 : Snd mL_law g 305 (J 3)) (h4 : Snd mL_law g 358 (J 4)) (h5 : Snd mL_law g 361 (J 5)) (h6 : Snd mL_law g 374 (J 6)) (h7 : Snd mL_law g 427 (J 7)) (h8 : Snd mL_law g 430 (J 8)) (h9 : Snd mL_law g 495 (J 9)) (h10 : Snd mL_law g 498 (J 10)) (h11 : Snd mL_law g 563 (J 11)) (h12 : Snd mL_law g 566 (J 12)) (h13 : Snd mL_law g 579 (J 13)) (h14 : Snd mL_law g 644 (J 14)) (h15 : Snd mL_law g 647 (J 15)) (h16 : Snd mL_law g 700 (J 16)) (h17 : Snd mL_law g 703 (J 17)) (h18 : Snd mL_law g 716 (J 18)) (h19 : Snd mL_law g 793 (J 19)) (h20 : Snd mL_law g 796 (J 20)) (h21 : Snd mL_law g 861 (J 21)) (h22 : Snd mL_law g 864 (J 22)) (h23 : Snd mL_law g 929 (J 23)) (h24 : Snd mL_law g 932 (J 24)) (h25 : Snd mL_law g 998 (J 25)) (h26 : Snd mL_law g 1004 (J 26)) (h27 : Snd mL_law g 1007 (J 27)) (h28 : Snd mL_law g 1072 (J 28)) (h29 : Snd mL_law g 1075 (J 29)) (h30 : Snd mL_law g 1140 (J 30)) (h31 : Snd mL_law g 1143 (J 31)) (h32 : Snd mL_law g 1196 (J 32)) (h33 : Snd mL_law g 1199 (J 33)) (h34 : Snd mL_law g 1212 (J 34)) (h35 : Snd mL_law g 1277 (J 35)) (h36 : Snd mL_law g 1280 (J 36)) (h37 : Snd mL_law g 1345 (J 37)) (h38 : Snd mL_law g 1348 (J 38)) (h39 : Snd mL_law g 1401 (J 39)) (h40 : Snd mL_law g 1404 (J 40)) (h41 : Snd mL_law g 1457 (J 41)) (h42 : Snd mL_law g 1460 (J 42)) (h43 : Snd mL_law g 1537 (J 43)) (h44 : Snd mL_law g 1540 (J 44)) (h45 : Snd mL_law g 1629 (J 45)) (h46 : Snd mL_law g 1632 (J 46)) (h47 : Snd mL_law g 1645 (J 47)) (h48 : Snd mL_law g 1697 (J 48)) (h49 : Snd mL_law g 1700 (J 49)) (h50 : Snd mL_law g 1776 (J 50)) (h51 : Snd mL_law g 1779 (J 51)) (h52 : Snd mL_law g 1792 (J 52)) (h53 : Snd mL_law g 1845 (J 53)) (h54 : Snd mL_law g 1848 (J 54)) (h55 : Snd mL_law g 1913 (J 55)) (h56 : Snd mL_law g 1916 (J 56)) (h57 : Snd mL_law g 1969 (J 57)) (h58 : Snd mL_law g 1972 (J 58)) (h59 : Snd mL_law g 2037 (J 59)) (h60 : Snd mL_law g 2040 (J 60)) (h61 : Snd mL_law g 2093 (J 61)) (h62 : Snd mL_law g 2096 (J 62)) (h63 : Snd mL_law g 2161 (J 63)) (h64 : Snd mL_law g 2164 (J 64)) (h65 : Snd mL_law g 2217 (J 65)) (h66 : Snd mL_law g 2220 (J 66)) (h67 : Snd mL_law g 2309 (J 67)) (h68 : Snd mL_law g 2312 (J 68)) (h69 : Snd mL_law g 2389 (J 69)) (h70 : Snd mL_law g 2392 (J 70)) (h71 : Snd mL_law g 2457 (J 71)) (h72 : Snd mL_law g 2460 (J 72)) (h73 : Snd mL_law g 2513 (J 73)) (h74 : Snd mL_law g 2516 (J 74)) (h75 : Snd mL_law g 2529 (J 75)) (h76 : Snd mL_law g 2542 (J 76)) (h77 : Snd mL_law g 2555 (J 77)) (h78 : Snd mL_law g 2580 (J 78)) (h79 : Snd mL_law g 2605 (J 79)) : Snd mL_law g 0 (bL_law_0 g J) := by
  unfold bL_law_0
  refine s_new (pc := 0) (ci := 9) (N := 13) (T := TX10) (ty0 := tyX10) ?_ ginX10 tyX10_ok rfl wt_29 wt_30 wt_1 (by decide) dL_law_0
  refine s_dup (pc := 3) ?_ dL_law_3
  refine s_ci (pc := 4) (n := 0) ?_ tX10_init rfl wt_31 wt_32 wt_1 wt_33 ⟨crX10_init, by decide, by decide⟩ dL_law_4
  refine s_astore_n (pc := 7) (i := 1) ?_ dL_law_7 rfl (by decide)
  refine s_new (pc := 8) (ci := 10) (N := 50) (T := TX11) (ty0 := tyX11) ?_ ginX11 tyX11_ok rfl wt_1365 wt_1366 wt_17 (by decide) dL_law_8
  refine s_dup (pc := 11) ?_ dL_law_11
  refine s_ci (pc := 12) (n := 0) ?_ tX11_init rfl wt_1367 wt_1368 wt_17 wt_1369 ⟨crX11_init, by decide, by decide⟩ dL_law_12
  refine s_astore_n (pc := 15) (i := 2) ?_ dL_law_15 rfl (by decide)
  refine s_iconst (pc := 16) (v := 1) ?_ dL_law_16 (by decide)
  refine s_newarr (pc := 17) (t := 1) ?_ (by decide) rfl wt_69 dL_law_17
  refine s_astore_n (pc := 19) (i := 3) ?_ dL_law_19 rfl (by decide)
  refine s_iconst (pc := 20) (v := 0) ?_ dL_law_20 (by decide)
  refine s_istore (pc := 21) (i := 4) ?_ dL_law_21 (by decide)
  exact s_fall (pc := 23) h1
theorem sbL_law_1 (g : GE) (J : Nat → KT) (h1 : Snd mL_law g 23 (J 1)) (h2 : Snd mL_law g 232 (J 2)) (h3 : Snd mL_law g 305 (J 3)) (h4 : Snd mL_law g 358 (J 4)) (h5 : Snd mL_law g 361 (J 5)) (h6 : Snd mL_law g 374 (J 6)) (h7 : Snd mL_law g 427 (J 7)) (h8 : Snd mL_law g 430 (J 8)) (h9 : Snd mL_law g 495 (J 9)) (h10 : Snd mL_law g 498 (J 10)) (h11 : Snd mL_law g 563 (J 11)) (h12 : Snd mL_law g 566 (J 12)) (h13 : Snd mL_law g 579 (J 13)) (h14 : Snd mL_law g 644 (J 14)) (h15 : Snd mL_law g 647 (J 15)) (h16 : Snd mL_law g 700 (J 16)) (h17 : Snd mL_law g 703 (J 17)) (h18 : Snd mL_law g 716 (J 18)) (h19 : Snd mL_law g 793 (J 19)) (h20 : Snd mL_law g 796 (J 20)) (h21 : Snd mL_law g 861 (J 21)) (h22 : Snd mL_law g 864 (J 22)) (h23 : Snd mL_law g 929 (J 23)) (h24 : Snd mL_law g 932 (J 24)) (h25 : Snd mL_law g 998 (J 25)) (h26 : Snd mL_law g 1004 (J 26)) (h27 : Snd mL_law g 1007 (J 27)) (h28 : Snd mL_law g 1072 (J 28)) (h29 : Snd mL_law g 1075 (J 29)) (h30 : Snd mL_law g 1140 (J 30)) (h31 : Snd mL_law g 1143 (J 31)) (h32 : Snd mL_law g 1196 (J 32)) (h33 : Snd mL_law g 1199 (J 33)) (h34 : Snd mL_law g 1212 (J 34)) (h35 : Snd mL_law g 1277 (J 35)) (h36 : Snd mL_law g 1280 (J 36)) (h37 : Snd mL_law g 1345 (J 37)) (h38 : Snd mL_law g 1348 (J 38)) (h39 : Snd mL_law g 1401 (J 39)) (h40 : Snd mL_law g 1404 (J 40)) (h41 : Snd mL_law g 1457 (J 41)) (h42 : Snd mL_law g 1460 (J 42)) (h43 : Snd mL_law g 1537 (J 43)) (h44 : Snd mL_law g 1540 (J 44)) (h45 : Snd mL_law g 1629 (J 45)) (h46 : Snd mL_law g 1632 (J 46)) (h47 : Snd mL_law g 1645 (J 47)) (h48 : Snd mL_law g 1697 (J 48)) (h49 : Snd mL_law g 1700 (J 49)) (h50 : Snd mL_law g 1776 (J 50)) (h51 : Snd mL_law g 1779 (J 51)) (h52 : Snd mL_law g 1792 (J 52)) (h53 : Snd mL_law g 1845 (J 53)) (h54 : Snd mL_law g 1848 (J 54)) (h55 : Snd mL_law g 1913 (J 55)) (h56 : Snd mL_law g 1916 (J 56)) (h57 : Snd mL_law g 1969 (J 57)) (h58 : Snd mL_law g 1972 (J 58)) (h59 : Snd mL_law g 2037 (J 59)) (h60 : Snd mL_law g 2040 (J 60)) (h61 : Snd mL_law g 2093 (J 61)) (h62 : Snd mL_law g 2096 (J 62)) (h63 : Snd mL_law g 2161 (J 63)) (h64 : Snd mL_law g 2164 (J 64)) (h65 : Snd mL_law g 2217 (J 65)) (h66 : Snd mL_law g 2220 (J 66)) (h67 : Snd mL_law g 2309 (J 67)) (h68 : Snd mL_law g 2312 (J 68)) (h69 : Snd mL_law g 2389 (J 69)) (h70 : Snd mL_law g 2392 (J 70)) (h71 : Snd mL_law g 2457 (J 71)) (h72 : Snd mL_law g 2460 (J 72)) (h73 : Snd mL_law g 2513 (J 73)) (h74 : Snd mL_law g 2516 (J 74)) (h75 : Snd mL_law g 2529 (J 75)) (h76 : Snd mL_law g 2542 (J 76)) (h77 : Snd mL_law g 2555 (J 77)) (h78 : Snd mL_law g 2580 (J 78)) (h79 : Snd mL_law g 2605 (J 79)) : Snd mL_law g 23 (bL_law_1 g J) := by
  unfold bL_law_1
  refine s_iload (pc := 23) (i := 4) ?_ dL_law_23
  refine s_aload_n (pc := 25) (i := 0) ?_ dL_law_25 rfl
  refine s_sla (pc := 26) ?_ dL_law_26
  refine s_bipush (pc := 27) (v := 6) ?_ dL_law_27 (by decide)
  refine s_isub (pc := 29) ?_ dL_law_29
  refine s_icgt (pc := 30) (tgt := 2611) ?_ ?_ dL_law_30 (by decide)
  · skip
    refine s_iconst (pc := 2611) (v := 1) ?_ dL_law_2611 (by decide)
    exact s_zreturn (pc := 2612) rfl dL_law_2612
  · skip
    refine s_aload_n (pc := 33) (i := 0) ?_ dL_law_33 rfl
    refine s_iload (pc := 34) (i := 4) ?_ dL_law_34
    refine s_sli (pc := 36) ?_ dL_law_36
    refine s_bipush (pc := 37) (v := 63) ?_ dL_law_37 (by decide)
    refine s_iand (pc := 39) ?_ dL_law_39
    refine s_tsw (pc := 40) (tgt := 2605) dL_law_40 ?_ (by decide) ?_
    · skip
      exact s_fall (pc := 2605) h79
    · intro j kj hj
      match j, hj with
      | 0, hj =>
        cases hj
        refine ⟨_, 232, rfl, by decide, ?_⟩
        exact s_fall (pc := 232) h2
      | 1, hj =>
        cases hj
        refine ⟨_, 305, rfl, by decide, ?_⟩
        exact s_fall (pc := 305) h3
      | 2, hj =>
        cases hj
        refine ⟨_, 361, rfl, by decide, ?_⟩
        exact s_fall (pc := 361) h5
      | 3, hj =>
        cases hj
        refine ⟨_, 374, rfl, by decide, ?_⟩
        exact s_fall (pc := 374) h6
      | 4, hj =>
        cases hj
        refine ⟨_, 430, rfl, by decide, ?_⟩
        exact s_fall (pc := 430) h8
      | 5, hj =>
        cases hj
        refine ⟨_, 498, rfl, by decide, ?_⟩
        exact s_fall (pc := 498) h10
      | 6, hj =>
        cases hj
        refine ⟨_, 566, rfl, by decide, ?_⟩
        exact s_fall (pc := 566) h12
      | 7, hj =>
        cases hj
        refine ⟨_, 579, rfl, by decide, ?_⟩
        exact s_fall (pc := 579) h13
      | 8, hj =>
        cases hj
        refine ⟨_, 647, rfl, by decide, ?_⟩
        exact s_fall (pc := 647) h15
      | 9, hj =>
        cases hj
        refine ⟨_, 703, rfl, by decide, ?_⟩
        exact s_fall (pc := 703) h17
      | 10, hj =>
        cases hj
        refine ⟨_, 716, rfl, by decide, ?_⟩
        exact s_fall (pc := 716) h18
      | 11, hj =>
        cases hj
        refine ⟨_, 796, rfl, by decide, ?_⟩
        exact s_fall (pc := 796) h20
      | 12, hj =>
        cases hj
        refine ⟨_, 864, rfl, by decide, ?_⟩
        exact s_fall (pc := 864) h22
      | 13, hj =>
        cases hj
        refine ⟨_, 932, rfl, by decide, ?_⟩
        exact s_fall (pc := 932) h24
      | 14, hj =>
        cases hj
        refine ⟨_, 1007, rfl, by decide, ?_⟩
        exact s_fall (pc := 1007) h27
      | 15, hj =>
        cases hj
        refine ⟨_, 1075, rfl, by decide, ?_⟩
        exact s_fall (pc := 1075) h29
      | 16, hj =>
        cases hj
        refine ⟨_, 1143, rfl, by decide, ?_⟩
        exact s_fall (pc := 1143) h31
      | 17, hj =>
        cases hj
        refine ⟨_, 1199, rfl, by decide, ?_⟩
        exact s_fall (pc := 1199) h33
      | 18, hj =>
        cases hj
        refine ⟨_, 1212, rfl, by decide, ?_⟩
        exact s_fall (pc := 1212) h34
      | 19, hj =>
        cases hj
        refine ⟨_, 1280, rfl, by decide, ?_⟩
        exact s_fall (pc := 1280) h36
      | 20, hj =>
        cases hj
        refine ⟨_, 1348, rfl, by decide, ?_⟩
        exact s_fall (pc := 1348) h38
      | 21, hj =>
        cases hj
        refine ⟨_, 1404, rfl, by decide, ?_⟩
        exact s_fall (pc := 1404) h40
      | 22, hj =>
        cases hj
        refine ⟨_, 1460, rfl, by decide, ?_⟩
        exact s_fall (pc := 1460) h42
      | 23, hj =>
        cases hj
        refine ⟨_, 1540, rfl, by decide, ?_⟩
        exact s_fall (pc := 1540) h44
      | 24, hj =>
        cases hj
        refine ⟨_, 1632, rfl, by decide, ?_⟩
        exact s_fall (pc := 1632) h46
      | 25, hj =>
        cases hj
        refine ⟨_, 1645, rfl, by decide, ?_⟩
        exact s_fall (pc := 1645) h47
      | 26, hj =>
        cases hj
        refine ⟨_, 1700, rfl, by decide, ?_⟩
        exact s_fall (pc := 1700) h49
      | 27, hj =>
        cases hj
        refine ⟨_, 1779, rfl, by decide, ?_⟩
        exact s_fall (pc := 1779) h51
      | 28, hj =>
        cases hj
        refine ⟨_, 1792, rfl, by decide, ?_⟩
        exact s_fall (pc := 1792) h52
      | 29, hj =>
        cases hj
        refine ⟨_, 1848, rfl, by decide, ?_⟩
        exact s_fall (pc := 1848) h54
      | 30, hj =>
        cases hj
        refine ⟨_, 1916, rfl, by decide, ?_⟩
        exact s_fall (pc := 1916) h56
      | 31, hj =>
        cases hj
        refine ⟨_, 1972, rfl, by decide, ?_⟩
        exact s_fall (pc := 1972) h58
      | 32, hj =>
        cases hj
        refine ⟨_, 2040, rfl, by decide, ?_⟩
        exact s_fall (pc := 2040) h60
      | 33, hj =>
        cases hj
        refine ⟨_, 2096, rfl, by decide, ?_⟩
        exact s_fall (pc := 2096) h62
      | 34, hj =>
        cases hj
        refine ⟨_, 2164, rfl, by decide, ?_⟩
        exact s_fall (pc := 2164) h64
      | 35, hj =>
        cases hj
        refine ⟨_, 2220, rfl, by decide, ?_⟩
        exact s_fall (pc := 2220) h66
      | 36, hj =>
        cases hj
        refine ⟨_, 2312, rfl, by decide, ?_⟩
        exact s_fall (pc := 2312) h68
      | 37, hj =>
        cases hj
        refine ⟨_, 2392, rfl, by decide, ?_⟩
        exact s_fall (pc := 2392) h70
      | 38, hj =>
        cases hj
        refine ⟨_, 2460, rfl, by decide, ?_⟩
        exact s_fall (pc := 2460) h72
      | 39, hj =>
        cases hj
        refine ⟨_, 2516, rfl, by decide, ?_⟩
        exact s_fall (pc := 2516) h74
      | 40, hj =>
        cases hj
        refine ⟨_, 2529, rfl, by decide, ?_⟩
        exact s_fall (pc := 2529) h75
      | 41, hj =>
        cases hj
        refine ⟨_, 2542, rfl, by decide, ?_⟩
        exact s_fall (pc := 2542) h76
      | 42, hj =>
        cases hj
        refine ⟨_, 2555, rfl, by decide, ?_⟩
        exact s_fall (pc := 2555) h77
      | 43, hj =>
        cases hj
        refine ⟨_, 2580, rfl, by decide, ?_⟩
        exact s_fall (pc := 2580) h78
      | j + 44, hj => simp at hj
theorem sbL_law_2 (g : GE) (J : Nat → KT) (h1 : Snd mL_law g 23 (J 1)) (h2 : Snd mL_law g 232 (J 2)) (h3 : Snd mL_law g 305 (J 3)) (h4 : Snd mL_law g 358 (J 4)) (h5 : Snd mL_law g 361 (J 5)) (h6 : Snd mL_law g 374 (J 6)) (h7 : Snd mL_law g 427 (J 7)) (h8 : Snd mL_law g 430 (J 8)) (h9 : Snd mL_law g 495 (J 9)) (h10 : Snd mL_law g 498 (J 10)) (h11 : Snd mL_law g 563 (J 11)) (h12 : Snd mL_law g 566 (J 12)) (h13 : Snd mL_law g 579 (J 13)) (h14 : Snd mL_law g 644 (J 14)) (h15 : Snd mL_law g 647 (J 15)) (h16 : Snd mL_law g 700 (J 16)) (h17 : Snd mL_law g 703 (J 17)) (h18 : Snd mL_law g 716 (J 18)) (h19 : Snd mL_law g 793 (J 19)) (h20 : Snd mL_law g 796 (J 20)) (h21 : Snd mL_law g 861 (J 21)) (h22 : Snd mL_law g 864 (J 22)) (h23 : Snd mL_law g 929 (J 23)) (h24 : Snd mL_law g 932 (J 24)) (h25 : Snd mL_law g 998 (J 25)) (h26 : Snd mL_law g 1004 (J 26)) (h27 : Snd mL_law g 1007 (J 27)) (h28 : Snd mL_law g 1072 (J 28)) (h29 : Snd mL_law g 1075 (J 29)) (h30 : Snd mL_law g 1140 (J 30)) (h31 : Snd mL_law g 1143 (J 31)) (h32 : Snd mL_law g 1196 (J 32)) (h33 : Snd mL_law g 1199 (J 33)) (h34 : Snd mL_law g 1212 (J 34)) (h35 : Snd mL_law g 1277 (J 35)) (h36 : Snd mL_law g 1280 (J 36)) (h37 : Snd mL_law g 1345 (J 37)) (h38 : Snd mL_law g 1348 (J 38)) (h39 : Snd mL_law g 1401 (J 39)) (h40 : Snd mL_law g 1404 (J 40)) (h41 : Snd mL_law g 1457 (J 41)) (h42 : Snd mL_law g 1460 (J 42)) (h43 : Snd mL_law g 1537 (J 43)) (h44 : Snd mL_law g 1540 (J 44)) (h45 : Snd mL_law g 1629 (J 45)) (h46 : Snd mL_law g 1632 (J 46)) (h47 : Snd mL_law g 1645 (J 47)) (h48 : Snd mL_law g 1697 (J 48)) (h49 : Snd mL_law g 1700 (J 49)) (h50 : Snd mL_law g 1776 (J 50)) (h51 : Snd mL_law g 1779 (J 51)) (h52 : Snd mL_law g 1792 (J 52)) (h53 : Snd mL_law g 1845 (J 53)) (h54 : Snd mL_law g 1848 (J 54)) (h55 : Snd mL_law g 1913 (J 55)) (h56 : Snd mL_law g 1916 (J 56)) (h57 : Snd mL_law g 1969 (J 57)) (h58 : Snd mL_law g 1972 (J 58)) (h59 : Snd mL_law g 2037 (J 59)) (h60 : Snd mL_law g 2040 (J 60)) (h61 : Snd mL_law g 2093 (J 61)) (h62 : Snd mL_law g 2096 (J 62)) (h63 : Snd mL_law g 2161 (J 63)) (h64 : Snd mL_law g 2164 (J 64)) (h65 : Snd mL_law g 2217 (J 65)) (h66 : Snd mL_law g 2220 (J 66)) (h67 : Snd mL_law g 2309 (J 67)) (h68 : Snd mL_law g 2312 (J 68)) (h69 : Snd mL_law g 2389 (J 69)) (h70 : Snd mL_law g 2392 (J 70)) (h71 : Snd mL_law g 2457 (J 71)) (h72 : Snd mL_law g 2460 (J 72)) (h73 : Snd mL_law g 2513 (J 73)) (h74 : Snd mL_law g 2516 (J 74)) (h75 : Snd mL_law g 2529 (J 75)) (h76 : Snd mL_law g 2542 (J 76)) (h77 : Snd mL_law g 2555 (J 77)) (h78 : Snd mL_law g 2580 (J 78)) (h79 : Snd mL_law g 2605 (J 79)) : Snd mL_law g 232 (bL_law_2 g J) := by
  unfold bL_law_2
  refine s_aload_n (pc := 232) (i := 1) ?_ dL_law_232 rfl
  refine s_aload_n (pc := 233) (i := 0) ?_ dL_law_233 rfl
  refine s_iload (pc := 234) (i := 4) ?_ dL_law_234
  refine s_iconst (pc := 236) (v := 1) ?_ dL_law_236 (by decide)
  refine s_iadd (pc := 237) ?_ dL_law_237
  refine s_sli (pc := 238) ?_ dL_law_238
  refine s_aload_n (pc := 239) (i := 0) ?_ dL_law_239 rfl
  refine s_iload (pc := 240) (i := 4) ?_ dL_law_240
  refine s_iconst (pc := 242) (v := 2) ?_ dL_law_242 (by decide)
  refine s_iadd (pc := 243) ?_ dL_law_243
  refine s_sli (pc := 244) ?_ dL_law_244
  refine s_aload_n (pc := 245) (i := 0) ?_ dL_law_245 rfl
  refine s_iload (pc := 246) (i := 4) ?_ dL_law_246
  refine s_iconst (pc := 248) (v := 3) ?_ dL_law_248 (by decide)
  refine s_iadd (pc := 249) ?_ dL_law_249
  refine s_sli (pc := 250) ?_ dL_law_250
  refine s_aload_n (pc := 251) (i := 0) ?_ dL_law_251 rfl
  refine s_iload (pc := 252) (i := 4) ?_ dL_law_252
  refine s_iconst (pc := 254) (v := 4) ?_ dL_law_254 (by decide)
  refine s_iadd (pc := 255) ?_ dL_law_255
  refine s_sli (pc := 256) ?_ dL_law_256
  refine s_aload_n (pc := 257) (i := 0) ?_ dL_law_257 rfl
  refine s_iload (pc := 258) (i := 4) ?_ dL_law_258
  refine s_iconst (pc := 260) (v := 5) ?_ dL_law_260 (by decide)
  refine s_iadd (pc := 261) ?_ dL_law_261
  refine s_sli (pc := 262) ?_ dL_law_262
  refine s_cv (pc := 263) (n := 5) (ci := 9) ?_ tX10_feed rfl rfl wt_494 wt_495 wt_496 wt_1 wt_497 ⟨crX10_feed, by decide, by decide⟩ dL_law_263
  refine s_aload_n (pc := 266) (i := 2) ?_ dL_law_266 rfl
  refine s_aload_n (pc := 267) (i := 0) ?_ dL_law_267 rfl
  refine s_iload (pc := 268) (i := 4) ?_ dL_law_268
  refine s_iconst (pc := 270) (v := 1) ?_ dL_law_270 (by decide)
  refine s_iadd (pc := 271) ?_ dL_law_271
  refine s_sli (pc := 272) ?_ dL_law_272
  refine s_aload_n (pc := 273) (i := 0) ?_ dL_law_273 rfl
  refine s_iload (pc := 274) (i := 4) ?_ dL_law_274
  refine s_iconst (pc := 276) (v := 2) ?_ dL_law_276 (by decide)
  refine s_iadd (pc := 277) ?_ dL_law_277
  refine s_sli (pc := 278) ?_ dL_law_278
  refine s_aload_n (pc := 279) (i := 0) ?_ dL_law_279 rfl
  refine s_iload (pc := 280) (i := 4) ?_ dL_law_280
  refine s_iconst (pc := 282) (v := 3) ?_ dL_law_282 (by decide)
  refine s_iadd (pc := 283) ?_ dL_law_283
  refine s_sli (pc := 284) ?_ dL_law_284
  refine s_aload_n (pc := 285) (i := 0) ?_ dL_law_285 rfl
  refine s_iload (pc := 286) (i := 4) ?_ dL_law_286
  refine s_iconst (pc := 288) (v := 4) ?_ dL_law_288 (by decide)
  refine s_iadd (pc := 289) ?_ dL_law_289
  refine s_sli (pc := 290) ?_ dL_law_290
  refine s_aload_n (pc := 291) (i := 0) ?_ dL_law_291 rfl
  refine s_iload (pc := 292) (i := 4) ?_ dL_law_292
  refine s_iconst (pc := 294) (v := 5) ?_ dL_law_294 (by decide)
  refine s_iadd (pc := 295) ?_ dL_law_295
  refine s_sli (pc := 296) ?_ dL_law_296
  refine s_cv (pc := 297) (n := 5) (ci := 10) ?_ tX11_feed rfl rfl wt_1549 wt_1550 wt_1551 wt_17 wt_1552 ⟨crX11_feed, by decide, by decide⟩ dL_law_297
  refine s_iceq (pc := 300) (tgt := 2605) ?_ ?_ dL_law_300 (by decide)
  · skip
    exact s_fall (pc := 2605) h79
  · skip
    refine s_iconst (pc := 303) (v := 0) ?_ dL_law_303 (by decide)
    exact s_zreturn (pc := 304) rfl dL_law_304
theorem sbL_law_3 (g : GE) (J : Nat → KT) (h1 : Snd mL_law g 23 (J 1)) (h2 : Snd mL_law g 232 (J 2)) (h3 : Snd mL_law g 305 (J 3)) (h4 : Snd mL_law g 358 (J 4)) (h5 : Snd mL_law g 361 (J 5)) (h6 : Snd mL_law g 374 (J 6)) (h7 : Snd mL_law g 427 (J 7)) (h8 : Snd mL_law g 430 (J 8)) (h9 : Snd mL_law g 495 (J 9)) (h10 : Snd mL_law g 498 (J 10)) (h11 : Snd mL_law g 563 (J 11)) (h12 : Snd mL_law g 566 (J 12)) (h13 : Snd mL_law g 579 (J 13)) (h14 : Snd mL_law g 644 (J 14)) (h15 : Snd mL_law g 647 (J 15)) (h16 : Snd mL_law g 700 (J 16)) (h17 : Snd mL_law g 703 (J 17)) (h18 : Snd mL_law g 716 (J 18)) (h19 : Snd mL_law g 793 (J 19)) (h20 : Snd mL_law g 796 (J 20)) (h21 : Snd mL_law g 861 (J 21)) (h22 : Snd mL_law g 864 (J 22)) (h23 : Snd mL_law g 929 (J 23)) (h24 : Snd mL_law g 932 (J 24)) (h25 : Snd mL_law g 998 (J 25)) (h26 : Snd mL_law g 1004 (J 26)) (h27 : Snd mL_law g 1007 (J 27)) (h28 : Snd mL_law g 1072 (J 28)) (h29 : Snd mL_law g 1075 (J 29)) (h30 : Snd mL_law g 1140 (J 30)) (h31 : Snd mL_law g 1143 (J 31)) (h32 : Snd mL_law g 1196 (J 32)) (h33 : Snd mL_law g 1199 (J 33)) (h34 : Snd mL_law g 1212 (J 34)) (h35 : Snd mL_law g 1277 (J 35)) (h36 : Snd mL_law g 1280 (J 36)) (h37 : Snd mL_law g 1345 (J 37)) (h38 : Snd mL_law g 1348 (J 38)) (h39 : Snd mL_law g 1401 (J 39)) (h40 : Snd mL_law g 1404 (J 40)) (h41 : Snd mL_law g 1457 (J 41)) (h42 : Snd mL_law g 1460 (J 42)) (h43 : Snd mL_law g 1537 (J 43)) (h44 : Snd mL_law g 1540 (J 44)) (h45 : Snd mL_law g 1629 (J 45)) (h46 : Snd mL_law g 1632 (J 46)) (h47 : Snd mL_law g 1645 (J 47)) (h48 : Snd mL_law g 1697 (J 48)) (h49 : Snd mL_law g 1700 (J 49)) (h50 : Snd mL_law g 1776 (J 50)) (h51 : Snd mL_law g 1779 (J 51)) (h52 : Snd mL_law g 1792 (J 52)) (h53 : Snd mL_law g 1845 (J 53)) (h54 : Snd mL_law g 1848 (J 54)) (h55 : Snd mL_law g 1913 (J 55)) (h56 : Snd mL_law g 1916 (J 56)) (h57 : Snd mL_law g 1969 (J 57)) (h58 : Snd mL_law g 1972 (J 58)) (h59 : Snd mL_law g 2037 (J 59)) (h60 : Snd mL_law g 2040 (J 60)) (h61 : Snd mL_law g 2093 (J 61)) (h62 : Snd mL_law g 2096 (J 62)) (h63 : Snd mL_law g 2161 (J 63)) (h64 : Snd mL_law g 2164 (J 64)) (h65 : Snd mL_law g 2217 (J 65)) (h66 : Snd mL_law g 2220 (J 66)) (h67 : Snd mL_law g 2309 (J 67)) (h68 : Snd mL_law g 2312 (J 68)) (h69 : Snd mL_law g 2389 (J 69)) (h70 : Snd mL_law g 2392 (J 70)) (h71 : Snd mL_law g 2457 (J 71)) (h72 : Snd mL_law g 2460 (J 72)) (h73 : Snd mL_law g 2513 (J 73)) (h74 : Snd mL_law g 2516 (J 74)) (h75 : Snd mL_law g 2529 (J 75)) (h76 : Snd mL_law g 2542 (J 76)) (h77 : Snd mL_law g 2555 (J 77)) (h78 : Snd mL_law g 2580 (J 78)) (h79 : Snd mL_law g 2605 (J 79)) : Snd mL_law g 305 (bL_law_3 g J) := by
  unfold bL_law_3
  refine s_aload_n (pc := 305) (i := 1) ?_ dL_law_305 rfl
  refine s_aload_n (pc := 306) (i := 0) ?_ dL_law_306 rfl
  refine s_iload (pc := 307) (i := 4) ?_ dL_law_307
  refine s_iconst (pc := 309) (v := 1) ?_ dL_law_309 (by decide)
  refine s_iadd (pc := 310) ?_ dL_law_310
  refine s_sli (pc := 311) ?_ dL_law_311
  refine s_aload_n (pc := 312) (i := 3) ?_ dL_law_312 rfl
  refine s_csW (pc := 313) (n := 3) ?_ tL_deed wt_618 wt_619 wt_0 wt_620 ⟨crL_deed, by decide, by decide⟩ dL_law_313
  refine s_istore (pc := 316) (i := 5) ?_ dL_law_316 (by decide)
  refine s_aload_n (pc := 318) (i := 2) ?_ dL_law_318 rfl
  refine s_aload_n (pc := 319) (i := 0) ?_ dL_law_319 rfl
  refine s_iload (pc := 320) (i := 4) ?_ dL_law_320
  refine s_iconst (pc := 322) (v := 1) ?_ dL_law_322 (by decide)
  refine s_iadd (pc := 323) ?_ dL_law_323
  refine s_sli (pc := 324) ?_ dL_law_324
  refine s_cv (pc := 325) (n := 1) (ci := 10) ?_ tX11_deed rfl rfl wt_1553 wt_1554 wt_1555 wt_17 wt_1556 ⟨crX11_deed, by decide, by decide⟩ dL_law_325
  refine s_istore (pc := 328) (i := 6) ?_ dL_law_328 (by decide)
  refine s_aload_n (pc := 330) (i := 2) ?_ dL_law_330 rfl
  refine s_cv (pc := 331) (n := 0) (ci := 10) ?_ tX11_thrown rfl rfl wt_1545 wt_1546 wt_1547 wt_17 wt_1548 ⟨crX11_thrown, by decide, by decide⟩ dL_law_331
  refine s_iload (pc := 334) (i := 5) ?_ dL_law_334
  refine s_iceq (pc := 336) (tgt := 341) ?_ ?_ dL_law_336 (by decide)
  · skip
    refine s_iload (pc := 341) (i := 5) ?_ dL_law_341
    refine s_ifne (pc := 343) (tgt := 358) ?_ ?_ dL_law_343 (by decide)
    · skip
      exact s_fall (pc := 358) h4
    · skip
      refine s_aload_n (pc := 346) (i := 3) ?_ dL_law_346 rfl
      refine s_iconst (pc := 347) (v := 0) ?_ dL_law_347 (by decide)
      refine s_laload (pc := 348) ?_ dL_law_348
      refine s_iload (pc := 349) (i := 6) ?_ dL_law_349
      refine s_i2l (pc := 351) ?_ dL_law_351
      refine s_lcmp (pc := 352) ?_ dL_law_352
      refine s_ifeq (pc := 353) (tgt := 358) ?_ ?_ dL_law_353 (by decide)
      · skip
        exact s_fall (pc := 358) h4
      · skip
        refine s_iconst (pc := 356) (v := 0) ?_ dL_law_356 (by decide)
        exact s_zreturn (pc := 357) rfl dL_law_357
  · skip
    refine s_iconst (pc := 339) (v := 0) ?_ dL_law_339 (by decide)
    exact s_zreturn (pc := 340) rfl dL_law_340
theorem sbL_law_4 (g : GE) (J : Nat → KT) (h1 : Snd mL_law g 23 (J 1)) (h2 : Snd mL_law g 232 (J 2)) (h3 : Snd mL_law g 305 (J 3)) (h4 : Snd mL_law g 358 (J 4)) (h5 : Snd mL_law g 361 (J 5)) (h6 : Snd mL_law g 374 (J 6)) (h7 : Snd mL_law g 427 (J 7)) (h8 : Snd mL_law g 430 (J 8)) (h9 : Snd mL_law g 495 (J 9)) (h10 : Snd mL_law g 498 (J 10)) (h11 : Snd mL_law g 563 (J 11)) (h12 : Snd mL_law g 566 (J 12)) (h13 : Snd mL_law g 579 (J 13)) (h14 : Snd mL_law g 644 (J 14)) (h15 : Snd mL_law g 647 (J 15)) (h16 : Snd mL_law g 700 (J 16)) (h17 : Snd mL_law g 703 (J 17)) (h18 : Snd mL_law g 716 (J 18)) (h19 : Snd mL_law g 793 (J 19)) (h20 : Snd mL_law g 796 (J 20)) (h21 : Snd mL_law g 861 (J 21)) (h22 : Snd mL_law g 864 (J 22)) (h23 : Snd mL_law g 929 (J 23)) (h24 : Snd mL_law g 932 (J 24)) (h25 : Snd mL_law g 998 (J 25)) (h26 : Snd mL_law g 1004 (J 26)) (h27 : Snd mL_law g 1007 (J 27)) (h28 : Snd mL_law g 1072 (J 28)) (h29 : Snd mL_law g 1075 (J 29)) (h30 : Snd mL_law g 1140 (J 30)) (h31 : Snd mL_law g 1143 (J 31)) (h32 : Snd mL_law g 1196 (J 32)) (h33 : Snd mL_law g 1199 (J 33)) (h34 : Snd mL_law g 1212 (J 34)) (h35 : Snd mL_law g 1277 (J 35)) (h36 : Snd mL_law g 1280 (J 36)) (h37 : Snd mL_law g 1345 (J 37)) (h38 : Snd mL_law g 1348 (J 38)) (h39 : Snd mL_law g 1401 (J 39)) (h40 : Snd mL_law g 1404 (J 40)) (h41 : Snd mL_law g 1457 (J 41)) (h42 : Snd mL_law g 1460 (J 42)) (h43 : Snd mL_law g 1537 (J 43)) (h44 : Snd mL_law g 1540 (J 44)) (h45 : Snd mL_law g 1629 (J 45)) (h46 : Snd mL_law g 1632 (J 46)) (h47 : Snd mL_law g 1645 (J 47)) (h48 : Snd mL_law g 1697 (J 48)) (h49 : Snd mL_law g 1700 (J 49)) (h50 : Snd mL_law g 1776 (J 50)) (h51 : Snd mL_law g 1779 (J 51)) (h52 : Snd mL_law g 1792 (J 52)) (h53 : Snd mL_law g 1845 (J 53)) (h54 : Snd mL_law g 1848 (J 54)) (h55 : Snd mL_law g 1913 (J 55)) (h56 : Snd mL_law g 1916 (J 56)) (h57 : Snd mL_law g 1969 (J 57)) (h58 : Snd mL_law g 1972 (J 58)) (h59 : Snd mL_law g 2037 (J 59)) (h60 : Snd mL_law g 2040 (J 60)) (h61 : Snd mL_law g 2093 (J 61)) (h62 : Snd mL_law g 2096 (J 62)) (h63 : Snd mL_law g 2161 (J 63)) (h64 : Snd mL_law g 2164 (J 64)) (h65 : Snd mL_law g 2217 (J 65)) (h66 : Snd mL_law g 2220 (J 66)) (h67 : Snd mL_law g 2309 (J 67)) (h68 : Snd mL_law g 2312 (J 68)) (h69 : Snd mL_law g 2389 (J 69)) (h70 : Snd mL_law g 2392 (J 70)) (h71 : Snd mL_law g 2457 (J 71)) (h72 : Snd mL_law g 2460 (J 72)) (h73 : Snd mL_law g 2513 (J 73)) (h74 : Snd mL_law g 2516 (J 74)) (h75 : Snd mL_law g 2529 (J 75)) (h76 : Snd mL_law g 2542 (J 76)) (h77 : Snd mL_law g 2555 (J 77)) (h78 : Snd mL_law g 2580 (J 78)) (h79 : Snd mL_law g 2605 (J 79)) : Snd mL_law g 358 (bL_law_4 g J) := by
  unfold bL_law_4
  exact s_goto (pc := 358) (tgt := 2605) h79 dL_law_358 (by decide)
theorem sbL_law_5 (g : GE) (J : Nat → KT) (h1 : Snd mL_law g 23 (J 1)) (h2 : Snd mL_law g 232 (J 2)) (h3 : Snd mL_law g 305 (J 3)) (h4 : Snd mL_law g 358 (J 4)) (h5 : Snd mL_law g 361 (J 5)) (h6 : Snd mL_law g 374 (J 6)) (h7 : Snd mL_law g 427 (J 7)) (h8 : Snd mL_law g 430 (J 8)) (h9 : Snd mL_law g 495 (J 9)) (h10 : Snd mL_law g 498 (J 10)) (h11 : Snd mL_law g 563 (J 11)) (h12 : Snd mL_law g 566 (J 12)) (h13 : Snd mL_law g 579 (J 13)) (h14 : Snd mL_law g 644 (J 14)) (h15 : Snd mL_law g 647 (J 15)) (h16 : Snd mL_law g 700 (J 16)) (h17 : Snd mL_law g 703 (J 17)) (h18 : Snd mL_law g 716 (J 18)) (h19 : Snd mL_law g 793 (J 19)) (h20 : Snd mL_law g 796 (J 20)) (h21 : Snd mL_law g 861 (J 21)) (h22 : Snd mL_law g 864 (J 22)) (h23 : Snd mL_law g 929 (J 23)) (h24 : Snd mL_law g 932 (J 24)) (h25 : Snd mL_law g 998 (J 25)) (h26 : Snd mL_law g 1004 (J 26)) (h27 : Snd mL_law g 1007 (J 27)) (h28 : Snd mL_law g 1072 (J 28)) (h29 : Snd mL_law g 1075 (J 29)) (h30 : Snd mL_law g 1140 (J 30)) (h31 : Snd mL_law g 1143 (J 31)) (h32 : Snd mL_law g 1196 (J 32)) (h33 : Snd mL_law g 1199 (J 33)) (h34 : Snd mL_law g 1212 (J 34)) (h35 : Snd mL_law g 1277 (J 35)) (h36 : Snd mL_law g 1280 (J 36)) (h37 : Snd mL_law g 1345 (J 37)) (h38 : Snd mL_law g 1348 (J 38)) (h39 : Snd mL_law g 1401 (J 39)) (h40 : Snd mL_law g 1404 (J 40)) (h41 : Snd mL_law g 1457 (J 41)) (h42 : Snd mL_law g 1460 (J 42)) (h43 : Snd mL_law g 1537 (J 43)) (h44 : Snd mL_law g 1540 (J 44)) (h45 : Snd mL_law g 1629 (J 45)) (h46 : Snd mL_law g 1632 (J 46)) (h47 : Snd mL_law g 1645 (J 47)) (h48 : Snd mL_law g 1697 (J 48)) (h49 : Snd mL_law g 1700 (J 49)) (h50 : Snd mL_law g 1776 (J 50)) (h51 : Snd mL_law g 1779 (J 51)) (h52 : Snd mL_law g 1792 (J 52)) (h53 : Snd mL_law g 1845 (J 53)) (h54 : Snd mL_law g 1848 (J 54)) (h55 : Snd mL_law g 1913 (J 55)) (h56 : Snd mL_law g 1916 (J 56)) (h57 : Snd mL_law g 1969 (J 57)) (h58 : Snd mL_law g 1972 (J 58)) (h59 : Snd mL_law g 2037 (J 59)) (h60 : Snd mL_law g 2040 (J 60)) (h61 : Snd mL_law g 2093 (J 61)) (h62 : Snd mL_law g 2096 (J 62)) (h63 : Snd mL_law g 2161 (J 63)) (h64 : Snd mL_law g 2164 (J 64)) (h65 : Snd mL_law g 2217 (J 65)) (h66 : Snd mL_law g 2220 (J 66)) (h67 : Snd mL_law g 2309 (J 67)) (h68 : Snd mL_law g 2312 (J 68)) (h69 : Snd mL_law g 2389 (J 69)) (h70 : Snd mL_law g 2392 (J 70)) (h71 : Snd mL_law g 2457 (J 71)) (h72 : Snd mL_law g 2460 (J 72)) (h73 : Snd mL_law g 2513 (J 73)) (h74 : Snd mL_law g 2516 (J 74)) (h75 : Snd mL_law g 2529 (J 75)) (h76 : Snd mL_law g 2542 (J 76)) (h77 : Snd mL_law g 2555 (J 77)) (h78 : Snd mL_law g 2580 (J 78)) (h79 : Snd mL_law g 2605 (J 79)) : Snd mL_law g 361 (bL_law_5 g J) := by
  unfold bL_law_5
  refine s_aload_n (pc := 361) (i := 1) ?_ dL_law_361 rfl
  refine s_cv (pc := 362) (n := 0) (ci := 9) ?_ tX10_fault rfl rfl wt_502 wt_503 wt_504 wt_1 wt_505 ⟨crX10_fault, by decide, by decide⟩ dL_law_362
  refine s_aload_n (pc := 365) (i := 2) ?_ dL_law_365 rfl
  refine s_cv (pc := 366) (n := 0) (ci := 10) ?_ tX11_fault rfl rfl wt_1643 wt_1644 wt_1645 wt_17 wt_1646 ⟨crX11_fault, by decide, by decide⟩ dL_law_366
  refine s_iceq (pc := 369) (tgt := 2605) ?_ ?_ dL_law_369 (by decide)
  · skip
    exact s_fall (pc := 2605) h79
  · skip
    refine s_iconst (pc := 372) (v := 0) ?_ dL_law_372 (by decide)
    exact s_zreturn (pc := 373) rfl dL_law_373
theorem sbL_law_6 (g : GE) (J : Nat → KT) (h1 : Snd mL_law g 23 (J 1)) (h2 : Snd mL_law g 232 (J 2)) (h3 : Snd mL_law g 305 (J 3)) (h4 : Snd mL_law g 358 (J 4)) (h5 : Snd mL_law g 361 (J 5)) (h6 : Snd mL_law g 374 (J 6)) (h7 : Snd mL_law g 427 (J 7)) (h8 : Snd mL_law g 430 (J 8)) (h9 : Snd mL_law g 495 (J 9)) (h10 : Snd mL_law g 498 (J 10)) (h11 : Snd mL_law g 563 (J 11)) (h12 : Snd mL_law g 566 (J 12)) (h13 : Snd mL_law g 579 (J 13)) (h14 : Snd mL_law g 644 (J 14)) (h15 : Snd mL_law g 647 (J 15)) (h16 : Snd mL_law g 700 (J 16)) (h17 : Snd mL_law g 703 (J 17)) (h18 : Snd mL_law g 716 (J 18)) (h19 : Snd mL_law g 793 (J 19)) (h20 : Snd mL_law g 796 (J 20)) (h21 : Snd mL_law g 861 (J 21)) (h22 : Snd mL_law g 864 (J 22)) (h23 : Snd mL_law g 929 (J 23)) (h24 : Snd mL_law g 932 (J 24)) (h25 : Snd mL_law g 998 (J 25)) (h26 : Snd mL_law g 1004 (J 26)) (h27 : Snd mL_law g 1007 (J 27)) (h28 : Snd mL_law g 1072 (J 28)) (h29 : Snd mL_law g 1075 (J 29)) (h30 : Snd mL_law g 1140 (J 30)) (h31 : Snd mL_law g 1143 (J 31)) (h32 : Snd mL_law g 1196 (J 32)) (h33 : Snd mL_law g 1199 (J 33)) (h34 : Snd mL_law g 1212 (J 34)) (h35 : Snd mL_law g 1277 (J 35)) (h36 : Snd mL_law g 1280 (J 36)) (h37 : Snd mL_law g 1345 (J 37)) (h38 : Snd mL_law g 1348 (J 38)) (h39 : Snd mL_law g 1401 (J 39)) (h40 : Snd mL_law g 1404 (J 40)) (h41 : Snd mL_law g 1457 (J 41)) (h42 : Snd mL_law g 1460 (J 42)) (h43 : Snd mL_law g 1537 (J 43)) (h44 : Snd mL_law g 1540 (J 44)) (h45 : Snd mL_law g 1629 (J 45)) (h46 : Snd mL_law g 1632 (J 46)) (h47 : Snd mL_law g 1645 (J 47)) (h48 : Snd mL_law g 1697 (J 48)) (h49 : Snd mL_law g 1700 (J 49)) (h50 : Snd mL_law g 1776 (J 50)) (h51 : Snd mL_law g 1779 (J 51)) (h52 : Snd mL_law g 1792 (J 52)) (h53 : Snd mL_law g 1845 (J 53)) (h54 : Snd mL_law g 1848 (J 54)) (h55 : Snd mL_law g 1913 (J 55)) (h56 : Snd mL_law g 1916 (J 56)) (h57 : Snd mL_law g 1969 (J 57)) (h58 : Snd mL_law g 1972 (J 58)) (h59 : Snd mL_law g 2037 (J 59)) (h60 : Snd mL_law g 2040 (J 60)) (h61 : Snd mL_law g 2093 (J 61)) (h62 : Snd mL_law g 2096 (J 62)) (h63 : Snd mL_law g 2161 (J 63)) (h64 : Snd mL_law g 2164 (J 64)) (h65 : Snd mL_law g 2217 (J 65)) (h66 : Snd mL_law g 2220 (J 66)) (h67 : Snd mL_law g 2309 (J 67)) (h68 : Snd mL_law g 2312 (J 68)) (h69 : Snd mL_law g 2389 (J 69)) (h70 : Snd mL_law g 2392 (J 70)) (h71 : Snd mL_law g 2457 (J 71)) (h72 : Snd mL_law g 2460 (J 72)) (h73 : Snd mL_law g 2513 (J 73)) (h74 : Snd mL_law g 2516 (J 74)) (h75 : Snd mL_law g 2529 (J 75)) (h76 : Snd mL_law g 2542 (J 76)) (h77 : Snd mL_law g 2555 (J 77)) (h78 : Snd mL_law g 2580 (J 78)) (h79 : Snd mL_law g 2605 (J 79)) : Snd mL_law g 374 (bL_law_6 g J) := by
  unfold bL_law_6
  refine s_aload_n (pc := 374) (i := 1) ?_ dL_law_374 rfl
  refine s_aload_n (pc := 375) (i := 0) ?_ dL_law_375 rfl
  refine s_iload (pc := 376) (i := 4) ?_ dL_law_376
  refine s_iconst (pc := 378) (v := 1) ?_ dL_law_378 (by decide)
  refine s_iadd (pc := 379) ?_ dL_law_379
  refine s_sli (pc := 380) ?_ dL_law_380
  refine s_aload_n (pc := 381) (i := 3) ?_ dL_law_381 rfl
  refine s_csW (pc := 382) (n := 3) ?_ tL_told wt_913 wt_914 wt_0 wt_915 ⟨crL_told, by decide, by decide⟩ dL_law_382
  refine s_istore (pc := 385) (i := 5) ?_ dL_law_385 (by decide)
  refine s_aload_n (pc := 387) (i := 2) ?_ dL_law_387 rfl
  refine s_aload_n (pc := 388) (i := 0) ?_ dL_law_388 rfl
  refine s_iload (pc := 389) (i := 4) ?_ dL_law_389
  refine s_iconst (pc := 391) (v := 1) ?_ dL_law_391 (by decide)
  refine s_iadd (pc := 392) ?_ dL_law_392
  refine s_sli (pc := 393) ?_ dL_law_393
  refine s_cv (pc := 394) (n := 1) (ci := 10) ?_ tX11_told rfl rfl wt_1647 wt_1648 wt_1649 wt_17 wt_1650 ⟨crX11_told, by decide, by decide⟩ dL_law_394
  refine s_istore (pc := 397) (i := 6) ?_ dL_law_397 (by decide)
  refine s_aload_n (pc := 399) (i := 2) ?_ dL_law_399 rfl
  refine s_cv (pc := 400) (n := 0) (ci := 10) ?_ tX11_thrown rfl rfl wt_1545 wt_1546 wt_1547 wt_17 wt_1548 ⟨crX11_thrown, by decide, by decide⟩ dL_law_400
  refine s_iload (pc := 403) (i := 5) ?_ dL_law_403
  refine s_iceq (pc := 405) (tgt := 410) ?_ ?_ dL_law_405 (by decide)
  · skip
    refine s_iload (pc := 410) (i := 5) ?_ dL_law_410
    refine s_ifne (pc := 412) (tgt := 427) ?_ ?_ dL_law_412 (by decide)
    · skip
      exact s_fall (pc := 427) h7
    · skip
      refine s_aload_n (pc := 415) (i := 3) ?_ dL_law_415 rfl
      refine s_iconst (pc := 416) (v := 0) ?_ dL_law_416 (by decide)
      refine s_laload (pc := 417) ?_ dL_law_417
      refine s_iload (pc := 418) (i := 6) ?_ dL_law_418
      refine s_i2l (pc := 420) ?_ dL_law_420
      refine s_lcmp (pc := 421) ?_ dL_law_421
      refine s_ifeq (pc := 422) (tgt := 427) ?_ ?_ dL_law_422 (by decide)
      · skip
        exact s_fall (pc := 427) h7
      · skip
        refine s_iconst (pc := 425) (v := 0) ?_ dL_law_425 (by decide)
        exact s_zreturn (pc := 426) rfl dL_law_426
  · skip
    refine s_iconst (pc := 408) (v := 0) ?_ dL_law_408 (by decide)
    exact s_zreturn (pc := 409) rfl dL_law_409
theorem sbL_law_7 (g : GE) (J : Nat → KT) (h1 : Snd mL_law g 23 (J 1)) (h2 : Snd mL_law g 232 (J 2)) (h3 : Snd mL_law g 305 (J 3)) (h4 : Snd mL_law g 358 (J 4)) (h5 : Snd mL_law g 361 (J 5)) (h6 : Snd mL_law g 374 (J 6)) (h7 : Snd mL_law g 427 (J 7)) (h8 : Snd mL_law g 430 (J 8)) (h9 : Snd mL_law g 495 (J 9)) (h10 : Snd mL_law g 498 (J 10)) (h11 : Snd mL_law g 563 (J 11)) (h12 : Snd mL_law g 566 (J 12)) (h13 : Snd mL_law g 579 (J 13)) (h14 : Snd mL_law g 644 (J 14)) (h15 : Snd mL_law g 647 (J 15)) (h16 : Snd mL_law g 700 (J 16)) (h17 : Snd mL_law g 703 (J 17)) (h18 : Snd mL_law g 716 (J 18)) (h19 : Snd mL_law g 793 (J 19)) (h20 : Snd mL_law g 796 (J 20)) (h21 : Snd mL_law g 861 (J 21)) (h22 : Snd mL_law g 864 (J 22)) (h23 : Snd mL_law g 929 (J 23)) (h24 : Snd mL_law g 932 (J 24)) (h25 : Snd mL_law g 998 (J 25)) (h26 : Snd mL_law g 1004 (J 26)) (h27 : Snd mL_law g 1007 (J 27)) (h28 : Snd mL_law g 1072 (J 28)) (h29 : Snd mL_law g 1075 (J 29)) (h30 : Snd mL_law g 1140 (J 30)) (h31 : Snd mL_law g 1143 (J 31)) (h32 : Snd mL_law g 1196 (J 32)) (h33 : Snd mL_law g 1199 (J 33)) (h34 : Snd mL_law g 1212 (J 34)) (h35 : Snd mL_law g 1277 (J 35)) (h36 : Snd mL_law g 1280 (J 36)) (h37 : Snd mL_law g 1345 (J 37)) (h38 : Snd mL_law g 1348 (J 38)) (h39 : Snd mL_law g 1401 (J 39)) (h40 : Snd mL_law g 1404 (J 40)) (h41 : Snd mL_law g 1457 (J 41)) (h42 : Snd mL_law g 1460 (J 42)) (h43 : Snd mL_law g 1537 (J 43)) (h44 : Snd mL_law g 1540 (J 44)) (h45 : Snd mL_law g 1629 (J 45)) (h46 : Snd mL_law g 1632 (J 46)) (h47 : Snd mL_law g 1645 (J 47)) (h48 : Snd mL_law g 1697 (J 48)) (h49 : Snd mL_law g 1700 (J 49)) (h50 : Snd mL_law g 1776 (J 50)) (h51 : Snd mL_law g 1779 (J 51)) (h52 : Snd mL_law g 1792 (J 52)) (h53 : Snd mL_law g 1845 (J 53)) (h54 : Snd mL_law g 1848 (J 54)) (h55 : Snd mL_law g 1913 (J 55)) (h56 : Snd mL_law g 1916 (J 56)) (h57 : Snd mL_law g 1969 (J 57)) (h58 : Snd mL_law g 1972 (J 58)) (h59 : Snd mL_law g 2037 (J 59)) (h60 : Snd mL_law g 2040 (J 60)) (h61 : Snd mL_law g 2093 (J 61)) (h62 : Snd mL_law g 2096 (J 62)) (h63 : Snd mL_law g 2161 (J 63)) (h64 : Snd mL_law g 2164 (J 64)) (h65 : Snd mL_law g 2217 (J 65)) (h66 : Snd mL_law g 2220 (J 66)) (h67 : Snd mL_law g 2309 (J 67)) (h68 : Snd mL_law g 2312 (J 68)) (h69 : Snd mL_law g 2389 (J 69)) (h70 : Snd mL_law g 2392 (J 70)) (h71 : Snd mL_law g 2457 (J 71)) (h72 : Snd mL_law g 2460 (J 72)) (h73 : Snd mL_law g 2513 (J 73)) (h74 : Snd mL_law g 2516 (J 74)) (h75 : Snd mL_law g 2529 (J 75)) (h76 : Snd mL_law g 2542 (J 76)) (h77 : Snd mL_law g 2555 (J 77)) (h78 : Snd mL_law g 2580 (J 78)) (h79 : Snd mL_law g 2605 (J 79)) : Snd mL_law g 427 (bL_law_7 g J) := by
  unfold bL_law_7
  exact s_goto (pc := 427) (tgt := 2605) h79 dL_law_427 (by decide)
theorem sbL_law_8 (g : GE) (J : Nat → KT) (h1 : Snd mL_law g 23 (J 1)) (h2 : Snd mL_law g 232 (J 2)) (h3 : Snd mL_law g 305 (J 3)) (h4 : Snd mL_law g 358 (J 4)) (h5 : Snd mL_law g 361 (J 5)) (h6 : Snd mL_law g 374 (J 6)) (h7 : Snd mL_law g 427 (J 7)) (h8 : Snd mL_law g 430 (J 8)) (h9 : Snd mL_law g 495 (J 9)) (h10 : Snd mL_law g 498 (J 10)) (h11 : Snd mL_law g 563 (J 11)) (h12 : Snd mL_law g 566 (J 12)) (h13 : Snd mL_law g 579 (J 13)) (h14 : Snd mL_law g 644 (J 14)) (h15 : Snd mL_law g 647 (J 15)) (h16 : Snd mL_law g 700 (J 16)) (h17 : Snd mL_law g 703 (J 17)) (h18 : Snd mL_law g 716 (J 18)) (h19 : Snd mL_law g 793 (J 19)) (h20 : Snd mL_law g 796 (J 20)) (h21 : Snd mL_law g 861 (J 21)) (h22 : Snd mL_law g 864 (J 22)) (h23 : Snd mL_law g 929 (J 23)) (h24 : Snd mL_law g 932 (J 24)) (h25 : Snd mL_law g 998 (J 25)) (h26 : Snd mL_law g 1004 (J 26)) (h27 : Snd mL_law g 1007 (J 27)) (h28 : Snd mL_law g 1072 (J 28)) (h29 : Snd mL_law g 1075 (J 29)) (h30 : Snd mL_law g 1140 (J 30)) (h31 : Snd mL_law g 1143 (J 31)) (h32 : Snd mL_law g 1196 (J 32)) (h33 : Snd mL_law g 1199 (J 33)) (h34 : Snd mL_law g 1212 (J 34)) (h35 : Snd mL_law g 1277 (J 35)) (h36 : Snd mL_law g 1280 (J 36)) (h37 : Snd mL_law g 1345 (J 37)) (h38 : Snd mL_law g 1348 (J 38)) (h39 : Snd mL_law g 1401 (J 39)) (h40 : Snd mL_law g 1404 (J 40)) (h41 : Snd mL_law g 1457 (J 41)) (h42 : Snd mL_law g 1460 (J 42)) (h43 : Snd mL_law g 1537 (J 43)) (h44 : Snd mL_law g 1540 (J 44)) (h45 : Snd mL_law g 1629 (J 45)) (h46 : Snd mL_law g 1632 (J 46)) (h47 : Snd mL_law g 1645 (J 47)) (h48 : Snd mL_law g 1697 (J 48)) (h49 : Snd mL_law g 1700 (J 49)) (h50 : Snd mL_law g 1776 (J 50)) (h51 : Snd mL_law g 1779 (J 51)) (h52 : Snd mL_law g 1792 (J 52)) (h53 : Snd mL_law g 1845 (J 53)) (h54 : Snd mL_law g 1848 (J 54)) (h55 : Snd mL_law g 1913 (J 55)) (h56 : Snd mL_law g 1916 (J 56)) (h57 : Snd mL_law g 1969 (J 57)) (h58 : Snd mL_law g 1972 (J 58)) (h59 : Snd mL_law g 2037 (J 59)) (h60 : Snd mL_law g 2040 (J 60)) (h61 : Snd mL_law g 2093 (J 61)) (h62 : Snd mL_law g 2096 (J 62)) (h63 : Snd mL_law g 2161 (J 63)) (h64 : Snd mL_law g 2164 (J 64)) (h65 : Snd mL_law g 2217 (J 65)) (h66 : Snd mL_law g 2220 (J 66)) (h67 : Snd mL_law g 2309 (J 67)) (h68 : Snd mL_law g 2312 (J 68)) (h69 : Snd mL_law g 2389 (J 69)) (h70 : Snd mL_law g 2392 (J 70)) (h71 : Snd mL_law g 2457 (J 71)) (h72 : Snd mL_law g 2460 (J 72)) (h73 : Snd mL_law g 2513 (J 73)) (h74 : Snd mL_law g 2516 (J 74)) (h75 : Snd mL_law g 2529 (J 75)) (h76 : Snd mL_law g 2542 (J 76)) (h77 : Snd mL_law g 2555 (J 77)) (h78 : Snd mL_law g 2580 (J 78)) (h79 : Snd mL_law g 2605 (J 79)) : Snd mL_law g 430 (bL_law_8 g J) := by
  unfold bL_law_8
  refine s_aload_n (pc := 430) (i := 1) ?_ dL_law_430 rfl
  refine s_aload_n (pc := 431) (i := 0) ?_ dL_law_431 rfl
  refine s_iload (pc := 432) (i := 4) ?_ dL_law_432
  refine s_iconst (pc := 434) (v := 1) ?_ dL_law_434 (by decide)
  refine s_iadd (pc := 435) ?_ dL_law_435
  refine s_sli (pc := 436) ?_ dL_law_436
  refine s_aload_n (pc := 437) (i := 0) ?_ dL_law_437 rfl
  refine s_iload (pc := 438) (i := 4) ?_ dL_law_438
  refine s_iconst (pc := 440) (v := 2) ?_ dL_law_440 (by decide)
  refine s_iadd (pc := 441) ?_ dL_law_441
  refine s_sli (pc := 442) ?_ dL_law_442
  refine s_aload_n (pc := 443) (i := 3) ?_ dL_law_443 rfl
  refine s_csW (pc := 444) (n := 4) ?_ tL_blot wt_924 wt_925 wt_0 wt_926 ⟨crL_blot, by decide, by decide⟩ dL_law_444
  refine s_istore (pc := 447) (i := 5) ?_ dL_law_447 (by decide)
  refine s_aload_n (pc := 449) (i := 2) ?_ dL_law_449 rfl
  refine s_aload_n (pc := 450) (i := 0) ?_ dL_law_450 rfl
  refine s_iload (pc := 451) (i := 4) ?_ dL_law_451
  refine s_iconst (pc := 453) (v := 1) ?_ dL_law_453 (by decide)
  refine s_iadd (pc := 454) ?_ dL_law_454
  refine s_sli (pc := 455) ?_ dL_law_455
  refine s_aload_n (pc := 456) (i := 0) ?_ dL_law_456 rfl
  refine s_iload (pc := 457) (i := 4) ?_ dL_law_457
  refine s_iconst (pc := 459) (v := 2) ?_ dL_law_459 (by decide)
  refine s_iadd (pc := 460) ?_ dL_law_460
  refine s_sli (pc := 461) ?_ dL_law_461
  refine s_cv (pc := 462) (n := 2) (ci := 10) ?_ tX11_blot rfl rfl wt_1651 wt_1652 wt_1653 wt_17 wt_1654 ⟨crX11_blot, by decide, by decide⟩ dL_law_462
  refine s_istore (pc := 465) (i := 6) ?_ dL_law_465 (by decide)
  refine s_aload_n (pc := 467) (i := 2) ?_ dL_law_467 rfl
  refine s_cv (pc := 468) (n := 0) (ci := 10) ?_ tX11_thrown rfl rfl wt_1545 wt_1546 wt_1547 wt_17 wt_1548 ⟨crX11_thrown, by decide, by decide⟩ dL_law_468
  refine s_iload (pc := 471) (i := 5) ?_ dL_law_471
  refine s_iceq (pc := 473) (tgt := 478) ?_ ?_ dL_law_473 (by decide)
  · skip
    refine s_iload (pc := 478) (i := 5) ?_ dL_law_478
    refine s_ifne (pc := 480) (tgt := 495) ?_ ?_ dL_law_480 (by decide)
    · skip
      exact s_fall (pc := 495) h9
    · skip
      refine s_aload_n (pc := 483) (i := 3) ?_ dL_law_483 rfl
      refine s_iconst (pc := 484) (v := 0) ?_ dL_law_484 (by decide)
      refine s_laload (pc := 485) ?_ dL_law_485
      refine s_iload (pc := 486) (i := 6) ?_ dL_law_486
      refine s_i2l (pc := 488) ?_ dL_law_488
      refine s_lcmp (pc := 489) ?_ dL_law_489
      refine s_ifeq (pc := 490) (tgt := 495) ?_ ?_ dL_law_490 (by decide)
      · skip
        exact s_fall (pc := 495) h9
      · skip
        refine s_iconst (pc := 493) (v := 0) ?_ dL_law_493 (by decide)
        exact s_zreturn (pc := 494) rfl dL_law_494
  · skip
    refine s_iconst (pc := 476) (v := 0) ?_ dL_law_476 (by decide)
    exact s_zreturn (pc := 477) rfl dL_law_477
theorem sbL_law_9 (g : GE) (J : Nat → KT) (h1 : Snd mL_law g 23 (J 1)) (h2 : Snd mL_law g 232 (J 2)) (h3 : Snd mL_law g 305 (J 3)) (h4 : Snd mL_law g 358 (J 4)) (h5 : Snd mL_law g 361 (J 5)) (h6 : Snd mL_law g 374 (J 6)) (h7 : Snd mL_law g 427 (J 7)) (h8 : Snd mL_law g 430 (J 8)) (h9 : Snd mL_law g 495 (J 9)) (h10 : Snd mL_law g 498 (J 10)) (h11 : Snd mL_law g 563 (J 11)) (h12 : Snd mL_law g 566 (J 12)) (h13 : Snd mL_law g 579 (J 13)) (h14 : Snd mL_law g 644 (J 14)) (h15 : Snd mL_law g 647 (J 15)) (h16 : Snd mL_law g 700 (J 16)) (h17 : Snd mL_law g 703 (J 17)) (h18 : Snd mL_law g 716 (J 18)) (h19 : Snd mL_law g 793 (J 19)) (h20 : Snd mL_law g 796 (J 20)) (h21 : Snd mL_law g 861 (J 21)) (h22 : Snd mL_law g 864 (J 22)) (h23 : Snd mL_law g 929 (J 23)) (h24 : Snd mL_law g 932 (J 24)) (h25 : Snd mL_law g 998 (J 25)) (h26 : Snd mL_law g 1004 (J 26)) (h27 : Snd mL_law g 1007 (J 27)) (h28 : Snd mL_law g 1072 (J 28)) (h29 : Snd mL_law g 1075 (J 29)) (h30 : Snd mL_law g 1140 (J 30)) (h31 : Snd mL_law g 1143 (J 31)) (h32 : Snd mL_law g 1196 (J 32)) (h33 : Snd mL_law g 1199 (J 33)) (h34 : Snd mL_law g 1212 (J 34)) (h35 : Snd mL_law g 1277 (J 35)) (h36 : Snd mL_law g 1280 (J 36)) (h37 : Snd mL_law g 1345 (J 37)) (h38 : Snd mL_law g 1348 (J 38)) (h39 : Snd mL_law g 1401 (J 39)) (h40 : Snd mL_law g 1404 (J 40)) (h41 : Snd mL_law g 1457 (J 41)) (h42 : Snd mL_law g 1460 (J 42)) (h43 : Snd mL_law g 1537 (J 43)) (h44 : Snd mL_law g 1540 (J 44)) (h45 : Snd mL_law g 1629 (J 45)) (h46 : Snd mL_law g 1632 (J 46)) (h47 : Snd mL_law g 1645 (J 47)) (h48 : Snd mL_law g 1697 (J 48)) (h49 : Snd mL_law g 1700 (J 49)) (h50 : Snd mL_law g 1776 (J 50)) (h51 : Snd mL_law g 1779 (J 51)) (h52 : Snd mL_law g 1792 (J 52)) (h53 : Snd mL_law g 1845 (J 53)) (h54 : Snd mL_law g 1848 (J 54)) (h55 : Snd mL_law g 1913 (J 55)) (h56 : Snd mL_law g 1916 (J 56)) (h57 : Snd mL_law g 1969 (J 57)) (h58 : Snd mL_law g 1972 (J 58)) (h59 : Snd mL_law g 2037 (J 59)) (h60 : Snd mL_law g 2040 (J 60)) (h61 : Snd mL_law g 2093 (J 61)) (h62 : Snd mL_law g 2096 (J 62)) (h63 : Snd mL_law g 2161 (J 63)) (h64 : Snd mL_law g 2164 (J 64)) (h65 : Snd mL_law g 2217 (J 65)) (h66 : Snd mL_law g 2220 (J 66)) (h67 : Snd mL_law g 2309 (J 67)) (h68 : Snd mL_law g 2312 (J 68)) (h69 : Snd mL_law g 2389 (J 69)) (h70 : Snd mL_law g 2392 (J 70)) (h71 : Snd mL_law g 2457 (J 71)) (h72 : Snd mL_law g 2460 (J 72)) (h73 : Snd mL_law g 2513 (J 73)) (h74 : Snd mL_law g 2516 (J 74)) (h75 : Snd mL_law g 2529 (J 75)) (h76 : Snd mL_law g 2542 (J 76)) (h77 : Snd mL_law g 2555 (J 77)) (h78 : Snd mL_law g 2580 (J 78)) (h79 : Snd mL_law g 2605 (J 79)) : Snd mL_law g 495 (bL_law_9 g J) := by
  unfold bL_law_9
  exact s_goto (pc := 495) (tgt := 2605) h79 dL_law_495 (by decide)
theorem sbL_law_10 (g : GE) (J : Nat → KT) (h1 : Snd mL_law g 23 (J 1)) (h2 : Snd mL_law g 232 (J 2)) (h3 : Snd mL_law g 305 (J 3)) (h4 : Snd mL_law g 358 (J 4)) (h5 : Snd mL_law g 361 (J 5)) (h6 : Snd mL_law g 374 (J 6)) (h7 : Snd mL_law g 427 (J 7)) (h8 : Snd mL_law g 430 (J 8)) (h9 : Snd mL_law g 495 (J 9)) (h10 : Snd mL_law g 498 (J 10)) (h11 : Snd mL_law g 563 (J 11)) (h12 : Snd mL_law g 566 (J 12)) (h13 : Snd mL_law g 579 (J 13)) (h14 : Snd mL_law g 644 (J 14)) (h15 : Snd mL_law g 647 (J 15)) (h16 : Snd mL_law g 700 (J 16)) (h17 : Snd mL_law g 703 (J 17)) (h18 : Snd mL_law g 716 (J 18)) (h19 : Snd mL_law g 793 (J 19)) (h20 : Snd mL_law g 796 (J 20)) (h21 : Snd mL_law g 861 (J 21)) (h22 : Snd mL_law g 864 (J 22)) (h23 : Snd mL_law g 929 (J 23)) (h24 : Snd mL_law g 932 (J 24)) (h25 : Snd mL_law g 998 (J 25)) (h26 : Snd mL_law g 1004 (J 26)) (h27 : Snd mL_law g 1007 (J 27)) (h28 : Snd mL_law g 1072 (J 28)) (h29 : Snd mL_law g 1075 (J 29)) (h30 : Snd mL_law g 1140 (J 30)) (h31 : Snd mL_law g 1143 (J 31)) (h32 : Snd mL_law g 1196 (J 32)) (h33 : Snd mL_law g 1199 (J 33)) (h34 : Snd mL_law g 1212 (J 34)) (h35 : Snd mL_law g 1277 (J 35)) (h36 : Snd mL_law g 1280 (J 36)) (h37 : Snd mL_law g 1345 (J 37)) (h38 : Snd mL_law g 1348 (J 38)) (h39 : Snd mL_law g 1401 (J 39)) (h40 : Snd mL_law g 1404 (J 40)) (h41 : Snd mL_law g 1457 (J 41)) (h42 : Snd mL_law g 1460 (J 42)) (h43 : Snd mL_law g 1537 (J 43)) (h44 : Snd mL_law g 1540 (J 44)) (h45 : Snd mL_law g 1629 (J 45)) (h46 : Snd mL_law g 1632 (J 46)) (h47 : Snd mL_law g 1645 (J 47)) (h48 : Snd mL_law g 1697 (J 48)) (h49 : Snd mL_law g 1700 (J 49)) (h50 : Snd mL_law g 1776 (J 50)) (h51 : Snd mL_law g 1779 (J 51)) (h52 : Snd mL_law g 1792 (J 52)) (h53 : Snd mL_law g 1845 (J 53)) (h54 : Snd mL_law g 1848 (J 54)) (h55 : Snd mL_law g 1913 (J 55)) (h56 : Snd mL_law g 1916 (J 56)) (h57 : Snd mL_law g 1969 (J 57)) (h58 : Snd mL_law g 1972 (J 58)) (h59 : Snd mL_law g 2037 (J 59)) (h60 : Snd mL_law g 2040 (J 60)) (h61 : Snd mL_law g 2093 (J 61)) (h62 : Snd mL_law g 2096 (J 62)) (h63 : Snd mL_law g 2161 (J 63)) (h64 : Snd mL_law g 2164 (J 64)) (h65 : Snd mL_law g 2217 (J 65)) (h66 : Snd mL_law g 2220 (J 66)) (h67 : Snd mL_law g 2309 (J 67)) (h68 : Snd mL_law g 2312 (J 68)) (h69 : Snd mL_law g 2389 (J 69)) (h70 : Snd mL_law g 2392 (J 70)) (h71 : Snd mL_law g 2457 (J 71)) (h72 : Snd mL_law g 2460 (J 72)) (h73 : Snd mL_law g 2513 (J 73)) (h74 : Snd mL_law g 2516 (J 74)) (h75 : Snd mL_law g 2529 (J 75)) (h76 : Snd mL_law g 2542 (J 76)) (h77 : Snd mL_law g 2555 (J 77)) (h78 : Snd mL_law g 2580 (J 78)) (h79 : Snd mL_law g 2605 (J 79)) : Snd mL_law g 498 (bL_law_10 g J) := by
  unfold bL_law_10
  refine s_aload_n (pc := 498) (i := 1) ?_ dL_law_498 rfl
  refine s_aload_n (pc := 499) (i := 0) ?_ dL_law_499 rfl
  refine s_iload (pc := 500) (i := 4) ?_ dL_law_500
  refine s_iconst (pc := 502) (v := 1) ?_ dL_law_502 (by decide)
  refine s_iadd (pc := 503) ?_ dL_law_503
  refine s_sli (pc := 504) ?_ dL_law_504
  refine s_aload_n (pc := 505) (i := 0) ?_ dL_law_505 rfl
  refine s_iload (pc := 506) (i := 4) ?_ dL_law_506
  refine s_iconst (pc := 508) (v := 2) ?_ dL_law_508 (by decide)
  refine s_iadd (pc := 509) ?_ dL_law_509
  refine s_sli (pc := 510) ?_ dL_law_510
  refine s_aload_n (pc := 511) (i := 3) ?_ dL_law_511 rfl
  refine s_csW (pc := 512) (n := 4) ?_ tL_candidate wt_952 wt_953 wt_0 wt_954 ⟨crL_candidate, by decide, by decide⟩ dL_law_512
  refine s_istore (pc := 515) (i := 5) ?_ dL_law_515 (by decide)
  refine s_aload_n (pc := 517) (i := 2) ?_ dL_law_517 rfl
  refine s_aload_n (pc := 518) (i := 0) ?_ dL_law_518 rfl
  refine s_iload (pc := 519) (i := 4) ?_ dL_law_519
  refine s_iconst (pc := 521) (v := 1) ?_ dL_law_521 (by decide)
  refine s_iadd (pc := 522) ?_ dL_law_522
  refine s_sli (pc := 523) ?_ dL_law_523
  refine s_aload_n (pc := 524) (i := 0) ?_ dL_law_524 rfl
  refine s_iload (pc := 525) (i := 4) ?_ dL_law_525
  refine s_iconst (pc := 527) (v := 2) ?_ dL_law_527 (by decide)
  refine s_iadd (pc := 528) ?_ dL_law_528
  refine s_sli (pc := 529) ?_ dL_law_529
  refine s_cv (pc := 530) (n := 2) (ci := 10) ?_ tX11_candidate rfl rfl wt_1659 wt_1660 wt_1661 wt_17 wt_1662 ⟨crX11_candidate, by decide, by decide⟩ dL_law_530
  refine s_istore (pc := 533) (i := 6) ?_ dL_law_533 (by decide)
  refine s_aload_n (pc := 535) (i := 2) ?_ dL_law_535 rfl
  refine s_cv (pc := 536) (n := 0) (ci := 10) ?_ tX11_thrown rfl rfl wt_1545 wt_1546 wt_1547 wt_17 wt_1548 ⟨crX11_thrown, by decide, by decide⟩ dL_law_536
  refine s_iload (pc := 539) (i := 5) ?_ dL_law_539
  refine s_iceq (pc := 541) (tgt := 546) ?_ ?_ dL_law_541 (by decide)
  · skip
    refine s_iload (pc := 546) (i := 5) ?_ dL_law_546
    refine s_ifne (pc := 548) (tgt := 563) ?_ ?_ dL_law_548 (by decide)
    · skip
      exact s_fall (pc := 563) h11
    · skip
      refine s_aload_n (pc := 551) (i := 3) ?_ dL_law_551 rfl
      refine s_iconst (pc := 552) (v := 0) ?_ dL_law_552 (by decide)
      refine s_laload (pc := 553) ?_ dL_law_553
      refine s_iload (pc := 554) (i := 6) ?_ dL_law_554
      refine s_i2l (pc := 556) ?_ dL_law_556
      refine s_lcmp (pc := 557) ?_ dL_law_557
      refine s_ifeq (pc := 558) (tgt := 563) ?_ ?_ dL_law_558 (by decide)
      · skip
        exact s_fall (pc := 563) h11
      · skip
        refine s_iconst (pc := 561) (v := 0) ?_ dL_law_561 (by decide)
        exact s_zreturn (pc := 562) rfl dL_law_562
  · skip
    refine s_iconst (pc := 544) (v := 0) ?_ dL_law_544 (by decide)
    exact s_zreturn (pc := 545) rfl dL_law_545
theorem sbL_law_11 (g : GE) (J : Nat → KT) (h1 : Snd mL_law g 23 (J 1)) (h2 : Snd mL_law g 232 (J 2)) (h3 : Snd mL_law g 305 (J 3)) (h4 : Snd mL_law g 358 (J 4)) (h5 : Snd mL_law g 361 (J 5)) (h6 : Snd mL_law g 374 (J 6)) (h7 : Snd mL_law g 427 (J 7)) (h8 : Snd mL_law g 430 (J 8)) (h9 : Snd mL_law g 495 (J 9)) (h10 : Snd mL_law g 498 (J 10)) (h11 : Snd mL_law g 563 (J 11)) (h12 : Snd mL_law g 566 (J 12)) (h13 : Snd mL_law g 579 (J 13)) (h14 : Snd mL_law g 644 (J 14)) (h15 : Snd mL_law g 647 (J 15)) (h16 : Snd mL_law g 700 (J 16)) (h17 : Snd mL_law g 703 (J 17)) (h18 : Snd mL_law g 716 (J 18)) (h19 : Snd mL_law g 793 (J 19)) (h20 : Snd mL_law g 796 (J 20)) (h21 : Snd mL_law g 861 (J 21)) (h22 : Snd mL_law g 864 (J 22)) (h23 : Snd mL_law g 929 (J 23)) (h24 : Snd mL_law g 932 (J 24)) (h25 : Snd mL_law g 998 (J 25)) (h26 : Snd mL_law g 1004 (J 26)) (h27 : Snd mL_law g 1007 (J 27)) (h28 : Snd mL_law g 1072 (J 28)) (h29 : Snd mL_law g 1075 (J 29)) (h30 : Snd mL_law g 1140 (J 30)) (h31 : Snd mL_law g 1143 (J 31)) (h32 : Snd mL_law g 1196 (J 32)) (h33 : Snd mL_law g 1199 (J 33)) (h34 : Snd mL_law g 1212 (J 34)) (h35 : Snd mL_law g 1277 (J 35)) (h36 : Snd mL_law g 1280 (J 36)) (h37 : Snd mL_law g 1345 (J 37)) (h38 : Snd mL_law g 1348 (J 38)) (h39 : Snd mL_law g 1401 (J 39)) (h40 : Snd mL_law g 1404 (J 40)) (h41 : Snd mL_law g 1457 (J 41)) (h42 : Snd mL_law g 1460 (J 42)) (h43 : Snd mL_law g 1537 (J 43)) (h44 : Snd mL_law g 1540 (J 44)) (h45 : Snd mL_law g 1629 (J 45)) (h46 : Snd mL_law g 1632 (J 46)) (h47 : Snd mL_law g 1645 (J 47)) (h48 : Snd mL_law g 1697 (J 48)) (h49 : Snd mL_law g 1700 (J 49)) (h50 : Snd mL_law g 1776 (J 50)) (h51 : Snd mL_law g 1779 (J 51)) (h52 : Snd mL_law g 1792 (J 52)) (h53 : Snd mL_law g 1845 (J 53)) (h54 : Snd mL_law g 1848 (J 54)) (h55 : Snd mL_law g 1913 (J 55)) (h56 : Snd mL_law g 1916 (J 56)) (h57 : Snd mL_law g 1969 (J 57)) (h58 : Snd mL_law g 1972 (J 58)) (h59 : Snd mL_law g 2037 (J 59)) (h60 : Snd mL_law g 2040 (J 60)) (h61 : Snd mL_law g 2093 (J 61)) (h62 : Snd mL_law g 2096 (J 62)) (h63 : Snd mL_law g 2161 (J 63)) (h64 : Snd mL_law g 2164 (J 64)) (h65 : Snd mL_law g 2217 (J 65)) (h66 : Snd mL_law g 2220 (J 66)) (h67 : Snd mL_law g 2309 (J 67)) (h68 : Snd mL_law g 2312 (J 68)) (h69 : Snd mL_law g 2389 (J 69)) (h70 : Snd mL_law g 2392 (J 70)) (h71 : Snd mL_law g 2457 (J 71)) (h72 : Snd mL_law g 2460 (J 72)) (h73 : Snd mL_law g 2513 (J 73)) (h74 : Snd mL_law g 2516 (J 74)) (h75 : Snd mL_law g 2529 (J 75)) (h76 : Snd mL_law g 2542 (J 76)) (h77 : Snd mL_law g 2555 (J 77)) (h78 : Snd mL_law g 2580 (J 78)) (h79 : Snd mL_law g 2605 (J 79)) : Snd mL_law g 563 (bL_law_11 g J) := by
  unfold bL_law_11
  exact s_goto (pc := 563) (tgt := 2605) h79 dL_law_563 (by decide)
theorem sbL_law_12 (g : GE) (J : Nat → KT) (h1 : Snd mL_law g 23 (J 1)) (h2 : Snd mL_law g 232 (J 2)) (h3 : Snd mL_law g 305 (J 3)) (h4 : Snd mL_law g 358 (J 4)) (h5 : Snd mL_law g 361 (J 5)) (h6 : Snd mL_law g 374 (J 6)) (h7 : Snd mL_law g 427 (J 7)) (h8 : Snd mL_law g 430 (J 8)) (h9 : Snd mL_law g 495 (J 9)) (h10 : Snd mL_law g 498 (J 10)) (h11 : Snd mL_law g 563 (J 11)) (h12 : Snd mL_law g 566 (J 12)) (h13 : Snd mL_law g 579 (J 13)) (h14 : Snd mL_law g 644 (J 14)) (h15 : Snd mL_law g 647 (J 15)) (h16 : Snd mL_law g 700 (J 16)) (h17 : Snd mL_law g 703 (J 17)) (h18 : Snd mL_law g 716 (J 18)) (h19 : Snd mL_law g 793 (J 19)) (h20 : Snd mL_law g 796 (J 20)) (h21 : Snd mL_law g 861 (J 21)) (h22 : Snd mL_law g 864 (J 22)) (h23 : Snd mL_law g 929 (J 23)) (h24 : Snd mL_law g 932 (J 24)) (h25 : Snd mL_law g 998 (J 25)) (h26 : Snd mL_law g 1004 (J 26)) (h27 : Snd mL_law g 1007 (J 27)) (h28 : Snd mL_law g 1072 (J 28)) (h29 : Snd mL_law g 1075 (J 29)) (h30 : Snd mL_law g 1140 (J 30)) (h31 : Snd mL_law g 1143 (J 31)) (h32 : Snd mL_law g 1196 (J 32)) (h33 : Snd mL_law g 1199 (J 33)) (h34 : Snd mL_law g 1212 (J 34)) (h35 : Snd mL_law g 1277 (J 35)) (h36 : Snd mL_law g 1280 (J 36)) (h37 : Snd mL_law g 1345 (J 37)) (h38 : Snd mL_law g 1348 (J 38)) (h39 : Snd mL_law g 1401 (J 39)) (h40 : Snd mL_law g 1404 (J 40)) (h41 : Snd mL_law g 1457 (J 41)) (h42 : Snd mL_law g 1460 (J 42)) (h43 : Snd mL_law g 1537 (J 43)) (h44 : Snd mL_law g 1540 (J 44)) (h45 : Snd mL_law g 1629 (J 45)) (h46 : Snd mL_law g 1632 (J 46)) (h47 : Snd mL_law g 1645 (J 47)) (h48 : Snd mL_law g 1697 (J 48)) (h49 : Snd mL_law g 1700 (J 49)) (h50 : Snd mL_law g 1776 (J 50)) (h51 : Snd mL_law g 1779 (J 51)) (h52 : Snd mL_law g 1792 (J 52)) (h53 : Snd mL_law g 1845 (J 53)) (h54 : Snd mL_law g 1848 (J 54)) (h55 : Snd mL_law g 1913 (J 55)) (h56 : Snd mL_law g 1916 (J 56)) (h57 : Snd mL_law g 1969 (J 57)) (h58 : Snd mL_law g 1972 (J 58)) (h59 : Snd mL_law g 2037 (J 59)) (h60 : Snd mL_law g 2040 (J 60)) (h61 : Snd mL_law g 2093 (J 61)) (h62 : Snd mL_law g 2096 (J 62)) (h63 : Snd mL_law g 2161 (J 63)) (h64 : Snd mL_law g 2164 (J 64)) (h65 : Snd mL_law g 2217 (J 65)) (h66 : Snd mL_law g 2220 (J 66)) (h67 : Snd mL_law g 2309 (J 67)) (h68 : Snd mL_law g 2312 (J 68)) (h69 : Snd mL_law g 2389 (J 69)) (h70 : Snd mL_law g 2392 (J 70)) (h71 : Snd mL_law g 2457 (J 71)) (h72 : Snd mL_law g 2460 (J 72)) (h73 : Snd mL_law g 2513 (J 73)) (h74 : Snd mL_law g 2516 (J 74)) (h75 : Snd mL_law g 2529 (J 75)) (h76 : Snd mL_law g 2542 (J 76)) (h77 : Snd mL_law g 2555 (J 77)) (h78 : Snd mL_law g 2580 (J 78)) (h79 : Snd mL_law g 2605 (J 79)) : Snd mL_law g 566 (bL_law_12 g J) := by
  unfold bL_law_12
  refine s_aload_n (pc := 566) (i := 1) ?_ dL_law_566 rfl
  refine s_cv (pc := 567) (n := 0) (ci := 9) ?_ tX10_readings rfl rfl wt_506 wt_507 wt_508 wt_1 wt_509 ⟨crX10_readings, by decide, by decide⟩ dL_law_567
  refine s_aload_n (pc := 570) (i := 2) ?_ dL_law_570 rfl
  refine s_cv (pc := 571) (n := 0) (ci := 10) ?_ tX11_readings rfl rfl wt_1663 wt_1664 wt_1665 wt_17 wt_1666 ⟨crX11_readings, by decide, by decide⟩ dL_law_571
  refine s_iceq (pc := 574) (tgt := 2605) ?_ ?_ dL_law_574 (by decide)
  · skip
    exact s_fall (pc := 2605) h79
  · skip
    refine s_iconst (pc := 577) (v := 0) ?_ dL_law_577 (by decide)
    exact s_zreturn (pc := 578) rfl dL_law_578
theorem sbL_law_13 (g : GE) (J : Nat → KT) (h1 : Snd mL_law g 23 (J 1)) (h2 : Snd mL_law g 232 (J 2)) (h3 : Snd mL_law g 305 (J 3)) (h4 : Snd mL_law g 358 (J 4)) (h5 : Snd mL_law g 361 (J 5)) (h6 : Snd mL_law g 374 (J 6)) (h7 : Snd mL_law g 427 (J 7)) (h8 : Snd mL_law g 430 (J 8)) (h9 : Snd mL_law g 495 (J 9)) (h10 : Snd mL_law g 498 (J 10)) (h11 : Snd mL_law g 563 (J 11)) (h12 : Snd mL_law g 566 (J 12)) (h13 : Snd mL_law g 579 (J 13)) (h14 : Snd mL_law g 644 (J 14)) (h15 : Snd mL_law g 647 (J 15)) (h16 : Snd mL_law g 700 (J 16)) (h17 : Snd mL_law g 703 (J 17)) (h18 : Snd mL_law g 716 (J 18)) (h19 : Snd mL_law g 793 (J 19)) (h20 : Snd mL_law g 796 (J 20)) (h21 : Snd mL_law g 861 (J 21)) (h22 : Snd mL_law g 864 (J 22)) (h23 : Snd mL_law g 929 (J 23)) (h24 : Snd mL_law g 932 (J 24)) (h25 : Snd mL_law g 998 (J 25)) (h26 : Snd mL_law g 1004 (J 26)) (h27 : Snd mL_law g 1007 (J 27)) (h28 : Snd mL_law g 1072 (J 28)) (h29 : Snd mL_law g 1075 (J 29)) (h30 : Snd mL_law g 1140 (J 30)) (h31 : Snd mL_law g 1143 (J 31)) (h32 : Snd mL_law g 1196 (J 32)) (h33 : Snd mL_law g 1199 (J 33)) (h34 : Snd mL_law g 1212 (J 34)) (h35 : Snd mL_law g 1277 (J 35)) (h36 : Snd mL_law g 1280 (J 36)) (h37 : Snd mL_law g 1345 (J 37)) (h38 : Snd mL_law g 1348 (J 38)) (h39 : Snd mL_law g 1401 (J 39)) (h40 : Snd mL_law g 1404 (J 40)) (h41 : Snd mL_law g 1457 (J 41)) (h42 : Snd mL_law g 1460 (J 42)) (h43 : Snd mL_law g 1537 (J 43)) (h44 : Snd mL_law g 1540 (J 44)) (h45 : Snd mL_law g 1629 (J 45)) (h46 : Snd mL_law g 1632 (J 46)) (h47 : Snd mL_law g 1645 (J 47)) (h48 : Snd mL_law g 1697 (J 48)) (h49 : Snd mL_law g 1700 (J 49)) (h50 : Snd mL_law g 1776 (J 50)) (h51 : Snd mL_law g 1779 (J 51)) (h52 : Snd mL_law g 1792 (J 52)) (h53 : Snd mL_law g 1845 (J 53)) (h54 : Snd mL_law g 1848 (J 54)) (h55 : Snd mL_law g 1913 (J 55)) (h56 : Snd mL_law g 1916 (J 56)) (h57 : Snd mL_law g 1969 (J 57)) (h58 : Snd mL_law g 1972 (J 58)) (h59 : Snd mL_law g 2037 (J 59)) (h60 : Snd mL_law g 2040 (J 60)) (h61 : Snd mL_law g 2093 (J 61)) (h62 : Snd mL_law g 2096 (J 62)) (h63 : Snd mL_law g 2161 (J 63)) (h64 : Snd mL_law g 2164 (J 64)) (h65 : Snd mL_law g 2217 (J 65)) (h66 : Snd mL_law g 2220 (J 66)) (h67 : Snd mL_law g 2309 (J 67)) (h68 : Snd mL_law g 2312 (J 68)) (h69 : Snd mL_law g 2389 (J 69)) (h70 : Snd mL_law g 2392 (J 70)) (h71 : Snd mL_law g 2457 (J 71)) (h72 : Snd mL_law g 2460 (J 72)) (h73 : Snd mL_law g 2513 (J 73)) (h74 : Snd mL_law g 2516 (J 74)) (h75 : Snd mL_law g 2529 (J 75)) (h76 : Snd mL_law g 2542 (J 76)) (h77 : Snd mL_law g 2555 (J 77)) (h78 : Snd mL_law g 2580 (J 78)) (h79 : Snd mL_law g 2605 (J 79)) : Snd mL_law g 579 (bL_law_13 g J) := by
  unfold bL_law_13
  refine s_aload_n (pc := 579) (i := 1) ?_ dL_law_579 rfl
  refine s_aload_n (pc := 580) (i := 0) ?_ dL_law_580 rfl
  refine s_iload (pc := 581) (i := 4) ?_ dL_law_581
  refine s_iconst (pc := 583) (v := 1) ?_ dL_law_583 (by decide)
  refine s_iadd (pc := 584) ?_ dL_law_584
  refine s_sli (pc := 585) ?_ dL_law_585
  refine s_aload_n (pc := 586) (i := 0) ?_ dL_law_586 rfl
  refine s_iload (pc := 587) (i := 4) ?_ dL_law_587
  refine s_iconst (pc := 589) (v := 2) ?_ dL_law_589 (by decide)
  refine s_iadd (pc := 590) ?_ dL_law_590
  refine s_sli (pc := 591) ?_ dL_law_591
  refine s_aload_n (pc := 592) (i := 3) ?_ dL_law_592 rfl
  refine s_csW (pc := 593) (n := 4) ?_ tL_reading wt_959 wt_960 wt_0 wt_961 ⟨crL_reading, by decide, by decide⟩ dL_law_593
  refine s_istore (pc := 596) (i := 5) ?_ dL_law_596 (by decide)
  refine s_aload_n (pc := 598) (i := 2) ?_ dL_law_598 rfl
  refine s_aload_n (pc := 599) (i := 0) ?_ dL_law_599 rfl
  refine s_iload (pc := 600) (i := 4) ?_ dL_law_600
  refine s_iconst (pc := 602) (v := 1) ?_ dL_law_602 (by decide)
  refine s_iadd (pc := 603) ?_ dL_law_603
  refine s_sli (pc := 604) ?_ dL_law_604
  refine s_aload_n (pc := 605) (i := 0) ?_ dL_law_605 rfl
  refine s_iload (pc := 606) (i := 4) ?_ dL_law_606
  refine s_iconst (pc := 608) (v := 2) ?_ dL_law_608 (by decide)
  refine s_iadd (pc := 609) ?_ dL_law_609
  refine s_sli (pc := 610) ?_ dL_law_610
  refine s_cv (pc := 611) (n := 2) (ci := 10) ?_ tX11_reading rfl rfl wt_1667 wt_1668 wt_1669 wt_17 wt_1670 ⟨crX11_reading, by decide, by decide⟩ dL_law_611
  refine s_istore (pc := 614) (i := 6) ?_ dL_law_614 (by decide)
  refine s_aload_n (pc := 616) (i := 2) ?_ dL_law_616 rfl
  refine s_cv (pc := 617) (n := 0) (ci := 10) ?_ tX11_thrown rfl rfl wt_1545 wt_1546 wt_1547 wt_17 wt_1548 ⟨crX11_thrown, by decide, by decide⟩ dL_law_617
  refine s_iload (pc := 620) (i := 5) ?_ dL_law_620
  refine s_iceq (pc := 622) (tgt := 627) ?_ ?_ dL_law_622 (by decide)
  · skip
    refine s_iload (pc := 627) (i := 5) ?_ dL_law_627
    refine s_ifne (pc := 629) (tgt := 644) ?_ ?_ dL_law_629 (by decide)
    · skip
      exact s_fall (pc := 644) h14
    · skip
      refine s_aload_n (pc := 632) (i := 3) ?_ dL_law_632 rfl
      refine s_iconst (pc := 633) (v := 0) ?_ dL_law_633 (by decide)
      refine s_laload (pc := 634) ?_ dL_law_634
      refine s_iload (pc := 635) (i := 6) ?_ dL_law_635
      refine s_i2l (pc := 637) ?_ dL_law_637
      refine s_lcmp (pc := 638) ?_ dL_law_638
      refine s_ifeq (pc := 639) (tgt := 644) ?_ ?_ dL_law_639 (by decide)
      · skip
        exact s_fall (pc := 644) h14
      · skip
        refine s_iconst (pc := 642) (v := 0) ?_ dL_law_642 (by decide)
        exact s_zreturn (pc := 643) rfl dL_law_643
  · skip
    refine s_iconst (pc := 625) (v := 0) ?_ dL_law_625 (by decide)
    exact s_zreturn (pc := 626) rfl dL_law_626
theorem sbL_law_14 (g : GE) (J : Nat → KT) (h1 : Snd mL_law g 23 (J 1)) (h2 : Snd mL_law g 232 (J 2)) (h3 : Snd mL_law g 305 (J 3)) (h4 : Snd mL_law g 358 (J 4)) (h5 : Snd mL_law g 361 (J 5)) (h6 : Snd mL_law g 374 (J 6)) (h7 : Snd mL_law g 427 (J 7)) (h8 : Snd mL_law g 430 (J 8)) (h9 : Snd mL_law g 495 (J 9)) (h10 : Snd mL_law g 498 (J 10)) (h11 : Snd mL_law g 563 (J 11)) (h12 : Snd mL_law g 566 (J 12)) (h13 : Snd mL_law g 579 (J 13)) (h14 : Snd mL_law g 644 (J 14)) (h15 : Snd mL_law g 647 (J 15)) (h16 : Snd mL_law g 700 (J 16)) (h17 : Snd mL_law g 703 (J 17)) (h18 : Snd mL_law g 716 (J 18)) (h19 : Snd mL_law g 793 (J 19)) (h20 : Snd mL_law g 796 (J 20)) (h21 : Snd mL_law g 861 (J 21)) (h22 : Snd mL_law g 864 (J 22)) (h23 : Snd mL_law g 929 (J 23)) (h24 : Snd mL_law g 932 (J 24)) (h25 : Snd mL_law g 998 (J 25)) (h26 : Snd mL_law g 1004 (J 26)) (h27 : Snd mL_law g 1007 (J 27)) (h28 : Snd mL_law g 1072 (J 28)) (h29 : Snd mL_law g 1075 (J 29)) (h30 : Snd mL_law g 1140 (J 30)) (h31 : Snd mL_law g 1143 (J 31)) (h32 : Snd mL_law g 1196 (J 32)) (h33 : Snd mL_law g 1199 (J 33)) (h34 : Snd mL_law g 1212 (J 34)) (h35 : Snd mL_law g 1277 (J 35)) (h36 : Snd mL_law g 1280 (J 36)) (h37 : Snd mL_law g 1345 (J 37)) (h38 : Snd mL_law g 1348 (J 38)) (h39 : Snd mL_law g 1401 (J 39)) (h40 : Snd mL_law g 1404 (J 40)) (h41 : Snd mL_law g 1457 (J 41)) (h42 : Snd mL_law g 1460 (J 42)) (h43 : Snd mL_law g 1537 (J 43)) (h44 : Snd mL_law g 1540 (J 44)) (h45 : Snd mL_law g 1629 (J 45)) (h46 : Snd mL_law g 1632 (J 46)) (h47 : Snd mL_law g 1645 (J 47)) (h48 : Snd mL_law g 1697 (J 48)) (h49 : Snd mL_law g 1700 (J 49)) (h50 : Snd mL_law g 1776 (J 50)) (h51 : Snd mL_law g 1779 (J 51)) (h52 : Snd mL_law g 1792 (J 52)) (h53 : Snd mL_law g 1845 (J 53)) (h54 : Snd mL_law g 1848 (J 54)) (h55 : Snd mL_law g 1913 (J 55)) (h56 : Snd mL_law g 1916 (J 56)) (h57 : Snd mL_law g 1969 (J 57)) (h58 : Snd mL_law g 1972 (J 58)) (h59 : Snd mL_law g 2037 (J 59)) (h60 : Snd mL_law g 2040 (J 60)) (h61 : Snd mL_law g 2093 (J 61)) (h62 : Snd mL_law g 2096 (J 62)) (h63 : Snd mL_law g 2161 (J 63)) (h64 : Snd mL_law g 2164 (J 64)) (h65 : Snd mL_law g 2217 (J 65)) (h66 : Snd mL_law g 2220 (J 66)) (h67 : Snd mL_law g 2309 (J 67)) (h68 : Snd mL_law g 2312 (J 68)) (h69 : Snd mL_law g 2389 (J 69)) (h70 : Snd mL_law g 2392 (J 70)) (h71 : Snd mL_law g 2457 (J 71)) (h72 : Snd mL_law g 2460 (J 72)) (h73 : Snd mL_law g 2513 (J 73)) (h74 : Snd mL_law g 2516 (J 74)) (h75 : Snd mL_law g 2529 (J 75)) (h76 : Snd mL_law g 2542 (J 76)) (h77 : Snd mL_law g 2555 (J 77)) (h78 : Snd mL_law g 2580 (J 78)) (h79 : Snd mL_law g 2605 (J 79)) : Snd mL_law g 644 (bL_law_14 g J) := by
  unfold bL_law_14
  exact s_goto (pc := 644) (tgt := 2605) h79 dL_law_644 (by decide)
theorem sbL_law_15 (g : GE) (J : Nat → KT) (h1 : Snd mL_law g 23 (J 1)) (h2 : Snd mL_law g 232 (J 2)) (h3 : Snd mL_law g 305 (J 3)) (h4 : Snd mL_law g 358 (J 4)) (h5 : Snd mL_law g 361 (J 5)) (h6 : Snd mL_law g 374 (J 6)) (h7 : Snd mL_law g 427 (J 7)) (h8 : Snd mL_law g 430 (J 8)) (h9 : Snd mL_law g 495 (J 9)) (h10 : Snd mL_law g 498 (J 10)) (h11 : Snd mL_law g 563 (J 11)) (h12 : Snd mL_law g 566 (J 12)) (h13 : Snd mL_law g 579 (J 13)) (h14 : Snd mL_law g 644 (J 14)) (h15 : Snd mL_law g 647 (J 15)) (h16 : Snd mL_law g 700 (J 16)) (h17 : Snd mL_law g 703 (J 17)) (h18 : Snd mL_law g 716 (J 18)) (h19 : Snd mL_law g 793 (J 19)) (h20 : Snd mL_law g 796 (J 20)) (h21 : Snd mL_law g 861 (J 21)) (h22 : Snd mL_law g 864 (J 22)) (h23 : Snd mL_law g 929 (J 23)) (h24 : Snd mL_law g 932 (J 24)) (h25 : Snd mL_law g 998 (J 25)) (h26 : Snd mL_law g 1004 (J 26)) (h27 : Snd mL_law g 1007 (J 27)) (h28 : Snd mL_law g 1072 (J 28)) (h29 : Snd mL_law g 1075 (J 29)) (h30 : Snd mL_law g 1140 (J 30)) (h31 : Snd mL_law g 1143 (J 31)) (h32 : Snd mL_law g 1196 (J 32)) (h33 : Snd mL_law g 1199 (J 33)) (h34 : Snd mL_law g 1212 (J 34)) (h35 : Snd mL_law g 1277 (J 35)) (h36 : Snd mL_law g 1280 (J 36)) (h37 : Snd mL_law g 1345 (J 37)) (h38 : Snd mL_law g 1348 (J 38)) (h39 : Snd mL_law g 1401 (J 39)) (h40 : Snd mL_law g 1404 (J 40)) (h41 : Snd mL_law g 1457 (J 41)) (h42 : Snd mL_law g 1460 (J 42)) (h43 : Snd mL_law g 1537 (J 43)) (h44 : Snd mL_law g 1540 (J 44)) (h45 : Snd mL_law g 1629 (J 45)) (h46 : Snd mL_law g 1632 (J 46)) (h47 : Snd mL_law g 1645 (J 47)) (h48 : Snd mL_law g 1697 (J 48)) (h49 : Snd mL_law g 1700 (J 49)) (h50 : Snd mL_law g 1776 (J 50)) (h51 : Snd mL_law g 1779 (J 51)) (h52 : Snd mL_law g 1792 (J 52)) (h53 : Snd mL_law g 1845 (J 53)) (h54 : Snd mL_law g 1848 (J 54)) (h55 : Snd mL_law g 1913 (J 55)) (h56 : Snd mL_law g 1916 (J 56)) (h57 : Snd mL_law g 1969 (J 57)) (h58 : Snd mL_law g 1972 (J 58)) (h59 : Snd mL_law g 2037 (J 59)) (h60 : Snd mL_law g 2040 (J 60)) (h61 : Snd mL_law g 2093 (J 61)) (h62 : Snd mL_law g 2096 (J 62)) (h63 : Snd mL_law g 2161 (J 63)) (h64 : Snd mL_law g 2164 (J 64)) (h65 : Snd mL_law g 2217 (J 65)) (h66 : Snd mL_law g 2220 (J 66)) (h67 : Snd mL_law g 2309 (J 67)) (h68 : Snd mL_law g 2312 (J 68)) (h69 : Snd mL_law g 2389 (J 69)) (h70 : Snd mL_law g 2392 (J 70)) (h71 : Snd mL_law g 2457 (J 71)) (h72 : Snd mL_law g 2460 (J 72)) (h73 : Snd mL_law g 2513 (J 73)) (h74 : Snd mL_law g 2516 (J 74)) (h75 : Snd mL_law g 2529 (J 75)) (h76 : Snd mL_law g 2542 (J 76)) (h77 : Snd mL_law g 2555 (J 77)) (h78 : Snd mL_law g 2580 (J 78)) (h79 : Snd mL_law g 2605 (J 79)) : Snd mL_law g 647 (bL_law_15 g J) := by
  unfold bL_law_15
  refine s_aload_n (pc := 647) (i := 1) ?_ dL_law_647 rfl
  refine s_aload_n (pc := 648) (i := 0) ?_ dL_law_648 rfl
  refine s_iload (pc := 649) (i := 4) ?_ dL_law_649
  refine s_iconst (pc := 651) (v := 1) ?_ dL_law_651 (by decide)
  refine s_iadd (pc := 652) ?_ dL_law_652
  refine s_sli (pc := 653) ?_ dL_law_653
  refine s_aload_n (pc := 654) (i := 3) ?_ dL_law_654 rfl
  refine s_csW (pc := 655) (n := 3) ?_ tL_alive wt_992 wt_993 wt_0 wt_994 ⟨crL_alive, by decide, by decide⟩ dL_law_655
  refine s_istore (pc := 658) (i := 5) ?_ dL_law_658 (by decide)
  refine s_aload_n (pc := 660) (i := 2) ?_ dL_law_660 rfl
  refine s_aload_n (pc := 661) (i := 0) ?_ dL_law_661 rfl
  refine s_iload (pc := 662) (i := 4) ?_ dL_law_662
  refine s_iconst (pc := 664) (v := 1) ?_ dL_law_664 (by decide)
  refine s_iadd (pc := 665) ?_ dL_law_665
  refine s_sli (pc := 666) ?_ dL_law_666
  refine s_cv (pc := 667) (n := 1) (ci := 10) ?_ tX11_alive rfl rfl wt_1683 wt_1684 wt_1685 wt_17 wt_1686 ⟨crX11_alive, by decide, by decide⟩ dL_law_667
  refine s_istore (pc := 670) (i := 6) ?_ dL_law_670 (by decide)
  refine s_aload_n (pc := 672) (i := 2) ?_ dL_law_672 rfl
  refine s_cv (pc := 673) (n := 0) (ci := 10) ?_ tX11_thrown rfl rfl wt_1545 wt_1546 wt_1547 wt_17 wt_1548 ⟨crX11_thrown, by decide, by decide⟩ dL_law_673
  refine s_iload (pc := 676) (i := 5) ?_ dL_law_676
  refine s_iceq (pc := 678) (tgt := 683) ?_ ?_ dL_law_678 (by decide)
  · skip
    refine s_iload (pc := 683) (i := 5) ?_ dL_law_683
    refine s_ifne (pc := 685) (tgt := 700) ?_ ?_ dL_law_685 (by decide)
    · skip
      exact s_fall (pc := 700) h16
    · skip
      refine s_aload_n (pc := 688) (i := 3) ?_ dL_law_688 rfl
      refine s_iconst (pc := 689) (v := 0) ?_ dL_law_689 (by decide)
      refine s_laload (pc := 690) ?_ dL_law_690
      refine s_iload (pc := 691) (i := 6) ?_ dL_law_691
      refine s_i2l (pc := 693) ?_ dL_law_693
      refine s_lcmp (pc := 694) ?_ dL_law_694
      refine s_ifeq (pc := 695) (tgt := 700) ?_ ?_ dL_law_695 (by decide)
      · skip
        exact s_fall (pc := 700) h16
      · skip
        refine s_iconst (pc := 698) (v := 0) ?_ dL_law_698 (by decide)
        exact s_zreturn (pc := 699) rfl dL_law_699
  · skip
    refine s_iconst (pc := 681) (v := 0) ?_ dL_law_681 (by decide)
    exact s_zreturn (pc := 682) rfl dL_law_682
theorem sbL_law_16 (g : GE) (J : Nat → KT) (h1 : Snd mL_law g 23 (J 1)) (h2 : Snd mL_law g 232 (J 2)) (h3 : Snd mL_law g 305 (J 3)) (h4 : Snd mL_law g 358 (J 4)) (h5 : Snd mL_law g 361 (J 5)) (h6 : Snd mL_law g 374 (J 6)) (h7 : Snd mL_law g 427 (J 7)) (h8 : Snd mL_law g 430 (J 8)) (h9 : Snd mL_law g 495 (J 9)) (h10 : Snd mL_law g 498 (J 10)) (h11 : Snd mL_law g 563 (J 11)) (h12 : Snd mL_law g 566 (J 12)) (h13 : Snd mL_law g 579 (J 13)) (h14 : Snd mL_law g 644 (J 14)) (h15 : Snd mL_law g 647 (J 15)) (h16 : Snd mL_law g 700 (J 16)) (h17 : Snd mL_law g 703 (J 17)) (h18 : Snd mL_law g 716 (J 18)) (h19 : Snd mL_law g 793 (J 19)) (h20 : Snd mL_law g 796 (J 20)) (h21 : Snd mL_law g 861 (J 21)) (h22 : Snd mL_law g 864 (J 22)) (h23 : Snd mL_law g 929 (J 23)) (h24 : Snd mL_law g 932 (J 24)) (h25 : Snd mL_law g 998 (J 25)) (h26 : Snd mL_law g 1004 (J 26)) (h27 : Snd mL_law g 1007 (J 27)) (h28 : Snd mL_law g 1072 (J 28)) (h29 : Snd mL_law g 1075 (J 29)) (h30 : Snd mL_law g 1140 (J 30)) (h31 : Snd mL_law g 1143 (J 31)) (h32 : Snd mL_law g 1196 (J 32)) (h33 : Snd mL_law g 1199 (J 33)) (h34 : Snd mL_law g 1212 (J 34)) (h35 : Snd mL_law g 1277 (J 35)) (h36 : Snd mL_law g 1280 (J 36)) (h37 : Snd mL_law g 1345 (J 37)) (h38 : Snd mL_law g 1348 (J 38)) (h39 : Snd mL_law g 1401 (J 39)) (h40 : Snd mL_law g 1404 (J 40)) (h41 : Snd mL_law g 1457 (J 41)) (h42 : Snd mL_law g 1460 (J 42)) (h43 : Snd mL_law g 1537 (J 43)) (h44 : Snd mL_law g 1540 (J 44)) (h45 : Snd mL_law g 1629 (J 45)) (h46 : Snd mL_law g 1632 (J 46)) (h47 : Snd mL_law g 1645 (J 47)) (h48 : Snd mL_law g 1697 (J 48)) (h49 : Snd mL_law g 1700 (J 49)) (h50 : Snd mL_law g 1776 (J 50)) (h51 : Snd mL_law g 1779 (J 51)) (h52 : Snd mL_law g 1792 (J 52)) (h53 : Snd mL_law g 1845 (J 53)) (h54 : Snd mL_law g 1848 (J 54)) (h55 : Snd mL_law g 1913 (J 55)) (h56 : Snd mL_law g 1916 (J 56)) (h57 : Snd mL_law g 1969 (J 57)) (h58 : Snd mL_law g 1972 (J 58)) (h59 : Snd mL_law g 2037 (J 59)) (h60 : Snd mL_law g 2040 (J 60)) (h61 : Snd mL_law g 2093 (J 61)) (h62 : Snd mL_law g 2096 (J 62)) (h63 : Snd mL_law g 2161 (J 63)) (h64 : Snd mL_law g 2164 (J 64)) (h65 : Snd mL_law g 2217 (J 65)) (h66 : Snd mL_law g 2220 (J 66)) (h67 : Snd mL_law g 2309 (J 67)) (h68 : Snd mL_law g 2312 (J 68)) (h69 : Snd mL_law g 2389 (J 69)) (h70 : Snd mL_law g 2392 (J 70)) (h71 : Snd mL_law g 2457 (J 71)) (h72 : Snd mL_law g 2460 (J 72)) (h73 : Snd mL_law g 2513 (J 73)) (h74 : Snd mL_law g 2516 (J 74)) (h75 : Snd mL_law g 2529 (J 75)) (h76 : Snd mL_law g 2542 (J 76)) (h77 : Snd mL_law g 2555 (J 77)) (h78 : Snd mL_law g 2580 (J 78)) (h79 : Snd mL_law g 2605 (J 79)) : Snd mL_law g 700 (bL_law_16 g J) := by
  unfold bL_law_16
  exact s_goto (pc := 700) (tgt := 2605) h79 dL_law_700 (by decide)
theorem sbL_law_17 (g : GE) (J : Nat → KT) (h1 : Snd mL_law g 23 (J 1)) (h2 : Snd mL_law g 232 (J 2)) (h3 : Snd mL_law g 305 (J 3)) (h4 : Snd mL_law g 358 (J 4)) (h5 : Snd mL_law g 361 (J 5)) (h6 : Snd mL_law g 374 (J 6)) (h7 : Snd mL_law g 427 (J 7)) (h8 : Snd mL_law g 430 (J 8)) (h9 : Snd mL_law g 495 (J 9)) (h10 : Snd mL_law g 498 (J 10)) (h11 : Snd mL_law g 563 (J 11)) (h12 : Snd mL_law g 566 (J 12)) (h13 : Snd mL_law g 579 (J 13)) (h14 : Snd mL_law g 644 (J 14)) (h15 : Snd mL_law g 647 (J 15)) (h16 : Snd mL_law g 700 (J 16)) (h17 : Snd mL_law g 703 (J 17)) (h18 : Snd mL_law g 716 (J 18)) (h19 : Snd mL_law g 793 (J 19)) (h20 : Snd mL_law g 796 (J 20)) (h21 : Snd mL_law g 861 (J 21)) (h22 : Snd mL_law g 864 (J 22)) (h23 : Snd mL_law g 929 (J 23)) (h24 : Snd mL_law g 932 (J 24)) (h25 : Snd mL_law g 998 (J 25)) (h26 : Snd mL_law g 1004 (J 26)) (h27 : Snd mL_law g 1007 (J 27)) (h28 : Snd mL_law g 1072 (J 28)) (h29 : Snd mL_law g 1075 (J 29)) (h30 : Snd mL_law g 1140 (J 30)) (h31 : Snd mL_law g 1143 (J 31)) (h32 : Snd mL_law g 1196 (J 32)) (h33 : Snd mL_law g 1199 (J 33)) (h34 : Snd mL_law g 1212 (J 34)) (h35 : Snd mL_law g 1277 (J 35)) (h36 : Snd mL_law g 1280 (J 36)) (h37 : Snd mL_law g 1345 (J 37)) (h38 : Snd mL_law g 1348 (J 38)) (h39 : Snd mL_law g 1401 (J 39)) (h40 : Snd mL_law g 1404 (J 40)) (h41 : Snd mL_law g 1457 (J 41)) (h42 : Snd mL_law g 1460 (J 42)) (h43 : Snd mL_law g 1537 (J 43)) (h44 : Snd mL_law g 1540 (J 44)) (h45 : Snd mL_law g 1629 (J 45)) (h46 : Snd mL_law g 1632 (J 46)) (h47 : Snd mL_law g 1645 (J 47)) (h48 : Snd mL_law g 1697 (J 48)) (h49 : Snd mL_law g 1700 (J 49)) (h50 : Snd mL_law g 1776 (J 50)) (h51 : Snd mL_law g 1779 (J 51)) (h52 : Snd mL_law g 1792 (J 52)) (h53 : Snd mL_law g 1845 (J 53)) (h54 : Snd mL_law g 1848 (J 54)) (h55 : Snd mL_law g 1913 (J 55)) (h56 : Snd mL_law g 1916 (J 56)) (h57 : Snd mL_law g 1969 (J 57)) (h58 : Snd mL_law g 1972 (J 58)) (h59 : Snd mL_law g 2037 (J 59)) (h60 : Snd mL_law g 2040 (J 60)) (h61 : Snd mL_law g 2093 (J 61)) (h62 : Snd mL_law g 2096 (J 62)) (h63 : Snd mL_law g 2161 (J 63)) (h64 : Snd mL_law g 2164 (J 64)) (h65 : Snd mL_law g 2217 (J 65)) (h66 : Snd mL_law g 2220 (J 66)) (h67 : Snd mL_law g 2309 (J 67)) (h68 : Snd mL_law g 2312 (J 68)) (h69 : Snd mL_law g 2389 (J 69)) (h70 : Snd mL_law g 2392 (J 70)) (h71 : Snd mL_law g 2457 (J 71)) (h72 : Snd mL_law g 2460 (J 72)) (h73 : Snd mL_law g 2513 (J 73)) (h74 : Snd mL_law g 2516 (J 74)) (h75 : Snd mL_law g 2529 (J 75)) (h76 : Snd mL_law g 2542 (J 76)) (h77 : Snd mL_law g 2555 (J 77)) (h78 : Snd mL_law g 2580 (J 78)) (h79 : Snd mL_law g 2605 (J 79)) : Snd mL_law g 703 (bL_law_17 g J) := by
  unfold bL_law_17
  refine s_aload_n (pc := 703) (i := 1) ?_ dL_law_703 rfl
  refine s_cv (pc := 704) (n := 0) (ci := 9) ?_ tX10_bars rfl rfl wt_510 wt_511 wt_512 wt_1 wt_513 ⟨crX10_bars, by decide, by decide⟩ dL_law_704
  refine s_aload_n (pc := 707) (i := 2) ?_ dL_law_707 rfl
  refine s_cv (pc := 708) (n := 0) (ci := 10) ?_ tX11_bars rfl rfl wt_1695 wt_1696 wt_1697 wt_17 wt_1698 ⟨crX11_bars, by decide, by decide⟩ dL_law_708
  refine s_iceq (pc := 711) (tgt := 2605) ?_ ?_ dL_law_711 (by decide)
  · skip
    exact s_fall (pc := 2605) h79
  · skip
    refine s_iconst (pc := 714) (v := 0) ?_ dL_law_714 (by decide)
    exact s_zreturn (pc := 715) rfl dL_law_715
theorem sbL_law_18 (g : GE) (J : Nat → KT) (h1 : Snd mL_law g 23 (J 1)) (h2 : Snd mL_law g 232 (J 2)) (h3 : Snd mL_law g 305 (J 3)) (h4 : Snd mL_law g 358 (J 4)) (h5 : Snd mL_law g 361 (J 5)) (h6 : Snd mL_law g 374 (J 6)) (h7 : Snd mL_law g 427 (J 7)) (h8 : Snd mL_law g 430 (J 8)) (h9 : Snd mL_law g 495 (J 9)) (h10 : Snd mL_law g 498 (J 10)) (h11 : Snd mL_law g 563 (J 11)) (h12 : Snd mL_law g 566 (J 12)) (h13 : Snd mL_law g 579 (J 13)) (h14 : Snd mL_law g 644 (J 14)) (h15 : Snd mL_law g 647 (J 15)) (h16 : Snd mL_law g 700 (J 16)) (h17 : Snd mL_law g 703 (J 17)) (h18 : Snd mL_law g 716 (J 18)) (h19 : Snd mL_law g 793 (J 19)) (h20 : Snd mL_law g 796 (J 20)) (h21 : Snd mL_law g 861 (J 21)) (h22 : Snd mL_law g 864 (J 22)) (h23 : Snd mL_law g 929 (J 23)) (h24 : Snd mL_law g 932 (J 24)) (h25 : Snd mL_law g 998 (J 25)) (h26 : Snd mL_law g 1004 (J 26)) (h27 : Snd mL_law g 1007 (J 27)) (h28 : Snd mL_law g 1072 (J 28)) (h29 : Snd mL_law g 1075 (J 29)) (h30 : Snd mL_law g 1140 (J 30)) (h31 : Snd mL_law g 1143 (J 31)) (h32 : Snd mL_law g 1196 (J 32)) (h33 : Snd mL_law g 1199 (J 33)) (h34 : Snd mL_law g 1212 (J 34)) (h35 : Snd mL_law g 1277 (J 35)) (h36 : Snd mL_law g 1280 (J 36)) (h37 : Snd mL_law g 1345 (J 37)) (h38 : Snd mL_law g 1348 (J 38)) (h39 : Snd mL_law g 1401 (J 39)) (h40 : Snd mL_law g 1404 (J 40)) (h41 : Snd mL_law g 1457 (J 41)) (h42 : Snd mL_law g 1460 (J 42)) (h43 : Snd mL_law g 1537 (J 43)) (h44 : Snd mL_law g 1540 (J 44)) (h45 : Snd mL_law g 1629 (J 45)) (h46 : Snd mL_law g 1632 (J 46)) (h47 : Snd mL_law g 1645 (J 47)) (h48 : Snd mL_law g 1697 (J 48)) (h49 : Snd mL_law g 1700 (J 49)) (h50 : Snd mL_law g 1776 (J 50)) (h51 : Snd mL_law g 1779 (J 51)) (h52 : Snd mL_law g 1792 (J 52)) (h53 : Snd mL_law g 1845 (J 53)) (h54 : Snd mL_law g 1848 (J 54)) (h55 : Snd mL_law g 1913 (J 55)) (h56 : Snd mL_law g 1916 (J 56)) (h57 : Snd mL_law g 1969 (J 57)) (h58 : Snd mL_law g 1972 (J 58)) (h59 : Snd mL_law g 2037 (J 59)) (h60 : Snd mL_law g 2040 (J 60)) (h61 : Snd mL_law g 2093 (J 61)) (h62 : Snd mL_law g 2096 (J 62)) (h63 : Snd mL_law g 2161 (J 63)) (h64 : Snd mL_law g 2164 (J 64)) (h65 : Snd mL_law g 2217 (J 65)) (h66 : Snd mL_law g 2220 (J 66)) (h67 : Snd mL_law g 2309 (J 67)) (h68 : Snd mL_law g 2312 (J 68)) (h69 : Snd mL_law g 2389 (J 69)) (h70 : Snd mL_law g 2392 (J 70)) (h71 : Snd mL_law g 2457 (J 71)) (h72 : Snd mL_law g 2460 (J 72)) (h73 : Snd mL_law g 2513 (J 73)) (h74 : Snd mL_law g 2516 (J 74)) (h75 : Snd mL_law g 2529 (J 75)) (h76 : Snd mL_law g 2542 (J 76)) (h77 : Snd mL_law g 2555 (J 77)) (h78 : Snd mL_law g 2580 (J 78)) (h79 : Snd mL_law g 2605 (J 79)) : Snd mL_law g 716 (bL_law_18 g J) := by
  unfold bL_law_18
  refine s_aload_n (pc := 716) (i := 1) ?_ dL_law_716 rfl
  refine s_aload_n (pc := 717) (i := 0) ?_ dL_law_717 rfl
  refine s_iload (pc := 718) (i := 4) ?_ dL_law_718
  refine s_iconst (pc := 720) (v := 1) ?_ dL_law_720 (by decide)
  refine s_iadd (pc := 721) ?_ dL_law_721
  refine s_sli (pc := 722) ?_ dL_law_722
  refine s_aload_n (pc := 723) (i := 0) ?_ dL_law_723 rfl
  refine s_iload (pc := 724) (i := 4) ?_ dL_law_724
  refine s_iconst (pc := 726) (v := 2) ?_ dL_law_726 (by decide)
  refine s_iadd (pc := 727) ?_ dL_law_727
  refine s_sli (pc := 728) ?_ dL_law_728
  refine s_aload_n (pc := 729) (i := 0) ?_ dL_law_729 rfl
  refine s_iload (pc := 730) (i := 4) ?_ dL_law_730
  refine s_iconst (pc := 732) (v := 3) ?_ dL_law_732 (by decide)
  refine s_iadd (pc := 733) ?_ dL_law_733
  refine s_sli (pc := 734) ?_ dL_law_734
  refine s_aload_n (pc := 735) (i := 3) ?_ dL_law_735 rfl
  refine s_csW (pc := 736) (n := 5) ?_ tL_gets wt_1003 wt_1004 wt_0 wt_1005 ⟨crL_gets, by decide, by decide⟩ dL_law_736
  refine s_istore (pc := 739) (i := 5) ?_ dL_law_739 (by decide)
  refine s_aload_n (pc := 741) (i := 2) ?_ dL_law_741 rfl
  refine s_aload_n (pc := 742) (i := 0) ?_ dL_law_742 rfl
  refine s_iload (pc := 743) (i := 4) ?_ dL_law_743
  refine s_iconst (pc := 745) (v := 1) ?_ dL_law_745 (by decide)
  refine s_iadd (pc := 746) ?_ dL_law_746
  refine s_sli (pc := 747) ?_ dL_law_747
  refine s_aload_n (pc := 748) (i := 0) ?_ dL_law_748 rfl
  refine s_iload (pc := 749) (i := 4) ?_ dL_law_749
  refine s_iconst (pc := 751) (v := 2) ?_ dL_law_751 (by decide)
  refine s_iadd (pc := 752) ?_ dL_law_752
  refine s_sli (pc := 753) ?_ dL_law_753
  refine s_aload_n (pc := 754) (i := 0) ?_ dL_law_754 rfl
  refine s_iload (pc := 755) (i := 4) ?_ dL_law_755
  refine s_iconst (pc := 757) (v := 3) ?_ dL_law_757 (by decide)
  refine s_iadd (pc := 758) ?_ dL_law_758
  refine s_sli (pc := 759) ?_ dL_law_759
  refine s_cv (pc := 760) (n := 3) (ci := 10) ?_ tX11_gets rfl rfl wt_1699 wt_1700 wt_1701 wt_17 wt_1702 ⟨crX11_gets, by decide, by decide⟩ dL_law_760
  refine s_istore (pc := 763) (i := 6) ?_ dL_law_763 (by decide)
  refine s_aload_n (pc := 765) (i := 2) ?_ dL_law_765 rfl
  refine s_cv (pc := 766) (n := 0) (ci := 10) ?_ tX11_thrown rfl rfl wt_1545 wt_1546 wt_1547 wt_17 wt_1548 ⟨crX11_thrown, by decide, by decide⟩ dL_law_766
  refine s_iload (pc := 769) (i := 5) ?_ dL_law_769
  refine s_iceq (pc := 771) (tgt := 776) ?_ ?_ dL_law_771 (by decide)
  · skip
    refine s_iload (pc := 776) (i := 5) ?_ dL_law_776
    refine s_ifne (pc := 778) (tgt := 793) ?_ ?_ dL_law_778 (by decide)
    · skip
      exact s_fall (pc := 793) h19
    · skip
      refine s_aload_n (pc := 781) (i := 3) ?_ dL_law_781 rfl
      refine s_iconst (pc := 782) (v := 0) ?_ dL_law_782 (by decide)
      refine s_laload (pc := 783) ?_ dL_law_783
      refine s_iload (pc := 784) (i := 6) ?_ dL_law_784
      refine s_i2l (pc := 786) ?_ dL_law_786
      refine s_lcmp (pc := 787) ?_ dL_law_787
      refine s_ifeq (pc := 788) (tgt := 793) ?_ ?_ dL_law_788 (by decide)
      · skip
        exact s_fall (pc := 793) h19
      · skip
        refine s_iconst (pc := 791) (v := 0) ?_ dL_law_791 (by decide)
        exact s_zreturn (pc := 792) rfl dL_law_792
  · skip
    refine s_iconst (pc := 774) (v := 0) ?_ dL_law_774 (by decide)
    exact s_zreturn (pc := 775) rfl dL_law_775
theorem sbL_law_19 (g : GE) (J : Nat → KT) (h1 : Snd mL_law g 23 (J 1)) (h2 : Snd mL_law g 232 (J 2)) (h3 : Snd mL_law g 305 (J 3)) (h4 : Snd mL_law g 358 (J 4)) (h5 : Snd mL_law g 361 (J 5)) (h6 : Snd mL_law g 374 (J 6)) (h7 : Snd mL_law g 427 (J 7)) (h8 : Snd mL_law g 430 (J 8)) (h9 : Snd mL_law g 495 (J 9)) (h10 : Snd mL_law g 498 (J 10)) (h11 : Snd mL_law g 563 (J 11)) (h12 : Snd mL_law g 566 (J 12)) (h13 : Snd mL_law g 579 (J 13)) (h14 : Snd mL_law g 644 (J 14)) (h15 : Snd mL_law g 647 (J 15)) (h16 : Snd mL_law g 700 (J 16)) (h17 : Snd mL_law g 703 (J 17)) (h18 : Snd mL_law g 716 (J 18)) (h19 : Snd mL_law g 793 (J 19)) (h20 : Snd mL_law g 796 (J 20)) (h21 : Snd mL_law g 861 (J 21)) (h22 : Snd mL_law g 864 (J 22)) (h23 : Snd mL_law g 929 (J 23)) (h24 : Snd mL_law g 932 (J 24)) (h25 : Snd mL_law g 998 (J 25)) (h26 : Snd mL_law g 1004 (J 26)) (h27 : Snd mL_law g 1007 (J 27)) (h28 : Snd mL_law g 1072 (J 28)) (h29 : Snd mL_law g 1075 (J 29)) (h30 : Snd mL_law g 1140 (J 30)) (h31 : Snd mL_law g 1143 (J 31)) (h32 : Snd mL_law g 1196 (J 32)) (h33 : Snd mL_law g 1199 (J 33)) (h34 : Snd mL_law g 1212 (J 34)) (h35 : Snd mL_law g 1277 (J 35)) (h36 : Snd mL_law g 1280 (J 36)) (h37 : Snd mL_law g 1345 (J 37)) (h38 : Snd mL_law g 1348 (J 38)) (h39 : Snd mL_law g 1401 (J 39)) (h40 : Snd mL_law g 1404 (J 40)) (h41 : Snd mL_law g 1457 (J 41)) (h42 : Snd mL_law g 1460 (J 42)) (h43 : Snd mL_law g 1537 (J 43)) (h44 : Snd mL_law g 1540 (J 44)) (h45 : Snd mL_law g 1629 (J 45)) (h46 : Snd mL_law g 1632 (J 46)) (h47 : Snd mL_law g 1645 (J 47)) (h48 : Snd mL_law g 1697 (J 48)) (h49 : Snd mL_law g 1700 (J 49)) (h50 : Snd mL_law g 1776 (J 50)) (h51 : Snd mL_law g 1779 (J 51)) (h52 : Snd mL_law g 1792 (J 52)) (h53 : Snd mL_law g 1845 (J 53)) (h54 : Snd mL_law g 1848 (J 54)) (h55 : Snd mL_law g 1913 (J 55)) (h56 : Snd mL_law g 1916 (J 56)) (h57 : Snd mL_law g 1969 (J 57)) (h58 : Snd mL_law g 1972 (J 58)) (h59 : Snd mL_law g 2037 (J 59)) (h60 : Snd mL_law g 2040 (J 60)) (h61 : Snd mL_law g 2093 (J 61)) (h62 : Snd mL_law g 2096 (J 62)) (h63 : Snd mL_law g 2161 (J 63)) (h64 : Snd mL_law g 2164 (J 64)) (h65 : Snd mL_law g 2217 (J 65)) (h66 : Snd mL_law g 2220 (J 66)) (h67 : Snd mL_law g 2309 (J 67)) (h68 : Snd mL_law g 2312 (J 68)) (h69 : Snd mL_law g 2389 (J 69)) (h70 : Snd mL_law g 2392 (J 70)) (h71 : Snd mL_law g 2457 (J 71)) (h72 : Snd mL_law g 2460 (J 72)) (h73 : Snd mL_law g 2513 (J 73)) (h74 : Snd mL_law g 2516 (J 74)) (h75 : Snd mL_law g 2529 (J 75)) (h76 : Snd mL_law g 2542 (J 76)) (h77 : Snd mL_law g 2555 (J 77)) (h78 : Snd mL_law g 2580 (J 78)) (h79 : Snd mL_law g 2605 (J 79)) : Snd mL_law g 793 (bL_law_19 g J) := by
  unfold bL_law_19
  exact s_goto (pc := 793) (tgt := 2605) h79 dL_law_793 (by decide)
theorem sbL_law_20 (g : GE) (J : Nat → KT) (h1 : Snd mL_law g 23 (J 1)) (h2 : Snd mL_law g 232 (J 2)) (h3 : Snd mL_law g 305 (J 3)) (h4 : Snd mL_law g 358 (J 4)) (h5 : Snd mL_law g 361 (J 5)) (h6 : Snd mL_law g 374 (J 6)) (h7 : Snd mL_law g 427 (J 7)) (h8 : Snd mL_law g 430 (J 8)) (h9 : Snd mL_law g 495 (J 9)) (h10 : Snd mL_law g 498 (J 10)) (h11 : Snd mL_law g 563 (J 11)) (h12 : Snd mL_law g 566 (J 12)) (h13 : Snd mL_law g 579 (J 13)) (h14 : Snd mL_law g 644 (J 14)) (h15 : Snd mL_law g 647 (J 15)) (h16 : Snd mL_law g 700 (J 16)) (h17 : Snd mL_law g 703 (J 17)) (h18 : Snd mL_law g 716 (J 18)) (h19 : Snd mL_law g 793 (J 19)) (h20 : Snd mL_law g 796 (J 20)) (h21 : Snd mL_law g 861 (J 21)) (h22 : Snd mL_law g 864 (J 22)) (h23 : Snd mL_law g 929 (J 23)) (h24 : Snd mL_law g 932 (J 24)) (h25 : Snd mL_law g 998 (J 25)) (h26 : Snd mL_law g 1004 (J 26)) (h27 : Snd mL_law g 1007 (J 27)) (h28 : Snd mL_law g 1072 (J 28)) (h29 : Snd mL_law g 1075 (J 29)) (h30 : Snd mL_law g 1140 (J 30)) (h31 : Snd mL_law g 1143 (J 31)) (h32 : Snd mL_law g 1196 (J 32)) (h33 : Snd mL_law g 1199 (J 33)) (h34 : Snd mL_law g 1212 (J 34)) (h35 : Snd mL_law g 1277 (J 35)) (h36 : Snd mL_law g 1280 (J 36)) (h37 : Snd mL_law g 1345 (J 37)) (h38 : Snd mL_law g 1348 (J 38)) (h39 : Snd mL_law g 1401 (J 39)) (h40 : Snd mL_law g 1404 (J 40)) (h41 : Snd mL_law g 1457 (J 41)) (h42 : Snd mL_law g 1460 (J 42)) (h43 : Snd mL_law g 1537 (J 43)) (h44 : Snd mL_law g 1540 (J 44)) (h45 : Snd mL_law g 1629 (J 45)) (h46 : Snd mL_law g 1632 (J 46)) (h47 : Snd mL_law g 1645 (J 47)) (h48 : Snd mL_law g 1697 (J 48)) (h49 : Snd mL_law g 1700 (J 49)) (h50 : Snd mL_law g 1776 (J 50)) (h51 : Snd mL_law g 1779 (J 51)) (h52 : Snd mL_law g 1792 (J 52)) (h53 : Snd mL_law g 1845 (J 53)) (h54 : Snd mL_law g 1848 (J 54)) (h55 : Snd mL_law g 1913 (J 55)) (h56 : Snd mL_law g 1916 (J 56)) (h57 : Snd mL_law g 1969 (J 57)) (h58 : Snd mL_law g 1972 (J 58)) (h59 : Snd mL_law g 2037 (J 59)) (h60 : Snd mL_law g 2040 (J 60)) (h61 : Snd mL_law g 2093 (J 61)) (h62 : Snd mL_law g 2096 (J 62)) (h63 : Snd mL_law g 2161 (J 63)) (h64 : Snd mL_law g 2164 (J 64)) (h65 : Snd mL_law g 2217 (J 65)) (h66 : Snd mL_law g 2220 (J 66)) (h67 : Snd mL_law g 2309 (J 67)) (h68 : Snd mL_law g 2312 (J 68)) (h69 : Snd mL_law g 2389 (J 69)) (h70 : Snd mL_law g 2392 (J 70)) (h71 : Snd mL_law g 2457 (J 71)) (h72 : Snd mL_law g 2460 (J 72)) (h73 : Snd mL_law g 2513 (J 73)) (h74 : Snd mL_law g 2516 (J 74)) (h75 : Snd mL_law g 2529 (J 75)) (h76 : Snd mL_law g 2542 (J 76)) (h77 : Snd mL_law g 2555 (J 77)) (h78 : Snd mL_law g 2580 (J 78)) (h79 : Snd mL_law g 2605 (J 79)) : Snd mL_law g 796 (bL_law_20 g J) := by
  unfold bL_law_20
  refine s_aload_n (pc := 796) (i := 1) ?_ dL_law_796 rfl
  refine s_aload_n (pc := 797) (i := 0) ?_ dL_law_797 rfl
  refine s_iload (pc := 798) (i := 4) ?_ dL_law_798
  refine s_iconst (pc := 800) (v := 1) ?_ dL_law_800 (by decide)
  refine s_iadd (pc := 801) ?_ dL_law_801
  refine s_sli (pc := 802) ?_ dL_law_802
  refine s_aload_n (pc := 803) (i := 0) ?_ dL_law_803 rfl
  refine s_iload (pc := 804) (i := 4) ?_ dL_law_804
  refine s_iconst (pc := 806) (v := 2) ?_ dL_law_806 (by decide)
  refine s_iadd (pc := 807) ?_ dL_law_807
  refine s_sli (pc := 808) ?_ dL_law_808
  refine s_aload_n (pc := 809) (i := 3) ?_ dL_law_809 rfl
  refine s_csW (pc := 810) (n := 4) ?_ tL_goes wt_1023 wt_1024 wt_0 wt_1025 ⟨crL_goes, by decide, by decide⟩ dL_law_810
  refine s_istore (pc := 813) (i := 5) ?_ dL_law_813 (by decide)
  refine s_aload_n (pc := 815) (i := 2) ?_ dL_law_815 rfl
  refine s_aload_n (pc := 816) (i := 0) ?_ dL_law_816 rfl
  refine s_iload (pc := 817) (i := 4) ?_ dL_law_817
  refine s_iconst (pc := 819) (v := 1) ?_ dL_law_819 (by decide)
  refine s_iadd (pc := 820) ?_ dL_law_820
  refine s_sli (pc := 821) ?_ dL_law_821
  refine s_aload_n (pc := 822) (i := 0) ?_ dL_law_822 rfl
  refine s_iload (pc := 823) (i := 4) ?_ dL_law_823
  refine s_iconst (pc := 825) (v := 2) ?_ dL_law_825 (by decide)
  refine s_iadd (pc := 826) ?_ dL_law_826
  refine s_sli (pc := 827) ?_ dL_law_827
  refine s_cv (pc := 828) (n := 2) (ci := 10) ?_ tX11_goes rfl rfl wt_1720 wt_1721 wt_1722 wt_17 wt_1723 ⟨crX11_goes, by decide, by decide⟩ dL_law_828
  refine s_istore (pc := 831) (i := 6) ?_ dL_law_831 (by decide)
  refine s_aload_n (pc := 833) (i := 2) ?_ dL_law_833 rfl
  refine s_cv (pc := 834) (n := 0) (ci := 10) ?_ tX11_thrown rfl rfl wt_1545 wt_1546 wt_1547 wt_17 wt_1548 ⟨crX11_thrown, by decide, by decide⟩ dL_law_834
  refine s_iload (pc := 837) (i := 5) ?_ dL_law_837
  refine s_iceq (pc := 839) (tgt := 844) ?_ ?_ dL_law_839 (by decide)
  · skip
    refine s_iload (pc := 844) (i := 5) ?_ dL_law_844
    refine s_ifne (pc := 846) (tgt := 861) ?_ ?_ dL_law_846 (by decide)
    · skip
      exact s_fall (pc := 861) h21
    · skip
      refine s_aload_n (pc := 849) (i := 3) ?_ dL_law_849 rfl
      refine s_iconst (pc := 850) (v := 0) ?_ dL_law_850 (by decide)
      refine s_laload (pc := 851) ?_ dL_law_851
      refine s_iload (pc := 852) (i := 6) ?_ dL_law_852
      refine s_i2l (pc := 854) ?_ dL_law_854
      refine s_lcmp (pc := 855) ?_ dL_law_855
      refine s_ifeq (pc := 856) (tgt := 861) ?_ ?_ dL_law_856 (by decide)
      · skip
        exact s_fall (pc := 861) h21
      · skip
        refine s_iconst (pc := 859) (v := 0) ?_ dL_law_859 (by decide)
        exact s_zreturn (pc := 860) rfl dL_law_860
  · skip
    refine s_iconst (pc := 842) (v := 0) ?_ dL_law_842 (by decide)
    exact s_zreturn (pc := 843) rfl dL_law_843
theorem sbL_law_21 (g : GE) (J : Nat → KT) (h1 : Snd mL_law g 23 (J 1)) (h2 : Snd mL_law g 232 (J 2)) (h3 : Snd mL_law g 305 (J 3)) (h4 : Snd mL_law g 358 (J 4)) (h5 : Snd mL_law g 361 (J 5)) (h6 : Snd mL_law g 374 (J 6)) (h7 : Snd mL_law g 427 (J 7)) (h8 : Snd mL_law g 430 (J 8)) (h9 : Snd mL_law g 495 (J 9)) (h10 : Snd mL_law g 498 (J 10)) (h11 : Snd mL_law g 563 (J 11)) (h12 : Snd mL_law g 566 (J 12)) (h13 : Snd mL_law g 579 (J 13)) (h14 : Snd mL_law g 644 (J 14)) (h15 : Snd mL_law g 647 (J 15)) (h16 : Snd mL_law g 700 (J 16)) (h17 : Snd mL_law g 703 (J 17)) (h18 : Snd mL_law g 716 (J 18)) (h19 : Snd mL_law g 793 (J 19)) (h20 : Snd mL_law g 796 (J 20)) (h21 : Snd mL_law g 861 (J 21)) (h22 : Snd mL_law g 864 (J 22)) (h23 : Snd mL_law g 929 (J 23)) (h24 : Snd mL_law g 932 (J 24)) (h25 : Snd mL_law g 998 (J 25)) (h26 : Snd mL_law g 1004 (J 26)) (h27 : Snd mL_law g 1007 (J 27)) (h28 : Snd mL_law g 1072 (J 28)) (h29 : Snd mL_law g 1075 (J 29)) (h30 : Snd mL_law g 1140 (J 30)) (h31 : Snd mL_law g 1143 (J 31)) (h32 : Snd mL_law g 1196 (J 32)) (h33 : Snd mL_law g 1199 (J 33)) (h34 : Snd mL_law g 1212 (J 34)) (h35 : Snd mL_law g 1277 (J 35)) (h36 : Snd mL_law g 1280 (J 36)) (h37 : Snd mL_law g 1345 (J 37)) (h38 : Snd mL_law g 1348 (J 38)) (h39 : Snd mL_law g 1401 (J 39)) (h40 : Snd mL_law g 1404 (J 40)) (h41 : Snd mL_law g 1457 (J 41)) (h42 : Snd mL_law g 1460 (J 42)) (h43 : Snd mL_law g 1537 (J 43)) (h44 : Snd mL_law g 1540 (J 44)) (h45 : Snd mL_law g 1629 (J 45)) (h46 : Snd mL_law g 1632 (J 46)) (h47 : Snd mL_law g 1645 (J 47)) (h48 : Snd mL_law g 1697 (J 48)) (h49 : Snd mL_law g 1700 (J 49)) (h50 : Snd mL_law g 1776 (J 50)) (h51 : Snd mL_law g 1779 (J 51)) (h52 : Snd mL_law g 1792 (J 52)) (h53 : Snd mL_law g 1845 (J 53)) (h54 : Snd mL_law g 1848 (J 54)) (h55 : Snd mL_law g 1913 (J 55)) (h56 : Snd mL_law g 1916 (J 56)) (h57 : Snd mL_law g 1969 (J 57)) (h58 : Snd mL_law g 1972 (J 58)) (h59 : Snd mL_law g 2037 (J 59)) (h60 : Snd mL_law g 2040 (J 60)) (h61 : Snd mL_law g 2093 (J 61)) (h62 : Snd mL_law g 2096 (J 62)) (h63 : Snd mL_law g 2161 (J 63)) (h64 : Snd mL_law g 2164 (J 64)) (h65 : Snd mL_law g 2217 (J 65)) (h66 : Snd mL_law g 2220 (J 66)) (h67 : Snd mL_law g 2309 (J 67)) (h68 : Snd mL_law g 2312 (J 68)) (h69 : Snd mL_law g 2389 (J 69)) (h70 : Snd mL_law g 2392 (J 70)) (h71 : Snd mL_law g 2457 (J 71)) (h72 : Snd mL_law g 2460 (J 72)) (h73 : Snd mL_law g 2513 (J 73)) (h74 : Snd mL_law g 2516 (J 74)) (h75 : Snd mL_law g 2529 (J 75)) (h76 : Snd mL_law g 2542 (J 76)) (h77 : Snd mL_law g 2555 (J 77)) (h78 : Snd mL_law g 2580 (J 78)) (h79 : Snd mL_law g 2605 (J 79)) : Snd mL_law g 861 (bL_law_21 g J) := by
  unfold bL_law_21
  exact s_goto (pc := 861) (tgt := 2605) h79 dL_law_861 (by decide)
theorem sbL_law_22 (g : GE) (J : Nat → KT) (h1 : Snd mL_law g 23 (J 1)) (h2 : Snd mL_law g 232 (J 2)) (h3 : Snd mL_law g 305 (J 3)) (h4 : Snd mL_law g 358 (J 4)) (h5 : Snd mL_law g 361 (J 5)) (h6 : Snd mL_law g 374 (J 6)) (h7 : Snd mL_law g 427 (J 7)) (h8 : Snd mL_law g 430 (J 8)) (h9 : Snd mL_law g 495 (J 9)) (h10 : Snd mL_law g 498 (J 10)) (h11 : Snd mL_law g 563 (J 11)) (h12 : Snd mL_law g 566 (J 12)) (h13 : Snd mL_law g 579 (J 13)) (h14 : Snd mL_law g 644 (J 14)) (h15 : Snd mL_law g 647 (J 15)) (h16 : Snd mL_law g 700 (J 16)) (h17 : Snd mL_law g 703 (J 17)) (h18 : Snd mL_law g 716 (J 18)) (h19 : Snd mL_law g 793 (J 19)) (h20 : Snd mL_law g 796 (J 20)) (h21 : Snd mL_law g 861 (J 21)) (h22 : Snd mL_law g 864 (J 22)) (h23 : Snd mL_law g 929 (J 23)) (h24 : Snd mL_law g 932 (J 24)) (h25 : Snd mL_law g 998 (J 25)) (h26 : Snd mL_law g 1004 (J 26)) (h27 : Snd mL_law g 1007 (J 27)) (h28 : Snd mL_law g 1072 (J 28)) (h29 : Snd mL_law g 1075 (J 29)) (h30 : Snd mL_law g 1140 (J 30)) (h31 : Snd mL_law g 1143 (J 31)) (h32 : Snd mL_law g 1196 (J 32)) (h33 : Snd mL_law g 1199 (J 33)) (h34 : Snd mL_law g 1212 (J 34)) (h35 : Snd mL_law g 1277 (J 35)) (h36 : Snd mL_law g 1280 (J 36)) (h37 : Snd mL_law g 1345 (J 37)) (h38 : Snd mL_law g 1348 (J 38)) (h39 : Snd mL_law g 1401 (J 39)) (h40 : Snd mL_law g 1404 (J 40)) (h41 : Snd mL_law g 1457 (J 41)) (h42 : Snd mL_law g 1460 (J 42)) (h43 : Snd mL_law g 1537 (J 43)) (h44 : Snd mL_law g 1540 (J 44)) (h45 : Snd mL_law g 1629 (J 45)) (h46 : Snd mL_law g 1632 (J 46)) (h47 : Snd mL_law g 1645 (J 47)) (h48 : Snd mL_law g 1697 (J 48)) (h49 : Snd mL_law g 1700 (J 49)) (h50 : Snd mL_law g 1776 (J 50)) (h51 : Snd mL_law g 1779 (J 51)) (h52 : Snd mL_law g 1792 (J 52)) (h53 : Snd mL_law g 1845 (J 53)) (h54 : Snd mL_law g 1848 (J 54)) (h55 : Snd mL_law g 1913 (J 55)) (h56 : Snd mL_law g 1916 (J 56)) (h57 : Snd mL_law g 1969 (J 57)) (h58 : Snd mL_law g 1972 (J 58)) (h59 : Snd mL_law g 2037 (J 59)) (h60 : Snd mL_law g 2040 (J 60)) (h61 : Snd mL_law g 2093 (J 61)) (h62 : Snd mL_law g 2096 (J 62)) (h63 : Snd mL_law g 2161 (J 63)) (h64 : Snd mL_law g 2164 (J 64)) (h65 : Snd mL_law g 2217 (J 65)) (h66 : Snd mL_law g 2220 (J 66)) (h67 : Snd mL_law g 2309 (J 67)) (h68 : Snd mL_law g 2312 (J 68)) (h69 : Snd mL_law g 2389 (J 69)) (h70 : Snd mL_law g 2392 (J 70)) (h71 : Snd mL_law g 2457 (J 71)) (h72 : Snd mL_law g 2460 (J 72)) (h73 : Snd mL_law g 2513 (J 73)) (h74 : Snd mL_law g 2516 (J 74)) (h75 : Snd mL_law g 2529 (J 75)) (h76 : Snd mL_law g 2542 (J 76)) (h77 : Snd mL_law g 2555 (J 77)) (h78 : Snd mL_law g 2580 (J 78)) (h79 : Snd mL_law g 2605 (J 79)) : Snd mL_law g 864 (bL_law_22 g J) := by
  unfold bL_law_22
  refine s_aload_n (pc := 864) (i := 1) ?_ dL_law_864 rfl
  refine s_aload_n (pc := 865) (i := 0) ?_ dL_law_865 rfl
  refine s_iload (pc := 866) (i := 4) ?_ dL_law_866
  refine s_iconst (pc := 868) (v := 1) ?_ dL_law_868 (by decide)
  refine s_iadd (pc := 869) ?_ dL_law_869
  refine s_sli (pc := 870) ?_ dL_law_870
  refine s_aload_n (pc := 871) (i := 0) ?_ dL_law_871 rfl
  refine s_iload (pc := 872) (i := 4) ?_ dL_law_872
  refine s_iconst (pc := 874) (v := 2) ?_ dL_law_874 (by decide)
  refine s_iadd (pc := 875) ?_ dL_law_875
  refine s_sli (pc := 876) ?_ dL_law_876
  refine s_aload_n (pc := 877) (i := 3) ?_ dL_law_877 rfl
  refine s_csW (pc := 878) (n := 4) ?_ tL_often wt_1035 wt_1036 wt_0 wt_1037 ⟨crL_often, by decide, by decide⟩ dL_law_878
  refine s_istore (pc := 881) (i := 5) ?_ dL_law_881 (by decide)
  refine s_aload_n (pc := 883) (i := 2) ?_ dL_law_883 rfl
  refine s_aload_n (pc := 884) (i := 0) ?_ dL_law_884 rfl
  refine s_iload (pc := 885) (i := 4) ?_ dL_law_885
  refine s_iconst (pc := 887) (v := 1) ?_ dL_law_887 (by decide)
  refine s_iadd (pc := 888) ?_ dL_law_888
  refine s_sli (pc := 889) ?_ dL_law_889
  refine s_aload_n (pc := 890) (i := 0) ?_ dL_law_890 rfl
  refine s_iload (pc := 891) (i := 4) ?_ dL_law_891
  refine s_iconst (pc := 893) (v := 2) ?_ dL_law_893 (by decide)
  refine s_iadd (pc := 894) ?_ dL_law_894
  refine s_sli (pc := 895) ?_ dL_law_895
  refine s_cv (pc := 896) (n := 2) (ci := 10) ?_ tX11_often rfl rfl wt_1728 wt_1729 wt_1730 wt_17 wt_1731 ⟨crX11_often, by decide, by decide⟩ dL_law_896
  refine s_istore (pc := 899) (i := 6) ?_ dL_law_899 (by decide)
  refine s_aload_n (pc := 901) (i := 2) ?_ dL_law_901 rfl
  refine s_cv (pc := 902) (n := 0) (ci := 10) ?_ tX11_thrown rfl rfl wt_1545 wt_1546 wt_1547 wt_17 wt_1548 ⟨crX11_thrown, by decide, by decide⟩ dL_law_902
  refine s_iload (pc := 905) (i := 5) ?_ dL_law_905
  refine s_iceq (pc := 907) (tgt := 912) ?_ ?_ dL_law_907 (by decide)
  · skip
    refine s_iload (pc := 912) (i := 5) ?_ dL_law_912
    refine s_ifne (pc := 914) (tgt := 929) ?_ ?_ dL_law_914 (by decide)
    · skip
      exact s_fall (pc := 929) h23
    · skip
      refine s_aload_n (pc := 917) (i := 3) ?_ dL_law_917 rfl
      refine s_iconst (pc := 918) (v := 0) ?_ dL_law_918 (by decide)
      refine s_laload (pc := 919) ?_ dL_law_919
      refine s_iload (pc := 920) (i := 6) ?_ dL_law_920
      refine s_i2l (pc := 922) ?_ dL_law_922
      refine s_lcmp (pc := 923) ?_ dL_law_923
      refine s_ifeq (pc := 924) (tgt := 929) ?_ ?_ dL_law_924 (by decide)
      · skip
        exact s_fall (pc := 929) h23
      · skip
        refine s_iconst (pc := 927) (v := 0) ?_ dL_law_927 (by decide)
        exact s_zreturn (pc := 928) rfl dL_law_928
  · skip
    refine s_iconst (pc := 910) (v := 0) ?_ dL_law_910 (by decide)
    exact s_zreturn (pc := 911) rfl dL_law_911
theorem sbL_law_23 (g : GE) (J : Nat → KT) (h1 : Snd mL_law g 23 (J 1)) (h2 : Snd mL_law g 232 (J 2)) (h3 : Snd mL_law g 305 (J 3)) (h4 : Snd mL_law g 358 (J 4)) (h5 : Snd mL_law g 361 (J 5)) (h6 : Snd mL_law g 374 (J 6)) (h7 : Snd mL_law g 427 (J 7)) (h8 : Snd mL_law g 430 (J 8)) (h9 : Snd mL_law g 495 (J 9)) (h10 : Snd mL_law g 498 (J 10)) (h11 : Snd mL_law g 563 (J 11)) (h12 : Snd mL_law g 566 (J 12)) (h13 : Snd mL_law g 579 (J 13)) (h14 : Snd mL_law g 644 (J 14)) (h15 : Snd mL_law g 647 (J 15)) (h16 : Snd mL_law g 700 (J 16)) (h17 : Snd mL_law g 703 (J 17)) (h18 : Snd mL_law g 716 (J 18)) (h19 : Snd mL_law g 793 (J 19)) (h20 : Snd mL_law g 796 (J 20)) (h21 : Snd mL_law g 861 (J 21)) (h22 : Snd mL_law g 864 (J 22)) (h23 : Snd mL_law g 929 (J 23)) (h24 : Snd mL_law g 932 (J 24)) (h25 : Snd mL_law g 998 (J 25)) (h26 : Snd mL_law g 1004 (J 26)) (h27 : Snd mL_law g 1007 (J 27)) (h28 : Snd mL_law g 1072 (J 28)) (h29 : Snd mL_law g 1075 (J 29)) (h30 : Snd mL_law g 1140 (J 30)) (h31 : Snd mL_law g 1143 (J 31)) (h32 : Snd mL_law g 1196 (J 32)) (h33 : Snd mL_law g 1199 (J 33)) (h34 : Snd mL_law g 1212 (J 34)) (h35 : Snd mL_law g 1277 (J 35)) (h36 : Snd mL_law g 1280 (J 36)) (h37 : Snd mL_law g 1345 (J 37)) (h38 : Snd mL_law g 1348 (J 38)) (h39 : Snd mL_law g 1401 (J 39)) (h40 : Snd mL_law g 1404 (J 40)) (h41 : Snd mL_law g 1457 (J 41)) (h42 : Snd mL_law g 1460 (J 42)) (h43 : Snd mL_law g 1537 (J 43)) (h44 : Snd mL_law g 1540 (J 44)) (h45 : Snd mL_law g 1629 (J 45)) (h46 : Snd mL_law g 1632 (J 46)) (h47 : Snd mL_law g 1645 (J 47)) (h48 : Snd mL_law g 1697 (J 48)) (h49 : Snd mL_law g 1700 (J 49)) (h50 : Snd mL_law g 1776 (J 50)) (h51 : Snd mL_law g 1779 (J 51)) (h52 : Snd mL_law g 1792 (J 52)) (h53 : Snd mL_law g 1845 (J 53)) (h54 : Snd mL_law g 1848 (J 54)) (h55 : Snd mL_law g 1913 (J 55)) (h56 : Snd mL_law g 1916 (J 56)) (h57 : Snd mL_law g 1969 (J 57)) (h58 : Snd mL_law g 1972 (J 58)) (h59 : Snd mL_law g 2037 (J 59)) (h60 : Snd mL_law g 2040 (J 60)) (h61 : Snd mL_law g 2093 (J 61)) (h62 : Snd mL_law g 2096 (J 62)) (h63 : Snd mL_law g 2161 (J 63)) (h64 : Snd mL_law g 2164 (J 64)) (h65 : Snd mL_law g 2217 (J 65)) (h66 : Snd mL_law g 2220 (J 66)) (h67 : Snd mL_law g 2309 (J 67)) (h68 : Snd mL_law g 2312 (J 68)) (h69 : Snd mL_law g 2389 (J 69)) (h70 : Snd mL_law g 2392 (J 70)) (h71 : Snd mL_law g 2457 (J 71)) (h72 : Snd mL_law g 2460 (J 72)) (h73 : Snd mL_law g 2513 (J 73)) (h74 : Snd mL_law g 2516 (J 74)) (h75 : Snd mL_law g 2529 (J 75)) (h76 : Snd mL_law g 2542 (J 76)) (h77 : Snd mL_law g 2555 (J 77)) (h78 : Snd mL_law g 2580 (J 78)) (h79 : Snd mL_law g 2605 (J 79)) : Snd mL_law g 929 (bL_law_23 g J) := by
  unfold bL_law_23
  exact s_goto (pc := 929) (tgt := 2605) h79 dL_law_929 (by decide)
theorem sbL_law_24 (g : GE) (J : Nat → KT) (h1 : Snd mL_law g 23 (J 1)) (h2 : Snd mL_law g 232 (J 2)) (h3 : Snd mL_law g 305 (J 3)) (h4 : Snd mL_law g 358 (J 4)) (h5 : Snd mL_law g 361 (J 5)) (h6 : Snd mL_law g 374 (J 6)) (h7 : Snd mL_law g 427 (J 7)) (h8 : Snd mL_law g 430 (J 8)) (h9 : Snd mL_law g 495 (J 9)) (h10 : Snd mL_law g 498 (J 10)) (h11 : Snd mL_law g 563 (J 11)) (h12 : Snd mL_law g 566 (J 12)) (h13 : Snd mL_law g 579 (J 13)) (h14 : Snd mL_law g 644 (J 14)) (h15 : Snd mL_law g 647 (J 15)) (h16 : Snd mL_law g 700 (J 16)) (h17 : Snd mL_law g 703 (J 17)) (h18 : Snd mL_law g 716 (J 18)) (h19 : Snd mL_law g 793 (J 19)) (h20 : Snd mL_law g 796 (J 20)) (h21 : Snd mL_law g 861 (J 21)) (h22 : Snd mL_law g 864 (J 22)) (h23 : Snd mL_law g 929 (J 23)) (h24 : Snd mL_law g 932 (J 24)) (h25 : Snd mL_law g 998 (J 25)) (h26 : Snd mL_law g 1004 (J 26)) (h27 : Snd mL_law g 1007 (J 27)) (h28 : Snd mL_law g 1072 (J 28)) (h29 : Snd mL_law g 1075 (J 29)) (h30 : Snd mL_law g 1140 (J 30)) (h31 : Snd mL_law g 1143 (J 31)) (h32 : Snd mL_law g 1196 (J 32)) (h33 : Snd mL_law g 1199 (J 33)) (h34 : Snd mL_law g 1212 (J 34)) (h35 : Snd mL_law g 1277 (J 35)) (h36 : Snd mL_law g 1280 (J 36)) (h37 : Snd mL_law g 1345 (J 37)) (h38 : Snd mL_law g 1348 (J 38)) (h39 : Snd mL_law g 1401 (J 39)) (h40 : Snd mL_law g 1404 (J 40)) (h41 : Snd mL_law g 1457 (J 41)) (h42 : Snd mL_law g 1460 (J 42)) (h43 : Snd mL_law g 1537 (J 43)) (h44 : Snd mL_law g 1540 (J 44)) (h45 : Snd mL_law g 1629 (J 45)) (h46 : Snd mL_law g 1632 (J 46)) (h47 : Snd mL_law g 1645 (J 47)) (h48 : Snd mL_law g 1697 (J 48)) (h49 : Snd mL_law g 1700 (J 49)) (h50 : Snd mL_law g 1776 (J 50)) (h51 : Snd mL_law g 1779 (J 51)) (h52 : Snd mL_law g 1792 (J 52)) (h53 : Snd mL_law g 1845 (J 53)) (h54 : Snd mL_law g 1848 (J 54)) (h55 : Snd mL_law g 1913 (J 55)) (h56 : Snd mL_law g 1916 (J 56)) (h57 : Snd mL_law g 1969 (J 57)) (h58 : Snd mL_law g 1972 (J 58)) (h59 : Snd mL_law g 2037 (J 59)) (h60 : Snd mL_law g 2040 (J 60)) (h61 : Snd mL_law g 2093 (J 61)) (h62 : Snd mL_law g 2096 (J 62)) (h63 : Snd mL_law g 2161 (J 63)) (h64 : Snd mL_law g 2164 (J 64)) (h65 : Snd mL_law g 2217 (J 65)) (h66 : Snd mL_law g 2220 (J 66)) (h67 : Snd mL_law g 2309 (J 67)) (h68 : Snd mL_law g 2312 (J 68)) (h69 : Snd mL_law g 2389 (J 69)) (h70 : Snd mL_law g 2392 (J 70)) (h71 : Snd mL_law g 2457 (J 71)) (h72 : Snd mL_law g 2460 (J 72)) (h73 : Snd mL_law g 2513 (J 73)) (h74 : Snd mL_law g 2516 (J 74)) (h75 : Snd mL_law g 2529 (J 75)) (h76 : Snd mL_law g 2542 (J 76)) (h77 : Snd mL_law g 2555 (J 77)) (h78 : Snd mL_law g 2580 (J 78)) (h79 : Snd mL_law g 2605 (J 79)) : Snd mL_law g 932 (bL_law_24 g J) := by
  unfold bL_law_24
  refine s_aload_n (pc := 932) (i := 1) ?_ dL_law_932 rfl
  refine s_aload_n (pc := 933) (i := 0) ?_ dL_law_933 rfl
  refine s_iload (pc := 934) (i := 4) ?_ dL_law_934
  refine s_iconst (pc := 936) (v := 1) ?_ dL_law_936 (by decide)
  refine s_iadd (pc := 937) ?_ dL_law_937
  refine s_sli (pc := 938) ?_ dL_law_938
  refine s_aload_n (pc := 939) (i := 0) ?_ dL_law_939 rfl
  refine s_iload (pc := 940) (i := 4) ?_ dL_law_940
  refine s_iconst (pc := 942) (v := 2) ?_ dL_law_942 (by decide)
  refine s_iadd (pc := 943) ?_ dL_law_943
  refine s_sli (pc := 944) ?_ dL_law_944
  refine s_aload_n (pc := 945) (i := 3) ?_ dL_law_945 rfl
  refine s_csW (pc := 946) (n := 4) ?_ tL_sure wt_1043 wt_1044 wt_0 wt_1045 ⟨crL_sure, by decide, by decide⟩ dL_law_946
  refine s_istore (pc := 949) (i := 5) ?_ dL_law_949 (by decide)
  refine s_aload_n (pc := 951) (i := 2) ?_ dL_law_951 rfl
  refine s_aload_n (pc := 952) (i := 0) ?_ dL_law_952 rfl
  refine s_iload (pc := 953) (i := 4) ?_ dL_law_953
  refine s_iconst (pc := 955) (v := 1) ?_ dL_law_955 (by decide)
  refine s_iadd (pc := 956) ?_ dL_law_956
  refine s_sli (pc := 957) ?_ dL_law_957
  refine s_aload_n (pc := 958) (i := 0) ?_ dL_law_958 rfl
  refine s_iload (pc := 959) (i := 4) ?_ dL_law_959
  refine s_iconst (pc := 961) (v := 2) ?_ dL_law_961 (by decide)
  refine s_iadd (pc := 962) ?_ dL_law_962
  refine s_sli (pc := 963) ?_ dL_law_963
  refine s_cv (pc := 964) (n := 2) (ci := 10) ?_ tX11_sure rfl rfl wt_1736 wt_1737 wt_1738 wt_17 wt_1739 ⟨crX11_sure, by decide, by decide⟩ dL_law_964
  refine s_istore (pc := 967) (i := 6) ?_ dL_law_967 (by decide)
  refine s_aload_n (pc := 969) (i := 2) ?_ dL_law_969 rfl
  refine s_cv (pc := 970) (n := 0) (ci := 10) ?_ tX11_thrown rfl rfl wt_1545 wt_1546 wt_1547 wt_17 wt_1548 ⟨crX11_thrown, by decide, by decide⟩ dL_law_970
  refine s_iload (pc := 973) (i := 5) ?_ dL_law_973
  refine s_iceq (pc := 975) (tgt := 980) ?_ ?_ dL_law_975 (by decide)
  · skip
    refine s_iload (pc := 980) (i := 5) ?_ dL_law_980
    refine s_ifne (pc := 982) (tgt := 1004) ?_ ?_ dL_law_982 (by decide)
    · skip
      exact s_fall (pc := 1004) h26
    · skip
      refine s_aload_n (pc := 985) (i := 3) ?_ dL_law_985 rfl
      refine s_iconst (pc := 986) (v := 0) ?_ dL_law_986 (by decide)
      refine s_laload (pc := 987) ?_ dL_law_987
      refine s_iload (pc := 988) (i := 6) ?_ dL_law_988
      refine s_ifeq (pc := 990) (tgt := 997) ?_ ?_ dL_law_990 (by decide)
      · skip
        refine s_lconst (pc := 997) (v := 0) ?_ dL_law_997 (by decide)
        exact s_fall (pc := 998) h25
      · skip
        refine s_lconst (pc := 993) (v := 1) ?_ dL_law_993 (by decide)
        exact s_goto (pc := 994) (tgt := 998) h25 dL_law_994 (by decide)
  · skip
    refine s_iconst (pc := 978) (v := 0) ?_ dL_law_978 (by decide)
    exact s_zreturn (pc := 979) rfl dL_law_979
theorem sbL_law_25 (g : GE) (J : Nat → KT) (h1 : Snd mL_law g 23 (J 1)) (h2 : Snd mL_law g 232 (J 2)) (h3 : Snd mL_law g 305 (J 3)) (h4 : Snd mL_law g 358 (J 4)) (h5 : Snd mL_law g 361 (J 5)) (h6 : Snd mL_law g 374 (J 6)) (h7 : Snd mL_law g 427 (J 7)) (h8 : Snd mL_law g 430 (J 8)) (h9 : Snd mL_law g 495 (J 9)) (h10 : Snd mL_law g 498 (J 10)) (h11 : Snd mL_law g 563 (J 11)) (h12 : Snd mL_law g 566 (J 12)) (h13 : Snd mL_law g 579 (J 13)) (h14 : Snd mL_law g 644 (J 14)) (h15 : Snd mL_law g 647 (J 15)) (h16 : Snd mL_law g 700 (J 16)) (h17 : Snd mL_law g 703 (J 17)) (h18 : Snd mL_law g 716 (J 18)) (h19 : Snd mL_law g 793 (J 19)) (h20 : Snd mL_law g 796 (J 20)) (h21 : Snd mL_law g 861 (J 21)) (h22 : Snd mL_law g 864 (J 22)) (h23 : Snd mL_law g 929 (J 23)) (h24 : Snd mL_law g 932 (J 24)) (h25 : Snd mL_law g 998 (J 25)) (h26 : Snd mL_law g 1004 (J 26)) (h27 : Snd mL_law g 1007 (J 27)) (h28 : Snd mL_law g 1072 (J 28)) (h29 : Snd mL_law g 1075 (J 29)) (h30 : Snd mL_law g 1140 (J 30)) (h31 : Snd mL_law g 1143 (J 31)) (h32 : Snd mL_law g 1196 (J 32)) (h33 : Snd mL_law g 1199 (J 33)) (h34 : Snd mL_law g 1212 (J 34)) (h35 : Snd mL_law g 1277 (J 35)) (h36 : Snd mL_law g 1280 (J 36)) (h37 : Snd mL_law g 1345 (J 37)) (h38 : Snd mL_law g 1348 (J 38)) (h39 : Snd mL_law g 1401 (J 39)) (h40 : Snd mL_law g 1404 (J 40)) (h41 : Snd mL_law g 1457 (J 41)) (h42 : Snd mL_law g 1460 (J 42)) (h43 : Snd mL_law g 1537 (J 43)) (h44 : Snd mL_law g 1540 (J 44)) (h45 : Snd mL_law g 1629 (J 45)) (h46 : Snd mL_law g 1632 (J 46)) (h47 : Snd mL_law g 1645 (J 47)) (h48 : Snd mL_law g 1697 (J 48)) (h49 : Snd mL_law g 1700 (J 49)) (h50 : Snd mL_law g 1776 (J 50)) (h51 : Snd mL_law g 1779 (J 51)) (h52 : Snd mL_law g 1792 (J 52)) (h53 : Snd mL_law g 1845 (J 53)) (h54 : Snd mL_law g 1848 (J 54)) (h55 : Snd mL_law g 1913 (J 55)) (h56 : Snd mL_law g 1916 (J 56)) (h57 : Snd mL_law g 1969 (J 57)) (h58 : Snd mL_law g 1972 (J 58)) (h59 : Snd mL_law g 2037 (J 59)) (h60 : Snd mL_law g 2040 (J 60)) (h61 : Snd mL_law g 2093 (J 61)) (h62 : Snd mL_law g 2096 (J 62)) (h63 : Snd mL_law g 2161 (J 63)) (h64 : Snd mL_law g 2164 (J 64)) (h65 : Snd mL_law g 2217 (J 65)) (h66 : Snd mL_law g 2220 (J 66)) (h67 : Snd mL_law g 2309 (J 67)) (h68 : Snd mL_law g 2312 (J 68)) (h69 : Snd mL_law g 2389 (J 69)) (h70 : Snd mL_law g 2392 (J 70)) (h71 : Snd mL_law g 2457 (J 71)) (h72 : Snd mL_law g 2460 (J 72)) (h73 : Snd mL_law g 2513 (J 73)) (h74 : Snd mL_law g 2516 (J 74)) (h75 : Snd mL_law g 2529 (J 75)) (h76 : Snd mL_law g 2542 (J 76)) (h77 : Snd mL_law g 2555 (J 77)) (h78 : Snd mL_law g 2580 (J 78)) (h79 : Snd mL_law g 2605 (J 79)) : Snd mL_law g 998 (bL_law_25 g J) := by
  unfold bL_law_25
  refine s_lcmp (pc := 998) ?_ dL_law_998
  refine s_ifeq (pc := 999) (tgt := 1004) ?_ ?_ dL_law_999 (by decide)
  · skip
    exact s_fall (pc := 1004) h26
  · skip
    refine s_iconst (pc := 1002) (v := 0) ?_ dL_law_1002 (by decide)
    exact s_zreturn (pc := 1003) rfl dL_law_1003
theorem sbL_law_26 (g : GE) (J : Nat → KT) (h1 : Snd mL_law g 23 (J 1)) (h2 : Snd mL_law g 232 (J 2)) (h3 : Snd mL_law g 305 (J 3)) (h4 : Snd mL_law g 358 (J 4)) (h5 : Snd mL_law g 361 (J 5)) (h6 : Snd mL_law g 374 (J 6)) (h7 : Snd mL_law g 427 (J 7)) (h8 : Snd mL_law g 430 (J 8)) (h9 : Snd mL_law g 495 (J 9)) (h10 : Snd mL_law g 498 (J 10)) (h11 : Snd mL_law g 563 (J 11)) (h12 : Snd mL_law g 566 (J 12)) (h13 : Snd mL_law g 579 (J 13)) (h14 : Snd mL_law g 644 (J 14)) (h15 : Snd mL_law g 647 (J 15)) (h16 : Snd mL_law g 700 (J 16)) (h17 : Snd mL_law g 703 (J 17)) (h18 : Snd mL_law g 716 (J 18)) (h19 : Snd mL_law g 793 (J 19)) (h20 : Snd mL_law g 796 (J 20)) (h21 : Snd mL_law g 861 (J 21)) (h22 : Snd mL_law g 864 (J 22)) (h23 : Snd mL_law g 929 (J 23)) (h24 : Snd mL_law g 932 (J 24)) (h25 : Snd mL_law g 998 (J 25)) (h26 : Snd mL_law g 1004 (J 26)) (h27 : Snd mL_law g 1007 (J 27)) (h28 : Snd mL_law g 1072 (J 28)) (h29 : Snd mL_law g 1075 (J 29)) (h30 : Snd mL_law g 1140 (J 30)) (h31 : Snd mL_law g 1143 (J 31)) (h32 : Snd mL_law g 1196 (J 32)) (h33 : Snd mL_law g 1199 (J 33)) (h34 : Snd mL_law g 1212 (J 34)) (h35 : Snd mL_law g 1277 (J 35)) (h36 : Snd mL_law g 1280 (J 36)) (h37 : Snd mL_law g 1345 (J 37)) (h38 : Snd mL_law g 1348 (J 38)) (h39 : Snd mL_law g 1401 (J 39)) (h40 : Snd mL_law g 1404 (J 40)) (h41 : Snd mL_law g 1457 (J 41)) (h42 : Snd mL_law g 1460 (J 42)) (h43 : Snd mL_law g 1537 (J 43)) (h44 : Snd mL_law g 1540 (J 44)) (h45 : Snd mL_law g 1629 (J 45)) (h46 : Snd mL_law g 1632 (J 46)) (h47 : Snd mL_law g 1645 (J 47)) (h48 : Snd mL_law g 1697 (J 48)) (h49 : Snd mL_law g 1700 (J 49)) (h50 : Snd mL_law g 1776 (J 50)) (h51 : Snd mL_law g 1779 (J 51)) (h52 : Snd mL_law g 1792 (J 52)) (h53 : Snd mL_law g 1845 (J 53)) (h54 : Snd mL_law g 1848 (J 54)) (h55 : Snd mL_law g 1913 (J 55)) (h56 : Snd mL_law g 1916 (J 56)) (h57 : Snd mL_law g 1969 (J 57)) (h58 : Snd mL_law g 1972 (J 58)) (h59 : Snd mL_law g 2037 (J 59)) (h60 : Snd mL_law g 2040 (J 60)) (h61 : Snd mL_law g 2093 (J 61)) (h62 : Snd mL_law g 2096 (J 62)) (h63 : Snd mL_law g 2161 (J 63)) (h64 : Snd mL_law g 2164 (J 64)) (h65 : Snd mL_law g 2217 (J 65)) (h66 : Snd mL_law g 2220 (J 66)) (h67 : Snd mL_law g 2309 (J 67)) (h68 : Snd mL_law g 2312 (J 68)) (h69 : Snd mL_law g 2389 (J 69)) (h70 : Snd mL_law g 2392 (J 70)) (h71 : Snd mL_law g 2457 (J 71)) (h72 : Snd mL_law g 2460 (J 72)) (h73 : Snd mL_law g 2513 (J 73)) (h74 : Snd mL_law g 2516 (J 74)) (h75 : Snd mL_law g 2529 (J 75)) (h76 : Snd mL_law g 2542 (J 76)) (h77 : Snd mL_law g 2555 (J 77)) (h78 : Snd mL_law g 2580 (J 78)) (h79 : Snd mL_law g 2605 (J 79)) : Snd mL_law g 1004 (bL_law_26 g J) := by
  unfold bL_law_26
  exact s_goto (pc := 1004) (tgt := 2605) h79 dL_law_1004 (by decide)
theorem sbL_law_27 (g : GE) (J : Nat → KT) (h1 : Snd mL_law g 23 (J 1)) (h2 : Snd mL_law g 232 (J 2)) (h3 : Snd mL_law g 305 (J 3)) (h4 : Snd mL_law g 358 (J 4)) (h5 : Snd mL_law g 361 (J 5)) (h6 : Snd mL_law g 374 (J 6)) (h7 : Snd mL_law g 427 (J 7)) (h8 : Snd mL_law g 430 (J 8)) (h9 : Snd mL_law g 495 (J 9)) (h10 : Snd mL_law g 498 (J 10)) (h11 : Snd mL_law g 563 (J 11)) (h12 : Snd mL_law g 566 (J 12)) (h13 : Snd mL_law g 579 (J 13)) (h14 : Snd mL_law g 644 (J 14)) (h15 : Snd mL_law g 647 (J 15)) (h16 : Snd mL_law g 700 (J 16)) (h17 : Snd mL_law g 703 (J 17)) (h18 : Snd mL_law g 716 (J 18)) (h19 : Snd mL_law g 793 (J 19)) (h20 : Snd mL_law g 796 (J 20)) (h21 : Snd mL_law g 861 (J 21)) (h22 : Snd mL_law g 864 (J 22)) (h23 : Snd mL_law g 929 (J 23)) (h24 : Snd mL_law g 932 (J 24)) (h25 : Snd mL_law g 998 (J 25)) (h26 : Snd mL_law g 1004 (J 26)) (h27 : Snd mL_law g 1007 (J 27)) (h28 : Snd mL_law g 1072 (J 28)) (h29 : Snd mL_law g 1075 (J 29)) (h30 : Snd mL_law g 1140 (J 30)) (h31 : Snd mL_law g 1143 (J 31)) (h32 : Snd mL_law g 1196 (J 32)) (h33 : Snd mL_law g 1199 (J 33)) (h34 : Snd mL_law g 1212 (J 34)) (h35 : Snd mL_law g 1277 (J 35)) (h36 : Snd mL_law g 1280 (J 36)) (h37 : Snd mL_law g 1345 (J 37)) (h38 : Snd mL_law g 1348 (J 38)) (h39 : Snd mL_law g 1401 (J 39)) (h40 : Snd mL_law g 1404 (J 40)) (h41 : Snd mL_law g 1457 (J 41)) (h42 : Snd mL_law g 1460 (J 42)) (h43 : Snd mL_law g 1537 (J 43)) (h44 : Snd mL_law g 1540 (J 44)) (h45 : Snd mL_law g 1629 (J 45)) (h46 : Snd mL_law g 1632 (J 46)) (h47 : Snd mL_law g 1645 (J 47)) (h48 : Snd mL_law g 1697 (J 48)) (h49 : Snd mL_law g 1700 (J 49)) (h50 : Snd mL_law g 1776 (J 50)) (h51 : Snd mL_law g 1779 (J 51)) (h52 : Snd mL_law g 1792 (J 52)) (h53 : Snd mL_law g 1845 (J 53)) (h54 : Snd mL_law g 1848 (J 54)) (h55 : Snd mL_law g 1913 (J 55)) (h56 : Snd mL_law g 1916 (J 56)) (h57 : Snd mL_law g 1969 (J 57)) (h58 : Snd mL_law g 1972 (J 58)) (h59 : Snd mL_law g 2037 (J 59)) (h60 : Snd mL_law g 2040 (J 60)) (h61 : Snd mL_law g 2093 (J 61)) (h62 : Snd mL_law g 2096 (J 62)) (h63 : Snd mL_law g 2161 (J 63)) (h64 : Snd mL_law g 2164 (J 64)) (h65 : Snd mL_law g 2217 (J 65)) (h66 : Snd mL_law g 2220 (J 66)) (h67 : Snd mL_law g 2309 (J 67)) (h68 : Snd mL_law g 2312 (J 68)) (h69 : Snd mL_law g 2389 (J 69)) (h70 : Snd mL_law g 2392 (J 70)) (h71 : Snd mL_law g 2457 (J 71)) (h72 : Snd mL_law g 2460 (J 72)) (h73 : Snd mL_law g 2513 (J 73)) (h74 : Snd mL_law g 2516 (J 74)) (h75 : Snd mL_law g 2529 (J 75)) (h76 : Snd mL_law g 2542 (J 76)) (h77 : Snd mL_law g 2555 (J 77)) (h78 : Snd mL_law g 2580 (J 78)) (h79 : Snd mL_law g 2605 (J 79)) : Snd mL_law g 1007 (bL_law_27 g J) := by
  unfold bL_law_27
  refine s_aload_n (pc := 1007) (i := 1) ?_ dL_law_1007 rfl
  refine s_aload_n (pc := 1008) (i := 0) ?_ dL_law_1008 rfl
  refine s_iload (pc := 1009) (i := 4) ?_ dL_law_1009
  refine s_iconst (pc := 1011) (v := 1) ?_ dL_law_1011 (by decide)
  refine s_iadd (pc := 1012) ?_ dL_law_1012
  refine s_sli (pc := 1013) ?_ dL_law_1013
  refine s_aload_n (pc := 1014) (i := 0) ?_ dL_law_1014 rfl
  refine s_iload (pc := 1015) (i := 4) ?_ dL_law_1015
  refine s_iconst (pc := 1017) (v := 2) ?_ dL_law_1017 (by decide)
  refine s_iadd (pc := 1018) ?_ dL_law_1018
  refine s_sli (pc := 1019) ?_ dL_law_1019
  refine s_aload_n (pc := 1020) (i := 3) ?_ dL_law_1020 rfl
  refine s_csW (pc := 1021) (n := 4) ?_ tL_coin wt_1050 wt_1051 wt_0 wt_1052 ⟨crL_coin, by decide, by decide⟩ dL_law_1021
  refine s_istore (pc := 1024) (i := 5) ?_ dL_law_1024 (by decide)
  refine s_aload_n (pc := 1026) (i := 2) ?_ dL_law_1026 rfl
  refine s_aload_n (pc := 1027) (i := 0) ?_ dL_law_1027 rfl
  refine s_iload (pc := 1028) (i := 4) ?_ dL_law_1028
  refine s_iconst (pc := 1030) (v := 1) ?_ dL_law_1030 (by decide)
  refine s_iadd (pc := 1031) ?_ dL_law_1031
  refine s_sli (pc := 1032) ?_ dL_law_1032
  refine s_aload_n (pc := 1033) (i := 0) ?_ dL_law_1033 rfl
  refine s_iload (pc := 1034) (i := 4) ?_ dL_law_1034
  refine s_iconst (pc := 1036) (v := 2) ?_ dL_law_1036 (by decide)
  refine s_iadd (pc := 1037) ?_ dL_law_1037
  refine s_sli (pc := 1038) ?_ dL_law_1038
  refine s_cv (pc := 1039) (n := 2) (ci := 10) ?_ tX11_coin rfl rfl wt_1740 wt_1741 wt_1742 wt_17 wt_1743 ⟨crX11_coin, by decide, by decide⟩ dL_law_1039
  refine s_istore (pc := 1042) (i := 6) ?_ dL_law_1042 (by decide)
  refine s_aload_n (pc := 1044) (i := 2) ?_ dL_law_1044 rfl
  refine s_cv (pc := 1045) (n := 0) (ci := 10) ?_ tX11_thrown rfl rfl wt_1545 wt_1546 wt_1547 wt_17 wt_1548 ⟨crX11_thrown, by decide, by decide⟩ dL_law_1045
  refine s_iload (pc := 1048) (i := 5) ?_ dL_law_1048
  refine s_iceq (pc := 1050) (tgt := 1055) ?_ ?_ dL_law_1050 (by decide)
  · skip
    refine s_iload (pc := 1055) (i := 5) ?_ dL_law_1055
    refine s_ifne (pc := 1057) (tgt := 1072) ?_ ?_ dL_law_1057 (by decide)
    · skip
      exact s_fall (pc := 1072) h28
    · skip
      refine s_aload_n (pc := 1060) (i := 3) ?_ dL_law_1060 rfl
      refine s_iconst (pc := 1061) (v := 0) ?_ dL_law_1061 (by decide)
      refine s_laload (pc := 1062) ?_ dL_law_1062
      refine s_iload (pc := 1063) (i := 6) ?_ dL_law_1063
      refine s_i2l (pc := 1065) ?_ dL_law_1065
      refine s_lcmp (pc := 1066) ?_ dL_law_1066
      refine s_ifeq (pc := 1067) (tgt := 1072) ?_ ?_ dL_law_1067 (by decide)
      · skip
        exact s_fall (pc := 1072) h28
      · skip
        refine s_iconst (pc := 1070) (v := 0) ?_ dL_law_1070 (by decide)
        exact s_zreturn (pc := 1071) rfl dL_law_1071
  · skip
    refine s_iconst (pc := 1053) (v := 0) ?_ dL_law_1053 (by decide)
    exact s_zreturn (pc := 1054) rfl dL_law_1054
theorem sbL_law_28 (g : GE) (J : Nat → KT) (h1 : Snd mL_law g 23 (J 1)) (h2 : Snd mL_law g 232 (J 2)) (h3 : Snd mL_law g 305 (J 3)) (h4 : Snd mL_law g 358 (J 4)) (h5 : Snd mL_law g 361 (J 5)) (h6 : Snd mL_law g 374 (J 6)) (h7 : Snd mL_law g 427 (J 7)) (h8 : Snd mL_law g 430 (J 8)) (h9 : Snd mL_law g 495 (J 9)) (h10 : Snd mL_law g 498 (J 10)) (h11 : Snd mL_law g 563 (J 11)) (h12 : Snd mL_law g 566 (J 12)) (h13 : Snd mL_law g 579 (J 13)) (h14 : Snd mL_law g 644 (J 14)) (h15 : Snd mL_law g 647 (J 15)) (h16 : Snd mL_law g 700 (J 16)) (h17 : Snd mL_law g 703 (J 17)) (h18 : Snd mL_law g 716 (J 18)) (h19 : Snd mL_law g 793 (J 19)) (h20 : Snd mL_law g 796 (J 20)) (h21 : Snd mL_law g 861 (J 21)) (h22 : Snd mL_law g 864 (J 22)) (h23 : Snd mL_law g 929 (J 23)) (h24 : Snd mL_law g 932 (J 24)) (h25 : Snd mL_law g 998 (J 25)) (h26 : Snd mL_law g 1004 (J 26)) (h27 : Snd mL_law g 1007 (J 27)) (h28 : Snd mL_law g 1072 (J 28)) (h29 : Snd mL_law g 1075 (J 29)) (h30 : Snd mL_law g 1140 (J 30)) (h31 : Snd mL_law g 1143 (J 31)) (h32 : Snd mL_law g 1196 (J 32)) (h33 : Snd mL_law g 1199 (J 33)) (h34 : Snd mL_law g 1212 (J 34)) (h35 : Snd mL_law g 1277 (J 35)) (h36 : Snd mL_law g 1280 (J 36)) (h37 : Snd mL_law g 1345 (J 37)) (h38 : Snd mL_law g 1348 (J 38)) (h39 : Snd mL_law g 1401 (J 39)) (h40 : Snd mL_law g 1404 (J 40)) (h41 : Snd mL_law g 1457 (J 41)) (h42 : Snd mL_law g 1460 (J 42)) (h43 : Snd mL_law g 1537 (J 43)) (h44 : Snd mL_law g 1540 (J 44)) (h45 : Snd mL_law g 1629 (J 45)) (h46 : Snd mL_law g 1632 (J 46)) (h47 : Snd mL_law g 1645 (J 47)) (h48 : Snd mL_law g 1697 (J 48)) (h49 : Snd mL_law g 1700 (J 49)) (h50 : Snd mL_law g 1776 (J 50)) (h51 : Snd mL_law g 1779 (J 51)) (h52 : Snd mL_law g 1792 (J 52)) (h53 : Snd mL_law g 1845 (J 53)) (h54 : Snd mL_law g 1848 (J 54)) (h55 : Snd mL_law g 1913 (J 55)) (h56 : Snd mL_law g 1916 (J 56)) (h57 : Snd mL_law g 1969 (J 57)) (h58 : Snd mL_law g 1972 (J 58)) (h59 : Snd mL_law g 2037 (J 59)) (h60 : Snd mL_law g 2040 (J 60)) (h61 : Snd mL_law g 2093 (J 61)) (h62 : Snd mL_law g 2096 (J 62)) (h63 : Snd mL_law g 2161 (J 63)) (h64 : Snd mL_law g 2164 (J 64)) (h65 : Snd mL_law g 2217 (J 65)) (h66 : Snd mL_law g 2220 (J 66)) (h67 : Snd mL_law g 2309 (J 67)) (h68 : Snd mL_law g 2312 (J 68)) (h69 : Snd mL_law g 2389 (J 69)) (h70 : Snd mL_law g 2392 (J 70)) (h71 : Snd mL_law g 2457 (J 71)) (h72 : Snd mL_law g 2460 (J 72)) (h73 : Snd mL_law g 2513 (J 73)) (h74 : Snd mL_law g 2516 (J 74)) (h75 : Snd mL_law g 2529 (J 75)) (h76 : Snd mL_law g 2542 (J 76)) (h77 : Snd mL_law g 2555 (J 77)) (h78 : Snd mL_law g 2580 (J 78)) (h79 : Snd mL_law g 2605 (J 79)) : Snd mL_law g 1072 (bL_law_28 g J) := by
  unfold bL_law_28
  exact s_goto (pc := 1072) (tgt := 2605) h79 dL_law_1072 (by decide)
theorem sbL_law_29 (g : GE) (J : Nat → KT) (h1 : Snd mL_law g 23 (J 1)) (h2 : Snd mL_law g 232 (J 2)) (h3 : Snd mL_law g 305 (J 3)) (h4 : Snd mL_law g 358 (J 4)) (h5 : Snd mL_law g 361 (J 5)) (h6 : Snd mL_law g 374 (J 6)) (h7 : Snd mL_law g 427 (J 7)) (h8 : Snd mL_law g 430 (J 8)) (h9 : Snd mL_law g 495 (J 9)) (h10 : Snd mL_law g 498 (J 10)) (h11 : Snd mL_law g 563 (J 11)) (h12 : Snd mL_law g 566 (J 12)) (h13 : Snd mL_law g 579 (J 13)) (h14 : Snd mL_law g 644 (J 14)) (h15 : Snd mL_law g 647 (J 15)) (h16 : Snd mL_law g 700 (J 16)) (h17 : Snd mL_law g 703 (J 17)) (h18 : Snd mL_law g 716 (J 18)) (h19 : Snd mL_law g 793 (J 19)) (h20 : Snd mL_law g 796 (J 20)) (h21 : Snd mL_law g 861 (J 21)) (h22 : Snd mL_law g 864 (J 22)) (h23 : Snd mL_law g 929 (J 23)) (h24 : Snd mL_law g 932 (J 24)) (h25 : Snd mL_law g 998 (J 25)) (h26 : Snd mL_law g 1004 (J 26)) (h27 : Snd mL_law g 1007 (J 27)) (h28 : Snd mL_law g 1072 (J 28)) (h29 : Snd mL_law g 1075 (J 29)) (h30 : Snd mL_law g 1140 (J 30)) (h31 : Snd mL_law g 1143 (J 31)) (h32 : Snd mL_law g 1196 (J 32)) (h33 : Snd mL_law g 1199 (J 33)) (h34 : Snd mL_law g 1212 (J 34)) (h35 : Snd mL_law g 1277 (J 35)) (h36 : Snd mL_law g 1280 (J 36)) (h37 : Snd mL_law g 1345 (J 37)) (h38 : Snd mL_law g 1348 (J 38)) (h39 : Snd mL_law g 1401 (J 39)) (h40 : Snd mL_law g 1404 (J 40)) (h41 : Snd mL_law g 1457 (J 41)) (h42 : Snd mL_law g 1460 (J 42)) (h43 : Snd mL_law g 1537 (J 43)) (h44 : Snd mL_law g 1540 (J 44)) (h45 : Snd mL_law g 1629 (J 45)) (h46 : Snd mL_law g 1632 (J 46)) (h47 : Snd mL_law g 1645 (J 47)) (h48 : Snd mL_law g 1697 (J 48)) (h49 : Snd mL_law g 1700 (J 49)) (h50 : Snd mL_law g 1776 (J 50)) (h51 : Snd mL_law g 1779 (J 51)) (h52 : Snd mL_law g 1792 (J 52)) (h53 : Snd mL_law g 1845 (J 53)) (h54 : Snd mL_law g 1848 (J 54)) (h55 : Snd mL_law g 1913 (J 55)) (h56 : Snd mL_law g 1916 (J 56)) (h57 : Snd mL_law g 1969 (J 57)) (h58 : Snd mL_law g 1972 (J 58)) (h59 : Snd mL_law g 2037 (J 59)) (h60 : Snd mL_law g 2040 (J 60)) (h61 : Snd mL_law g 2093 (J 61)) (h62 : Snd mL_law g 2096 (J 62)) (h63 : Snd mL_law g 2161 (J 63)) (h64 : Snd mL_law g 2164 (J 64)) (h65 : Snd mL_law g 2217 (J 65)) (h66 : Snd mL_law g 2220 (J 66)) (h67 : Snd mL_law g 2309 (J 67)) (h68 : Snd mL_law g 2312 (J 68)) (h69 : Snd mL_law g 2389 (J 69)) (h70 : Snd mL_law g 2392 (J 70)) (h71 : Snd mL_law g 2457 (J 71)) (h72 : Snd mL_law g 2460 (J 72)) (h73 : Snd mL_law g 2513 (J 73)) (h74 : Snd mL_law g 2516 (J 74)) (h75 : Snd mL_law g 2529 (J 75)) (h76 : Snd mL_law g 2542 (J 76)) (h77 : Snd mL_law g 2555 (J 77)) (h78 : Snd mL_law g 2580 (J 78)) (h79 : Snd mL_law g 2605 (J 79)) : Snd mL_law g 1075 (bL_law_29 g J) := by
  unfold bL_law_29
  refine s_aload_n (pc := 1075) (i := 1) ?_ dL_law_1075 rfl
  refine s_aload_n (pc := 1076) (i := 0) ?_ dL_law_1076 rfl
  refine s_iload (pc := 1077) (i := 4) ?_ dL_law_1077
  refine s_iconst (pc := 1079) (v := 1) ?_ dL_law_1079 (by decide)
  refine s_iadd (pc := 1080) ?_ dL_law_1080
  refine s_sli (pc := 1081) ?_ dL_law_1081
  refine s_aload_n (pc := 1082) (i := 0) ?_ dL_law_1082 rfl
  refine s_iload (pc := 1083) (i := 4) ?_ dL_law_1083
  refine s_iconst (pc := 1085) (v := 2) ?_ dL_law_1085 (by decide)
  refine s_iadd (pc := 1086) ?_ dL_law_1086
  refine s_sli (pc := 1087) ?_ dL_law_1087
  refine s_aload_n (pc := 1088) (i := 3) ?_ dL_law_1088 rfl
  refine s_csW (pc := 1089) (n := 4) ?_ tL_worth wt_1065 wt_1066 wt_0 wt_1067 ⟨crL_worth, by decide, by decide⟩ dL_law_1089
  refine s_istore (pc := 1092) (i := 5) ?_ dL_law_1092 (by decide)
  refine s_aload_n (pc := 1094) (i := 2) ?_ dL_law_1094 rfl
  refine s_aload_n (pc := 1095) (i := 0) ?_ dL_law_1095 rfl
  refine s_iload (pc := 1096) (i := 4) ?_ dL_law_1096
  refine s_iconst (pc := 1098) (v := 1) ?_ dL_law_1098 (by decide)
  refine s_iadd (pc := 1099) ?_ dL_law_1099
  refine s_sli (pc := 1100) ?_ dL_law_1100
  refine s_aload_n (pc := 1101) (i := 0) ?_ dL_law_1101 rfl
  refine s_iload (pc := 1102) (i := 4) ?_ dL_law_1102
  refine s_iconst (pc := 1104) (v := 2) ?_ dL_law_1104 (by decide)
  refine s_iadd (pc := 1105) ?_ dL_law_1105
  refine s_sli (pc := 1106) ?_ dL_law_1106
  refine s_cv (pc := 1107) (n := 2) (ci := 10) ?_ tX11_worth rfl rfl wt_1744 wt_1745 wt_1746 wt_17 wt_1747 ⟨crX11_worth, by decide, by decide⟩ dL_law_1107
  refine s_istore (pc := 1110) (i := 6) ?_ dL_law_1110 (by decide)
  refine s_aload_n (pc := 1112) (i := 2) ?_ dL_law_1112 rfl
  refine s_cv (pc := 1113) (n := 0) (ci := 10) ?_ tX11_thrown rfl rfl wt_1545 wt_1546 wt_1547 wt_17 wt_1548 ⟨crX11_thrown, by decide, by decide⟩ dL_law_1113
  refine s_iload (pc := 1116) (i := 5) ?_ dL_law_1116
  refine s_iceq (pc := 1118) (tgt := 1123) ?_ ?_ dL_law_1118 (by decide)
  · skip
    refine s_iload (pc := 1123) (i := 5) ?_ dL_law_1123
    refine s_ifne (pc := 1125) (tgt := 1140) ?_ ?_ dL_law_1125 (by decide)
    · skip
      exact s_fall (pc := 1140) h30
    · skip
      refine s_aload_n (pc := 1128) (i := 3) ?_ dL_law_1128 rfl
      refine s_iconst (pc := 1129) (v := 0) ?_ dL_law_1129 (by decide)
      refine s_laload (pc := 1130) ?_ dL_law_1130
      refine s_iload (pc := 1131) (i := 6) ?_ dL_law_1131
      refine s_i2l (pc := 1133) ?_ dL_law_1133
      refine s_lcmp (pc := 1134) ?_ dL_law_1134
      refine s_ifeq (pc := 1135) (tgt := 1140) ?_ ?_ dL_law_1135 (by decide)
      · skip
        exact s_fall (pc := 1140) h30
      · skip
        refine s_iconst (pc := 1138) (v := 0) ?_ dL_law_1138 (by decide)
        exact s_zreturn (pc := 1139) rfl dL_law_1139
  · skip
    refine s_iconst (pc := 1121) (v := 0) ?_ dL_law_1121 (by decide)
    exact s_zreturn (pc := 1122) rfl dL_law_1122
theorem sbL_law_30 (g : GE) (J : Nat → KT) (h1 : Snd mL_law g 23 (J 1)) (h2 : Snd mL_law g 232 (J 2)) (h3 : Snd mL_law g 305 (J 3)) (h4 : Snd mL_law g 358 (J 4)) (h5 : Snd mL_law g 361 (J 5)) (h6 : Snd mL_law g 374 (J 6)) (h7 : Snd mL_law g 427 (J 7)) (h8 : Snd mL_law g 430 (J 8)) (h9 : Snd mL_law g 495 (J 9)) (h10 : Snd mL_law g 498 (J 10)) (h11 : Snd mL_law g 563 (J 11)) (h12 : Snd mL_law g 566 (J 12)) (h13 : Snd mL_law g 579 (J 13)) (h14 : Snd mL_law g 644 (J 14)) (h15 : Snd mL_law g 647 (J 15)) (h16 : Snd mL_law g 700 (J 16)) (h17 : Snd mL_law g 703 (J 17)) (h18 : Snd mL_law g 716 (J 18)) (h19 : Snd mL_law g 793 (J 19)) (h20 : Snd mL_law g 796 (J 20)) (h21 : Snd mL_law g 861 (J 21)) (h22 : Snd mL_law g 864 (J 22)) (h23 : Snd mL_law g 929 (J 23)) (h24 : Snd mL_law g 932 (J 24)) (h25 : Snd mL_law g 998 (J 25)) (h26 : Snd mL_law g 1004 (J 26)) (h27 : Snd mL_law g 1007 (J 27)) (h28 : Snd mL_law g 1072 (J 28)) (h29 : Snd mL_law g 1075 (J 29)) (h30 : Snd mL_law g 1140 (J 30)) (h31 : Snd mL_law g 1143 (J 31)) (h32 : Snd mL_law g 1196 (J 32)) (h33 : Snd mL_law g 1199 (J 33)) (h34 : Snd mL_law g 1212 (J 34)) (h35 : Snd mL_law g 1277 (J 35)) (h36 : Snd mL_law g 1280 (J 36)) (h37 : Snd mL_law g 1345 (J 37)) (h38 : Snd mL_law g 1348 (J 38)) (h39 : Snd mL_law g 1401 (J 39)) (h40 : Snd mL_law g 1404 (J 40)) (h41 : Snd mL_law g 1457 (J 41)) (h42 : Snd mL_law g 1460 (J 42)) (h43 : Snd mL_law g 1537 (J 43)) (h44 : Snd mL_law g 1540 (J 44)) (h45 : Snd mL_law g 1629 (J 45)) (h46 : Snd mL_law g 1632 (J 46)) (h47 : Snd mL_law g 1645 (J 47)) (h48 : Snd mL_law g 1697 (J 48)) (h49 : Snd mL_law g 1700 (J 49)) (h50 : Snd mL_law g 1776 (J 50)) (h51 : Snd mL_law g 1779 (J 51)) (h52 : Snd mL_law g 1792 (J 52)) (h53 : Snd mL_law g 1845 (J 53)) (h54 : Snd mL_law g 1848 (J 54)) (h55 : Snd mL_law g 1913 (J 55)) (h56 : Snd mL_law g 1916 (J 56)) (h57 : Snd mL_law g 1969 (J 57)) (h58 : Snd mL_law g 1972 (J 58)) (h59 : Snd mL_law g 2037 (J 59)) (h60 : Snd mL_law g 2040 (J 60)) (h61 : Snd mL_law g 2093 (J 61)) (h62 : Snd mL_law g 2096 (J 62)) (h63 : Snd mL_law g 2161 (J 63)) (h64 : Snd mL_law g 2164 (J 64)) (h65 : Snd mL_law g 2217 (J 65)) (h66 : Snd mL_law g 2220 (J 66)) (h67 : Snd mL_law g 2309 (J 67)) (h68 : Snd mL_law g 2312 (J 68)) (h69 : Snd mL_law g 2389 (J 69)) (h70 : Snd mL_law g 2392 (J 70)) (h71 : Snd mL_law g 2457 (J 71)) (h72 : Snd mL_law g 2460 (J 72)) (h73 : Snd mL_law g 2513 (J 73)) (h74 : Snd mL_law g 2516 (J 74)) (h75 : Snd mL_law g 2529 (J 75)) (h76 : Snd mL_law g 2542 (J 76)) (h77 : Snd mL_law g 2555 (J 77)) (h78 : Snd mL_law g 2580 (J 78)) (h79 : Snd mL_law g 2605 (J 79)) : Snd mL_law g 1140 (bL_law_30 g J) := by
  unfold bL_law_30
  exact s_goto (pc := 1140) (tgt := 2605) h79 dL_law_1140 (by decide)
theorem sbL_law_31 (g : GE) (J : Nat → KT) (h1 : Snd mL_law g 23 (J 1)) (h2 : Snd mL_law g 232 (J 2)) (h3 : Snd mL_law g 305 (J 3)) (h4 : Snd mL_law g 358 (J 4)) (h5 : Snd mL_law g 361 (J 5)) (h6 : Snd mL_law g 374 (J 6)) (h7 : Snd mL_law g 427 (J 7)) (h8 : Snd mL_law g 430 (J 8)) (h9 : Snd mL_law g 495 (J 9)) (h10 : Snd mL_law g 498 (J 10)) (h11 : Snd mL_law g 563 (J 11)) (h12 : Snd mL_law g 566 (J 12)) (h13 : Snd mL_law g 579 (J 13)) (h14 : Snd mL_law g 644 (J 14)) (h15 : Snd mL_law g 647 (J 15)) (h16 : Snd mL_law g 700 (J 16)) (h17 : Snd mL_law g 703 (J 17)) (h18 : Snd mL_law g 716 (J 18)) (h19 : Snd mL_law g 793 (J 19)) (h20 : Snd mL_law g 796 (J 20)) (h21 : Snd mL_law g 861 (J 21)) (h22 : Snd mL_law g 864 (J 22)) (h23 : Snd mL_law g 929 (J 23)) (h24 : Snd mL_law g 932 (J 24)) (h25 : Snd mL_law g 998 (J 25)) (h26 : Snd mL_law g 1004 (J 26)) (h27 : Snd mL_law g 1007 (J 27)) (h28 : Snd mL_law g 1072 (J 28)) (h29 : Snd mL_law g 1075 (J 29)) (h30 : Snd mL_law g 1140 (J 30)) (h31 : Snd mL_law g 1143 (J 31)) (h32 : Snd mL_law g 1196 (J 32)) (h33 : Snd mL_law g 1199 (J 33)) (h34 : Snd mL_law g 1212 (J 34)) (h35 : Snd mL_law g 1277 (J 35)) (h36 : Snd mL_law g 1280 (J 36)) (h37 : Snd mL_law g 1345 (J 37)) (h38 : Snd mL_law g 1348 (J 38)) (h39 : Snd mL_law g 1401 (J 39)) (h40 : Snd mL_law g 1404 (J 40)) (h41 : Snd mL_law g 1457 (J 41)) (h42 : Snd mL_law g 1460 (J 42)) (h43 : Snd mL_law g 1537 (J 43)) (h44 : Snd mL_law g 1540 (J 44)) (h45 : Snd mL_law g 1629 (J 45)) (h46 : Snd mL_law g 1632 (J 46)) (h47 : Snd mL_law g 1645 (J 47)) (h48 : Snd mL_law g 1697 (J 48)) (h49 : Snd mL_law g 1700 (J 49)) (h50 : Snd mL_law g 1776 (J 50)) (h51 : Snd mL_law g 1779 (J 51)) (h52 : Snd mL_law g 1792 (J 52)) (h53 : Snd mL_law g 1845 (J 53)) (h54 : Snd mL_law g 1848 (J 54)) (h55 : Snd mL_law g 1913 (J 55)) (h56 : Snd mL_law g 1916 (J 56)) (h57 : Snd mL_law g 1969 (J 57)) (h58 : Snd mL_law g 1972 (J 58)) (h59 : Snd mL_law g 2037 (J 59)) (h60 : Snd mL_law g 2040 (J 60)) (h61 : Snd mL_law g 2093 (J 61)) (h62 : Snd mL_law g 2096 (J 62)) (h63 : Snd mL_law g 2161 (J 63)) (h64 : Snd mL_law g 2164 (J 64)) (h65 : Snd mL_law g 2217 (J 65)) (h66 : Snd mL_law g 2220 (J 66)) (h67 : Snd mL_law g 2309 (J 67)) (h68 : Snd mL_law g 2312 (J 68)) (h69 : Snd mL_law g 2389 (J 69)) (h70 : Snd mL_law g 2392 (J 70)) (h71 : Snd mL_law g 2457 (J 71)) (h72 : Snd mL_law g 2460 (J 72)) (h73 : Snd mL_law g 2513 (J 73)) (h74 : Snd mL_law g 2516 (J 74)) (h75 : Snd mL_law g 2529 (J 75)) (h76 : Snd mL_law g 2542 (J 76)) (h77 : Snd mL_law g 2555 (J 77)) (h78 : Snd mL_law g 2580 (J 78)) (h79 : Snd mL_law g 2605 (J 79)) : Snd mL_law g 1143 (bL_law_31 g J) := by
  unfold bL_law_31
  refine s_aload_n (pc := 1143) (i := 1) ?_ dL_law_1143 rfl
  refine s_aload_n (pc := 1144) (i := 0) ?_ dL_law_1144 rfl
  refine s_iload (pc := 1145) (i := 4) ?_ dL_law_1145
  refine s_iconst (pc := 1147) (v := 1) ?_ dL_law_1147 (by decide)
  refine s_iadd (pc := 1148) ?_ dL_law_1148
  refine s_sli (pc := 1149) ?_ dL_law_1149
  refine s_aload_n (pc := 1150) (i := 3) ?_ dL_law_1150 rfl
  refine s_csW (pc := 1151) (n := 3) ?_ tL_cleaned wt_1081 wt_1082 wt_0 wt_1083 ⟨crL_cleaned, by decide, by decide⟩ dL_law_1151
  refine s_istore (pc := 1154) (i := 5) ?_ dL_law_1154 (by decide)
  refine s_aload_n (pc := 1156) (i := 2) ?_ dL_law_1156 rfl
  refine s_aload_n (pc := 1157) (i := 0) ?_ dL_law_1157 rfl
  refine s_iload (pc := 1158) (i := 4) ?_ dL_law_1158
  refine s_iconst (pc := 1160) (v := 1) ?_ dL_law_1160 (by decide)
  refine s_iadd (pc := 1161) ?_ dL_law_1161
  refine s_sli (pc := 1162) ?_ dL_law_1162
  refine s_cv (pc := 1163) (n := 1) (ci := 10) ?_ tX11_cleaned rfl rfl wt_1752 wt_1753 wt_1754 wt_17 wt_1755 ⟨crX11_cleaned, by decide, by decide⟩ dL_law_1163
  refine s_istore (pc := 1166) (i := 6) ?_ dL_law_1166 (by decide)
  refine s_aload_n (pc := 1168) (i := 2) ?_ dL_law_1168 rfl
  refine s_cv (pc := 1169) (n := 0) (ci := 10) ?_ tX11_thrown rfl rfl wt_1545 wt_1546 wt_1547 wt_17 wt_1548 ⟨crX11_thrown, by decide, by decide⟩ dL_law_1169
  refine s_iload (pc := 1172) (i := 5) ?_ dL_law_1172
  refine s_iceq (pc := 1174) (tgt := 1179) ?_ ?_ dL_law_1174 (by decide)
  · skip
    refine s_iload (pc := 1179) (i := 5) ?_ dL_law_1179
    refine s_ifne (pc := 1181) (tgt := 1196) ?_ ?_ dL_law_1181 (by decide)
    · skip
      exact s_fall (pc := 1196) h32
    · skip
      refine s_aload_n (pc := 1184) (i := 3) ?_ dL_law_1184 rfl
      refine s_iconst (pc := 1185) (v := 0) ?_ dL_law_1185 (by decide)
      refine s_laload (pc := 1186) ?_ dL_law_1186
      refine s_iload (pc := 1187) (i := 6) ?_ dL_law_1187
      refine s_i2l (pc := 1189) ?_ dL_law_1189
      refine s_lcmp (pc := 1190) ?_ dL_law_1190
      refine s_ifeq (pc := 1191) (tgt := 1196) ?_ ?_ dL_law_1191 (by decide)
      · skip
        exact s_fall (pc := 1196) h32
      · skip
        refine s_iconst (pc := 1194) (v := 0) ?_ dL_law_1194 (by decide)
        exact s_zreturn (pc := 1195) rfl dL_law_1195
  · skip
    refine s_iconst (pc := 1177) (v := 0) ?_ dL_law_1177 (by decide)
    exact s_zreturn (pc := 1178) rfl dL_law_1178
theorem sbL_law_32 (g : GE) (J : Nat → KT) (h1 : Snd mL_law g 23 (J 1)) (h2 : Snd mL_law g 232 (J 2)) (h3 : Snd mL_law g 305 (J 3)) (h4 : Snd mL_law g 358 (J 4)) (h5 : Snd mL_law g 361 (J 5)) (h6 : Snd mL_law g 374 (J 6)) (h7 : Snd mL_law g 427 (J 7)) (h8 : Snd mL_law g 430 (J 8)) (h9 : Snd mL_law g 495 (J 9)) (h10 : Snd mL_law g 498 (J 10)) (h11 : Snd mL_law g 563 (J 11)) (h12 : Snd mL_law g 566 (J 12)) (h13 : Snd mL_law g 579 (J 13)) (h14 : Snd mL_law g 644 (J 14)) (h15 : Snd mL_law g 647 (J 15)) (h16 : Snd mL_law g 700 (J 16)) (h17 : Snd mL_law g 703 (J 17)) (h18 : Snd mL_law g 716 (J 18)) (h19 : Snd mL_law g 793 (J 19)) (h20 : Snd mL_law g 796 (J 20)) (h21 : Snd mL_law g 861 (J 21)) (h22 : Snd mL_law g 864 (J 22)) (h23 : Snd mL_law g 929 (J 23)) (h24 : Snd mL_law g 932 (J 24)) (h25 : Snd mL_law g 998 (J 25)) (h26 : Snd mL_law g 1004 (J 26)) (h27 : Snd mL_law g 1007 (J 27)) (h28 : Snd mL_law g 1072 (J 28)) (h29 : Snd mL_law g 1075 (J 29)) (h30 : Snd mL_law g 1140 (J 30)) (h31 : Snd mL_law g 1143 (J 31)) (h32 : Snd mL_law g 1196 (J 32)) (h33 : Snd mL_law g 1199 (J 33)) (h34 : Snd mL_law g 1212 (J 34)) (h35 : Snd mL_law g 1277 (J 35)) (h36 : Snd mL_law g 1280 (J 36)) (h37 : Snd mL_law g 1345 (J 37)) (h38 : Snd mL_law g 1348 (J 38)) (h39 : Snd mL_law g 1401 (J 39)) (h40 : Snd mL_law g 1404 (J 40)) (h41 : Snd mL_law g 1457 (J 41)) (h42 : Snd mL_law g 1460 (J 42)) (h43 : Snd mL_law g 1537 (J 43)) (h44 : Snd mL_law g 1540 (J 44)) (h45 : Snd mL_law g 1629 (J 45)) (h46 : Snd mL_law g 1632 (J 46)) (h47 : Snd mL_law g 1645 (J 47)) (h48 : Snd mL_law g 1697 (J 48)) (h49 : Snd mL_law g 1700 (J 49)) (h50 : Snd mL_law g 1776 (J 50)) (h51 : Snd mL_law g 1779 (J 51)) (h52 : Snd mL_law g 1792 (J 52)) (h53 : Snd mL_law g 1845 (J 53)) (h54 : Snd mL_law g 1848 (J 54)) (h55 : Snd mL_law g 1913 (J 55)) (h56 : Snd mL_law g 1916 (J 56)) (h57 : Snd mL_law g 1969 (J 57)) (h58 : Snd mL_law g 1972 (J 58)) (h59 : Snd mL_law g 2037 (J 59)) (h60 : Snd mL_law g 2040 (J 60)) (h61 : Snd mL_law g 2093 (J 61)) (h62 : Snd mL_law g 2096 (J 62)) (h63 : Snd mL_law g 2161 (J 63)) (h64 : Snd mL_law g 2164 (J 64)) (h65 : Snd mL_law g 2217 (J 65)) (h66 : Snd mL_law g 2220 (J 66)) (h67 : Snd mL_law g 2309 (J 67)) (h68 : Snd mL_law g 2312 (J 68)) (h69 : Snd mL_law g 2389 (J 69)) (h70 : Snd mL_law g 2392 (J 70)) (h71 : Snd mL_law g 2457 (J 71)) (h72 : Snd mL_law g 2460 (J 72)) (h73 : Snd mL_law g 2513 (J 73)) (h74 : Snd mL_law g 2516 (J 74)) (h75 : Snd mL_law g 2529 (J 75)) (h76 : Snd mL_law g 2542 (J 76)) (h77 : Snd mL_law g 2555 (J 77)) (h78 : Snd mL_law g 2580 (J 78)) (h79 : Snd mL_law g 2605 (J 79)) : Snd mL_law g 1196 (bL_law_32 g J) := by
  unfold bL_law_32
  exact s_goto (pc := 1196) (tgt := 2605) h79 dL_law_1196 (by decide)
theorem sbL_law_33 (g : GE) (J : Nat → KT) (h1 : Snd mL_law g 23 (J 1)) (h2 : Snd mL_law g 232 (J 2)) (h3 : Snd mL_law g 305 (J 3)) (h4 : Snd mL_law g 358 (J 4)) (h5 : Snd mL_law g 361 (J 5)) (h6 : Snd mL_law g 374 (J 6)) (h7 : Snd mL_law g 427 (J 7)) (h8 : Snd mL_law g 430 (J 8)) (h9 : Snd mL_law g 495 (J 9)) (h10 : Snd mL_law g 498 (J 10)) (h11 : Snd mL_law g 563 (J 11)) (h12 : Snd mL_law g 566 (J 12)) (h13 : Snd mL_law g 579 (J 13)) (h14 : Snd mL_law g 644 (J 14)) (h15 : Snd mL_law g 647 (J 15)) (h16 : Snd mL_law g 700 (J 16)) (h17 : Snd mL_law g 703 (J 17)) (h18 : Snd mL_law g 716 (J 18)) (h19 : Snd mL_law g 793 (J 19)) (h20 : Snd mL_law g 796 (J 20)) (h21 : Snd mL_law g 861 (J 21)) (h22 : Snd mL_law g 864 (J 22)) (h23 : Snd mL_law g 929 (J 23)) (h24 : Snd mL_law g 932 (J 24)) (h25 : Snd mL_law g 998 (J 25)) (h26 : Snd mL_law g 1004 (J 26)) (h27 : Snd mL_law g 1007 (J 27)) (h28 : Snd mL_law g 1072 (J 28)) (h29 : Snd mL_law g 1075 (J 29)) (h30 : Snd mL_law g 1140 (J 30)) (h31 : Snd mL_law g 1143 (J 31)) (h32 : Snd mL_law g 1196 (J 32)) (h33 : Snd mL_law g 1199 (J 33)) (h34 : Snd mL_law g 1212 (J 34)) (h35 : Snd mL_law g 1277 (J 35)) (h36 : Snd mL_law g 1280 (J 36)) (h37 : Snd mL_law g 1345 (J 37)) (h38 : Snd mL_law g 1348 (J 38)) (h39 : Snd mL_law g 1401 (J 39)) (h40 : Snd mL_law g 1404 (J 40)) (h41 : Snd mL_law g 1457 (J 41)) (h42 : Snd mL_law g 1460 (J 42)) (h43 : Snd mL_law g 1537 (J 43)) (h44 : Snd mL_law g 1540 (J 44)) (h45 : Snd mL_law g 1629 (J 45)) (h46 : Snd mL_law g 1632 (J 46)) (h47 : Snd mL_law g 1645 (J 47)) (h48 : Snd mL_law g 1697 (J 48)) (h49 : Snd mL_law g 1700 (J 49)) (h50 : Snd mL_law g 1776 (J 50)) (h51 : Snd mL_law g 1779 (J 51)) (h52 : Snd mL_law g 1792 (J 52)) (h53 : Snd mL_law g 1845 (J 53)) (h54 : Snd mL_law g 1848 (J 54)) (h55 : Snd mL_law g 1913 (J 55)) (h56 : Snd mL_law g 1916 (J 56)) (h57 : Snd mL_law g 1969 (J 57)) (h58 : Snd mL_law g 1972 (J 58)) (h59 : Snd mL_law g 2037 (J 59)) (h60 : Snd mL_law g 2040 (J 60)) (h61 : Snd mL_law g 2093 (J 61)) (h62 : Snd mL_law g 2096 (J 62)) (h63 : Snd mL_law g 2161 (J 63)) (h64 : Snd mL_law g 2164 (J 64)) (h65 : Snd mL_law g 2217 (J 65)) (h66 : Snd mL_law g 2220 (J 66)) (h67 : Snd mL_law g 2309 (J 67)) (h68 : Snd mL_law g 2312 (J 68)) (h69 : Snd mL_law g 2389 (J 69)) (h70 : Snd mL_law g 2392 (J 70)) (h71 : Snd mL_law g 2457 (J 71)) (h72 : Snd mL_law g 2460 (J 72)) (h73 : Snd mL_law g 2513 (J 73)) (h74 : Snd mL_law g 2516 (J 74)) (h75 : Snd mL_law g 2529 (J 75)) (h76 : Snd mL_law g 2542 (J 76)) (h77 : Snd mL_law g 2555 (J 77)) (h78 : Snd mL_law g 2580 (J 78)) (h79 : Snd mL_law g 2605 (J 79)) : Snd mL_law g 1199 (bL_law_33 g J) := by
  unfold bL_law_33
  refine s_aload_n (pc := 1199) (i := 1) ?_ dL_law_1199 rfl
  refine s_cv (pc := 1200) (n := 0) (ci := 9) ?_ tX10_settles rfl rfl wt_518 wt_519 wt_520 wt_1 wt_521 ⟨crX10_settles, by decide, by decide⟩ dL_law_1200
  refine s_aload_n (pc := 1203) (i := 2) ?_ dL_law_1203 rfl
  refine s_cv (pc := 1204) (n := 0) (ci := 10) ?_ tX11_settles rfl rfl wt_1760 wt_1761 wt_1762 wt_17 wt_1763 ⟨crX11_settles, by decide, by decide⟩ dL_law_1204
  refine s_iceq (pc := 1207) (tgt := 2605) ?_ ?_ dL_law_1207 (by decide)
  · skip
    exact s_fall (pc := 2605) h79
  · skip
    refine s_iconst (pc := 1210) (v := 0) ?_ dL_law_1210 (by decide)
    exact s_zreturn (pc := 1211) rfl dL_law_1211
theorem sbL_law_34 (g : GE) (J : Nat → KT) (h1 : Snd mL_law g 23 (J 1)) (h2 : Snd mL_law g 232 (J 2)) (h3 : Snd mL_law g 305 (J 3)) (h4 : Snd mL_law g 358 (J 4)) (h5 : Snd mL_law g 361 (J 5)) (h6 : Snd mL_law g 374 (J 6)) (h7 : Snd mL_law g 427 (J 7)) (h8 : Snd mL_law g 430 (J 8)) (h9 : Snd mL_law g 495 (J 9)) (h10 : Snd mL_law g 498 (J 10)) (h11 : Snd mL_law g 563 (J 11)) (h12 : Snd mL_law g 566 (J 12)) (h13 : Snd mL_law g 579 (J 13)) (h14 : Snd mL_law g 644 (J 14)) (h15 : Snd mL_law g 647 (J 15)) (h16 : Snd mL_law g 700 (J 16)) (h17 : Snd mL_law g 703 (J 17)) (h18 : Snd mL_law g 716 (J 18)) (h19 : Snd mL_law g 793 (J 19)) (h20 : Snd mL_law g 796 (J 20)) (h21 : Snd mL_law g 861 (J 21)) (h22 : Snd mL_law g 864 (J 22)) (h23 : Snd mL_law g 929 (J 23)) (h24 : Snd mL_law g 932 (J 24)) (h25 : Snd mL_law g 998 (J 25)) (h26 : Snd mL_law g 1004 (J 26)) (h27 : Snd mL_law g 1007 (J 27)) (h28 : Snd mL_law g 1072 (J 28)) (h29 : Snd mL_law g 1075 (J 29)) (h30 : Snd mL_law g 1140 (J 30)) (h31 : Snd mL_law g 1143 (J 31)) (h32 : Snd mL_law g 1196 (J 32)) (h33 : Snd mL_law g 1199 (J 33)) (h34 : Snd mL_law g 1212 (J 34)) (h35 : Snd mL_law g 1277 (J 35)) (h36 : Snd mL_law g 1280 (J 36)) (h37 : Snd mL_law g 1345 (J 37)) (h38 : Snd mL_law g 1348 (J 38)) (h39 : Snd mL_law g 1401 (J 39)) (h40 : Snd mL_law g 1404 (J 40)) (h41 : Snd mL_law g 1457 (J 41)) (h42 : Snd mL_law g 1460 (J 42)) (h43 : Snd mL_law g 1537 (J 43)) (h44 : Snd mL_law g 1540 (J 44)) (h45 : Snd mL_law g 1629 (J 45)) (h46 : Snd mL_law g 1632 (J 46)) (h47 : Snd mL_law g 1645 (J 47)) (h48 : Snd mL_law g 1697 (J 48)) (h49 : Snd mL_law g 1700 (J 49)) (h50 : Snd mL_law g 1776 (J 50)) (h51 : Snd mL_law g 1779 (J 51)) (h52 : Snd mL_law g 1792 (J 52)) (h53 : Snd mL_law g 1845 (J 53)) (h54 : Snd mL_law g 1848 (J 54)) (h55 : Snd mL_law g 1913 (J 55)) (h56 : Snd mL_law g 1916 (J 56)) (h57 : Snd mL_law g 1969 (J 57)) (h58 : Snd mL_law g 1972 (J 58)) (h59 : Snd mL_law g 2037 (J 59)) (h60 : Snd mL_law g 2040 (J 60)) (h61 : Snd mL_law g 2093 (J 61)) (h62 : Snd mL_law g 2096 (J 62)) (h63 : Snd mL_law g 2161 (J 63)) (h64 : Snd mL_law g 2164 (J 64)) (h65 : Snd mL_law g 2217 (J 65)) (h66 : Snd mL_law g 2220 (J 66)) (h67 : Snd mL_law g 2309 (J 67)) (h68 : Snd mL_law g 2312 (J 68)) (h69 : Snd mL_law g 2389 (J 69)) (h70 : Snd mL_law g 2392 (J 70)) (h71 : Snd mL_law g 2457 (J 71)) (h72 : Snd mL_law g 2460 (J 72)) (h73 : Snd mL_law g 2513 (J 73)) (h74 : Snd mL_law g 2516 (J 74)) (h75 : Snd mL_law g 2529 (J 75)) (h76 : Snd mL_law g 2542 (J 76)) (h77 : Snd mL_law g 2555 (J 77)) (h78 : Snd mL_law g 2580 (J 78)) (h79 : Snd mL_law g 2605 (J 79)) : Snd mL_law g 1212 (bL_law_34 g J) := by
  unfold bL_law_34
  refine s_aload_n (pc := 1212) (i := 1) ?_ dL_law_1212 rfl
  refine s_aload_n (pc := 1213) (i := 0) ?_ dL_law_1213 rfl
  refine s_iload (pc := 1214) (i := 4) ?_ dL_law_1214
  refine s_iconst (pc := 1216) (v := 1) ?_ dL_law_1216 (by decide)
  refine s_iadd (pc := 1217) ?_ dL_law_1217
  refine s_sli (pc := 1218) ?_ dL_law_1218
  refine s_aload_n (pc := 1219) (i := 0) ?_ dL_law_1219 rfl
  refine s_iload (pc := 1220) (i := 4) ?_ dL_law_1220
  refine s_iconst (pc := 1222) (v := 2) ?_ dL_law_1222 (by decide)
  refine s_iadd (pc := 1223) ?_ dL_law_1223
  refine s_sli (pc := 1224) ?_ dL_law_1224
  refine s_aload_n (pc := 1225) (i := 3) ?_ dL_law_1225 rfl
  refine s_csW (pc := 1226) (n := 4) ?_ tL_fewest wt_1089 wt_1090 wt_0 wt_1091 ⟨crL_fewest, by decide, by decide⟩ dL_law_1226
  refine s_istore (pc := 1229) (i := 5) ?_ dL_law_1229 (by decide)
  refine s_aload_n (pc := 1231) (i := 2) ?_ dL_law_1231 rfl
  refine s_aload_n (pc := 1232) (i := 0) ?_ dL_law_1232 rfl
  refine s_iload (pc := 1233) (i := 4) ?_ dL_law_1233
  refine s_iconst (pc := 1235) (v := 1) ?_ dL_law_1235 (by decide)
  refine s_iadd (pc := 1236) ?_ dL_law_1236
  refine s_sli (pc := 1237) ?_ dL_law_1237
  refine s_aload_n (pc := 1238) (i := 0) ?_ dL_law_1238 rfl
  refine s_iload (pc := 1239) (i := 4) ?_ dL_law_1239
  refine s_iconst (pc := 1241) (v := 2) ?_ dL_law_1241 (by decide)
  refine s_iadd (pc := 1242) ?_ dL_law_1242
  refine s_sli (pc := 1243) ?_ dL_law_1243
  refine s_cv (pc := 1244) (n := 2) (ci := 10) ?_ tX11_fewest rfl rfl wt_1764 wt_1765 wt_1766 wt_17 wt_1767 ⟨crX11_fewest, by decide, by decide⟩ dL_law_1244
  refine s_istore (pc := 1247) (i := 6) ?_ dL_law_1247 (by decide)
  refine s_aload_n (pc := 1249) (i := 2) ?_ dL_law_1249 rfl
  refine s_cv (pc := 1250) (n := 0) (ci := 10) ?_ tX11_thrown rfl rfl wt_1545 wt_1546 wt_1547 wt_17 wt_1548 ⟨crX11_thrown, by decide, by decide⟩ dL_law_1250
  refine s_iload (pc := 1253) (i := 5) ?_ dL_law_1253
  refine s_iceq (pc := 1255) (tgt := 1260) ?_ ?_ dL_law_1255 (by decide)
  · skip
    refine s_iload (pc := 1260) (i := 5) ?_ dL_law_1260
    refine s_ifne (pc := 1262) (tgt := 1277) ?_ ?_ dL_law_1262 (by decide)
    · skip
      exact s_fall (pc := 1277) h35
    · skip
      refine s_aload_n (pc := 1265) (i := 3) ?_ dL_law_1265 rfl
      refine s_iconst (pc := 1266) (v := 0) ?_ dL_law_1266 (by decide)
      refine s_laload (pc := 1267) ?_ dL_law_1267
      refine s_iload (pc := 1268) (i := 6) ?_ dL_law_1268
      refine s_i2l (pc := 1270) ?_ dL_law_1270
      refine s_lcmp (pc := 1271) ?_ dL_law_1271
      refine s_ifeq (pc := 1272) (tgt := 1277) ?_ ?_ dL_law_1272 (by decide)
      · skip
        exact s_fall (pc := 1277) h35
      · skip
        refine s_iconst (pc := 1275) (v := 0) ?_ dL_law_1275 (by decide)
        exact s_zreturn (pc := 1276) rfl dL_law_1276
  · skip
    refine s_iconst (pc := 1258) (v := 0) ?_ dL_law_1258 (by decide)
    exact s_zreturn (pc := 1259) rfl dL_law_1259
theorem sbL_law_35 (g : GE) (J : Nat → KT) (h1 : Snd mL_law g 23 (J 1)) (h2 : Snd mL_law g 232 (J 2)) (h3 : Snd mL_law g 305 (J 3)) (h4 : Snd mL_law g 358 (J 4)) (h5 : Snd mL_law g 361 (J 5)) (h6 : Snd mL_law g 374 (J 6)) (h7 : Snd mL_law g 427 (J 7)) (h8 : Snd mL_law g 430 (J 8)) (h9 : Snd mL_law g 495 (J 9)) (h10 : Snd mL_law g 498 (J 10)) (h11 : Snd mL_law g 563 (J 11)) (h12 : Snd mL_law g 566 (J 12)) (h13 : Snd mL_law g 579 (J 13)) (h14 : Snd mL_law g 644 (J 14)) (h15 : Snd mL_law g 647 (J 15)) (h16 : Snd mL_law g 700 (J 16)) (h17 : Snd mL_law g 703 (J 17)) (h18 : Snd mL_law g 716 (J 18)) (h19 : Snd mL_law g 793 (J 19)) (h20 : Snd mL_law g 796 (J 20)) (h21 : Snd mL_law g 861 (J 21)) (h22 : Snd mL_law g 864 (J 22)) (h23 : Snd mL_law g 929 (J 23)) (h24 : Snd mL_law g 932 (J 24)) (h25 : Snd mL_law g 998 (J 25)) (h26 : Snd mL_law g 1004 (J 26)) (h27 : Snd mL_law g 1007 (J 27)) (h28 : Snd mL_law g 1072 (J 28)) (h29 : Snd mL_law g 1075 (J 29)) (h30 : Snd mL_law g 1140 (J 30)) (h31 : Snd mL_law g 1143 (J 31)) (h32 : Snd mL_law g 1196 (J 32)) (h33 : Snd mL_law g 1199 (J 33)) (h34 : Snd mL_law g 1212 (J 34)) (h35 : Snd mL_law g 1277 (J 35)) (h36 : Snd mL_law g 1280 (J 36)) (h37 : Snd mL_law g 1345 (J 37)) (h38 : Snd mL_law g 1348 (J 38)) (h39 : Snd mL_law g 1401 (J 39)) (h40 : Snd mL_law g 1404 (J 40)) (h41 : Snd mL_law g 1457 (J 41)) (h42 : Snd mL_law g 1460 (J 42)) (h43 : Snd mL_law g 1537 (J 43)) (h44 : Snd mL_law g 1540 (J 44)) (h45 : Snd mL_law g 1629 (J 45)) (h46 : Snd mL_law g 1632 (J 46)) (h47 : Snd mL_law g 1645 (J 47)) (h48 : Snd mL_law g 1697 (J 48)) (h49 : Snd mL_law g 1700 (J 49)) (h50 : Snd mL_law g 1776 (J 50)) (h51 : Snd mL_law g 1779 (J 51)) (h52 : Snd mL_law g 1792 (J 52)) (h53 : Snd mL_law g 1845 (J 53)) (h54 : Snd mL_law g 1848 (J 54)) (h55 : Snd mL_law g 1913 (J 55)) (h56 : Snd mL_law g 1916 (J 56)) (h57 : Snd mL_law g 1969 (J 57)) (h58 : Snd mL_law g 1972 (J 58)) (h59 : Snd mL_law g 2037 (J 59)) (h60 : Snd mL_law g 2040 (J 60)) (h61 : Snd mL_law g 2093 (J 61)) (h62 : Snd mL_law g 2096 (J 62)) (h63 : Snd mL_law g 2161 (J 63)) (h64 : Snd mL_law g 2164 (J 64)) (h65 : Snd mL_law g 2217 (J 65)) (h66 : Snd mL_law g 2220 (J 66)) (h67 : Snd mL_law g 2309 (J 67)) (h68 : Snd mL_law g 2312 (J 68)) (h69 : Snd mL_law g 2389 (J 69)) (h70 : Snd mL_law g 2392 (J 70)) (h71 : Snd mL_law g 2457 (J 71)) (h72 : Snd mL_law g 2460 (J 72)) (h73 : Snd mL_law g 2513 (J 73)) (h74 : Snd mL_law g 2516 (J 74)) (h75 : Snd mL_law g 2529 (J 75)) (h76 : Snd mL_law g 2542 (J 76)) (h77 : Snd mL_law g 2555 (J 77)) (h78 : Snd mL_law g 2580 (J 78)) (h79 : Snd mL_law g 2605 (J 79)) : Snd mL_law g 1277 (bL_law_35 g J) := by
  unfold bL_law_35
  exact s_goto (pc := 1277) (tgt := 2605) h79 dL_law_1277 (by decide)
theorem sbL_law_36 (g : GE) (J : Nat → KT) (h1 : Snd mL_law g 23 (J 1)) (h2 : Snd mL_law g 232 (J 2)) (h3 : Snd mL_law g 305 (J 3)) (h4 : Snd mL_law g 358 (J 4)) (h5 : Snd mL_law g 361 (J 5)) (h6 : Snd mL_law g 374 (J 6)) (h7 : Snd mL_law g 427 (J 7)) (h8 : Snd mL_law g 430 (J 8)) (h9 : Snd mL_law g 495 (J 9)) (h10 : Snd mL_law g 498 (J 10)) (h11 : Snd mL_law g 563 (J 11)) (h12 : Snd mL_law g 566 (J 12)) (h13 : Snd mL_law g 579 (J 13)) (h14 : Snd mL_law g 644 (J 14)) (h15 : Snd mL_law g 647 (J 15)) (h16 : Snd mL_law g 700 (J 16)) (h17 : Snd mL_law g 703 (J 17)) (h18 : Snd mL_law g 716 (J 18)) (h19 : Snd mL_law g 793 (J 19)) (h20 : Snd mL_law g 796 (J 20)) (h21 : Snd mL_law g 861 (J 21)) (h22 : Snd mL_law g 864 (J 22)) (h23 : Snd mL_law g 929 (J 23)) (h24 : Snd mL_law g 932 (J 24)) (h25 : Snd mL_law g 998 (J 25)) (h26 : Snd mL_law g 1004 (J 26)) (h27 : Snd mL_law g 1007 (J 27)) (h28 : Snd mL_law g 1072 (J 28)) (h29 : Snd mL_law g 1075 (J 29)) (h30 : Snd mL_law g 1140 (J 30)) (h31 : Snd mL_law g 1143 (J 31)) (h32 : Snd mL_law g 1196 (J 32)) (h33 : Snd mL_law g 1199 (J 33)) (h34 : Snd mL_law g 1212 (J 34)) (h35 : Snd mL_law g 1277 (J 35)) (h36 : Snd mL_law g 1280 (J 36)) (h37 : Snd mL_law g 1345 (J 37)) (h38 : Snd mL_law g 1348 (J 38)) (h39 : Snd mL_law g 1401 (J 39)) (h40 : Snd mL_law g 1404 (J 40)) (h41 : Snd mL_law g 1457 (J 41)) (h42 : Snd mL_law g 1460 (J 42)) (h43 : Snd mL_law g 1537 (J 43)) (h44 : Snd mL_law g 1540 (J 44)) (h45 : Snd mL_law g 1629 (J 45)) (h46 : Snd mL_law g 1632 (J 46)) (h47 : Snd mL_law g 1645 (J 47)) (h48 : Snd mL_law g 1697 (J 48)) (h49 : Snd mL_law g 1700 (J 49)) (h50 : Snd mL_law g 1776 (J 50)) (h51 : Snd mL_law g 1779 (J 51)) (h52 : Snd mL_law g 1792 (J 52)) (h53 : Snd mL_law g 1845 (J 53)) (h54 : Snd mL_law g 1848 (J 54)) (h55 : Snd mL_law g 1913 (J 55)) (h56 : Snd mL_law g 1916 (J 56)) (h57 : Snd mL_law g 1969 (J 57)) (h58 : Snd mL_law g 1972 (J 58)) (h59 : Snd mL_law g 2037 (J 59)) (h60 : Snd mL_law g 2040 (J 60)) (h61 : Snd mL_law g 2093 (J 61)) (h62 : Snd mL_law g 2096 (J 62)) (h63 : Snd mL_law g 2161 (J 63)) (h64 : Snd mL_law g 2164 (J 64)) (h65 : Snd mL_law g 2217 (J 65)) (h66 : Snd mL_law g 2220 (J 66)) (h67 : Snd mL_law g 2309 (J 67)) (h68 : Snd mL_law g 2312 (J 68)) (h69 : Snd mL_law g 2389 (J 69)) (h70 : Snd mL_law g 2392 (J 70)) (h71 : Snd mL_law g 2457 (J 71)) (h72 : Snd mL_law g 2460 (J 72)) (h73 : Snd mL_law g 2513 (J 73)) (h74 : Snd mL_law g 2516 (J 74)) (h75 : Snd mL_law g 2529 (J 75)) (h76 : Snd mL_law g 2542 (J 76)) (h77 : Snd mL_law g 2555 (J 77)) (h78 : Snd mL_law g 2580 (J 78)) (h79 : Snd mL_law g 2605 (J 79)) : Snd mL_law g 1280 (bL_law_36 g J) := by
  unfold bL_law_36
  refine s_aload_n (pc := 1280) (i := 1) ?_ dL_law_1280 rfl
  refine s_aload_n (pc := 1281) (i := 0) ?_ dL_law_1281 rfl
  refine s_iload (pc := 1282) (i := 4) ?_ dL_law_1282
  refine s_iconst (pc := 1284) (v := 1) ?_ dL_law_1284 (by decide)
  refine s_iadd (pc := 1285) ?_ dL_law_1285
  refine s_sli (pc := 1286) ?_ dL_law_1286
  refine s_aload_n (pc := 1287) (i := 0) ?_ dL_law_1287 rfl
  refine s_iload (pc := 1288) (i := 4) ?_ dL_law_1288
  refine s_iconst (pc := 1290) (v := 2) ?_ dL_law_1290 (by decide)
  refine s_iadd (pc := 1291) ?_ dL_law_1291
  refine s_sli (pc := 1292) ?_ dL_law_1292
  refine s_aload_n (pc := 1293) (i := 3) ?_ dL_law_1293 rfl
  refine s_csW (pc := 1294) (n := 4) ?_ tL_sway wt_1117 wt_1118 wt_0 wt_1119 ⟨crL_sway, by decide, by decide⟩ dL_law_1294
  refine s_istore (pc := 1297) (i := 5) ?_ dL_law_1297 (by decide)
  refine s_aload_n (pc := 1299) (i := 2) ?_ dL_law_1299 rfl
  refine s_aload_n (pc := 1300) (i := 0) ?_ dL_law_1300 rfl
  refine s_iload (pc := 1301) (i := 4) ?_ dL_law_1301
  refine s_iconst (pc := 1303) (v := 1) ?_ dL_law_1303 (by decide)
  refine s_iadd (pc := 1304) ?_ dL_law_1304
  refine s_sli (pc := 1305) ?_ dL_law_1305
  refine s_aload_n (pc := 1306) (i := 0) ?_ dL_law_1306 rfl
  refine s_iload (pc := 1307) (i := 4) ?_ dL_law_1307
  refine s_iconst (pc := 1309) (v := 2) ?_ dL_law_1309 (by decide)
  refine s_iadd (pc := 1310) ?_ dL_law_1310
  refine s_sli (pc := 1311) ?_ dL_law_1311
  refine s_cv (pc := 1312) (n := 2) (ci := 10) ?_ tX11_sway rfl rfl wt_1775 wt_1776 wt_1777 wt_17 wt_1778 ⟨crX11_sway, by decide, by decide⟩ dL_law_1312
  refine s_istore (pc := 1315) (i := 6) ?_ dL_law_1315 (by decide)
  refine s_aload_n (pc := 1317) (i := 2) ?_ dL_law_1317 rfl
  refine s_cv (pc := 1318) (n := 0) (ci := 10) ?_ tX11_thrown rfl rfl wt_1545 wt_1546 wt_1547 wt_17 wt_1548 ⟨crX11_thrown, by decide, by decide⟩ dL_law_1318
  refine s_iload (pc := 1321) (i := 5) ?_ dL_law_1321
  refine s_iceq (pc := 1323) (tgt := 1328) ?_ ?_ dL_law_1323 (by decide)
  · skip
    refine s_iload (pc := 1328) (i := 5) ?_ dL_law_1328
    refine s_ifne (pc := 1330) (tgt := 1345) ?_ ?_ dL_law_1330 (by decide)
    · skip
      exact s_fall (pc := 1345) h37
    · skip
      refine s_aload_n (pc := 1333) (i := 3) ?_ dL_law_1333 rfl
      refine s_iconst (pc := 1334) (v := 0) ?_ dL_law_1334 (by decide)
      refine s_laload (pc := 1335) ?_ dL_law_1335
      refine s_iload (pc := 1336) (i := 6) ?_ dL_law_1336
      refine s_i2l (pc := 1338) ?_ dL_law_1338
      refine s_lcmp (pc := 1339) ?_ dL_law_1339
      refine s_ifeq (pc := 1340) (tgt := 1345) ?_ ?_ dL_law_1340 (by decide)
      · skip
        exact s_fall (pc := 1345) h37
      · skip
        refine s_iconst (pc := 1343) (v := 0) ?_ dL_law_1343 (by decide)
        exact s_zreturn (pc := 1344) rfl dL_law_1344
  · skip
    refine s_iconst (pc := 1326) (v := 0) ?_ dL_law_1326 (by decide)
    exact s_zreturn (pc := 1327) rfl dL_law_1327
theorem sbL_law_37 (g : GE) (J : Nat → KT) (h1 : Snd mL_law g 23 (J 1)) (h2 : Snd mL_law g 232 (J 2)) (h3 : Snd mL_law g 305 (J 3)) (h4 : Snd mL_law g 358 (J 4)) (h5 : Snd mL_law g 361 (J 5)) (h6 : Snd mL_law g 374 (J 6)) (h7 : Snd mL_law g 427 (J 7)) (h8 : Snd mL_law g 430 (J 8)) (h9 : Snd mL_law g 495 (J 9)) (h10 : Snd mL_law g 498 (J 10)) (h11 : Snd mL_law g 563 (J 11)) (h12 : Snd mL_law g 566 (J 12)) (h13 : Snd mL_law g 579 (J 13)) (h14 : Snd mL_law g 644 (J 14)) (h15 : Snd mL_law g 647 (J 15)) (h16 : Snd mL_law g 700 (J 16)) (h17 : Snd mL_law g 703 (J 17)) (h18 : Snd mL_law g 716 (J 18)) (h19 : Snd mL_law g 793 (J 19)) (h20 : Snd mL_law g 796 (J 20)) (h21 : Snd mL_law g 861 (J 21)) (h22 : Snd mL_law g 864 (J 22)) (h23 : Snd mL_law g 929 (J 23)) (h24 : Snd mL_law g 932 (J 24)) (h25 : Snd mL_law g 998 (J 25)) (h26 : Snd mL_law g 1004 (J 26)) (h27 : Snd mL_law g 1007 (J 27)) (h28 : Snd mL_law g 1072 (J 28)) (h29 : Snd mL_law g 1075 (J 29)) (h30 : Snd mL_law g 1140 (J 30)) (h31 : Snd mL_law g 1143 (J 31)) (h32 : Snd mL_law g 1196 (J 32)) (h33 : Snd mL_law g 1199 (J 33)) (h34 : Snd mL_law g 1212 (J 34)) (h35 : Snd mL_law g 1277 (J 35)) (h36 : Snd mL_law g 1280 (J 36)) (h37 : Snd mL_law g 1345 (J 37)) (h38 : Snd mL_law g 1348 (J 38)) (h39 : Snd mL_law g 1401 (J 39)) (h40 : Snd mL_law g 1404 (J 40)) (h41 : Snd mL_law g 1457 (J 41)) (h42 : Snd mL_law g 1460 (J 42)) (h43 : Snd mL_law g 1537 (J 43)) (h44 : Snd mL_law g 1540 (J 44)) (h45 : Snd mL_law g 1629 (J 45)) (h46 : Snd mL_law g 1632 (J 46)) (h47 : Snd mL_law g 1645 (J 47)) (h48 : Snd mL_law g 1697 (J 48)) (h49 : Snd mL_law g 1700 (J 49)) (h50 : Snd mL_law g 1776 (J 50)) (h51 : Snd mL_law g 1779 (J 51)) (h52 : Snd mL_law g 1792 (J 52)) (h53 : Snd mL_law g 1845 (J 53)) (h54 : Snd mL_law g 1848 (J 54)) (h55 : Snd mL_law g 1913 (J 55)) (h56 : Snd mL_law g 1916 (J 56)) (h57 : Snd mL_law g 1969 (J 57)) (h58 : Snd mL_law g 1972 (J 58)) (h59 : Snd mL_law g 2037 (J 59)) (h60 : Snd mL_law g 2040 (J 60)) (h61 : Snd mL_law g 2093 (J 61)) (h62 : Snd mL_law g 2096 (J 62)) (h63 : Snd mL_law g 2161 (J 63)) (h64 : Snd mL_law g 2164 (J 64)) (h65 : Snd mL_law g 2217 (J 65)) (h66 : Snd mL_law g 2220 (J 66)) (h67 : Snd mL_law g 2309 (J 67)) (h68 : Snd mL_law g 2312 (J 68)) (h69 : Snd mL_law g 2389 (J 69)) (h70 : Snd mL_law g 2392 (J 70)) (h71 : Snd mL_law g 2457 (J 71)) (h72 : Snd mL_law g 2460 (J 72)) (h73 : Snd mL_law g 2513 (J 73)) (h74 : Snd mL_law g 2516 (J 74)) (h75 : Snd mL_law g 2529 (J 75)) (h76 : Snd mL_law g 2542 (J 76)) (h77 : Snd mL_law g 2555 (J 77)) (h78 : Snd mL_law g 2580 (J 78)) (h79 : Snd mL_law g 2605 (J 79)) : Snd mL_law g 1345 (bL_law_37 g J) := by
  unfold bL_law_37
  exact s_goto (pc := 1345) (tgt := 2605) h79 dL_law_1345 (by decide)
theorem sbL_law_38 (g : GE) (J : Nat → KT) (h1 : Snd mL_law g 23 (J 1)) (h2 : Snd mL_law g 232 (J 2)) (h3 : Snd mL_law g 305 (J 3)) (h4 : Snd mL_law g 358 (J 4)) (h5 : Snd mL_law g 361 (J 5)) (h6 : Snd mL_law g 374 (J 6)) (h7 : Snd mL_law g 427 (J 7)) (h8 : Snd mL_law g 430 (J 8)) (h9 : Snd mL_law g 495 (J 9)) (h10 : Snd mL_law g 498 (J 10)) (h11 : Snd mL_law g 563 (J 11)) (h12 : Snd mL_law g 566 (J 12)) (h13 : Snd mL_law g 579 (J 13)) (h14 : Snd mL_law g 644 (J 14)) (h15 : Snd mL_law g 647 (J 15)) (h16 : Snd mL_law g 700 (J 16)) (h17 : Snd mL_law g 703 (J 17)) (h18 : Snd mL_law g 716 (J 18)) (h19 : Snd mL_law g 793 (J 19)) (h20 : Snd mL_law g 796 (J 20)) (h21 : Snd mL_law g 861 (J 21)) (h22 : Snd mL_law g 864 (J 22)) (h23 : Snd mL_law g 929 (J 23)) (h24 : Snd mL_law g 932 (J 24)) (h25 : Snd mL_law g 998 (J 25)) (h26 : Snd mL_law g 1004 (J 26)) (h27 : Snd mL_law g 1007 (J 27)) (h28 : Snd mL_law g 1072 (J 28)) (h29 : Snd mL_law g 1075 (J 29)) (h30 : Snd mL_law g 1140 (J 30)) (h31 : Snd mL_law g 1143 (J 31)) (h32 : Snd mL_law g 1196 (J 32)) (h33 : Snd mL_law g 1199 (J 33)) (h34 : Snd mL_law g 1212 (J 34)) (h35 : Snd mL_law g 1277 (J 35)) (h36 : Snd mL_law g 1280 (J 36)) (h37 : Snd mL_law g 1345 (J 37)) (h38 : Snd mL_law g 1348 (J 38)) (h39 : Snd mL_law g 1401 (J 39)) (h40 : Snd mL_law g 1404 (J 40)) (h41 : Snd mL_law g 1457 (J 41)) (h42 : Snd mL_law g 1460 (J 42)) (h43 : Snd mL_law g 1537 (J 43)) (h44 : Snd mL_law g 1540 (J 44)) (h45 : Snd mL_law g 1629 (J 45)) (h46 : Snd mL_law g 1632 (J 46)) (h47 : Snd mL_law g 1645 (J 47)) (h48 : Snd mL_law g 1697 (J 48)) (h49 : Snd mL_law g 1700 (J 49)) (h50 : Snd mL_law g 1776 (J 50)) (h51 : Snd mL_law g 1779 (J 51)) (h52 : Snd mL_law g 1792 (J 52)) (h53 : Snd mL_law g 1845 (J 53)) (h54 : Snd mL_law g 1848 (J 54)) (h55 : Snd mL_law g 1913 (J 55)) (h56 : Snd mL_law g 1916 (J 56)) (h57 : Snd mL_law g 1969 (J 57)) (h58 : Snd mL_law g 1972 (J 58)) (h59 : Snd mL_law g 2037 (J 59)) (h60 : Snd mL_law g 2040 (J 60)) (h61 : Snd mL_law g 2093 (J 61)) (h62 : Snd mL_law g 2096 (J 62)) (h63 : Snd mL_law g 2161 (J 63)) (h64 : Snd mL_law g 2164 (J 64)) (h65 : Snd mL_law g 2217 (J 65)) (h66 : Snd mL_law g 2220 (J 66)) (h67 : Snd mL_law g 2309 (J 67)) (h68 : Snd mL_law g 2312 (J 68)) (h69 : Snd mL_law g 2389 (J 69)) (h70 : Snd mL_law g 2392 (J 70)) (h71 : Snd mL_law g 2457 (J 71)) (h72 : Snd mL_law g 2460 (J 72)) (h73 : Snd mL_law g 2513 (J 73)) (h74 : Snd mL_law g 2516 (J 74)) (h75 : Snd mL_law g 2529 (J 75)) (h76 : Snd mL_law g 2542 (J 76)) (h77 : Snd mL_law g 2555 (J 77)) (h78 : Snd mL_law g 2580 (J 78)) (h79 : Snd mL_law g 2605 (J 79)) : Snd mL_law g 1348 (bL_law_38 g J) := by
  unfold bL_law_38
  refine s_aload_n (pc := 1348) (i := 1) ?_ dL_law_1348 rfl
  refine s_aload_n (pc := 1349) (i := 0) ?_ dL_law_1349 rfl
  refine s_iload (pc := 1350) (i := 4) ?_ dL_law_1350
  refine s_iconst (pc := 1352) (v := 1) ?_ dL_law_1352 (by decide)
  refine s_iadd (pc := 1353) ?_ dL_law_1353
  refine s_sli (pc := 1354) ?_ dL_law_1354
  refine s_aload_n (pc := 1355) (i := 3) ?_ dL_law_1355 rfl
  refine s_csW (pc := 1356) (n := 3) ?_ tL_gains wt_1128 wt_1129 wt_0 wt_1130 ⟨crL_gains, by decide, by decide⟩ dL_law_1356
  refine s_istore (pc := 1359) (i := 5) ?_ dL_law_1359 (by decide)
  refine s_aload_n (pc := 1361) (i := 2) ?_ dL_law_1361 rfl
  refine s_aload_n (pc := 1362) (i := 0) ?_ dL_law_1362 rfl
  refine s_iload (pc := 1363) (i := 4) ?_ dL_law_1363
  refine s_iconst (pc := 1365) (v := 1) ?_ dL_law_1365 (by decide)
  refine s_iadd (pc := 1366) ?_ dL_law_1366
  refine s_sli (pc := 1367) ?_ dL_law_1367
  refine s_cv (pc := 1368) (n := 1) (ci := 10) ?_ tX11_gains rfl rfl wt_1787 wt_1788 wt_1789 wt_17 wt_1790 ⟨crX11_gains, by decide, by decide⟩ dL_law_1368
  refine s_istore (pc := 1371) (i := 6) ?_ dL_law_1371 (by decide)
  refine s_aload_n (pc := 1373) (i := 2) ?_ dL_law_1373 rfl
  refine s_cv (pc := 1374) (n := 0) (ci := 10) ?_ tX11_thrown rfl rfl wt_1545 wt_1546 wt_1547 wt_17 wt_1548 ⟨crX11_thrown, by decide, by decide⟩ dL_law_1374
  refine s_iload (pc := 1377) (i := 5) ?_ dL_law_1377
  refine s_iceq (pc := 1379) (tgt := 1384) ?_ ?_ dL_law_1379 (by decide)
  · skip
    refine s_iload (pc := 1384) (i := 5) ?_ dL_law_1384
    refine s_ifne (pc := 1386) (tgt := 1401) ?_ ?_ dL_law_1386 (by decide)
    · skip
      exact s_fall (pc := 1401) h39
    · skip
      refine s_aload_n (pc := 1389) (i := 3) ?_ dL_law_1389 rfl
      refine s_iconst (pc := 1390) (v := 0) ?_ dL_law_1390 (by decide)
      refine s_laload (pc := 1391) ?_ dL_law_1391
      refine s_iload (pc := 1392) (i := 6) ?_ dL_law_1392
      refine s_i2l (pc := 1394) ?_ dL_law_1394
      refine s_lcmp (pc := 1395) ?_ dL_law_1395
      refine s_ifeq (pc := 1396) (tgt := 1401) ?_ ?_ dL_law_1396 (by decide)
      · skip
        exact s_fall (pc := 1401) h39
      · skip
        refine s_iconst (pc := 1399) (v := 0) ?_ dL_law_1399 (by decide)
        exact s_zreturn (pc := 1400) rfl dL_law_1400
  · skip
    refine s_iconst (pc := 1382) (v := 0) ?_ dL_law_1382 (by decide)
    exact s_zreturn (pc := 1383) rfl dL_law_1383
theorem sbL_law_39 (g : GE) (J : Nat → KT) (h1 : Snd mL_law g 23 (J 1)) (h2 : Snd mL_law g 232 (J 2)) (h3 : Snd mL_law g 305 (J 3)) (h4 : Snd mL_law g 358 (J 4)) (h5 : Snd mL_law g 361 (J 5)) (h6 : Snd mL_law g 374 (J 6)) (h7 : Snd mL_law g 427 (J 7)) (h8 : Snd mL_law g 430 (J 8)) (h9 : Snd mL_law g 495 (J 9)) (h10 : Snd mL_law g 498 (J 10)) (h11 : Snd mL_law g 563 (J 11)) (h12 : Snd mL_law g 566 (J 12)) (h13 : Snd mL_law g 579 (J 13)) (h14 : Snd mL_law g 644 (J 14)) (h15 : Snd mL_law g 647 (J 15)) (h16 : Snd mL_law g 700 (J 16)) (h17 : Snd mL_law g 703 (J 17)) (h18 : Snd mL_law g 716 (J 18)) (h19 : Snd mL_law g 793 (J 19)) (h20 : Snd mL_law g 796 (J 20)) (h21 : Snd mL_law g 861 (J 21)) (h22 : Snd mL_law g 864 (J 22)) (h23 : Snd mL_law g 929 (J 23)) (h24 : Snd mL_law g 932 (J 24)) (h25 : Snd mL_law g 998 (J 25)) (h26 : Snd mL_law g 1004 (J 26)) (h27 : Snd mL_law g 1007 (J 27)) (h28 : Snd mL_law g 1072 (J 28)) (h29 : Snd mL_law g 1075 (J 29)) (h30 : Snd mL_law g 1140 (J 30)) (h31 : Snd mL_law g 1143 (J 31)) (h32 : Snd mL_law g 1196 (J 32)) (h33 : Snd mL_law g 1199 (J 33)) (h34 : Snd mL_law g 1212 (J 34)) (h35 : Snd mL_law g 1277 (J 35)) (h36 : Snd mL_law g 1280 (J 36)) (h37 : Snd mL_law g 1345 (J 37)) (h38 : Snd mL_law g 1348 (J 38)) (h39 : Snd mL_law g 1401 (J 39)) (h40 : Snd mL_law g 1404 (J 40)) (h41 : Snd mL_law g 1457 (J 41)) (h42 : Snd mL_law g 1460 (J 42)) (h43 : Snd mL_law g 1537 (J 43)) (h44 : Snd mL_law g 1540 (J 44)) (h45 : Snd mL_law g 1629 (J 45)) (h46 : Snd mL_law g 1632 (J 46)) (h47 : Snd mL_law g 1645 (J 47)) (h48 : Snd mL_law g 1697 (J 48)) (h49 : Snd mL_law g 1700 (J 49)) (h50 : Snd mL_law g 1776 (J 50)) (h51 : Snd mL_law g 1779 (J 51)) (h52 : Snd mL_law g 1792 (J 52)) (h53 : Snd mL_law g 1845 (J 53)) (h54 : Snd mL_law g 1848 (J 54)) (h55 : Snd mL_law g 1913 (J 55)) (h56 : Snd mL_law g 1916 (J 56)) (h57 : Snd mL_law g 1969 (J 57)) (h58 : Snd mL_law g 1972 (J 58)) (h59 : Snd mL_law g 2037 (J 59)) (h60 : Snd mL_law g 2040 (J 60)) (h61 : Snd mL_law g 2093 (J 61)) (h62 : Snd mL_law g 2096 (J 62)) (h63 : Snd mL_law g 2161 (J 63)) (h64 : Snd mL_law g 2164 (J 64)) (h65 : Snd mL_law g 2217 (J 65)) (h66 : Snd mL_law g 2220 (J 66)) (h67 : Snd mL_law g 2309 (J 67)) (h68 : Snd mL_law g 2312 (J 68)) (h69 : Snd mL_law g 2389 (J 69)) (h70 : Snd mL_law g 2392 (J 70)) (h71 : Snd mL_law g 2457 (J 71)) (h72 : Snd mL_law g 2460 (J 72)) (h73 : Snd mL_law g 2513 (J 73)) (h74 : Snd mL_law g 2516 (J 74)) (h75 : Snd mL_law g 2529 (J 75)) (h76 : Snd mL_law g 2542 (J 76)) (h77 : Snd mL_law g 2555 (J 77)) (h78 : Snd mL_law g 2580 (J 78)) (h79 : Snd mL_law g 2605 (J 79)) : Snd mL_law g 1401 (bL_law_39 g J) := by
  unfold bL_law_39
  exact s_goto (pc := 1401) (tgt := 2605) h79 dL_law_1401 (by decide)
theorem sbL_law_40 (g : GE) (J : Nat → KT) (h1 : Snd mL_law g 23 (J 1)) (h2 : Snd mL_law g 232 (J 2)) (h3 : Snd mL_law g 305 (J 3)) (h4 : Snd mL_law g 358 (J 4)) (h5 : Snd mL_law g 361 (J 5)) (h6 : Snd mL_law g 374 (J 6)) (h7 : Snd mL_law g 427 (J 7)) (h8 : Snd mL_law g 430 (J 8)) (h9 : Snd mL_law g 495 (J 9)) (h10 : Snd mL_law g 498 (J 10)) (h11 : Snd mL_law g 563 (J 11)) (h12 : Snd mL_law g 566 (J 12)) (h13 : Snd mL_law g 579 (J 13)) (h14 : Snd mL_law g 644 (J 14)) (h15 : Snd mL_law g 647 (J 15)) (h16 : Snd mL_law g 700 (J 16)) (h17 : Snd mL_law g 703 (J 17)) (h18 : Snd mL_law g 716 (J 18)) (h19 : Snd mL_law g 793 (J 19)) (h20 : Snd mL_law g 796 (J 20)) (h21 : Snd mL_law g 861 (J 21)) (h22 : Snd mL_law g 864 (J 22)) (h23 : Snd mL_law g 929 (J 23)) (h24 : Snd mL_law g 932 (J 24)) (h25 : Snd mL_law g 998 (J 25)) (h26 : Snd mL_law g 1004 (J 26)) (h27 : Snd mL_law g 1007 (J 27)) (h28 : Snd mL_law g 1072 (J 28)) (h29 : Snd mL_law g 1075 (J 29)) (h30 : Snd mL_law g 1140 (J 30)) (h31 : Snd mL_law g 1143 (J 31)) (h32 : Snd mL_law g 1196 (J 32)) (h33 : Snd mL_law g 1199 (J 33)) (h34 : Snd mL_law g 1212 (J 34)) (h35 : Snd mL_law g 1277 (J 35)) (h36 : Snd mL_law g 1280 (J 36)) (h37 : Snd mL_law g 1345 (J 37)) (h38 : Snd mL_law g 1348 (J 38)) (h39 : Snd mL_law g 1401 (J 39)) (h40 : Snd mL_law g 1404 (J 40)) (h41 : Snd mL_law g 1457 (J 41)) (h42 : Snd mL_law g 1460 (J 42)) (h43 : Snd mL_law g 1537 (J 43)) (h44 : Snd mL_law g 1540 (J 44)) (h45 : Snd mL_law g 1629 (J 45)) (h46 : Snd mL_law g 1632 (J 46)) (h47 : Snd mL_law g 1645 (J 47)) (h48 : Snd mL_law g 1697 (J 48)) (h49 : Snd mL_law g 1700 (J 49)) (h50 : Snd mL_law g 1776 (J 50)) (h51 : Snd mL_law g 1779 (J 51)) (h52 : Snd mL_law g 1792 (J 52)) (h53 : Snd mL_law g 1845 (J 53)) (h54 : Snd mL_law g 1848 (J 54)) (h55 : Snd mL_law g 1913 (J 55)) (h56 : Snd mL_law g 1916 (J 56)) (h57 : Snd mL_law g 1969 (J 57)) (h58 : Snd mL_law g 1972 (J 58)) (h59 : Snd mL_law g 2037 (J 59)) (h60 : Snd mL_law g 2040 (J 60)) (h61 : Snd mL_law g 2093 (J 61)) (h62 : Snd mL_law g 2096 (J 62)) (h63 : Snd mL_law g 2161 (J 63)) (h64 : Snd mL_law g 2164 (J 64)) (h65 : Snd mL_law g 2217 (J 65)) (h66 : Snd mL_law g 2220 (J 66)) (h67 : Snd mL_law g 2309 (J 67)) (h68 : Snd mL_law g 2312 (J 68)) (h69 : Snd mL_law g 2389 (J 69)) (h70 : Snd mL_law g 2392 (J 70)) (h71 : Snd mL_law g 2457 (J 71)) (h72 : Snd mL_law g 2460 (J 72)) (h73 : Snd mL_law g 2513 (J 73)) (h74 : Snd mL_law g 2516 (J 74)) (h75 : Snd mL_law g 2529 (J 75)) (h76 : Snd mL_law g 2542 (J 76)) (h77 : Snd mL_law g 2555 (J 77)) (h78 : Snd mL_law g 2580 (J 78)) (h79 : Snd mL_law g 2605 (J 79)) : Snd mL_law g 1404 (bL_law_40 g J) := by
  unfold bL_law_40
  refine s_aload_n (pc := 1404) (i := 1) ?_ dL_law_1404 rfl
  refine s_aload_n (pc := 1405) (i := 0) ?_ dL_law_1405 rfl
  refine s_iload (pc := 1406) (i := 4) ?_ dL_law_1406
  refine s_iconst (pc := 1408) (v := 1) ?_ dL_law_1408 (by decide)
  refine s_iadd (pc := 1409) ?_ dL_law_1409
  refine s_sli (pc := 1410) ?_ dL_law_1410
  refine s_aload_n (pc := 1411) (i := 3) ?_ dL_law_1411 rfl
  refine s_csW (pc := 1412) (n := 3) ?_ tL_settlement wt_1140 wt_1141 wt_0 wt_1142 ⟨crL_settlement, by decide, by decide⟩ dL_law_1412
  refine s_istore (pc := 1415) (i := 5) ?_ dL_law_1415 (by decide)
  refine s_aload_n (pc := 1417) (i := 2) ?_ dL_law_1417 rfl
  refine s_aload_n (pc := 1418) (i := 0) ?_ dL_law_1418 rfl
  refine s_iload (pc := 1419) (i := 4) ?_ dL_law_1419
  refine s_iconst (pc := 1421) (v := 1) ?_ dL_law_1421 (by decide)
  refine s_iadd (pc := 1422) ?_ dL_law_1422
  refine s_sli (pc := 1423) ?_ dL_law_1423
  refine s_cv (pc := 1424) (n := 1) (ci := 10) ?_ tX11_settlement rfl rfl wt_1791 wt_1792 wt_1793 wt_17 wt_1794 ⟨crX11_settlement, by decide, by decide⟩ dL_law_1424
  refine s_istore (pc := 1427) (i := 6) ?_ dL_law_1427 (by decide)
  refine s_aload_n (pc := 1429) (i := 2) ?_ dL_law_1429 rfl
  refine s_cv (pc := 1430) (n := 0) (ci := 10) ?_ tX11_thrown rfl rfl wt_1545 wt_1546 wt_1547 wt_17 wt_1548 ⟨crX11_thrown, by decide, by decide⟩ dL_law_1430
  refine s_iload (pc := 1433) (i := 5) ?_ dL_law_1433
  refine s_iceq (pc := 1435) (tgt := 1440) ?_ ?_ dL_law_1435 (by decide)
  · skip
    refine s_iload (pc := 1440) (i := 5) ?_ dL_law_1440
    refine s_ifne (pc := 1442) (tgt := 1457) ?_ ?_ dL_law_1442 (by decide)
    · skip
      exact s_fall (pc := 1457) h41
    · skip
      refine s_aload_n (pc := 1445) (i := 3) ?_ dL_law_1445 rfl
      refine s_iconst (pc := 1446) (v := 0) ?_ dL_law_1446 (by decide)
      refine s_laload (pc := 1447) ?_ dL_law_1447
      refine s_iload (pc := 1448) (i := 6) ?_ dL_law_1448
      refine s_i2l (pc := 1450) ?_ dL_law_1450
      refine s_lcmp (pc := 1451) ?_ dL_law_1451
      refine s_ifeq (pc := 1452) (tgt := 1457) ?_ ?_ dL_law_1452 (by decide)
      · skip
        exact s_fall (pc := 1457) h41
      · skip
        refine s_iconst (pc := 1455) (v := 0) ?_ dL_law_1455 (by decide)
        exact s_zreturn (pc := 1456) rfl dL_law_1456
  · skip
    refine s_iconst (pc := 1438) (v := 0) ?_ dL_law_1438 (by decide)
    exact s_zreturn (pc := 1439) rfl dL_law_1439
theorem sbL_law_41 (g : GE) (J : Nat → KT) (h1 : Snd mL_law g 23 (J 1)) (h2 : Snd mL_law g 232 (J 2)) (h3 : Snd mL_law g 305 (J 3)) (h4 : Snd mL_law g 358 (J 4)) (h5 : Snd mL_law g 361 (J 5)) (h6 : Snd mL_law g 374 (J 6)) (h7 : Snd mL_law g 427 (J 7)) (h8 : Snd mL_law g 430 (J 8)) (h9 : Snd mL_law g 495 (J 9)) (h10 : Snd mL_law g 498 (J 10)) (h11 : Snd mL_law g 563 (J 11)) (h12 : Snd mL_law g 566 (J 12)) (h13 : Snd mL_law g 579 (J 13)) (h14 : Snd mL_law g 644 (J 14)) (h15 : Snd mL_law g 647 (J 15)) (h16 : Snd mL_law g 700 (J 16)) (h17 : Snd mL_law g 703 (J 17)) (h18 : Snd mL_law g 716 (J 18)) (h19 : Snd mL_law g 793 (J 19)) (h20 : Snd mL_law g 796 (J 20)) (h21 : Snd mL_law g 861 (J 21)) (h22 : Snd mL_law g 864 (J 22)) (h23 : Snd mL_law g 929 (J 23)) (h24 : Snd mL_law g 932 (J 24)) (h25 : Snd mL_law g 998 (J 25)) (h26 : Snd mL_law g 1004 (J 26)) (h27 : Snd mL_law g 1007 (J 27)) (h28 : Snd mL_law g 1072 (J 28)) (h29 : Snd mL_law g 1075 (J 29)) (h30 : Snd mL_law g 1140 (J 30)) (h31 : Snd mL_law g 1143 (J 31)) (h32 : Snd mL_law g 1196 (J 32)) (h33 : Snd mL_law g 1199 (J 33)) (h34 : Snd mL_law g 1212 (J 34)) (h35 : Snd mL_law g 1277 (J 35)) (h36 : Snd mL_law g 1280 (J 36)) (h37 : Snd mL_law g 1345 (J 37)) (h38 : Snd mL_law g 1348 (J 38)) (h39 : Snd mL_law g 1401 (J 39)) (h40 : Snd mL_law g 1404 (J 40)) (h41 : Snd mL_law g 1457 (J 41)) (h42 : Snd mL_law g 1460 (J 42)) (h43 : Snd mL_law g 1537 (J 43)) (h44 : Snd mL_law g 1540 (J 44)) (h45 : Snd mL_law g 1629 (J 45)) (h46 : Snd mL_law g 1632 (J 46)) (h47 : Snd mL_law g 1645 (J 47)) (h48 : Snd mL_law g 1697 (J 48)) (h49 : Snd mL_law g 1700 (J 49)) (h50 : Snd mL_law g 1776 (J 50)) (h51 : Snd mL_law g 1779 (J 51)) (h52 : Snd mL_law g 1792 (J 52)) (h53 : Snd mL_law g 1845 (J 53)) (h54 : Snd mL_law g 1848 (J 54)) (h55 : Snd mL_law g 1913 (J 55)) (h56 : Snd mL_law g 1916 (J 56)) (h57 : Snd mL_law g 1969 (J 57)) (h58 : Snd mL_law g 1972 (J 58)) (h59 : Snd mL_law g 2037 (J 59)) (h60 : Snd mL_law g 2040 (J 60)) (h61 : Snd mL_law g 2093 (J 61)) (h62 : Snd mL_law g 2096 (J 62)) (h63 : Snd mL_law g 2161 (J 63)) (h64 : Snd mL_law g 2164 (J 64)) (h65 : Snd mL_law g 2217 (J 65)) (h66 : Snd mL_law g 2220 (J 66)) (h67 : Snd mL_law g 2309 (J 67)) (h68 : Snd mL_law g 2312 (J 68)) (h69 : Snd mL_law g 2389 (J 69)) (h70 : Snd mL_law g 2392 (J 70)) (h71 : Snd mL_law g 2457 (J 71)) (h72 : Snd mL_law g 2460 (J 72)) (h73 : Snd mL_law g 2513 (J 73)) (h74 : Snd mL_law g 2516 (J 74)) (h75 : Snd mL_law g 2529 (J 75)) (h76 : Snd mL_law g 2542 (J 76)) (h77 : Snd mL_law g 2555 (J 77)) (h78 : Snd mL_law g 2580 (J 78)) (h79 : Snd mL_law g 2605 (J 79)) : Snd mL_law g 1457 (bL_law_41 g J) := by
  unfold bL_law_41
  exact s_goto (pc := 1457) (tgt := 2605) h79 dL_law_1457 (by decide)
theorem sbL_law_42 (g : GE) (J : Nat → KT) (h1 : Snd mL_law g 23 (J 1)) (h2 : Snd mL_law g 232 (J 2)) (h3 : Snd mL_law g 305 (J 3)) (h4 : Snd mL_law g 358 (J 4)) (h5 : Snd mL_law g 361 (J 5)) (h6 : Snd mL_law g 374 (J 6)) (h7 : Snd mL_law g 427 (J 7)) (h8 : Snd mL_law g 430 (J 8)) (h9 : Snd mL_law g 495 (J 9)) (h10 : Snd mL_law g 498 (J 10)) (h11 : Snd mL_law g 563 (J 11)) (h12 : Snd mL_law g 566 (J 12)) (h13 : Snd mL_law g 579 (J 13)) (h14 : Snd mL_law g 644 (J 14)) (h15 : Snd mL_law g 647 (J 15)) (h16 : Snd mL_law g 700 (J 16)) (h17 : Snd mL_law g 703 (J 17)) (h18 : Snd mL_law g 716 (J 18)) (h19 : Snd mL_law g 793 (J 19)) (h20 : Snd mL_law g 796 (J 20)) (h21 : Snd mL_law g 861 (J 21)) (h22 : Snd mL_law g 864 (J 22)) (h23 : Snd mL_law g 929 (J 23)) (h24 : Snd mL_law g 932 (J 24)) (h25 : Snd mL_law g 998 (J 25)) (h26 : Snd mL_law g 1004 (J 26)) (h27 : Snd mL_law g 1007 (J 27)) (h28 : Snd mL_law g 1072 (J 28)) (h29 : Snd mL_law g 1075 (J 29)) (h30 : Snd mL_law g 1140 (J 30)) (h31 : Snd mL_law g 1143 (J 31)) (h32 : Snd mL_law g 1196 (J 32)) (h33 : Snd mL_law g 1199 (J 33)) (h34 : Snd mL_law g 1212 (J 34)) (h35 : Snd mL_law g 1277 (J 35)) (h36 : Snd mL_law g 1280 (J 36)) (h37 : Snd mL_law g 1345 (J 37)) (h38 : Snd mL_law g 1348 (J 38)) (h39 : Snd mL_law g 1401 (J 39)) (h40 : Snd mL_law g 1404 (J 40)) (h41 : Snd mL_law g 1457 (J 41)) (h42 : Snd mL_law g 1460 (J 42)) (h43 : Snd mL_law g 1537 (J 43)) (h44 : Snd mL_law g 1540 (J 44)) (h45 : Snd mL_law g 1629 (J 45)) (h46 : Snd mL_law g 1632 (J 46)) (h47 : Snd mL_law g 1645 (J 47)) (h48 : Snd mL_law g 1697 (J 48)) (h49 : Snd mL_law g 1700 (J 49)) (h50 : Snd mL_law g 1776 (J 50)) (h51 : Snd mL_law g 1779 (J 51)) (h52 : Snd mL_law g 1792 (J 52)) (h53 : Snd mL_law g 1845 (J 53)) (h54 : Snd mL_law g 1848 (J 54)) (h55 : Snd mL_law g 1913 (J 55)) (h56 : Snd mL_law g 1916 (J 56)) (h57 : Snd mL_law g 1969 (J 57)) (h58 : Snd mL_law g 1972 (J 58)) (h59 : Snd mL_law g 2037 (J 59)) (h60 : Snd mL_law g 2040 (J 60)) (h61 : Snd mL_law g 2093 (J 61)) (h62 : Snd mL_law g 2096 (J 62)) (h63 : Snd mL_law g 2161 (J 63)) (h64 : Snd mL_law g 2164 (J 64)) (h65 : Snd mL_law g 2217 (J 65)) (h66 : Snd mL_law g 2220 (J 66)) (h67 : Snd mL_law g 2309 (J 67)) (h68 : Snd mL_law g 2312 (J 68)) (h69 : Snd mL_law g 2389 (J 69)) (h70 : Snd mL_law g 2392 (J 70)) (h71 : Snd mL_law g 2457 (J 71)) (h72 : Snd mL_law g 2460 (J 72)) (h73 : Snd mL_law g 2513 (J 73)) (h74 : Snd mL_law g 2516 (J 74)) (h75 : Snd mL_law g 2529 (J 75)) (h76 : Snd mL_law g 2542 (J 76)) (h77 : Snd mL_law g 2555 (J 77)) (h78 : Snd mL_law g 2580 (J 78)) (h79 : Snd mL_law g 2605 (J 79)) : Snd mL_law g 1460 (bL_law_42 g J) := by
  unfold bL_law_42
  refine s_aload_n (pc := 1460) (i := 1) ?_ dL_law_1460 rfl
  refine s_aload_n (pc := 1461) (i := 0) ?_ dL_law_1461 rfl
  refine s_iload (pc := 1462) (i := 4) ?_ dL_law_1462
  refine s_iconst (pc := 1464) (v := 1) ?_ dL_law_1464 (by decide)
  refine s_iadd (pc := 1465) ?_ dL_law_1465
  refine s_sli (pc := 1466) ?_ dL_law_1466
  refine s_aload_n (pc := 1467) (i := 0) ?_ dL_law_1467 rfl
  refine s_iload (pc := 1468) (i := 4) ?_ dL_law_1468
  refine s_iconst (pc := 1470) (v := 2) ?_ dL_law_1470 (by decide)
  refine s_iadd (pc := 1471) ?_ dL_law_1471
  refine s_sli (pc := 1472) ?_ dL_law_1472
  refine s_aload_n (pc := 1473) (i := 0) ?_ dL_law_1473 rfl
  refine s_iload (pc := 1474) (i := 4) ?_ dL_law_1474
  refine s_iconst (pc := 1476) (v := 3) ?_ dL_law_1476 (by decide)
  refine s_iadd (pc := 1477) ?_ dL_law_1477
  refine s_sli (pc := 1478) ?_ dL_law_1478
  refine s_aload_n (pc := 1479) (i := 3) ?_ dL_law_1479 rfl
  refine s_csW (pc := 1480) (n := 5) ?_ tL_copy wt_1151 wt_1152 wt_0 wt_1153 ⟨crL_copy, by decide, by decide⟩ dL_law_1480
  refine s_istore (pc := 1483) (i := 5) ?_ dL_law_1483 (by decide)
  refine s_aload_n (pc := 1485) (i := 2) ?_ dL_law_1485 rfl
  refine s_aload_n (pc := 1486) (i := 0) ?_ dL_law_1486 rfl
  refine s_iload (pc := 1487) (i := 4) ?_ dL_law_1487
  refine s_iconst (pc := 1489) (v := 1) ?_ dL_law_1489 (by decide)
  refine s_iadd (pc := 1490) ?_ dL_law_1490
  refine s_sli (pc := 1491) ?_ dL_law_1491
  refine s_aload_n (pc := 1492) (i := 0) ?_ dL_law_1492 rfl
  refine s_iload (pc := 1493) (i := 4) ?_ dL_law_1493
  refine s_iconst (pc := 1495) (v := 2) ?_ dL_law_1495 (by decide)
  refine s_iadd (pc := 1496) ?_ dL_law_1496
  refine s_sli (pc := 1497) ?_ dL_law_1497
  refine s_aload_n (pc := 1498) (i := 0) ?_ dL_law_1498 rfl
  refine s_iload (pc := 1499) (i := 4) ?_ dL_law_1499
  refine s_iconst (pc := 1501) (v := 3) ?_ dL_law_1501 (by decide)
  refine s_iadd (pc := 1502) ?_ dL_law_1502
  refine s_sli (pc := 1503) ?_ dL_law_1503
  refine s_cv (pc := 1504) (n := 3) (ci := 10) ?_ tX11_copy rfl rfl wt_1795 wt_1796 wt_1797 wt_17 wt_1798 ⟨crX11_copy, by decide, by decide⟩ dL_law_1504
  refine s_istore (pc := 1507) (i := 6) ?_ dL_law_1507 (by decide)
  refine s_aload_n (pc := 1509) (i := 2) ?_ dL_law_1509 rfl
  refine s_cv (pc := 1510) (n := 0) (ci := 10) ?_ tX11_thrown rfl rfl wt_1545 wt_1546 wt_1547 wt_17 wt_1548 ⟨crX11_thrown, by decide, by decide⟩ dL_law_1510
  refine s_iload (pc := 1513) (i := 5) ?_ dL_law_1513
  refine s_iceq (pc := 1515) (tgt := 1520) ?_ ?_ dL_law_1515 (by decide)
  · skip
    refine s_iload (pc := 1520) (i := 5) ?_ dL_law_1520
    refine s_ifne (pc := 1522) (tgt := 1537) ?_ ?_ dL_law_1522 (by decide)
    · skip
      exact s_fall (pc := 1537) h43
    · skip
      refine s_aload_n (pc := 1525) (i := 3) ?_ dL_law_1525 rfl
      refine s_iconst (pc := 1526) (v := 0) ?_ dL_law_1526 (by decide)
      refine s_laload (pc := 1527) ?_ dL_law_1527
      refine s_iload (pc := 1528) (i := 6) ?_ dL_law_1528
      refine s_i2l (pc := 1530) ?_ dL_law_1530
      refine s_lcmp (pc := 1531) ?_ dL_law_1531
      refine s_ifeq (pc := 1532) (tgt := 1537) ?_ ?_ dL_law_1532 (by decide)
      · skip
        exact s_fall (pc := 1537) h43
      · skip
        refine s_iconst (pc := 1535) (v := 0) ?_ dL_law_1535 (by decide)
        exact s_zreturn (pc := 1536) rfl dL_law_1536
  · skip
    refine s_iconst (pc := 1518) (v := 0) ?_ dL_law_1518 (by decide)
    exact s_zreturn (pc := 1519) rfl dL_law_1519
theorem sbL_law_43 (g : GE) (J : Nat → KT) (h1 : Snd mL_law g 23 (J 1)) (h2 : Snd mL_law g 232 (J 2)) (h3 : Snd mL_law g 305 (J 3)) (h4 : Snd mL_law g 358 (J 4)) (h5 : Snd mL_law g 361 (J 5)) (h6 : Snd mL_law g 374 (J 6)) (h7 : Snd mL_law g 427 (J 7)) (h8 : Snd mL_law g 430 (J 8)) (h9 : Snd mL_law g 495 (J 9)) (h10 : Snd mL_law g 498 (J 10)) (h11 : Snd mL_law g 563 (J 11)) (h12 : Snd mL_law g 566 (J 12)) (h13 : Snd mL_law g 579 (J 13)) (h14 : Snd mL_law g 644 (J 14)) (h15 : Snd mL_law g 647 (J 15)) (h16 : Snd mL_law g 700 (J 16)) (h17 : Snd mL_law g 703 (J 17)) (h18 : Snd mL_law g 716 (J 18)) (h19 : Snd mL_law g 793 (J 19)) (h20 : Snd mL_law g 796 (J 20)) (h21 : Snd mL_law g 861 (J 21)) (h22 : Snd mL_law g 864 (J 22)) (h23 : Snd mL_law g 929 (J 23)) (h24 : Snd mL_law g 932 (J 24)) (h25 : Snd mL_law g 998 (J 25)) (h26 : Snd mL_law g 1004 (J 26)) (h27 : Snd mL_law g 1007 (J 27)) (h28 : Snd mL_law g 1072 (J 28)) (h29 : Snd mL_law g 1075 (J 29)) (h30 : Snd mL_law g 1140 (J 30)) (h31 : Snd mL_law g 1143 (J 31)) (h32 : Snd mL_law g 1196 (J 32)) (h33 : Snd mL_law g 1199 (J 33)) (h34 : Snd mL_law g 1212 (J 34)) (h35 : Snd mL_law g 1277 (J 35)) (h36 : Snd mL_law g 1280 (J 36)) (h37 : Snd mL_law g 1345 (J 37)) (h38 : Snd mL_law g 1348 (J 38)) (h39 : Snd mL_law g 1401 (J 39)) (h40 : Snd mL_law g 1404 (J 40)) (h41 : Snd mL_law g 1457 (J 41)) (h42 : Snd mL_law g 1460 (J 42)) (h43 : Snd mL_law g 1537 (J 43)) (h44 : Snd mL_law g 1540 (J 44)) (h45 : Snd mL_law g 1629 (J 45)) (h46 : Snd mL_law g 1632 (J 46)) (h47 : Snd mL_law g 1645 (J 47)) (h48 : Snd mL_law g 1697 (J 48)) (h49 : Snd mL_law g 1700 (J 49)) (h50 : Snd mL_law g 1776 (J 50)) (h51 : Snd mL_law g 1779 (J 51)) (h52 : Snd mL_law g 1792 (J 52)) (h53 : Snd mL_law g 1845 (J 53)) (h54 : Snd mL_law g 1848 (J 54)) (h55 : Snd mL_law g 1913 (J 55)) (h56 : Snd mL_law g 1916 (J 56)) (h57 : Snd mL_law g 1969 (J 57)) (h58 : Snd mL_law g 1972 (J 58)) (h59 : Snd mL_law g 2037 (J 59)) (h60 : Snd mL_law g 2040 (J 60)) (h61 : Snd mL_law g 2093 (J 61)) (h62 : Snd mL_law g 2096 (J 62)) (h63 : Snd mL_law g 2161 (J 63)) (h64 : Snd mL_law g 2164 (J 64)) (h65 : Snd mL_law g 2217 (J 65)) (h66 : Snd mL_law g 2220 (J 66)) (h67 : Snd mL_law g 2309 (J 67)) (h68 : Snd mL_law g 2312 (J 68)) (h69 : Snd mL_law g 2389 (J 69)) (h70 : Snd mL_law g 2392 (J 70)) (h71 : Snd mL_law g 2457 (J 71)) (h72 : Snd mL_law g 2460 (J 72)) (h73 : Snd mL_law g 2513 (J 73)) (h74 : Snd mL_law g 2516 (J 74)) (h75 : Snd mL_law g 2529 (J 75)) (h76 : Snd mL_law g 2542 (J 76)) (h77 : Snd mL_law g 2555 (J 77)) (h78 : Snd mL_law g 2580 (J 78)) (h79 : Snd mL_law g 2605 (J 79)) : Snd mL_law g 1537 (bL_law_43 g J) := by
  unfold bL_law_43
  exact s_goto (pc := 1537) (tgt := 2605) h79 dL_law_1537 (by decide)
theorem sbL_law_44 (g : GE) (J : Nat → KT) (h1 : Snd mL_law g 23 (J 1)) (h2 : Snd mL_law g 232 (J 2)) (h3 : Snd mL_law g 305 (J 3)) (h4 : Snd mL_law g 358 (J 4)) (h5 : Snd mL_law g 361 (J 5)) (h6 : Snd mL_law g 374 (J 6)) (h7 : Snd mL_law g 427 (J 7)) (h8 : Snd mL_law g 430 (J 8)) (h9 : Snd mL_law g 495 (J 9)) (h10 : Snd mL_law g 498 (J 10)) (h11 : Snd mL_law g 563 (J 11)) (h12 : Snd mL_law g 566 (J 12)) (h13 : Snd mL_law g 579 (J 13)) (h14 : Snd mL_law g 644 (J 14)) (h15 : Snd mL_law g 647 (J 15)) (h16 : Snd mL_law g 700 (J 16)) (h17 : Snd mL_law g 703 (J 17)) (h18 : Snd mL_law g 716 (J 18)) (h19 : Snd mL_law g 793 (J 19)) (h20 : Snd mL_law g 796 (J 20)) (h21 : Snd mL_law g 861 (J 21)) (h22 : Snd mL_law g 864 (J 22)) (h23 : Snd mL_law g 929 (J 23)) (h24 : Snd mL_law g 932 (J 24)) (h25 : Snd mL_law g 998 (J 25)) (h26 : Snd mL_law g 1004 (J 26)) (h27 : Snd mL_law g 1007 (J 27)) (h28 : Snd mL_law g 1072 (J 28)) (h29 : Snd mL_law g 1075 (J 29)) (h30 : Snd mL_law g 1140 (J 30)) (h31 : Snd mL_law g 1143 (J 31)) (h32 : Snd mL_law g 1196 (J 32)) (h33 : Snd mL_law g 1199 (J 33)) (h34 : Snd mL_law g 1212 (J 34)) (h35 : Snd mL_law g 1277 (J 35)) (h36 : Snd mL_law g 1280 (J 36)) (h37 : Snd mL_law g 1345 (J 37)) (h38 : Snd mL_law g 1348 (J 38)) (h39 : Snd mL_law g 1401 (J 39)) (h40 : Snd mL_law g 1404 (J 40)) (h41 : Snd mL_law g 1457 (J 41)) (h42 : Snd mL_law g 1460 (J 42)) (h43 : Snd mL_law g 1537 (J 43)) (h44 : Snd mL_law g 1540 (J 44)) (h45 : Snd mL_law g 1629 (J 45)) (h46 : Snd mL_law g 1632 (J 46)) (h47 : Snd mL_law g 1645 (J 47)) (h48 : Snd mL_law g 1697 (J 48)) (h49 : Snd mL_law g 1700 (J 49)) (h50 : Snd mL_law g 1776 (J 50)) (h51 : Snd mL_law g 1779 (J 51)) (h52 : Snd mL_law g 1792 (J 52)) (h53 : Snd mL_law g 1845 (J 53)) (h54 : Snd mL_law g 1848 (J 54)) (h55 : Snd mL_law g 1913 (J 55)) (h56 : Snd mL_law g 1916 (J 56)) (h57 : Snd mL_law g 1969 (J 57)) (h58 : Snd mL_law g 1972 (J 58)) (h59 : Snd mL_law g 2037 (J 59)) (h60 : Snd mL_law g 2040 (J 60)) (h61 : Snd mL_law g 2093 (J 61)) (h62 : Snd mL_law g 2096 (J 62)) (h63 : Snd mL_law g 2161 (J 63)) (h64 : Snd mL_law g 2164 (J 64)) (h65 : Snd mL_law g 2217 (J 65)) (h66 : Snd mL_law g 2220 (J 66)) (h67 : Snd mL_law g 2309 (J 67)) (h68 : Snd mL_law g 2312 (J 68)) (h69 : Snd mL_law g 2389 (J 69)) (h70 : Snd mL_law g 2392 (J 70)) (h71 : Snd mL_law g 2457 (J 71)) (h72 : Snd mL_law g 2460 (J 72)) (h73 : Snd mL_law g 2513 (J 73)) (h74 : Snd mL_law g 2516 (J 74)) (h75 : Snd mL_law g 2529 (J 75)) (h76 : Snd mL_law g 2542 (J 76)) (h77 : Snd mL_law g 2555 (J 77)) (h78 : Snd mL_law g 2580 (J 78)) (h79 : Snd mL_law g 2605 (J 79)) : Snd mL_law g 1540 (bL_law_44 g J) := by
  unfold bL_law_44
  refine s_aload_n (pc := 1540) (i := 1) ?_ dL_law_1540 rfl
  refine s_aload_n (pc := 1541) (i := 0) ?_ dL_law_1541 rfl
  refine s_iload (pc := 1542) (i := 4) ?_ dL_law_1542
  refine s_iconst (pc := 1544) (v := 1) ?_ dL_law_1544 (by decide)
  refine s_iadd (pc := 1545) ?_ dL_law_1545
  refine s_sli (pc := 1546) ?_ dL_law_1546
  refine s_aload_n (pc := 1547) (i := 0) ?_ dL_law_1547 rfl
  refine s_iload (pc := 1548) (i := 4) ?_ dL_law_1548
  refine s_iconst (pc := 1550) (v := 2) ?_ dL_law_1550 (by decide)
  refine s_iadd (pc := 1551) ?_ dL_law_1551
  refine s_sli (pc := 1552) ?_ dL_law_1552
  refine s_aload_n (pc := 1553) (i := 0) ?_ dL_law_1553 rfl
  refine s_iload (pc := 1554) (i := 4) ?_ dL_law_1554
  refine s_iconst (pc := 1556) (v := 3) ?_ dL_law_1556 (by decide)
  refine s_iadd (pc := 1557) ?_ dL_law_1557
  refine s_sli (pc := 1558) ?_ dL_law_1558
  refine s_aload_n (pc := 1559) (i := 0) ?_ dL_law_1559 rfl
  refine s_iload (pc := 1560) (i := 4) ?_ dL_law_1560
  refine s_iconst (pc := 1562) (v := 4) ?_ dL_law_1562 (by decide)
  refine s_iadd (pc := 1563) ?_ dL_law_1563
  refine s_sli (pc := 1564) ?_ dL_law_1564
  refine s_aload_n (pc := 1565) (i := 3) ?_ dL_law_1565 rfl
  refine s_csW (pc := 1566) (n := 6) ?_ tL_habit wt_1169 wt_1170 wt_0 wt_1171 ⟨crL_habit, by decide, by decide⟩ dL_law_1566
  refine s_istore (pc := 1569) (i := 5) ?_ dL_law_1569 (by decide)
  refine s_aload_n (pc := 1571) (i := 2) ?_ dL_law_1571 rfl
  refine s_aload_n (pc := 1572) (i := 0) ?_ dL_law_1572 rfl
  refine s_iload (pc := 1573) (i := 4) ?_ dL_law_1573
  refine s_iconst (pc := 1575) (v := 1) ?_ dL_law_1575 (by decide)
  refine s_iadd (pc := 1576) ?_ dL_law_1576
  refine s_sli (pc := 1577) ?_ dL_law_1577
  refine s_aload_n (pc := 1578) (i := 0) ?_ dL_law_1578 rfl
  refine s_iload (pc := 1579) (i := 4) ?_ dL_law_1579
  refine s_iconst (pc := 1581) (v := 2) ?_ dL_law_1581 (by decide)
  refine s_iadd (pc := 1582) ?_ dL_law_1582
  refine s_sli (pc := 1583) ?_ dL_law_1583
  refine s_aload_n (pc := 1584) (i := 0) ?_ dL_law_1584 rfl
  refine s_iload (pc := 1585) (i := 4) ?_ dL_law_1585
  refine s_iconst (pc := 1587) (v := 3) ?_ dL_law_1587 (by decide)
  refine s_iadd (pc := 1588) ?_ dL_law_1588
  refine s_sli (pc := 1589) ?_ dL_law_1589
  refine s_aload_n (pc := 1590) (i := 0) ?_ dL_law_1590 rfl
  refine s_iload (pc := 1591) (i := 4) ?_ dL_law_1591
  refine s_iconst (pc := 1593) (v := 4) ?_ dL_law_1593 (by decide)
  refine s_iadd (pc := 1594) ?_ dL_law_1594
  refine s_sli (pc := 1595) ?_ dL_law_1595
  refine s_cv (pc := 1596) (n := 4) (ci := 10) ?_ tX11_habit rfl rfl wt_1799 wt_1800 wt_1801 wt_17 wt_1802 ⟨crX11_habit, by decide, by decide⟩ dL_law_1596
  refine s_istore (pc := 1599) (i := 6) ?_ dL_law_1599 (by decide)
  refine s_aload_n (pc := 1601) (i := 2) ?_ dL_law_1601 rfl
  refine s_cv (pc := 1602) (n := 0) (ci := 10) ?_ tX11_thrown rfl rfl wt_1545 wt_1546 wt_1547 wt_17 wt_1548 ⟨crX11_thrown, by decide, by decide⟩ dL_law_1602
  refine s_iload (pc := 1605) (i := 5) ?_ dL_law_1605
  refine s_iceq (pc := 1607) (tgt := 1612) ?_ ?_ dL_law_1607 (by decide)
  · skip
    refine s_iload (pc := 1612) (i := 5) ?_ dL_law_1612
    refine s_ifne (pc := 1614) (tgt := 1629) ?_ ?_ dL_law_1614 (by decide)
    · skip
      exact s_fall (pc := 1629) h45
    · skip
      refine s_aload_n (pc := 1617) (i := 3) ?_ dL_law_1617 rfl
      refine s_iconst (pc := 1618) (v := 0) ?_ dL_law_1618 (by decide)
      refine s_laload (pc := 1619) ?_ dL_law_1619
      refine s_iload (pc := 1620) (i := 6) ?_ dL_law_1620
      refine s_i2l (pc := 1622) ?_ dL_law_1622
      refine s_lcmp (pc := 1623) ?_ dL_law_1623
      refine s_ifeq (pc := 1624) (tgt := 1629) ?_ ?_ dL_law_1624 (by decide)
      · skip
        exact s_fall (pc := 1629) h45
      · skip
        refine s_iconst (pc := 1627) (v := 0) ?_ dL_law_1627 (by decide)
        exact s_zreturn (pc := 1628) rfl dL_law_1628
  · skip
    refine s_iconst (pc := 1610) (v := 0) ?_ dL_law_1610 (by decide)
    exact s_zreturn (pc := 1611) rfl dL_law_1611
theorem sbL_law_45 (g : GE) (J : Nat → KT) (h1 : Snd mL_law g 23 (J 1)) (h2 : Snd mL_law g 232 (J 2)) (h3 : Snd mL_law g 305 (J 3)) (h4 : Snd mL_law g 358 (J 4)) (h5 : Snd mL_law g 361 (J 5)) (h6 : Snd mL_law g 374 (J 6)) (h7 : Snd mL_law g 427 (J 7)) (h8 : Snd mL_law g 430 (J 8)) (h9 : Snd mL_law g 495 (J 9)) (h10 : Snd mL_law g 498 (J 10)) (h11 : Snd mL_law g 563 (J 11)) (h12 : Snd mL_law g 566 (J 12)) (h13 : Snd mL_law g 579 (J 13)) (h14 : Snd mL_law g 644 (J 14)) (h15 : Snd mL_law g 647 (J 15)) (h16 : Snd mL_law g 700 (J 16)) (h17 : Snd mL_law g 703 (J 17)) (h18 : Snd mL_law g 716 (J 18)) (h19 : Snd mL_law g 793 (J 19)) (h20 : Snd mL_law g 796 (J 20)) (h21 : Snd mL_law g 861 (J 21)) (h22 : Snd mL_law g 864 (J 22)) (h23 : Snd mL_law g 929 (J 23)) (h24 : Snd mL_law g 932 (J 24)) (h25 : Snd mL_law g 998 (J 25)) (h26 : Snd mL_law g 1004 (J 26)) (h27 : Snd mL_law g 1007 (J 27)) (h28 : Snd mL_law g 1072 (J 28)) (h29 : Snd mL_law g 1075 (J 29)) (h30 : Snd mL_law g 1140 (J 30)) (h31 : Snd mL_law g 1143 (J 31)) (h32 : Snd mL_law g 1196 (J 32)) (h33 : Snd mL_law g 1199 (J 33)) (h34 : Snd mL_law g 1212 (J 34)) (h35 : Snd mL_law g 1277 (J 35)) (h36 : Snd mL_law g 1280 (J 36)) (h37 : Snd mL_law g 1345 (J 37)) (h38 : Snd mL_law g 1348 (J 38)) (h39 : Snd mL_law g 1401 (J 39)) (h40 : Snd mL_law g 1404 (J 40)) (h41 : Snd mL_law g 1457 (J 41)) (h42 : Snd mL_law g 1460 (J 42)) (h43 : Snd mL_law g 1537 (J 43)) (h44 : Snd mL_law g 1540 (J 44)) (h45 : Snd mL_law g 1629 (J 45)) (h46 : Snd mL_law g 1632 (J 46)) (h47 : Snd mL_law g 1645 (J 47)) (h48 : Snd mL_law g 1697 (J 48)) (h49 : Snd mL_law g 1700 (J 49)) (h50 : Snd mL_law g 1776 (J 50)) (h51 : Snd mL_law g 1779 (J 51)) (h52 : Snd mL_law g 1792 (J 52)) (h53 : Snd mL_law g 1845 (J 53)) (h54 : Snd mL_law g 1848 (J 54)) (h55 : Snd mL_law g 1913 (J 55)) (h56 : Snd mL_law g 1916 (J 56)) (h57 : Snd mL_law g 1969 (J 57)) (h58 : Snd mL_law g 1972 (J 58)) (h59 : Snd mL_law g 2037 (J 59)) (h60 : Snd mL_law g 2040 (J 60)) (h61 : Snd mL_law g 2093 (J 61)) (h62 : Snd mL_law g 2096 (J 62)) (h63 : Snd mL_law g 2161 (J 63)) (h64 : Snd mL_law g 2164 (J 64)) (h65 : Snd mL_law g 2217 (J 65)) (h66 : Snd mL_law g 2220 (J 66)) (h67 : Snd mL_law g 2309 (J 67)) (h68 : Snd mL_law g 2312 (J 68)) (h69 : Snd mL_law g 2389 (J 69)) (h70 : Snd mL_law g 2392 (J 70)) (h71 : Snd mL_law g 2457 (J 71)) (h72 : Snd mL_law g 2460 (J 72)) (h73 : Snd mL_law g 2513 (J 73)) (h74 : Snd mL_law g 2516 (J 74)) (h75 : Snd mL_law g 2529 (J 75)) (h76 : Snd mL_law g 2542 (J 76)) (h77 : Snd mL_law g 2555 (J 77)) (h78 : Snd mL_law g 2580 (J 78)) (h79 : Snd mL_law g 2605 (J 79)) : Snd mL_law g 1629 (bL_law_45 g J) := by
  unfold bL_law_45
  exact s_goto (pc := 1629) (tgt := 2605) h79 dL_law_1629 (by decide)
theorem sbL_law_46 (g : GE) (J : Nat → KT) (h1 : Snd mL_law g 23 (J 1)) (h2 : Snd mL_law g 232 (J 2)) (h3 : Snd mL_law g 305 (J 3)) (h4 : Snd mL_law g 358 (J 4)) (h5 : Snd mL_law g 361 (J 5)) (h6 : Snd mL_law g 374 (J 6)) (h7 : Snd mL_law g 427 (J 7)) (h8 : Snd mL_law g 430 (J 8)) (h9 : Snd mL_law g 495 (J 9)) (h10 : Snd mL_law g 498 (J 10)) (h11 : Snd mL_law g 563 (J 11)) (h12 : Snd mL_law g 566 (J 12)) (h13 : Snd mL_law g 579 (J 13)) (h14 : Snd mL_law g 644 (J 14)) (h15 : Snd mL_law g 647 (J 15)) (h16 : Snd mL_law g 700 (J 16)) (h17 : Snd mL_law g 703 (J 17)) (h18 : Snd mL_law g 716 (J 18)) (h19 : Snd mL_law g 793 (J 19)) (h20 : Snd mL_law g 796 (J 20)) (h21 : Snd mL_law g 861 (J 21)) (h22 : Snd mL_law g 864 (J 22)) (h23 : Snd mL_law g 929 (J 23)) (h24 : Snd mL_law g 932 (J 24)) (h25 : Snd mL_law g 998 (J 25)) (h26 : Snd mL_law g 1004 (J 26)) (h27 : Snd mL_law g 1007 (J 27)) (h28 : Snd mL_law g 1072 (J 28)) (h29 : Snd mL_law g 1075 (J 29)) (h30 : Snd mL_law g 1140 (J 30)) (h31 : Snd mL_law g 1143 (J 31)) (h32 : Snd mL_law g 1196 (J 32)) (h33 : Snd mL_law g 1199 (J 33)) (h34 : Snd mL_law g 1212 (J 34)) (h35 : Snd mL_law g 1277 (J 35)) (h36 : Snd mL_law g 1280 (J 36)) (h37 : Snd mL_law g 1345 (J 37)) (h38 : Snd mL_law g 1348 (J 38)) (h39 : Snd mL_law g 1401 (J 39)) (h40 : Snd mL_law g 1404 (J 40)) (h41 : Snd mL_law g 1457 (J 41)) (h42 : Snd mL_law g 1460 (J 42)) (h43 : Snd mL_law g 1537 (J 43)) (h44 : Snd mL_law g 1540 (J 44)) (h45 : Snd mL_law g 1629 (J 45)) (h46 : Snd mL_law g 1632 (J 46)) (h47 : Snd mL_law g 1645 (J 47)) (h48 : Snd mL_law g 1697 (J 48)) (h49 : Snd mL_law g 1700 (J 49)) (h50 : Snd mL_law g 1776 (J 50)) (h51 : Snd mL_law g 1779 (J 51)) (h52 : Snd mL_law g 1792 (J 52)) (h53 : Snd mL_law g 1845 (J 53)) (h54 : Snd mL_law g 1848 (J 54)) (h55 : Snd mL_law g 1913 (J 55)) (h56 : Snd mL_law g 1916 (J 56)) (h57 : Snd mL_law g 1969 (J 57)) (h58 : Snd mL_law g 1972 (J 58)) (h59 : Snd mL_law g 2037 (J 59)) (h60 : Snd mL_law g 2040 (J 60)) (h61 : Snd mL_law g 2093 (J 61)) (h62 : Snd mL_law g 2096 (J 62)) (h63 : Snd mL_law g 2161 (J 63)) (h64 : Snd mL_law g 2164 (J 64)) (h65 : Snd mL_law g 2217 (J 65)) (h66 : Snd mL_law g 2220 (J 66)) (h67 : Snd mL_law g 2309 (J 67)) (h68 : Snd mL_law g 2312 (J 68)) (h69 : Snd mL_law g 2389 (J 69)) (h70 : Snd mL_law g 2392 (J 70)) (h71 : Snd mL_law g 2457 (J 71)) (h72 : Snd mL_law g 2460 (J 72)) (h73 : Snd mL_law g 2513 (J 73)) (h74 : Snd mL_law g 2516 (J 74)) (h75 : Snd mL_law g 2529 (J 75)) (h76 : Snd mL_law g 2542 (J 76)) (h77 : Snd mL_law g 2555 (J 77)) (h78 : Snd mL_law g 2580 (J 78)) (h79 : Snd mL_law g 2605 (J 79)) : Snd mL_law g 1632 (bL_law_46 g J) := by
  unfold bL_law_46
  refine s_aload_n (pc := 1632) (i := 1) ?_ dL_law_1632 rfl
  refine s_cv (pc := 1633) (n := 0) (ci := 9) ?_ tX10_forget rfl rfl wt_548 wt_549 wt_550 wt_1 wt_551 ⟨crX10_forget, by decide, by decide⟩ dL_law_1633
  refine s_aload_n (pc := 1636) (i := 2) ?_ dL_law_1636 rfl
  refine s_cv (pc := 1637) (n := 0) (ci := 10) ?_ tX11_forget rfl rfl wt_1803 wt_1804 wt_1805 wt_17 wt_1806 ⟨crX11_forget, by decide, by decide⟩ dL_law_1637
  refine s_iceq (pc := 1640) (tgt := 2605) ?_ ?_ dL_law_1640 (by decide)
  · skip
    exact s_fall (pc := 2605) h79
  · skip
    refine s_iconst (pc := 1643) (v := 0) ?_ dL_law_1643 (by decide)
    exact s_zreturn (pc := 1644) rfl dL_law_1644
theorem sbL_law_47 (g : GE) (J : Nat → KT) (h1 : Snd mL_law g 23 (J 1)) (h2 : Snd mL_law g 232 (J 2)) (h3 : Snd mL_law g 305 (J 3)) (h4 : Snd mL_law g 358 (J 4)) (h5 : Snd mL_law g 361 (J 5)) (h6 : Snd mL_law g 374 (J 6)) (h7 : Snd mL_law g 427 (J 7)) (h8 : Snd mL_law g 430 (J 8)) (h9 : Snd mL_law g 495 (J 9)) (h10 : Snd mL_law g 498 (J 10)) (h11 : Snd mL_law g 563 (J 11)) (h12 : Snd mL_law g 566 (J 12)) (h13 : Snd mL_law g 579 (J 13)) (h14 : Snd mL_law g 644 (J 14)) (h15 : Snd mL_law g 647 (J 15)) (h16 : Snd mL_law g 700 (J 16)) (h17 : Snd mL_law g 703 (J 17)) (h18 : Snd mL_law g 716 (J 18)) (h19 : Snd mL_law g 793 (J 19)) (h20 : Snd mL_law g 796 (J 20)) (h21 : Snd mL_law g 861 (J 21)) (h22 : Snd mL_law g 864 (J 22)) (h23 : Snd mL_law g 929 (J 23)) (h24 : Snd mL_law g 932 (J 24)) (h25 : Snd mL_law g 998 (J 25)) (h26 : Snd mL_law g 1004 (J 26)) (h27 : Snd mL_law g 1007 (J 27)) (h28 : Snd mL_law g 1072 (J 28)) (h29 : Snd mL_law g 1075 (J 29)) (h30 : Snd mL_law g 1140 (J 30)) (h31 : Snd mL_law g 1143 (J 31)) (h32 : Snd mL_law g 1196 (J 32)) (h33 : Snd mL_law g 1199 (J 33)) (h34 : Snd mL_law g 1212 (J 34)) (h35 : Snd mL_law g 1277 (J 35)) (h36 : Snd mL_law g 1280 (J 36)) (h37 : Snd mL_law g 1345 (J 37)) (h38 : Snd mL_law g 1348 (J 38)) (h39 : Snd mL_law g 1401 (J 39)) (h40 : Snd mL_law g 1404 (J 40)) (h41 : Snd mL_law g 1457 (J 41)) (h42 : Snd mL_law g 1460 (J 42)) (h43 : Snd mL_law g 1537 (J 43)) (h44 : Snd mL_law g 1540 (J 44)) (h45 : Snd mL_law g 1629 (J 45)) (h46 : Snd mL_law g 1632 (J 46)) (h47 : Snd mL_law g 1645 (J 47)) (h48 : Snd mL_law g 1697 (J 48)) (h49 : Snd mL_law g 1700 (J 49)) (h50 : Snd mL_law g 1776 (J 50)) (h51 : Snd mL_law g 1779 (J 51)) (h52 : Snd mL_law g 1792 (J 52)) (h53 : Snd mL_law g 1845 (J 53)) (h54 : Snd mL_law g 1848 (J 54)) (h55 : Snd mL_law g 1913 (J 55)) (h56 : Snd mL_law g 1916 (J 56)) (h57 : Snd mL_law g 1969 (J 57)) (h58 : Snd mL_law g 1972 (J 58)) (h59 : Snd mL_law g 2037 (J 59)) (h60 : Snd mL_law g 2040 (J 60)) (h61 : Snd mL_law g 2093 (J 61)) (h62 : Snd mL_law g 2096 (J 62)) (h63 : Snd mL_law g 2161 (J 63)) (h64 : Snd mL_law g 2164 (J 64)) (h65 : Snd mL_law g 2217 (J 65)) (h66 : Snd mL_law g 2220 (J 66)) (h67 : Snd mL_law g 2309 (J 67)) (h68 : Snd mL_law g 2312 (J 68)) (h69 : Snd mL_law g 2389 (J 69)) (h70 : Snd mL_law g 2392 (J 70)) (h71 : Snd mL_law g 2457 (J 71)) (h72 : Snd mL_law g 2460 (J 72)) (h73 : Snd mL_law g 2513 (J 73)) (h74 : Snd mL_law g 2516 (J 74)) (h75 : Snd mL_law g 2529 (J 75)) (h76 : Snd mL_law g 2542 (J 76)) (h77 : Snd mL_law g 2555 (J 77)) (h78 : Snd mL_law g 2580 (J 78)) (h79 : Snd mL_law g 2605 (J 79)) : Snd mL_law g 1645 (bL_law_47 g J) := by
  unfold bL_law_47
  refine s_aload_n (pc := 1645) (i := 1) ?_ dL_law_1645 rfl
  refine s_aload_n (pc := 1646) (i := 0) ?_ dL_law_1646 rfl
  refine s_iload (pc := 1647) (i := 4) ?_ dL_law_1647
  refine s_iconst (pc := 1649) (v := 1) ?_ dL_law_1649 (by decide)
  refine s_iadd (pc := 1650) ?_ dL_law_1650
  refine s_sli (pc := 1651) ?_ dL_law_1651
  refine s_aload_n (pc := 1652) (i := 3) ?_ dL_law_1652 rfl
  refine s_csW (pc := 1653) (n := 3) ?_ tL_odds wt_1183 wt_1184 wt_0 wt_1185 ⟨crL_odds, by decide, by decide⟩ dL_law_1653
  refine s_istore (pc := 1656) (i := 5) ?_ dL_law_1656 (by decide)
  refine s_aload_n (pc := 1658) (i := 2) ?_ dL_law_1658 rfl
  refine s_aload_n (pc := 1659) (i := 0) ?_ dL_law_1659 rfl
  refine s_iload (pc := 1660) (i := 4) ?_ dL_law_1660
  refine s_iconst (pc := 1662) (v := 1) ?_ dL_law_1662 (by decide)
  refine s_iadd (pc := 1663) ?_ dL_law_1663
  refine s_sli (pc := 1664) ?_ dL_law_1664
  refine s_cv (pc := 1665) (n := 1) (ci := 10) ?_ tX11_odds rfl rfl wt_1807 wt_1808 wt_1809 wt_17 wt_1810 ⟨crX11_odds, by decide, by decide⟩ dL_law_1665
  refine s_lstore (pc := 1668) (i := 6) ?_ dL_law_1668 (by decide)
  refine s_aload_n (pc := 1670) (i := 2) ?_ dL_law_1670 rfl
  refine s_cv (pc := 1671) (n := 0) (ci := 10) ?_ tX11_thrown rfl rfl wt_1545 wt_1546 wt_1547 wt_17 wt_1548 ⟨crX11_thrown, by decide, by decide⟩ dL_law_1671
  refine s_iload (pc := 1674) (i := 5) ?_ dL_law_1674
  refine s_iceq (pc := 1676) (tgt := 1681) ?_ ?_ dL_law_1676 (by decide)
  · skip
    refine s_iload (pc := 1681) (i := 5) ?_ dL_law_1681
    refine s_ifne (pc := 1683) (tgt := 1697) ?_ ?_ dL_law_1683 (by decide)
    · skip
      exact s_fall (pc := 1697) h48
    · skip
      refine s_aload_n (pc := 1686) (i := 3) ?_ dL_law_1686 rfl
      refine s_iconst (pc := 1687) (v := 0) ?_ dL_law_1687 (by decide)
      refine s_laload (pc := 1688) ?_ dL_law_1688
      refine s_lload (pc := 1689) (i := 6) ?_ dL_law_1689
      refine s_lcmp (pc := 1691) ?_ dL_law_1691
      refine s_ifeq (pc := 1692) (tgt := 1697) ?_ ?_ dL_law_1692 (by decide)
      · skip
        exact s_fall (pc := 1697) h48
      · skip
        refine s_iconst (pc := 1695) (v := 0) ?_ dL_law_1695 (by decide)
        exact s_zreturn (pc := 1696) rfl dL_law_1696
  · skip
    refine s_iconst (pc := 1679) (v := 0) ?_ dL_law_1679 (by decide)
    exact s_zreturn (pc := 1680) rfl dL_law_1680
theorem sbL_law_48 (g : GE) (J : Nat → KT) (h1 : Snd mL_law g 23 (J 1)) (h2 : Snd mL_law g 232 (J 2)) (h3 : Snd mL_law g 305 (J 3)) (h4 : Snd mL_law g 358 (J 4)) (h5 : Snd mL_law g 361 (J 5)) (h6 : Snd mL_law g 374 (J 6)) (h7 : Snd mL_law g 427 (J 7)) (h8 : Snd mL_law g 430 (J 8)) (h9 : Snd mL_law g 495 (J 9)) (h10 : Snd mL_law g 498 (J 10)) (h11 : Snd mL_law g 563 (J 11)) (h12 : Snd mL_law g 566 (J 12)) (h13 : Snd mL_law g 579 (J 13)) (h14 : Snd mL_law g 644 (J 14)) (h15 : Snd mL_law g 647 (J 15)) (h16 : Snd mL_law g 700 (J 16)) (h17 : Snd mL_law g 703 (J 17)) (h18 : Snd mL_law g 716 (J 18)) (h19 : Snd mL_law g 793 (J 19)) (h20 : Snd mL_law g 796 (J 20)) (h21 : Snd mL_law g 861 (J 21)) (h22 : Snd mL_law g 864 (J 22)) (h23 : Snd mL_law g 929 (J 23)) (h24 : Snd mL_law g 932 (J 24)) (h25 : Snd mL_law g 998 (J 25)) (h26 : Snd mL_law g 1004 (J 26)) (h27 : Snd mL_law g 1007 (J 27)) (h28 : Snd mL_law g 1072 (J 28)) (h29 : Snd mL_law g 1075 (J 29)) (h30 : Snd mL_law g 1140 (J 30)) (h31 : Snd mL_law g 1143 (J 31)) (h32 : Snd mL_law g 1196 (J 32)) (h33 : Snd mL_law g 1199 (J 33)) (h34 : Snd mL_law g 1212 (J 34)) (h35 : Snd mL_law g 1277 (J 35)) (h36 : Snd mL_law g 1280 (J 36)) (h37 : Snd mL_law g 1345 (J 37)) (h38 : Snd mL_law g 1348 (J 38)) (h39 : Snd mL_law g 1401 (J 39)) (h40 : Snd mL_law g 1404 (J 40)) (h41 : Snd mL_law g 1457 (J 41)) (h42 : Snd mL_law g 1460 (J 42)) (h43 : Snd mL_law g 1537 (J 43)) (h44 : Snd mL_law g 1540 (J 44)) (h45 : Snd mL_law g 1629 (J 45)) (h46 : Snd mL_law g 1632 (J 46)) (h47 : Snd mL_law g 1645 (J 47)) (h48 : Snd mL_law g 1697 (J 48)) (h49 : Snd mL_law g 1700 (J 49)) (h50 : Snd mL_law g 1776 (J 50)) (h51 : Snd mL_law g 1779 (J 51)) (h52 : Snd mL_law g 1792 (J 52)) (h53 : Snd mL_law g 1845 (J 53)) (h54 : Snd mL_law g 1848 (J 54)) (h55 : Snd mL_law g 1913 (J 55)) (h56 : Snd mL_law g 1916 (J 56)) (h57 : Snd mL_law g 1969 (J 57)) (h58 : Snd mL_law g 1972 (J 58)) (h59 : Snd mL_law g 2037 (J 59)) (h60 : Snd mL_law g 2040 (J 60)) (h61 : Snd mL_law g 2093 (J 61)) (h62 : Snd mL_law g 2096 (J 62)) (h63 : Snd mL_law g 2161 (J 63)) (h64 : Snd mL_law g 2164 (J 64)) (h65 : Snd mL_law g 2217 (J 65)) (h66 : Snd mL_law g 2220 (J 66)) (h67 : Snd mL_law g 2309 (J 67)) (h68 : Snd mL_law g 2312 (J 68)) (h69 : Snd mL_law g 2389 (J 69)) (h70 : Snd mL_law g 2392 (J 70)) (h71 : Snd mL_law g 2457 (J 71)) (h72 : Snd mL_law g 2460 (J 72)) (h73 : Snd mL_law g 2513 (J 73)) (h74 : Snd mL_law g 2516 (J 74)) (h75 : Snd mL_law g 2529 (J 75)) (h76 : Snd mL_law g 2542 (J 76)) (h77 : Snd mL_law g 2555 (J 77)) (h78 : Snd mL_law g 2580 (J 78)) (h79 : Snd mL_law g 2605 (J 79)) : Snd mL_law g 1697 (bL_law_48 g J) := by
  unfold bL_law_48
  exact s_goto (pc := 1697) (tgt := 2605) h79 dL_law_1697 (by decide)
theorem sbL_law_49 (g : GE) (J : Nat → KT) (h1 : Snd mL_law g 23 (J 1)) (h2 : Snd mL_law g 232 (J 2)) (h3 : Snd mL_law g 305 (J 3)) (h4 : Snd mL_law g 358 (J 4)) (h5 : Snd mL_law g 361 (J 5)) (h6 : Snd mL_law g 374 (J 6)) (h7 : Snd mL_law g 427 (J 7)) (h8 : Snd mL_law g 430 (J 8)) (h9 : Snd mL_law g 495 (J 9)) (h10 : Snd mL_law g 498 (J 10)) (h11 : Snd mL_law g 563 (J 11)) (h12 : Snd mL_law g 566 (J 12)) (h13 : Snd mL_law g 579 (J 13)) (h14 : Snd mL_law g 644 (J 14)) (h15 : Snd mL_law g 647 (J 15)) (h16 : Snd mL_law g 700 (J 16)) (h17 : Snd mL_law g 703 (J 17)) (h18 : Snd mL_law g 716 (J 18)) (h19 : Snd mL_law g 793 (J 19)) (h20 : Snd mL_law g 796 (J 20)) (h21 : Snd mL_law g 861 (J 21)) (h22 : Snd mL_law g 864 (J 22)) (h23 : Snd mL_law g 929 (J 23)) (h24 : Snd mL_law g 932 (J 24)) (h25 : Snd mL_law g 998 (J 25)) (h26 : Snd mL_law g 1004 (J 26)) (h27 : Snd mL_law g 1007 (J 27)) (h28 : Snd mL_law g 1072 (J 28)) (h29 : Snd mL_law g 1075 (J 29)) (h30 : Snd mL_law g 1140 (J 30)) (h31 : Snd mL_law g 1143 (J 31)) (h32 : Snd mL_law g 1196 (J 32)) (h33 : Snd mL_law g 1199 (J 33)) (h34 : Snd mL_law g 1212 (J 34)) (h35 : Snd mL_law g 1277 (J 35)) (h36 : Snd mL_law g 1280 (J 36)) (h37 : Snd mL_law g 1345 (J 37)) (h38 : Snd mL_law g 1348 (J 38)) (h39 : Snd mL_law g 1401 (J 39)) (h40 : Snd mL_law g 1404 (J 40)) (h41 : Snd mL_law g 1457 (J 41)) (h42 : Snd mL_law g 1460 (J 42)) (h43 : Snd mL_law g 1537 (J 43)) (h44 : Snd mL_law g 1540 (J 44)) (h45 : Snd mL_law g 1629 (J 45)) (h46 : Snd mL_law g 1632 (J 46)) (h47 : Snd mL_law g 1645 (J 47)) (h48 : Snd mL_law g 1697 (J 48)) (h49 : Snd mL_law g 1700 (J 49)) (h50 : Snd mL_law g 1776 (J 50)) (h51 : Snd mL_law g 1779 (J 51)) (h52 : Snd mL_law g 1792 (J 52)) (h53 : Snd mL_law g 1845 (J 53)) (h54 : Snd mL_law g 1848 (J 54)) (h55 : Snd mL_law g 1913 (J 55)) (h56 : Snd mL_law g 1916 (J 56)) (h57 : Snd mL_law g 1969 (J 57)) (h58 : Snd mL_law g 1972 (J 58)) (h59 : Snd mL_law g 2037 (J 59)) (h60 : Snd mL_law g 2040 (J 60)) (h61 : Snd mL_law g 2093 (J 61)) (h62 : Snd mL_law g 2096 (J 62)) (h63 : Snd mL_law g 2161 (J 63)) (h64 : Snd mL_law g 2164 (J 64)) (h65 : Snd mL_law g 2217 (J 65)) (h66 : Snd mL_law g 2220 (J 66)) (h67 : Snd mL_law g 2309 (J 67)) (h68 : Snd mL_law g 2312 (J 68)) (h69 : Snd mL_law g 2389 (J 69)) (h70 : Snd mL_law g 2392 (J 70)) (h71 : Snd mL_law g 2457 (J 71)) (h72 : Snd mL_law g 2460 (J 72)) (h73 : Snd mL_law g 2513 (J 73)) (h74 : Snd mL_law g 2516 (J 74)) (h75 : Snd mL_law g 2529 (J 75)) (h76 : Snd mL_law g 2542 (J 76)) (h77 : Snd mL_law g 2555 (J 77)) (h78 : Snd mL_law g 2580 (J 78)) (h79 : Snd mL_law g 2605 (J 79)) : Snd mL_law g 1700 (bL_law_49 g J) := by
  unfold bL_law_49
  refine s_aload_n (pc := 1700) (i := 1) ?_ dL_law_1700 rfl
  refine s_aload_n (pc := 1701) (i := 0) ?_ dL_law_1701 rfl
  refine s_iload (pc := 1702) (i := 4) ?_ dL_law_1702
  refine s_iconst (pc := 1704) (v := 1) ?_ dL_law_1704 (by decide)
  refine s_iadd (pc := 1705) ?_ dL_law_1705
  refine s_sli (pc := 1706) ?_ dL_law_1706
  refine s_aload_n (pc := 1707) (i := 0) ?_ dL_law_1707 rfl
  refine s_iload (pc := 1708) (i := 4) ?_ dL_law_1708
  refine s_iconst (pc := 1710) (v := 2) ?_ dL_law_1710 (by decide)
  refine s_iadd (pc := 1711) ?_ dL_law_1711
  refine s_sli (pc := 1712) ?_ dL_law_1712
  refine s_aload_n (pc := 1713) (i := 0) ?_ dL_law_1713 rfl
  refine s_iload (pc := 1714) (i := 4) ?_ dL_law_1714
  refine s_iconst (pc := 1716) (v := 3) ?_ dL_law_1716 (by decide)
  refine s_iadd (pc := 1717) ?_ dL_law_1717
  refine s_sli (pc := 1718) ?_ dL_law_1718
  refine s_aload_n (pc := 1719) (i := 3) ?_ dL_law_1719 rfl
  refine s_csW (pc := 1720) (n := 5) ?_ tL_likely wt_1190 wt_1191 wt_0 wt_1192 ⟨crL_likely, by decide, by decide⟩ dL_law_1720
  refine s_istore (pc := 1723) (i := 5) ?_ dL_law_1723 (by decide)
  refine s_aload_n (pc := 1725) (i := 2) ?_ dL_law_1725 rfl
  refine s_aload_n (pc := 1726) (i := 0) ?_ dL_law_1726 rfl
  refine s_iload (pc := 1727) (i := 4) ?_ dL_law_1727
  refine s_iconst (pc := 1729) (v := 1) ?_ dL_law_1729 (by decide)
  refine s_iadd (pc := 1730) ?_ dL_law_1730
  refine s_sli (pc := 1731) ?_ dL_law_1731
  refine s_aload_n (pc := 1732) (i := 0) ?_ dL_law_1732 rfl
  refine s_iload (pc := 1733) (i := 4) ?_ dL_law_1733
  refine s_iconst (pc := 1735) (v := 2) ?_ dL_law_1735 (by decide)
  refine s_iadd (pc := 1736) ?_ dL_law_1736
  refine s_sli (pc := 1737) ?_ dL_law_1737
  refine s_aload_n (pc := 1738) (i := 0) ?_ dL_law_1738 rfl
  refine s_iload (pc := 1739) (i := 4) ?_ dL_law_1739
  refine s_iconst (pc := 1741) (v := 3) ?_ dL_law_1741 (by decide)
  refine s_iadd (pc := 1742) ?_ dL_law_1742
  refine s_sli (pc := 1743) ?_ dL_law_1743
  refine s_cv (pc := 1744) (n := 3) (ci := 10) ?_ tX11_likely rfl rfl wt_1819 wt_1820 wt_1821 wt_17 wt_1822 ⟨crX11_likely, by decide, by decide⟩ dL_law_1744
  refine s_lstore (pc := 1747) (i := 6) ?_ dL_law_1747 (by decide)
  refine s_aload_n (pc := 1749) (i := 2) ?_ dL_law_1749 rfl
  refine s_cv (pc := 1750) (n := 0) (ci := 10) ?_ tX11_thrown rfl rfl wt_1545 wt_1546 wt_1547 wt_17 wt_1548 ⟨crX11_thrown, by decide, by decide⟩ dL_law_1750
  refine s_iload (pc := 1753) (i := 5) ?_ dL_law_1753
  refine s_iceq (pc := 1755) (tgt := 1760) ?_ ?_ dL_law_1755 (by decide)
  · skip
    refine s_iload (pc := 1760) (i := 5) ?_ dL_law_1760
    refine s_ifne (pc := 1762) (tgt := 1776) ?_ ?_ dL_law_1762 (by decide)
    · skip
      exact s_fall (pc := 1776) h50
    · skip
      refine s_aload_n (pc := 1765) (i := 3) ?_ dL_law_1765 rfl
      refine s_iconst (pc := 1766) (v := 0) ?_ dL_law_1766 (by decide)
      refine s_laload (pc := 1767) ?_ dL_law_1767
      refine s_lload (pc := 1768) (i := 6) ?_ dL_law_1768
      refine s_lcmp (pc := 1770) ?_ dL_law_1770
      refine s_ifeq (pc := 1771) (tgt := 1776) ?_ ?_ dL_law_1771 (by decide)
      · skip
        exact s_fall (pc := 1776) h50
      · skip
        refine s_iconst (pc := 1774) (v := 0) ?_ dL_law_1774 (by decide)
        exact s_zreturn (pc := 1775) rfl dL_law_1775
  · skip
    refine s_iconst (pc := 1758) (v := 0) ?_ dL_law_1758 (by decide)
    exact s_zreturn (pc := 1759) rfl dL_law_1759
theorem sbL_law_50 (g : GE) (J : Nat → KT) (h1 : Snd mL_law g 23 (J 1)) (h2 : Snd mL_law g 232 (J 2)) (h3 : Snd mL_law g 305 (J 3)) (h4 : Snd mL_law g 358 (J 4)) (h5 : Snd mL_law g 361 (J 5)) (h6 : Snd mL_law g 374 (J 6)) (h7 : Snd mL_law g 427 (J 7)) (h8 : Snd mL_law g 430 (J 8)) (h9 : Snd mL_law g 495 (J 9)) (h10 : Snd mL_law g 498 (J 10)) (h11 : Snd mL_law g 563 (J 11)) (h12 : Snd mL_law g 566 (J 12)) (h13 : Snd mL_law g 579 (J 13)) (h14 : Snd mL_law g 644 (J 14)) (h15 : Snd mL_law g 647 (J 15)) (h16 : Snd mL_law g 700 (J 16)) (h17 : Snd mL_law g 703 (J 17)) (h18 : Snd mL_law g 716 (J 18)) (h19 : Snd mL_law g 793 (J 19)) (h20 : Snd mL_law g 796 (J 20)) (h21 : Snd mL_law g 861 (J 21)) (h22 : Snd mL_law g 864 (J 22)) (h23 : Snd mL_law g 929 (J 23)) (h24 : Snd mL_law g 932 (J 24)) (h25 : Snd mL_law g 998 (J 25)) (h26 : Snd mL_law g 1004 (J 26)) (h27 : Snd mL_law g 1007 (J 27)) (h28 : Snd mL_law g 1072 (J 28)) (h29 : Snd mL_law g 1075 (J 29)) (h30 : Snd mL_law g 1140 (J 30)) (h31 : Snd mL_law g 1143 (J 31)) (h32 : Snd mL_law g 1196 (J 32)) (h33 : Snd mL_law g 1199 (J 33)) (h34 : Snd mL_law g 1212 (J 34)) (h35 : Snd mL_law g 1277 (J 35)) (h36 : Snd mL_law g 1280 (J 36)) (h37 : Snd mL_law g 1345 (J 37)) (h38 : Snd mL_law g 1348 (J 38)) (h39 : Snd mL_law g 1401 (J 39)) (h40 : Snd mL_law g 1404 (J 40)) (h41 : Snd mL_law g 1457 (J 41)) (h42 : Snd mL_law g 1460 (J 42)) (h43 : Snd mL_law g 1537 (J 43)) (h44 : Snd mL_law g 1540 (J 44)) (h45 : Snd mL_law g 1629 (J 45)) (h46 : Snd mL_law g 1632 (J 46)) (h47 : Snd mL_law g 1645 (J 47)) (h48 : Snd mL_law g 1697 (J 48)) (h49 : Snd mL_law g 1700 (J 49)) (h50 : Snd mL_law g 1776 (J 50)) (h51 : Snd mL_law g 1779 (J 51)) (h52 : Snd mL_law g 1792 (J 52)) (h53 : Snd mL_law g 1845 (J 53)) (h54 : Snd mL_law g 1848 (J 54)) (h55 : Snd mL_law g 1913 (J 55)) (h56 : Snd mL_law g 1916 (J 56)) (h57 : Snd mL_law g 1969 (J 57)) (h58 : Snd mL_law g 1972 (J 58)) (h59 : Snd mL_law g 2037 (J 59)) (h60 : Snd mL_law g 2040 (J 60)) (h61 : Snd mL_law g 2093 (J 61)) (h62 : Snd mL_law g 2096 (J 62)) (h63 : Snd mL_law g 2161 (J 63)) (h64 : Snd mL_law g 2164 (J 64)) (h65 : Snd mL_law g 2217 (J 65)) (h66 : Snd mL_law g 2220 (J 66)) (h67 : Snd mL_law g 2309 (J 67)) (h68 : Snd mL_law g 2312 (J 68)) (h69 : Snd mL_law g 2389 (J 69)) (h70 : Snd mL_law g 2392 (J 70)) (h71 : Snd mL_law g 2457 (J 71)) (h72 : Snd mL_law g 2460 (J 72)) (h73 : Snd mL_law g 2513 (J 73)) (h74 : Snd mL_law g 2516 (J 74)) (h75 : Snd mL_law g 2529 (J 75)) (h76 : Snd mL_law g 2542 (J 76)) (h77 : Snd mL_law g 2555 (J 77)) (h78 : Snd mL_law g 2580 (J 78)) (h79 : Snd mL_law g 2605 (J 79)) : Snd mL_law g 1776 (bL_law_50 g J) := by
  unfold bL_law_50
  exact s_goto (pc := 1776) (tgt := 2605) h79 dL_law_1776 (by decide)
theorem sbL_law_51 (g : GE) (J : Nat → KT) (h1 : Snd mL_law g 23 (J 1)) (h2 : Snd mL_law g 232 (J 2)) (h3 : Snd mL_law g 305 (J 3)) (h4 : Snd mL_law g 358 (J 4)) (h5 : Snd mL_law g 361 (J 5)) (h6 : Snd mL_law g 374 (J 6)) (h7 : Snd mL_law g 427 (J 7)) (h8 : Snd mL_law g 430 (J 8)) (h9 : Snd mL_law g 495 (J 9)) (h10 : Snd mL_law g 498 (J 10)) (h11 : Snd mL_law g 563 (J 11)) (h12 : Snd mL_law g 566 (J 12)) (h13 : Snd mL_law g 579 (J 13)) (h14 : Snd mL_law g 644 (J 14)) (h15 : Snd mL_law g 647 (J 15)) (h16 : Snd mL_law g 700 (J 16)) (h17 : Snd mL_law g 703 (J 17)) (h18 : Snd mL_law g 716 (J 18)) (h19 : Snd mL_law g 793 (J 19)) (h20 : Snd mL_law g 796 (J 20)) (h21 : Snd mL_law g 861 (J 21)) (h22 : Snd mL_law g 864 (J 22)) (h23 : Snd mL_law g 929 (J 23)) (h24 : Snd mL_law g 932 (J 24)) (h25 : Snd mL_law g 998 (J 25)) (h26 : Snd mL_law g 1004 (J 26)) (h27 : Snd mL_law g 1007 (J 27)) (h28 : Snd mL_law g 1072 (J 28)) (h29 : Snd mL_law g 1075 (J 29)) (h30 : Snd mL_law g 1140 (J 30)) (h31 : Snd mL_law g 1143 (J 31)) (h32 : Snd mL_law g 1196 (J 32)) (h33 : Snd mL_law g 1199 (J 33)) (h34 : Snd mL_law g 1212 (J 34)) (h35 : Snd mL_law g 1277 (J 35)) (h36 : Snd mL_law g 1280 (J 36)) (h37 : Snd mL_law g 1345 (J 37)) (h38 : Snd mL_law g 1348 (J 38)) (h39 : Snd mL_law g 1401 (J 39)) (h40 : Snd mL_law g 1404 (J 40)) (h41 : Snd mL_law g 1457 (J 41)) (h42 : Snd mL_law g 1460 (J 42)) (h43 : Snd mL_law g 1537 (J 43)) (h44 : Snd mL_law g 1540 (J 44)) (h45 : Snd mL_law g 1629 (J 45)) (h46 : Snd mL_law g 1632 (J 46)) (h47 : Snd mL_law g 1645 (J 47)) (h48 : Snd mL_law g 1697 (J 48)) (h49 : Snd mL_law g 1700 (J 49)) (h50 : Snd mL_law g 1776 (J 50)) (h51 : Snd mL_law g 1779 (J 51)) (h52 : Snd mL_law g 1792 (J 52)) (h53 : Snd mL_law g 1845 (J 53)) (h54 : Snd mL_law g 1848 (J 54)) (h55 : Snd mL_law g 1913 (J 55)) (h56 : Snd mL_law g 1916 (J 56)) (h57 : Snd mL_law g 1969 (J 57)) (h58 : Snd mL_law g 1972 (J 58)) (h59 : Snd mL_law g 2037 (J 59)) (h60 : Snd mL_law g 2040 (J 60)) (h61 : Snd mL_law g 2093 (J 61)) (h62 : Snd mL_law g 2096 (J 62)) (h63 : Snd mL_law g 2161 (J 63)) (h64 : Snd mL_law g 2164 (J 64)) (h65 : Snd mL_law g 2217 (J 65)) (h66 : Snd mL_law g 2220 (J 66)) (h67 : Snd mL_law g 2309 (J 67)) (h68 : Snd mL_law g 2312 (J 68)) (h69 : Snd mL_law g 2389 (J 69)) (h70 : Snd mL_law g 2392 (J 70)) (h71 : Snd mL_law g 2457 (J 71)) (h72 : Snd mL_law g 2460 (J 72)) (h73 : Snd mL_law g 2513 (J 73)) (h74 : Snd mL_law g 2516 (J 74)) (h75 : Snd mL_law g 2529 (J 75)) (h76 : Snd mL_law g 2542 (J 76)) (h77 : Snd mL_law g 2555 (J 77)) (h78 : Snd mL_law g 2580 (J 78)) (h79 : Snd mL_law g 2605 (J 79)) : Snd mL_law g 1779 (bL_law_51 g J) := by
  unfold bL_law_51
  refine s_aload_n (pc := 1779) (i := 1) ?_ dL_law_1779 rfl
  refine s_cv (pc := 1780) (n := 0) (ci := 9) ?_ tX10_likeliest rfl rfl wt_556 wt_557 wt_558 wt_1 wt_559 ⟨crX10_likeliest, by decide, by decide⟩ dL_law_1780
  refine s_aload_n (pc := 1783) (i := 2) ?_ dL_law_1783 rfl
  refine s_cv (pc := 1784) (n := 0) (ci := 10) ?_ tX11_likeliest rfl rfl wt_1823 wt_1824 wt_1825 wt_17 wt_1826 ⟨crX11_likeliest, by decide, by decide⟩ dL_law_1784
  refine s_iceq (pc := 1787) (tgt := 2605) ?_ ?_ dL_law_1787 (by decide)
  · skip
    exact s_fall (pc := 2605) h79
  · skip
    refine s_iconst (pc := 1790) (v := 0) ?_ dL_law_1790 (by decide)
    exact s_zreturn (pc := 1791) rfl dL_law_1791
theorem sbL_law_52 (g : GE) (J : Nat → KT) (h1 : Snd mL_law g 23 (J 1)) (h2 : Snd mL_law g 232 (J 2)) (h3 : Snd mL_law g 305 (J 3)) (h4 : Snd mL_law g 358 (J 4)) (h5 : Snd mL_law g 361 (J 5)) (h6 : Snd mL_law g 374 (J 6)) (h7 : Snd mL_law g 427 (J 7)) (h8 : Snd mL_law g 430 (J 8)) (h9 : Snd mL_law g 495 (J 9)) (h10 : Snd mL_law g 498 (J 10)) (h11 : Snd mL_law g 563 (J 11)) (h12 : Snd mL_law g 566 (J 12)) (h13 : Snd mL_law g 579 (J 13)) (h14 : Snd mL_law g 644 (J 14)) (h15 : Snd mL_law g 647 (J 15)) (h16 : Snd mL_law g 700 (J 16)) (h17 : Snd mL_law g 703 (J 17)) (h18 : Snd mL_law g 716 (J 18)) (h19 : Snd mL_law g 793 (J 19)) (h20 : Snd mL_law g 796 (J 20)) (h21 : Snd mL_law g 861 (J 21)) (h22 : Snd mL_law g 864 (J 22)) (h23 : Snd mL_law g 929 (J 23)) (h24 : Snd mL_law g 932 (J 24)) (h25 : Snd mL_law g 998 (J 25)) (h26 : Snd mL_law g 1004 (J 26)) (h27 : Snd mL_law g 1007 (J 27)) (h28 : Snd mL_law g 1072 (J 28)) (h29 : Snd mL_law g 1075 (J 29)) (h30 : Snd mL_law g 1140 (J 30)) (h31 : Snd mL_law g 1143 (J 31)) (h32 : Snd mL_law g 1196 (J 32)) (h33 : Snd mL_law g 1199 (J 33)) (h34 : Snd mL_law g 1212 (J 34)) (h35 : Snd mL_law g 1277 (J 35)) (h36 : Snd mL_law g 1280 (J 36)) (h37 : Snd mL_law g 1345 (J 37)) (h38 : Snd mL_law g 1348 (J 38)) (h39 : Snd mL_law g 1401 (J 39)) (h40 : Snd mL_law g 1404 (J 40)) (h41 : Snd mL_law g 1457 (J 41)) (h42 : Snd mL_law g 1460 (J 42)) (h43 : Snd mL_law g 1537 (J 43)) (h44 : Snd mL_law g 1540 (J 44)) (h45 : Snd mL_law g 1629 (J 45)) (h46 : Snd mL_law g 1632 (J 46)) (h47 : Snd mL_law g 1645 (J 47)) (h48 : Snd mL_law g 1697 (J 48)) (h49 : Snd mL_law g 1700 (J 49)) (h50 : Snd mL_law g 1776 (J 50)) (h51 : Snd mL_law g 1779 (J 51)) (h52 : Snd mL_law g 1792 (J 52)) (h53 : Snd mL_law g 1845 (J 53)) (h54 : Snd mL_law g 1848 (J 54)) (h55 : Snd mL_law g 1913 (J 55)) (h56 : Snd mL_law g 1916 (J 56)) (h57 : Snd mL_law g 1969 (J 57)) (h58 : Snd mL_law g 1972 (J 58)) (h59 : Snd mL_law g 2037 (J 59)) (h60 : Snd mL_law g 2040 (J 60)) (h61 : Snd mL_law g 2093 (J 61)) (h62 : Snd mL_law g 2096 (J 62)) (h63 : Snd mL_law g 2161 (J 63)) (h64 : Snd mL_law g 2164 (J 64)) (h65 : Snd mL_law g 2217 (J 65)) (h66 : Snd mL_law g 2220 (J 66)) (h67 : Snd mL_law g 2309 (J 67)) (h68 : Snd mL_law g 2312 (J 68)) (h69 : Snd mL_law g 2389 (J 69)) (h70 : Snd mL_law g 2392 (J 70)) (h71 : Snd mL_law g 2457 (J 71)) (h72 : Snd mL_law g 2460 (J 72)) (h73 : Snd mL_law g 2513 (J 73)) (h74 : Snd mL_law g 2516 (J 74)) (h75 : Snd mL_law g 2529 (J 75)) (h76 : Snd mL_law g 2542 (J 76)) (h77 : Snd mL_law g 2555 (J 77)) (h78 : Snd mL_law g 2580 (J 78)) (h79 : Snd mL_law g 2605 (J 79)) : Snd mL_law g 1792 (bL_law_52 g J) := by
  unfold bL_law_52
  refine s_aload_n (pc := 1792) (i := 1) ?_ dL_law_1792 rfl
  refine s_aload_n (pc := 1793) (i := 0) ?_ dL_law_1793 rfl
  refine s_iload (pc := 1794) (i := 4) ?_ dL_law_1794
  refine s_iconst (pc := 1796) (v := 1) ?_ dL_law_1796 (by decide)
  refine s_iadd (pc := 1797) ?_ dL_law_1797
  refine s_sli (pc := 1798) ?_ dL_law_1798
  refine s_aload_n (pc := 1799) (i := 3) ?_ dL_law_1799 rfl
  refine s_csW (pc := 1800) (n := 3) ?_ tL_slips wt_1200 wt_1201 wt_0 wt_1202 ⟨crL_slips, by decide, by decide⟩ dL_law_1800
  refine s_istore (pc := 1803) (i := 5) ?_ dL_law_1803 (by decide)
  refine s_aload_n (pc := 1805) (i := 2) ?_ dL_law_1805 rfl
  refine s_aload_n (pc := 1806) (i := 0) ?_ dL_law_1806 rfl
  refine s_iload (pc := 1807) (i := 4) ?_ dL_law_1807
  refine s_iconst (pc := 1809) (v := 1) ?_ dL_law_1809 (by decide)
  refine s_iadd (pc := 1810) ?_ dL_law_1810
  refine s_sli (pc := 1811) ?_ dL_law_1811
  refine s_cv (pc := 1812) (n := 1) (ci := 10) ?_ tX11_slips rfl rfl wt_1827 wt_1828 wt_1829 wt_17 wt_1830 ⟨crX11_slips, by decide, by decide⟩ dL_law_1812
  refine s_istore (pc := 1815) (i := 6) ?_ dL_law_1815 (by decide)
  refine s_aload_n (pc := 1817) (i := 2) ?_ dL_law_1817 rfl
  refine s_cv (pc := 1818) (n := 0) (ci := 10) ?_ tX11_thrown rfl rfl wt_1545 wt_1546 wt_1547 wt_17 wt_1548 ⟨crX11_thrown, by decide, by decide⟩ dL_law_1818
  refine s_iload (pc := 1821) (i := 5) ?_ dL_law_1821
  refine s_iceq (pc := 1823) (tgt := 1828) ?_ ?_ dL_law_1823 (by decide)
  · skip
    refine s_iload (pc := 1828) (i := 5) ?_ dL_law_1828
    refine s_ifne (pc := 1830) (tgt := 1845) ?_ ?_ dL_law_1830 (by decide)
    · skip
      exact s_fall (pc := 1845) h53
    · skip
      refine s_aload_n (pc := 1833) (i := 3) ?_ dL_law_1833 rfl
      refine s_iconst (pc := 1834) (v := 0) ?_ dL_law_1834 (by decide)
      refine s_laload (pc := 1835) ?_ dL_law_1835
      refine s_iload (pc := 1836) (i := 6) ?_ dL_law_1836
      refine s_i2l (pc := 1838) ?_ dL_law_1838
      refine s_lcmp (pc := 1839) ?_ dL_law_1839
      refine s_ifeq (pc := 1840) (tgt := 1845) ?_ ?_ dL_law_1840 (by decide)
      · skip
        exact s_fall (pc := 1845) h53
      · skip
        refine s_iconst (pc := 1843) (v := 0) ?_ dL_law_1843 (by decide)
        exact s_zreturn (pc := 1844) rfl dL_law_1844
  · skip
    refine s_iconst (pc := 1826) (v := 0) ?_ dL_law_1826 (by decide)
    exact s_zreturn (pc := 1827) rfl dL_law_1827
theorem sbL_law_53 (g : GE) (J : Nat → KT) (h1 : Snd mL_law g 23 (J 1)) (h2 : Snd mL_law g 232 (J 2)) (h3 : Snd mL_law g 305 (J 3)) (h4 : Snd mL_law g 358 (J 4)) (h5 : Snd mL_law g 361 (J 5)) (h6 : Snd mL_law g 374 (J 6)) (h7 : Snd mL_law g 427 (J 7)) (h8 : Snd mL_law g 430 (J 8)) (h9 : Snd mL_law g 495 (J 9)) (h10 : Snd mL_law g 498 (J 10)) (h11 : Snd mL_law g 563 (J 11)) (h12 : Snd mL_law g 566 (J 12)) (h13 : Snd mL_law g 579 (J 13)) (h14 : Snd mL_law g 644 (J 14)) (h15 : Snd mL_law g 647 (J 15)) (h16 : Snd mL_law g 700 (J 16)) (h17 : Snd mL_law g 703 (J 17)) (h18 : Snd mL_law g 716 (J 18)) (h19 : Snd mL_law g 793 (J 19)) (h20 : Snd mL_law g 796 (J 20)) (h21 : Snd mL_law g 861 (J 21)) (h22 : Snd mL_law g 864 (J 22)) (h23 : Snd mL_law g 929 (J 23)) (h24 : Snd mL_law g 932 (J 24)) (h25 : Snd mL_law g 998 (J 25)) (h26 : Snd mL_law g 1004 (J 26)) (h27 : Snd mL_law g 1007 (J 27)) (h28 : Snd mL_law g 1072 (J 28)) (h29 : Snd mL_law g 1075 (J 29)) (h30 : Snd mL_law g 1140 (J 30)) (h31 : Snd mL_law g 1143 (J 31)) (h32 : Snd mL_law g 1196 (J 32)) (h33 : Snd mL_law g 1199 (J 33)) (h34 : Snd mL_law g 1212 (J 34)) (h35 : Snd mL_law g 1277 (J 35)) (h36 : Snd mL_law g 1280 (J 36)) (h37 : Snd mL_law g 1345 (J 37)) (h38 : Snd mL_law g 1348 (J 38)) (h39 : Snd mL_law g 1401 (J 39)) (h40 : Snd mL_law g 1404 (J 40)) (h41 : Snd mL_law g 1457 (J 41)) (h42 : Snd mL_law g 1460 (J 42)) (h43 : Snd mL_law g 1537 (J 43)) (h44 : Snd mL_law g 1540 (J 44)) (h45 : Snd mL_law g 1629 (J 45)) (h46 : Snd mL_law g 1632 (J 46)) (h47 : Snd mL_law g 1645 (J 47)) (h48 : Snd mL_law g 1697 (J 48)) (h49 : Snd mL_law g 1700 (J 49)) (h50 : Snd mL_law g 1776 (J 50)) (h51 : Snd mL_law g 1779 (J 51)) (h52 : Snd mL_law g 1792 (J 52)) (h53 : Snd mL_law g 1845 (J 53)) (h54 : Snd mL_law g 1848 (J 54)) (h55 : Snd mL_law g 1913 (J 55)) (h56 : Snd mL_law g 1916 (J 56)) (h57 : Snd mL_law g 1969 (J 57)) (h58 : Snd mL_law g 1972 (J 58)) (h59 : Snd mL_law g 2037 (J 59)) (h60 : Snd mL_law g 2040 (J 60)) (h61 : Snd mL_law g 2093 (J 61)) (h62 : Snd mL_law g 2096 (J 62)) (h63 : Snd mL_law g 2161 (J 63)) (h64 : Snd mL_law g 2164 (J 64)) (h65 : Snd mL_law g 2217 (J 65)) (h66 : Snd mL_law g 2220 (J 66)) (h67 : Snd mL_law g 2309 (J 67)) (h68 : Snd mL_law g 2312 (J 68)) (h69 : Snd mL_law g 2389 (J 69)) (h70 : Snd mL_law g 2392 (J 70)) (h71 : Snd mL_law g 2457 (J 71)) (h72 : Snd mL_law g 2460 (J 72)) (h73 : Snd mL_law g 2513 (J 73)) (h74 : Snd mL_law g 2516 (J 74)) (h75 : Snd mL_law g 2529 (J 75)) (h76 : Snd mL_law g 2542 (J 76)) (h77 : Snd mL_law g 2555 (J 77)) (h78 : Snd mL_law g 2580 (J 78)) (h79 : Snd mL_law g 2605 (J 79)) : Snd mL_law g 1845 (bL_law_53 g J) := by
  unfold bL_law_53
  exact s_goto (pc := 1845) (tgt := 2605) h79 dL_law_1845 (by decide)
theorem sbL_law_54 (g : GE) (J : Nat → KT) (h1 : Snd mL_law g 23 (J 1)) (h2 : Snd mL_law g 232 (J 2)) (h3 : Snd mL_law g 305 (J 3)) (h4 : Snd mL_law g 358 (J 4)) (h5 : Snd mL_law g 361 (J 5)) (h6 : Snd mL_law g 374 (J 6)) (h7 : Snd mL_law g 427 (J 7)) (h8 : Snd mL_law g 430 (J 8)) (h9 : Snd mL_law g 495 (J 9)) (h10 : Snd mL_law g 498 (J 10)) (h11 : Snd mL_law g 563 (J 11)) (h12 : Snd mL_law g 566 (J 12)) (h13 : Snd mL_law g 579 (J 13)) (h14 : Snd mL_law g 644 (J 14)) (h15 : Snd mL_law g 647 (J 15)) (h16 : Snd mL_law g 700 (J 16)) (h17 : Snd mL_law g 703 (J 17)) (h18 : Snd mL_law g 716 (J 18)) (h19 : Snd mL_law g 793 (J 19)) (h20 : Snd mL_law g 796 (J 20)) (h21 : Snd mL_law g 861 (J 21)) (h22 : Snd mL_law g 864 (J 22)) (h23 : Snd mL_law g 929 (J 23)) (h24 : Snd mL_law g 932 (J 24)) (h25 : Snd mL_law g 998 (J 25)) (h26 : Snd mL_law g 1004 (J 26)) (h27 : Snd mL_law g 1007 (J 27)) (h28 : Snd mL_law g 1072 (J 28)) (h29 : Snd mL_law g 1075 (J 29)) (h30 : Snd mL_law g 1140 (J 30)) (h31 : Snd mL_law g 1143 (J 31)) (h32 : Snd mL_law g 1196 (J 32)) (h33 : Snd mL_law g 1199 (J 33)) (h34 : Snd mL_law g 1212 (J 34)) (h35 : Snd mL_law g 1277 (J 35)) (h36 : Snd mL_law g 1280 (J 36)) (h37 : Snd mL_law g 1345 (J 37)) (h38 : Snd mL_law g 1348 (J 38)) (h39 : Snd mL_law g 1401 (J 39)) (h40 : Snd mL_law g 1404 (J 40)) (h41 : Snd mL_law g 1457 (J 41)) (h42 : Snd mL_law g 1460 (J 42)) (h43 : Snd mL_law g 1537 (J 43)) (h44 : Snd mL_law g 1540 (J 44)) (h45 : Snd mL_law g 1629 (J 45)) (h46 : Snd mL_law g 1632 (J 46)) (h47 : Snd mL_law g 1645 (J 47)) (h48 : Snd mL_law g 1697 (J 48)) (h49 : Snd mL_law g 1700 (J 49)) (h50 : Snd mL_law g 1776 (J 50)) (h51 : Snd mL_law g 1779 (J 51)) (h52 : Snd mL_law g 1792 (J 52)) (h53 : Snd mL_law g 1845 (J 53)) (h54 : Snd mL_law g 1848 (J 54)) (h55 : Snd mL_law g 1913 (J 55)) (h56 : Snd mL_law g 1916 (J 56)) (h57 : Snd mL_law g 1969 (J 57)) (h58 : Snd mL_law g 1972 (J 58)) (h59 : Snd mL_law g 2037 (J 59)) (h60 : Snd mL_law g 2040 (J 60)) (h61 : Snd mL_law g 2093 (J 61)) (h62 : Snd mL_law g 2096 (J 62)) (h63 : Snd mL_law g 2161 (J 63)) (h64 : Snd mL_law g 2164 (J 64)) (h65 : Snd mL_law g 2217 (J 65)) (h66 : Snd mL_law g 2220 (J 66)) (h67 : Snd mL_law g 2309 (J 67)) (h68 : Snd mL_law g 2312 (J 68)) (h69 : Snd mL_law g 2389 (J 69)) (h70 : Snd mL_law g 2392 (J 70)) (h71 : Snd mL_law g 2457 (J 71)) (h72 : Snd mL_law g 2460 (J 72)) (h73 : Snd mL_law g 2513 (J 73)) (h74 : Snd mL_law g 2516 (J 74)) (h75 : Snd mL_law g 2529 (J 75)) (h76 : Snd mL_law g 2542 (J 76)) (h77 : Snd mL_law g 2555 (J 77)) (h78 : Snd mL_law g 2580 (J 78)) (h79 : Snd mL_law g 2605 (J 79)) : Snd mL_law g 1848 (bL_law_54 g J) := by
  unfold bL_law_54
  refine s_aload_n (pc := 1848) (i := 1) ?_ dL_law_1848 rfl
  refine s_aload_n (pc := 1849) (i := 0) ?_ dL_law_1849 rfl
  refine s_iload (pc := 1850) (i := 4) ?_ dL_law_1850
  refine s_iconst (pc := 1852) (v := 1) ?_ dL_law_1852 (by decide)
  refine s_iadd (pc := 1853) ?_ dL_law_1853
  refine s_sli (pc := 1854) ?_ dL_law_1854
  refine s_aload_n (pc := 1855) (i := 0) ?_ dL_law_1855 rfl
  refine s_iload (pc := 1856) (i := 4) ?_ dL_law_1856
  refine s_iconst (pc := 1858) (v := 2) ?_ dL_law_1858 (by decide)
  refine s_iadd (pc := 1859) ?_ dL_law_1859
  refine s_sli (pc := 1860) ?_ dL_law_1860
  refine s_aload_n (pc := 1861) (i := 3) ?_ dL_law_1861 rfl
  refine s_csW (pc := 1862) (n := 4) ?_ tL_more wt_1211 wt_1212 wt_0 wt_1213 ⟨crL_more, by decide, by decide⟩ dL_law_1862
  refine s_istore (pc := 1865) (i := 5) ?_ dL_law_1865 (by decide)
  refine s_aload_n (pc := 1867) (i := 2) ?_ dL_law_1867 rfl
  refine s_aload_n (pc := 1868) (i := 0) ?_ dL_law_1868 rfl
  refine s_iload (pc := 1869) (i := 4) ?_ dL_law_1869
  refine s_iconst (pc := 1871) (v := 1) ?_ dL_law_1871 (by decide)
  refine s_iadd (pc := 1872) ?_ dL_law_1872
  refine s_sli (pc := 1873) ?_ dL_law_1873
  refine s_aload_n (pc := 1874) (i := 0) ?_ dL_law_1874 rfl
  refine s_iload (pc := 1875) (i := 4) ?_ dL_law_1875
  refine s_iconst (pc := 1877) (v := 2) ?_ dL_law_1877 (by decide)
  refine s_iadd (pc := 1878) ?_ dL_law_1878
  refine s_sli (pc := 1879) ?_ dL_law_1879
  refine s_cv (pc := 1880) (n := 2) (ci := 10) ?_ tX11_more rfl rfl wt_1831 wt_1832 wt_1833 wt_17 wt_1834 ⟨crX11_more, by decide, by decide⟩ dL_law_1880
  refine s_istore (pc := 1883) (i := 6) ?_ dL_law_1883 (by decide)
  refine s_aload_n (pc := 1885) (i := 2) ?_ dL_law_1885 rfl
  refine s_cv (pc := 1886) (n := 0) (ci := 10) ?_ tX11_thrown rfl rfl wt_1545 wt_1546 wt_1547 wt_17 wt_1548 ⟨crX11_thrown, by decide, by decide⟩ dL_law_1886
  refine s_iload (pc := 1889) (i := 5) ?_ dL_law_1889
  refine s_iceq (pc := 1891) (tgt := 1896) ?_ ?_ dL_law_1891 (by decide)
  · skip
    refine s_iload (pc := 1896) (i := 5) ?_ dL_law_1896
    refine s_ifne (pc := 1898) (tgt := 1913) ?_ ?_ dL_law_1898 (by decide)
    · skip
      exact s_fall (pc := 1913) h55
    · skip
      refine s_aload_n (pc := 1901) (i := 3) ?_ dL_law_1901 rfl
      refine s_iconst (pc := 1902) (v := 0) ?_ dL_law_1902 (by decide)
      refine s_laload (pc := 1903) ?_ dL_law_1903
      refine s_iload (pc := 1904) (i := 6) ?_ dL_law_1904
      refine s_i2l (pc := 1906) ?_ dL_law_1906
      refine s_lcmp (pc := 1907) ?_ dL_law_1907
      refine s_ifeq (pc := 1908) (tgt := 1913) ?_ ?_ dL_law_1908 (by decide)
      · skip
        exact s_fall (pc := 1913) h55
      · skip
        refine s_iconst (pc := 1911) (v := 0) ?_ dL_law_1911 (by decide)
        exact s_zreturn (pc := 1912) rfl dL_law_1912
  · skip
    refine s_iconst (pc := 1894) (v := 0) ?_ dL_law_1894 (by decide)
    exact s_zreturn (pc := 1895) rfl dL_law_1895
theorem sbL_law_55 (g : GE) (J : Nat → KT) (h1 : Snd mL_law g 23 (J 1)) (h2 : Snd mL_law g 232 (J 2)) (h3 : Snd mL_law g 305 (J 3)) (h4 : Snd mL_law g 358 (J 4)) (h5 : Snd mL_law g 361 (J 5)) (h6 : Snd mL_law g 374 (J 6)) (h7 : Snd mL_law g 427 (J 7)) (h8 : Snd mL_law g 430 (J 8)) (h9 : Snd mL_law g 495 (J 9)) (h10 : Snd mL_law g 498 (J 10)) (h11 : Snd mL_law g 563 (J 11)) (h12 : Snd mL_law g 566 (J 12)) (h13 : Snd mL_law g 579 (J 13)) (h14 : Snd mL_law g 644 (J 14)) (h15 : Snd mL_law g 647 (J 15)) (h16 : Snd mL_law g 700 (J 16)) (h17 : Snd mL_law g 703 (J 17)) (h18 : Snd mL_law g 716 (J 18)) (h19 : Snd mL_law g 793 (J 19)) (h20 : Snd mL_law g 796 (J 20)) (h21 : Snd mL_law g 861 (J 21)) (h22 : Snd mL_law g 864 (J 22)) (h23 : Snd mL_law g 929 (J 23)) (h24 : Snd mL_law g 932 (J 24)) (h25 : Snd mL_law g 998 (J 25)) (h26 : Snd mL_law g 1004 (J 26)) (h27 : Snd mL_law g 1007 (J 27)) (h28 : Snd mL_law g 1072 (J 28)) (h29 : Snd mL_law g 1075 (J 29)) (h30 : Snd mL_law g 1140 (J 30)) (h31 : Snd mL_law g 1143 (J 31)) (h32 : Snd mL_law g 1196 (J 32)) (h33 : Snd mL_law g 1199 (J 33)) (h34 : Snd mL_law g 1212 (J 34)) (h35 : Snd mL_law g 1277 (J 35)) (h36 : Snd mL_law g 1280 (J 36)) (h37 : Snd mL_law g 1345 (J 37)) (h38 : Snd mL_law g 1348 (J 38)) (h39 : Snd mL_law g 1401 (J 39)) (h40 : Snd mL_law g 1404 (J 40)) (h41 : Snd mL_law g 1457 (J 41)) (h42 : Snd mL_law g 1460 (J 42)) (h43 : Snd mL_law g 1537 (J 43)) (h44 : Snd mL_law g 1540 (J 44)) (h45 : Snd mL_law g 1629 (J 45)) (h46 : Snd mL_law g 1632 (J 46)) (h47 : Snd mL_law g 1645 (J 47)) (h48 : Snd mL_law g 1697 (J 48)) (h49 : Snd mL_law g 1700 (J 49)) (h50 : Snd mL_law g 1776 (J 50)) (h51 : Snd mL_law g 1779 (J 51)) (h52 : Snd mL_law g 1792 (J 52)) (h53 : Snd mL_law g 1845 (J 53)) (h54 : Snd mL_law g 1848 (J 54)) (h55 : Snd mL_law g 1913 (J 55)) (h56 : Snd mL_law g 1916 (J 56)) (h57 : Snd mL_law g 1969 (J 57)) (h58 : Snd mL_law g 1972 (J 58)) (h59 : Snd mL_law g 2037 (J 59)) (h60 : Snd mL_law g 2040 (J 60)) (h61 : Snd mL_law g 2093 (J 61)) (h62 : Snd mL_law g 2096 (J 62)) (h63 : Snd mL_law g 2161 (J 63)) (h64 : Snd mL_law g 2164 (J 64)) (h65 : Snd mL_law g 2217 (J 65)) (h66 : Snd mL_law g 2220 (J 66)) (h67 : Snd mL_law g 2309 (J 67)) (h68 : Snd mL_law g 2312 (J 68)) (h69 : Snd mL_law g 2389 (J 69)) (h70 : Snd mL_law g 2392 (J 70)) (h71 : Snd mL_law g 2457 (J 71)) (h72 : Snd mL_law g 2460 (J 72)) (h73 : Snd mL_law g 2513 (J 73)) (h74 : Snd mL_law g 2516 (J 74)) (h75 : Snd mL_law g 2529 (J 75)) (h76 : Snd mL_law g 2542 (J 76)) (h77 : Snd mL_law g 2555 (J 77)) (h78 : Snd mL_law g 2580 (J 78)) (h79 : Snd mL_law g 2605 (J 79)) : Snd mL_law g 1913 (bL_law_55 g J) := by
  unfold bL_law_55
  exact s_goto (pc := 1913) (tgt := 2605) h79 dL_law_1913 (by decide)
theorem sbL_law_56 (g : GE) (J : Nat → KT) (h1 : Snd mL_law g 23 (J 1)) (h2 : Snd mL_law g 232 (J 2)) (h3 : Snd mL_law g 305 (J 3)) (h4 : Snd mL_law g 358 (J 4)) (h5 : Snd mL_law g 361 (J 5)) (h6 : Snd mL_law g 374 (J 6)) (h7 : Snd mL_law g 427 (J 7)) (h8 : Snd mL_law g 430 (J 8)) (h9 : Snd mL_law g 495 (J 9)) (h10 : Snd mL_law g 498 (J 10)) (h11 : Snd mL_law g 563 (J 11)) (h12 : Snd mL_law g 566 (J 12)) (h13 : Snd mL_law g 579 (J 13)) (h14 : Snd mL_law g 644 (J 14)) (h15 : Snd mL_law g 647 (J 15)) (h16 : Snd mL_law g 700 (J 16)) (h17 : Snd mL_law g 703 (J 17)) (h18 : Snd mL_law g 716 (J 18)) (h19 : Snd mL_law g 793 (J 19)) (h20 : Snd mL_law g 796 (J 20)) (h21 : Snd mL_law g 861 (J 21)) (h22 : Snd mL_law g 864 (J 22)) (h23 : Snd mL_law g 929 (J 23)) (h24 : Snd mL_law g 932 (J 24)) (h25 : Snd mL_law g 998 (J 25)) (h26 : Snd mL_law g 1004 (J 26)) (h27 : Snd mL_law g 1007 (J 27)) (h28 : Snd mL_law g 1072 (J 28)) (h29 : Snd mL_law g 1075 (J 29)) (h30 : Snd mL_law g 1140 (J 30)) (h31 : Snd mL_law g 1143 (J 31)) (h32 : Snd mL_law g 1196 (J 32)) (h33 : Snd mL_law g 1199 (J 33)) (h34 : Snd mL_law g 1212 (J 34)) (h35 : Snd mL_law g 1277 (J 35)) (h36 : Snd mL_law g 1280 (J 36)) (h37 : Snd mL_law g 1345 (J 37)) (h38 : Snd mL_law g 1348 (J 38)) (h39 : Snd mL_law g 1401 (J 39)) (h40 : Snd mL_law g 1404 (J 40)) (h41 : Snd mL_law g 1457 (J 41)) (h42 : Snd mL_law g 1460 (J 42)) (h43 : Snd mL_law g 1537 (J 43)) (h44 : Snd mL_law g 1540 (J 44)) (h45 : Snd mL_law g 1629 (J 45)) (h46 : Snd mL_law g 1632 (J 46)) (h47 : Snd mL_law g 1645 (J 47)) (h48 : Snd mL_law g 1697 (J 48)) (h49 : Snd mL_law g 1700 (J 49)) (h50 : Snd mL_law g 1776 (J 50)) (h51 : Snd mL_law g 1779 (J 51)) (h52 : Snd mL_law g 1792 (J 52)) (h53 : Snd mL_law g 1845 (J 53)) (h54 : Snd mL_law g 1848 (J 54)) (h55 : Snd mL_law g 1913 (J 55)) (h56 : Snd mL_law g 1916 (J 56)) (h57 : Snd mL_law g 1969 (J 57)) (h58 : Snd mL_law g 1972 (J 58)) (h59 : Snd mL_law g 2037 (J 59)) (h60 : Snd mL_law g 2040 (J 60)) (h61 : Snd mL_law g 2093 (J 61)) (h62 : Snd mL_law g 2096 (J 62)) (h63 : Snd mL_law g 2161 (J 63)) (h64 : Snd mL_law g 2164 (J 64)) (h65 : Snd mL_law g 2217 (J 65)) (h66 : Snd mL_law g 2220 (J 66)) (h67 : Snd mL_law g 2309 (J 67)) (h68 : Snd mL_law g 2312 (J 68)) (h69 : Snd mL_law g 2389 (J 69)) (h70 : Snd mL_law g 2392 (J 70)) (h71 : Snd mL_law g 2457 (J 71)) (h72 : Snd mL_law g 2460 (J 72)) (h73 : Snd mL_law g 2513 (J 73)) (h74 : Snd mL_law g 2516 (J 74)) (h75 : Snd mL_law g 2529 (J 75)) (h76 : Snd mL_law g 2542 (J 76)) (h77 : Snd mL_law g 2555 (J 77)) (h78 : Snd mL_law g 2580 (J 78)) (h79 : Snd mL_law g 2605 (J 79)) : Snd mL_law g 1916 (bL_law_56 g J) := by
  unfold bL_law_56
  refine s_aload_n (pc := 1916) (i := 1) ?_ dL_law_1916 rfl
  refine s_aload_n (pc := 1917) (i := 0) ?_ dL_law_1917 rfl
  refine s_iload (pc := 1918) (i := 4) ?_ dL_law_1918
  refine s_iconst (pc := 1920) (v := 1) ?_ dL_law_1920 (by decide)
  refine s_iadd (pc := 1921) ?_ dL_law_1921
  refine s_sli (pc := 1922) ?_ dL_law_1922
  refine s_aload_n (pc := 1923) (i := 3) ?_ dL_law_1923 rfl
  refine s_csW (pc := 1924) (n := 3) ?_ tL_weak wt_1251 wt_1252 wt_0 wt_1253 ⟨crL_weak, by decide, by decide⟩ dL_law_1924
  refine s_istore (pc := 1927) (i := 5) ?_ dL_law_1927 (by decide)
  refine s_aload_n (pc := 1929) (i := 2) ?_ dL_law_1929 rfl
  refine s_aload_n (pc := 1930) (i := 0) ?_ dL_law_1930 rfl
  refine s_iload (pc := 1931) (i := 4) ?_ dL_law_1931
  refine s_iconst (pc := 1933) (v := 1) ?_ dL_law_1933 (by decide)
  refine s_iadd (pc := 1934) ?_ dL_law_1934
  refine s_sli (pc := 1935) ?_ dL_law_1935
  refine s_cv (pc := 1936) (n := 1) (ci := 10) ?_ tX11_weak rfl rfl wt_1843 wt_1844 wt_1845 wt_17 wt_1846 ⟨crX11_weak, by decide, by decide⟩ dL_law_1936
  refine s_istore (pc := 1939) (i := 6) ?_ dL_law_1939 (by decide)
  refine s_aload_n (pc := 1941) (i := 2) ?_ dL_law_1941 rfl
  refine s_cv (pc := 1942) (n := 0) (ci := 10) ?_ tX11_thrown rfl rfl wt_1545 wt_1546 wt_1547 wt_17 wt_1548 ⟨crX11_thrown, by decide, by decide⟩ dL_law_1942
  refine s_iload (pc := 1945) (i := 5) ?_ dL_law_1945
  refine s_iceq (pc := 1947) (tgt := 1952) ?_ ?_ dL_law_1947 (by decide)
  · skip
    refine s_iload (pc := 1952) (i := 5) ?_ dL_law_1952
    refine s_ifne (pc := 1954) (tgt := 1969) ?_ ?_ dL_law_1954 (by decide)
    · skip
      exact s_fall (pc := 1969) h57
    · skip
      refine s_aload_n (pc := 1957) (i := 3) ?_ dL_law_1957 rfl
      refine s_iconst (pc := 1958) (v := 0) ?_ dL_law_1958 (by decide)
      refine s_laload (pc := 1959) ?_ dL_law_1959
      refine s_iload (pc := 1960) (i := 6) ?_ dL_law_1960
      refine s_i2l (pc := 1962) ?_ dL_law_1962
      refine s_lcmp (pc := 1963) ?_ dL_law_1963
      refine s_ifeq (pc := 1964) (tgt := 1969) ?_ ?_ dL_law_1964 (by decide)
      · skip
        exact s_fall (pc := 1969) h57
      · skip
        refine s_iconst (pc := 1967) (v := 0) ?_ dL_law_1967 (by decide)
        exact s_zreturn (pc := 1968) rfl dL_law_1968
  · skip
    refine s_iconst (pc := 1950) (v := 0) ?_ dL_law_1950 (by decide)
    exact s_zreturn (pc := 1951) rfl dL_law_1951
theorem sbL_law_57 (g : GE) (J : Nat → KT) (h1 : Snd mL_law g 23 (J 1)) (h2 : Snd mL_law g 232 (J 2)) (h3 : Snd mL_law g 305 (J 3)) (h4 : Snd mL_law g 358 (J 4)) (h5 : Snd mL_law g 361 (J 5)) (h6 : Snd mL_law g 374 (J 6)) (h7 : Snd mL_law g 427 (J 7)) (h8 : Snd mL_law g 430 (J 8)) (h9 : Snd mL_law g 495 (J 9)) (h10 : Snd mL_law g 498 (J 10)) (h11 : Snd mL_law g 563 (J 11)) (h12 : Snd mL_law g 566 (J 12)) (h13 : Snd mL_law g 579 (J 13)) (h14 : Snd mL_law g 644 (J 14)) (h15 : Snd mL_law g 647 (J 15)) (h16 : Snd mL_law g 700 (J 16)) (h17 : Snd mL_law g 703 (J 17)) (h18 : Snd mL_law g 716 (J 18)) (h19 : Snd mL_law g 793 (J 19)) (h20 : Snd mL_law g 796 (J 20)) (h21 : Snd mL_law g 861 (J 21)) (h22 : Snd mL_law g 864 (J 22)) (h23 : Snd mL_law g 929 (J 23)) (h24 : Snd mL_law g 932 (J 24)) (h25 : Snd mL_law g 998 (J 25)) (h26 : Snd mL_law g 1004 (J 26)) (h27 : Snd mL_law g 1007 (J 27)) (h28 : Snd mL_law g 1072 (J 28)) (h29 : Snd mL_law g 1075 (J 29)) (h30 : Snd mL_law g 1140 (J 30)) (h31 : Snd mL_law g 1143 (J 31)) (h32 : Snd mL_law g 1196 (J 32)) (h33 : Snd mL_law g 1199 (J 33)) (h34 : Snd mL_law g 1212 (J 34)) (h35 : Snd mL_law g 1277 (J 35)) (h36 : Snd mL_law g 1280 (J 36)) (h37 : Snd mL_law g 1345 (J 37)) (h38 : Snd mL_law g 1348 (J 38)) (h39 : Snd mL_law g 1401 (J 39)) (h40 : Snd mL_law g 1404 (J 40)) (h41 : Snd mL_law g 1457 (J 41)) (h42 : Snd mL_law g 1460 (J 42)) (h43 : Snd mL_law g 1537 (J 43)) (h44 : Snd mL_law g 1540 (J 44)) (h45 : Snd mL_law g 1629 (J 45)) (h46 : Snd mL_law g 1632 (J 46)) (h47 : Snd mL_law g 1645 (J 47)) (h48 : Snd mL_law g 1697 (J 48)) (h49 : Snd mL_law g 1700 (J 49)) (h50 : Snd mL_law g 1776 (J 50)) (h51 : Snd mL_law g 1779 (J 51)) (h52 : Snd mL_law g 1792 (J 52)) (h53 : Snd mL_law g 1845 (J 53)) (h54 : Snd mL_law g 1848 (J 54)) (h55 : Snd mL_law g 1913 (J 55)) (h56 : Snd mL_law g 1916 (J 56)) (h57 : Snd mL_law g 1969 (J 57)) (h58 : Snd mL_law g 1972 (J 58)) (h59 : Snd mL_law g 2037 (J 59)) (h60 : Snd mL_law g 2040 (J 60)) (h61 : Snd mL_law g 2093 (J 61)) (h62 : Snd mL_law g 2096 (J 62)) (h63 : Snd mL_law g 2161 (J 63)) (h64 : Snd mL_law g 2164 (J 64)) (h65 : Snd mL_law g 2217 (J 65)) (h66 : Snd mL_law g 2220 (J 66)) (h67 : Snd mL_law g 2309 (J 67)) (h68 : Snd mL_law g 2312 (J 68)) (h69 : Snd mL_law g 2389 (J 69)) (h70 : Snd mL_law g 2392 (J 70)) (h71 : Snd mL_law g 2457 (J 71)) (h72 : Snd mL_law g 2460 (J 72)) (h73 : Snd mL_law g 2513 (J 73)) (h74 : Snd mL_law g 2516 (J 74)) (h75 : Snd mL_law g 2529 (J 75)) (h76 : Snd mL_law g 2542 (J 76)) (h77 : Snd mL_law g 2555 (J 77)) (h78 : Snd mL_law g 2580 (J 78)) (h79 : Snd mL_law g 2605 (J 79)) : Snd mL_law g 1969 (bL_law_57 g J) := by
  unfold bL_law_57
  exact s_goto (pc := 1969) (tgt := 2605) h79 dL_law_1969 (by decide)
theorem sbL_law_58 (g : GE) (J : Nat → KT) (h1 : Snd mL_law g 23 (J 1)) (h2 : Snd mL_law g 232 (J 2)) (h3 : Snd mL_law g 305 (J 3)) (h4 : Snd mL_law g 358 (J 4)) (h5 : Snd mL_law g 361 (J 5)) (h6 : Snd mL_law g 374 (J 6)) (h7 : Snd mL_law g 427 (J 7)) (h8 : Snd mL_law g 430 (J 8)) (h9 : Snd mL_law g 495 (J 9)) (h10 : Snd mL_law g 498 (J 10)) (h11 : Snd mL_law g 563 (J 11)) (h12 : Snd mL_law g 566 (J 12)) (h13 : Snd mL_law g 579 (J 13)) (h14 : Snd mL_law g 644 (J 14)) (h15 : Snd mL_law g 647 (J 15)) (h16 : Snd mL_law g 700 (J 16)) (h17 : Snd mL_law g 703 (J 17)) (h18 : Snd mL_law g 716 (J 18)) (h19 : Snd mL_law g 793 (J 19)) (h20 : Snd mL_law g 796 (J 20)) (h21 : Snd mL_law g 861 (J 21)) (h22 : Snd mL_law g 864 (J 22)) (h23 : Snd mL_law g 929 (J 23)) (h24 : Snd mL_law g 932 (J 24)) (h25 : Snd mL_law g 998 (J 25)) (h26 : Snd mL_law g 1004 (J 26)) (h27 : Snd mL_law g 1007 (J 27)) (h28 : Snd mL_law g 1072 (J 28)) (h29 : Snd mL_law g 1075 (J 29)) (h30 : Snd mL_law g 1140 (J 30)) (h31 : Snd mL_law g 1143 (J 31)) (h32 : Snd mL_law g 1196 (J 32)) (h33 : Snd mL_law g 1199 (J 33)) (h34 : Snd mL_law g 1212 (J 34)) (h35 : Snd mL_law g 1277 (J 35)) (h36 : Snd mL_law g 1280 (J 36)) (h37 : Snd mL_law g 1345 (J 37)) (h38 : Snd mL_law g 1348 (J 38)) (h39 : Snd mL_law g 1401 (J 39)) (h40 : Snd mL_law g 1404 (J 40)) (h41 : Snd mL_law g 1457 (J 41)) (h42 : Snd mL_law g 1460 (J 42)) (h43 : Snd mL_law g 1537 (J 43)) (h44 : Snd mL_law g 1540 (J 44)) (h45 : Snd mL_law g 1629 (J 45)) (h46 : Snd mL_law g 1632 (J 46)) (h47 : Snd mL_law g 1645 (J 47)) (h48 : Snd mL_law g 1697 (J 48)) (h49 : Snd mL_law g 1700 (J 49)) (h50 : Snd mL_law g 1776 (J 50)) (h51 : Snd mL_law g 1779 (J 51)) (h52 : Snd mL_law g 1792 (J 52)) (h53 : Snd mL_law g 1845 (J 53)) (h54 : Snd mL_law g 1848 (J 54)) (h55 : Snd mL_law g 1913 (J 55)) (h56 : Snd mL_law g 1916 (J 56)) (h57 : Snd mL_law g 1969 (J 57)) (h58 : Snd mL_law g 1972 (J 58)) (h59 : Snd mL_law g 2037 (J 59)) (h60 : Snd mL_law g 2040 (J 60)) (h61 : Snd mL_law g 2093 (J 61)) (h62 : Snd mL_law g 2096 (J 62)) (h63 : Snd mL_law g 2161 (J 63)) (h64 : Snd mL_law g 2164 (J 64)) (h65 : Snd mL_law g 2217 (J 65)) (h66 : Snd mL_law g 2220 (J 66)) (h67 : Snd mL_law g 2309 (J 67)) (h68 : Snd mL_law g 2312 (J 68)) (h69 : Snd mL_law g 2389 (J 69)) (h70 : Snd mL_law g 2392 (J 70)) (h71 : Snd mL_law g 2457 (J 71)) (h72 : Snd mL_law g 2460 (J 72)) (h73 : Snd mL_law g 2513 (J 73)) (h74 : Snd mL_law g 2516 (J 74)) (h75 : Snd mL_law g 2529 (J 75)) (h76 : Snd mL_law g 2542 (J 76)) (h77 : Snd mL_law g 2555 (J 77)) (h78 : Snd mL_law g 2580 (J 78)) (h79 : Snd mL_law g 2605 (J 79)) : Snd mL_law g 1972 (bL_law_58 g J) := by
  unfold bL_law_58
  refine s_aload_n (pc := 1972) (i := 1) ?_ dL_law_1972 rfl
  refine s_aload_n (pc := 1973) (i := 0) ?_ dL_law_1973 rfl
  refine s_iload (pc := 1974) (i := 4) ?_ dL_law_1974
  refine s_iconst (pc := 1976) (v := 1) ?_ dL_law_1976 (by decide)
  refine s_iadd (pc := 1977) ?_ dL_law_1977
  refine s_sli (pc := 1978) ?_ dL_law_1978
  refine s_aload_n (pc := 1979) (i := 0) ?_ dL_law_1979 rfl
  refine s_iload (pc := 1980) (i := 4) ?_ dL_law_1980
  refine s_iconst (pc := 1982) (v := 2) ?_ dL_law_1982 (by decide)
  refine s_iadd (pc := 1983) ?_ dL_law_1983
  refine s_sli (pc := 1984) ?_ dL_law_1984
  refine s_aload_n (pc := 1985) (i := 3) ?_ dL_law_1985 rfl
  refine s_csW (pc := 1986) (n := 4) ?_ tL_holding wt_1262 wt_1263 wt_0 wt_1264 ⟨crL_holding, by decide, by decide⟩ dL_law_1986
  refine s_istore (pc := 1989) (i := 5) ?_ dL_law_1989 (by decide)
  refine s_aload_n (pc := 1991) (i := 2) ?_ dL_law_1991 rfl
  refine s_aload_n (pc := 1992) (i := 0) ?_ dL_law_1992 rfl
  refine s_iload (pc := 1993) (i := 4) ?_ dL_law_1993
  refine s_iconst (pc := 1995) (v := 1) ?_ dL_law_1995 (by decide)
  refine s_iadd (pc := 1996) ?_ dL_law_1996
  refine s_sli (pc := 1997) ?_ dL_law_1997
  refine s_aload_n (pc := 1998) (i := 0) ?_ dL_law_1998 rfl
  refine s_iload (pc := 1999) (i := 4) ?_ dL_law_1999
  refine s_iconst (pc := 2001) (v := 2) ?_ dL_law_2001 (by decide)
  refine s_iadd (pc := 2002) ?_ dL_law_2002
  refine s_sli (pc := 2003) ?_ dL_law_2003
  refine s_cv (pc := 2004) (n := 2) (ci := 10) ?_ tX11_holding rfl rfl wt_1691 wt_1692 wt_1693 wt_17 wt_1694 ⟨crX11_holding, by decide, by decide⟩ dL_law_2004
  refine s_istore (pc := 2007) (i := 6) ?_ dL_law_2007 (by decide)
  refine s_aload_n (pc := 2009) (i := 2) ?_ dL_law_2009 rfl
  refine s_cv (pc := 2010) (n := 0) (ci := 10) ?_ tX11_thrown rfl rfl wt_1545 wt_1546 wt_1547 wt_17 wt_1548 ⟨crX11_thrown, by decide, by decide⟩ dL_law_2010
  refine s_iload (pc := 2013) (i := 5) ?_ dL_law_2013
  refine s_iceq (pc := 2015) (tgt := 2020) ?_ ?_ dL_law_2015 (by decide)
  · skip
    refine s_iload (pc := 2020) (i := 5) ?_ dL_law_2020
    refine s_ifne (pc := 2022) (tgt := 2037) ?_ ?_ dL_law_2022 (by decide)
    · skip
      exact s_fall (pc := 2037) h59
    · skip
      refine s_aload_n (pc := 2025) (i := 3) ?_ dL_law_2025 rfl
      refine s_iconst (pc := 2026) (v := 0) ?_ dL_law_2026 (by decide)
      refine s_laload (pc := 2027) ?_ dL_law_2027
      refine s_iload (pc := 2028) (i := 6) ?_ dL_law_2028
      refine s_i2l (pc := 2030) ?_ dL_law_2030
      refine s_lcmp (pc := 2031) ?_ dL_law_2031
      refine s_ifeq (pc := 2032) (tgt := 2037) ?_ ?_ dL_law_2032 (by decide)
      · skip
        exact s_fall (pc := 2037) h59
      · skip
        refine s_iconst (pc := 2035) (v := 0) ?_ dL_law_2035 (by decide)
        exact s_zreturn (pc := 2036) rfl dL_law_2036
  · skip
    refine s_iconst (pc := 2018) (v := 0) ?_ dL_law_2018 (by decide)
    exact s_zreturn (pc := 2019) rfl dL_law_2019
theorem sbL_law_59 (g : GE) (J : Nat → KT) (h1 : Snd mL_law g 23 (J 1)) (h2 : Snd mL_law g 232 (J 2)) (h3 : Snd mL_law g 305 (J 3)) (h4 : Snd mL_law g 358 (J 4)) (h5 : Snd mL_law g 361 (J 5)) (h6 : Snd mL_law g 374 (J 6)) (h7 : Snd mL_law g 427 (J 7)) (h8 : Snd mL_law g 430 (J 8)) (h9 : Snd mL_law g 495 (J 9)) (h10 : Snd mL_law g 498 (J 10)) (h11 : Snd mL_law g 563 (J 11)) (h12 : Snd mL_law g 566 (J 12)) (h13 : Snd mL_law g 579 (J 13)) (h14 : Snd mL_law g 644 (J 14)) (h15 : Snd mL_law g 647 (J 15)) (h16 : Snd mL_law g 700 (J 16)) (h17 : Snd mL_law g 703 (J 17)) (h18 : Snd mL_law g 716 (J 18)) (h19 : Snd mL_law g 793 (J 19)) (h20 : Snd mL_law g 796 (J 20)) (h21 : Snd mL_law g 861 (J 21)) (h22 : Snd mL_law g 864 (J 22)) (h23 : Snd mL_law g 929 (J 23)) (h24 : Snd mL_law g 932 (J 24)) (h25 : Snd mL_law g 998 (J 25)) (h26 : Snd mL_law g 1004 (J 26)) (h27 : Snd mL_law g 1007 (J 27)) (h28 : Snd mL_law g 1072 (J 28)) (h29 : Snd mL_law g 1075 (J 29)) (h30 : Snd mL_law g 1140 (J 30)) (h31 : Snd mL_law g 1143 (J 31)) (h32 : Snd mL_law g 1196 (J 32)) (h33 : Snd mL_law g 1199 (J 33)) (h34 : Snd mL_law g 1212 (J 34)) (h35 : Snd mL_law g 1277 (J 35)) (h36 : Snd mL_law g 1280 (J 36)) (h37 : Snd mL_law g 1345 (J 37)) (h38 : Snd mL_law g 1348 (J 38)) (h39 : Snd mL_law g 1401 (J 39)) (h40 : Snd mL_law g 1404 (J 40)) (h41 : Snd mL_law g 1457 (J 41)) (h42 : Snd mL_law g 1460 (J 42)) (h43 : Snd mL_law g 1537 (J 43)) (h44 : Snd mL_law g 1540 (J 44)) (h45 : Snd mL_law g 1629 (J 45)) (h46 : Snd mL_law g 1632 (J 46)) (h47 : Snd mL_law g 1645 (J 47)) (h48 : Snd mL_law g 1697 (J 48)) (h49 : Snd mL_law g 1700 (J 49)) (h50 : Snd mL_law g 1776 (J 50)) (h51 : Snd mL_law g 1779 (J 51)) (h52 : Snd mL_law g 1792 (J 52)) (h53 : Snd mL_law g 1845 (J 53)) (h54 : Snd mL_law g 1848 (J 54)) (h55 : Snd mL_law g 1913 (J 55)) (h56 : Snd mL_law g 1916 (J 56)) (h57 : Snd mL_law g 1969 (J 57)) (h58 : Snd mL_law g 1972 (J 58)) (h59 : Snd mL_law g 2037 (J 59)) (h60 : Snd mL_law g 2040 (J 60)) (h61 : Snd mL_law g 2093 (J 61)) (h62 : Snd mL_law g 2096 (J 62)) (h63 : Snd mL_law g 2161 (J 63)) (h64 : Snd mL_law g 2164 (J 64)) (h65 : Snd mL_law g 2217 (J 65)) (h66 : Snd mL_law g 2220 (J 66)) (h67 : Snd mL_law g 2309 (J 67)) (h68 : Snd mL_law g 2312 (J 68)) (h69 : Snd mL_law g 2389 (J 69)) (h70 : Snd mL_law g 2392 (J 70)) (h71 : Snd mL_law g 2457 (J 71)) (h72 : Snd mL_law g 2460 (J 72)) (h73 : Snd mL_law g 2513 (J 73)) (h74 : Snd mL_law g 2516 (J 74)) (h75 : Snd mL_law g 2529 (J 75)) (h76 : Snd mL_law g 2542 (J 76)) (h77 : Snd mL_law g 2555 (J 77)) (h78 : Snd mL_law g 2580 (J 78)) (h79 : Snd mL_law g 2605 (J 79)) : Snd mL_law g 2037 (bL_law_59 g J) := by
  unfold bL_law_59
  exact s_goto (pc := 2037) (tgt := 2605) h79 dL_law_2037 (by decide)
theorem sbL_law_60 (g : GE) (J : Nat → KT) (h1 : Snd mL_law g 23 (J 1)) (h2 : Snd mL_law g 232 (J 2)) (h3 : Snd mL_law g 305 (J 3)) (h4 : Snd mL_law g 358 (J 4)) (h5 : Snd mL_law g 361 (J 5)) (h6 : Snd mL_law g 374 (J 6)) (h7 : Snd mL_law g 427 (J 7)) (h8 : Snd mL_law g 430 (J 8)) (h9 : Snd mL_law g 495 (J 9)) (h10 : Snd mL_law g 498 (J 10)) (h11 : Snd mL_law g 563 (J 11)) (h12 : Snd mL_law g 566 (J 12)) (h13 : Snd mL_law g 579 (J 13)) (h14 : Snd mL_law g 644 (J 14)) (h15 : Snd mL_law g 647 (J 15)) (h16 : Snd mL_law g 700 (J 16)) (h17 : Snd mL_law g 703 (J 17)) (h18 : Snd mL_law g 716 (J 18)) (h19 : Snd mL_law g 793 (J 19)) (h20 : Snd mL_law g 796 (J 20)) (h21 : Snd mL_law g 861 (J 21)) (h22 : Snd mL_law g 864 (J 22)) (h23 : Snd mL_law g 929 (J 23)) (h24 : Snd mL_law g 932 (J 24)) (h25 : Snd mL_law g 998 (J 25)) (h26 : Snd mL_law g 1004 (J 26)) (h27 : Snd mL_law g 1007 (J 27)) (h28 : Snd mL_law g 1072 (J 28)) (h29 : Snd mL_law g 1075 (J 29)) (h30 : Snd mL_law g 1140 (J 30)) (h31 : Snd mL_law g 1143 (J 31)) (h32 : Snd mL_law g 1196 (J 32)) (h33 : Snd mL_law g 1199 (J 33)) (h34 : Snd mL_law g 1212 (J 34)) (h35 : Snd mL_law g 1277 (J 35)) (h36 : Snd mL_law g 1280 (J 36)) (h37 : Snd mL_law g 1345 (J 37)) (h38 : Snd mL_law g 1348 (J 38)) (h39 : Snd mL_law g 1401 (J 39)) (h40 : Snd mL_law g 1404 (J 40)) (h41 : Snd mL_law g 1457 (J 41)) (h42 : Snd mL_law g 1460 (J 42)) (h43 : Snd mL_law g 1537 (J 43)) (h44 : Snd mL_law g 1540 (J 44)) (h45 : Snd mL_law g 1629 (J 45)) (h46 : Snd mL_law g 1632 (J 46)) (h47 : Snd mL_law g 1645 (J 47)) (h48 : Snd mL_law g 1697 (J 48)) (h49 : Snd mL_law g 1700 (J 49)) (h50 : Snd mL_law g 1776 (J 50)) (h51 : Snd mL_law g 1779 (J 51)) (h52 : Snd mL_law g 1792 (J 52)) (h53 : Snd mL_law g 1845 (J 53)) (h54 : Snd mL_law g 1848 (J 54)) (h55 : Snd mL_law g 1913 (J 55)) (h56 : Snd mL_law g 1916 (J 56)) (h57 : Snd mL_law g 1969 (J 57)) (h58 : Snd mL_law g 1972 (J 58)) (h59 : Snd mL_law g 2037 (J 59)) (h60 : Snd mL_law g 2040 (J 60)) (h61 : Snd mL_law g 2093 (J 61)) (h62 : Snd mL_law g 2096 (J 62)) (h63 : Snd mL_law g 2161 (J 63)) (h64 : Snd mL_law g 2164 (J 64)) (h65 : Snd mL_law g 2217 (J 65)) (h66 : Snd mL_law g 2220 (J 66)) (h67 : Snd mL_law g 2309 (J 67)) (h68 : Snd mL_law g 2312 (J 68)) (h69 : Snd mL_law g 2389 (J 69)) (h70 : Snd mL_law g 2392 (J 70)) (h71 : Snd mL_law g 2457 (J 71)) (h72 : Snd mL_law g 2460 (J 72)) (h73 : Snd mL_law g 2513 (J 73)) (h74 : Snd mL_law g 2516 (J 74)) (h75 : Snd mL_law g 2529 (J 75)) (h76 : Snd mL_law g 2542 (J 76)) (h77 : Snd mL_law g 2555 (J 77)) (h78 : Snd mL_law g 2580 (J 78)) (h79 : Snd mL_law g 2605 (J 79)) : Snd mL_law g 2040 (bL_law_60 g J) := by
  unfold bL_law_60
  refine s_aload_n (pc := 2040) (i := 1) ?_ dL_law_2040 rfl
  refine s_aload_n (pc := 2041) (i := 0) ?_ dL_law_2041 rfl
  refine s_iload (pc := 2042) (i := 4) ?_ dL_law_2042
  refine s_iconst (pc := 2044) (v := 1) ?_ dL_law_2044 (by decide)
  refine s_iadd (pc := 2045) ?_ dL_law_2045
  refine s_sli (pc := 2046) ?_ dL_law_2046
  refine s_aload_n (pc := 2047) (i := 3) ?_ dL_law_2047 rfl
  refine s_csW (pc := 2048) (n := 3) ?_ tL_struck wt_1277 wt_1278 wt_0 wt_1279 ⟨crL_struck, by decide, by decide⟩ dL_law_2048
  refine s_istore (pc := 2051) (i := 5) ?_ dL_law_2051 (by decide)
  refine s_aload_n (pc := 2053) (i := 2) ?_ dL_law_2053 rfl
  refine s_aload_n (pc := 2054) (i := 0) ?_ dL_law_2054 rfl
  refine s_iload (pc := 2055) (i := 4) ?_ dL_law_2055
  refine s_iconst (pc := 2057) (v := 1) ?_ dL_law_2057 (by decide)
  refine s_iadd (pc := 2058) ?_ dL_law_2058
  refine s_sli (pc := 2059) ?_ dL_law_2059
  refine s_cv (pc := 2060) (n := 1) (ci := 10) ?_ tX11_struck rfl rfl wt_1847 wt_1848 wt_1849 wt_17 wt_1850 ⟨crX11_struck, by decide, by decide⟩ dL_law_2060
  refine s_istore (pc := 2063) (i := 6) ?_ dL_law_2063 (by decide)
  refine s_aload_n (pc := 2065) (i := 2) ?_ dL_law_2065 rfl
  refine s_cv (pc := 2066) (n := 0) (ci := 10) ?_ tX11_thrown rfl rfl wt_1545 wt_1546 wt_1547 wt_17 wt_1548 ⟨crX11_thrown, by decide, by decide⟩ dL_law_2066
  refine s_iload (pc := 2069) (i := 5) ?_ dL_law_2069
  refine s_iceq (pc := 2071) (tgt := 2076) ?_ ?_ dL_law_2071 (by decide)
  · skip
    refine s_iload (pc := 2076) (i := 5) ?_ dL_law_2076
    refine s_ifne (pc := 2078) (tgt := 2093) ?_ ?_ dL_law_2078 (by decide)
    · skip
      exact s_fall (pc := 2093) h61
    · skip
      refine s_aload_n (pc := 2081) (i := 3) ?_ dL_law_2081 rfl
      refine s_iconst (pc := 2082) (v := 0) ?_ dL_law_2082 (by decide)
      refine s_laload (pc := 2083) ?_ dL_law_2083
      refine s_iload (pc := 2084) (i := 6) ?_ dL_law_2084
      refine s_i2l (pc := 2086) ?_ dL_law_2086
      refine s_lcmp (pc := 2087) ?_ dL_law_2087
      refine s_ifeq (pc := 2088) (tgt := 2093) ?_ ?_ dL_law_2088 (by decide)
      · skip
        exact s_fall (pc := 2093) h61
      · skip
        refine s_iconst (pc := 2091) (v := 0) ?_ dL_law_2091 (by decide)
        exact s_zreturn (pc := 2092) rfl dL_law_2092
  · skip
    refine s_iconst (pc := 2074) (v := 0) ?_ dL_law_2074 (by decide)
    exact s_zreturn (pc := 2075) rfl dL_law_2075
theorem sbL_law_61 (g : GE) (J : Nat → KT) (h1 : Snd mL_law g 23 (J 1)) (h2 : Snd mL_law g 232 (J 2)) (h3 : Snd mL_law g 305 (J 3)) (h4 : Snd mL_law g 358 (J 4)) (h5 : Snd mL_law g 361 (J 5)) (h6 : Snd mL_law g 374 (J 6)) (h7 : Snd mL_law g 427 (J 7)) (h8 : Snd mL_law g 430 (J 8)) (h9 : Snd mL_law g 495 (J 9)) (h10 : Snd mL_law g 498 (J 10)) (h11 : Snd mL_law g 563 (J 11)) (h12 : Snd mL_law g 566 (J 12)) (h13 : Snd mL_law g 579 (J 13)) (h14 : Snd mL_law g 644 (J 14)) (h15 : Snd mL_law g 647 (J 15)) (h16 : Snd mL_law g 700 (J 16)) (h17 : Snd mL_law g 703 (J 17)) (h18 : Snd mL_law g 716 (J 18)) (h19 : Snd mL_law g 793 (J 19)) (h20 : Snd mL_law g 796 (J 20)) (h21 : Snd mL_law g 861 (J 21)) (h22 : Snd mL_law g 864 (J 22)) (h23 : Snd mL_law g 929 (J 23)) (h24 : Snd mL_law g 932 (J 24)) (h25 : Snd mL_law g 998 (J 25)) (h26 : Snd mL_law g 1004 (J 26)) (h27 : Snd mL_law g 1007 (J 27)) (h28 : Snd mL_law g 1072 (J 28)) (h29 : Snd mL_law g 1075 (J 29)) (h30 : Snd mL_law g 1140 (J 30)) (h31 : Snd mL_law g 1143 (J 31)) (h32 : Snd mL_law g 1196 (J 32)) (h33 : Snd mL_law g 1199 (J 33)) (h34 : Snd mL_law g 1212 (J 34)) (h35 : Snd mL_law g 1277 (J 35)) (h36 : Snd mL_law g 1280 (J 36)) (h37 : Snd mL_law g 1345 (J 37)) (h38 : Snd mL_law g 1348 (J 38)) (h39 : Snd mL_law g 1401 (J 39)) (h40 : Snd mL_law g 1404 (J 40)) (h41 : Snd mL_law g 1457 (J 41)) (h42 : Snd mL_law g 1460 (J 42)) (h43 : Snd mL_law g 1537 (J 43)) (h44 : Snd mL_law g 1540 (J 44)) (h45 : Snd mL_law g 1629 (J 45)) (h46 : Snd mL_law g 1632 (J 46)) (h47 : Snd mL_law g 1645 (J 47)) (h48 : Snd mL_law g 1697 (J 48)) (h49 : Snd mL_law g 1700 (J 49)) (h50 : Snd mL_law g 1776 (J 50)) (h51 : Snd mL_law g 1779 (J 51)) (h52 : Snd mL_law g 1792 (J 52)) (h53 : Snd mL_law g 1845 (J 53)) (h54 : Snd mL_law g 1848 (J 54)) (h55 : Snd mL_law g 1913 (J 55)) (h56 : Snd mL_law g 1916 (J 56)) (h57 : Snd mL_law g 1969 (J 57)) (h58 : Snd mL_law g 1972 (J 58)) (h59 : Snd mL_law g 2037 (J 59)) (h60 : Snd mL_law g 2040 (J 60)) (h61 : Snd mL_law g 2093 (J 61)) (h62 : Snd mL_law g 2096 (J 62)) (h63 : Snd mL_law g 2161 (J 63)) (h64 : Snd mL_law g 2164 (J 64)) (h65 : Snd mL_law g 2217 (J 65)) (h66 : Snd mL_law g 2220 (J 66)) (h67 : Snd mL_law g 2309 (J 67)) (h68 : Snd mL_law g 2312 (J 68)) (h69 : Snd mL_law g 2389 (J 69)) (h70 : Snd mL_law g 2392 (J 70)) (h71 : Snd mL_law g 2457 (J 71)) (h72 : Snd mL_law g 2460 (J 72)) (h73 : Snd mL_law g 2513 (J 73)) (h74 : Snd mL_law g 2516 (J 74)) (h75 : Snd mL_law g 2529 (J 75)) (h76 : Snd mL_law g 2542 (J 76)) (h77 : Snd mL_law g 2555 (J 77)) (h78 : Snd mL_law g 2580 (J 78)) (h79 : Snd mL_law g 2605 (J 79)) : Snd mL_law g 2093 (bL_law_61 g J) := by
  unfold bL_law_61
  exact s_goto (pc := 2093) (tgt := 2605) h79 dL_law_2093 (by decide)
theorem sbL_law_62 (g : GE) (J : Nat → KT) (h1 : Snd mL_law g 23 (J 1)) (h2 : Snd mL_law g 232 (J 2)) (h3 : Snd mL_law g 305 (J 3)) (h4 : Snd mL_law g 358 (J 4)) (h5 : Snd mL_law g 361 (J 5)) (h6 : Snd mL_law g 374 (J 6)) (h7 : Snd mL_law g 427 (J 7)) (h8 : Snd mL_law g 430 (J 8)) (h9 : Snd mL_law g 495 (J 9)) (h10 : Snd mL_law g 498 (J 10)) (h11 : Snd mL_law g 563 (J 11)) (h12 : Snd mL_law g 566 (J 12)) (h13 : Snd mL_law g 579 (J 13)) (h14 : Snd mL_law g 644 (J 14)) (h15 : Snd mL_law g 647 (J 15)) (h16 : Snd mL_law g 700 (J 16)) (h17 : Snd mL_law g 703 (J 17)) (h18 : Snd mL_law g 716 (J 18)) (h19 : Snd mL_law g 793 (J 19)) (h20 : Snd mL_law g 796 (J 20)) (h21 : Snd mL_law g 861 (J 21)) (h22 : Snd mL_law g 864 (J 22)) (h23 : Snd mL_law g 929 (J 23)) (h24 : Snd mL_law g 932 (J 24)) (h25 : Snd mL_law g 998 (J 25)) (h26 : Snd mL_law g 1004 (J 26)) (h27 : Snd mL_law g 1007 (J 27)) (h28 : Snd mL_law g 1072 (J 28)) (h29 : Snd mL_law g 1075 (J 29)) (h30 : Snd mL_law g 1140 (J 30)) (h31 : Snd mL_law g 1143 (J 31)) (h32 : Snd mL_law g 1196 (J 32)) (h33 : Snd mL_law g 1199 (J 33)) (h34 : Snd mL_law g 1212 (J 34)) (h35 : Snd mL_law g 1277 (J 35)) (h36 : Snd mL_law g 1280 (J 36)) (h37 : Snd mL_law g 1345 (J 37)) (h38 : Snd mL_law g 1348 (J 38)) (h39 : Snd mL_law g 1401 (J 39)) (h40 : Snd mL_law g 1404 (J 40)) (h41 : Snd mL_law g 1457 (J 41)) (h42 : Snd mL_law g 1460 (J 42)) (h43 : Snd mL_law g 1537 (J 43)) (h44 : Snd mL_law g 1540 (J 44)) (h45 : Snd mL_law g 1629 (J 45)) (h46 : Snd mL_law g 1632 (J 46)) (h47 : Snd mL_law g 1645 (J 47)) (h48 : Snd mL_law g 1697 (J 48)) (h49 : Snd mL_law g 1700 (J 49)) (h50 : Snd mL_law g 1776 (J 50)) (h51 : Snd mL_law g 1779 (J 51)) (h52 : Snd mL_law g 1792 (J 52)) (h53 : Snd mL_law g 1845 (J 53)) (h54 : Snd mL_law g 1848 (J 54)) (h55 : Snd mL_law g 1913 (J 55)) (h56 : Snd mL_law g 1916 (J 56)) (h57 : Snd mL_law g 1969 (J 57)) (h58 : Snd mL_law g 1972 (J 58)) (h59 : Snd mL_law g 2037 (J 59)) (h60 : Snd mL_law g 2040 (J 60)) (h61 : Snd mL_law g 2093 (J 61)) (h62 : Snd mL_law g 2096 (J 62)) (h63 : Snd mL_law g 2161 (J 63)) (h64 : Snd mL_law g 2164 (J 64)) (h65 : Snd mL_law g 2217 (J 65)) (h66 : Snd mL_law g 2220 (J 66)) (h67 : Snd mL_law g 2309 (J 67)) (h68 : Snd mL_law g 2312 (J 68)) (h69 : Snd mL_law g 2389 (J 69)) (h70 : Snd mL_law g 2392 (J 70)) (h71 : Snd mL_law g 2457 (J 71)) (h72 : Snd mL_law g 2460 (J 72)) (h73 : Snd mL_law g 2513 (J 73)) (h74 : Snd mL_law g 2516 (J 74)) (h75 : Snd mL_law g 2529 (J 75)) (h76 : Snd mL_law g 2542 (J 76)) (h77 : Snd mL_law g 2555 (J 77)) (h78 : Snd mL_law g 2580 (J 78)) (h79 : Snd mL_law g 2605 (J 79)) : Snd mL_law g 2096 (bL_law_62 g J) := by
  unfold bL_law_62
  refine s_aload_n (pc := 2096) (i := 1) ?_ dL_law_2096 rfl
  refine s_aload_n (pc := 2097) (i := 0) ?_ dL_law_2097 rfl
  refine s_iload (pc := 2098) (i := 4) ?_ dL_law_2098
  refine s_iconst (pc := 2100) (v := 1) ?_ dL_law_2100 (by decide)
  refine s_iadd (pc := 2101) ?_ dL_law_2101
  refine s_sli (pc := 2102) ?_ dL_law_2102
  refine s_aload_n (pc := 2103) (i := 0) ?_ dL_law_2103 rfl
  refine s_iload (pc := 2104) (i := 4) ?_ dL_law_2104
  refine s_iconst (pc := 2106) (v := 2) ?_ dL_law_2106 (by decide)
  refine s_iadd (pc := 2107) ?_ dL_law_2107
  refine s_sli (pc := 2108) ?_ dL_law_2108
  refine s_aload_n (pc := 2109) (i := 3) ?_ dL_law_2109 rfl
  refine s_csW (pc := 2110) (n := 4) ?_ tL_apart wt_1292 wt_1293 wt_0 wt_1294 ⟨crL_apart, by decide, by decide⟩ dL_law_2110
  refine s_istore (pc := 2113) (i := 5) ?_ dL_law_2113 (by decide)
  refine s_aload_n (pc := 2115) (i := 2) ?_ dL_law_2115 rfl
  refine s_aload_n (pc := 2116) (i := 0) ?_ dL_law_2116 rfl
  refine s_iload (pc := 2117) (i := 4) ?_ dL_law_2117
  refine s_iconst (pc := 2119) (v := 1) ?_ dL_law_2119 (by decide)
  refine s_iadd (pc := 2120) ?_ dL_law_2120
  refine s_sli (pc := 2121) ?_ dL_law_2121
  refine s_aload_n (pc := 2122) (i := 0) ?_ dL_law_2122 rfl
  refine s_iload (pc := 2123) (i := 4) ?_ dL_law_2123
  refine s_iconst (pc := 2125) (v := 2) ?_ dL_law_2125 (by decide)
  refine s_iadd (pc := 2126) ?_ dL_law_2126
  refine s_sli (pc := 2127) ?_ dL_law_2127
  refine s_cv (pc := 2128) (n := 2) (ci := 10) ?_ tX11_apart rfl rfl wt_1851 wt_1852 wt_1853 wt_17 wt_1854 ⟨crX11_apart, by decide, by decide⟩ dL_law_2128
  refine s_istore (pc := 2131) (i := 6) ?_ dL_law_2131 (by decide)
  refine s_aload_n (pc := 2133) (i := 2) ?_ dL_law_2133 rfl
  refine s_cv (pc := 2134) (n := 0) (ci := 10) ?_ tX11_thrown rfl rfl wt_1545 wt_1546 wt_1547 wt_17 wt_1548 ⟨crX11_thrown, by decide, by decide⟩ dL_law_2134
  refine s_iload (pc := 2137) (i := 5) ?_ dL_law_2137
  refine s_iceq (pc := 2139) (tgt := 2144) ?_ ?_ dL_law_2139 (by decide)
  · skip
    refine s_iload (pc := 2144) (i := 5) ?_ dL_law_2144
    refine s_ifne (pc := 2146) (tgt := 2161) ?_ ?_ dL_law_2146 (by decide)
    · skip
      exact s_fall (pc := 2161) h63
    · skip
      refine s_aload_n (pc := 2149) (i := 3) ?_ dL_law_2149 rfl
      refine s_iconst (pc := 2150) (v := 0) ?_ dL_law_2150 (by decide)
      refine s_laload (pc := 2151) ?_ dL_law_2151
      refine s_iload (pc := 2152) (i := 6) ?_ dL_law_2152
      refine s_i2l (pc := 2154) ?_ dL_law_2154
      refine s_lcmp (pc := 2155) ?_ dL_law_2155
      refine s_ifeq (pc := 2156) (tgt := 2161) ?_ ?_ dL_law_2156 (by decide)
      · skip
        exact s_fall (pc := 2161) h63
      · skip
        refine s_iconst (pc := 2159) (v := 0) ?_ dL_law_2159 (by decide)
        exact s_zreturn (pc := 2160) rfl dL_law_2160
  · skip
    refine s_iconst (pc := 2142) (v := 0) ?_ dL_law_2142 (by decide)
    exact s_zreturn (pc := 2143) rfl dL_law_2143
theorem sbL_law_63 (g : GE) (J : Nat → KT) (h1 : Snd mL_law g 23 (J 1)) (h2 : Snd mL_law g 232 (J 2)) (h3 : Snd mL_law g 305 (J 3)) (h4 : Snd mL_law g 358 (J 4)) (h5 : Snd mL_law g 361 (J 5)) (h6 : Snd mL_law g 374 (J 6)) (h7 : Snd mL_law g 427 (J 7)) (h8 : Snd mL_law g 430 (J 8)) (h9 : Snd mL_law g 495 (J 9)) (h10 : Snd mL_law g 498 (J 10)) (h11 : Snd mL_law g 563 (J 11)) (h12 : Snd mL_law g 566 (J 12)) (h13 : Snd mL_law g 579 (J 13)) (h14 : Snd mL_law g 644 (J 14)) (h15 : Snd mL_law g 647 (J 15)) (h16 : Snd mL_law g 700 (J 16)) (h17 : Snd mL_law g 703 (J 17)) (h18 : Snd mL_law g 716 (J 18)) (h19 : Snd mL_law g 793 (J 19)) (h20 : Snd mL_law g 796 (J 20)) (h21 : Snd mL_law g 861 (J 21)) (h22 : Snd mL_law g 864 (J 22)) (h23 : Snd mL_law g 929 (J 23)) (h24 : Snd mL_law g 932 (J 24)) (h25 : Snd mL_law g 998 (J 25)) (h26 : Snd mL_law g 1004 (J 26)) (h27 : Snd mL_law g 1007 (J 27)) (h28 : Snd mL_law g 1072 (J 28)) (h29 : Snd mL_law g 1075 (J 29)) (h30 : Snd mL_law g 1140 (J 30)) (h31 : Snd mL_law g 1143 (J 31)) (h32 : Snd mL_law g 1196 (J 32)) (h33 : Snd mL_law g 1199 (J 33)) (h34 : Snd mL_law g 1212 (J 34)) (h35 : Snd mL_law g 1277 (J 35)) (h36 : Snd mL_law g 1280 (J 36)) (h37 : Snd mL_law g 1345 (J 37)) (h38 : Snd mL_law g 1348 (J 38)) (h39 : Snd mL_law g 1401 (J 39)) (h40 : Snd mL_law g 1404 (J 40)) (h41 : Snd mL_law g 1457 (J 41)) (h42 : Snd mL_law g 1460 (J 42)) (h43 : Snd mL_law g 1537 (J 43)) (h44 : Snd mL_law g 1540 (J 44)) (h45 : Snd mL_law g 1629 (J 45)) (h46 : Snd mL_law g 1632 (J 46)) (h47 : Snd mL_law g 1645 (J 47)) (h48 : Snd mL_law g 1697 (J 48)) (h49 : Snd mL_law g 1700 (J 49)) (h50 : Snd mL_law g 1776 (J 50)) (h51 : Snd mL_law g 1779 (J 51)) (h52 : Snd mL_law g 1792 (J 52)) (h53 : Snd mL_law g 1845 (J 53)) (h54 : Snd mL_law g 1848 (J 54)) (h55 : Snd mL_law g 1913 (J 55)) (h56 : Snd mL_law g 1916 (J 56)) (h57 : Snd mL_law g 1969 (J 57)) (h58 : Snd mL_law g 1972 (J 58)) (h59 : Snd mL_law g 2037 (J 59)) (h60 : Snd mL_law g 2040 (J 60)) (h61 : Snd mL_law g 2093 (J 61)) (h62 : Snd mL_law g 2096 (J 62)) (h63 : Snd mL_law g 2161 (J 63)) (h64 : Snd mL_law g 2164 (J 64)) (h65 : Snd mL_law g 2217 (J 65)) (h66 : Snd mL_law g 2220 (J 66)) (h67 : Snd mL_law g 2309 (J 67)) (h68 : Snd mL_law g 2312 (J 68)) (h69 : Snd mL_law g 2389 (J 69)) (h70 : Snd mL_law g 2392 (J 70)) (h71 : Snd mL_law g 2457 (J 71)) (h72 : Snd mL_law g 2460 (J 72)) (h73 : Snd mL_law g 2513 (J 73)) (h74 : Snd mL_law g 2516 (J 74)) (h75 : Snd mL_law g 2529 (J 75)) (h76 : Snd mL_law g 2542 (J 76)) (h77 : Snd mL_law g 2555 (J 77)) (h78 : Snd mL_law g 2580 (J 78)) (h79 : Snd mL_law g 2605 (J 79)) : Snd mL_law g 2161 (bL_law_63 g J) := by
  unfold bL_law_63
  exact s_goto (pc := 2161) (tgt := 2605) h79 dL_law_2161 (by decide)
theorem sbL_law_64 (g : GE) (J : Nat → KT) (h1 : Snd mL_law g 23 (J 1)) (h2 : Snd mL_law g 232 (J 2)) (h3 : Snd mL_law g 305 (J 3)) (h4 : Snd mL_law g 358 (J 4)) (h5 : Snd mL_law g 361 (J 5)) (h6 : Snd mL_law g 374 (J 6)) (h7 : Snd mL_law g 427 (J 7)) (h8 : Snd mL_law g 430 (J 8)) (h9 : Snd mL_law g 495 (J 9)) (h10 : Snd mL_law g 498 (J 10)) (h11 : Snd mL_law g 563 (J 11)) (h12 : Snd mL_law g 566 (J 12)) (h13 : Snd mL_law g 579 (J 13)) (h14 : Snd mL_law g 644 (J 14)) (h15 : Snd mL_law g 647 (J 15)) (h16 : Snd mL_law g 700 (J 16)) (h17 : Snd mL_law g 703 (J 17)) (h18 : Snd mL_law g 716 (J 18)) (h19 : Snd mL_law g 793 (J 19)) (h20 : Snd mL_law g 796 (J 20)) (h21 : Snd mL_law g 861 (J 21)) (h22 : Snd mL_law g 864 (J 22)) (h23 : Snd mL_law g 929 (J 23)) (h24 : Snd mL_law g 932 (J 24)) (h25 : Snd mL_law g 998 (J 25)) (h26 : Snd mL_law g 1004 (J 26)) (h27 : Snd mL_law g 1007 (J 27)) (h28 : Snd mL_law g 1072 (J 28)) (h29 : Snd mL_law g 1075 (J 29)) (h30 : Snd mL_law g 1140 (J 30)) (h31 : Snd mL_law g 1143 (J 31)) (h32 : Snd mL_law g 1196 (J 32)) (h33 : Snd mL_law g 1199 (J 33)) (h34 : Snd mL_law g 1212 (J 34)) (h35 : Snd mL_law g 1277 (J 35)) (h36 : Snd mL_law g 1280 (J 36)) (h37 : Snd mL_law g 1345 (J 37)) (h38 : Snd mL_law g 1348 (J 38)) (h39 : Snd mL_law g 1401 (J 39)) (h40 : Snd mL_law g 1404 (J 40)) (h41 : Snd mL_law g 1457 (J 41)) (h42 : Snd mL_law g 1460 (J 42)) (h43 : Snd mL_law g 1537 (J 43)) (h44 : Snd mL_law g 1540 (J 44)) (h45 : Snd mL_law g 1629 (J 45)) (h46 : Snd mL_law g 1632 (J 46)) (h47 : Snd mL_law g 1645 (J 47)) (h48 : Snd mL_law g 1697 (J 48)) (h49 : Snd mL_law g 1700 (J 49)) (h50 : Snd mL_law g 1776 (J 50)) (h51 : Snd mL_law g 1779 (J 51)) (h52 : Snd mL_law g 1792 (J 52)) (h53 : Snd mL_law g 1845 (J 53)) (h54 : Snd mL_law g 1848 (J 54)) (h55 : Snd mL_law g 1913 (J 55)) (h56 : Snd mL_law g 1916 (J 56)) (h57 : Snd mL_law g 1969 (J 57)) (h58 : Snd mL_law g 1972 (J 58)) (h59 : Snd mL_law g 2037 (J 59)) (h60 : Snd mL_law g 2040 (J 60)) (h61 : Snd mL_law g 2093 (J 61)) (h62 : Snd mL_law g 2096 (J 62)) (h63 : Snd mL_law g 2161 (J 63)) (h64 : Snd mL_law g 2164 (J 64)) (h65 : Snd mL_law g 2217 (J 65)) (h66 : Snd mL_law g 2220 (J 66)) (h67 : Snd mL_law g 2309 (J 67)) (h68 : Snd mL_law g 2312 (J 68)) (h69 : Snd mL_law g 2389 (J 69)) (h70 : Snd mL_law g 2392 (J 70)) (h71 : Snd mL_law g 2457 (J 71)) (h72 : Snd mL_law g 2460 (J 72)) (h73 : Snd mL_law g 2513 (J 73)) (h74 : Snd mL_law g 2516 (J 74)) (h75 : Snd mL_law g 2529 (J 75)) (h76 : Snd mL_law g 2542 (J 76)) (h77 : Snd mL_law g 2555 (J 77)) (h78 : Snd mL_law g 2580 (J 78)) (h79 : Snd mL_law g 2605 (J 79)) : Snd mL_law g 2164 (bL_law_64 g J) := by
  unfold bL_law_64
  refine s_aload_n (pc := 2164) (i := 1) ?_ dL_law_2164 rfl
  refine s_aload_n (pc := 2165) (i := 0) ?_ dL_law_2165 rfl
  refine s_iload (pc := 2166) (i := 4) ?_ dL_law_2166
  refine s_iconst (pc := 2168) (v := 1) ?_ dL_law_2168 (by decide)
  refine s_iadd (pc := 2169) ?_ dL_law_2169
  refine s_sli (pc := 2170) ?_ dL_law_2170
  refine s_aload_n (pc := 2171) (i := 3) ?_ dL_law_2171 rfl
  refine s_csW (pc := 2172) (n := 3) ?_ tL_middle wt_1311 wt_1312 wt_0 wt_1313 ⟨crL_middle, by decide, by decide⟩ dL_law_2172
  refine s_istore (pc := 2175) (i := 5) ?_ dL_law_2175 (by decide)
  refine s_aload_n (pc := 2177) (i := 2) ?_ dL_law_2177 rfl
  refine s_aload_n (pc := 2178) (i := 0) ?_ dL_law_2178 rfl
  refine s_iload (pc := 2179) (i := 4) ?_ dL_law_2179
  refine s_iconst (pc := 2181) (v := 1) ?_ dL_law_2181 (by decide)
  refine s_iadd (pc := 2182) ?_ dL_law_2182
  refine s_sli (pc := 2183) ?_ dL_law_2183
  refine s_cv (pc := 2184) (n := 1) (ci := 10) ?_ tX11_middle rfl rfl wt_1859 wt_1860 wt_1861 wt_17 wt_1862 ⟨crX11_middle, by decide, by decide⟩ dL_law_2184
  refine s_istore (pc := 2187) (i := 6) ?_ dL_law_2187 (by decide)
  refine s_aload_n (pc := 2189) (i := 2) ?_ dL_law_2189 rfl
  refine s_cv (pc := 2190) (n := 0) (ci := 10) ?_ tX11_thrown rfl rfl wt_1545 wt_1546 wt_1547 wt_17 wt_1548 ⟨crX11_thrown, by decide, by decide⟩ dL_law_2190
  refine s_iload (pc := 2193) (i := 5) ?_ dL_law_2193
  refine s_iceq (pc := 2195) (tgt := 2200) ?_ ?_ dL_law_2195 (by decide)
  · skip
    refine s_iload (pc := 2200) (i := 5) ?_ dL_law_2200
    refine s_ifne (pc := 2202) (tgt := 2217) ?_ ?_ dL_law_2202 (by decide)
    · skip
      exact s_fall (pc := 2217) h65
    · skip
      refine s_aload_n (pc := 2205) (i := 3) ?_ dL_law_2205 rfl
      refine s_iconst (pc := 2206) (v := 0) ?_ dL_law_2206 (by decide)
      refine s_laload (pc := 2207) ?_ dL_law_2207
      refine s_iload (pc := 2208) (i := 6) ?_ dL_law_2208
      refine s_i2l (pc := 2210) ?_ dL_law_2210
      refine s_lcmp (pc := 2211) ?_ dL_law_2211
      refine s_ifeq (pc := 2212) (tgt := 2217) ?_ ?_ dL_law_2212 (by decide)
      · skip
        exact s_fall (pc := 2217) h65
      · skip
        refine s_iconst (pc := 2215) (v := 0) ?_ dL_law_2215 (by decide)
        exact s_zreturn (pc := 2216) rfl dL_law_2216
  · skip
    refine s_iconst (pc := 2198) (v := 0) ?_ dL_law_2198 (by decide)
    exact s_zreturn (pc := 2199) rfl dL_law_2199
theorem sbL_law_65 (g : GE) (J : Nat → KT) (h1 : Snd mL_law g 23 (J 1)) (h2 : Snd mL_law g 232 (J 2)) (h3 : Snd mL_law g 305 (J 3)) (h4 : Snd mL_law g 358 (J 4)) (h5 : Snd mL_law g 361 (J 5)) (h6 : Snd mL_law g 374 (J 6)) (h7 : Snd mL_law g 427 (J 7)) (h8 : Snd mL_law g 430 (J 8)) (h9 : Snd mL_law g 495 (J 9)) (h10 : Snd mL_law g 498 (J 10)) (h11 : Snd mL_law g 563 (J 11)) (h12 : Snd mL_law g 566 (J 12)) (h13 : Snd mL_law g 579 (J 13)) (h14 : Snd mL_law g 644 (J 14)) (h15 : Snd mL_law g 647 (J 15)) (h16 : Snd mL_law g 700 (J 16)) (h17 : Snd mL_law g 703 (J 17)) (h18 : Snd mL_law g 716 (J 18)) (h19 : Snd mL_law g 793 (J 19)) (h20 : Snd mL_law g 796 (J 20)) (h21 : Snd mL_law g 861 (J 21)) (h22 : Snd mL_law g 864 (J 22)) (h23 : Snd mL_law g 929 (J 23)) (h24 : Snd mL_law g 932 (J 24)) (h25 : Snd mL_law g 998 (J 25)) (h26 : Snd mL_law g 1004 (J 26)) (h27 : Snd mL_law g 1007 (J 27)) (h28 : Snd mL_law g 1072 (J 28)) (h29 : Snd mL_law g 1075 (J 29)) (h30 : Snd mL_law g 1140 (J 30)) (h31 : Snd mL_law g 1143 (J 31)) (h32 : Snd mL_law g 1196 (J 32)) (h33 : Snd mL_law g 1199 (J 33)) (h34 : Snd mL_law g 1212 (J 34)) (h35 : Snd mL_law g 1277 (J 35)) (h36 : Snd mL_law g 1280 (J 36)) (h37 : Snd mL_law g 1345 (J 37)) (h38 : Snd mL_law g 1348 (J 38)) (h39 : Snd mL_law g 1401 (J 39)) (h40 : Snd mL_law g 1404 (J 40)) (h41 : Snd mL_law g 1457 (J 41)) (h42 : Snd mL_law g 1460 (J 42)) (h43 : Snd mL_law g 1537 (J 43)) (h44 : Snd mL_law g 1540 (J 44)) (h45 : Snd mL_law g 1629 (J 45)) (h46 : Snd mL_law g 1632 (J 46)) (h47 : Snd mL_law g 1645 (J 47)) (h48 : Snd mL_law g 1697 (J 48)) (h49 : Snd mL_law g 1700 (J 49)) (h50 : Snd mL_law g 1776 (J 50)) (h51 : Snd mL_law g 1779 (J 51)) (h52 : Snd mL_law g 1792 (J 52)) (h53 : Snd mL_law g 1845 (J 53)) (h54 : Snd mL_law g 1848 (J 54)) (h55 : Snd mL_law g 1913 (J 55)) (h56 : Snd mL_law g 1916 (J 56)) (h57 : Snd mL_law g 1969 (J 57)) (h58 : Snd mL_law g 1972 (J 58)) (h59 : Snd mL_law g 2037 (J 59)) (h60 : Snd mL_law g 2040 (J 60)) (h61 : Snd mL_law g 2093 (J 61)) (h62 : Snd mL_law g 2096 (J 62)) (h63 : Snd mL_law g 2161 (J 63)) (h64 : Snd mL_law g 2164 (J 64)) (h65 : Snd mL_law g 2217 (J 65)) (h66 : Snd mL_law g 2220 (J 66)) (h67 : Snd mL_law g 2309 (J 67)) (h68 : Snd mL_law g 2312 (J 68)) (h69 : Snd mL_law g 2389 (J 69)) (h70 : Snd mL_law g 2392 (J 70)) (h71 : Snd mL_law g 2457 (J 71)) (h72 : Snd mL_law g 2460 (J 72)) (h73 : Snd mL_law g 2513 (J 73)) (h74 : Snd mL_law g 2516 (J 74)) (h75 : Snd mL_law g 2529 (J 75)) (h76 : Snd mL_law g 2542 (J 76)) (h77 : Snd mL_law g 2555 (J 77)) (h78 : Snd mL_law g 2580 (J 78)) (h79 : Snd mL_law g 2605 (J 79)) : Snd mL_law g 2217 (bL_law_65 g J) := by
  unfold bL_law_65
  exact s_goto (pc := 2217) (tgt := 2605) h79 dL_law_2217 (by decide)
theorem sbL_law_66 (g : GE) (J : Nat → KT) (h1 : Snd mL_law g 23 (J 1)) (h2 : Snd mL_law g 232 (J 2)) (h3 : Snd mL_law g 305 (J 3)) (h4 : Snd mL_law g 358 (J 4)) (h5 : Snd mL_law g 361 (J 5)) (h6 : Snd mL_law g 374 (J 6)) (h7 : Snd mL_law g 427 (J 7)) (h8 : Snd mL_law g 430 (J 8)) (h9 : Snd mL_law g 495 (J 9)) (h10 : Snd mL_law g 498 (J 10)) (h11 : Snd mL_law g 563 (J 11)) (h12 : Snd mL_law g 566 (J 12)) (h13 : Snd mL_law g 579 (J 13)) (h14 : Snd mL_law g 644 (J 14)) (h15 : Snd mL_law g 647 (J 15)) (h16 : Snd mL_law g 700 (J 16)) (h17 : Snd mL_law g 703 (J 17)) (h18 : Snd mL_law g 716 (J 18)) (h19 : Snd mL_law g 793 (J 19)) (h20 : Snd mL_law g 796 (J 20)) (h21 : Snd mL_law g 861 (J 21)) (h22 : Snd mL_law g 864 (J 22)) (h23 : Snd mL_law g 929 (J 23)) (h24 : Snd mL_law g 932 (J 24)) (h25 : Snd mL_law g 998 (J 25)) (h26 : Snd mL_law g 1004 (J 26)) (h27 : Snd mL_law g 1007 (J 27)) (h28 : Snd mL_law g 1072 (J 28)) (h29 : Snd mL_law g 1075 (J 29)) (h30 : Snd mL_law g 1140 (J 30)) (h31 : Snd mL_law g 1143 (J 31)) (h32 : Snd mL_law g 1196 (J 32)) (h33 : Snd mL_law g 1199 (J 33)) (h34 : Snd mL_law g 1212 (J 34)) (h35 : Snd mL_law g 1277 (J 35)) (h36 : Snd mL_law g 1280 (J 36)) (h37 : Snd mL_law g 1345 (J 37)) (h38 : Snd mL_law g 1348 (J 38)) (h39 : Snd mL_law g 1401 (J 39)) (h40 : Snd mL_law g 1404 (J 40)) (h41 : Snd mL_law g 1457 (J 41)) (h42 : Snd mL_law g 1460 (J 42)) (h43 : Snd mL_law g 1537 (J 43)) (h44 : Snd mL_law g 1540 (J 44)) (h45 : Snd mL_law g 1629 (J 45)) (h46 : Snd mL_law g 1632 (J 46)) (h47 : Snd mL_law g 1645 (J 47)) (h48 : Snd mL_law g 1697 (J 48)) (h49 : Snd mL_law g 1700 (J 49)) (h50 : Snd mL_law g 1776 (J 50)) (h51 : Snd mL_law g 1779 (J 51)) (h52 : Snd mL_law g 1792 (J 52)) (h53 : Snd mL_law g 1845 (J 53)) (h54 : Snd mL_law g 1848 (J 54)) (h55 : Snd mL_law g 1913 (J 55)) (h56 : Snd mL_law g 1916 (J 56)) (h57 : Snd mL_law g 1969 (J 57)) (h58 : Snd mL_law g 1972 (J 58)) (h59 : Snd mL_law g 2037 (J 59)) (h60 : Snd mL_law g 2040 (J 60)) (h61 : Snd mL_law g 2093 (J 61)) (h62 : Snd mL_law g 2096 (J 62)) (h63 : Snd mL_law g 2161 (J 63)) (h64 : Snd mL_law g 2164 (J 64)) (h65 : Snd mL_law g 2217 (J 65)) (h66 : Snd mL_law g 2220 (J 66)) (h67 : Snd mL_law g 2309 (J 67)) (h68 : Snd mL_law g 2312 (J 68)) (h69 : Snd mL_law g 2389 (J 69)) (h70 : Snd mL_law g 2392 (J 70)) (h71 : Snd mL_law g 2457 (J 71)) (h72 : Snd mL_law g 2460 (J 72)) (h73 : Snd mL_law g 2513 (J 73)) (h74 : Snd mL_law g 2516 (J 74)) (h75 : Snd mL_law g 2529 (J 75)) (h76 : Snd mL_law g 2542 (J 76)) (h77 : Snd mL_law g 2555 (J 77)) (h78 : Snd mL_law g 2580 (J 78)) (h79 : Snd mL_law g 2605 (J 79)) : Snd mL_law g 2220 (bL_law_66 g J) := by
  unfold bL_law_66
  refine s_aload_n (pc := 2220) (i := 1) ?_ dL_law_2220 rfl
  refine s_aload_n (pc := 2221) (i := 0) ?_ dL_law_2221 rfl
  refine s_iload (pc := 2222) (i := 4) ?_ dL_law_2222
  refine s_iconst (pc := 2224) (v := 1) ?_ dL_law_2224 (by decide)
  refine s_iadd (pc := 2225) ?_ dL_law_2225
  refine s_sli (pc := 2226) ?_ dL_law_2226
  refine s_aload_n (pc := 2227) (i := 0) ?_ dL_law_2227 rfl
  refine s_iload (pc := 2228) (i := 4) ?_ dL_law_2228
  refine s_iconst (pc := 2230) (v := 2) ?_ dL_law_2230 (by decide)
  refine s_iadd (pc := 2231) ?_ dL_law_2231
  refine s_sli (pc := 2232) ?_ dL_law_2232
  refine s_aload_n (pc := 2233) (i := 0) ?_ dL_law_2233 rfl
  refine s_iload (pc := 2234) (i := 4) ?_ dL_law_2234
  refine s_iconst (pc := 2236) (v := 3) ?_ dL_law_2236 (by decide)
  refine s_iadd (pc := 2237) ?_ dL_law_2237
  refine s_sli (pc := 2238) ?_ dL_law_2238
  refine s_aload_n (pc := 2239) (i := 0) ?_ dL_law_2239 rfl
  refine s_iload (pc := 2240) (i := 4) ?_ dL_law_2240
  refine s_iconst (pc := 2242) (v := 4) ?_ dL_law_2242 (by decide)
  refine s_iadd (pc := 2243) ?_ dL_law_2243
  refine s_sli (pc := 2244) ?_ dL_law_2244
  refine s_aload_n (pc := 2245) (i := 3) ?_ dL_law_2245 rfl
  refine s_csW (pc := 2246) (n := 6) ?_ tL_when wt_1328 wt_1329 wt_0 wt_1330 ⟨crL_when, by decide, by decide⟩ dL_law_2246
  refine s_istore (pc := 2249) (i := 5) ?_ dL_law_2249 (by decide)
  refine s_aload_n (pc := 2251) (i := 2) ?_ dL_law_2251 rfl
  refine s_aload_n (pc := 2252) (i := 0) ?_ dL_law_2252 rfl
  refine s_iload (pc := 2253) (i := 4) ?_ dL_law_2253
  refine s_iconst (pc := 2255) (v := 1) ?_ dL_law_2255 (by decide)
  refine s_iadd (pc := 2256) ?_ dL_law_2256
  refine s_sli (pc := 2257) ?_ dL_law_2257
  refine s_aload_n (pc := 2258) (i := 0) ?_ dL_law_2258 rfl
  refine s_iload (pc := 2259) (i := 4) ?_ dL_law_2259
  refine s_iconst (pc := 2261) (v := 2) ?_ dL_law_2261 (by decide)
  refine s_iadd (pc := 2262) ?_ dL_law_2262
  refine s_sli (pc := 2263) ?_ dL_law_2263
  refine s_aload_n (pc := 2264) (i := 0) ?_ dL_law_2264 rfl
  refine s_iload (pc := 2265) (i := 4) ?_ dL_law_2265
  refine s_iconst (pc := 2267) (v := 3) ?_ dL_law_2267 (by decide)
  refine s_iadd (pc := 2268) ?_ dL_law_2268
  refine s_sli (pc := 2269) ?_ dL_law_2269
  refine s_aload_n (pc := 2270) (i := 0) ?_ dL_law_2270 rfl
  refine s_iload (pc := 2271) (i := 4) ?_ dL_law_2271
  refine s_iconst (pc := 2273) (v := 4) ?_ dL_law_2273 (by decide)
  refine s_iadd (pc := 2274) ?_ dL_law_2274
  refine s_sli (pc := 2275) ?_ dL_law_2275
  refine s_cv (pc := 2276) (n := 4) (ci := 10) ?_ tX11_when rfl rfl wt_1863 wt_1864 wt_1865 wt_17 wt_1866 ⟨crX11_when, by decide, by decide⟩ dL_law_2276
  refine s_istore (pc := 2279) (i := 6) ?_ dL_law_2279 (by decide)
  refine s_aload_n (pc := 2281) (i := 2) ?_ dL_law_2281 rfl
  refine s_cv (pc := 2282) (n := 0) (ci := 10) ?_ tX11_thrown rfl rfl wt_1545 wt_1546 wt_1547 wt_17 wt_1548 ⟨crX11_thrown, by decide, by decide⟩ dL_law_2282
  refine s_iload (pc := 2285) (i := 5) ?_ dL_law_2285
  refine s_iceq (pc := 2287) (tgt := 2292) ?_ ?_ dL_law_2287 (by decide)
  · skip
    refine s_iload (pc := 2292) (i := 5) ?_ dL_law_2292
    refine s_ifne (pc := 2294) (tgt := 2309) ?_ ?_ dL_law_2294 (by decide)
    · skip
      exact s_fall (pc := 2309) h67
    · skip
      refine s_aload_n (pc := 2297) (i := 3) ?_ dL_law_2297 rfl
      refine s_iconst (pc := 2298) (v := 0) ?_ dL_law_2298 (by decide)
      refine s_laload (pc := 2299) ?_ dL_law_2299
      refine s_iload (pc := 2300) (i := 6) ?_ dL_law_2300
      refine s_i2l (pc := 2302) ?_ dL_law_2302
      refine s_lcmp (pc := 2303) ?_ dL_law_2303
      refine s_ifeq (pc := 2304) (tgt := 2309) ?_ ?_ dL_law_2304 (by decide)
      · skip
        exact s_fall (pc := 2309) h67
      · skip
        refine s_iconst (pc := 2307) (v := 0) ?_ dL_law_2307 (by decide)
        exact s_zreturn (pc := 2308) rfl dL_law_2308
  · skip
    refine s_iconst (pc := 2290) (v := 0) ?_ dL_law_2290 (by decide)
    exact s_zreturn (pc := 2291) rfl dL_law_2291
theorem sbL_law_67 (g : GE) (J : Nat → KT) (h1 : Snd mL_law g 23 (J 1)) (h2 : Snd mL_law g 232 (J 2)) (h3 : Snd mL_law g 305 (J 3)) (h4 : Snd mL_law g 358 (J 4)) (h5 : Snd mL_law g 361 (J 5)) (h6 : Snd mL_law g 374 (J 6)) (h7 : Snd mL_law g 427 (J 7)) (h8 : Snd mL_law g 430 (J 8)) (h9 : Snd mL_law g 495 (J 9)) (h10 : Snd mL_law g 498 (J 10)) (h11 : Snd mL_law g 563 (J 11)) (h12 : Snd mL_law g 566 (J 12)) (h13 : Snd mL_law g 579 (J 13)) (h14 : Snd mL_law g 644 (J 14)) (h15 : Snd mL_law g 647 (J 15)) (h16 : Snd mL_law g 700 (J 16)) (h17 : Snd mL_law g 703 (J 17)) (h18 : Snd mL_law g 716 (J 18)) (h19 : Snd mL_law g 793 (J 19)) (h20 : Snd mL_law g 796 (J 20)) (h21 : Snd mL_law g 861 (J 21)) (h22 : Snd mL_law g 864 (J 22)) (h23 : Snd mL_law g 929 (J 23)) (h24 : Snd mL_law g 932 (J 24)) (h25 : Snd mL_law g 998 (J 25)) (h26 : Snd mL_law g 1004 (J 26)) (h27 : Snd mL_law g 1007 (J 27)) (h28 : Snd mL_law g 1072 (J 28)) (h29 : Snd mL_law g 1075 (J 29)) (h30 : Snd mL_law g 1140 (J 30)) (h31 : Snd mL_law g 1143 (J 31)) (h32 : Snd mL_law g 1196 (J 32)) (h33 : Snd mL_law g 1199 (J 33)) (h34 : Snd mL_law g 1212 (J 34)) (h35 : Snd mL_law g 1277 (J 35)) (h36 : Snd mL_law g 1280 (J 36)) (h37 : Snd mL_law g 1345 (J 37)) (h38 : Snd mL_law g 1348 (J 38)) (h39 : Snd mL_law g 1401 (J 39)) (h40 : Snd mL_law g 1404 (J 40)) (h41 : Snd mL_law g 1457 (J 41)) (h42 : Snd mL_law g 1460 (J 42)) (h43 : Snd mL_law g 1537 (J 43)) (h44 : Snd mL_law g 1540 (J 44)) (h45 : Snd mL_law g 1629 (J 45)) (h46 : Snd mL_law g 1632 (J 46)) (h47 : Snd mL_law g 1645 (J 47)) (h48 : Snd mL_law g 1697 (J 48)) (h49 : Snd mL_law g 1700 (J 49)) (h50 : Snd mL_law g 1776 (J 50)) (h51 : Snd mL_law g 1779 (J 51)) (h52 : Snd mL_law g 1792 (J 52)) (h53 : Snd mL_law g 1845 (J 53)) (h54 : Snd mL_law g 1848 (J 54)) (h55 : Snd mL_law g 1913 (J 55)) (h56 : Snd mL_law g 1916 (J 56)) (h57 : Snd mL_law g 1969 (J 57)) (h58 : Snd mL_law g 1972 (J 58)) (h59 : Snd mL_law g 2037 (J 59)) (h60 : Snd mL_law g 2040 (J 60)) (h61 : Snd mL_law g 2093 (J 61)) (h62 : Snd mL_law g 2096 (J 62)) (h63 : Snd mL_law g 2161 (J 63)) (h64 : Snd mL_law g 2164 (J 64)) (h65 : Snd mL_law g 2217 (J 65)) (h66 : Snd mL_law g 2220 (J 66)) (h67 : Snd mL_law g 2309 (J 67)) (h68 : Snd mL_law g 2312 (J 68)) (h69 : Snd mL_law g 2389 (J 69)) (h70 : Snd mL_law g 2392 (J 70)) (h71 : Snd mL_law g 2457 (J 71)) (h72 : Snd mL_law g 2460 (J 72)) (h73 : Snd mL_law g 2513 (J 73)) (h74 : Snd mL_law g 2516 (J 74)) (h75 : Snd mL_law g 2529 (J 75)) (h76 : Snd mL_law g 2542 (J 76)) (h77 : Snd mL_law g 2555 (J 77)) (h78 : Snd mL_law g 2580 (J 78)) (h79 : Snd mL_law g 2605 (J 79)) : Snd mL_law g 2309 (bL_law_67 g J) := by
  unfold bL_law_67
  exact s_goto (pc := 2309) (tgt := 2605) h79 dL_law_2309 (by decide)
theorem sbL_law_68 (g : GE) (J : Nat → KT) (h1 : Snd mL_law g 23 (J 1)) (h2 : Snd mL_law g 232 (J 2)) (h3 : Snd mL_law g 305 (J 3)) (h4 : Snd mL_law g 358 (J 4)) (h5 : Snd mL_law g 361 (J 5)) (h6 : Snd mL_law g 374 (J 6)) (h7 : Snd mL_law g 427 (J 7)) (h8 : Snd mL_law g 430 (J 8)) (h9 : Snd mL_law g 495 (J 9)) (h10 : Snd mL_law g 498 (J 10)) (h11 : Snd mL_law g 563 (J 11)) (h12 : Snd mL_law g 566 (J 12)) (h13 : Snd mL_law g 579 (J 13)) (h14 : Snd mL_law g 644 (J 14)) (h15 : Snd mL_law g 647 (J 15)) (h16 : Snd mL_law g 700 (J 16)) (h17 : Snd mL_law g 703 (J 17)) (h18 : Snd mL_law g 716 (J 18)) (h19 : Snd mL_law g 793 (J 19)) (h20 : Snd mL_law g 796 (J 20)) (h21 : Snd mL_law g 861 (J 21)) (h22 : Snd mL_law g 864 (J 22)) (h23 : Snd mL_law g 929 (J 23)) (h24 : Snd mL_law g 932 (J 24)) (h25 : Snd mL_law g 998 (J 25)) (h26 : Snd mL_law g 1004 (J 26)) (h27 : Snd mL_law g 1007 (J 27)) (h28 : Snd mL_law g 1072 (J 28)) (h29 : Snd mL_law g 1075 (J 29)) (h30 : Snd mL_law g 1140 (J 30)) (h31 : Snd mL_law g 1143 (J 31)) (h32 : Snd mL_law g 1196 (J 32)) (h33 : Snd mL_law g 1199 (J 33)) (h34 : Snd mL_law g 1212 (J 34)) (h35 : Snd mL_law g 1277 (J 35)) (h36 : Snd mL_law g 1280 (J 36)) (h37 : Snd mL_law g 1345 (J 37)) (h38 : Snd mL_law g 1348 (J 38)) (h39 : Snd mL_law g 1401 (J 39)) (h40 : Snd mL_law g 1404 (J 40)) (h41 : Snd mL_law g 1457 (J 41)) (h42 : Snd mL_law g 1460 (J 42)) (h43 : Snd mL_law g 1537 (J 43)) (h44 : Snd mL_law g 1540 (J 44)) (h45 : Snd mL_law g 1629 (J 45)) (h46 : Snd mL_law g 1632 (J 46)) (h47 : Snd mL_law g 1645 (J 47)) (h48 : Snd mL_law g 1697 (J 48)) (h49 : Snd mL_law g 1700 (J 49)) (h50 : Snd mL_law g 1776 (J 50)) (h51 : Snd mL_law g 1779 (J 51)) (h52 : Snd mL_law g 1792 (J 52)) (h53 : Snd mL_law g 1845 (J 53)) (h54 : Snd mL_law g 1848 (J 54)) (h55 : Snd mL_law g 1913 (J 55)) (h56 : Snd mL_law g 1916 (J 56)) (h57 : Snd mL_law g 1969 (J 57)) (h58 : Snd mL_law g 1972 (J 58)) (h59 : Snd mL_law g 2037 (J 59)) (h60 : Snd mL_law g 2040 (J 60)) (h61 : Snd mL_law g 2093 (J 61)) (h62 : Snd mL_law g 2096 (J 62)) (h63 : Snd mL_law g 2161 (J 63)) (h64 : Snd mL_law g 2164 (J 64)) (h65 : Snd mL_law g 2217 (J 65)) (h66 : Snd mL_law g 2220 (J 66)) (h67 : Snd mL_law g 2309 (J 67)) (h68 : Snd mL_law g 2312 (J 68)) (h69 : Snd mL_law g 2389 (J 69)) (h70 : Snd mL_law g 2392 (J 70)) (h71 : Snd mL_law g 2457 (J 71)) (h72 : Snd mL_law g 2460 (J 72)) (h73 : Snd mL_law g 2513 (J 73)) (h74 : Snd mL_law g 2516 (J 74)) (h75 : Snd mL_law g 2529 (J 75)) (h76 : Snd mL_law g 2542 (J 76)) (h77 : Snd mL_law g 2555 (J 77)) (h78 : Snd mL_law g 2580 (J 78)) (h79 : Snd mL_law g 2605 (J 79)) : Snd mL_law g 2312 (bL_law_68 g J) := by
  unfold bL_law_68
  refine s_aload_n (pc := 2312) (i := 1) ?_ dL_law_2312 rfl
  refine s_aload_n (pc := 2313) (i := 0) ?_ dL_law_2313 rfl
  refine s_iload (pc := 2314) (i := 4) ?_ dL_law_2314
  refine s_iconst (pc := 2316) (v := 1) ?_ dL_law_2316 (by decide)
  refine s_iadd (pc := 2317) ?_ dL_law_2317
  refine s_sli (pc := 2318) ?_ dL_law_2318
  refine s_aload_n (pc := 2319) (i := 0) ?_ dL_law_2319 rfl
  refine s_iload (pc := 2320) (i := 4) ?_ dL_law_2320
  refine s_iconst (pc := 2322) (v := 2) ?_ dL_law_2322 (by decide)
  refine s_iadd (pc := 2323) ?_ dL_law_2323
  refine s_sli (pc := 2324) ?_ dL_law_2324
  refine s_aload_n (pc := 2325) (i := 0) ?_ dL_law_2325 rfl
  refine s_iload (pc := 2326) (i := 4) ?_ dL_law_2326
  refine s_iconst (pc := 2328) (v := 3) ?_ dL_law_2328 (by decide)
  refine s_iadd (pc := 2329) ?_ dL_law_2329
  refine s_sli (pc := 2330) ?_ dL_law_2330
  refine s_aload_n (pc := 2331) (i := 3) ?_ dL_law_2331 rfl
  refine s_csW (pc := 2332) (n := 5) ?_ tL_steps wt_1335 wt_1336 wt_0 wt_1337 ⟨crL_steps, by decide, by decide⟩ dL_law_2332
  refine s_istore (pc := 2335) (i := 5) ?_ dL_law_2335 (by decide)
  refine s_aload_n (pc := 2337) (i := 2) ?_ dL_law_2337 rfl
  refine s_aload_n (pc := 2338) (i := 0) ?_ dL_law_2338 rfl
  refine s_iload (pc := 2339) (i := 4) ?_ dL_law_2339
  refine s_iconst (pc := 2341) (v := 1) ?_ dL_law_2341 (by decide)
  refine s_iadd (pc := 2342) ?_ dL_law_2342
  refine s_sli (pc := 2343) ?_ dL_law_2343
  refine s_aload_n (pc := 2344) (i := 0) ?_ dL_law_2344 rfl
  refine s_iload (pc := 2345) (i := 4) ?_ dL_law_2345
  refine s_iconst (pc := 2347) (v := 2) ?_ dL_law_2347 (by decide)
  refine s_iadd (pc := 2348) ?_ dL_law_2348
  refine s_sli (pc := 2349) ?_ dL_law_2349
  refine s_aload_n (pc := 2350) (i := 0) ?_ dL_law_2350 rfl
  refine s_iload (pc := 2351) (i := 4) ?_ dL_law_2351
  refine s_iconst (pc := 2353) (v := 3) ?_ dL_law_2353 (by decide)
  refine s_iadd (pc := 2354) ?_ dL_law_2354
  refine s_sli (pc := 2355) ?_ dL_law_2355
  refine s_cv (pc := 2356) (n := 3) (ci := 10) ?_ tX11_steps rfl rfl wt_1867 wt_1868 wt_1869 wt_17 wt_1870 ⟨crX11_steps, by decide, by decide⟩ dL_law_2356
  refine s_istore (pc := 2359) (i := 6) ?_ dL_law_2359 (by decide)
  refine s_aload_n (pc := 2361) (i := 2) ?_ dL_law_2361 rfl
  refine s_cv (pc := 2362) (n := 0) (ci := 10) ?_ tX11_thrown rfl rfl wt_1545 wt_1546 wt_1547 wt_17 wt_1548 ⟨crX11_thrown, by decide, by decide⟩ dL_law_2362
  refine s_iload (pc := 2365) (i := 5) ?_ dL_law_2365
  refine s_iceq (pc := 2367) (tgt := 2372) ?_ ?_ dL_law_2367 (by decide)
  · skip
    refine s_iload (pc := 2372) (i := 5) ?_ dL_law_2372
    refine s_ifne (pc := 2374) (tgt := 2389) ?_ ?_ dL_law_2374 (by decide)
    · skip
      exact s_fall (pc := 2389) h69
    · skip
      refine s_aload_n (pc := 2377) (i := 3) ?_ dL_law_2377 rfl
      refine s_iconst (pc := 2378) (v := 0) ?_ dL_law_2378 (by decide)
      refine s_laload (pc := 2379) ?_ dL_law_2379
      refine s_iload (pc := 2380) (i := 6) ?_ dL_law_2380
      refine s_i2l (pc := 2382) ?_ dL_law_2382
      refine s_lcmp (pc := 2383) ?_ dL_law_2383
      refine s_ifeq (pc := 2384) (tgt := 2389) ?_ ?_ dL_law_2384 (by decide)
      · skip
        exact s_fall (pc := 2389) h69
      · skip
        refine s_iconst (pc := 2387) (v := 0) ?_ dL_law_2387 (by decide)
        exact s_zreturn (pc := 2388) rfl dL_law_2388
  · skip
    refine s_iconst (pc := 2370) (v := 0) ?_ dL_law_2370 (by decide)
    exact s_zreturn (pc := 2371) rfl dL_law_2371
theorem sbL_law_69 (g : GE) (J : Nat → KT) (h1 : Snd mL_law g 23 (J 1)) (h2 : Snd mL_law g 232 (J 2)) (h3 : Snd mL_law g 305 (J 3)) (h4 : Snd mL_law g 358 (J 4)) (h5 : Snd mL_law g 361 (J 5)) (h6 : Snd mL_law g 374 (J 6)) (h7 : Snd mL_law g 427 (J 7)) (h8 : Snd mL_law g 430 (J 8)) (h9 : Snd mL_law g 495 (J 9)) (h10 : Snd mL_law g 498 (J 10)) (h11 : Snd mL_law g 563 (J 11)) (h12 : Snd mL_law g 566 (J 12)) (h13 : Snd mL_law g 579 (J 13)) (h14 : Snd mL_law g 644 (J 14)) (h15 : Snd mL_law g 647 (J 15)) (h16 : Snd mL_law g 700 (J 16)) (h17 : Snd mL_law g 703 (J 17)) (h18 : Snd mL_law g 716 (J 18)) (h19 : Snd mL_law g 793 (J 19)) (h20 : Snd mL_law g 796 (J 20)) (h21 : Snd mL_law g 861 (J 21)) (h22 : Snd mL_law g 864 (J 22)) (h23 : Snd mL_law g 929 (J 23)) (h24 : Snd mL_law g 932 (J 24)) (h25 : Snd mL_law g 998 (J 25)) (h26 : Snd mL_law g 1004 (J 26)) (h27 : Snd mL_law g 1007 (J 27)) (h28 : Snd mL_law g 1072 (J 28)) (h29 : Snd mL_law g 1075 (J 29)) (h30 : Snd mL_law g 1140 (J 30)) (h31 : Snd mL_law g 1143 (J 31)) (h32 : Snd mL_law g 1196 (J 32)) (h33 : Snd mL_law g 1199 (J 33)) (h34 : Snd mL_law g 1212 (J 34)) (h35 : Snd mL_law g 1277 (J 35)) (h36 : Snd mL_law g 1280 (J 36)) (h37 : Snd mL_law g 1345 (J 37)) (h38 : Snd mL_law g 1348 (J 38)) (h39 : Snd mL_law g 1401 (J 39)) (h40 : Snd mL_law g 1404 (J 40)) (h41 : Snd mL_law g 1457 (J 41)) (h42 : Snd mL_law g 1460 (J 42)) (h43 : Snd mL_law g 1537 (J 43)) (h44 : Snd mL_law g 1540 (J 44)) (h45 : Snd mL_law g 1629 (J 45)) (h46 : Snd mL_law g 1632 (J 46)) (h47 : Snd mL_law g 1645 (J 47)) (h48 : Snd mL_law g 1697 (J 48)) (h49 : Snd mL_law g 1700 (J 49)) (h50 : Snd mL_law g 1776 (J 50)) (h51 : Snd mL_law g 1779 (J 51)) (h52 : Snd mL_law g 1792 (J 52)) (h53 : Snd mL_law g 1845 (J 53)) (h54 : Snd mL_law g 1848 (J 54)) (h55 : Snd mL_law g 1913 (J 55)) (h56 : Snd mL_law g 1916 (J 56)) (h57 : Snd mL_law g 1969 (J 57)) (h58 : Snd mL_law g 1972 (J 58)) (h59 : Snd mL_law g 2037 (J 59)) (h60 : Snd mL_law g 2040 (J 60)) (h61 : Snd mL_law g 2093 (J 61)) (h62 : Snd mL_law g 2096 (J 62)) (h63 : Snd mL_law g 2161 (J 63)) (h64 : Snd mL_law g 2164 (J 64)) (h65 : Snd mL_law g 2217 (J 65)) (h66 : Snd mL_law g 2220 (J 66)) (h67 : Snd mL_law g 2309 (J 67)) (h68 : Snd mL_law g 2312 (J 68)) (h69 : Snd mL_law g 2389 (J 69)) (h70 : Snd mL_law g 2392 (J 70)) (h71 : Snd mL_law g 2457 (J 71)) (h72 : Snd mL_law g 2460 (J 72)) (h73 : Snd mL_law g 2513 (J 73)) (h74 : Snd mL_law g 2516 (J 74)) (h75 : Snd mL_law g 2529 (J 75)) (h76 : Snd mL_law g 2542 (J 76)) (h77 : Snd mL_law g 2555 (J 77)) (h78 : Snd mL_law g 2580 (J 78)) (h79 : Snd mL_law g 2605 (J 79)) : Snd mL_law g 2389 (bL_law_69 g J) := by
  unfold bL_law_69
  exact s_goto (pc := 2389) (tgt := 2605) h79 dL_law_2389 (by decide)
theorem sbL_law_70 (g : GE) (J : Nat → KT) (h1 : Snd mL_law g 23 (J 1)) (h2 : Snd mL_law g 232 (J 2)) (h3 : Snd mL_law g 305 (J 3)) (h4 : Snd mL_law g 358 (J 4)) (h5 : Snd mL_law g 361 (J 5)) (h6 : Snd mL_law g 374 (J 6)) (h7 : Snd mL_law g 427 (J 7)) (h8 : Snd mL_law g 430 (J 8)) (h9 : Snd mL_law g 495 (J 9)) (h10 : Snd mL_law g 498 (J 10)) (h11 : Snd mL_law g 563 (J 11)) (h12 : Snd mL_law g 566 (J 12)) (h13 : Snd mL_law g 579 (J 13)) (h14 : Snd mL_law g 644 (J 14)) (h15 : Snd mL_law g 647 (J 15)) (h16 : Snd mL_law g 700 (J 16)) (h17 : Snd mL_law g 703 (J 17)) (h18 : Snd mL_law g 716 (J 18)) (h19 : Snd mL_law g 793 (J 19)) (h20 : Snd mL_law g 796 (J 20)) (h21 : Snd mL_law g 861 (J 21)) (h22 : Snd mL_law g 864 (J 22)) (h23 : Snd mL_law g 929 (J 23)) (h24 : Snd mL_law g 932 (J 24)) (h25 : Snd mL_law g 998 (J 25)) (h26 : Snd mL_law g 1004 (J 26)) (h27 : Snd mL_law g 1007 (J 27)) (h28 : Snd mL_law g 1072 (J 28)) (h29 : Snd mL_law g 1075 (J 29)) (h30 : Snd mL_law g 1140 (J 30)) (h31 : Snd mL_law g 1143 (J 31)) (h32 : Snd mL_law g 1196 (J 32)) (h33 : Snd mL_law g 1199 (J 33)) (h34 : Snd mL_law g 1212 (J 34)) (h35 : Snd mL_law g 1277 (J 35)) (h36 : Snd mL_law g 1280 (J 36)) (h37 : Snd mL_law g 1345 (J 37)) (h38 : Snd mL_law g 1348 (J 38)) (h39 : Snd mL_law g 1401 (J 39)) (h40 : Snd mL_law g 1404 (J 40)) (h41 : Snd mL_law g 1457 (J 41)) (h42 : Snd mL_law g 1460 (J 42)) (h43 : Snd mL_law g 1537 (J 43)) (h44 : Snd mL_law g 1540 (J 44)) (h45 : Snd mL_law g 1629 (J 45)) (h46 : Snd mL_law g 1632 (J 46)) (h47 : Snd mL_law g 1645 (J 47)) (h48 : Snd mL_law g 1697 (J 48)) (h49 : Snd mL_law g 1700 (J 49)) (h50 : Snd mL_law g 1776 (J 50)) (h51 : Snd mL_law g 1779 (J 51)) (h52 : Snd mL_law g 1792 (J 52)) (h53 : Snd mL_law g 1845 (J 53)) (h54 : Snd mL_law g 1848 (J 54)) (h55 : Snd mL_law g 1913 (J 55)) (h56 : Snd mL_law g 1916 (J 56)) (h57 : Snd mL_law g 1969 (J 57)) (h58 : Snd mL_law g 1972 (J 58)) (h59 : Snd mL_law g 2037 (J 59)) (h60 : Snd mL_law g 2040 (J 60)) (h61 : Snd mL_law g 2093 (J 61)) (h62 : Snd mL_law g 2096 (J 62)) (h63 : Snd mL_law g 2161 (J 63)) (h64 : Snd mL_law g 2164 (J 64)) (h65 : Snd mL_law g 2217 (J 65)) (h66 : Snd mL_law g 2220 (J 66)) (h67 : Snd mL_law g 2309 (J 67)) (h68 : Snd mL_law g 2312 (J 68)) (h69 : Snd mL_law g 2389 (J 69)) (h70 : Snd mL_law g 2392 (J 70)) (h71 : Snd mL_law g 2457 (J 71)) (h72 : Snd mL_law g 2460 (J 72)) (h73 : Snd mL_law g 2513 (J 73)) (h74 : Snd mL_law g 2516 (J 74)) (h75 : Snd mL_law g 2529 (J 75)) (h76 : Snd mL_law g 2542 (J 76)) (h77 : Snd mL_law g 2555 (J 77)) (h78 : Snd mL_law g 2580 (J 78)) (h79 : Snd mL_law g 2605 (J 79)) : Snd mL_law g 2392 (bL_law_70 g J) := by
  unfold bL_law_70
  refine s_aload_n (pc := 2392) (i := 1) ?_ dL_law_2392 rfl
  refine s_aload_n (pc := 2393) (i := 0) ?_ dL_law_2393 rfl
  refine s_iload (pc := 2394) (i := 4) ?_ dL_law_2394
  refine s_iconst (pc := 2396) (v := 1) ?_ dL_law_2396 (by decide)
  refine s_iadd (pc := 2397) ?_ dL_law_2397
  refine s_sli (pc := 2398) ?_ dL_law_2398
  refine s_aload_n (pc := 2399) (i := 0) ?_ dL_law_2399 rfl
  refine s_iload (pc := 2400) (i := 4) ?_ dL_law_2400
  refine s_iconst (pc := 2402) (v := 2) ?_ dL_law_2402 (by decide)
  refine s_iadd (pc := 2403) ?_ dL_law_2403
  refine s_sli (pc := 2404) ?_ dL_law_2404
  refine s_aload_n (pc := 2405) (i := 3) ?_ dL_law_2405 rfl
  refine s_csW (pc := 2406) (n := 4) ?_ tL_pairs wt_1351 wt_1352 wt_0 wt_1353 ⟨crL_pairs, by decide, by decide⟩ dL_law_2406
  refine s_istore (pc := 2409) (i := 5) ?_ dL_law_2409 (by decide)
  refine s_aload_n (pc := 2411) (i := 2) ?_ dL_law_2411 rfl
  refine s_aload_n (pc := 2412) (i := 0) ?_ dL_law_2412 rfl
  refine s_iload (pc := 2413) (i := 4) ?_ dL_law_2413
  refine s_iconst (pc := 2415) (v := 1) ?_ dL_law_2415 (by decide)
  refine s_iadd (pc := 2416) ?_ dL_law_2416
  refine s_sli (pc := 2417) ?_ dL_law_2417
  refine s_aload_n (pc := 2418) (i := 0) ?_ dL_law_2418 rfl
  refine s_iload (pc := 2419) (i := 4) ?_ dL_law_2419
  refine s_iconst (pc := 2421) (v := 2) ?_ dL_law_2421 (by decide)
  refine s_iadd (pc := 2422) ?_ dL_law_2422
  refine s_sli (pc := 2423) ?_ dL_law_2423
  refine s_cv (pc := 2424) (n := 2) (ci := 10) ?_ tX11_pairs rfl rfl wt_1879 wt_1880 wt_1881 wt_17 wt_1882 ⟨crX11_pairs, by decide, by decide⟩ dL_law_2424
  refine s_istore (pc := 2427) (i := 6) ?_ dL_law_2427 (by decide)
  refine s_aload_n (pc := 2429) (i := 2) ?_ dL_law_2429 rfl
  refine s_cv (pc := 2430) (n := 0) (ci := 10) ?_ tX11_thrown rfl rfl wt_1545 wt_1546 wt_1547 wt_17 wt_1548 ⟨crX11_thrown, by decide, by decide⟩ dL_law_2430
  refine s_iload (pc := 2433) (i := 5) ?_ dL_law_2433
  refine s_iceq (pc := 2435) (tgt := 2440) ?_ ?_ dL_law_2435 (by decide)
  · skip
    refine s_iload (pc := 2440) (i := 5) ?_ dL_law_2440
    refine s_ifne (pc := 2442) (tgt := 2457) ?_ ?_ dL_law_2442 (by decide)
    · skip
      exact s_fall (pc := 2457) h71
    · skip
      refine s_aload_n (pc := 2445) (i := 3) ?_ dL_law_2445 rfl
      refine s_iconst (pc := 2446) (v := 0) ?_ dL_law_2446 (by decide)
      refine s_laload (pc := 2447) ?_ dL_law_2447
      refine s_iload (pc := 2448) (i := 6) ?_ dL_law_2448
      refine s_i2l (pc := 2450) ?_ dL_law_2450
      refine s_lcmp (pc := 2451) ?_ dL_law_2451
      refine s_ifeq (pc := 2452) (tgt := 2457) ?_ ?_ dL_law_2452 (by decide)
      · skip
        exact s_fall (pc := 2457) h71
      · skip
        refine s_iconst (pc := 2455) (v := 0) ?_ dL_law_2455 (by decide)
        exact s_zreturn (pc := 2456) rfl dL_law_2456
  · skip
    refine s_iconst (pc := 2438) (v := 0) ?_ dL_law_2438 (by decide)
    exact s_zreturn (pc := 2439) rfl dL_law_2439
theorem sbL_law_71 (g : GE) (J : Nat → KT) (h1 : Snd mL_law g 23 (J 1)) (h2 : Snd mL_law g 232 (J 2)) (h3 : Snd mL_law g 305 (J 3)) (h4 : Snd mL_law g 358 (J 4)) (h5 : Snd mL_law g 361 (J 5)) (h6 : Snd mL_law g 374 (J 6)) (h7 : Snd mL_law g 427 (J 7)) (h8 : Snd mL_law g 430 (J 8)) (h9 : Snd mL_law g 495 (J 9)) (h10 : Snd mL_law g 498 (J 10)) (h11 : Snd mL_law g 563 (J 11)) (h12 : Snd mL_law g 566 (J 12)) (h13 : Snd mL_law g 579 (J 13)) (h14 : Snd mL_law g 644 (J 14)) (h15 : Snd mL_law g 647 (J 15)) (h16 : Snd mL_law g 700 (J 16)) (h17 : Snd mL_law g 703 (J 17)) (h18 : Snd mL_law g 716 (J 18)) (h19 : Snd mL_law g 793 (J 19)) (h20 : Snd mL_law g 796 (J 20)) (h21 : Snd mL_law g 861 (J 21)) (h22 : Snd mL_law g 864 (J 22)) (h23 : Snd mL_law g 929 (J 23)) (h24 : Snd mL_law g 932 (J 24)) (h25 : Snd mL_law g 998 (J 25)) (h26 : Snd mL_law g 1004 (J 26)) (h27 : Snd mL_law g 1007 (J 27)) (h28 : Snd mL_law g 1072 (J 28)) (h29 : Snd mL_law g 1075 (J 29)) (h30 : Snd mL_law g 1140 (J 30)) (h31 : Snd mL_law g 1143 (J 31)) (h32 : Snd mL_law g 1196 (J 32)) (h33 : Snd mL_law g 1199 (J 33)) (h34 : Snd mL_law g 1212 (J 34)) (h35 : Snd mL_law g 1277 (J 35)) (h36 : Snd mL_law g 1280 (J 36)) (h37 : Snd mL_law g 1345 (J 37)) (h38 : Snd mL_law g 1348 (J 38)) (h39 : Snd mL_law g 1401 (J 39)) (h40 : Snd mL_law g 1404 (J 40)) (h41 : Snd mL_law g 1457 (J 41)) (h42 : Snd mL_law g 1460 (J 42)) (h43 : Snd mL_law g 1537 (J 43)) (h44 : Snd mL_law g 1540 (J 44)) (h45 : Snd mL_law g 1629 (J 45)) (h46 : Snd mL_law g 1632 (J 46)) (h47 : Snd mL_law g 1645 (J 47)) (h48 : Snd mL_law g 1697 (J 48)) (h49 : Snd mL_law g 1700 (J 49)) (h50 : Snd mL_law g 1776 (J 50)) (h51 : Snd mL_law g 1779 (J 51)) (h52 : Snd mL_law g 1792 (J 52)) (h53 : Snd mL_law g 1845 (J 53)) (h54 : Snd mL_law g 1848 (J 54)) (h55 : Snd mL_law g 1913 (J 55)) (h56 : Snd mL_law g 1916 (J 56)) (h57 : Snd mL_law g 1969 (J 57)) (h58 : Snd mL_law g 1972 (J 58)) (h59 : Snd mL_law g 2037 (J 59)) (h60 : Snd mL_law g 2040 (J 60)) (h61 : Snd mL_law g 2093 (J 61)) (h62 : Snd mL_law g 2096 (J 62)) (h63 : Snd mL_law g 2161 (J 63)) (h64 : Snd mL_law g 2164 (J 64)) (h65 : Snd mL_law g 2217 (J 65)) (h66 : Snd mL_law g 2220 (J 66)) (h67 : Snd mL_law g 2309 (J 67)) (h68 : Snd mL_law g 2312 (J 68)) (h69 : Snd mL_law g 2389 (J 69)) (h70 : Snd mL_law g 2392 (J 70)) (h71 : Snd mL_law g 2457 (J 71)) (h72 : Snd mL_law g 2460 (J 72)) (h73 : Snd mL_law g 2513 (J 73)) (h74 : Snd mL_law g 2516 (J 74)) (h75 : Snd mL_law g 2529 (J 75)) (h76 : Snd mL_law g 2542 (J 76)) (h77 : Snd mL_law g 2555 (J 77)) (h78 : Snd mL_law g 2580 (J 78)) (h79 : Snd mL_law g 2605 (J 79)) : Snd mL_law g 2457 (bL_law_71 g J) := by
  unfold bL_law_71
  exact s_goto (pc := 2457) (tgt := 2605) h79 dL_law_2457 (by decide)
theorem sbL_law_72 (g : GE) (J : Nat → KT) (h1 : Snd mL_law g 23 (J 1)) (h2 : Snd mL_law g 232 (J 2)) (h3 : Snd mL_law g 305 (J 3)) (h4 : Snd mL_law g 358 (J 4)) (h5 : Snd mL_law g 361 (J 5)) (h6 : Snd mL_law g 374 (J 6)) (h7 : Snd mL_law g 427 (J 7)) (h8 : Snd mL_law g 430 (J 8)) (h9 : Snd mL_law g 495 (J 9)) (h10 : Snd mL_law g 498 (J 10)) (h11 : Snd mL_law g 563 (J 11)) (h12 : Snd mL_law g 566 (J 12)) (h13 : Snd mL_law g 579 (J 13)) (h14 : Snd mL_law g 644 (J 14)) (h15 : Snd mL_law g 647 (J 15)) (h16 : Snd mL_law g 700 (J 16)) (h17 : Snd mL_law g 703 (J 17)) (h18 : Snd mL_law g 716 (J 18)) (h19 : Snd mL_law g 793 (J 19)) (h20 : Snd mL_law g 796 (J 20)) (h21 : Snd mL_law g 861 (J 21)) (h22 : Snd mL_law g 864 (J 22)) (h23 : Snd mL_law g 929 (J 23)) (h24 : Snd mL_law g 932 (J 24)) (h25 : Snd mL_law g 998 (J 25)) (h26 : Snd mL_law g 1004 (J 26)) (h27 : Snd mL_law g 1007 (J 27)) (h28 : Snd mL_law g 1072 (J 28)) (h29 : Snd mL_law g 1075 (J 29)) (h30 : Snd mL_law g 1140 (J 30)) (h31 : Snd mL_law g 1143 (J 31)) (h32 : Snd mL_law g 1196 (J 32)) (h33 : Snd mL_law g 1199 (J 33)) (h34 : Snd mL_law g 1212 (J 34)) (h35 : Snd mL_law g 1277 (J 35)) (h36 : Snd mL_law g 1280 (J 36)) (h37 : Snd mL_law g 1345 (J 37)) (h38 : Snd mL_law g 1348 (J 38)) (h39 : Snd mL_law g 1401 (J 39)) (h40 : Snd mL_law g 1404 (J 40)) (h41 : Snd mL_law g 1457 (J 41)) (h42 : Snd mL_law g 1460 (J 42)) (h43 : Snd mL_law g 1537 (J 43)) (h44 : Snd mL_law g 1540 (J 44)) (h45 : Snd mL_law g 1629 (J 45)) (h46 : Snd mL_law g 1632 (J 46)) (h47 : Snd mL_law g 1645 (J 47)) (h48 : Snd mL_law g 1697 (J 48)) (h49 : Snd mL_law g 1700 (J 49)) (h50 : Snd mL_law g 1776 (J 50)) (h51 : Snd mL_law g 1779 (J 51)) (h52 : Snd mL_law g 1792 (J 52)) (h53 : Snd mL_law g 1845 (J 53)) (h54 : Snd mL_law g 1848 (J 54)) (h55 : Snd mL_law g 1913 (J 55)) (h56 : Snd mL_law g 1916 (J 56)) (h57 : Snd mL_law g 1969 (J 57)) (h58 : Snd mL_law g 1972 (J 58)) (h59 : Snd mL_law g 2037 (J 59)) (h60 : Snd mL_law g 2040 (J 60)) (h61 : Snd mL_law g 2093 (J 61)) (h62 : Snd mL_law g 2096 (J 62)) (h63 : Snd mL_law g 2161 (J 63)) (h64 : Snd mL_law g 2164 (J 64)) (h65 : Snd mL_law g 2217 (J 65)) (h66 : Snd mL_law g 2220 (J 66)) (h67 : Snd mL_law g 2309 (J 67)) (h68 : Snd mL_law g 2312 (J 68)) (h69 : Snd mL_law g 2389 (J 69)) (h70 : Snd mL_law g 2392 (J 70)) (h71 : Snd mL_law g 2457 (J 71)) (h72 : Snd mL_law g 2460 (J 72)) (h73 : Snd mL_law g 2513 (J 73)) (h74 : Snd mL_law g 2516 (J 74)) (h75 : Snd mL_law g 2529 (J 75)) (h76 : Snd mL_law g 2542 (J 76)) (h77 : Snd mL_law g 2555 (J 77)) (h78 : Snd mL_law g 2580 (J 78)) (h79 : Snd mL_law g 2605 (J 79)) : Snd mL_law g 2460 (bL_law_72 g J) := by
  unfold bL_law_72
  refine s_aload_n (pc := 2460) (i := 1) ?_ dL_law_2460 rfl
  refine s_aload_n (pc := 2461) (i := 0) ?_ dL_law_2461 rfl
  refine s_iload (pc := 2462) (i := 4) ?_ dL_law_2462
  refine s_iconst (pc := 2464) (v := 1) ?_ dL_law_2464 (by decide)
  refine s_iadd (pc := 2465) ?_ dL_law_2465
  refine s_sli (pc := 2466) ?_ dL_law_2466
  refine s_aload_n (pc := 2467) (i := 3) ?_ dL_law_2467 rfl
  refine s_csW (pc := 2468) (n := 3) ?_ tL_rows wt_1358 wt_1359 wt_0 wt_1360 ⟨crL_rows, by decide, by decide⟩ dL_law_2468
  refine s_istore (pc := 2471) (i := 5) ?_ dL_law_2471 (by decide)
  refine s_aload_n (pc := 2473) (i := 2) ?_ dL_law_2473 rfl
  refine s_aload_n (pc := 2474) (i := 0) ?_ dL_law_2474 rfl
  refine s_iload (pc := 2475) (i := 4) ?_ dL_law_2475
  refine s_iconst (pc := 2477) (v := 1) ?_ dL_law_2477 (by decide)
  refine s_iadd (pc := 2478) ?_ dL_law_2478
  refine s_sli (pc := 2479) ?_ dL_law_2479
  refine s_cv (pc := 2480) (n := 1) (ci := 10) ?_ tX11_rows rfl rfl wt_1883 wt_1884 wt_1885 wt_17 wt_1886 ⟨crX11_rows, by decide, by decide⟩ dL_law_2480
  refine s_istore (pc := 2483) (i := 6) ?_ dL_law_2483 (by decide)
  refine s_aload_n (pc := 2485) (i := 2) ?_ dL_law_2485 rfl
  refine s_cv (pc := 2486) (n := 0) (ci := 10) ?_ tX11_thrown rfl rfl wt_1545 wt_1546 wt_1547 wt_17 wt_1548 ⟨crX11_thrown, by decide, by decide⟩ dL_law_2486
  refine s_iload (pc := 2489) (i := 5) ?_ dL_law_2489
  refine s_iceq (pc := 2491) (tgt := 2496) ?_ ?_ dL_law_2491 (by decide)
  · skip
    refine s_iload (pc := 2496) (i := 5) ?_ dL_law_2496
    refine s_ifne (pc := 2498) (tgt := 2513) ?_ ?_ dL_law_2498 (by decide)
    · skip
      exact s_fall (pc := 2513) h73
    · skip
      refine s_aload_n (pc := 2501) (i := 3) ?_ dL_law_2501 rfl
      refine s_iconst (pc := 2502) (v := 0) ?_ dL_law_2502 (by decide)
      refine s_laload (pc := 2503) ?_ dL_law_2503
      refine s_iload (pc := 2504) (i := 6) ?_ dL_law_2504
      refine s_i2l (pc := 2506) ?_ dL_law_2506
      refine s_lcmp (pc := 2507) ?_ dL_law_2507
      refine s_ifeq (pc := 2508) (tgt := 2513) ?_ ?_ dL_law_2508 (by decide)
      · skip
        exact s_fall (pc := 2513) h73
      · skip
        refine s_iconst (pc := 2511) (v := 0) ?_ dL_law_2511 (by decide)
        exact s_zreturn (pc := 2512) rfl dL_law_2512
  · skip
    refine s_iconst (pc := 2494) (v := 0) ?_ dL_law_2494 (by decide)
    exact s_zreturn (pc := 2495) rfl dL_law_2495
theorem sbL_law_73 (g : GE) (J : Nat → KT) (h1 : Snd mL_law g 23 (J 1)) (h2 : Snd mL_law g 232 (J 2)) (h3 : Snd mL_law g 305 (J 3)) (h4 : Snd mL_law g 358 (J 4)) (h5 : Snd mL_law g 361 (J 5)) (h6 : Snd mL_law g 374 (J 6)) (h7 : Snd mL_law g 427 (J 7)) (h8 : Snd mL_law g 430 (J 8)) (h9 : Snd mL_law g 495 (J 9)) (h10 : Snd mL_law g 498 (J 10)) (h11 : Snd mL_law g 563 (J 11)) (h12 : Snd mL_law g 566 (J 12)) (h13 : Snd mL_law g 579 (J 13)) (h14 : Snd mL_law g 644 (J 14)) (h15 : Snd mL_law g 647 (J 15)) (h16 : Snd mL_law g 700 (J 16)) (h17 : Snd mL_law g 703 (J 17)) (h18 : Snd mL_law g 716 (J 18)) (h19 : Snd mL_law g 793 (J 19)) (h20 : Snd mL_law g 796 (J 20)) (h21 : Snd mL_law g 861 (J 21)) (h22 : Snd mL_law g 864 (J 22)) (h23 : Snd mL_law g 929 (J 23)) (h24 : Snd mL_law g 932 (J 24)) (h25 : Snd mL_law g 998 (J 25)) (h26 : Snd mL_law g 1004 (J 26)) (h27 : Snd mL_law g 1007 (J 27)) (h28 : Snd mL_law g 1072 (J 28)) (h29 : Snd mL_law g 1075 (J 29)) (h30 : Snd mL_law g 1140 (J 30)) (h31 : Snd mL_law g 1143 (J 31)) (h32 : Snd mL_law g 1196 (J 32)) (h33 : Snd mL_law g 1199 (J 33)) (h34 : Snd mL_law g 1212 (J 34)) (h35 : Snd mL_law g 1277 (J 35)) (h36 : Snd mL_law g 1280 (J 36)) (h37 : Snd mL_law g 1345 (J 37)) (h38 : Snd mL_law g 1348 (J 38)) (h39 : Snd mL_law g 1401 (J 39)) (h40 : Snd mL_law g 1404 (J 40)) (h41 : Snd mL_law g 1457 (J 41)) (h42 : Snd mL_law g 1460 (J 42)) (h43 : Snd mL_law g 1537 (J 43)) (h44 : Snd mL_law g 1540 (J 44)) (h45 : Snd mL_law g 1629 (J 45)) (h46 : Snd mL_law g 1632 (J 46)) (h47 : Snd mL_law g 1645 (J 47)) (h48 : Snd mL_law g 1697 (J 48)) (h49 : Snd mL_law g 1700 (J 49)) (h50 : Snd mL_law g 1776 (J 50)) (h51 : Snd mL_law g 1779 (J 51)) (h52 : Snd mL_law g 1792 (J 52)) (h53 : Snd mL_law g 1845 (J 53)) (h54 : Snd mL_law g 1848 (J 54)) (h55 : Snd mL_law g 1913 (J 55)) (h56 : Snd mL_law g 1916 (J 56)) (h57 : Snd mL_law g 1969 (J 57)) (h58 : Snd mL_law g 1972 (J 58)) (h59 : Snd mL_law g 2037 (J 59)) (h60 : Snd mL_law g 2040 (J 60)) (h61 : Snd mL_law g 2093 (J 61)) (h62 : Snd mL_law g 2096 (J 62)) (h63 : Snd mL_law g 2161 (J 63)) (h64 : Snd mL_law g 2164 (J 64)) (h65 : Snd mL_law g 2217 (J 65)) (h66 : Snd mL_law g 2220 (J 66)) (h67 : Snd mL_law g 2309 (J 67)) (h68 : Snd mL_law g 2312 (J 68)) (h69 : Snd mL_law g 2389 (J 69)) (h70 : Snd mL_law g 2392 (J 70)) (h71 : Snd mL_law g 2457 (J 71)) (h72 : Snd mL_law g 2460 (J 72)) (h73 : Snd mL_law g 2513 (J 73)) (h74 : Snd mL_law g 2516 (J 74)) (h75 : Snd mL_law g 2529 (J 75)) (h76 : Snd mL_law g 2542 (J 76)) (h77 : Snd mL_law g 2555 (J 77)) (h78 : Snd mL_law g 2580 (J 78)) (h79 : Snd mL_law g 2605 (J 79)) : Snd mL_law g 2513 (bL_law_73 g J) := by
  unfold bL_law_73
  exact s_goto (pc := 2513) (tgt := 2605) h79 dL_law_2513 (by decide)
theorem sbL_law_74 (g : GE) (J : Nat → KT) (h1 : Snd mL_law g 23 (J 1)) (h2 : Snd mL_law g 232 (J 2)) (h3 : Snd mL_law g 305 (J 3)) (h4 : Snd mL_law g 358 (J 4)) (h5 : Snd mL_law g 361 (J 5)) (h6 : Snd mL_law g 374 (J 6)) (h7 : Snd mL_law g 427 (J 7)) (h8 : Snd mL_law g 430 (J 8)) (h9 : Snd mL_law g 495 (J 9)) (h10 : Snd mL_law g 498 (J 10)) (h11 : Snd mL_law g 563 (J 11)) (h12 : Snd mL_law g 566 (J 12)) (h13 : Snd mL_law g 579 (J 13)) (h14 : Snd mL_law g 644 (J 14)) (h15 : Snd mL_law g 647 (J 15)) (h16 : Snd mL_law g 700 (J 16)) (h17 : Snd mL_law g 703 (J 17)) (h18 : Snd mL_law g 716 (J 18)) (h19 : Snd mL_law g 793 (J 19)) (h20 : Snd mL_law g 796 (J 20)) (h21 : Snd mL_law g 861 (J 21)) (h22 : Snd mL_law g 864 (J 22)) (h23 : Snd mL_law g 929 (J 23)) (h24 : Snd mL_law g 932 (J 24)) (h25 : Snd mL_law g 998 (J 25)) (h26 : Snd mL_law g 1004 (J 26)) (h27 : Snd mL_law g 1007 (J 27)) (h28 : Snd mL_law g 1072 (J 28)) (h29 : Snd mL_law g 1075 (J 29)) (h30 : Snd mL_law g 1140 (J 30)) (h31 : Snd mL_law g 1143 (J 31)) (h32 : Snd mL_law g 1196 (J 32)) (h33 : Snd mL_law g 1199 (J 33)) (h34 : Snd mL_law g 1212 (J 34)) (h35 : Snd mL_law g 1277 (J 35)) (h36 : Snd mL_law g 1280 (J 36)) (h37 : Snd mL_law g 1345 (J 37)) (h38 : Snd mL_law g 1348 (J 38)) (h39 : Snd mL_law g 1401 (J 39)) (h40 : Snd mL_law g 1404 (J 40)) (h41 : Snd mL_law g 1457 (J 41)) (h42 : Snd mL_law g 1460 (J 42)) (h43 : Snd mL_law g 1537 (J 43)) (h44 : Snd mL_law g 1540 (J 44)) (h45 : Snd mL_law g 1629 (J 45)) (h46 : Snd mL_law g 1632 (J 46)) (h47 : Snd mL_law g 1645 (J 47)) (h48 : Snd mL_law g 1697 (J 48)) (h49 : Snd mL_law g 1700 (J 49)) (h50 : Snd mL_law g 1776 (J 50)) (h51 : Snd mL_law g 1779 (J 51)) (h52 : Snd mL_law g 1792 (J 52)) (h53 : Snd mL_law g 1845 (J 53)) (h54 : Snd mL_law g 1848 (J 54)) (h55 : Snd mL_law g 1913 (J 55)) (h56 : Snd mL_law g 1916 (J 56)) (h57 : Snd mL_law g 1969 (J 57)) (h58 : Snd mL_law g 1972 (J 58)) (h59 : Snd mL_law g 2037 (J 59)) (h60 : Snd mL_law g 2040 (J 60)) (h61 : Snd mL_law g 2093 (J 61)) (h62 : Snd mL_law g 2096 (J 62)) (h63 : Snd mL_law g 2161 (J 63)) (h64 : Snd mL_law g 2164 (J 64)) (h65 : Snd mL_law g 2217 (J 65)) (h66 : Snd mL_law g 2220 (J 66)) (h67 : Snd mL_law g 2309 (J 67)) (h68 : Snd mL_law g 2312 (J 68)) (h69 : Snd mL_law g 2389 (J 69)) (h70 : Snd mL_law g 2392 (J 70)) (h71 : Snd mL_law g 2457 (J 71)) (h72 : Snd mL_law g 2460 (J 72)) (h73 : Snd mL_law g 2513 (J 73)) (h74 : Snd mL_law g 2516 (J 74)) (h75 : Snd mL_law g 2529 (J 75)) (h76 : Snd mL_law g 2542 (J 76)) (h77 : Snd mL_law g 2555 (J 77)) (h78 : Snd mL_law g 2580 (J 78)) (h79 : Snd mL_law g 2605 (J 79)) : Snd mL_law g 2516 (bL_law_74 g J) := by
  unfold bL_law_74
  refine s_aload_n (pc := 2516) (i := 1) ?_ dL_law_2516 rfl
  refine s_cv (pc := 2517) (n := 0) (ci := 9) ?_ tX10_bare rfl rfl wt_581 wt_582 wt_583 wt_1 wt_584 ⟨crX10_bare, by decide, by decide⟩ dL_law_2517
  refine s_aload_n (pc := 2520) (i := 2) ?_ dL_law_2520 rfl
  refine s_cv (pc := 2521) (n := 0) (ci := 10) ?_ tX11_bare rfl rfl wt_1887 wt_1888 wt_1889 wt_17 wt_1890 ⟨crX11_bare, by decide, by decide⟩ dL_law_2521
  refine s_iceq (pc := 2524) (tgt := 2605) ?_ ?_ dL_law_2524 (by decide)
  · skip
    exact s_fall (pc := 2605) h79
  · skip
    refine s_iconst (pc := 2527) (v := 0) ?_ dL_law_2527 (by decide)
    exact s_zreturn (pc := 2528) rfl dL_law_2528
theorem sbL_law_75 (g : GE) (J : Nat → KT) (h1 : Snd mL_law g 23 (J 1)) (h2 : Snd mL_law g 232 (J 2)) (h3 : Snd mL_law g 305 (J 3)) (h4 : Snd mL_law g 358 (J 4)) (h5 : Snd mL_law g 361 (J 5)) (h6 : Snd mL_law g 374 (J 6)) (h7 : Snd mL_law g 427 (J 7)) (h8 : Snd mL_law g 430 (J 8)) (h9 : Snd mL_law g 495 (J 9)) (h10 : Snd mL_law g 498 (J 10)) (h11 : Snd mL_law g 563 (J 11)) (h12 : Snd mL_law g 566 (J 12)) (h13 : Snd mL_law g 579 (J 13)) (h14 : Snd mL_law g 644 (J 14)) (h15 : Snd mL_law g 647 (J 15)) (h16 : Snd mL_law g 700 (J 16)) (h17 : Snd mL_law g 703 (J 17)) (h18 : Snd mL_law g 716 (J 18)) (h19 : Snd mL_law g 793 (J 19)) (h20 : Snd mL_law g 796 (J 20)) (h21 : Snd mL_law g 861 (J 21)) (h22 : Snd mL_law g 864 (J 22)) (h23 : Snd mL_law g 929 (J 23)) (h24 : Snd mL_law g 932 (J 24)) (h25 : Snd mL_law g 998 (J 25)) (h26 : Snd mL_law g 1004 (J 26)) (h27 : Snd mL_law g 1007 (J 27)) (h28 : Snd mL_law g 1072 (J 28)) (h29 : Snd mL_law g 1075 (J 29)) (h30 : Snd mL_law g 1140 (J 30)) (h31 : Snd mL_law g 1143 (J 31)) (h32 : Snd mL_law g 1196 (J 32)) (h33 : Snd mL_law g 1199 (J 33)) (h34 : Snd mL_law g 1212 (J 34)) (h35 : Snd mL_law g 1277 (J 35)) (h36 : Snd mL_law g 1280 (J 36)) (h37 : Snd mL_law g 1345 (J 37)) (h38 : Snd mL_law g 1348 (J 38)) (h39 : Snd mL_law g 1401 (J 39)) (h40 : Snd mL_law g 1404 (J 40)) (h41 : Snd mL_law g 1457 (J 41)) (h42 : Snd mL_law g 1460 (J 42)) (h43 : Snd mL_law g 1537 (J 43)) (h44 : Snd mL_law g 1540 (J 44)) (h45 : Snd mL_law g 1629 (J 45)) (h46 : Snd mL_law g 1632 (J 46)) (h47 : Snd mL_law g 1645 (J 47)) (h48 : Snd mL_law g 1697 (J 48)) (h49 : Snd mL_law g 1700 (J 49)) (h50 : Snd mL_law g 1776 (J 50)) (h51 : Snd mL_law g 1779 (J 51)) (h52 : Snd mL_law g 1792 (J 52)) (h53 : Snd mL_law g 1845 (J 53)) (h54 : Snd mL_law g 1848 (J 54)) (h55 : Snd mL_law g 1913 (J 55)) (h56 : Snd mL_law g 1916 (J 56)) (h57 : Snd mL_law g 1969 (J 57)) (h58 : Snd mL_law g 1972 (J 58)) (h59 : Snd mL_law g 2037 (J 59)) (h60 : Snd mL_law g 2040 (J 60)) (h61 : Snd mL_law g 2093 (J 61)) (h62 : Snd mL_law g 2096 (J 62)) (h63 : Snd mL_law g 2161 (J 63)) (h64 : Snd mL_law g 2164 (J 64)) (h65 : Snd mL_law g 2217 (J 65)) (h66 : Snd mL_law g 2220 (J 66)) (h67 : Snd mL_law g 2309 (J 67)) (h68 : Snd mL_law g 2312 (J 68)) (h69 : Snd mL_law g 2389 (J 69)) (h70 : Snd mL_law g 2392 (J 70)) (h71 : Snd mL_law g 2457 (J 71)) (h72 : Snd mL_law g 2460 (J 72)) (h73 : Snd mL_law g 2513 (J 73)) (h74 : Snd mL_law g 2516 (J 74)) (h75 : Snd mL_law g 2529 (J 75)) (h76 : Snd mL_law g 2542 (J 76)) (h77 : Snd mL_law g 2555 (J 77)) (h78 : Snd mL_law g 2580 (J 78)) (h79 : Snd mL_law g 2605 (J 79)) : Snd mL_law g 2529 (bL_law_75 g J) := by
  unfold bL_law_75
  refine s_aload_n (pc := 2529) (i := 1) ?_ dL_law_2529 rfl
  refine s_cv (pc := 2530) (n := 0) (ci := 9) ?_ tX10_image rfl rfl wt_597 wt_598 wt_599 wt_1 wt_600 ⟨crX10_image, by decide, by decide⟩ dL_law_2530
  refine s_aload_n (pc := 2533) (i := 2) ?_ dL_law_2533 rfl
  refine s_cv (pc := 2534) (n := 0) (ci := 10) ?_ tX11_image rfl rfl wt_1891 wt_1892 wt_1893 wt_17 wt_1894 ⟨crX11_image, by decide, by decide⟩ dL_law_2534
  refine s_iceq (pc := 2537) (tgt := 2605) ?_ ?_ dL_law_2537 (by decide)
  · skip
    exact s_fall (pc := 2605) h79
  · skip
    refine s_iconst (pc := 2540) (v := 0) ?_ dL_law_2540 (by decide)
    exact s_zreturn (pc := 2541) rfl dL_law_2541
theorem sbL_law_76 (g : GE) (J : Nat → KT) (h1 : Snd mL_law g 23 (J 1)) (h2 : Snd mL_law g 232 (J 2)) (h3 : Snd mL_law g 305 (J 3)) (h4 : Snd mL_law g 358 (J 4)) (h5 : Snd mL_law g 361 (J 5)) (h6 : Snd mL_law g 374 (J 6)) (h7 : Snd mL_law g 427 (J 7)) (h8 : Snd mL_law g 430 (J 8)) (h9 : Snd mL_law g 495 (J 9)) (h10 : Snd mL_law g 498 (J 10)) (h11 : Snd mL_law g 563 (J 11)) (h12 : Snd mL_law g 566 (J 12)) (h13 : Snd mL_law g 579 (J 13)) (h14 : Snd mL_law g 644 (J 14)) (h15 : Snd mL_law g 647 (J 15)) (h16 : Snd mL_law g 700 (J 16)) (h17 : Snd mL_law g 703 (J 17)) (h18 : Snd mL_law g 716 (J 18)) (h19 : Snd mL_law g 793 (J 19)) (h20 : Snd mL_law g 796 (J 20)) (h21 : Snd mL_law g 861 (J 21)) (h22 : Snd mL_law g 864 (J 22)) (h23 : Snd mL_law g 929 (J 23)) (h24 : Snd mL_law g 932 (J 24)) (h25 : Snd mL_law g 998 (J 25)) (h26 : Snd mL_law g 1004 (J 26)) (h27 : Snd mL_law g 1007 (J 27)) (h28 : Snd mL_law g 1072 (J 28)) (h29 : Snd mL_law g 1075 (J 29)) (h30 : Snd mL_law g 1140 (J 30)) (h31 : Snd mL_law g 1143 (J 31)) (h32 : Snd mL_law g 1196 (J 32)) (h33 : Snd mL_law g 1199 (J 33)) (h34 : Snd mL_law g 1212 (J 34)) (h35 : Snd mL_law g 1277 (J 35)) (h36 : Snd mL_law g 1280 (J 36)) (h37 : Snd mL_law g 1345 (J 37)) (h38 : Snd mL_law g 1348 (J 38)) (h39 : Snd mL_law g 1401 (J 39)) (h40 : Snd mL_law g 1404 (J 40)) (h41 : Snd mL_law g 1457 (J 41)) (h42 : Snd mL_law g 1460 (J 42)) (h43 : Snd mL_law g 1537 (J 43)) (h44 : Snd mL_law g 1540 (J 44)) (h45 : Snd mL_law g 1629 (J 45)) (h46 : Snd mL_law g 1632 (J 46)) (h47 : Snd mL_law g 1645 (J 47)) (h48 : Snd mL_law g 1697 (J 48)) (h49 : Snd mL_law g 1700 (J 49)) (h50 : Snd mL_law g 1776 (J 50)) (h51 : Snd mL_law g 1779 (J 51)) (h52 : Snd mL_law g 1792 (J 52)) (h53 : Snd mL_law g 1845 (J 53)) (h54 : Snd mL_law g 1848 (J 54)) (h55 : Snd mL_law g 1913 (J 55)) (h56 : Snd mL_law g 1916 (J 56)) (h57 : Snd mL_law g 1969 (J 57)) (h58 : Snd mL_law g 1972 (J 58)) (h59 : Snd mL_law g 2037 (J 59)) (h60 : Snd mL_law g 2040 (J 60)) (h61 : Snd mL_law g 2093 (J 61)) (h62 : Snd mL_law g 2096 (J 62)) (h63 : Snd mL_law g 2161 (J 63)) (h64 : Snd mL_law g 2164 (J 64)) (h65 : Snd mL_law g 2217 (J 65)) (h66 : Snd mL_law g 2220 (J 66)) (h67 : Snd mL_law g 2309 (J 67)) (h68 : Snd mL_law g 2312 (J 68)) (h69 : Snd mL_law g 2389 (J 69)) (h70 : Snd mL_law g 2392 (J 70)) (h71 : Snd mL_law g 2457 (J 71)) (h72 : Snd mL_law g 2460 (J 72)) (h73 : Snd mL_law g 2513 (J 73)) (h74 : Snd mL_law g 2516 (J 74)) (h75 : Snd mL_law g 2529 (J 75)) (h76 : Snd mL_law g 2542 (J 76)) (h77 : Snd mL_law g 2555 (J 77)) (h78 : Snd mL_law g 2580 (J 78)) (h79 : Snd mL_law g 2605 (J 79)) : Snd mL_law g 2542 (bL_law_76 g J) := by
  unfold bL_law_76
  refine s_aload_n (pc := 2542) (i := 1) ?_ dL_law_2542 rfl
  refine s_cv (pc := 2543) (n := 0) (ci := 9) ?_ tX10_restore rfl rfl wt_606 wt_607 wt_608 wt_1 wt_609 ⟨crX10_restore, by decide, by decide⟩ dL_law_2543
  refine s_aload_n (pc := 2546) (i := 2) ?_ dL_law_2546 rfl
  refine s_cv (pc := 2547) (n := 0) (ci := 10) ?_ tX11_restore rfl rfl wt_1903 wt_1904 wt_1905 wt_17 wt_1906 ⟨crX11_restore, by decide, by decide⟩ dL_law_2547
  refine s_iceq (pc := 2550) (tgt := 2605) ?_ ?_ dL_law_2550 (by decide)
  · skip
    exact s_fall (pc := 2605) h79
  · skip
    refine s_iconst (pc := 2553) (v := 0) ?_ dL_law_2553 (by decide)
    exact s_zreturn (pc := 2554) rfl dL_law_2554
theorem sbL_law_77 (g : GE) (J : Nat → KT) (h1 : Snd mL_law g 23 (J 1)) (h2 : Snd mL_law g 232 (J 2)) (h3 : Snd mL_law g 305 (J 3)) (h4 : Snd mL_law g 358 (J 4)) (h5 : Snd mL_law g 361 (J 5)) (h6 : Snd mL_law g 374 (J 6)) (h7 : Snd mL_law g 427 (J 7)) (h8 : Snd mL_law g 430 (J 8)) (h9 : Snd mL_law g 495 (J 9)) (h10 : Snd mL_law g 498 (J 10)) (h11 : Snd mL_law g 563 (J 11)) (h12 : Snd mL_law g 566 (J 12)) (h13 : Snd mL_law g 579 (J 13)) (h14 : Snd mL_law g 644 (J 14)) (h15 : Snd mL_law g 647 (J 15)) (h16 : Snd mL_law g 700 (J 16)) (h17 : Snd mL_law g 703 (J 17)) (h18 : Snd mL_law g 716 (J 18)) (h19 : Snd mL_law g 793 (J 19)) (h20 : Snd mL_law g 796 (J 20)) (h21 : Snd mL_law g 861 (J 21)) (h22 : Snd mL_law g 864 (J 22)) (h23 : Snd mL_law g 929 (J 23)) (h24 : Snd mL_law g 932 (J 24)) (h25 : Snd mL_law g 998 (J 25)) (h26 : Snd mL_law g 1004 (J 26)) (h27 : Snd mL_law g 1007 (J 27)) (h28 : Snd mL_law g 1072 (J 28)) (h29 : Snd mL_law g 1075 (J 29)) (h30 : Snd mL_law g 1140 (J 30)) (h31 : Snd mL_law g 1143 (J 31)) (h32 : Snd mL_law g 1196 (J 32)) (h33 : Snd mL_law g 1199 (J 33)) (h34 : Snd mL_law g 1212 (J 34)) (h35 : Snd mL_law g 1277 (J 35)) (h36 : Snd mL_law g 1280 (J 36)) (h37 : Snd mL_law g 1345 (J 37)) (h38 : Snd mL_law g 1348 (J 38)) (h39 : Snd mL_law g 1401 (J 39)) (h40 : Snd mL_law g 1404 (J 40)) (h41 : Snd mL_law g 1457 (J 41)) (h42 : Snd mL_law g 1460 (J 42)) (h43 : Snd mL_law g 1537 (J 43)) (h44 : Snd mL_law g 1540 (J 44)) (h45 : Snd mL_law g 1629 (J 45)) (h46 : Snd mL_law g 1632 (J 46)) (h47 : Snd mL_law g 1645 (J 47)) (h48 : Snd mL_law g 1697 (J 48)) (h49 : Snd mL_law g 1700 (J 49)) (h50 : Snd mL_law g 1776 (J 50)) (h51 : Snd mL_law g 1779 (J 51)) (h52 : Snd mL_law g 1792 (J 52)) (h53 : Snd mL_law g 1845 (J 53)) (h54 : Snd mL_law g 1848 (J 54)) (h55 : Snd mL_law g 1913 (J 55)) (h56 : Snd mL_law g 1916 (J 56)) (h57 : Snd mL_law g 1969 (J 57)) (h58 : Snd mL_law g 1972 (J 58)) (h59 : Snd mL_law g 2037 (J 59)) (h60 : Snd mL_law g 2040 (J 60)) (h61 : Snd mL_law g 2093 (J 61)) (h62 : Snd mL_law g 2096 (J 62)) (h63 : Snd mL_law g 2161 (J 63)) (h64 : Snd mL_law g 2164 (J 64)) (h65 : Snd mL_law g 2217 (J 65)) (h66 : Snd mL_law g 2220 (J 66)) (h67 : Snd mL_law g 2309 (J 67)) (h68 : Snd mL_law g 2312 (J 68)) (h69 : Snd mL_law g 2389 (J 69)) (h70 : Snd mL_law g 2392 (J 70)) (h71 : Snd mL_law g 2457 (J 71)) (h72 : Snd mL_law g 2460 (J 72)) (h73 : Snd mL_law g 2513 (J 73)) (h74 : Snd mL_law g 2516 (J 74)) (h75 : Snd mL_law g 2529 (J 75)) (h76 : Snd mL_law g 2542 (J 76)) (h77 : Snd mL_law g 2555 (J 77)) (h78 : Snd mL_law g 2580 (J 78)) (h79 : Snd mL_law g 2605 (J 79)) : Snd mL_law g 2555 (bL_law_77 g J) := by
  unfold bL_law_77
  refine s_aload_n (pc := 2555) (i := 1) ?_ dL_law_2555 rfl
  refine s_aload_n (pc := 2556) (i := 0) ?_ dL_law_2556 rfl
  refine s_iload (pc := 2557) (i := 4) ?_ dL_law_2557
  refine s_iconst (pc := 2559) (v := 1) ?_ dL_law_2559 (by decide)
  refine s_iadd (pc := 2560) ?_ dL_law_2560
  refine s_sli (pc := 2561) ?_ dL_law_2561
  refine s_cv (pc := 2562) (n := 1) (ci := 9) ?_ tX10_status rfl rfl wt_610 wt_611 wt_612 wt_1 wt_613 ⟨crX10_status, by decide, by decide⟩ dL_law_2562
  refine s_aload_n (pc := 2565) (i := 2) ?_ dL_law_2565 rfl
  refine s_aload_n (pc := 2566) (i := 0) ?_ dL_law_2566 rfl
  refine s_iload (pc := 2567) (i := 4) ?_ dL_law_2567
  refine s_iconst (pc := 2569) (v := 1) ?_ dL_law_2569 (by decide)
  refine s_iadd (pc := 2570) ?_ dL_law_2570
  refine s_sli (pc := 2571) ?_ dL_law_2571
  refine s_cv (pc := 2572) (n := 1) (ci := 10) ?_ tX11_status rfl rfl wt_1907 wt_1908 wt_1909 wt_17 wt_1910 ⟨crX11_status, by decide, by decide⟩ dL_law_2572
  refine s_iceq (pc := 2575) (tgt := 2605) ?_ ?_ dL_law_2575 (by decide)
  · skip
    exact s_fall (pc := 2605) h79
  · skip
    refine s_iconst (pc := 2578) (v := 0) ?_ dL_law_2578 (by decide)
    exact s_zreturn (pc := 2579) rfl dL_law_2579
theorem sbL_law_78 (g : GE) (J : Nat → KT) (h1 : Snd mL_law g 23 (J 1)) (h2 : Snd mL_law g 232 (J 2)) (h3 : Snd mL_law g 305 (J 3)) (h4 : Snd mL_law g 358 (J 4)) (h5 : Snd mL_law g 361 (J 5)) (h6 : Snd mL_law g 374 (J 6)) (h7 : Snd mL_law g 427 (J 7)) (h8 : Snd mL_law g 430 (J 8)) (h9 : Snd mL_law g 495 (J 9)) (h10 : Snd mL_law g 498 (J 10)) (h11 : Snd mL_law g 563 (J 11)) (h12 : Snd mL_law g 566 (J 12)) (h13 : Snd mL_law g 579 (J 13)) (h14 : Snd mL_law g 644 (J 14)) (h15 : Snd mL_law g 647 (J 15)) (h16 : Snd mL_law g 700 (J 16)) (h17 : Snd mL_law g 703 (J 17)) (h18 : Snd mL_law g 716 (J 18)) (h19 : Snd mL_law g 793 (J 19)) (h20 : Snd mL_law g 796 (J 20)) (h21 : Snd mL_law g 861 (J 21)) (h22 : Snd mL_law g 864 (J 22)) (h23 : Snd mL_law g 929 (J 23)) (h24 : Snd mL_law g 932 (J 24)) (h25 : Snd mL_law g 998 (J 25)) (h26 : Snd mL_law g 1004 (J 26)) (h27 : Snd mL_law g 1007 (J 27)) (h28 : Snd mL_law g 1072 (J 28)) (h29 : Snd mL_law g 1075 (J 29)) (h30 : Snd mL_law g 1140 (J 30)) (h31 : Snd mL_law g 1143 (J 31)) (h32 : Snd mL_law g 1196 (J 32)) (h33 : Snd mL_law g 1199 (J 33)) (h34 : Snd mL_law g 1212 (J 34)) (h35 : Snd mL_law g 1277 (J 35)) (h36 : Snd mL_law g 1280 (J 36)) (h37 : Snd mL_law g 1345 (J 37)) (h38 : Snd mL_law g 1348 (J 38)) (h39 : Snd mL_law g 1401 (J 39)) (h40 : Snd mL_law g 1404 (J 40)) (h41 : Snd mL_law g 1457 (J 41)) (h42 : Snd mL_law g 1460 (J 42)) (h43 : Snd mL_law g 1537 (J 43)) (h44 : Snd mL_law g 1540 (J 44)) (h45 : Snd mL_law g 1629 (J 45)) (h46 : Snd mL_law g 1632 (J 46)) (h47 : Snd mL_law g 1645 (J 47)) (h48 : Snd mL_law g 1697 (J 48)) (h49 : Snd mL_law g 1700 (J 49)) (h50 : Snd mL_law g 1776 (J 50)) (h51 : Snd mL_law g 1779 (J 51)) (h52 : Snd mL_law g 1792 (J 52)) (h53 : Snd mL_law g 1845 (J 53)) (h54 : Snd mL_law g 1848 (J 54)) (h55 : Snd mL_law g 1913 (J 55)) (h56 : Snd mL_law g 1916 (J 56)) (h57 : Snd mL_law g 1969 (J 57)) (h58 : Snd mL_law g 1972 (J 58)) (h59 : Snd mL_law g 2037 (J 59)) (h60 : Snd mL_law g 2040 (J 60)) (h61 : Snd mL_law g 2093 (J 61)) (h62 : Snd mL_law g 2096 (J 62)) (h63 : Snd mL_law g 2161 (J 63)) (h64 : Snd mL_law g 2164 (J 64)) (h65 : Snd mL_law g 2217 (J 65)) (h66 : Snd mL_law g 2220 (J 66)) (h67 : Snd mL_law g 2309 (J 67)) (h68 : Snd mL_law g 2312 (J 68)) (h69 : Snd mL_law g 2389 (J 69)) (h70 : Snd mL_law g 2392 (J 70)) (h71 : Snd mL_law g 2457 (J 71)) (h72 : Snd mL_law g 2460 (J 72)) (h73 : Snd mL_law g 2513 (J 73)) (h74 : Snd mL_law g 2516 (J 74)) (h75 : Snd mL_law g 2529 (J 75)) (h76 : Snd mL_law g 2542 (J 76)) (h77 : Snd mL_law g 2555 (J 77)) (h78 : Snd mL_law g 2580 (J 78)) (h79 : Snd mL_law g 2605 (J 79)) : Snd mL_law g 2580 (bL_law_78 g J) := by
  unfold bL_law_78
  refine s_aload_n (pc := 2580) (i := 1) ?_ dL_law_2580 rfl
  refine s_aload_n (pc := 2581) (i := 0) ?_ dL_law_2581 rfl
  refine s_iload (pc := 2582) (i := 4) ?_ dL_law_2582
  refine s_iconst (pc := 2584) (v := 1) ?_ dL_law_2584 (by decide)
  refine s_iadd (pc := 2585) ?_ dL_law_2585
  refine s_sli (pc := 2586) ?_ dL_law_2586
  refine s_cv (pc := 2587) (n := 1) (ci := 9) ?_ tX10_count rfl rfl wt_614 wt_615 wt_616 wt_1 wt_617 ⟨crX10_count, by decide, by decide⟩ dL_law_2587
  refine s_aload_n (pc := 2590) (i := 2) ?_ dL_law_2590 rfl
  refine s_aload_n (pc := 2591) (i := 0) ?_ dL_law_2591 rfl
  refine s_iload (pc := 2592) (i := 4) ?_ dL_law_2592
  refine s_iconst (pc := 2594) (v := 1) ?_ dL_law_2594 (by decide)
  refine s_iadd (pc := 2595) ?_ dL_law_2595
  refine s_sli (pc := 2596) ?_ dL_law_2596
  refine s_cv (pc := 2597) (n := 1) (ci := 10) ?_ tX11_count rfl rfl wt_1911 wt_1912 wt_1913 wt_17 wt_1914 ⟨crX11_count, by decide, by decide⟩ dL_law_2597
  refine s_iceq (pc := 2600) (tgt := 2605) ?_ ?_ dL_law_2600 (by decide)
  · skip
    exact s_fall (pc := 2605) h79
  · skip
    refine s_iconst (pc := 2603) (v := 0) ?_ dL_law_2603 (by decide)
    exact s_zreturn (pc := 2604) rfl dL_law_2604
theorem sbL_law_79 (g : GE) (J : Nat → KT) (h1 : Snd mL_law g 23 (J 1)) (h2 : Snd mL_law g 232 (J 2)) (h3 : Snd mL_law g 305 (J 3)) (h4 : Snd mL_law g 358 (J 4)) (h5 : Snd mL_law g 361 (J 5)) (h6 : Snd mL_law g 374 (J 6)) (h7 : Snd mL_law g 427 (J 7)) (h8 : Snd mL_law g 430 (J 8)) (h9 : Snd mL_law g 495 (J 9)) (h10 : Snd mL_law g 498 (J 10)) (h11 : Snd mL_law g 563 (J 11)) (h12 : Snd mL_law g 566 (J 12)) (h13 : Snd mL_law g 579 (J 13)) (h14 : Snd mL_law g 644 (J 14)) (h15 : Snd mL_law g 647 (J 15)) (h16 : Snd mL_law g 700 (J 16)) (h17 : Snd mL_law g 703 (J 17)) (h18 : Snd mL_law g 716 (J 18)) (h19 : Snd mL_law g 793 (J 19)) (h20 : Snd mL_law g 796 (J 20)) (h21 : Snd mL_law g 861 (J 21)) (h22 : Snd mL_law g 864 (J 22)) (h23 : Snd mL_law g 929 (J 23)) (h24 : Snd mL_law g 932 (J 24)) (h25 : Snd mL_law g 998 (J 25)) (h26 : Snd mL_law g 1004 (J 26)) (h27 : Snd mL_law g 1007 (J 27)) (h28 : Snd mL_law g 1072 (J 28)) (h29 : Snd mL_law g 1075 (J 29)) (h30 : Snd mL_law g 1140 (J 30)) (h31 : Snd mL_law g 1143 (J 31)) (h32 : Snd mL_law g 1196 (J 32)) (h33 : Snd mL_law g 1199 (J 33)) (h34 : Snd mL_law g 1212 (J 34)) (h35 : Snd mL_law g 1277 (J 35)) (h36 : Snd mL_law g 1280 (J 36)) (h37 : Snd mL_law g 1345 (J 37)) (h38 : Snd mL_law g 1348 (J 38)) (h39 : Snd mL_law g 1401 (J 39)) (h40 : Snd mL_law g 1404 (J 40)) (h41 : Snd mL_law g 1457 (J 41)) (h42 : Snd mL_law g 1460 (J 42)) (h43 : Snd mL_law g 1537 (J 43)) (h44 : Snd mL_law g 1540 (J 44)) (h45 : Snd mL_law g 1629 (J 45)) (h46 : Snd mL_law g 1632 (J 46)) (h47 : Snd mL_law g 1645 (J 47)) (h48 : Snd mL_law g 1697 (J 48)) (h49 : Snd mL_law g 1700 (J 49)) (h50 : Snd mL_law g 1776 (J 50)) (h51 : Snd mL_law g 1779 (J 51)) (h52 : Snd mL_law g 1792 (J 52)) (h53 : Snd mL_law g 1845 (J 53)) (h54 : Snd mL_law g 1848 (J 54)) (h55 : Snd mL_law g 1913 (J 55)) (h56 : Snd mL_law g 1916 (J 56)) (h57 : Snd mL_law g 1969 (J 57)) (h58 : Snd mL_law g 1972 (J 58)) (h59 : Snd mL_law g 2037 (J 59)) (h60 : Snd mL_law g 2040 (J 60)) (h61 : Snd mL_law g 2093 (J 61)) (h62 : Snd mL_law g 2096 (J 62)) (h63 : Snd mL_law g 2161 (J 63)) (h64 : Snd mL_law g 2164 (J 64)) (h65 : Snd mL_law g 2217 (J 65)) (h66 : Snd mL_law g 2220 (J 66)) (h67 : Snd mL_law g 2309 (J 67)) (h68 : Snd mL_law g 2312 (J 68)) (h69 : Snd mL_law g 2389 (J 69)) (h70 : Snd mL_law g 2392 (J 70)) (h71 : Snd mL_law g 2457 (J 71)) (h72 : Snd mL_law g 2460 (J 72)) (h73 : Snd mL_law g 2513 (J 73)) (h74 : Snd mL_law g 2516 (J 74)) (h75 : Snd mL_law g 2529 (J 75)) (h76 : Snd mL_law g 2542 (J 76)) (h77 : Snd mL_law g 2555 (J 77)) (h78 : Snd mL_law g 2580 (J 78)) (h79 : Snd mL_law g 2605 (J 79)) : Snd mL_law g 2605 (bL_law_79 g J) := by
  unfold bL_law_79
  refine s_iinc (pc := 2605) (i := 4) (v := 6) ?_ dL_law_2605 (by decide) (by decide)
  exact s_goto (pc := 2608) (tgt := 23) h1 dL_law_2608 (by decide)
def jL_law (g : GE) : Nat → Nat → KT
  | 0, _ => fun _ _ _ => none
  | n + 1, 0 => bL_law_0 g (jL_law g n)
  | n + 1, 1 => bL_law_1 g (jL_law g n)
  | n + 1, 2 => bL_law_2 g (jL_law g n)
  | n + 1, 3 => bL_law_3 g (jL_law g n)
  | n + 1, 4 => bL_law_4 g (jL_law g n)
  | n + 1, 5 => bL_law_5 g (jL_law g n)
  | n + 1, 6 => bL_law_6 g (jL_law g n)
  | n + 1, 7 => bL_law_7 g (jL_law g n)
  | n + 1, 8 => bL_law_8 g (jL_law g n)
  | n + 1, 9 => bL_law_9 g (jL_law g n)
  | n + 1, 10 => bL_law_10 g (jL_law g n)
  | n + 1, 11 => bL_law_11 g (jL_law g n)
  | n + 1, 12 => bL_law_12 g (jL_law g n)
  | n + 1, 13 => bL_law_13 g (jL_law g n)
  | n + 1, 14 => bL_law_14 g (jL_law g n)
  | n + 1, 15 => bL_law_15 g (jL_law g n)
  | n + 1, 16 => bL_law_16 g (jL_law g n)
  | n + 1, 17 => bL_law_17 g (jL_law g n)
  | n + 1, 18 => bL_law_18 g (jL_law g n)
  | n + 1, 19 => bL_law_19 g (jL_law g n)
  | n + 1, 20 => bL_law_20 g (jL_law g n)
  | n + 1, 21 => bL_law_21 g (jL_law g n)
  | n + 1, 22 => bL_law_22 g (jL_law g n)
  | n + 1, 23 => bL_law_23 g (jL_law g n)
  | n + 1, 24 => bL_law_24 g (jL_law g n)
  | n + 1, 25 => bL_law_25 g (jL_law g n)
  | n + 1, 26 => bL_law_26 g (jL_law g n)
  | n + 1, 27 => bL_law_27 g (jL_law g n)
  | n + 1, 28 => bL_law_28 g (jL_law g n)
  | n + 1, 29 => bL_law_29 g (jL_law g n)
  | n + 1, 30 => bL_law_30 g (jL_law g n)
  | n + 1, 31 => bL_law_31 g (jL_law g n)
  | n + 1, 32 => bL_law_32 g (jL_law g n)
  | n + 1, 33 => bL_law_33 g (jL_law g n)
  | n + 1, 34 => bL_law_34 g (jL_law g n)
  | n + 1, 35 => bL_law_35 g (jL_law g n)
  | n + 1, 36 => bL_law_36 g (jL_law g n)
  | n + 1, 37 => bL_law_37 g (jL_law g n)
  | n + 1, 38 => bL_law_38 g (jL_law g n)
  | n + 1, 39 => bL_law_39 g (jL_law g n)
  | n + 1, 40 => bL_law_40 g (jL_law g n)
  | n + 1, 41 => bL_law_41 g (jL_law g n)
  | n + 1, 42 => bL_law_42 g (jL_law g n)
  | n + 1, 43 => bL_law_43 g (jL_law g n)
  | n + 1, 44 => bL_law_44 g (jL_law g n)
  | n + 1, 45 => bL_law_45 g (jL_law g n)
  | n + 1, 46 => bL_law_46 g (jL_law g n)
  | n + 1, 47 => bL_law_47 g (jL_law g n)
  | n + 1, 48 => bL_law_48 g (jL_law g n)
  | n + 1, 49 => bL_law_49 g (jL_law g n)
  | n + 1, 50 => bL_law_50 g (jL_law g n)
  | n + 1, 51 => bL_law_51 g (jL_law g n)
  | n + 1, 52 => bL_law_52 g (jL_law g n)
  | n + 1, 53 => bL_law_53 g (jL_law g n)
  | n + 1, 54 => bL_law_54 g (jL_law g n)
  | n + 1, 55 => bL_law_55 g (jL_law g n)
  | n + 1, 56 => bL_law_56 g (jL_law g n)
  | n + 1, 57 => bL_law_57 g (jL_law g n)
  | n + 1, 58 => bL_law_58 g (jL_law g n)
  | n + 1, 59 => bL_law_59 g (jL_law g n)
  | n + 1, 60 => bL_law_60 g (jL_law g n)
  | n + 1, 61 => bL_law_61 g (jL_law g n)
  | n + 1, 62 => bL_law_62 g (jL_law g n)
  | n + 1, 63 => bL_law_63 g (jL_law g n)
  | n + 1, 64 => bL_law_64 g (jL_law g n)
  | n + 1, 65 => bL_law_65 g (jL_law g n)
  | n + 1, 66 => bL_law_66 g (jL_law g n)
  | n + 1, 67 => bL_law_67 g (jL_law g n)
  | n + 1, 68 => bL_law_68 g (jL_law g n)
  | n + 1, 69 => bL_law_69 g (jL_law g n)
  | n + 1, 70 => bL_law_70 g (jL_law g n)
  | n + 1, 71 => bL_law_71 g (jL_law g n)
  | n + 1, 72 => bL_law_72 g (jL_law g n)
  | n + 1, 73 => bL_law_73 g (jL_law g n)
  | n + 1, 74 => bL_law_74 g (jL_law g n)
  | n + 1, 75 => bL_law_75 g (jL_law g n)
  | n + 1, 76 => bL_law_76 g (jL_law g n)
  | n + 1, 77 => bL_law_77 g (jL_law g n)
  | n + 1, 78 => bL_law_78 g (jL_law g n)
  | n + 1, 79 => bL_law_79 g (jL_law g n)
  | _ + 1, _ + 80 => fun _ _ _ => none
theorem sjL_law (g : GE) : ∀ n, Snd mL_law g 0 (jL_law g n 0) ∧ Snd mL_law g 23 (jL_law g n 1) ∧ Snd mL_law g 232 (jL_law g n 2) ∧ Snd mL_law g 305 (jL_law g n 3) ∧ Snd mL_law g 358 (jL_law g n 4) ∧ Snd mL_law g 361 (jL_law g n 5) ∧ Snd mL_law g 374 (jL_law g n 6) ∧ Snd mL_law g 427 (jL_law g n 7) ∧ Snd mL_law g 430 (jL_law g n 8) ∧ Snd mL_law g 495 (jL_law g n 9) ∧ Snd mL_law g 498 (jL_law g n 10) ∧ Snd mL_law g 563 (jL_law g n 11) ∧ Snd mL_law g 566 (jL_law g n 12) ∧ Snd mL_law g 579 (jL_law g n 13) ∧ Snd mL_law g 644 (jL_law g n 14) ∧ Snd mL_law g 647 (jL_law g n 15) ∧ Snd mL_law g 700 (jL_law g n 16) ∧ Snd mL_law g 703 (jL_law g n 17) ∧ Snd mL_law g 716 (jL_law g n 18) ∧ Snd mL_law g 793 (jL_law g n 19) ∧ Snd mL_law g 796 (jL_law g n 20) ∧ Snd mL_law g 861 (jL_law g n 21) ∧ Snd mL_law g 864 (jL_law g n 22) ∧ Snd mL_law g 929 (jL_law g n 23) ∧ Snd mL_law g 932 (jL_law g n 24) ∧ Snd mL_law g 998 (jL_law g n 25) ∧ Snd mL_law g 1004 (jL_law g n 26) ∧ Snd mL_law g 1007 (jL_law g n 27) ∧ Snd mL_law g 1072 (jL_law g n 28) ∧ Snd mL_law g 1075 (jL_law g n 29) ∧ Snd mL_law g 1140 (jL_law g n 30) ∧ Snd mL_law g 1143 (jL_law g n 31) ∧ Snd mL_law g 1196 (jL_law g n 32) ∧ Snd mL_law g 1199 (jL_law g n 33) ∧ Snd mL_law g 1212 (jL_law g n 34) ∧ Snd mL_law g 1277 (jL_law g n 35) ∧ Snd mL_law g 1280 (jL_law g n 36) ∧ Snd mL_law g 1345 (jL_law g n 37) ∧ Snd mL_law g 1348 (jL_law g n 38) ∧ Snd mL_law g 1401 (jL_law g n 39) ∧ Snd mL_law g 1404 (jL_law g n 40) ∧ Snd mL_law g 1457 (jL_law g n 41) ∧ Snd mL_law g 1460 (jL_law g n 42) ∧ Snd mL_law g 1537 (jL_law g n 43) ∧ Snd mL_law g 1540 (jL_law g n 44) ∧ Snd mL_law g 1629 (jL_law g n 45) ∧ Snd mL_law g 1632 (jL_law g n 46) ∧ Snd mL_law g 1645 (jL_law g n 47) ∧ Snd mL_law g 1697 (jL_law g n 48) ∧ Snd mL_law g 1700 (jL_law g n 49) ∧ Snd mL_law g 1776 (jL_law g n 50) ∧ Snd mL_law g 1779 (jL_law g n 51) ∧ Snd mL_law g 1792 (jL_law g n 52) ∧ Snd mL_law g 1845 (jL_law g n 53) ∧ Snd mL_law g 1848 (jL_law g n 54) ∧ Snd mL_law g 1913 (jL_law g n 55) ∧ Snd mL_law g 1916 (jL_law g n 56) ∧ Snd mL_law g 1969 (jL_law g n 57) ∧ Snd mL_law g 1972 (jL_law g n 58) ∧ Snd mL_law g 2037 (jL_law g n 59) ∧ Snd mL_law g 2040 (jL_law g n 60) ∧ Snd mL_law g 2093 (jL_law g n 61) ∧ Snd mL_law g 2096 (jL_law g n 62) ∧ Snd mL_law g 2161 (jL_law g n 63) ∧ Snd mL_law g 2164 (jL_law g n 64) ∧ Snd mL_law g 2217 (jL_law g n 65) ∧ Snd mL_law g 2220 (jL_law g n 66) ∧ Snd mL_law g 2309 (jL_law g n 67) ∧ Snd mL_law g 2312 (jL_law g n 68) ∧ Snd mL_law g 2389 (jL_law g n 69) ∧ Snd mL_law g 2392 (jL_law g n 70) ∧ Snd mL_law g 2457 (jL_law g n 71) ∧ Snd mL_law g 2460 (jL_law g n 72) ∧ Snd mL_law g 2513 (jL_law g n 73) ∧ Snd mL_law g 2516 (jL_law g n 74) ∧ Snd mL_law g 2529 (jL_law g n 75) ∧ Snd mL_law g 2542 (jL_law g n 76) ∧ Snd mL_law g 2555 (jL_law g n 77) ∧ Snd mL_law g 2580 (jL_law g n 78) ∧ Snd mL_law g 2605 (jL_law g n 79)
  | 0 => ⟨s_none, s_none, s_none, s_none, s_none, s_none, s_none, s_none, s_none, s_none, s_none, s_none, s_none, s_none, s_none, s_none, s_none, s_none, s_none, s_none, s_none, s_none, s_none, s_none, s_none, s_none, s_none, s_none, s_none, s_none, s_none, s_none, s_none, s_none, s_none, s_none, s_none, s_none, s_none, s_none, s_none, s_none, s_none, s_none, s_none, s_none, s_none, s_none, s_none, s_none, s_none, s_none, s_none, s_none, s_none, s_none, s_none, s_none, s_none, s_none, s_none, s_none, s_none, s_none, s_none, s_none, s_none, s_none, s_none, s_none, s_none, s_none, s_none, s_none, s_none, s_none, s_none, s_none, s_none, s_none⟩
  | n + 1 => by
    obtain ⟨-, h1, h2, h3, h4, h5, h6, h7, h8, h9, h10, h11, h12, h13, h14, h15, h16, h17, h18, h19, h20, h21, h22, h23, h24, h25, h26, h27, h28, h29, h30, h31, h32, h33, h34, h35, h36, h37, h38, h39, h40, h41, h42, h43, h44, h45, h46, h47, h48, h49, h50, h51, h52, h53, h54, h55, h56, h57, h58, h59, h60, h61, h62, h63, h64, h65, h66, h67, h68, h69, h70, h71, h72, h73, h74, h75, h76, h77, h78, h79⟩ := sjL_law g n
    exact ⟨sbL_law_0 g _ h1 h2 h3 h4 h5 h6 h7 h8 h9 h10 h11 h12 h13 h14 h15 h16 h17 h18 h19 h20 h21 h22 h23 h24 h25 h26 h27 h28 h29 h30 h31 h32 h33 h34 h35 h36 h37 h38 h39 h40 h41 h42 h43 h44 h45 h46 h47 h48 h49 h50 h51 h52 h53 h54 h55 h56 h57 h58 h59 h60 h61 h62 h63 h64 h65 h66 h67 h68 h69 h70 h71 h72 h73 h74 h75 h76 h77 h78 h79, sbL_law_1 g _ h1 h2 h3 h4 h5 h6 h7 h8 h9 h10 h11 h12 h13 h14 h15 h16 h17 h18 h19 h20 h21 h22 h23 h24 h25 h26 h27 h28 h29 h30 h31 h32 h33 h34 h35 h36 h37 h38 h39 h40 h41 h42 h43 h44 h45 h46 h47 h48 h49 h50 h51 h52 h53 h54 h55 h56 h57 h58 h59 h60 h61 h62 h63 h64 h65 h66 h67 h68 h69 h70 h71 h72 h73 h74 h75 h76 h77 h78 h79, sbL_law_2 g _ h1 h2 h3 h4 h5 h6 h7 h8 h9 h10 h11 h12 h13 h14 h15 h16 h17 h18 h19 h20 h21 h22 h23 h24 h25 h26 h27 h28 h29 h30 h31 h32 h33 h34 h35 h36 h37 h38 h39 h40 h41 h42 h43 h44 h45 h46 h47 h48 h49 h50 h51 h52 h53 h54 h55 h56 h57 h58 h59 h60 h61 h62 h63 h64 h65 h66 h67 h68 h69 h70 h71 h72 h73 h74 h75 h76 h77 h78 h79, sbL_law_3 g _ h1 h2 h3 h4 h5 h6 h7 h8 h9 h10 h11 h12 h13 h14 h15 h16 h17 h18 h19 h20 h21 h22 h23 h24 h25 h26 h27 h28 h29 h30 h31 h32 h33 h34 h35 h36 h37 h38 h39 h40 h41 h42 h43 h44 h45 h46 h47 h48 h49 h50 h51 h52 h53 h54 h55 h56 h57 h58 h59 h60 h61 h62 h63 h64 h65 h66 h67 h68 h69 h70 h71 h72 h73 h74 h75 h76 h77 h78 h79, sbL_law_4 g _ h1 h2 h3 h4 h5 h6 h7 h8 h9 h10 h11 h12 h13 h14 h15 h16 h17 h18 h19 h20 h21 h22 h23 h24 h25 h26 h27 h28 h29 h30 h31 h32 h33 h34 h35 h36 h37 h38 h39 h40 h41 h42 h43 h44 h45 h46 h47 h48 h49 h50 h51 h52 h53 h54 h55 h56 h57 h58 h59 h60 h61 h62 h63 h64 h65 h66 h67 h68 h69 h70 h71 h72 h73 h74 h75 h76 h77 h78 h79, sbL_law_5 g _ h1 h2 h3 h4 h5 h6 h7 h8 h9 h10 h11 h12 h13 h14 h15 h16 h17 h18 h19 h20 h21 h22 h23 h24 h25 h26 h27 h28 h29 h30 h31 h32 h33 h34 h35 h36 h37 h38 h39 h40 h41 h42 h43 h44 h45 h46 h47 h48 h49 h50 h51 h52 h53 h54 h55 h56 h57 h58 h59 h60 h61 h62 h63 h64 h65 h66 h67 h68 h69 h70 h71 h72 h73 h74 h75 h76 h77 h78 h79, sbL_law_6 g _ h1 h2 h3 h4 h5 h6 h7 h8 h9 h10 h11 h12 h13 h14 h15 h16 h17 h18 h19 h20 h21 h22 h23 h24 h25 h26 h27 h28 h29 h30 h31 h32 h33 h34 h35 h36 h37 h38 h39 h40 h41 h42 h43 h44 h45 h46 h47 h48 h49 h50 h51 h52 h53 h54 h55 h56 h57 h58 h59 h60 h61 h62 h63 h64 h65 h66 h67 h68 h69 h70 h71 h72 h73 h74 h75 h76 h77 h78 h79, sbL_law_7 g _ h1 h2 h3 h4 h5 h6 h7 h8 h9 h10 h11 h12 h13 h14 h15 h16 h17 h18 h19 h20 h21 h22 h23 h24 h25 h26 h27 h28 h29 h30 h31 h32 h33 h34 h35 h36 h37 h38 h39 h40 h41 h42 h43 h44 h45 h46 h47 h48 h49 h50 h51 h52 h53 h54 h55 h56 h57 h58 h59 h60 h61 h62 h63 h64 h65 h66 h67 h68 h69 h70 h71 h72 h73 h74 h75 h76 h77 h78 h79, sbL_law_8 g _ h1 h2 h3 h4 h5 h6 h7 h8 h9 h10 h11 h12 h13 h14 h15 h16 h17 h18 h19 h20 h21 h22 h23 h24 h25 h26 h27 h28 h29 h30 h31 h32 h33 h34 h35 h36 h37 h38 h39 h40 h41 h42 h43 h44 h45 h46 h47 h48 h49 h50 h51 h52 h53 h54 h55 h56 h57 h58 h59 h60 h61 h62 h63 h64 h65 h66 h67 h68 h69 h70 h71 h72 h73 h74 h75 h76 h77 h78 h79, sbL_law_9 g _ h1 h2 h3 h4 h5 h6 h7 h8 h9 h10 h11 h12 h13 h14 h15 h16 h17 h18 h19 h20 h21 h22 h23 h24 h25 h26 h27 h28 h29 h30 h31 h32 h33 h34 h35 h36 h37 h38 h39 h40 h41 h42 h43 h44 h45 h46 h47 h48 h49 h50 h51 h52 h53 h54 h55 h56 h57 h58 h59 h60 h61 h62 h63 h64 h65 h66 h67 h68 h69 h70 h71 h72 h73 h74 h75 h76 h77 h78 h79, sbL_law_10 g _ h1 h2 h3 h4 h5 h6 h7 h8 h9 h10 h11 h12 h13 h14 h15 h16 h17 h18 h19 h20 h21 h22 h23 h24 h25 h26 h27 h28 h29 h30 h31 h32 h33 h34 h35 h36 h37 h38 h39 h40 h41 h42 h43 h44 h45 h46 h47 h48 h49 h50 h51 h52 h53 h54 h55 h56 h57 h58 h59 h60 h61 h62 h63 h64 h65 h66 h67 h68 h69 h70 h71 h72 h73 h74 h75 h76 h77 h78 h79, sbL_law_11 g _ h1 h2 h3 h4 h5 h6 h7 h8 h9 h10 h11 h12 h13 h14 h15 h16 h17 h18 h19 h20 h21 h22 h23 h24 h25 h26 h27 h28 h29 h30 h31 h32 h33 h34 h35 h36 h37 h38 h39 h40 h41 h42 h43 h44 h45 h46 h47 h48 h49 h50 h51 h52 h53 h54 h55 h56 h57 h58 h59 h60 h61 h62 h63 h64 h65 h66 h67 h68 h69 h70 h71 h72 h73 h74 h75 h76 h77 h78 h79, sbL_law_12 g _ h1 h2 h3 h4 h5 h6 h7 h8 h9 h10 h11 h12 h13 h14 h15 h16 h17 h18 h19 h20 h21 h22 h23 h24 h25 h26 h27 h28 h29 h30 h31 h32 h33 h34 h35 h36 h37 h38 h39 h40 h41 h42 h43 h44 h45 h46 h47 h48 h49 h50 h51 h52 h53 h54 h55 h56 h57 h58 h59 h60 h61 h62 h63 h64 h65 h66 h67 h68 h69 h70 h71 h72 h73 h74 h75 h76 h77 h78 h79, sbL_law_13 g _ h1 h2 h3 h4 h5 h6 h7 h8 h9 h10 h11 h12 h13 h14 h15 h16 h17 h18 h19 h20 h21 h22 h23 h24 h25 h26 h27 h28 h29 h30 h31 h32 h33 h34 h35 h36 h37 h38 h39 h40 h41 h42 h43 h44 h45 h46 h47 h48 h49 h50 h51 h52 h53 h54 h55 h56 h57 h58 h59 h60 h61 h62 h63 h64 h65 h66 h67 h68 h69 h70 h71 h72 h73 h74 h75 h76 h77 h78 h79, sbL_law_14 g _ h1 h2 h3 h4 h5 h6 h7 h8 h9 h10 h11 h12 h13 h14 h15 h16 h17 h18 h19 h20 h21 h22 h23 h24 h25 h26 h27 h28 h29 h30 h31 h32 h33 h34 h35 h36 h37 h38 h39 h40 h41 h42 h43 h44 h45 h46 h47 h48 h49 h50 h51 h52 h53 h54 h55 h56 h57 h58 h59 h60 h61 h62 h63 h64 h65 h66 h67 h68 h69 h70 h71 h72 h73 h74 h75 h76 h77 h78 h79, sbL_law_15 g _ h1 h2 h3 h4 h5 h6 h7 h8 h9 h10 h11 h12 h13 h14 h15 h16 h17 h18 h19 h20 h21 h22 h23 h24 h25 h26 h27 h28 h29 h30 h31 h32 h33 h34 h35 h36 h37 h38 h39 h40 h41 h42 h43 h44 h45 h46 h47 h48 h49 h50 h51 h52 h53 h54 h55 h56 h57 h58 h59 h60 h61 h62 h63 h64 h65 h66 h67 h68 h69 h70 h71 h72 h73 h74 h75 h76 h77 h78 h79, sbL_law_16 g _ h1 h2 h3 h4 h5 h6 h7 h8 h9 h10 h11 h12 h13 h14 h15 h16 h17 h18 h19 h20 h21 h22 h23 h24 h25 h26 h27 h28 h29 h30 h31 h32 h33 h34 h35 h36 h37 h38 h39 h40 h41 h42 h43 h44 h45 h46 h47 h48 h49 h50 h51 h52 h53 h54 h55 h56 h57 h58 h59 h60 h61 h62 h63 h64 h65 h66 h67 h68 h69 h70 h71 h72 h73 h74 h75 h76 h77 h78 h79, sbL_law_17 g _ h1 h2 h3 h4 h5 h6 h7 h8 h9 h10 h11 h12 h13 h14 h15 h16 h17 h18 h19 h20 h21 h22 h23 h24 h25 h26 h27 h28 h29 h30 h31 h32 h33 h34 h35 h36 h37 h38 h39 h40 h41 h42 h43 h44 h45 h46 h47 h48 h49 h50 h51 h52 h53 h54 h55 h56 h57 h58 h59 h60 h61 h62 h63 h64 h65 h66 h67 h68 h69 h70 h71 h72 h73 h74 h75 h76 h77 h78 h79, sbL_law_18 g _ h1 h2 h3 h4 h5 h6 h7 h8 h9 h10 h11 h12 h13 h14 h15 h16 h17 h18 h19 h20 h21 h22 h23 h24 h25 h26 h27 h28 h29 h30 h31 h32 h33 h34 h35 h36 h37 h38 h39 h40 h41 h42 h43 h44 h45 h46 h47 h48 h49 h50 h51 h52 h53 h54 h55 h56 h57 h58 h59 h60 h61 h62 h63 h64 h65 h66 h67 h68 h69 h70 h71 h72 h73 h74 h75 h76 h77 h78 h79, sbL_law_19 g _ h1 h2 h3 h4 h5 h6 h7 h8 h9 h10 h11 h12 h13 h14 h15 h16 h17 h18 h19 h20 h21 h22 h23 h24 h25 h26 h27 h28 h29 h30 h31 h32 h33 h34 h35 h36 h37 h38 h39 h40 h41 h42 h43 h44 h45 h46 h47 h48 h49 h50 h51 h52 h53 h54 h55 h56 h57 h58 h59 h60 h61 h62 h63 h64 h65 h66 h67 h68 h69 h70 h71 h72 h73 h74 h75 h76 h77 h78 h79, sbL_law_20 g _ h1 h2 h3 h4 h5 h6 h7 h8 h9 h10 h11 h12 h13 h14 h15 h16 h17 h18 h19 h20 h21 h22 h23 h24 h25 h26 h27 h28 h29 h30 h31 h32 h33 h34 h35 h36 h37 h38 h39 h40 h41 h42 h43 h44 h45 h46 h47 h48 h49 h50 h51 h52 h53 h54 h55 h56 h57 h58 h59 h60 h61 h62 h63 h64 h65 h66 h67 h68 h69 h70 h71 h72 h73 h74 h75 h76 h77 h78 h79, sbL_law_21 g _ h1 h2 h3 h4 h5 h6 h7 h8 h9 h10 h11 h12 h13 h14 h15 h16 h17 h18 h19 h20 h21 h22 h23 h24 h25 h26 h27 h28 h29 h30 h31 h32 h33 h34 h35 h36 h37 h38 h39 h40 h41 h42 h43 h44 h45 h46 h47 h48 h49 h50 h51 h52 h53 h54 h55 h56 h57 h58 h59 h60 h61 h62 h63 h64 h65 h66 h67 h68 h69 h70 h71 h72 h73 h74 h75 h76 h77 h78 h79, sbL_law_22 g _ h1 h2 h3 h4 h5 h6 h7 h8 h9 h10 h11 h12 h13 h14 h15 h16 h17 h18 h19 h20 h21 h22 h23 h24 h25 h26 h27 h28 h29 h30 h31 h32 h33 h34 h35 h36 h37 h38 h39 h40 h41 h42 h43 h44 h45 h46 h47 h48 h49 h50 h51 h52 h53 h54 h55 h56 h57 h58 h59 h60 h61 h62 h63 h64 h65 h66 h67 h68 h69 h70 h71 h72 h73 h74 h75 h76 h77 h78 h79, sbL_law_23 g _ h1 h2 h3 h4 h5 h6 h7 h8 h9 h10 h11 h12 h13 h14 h15 h16 h17 h18 h19 h20 h21 h22 h23 h24 h25 h26 h27 h28 h29 h30 h31 h32 h33 h34 h35 h36 h37 h38 h39 h40 h41 h42 h43 h44 h45 h46 h47 h48 h49 h50 h51 h52 h53 h54 h55 h56 h57 h58 h59 h60 h61 h62 h63 h64 h65 h66 h67 h68 h69 h70 h71 h72 h73 h74 h75 h76 h77 h78 h79, sbL_law_24 g _ h1 h2 h3 h4 h5 h6 h7 h8 h9 h10 h11 h12 h13 h14 h15 h16 h17 h18 h19 h20 h21 h22 h23 h24 h25 h26 h27 h28 h29 h30 h31 h32 h33 h34 h35 h36 h37 h38 h39 h40 h41 h42 h43 h44 h45 h46 h47 h48 h49 h50 h51 h52 h53 h54 h55 h56 h57 h58 h59 h60 h61 h62 h63 h64 h65 h66 h67 h68 h69 h70 h71 h72 h73 h74 h75 h76 h77 h78 h79, sbL_law_25 g _ h1 h2 h3 h4 h5 h6 h7 h8 h9 h10 h11 h12 h13 h14 h15 h16 h17 h18 h19 h20 h21 h22 h23 h24 h25 h26 h27 h28 h29 h30 h31 h32 h33 h34 h35 h36 h37 h38 h39 h40 h41 h42 h43 h44 h45 h46 h47 h48 h49 h50 h51 h52 h53 h54 h55 h56 h57 h58 h59 h60 h61 h62 h63 h64 h65 h66 h67 h68 h69 h70 h71 h72 h73 h74 h75 h76 h77 h78 h79, sbL_law_26 g _ h1 h2 h3 h4 h5 h6 h7 h8 h9 h10 h11 h12 h13 h14 h15 h16 h17 h18 h19 h20 h21 h22 h23 h24 h25 h26 h27 h28 h29 h30 h31 h32 h33 h34 h35 h36 h37 h38 h39 h40 h41 h42 h43 h44 h45 h46 h47 h48 h49 h50 h51 h52 h53 h54 h55 h56 h57 h58 h59 h60 h61 h62 h63 h64 h65 h66 h67 h68 h69 h70 h71 h72 h73 h74 h75 h76 h77 h78 h79, sbL_law_27 g _ h1 h2 h3 h4 h5 h6 h7 h8 h9 h10 h11 h12 h13 h14 h15 h16 h17 h18 h19 h20 h21 h22 h23 h24 h25 h26 h27 h28 h29 h30 h31 h32 h33 h34 h35 h36 h37 h38 h39 h40 h41 h42 h43 h44 h45 h46 h47 h48 h49 h50 h51 h52 h53 h54 h55 h56 h57 h58 h59 h60 h61 h62 h63 h64 h65 h66 h67 h68 h69 h70 h71 h72 h73 h74 h75 h76 h77 h78 h79, sbL_law_28 g _ h1 h2 h3 h4 h5 h6 h7 h8 h9 h10 h11 h12 h13 h14 h15 h16 h17 h18 h19 h20 h21 h22 h23 h24 h25 h26 h27 h28 h29 h30 h31 h32 h33 h34 h35 h36 h37 h38 h39 h40 h41 h42 h43 h44 h45 h46 h47 h48 h49 h50 h51 h52 h53 h54 h55 h56 h57 h58 h59 h60 h61 h62 h63 h64 h65 h66 h67 h68 h69 h70 h71 h72 h73 h74 h75 h76 h77 h78 h79, sbL_law_29 g _ h1 h2 h3 h4 h5 h6 h7 h8 h9 h10 h11 h12 h13 h14 h15 h16 h17 h18 h19 h20 h21 h22 h23 h24 h25 h26 h27 h28 h29 h30 h31 h32 h33 h34 h35 h36 h37 h38 h39 h40 h41 h42 h43 h44 h45 h46 h47 h48 h49 h50 h51 h52 h53 h54 h55 h56 h57 h58 h59 h60 h61 h62 h63 h64 h65 h66 h67 h68 h69 h70 h71 h72 h73 h74 h75 h76 h77 h78 h79, sbL_law_30 g _ h1 h2 h3 h4 h5 h6 h7 h8 h9 h10 h11 h12 h13 h14 h15 h16 h17 h18 h19 h20 h21 h22 h23 h24 h25 h26 h27 h28 h29 h30 h31 h32 h33 h34 h35 h36 h37 h38 h39 h40 h41 h42 h43 h44 h45 h46 h47 h48 h49 h50 h51 h52 h53 h54 h55 h56 h57 h58 h59 h60 h61 h62 h63 h64 h65 h66 h67 h68 h69 h70 h71 h72 h73 h74 h75 h76 h77 h78 h79, sbL_law_31 g _ h1 h2 h3 h4 h5 h6 h7 h8 h9 h10 h11 h12 h13 h14 h15 h16 h17 h18 h19 h20 h21 h22 h23 h24 h25 h26 h27 h28 h29 h30 h31 h32 h33 h34 h35 h36 h37 h38 h39 h40 h41 h42 h43 h44 h45 h46 h47 h48 h49 h50 h51 h52 h53 h54 h55 h56 h57 h58 h59 h60 h61 h62 h63 h64 h65 h66 h67 h68 h69 h70 h71 h72 h73 h74 h75 h76 h77 h78 h79, sbL_law_32 g _ h1 h2 h3 h4 h5 h6 h7 h8 h9 h10 h11 h12 h13 h14 h15 h16 h17 h18 h19 h20 h21 h22 h23 h24 h25 h26 h27 h28 h29 h30 h31 h32 h33 h34 h35 h36 h37 h38 h39 h40 h41 h42 h43 h44 h45 h46 h47 h48 h49 h50 h51 h52 h53 h54 h55 h56 h57 h58 h59 h60 h61 h62 h63 h64 h65 h66 h67 h68 h69 h70 h71 h72 h73 h74 h75 h76 h77 h78 h79, sbL_law_33 g _ h1 h2 h3 h4 h5 h6 h7 h8 h9 h10 h11 h12 h13 h14 h15 h16 h17 h18 h19 h20 h21 h22 h23 h24 h25 h26 h27 h28 h29 h30 h31 h32 h33 h34 h35 h36 h37 h38 h39 h40 h41 h42 h43 h44 h45 h46 h47 h48 h49 h50 h51 h52 h53 h54 h55 h56 h57 h58 h59 h60 h61 h62 h63 h64 h65 h66 h67 h68 h69 h70 h71 h72 h73 h74 h75 h76 h77 h78 h79, sbL_law_34 g _ h1 h2 h3 h4 h5 h6 h7 h8 h9 h10 h11 h12 h13 h14 h15 h16 h17 h18 h19 h20 h21 h22 h23 h24 h25 h26 h27 h28 h29 h30 h31 h32 h33 h34 h35 h36 h37 h38 h39 h40 h41 h42 h43 h44 h45 h46 h47 h48 h49 h50 h51 h52 h53 h54 h55 h56 h57 h58 h59 h60 h61 h62 h63 h64 h65 h66 h67 h68 h69 h70 h71 h72 h73 h74 h75 h76 h77 h78 h79, sbL_law_35 g _ h1 h2 h3 h4 h5 h6 h7 h8 h9 h10 h11 h12 h13 h14 h15 h16 h17 h18 h19 h20 h21 h22 h23 h24 h25 h26 h27 h28 h29 h30 h31 h32 h33 h34 h35 h36 h37 h38 h39 h40 h41 h42 h43 h44 h45 h46 h47 h48 h49 h50 h51 h52 h53 h54 h55 h56 h57 h58 h59 h60 h61 h62 h63 h64 h65 h66 h67 h68 h69 h70 h71 h72 h73 h74 h75 h76 h77 h78 h79, sbL_law_36 g _ h1 h2 h3 h4 h5 h6 h7 h8 h9 h10 h11 h12 h13 h14 h15 h16 h17 h18 h19 h20 h21 h22 h23 h24 h25 h26 h27 h28 h29 h30 h31 h32 h33 h34 h35 h36 h37 h38 h39 h40 h41 h42 h43 h44 h45 h46 h47 h48 h49 h50 h51 h52 h53 h54 h55 h56 h57 h58 h59 h60 h61 h62 h63 h64 h65 h66 h67 h68 h69 h70 h71 h72 h73 h74 h75 h76 h77 h78 h79, sbL_law_37 g _ h1 h2 h3 h4 h5 h6 h7 h8 h9 h10 h11 h12 h13 h14 h15 h16 h17 h18 h19 h20 h21 h22 h23 h24 h25 h26 h27 h28 h29 h30 h31 h32 h33 h34 h35 h36 h37 h38 h39 h40 h41 h42 h43 h44 h45 h46 h47 h48 h49 h50 h51 h52 h53 h54 h55 h56 h57 h58 h59 h60 h61 h62 h63 h64 h65 h66 h67 h68 h69 h70 h71 h72 h73 h74 h75 h76 h77 h78 h79, sbL_law_38 g _ h1 h2 h3 h4 h5 h6 h7 h8 h9 h10 h11 h12 h13 h14 h15 h16 h17 h18 h19 h20 h21 h22 h23 h24 h25 h26 h27 h28 h29 h30 h31 h32 h33 h34 h35 h36 h37 h38 h39 h40 h41 h42 h43 h44 h45 h46 h47 h48 h49 h50 h51 h52 h53 h54 h55 h56 h57 h58 h59 h60 h61 h62 h63 h64 h65 h66 h67 h68 h69 h70 h71 h72 h73 h74 h75 h76 h77 h78 h79, sbL_law_39 g _ h1 h2 h3 h4 h5 h6 h7 h8 h9 h10 h11 h12 h13 h14 h15 h16 h17 h18 h19 h20 h21 h22 h23 h24 h25 h26 h27 h28 h29 h30 h31 h32 h33 h34 h35 h36 h37 h38 h39 h40 h41 h42 h43 h44 h45 h46 h47 h48 h49 h50 h51 h52 h53 h54 h55 h56 h57 h58 h59 h60 h61 h62 h63 h64 h65 h66 h67 h68 h69 h70 h71 h72 h73 h74 h75 h76 h77 h78 h79, sbL_law_40 g _ h1 h2 h3 h4 h5 h6 h7 h8 h9 h10 h11 h12 h13 h14 h15 h16 h17 h18 h19 h20 h21 h22 h23 h24 h25 h26 h27 h28 h29 h30 h31 h32 h33 h34 h35 h36 h37 h38 h39 h40 h41 h42 h43 h44 h45 h46 h47 h48 h49 h50 h51 h52 h53 h54 h55 h56 h57 h58 h59 h60 h61 h62 h63 h64 h65 h66 h67 h68 h69 h70 h71 h72 h73 h74 h75 h76 h77 h78 h79, sbL_law_41 g _ h1 h2 h3 h4 h5 h6 h7 h8 h9 h10 h11 h12 h13 h14 h15 h16 h17 h18 h19 h20 h21 h22 h23 h24 h25 h26 h27 h28 h29 h30 h31 h32 h33 h34 h35 h36 h37 h38 h39 h40 h41 h42 h43 h44 h45 h46 h47 h48 h49 h50 h51 h52 h53 h54 h55 h56 h57 h58 h59 h60 h61 h62 h63 h64 h65 h66 h67 h68 h69 h70 h71 h72 h73 h74 h75 h76 h77 h78 h79, sbL_law_42 g _ h1 h2 h3 h4 h5 h6 h7 h8 h9 h10 h11 h12 h13 h14 h15 h16 h17 h18 h19 h20 h21 h22 h23 h24 h25 h26 h27 h28 h29 h30 h31 h32 h33 h34 h35 h36 h37 h38 h39 h40 h41 h42 h43 h44 h45 h46 h47 h48 h49 h50 h51 h52 h53 h54 h55 h56 h57 h58 h59 h60 h61 h62 h63 h64 h65 h66 h67 h68 h69 h70 h71 h72 h73 h74 h75 h76 h77 h78 h79, sbL_law_43 g _ h1 h2 h3 h4 h5 h6 h7 h8 h9 h10 h11 h12 h13 h14 h15 h16 h17 h18 h19 h20 h21 h22 h23 h24 h25 h26 h27 h28 h29 h30 h31 h32 h33 h34 h35 h36 h37 h38 h39 h40 h41 h42 h43 h44 h45 h46 h47 h48 h49 h50 h51 h52 h53 h54 h55 h56 h57 h58 h59 h60 h61 h62 h63 h64 h65 h66 h67 h68 h69 h70 h71 h72 h73 h74 h75 h76 h77 h78 h79, sbL_law_44 g _ h1 h2 h3 h4 h5 h6 h7 h8 h9 h10 h11 h12 h13 h14 h15 h16 h17 h18 h19 h20 h21 h22 h23 h24 h25 h26 h27 h28 h29 h30 h31 h32 h33 h34 h35 h36 h37 h38 h39 h40 h41 h42 h43 h44 h45 h46 h47 h48 h49 h50 h51 h52 h53 h54 h55 h56 h57 h58 h59 h60 h61 h62 h63 h64 h65 h66 h67 h68 h69 h70 h71 h72 h73 h74 h75 h76 h77 h78 h79, sbL_law_45 g _ h1 h2 h3 h4 h5 h6 h7 h8 h9 h10 h11 h12 h13 h14 h15 h16 h17 h18 h19 h20 h21 h22 h23 h24 h25 h26 h27 h28 h29 h30 h31 h32 h33 h34 h35 h36 h37 h38 h39 h40 h41 h42 h43 h44 h45 h46 h47 h48 h49 h50 h51 h52 h53 h54 h55 h56 h57 h58 h59 h60 h61 h62 h63 h64 h65 h66 h67 h68 h69 h70 h71 h72 h73 h74 h75 h76 h77 h78 h79, sbL_law_46 g _ h1 h2 h3 h4 h5 h6 h7 h8 h9 h10 h11 h12 h13 h14 h15 h16 h17 h18 h19 h20 h21 h22 h23 h24 h25 h26 h27 h28 h29 h30 h31 h32 h33 h34 h35 h36 h37 h38 h39 h40 h41 h42 h43 h44 h45 h46 h47 h48 h49 h50 h51 h52 h53 h54 h55 h56 h57 h58 h59 h60 h61 h62 h63 h64 h65 h66 h67 h68 h69 h70 h71 h72 h73 h74 h75 h76 h77 h78 h79, sbL_law_47 g _ h1 h2 h3 h4 h5 h6 h7 h8 h9 h10 h11 h12 h13 h14 h15 h16 h17 h18 h19 h20 h21 h22 h23 h24 h25 h26 h27 h28 h29 h30 h31 h32 h33 h34 h35 h36 h37 h38 h39 h40 h41 h42 h43 h44 h45 h46 h47 h48 h49 h50 h51 h52 h53 h54 h55 h56 h57 h58 h59 h60 h61 h62 h63 h64 h65 h66 h67 h68 h69 h70 h71 h72 h73 h74 h75 h76 h77 h78 h79, sbL_law_48 g _ h1 h2 h3 h4 h5 h6 h7 h8 h9 h10 h11 h12 h13 h14 h15 h16 h17 h18 h19 h20 h21 h22 h23 h24 h25 h26 h27 h28 h29 h30 h31 h32 h33 h34 h35 h36 h37 h38 h39 h40 h41 h42 h43 h44 h45 h46 h47 h48 h49 h50 h51 h52 h53 h54 h55 h56 h57 h58 h59 h60 h61 h62 h63 h64 h65 h66 h67 h68 h69 h70 h71 h72 h73 h74 h75 h76 h77 h78 h79, sbL_law_49 g _ h1 h2 h3 h4 h5 h6 h7 h8 h9 h10 h11 h12 h13 h14 h15 h16 h17 h18 h19 h20 h21 h22 h23 h24 h25 h26 h27 h28 h29 h30 h31 h32 h33 h34 h35 h36 h37 h38 h39 h40 h41 h42 h43 h44 h45 h46 h47 h48 h49 h50 h51 h52 h53 h54 h55 h56 h57 h58 h59 h60 h61 h62 h63 h64 h65 h66 h67 h68 h69 h70 h71 h72 h73 h74 h75 h76 h77 h78 h79, sbL_law_50 g _ h1 h2 h3 h4 h5 h6 h7 h8 h9 h10 h11 h12 h13 h14 h15 h16 h17 h18 h19 h20 h21 h22 h23 h24 h25 h26 h27 h28 h29 h30 h31 h32 h33 h34 h35 h36 h37 h38 h39 h40 h41 h42 h43 h44 h45 h46 h47 h48 h49 h50 h51 h52 h53 h54 h55 h56 h57 h58 h59 h60 h61 h62 h63 h64 h65 h66 h67 h68 h69 h70 h71 h72 h73 h74 h75 h76 h77 h78 h79, sbL_law_51 g _ h1 h2 h3 h4 h5 h6 h7 h8 h9 h10 h11 h12 h13 h14 h15 h16 h17 h18 h19 h20 h21 h22 h23 h24 h25 h26 h27 h28 h29 h30 h31 h32 h33 h34 h35 h36 h37 h38 h39 h40 h41 h42 h43 h44 h45 h46 h47 h48 h49 h50 h51 h52 h53 h54 h55 h56 h57 h58 h59 h60 h61 h62 h63 h64 h65 h66 h67 h68 h69 h70 h71 h72 h73 h74 h75 h76 h77 h78 h79, sbL_law_52 g _ h1 h2 h3 h4 h5 h6 h7 h8 h9 h10 h11 h12 h13 h14 h15 h16 h17 h18 h19 h20 h21 h22 h23 h24 h25 h26 h27 h28 h29 h30 h31 h32 h33 h34 h35 h36 h37 h38 h39 h40 h41 h42 h43 h44 h45 h46 h47 h48 h49 h50 h51 h52 h53 h54 h55 h56 h57 h58 h59 h60 h61 h62 h63 h64 h65 h66 h67 h68 h69 h70 h71 h72 h73 h74 h75 h76 h77 h78 h79, sbL_law_53 g _ h1 h2 h3 h4 h5 h6 h7 h8 h9 h10 h11 h12 h13 h14 h15 h16 h17 h18 h19 h20 h21 h22 h23 h24 h25 h26 h27 h28 h29 h30 h31 h32 h33 h34 h35 h36 h37 h38 h39 h40 h41 h42 h43 h44 h45 h46 h47 h48 h49 h50 h51 h52 h53 h54 h55 h56 h57 h58 h59 h60 h61 h62 h63 h64 h65 h66 h67 h68 h69 h70 h71 h72 h73 h74 h75 h76 h77 h78 h79, sbL_law_54 g _ h1 h2 h3 h4 h5 h6 h7 h8 h9 h10 h11 h12 h13 h14 h15 h16 h17 h18 h19 h20 h21 h22 h23 h24 h25 h26 h27 h28 h29 h30 h31 h32 h33 h34 h35 h36 h37 h38 h39 h40 h41 h42 h43 h44 h45 h46 h47 h48 h49 h50 h51 h52 h53 h54 h55 h56 h57 h58 h59 h60 h61 h62 h63 h64 h65 h66 h67 h68 h69 h70 h71 h72 h73 h74 h75 h76 h77 h78 h79, sbL_law_55 g _ h1 h2 h3 h4 h5 h6 h7 h8 h9 h10 h11 h12 h13 h14 h15 h16 h17 h18 h19 h20 h21 h22 h23 h24 h25 h26 h27 h28 h29 h30 h31 h32 h33 h34 h35 h36 h37 h38 h39 h40 h41 h42 h43 h44 h45 h46 h47 h48 h49 h50 h51 h52 h53 h54 h55 h56 h57 h58 h59 h60 h61 h62 h63 h64 h65 h66 h67 h68 h69 h70 h71 h72 h73 h74 h75 h76 h77 h78 h79, sbL_law_56 g _ h1 h2 h3 h4 h5 h6 h7 h8 h9 h10 h11 h12 h13 h14 h15 h16 h17 h18 h19 h20 h21 h22 h23 h24 h25 h26 h27 h28 h29 h30 h31 h32 h33 h34 h35 h36 h37 h38 h39 h40 h41 h42 h43 h44 h45 h46 h47 h48 h49 h50 h51 h52 h53 h54 h55 h56 h57 h58 h59 h60 h61 h62 h63 h64 h65 h66 h67 h68 h69 h70 h71 h72 h73 h74 h75 h76 h77 h78 h79, sbL_law_57 g _ h1 h2 h3 h4 h5 h6 h7 h8 h9 h10 h11 h12 h13 h14 h15 h16 h17 h18 h19 h20 h21 h22 h23 h24 h25 h26 h27 h28 h29 h30 h31 h32 h33 h34 h35 h36 h37 h38 h39 h40 h41 h42 h43 h44 h45 h46 h47 h48 h49 h50 h51 h52 h53 h54 h55 h56 h57 h58 h59 h60 h61 h62 h63 h64 h65 h66 h67 h68 h69 h70 h71 h72 h73 h74 h75 h76 h77 h78 h79, sbL_law_58 g _ h1 h2 h3 h4 h5 h6 h7 h8 h9 h10 h11 h12 h13 h14 h15 h16 h17 h18 h19 h20 h21 h22 h23 h24 h25 h26 h27 h28 h29 h30 h31 h32 h33 h34 h35 h36 h37 h38 h39 h40 h41 h42 h43 h44 h45 h46 h47 h48 h49 h50 h51 h52 h53 h54 h55 h56 h57 h58 h59 h60 h61 h62 h63 h64 h65 h66 h67 h68 h69 h70 h71 h72 h73 h74 h75 h76 h77 h78 h79, sbL_law_59 g _ h1 h2 h3 h4 h5 h6 h7 h8 h9 h10 h11 h12 h13 h14 h15 h16 h17 h18 h19 h20 h21 h22 h23 h24 h25 h26 h27 h28 h29 h30 h31 h32 h33 h34 h35 h36 h37 h38 h39 h40 h41 h42 h43 h44 h45 h46 h47 h48 h49 h50 h51 h52 h53 h54 h55 h56 h57 h58 h59 h60 h61 h62 h63 h64 h65 h66 h67 h68 h69 h70 h71 h72 h73 h74 h75 h76 h77 h78 h79, sbL_law_60 g _ h1 h2 h3 h4 h5 h6 h7 h8 h9 h10 h11 h12 h13 h14 h15 h16 h17 h18 h19 h20 h21 h22 h23 h24 h25 h26 h27 h28 h29 h30 h31 h32 h33 h34 h35 h36 h37 h38 h39 h40 h41 h42 h43 h44 h45 h46 h47 h48 h49 h50 h51 h52 h53 h54 h55 h56 h57 h58 h59 h60 h61 h62 h63 h64 h65 h66 h67 h68 h69 h70 h71 h72 h73 h74 h75 h76 h77 h78 h79, sbL_law_61 g _ h1 h2 h3 h4 h5 h6 h7 h8 h9 h10 h11 h12 h13 h14 h15 h16 h17 h18 h19 h20 h21 h22 h23 h24 h25 h26 h27 h28 h29 h30 h31 h32 h33 h34 h35 h36 h37 h38 h39 h40 h41 h42 h43 h44 h45 h46 h47 h48 h49 h50 h51 h52 h53 h54 h55 h56 h57 h58 h59 h60 h61 h62 h63 h64 h65 h66 h67 h68 h69 h70 h71 h72 h73 h74 h75 h76 h77 h78 h79, sbL_law_62 g _ h1 h2 h3 h4 h5 h6 h7 h8 h9 h10 h11 h12 h13 h14 h15 h16 h17 h18 h19 h20 h21 h22 h23 h24 h25 h26 h27 h28 h29 h30 h31 h32 h33 h34 h35 h36 h37 h38 h39 h40 h41 h42 h43 h44 h45 h46 h47 h48 h49 h50 h51 h52 h53 h54 h55 h56 h57 h58 h59 h60 h61 h62 h63 h64 h65 h66 h67 h68 h69 h70 h71 h72 h73 h74 h75 h76 h77 h78 h79, sbL_law_63 g _ h1 h2 h3 h4 h5 h6 h7 h8 h9 h10 h11 h12 h13 h14 h15 h16 h17 h18 h19 h20 h21 h22 h23 h24 h25 h26 h27 h28 h29 h30 h31 h32 h33 h34 h35 h36 h37 h38 h39 h40 h41 h42 h43 h44 h45 h46 h47 h48 h49 h50 h51 h52 h53 h54 h55 h56 h57 h58 h59 h60 h61 h62 h63 h64 h65 h66 h67 h68 h69 h70 h71 h72 h73 h74 h75 h76 h77 h78 h79, sbL_law_64 g _ h1 h2 h3 h4 h5 h6 h7 h8 h9 h10 h11 h12 h13 h14 h15 h16 h17 h18 h19 h20 h21 h22 h23 h24 h25 h26 h27 h28 h29 h30 h31 h32 h33 h34 h35 h36 h37 h38 h39 h40 h41 h42 h43 h44 h45 h46 h47 h48 h49 h50 h51 h52 h53 h54 h55 h56 h57 h58 h59 h60 h61 h62 h63 h64 h65 h66 h67 h68 h69 h70 h71 h72 h73 h74 h75 h76 h77 h78 h79, sbL_law_65 g _ h1 h2 h3 h4 h5 h6 h7 h8 h9 h10 h11 h12 h13 h14 h15 h16 h17 h18 h19 h20 h21 h22 h23 h24 h25 h26 h27 h28 h29 h30 h31 h32 h33 h34 h35 h36 h37 h38 h39 h40 h41 h42 h43 h44 h45 h46 h47 h48 h49 h50 h51 h52 h53 h54 h55 h56 h57 h58 h59 h60 h61 h62 h63 h64 h65 h66 h67 h68 h69 h70 h71 h72 h73 h74 h75 h76 h77 h78 h79, sbL_law_66 g _ h1 h2 h3 h4 h5 h6 h7 h8 h9 h10 h11 h12 h13 h14 h15 h16 h17 h18 h19 h20 h21 h22 h23 h24 h25 h26 h27 h28 h29 h30 h31 h32 h33 h34 h35 h36 h37 h38 h39 h40 h41 h42 h43 h44 h45 h46 h47 h48 h49 h50 h51 h52 h53 h54 h55 h56 h57 h58 h59 h60 h61 h62 h63 h64 h65 h66 h67 h68 h69 h70 h71 h72 h73 h74 h75 h76 h77 h78 h79, sbL_law_67 g _ h1 h2 h3 h4 h5 h6 h7 h8 h9 h10 h11 h12 h13 h14 h15 h16 h17 h18 h19 h20 h21 h22 h23 h24 h25 h26 h27 h28 h29 h30 h31 h32 h33 h34 h35 h36 h37 h38 h39 h40 h41 h42 h43 h44 h45 h46 h47 h48 h49 h50 h51 h52 h53 h54 h55 h56 h57 h58 h59 h60 h61 h62 h63 h64 h65 h66 h67 h68 h69 h70 h71 h72 h73 h74 h75 h76 h77 h78 h79, sbL_law_68 g _ h1 h2 h3 h4 h5 h6 h7 h8 h9 h10 h11 h12 h13 h14 h15 h16 h17 h18 h19 h20 h21 h22 h23 h24 h25 h26 h27 h28 h29 h30 h31 h32 h33 h34 h35 h36 h37 h38 h39 h40 h41 h42 h43 h44 h45 h46 h47 h48 h49 h50 h51 h52 h53 h54 h55 h56 h57 h58 h59 h60 h61 h62 h63 h64 h65 h66 h67 h68 h69 h70 h71 h72 h73 h74 h75 h76 h77 h78 h79, sbL_law_69 g _ h1 h2 h3 h4 h5 h6 h7 h8 h9 h10 h11 h12 h13 h14 h15 h16 h17 h18 h19 h20 h21 h22 h23 h24 h25 h26 h27 h28 h29 h30 h31 h32 h33 h34 h35 h36 h37 h38 h39 h40 h41 h42 h43 h44 h45 h46 h47 h48 h49 h50 h51 h52 h53 h54 h55 h56 h57 h58 h59 h60 h61 h62 h63 h64 h65 h66 h67 h68 h69 h70 h71 h72 h73 h74 h75 h76 h77 h78 h79, sbL_law_70 g _ h1 h2 h3 h4 h5 h6 h7 h8 h9 h10 h11 h12 h13 h14 h15 h16 h17 h18 h19 h20 h21 h22 h23 h24 h25 h26 h27 h28 h29 h30 h31 h32 h33 h34 h35 h36 h37 h38 h39 h40 h41 h42 h43 h44 h45 h46 h47 h48 h49 h50 h51 h52 h53 h54 h55 h56 h57 h58 h59 h60 h61 h62 h63 h64 h65 h66 h67 h68 h69 h70 h71 h72 h73 h74 h75 h76 h77 h78 h79, sbL_law_71 g _ h1 h2 h3 h4 h5 h6 h7 h8 h9 h10 h11 h12 h13 h14 h15 h16 h17 h18 h19 h20 h21 h22 h23 h24 h25 h26 h27 h28 h29 h30 h31 h32 h33 h34 h35 h36 h37 h38 h39 h40 h41 h42 h43 h44 h45 h46 h47 h48 h49 h50 h51 h52 h53 h54 h55 h56 h57 h58 h59 h60 h61 h62 h63 h64 h65 h66 h67 h68 h69 h70 h71 h72 h73 h74 h75 h76 h77 h78 h79, sbL_law_72 g _ h1 h2 h3 h4 h5 h6 h7 h8 h9 h10 h11 h12 h13 h14 h15 h16 h17 h18 h19 h20 h21 h22 h23 h24 h25 h26 h27 h28 h29 h30 h31 h32 h33 h34 h35 h36 h37 h38 h39 h40 h41 h42 h43 h44 h45 h46 h47 h48 h49 h50 h51 h52 h53 h54 h55 h56 h57 h58 h59 h60 h61 h62 h63 h64 h65 h66 h67 h68 h69 h70 h71 h72 h73 h74 h75 h76 h77 h78 h79, sbL_law_73 g _ h1 h2 h3 h4 h5 h6 h7 h8 h9 h10 h11 h12 h13 h14 h15 h16 h17 h18 h19 h20 h21 h22 h23 h24 h25 h26 h27 h28 h29 h30 h31 h32 h33 h34 h35 h36 h37 h38 h39 h40 h41 h42 h43 h44 h45 h46 h47 h48 h49 h50 h51 h52 h53 h54 h55 h56 h57 h58 h59 h60 h61 h62 h63 h64 h65 h66 h67 h68 h69 h70 h71 h72 h73 h74 h75 h76 h77 h78 h79, sbL_law_74 g _ h1 h2 h3 h4 h5 h6 h7 h8 h9 h10 h11 h12 h13 h14 h15 h16 h17 h18 h19 h20 h21 h22 h23 h24 h25 h26 h27 h28 h29 h30 h31 h32 h33 h34 h35 h36 h37 h38 h39 h40 h41 h42 h43 h44 h45 h46 h47 h48 h49 h50 h51 h52 h53 h54 h55 h56 h57 h58 h59 h60 h61 h62 h63 h64 h65 h66 h67 h68 h69 h70 h71 h72 h73 h74 h75 h76 h77 h78 h79, sbL_law_75 g _ h1 h2 h3 h4 h5 h6 h7 h8 h9 h10 h11 h12 h13 h14 h15 h16 h17 h18 h19 h20 h21 h22 h23 h24 h25 h26 h27 h28 h29 h30 h31 h32 h33 h34 h35 h36 h37 h38 h39 h40 h41 h42 h43 h44 h45 h46 h47 h48 h49 h50 h51 h52 h53 h54 h55 h56 h57 h58 h59 h60 h61 h62 h63 h64 h65 h66 h67 h68 h69 h70 h71 h72 h73 h74 h75 h76 h77 h78 h79, sbL_law_76 g _ h1 h2 h3 h4 h5 h6 h7 h8 h9 h10 h11 h12 h13 h14 h15 h16 h17 h18 h19 h20 h21 h22 h23 h24 h25 h26 h27 h28 h29 h30 h31 h32 h33 h34 h35 h36 h37 h38 h39 h40 h41 h42 h43 h44 h45 h46 h47 h48 h49 h50 h51 h52 h53 h54 h55 h56 h57 h58 h59 h60 h61 h62 h63 h64 h65 h66 h67 h68 h69 h70 h71 h72 h73 h74 h75 h76 h77 h78 h79, sbL_law_77 g _ h1 h2 h3 h4 h5 h6 h7 h8 h9 h10 h11 h12 h13 h14 h15 h16 h17 h18 h19 h20 h21 h22 h23 h24 h25 h26 h27 h28 h29 h30 h31 h32 h33 h34 h35 h36 h37 h38 h39 h40 h41 h42 h43 h44 h45 h46 h47 h48 h49 h50 h51 h52 h53 h54 h55 h56 h57 h58 h59 h60 h61 h62 h63 h64 h65 h66 h67 h68 h69 h70 h71 h72 h73 h74 h75 h76 h77 h78 h79, sbL_law_78 g _ h1 h2 h3 h4 h5 h6 h7 h8 h9 h10 h11 h12 h13 h14 h15 h16 h17 h18 h19 h20 h21 h22 h23 h24 h25 h26 h27 h28 h29 h30 h31 h32 h33 h34 h35 h36 h37 h38 h39 h40 h41 h42 h43 h44 h45 h46 h47 h48 h49 h50 h51 h52 h53 h54 h55 h56 h57 h58 h59 h60 h61 h62 h63 h64 h65 h66 h67 h68 h69 h70 h71 h72 h73 h74 h75 h76 h77 h78 h79, sbL_law_79 g _ h1 h2 h3 h4 h5 h6 h7 h8 h9 h10 h11 h12 h13 h14 h15 h16 h17 h18 h19 h20 h21 h22 h23 h24 h25 h26 h27 h28 h29 h30 h31 h32 h33 h34 h35 h36 h37 h38 h39 h40 h41 h42 h43 h44 h45 h46 h47 h48 h49 h50 h51 h52 h53 h54 h55 h56 h57 h58 h59 h60 h61 h62 h63 h64 h65 h66 h67 h68 h69 h70 h71 h72 h73 h74 h75 h76 h77 h78 h79⟩
def kL_law (g : GE) : KT := jL_law g g.1 0
theorem sL_law (g : GE) : Snd mL_law g 0 (kL_law g) := (sjL_law g g.1).1
