theorem dX11_gets_0 : decode cX11_gets 0 = .ok (.aload_n 0, 1) := by decide +kernel
theorem dX11_gets_1 : decode cX11_gets 1 = .ok (.iconst 0, 1) := by decide +kernel
theorem dX11_gets_2 : decode cX11_gets 2 = .ok (.putfield 120, 3) := by decide +kernel
theorem dX11_gets_5 : decode cX11_gets 5 = .ok (.aload_n 0, 1) := by decide +kernel
theorem dX11_gets_6 : decode cX11_gets 6 = .ok (.aload_n 0, 1) := by decide +kernel
theorem dX11_gets_7 : decode cX11_gets 7 = .ok (.iload_n 1, 1) := by decide +kernel
theorem dX11_gets_8 : decode cX11_gets 8 = .ok (.invokevirtual 267, 3) := by decide +kernel
theorem dX11_gets_11 : decode cX11_gets 11 = .ok (.ifCond .eq 11, 3) := by decide +kernel
theorem dX11_gets_14 : decode cX11_gets 14 = .ok (.aload_n 0, 1) := by decide +kernel
theorem dX11_gets_15 : decode cX11_gets 15 = .ok (.iload_n 2, 1) := by decide +kernel
theorem dX11_gets_16 : decode cX11_gets 16 = .ok (.invokevirtual 276, 3) := by decide +kernel
theorem dX11_gets_19 : decode cX11_gets 19 = .ok (.ifCond .ne 7, 3) := by decide +kernel
theorem dX11_gets_22 : decode cX11_gets 22 = .ok (.iconst 1, 1) := by decide +kernel
theorem dX11_gets_23 : decode cX11_gets 23 = .ok (.goto 4, 3) := by decide +kernel
theorem dX11_gets_26 : decode cX11_gets 26 = .ok (.iconst 0, 1) := by decide +kernel
theorem dX11_gets_27 : decode cX11_gets 27 = .ok (.iconst 1, 1) := by decide +kernel
theorem dX11_gets_28 : decode cX11_gets 28 = .ok (.iconst 0, 1) := by decide +kernel
theorem dX11_gets_29 : decode cX11_gets 29 = .ok (.invokevirtual 215, 3) := by decide +kernel
theorem dX11_gets_32 : decode cX11_gets 32 = .ok (.ifCond .ne 26, 3) := by decide +kernel
theorem dX11_gets_35 : decode cX11_gets 35 = .ok (.aload_n 0, 1) := by decide +kernel
theorem dX11_gets_36 : decode cX11_gets 36 = .ok (.iload_n 3, 1) := by decide +kernel
theorem dX11_gets_37 : decode cX11_gets 37 = .ok (.iconst 0, 1) := by decide +kernel
theorem dX11_gets_38 : decode cX11_gets 38 = .ok (.iconst 1, 1) := by decide +kernel
theorem dX11_gets_39 : decode cX11_gets 39 = .ok (.invokestatic 154, 3) := by decide +kernel
theorem dX11_gets_42 : decode cX11_gets 42 = .ok (.ifCond .ne 7, 3) := by decide +kernel
theorem dX11_gets_45 : decode cX11_gets 45 = .ok (.iconst 1, 1) := by decide +kernel
theorem dX11_gets_46 : decode cX11_gets 46 = .ok (.goto 4, 3) := by decide +kernel
theorem dX11_gets_49 : decode cX11_gets 49 = .ok (.iconst 0, 1) := by decide +kernel
theorem dX11_gets_50 : decode cX11_gets 50 = .ok (.iconst 2, 1) := by decide +kernel
theorem dX11_gets_51 : decode cX11_gets 51 = .ok (.iconst 2, 1) := by decide +kernel
theorem dX11_gets_52 : decode cX11_gets 52 = .ok (.invokevirtual 215, 3) := by decide +kernel
theorem dX11_gets_55 : decode cX11_gets 55 = .ok (.ifCond .eq 5, 3) := by decide +kernel
theorem dX11_gets_58 : decode cX11_gets 58 = .ok (.iconst 0, 1) := by decide +kernel
theorem dX11_gets_59 : decode cX11_gets 59 = .ok (.ireturn, 1) := by decide +kernel
theorem dX11_gets_60 : decode cX11_gets 60 = .ok (.iload_n 3, 1) := by decide +kernel
theorem dX11_gets_61 : decode cX11_gets 61 = .ok (.ifCond .ne 12, 3) := by decide +kernel
theorem dX11_gets_64 : decode cX11_gets 64 = .ok (.aload_n 0, 1) := by decide +kernel
theorem dX11_gets_65 : decode cX11_gets 65 = .ok (.iload_n 1, 1) := by decide +kernel
theorem dX11_gets_66 : decode cX11_gets 66 = .ok (.iload_n 2, 1) := by decide +kernel
theorem dX11_gets_67 : decode cX11_gets 67 = .ok (.invokevirtual 261, 3) := by decide +kernel
theorem dX11_gets_70 : decode cX11_gets 70 = .ok (.goto 9, 3) := by decide +kernel
theorem dX11_gets_73 : decode cX11_gets 73 = .ok (.aload_n 0, 1) := by decide +kernel
theorem dX11_gets_74 : decode cX11_gets 74 = .ok (.iload_n 1, 1) := by decide +kernel
theorem dX11_gets_75 : decode cX11_gets 75 = .ok (.iload_n 2, 1) := by decide +kernel
theorem dX11_gets_76 : decode cX11_gets 76 = .ok (.invokevirtual 279, 3) := by decide +kernel
theorem dX11_gets_79 : decode cX11_gets 79 = .ok (.ireturn, 1) := by decide +kernel
abbrev mX11_gets : MD := (cX11_gets, "BlottedDeedModel", 4, 3, 76, (some .int), "gets", [])
def bX11_gets_0 (g : GE) (J : Nat → KT) : KT := i_aload 0 (i_push (.int 0) (i_putf 10 0 .int (i_aload 0 (i_aload 0 (i_iload 1 (i_cv fX11_isReading g 1 10 (i_ifeq (i_jmp [true, true, true, true] (J 1)) (i_aload 0 (i_iload 2 (i_cv fX11_isHeir g 1 10 (i_ifne (i_push (.int 0) (i_jmp [true, true, true, true] (J 2))) (i_jmp [true, true, true, true] (J 1)))))))))))))
def bX11_gets_1 (g : GE) (J : Nat → KT) : KT := i_push (.int 1) (i_jmp [true, true, true, true] (J 2))
def bX11_gets_2 (g : GE) (J : Nat → KT) : KT := i_push (.int 1) (i_push (.int 0) (i_cv fX11_bad g 3 10 (i_ifne (i_jmp [false, false, false, false] (J 4)) (i_aload 0 (i_iload 3 (i_push (.int 0) (i_push (.int 1) (i_cs fX11_in g 3 (i_ifne (i_push (.int 0) (i_jmp [true, true, true, true] (J 3))) (i_push (.int 1) (i_jmp [true, true, true, true] (J 3))))))))))))
def bX11_gets_3 (g : GE) (J : Nat → KT) : KT := i_push (.int 2) (i_push (.int 2) (i_cv fX11_bad g 3 10 (i_ifeq (i_iload 3 (i_ifne (i_aload 0 (i_iload 1 (i_iload 2 (i_cv fX11_worthBy g 2 10 (i_jmp [false, false, false, false] (J 5)))))) (i_aload 0 (i_iload 1 (i_iload 2 (i_cv fX11_coinBy g 2 10 (i_jmp [false, false, false, false] (J 5)))))))) (i_jmp [false, false, false, false] (J 4)))))
def bX11_gets_4 (g : GE) (J : Nat → KT) : KT := i_push (.int 0) (i_ireturn)
def bX11_gets_5 (g : GE) (J : Nat → KT) : KT := i_ireturn
theorem sbX11_gets_0 (g : GE) (J : Nat → KT) (h1 : Snd mX11_gets g 22 (J 1)) (h2 : Snd mX11_gets g 27 (J 2)) (h3 : Snd mX11_gets g 50 (J 3)) (h4 : Snd mX11_gets g 58 (J 4)) (h5 : Snd mX11_gets g 79 (J 5)) : Snd mX11_gets g 0 (bX11_gets_0 g J) := by
  unfold bX11_gets_0
  refine s_aload_n (pc := 0) (i := 0) ?_ dX11_gets_0 rfl
  refine s_iconst (pc := 1) (v := 0) ?_ dX11_gets_1 (by decide)
  refine s_putf (pc := 2) (ci := 10) (f := 0) (T := TX11) (ty0 := tyX11) ?_ ginX11 tyX11_ok nmX11 rfl (by decide) rfl rfl wt_1393 dX11_gets_2
  refine s_aload_n (pc := 5) (i := 0) ?_ dX11_gets_5 rfl
  refine s_aload_n (pc := 6) (i := 0) ?_ dX11_gets_6 rfl
  refine s_iload_n (pc := 7) (i := 1) ?_ dX11_gets_7 rfl
  refine s_cv (pc := 8) (n := 1) (ci := 10) ?_ tX11_isReading rfl rfl wt_1671 wt_1673 wp_68 wt_17 wt_1674 ⟨crX11_isReading, by decide, by decide⟩ dX11_gets_8
  refine s_ifeq (pc := 11) (tgt := 22) ?_ ?_ dX11_gets_11 (by decide)
  · skip
    exact s_fall (pc := 22) h1
  · skip
    refine s_aload_n (pc := 14) (i := 0) ?_ dX11_gets_14 rfl
    refine s_iload_n (pc := 15) (i := 2) ?_ dX11_gets_15 rfl
    refine s_cv (pc := 16) (n := 1) (ci := 10) ?_ tX11_isHeir rfl rfl wt_1703 wt_1705 wp_72 wt_17 wt_1706 ⟨crX11_isHeir, by decide, by decide⟩ dX11_gets_16
    refine s_ifne (pc := 19) (tgt := 26) ?_ ?_ dX11_gets_19 (by decide)
    · skip
      refine s_iconst (pc := 26) (v := 0) ?_ dX11_gets_26 (by decide)
      exact s_fall (pc := 27) h2
    · skip
      exact s_fall (pc := 22) h1
theorem sbX11_gets_1 (g : GE) (J : Nat → KT) (h1 : Snd mX11_gets g 22 (J 1)) (h2 : Snd mX11_gets g 27 (J 2)) (h3 : Snd mX11_gets g 50 (J 3)) (h4 : Snd mX11_gets g 58 (J 4)) (h5 : Snd mX11_gets g 79 (J 5)) : Snd mX11_gets g 22 (bX11_gets_1 g J) := by
  unfold bX11_gets_1
  refine s_iconst (pc := 22) (v := 1) ?_ dX11_gets_22 (by decide)
  exact s_goto (pc := 23) (tgt := 27) h2 dX11_gets_23 (by decide)
theorem sbX11_gets_2 (g : GE) (J : Nat → KT) (h1 : Snd mX11_gets g 22 (J 1)) (h2 : Snd mX11_gets g 27 (J 2)) (h3 : Snd mX11_gets g 50 (J 3)) (h4 : Snd mX11_gets g 58 (J 4)) (h5 : Snd mX11_gets g 79 (J 5)) : Snd mX11_gets g 27 (bX11_gets_2 g J) := by
  unfold bX11_gets_2
  refine s_iconst (pc := 27) (v := 1) ?_ dX11_gets_27 (by decide)
  refine s_iconst (pc := 28) (v := 0) ?_ dX11_gets_28 (by decide)
  refine s_cv (pc := 29) (n := 3) (ci := 10) ?_ tX11_bad rfl rfl wt_1560 wt_1562 wp_49 wt_17 wt_1563 ⟨crX11_bad, by decide, by decide⟩ dX11_gets_29
  refine s_ifne (pc := 32) (tgt := 58) ?_ ?_ dX11_gets_32 (by decide)
  · skip
    exact s_fall (pc := 58) h4
  · skip
    refine s_aload_n (pc := 35) (i := 0) ?_ dX11_gets_35 rfl
    refine s_iload_n (pc := 36) (i := 3) ?_ dX11_gets_36 rfl
    refine s_iconst (pc := 37) (v := 0) ?_ dX11_gets_37 (by decide)
    refine s_iconst (pc := 38) (v := 1) ?_ dX11_gets_38 (by decide)
    refine s_cs (pc := 39) (n := 3) ?_ tX11_in wt_1557 wt_1558 wt_17 wt_1559 ⟨crX11_in, by decide, by decide⟩ dX11_gets_39
    refine s_ifne (pc := 42) (tgt := 49) ?_ ?_ dX11_gets_42 (by decide)
    · skip
      refine s_iconst (pc := 49) (v := 0) ?_ dX11_gets_49 (by decide)
      exact s_fall (pc := 50) h3
    · skip
      refine s_iconst (pc := 45) (v := 1) ?_ dX11_gets_45 (by decide)
      exact s_goto (pc := 46) (tgt := 50) h3 dX11_gets_46 (by decide)
theorem sbX11_gets_3 (g : GE) (J : Nat → KT) (h1 : Snd mX11_gets g 22 (J 1)) (h2 : Snd mX11_gets g 27 (J 2)) (h3 : Snd mX11_gets g 50 (J 3)) (h4 : Snd mX11_gets g 58 (J 4)) (h5 : Snd mX11_gets g 79 (J 5)) : Snd mX11_gets g 50 (bX11_gets_3 g J) := by
  unfold bX11_gets_3
  refine s_iconst (pc := 50) (v := 2) ?_ dX11_gets_50 (by decide)
  refine s_iconst (pc := 51) (v := 2) ?_ dX11_gets_51 (by decide)
  refine s_cv (pc := 52) (n := 3) (ci := 10) ?_ tX11_bad rfl rfl wt_1560 wt_1562 wp_49 wt_17 wt_1563 ⟨crX11_bad, by decide, by decide⟩ dX11_gets_52
  refine s_ifeq (pc := 55) (tgt := 60) ?_ ?_ dX11_gets_55 (by decide)
  · skip
    refine s_iload_n (pc := 60) (i := 3) ?_ dX11_gets_60 rfl
    refine s_ifne (pc := 61) (tgt := 73) ?_ ?_ dX11_gets_61 (by decide)
    · skip
      refine s_aload_n (pc := 73) (i := 0) ?_ dX11_gets_73 rfl
      refine s_iload_n (pc := 74) (i := 1) ?_ dX11_gets_74 rfl
      refine s_iload_n (pc := 75) (i := 2) ?_ dX11_gets_75 rfl
      refine s_cv (pc := 76) (n := 2) (ci := 10) ?_ tX11_worthBy rfl rfl wt_1712 wt_1714 wp_74 wt_17 wt_1715 ⟨crX11_worthBy, by decide, by decide⟩ dX11_gets_76
      exact s_fall (pc := 79) h5
    · skip
      refine s_aload_n (pc := 64) (i := 0) ?_ dX11_gets_64 rfl
      refine s_iload_n (pc := 65) (i := 1) ?_ dX11_gets_65 rfl
      refine s_iload_n (pc := 66) (i := 2) ?_ dX11_gets_66 rfl
      refine s_cv (pc := 67) (n := 2) (ci := 10) ?_ tX11_coinBy rfl rfl wt_1707 wt_1709 wp_73 wt_17 wt_1710 ⟨crX11_coinBy, by decide, by decide⟩ dX11_gets_67
      exact s_goto (pc := 70) (tgt := 79) h5 dX11_gets_70 (by decide)
  · skip
    exact s_fall (pc := 58) h4
theorem sbX11_gets_4 (g : GE) (J : Nat → KT) (h1 : Snd mX11_gets g 22 (J 1)) (h2 : Snd mX11_gets g 27 (J 2)) (h3 : Snd mX11_gets g 50 (J 3)) (h4 : Snd mX11_gets g 58 (J 4)) (h5 : Snd mX11_gets g 79 (J 5)) : Snd mX11_gets g 58 (bX11_gets_4 g J) := by
  unfold bX11_gets_4
  refine s_iconst (pc := 58) (v := 0) ?_ dX11_gets_58 (by decide)
  exact s_ireturn (pc := 59) rfl dX11_gets_59
theorem sbX11_gets_5 (g : GE) (J : Nat → KT) (h1 : Snd mX11_gets g 22 (J 1)) (h2 : Snd mX11_gets g 27 (J 2)) (h3 : Snd mX11_gets g 50 (J 3)) (h4 : Snd mX11_gets g 58 (J 4)) (h5 : Snd mX11_gets g 79 (J 5)) : Snd mX11_gets g 79 (bX11_gets_5 g J) := by
  unfold bX11_gets_5
  exact s_ireturn (pc := 79) rfl dX11_gets_79
def jX11_gets (g : GE) : Nat → Nat → KT
  | 0, _ => fun _ _ _ => none
  | n + 1, 0 => bX11_gets_0 g (jX11_gets g n)
  | n + 1, 1 => bX11_gets_1 g (jX11_gets g n)
  | n + 1, 2 => bX11_gets_2 g (jX11_gets g n)
  | n + 1, 3 => bX11_gets_3 g (jX11_gets g n)
  | n + 1, 4 => bX11_gets_4 g (jX11_gets g n)
  | n + 1, 5 => bX11_gets_5 g (jX11_gets g n)
  | _ + 1, _ + 6 => fun _ _ _ => none
theorem sjX11_gets (g : GE) : ∀ n, Snd mX11_gets g 0 (jX11_gets g n 0) ∧ Snd mX11_gets g 22 (jX11_gets g n 1) ∧ Snd mX11_gets g 27 (jX11_gets g n 2) ∧ Snd mX11_gets g 50 (jX11_gets g n 3) ∧ Snd mX11_gets g 58 (jX11_gets g n 4) ∧ Snd mX11_gets g 79 (jX11_gets g n 5)
  | 0 => ⟨s_none, s_none, s_none, s_none, s_none, s_none⟩
  | n + 1 => by
    obtain ⟨-, h1, h2, h3, h4, h5⟩ := sjX11_gets g n
    exact ⟨sbX11_gets_0 g _ h1 h2 h3 h4 h5, sbX11_gets_1 g _ h1 h2 h3 h4 h5, sbX11_gets_2 g _ h1 h2 h3 h4 h5, sbX11_gets_3 g _ h1 h2 h3 h4 h5, sbX11_gets_4 g _ h1 h2 h3 h4 h5, sbX11_gets_5 g _ h1 h2 h3 h4 h5⟩
def kX11_gets (g : GE) : KT := jX11_gets g g.1 0
theorem sX11_gets (g : GE) : Snd mX11_gets g 0 (kX11_gets g) := (sjX11_gets g g.1).1
def fX11_gets : FT := fun g av w => if (ent av).length ≤ 4 then kX11_gets g [] (entp 4 av) w else none
theorem tX11_gets : Mt yX11_gets cX11_gets 4 (some .int) 3 76 fX11_gets := Mt.of (K := kX11_gets) (by decide +kernel) (fun _ _ _ => rfl) sX11_gets
theorem crX11_gets : yX11_gets.cls ≠ "java/lang/invoke/MethodHandle" ∧ yX11_gets.cls ≠ "java/lang/invoke/VarHandle" ∧ (parseMethodDescriptor yX11_gets.desc).map (fun d => d.parameters.length) = some 3 := by decide +kernel
theorem dX11_goes_0 : decode cX11_goes 0 = .ok (.aload_n 0, 1) := by decide +kernel
theorem dX11_goes_1 : decode cX11_goes 1 = .ok (.iconst 0, 1) := by decide +kernel
theorem dX11_goes_2 : decode cX11_goes 2 = .ok (.putfield 120, 3) := by decide +kernel
theorem dX11_goes_5 : decode cX11_goes 5 = .ok (.aload_n 0, 1) := by decide +kernel
theorem dX11_goes_6 : decode cX11_goes 6 = .ok (.aload_n 0, 1) := by decide +kernel
theorem dX11_goes_7 : decode cX11_goes 7 = .ok (.iload_n 1, 1) := by decide +kernel
theorem dX11_goes_8 : decode cX11_goes 8 = .ok (.invokevirtual 267, 3) := by decide +kernel
theorem dX11_goes_11 : decode cX11_goes 11 = .ok (.ifCond .eq 11, 3) := by decide +kernel
theorem dX11_goes_14 : decode cX11_goes 14 = .ok (.aload_n 0, 1) := by decide +kernel
theorem dX11_goes_15 : decode cX11_goes 15 = .ok (.iload_n 2, 1) := by decide +kernel
theorem dX11_goes_16 : decode cX11_goes 16 = .ok (.invokevirtual 282, 3) := by decide +kernel
theorem dX11_goes_19 : decode cX11_goes 19 = .ok (.ifCond .ne 7, 3) := by decide +kernel
theorem dX11_goes_22 : decode cX11_goes 22 = .ok (.iconst 1, 1) := by decide +kernel
theorem dX11_goes_23 : decode cX11_goes 23 = .ok (.goto 4, 3) := by decide +kernel
theorem dX11_goes_26 : decode cX11_goes 26 = .ok (.iconst 0, 1) := by decide +kernel
theorem dX11_goes_27 : decode cX11_goes 27 = .ok (.iconst 1, 1) := by decide +kernel
theorem dX11_goes_28 : decode cX11_goes 28 = .ok (.iconst 0, 1) := by decide +kernel
theorem dX11_goes_29 : decode cX11_goes 29 = .ok (.invokevirtual 215, 3) := by decide +kernel
theorem dX11_goes_32 : decode cX11_goes 32 = .ok (.ifCond .eq 5, 3) := by decide +kernel
theorem dX11_goes_35 : decode cX11_goes 35 = .ok (.iconst 0, 1) := by decide +kernel
theorem dX11_goes_36 : decode cX11_goes 36 = .ok (.ireturn, 1) := by decide +kernel
theorem dX11_goes_37 : decode cX11_goes 37 = .ok (.aload_n 0, 1) := by decide +kernel
theorem dX11_goes_38 : decode cX11_goes 38 = .ok (.iload_n 1, 1) := by decide +kernel
theorem dX11_goes_39 : decode cX11_goes 39 = .ok (.iload_n 2, 1) := by decide +kernel
theorem dX11_goes_40 : decode cX11_goes 40 = .ok (.invokevirtual 264, 3) := by decide +kernel
theorem dX11_goes_43 : decode cX11_goes 43 = .ok (.ireturn, 1) := by decide +kernel
abbrev mX11_goes : MD := (cX11_goes, "BlottedDeedModel", 3, 3, 73, (some .int), "goes", [])
def bX11_goes_0 (g : GE) (J : Nat → KT) : KT := i_aload 0 (i_push (.int 0) (i_putf 10 0 .int (i_aload 0 (i_aload 0 (i_iload 1 (i_cv fX11_isReading g 1 10 (i_ifeq (i_jmp [true, true, true] (J 1)) (i_aload 0 (i_iload 2 (i_cv fX11_isThing g 1 10 (i_ifne (i_push (.int 0) (i_jmp [true, true, true] (J 2))) (i_jmp [true, true, true] (J 1)))))))))))))
def bX11_goes_1 (g : GE) (J : Nat → KT) : KT := i_push (.int 1) (i_jmp [true, true, true] (J 2))
def bX11_goes_2 (g : GE) (J : Nat → KT) : KT := i_push (.int 1) (i_push (.int 0) (i_cv fX11_bad g 3 10 (i_ifeq (i_aload 0 (i_iload 1 (i_iload 2 (i_cv fX11_goesBy g 2 10 (i_ireturn))))) (i_push (.int 0) (i_ireturn)))))
theorem sbX11_goes_0 (g : GE) (J : Nat → KT) (h1 : Snd mX11_goes g 22 (J 1)) (h2 : Snd mX11_goes g 27 (J 2)) : Snd mX11_goes g 0 (bX11_goes_0 g J) := by
  unfold bX11_goes_0
  refine s_aload_n (pc := 0) (i := 0) ?_ dX11_goes_0 rfl
  refine s_iconst (pc := 1) (v := 0) ?_ dX11_goes_1 (by decide)
  refine s_putf (pc := 2) (ci := 10) (f := 0) (T := TX11) (ty0 := tyX11) ?_ ginX11 tyX11_ok nmX11 rfl (by decide) rfl rfl wt_1393 dX11_goes_2
  refine s_aload_n (pc := 5) (i := 0) ?_ dX11_goes_5 rfl
  refine s_aload_n (pc := 6) (i := 0) ?_ dX11_goes_6 rfl
  refine s_iload_n (pc := 7) (i := 1) ?_ dX11_goes_7 rfl
  refine s_cv (pc := 8) (n := 1) (ci := 10) ?_ tX11_isReading rfl rfl wt_1671 wt_1673 wp_68 wt_17 wt_1674 ⟨crX11_isReading, by decide, by decide⟩ dX11_goes_8
  refine s_ifeq (pc := 11) (tgt := 22) ?_ ?_ dX11_goes_11 (by decide)
  · skip
    exact s_fall (pc := 22) h1
  · skip
    refine s_aload_n (pc := 14) (i := 0) ?_ dX11_goes_14 rfl
    refine s_iload_n (pc := 15) (i := 2) ?_ dX11_goes_15 rfl
    refine s_cv (pc := 16) (n := 1) (ci := 10) ?_ tX11_isThing rfl rfl wt_1724 wt_1726 wp_76 wt_17 wt_1727 ⟨crX11_isThing, by decide, by decide⟩ dX11_goes_16
    refine s_ifne (pc := 19) (tgt := 26) ?_ ?_ dX11_goes_19 (by decide)
    · skip
      refine s_iconst (pc := 26) (v := 0) ?_ dX11_goes_26 (by decide)
      exact s_fall (pc := 27) h2
    · skip
      exact s_fall (pc := 22) h1
theorem sbX11_goes_1 (g : GE) (J : Nat → KT) (h1 : Snd mX11_goes g 22 (J 1)) (h2 : Snd mX11_goes g 27 (J 2)) : Snd mX11_goes g 22 (bX11_goes_1 g J) := by
  unfold bX11_goes_1
  refine s_iconst (pc := 22) (v := 1) ?_ dX11_goes_22 (by decide)
  exact s_goto (pc := 23) (tgt := 27) h2 dX11_goes_23 (by decide)
theorem sbX11_goes_2 (g : GE) (J : Nat → KT) (h1 : Snd mX11_goes g 22 (J 1)) (h2 : Snd mX11_goes g 27 (J 2)) : Snd mX11_goes g 27 (bX11_goes_2 g J) := by
  unfold bX11_goes_2
  refine s_iconst (pc := 27) (v := 1) ?_ dX11_goes_27 (by decide)
  refine s_iconst (pc := 28) (v := 0) ?_ dX11_goes_28 (by decide)
  refine s_cv (pc := 29) (n := 3) (ci := 10) ?_ tX11_bad rfl rfl wt_1560 wt_1562 wp_49 wt_17 wt_1563 ⟨crX11_bad, by decide, by decide⟩ dX11_goes_29
  refine s_ifeq (pc := 32) (tgt := 37) ?_ ?_ dX11_goes_32 (by decide)
  · skip
    refine s_aload_n (pc := 37) (i := 0) ?_ dX11_goes_37 rfl
    refine s_iload_n (pc := 38) (i := 1) ?_ dX11_goes_38 rfl
    refine s_iload_n (pc := 39) (i := 2) ?_ dX11_goes_39 rfl
    refine s_cv (pc := 40) (n := 2) (ci := 10) ?_ tX11_goesBy rfl rfl wt_1716 wt_1718 wp_75 wt_17 wt_1719 ⟨crX11_goesBy, by decide, by decide⟩ dX11_goes_40
    exact s_ireturn (pc := 43) rfl dX11_goes_43
  · skip
    refine s_iconst (pc := 35) (v := 0) ?_ dX11_goes_35 (by decide)
    exact s_ireturn (pc := 36) rfl dX11_goes_36
def jX11_goes (g : GE) : Nat → Nat → KT
  | 0, _ => fun _ _ _ => none
  | n + 1, 0 => bX11_goes_0 g (jX11_goes g n)
  | n + 1, 1 => bX11_goes_1 g (jX11_goes g n)
  | n + 1, 2 => bX11_goes_2 g (jX11_goes g n)
  | _ + 1, _ + 3 => fun _ _ _ => none
theorem sjX11_goes (g : GE) : ∀ n, Snd mX11_goes g 0 (jX11_goes g n 0) ∧ Snd mX11_goes g 22 (jX11_goes g n 1) ∧ Snd mX11_goes g 27 (jX11_goes g n 2)
  | 0 => ⟨s_none, s_none, s_none⟩
  | n + 1 => by
    obtain ⟨-, h1, h2⟩ := sjX11_goes g n
    exact ⟨sbX11_goes_0 g _ h1 h2, sbX11_goes_1 g _ h1 h2, sbX11_goes_2 g _ h1 h2⟩
def kX11_goes (g : GE) : KT := jX11_goes g g.1 0
theorem sX11_goes (g : GE) : Snd mX11_goes g 0 (kX11_goes g) := (sjX11_goes g g.1).1
def fX11_goes : FT := fun g av w => if (ent av).length ≤ 3 then kX11_goes g [] (entp 3 av) w else none
theorem tX11_goes : Mt yX11_goes cX11_goes 3 (some .int) 3 73 fX11_goes := Mt.of (K := kX11_goes) (by decide +kernel) (fun _ _ _ => rfl) sX11_goes
theorem crX11_goes : yX11_goes.cls ≠ "java/lang/invoke/MethodHandle" ∧ yX11_goes.cls ≠ "java/lang/invoke/VarHandle" ∧ (parseMethodDescriptor yX11_goes.desc).map (fun d => d.parameters.length) = some 2 := by decide +kernel
theorem dX11_habit_0 : decode cX11_habit 0 = .ok (.aload_n 0, 1) := by decide +kernel
theorem dX11_habit_1 : decode cX11_habit 1 = .ok (.iconst 0, 1) := by decide +kernel
theorem dX11_habit_2 : decode cX11_habit 2 = .ok (.putfield 120, 3) := by decide +kernel
theorem dX11_habit_5 : decode cX11_habit 5 = .ok (.aload_n 0, 1) := by decide +kernel
theorem dX11_habit_6 : decode cX11_habit 6 = .ok (.iload_n 1, 1) := by decide +kernel
theorem dX11_habit_7 : decode cX11_habit 7 = .ok (.iconst 0, 1) := by decide +kernel
theorem dX11_habit_8 : decode cX11_habit 8 = .ok (.iconst 3, 1) := by decide +kernel
theorem dX11_habit_9 : decode cX11_habit 9 = .ok (.invokestatic 154, 3) := by decide +kernel
theorem dX11_habit_12 : decode cX11_habit 12 = .ok (.ifCond .eq 39, 3) := by decide +kernel
theorem dX11_habit_15 : decode cX11_habit 15 = .ok (.iload_n 2, 1) := by decide +kernel
theorem dX11_habit_16 : decode cX11_habit 16 = .ok (.iconst 0, 1) := by decide +kernel
theorem dX11_habit_17 : decode cX11_habit 17 = .ok (.bipush 99, 2) := by decide +kernel
theorem dX11_habit_19 : decode cX11_habit 19 = .ok (.invokestatic 154, 3) := by decide +kernel
theorem dX11_habit_22 : decode cX11_habit 22 = .ok (.ifCond .eq 29, 3) := by decide +kernel
theorem dX11_habit_25 : decode cX11_habit 25 = .ok (.iload_n 3, 1) := by decide +kernel
theorem dX11_habit_26 : decode cX11_habit 26 = .ok (.iconst 0, 1) := by decide +kernel
theorem dX11_habit_27 : decode cX11_habit 27 = .ok (.bipush 99, 2) := by decide +kernel
theorem dX11_habit_29 : decode cX11_habit 29 = .ok (.invokestatic 154, 3) := by decide +kernel
theorem dX11_habit_32 : decode cX11_habit 32 = .ok (.ifCond .eq 19, 3) := by decide +kernel
theorem dX11_habit_35 : decode cX11_habit 35 = .ok (.iload_n 2, 1) := by decide +kernel
theorem dX11_habit_36 : decode cX11_habit 36 = .ok (.iload_n 3, 1) := by decide +kernel
theorem dX11_habit_37 : decode cX11_habit 37 = .ok (.if_icmp .eq 14, 3) := by decide +kernel
theorem dX11_habit_40 : decode cX11_habit 40 = .ok (.iload 4, 2) := by decide +kernel
theorem dX11_habit_42 : decode cX11_habit 42 = .ok (.iconst 1, 1) := by decide +kernel
theorem dX11_habit_43 : decode cX11_habit 43 = .ok (.bipush 15, 2) := by decide +kernel
theorem dX11_habit_45 : decode cX11_habit 45 = .ok (.invokestatic 154, 3) := by decide +kernel
theorem dX11_habit_48 : decode cX11_habit 48 = .ok (.ifCond .ne 7, 3) := by decide +kernel
theorem dX11_habit_51 : decode cX11_habit 51 = .ok (.iconst 1, 1) := by decide +kernel
theorem dX11_habit_52 : decode cX11_habit 52 = .ok (.goto 4, 3) := by decide +kernel
theorem dX11_habit_55 : decode cX11_habit 55 = .ok (.iconst 0, 1) := by decide +kernel
theorem dX11_habit_56 : decode cX11_habit 56 = .ok (.iconst 1, 1) := by decide +kernel
theorem dX11_habit_57 : decode cX11_habit 57 = .ok (.iconst 2, 1) := by decide +kernel
theorem dX11_habit_58 : decode cX11_habit 58 = .ok (.invokevirtual 215, 3) := by decide +kernel
theorem dX11_habit_61 : decode cX11_habit 61 = .ok (.ifCond .eq 5, 3) := by decide +kernel
theorem dX11_habit_64 : decode cX11_habit 64 = .ok (.iconst 0, 1) := by decide +kernel
theorem dX11_habit_65 : decode cX11_habit 65 = .ok (.ireturn, 1) := by decide +kernel
theorem dX11_habit_66 : decode cX11_habit 66 = .ok (.aload_n 0, 1) := by decide +kernel
theorem dX11_habit_67 : decode cX11_habit 67 = .ok (.getfield 228, 3) := by decide +kernel
theorem dX11_habit_70 : decode cX11_habit 70 = .ok (.bipush 8, 2) := by decide +kernel
theorem dX11_habit_72 : decode cX11_habit 72 = .ok (.if_icmp .ne 5, 3) := by decide +kernel
theorem dX11_habit_75 : decode cX11_habit 75 = .ok (.iconst (-1), 1) := by decide +kernel
theorem dX11_habit_76 : decode cX11_habit 76 = .ok (.ireturn, 1) := by decide +kernel
theorem dX11_habit_77 : decode cX11_habit 77 = .ok (.aload_n 0, 1) := by decide +kernel
theorem dX11_habit_78 : decode cX11_habit 78 = .ok (.getfield 89, 3) := by decide +kernel
theorem dX11_habit_81 : decode cX11_habit 81 = .ok (.aload_n 0, 1) := by decide +kernel
theorem dX11_habit_82 : decode cX11_habit 82 = .ok (.getfield 228, 3) := by decide +kernel
theorem dX11_habit_85 : decode cX11_habit 85 = .ok (.aaload, 1) := by decide +kernel
theorem dX11_habit_86 : decode cX11_habit 86 = .ok (.iconst 0, 1) := by decide +kernel
theorem dX11_habit_87 : decode cX11_habit 87 = .ok (.iload_n 1, 1) := by decide +kernel
theorem dX11_habit_88 : decode cX11_habit 88 = .ok (.iastore, 1) := by decide +kernel
theorem dX11_habit_89 : decode cX11_habit 89 = .ok (.aload_n 0, 1) := by decide +kernel
theorem dX11_habit_90 : decode cX11_habit 90 = .ok (.getfield 89, 3) := by decide +kernel
theorem dX11_habit_93 : decode cX11_habit 93 = .ok (.aload_n 0, 1) := by decide +kernel
theorem dX11_habit_94 : decode cX11_habit 94 = .ok (.getfield 228, 3) := by decide +kernel
theorem dX11_habit_97 : decode cX11_habit 97 = .ok (.aaload, 1) := by decide +kernel
theorem dX11_habit_98 : decode cX11_habit 98 = .ok (.iconst 1, 1) := by decide +kernel
theorem dX11_habit_99 : decode cX11_habit 99 = .ok (.iload_n 2, 1) := by decide +kernel
theorem dX11_habit_100 : decode cX11_habit 100 = .ok (.iastore, 1) := by decide +kernel
theorem dX11_habit_101 : decode cX11_habit 101 = .ok (.aload_n 0, 1) := by decide +kernel
theorem dX11_habit_102 : decode cX11_habit 102 = .ok (.getfield 89, 3) := by decide +kernel
theorem dX11_habit_105 : decode cX11_habit 105 = .ok (.aload_n 0, 1) := by decide +kernel
theorem dX11_habit_106 : decode cX11_habit 106 = .ok (.getfield 228, 3) := by decide +kernel
theorem dX11_habit_109 : decode cX11_habit 109 = .ok (.aaload, 1) := by decide +kernel
theorem dX11_habit_110 : decode cX11_habit 110 = .ok (.iconst 2, 1) := by decide +kernel
theorem dX11_habit_111 : decode cX11_habit 111 = .ok (.iload_n 3, 1) := by decide +kernel
theorem dX11_habit_112 : decode cX11_habit 112 = .ok (.iastore, 1) := by decide +kernel
theorem dX11_habit_113 : decode cX11_habit 113 = .ok (.aload_n 0, 1) := by decide +kernel
theorem dX11_habit_114 : decode cX11_habit 114 = .ok (.getfield 89, 3) := by decide +kernel
theorem dX11_habit_117 : decode cX11_habit 117 = .ok (.aload_n 0, 1) := by decide +kernel
theorem dX11_habit_118 : decode cX11_habit 118 = .ok (.getfield 228, 3) := by decide +kernel
theorem dX11_habit_121 : decode cX11_habit 121 = .ok (.aaload, 1) := by decide +kernel
theorem dX11_habit_122 : decode cX11_habit 122 = .ok (.iconst 3, 1) := by decide +kernel
theorem dX11_habit_123 : decode cX11_habit 123 = .ok (.iload 4, 2) := by decide +kernel
theorem dX11_habit_125 : decode cX11_habit 125 = .ok (.iastore, 1) := by decide +kernel
theorem dX11_habit_126 : decode cX11_habit 126 = .ok (.aload_n 0, 1) := by decide +kernel
theorem dX11_habit_127 : decode cX11_habit 127 = .ok (.dup, 1) := by decide +kernel
theorem dX11_habit_128 : decode cX11_habit 128 = .ok (.getfield 228, 3) := by decide +kernel
theorem dX11_habit_131 : decode cX11_habit 131 = .ok (.iconst 1, 1) := by decide +kernel
theorem dX11_habit_132 : decode cX11_habit 132 = .ok (.iadd, 1) := by decide +kernel
theorem dX11_habit_133 : decode cX11_habit 133 = .ok (.putfield 228, 3) := by decide +kernel
theorem dX11_habit_136 : decode cX11_habit 136 = .ok (.aload_n 0, 1) := by decide +kernel
theorem dX11_habit_137 : decode cX11_habit 137 = .ok (.getfield 228, 3) := by decide +kernel
theorem dX11_habit_140 : decode cX11_habit 140 = .ok (.ireturn, 1) := by decide +kernel
abbrev mX11_habit : MD := (cX11_habit, "BlottedDeedModel", 5, 2, 53, (some .int), "habit", [])
def bX11_habit_0 (g : GE) (J : Nat → KT) : KT := i_aload 0 (i_push (.int 0) (i_putf 10 0 .int (i_aload 0 (i_iload 1 (i_push (.int 0) (i_push (.int 3) (i_cs fX11_in g 3 (i_ifeq (i_jmp [true, true, true, true, true] (J 1)) (i_iload 2 (i_push (.int 0) (i_push (.int 99) (i_cs fX11_in g 3 (i_ifeq (i_jmp [true, true, true, true, true] (J 1)) (i_iload 3 (i_push (.int 0) (i_push (.int 99) (i_cs fX11_in g 3 (i_ifeq (i_jmp [true, true, true, true, true] (J 1)) (i_iload 2 (i_iload 3 (i_iceq (i_jmp [true, true, true, true, true] (J 1)) (i_iload 4 (i_push (.int 1) (i_push (.int 15) (i_cs fX11_in g 3 (i_ifne (i_push (.int 0) (i_jmp [true, true, true, true, true] (J 2))) (i_jmp [true, true, true, true, true] (J 1))))))))))))))))))))))))))))
def bX11_habit_1 (g : GE) (J : Nat → KT) : KT := i_push (.int 1) (i_jmp [true, true, true, true, true] (J 2))
def bX11_habit_2 (g : GE) (J : Nat → KT) : KT := i_push (.int 1) (i_push (.int 2) (i_cv fX11_bad g 3 10 (i_ifeq (i_aload 0 (i_getf 10 33 (i_push (.int 8) (i_icne (i_aload 0 (i_getf 10 37 (i_aload 0 (i_getf 10 33 (i_aaload 4 (i_push (.int 0) (i_iload 1 (i_iastore (i_aload 0 (i_getf 10 37 (i_aload 0 (i_getf 10 33 (i_aaload 4 (i_push (.int 1) (i_iload 2 (i_iastore (i_aload 0 (i_getf 10 37 (i_aload 0 (i_getf 10 33 (i_aaload 4 (i_push (.int 2) (i_iload 3 (i_iastore (i_aload 0 (i_getf 10 37 (i_aload 0 (i_getf 10 33 (i_aaload 4 (i_push (.int 3) (i_iload 4 (i_iastore (i_aload 0 (i_dup (i_getf 10 33 (i_push (.int 1) (i_iadd (i_putf 10 33 .int (i_aload 0 (i_getf 10 33 (i_ireturn))))))))))))))))))))))))))))))))))))))))) (i_push (.int (-1)) (i_ireturn)))))) (i_push (.int 0) (i_ireturn)))))
theorem sbX11_habit_0 (g : GE) (J : Nat → KT) (h1 : Snd mX11_habit g 51 (J 1)) (h2 : Snd mX11_habit g 56 (J 2)) : Snd mX11_habit g 0 (bX11_habit_0 g J) := by
  unfold bX11_habit_0
  refine s_aload_n (pc := 0) (i := 0) ?_ dX11_habit_0 rfl
  refine s_iconst (pc := 1) (v := 0) ?_ dX11_habit_1 (by decide)
  refine s_putf (pc := 2) (ci := 10) (f := 0) (T := TX11) (ty0 := tyX11) ?_ ginX11 tyX11_ok nmX11 rfl (by decide) rfl rfl wt_1393 dX11_habit_2
  refine s_aload_n (pc := 5) (i := 0) ?_ dX11_habit_5 rfl
  refine s_iload_n (pc := 6) (i := 1) ?_ dX11_habit_6 rfl
  refine s_iconst (pc := 7) (v := 0) ?_ dX11_habit_7 (by decide)
  refine s_iconst (pc := 8) (v := 3) ?_ dX11_habit_8 (by decide)
  refine s_cs (pc := 9) (n := 3) ?_ tX11_in wt_1557 wt_1558 wt_17 wt_1559 ⟨crX11_in, by decide, by decide⟩ dX11_habit_9
  refine s_ifeq (pc := 12) (tgt := 51) ?_ ?_ dX11_habit_12 (by decide)
  · skip
    exact s_fall (pc := 51) h1
  · skip
    refine s_iload_n (pc := 15) (i := 2) ?_ dX11_habit_15 rfl
    refine s_iconst (pc := 16) (v := 0) ?_ dX11_habit_16 (by decide)
    refine s_bipush (pc := 17) (v := 99) ?_ dX11_habit_17 (by decide)
    refine s_cs (pc := 19) (n := 3) ?_ tX11_in wt_1557 wt_1558 wt_17 wt_1559 ⟨crX11_in, by decide, by decide⟩ dX11_habit_19
    refine s_ifeq (pc := 22) (tgt := 51) ?_ ?_ dX11_habit_22 (by decide)
    · skip
      exact s_fall (pc := 51) h1
    · skip
      refine s_iload_n (pc := 25) (i := 3) ?_ dX11_habit_25 rfl
      refine s_iconst (pc := 26) (v := 0) ?_ dX11_habit_26 (by decide)
      refine s_bipush (pc := 27) (v := 99) ?_ dX11_habit_27 (by decide)
      refine s_cs (pc := 29) (n := 3) ?_ tX11_in wt_1557 wt_1558 wt_17 wt_1559 ⟨crX11_in, by decide, by decide⟩ dX11_habit_29
      refine s_ifeq (pc := 32) (tgt := 51) ?_ ?_ dX11_habit_32 (by decide)
      · skip
        exact s_fall (pc := 51) h1
      · skip
        refine s_iload_n (pc := 35) (i := 2) ?_ dX11_habit_35 rfl
        refine s_iload_n (pc := 36) (i := 3) ?_ dX11_habit_36 rfl
        refine s_iceq (pc := 37) (tgt := 51) ?_ ?_ dX11_habit_37 (by decide)
        · skip
          exact s_fall (pc := 51) h1
        · skip
          refine s_iload (pc := 40) (i := 4) ?_ dX11_habit_40
          refine s_iconst (pc := 42) (v := 1) ?_ dX11_habit_42 (by decide)
          refine s_bipush (pc := 43) (v := 15) ?_ dX11_habit_43 (by decide)
          refine s_cs (pc := 45) (n := 3) ?_ tX11_in wt_1557 wt_1558 wt_17 wt_1559 ⟨crX11_in, by decide, by decide⟩ dX11_habit_45
          refine s_ifne (pc := 48) (tgt := 55) ?_ ?_ dX11_habit_48 (by decide)
          · skip
            refine s_iconst (pc := 55) (v := 0) ?_ dX11_habit_55 (by decide)
            exact s_fall (pc := 56) h2
          · skip
            exact s_fall (pc := 51) h1
theorem sbX11_habit_1 (g : GE) (J : Nat → KT) (h1 : Snd mX11_habit g 51 (J 1)) (h2 : Snd mX11_habit g 56 (J 2)) : Snd mX11_habit g 51 (bX11_habit_1 g J) := by
  unfold bX11_habit_1
  refine s_iconst (pc := 51) (v := 1) ?_ dX11_habit_51 (by decide)
  exact s_goto (pc := 52) (tgt := 56) h2 dX11_habit_52 (by decide)
theorem sbX11_habit_2 (g : GE) (J : Nat → KT) (h1 : Snd mX11_habit g 51 (J 1)) (h2 : Snd mX11_habit g 56 (J 2)) : Snd mX11_habit g 56 (bX11_habit_2 g J) := by
  unfold bX11_habit_2
  refine s_iconst (pc := 56) (v := 1) ?_ dX11_habit_56 (by decide)
  refine s_iconst (pc := 57) (v := 2) ?_ dX11_habit_57 (by decide)
  refine s_cv (pc := 58) (n := 3) (ci := 10) ?_ tX11_bad rfl rfl wt_1560 wt_1562 wp_49 wt_17 wt_1563 ⟨crX11_bad, by decide, by decide⟩ dX11_habit_58
  refine s_ifeq (pc := 61) (tgt := 66) ?_ ?_ dX11_habit_61 (by decide)
  · skip
    refine s_aload_n (pc := 66) (i := 0) ?_ dX11_habit_66 rfl
    refine s_getf (pc := 67) (ci := 10) (f := 33) (T := TX11) ?_ ginX11 rfl (by decide) wt_1426 dX11_habit_67
    refine s_bipush (pc := 70) (v := 8) ?_ dX11_habit_70 (by decide)
    refine s_icne (pc := 72) (tgt := 77) ?_ ?_ dX11_habit_72 (by decide)
    · skip
      refine s_aload_n (pc := 77) (i := 0) ?_ dX11_habit_77 rfl
      refine s_getf (pc := 78) (ci := 10) (f := 37) (T := TX11) ?_ ginX11 rfl (by decide) wt_1430 dX11_habit_78
      refine s_aload_n (pc := 81) (i := 0) ?_ dX11_habit_81 rfl
      refine s_getf (pc := 82) (ci := 10) (f := 33) (T := TX11) ?_ ginX11 rfl (by decide) wt_1426 dX11_habit_82
      refine s_aaload (pc := 85) (t := 4) ?_ (by decide) rfl dX11_habit_85
      refine s_iconst (pc := 86) (v := 0) ?_ dX11_habit_86 (by decide)
      refine s_iload_n (pc := 87) (i := 1) ?_ dX11_habit_87 rfl
      refine s_iastore (pc := 88) ?_ dX11_habit_88
      refine s_aload_n (pc := 89) (i := 0) ?_ dX11_habit_89 rfl
      refine s_getf (pc := 90) (ci := 10) (f := 37) (T := TX11) ?_ ginX11 rfl (by decide) wt_1430 dX11_habit_90
      refine s_aload_n (pc := 93) (i := 0) ?_ dX11_habit_93 rfl
      refine s_getf (pc := 94) (ci := 10) (f := 33) (T := TX11) ?_ ginX11 rfl (by decide) wt_1426 dX11_habit_94
      refine s_aaload (pc := 97) (t := 4) ?_ (by decide) rfl dX11_habit_97
      refine s_iconst (pc := 98) (v := 1) ?_ dX11_habit_98 (by decide)
      refine s_iload_n (pc := 99) (i := 2) ?_ dX11_habit_99 rfl
      refine s_iastore (pc := 100) ?_ dX11_habit_100
      refine s_aload_n (pc := 101) (i := 0) ?_ dX11_habit_101 rfl
      refine s_getf (pc := 102) (ci := 10) (f := 37) (T := TX11) ?_ ginX11 rfl (by decide) wt_1430 dX11_habit_102
      refine s_aload_n (pc := 105) (i := 0) ?_ dX11_habit_105 rfl
      refine s_getf (pc := 106) (ci := 10) (f := 33) (T := TX11) ?_ ginX11 rfl (by decide) wt_1426 dX11_habit_106
      refine s_aaload (pc := 109) (t := 4) ?_ (by decide) rfl dX11_habit_109
      refine s_iconst (pc := 110) (v := 2) ?_ dX11_habit_110 (by decide)
      refine s_iload_n (pc := 111) (i := 3) ?_ dX11_habit_111 rfl
      refine s_iastore (pc := 112) ?_ dX11_habit_112
      refine s_aload_n (pc := 113) (i := 0) ?_ dX11_habit_113 rfl
      refine s_getf (pc := 114) (ci := 10) (f := 37) (T := TX11) ?_ ginX11 rfl (by decide) wt_1430 dX11_habit_114
      refine s_aload_n (pc := 117) (i := 0) ?_ dX11_habit_117 rfl
      refine s_getf (pc := 118) (ci := 10) (f := 33) (T := TX11) ?_ ginX11 rfl (by decide) wt_1426 dX11_habit_118
      refine s_aaload (pc := 121) (t := 4) ?_ (by decide) rfl dX11_habit_121
      refine s_iconst (pc := 122) (v := 3) ?_ dX11_habit_122 (by decide)
      refine s_iload (pc := 123) (i := 4) ?_ dX11_habit_123
      refine s_iastore (pc := 125) ?_ dX11_habit_125
      refine s_aload_n (pc := 126) (i := 0) ?_ dX11_habit_126 rfl
      refine s_dup (pc := 127) ?_ dX11_habit_127
      refine s_getf (pc := 128) (ci := 10) (f := 33) (T := TX11) ?_ ginX11 rfl (by decide) wt_1426 dX11_habit_128
      refine s_iconst (pc := 131) (v := 1) ?_ dX11_habit_131 (by decide)
      refine s_iadd (pc := 132) ?_ dX11_habit_132
      refine s_putf (pc := 133) (ci := 10) (f := 33) (T := TX11) (ty0 := tyX11) ?_ ginX11 tyX11_ok nmX11 rfl (by decide) rfl rfl wt_1426 dX11_habit_133
      refine s_aload_n (pc := 136) (i := 0) ?_ dX11_habit_136 rfl
      refine s_getf (pc := 137) (ci := 10) (f := 33) (T := TX11) ?_ ginX11 rfl (by decide) wt_1426 dX11_habit_137
      exact s_ireturn (pc := 140) rfl dX11_habit_140
    · skip
      refine s_iconst (pc := 75) (v := (-1)) ?_ dX11_habit_75 (by decide)
      exact s_ireturn (pc := 76) rfl dX11_habit_76
  · skip
    refine s_iconst (pc := 64) (v := 0) ?_ dX11_habit_64 (by decide)
    exact s_ireturn (pc := 65) rfl dX11_habit_65
def jX11_habit (g : GE) : Nat → Nat → KT
  | 0, _ => fun _ _ _ => none
  | n + 1, 0 => bX11_habit_0 g (jX11_habit g n)
  | n + 1, 1 => bX11_habit_1 g (jX11_habit g n)
  | n + 1, 2 => bX11_habit_2 g (jX11_habit g n)
  | _ + 1, _ + 3 => fun _ _ _ => none
theorem sjX11_habit (g : GE) : ∀ n, Snd mX11_habit g 0 (jX11_habit g n 0) ∧ Snd mX11_habit g 51 (jX11_habit g n 1) ∧ Snd mX11_habit g 56 (jX11_habit g n 2)
  | 0 => ⟨s_none, s_none, s_none⟩
  | n + 1 => by
    obtain ⟨-, h1, h2⟩ := sjX11_habit g n
    exact ⟨sbX11_habit_0 g _ h1 h2, sbX11_habit_1 g _ h1 h2, sbX11_habit_2 g _ h1 h2⟩
def kX11_habit (g : GE) : KT := jX11_habit g g.1 0
theorem sX11_habit (g : GE) : Snd mX11_habit g 0 (kX11_habit g) := (sjX11_habit g g.1).1
def fX11_habit : FT := fun g av w => if (ent av).length ≤ 5 then kX11_habit g [] (entp 5 av) w else none
theorem tX11_habit : Mt yX11_habit cX11_habit 5 (some .int) 2 53 fX11_habit := Mt.of (K := kX11_habit) (by decide +kernel) (fun _ _ _ => rfl) sX11_habit
theorem crX11_habit : yX11_habit.cls ≠ "java/lang/invoke/MethodHandle" ∧ yX11_habit.cls ≠ "java/lang/invoke/VarHandle" ∧ (parseMethodDescriptor yX11_habit.desc).map (fun d => d.parameters.length) = some 4 := by decide +kernel
theorem dX11_holding_0 : decode cX11_holding 0 = .ok (.aload_n 0, 1) := by decide +kernel
theorem dX11_holding_1 : decode cX11_holding 1 = .ok (.iconst 0, 1) := by decide +kernel
theorem dX11_holding_2 : decode cX11_holding 2 = .ok (.putfield 120, 3) := by decide +kernel
theorem dX11_holding_5 : decode cX11_holding 5 = .ok (.aload_n 0, 1) := by decide +kernel
theorem dX11_holding_6 : decode cX11_holding 6 = .ok (.aload_n 0, 1) := by decide +kernel
theorem dX11_holding_7 : decode cX11_holding 7 = .ok (.iload_n 1, 1) := by decide +kernel
theorem dX11_holding_8 : decode cX11_holding 8 = .ok (.invokevirtual 234, 3) := by decide +kernel
theorem dX11_holding_11 : decode cX11_holding 11 = .ok (.ifCond .ne 7, 3) := by decide +kernel
theorem dX11_holding_14 : decode cX11_holding 14 = .ok (.iconst 1, 1) := by decide +kernel
theorem dX11_holding_15 : decode cX11_holding 15 = .ok (.goto 4, 3) := by decide +kernel
theorem dX11_holding_18 : decode cX11_holding 18 = .ok (.iconst 0, 1) := by decide +kernel
theorem dX11_holding_19 : decode cX11_holding 19 = .ok (.iconst 1, 1) := by decide +kernel
theorem dX11_holding_20 : decode cX11_holding 20 = .ok (.iconst 1, 1) := by decide +kernel
theorem dX11_holding_21 : decode cX11_holding 21 = .ok (.invokevirtual 215, 3) := by decide +kernel
theorem dX11_holding_24 : decode cX11_holding 24 = .ok (.ifCond .eq 5, 3) := by decide +kernel
theorem dX11_holding_27 : decode cX11_holding 27 = .ok (.iconst 0, 1) := by decide +kernel
theorem dX11_holding_28 : decode cX11_holding 28 = .ok (.ireturn, 1) := by decide +kernel
theorem dX11_holding_29 : decode cX11_holding 29 = .ok (.aload_n 0, 1) := by decide +kernel
theorem dX11_holding_30 : decode cX11_holding 30 = .ok (.iload_n 1, 1) := by decide +kernel
theorem dX11_holding_31 : decode cX11_holding 31 = .ok (.invokevirtual 273, 3) := by decide +kernel
theorem dX11_holding_34 : decode cX11_holding 34 = .ok (.iconst 0, 1) := by decide +kernel
theorem dX11_holding_35 : decode cX11_holding 35 = .ok (.istore_n 3, 1) := by decide +kernel
theorem dX11_holding_36 : decode cX11_holding 36 = .ok (.iload_n 3, 1) := by decide +kernel
theorem dX11_holding_37 : decode cX11_holding 37 = .ok (.aload_n 0, 1) := by decide +kernel
theorem dX11_holding_38 : decode cX11_holding 38 = .ok (.getfield 65, 3) := by decide +kernel
theorem dX11_holding_41 : decode cX11_holding 41 = .ok (.iload_n 1, 1) := by decide +kernel
theorem dX11_holding_42 : decode cX11_holding 42 = .ok (.aaload, 1) := by decide +kernel
theorem dX11_holding_43 : decode cX11_holding 43 = .ok (.iconst 2, 1) := by decide +kernel
theorem dX11_holding_44 : decode cX11_holding 44 = .ok (.iaload, 1) := by decide +kernel
theorem dX11_holding_45 : decode cX11_holding 45 = .ok (.if_icmp .ge 28, 3) := by decide +kernel
theorem dX11_holding_48 : decode cX11_holding 48 = .ok (.aload_n 0, 1) := by decide +kernel
theorem dX11_holding_49 : decode cX11_holding 49 = .ok (.getfield 71, 3) := by decide +kernel
theorem dX11_holding_52 : decode cX11_holding 52 = .ok (.iload_n 1, 1) := by decide +kernel
theorem dX11_holding_53 : decode cX11_holding 53 = .ok (.aaload, 1) := by decide +kernel
theorem dX11_holding_54 : decode cX11_holding 54 = .ok (.iload_n 3, 1) := by decide +kernel
theorem dX11_holding_55 : decode cX11_holding 55 = .ok (.iaload, 1) := by decide +kernel
theorem dX11_holding_56 : decode cX11_holding 56 = .ok (.iload_n 2, 1) := by decide +kernel
theorem dX11_holding_57 : decode cX11_holding 57 = .ok (.if_icmp .ne 10, 3) := by decide +kernel
theorem dX11_holding_60 : decode cX11_holding 60 = .ok (.aload_n 0, 1) := by decide +kernel
theorem dX11_holding_61 : decode cX11_holding 61 = .ok (.getfield 104, 3) := by decide +kernel
theorem dX11_holding_64 : decode cX11_holding 64 = .ok (.iload_n 3, 1) := by decide +kernel
theorem dX11_holding_65 : decode cX11_holding 65 = .ok (.iaload, 1) := by decide +kernel
theorem dX11_holding_66 : decode cX11_holding 66 = .ok (.ireturn, 1) := by decide +kernel
theorem dX11_holding_67 : decode cX11_holding 67 = .ok (.iinc 3 1, 3) := by decide +kernel
theorem dX11_holding_70 : decode cX11_holding 70 = .ok (.goto (-34), 3) := by decide +kernel
theorem dX11_holding_73 : decode cX11_holding 73 = .ok (.iconst (-1), 1) := by decide +kernel
theorem dX11_holding_74 : decode cX11_holding 74 = .ok (.ireturn, 1) := by decide +kernel
abbrev mX11_holding : MD := (cX11_holding, "BlottedDeedModel", 4, 3, 76, (some .int), "holding", [])
def bX11_holding_0 (g : GE) (J : Nat → KT) : KT := i_aload 0 (i_push (.int 0) (i_putf 10 0 .int (i_aload 0 (i_aload 0 (i_iload 1 (i_cv fX11_isBlot g 1 10 (i_ifne (i_push (.int 0) (i_jmp [true, true, true, false] (J 1))) (i_push (.int 1) (i_jmp [true, true, true, false] (J 1))))))))))
def bX11_holding_1 (g : GE) (J : Nat → KT) : KT := i_push (.int 1) (i_push (.int 1) (i_cv fX11_bad g 3 10 (i_ifeq (i_aload 0 (i_iload 1 (i_cv fX11_laysHeld g 1 10 (i_push (.int 0) (i_istore 3 (i_jmp [true, true, true, true] (J 2))))))) (i_push (.int 0) (i_ireturn)))))
def bX11_holding_2 (g : GE) (J : Nat → KT) : KT := i_iload 3 (i_aload 0 (i_getf 10 24 (i_iload 1 (i_aaload 4 (i_push (.int 2) (i_iaload (i_icge (i_push (.int (-1)) (i_ireturn)) (i_aload 0 (i_getf 10 26 (i_iload 1 (i_aaload 4 (i_iload 3 (i_iaload (i_iload 2 (i_icne (i_iinc 3 1 (i_jmp [true, true, true, true] (J 2))) (i_aload 0 (i_getf 10 43 (i_iload 3 (i_iaload (i_ireturn))))))))))))))))))))
theorem sbX11_holding_0 (g : GE) (J : Nat → KT) (h1 : Snd mX11_holding g 19 (J 1)) (h2 : Snd mX11_holding g 36 (J 2)) : Snd mX11_holding g 0 (bX11_holding_0 g J) := by
  unfold bX11_holding_0
  refine s_aload_n (pc := 0) (i := 0) ?_ dX11_holding_0 rfl
  refine s_iconst (pc := 1) (v := 0) ?_ dX11_holding_1 (by decide)
  refine s_putf (pc := 2) (ci := 10) (f := 0) (T := TX11) (ty0 := tyX11) ?_ ginX11 tyX11_ok nmX11 rfl (by decide) rfl rfl wt_1393 dX11_holding_2
  refine s_aload_n (pc := 5) (i := 0) ?_ dX11_holding_5 rfl
  refine s_aload_n (pc := 6) (i := 0) ?_ dX11_holding_6 rfl
  refine s_iload_n (pc := 7) (i := 1) ?_ dX11_holding_7 rfl
  refine s_cv (pc := 8) (n := 1) (ci := 10) ?_ tX11_isBlot rfl rfl wt_1655 wt_1657 wp_67 wt_17 wt_1658 ⟨crX11_isBlot, by decide, by decide⟩ dX11_holding_8
  refine s_ifne (pc := 11) (tgt := 18) ?_ ?_ dX11_holding_11 (by decide)
  · skip
    refine s_iconst (pc := 18) (v := 0) ?_ dX11_holding_18 (by decide)
    exact s_fall (pc := 19) h1
  · skip
    refine s_iconst (pc := 14) (v := 1) ?_ dX11_holding_14 (by decide)
    exact s_goto (pc := 15) (tgt := 19) h1 dX11_holding_15 (by decide)
theorem sbX11_holding_1 (g : GE) (J : Nat → KT) (h1 : Snd mX11_holding g 19 (J 1)) (h2 : Snd mX11_holding g 36 (J 2)) : Snd mX11_holding g 19 (bX11_holding_1 g J) := by
  unfold bX11_holding_1
  refine s_iconst (pc := 19) (v := 1) ?_ dX11_holding_19 (by decide)
  refine s_iconst (pc := 20) (v := 1) ?_ dX11_holding_20 (by decide)
  refine s_cv (pc := 21) (n := 3) (ci := 10) ?_ tX11_bad rfl rfl wt_1560 wt_1562 wp_49 wt_17 wt_1563 ⟨crX11_bad, by decide, by decide⟩ dX11_holding_21
  refine s_ifeq (pc := 24) (tgt := 29) ?_ ?_ dX11_holding_24 (by decide)
  · skip
    refine s_aload_n (pc := 29) (i := 0) ?_ dX11_holding_29 rfl
    refine s_iload_n (pc := 30) (i := 1) ?_ dX11_holding_30 rfl
    refine s_cv (pc := 31) (n := 1) (ci := 10) ?_ tX11_laysHeld rfl rfl wt_1687 wt_1689 wp_71 wt_17 wt_1690 ⟨crX11_laysHeld, by decide, by decide⟩ dX11_holding_31
    refine s_iconst (pc := 34) (v := 0) ?_ dX11_holding_34 (by decide)
    refine s_istore_n (pc := 35) (i := 3) ?_ dX11_holding_35 rfl (by decide)
    exact s_fall (pc := 36) h2
  · skip
    refine s_iconst (pc := 27) (v := 0) ?_ dX11_holding_27 (by decide)
    exact s_ireturn (pc := 28) rfl dX11_holding_28
theorem sbX11_holding_2 (g : GE) (J : Nat → KT) (h1 : Snd mX11_holding g 19 (J 1)) (h2 : Snd mX11_holding g 36 (J 2)) : Snd mX11_holding g 36 (bX11_holding_2 g J) := by
  unfold bX11_holding_2
  refine s_iload_n (pc := 36) (i := 3) ?_ dX11_holding_36 rfl
  refine s_aload_n (pc := 37) (i := 0) ?_ dX11_holding_37 rfl
  refine s_getf (pc := 38) (ci := 10) (f := 24) (T := TX11) ?_ ginX11 rfl (by decide) wt_1417 dX11_holding_38
  refine s_iload_n (pc := 41) (i := 1) ?_ dX11_holding_41 rfl
  refine s_aaload (pc := 42) (t := 4) ?_ (by decide) rfl dX11_holding_42
  refine s_iconst (pc := 43) (v := 2) ?_ dX11_holding_43 (by decide)
  refine s_iaload (pc := 44) ?_ dX11_holding_44
  refine s_icge (pc := 45) (tgt := 73) ?_ ?_ dX11_holding_45 (by decide)
  · skip
    refine s_iconst (pc := 73) (v := (-1)) ?_ dX11_holding_73 (by decide)
    exact s_ireturn (pc := 74) rfl dX11_holding_74
  · skip
    refine s_aload_n (pc := 48) (i := 0) ?_ dX11_holding_48 rfl
    refine s_getf (pc := 49) (ci := 10) (f := 26) (T := TX11) ?_ ginX11 rfl (by decide) wt_1419 dX11_holding_49
    refine s_iload_n (pc := 52) (i := 1) ?_ dX11_holding_52 rfl
    refine s_aaload (pc := 53) (t := 4) ?_ (by decide) rfl dX11_holding_53
    refine s_iload_n (pc := 54) (i := 3) ?_ dX11_holding_54 rfl
    refine s_iaload (pc := 55) ?_ dX11_holding_55
    refine s_iload_n (pc := 56) (i := 2) ?_ dX11_holding_56 rfl
    refine s_icne (pc := 57) (tgt := 67) ?_ ?_ dX11_holding_57 (by decide)
    · skip
      refine s_iinc (pc := 67) (i := 3) (v := 1) ?_ dX11_holding_67 (by decide) (by decide)
      exact s_goto (pc := 70) (tgt := 36) h2 dX11_holding_70 (by decide)
    · skip
      refine s_aload_n (pc := 60) (i := 0) ?_ dX11_holding_60 rfl
      refine s_getf (pc := 61) (ci := 10) (f := 43) (T := TX11) ?_ ginX11 rfl (by decide) wt_1436 dX11_holding_61
      refine s_iload_n (pc := 64) (i := 3) ?_ dX11_holding_64 rfl
      refine s_iaload (pc := 65) ?_ dX11_holding_65
      exact s_ireturn (pc := 66) rfl dX11_holding_66
def jX11_holding (g : GE) : Nat → Nat → KT
  | 0, _ => fun _ _ _ => none
  | n + 1, 0 => bX11_holding_0 g (jX11_holding g n)
  | n + 1, 1 => bX11_holding_1 g (jX11_holding g n)
  | n + 1, 2 => bX11_holding_2 g (jX11_holding g n)
  | _ + 1, _ + 3 => fun _ _ _ => none
theorem sjX11_holding (g : GE) : ∀ n, Snd mX11_holding g 0 (jX11_holding g n 0) ∧ Snd mX11_holding g 19 (jX11_holding g n 1) ∧ Snd mX11_holding g 36 (jX11_holding g n 2)
  | 0 => ⟨s_none, s_none, s_none⟩
  | n + 1 => by
    obtain ⟨-, h1, h2⟩ := sjX11_holding g n
    exact ⟨sbX11_holding_0 g _ h1 h2, sbX11_holding_1 g _ h1 h2, sbX11_holding_2 g _ h1 h2⟩
def kX11_holding (g : GE) : KT := jX11_holding g g.1 0
theorem sX11_holding (g : GE) : Snd mX11_holding g 0 (kX11_holding g) := (sjX11_holding g g.1).1
def fX11_holding : FT := fun g av w => if (ent av).length ≤ 4 then kX11_holding g [] (entp 4 av) w else none
theorem tX11_holding : Mt yX11_holding cX11_holding 4 (some .int) 3 76 fX11_holding := Mt.of (K := kX11_holding) (by decide +kernel) (fun _ _ _ => rfl) sX11_holding
theorem crX11_holding : yX11_holding.cls ≠ "java/lang/invoke/MethodHandle" ∧ yX11_holding.cls ≠ "java/lang/invoke/VarHandle" ∧ (parseMethodDescriptor yX11_holding.desc).map (fun d => d.parameters.length) = some 2 := by decide +kernel
theorem dX11_moves_0 : decode cX11_moves 0 = .ok (.iload_n 3, 1) := by decide +kernel
theorem dX11_moves_1 : decode cX11_moves 1 = .ok (.ifCond .ne 10, 3) := by decide +kernel
theorem dX11_moves_4 : decode cX11_moves 4 = .ok (.aload_n 1, 1) := by decide +kernel
theorem dX11_moves_5 : decode cX11_moves 5 = .ok (.aload_n 0, 1) := by decide +kernel
theorem dX11_moves_6 : decode cX11_moves 6 = .ok (.getfield 339, 3) := by decide +kernel
theorem dX11_moves_9 : decode cX11_moves 9 = .ok (.iload_n 2, 1) := by decide +kernel
theorem dX11_moves_10 : decode cX11_moves 10 = .ok (.iastore, 1) := by decide +kernel
theorem dX11_moves_11 : decode cX11_moves 11 = .ok (.aload_n 0, 1) := by decide +kernel
theorem dX11_moves_12 : decode cX11_moves 12 = .ok (.dup, 1) := by decide +kernel
theorem dX11_moves_13 : decode cX11_moves 13 = .ok (.getfield 339, 3) := by decide +kernel
theorem dX11_moves_16 : decode cX11_moves 16 = .ok (.iconst 1, 1) := by decide +kernel
theorem dX11_moves_17 : decode cX11_moves 17 = .ok (.iadd, 1) := by decide +kernel
theorem dX11_moves_18 : decode cX11_moves 18 = .ok (.putfield 339, 3) := by decide +kernel
theorem dX11_moves_21 : decode cX11_moves 21 = .ok (.aload_n 1, 1) := by decide +kernel
theorem dX11_moves_22 : decode cX11_moves 22 = .ok (.aload_n 0, 1) := by decide +kernel
theorem dX11_moves_23 : decode cX11_moves 23 = .ok (.getfield 339, 3) := by decide +kernel
theorem dX11_moves_26 : decode cX11_moves 26 = .ok (.iconst 1, 1) := by decide +kernel
theorem dX11_moves_27 : decode cX11_moves 27 = .ok (.isub, 1) := by decide +kernel
theorem dX11_moves_28 : decode cX11_moves 28 = .ok (.iaload, 1) := by decide +kernel
theorem dX11_moves_29 : decode cX11_moves 29 = .ok (.ireturn, 1) := by decide +kernel
abbrev mX11_moves : MD := (cX11_moves, "BlottedDeedModel", 4, 1, 30, (some .int), "moves", [])
def bX11_moves_0 (g : GE) (J : Nat → KT) : KT := i_iload 3 (i_ifne (i_jmp [true, true, false, false] (J 1)) (i_aload 1 (i_aload 0 (i_getf 10 35 (i_iload 2 (i_iastore (i_jmp [true, true, false, false] (J 1))))))))
def bX11_moves_1 (g : GE) (J : Nat → KT) : KT := i_aload 0 (i_dup (i_getf 10 35 (i_push (.int 1) (i_iadd (i_putf 10 35 .int (i_aload 1 (i_aload 0 (i_getf 10 35 (i_push (.int 1) (i_isub (i_iaload (i_ireturn))))))))))))
theorem sbX11_moves_0 (g : GE) (J : Nat → KT) (h1 : Snd mX11_moves g 11 (J 1)) : Snd mX11_moves g 0 (bX11_moves_0 g J) := by
  unfold bX11_moves_0
  refine s_iload_n (pc := 0) (i := 3) ?_ dX11_moves_0 rfl
  refine s_ifne (pc := 1) (tgt := 11) ?_ ?_ dX11_moves_1 (by decide)
  · skip
    exact s_fall (pc := 11) h1
  · skip
    refine s_aload_n (pc := 4) (i := 1) ?_ dX11_moves_4 rfl
    refine s_aload_n (pc := 5) (i := 0) ?_ dX11_moves_5 rfl
    refine s_getf (pc := 6) (ci := 10) (f := 35) (T := TX11) ?_ ginX11 rfl (by decide) wt_1428 dX11_moves_6
    refine s_iload_n (pc := 9) (i := 2) ?_ dX11_moves_9 rfl
    refine s_iastore (pc := 10) ?_ dX11_moves_10
    exact s_fall (pc := 11) h1
theorem sbX11_moves_1 (g : GE) (J : Nat → KT) (h1 : Snd mX11_moves g 11 (J 1)) : Snd mX11_moves g 11 (bX11_moves_1 g J) := by
  unfold bX11_moves_1
  refine s_aload_n (pc := 11) (i := 0) ?_ dX11_moves_11 rfl
  refine s_dup (pc := 12) ?_ dX11_moves_12
  refine s_getf (pc := 13) (ci := 10) (f := 35) (T := TX11) ?_ ginX11 rfl (by decide) wt_1428 dX11_moves_13
  refine s_iconst (pc := 16) (v := 1) ?_ dX11_moves_16 (by decide)
  refine s_iadd (pc := 17) ?_ dX11_moves_17
  refine s_putf (pc := 18) (ci := 10) (f := 35) (T := TX11) (ty0 := tyX11) ?_ ginX11 tyX11_ok nmX11 rfl (by decide) rfl rfl wt_1428 dX11_moves_18
  refine s_aload_n (pc := 21) (i := 1) ?_ dX11_moves_21 rfl
  refine s_aload_n (pc := 22) (i := 0) ?_ dX11_moves_22 rfl
  refine s_getf (pc := 23) (ci := 10) (f := 35) (T := TX11) ?_ ginX11 rfl (by decide) wt_1428 dX11_moves_23
  refine s_iconst (pc := 26) (v := 1) ?_ dX11_moves_26 (by decide)
  refine s_isub (pc := 27) ?_ dX11_moves_27
  refine s_iaload (pc := 28) ?_ dX11_moves_28
  exact s_ireturn (pc := 29) rfl dX11_moves_29
def jX11_moves (g : GE) : Nat → Nat → KT
  | 0, _ => fun _ _ _ => none
  | n + 1, 0 => bX11_moves_0 g (jX11_moves g n)
  | n + 1, 1 => bX11_moves_1 g (jX11_moves g n)
  | _ + 1, _ + 2 => fun _ _ _ => none
theorem sjX11_moves (g : GE) : ∀ n, Snd mX11_moves g 0 (jX11_moves g n 0) ∧ Snd mX11_moves g 11 (jX11_moves g n 1)
  | 0 => ⟨s_none, s_none⟩
  | n + 1 => by
    obtain ⟨-, h1⟩ := sjX11_moves g n
    exact ⟨sbX11_moves_0 g _ h1, sbX11_moves_1 g _ h1⟩
def kX11_moves (g : GE) : KT := jX11_moves g g.1 0
theorem sX11_moves (g : GE) : Snd mX11_moves g 0 (kX11_moves g) := (sjX11_moves g g.1).1
def fX11_moves : FT := fun g av w => if (ent av).length ≤ 4 then kX11_moves g [] (entp 4 av) w else none
theorem tX11_moves : Mt yX11_moves cX11_moves 4 (some .int) 1 30 fX11_moves := Mt.of (K := kX11_moves) (by decide +kernel) (fun _ _ _ => rfl) sX11_moves
theorem crX11_moves : yX11_moves.cls ≠ "java/lang/invoke/MethodHandle" ∧ yX11_moves.cls ≠ "java/lang/invoke/VarHandle" ∧ (parseMethodDescriptor yX11_moves.desc).map (fun d => d.parameters.length) = some 3 := by decide +kernel
theorem dX11_movesAll_0 : decode cX11_movesAll 0 = .ok (.aload_n 0, 1) := by decide +kernel
theorem dX11_movesAll_1 : decode cX11_movesAll 1 = .ok (.iconst 0, 1) := by decide +kernel
theorem dX11_movesAll_2 : decode cX11_movesAll 2 = .ok (.putfield 339, 3) := by decide +kernel
theorem dX11_movesAll_5 : decode cX11_movesAll 5 = .ok (.aload_n 0, 1) := by decide +kernel
theorem dX11_movesAll_6 : decode cX11_movesAll 6 = .ok (.aload_n 0, 1) := by decide +kernel
theorem dX11_movesAll_7 : decode cX11_movesAll 7 = .ok (.aload_n 1, 1) := by decide +kernel
theorem dX11_movesAll_8 : decode cX11_movesAll 8 = .ok (.aload_n 0, 1) := by decide +kernel
theorem dX11_movesAll_9 : decode cX11_movesAll 9 = .ok (.getfield 225, 3) := by decide +kernel
theorem dX11_movesAll_12 : decode cX11_movesAll 12 = .ok (.iload_n 2, 1) := by decide +kernel
theorem dX11_movesAll_13 : decode cX11_movesAll 13 = .ok (.invokevirtual 342, 3) := by decide +kernel
theorem dX11_movesAll_16 : decode cX11_movesAll 16 = .ok (.putfield 225, 3) := by decide +kernel
theorem dX11_movesAll_19 : decode cX11_movesAll 19 = .ok (.aload_n 0, 1) := by decide +kernel
theorem dX11_movesAll_20 : decode cX11_movesAll 20 = .ok (.aload_n 0, 1) := by decide +kernel
theorem dX11_movesAll_21 : decode cX11_movesAll 21 = .ok (.aload_n 1, 1) := by decide +kernel
theorem dX11_movesAll_22 : decode cX11_movesAll 22 = .ok (.aload_n 0, 1) := by decide +kernel
theorem dX11_movesAll_23 : decode cX11_movesAll 23 = .ok (.getfield 228, 3) := by decide +kernel
theorem dX11_movesAll_26 : decode cX11_movesAll 26 = .ok (.iload_n 2, 1) := by decide +kernel
theorem dX11_movesAll_27 : decode cX11_movesAll 27 = .ok (.invokevirtual 342, 3) := by decide +kernel
theorem dX11_movesAll_30 : decode cX11_movesAll 30 = .ok (.putfield 228, 3) := by decide +kernel
theorem dX11_movesAll_33 : decode cX11_movesAll 33 = .ok (.iconst 0, 1) := by decide +kernel
theorem dX11_movesAll_34 : decode cX11_movesAll 34 = .ok (.istore_n 3, 1) := by decide +kernel
theorem dX11_movesAll_35 : decode cX11_movesAll 35 = .ok (.iload_n 3, 1) := by decide +kernel
theorem dX11_movesAll_36 : decode cX11_movesAll 36 = .ok (.bipush 12, 2) := by decide +kernel
theorem dX11_movesAll_38 : decode cX11_movesAll 38 = .ok (.if_icmp .ge 48, 3) := by decide +kernel
theorem dX11_movesAll_41 : decode cX11_movesAll 41 = .ok (.iconst 0, 1) := by decide +kernel
theorem dX11_movesAll_42 : decode cX11_movesAll 42 = .ok (.istore 4, 2) := by decide +kernel
theorem dX11_movesAll_44 : decode cX11_movesAll 44 = .ok (.iload 4, 2) := by decide +kernel
theorem dX11_movesAll_46 : decode cX11_movesAll 46 = .ok (.iconst 3, 1) := by decide +kernel
theorem dX11_movesAll_47 : decode cX11_movesAll 47 = .ok (.if_icmp .ge 33, 3) := by decide +kernel
theorem dX11_movesAll_50 : decode cX11_movesAll 50 = .ok (.aload_n 0, 1) := by decide +kernel
theorem dX11_movesAll_51 : decode cX11_movesAll 51 = .ok (.getfield 86, 3) := by decide +kernel
theorem dX11_movesAll_54 : decode cX11_movesAll 54 = .ok (.iload_n 3, 1) := by decide +kernel
theorem dX11_movesAll_55 : decode cX11_movesAll 55 = .ok (.aaload, 1) := by decide +kernel
theorem dX11_movesAll_56 : decode cX11_movesAll 56 = .ok (.iload 4, 2) := by decide +kernel
theorem dX11_movesAll_58 : decode cX11_movesAll 58 = .ok (.aload_n 0, 1) := by decide +kernel
theorem dX11_movesAll_59 : decode cX11_movesAll 59 = .ok (.aload_n 1, 1) := by decide +kernel
theorem dX11_movesAll_60 : decode cX11_movesAll 60 = .ok (.aload_n 0, 1) := by decide +kernel
theorem dX11_movesAll_61 : decode cX11_movesAll 61 = .ok (.getfield 86, 3) := by decide +kernel
theorem dX11_movesAll_64 : decode cX11_movesAll 64 = .ok (.iload_n 3, 1) := by decide +kernel
theorem dX11_movesAll_65 : decode cX11_movesAll 65 = .ok (.aaload, 1) := by decide +kernel
theorem dX11_movesAll_66 : decode cX11_movesAll 66 = .ok (.iload 4, 2) := by decide +kernel
theorem dX11_movesAll_68 : decode cX11_movesAll 68 = .ok (.iaload, 1) := by decide +kernel
theorem dX11_movesAll_69 : decode cX11_movesAll 69 = .ok (.iload_n 2, 1) := by decide +kernel
theorem dX11_movesAll_70 : decode cX11_movesAll 70 = .ok (.invokevirtual 342, 3) := by decide +kernel
theorem dX11_movesAll_73 : decode cX11_movesAll 73 = .ok (.iastore, 1) := by decide +kernel
theorem dX11_movesAll_74 : decode cX11_movesAll 74 = .ok (.iinc 4 1, 3) := by decide +kernel
theorem dX11_movesAll_77 : decode cX11_movesAll 77 = .ok (.goto (-33), 3) := by decide +kernel
theorem dX11_movesAll_80 : decode cX11_movesAll 80 = .ok (.iinc 3 1, 3) := by decide +kernel
theorem dX11_movesAll_83 : decode cX11_movesAll 83 = .ok (.goto (-48), 3) := by decide +kernel
theorem dX11_movesAll_86 : decode cX11_movesAll 86 = .ok (.iconst 0, 1) := by decide +kernel
theorem dX11_movesAll_87 : decode cX11_movesAll 87 = .ok (.istore_n 3, 1) := by decide +kernel
theorem dX11_movesAll_88 : decode cX11_movesAll 88 = .ok (.iload_n 3, 1) := by decide +kernel
theorem dX11_movesAll_89 : decode cX11_movesAll 89 = .ok (.bipush 8, 2) := by decide +kernel
theorem dX11_movesAll_91 : decode cX11_movesAll 91 = .ok (.if_icmp .ge 48, 3) := by decide +kernel
theorem dX11_movesAll_94 : decode cX11_movesAll 94 = .ok (.iconst 0, 1) := by decide +kernel
theorem dX11_movesAll_95 : decode cX11_movesAll 95 = .ok (.istore 4, 2) := by decide +kernel
theorem dX11_movesAll_97 : decode cX11_movesAll 97 = .ok (.iload 4, 2) := by decide +kernel
theorem dX11_movesAll_99 : decode cX11_movesAll 99 = .ok (.iconst 4, 1) := by decide +kernel
theorem dX11_movesAll_100 : decode cX11_movesAll 100 = .ok (.if_icmp .ge 33, 3) := by decide +kernel
theorem dX11_movesAll_103 : decode cX11_movesAll 103 = .ok (.aload_n 0, 1) := by decide +kernel
theorem dX11_movesAll_104 : decode cX11_movesAll 104 = .ok (.getfield 89, 3) := by decide +kernel
theorem dX11_movesAll_107 : decode cX11_movesAll 107 = .ok (.iload_n 3, 1) := by decide +kernel
theorem dX11_movesAll_108 : decode cX11_movesAll 108 = .ok (.aaload, 1) := by decide +kernel
theorem dX11_movesAll_109 : decode cX11_movesAll 109 = .ok (.iload 4, 2) := by decide +kernel
theorem dX11_movesAll_111 : decode cX11_movesAll 111 = .ok (.aload_n 0, 1) := by decide +kernel
theorem dX11_movesAll_112 : decode cX11_movesAll 112 = .ok (.aload_n 1, 1) := by decide +kernel
theorem dX11_movesAll_113 : decode cX11_movesAll 113 = .ok (.aload_n 0, 1) := by decide +kernel
theorem dX11_movesAll_114 : decode cX11_movesAll 114 = .ok (.getfield 89, 3) := by decide +kernel
theorem dX11_movesAll_117 : decode cX11_movesAll 117 = .ok (.iload_n 3, 1) := by decide +kernel
theorem dX11_movesAll_118 : decode cX11_movesAll 118 = .ok (.aaload, 1) := by decide +kernel
theorem dX11_movesAll_119 : decode cX11_movesAll 119 = .ok (.iload 4, 2) := by decide +kernel
theorem dX11_movesAll_121 : decode cX11_movesAll 121 = .ok (.iaload, 1) := by decide +kernel
theorem dX11_movesAll_122 : decode cX11_movesAll 122 = .ok (.iload_n 2, 1) := by decide +kernel
theorem dX11_movesAll_123 : decode cX11_movesAll 123 = .ok (.invokevirtual 342, 3) := by decide +kernel
theorem dX11_movesAll_126 : decode cX11_movesAll 126 = .ok (.iastore, 1) := by decide +kernel
theorem dX11_movesAll_127 : decode cX11_movesAll 127 = .ok (.iinc 4 1, 3) := by decide +kernel
theorem dX11_movesAll_130 : decode cX11_movesAll 130 = .ok (.goto (-33), 3) := by decide +kernel
theorem dX11_movesAll_133 : decode cX11_movesAll 133 = .ok (.iinc 3 1, 3) := by decide +kernel
theorem dX11_movesAll_136 : decode cX11_movesAll 136 = .ok (.goto (-48), 3) := by decide +kernel
theorem dX11_movesAll_139 : decode cX11_movesAll 139 = .ok (.return_, 1) := by decide +kernel
abbrev mX11_movesAll : MD := (cX11_movesAll, "BlottedDeedModel", 5, 2, 53, none, "movesAll", [])
def bX11_movesAll_0 (g : GE) (J : Nat → KT) : KT := i_aload 0 (i_push (.int 0) (i_putf 10 35 .int (i_aload 0 (i_aload 0 (i_aload 1 (i_aload 0 (i_getf 10 32 (i_iload 2 (i_cv fX11_moves g 3 10 (i_putf 10 32 .int (i_aload 0 (i_aload 0 (i_aload 1 (i_aload 0 (i_getf 10 33 (i_iload 2 (i_cv fX11_moves g 3 10 (i_putf 10 33 .int (i_push (.int 0) (i_istore 3 (i_jmp [true, true, true, true, false] (J 1))))))))))))))))))))))
def bX11_movesAll_1 (g : GE) (J : Nat → KT) : KT := i_iload 3 (i_push (.int 12) (i_icge (i_push (.int 0) (i_istore 3 (i_jmp [true, true, true, true, false] (J 3)))) (i_push (.int 0) (i_istore 4 (i_jmp [true, true, true, true, true] (J 2))))))
def bX11_movesAll_2 (g : GE) (J : Nat → KT) : KT := i_iload 4 (i_push (.int 3) (i_icge (i_iinc 3 1 (i_jmp [true, true, true, true, false] (J 1))) (i_aload 0 (i_getf 10 36 (i_iload 3 (i_aaload 4 (i_iload 4 (i_aload 0 (i_aload 1 (i_aload 0 (i_getf 10 36 (i_iload 3 (i_aaload 4 (i_iload 4 (i_iaload (i_iload 2 (i_cv fX11_moves g 3 10 (i_iastore (i_iinc 4 1 (i_jmp [true, true, true, true, true] (J 2)))))))))))))))))))))
def bX11_movesAll_3 (g : GE) (J : Nat → KT) : KT := i_iload 3 (i_push (.int 8) (i_icge (i_return) (i_push (.int 0) (i_istore 4 (i_jmp [true, true, true, true, true] (J 4))))))
def bX11_movesAll_4 (g : GE) (J : Nat → KT) : KT := i_iload 4 (i_push (.int 4) (i_icge (i_iinc 3 1 (i_jmp [true, true, true, true, false] (J 3))) (i_aload 0 (i_getf 10 37 (i_iload 3 (i_aaload 4 (i_iload 4 (i_aload 0 (i_aload 1 (i_aload 0 (i_getf 10 37 (i_iload 3 (i_aaload 4 (i_iload 4 (i_iaload (i_iload 2 (i_cv fX11_moves g 3 10 (i_iastore (i_iinc 4 1 (i_jmp [true, true, true, true, true] (J 4)))))))))))))))))))))
theorem sbX11_movesAll_0 (g : GE) (J : Nat → KT) (h1 : Snd mX11_movesAll g 35 (J 1)) (h2 : Snd mX11_movesAll g 44 (J 2)) (h3 : Snd mX11_movesAll g 88 (J 3)) (h4 : Snd mX11_movesAll g 97 (J 4)) : Snd mX11_movesAll g 0 (bX11_movesAll_0 g J) := by
  unfold bX11_movesAll_0
  refine s_aload_n (pc := 0) (i := 0) ?_ dX11_movesAll_0 rfl
  refine s_iconst (pc := 1) (v := 0) ?_ dX11_movesAll_1 (by decide)
  refine s_putf (pc := 2) (ci := 10) (f := 35) (T := TX11) (ty0 := tyX11) ?_ ginX11 tyX11_ok nmX11 rfl (by decide) rfl rfl wt_1428 dX11_movesAll_2
  refine s_aload_n (pc := 5) (i := 0) ?_ dX11_movesAll_5 rfl
  refine s_aload_n (pc := 6) (i := 0) ?_ dX11_movesAll_6 rfl
  refine s_aload_n (pc := 7) (i := 1) ?_ dX11_movesAll_7 rfl
  refine s_aload_n (pc := 8) (i := 0) ?_ dX11_movesAll_8 rfl
  refine s_getf (pc := 9) (ci := 10) (f := 32) (T := TX11) ?_ ginX11 rfl (by decide) wt_1425 dX11_movesAll_9
  refine s_iload_n (pc := 12) (i := 2) ?_ dX11_movesAll_12 rfl
  refine s_cv (pc := 13) (n := 3) (ci := 10) ?_ tX11_moves rfl rfl wt_1899 wt_1901 wp_91 wt_17 wt_1902 ⟨crX11_moves, by decide, by decide⟩ dX11_movesAll_13
  refine s_putf (pc := 16) (ci := 10) (f := 32) (T := TX11) (ty0 := tyX11) ?_ ginX11 tyX11_ok nmX11 rfl (by decide) rfl rfl wt_1425 dX11_movesAll_16
  refine s_aload_n (pc := 19) (i := 0) ?_ dX11_movesAll_19 rfl
  refine s_aload_n (pc := 20) (i := 0) ?_ dX11_movesAll_20 rfl
  refine s_aload_n (pc := 21) (i := 1) ?_ dX11_movesAll_21 rfl
  refine s_aload_n (pc := 22) (i := 0) ?_ dX11_movesAll_22 rfl
  refine s_getf (pc := 23) (ci := 10) (f := 33) (T := TX11) ?_ ginX11 rfl (by decide) wt_1426 dX11_movesAll_23
  refine s_iload_n (pc := 26) (i := 2) ?_ dX11_movesAll_26 rfl
  refine s_cv (pc := 27) (n := 3) (ci := 10) ?_ tX11_moves rfl rfl wt_1899 wt_1901 wp_91 wt_17 wt_1902 ⟨crX11_moves, by decide, by decide⟩ dX11_movesAll_27
  refine s_putf (pc := 30) (ci := 10) (f := 33) (T := TX11) (ty0 := tyX11) ?_ ginX11 tyX11_ok nmX11 rfl (by decide) rfl rfl wt_1426 dX11_movesAll_30
  refine s_iconst (pc := 33) (v := 0) ?_ dX11_movesAll_33 (by decide)
  refine s_istore_n (pc := 34) (i := 3) ?_ dX11_movesAll_34 rfl (by decide)
  exact s_fall (pc := 35) h1
theorem sbX11_movesAll_1 (g : GE) (J : Nat → KT) (h1 : Snd mX11_movesAll g 35 (J 1)) (h2 : Snd mX11_movesAll g 44 (J 2)) (h3 : Snd mX11_movesAll g 88 (J 3)) (h4 : Snd mX11_movesAll g 97 (J 4)) : Snd mX11_movesAll g 35 (bX11_movesAll_1 g J) := by
  unfold bX11_movesAll_1
  refine s_iload_n (pc := 35) (i := 3) ?_ dX11_movesAll_35 rfl
  refine s_bipush (pc := 36) (v := 12) ?_ dX11_movesAll_36 (by decide)
  refine s_icge (pc := 38) (tgt := 86) ?_ ?_ dX11_movesAll_38 (by decide)
  · skip
    refine s_iconst (pc := 86) (v := 0) ?_ dX11_movesAll_86 (by decide)
    refine s_istore_n (pc := 87) (i := 3) ?_ dX11_movesAll_87 rfl (by decide)
    exact s_fall (pc := 88) h3
  · skip
    refine s_iconst (pc := 41) (v := 0) ?_ dX11_movesAll_41 (by decide)
    refine s_istore (pc := 42) (i := 4) ?_ dX11_movesAll_42 (by decide)
    exact s_fall (pc := 44) h2
theorem sbX11_movesAll_2 (g : GE) (J : Nat → KT) (h1 : Snd mX11_movesAll g 35 (J 1)) (h2 : Snd mX11_movesAll g 44 (J 2)) (h3 : Snd mX11_movesAll g 88 (J 3)) (h4 : Snd mX11_movesAll g 97 (J 4)) : Snd mX11_movesAll g 44 (bX11_movesAll_2 g J) := by
  unfold bX11_movesAll_2
  refine s_iload (pc := 44) (i := 4) ?_ dX11_movesAll_44
  refine s_iconst (pc := 46) (v := 3) ?_ dX11_movesAll_46 (by decide)
  refine s_icge (pc := 47) (tgt := 80) ?_ ?_ dX11_movesAll_47 (by decide)
  · skip
    refine s_iinc (pc := 80) (i := 3) (v := 1) ?_ dX11_movesAll_80 (by decide) (by decide)
    exact s_goto (pc := 83) (tgt := 35) h1 dX11_movesAll_83 (by decide)
  · skip
    refine s_aload_n (pc := 50) (i := 0) ?_ dX11_movesAll_50 rfl
    refine s_getf (pc := 51) (ci := 10) (f := 36) (T := TX11) ?_ ginX11 rfl (by decide) wt_1429 dX11_movesAll_51
    refine s_iload_n (pc := 54) (i := 3) ?_ dX11_movesAll_54 rfl
    refine s_aaload (pc := 55) (t := 4) ?_ (by decide) rfl dX11_movesAll_55
    refine s_iload (pc := 56) (i := 4) ?_ dX11_movesAll_56
    refine s_aload_n (pc := 58) (i := 0) ?_ dX11_movesAll_58 rfl
    refine s_aload_n (pc := 59) (i := 1) ?_ dX11_movesAll_59 rfl
    refine s_aload_n (pc := 60) (i := 0) ?_ dX11_movesAll_60 rfl
    refine s_getf (pc := 61) (ci := 10) (f := 36) (T := TX11) ?_ ginX11 rfl (by decide) wt_1429 dX11_movesAll_61
    refine s_iload_n (pc := 64) (i := 3) ?_ dX11_movesAll_64 rfl
    refine s_aaload (pc := 65) (t := 4) ?_ (by decide) rfl dX11_movesAll_65
    refine s_iload (pc := 66) (i := 4) ?_ dX11_movesAll_66
    refine s_iaload (pc := 68) ?_ dX11_movesAll_68
    refine s_iload_n (pc := 69) (i := 2) ?_ dX11_movesAll_69 rfl
    refine s_cv (pc := 70) (n := 3) (ci := 10) ?_ tX11_moves rfl rfl wt_1899 wt_1901 wp_91 wt_17 wt_1902 ⟨crX11_moves, by decide, by decide⟩ dX11_movesAll_70
    refine s_iastore (pc := 73) ?_ dX11_movesAll_73
    refine s_iinc (pc := 74) (i := 4) (v := 1) ?_ dX11_movesAll_74 (by decide) (by decide)
    exact s_goto (pc := 77) (tgt := 44) h2 dX11_movesAll_77 (by decide)
theorem sbX11_movesAll_3 (g : GE) (J : Nat → KT) (h1 : Snd mX11_movesAll g 35 (J 1)) (h2 : Snd mX11_movesAll g 44 (J 2)) (h3 : Snd mX11_movesAll g 88 (J 3)) (h4 : Snd mX11_movesAll g 97 (J 4)) : Snd mX11_movesAll g 88 (bX11_movesAll_3 g J) := by
  unfold bX11_movesAll_3
  refine s_iload_n (pc := 88) (i := 3) ?_ dX11_movesAll_88 rfl
  refine s_bipush (pc := 89) (v := 8) ?_ dX11_movesAll_89 (by decide)
  refine s_icge (pc := 91) (tgt := 139) ?_ ?_ dX11_movesAll_91 (by decide)
  · skip
    exact s_return (pc := 139) rfl dX11_movesAll_139
  · skip
    refine s_iconst (pc := 94) (v := 0) ?_ dX11_movesAll_94 (by decide)
    refine s_istore (pc := 95) (i := 4) ?_ dX11_movesAll_95 (by decide)
    exact s_fall (pc := 97) h4
theorem sbX11_movesAll_4 (g : GE) (J : Nat → KT) (h1 : Snd mX11_movesAll g 35 (J 1)) (h2 : Snd mX11_movesAll g 44 (J 2)) (h3 : Snd mX11_movesAll g 88 (J 3)) (h4 : Snd mX11_movesAll g 97 (J 4)) : Snd mX11_movesAll g 97 (bX11_movesAll_4 g J) := by
  unfold bX11_movesAll_4
  refine s_iload (pc := 97) (i := 4) ?_ dX11_movesAll_97
  refine s_iconst (pc := 99) (v := 4) ?_ dX11_movesAll_99 (by decide)
  refine s_icge (pc := 100) (tgt := 133) ?_ ?_ dX11_movesAll_100 (by decide)
  · skip
    refine s_iinc (pc := 133) (i := 3) (v := 1) ?_ dX11_movesAll_133 (by decide) (by decide)
    exact s_goto (pc := 136) (tgt := 88) h3 dX11_movesAll_136 (by decide)
  · skip
    refine s_aload_n (pc := 103) (i := 0) ?_ dX11_movesAll_103 rfl
    refine s_getf (pc := 104) (ci := 10) (f := 37) (T := TX11) ?_ ginX11 rfl (by decide) wt_1430 dX11_movesAll_104
    refine s_iload_n (pc := 107) (i := 3) ?_ dX11_movesAll_107 rfl
    refine s_aaload (pc := 108) (t := 4) ?_ (by decide) rfl dX11_movesAll_108
    refine s_iload (pc := 109) (i := 4) ?_ dX11_movesAll_109
    refine s_aload_n (pc := 111) (i := 0) ?_ dX11_movesAll_111 rfl
    refine s_aload_n (pc := 112) (i := 1) ?_ dX11_movesAll_112 rfl
    refine s_aload_n (pc := 113) (i := 0) ?_ dX11_movesAll_113 rfl
    refine s_getf (pc := 114) (ci := 10) (f := 37) (T := TX11) ?_ ginX11 rfl (by decide) wt_1430 dX11_movesAll_114
    refine s_iload_n (pc := 117) (i := 3) ?_ dX11_movesAll_117 rfl
    refine s_aaload (pc := 118) (t := 4) ?_ (by decide) rfl dX11_movesAll_118
    refine s_iload (pc := 119) (i := 4) ?_ dX11_movesAll_119
    refine s_iaload (pc := 121) ?_ dX11_movesAll_121
    refine s_iload_n (pc := 122) (i := 2) ?_ dX11_movesAll_122 rfl
    refine s_cv (pc := 123) (n := 3) (ci := 10) ?_ tX11_moves rfl rfl wt_1899 wt_1901 wp_91 wt_17 wt_1902 ⟨crX11_moves, by decide, by decide⟩ dX11_movesAll_123
    refine s_iastore (pc := 126) ?_ dX11_movesAll_126
    refine s_iinc (pc := 127) (i := 4) (v := 1) ?_ dX11_movesAll_127 (by decide) (by decide)
    exact s_goto (pc := 130) (tgt := 97) h4 dX11_movesAll_130 (by decide)
def jX11_movesAll (g : GE) : Nat → Nat → KT
  | 0, _ => fun _ _ _ => none
  | n + 1, 0 => bX11_movesAll_0 g (jX11_movesAll g n)
  | n + 1, 1 => bX11_movesAll_1 g (jX11_movesAll g n)
  | n + 1, 2 => bX11_movesAll_2 g (jX11_movesAll g n)
  | n + 1, 3 => bX11_movesAll_3 g (jX11_movesAll g n)
  | n + 1, 4 => bX11_movesAll_4 g (jX11_movesAll g n)
  | _ + 1, _ + 5 => fun _ _ _ => none
theorem sjX11_movesAll (g : GE) : ∀ n, Snd mX11_movesAll g 0 (jX11_movesAll g n 0) ∧ Snd mX11_movesAll g 35 (jX11_movesAll g n 1) ∧ Snd mX11_movesAll g 44 (jX11_movesAll g n 2) ∧ Snd mX11_movesAll g 88 (jX11_movesAll g n 3) ∧ Snd mX11_movesAll g 97 (jX11_movesAll g n 4)
  | 0 => ⟨s_none, s_none, s_none, s_none, s_none⟩
  | n + 1 => by
    obtain ⟨-, h1, h2, h3, h4⟩ := sjX11_movesAll g n
    exact ⟨sbX11_movesAll_0 g _ h1 h2 h3 h4, sbX11_movesAll_1 g _ h1 h2 h3 h4, sbX11_movesAll_2 g _ h1 h2 h3 h4, sbX11_movesAll_3 g _ h1 h2 h3 h4, sbX11_movesAll_4 g _ h1 h2 h3 h4⟩
def kX11_movesAll (g : GE) : KT := jX11_movesAll g g.1 0
theorem sX11_movesAll (g : GE) : Snd mX11_movesAll g 0 (kX11_movesAll g) := (sjX11_movesAll g g.1).1
def fX11_movesAll : FT := fun g av w => if (ent av).length ≤ 5 then kX11_movesAll g [] (entp 5 av) w else none
theorem tX11_movesAll : Mt yX11_movesAll cX11_movesAll 5 none 2 53 fX11_movesAll := Mt.of (K := kX11_movesAll) (by decide +kernel) (fun _ _ _ => rfl) sX11_movesAll
theorem crX11_movesAll : yX11_movesAll.cls ≠ "java/lang/invoke/MethodHandle" ∧ yX11_movesAll.cls ≠ "java/lang/invoke/VarHandle" ∧ (parseMethodDescriptor yX11_movesAll.desc).map (fun d => d.parameters.length) = some 2 := by decide +kernel
theorem dX11_image_0 : decode cX11_image 0 = .ok (.aload_n 0, 1) := by decide +kernel
theorem dX11_image_1 : decode cX11_image 1 = .ok (.iconst 0, 1) := by decide +kernel
theorem dX11_image_2 : decode cX11_image 2 = .ok (.putfield 120, 3) := by decide +kernel
theorem dX11_image_5 : decode cX11_image 5 = .ok (.aload_n 0, 1) := by decide +kernel
theorem dX11_image_6 : decode cX11_image 6 = .ok (.getfield 231, 3) := by decide +kernel
theorem dX11_image_9 : decode cX11_image 9 = .ok (.iconst 3, 1) := by decide +kernel
theorem dX11_image_10 : decode cX11_image 10 = .ok (.if_icmp .ne 5, 3) := by decide +kernel
theorem dX11_image_13 : decode cX11_image 13 = .ok (.iconst (-1), 1) := by decide +kernel
theorem dX11_image_14 : decode cX11_image 14 = .ok (.ireturn, 1) := by decide +kernel
theorem dX11_image_15 : decode cX11_image 15 = .ok (.aload_n 0, 1) := by decide +kernel
theorem dX11_image_16 : decode cX11_image 16 = .ok (.aload_n 0, 1) := by decide +kernel
theorem dX11_image_17 : decode cX11_image 17 = .ok (.getfield 92, 3) := by decide +kernel
theorem dX11_image_20 : decode cX11_image 20 = .ok (.aload_n 0, 1) := by decide +kernel
theorem dX11_image_21 : decode cX11_image 21 = .ok (.getfield 231, 3) := by decide +kernel
theorem dX11_image_24 : decode cX11_image 24 = .ok (.aaload, 1) := by decide +kernel
theorem dX11_image_25 : decode cX11_image 25 = .ok (.iconst 0, 1) := by decide +kernel
theorem dX11_image_26 : decode cX11_image 26 = .ok (.invokevirtual 346, 3) := by decide +kernel
theorem dX11_image_29 : decode cX11_image 29 = .ok (.aload_n 0, 1) := by decide +kernel
theorem dX11_image_30 : decode cX11_image 30 = .ok (.dup, 1) := by decide +kernel
theorem dX11_image_31 : decode cX11_image 31 = .ok (.getfield 231, 3) := by decide +kernel
theorem dX11_image_34 : decode cX11_image 34 = .ok (.iconst 1, 1) := by decide +kernel
theorem dX11_image_35 : decode cX11_image 35 = .ok (.iadd, 1) := by decide +kernel
theorem dX11_image_36 : decode cX11_image 36 = .ok (.putfield 231, 3) := by decide +kernel
theorem dX11_image_39 : decode cX11_image 39 = .ok (.aload_n 0, 1) := by decide +kernel
theorem dX11_image_40 : decode cX11_image 40 = .ok (.getfield 231, 3) := by decide +kernel
theorem dX11_image_43 : decode cX11_image 43 = .ok (.ireturn, 1) := by decide +kernel
abbrev mX11_image : MD := (cX11_image, "BlottedDeedModel", 1, 3, 77, (some .int), "image", [])
def bX11_image_0 (g : GE) (J : Nat → KT) : KT := i_aload 0 (i_push (.int 0) (i_putf 10 0 .int (i_aload 0 (i_getf 10 34 (i_push (.int 3) (i_icne (i_aload 0 (i_aload 0 (i_getf 10 38 (i_aload 0 (i_getf 10 34 (i_aaload 4 (i_push (.int 0) (i_cv fX11_movesAll g 2 10 (i_aload 0 (i_dup (i_getf 10 34 (i_push (.int 1) (i_iadd (i_putf 10 34 .int (i_aload 0 (i_getf 10 34 (i_ireturn))))))))))))))))) (i_push (.int (-1)) (i_ireturn))))))))
theorem sbX11_image_0 (g : GE) (J : Nat → KT)  : Snd mX11_image g 0 (bX11_image_0 g J) := by
  unfold bX11_image_0
  refine s_aload_n (pc := 0) (i := 0) ?_ dX11_image_0 rfl
  refine s_iconst (pc := 1) (v := 0) ?_ dX11_image_1 (by decide)
  refine s_putf (pc := 2) (ci := 10) (f := 0) (T := TX11) (ty0 := tyX11) ?_ ginX11 tyX11_ok nmX11 rfl (by decide) rfl rfl wt_1393 dX11_image_2
  refine s_aload_n (pc := 5) (i := 0) ?_ dX11_image_5 rfl
  refine s_getf (pc := 6) (ci := 10) (f := 34) (T := TX11) ?_ ginX11 rfl (by decide) wt_1427 dX11_image_6
  refine s_iconst (pc := 9) (v := 3) ?_ dX11_image_9 (by decide)
  refine s_icne (pc := 10) (tgt := 15) ?_ ?_ dX11_image_10 (by decide)
  · skip
    refine s_aload_n (pc := 15) (i := 0) ?_ dX11_image_15 rfl
    refine s_aload_n (pc := 16) (i := 0) ?_ dX11_image_16 rfl
    refine s_getf (pc := 17) (ci := 10) (f := 38) (T := TX11) ?_ ginX11 rfl (by decide) wt_1431 dX11_image_17
    refine s_aload_n (pc := 20) (i := 0) ?_ dX11_image_20 rfl
    refine s_getf (pc := 21) (ci := 10) (f := 34) (T := TX11) ?_ ginX11 rfl (by decide) wt_1427 dX11_image_21
    refine s_aaload (pc := 24) (t := 4) ?_ (by decide) rfl dX11_image_24
    refine s_iconst (pc := 25) (v := 0) ?_ dX11_image_25 (by decide)
    refine s_cv (pc := 26) (n := 2) (ci := 10) ?_ tX11_movesAll rfl rfl wt_1895 wt_1897 wp_90 wt_17 wt_1898 ⟨crX11_movesAll, by decide, by decide⟩ dX11_image_26
    refine s_aload_n (pc := 29) (i := 0) ?_ dX11_image_29 rfl
    refine s_dup (pc := 30) ?_ dX11_image_30
    refine s_getf (pc := 31) (ci := 10) (f := 34) (T := TX11) ?_ ginX11 rfl (by decide) wt_1427 dX11_image_31
    refine s_iconst (pc := 34) (v := 1) ?_ dX11_image_34 (by decide)
    refine s_iadd (pc := 35) ?_ dX11_image_35
    refine s_putf (pc := 36) (ci := 10) (f := 34) (T := TX11) (ty0 := tyX11) ?_ ginX11 tyX11_ok nmX11 rfl (by decide) rfl rfl wt_1427 dX11_image_36
    refine s_aload_n (pc := 39) (i := 0) ?_ dX11_image_39 rfl
    refine s_getf (pc := 40) (ci := 10) (f := 34) (T := TX11) ?_ ginX11 rfl (by decide) wt_1427 dX11_image_40
    exact s_ireturn (pc := 43) rfl dX11_image_43
  · skip
    refine s_iconst (pc := 13) (v := (-1)) ?_ dX11_image_13 (by decide)
    exact s_ireturn (pc := 14) rfl dX11_image_14
def kX11_image (g : GE) : KT := bX11_image_0 g (fun _ _ _ _ => none)
theorem sX11_image (g : GE) : Snd mX11_image g 0 (kX11_image g) := sbX11_image_0 g _
def fX11_image : FT := fun g av w => if (ent av).length ≤ 1 then kX11_image g [] (entp 1 av) w else none
theorem tX11_image : Mt yX11_image cX11_image 1 (some .int) 3 77 fX11_image := Mt.of (K := kX11_image) (by decide +kernel) (fun _ _ _ => rfl) sX11_image
theorem crX11_image : yX11_image.cls ≠ "java/lang/invoke/MethodHandle" ∧ yX11_image.cls ≠ "java/lang/invoke/VarHandle" ∧ (parseMethodDescriptor yX11_image.desc).map (fun d => d.parameters.length) = some 0 := by decide +kernel
theorem dX11_init_0 : decode cX11_init 0 = .ok (.aload_n 0, 1) := by decide +kernel
theorem dX11_init_1 : decode cX11_init 1 = .ok (.invokespecial 1, 3) := by decide +kernel
theorem dX11_init_4 : decode cX11_init 4 = .ok (.aload_n 0, 1) := by decide +kernel
theorem dX11_init_5 : decode cX11_init 5 = .ok (.iconst (-1), 1) := by decide +kernel
theorem dX11_init_6 : decode cX11_init 6 = .ok (.putfield 9, 3) := by decide +kernel
theorem dX11_init_9 : decode cX11_init 9 = .ok (.aload_n 0, 1) := by decide +kernel
theorem dX11_init_10 : decode cX11_init 10 = .ok (.sipush 600, 3) := by decide +kernel
theorem dX11_init_13 : decode cX11_init 13 = .ok (.newarray .int, 2) := by decide +kernel
theorem dX11_init_15 : decode cX11_init 15 = .ok (.putfield 13, 3) := by decide +kernel
theorem dX11_init_18 : decode cX11_init 18 = .ok (.aload_n 0, 1) := by decide +kernel
theorem dX11_init_19 : decode cX11_init 19 = .ok (.iconst 3, 1) := by decide +kernel
theorem dX11_init_20 : decode cX11_init 20 = .ok (.newarray .int, 2) := by decide +kernel
theorem dX11_init_22 : decode cX11_init 22 = .ok (.putfield 17, 3) := by decide +kernel
theorem dX11_init_25 : decode cX11_init 25 = .ok (.aload_n 0, 1) := by decide +kernel
theorem dX11_init_26 : decode cX11_init 26 = .ok (.bipush 7, 2) := by decide +kernel
theorem dX11_init_28 : decode cX11_init 28 = .ok (.newarray .int, 2) := by decide +kernel
theorem dX11_init_30 : decode cX11_init 30 = .ok (.putfield 20, 3) := by decide +kernel
theorem dX11_init_33 : decode cX11_init 33 = .ok (.aload_n 0, 1) := by decide +kernel
theorem dX11_init_34 : decode cX11_init 34 = .ok (.bipush 7, 2) := by decide +kernel
theorem dX11_init_36 : decode cX11_init 36 = .ok (.newarray .int, 2) := by decide +kernel
theorem dX11_init_38 : decode cX11_init 38 = .ok (.putfield 23, 3) := by decide +kernel
theorem dX11_init_41 : decode cX11_init 41 = .ok (.aload_n 0, 1) := by decide +kernel
theorem dX11_init_42 : decode cX11_init 42 = .ok (.bipush 9, 2) := by decide +kernel
theorem dX11_init_44 : decode cX11_init 44 = .ok (.newarray .int, 2) := by decide +kernel
theorem dX11_init_46 : decode cX11_init 46 = .ok (.putfield 26, 3) := by decide +kernel
theorem dX11_init_49 : decode cX11_init 49 = .ok (.aload_n 0, 1) := by decide +kernel
theorem dX11_init_50 : decode cX11_init 50 = .ok (.iconst 4, 1) := by decide +kernel
theorem dX11_init_51 : decode cX11_init 51 = .ok (.newarray .int, 2) := by decide +kernel
theorem dX11_init_53 : decode cX11_init 53 = .ok (.putfield 29, 3) := by decide +kernel
theorem dX11_init_56 : decode cX11_init 56 = .ok (.aload_n 0, 1) := by decide +kernel
theorem dX11_init_57 : decode cX11_init 57 = .ok (.iconst 5, 1) := by decide +kernel
theorem dX11_init_58 : decode cX11_init 58 = .ok (.newarray .int, 2) := by decide +kernel
theorem dX11_init_60 : decode cX11_init 60 = .ok (.putfield 32, 3) := by decide +kernel
theorem dX11_init_63 : decode cX11_init 63 = .ok (.aload_n 0, 1) := by decide +kernel
theorem dX11_init_64 : decode cX11_init 64 = .ok (.iconst 5, 1) := by decide +kernel
theorem dX11_init_65 : decode cX11_init 65 = .ok (.newarray .int, 2) := by decide +kernel
theorem dX11_init_67 : decode cX11_init 67 = .ok (.putfield 35, 3) := by decide +kernel
theorem dX11_init_70 : decode cX11_init 70 = .ok (.aload_n 0, 1) := by decide +kernel
theorem dX11_init_71 : decode cX11_init 71 = .ok (.iconst 4, 1) := by decide +kernel
theorem dX11_init_72 : decode cX11_init 72 = .ok (.newarray .int, 2) := by decide +kernel
theorem dX11_init_74 : decode cX11_init 74 = .ok (.putfield 38, 3) := by decide +kernel
theorem dX11_init_77 : decode cX11_init 77 = .ok (.aload_n 0, 1) := by decide +kernel
theorem dX11_init_78 : decode cX11_init 78 = .ok (.iconst 4, 1) := by decide +kernel
theorem dX11_init_79 : decode cX11_init 79 = .ok (.newarray .int, 2) := by decide +kernel
theorem dX11_init_81 : decode cX11_init 81 = .ok (.putfield 41, 3) := by decide +kernel
theorem dX11_init_84 : decode cX11_init 84 = .ok (.aload_n 0, 1) := by decide +kernel
theorem dX11_init_85 : decode cX11_init 85 = .ok (.bipush 9, 2) := by decide +kernel
theorem dX11_init_87 : decode cX11_init 87 = .ok (.newarray .long, 2) := by decide +kernel
theorem dX11_init_89 : decode cX11_init 89 = .ok (.putfield 44, 3) := by decide +kernel
theorem dX11_init_92 : decode cX11_init 92 = .ok (.aload_n 0, 1) := by decide +kernel
theorem dX11_init_93 : decode cX11_init 93 = .ok (.bipush 9, 2) := by decide +kernel
theorem dX11_init_95 : decode cX11_init 95 = .ok (.iconst 3, 1) := by decide +kernel
theorem dX11_init_96 : decode cX11_init 96 = .ok (.multianewarray 48 2, 4) := by decide +kernel
theorem dX11_init_100 : decode cX11_init 100 = .ok (.putfield 50, 3) := by decide +kernel
theorem dX11_init_103 : decode cX11_init 103 = .ok (.aload_n 0, 1) := by decide +kernel
theorem dX11_init_104 : decode cX11_init 104 = .ok (.bipush 9, 2) := by decide +kernel
theorem dX11_init_106 : decode cX11_init 106 = .ok (.iconst 3, 1) := by decide +kernel
theorem dX11_init_107 : decode cX11_init 107 = .ok (.multianewarray 48 2, 4) := by decide +kernel
theorem dX11_init_111 : decode cX11_init 111 = .ok (.putfield 53, 3) := by decide +kernel
theorem dX11_init_114 : decode cX11_init 114 = .ok (.aload_n 0, 1) := by decide +kernel
theorem dX11_init_115 : decode cX11_init 115 = .ok (.bipush 36, 2) := by decide +kernel
theorem dX11_init_117 : decode cX11_init 117 = .ok (.iconst 3, 1) := by decide +kernel
theorem dX11_init_118 : decode cX11_init 118 = .ok (.multianewarray 48 2, 4) := by decide +kernel
theorem dX11_init_122 : decode cX11_init 122 = .ok (.putfield 56, 3) := by decide +kernel
theorem dX11_init_125 : decode cX11_init 125 = .ok (.aload_n 0, 1) := by decide +kernel
theorem dX11_init_126 : decode cX11_init 126 = .ok (.bipush 36, 2) := by decide +kernel
theorem dX11_init_128 : decode cX11_init 128 = .ok (.iconst 3, 1) := by decide +kernel
theorem dX11_init_129 : decode cX11_init 129 = .ok (.multianewarray 48 2, 4) := by decide +kernel
theorem dX11_init_133 : decode cX11_init 133 = .ok (.putfield 59, 3) := by decide +kernel
theorem dX11_init_136 : decode cX11_init 136 = .ok (.aload_n 0, 1) := by decide +kernel
theorem dX11_init_137 : decode cX11_init 137 = .ok (.bipush 8, 2) := by decide +kernel
theorem dX11_init_139 : decode cX11_init 139 = .ok (.iconst 5, 1) := by decide +kernel
theorem dX11_init_140 : decode cX11_init 140 = .ok (.multianewarray 48 2, 4) := by decide +kernel
theorem dX11_init_144 : decode cX11_init 144 = .ok (.putfield 62, 3) := by decide +kernel
theorem dX11_init_147 : decode cX11_init 147 = .ok (.aload_n 0, 1) := by decide +kernel
theorem dX11_init_148 : decode cX11_init 148 = .ok (.bipush 8, 2) := by decide +kernel
theorem dX11_init_150 : decode cX11_init 150 = .ok (.iconst 5, 1) := by decide +kernel
theorem dX11_init_151 : decode cX11_init 151 = .ok (.multianewarray 48 2, 4) := by decide +kernel
theorem dX11_init_155 : decode cX11_init 155 = .ok (.putfield 65, 3) := by decide +kernel
theorem dX11_init_158 : decode cX11_init 158 = .ok (.aload_n 0, 1) := by decide +kernel
theorem dX11_init_159 : decode cX11_init 159 = .ok (.bipush 8, 2) := by decide +kernel
theorem dX11_init_161 : decode cX11_init 161 = .ok (.bipush 100, 2) := by decide +kernel
theorem dX11_init_163 : decode cX11_init 163 = .ok (.multianewarray 48 2, 4) := by decide +kernel
theorem dX11_init_167 : decode cX11_init 167 = .ok (.putfield 68, 3) := by decide +kernel
theorem dX11_init_170 : decode cX11_init 170 = .ok (.aload_n 0, 1) := by decide +kernel
theorem dX11_init_171 : decode cX11_init 171 = .ok (.bipush 8, 2) := by decide +kernel
theorem dX11_init_173 : decode cX11_init 173 = .ok (.bipush 100, 2) := by decide +kernel
theorem dX11_init_175 : decode cX11_init 175 = .ok (.multianewarray 48 2, 4) := by decide +kernel
theorem dX11_init_179 : decode cX11_init 179 = .ok (.putfield 71, 3) := by decide +kernel
theorem dX11_init_182 : decode cX11_init 182 = .ok (.aload_n 0, 1) := by decide +kernel
theorem dX11_init_183 : decode cX11_init 183 = .ok (.sipush 20000, 3) := by decide +kernel
theorem dX11_init_186 : decode cX11_init 186 = .ok (.newarray .int, 2) := by decide +kernel
theorem dX11_init_188 : decode cX11_init 188 = .ok (.putfield 74, 3) := by decide +kernel
theorem dX11_init_191 : decode cX11_init 191 = .ok (.aload_n 0, 1) := by decide +kernel
theorem dX11_init_192 : decode cX11_init 192 = .ok (.sipush 20000, 3) := by decide +kernel
theorem dX11_init_195 : decode cX11_init 195 = .ok (.newarray .int, 2) := by decide +kernel
theorem dX11_init_197 : decode cX11_init 197 = .ok (.putfield 77, 3) := by decide +kernel
theorem dX11_init_200 : decode cX11_init 200 = .ok (.aload_n 0, 1) := by decide +kernel
theorem dX11_init_201 : decode cX11_init 201 = .ok (.sipush 20000, 3) := by decide +kernel
theorem dX11_init_204 : decode cX11_init 204 = .ok (.newarray .int, 2) := by decide +kernel
theorem dX11_init_206 : decode cX11_init 206 = .ok (.putfield 80, 3) := by decide +kernel
theorem dX11_init_209 : decode cX11_init 209 = .ok (.aload_n 0, 1) := by decide +kernel
theorem dX11_init_210 : decode cX11_init 210 = .ok (.sipush 20000, 3) := by decide +kernel
theorem dX11_init_213 : decode cX11_init 213 = .ok (.newarray .long, 2) := by decide +kernel
theorem dX11_init_215 : decode cX11_init 215 = .ok (.putfield 83, 3) := by decide +kernel
theorem dX11_init_218 : decode cX11_init 218 = .ok (.aload_n 0, 1) := by decide +kernel
theorem dX11_init_219 : decode cX11_init 219 = .ok (.bipush 12, 2) := by decide +kernel
theorem dX11_init_221 : decode cX11_init 221 = .ok (.iconst 3, 1) := by decide +kernel
theorem dX11_init_222 : decode cX11_init 222 = .ok (.multianewarray 48 2, 4) := by decide +kernel
theorem dX11_init_226 : decode cX11_init 226 = .ok (.putfield 86, 3) := by decide +kernel
theorem dX11_init_229 : decode cX11_init 229 = .ok (.aload_n 0, 1) := by decide +kernel
theorem dX11_init_230 : decode cX11_init 230 = .ok (.bipush 8, 2) := by decide +kernel
theorem dX11_init_232 : decode cX11_init 232 = .ok (.iconst 4, 1) := by decide +kernel
theorem dX11_init_233 : decode cX11_init 233 = .ok (.multianewarray 48 2, 4) := by decide +kernel
theorem dX11_init_237 : decode cX11_init 237 = .ok (.putfield 89, 3) := by decide +kernel
theorem dX11_init_240 : decode cX11_init 240 = .ok (.aload_n 0, 1) := by decide +kernel
theorem dX11_init_241 : decode cX11_init 241 = .ok (.iconst 3, 1) := by decide +kernel
theorem dX11_init_242 : decode cX11_init 242 = .ok (.bipush 70, 2) := by decide +kernel
theorem dX11_init_244 : decode cX11_init 244 = .ok (.multianewarray 48 2, 4) := by decide +kernel
theorem dX11_init_248 : decode cX11_init 248 = .ok (.putfield 92, 3) := by decide +kernel
theorem dX11_init_251 : decode cX11_init 251 = .ok (.aload_n 0, 1) := by decide +kernel
theorem dX11_init_252 : decode cX11_init 252 = .ok (.bipush 36, 2) := by decide +kernel
theorem dX11_init_254 : decode cX11_init 254 = .ok (.newarray .int, 2) := by decide +kernel
theorem dX11_init_256 : decode cX11_init 256 = .ok (.putfield 95, 3) := by decide +kernel
theorem dX11_init_259 : decode cX11_init 259 = .ok (.aload_n 0, 1) := by decide +kernel
theorem dX11_init_260 : decode cX11_init 260 = .ok (.iconst 4, 1) := by decide +kernel
theorem dX11_init_261 : decode cX11_init 261 = .ok (.newarray .int, 2) := by decide +kernel
theorem dX11_init_263 : decode cX11_init 263 = .ok (.putfield 98, 3) := by decide +kernel
theorem dX11_init_266 : decode cX11_init 266 = .ok (.aload_n 0, 1) := by decide +kernel
theorem dX11_init_267 : decode cX11_init 267 = .ok (.iconst 5, 1) := by decide +kernel
theorem dX11_init_268 : decode cX11_init 268 = .ok (.newarray .int, 2) := by decide +kernel
theorem dX11_init_270 : decode cX11_init 270 = .ok (.putfield 101, 3) := by decide +kernel
theorem dX11_init_273 : decode cX11_init 273 = .ok (.aload_n 0, 1) := by decide +kernel
theorem dX11_init_274 : decode cX11_init 274 = .ok (.bipush 100, 2) := by decide +kernel
theorem dX11_init_276 : decode cX11_init 276 = .ok (.newarray .int, 2) := by decide +kernel
theorem dX11_init_278 : decode cX11_init 278 = .ok (.putfield 104, 3) := by decide +kernel
theorem dX11_init_281 : decode cX11_init 281 = .ok (.aload_n 0, 1) := by decide +kernel
theorem dX11_init_282 : decode cX11_init 282 = .ok (.sipush 20000, 3) := by decide +kernel
theorem dX11_init_285 : decode cX11_init 285 = .ok (.newarray .int, 2) := by decide +kernel
theorem dX11_init_287 : decode cX11_init 287 = .ok (.putfield 107, 3) := by decide +kernel
theorem dX11_init_290 : decode cX11_init 290 = .ok (.aload_n 0, 1) := by decide +kernel
theorem dX11_init_291 : decode cX11_init 291 = .ok (.sipush 20000, 3) := by decide +kernel
theorem dX11_init_294 : decode cX11_init 294 = .ok (.newarray .boolean, 2) := by decide +kernel
theorem dX11_init_296 : decode cX11_init 296 = .ok (.putfield 110, 3) := by decide +kernel
theorem dX11_init_299 : decode cX11_init 299 = .ok (.aload_n 0, 1) := by decide +kernel
theorem dX11_init_300 : decode cX11_init 300 = .ok (.bipush 8, 2) := by decide +kernel
theorem dX11_init_302 : decode cX11_init 302 = .ok (.newarray .int, 2) := by decide +kernel
theorem dX11_init_304 : decode cX11_init 304 = .ok (.putfield 114, 3) := by decide +kernel
theorem dX11_init_307 : decode cX11_init 307 = .ok (.aload_n 0, 1) := by decide +kernel
theorem dX11_init_308 : decode cX11_init 308 = .ok (.getfield 23, 3) := by decide +kernel
theorem dX11_init_311 : decode cX11_init 311 = .ok (.bipush 6, 2) := by decide +kernel
theorem dX11_init_313 : decode cX11_init 313 = .ok (.iconst 1, 1) := by decide +kernel
theorem dX11_init_314 : decode cX11_init 314 = .ok (.iastore, 1) := by decide +kernel
theorem dX11_init_315 : decode cX11_init 315 = .ok (.aload_n 0, 1) := by decide +kernel
theorem dX11_init_316 : decode cX11_init 316 = .ok (.invokevirtual 117, 3) := by decide +kernel
theorem dX11_init_319 : decode cX11_init 319 = .ok (.return_, 1) := by decide +kernel
abbrev mX11_init : MD := (cX11_init, "BlottedDeedModel", 1, 4, 97, none, "<init>", [])
def bX11_init_0 (g : GE) (J : Nat → KT) : KT := i_aload 0 (i_obj (i_aload 0 (i_push (.int (-1)) (i_putf 10 3 .int (i_aload 0 (i_push (.int 600) (i_newarr 0 (i_putf 10 8 (.array .int) (i_aload 0 (i_push (.int 3) (i_newarr 0 (i_putf 10 9 (.array .int) (i_aload 0 (i_push (.int 7) (i_newarr 0 (i_putf 10 10 (.array .int) (i_aload 0 (i_push (.int 7) (i_newarr 0 (i_putf 10 11 (.array .int) (i_aload 0 (i_push (.int 9) (i_newarr 0 (i_putf 10 12 (.array .int) (i_aload 0 (i_push (.int 4) (i_newarr 0 (i_putf 10 13 (.array .int) (i_aload 0 (i_push (.int 5) (i_newarr 0 (i_putf 10 14 (.array .int) (i_aload 0 (i_push (.int 5) (i_newarr 0 (i_putf 10 15 (.array .int) (i_aload 0 (i_push (.int 4) (i_newarr 0 (i_putf 10 16 (.array .int) (i_aload 0 (i_push (.int 4) (i_newarr 0 (i_putf 10 17 (.array .int) (i_aload 0 (i_push (.int 9) (i_newarr 1 (i_putf 10 18 (.array .long) (i_aload 0 (i_push (.int 9) (i_push (.int 3) (i_mnew (i_putf 10 19 (.array (.array .int)) (i_aload 0 (i_push (.int 9) (i_push (.int 3) (i_mnew (i_putf 10 20 (.array (.array .int)) (i_aload 0 (i_push (.int 36) (i_push (.int 3) (i_mnew (i_putf 10 21 (.array (.array .int)) (i_aload 0 (i_push (.int 36) (i_push (.int 3) (i_mnew (i_putf 10 22 (.array (.array .int)) (i_aload 0 (i_push (.int 8) (i_push (.int 5) (i_mnew (i_putf 10 23 (.array (.array .int)) (i_aload 0 (i_push (.int 8) (i_push (.int 5) (i_mnew (i_putf 10 24 (.array (.array .int)) (i_aload 0 (i_push (.int 8) (i_push (.int 100) (i_mnew (i_putf 10 25 (.array (.array .int)) (i_aload 0 (i_push (.int 8) (i_push (.int 100) (i_mnew (i_putf 10 26 (.array (.array .int)) (i_aload 0 (i_push (.int 20000) (i_newarr 0 (i_putf 10 28 (.array .int) (i_aload 0 (i_push (.int 20000) (i_newarr 0 (i_putf 10 29 (.array .int) (i_aload 0 (i_push (.int 20000) (i_newarr 0 (i_putf 10 30 (.array .int) (i_aload 0 (i_push (.int 20000) (i_newarr 1 (i_putf 10 31 (.array .long) (i_aload 0 (i_push (.int 12) (i_push (.int 3) (i_mnew (i_putf 10 36 (.array (.array .int)) (i_aload 0 (i_push (.int 8) (i_push (.int 4) (i_mnew (i_putf 10 37 (.array (.array .int)) (i_aload 0 (i_push (.int 3) (i_push (.int 70) (i_mnew (i_putf 10 38 (.array (.array .int)) (i_aload 0 (i_push (.int 36) (i_newarr 0 (i_putf 10 39 (.array .int) (i_aload 0 (i_push (.int 4) (i_newarr 0 (i_putf 10 40 (.array .int) (i_aload 0 (i_push (.int 5) (i_newarr 0 (i_putf 10 41 (.array .int) (i_aload 0 (i_push (.int 100) (i_newarr 0 (i_putf 10 43 (.array .int) (i_aload 0 (i_push (.int 20000) (i_newarr 0 (i_putf 10 44 (.array .int) (i_aload 0 (i_push (.int 20000) (i_newarr 3 (i_putf 10 48 (.array .boolean) (i_aload 0 (i_push (.int 8) (i_newarr 0 (i_putf 10 49 (.array .int) (i_aload 0 (i_getf 10 11 (i_push (.int 6) (i_push (.int 1) (i_iastore (i_aload 0 (i_cv fX11_laysReadings g 0 10 (i_return)))))))))))))))))))))))))))))))))))))))))))))))))))))))))))))))))))))))))))))))))))))))))))))))))))))))))))))))))))))))))))))))))))))))))))))))))))))))))))
theorem sbX11_init_0 (g : GE) (J : Nat → KT)  : Snd mX11_init g 0 (bX11_init_0 g J) := by
  unfold bX11_init_0
  refine s_aload_n (pc := 0) (i := 0) ?_ dX11_init_0 rfl
  refine s_obj (pc := 1) ?_ wt_1370 wt_35 wt_36 (by decide) dX11_init_1
  refine s_aload_n (pc := 4) (i := 0) ?_ dX11_init_4 rfl
  refine s_iconst (pc := 5) (v := (-1)) ?_ dX11_init_5 (by decide)
  refine s_putf (pc := 6) (ci := 10) (f := 3) (T := TX11) (ty0 := tyX11) ?_ ginX11 tyX11_ok nmX11 rfl (by decide) rfl rfl wt_1396 dX11_init_6
  refine s_aload_n (pc := 9) (i := 0) ?_ dX11_init_9 rfl
  refine s_sipush (pc := 10) (v := 600) ?_ dX11_init_10 (by decide)
  refine s_newarr (pc := 13) (t := 0) ?_ (by decide) rfl wt_68 dX11_init_13
  refine s_putfF (pc := 15) (ci := 10) (f := 8) (T := TX11) (ty0 := tyX11) ?_ ginX11 tyX11_ok nmX11 rfl (by decide) rfl rfl rfl rfl wt_1401 dX11_init_15
  refine s_aload_n (pc := 18) (i := 0) ?_ dX11_init_18 rfl
  refine s_iconst (pc := 19) (v := 3) ?_ dX11_init_19 (by decide)
  refine s_newarr (pc := 20) (t := 0) ?_ (by decide) rfl wt_68 dX11_init_20
  refine s_putfF (pc := 22) (ci := 10) (f := 9) (T := TX11) (ty0 := tyX11) ?_ ginX11 tyX11_ok nmX11 rfl (by decide) rfl rfl rfl rfl wt_1402 dX11_init_22
  refine s_aload_n (pc := 25) (i := 0) ?_ dX11_init_25 rfl
  refine s_bipush (pc := 26) (v := 7) ?_ dX11_init_26 (by decide)
  refine s_newarr (pc := 28) (t := 0) ?_ (by decide) rfl wt_68 dX11_init_28
  refine s_putfF (pc := 30) (ci := 10) (f := 10) (T := TX11) (ty0 := tyX11) ?_ ginX11 tyX11_ok nmX11 rfl (by decide) rfl rfl rfl rfl wt_1403 dX11_init_30
  refine s_aload_n (pc := 33) (i := 0) ?_ dX11_init_33 rfl
  refine s_bipush (pc := 34) (v := 7) ?_ dX11_init_34 (by decide)
  refine s_newarr (pc := 36) (t := 0) ?_ (by decide) rfl wt_68 dX11_init_36
  refine s_putfF (pc := 38) (ci := 10) (f := 11) (T := TX11) (ty0 := tyX11) ?_ ginX11 tyX11_ok nmX11 rfl (by decide) rfl rfl rfl rfl wt_1404 dX11_init_38
  refine s_aload_n (pc := 41) (i := 0) ?_ dX11_init_41 rfl
  refine s_bipush (pc := 42) (v := 9) ?_ dX11_init_42 (by decide)
  refine s_newarr (pc := 44) (t := 0) ?_ (by decide) rfl wt_68 dX11_init_44
  refine s_putfF (pc := 46) (ci := 10) (f := 12) (T := TX11) (ty0 := tyX11) ?_ ginX11 tyX11_ok nmX11 rfl (by decide) rfl rfl rfl rfl wt_1405 dX11_init_46
  refine s_aload_n (pc := 49) (i := 0) ?_ dX11_init_49 rfl
  refine s_iconst (pc := 50) (v := 4) ?_ dX11_init_50 (by decide)
  refine s_newarr (pc := 51) (t := 0) ?_ (by decide) rfl wt_68 dX11_init_51
  refine s_putfF (pc := 53) (ci := 10) (f := 13) (T := TX11) (ty0 := tyX11) ?_ ginX11 tyX11_ok nmX11 rfl (by decide) rfl rfl rfl rfl wt_1406 dX11_init_53
  refine s_aload_n (pc := 56) (i := 0) ?_ dX11_init_56 rfl
  refine s_iconst (pc := 57) (v := 5) ?_ dX11_init_57 (by decide)
  refine s_newarr (pc := 58) (t := 0) ?_ (by decide) rfl wt_68 dX11_init_58
  refine s_putfF (pc := 60) (ci := 10) (f := 14) (T := TX11) (ty0 := tyX11) ?_ ginX11 tyX11_ok nmX11 rfl (by decide) rfl rfl rfl rfl wt_1407 dX11_init_60
  refine s_aload_n (pc := 63) (i := 0) ?_ dX11_init_63 rfl
  refine s_iconst (pc := 64) (v := 5) ?_ dX11_init_64 (by decide)
  refine s_newarr (pc := 65) (t := 0) ?_ (by decide) rfl wt_68 dX11_init_65
  refine s_putfF (pc := 67) (ci := 10) (f := 15) (T := TX11) (ty0 := tyX11) ?_ ginX11 tyX11_ok nmX11 rfl (by decide) rfl rfl rfl rfl wt_1408 dX11_init_67
  refine s_aload_n (pc := 70) (i := 0) ?_ dX11_init_70 rfl
  refine s_iconst (pc := 71) (v := 4) ?_ dX11_init_71 (by decide)
  refine s_newarr (pc := 72) (t := 0) ?_ (by decide) rfl wt_68 dX11_init_72
  refine s_putfF (pc := 74) (ci := 10) (f := 16) (T := TX11) (ty0 := tyX11) ?_ ginX11 tyX11_ok nmX11 rfl (by decide) rfl rfl rfl rfl wt_1409 dX11_init_74
  refine s_aload_n (pc := 77) (i := 0) ?_ dX11_init_77 rfl
  refine s_iconst (pc := 78) (v := 4) ?_ dX11_init_78 (by decide)
  refine s_newarr (pc := 79) (t := 0) ?_ (by decide) rfl wt_68 dX11_init_79
  refine s_putfF (pc := 81) (ci := 10) (f := 17) (T := TX11) (ty0 := tyX11) ?_ ginX11 tyX11_ok nmX11 rfl (by decide) rfl rfl rfl rfl wt_1410 dX11_init_81
  refine s_aload_n (pc := 84) (i := 0) ?_ dX11_init_84 rfl
  refine s_bipush (pc := 85) (v := 9) ?_ dX11_init_85 (by decide)
  refine s_newarr (pc := 87) (t := 1) ?_ (by decide) rfl wt_69 dX11_init_87
  refine s_putfF (pc := 89) (ci := 10) (f := 18) (T := TX11) (ty0 := tyX11) ?_ ginX11 tyX11_ok nmX11 rfl (by decide) rfl rfl rfl rfl wt_1411 dX11_init_89
  refine s_aload_n (pc := 92) (i := 0) ?_ dX11_init_92 rfl
  refine s_bipush (pc := 93) (v := 9) ?_ dX11_init_93 (by decide)
  refine s_iconst (pc := 95) (v := 3) ?_ dX11_init_95 (by decide)
  refine s_mnew (pc := 96) ?_ wt_1371 (by decide +kernel) wt_68 dX11_init_96
  refine s_putfF (pc := 100) (ci := 10) (f := 19) (T := TX11) (ty0 := tyX11) ?_ ginX11 tyX11_ok nmX11 rfl (by decide) rfl rfl rfl rfl wt_1412 dX11_init_100
  refine s_aload_n (pc := 103) (i := 0) ?_ dX11_init_103 rfl
  refine s_bipush (pc := 104) (v := 9) ?_ dX11_init_104 (by decide)
  refine s_iconst (pc := 106) (v := 3) ?_ dX11_init_106 (by decide)
  refine s_mnew (pc := 107) ?_ wt_1371 (by decide +kernel) wt_68 dX11_init_107
  refine s_putfF (pc := 111) (ci := 10) (f := 20) (T := TX11) (ty0 := tyX11) ?_ ginX11 tyX11_ok nmX11 rfl (by decide) rfl rfl rfl rfl wt_1413 dX11_init_111
  refine s_aload_n (pc := 114) (i := 0) ?_ dX11_init_114 rfl
  refine s_bipush (pc := 115) (v := 36) ?_ dX11_init_115 (by decide)
  refine s_iconst (pc := 117) (v := 3) ?_ dX11_init_117 (by decide)
  refine s_mnew (pc := 118) ?_ wt_1371 (by decide +kernel) wt_68 dX11_init_118
  refine s_putfF (pc := 122) (ci := 10) (f := 21) (T := TX11) (ty0 := tyX11) ?_ ginX11 tyX11_ok nmX11 rfl (by decide) rfl rfl rfl rfl wt_1414 dX11_init_122
  refine s_aload_n (pc := 125) (i := 0) ?_ dX11_init_125 rfl
  refine s_bipush (pc := 126) (v := 36) ?_ dX11_init_126 (by decide)
  refine s_iconst (pc := 128) (v := 3) ?_ dX11_init_128 (by decide)
  refine s_mnew (pc := 129) ?_ wt_1371 (by decide +kernel) wt_68 dX11_init_129
  refine s_putfF (pc := 133) (ci := 10) (f := 22) (T := TX11) (ty0 := tyX11) ?_ ginX11 tyX11_ok nmX11 rfl (by decide) rfl rfl rfl rfl wt_1415 dX11_init_133
  refine s_aload_n (pc := 136) (i := 0) ?_ dX11_init_136 rfl
  refine s_bipush (pc := 137) (v := 8) ?_ dX11_init_137 (by decide)
  refine s_iconst (pc := 139) (v := 5) ?_ dX11_init_139 (by decide)
  refine s_mnew (pc := 140) ?_ wt_1371 (by decide +kernel) wt_68 dX11_init_140
  refine s_putfF (pc := 144) (ci := 10) (f := 23) (T := TX11) (ty0 := tyX11) ?_ ginX11 tyX11_ok nmX11 rfl (by decide) rfl rfl rfl rfl wt_1416 dX11_init_144
  refine s_aload_n (pc := 147) (i := 0) ?_ dX11_init_147 rfl
  refine s_bipush (pc := 148) (v := 8) ?_ dX11_init_148 (by decide)
  refine s_iconst (pc := 150) (v := 5) ?_ dX11_init_150 (by decide)
  refine s_mnew (pc := 151) ?_ wt_1371 (by decide +kernel) wt_68 dX11_init_151
  refine s_putfF (pc := 155) (ci := 10) (f := 24) (T := TX11) (ty0 := tyX11) ?_ ginX11 tyX11_ok nmX11 rfl (by decide) rfl rfl rfl rfl wt_1417 dX11_init_155
  refine s_aload_n (pc := 158) (i := 0) ?_ dX11_init_158 rfl
  refine s_bipush (pc := 159) (v := 8) ?_ dX11_init_159 (by decide)
  refine s_bipush (pc := 161) (v := 100) ?_ dX11_init_161 (by decide)
  refine s_mnew (pc := 163) ?_ wt_1371 (by decide +kernel) wt_68 dX11_init_163
  refine s_putfF (pc := 167) (ci := 10) (f := 25) (T := TX11) (ty0 := tyX11) ?_ ginX11 tyX11_ok nmX11 rfl (by decide) rfl rfl rfl rfl wt_1418 dX11_init_167
  refine s_aload_n (pc := 170) (i := 0) ?_ dX11_init_170 rfl
  refine s_bipush (pc := 171) (v := 8) ?_ dX11_init_171 (by decide)
  refine s_bipush (pc := 173) (v := 100) ?_ dX11_init_173 (by decide)
  refine s_mnew (pc := 175) ?_ wt_1371 (by decide +kernel) wt_68 dX11_init_175
  refine s_putfF (pc := 179) (ci := 10) (f := 26) (T := TX11) (ty0 := tyX11) ?_ ginX11 tyX11_ok nmX11 rfl (by decide) rfl rfl rfl rfl wt_1419 dX11_init_179
  refine s_aload_n (pc := 182) (i := 0) ?_ dX11_init_182 rfl
  refine s_sipush (pc := 183) (v := 20000) ?_ dX11_init_183 (by decide)
  refine s_newarr (pc := 186) (t := 0) ?_ (by decide) rfl wt_68 dX11_init_186
  refine s_putfF (pc := 188) (ci := 10) (f := 28) (T := TX11) (ty0 := tyX11) ?_ ginX11 tyX11_ok nmX11 rfl (by decide) rfl rfl rfl rfl wt_1421 dX11_init_188
  refine s_aload_n (pc := 191) (i := 0) ?_ dX11_init_191 rfl
  refine s_sipush (pc := 192) (v := 20000) ?_ dX11_init_192 (by decide)
  refine s_newarr (pc := 195) (t := 0) ?_ (by decide) rfl wt_68 dX11_init_195
  refine s_putfF (pc := 197) (ci := 10) (f := 29) (T := TX11) (ty0 := tyX11) ?_ ginX11 tyX11_ok nmX11 rfl (by decide) rfl rfl rfl rfl wt_1422 dX11_init_197
  refine s_aload_n (pc := 200) (i := 0) ?_ dX11_init_200 rfl
  refine s_sipush (pc := 201) (v := 20000) ?_ dX11_init_201 (by decide)
  refine s_newarr (pc := 204) (t := 0) ?_ (by decide) rfl wt_68 dX11_init_204
  refine s_putfF (pc := 206) (ci := 10) (f := 30) (T := TX11) (ty0 := tyX11) ?_ ginX11 tyX11_ok nmX11 rfl (by decide) rfl rfl rfl rfl wt_1423 dX11_init_206
  refine s_aload_n (pc := 209) (i := 0) ?_ dX11_init_209 rfl
  refine s_sipush (pc := 210) (v := 20000) ?_ dX11_init_210 (by decide)
  refine s_newarr (pc := 213) (t := 1) ?_ (by decide) rfl wt_69 dX11_init_213
  refine s_putfF (pc := 215) (ci := 10) (f := 31) (T := TX11) (ty0 := tyX11) ?_ ginX11 tyX11_ok nmX11 rfl (by decide) rfl rfl rfl rfl wt_1424 dX11_init_215
  refine s_aload_n (pc := 218) (i := 0) ?_ dX11_init_218 rfl
  refine s_bipush (pc := 219) (v := 12) ?_ dX11_init_219 (by decide)
  refine s_iconst (pc := 221) (v := 3) ?_ dX11_init_221 (by decide)
  refine s_mnew (pc := 222) ?_ wt_1371 (by decide +kernel) wt_68 dX11_init_222
  refine s_putfF (pc := 226) (ci := 10) (f := 36) (T := TX11) (ty0 := tyX11) ?_ ginX11 tyX11_ok nmX11 rfl (by decide) rfl rfl rfl rfl wt_1429 dX11_init_226
  refine s_aload_n (pc := 229) (i := 0) ?_ dX11_init_229 rfl
  refine s_bipush (pc := 230) (v := 8) ?_ dX11_init_230 (by decide)
  refine s_iconst (pc := 232) (v := 4) ?_ dX11_init_232 (by decide)
  refine s_mnew (pc := 233) ?_ wt_1371 (by decide +kernel) wt_68 dX11_init_233
  refine s_putfF (pc := 237) (ci := 10) (f := 37) (T := TX11) (ty0 := tyX11) ?_ ginX11 tyX11_ok nmX11 rfl (by decide) rfl rfl rfl rfl wt_1430 dX11_init_237
  refine s_aload_n (pc := 240) (i := 0) ?_ dX11_init_240 rfl
  refine s_iconst (pc := 241) (v := 3) ?_ dX11_init_241 (by decide)
  refine s_bipush (pc := 242) (v := 70) ?_ dX11_init_242 (by decide)
  refine s_mnew (pc := 244) ?_ wt_1371 (by decide +kernel) wt_68 dX11_init_244
  refine s_putfF (pc := 248) (ci := 10) (f := 38) (T := TX11) (ty0 := tyX11) ?_ ginX11 tyX11_ok nmX11 rfl (by decide) rfl rfl rfl rfl wt_1431 dX11_init_248
  refine s_aload_n (pc := 251) (i := 0) ?_ dX11_init_251 rfl
  refine s_bipush (pc := 252) (v := 36) ?_ dX11_init_252 (by decide)
  refine s_newarr (pc := 254) (t := 0) ?_ (by decide) rfl wt_68 dX11_init_254
  refine s_putfF (pc := 256) (ci := 10) (f := 39) (T := TX11) (ty0 := tyX11) ?_ ginX11 tyX11_ok nmX11 rfl (by decide) rfl rfl rfl rfl wt_1432 dX11_init_256
  refine s_aload_n (pc := 259) (i := 0) ?_ dX11_init_259 rfl
  refine s_iconst (pc := 260) (v := 4) ?_ dX11_init_260 (by decide)
  refine s_newarr (pc := 261) (t := 0) ?_ (by decide) rfl wt_68 dX11_init_261
  refine s_putfF (pc := 263) (ci := 10) (f := 40) (T := TX11) (ty0 := tyX11) ?_ ginX11 tyX11_ok nmX11 rfl (by decide) rfl rfl rfl rfl wt_1433 dX11_init_263
  refine s_aload_n (pc := 266) (i := 0) ?_ dX11_init_266 rfl
  refine s_iconst (pc := 267) (v := 5) ?_ dX11_init_267 (by decide)
  refine s_newarr (pc := 268) (t := 0) ?_ (by decide) rfl wt_68 dX11_init_268
  refine s_putfF (pc := 270) (ci := 10) (f := 41) (T := TX11) (ty0 := tyX11) ?_ ginX11 tyX11_ok nmX11 rfl (by decide) rfl rfl rfl rfl wt_1434 dX11_init_270
  refine s_aload_n (pc := 273) (i := 0) ?_ dX11_init_273 rfl
  refine s_bipush (pc := 274) (v := 100) ?_ dX11_init_274 (by decide)
  refine s_newarr (pc := 276) (t := 0) ?_ (by decide) rfl wt_68 dX11_init_276
  refine s_putfF (pc := 278) (ci := 10) (f := 43) (T := TX11) (ty0 := tyX11) ?_ ginX11 tyX11_ok nmX11 rfl (by decide) rfl rfl rfl rfl wt_1436 dX11_init_278
  refine s_aload_n (pc := 281) (i := 0) ?_ dX11_init_281 rfl
  refine s_sipush (pc := 282) (v := 20000) ?_ dX11_init_282 (by decide)
  refine s_newarr (pc := 285) (t := 0) ?_ (by decide) rfl wt_68 dX11_init_285
  refine s_putfF (pc := 287) (ci := 10) (f := 44) (T := TX11) (ty0 := tyX11) ?_ ginX11 tyX11_ok nmX11 rfl (by decide) rfl rfl rfl rfl wt_1437 dX11_init_287
  refine s_aload_n (pc := 290) (i := 0) ?_ dX11_init_290 rfl
  refine s_sipush (pc := 291) (v := 20000) ?_ dX11_init_291 (by decide)
  refine s_newarr (pc := 294) (t := 3) ?_ (by decide) rfl wt_1544 dX11_init_294
  refine s_putfF (pc := 296) (ci := 10) (f := 48) (T := TX11) (ty0 := tyX11) ?_ ginX11 tyX11_ok nmX11 rfl (by decide) rfl rfl rfl rfl wt_1441 dX11_init_296
  refine s_aload_n (pc := 299) (i := 0) ?_ dX11_init_299 rfl
  refine s_bipush (pc := 300) (v := 8) ?_ dX11_init_300 (by decide)
  refine s_newarr (pc := 302) (t := 0) ?_ (by decide) rfl wt_68 dX11_init_302
  refine s_putfF (pc := 304) (ci := 10) (f := 49) (T := TX11) (ty0 := tyX11) ?_ ginX11 tyX11_ok nmX11 rfl (by decide) rfl rfl rfl rfl wt_1442 dX11_init_304
  refine s_aload_n (pc := 307) (i := 0) ?_ dX11_init_307 rfl
  refine s_getf (pc := 308) (ci := 10) (f := 11) (T := TX11) ?_ ginX11 rfl (by decide) wt_1404 dX11_init_308
  refine s_bipush (pc := 311) (v := 6) ?_ dX11_init_311 (by decide)
  refine s_iconst (pc := 313) (v := 1) ?_ dX11_init_313 (by decide)
  refine s_iastore (pc := 314) ?_ dX11_init_314
  refine s_aload_n (pc := 315) (i := 0) ?_ dX11_init_315 rfl
  refine s_cv (pc := 316) (n := 0) (ci := 10) ?_ tX11_laysReadings rfl rfl wt_1373 wt_1375 wp_44 wt_17 wt_1376 ⟨crX11_laysReadings, by decide, by decide⟩ dX11_init_316
  exact s_return (pc := 319) rfl dX11_init_319
def kX11_init (g : GE) : KT := bX11_init_0 g (fun _ _ _ _ => none)
theorem sX11_init (g : GE) : Snd mX11_init g 0 (kX11_init g) := sbX11_init_0 g _
def fX11_init : FT := fun g av w => if (ent av).length ≤ 1 then kX11_init g [] (entp 1 av) w else none
theorem tX11_init : Mt yX11_init cX11_init 1 none 4 97 fX11_init := Mt.of (K := kX11_init) (by decide +kernel) (fun _ _ _ => rfl) sX11_init
theorem crX11_init : yX11_init.cls ≠ "java/lang/invoke/MethodHandle" ∧ yX11_init.cls ≠ "java/lang/invoke/VarHandle" ∧ (parseMethodDescriptor yX11_init.desc).map (fun d => d.parameters.length) = some 0 := by decide +kernel
theorem dX11_isKnown_0 : decode cX11_isKnown 0 = .ok (.bipush (-3), 2) := by decide +kernel
theorem dX11_isKnown_2 : decode cX11_isKnown 2 = .ok (.istore_n 2, 1) := by decide +kernel
theorem dX11_isKnown_3 : decode cX11_isKnown 3 = .ok (.iconst 0, 1) := by decide +kernel
theorem dX11_isKnown_4 : decode cX11_isKnown 4 = .ok (.istore_n 3, 1) := by decide +kernel
theorem dX11_isKnown_5 : decode cX11_isKnown 5 = .ok (.iload_n 3, 1) := by decide +kernel
theorem dX11_isKnown_6 : decode cX11_isKnown 6 = .ok (.aload_n 0, 1) := by decide +kernel
theorem dX11_isKnown_7 : decode cX11_isKnown 7 = .ok (.getfield 244, 3) := by decide +kernel
theorem dX11_isKnown_10 : decode cX11_isKnown 10 = .ok (.if_icmp .ge 46, 3) := by decide +kernel
theorem dX11_isKnown_13 : decode cX11_isKnown 13 = .ok (.aload_n 0, 1) := by decide +kernel
theorem dX11_isKnown_14 : decode cX11_isKnown 14 = .ok (.getfield 110, 3) := by decide +kernel
theorem dX11_isKnown_17 : decode cX11_isKnown 17 = .ok (.iload_n 3, 1) := by decide +kernel
theorem dX11_isKnown_18 : decode cX11_isKnown 18 = .ok (.baload, 1) := by decide +kernel
theorem dX11_isKnown_19 : decode cX11_isKnown 19 = .ok (.ifCond .ne 6, 3) := by decide +kernel
theorem dX11_isKnown_22 : decode cX11_isKnown 22 = .ok (.goto 28, 3) := by decide +kernel
theorem dX11_isKnown_25 : decode cX11_isKnown 25 = .ok (.iload_n 2, 1) := by decide +kernel
theorem dX11_isKnown_26 : decode cX11_isKnown 26 = .ok (.bipush (-3), 2) := by decide +kernel
theorem dX11_isKnown_28 : decode cX11_isKnown 28 = .ok (.if_icmp .eq 15, 3) := by decide +kernel
theorem dX11_isKnown_31 : decode cX11_isKnown 31 = .ok (.aload_n 0, 1) := by decide +kernel
theorem dX11_isKnown_32 : decode cX11_isKnown 32 = .ok (.iload_n 3, 1) := by decide +kernel
theorem dX11_isKnown_33 : decode cX11_isKnown 33 = .ok (.iload_n 1, 1) := by decide +kernel
theorem dX11_isKnown_34 : decode cX11_isKnown 34 = .ok (.invokevirtual 264, 3) := by decide +kernel
theorem dX11_isKnown_37 : decode cX11_isKnown 37 = .ok (.iload_n 2, 1) := by decide +kernel
theorem dX11_isKnown_38 : decode cX11_isKnown 38 = .ok (.if_icmp .eq 5, 3) := by decide +kernel
theorem dX11_isKnown_41 : decode cX11_isKnown 41 = .ok (.iconst 0, 1) := by decide +kernel
theorem dX11_isKnown_42 : decode cX11_isKnown 42 = .ok (.ireturn, 1) := by decide +kernel
theorem dX11_isKnown_43 : decode cX11_isKnown 43 = .ok (.aload_n 0, 1) := by decide +kernel
theorem dX11_isKnown_44 : decode cX11_isKnown 44 = .ok (.iload_n 3, 1) := by decide +kernel
theorem dX11_isKnown_45 : decode cX11_isKnown 45 = .ok (.iload_n 1, 1) := by decide +kernel
theorem dX11_isKnown_46 : decode cX11_isKnown 46 = .ok (.invokevirtual 264, 3) := by decide +kernel
theorem dX11_isKnown_49 : decode cX11_isKnown 49 = .ok (.istore_n 2, 1) := by decide +kernel
theorem dX11_isKnown_50 : decode cX11_isKnown 50 = .ok (.iinc 3 1, 3) := by decide +kernel
theorem dX11_isKnown_53 : decode cX11_isKnown 53 = .ok (.goto (-48), 3) := by decide +kernel
theorem dX11_isKnown_56 : decode cX11_isKnown 56 = .ok (.iconst 1, 1) := by decide +kernel
theorem dX11_isKnown_57 : decode cX11_isKnown 57 = .ok (.ireturn, 1) := by decide +kernel
abbrev mX11_isKnown : MD := (cX11_isKnown, "BlottedDeedModel", 4, 2, 52, (some .boolean), "isKnown", [])
def bX11_isKnown_0 (g : GE) (J : Nat → KT) : KT := i_push (.int (-3)) (i_istore 2 (i_push (.int 0) (i_istore 3 (i_jmp [true, true, true, true] (J 1)))))
def bX11_isKnown_1 (g : GE) (J : Nat → KT) : KT := i_iload 3 (i_aload 0 (i_getf 10 27 (i_icge (i_push (.int 1) (i_zreturn)) (i_aload 0 (i_getf 10 48 (i_iload 3 (i_zaload (i_ifne (i_iload 2 (i_push (.int (-3)) (i_iceq (i_jmp [true, true, false, true] (J 2)) (i_aload 0 (i_iload 3 (i_iload 1 (i_cv fX11_goesBy g 2 10 (i_iload 2 (i_iceq (i_jmp [true, true, false, true] (J 2)) (i_push (.int 0) (i_zreturn))))))))))) (i_jmp [true, true, true, true] (J 3))))))))))
def bX11_isKnown_2 (g : GE) (J : Nat → KT) : KT := i_aload 0 (i_iload 3 (i_iload 1 (i_cv fX11_goesBy g 2 10 (i_istore 2 (i_jmp [true, true, true, true] (J 3))))))
def bX11_isKnown_3 (g : GE) (J : Nat → KT) : KT := i_iinc 3 1 (i_jmp [true, true, true, true] (J 1))
theorem sbX11_isKnown_0 (g : GE) (J : Nat → KT) (h1 : Snd mX11_isKnown g 5 (J 1)) (h2 : Snd mX11_isKnown g 43 (J 2)) (h3 : Snd mX11_isKnown g 50 (J 3)) : Snd mX11_isKnown g 0 (bX11_isKnown_0 g J) := by
  unfold bX11_isKnown_0
  refine s_bipush (pc := 0) (v := (-3)) ?_ dX11_isKnown_0 (by decide)
  refine s_istore_n (pc := 2) (i := 2) ?_ dX11_isKnown_2 rfl (by decide)
  refine s_iconst (pc := 3) (v := 0) ?_ dX11_isKnown_3 (by decide)
  refine s_istore_n (pc := 4) (i := 3) ?_ dX11_isKnown_4 rfl (by decide)
  exact s_fall (pc := 5) h1
theorem sbX11_isKnown_1 (g : GE) (J : Nat → KT) (h1 : Snd mX11_isKnown g 5 (J 1)) (h2 : Snd mX11_isKnown g 43 (J 2)) (h3 : Snd mX11_isKnown g 50 (J 3)) : Snd mX11_isKnown g 5 (bX11_isKnown_1 g J) := by
  unfold bX11_isKnown_1
  refine s_iload_n (pc := 5) (i := 3) ?_ dX11_isKnown_5 rfl
  refine s_aload_n (pc := 6) (i := 0) ?_ dX11_isKnown_6 rfl
  refine s_getf (pc := 7) (ci := 10) (f := 27) (T := TX11) ?_ ginX11 rfl (by decide) wt_1420 dX11_isKnown_7
  refine s_icge (pc := 10) (tgt := 56) ?_ ?_ dX11_isKnown_10 (by decide)
  · skip
    refine s_iconst (pc := 56) (v := 1) ?_ dX11_isKnown_56 (by decide)
    exact s_zreturn (pc := 57) rfl dX11_isKnown_57
  · skip
    refine s_aload_n (pc := 13) (i := 0) ?_ dX11_isKnown_13 rfl
    refine s_getf (pc := 14) (ci := 10) (f := 48) (T := TX11) ?_ ginX11 rfl (by decide) wt_1441 dX11_isKnown_14
    refine s_iload_n (pc := 17) (i := 3) ?_ dX11_isKnown_17 rfl
    refine s_zaload (pc := 18) ?_ dX11_isKnown_18
    refine s_ifne (pc := 19) (tgt := 25) ?_ ?_ dX11_isKnown_19 (by decide)
    · skip
      refine s_iload_n (pc := 25) (i := 2) ?_ dX11_isKnown_25 rfl
      refine s_bipush (pc := 26) (v := (-3)) ?_ dX11_isKnown_26 (by decide)
      refine s_iceq (pc := 28) (tgt := 43) ?_ ?_ dX11_isKnown_28 (by decide)
      · skip
        exact s_fall (pc := 43) h2
      · skip
        refine s_aload_n (pc := 31) (i := 0) ?_ dX11_isKnown_31 rfl
        refine s_iload_n (pc := 32) (i := 3) ?_ dX11_isKnown_32 rfl
        refine s_iload_n (pc := 33) (i := 1) ?_ dX11_isKnown_33 rfl
        refine s_cv (pc := 34) (n := 2) (ci := 10) ?_ tX11_goesBy rfl rfl wt_1716 wt_1718 wp_75 wt_17 wt_1719 ⟨crX11_goesBy, by decide, by decide⟩ dX11_isKnown_34
        refine s_iload_n (pc := 37) (i := 2) ?_ dX11_isKnown_37 rfl
        refine s_iceq (pc := 38) (tgt := 43) ?_ ?_ dX11_isKnown_38 (by decide)
        · skip
          exact s_fall (pc := 43) h2
        · skip
          refine s_iconst (pc := 41) (v := 0) ?_ dX11_isKnown_41 (by decide)
          exact s_zreturn (pc := 42) rfl dX11_isKnown_42
    · skip
      exact s_goto (pc := 22) (tgt := 50) h3 dX11_isKnown_22 (by decide)
theorem sbX11_isKnown_2 (g : GE) (J : Nat → KT) (h1 : Snd mX11_isKnown g 5 (J 1)) (h2 : Snd mX11_isKnown g 43 (J 2)) (h3 : Snd mX11_isKnown g 50 (J 3)) : Snd mX11_isKnown g 43 (bX11_isKnown_2 g J) := by
  unfold bX11_isKnown_2
  refine s_aload_n (pc := 43) (i := 0) ?_ dX11_isKnown_43 rfl
  refine s_iload_n (pc := 44) (i := 3) ?_ dX11_isKnown_44 rfl
  refine s_iload_n (pc := 45) (i := 1) ?_ dX11_isKnown_45 rfl
  refine s_cv (pc := 46) (n := 2) (ci := 10) ?_ tX11_goesBy rfl rfl wt_1716 wt_1718 wp_75 wt_17 wt_1719 ⟨crX11_goesBy, by decide, by decide⟩ dX11_isKnown_46
  refine s_istore_n (pc := 49) (i := 2) ?_ dX11_isKnown_49 rfl (by decide)
  exact s_fall (pc := 50) h3
theorem sbX11_isKnown_3 (g : GE) (J : Nat → KT) (h1 : Snd mX11_isKnown g 5 (J 1)) (h2 : Snd mX11_isKnown g 43 (J 2)) (h3 : Snd mX11_isKnown g 50 (J 3)) : Snd mX11_isKnown g 50 (bX11_isKnown_3 g J) := by
  unfold bX11_isKnown_3
  refine s_iinc (pc := 50) (i := 3) (v := 1) ?_ dX11_isKnown_50 (by decide) (by decide)
  exact s_goto (pc := 53) (tgt := 5) h1 dX11_isKnown_53 (by decide)
def jX11_isKnown (g : GE) : Nat → Nat → KT
  | 0, _ => fun _ _ _ => none
  | n + 1, 0 => bX11_isKnown_0 g (jX11_isKnown g n)
  | n + 1, 1 => bX11_isKnown_1 g (jX11_isKnown g n)
  | n + 1, 2 => bX11_isKnown_2 g (jX11_isKnown g n)
  | n + 1, 3 => bX11_isKnown_3 g (jX11_isKnown g n)
  | _ + 1, _ + 4 => fun _ _ _ => none
theorem sjX11_isKnown (g : GE) : ∀ n, Snd mX11_isKnown g 0 (jX11_isKnown g n 0) ∧ Snd mX11_isKnown g 5 (jX11_isKnown g n 1) ∧ Snd mX11_isKnown g 43 (jX11_isKnown g n 2) ∧ Snd mX11_isKnown g 50 (jX11_isKnown g n 3)
  | 0 => ⟨s_none, s_none, s_none, s_none⟩
  | n + 1 => by
    obtain ⟨-, h1, h2, h3⟩ := sjX11_isKnown g n
    exact ⟨sbX11_isKnown_0 g _ h1 h2 h3, sbX11_isKnown_1 g _ h1 h2 h3, sbX11_isKnown_2 g _ h1 h2 h3, sbX11_isKnown_3 g _ h1 h2 h3⟩
def kX11_isKnown (g : GE) : KT := jX11_isKnown g g.1 0
theorem sX11_isKnown (g : GE) : Snd mX11_isKnown g 0 (kX11_isKnown g) := (sjX11_isKnown g g.1).1
def fX11_isKnown : FT := fun g av w => if (ent av).length ≤ 4 then kX11_isKnown g [] (entp 4 av) w else none
theorem tX11_isKnown : Mt yX11_isKnown cX11_isKnown 4 (some .boolean) 2 52 fX11_isKnown := Mt.of (K := kX11_isKnown) (by decide +kernel) (fun _ _ _ => rfl) sX11_isKnown
theorem crX11_isKnown : yX11_isKnown.cls ≠ "java/lang/invoke/MethodHandle" ∧ yX11_isKnown.cls ≠ "java/lang/invoke/VarHandle" ∧ (parseMethodDescriptor yX11_isKnown.desc).map (fun d => d.parameters.length) = some 1 := by decide +kernel
theorem dX11_stride_0 : decode cX11_stride 0 = .ok (.iconst 1, 1) := by decide +kernel
theorem dX11_stride_1 : decode cX11_stride 1 = .ok (.istore_n 2, 1) := by decide +kernel
theorem dX11_stride_2 : decode cX11_stride 2 = .ok (.aload_n 0, 1) := by decide +kernel
theorem dX11_stride_3 : decode cX11_stride 3 = .ok (.getfield 23, 3) := by decide +kernel
theorem dX11_stride_6 : decode cX11_stride 6 = .ok (.iconst 3, 1) := by decide +kernel
theorem dX11_stride_7 : decode cX11_stride 7 = .ok (.iaload, 1) := by decide +kernel
theorem dX11_stride_8 : decode cX11_stride 8 = .ok (.iconst 1, 1) := by decide +kernel
theorem dX11_stride_9 : decode cX11_stride 9 = .ok (.isub, 1) := by decide +kernel
theorem dX11_stride_10 : decode cX11_stride 10 = .ok (.istore_n 3, 1) := by decide +kernel
theorem dX11_stride_11 : decode cX11_stride 11 = .ok (.iload_n 3, 1) := by decide +kernel
theorem dX11_stride_12 : decode cX11_stride 12 = .ok (.iload_n 1, 1) := by decide +kernel
theorem dX11_stride_13 : decode cX11_stride 13 = .ok (.if_icmp .le 20, 3) := by decide +kernel
theorem dX11_stride_16 : decode cX11_stride 16 = .ok (.iload_n 2, 1) := by decide +kernel
theorem dX11_stride_17 : decode cX11_stride 17 = .ok (.aload_n 0, 1) := by decide +kernel
theorem dX11_stride_18 : decode cX11_stride 18 = .ok (.getfield 65, 3) := by decide +kernel
theorem dX11_stride_21 : decode cX11_stride 21 = .ok (.iload_n 3, 1) := by decide +kernel
theorem dX11_stride_22 : decode cX11_stride 22 = .ok (.aaload, 1) := by decide +kernel
theorem dX11_stride_23 : decode cX11_stride 23 = .ok (.iconst 2, 1) := by decide +kernel
theorem dX11_stride_24 : decode cX11_stride 24 = .ok (.iaload, 1) := by decide +kernel
theorem dX11_stride_25 : decode cX11_stride 25 = .ok (.imul, 1) := by decide +kernel
theorem dX11_stride_26 : decode cX11_stride 26 = .ok (.istore_n 2, 1) := by decide +kernel
theorem dX11_stride_27 : decode cX11_stride 27 = .ok (.iinc 3 (-1), 3) := by decide +kernel
theorem dX11_stride_30 : decode cX11_stride 30 = .ok (.goto (-19), 3) := by decide +kernel
theorem dX11_stride_33 : decode cX11_stride 33 = .ok (.iload_n 2, 1) := by decide +kernel
theorem dX11_stride_34 : decode cX11_stride 34 = .ok (.ireturn, 1) := by decide +kernel
abbrev mX11_stride : MD := (cX11_stride, "BlottedDeedModel", 4, 1, 30, (some .int), "stride", [])
def bX11_stride_0 (g : GE) (J : Nat → KT) : KT := i_push (.int 1) (i_istore 2 (i_aload 0 (i_getf 10 11 (i_push (.int 3) (i_iaload (i_push (.int 1) (i_isub (i_istore 3 (i_jmp [true, true, true, true] (J 1))))))))))
def bX11_stride_1 (g : GE) (J : Nat → KT) : KT := i_iload 3 (i_iload 1 (i_icle (i_iload 2 (i_ireturn)) (i_iload 2 (i_aload 0 (i_getf 10 24 (i_iload 3 (i_aaload 4 (i_push (.int 2) (i_iaload (i_imul (i_istore 2 (i_iinc 3 (-1) (i_jmp [true, true, true, true] (J 1))))))))))))))
theorem sbX11_stride_0 (g : GE) (J : Nat → KT) (h1 : Snd mX11_stride g 11 (J 1)) : Snd mX11_stride g 0 (bX11_stride_0 g J) := by
  unfold bX11_stride_0
  refine s_iconst (pc := 0) (v := 1) ?_ dX11_stride_0 (by decide)
  refine s_istore_n (pc := 1) (i := 2) ?_ dX11_stride_1 rfl (by decide)
  refine s_aload_n (pc := 2) (i := 0) ?_ dX11_stride_2 rfl
  refine s_getf (pc := 3) (ci := 10) (f := 11) (T := TX11) ?_ ginX11 rfl (by decide) wt_1404 dX11_stride_3
  refine s_iconst (pc := 6) (v := 3) ?_ dX11_stride_6 (by decide)
  refine s_iaload (pc := 7) ?_ dX11_stride_7
  refine s_iconst (pc := 8) (v := 1) ?_ dX11_stride_8 (by decide)
  refine s_isub (pc := 9) ?_ dX11_stride_9
  refine s_istore_n (pc := 10) (i := 3) ?_ dX11_stride_10 rfl (by decide)
  exact s_fall (pc := 11) h1
theorem sbX11_stride_1 (g : GE) (J : Nat → KT) (h1 : Snd mX11_stride g 11 (J 1)) : Snd mX11_stride g 11 (bX11_stride_1 g J) := by
  unfold bX11_stride_1
  refine s_iload_n (pc := 11) (i := 3) ?_ dX11_stride_11 rfl
  refine s_iload_n (pc := 12) (i := 1) ?_ dX11_stride_12 rfl
  refine s_icle (pc := 13) (tgt := 33) ?_ ?_ dX11_stride_13 (by decide)
  · skip
    refine s_iload_n (pc := 33) (i := 2) ?_ dX11_stride_33 rfl
    exact s_ireturn (pc := 34) rfl dX11_stride_34
  · skip
    refine s_iload_n (pc := 16) (i := 2) ?_ dX11_stride_16 rfl
    refine s_aload_n (pc := 17) (i := 0) ?_ dX11_stride_17 rfl
    refine s_getf (pc := 18) (ci := 10) (f := 24) (T := TX11) ?_ ginX11 rfl (by decide) wt_1417 dX11_stride_18
    refine s_iload_n (pc := 21) (i := 3) ?_ dX11_stride_21 rfl
    refine s_aaload (pc := 22) (t := 4) ?_ (by decide) rfl dX11_stride_22
    refine s_iconst (pc := 23) (v := 2) ?_ dX11_stride_23 (by decide)
    refine s_iaload (pc := 24) ?_ dX11_stride_24
    refine s_imul (pc := 25) ?_ dX11_stride_25
    refine s_istore_n (pc := 26) (i := 2) ?_ dX11_stride_26 rfl (by decide)
    refine s_iinc (pc := 27) (i := 3) (v := (-1)) ?_ dX11_stride_27 (by decide) (by decide)
    exact s_goto (pc := 30) (tgt := 11) h1 dX11_stride_30 (by decide)
def jX11_stride (g : GE) : Nat → Nat → KT
  | 0, _ => fun _ _ _ => none
  | n + 1, 0 => bX11_stride_0 g (jX11_stride g n)
  | n + 1, 1 => bX11_stride_1 g (jX11_stride g n)
  | _ + 1, _ + 2 => fun _ _ _ => none
theorem sjX11_stride (g : GE) : ∀ n, Snd mX11_stride g 0 (jX11_stride g n 0) ∧ Snd mX11_stride g 11 (jX11_stride g n 1)
  | 0 => ⟨s_none, s_none⟩
  | n + 1 => by
    obtain ⟨-, h1⟩ := sjX11_stride g n
    exact ⟨sbX11_stride_0 g _ h1, sbX11_stride_1 g _ h1⟩
def kX11_stride (g : GE) : KT := jX11_stride g g.1 0
theorem sX11_stride (g : GE) : Snd mX11_stride g 0 (kX11_stride g) := (sjX11_stride g g.1).1
def fX11_stride : FT := fun g av w => if (ent av).length ≤ 4 then kX11_stride g [] (entp 4 av) w else none
theorem tX11_stride : Mt yX11_stride cX11_stride 4 (some .int) 1 30 fX11_stride := Mt.of (K := kX11_stride) (by decide +kernel) (fun _ _ _ => rfl) sX11_stride
theorem crX11_stride : yX11_stride.cls ≠ "java/lang/invoke/MethodHandle" ∧ yX11_stride.cls ≠ "java/lang/invoke/VarHandle" ∧ (parseMethodDescriptor yX11_stride.desc).map (fun d => d.parameters.length) = some 1 := by decide +kernel
theorem dX11_isSwayed_0 : decode cX11_isSwayed 0 = .ok (.aload_n 0, 1) := by decide +kernel
theorem dX11_isSwayed_1 : decode cX11_isSwayed 1 = .ok (.getfield 74, 3) := by decide +kernel
theorem dX11_isSwayed_4 : decode cX11_isSwayed 4 = .ok (.iload_n 1, 1) := by decide +kernel
theorem dX11_isSwayed_5 : decode cX11_isSwayed 5 = .ok (.iaload, 1) := by decide +kernel
theorem dX11_isSwayed_6 : decode cX11_isSwayed 6 = .ok (.aload_n 0, 1) := by decide +kernel
theorem dX11_isSwayed_7 : decode cX11_isSwayed 7 = .ok (.aload_n 0, 1) := by decide +kernel
theorem dX11_isSwayed_8 : decode cX11_isSwayed 8 = .ok (.getfield 74, 3) := by decide +kernel
theorem dX11_isSwayed_11 : decode cX11_isSwayed 11 = .ok (.iload_n 1, 1) := by decide +kernel
theorem dX11_isSwayed_12 : decode cX11_isSwayed 12 = .ok (.iaload, 1) := by decide +kernel
theorem dX11_isSwayed_13 : decode cX11_isSwayed 13 = .ok (.iload_n 3, 1) := by decide +kernel
theorem dX11_isSwayed_14 : decode cX11_isSwayed 14 = .ok (.invokevirtual 256, 3) := by decide +kernel
theorem dX11_isSwayed_17 : decode cX11_isSwayed 17 = .ok (.aload_n 0, 1) := by decide +kernel
theorem dX11_isSwayed_18 : decode cX11_isSwayed 18 = .ok (.iload_n 3, 1) := by decide +kernel
theorem dX11_isSwayed_19 : decode cX11_isSwayed 19 = .ok (.invokevirtual 301, 3) := by decide +kernel
theorem dX11_isSwayed_22 : decode cX11_isSwayed 22 = .ok (.imul, 1) := by decide +kernel
theorem dX11_isSwayed_23 : decode cX11_isSwayed 23 = .ok (.isub, 1) := by decide +kernel
theorem dX11_isSwayed_24 : decode cX11_isSwayed 24 = .ok (.istore 4, 2) := by decide +kernel
theorem dX11_isSwayed_26 : decode cX11_isSwayed 26 = .ok (.iconst 0, 1) := by decide +kernel
theorem dX11_isSwayed_27 : decode cX11_isSwayed 27 = .ok (.istore 5, 2) := by decide +kernel
theorem dX11_isSwayed_29 : decode cX11_isSwayed 29 = .ok (.iload 5, 2) := by decide +kernel
theorem dX11_isSwayed_31 : decode cX11_isSwayed 31 = .ok (.aload_n 0, 1) := by decide +kernel
theorem dX11_isSwayed_32 : decode cX11_isSwayed 32 = .ok (.getfield 65, 3) := by decide +kernel
theorem dX11_isSwayed_35 : decode cX11_isSwayed 35 = .ok (.iload_n 3, 1) := by decide +kernel
theorem dX11_isSwayed_36 : decode cX11_isSwayed 36 = .ok (.aaload, 1) := by decide +kernel
theorem dX11_isSwayed_37 : decode cX11_isSwayed 37 = .ok (.iconst 2, 1) := by decide +kernel
theorem dX11_isSwayed_38 : decode cX11_isSwayed 38 = .ok (.iaload, 1) := by decide +kernel
theorem dX11_isSwayed_39 : decode cX11_isSwayed 39 = .ok (.if_icmp .ge 51, 3) := by decide +kernel
theorem dX11_isSwayed_42 : decode cX11_isSwayed 42 = .ok (.aload_n 0, 1) := by decide +kernel
theorem dX11_isSwayed_43 : decode cX11_isSwayed 43 = .ok (.getfield 77, 3) := by decide +kernel
theorem dX11_isSwayed_46 : decode cX11_isSwayed 46 = .ok (.iload 4, 2) := by decide +kernel
theorem dX11_isSwayed_48 : decode cX11_isSwayed 48 = .ok (.iload 5, 2) := by decide +kernel
theorem dX11_isSwayed_50 : decode cX11_isSwayed 50 = .ok (.aload_n 0, 1) := by decide +kernel
theorem dX11_isSwayed_51 : decode cX11_isSwayed 51 = .ok (.iload_n 3, 1) := by decide +kernel
theorem dX11_isSwayed_52 : decode cX11_isSwayed 52 = .ok (.invokevirtual 301, 3) := by decide +kernel
theorem dX11_isSwayed_55 : decode cX11_isSwayed 55 = .ok (.imul, 1) := by decide +kernel
theorem dX11_isSwayed_56 : decode cX11_isSwayed 56 = .ok (.iadd, 1) := by decide +kernel
theorem dX11_isSwayed_57 : decode cX11_isSwayed 57 = .ok (.iaload, 1) := by decide +kernel
theorem dX11_isSwayed_58 : decode cX11_isSwayed 58 = .ok (.istore 6, 2) := by decide +kernel
theorem dX11_isSwayed_60 : decode cX11_isSwayed 60 = .ok (.iload 6, 2) := by decide +kernel
theorem dX11_isSwayed_62 : decode cX11_isSwayed 62 = .ok (.iconst (-1), 1) := by decide +kernel
theorem dX11_isSwayed_63 : decode cX11_isSwayed 63 = .ok (.if_icmp .eq 21, 3) := by decide +kernel
theorem dX11_isSwayed_66 : decode cX11_isSwayed 66 = .ok (.aload_n 0, 1) := by decide +kernel
theorem dX11_isSwayed_67 : decode cX11_isSwayed 67 = .ok (.iload 6, 2) := by decide +kernel
theorem dX11_isSwayed_69 : decode cX11_isSwayed 69 = .ok (.iload_n 2, 1) := by decide +kernel
theorem dX11_isSwayed_70 : decode cX11_isSwayed 70 = .ok (.invokevirtual 264, 3) := by decide +kernel
theorem dX11_isSwayed_73 : decode cX11_isSwayed 73 = .ok (.aload_n 0, 1) := by decide +kernel
theorem dX11_isSwayed_74 : decode cX11_isSwayed 74 = .ok (.iload_n 1, 1) := by decide +kernel
theorem dX11_isSwayed_75 : decode cX11_isSwayed 75 = .ok (.iload_n 2, 1) := by decide +kernel
theorem dX11_isSwayed_76 : decode cX11_isSwayed 76 = .ok (.invokevirtual 264, 3) := by decide +kernel
theorem dX11_isSwayed_79 : decode cX11_isSwayed 79 = .ok (.if_icmp .eq 5, 3) := by decide +kernel
theorem dX11_isSwayed_82 : decode cX11_isSwayed 82 = .ok (.iconst 1, 1) := by decide +kernel
theorem dX11_isSwayed_83 : decode cX11_isSwayed 83 = .ok (.ireturn, 1) := by decide +kernel
theorem dX11_isSwayed_84 : decode cX11_isSwayed 84 = .ok (.iinc 5 1, 3) := by decide +kernel
theorem dX11_isSwayed_87 : decode cX11_isSwayed 87 = .ok (.goto (-58), 3) := by decide +kernel
theorem dX11_isSwayed_90 : decode cX11_isSwayed 90 = .ok (.iconst 0, 1) := by decide +kernel
theorem dX11_isSwayed_91 : decode cX11_isSwayed 91 = .ok (.ireturn, 1) := by decide +kernel
abbrev mX11_isSwayed : MD := (cX11_isSwayed, "BlottedDeedModel", 7, 2, 54, (some .boolean), "isSwayed", [])
def bX11_isSwayed_0 (g : GE) (J : Nat → KT) : KT := i_aload 0 (i_getf 10 28 (i_iload 1 (i_iaload (i_aload 0 (i_aload 0 (i_getf 10 28 (i_iload 1 (i_iaload (i_iload 3 (i_cv fX11_digit g 2 10 (i_aload 0 (i_iload 3 (i_cv fX11_stride g 1 10 (i_imul (i_isub (i_istore 4 (i_push (.int 0) (i_istore 5 (i_jmp [true, true, true, true, true, true, false] (J 1))))))))))))))))))))
def bX11_isSwayed_1 (g : GE) (J : Nat → KT) : KT := i_iload 5 (i_aload 0 (i_getf 10 24 (i_iload 3 (i_aaload 4 (i_push (.int 2) (i_iaload (i_icge (i_push (.int 0) (i_zreturn)) (i_aload 0 (i_getf 10 29 (i_iload 4 (i_iload 5 (i_aload 0 (i_iload 3 (i_cv fX11_stride g 1 10 (i_imul (i_iadd (i_iaload (i_istore 6 (i_iload 6 (i_push (.int (-1)) (i_iceq (i_jmp [true, true, true, true, true, true, false] (J 2)) (i_aload 0 (i_iload 6 (i_iload 2 (i_cv fX11_goesBy g 2 10 (i_aload 0 (i_iload 1 (i_iload 2 (i_cv fX11_goesBy g 2 10 (i_iceq (i_jmp [true, true, true, true, true, true, false] (J 2)) (i_push (.int 1) (i_zreturn))))))))))))))))))))))))))))))))
def bX11_isSwayed_2 (g : GE) (J : Nat → KT) : KT := i_iinc 5 1 (i_jmp [true, true, true, true, true, true, false] (J 1))
theorem sbX11_isSwayed_0 (g : GE) (J : Nat → KT) (h1 : Snd mX11_isSwayed g 29 (J 1)) (h2 : Snd mX11_isSwayed g 84 (J 2)) : Snd mX11_isSwayed g 0 (bX11_isSwayed_0 g J) := by
  unfold bX11_isSwayed_0
  refine s_aload_n (pc := 0) (i := 0) ?_ dX11_isSwayed_0 rfl
  refine s_getf (pc := 1) (ci := 10) (f := 28) (T := TX11) ?_ ginX11 rfl (by decide) wt_1421 dX11_isSwayed_1
  refine s_iload_n (pc := 4) (i := 1) ?_ dX11_isSwayed_4 rfl
  refine s_iaload (pc := 5) ?_ dX11_isSwayed_5
  refine s_aload_n (pc := 6) (i := 0) ?_ dX11_isSwayed_6 rfl
  refine s_aload_n (pc := 7) (i := 0) ?_ dX11_isSwayed_7 rfl
  refine s_getf (pc := 8) (ci := 10) (f := 28) (T := TX11) ?_ ginX11 rfl (by decide) wt_1421 dX11_isSwayed_8
  refine s_iload_n (pc := 11) (i := 1) ?_ dX11_isSwayed_11 rfl
  refine s_iaload (pc := 12) ?_ dX11_isSwayed_12
  refine s_iload_n (pc := 13) (i := 3) ?_ dX11_isSwayed_13 rfl
  refine s_cv (pc := 14) (n := 2) (ci := 10) ?_ tX11_digit rfl rfl wt_1679 wt_1681 wp_70 wt_17 wt_1682 ⟨crX11_digit, by decide, by decide⟩ dX11_isSwayed_14
  refine s_aload_n (pc := 17) (i := 0) ?_ dX11_isSwayed_17 rfl
  refine s_iload_n (pc := 18) (i := 3) ?_ dX11_isSwayed_18 rfl
  refine s_cv (pc := 19) (n := 1) (ci := 10) ?_ tX11_stride rfl rfl wt_1783 wt_1785 wp_82 wt_17 wt_1786 ⟨crX11_stride, by decide, by decide⟩ dX11_isSwayed_19
  refine s_imul (pc := 22) ?_ dX11_isSwayed_22
  refine s_isub (pc := 23) ?_ dX11_isSwayed_23
  refine s_istore (pc := 24) (i := 4) ?_ dX11_isSwayed_24 (by decide)
  refine s_iconst (pc := 26) (v := 0) ?_ dX11_isSwayed_26 (by decide)
  refine s_istore (pc := 27) (i := 5) ?_ dX11_isSwayed_27 (by decide)
  exact s_fall (pc := 29) h1
theorem sbX11_isSwayed_1 (g : GE) (J : Nat → KT) (h1 : Snd mX11_isSwayed g 29 (J 1)) (h2 : Snd mX11_isSwayed g 84 (J 2)) : Snd mX11_isSwayed g 29 (bX11_isSwayed_1 g J) := by
  unfold bX11_isSwayed_1
  refine s_iload (pc := 29) (i := 5) ?_ dX11_isSwayed_29
  refine s_aload_n (pc := 31) (i := 0) ?_ dX11_isSwayed_31 rfl
  refine s_getf (pc := 32) (ci := 10) (f := 24) (T := TX11) ?_ ginX11 rfl (by decide) wt_1417 dX11_isSwayed_32
  refine s_iload_n (pc := 35) (i := 3) ?_ dX11_isSwayed_35 rfl
  refine s_aaload (pc := 36) (t := 4) ?_ (by decide) rfl dX11_isSwayed_36
  refine s_iconst (pc := 37) (v := 2) ?_ dX11_isSwayed_37 (by decide)
  refine s_iaload (pc := 38) ?_ dX11_isSwayed_38
  refine s_icge (pc := 39) (tgt := 90) ?_ ?_ dX11_isSwayed_39 (by decide)
  · skip
    refine s_iconst (pc := 90) (v := 0) ?_ dX11_isSwayed_90 (by decide)
    exact s_zreturn (pc := 91) rfl dX11_isSwayed_91
  · skip
    refine s_aload_n (pc := 42) (i := 0) ?_ dX11_isSwayed_42 rfl
    refine s_getf (pc := 43) (ci := 10) (f := 29) (T := TX11) ?_ ginX11 rfl (by decide) wt_1422 dX11_isSwayed_43
    refine s_iload (pc := 46) (i := 4) ?_ dX11_isSwayed_46
    refine s_iload (pc := 48) (i := 5) ?_ dX11_isSwayed_48
    refine s_aload_n (pc := 50) (i := 0) ?_ dX11_isSwayed_50 rfl
    refine s_iload_n (pc := 51) (i := 3) ?_ dX11_isSwayed_51 rfl
    refine s_cv (pc := 52) (n := 1) (ci := 10) ?_ tX11_stride rfl rfl wt_1783 wt_1785 wp_82 wt_17 wt_1786 ⟨crX11_stride, by decide, by decide⟩ dX11_isSwayed_52
    refine s_imul (pc := 55) ?_ dX11_isSwayed_55
    refine s_iadd (pc := 56) ?_ dX11_isSwayed_56
    refine s_iaload (pc := 57) ?_ dX11_isSwayed_57
    refine s_istore (pc := 58) (i := 6) ?_ dX11_isSwayed_58 (by decide)
    refine s_iload (pc := 60) (i := 6) ?_ dX11_isSwayed_60
    refine s_iconst (pc := 62) (v := (-1)) ?_ dX11_isSwayed_62 (by decide)
    refine s_iceq (pc := 63) (tgt := 84) ?_ ?_ dX11_isSwayed_63 (by decide)
    · skip
      exact s_fall (pc := 84) h2
    · skip
      refine s_aload_n (pc := 66) (i := 0) ?_ dX11_isSwayed_66 rfl
      refine s_iload (pc := 67) (i := 6) ?_ dX11_isSwayed_67
      refine s_iload_n (pc := 69) (i := 2) ?_ dX11_isSwayed_69 rfl
      refine s_cv (pc := 70) (n := 2) (ci := 10) ?_ tX11_goesBy rfl rfl wt_1716 wt_1718 wp_75 wt_17 wt_1719 ⟨crX11_goesBy, by decide, by decide⟩ dX11_isSwayed_70
      refine s_aload_n (pc := 73) (i := 0) ?_ dX11_isSwayed_73 rfl
      refine s_iload_n (pc := 74) (i := 1) ?_ dX11_isSwayed_74 rfl
      refine s_iload_n (pc := 75) (i := 2) ?_ dX11_isSwayed_75 rfl
      refine s_cv (pc := 76) (n := 2) (ci := 10) ?_ tX11_goesBy rfl rfl wt_1716 wt_1718 wp_75 wt_17 wt_1719 ⟨crX11_goesBy, by decide, by decide⟩ dX11_isSwayed_76
      refine s_iceq (pc := 79) (tgt := 84) ?_ ?_ dX11_isSwayed_79 (by decide)
      · skip
        exact s_fall (pc := 84) h2
      · skip
        refine s_iconst (pc := 82) (v := 1) ?_ dX11_isSwayed_82 (by decide)
        exact s_zreturn (pc := 83) rfl dX11_isSwayed_83
theorem sbX11_isSwayed_2 (g : GE) (J : Nat → KT) (h1 : Snd mX11_isSwayed g 29 (J 1)) (h2 : Snd mX11_isSwayed g 84 (J 2)) : Snd mX11_isSwayed g 84 (bX11_isSwayed_2 g J) := by
  unfold bX11_isSwayed_2
  refine s_iinc (pc := 84) (i := 5) (v := 1) ?_ dX11_isSwayed_84 (by decide) (by decide)
  exact s_goto (pc := 87) (tgt := 29) h1 dX11_isSwayed_87 (by decide)
def jX11_isSwayed (g : GE) : Nat → Nat → KT
  | 0, _ => fun _ _ _ => none
  | n + 1, 0 => bX11_isSwayed_0 g (jX11_isSwayed g n)
  | n + 1, 1 => bX11_isSwayed_1 g (jX11_isSwayed g n)
  | n + 1, 2 => bX11_isSwayed_2 g (jX11_isSwayed g n)
  | _ + 1, _ + 3 => fun _ _ _ => none
theorem sjX11_isSwayed (g : GE) : ∀ n, Snd mX11_isSwayed g 0 (jX11_isSwayed g n 0) ∧ Snd mX11_isSwayed g 29 (jX11_isSwayed g n 1) ∧ Snd mX11_isSwayed g 84 (jX11_isSwayed g n 2)
  | 0 => ⟨s_none, s_none, s_none⟩
  | n + 1 => by
    obtain ⟨-, h1, h2⟩ := sjX11_isSwayed g n
    exact ⟨sbX11_isSwayed_0 g _ h1 h2, sbX11_isSwayed_1 g _ h1 h2, sbX11_isSwayed_2 g _ h1 h2⟩
def kX11_isSwayed (g : GE) : KT := jX11_isSwayed g g.1 0
theorem sX11_isSwayed (g : GE) : Snd mX11_isSwayed g 0 (kX11_isSwayed g) := (sjX11_isSwayed g g.1).1
def fX11_isSwayed : FT := fun g av w => if (ent av).length ≤ 7 then kX11_isSwayed g [] (entp 7 av) w else none
theorem tX11_isSwayed : Mt yX11_isSwayed cX11_isSwayed 7 (some .boolean) 2 54 fX11_isSwayed := Mt.of (K := kX11_isSwayed) (by decide +kernel) (fun _ _ _ => rfl) sX11_isSwayed
theorem crX11_isSwayed : yX11_isSwayed.cls ≠ "java/lang/invoke/MethodHandle" ∧ yX11_isSwayed.cls ≠ "java/lang/invoke/VarHandle" ∧ (parseMethodDescriptor yX11_isSwayed.desc).map (fun d => d.parameters.length) = some 3 := by decide +kernel
theorem dX11_shows_0 : decode cX11_shows 0 = .ok (.aload_n 0, 1) := by decide +kernel
theorem dX11_shows_1 : decode cX11_shows 1 = .ok (.getfield 71, 3) := by decide +kernel
theorem dX11_shows_4 : decode cX11_shows 4 = .ok (.iload_n 2, 1) := by decide +kernel
theorem dX11_shows_5 : decode cX11_shows 5 = .ok (.aaload, 1) := by decide +kernel
theorem dX11_shows_6 : decode cX11_shows 6 = .ok (.aload_n 0, 1) := by decide +kernel
theorem dX11_shows_7 : decode cX11_shows 7 = .ok (.aload_n 0, 1) := by decide +kernel
theorem dX11_shows_8 : decode cX11_shows 8 = .ok (.getfield 74, 3) := by decide +kernel
theorem dX11_shows_11 : decode cX11_shows 11 = .ok (.iload_n 1, 1) := by decide +kernel
theorem dX11_shows_12 : decode cX11_shows 12 = .ok (.iaload, 1) := by decide +kernel
theorem dX11_shows_13 : decode cX11_shows 13 = .ok (.iload_n 2, 1) := by decide +kernel
theorem dX11_shows_14 : decode cX11_shows 14 = .ok (.invokevirtual 256, 3) := by decide +kernel
theorem dX11_shows_17 : decode cX11_shows 17 = .ok (.iaload, 1) := by decide +kernel
theorem dX11_shows_18 : decode cX11_shows 18 = .ok (.ireturn, 1) := by decide +kernel
abbrev mX11_shows : MD := (cX11_shows, "BlottedDeedModel", 3, 2, 54, (some .int), "shows", [])
def bX11_shows_0 (g : GE) (J : Nat → KT) : KT := i_aload 0 (i_getf 10 26 (i_iload 2 (i_aaload 4 (i_aload 0 (i_aload 0 (i_getf 10 28 (i_iload 1 (i_iaload (i_iload 2 (i_cv fX11_digit g 2 10 (i_iaload (i_ireturn))))))))))))
theorem sbX11_shows_0 (g : GE) (J : Nat → KT)  : Snd mX11_shows g 0 (bX11_shows_0 g J) := by
  unfold bX11_shows_0
  refine s_aload_n (pc := 0) (i := 0) ?_ dX11_shows_0 rfl
  refine s_getf (pc := 1) (ci := 10) (f := 26) (T := TX11) ?_ ginX11 rfl (by decide) wt_1419 dX11_shows_1
  refine s_iload_n (pc := 4) (i := 2) ?_ dX11_shows_4 rfl
  refine s_aaload (pc := 5) (t := 4) ?_ (by decide) rfl dX11_shows_5
  refine s_aload_n (pc := 6) (i := 0) ?_ dX11_shows_6 rfl
  refine s_aload_n (pc := 7) (i := 0) ?_ dX11_shows_7 rfl
  refine s_getf (pc := 8) (ci := 10) (f := 28) (T := TX11) ?_ ginX11 rfl (by decide) wt_1421 dX11_shows_8
  refine s_iload_n (pc := 11) (i := 1) ?_ dX11_shows_11 rfl
  refine s_iaload (pc := 12) ?_ dX11_shows_12
  refine s_iload_n (pc := 13) (i := 2) ?_ dX11_shows_13 rfl
  refine s_cv (pc := 14) (n := 2) (ci := 10) ?_ tX11_digit rfl rfl wt_1679 wt_1681 wp_70 wt_17 wt_1682 ⟨crX11_digit, by decide, by decide⟩ dX11_shows_14
  refine s_iaload (pc := 17) ?_ dX11_shows_17
  exact s_ireturn (pc := 18) rfl dX11_shows_18
def kX11_shows (g : GE) : KT := bX11_shows_0 g (fun _ _ _ _ => none)
theorem sX11_shows (g : GE) : Snd mX11_shows g 0 (kX11_shows g) := sbX11_shows_0 g _
def fX11_shows : FT := fun g av w => if (ent av).length ≤ 3 then kX11_shows g [] (entp 3 av) w else none
theorem tX11_shows : Mt yX11_shows cX11_shows 3 (some .int) 2 54 fX11_shows := Mt.of (K := kX11_shows) (by decide +kernel) (fun _ _ _ => rfl) sX11_shows
theorem crX11_shows : yX11_shows.cls ≠ "java/lang/invoke/MethodHandle" ∧ yX11_shows.cls ≠ "java/lang/invoke/VarHandle" ∧ (parseMethodDescriptor yX11_shows.desc).map (fun d => d.parameters.length) = some 2 := by decide +kernel
theorem dX11_oddsOf_0 : decode cX11_oddsOf 0 = .ok (.iconst (-1), 1) := by decide +kernel
theorem dX11_oddsOf_1 : decode cX11_oddsOf 1 = .ok (.istore_n 3, 1) := by decide +kernel
theorem dX11_oddsOf_2 : decode cX11_oddsOf 2 = .ok (.iconst 0, 1) := by decide +kernel
theorem dX11_oddsOf_3 : decode cX11_oddsOf 3 = .ok (.istore 4, 2) := by decide +kernel
theorem dX11_oddsOf_5 : decode cX11_oddsOf 5 = .ok (.iconst 0, 1) := by decide +kernel
theorem dX11_oddsOf_6 : decode cX11_oddsOf 6 = .ok (.istore 5, 2) := by decide +kernel
theorem dX11_oddsOf_8 : decode cX11_oddsOf 8 = .ok (.iload 5, 2) := by decide +kernel
theorem dX11_oddsOf_10 : decode cX11_oddsOf 10 = .ok (.aload_n 0, 1) := by decide +kernel
theorem dX11_oddsOf_11 : decode cX11_oddsOf 11 = .ok (.getfield 228, 3) := by decide +kernel
theorem dX11_oddsOf_14 : decode cX11_oddsOf 14 = .ok (.if_icmp .ge 84, 3) := by decide +kernel
theorem dX11_oddsOf_17 : decode cX11_oddsOf 17 = .ok (.aload_n 0, 1) := by decide +kernel
theorem dX11_oddsOf_18 : decode cX11_oddsOf 18 = .ok (.getfield 65, 3) := by decide +kernel
theorem dX11_oddsOf_21 : decode cX11_oddsOf 21 = .ok (.aload_n 0, 1) := by decide +kernel
theorem dX11_oddsOf_22 : decode cX11_oddsOf 22 = .ok (.getfield 86, 3) := by decide +kernel
theorem dX11_oddsOf_25 : decode cX11_oddsOf 25 = .ok (.iload_n 1, 1) := by decide +kernel
theorem dX11_oddsOf_26 : decode cX11_oddsOf 26 = .ok (.aaload, 1) := by decide +kernel
theorem dX11_oddsOf_27 : decode cX11_oddsOf 27 = .ok (.iconst 1, 1) := by decide +kernel
theorem dX11_oddsOf_28 : decode cX11_oddsOf 28 = .ok (.iaload, 1) := by decide +kernel
theorem dX11_oddsOf_29 : decode cX11_oddsOf 29 = .ok (.aaload, 1) := by decide +kernel
theorem dX11_oddsOf_30 : decode cX11_oddsOf 30 = .ok (.iconst 0, 1) := by decide +kernel
theorem dX11_oddsOf_31 : decode cX11_oddsOf 31 = .ok (.iaload, 1) := by decide +kernel
theorem dX11_oddsOf_32 : decode cX11_oddsOf 32 = .ok (.ifCond .ne 66, 3) := by decide +kernel
theorem dX11_oddsOf_35 : decode cX11_oddsOf 35 = .ok (.aload_n 0, 1) := by decide +kernel
theorem dX11_oddsOf_36 : decode cX11_oddsOf 36 = .ok (.getfield 89, 3) := by decide +kernel
theorem dX11_oddsOf_39 : decode cX11_oddsOf 39 = .ok (.iload 5, 2) := by decide +kernel
theorem dX11_oddsOf_41 : decode cX11_oddsOf 41 = .ok (.aaload, 1) := by decide +kernel
theorem dX11_oddsOf_42 : decode cX11_oddsOf 42 = .ok (.iconst 0, 1) := by decide +kernel
theorem dX11_oddsOf_43 : decode cX11_oddsOf 43 = .ok (.iaload, 1) := by decide +kernel
theorem dX11_oddsOf_44 : decode cX11_oddsOf 44 = .ok (.aload_n 0, 1) := by decide +kernel
theorem dX11_oddsOf_45 : decode cX11_oddsOf 45 = .ok (.getfield 86, 3) := by decide +kernel
theorem dX11_oddsOf_48 : decode cX11_oddsOf 48 = .ok (.iload_n 1, 1) := by decide +kernel
theorem dX11_oddsOf_49 : decode cX11_oddsOf 49 = .ok (.aaload, 1) := by decide +kernel
theorem dX11_oddsOf_50 : decode cX11_oddsOf 50 = .ok (.iconst 0, 1) := by decide +kernel
theorem dX11_oddsOf_51 : decode cX11_oddsOf 51 = .ok (.iaload, 1) := by decide +kernel
theorem dX11_oddsOf_52 : decode cX11_oddsOf 52 = .ok (.if_icmp .ne 40, 3) := by decide +kernel
theorem dX11_oddsOf_55 : decode cX11_oddsOf 55 = .ok (.aload_n 0, 1) := by decide +kernel
theorem dX11_oddsOf_56 : decode cX11_oddsOf 56 = .ok (.getfield 89, 3) := by decide +kernel
theorem dX11_oddsOf_59 : decode cX11_oddsOf 59 = .ok (.iload 5, 2) := by decide +kernel
theorem dX11_oddsOf_61 : decode cX11_oddsOf 61 = .ok (.aaload, 1) := by decide +kernel
theorem dX11_oddsOf_62 : decode cX11_oddsOf 62 = .ok (.iconst 2, 1) := by decide +kernel
theorem dX11_oddsOf_63 : decode cX11_oddsOf 63 = .ok (.iaload, 1) := by decide +kernel
theorem dX11_oddsOf_64 : decode cX11_oddsOf 64 = .ok (.iload_n 2, 1) := by decide +kernel
theorem dX11_oddsOf_65 : decode cX11_oddsOf 65 = .ok (.if_icmp .eq 6, 3) := by decide +kernel
theorem dX11_oddsOf_68 : decode cX11_oddsOf 68 = .ok (.goto 24, 3) := by decide +kernel
theorem dX11_oddsOf_71 : decode cX11_oddsOf 71 = .ok (.aload_n 0, 1) := by decide +kernel
theorem dX11_oddsOf_72 : decode cX11_oddsOf 72 = .ok (.getfield 89, 3) := by decide +kernel
theorem dX11_oddsOf_75 : decode cX11_oddsOf 75 = .ok (.iload 5, 2) := by decide +kernel
theorem dX11_oddsOf_77 : decode cX11_oddsOf 77 = .ok (.aaload, 1) := by decide +kernel
theorem dX11_oddsOf_78 : decode cX11_oddsOf 78 = .ok (.iconst 1, 1) := by decide +kernel
theorem dX11_oddsOf_79 : decode cX11_oddsOf 79 = .ok (.iaload, 1) := by decide +kernel
theorem dX11_oddsOf_80 : decode cX11_oddsOf 80 = .ok (.istore_n 3, 1) := by decide +kernel
theorem dX11_oddsOf_81 : decode cX11_oddsOf 81 = .ok (.aload_n 0, 1) := by decide +kernel
theorem dX11_oddsOf_82 : decode cX11_oddsOf 82 = .ok (.getfield 89, 3) := by decide +kernel
theorem dX11_oddsOf_85 : decode cX11_oddsOf 85 = .ok (.iload 5, 2) := by decide +kernel
theorem dX11_oddsOf_87 : decode cX11_oddsOf 87 = .ok (.aaload, 1) := by decide +kernel
theorem dX11_oddsOf_88 : decode cX11_oddsOf 88 = .ok (.iconst 3, 1) := by decide +kernel
theorem dX11_oddsOf_89 : decode cX11_oddsOf 89 = .ok (.iaload, 1) := by decide +kernel
theorem dX11_oddsOf_90 : decode cX11_oddsOf 90 = .ok (.istore 4, 2) := by decide +kernel
theorem dX11_oddsOf_92 : decode cX11_oddsOf 92 = .ok (.iinc 5 1, 3) := by decide +kernel
theorem dX11_oddsOf_95 : decode cX11_oddsOf 95 = .ok (.goto (-87), 3) := by decide +kernel
theorem dX11_oddsOf_98 : decode cX11_oddsOf 98 = .ok (.aload_n 0, 1) := by decide +kernel
theorem dX11_oddsOf_99 : decode cX11_oddsOf 99 = .ok (.getfield 86, 3) := by decide +kernel
theorem dX11_oddsOf_102 : decode cX11_oddsOf 102 = .ok (.iload_n 1, 1) := by decide +kernel
theorem dX11_oddsOf_103 : decode cX11_oddsOf 103 = .ok (.aaload, 1) := by decide +kernel
theorem dX11_oddsOf_104 : decode cX11_oddsOf 104 = .ok (.iconst 2, 1) := by decide +kernel
theorem dX11_oddsOf_105 : decode cX11_oddsOf 105 = .ok (.iaload, 1) := by decide +kernel
theorem dX11_oddsOf_106 : decode cX11_oddsOf 106 = .ok (.iload_n 2, 1) := by decide +kernel
theorem dX11_oddsOf_107 : decode cX11_oddsOf 107 = .ok (.if_icmp .ne 11, 3) := by decide +kernel
theorem dX11_oddsOf_110 : decode cX11_oddsOf 110 = .ok (.bipush 16, 2) := by decide +kernel
theorem dX11_oddsOf_112 : decode cX11_oddsOf 112 = .ok (.iload 4, 2) := by decide +kernel
theorem dX11_oddsOf_114 : decode cX11_oddsOf 114 = .ok (.isub, 1) := by decide +kernel
theorem dX11_oddsOf_115 : decode cX11_oddsOf 115 = .ok (.goto 21, 3) := by decide +kernel
theorem dX11_oddsOf_118 : decode cX11_oddsOf 118 = .ok (.aload_n 0, 1) := by decide +kernel
theorem dX11_oddsOf_119 : decode cX11_oddsOf 119 = .ok (.getfield 86, 3) := by decide +kernel
theorem dX11_oddsOf_122 : decode cX11_oddsOf 122 = .ok (.iload_n 1, 1) := by decide +kernel
theorem dX11_oddsOf_123 : decode cX11_oddsOf 123 = .ok (.aaload, 1) := by decide +kernel
theorem dX11_oddsOf_124 : decode cX11_oddsOf 124 = .ok (.iconst 2, 1) := by decide +kernel
theorem dX11_oddsOf_125 : decode cX11_oddsOf 125 = .ok (.iaload, 1) := by decide +kernel
theorem dX11_oddsOf_126 : decode cX11_oddsOf 126 = .ok (.iload_n 3, 1) := by decide +kernel
theorem dX11_oddsOf_127 : decode cX11_oddsOf 127 = .ok (.if_icmp .ne 8, 3) := by decide +kernel
theorem dX11_oddsOf_130 : decode cX11_oddsOf 130 = .ok (.iload 4, 2) := by decide +kernel
theorem dX11_oddsOf_132 : decode cX11_oddsOf 132 = .ok (.goto 4, 3) := by decide +kernel
theorem dX11_oddsOf_135 : decode cX11_oddsOf 135 = .ok (.iconst 0, 1) := by decide +kernel
theorem dX11_oddsOf_136 : decode cX11_oddsOf 136 = .ok (.ireturn, 1) := by decide +kernel
abbrev mX11_oddsOf : MD := (cX11_oddsOf, "BlottedDeedModel", 6, 1, 30, (some .int), "oddsOf", [])
def bX11_oddsOf_0 (g : GE) (J : Nat → KT) : KT := i_push (.int (-1)) (i_istore 3 (i_push (.int 0) (i_istore 4 (i_push (.int 0) (i_istore 5 (i_jmp [true, true, true, true, true, true] (J 1)))))))
def bX11_oddsOf_1 (g : GE) (J : Nat → KT) : KT := i_iload 5 (i_aload 0 (i_getf 10 33 (i_icge (i_jmp [true, true, true, true, true, false] (J 3)) (i_aload 0 (i_getf 10 24 (i_aload 0 (i_getf 10 36 (i_iload 1 (i_aaload 4 (i_push (.int 1) (i_iaload (i_aaload 4 (i_push (.int 0) (i_iaload (i_ifne (i_jmp [true, true, true, true, true, false] (J 3)) (i_aload 0 (i_getf 10 37 (i_iload 5 (i_aaload 4 (i_push (.int 0) (i_iaload (i_aload 0 (i_getf 10 36 (i_iload 1 (i_aaload 4 (i_push (.int 0) (i_iaload (i_icne (i_jmp [true, true, true, true, true, true] (J 2)) (i_aload 0 (i_getf 10 37 (i_iload 5 (i_aaload 4 (i_push (.int 2) (i_iaload (i_iload 2 (i_iceq (i_aload 0 (i_getf 10 37 (i_iload 5 (i_aaload 4 (i_push (.int 1) (i_iaload (i_istore 3 (i_aload 0 (i_getf 10 37 (i_iload 5 (i_aaload 4 (i_push (.int 3) (i_iaload (i_istore 4 (i_jmp [true, true, true, true, true, true] (J 2)))))))))))))))) (i_jmp [true, true, true, true, true, true] (J 2))))))))))))))))))))))))))))))))))))))
def bX11_oddsOf_2 (g : GE) (J : Nat → KT) : KT := i_iinc 5 1 (i_jmp [true, true, true, true, true, true] (J 1))
def bX11_oddsOf_3 (g : GE) (J : Nat → KT) : KT := i_aload 0 (i_getf 10 36 (i_iload 1 (i_aaload 4 (i_push (.int 2) (i_iaload (i_iload 2 (i_icne (i_aload 0 (i_getf 10 36 (i_iload 1 (i_aaload 4 (i_push (.int 2) (i_iaload (i_iload 3 (i_icne (i_push (.int 0) (i_jmp [false, false, false, false, false, false] (J 4))) (i_iload 4 (i_jmp [false, false, false, false, false, false] (J 4))))))))))) (i_push (.int 16) (i_iload 4 (i_isub (i_jmp [false, false, false, false, false, false] (J 4))))))))))))
def bX11_oddsOf_4 (g : GE) (J : Nat → KT) : KT := i_ireturn
theorem sbX11_oddsOf_0 (g : GE) (J : Nat → KT) (h1 : Snd mX11_oddsOf g 8 (J 1)) (h2 : Snd mX11_oddsOf g 92 (J 2)) (h3 : Snd mX11_oddsOf g 98 (J 3)) (h4 : Snd mX11_oddsOf g 136 (J 4)) : Snd mX11_oddsOf g 0 (bX11_oddsOf_0 g J) := by
  unfold bX11_oddsOf_0
  refine s_iconst (pc := 0) (v := (-1)) ?_ dX11_oddsOf_0 (by decide)
  refine s_istore_n (pc := 1) (i := 3) ?_ dX11_oddsOf_1 rfl (by decide)
  refine s_iconst (pc := 2) (v := 0) ?_ dX11_oddsOf_2 (by decide)
  refine s_istore (pc := 3) (i := 4) ?_ dX11_oddsOf_3 (by decide)
  refine s_iconst (pc := 5) (v := 0) ?_ dX11_oddsOf_5 (by decide)
  refine s_istore (pc := 6) (i := 5) ?_ dX11_oddsOf_6 (by decide)
  exact s_fall (pc := 8) h1
theorem sbX11_oddsOf_1 (g : GE) (J : Nat → KT) (h1 : Snd mX11_oddsOf g 8 (J 1)) (h2 : Snd mX11_oddsOf g 92 (J 2)) (h3 : Snd mX11_oddsOf g 98 (J 3)) (h4 : Snd mX11_oddsOf g 136 (J 4)) : Snd mX11_oddsOf g 8 (bX11_oddsOf_1 g J) := by
  unfold bX11_oddsOf_1
  refine s_iload (pc := 8) (i := 5) ?_ dX11_oddsOf_8
  refine s_aload_n (pc := 10) (i := 0) ?_ dX11_oddsOf_10 rfl
  refine s_getf (pc := 11) (ci := 10) (f := 33) (T := TX11) ?_ ginX11 rfl (by decide) wt_1426 dX11_oddsOf_11
  refine s_icge (pc := 14) (tgt := 98) ?_ ?_ dX11_oddsOf_14 (by decide)
  · skip
    exact s_fall (pc := 98) h3
  · skip
    refine s_aload_n (pc := 17) (i := 0) ?_ dX11_oddsOf_17 rfl
    refine s_getf (pc := 18) (ci := 10) (f := 24) (T := TX11) ?_ ginX11 rfl (by decide) wt_1417 dX11_oddsOf_18
    refine s_aload_n (pc := 21) (i := 0) ?_ dX11_oddsOf_21 rfl
    refine s_getf (pc := 22) (ci := 10) (f := 36) (T := TX11) ?_ ginX11 rfl (by decide) wt_1429 dX11_oddsOf_22
    refine s_iload_n (pc := 25) (i := 1) ?_ dX11_oddsOf_25 rfl
    refine s_aaload (pc := 26) (t := 4) ?_ (by decide) rfl dX11_oddsOf_26
    refine s_iconst (pc := 27) (v := 1) ?_ dX11_oddsOf_27 (by decide)
    refine s_iaload (pc := 28) ?_ dX11_oddsOf_28
    refine s_aaload (pc := 29) (t := 4) ?_ (by decide) rfl dX11_oddsOf_29
    refine s_iconst (pc := 30) (v := 0) ?_ dX11_oddsOf_30 (by decide)
    refine s_iaload (pc := 31) ?_ dX11_oddsOf_31
    refine s_ifne (pc := 32) (tgt := 98) ?_ ?_ dX11_oddsOf_32 (by decide)
    · skip
      exact s_fall (pc := 98) h3
    · skip
      refine s_aload_n (pc := 35) (i := 0) ?_ dX11_oddsOf_35 rfl
      refine s_getf (pc := 36) (ci := 10) (f := 37) (T := TX11) ?_ ginX11 rfl (by decide) wt_1430 dX11_oddsOf_36
      refine s_iload (pc := 39) (i := 5) ?_ dX11_oddsOf_39
      refine s_aaload (pc := 41) (t := 4) ?_ (by decide) rfl dX11_oddsOf_41
      refine s_iconst (pc := 42) (v := 0) ?_ dX11_oddsOf_42 (by decide)
      refine s_iaload (pc := 43) ?_ dX11_oddsOf_43
      refine s_aload_n (pc := 44) (i := 0) ?_ dX11_oddsOf_44 rfl
      refine s_getf (pc := 45) (ci := 10) (f := 36) (T := TX11) ?_ ginX11 rfl (by decide) wt_1429 dX11_oddsOf_45
      refine s_iload_n (pc := 48) (i := 1) ?_ dX11_oddsOf_48 rfl
      refine s_aaload (pc := 49) (t := 4) ?_ (by decide) rfl dX11_oddsOf_49
      refine s_iconst (pc := 50) (v := 0) ?_ dX11_oddsOf_50 (by decide)
      refine s_iaload (pc := 51) ?_ dX11_oddsOf_51
      refine s_icne (pc := 52) (tgt := 92) ?_ ?_ dX11_oddsOf_52 (by decide)
      · skip
        exact s_fall (pc := 92) h2
      · skip
        refine s_aload_n (pc := 55) (i := 0) ?_ dX11_oddsOf_55 rfl
        refine s_getf (pc := 56) (ci := 10) (f := 37) (T := TX11) ?_ ginX11 rfl (by decide) wt_1430 dX11_oddsOf_56
        refine s_iload (pc := 59) (i := 5) ?_ dX11_oddsOf_59
        refine s_aaload (pc := 61) (t := 4) ?_ (by decide) rfl dX11_oddsOf_61
        refine s_iconst (pc := 62) (v := 2) ?_ dX11_oddsOf_62 (by decide)
        refine s_iaload (pc := 63) ?_ dX11_oddsOf_63
        refine s_iload_n (pc := 64) (i := 2) ?_ dX11_oddsOf_64 rfl
        refine s_iceq (pc := 65) (tgt := 71) ?_ ?_ dX11_oddsOf_65 (by decide)
        · skip
          refine s_aload_n (pc := 71) (i := 0) ?_ dX11_oddsOf_71 rfl
          refine s_getf (pc := 72) (ci := 10) (f := 37) (T := TX11) ?_ ginX11 rfl (by decide) wt_1430 dX11_oddsOf_72
          refine s_iload (pc := 75) (i := 5) ?_ dX11_oddsOf_75
          refine s_aaload (pc := 77) (t := 4) ?_ (by decide) rfl dX11_oddsOf_77
          refine s_iconst (pc := 78) (v := 1) ?_ dX11_oddsOf_78 (by decide)
          refine s_iaload (pc := 79) ?_ dX11_oddsOf_79
          refine s_istore_n (pc := 80) (i := 3) ?_ dX11_oddsOf_80 rfl (by decide)
          refine s_aload_n (pc := 81) (i := 0) ?_ dX11_oddsOf_81 rfl
          refine s_getf (pc := 82) (ci := 10) (f := 37) (T := TX11) ?_ ginX11 rfl (by decide) wt_1430 dX11_oddsOf_82
          refine s_iload (pc := 85) (i := 5) ?_ dX11_oddsOf_85
          refine s_aaload (pc := 87) (t := 4) ?_ (by decide) rfl dX11_oddsOf_87
          refine s_iconst (pc := 88) (v := 3) ?_ dX11_oddsOf_88 (by decide)
          refine s_iaload (pc := 89) ?_ dX11_oddsOf_89
          refine s_istore (pc := 90) (i := 4) ?_ dX11_oddsOf_90 (by decide)
          exact s_fall (pc := 92) h2
        · skip
          exact s_goto (pc := 68) (tgt := 92) h2 dX11_oddsOf_68 (by decide)
theorem sbX11_oddsOf_2 (g : GE) (J : Nat → KT) (h1 : Snd mX11_oddsOf g 8 (J 1)) (h2 : Snd mX11_oddsOf g 92 (J 2)) (h3 : Snd mX11_oddsOf g 98 (J 3)) (h4 : Snd mX11_oddsOf g 136 (J 4)) : Snd mX11_oddsOf g 92 (bX11_oddsOf_2 g J) := by
  unfold bX11_oddsOf_2
  refine s_iinc (pc := 92) (i := 5) (v := 1) ?_ dX11_oddsOf_92 (by decide) (by decide)
  exact s_goto (pc := 95) (tgt := 8) h1 dX11_oddsOf_95 (by decide)
theorem sbX11_oddsOf_3 (g : GE) (J : Nat → KT) (h1 : Snd mX11_oddsOf g 8 (J 1)) (h2 : Snd mX11_oddsOf g 92 (J 2)) (h3 : Snd mX11_oddsOf g 98 (J 3)) (h4 : Snd mX11_oddsOf g 136 (J 4)) : Snd mX11_oddsOf g 98 (bX11_oddsOf_3 g J) := by
  unfold bX11_oddsOf_3
  refine s_aload_n (pc := 98) (i := 0) ?_ dX11_oddsOf_98 rfl
  refine s_getf (pc := 99) (ci := 10) (f := 36) (T := TX11) ?_ ginX11 rfl (by decide) wt_1429 dX11_oddsOf_99
  refine s_iload_n (pc := 102) (i := 1) ?_ dX11_oddsOf_102 rfl
  refine s_aaload (pc := 103) (t := 4) ?_ (by decide) rfl dX11_oddsOf_103
  refine s_iconst (pc := 104) (v := 2) ?_ dX11_oddsOf_104 (by decide)
  refine s_iaload (pc := 105) ?_ dX11_oddsOf_105
  refine s_iload_n (pc := 106) (i := 2) ?_ dX11_oddsOf_106 rfl
  refine s_icne (pc := 107) (tgt := 118) ?_ ?_ dX11_oddsOf_107 (by decide)
  · skip
    refine s_aload_n (pc := 118) (i := 0) ?_ dX11_oddsOf_118 rfl
    refine s_getf (pc := 119) (ci := 10) (f := 36) (T := TX11) ?_ ginX11 rfl (by decide) wt_1429 dX11_oddsOf_119
    refine s_iload_n (pc := 122) (i := 1) ?_ dX11_oddsOf_122 rfl
    refine s_aaload (pc := 123) (t := 4) ?_ (by decide) rfl dX11_oddsOf_123
    refine s_iconst (pc := 124) (v := 2) ?_ dX11_oddsOf_124 (by decide)
    refine s_iaload (pc := 125) ?_ dX11_oddsOf_125
    refine s_iload_n (pc := 126) (i := 3) ?_ dX11_oddsOf_126 rfl
    refine s_icne (pc := 127) (tgt := 135) ?_ ?_ dX11_oddsOf_127 (by decide)
    · skip
      refine s_iconst (pc := 135) (v := 0) ?_ dX11_oddsOf_135 (by decide)
      exact s_fall (pc := 136) h4
    · skip
      refine s_iload (pc := 130) (i := 4) ?_ dX11_oddsOf_130
      exact s_goto (pc := 132) (tgt := 136) h4 dX11_oddsOf_132 (by decide)
  · skip
    refine s_bipush (pc := 110) (v := 16) ?_ dX11_oddsOf_110 (by decide)
    refine s_iload (pc := 112) (i := 4) ?_ dX11_oddsOf_112
    refine s_isub (pc := 114) ?_ dX11_oddsOf_114
    exact s_goto (pc := 115) (tgt := 136) h4 dX11_oddsOf_115 (by decide)
theorem sbX11_oddsOf_4 (g : GE) (J : Nat → KT) (h1 : Snd mX11_oddsOf g 8 (J 1)) (h2 : Snd mX11_oddsOf g 92 (J 2)) (h3 : Snd mX11_oddsOf g 98 (J 3)) (h4 : Snd mX11_oddsOf g 136 (J 4)) : Snd mX11_oddsOf g 136 (bX11_oddsOf_4 g J) := by
  unfold bX11_oddsOf_4
  exact s_ireturn (pc := 136) rfl dX11_oddsOf_136
def jX11_oddsOf (g : GE) : Nat → Nat → KT
  | 0, _ => fun _ _ _ => none
  | n + 1, 0 => bX11_oddsOf_0 g (jX11_oddsOf g n)
  | n + 1, 1 => bX11_oddsOf_1 g (jX11_oddsOf g n)
  | n + 1, 2 => bX11_oddsOf_2 g (jX11_oddsOf g n)
  | n + 1, 3 => bX11_oddsOf_3 g (jX11_oddsOf g n)
  | n + 1, 4 => bX11_oddsOf_4 g (jX11_oddsOf g n)
  | _ + 1, _ + 5 => fun _ _ _ => none
theorem sjX11_oddsOf (g : GE) : ∀ n, Snd mX11_oddsOf g 0 (jX11_oddsOf g n 0) ∧ Snd mX11_oddsOf g 8 (jX11_oddsOf g n 1) ∧ Snd mX11_oddsOf g 92 (jX11_oddsOf g n 2) ∧ Snd mX11_oddsOf g 98 (jX11_oddsOf g n 3) ∧ Snd mX11_oddsOf g 136 (jX11_oddsOf g n 4)
  | 0 => ⟨s_none, s_none, s_none, s_none, s_none⟩
  | n + 1 => by
    obtain ⟨-, h1, h2, h3, h4⟩ := sjX11_oddsOf g n
    exact ⟨sbX11_oddsOf_0 g _ h1 h2 h3 h4, sbX11_oddsOf_1 g _ h1 h2 h3 h4, sbX11_oddsOf_2 g _ h1 h2 h3 h4, sbX11_oddsOf_3 g _ h1 h2 h3 h4, sbX11_oddsOf_4 g _ h1 h2 h3 h4⟩
def kX11_oddsOf (g : GE) : KT := jX11_oddsOf g g.1 0
theorem sX11_oddsOf (g : GE) : Snd mX11_oddsOf g 0 (kX11_oddsOf g) := (sjX11_oddsOf g g.1).1
def fX11_oddsOf : FT := fun g av w => if (ent av).length ≤ 6 then kX11_oddsOf g [] (entp 6 av) w else none
theorem tX11_oddsOf : Mt yX11_oddsOf cX11_oddsOf 6 (some .int) 1 30 fX11_oddsOf := Mt.of (K := kX11_oddsOf) (by decide +kernel) (fun _ _ _ => rfl) sX11_oddsOf
theorem crX11_oddsOf : yX11_oddsOf.cls ≠ "java/lang/invoke/MethodHandle" ∧ yX11_oddsOf.cls ≠ "java/lang/invoke/VarHandle" ∧ (parseMethodDescriptor yX11_oddsOf.desc).map (fun d => d.parameters.length) = some 2 := by decide +kernel
theorem dX11_oddsBy_0 : decode cX11_oddsBy 0 = .ok (.lconst 1, 1) := by decide +kernel
theorem dX11_oddsBy_1 : decode cX11_oddsBy 1 = .ok (.lstore_n 2, 1) := by decide +kernel
theorem dX11_oddsBy_2 : decode cX11_oddsBy 2 = .ok (.iconst 0, 1) := by decide +kernel
theorem dX11_oddsBy_3 : decode cX11_oddsBy 3 = .ok (.istore 4, 2) := by decide +kernel
theorem dX11_oddsBy_5 : decode cX11_oddsBy 5 = .ok (.iload 4, 2) := by decide +kernel
theorem dX11_oddsBy_7 : decode cX11_oddsBy 7 = .ok (.aload_n 0, 1) := by decide +kernel
theorem dX11_oddsBy_8 : decode cX11_oddsBy 8 = .ok (.getfield 225, 3) := by decide +kernel
theorem dX11_oddsBy_11 : decode cX11_oddsBy 11 = .ok (.if_icmp .ge 33, 3) := by decide +kernel
theorem dX11_oddsBy_14 : decode cX11_oddsBy 14 = .ok (.lload_n 2, 1) := by decide +kernel
theorem dX11_oddsBy_15 : decode cX11_oddsBy 15 = .ok (.aload_n 0, 1) := by decide +kernel
theorem dX11_oddsBy_16 : decode cX11_oddsBy 16 = .ok (.iload 4, 2) := by decide +kernel
theorem dX11_oddsBy_18 : decode cX11_oddsBy 18 = .ok (.aload_n 0, 1) := by decide +kernel
theorem dX11_oddsBy_19 : decode cX11_oddsBy 19 = .ok (.iload_n 1, 1) := by decide +kernel
theorem dX11_oddsBy_20 : decode cX11_oddsBy 20 = .ok (.aload_n 0, 1) := by decide +kernel
theorem dX11_oddsBy_21 : decode cX11_oddsBy 21 = .ok (.getfield 86, 3) := by decide +kernel
theorem dX11_oddsBy_24 : decode cX11_oddsBy 24 = .ok (.iload 4, 2) := by decide +kernel
theorem dX11_oddsBy_26 : decode cX11_oddsBy 26 = .ok (.aaload, 1) := by decide +kernel
theorem dX11_oddsBy_27 : decode cX11_oddsBy 27 = .ok (.iconst 1, 1) := by decide +kernel
theorem dX11_oddsBy_28 : decode cX11_oddsBy 28 = .ok (.iaload, 1) := by decide +kernel
theorem dX11_oddsBy_29 : decode cX11_oddsBy 29 = .ok (.invokevirtual 270, 3) := by decide +kernel
theorem dX11_oddsBy_32 : decode cX11_oddsBy 32 = .ok (.invokevirtual 307, 3) := by decide +kernel
theorem dX11_oddsBy_35 : decode cX11_oddsBy 35 = .ok (.i2l, 1) := by decide +kernel
theorem dX11_oddsBy_36 : decode cX11_oddsBy 36 = .ok (.lmul, 1) := by decide +kernel
theorem dX11_oddsBy_37 : decode cX11_oddsBy 37 = .ok (.lstore_n 2, 1) := by decide +kernel
theorem dX11_oddsBy_38 : decode cX11_oddsBy 38 = .ok (.iinc 4 1, 3) := by decide +kernel
theorem dX11_oddsBy_41 : decode cX11_oddsBy 41 = .ok (.goto (-36), 3) := by decide +kernel
theorem dX11_oddsBy_44 : decode cX11_oddsBy 44 = .ok (.lload_n 2, 1) := by decide +kernel
theorem dX11_oddsBy_45 : decode cX11_oddsBy 45 = .ok (.lreturn, 1) := by decide +kernel
abbrev mX11_oddsBy : MD := (cX11_oddsBy, "BlottedDeedModel", 5, 3, 76, (some .long), "oddsBy", [])
def bX11_oddsBy_0 (g : GE) (J : Nat → KT) : KT := i_push (.long 1) (i_lstore 2 (i_push (.int 0) (i_istore 4 (i_jmp [true, true, true, false, true] (J 1)))))
def bX11_oddsBy_1 (g : GE) (J : Nat → KT) : KT := i_iload 4 (i_aload 0 (i_getf 10 32 (i_icge (i_lload 2 (i_lreturn)) (i_lload 2 (i_aload 0 (i_iload 4 (i_aload 0 (i_iload 1 (i_aload 0 (i_getf 10 36 (i_iload 4 (i_aaload 4 (i_push (.int 1) (i_iaload (i_cv fX11_shows g 2 10 (i_cv fX11_oddsOf g 2 10 (i_i2l (i_lmul (i_lstore 2 (i_iinc 4 1 (i_jmp [true, true, true, false, true] (J 1))))))))))))))))))))))
theorem sbX11_oddsBy_0 (g : GE) (J : Nat → KT) (h1 : Snd mX11_oddsBy g 5 (J 1)) : Snd mX11_oddsBy g 0 (bX11_oddsBy_0 g J) := by
  unfold bX11_oddsBy_0
  refine s_lconst (pc := 0) (v := 1) ?_ dX11_oddsBy_0 (by decide)
  refine s_lstore_n (pc := 1) (i := 2) ?_ dX11_oddsBy_1 rfl (by decide)
  refine s_iconst (pc := 2) (v := 0) ?_ dX11_oddsBy_2 (by decide)
  refine s_istore (pc := 3) (i := 4) ?_ dX11_oddsBy_3 (by decide)
  exact s_fall (pc := 5) h1
theorem sbX11_oddsBy_1 (g : GE) (J : Nat → KT) (h1 : Snd mX11_oddsBy g 5 (J 1)) : Snd mX11_oddsBy g 5 (bX11_oddsBy_1 g J) := by
  unfold bX11_oddsBy_1
  refine s_iload (pc := 5) (i := 4) ?_ dX11_oddsBy_5
  refine s_aload_n (pc := 7) (i := 0) ?_ dX11_oddsBy_7 rfl
  refine s_getf (pc := 8) (ci := 10) (f := 32) (T := TX11) ?_ ginX11 rfl (by decide) wt_1425 dX11_oddsBy_8
  refine s_icge (pc := 11) (tgt := 44) ?_ ?_ dX11_oddsBy_11 (by decide)
  · skip
    refine s_lload_n (pc := 44) (i := 2) ?_ dX11_oddsBy_44 rfl
    exact s_lreturn (pc := 45) rfl dX11_oddsBy_45
  · skip
    refine s_lload_n (pc := 14) (i := 2) ?_ dX11_oddsBy_14 rfl
    refine s_aload_n (pc := 15) (i := 0) ?_ dX11_oddsBy_15 rfl
    refine s_iload (pc := 16) (i := 4) ?_ dX11_oddsBy_16
    refine s_aload_n (pc := 18) (i := 0) ?_ dX11_oddsBy_18 rfl
    refine s_iload_n (pc := 19) (i := 1) ?_ dX11_oddsBy_19 rfl
    refine s_aload_n (pc := 20) (i := 0) ?_ dX11_oddsBy_20 rfl
    refine s_getf (pc := 21) (ci := 10) (f := 36) (T := TX11) ?_ ginX11 rfl (by decide) wt_1429 dX11_oddsBy_21
    refine s_iload (pc := 24) (i := 4) ?_ dX11_oddsBy_24
    refine s_aaload (pc := 26) (t := 4) ?_ (by decide) rfl dX11_oddsBy_26
    refine s_iconst (pc := 27) (v := 1) ?_ dX11_oddsBy_27 (by decide)
    refine s_iaload (pc := 28) ?_ dX11_oddsBy_28
    refine s_cv (pc := 29) (n := 2) (ci := 10) ?_ tX11_shows rfl rfl wt_1675 wt_1677 wp_69 wt_17 wt_1678 ⟨crX11_shows, by decide, by decide⟩ dX11_oddsBy_29
    refine s_cv (pc := 32) (n := 2) (ci := 10) ?_ tX11_oddsOf rfl rfl wt_1815 wt_1817 wp_84 wt_17 wt_1818 ⟨crX11_oddsOf, by decide, by decide⟩ dX11_oddsBy_32
    refine s_i2l (pc := 35) ?_ dX11_oddsBy_35
    refine s_lmul (pc := 36) ?_ dX11_oddsBy_36
    refine s_lstore_n (pc := 37) (i := 2) ?_ dX11_oddsBy_37 rfl (by decide)
    refine s_iinc (pc := 38) (i := 4) (v := 1) ?_ dX11_oddsBy_38 (by decide) (by decide)
    exact s_goto (pc := 41) (tgt := 5) h1 dX11_oddsBy_41 (by decide)
def jX11_oddsBy (g : GE) : Nat → Nat → KT
  | 0, _ => fun _ _ _ => none
  | n + 1, 0 => bX11_oddsBy_0 g (jX11_oddsBy g n)
  | n + 1, 1 => bX11_oddsBy_1 g (jX11_oddsBy g n)
  | _ + 1, _ + 2 => fun _ _ _ => none
theorem sjX11_oddsBy (g : GE) : ∀ n, Snd mX11_oddsBy g 0 (jX11_oddsBy g n 0) ∧ Snd mX11_oddsBy g 5 (jX11_oddsBy g n 1)
  | 0 => ⟨s_none, s_none⟩
  | n + 1 => by
    obtain ⟨-, h1⟩ := sjX11_oddsBy g n
    exact ⟨sbX11_oddsBy_0 g _ h1, sbX11_oddsBy_1 g _ h1⟩
def kX11_oddsBy (g : GE) : KT := jX11_oddsBy g g.1 0
theorem sX11_oddsBy (g : GE) : Snd mX11_oddsBy g 0 (kX11_oddsBy g) := (sjX11_oddsBy g g.1).1
def fX11_oddsBy : FT := fun g av w => if (ent av).length ≤ 5 then kX11_oddsBy g [] (entp 5 av) w else none
theorem tX11_oddsBy : Mt yX11_oddsBy cX11_oddsBy 5 (some .long) 3 76 fX11_oddsBy := Mt.of (K := kX11_oddsBy) (by decide +kernel) (fun _ _ _ => rfl) sX11_oddsBy
theorem crX11_oddsBy : yX11_oddsBy.cls ≠ "java/lang/invoke/MethodHandle" ∧ yX11_oddsBy.cls ≠ "java/lang/invoke/VarHandle" ∧ (parseMethodDescriptor yX11_oddsBy.desc).map (fun d => d.parameters.length) = some 1 := by decide +kernel
