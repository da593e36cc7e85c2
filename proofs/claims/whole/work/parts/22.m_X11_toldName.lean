theorem dX11_toldName_0 : decode cX11_toldName 0 = .ok (.aload_n 0, 1) := by decide +kernel
theorem dX11_toldName_1 : decode cX11_toldName 1 = .ok (.getfield 136, 3) := by decide +kernel
theorem dX11_toldName_4 : decode cX11_toldName 4 = .ok (.ifCond .eq 5, 3) := by decide +kernel
theorem dX11_toldName_7 : decode cX11_toldName 7 = .ok (.iconst 0, 1) := by decide +kernel
theorem dX11_toldName_8 : decode cX11_toldName 8 = .ok (.ireturn, 1) := by decide +kernel
theorem dX11_toldName_9 : decode cX11_toldName 9 = .ok (.aload_n 0, 1) := by decide +kernel
theorem dX11_toldName_10 : decode cX11_toldName 10 = .ok (.invokevirtual 158, 3) := by decide +kernel
theorem dX11_toldName_13 : decode cX11_toldName 13 = .ok (.istore_n 3, 1) := by decide +kernel
theorem dX11_toldName_14 : decode cX11_toldName 14 = .ok (.aload_n 0, 1) := by decide +kernel
theorem dX11_toldName_15 : decode cX11_toldName 15 = .ok (.invokevirtual 168, 3) := by decide +kernel
theorem dX11_toldName_18 : decode cX11_toldName 18 = .ok (.lstore 4, 2) := by decide +kernel
theorem dX11_toldName_20 : decode cX11_toldName 20 = .ok (.iload_n 3, 1) := by decide +kernel
theorem dX11_toldName_21 : decode cX11_toldName 21 = .ok (.ifCond .ne 12, 3) := by decide +kernel
theorem dX11_toldName_24 : decode cX11_toldName 24 = .ok (.aload_n 0, 1) := by decide +kernel
theorem dX11_toldName_25 : decode cX11_toldName 25 = .ok (.iconst 1, 1) := by decide +kernel
theorem dX11_toldName_26 : decode cX11_toldName 26 = .ok (.aload_n 0, 1) := by decide +kernel
theorem dX11_toldName_27 : decode cX11_toldName 27 = .ok (.getfield 129, 3) := by decide +kernel
theorem dX11_toldName_30 : decode cX11_toldName 30 = .ok (.invokevirtual 149, 3) := by decide +kernel
theorem dX11_toldName_33 : decode cX11_toldName 33 = .ok (.iconst 0, 1) := by decide +kernel
theorem dX11_toldName_34 : decode cX11_toldName 34 = .ok (.istore 6, 2) := by decide +kernel
theorem dX11_toldName_36 : decode cX11_toldName 36 = .ok (.iload 6, 2) := by decide +kernel
theorem dX11_toldName_38 : decode cX11_toldName 38 = .ok (.iload_n 2, 1) := by decide +kernel
theorem dX11_toldName_39 : decode cX11_toldName 39 = .ok (.if_icmp .ge 47, 3) := by decide +kernel
theorem dX11_toldName_42 : decode cX11_toldName 42 = .ok (.aload_n 0, 1) := by decide +kernel
theorem dX11_toldName_43 : decode cX11_toldName 43 = .ok (.getfield 136, 3) := by decide +kernel
theorem dX11_toldName_46 : decode cX11_toldName 46 = .ok (.ifCond .ne 40, 3) := by decide +kernel
theorem dX11_toldName_49 : decode cX11_toldName 49 = .ok (.aload_n 0, 1) := by decide +kernel
theorem dX11_toldName_50 : decode cX11_toldName 50 = .ok (.getfield 44, 3) := by decide +kernel
theorem dX11_toldName_53 : decode cX11_toldName 53 = .ok (.iload_n 1, 1) := by decide +kernel
theorem dX11_toldName_54 : decode cX11_toldName 54 = .ok (.iload 6, 2) := by decide +kernel
theorem dX11_toldName_56 : decode cX11_toldName 56 = .ok (.iadd, 1) := by decide +kernel
theorem dX11_toldName_57 : decode cX11_toldName 57 = .ok (.laload, 1) := by decide +kernel
theorem dX11_toldName_58 : decode cX11_toldName 58 = .ok (.lload 4, 2) := by decide +kernel
theorem dX11_toldName_60 : decode cX11_toldName 60 = .ok (.lcmp, 1) := by decide +kernel
theorem dX11_toldName_61 : decode cX11_toldName 61 = .ok (.ifCond .eq 6, 3) := by decide +kernel
theorem dX11_toldName_64 : decode cX11_toldName 64 = .ok (.goto 16, 3) := by decide +kernel
theorem dX11_toldName_67 : decode cX11_toldName 67 = .ok (.aload_n 0, 1) := by decide +kernel
theorem dX11_toldName_68 : decode cX11_toldName 68 = .ok (.dup, 1) := by decide +kernel
theorem dX11_toldName_69 : decode cX11_toldName 69 = .ok (.getfield 129, 3) := by decide +kernel
theorem dX11_toldName_72 : decode cX11_toldName 72 = .ok (.iload_n 3, 1) := by decide +kernel
theorem dX11_toldName_73 : decode cX11_toldName 73 = .ok (.iadd, 1) := by decide +kernel
theorem dX11_toldName_74 : decode cX11_toldName 74 = .ok (.putfield 129, 3) := by decide +kernel
theorem dX11_toldName_77 : decode cX11_toldName 77 = .ok (.iload 6, 2) := by decide +kernel
theorem dX11_toldName_79 : decode cX11_toldName 79 = .ok (.ireturn, 1) := by decide +kernel
theorem dX11_toldName_80 : decode cX11_toldName 80 = .ok (.iinc 6 1, 3) := by decide +kernel
theorem dX11_toldName_83 : decode cX11_toldName 83 = .ok (.goto (-47), 3) := by decide +kernel
theorem dX11_toldName_86 : decode cX11_toldName 86 = .ok (.aload_n 0, 1) := by decide +kernel
theorem dX11_toldName_87 : decode cX11_toldName 87 = .ok (.iconst 2, 1) := by decide +kernel
theorem dX11_toldName_88 : decode cX11_toldName 88 = .ok (.aload_n 0, 1) := by decide +kernel
theorem dX11_toldName_89 : decode cX11_toldName 89 = .ok (.getfield 129, 3) := by decide +kernel
theorem dX11_toldName_92 : decode cX11_toldName 92 = .ok (.invokevirtual 149, 3) := by decide +kernel
theorem dX11_toldName_95 : decode cX11_toldName 95 = .ok (.iconst 0, 1) := by decide +kernel
theorem dX11_toldName_96 : decode cX11_toldName 96 = .ok (.ireturn, 1) := by decide +kernel
abbrev mX11_toldName : MD := (cX11_toldName, "BlottedDeedModel", 7, 5, 116, (some .int), "toldName", [])
def bX11_toldName_0 (g : GE) (J : Nat → KT) : KT := i_aload 0 (i_getf 10 5 (i_ifeq (i_aload 0 (i_cv fX11_lettersHere g 0 10 (i_istore 3 (i_aload 0 (i_cv fX11_wordHere g 0 10 (i_lstore 4 (i_iload 3 (i_ifne (i_jmp [true, true, true, true, true, false, false] (J 1)) (i_aload 0 (i_push (.int 1) (i_aload 0 (i_getf 10 4 (i_cv fX11_wrong g 2 10 (i_jmp [true, true, true, true, true, false, false] (J 1))))))))))))))) (i_push (.int 0) (i_ireturn))))
def bX11_toldName_1 (g : GE) (J : Nat → KT) : KT := i_push (.int 0) (i_istore 6 (i_jmp [true, true, true, true, true, false, true] (J 2)))
def bX11_toldName_2 (g : GE) (J : Nat → KT) : KT := i_iload 6 (i_iload 2 (i_icge (i_jmp [true, false, false, false, false, false, false] (J 3)) (i_aload 0 (i_getf 10 5 (i_ifne (i_jmp [true, false, false, false, false, false, false] (J 3)) (i_aload 0 (i_getf 10 18 (i_iload 1 (i_iload 6 (i_iadd (i_laload (i_lload 4 (i_lcmp (i_ifeq (i_aload 0 (i_dup (i_getf 10 4 (i_iload 3 (i_iadd (i_putf 10 4 .int (i_iload 6 (i_ireturn)))))))) (i_jmp [true, true, true, true, true, false, true] (i_iinc 6 1 (i_jmp [true, true, true, true, true, false, true] (J 2))))))))))))))))))
def bX11_toldName_3 (g : GE) (J : Nat → KT) : KT := i_aload 0 (i_push (.int 2) (i_aload 0 (i_getf 10 4 (i_cv fX11_wrong g 2 10 (i_push (.int 0) (i_ireturn))))))
theorem sbX11_toldName_0 (g : GE) (J : Nat → KT) (h1 : Snd mX11_toldName g 33 (J 1)) (h2 : Snd mX11_toldName g 36 (J 2)) (h3 : Snd mX11_toldName g 86 (J 3)) : Snd mX11_toldName g 0 (bX11_toldName_0 g J) := by
  unfold bX11_toldName_0
  refine s_aload_n (pc := 0) (i := 0) ?_ dX11_toldName_0 rfl
  refine s_getf (pc := 1) (ci := 10) (f := 5) (T := TX11) ?_ ginX11 rfl (by decide) wt_1398 dX11_toldName_1
  refine s_ifeq (pc := 4) (tgt := 9) ?_ ?_ dX11_toldName_4 (by decide)
  · skip
    refine s_aload_n (pc := 9) (i := 0) ?_ dX11_toldName_9 rfl
    refine s_cv (pc := 10) (n := 0) (ci := 10) ?_ tX11_lettersHere rfl rfl wt_1588 wt_1590 wp_56 wt_17 wt_1591 ⟨crX11_lettersHere, by decide, by decide⟩ dX11_toldName_10
    refine s_istore_n (pc := 13) (i := 3) ?_ dX11_toldName_13 rfl (by decide)
    refine s_aload_n (pc := 14) (i := 0) ?_ dX11_toldName_14 rfl
    refine s_cv (pc := 15) (n := 0) (ci := 10) ?_ tX11_wordHere rfl rfl wt_1584 wt_1586 wp_55 wt_17 wt_1587 ⟨crX11_wordHere, by decide, by decide⟩ dX11_toldName_15
    refine s_lstore (pc := 18) (i := 4) ?_ dX11_toldName_18 (by decide)
    refine s_iload_n (pc := 20) (i := 3) ?_ dX11_toldName_20 rfl
    refine s_ifne (pc := 21) (tgt := 33) ?_ ?_ dX11_toldName_21 (by decide)
    · skip
      exact s_fall (pc := 33) h1
    · skip
      refine s_aload_n (pc := 24) (i := 0) ?_ dX11_toldName_24 rfl
      refine s_iconst (pc := 25) (v := 1) ?_ dX11_toldName_25 (by decide)
      refine s_aload_n (pc := 26) (i := 0) ?_ dX11_toldName_26 rfl
      refine s_getf (pc := 27) (ci := 10) (f := 4) (T := TX11) ?_ ginX11 rfl (by decide) wt_1397 dX11_toldName_27
      refine s_cv (pc := 30) (n := 2) (ci := 10) ?_ tX11_wrong rfl rfl wt_1599 wt_1601 wp_57 wt_17 wt_1602 ⟨crX11_wrong, by decide, by decide⟩ dX11_toldName_30
      exact s_fall (pc := 33) h1
  · skip
    refine s_iconst (pc := 7) (v := 0) ?_ dX11_toldName_7 (by decide)
    exact s_ireturn (pc := 8) rfl dX11_toldName_8
theorem sbX11_toldName_1 (g : GE) (J : Nat → KT) (h1 : Snd mX11_toldName g 33 (J 1)) (h2 : Snd mX11_toldName g 36 (J 2)) (h3 : Snd mX11_toldName g 86 (J 3)) : Snd mX11_toldName g 33 (bX11_toldName_1 g J) := by
  unfold bX11_toldName_1
  refine s_iconst (pc := 33) (v := 0) ?_ dX11_toldName_33 (by decide)
  refine s_istore (pc := 34) (i := 6) ?_ dX11_toldName_34 (by decide)
  exact s_fall (pc := 36) h2
theorem sbX11_toldName_2 (g : GE) (J : Nat → KT) (h1 : Snd mX11_toldName g 33 (J 1)) (h2 : Snd mX11_toldName g 36 (J 2)) (h3 : Snd mX11_toldName g 86 (J 3)) : Snd mX11_toldName g 36 (bX11_toldName_2 g J) := by
  unfold bX11_toldName_2
  refine s_iload (pc := 36) (i := 6) ?_ dX11_toldName_36
  refine s_iload_n (pc := 38) (i := 2) ?_ dX11_toldName_38 rfl
  refine s_icge (pc := 39) (tgt := 86) ?_ ?_ dX11_toldName_39 (by decide)
  · skip
    exact s_fall (pc := 86) h3
  · skip
    refine s_aload_n (pc := 42) (i := 0) ?_ dX11_toldName_42 rfl
    refine s_getf (pc := 43) (ci := 10) (f := 5) (T := TX11) ?_ ginX11 rfl (by decide) wt_1398 dX11_toldName_43
    refine s_ifne (pc := 46) (tgt := 86) ?_ ?_ dX11_toldName_46 (by decide)
    · skip
      exact s_fall (pc := 86) h3
    · skip
      refine s_aload_n (pc := 49) (i := 0) ?_ dX11_toldName_49 rfl
      refine s_getf (pc := 50) (ci := 10) (f := 18) (T := TX11) ?_ ginX11 rfl (by decide) wt_1411 dX11_toldName_50
      refine s_iload_n (pc := 53) (i := 1) ?_ dX11_toldName_53 rfl
      refine s_iload (pc := 54) (i := 6) ?_ dX11_toldName_54
      refine s_iadd (pc := 56) ?_ dX11_toldName_56
      refine s_laload (pc := 57) ?_ dX11_toldName_57
      refine s_lload (pc := 58) (i := 4) ?_ dX11_toldName_58
      refine s_lcmp (pc := 60) ?_ dX11_toldName_60
      refine s_ifeq (pc := 61) (tgt := 67) ?_ ?_ dX11_toldName_61 (by decide)
      · skip
        refine s_aload_n (pc := 67) (i := 0) ?_ dX11_toldName_67 rfl
        refine s_dup (pc := 68) ?_ dX11_toldName_68
        refine s_getf (pc := 69) (ci := 10) (f := 4) (T := TX11) ?_ ginX11 rfl (by decide) wt_1397 dX11_toldName_69
        refine s_iload_n (pc := 72) (i := 3) ?_ dX11_toldName_72 rfl
        refine s_iadd (pc := 73) ?_ dX11_toldName_73
        refine s_putf (pc := 74) (ci := 10) (f := 4) (T := TX11) (ty0 := tyX11) ?_ ginX11 tyX11_ok nmX11 rfl (by decide) rfl rfl wt_1397 dX11_toldName_74
        refine s_iload (pc := 77) (i := 6) ?_ dX11_toldName_77
        exact s_ireturn (pc := 79) rfl dX11_toldName_79
      · skip
        refine s_goto (pc := 64) (tgt := 80) ?_ dX11_toldName_64 (by decide)
        refine s_iinc (pc := 80) (i := 6) (v := 1) ?_ dX11_toldName_80 (by decide) (by decide)
        exact s_goto (pc := 83) (tgt := 36) h2 dX11_toldName_83 (by decide)
theorem sbX11_toldName_3 (g : GE) (J : Nat → KT) (h1 : Snd mX11_toldName g 33 (J 1)) (h2 : Snd mX11_toldName g 36 (J 2)) (h3 : Snd mX11_toldName g 86 (J 3)) : Snd mX11_toldName g 86 (bX11_toldName_3 g J) := by
  unfold bX11_toldName_3
  refine s_aload_n (pc := 86) (i := 0) ?_ dX11_toldName_86 rfl
  refine s_iconst (pc := 87) (v := 2) ?_ dX11_toldName_87 (by decide)
  refine s_aload_n (pc := 88) (i := 0) ?_ dX11_toldName_88 rfl
  refine s_getf (pc := 89) (ci := 10) (f := 4) (T := TX11) ?_ ginX11 rfl (by decide) wt_1397 dX11_toldName_89
  refine s_cv (pc := 92) (n := 2) (ci := 10) ?_ tX11_wrong rfl rfl wt_1599 wt_1601 wp_57 wt_17 wt_1602 ⟨crX11_wrong, by decide, by decide⟩ dX11_toldName_92
  refine s_iconst (pc := 95) (v := 0) ?_ dX11_toldName_95 (by decide)
  exact s_ireturn (pc := 96) rfl dX11_toldName_96
def jX11_toldName (g : GE) : Nat → Nat → KT
  | 0, _ => fun _ _ _ => none
  | n + 1, 0 => bX11_toldName_0 g (jX11_toldName g n)
  | n + 1, 1 => bX11_toldName_1 g (jX11_toldName g n)
  | n + 1, 2 => bX11_toldName_2 g (jX11_toldName g n)
  | n + 1, 3 => bX11_toldName_3 g (jX11_toldName g n)
  | _ + 1, _ + 4 => fun _ _ _ => none
theorem sjX11_toldName (g : GE) : ∀ n, Snd mX11_toldName g 0 (jX11_toldName g n 0) ∧ Snd mX11_toldName g 33 (jX11_toldName g n 1) ∧ Snd mX11_toldName g 36 (jX11_toldName g n 2) ∧ Snd mX11_toldName g 86 (jX11_toldName g n 3)
  | 0 => ⟨s_none, s_none, s_none, s_none⟩
  | n + 1 => by
    obtain ⟨-, h1, h2, h3⟩ := sjX11_toldName g n
    exact ⟨sbX11_toldName_0 g _ h1 h2 h3, sbX11_toldName_1 g _ h1 h2 h3, sbX11_toldName_2 g _ h1 h2 h3, sbX11_toldName_3 g _ h1 h2 h3⟩
def kX11_toldName (g : GE) : KT := jX11_toldName g g.1 0
theorem sX11_toldName (g : GE) : Snd mX11_toldName g 0 (kX11_toldName g) := (sjX11_toldName g g.1).1
def fX11_toldName : FT := fun g av w => if (ent av).length ≤ 7 then kX11_toldName g [] (entp 7 av) w else none
theorem tX11_toldName : Mt yX11_toldName cX11_toldName 7 (some .int) 5 116 fX11_toldName := Mt.of (K := kX11_toldName) (by decide +kernel) (fun _ _ _ => rfl) sX11_toldName
theorem crX11_toldName : yX11_toldName.cls ≠ "java/lang/invoke/MethodHandle" ∧ yX11_toldName.cls ≠ "java/lang/invoke/VarHandle" ∧ (parseMethodDescriptor yX11_toldName.desc).map (fun d => d.parameters.length) = some 2 := by decide +kernel
theorem dX11_isHere_0 : decode cX11_isHere 0 = .ok (.aload_n 0, 1) := by decide +kernel
theorem dX11_isHere_1 : decode cX11_isHere 1 = .ok (.invokevirtual 158, 3) := by decide +kernel
theorem dX11_isHere_4 : decode cX11_isHere 4 = .ok (.istore_n 1, 1) := by decide +kernel
theorem dX11_isHere_5 : decode cX11_isHere 5 = .ok (.aload_n 0, 1) := by decide +kernel
theorem dX11_isHere_6 : decode cX11_isHere 6 = .ok (.bipush 9, 2) := by decide +kernel
theorem dX11_isHere_8 : decode cX11_isHere 8 = .ok (.bipush 19, 2) := by decide +kernel
theorem dX11_isHere_10 : decode cX11_isHere 10 = .ok (.iconst 0, 1) := by decide +kernel
theorem dX11_isHere_11 : decode cX11_isHere 11 = .ok (.iconst 0, 1) := by decide +kernel
theorem dX11_isHere_12 : decode cX11_isHere 12 = .ok (.iconst 0, 1) := by decide +kernel
theorem dX11_isHere_13 : decode cX11_isHere 13 = .ok (.iconst 0, 1) := by decide +kernel
theorem dX11_isHere_14 : decode cX11_isHere 14 = .ok (.invokevirtual 176, 3) := by decide +kernel
theorem dX11_isHere_17 : decode cX11_isHere 17 = .ok (.istore_n 2, 1) := by decide +kernel
theorem dX11_isHere_18 : decode cX11_isHere 18 = .ok (.aload_n 0, 1) := by decide +kernel
theorem dX11_isHere_19 : decode cX11_isHere 19 = .ok (.bipush 14, 2) := by decide +kernel
theorem dX11_isHere_21 : decode cX11_isHere 21 = .ok (.bipush 15, 2) := by decide +kernel
theorem dX11_isHere_23 : decode cX11_isHere 23 = .ok (.bipush 20, 2) := by decide +kernel
theorem dX11_isHere_25 : decode cX11_isHere 25 = .ok (.iconst 0, 1) := by decide +kernel
theorem dX11_isHere_26 : decode cX11_isHere 26 = .ok (.iconst 0, 1) := by decide +kernel
theorem dX11_isHere_27 : decode cX11_isHere 27 = .ok (.iconst 0, 1) := by decide +kernel
theorem dX11_isHere_28 : decode cX11_isHere 28 = .ok (.invokevirtual 176, 3) := by decide +kernel
theorem dX11_isHere_31 : decode cX11_isHere 31 = .ok (.istore_n 3, 1) := by decide +kernel
theorem dX11_isHere_32 : decode cX11_isHere 32 = .ok (.iload_n 1, 1) := by decide +kernel
theorem dX11_isHere_33 : decode cX11_isHere 33 = .ok (.ifCond .ne 15, 3) := by decide +kernel
theorem dX11_isHere_36 : decode cX11_isHere 36 = .ok (.aload_n 0, 1) := by decide +kernel
theorem dX11_isHere_37 : decode cX11_isHere 37 = .ok (.iconst 1, 1) := by decide +kernel
theorem dX11_isHere_38 : decode cX11_isHere 38 = .ok (.aload_n 0, 1) := by decide +kernel
theorem dX11_isHere_39 : decode cX11_isHere 39 = .ok (.getfield 129, 3) := by decide +kernel
theorem dX11_isHere_42 : decode cX11_isHere 42 = .ok (.invokevirtual 149, 3) := by decide +kernel
theorem dX11_isHere_45 : decode cX11_isHere 45 = .ok (.goto 20, 3) := by decide +kernel
theorem dX11_isHere_48 : decode cX11_isHere 48 = .ok (.iload_n 2, 1) := by decide +kernel
theorem dX11_isHere_49 : decode cX11_isHere 49 = .ok (.ifCond .ne 16, 3) := by decide +kernel
theorem dX11_isHere_52 : decode cX11_isHere 52 = .ok (.iload_n 3, 1) := by decide +kernel
theorem dX11_isHere_53 : decode cX11_isHere 53 = .ok (.ifCond .ne 12, 3) := by decide +kernel
theorem dX11_isHere_56 : decode cX11_isHere 56 = .ok (.aload_n 0, 1) := by decide +kernel
theorem dX11_isHere_57 : decode cX11_isHere 57 = .ok (.iconst 2, 1) := by decide +kernel
theorem dX11_isHere_58 : decode cX11_isHere 58 = .ok (.aload_n 0, 1) := by decide +kernel
theorem dX11_isHere_59 : decode cX11_isHere 59 = .ok (.getfield 129, 3) := by decide +kernel
theorem dX11_isHere_62 : decode cX11_isHere 62 = .ok (.invokevirtual 149, 3) := by decide +kernel
theorem dX11_isHere_65 : decode cX11_isHere 65 = .ok (.aload_n 0, 1) := by decide +kernel
theorem dX11_isHere_66 : decode cX11_isHere 66 = .ok (.getfield 136, 3) := by decide +kernel
theorem dX11_isHere_69 : decode cX11_isHere 69 = .ok (.ifCond .ne 13, 3) := by decide +kernel
theorem dX11_isHere_72 : decode cX11_isHere 72 = .ok (.aload_n 0, 1) := by decide +kernel
theorem dX11_isHere_73 : decode cX11_isHere 73 = .ok (.dup, 1) := by decide +kernel
theorem dX11_isHere_74 : decode cX11_isHere 74 = .ok (.getfield 129, 3) := by decide +kernel
theorem dX11_isHere_77 : decode cX11_isHere 77 = .ok (.iload_n 1, 1) := by decide +kernel
theorem dX11_isHere_78 : decode cX11_isHere 78 = .ok (.iadd, 1) := by decide +kernel
theorem dX11_isHere_79 : decode cX11_isHere 79 = .ok (.putfield 129, 3) := by decide +kernel
theorem dX11_isHere_82 : decode cX11_isHere 82 = .ok (.iload_n 2, 1) := by decide +kernel
theorem dX11_isHere_83 : decode cX11_isHere 83 = .ok (.ifCond .eq 7, 3) := by decide +kernel
theorem dX11_isHere_86 : decode cX11_isHere 86 = .ok (.iconst 0, 1) := by decide +kernel
theorem dX11_isHere_87 : decode cX11_isHere 87 = .ok (.goto 4, 3) := by decide +kernel
theorem dX11_isHere_90 : decode cX11_isHere 90 = .ok (.iconst 1, 1) := by decide +kernel
theorem dX11_isHere_91 : decode cX11_isHere 91 = .ok (.ireturn, 1) := by decide +kernel
abbrev mX11_isHere : MD := (cX11_isHere, "BlottedDeedModel", 4, 6, 142, (some .int), "isHere", [])
def bX11_isHere_0 (g : GE) (J : Nat → KT) : KT := i_aload 0 (i_cv fX11_lettersHere g 0 10 (i_istore 1 (i_aload 0 (i_push (.int 9) (i_push (.int 19) (i_push (.int 0) (i_push (.int 0) (i_push (.int 0) (i_push (.int 0) (i_cv fX11_isWord g 6 10 (i_istore 2 (i_aload 0 (i_push (.int 14) (i_push (.int 15) (i_push (.int 20) (i_push (.int 0) (i_push (.int 0) (i_push (.int 0) (i_cv fX11_isWord g 6 10 (i_istore 3 (i_iload 1 (i_ifne (i_iload 2 (i_ifne (i_jmp [true, true, true, false] (J 1)) (i_iload 3 (i_ifne (i_jmp [true, true, true, false] (J 1)) (i_aload 0 (i_push (.int 2) (i_aload 0 (i_getf 10 4 (i_cv fX11_wrong g 2 10 (i_jmp [true, true, true, false] (J 1))))))))))) (i_aload 0 (i_push (.int 1) (i_aload 0 (i_getf 10 4 (i_cv fX11_wrong g 2 10 (i_jmp [true, true, true, false] (J 1)))))))))))))))))))))))))))))
def bX11_isHere_1 (g : GE) (J : Nat → KT) : KT := i_aload 0 (i_getf 10 5 (i_ifne (i_jmp [false, false, true, false] (J 2)) (i_aload 0 (i_dup (i_getf 10 4 (i_iload 1 (i_iadd (i_putf 10 4 .int (i_jmp [false, false, true, false] (J 2))))))))))
def bX11_isHere_2 (g : GE) (J : Nat → KT) : KT := i_iload 2 (i_ifeq (i_push (.int 1) (i_jmp [false, false, false, false] (J 3))) (i_push (.int 0) (i_jmp [false, false, false, false] (J 3))))
def bX11_isHere_3 (g : GE) (J : Nat → KT) : KT := i_ireturn
theorem sbX11_isHere_0 (g : GE) (J : Nat → KT) (h1 : Snd mX11_isHere g 65 (J 1)) (h2 : Snd mX11_isHere g 82 (J 2)) (h3 : Snd mX11_isHere g 91 (J 3)) : Snd mX11_isHere g 0 (bX11_isHere_0 g J) := by
  unfold bX11_isHere_0
  refine s_aload_n (pc := 0) (i := 0) ?_ dX11_isHere_0 rfl
  refine s_cv (pc := 1) (n := 0) (ci := 10) ?_ tX11_lettersHere rfl rfl wt_1588 wt_1590 wp_56 wt_17 wt_1591 ⟨crX11_lettersHere, by decide, by decide⟩ dX11_isHere_1
  refine s_istore_n (pc := 4) (i := 1) ?_ dX11_isHere_4 rfl (by decide)
  refine s_aload_n (pc := 5) (i := 0) ?_ dX11_isHere_5 rfl
  refine s_bipush (pc := 6) (v := 9) ?_ dX11_isHere_6 (by decide)
  refine s_bipush (pc := 8) (v := 19) ?_ dX11_isHere_8 (by decide)
  refine s_iconst (pc := 10) (v := 0) ?_ dX11_isHere_10 (by decide)
  refine s_iconst (pc := 11) (v := 0) ?_ dX11_isHere_11 (by decide)
  refine s_iconst (pc := 12) (v := 0) ?_ dX11_isHere_12 (by decide)
  refine s_iconst (pc := 13) (v := 0) ?_ dX11_isHere_13 (by decide)
  refine s_cv (pc := 14) (n := 6) (ci := 10) ?_ tX11_isWord rfl rfl wt_1580 wt_1582 wp_54 wt_17 wt_1583 ⟨crX11_isWord, by decide, by decide⟩ dX11_isHere_14
  refine s_istore_n (pc := 17) (i := 2) ?_ dX11_isHere_17 rfl (by decide)
  refine s_aload_n (pc := 18) (i := 0) ?_ dX11_isHere_18 rfl
  refine s_bipush (pc := 19) (v := 14) ?_ dX11_isHere_19 (by decide)
  refine s_bipush (pc := 21) (v := 15) ?_ dX11_isHere_21 (by decide)
  refine s_bipush (pc := 23) (v := 20) ?_ dX11_isHere_23 (by decide)
  refine s_iconst (pc := 25) (v := 0) ?_ dX11_isHere_25 (by decide)
  refine s_iconst (pc := 26) (v := 0) ?_ dX11_isHere_26 (by decide)
  refine s_iconst (pc := 27) (v := 0) ?_ dX11_isHere_27 (by decide)
  refine s_cv (pc := 28) (n := 6) (ci := 10) ?_ tX11_isWord rfl rfl wt_1580 wt_1582 wp_54 wt_17 wt_1583 ⟨crX11_isWord, by decide, by decide⟩ dX11_isHere_28
  refine s_istore_n (pc := 31) (i := 3) ?_ dX11_isHere_31 rfl (by decide)
  refine s_iload_n (pc := 32) (i := 1) ?_ dX11_isHere_32 rfl
  refine s_ifne (pc := 33) (tgt := 48) ?_ ?_ dX11_isHere_33 (by decide)
  · skip
    refine s_iload_n (pc := 48) (i := 2) ?_ dX11_isHere_48 rfl
    refine s_ifne (pc := 49) (tgt := 65) ?_ ?_ dX11_isHere_49 (by decide)
    · skip
      exact s_fall (pc := 65) h1
    · skip
      refine s_iload_n (pc := 52) (i := 3) ?_ dX11_isHere_52 rfl
      refine s_ifne (pc := 53) (tgt := 65) ?_ ?_ dX11_isHere_53 (by decide)
      · skip
        exact s_fall (pc := 65) h1
      · skip
        refine s_aload_n (pc := 56) (i := 0) ?_ dX11_isHere_56 rfl
        refine s_iconst (pc := 57) (v := 2) ?_ dX11_isHere_57 (by decide)
        refine s_aload_n (pc := 58) (i := 0) ?_ dX11_isHere_58 rfl
        refine s_getf (pc := 59) (ci := 10) (f := 4) (T := TX11) ?_ ginX11 rfl (by decide) wt_1397 dX11_isHere_59
        refine s_cv (pc := 62) (n := 2) (ci := 10) ?_ tX11_wrong rfl rfl wt_1599 wt_1601 wp_57 wt_17 wt_1602 ⟨crX11_wrong, by decide, by decide⟩ dX11_isHere_62
        exact s_fall (pc := 65) h1
  · skip
    refine s_aload_n (pc := 36) (i := 0) ?_ dX11_isHere_36 rfl
    refine s_iconst (pc := 37) (v := 1) ?_ dX11_isHere_37 (by decide)
    refine s_aload_n (pc := 38) (i := 0) ?_ dX11_isHere_38 rfl
    refine s_getf (pc := 39) (ci := 10) (f := 4) (T := TX11) ?_ ginX11 rfl (by decide) wt_1397 dX11_isHere_39
    refine s_cv (pc := 42) (n := 2) (ci := 10) ?_ tX11_wrong rfl rfl wt_1599 wt_1601 wp_57 wt_17 wt_1602 ⟨crX11_wrong, by decide, by decide⟩ dX11_isHere_42
    exact s_goto (pc := 45) (tgt := 65) h1 dX11_isHere_45 (by decide)
theorem sbX11_isHere_1 (g : GE) (J : Nat → KT) (h1 : Snd mX11_isHere g 65 (J 1)) (h2 : Snd mX11_isHere g 82 (J 2)) (h3 : Snd mX11_isHere g 91 (J 3)) : Snd mX11_isHere g 65 (bX11_isHere_1 g J) := by
  unfold bX11_isHere_1
  refine s_aload_n (pc := 65) (i := 0) ?_ dX11_isHere_65 rfl
  refine s_getf (pc := 66) (ci := 10) (f := 5) (T := TX11) ?_ ginX11 rfl (by decide) wt_1398 dX11_isHere_66
  refine s_ifne (pc := 69) (tgt := 82) ?_ ?_ dX11_isHere_69 (by decide)
  · skip
    exact s_fall (pc := 82) h2
  · skip
    refine s_aload_n (pc := 72) (i := 0) ?_ dX11_isHere_72 rfl
    refine s_dup (pc := 73) ?_ dX11_isHere_73
    refine s_getf (pc := 74) (ci := 10) (f := 4) (T := TX11) ?_ ginX11 rfl (by decide) wt_1397 dX11_isHere_74
    refine s_iload_n (pc := 77) (i := 1) ?_ dX11_isHere_77 rfl
    refine s_iadd (pc := 78) ?_ dX11_isHere_78
    refine s_putf (pc := 79) (ci := 10) (f := 4) (T := TX11) (ty0 := tyX11) ?_ ginX11 tyX11_ok nmX11 rfl (by decide) rfl rfl wt_1397 dX11_isHere_79
    exact s_fall (pc := 82) h2
theorem sbX11_isHere_2 (g : GE) (J : Nat → KT) (h1 : Snd mX11_isHere g 65 (J 1)) (h2 : Snd mX11_isHere g 82 (J 2)) (h3 : Snd mX11_isHere g 91 (J 3)) : Snd mX11_isHere g 82 (bX11_isHere_2 g J) := by
  unfold bX11_isHere_2
  refine s_iload_n (pc := 82) (i := 2) ?_ dX11_isHere_82 rfl
  refine s_ifeq (pc := 83) (tgt := 90) ?_ ?_ dX11_isHere_83 (by decide)
  · skip
    refine s_iconst (pc := 90) (v := 1) ?_ dX11_isHere_90 (by decide)
    exact s_fall (pc := 91) h3
  · skip
    refine s_iconst (pc := 86) (v := 0) ?_ dX11_isHere_86 (by decide)
    exact s_goto (pc := 87) (tgt := 91) h3 dX11_isHere_87 (by decide)
theorem sbX11_isHere_3 (g : GE) (J : Nat → KT) (h1 : Snd mX11_isHere g 65 (J 1)) (h2 : Snd mX11_isHere g 82 (J 2)) (h3 : Snd mX11_isHere g 91 (J 3)) : Snd mX11_isHere g 91 (bX11_isHere_3 g J) := by
  unfold bX11_isHere_3
  exact s_ireturn (pc := 91) rfl dX11_isHere_91
def jX11_isHere (g : GE) : Nat → Nat → KT
  | 0, _ => fun _ _ _ => none
  | n + 1, 0 => bX11_isHere_0 g (jX11_isHere g n)
  | n + 1, 1 => bX11_isHere_1 g (jX11_isHere g n)
  | n + 1, 2 => bX11_isHere_2 g (jX11_isHere g n)
  | n + 1, 3 => bX11_isHere_3 g (jX11_isHere g n)
  | _ + 1, _ + 4 => fun _ _ _ => none
theorem sjX11_isHere (g : GE) : ∀ n, Snd mX11_isHere g 0 (jX11_isHere g n 0) ∧ Snd mX11_isHere g 65 (jX11_isHere g n 1) ∧ Snd mX11_isHere g 82 (jX11_isHere g n 2) ∧ Snd mX11_isHere g 91 (jX11_isHere g n 3)
  | 0 => ⟨s_none, s_none, s_none, s_none⟩
  | n + 1 => by
    obtain ⟨-, h1, h2, h3⟩ := sjX11_isHere g n
    exact ⟨sbX11_isHere_0 g _ h1 h2 h3, sbX11_isHere_1 g _ h1 h2 h3, sbX11_isHere_2 g _ h1 h2 h3, sbX11_isHere_3 g _ h1 h2 h3⟩
def kX11_isHere (g : GE) : KT := jX11_isHere g g.1 0
theorem sX11_isHere (g : GE) : Snd mX11_isHere g 0 (kX11_isHere g) := (sjX11_isHere g g.1).1
def fX11_isHere : FT := fun g av w => if (ent av).length ≤ 4 then kX11_isHere g [] (entp 4 av) w else none
theorem tX11_isHere : Mt yX11_isHere cX11_isHere 4 (some .int) 6 142 fX11_isHere := Mt.of (K := kX11_isHere) (by decide +kernel) (fun _ _ _ => rfl) sX11_isHere
theorem crX11_isHere : yX11_isHere.cls ≠ "java/lang/invoke/MethodHandle" ∧ yX11_isHere.cls ≠ "java/lang/invoke/VarHandle" ∧ (parseMethodDescriptor yX11_isHere.desc).map (fun d => d.parameters.length) = some 0 := by decide +kernel
theorem dX11_spotHere_0 : decode cX11_spotHere 0 = .ok (.aload_n 0, 1) := by decide +kernel
theorem dX11_spotHere_1 : decode cX11_spotHere 1 = .ok (.getfield 136, 3) := by decide +kernel
theorem dX11_spotHere_4 : decode cX11_spotHere 4 = .ok (.ifCond .eq 4, 3) := by decide +kernel
theorem dX11_spotHere_7 : decode cX11_spotHere 7 = .ok (.return_, 1) := by decide +kernel
theorem dX11_spotHere_8 : decode cX11_spotHere 8 = .ok (.aload_n 0, 1) := by decide +kernel
theorem dX11_spotHere_9 : decode cX11_spotHere 9 = .ok (.invokevirtual 142, 3) := by decide +kernel
theorem dX11_spotHere_12 : decode cX11_spotHere 12 = .ok (.aload_n 0, 1) := by decide +kernel
theorem dX11_spotHere_13 : decode cX11_spotHere 13 = .ok (.getfield 56, 3) := by decide +kernel
theorem dX11_spotHere_16 : decode cX11_spotHere 16 = .ok (.aload_n 0, 1) := by decide +kernel
theorem dX11_spotHere_17 : decode cX11_spotHere 17 = .ok (.getfield 20, 3) := by decide +kernel
theorem dX11_spotHere_20 : decode cX11_spotHere 20 = .ok (.iconst 5, 1) := by decide +kernel
theorem dX11_spotHere_21 : decode cX11_spotHere 21 = .ok (.iaload, 1) := by decide +kernel
theorem dX11_spotHere_22 : decode cX11_spotHere 22 = .ok (.aaload, 1) := by decide +kernel
theorem dX11_spotHere_23 : decode cX11_spotHere 23 = .ok (.astore_n 2, 1) := by decide +kernel
theorem dX11_spotHere_24 : decode cX11_spotHere 24 = .ok (.aload_n 2, 1) := by decide +kernel
theorem dX11_spotHere_25 : decode cX11_spotHere 25 = .ok (.iconst 0, 1) := by decide +kernel
theorem dX11_spotHere_26 : decode cX11_spotHere 26 = .ok (.iload_n 1, 1) := by decide +kernel
theorem dX11_spotHere_27 : decode cX11_spotHere 27 = .ok (.iastore, 1) := by decide +kernel
theorem dX11_spotHere_28 : decode cX11_spotHere 28 = .ok (.aload_n 2, 1) := by decide +kernel
theorem dX11_spotHere_29 : decode cX11_spotHere 29 = .ok (.iconst 1, 1) := by decide +kernel
theorem dX11_spotHere_30 : decode cX11_spotHere 30 = .ok (.iconst 0, 1) := by decide +kernel
theorem dX11_spotHere_31 : decode cX11_spotHere 31 = .ok (.iastore, 1) := by decide +kernel
theorem dX11_spotHere_32 : decode cX11_spotHere 32 = .ok (.aload_n 2, 1) := by decide +kernel
theorem dX11_spotHere_33 : decode cX11_spotHere 33 = .ok (.iconst 2, 1) := by decide +kernel
theorem dX11_spotHere_34 : decode cX11_spotHere 34 = .ok (.iconst (-1), 1) := by decide +kernel
theorem dX11_spotHere_35 : decode cX11_spotHere 35 = .ok (.iastore, 1) := by decide +kernel
theorem dX11_spotHere_36 : decode cX11_spotHere 36 = .ok (.aload_n 0, 1) := by decide +kernel
theorem dX11_spotHere_37 : decode cX11_spotHere 37 = .ok (.aload_n 0, 1) := by decide +kernel
theorem dX11_spotHere_38 : decode cX11_spotHere 38 = .ok (.getfield 129, 3) := by decide +kernel
theorem dX11_spotHere_41 : decode cX11_spotHere 41 = .ok (.invokevirtual 132, 3) := by decide +kernel
theorem dX11_spotHere_44 : decode cX11_spotHere 44 = .ok (.bipush 35, 2) := by decide +kernel
theorem dX11_spotHere_46 : decode cX11_spotHere 46 = .ok (.if_icmp .ne 12, 3) := by decide +kernel
theorem dX11_spotHere_49 : decode cX11_spotHere 49 = .ok (.aload_n 0, 1) := by decide +kernel
theorem dX11_spotHere_50 : decode cX11_spotHere 50 = .ok (.iload_n 1, 1) := by decide +kernel
theorem dX11_spotHere_51 : decode cX11_spotHere 51 = .ok (.aload_n 2, 1) := by decide +kernel
theorem dX11_spotHere_52 : decode cX11_spotHere 52 = .ok (.invokevirtual 208, 3) := by decide +kernel
theorem dX11_spotHere_55 : decode cX11_spotHere 55 = .ok (.goto 43, 3) := by decide +kernel
theorem dX11_spotHere_58 : decode cX11_spotHere 58 = .ok (.aload_n 2, 1) := by decide +kernel
theorem dX11_spotHere_59 : decode cX11_spotHere 59 = .ok (.iconst 1, 1) := by decide +kernel
theorem dX11_spotHere_60 : decode cX11_spotHere 60 = .ok (.iload_n 1, 1) := by decide +kernel
theorem dX11_spotHere_61 : decode cX11_spotHere 61 = .ok (.ifCond .ne 13, 3) := by decide +kernel
theorem dX11_spotHere_64 : decode cX11_spotHere 64 = .ok (.aload_n 0, 1) := by decide +kernel
theorem dX11_spotHere_65 : decode cX11_spotHere 65 = .ok (.iconst 0, 1) := by decide +kernel
theorem dX11_spotHere_66 : decode cX11_spotHere 66 = .ok (.bipush 99, 2) := by decide +kernel
theorem dX11_spotHere_68 : decode cX11_spotHere 68 = .ok (.invokevirtual 195, 3) := by decide +kernel
theorem dX11_spotHere_71 : decode cX11_spotHere 71 = .ok (.goto 26, 3) := by decide +kernel
theorem dX11_spotHere_74 : decode cX11_spotHere 74 = .ok (.iload_n 1, 1) := by decide +kernel
theorem dX11_spotHere_75 : decode cX11_spotHere 75 = .ok (.iconst 1, 1) := by decide +kernel
theorem dX11_spotHere_76 : decode cX11_spotHere 76 = .ok (.if_icmp .ne 17, 3) := by decide +kernel
theorem dX11_spotHere_79 : decode cX11_spotHere 79 = .ok (.aload_n 0, 1) := by decide +kernel
theorem dX11_spotHere_80 : decode cX11_spotHere 80 = .ok (.iconst 0, 1) := by decide +kernel
theorem dX11_spotHere_81 : decode cX11_spotHere 81 = .ok (.aload_n 0, 1) := by decide +kernel
theorem dX11_spotHere_82 : decode cX11_spotHere 82 = .ok (.getfield 20, 3) := by decide +kernel
theorem dX11_spotHere_85 : decode cX11_spotHere 85 = .ok (.iconst 0, 1) := by decide +kernel
theorem dX11_spotHere_86 : decode cX11_spotHere 86 = .ok (.iaload, 1) := by decide +kernel
theorem dX11_spotHere_87 : decode cX11_spotHere 87 = .ok (.invokevirtual 199, 3) := by decide +kernel
theorem dX11_spotHere_90 : decode cX11_spotHere 90 = .ok (.goto 7, 3) := by decide +kernel
theorem dX11_spotHere_93 : decode cX11_spotHere 93 = .ok (.aload_n 0, 1) := by decide +kernel
theorem dX11_spotHere_94 : decode cX11_spotHere 94 = .ok (.invokevirtual 212, 3) := by decide +kernel
theorem dX11_spotHere_97 : decode cX11_spotHere 97 = .ok (.iastore, 1) := by decide +kernel
theorem dX11_spotHere_98 : decode cX11_spotHere 98 = .ok (.aload_n 0, 1) := by decide +kernel
theorem dX11_spotHere_99 : decode cX11_spotHere 99 = .ok (.getfield 20, 3) := by decide +kernel
theorem dX11_spotHere_102 : decode cX11_spotHere 102 = .ok (.iconst 5, 1) := by decide +kernel
theorem dX11_spotHere_103 : decode cX11_spotHere 103 = .ok (.dup2, 1) := by decide +kernel
theorem dX11_spotHere_104 : decode cX11_spotHere 104 = .ok (.iaload, 1) := by decide +kernel
theorem dX11_spotHere_105 : decode cX11_spotHere 105 = .ok (.iconst 1, 1) := by decide +kernel
theorem dX11_spotHere_106 : decode cX11_spotHere 106 = .ok (.iadd, 1) := by decide +kernel
theorem dX11_spotHere_107 : decode cX11_spotHere 107 = .ok (.iastore, 1) := by decide +kernel
theorem dX11_spotHere_108 : decode cX11_spotHere 108 = .ok (.return_, 1) := by decide +kernel
abbrev mX11_spotHere : MD := (cX11_spotHere, "BlottedDeedModel", 3, 7, 165, none, "spotHere", [])
def bX11_spotHere_0 (g : GE) (J : Nat → KT) : KT := i_aload 0 (i_getf 10 5 (i_ifeq (i_aload 0 (i_cv fX11_blanks g 0 10 (i_aload 0 (i_getf 10 21 (i_aload 0 (i_getf 10 10 (i_push (.int 5) (i_iaload (i_aaload 4 (i_astore 2 (i_aload 2 (i_push (.int 0) (i_iload 1 (i_iastore (i_aload 2 (i_push (.int 1) (i_push (.int 0) (i_iastore (i_aload 2 (i_push (.int 2) (i_push (.int (-1)) (i_iastore (i_aload 0 (i_aload 0 (i_getf 10 4 (i_cv fX11_byteAt g 1 10 (i_push (.int 35) (i_icne (i_aload 2 (i_push (.int 1) (i_iload 1 (i_ifne (i_iload 1 (i_push (.int 1) (i_icne (i_aload 0 (i_cv fX11_isHere g 0 10 (i_jmp [true, false, false] (J 1)))) (i_aload 0 (i_push (.int 0) (i_aload 0 (i_getf 10 10 (i_push (.int 0) (i_iaload (i_cv fX11_toldName g 2 10 (i_jmp [true, false, false] (J 1)))))))))))) (i_aload 0 (i_push (.int 0) (i_push (.int 99) (i_cv fX11_number g 2 10 (i_jmp [true, false, false] (J 1)))))))))) (i_aload 0 (i_iload 1 (i_aload 2 (i_cv fX11_blots g 2 10 (i_jmp [true, false, false] (J 2)))))))))))))))))))))))))))))))))) (i_return)))
def bX11_spotHere_1 (g : GE) (J : Nat → KT) : KT := i_iastore (i_jmp [true, false, false] (J 2))
def bX11_spotHere_2 (g : GE) (J : Nat → KT) : KT := i_aload 0 (i_getf 10 10 (i_push (.int 5) (i_dup2 (i_iaload (i_push (.int 1) (i_iadd (i_iastore (i_return))))))))
theorem sbX11_spotHere_0 (g : GE) (J : Nat → KT) (h1 : Snd mX11_spotHere g 97 (J 1)) (h2 : Snd mX11_spotHere g 98 (J 2)) : Snd mX11_spotHere g 0 (bX11_spotHere_0 g J) := by
  unfold bX11_spotHere_0
  refine s_aload_n (pc := 0) (i := 0) ?_ dX11_spotHere_0 rfl
  refine s_getf (pc := 1) (ci := 10) (f := 5) (T := TX11) ?_ ginX11 rfl (by decide) wt_1398 dX11_spotHere_1
  refine s_ifeq (pc := 4) (tgt := 8) ?_ ?_ dX11_spotHere_4 (by decide)
  · skip
    refine s_aload_n (pc := 8) (i := 0) ?_ dX11_spotHere_8 rfl
    refine s_cv (pc := 9) (n := 0) (ci := 10) ?_ tX11_blanks rfl rfl wt_1564 wt_1566 wp_50 wt_17 wt_1567 ⟨crX11_blanks, by decide, by decide⟩ dX11_spotHere_9
    refine s_aload_n (pc := 12) (i := 0) ?_ dX11_spotHere_12 rfl
    refine s_getf (pc := 13) (ci := 10) (f := 21) (T := TX11) ?_ ginX11 rfl (by decide) wt_1414 dX11_spotHere_13
    refine s_aload_n (pc := 16) (i := 0) ?_ dX11_spotHere_16 rfl
    refine s_getf (pc := 17) (ci := 10) (f := 10) (T := TX11) ?_ ginX11 rfl (by decide) wt_1403 dX11_spotHere_17
    refine s_iconst (pc := 20) (v := 5) ?_ dX11_spotHere_20 (by decide)
    refine s_iaload (pc := 21) ?_ dX11_spotHere_21
    refine s_aaload (pc := 22) (t := 4) ?_ (by decide) rfl dX11_spotHere_22
    refine s_astore_n (pc := 23) (i := 2) ?_ dX11_spotHere_23 rfl (by decide)
    refine s_aload_n (pc := 24) (i := 2) ?_ dX11_spotHere_24 rfl
    refine s_iconst (pc := 25) (v := 0) ?_ dX11_spotHere_25 (by decide)
    refine s_iload_n (pc := 26) (i := 1) ?_ dX11_spotHere_26 rfl
    refine s_iastore (pc := 27) ?_ dX11_spotHere_27
    refine s_aload_n (pc := 28) (i := 2) ?_ dX11_spotHere_28 rfl
    refine s_iconst (pc := 29) (v := 1) ?_ dX11_spotHere_29 (by decide)
    refine s_iconst (pc := 30) (v := 0) ?_ dX11_spotHere_30 (by decide)
    refine s_iastore (pc := 31) ?_ dX11_spotHere_31
    refine s_aload_n (pc := 32) (i := 2) ?_ dX11_spotHere_32 rfl
    refine s_iconst (pc := 33) (v := 2) ?_ dX11_spotHere_33 (by decide)
    refine s_iconst (pc := 34) (v := (-1)) ?_ dX11_spotHere_34 (by decide)
    refine s_iastore (pc := 35) ?_ dX11_spotHere_35
    refine s_aload_n (pc := 36) (i := 0) ?_ dX11_spotHere_36 rfl
    refine s_aload_n (pc := 37) (i := 0) ?_ dX11_spotHere_37 rfl
    refine s_getf (pc := 38) (ci := 10) (f := 4) (T := TX11) ?_ ginX11 rfl (by decide) wt_1397 dX11_spotHere_38
    refine s_cv (pc := 41) (n := 1) (ci := 10) ?_ tX11_byteAt rfl rfl wt_1568 wt_1570 wp_51 wt_17 wt_1571 ⟨crX11_byteAt, by decide, by decide⟩ dX11_spotHere_41
    refine s_bipush (pc := 44) (v := 35) ?_ dX11_spotHere_44 (by decide)
    refine s_icne (pc := 46) (tgt := 58) ?_ ?_ dX11_spotHere_46 (by decide)
    · skip
      refine s_aload_n (pc := 58) (i := 2) ?_ dX11_spotHere_58 rfl
      refine s_iconst (pc := 59) (v := 1) ?_ dX11_spotHere_59 (by decide)
      refine s_iload_n (pc := 60) (i := 1) ?_ dX11_spotHere_60 rfl
      refine s_ifne (pc := 61) (tgt := 74) ?_ ?_ dX11_spotHere_61 (by decide)
      · skip
        refine s_iload_n (pc := 74) (i := 1) ?_ dX11_spotHere_74 rfl
        refine s_iconst (pc := 75) (v := 1) ?_ dX11_spotHere_75 (by decide)
        refine s_icne (pc := 76) (tgt := 93) ?_ ?_ dX11_spotHere_76 (by decide)
        · skip
          refine s_aload_n (pc := 93) (i := 0) ?_ dX11_spotHere_93 rfl
          refine s_cv (pc := 94) (n := 0) (ci := 10) ?_ tX11_isHere rfl rfl wt_1635 wt_1637 wp_65 wt_17 wt_1638 ⟨crX11_isHere, by decide, by decide⟩ dX11_spotHere_94
          exact s_fall (pc := 97) h1
        · skip
          refine s_aload_n (pc := 79) (i := 0) ?_ dX11_spotHere_79 rfl
          refine s_iconst (pc := 80) (v := 0) ?_ dX11_spotHere_80 (by decide)
          refine s_aload_n (pc := 81) (i := 0) ?_ dX11_spotHere_81 rfl
          refine s_getf (pc := 82) (ci := 10) (f := 10) (T := TX11) ?_ ginX11 rfl (by decide) wt_1403 dX11_spotHere_82
          refine s_iconst (pc := 85) (v := 0) ?_ dX11_spotHere_85 (by decide)
          refine s_iaload (pc := 86) ?_ dX11_spotHere_86
          refine s_cv (pc := 87) (n := 2) (ci := 10) ?_ tX11_toldName rfl rfl wt_1619 wt_1621 wp_61 wt_17 wt_1622 ⟨crX11_toldName, by decide, by decide⟩ dX11_spotHere_87
          exact s_goto (pc := 90) (tgt := 97) h1 dX11_spotHere_90 (by decide)
      · skip
        refine s_aload_n (pc := 64) (i := 0) ?_ dX11_spotHere_64 rfl
        refine s_iconst (pc := 65) (v := 0) ?_ dX11_spotHere_65 (by decide)
        refine s_bipush (pc := 66) (v := 99) ?_ dX11_spotHere_66 (by decide)
        refine s_cv (pc := 68) (n := 2) (ci := 10) ?_ tX11_number rfl rfl wt_1611 wt_1613 wp_60 wt_17 wt_1614 ⟨crX11_number, by decide, by decide⟩ dX11_spotHere_68
        exact s_goto (pc := 71) (tgt := 97) h1 dX11_spotHere_71 (by decide)
    · skip
      refine s_aload_n (pc := 49) (i := 0) ?_ dX11_spotHere_49 rfl
      refine s_iload_n (pc := 50) (i := 1) ?_ dX11_spotHere_50 rfl
      refine s_aload_n (pc := 51) (i := 2) ?_ dX11_spotHere_51 rfl
      refine s_cv (pc := 52) (n := 2) (ci := 10) ?_ tX11_blots rfl rfl wt_1631 wt_1633 wp_64 wt_17 wt_1634 ⟨crX11_blots, by decide, by decide⟩ dX11_spotHere_52
      exact s_goto (pc := 55) (tgt := 98) h2 dX11_spotHere_55 (by decide)
  · skip
    exact s_return (pc := 7) rfl dX11_spotHere_7
theorem sbX11_spotHere_1 (g : GE) (J : Nat → KT) (h1 : Snd mX11_spotHere g 97 (J 1)) (h2 : Snd mX11_spotHere g 98 (J 2)) : Snd mX11_spotHere g 97 (bX11_spotHere_1 g J) := by
  unfold bX11_spotHere_1
  refine s_iastore (pc := 97) ?_ dX11_spotHere_97
  exact s_fall (pc := 98) h2
theorem sbX11_spotHere_2 (g : GE) (J : Nat → KT) (h1 : Snd mX11_spotHere g 97 (J 1)) (h2 : Snd mX11_spotHere g 98 (J 2)) : Snd mX11_spotHere g 98 (bX11_spotHere_2 g J) := by
  unfold bX11_spotHere_2
  refine s_aload_n (pc := 98) (i := 0) ?_ dX11_spotHere_98 rfl
  refine s_getf (pc := 99) (ci := 10) (f := 10) (T := TX11) ?_ ginX11 rfl (by decide) wt_1403 dX11_spotHere_99
  refine s_iconst (pc := 102) (v := 5) ?_ dX11_spotHere_102 (by decide)
  refine s_dup2 (pc := 103) ?_ dX11_spotHere_103
  refine s_iaload (pc := 104) ?_ dX11_spotHere_104
  refine s_iconst (pc := 105) (v := 1) ?_ dX11_spotHere_105 (by decide)
  refine s_iadd (pc := 106) ?_ dX11_spotHere_106
  refine s_iastore (pc := 107) ?_ dX11_spotHere_107
  exact s_return (pc := 108) rfl dX11_spotHere_108
def jX11_spotHere (g : GE) : Nat → Nat → KT
  | 0, _ => fun _ _ _ => none
  | n + 1, 0 => bX11_spotHere_0 g (jX11_spotHere g n)
  | n + 1, 1 => bX11_spotHere_1 g (jX11_spotHere g n)
  | n + 1, 2 => bX11_spotHere_2 g (jX11_spotHere g n)
  | _ + 1, _ + 3 => fun _ _ _ => none
theorem sjX11_spotHere (g : GE) : ∀ n, Snd mX11_spotHere g 0 (jX11_spotHere g n 0) ∧ Snd mX11_spotHere g 97 (jX11_spotHere g n 1) ∧ Snd mX11_spotHere g 98 (jX11_spotHere g n 2)
  | 0 => ⟨s_none, s_none, s_none⟩
  | n + 1 => by
    obtain ⟨-, h1, h2⟩ := sjX11_spotHere g n
    exact ⟨sbX11_spotHere_0 g _ h1 h2, sbX11_spotHere_1 g _ h1 h2, sbX11_spotHere_2 g _ h1 h2⟩
def kX11_spotHere (g : GE) : KT := jX11_spotHere g g.1 0
theorem sX11_spotHere (g : GE) : Snd mX11_spotHere g 0 (kX11_spotHere g) := (sjX11_spotHere g g.1).1
def fX11_spotHere : FT := fun g av w => if (ent av).length ≤ 3 then kX11_spotHere g [] (entp 3 av) w else none
theorem tX11_spotHere : Mt yX11_spotHere cX11_spotHere 3 none 7 165 fX11_spotHere := Mt.of (K := kX11_spotHere) (by decide +kernel) (fun _ _ _ => rfl) sX11_spotHere
theorem crX11_spotHere : yX11_spotHere.cls ≠ "java/lang/invoke/MethodHandle" ∧ yX11_spotHere.cls ≠ "java/lang/invoke/VarHandle" ∧ (parseMethodDescriptor yX11_spotHere.desc).map (fun d => d.parameters.length) = some 1 := by decide +kernel
theorem dX11_reads_0 : decode cX11_reads 0 = .ok (.aload_n 0, 1) := by decide +kernel
theorem dX11_reads_1 : decode cX11_reads 1 = .ok (.getfield 50, 3) := by decide +kernel
theorem dX11_reads_4 : decode cX11_reads 4 = .ok (.aload_n 0, 1) := by decide +kernel
theorem dX11_reads_5 : decode cX11_reads 5 = .ok (.getfield 20, 3) := by decide +kernel
theorem dX11_reads_8 : decode cX11_reads 8 = .ok (.iconst 2, 1) := by decide +kernel
theorem dX11_reads_9 : decode cX11_reads 9 = .ok (.iaload, 1) := by decide +kernel
theorem dX11_reads_10 : decode cX11_reads 10 = .ok (.aaload, 1) := by decide +kernel
theorem dX11_reads_11 : decode cX11_reads 11 = .ok (.astore_n 2, 1) := by decide +kernel
theorem dX11_reads_12 : decode cX11_reads 12 = .ok (.aload_n 2, 1) := by decide +kernel
theorem dX11_reads_13 : decode cX11_reads 13 = .ok (.iconst 0, 1) := by decide +kernel
theorem dX11_reads_14 : decode cX11_reads 14 = .ok (.iload_n 1, 1) := by decide +kernel
theorem dX11_reads_15 : decode cX11_reads 15 = .ok (.iastore, 1) := by decide +kernel
theorem dX11_reads_16 : decode cX11_reads 16 = .ok (.aload_n 2, 1) := by decide +kernel
theorem dX11_reads_17 : decode cX11_reads 17 = .ok (.iconst 2, 1) := by decide +kernel
theorem dX11_reads_18 : decode cX11_reads 18 = .ok (.aload_n 0, 1) := by decide +kernel
theorem dX11_reads_19 : decode cX11_reads 19 = .ok (.getfield 20, 3) := by decide +kernel
theorem dX11_reads_22 : decode cX11_reads 22 = .ok (.iconst 5, 1) := by decide +kernel
theorem dX11_reads_23 : decode cX11_reads 23 = .ok (.iaload, 1) := by decide +kernel
theorem dX11_reads_24 : decode cX11_reads 24 = .ok (.iastore, 1) := by decide +kernel
theorem dX11_reads_25 : decode cX11_reads 25 = .ok (.iload_n 1, 1) := by decide +kernel
theorem dX11_reads_26 : decode cX11_reads 26 = .ok (.ifCond .ne 16, 3) := by decide +kernel
theorem dX11_reads_29 : decode cX11_reads 29 = .ok (.aload_n 0, 1) := by decide +kernel
theorem dX11_reads_30 : decode cX11_reads 30 = .ok (.iconst 1, 1) := by decide +kernel
theorem dX11_reads_31 : decode cX11_reads 31 = .ok (.invokevirtual 205, 3) := by decide +kernel
theorem dX11_reads_34 : decode cX11_reads 34 = .ok (.aload_n 0, 1) := by decide +kernel
theorem dX11_reads_35 : decode cX11_reads 35 = .ok (.iconst 0, 1) := by decide +kernel
theorem dX11_reads_36 : decode cX11_reads 36 = .ok (.invokevirtual 205, 3) := by decide +kernel
theorem dX11_reads_39 : decode cX11_reads 39 = .ok (.goto 64, 3) := by decide +kernel
theorem dX11_reads_42 : decode cX11_reads 42 = .ok (.iload_n 1, 1) := by decide +kernel
theorem dX11_reads_43 : decode cX11_reads 43 = .ok (.iconst 1, 1) := by decide +kernel
theorem dX11_reads_44 : decode cX11_reads 44 = .ok (.if_icmp .ne 25, 3) := by decide +kernel
theorem dX11_reads_47 : decode cX11_reads 47 = .ok (.aload_n 2, 1) := by decide +kernel
theorem dX11_reads_48 : decode cX11_reads 48 = .ok (.iconst 1, 1) := by decide +kernel
theorem dX11_reads_49 : decode cX11_reads 49 = .ok (.aload_n 0, 1) := by decide +kernel
theorem dX11_reads_50 : decode cX11_reads 50 = .ok (.iconst 4, 1) := by decide +kernel
theorem dX11_reads_51 : decode cX11_reads 51 = .ok (.aload_n 0, 1) := by decide +kernel
theorem dX11_reads_52 : decode cX11_reads 52 = .ok (.getfield 20, 3) := by decide +kernel
theorem dX11_reads_55 : decode cX11_reads 55 = .ok (.iconst 1, 1) := by decide +kernel
theorem dX11_reads_56 : decode cX11_reads 56 = .ok (.iaload, 1) := by decide +kernel
theorem dX11_reads_57 : decode cX11_reads 57 = .ok (.invokevirtual 199, 3) := by decide +kernel
theorem dX11_reads_60 : decode cX11_reads 60 = .ok (.iastore, 1) := by decide +kernel
theorem dX11_reads_61 : decode cX11_reads 61 = .ok (.aload_n 0, 1) := by decide +kernel
theorem dX11_reads_62 : decode cX11_reads 62 = .ok (.iconst 1, 1) := by decide +kernel
theorem dX11_reads_63 : decode cX11_reads 63 = .ok (.invokevirtual 205, 3) := by decide +kernel
theorem dX11_reads_66 : decode cX11_reads 66 = .ok (.goto 37, 3) := by decide +kernel
theorem dX11_reads_69 : decode cX11_reads 69 = .ok (.aload_n 0, 1) := by decide +kernel
theorem dX11_reads_70 : decode cX11_reads 70 = .ok (.iconst 2, 1) := by decide +kernel
theorem dX11_reads_71 : decode cX11_reads 71 = .ok (.invokevirtual 205, 3) := by decide +kernel
theorem dX11_reads_74 : decode cX11_reads 74 = .ok (.aload_n 0, 1) := by decide +kernel
theorem dX11_reads_75 : decode cX11_reads 75 = .ok (.iconst 1, 1) := by decide +kernel
theorem dX11_reads_76 : decode cX11_reads 76 = .ok (.invokevirtual 205, 3) := by decide +kernel
theorem dX11_reads_79 : decode cX11_reads 79 = .ok (.aload_n 2, 1) := by decide +kernel
theorem dX11_reads_80 : decode cX11_reads 80 = .ok (.iconst 1, 1) := by decide +kernel
theorem dX11_reads_81 : decode cX11_reads 81 = .ok (.aload_n 0, 1) := by decide +kernel
theorem dX11_reads_82 : decode cX11_reads 82 = .ok (.iconst 4, 1) := by decide +kernel
theorem dX11_reads_83 : decode cX11_reads 83 = .ok (.aload_n 0, 1) := by decide +kernel
theorem dX11_reads_84 : decode cX11_reads 84 = .ok (.getfield 20, 3) := by decide +kernel
theorem dX11_reads_87 : decode cX11_reads 87 = .ok (.iconst 1, 1) := by decide +kernel
theorem dX11_reads_88 : decode cX11_reads 88 = .ok (.iaload, 1) := by decide +kernel
theorem dX11_reads_89 : decode cX11_reads 89 = .ok (.invokevirtual 199, 3) := by decide +kernel
theorem dX11_reads_92 : decode cX11_reads 92 = .ok (.iastore, 1) := by decide +kernel
theorem dX11_reads_93 : decode cX11_reads 93 = .ok (.aload_n 0, 1) := by decide +kernel
theorem dX11_reads_94 : decode cX11_reads 94 = .ok (.iconst 1, 1) := by decide +kernel
theorem dX11_reads_95 : decode cX11_reads 95 = .ok (.invokevirtual 205, 3) := by decide +kernel
theorem dX11_reads_98 : decode cX11_reads 98 = .ok (.aload_n 0, 1) := by decide +kernel
theorem dX11_reads_99 : decode cX11_reads 99 = .ok (.iconst 0, 1) := by decide +kernel
theorem dX11_reads_100 : decode cX11_reads 100 = .ok (.invokevirtual 205, 3) := by decide +kernel
theorem dX11_reads_103 : decode cX11_reads 103 = .ok (.aload_n 0, 1) := by decide +kernel
theorem dX11_reads_104 : decode cX11_reads 104 = .ok (.getfield 20, 3) := by decide +kernel
theorem dX11_reads_107 : decode cX11_reads 107 = .ok (.iconst 2, 1) := by decide +kernel
theorem dX11_reads_108 : decode cX11_reads 108 = .ok (.dup2, 1) := by decide +kernel
theorem dX11_reads_109 : decode cX11_reads 109 = .ok (.iaload, 1) := by decide +kernel
theorem dX11_reads_110 : decode cX11_reads 110 = .ok (.iconst 1, 1) := by decide +kernel
theorem dX11_reads_111 : decode cX11_reads 111 = .ok (.iadd, 1) := by decide +kernel
theorem dX11_reads_112 : decode cX11_reads 112 = .ok (.iastore, 1) := by decide +kernel
theorem dX11_reads_113 : decode cX11_reads 113 = .ok (.return_, 1) := by decide +kernel
abbrev mX11_reads : MD := (cX11_reads, "BlottedDeedModel", 3, 8, 187, none, "reads", [])
def bX11_reads_0 (g : GE) (J : Nat → KT) : KT := i_aload 0 (i_getf 10 19 (i_aload 0 (i_getf 10 10 (i_push (.int 2) (i_iaload (i_aaload 4 (i_astore 2 (i_aload 2 (i_push (.int 0) (i_iload 1 (i_iastore (i_aload 2 (i_push (.int 2) (i_aload 0 (i_getf 10 10 (i_push (.int 5) (i_iaload (i_iastore (i_iload 1 (i_ifne (i_iload 1 (i_push (.int 1) (i_icne (i_aload 0 (i_push (.int 2) (i_cv fX11_spotHere g 1 10 (i_aload 0 (i_push (.int 1) (i_cv fX11_spotHere g 1 10 (i_aload 2 (i_push (.int 1) (i_aload 0 (i_push (.int 4) (i_aload 0 (i_getf 10 10 (i_push (.int 1) (i_iaload (i_cv fX11_toldName g 2 10 (i_iastore (i_aload 0 (i_push (.int 1) (i_cv fX11_spotHere g 1 10 (i_aload 0 (i_push (.int 0) (i_cv fX11_spotHere g 1 10 (i_jmp [true, false, false] (J 1)))))))))))))))))))))))) (i_aload 2 (i_push (.int 1) (i_aload 0 (i_push (.int 4) (i_aload 0 (i_getf 10 10 (i_push (.int 1) (i_iaload (i_cv fX11_toldName g 2 10 (i_iastore (i_aload 0 (i_push (.int 1) (i_cv fX11_spotHere g 1 10 (i_jmp [true, false, false] (J 1)))))))))))))))))) (i_aload 0 (i_push (.int 1) (i_cv fX11_spotHere g 1 10 (i_aload 0 (i_push (.int 0) (i_cv fX11_spotHere g 1 10 (i_jmp [true, false, false] (J 1))))))))))))))))))))))))))))
def bX11_reads_1 (g : GE) (J : Nat → KT) : KT := i_aload 0 (i_getf 10 10 (i_push (.int 2) (i_dup2 (i_iaload (i_push (.int 1) (i_iadd (i_iastore (i_return))))))))
theorem sbX11_reads_0 (g : GE) (J : Nat → KT) (h1 : Snd mX11_reads g 103 (J 1)) : Snd mX11_reads g 0 (bX11_reads_0 g J) := by
  unfold bX11_reads_0
  refine s_aload_n (pc := 0) (i := 0) ?_ dX11_reads_0 rfl
  refine s_getf (pc := 1) (ci := 10) (f := 19) (T := TX11) ?_ ginX11 rfl (by decide) wt_1412 dX11_reads_1
  refine s_aload_n (pc := 4) (i := 0) ?_ dX11_reads_4 rfl
  refine s_getf (pc := 5) (ci := 10) (f := 10) (T := TX11) ?_ ginX11 rfl (by decide) wt_1403 dX11_reads_5
  refine s_iconst (pc := 8) (v := 2) ?_ dX11_reads_8 (by decide)
  refine s_iaload (pc := 9) ?_ dX11_reads_9
  refine s_aaload (pc := 10) (t := 4) ?_ (by decide) rfl dX11_reads_10
  refine s_astore_n (pc := 11) (i := 2) ?_ dX11_reads_11 rfl (by decide)
  refine s_aload_n (pc := 12) (i := 2) ?_ dX11_reads_12 rfl
  refine s_iconst (pc := 13) (v := 0) ?_ dX11_reads_13 (by decide)
  refine s_iload_n (pc := 14) (i := 1) ?_ dX11_reads_14 rfl
  refine s_iastore (pc := 15) ?_ dX11_reads_15
  refine s_aload_n (pc := 16) (i := 2) ?_ dX11_reads_16 rfl
  refine s_iconst (pc := 17) (v := 2) ?_ dX11_reads_17 (by decide)
  refine s_aload_n (pc := 18) (i := 0) ?_ dX11_reads_18 rfl
  refine s_getf (pc := 19) (ci := 10) (f := 10) (T := TX11) ?_ ginX11 rfl (by decide) wt_1403 dX11_reads_19
  refine s_iconst (pc := 22) (v := 5) ?_ dX11_reads_22 (by decide)
  refine s_iaload (pc := 23) ?_ dX11_reads_23
  refine s_iastore (pc := 24) ?_ dX11_reads_24
  refine s_iload_n (pc := 25) (i := 1) ?_ dX11_reads_25 rfl
  refine s_ifne (pc := 26) (tgt := 42) ?_ ?_ dX11_reads_26 (by decide)
  · skip
    refine s_iload_n (pc := 42) (i := 1) ?_ dX11_reads_42 rfl
    refine s_iconst (pc := 43) (v := 1) ?_ dX11_reads_43 (by decide)
    refine s_icne (pc := 44) (tgt := 69) ?_ ?_ dX11_reads_44 (by decide)
    · skip
      refine s_aload_n (pc := 69) (i := 0) ?_ dX11_reads_69 rfl
      refine s_iconst (pc := 70) (v := 2) ?_ dX11_reads_70 (by decide)
      refine s_cv (pc := 71) (n := 1) (ci := 10) ?_ tX11_spotHere rfl rfl wt_1627 wt_1629 wp_63 wt_17 wt_1630 ⟨crX11_spotHere, by decide, by decide⟩ dX11_reads_71
      refine s_aload_n (pc := 74) (i := 0) ?_ dX11_reads_74 rfl
      refine s_iconst (pc := 75) (v := 1) ?_ dX11_reads_75 (by decide)
      refine s_cv (pc := 76) (n := 1) (ci := 10) ?_ tX11_spotHere rfl rfl wt_1627 wt_1629 wp_63 wt_17 wt_1630 ⟨crX11_spotHere, by decide, by decide⟩ dX11_reads_76
      refine s_aload_n (pc := 79) (i := 2) ?_ dX11_reads_79 rfl
      refine s_iconst (pc := 80) (v := 1) ?_ dX11_reads_80 (by decide)
      refine s_aload_n (pc := 81) (i := 0) ?_ dX11_reads_81 rfl
      refine s_iconst (pc := 82) (v := 4) ?_ dX11_reads_82 (by decide)
      refine s_aload_n (pc := 83) (i := 0) ?_ dX11_reads_83 rfl
      refine s_getf (pc := 84) (ci := 10) (f := 10) (T := TX11) ?_ ginX11 rfl (by decide) wt_1403 dX11_reads_84
      refine s_iconst (pc := 87) (v := 1) ?_ dX11_reads_87 (by decide)
      refine s_iaload (pc := 88) ?_ dX11_reads_88
      refine s_cv (pc := 89) (n := 2) (ci := 10) ?_ tX11_toldName rfl rfl wt_1619 wt_1621 wp_61 wt_17 wt_1622 ⟨crX11_toldName, by decide, by decide⟩ dX11_reads_89
      refine s_iastore (pc := 92) ?_ dX11_reads_92
      refine s_aload_n (pc := 93) (i := 0) ?_ dX11_reads_93 rfl
      refine s_iconst (pc := 94) (v := 1) ?_ dX11_reads_94 (by decide)
      refine s_cv (pc := 95) (n := 1) (ci := 10) ?_ tX11_spotHere rfl rfl wt_1627 wt_1629 wp_63 wt_17 wt_1630 ⟨crX11_spotHere, by decide, by decide⟩ dX11_reads_95
      refine s_aload_n (pc := 98) (i := 0) ?_ dX11_reads_98 rfl
      refine s_iconst (pc := 99) (v := 0) ?_ dX11_reads_99 (by decide)
      refine s_cv (pc := 100) (n := 1) (ci := 10) ?_ tX11_spotHere rfl rfl wt_1627 wt_1629 wp_63 wt_17 wt_1630 ⟨crX11_spotHere, by decide, by decide⟩ dX11_reads_100
      exact s_fall (pc := 103) h1
    · skip
      refine s_aload_n (pc := 47) (i := 2) ?_ dX11_reads_47 rfl
      refine s_iconst (pc := 48) (v := 1) ?_ dX11_reads_48 (by decide)
      refine s_aload_n (pc := 49) (i := 0) ?_ dX11_reads_49 rfl
      refine s_iconst (pc := 50) (v := 4) ?_ dX11_reads_50 (by decide)
      refine s_aload_n (pc := 51) (i := 0) ?_ dX11_reads_51 rfl
      refine s_getf (pc := 52) (ci := 10) (f := 10) (T := TX11) ?_ ginX11 rfl (by decide) wt_1403 dX11_reads_52
      refine s_iconst (pc := 55) (v := 1) ?_ dX11_reads_55 (by decide)
      refine s_iaload (pc := 56) ?_ dX11_reads_56
      refine s_cv (pc := 57) (n := 2) (ci := 10) ?_ tX11_toldName rfl rfl wt_1619 wt_1621 wp_61 wt_17 wt_1622 ⟨crX11_toldName, by decide, by decide⟩ dX11_reads_57
      refine s_iastore (pc := 60) ?_ dX11_reads_60
      refine s_aload_n (pc := 61) (i := 0) ?_ dX11_reads_61 rfl
      refine s_iconst (pc := 62) (v := 1) ?_ dX11_reads_62 (by decide)
      refine s_cv (pc := 63) (n := 1) (ci := 10) ?_ tX11_spotHere rfl rfl wt_1627 wt_1629 wp_63 wt_17 wt_1630 ⟨crX11_spotHere, by decide, by decide⟩ dX11_reads_63
      exact s_goto (pc := 66) (tgt := 103) h1 dX11_reads_66 (by decide)
  · skip
    refine s_aload_n (pc := 29) (i := 0) ?_ dX11_reads_29 rfl
    refine s_iconst (pc := 30) (v := 1) ?_ dX11_reads_30 (by decide)
    refine s_cv (pc := 31) (n := 1) (ci := 10) ?_ tX11_spotHere rfl rfl wt_1627 wt_1629 wp_63 wt_17 wt_1630 ⟨crX11_spotHere, by decide, by decide⟩ dX11_reads_31
    refine s_aload_n (pc := 34) (i := 0) ?_ dX11_reads_34 rfl
    refine s_iconst (pc := 35) (v := 0) ?_ dX11_reads_35 (by decide)
    refine s_cv (pc := 36) (n := 1) (ci := 10) ?_ tX11_spotHere rfl rfl wt_1627 wt_1629 wp_63 wt_17 wt_1630 ⟨crX11_spotHere, by decide, by decide⟩ dX11_reads_36
    exact s_goto (pc := 39) (tgt := 103) h1 dX11_reads_39 (by decide)
theorem sbX11_reads_1 (g : GE) (J : Nat → KT) (h1 : Snd mX11_reads g 103 (J 1)) : Snd mX11_reads g 103 (bX11_reads_1 g J) := by
  unfold bX11_reads_1
  refine s_aload_n (pc := 103) (i := 0) ?_ dX11_reads_103 rfl
  refine s_getf (pc := 104) (ci := 10) (f := 10) (T := TX11) ?_ ginX11 rfl (by decide) wt_1403 dX11_reads_104
  refine s_iconst (pc := 107) (v := 2) ?_ dX11_reads_107 (by decide)
  refine s_dup2 (pc := 108) ?_ dX11_reads_108
  refine s_iaload (pc := 109) ?_ dX11_reads_109
  refine s_iconst (pc := 110) (v := 1) ?_ dX11_reads_110 (by decide)
  refine s_iadd (pc := 111) ?_ dX11_reads_111
  refine s_iastore (pc := 112) ?_ dX11_reads_112
  exact s_return (pc := 113) rfl dX11_reads_113
def jX11_reads (g : GE) : Nat → Nat → KT
  | 0, _ => fun _ _ _ => none
  | n + 1, 0 => bX11_reads_0 g (jX11_reads g n)
  | n + 1, 1 => bX11_reads_1 g (jX11_reads g n)
  | _ + 1, _ + 2 => fun _ _ _ => none
theorem sjX11_reads (g : GE) : ∀ n, Snd mX11_reads g 0 (jX11_reads g n 0) ∧ Snd mX11_reads g 103 (jX11_reads g n 1)
  | 0 => ⟨s_none, s_none⟩
  | n + 1 => by
    obtain ⟨-, h1⟩ := sjX11_reads g n
    exact ⟨sbX11_reads_0 g _ h1, sbX11_reads_1 g _ h1⟩
def kX11_reads (g : GE) : KT := jX11_reads g g.1 0
theorem sX11_reads (g : GE) : Snd mX11_reads g 0 (kX11_reads g) := (sjX11_reads g g.1).1
def fX11_reads : FT := fun g av w => if (ent av).length ≤ 3 then kX11_reads g [] (entp 3 av) w else none
theorem tX11_reads : Mt yX11_reads cX11_reads 3 none 8 187 fX11_reads := Mt.of (K := kX11_reads) (by decide +kernel) (fun _ _ _ => rfl) sX11_reads
theorem crX11_reads : yX11_reads.cls ≠ "java/lang/invoke/MethodHandle" ∧ yX11_reads.cls ≠ "java/lang/invoke/VarHandle" ∧ (parseMethodDescriptor yX11_reads.desc).map (fun d => d.parameters.length) = some 1 := by decide +kernel
theorem dX11_clause_0 : decode cX11_clause 0 = .ok (.aload_n 0, 1) := by decide +kernel
theorem dX11_clause_1 : decode cX11_clause 1 = .ok (.invokevirtual 182, 3) := by decide +kernel
theorem dX11_clause_4 : decode cX11_clause 4 = .ok (.istore_n 1, 1) := by decide +kernel
theorem dX11_clause_5 : decode cX11_clause 5 = .ok (.iload_n 1, 1) := by decide +kernel
theorem dX11_clause_6 : decode cX11_clause 6 = .ok (.iconst (-1), 1) := by decide +kernel
theorem dX11_clause_7 : decode cX11_clause 7 = .ok (.if_icmp .ne 15, 3) := by decide +kernel
theorem dX11_clause_10 : decode cX11_clause 10 = .ok (.aload_n 0, 1) := by decide +kernel
theorem dX11_clause_11 : decode cX11_clause 11 = .ok (.iconst 1, 1) := by decide +kernel
theorem dX11_clause_12 : decode cX11_clause 12 = .ok (.aload_n 0, 1) := by decide +kernel
theorem dX11_clause_13 : decode cX11_clause 13 = .ok (.getfield 129, 3) := by decide +kernel
theorem dX11_clause_16 : decode cX11_clause 16 = .ok (.invokevirtual 149, 3) := by decide +kernel
theorem dX11_clause_19 : decode cX11_clause 19 = .ok (.goto 29, 3) := by decide +kernel
theorem dX11_clause_22 : decode cX11_clause 22 = .ok (.aload_n 0, 1) := by decide +kernel
theorem dX11_clause_23 : decode cX11_clause 23 = .ok (.getfield 185, 3) := by decide +kernel
theorem dX11_clause_26 : decode cX11_clause 26 = .ok (.bipush 40, 2) := by decide +kernel
theorem dX11_clause_28 : decode cX11_clause 28 = .ok (.if_icmp .eq 11, 3) := by decide +kernel
theorem dX11_clause_31 : decode cX11_clause 31 = .ok (.aload_n 0, 1) := by decide +kernel
theorem dX11_clause_32 : decode cX11_clause 32 = .ok (.iload_n 1, 1) := by decide +kernel
theorem dX11_clause_33 : decode cX11_clause 33 = .ok (.invokevirtual 188, 3) := by decide +kernel
theorem dX11_clause_36 : decode cX11_clause 36 = .ok (.ifCond .eq 12, 3) := by decide +kernel
theorem dX11_clause_39 : decode cX11_clause 39 = .ok (.aload_n 0, 1) := by decide +kernel
theorem dX11_clause_40 : decode cX11_clause 40 = .ok (.iconst 3, 1) := by decide +kernel
theorem dX11_clause_41 : decode cX11_clause 41 = .ok (.aload_n 0, 1) := by decide +kernel
theorem dX11_clause_42 : decode cX11_clause 42 = .ok (.getfield 129, 3) := by decide +kernel
theorem dX11_clause_45 : decode cX11_clause 45 = .ok (.invokevirtual 149, 3) := by decide +kernel
theorem dX11_clause_48 : decode cX11_clause 48 = .ok (.aload_n 0, 1) := by decide +kernel
theorem dX11_clause_49 : decode cX11_clause 49 = .ok (.getfield 136, 3) := by decide +kernel
theorem dX11_clause_52 : decode cX11_clause 52 = .ok (.ifCond .eq 4, 3) := by decide +kernel
theorem dX11_clause_55 : decode cX11_clause 55 = .ok (.return_, 1) := by decide +kernel
theorem dX11_clause_56 : decode cX11_clause 56 = .ok (.aload_n 0, 1) := by decide +kernel
theorem dX11_clause_57 : decode cX11_clause 57 = .ok (.dup, 1) := by decide +kernel
theorem dX11_clause_58 : decode cX11_clause 58 = .ok (.getfield 129, 3) := by decide +kernel
theorem dX11_clause_61 : decode cX11_clause 61 = .ok (.aload_n 0, 1) := by decide +kernel
theorem dX11_clause_62 : decode cX11_clause 62 = .ok (.invokevirtual 158, 3) := by decide +kernel
theorem dX11_clause_65 : decode cX11_clause 65 = .ok (.iadd, 1) := by decide +kernel
theorem dX11_clause_66 : decode cX11_clause 66 = .ok (.putfield 129, 3) := by decide +kernel
theorem dX11_clause_69 : decode cX11_clause 69 = .ok (.aload_n 0, 1) := by decide +kernel
theorem dX11_clause_70 : decode cX11_clause 70 = .ok (.dup, 1) := by decide +kernel
theorem dX11_clause_71 : decode cX11_clause 71 = .ok (.getfield 185, 3) := by decide +kernel
theorem dX11_clause_74 : decode cX11_clause 74 = .ok (.iconst 1, 1) := by decide +kernel
theorem dX11_clause_75 : decode cX11_clause 75 = .ok (.iadd, 1) := by decide +kernel
theorem dX11_clause_76 : decode cX11_clause 76 = .ok (.putfield 185, 3) := by decide +kernel
theorem dX11_clause_79 : decode cX11_clause 79 = .ok (.iload_n 1, 1) := by decide +kernel
theorem dX11_clause_80 : decode cX11_clause 80 = .ok (.iconst 2, 1) := by decide +kernel
theorem dX11_clause_81 : decode cX11_clause 81 = .ok (.if_icmp .ge 11, 3) := by decide +kernel
theorem dX11_clause_84 : decode cX11_clause 84 = .ok (.aload_n 0, 1) := by decide +kernel
theorem dX11_clause_85 : decode cX11_clause 85 = .ok (.iload_n 1, 1) := by decide +kernel
theorem dX11_clause_86 : decode cX11_clause 86 = .ok (.invokevirtual 191, 3) := by decide +kernel
theorem dX11_clause_89 : decode cX11_clause 89 = .ok (.goto 75, 3) := by decide +kernel
theorem dX11_clause_92 : decode cX11_clause 92 = .ok (.iload_n 1, 1) := by decide +kernel
theorem dX11_clause_93 : decode cX11_clause 93 = .ok (.iconst 2, 1) := by decide +kernel
theorem dX11_clause_94 : decode cX11_clause 94 = .ok (.if_icmp .ne 20, 3) := by decide +kernel
theorem dX11_clause_97 : decode cX11_clause 97 = .ok (.aload_n 0, 1) := by decide +kernel
theorem dX11_clause_98 : decode cX11_clause 98 = .ok (.getfield 20, 3) := by decide +kernel
theorem dX11_clause_101 : decode cX11_clause 101 = .ok (.iconst 4, 1) := by decide +kernel
theorem dX11_clause_102 : decode cX11_clause 102 = .ok (.aload_n 0, 1) := by decide +kernel
theorem dX11_clause_103 : decode cX11_clause 103 = .ok (.iconst 0, 1) := by decide +kernel
theorem dX11_clause_104 : decode cX11_clause 104 = .ok (.sipush 999, 3) := by decide +kernel
theorem dX11_clause_107 : decode cX11_clause 107 = .ok (.invokevirtual 195, 3) := by decide +kernel
theorem dX11_clause_110 : decode cX11_clause 110 = .ok (.iastore, 1) := by decide +kernel
theorem dX11_clause_111 : decode cX11_clause 111 = .ok (.goto 53, 3) := by decide +kernel
theorem dX11_clause_114 : decode cX11_clause 114 = .ok (.iload_n 1, 1) := by decide +kernel
theorem dX11_clause_115 : decode cX11_clause 115 = .ok (.iconst 3, 1) := by decide +kernel
theorem dX11_clause_116 : decode cX11_clause 116 = .ok (.if_icmp .ne 41, 3) := by decide +kernel
theorem dX11_clause_119 : decode cX11_clause 119 = .ok (.aload_n 0, 1) := by decide +kernel
theorem dX11_clause_120 : decode cX11_clause 120 = .ok (.iconst 0, 1) := by decide +kernel
theorem dX11_clause_121 : decode cX11_clause 121 = .ok (.aload_n 0, 1) := by decide +kernel
theorem dX11_clause_122 : decode cX11_clause 122 = .ok (.getfield 20, 3) := by decide +kernel
theorem dX11_clause_125 : decode cX11_clause 125 = .ok (.iconst 0, 1) := by decide +kernel
theorem dX11_clause_126 : decode cX11_clause 126 = .ok (.iaload, 1) := by decide +kernel
theorem dX11_clause_127 : decode cX11_clause 127 = .ok (.invokevirtual 199, 3) := by decide +kernel
theorem dX11_clause_130 : decode cX11_clause 130 = .ok (.istore_n 2, 1) := by decide +kernel
theorem dX11_clause_131 : decode cX11_clause 131 = .ok (.aload_n 0, 1) := by decide +kernel
theorem dX11_clause_132 : decode cX11_clause 132 = .ok (.iconst 0, 1) := by decide +kernel
theorem dX11_clause_133 : decode cX11_clause 133 = .ok (.sipush 999, 3) := by decide +kernel
theorem dX11_clause_136 : decode cX11_clause 136 = .ok (.invokevirtual 195, 3) := by decide +kernel
theorem dX11_clause_139 : decode cX11_clause 139 = .ok (.istore_n 3, 1) := by decide +kernel
theorem dX11_clause_140 : decode cX11_clause 140 = .ok (.aload_n 0, 1) := by decide +kernel
theorem dX11_clause_141 : decode cX11_clause 141 = .ok (.getfield 136, 3) := by decide +kernel
theorem dX11_clause_144 : decode cX11_clause 144 = .ok (.ifCond .ne 10, 3) := by decide +kernel
theorem dX11_clause_147 : decode cX11_clause 147 = .ok (.aload_n 0, 1) := by decide +kernel
theorem dX11_clause_148 : decode cX11_clause 148 = .ok (.getfield 38, 3) := by decide +kernel
theorem dX11_clause_151 : decode cX11_clause 151 = .ok (.iload_n 2, 1) := by decide +kernel
theorem dX11_clause_152 : decode cX11_clause 152 = .ok (.iload_n 3, 1) := by decide +kernel
theorem dX11_clause_153 : decode cX11_clause 153 = .ok (.iastore, 1) := by decide +kernel
theorem dX11_clause_154 : decode cX11_clause 154 = .ok (.goto 10, 3) := by decide +kernel
theorem dX11_clause_157 : decode cX11_clause 157 = .ok (.aload_n 0, 1) := by decide +kernel
theorem dX11_clause_158 : decode cX11_clause 158 = .ok (.iload_n 1, 1) := by decide +kernel
theorem dX11_clause_159 : decode cX11_clause 159 = .ok (.iconst 4, 1) := by decide +kernel
theorem dX11_clause_160 : decode cX11_clause 160 = .ok (.isub, 1) := by decide +kernel
theorem dX11_clause_161 : decode cX11_clause 161 = .ok (.invokevirtual 202, 3) := by decide +kernel
theorem dX11_clause_164 : decode cX11_clause 164 = .ok (.aload_n 0, 1) := by decide +kernel
theorem dX11_clause_165 : decode cX11_clause 165 = .ok (.getfield 136, 3) := by decide +kernel
theorem dX11_clause_168 : decode cX11_clause 168 = .ok (.ifCond .eq 4, 3) := by decide +kernel
theorem dX11_clause_171 : decode cX11_clause 171 = .ok (.return_, 1) := by decide +kernel
theorem dX11_clause_172 : decode cX11_clause 172 = .ok (.aload_n 0, 1) := by decide +kernel
theorem dX11_clause_173 : decode cX11_clause 173 = .ok (.invokevirtual 142, 3) := by decide +kernel
theorem dX11_clause_176 : decode cX11_clause 176 = .ok (.aload_n 0, 1) := by decide +kernel
theorem dX11_clause_177 : decode cX11_clause 177 = .ok (.aload_n 0, 1) := by decide +kernel
theorem dX11_clause_178 : decode cX11_clause 178 = .ok (.getfield 129, 3) := by decide +kernel
theorem dX11_clause_181 : decode cX11_clause 181 = .ok (.invokevirtual 132, 3) := by decide +kernel
theorem dX11_clause_184 : decode cX11_clause 184 = .ok (.bipush 59, 2) := by decide +kernel
theorem dX11_clause_186 : decode cX11_clause 186 = .ok (.if_icmp .ne 16, 3) := by decide +kernel
theorem dX11_clause_189 : decode cX11_clause 189 = .ok (.aload_n 0, 1) := by decide +kernel
theorem dX11_clause_190 : decode cX11_clause 190 = .ok (.dup, 1) := by decide +kernel
theorem dX11_clause_191 : decode cX11_clause 191 = .ok (.getfield 129, 3) := by decide +kernel
theorem dX11_clause_194 : decode cX11_clause 194 = .ok (.iconst 1, 1) := by decide +kernel
theorem dX11_clause_195 : decode cX11_clause 195 = .ok (.iadd, 1) := by decide +kernel
theorem dX11_clause_196 : decode cX11_clause 196 = .ok (.putfield 129, 3) := by decide +kernel
theorem dX11_clause_199 : decode cX11_clause 199 = .ok (.goto 12, 3) := by decide +kernel
theorem dX11_clause_202 : decode cX11_clause 202 = .ok (.aload_n 0, 1) := by decide +kernel
theorem dX11_clause_203 : decode cX11_clause 203 = .ok (.iconst 1, 1) := by decide +kernel
theorem dX11_clause_204 : decode cX11_clause 204 = .ok (.aload_n 0, 1) := by decide +kernel
theorem dX11_clause_205 : decode cX11_clause 205 = .ok (.getfield 129, 3) := by decide +kernel
theorem dX11_clause_208 : decode cX11_clause 208 = .ok (.invokevirtual 149, 3) := by decide +kernel
theorem dX11_clause_211 : decode cX11_clause 211 = .ok (.return_, 1) := by decide +kernel
abbrev mX11_clause : MD := (cX11_clause, "BlottedDeedModel", 4, 9, 209, none, "clause", [])
def bX11_clause_0 (g : GE) (J : Nat → KT) : KT := i_aload 0 (i_cv fX11_kindHere g 0 10 (i_istore 1 (i_iload 1 (i_push (.int (-1)) (i_icne (i_aload 0 (i_getf 10 7 (i_push (.int 40) (i_iceq (i_jmp [true, true, false, false] (J 1)) (i_aload 0 (i_iload 1 (i_cv fX11_isFull g 1 10 (i_ifeq (i_jmp [true, true, false, false] (J 2)) (i_jmp [true, true, false, false] (J 1)))))))))) (i_aload 0 (i_push (.int 1) (i_aload 0 (i_getf 10 4 (i_cv fX11_wrong g 2 10 (i_jmp [true, true, false, false] (J 2))))))))))))
def bX11_clause_1 (g : GE) (J : Nat → KT) : KT := i_aload 0 (i_push (.int 3) (i_aload 0 (i_getf 10 4 (i_cv fX11_wrong g 2 10 (i_jmp [true, true, false, false] (J 2))))))
def bX11_clause_2 (g : GE) (J : Nat → KT) : KT := i_aload 0 (i_getf 10 5 (i_ifeq (i_aload 0 (i_dup (i_getf 10 4 (i_aload 0 (i_cv fX11_lettersHere g 0 10 (i_iadd (i_putf 10 4 .int (i_aload 0 (i_dup (i_getf 10 7 (i_push (.int 1) (i_iadd (i_putf 10 7 .int (i_iload 1 (i_push (.int 2) (i_icge (i_iload 1 (i_push (.int 2) (i_icne (i_iload 1 (i_push (.int 3) (i_icne (i_aload 0 (i_iload 1 (i_push (.int 4) (i_isub (i_cv fX11_reads g 1 10 (i_jmp [true, false, false, false] (J 4))))))) (i_aload 0 (i_push (.int 0) (i_aload 0 (i_getf 10 10 (i_push (.int 0) (i_iaload (i_cv fX11_toldName g 2 10 (i_istore 2 (i_aload 0 (i_push (.int 0) (i_push (.int 999) (i_cv fX11_number g 2 10 (i_istore 3 (i_aload 0 (i_getf 10 5 (i_ifne (i_jmp [true, false, false, false] (J 3)) (i_aload 0 (i_getf 10 16 (i_iload 2 (i_iload 3 (i_iastore (i_jmp [true, false, false, false] (J 3)))))))))))))))))))))))))) (i_aload 0 (i_getf 10 10 (i_push (.int 4) (i_aload 0 (i_push (.int 0) (i_push (.int 999) (i_cv fX11_number g 2 10 (i_iastore (i_jmp [true, false, false, false] (J 4))))))))))))) (i_aload 0 (i_iload 1 (i_cv fX11_names g 1 10 (i_jmp [true, false, false, false] (J 4))))))))))))))))))))) (i_return)))
def bX11_clause_3 (g : GE) (J : Nat → KT) : KT := i_jmp [true, false, false, false] (J 4)
def bX11_clause_4 (g : GE) (J : Nat → KT) : KT := i_aload 0 (i_getf 10 5 (i_ifeq (i_aload 0 (i_cv fX11_blanks g 0 10 (i_aload 0 (i_aload 0 (i_getf 10 4 (i_cv fX11_byteAt g 1 10 (i_push (.int 59) (i_icne (i_aload 0 (i_push (.int 1) (i_aload 0 (i_getf 10 4 (i_cv fX11_wrong g 2 10 (i_jmp [false, false, false, false] (J 5))))))) (i_aload 0 (i_dup (i_getf 10 4 (i_push (.int 1) (i_iadd (i_putf 10 4 .int (i_jmp [false, false, false, false] (J 5)))))))))))))))) (i_return)))
def bX11_clause_5 (g : GE) (J : Nat → KT) : KT := i_return
theorem sbX11_clause_0 (g : GE) (J : Nat → KT) (h1 : Snd mX11_clause g 39 (J 1)) (h2 : Snd mX11_clause g 48 (J 2)) (h3 : Snd mX11_clause g 154 (J 3)) (h4 : Snd mX11_clause g 164 (J 4)) (h5 : Snd mX11_clause g 211 (J 5)) : Snd mX11_clause g 0 (bX11_clause_0 g J) := by
  unfold bX11_clause_0
  refine s_aload_n (pc := 0) (i := 0) ?_ dX11_clause_0 rfl
  refine s_cv (pc := 1) (n := 0) (ci := 10) ?_ tX11_kindHere rfl rfl wt_1576 wt_1578 wp_53 wt_17 wt_1579 ⟨crX11_kindHere, by decide, by decide⟩ dX11_clause_1
  refine s_istore_n (pc := 4) (i := 1) ?_ dX11_clause_4 rfl (by decide)
  refine s_iload_n (pc := 5) (i := 1) ?_ dX11_clause_5 rfl
  refine s_iconst (pc := 6) (v := (-1)) ?_ dX11_clause_6 (by decide)
  refine s_icne (pc := 7) (tgt := 22) ?_ ?_ dX11_clause_7 (by decide)
  · skip
    refine s_aload_n (pc := 22) (i := 0) ?_ dX11_clause_22 rfl
    refine s_getf (pc := 23) (ci := 10) (f := 7) (T := TX11) ?_ ginX11 rfl (by decide) wt_1400 dX11_clause_23
    refine s_bipush (pc := 26) (v := 40) ?_ dX11_clause_26 (by decide)
    refine s_iceq (pc := 28) (tgt := 39) ?_ ?_ dX11_clause_28 (by decide)
    · skip
      exact s_fall (pc := 39) h1
    · skip
      refine s_aload_n (pc := 31) (i := 0) ?_ dX11_clause_31 rfl
      refine s_iload_n (pc := 32) (i := 1) ?_ dX11_clause_32 rfl
      refine s_cv (pc := 33) (n := 1) (ci := 10) ?_ tX11_isFull rfl rfl wt_1603 wt_1605 wp_58 wt_17 wt_1606 ⟨crX11_isFull, by decide, by decide⟩ dX11_clause_33
      refine s_ifeq (pc := 36) (tgt := 48) ?_ ?_ dX11_clause_36 (by decide)
      · skip
        exact s_fall (pc := 48) h2
      · skip
        exact s_fall (pc := 39) h1
  · skip
    refine s_aload_n (pc := 10) (i := 0) ?_ dX11_clause_10 rfl
    refine s_iconst (pc := 11) (v := 1) ?_ dX11_clause_11 (by decide)
    refine s_aload_n (pc := 12) (i := 0) ?_ dX11_clause_12 rfl
    refine s_getf (pc := 13) (ci := 10) (f := 4) (T := TX11) ?_ ginX11 rfl (by decide) wt_1397 dX11_clause_13
    refine s_cv (pc := 16) (n := 2) (ci := 10) ?_ tX11_wrong rfl rfl wt_1599 wt_1601 wp_57 wt_17 wt_1602 ⟨crX11_wrong, by decide, by decide⟩ dX11_clause_16
    exact s_goto (pc := 19) (tgt := 48) h2 dX11_clause_19 (by decide)
theorem sbX11_clause_1 (g : GE) (J : Nat → KT) (h1 : Snd mX11_clause g 39 (J 1)) (h2 : Snd mX11_clause g 48 (J 2)) (h3 : Snd mX11_clause g 154 (J 3)) (h4 : Snd mX11_clause g 164 (J 4)) (h5 : Snd mX11_clause g 211 (J 5)) : Snd mX11_clause g 39 (bX11_clause_1 g J) := by
  unfold bX11_clause_1
  refine s_aload_n (pc := 39) (i := 0) ?_ dX11_clause_39 rfl
  refine s_iconst (pc := 40) (v := 3) ?_ dX11_clause_40 (by decide)
  refine s_aload_n (pc := 41) (i := 0) ?_ dX11_clause_41 rfl
  refine s_getf (pc := 42) (ci := 10) (f := 4) (T := TX11) ?_ ginX11 rfl (by decide) wt_1397 dX11_clause_42
  refine s_cv (pc := 45) (n := 2) (ci := 10) ?_ tX11_wrong rfl rfl wt_1599 wt_1601 wp_57 wt_17 wt_1602 ⟨crX11_wrong, by decide, by decide⟩ dX11_clause_45
  exact s_fall (pc := 48) h2
theorem sbX11_clause_2 (g : GE) (J : Nat → KT) (h1 : Snd mX11_clause g 39 (J 1)) (h2 : Snd mX11_clause g 48 (J 2)) (h3 : Snd mX11_clause g 154 (J 3)) (h4 : Snd mX11_clause g 164 (J 4)) (h5 : Snd mX11_clause g 211 (J 5)) : Snd mX11_clause g 48 (bX11_clause_2 g J) := by
  unfold bX11_clause_2
  refine s_aload_n (pc := 48) (i := 0) ?_ dX11_clause_48 rfl
  refine s_getf (pc := 49) (ci := 10) (f := 5) (T := TX11) ?_ ginX11 rfl (by decide) wt_1398 dX11_clause_49
  refine s_ifeq (pc := 52) (tgt := 56) ?_ ?_ dX11_clause_52 (by decide)
  · skip
    refine s_aload_n (pc := 56) (i := 0) ?_ dX11_clause_56 rfl
    refine s_dup (pc := 57) ?_ dX11_clause_57
    refine s_getf (pc := 58) (ci := 10) (f := 4) (T := TX11) ?_ ginX11 rfl (by decide) wt_1397 dX11_clause_58
    refine s_aload_n (pc := 61) (i := 0) ?_ dX11_clause_61 rfl
    refine s_cv (pc := 62) (n := 0) (ci := 10) ?_ tX11_lettersHere rfl rfl wt_1588 wt_1590 wp_56 wt_17 wt_1591 ⟨crX11_lettersHere, by decide, by decide⟩ dX11_clause_62
    refine s_iadd (pc := 65) ?_ dX11_clause_65
    refine s_putf (pc := 66) (ci := 10) (f := 4) (T := TX11) (ty0 := tyX11) ?_ ginX11 tyX11_ok nmX11 rfl (by decide) rfl rfl wt_1397 dX11_clause_66
    refine s_aload_n (pc := 69) (i := 0) ?_ dX11_clause_69 rfl
    refine s_dup (pc := 70) ?_ dX11_clause_70
    refine s_getf (pc := 71) (ci := 10) (f := 7) (T := TX11) ?_ ginX11 rfl (by decide) wt_1400 dX11_clause_71
    refine s_iconst (pc := 74) (v := 1) ?_ dX11_clause_74 (by decide)
    refine s_iadd (pc := 75) ?_ dX11_clause_75
    refine s_putf (pc := 76) (ci := 10) (f := 7) (T := TX11) (ty0 := tyX11) ?_ ginX11 tyX11_ok nmX11 rfl (by decide) rfl rfl wt_1400 dX11_clause_76
    refine s_iload_n (pc := 79) (i := 1) ?_ dX11_clause_79 rfl
    refine s_iconst (pc := 80) (v := 2) ?_ dX11_clause_80 (by decide)
    refine s_icge (pc := 81) (tgt := 92) ?_ ?_ dX11_clause_81 (by decide)
    · skip
      refine s_iload_n (pc := 92) (i := 1) ?_ dX11_clause_92 rfl
      refine s_iconst (pc := 93) (v := 2) ?_ dX11_clause_93 (by decide)
      refine s_icne (pc := 94) (tgt := 114) ?_ ?_ dX11_clause_94 (by decide)
      · skip
        refine s_iload_n (pc := 114) (i := 1) ?_ dX11_clause_114 rfl
        refine s_iconst (pc := 115) (v := 3) ?_ dX11_clause_115 (by decide)
        refine s_icne (pc := 116) (tgt := 157) ?_ ?_ dX11_clause_116 (by decide)
        · skip
          refine s_aload_n (pc := 157) (i := 0) ?_ dX11_clause_157 rfl
          refine s_iload_n (pc := 158) (i := 1) ?_ dX11_clause_158 rfl
          refine s_iconst (pc := 159) (v := 4) ?_ dX11_clause_159 (by decide)
          refine s_isub (pc := 160) ?_ dX11_clause_160
          refine s_cv (pc := 161) (n := 1) (ci := 10) ?_ tX11_reads rfl rfl wt_1623 wt_1625 wp_62 wt_17 wt_1626 ⟨crX11_reads, by decide, by decide⟩ dX11_clause_161
          exact s_fall (pc := 164) h4
        · skip
          refine s_aload_n (pc := 119) (i := 0) ?_ dX11_clause_119 rfl
          refine s_iconst (pc := 120) (v := 0) ?_ dX11_clause_120 (by decide)
          refine s_aload_n (pc := 121) (i := 0) ?_ dX11_clause_121 rfl
          refine s_getf (pc := 122) (ci := 10) (f := 10) (T := TX11) ?_ ginX11 rfl (by decide) wt_1403 dX11_clause_122
          refine s_iconst (pc := 125) (v := 0) ?_ dX11_clause_125 (by decide)
          refine s_iaload (pc := 126) ?_ dX11_clause_126
          refine s_cv (pc := 127) (n := 2) (ci := 10) ?_ tX11_toldName rfl rfl wt_1619 wt_1621 wp_61 wt_17 wt_1622 ⟨crX11_toldName, by decide, by decide⟩ dX11_clause_127
          refine s_istore_n (pc := 130) (i := 2) ?_ dX11_clause_130 rfl (by decide)
          refine s_aload_n (pc := 131) (i := 0) ?_ dX11_clause_131 rfl
          refine s_iconst (pc := 132) (v := 0) ?_ dX11_clause_132 (by decide)
          refine s_sipush (pc := 133) (v := 999) ?_ dX11_clause_133 (by decide)
          refine s_cv (pc := 136) (n := 2) (ci := 10) ?_ tX11_number rfl rfl wt_1611 wt_1613 wp_60 wt_17 wt_1614 ⟨crX11_number, by decide, by decide⟩ dX11_clause_136
          refine s_istore_n (pc := 139) (i := 3) ?_ dX11_clause_139 rfl (by decide)
          refine s_aload_n (pc := 140) (i := 0) ?_ dX11_clause_140 rfl
          refine s_getf (pc := 141) (ci := 10) (f := 5) (T := TX11) ?_ ginX11 rfl (by decide) wt_1398 dX11_clause_141
          refine s_ifne (pc := 144) (tgt := 154) ?_ ?_ dX11_clause_144 (by decide)
          · skip
            exact s_fall (pc := 154) h3
          · skip
            refine s_aload_n (pc := 147) (i := 0) ?_ dX11_clause_147 rfl
            refine s_getf (pc := 148) (ci := 10) (f := 16) (T := TX11) ?_ ginX11 rfl (by decide) wt_1409 dX11_clause_148
            refine s_iload_n (pc := 151) (i := 2) ?_ dX11_clause_151 rfl
            refine s_iload_n (pc := 152) (i := 3) ?_ dX11_clause_152 rfl
            refine s_iastore (pc := 153) ?_ dX11_clause_153
            exact s_fall (pc := 154) h3
      · skip
        refine s_aload_n (pc := 97) (i := 0) ?_ dX11_clause_97 rfl
        refine s_getf (pc := 98) (ci := 10) (f := 10) (T := TX11) ?_ ginX11 rfl (by decide) wt_1403 dX11_clause_98
        refine s_iconst (pc := 101) (v := 4) ?_ dX11_clause_101 (by decide)
        refine s_aload_n (pc := 102) (i := 0) ?_ dX11_clause_102 rfl
        refine s_iconst (pc := 103) (v := 0) ?_ dX11_clause_103 (by decide)
        refine s_sipush (pc := 104) (v := 999) ?_ dX11_clause_104 (by decide)
        refine s_cv (pc := 107) (n := 2) (ci := 10) ?_ tX11_number rfl rfl wt_1611 wt_1613 wp_60 wt_17 wt_1614 ⟨crX11_number, by decide, by decide⟩ dX11_clause_107
        refine s_iastore (pc := 110) ?_ dX11_clause_110
        exact s_goto (pc := 111) (tgt := 164) h4 dX11_clause_111 (by decide)
    · skip
      refine s_aload_n (pc := 84) (i := 0) ?_ dX11_clause_84 rfl
      refine s_iload_n (pc := 85) (i := 1) ?_ dX11_clause_85 rfl
      refine s_cv (pc := 86) (n := 1) (ci := 10) ?_ tX11_names rfl rfl wt_1607 wt_1609 wp_59 wt_17 wt_1610 ⟨crX11_names, by decide, by decide⟩ dX11_clause_86
      exact s_goto (pc := 89) (tgt := 164) h4 dX11_clause_89 (by decide)
  · skip
    exact s_return (pc := 55) rfl dX11_clause_55
theorem sbX11_clause_3 (g : GE) (J : Nat → KT) (h1 : Snd mX11_clause g 39 (J 1)) (h2 : Snd mX11_clause g 48 (J 2)) (h3 : Snd mX11_clause g 154 (J 3)) (h4 : Snd mX11_clause g 164 (J 4)) (h5 : Snd mX11_clause g 211 (J 5)) : Snd mX11_clause g 154 (bX11_clause_3 g J) := by
  unfold bX11_clause_3
  exact s_goto (pc := 154) (tgt := 164) h4 dX11_clause_154 (by decide)
theorem sbX11_clause_4 (g : GE) (J : Nat → KT) (h1 : Snd mX11_clause g 39 (J 1)) (h2 : Snd mX11_clause g 48 (J 2)) (h3 : Snd mX11_clause g 154 (J 3)) (h4 : Snd mX11_clause g 164 (J 4)) (h5 : Snd mX11_clause g 211 (J 5)) : Snd mX11_clause g 164 (bX11_clause_4 g J) := by
  unfold bX11_clause_4
  refine s_aload_n (pc := 164) (i := 0) ?_ dX11_clause_164 rfl
  refine s_getf (pc := 165) (ci := 10) (f := 5) (T := TX11) ?_ ginX11 rfl (by decide) wt_1398 dX11_clause_165
  refine s_ifeq (pc := 168) (tgt := 172) ?_ ?_ dX11_clause_168 (by decide)
  · skip
    refine s_aload_n (pc := 172) (i := 0) ?_ dX11_clause_172 rfl
    refine s_cv (pc := 173) (n := 0) (ci := 10) ?_ tX11_blanks rfl rfl wt_1564 wt_1566 wp_50 wt_17 wt_1567 ⟨crX11_blanks, by decide, by decide⟩ dX11_clause_173
    refine s_aload_n (pc := 176) (i := 0) ?_ dX11_clause_176 rfl
    refine s_aload_n (pc := 177) (i := 0) ?_ dX11_clause_177 rfl
    refine s_getf (pc := 178) (ci := 10) (f := 4) (T := TX11) ?_ ginX11 rfl (by decide) wt_1397 dX11_clause_178
    refine s_cv (pc := 181) (n := 1) (ci := 10) ?_ tX11_byteAt rfl rfl wt_1568 wt_1570 wp_51 wt_17 wt_1571 ⟨crX11_byteAt, by decide, by decide⟩ dX11_clause_181
    refine s_bipush (pc := 184) (v := 59) ?_ dX11_clause_184 (by decide)
    refine s_icne (pc := 186) (tgt := 202) ?_ ?_ dX11_clause_186 (by decide)
    · skip
      refine s_aload_n (pc := 202) (i := 0) ?_ dX11_clause_202 rfl
      refine s_iconst (pc := 203) (v := 1) ?_ dX11_clause_203 (by decide)
      refine s_aload_n (pc := 204) (i := 0) ?_ dX11_clause_204 rfl
      refine s_getf (pc := 205) (ci := 10) (f := 4) (T := TX11) ?_ ginX11 rfl (by decide) wt_1397 dX11_clause_205
      refine s_cv (pc := 208) (n := 2) (ci := 10) ?_ tX11_wrong rfl rfl wt_1599 wt_1601 wp_57 wt_17 wt_1602 ⟨crX11_wrong, by decide, by decide⟩ dX11_clause_208
      exact s_fall (pc := 211) h5
    · skip
      refine s_aload_n (pc := 189) (i := 0) ?_ dX11_clause_189 rfl
      refine s_dup (pc := 190) ?_ dX11_clause_190
      refine s_getf (pc := 191) (ci := 10) (f := 4) (T := TX11) ?_ ginX11 rfl (by decide) wt_1397 dX11_clause_191
      refine s_iconst (pc := 194) (v := 1) ?_ dX11_clause_194 (by decide)
      refine s_iadd (pc := 195) ?_ dX11_clause_195
      refine s_putf (pc := 196) (ci := 10) (f := 4) (T := TX11) (ty0 := tyX11) ?_ ginX11 tyX11_ok nmX11 rfl (by decide) rfl rfl wt_1397 dX11_clause_196
      exact s_goto (pc := 199) (tgt := 211) h5 dX11_clause_199 (by decide)
  · skip
    exact s_return (pc := 171) rfl dX11_clause_171
theorem sbX11_clause_5 (g : GE) (J : Nat → KT) (h1 : Snd mX11_clause g 39 (J 1)) (h2 : Snd mX11_clause g 48 (J 2)) (h3 : Snd mX11_clause g 154 (J 3)) (h4 : Snd mX11_clause g 164 (J 4)) (h5 : Snd mX11_clause g 211 (J 5)) : Snd mX11_clause g 211 (bX11_clause_5 g J) := by
  unfold bX11_clause_5
  exact s_return (pc := 211) rfl dX11_clause_211
def jX11_clause (g : GE) : Nat → Nat → KT
  | 0, _ => fun _ _ _ => none
  | n + 1, 0 => bX11_clause_0 g (jX11_clause g n)
  | n + 1, 1 => bX11_clause_1 g (jX11_clause g n)
  | n + 1, 2 => bX11_clause_2 g (jX11_clause g n)
  | n + 1, 3 => bX11_clause_3 g (jX11_clause g n)
  | n + 1, 4 => bX11_clause_4 g (jX11_clause g n)
  | n + 1, 5 => bX11_clause_5 g (jX11_clause g n)
  | _ + 1, _ + 6 => fun _ _ _ => none
theorem sjX11_clause (g : GE) : ∀ n, Snd mX11_clause g 0 (jX11_clause g n 0) ∧ Snd mX11_clause g 39 (jX11_clause g n 1) ∧ Snd mX11_clause g 48 (jX11_clause g n 2) ∧ Snd mX11_clause g 154 (jX11_clause g n 3) ∧ Snd mX11_clause g 164 (jX11_clause g n 4) ∧ Snd mX11_clause g 211 (jX11_clause g n 5)
  | 0 => ⟨s_none, s_none, s_none, s_none, s_none, s_none⟩
  | n + 1 => by
    obtain ⟨-, h1, h2, h3, h4, h5⟩ := sjX11_clause g n
    exact ⟨sbX11_clause_0 g _ h1 h2 h3 h4 h5, sbX11_clause_1 g _ h1 h2 h3 h4 h5, sbX11_clause_2 g _ h1 h2 h3 h4 h5, sbX11_clause_3 g _ h1 h2 h3 h4 h5, sbX11_clause_4 g _ h1 h2 h3 h4 h5, sbX11_clause_5 g _ h1 h2 h3 h4 h5⟩
def kX11_clause (g : GE) : KT := jX11_clause g g.1 0
theorem sX11_clause (g : GE) : Snd mX11_clause g 0 (kX11_clause g) := (sjX11_clause g g.1).1
def fX11_clause : FT := fun g av w => if (ent av).length ≤ 4 then kX11_clause g [] (entp 4 av) w else none
theorem tX11_clause : Mt yX11_clause cX11_clause 4 none 9 209 fX11_clause := Mt.of (K := kX11_clause) (by decide +kernel) (fun _ _ _ => rfl) sX11_clause
theorem crX11_clause : yX11_clause.cls ≠ "java/lang/invoke/MethodHandle" ∧ yX11_clause.cls ≠ "java/lang/invoke/VarHandle" ∧ (parseMethodDescriptor yX11_clause.desc).map (fun d => d.parameters.length) = some 0 := by decide +kernel
theorem dX11_cleanedBy_0 : decode cX11_cleanedBy 0 = .ok (.aload_n 0, 1) := by decide +kernel
theorem dX11_cleanedBy_1 : decode cX11_cleanedBy 1 = .ok (.iload_n 1, 1) := by decide +kernel
theorem dX11_cleanedBy_2 : decode cX11_cleanedBy 2 = .ok (.invokevirtual 273, 3) := by decide +kernel
theorem dX11_cleanedBy_5 : decode cX11_cleanedBy 5 = .ok (.iconst 0, 1) := by decide +kernel
theorem dX11_cleanedBy_6 : decode cX11_cleanedBy 6 = .ok (.istore_n 2, 1) := by decide +kernel
theorem dX11_cleanedBy_7 : decode cX11_cleanedBy 7 = .ok (.iconst 0, 1) := by decide +kernel
theorem dX11_cleanedBy_8 : decode cX11_cleanedBy 8 = .ok (.istore_n 3, 1) := by decide +kernel
theorem dX11_cleanedBy_9 : decode cX11_cleanedBy 9 = .ok (.iload_n 3, 1) := by decide +kernel
theorem dX11_cleanedBy_10 : decode cX11_cleanedBy 10 = .ok (.bipush 100, 2) := by decide +kernel
theorem dX11_cleanedBy_12 : decode cX11_cleanedBy 12 = .ok (.if_icmp .ge 30, 3) := by decide +kernel
theorem dX11_cleanedBy_15 : decode cX11_cleanedBy 15 = .ok (.aload_n 0, 1) := by decide +kernel
theorem dX11_cleanedBy_16 : decode cX11_cleanedBy 16 = .ok (.getfield 104, 3) := by decide +kernel
theorem dX11_cleanedBy_19 : decode cX11_cleanedBy 19 = .ok (.iload_n 3, 1) := by decide +kernel
theorem dX11_cleanedBy_20 : decode cX11_cleanedBy 20 = .ok (.iaload, 1) := by decide +kernel
theorem dX11_cleanedBy_21 : decode cX11_cleanedBy 21 = .ok (.iload_n 2, 1) := by decide +kernel
theorem dX11_cleanedBy_22 : decode cX11_cleanedBy 22 = .ok (.if_icmp .le 12, 3) := by decide +kernel
theorem dX11_cleanedBy_25 : decode cX11_cleanedBy 25 = .ok (.aload_n 0, 1) := by decide +kernel
theorem dX11_cleanedBy_26 : decode cX11_cleanedBy 26 = .ok (.getfield 104, 3) := by decide +kernel
theorem dX11_cleanedBy_29 : decode cX11_cleanedBy 29 = .ok (.iload_n 3, 1) := by decide +kernel
theorem dX11_cleanedBy_30 : decode cX11_cleanedBy 30 = .ok (.iaload, 1) := by decide +kernel
theorem dX11_cleanedBy_31 : decode cX11_cleanedBy 31 = .ok (.goto 4, 3) := by decide +kernel
theorem dX11_cleanedBy_34 : decode cX11_cleanedBy 34 = .ok (.iload_n 2, 1) := by decide +kernel
theorem dX11_cleanedBy_35 : decode cX11_cleanedBy 35 = .ok (.istore_n 2, 1) := by decide +kernel
theorem dX11_cleanedBy_36 : decode cX11_cleanedBy 36 = .ok (.iinc 3 1, 3) := by decide +kernel
theorem dX11_cleanedBy_39 : decode cX11_cleanedBy 39 = .ok (.goto (-30), 3) := by decide +kernel
theorem dX11_cleanedBy_42 : decode cX11_cleanedBy 42 = .ok (.iload_n 2, 1) := by decide +kernel
theorem dX11_cleanedBy_43 : decode cX11_cleanedBy 43 = .ok (.ireturn, 1) := by decide +kernel
abbrev mX11_cleanedBy : MD := (cX11_cleanedBy, "BlottedDeedModel", 4, 3, 76, (some .int), "cleanedBy", [])
def bX11_cleanedBy_0 (g : GE) (J : Nat → KT) : KT := i_aload 0 (i_iload 1 (i_cv fX11_laysHeld g 1 10 (i_push (.int 0) (i_istore 2 (i_push (.int 0) (i_istore 3 (i_jmp [true, false, true, true] (J 1))))))))
def bX11_cleanedBy_1 (g : GE) (J : Nat → KT) : KT := i_iload 3 (i_push (.int 100) (i_icge (i_iload 2 (i_ireturn)) (i_aload 0 (i_getf 10 43 (i_iload 3 (i_iaload (i_iload 2 (i_icle (i_iload 2 (i_jmp [true, false, false, true] (J 2))) (i_aload 0 (i_getf 10 43 (i_iload 3 (i_iaload (i_jmp [true, false, false, true] (J 2))))))))))))))
def bX11_cleanedBy_2 (g : GE) (J : Nat → KT) : KT := i_istore 2 (i_iinc 3 1 (i_jmp [true, false, true, true] (J 1)))
theorem sbX11_cleanedBy_0 (g : GE) (J : Nat → KT) (h1 : Snd mX11_cleanedBy g 9 (J 1)) (h2 : Snd mX11_cleanedBy g 35 (J 2)) : Snd mX11_cleanedBy g 0 (bX11_cleanedBy_0 g J) := by
  unfold bX11_cleanedBy_0
  refine s_aload_n (pc := 0) (i := 0) ?_ dX11_cleanedBy_0 rfl
  refine s_iload_n (pc := 1) (i := 1) ?_ dX11_cleanedBy_1 rfl
  refine s_cv (pc := 2) (n := 1) (ci := 10) ?_ tX11_laysHeld rfl rfl wt_1687 wt_1689 wp_71 wt_17 wt_1690 ⟨crX11_laysHeld, by decide, by decide⟩ dX11_cleanedBy_2
  refine s_iconst (pc := 5) (v := 0) ?_ dX11_cleanedBy_5 (by decide)
  refine s_istore_n (pc := 6) (i := 2) ?_ dX11_cleanedBy_6 rfl (by decide)
  refine s_iconst (pc := 7) (v := 0) ?_ dX11_cleanedBy_7 (by decide)
  refine s_istore_n (pc := 8) (i := 3) ?_ dX11_cleanedBy_8 rfl (by decide)
  exact s_fall (pc := 9) h1
theorem sbX11_cleanedBy_1 (g : GE) (J : Nat → KT) (h1 : Snd mX11_cleanedBy g 9 (J 1)) (h2 : Snd mX11_cleanedBy g 35 (J 2)) : Snd mX11_cleanedBy g 9 (bX11_cleanedBy_1 g J) := by
  unfold bX11_cleanedBy_1
  refine s_iload_n (pc := 9) (i := 3) ?_ dX11_cleanedBy_9 rfl
  refine s_bipush (pc := 10) (v := 100) ?_ dX11_cleanedBy_10 (by decide)
  refine s_icge (pc := 12) (tgt := 42) ?_ ?_ dX11_cleanedBy_12 (by decide)
  · skip
    refine s_iload_n (pc := 42) (i := 2) ?_ dX11_cleanedBy_42 rfl
    exact s_ireturn (pc := 43) rfl dX11_cleanedBy_43
  · skip
    refine s_aload_n (pc := 15) (i := 0) ?_ dX11_cleanedBy_15 rfl
    refine s_getf (pc := 16) (ci := 10) (f := 43) (T := TX11) ?_ ginX11 rfl (by decide) wt_1436 dX11_cleanedBy_16
    refine s_iload_n (pc := 19) (i := 3) ?_ dX11_cleanedBy_19 rfl
    refine s_iaload (pc := 20) ?_ dX11_cleanedBy_20
    refine s_iload_n (pc := 21) (i := 2) ?_ dX11_cleanedBy_21 rfl
    refine s_icle (pc := 22) (tgt := 34) ?_ ?_ dX11_cleanedBy_22 (by decide)
    · skip
      refine s_iload_n (pc := 34) (i := 2) ?_ dX11_cleanedBy_34 rfl
      exact s_fall (pc := 35) h2
    · skip
      refine s_aload_n (pc := 25) (i := 0) ?_ dX11_cleanedBy_25 rfl
      refine s_getf (pc := 26) (ci := 10) (f := 43) (T := TX11) ?_ ginX11 rfl (by decide) wt_1436 dX11_cleanedBy_26
      refine s_iload_n (pc := 29) (i := 3) ?_ dX11_cleanedBy_29 rfl
      refine s_iaload (pc := 30) ?_ dX11_cleanedBy_30
      exact s_goto (pc := 31) (tgt := 35) h2 dX11_cleanedBy_31 (by decide)
theorem sbX11_cleanedBy_2 (g : GE) (J : Nat → KT) (h1 : Snd mX11_cleanedBy g 9 (J 1)) (h2 : Snd mX11_cleanedBy g 35 (J 2)) : Snd mX11_cleanedBy g 35 (bX11_cleanedBy_2 g J) := by
  unfold bX11_cleanedBy_2
  refine s_istore_n (pc := 35) (i := 2) ?_ dX11_cleanedBy_35 rfl (by decide)
  refine s_iinc (pc := 36) (i := 3) (v := 1) ?_ dX11_cleanedBy_36 (by decide) (by decide)
  exact s_goto (pc := 39) (tgt := 9) h1 dX11_cleanedBy_39 (by decide)
def jX11_cleanedBy (g : GE) : Nat → Nat → KT
  | 0, _ => fun _ _ _ => none
  | n + 1, 0 => bX11_cleanedBy_0 g (jX11_cleanedBy g n)
  | n + 1, 1 => bX11_cleanedBy_1 g (jX11_cleanedBy g n)
  | n + 1, 2 => bX11_cleanedBy_2 g (jX11_cleanedBy g n)
  | _ + 1, _ + 3 => fun _ _ _ => none
theorem sjX11_cleanedBy (g : GE) : ∀ n, Snd mX11_cleanedBy g 0 (jX11_cleanedBy g n 0) ∧ Snd mX11_cleanedBy g 9 (jX11_cleanedBy g n 1) ∧ Snd mX11_cleanedBy g 35 (jX11_cleanedBy g n 2)
  | 0 => ⟨s_none, s_none, s_none⟩
  | n + 1 => by
    obtain ⟨-, h1, h2⟩ := sjX11_cleanedBy g n
    exact ⟨sbX11_cleanedBy_0 g _ h1 h2, sbX11_cleanedBy_1 g _ h1 h2, sbX11_cleanedBy_2 g _ h1 h2⟩
def kX11_cleanedBy (g : GE) : KT := jX11_cleanedBy g g.1 0
theorem sX11_cleanedBy (g : GE) : Snd mX11_cleanedBy g 0 (kX11_cleanedBy g) := (sjX11_cleanedBy g g.1).1
def fX11_cleanedBy : FT := fun g av w => if (ent av).length ≤ 4 then kX11_cleanedBy g [] (entp 4 av) w else none
theorem tX11_cleanedBy : Mt yX11_cleanedBy cX11_cleanedBy 4 (some .int) 3 76 fX11_cleanedBy := Mt.of (K := kX11_cleanedBy) (by decide +kernel) (fun _ _ _ => rfl) sX11_cleanedBy
theorem crX11_cleanedBy : yX11_cleanedBy.cls ≠ "java/lang/invoke/MethodHandle" ∧ yX11_cleanedBy.cls ≠ "java/lang/invoke/VarHandle" ∧ (parseMethodDescriptor yX11_cleanedBy.desc).map (fun d => d.parameters.length) = some 1 := by decide +kernel
theorem dX11_cleaned_0 : decode cX11_cleaned 0 = .ok (.aload_n 0, 1) := by decide +kernel
theorem dX11_cleaned_1 : decode cX11_cleaned 1 = .ok (.iconst 0, 1) := by decide +kernel
theorem dX11_cleaned_2 : decode cX11_cleaned 2 = .ok (.putfield 120, 3) := by decide +kernel
theorem dX11_cleaned_5 : decode cX11_cleaned 5 = .ok (.aload_n 0, 1) := by decide +kernel
theorem dX11_cleaned_6 : decode cX11_cleaned 6 = .ok (.aload_n 0, 1) := by decide +kernel
theorem dX11_cleaned_7 : decode cX11_cleaned 7 = .ok (.iload_n 1, 1) := by decide +kernel
theorem dX11_cleaned_8 : decode cX11_cleaned 8 = .ok (.invokevirtual 234, 3) := by decide +kernel
theorem dX11_cleaned_11 : decode cX11_cleaned 11 = .ok (.ifCond .ne 7, 3) := by decide +kernel
theorem dX11_cleaned_14 : decode cX11_cleaned 14 = .ok (.iconst 1, 1) := by decide +kernel
theorem dX11_cleaned_15 : decode cX11_cleaned 15 = .ok (.goto 4, 3) := by decide +kernel
theorem dX11_cleaned_18 : decode cX11_cleaned 18 = .ok (.iconst 0, 1) := by decide +kernel
theorem dX11_cleaned_19 : decode cX11_cleaned 19 = .ok (.iconst 1, 1) := by decide +kernel
theorem dX11_cleaned_20 : decode cX11_cleaned 20 = .ok (.iconst 1, 1) := by decide +kernel
theorem dX11_cleaned_21 : decode cX11_cleaned 21 = .ok (.invokevirtual 215, 3) := by decide +kernel
theorem dX11_cleaned_24 : decode cX11_cleaned 24 = .ok (.ifCond .eq 5, 3) := by decide +kernel
theorem dX11_cleaned_27 : decode cX11_cleaned 27 = .ok (.iconst 0, 1) := by decide +kernel
theorem dX11_cleaned_28 : decode cX11_cleaned 28 = .ok (.ireturn, 1) := by decide +kernel
theorem dX11_cleaned_29 : decode cX11_cleaned 29 = .ok (.aload_n 0, 1) := by decide +kernel
theorem dX11_cleaned_30 : decode cX11_cleaned 30 = .ok (.iload_n 1, 1) := by decide +kernel
theorem dX11_cleaned_31 : decode cX11_cleaned 31 = .ok (.invokevirtual 291, 3) := by decide +kernel
theorem dX11_cleaned_34 : decode cX11_cleaned 34 = .ok (.ireturn, 1) := by decide +kernel
abbrev mX11_cleaned : MD := (cX11_cleaned, "BlottedDeedModel", 2, 4, 99, (some .int), "cleaned", [])
def bX11_cleaned_0 (g : GE) (J : Nat → KT) : KT := i_aload 0 (i_push (.int 0) (i_putf 10 0 .int (i_aload 0 (i_aload 0 (i_iload 1 (i_cv fX11_isBlot g 1 10 (i_ifne (i_push (.int 0) (i_jmp [true, true] (J 1))) (i_push (.int 1) (i_jmp [true, true] (J 1))))))))))
def bX11_cleaned_1 (g : GE) (J : Nat → KT) : KT := i_push (.int 1) (i_push (.int 1) (i_cv fX11_bad g 3 10 (i_ifeq (i_aload 0 (i_iload 1 (i_cv fX11_cleanedBy g 1 10 (i_ireturn)))) (i_push (.int 0) (i_ireturn)))))
theorem sbX11_cleaned_0 (g : GE) (J : Nat → KT) (h1 : Snd mX11_cleaned g 19 (J 1)) : Snd mX11_cleaned g 0 (bX11_cleaned_0 g J) := by
  unfold bX11_cleaned_0
  refine s_aload_n (pc := 0) (i := 0) ?_ dX11_cleaned_0 rfl
  refine s_iconst (pc := 1) (v := 0) ?_ dX11_cleaned_1 (by decide)
  refine s_putf (pc := 2) (ci := 10) (f := 0) (T := TX11) (ty0 := tyX11) ?_ ginX11 tyX11_ok nmX11 rfl (by decide) rfl rfl wt_1393 dX11_cleaned_2
  refine s_aload_n (pc := 5) (i := 0) ?_ dX11_cleaned_5 rfl
  refine s_aload_n (pc := 6) (i := 0) ?_ dX11_cleaned_6 rfl
  refine s_iload_n (pc := 7) (i := 1) ?_ dX11_cleaned_7 rfl
  refine s_cv (pc := 8) (n := 1) (ci := 10) ?_ tX11_isBlot rfl rfl wt_1655 wt_1657 wp_67 wt_17 wt_1658 ⟨crX11_isBlot, by decide, by decide⟩ dX11_cleaned_8
  refine s_ifne (pc := 11) (tgt := 18) ?_ ?_ dX11_cleaned_11 (by decide)
  · skip
    refine s_iconst (pc := 18) (v := 0) ?_ dX11_cleaned_18 (by decide)
    exact s_fall (pc := 19) h1
  · skip
    refine s_iconst (pc := 14) (v := 1) ?_ dX11_cleaned_14 (by decide)
    exact s_goto (pc := 15) (tgt := 19) h1 dX11_cleaned_15 (by decide)
theorem sbX11_cleaned_1 (g : GE) (J : Nat → KT) (h1 : Snd mX11_cleaned g 19 (J 1)) : Snd mX11_cleaned g 19 (bX11_cleaned_1 g J) := by
  unfold bX11_cleaned_1
  refine s_iconst (pc := 19) (v := 1) ?_ dX11_cleaned_19 (by decide)
  refine s_iconst (pc := 20) (v := 1) ?_ dX11_cleaned_20 (by decide)
  refine s_cv (pc := 21) (n := 3) (ci := 10) ?_ tX11_bad rfl rfl wt_1560 wt_1562 wp_49 wt_17 wt_1563 ⟨crX11_bad, by decide, by decide⟩ dX11_cleaned_21
  refine s_ifeq (pc := 24) (tgt := 29) ?_ ?_ dX11_cleaned_24 (by decide)
  · skip
    refine s_aload_n (pc := 29) (i := 0) ?_ dX11_cleaned_29 rfl
    refine s_iload_n (pc := 30) (i := 1) ?_ dX11_cleaned_30 rfl
    refine s_cv (pc := 31) (n := 1) (ci := 10) ?_ tX11_cleanedBy rfl rfl wt_1756 wt_1758 wp_79 wt_17 wt_1759 ⟨crX11_cleanedBy, by decide, by decide⟩ dX11_cleaned_31
    exact s_ireturn (pc := 34) rfl dX11_cleaned_34
  · skip
    refine s_iconst (pc := 27) (v := 0) ?_ dX11_cleaned_27 (by decide)
    exact s_ireturn (pc := 28) rfl dX11_cleaned_28
def jX11_cleaned (g : GE) : Nat → Nat → KT
  | 0, _ => fun _ _ _ => none
  | n + 1, 0 => bX11_cleaned_0 g (jX11_cleaned g n)
  | n + 1, 1 => bX11_cleaned_1 g (jX11_cleaned g n)
  | _ + 1, _ + 2 => fun _ _ _ => none
theorem sjX11_cleaned (g : GE) : ∀ n, Snd mX11_cleaned g 0 (jX11_cleaned g n 0) ∧ Snd mX11_cleaned g 19 (jX11_cleaned g n 1)
  | 0 => ⟨s_none, s_none⟩
  | n + 1 => by
    obtain ⟨-, h1⟩ := sjX11_cleaned g n
    exact ⟨sbX11_cleaned_0 g _ h1, sbX11_cleaned_1 g _ h1⟩
def kX11_cleaned (g : GE) : KT := jX11_cleaned g g.1 0
theorem sX11_cleaned (g : GE) : Snd mX11_cleaned g 0 (kX11_cleaned g) := (sjX11_cleaned g g.1).1
def fX11_cleaned : FT := fun g av w => if (ent av).length ≤ 2 then kX11_cleaned g [] (entp 2 av) w else none
theorem tX11_cleaned : Mt yX11_cleaned cX11_cleaned 2 (some .int) 4 99 fX11_cleaned := Mt.of (K := kX11_cleaned) (by decide +kernel) (fun _ _ _ => rfl) sX11_cleaned
theorem crX11_cleaned : yX11_cleaned.cls ≠ "java/lang/invoke/MethodHandle" ∧ yX11_cleaned.cls ≠ "java/lang/invoke/VarHandle" ∧ (parseMethodDescriptor yX11_cleaned.desc).map (fun d => d.parameters.length) = some 1 := by decide +kernel
theorem dX11_isHeir_0 : decode cX11_isHeir 0 = .ok (.iload_n 1, 1) := by decide +kernel
theorem dX11_isHeir_1 : decode cX11_isHeir 1 = .ok (.iconst 0, 1) := by decide +kernel
theorem dX11_isHeir_2 : decode cX11_isHeir 2 = .ok (.aload_n 0, 1) := by decide +kernel
theorem dX11_isHeir_3 : decode cX11_isHeir 3 = .ok (.getfield 23, 3) := by decide +kernel
theorem dX11_isHeir_6 : decode cX11_isHeir 6 = .ok (.iconst 0, 1) := by decide +kernel
theorem dX11_isHeir_7 : decode cX11_isHeir 7 = .ok (.iaload, 1) := by decide +kernel
theorem dX11_isHeir_8 : decode cX11_isHeir 8 = .ok (.iconst 1, 1) := by decide +kernel
theorem dX11_isHeir_9 : decode cX11_isHeir 9 = .ok (.isub, 1) := by decide +kernel
theorem dX11_isHeir_10 : decode cX11_isHeir 10 = .ok (.invokestatic 154, 3) := by decide +kernel
theorem dX11_isHeir_13 : decode cX11_isHeir 13 = .ok (.ireturn, 1) := by decide +kernel
abbrev mX11_isHeir : MD := (cX11_isHeir, "BlottedDeedModel", 2, 2, 52, (some .boolean), "isHeir", [])
def bX11_isHeir_0 (g : GE) (J : Nat → KT) : KT := i_iload 1 (i_push (.int 0) (i_aload 0 (i_getf 10 11 (i_push (.int 0) (i_iaload (i_push (.int 1) (i_isub (i_cs fX11_in g 3 (i_zreturn)))))))))
theorem sbX11_isHeir_0 (g : GE) (J : Nat → KT)  : Snd mX11_isHeir g 0 (bX11_isHeir_0 g J) := by
  unfold bX11_isHeir_0
  refine s_iload_n (pc := 0) (i := 1) ?_ dX11_isHeir_0 rfl
  refine s_iconst (pc := 1) (v := 0) ?_ dX11_isHeir_1 (by decide)
  refine s_aload_n (pc := 2) (i := 0) ?_ dX11_isHeir_2 rfl
  refine s_getf (pc := 3) (ci := 10) (f := 11) (T := TX11) ?_ ginX11 rfl (by decide) wt_1404 dX11_isHeir_3
  refine s_iconst (pc := 6) (v := 0) ?_ dX11_isHeir_6 (by decide)
  refine s_iaload (pc := 7) ?_ dX11_isHeir_7
  refine s_iconst (pc := 8) (v := 1) ?_ dX11_isHeir_8 (by decide)
  refine s_isub (pc := 9) ?_ dX11_isHeir_9
  refine s_cs (pc := 10) (n := 3) ?_ tX11_in wt_1557 wt_1558 wt_17 wt_1559 ⟨crX11_in, by decide, by decide⟩ dX11_isHeir_10
  exact s_zreturn (pc := 13) rfl dX11_isHeir_13
def kX11_isHeir (g : GE) : KT := bX11_isHeir_0 g (fun _ _ _ _ => none)
theorem sX11_isHeir (g : GE) : Snd mX11_isHeir g 0 (kX11_isHeir g) := sbX11_isHeir_0 g _
def fX11_isHeir : FT := fun g av w => if (ent av).length ≤ 2 then kX11_isHeir g [] (entp 2 av) w else none
theorem tX11_isHeir : Mt yX11_isHeir cX11_isHeir 2 (some .boolean) 2 52 fX11_isHeir := Mt.of (K := kX11_isHeir) (by decide +kernel) (fun _ _ _ => rfl) sX11_isHeir
theorem crX11_isHeir : yX11_isHeir.cls ≠ "java/lang/invoke/MethodHandle" ∧ yX11_isHeir.cls ≠ "java/lang/invoke/VarHandle" ∧ (parseMethodDescriptor yX11_isHeir.desc).map (fun d => d.parameters.length) = some 1 := by decide +kernel
theorem dX11_coinBy_0 : decode cX11_coinBy 0 = .ok (.aload_n 0, 1) := by decide +kernel
theorem dX11_coinBy_1 : decode cX11_coinBy 1 = .ok (.getfield 83, 3) := by decide +kernel
theorem dX11_coinBy_4 : decode cX11_coinBy 4 = .ok (.iload_n 1, 1) := by decide +kernel
theorem dX11_coinBy_5 : decode cX11_coinBy 5 = .ok (.laload, 1) := by decide +kernel
theorem dX11_coinBy_6 : decode cX11_coinBy 6 = .ok (.bipush 10, 2) := by decide +kernel
theorem dX11_coinBy_8 : decode cX11_coinBy 8 = .ok (.iload_n 2, 1) := by decide +kernel
theorem dX11_coinBy_9 : decode cX11_coinBy 9 = .ok (.imul, 1) := by decide +kernel
theorem dX11_coinBy_10 : decode cX11_coinBy 10 = .ok (.lshr, 1) := by decide +kernel
theorem dX11_coinBy_11 : decode cX11_coinBy 11 = .ok (.ldc2_w 259, 3) := by decide +kernel
theorem dX11_coinBy_14 : decode cX11_coinBy 14 = .ok (.land, 1) := by decide +kernel
theorem dX11_coinBy_15 : decode cX11_coinBy 15 = .ok (.l2i, 1) := by decide +kernel
theorem dX11_coinBy_16 : decode cX11_coinBy 16 = .ok (.ireturn, 1) := by decide +kernel
abbrev mX11_coinBy : MD := (cX11_coinBy, "BlottedDeedModel", 3, 1, 30, (some .int), "coinBy", [])
def bX11_coinBy_0 (g : GE) (J : Nat → KT) : KT := i_aload 0 (i_getf 10 31 (i_iload 1 (i_laload (i_push (.int 10) (i_iload 2 (i_imul (i_lshr (i_push (.long 1023) (i_land (i_l2i (i_ireturn)))))))))))
theorem sbX11_coinBy_0 (g : GE) (J : Nat → KT)  : Snd mX11_coinBy g 0 (bX11_coinBy_0 g J) := by
  unfold bX11_coinBy_0
  refine s_aload_n (pc := 0) (i := 0) ?_ dX11_coinBy_0 rfl
  refine s_getf (pc := 1) (ci := 10) (f := 31) (T := TX11) ?_ ginX11 rfl (by decide) wt_1424 dX11_coinBy_1
  refine s_iload_n (pc := 4) (i := 1) ?_ dX11_coinBy_4 rfl
  refine s_laload (pc := 5) ?_ dX11_coinBy_5
  refine s_bipush (pc := 6) (v := 10) ?_ dX11_coinBy_6 (by decide)
  refine s_iload_n (pc := 8) (i := 2) ?_ dX11_coinBy_8 rfl
  refine s_imul (pc := 9) ?_ dX11_coinBy_9
  refine s_lshr (pc := 10) ?_ dX11_coinBy_10
  refine s_ldc2 (pc := 11) (v := 1023) ?_ wt_1711 dX11_coinBy_11
  refine s_land (pc := 14) ?_ dX11_coinBy_14
  refine s_l2i (pc := 15) ?_ dX11_coinBy_15
  exact s_ireturn (pc := 16) rfl dX11_coinBy_16
def kX11_coinBy (g : GE) : KT := bX11_coinBy_0 g (fun _ _ _ _ => none)
theorem sX11_coinBy (g : GE) : Snd mX11_coinBy g 0 (kX11_coinBy g) := sbX11_coinBy_0 g _
def fX11_coinBy : FT := fun g av w => if (ent av).length ≤ 3 then kX11_coinBy g [] (entp 3 av) w else none
theorem tX11_coinBy : Mt yX11_coinBy cX11_coinBy 3 (some .int) 1 30 fX11_coinBy := Mt.of (K := kX11_coinBy) (by decide +kernel) (fun _ _ _ => rfl) sX11_coinBy
theorem crX11_coinBy : yX11_coinBy.cls ≠ "java/lang/invoke/MethodHandle" ∧ yX11_coinBy.cls ≠ "java/lang/invoke/VarHandle" ∧ (parseMethodDescriptor yX11_coinBy.desc).map (fun d => d.parameters.length) = some 2 := by decide +kernel
theorem dX11_coin_0 : decode cX11_coin 0 = .ok (.aload_n 0, 1) := by decide +kernel
theorem dX11_coin_1 : decode cX11_coin 1 = .ok (.iconst 0, 1) := by decide +kernel
theorem dX11_coin_2 : decode cX11_coin 2 = .ok (.putfield 120, 3) := by decide +kernel
theorem dX11_coin_5 : decode cX11_coin 5 = .ok (.aload_n 0, 1) := by decide +kernel
theorem dX11_coin_6 : decode cX11_coin 6 = .ok (.aload_n 0, 1) := by decide +kernel
theorem dX11_coin_7 : decode cX11_coin 7 = .ok (.iload_n 1, 1) := by decide +kernel
theorem dX11_coin_8 : decode cX11_coin 8 = .ok (.invokevirtual 276, 3) := by decide +kernel
theorem dX11_coin_11 : decode cX11_coin 11 = .ok (.ifCond .ne 7, 3) := by decide +kernel
theorem dX11_coin_14 : decode cX11_coin 14 = .ok (.iconst 1, 1) := by decide +kernel
theorem dX11_coin_15 : decode cX11_coin 15 = .ok (.goto 4, 3) := by decide +kernel
theorem dX11_coin_18 : decode cX11_coin 18 = .ok (.iconst 0, 1) := by decide +kernel
theorem dX11_coin_19 : decode cX11_coin 19 = .ok (.iconst 1, 1) := by decide +kernel
theorem dX11_coin_20 : decode cX11_coin 20 = .ok (.iconst 0, 1) := by decide +kernel
theorem dX11_coin_21 : decode cX11_coin 21 = .ok (.invokevirtual 215, 3) := by decide +kernel
theorem dX11_coin_24 : decode cX11_coin 24 = .ok (.ifCond .ne 26, 3) := by decide +kernel
theorem dX11_coin_27 : decode cX11_coin 27 = .ok (.aload_n 0, 1) := by decide +kernel
theorem dX11_coin_28 : decode cX11_coin 28 = .ok (.iload_n 2, 1) := by decide +kernel
theorem dX11_coin_29 : decode cX11_coin 29 = .ok (.iconst 0, 1) := by decide +kernel
theorem dX11_coin_30 : decode cX11_coin 30 = .ok (.iconst 1, 1) := by decide +kernel
theorem dX11_coin_31 : decode cX11_coin 31 = .ok (.invokestatic 154, 3) := by decide +kernel
theorem dX11_coin_34 : decode cX11_coin 34 = .ok (.ifCond .ne 7, 3) := by decide +kernel
theorem dX11_coin_37 : decode cX11_coin 37 = .ok (.iconst 1, 1) := by decide +kernel
theorem dX11_coin_38 : decode cX11_coin 38 = .ok (.goto 4, 3) := by decide +kernel
theorem dX11_coin_41 : decode cX11_coin 41 = .ok (.iconst 0, 1) := by decide +kernel
theorem dX11_coin_42 : decode cX11_coin 42 = .ok (.iconst 2, 1) := by decide +kernel
theorem dX11_coin_43 : decode cX11_coin 43 = .ok (.iconst 2, 1) := by decide +kernel
theorem dX11_coin_44 : decode cX11_coin 44 = .ok (.invokevirtual 215, 3) := by decide +kernel
theorem dX11_coin_47 : decode cX11_coin 47 = .ok (.ifCond .eq 5, 3) := by decide +kernel
theorem dX11_coin_50 : decode cX11_coin 50 = .ok (.iconst 0, 1) := by decide +kernel
theorem dX11_coin_51 : decode cX11_coin 51 = .ok (.ireturn, 1) := by decide +kernel
theorem dX11_coin_52 : decode cX11_coin 52 = .ok (.iconst (-1), 1) := by decide +kernel
theorem dX11_coin_53 : decode cX11_coin 53 = .ok (.istore_n 3, 1) := by decide +kernel
theorem dX11_coin_54 : decode cX11_coin 54 = .ok (.iconst 0, 1) := by decide +kernel
theorem dX11_coin_55 : decode cX11_coin 55 = .ok (.istore 4, 2) := by decide +kernel
theorem dX11_coin_57 : decode cX11_coin 57 = .ok (.iload 4, 2) := by decide +kernel
theorem dX11_coin_59 : decode cX11_coin 59 = .ok (.aload_n 0, 1) := by decide +kernel
theorem dX11_coin_60 : decode cX11_coin 60 = .ok (.getfield 244, 3) := by decide +kernel
theorem dX11_coin_63 : decode cX11_coin 63 = .ok (.if_icmp .ge 49, 3) := by decide +kernel
theorem dX11_coin_66 : decode cX11_coin 66 = .ok (.aload_n 0, 1) := by decide +kernel
theorem dX11_coin_67 : decode cX11_coin 67 = .ok (.iload 4, 2) := by decide +kernel
theorem dX11_coin_69 : decode cX11_coin 69 = .ok (.iload_n 1, 1) := by decide +kernel
theorem dX11_coin_70 : decode cX11_coin 70 = .ok (.invokevirtual 261, 3) := by decide +kernel
theorem dX11_coin_73 : decode cX11_coin 73 = .ok (.istore 5, 2) := by decide +kernel
theorem dX11_coin_75 : decode cX11_coin 75 = .ok (.iload_n 3, 1) := by decide +kernel
theorem dX11_coin_76 : decode cX11_coin 76 = .ok (.iconst (-1), 1) := by decide +kernel
theorem dX11_coin_77 : decode cX11_coin 77 = .ok (.if_icmp .eq 22, 3) := by decide +kernel
theorem dX11_coin_80 : decode cX11_coin 80 = .ok (.iload_n 2, 1) := by decide +kernel
theorem dX11_coin_81 : decode cX11_coin 81 = .ok (.ifCond .ne 12, 3) := by decide +kernel
theorem dX11_coin_84 : decode cX11_coin 84 = .ok (.iload 5, 2) := by decide +kernel
theorem dX11_coin_86 : decode cX11_coin 86 = .ok (.iload_n 3, 1) := by decide +kernel
theorem dX11_coin_87 : decode cX11_coin 87 = .ok (.if_icmp .ge 17, 3) := by decide +kernel
theorem dX11_coin_90 : decode cX11_coin 90 = .ok (.goto 9, 3) := by decide +kernel
theorem dX11_coin_93 : decode cX11_coin 93 = .ok (.iload 5, 2) := by decide +kernel
theorem dX11_coin_95 : decode cX11_coin 95 = .ok (.iload_n 3, 1) := by decide +kernel
theorem dX11_coin_96 : decode cX11_coin 96 = .ok (.if_icmp .le 8, 3) := by decide +kernel
theorem dX11_coin_99 : decode cX11_coin 99 = .ok (.iload 5, 2) := by decide +kernel
theorem dX11_coin_101 : decode cX11_coin 101 = .ok (.goto 4, 3) := by decide +kernel
theorem dX11_coin_104 : decode cX11_coin 104 = .ok (.iload_n 3, 1) := by decide +kernel
theorem dX11_coin_105 : decode cX11_coin 105 = .ok (.istore_n 3, 1) := by decide +kernel
theorem dX11_coin_106 : decode cX11_coin 106 = .ok (.iinc 4 1, 3) := by decide +kernel
theorem dX11_coin_109 : decode cX11_coin 109 = .ok (.goto (-52), 3) := by decide +kernel
theorem dX11_coin_112 : decode cX11_coin 112 = .ok (.iload_n 3, 1) := by decide +kernel
theorem dX11_coin_113 : decode cX11_coin 113 = .ok (.ireturn, 1) := by decide +kernel
abbrev mX11_coin : MD := (cX11_coin, "BlottedDeedModel", 6, 3, 73, (some .int), "coin", [])
def bX11_coin_0 (g : GE) (J : Nat → KT) : KT := i_aload 0 (i_push (.int 0) (i_putf 10 0 .int (i_aload 0 (i_aload 0 (i_iload 1 (i_cv fX11_isHeir g 1 10 (i_ifne (i_push (.int 0) (i_jmp [true, true, true, false, false, false] (J 1))) (i_push (.int 1) (i_jmp [true, true, true, false, false, false] (J 1))))))))))
def bX11_coin_1 (g : GE) (J : Nat → KT) : KT := i_push (.int 1) (i_push (.int 0) (i_cv fX11_bad g 3 10 (i_ifne (i_jmp [false, false, false, false, false, false] (J 3)) (i_aload 0 (i_iload 2 (i_push (.int 0) (i_push (.int 1) (i_cs fX11_in g 3 (i_ifne (i_push (.int 0) (i_jmp [true, true, true, false, false, false] (J 2))) (i_push (.int 1) (i_jmp [true, true, true, false, false, false] (J 2))))))))))))
def bX11_coin_2 (g : GE) (J : Nat → KT) : KT := i_push (.int 2) (i_push (.int 2) (i_cv fX11_bad g 3 10 (i_ifeq (i_push (.int (-1)) (i_istore 3 (i_push (.int 0) (i_istore 4 (i_jmp [true, true, true, true, true, false] (J 4)))))) (i_jmp [false, false, false, false, false, false] (J 3)))))
def bX11_coin_3 (g : GE) (J : Nat → KT) : KT := i_push (.int 0) (i_ireturn)
def bX11_coin_4 (g : GE) (J : Nat → KT) : KT := i_iload 4 (i_aload 0 (i_getf 10 27 (i_icge (i_iload 3 (i_ireturn)) (i_aload 0 (i_iload 4 (i_iload 1 (i_cv fX11_coinBy g 2 10 (i_istore 5 (i_iload 3 (i_push (.int (-1)) (i_iceq (i_jmp [true, true, true, false, true, true] (J 5)) (i_iload 2 (i_ifne (i_iload 5 (i_iload 3 (i_icle (i_jmp [true, true, true, true, true, false] (J 6)) (i_jmp [true, true, true, false, true, true] (J 5))))) (i_iload 5 (i_iload 3 (i_icge (i_jmp [true, true, true, true, true, false] (J 6)) (i_jmp [true, true, true, false, true, true] (J 5))))))))))))))))))
def bX11_coin_5 (g : GE) (J : Nat → KT) : KT := i_iload 5 (i_jmp [true, true, true, false, true, false] (J 7))
def bX11_coin_6 (g : GE) (J : Nat → KT) : KT := i_iload 3 (i_jmp [true, true, true, false, true, false] (J 7))
def bX11_coin_7 (g : GE) (J : Nat → KT) : KT := i_istore 3 (i_iinc 4 1 (i_jmp [true, true, true, true, true, false] (J 4)))
theorem sbX11_coin_0 (g : GE) (J : Nat → KT) (h1 : Snd mX11_coin g 19 (J 1)) (h2 : Snd mX11_coin g 42 (J 2)) (h3 : Snd mX11_coin g 50 (J 3)) (h4 : Snd mX11_coin g 57 (J 4)) (h5 : Snd mX11_coin g 99 (J 5)) (h6 : Snd mX11_coin g 104 (J 6)) (h7 : Snd mX11_coin g 105 (J 7)) : Snd mX11_coin g 0 (bX11_coin_0 g J) := by
  unfold bX11_coin_0
  refine s_aload_n (pc := 0) (i := 0) ?_ dX11_coin_0 rfl
  refine s_iconst (pc := 1) (v := 0) ?_ dX11_coin_1 (by decide)
  refine s_putf (pc := 2) (ci := 10) (f := 0) (T := TX11) (ty0 := tyX11) ?_ ginX11 tyX11_ok nmX11 rfl (by decide) rfl rfl wt_1393 dX11_coin_2
  refine s_aload_n (pc := 5) (i := 0) ?_ dX11_coin_5 rfl
  refine s_aload_n (pc := 6) (i := 0) ?_ dX11_coin_6 rfl
  refine s_iload_n (pc := 7) (i := 1) ?_ dX11_coin_7 rfl
  refine s_cv (pc := 8) (n := 1) (ci := 10) ?_ tX11_isHeir rfl rfl wt_1703 wt_1705 wp_72 wt_17 wt_1706 ⟨crX11_isHeir, by decide, by decide⟩ dX11_coin_8
  refine s_ifne (pc := 11) (tgt := 18) ?_ ?_ dX11_coin_11 (by decide)
  · skip
    refine s_iconst (pc := 18) (v := 0) ?_ dX11_coin_18 (by decide)
    exact s_fall (pc := 19) h1
  · skip
    refine s_iconst (pc := 14) (v := 1) ?_ dX11_coin_14 (by decide)
    exact s_goto (pc := 15) (tgt := 19) h1 dX11_coin_15 (by decide)
theorem sbX11_coin_1 (g : GE) (J : Nat → KT) (h1 : Snd mX11_coin g 19 (J 1)) (h2 : Snd mX11_coin g 42 (J 2)) (h3 : Snd mX11_coin g 50 (J 3)) (h4 : Snd mX11_coin g 57 (J 4)) (h5 : Snd mX11_coin g 99 (J 5)) (h6 : Snd mX11_coin g 104 (J 6)) (h7 : Snd mX11_coin g 105 (J 7)) : Snd mX11_coin g 19 (bX11_coin_1 g J) := by
  unfold bX11_coin_1
  refine s_iconst (pc := 19) (v := 1) ?_ dX11_coin_19 (by decide)
  refine s_iconst (pc := 20) (v := 0) ?_ dX11_coin_20 (by decide)
  refine s_cv (pc := 21) (n := 3) (ci := 10) ?_ tX11_bad rfl rfl wt_1560 wt_1562 wp_49 wt_17 wt_1563 ⟨crX11_bad, by decide, by decide⟩ dX11_coin_21
  refine s_ifne (pc := 24) (tgt := 50) ?_ ?_ dX11_coin_24 (by decide)
  · skip
    exact s_fall (pc := 50) h3
  · skip
    refine s_aload_n (pc := 27) (i := 0) ?_ dX11_coin_27 rfl
    refine s_iload_n (pc := 28) (i := 2) ?_ dX11_coin_28 rfl
    refine s_iconst (pc := 29) (v := 0) ?_ dX11_coin_29 (by decide)
    refine s_iconst (pc := 30) (v := 1) ?_ dX11_coin_30 (by decide)
    refine s_cs (pc := 31) (n := 3) ?_ tX11_in wt_1557 wt_1558 wt_17 wt_1559 ⟨crX11_in, by decide, by decide⟩ dX11_coin_31
    refine s_ifne (pc := 34) (tgt := 41) ?_ ?_ dX11_coin_34 (by decide)
    · skip
      refine s_iconst (pc := 41) (v := 0) ?_ dX11_coin_41 (by decide)
      exact s_fall (pc := 42) h2
    · skip
      refine s_iconst (pc := 37) (v := 1) ?_ dX11_coin_37 (by decide)
      exact s_goto (pc := 38) (tgt := 42) h2 dX11_coin_38 (by decide)
theorem sbX11_coin_2 (g : GE) (J : Nat → KT) (h1 : Snd mX11_coin g 19 (J 1)) (h2 : Snd mX11_coin g 42 (J 2)) (h3 : Snd mX11_coin g 50 (J 3)) (h4 : Snd mX11_coin g 57 (J 4)) (h5 : Snd mX11_coin g 99 (J 5)) (h6 : Snd mX11_coin g 104 (J 6)) (h7 : Snd mX11_coin g 105 (J 7)) : Snd mX11_coin g 42 (bX11_coin_2 g J) := by
  unfold bX11_coin_2
  refine s_iconst (pc := 42) (v := 2) ?_ dX11_coin_42 (by decide)
  refine s_iconst (pc := 43) (v := 2) ?_ dX11_coin_43 (by decide)
  refine s_cv (pc := 44) (n := 3) (ci := 10) ?_ tX11_bad rfl rfl wt_1560 wt_1562 wp_49 wt_17 wt_1563 ⟨crX11_bad, by decide, by decide⟩ dX11_coin_44
  refine s_ifeq (pc := 47) (tgt := 52) ?_ ?_ dX11_coin_47 (by decide)
  · skip
    refine s_iconst (pc := 52) (v := (-1)) ?_ dX11_coin_52 (by decide)
    refine s_istore_n (pc := 53) (i := 3) ?_ dX11_coin_53 rfl (by decide)
    refine s_iconst (pc := 54) (v := 0) ?_ dX11_coin_54 (by decide)
    refine s_istore (pc := 55) (i := 4) ?_ dX11_coin_55 (by decide)
    exact s_fall (pc := 57) h4
  · skip
    exact s_fall (pc := 50) h3
theorem sbX11_coin_3 (g : GE) (J : Nat → KT) (h1 : Snd mX11_coin g 19 (J 1)) (h2 : Snd mX11_coin g 42 (J 2)) (h3 : Snd mX11_coin g 50 (J 3)) (h4 : Snd mX11_coin g 57 (J 4)) (h5 : Snd mX11_coin g 99 (J 5)) (h6 : Snd mX11_coin g 104 (J 6)) (h7 : Snd mX11_coin g 105 (J 7)) : Snd mX11_coin g 50 (bX11_coin_3 g J) := by
  unfold bX11_coin_3
  refine s_iconst (pc := 50) (v := 0) ?_ dX11_coin_50 (by decide)
  exact s_ireturn (pc := 51) rfl dX11_coin_51
theorem sbX11_coin_4 (g : GE) (J : Nat → KT) (h1 : Snd mX11_coin g 19 (J 1)) (h2 : Snd mX11_coin g 42 (J 2)) (h3 : Snd mX11_coin g 50 (J 3)) (h4 : Snd mX11_coin g 57 (J 4)) (h5 : Snd mX11_coin g 99 (J 5)) (h6 : Snd mX11_coin g 104 (J 6)) (h7 : Snd mX11_coin g 105 (J 7)) : Snd mX11_coin g 57 (bX11_coin_4 g J) := by
  unfold bX11_coin_4
  refine s_iload (pc := 57) (i := 4) ?_ dX11_coin_57
  refine s_aload_n (pc := 59) (i := 0) ?_ dX11_coin_59 rfl
  refine s_getf (pc := 60) (ci := 10) (f := 27) (T := TX11) ?_ ginX11 rfl (by decide) wt_1420 dX11_coin_60
  refine s_icge (pc := 63) (tgt := 112) ?_ ?_ dX11_coin_63 (by decide)
  · skip
    refine s_iload_n (pc := 112) (i := 3) ?_ dX11_coin_112 rfl
    exact s_ireturn (pc := 113) rfl dX11_coin_113
  · skip
    refine s_aload_n (pc := 66) (i := 0) ?_ dX11_coin_66 rfl
    refine s_iload (pc := 67) (i := 4) ?_ dX11_coin_67
    refine s_iload_n (pc := 69) (i := 1) ?_ dX11_coin_69 rfl
    refine s_cv (pc := 70) (n := 2) (ci := 10) ?_ tX11_coinBy rfl rfl wt_1707 wt_1709 wp_73 wt_17 wt_1710 ⟨crX11_coinBy, by decide, by decide⟩ dX11_coin_70
    refine s_istore (pc := 73) (i := 5) ?_ dX11_coin_73 (by decide)
    refine s_iload_n (pc := 75) (i := 3) ?_ dX11_coin_75 rfl
    refine s_iconst (pc := 76) (v := (-1)) ?_ dX11_coin_76 (by decide)
    refine s_iceq (pc := 77) (tgt := 99) ?_ ?_ dX11_coin_77 (by decide)
    · skip
      exact s_fall (pc := 99) h5
    · skip
      refine s_iload_n (pc := 80) (i := 2) ?_ dX11_coin_80 rfl
      refine s_ifne (pc := 81) (tgt := 93) ?_ ?_ dX11_coin_81 (by decide)
      · skip
        refine s_iload (pc := 93) (i := 5) ?_ dX11_coin_93
        refine s_iload_n (pc := 95) (i := 3) ?_ dX11_coin_95 rfl
        refine s_icle (pc := 96) (tgt := 104) ?_ ?_ dX11_coin_96 (by decide)
        · skip
          exact s_fall (pc := 104) h6
        · skip
          exact s_fall (pc := 99) h5
      · skip
        refine s_iload (pc := 84) (i := 5) ?_ dX11_coin_84
        refine s_iload_n (pc := 86) (i := 3) ?_ dX11_coin_86 rfl
        refine s_icge (pc := 87) (tgt := 104) ?_ ?_ dX11_coin_87 (by decide)
        · skip
          exact s_fall (pc := 104) h6
        · skip
          exact s_goto (pc := 90) (tgt := 99) h5 dX11_coin_90 (by decide)
theorem sbX11_coin_5 (g : GE) (J : Nat → KT) (h1 : Snd mX11_coin g 19 (J 1)) (h2 : Snd mX11_coin g 42 (J 2)) (h3 : Snd mX11_coin g 50 (J 3)) (h4 : Snd mX11_coin g 57 (J 4)) (h5 : Snd mX11_coin g 99 (J 5)) (h6 : Snd mX11_coin g 104 (J 6)) (h7 : Snd mX11_coin g 105 (J 7)) : Snd mX11_coin g 99 (bX11_coin_5 g J) := by
  unfold bX11_coin_5
  refine s_iload (pc := 99) (i := 5) ?_ dX11_coin_99
  exact s_goto (pc := 101) (tgt := 105) h7 dX11_coin_101 (by decide)
theorem sbX11_coin_6 (g : GE) (J : Nat → KT) (h1 : Snd mX11_coin g 19 (J 1)) (h2 : Snd mX11_coin g 42 (J 2)) (h3 : Snd mX11_coin g 50 (J 3)) (h4 : Snd mX11_coin g 57 (J 4)) (h5 : Snd mX11_coin g 99 (J 5)) (h6 : Snd mX11_coin g 104 (J 6)) (h7 : Snd mX11_coin g 105 (J 7)) : Snd mX11_coin g 104 (bX11_coin_6 g J) := by
  unfold bX11_coin_6
  refine s_iload_n (pc := 104) (i := 3) ?_ dX11_coin_104 rfl
  exact s_fall (pc := 105) h7
theorem sbX11_coin_7 (g : GE) (J : Nat → KT) (h1 : Snd mX11_coin g 19 (J 1)) (h2 : Snd mX11_coin g 42 (J 2)) (h3 : Snd mX11_coin g 50 (J 3)) (h4 : Snd mX11_coin g 57 (J 4)) (h5 : Snd mX11_coin g 99 (J 5)) (h6 : Snd mX11_coin g 104 (J 6)) (h7 : Snd mX11_coin g 105 (J 7)) : Snd mX11_coin g 105 (bX11_coin_7 g J) := by
  unfold bX11_coin_7
  refine s_istore_n (pc := 105) (i := 3) ?_ dX11_coin_105 rfl (by decide)
  refine s_iinc (pc := 106) (i := 4) (v := 1) ?_ dX11_coin_106 (by decide) (by decide)
  exact s_goto (pc := 109) (tgt := 57) h4 dX11_coin_109 (by decide)
def jX11_coin (g : GE) : Nat → Nat → KT
  | 0, _ => fun _ _ _ => none
  | n + 1, 0 => bX11_coin_0 g (jX11_coin g n)
  | n + 1, 1 => bX11_coin_1 g (jX11_coin g n)
  | n + 1, 2 => bX11_coin_2 g (jX11_coin g n)
  | n + 1, 3 => bX11_coin_3 g (jX11_coin g n)
  | n + 1, 4 => bX11_coin_4 g (jX11_coin g n)
  | n + 1, 5 => bX11_coin_5 g (jX11_coin g n)
  | n + 1, 6 => bX11_coin_6 g (jX11_coin g n)
  | n + 1, 7 => bX11_coin_7 g (jX11_coin g n)
  | _ + 1, _ + 8 => fun _ _ _ => none
theorem sjX11_coin (g : GE) : ∀ n, Snd mX11_coin g 0 (jX11_coin g n 0) ∧ Snd mX11_coin g 19 (jX11_coin g n 1) ∧ Snd mX11_coin g 42 (jX11_coin g n 2) ∧ Snd mX11_coin g 50 (jX11_coin g n 3) ∧ Snd mX11_coin g 57 (jX11_coin g n 4) ∧ Snd mX11_coin g 99 (jX11_coin g n 5) ∧ Snd mX11_coin g 104 (jX11_coin g n 6) ∧ Snd mX11_coin g 105 (jX11_coin g n 7)
  | 0 => ⟨s_none, s_none, s_none, s_none, s_none, s_none, s_none, s_none⟩
  | n + 1 => by
    obtain ⟨-, h1, h2, h3, h4, h5, h6, h7⟩ := sjX11_coin g n
    exact ⟨sbX11_coin_0 g _ h1 h2 h3 h4 h5 h6 h7, sbX11_coin_1 g _ h1 h2 h3 h4 h5 h6 h7, sbX11_coin_2 g _ h1 h2 h3 h4 h5 h6 h7, sbX11_coin_3 g _ h1 h2 h3 h4 h5 h6 h7, sbX11_coin_4 g _ h1 h2 h3 h4 h5 h6 h7, sbX11_coin_5 g _ h1 h2 h3 h4 h5 h6 h7, sbX11_coin_6 g _ h1 h2 h3 h4 h5 h6 h7, sbX11_coin_7 g _ h1 h2 h3 h4 h5 h6 h7⟩
def kX11_coin (g : GE) : KT := jX11_coin g g.1 0
theorem sX11_coin (g : GE) : Snd mX11_coin g 0 (kX11_coin g) := (sjX11_coin g g.1).1
def fX11_coin : FT := fun g av w => if (ent av).length ≤ 6 then kX11_coin g [] (entp 6 av) w else none
theorem tX11_coin : Mt yX11_coin cX11_coin 6 (some .int) 3 73 fX11_coin := Mt.of (K := kX11_coin) (by decide +kernel) (fun _ _ _ => rfl) sX11_coin
theorem crX11_coin : yX11_coin.cls ≠ "java/lang/invoke/MethodHandle" ∧ yX11_coin.cls ≠ "java/lang/invoke/VarHandle" ∧ (parseMethodDescriptor yX11_coin.desc).map (fun d => d.parameters.length) = some 2 := by decide +kernel
theorem dX11_copy_0 : decode cX11_copy 0 = .ok (.aload_n 0, 1) := by decide +kernel
theorem dX11_copy_1 : decode cX11_copy 1 = .ok (.iconst 0, 1) := by decide +kernel
theorem dX11_copy_2 : decode cX11_copy 2 = .ok (.putfield 120, 3) := by decide +kernel
theorem dX11_copy_5 : decode cX11_copy 5 = .ok (.aload_n 0, 1) := by decide +kernel
theorem dX11_copy_6 : decode cX11_copy 6 = .ok (.aload_n 0, 1) := by decide +kernel
theorem dX11_copy_7 : decode cX11_copy 7 = .ok (.iload_n 2, 1) := by decide +kernel
theorem dX11_copy_8 : decode cX11_copy 8 = .ok (.invokevirtual 234, 3) := by decide +kernel
theorem dX11_copy_11 : decode cX11_copy 11 = .ok (.ifCond .ne 7, 3) := by decide +kernel
theorem dX11_copy_14 : decode cX11_copy 14 = .ok (.iconst 1, 1) := by decide +kernel
theorem dX11_copy_15 : decode cX11_copy 15 = .ok (.goto 4, 3) := by decide +kernel
theorem dX11_copy_18 : decode cX11_copy 18 = .ok (.iconst 0, 1) := by decide +kernel
theorem dX11_copy_19 : decode cX11_copy 19 = .ok (.iconst 1, 1) := by decide +kernel
theorem dX11_copy_20 : decode cX11_copy 20 = .ok (.iconst 1, 1) := by decide +kernel
theorem dX11_copy_21 : decode cX11_copy 21 = .ok (.invokevirtual 215, 3) := by decide +kernel
theorem dX11_copy_24 : decode cX11_copy 24 = .ok (.ifCond .eq 5, 3) := by decide +kernel
theorem dX11_copy_27 : decode cX11_copy 27 = .ok (.iconst 0, 1) := by decide +kernel
theorem dX11_copy_28 : decode cX11_copy 28 = .ok (.ireturn, 1) := by decide +kernel
theorem dX11_copy_29 : decode cX11_copy 29 = .ok (.aload_n 0, 1) := by decide +kernel
theorem dX11_copy_30 : decode cX11_copy 30 = .ok (.getfield 65, 3) := by decide +kernel
theorem dX11_copy_33 : decode cX11_copy 33 = .ok (.iload_n 2, 1) := by decide +kernel
theorem dX11_copy_34 : decode cX11_copy 34 = .ok (.aaload, 1) := by decide +kernel
theorem dX11_copy_35 : decode cX11_copy 35 = .ok (.iconst 0, 1) := by decide +kernel
theorem dX11_copy_36 : decode cX11_copy 36 = .ok (.iaload, 1) := by decide +kernel
theorem dX11_copy_37 : decode cX11_copy 37 = .ok (.ifCond .ne 8, 3) := by decide +kernel
theorem dX11_copy_40 : decode cX11_copy 40 = .ok (.bipush 99, 2) := by decide +kernel
theorem dX11_copy_42 : decode cX11_copy 42 = .ok (.goto 27, 3) := by decide +kernel
theorem dX11_copy_45 : decode cX11_copy 45 = .ok (.aload_n 0, 1) := by decide +kernel
theorem dX11_copy_46 : decode cX11_copy 46 = .ok (.getfield 65, 3) := by decide +kernel
theorem dX11_copy_49 : decode cX11_copy 49 = .ok (.iload_n 2, 1) := by decide +kernel
theorem dX11_copy_50 : decode cX11_copy 50 = .ok (.aaload, 1) := by decide +kernel
theorem dX11_copy_51 : decode cX11_copy 51 = .ok (.iconst 0, 1) := by decide +kernel
theorem dX11_copy_52 : decode cX11_copy 52 = .ok (.iaload, 1) := by decide +kernel
theorem dX11_copy_53 : decode cX11_copy 53 = .ok (.iconst 1, 1) := by decide +kernel
theorem dX11_copy_54 : decode cX11_copy 54 = .ok (.if_icmp .ne 14, 3) := by decide +kernel
theorem dX11_copy_57 : decode cX11_copy 57 = .ok (.aload_n 0, 1) := by decide +kernel
theorem dX11_copy_58 : decode cX11_copy 58 = .ok (.getfield 23, 3) := by decide +kernel
theorem dX11_copy_61 : decode cX11_copy 61 = .ok (.iconst 0, 1) := by decide +kernel
theorem dX11_copy_62 : decode cX11_copy 62 = .ok (.iaload, 1) := by decide +kernel
theorem dX11_copy_63 : decode cX11_copy 63 = .ok (.iconst 1, 1) := by decide +kernel
theorem dX11_copy_64 : decode cX11_copy 64 = .ok (.isub, 1) := by decide +kernel
theorem dX11_copy_65 : decode cX11_copy 65 = .ok (.goto 4, 3) := by decide +kernel
theorem dX11_copy_68 : decode cX11_copy 68 = .ok (.iconst 1, 1) := by decide +kernel
theorem dX11_copy_69 : decode cX11_copy 69 = .ok (.istore 4, 2) := by decide +kernel
theorem dX11_copy_71 : decode cX11_copy 71 = .ok (.aload_n 0, 1) := by decide +kernel
theorem dX11_copy_72 : decode cX11_copy 72 = .ok (.iload_n 1, 1) := by decide +kernel
theorem dX11_copy_73 : decode cX11_copy 73 = .ok (.iconst 0, 1) := by decide +kernel
theorem dX11_copy_74 : decode cX11_copy 74 = .ok (.iconst 3, 1) := by decide +kernel
theorem dX11_copy_75 : decode cX11_copy 75 = .ok (.invokestatic 154, 3) := by decide +kernel
theorem dX11_copy_78 : decode cX11_copy 78 = .ok (.ifCond .eq 13, 3) := by decide +kernel
theorem dX11_copy_81 : decode cX11_copy 81 = .ok (.iload_n 3, 1) := by decide +kernel
theorem dX11_copy_82 : decode cX11_copy 82 = .ok (.iconst 0, 1) := by decide +kernel
theorem dX11_copy_83 : decode cX11_copy 83 = .ok (.iload 4, 2) := by decide +kernel
theorem dX11_copy_85 : decode cX11_copy 85 = .ok (.invokestatic 154, 3) := by decide +kernel
theorem dX11_copy_88 : decode cX11_copy 88 = .ok (.ifCond .ne 7, 3) := by decide +kernel
theorem dX11_copy_91 : decode cX11_copy 91 = .ok (.iconst 1, 1) := by decide +kernel
theorem dX11_copy_92 : decode cX11_copy 92 = .ok (.goto 4, 3) := by decide +kernel
theorem dX11_copy_95 : decode cX11_copy 95 = .ok (.iconst 0, 1) := by decide +kernel
theorem dX11_copy_96 : decode cX11_copy 96 = .ok (.iconst 2, 1) := by decide +kernel
theorem dX11_copy_97 : decode cX11_copy 97 = .ok (.iconst 2, 1) := by decide +kernel
theorem dX11_copy_98 : decode cX11_copy 98 = .ok (.invokevirtual 215, 3) := by decide +kernel
theorem dX11_copy_101 : decode cX11_copy 101 = .ok (.ifCond .eq 5, 3) := by decide +kernel
theorem dX11_copy_104 : decode cX11_copy 104 = .ok (.iconst 0, 1) := by decide +kernel
theorem dX11_copy_105 : decode cX11_copy 105 = .ok (.ireturn, 1) := by decide +kernel
theorem dX11_copy_106 : decode cX11_copy 106 = .ok (.aload_n 0, 1) := by decide +kernel
theorem dX11_copy_107 : decode cX11_copy 107 = .ok (.getfield 225, 3) := by decide +kernel
theorem dX11_copy_110 : decode cX11_copy 110 = .ok (.bipush 12, 2) := by decide +kernel
theorem dX11_copy_112 : decode cX11_copy 112 = .ok (.if_icmp .ne 5, 3) := by decide +kernel
theorem dX11_copy_115 : decode cX11_copy 115 = .ok (.iconst (-1), 1) := by decide +kernel
theorem dX11_copy_116 : decode cX11_copy 116 = .ok (.ireturn, 1) := by decide +kernel
theorem dX11_copy_117 : decode cX11_copy 117 = .ok (.aload_n 0, 1) := by decide +kernel
theorem dX11_copy_118 : decode cX11_copy 118 = .ok (.getfield 86, 3) := by decide +kernel
theorem dX11_copy_121 : decode cX11_copy 121 = .ok (.aload_n 0, 1) := by decide +kernel
theorem dX11_copy_122 : decode cX11_copy 122 = .ok (.getfield 225, 3) := by decide +kernel
theorem dX11_copy_125 : decode cX11_copy 125 = .ok (.aaload, 1) := by decide +kernel
theorem dX11_copy_126 : decode cX11_copy 126 = .ok (.iconst 0, 1) := by decide +kernel
theorem dX11_copy_127 : decode cX11_copy 127 = .ok (.iload_n 1, 1) := by decide +kernel
theorem dX11_copy_128 : decode cX11_copy 128 = .ok (.iastore, 1) := by decide +kernel
theorem dX11_copy_129 : decode cX11_copy 129 = .ok (.aload_n 0, 1) := by decide +kernel
theorem dX11_copy_130 : decode cX11_copy 130 = .ok (.getfield 86, 3) := by decide +kernel
theorem dX11_copy_133 : decode cX11_copy 133 = .ok (.aload_n 0, 1) := by decide +kernel
theorem dX11_copy_134 : decode cX11_copy 134 = .ok (.getfield 225, 3) := by decide +kernel
theorem dX11_copy_137 : decode cX11_copy 137 = .ok (.aaload, 1) := by decide +kernel
theorem dX11_copy_138 : decode cX11_copy 138 = .ok (.iconst 1, 1) := by decide +kernel
theorem dX11_copy_139 : decode cX11_copy 139 = .ok (.iload_n 2, 1) := by decide +kernel
theorem dX11_copy_140 : decode cX11_copy 140 = .ok (.iastore, 1) := by decide +kernel
theorem dX11_copy_141 : decode cX11_copy 141 = .ok (.aload_n 0, 1) := by decide +kernel
theorem dX11_copy_142 : decode cX11_copy 142 = .ok (.getfield 86, 3) := by decide +kernel
theorem dX11_copy_145 : decode cX11_copy 145 = .ok (.aload_n 0, 1) := by decide +kernel
theorem dX11_copy_146 : decode cX11_copy 146 = .ok (.getfield 225, 3) := by decide +kernel
theorem dX11_copy_149 : decode cX11_copy 149 = .ok (.aaload, 1) := by decide +kernel
theorem dX11_copy_150 : decode cX11_copy 150 = .ok (.iconst 2, 1) := by decide +kernel
theorem dX11_copy_151 : decode cX11_copy 151 = .ok (.iload_n 3, 1) := by decide +kernel
theorem dX11_copy_152 : decode cX11_copy 152 = .ok (.iastore, 1) := by decide +kernel
theorem dX11_copy_153 : decode cX11_copy 153 = .ok (.aload_n 0, 1) := by decide +kernel
theorem dX11_copy_154 : decode cX11_copy 154 = .ok (.dup, 1) := by decide +kernel
theorem dX11_copy_155 : decode cX11_copy 155 = .ok (.getfield 225, 3) := by decide +kernel
theorem dX11_copy_158 : decode cX11_copy 158 = .ok (.iconst 1, 1) := by decide +kernel
theorem dX11_copy_159 : decode cX11_copy 159 = .ok (.iadd, 1) := by decide +kernel
theorem dX11_copy_160 : decode cX11_copy 160 = .ok (.putfield 225, 3) := by decide +kernel
theorem dX11_copy_163 : decode cX11_copy 163 = .ok (.aload_n 0, 1) := by decide +kernel
theorem dX11_copy_164 : decode cX11_copy 164 = .ok (.getfield 225, 3) := by decide +kernel
theorem dX11_copy_167 : decode cX11_copy 167 = .ok (.ireturn, 1) := by decide +kernel
abbrev mX11_copy : MD := (cX11_copy, "BlottedDeedModel", 5, 3, 73, (some .int), "copy", [])
def bX11_copy_0 (g : GE) (J : Nat → KT) : KT := i_aload 0 (i_push (.int 0) (i_putf 10 0 .int (i_aload 0 (i_aload 0 (i_iload 2 (i_cv fX11_isBlot g 1 10 (i_ifne (i_push (.int 0) (i_jmp [true, true, true, true, false] (J 1))) (i_push (.int 1) (i_jmp [true, true, true, true, false] (J 1))))))))))
def bX11_copy_1 (g : GE) (J : Nat → KT) : KT := i_push (.int 1) (i_push (.int 1) (i_cv fX11_bad g 3 10 (i_ifeq (i_aload 0 (i_getf 10 24 (i_iload 2 (i_aaload 4 (i_push (.int 0) (i_iaload (i_ifne (i_aload 0 (i_getf 10 24 (i_iload 2 (i_aaload 4 (i_push (.int 0) (i_iaload (i_push (.int 1) (i_icne (i_push (.int 1) (i_jmp [true, true, true, true, false] (J 2))) (i_aload 0 (i_getf 10 11 (i_push (.int 0) (i_iaload (i_push (.int 1) (i_isub (i_jmp [true, true, true, true, false] (J 2)))))))))))))))) (i_push (.int 99) (i_jmp [true, true, true, true, false] (J 2)))))))))) (i_push (.int 0) (i_ireturn)))))
def bX11_copy_2 (g : GE) (J : Nat → KT) : KT := i_istore 4 (i_aload 0 (i_iload 1 (i_push (.int 0) (i_push (.int 3) (i_cs fX11_in g 3 (i_ifeq (i_jmp [true, true, true, true, false] (J 3)) (i_iload 3 (i_push (.int 0) (i_iload 4 (i_cs fX11_in g 3 (i_ifne (i_push (.int 0) (i_jmp [true, true, true, true, false] (J 4))) (i_jmp [true, true, true, true, false] (J 3)))))))))))))
def bX11_copy_3 (g : GE) (J : Nat → KT) : KT := i_push (.int 1) (i_jmp [true, true, true, true, false] (J 4))
def bX11_copy_4 (g : GE) (J : Nat → KT) : KT := i_push (.int 2) (i_push (.int 2) (i_cv fX11_bad g 3 10 (i_ifeq (i_aload 0 (i_getf 10 32 (i_push (.int 12) (i_icne (i_aload 0 (i_getf 10 36 (i_aload 0 (i_getf 10 32 (i_aaload 4 (i_push (.int 0) (i_iload 1 (i_iastore (i_aload 0 (i_getf 10 36 (i_aload 0 (i_getf 10 32 (i_aaload 4 (i_push (.int 1) (i_iload 2 (i_iastore (i_aload 0 (i_getf 10 36 (i_aload 0 (i_getf 10 32 (i_aaload 4 (i_push (.int 2) (i_iload 3 (i_iastore (i_aload 0 (i_dup (i_getf 10 32 (i_push (.int 1) (i_iadd (i_putf 10 32 .int (i_aload 0 (i_getf 10 32 (i_ireturn))))))))))))))))))))))))))))))))) (i_push (.int (-1)) (i_ireturn)))))) (i_push (.int 0) (i_ireturn)))))
theorem sbX11_copy_0 (g : GE) (J : Nat → KT) (h1 : Snd mX11_copy g 19 (J 1)) (h2 : Snd mX11_copy g 69 (J 2)) (h3 : Snd mX11_copy g 91 (J 3)) (h4 : Snd mX11_copy g 96 (J 4)) : Snd mX11_copy g 0 (bX11_copy_0 g J) := by
  unfold bX11_copy_0
  refine s_aload_n (pc := 0) (i := 0) ?_ dX11_copy_0 rfl
  refine s_iconst (pc := 1) (v := 0) ?_ dX11_copy_1 (by decide)
  refine s_putf (pc := 2) (ci := 10) (f := 0) (T := TX11) (ty0 := tyX11) ?_ ginX11 tyX11_ok nmX11 rfl (by decide) rfl rfl wt_1393 dX11_copy_2
  refine s_aload_n (pc := 5) (i := 0) ?_ dX11_copy_5 rfl
  refine s_aload_n (pc := 6) (i := 0) ?_ dX11_copy_6 rfl
  refine s_iload_n (pc := 7) (i := 2) ?_ dX11_copy_7 rfl
  refine s_cv (pc := 8) (n := 1) (ci := 10) ?_ tX11_isBlot rfl rfl wt_1655 wt_1657 wp_67 wt_17 wt_1658 ⟨crX11_isBlot, by decide, by decide⟩ dX11_copy_8
  refine s_ifne (pc := 11) (tgt := 18) ?_ ?_ dX11_copy_11 (by decide)
  · skip
    refine s_iconst (pc := 18) (v := 0) ?_ dX11_copy_18 (by decide)
    exact s_fall (pc := 19) h1
  · skip
    refine s_iconst (pc := 14) (v := 1) ?_ dX11_copy_14 (by decide)
    exact s_goto (pc := 15) (tgt := 19) h1 dX11_copy_15 (by decide)
theorem sbX11_copy_1 (g : GE) (J : Nat → KT) (h1 : Snd mX11_copy g 19 (J 1)) (h2 : Snd mX11_copy g 69 (J 2)) (h3 : Snd mX11_copy g 91 (J 3)) (h4 : Snd mX11_copy g 96 (J 4)) : Snd mX11_copy g 19 (bX11_copy_1 g J) := by
  unfold bX11_copy_1
  refine s_iconst (pc := 19) (v := 1) ?_ dX11_copy_19 (by decide)
  refine s_iconst (pc := 20) (v := 1) ?_ dX11_copy_20 (by decide)
  refine s_cv (pc := 21) (n := 3) (ci := 10) ?_ tX11_bad rfl rfl wt_1560 wt_1562 wp_49 wt_17 wt_1563 ⟨crX11_bad, by decide, by decide⟩ dX11_copy_21
  refine s_ifeq (pc := 24) (tgt := 29) ?_ ?_ dX11_copy_24 (by decide)
  · skip
    refine s_aload_n (pc := 29) (i := 0) ?_ dX11_copy_29 rfl
    refine s_getf (pc := 30) (ci := 10) (f := 24) (T := TX11) ?_ ginX11 rfl (by decide) wt_1417 dX11_copy_30
    refine s_iload_n (pc := 33) (i := 2) ?_ dX11_copy_33 rfl
    refine s_aaload (pc := 34) (t := 4) ?_ (by decide) rfl dX11_copy_34
    refine s_iconst (pc := 35) (v := 0) ?_ dX11_copy_35 (by decide)
    refine s_iaload (pc := 36) ?_ dX11_copy_36
    refine s_ifne (pc := 37) (tgt := 45) ?_ ?_ dX11_copy_37 (by decide)
    · skip
      refine s_aload_n (pc := 45) (i := 0) ?_ dX11_copy_45 rfl
      refine s_getf (pc := 46) (ci := 10) (f := 24) (T := TX11) ?_ ginX11 rfl (by decide) wt_1417 dX11_copy_46
      refine s_iload_n (pc := 49) (i := 2) ?_ dX11_copy_49 rfl
      refine s_aaload (pc := 50) (t := 4) ?_ (by decide) rfl dX11_copy_50
      refine s_iconst (pc := 51) (v := 0) ?_ dX11_copy_51 (by decide)
      refine s_iaload (pc := 52) ?_ dX11_copy_52
      refine s_iconst (pc := 53) (v := 1) ?_ dX11_copy_53 (by decide)
      refine s_icne (pc := 54) (tgt := 68) ?_ ?_ dX11_copy_54 (by decide)
      · skip
        refine s_iconst (pc := 68) (v := 1) ?_ dX11_copy_68 (by decide)
        exact s_fall (pc := 69) h2
      · skip
        refine s_aload_n (pc := 57) (i := 0) ?_ dX11_copy_57 rfl
        refine s_getf (pc := 58) (ci := 10) (f := 11) (T := TX11) ?_ ginX11 rfl (by decide) wt_1404 dX11_copy_58
        refine s_iconst (pc := 61) (v := 0) ?_ dX11_copy_61 (by decide)
        refine s_iaload (pc := 62) ?_ dX11_copy_62
        refine s_iconst (pc := 63) (v := 1) ?_ dX11_copy_63 (by decide)
        refine s_isub (pc := 64) ?_ dX11_copy_64
        exact s_goto (pc := 65) (tgt := 69) h2 dX11_copy_65 (by decide)
    · skip
      refine s_bipush (pc := 40) (v := 99) ?_ dX11_copy_40 (by decide)
      exact s_goto (pc := 42) (tgt := 69) h2 dX11_copy_42 (by decide)
  · skip
    refine s_iconst (pc := 27) (v := 0) ?_ dX11_copy_27 (by decide)
    exact s_ireturn (pc := 28) rfl dX11_copy_28
theorem sbX11_copy_2 (g : GE) (J : Nat → KT) (h1 : Snd mX11_copy g 19 (J 1)) (h2 : Snd mX11_copy g 69 (J 2)) (h3 : Snd mX11_copy g 91 (J 3)) (h4 : Snd mX11_copy g 96 (J 4)) : Snd mX11_copy g 69 (bX11_copy_2 g J) := by
  unfold bX11_copy_2
  refine s_istore (pc := 69) (i := 4) ?_ dX11_copy_69 (by decide)
  refine s_aload_n (pc := 71) (i := 0) ?_ dX11_copy_71 rfl
  refine s_iload_n (pc := 72) (i := 1) ?_ dX11_copy_72 rfl
  refine s_iconst (pc := 73) (v := 0) ?_ dX11_copy_73 (by decide)
  refine s_iconst (pc := 74) (v := 3) ?_ dX11_copy_74 (by decide)
  refine s_cs (pc := 75) (n := 3) ?_ tX11_in wt_1557 wt_1558 wt_17 wt_1559 ⟨crX11_in, by decide, by decide⟩ dX11_copy_75
  refine s_ifeq (pc := 78) (tgt := 91) ?_ ?_ dX11_copy_78 (by decide)
  · skip
    exact s_fall (pc := 91) h3
  · skip
    refine s_iload_n (pc := 81) (i := 3) ?_ dX11_copy_81 rfl
    refine s_iconst (pc := 82) (v := 0) ?_ dX11_copy_82 (by decide)
    refine s_iload (pc := 83) (i := 4) ?_ dX11_copy_83
    refine s_cs (pc := 85) (n := 3) ?_ tX11_in wt_1557 wt_1558 wt_17 wt_1559 ⟨crX11_in, by decide, by decide⟩ dX11_copy_85
    refine s_ifne (pc := 88) (tgt := 95) ?_ ?_ dX11_copy_88 (by decide)
    · skip
      refine s_iconst (pc := 95) (v := 0) ?_ dX11_copy_95 (by decide)
      exact s_fall (pc := 96) h4
    · skip
      exact s_fall (pc := 91) h3
theorem sbX11_copy_3 (g : GE) (J : Nat → KT) (h1 : Snd mX11_copy g 19 (J 1)) (h2 : Snd mX11_copy g 69 (J 2)) (h3 : Snd mX11_copy g 91 (J 3)) (h4 : Snd mX11_copy g 96 (J 4)) : Snd mX11_copy g 91 (bX11_copy_3 g J) := by
  unfold bX11_copy_3
  refine s_iconst (pc := 91) (v := 1) ?_ dX11_copy_91 (by decide)
  exact s_goto (pc := 92) (tgt := 96) h4 dX11_copy_92 (by decide)
theorem sbX11_copy_4 (g : GE) (J : Nat → KT) (h1 : Snd mX11_copy g 19 (J 1)) (h2 : Snd mX11_copy g 69 (J 2)) (h3 : Snd mX11_copy g 91 (J 3)) (h4 : Snd mX11_copy g 96 (J 4)) : Snd mX11_copy g 96 (bX11_copy_4 g J) := by
  unfold bX11_copy_4
  refine s_iconst (pc := 96) (v := 2) ?_ dX11_copy_96 (by decide)
  refine s_iconst (pc := 97) (v := 2) ?_ dX11_copy_97 (by decide)
  refine s_cv (pc := 98) (n := 3) (ci := 10) ?_ tX11_bad rfl rfl wt_1560 wt_1562 wp_49 wt_17 wt_1563 ⟨crX11_bad, by decide, by decide⟩ dX11_copy_98
  refine s_ifeq (pc := 101) (tgt := 106) ?_ ?_ dX11_copy_101 (by decide)
  · skip
    refine s_aload_n (pc := 106) (i := 0) ?_ dX11_copy_106 rfl
    refine s_getf (pc := 107) (ci := 10) (f := 32) (T := TX11) ?_ ginX11 rfl (by decide) wt_1425 dX11_copy_107
    refine s_bipush (pc := 110) (v := 12) ?_ dX11_copy_110 (by decide)
    refine s_icne (pc := 112) (tgt := 117) ?_ ?_ dX11_copy_112 (by decide)
    · skip
      refine s_aload_n (pc := 117) (i := 0) ?_ dX11_copy_117 rfl
      refine s_getf (pc := 118) (ci := 10) (f := 36) (T := TX11) ?_ ginX11 rfl (by decide) wt_1429 dX11_copy_118
      refine s_aload_n (pc := 121) (i := 0) ?_ dX11_copy_121 rfl
      refine s_getf (pc := 122) (ci := 10) (f := 32) (T := TX11) ?_ ginX11 rfl (by decide) wt_1425 dX11_copy_122
      refine s_aaload (pc := 125) (t := 4) ?_ (by decide) rfl dX11_copy_125
      refine s_iconst (pc := 126) (v := 0) ?_ dX11_copy_126 (by decide)
      refine s_iload_n (pc := 127) (i := 1) ?_ dX11_copy_127 rfl
      refine s_iastore (pc := 128) ?_ dX11_copy_128
      refine s_aload_n (pc := 129) (i := 0) ?_ dX11_copy_129 rfl
      refine s_getf (pc := 130) (ci := 10) (f := 36) (T := TX11) ?_ ginX11 rfl (by decide) wt_1429 dX11_copy_130
      refine s_aload_n (pc := 133) (i := 0) ?_ dX11_copy_133 rfl
      refine s_getf (pc := 134) (ci := 10) (f := 32) (T := TX11) ?_ ginX11 rfl (by decide) wt_1425 dX11_copy_134
      refine s_aaload (pc := 137) (t := 4) ?_ (by decide) rfl dX11_copy_137
      refine s_iconst (pc := 138) (v := 1) ?_ dX11_copy_138 (by decide)
      refine s_iload_n (pc := 139) (i := 2) ?_ dX11_copy_139 rfl
      refine s_iastore (pc := 140) ?_ dX11_copy_140
      refine s_aload_n (pc := 141) (i := 0) ?_ dX11_copy_141 rfl
      refine s_getf (pc := 142) (ci := 10) (f := 36) (T := TX11) ?_ ginX11 rfl (by decide) wt_1429 dX11_copy_142
      refine s_aload_n (pc := 145) (i := 0) ?_ dX11_copy_145 rfl
      refine s_getf (pc := 146) (ci := 10) (f := 32) (T := TX11) ?_ ginX11 rfl (by decide) wt_1425 dX11_copy_146
      refine s_aaload (pc := 149) (t := 4) ?_ (by decide) rfl dX11_copy_149
      refine s_iconst (pc := 150) (v := 2) ?_ dX11_copy_150 (by decide)
      refine s_iload_n (pc := 151) (i := 3) ?_ dX11_copy_151 rfl
      refine s_iastore (pc := 152) ?_ dX11_copy_152
      refine s_aload_n (pc := 153) (i := 0) ?_ dX11_copy_153 rfl
      refine s_dup (pc := 154) ?_ dX11_copy_154
      refine s_getf (pc := 155) (ci := 10) (f := 32) (T := TX11) ?_ ginX11 rfl (by decide) wt_1425 dX11_copy_155
      refine s_iconst (pc := 158) (v := 1) ?_ dX11_copy_158 (by decide)
      refine s_iadd (pc := 159) ?_ dX11_copy_159
      refine s_putf (pc := 160) (ci := 10) (f := 32) (T := TX11) (ty0 := tyX11) ?_ ginX11 tyX11_ok nmX11 rfl (by decide) rfl rfl wt_1425 dX11_copy_160
      refine s_aload_n (pc := 163) (i := 0) ?_ dX11_copy_163 rfl
      refine s_getf (pc := 164) (ci := 10) (f := 32) (T := TX11) ?_ ginX11 rfl (by decide) wt_1425 dX11_copy_164
      exact s_ireturn (pc := 167) rfl dX11_copy_167
    · skip
      refine s_iconst (pc := 115) (v := (-1)) ?_ dX11_copy_115 (by decide)
      exact s_ireturn (pc := 116) rfl dX11_copy_116
  · skip
    refine s_iconst (pc := 104) (v := 0) ?_ dX11_copy_104 (by decide)
    exact s_ireturn (pc := 105) rfl dX11_copy_105
def jX11_copy (g : GE) : Nat → Nat → KT
  | 0, _ => fun _ _ _ => none
  | n + 1, 0 => bX11_copy_0 g (jX11_copy g n)
  | n + 1, 1 => bX11_copy_1 g (jX11_copy g n)
  | n + 1, 2 => bX11_copy_2 g (jX11_copy g n)
  | n + 1, 3 => bX11_copy_3 g (jX11_copy g n)
  | n + 1, 4 => bX11_copy_4 g (jX11_copy g n)
  | _ + 1, _ + 5 => fun _ _ _ => none
theorem sjX11_copy (g : GE) : ∀ n, Snd mX11_copy g 0 (jX11_copy g n 0) ∧ Snd mX11_copy g 19 (jX11_copy g n 1) ∧ Snd mX11_copy g 69 (jX11_copy g n 2) ∧ Snd mX11_copy g 91 (jX11_copy g n 3) ∧ Snd mX11_copy g 96 (jX11_copy g n 4)
  | 0 => ⟨s_none, s_none, s_none, s_none, s_none⟩
  | n + 1 => by
    obtain ⟨-, h1, h2, h3, h4⟩ := sjX11_copy g n
    exact ⟨sbX11_copy_0 g _ h1 h2 h3 h4, sbX11_copy_1 g _ h1 h2 h3 h4, sbX11_copy_2 g _ h1 h2 h3 h4, sbX11_copy_3 g _ h1 h2 h3 h4, sbX11_copy_4 g _ h1 h2 h3 h4⟩
def kX11_copy (g : GE) : KT := jX11_copy g g.1 0
theorem sX11_copy (g : GE) : Snd mX11_copy g 0 (kX11_copy g) := (sjX11_copy g g.1).1
def fX11_copy : FT := fun g av w => if (ent av).length ≤ 5 then kX11_copy g [] (entp 5 av) w else none
theorem tX11_copy : Mt yX11_copy cX11_copy 5 (some .int) 3 73 fX11_copy := Mt.of (K := kX11_copy) (by decide +kernel) (fun _ _ _ => rfl) sX11_copy
theorem crX11_copy : yX11_copy.cls ≠ "java/lang/invoke/MethodHandle" ∧ yX11_copy.cls ≠ "java/lang/invoke/VarHandle" ∧ (parseMethodDescriptor yX11_copy.desc).map (fun d => d.parameters.length) = some 3 := by decide +kernel
theorem dX11_count_0 : decode cX11_count 0 = .ok (.aload_n 0, 1) := by decide +kernel
theorem dX11_count_1 : decode cX11_count 1 = .ok (.iconst 0, 1) := by decide +kernel
theorem dX11_count_2 : decode cX11_count 2 = .ok (.putfield 120, 3) := by decide +kernel
theorem dX11_count_5 : decode cX11_count 5 = .ok (.iload_n 1, 1) := by decide +kernel
theorem dX11_count_6 : decode cX11_count 6 = .ok (.tableswitch 50 0 3 #[30, 35, 40, 45], 30) := by decide +kernel
theorem dX11_count_36 : decode cX11_count 36 = .ok (.aload_n 0, 1) := by decide +kernel
theorem dX11_count_37 : decode cX11_count 37 = .ok (.getfield 225, 3) := by decide +kernel
theorem dX11_count_40 : decode cX11_count 40 = .ok (.ireturn, 1) := by decide +kernel
theorem dX11_count_41 : decode cX11_count 41 = .ok (.aload_n 0, 1) := by decide +kernel
theorem dX11_count_42 : decode cX11_count 42 = .ok (.getfield 228, 3) := by decide +kernel
theorem dX11_count_45 : decode cX11_count 45 = .ok (.ireturn, 1) := by decide +kernel
theorem dX11_count_46 : decode cX11_count 46 = .ok (.aload_n 0, 1) := by decide +kernel
theorem dX11_count_47 : decode cX11_count 47 = .ok (.getfield 231, 3) := by decide +kernel
theorem dX11_count_50 : decode cX11_count 50 = .ok (.ireturn, 1) := by decide +kernel
theorem dX11_count_51 : decode cX11_count 51 = .ok (.aload_n 0, 1) := by decide +kernel
theorem dX11_count_52 : decode cX11_count 52 = .ok (.getfield 123, 3) := by decide +kernel
theorem dX11_count_55 : decode cX11_count 55 = .ok (.ireturn, 1) := by decide +kernel
theorem dX11_count_56 : decode cX11_count 56 = .ok (.iconst (-1), 1) := by decide +kernel
theorem dX11_count_57 : decode cX11_count 57 = .ok (.ireturn, 1) := by decide +kernel
abbrev mX11_count : MD := (cX11_count, "BlottedDeedModel", 2, 1, 30, (some .int), "count", [])
def bX11_count_0 (g : GE) (J : Nat → KT) : KT := i_aload 0 (i_push (.int 0) (i_putf 10 0 .int (i_iload 1 (i_tsw 0 3 [i_aload 0 (i_getf 10 32 (i_ireturn)), i_aload 0 (i_getf 10 33 (i_ireturn)), i_aload 0 (i_getf 10 34 (i_ireturn)), i_aload 0 (i_getf 10 1 (i_ireturn))] (i_push (.int (-1)) (i_ireturn))))))
theorem sbX11_count_0 (g : GE) (J : Nat → KT)  : Snd mX11_count g 0 (bX11_count_0 g J) := by
  unfold bX11_count_0
  refine s_aload_n (pc := 0) (i := 0) ?_ dX11_count_0 rfl
  refine s_iconst (pc := 1) (v := 0) ?_ dX11_count_1 (by decide)
  refine s_putf (pc := 2) (ci := 10) (f := 0) (T := TX11) (ty0 := tyX11) ?_ ginX11 tyX11_ok nmX11 rfl (by decide) rfl rfl wt_1393 dX11_count_2
  refine s_iload_n (pc := 5) (i := 1) ?_ dX11_count_5 rfl
  refine s_tsw (pc := 6) (tgt := 56) dX11_count_6 ?_ (by decide) ?_
  · skip
    refine s_iconst (pc := 56) (v := (-1)) ?_ dX11_count_56 (by decide)
    exact s_ireturn (pc := 57) rfl dX11_count_57
  · intro j kj hj
    match j, hj with
    | 0, hj =>
      cases hj
      refine ⟨_, 36, rfl, by decide, ?_⟩
      refine s_aload_n (pc := 36) (i := 0) ?_ dX11_count_36 rfl
      refine s_getf (pc := 37) (ci := 10) (f := 32) (T := TX11) ?_ ginX11 rfl (by decide) wt_1425 dX11_count_37
      exact s_ireturn (pc := 40) rfl dX11_count_40
    | 1, hj =>
      cases hj
      refine ⟨_, 41, rfl, by decide, ?_⟩
      refine s_aload_n (pc := 41) (i := 0) ?_ dX11_count_41 rfl
      refine s_getf (pc := 42) (ci := 10) (f := 33) (T := TX11) ?_ ginX11 rfl (by decide) wt_1426 dX11_count_42
      exact s_ireturn (pc := 45) rfl dX11_count_45
    | 2, hj =>
      cases hj
      refine ⟨_, 46, rfl, by decide, ?_⟩
      refine s_aload_n (pc := 46) (i := 0) ?_ dX11_count_46 rfl
      refine s_getf (pc := 47) (ci := 10) (f := 34) (T := TX11) ?_ ginX11 rfl (by decide) wt_1427 dX11_count_47
      exact s_ireturn (pc := 50) rfl dX11_count_50
    | 3, hj =>
      cases hj
      refine ⟨_, 51, rfl, by decide, ?_⟩
      refine s_aload_n (pc := 51) (i := 0) ?_ dX11_count_51 rfl
      refine s_getf (pc := 52) (ci := 10) (f := 1) (T := TX11) ?_ ginX11 rfl (by decide) wt_1394 dX11_count_52
      exact s_ireturn (pc := 55) rfl dX11_count_55
    | j + 4, hj => simp at hj
def kX11_count (g : GE) : KT := bX11_count_0 g (fun _ _ _ _ => none)
theorem sX11_count (g : GE) : Snd mX11_count g 0 (kX11_count g) := sbX11_count_0 g _
def fX11_count : FT := fun g av w => if (ent av).length ≤ 2 then kX11_count g [] (entp 2 av) w else none
theorem tX11_count : Mt yX11_count cX11_count 2 (some .int) 1 30 fX11_count := Mt.of (K := kX11_count) (by decide +kernel) (fun _ _ _ => rfl) sX11_count
theorem crX11_count : yX11_count.cls ≠ "java/lang/invoke/MethodHandle" ∧ yX11_count.cls ≠ "java/lang/invoke/VarHandle" ∧ (parseMethodDescriptor yX11_count.desc).map (fun d => d.parameters.length) = some 1 := by decide +kernel
theorem dX11_laysReadings_0 : decode cX11_laysReadings 0 = .ok (.aload_n 0, 1) := by decide +kernel
theorem dX11_laysReadings_1 : decode cX11_laysReadings 1 = .ok (.iconst 0, 1) := by decide +kernel
theorem dX11_laysReadings_2 : decode cX11_laysReadings 2 = .ok (.putfield 244, 3) := by decide +kernel
theorem dX11_laysReadings_5 : decode cX11_laysReadings 5 = .ok (.iconst 0, 1) := by decide +kernel
theorem dX11_laysReadings_6 : decode cX11_laysReadings 6 = .ok (.istore_n 1, 1) := by decide +kernel
theorem dX11_laysReadings_7 : decode cX11_laysReadings 7 = .ok (.iload_n 1, 1) := by decide +kernel
theorem dX11_laysReadings_8 : decode cX11_laysReadings 8 = .ok (.aload_n 0, 1) := by decide +kernel
theorem dX11_laysReadings_9 : decode cX11_laysReadings 9 = .ok (.getfield 23, 3) := by decide +kernel
theorem dX11_laysReadings_12 : decode cX11_laysReadings 12 = .ok (.bipush 6, 2) := by decide +kernel
theorem dX11_laysReadings_14 : decode cX11_laysReadings 14 = .ok (.iaload, 1) := by decide +kernel
theorem dX11_laysReadings_15 : decode cX11_laysReadings 15 = .ok (.if_icmp .ge 166, 3) := by decide +kernel
theorem dX11_laysReadings_18 : decode cX11_laysReadings 18 = .ok (.aload_n 0, 1) := by decide +kernel
theorem dX11_laysReadings_19 : decode cX11_laysReadings 19 = .ok (.iload_n 1, 1) := by decide +kernel
theorem dX11_laysReadings_20 : decode cX11_laysReadings 20 = .ok (.invokevirtual 247, 3) := by decide +kernel
theorem dX11_laysReadings_23 : decode cX11_laysReadings 23 = .ok (.aload_n 0, 1) := by decide +kernel
theorem dX11_laysReadings_24 : decode cX11_laysReadings 24 = .ok (.iconst (-1), 1) := by decide +kernel
theorem dX11_laysReadings_25 : decode cX11_laysReadings 25 = .ok (.invokevirtual 250, 3) := by decide +kernel
theorem dX11_laysReadings_28 : decode cX11_laysReadings 28 = .ok (.aload_n 0, 1) := by decide +kernel
theorem dX11_laysReadings_29 : decode cX11_laysReadings 29 = .ok (.getfield 77, 3) := by decide +kernel
theorem dX11_laysReadings_32 : decode cX11_laysReadings 32 = .ok (.iload_n 1, 1) := by decide +kernel
theorem dX11_laysReadings_33 : decode cX11_laysReadings 33 = .ok (.iconst (-1), 1) := by decide +kernel
theorem dX11_laysReadings_34 : decode cX11_laysReadings 34 = .ok (.iastore, 1) := by decide +kernel
theorem dX11_laysReadings_35 : decode cX11_laysReadings 35 = .ok (.aload_n 0, 1) := by decide +kernel
theorem dX11_laysReadings_36 : decode cX11_laysReadings 36 = .ok (.aload_n 0, 1) := by decide +kernel
theorem dX11_laysReadings_37 : decode cX11_laysReadings 37 = .ok (.getfield 23, 3) := by decide +kernel
theorem dX11_laysReadings_40 : decode cX11_laysReadings 40 = .ok (.iconst 4, 1) := by decide +kernel
theorem dX11_laysReadings_41 : decode cX11_laysReadings 41 = .ok (.iaload, 1) := by decide +kernel
theorem dX11_laysReadings_42 : decode cX11_laysReadings 42 = .ok (.invokevirtual 253, 3) := by decide +kernel
theorem dX11_laysReadings_45 : decode cX11_laysReadings 45 = .ok (.ifCond .eq 6, 3) := by decide +kernel
theorem dX11_laysReadings_48 : decode cX11_laysReadings 48 = .ok (.goto 127, 3) := by decide +kernel
theorem dX11_laysReadings_51 : decode cX11_laysReadings 51 = .ok (.aload_n 0, 1) := by decide +kernel
theorem dX11_laysReadings_52 : decode cX11_laysReadings 52 = .ok (.getfield 77, 3) := by decide +kernel
theorem dX11_laysReadings_55 : decode cX11_laysReadings 55 = .ok (.iload_n 1, 1) := by decide +kernel
theorem dX11_laysReadings_56 : decode cX11_laysReadings 56 = .ok (.aload_n 0, 1) := by decide +kernel
theorem dX11_laysReadings_57 : decode cX11_laysReadings 57 = .ok (.getfield 244, 3) := by decide +kernel
theorem dX11_laysReadings_60 : decode cX11_laysReadings 60 = .ok (.iastore, 1) := by decide +kernel
theorem dX11_laysReadings_61 : decode cX11_laysReadings 61 = .ok (.aload_n 0, 1) := by decide +kernel
theorem dX11_laysReadings_62 : decode cX11_laysReadings 62 = .ok (.getfield 74, 3) := by decide +kernel
theorem dX11_laysReadings_65 : decode cX11_laysReadings 65 = .ok (.aload_n 0, 1) := by decide +kernel
theorem dX11_laysReadings_66 : decode cX11_laysReadings 66 = .ok (.getfield 244, 3) := by decide +kernel
theorem dX11_laysReadings_69 : decode cX11_laysReadings 69 = .ok (.iload_n 1, 1) := by decide +kernel
theorem dX11_laysReadings_70 : decode cX11_laysReadings 70 = .ok (.iastore, 1) := by decide +kernel
theorem dX11_laysReadings_71 : decode cX11_laysReadings 71 = .ok (.aload_n 0, 1) := by decide +kernel
theorem dX11_laysReadings_72 : decode cX11_laysReadings 72 = .ok (.getfield 83, 3) := by decide +kernel
theorem dX11_laysReadings_75 : decode cX11_laysReadings 75 = .ok (.aload_n 0, 1) := by decide +kernel
theorem dX11_laysReadings_76 : decode cX11_laysReadings 76 = .ok (.getfield 244, 3) := by decide +kernel
theorem dX11_laysReadings_79 : decode cX11_laysReadings 79 = .ok (.lconst 0, 1) := by decide +kernel
theorem dX11_laysReadings_80 : decode cX11_laysReadings 80 = .ok (.lastore, 1) := by decide +kernel
theorem dX11_laysReadings_81 : decode cX11_laysReadings 81 = .ok (.aload_n 0, 1) := by decide +kernel
theorem dX11_laysReadings_82 : decode cX11_laysReadings 82 = .ok (.getfield 80, 3) := by decide +kernel
theorem dX11_laysReadings_85 : decode cX11_laysReadings 85 = .ok (.aload_n 0, 1) := by decide +kernel
theorem dX11_laysReadings_86 : decode cX11_laysReadings 86 = .ok (.getfield 244, 3) := by decide +kernel
theorem dX11_laysReadings_89 : decode cX11_laysReadings 89 = .ok (.iconst 0, 1) := by decide +kernel
theorem dX11_laysReadings_90 : decode cX11_laysReadings 90 = .ok (.iastore, 1) := by decide +kernel
theorem dX11_laysReadings_91 : decode cX11_laysReadings 91 = .ok (.iconst 0, 1) := by decide +kernel
theorem dX11_laysReadings_92 : decode cX11_laysReadings 92 = .ok (.istore_n 2, 1) := by decide +kernel
theorem dX11_laysReadings_93 : decode cX11_laysReadings 93 = .ok (.iload_n 2, 1) := by decide +kernel
theorem dX11_laysReadings_94 : decode cX11_laysReadings 94 = .ok (.iconst 4, 1) := by decide +kernel
theorem dX11_laysReadings_95 : decode cX11_laysReadings 95 = .ok (.if_icmp .ge 33, 3) := by decide +kernel
theorem dX11_laysReadings_98 : decode cX11_laysReadings 98 = .ok (.aload_n 0, 1) := by decide +kernel
theorem dX11_laysReadings_99 : decode cX11_laysReadings 99 = .ok (.getfield 83, 3) := by decide +kernel
theorem dX11_laysReadings_102 : decode cX11_laysReadings 102 = .ok (.aload_n 0, 1) := by decide +kernel
theorem dX11_laysReadings_103 : decode cX11_laysReadings 103 = .ok (.getfield 244, 3) := by decide +kernel
theorem dX11_laysReadings_106 : decode cX11_laysReadings 106 = .ok (.dup2, 1) := by decide +kernel
theorem dX11_laysReadings_107 : decode cX11_laysReadings 107 = .ok (.laload, 1) := by decide +kernel
theorem dX11_laysReadings_108 : decode cX11_laysReadings 108 = .ok (.aload_n 0, 1) := by decide +kernel
theorem dX11_laysReadings_109 : decode cX11_laysReadings 109 = .ok (.getfield 98, 3) := by decide +kernel
theorem dX11_laysReadings_112 : decode cX11_laysReadings 112 = .ok (.iload_n 2, 1) := by decide +kernel
theorem dX11_laysReadings_113 : decode cX11_laysReadings 113 = .ok (.iaload, 1) := by decide +kernel
theorem dX11_laysReadings_114 : decode cX11_laysReadings 114 = .ok (.i2l, 1) := by decide +kernel
theorem dX11_laysReadings_115 : decode cX11_laysReadings 115 = .ok (.bipush 10, 2) := by decide +kernel
theorem dX11_laysReadings_117 : decode cX11_laysReadings 117 = .ok (.iload_n 2, 1) := by decide +kernel
theorem dX11_laysReadings_118 : decode cX11_laysReadings 118 = .ok (.imul, 1) := by decide +kernel
theorem dX11_laysReadings_119 : decode cX11_laysReadings 119 = .ok (.lshl, 1) := by decide +kernel
theorem dX11_laysReadings_120 : decode cX11_laysReadings 120 = .ok (.lor, 1) := by decide +kernel
theorem dX11_laysReadings_121 : decode cX11_laysReadings 121 = .ok (.lastore, 1) := by decide +kernel
theorem dX11_laysReadings_122 : decode cX11_laysReadings 122 = .ok (.iinc 2 1, 3) := by decide +kernel
theorem dX11_laysReadings_125 : decode cX11_laysReadings 125 = .ok (.goto (-32), 3) := by decide +kernel
theorem dX11_laysReadings_128 : decode cX11_laysReadings 128 = .ok (.iconst 0, 1) := by decide +kernel
theorem dX11_laysReadings_129 : decode cX11_laysReadings 129 = .ok (.istore_n 2, 1) := by decide +kernel
theorem dX11_laysReadings_130 : decode cX11_laysReadings 130 = .ok (.iload_n 2, 1) := by decide +kernel
theorem dX11_laysReadings_131 : decode cX11_laysReadings 131 = .ok (.iconst 5, 1) := by decide +kernel
theorem dX11_laysReadings_132 : decode cX11_laysReadings 132 = .ok (.if_icmp .ge 33, 3) := by decide +kernel
theorem dX11_laysReadings_135 : decode cX11_laysReadings 135 = .ok (.aload_n 0, 1) := by decide +kernel
theorem dX11_laysReadings_136 : decode cX11_laysReadings 136 = .ok (.getfield 80, 3) := by decide +kernel
theorem dX11_laysReadings_139 : decode cX11_laysReadings 139 = .ok (.aload_n 0, 1) := by decide +kernel
theorem dX11_laysReadings_140 : decode cX11_laysReadings 140 = .ok (.getfield 244, 3) := by decide +kernel
theorem dX11_laysReadings_143 : decode cX11_laysReadings 143 = .ok (.dup2, 1) := by decide +kernel
theorem dX11_laysReadings_144 : decode cX11_laysReadings 144 = .ok (.iaload, 1) := by decide +kernel
theorem dX11_laysReadings_145 : decode cX11_laysReadings 145 = .ok (.aload_n 0, 1) := by decide +kernel
theorem dX11_laysReadings_146 : decode cX11_laysReadings 146 = .ok (.getfield 101, 3) := by decide +kernel
theorem dX11_laysReadings_149 : decode cX11_laysReadings 149 = .ok (.iload_n 2, 1) := by decide +kernel
theorem dX11_laysReadings_150 : decode cX11_laysReadings 150 = .ok (.iaload, 1) := by decide +kernel
theorem dX11_laysReadings_151 : decode cX11_laysReadings 151 = .ok (.iconst 1, 1) := by decide +kernel
theorem dX11_laysReadings_152 : decode cX11_laysReadings 152 = .ok (.iadd, 1) := by decide +kernel
theorem dX11_laysReadings_153 : decode cX11_laysReadings 153 = .ok (.iconst 3, 1) := by decide +kernel
theorem dX11_laysReadings_154 : decode cX11_laysReadings 154 = .ok (.iload_n 2, 1) := by decide +kernel
theorem dX11_laysReadings_155 : decode cX11_laysReadings 155 = .ok (.imul, 1) := by decide +kernel
theorem dX11_laysReadings_156 : decode cX11_laysReadings 156 = .ok (.ishl, 1) := by decide +kernel
theorem dX11_laysReadings_157 : decode cX11_laysReadings 157 = .ok (.ior, 1) := by decide +kernel
theorem dX11_laysReadings_158 : decode cX11_laysReadings 158 = .ok (.iastore, 1) := by decide +kernel
theorem dX11_laysReadings_159 : decode cX11_laysReadings 159 = .ok (.iinc 2 1, 3) := by decide +kernel
theorem dX11_laysReadings_162 : decode cX11_laysReadings 162 = .ok (.goto (-32), 3) := by decide +kernel
theorem dX11_laysReadings_165 : decode cX11_laysReadings 165 = .ok (.aload_n 0, 1) := by decide +kernel
theorem dX11_laysReadings_166 : decode cX11_laysReadings 166 = .ok (.dup, 1) := by decide +kernel
theorem dX11_laysReadings_167 : decode cX11_laysReadings 167 = .ok (.getfield 244, 3) := by decide +kernel
theorem dX11_laysReadings_170 : decode cX11_laysReadings 170 = .ok (.iconst 1, 1) := by decide +kernel
theorem dX11_laysReadings_171 : decode cX11_laysReadings 171 = .ok (.iadd, 1) := by decide +kernel
theorem dX11_laysReadings_172 : decode cX11_laysReadings 172 = .ok (.putfield 244, 3) := by decide +kernel
theorem dX11_laysReadings_175 : decode cX11_laysReadings 175 = .ok (.iinc 1 1, 3) := by decide +kernel
theorem dX11_laysReadings_178 : decode cX11_laysReadings 178 = .ok (.goto (-171), 3) := by decide +kernel
theorem dX11_laysReadings_181 : decode cX11_laysReadings 181 = .ok (.return_, 1) := by decide +kernel
abbrev mX11_laysReadings : MD := (cX11_laysReadings, "BlottedDeedModel", 3, 3, 75, none, "laysReadings", [])
def bX11_laysReadings_0 (g : GE) (J : Nat → KT) : KT := i_aload 0 (i_push (.int 0) (i_putf 10 27 .int (i_push (.int 0) (i_istore 1 (i_jmp [true, true, false] (J 1))))))
def bX11_laysReadings_1 (g : GE) (J : Nat → KT) : KT := i_iload 1 (i_aload 0 (i_getf 10 11 (i_push (.int 6) (i_iaload (i_icge (i_return) (i_aload 0 (i_iload 1 (i_cv fX11_fills g 1 10 (i_aload 0 (i_push (.int (-1)) (i_cv fX11_asks g 1 10 (i_aload 0 (i_getf 10 29 (i_iload 1 (i_push (.int (-1)) (i_iastore (i_aload 0 (i_aload 0 (i_getf 10 11 (i_push (.int 4) (i_iaload (i_cv fX11_broken g 1 10 (i_ifeq (i_aload 0 (i_getf 10 29 (i_iload 1 (i_aload 0 (i_getf 10 27 (i_iastore (i_aload 0 (i_getf 10 28 (i_aload 0 (i_getf 10 27 (i_iload 1 (i_iastore (i_aload 0 (i_getf 10 31 (i_aload 0 (i_getf 10 27 (i_push (.long 0) (i_lastore (i_aload 0 (i_getf 10 30 (i_aload 0 (i_getf 10 27 (i_push (.int 0) (i_iastore (i_push (.int 0) (i_istore 2 (i_jmp [true, true, true] (J 2)))))))))))))))))))))))))))) (i_jmp [true, true, false] (J 4)))))))))))))))))))))))))
def bX11_laysReadings_2 (g : GE) (J : Nat → KT) : KT := i_iload 2 (i_push (.int 4) (i_icge (i_push (.int 0) (i_istore 2 (i_jmp [true, true, true] (J 3)))) (i_aload 0 (i_getf 10 31 (i_aload 0 (i_getf 10 27 (i_dup2 (i_laload (i_aload 0 (i_getf 10 40 (i_iload 2 (i_iaload (i_i2l (i_push (.int 10) (i_iload 2 (i_imul (i_lshl (i_lor (i_lastore (i_iinc 2 1 (i_jmp [true, true, true] (J 2))))))))))))))))))))))
def bX11_laysReadings_3 (g : GE) (J : Nat → KT) : KT := i_iload 2 (i_push (.int 5) (i_icge (i_aload 0 (i_dup (i_getf 10 27 (i_push (.int 1) (i_iadd (i_putf 10 27 .int (i_jmp [true, true, false] (J 4)))))))) (i_aload 0 (i_getf 10 30 (i_aload 0 (i_getf 10 27 (i_dup2 (i_iaload (i_aload 0 (i_getf 10 41 (i_iload 2 (i_iaload (i_push (.int 1) (i_iadd (i_push (.int 3) (i_iload 2 (i_imul (i_ishl (i_ior (i_iastore (i_iinc 2 1 (i_jmp [true, true, true] (J 3)))))))))))))))))))))))
def bX11_laysReadings_4 (g : GE) (J : Nat → KT) : KT := i_iinc 1 1 (i_jmp [true, true, false] (J 1))
theorem sbX11_laysReadings_0 (g : GE) (J : Nat → KT) (h1 : Snd mX11_laysReadings g 7 (J 1)) (h2 : Snd mX11_laysReadings g 93 (J 2)) (h3 : Snd mX11_laysReadings g 130 (J 3)) (h4 : Snd mX11_laysReadings g 175 (J 4)) : Snd mX11_laysReadings g 0 (bX11_laysReadings_0 g J) := by
  unfold bX11_laysReadings_0
  refine s_aload_n (pc := 0) (i := 0) ?_ dX11_laysReadings_0 rfl
  refine s_iconst (pc := 1) (v := 0) ?_ dX11_laysReadings_1 (by decide)
  refine s_putf (pc := 2) (ci := 10) (f := 27) (T := TX11) (ty0 := tyX11) ?_ ginX11 tyX11_ok nmX11 rfl (by decide) rfl rfl wt_1420 dX11_laysReadings_2
  refine s_iconst (pc := 5) (v := 0) ?_ dX11_laysReadings_5 (by decide)
  refine s_istore_n (pc := 6) (i := 1) ?_ dX11_laysReadings_6 rfl (by decide)
  exact s_fall (pc := 7) h1
theorem sbX11_laysReadings_1 (g : GE) (J : Nat → KT) (h1 : Snd mX11_laysReadings g 7 (J 1)) (h2 : Snd mX11_laysReadings g 93 (J 2)) (h3 : Snd mX11_laysReadings g 130 (J 3)) (h4 : Snd mX11_laysReadings g 175 (J 4)) : Snd mX11_laysReadings g 7 (bX11_laysReadings_1 g J) := by
  unfold bX11_laysReadings_1
  refine s_iload_n (pc := 7) (i := 1) ?_ dX11_laysReadings_7 rfl
  refine s_aload_n (pc := 8) (i := 0) ?_ dX11_laysReadings_8 rfl
  refine s_getf (pc := 9) (ci := 10) (f := 11) (T := TX11) ?_ ginX11 rfl (by decide) wt_1404 dX11_laysReadings_9
  refine s_bipush (pc := 12) (v := 6) ?_ dX11_laysReadings_12 (by decide)
  refine s_iaload (pc := 14) ?_ dX11_laysReadings_14
  refine s_icge (pc := 15) (tgt := 181) ?_ ?_ dX11_laysReadings_15 (by decide)
  · skip
    exact s_return (pc := 181) rfl dX11_laysReadings_181
  · skip
    refine s_aload_n (pc := 18) (i := 0) ?_ dX11_laysReadings_18 rfl
    refine s_iload_n (pc := 19) (i := 1) ?_ dX11_laysReadings_19 rfl
    refine s_cv (pc := 20) (n := 1) (ci := 10) ?_ tX11_fills rfl rfl wt_1377 wt_1379 wp_45 wt_17 wt_1380 ⟨crX11_fills, by decide, by decide⟩ dX11_laysReadings_20
    refine s_aload_n (pc := 23) (i := 0) ?_ dX11_laysReadings_23 rfl
    refine s_iconst (pc := 24) (v := (-1)) ?_ dX11_laysReadings_24 (by decide)
    refine s_cv (pc := 25) (n := 1) (ci := 10) ?_ tX11_asks rfl rfl wt_1381 wt_1383 wp_46 wt_17 wt_1384 ⟨crX11_asks, by decide, by decide⟩ dX11_laysReadings_25
    refine s_aload_n (pc := 28) (i := 0) ?_ dX11_laysReadings_28 rfl
    refine s_getf (pc := 29) (ci := 10) (f := 29) (T := TX11) ?_ ginX11 rfl (by decide) wt_1422 dX11_laysReadings_29
    refine s_iload_n (pc := 32) (i := 1) ?_ dX11_laysReadings_32 rfl
    refine s_iconst (pc := 33) (v := (-1)) ?_ dX11_laysReadings_33 (by decide)
    refine s_iastore (pc := 34) ?_ dX11_laysReadings_34
    refine s_aload_n (pc := 35) (i := 0) ?_ dX11_laysReadings_35 rfl
    refine s_aload_n (pc := 36) (i := 0) ?_ dX11_laysReadings_36 rfl
    refine s_getf (pc := 37) (ci := 10) (f := 11) (T := TX11) ?_ ginX11 rfl (by decide) wt_1404 dX11_laysReadings_37
    refine s_iconst (pc := 40) (v := 4) ?_ dX11_laysReadings_40 (by decide)
    refine s_iaload (pc := 41) ?_ dX11_laysReadings_41
    refine s_cv (pc := 42) (n := 1) (ci := 10) ?_ tX11_broken rfl rfl wt_1385 wt_1387 wp_47 wt_17 wt_1388 ⟨crX11_broken, by decide, by decide⟩ dX11_laysReadings_42
    refine s_ifeq (pc := 45) (tgt := 51) ?_ ?_ dX11_laysReadings_45 (by decide)
    · skip
      refine s_aload_n (pc := 51) (i := 0) ?_ dX11_laysReadings_51 rfl
      refine s_getf (pc := 52) (ci := 10) (f := 29) (T := TX11) ?_ ginX11 rfl (by decide) wt_1422 dX11_laysReadings_52
      refine s_iload_n (pc := 55) (i := 1) ?_ dX11_laysReadings_55 rfl
      refine s_aload_n (pc := 56) (i := 0) ?_ dX11_laysReadings_56 rfl
      refine s_getf (pc := 57) (ci := 10) (f := 27) (T := TX11) ?_ ginX11 rfl (by decide) wt_1420 dX11_laysReadings_57
      refine s_iastore (pc := 60) ?_ dX11_laysReadings_60
      refine s_aload_n (pc := 61) (i := 0) ?_ dX11_laysReadings_61 rfl
      refine s_getf (pc := 62) (ci := 10) (f := 28) (T := TX11) ?_ ginX11 rfl (by decide) wt_1421 dX11_laysReadings_62
      refine s_aload_n (pc := 65) (i := 0) ?_ dX11_laysReadings_65 rfl
      refine s_getf (pc := 66) (ci := 10) (f := 27) (T := TX11) ?_ ginX11 rfl (by decide) wt_1420 dX11_laysReadings_66
      refine s_iload_n (pc := 69) (i := 1) ?_ dX11_laysReadings_69 rfl
      refine s_iastore (pc := 70) ?_ dX11_laysReadings_70
      refine s_aload_n (pc := 71) (i := 0) ?_ dX11_laysReadings_71 rfl
      refine s_getf (pc := 72) (ci := 10) (f := 31) (T := TX11) ?_ ginX11 rfl (by decide) wt_1424 dX11_laysReadings_72
      refine s_aload_n (pc := 75) (i := 0) ?_ dX11_laysReadings_75 rfl
      refine s_getf (pc := 76) (ci := 10) (f := 27) (T := TX11) ?_ ginX11 rfl (by decide) wt_1420 dX11_laysReadings_76
      refine s_lconst (pc := 79) (v := 0) ?_ dX11_laysReadings_79 (by decide)
      refine s_lastore (pc := 80) ?_ dX11_laysReadings_80
      refine s_aload_n (pc := 81) (i := 0) ?_ dX11_laysReadings_81 rfl
      refine s_getf (pc := 82) (ci := 10) (f := 30) (T := TX11) ?_ ginX11 rfl (by decide) wt_1423 dX11_laysReadings_82
      refine s_aload_n (pc := 85) (i := 0) ?_ dX11_laysReadings_85 rfl
      refine s_getf (pc := 86) (ci := 10) (f := 27) (T := TX11) ?_ ginX11 rfl (by decide) wt_1420 dX11_laysReadings_86
      refine s_iconst (pc := 89) (v := 0) ?_ dX11_laysReadings_89 (by decide)
      refine s_iastore (pc := 90) ?_ dX11_laysReadings_90
      refine s_iconst (pc := 91) (v := 0) ?_ dX11_laysReadings_91 (by decide)
      refine s_istore_n (pc := 92) (i := 2) ?_ dX11_laysReadings_92 rfl (by decide)
      exact s_fall (pc := 93) h2
    · skip
      exact s_goto (pc := 48) (tgt := 175) h4 dX11_laysReadings_48 (by decide)
theorem sbX11_laysReadings_2 (g : GE) (J : Nat → KT) (h1 : Snd mX11_laysReadings g 7 (J 1)) (h2 : Snd mX11_laysReadings g 93 (J 2)) (h3 : Snd mX11_laysReadings g 130 (J 3)) (h4 : Snd mX11_laysReadings g 175 (J 4)) : Snd mX11_laysReadings g 93 (bX11_laysReadings_2 g J) := by
  unfold bX11_laysReadings_2
  refine s_iload_n (pc := 93) (i := 2) ?_ dX11_laysReadings_93 rfl
  refine s_iconst (pc := 94) (v := 4) ?_ dX11_laysReadings_94 (by decide)
  refine s_icge (pc := 95) (tgt := 128) ?_ ?_ dX11_laysReadings_95 (by decide)
  · skip
    refine s_iconst (pc := 128) (v := 0) ?_ dX11_laysReadings_128 (by decide)
    refine s_istore_n (pc := 129) (i := 2) ?_ dX11_laysReadings_129 rfl (by decide)
    exact s_fall (pc := 130) h3
  · skip
    refine s_aload_n (pc := 98) (i := 0) ?_ dX11_laysReadings_98 rfl
    refine s_getf (pc := 99) (ci := 10) (f := 31) (T := TX11) ?_ ginX11 rfl (by decide) wt_1424 dX11_laysReadings_99
    refine s_aload_n (pc := 102) (i := 0) ?_ dX11_laysReadings_102 rfl
    refine s_getf (pc := 103) (ci := 10) (f := 27) (T := TX11) ?_ ginX11 rfl (by decide) wt_1420 dX11_laysReadings_103
    refine s_dup2 (pc := 106) ?_ dX11_laysReadings_106
    refine s_laload (pc := 107) ?_ dX11_laysReadings_107
    refine s_aload_n (pc := 108) (i := 0) ?_ dX11_laysReadings_108 rfl
    refine s_getf (pc := 109) (ci := 10) (f := 40) (T := TX11) ?_ ginX11 rfl (by decide) wt_1433 dX11_laysReadings_109
    refine s_iload_n (pc := 112) (i := 2) ?_ dX11_laysReadings_112 rfl
    refine s_iaload (pc := 113) ?_ dX11_laysReadings_113
    refine s_i2l (pc := 114) ?_ dX11_laysReadings_114
    refine s_bipush (pc := 115) (v := 10) ?_ dX11_laysReadings_115 (by decide)
    refine s_iload_n (pc := 117) (i := 2) ?_ dX11_laysReadings_117 rfl
    refine s_imul (pc := 118) ?_ dX11_laysReadings_118
    refine s_lshl (pc := 119) ?_ dX11_laysReadings_119
    refine s_lor (pc := 120) ?_ dX11_laysReadings_120
    refine s_lastore (pc := 121) ?_ dX11_laysReadings_121
    refine s_iinc (pc := 122) (i := 2) (v := 1) ?_ dX11_laysReadings_122 (by decide) (by decide)
    exact s_goto (pc := 125) (tgt := 93) h2 dX11_laysReadings_125 (by decide)
theorem sbX11_laysReadings_3 (g : GE) (J : Nat → KT) (h1 : Snd mX11_laysReadings g 7 (J 1)) (h2 : Snd mX11_laysReadings g 93 (J 2)) (h3 : Snd mX11_laysReadings g 130 (J 3)) (h4 : Snd mX11_laysReadings g 175 (J 4)) : Snd mX11_laysReadings g 130 (bX11_laysReadings_3 g J) := by
  unfold bX11_laysReadings_3
  refine s_iload_n (pc := 130) (i := 2) ?_ dX11_laysReadings_130 rfl
  refine s_iconst (pc := 131) (v := 5) ?_ dX11_laysReadings_131 (by decide)
  refine s_icge (pc := 132) (tgt := 165) ?_ ?_ dX11_laysReadings_132 (by decide)
  · skip
    refine s_aload_n (pc := 165) (i := 0) ?_ dX11_laysReadings_165 rfl
    refine s_dup (pc := 166) ?_ dX11_laysReadings_166
    refine s_getf (pc := 167) (ci := 10) (f := 27) (T := TX11) ?_ ginX11 rfl (by decide) wt_1420 dX11_laysReadings_167
    refine s_iconst (pc := 170) (v := 1) ?_ dX11_laysReadings_170 (by decide)
    refine s_iadd (pc := 171) ?_ dX11_laysReadings_171
    refine s_putf (pc := 172) (ci := 10) (f := 27) (T := TX11) (ty0 := tyX11) ?_ ginX11 tyX11_ok nmX11 rfl (by decide) rfl rfl wt_1420 dX11_laysReadings_172
    exact s_fall (pc := 175) h4
  · skip
    refine s_aload_n (pc := 135) (i := 0) ?_ dX11_laysReadings_135 rfl
    refine s_getf (pc := 136) (ci := 10) (f := 30) (T := TX11) ?_ ginX11 rfl (by decide) wt_1423 dX11_laysReadings_136
    refine s_aload_n (pc := 139) (i := 0) ?_ dX11_laysReadings_139 rfl
    refine s_getf (pc := 140) (ci := 10) (f := 27) (T := TX11) ?_ ginX11 rfl (by decide) wt_1420 dX11_laysReadings_140
    refine s_dup2 (pc := 143) ?_ dX11_laysReadings_143
    refine s_iaload (pc := 144) ?_ dX11_laysReadings_144
    refine s_aload_n (pc := 145) (i := 0) ?_ dX11_laysReadings_145 rfl
    refine s_getf (pc := 146) (ci := 10) (f := 41) (T := TX11) ?_ ginX11 rfl (by decide) wt_1434 dX11_laysReadings_146
    refine s_iload_n (pc := 149) (i := 2) ?_ dX11_laysReadings_149 rfl
    refine s_iaload (pc := 150) ?_ dX11_laysReadings_150
    refine s_iconst (pc := 151) (v := 1) ?_ dX11_laysReadings_151 (by decide)
    refine s_iadd (pc := 152) ?_ dX11_laysReadings_152
    refine s_iconst (pc := 153) (v := 3) ?_ dX11_laysReadings_153 (by decide)
    refine s_iload_n (pc := 154) (i := 2) ?_ dX11_laysReadings_154 rfl
    refine s_imul (pc := 155) ?_ dX11_laysReadings_155
    refine s_ishl (pc := 156) ?_ dX11_laysReadings_156
    refine s_ior (pc := 157) ?_ dX11_laysReadings_157
    refine s_iastore (pc := 158) ?_ dX11_laysReadings_158
    refine s_iinc (pc := 159) (i := 2) (v := 1) ?_ dX11_laysReadings_159 (by decide) (by decide)
    exact s_goto (pc := 162) (tgt := 130) h3 dX11_laysReadings_162 (by decide)
theorem sbX11_laysReadings_4 (g : GE) (J : Nat → KT) (h1 : Snd mX11_laysReadings g 7 (J 1)) (h2 : Snd mX11_laysReadings g 93 (J 2)) (h3 : Snd mX11_laysReadings g 130 (J 3)) (h4 : Snd mX11_laysReadings g 175 (J 4)) : Snd mX11_laysReadings g 175 (bX11_laysReadings_4 g J) := by
  unfold bX11_laysReadings_4
  refine s_iinc (pc := 175) (i := 1) (v := 1) ?_ dX11_laysReadings_175 (by decide) (by decide)
  exact s_goto (pc := 178) (tgt := 7) h1 dX11_laysReadings_178 (by decide)
def jX11_laysReadings (g : GE) : Nat → Nat → KT
  | 0, _ => fun _ _ _ => none
  | n + 1, 0 => bX11_laysReadings_0 g (jX11_laysReadings g n)
  | n + 1, 1 => bX11_laysReadings_1 g (jX11_laysReadings g n)
  | n + 1, 2 => bX11_laysReadings_2 g (jX11_laysReadings g n)
  | n + 1, 3 => bX11_laysReadings_3 g (jX11_laysReadings g n)
  | n + 1, 4 => bX11_laysReadings_4 g (jX11_laysReadings g n)
  | _ + 1, _ + 5 => fun _ _ _ => none
theorem sjX11_laysReadings (g : GE) : ∀ n, Snd mX11_laysReadings g 0 (jX11_laysReadings g n 0) ∧ Snd mX11_laysReadings g 7 (jX11_laysReadings g n 1) ∧ Snd mX11_laysReadings g 93 (jX11_laysReadings g n 2) ∧ Snd mX11_laysReadings g 130 (jX11_laysReadings g n 3) ∧ Snd mX11_laysReadings g 175 (jX11_laysReadings g n 4)
  | 0 => ⟨s_none, s_none, s_none, s_none, s_none⟩
  | n + 1 => by
    obtain ⟨-, h1, h2, h3, h4⟩ := sjX11_laysReadings g n
    exact ⟨sbX11_laysReadings_0 g _ h1 h2 h3 h4, sbX11_laysReadings_1 g _ h1 h2 h3 h4, sbX11_laysReadings_2 g _ h1 h2 h3 h4, sbX11_laysReadings_3 g _ h1 h2 h3 h4, sbX11_laysReadings_4 g _ h1 h2 h3 h4⟩
def kX11_laysReadings (g : GE) : KT := jX11_laysReadings g g.1 0
theorem sX11_laysReadings (g : GE) : Snd mX11_laysReadings g 0 (kX11_laysReadings g) := (sjX11_laysReadings g g.1).1
def fX11_laysReadings : FT := fun g av w => if (ent av).length ≤ 3 then kX11_laysReadings g [] (entp 3 av) w else none
theorem tX11_laysReadings : Mt yX11_laysReadings cX11_laysReadings 3 none 3 75 fX11_laysReadings := Mt.of (K := kX11_laysReadings) (by decide +kernel) (fun _ _ _ => rfl) sX11_laysReadings
theorem crX11_laysReadings : yX11_laysReadings.cls ≠ "java/lang/invoke/MethodHandle" ∧ yX11_laysReadings.cls ≠ "java/lang/invoke/VarHandle" ∧ (parseMethodDescriptor yX11_laysReadings.desc).map (fun d => d.parameters.length) = some 0 := by decide +kernel
