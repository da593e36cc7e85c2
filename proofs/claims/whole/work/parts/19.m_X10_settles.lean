theorem dX10_settles_0 : decode cX10_settles 0 = .ok (.aload_n 0, 1) := by decide +kernel
theorem dX10_settles_1 : decode cX10_settles 1 = .ok (.getfield 37, 3) := by decide +kernel
theorem dX10_settles_4 : decode cX10_settles 4 = .ok (.lconst 0, 1) := by decide +kernel
theorem dX10_settles_5 : decode cX10_settles 5 = .ok (.lconst 0, 1) := by decide +kernel
theorem dX10_settles_6 : decode cX10_settles 6 = .ok (.invokevirtual 200, 3) := by decide +kernel
theorem dX10_settles_9 : decode cX10_settles 9 = .ok (.ireturn, 1) := by decide +kernel
abbrev mX10_settles : MD := (cX10_settles, "BlottedDeed", 1, 6, 155, (some .int), "settles", [])
def bX10_settles_0 (g : GE) (J : Nat → KT) : KT := i_aload 0 (i_getf 9 5 (i_push (.long 0) (i_push (.long 0) (i_cv fX7_cleanNext g 2 7 (i_ireturn)))))
theorem sbX10_settles_0 (g : GE) (J : Nat → KT)  : Snd mX10_settles g 0 (bX10_settles_0 g J) := by
  unfold bX10_settles_0
  refine s_aload_n (pc := 0) (i := 0) ?_ dX10_settles_0 rfl
  refine s_getf (pc := 1) (ci := 9) (f := 5) (T := TX10) ?_ ginX10 rfl (by decide) wt_459 dX10_settles_1
  refine s_lconst (pc := 4) (v := 0) ?_ dX10_settles_4 (by decide)
  refine s_lconst (pc := 5) (v := 0) ?_ dX10_settles_5 (by decide)
  refine s_cv (pc := 6) (n := 2) (ci := 7) ?_ tX7_cleanNext rfl rfl wt_522 wt_523 wt_524 wt_8 wt_525 ⟨crX7_cleanNext, by decide, by decide⟩ dX10_settles_6
  exact s_ireturn (pc := 9) rfl dX10_settles_9
def kX10_settles (g : GE) : KT := bX10_settles_0 g (fun _ _ _ _ => none)
theorem sX10_settles (g : GE) : Snd mX10_settles g 0 (kX10_settles g) := sbX10_settles_0 g _
def fX10_settles : FT := fun g av w => if (ent av).length ≤ 1 then kX10_settles g [] (entp 1 av) w else none
theorem tX10_settles : Mt yX10_settles cX10_settles 1 (some .int) 6 155 fX10_settles := Mt.of (K := kX10_settles) (by decide +kernel) (fun _ _ _ => rfl) sX10_settles
theorem crX10_settles : yX10_settles.cls ≠ "java/lang/invoke/MethodHandle" ∧ yX10_settles.cls ≠ "java/lang/invoke/VarHandle" ∧ (parseMethodDescriptor yX10_settles.desc).map (fun d => d.parameters.length) = some 0 := by decide +kernel
theorem dX5_slipsOf_0 : decode cX5_slipsOf 0 = .ok (.iconst 0, 1) := by decide +kernel
theorem dX5_slipsOf_1 : decode cX5_slipsOf 1 = .ok (.istore_n 3, 1) := by decide +kernel
theorem dX5_slipsOf_2 : decode cX5_slipsOf 2 = .ok (.iconst 0, 1) := by decide +kernel
theorem dX5_slipsOf_3 : decode cX5_slipsOf 3 = .ok (.istore 4, 2) := by decide +kernel
theorem dX5_slipsOf_5 : decode cX5_slipsOf 5 = .ok (.iload 4, 2) := by decide +kernel
theorem dX5_slipsOf_7 : decode cX5_slipsOf 7 = .ok (.aload_n 0, 1) := by decide +kernel
theorem dX5_slipsOf_8 : decode cX5_slipsOf 8 = .ok (.getfield 25, 3) := by decide +kernel
theorem dX5_slipsOf_11 : decode cX5_slipsOf 11 = .ok (.if_icmp .ge 29, 3) := by decide +kernel
theorem dX5_slipsOf_14 : decode cX5_slipsOf 14 = .ok (.iload_n 3, 1) := by decide +kernel
theorem dX5_slipsOf_15 : decode cX5_slipsOf 15 = .ok (.aload_n 0, 1) := by decide +kernel
theorem dX5_slipsOf_16 : decode cX5_slipsOf 16 = .ok (.getfield 15, 3) := by decide +kernel
theorem dX5_slipsOf_19 : decode cX5_slipsOf 19 = .ok (.iload 4, 2) := by decide +kernel
theorem dX5_slipsOf_21 : decode cX5_slipsOf 21 = .ok (.bipush 100, 2) := by decide +kernel
theorem dX5_slipsOf_23 : decode cX5_slipsOf 23 = .ok (.imul, 1) := by decide +kernel
theorem dX5_slipsOf_24 : decode cX5_slipsOf 24 = .ok (.lload_n 1, 1) := by decide +kernel
theorem dX5_slipsOf_25 : decode cX5_slipsOf 25 = .ok (.iload 4, 2) := by decide +kernel
theorem dX5_slipsOf_27 : decode cX5_slipsOf 27 = .ok (.invokestatic 65, 3) := by decide +kernel
theorem dX5_slipsOf_30 : decode cX5_slipsOf 30 = .ok (.iadd, 1) := by decide +kernel
theorem dX5_slipsOf_31 : decode cX5_slipsOf 31 = .ok (.iaload, 1) := by decide +kernel
theorem dX5_slipsOf_32 : decode cX5_slipsOf 32 = .ok (.iadd, 1) := by decide +kernel
theorem dX5_slipsOf_33 : decode cX5_slipsOf 33 = .ok (.istore_n 3, 1) := by decide +kernel
theorem dX5_slipsOf_34 : decode cX5_slipsOf 34 = .ok (.iinc 4 1, 3) := by decide +kernel
theorem dX5_slipsOf_37 : decode cX5_slipsOf 37 = .ok (.goto (-32), 3) := by decide +kernel
theorem dX5_slipsOf_40 : decode cX5_slipsOf 40 = .ok (.iload_n 3, 1) := by decide +kernel
theorem dX5_slipsOf_41 : decode cX5_slipsOf 41 = .ok (.ireturn, 1) := by decide +kernel
abbrev mX5_slipsOf : MD := (cX5_slipsOf, "BlottedDeed$Scales", 5, 2, 52, (some .int), "slipsOf", [])
def bX5_slipsOf_0 (g : GE) (J : Nat → KT) : KT := i_push (.int 0) (i_istore 3 (i_push (.int 0) (i_istore 4 (i_jmp [true, true, false, true, true] (J 1)))))
def bX5_slipsOf_1 (g : GE) (J : Nat → KT) : KT := i_iload 4 (i_aload 0 (i_getf 5 2 (i_icge (i_iload 3 (i_ireturn)) (i_iload 3 (i_aload 0 (i_getf 5 1 (i_iload 4 (i_push (.int 100) (i_imul (i_lload 1 (i_iload 4 (i_cs fX4_digitIn g 2 (i_iadd (i_iaload (i_iadd (i_istore 3 (i_iinc 4 1 (i_jmp [true, true, false, true, true] (J 1)))))))))))))))))))
theorem sbX5_slipsOf_0 (g : GE) (J : Nat → KT) (h1 : Snd mX5_slipsOf g 5 (J 1)) : Snd mX5_slipsOf g 0 (bX5_slipsOf_0 g J) := by
  unfold bX5_slipsOf_0
  refine s_iconst (pc := 0) (v := 0) ?_ dX5_slipsOf_0 (by decide)
  refine s_istore_n (pc := 1) (i := 3) ?_ dX5_slipsOf_1 rfl (by decide)
  refine s_iconst (pc := 2) (v := 0) ?_ dX5_slipsOf_2 (by decide)
  refine s_istore (pc := 3) (i := 4) ?_ dX5_slipsOf_3 (by decide)
  exact s_fall (pc := 5) h1
theorem sbX5_slipsOf_1 (g : GE) (J : Nat → KT) (h1 : Snd mX5_slipsOf g 5 (J 1)) : Snd mX5_slipsOf g 5 (bX5_slipsOf_1 g J) := by
  unfold bX5_slipsOf_1
  refine s_iload (pc := 5) (i := 4) ?_ dX5_slipsOf_5
  refine s_aload_n (pc := 7) (i := 0) ?_ dX5_slipsOf_7 rfl
  refine s_getf (pc := 8) (ci := 5) (f := 2) (T := TX5) ?_ ginX5 rfl (by decide) wt_406 dX5_slipsOf_8
  refine s_icge (pc := 11) (tgt := 40) ?_ ?_ dX5_slipsOf_11 (by decide)
  · skip
    refine s_iload_n (pc := 40) (i := 3) ?_ dX5_slipsOf_40 rfl
    exact s_ireturn (pc := 41) rfl dX5_slipsOf_41
  · skip
    refine s_iload_n (pc := 14) (i := 3) ?_ dX5_slipsOf_14 rfl
    refine s_aload_n (pc := 15) (i := 0) ?_ dX5_slipsOf_15 rfl
    refine s_getf (pc := 16) (ci := 5) (f := 1) (T := TX5) ?_ ginX5 rfl (by decide) wt_405 dX5_slipsOf_16
    refine s_iload (pc := 19) (i := 4) ?_ dX5_slipsOf_19
    refine s_bipush (pc := 21) (v := 100) ?_ dX5_slipsOf_21 (by decide)
    refine s_imul (pc := 23) ?_ dX5_slipsOf_23
    refine s_lload_n (pc := 24) (i := 1) ?_ dX5_slipsOf_24 rfl
    refine s_iload (pc := 25) (i := 4) ?_ dX5_slipsOf_25
    refine s_cs (pc := 27) (n := 2) ?_ tX4_digitIn wt_580 wt_543 wt_9 wt_544 ⟨crX4_digitIn, by decide, by decide⟩ dX5_slipsOf_27
    refine s_iadd (pc := 30) ?_ dX5_slipsOf_30
    refine s_iaload (pc := 31) ?_ dX5_slipsOf_31
    refine s_iadd (pc := 32) ?_ dX5_slipsOf_32
    refine s_istore_n (pc := 33) (i := 3) ?_ dX5_slipsOf_33 rfl (by decide)
    refine s_iinc (pc := 34) (i := 4) (v := 1) ?_ dX5_slipsOf_34 (by decide) (by decide)
    exact s_goto (pc := 37) (tgt := 5) h1 dX5_slipsOf_37 (by decide)
def jX5_slipsOf (g : GE) : Nat → Nat → KT
  | 0, _ => fun _ _ _ => none
  | n + 1, 0 => bX5_slipsOf_0 g (jX5_slipsOf g n)
  | n + 1, 1 => bX5_slipsOf_1 g (jX5_slipsOf g n)
  | _ + 1, _ + 2 => fun _ _ _ => none
theorem sjX5_slipsOf (g : GE) : ∀ n, Snd mX5_slipsOf g 0 (jX5_slipsOf g n 0) ∧ Snd mX5_slipsOf g 5 (jX5_slipsOf g n 1)
  | 0 => ⟨s_none, s_none⟩
  | n + 1 => by
    obtain ⟨-, h1⟩ := sjX5_slipsOf g n
    exact ⟨sbX5_slipsOf_0 g _ h1, sbX5_slipsOf_1 g _ h1⟩
def kX5_slipsOf (g : GE) : KT := jX5_slipsOf g g.1 0
theorem sX5_slipsOf (g : GE) : Snd mX5_slipsOf g 0 (kX5_slipsOf g) := (sjX5_slipsOf g g.1).1
def fX5_slipsOf : FT := fun g av w => if (ent av).length ≤ 5 then kX5_slipsOf g [] (entp 5 av) w else none
theorem tX5_slipsOf : Mt yX5_slipsOf cX5_slipsOf 5 (some .int) 2 52 fX5_slipsOf := Mt.of (K := kX5_slipsOf) (by decide +kernel) (fun _ _ _ => rfl) sX5_slipsOf
theorem crX5_slipsOf : yX5_slipsOf.cls ≠ "java/lang/invoke/MethodHandle" ∧ yX5_slipsOf.cls ≠ "java/lang/invoke/VarHandle" ∧ (parseMethodDescriptor yX5_slipsOf.desc).map (fun d => d.parameters.length) = some 1 := by decide +kernel
theorem dX10_slips_0 : decode cX10_slips 0 = .ok (.aload_n 0, 1) := by decide +kernel
theorem dX10_slips_1 : decode cX10_slips 1 = .ok (.iload_n 1, 1) := by decide +kernel
theorem dX10_slips_2 : decode cX10_slips 2 = .ok (.iconst 1, 1) := by decide +kernel
theorem dX10_slips_3 : decode cX10_slips 3 = .ok (.invokevirtual 104, 3) := by decide +kernel
theorem dX10_slips_6 : decode cX10_slips 6 = .ok (.aload_n 0, 1) := by decide +kernel
theorem dX10_slips_7 : decode cX10_slips 7 = .ok (.getfield 51, 3) := by decide +kernel
theorem dX10_slips_10 : decode cX10_slips 10 = .ok (.aload_n 0, 1) := by decide +kernel
theorem dX10_slips_11 : decode cX10_slips 11 = .ok (.getfield 16, 3) := by decide +kernel
theorem dX10_slips_14 : decode cX10_slips 14 = .ok (.aload_n 0, 1) := by decide +kernel
theorem dX10_slips_15 : decode cX10_slips 15 = .ok (.getfield 58, 3) := by decide +kernel
theorem dX10_slips_18 : decode cX10_slips 18 = .ok (.invokevirtual 246, 3) := by decide +kernel
theorem dX10_slips_21 : decode cX10_slips 21 = .ok (.iconst (-1), 1) := by decide +kernel
theorem dX10_slips_22 : decode cX10_slips 22 = .ok (.istore_n 2, 1) := by decide +kernel
theorem dX10_slips_23 : decode cX10_slips 23 = .ok (.iconst (-1), 1) := by decide +kernel
theorem dX10_slips_24 : decode cX10_slips 24 = .ok (.istore_n 3, 1) := by decide +kernel
theorem dX10_slips_25 : decode cX10_slips 25 = .ok (.iconst 0, 1) := by decide +kernel
theorem dX10_slips_26 : decode cX10_slips 26 = .ok (.istore 4, 2) := by decide +kernel
theorem dX10_slips_28 : decode cX10_slips 28 = .ok (.iload 4, 2) := by decide +kernel
theorem dX10_slips_30 : decode cX10_slips 30 = .ok (.aload_n 0, 1) := by decide +kernel
theorem dX10_slips_31 : decode cX10_slips 31 = .ok (.getfield 37, 3) := by decide +kernel
theorem dX10_slips_34 : decode cX10_slips 34 = .ok (.getfield 150, 3) := by decide +kernel
theorem dX10_slips_37 : decode cX10_slips 37 = .ok (.if_icmp .ge 45, 3) := by decide +kernel
theorem dX10_slips_40 : decode cX10_slips 40 = .ok (.aload_n 0, 1) := by decide +kernel
theorem dX10_slips_41 : decode cX10_slips 41 = .ok (.getfield 51, 3) := by decide +kernel
theorem dX10_slips_44 : decode cX10_slips 44 = .ok (.aload_n 0, 1) := by decide +kernel
theorem dX10_slips_45 : decode cX10_slips 45 = .ok (.getfield 37, 3) := by decide +kernel
theorem dX10_slips_48 : decode cX10_slips 48 = .ok (.getfield 250, 3) := by decide +kernel
theorem dX10_slips_51 : decode cX10_slips 51 = .ok (.iload 4, 2) := by decide +kernel
theorem dX10_slips_53 : decode cX10_slips 53 = .ok (.laload, 1) := by decide +kernel
theorem dX10_slips_54 : decode cX10_slips 54 = .ok (.invokevirtual 262, 3) := by decide +kernel
theorem dX10_slips_57 : decode cX10_slips 57 = .ok (.istore 5, 2) := by decide +kernel
theorem dX10_slips_59 : decode cX10_slips 59 = .ok (.iload_n 2, 1) := by decide +kernel
theorem dX10_slips_60 : decode cX10_slips 60 = .ok (.iconst (-1), 1) := by decide +kernel
theorem dX10_slips_61 : decode cX10_slips 61 = .ok (.if_icmp .eq 9, 3) := by decide +kernel
theorem dX10_slips_64 : decode cX10_slips 64 = .ok (.iload 5, 2) := by decide +kernel
theorem dX10_slips_66 : decode cX10_slips 66 = .ok (.iload_n 3, 1) := by decide +kernel
theorem dX10_slips_67 : decode cX10_slips 67 = .ok (.if_icmp .ge 9, 3) := by decide +kernel
theorem dX10_slips_70 : decode cX10_slips 70 = .ok (.iload 5, 2) := by decide +kernel
theorem dX10_slips_72 : decode cX10_slips 72 = .ok (.istore_n 3, 1) := by decide +kernel
theorem dX10_slips_73 : decode cX10_slips 73 = .ok (.iload 4, 2) := by decide +kernel
theorem dX10_slips_75 : decode cX10_slips 75 = .ok (.istore_n 2, 1) := by decide +kernel
theorem dX10_slips_76 : decode cX10_slips 76 = .ok (.iinc 4 1, 3) := by decide +kernel
theorem dX10_slips_79 : decode cX10_slips 79 = .ok (.goto (-51), 3) := by decide +kernel
theorem dX10_slips_82 : decode cX10_slips 82 = .ok (.iload_n 1, 1) := by decide +kernel
theorem dX10_slips_83 : decode cX10_slips 83 = .ok (.ifCond .ne 7, 3) := by decide +kernel
theorem dX10_slips_86 : decode cX10_slips 86 = .ok (.iload_n 3, 1) := by decide +kernel
theorem dX10_slips_87 : decode cX10_slips 87 = .ok (.goto 4, 3) := by decide +kernel
theorem dX10_slips_90 : decode cX10_slips 90 = .ok (.iload_n 2, 1) := by decide +kernel
theorem dX10_slips_91 : decode cX10_slips 91 = .ok (.ireturn, 1) := by decide +kernel
abbrev mX10_slips : MD := (cX10_slips, "BlottedDeed", 6, 8, 143, (some .int), "slips", [])
def bX10_slips_0 (g : GE) (J : Nat → KT) : KT := i_aload 0 (i_iload 1 (i_push (.int 1) (i_cvX fX10_needWhat g 2 9 (i_aload 0 (i_getf 9 7 (i_aload 0 (i_getf 9 3 (i_aload 0 (i_getf 9 8 (i_cv fX5_weigh g 2 5 (i_push (.int (-1)) (i_istore 2 (i_push (.int (-1)) (i_istore 3 (i_push (.int 0) (i_istore 4 (i_jmp [true, true, true, true, true, false] (J 1))))))))))))))))))
def bX10_slips_1 (g : GE) (J : Nat → KT) : KT := i_iload 4 (i_aload 0 (i_getf 9 5 (i_getf 7 2 (i_icge (i_iload 1 (i_ifne (i_iload 2 (i_jmp [false, false, false, false, false, false] (J 4))) (i_iload 3 (i_jmp [false, false, false, false, false, false] (J 4))))) (i_aload 0 (i_getf 9 7 (i_aload 0 (i_getf 9 5 (i_getf 7 0 (i_iload 4 (i_laload (i_cv fX5_slipsOf g 1 5 (i_istore 5 (i_iload 2 (i_push (.int (-1)) (i_iceq (i_jmp [true, true, false, false, true, true] (J 2)) (i_iload 5 (i_iload 3 (i_icge (i_jmp [true, true, true, true, true, false] (J 3)) (i_jmp [true, true, false, false, true, true] (J 2)))))))))))))))))))))
def bX10_slips_2 (g : GE) (J : Nat → KT) : KT := i_iload 5 (i_istore 3 (i_iload 4 (i_istore 2 (i_jmp [true, true, true, true, true, false] (J 3)))))
def bX10_slips_3 (g : GE) (J : Nat → KT) : KT := i_iinc 4 1 (i_jmp [true, true, true, true, true, false] (J 1))
def bX10_slips_4 (g : GE) (J : Nat → KT) : KT := i_ireturn
theorem sbX10_slips_0 (g : GE) (J : Nat → KT) (h1 : Snd mX10_slips g 28 (J 1)) (h2 : Snd mX10_slips g 70 (J 2)) (h3 : Snd mX10_slips g 76 (J 3)) (h4 : Snd mX10_slips g 91 (J 4)) : Snd mX10_slips g 0 (bX10_slips_0 g J) := by
  unfold bX10_slips_0
  refine s_aload_n (pc := 0) (i := 0) ?_ dX10_slips_0 rfl
  refine s_iload_n (pc := 1) (i := 1) ?_ dX10_slips_1 rfl
  refine s_iconst (pc := 2) (v := 1) ?_ dX10_slips_2 (by decide)
  refine s_cvX (pc := 3) (n := 2) (ci := 9) ?_ tX10_needWhat rfl rfl wt_920 wt_922 wp_31 wt_1 wt_923 ⟨crX10_needWhat, by decide, by decide⟩ rfl dX10_slips_3
  refine s_aload_n (pc := 6) (i := 0) ?_ dX10_slips_6 rfl
  refine s_getf (pc := 7) (ci := 9) (f := 7) (T := TX10) ?_ ginX10 rfl (by decide) wt_461 dX10_slips_7
  refine s_aload_n (pc := 10) (i := 0) ?_ dX10_slips_10 rfl
  refine s_getf (pc := 11) (ci := 9) (f := 3) (T := TX10) ?_ ginX10 rfl (by decide) wt_457 dX10_slips_11
  refine s_aload_n (pc := 14) (i := 0) ?_ dX10_slips_14 rfl
  refine s_getf (pc := 15) (ci := 9) (f := 8) (T := TX10) ?_ ginX10 rfl (by decide) wt_462 dX10_slips_15
  refine s_cv (pc := 18) (n := 2) (ci := 5) ?_ tX5_weigh rfl rfl wt_560 wt_561 wt_562 wt_15 wt_563 ⟨crX5_weigh, by decide, by decide⟩ dX10_slips_18
  refine s_iconst (pc := 21) (v := (-1)) ?_ dX10_slips_21 (by decide)
  refine s_istore_n (pc := 22) (i := 2) ?_ dX10_slips_22 rfl (by decide)
  refine s_iconst (pc := 23) (v := (-1)) ?_ dX10_slips_23 (by decide)
  refine s_istore_n (pc := 24) (i := 3) ?_ dX10_slips_24 rfl (by decide)
  refine s_iconst (pc := 25) (v := 0) ?_ dX10_slips_25 (by decide)
  refine s_istore (pc := 26) (i := 4) ?_ dX10_slips_26 (by decide)
  exact s_fall (pc := 28) h1
theorem sbX10_slips_1 (g : GE) (J : Nat → KT) (h1 : Snd mX10_slips g 28 (J 1)) (h2 : Snd mX10_slips g 70 (J 2)) (h3 : Snd mX10_slips g 76 (J 3)) (h4 : Snd mX10_slips g 91 (J 4)) : Snd mX10_slips g 28 (bX10_slips_1 g J) := by
  unfold bX10_slips_1
  refine s_iload (pc := 28) (i := 4) ?_ dX10_slips_28
  refine s_aload_n (pc := 30) (i := 0) ?_ dX10_slips_30 rfl
  refine s_getf (pc := 31) (ci := 9) (f := 5) (T := TX10) ?_ ginX10 rfl (by decide) wt_459 dX10_slips_31
  refine s_getf (pc := 34) (ci := 7) (f := 2) (T := TX7) ?_ ginX7 rfl (by decide) wt_340 dX10_slips_34
  refine s_icge (pc := 37) (tgt := 82) ?_ ?_ dX10_slips_37 (by decide)
  · skip
    refine s_iload_n (pc := 82) (i := 1) ?_ dX10_slips_82 rfl
    refine s_ifne (pc := 83) (tgt := 90) ?_ ?_ dX10_slips_83 (by decide)
    · skip
      refine s_iload_n (pc := 90) (i := 2) ?_ dX10_slips_90 rfl
      exact s_fall (pc := 91) h4
    · skip
      refine s_iload_n (pc := 86) (i := 3) ?_ dX10_slips_86 rfl
      exact s_goto (pc := 87) (tgt := 91) h4 dX10_slips_87 (by decide)
  · skip
    refine s_aload_n (pc := 40) (i := 0) ?_ dX10_slips_40 rfl
    refine s_getf (pc := 41) (ci := 9) (f := 7) (T := TX10) ?_ ginX10 rfl (by decide) wt_461 dX10_slips_41
    refine s_aload_n (pc := 44) (i := 0) ?_ dX10_slips_44 rfl
    refine s_getf (pc := 45) (ci := 9) (f := 5) (T := TX10) ?_ ginX10 rfl (by decide) wt_459 dX10_slips_45
    refine s_getf (pc := 48) (ci := 7) (f := 0) (T := TX7) ?_ ginX7 rfl (by decide) wt_337 dX10_slips_48
    refine s_iload (pc := 51) (i := 4) ?_ dX10_slips_51
    refine s_laload (pc := 53) ?_ dX10_slips_53
    refine s_cv (pc := 54) (n := 1) (ci := 5) ?_ tX5_slipsOf rfl rfl wt_1207 wt_1208 wt_1209 wt_15 wt_1210 ⟨crX5_slipsOf, by decide, by decide⟩ dX10_slips_54
    refine s_istore (pc := 57) (i := 5) ?_ dX10_slips_57 (by decide)
    refine s_iload_n (pc := 59) (i := 2) ?_ dX10_slips_59 rfl
    refine s_iconst (pc := 60) (v := (-1)) ?_ dX10_slips_60 (by decide)
    refine s_iceq (pc := 61) (tgt := 70) ?_ ?_ dX10_slips_61 (by decide)
    · skip
      exact s_fall (pc := 70) h2
    · skip
      refine s_iload (pc := 64) (i := 5) ?_ dX10_slips_64
      refine s_iload_n (pc := 66) (i := 3) ?_ dX10_slips_66 rfl
      refine s_icge (pc := 67) (tgt := 76) ?_ ?_ dX10_slips_67 (by decide)
      · skip
        exact s_fall (pc := 76) h3
      · skip
        exact s_fall (pc := 70) h2
theorem sbX10_slips_2 (g : GE) (J : Nat → KT) (h1 : Snd mX10_slips g 28 (J 1)) (h2 : Snd mX10_slips g 70 (J 2)) (h3 : Snd mX10_slips g 76 (J 3)) (h4 : Snd mX10_slips g 91 (J 4)) : Snd mX10_slips g 70 (bX10_slips_2 g J) := by
  unfold bX10_slips_2
  refine s_iload (pc := 70) (i := 5) ?_ dX10_slips_70
  refine s_istore_n (pc := 72) (i := 3) ?_ dX10_slips_72 rfl (by decide)
  refine s_iload (pc := 73) (i := 4) ?_ dX10_slips_73
  refine s_istore_n (pc := 75) (i := 2) ?_ dX10_slips_75 rfl (by decide)
  exact s_fall (pc := 76) h3
theorem sbX10_slips_3 (g : GE) (J : Nat → KT) (h1 : Snd mX10_slips g 28 (J 1)) (h2 : Snd mX10_slips g 70 (J 2)) (h3 : Snd mX10_slips g 76 (J 3)) (h4 : Snd mX10_slips g 91 (J 4)) : Snd mX10_slips g 76 (bX10_slips_3 g J) := by
  unfold bX10_slips_3
  refine s_iinc (pc := 76) (i := 4) (v := 1) ?_ dX10_slips_76 (by decide) (by decide)
  exact s_goto (pc := 79) (tgt := 28) h1 dX10_slips_79 (by decide)
theorem sbX10_slips_4 (g : GE) (J : Nat → KT) (h1 : Snd mX10_slips g 28 (J 1)) (h2 : Snd mX10_slips g 70 (J 2)) (h3 : Snd mX10_slips g 76 (J 3)) (h4 : Snd mX10_slips g 91 (J 4)) : Snd mX10_slips g 91 (bX10_slips_4 g J) := by
  unfold bX10_slips_4
  exact s_ireturn (pc := 91) rfl dX10_slips_91
def jX10_slips (g : GE) : Nat → Nat → KT
  | 0, _ => fun _ _ _ => none
  | n + 1, 0 => bX10_slips_0 g (jX10_slips g n)
  | n + 1, 1 => bX10_slips_1 g (jX10_slips g n)
  | n + 1, 2 => bX10_slips_2 g (jX10_slips g n)
  | n + 1, 3 => bX10_slips_3 g (jX10_slips g n)
  | n + 1, 4 => bX10_slips_4 g (jX10_slips g n)
  | _ + 1, _ + 5 => fun _ _ _ => none
theorem sjX10_slips (g : GE) : ∀ n, Snd mX10_slips g 0 (jX10_slips g n 0) ∧ Snd mX10_slips g 28 (jX10_slips g n 1) ∧ Snd mX10_slips g 70 (jX10_slips g n 2) ∧ Snd mX10_slips g 76 (jX10_slips g n 3) ∧ Snd mX10_slips g 91 (jX10_slips g n 4)
  | 0 => ⟨s_none, s_none, s_none, s_none, s_none⟩
  | n + 1 => by
    obtain ⟨-, h1, h2, h3, h4⟩ := sjX10_slips g n
    exact ⟨sbX10_slips_0 g _ h1 h2 h3 h4, sbX10_slips_1 g _ h1 h2 h3 h4, sbX10_slips_2 g _ h1 h2 h3 h4, sbX10_slips_3 g _ h1 h2 h3 h4, sbX10_slips_4 g _ h1 h2 h3 h4⟩
def kX10_slips (g : GE) : KT := jX10_slips g g.1 0
theorem sX10_slips (g : GE) : Snd mX10_slips g 0 (kX10_slips g) := (sjX10_slips g g.1).1
def fX10_slips : FT := fun g av w => if (ent av).length ≤ 6 then kX10_slips g [] (entp 6 av) w else none
theorem tX10_slips : Mt yX10_slips cX10_slips 6 (some .int) 8 143 fX10_slips := Mt.of (K := kX10_slips) (by decide +kernel) (fun _ _ _ => rfl) sX10_slips
theorem crX10_slips : yX10_slips.cls ≠ "java/lang/invoke/MethodHandle" ∧ yX10_slips.cls ≠ "java/lang/invoke/VarHandle" ∧ (parseMethodDescriptor yX10_slips.desc).map (fun d => d.parameters.length) = some 1 := by decide +kernel
theorem dX10_status_0 : decode cX10_status 0 = .ok (.iload_n 1, 1) := by decide +kernel
theorem dX10_status_1 : decode cX10_status 1 = .ok (.ifCond .lt 21, 3) := by decide +kernel
theorem dX10_status_4 : decode cX10_status 4 = .ok (.iload_n 1, 1) := by decide +kernel
theorem dX10_status_5 : decode cX10_status 5 = .ok (.aload_n 0, 1) := by decide +kernel
theorem dX10_status_6 : decode cX10_status 6 = .ok (.getfield 70, 3) := by decide +kernel
theorem dX10_status_9 : decode cX10_status 9 = .ok (.arraylength, 1) := by decide +kernel
theorem dX10_status_10 : decode cX10_status 10 = .ok (.if_icmp .ge 12, 3) := by decide +kernel
theorem dX10_status_13 : decode cX10_status 13 = .ok (.aload_n 0, 1) := by decide +kernel
theorem dX10_status_14 : decode cX10_status 14 = .ok (.getfield 70, 3) := by decide +kernel
theorem dX10_status_17 : decode cX10_status 17 = .ok (.iload_n 1, 1) := by decide +kernel
theorem dX10_status_18 : decode cX10_status 18 = .ok (.iaload, 1) := by decide +kernel
theorem dX10_status_19 : decode cX10_status 19 = .ok (.goto 4, 3) := by decide +kernel
theorem dX10_status_22 : decode cX10_status 22 = .ok (.iconst (-1), 1) := by decide +kernel
theorem dX10_status_23 : decode cX10_status 23 = .ok (.ireturn, 1) := by decide +kernel
abbrev mX10_status : MD := (cX10_status, "BlottedDeed", 2, 1, 30, (some .int), "status", [])
def bX10_status_0 (g : GE) (J : Nat → KT) : KT := i_iload 1 (i_iflt (i_jmp [false, false] (J 1)) (i_iload 1 (i_aload 0 (i_getf 9 12 (i_alen 0 (i_icge (i_jmp [false, false] (J 1)) (i_aload 0 (i_getf 9 12 (i_iload 1 (i_iaload (i_jmp [false, false] (J 2))))))))))))
def bX10_status_1 (g : GE) (J : Nat → KT) : KT := i_push (.int (-1)) (i_jmp [false, false] (J 2))
def bX10_status_2 (g : GE) (J : Nat → KT) : KT := i_ireturn
theorem sbX10_status_0 (g : GE) (J : Nat → KT) (h1 : Snd mX10_status g 22 (J 1)) (h2 : Snd mX10_status g 23 (J 2)) : Snd mX10_status g 0 (bX10_status_0 g J) := by
  unfold bX10_status_0
  refine s_iload_n (pc := 0) (i := 1) ?_ dX10_status_0 rfl
  refine s_iflt (pc := 1) (tgt := 22) ?_ ?_ dX10_status_1 (by decide)
  · skip
    exact s_fall (pc := 22) h1
  · skip
    refine s_iload_n (pc := 4) (i := 1) ?_ dX10_status_4 rfl
    refine s_aload_n (pc := 5) (i := 0) ?_ dX10_status_5 rfl
    refine s_getf (pc := 6) (ci := 9) (f := 12) (T := TX10) ?_ ginX10 rfl (by decide) wt_466 dX10_status_6
    refine s_alen (pc := 9) (t := 0) ?_ (by decide) dX10_status_9
    refine s_icge (pc := 10) (tgt := 22) ?_ ?_ dX10_status_10 (by decide)
    · skip
      exact s_fall (pc := 22) h1
    · skip
      refine s_aload_n (pc := 13) (i := 0) ?_ dX10_status_13 rfl
      refine s_getf (pc := 14) (ci := 9) (f := 12) (T := TX10) ?_ ginX10 rfl (by decide) wt_466 dX10_status_14
      refine s_iload_n (pc := 17) (i := 1) ?_ dX10_status_17 rfl
      refine s_iaload (pc := 18) ?_ dX10_status_18
      exact s_goto (pc := 19) (tgt := 23) h2 dX10_status_19 (by decide)
theorem sbX10_status_1 (g : GE) (J : Nat → KT) (h1 : Snd mX10_status g 22 (J 1)) (h2 : Snd mX10_status g 23 (J 2)) : Snd mX10_status g 22 (bX10_status_1 g J) := by
  unfold bX10_status_1
  refine s_iconst (pc := 22) (v := (-1)) ?_ dX10_status_22 (by decide)
  exact s_fall (pc := 23) h2
theorem sbX10_status_2 (g : GE) (J : Nat → KT) (h1 : Snd mX10_status g 22 (J 1)) (h2 : Snd mX10_status g 23 (J 2)) : Snd mX10_status g 23 (bX10_status_2 g J) := by
  unfold bX10_status_2
  exact s_ireturn (pc := 23) rfl dX10_status_23
def jX10_status (g : GE) : Nat → Nat → KT
  | 0, _ => fun _ _ _ => none
  | n + 1, 0 => bX10_status_0 g (jX10_status g n)
  | n + 1, 1 => bX10_status_1 g (jX10_status g n)
  | n + 1, 2 => bX10_status_2 g (jX10_status g n)
  | _ + 1, _ + 3 => fun _ _ _ => none
theorem sjX10_status (g : GE) : ∀ n, Snd mX10_status g 0 (jX10_status g n 0) ∧ Snd mX10_status g 22 (jX10_status g n 1) ∧ Snd mX10_status g 23 (jX10_status g n 2)
  | 0 => ⟨s_none, s_none, s_none⟩
  | n + 1 => by
    obtain ⟨-, h1, h2⟩ := sjX10_status g n
    exact ⟨sbX10_status_0 g _ h1 h2, sbX10_status_1 g _ h1 h2, sbX10_status_2 g _ h1 h2⟩
def kX10_status (g : GE) : KT := jX10_status g g.1 0
theorem sX10_status (g : GE) : Snd mX10_status g 0 (kX10_status g) := (sjX10_status g g.1).1
def fX10_status : FT := fun g av w => if (ent av).length ≤ 2 then kX10_status g [] (entp 2 av) w else none
theorem tX10_status : Mt yX10_status cX10_status 2 (some .int) 1 30 fX10_status := Mt.of (K := kX10_status) (by decide +kernel) (fun _ _ _ => rfl) sX10_status
theorem crX10_status : yX10_status.cls ≠ "java/lang/invoke/MethodHandle" ∧ yX10_status.cls ≠ "java/lang/invoke/VarHandle" ∧ (parseMethodDescriptor yX10_status.desc).map (fun d => d.parameters.length) = some 1 := by decide +kernel
theorem dX7_isKnown_0 : decode cX7_isKnown 0 = .ok (.iconst (-1), 1) := by decide +kernel
theorem dX7_isKnown_1 : decode cX7_isKnown 1 = .ok (.istore 6, 2) := by decide +kernel
theorem dX7_isKnown_3 : decode cX7_isKnown 3 = .ok (.iconst 0, 1) := by decide +kernel
theorem dX7_isKnown_4 : decode cX7_isKnown 4 = .ok (.istore 7, 2) := by decide +kernel
theorem dX7_isKnown_6 : decode cX7_isKnown 6 = .ok (.iload 7, 2) := by decide +kernel
theorem dX7_isKnown_8 : decode cX7_isKnown 8 = .ok (.aload_n 0, 1) := by decide +kernel
theorem dX7_isKnown_9 : decode cX7_isKnown 9 = .ok (.getfield 53, 3) := by decide +kernel
theorem dX7_isKnown_12 : decode cX7_isKnown 12 = .ok (.if_icmp .ge 56, 3) := by decide +kernel
theorem dX7_isKnown_15 : decode cX7_isKnown 15 = .ok (.aload_n 0, 1) := by decide +kernel
theorem dX7_isKnown_16 : decode cX7_isKnown 16 = .ok (.getfield 11, 3) := by decide +kernel
theorem dX7_isKnown_19 : decode cX7_isKnown 19 = .ok (.iload 7, 2) := by decide +kernel
theorem dX7_isKnown_21 : decode cX7_isKnown 21 = .ok (.laload, 1) := by decide +kernel
theorem dX7_isKnown_22 : decode cX7_isKnown 22 = .ok (.lload_n 2, 1) := by decide +kernel
theorem dX7_isKnown_23 : decode cX7_isKnown 23 = .ok (.land, 1) := by decide +kernel
theorem dX7_isKnown_24 : decode cX7_isKnown 24 = .ok (.lload 4, 2) := by decide +kernel
theorem dX7_isKnown_26 : decode cX7_isKnown 26 = .ok (.lcmp, 1) := by decide +kernel
theorem dX7_isKnown_27 : decode cX7_isKnown 27 = .ok (.ifCond .ne 35, 3) := by decide +kernel
theorem dX7_isKnown_30 : decode cX7_isKnown 30 = .ok (.iload 6, 2) := by decide +kernel
theorem dX7_isKnown_32 : decode cX7_isKnown 32 = .ok (.iconst (-1), 1) := by decide +kernel
theorem dX7_isKnown_33 : decode cX7_isKnown 33 = .ok (.if_icmp .ne 10, 3) := by decide +kernel
theorem dX7_isKnown_36 : decode cX7_isKnown 36 = .ok (.iload 7, 2) := by decide +kernel
theorem dX7_isKnown_38 : decode cX7_isKnown 38 = .ok (.istore 6, 2) := by decide +kernel
theorem dX7_isKnown_40 : decode cX7_isKnown 40 = .ok (.goto 22, 3) := by decide +kernel
theorem dX7_isKnown_43 : decode cX7_isKnown 43 = .ok (.aload_n 0, 1) := by decide +kernel
theorem dX7_isKnown_44 : decode cX7_isKnown 44 = .ok (.iload 7, 2) := by decide +kernel
theorem dX7_isKnown_46 : decode cX7_isKnown 46 = .ok (.iload_n 1, 1) := by decide +kernel
theorem dX7_isKnown_47 : decode cX7_isKnown 47 = .ok (.invokevirtual 130, 3) := by decide +kernel
theorem dX7_isKnown_50 : decode cX7_isKnown 50 = .ok (.aload_n 0, 1) := by decide +kernel
theorem dX7_isKnown_51 : decode cX7_isKnown 51 = .ok (.iload 6, 2) := by decide +kernel
theorem dX7_isKnown_53 : decode cX7_isKnown 53 = .ok (.iload_n 1, 1) := by decide +kernel
theorem dX7_isKnown_54 : decode cX7_isKnown 54 = .ok (.invokevirtual 130, 3) := by decide +kernel
theorem dX7_isKnown_57 : decode cX7_isKnown 57 = .ok (.if_icmp .eq 5, 3) := by decide +kernel
theorem dX7_isKnown_60 : decode cX7_isKnown 60 = .ok (.iconst 0, 1) := by decide +kernel
theorem dX7_isKnown_61 : decode cX7_isKnown 61 = .ok (.ireturn, 1) := by decide +kernel
theorem dX7_isKnown_62 : decode cX7_isKnown 62 = .ok (.iinc 7 1, 3) := by decide +kernel
theorem dX7_isKnown_65 : decode cX7_isKnown 65 = .ok (.goto (-59), 3) := by decide +kernel
theorem dX7_isKnown_68 : decode cX7_isKnown 68 = .ok (.iconst 1, 1) := by decide +kernel
theorem dX7_isKnown_69 : decode cX7_isKnown 69 = .ok (.ireturn, 1) := by decide +kernel
abbrev mX7_isKnown : MD := (cX7_isKnown, "BlottedDeed$Table", 8, 2, 52, (some .boolean), "isKnown", [])
def bX7_isKnown_0 (g : GE) (J : Nat → KT) : KT := i_push (.int (-1)) (i_istore 6 (i_push (.int 0) (i_istore 7 (i_jmp [true, true, true, false, true, false, true, true] (J 1)))))
def bX7_isKnown_1 (g : GE) (J : Nat → KT) : KT := i_iload 7 (i_aload 0 (i_getf 7 2 (i_icge (i_push (.int 1) (i_zreturn)) (i_aload 0 (i_getf 7 0 (i_iload 7 (i_laload (i_lload 2 (i_land (i_lload 4 (i_lcmp (i_ifne (i_jmp [true, true, true, false, true, false, true, true] (J 2)) (i_iload 6 (i_push (.int (-1)) (i_icne (i_aload 0 (i_iload 7 (i_iload 1 (i_cv fX7_ownerOf g 2 7 (i_aload 0 (i_iload 6 (i_iload 1 (i_cv fX7_ownerOf g 2 7 (i_iceq (i_jmp [true, true, true, false, true, false, true, true] (J 2)) (i_push (.int 0) (i_zreturn))))))))))) (i_iload 7 (i_istore 6 (i_jmp [true, true, true, false, true, false, true, true] (J 2)))))))))))))))))))
def bX7_isKnown_2 (g : GE) (J : Nat → KT) : KT := i_iinc 7 1 (i_jmp [true, true, true, false, true, false, true, true] (J 1))
theorem sbX7_isKnown_0 (g : GE) (J : Nat → KT) (h1 : Snd mX7_isKnown g 6 (J 1)) (h2 : Snd mX7_isKnown g 62 (J 2)) : Snd mX7_isKnown g 0 (bX7_isKnown_0 g J) := by
  unfold bX7_isKnown_0
  refine s_iconst (pc := 0) (v := (-1)) ?_ dX7_isKnown_0 (by decide)
  refine s_istore (pc := 1) (i := 6) ?_ dX7_isKnown_1 (by decide)
  refine s_iconst (pc := 3) (v := 0) ?_ dX7_isKnown_3 (by decide)
  refine s_istore (pc := 4) (i := 7) ?_ dX7_isKnown_4 (by decide)
  exact s_fall (pc := 6) h1
theorem sbX7_isKnown_1 (g : GE) (J : Nat → KT) (h1 : Snd mX7_isKnown g 6 (J 1)) (h2 : Snd mX7_isKnown g 62 (J 2)) : Snd mX7_isKnown g 6 (bX7_isKnown_1 g J) := by
  unfold bX7_isKnown_1
  refine s_iload (pc := 6) (i := 7) ?_ dX7_isKnown_6
  refine s_aload_n (pc := 8) (i := 0) ?_ dX7_isKnown_8 rfl
  refine s_getf (pc := 9) (ci := 7) (f := 2) (T := TX7) ?_ ginX7 rfl (by decide) wt_339 dX7_isKnown_9
  refine s_icge (pc := 12) (tgt := 68) ?_ ?_ dX7_isKnown_12 (by decide)
  · skip
    refine s_iconst (pc := 68) (v := 1) ?_ dX7_isKnown_68 (by decide)
    exact s_zreturn (pc := 69) rfl dX7_isKnown_69
  · skip
    refine s_aload_n (pc := 15) (i := 0) ?_ dX7_isKnown_15 rfl
    refine s_getf (pc := 16) (ci := 7) (f := 0) (T := TX7) ?_ ginX7 rfl (by decide) wt_336 dX7_isKnown_16
    refine s_iload (pc := 19) (i := 7) ?_ dX7_isKnown_19
    refine s_laload (pc := 21) ?_ dX7_isKnown_21
    refine s_lload_n (pc := 22) (i := 2) ?_ dX7_isKnown_22 rfl
    refine s_land (pc := 23) ?_ dX7_isKnown_23
    refine s_lload (pc := 24) (i := 4) ?_ dX7_isKnown_24
    refine s_lcmp (pc := 26) ?_ dX7_isKnown_26
    refine s_ifne (pc := 27) (tgt := 62) ?_ ?_ dX7_isKnown_27 (by decide)
    · skip
      exact s_fall (pc := 62) h2
    · skip
      refine s_iload (pc := 30) (i := 6) ?_ dX7_isKnown_30
      refine s_iconst (pc := 32) (v := (-1)) ?_ dX7_isKnown_32 (by decide)
      refine s_icne (pc := 33) (tgt := 43) ?_ ?_ dX7_isKnown_33 (by decide)
      · skip
        refine s_aload_n (pc := 43) (i := 0) ?_ dX7_isKnown_43 rfl
        refine s_iload (pc := 44) (i := 7) ?_ dX7_isKnown_44
        refine s_iload_n (pc := 46) (i := 1) ?_ dX7_isKnown_46 rfl
        refine s_cv (pc := 47) (n := 2) (ci := 7) ?_ tX7_ownerOf rfl rfl wt_593 wt_594 wt_595 wt_8 wt_596 ⟨crX7_ownerOf, by decide, by decide⟩ dX7_isKnown_47
        refine s_aload_n (pc := 50) (i := 0) ?_ dX7_isKnown_50 rfl
        refine s_iload (pc := 51) (i := 6) ?_ dX7_isKnown_51
        refine s_iload_n (pc := 53) (i := 1) ?_ dX7_isKnown_53 rfl
        refine s_cv (pc := 54) (n := 2) (ci := 7) ?_ tX7_ownerOf rfl rfl wt_593 wt_594 wt_595 wt_8 wt_596 ⟨crX7_ownerOf, by decide, by decide⟩ dX7_isKnown_54
        refine s_iceq (pc := 57) (tgt := 62) ?_ ?_ dX7_isKnown_57 (by decide)
        · skip
          exact s_fall (pc := 62) h2
        · skip
          refine s_iconst (pc := 60) (v := 0) ?_ dX7_isKnown_60 (by decide)
          exact s_zreturn (pc := 61) rfl dX7_isKnown_61
      · skip
        refine s_iload (pc := 36) (i := 7) ?_ dX7_isKnown_36
        refine s_istore (pc := 38) (i := 6) ?_ dX7_isKnown_38 (by decide)
        exact s_goto (pc := 40) (tgt := 62) h2 dX7_isKnown_40 (by decide)
theorem sbX7_isKnown_2 (g : GE) (J : Nat → KT) (h1 : Snd mX7_isKnown g 6 (J 1)) (h2 : Snd mX7_isKnown g 62 (J 2)) : Snd mX7_isKnown g 62 (bX7_isKnown_2 g J) := by
  unfold bX7_isKnown_2
  refine s_iinc (pc := 62) (i := 7) (v := 1) ?_ dX7_isKnown_62 (by decide) (by decide)
  exact s_goto (pc := 65) (tgt := 6) h1 dX7_isKnown_65 (by decide)
def jX7_isKnown (g : GE) : Nat → Nat → KT
  | 0, _ => fun _ _ _ => none
  | n + 1, 0 => bX7_isKnown_0 g (jX7_isKnown g n)
  | n + 1, 1 => bX7_isKnown_1 g (jX7_isKnown g n)
  | n + 1, 2 => bX7_isKnown_2 g (jX7_isKnown g n)
  | _ + 1, _ + 3 => fun _ _ _ => none
theorem sjX7_isKnown (g : GE) : ∀ n, Snd mX7_isKnown g 0 (jX7_isKnown g n 0) ∧ Snd mX7_isKnown g 6 (jX7_isKnown g n 1) ∧ Snd mX7_isKnown g 62 (jX7_isKnown g n 2)
  | 0 => ⟨s_none, s_none, s_none⟩
  | n + 1 => by
    obtain ⟨-, h1, h2⟩ := sjX7_isKnown g n
    exact ⟨sbX7_isKnown_0 g _ h1 h2, sbX7_isKnown_1 g _ h1 h2, sbX7_isKnown_2 g _ h1 h2⟩
def kX7_isKnown (g : GE) : KT := jX7_isKnown g g.1 0
theorem sX7_isKnown (g : GE) : Snd mX7_isKnown g 0 (kX7_isKnown g) := (sjX7_isKnown g g.1).1
def fX7_isKnown : FT := fun g av w => if (ent av).length ≤ 8 then kX7_isKnown g [] (entp 8 av) w else none
theorem tX7_isKnown : Mt yX7_isKnown cX7_isKnown 8 (some .boolean) 2 52 fX7_isKnown := Mt.of (K := kX7_isKnown) (by decide +kernel) (fun _ _ _ => rfl) sX7_isKnown
theorem crX7_isKnown : yX7_isKnown.cls ≠ "java/lang/invoke/MethodHandle" ∧ yX7_isKnown.cls ≠ "java/lang/invoke/VarHandle" ∧ (parseMethodDescriptor yX7_isKnown.desc).map (fun d => d.parameters.length) = some 3 := by decide +kernel
theorem dX7_walk_0 : decode cX7_walk 0 = .ok (.lconst 0, 1) := by decide +kernel
theorem dX7_walk_1 : decode cX7_walk 1 = .ok (.lstore_n 3, 1) := by decide +kernel
theorem dX7_walk_2 : decode cX7_walk 2 = .ok (.iconst 0, 1) := by decide +kernel
theorem dX7_walk_3 : decode cX7_walk 3 = .ok (.istore 5, 2) := by decide +kernel
theorem dX7_walk_5 : decode cX7_walk 5 = .ok (.iload 5, 2) := by decide +kernel
theorem dX7_walk_7 : decode cX7_walk 7 = .ok (.aload_n 0, 1) := by decide +kernel
theorem dX7_walk_8 : decode cX7_walk 8 = .ok (.getfield 45, 3) := by decide +kernel
theorem dX7_walk_11 : decode cX7_walk 11 = .ok (.getfield 111, 3) := by decide +kernel
theorem dX7_walk_14 : decode cX7_walk 14 = .ok (.if_icmp .ge 77, 3) := by decide +kernel
theorem dX7_walk_17 : decode cX7_walk 17 = .ok (.iload 5, 2) := by decide +kernel
theorem dX7_walk_19 : decode cX7_walk 19 = .ok (.aload_n 0, 1) := by decide +kernel
theorem dX7_walk_20 : decode cX7_walk 20 = .ok (.getfield 22, 3) := by decide +kernel
theorem dX7_walk_23 : decode cX7_walk 23 = .ok (.arraylength, 1) := by decide +kernel
theorem dX7_walk_24 : decode cX7_walk 24 = .ok (.if_icmp .ge 67, 3) := by decide +kernel
theorem dX7_walk_27 : decode cX7_walk 27 = .ok (.aload_n 0, 1) := by decide +kernel
theorem dX7_walk_28 : decode cX7_walk 28 = .ok (.iload_n 2, 1) := by decide +kernel
theorem dX7_walk_29 : decode cX7_walk 29 = .ok (.lload_n 3, 1) := by decide +kernel
theorem dX7_walk_30 : decode cX7_walk 30 = .ok (.aload_n 0, 1) := by decide +kernel
theorem dX7_walk_31 : decode cX7_walk 31 = .ok (.getfield 11, 3) := by decide +kernel
theorem dX7_walk_34 : decode cX7_walk 34 = .ok (.iload_n 1, 1) := by decide +kernel
theorem dX7_walk_35 : decode cX7_walk 35 = .ok (.laload, 1) := by decide +kernel
theorem dX7_walk_36 : decode cX7_walk 36 = .ok (.lload_n 3, 1) := by decide +kernel
theorem dX7_walk_37 : decode cX7_walk 37 = .ok (.land, 1) := by decide +kernel
theorem dX7_walk_38 : decode cX7_walk 38 = .ok (.invokevirtual 205, 3) := by decide +kernel
theorem dX7_walk_41 : decode cX7_walk 41 = .ok (.ifCond .ne 50, 3) := by decide +kernel
theorem dX7_walk_44 : decode cX7_walk 44 = .ok (.aload_n 0, 1) := by decide +kernel
theorem dX7_walk_45 : decode cX7_walk 45 = .ok (.lload_n 3, 1) := by decide +kernel
theorem dX7_walk_46 : decode cX7_walk 46 = .ok (.aload_n 0, 1) := by decide +kernel
theorem dX7_walk_47 : decode cX7_walk 47 = .ok (.getfield 11, 3) := by decide +kernel
theorem dX7_walk_50 : decode cX7_walk 50 = .ok (.iload_n 1, 1) := by decide +kernel
theorem dX7_walk_51 : decode cX7_walk 51 = .ok (.laload, 1) := by decide +kernel
theorem dX7_walk_52 : decode cX7_walk 52 = .ok (.lload_n 3, 1) := by decide +kernel
theorem dX7_walk_53 : decode cX7_walk 53 = .ok (.land, 1) := by decide +kernel
theorem dX7_walk_54 : decode cX7_walk 54 = .ok (.invokevirtual 209, 3) := by decide +kernel
theorem dX7_walk_57 : decode cX7_walk 57 = .ok (.istore 6, 2) := by decide +kernel
theorem dX7_walk_59 : decode cX7_walk 59 = .ok (.iload 6, 2) := by decide +kernel
theorem dX7_walk_61 : decode cX7_walk 61 = .ok (.iconst (-1), 1) := by decide +kernel
theorem dX7_walk_62 : decode cX7_walk 62 = .ok (.if_icmp .ne 6, 3) := by decide +kernel
theorem dX7_walk_65 : decode cX7_walk 65 = .ok (.goto 26, 3) := by decide +kernel
theorem dX7_walk_68 : decode cX7_walk 68 = .ok (.aload_n 0, 1) := by decide +kernel
theorem dX7_walk_69 : decode cX7_walk 69 = .ok (.getfield 22, 3) := by decide +kernel
theorem dX7_walk_72 : decode cX7_walk 72 = .ok (.iload 5, 2) := by decide +kernel
theorem dX7_walk_74 : decode cX7_walk 74 = .ok (.iload 6, 2) := by decide +kernel
theorem dX7_walk_76 : decode cX7_walk 76 = .ok (.iastore, 1) := by decide +kernel
theorem dX7_walk_77 : decode cX7_walk 77 = .ok (.lload_n 3, 1) := by decide +kernel
theorem dX7_walk_78 : decode cX7_walk 78 = .ok (.iload 6, 2) := by decide +kernel
theorem dX7_walk_80 : decode cX7_walk 80 = .ok (.invokestatic 155, 3) := by decide +kernel
theorem dX7_walk_83 : decode cX7_walk 83 = .ok (.lor, 1) := by decide +kernel
theorem dX7_walk_84 : decode cX7_walk 84 = .ok (.lstore_n 3, 1) := by decide +kernel
theorem dX7_walk_85 : decode cX7_walk 85 = .ok (.iinc 5 1, 3) := by decide +kernel
theorem dX7_walk_88 : decode cX7_walk 88 = .ok (.goto (-83), 3) := by decide +kernel
theorem dX7_walk_91 : decode cX7_walk 91 = .ok (.iload 5, 2) := by decide +kernel
theorem dX7_walk_93 : decode cX7_walk 93 = .ok (.ireturn, 1) := by decide +kernel
abbrev mX7_walk : MD := (cX7_walk, "BlottedDeed$Table", 7, 6, 155, (some .int), "walk", [])
def bX7_walk_0 (g : GE) (J : Nat → KT) : KT := i_push (.long 0) (i_lstore 3 (i_push (.int 0) (i_istore 5 (i_jmp [true, true, true, true, false, true, false] (J 1)))))
def bX7_walk_1 (g : GE) (J : Nat → KT) : KT := i_iload 5 (i_aload 0 (i_getf 7 5 (i_getf 2 13 (i_icge (i_jmp [false, false, false, false, false, true, false] (J 2)) (i_iload 5 (i_aload 0 (i_getf 7 4 (i_alen 0 (i_icge (i_jmp [false, false, false, false, false, true, false] (J 2)) (i_aload 0 (i_iload 2 (i_lload 3 (i_aload 0 (i_getf 7 0 (i_iload 1 (i_laload (i_lload 3 (i_land (i_cv fX7_isKnown g 3 7 (i_ifne (i_jmp [false, false, false, false, false, true, false] (J 2)) (i_aload 0 (i_lload 3 (i_aload 0 (i_getf 7 0 (i_iload 1 (i_laload (i_lload 3 (i_land (i_cv fX7_cleanNext g 2 7 (i_istore 6 (i_iload 6 (i_push (.int (-1)) (i_icne (i_aload 0 (i_getf 7 4 (i_iload 5 (i_iload 6 (i_iastore (i_lload 3 (i_iload 6 (i_cs fX7_maskOf g 1 (i_lor (i_lstore 3 (i_iinc 5 1 (i_jmp [true, true, true, true, false, true, false] (J 1))))))))))))) (i_jmp [false, false, false, false, false, true, false] (J 2)))))))))))))))))))))))))))))))))))
def bX7_walk_2 (g : GE) (J : Nat → KT) : KT := i_iload 5 (i_ireturn)
theorem sbX7_walk_0 (g : GE) (J : Nat → KT) (h1 : Snd mX7_walk g 5 (J 1)) (h2 : Snd mX7_walk g 91 (J 2)) : Snd mX7_walk g 0 (bX7_walk_0 g J) := by
  unfold bX7_walk_0
  refine s_lconst (pc := 0) (v := 0) ?_ dX7_walk_0 (by decide)
  refine s_lstore_n (pc := 1) (i := 3) ?_ dX7_walk_1 rfl (by decide)
  refine s_iconst (pc := 2) (v := 0) ?_ dX7_walk_2 (by decide)
  refine s_istore (pc := 3) (i := 5) ?_ dX7_walk_3 (by decide)
  exact s_fall (pc := 5) h1
theorem sbX7_walk_1 (g : GE) (J : Nat → KT) (h1 : Snd mX7_walk g 5 (J 1)) (h2 : Snd mX7_walk g 91 (J 2)) : Snd mX7_walk g 5 (bX7_walk_1 g J) := by
  unfold bX7_walk_1
  refine s_iload (pc := 5) (i := 5) ?_ dX7_walk_5
  refine s_aload_n (pc := 7) (i := 0) ?_ dX7_walk_7 rfl
  refine s_getf (pc := 8) (ci := 7) (f := 5) (T := TX7) ?_ ginX7 rfl (by decide) wt_345 dX7_walk_8
  refine s_getf (pc := 11) (ci := 2) (f := 13) (T := TX2) ?_ ginX2 rfl (by decide) wt_145 dX7_walk_11
  refine s_icge (pc := 14) (tgt := 91) ?_ ?_ dX7_walk_14 (by decide)
  · skip
    exact s_fall (pc := 91) h2
  · skip
    refine s_iload (pc := 17) (i := 5) ?_ dX7_walk_17
    refine s_aload_n (pc := 19) (i := 0) ?_ dX7_walk_19 rfl
    refine s_getf (pc := 20) (ci := 7) (f := 4) (T := TX7) ?_ ginX7 rfl (by decide) wt_343 dX7_walk_20
    refine s_alen (pc := 23) (t := 0) ?_ (by decide) dX7_walk_23
    refine s_icge (pc := 24) (tgt := 91) ?_ ?_ dX7_walk_24 (by decide)
    · skip
      exact s_fall (pc := 91) h2
    · skip
      refine s_aload_n (pc := 27) (i := 0) ?_ dX7_walk_27 rfl
      refine s_iload_n (pc := 28) (i := 2) ?_ dX7_walk_28 rfl
      refine s_lload_n (pc := 29) (i := 3) ?_ dX7_walk_29 rfl
      refine s_aload_n (pc := 30) (i := 0) ?_ dX7_walk_30 rfl
      refine s_getf (pc := 31) (ci := 7) (f := 0) (T := TX7) ?_ ginX7 rfl (by decide) wt_336 dX7_walk_31
      refine s_iload_n (pc := 34) (i := 1) ?_ dX7_walk_34 rfl
      refine s_laload (pc := 35) ?_ dX7_walk_35
      refine s_lload_n (pc := 36) (i := 3) ?_ dX7_walk_36 rfl
      refine s_land (pc := 37) ?_ dX7_walk_37
      refine s_cv (pc := 38) (n := 3) (ci := 7) ?_ tX7_isKnown rfl rfl wt_1346 wt_1348 wp_43 wt_8 wt_1349 ⟨crX7_isKnown, by decide, by decide⟩ dX7_walk_38
      refine s_ifne (pc := 41) (tgt := 91) ?_ ?_ dX7_walk_41 (by decide)
      · skip
        exact s_fall (pc := 91) h2
      · skip
        refine s_aload_n (pc := 44) (i := 0) ?_ dX7_walk_44 rfl
        refine s_lload_n (pc := 45) (i := 3) ?_ dX7_walk_45 rfl
        refine s_aload_n (pc := 46) (i := 0) ?_ dX7_walk_46 rfl
        refine s_getf (pc := 47) (ci := 7) (f := 0) (T := TX7) ?_ ginX7 rfl (by decide) wt_336 dX7_walk_47
        refine s_iload_n (pc := 50) (i := 1) ?_ dX7_walk_50 rfl
        refine s_laload (pc := 51) ?_ dX7_walk_51
        refine s_lload_n (pc := 52) (i := 3) ?_ dX7_walk_52 rfl
        refine s_land (pc := 53) ?_ dX7_walk_53
        refine s_cv (pc := 54) (n := 2) (ci := 7) ?_ tX7_cleanNext rfl rfl wt_1350 wt_523 wt_524 wt_8 wt_525 ⟨crX7_cleanNext, by decide, by decide⟩ dX7_walk_54
        refine s_istore (pc := 57) (i := 6) ?_ dX7_walk_57 (by decide)
        refine s_iload (pc := 59) (i := 6) ?_ dX7_walk_59
        refine s_iconst (pc := 61) (v := (-1)) ?_ dX7_walk_61 (by decide)
        refine s_icne (pc := 62) (tgt := 68) ?_ ?_ dX7_walk_62 (by decide)
        · skip
          refine s_aload_n (pc := 68) (i := 0) ?_ dX7_walk_68 rfl
          refine s_getf (pc := 69) (ci := 7) (f := 4) (T := TX7) ?_ ginX7 rfl (by decide) wt_343 dX7_walk_69
          refine s_iload (pc := 72) (i := 5) ?_ dX7_walk_72
          refine s_iload (pc := 74) (i := 6) ?_ dX7_walk_74
          refine s_iastore (pc := 76) ?_ dX7_walk_76
          refine s_lload_n (pc := 77) (i := 3) ?_ dX7_walk_77 rfl
          refine s_iload (pc := 78) (i := 6) ?_ dX7_walk_78
          refine s_cs (pc := 80) (n := 1) ?_ tX7_maskOf wt_526 wt_527 wt_8 wt_528 ⟨crX7_maskOf, by decide, by decide⟩ dX7_walk_80
          refine s_lor (pc := 83) ?_ dX7_walk_83
          refine s_lstore_n (pc := 84) (i := 3) ?_ dX7_walk_84 rfl (by decide)
          refine s_iinc (pc := 85) (i := 5) (v := 1) ?_ dX7_walk_85 (by decide) (by decide)
          exact s_goto (pc := 88) (tgt := 5) h1 dX7_walk_88 (by decide)
        · skip
          exact s_goto (pc := 65) (tgt := 91) h2 dX7_walk_65 (by decide)
theorem sbX7_walk_2 (g : GE) (J : Nat → KT) (h1 : Snd mX7_walk g 5 (J 1)) (h2 : Snd mX7_walk g 91 (J 2)) : Snd mX7_walk g 91 (bX7_walk_2 g J) := by
  unfold bX7_walk_2
  refine s_iload (pc := 91) (i := 5) ?_ dX7_walk_91
  exact s_ireturn (pc := 93) rfl dX7_walk_93
def jX7_walk (g : GE) : Nat → Nat → KT
  | 0, _ => fun _ _ _ => none
  | n + 1, 0 => bX7_walk_0 g (jX7_walk g n)
  | n + 1, 1 => bX7_walk_1 g (jX7_walk g n)
  | n + 1, 2 => bX7_walk_2 g (jX7_walk g n)
  | _ + 1, _ + 3 => fun _ _ _ => none
theorem sjX7_walk (g : GE) : ∀ n, Snd mX7_walk g 0 (jX7_walk g n 0) ∧ Snd mX7_walk g 5 (jX7_walk g n 1) ∧ Snd mX7_walk g 91 (jX7_walk g n 2)
  | 0 => ⟨s_none, s_none, s_none⟩
  | n + 1 => by
    obtain ⟨-, h1, h2⟩ := sjX7_walk g n
    exact ⟨sbX7_walk_0 g _ h1 h2, sbX7_walk_1 g _ h1 h2, sbX7_walk_2 g _ h1 h2⟩
def kX7_walk (g : GE) : KT := jX7_walk g g.1 0
theorem sX7_walk (g : GE) : Snd mX7_walk g 0 (kX7_walk g) := (sjX7_walk g g.1).1
def fX7_walk : FT := fun g av w => if (ent av).length ≤ 7 then kX7_walk g [] (entp 7 av) w else none
theorem tX7_walk : Mt yX7_walk cX7_walk 7 (some .int) 6 155 fX7_walk := Mt.of (K := kX7_walk) (by decide +kernel) (fun _ _ _ => rfl) sX7_walk
theorem crX7_walk : yX7_walk.cls ≠ "java/lang/invoke/MethodHandle" ∧ yX7_walk.cls ≠ "java/lang/invoke/VarHandle" ∧ (parseMethodDescriptor yX7_walk.desc).map (fun d => d.parameters.length) = some 2 := by decide +kernel
theorem dX10_steps_0 : decode cX10_steps 0 = .ok (.aload_n 0, 1) := by decide +kernel
theorem dX10_steps_1 : decode cX10_steps 1 = .ok (.iload_n 1, 1) := by decide +kernel
theorem dX10_steps_2 : decode cX10_steps 2 = .ok (.invokevirtual 151, 3) := by decide +kernel
theorem dX10_steps_5 : decode cX10_steps 5 = .ok (.aload_n 0, 1) := by decide +kernel
theorem dX10_steps_6 : decode cX10_steps 6 = .ok (.iload_n 2, 1) := by decide +kernel
theorem dX10_steps_7 : decode cX10_steps 7 = .ok (.invokevirtual 175, 3) := by decide +kernel
theorem dX10_steps_10 : decode cX10_steps 10 = .ok (.aload_n 0, 1) := by decide +kernel
theorem dX10_steps_11 : decode cX10_steps 11 = .ok (.iload_n 3, 1) := by decide +kernel
theorem dX10_steps_12 : decode cX10_steps 12 = .ok (.bipush 8, 2) := by decide +kernel
theorem dX10_steps_14 : decode cX10_steps 14 = .ok (.invokevirtual 104, 3) := by decide +kernel
theorem dX10_steps_17 : decode cX10_steps 17 = .ok (.aload_n 0, 1) := by decide +kernel
theorem dX10_steps_18 : decode cX10_steps 18 = .ok (.getfield 37, 3) := by decide +kernel
theorem dX10_steps_21 : decode cX10_steps 21 = .ok (.iload_n 1, 1) := by decide +kernel
theorem dX10_steps_22 : decode cX10_steps 22 = .ok (.iload_n 2, 1) := by decide +kernel
theorem dX10_steps_23 : decode cX10_steps 23 = .ok (.invokevirtual 303, 3) := by decide +kernel
theorem dX10_steps_26 : decode cX10_steps 26 = .ok (.istore 4, 2) := by decide +kernel
theorem dX10_steps_28 : decode cX10_steps 28 = .ok (.iload_n 3, 1) := by decide +kernel
theorem dX10_steps_29 : decode cX10_steps 29 = .ok (.ifCond .ne 6, 3) := by decide +kernel
theorem dX10_steps_32 : decode cX10_steps 32 = .ok (.iload 4, 2) := by decide +kernel
theorem dX10_steps_34 : decode cX10_steps 34 = .ok (.ireturn, 1) := by decide +kernel
theorem dX10_steps_35 : decode cX10_steps 35 = .ok (.iload_n 3, 1) := by decide +kernel
theorem dX10_steps_36 : decode cX10_steps 36 = .ok (.iload 4, 2) := by decide +kernel
theorem dX10_steps_38 : decode cX10_steps 38 = .ok (.if_icmp .gt 17, 3) := by decide +kernel
theorem dX10_steps_41 : decode cX10_steps 41 = .ok (.aload_n 0, 1) := by decide +kernel
theorem dX10_steps_42 : decode cX10_steps 42 = .ok (.getfield 37, 3) := by decide +kernel
theorem dX10_steps_45 : decode cX10_steps 45 = .ok (.getfield 306, 3) := by decide +kernel
theorem dX10_steps_48 : decode cX10_steps 48 = .ok (.iload_n 3, 1) := by decide +kernel
theorem dX10_steps_49 : decode cX10_steps 49 = .ok (.iconst 1, 1) := by decide +kernel
theorem dX10_steps_50 : decode cX10_steps 50 = .ok (.isub, 1) := by decide +kernel
theorem dX10_steps_51 : decode cX10_steps 51 = .ok (.iaload, 1) := by decide +kernel
theorem dX10_steps_52 : decode cX10_steps 52 = .ok (.goto 4, 3) := by decide +kernel
theorem dX10_steps_55 : decode cX10_steps 55 = .ok (.iconst (-1), 1) := by decide +kernel
theorem dX10_steps_56 : decode cX10_steps 56 = .ok (.ireturn, 1) := by decide +kernel
abbrev mX10_steps : MD := (cX10_steps, "BlottedDeed", 5, 8, 181, (some .int), "steps", [])
def bX10_steps_0 (g : GE) (J : Nat → KT) : KT := i_aload 0 (i_iload 1 (i_cvX fX10_needReading g 1 9 (i_aload 0 (i_iload 2 (i_cvX fX10_needThing g 1 9 (i_aload 0 (i_iload 3 (i_push (.int 8) (i_cvX fX10_needWhat g 2 9 (i_aload 0 (i_getf 9 5 (i_iload 1 (i_iload 2 (i_cv fX7_walk g 2 7 (i_istore 4 (i_iload 3 (i_ifne (i_iload 3 (i_iload 4 (i_icgt (i_push (.int (-1)) (i_jmp [false, false, false, false, false] (J 1))) (i_aload 0 (i_getf 9 5 (i_getf 7 4 (i_iload 3 (i_push (.int 1) (i_isub (i_iaload (i_jmp [false, false, false, false, false] (J 1)))))))))))) (i_iload 4 (i_ireturn)))))))))))))))))))
def bX10_steps_1 (g : GE) (J : Nat → KT) : KT := i_ireturn
theorem sbX10_steps_0 (g : GE) (J : Nat → KT) (h1 : Snd mX10_steps g 56 (J 1)) : Snd mX10_steps g 0 (bX10_steps_0 g J) := by
  unfold bX10_steps_0
  refine s_aload_n (pc := 0) (i := 0) ?_ dX10_steps_0 rfl
  refine s_iload_n (pc := 1) (i := 1) ?_ dX10_steps_1 rfl
  refine s_cvX (pc := 2) (n := 1) (ci := 9) ?_ tX10_needReading rfl rfl wt_967 wt_969 wp_33 wt_1 wt_970 ⟨crX10_needReading, by decide, by decide⟩ rfl dX10_steps_2
  refine s_aload_n (pc := 5) (i := 0) ?_ dX10_steps_5 rfl
  refine s_iload_n (pc := 6) (i := 2) ?_ dX10_steps_6 rfl
  refine s_cvX (pc := 7) (n := 1) (ci := 9) ?_ tX10_needThing rfl rfl wt_1030 wt_1032 wp_36 wt_1 wt_1033 ⟨crX10_needThing, by decide, by decide⟩ rfl dX10_steps_7
  refine s_aload_n (pc := 10) (i := 0) ?_ dX10_steps_10 rfl
  refine s_iload_n (pc := 11) (i := 3) ?_ dX10_steps_11 rfl
  refine s_bipush (pc := 12) (v := 8) ?_ dX10_steps_12 (by decide)
  refine s_cvX (pc := 14) (n := 2) (ci := 9) ?_ tX10_needWhat rfl rfl wt_920 wt_922 wp_31 wt_1 wt_923 ⟨crX10_needWhat, by decide, by decide⟩ rfl dX10_steps_14
  refine s_aload_n (pc := 17) (i := 0) ?_ dX10_steps_17 rfl
  refine s_getf (pc := 18) (ci := 9) (f := 5) (T := TX10) ?_ ginX10 rfl (by decide) wt_459 dX10_steps_18
  refine s_iload_n (pc := 21) (i := 1) ?_ dX10_steps_21 rfl
  refine s_iload_n (pc := 22) (i := 2) ?_ dX10_steps_22 rfl
  refine s_cv (pc := 23) (n := 2) (ci := 7) ?_ tX7_walk rfl rfl wt_1342 wt_1343 wt_1344 wt_8 wt_1345 ⟨crX7_walk, by decide, by decide⟩ dX10_steps_23
  refine s_istore (pc := 26) (i := 4) ?_ dX10_steps_26 (by decide)
  refine s_iload_n (pc := 28) (i := 3) ?_ dX10_steps_28 rfl
  refine s_ifne (pc := 29) (tgt := 35) ?_ ?_ dX10_steps_29 (by decide)
  · skip
    refine s_iload_n (pc := 35) (i := 3) ?_ dX10_steps_35 rfl
    refine s_iload (pc := 36) (i := 4) ?_ dX10_steps_36
    refine s_icgt (pc := 38) (tgt := 55) ?_ ?_ dX10_steps_38 (by decide)
    · skip
      refine s_iconst (pc := 55) (v := (-1)) ?_ dX10_steps_55 (by decide)
      exact s_fall (pc := 56) h1
    · skip
      refine s_aload_n (pc := 41) (i := 0) ?_ dX10_steps_41 rfl
      refine s_getf (pc := 42) (ci := 9) (f := 5) (T := TX10) ?_ ginX10 rfl (by decide) wt_459 dX10_steps_42
      refine s_getf (pc := 45) (ci := 7) (f := 4) (T := TX7) ?_ ginX7 rfl (by decide) wt_344 dX10_steps_45
      refine s_iload_n (pc := 48) (i := 3) ?_ dX10_steps_48 rfl
      refine s_iconst (pc := 49) (v := 1) ?_ dX10_steps_49 (by decide)
      refine s_isub (pc := 50) ?_ dX10_steps_50
      refine s_iaload (pc := 51) ?_ dX10_steps_51
      exact s_goto (pc := 52) (tgt := 56) h1 dX10_steps_52 (by decide)
  · skip
    refine s_iload (pc := 32) (i := 4) ?_ dX10_steps_32
    exact s_ireturn (pc := 34) rfl dX10_steps_34
theorem sbX10_steps_1 (g : GE) (J : Nat → KT) (h1 : Snd mX10_steps g 56 (J 1)) : Snd mX10_steps g 56 (bX10_steps_1 g J) := by
  unfold bX10_steps_1
  exact s_ireturn (pc := 56) rfl dX10_steps_56
def jX10_steps (g : GE) : Nat → Nat → KT
  | 0, _ => fun _ _ _ => none
  | n + 1, 0 => bX10_steps_0 g (jX10_steps g n)
  | n + 1, 1 => bX10_steps_1 g (jX10_steps g n)
  | _ + 1, _ + 2 => fun _ _ _ => none
theorem sjX10_steps (g : GE) : ∀ n, Snd mX10_steps g 0 (jX10_steps g n 0) ∧ Snd mX10_steps g 56 (jX10_steps g n 1)
  | 0 => ⟨s_none, s_none⟩
  | n + 1 => by
    obtain ⟨-, h1⟩ := sjX10_steps g n
    exact ⟨sbX10_steps_0 g _ h1, sbX10_steps_1 g _ h1⟩
def kX10_steps (g : GE) : KT := jX10_steps g g.1 0
theorem sX10_steps (g : GE) : Snd mX10_steps g 0 (kX10_steps g) := (sjX10_steps g g.1).1
def fX10_steps : FT := fun g av w => if (ent av).length ≤ 5 then kX10_steps g [] (entp 5 av) w else none
theorem tX10_steps : Mt yX10_steps cX10_steps 5 (some .int) 8 181 fX10_steps := Mt.of (K := kX10_steps) (by decide +kernel) (fun _ _ _ => rfl) sX10_steps
theorem crX10_steps : yX10_steps.cls ≠ "java/lang/invoke/MethodHandle" ∧ yX10_steps.cls ≠ "java/lang/invoke/VarHandle" ∧ (parseMethodDescriptor yX10_steps.desc).map (fun d => d.parameters.length) = some 3 := by decide +kernel
theorem dX7_countWithout_0 : decode cX7_countWithout 0 = .ok (.iconst 0, 1) := by decide +kernel
theorem dX7_countWithout_1 : decode cX7_countWithout 1 = .ok (.istore_n 2, 1) := by decide +kernel
theorem dX7_countWithout_2 : decode cX7_countWithout 2 = .ok (.aload_n 0, 1) := by decide +kernel
theorem dX7_countWithout_3 : decode cX7_countWithout 3 = .ok (.getfield 28, 3) := by decide +kernel
theorem dX7_countWithout_6 : decode cX7_countWithout 6 = .ok (.aload_n 0, 1) := by decide +kernel
theorem dX7_countWithout_7 : decode cX7_countWithout 7 = .ok (.getfield 45, 3) := by decide +kernel
theorem dX7_countWithout_10 : decode cX7_countWithout 10 = .ok (.invokevirtual 66, 3) := by decide +kernel
theorem dX7_countWithout_13 : decode cX7_countWithout 13 = .ok (.iconst 0, 1) := by decide +kernel
theorem dX7_countWithout_14 : decode cX7_countWithout 14 = .ok (.istore_n 3, 1) := by decide +kernel
theorem dX7_countWithout_15 : decode cX7_countWithout 15 = .ok (.iload_n 3, 1) := by decide +kernel
theorem dX7_countWithout_16 : decode cX7_countWithout 16 = .ok (.aload_n 0, 1) := by decide +kernel
theorem dX7_countWithout_17 : decode cX7_countWithout 17 = .ok (.getfield 45, 3) := by decide +kernel
theorem dX7_countWithout_20 : decode cX7_countWithout 20 = .ok (.getfield 69, 3) := by decide +kernel
theorem dX7_countWithout_23 : decode cX7_countWithout 23 = .ok (.if_icmp .ge 49, 3) := by decide +kernel
theorem dX7_countWithout_26 : decode cX7_countWithout 26 = .ok (.aload_n 0, 1) := by decide +kernel
theorem dX7_countWithout_27 : decode cX7_countWithout 27 = .ok (.getfield 28, 3) := by decide +kernel
theorem dX7_countWithout_30 : decode cX7_countWithout 30 = .ok (.aload_n 0, 1) := by decide +kernel
theorem dX7_countWithout_31 : decode cX7_countWithout 31 = .ok (.getfield 45, 3) := by decide +kernel
theorem dX7_countWithout_34 : decode cX7_countWithout 34 = .ok (.iload_n 1, 1) := by decide +kernel
theorem dX7_countWithout_35 : decode cX7_countWithout 35 = .ok (.invokevirtual 74, 3) := by decide +kernel
theorem dX7_countWithout_38 : decode cX7_countWithout 38 = .ok (.aload_n 0, 1) := by decide +kernel
theorem dX7_countWithout_39 : decode cX7_countWithout 39 = .ok (.getfield 28, 3) := by decide +kernel
theorem dX7_countWithout_42 : decode cX7_countWithout 42 = .ok (.aload_n 0, 1) := by decide +kernel
theorem dX7_countWithout_43 : decode cX7_countWithout 43 = .ok (.getfield 45, 3) := by decide +kernel
theorem dX7_countWithout_46 : decode cX7_countWithout 46 = .ok (.invokevirtual 78, 3) := by decide +kernel
theorem dX7_countWithout_49 : decode cX7_countWithout 49 = .ok (.ifCond .ne 6, 3) := by decide +kernel
theorem dX7_countWithout_52 : decode cX7_countWithout 52 = .ok (.iinc 2 1, 3) := by decide +kernel
theorem dX7_countWithout_55 : decode cX7_countWithout 55 = .ok (.aload_n 0, 1) := by decide +kernel
theorem dX7_countWithout_56 : decode cX7_countWithout 56 = .ok (.getfield 28, 3) := by decide +kernel
theorem dX7_countWithout_59 : decode cX7_countWithout 59 = .ok (.aload_n 0, 1) := by decide +kernel
theorem dX7_countWithout_60 : decode cX7_countWithout 60 = .ok (.getfield 45, 3) := by decide +kernel
theorem dX7_countWithout_63 : decode cX7_countWithout 63 = .ok (.invokevirtual 86, 3) := by decide +kernel
theorem dX7_countWithout_66 : decode cX7_countWithout 66 = .ok (.iinc 3 1, 3) := by decide +kernel
theorem dX7_countWithout_69 : decode cX7_countWithout 69 = .ok (.goto (-54), 3) := by decide +kernel
theorem dX7_countWithout_72 : decode cX7_countWithout 72 = .ok (.iload_n 2, 1) := by decide +kernel
theorem dX7_countWithout_73 : decode cX7_countWithout 73 = .ok (.ireturn, 1) := by decide +kernel
abbrev mX7_countWithout : MD := (cX7_countWithout, "BlottedDeed$Table", 4, 3, 81, (some .int), "countWithout", [])
def bX7_countWithout_0 (g : GE) (J : Nat → KT) : KT := i_push (.int 0) (i_istore 2 (i_aload 0 (i_getf 7 6 (i_aload 0 (i_getf 7 5 (i_cv fX4_showFirst g 1 4 (i_push (.int 0) (i_istore 3 (i_jmp [true, true, true, true] (J 1))))))))))
def bX7_countWithout_1 (g : GE) (J : Nat → KT) : KT := i_iload 3 (i_aload 0 (i_getf 7 5 (i_getf 2 15 (i_icge (i_iload 2 (i_ireturn)) (i_aload 0 (i_getf 7 6 (i_aload 0 (i_getf 7 5 (i_iload 1 (i_cv fX4_reckon g 2 4 (i_aload 0 (i_getf 7 6 (i_aload 0 (i_getf 7 5 (i_cv fX4_broken g 1 4 (i_ifne (i_jmp [true, true, true, true] (J 2)) (i_iinc 2 1 (i_jmp [true, true, true, true] (J 2)))))))))))))))))))
def bX7_countWithout_2 (g : GE) (J : Nat → KT) : KT := i_aload 0 (i_getf 7 6 (i_aload 0 (i_getf 7 5 (i_cv fX4_showNext g 1 4 (i_iinc 3 1 (i_jmp [true, true, true, true] (J 1)))))))
theorem sbX7_countWithout_0 (g : GE) (J : Nat → KT) (h1 : Snd mX7_countWithout g 15 (J 1)) (h2 : Snd mX7_countWithout g 55 (J 2)) : Snd mX7_countWithout g 0 (bX7_countWithout_0 g J) := by
  unfold bX7_countWithout_0
  refine s_iconst (pc := 0) (v := 0) ?_ dX7_countWithout_0 (by decide)
  refine s_istore_n (pc := 1) (i := 2) ?_ dX7_countWithout_1 rfl (by decide)
  refine s_aload_n (pc := 2) (i := 0) ?_ dX7_countWithout_2 rfl
  refine s_getf (pc := 3) (ci := 7) (f := 6) (T := TX7) ?_ ginX7 rfl (by decide) wt_346 dX7_countWithout_3
  refine s_aload_n (pc := 6) (i := 0) ?_ dX7_countWithout_6 rfl
  refine s_getf (pc := 7) (ci := 7) (f := 5) (T := TX7) ?_ ginX7 rfl (by decide) wt_345 dX7_countWithout_7
  refine s_cv (pc := 10) (n := 1) (ci := 4) ?_ tX4_showFirst rfl rfl wt_263 wt_264 wt_265 wt_9 wt_266 ⟨crX4_showFirst, by decide, by decide⟩ dX7_countWithout_10
  refine s_iconst (pc := 13) (v := 0) ?_ dX7_countWithout_13 (by decide)
  refine s_istore_n (pc := 14) (i := 3) ?_ dX7_countWithout_14 rfl (by decide)
  exact s_fall (pc := 15) h1
theorem sbX7_countWithout_1 (g : GE) (J : Nat → KT) (h1 : Snd mX7_countWithout g 15 (J 1)) (h2 : Snd mX7_countWithout g 55 (J 2)) : Snd mX7_countWithout g 15 (bX7_countWithout_1 g J) := by
  unfold bX7_countWithout_1
  refine s_iload_n (pc := 15) (i := 3) ?_ dX7_countWithout_15 rfl
  refine s_aload_n (pc := 16) (i := 0) ?_ dX7_countWithout_16 rfl
  refine s_getf (pc := 17) (ci := 7) (f := 5) (T := TX7) ?_ ginX7 rfl (by decide) wt_345 dX7_countWithout_17
  refine s_getf (pc := 20) (ci := 2) (f := 15) (T := TX2) ?_ ginX2 rfl (by decide) wt_154 dX7_countWithout_20
  refine s_icge (pc := 23) (tgt := 72) ?_ ?_ dX7_countWithout_23 (by decide)
  · skip
    refine s_iload_n (pc := 72) (i := 2) ?_ dX7_countWithout_72 rfl
    exact s_ireturn (pc := 73) rfl dX7_countWithout_73
  · skip
    refine s_aload_n (pc := 26) (i := 0) ?_ dX7_countWithout_26 rfl
    refine s_getf (pc := 27) (ci := 7) (f := 6) (T := TX7) ?_ ginX7 rfl (by decide) wt_346 dX7_countWithout_27
    refine s_aload_n (pc := 30) (i := 0) ?_ dX7_countWithout_30 rfl
    refine s_getf (pc := 31) (ci := 7) (f := 5) (T := TX7) ?_ ginX7 rfl (by decide) wt_345 dX7_countWithout_31
    refine s_iload_n (pc := 34) (i := 1) ?_ dX7_countWithout_34 rfl
    refine s_cv (pc := 35) (n := 2) (ci := 4) ?_ tX4_reckon rfl rfl wt_271 wt_272 wt_273 wt_9 wt_274 ⟨crX4_reckon, by decide, by decide⟩ dX7_countWithout_35
    refine s_aload_n (pc := 38) (i := 0) ?_ dX7_countWithout_38 rfl
    refine s_getf (pc := 39) (ci := 7) (f := 6) (T := TX7) ?_ ginX7 rfl (by decide) wt_346 dX7_countWithout_39
    refine s_aload_n (pc := 42) (i := 0) ?_ dX7_countWithout_42 rfl
    refine s_getf (pc := 43) (ci := 7) (f := 5) (T := TX7) ?_ ginX7 rfl (by decide) wt_345 dX7_countWithout_43
    refine s_cv (pc := 46) (n := 1) (ci := 4) ?_ tX4_broken rfl rfl wt_287 wt_288 wt_289 wt_9 wt_290 ⟨crX4_broken, by decide, by decide⟩ dX7_countWithout_46
    refine s_ifne (pc := 49) (tgt := 55) ?_ ?_ dX7_countWithout_49 (by decide)
    · skip
      exact s_fall (pc := 55) h2
    · skip
      refine s_iinc (pc := 52) (i := 2) (v := 1) ?_ dX7_countWithout_52 (by decide) (by decide)
      exact s_fall (pc := 55) h2
theorem sbX7_countWithout_2 (g : GE) (J : Nat → KT) (h1 : Snd mX7_countWithout g 15 (J 1)) (h2 : Snd mX7_countWithout g 55 (J 2)) : Snd mX7_countWithout g 55 (bX7_countWithout_2 g J) := by
  unfold bX7_countWithout_2
  refine s_aload_n (pc := 55) (i := 0) ?_ dX7_countWithout_55 rfl
  refine s_getf (pc := 56) (ci := 7) (f := 6) (T := TX7) ?_ ginX7 rfl (by decide) wt_346 dX7_countWithout_56
  refine s_aload_n (pc := 59) (i := 0) ?_ dX7_countWithout_59 rfl
  refine s_getf (pc := 60) (ci := 7) (f := 5) (T := TX7) ?_ ginX7 rfl (by decide) wt_345 dX7_countWithout_60
  refine s_cv (pc := 63) (n := 1) (ci := 4) ?_ tX4_showNext rfl rfl wt_328 wt_329 wt_330 wt_9 wt_331 ⟨crX4_showNext, by decide, by decide⟩ dX7_countWithout_63
  refine s_iinc (pc := 66) (i := 3) (v := 1) ?_ dX7_countWithout_66 (by decide) (by decide)
  exact s_goto (pc := 69) (tgt := 15) h1 dX7_countWithout_69 (by decide)
def jX7_countWithout (g : GE) : Nat → Nat → KT
  | 0, _ => fun _ _ _ => none
  | n + 1, 0 => bX7_countWithout_0 g (jX7_countWithout g n)
  | n + 1, 1 => bX7_countWithout_1 g (jX7_countWithout g n)
  | n + 1, 2 => bX7_countWithout_2 g (jX7_countWithout g n)
  | _ + 1, _ + 3 => fun _ _ _ => none
theorem sjX7_countWithout (g : GE) : ∀ n, Snd mX7_countWithout g 0 (jX7_countWithout g n 0) ∧ Snd mX7_countWithout g 15 (jX7_countWithout g n 1) ∧ Snd mX7_countWithout g 55 (jX7_countWithout g n 2)
  | 0 => ⟨s_none, s_none, s_none⟩
  | n + 1 => by
    obtain ⟨-, h1, h2⟩ := sjX7_countWithout g n
    exact ⟨sbX7_countWithout_0 g _ h1 h2, sbX7_countWithout_1 g _ h1 h2, sbX7_countWithout_2 g _ h1 h2⟩
def kX7_countWithout (g : GE) : KT := jX7_countWithout g g.1 0
theorem sX7_countWithout (g : GE) : Snd mX7_countWithout g 0 (kX7_countWithout g) := (sjX7_countWithout g g.1).1
def fX7_countWithout : FT := fun g av w => if (ent av).length ≤ 4 then kX7_countWithout g [] (entp 4 av) w else none
theorem tX7_countWithout : Mt yX7_countWithout cX7_countWithout 4 (some .int) 3 81 fX7_countWithout := Mt.of (K := kX7_countWithout) (by decide +kernel) (fun _ _ _ => rfl) sX7_countWithout
theorem crX7_countWithout : yX7_countWithout.cls ≠ "java/lang/invoke/MethodHandle" ∧ yX7_countWithout.cls ≠ "java/lang/invoke/VarHandle" ∧ (parseMethodDescriptor yX7_countWithout.desc).map (fun d => d.parameters.length) = some 1 := by decide +kernel
theorem dX7_lawfulWithout_0 : decode cX7_lawfulWithout 0 = .ok (.aload_n 0, 1) := by decide +kernel
theorem dX7_lawfulWithout_1 : decode cX7_lawfulWithout 1 = .ok (.getfield 35, 3) := by decide +kernel
theorem dX7_lawfulWithout_4 : decode cX7_lawfulWithout 4 = .ok (.iload_n 1, 1) := by decide +kernel
theorem dX7_lawfulWithout_5 : decode cX7_lawfulWithout 5 = .ok (.iaload, 1) := by decide +kernel
theorem dX7_lawfulWithout_6 : decode cX7_lawfulWithout 6 = .ok (.iconst (-1), 1) := by decide +kernel
theorem dX7_lawfulWithout_7 : decode cX7_lawfulWithout 7 = .ok (.if_icmp .ne 14, 3) := by decide +kernel
theorem dX7_lawfulWithout_10 : decode cX7_lawfulWithout 10 = .ok (.aload_n 0, 1) := by decide +kernel
theorem dX7_lawfulWithout_11 : decode cX7_lawfulWithout 11 = .ok (.getfield 35, 3) := by decide +kernel
theorem dX7_lawfulWithout_14 : decode cX7_lawfulWithout 14 = .ok (.iload_n 1, 1) := by decide +kernel
theorem dX7_lawfulWithout_15 : decode cX7_lawfulWithout 15 = .ok (.aload_n 0, 1) := by decide +kernel
theorem dX7_lawfulWithout_16 : decode cX7_lawfulWithout 16 = .ok (.iload_n 1, 1) := by decide +kernel
theorem dX7_lawfulWithout_17 : decode cX7_lawfulWithout 17 = .ok (.invokevirtual 187, 3) := by decide +kernel
theorem dX7_lawfulWithout_20 : decode cX7_lawfulWithout 20 = .ok (.iastore, 1) := by decide +kernel
theorem dX7_lawfulWithout_21 : decode cX7_lawfulWithout 21 = .ok (.aload_n 0, 1) := by decide +kernel
theorem dX7_lawfulWithout_22 : decode cX7_lawfulWithout 22 = .ok (.getfield 35, 3) := by decide +kernel
theorem dX7_lawfulWithout_25 : decode cX7_lawfulWithout 25 = .ok (.iload_n 1, 1) := by decide +kernel
theorem dX7_lawfulWithout_26 : decode cX7_lawfulWithout 26 = .ok (.iaload, 1) := by decide +kernel
theorem dX7_lawfulWithout_27 : decode cX7_lawfulWithout 27 = .ok (.ireturn, 1) := by decide +kernel
abbrev mX7_lawfulWithout : MD := (cX7_lawfulWithout, "BlottedDeed$Table", 2, 4, 104, (some .int), "lawfulWithout", [])
def bX7_lawfulWithout_0 (g : GE) (J : Nat → KT) : KT := i_aload 0 (i_getf 7 9 (i_iload 1 (i_iaload (i_push (.int (-1)) (i_icne (i_jmp [true, true] (J 1)) (i_aload 0 (i_getf 7 9 (i_iload 1 (i_aload 0 (i_iload 1 (i_cv fX7_countWithout g 1 7 (i_iastore (i_jmp [true, true] (J 1))))))))))))))
def bX7_lawfulWithout_1 (g : GE) (J : Nat → KT) : KT := i_aload 0 (i_getf 7 9 (i_iload 1 (i_iaload (i_ireturn))))
theorem sbX7_lawfulWithout_0 (g : GE) (J : Nat → KT) (h1 : Snd mX7_lawfulWithout g 21 (J 1)) : Snd mX7_lawfulWithout g 0 (bX7_lawfulWithout_0 g J) := by
  unfold bX7_lawfulWithout_0
  refine s_aload_n (pc := 0) (i := 0) ?_ dX7_lawfulWithout_0 rfl
  refine s_getf (pc := 1) (ci := 7) (f := 9) (T := TX7) ?_ ginX7 rfl (by decide) wt_349 dX7_lawfulWithout_1
  refine s_iload_n (pc := 4) (i := 1) ?_ dX7_lawfulWithout_4 rfl
  refine s_iaload (pc := 5) ?_ dX7_lawfulWithout_5
  refine s_iconst (pc := 6) (v := (-1)) ?_ dX7_lawfulWithout_6 (by decide)
  refine s_icne (pc := 7) (tgt := 21) ?_ ?_ dX7_lawfulWithout_7 (by decide)
  · skip
    exact s_fall (pc := 21) h1
  · skip
    refine s_aload_n (pc := 10) (i := 0) ?_ dX7_lawfulWithout_10 rfl
    refine s_getf (pc := 11) (ci := 7) (f := 9) (T := TX7) ?_ ginX7 rfl (by decide) wt_349 dX7_lawfulWithout_11
    refine s_iload_n (pc := 14) (i := 1) ?_ dX7_lawfulWithout_14 rfl
    refine s_aload_n (pc := 15) (i := 0) ?_ dX7_lawfulWithout_15 rfl
    refine s_iload_n (pc := 16) (i := 1) ?_ dX7_lawfulWithout_16 rfl
    refine s_cv (pc := 17) (n := 1) (ci := 7) ?_ tX7_countWithout rfl rfl wt_1288 wt_1290 wp_42 wt_8 wt_1291 ⟨crX7_countWithout, by decide, by decide⟩ dX7_lawfulWithout_17
    refine s_iastore (pc := 20) ?_ dX7_lawfulWithout_20
    exact s_fall (pc := 21) h1
theorem sbX7_lawfulWithout_1 (g : GE) (J : Nat → KT) (h1 : Snd mX7_lawfulWithout g 21 (J 1)) : Snd mX7_lawfulWithout g 21 (bX7_lawfulWithout_1 g J) := by
  unfold bX7_lawfulWithout_1
  refine s_aload_n (pc := 21) (i := 0) ?_ dX7_lawfulWithout_21 rfl
  refine s_getf (pc := 22) (ci := 7) (f := 9) (T := TX7) ?_ ginX7 rfl (by decide) wt_349 dX7_lawfulWithout_22
  refine s_iload_n (pc := 25) (i := 1) ?_ dX7_lawfulWithout_25 rfl
  refine s_iaload (pc := 26) ?_ dX7_lawfulWithout_26
  exact s_ireturn (pc := 27) rfl dX7_lawfulWithout_27
def jX7_lawfulWithout (g : GE) : Nat → Nat → KT
  | 0, _ => fun _ _ _ => none
  | n + 1, 0 => bX7_lawfulWithout_0 g (jX7_lawfulWithout g n)
  | n + 1, 1 => bX7_lawfulWithout_1 g (jX7_lawfulWithout g n)
  | _ + 1, _ + 2 => fun _ _ _ => none
theorem sjX7_lawfulWithout (g : GE) : ∀ n, Snd mX7_lawfulWithout g 0 (jX7_lawfulWithout g n 0) ∧ Snd mX7_lawfulWithout g 21 (jX7_lawfulWithout g n 1)
  | 0 => ⟨s_none, s_none⟩
  | n + 1 => by
    obtain ⟨-, h1⟩ := sjX7_lawfulWithout g n
    exact ⟨sbX7_lawfulWithout_0 g _ h1, sbX7_lawfulWithout_1 g _ h1⟩
def kX7_lawfulWithout (g : GE) : KT := jX7_lawfulWithout g g.1 0
theorem sX7_lawfulWithout (g : GE) : Snd mX7_lawfulWithout g 0 (kX7_lawfulWithout g) := (sjX7_lawfulWithout g g.1).1
def fX7_lawfulWithout : FT := fun g av w => if (ent av).length ≤ 2 then kX7_lawfulWithout g [] (entp 2 av) w else none
theorem tX7_lawfulWithout : Mt yX7_lawfulWithout cX7_lawfulWithout 2 (some .int) 4 104 fX7_lawfulWithout := Mt.of (K := kX7_lawfulWithout) (by decide +kernel) (fun _ _ _ => rfl) sX7_lawfulWithout
theorem crX7_lawfulWithout : yX7_lawfulWithout.cls ≠ "java/lang/invoke/MethodHandle" ∧ yX7_lawfulWithout.cls ≠ "java/lang/invoke/VarHandle" ∧ (parseMethodDescriptor yX7_lawfulWithout.desc).map (fun d => d.parameters.length) = some 1 := by decide +kernel
theorem dX10_struck_0 : decode cX10_struck 0 = .ok (.aload_n 0, 1) := by decide +kernel
theorem dX10_struck_1 : decode cX10_struck 1 = .ok (.iload_n 1, 1) := by decide +kernel
theorem dX10_struck_2 : decode cX10_struck 2 = .ok (.aload_n 0, 1) := by decide +kernel
theorem dX10_struck_3 : decode cX10_struck 3 = .ok (.getfield 16, 3) := by decide +kernel
theorem dX10_struck_6 : decode cX10_struck 6 = .ok (.getfield 114, 3) := by decide +kernel
theorem dX10_struck_9 : decode cX10_struck 9 = .ok (.invokevirtual 266, 3) := by decide +kernel
theorem dX10_struck_12 : decode cX10_struck 12 = .ok (.aload_n 0, 1) := by decide +kernel
theorem dX10_struck_13 : decode cX10_struck 13 = .ok (.getfield 37, 3) := by decide +kernel
theorem dX10_struck_16 : decode cX10_struck 16 = .ok (.iload_n 1, 1) := by decide +kernel
theorem dX10_struck_17 : decode cX10_struck 17 = .ok (.invokevirtual 291, 3) := by decide +kernel
theorem dX10_struck_20 : decode cX10_struck 20 = .ok (.ireturn, 1) := by decide +kernel
abbrev mX10_struck : MD := (cX10_struck, "BlottedDeed", 2, 7, 125, (some .int), "struck", [])
def bX10_struck_0 (g : GE) (J : Nat → KT) : KT := i_aload 0 (i_iload 1 (i_aload 0 (i_getf 9 3 (i_getf 2 11 (i_cvX fX10_needIndex g 2 9 (i_aload 0 (i_getf 9 5 (i_iload 1 (i_cv fX7_lawfulWithout g 1 7 (i_ireturn))))))))))
theorem sbX10_struck_0 (g : GE) (J : Nat → KT)  : Snd mX10_struck g 0 (bX10_struck_0 g J) := by
  unfold bX10_struck_0
  refine s_aload_n (pc := 0) (i := 0) ?_ dX10_struck_0 rfl
  refine s_iload_n (pc := 1) (i := 1) ?_ dX10_struck_1 rfl
  refine s_aload_n (pc := 2) (i := 0) ?_ dX10_struck_2 rfl
  refine s_getf (pc := 3) (ci := 9) (f := 3) (T := TX10) ?_ ginX10 rfl (by decide) wt_457 dX10_struck_3
  refine s_getf (pc := 6) (ci := 2) (f := 11) (T := TX2) ?_ ginX2 rfl (by decide) wt_138 dX10_struck_6
  refine s_cvX (pc := 9) (n := 2) (ci := 9) ?_ tX10_needIndex rfl rfl wt_971 wt_973 wp_34 wt_1 wt_974 ⟨crX10_needIndex, by decide, by decide⟩ rfl dX10_struck_9
  refine s_aload_n (pc := 12) (i := 0) ?_ dX10_struck_12 rfl
  refine s_getf (pc := 13) (ci := 9) (f := 5) (T := TX10) ?_ ginX10 rfl (by decide) wt_459 dX10_struck_13
  refine s_iload_n (pc := 16) (i := 1) ?_ dX10_struck_16 rfl
  refine s_cv (pc := 17) (n := 1) (ci := 7) ?_ tX7_lawfulWithout rfl rfl wt_1284 wt_1285 wt_1286 wt_8 wt_1287 ⟨crX7_lawfulWithout, by decide, by decide⟩ dX10_struck_17
  exact s_ireturn (pc := 20) rfl dX10_struck_20
def kX10_struck (g : GE) : KT := bX10_struck_0 g (fun _ _ _ _ => none)
theorem sX10_struck (g : GE) : Snd mX10_struck g 0 (kX10_struck g) := sbX10_struck_0 g _
def fX10_struck : FT := fun g av w => if (ent av).length ≤ 2 then kX10_struck g [] (entp 2 av) w else none
theorem tX10_struck : Mt yX10_struck cX10_struck 2 (some .int) 7 125 fX10_struck := Mt.of (K := kX10_struck) (by decide +kernel) (fun _ _ _ => rfl) sX10_struck
theorem crX10_struck : yX10_struck.cls ≠ "java/lang/invoke/MethodHandle" ∧ yX10_struck.cls ≠ "java/lang/invoke/VarHandle" ∧ (parseMethodDescriptor yX10_struck.desc).map (fun d => d.parameters.length) = some 1 := by decide +kernel
theorem dX10_sure_0 : decode cX10_sure 0 = .ok (.aload_n 0, 1) := by decide +kernel
theorem dX10_sure_1 : decode cX10_sure 1 = .ok (.iload_n 1, 1) := by decide +kernel
theorem dX10_sure_2 : decode cX10_sure 2 = .ok (.invokevirtual 175, 3) := by decide +kernel
theorem dX10_sure_5 : decode cX10_sure 5 = .ok (.aload_n 0, 1) := by decide +kernel
theorem dX10_sure_6 : decode cX10_sure 6 = .ok (.iload_n 2, 1) := by decide +kernel
theorem dX10_sure_7 : decode cX10_sure 7 = .ok (.invokevirtual 166, 3) := by decide +kernel
theorem dX10_sure_10 : decode cX10_sure 10 = .ok (.aload_n 0, 1) := by decide +kernel
theorem dX10_sure_11 : decode cX10_sure 11 = .ok (.getfield 37, 3) := by decide +kernel
theorem dX10_sure_14 : decode cX10_sure 14 = .ok (.getfield 150, 3) := by decide +kernel
theorem dX10_sure_17 : decode cX10_sure 17 = .ok (.ifCond .le 26, 3) := by decide +kernel
theorem dX10_sure_20 : decode cX10_sure 20 = .ok (.aload_n 0, 1) := by decide +kernel
theorem dX10_sure_21 : decode cX10_sure 21 = .ok (.getfield 37, 3) := by decide +kernel
theorem dX10_sure_24 : decode cX10_sure 24 = .ok (.iload_n 1, 1) := by decide +kernel
theorem dX10_sure_25 : decode cX10_sure 25 = .ok (.iload_n 2, 1) := by decide +kernel
theorem dX10_sure_26 : decode cX10_sure 26 = .ok (.invokevirtual 181, 3) := by decide +kernel
theorem dX10_sure_29 : decode cX10_sure 29 = .ok (.aload_n 0, 1) := by decide +kernel
theorem dX10_sure_30 : decode cX10_sure 30 = .ok (.getfield 37, 3) := by decide +kernel
theorem dX10_sure_33 : decode cX10_sure 33 = .ok (.getfield 150, 3) := by decide +kernel
theorem dX10_sure_36 : decode cX10_sure 36 = .ok (.if_icmp .ne 7, 3) := by decide +kernel
theorem dX10_sure_39 : decode cX10_sure 39 = .ok (.iconst 1, 1) := by decide +kernel
theorem dX10_sure_40 : decode cX10_sure 40 = .ok (.goto 4, 3) := by decide +kernel
theorem dX10_sure_43 : decode cX10_sure 43 = .ok (.iconst 0, 1) := by decide +kernel
theorem dX10_sure_44 : decode cX10_sure 44 = .ok (.ireturn, 1) := by decide +kernel
abbrev mX10_sure : MD := (cX10_sure, "BlottedDeed", 3, 8, 143, (some .boolean), "sure", [])
def bX10_sure_0 (g : GE) (J : Nat → KT) : KT := i_aload 0 (i_iload 1 (i_cvX fX10_needThing g 1 9 (i_aload 0 (i_iload 2 (i_cvX fX10_needHeir g 1 9 (i_aload 0 (i_getf 9 5 (i_getf 7 2 (i_ifle (i_jmp [false, false, false] (J 1)) (i_aload 0 (i_getf 9 5 (i_iload 1 (i_iload 2 (i_cv fX7_timesOwned g 2 7 (i_aload 0 (i_getf 9 5 (i_getf 7 2 (i_icne (i_jmp [false, false, false] (J 1)) (i_push (.int 1) (i_jmp [false, false, false] (J 2)))))))))))))))))))))
def bX10_sure_1 (g : GE) (J : Nat → KT) : KT := i_push (.int 0) (i_jmp [false, false, false] (J 2))
def bX10_sure_2 (g : GE) (J : Nat → KT) : KT := i_zreturn
theorem sbX10_sure_0 (g : GE) (J : Nat → KT) (h1 : Snd mX10_sure g 43 (J 1)) (h2 : Snd mX10_sure g 44 (J 2)) : Snd mX10_sure g 0 (bX10_sure_0 g J) := by
  unfold bX10_sure_0
  refine s_aload_n (pc := 0) (i := 0) ?_ dX10_sure_0 rfl
  refine s_iload_n (pc := 1) (i := 1) ?_ dX10_sure_1 rfl
  refine s_cvX (pc := 2) (n := 1) (ci := 9) ?_ tX10_needThing rfl rfl wt_1030 wt_1032 wp_36 wt_1 wt_1033 ⟨crX10_needThing, by decide, by decide⟩ rfl dX10_sure_2
  refine s_aload_n (pc := 5) (i := 0) ?_ dX10_sure_5 rfl
  refine s_iload_n (pc := 6) (i := 2) ?_ dX10_sure_6 rfl
  refine s_cvX (pc := 7) (n := 1) (ci := 9) ?_ tX10_needHeir rfl rfl wt_1010 wt_1012 wp_35 wt_1 wt_1013 ⟨crX10_needHeir, by decide, by decide⟩ rfl dX10_sure_7
  refine s_aload_n (pc := 10) (i := 0) ?_ dX10_sure_10 rfl
  refine s_getf (pc := 11) (ci := 9) (f := 5) (T := TX10) ?_ ginX10 rfl (by decide) wt_459 dX10_sure_11
  refine s_getf (pc := 14) (ci := 7) (f := 2) (T := TX7) ?_ ginX7 rfl (by decide) wt_340 dX10_sure_14
  refine s_ifle (pc := 17) (tgt := 43) ?_ ?_ dX10_sure_17 (by decide)
  · skip
    exact s_fall (pc := 43) h1
  · skip
    refine s_aload_n (pc := 20) (i := 0) ?_ dX10_sure_20 rfl
    refine s_getf (pc := 21) (ci := 9) (f := 5) (T := TX10) ?_ ginX10 rfl (by decide) wt_459 dX10_sure_21
    refine s_iload_n (pc := 24) (i := 1) ?_ dX10_sure_24 rfl
    refine s_iload_n (pc := 25) (i := 2) ?_ dX10_sure_25 rfl
    refine s_cv (pc := 26) (n := 2) (ci := 7) ?_ tX7_timesOwned rfl rfl wt_1042 wt_590 wt_591 wt_8 wt_592 ⟨crX7_timesOwned, by decide, by decide⟩ dX10_sure_26
    refine s_aload_n (pc := 29) (i := 0) ?_ dX10_sure_29 rfl
    refine s_getf (pc := 30) (ci := 9) (f := 5) (T := TX10) ?_ ginX10 rfl (by decide) wt_459 dX10_sure_30
    refine s_getf (pc := 33) (ci := 7) (f := 2) (T := TX7) ?_ ginX7 rfl (by decide) wt_340 dX10_sure_33
    refine s_icne (pc := 36) (tgt := 43) ?_ ?_ dX10_sure_36 (by decide)
    · skip
      exact s_fall (pc := 43) h1
    · skip
      refine s_iconst (pc := 39) (v := 1) ?_ dX10_sure_39 (by decide)
      exact s_goto (pc := 40) (tgt := 44) h2 dX10_sure_40 (by decide)
theorem sbX10_sure_1 (g : GE) (J : Nat → KT) (h1 : Snd mX10_sure g 43 (J 1)) (h2 : Snd mX10_sure g 44 (J 2)) : Snd mX10_sure g 43 (bX10_sure_1 g J) := by
  unfold bX10_sure_1
  refine s_iconst (pc := 43) (v := 0) ?_ dX10_sure_43 (by decide)
  exact s_fall (pc := 44) h2
theorem sbX10_sure_2 (g : GE) (J : Nat → KT) (h1 : Snd mX10_sure g 43 (J 1)) (h2 : Snd mX10_sure g 44 (J 2)) : Snd mX10_sure g 44 (bX10_sure_2 g J) := by
  unfold bX10_sure_2
  exact s_zreturn (pc := 44) rfl dX10_sure_44
def jX10_sure (g : GE) : Nat → Nat → KT
  | 0, _ => fun _ _ _ => none
  | n + 1, 0 => bX10_sure_0 g (jX10_sure g n)
  | n + 1, 1 => bX10_sure_1 g (jX10_sure g n)
  | n + 1, 2 => bX10_sure_2 g (jX10_sure g n)
  | _ + 1, _ + 3 => fun _ _ _ => none
theorem sjX10_sure (g : GE) : ∀ n, Snd mX10_sure g 0 (jX10_sure g n 0) ∧ Snd mX10_sure g 43 (jX10_sure g n 1) ∧ Snd mX10_sure g 44 (jX10_sure g n 2)
  | 0 => ⟨s_none, s_none, s_none⟩
  | n + 1 => by
    obtain ⟨-, h1, h2⟩ := sjX10_sure g n
    exact ⟨sbX10_sure_0 g _ h1 h2, sbX10_sure_1 g _ h1 h2, sbX10_sure_2 g _ h1 h2⟩
def kX10_sure (g : GE) : KT := jX10_sure g g.1 0
theorem sX10_sure (g : GE) : Snd mX10_sure g 0 (kX10_sure g) := (sjX10_sure g g.1).1
def fX10_sure : FT := fun g av w => if (ent av).length ≤ 3 then kX10_sure g [] (entp 3 av) w else none
theorem tX10_sure : Mt yX10_sure cX10_sure 3 (some .boolean) 8 143 fX10_sure := Mt.of (K := kX10_sure) (by decide +kernel) (fun _ _ _ => rfl) sX10_sure
theorem crX10_sure : yX10_sure.cls ≠ "java/lang/invoke/MethodHandle" ∧ yX10_sure.cls ≠ "java/lang/invoke/VarHandle" ∧ (parseMethodDescriptor yX10_sure.desc).map (fun d => d.parameters.length) = some 2 := by decide +kernel
theorem dX7_swayedBy_0 : decode cX7_swayedBy 0 = .ok (.iconst 1, 1) := by decide +kernel
theorem dX7_swayedBy_1 : decode cX7_swayedBy 1 = .ok (.aload_n 0, 1) := by decide +kernel
theorem dX7_swayedBy_2 : decode cX7_swayedBy 2 = .ok (.getfield 45, 3) := by decide +kernel
theorem dX7_swayedBy_5 : decode cX7_swayedBy 5 = .ok (.getfield 111, 3) := by decide +kernel
theorem dX7_swayedBy_8 : decode cX7_swayedBy 8 = .ok (.ishl, 1) := by decide +kernel
theorem dX7_swayedBy_9 : decode cX7_swayedBy 9 = .ok (.iconst 1, 1) := by decide +kernel
theorem dX7_swayedBy_10 : decode cX7_swayedBy 10 = .ok (.isub, 1) := by decide +kernel
theorem dX7_swayedBy_11 : decode cX7_swayedBy 11 = .ok (.iconst 1, 1) := by decide +kernel
theorem dX7_swayedBy_12 : decode cX7_swayedBy 12 = .ok (.iload_n 2, 1) := by decide +kernel
theorem dX7_swayedBy_13 : decode cX7_swayedBy 13 = .ok (.ishl, 1) := by decide +kernel
theorem dX7_swayedBy_14 : decode cX7_swayedBy 14 = .ok (.iconst (-1), 1) := by decide +kernel
theorem dX7_swayedBy_15 : decode cX7_swayedBy 15 = .ok (.ixor, 1) := by decide +kernel
theorem dX7_swayedBy_16 : decode cX7_swayedBy 16 = .ok (.iand, 1) := by decide +kernel
theorem dX7_swayedBy_17 : decode cX7_swayedBy 17 = .ok (.istore_n 3, 1) := by decide +kernel
theorem dX7_swayedBy_18 : decode cX7_swayedBy 18 = .ok (.aload_n 0, 1) := by decide +kernel
theorem dX7_swayedBy_19 : decode cX7_swayedBy 19 = .ok (.iload_n 3, 1) := by decide +kernel
theorem dX7_swayedBy_20 : decode cX7_swayedBy 20 = .ok (.iload_n 1, 1) := by decide +kernel
theorem dX7_swayedBy_21 : decode cX7_swayedBy 21 = .ok (.invokevirtual 170, 3) := by decide +kernel
theorem dX7_swayedBy_24 : decode cX7_swayedBy 24 = .ok (.ifCond .ne 5, 3) := by decide +kernel
theorem dX7_swayedBy_27 : decode cX7_swayedBy 27 = .ok (.iconst 0, 1) := by decide +kernel
theorem dX7_swayedBy_28 : decode cX7_swayedBy 28 = .ok (.ireturn, 1) := by decide +kernel
theorem dX7_swayedBy_29 : decode cX7_swayedBy 29 = .ok (.iconst 0, 1) := by decide +kernel
theorem dX7_swayedBy_30 : decode cX7_swayedBy 30 = .ok (.istore 4, 2) := by decide +kernel
theorem dX7_swayedBy_32 : decode cX7_swayedBy 32 = .ok (.iconst 0, 1) := by decide +kernel
theorem dX7_swayedBy_33 : decode cX7_swayedBy 33 = .ok (.istore 5, 2) := by decide +kernel
theorem dX7_swayedBy_35 : decode cX7_swayedBy 35 = .ok (.iload 5, 2) := by decide +kernel
theorem dX7_swayedBy_37 : decode cX7_swayedBy 37 = .ok (.aload_n 0, 1) := by decide +kernel
theorem dX7_swayedBy_38 : decode cX7_swayedBy 38 = .ok (.getfield 53, 3) := by decide +kernel
theorem dX7_swayedBy_41 : decode cX7_swayedBy 41 = .ok (.if_icmp .ge 29, 3) := by decide +kernel
theorem dX7_swayedBy_44 : decode cX7_swayedBy 44 = .ok (.aload_n 0, 1) := by decide +kernel
theorem dX7_swayedBy_45 : decode cX7_swayedBy 45 = .ok (.getfield 41, 3) := by decide +kernel
theorem dX7_swayedBy_48 : decode cX7_swayedBy 48 = .ok (.aload_n 0, 1) := by decide +kernel
theorem dX7_swayedBy_49 : decode cX7_swayedBy 49 = .ok (.iload 5, 2) := by decide +kernel
theorem dX7_swayedBy_51 : decode cX7_swayedBy 51 = .ok (.iload_n 3, 1) := by decide +kernel
theorem dX7_swayedBy_52 : decode cX7_swayedBy 52 = .ok (.invokevirtual 174, 3) := by decide +kernel
theorem dX7_swayedBy_55 : decode cX7_swayedBy 55 = .ok (.baload, 1) := by decide +kernel
theorem dX7_swayedBy_56 : decode cX7_swayedBy 56 = .ok (.bipush 7, 2) := by decide +kernel
theorem dX7_swayedBy_58 : decode cX7_swayedBy 58 = .ok (.if_icmp .ne 6, 3) := by decide +kernel
theorem dX7_swayedBy_61 : decode cX7_swayedBy 61 = .ok (.iinc 4 1, 3) := by decide +kernel
theorem dX7_swayedBy_64 : decode cX7_swayedBy 64 = .ok (.iinc 5 1, 3) := by decide +kernel
theorem dX7_swayedBy_67 : decode cX7_swayedBy 67 = .ok (.goto (-32), 3) := by decide +kernel
theorem dX7_swayedBy_70 : decode cX7_swayedBy 70 = .ok (.iload 4, 2) := by decide +kernel
theorem dX7_swayedBy_72 : decode cX7_swayedBy 72 = .ok (.ireturn, 1) := by decide +kernel
abbrev mX7_swayedBy : MD := (cX7_swayedBy, "BlottedDeed$Table", 6, 5, 125, (some .int), "swayedBy", [])
def bX7_swayedBy_0 (g : GE) (J : Nat → KT) : KT := i_push (.int 1) (i_aload 0 (i_getf 7 5 (i_getf 2 13 (i_ishl (i_push (.int 1) (i_isub (i_push (.int 1) (i_iload 2 (i_ishl (i_push (.int (-1)) (i_ixor (i_iand (i_istore 3 (i_aload 0 (i_iload 3 (i_iload 1 (i_cv fX7_sortOwners g 2 7 (i_ifne (i_push (.int 0) (i_istore 4 (i_push (.int 0) (i_istore 5 (i_jmp [true, false, false, true, true, true] (J 1)))))) (i_push (.int 0) (i_ireturn))))))))))))))))))))
def bX7_swayedBy_1 (g : GE) (J : Nat → KT) : KT := i_iload 5 (i_aload 0 (i_getf 7 2 (i_icge (i_iload 4 (i_ireturn)) (i_aload 0 (i_getf 7 11 (i_aload 0 (i_iload 5 (i_iload 3 (i_cv fX7_groupOf g 2 7 (i_baload (i_push (.int 7) (i_icne (i_jmp [true, false, false, true, true, true] (J 2)) (i_iinc 4 1 (i_jmp [true, false, false, true, true, true] (J 2)))))))))))))))
def bX7_swayedBy_2 (g : GE) (J : Nat → KT) : KT := i_iinc 5 1 (i_jmp [true, false, false, true, true, true] (J 1))
theorem sbX7_swayedBy_0 (g : GE) (J : Nat → KT) (h1 : Snd mX7_swayedBy g 35 (J 1)) (h2 : Snd mX7_swayedBy g 64 (J 2)) : Snd mX7_swayedBy g 0 (bX7_swayedBy_0 g J) := by
  unfold bX7_swayedBy_0
  refine s_iconst (pc := 0) (v := 1) ?_ dX7_swayedBy_0 (by decide)
  refine s_aload_n (pc := 1) (i := 0) ?_ dX7_swayedBy_1 rfl
  refine s_getf (pc := 2) (ci := 7) (f := 5) (T := TX7) ?_ ginX7 rfl (by decide) wt_345 dX7_swayedBy_2
  refine s_getf (pc := 5) (ci := 2) (f := 13) (T := TX2) ?_ ginX2 rfl (by decide) wt_145 dX7_swayedBy_5
  refine s_ishl (pc := 8) ?_ dX7_swayedBy_8
  refine s_iconst (pc := 9) (v := 1) ?_ dX7_swayedBy_9 (by decide)
  refine s_isub (pc := 10) ?_ dX7_swayedBy_10
  refine s_iconst (pc := 11) (v := 1) ?_ dX7_swayedBy_11 (by decide)
  refine s_iload_n (pc := 12) (i := 2) ?_ dX7_swayedBy_12 rfl
  refine s_ishl (pc := 13) ?_ dX7_swayedBy_13
  refine s_iconst (pc := 14) (v := (-1)) ?_ dX7_swayedBy_14 (by decide)
  refine s_ixor (pc := 15) ?_ dX7_swayedBy_15
  refine s_iand (pc := 16) ?_ dX7_swayedBy_16
  refine s_istore_n (pc := 17) (i := 3) ?_ dX7_swayedBy_17 rfl (by decide)
  refine s_aload_n (pc := 18) (i := 0) ?_ dX7_swayedBy_18 rfl
  refine s_iload_n (pc := 19) (i := 3) ?_ dX7_swayedBy_19 rfl
  refine s_iload_n (pc := 20) (i := 1) ?_ dX7_swayedBy_20 rfl
  refine s_cv (pc := 21) (n := 2) (ci := 7) ?_ tX7_sortOwners rfl rfl wt_1104 wt_1106 wp_38 wt_8 wt_1107 ⟨crX7_sortOwners, by decide, by decide⟩ dX7_swayedBy_21
  refine s_ifne (pc := 24) (tgt := 29) ?_ ?_ dX7_swayedBy_24 (by decide)
  · skip
    refine s_iconst (pc := 29) (v := 0) ?_ dX7_swayedBy_29 (by decide)
    refine s_istore (pc := 30) (i := 4) ?_ dX7_swayedBy_30 (by decide)
    refine s_iconst (pc := 32) (v := 0) ?_ dX7_swayedBy_32 (by decide)
    refine s_istore (pc := 33) (i := 5) ?_ dX7_swayedBy_33 (by decide)
    exact s_fall (pc := 35) h1
  · skip
    refine s_iconst (pc := 27) (v := 0) ?_ dX7_swayedBy_27 (by decide)
    exact s_ireturn (pc := 28) rfl dX7_swayedBy_28
theorem sbX7_swayedBy_1 (g : GE) (J : Nat → KT) (h1 : Snd mX7_swayedBy g 35 (J 1)) (h2 : Snd mX7_swayedBy g 64 (J 2)) : Snd mX7_swayedBy g 35 (bX7_swayedBy_1 g J) := by
  unfold bX7_swayedBy_1
  refine s_iload (pc := 35) (i := 5) ?_ dX7_swayedBy_35
  refine s_aload_n (pc := 37) (i := 0) ?_ dX7_swayedBy_37 rfl
  refine s_getf (pc := 38) (ci := 7) (f := 2) (T := TX7) ?_ ginX7 rfl (by decide) wt_339 dX7_swayedBy_38
  refine s_icge (pc := 41) (tgt := 70) ?_ ?_ dX7_swayedBy_41 (by decide)
  · skip
    refine s_iload (pc := 70) (i := 4) ?_ dX7_swayedBy_70
    exact s_ireturn (pc := 72) rfl dX7_swayedBy_72
  · skip
    refine s_aload_n (pc := 44) (i := 0) ?_ dX7_swayedBy_44 rfl
    refine s_getf (pc := 45) (ci := 7) (f := 11) (T := TX7) ?_ ginX7 rfl (by decide) wt_351 dX7_swayedBy_45
    refine s_aload_n (pc := 48) (i := 0) ?_ dX7_swayedBy_48 rfl
    refine s_iload (pc := 49) (i := 5) ?_ dX7_swayedBy_49
    refine s_iload_n (pc := 51) (i := 3) ?_ dX7_swayedBy_51 rfl
    refine s_cv (pc := 52) (n := 2) (ci := 7) ?_ tX7_groupOf rfl rfl wt_1112 wt_1114 wp_40 wt_8 wt_1115 ⟨crX7_groupOf, by decide, by decide⟩ dX7_swayedBy_52
    refine s_baload (pc := 55) ?_ dX7_swayedBy_55
    refine s_bipush (pc := 56) (v := 7) ?_ dX7_swayedBy_56 (by decide)
    refine s_icne (pc := 58) (tgt := 64) ?_ ?_ dX7_swayedBy_58 (by decide)
    · skip
      exact s_fall (pc := 64) h2
    · skip
      refine s_iinc (pc := 61) (i := 4) (v := 1) ?_ dX7_swayedBy_61 (by decide) (by decide)
      exact s_fall (pc := 64) h2
theorem sbX7_swayedBy_2 (g : GE) (J : Nat → KT) (h1 : Snd mX7_swayedBy g 35 (J 1)) (h2 : Snd mX7_swayedBy g 64 (J 2)) : Snd mX7_swayedBy g 64 (bX7_swayedBy_2 g J) := by
  unfold bX7_swayedBy_2
  refine s_iinc (pc := 64) (i := 5) (v := 1) ?_ dX7_swayedBy_64 (by decide) (by decide)
  exact s_goto (pc := 67) (tgt := 35) h1 dX7_swayedBy_67 (by decide)
def jX7_swayedBy (g : GE) : Nat → Nat → KT
  | 0, _ => fun _ _ _ => none
  | n + 1, 0 => bX7_swayedBy_0 g (jX7_swayedBy g n)
  | n + 1, 1 => bX7_swayedBy_1 g (jX7_swayedBy g n)
  | n + 1, 2 => bX7_swayedBy_2 g (jX7_swayedBy g n)
  | _ + 1, _ + 3 => fun _ _ _ => none
theorem sjX7_swayedBy (g : GE) : ∀ n, Snd mX7_swayedBy g 0 (jX7_swayedBy g n 0) ∧ Snd mX7_swayedBy g 35 (jX7_swayedBy g n 1) ∧ Snd mX7_swayedBy g 64 (jX7_swayedBy g n 2)
  | 0 => ⟨s_none, s_none, s_none⟩
  | n + 1 => by
    obtain ⟨-, h1, h2⟩ := sjX7_swayedBy g n
    exact ⟨sbX7_swayedBy_0 g _ h1 h2, sbX7_swayedBy_1 g _ h1 h2, sbX7_swayedBy_2 g _ h1 h2⟩
def kX7_swayedBy (g : GE) : KT := jX7_swayedBy g g.1 0
theorem sX7_swayedBy (g : GE) : Snd mX7_swayedBy g 0 (kX7_swayedBy g) := (sjX7_swayedBy g g.1).1
def fX7_swayedBy : FT := fun g av w => if (ent av).length ≤ 6 then kX7_swayedBy g [] (entp 6 av) w else none
theorem tX7_swayedBy : Mt yX7_swayedBy cX7_swayedBy 6 (some .int) 5 125 fX7_swayedBy := Mt.of (K := kX7_swayedBy) (by decide +kernel) (fun _ _ _ => rfl) sX7_swayedBy
theorem crX7_swayedBy : yX7_swayedBy.cls ≠ "java/lang/invoke/MethodHandle" ∧ yX7_swayedBy.cls ≠ "java/lang/invoke/VarHandle" ∧ (parseMethodDescriptor yX7_swayedBy.desc).map (fun d => d.parameters.length) = some 2 := by decide +kernel
theorem dX10_sway_0 : decode cX10_sway 0 = .ok (.aload_n 0, 1) := by decide +kernel
theorem dX10_sway_1 : decode cX10_sway 1 = .ok (.iload_n 1, 1) := by decide +kernel
theorem dX10_sway_2 : decode cX10_sway 2 = .ok (.invokevirtual 175, 3) := by decide +kernel
theorem dX10_sway_5 : decode cX10_sway 5 = .ok (.aload_n 0, 1) := by decide +kernel
theorem dX10_sway_6 : decode cX10_sway 6 = .ok (.iload_n 2, 1) := by decide +kernel
theorem dX10_sway_7 : decode cX10_sway 7 = .ok (.invokevirtual 126, 3) := by decide +kernel
theorem dX10_sway_10 : decode cX10_sway 10 = .ok (.aload_n 0, 1) := by decide +kernel
theorem dX10_sway_11 : decode cX10_sway 11 = .ok (.getfield 37, 3) := by decide +kernel
theorem dX10_sway_14 : decode cX10_sway 14 = .ok (.iload_n 1, 1) := by decide +kernel
theorem dX10_sway_15 : decode cX10_sway 15 = .ok (.iload_n 2, 1) := by decide +kernel
theorem dX10_sway_16 : decode cX10_sway 16 = .ok (.invokevirtual 212, 3) := by decide +kernel
theorem dX10_sway_19 : decode cX10_sway 19 = .ok (.ireturn, 1) := by decide +kernel
abbrev mX10_sway : MD := (cX10_sway, "BlottedDeed", 3, 8, 150, (some .int), "sway", [])
def bX10_sway_0 (g : GE) (J : Nat → KT) : KT := i_aload 0 (i_iload 1 (i_cvX fX10_needThing g 1 9 (i_aload 0 (i_iload 2 (i_cvX fX10_needBlot g 1 9 (i_aload 0 (i_getf 9 5 (i_iload 1 (i_iload 2 (i_cv fX7_swayedBy g 2 7 (i_ireturn)))))))))))
theorem sbX10_sway_0 (g : GE) (J : Nat → KT)  : Snd mX10_sway g 0 (bX10_sway_0 g J) := by
  unfold bX10_sway_0
  refine s_aload_n (pc := 0) (i := 0) ?_ dX10_sway_0 rfl
  refine s_iload_n (pc := 1) (i := 1) ?_ dX10_sway_1 rfl
  refine s_cvX (pc := 2) (n := 1) (ci := 9) ?_ tX10_needThing rfl rfl wt_1030 wt_1032 wp_36 wt_1 wt_1033 ⟨crX10_needThing, by decide, by decide⟩ rfl dX10_sway_2
  refine s_aload_n (pc := 5) (i := 0) ?_ dX10_sway_5 rfl
  refine s_iload_n (pc := 6) (i := 2) ?_ dX10_sway_6 rfl
  refine s_cvX (pc := 7) (n := 1) (ci := 9) ?_ tX10_needBlot rfl rfl wt_932 wt_934 wp_32 wt_1 wt_935 ⟨crX10_needBlot, by decide, by decide⟩ rfl dX10_sway_7
  refine s_aload_n (pc := 10) (i := 0) ?_ dX10_sway_10 rfl
  refine s_getf (pc := 11) (ci := 9) (f := 5) (T := TX10) ?_ ginX10 rfl (by decide) wt_459 dX10_sway_11
  refine s_iload_n (pc := 14) (i := 1) ?_ dX10_sway_14 rfl
  refine s_iload_n (pc := 15) (i := 2) ?_ dX10_sway_15 rfl
  refine s_cv (pc := 16) (n := 2) (ci := 7) ?_ tX7_swayedBy rfl rfl wt_1124 wt_1125 wt_1126 wt_8 wt_1127 ⟨crX7_swayedBy, by decide, by decide⟩ dX10_sway_16
  exact s_ireturn (pc := 19) rfl dX10_sway_19
def kX10_sway (g : GE) : KT := bX10_sway_0 g (fun _ _ _ _ => none)
theorem sX10_sway (g : GE) : Snd mX10_sway g 0 (kX10_sway g) := sbX10_sway_0 g _
def fX10_sway : FT := fun g av w => if (ent av).length ≤ 3 then kX10_sway g [] (entp 3 av) w else none
theorem tX10_sway : Mt yX10_sway cX10_sway 3 (some .int) 8 150 fX10_sway := Mt.of (K := kX10_sway) (by decide +kernel) (fun _ _ _ => rfl) sX10_sway
theorem crX10_sway : yX10_sway.cls ≠ "java/lang/invoke/MethodHandle" ∧ yX10_sway.cls ≠ "java/lang/invoke/VarHandle" ∧ (parseMethodDescriptor yX10_sway.desc).map (fun d => d.parameters.length) = some 2 := by decide +kernel
theorem dX10_told_0 : decode cX10_told 0 = .ok (.aload_n 0, 1) := by decide +kernel
theorem dX10_told_1 : decode cX10_told 1 = .ok (.iload_n 1, 1) := by decide +kernel
theorem dX10_told_2 : decode cX10_told 2 = .ok (.bipush 6, 2) := by decide +kernel
theorem dX10_told_4 : decode cX10_told 4 = .ok (.invokevirtual 104, 3) := by decide +kernel
theorem dX10_told_7 : decode cX10_told 7 = .ok (.iload_n 1, 1) := by decide +kernel
theorem dX10_told_8 : decode cX10_told 8 = .ok (.tableswitch 88 0 5 #[40, 48, 56, 64, 72, 80], 40) := by decide +kernel
theorem dX10_told_48 : decode cX10_told 48 = .ok (.aload_n 0, 1) := by decide +kernel
theorem dX10_told_49 : decode cX10_told 49 = .ok (.getfield 16, 3) := by decide +kernel
theorem dX10_told_52 : decode cX10_told 52 = .ok (.getfield 108, 3) := by decide +kernel
theorem dX10_told_55 : decode cX10_told 55 = .ok (.ireturn, 1) := by decide +kernel
theorem dX10_told_56 : decode cX10_told 56 = .ok (.aload_n 0, 1) := by decide +kernel
theorem dX10_told_57 : decode cX10_told 57 = .ok (.getfield 16, 3) := by decide +kernel
theorem dX10_told_60 : decode cX10_told 60 = .ok (.getfield 111, 3) := by decide +kernel
theorem dX10_told_63 : decode cX10_told 63 = .ok (.ireturn, 1) := by decide +kernel
theorem dX10_told_64 : decode cX10_told 64 = .ok (.aload_n 0, 1) := by decide +kernel
theorem dX10_told_65 : decode cX10_told 65 = .ok (.getfield 16, 3) := by decide +kernel
theorem dX10_told_68 : decode cX10_told 68 = .ok (.getfield 114, 3) := by decide +kernel
theorem dX10_told_71 : decode cX10_told 71 = .ok (.ireturn, 1) := by decide +kernel
theorem dX10_told_72 : decode cX10_told 72 = .ok (.aload_n 0, 1) := by decide +kernel
theorem dX10_told_73 : decode cX10_told 73 = .ok (.getfield 16, 3) := by decide +kernel
theorem dX10_told_76 : decode cX10_told 76 = .ok (.getfield 101, 3) := by decide +kernel
theorem dX10_told_79 : decode cX10_told 79 = .ok (.ireturn, 1) := by decide +kernel
theorem dX10_told_80 : decode cX10_told 80 = .ok (.aload_n 0, 1) := by decide +kernel
theorem dX10_told_81 : decode cX10_told 81 = .ok (.getfield 16, 3) := by decide +kernel
theorem dX10_told_84 : decode cX10_told 84 = .ok (.getfield 117, 3) := by decide +kernel
theorem dX10_told_87 : decode cX10_told 87 = .ok (.ireturn, 1) := by decide +kernel
theorem dX10_told_88 : decode cX10_told 88 = .ok (.aload_n 0, 1) := by decide +kernel
theorem dX10_told_89 : decode cX10_told 89 = .ok (.getfield 16, 3) := by decide +kernel
theorem dX10_told_92 : decode cX10_told 92 = .ok (.getfield 120, 3) := by decide +kernel
theorem dX10_told_95 : decode cX10_told 95 = .ok (.ireturn, 1) := by decide +kernel
theorem dX10_told_96 : decode cX10_told 96 = .ok (.aload_n 0, 1) := by decide +kernel
theorem dX10_told_97 : decode cX10_told 97 = .ok (.getfield 16, 3) := by decide +kernel
theorem dX10_told_100 : decode cX10_told 100 = .ok (.getfield 123, 3) := by decide +kernel
theorem dX10_told_103 : decode cX10_told 103 = .ok (.ireturn, 1) := by decide +kernel
abbrev mX10_told : MD := (cX10_told, "BlottedDeed", 2, 8, 143, (some .int), "told", [])
def bX10_told_0 (g : GE) (J : Nat → KT) : KT := i_aload 0 (i_iload 1 (i_push (.int 6) (i_cvX fX10_needWhat g 2 9 (i_iload 1 (i_tsw 0 5 [i_aload 0 (i_getf 9 3 (i_getf 2 9 (i_ireturn))), i_aload 0 (i_getf 9 3 (i_getf 2 10 (i_ireturn))), i_aload 0 (i_getf 9 3 (i_getf 2 11 (i_ireturn))), i_aload 0 (i_getf 9 3 (i_getf 2 13 (i_ireturn))), i_aload 0 (i_getf 9 3 (i_getf 2 14 (i_ireturn))), i_aload 0 (i_getf 9 3 (i_getf 2 12 (i_ireturn)))] (i_aload 0 (i_getf 9 3 (i_getf 2 15 (i_ireturn)))))))))
theorem sbX10_told_0 (g : GE) (J : Nat → KT)  : Snd mX10_told g 0 (bX10_told_0 g J) := by
  unfold bX10_told_0
  refine s_aload_n (pc := 0) (i := 0) ?_ dX10_told_0 rfl
  refine s_iload_n (pc := 1) (i := 1) ?_ dX10_told_1 rfl
  refine s_bipush (pc := 2) (v := 6) ?_ dX10_told_2 (by decide)
  refine s_cvX (pc := 4) (n := 2) (ci := 9) ?_ tX10_needWhat rfl rfl wt_920 wt_922 wp_31 wt_1 wt_923 ⟨crX10_needWhat, by decide, by decide⟩ rfl dX10_told_4
  refine s_iload_n (pc := 7) (i := 1) ?_ dX10_told_7 rfl
  refine s_tsw (pc := 8) (tgt := 96) dX10_told_8 ?_ (by decide) ?_
  · skip
    refine s_aload_n (pc := 96) (i := 0) ?_ dX10_told_96 rfl
    refine s_getf (pc := 97) (ci := 9) (f := 3) (T := TX10) ?_ ginX10 rfl (by decide) wt_457 dX10_told_97
    refine s_getf (pc := 100) (ci := 2) (f := 15) (T := TX2) ?_ ginX2 rfl (by decide) wt_155 dX10_told_100
    exact s_ireturn (pc := 103) rfl dX10_told_103
  · intro j kj hj
    match j, hj with
    | 0, hj =>
      cases hj
      refine ⟨_, 48, rfl, by decide, ?_⟩
      refine s_aload_n (pc := 48) (i := 0) ?_ dX10_told_48 rfl
      refine s_getf (pc := 49) (ci := 9) (f := 3) (T := TX10) ?_ ginX10 rfl (by decide) wt_457 dX10_told_49
      refine s_getf (pc := 52) (ci := 2) (f := 9) (T := TX2) ?_ ginX2 rfl (by decide) wt_131 dX10_told_52
      exact s_ireturn (pc := 55) rfl dX10_told_55
    | 1, hj =>
      cases hj
      refine ⟨_, 56, rfl, by decide, ?_⟩
      refine s_aload_n (pc := 56) (i := 0) ?_ dX10_told_56 rfl
      refine s_getf (pc := 57) (ci := 9) (f := 3) (T := TX10) ?_ ginX10 rfl (by decide) wt_457 dX10_told_57
      refine s_getf (pc := 60) (ci := 2) (f := 10) (T := TX2) ?_ ginX2 rfl (by decide) wt_134 dX10_told_60
      exact s_ireturn (pc := 63) rfl dX10_told_63
    | 2, hj =>
      cases hj
      refine ⟨_, 64, rfl, by decide, ?_⟩
      refine s_aload_n (pc := 64) (i := 0) ?_ dX10_told_64 rfl
      refine s_getf (pc := 65) (ci := 9) (f := 3) (T := TX10) ?_ ginX10 rfl (by decide) wt_457 dX10_told_65
      refine s_getf (pc := 68) (ci := 2) (f := 11) (T := TX2) ?_ ginX2 rfl (by decide) wt_138 dX10_told_68
      exact s_ireturn (pc := 71) rfl dX10_told_71
    | 3, hj =>
      cases hj
      refine ⟨_, 72, rfl, by decide, ?_⟩
      refine s_aload_n (pc := 72) (i := 0) ?_ dX10_told_72 rfl
      refine s_getf (pc := 73) (ci := 9) (f := 3) (T := TX10) ?_ ginX10 rfl (by decide) wt_457 dX10_told_73
      refine s_getf (pc := 76) (ci := 2) (f := 13) (T := TX2) ?_ ginX2 rfl (by decide) wt_146 dX10_told_76
      exact s_ireturn (pc := 79) rfl dX10_told_79
    | 4, hj =>
      cases hj
      refine ⟨_, 80, rfl, by decide, ?_⟩
      refine s_aload_n (pc := 80) (i := 0) ?_ dX10_told_80 rfl
      refine s_getf (pc := 81) (ci := 9) (f := 3) (T := TX10) ?_ ginX10 rfl (by decide) wt_457 dX10_told_81
      refine s_getf (pc := 84) (ci := 2) (f := 14) (T := TX2) ?_ ginX2 rfl (by decide) wt_149 dX10_told_84
      exact s_ireturn (pc := 87) rfl dX10_told_87
    | 5, hj =>
      cases hj
      refine ⟨_, 88, rfl, by decide, ?_⟩
      refine s_aload_n (pc := 88) (i := 0) ?_ dX10_told_88 rfl
      refine s_getf (pc := 89) (ci := 9) (f := 3) (T := TX10) ?_ ginX10 rfl (by decide) wt_457 dX10_told_89
      refine s_getf (pc := 92) (ci := 2) (f := 12) (T := TX2) ?_ ginX2 rfl (by decide) wt_141 dX10_told_92
      exact s_ireturn (pc := 95) rfl dX10_told_95
    | j + 6, hj => simp at hj
def kX10_told (g : GE) : KT := bX10_told_0 g (fun _ _ _ _ => none)
theorem sX10_told (g : GE) : Snd mX10_told g 0 (kX10_told g) := sbX10_told_0 g _
def fX10_told : FT := fun g av w => if (ent av).length ≤ 2 then kX10_told g [] (entp 2 av) w else none
theorem tX10_told : Mt yX10_told cX10_told 2 (some .int) 8 143 fX10_told := Mt.of (K := kX10_told) (by decide +kernel) (fun _ _ _ => rfl) sX10_told
theorem crX10_told : yX10_told.cls ≠ "java/lang/invoke/MethodHandle" ∧ yX10_told.cls ≠ "java/lang/invoke/VarHandle" ∧ (parseMethodDescriptor yX10_told.desc).map (fun d => d.parameters.length) = some 1 := by decide +kernel
theorem dX10_weak_0 : decode cX10_weak 0 = .ok (.aload_n 0, 1) := by decide +kernel
theorem dX10_weak_1 : decode cX10_weak 1 = .ok (.iload_n 1, 1) := by decide +kernel
theorem dX10_weak_2 : decode cX10_weak 2 = .ok (.invokevirtual 175, 3) := by decide +kernel
theorem dX10_weak_5 : decode cX10_weak 5 = .ok (.aload_n 0, 1) := by decide +kernel
theorem dX10_weak_6 : decode cX10_weak 6 = .ok (.getfield 37, 3) := by decide +kernel
theorem dX10_weak_9 : decode cX10_weak 9 = .ok (.getfield 150, 3) := by decide +kernel
theorem dX10_weak_12 : decode cX10_weak 12 = .ok (.ifCond .ne 5, 3) := by decide +kernel
theorem dX10_weak_15 : decode cX10_weak 15 = .ok (.iconst (-1), 1) := by decide +kernel
theorem dX10_weak_16 : decode cX10_weak 16 = .ok (.ireturn, 1) := by decide +kernel
theorem dX10_weak_17 : decode cX10_weak 17 = .ok (.aload_n 0, 1) := by decide +kernel
theorem dX10_weak_18 : decode cX10_weak 18 = .ok (.getfield 44, 3) := by decide +kernel
theorem dX10_weak_21 : decode cX10_weak 21 = .ok (.aload_n 0, 1) := by decide +kernel
theorem dX10_weak_22 : decode cX10_weak 22 = .ok (.getfield 16, 3) := by decide +kernel
theorem dX10_weak_25 : decode cX10_weak 25 = .ok (.aload_n 0, 1) := by decide +kernel
theorem dX10_weak_26 : decode cX10_weak 26 = .ok (.getfield 37, 3) := by decide +kernel
theorem dX10_weak_29 : decode cX10_weak 29 = .ok (.getfield 250, 3) := by decide +kernel
theorem dX10_weak_32 : decode cX10_weak 32 = .ok (.iconst 0, 1) := by decide +kernel
theorem dX10_weak_33 : decode cX10_weak 33 = .ok (.laload, 1) := by decide +kernel
theorem dX10_weak_34 : decode cX10_weak 34 = .ok (.invokevirtual 269, 3) := by decide +kernel
theorem dX10_weak_37 : decode cX10_weak 37 = .ok (.iconst 0, 1) := by decide +kernel
theorem dX10_weak_38 : decode cX10_weak 38 = .ok (.istore_n 2, 1) := by decide +kernel
theorem dX10_weak_39 : decode cX10_weak 39 = .ok (.iconst 0, 1) := by decide +kernel
theorem dX10_weak_40 : decode cX10_weak 40 = .ok (.istore_n 3, 1) := by decide +kernel
theorem dX10_weak_41 : decode cX10_weak 41 = .ok (.iload_n 3, 1) := by decide +kernel
theorem dX10_weak_42 : decode cX10_weak 42 = .ok (.aload_n 0, 1) := by decide +kernel
theorem dX10_weak_43 : decode cX10_weak 43 = .ok (.getfield 16, 3) := by decide +kernel
theorem dX10_weak_46 : decode cX10_weak 46 = .ok (.getfield 120, 3) := by decide +kernel
theorem dX10_weak_49 : decode cX10_weak 49 = .ok (.if_icmp .ge 24, 3) := by decide +kernel
theorem dX10_weak_52 : decode cX10_weak 52 = .ok (.aload_n 0, 1) := by decide +kernel
theorem dX10_weak_53 : decode cX10_weak 53 = .ok (.getfield 44, 3) := by decide +kernel
theorem dX10_weak_56 : decode cX10_weak 56 = .ok (.iload_n 3, 1) := by decide +kernel
theorem dX10_weak_57 : decode cX10_weak 57 = .ok (.iload_n 1, 1) := by decide +kernel
theorem dX10_weak_58 : decode cX10_weak 58 = .ok (.invokevirtual 282, 3) := by decide +kernel
theorem dX10_weak_61 : decode cX10_weak 61 = .ok (.ifCond .eq 6, 3) := by decide +kernel
theorem dX10_weak_64 : decode cX10_weak 64 = .ok (.iinc 2 1, 3) := by decide +kernel
theorem dX10_weak_67 : decode cX10_weak 67 = .ok (.iinc 3 1, 3) := by decide +kernel
theorem dX10_weak_70 : decode cX10_weak 70 = .ok (.goto (-29), 3) := by decide +kernel
theorem dX10_weak_73 : decode cX10_weak 73 = .ok (.iload_n 2, 1) := by decide +kernel
theorem dX10_weak_74 : decode cX10_weak 74 = .ok (.ireturn, 1) := by decide +kernel
abbrev mX10_weak : MD := (cX10_weak, "BlottedDeed", 4, 8, 143, (some .int), "weak", [])
def bX10_weak_0 (g : GE) (J : Nat → KT) : KT := i_aload 0 (i_iload 1 (i_cvX fX10_needThing g 1 9 (i_aload 0 (i_getf 9 5 (i_getf 7 2 (i_ifne (i_aload 0 (i_getf 9 6 (i_aload 0 (i_getf 9 3 (i_aload 0 (i_getf 9 5 (i_getf 7 0 (i_push (.int 0) (i_laload (i_cv fX0_clean g 2 0 (i_push (.int 0) (i_istore 2 (i_push (.int 0) (i_istore 3 (i_jmp [true, true, true, true] (J 1)))))))))))))))) (i_push (.int (-1)) (i_ireturn))))))))
def bX10_weak_1 (g : GE) (J : Nat → KT) : KT := i_iload 3 (i_aload 0 (i_getf 9 3 (i_getf 2 12 (i_icge (i_iload 2 (i_ireturn)) (i_aload 0 (i_getf 9 6 (i_iload 3 (i_iload 1 (i_cv fX0_isWeak g 2 0 (i_ifeq (i_jmp [true, true, true, true] (J 2)) (i_iinc 2 1 (i_jmp [true, true, true, true] (J 2)))))))))))))
def bX10_weak_2 (g : GE) (J : Nat → KT) : KT := i_iinc 3 1 (i_jmp [true, true, true, true] (J 1))
theorem sbX10_weak_0 (g : GE) (J : Nat → KT) (h1 : Snd mX10_weak g 41 (J 1)) (h2 : Snd mX10_weak g 67 (J 2)) : Snd mX10_weak g 0 (bX10_weak_0 g J) := by
  unfold bX10_weak_0
  refine s_aload_n (pc := 0) (i := 0) ?_ dX10_weak_0 rfl
  refine s_iload_n (pc := 1) (i := 1) ?_ dX10_weak_1 rfl
  refine s_cvX (pc := 2) (n := 1) (ci := 9) ?_ tX10_needThing rfl rfl wt_1030 wt_1032 wp_36 wt_1 wt_1033 ⟨crX10_needThing, by decide, by decide⟩ rfl dX10_weak_2
  refine s_aload_n (pc := 5) (i := 0) ?_ dX10_weak_5 rfl
  refine s_getf (pc := 6) (ci := 9) (f := 5) (T := TX10) ?_ ginX10 rfl (by decide) wt_459 dX10_weak_6
  refine s_getf (pc := 9) (ci := 7) (f := 2) (T := TX7) ?_ ginX7 rfl (by decide) wt_340 dX10_weak_9
  refine s_ifne (pc := 12) (tgt := 17) ?_ ?_ dX10_weak_12 (by decide)
  · skip
    refine s_aload_n (pc := 17) (i := 0) ?_ dX10_weak_17 rfl
    refine s_getf (pc := 18) (ci := 9) (f := 6) (T := TX10) ?_ ginX10 rfl (by decide) wt_460 dX10_weak_18
    refine s_aload_n (pc := 21) (i := 0) ?_ dX10_weak_21 rfl
    refine s_getf (pc := 22) (ci := 9) (f := 3) (T := TX10) ?_ ginX10 rfl (by decide) wt_457 dX10_weak_22
    refine s_aload_n (pc := 25) (i := 0) ?_ dX10_weak_25 rfl
    refine s_getf (pc := 26) (ci := 9) (f := 5) (T := TX10) ?_ ginX10 rfl (by decide) wt_459 dX10_weak_26
    refine s_getf (pc := 29) (ci := 7) (f := 0) (T := TX7) ?_ ginX7 rfl (by decide) wt_337 dX10_weak_29
    refine s_iconst (pc := 32) (v := 0) ?_ dX10_weak_32 (by decide)
    refine s_laload (pc := 33) ?_ dX10_weak_33
    refine s_cv (pc := 34) (n := 2) (ci := 0) ?_ tX0_clean rfl rfl wt_1218 wt_1219 wt_1220 wt_14 wt_1221 ⟨crX0_clean, by decide, by decide⟩ dX10_weak_34
    refine s_iconst (pc := 37) (v := 0) ?_ dX10_weak_37 (by decide)
    refine s_istore_n (pc := 38) (i := 2) ?_ dX10_weak_38 rfl (by decide)
    refine s_iconst (pc := 39) (v := 0) ?_ dX10_weak_39 (by decide)
    refine s_istore_n (pc := 40) (i := 3) ?_ dX10_weak_40 rfl (by decide)
    exact s_fall (pc := 41) h1
  · skip
    refine s_iconst (pc := 15) (v := (-1)) ?_ dX10_weak_15 (by decide)
    exact s_ireturn (pc := 16) rfl dX10_weak_16
theorem sbX10_weak_1 (g : GE) (J : Nat → KT) (h1 : Snd mX10_weak g 41 (J 1)) (h2 : Snd mX10_weak g 67 (J 2)) : Snd mX10_weak g 41 (bX10_weak_1 g J) := by
  unfold bX10_weak_1
  refine s_iload_n (pc := 41) (i := 3) ?_ dX10_weak_41 rfl
  refine s_aload_n (pc := 42) (i := 0) ?_ dX10_weak_42 rfl
  refine s_getf (pc := 43) (ci := 9) (f := 3) (T := TX10) ?_ ginX10 rfl (by decide) wt_457 dX10_weak_43
  refine s_getf (pc := 46) (ci := 2) (f := 12) (T := TX2) ?_ ginX2 rfl (by decide) wt_141 dX10_weak_46
  refine s_icge (pc := 49) (tgt := 73) ?_ ?_ dX10_weak_49 (by decide)
  · skip
    refine s_iload_n (pc := 73) (i := 2) ?_ dX10_weak_73 rfl
    exact s_ireturn (pc := 74) rfl dX10_weak_74
  · skip
    refine s_aload_n (pc := 52) (i := 0) ?_ dX10_weak_52 rfl
    refine s_getf (pc := 53) (ci := 9) (f := 6) (T := TX10) ?_ ginX10 rfl (by decide) wt_460 dX10_weak_53
    refine s_iload_n (pc := 56) (i := 3) ?_ dX10_weak_56 rfl
    refine s_iload_n (pc := 57) (i := 1) ?_ dX10_weak_57 rfl
    refine s_cv (pc := 58) (n := 2) (ci := 0) ?_ tX0_isWeak rfl rfl wt_1258 wt_1259 wt_1260 wt_14 wt_1261 ⟨crX0_isWeak, by decide, by decide⟩ dX10_weak_58
    refine s_ifeq (pc := 61) (tgt := 67) ?_ ?_ dX10_weak_61 (by decide)
    · skip
      exact s_fall (pc := 67) h2
    · skip
      refine s_iinc (pc := 64) (i := 2) (v := 1) ?_ dX10_weak_64 (by decide) (by decide)
      exact s_fall (pc := 67) h2
theorem sbX10_weak_2 (g : GE) (J : Nat → KT) (h1 : Snd mX10_weak g 41 (J 1)) (h2 : Snd mX10_weak g 67 (J 2)) : Snd mX10_weak g 67 (bX10_weak_2 g J) := by
  unfold bX10_weak_2
  refine s_iinc (pc := 67) (i := 3) (v := 1) ?_ dX10_weak_67 (by decide) (by decide)
  exact s_goto (pc := 70) (tgt := 41) h1 dX10_weak_70 (by decide)
def jX10_weak (g : GE) : Nat → Nat → KT
  | 0, _ => fun _ _ _ => none
  | n + 1, 0 => bX10_weak_0 g (jX10_weak g n)
  | n + 1, 1 => bX10_weak_1 g (jX10_weak g n)
  | n + 1, 2 => bX10_weak_2 g (jX10_weak g n)
  | _ + 1, _ + 3 => fun _ _ _ => none
theorem sjX10_weak (g : GE) : ∀ n, Snd mX10_weak g 0 (jX10_weak g n 0) ∧ Snd mX10_weak g 41 (jX10_weak g n 1) ∧ Snd mX10_weak g 67 (jX10_weak g n 2)
  | 0 => ⟨s_none, s_none, s_none⟩
  | n + 1 => by
    obtain ⟨-, h1, h2⟩ := sjX10_weak g n
    exact ⟨sbX10_weak_0 g _ h1 h2, sbX10_weak_1 g _ h1 h2, sbX10_weak_2 g _ h1 h2⟩
def kX10_weak (g : GE) : KT := jX10_weak g g.1 0
theorem sX10_weak (g : GE) : Snd mX10_weak g 0 (kX10_weak g) := (sjX10_weak g g.1).1
def fX10_weak : FT := fun g av w => if (ent av).length ≤ 4 then kX10_weak g [] (entp 4 av) w else none
theorem tX10_weak : Mt yX10_weak cX10_weak 4 (some .int) 8 143 fX10_weak := Mt.of (K := kX10_weak) (by decide +kernel) (fun _ _ _ => rfl) sX10_weak
theorem crX10_weak : yX10_weak.cls ≠ "java/lang/invoke/MethodHandle" ∧ yX10_weak.cls ≠ "java/lang/invoke/VarHandle" ∧ (parseMethodDescriptor yX10_weak.desc).map (fun d => d.parameters.length) = some 1 := by decide +kernel
theorem dX10_when_0 : decode cX10_when 0 = .ok (.aload_n 0, 1) := by decide +kernel
theorem dX10_when_1 : decode cX10_when 1 = .ok (.iload_n 1, 1) := by decide +kernel
theorem dX10_when_2 : decode cX10_when 2 = .ok (.invokevirtual 175, 3) := by decide +kernel
theorem dX10_when_5 : decode cX10_when 5 = .ok (.aload_n 0, 1) := by decide +kernel
theorem dX10_when_6 : decode cX10_when 6 = .ok (.iload_n 2, 1) := by decide +kernel
theorem dX10_when_7 : decode cX10_when 7 = .ok (.invokevirtual 166, 3) := by decide +kernel
theorem dX10_when_10 : decode cX10_when 10 = .ok (.aload_n 0, 1) := by decide +kernel
theorem dX10_when_11 : decode cX10_when 11 = .ok (.iload_n 3, 1) := by decide +kernel
theorem dX10_when_12 : decode cX10_when 12 = .ok (.invokevirtual 166, 3) := by decide +kernel
theorem dX10_when_15 : decode cX10_when 15 = .ok (.aload_n 0, 1) := by decide +kernel
theorem dX10_when_16 : decode cX10_when 16 = .ok (.iload 4, 2) := by decide +kernel
theorem dX10_when_18 : decode cX10_when 18 = .ok (.iconst 1, 1) := by decide +kernel
theorem dX10_when_19 : decode cX10_when 19 = .ok (.invokevirtual 104, 3) := by decide +kernel
theorem dX10_when_22 : decode cX10_when 22 = .ok (.iconst (-1), 1) := by decide +kernel
theorem dX10_when_23 : decode cX10_when 23 = .ok (.istore 5, 2) := by decide +kernel
theorem dX10_when_25 : decode cX10_when 25 = .ok (.iconst 0, 1) := by decide +kernel
theorem dX10_when_26 : decode cX10_when 26 = .ok (.istore 6, 2) := by decide +kernel
theorem dX10_when_28 : decode cX10_when 28 = .ok (.iload 6, 2) := by decide +kernel
theorem dX10_when_30 : decode cX10_when 30 = .ok (.aload_n 0, 1) := by decide +kernel
theorem dX10_when_31 : decode cX10_when 31 = .ok (.getfield 37, 3) := by decide +kernel
theorem dX10_when_34 : decode cX10_when 34 = .ok (.getfield 150, 3) := by decide +kernel
theorem dX10_when_37 : decode cX10_when 37 = .ok (.if_icmp .ge 67, 3) := by decide +kernel
theorem dX10_when_40 : decode cX10_when 40 = .ok (.aload_n 0, 1) := by decide +kernel
theorem dX10_when_41 : decode cX10_when 41 = .ok (.getfield 37, 3) := by decide +kernel
theorem dX10_when_44 : decode cX10_when 44 = .ok (.iload 6, 2) := by decide +kernel
theorem dX10_when_46 : decode cX10_when 46 = .ok (.iload_n 1, 1) := by decide +kernel
theorem dX10_when_47 : decode cX10_when 47 = .ok (.invokevirtual 178, 3) := by decide +kernel
theorem dX10_when_50 : decode cX10_when 50 = .ok (.iload_n 2, 1) := by decide +kernel
theorem dX10_when_51 : decode cX10_when 51 = .ok (.if_icmp .ne 47, 3) := by decide +kernel
theorem dX10_when_54 : decode cX10_when 54 = .ok (.aload_n 0, 1) := by decide +kernel
theorem dX10_when_55 : decode cX10_when 55 = .ok (.getfield 37, 3) := by decide +kernel
theorem dX10_when_58 : decode cX10_when 58 = .ok (.iload 6, 2) := by decide +kernel
theorem dX10_when_60 : decode cX10_when 60 = .ok (.iload_n 3, 1) := by decide +kernel
theorem dX10_when_61 : decode cX10_when 61 = .ok (.invokevirtual 169, 3) := by decide +kernel
theorem dX10_when_64 : decode cX10_when 64 = .ok (.istore 7, 2) := by decide +kernel
theorem dX10_when_66 : decode cX10_when 66 = .ok (.iload 5, 2) := by decide +kernel
theorem dX10_when_68 : decode cX10_when 68 = .ok (.iconst (-1), 1) := by decide +kernel
theorem dX10_when_69 : decode cX10_when 69 = .ok (.if_icmp .eq 25, 3) := by decide +kernel
theorem dX10_when_72 : decode cX10_when 72 = .ok (.iload 4, 2) := by decide +kernel
theorem dX10_when_74 : decode cX10_when 74 = .ok (.ifCond .ne 13, 3) := by decide +kernel
theorem dX10_when_77 : decode cX10_when 77 = .ok (.iload 7, 2) := by decide +kernel
theorem dX10_when_79 : decode cX10_when 79 = .ok (.iload 5, 2) := by decide +kernel
theorem dX10_when_81 : decode cX10_when 81 = .ok (.if_icmp .ge 17, 3) := by decide +kernel
theorem dX10_when_84 : decode cX10_when 84 = .ok (.goto 10, 3) := by decide +kernel
theorem dX10_when_87 : decode cX10_when 87 = .ok (.iload 7, 2) := by decide +kernel
theorem dX10_when_89 : decode cX10_when 89 = .ok (.iload 5, 2) := by decide +kernel
theorem dX10_when_91 : decode cX10_when 91 = .ok (.if_icmp .le 7, 3) := by decide +kernel
theorem dX10_when_94 : decode cX10_when 94 = .ok (.iload 7, 2) := by decide +kernel
theorem dX10_when_96 : decode cX10_when 96 = .ok (.istore 5, 2) := by decide +kernel
theorem dX10_when_98 : decode cX10_when 98 = .ok (.iinc 6 1, 3) := by decide +kernel
theorem dX10_when_101 : decode cX10_when 101 = .ok (.goto (-73), 3) := by decide +kernel
theorem dX10_when_104 : decode cX10_when 104 = .ok (.iload 5, 2) := by decide +kernel
theorem dX10_when_106 : decode cX10_when 106 = .ok (.ireturn, 1) := by decide +kernel
abbrev mX10_when : MD := (cX10_when, "BlottedDeed", 8, 8, 143, (some .int), "when", [])
def bX10_when_0 (g : GE) (J : Nat → KT) : KT := i_aload 0 (i_iload 1 (i_cvX fX10_needThing g 1 9 (i_aload 0 (i_iload 2 (i_cvX fX10_needHeir g 1 9 (i_aload 0 (i_iload 3 (i_cvX fX10_needHeir g 1 9 (i_aload 0 (i_iload 4 (i_push (.int 1) (i_cvX fX10_needWhat g 2 9 (i_push (.int (-1)) (i_istore 5 (i_push (.int 0) (i_istore 6 (i_jmp [true, true, true, true, true, true, true, false] (J 1))))))))))))))))))
def bX10_when_1 (g : GE) (J : Nat → KT) : KT := i_iload 6 (i_aload 0 (i_getf 9 5 (i_getf 7 2 (i_icge (i_iload 5 (i_ireturn)) (i_aload 0 (i_getf 9 5 (i_iload 6 (i_iload 1 (i_cv fX7_ownerOf g 2 7 (i_iload 2 (i_icne (i_jmp [true, true, true, true, true, true, true, false] (J 3)) (i_aload 0 (i_getf 9 5 (i_iload 6 (i_iload 3 (i_cv fX7_coinOf g 2 7 (i_istore 7 (i_iload 5 (i_push (.int (-1)) (i_iceq (i_jmp [true, true, true, true, true, false, true, true] (J 2)) (i_iload 4 (i_ifne (i_iload 7 (i_iload 5 (i_icle (i_jmp [true, true, true, true, true, true, true, false] (J 3)) (i_jmp [true, true, true, true, true, false, true, true] (J 2))))) (i_iload 7 (i_iload 5 (i_icge (i_jmp [true, true, true, true, true, true, true, false] (J 3)) (i_jmp [true, true, true, true, true, false, true, true] (J 2)))))))))))))))))))))))))))
def bX10_when_2 (g : GE) (J : Nat → KT) : KT := i_iload 7 (i_istore 5 (i_jmp [true, true, true, true, true, true, true, false] (J 3)))
def bX10_when_3 (g : GE) (J : Nat → KT) : KT := i_iinc 6 1 (i_jmp [true, true, true, true, true, true, true, false] (J 1))
theorem sbX10_when_0 (g : GE) (J : Nat → KT) (h1 : Snd mX10_when g 28 (J 1)) (h2 : Snd mX10_when g 94 (J 2)) (h3 : Snd mX10_when g 98 (J 3)) : Snd mX10_when g 0 (bX10_when_0 g J) := by
  unfold bX10_when_0
  refine s_aload_n (pc := 0) (i := 0) ?_ dX10_when_0 rfl
  refine s_iload_n (pc := 1) (i := 1) ?_ dX10_when_1 rfl
  refine s_cvX (pc := 2) (n := 1) (ci := 9) ?_ tX10_needThing rfl rfl wt_1030 wt_1032 wp_36 wt_1 wt_1033 ⟨crX10_needThing, by decide, by decide⟩ rfl dX10_when_2
  refine s_aload_n (pc := 5) (i := 0) ?_ dX10_when_5 rfl
  refine s_iload_n (pc := 6) (i := 2) ?_ dX10_when_6 rfl
  refine s_cvX (pc := 7) (n := 1) (ci := 9) ?_ tX10_needHeir rfl rfl wt_1010 wt_1012 wp_35 wt_1 wt_1013 ⟨crX10_needHeir, by decide, by decide⟩ rfl dX10_when_7
  refine s_aload_n (pc := 10) (i := 0) ?_ dX10_when_10 rfl
  refine s_iload_n (pc := 11) (i := 3) ?_ dX10_when_11 rfl
  refine s_cvX (pc := 12) (n := 1) (ci := 9) ?_ tX10_needHeir rfl rfl wt_1010 wt_1012 wp_35 wt_1 wt_1013 ⟨crX10_needHeir, by decide, by decide⟩ rfl dX10_when_12
  refine s_aload_n (pc := 15) (i := 0) ?_ dX10_when_15 rfl
  refine s_iload (pc := 16) (i := 4) ?_ dX10_when_16
  refine s_iconst (pc := 18) (v := 1) ?_ dX10_when_18 (by decide)
  refine s_cvX (pc := 19) (n := 2) (ci := 9) ?_ tX10_needWhat rfl rfl wt_920 wt_922 wp_31 wt_1 wt_923 ⟨crX10_needWhat, by decide, by decide⟩ rfl dX10_when_19
  refine s_iconst (pc := 22) (v := (-1)) ?_ dX10_when_22 (by decide)
  refine s_istore (pc := 23) (i := 5) ?_ dX10_when_23 (by decide)
  refine s_iconst (pc := 25) (v := 0) ?_ dX10_when_25 (by decide)
  refine s_istore (pc := 26) (i := 6) ?_ dX10_when_26 (by decide)
  exact s_fall (pc := 28) h1
theorem sbX10_when_1 (g : GE) (J : Nat → KT) (h1 : Snd mX10_when g 28 (J 1)) (h2 : Snd mX10_when g 94 (J 2)) (h3 : Snd mX10_when g 98 (J 3)) : Snd mX10_when g 28 (bX10_when_1 g J) := by
  unfold bX10_when_1
  refine s_iload (pc := 28) (i := 6) ?_ dX10_when_28
  refine s_aload_n (pc := 30) (i := 0) ?_ dX10_when_30 rfl
  refine s_getf (pc := 31) (ci := 9) (f := 5) (T := TX10) ?_ ginX10 rfl (by decide) wt_459 dX10_when_31
  refine s_getf (pc := 34) (ci := 7) (f := 2) (T := TX7) ?_ ginX7 rfl (by decide) wt_340 dX10_when_34
  refine s_icge (pc := 37) (tgt := 104) ?_ ?_ dX10_when_37 (by decide)
  · skip
    refine s_iload (pc := 104) (i := 5) ?_ dX10_when_104
    exact s_ireturn (pc := 106) rfl dX10_when_106
  · skip
    refine s_aload_n (pc := 40) (i := 0) ?_ dX10_when_40 rfl
    refine s_getf (pc := 41) (ci := 9) (f := 5) (T := TX10) ?_ ginX10 rfl (by decide) wt_459 dX10_when_41
    refine s_iload (pc := 44) (i := 6) ?_ dX10_when_44
    refine s_iload_n (pc := 46) (i := 1) ?_ dX10_when_46 rfl
    refine s_cv (pc := 47) (n := 2) (ci := 7) ?_ tX7_ownerOf rfl rfl wt_1034 wt_594 wt_595 wt_8 wt_596 ⟨crX7_ownerOf, by decide, by decide⟩ dX10_when_47
    refine s_iload_n (pc := 50) (i := 2) ?_ dX10_when_50 rfl
    refine s_icne (pc := 51) (tgt := 98) ?_ ?_ dX10_when_51 (by decide)
    · skip
      exact s_fall (pc := 98) h3
    · skip
      refine s_aload_n (pc := 54) (i := 0) ?_ dX10_when_54 rfl
      refine s_getf (pc := 55) (ci := 9) (f := 5) (T := TX10) ?_ ginX10 rfl (by decide) wt_459 dX10_when_55
      refine s_iload (pc := 58) (i := 6) ?_ dX10_when_58
      refine s_iload_n (pc := 60) (i := 3) ?_ dX10_when_60 rfl
      refine s_cv (pc := 61) (n := 2) (ci := 7) ?_ tX7_coinOf rfl rfl wt_1014 wt_1015 wt_1016 wt_8 wt_1017 ⟨crX7_coinOf, by decide, by decide⟩ dX10_when_61
      refine s_istore (pc := 64) (i := 7) ?_ dX10_when_64 (by decide)
      refine s_iload (pc := 66) (i := 5) ?_ dX10_when_66
      refine s_iconst (pc := 68) (v := (-1)) ?_ dX10_when_68 (by decide)
      refine s_iceq (pc := 69) (tgt := 94) ?_ ?_ dX10_when_69 (by decide)
      · skip
        exact s_fall (pc := 94) h2
      · skip
        refine s_iload (pc := 72) (i := 4) ?_ dX10_when_72
        refine s_ifne (pc := 74) (tgt := 87) ?_ ?_ dX10_when_74 (by decide)
        · skip
          refine s_iload (pc := 87) (i := 7) ?_ dX10_when_87
          refine s_iload (pc := 89) (i := 5) ?_ dX10_when_89
          refine s_icle (pc := 91) (tgt := 98) ?_ ?_ dX10_when_91 (by decide)
          · skip
            exact s_fall (pc := 98) h3
          · skip
            exact s_fall (pc := 94) h2
        · skip
          refine s_iload (pc := 77) (i := 7) ?_ dX10_when_77
          refine s_iload (pc := 79) (i := 5) ?_ dX10_when_79
          refine s_icge (pc := 81) (tgt := 98) ?_ ?_ dX10_when_81 (by decide)
          · skip
            exact s_fall (pc := 98) h3
          · skip
            exact s_goto (pc := 84) (tgt := 94) h2 dX10_when_84 (by decide)
theorem sbX10_when_2 (g : GE) (J : Nat → KT) (h1 : Snd mX10_when g 28 (J 1)) (h2 : Snd mX10_when g 94 (J 2)) (h3 : Snd mX10_when g 98 (J 3)) : Snd mX10_when g 94 (bX10_when_2 g J) := by
  unfold bX10_when_2
  refine s_iload (pc := 94) (i := 7) ?_ dX10_when_94
  refine s_istore (pc := 96) (i := 5) ?_ dX10_when_96 (by decide)
  exact s_fall (pc := 98) h3
theorem sbX10_when_3 (g : GE) (J : Nat → KT) (h1 : Snd mX10_when g 28 (J 1)) (h2 : Snd mX10_when g 94 (J 2)) (h3 : Snd mX10_when g 98 (J 3)) : Snd mX10_when g 98 (bX10_when_3 g J) := by
  unfold bX10_when_3
  refine s_iinc (pc := 98) (i := 6) (v := 1) ?_ dX10_when_98 (by decide) (by decide)
  exact s_goto (pc := 101) (tgt := 28) h1 dX10_when_101 (by decide)
def jX10_when (g : GE) : Nat → Nat → KT
  | 0, _ => fun _ _ _ => none
  | n + 1, 0 => bX10_when_0 g (jX10_when g n)
  | n + 1, 1 => bX10_when_1 g (jX10_when g n)
  | n + 1, 2 => bX10_when_2 g (jX10_when g n)
  | n + 1, 3 => bX10_when_3 g (jX10_when g n)
  | _ + 1, _ + 4 => fun _ _ _ => none
theorem sjX10_when (g : GE) : ∀ n, Snd mX10_when g 0 (jX10_when g n 0) ∧ Snd mX10_when g 28 (jX10_when g n 1) ∧ Snd mX10_when g 94 (jX10_when g n 2) ∧ Snd mX10_when g 98 (jX10_when g n 3)
  | 0 => ⟨s_none, s_none, s_none, s_none⟩
  | n + 1 => by
    obtain ⟨-, h1, h2, h3⟩ := sjX10_when g n
    exact ⟨sbX10_when_0 g _ h1 h2 h3, sbX10_when_1 g _ h1 h2 h3, sbX10_when_2 g _ h1 h2 h3, sbX10_when_3 g _ h1 h2 h3⟩
def kX10_when (g : GE) : KT := jX10_when g g.1 0
theorem sX10_when (g : GE) : Snd mX10_when g 0 (kX10_when g) := (sjX10_when g g.1).1
def fX10_when : FT := fun g av w => if (ent av).length ≤ 8 then kX10_when g [] (entp 8 av) w else none
theorem tX10_when : Mt yX10_when cX10_when 8 (some .int) 8 143 fX10_when := Mt.of (K := kX10_when) (by decide +kernel) (fun _ _ _ => rfl) sX10_when
theorem crX10_when : yX10_when.cls ≠ "java/lang/invoke/MethodHandle" ∧ yX10_when.cls ≠ "java/lang/invoke/VarHandle" ∧ (parseMethodDescriptor yX10_when.desc).map (fun d => d.parameters.length) = some 4 := by decide +kernel
theorem dX10_worth_0 : decode cX10_worth 0 = .ok (.aload_n 0, 1) := by decide +kernel
theorem dX10_worth_1 : decode cX10_worth 1 = .ok (.iload_n 1, 1) := by decide +kernel
theorem dX10_worth_2 : decode cX10_worth 2 = .ok (.invokevirtual 166, 3) := by decide +kernel
theorem dX10_worth_5 : decode cX10_worth 5 = .ok (.aload_n 0, 1) := by decide +kernel
theorem dX10_worth_6 : decode cX10_worth 6 = .ok (.iload_n 2, 1) := by decide +kernel
theorem dX10_worth_7 : decode cX10_worth 7 = .ok (.iconst 3, 1) := by decide +kernel
theorem dX10_worth_8 : decode cX10_worth 8 = .ok (.invokevirtual 104, 3) := by decide +kernel
theorem dX10_worth_11 : decode cX10_worth 11 = .ok (.iload_n 2, 1) := by decide +kernel
theorem dX10_worth_12 : decode cX10_worth 12 = .ok (.ifCond .eq 8, 3) := by decide +kernel
theorem dX10_worth_15 : decode cX10_worth 15 = .ok (.iload_n 2, 1) := by decide +kernel
theorem dX10_worth_16 : decode cX10_worth 16 = .ok (.iconst 2, 1) := by decide +kernel
theorem dX10_worth_17 : decode cX10_worth 17 = .ok (.if_icmp .ne 14, 3) := by decide +kernel
theorem dX10_worth_20 : decode cX10_worth 20 = .ok (.aload_n 0, 1) := by decide +kernel
theorem dX10_worth_21 : decode cX10_worth 21 = .ok (.getfield 37, 3) := by decide +kernel
theorem dX10_worth_24 : decode cX10_worth 24 = .ok (.iload_n 1, 1) := by decide +kernel
theorem dX10_worth_25 : decode cX10_worth 25 = .ok (.invokevirtual 190, 3) := by decide +kernel
theorem dX10_worth_28 : decode cX10_worth 28 = .ok (.goto 11, 3) := by decide +kernel
theorem dX10_worth_31 : decode cX10_worth 31 = .ok (.aload_n 0, 1) := by decide +kernel
theorem dX10_worth_32 : decode cX10_worth 32 = .ok (.getfield 37, 3) := by decide +kernel
theorem dX10_worth_35 : decode cX10_worth 35 = .ok (.iload_n 1, 1) := by decide +kernel
theorem dX10_worth_36 : decode cX10_worth 36 = .ok (.invokevirtual 193, 3) := by decide +kernel
theorem dX10_worth_39 : decode cX10_worth 39 = .ok (.istore_n 3, 1) := by decide +kernel
theorem dX10_worth_40 : decode cX10_worth 40 = .ok (.iload_n 2, 1) := by decide +kernel
theorem dX10_worth_41 : decode cX10_worth 41 = .ok (.iconst 2, 1) := by decide +kernel
theorem dX10_worth_42 : decode cX10_worth 42 = .ok (.if_icmp .ge 20, 3) := by decide +kernel
theorem dX10_worth_45 : decode cX10_worth 45 = .ok (.iload_n 3, 1) := by decide +kernel
theorem dX10_worth_46 : decode cX10_worth 46 = .ok (.iconst (-1), 1) := by decide +kernel
theorem dX10_worth_47 : decode cX10_worth 47 = .ok (.if_icmp .eq 15, 3) := by decide +kernel
theorem dX10_worth_50 : decode cX10_worth 50 = .ok (.aload_n 0, 1) := by decide +kernel
theorem dX10_worth_51 : decode cX10_worth 51 = .ok (.getfield 37, 3) := by decide +kernel
theorem dX10_worth_54 : decode cX10_worth 54 = .ok (.iload_n 3, 1) := by decide +kernel
theorem dX10_worth_55 : decode cX10_worth 55 = .ok (.iload_n 1, 1) := by decide +kernel
theorem dX10_worth_56 : decode cX10_worth 56 = .ok (.invokevirtual 172, 3) := by decide +kernel
theorem dX10_worth_59 : decode cX10_worth 59 = .ok (.goto 4, 3) := by decide +kernel
theorem dX10_worth_62 : decode cX10_worth 62 = .ok (.iload_n 3, 1) := by decide +kernel
theorem dX10_worth_63 : decode cX10_worth 63 = .ok (.ireturn, 1) := by decide +kernel
abbrev mX10_worth : MD := (cX10_worth, "BlottedDeed", 4, 8, 143, (some .int), "worth", [])
def bX10_worth_0 (g : GE) (J : Nat → KT) : KT := i_aload 0 (i_iload 1 (i_cvX fX10_needHeir g 1 9 (i_aload 0 (i_iload 2 (i_push (.int 3) (i_cvX fX10_needWhat g 2 9 (i_iload 2 (i_ifeq (i_jmp [true, true, true, false] (J 1)) (i_iload 2 (i_push (.int 2) (i_icne (i_aload 0 (i_getf 9 5 (i_iload 1 (i_cv fX7_worstFor g 1 7 (i_jmp [true, true, true, false] (J 2)))))) (i_jmp [true, true, true, false] (J 1)))))))))))))
def bX10_worth_1 (g : GE) (J : Nat → KT) : KT := i_aload 0 (i_getf 9 5 (i_iload 1 (i_cv fX7_bestFor g 1 7 (i_jmp [true, true, true, false] (J 2)))))
def bX10_worth_2 (g : GE) (J : Nat → KT) : KT := i_istore 3 (i_iload 2 (i_push (.int 2) (i_icge (i_jmp [false, false, false, true] (J 3)) (i_iload 3 (i_push (.int (-1)) (i_iceq (i_jmp [false, false, false, true] (J 3)) (i_aload 0 (i_getf 9 5 (i_iload 3 (i_iload 1 (i_cv fX7_worthOf g 2 7 (i_jmp [false, false, false, false] (J 4)))))))))))))
def bX10_worth_3 (g : GE) (J : Nat → KT) : KT := i_iload 3 (i_jmp [false, false, false, false] (J 4))
def bX10_worth_4 (g : GE) (J : Nat → KT) : KT := i_ireturn
theorem sbX10_worth_0 (g : GE) (J : Nat → KT) (h1 : Snd mX10_worth g 20 (J 1)) (h2 : Snd mX10_worth g 39 (J 2)) (h3 : Snd mX10_worth g 62 (J 3)) (h4 : Snd mX10_worth g 63 (J 4)) : Snd mX10_worth g 0 (bX10_worth_0 g J) := by
  unfold bX10_worth_0
  refine s_aload_n (pc := 0) (i := 0) ?_ dX10_worth_0 rfl
  refine s_iload_n (pc := 1) (i := 1) ?_ dX10_worth_1 rfl
  refine s_cvX (pc := 2) (n := 1) (ci := 9) ?_ tX10_needHeir rfl rfl wt_1010 wt_1012 wp_35 wt_1 wt_1013 ⟨crX10_needHeir, by decide, by decide⟩ rfl dX10_worth_2
  refine s_aload_n (pc := 5) (i := 0) ?_ dX10_worth_5 rfl
  refine s_iload_n (pc := 6) (i := 2) ?_ dX10_worth_6 rfl
  refine s_iconst (pc := 7) (v := 3) ?_ dX10_worth_7 (by decide)
  refine s_cvX (pc := 8) (n := 2) (ci := 9) ?_ tX10_needWhat rfl rfl wt_920 wt_922 wp_31 wt_1 wt_923 ⟨crX10_needWhat, by decide, by decide⟩ rfl dX10_worth_8
  refine s_iload_n (pc := 11) (i := 2) ?_ dX10_worth_11 rfl
  refine s_ifeq (pc := 12) (tgt := 20) ?_ ?_ dX10_worth_12 (by decide)
  · skip
    exact s_fall (pc := 20) h1
  · skip
    refine s_iload_n (pc := 15) (i := 2) ?_ dX10_worth_15 rfl
    refine s_iconst (pc := 16) (v := 2) ?_ dX10_worth_16 (by decide)
    refine s_icne (pc := 17) (tgt := 31) ?_ ?_ dX10_worth_17 (by decide)
    · skip
      refine s_aload_n (pc := 31) (i := 0) ?_ dX10_worth_31 rfl
      refine s_getf (pc := 32) (ci := 9) (f := 5) (T := TX10) ?_ ginX10 rfl (by decide) wt_459 dX10_worth_32
      refine s_iload_n (pc := 35) (i := 1) ?_ dX10_worth_35 rfl
      refine s_cv (pc := 36) (n := 1) (ci := 7) ?_ tX7_worstFor rfl rfl wt_1077 wt_1078 wt_1079 wt_8 wt_1080 ⟨crX7_worstFor, by decide, by decide⟩ dX10_worth_36
      exact s_fall (pc := 39) h2
    · skip
      exact s_fall (pc := 20) h1
theorem sbX10_worth_1 (g : GE) (J : Nat → KT) (h1 : Snd mX10_worth g 20 (J 1)) (h2 : Snd mX10_worth g 39 (J 2)) (h3 : Snd mX10_worth g 62 (J 3)) (h4 : Snd mX10_worth g 63 (J 4)) : Snd mX10_worth g 20 (bX10_worth_1 g J) := by
  unfold bX10_worth_1
  refine s_aload_n (pc := 20) (i := 0) ?_ dX10_worth_20 rfl
  refine s_getf (pc := 21) (ci := 9) (f := 5) (T := TX10) ?_ ginX10 rfl (by decide) wt_459 dX10_worth_21
  refine s_iload_n (pc := 24) (i := 1) ?_ dX10_worth_24 rfl
  refine s_cv (pc := 25) (n := 1) (ci := 7) ?_ tX7_bestFor rfl rfl wt_1072 wt_1073 wt_1074 wt_8 wt_1075 ⟨crX7_bestFor, by decide, by decide⟩ dX10_worth_25
  exact s_goto (pc := 28) (tgt := 39) h2 dX10_worth_28 (by decide)
theorem sbX10_worth_2 (g : GE) (J : Nat → KT) (h1 : Snd mX10_worth g 20 (J 1)) (h2 : Snd mX10_worth g 39 (J 2)) (h3 : Snd mX10_worth g 62 (J 3)) (h4 : Snd mX10_worth g 63 (J 4)) : Snd mX10_worth g 39 (bX10_worth_2 g J) := by
  unfold bX10_worth_2
  refine s_istore_n (pc := 39) (i := 3) ?_ dX10_worth_39 rfl (by decide)
  refine s_iload_n (pc := 40) (i := 2) ?_ dX10_worth_40 rfl
  refine s_iconst (pc := 41) (v := 2) ?_ dX10_worth_41 (by decide)
  refine s_icge (pc := 42) (tgt := 62) ?_ ?_ dX10_worth_42 (by decide)
  · skip
    exact s_fall (pc := 62) h3
  · skip
    refine s_iload_n (pc := 45) (i := 3) ?_ dX10_worth_45 rfl
    refine s_iconst (pc := 46) (v := (-1)) ?_ dX10_worth_46 (by decide)
    refine s_iceq (pc := 47) (tgt := 62) ?_ ?_ dX10_worth_47 (by decide)
    · skip
      exact s_fall (pc := 62) h3
    · skip
      refine s_aload_n (pc := 50) (i := 0) ?_ dX10_worth_50 rfl
      refine s_getf (pc := 51) (ci := 9) (f := 5) (T := TX10) ?_ ginX10 rfl (by decide) wt_459 dX10_worth_51
      refine s_iload_n (pc := 54) (i := 3) ?_ dX10_worth_54 rfl
      refine s_iload_n (pc := 55) (i := 1) ?_ dX10_worth_55 rfl
      refine s_cv (pc := 56) (n := 2) (ci := 7) ?_ tX7_worthOf rfl rfl wt_1018 wt_1019 wt_1020 wt_8 wt_1021 ⟨crX7_worthOf, by decide, by decide⟩ dX10_worth_56
      exact s_goto (pc := 59) (tgt := 63) h4 dX10_worth_59 (by decide)
theorem sbX10_worth_3 (g : GE) (J : Nat → KT) (h1 : Snd mX10_worth g 20 (J 1)) (h2 : Snd mX10_worth g 39 (J 2)) (h3 : Snd mX10_worth g 62 (J 3)) (h4 : Snd mX10_worth g 63 (J 4)) : Snd mX10_worth g 62 (bX10_worth_3 g J) := by
  unfold bX10_worth_3
  refine s_iload_n (pc := 62) (i := 3) ?_ dX10_worth_62 rfl
  exact s_fall (pc := 63) h4
theorem sbX10_worth_4 (g : GE) (J : Nat → KT) (h1 : Snd mX10_worth g 20 (J 1)) (h2 : Snd mX10_worth g 39 (J 2)) (h3 : Snd mX10_worth g 62 (J 3)) (h4 : Snd mX10_worth g 63 (J 4)) : Snd mX10_worth g 63 (bX10_worth_4 g J) := by
  unfold bX10_worth_4
  exact s_ireturn (pc := 63) rfl dX10_worth_63
def jX10_worth (g : GE) : Nat → Nat → KT
  | 0, _ => fun _ _ _ => none
  | n + 1, 0 => bX10_worth_0 g (jX10_worth g n)
  | n + 1, 1 => bX10_worth_1 g (jX10_worth g n)
  | n + 1, 2 => bX10_worth_2 g (jX10_worth g n)
  | n + 1, 3 => bX10_worth_3 g (jX10_worth g n)
  | n + 1, 4 => bX10_worth_4 g (jX10_worth g n)
  | _ + 1, _ + 5 => fun _ _ _ => none
theorem sjX10_worth (g : GE) : ∀ n, Snd mX10_worth g 0 (jX10_worth g n 0) ∧ Snd mX10_worth g 20 (jX10_worth g n 1) ∧ Snd mX10_worth g 39 (jX10_worth g n 2) ∧ Snd mX10_worth g 62 (jX10_worth g n 3) ∧ Snd mX10_worth g 63 (jX10_worth g n 4)
  | 0 => ⟨s_none, s_none, s_none, s_none, s_none⟩
  | n + 1 => by
    obtain ⟨-, h1, h2, h3, h4⟩ := sjX10_worth g n
    exact ⟨sbX10_worth_0 g _ h1 h2 h3 h4, sbX10_worth_1 g _ h1 h2 h3 h4, sbX10_worth_2 g _ h1 h2 h3 h4, sbX10_worth_3 g _ h1 h2 h3 h4, sbX10_worth_4 g _ h1 h2 h3 h4⟩
def kX10_worth (g : GE) : KT := jX10_worth g g.1 0
theorem sX10_worth (g : GE) : Snd mX10_worth g 0 (kX10_worth g) := (sjX10_worth g g.1).1
def fX10_worth : FT := fun g av w => if (ent av).length ≤ 4 then kX10_worth g [] (entp 4 av) w else none
theorem tX10_worth : Mt yX10_worth cX10_worth 4 (some .int) 8 143 fX10_worth := Mt.of (K := kX10_worth) (by decide +kernel) (fun _ _ _ => rfl) sX10_worth
theorem crX10_worth : yX10_worth.cls ≠ "java/lang/invoke/MethodHandle" ∧ yX10_worth.cls ≠ "java/lang/invoke/VarHandle" ∧ (parseMethodDescriptor yX10_worth.desc).map (fun d => d.parameters.length) = some 2 := by decide +kernel
theorem dX11_in_0 : decode cX11_in 0 = .ok (.iload_n 0, 1) := by decide +kernel
theorem dX11_in_1 : decode cX11_in 1 = .ok (.iload_n 1, 1) := by decide +kernel
theorem dX11_in_2 : decode cX11_in 2 = .ok (.if_icmp .lt 12, 3) := by decide +kernel
theorem dX11_in_5 : decode cX11_in 5 = .ok (.iload_n 0, 1) := by decide +kernel
theorem dX11_in_6 : decode cX11_in 6 = .ok (.iload_n 2, 1) := by decide +kernel
theorem dX11_in_7 : decode cX11_in 7 = .ok (.if_icmp .gt 7, 3) := by decide +kernel
theorem dX11_in_10 : decode cX11_in 10 = .ok (.iconst 1, 1) := by decide +kernel
theorem dX11_in_11 : decode cX11_in 11 = .ok (.goto 4, 3) := by decide +kernel
theorem dX11_in_14 : decode cX11_in 14 = .ok (.iconst 0, 1) := by decide +kernel
theorem dX11_in_15 : decode cX11_in 15 = .ok (.ireturn, 1) := by decide +kernel
abbrev mX11_in : MD := (cX11_in, "BlottedDeedModel", 3, 1, 30, (some .boolean), "in", [])
def bX11_in_0 (g : GE) (J : Nat → KT) : KT := i_iload 0 (i_iload 1 (i_iclt (i_jmp [false, false, false] (J 1)) (i_iload 0 (i_iload 2 (i_icgt (i_jmp [false, false, false] (J 1)) (i_push (.int 1) (i_jmp [false, false, false] (J 2))))))))
def bX11_in_1 (g : GE) (J : Nat → KT) : KT := i_push (.int 0) (i_jmp [false, false, false] (J 2))
def bX11_in_2 (g : GE) (J : Nat → KT) : KT := i_zreturn
theorem sbX11_in_0 (g : GE) (J : Nat → KT) (h1 : Snd mX11_in g 14 (J 1)) (h2 : Snd mX11_in g 15 (J 2)) : Snd mX11_in g 0 (bX11_in_0 g J) := by
  unfold bX11_in_0
  refine s_iload_n (pc := 0) (i := 0) ?_ dX11_in_0 rfl
  refine s_iload_n (pc := 1) (i := 1) ?_ dX11_in_1 rfl
  refine s_iclt (pc := 2) (tgt := 14) ?_ ?_ dX11_in_2 (by decide)
  · skip
    exact s_fall (pc := 14) h1
  · skip
    refine s_iload_n (pc := 5) (i := 0) ?_ dX11_in_5 rfl
    refine s_iload_n (pc := 6) (i := 2) ?_ dX11_in_6 rfl
    refine s_icgt (pc := 7) (tgt := 14) ?_ ?_ dX11_in_7 (by decide)
    · skip
      exact s_fall (pc := 14) h1
    · skip
      refine s_iconst (pc := 10) (v := 1) ?_ dX11_in_10 (by decide)
      exact s_goto (pc := 11) (tgt := 15) h2 dX11_in_11 (by decide)
theorem sbX11_in_1 (g : GE) (J : Nat → KT) (h1 : Snd mX11_in g 14 (J 1)) (h2 : Snd mX11_in g 15 (J 2)) : Snd mX11_in g 14 (bX11_in_1 g J) := by
  unfold bX11_in_1
  refine s_iconst (pc := 14) (v := 0) ?_ dX11_in_14 (by decide)
  exact s_fall (pc := 15) h2
theorem sbX11_in_2 (g : GE) (J : Nat → KT) (h1 : Snd mX11_in g 14 (J 1)) (h2 : Snd mX11_in g 15 (J 2)) : Snd mX11_in g 15 (bX11_in_2 g J) := by
  unfold bX11_in_2
  exact s_zreturn (pc := 15) rfl dX11_in_15
def jX11_in (g : GE) : Nat → Nat → KT
  | 0, _ => fun _ _ _ => none
  | n + 1, 0 => bX11_in_0 g (jX11_in g n)
  | n + 1, 1 => bX11_in_1 g (jX11_in g n)
  | n + 1, 2 => bX11_in_2 g (jX11_in g n)
  | _ + 1, _ + 3 => fun _ _ _ => none
theorem sjX11_in (g : GE) : ∀ n, Snd mX11_in g 0 (jX11_in g n 0) ∧ Snd mX11_in g 14 (jX11_in g n 1) ∧ Snd mX11_in g 15 (jX11_in g n 2)
  | 0 => ⟨s_none, s_none, s_none⟩
  | n + 1 => by
    obtain ⟨-, h1, h2⟩ := sjX11_in g n
    exact ⟨sbX11_in_0 g _ h1 h2, sbX11_in_1 g _ h1 h2, sbX11_in_2 g _ h1 h2⟩
def kX11_in (g : GE) : KT := jX11_in g g.1 0
theorem sX11_in (g : GE) : Snd mX11_in g 0 (kX11_in g) := (sjX11_in g g.1).1
def fX11_in : FT := fun g av w => if (ent av).length ≤ 3 then kX11_in g [] (entp 3 av) w else none
theorem tX11_in : Mt yX11_in cX11_in 3 (some .boolean) 1 30 fX11_in := Mt.of (K := kX11_in) (by decide +kernel) (fun _ _ _ => rfl) sX11_in
theorem crX11_in : yX11_in.cls ≠ "java/lang/invoke/MethodHandle" ∧ yX11_in.cls ≠ "java/lang/invoke/VarHandle" ∧ (parseMethodDescriptor yX11_in.desc).map (fun d => d.parameters.length) = some 3 := by decide +kernel
theorem dX11_isBlot_0 : decode cX11_isBlot 0 = .ok (.iload_n 1, 1) := by decide +kernel
theorem dX11_isBlot_1 : decode cX11_isBlot 1 = .ok (.iconst 0, 1) := by decide +kernel
theorem dX11_isBlot_2 : decode cX11_isBlot 2 = .ok (.aload_n 0, 1) := by decide +kernel
theorem dX11_isBlot_3 : decode cX11_isBlot 3 = .ok (.getfield 23, 3) := by decide +kernel
theorem dX11_isBlot_6 : decode cX11_isBlot 6 = .ok (.iconst 3, 1) := by decide +kernel
theorem dX11_isBlot_7 : decode cX11_isBlot 7 = .ok (.iaload, 1) := by decide +kernel
theorem dX11_isBlot_8 : decode cX11_isBlot 8 = .ok (.iconst 1, 1) := by decide +kernel
theorem dX11_isBlot_9 : decode cX11_isBlot 9 = .ok (.isub, 1) := by decide +kernel
theorem dX11_isBlot_10 : decode cX11_isBlot 10 = .ok (.invokestatic 154, 3) := by decide +kernel
theorem dX11_isBlot_13 : decode cX11_isBlot 13 = .ok (.ireturn, 1) := by decide +kernel
abbrev mX11_isBlot : MD := (cX11_isBlot, "BlottedDeedModel", 2, 2, 52, (some .boolean), "isBlot", [])
def bX11_isBlot_0 (g : GE) (J : Nat → KT) : KT := i_iload 1 (i_push (.int 0) (i_aload 0 (i_getf 10 11 (i_push (.int 3) (i_iaload (i_push (.int 1) (i_isub (i_cs fX11_in g 3 (i_zreturn)))))))))
theorem sbX11_isBlot_0 (g : GE) (J : Nat → KT)  : Snd mX11_isBlot g 0 (bX11_isBlot_0 g J) := by
  unfold bX11_isBlot_0
  refine s_iload_n (pc := 0) (i := 1) ?_ dX11_isBlot_0 rfl
  refine s_iconst (pc := 1) (v := 0) ?_ dX11_isBlot_1 (by decide)
  refine s_aload_n (pc := 2) (i := 0) ?_ dX11_isBlot_2 rfl
  refine s_getf (pc := 3) (ci := 10) (f := 11) (T := TX11) ?_ ginX11 rfl (by decide) wt_1404 dX11_isBlot_3
  refine s_iconst (pc := 6) (v := 3) ?_ dX11_isBlot_6 (by decide)
  refine s_iaload (pc := 7) ?_ dX11_isBlot_7
  refine s_iconst (pc := 8) (v := 1) ?_ dX11_isBlot_8 (by decide)
  refine s_isub (pc := 9) ?_ dX11_isBlot_9
  refine s_cs (pc := 10) (n := 3) ?_ tX11_in wt_1557 wt_1558 wt_17 wt_1559 ⟨crX11_in, by decide, by decide⟩ dX11_isBlot_10
  exact s_zreturn (pc := 13) rfl dX11_isBlot_13
def kX11_isBlot (g : GE) : KT := bX11_isBlot_0 g (fun _ _ _ _ => none)
theorem sX11_isBlot (g : GE) : Snd mX11_isBlot g 0 (kX11_isBlot g) := sbX11_isBlot_0 g _
def fX11_isBlot : FT := fun g av w => if (ent av).length ≤ 2 then kX11_isBlot g [] (entp 2 av) w else none
theorem tX11_isBlot : Mt yX11_isBlot cX11_isBlot 2 (some .boolean) 2 52 fX11_isBlot := Mt.of (K := kX11_isBlot) (by decide +kernel) (fun _ _ _ => rfl) sX11_isBlot
theorem crX11_isBlot : yX11_isBlot.cls ≠ "java/lang/invoke/MethodHandle" ∧ yX11_isBlot.cls ≠ "java/lang/invoke/VarHandle" ∧ (parseMethodDescriptor yX11_isBlot.desc).map (fun d => d.parameters.length) = some 1 := by decide +kernel
theorem dX11_bad_0 : decode cX11_bad 0 = .ok (.iload_n 1, 1) := by decide +kernel
theorem dX11_bad_1 : decode cX11_bad 1 = .ok (.ifCond .eq 25, 3) := by decide +kernel
theorem dX11_bad_4 : decode cX11_bad 4 = .ok (.aload_n 0, 1) := by decide +kernel
theorem dX11_bad_5 : decode cX11_bad 5 = .ok (.getfield 120, 3) := by decide +kernel
theorem dX11_bad_8 : decode cX11_bad 8 = .ok (.ifCond .ne 18, 3) := by decide +kernel
theorem dX11_bad_11 : decode cX11_bad 11 = .ok (.aload_n 0, 1) := by decide +kernel
theorem dX11_bad_12 : decode cX11_bad 12 = .ok (.iload_n 2, 1) := by decide +kernel
theorem dX11_bad_13 : decode cX11_bad 13 = .ok (.putfield 120, 3) := by decide +kernel
theorem dX11_bad_16 : decode cX11_bad 16 = .ok (.aload_n 0, 1) := by decide +kernel
theorem dX11_bad_17 : decode cX11_bad 17 = .ok (.getfield 17, 3) := by decide +kernel
theorem dX11_bad_20 : decode cX11_bad 20 = .ok (.iload_n 3, 1) := by decide +kernel
theorem dX11_bad_21 : decode cX11_bad 21 = .ok (.dup2, 1) := by decide +kernel
theorem dX11_bad_22 : decode cX11_bad 22 = .ok (.iaload, 1) := by decide +kernel
theorem dX11_bad_23 : decode cX11_bad 23 = .ok (.iconst 1, 1) := by decide +kernel
theorem dX11_bad_24 : decode cX11_bad 24 = .ok (.iadd, 1) := by decide +kernel
theorem dX11_bad_25 : decode cX11_bad 25 = .ok (.iastore, 1) := by decide +kernel
theorem dX11_bad_26 : decode cX11_bad 26 = .ok (.aload_n 0, 1) := by decide +kernel
theorem dX11_bad_27 : decode cX11_bad 27 = .ok (.getfield 120, 3) := by decide +kernel
theorem dX11_bad_30 : decode cX11_bad 30 = .ok (.ifCond .eq 7, 3) := by decide +kernel
theorem dX11_bad_33 : decode cX11_bad 33 = .ok (.iconst 1, 1) := by decide +kernel
theorem dX11_bad_34 : decode cX11_bad 34 = .ok (.goto 4, 3) := by decide +kernel
theorem dX11_bad_37 : decode cX11_bad 37 = .ok (.iconst 0, 1) := by decide +kernel
theorem dX11_bad_38 : decode cX11_bad 38 = .ok (.ireturn, 1) := by decide +kernel
abbrev mX11_bad : MD := (cX11_bad, "BlottedDeedModel", 4, 1, 30, (some .boolean), "bad", [])
def bX11_bad_0 (g : GE) (J : Nat → KT) : KT := i_iload 1 (i_ifeq (i_jmp [true, false, false, false] (J 1)) (i_aload 0 (i_getf 10 0 (i_ifne (i_jmp [true, false, false, false] (J 1)) (i_aload 0 (i_iload 2 (i_putf 10 0 .int (i_aload 0 (i_getf 10 9 (i_iload 3 (i_dup2 (i_iaload (i_push (.int 1) (i_iadd (i_iastore (i_jmp [true, false, false, false] (J 1)))))))))))))))))
def bX11_bad_1 (g : GE) (J : Nat → KT) : KT := i_aload 0 (i_getf 10 0 (i_ifeq (i_push (.int 0) (i_jmp [false, false, false, false] (J 2))) (i_push (.int 1) (i_jmp [false, false, false, false] (J 2)))))
def bX11_bad_2 (g : GE) (J : Nat → KT) : KT := i_zreturn
theorem sbX11_bad_0 (g : GE) (J : Nat → KT) (h1 : Snd mX11_bad g 26 (J 1)) (h2 : Snd mX11_bad g 38 (J 2)) : Snd mX11_bad g 0 (bX11_bad_0 g J) := by
  unfold bX11_bad_0
  refine s_iload_n (pc := 0) (i := 1) ?_ dX11_bad_0 rfl
  refine s_ifeq (pc := 1) (tgt := 26) ?_ ?_ dX11_bad_1 (by decide)
  · skip
    exact s_fall (pc := 26) h1
  · skip
    refine s_aload_n (pc := 4) (i := 0) ?_ dX11_bad_4 rfl
    refine s_getf (pc := 5) (ci := 10) (f := 0) (T := TX11) ?_ ginX11 rfl (by decide) wt_1393 dX11_bad_5
    refine s_ifne (pc := 8) (tgt := 26) ?_ ?_ dX11_bad_8 (by decide)
    · skip
      exact s_fall (pc := 26) h1
    · skip
      refine s_aload_n (pc := 11) (i := 0) ?_ dX11_bad_11 rfl
      refine s_iload_n (pc := 12) (i := 2) ?_ dX11_bad_12 rfl
      refine s_putf (pc := 13) (ci := 10) (f := 0) (T := TX11) (ty0 := tyX11) ?_ ginX11 tyX11_ok nmX11 rfl (by decide) rfl rfl wt_1393 dX11_bad_13
      refine s_aload_n (pc := 16) (i := 0) ?_ dX11_bad_16 rfl
      refine s_getf (pc := 17) (ci := 10) (f := 9) (T := TX11) ?_ ginX11 rfl (by decide) wt_1402 dX11_bad_17
      refine s_iload_n (pc := 20) (i := 3) ?_ dX11_bad_20 rfl
      refine s_dup2 (pc := 21) ?_ dX11_bad_21
      refine s_iaload (pc := 22) ?_ dX11_bad_22
      refine s_iconst (pc := 23) (v := 1) ?_ dX11_bad_23 (by decide)
      refine s_iadd (pc := 24) ?_ dX11_bad_24
      refine s_iastore (pc := 25) ?_ dX11_bad_25
      exact s_fall (pc := 26) h1
theorem sbX11_bad_1 (g : GE) (J : Nat → KT) (h1 : Snd mX11_bad g 26 (J 1)) (h2 : Snd mX11_bad g 38 (J 2)) : Snd mX11_bad g 26 (bX11_bad_1 g J) := by
  unfold bX11_bad_1
  refine s_aload_n (pc := 26) (i := 0) ?_ dX11_bad_26 rfl
  refine s_getf (pc := 27) (ci := 10) (f := 0) (T := TX11) ?_ ginX11 rfl (by decide) wt_1393 dX11_bad_27
  refine s_ifeq (pc := 30) (tgt := 37) ?_ ?_ dX11_bad_30 (by decide)
  · skip
    refine s_iconst (pc := 37) (v := 0) ?_ dX11_bad_37 (by decide)
    exact s_fall (pc := 38) h2
  · skip
    refine s_iconst (pc := 33) (v := 1) ?_ dX11_bad_33 (by decide)
    exact s_goto (pc := 34) (tgt := 38) h2 dX11_bad_34 (by decide)
theorem sbX11_bad_2 (g : GE) (J : Nat → KT) (h1 : Snd mX11_bad g 26 (J 1)) (h2 : Snd mX11_bad g 38 (J 2)) : Snd mX11_bad g 38 (bX11_bad_2 g J) := by
  unfold bX11_bad_2
  exact s_zreturn (pc := 38) rfl dX11_bad_38
def jX11_bad (g : GE) : Nat → Nat → KT
  | 0, _ => fun _ _ _ => none
  | n + 1, 0 => bX11_bad_0 g (jX11_bad g n)
  | n + 1, 1 => bX11_bad_1 g (jX11_bad g n)
  | n + 1, 2 => bX11_bad_2 g (jX11_bad g n)
  | _ + 1, _ + 3 => fun _ _ _ => none
theorem sjX11_bad (g : GE) : ∀ n, Snd mX11_bad g 0 (jX11_bad g n 0) ∧ Snd mX11_bad g 26 (jX11_bad g n 1) ∧ Snd mX11_bad g 38 (jX11_bad g n 2)
  | 0 => ⟨s_none, s_none, s_none⟩
  | n + 1 => by
    obtain ⟨-, h1, h2⟩ := sjX11_bad g n
    exact ⟨sbX11_bad_0 g _ h1 h2, sbX11_bad_1 g _ h1 h2, sbX11_bad_2 g _ h1 h2⟩
def kX11_bad (g : GE) : KT := jX11_bad g g.1 0
theorem sX11_bad (g : GE) : Snd mX11_bad g 0 (kX11_bad g) := (sjX11_bad g g.1).1
def fX11_bad : FT := fun g av w => if (ent av).length ≤ 4 then kX11_bad g [] (entp 4 av) w else none
theorem tX11_bad : Mt yX11_bad cX11_bad 4 (some .boolean) 1 30 fX11_bad := Mt.of (K := kX11_bad) (by decide +kernel) (fun _ _ _ => rfl) sX11_bad
theorem crX11_bad : yX11_bad.cls ≠ "java/lang/invoke/MethodHandle" ∧ yX11_bad.cls ≠ "java/lang/invoke/VarHandle" ∧ (parseMethodDescriptor yX11_bad.desc).map (fun d => d.parameters.length) = some 3 := by decide +kernel
theorem dX11_digit_0 : decode cX11_digit 0 = .ok (.iload_n 1, 1) := by decide +kernel
theorem dX11_digit_1 : decode cX11_digit 1 = .ok (.istore_n 3, 1) := by decide +kernel
theorem dX11_digit_2 : decode cX11_digit 2 = .ok (.aload_n 0, 1) := by decide +kernel
theorem dX11_digit_3 : decode cX11_digit 3 = .ok (.getfield 23, 3) := by decide +kernel
theorem dX11_digit_6 : decode cX11_digit 6 = .ok (.iconst 3, 1) := by decide +kernel
theorem dX11_digit_7 : decode cX11_digit 7 = .ok (.iaload, 1) := by decide +kernel
theorem dX11_digit_8 : decode cX11_digit 8 = .ok (.iconst 1, 1) := by decide +kernel
theorem dX11_digit_9 : decode cX11_digit 9 = .ok (.isub, 1) := by decide +kernel
theorem dX11_digit_10 : decode cX11_digit 10 = .ok (.istore 4, 2) := by decide +kernel
theorem dX11_digit_12 : decode cX11_digit 12 = .ok (.iload 4, 2) := by decide +kernel
theorem dX11_digit_14 : decode cX11_digit 14 = .ok (.iload_n 2, 1) := by decide +kernel
theorem dX11_digit_15 : decode cX11_digit 15 = .ok (.if_icmp .le 21, 3) := by decide +kernel
theorem dX11_digit_18 : decode cX11_digit 18 = .ok (.iload_n 3, 1) := by decide +kernel
theorem dX11_digit_19 : decode cX11_digit 19 = .ok (.aload_n 0, 1) := by decide +kernel
theorem dX11_digit_20 : decode cX11_digit 20 = .ok (.getfield 65, 3) := by decide +kernel
theorem dX11_digit_23 : decode cX11_digit 23 = .ok (.iload 4, 2) := by decide +kernel
theorem dX11_digit_25 : decode cX11_digit 25 = .ok (.aaload, 1) := by decide +kernel
theorem dX11_digit_26 : decode cX11_digit 26 = .ok (.iconst 2, 1) := by decide +kernel
theorem dX11_digit_27 : decode cX11_digit 27 = .ok (.iaload, 1) := by decide +kernel
theorem dX11_digit_28 : decode cX11_digit 28 = .ok (.idiv, 1) := by decide +kernel
theorem dX11_digit_29 : decode cX11_digit 29 = .ok (.istore_n 3, 1) := by decide +kernel
theorem dX11_digit_30 : decode cX11_digit 30 = .ok (.iinc 4 (-1), 3) := by decide +kernel
theorem dX11_digit_33 : decode cX11_digit 33 = .ok (.goto (-21), 3) := by decide +kernel
theorem dX11_digit_36 : decode cX11_digit 36 = .ok (.iload_n 3, 1) := by decide +kernel
theorem dX11_digit_37 : decode cX11_digit 37 = .ok (.aload_n 0, 1) := by decide +kernel
theorem dX11_digit_38 : decode cX11_digit 38 = .ok (.getfield 65, 3) := by decide +kernel
theorem dX11_digit_41 : decode cX11_digit 41 = .ok (.iload_n 2, 1) := by decide +kernel
theorem dX11_digit_42 : decode cX11_digit 42 = .ok (.aaload, 1) := by decide +kernel
theorem dX11_digit_43 : decode cX11_digit 43 = .ok (.iconst 2, 1) := by decide +kernel
theorem dX11_digit_44 : decode cX11_digit 44 = .ok (.iaload, 1) := by decide +kernel
theorem dX11_digit_45 : decode cX11_digit 45 = .ok (.irem, 1) := by decide +kernel
theorem dX11_digit_46 : decode cX11_digit 46 = .ok (.ireturn, 1) := by decide +kernel
abbrev mX11_digit : MD := (cX11_digit, "BlottedDeedModel", 5, 1, 30, (some .int), "digit", [])
def bX11_digit_0 (g : GE) (J : Nat → KT) : KT := i_iload 1 (i_istore 3 (i_aload 0 (i_getf 10 11 (i_push (.int 3) (i_iaload (i_push (.int 1) (i_isub (i_istore 4 (i_jmp [true, false, true, true, true] (J 1))))))))))
def bX11_digit_1 (g : GE) (J : Nat → KT) : KT := i_iload 4 (i_iload 2 (i_icle (i_iload 3 (i_aload 0 (i_getf 10 24 (i_iload 2 (i_aaload 4 (i_push (.int 2) (i_iaload (i_irem (i_ireturn))))))))) (i_iload 3 (i_aload 0 (i_getf 10 24 (i_iload 4 (i_aaload 4 (i_push (.int 2) (i_iaload (i_idiv (i_istore 3 (i_iinc 4 (-1) (i_jmp [true, false, true, true, true] (J 1))))))))))))))
theorem sbX11_digit_0 (g : GE) (J : Nat → KT) (h1 : Snd mX11_digit g 12 (J 1)) : Snd mX11_digit g 0 (bX11_digit_0 g J) := by
  unfold bX11_digit_0
  refine s_iload_n (pc := 0) (i := 1) ?_ dX11_digit_0 rfl
  refine s_istore_n (pc := 1) (i := 3) ?_ dX11_digit_1 rfl (by decide)
  refine s_aload_n (pc := 2) (i := 0) ?_ dX11_digit_2 rfl
  refine s_getf (pc := 3) (ci := 10) (f := 11) (T := TX11) ?_ ginX11 rfl (by decide) wt_1404 dX11_digit_3
  refine s_iconst (pc := 6) (v := 3) ?_ dX11_digit_6 (by decide)
  refine s_iaload (pc := 7) ?_ dX11_digit_7
  refine s_iconst (pc := 8) (v := 1) ?_ dX11_digit_8 (by decide)
  refine s_isub (pc := 9) ?_ dX11_digit_9
  refine s_istore (pc := 10) (i := 4) ?_ dX11_digit_10 (by decide)
  exact s_fall (pc := 12) h1
theorem sbX11_digit_1 (g : GE) (J : Nat → KT) (h1 : Snd mX11_digit g 12 (J 1)) : Snd mX11_digit g 12 (bX11_digit_1 g J) := by
  unfold bX11_digit_1
  refine s_iload (pc := 12) (i := 4) ?_ dX11_digit_12
  refine s_iload_n (pc := 14) (i := 2) ?_ dX11_digit_14 rfl
  refine s_icle (pc := 15) (tgt := 36) ?_ ?_ dX11_digit_15 (by decide)
  · skip
    refine s_iload_n (pc := 36) (i := 3) ?_ dX11_digit_36 rfl
    refine s_aload_n (pc := 37) (i := 0) ?_ dX11_digit_37 rfl
    refine s_getf (pc := 38) (ci := 10) (f := 24) (T := TX11) ?_ ginX11 rfl (by decide) wt_1417 dX11_digit_38
    refine s_iload_n (pc := 41) (i := 2) ?_ dX11_digit_41 rfl
    refine s_aaload (pc := 42) (t := 4) ?_ (by decide) rfl dX11_digit_42
    refine s_iconst (pc := 43) (v := 2) ?_ dX11_digit_43 (by decide)
    refine s_iaload (pc := 44) ?_ dX11_digit_44
    refine s_irem (pc := 45) ?_ dX11_digit_45
    exact s_ireturn (pc := 46) rfl dX11_digit_46
  · skip
    refine s_iload_n (pc := 18) (i := 3) ?_ dX11_digit_18 rfl
    refine s_aload_n (pc := 19) (i := 0) ?_ dX11_digit_19 rfl
    refine s_getf (pc := 20) (ci := 10) (f := 24) (T := TX11) ?_ ginX11 rfl (by decide) wt_1417 dX11_digit_20
    refine s_iload (pc := 23) (i := 4) ?_ dX11_digit_23
    refine s_aaload (pc := 25) (t := 4) ?_ (by decide) rfl dX11_digit_25
    refine s_iconst (pc := 26) (v := 2) ?_ dX11_digit_26 (by decide)
    refine s_iaload (pc := 27) ?_ dX11_digit_27
    refine s_idiv (pc := 28) ?_ dX11_digit_28
    refine s_istore_n (pc := 29) (i := 3) ?_ dX11_digit_29 rfl (by decide)
    refine s_iinc (pc := 30) (i := 4) (v := (-1)) ?_ dX11_digit_30 (by decide) (by decide)
    exact s_goto (pc := 33) (tgt := 12) h1 dX11_digit_33 (by decide)
def jX11_digit (g : GE) : Nat → Nat → KT
  | 0, _ => fun _ _ _ => none
  | n + 1, 0 => bX11_digit_0 g (jX11_digit g n)
  | n + 1, 1 => bX11_digit_1 g (jX11_digit g n)
  | _ + 1, _ + 2 => fun _ _ _ => none
theorem sjX11_digit (g : GE) : ∀ n, Snd mX11_digit g 0 (jX11_digit g n 0) ∧ Snd mX11_digit g 12 (jX11_digit g n 1)
  | 0 => ⟨s_none, s_none⟩
  | n + 1 => by
    obtain ⟨-, h1⟩ := sjX11_digit g n
    exact ⟨sbX11_digit_0 g _ h1, sbX11_digit_1 g _ h1⟩
def kX11_digit (g : GE) : KT := jX11_digit g g.1 0
theorem sX11_digit (g : GE) : Snd mX11_digit g 0 (kX11_digit g) := (sjX11_digit g g.1).1
def fX11_digit : FT := fun g av w => if (ent av).length ≤ 5 then kX11_digit g [] (entp 5 av) w else none
theorem tX11_digit : Mt yX11_digit cX11_digit 5 (some .int) 1 30 fX11_digit := Mt.of (K := kX11_digit) (by decide +kernel) (fun _ _ _ => rfl) sX11_digit
theorem crX11_digit : yX11_digit.cls ≠ "java/lang/invoke/MethodHandle" ∧ yX11_digit.cls ≠ "java/lang/invoke/VarHandle" ∧ (parseMethodDescriptor yX11_digit.desc).map (fun d => d.parameters.length) = some 2 := by decide +kernel
theorem dX11_laysHeld_0 : decode cX11_laysHeld 0 = .ok (.iconst 0, 1) := by decide +kernel
theorem dX11_laysHeld_1 : decode cX11_laysHeld 1 = .ok (.istore_n 2, 1) := by decide +kernel
theorem dX11_laysHeld_2 : decode cX11_laysHeld 2 = .ok (.iload_n 2, 1) := by decide +kernel
theorem dX11_laysHeld_3 : decode cX11_laysHeld 3 = .ok (.bipush 100, 2) := by decide +kernel
theorem dX11_laysHeld_5 : decode cX11_laysHeld 5 = .ok (.if_icmp .ge 16, 3) := by decide +kernel
theorem dX11_laysHeld_8 : decode cX11_laysHeld 8 = .ok (.aload_n 0, 1) := by decide +kernel
theorem dX11_laysHeld_9 : decode cX11_laysHeld 9 = .ok (.getfield 104, 3) := by decide +kernel
theorem dX11_laysHeld_12 : decode cX11_laysHeld 12 = .ok (.iload_n 2, 1) := by decide +kernel
theorem dX11_laysHeld_13 : decode cX11_laysHeld 13 = .ok (.iconst 0, 1) := by decide +kernel
theorem dX11_laysHeld_14 : decode cX11_laysHeld 14 = .ok (.iastore, 1) := by decide +kernel
theorem dX11_laysHeld_15 : decode cX11_laysHeld 15 = .ok (.iinc 2 1, 3) := by decide +kernel
theorem dX11_laysHeld_18 : decode cX11_laysHeld 18 = .ok (.goto (-16), 3) := by decide +kernel
theorem dX11_laysHeld_21 : decode cX11_laysHeld 21 = .ok (.iconst 0, 1) := by decide +kernel
theorem dX11_laysHeld_22 : decode cX11_laysHeld 22 = .ok (.istore_n 2, 1) := by decide +kernel
theorem dX11_laysHeld_23 : decode cX11_laysHeld 23 = .ok (.iload_n 2, 1) := by decide +kernel
theorem dX11_laysHeld_24 : decode cX11_laysHeld 24 = .ok (.aload_n 0, 1) := by decide +kernel
theorem dX11_laysHeld_25 : decode cX11_laysHeld 25 = .ok (.getfield 244, 3) := by decide +kernel
theorem dX11_laysHeld_28 : decode cX11_laysHeld 28 = .ok (.if_icmp .ge 29, 3) := by decide +kernel
theorem dX11_laysHeld_31 : decode cX11_laysHeld 31 = .ok (.aload_n 0, 1) := by decide +kernel
theorem dX11_laysHeld_32 : decode cX11_laysHeld 32 = .ok (.getfield 104, 3) := by decide +kernel
theorem dX11_laysHeld_35 : decode cX11_laysHeld 35 = .ok (.aload_n 0, 1) := by decide +kernel
theorem dX11_laysHeld_36 : decode cX11_laysHeld 36 = .ok (.aload_n 0, 1) := by decide +kernel
theorem dX11_laysHeld_37 : decode cX11_laysHeld 37 = .ok (.getfield 74, 3) := by decide +kernel
theorem dX11_laysHeld_40 : decode cX11_laysHeld 40 = .ok (.iload_n 2, 1) := by decide +kernel
theorem dX11_laysHeld_41 : decode cX11_laysHeld 41 = .ok (.iaload, 1) := by decide +kernel
theorem dX11_laysHeld_42 : decode cX11_laysHeld 42 = .ok (.iload_n 1, 1) := by decide +kernel
theorem dX11_laysHeld_43 : decode cX11_laysHeld 43 = .ok (.invokevirtual 256, 3) := by decide +kernel
theorem dX11_laysHeld_46 : decode cX11_laysHeld 46 = .ok (.dup2, 1) := by decide +kernel
theorem dX11_laysHeld_47 : decode cX11_laysHeld 47 = .ok (.iaload, 1) := by decide +kernel
theorem dX11_laysHeld_48 : decode cX11_laysHeld 48 = .ok (.iconst 1, 1) := by decide +kernel
theorem dX11_laysHeld_49 : decode cX11_laysHeld 49 = .ok (.iadd, 1) := by decide +kernel
theorem dX11_laysHeld_50 : decode cX11_laysHeld 50 = .ok (.iastore, 1) := by decide +kernel
theorem dX11_laysHeld_51 : decode cX11_laysHeld 51 = .ok (.iinc 2 1, 3) := by decide +kernel
theorem dX11_laysHeld_54 : decode cX11_laysHeld 54 = .ok (.goto (-31), 3) := by decide +kernel
theorem dX11_laysHeld_57 : decode cX11_laysHeld 57 = .ok (.return_, 1) := by decide +kernel
abbrev mX11_laysHeld : MD := (cX11_laysHeld, "BlottedDeedModel", 3, 2, 54, none, "laysHeld", [])
def bX11_laysHeld_0 (g : GE) (J : Nat → KT) : KT := i_push (.int 0) (i_istore 2 (i_jmp [true, true, true] (J 1)))
def bX11_laysHeld_1 (g : GE) (J : Nat → KT) : KT := i_iload 2 (i_push (.int 100) (i_icge (i_push (.int 0) (i_istore 2 (i_jmp [true, true, true] (J 2)))) (i_aload 0 (i_getf 10 43 (i_iload 2 (i_push (.int 0) (i_iastore (i_iinc 2 1 (i_jmp [true, true, true] (J 1))))))))))
def bX11_laysHeld_2 (g : GE) (J : Nat → KT) : KT := i_iload 2 (i_aload 0 (i_getf 10 27 (i_icge (i_return) (i_aload 0 (i_getf 10 43 (i_aload 0 (i_aload 0 (i_getf 10 28 (i_iload 2 (i_iaload (i_iload 1 (i_cv fX11_digit g 2 10 (i_dup2 (i_iaload (i_push (.int 1) (i_iadd (i_iastore (i_iinc 2 1 (i_jmp [true, true, true] (J 2))))))))))))))))))))
theorem sbX11_laysHeld_0 (g : GE) (J : Nat → KT) (h1 : Snd mX11_laysHeld g 2 (J 1)) (h2 : Snd mX11_laysHeld g 23 (J 2)) : Snd mX11_laysHeld g 0 (bX11_laysHeld_0 g J) := by
  unfold bX11_laysHeld_0
  refine s_iconst (pc := 0) (v := 0) ?_ dX11_laysHeld_0 (by decide)
  refine s_istore_n (pc := 1) (i := 2) ?_ dX11_laysHeld_1 rfl (by decide)
  exact s_fall (pc := 2) h1
theorem sbX11_laysHeld_1 (g : GE) (J : Nat → KT) (h1 : Snd mX11_laysHeld g 2 (J 1)) (h2 : Snd mX11_laysHeld g 23 (J 2)) : Snd mX11_laysHeld g 2 (bX11_laysHeld_1 g J) := by
  unfold bX11_laysHeld_1
  refine s_iload_n (pc := 2) (i := 2) ?_ dX11_laysHeld_2 rfl
  refine s_bipush (pc := 3) (v := 100) ?_ dX11_laysHeld_3 (by decide)
  refine s_icge (pc := 5) (tgt := 21) ?_ ?_ dX11_laysHeld_5 (by decide)
  · skip
    refine s_iconst (pc := 21) (v := 0) ?_ dX11_laysHeld_21 (by decide)
    refine s_istore_n (pc := 22) (i := 2) ?_ dX11_laysHeld_22 rfl (by decide)
    exact s_fall (pc := 23) h2
  · skip
    refine s_aload_n (pc := 8) (i := 0) ?_ dX11_laysHeld_8 rfl
    refine s_getf (pc := 9) (ci := 10) (f := 43) (T := TX11) ?_ ginX11 rfl (by decide) wt_1436 dX11_laysHeld_9
    refine s_iload_n (pc := 12) (i := 2) ?_ dX11_laysHeld_12 rfl
    refine s_iconst (pc := 13) (v := 0) ?_ dX11_laysHeld_13 (by decide)
    refine s_iastore (pc := 14) ?_ dX11_laysHeld_14
    refine s_iinc (pc := 15) (i := 2) (v := 1) ?_ dX11_laysHeld_15 (by decide) (by decide)
    exact s_goto (pc := 18) (tgt := 2) h1 dX11_laysHeld_18 (by decide)
theorem sbX11_laysHeld_2 (g : GE) (J : Nat → KT) (h1 : Snd mX11_laysHeld g 2 (J 1)) (h2 : Snd mX11_laysHeld g 23 (J 2)) : Snd mX11_laysHeld g 23 (bX11_laysHeld_2 g J) := by
  unfold bX11_laysHeld_2
  refine s_iload_n (pc := 23) (i := 2) ?_ dX11_laysHeld_23 rfl
  refine s_aload_n (pc := 24) (i := 0) ?_ dX11_laysHeld_24 rfl
  refine s_getf (pc := 25) (ci := 10) (f := 27) (T := TX11) ?_ ginX11 rfl (by decide) wt_1420 dX11_laysHeld_25
  refine s_icge (pc := 28) (tgt := 57) ?_ ?_ dX11_laysHeld_28 (by decide)
  · skip
    exact s_return (pc := 57) rfl dX11_laysHeld_57
  · skip
    refine s_aload_n (pc := 31) (i := 0) ?_ dX11_laysHeld_31 rfl
    refine s_getf (pc := 32) (ci := 10) (f := 43) (T := TX11) ?_ ginX11 rfl (by decide) wt_1436 dX11_laysHeld_32
    refine s_aload_n (pc := 35) (i := 0) ?_ dX11_laysHeld_35 rfl
    refine s_aload_n (pc := 36) (i := 0) ?_ dX11_laysHeld_36 rfl
    refine s_getf (pc := 37) (ci := 10) (f := 28) (T := TX11) ?_ ginX11 rfl (by decide) wt_1421 dX11_laysHeld_37
    refine s_iload_n (pc := 40) (i := 2) ?_ dX11_laysHeld_40 rfl
    refine s_iaload (pc := 41) ?_ dX11_laysHeld_41
    refine s_iload_n (pc := 42) (i := 1) ?_ dX11_laysHeld_42 rfl
    refine s_cv (pc := 43) (n := 2) (ci := 10) ?_ tX11_digit rfl rfl wt_1679 wt_1681 wp_70 wt_17 wt_1682 ⟨crX11_digit, by decide, by decide⟩ dX11_laysHeld_43
    refine s_dup2 (pc := 46) ?_ dX11_laysHeld_46
    refine s_iaload (pc := 47) ?_ dX11_laysHeld_47
    refine s_iconst (pc := 48) (v := 1) ?_ dX11_laysHeld_48 (by decide)
    refine s_iadd (pc := 49) ?_ dX11_laysHeld_49
    refine s_iastore (pc := 50) ?_ dX11_laysHeld_50
    refine s_iinc (pc := 51) (i := 2) (v := 1) ?_ dX11_laysHeld_51 (by decide) (by decide)
    exact s_goto (pc := 54) (tgt := 23) h2 dX11_laysHeld_54 (by decide)
def jX11_laysHeld (g : GE) : Nat → Nat → KT
  | 0, _ => fun _ _ _ => none
  | n + 1, 0 => bX11_laysHeld_0 g (jX11_laysHeld g n)
  | n + 1, 1 => bX11_laysHeld_1 g (jX11_laysHeld g n)
  | n + 1, 2 => bX11_laysHeld_2 g (jX11_laysHeld g n)
  | _ + 1, _ + 3 => fun _ _ _ => none
theorem sjX11_laysHeld (g : GE) : ∀ n, Snd mX11_laysHeld g 0 (jX11_laysHeld g n 0) ∧ Snd mX11_laysHeld g 2 (jX11_laysHeld g n 1) ∧ Snd mX11_laysHeld g 23 (jX11_laysHeld g n 2)
  | 0 => ⟨s_none, s_none, s_none⟩
  | n + 1 => by
    obtain ⟨-, h1, h2⟩ := sjX11_laysHeld g n
    exact ⟨sbX11_laysHeld_0 g _ h1 h2, sbX11_laysHeld_1 g _ h1 h2, sbX11_laysHeld_2 g _ h1 h2⟩
def kX11_laysHeld (g : GE) : KT := jX11_laysHeld g g.1 0
theorem sX11_laysHeld (g : GE) : Snd mX11_laysHeld g 0 (kX11_laysHeld g) := (sjX11_laysHeld g g.1).1
def fX11_laysHeld : FT := fun g av w => if (ent av).length ≤ 3 then kX11_laysHeld g [] (entp 3 av) w else none
theorem tX11_laysHeld : Mt yX11_laysHeld cX11_laysHeld 3 none 2 54 fX11_laysHeld := Mt.of (K := kX11_laysHeld) (by decide +kernel) (fun _ _ _ => rfl) sX11_laysHeld
theorem crX11_laysHeld : yX11_laysHeld.cls ≠ "java/lang/invoke/MethodHandle" ∧ yX11_laysHeld.cls ≠ "java/lang/invoke/VarHandle" ∧ (parseMethodDescriptor yX11_laysHeld.desc).map (fun d => d.parameters.length) = some 1 := by decide +kernel
theorem dX11_alive_0 : decode cX11_alive 0 = .ok (.aload_n 0, 1) := by decide +kernel
theorem dX11_alive_1 : decode cX11_alive 1 = .ok (.iconst 0, 1) := by decide +kernel
theorem dX11_alive_2 : decode cX11_alive 2 = .ok (.putfield 120, 3) := by decide +kernel
theorem dX11_alive_5 : decode cX11_alive 5 = .ok (.aload_n 0, 1) := by decide +kernel
theorem dX11_alive_6 : decode cX11_alive 6 = .ok (.aload_n 0, 1) := by decide +kernel
theorem dX11_alive_7 : decode cX11_alive 7 = .ok (.iload_n 1, 1) := by decide +kernel
theorem dX11_alive_8 : decode cX11_alive 8 = .ok (.invokevirtual 234, 3) := by decide +kernel
theorem dX11_alive_11 : decode cX11_alive 11 = .ok (.ifCond .ne 7, 3) := by decide +kernel
theorem dX11_alive_14 : decode cX11_alive 14 = .ok (.iconst 1, 1) := by decide +kernel
theorem dX11_alive_15 : decode cX11_alive 15 = .ok (.goto 4, 3) := by decide +kernel
theorem dX11_alive_18 : decode cX11_alive 18 = .ok (.iconst 0, 1) := by decide +kernel
theorem dX11_alive_19 : decode cX11_alive 19 = .ok (.iconst 1, 1) := by decide +kernel
theorem dX11_alive_20 : decode cX11_alive 20 = .ok (.iconst 1, 1) := by decide +kernel
theorem dX11_alive_21 : decode cX11_alive 21 = .ok (.invokevirtual 215, 3) := by decide +kernel
theorem dX11_alive_24 : decode cX11_alive 24 = .ok (.ifCond .eq 5, 3) := by decide +kernel
theorem dX11_alive_27 : decode cX11_alive 27 = .ok (.iconst 0, 1) := by decide +kernel
theorem dX11_alive_28 : decode cX11_alive 28 = .ok (.ireturn, 1) := by decide +kernel
theorem dX11_alive_29 : decode cX11_alive 29 = .ok (.aload_n 0, 1) := by decide +kernel
theorem dX11_alive_30 : decode cX11_alive 30 = .ok (.iload_n 1, 1) := by decide +kernel
theorem dX11_alive_31 : decode cX11_alive 31 = .ok (.invokevirtual 273, 3) := by decide +kernel
theorem dX11_alive_34 : decode cX11_alive 34 = .ok (.iconst 0, 1) := by decide +kernel
theorem dX11_alive_35 : decode cX11_alive 35 = .ok (.istore_n 2, 1) := by decide +kernel
theorem dX11_alive_36 : decode cX11_alive 36 = .ok (.iconst 0, 1) := by decide +kernel
theorem dX11_alive_37 : decode cX11_alive 37 = .ok (.istore_n 3, 1) := by decide +kernel
theorem dX11_alive_38 : decode cX11_alive 38 = .ok (.iload_n 3, 1) := by decide +kernel
theorem dX11_alive_39 : decode cX11_alive 39 = .ok (.bipush 100, 2) := by decide +kernel
theorem dX11_alive_41 : decode cX11_alive 41 = .ok (.if_icmp .ge 26, 3) := by decide +kernel
theorem dX11_alive_44 : decode cX11_alive 44 = .ok (.iload_n 2, 1) := by decide +kernel
theorem dX11_alive_45 : decode cX11_alive 45 = .ok (.aload_n 0, 1) := by decide +kernel
theorem dX11_alive_46 : decode cX11_alive 46 = .ok (.getfield 104, 3) := by decide +kernel
theorem dX11_alive_49 : decode cX11_alive 49 = .ok (.iload_n 3, 1) := by decide +kernel
theorem dX11_alive_50 : decode cX11_alive 50 = .ok (.iaload, 1) := by decide +kernel
theorem dX11_alive_51 : decode cX11_alive 51 = .ok (.ifCond .le 7, 3) := by decide +kernel
theorem dX11_alive_54 : decode cX11_alive 54 = .ok (.iconst 1, 1) := by decide +kernel
theorem dX11_alive_55 : decode cX11_alive 55 = .ok (.goto 4, 3) := by decide +kernel
theorem dX11_alive_58 : decode cX11_alive 58 = .ok (.iconst 0, 1) := by decide +kernel
theorem dX11_alive_59 : decode cX11_alive 59 = .ok (.iadd, 1) := by decide +kernel
theorem dX11_alive_60 : decode cX11_alive 60 = .ok (.istore_n 2, 1) := by decide +kernel
theorem dX11_alive_61 : decode cX11_alive 61 = .ok (.iinc 3 1, 3) := by decide +kernel
theorem dX11_alive_64 : decode cX11_alive 64 = .ok (.goto (-26), 3) := by decide +kernel
theorem dX11_alive_67 : decode cX11_alive 67 = .ok (.iload_n 2, 1) := by decide +kernel
theorem dX11_alive_68 : decode cX11_alive 68 = .ok (.ireturn, 1) := by decide +kernel
abbrev mX11_alive : MD := (cX11_alive, "BlottedDeedModel", 4, 3, 76, (some .int), "alive", [])
def bX11_alive_0 (g : GE) (J : Nat → KT) : KT := i_aload 0 (i_push (.int 0) (i_putf 10 0 .int (i_aload 0 (i_aload 0 (i_iload 1 (i_cv fX11_isBlot g 1 10 (i_ifne (i_push (.int 0) (i_jmp [true, true, false, false] (J 1))) (i_push (.int 1) (i_jmp [true, true, false, false] (J 1))))))))))
def bX11_alive_1 (g : GE) (J : Nat → KT) : KT := i_push (.int 1) (i_push (.int 1) (i_cv fX11_bad g 3 10 (i_ifeq (i_aload 0 (i_iload 1 (i_cv fX11_laysHeld g 1 10 (i_push (.int 0) (i_istore 2 (i_push (.int 0) (i_istore 3 (i_jmp [true, false, true, true] (J 2))))))))) (i_push (.int 0) (i_ireturn)))))
def bX11_alive_2 (g : GE) (J : Nat → KT) : KT := i_iload 3 (i_push (.int 100) (i_icge (i_iload 2 (i_ireturn)) (i_iload 2 (i_aload 0 (i_getf 10 43 (i_iload 3 (i_iaload (i_ifle (i_push (.int 0) (i_jmp [true, false, false, true] (J 3))) (i_push (.int 1) (i_jmp [true, false, false, true] (J 3)))))))))))
def bX11_alive_3 (g : GE) (J : Nat → KT) : KT := i_iadd (i_istore 2 (i_iinc 3 1 (i_jmp [true, false, true, true] (J 2))))
theorem sbX11_alive_0 (g : GE) (J : Nat → KT) (h1 : Snd mX11_alive g 19 (J 1)) (h2 : Snd mX11_alive g 38 (J 2)) (h3 : Snd mX11_alive g 59 (J 3)) : Snd mX11_alive g 0 (bX11_alive_0 g J) := by
  unfold bX11_alive_0
  refine s_aload_n (pc := 0) (i := 0) ?_ dX11_alive_0 rfl
  refine s_iconst (pc := 1) (v := 0) ?_ dX11_alive_1 (by decide)
  refine s_putf (pc := 2) (ci := 10) (f := 0) (T := TX11) (ty0 := tyX11) ?_ ginX11 tyX11_ok nmX11 rfl (by decide) rfl rfl wt_1393 dX11_alive_2
  refine s_aload_n (pc := 5) (i := 0) ?_ dX11_alive_5 rfl
  refine s_aload_n (pc := 6) (i := 0) ?_ dX11_alive_6 rfl
  refine s_iload_n (pc := 7) (i := 1) ?_ dX11_alive_7 rfl
  refine s_cv (pc := 8) (n := 1) (ci := 10) ?_ tX11_isBlot rfl rfl wt_1655 wt_1657 wp_67 wt_17 wt_1658 ⟨crX11_isBlot, by decide, by decide⟩ dX11_alive_8
  refine s_ifne (pc := 11) (tgt := 18) ?_ ?_ dX11_alive_11 (by decide)
  · skip
    refine s_iconst (pc := 18) (v := 0) ?_ dX11_alive_18 (by decide)
    exact s_fall (pc := 19) h1
  · skip
    refine s_iconst (pc := 14) (v := 1) ?_ dX11_alive_14 (by decide)
    exact s_goto (pc := 15) (tgt := 19) h1 dX11_alive_15 (by decide)
theorem sbX11_alive_1 (g : GE) (J : Nat → KT) (h1 : Snd mX11_alive g 19 (J 1)) (h2 : Snd mX11_alive g 38 (J 2)) (h3 : Snd mX11_alive g 59 (J 3)) : Snd mX11_alive g 19 (bX11_alive_1 g J) := by
  unfold bX11_alive_1
  refine s_iconst (pc := 19) (v := 1) ?_ dX11_alive_19 (by decide)
  refine s_iconst (pc := 20) (v := 1) ?_ dX11_alive_20 (by decide)
  refine s_cv (pc := 21) (n := 3) (ci := 10) ?_ tX11_bad rfl rfl wt_1560 wt_1562 wp_49 wt_17 wt_1563 ⟨crX11_bad, by decide, by decide⟩ dX11_alive_21
  refine s_ifeq (pc := 24) (tgt := 29) ?_ ?_ dX11_alive_24 (by decide)
  · skip
    refine s_aload_n (pc := 29) (i := 0) ?_ dX11_alive_29 rfl
    refine s_iload_n (pc := 30) (i := 1) ?_ dX11_alive_30 rfl
    refine s_cv (pc := 31) (n := 1) (ci := 10) ?_ tX11_laysHeld rfl rfl wt_1687 wt_1689 wp_71 wt_17 wt_1690 ⟨crX11_laysHeld, by decide, by decide⟩ dX11_alive_31
    refine s_iconst (pc := 34) (v := 0) ?_ dX11_alive_34 (by decide)
    refine s_istore_n (pc := 35) (i := 2) ?_ dX11_alive_35 rfl (by decide)
    refine s_iconst (pc := 36) (v := 0) ?_ dX11_alive_36 (by decide)
    refine s_istore_n (pc := 37) (i := 3) ?_ dX11_alive_37 rfl (by decide)
    exact s_fall (pc := 38) h2
  · skip
    refine s_iconst (pc := 27) (v := 0) ?_ dX11_alive_27 (by decide)
    exact s_ireturn (pc := 28) rfl dX11_alive_28
theorem sbX11_alive_2 (g : GE) (J : Nat → KT) (h1 : Snd mX11_alive g 19 (J 1)) (h2 : Snd mX11_alive g 38 (J 2)) (h3 : Snd mX11_alive g 59 (J 3)) : Snd mX11_alive g 38 (bX11_alive_2 g J) := by
  unfold bX11_alive_2
  refine s_iload_n (pc := 38) (i := 3) ?_ dX11_alive_38 rfl
  refine s_bipush (pc := 39) (v := 100) ?_ dX11_alive_39 (by decide)
  refine s_icge (pc := 41) (tgt := 67) ?_ ?_ dX11_alive_41 (by decide)
  · skip
    refine s_iload_n (pc := 67) (i := 2) ?_ dX11_alive_67 rfl
    exact s_ireturn (pc := 68) rfl dX11_alive_68
  · skip
    refine s_iload_n (pc := 44) (i := 2) ?_ dX11_alive_44 rfl
    refine s_aload_n (pc := 45) (i := 0) ?_ dX11_alive_45 rfl
    refine s_getf (pc := 46) (ci := 10) (f := 43) (T := TX11) ?_ ginX11 rfl (by decide) wt_1436 dX11_alive_46
    refine s_iload_n (pc := 49) (i := 3) ?_ dX11_alive_49 rfl
    refine s_iaload (pc := 50) ?_ dX11_alive_50
    refine s_ifle (pc := 51) (tgt := 58) ?_ ?_ dX11_alive_51 (by decide)
    · skip
      refine s_iconst (pc := 58) (v := 0) ?_ dX11_alive_58 (by decide)
      exact s_fall (pc := 59) h3
    · skip
      refine s_iconst (pc := 54) (v := 1) ?_ dX11_alive_54 (by decide)
      exact s_goto (pc := 55) (tgt := 59) h3 dX11_alive_55 (by decide)
theorem sbX11_alive_3 (g : GE) (J : Nat → KT) (h1 : Snd mX11_alive g 19 (J 1)) (h2 : Snd mX11_alive g 38 (J 2)) (h3 : Snd mX11_alive g 59 (J 3)) : Snd mX11_alive g 59 (bX11_alive_3 g J) := by
  unfold bX11_alive_3
  refine s_iadd (pc := 59) ?_ dX11_alive_59
  refine s_istore_n (pc := 60) (i := 2) ?_ dX11_alive_60 rfl (by decide)
  refine s_iinc (pc := 61) (i := 3) (v := 1) ?_ dX11_alive_61 (by decide) (by decide)
  exact s_goto (pc := 64) (tgt := 38) h2 dX11_alive_64 (by decide)
def jX11_alive (g : GE) : Nat → Nat → KT
  | 0, _ => fun _ _ _ => none
  | n + 1, 0 => bX11_alive_0 g (jX11_alive g n)
  | n + 1, 1 => bX11_alive_1 g (jX11_alive g n)
  | n + 1, 2 => bX11_alive_2 g (jX11_alive g n)
  | n + 1, 3 => bX11_alive_3 g (jX11_alive g n)
  | _ + 1, _ + 4 => fun _ _ _ => none
theorem sjX11_alive (g : GE) : ∀ n, Snd mX11_alive g 0 (jX11_alive g n 0) ∧ Snd mX11_alive g 19 (jX11_alive g n 1) ∧ Snd mX11_alive g 38 (jX11_alive g n 2) ∧ Snd mX11_alive g 59 (jX11_alive g n 3)
  | 0 => ⟨s_none, s_none, s_none, s_none⟩
  | n + 1 => by
    obtain ⟨-, h1, h2, h3⟩ := sjX11_alive g n
    exact ⟨sbX11_alive_0 g _ h1 h2 h3, sbX11_alive_1 g _ h1 h2 h3, sbX11_alive_2 g _ h1 h2 h3, sbX11_alive_3 g _ h1 h2 h3⟩
def kX11_alive (g : GE) : KT := jX11_alive g g.1 0
theorem sX11_alive (g : GE) : Snd mX11_alive g 0 (kX11_alive g) := (sjX11_alive g g.1).1
def fX11_alive : FT := fun g av w => if (ent av).length ≤ 4 then kX11_alive g [] (entp 4 av) w else none
theorem tX11_alive : Mt yX11_alive cX11_alive 4 (some .int) 3 76 fX11_alive := Mt.of (K := kX11_alive) (by decide +kernel) (fun _ _ _ => rfl) sX11_alive
theorem crX11_alive : yX11_alive.cls ≠ "java/lang/invoke/MethodHandle" ∧ yX11_alive.cls ≠ "java/lang/invoke/VarHandle" ∧ (parseMethodDescriptor yX11_alive.desc).map (fun d => d.parameters.length) = some 1 := by decide +kernel
theorem dX11_isReading_0 : decode cX11_isReading 0 = .ok (.iload_n 1, 1) := by decide +kernel
theorem dX11_isReading_1 : decode cX11_isReading 1 = .ok (.iconst 0, 1) := by decide +kernel
theorem dX11_isReading_2 : decode cX11_isReading 2 = .ok (.aload_n 0, 1) := by decide +kernel
theorem dX11_isReading_3 : decode cX11_isReading 3 = .ok (.getfield 244, 3) := by decide +kernel
theorem dX11_isReading_6 : decode cX11_isReading 6 = .ok (.iconst 1, 1) := by decide +kernel
theorem dX11_isReading_7 : decode cX11_isReading 7 = .ok (.isub, 1) := by decide +kernel
theorem dX11_isReading_8 : decode cX11_isReading 8 = .ok (.invokestatic 154, 3) := by decide +kernel
theorem dX11_isReading_11 : decode cX11_isReading 11 = .ok (.ireturn, 1) := by decide +kernel
abbrev mX11_isReading : MD := (cX11_isReading, "BlottedDeedModel", 2, 2, 52, (some .boolean), "isReading", [])
def bX11_isReading_0 (g : GE) (J : Nat → KT) : KT := i_iload 1 (i_push (.int 0) (i_aload 0 (i_getf 10 27 (i_push (.int 1) (i_isub (i_cs fX11_in g 3 (i_zreturn)))))))
theorem sbX11_isReading_0 (g : GE) (J : Nat → KT)  : Snd mX11_isReading g 0 (bX11_isReading_0 g J) := by
  unfold bX11_isReading_0
  refine s_iload_n (pc := 0) (i := 1) ?_ dX11_isReading_0 rfl
  refine s_iconst (pc := 1) (v := 0) ?_ dX11_isReading_1 (by decide)
  refine s_aload_n (pc := 2) (i := 0) ?_ dX11_isReading_2 rfl
  refine s_getf (pc := 3) (ci := 10) (f := 27) (T := TX11) ?_ ginX11 rfl (by decide) wt_1420 dX11_isReading_3
  refine s_iconst (pc := 6) (v := 1) ?_ dX11_isReading_6 (by decide)
  refine s_isub (pc := 7) ?_ dX11_isReading_7
  refine s_cs (pc := 8) (n := 3) ?_ tX11_in wt_1557 wt_1558 wt_17 wt_1559 ⟨crX11_in, by decide, by decide⟩ dX11_isReading_8
  exact s_zreturn (pc := 11) rfl dX11_isReading_11
def kX11_isReading (g : GE) : KT := bX11_isReading_0 g (fun _ _ _ _ => none)
theorem sX11_isReading (g : GE) : Snd mX11_isReading g 0 (kX11_isReading g) := sbX11_isReading_0 g _
def fX11_isReading : FT := fun g av w => if (ent av).length ≤ 2 then kX11_isReading g [] (entp 2 av) w else none
theorem tX11_isReading : Mt yX11_isReading cX11_isReading 2 (some .boolean) 2 52 fX11_isReading := Mt.of (K := kX11_isReading) (by decide +kernel) (fun _ _ _ => rfl) sX11_isReading
theorem crX11_isReading : yX11_isReading.cls ≠ "java/lang/invoke/MethodHandle" ∧ yX11_isReading.cls ≠ "java/lang/invoke/VarHandle" ∧ (parseMethodDescriptor yX11_isReading.desc).map (fun d => d.parameters.length) = some 1 := by decide +kernel
theorem dX11_apartBy_0 : decode cX11_apartBy 0 = .ok (.iconst 0, 1) := by decide +kernel
theorem dX11_apartBy_1 : decode cX11_apartBy 1 = .ok (.istore_n 3, 1) := by decide +kernel
theorem dX11_apartBy_2 : decode cX11_apartBy 2 = .ok (.aload_n 0, 1) := by decide +kernel
theorem dX11_apartBy_3 : decode cX11_apartBy 3 = .ok (.getfield 74, 3) := by decide +kernel
theorem dX11_apartBy_6 : decode cX11_apartBy 6 = .ok (.iload_n 1, 1) := by decide +kernel
theorem dX11_apartBy_7 : decode cX11_apartBy 7 = .ok (.iaload, 1) := by decide +kernel
theorem dX11_apartBy_8 : decode cX11_apartBy 8 = .ok (.istore 4, 2) := by decide +kernel
theorem dX11_apartBy_10 : decode cX11_apartBy 10 = .ok (.aload_n 0, 1) := by decide +kernel
theorem dX11_apartBy_11 : decode cX11_apartBy 11 = .ok (.getfield 74, 3) := by decide +kernel
theorem dX11_apartBy_14 : decode cX11_apartBy 14 = .ok (.iload_n 2, 1) := by decide +kernel
theorem dX11_apartBy_15 : decode cX11_apartBy 15 = .ok (.iaload, 1) := by decide +kernel
theorem dX11_apartBy_16 : decode cX11_apartBy 16 = .ok (.istore 5, 2) := by decide +kernel
theorem dX11_apartBy_18 : decode cX11_apartBy 18 = .ok (.aload_n 0, 1) := by decide +kernel
theorem dX11_apartBy_19 : decode cX11_apartBy 19 = .ok (.getfield 23, 3) := by decide +kernel
theorem dX11_apartBy_22 : decode cX11_apartBy 22 = .ok (.iconst 3, 1) := by decide +kernel
theorem dX11_apartBy_23 : decode cX11_apartBy 23 = .ok (.iaload, 1) := by decide +kernel
theorem dX11_apartBy_24 : decode cX11_apartBy 24 = .ok (.iconst 1, 1) := by decide +kernel
theorem dX11_apartBy_25 : decode cX11_apartBy 25 = .ok (.isub, 1) := by decide +kernel
theorem dX11_apartBy_26 : decode cX11_apartBy 26 = .ok (.istore 6, 2) := by decide +kernel
theorem dX11_apartBy_28 : decode cX11_apartBy 28 = .ok (.iload 6, 2) := by decide +kernel
theorem dX11_apartBy_30 : decode cX11_apartBy 30 = .ok (.ifCond .lt 72, 3) := by decide +kernel
theorem dX11_apartBy_33 : decode cX11_apartBy 33 = .ok (.iload_n 3, 1) := by decide +kernel
theorem dX11_apartBy_34 : decode cX11_apartBy 34 = .ok (.iload 4, 2) := by decide +kernel
theorem dX11_apartBy_36 : decode cX11_apartBy 36 = .ok (.aload_n 0, 1) := by decide +kernel
theorem dX11_apartBy_37 : decode cX11_apartBy 37 = .ok (.getfield 65, 3) := by decide +kernel
theorem dX11_apartBy_40 : decode cX11_apartBy 40 = .ok (.iload 6, 2) := by decide +kernel
theorem dX11_apartBy_42 : decode cX11_apartBy 42 = .ok (.aaload, 1) := by decide +kernel
theorem dX11_apartBy_43 : decode cX11_apartBy 43 = .ok (.iconst 2, 1) := by decide +kernel
theorem dX11_apartBy_44 : decode cX11_apartBy 44 = .ok (.iaload, 1) := by decide +kernel
theorem dX11_apartBy_45 : decode cX11_apartBy 45 = .ok (.irem, 1) := by decide +kernel
theorem dX11_apartBy_46 : decode cX11_apartBy 46 = .ok (.iload 5, 2) := by decide +kernel
theorem dX11_apartBy_48 : decode cX11_apartBy 48 = .ok (.aload_n 0, 1) := by decide +kernel
theorem dX11_apartBy_49 : decode cX11_apartBy 49 = .ok (.getfield 65, 3) := by decide +kernel
theorem dX11_apartBy_52 : decode cX11_apartBy 52 = .ok (.iload 6, 2) := by decide +kernel
theorem dX11_apartBy_54 : decode cX11_apartBy 54 = .ok (.aaload, 1) := by decide +kernel
theorem dX11_apartBy_55 : decode cX11_apartBy 55 = .ok (.iconst 2, 1) := by decide +kernel
theorem dX11_apartBy_56 : decode cX11_apartBy 56 = .ok (.iaload, 1) := by decide +kernel
theorem dX11_apartBy_57 : decode cX11_apartBy 57 = .ok (.irem, 1) := by decide +kernel
theorem dX11_apartBy_58 : decode cX11_apartBy 58 = .ok (.if_icmp .ne 7, 3) := by decide +kernel
theorem dX11_apartBy_61 : decode cX11_apartBy 61 = .ok (.iconst 0, 1) := by decide +kernel
theorem dX11_apartBy_62 : decode cX11_apartBy 62 = .ok (.goto 4, 3) := by decide +kernel
theorem dX11_apartBy_65 : decode cX11_apartBy 65 = .ok (.iconst 1, 1) := by decide +kernel
theorem dX11_apartBy_66 : decode cX11_apartBy 66 = .ok (.iadd, 1) := by decide +kernel
theorem dX11_apartBy_67 : decode cX11_apartBy 67 = .ok (.istore_n 3, 1) := by decide +kernel
theorem dX11_apartBy_68 : decode cX11_apartBy 68 = .ok (.iload 4, 2) := by decide +kernel
theorem dX11_apartBy_70 : decode cX11_apartBy 70 = .ok (.aload_n 0, 1) := by decide +kernel
theorem dX11_apartBy_71 : decode cX11_apartBy 71 = .ok (.getfield 65, 3) := by decide +kernel
theorem dX11_apartBy_74 : decode cX11_apartBy 74 = .ok (.iload 6, 2) := by decide +kernel
theorem dX11_apartBy_76 : decode cX11_apartBy 76 = .ok (.aaload, 1) := by decide +kernel
theorem dX11_apartBy_77 : decode cX11_apartBy 77 = .ok (.iconst 2, 1) := by decide +kernel
theorem dX11_apartBy_78 : decode cX11_apartBy 78 = .ok (.iaload, 1) := by decide +kernel
theorem dX11_apartBy_79 : decode cX11_apartBy 79 = .ok (.idiv, 1) := by decide +kernel
theorem dX11_apartBy_80 : decode cX11_apartBy 80 = .ok (.istore 4, 2) := by decide +kernel
theorem dX11_apartBy_82 : decode cX11_apartBy 82 = .ok (.iload 5, 2) := by decide +kernel
theorem dX11_apartBy_84 : decode cX11_apartBy 84 = .ok (.aload_n 0, 1) := by decide +kernel
theorem dX11_apartBy_85 : decode cX11_apartBy 85 = .ok (.getfield 65, 3) := by decide +kernel
theorem dX11_apartBy_88 : decode cX11_apartBy 88 = .ok (.iload 6, 2) := by decide +kernel
theorem dX11_apartBy_90 : decode cX11_apartBy 90 = .ok (.aaload, 1) := by decide +kernel
theorem dX11_apartBy_91 : decode cX11_apartBy 91 = .ok (.iconst 2, 1) := by decide +kernel
theorem dX11_apartBy_92 : decode cX11_apartBy 92 = .ok (.iaload, 1) := by decide +kernel
theorem dX11_apartBy_93 : decode cX11_apartBy 93 = .ok (.idiv, 1) := by decide +kernel
theorem dX11_apartBy_94 : decode cX11_apartBy 94 = .ok (.istore 5, 2) := by decide +kernel
theorem dX11_apartBy_96 : decode cX11_apartBy 96 = .ok (.iinc 6 (-1), 3) := by decide +kernel
theorem dX11_apartBy_99 : decode cX11_apartBy 99 = .ok (.goto (-71), 3) := by decide +kernel
theorem dX11_apartBy_102 : decode cX11_apartBy 102 = .ok (.iload_n 3, 1) := by decide +kernel
theorem dX11_apartBy_103 : decode cX11_apartBy 103 = .ok (.ireturn, 1) := by decide +kernel
abbrev mX11_apartBy : MD := (cX11_apartBy, "BlottedDeedModel", 7, 1, 30, (some .int), "apartBy", [])
def bX11_apartBy_0 (g : GE) (J : Nat → KT) : KT := i_push (.int 0) (i_istore 3 (i_aload 0 (i_getf 10 28 (i_iload 1 (i_iaload (i_istore 4 (i_aload 0 (i_getf 10 28 (i_iload 2 (i_iaload (i_istore 5 (i_aload 0 (i_getf 10 11 (i_push (.int 3) (i_iaload (i_push (.int 1) (i_isub (i_istore 6 (i_jmp [true, false, false, true, true, true, true] (J 1))))))))))))))))))))
def bX11_apartBy_1 (g : GE) (J : Nat → KT) : KT := i_iload 6 (i_iflt (i_iload 3 (i_ireturn)) (i_iload 3 (i_iload 4 (i_aload 0 (i_getf 10 24 (i_iload 6 (i_aaload 4 (i_push (.int 2) (i_iaload (i_irem (i_iload 5 (i_aload 0 (i_getf 10 24 (i_iload 6 (i_aaload 4 (i_push (.int 2) (i_iaload (i_irem (i_icne (i_push (.int 1) (i_jmp [true, false, false, false, true, true, true] (J 2))) (i_push (.int 0) (i_jmp [true, false, false, false, true, true, true] (J 2))))))))))))))))))))))
def bX11_apartBy_2 (g : GE) (J : Nat → KT) : KT := i_iadd (i_istore 3 (i_iload 4 (i_aload 0 (i_getf 10 24 (i_iload 6 (i_aaload 4 (i_push (.int 2) (i_iaload (i_idiv (i_istore 4 (i_iload 5 (i_aload 0 (i_getf 10 24 (i_iload 6 (i_aaload 4 (i_push (.int 2) (i_iaload (i_idiv (i_istore 5 (i_iinc 6 (-1) (i_jmp [true, false, false, true, true, true, true] (J 1))))))))))))))))))))))
theorem sbX11_apartBy_0 (g : GE) (J : Nat → KT) (h1 : Snd mX11_apartBy g 28 (J 1)) (h2 : Snd mX11_apartBy g 66 (J 2)) : Snd mX11_apartBy g 0 (bX11_apartBy_0 g J) := by
  unfold bX11_apartBy_0
  refine s_iconst (pc := 0) (v := 0) ?_ dX11_apartBy_0 (by decide)
  refine s_istore_n (pc := 1) (i := 3) ?_ dX11_apartBy_1 rfl (by decide)
  refine s_aload_n (pc := 2) (i := 0) ?_ dX11_apartBy_2 rfl
  refine s_getf (pc := 3) (ci := 10) (f := 28) (T := TX11) ?_ ginX11 rfl (by decide) wt_1421 dX11_apartBy_3
  refine s_iload_n (pc := 6) (i := 1) ?_ dX11_apartBy_6 rfl
  refine s_iaload (pc := 7) ?_ dX11_apartBy_7
  refine s_istore (pc := 8) (i := 4) ?_ dX11_apartBy_8 (by decide)
  refine s_aload_n (pc := 10) (i := 0) ?_ dX11_apartBy_10 rfl
  refine s_getf (pc := 11) (ci := 10) (f := 28) (T := TX11) ?_ ginX11 rfl (by decide) wt_1421 dX11_apartBy_11
  refine s_iload_n (pc := 14) (i := 2) ?_ dX11_apartBy_14 rfl
  refine s_iaload (pc := 15) ?_ dX11_apartBy_15
  refine s_istore (pc := 16) (i := 5) ?_ dX11_apartBy_16 (by decide)
  refine s_aload_n (pc := 18) (i := 0) ?_ dX11_apartBy_18 rfl
  refine s_getf (pc := 19) (ci := 10) (f := 11) (T := TX11) ?_ ginX11 rfl (by decide) wt_1404 dX11_apartBy_19
  refine s_iconst (pc := 22) (v := 3) ?_ dX11_apartBy_22 (by decide)
  refine s_iaload (pc := 23) ?_ dX11_apartBy_23
  refine s_iconst (pc := 24) (v := 1) ?_ dX11_apartBy_24 (by decide)
  refine s_isub (pc := 25) ?_ dX11_apartBy_25
  refine s_istore (pc := 26) (i := 6) ?_ dX11_apartBy_26 (by decide)
  exact s_fall (pc := 28) h1
theorem sbX11_apartBy_1 (g : GE) (J : Nat → KT) (h1 : Snd mX11_apartBy g 28 (J 1)) (h2 : Snd mX11_apartBy g 66 (J 2)) : Snd mX11_apartBy g 28 (bX11_apartBy_1 g J) := by
  unfold bX11_apartBy_1
  refine s_iload (pc := 28) (i := 6) ?_ dX11_apartBy_28
  refine s_iflt (pc := 30) (tgt := 102) ?_ ?_ dX11_apartBy_30 (by decide)
  · skip
    refine s_iload_n (pc := 102) (i := 3) ?_ dX11_apartBy_102 rfl
    exact s_ireturn (pc := 103) rfl dX11_apartBy_103
  · skip
    refine s_iload_n (pc := 33) (i := 3) ?_ dX11_apartBy_33 rfl
    refine s_iload (pc := 34) (i := 4) ?_ dX11_apartBy_34
    refine s_aload_n (pc := 36) (i := 0) ?_ dX11_apartBy_36 rfl
    refine s_getf (pc := 37) (ci := 10) (f := 24) (T := TX11) ?_ ginX11 rfl (by decide) wt_1417 dX11_apartBy_37
    refine s_iload (pc := 40) (i := 6) ?_ dX11_apartBy_40
    refine s_aaload (pc := 42) (t := 4) ?_ (by decide) rfl dX11_apartBy_42
    refine s_iconst (pc := 43) (v := 2) ?_ dX11_apartBy_43 (by decide)
    refine s_iaload (pc := 44) ?_ dX11_apartBy_44
    refine s_irem (pc := 45) ?_ dX11_apartBy_45
    refine s_iload (pc := 46) (i := 5) ?_ dX11_apartBy_46
    refine s_aload_n (pc := 48) (i := 0) ?_ dX11_apartBy_48 rfl
    refine s_getf (pc := 49) (ci := 10) (f := 24) (T := TX11) ?_ ginX11 rfl (by decide) wt_1417 dX11_apartBy_49
    refine s_iload (pc := 52) (i := 6) ?_ dX11_apartBy_52
    refine s_aaload (pc := 54) (t := 4) ?_ (by decide) rfl dX11_apartBy_54
    refine s_iconst (pc := 55) (v := 2) ?_ dX11_apartBy_55 (by decide)
    refine s_iaload (pc := 56) ?_ dX11_apartBy_56
    refine s_irem (pc := 57) ?_ dX11_apartBy_57
    refine s_icne (pc := 58) (tgt := 65) ?_ ?_ dX11_apartBy_58 (by decide)
    · skip
      refine s_iconst (pc := 65) (v := 1) ?_ dX11_apartBy_65 (by decide)
      exact s_fall (pc := 66) h2
    · skip
      refine s_iconst (pc := 61) (v := 0) ?_ dX11_apartBy_61 (by decide)
      exact s_goto (pc := 62) (tgt := 66) h2 dX11_apartBy_62 (by decide)
theorem sbX11_apartBy_2 (g : GE) (J : Nat → KT) (h1 : Snd mX11_apartBy g 28 (J 1)) (h2 : Snd mX11_apartBy g 66 (J 2)) : Snd mX11_apartBy g 66 (bX11_apartBy_2 g J) := by
  unfold bX11_apartBy_2
  refine s_iadd (pc := 66) ?_ dX11_apartBy_66
  refine s_istore_n (pc := 67) (i := 3) ?_ dX11_apartBy_67 rfl (by decide)
  refine s_iload (pc := 68) (i := 4) ?_ dX11_apartBy_68
  refine s_aload_n (pc := 70) (i := 0) ?_ dX11_apartBy_70 rfl
  refine s_getf (pc := 71) (ci := 10) (f := 24) (T := TX11) ?_ ginX11 rfl (by decide) wt_1417 dX11_apartBy_71
  refine s_iload (pc := 74) (i := 6) ?_ dX11_apartBy_74
  refine s_aaload (pc := 76) (t := 4) ?_ (by decide) rfl dX11_apartBy_76
  refine s_iconst (pc := 77) (v := 2) ?_ dX11_apartBy_77 (by decide)
  refine s_iaload (pc := 78) ?_ dX11_apartBy_78
  refine s_idiv (pc := 79) ?_ dX11_apartBy_79
  refine s_istore (pc := 80) (i := 4) ?_ dX11_apartBy_80 (by decide)
  refine s_iload (pc := 82) (i := 5) ?_ dX11_apartBy_82
  refine s_aload_n (pc := 84) (i := 0) ?_ dX11_apartBy_84 rfl
  refine s_getf (pc := 85) (ci := 10) (f := 24) (T := TX11) ?_ ginX11 rfl (by decide) wt_1417 dX11_apartBy_85
  refine s_iload (pc := 88) (i := 6) ?_ dX11_apartBy_88
  refine s_aaload (pc := 90) (t := 4) ?_ (by decide) rfl dX11_apartBy_90
  refine s_iconst (pc := 91) (v := 2) ?_ dX11_apartBy_91 (by decide)
  refine s_iaload (pc := 92) ?_ dX11_apartBy_92
  refine s_idiv (pc := 93) ?_ dX11_apartBy_93
  refine s_istore (pc := 94) (i := 5) ?_ dX11_apartBy_94 (by decide)
  refine s_iinc (pc := 96) (i := 6) (v := (-1)) ?_ dX11_apartBy_96 (by decide) (by decide)
  exact s_goto (pc := 99) (tgt := 28) h1 dX11_apartBy_99 (by decide)
def jX11_apartBy (g : GE) : Nat → Nat → KT
  | 0, _ => fun _ _ _ => none
  | n + 1, 0 => bX11_apartBy_0 g (jX11_apartBy g n)
  | n + 1, 1 => bX11_apartBy_1 g (jX11_apartBy g n)
  | n + 1, 2 => bX11_apartBy_2 g (jX11_apartBy g n)
  | _ + 1, _ + 3 => fun _ _ _ => none
theorem sjX11_apartBy (g : GE) : ∀ n, Snd mX11_apartBy g 0 (jX11_apartBy g n 0) ∧ Snd mX11_apartBy g 28 (jX11_apartBy g n 1) ∧ Snd mX11_apartBy g 66 (jX11_apartBy g n 2)
  | 0 => ⟨s_none, s_none, s_none⟩
  | n + 1 => by
    obtain ⟨-, h1, h2⟩ := sjX11_apartBy g n
    exact ⟨sbX11_apartBy_0 g _ h1 h2, sbX11_apartBy_1 g _ h1 h2, sbX11_apartBy_2 g _ h1 h2⟩
def kX11_apartBy (g : GE) : KT := jX11_apartBy g g.1 0
theorem sX11_apartBy (g : GE) : Snd mX11_apartBy g 0 (kX11_apartBy g) := (sjX11_apartBy g g.1).1
def fX11_apartBy : FT := fun g av w => if (ent av).length ≤ 7 then kX11_apartBy g [] (entp 7 av) w else none
theorem tX11_apartBy : Mt yX11_apartBy cX11_apartBy 7 (some .int) 1 30 fX11_apartBy := Mt.of (K := kX11_apartBy) (by decide +kernel) (fun _ _ _ => rfl) sX11_apartBy
theorem crX11_apartBy : yX11_apartBy.cls ≠ "java/lang/invoke/MethodHandle" ∧ yX11_apartBy.cls ≠ "java/lang/invoke/VarHandle" ∧ (parseMethodDescriptor yX11_apartBy.desc).map (fun d => d.parameters.length) = some 2 := by decide +kernel
