theorem dX8_lastHabit_0 : decode cX8_lastHabit 0 = .ok (.aload_n 0, 1) := by decide +kernel
theorem dX8_lastHabit_1 : decode cX8_lastHabit 1 = .ok (.getfield 37, 3) := by decide +kernel
theorem dX8_lastHabit_4 : decode cX8_lastHabit 4 = .ok (.iconst 1, 1) := by decide +kernel
theorem dX8_lastHabit_5 : decode cX8_lastHabit 5 = .ok (.isub, 1) := by decide +kernel
theorem dX8_lastHabit_6 : decode cX8_lastHabit 6 = .ok (.istore_n 3, 1) := by decide +kernel
theorem dX8_lastHabit_7 : decode cX8_lastHabit 7 = .ok (.iload_n 3, 1) := by decide +kernel
theorem dX8_lastHabit_8 : decode cX8_lastHabit 8 = .ok (.ifCond .lt 31, 3) := by decide +kernel
theorem dX8_lastHabit_11 : decode cX8_lastHabit 11 = .ok (.aload_n 0, 1) := by decide +kernel
theorem dX8_lastHabit_12 : decode cX8_lastHabit 12 = .ok (.getfield 21, 3) := by decide +kernel
theorem dX8_lastHabit_15 : decode cX8_lastHabit 15 = .ok (.iload_n 3, 1) := by decide +kernel
theorem dX8_lastHabit_16 : decode cX8_lastHabit 16 = .ok (.iaload, 1) := by decide +kernel
theorem dX8_lastHabit_17 : decode cX8_lastHabit 17 = .ok (.iload_n 1, 1) := by decide +kernel
theorem dX8_lastHabit_18 : decode cX8_lastHabit 18 = .ok (.if_icmp .ne 15, 3) := by decide +kernel
theorem dX8_lastHabit_21 : decode cX8_lastHabit 21 = .ok (.aload_n 0, 1) := by decide +kernel
theorem dX8_lastHabit_22 : decode cX8_lastHabit 22 = .ok (.getfield 27, 3) := by decide +kernel
theorem dX8_lastHabit_25 : decode cX8_lastHabit 25 = .ok (.iload_n 3, 1) := by decide +kernel
theorem dX8_lastHabit_26 : decode cX8_lastHabit 26 = .ok (.iaload, 1) := by decide +kernel
theorem dX8_lastHabit_27 : decode cX8_lastHabit 27 = .ok (.iload_n 2, 1) := by decide +kernel
theorem dX8_lastHabit_28 : decode cX8_lastHabit 28 = .ok (.if_icmp .ne 5, 3) := by decide +kernel
theorem dX8_lastHabit_31 : decode cX8_lastHabit 31 = .ok (.iload_n 3, 1) := by decide +kernel
theorem dX8_lastHabit_32 : decode cX8_lastHabit 32 = .ok (.ireturn, 1) := by decide +kernel
theorem dX8_lastHabit_33 : decode cX8_lastHabit 33 = .ok (.iinc 3 (-1), 3) := by decide +kernel
theorem dX8_lastHabit_36 : decode cX8_lastHabit 36 = .ok (.goto (-29), 3) := by decide +kernel
theorem dX8_lastHabit_39 : decode cX8_lastHabit 39 = .ok (.iconst (-1), 1) := by decide +kernel
theorem dX8_lastHabit_40 : decode cX8_lastHabit 40 = .ok (.ireturn, 1) := by decide +kernel
abbrev mX8_lastHabit : MD := (cX8_lastHabit, "BlottedDeed$Testimony", 4, 1, 30, (some .int), "lastHabit", [])
def bX8_lastHabit_0 (g : GE) (J : Nat → KT) : KT := i_aload 0 (i_getf 8 8 (i_push (.int 1) (i_isub (i_istore 3 (i_jmp [true, true, true, true] (J 1))))))
def bX8_lastHabit_1 (g : GE) (J : Nat → KT) : KT := i_iload 3 (i_iflt (i_push (.int (-1)) (i_ireturn)) (i_aload 0 (i_getf 8 3 (i_iload 3 (i_iaload (i_iload 1 (i_icne (i_jmp [true, true, true, true] (J 2)) (i_aload 0 (i_getf 8 5 (i_iload 3 (i_iaload (i_iload 2 (i_icne (i_jmp [true, true, true, true] (J 2)) (i_iload 3 (i_ireturn)))))))))))))))
def bX8_lastHabit_2 (g : GE) (J : Nat → KT) : KT := i_iinc 3 (-1) (i_jmp [true, true, true, true] (J 1))
theorem sbX8_lastHabit_0 (g : GE) (J : Nat → KT) (h1 : Snd mX8_lastHabit g 7 (J 1)) (h2 : Snd mX8_lastHabit g 33 (J 2)) : Snd mX8_lastHabit g 0 (bX8_lastHabit_0 g J) := by
  unfold bX8_lastHabit_0
  refine s_aload_n (pc := 0) (i := 0) ?_ dX8_lastHabit_0 rfl
  refine s_getf (pc := 1) (ci := 8) (f := 8) (T := TX8) ?_ ginX8 rfl (by decide) wt_432 dX8_lastHabit_1
  refine s_iconst (pc := 4) (v := 1) ?_ dX8_lastHabit_4 (by decide)
  refine s_isub (pc := 5) ?_ dX8_lastHabit_5
  refine s_istore_n (pc := 6) (i := 3) ?_ dX8_lastHabit_6 rfl (by decide)
  exact s_fall (pc := 7) h1
theorem sbX8_lastHabit_1 (g : GE) (J : Nat → KT) (h1 : Snd mX8_lastHabit g 7 (J 1)) (h2 : Snd mX8_lastHabit g 33 (J 2)) : Snd mX8_lastHabit g 7 (bX8_lastHabit_1 g J) := by
  unfold bX8_lastHabit_1
  refine s_iload_n (pc := 7) (i := 3) ?_ dX8_lastHabit_7 rfl
  refine s_iflt (pc := 8) (tgt := 39) ?_ ?_ dX8_lastHabit_8 (by decide)
  · skip
    refine s_iconst (pc := 39) (v := (-1)) ?_ dX8_lastHabit_39 (by decide)
    exact s_ireturn (pc := 40) rfl dX8_lastHabit_40
  · skip
    refine s_aload_n (pc := 11) (i := 0) ?_ dX8_lastHabit_11 rfl
    refine s_getf (pc := 12) (ci := 8) (f := 3) (T := TX8) ?_ ginX8 rfl (by decide) wt_425 dX8_lastHabit_12
    refine s_iload_n (pc := 15) (i := 3) ?_ dX8_lastHabit_15 rfl
    refine s_iaload (pc := 16) ?_ dX8_lastHabit_16
    refine s_iload_n (pc := 17) (i := 1) ?_ dX8_lastHabit_17 rfl
    refine s_icne (pc := 18) (tgt := 33) ?_ ?_ dX8_lastHabit_18 (by decide)
    · skip
      exact s_fall (pc := 33) h2
    · skip
      refine s_aload_n (pc := 21) (i := 0) ?_ dX8_lastHabit_21 rfl
      refine s_getf (pc := 22) (ci := 8) (f := 5) (T := TX8) ?_ ginX8 rfl (by decide) wt_427 dX8_lastHabit_22
      refine s_iload_n (pc := 25) (i := 3) ?_ dX8_lastHabit_25 rfl
      refine s_iaload (pc := 26) ?_ dX8_lastHabit_26
      refine s_iload_n (pc := 27) (i := 2) ?_ dX8_lastHabit_27 rfl
      refine s_icne (pc := 28) (tgt := 33) ?_ ?_ dX8_lastHabit_28 (by decide)
      · skip
        exact s_fall (pc := 33) h2
      · skip
        refine s_iload_n (pc := 31) (i := 3) ?_ dX8_lastHabit_31 rfl
        exact s_ireturn (pc := 32) rfl dX8_lastHabit_32
theorem sbX8_lastHabit_2 (g : GE) (J : Nat → KT) (h1 : Snd mX8_lastHabit g 7 (J 1)) (h2 : Snd mX8_lastHabit g 33 (J 2)) : Snd mX8_lastHabit g 33 (bX8_lastHabit_2 g J) := by
  unfold bX8_lastHabit_2
  refine s_iinc (pc := 33) (i := 3) (v := (-1)) ?_ dX8_lastHabit_33 (by decide) (by decide)
  exact s_goto (pc := 36) (tgt := 7) h1 dX8_lastHabit_36 (by decide)
def jX8_lastHabit (g : GE) : Nat → Nat → KT
  | 0, _ => fun _ _ _ => none
  | n + 1, 0 => bX8_lastHabit_0 g (jX8_lastHabit g n)
  | n + 1, 1 => bX8_lastHabit_1 g (jX8_lastHabit g n)
  | n + 1, 2 => bX8_lastHabit_2 g (jX8_lastHabit g n)
  | _ + 1, _ + 3 => fun _ _ _ => none
theorem sjX8_lastHabit (g : GE) : ∀ n, Snd mX8_lastHabit g 0 (jX8_lastHabit g n 0) ∧ Snd mX8_lastHabit g 7 (jX8_lastHabit g n 1) ∧ Snd mX8_lastHabit g 33 (jX8_lastHabit g n 2)
  | 0 => ⟨s_none, s_none, s_none⟩
  | n + 1 => by
    obtain ⟨-, h1, h2⟩ := sjX8_lastHabit g n
    exact ⟨sbX8_lastHabit_0 g _ h1 h2, sbX8_lastHabit_1 g _ h1 h2, sbX8_lastHabit_2 g _ h1 h2⟩
def kX8_lastHabit (g : GE) : KT := jX8_lastHabit g g.1 0
theorem sX8_lastHabit (g : GE) : Snd mX8_lastHabit g 0 (kX8_lastHabit g) := (sjX8_lastHabit g g.1).1
def fX8_lastHabit : FT := fun g av w => if (ent av).length ≤ 4 then kX8_lastHabit g [] (entp 4 av) w else none
theorem tX8_lastHabit : Mt yX8_lastHabit cX8_lastHabit 4 (some .int) 1 30 fX8_lastHabit := Mt.of (K := kX8_lastHabit) (by decide +kernel) (fun _ _ _ => rfl) sX8_lastHabit
theorem crX8_lastHabit : yX8_lastHabit.cls ≠ "java/lang/invoke/MethodHandle" ∧ yX8_lastHabit.cls ≠ "java/lang/invoke/VarHandle" ∧ (parseMethodDescriptor yX8_lastHabit.desc).map (fun d => d.parameters.length) = some 2 := by decide +kernel
theorem dX8_oddsOfCopy_0 : decode cX8_oddsOfCopy 0 = .ok (.aload_n 0, 1) := by decide +kernel
theorem dX8_oddsOfCopy_1 : decode cX8_oddsOfCopy 1 = .ok (.getfield 18, 3) := by decide +kernel
theorem dX8_oddsOfCopy_4 : decode cX8_oddsOfCopy 4 = .ok (.iload_n 1, 1) := by decide +kernel
theorem dX8_oddsOfCopy_5 : decode cX8_oddsOfCopy 5 = .ok (.iaload, 1) := by decide +kernel
theorem dX8_oddsOfCopy_6 : decode cX8_oddsOfCopy 6 = .ok (.istore 4, 2) := by decide +kernel
theorem dX8_oddsOfCopy_8 : decode cX8_oddsOfCopy 8 = .ok (.iload_n 2, 1) := by decide +kernel
theorem dX8_oddsOfCopy_9 : decode cX8_oddsOfCopy 9 = .ok (.ifCond .ne 17, 3) := by decide +kernel
theorem dX8_oddsOfCopy_12 : decode cX8_oddsOfCopy 12 = .ok (.aload_n 0, 1) := by decide +kernel
theorem dX8_oddsOfCopy_13 : decode cX8_oddsOfCopy 13 = .ok (.aload_n 0, 1) := by decide +kernel
theorem dX8_oddsOfCopy_14 : decode cX8_oddsOfCopy 14 = .ok (.getfield 9, 3) := by decide +kernel
theorem dX8_oddsOfCopy_17 : decode cX8_oddsOfCopy 17 = .ok (.iload_n 1, 1) := by decide +kernel
theorem dX8_oddsOfCopy_18 : decode cX8_oddsOfCopy 18 = .ok (.iaload, 1) := by decide +kernel
theorem dX8_oddsOfCopy_19 : decode cX8_oddsOfCopy 19 = .ok (.iload_n 3, 1) := by decide +kernel
theorem dX8_oddsOfCopy_20 : decode cX8_oddsOfCopy 20 = .ok (.invokevirtual 46, 3) := by decide +kernel
theorem dX8_oddsOfCopy_23 : decode cX8_oddsOfCopy 23 = .ok (.goto 4, 3) := by decide +kernel
theorem dX8_oddsOfCopy_26 : decode cX8_oddsOfCopy 26 = .ok (.iconst (-1), 1) := by decide +kernel
theorem dX8_oddsOfCopy_27 : decode cX8_oddsOfCopy 27 = .ok (.istore 5, 2) := by decide +kernel
theorem dX8_oddsOfCopy_29 : decode cX8_oddsOfCopy 29 = .ok (.iload 5, 2) := by decide +kernel
theorem dX8_oddsOfCopy_31 : decode cX8_oddsOfCopy 31 = .ok (.iconst (-1), 1) := by decide +kernel
theorem dX8_oddsOfCopy_32 : decode cX8_oddsOfCopy 32 = .ok (.if_icmp .ne 16, 3) := by decide +kernel
theorem dX8_oddsOfCopy_35 : decode cX8_oddsOfCopy 35 = .ok (.iload 4, 2) := by decide +kernel
theorem dX8_oddsOfCopy_37 : decode cX8_oddsOfCopy 37 = .ok (.iload_n 3, 1) := by decide +kernel
theorem dX8_oddsOfCopy_38 : decode cX8_oddsOfCopy 38 = .ok (.if_icmp .ne 8, 3) := by decide +kernel
theorem dX8_oddsOfCopy_41 : decode cX8_oddsOfCopy 41 = .ok (.bipush 16, 2) := by decide +kernel
theorem dX8_oddsOfCopy_43 : decode cX8_oddsOfCopy 43 = .ok (.goto 4, 3) := by decide +kernel
theorem dX8_oddsOfCopy_46 : decode cX8_oddsOfCopy 46 = .ok (.iconst 0, 1) := by decide +kernel
theorem dX8_oddsOfCopy_47 : decode cX8_oddsOfCopy 47 = .ok (.ireturn, 1) := by decide +kernel
theorem dX8_oddsOfCopy_48 : decode cX8_oddsOfCopy 48 = .ok (.iload 4, 2) := by decide +kernel
theorem dX8_oddsOfCopy_50 : decode cX8_oddsOfCopy 50 = .ok (.iload_n 3, 1) := by decide +kernel
theorem dX8_oddsOfCopy_51 : decode cX8_oddsOfCopy 51 = .ok (.if_icmp .ne 14, 3) := by decide +kernel
theorem dX8_oddsOfCopy_54 : decode cX8_oddsOfCopy 54 = .ok (.bipush 16, 2) := by decide +kernel
theorem dX8_oddsOfCopy_56 : decode cX8_oddsOfCopy 56 = .ok (.aload_n 0, 1) := by decide +kernel
theorem dX8_oddsOfCopy_57 : decode cX8_oddsOfCopy 57 = .ok (.getfield 30, 3) := by decide +kernel
theorem dX8_oddsOfCopy_60 : decode cX8_oddsOfCopy 60 = .ok (.iload 5, 2) := by decide +kernel
theorem dX8_oddsOfCopy_62 : decode cX8_oddsOfCopy 62 = .ok (.iaload, 1) := by decide +kernel
theorem dX8_oddsOfCopy_63 : decode cX8_oddsOfCopy 63 = .ok (.isub, 1) := by decide +kernel
theorem dX8_oddsOfCopy_64 : decode cX8_oddsOfCopy 64 = .ok (.ireturn, 1) := by decide +kernel
theorem dX8_oddsOfCopy_65 : decode cX8_oddsOfCopy 65 = .ok (.iload 4, 2) := by decide +kernel
theorem dX8_oddsOfCopy_67 : decode cX8_oddsOfCopy 67 = .ok (.aload_n 0, 1) := by decide +kernel
theorem dX8_oddsOfCopy_68 : decode cX8_oddsOfCopy 68 = .ok (.getfield 24, 3) := by decide +kernel
theorem dX8_oddsOfCopy_71 : decode cX8_oddsOfCopy 71 = .ok (.iload 5, 2) := by decide +kernel
theorem dX8_oddsOfCopy_73 : decode cX8_oddsOfCopy 73 = .ok (.iaload, 1) := by decide +kernel
theorem dX8_oddsOfCopy_74 : decode cX8_oddsOfCopy 74 = .ok (.if_icmp .ne 13, 3) := by decide +kernel
theorem dX8_oddsOfCopy_77 : decode cX8_oddsOfCopy 77 = .ok (.aload_n 0, 1) := by decide +kernel
theorem dX8_oddsOfCopy_78 : decode cX8_oddsOfCopy 78 = .ok (.getfield 30, 3) := by decide +kernel
theorem dX8_oddsOfCopy_81 : decode cX8_oddsOfCopy 81 = .ok (.iload 5, 2) := by decide +kernel
theorem dX8_oddsOfCopy_83 : decode cX8_oddsOfCopy 83 = .ok (.iaload, 1) := by decide +kernel
theorem dX8_oddsOfCopy_84 : decode cX8_oddsOfCopy 84 = .ok (.goto 4, 3) := by decide +kernel
theorem dX8_oddsOfCopy_87 : decode cX8_oddsOfCopy 87 = .ok (.iconst 0, 1) := by decide +kernel
theorem dX8_oddsOfCopy_88 : decode cX8_oddsOfCopy 88 = .ok (.ireturn, 1) := by decide +kernel
abbrev mX8_oddsOfCopy : MD := (cX8_oddsOfCopy, "BlottedDeed$Testimony", 6, 2, 53, (some .int), "oddsOfCopy", [])
def bX8_oddsOfCopy_0 (g : GE) (J : Nat → KT) : KT := i_aload 0 (i_getf 8 2 (i_iload 1 (i_iaload (i_istore 4 (i_iload 2 (i_ifne (i_push (.int (-1)) (i_jmp [true, false, false, true, true, false] (J 1))) (i_aload 0 (i_aload 0 (i_getf 8 0 (i_iload 1 (i_iaload (i_iload 3 (i_cv fX8_lastHabit g 2 8 (i_jmp [true, false, false, true, true, false] (J 1)))))))))))))))
def bX8_oddsOfCopy_1 (g : GE) (J : Nat → KT) : KT := i_istore 5 (i_iload 5 (i_push (.int (-1)) (i_icne (i_iload 4 (i_iload 3 (i_icne (i_iload 4 (i_aload 0 (i_getf 8 4 (i_iload 5 (i_iaload (i_icne (i_push (.int 0) (i_jmp [false, false, false, false, false, false] (J 3))) (i_aload 0 (i_getf 8 6 (i_iload 5 (i_iaload (i_jmp [false, false, false, false, false, false] (J 3)))))))))))) (i_push (.int 16) (i_aload 0 (i_getf 8 6 (i_iload 5 (i_iaload (i_isub (i_ireturn)))))))))) (i_iload 4 (i_iload 3 (i_icne (i_push (.int 0) (i_jmp [false, false, false, false, false, false] (J 2))) (i_push (.int 16) (i_jmp [false, false, false, false, false, false] (J 2)))))))))
def bX8_oddsOfCopy_2 (g : GE) (J : Nat → KT) : KT := i_ireturn
def bX8_oddsOfCopy_3 (g : GE) (J : Nat → KT) : KT := i_ireturn
theorem sbX8_oddsOfCopy_0 (g : GE) (J : Nat → KT) (h1 : Snd mX8_oddsOfCopy g 27 (J 1)) (h2 : Snd mX8_oddsOfCopy g 47 (J 2)) (h3 : Snd mX8_oddsOfCopy g 88 (J 3)) : Snd mX8_oddsOfCopy g 0 (bX8_oddsOfCopy_0 g J) := by
  unfold bX8_oddsOfCopy_0
  refine s_aload_n (pc := 0) (i := 0) ?_ dX8_oddsOfCopy_0 rfl
  refine s_getf (pc := 1) (ci := 8) (f := 2) (T := TX8) ?_ ginX8 rfl (by decide) wt_423 dX8_oddsOfCopy_1
  refine s_iload_n (pc := 4) (i := 1) ?_ dX8_oddsOfCopy_4 rfl
  refine s_iaload (pc := 5) ?_ dX8_oddsOfCopy_5
  refine s_istore (pc := 6) (i := 4) ?_ dX8_oddsOfCopy_6 (by decide)
  refine s_iload_n (pc := 8) (i := 2) ?_ dX8_oddsOfCopy_8 rfl
  refine s_ifne (pc := 9) (tgt := 26) ?_ ?_ dX8_oddsOfCopy_9 (by decide)
  · skip
    refine s_iconst (pc := 26) (v := (-1)) ?_ dX8_oddsOfCopy_26 (by decide)
    exact s_fall (pc := 27) h1
  · skip
    refine s_aload_n (pc := 12) (i := 0) ?_ dX8_oddsOfCopy_12 rfl
    refine s_aload_n (pc := 13) (i := 0) ?_ dX8_oddsOfCopy_13 rfl
    refine s_getf (pc := 14) (ci := 8) (f := 0) (T := TX8) ?_ ginX8 rfl (by decide) wt_420 dX8_oddsOfCopy_14
    refine s_iload_n (pc := 17) (i := 1) ?_ dX8_oddsOfCopy_17 rfl
    refine s_iaload (pc := 18) ?_ dX8_oddsOfCopy_18
    refine s_iload_n (pc := 19) (i := 3) ?_ dX8_oddsOfCopy_19 rfl
    refine s_cv (pc := 20) (n := 2) (ci := 8) ?_ tX8_lastHabit rfl rfl wt_572 wt_574 wp_7 wt_16 wt_575 ⟨crX8_lastHabit, by decide, by decide⟩ dX8_oddsOfCopy_20
    exact s_goto (pc := 23) (tgt := 27) h1 dX8_oddsOfCopy_23 (by decide)
theorem sbX8_oddsOfCopy_1 (g : GE) (J : Nat → KT) (h1 : Snd mX8_oddsOfCopy g 27 (J 1)) (h2 : Snd mX8_oddsOfCopy g 47 (J 2)) (h3 : Snd mX8_oddsOfCopy g 88 (J 3)) : Snd mX8_oddsOfCopy g 27 (bX8_oddsOfCopy_1 g J) := by
  unfold bX8_oddsOfCopy_1
  refine s_istore (pc := 27) (i := 5) ?_ dX8_oddsOfCopy_27 (by decide)
  refine s_iload (pc := 29) (i := 5) ?_ dX8_oddsOfCopy_29
  refine s_iconst (pc := 31) (v := (-1)) ?_ dX8_oddsOfCopy_31 (by decide)
  refine s_icne (pc := 32) (tgt := 48) ?_ ?_ dX8_oddsOfCopy_32 (by decide)
  · skip
    refine s_iload (pc := 48) (i := 4) ?_ dX8_oddsOfCopy_48
    refine s_iload_n (pc := 50) (i := 3) ?_ dX8_oddsOfCopy_50 rfl
    refine s_icne (pc := 51) (tgt := 65) ?_ ?_ dX8_oddsOfCopy_51 (by decide)
    · skip
      refine s_iload (pc := 65) (i := 4) ?_ dX8_oddsOfCopy_65
      refine s_aload_n (pc := 67) (i := 0) ?_ dX8_oddsOfCopy_67 rfl
      refine s_getf (pc := 68) (ci := 8) (f := 4) (T := TX8) ?_ ginX8 rfl (by decide) wt_426 dX8_oddsOfCopy_68
      refine s_iload (pc := 71) (i := 5) ?_ dX8_oddsOfCopy_71
      refine s_iaload (pc := 73) ?_ dX8_oddsOfCopy_73
      refine s_icne (pc := 74) (tgt := 87) ?_ ?_ dX8_oddsOfCopy_74 (by decide)
      · skip
        refine s_iconst (pc := 87) (v := 0) ?_ dX8_oddsOfCopy_87 (by decide)
        exact s_fall (pc := 88) h3
      · skip
        refine s_aload_n (pc := 77) (i := 0) ?_ dX8_oddsOfCopy_77 rfl
        refine s_getf (pc := 78) (ci := 8) (f := 6) (T := TX8) ?_ ginX8 rfl (by decide) wt_428 dX8_oddsOfCopy_78
        refine s_iload (pc := 81) (i := 5) ?_ dX8_oddsOfCopy_81
        refine s_iaload (pc := 83) ?_ dX8_oddsOfCopy_83
        exact s_goto (pc := 84) (tgt := 88) h3 dX8_oddsOfCopy_84 (by decide)
    · skip
      refine s_bipush (pc := 54) (v := 16) ?_ dX8_oddsOfCopy_54 (by decide)
      refine s_aload_n (pc := 56) (i := 0) ?_ dX8_oddsOfCopy_56 rfl
      refine s_getf (pc := 57) (ci := 8) (f := 6) (T := TX8) ?_ ginX8 rfl (by decide) wt_428 dX8_oddsOfCopy_57
      refine s_iload (pc := 60) (i := 5) ?_ dX8_oddsOfCopy_60
      refine s_iaload (pc := 62) ?_ dX8_oddsOfCopy_62
      refine s_isub (pc := 63) ?_ dX8_oddsOfCopy_63
      exact s_ireturn (pc := 64) rfl dX8_oddsOfCopy_64
  · skip
    refine s_iload (pc := 35) (i := 4) ?_ dX8_oddsOfCopy_35
    refine s_iload_n (pc := 37) (i := 3) ?_ dX8_oddsOfCopy_37 rfl
    refine s_icne (pc := 38) (tgt := 46) ?_ ?_ dX8_oddsOfCopy_38 (by decide)
    · skip
      refine s_iconst (pc := 46) (v := 0) ?_ dX8_oddsOfCopy_46 (by decide)
      exact s_fall (pc := 47) h2
    · skip
      refine s_bipush (pc := 41) (v := 16) ?_ dX8_oddsOfCopy_41 (by decide)
      exact s_goto (pc := 43) (tgt := 47) h2 dX8_oddsOfCopy_43 (by decide)
theorem sbX8_oddsOfCopy_2 (g : GE) (J : Nat → KT) (h1 : Snd mX8_oddsOfCopy g 27 (J 1)) (h2 : Snd mX8_oddsOfCopy g 47 (J 2)) (h3 : Snd mX8_oddsOfCopy g 88 (J 3)) : Snd mX8_oddsOfCopy g 47 (bX8_oddsOfCopy_2 g J) := by
  unfold bX8_oddsOfCopy_2
  exact s_ireturn (pc := 47) rfl dX8_oddsOfCopy_47
theorem sbX8_oddsOfCopy_3 (g : GE) (J : Nat → KT) (h1 : Snd mX8_oddsOfCopy g 27 (J 1)) (h2 : Snd mX8_oddsOfCopy g 47 (J 2)) (h3 : Snd mX8_oddsOfCopy g 88 (J 3)) : Snd mX8_oddsOfCopy g 88 (bX8_oddsOfCopy_3 g J) := by
  unfold bX8_oddsOfCopy_3
  exact s_ireturn (pc := 88) rfl dX8_oddsOfCopy_88
def jX8_oddsOfCopy (g : GE) : Nat → Nat → KT
  | 0, _ => fun _ _ _ => none
  | n + 1, 0 => bX8_oddsOfCopy_0 g (jX8_oddsOfCopy g n)
  | n + 1, 1 => bX8_oddsOfCopy_1 g (jX8_oddsOfCopy g n)
  | n + 1, 2 => bX8_oddsOfCopy_2 g (jX8_oddsOfCopy g n)
  | n + 1, 3 => bX8_oddsOfCopy_3 g (jX8_oddsOfCopy g n)
  | _ + 1, _ + 4 => fun _ _ _ => none
theorem sjX8_oddsOfCopy (g : GE) : ∀ n, Snd mX8_oddsOfCopy g 0 (jX8_oddsOfCopy g n 0) ∧ Snd mX8_oddsOfCopy g 27 (jX8_oddsOfCopy g n 1) ∧ Snd mX8_oddsOfCopy g 47 (jX8_oddsOfCopy g n 2) ∧ Snd mX8_oddsOfCopy g 88 (jX8_oddsOfCopy g n 3)
  | 0 => ⟨s_none, s_none, s_none, s_none⟩
  | n + 1 => by
    obtain ⟨-, h1, h2, h3⟩ := sjX8_oddsOfCopy g n
    exact ⟨sbX8_oddsOfCopy_0 g _ h1 h2 h3, sbX8_oddsOfCopy_1 g _ h1 h2 h3, sbX8_oddsOfCopy_2 g _ h1 h2 h3, sbX8_oddsOfCopy_3 g _ h1 h2 h3⟩
def kX8_oddsOfCopy (g : GE) : KT := jX8_oddsOfCopy g g.1 0
theorem sX8_oddsOfCopy (g : GE) : Snd mX8_oddsOfCopy g 0 (kX8_oddsOfCopy g) := (sjX8_oddsOfCopy g g.1).1
def fX8_oddsOfCopy : FT := fun g av w => if (ent av).length ≤ 6 then kX8_oddsOfCopy g [] (entp 6 av) w else none
theorem tX8_oddsOfCopy : Mt yX8_oddsOfCopy cX8_oddsOfCopy 6 (some .int) 2 53 fX8_oddsOfCopy := Mt.of (K := kX8_oddsOfCopy) (by decide +kernel) (fun _ _ _ => rfl) sX8_oddsOfCopy
theorem crX8_oddsOfCopy : yX8_oddsOfCopy.cls ≠ "java/lang/invoke/MethodHandle" ∧ yX8_oddsOfCopy.cls ≠ "java/lang/invoke/VarHandle" ∧ (parseMethodDescriptor yX8_oddsOfCopy.desc).map (fun d => d.parameters.length) = some 3 := by decide +kernel
theorem dX5_weigh_0 : decode cX5_weigh 0 = .ok (.aload_n 0, 1) := by decide +kernel
theorem dX5_weigh_1 : decode cX5_weigh 1 = .ok (.aload_n 1, 1) := by decide +kernel
theorem dX5_weigh_2 : decode cX5_weigh 2 = .ok (.getfield 19, 3) := by decide +kernel
theorem dX5_weigh_5 : decode cX5_weigh 5 = .ok (.putfield 25, 3) := by decide +kernel
theorem dX5_weigh_8 : decode cX5_weigh 8 = .ok (.aload_n 0, 1) := by decide +kernel
theorem dX5_weigh_9 : decode cX5_weigh 9 = .ok (.getfield 9, 3) := by decide +kernel
theorem dX5_weigh_12 : decode cX5_weigh 12 = .ok (.lconst 1, 1) := by decide +kernel
theorem dX5_weigh_13 : decode cX5_weigh 13 = .ok (.invokestatic 26, 3) := by decide +kernel
theorem dX5_weigh_16 : decode cX5_weigh 16 = .ok (.aload_n 0, 1) := by decide +kernel
theorem dX5_weigh_17 : decode cX5_weigh 17 = .ok (.getfield 15, 3) := by decide +kernel
theorem dX5_weigh_20 : decode cX5_weigh 20 = .ok (.iconst 0, 1) := by decide +kernel
theorem dX5_weigh_21 : decode cX5_weigh 21 = .ok (.invokestatic 32, 3) := by decide +kernel
theorem dX5_weigh_24 : decode cX5_weigh 24 = .ok (.iconst 0, 1) := by decide +kernel
theorem dX5_weigh_25 : decode cX5_weigh 25 = .ok (.istore_n 3, 1) := by decide +kernel
theorem dX5_weigh_26 : decode cX5_weigh 26 = .ok (.iload_n 3, 1) := by decide +kernel
theorem dX5_weigh_27 : decode cX5_weigh 27 = .ok (.aload_n 2, 1) := by decide +kernel
theorem dX5_weigh_28 : decode cX5_weigh 28 = .ok (.getfield 35, 3) := by decide +kernel
theorem dX5_weigh_31 : decode cX5_weigh 31 = .ok (.if_icmp .ge 114, 3) := by decide +kernel
theorem dX5_weigh_34 : decode cX5_weigh 34 = .ok (.aload_n 2, 1) := by decide +kernel
theorem dX5_weigh_35 : decode cX5_weigh 35 = .ok (.getfield 40, 3) := by decide +kernel
theorem dX5_weigh_38 : decode cX5_weigh 38 = .ok (.iload_n 3, 1) := by decide +kernel
theorem dX5_weigh_39 : decode cX5_weigh 39 = .ok (.iaload, 1) := by decide +kernel
theorem dX5_weigh_40 : decode cX5_weigh 40 = .ok (.istore 4, 2) := by decide +kernel
theorem dX5_weigh_42 : decode cX5_weigh 42 = .ok (.aload_n 1, 1) := by decide +kernel
theorem dX5_weigh_43 : decode cX5_weigh 43 = .ok (.getfield 43, 3) := by decide +kernel
theorem dX5_weigh_46 : decode cX5_weigh 46 = .ok (.iload 4, 2) := by decide +kernel
theorem dX5_weigh_48 : decode cX5_weigh 48 = .ok (.aaload, 1) := by decide +kernel
theorem dX5_weigh_49 : decode cX5_weigh 49 = .ok (.astore 5, 2) := by decide +kernel
theorem dX5_weigh_51 : decode cX5_weigh 51 = .ok (.iconst 0, 1) := by decide +kernel
theorem dX5_weigh_52 : decode cX5_weigh 52 = .ok (.istore 6, 2) := by decide +kernel
theorem dX5_weigh_54 : decode cX5_weigh 54 = .ok (.iload 6, 2) := by decide +kernel
theorem dX5_weigh_56 : decode cX5_weigh 56 = .ok (.aload 5, 2) := by decide +kernel
theorem dX5_weigh_58 : decode cX5_weigh 58 = .ok (.getfield 47, 3) := by decide +kernel
theorem dX5_weigh_61 : decode cX5_weigh 61 = .ok (.if_icmp .ge 78, 3) := by decide +kernel
theorem dX5_weigh_64 : decode cX5_weigh 64 = .ok (.aload_n 0, 1) := by decide +kernel
theorem dX5_weigh_65 : decode cX5_weigh 65 = .ok (.getfield 9, 3) := by decide +kernel
theorem dX5_weigh_68 : decode cX5_weigh 68 = .ok (.iload 4, 2) := by decide +kernel
theorem dX5_weigh_70 : decode cX5_weigh 70 = .ok (.bipush 100, 2) := by decide +kernel
theorem dX5_weigh_72 : decode cX5_weigh 72 = .ok (.imul, 1) := by decide +kernel
theorem dX5_weigh_73 : decode cX5_weigh 73 = .ok (.iload 6, 2) := by decide +kernel
theorem dX5_weigh_75 : decode cX5_weigh 75 = .ok (.iadd, 1) := by decide +kernel
theorem dX5_weigh_76 : decode cX5_weigh 76 = .ok (.dup2, 1) := by decide +kernel
theorem dX5_weigh_77 : decode cX5_weigh 77 = .ok (.laload, 1) := by decide +kernel
theorem dX5_weigh_78 : decode cX5_weigh 78 = .ok (.aload_n 2, 1) := by decide +kernel
theorem dX5_weigh_79 : decode cX5_weigh 79 = .ok (.iload_n 3, 1) := by decide +kernel
theorem dX5_weigh_80 : decode cX5_weigh 80 = .ok (.aload 5, 2) := by decide +kernel
theorem dX5_weigh_82 : decode cX5_weigh 82 = .ok (.getfield 52, 3) := by decide +kernel
theorem dX5_weigh_85 : decode cX5_weigh 85 = .ok (.aload 5, 2) := by decide +kernel
theorem dX5_weigh_87 : decode cX5_weigh 87 = .ok (.getfield 55, 3) := by decide +kernel
theorem dX5_weigh_90 : decode cX5_weigh 90 = .ok (.iload 6, 2) := by decide +kernel
theorem dX5_weigh_92 : decode cX5_weigh 92 = .ok (.iaload, 1) := by decide +kernel
theorem dX5_weigh_93 : decode cX5_weigh 93 = .ok (.invokevirtual 58, 3) := by decide +kernel
theorem dX5_weigh_96 : decode cX5_weigh 96 = .ok (.i2l, 1) := by decide +kernel
theorem dX5_weigh_97 : decode cX5_weigh 97 = .ok (.lmul, 1) := by decide +kernel
theorem dX5_weigh_98 : decode cX5_weigh 98 = .ok (.lastore, 1) := by decide +kernel
theorem dX5_weigh_99 : decode cX5_weigh 99 = .ok (.aload_n 2, 1) := by decide +kernel
theorem dX5_weigh_100 : decode cX5_weigh 100 = .ok (.getfield 62, 3) := by decide +kernel
theorem dX5_weigh_103 : decode cX5_weigh 103 = .ok (.iload_n 3, 1) := by decide +kernel
theorem dX5_weigh_104 : decode cX5_weigh 104 = .ok (.iaload, 1) := by decide +kernel
theorem dX5_weigh_105 : decode cX5_weigh 105 = .ok (.aload 5, 2) := by decide +kernel
theorem dX5_weigh_107 : decode cX5_weigh 107 = .ok (.getfield 55, 3) := by decide +kernel
theorem dX5_weigh_110 : decode cX5_weigh 110 = .ok (.iload 6, 2) := by decide +kernel
theorem dX5_weigh_112 : decode cX5_weigh 112 = .ok (.iaload, 1) := by decide +kernel
theorem dX5_weigh_113 : decode cX5_weigh 113 = .ok (.if_icmp .eq 20, 3) := by decide +kernel
theorem dX5_weigh_116 : decode cX5_weigh 116 = .ok (.aload_n 0, 1) := by decide +kernel
theorem dX5_weigh_117 : decode cX5_weigh 117 = .ok (.getfield 15, 3) := by decide +kernel
theorem dX5_weigh_120 : decode cX5_weigh 120 = .ok (.iload 4, 2) := by decide +kernel
theorem dX5_weigh_122 : decode cX5_weigh 122 = .ok (.bipush 100, 2) := by decide +kernel
theorem dX5_weigh_124 : decode cX5_weigh 124 = .ok (.imul, 1) := by decide +kernel
theorem dX5_weigh_125 : decode cX5_weigh 125 = .ok (.iload 6, 2) := by decide +kernel
theorem dX5_weigh_127 : decode cX5_weigh 127 = .ok (.iadd, 1) := by decide +kernel
theorem dX5_weigh_128 : decode cX5_weigh 128 = .ok (.dup2, 1) := by decide +kernel
theorem dX5_weigh_129 : decode cX5_weigh 129 = .ok (.iaload, 1) := by decide +kernel
theorem dX5_weigh_130 : decode cX5_weigh 130 = .ok (.iconst 1, 1) := by decide +kernel
theorem dX5_weigh_131 : decode cX5_weigh 131 = .ok (.iadd, 1) := by decide +kernel
theorem dX5_weigh_132 : decode cX5_weigh 132 = .ok (.iastore, 1) := by decide +kernel
theorem dX5_weigh_133 : decode cX5_weigh 133 = .ok (.iinc 6 1, 3) := by decide +kernel
theorem dX5_weigh_136 : decode cX5_weigh 136 = .ok (.goto (-82), 3) := by decide +kernel
theorem dX5_weigh_139 : decode cX5_weigh 139 = .ok (.iinc 3 1, 3) := by decide +kernel
theorem dX5_weigh_142 : decode cX5_weigh 142 = .ok (.goto (-116), 3) := by decide +kernel
theorem dX5_weigh_145 : decode cX5_weigh 145 = .ok (.return_, 1) := by decide +kernel
abbrev mX5_weigh : MD := (cX5_weigh, "BlottedDeed$Scales", 7, 3, 78, none, "weigh", [])
def bX5_weigh_0 (g : GE) (J : Nat → KT) : KT := i_aload 0 (i_aload 1 (i_getf 2 13 (i_putf 5 2 .int (i_aload 0 (i_getf 5 0 (i_push (.long 1) (i_cs fJ7_fill_d0a16 g 2 (i_aload 0 (i_getf 5 1 (i_push (.int 0) (i_cs fJ7_fill_53178 g 2 (i_push (.int 0) (i_istore 3 (i_jmp [true, true, true, true, false, false, false] (J 1)))))))))))))))
def bX5_weigh_1 (g : GE) (J : Nat → KT) : KT := i_iload 3 (i_aload 2 (i_getf 8 7 (i_icge (i_return) (i_aload 2 (i_getf 8 1 (i_iload 3 (i_iaload (i_istore 4 (i_aload 1 (i_getf 2 8 (i_iload 4 (i_aaload 6 (i_astore 5 (i_push (.int 0) (i_istore 6 (i_jmp [true, true, true, true, true, true, true] (J 2)))))))))))))))))
def bX5_weigh_2 (g : GE) (J : Nat → KT) : KT := i_iload 6 (i_aload 5 (i_getf 1 1 (i_icge (i_iinc 3 1 (i_jmp [true, true, true, true, false, false, false] (J 1))) (i_aload 0 (i_getf 5 0 (i_iload 4 (i_push (.int 100) (i_imul (i_iload 6 (i_iadd (i_dup2 (i_laload (i_aload 2 (i_iload 3 (i_aload 5 (i_getf 1 2 (i_aload 5 (i_getf 1 0 (i_iload 6 (i_iaload (i_cv fX8_oddsOfCopy g 3 8 (i_i2l (i_lmul (i_lastore (i_aload 2 (i_getf 8 2 (i_iload 3 (i_iaload (i_aload 5 (i_getf 1 0 (i_iload 6 (i_iaload (i_iceq (i_jmp [true, true, true, true, true, true, true] (J 3)) (i_aload 0 (i_getf 5 1 (i_iload 4 (i_push (.int 100) (i_imul (i_iload 6 (i_iadd (i_dup2 (i_iaload (i_push (.int 1) (i_iadd (i_iastore (i_jmp [true, true, true, true, true, true, true] (J 3)))))))))))))))))))))))))))))))))))))))))))))))
def bX5_weigh_3 (g : GE) (J : Nat → KT) : KT := i_iinc 6 1 (i_jmp [true, true, true, true, true, true, true] (J 2))
theorem sbX5_weigh_0 (g : GE) (J : Nat → KT) (h1 : Snd mX5_weigh g 26 (J 1)) (h2 : Snd mX5_weigh g 54 (J 2)) (h3 : Snd mX5_weigh g 133 (J 3)) : Snd mX5_weigh g 0 (bX5_weigh_0 g J) := by
  unfold bX5_weigh_0
  refine s_aload_n (pc := 0) (i := 0) ?_ dX5_weigh_0 rfl
  refine s_aload_n (pc := 1) (i := 1) ?_ dX5_weigh_1 rfl
  refine s_getf (pc := 2) (ci := 2) (f := 13) (T := TX2) ?_ ginX2 rfl (by decide) wt_142 dX5_weigh_2
  refine s_putf (pc := 5) (ci := 5) (f := 2) (T := TX5) (ty0 := tyX5) ?_ ginX5 tyX5_ok nmX5 rfl (by decide) rfl rfl wt_406 dX5_weigh_5
  refine s_aload_n (pc := 8) (i := 0) ?_ dX5_weigh_8 rfl
  refine s_getf (pc := 9) (ci := 5) (f := 0) (T := TX5) ?_ ginX5 rfl (by decide) wt_404 dX5_weigh_9
  refine s_lconst (pc := 12) (v := 1) ?_ dX5_weigh_12 (by decide)
  refine s_cs (pc := 13) (n := 2) ?_ tJ7_fill_d0a16 wt_564 wt_565 wt_10 wt_566 ⟨crJ7_fill_d0a16, by decide, by decide⟩ dX5_weigh_13
  refine s_aload_n (pc := 16) (i := 0) ?_ dX5_weigh_16 rfl
  refine s_getf (pc := 17) (ci := 5) (f := 1) (T := TX5) ?_ ginX5 rfl (by decide) wt_405 dX5_weigh_17
  refine s_iconst (pc := 20) (v := 0) ?_ dX5_weigh_20 (by decide)
  refine s_cs (pc := 21) (n := 2) ?_ tJ7_fill_53178 wt_567 wt_261 wt_10 wt_262 ⟨crJ7_fill_53178, by decide, by decide⟩ dX5_weigh_21
  refine s_iconst (pc := 24) (v := 0) ?_ dX5_weigh_24 (by decide)
  refine s_istore_n (pc := 25) (i := 3) ?_ dX5_weigh_25 rfl (by decide)
  exact s_fall (pc := 26) h1
theorem sbX5_weigh_1 (g : GE) (J : Nat → KT) (h1 : Snd mX5_weigh g 26 (J 1)) (h2 : Snd mX5_weigh g 54 (J 2)) (h3 : Snd mX5_weigh g 133 (J 3)) : Snd mX5_weigh g 26 (bX5_weigh_1 g J) := by
  unfold bX5_weigh_1
  refine s_iload_n (pc := 26) (i := 3) ?_ dX5_weigh_26 rfl
  refine s_aload_n (pc := 27) (i := 2) ?_ dX5_weigh_27 rfl
  refine s_getf (pc := 28) (ci := 8) (f := 7) (T := TX8) ?_ ginX8 rfl (by decide) wt_430 dX5_weigh_28
  refine s_icge (pc := 31) (tgt := 145) ?_ ?_ dX5_weigh_31 (by decide)
  · skip
    exact s_return (pc := 145) rfl dX5_weigh_145
  · skip
    refine s_aload_n (pc := 34) (i := 2) ?_ dX5_weigh_34 rfl
    refine s_getfN (pc := 35) (ci := 8) (f := 1) (T := TX8) ?_ ginX8 rfl (by decide) (by decide +kernel : Cond.fieldLinkNest "BlottedDeed$Scales" 40 "BlottedDeed$Testimony" "copyBlot" "[I" "BlottedDeed" ∈ owl) dX5_weigh_35
    refine s_iload_n (pc := 38) (i := 3) ?_ dX5_weigh_38 rfl
    refine s_iaload (pc := 39) ?_ dX5_weigh_39
    refine s_istore (pc := 40) (i := 4) ?_ dX5_weigh_40 (by decide)
    refine s_aload_n (pc := 42) (i := 1) ?_ dX5_weigh_42 rfl
    refine s_getf (pc := 43) (ci := 2) (f := 8) (T := TX2) ?_ ginX2 rfl (by decide) wt_125 dX5_weigh_43
    refine s_iload (pc := 46) (i := 4) ?_ dX5_weigh_46
    refine s_aaload (pc := 48) (t := 6) ?_ (by decide) rfl dX5_weigh_48
    refine s_astore (pc := 49) (i := 5) ?_ dX5_weigh_49 (by decide)
    refine s_iconst (pc := 51) (v := 0) ?_ dX5_weigh_51 (by decide)
    refine s_istore (pc := 52) (i := 6) ?_ dX5_weigh_52 (by decide)
    exact s_fall (pc := 54) h2
theorem sbX5_weigh_2 (g : GE) (J : Nat → KT) (h1 : Snd mX5_weigh g 26 (J 1)) (h2 : Snd mX5_weigh g 54 (J 2)) (h3 : Snd mX5_weigh g 133 (J 3)) : Snd mX5_weigh g 54 (bX5_weigh_2 g J) := by
  unfold bX5_weigh_2
  refine s_iload (pc := 54) (i := 6) ?_ dX5_weigh_54
  refine s_aload (pc := 56) (i := 5) ?_ dX5_weigh_56
  refine s_getf (pc := 58) (ci := 1) (f := 1) (T := TX1) ?_ ginX1 rfl (by decide) wt_82 dX5_weigh_58
  refine s_icge (pc := 61) (tgt := 139) ?_ ?_ dX5_weigh_61 (by decide)
  · skip
    refine s_iinc (pc := 139) (i := 3) (v := 1) ?_ dX5_weigh_139 (by decide) (by decide)
    exact s_goto (pc := 142) (tgt := 26) h1 dX5_weigh_142 (by decide)
  · skip
    refine s_aload_n (pc := 64) (i := 0) ?_ dX5_weigh_64 rfl
    refine s_getf (pc := 65) (ci := 5) (f := 0) (T := TX5) ?_ ginX5 rfl (by decide) wt_404 dX5_weigh_65
    refine s_iload (pc := 68) (i := 4) ?_ dX5_weigh_68
    refine s_bipush (pc := 70) (v := 100) ?_ dX5_weigh_70 (by decide)
    refine s_imul (pc := 72) ?_ dX5_weigh_72
    refine s_iload (pc := 73) (i := 6) ?_ dX5_weigh_73
    refine s_iadd (pc := 75) ?_ dX5_weigh_75
    refine s_dup2 (pc := 76) ?_ dX5_weigh_76
    refine s_laload (pc := 77) ?_ dX5_weigh_77
    refine s_aload_n (pc := 78) (i := 2) ?_ dX5_weigh_78 rfl
    refine s_iload_n (pc := 79) (i := 3) ?_ dX5_weigh_79 rfl
    refine s_aload (pc := 80) (i := 5) ?_ dX5_weigh_80
    refine s_getf (pc := 82) (ci := 1) (f := 2) (T := TX1) ?_ ginX1 rfl (by decide) wt_88 dX5_weigh_82
    refine s_aload (pc := 85) (i := 5) ?_ dX5_weigh_85
    refine s_getf (pc := 87) (ci := 1) (f := 0) (T := TX1) ?_ ginX1 rfl (by decide) wt_76 dX5_weigh_87
    refine s_iload (pc := 90) (i := 6) ?_ dX5_weigh_90
    refine s_iaload (pc := 92) ?_ dX5_weigh_92
    refine s_cv (pc := 93) (n := 3) (ci := 8) ?_ tX8_oddsOfCopy rfl rfl wt_568 wt_569 wt_570 wt_16 wt_571 ⟨crX8_oddsOfCopy, by decide, by decide⟩ dX5_weigh_93
    refine s_i2l (pc := 96) ?_ dX5_weigh_96
    refine s_lmul (pc := 97) ?_ dX5_weigh_97
    refine s_lastore (pc := 98) ?_ dX5_weigh_98
    refine s_aload_n (pc := 99) (i := 2) ?_ dX5_weigh_99 rfl
    refine s_getfN (pc := 100) (ci := 8) (f := 2) (T := TX8) ?_ ginX8 rfl (by decide) (by decide +kernel : Cond.fieldLinkNest "BlottedDeed$Scales" 62 "BlottedDeed$Testimony" "copyTells" "[I" "BlottedDeed" ∈ owl) dX5_weigh_100
    refine s_iload_n (pc := 103) (i := 3) ?_ dX5_weigh_103 rfl
    refine s_iaload (pc := 104) ?_ dX5_weigh_104
    refine s_aload (pc := 105) (i := 5) ?_ dX5_weigh_105
    refine s_getf (pc := 107) (ci := 1) (f := 0) (T := TX1) ?_ ginX1 rfl (by decide) wt_76 dX5_weigh_107
    refine s_iload (pc := 110) (i := 6) ?_ dX5_weigh_110
    refine s_iaload (pc := 112) ?_ dX5_weigh_112
    refine s_iceq (pc := 113) (tgt := 133) ?_ ?_ dX5_weigh_113 (by decide)
    · skip
      exact s_fall (pc := 133) h3
    · skip
      refine s_aload_n (pc := 116) (i := 0) ?_ dX5_weigh_116 rfl
      refine s_getf (pc := 117) (ci := 5) (f := 1) (T := TX5) ?_ ginX5 rfl (by decide) wt_405 dX5_weigh_117
      refine s_iload (pc := 120) (i := 4) ?_ dX5_weigh_120
      refine s_bipush (pc := 122) (v := 100) ?_ dX5_weigh_122 (by decide)
      refine s_imul (pc := 124) ?_ dX5_weigh_124
      refine s_iload (pc := 125) (i := 6) ?_ dX5_weigh_125
      refine s_iadd (pc := 127) ?_ dX5_weigh_127
      refine s_dup2 (pc := 128) ?_ dX5_weigh_128
      refine s_iaload (pc := 129) ?_ dX5_weigh_129
      refine s_iconst (pc := 130) (v := 1) ?_ dX5_weigh_130 (by decide)
      refine s_iadd (pc := 131) ?_ dX5_weigh_131
      refine s_iastore (pc := 132) ?_ dX5_weigh_132
      exact s_fall (pc := 133) h3
theorem sbX5_weigh_3 (g : GE) (J : Nat → KT) (h1 : Snd mX5_weigh g 26 (J 1)) (h2 : Snd mX5_weigh g 54 (J 2)) (h3 : Snd mX5_weigh g 133 (J 3)) : Snd mX5_weigh g 133 (bX5_weigh_3 g J) := by
  unfold bX5_weigh_3
  refine s_iinc (pc := 133) (i := 6) (v := 1) ?_ dX5_weigh_133 (by decide) (by decide)
  exact s_goto (pc := 136) (tgt := 54) h2 dX5_weigh_136 (by decide)
def jX5_weigh (g : GE) : Nat → Nat → KT
  | 0, _ => fun _ _ _ => none
  | n + 1, 0 => bX5_weigh_0 g (jX5_weigh g n)
  | n + 1, 1 => bX5_weigh_1 g (jX5_weigh g n)
  | n + 1, 2 => bX5_weigh_2 g (jX5_weigh g n)
  | n + 1, 3 => bX5_weigh_3 g (jX5_weigh g n)
  | _ + 1, _ + 4 => fun _ _ _ => none
theorem sjX5_weigh (g : GE) : ∀ n, Snd mX5_weigh g 0 (jX5_weigh g n 0) ∧ Snd mX5_weigh g 26 (jX5_weigh g n 1) ∧ Snd mX5_weigh g 54 (jX5_weigh g n 2) ∧ Snd mX5_weigh g 133 (jX5_weigh g n 3)
  | 0 => ⟨s_none, s_none, s_none, s_none⟩
  | n + 1 => by
    obtain ⟨-, h1, h2, h3⟩ := sjX5_weigh g n
    exact ⟨sbX5_weigh_0 g _ h1 h2 h3, sbX5_weigh_1 g _ h1 h2 h3, sbX5_weigh_2 g _ h1 h2 h3, sbX5_weigh_3 g _ h1 h2 h3⟩
def kX5_weigh (g : GE) : KT := jX5_weigh g g.1 0
theorem sX5_weigh (g : GE) : Snd mX5_weigh g 0 (kX5_weigh g) := (sjX5_weigh g g.1).1
def fX5_weigh : FT := fun g av w => if (ent av).length ≤ 7 then kX5_weigh g [] (entp 7 av) w else none
theorem tX5_weigh : Mt yX5_weigh cX5_weigh 7 none 3 78 fX5_weigh := Mt.of (K := kX5_weigh) (by decide +kernel) (fun _ _ _ => rfl) sX5_weigh
theorem crX5_weigh : yX5_weigh.cls ≠ "java/lang/invoke/MethodHandle" ∧ yX5_weigh.cls ≠ "java/lang/invoke/VarHandle" ∧ (parseMethodDescriptor yX5_weigh.desc).map (fun d => d.parameters.length) = some 2 := by decide +kernel
theorem dX5_oddsOf_0 : decode cX5_oddsOf 0 = .ok (.lconst 1, 1) := by decide +kernel
theorem dX5_oddsOf_1 : decode cX5_oddsOf 1 = .ok (.lstore_n 3, 1) := by decide +kernel
theorem dX5_oddsOf_2 : decode cX5_oddsOf 2 = .ok (.iconst 0, 1) := by decide +kernel
theorem dX5_oddsOf_3 : decode cX5_oddsOf 3 = .ok (.istore 5, 2) := by decide +kernel
theorem dX5_oddsOf_5 : decode cX5_oddsOf 5 = .ok (.iload 5, 2) := by decide +kernel
theorem dX5_oddsOf_7 : decode cX5_oddsOf 7 = .ok (.aload_n 0, 1) := by decide +kernel
theorem dX5_oddsOf_8 : decode cX5_oddsOf 8 = .ok (.getfield 25, 3) := by decide +kernel
theorem dX5_oddsOf_11 : decode cX5_oddsOf 11 = .ok (.if_icmp .ge 29, 3) := by decide +kernel
theorem dX5_oddsOf_14 : decode cX5_oddsOf 14 = .ok (.lload_n 3, 1) := by decide +kernel
theorem dX5_oddsOf_15 : decode cX5_oddsOf 15 = .ok (.aload_n 0, 1) := by decide +kernel
theorem dX5_oddsOf_16 : decode cX5_oddsOf 16 = .ok (.getfield 9, 3) := by decide +kernel
theorem dX5_oddsOf_19 : decode cX5_oddsOf 19 = .ok (.iload 5, 2) := by decide +kernel
theorem dX5_oddsOf_21 : decode cX5_oddsOf 21 = .ok (.bipush 100, 2) := by decide +kernel
theorem dX5_oddsOf_23 : decode cX5_oddsOf 23 = .ok (.imul, 1) := by decide +kernel
theorem dX5_oddsOf_24 : decode cX5_oddsOf 24 = .ok (.lload_n 1, 1) := by decide +kernel
theorem dX5_oddsOf_25 : decode cX5_oddsOf 25 = .ok (.iload 5, 2) := by decide +kernel
theorem dX5_oddsOf_27 : decode cX5_oddsOf 27 = .ok (.invokestatic 65, 3) := by decide +kernel
theorem dX5_oddsOf_30 : decode cX5_oddsOf 30 = .ok (.iadd, 1) := by decide +kernel
theorem dX5_oddsOf_31 : decode cX5_oddsOf 31 = .ok (.laload, 1) := by decide +kernel
theorem dX5_oddsOf_32 : decode cX5_oddsOf 32 = .ok (.lmul, 1) := by decide +kernel
theorem dX5_oddsOf_33 : decode cX5_oddsOf 33 = .ok (.lstore_n 3, 1) := by decide +kernel
theorem dX5_oddsOf_34 : decode cX5_oddsOf 34 = .ok (.iinc 5 1, 3) := by decide +kernel
theorem dX5_oddsOf_37 : decode cX5_oddsOf 37 = .ok (.goto (-32), 3) := by decide +kernel
theorem dX5_oddsOf_40 : decode cX5_oddsOf 40 = .ok (.lload_n 3, 1) := by decide +kernel
theorem dX5_oddsOf_41 : decode cX5_oddsOf 41 = .ok (.lreturn, 1) := by decide +kernel
abbrev mX5_oddsOf : MD := (cX5_oddsOf, "BlottedDeed$Scales", 6, 2, 52, (some .long), "oddsOf", [])
def bX5_oddsOf_0 (g : GE) (J : Nat → KT) : KT := i_push (.long 1) (i_lstore 3 (i_push (.int 0) (i_istore 5 (i_jmp [true, true, false, true, false, true] (J 1)))))
def bX5_oddsOf_1 (g : GE) (J : Nat → KT) : KT := i_iload 5 (i_aload 0 (i_getf 5 2 (i_icge (i_lload 3 (i_lreturn)) (i_lload 3 (i_aload 0 (i_getf 5 0 (i_iload 5 (i_push (.int 100) (i_imul (i_lload 1 (i_iload 5 (i_cs fX4_digitIn g 2 (i_iadd (i_laload (i_lmul (i_lstore 3 (i_iinc 5 1 (i_jmp [true, true, false, true, false, true] (J 1)))))))))))))))))))
theorem sbX5_oddsOf_0 (g : GE) (J : Nat → KT) (h1 : Snd mX5_oddsOf g 5 (J 1)) : Snd mX5_oddsOf g 0 (bX5_oddsOf_0 g J) := by
  unfold bX5_oddsOf_0
  refine s_lconst (pc := 0) (v := 1) ?_ dX5_oddsOf_0 (by decide)
  refine s_lstore_n (pc := 1) (i := 3) ?_ dX5_oddsOf_1 rfl (by decide)
  refine s_iconst (pc := 2) (v := 0) ?_ dX5_oddsOf_2 (by decide)
  refine s_istore (pc := 3) (i := 5) ?_ dX5_oddsOf_3 (by decide)
  exact s_fall (pc := 5) h1
theorem sbX5_oddsOf_1 (g : GE) (J : Nat → KT) (h1 : Snd mX5_oddsOf g 5 (J 1)) : Snd mX5_oddsOf g 5 (bX5_oddsOf_1 g J) := by
  unfold bX5_oddsOf_1
  refine s_iload (pc := 5) (i := 5) ?_ dX5_oddsOf_5
  refine s_aload_n (pc := 7) (i := 0) ?_ dX5_oddsOf_7 rfl
  refine s_getf (pc := 8) (ci := 5) (f := 2) (T := TX5) ?_ ginX5 rfl (by decide) wt_406 dX5_oddsOf_8
  refine s_icge (pc := 11) (tgt := 40) ?_ ?_ dX5_oddsOf_11 (by decide)
  · skip
    refine s_lload_n (pc := 40) (i := 3) ?_ dX5_oddsOf_40 rfl
    exact s_lreturn (pc := 41) rfl dX5_oddsOf_41
  · skip
    refine s_lload_n (pc := 14) (i := 3) ?_ dX5_oddsOf_14 rfl
    refine s_aload_n (pc := 15) (i := 0) ?_ dX5_oddsOf_15 rfl
    refine s_getf (pc := 16) (ci := 5) (f := 0) (T := TX5) ?_ ginX5 rfl (by decide) wt_404 dX5_oddsOf_16
    refine s_iload (pc := 19) (i := 5) ?_ dX5_oddsOf_19
    refine s_bipush (pc := 21) (v := 100) ?_ dX5_oddsOf_21 (by decide)
    refine s_imul (pc := 23) ?_ dX5_oddsOf_23
    refine s_lload_n (pc := 24) (i := 1) ?_ dX5_oddsOf_24 rfl
    refine s_iload (pc := 25) (i := 5) ?_ dX5_oddsOf_25
    refine s_cs (pc := 27) (n := 2) ?_ tX4_digitIn wt_580 wt_543 wt_9 wt_544 ⟨crX4_digitIn, by decide, by decide⟩ dX5_oddsOf_27
    refine s_iadd (pc := 30) ?_ dX5_oddsOf_30
    refine s_laload (pc := 31) ?_ dX5_oddsOf_31
    refine s_lmul (pc := 32) ?_ dX5_oddsOf_32
    refine s_lstore_n (pc := 33) (i := 3) ?_ dX5_oddsOf_33 rfl (by decide)
    refine s_iinc (pc := 34) (i := 5) (v := 1) ?_ dX5_oddsOf_34 (by decide) (by decide)
    exact s_goto (pc := 37) (tgt := 5) h1 dX5_oddsOf_37 (by decide)
def jX5_oddsOf (g : GE) : Nat → Nat → KT
  | 0, _ => fun _ _ _ => none
  | n + 1, 0 => bX5_oddsOf_0 g (jX5_oddsOf g n)
  | n + 1, 1 => bX5_oddsOf_1 g (jX5_oddsOf g n)
  | _ + 1, _ + 2 => fun _ _ _ => none
theorem sjX5_oddsOf (g : GE) : ∀ n, Snd mX5_oddsOf g 0 (jX5_oddsOf g n 0) ∧ Snd mX5_oddsOf g 5 (jX5_oddsOf g n 1)
  | 0 => ⟨s_none, s_none⟩
  | n + 1 => by
    obtain ⟨-, h1⟩ := sjX5_oddsOf g n
    exact ⟨sbX5_oddsOf_0 g _ h1, sbX5_oddsOf_1 g _ h1⟩
def kX5_oddsOf (g : GE) : KT := jX5_oddsOf g g.1 0
theorem sX5_oddsOf (g : GE) : Snd mX5_oddsOf g 0 (kX5_oddsOf g) := (sjX5_oddsOf g g.1).1
def fX5_oddsOf : FT := fun g av w => if (ent av).length ≤ 6 then kX5_oddsOf g [] (entp 6 av) w else none
theorem tX5_oddsOf : Mt yX5_oddsOf cX5_oddsOf 6 (some .long) 2 52 fX5_oddsOf := Mt.of (K := kX5_oddsOf) (by decide +kernel) (fun _ _ _ => rfl) sX5_oddsOf
theorem crX5_oddsOf : yX5_oddsOf.cls ≠ "java/lang/invoke/MethodHandle" ∧ yX5_oddsOf.cls ≠ "java/lang/invoke/VarHandle" ∧ (parseMethodDescriptor yX5_oddsOf.desc).map (fun d => d.parameters.length) = some 1 := by decide +kernel
theorem dX10_likeliest_0 : decode cX10_likeliest 0 = .ok (.aload_n 0, 1) := by decide +kernel
theorem dX10_likeliest_1 : decode cX10_likeliest 1 = .ok (.getfield 51, 3) := by decide +kernel
theorem dX10_likeliest_4 : decode cX10_likeliest 4 = .ok (.aload_n 0, 1) := by decide +kernel
theorem dX10_likeliest_5 : decode cX10_likeliest 5 = .ok (.getfield 16, 3) := by decide +kernel
theorem dX10_likeliest_8 : decode cX10_likeliest 8 = .ok (.aload_n 0, 1) := by decide +kernel
theorem dX10_likeliest_9 : decode cX10_likeliest 9 = .ok (.getfield 58, 3) := by decide +kernel
theorem dX10_likeliest_12 : decode cX10_likeliest 12 = .ok (.invokevirtual 246, 3) := by decide +kernel
theorem dX10_likeliest_15 : decode cX10_likeliest 15 = .ok (.iconst (-1), 1) := by decide +kernel
theorem dX10_likeliest_16 : decode cX10_likeliest 16 = .ok (.istore_n 1, 1) := by decide +kernel
theorem dX10_likeliest_17 : decode cX10_likeliest 17 = .ok (.lconst 0, 1) := by decide +kernel
theorem dX10_likeliest_18 : decode cX10_likeliest 18 = .ok (.lstore_n 2, 1) := by decide +kernel
theorem dX10_likeliest_19 : decode cX10_likeliest 19 = .ok (.iconst 0, 1) := by decide +kernel
theorem dX10_likeliest_20 : decode cX10_likeliest 20 = .ok (.istore 4, 2) := by decide +kernel
theorem dX10_likeliest_22 : decode cX10_likeliest 22 = .ok (.iload 4, 2) := by decide +kernel
theorem dX10_likeliest_24 : decode cX10_likeliest 24 = .ok (.aload_n 0, 1) := by decide +kernel
theorem dX10_likeliest_25 : decode cX10_likeliest 25 = .ok (.getfield 37, 3) := by decide +kernel
theorem dX10_likeliest_28 : decode cX10_likeliest 28 = .ok (.getfield 150, 3) := by decide +kernel
theorem dX10_likeliest_31 : decode cX10_likeliest 31 = .ok (.if_icmp .ge 41, 3) := by decide +kernel
theorem dX10_likeliest_34 : decode cX10_likeliest 34 = .ok (.aload_n 0, 1) := by decide +kernel
theorem dX10_likeliest_35 : decode cX10_likeliest 35 = .ok (.getfield 51, 3) := by decide +kernel
theorem dX10_likeliest_38 : decode cX10_likeliest 38 = .ok (.aload_n 0, 1) := by decide +kernel
theorem dX10_likeliest_39 : decode cX10_likeliest 39 = .ok (.getfield 37, 3) := by decide +kernel
theorem dX10_likeliest_42 : decode cX10_likeliest 42 = .ok (.getfield 250, 3) := by decide +kernel
theorem dX10_likeliest_45 : decode cX10_likeliest 45 = .ok (.iload 4, 2) := by decide +kernel
theorem dX10_likeliest_47 : decode cX10_likeliest 47 = .ok (.laload, 1) := by decide +kernel
theorem dX10_likeliest_48 : decode cX10_likeliest 48 = .ok (.invokevirtual 254, 3) := by decide +kernel
theorem dX10_likeliest_51 : decode cX10_likeliest 51 = .ok (.lstore 5, 2) := by decide +kernel
theorem dX10_likeliest_53 : decode cX10_likeliest 53 = .ok (.lload 5, 2) := by decide +kernel
theorem dX10_likeliest_55 : decode cX10_likeliest 55 = .ok (.lload_n 2, 1) := by decide +kernel
theorem dX10_likeliest_56 : decode cX10_likeliest 56 = .ok (.lcmp, 1) := by decide +kernel
theorem dX10_likeliest_57 : decode cX10_likeliest 57 = .ok (.ifCond .le 9, 3) := by decide +kernel
theorem dX10_likeliest_60 : decode cX10_likeliest 60 = .ok (.lload 5, 2) := by decide +kernel
theorem dX10_likeliest_62 : decode cX10_likeliest 62 = .ok (.lstore_n 2, 1) := by decide +kernel
theorem dX10_likeliest_63 : decode cX10_likeliest 63 = .ok (.iload 4, 2) := by decide +kernel
theorem dX10_likeliest_65 : decode cX10_likeliest 65 = .ok (.istore_n 1, 1) := by decide +kernel
theorem dX10_likeliest_66 : decode cX10_likeliest 66 = .ok (.iinc 4 1, 3) := by decide +kernel
theorem dX10_likeliest_69 : decode cX10_likeliest 69 = .ok (.goto (-47), 3) := by decide +kernel
theorem dX10_likeliest_72 : decode cX10_likeliest 72 = .ok (.iload_n 1, 1) := by decide +kernel
theorem dX10_likeliest_73 : decode cX10_likeliest 73 = .ok (.ireturn, 1) := by decide +kernel
abbrev mX10_likeliest : MD := (cX10_likeliest, "BlottedDeed", 7, 4, 104, (some .int), "likeliest", [])
def bX10_likeliest_0 (g : GE) (J : Nat → KT) : KT := i_aload 0 (i_getf 9 7 (i_aload 0 (i_getf 9 3 (i_aload 0 (i_getf 9 8 (i_cv fX5_weigh g 2 5 (i_push (.int (-1)) (i_istore 1 (i_push (.long 0) (i_lstore 2 (i_push (.int 0) (i_istore 4 (i_jmp [true, true, true, false, true, false, false] (J 1))))))))))))))
def bX10_likeliest_1 (g : GE) (J : Nat → KT) : KT := i_iload 4 (i_aload 0 (i_getf 9 5 (i_getf 7 2 (i_icge (i_iload 1 (i_ireturn)) (i_aload 0 (i_getf 9 7 (i_aload 0 (i_getf 9 5 (i_getf 7 0 (i_iload 4 (i_laload (i_cv fX5_oddsOf g 1 5 (i_lstore 5 (i_lload 5 (i_lload 2 (i_lcmp (i_ifle (i_jmp [true, true, true, false, true, false, false] (J 2)) (i_lload 5 (i_lstore 2 (i_iload 4 (i_istore 1 (i_jmp [true, true, true, false, true, false, false] (J 2)))))))))))))))))))))))
def bX10_likeliest_2 (g : GE) (J : Nat → KT) : KT := i_iinc 4 1 (i_jmp [true, true, true, false, true, false, false] (J 1))
theorem sbX10_likeliest_0 (g : GE) (J : Nat → KT) (h1 : Snd mX10_likeliest g 22 (J 1)) (h2 : Snd mX10_likeliest g 66 (J 2)) : Snd mX10_likeliest g 0 (bX10_likeliest_0 g J) := by
  unfold bX10_likeliest_0
  refine s_aload_n (pc := 0) (i := 0) ?_ dX10_likeliest_0 rfl
  refine s_getf (pc := 1) (ci := 9) (f := 7) (T := TX10) ?_ ginX10 rfl (by decide) wt_461 dX10_likeliest_1
  refine s_aload_n (pc := 4) (i := 0) ?_ dX10_likeliest_4 rfl
  refine s_getf (pc := 5) (ci := 9) (f := 3) (T := TX10) ?_ ginX10 rfl (by decide) wt_457 dX10_likeliest_5
  refine s_aload_n (pc := 8) (i := 0) ?_ dX10_likeliest_8 rfl
  refine s_getf (pc := 9) (ci := 9) (f := 8) (T := TX10) ?_ ginX10 rfl (by decide) wt_462 dX10_likeliest_9
  refine s_cv (pc := 12) (n := 2) (ci := 5) ?_ tX5_weigh rfl rfl wt_560 wt_561 wt_562 wt_15 wt_563 ⟨crX5_weigh, by decide, by decide⟩ dX10_likeliest_12
  refine s_iconst (pc := 15) (v := (-1)) ?_ dX10_likeliest_15 (by decide)
  refine s_istore_n (pc := 16) (i := 1) ?_ dX10_likeliest_16 rfl (by decide)
  refine s_lconst (pc := 17) (v := 0) ?_ dX10_likeliest_17 (by decide)
  refine s_lstore_n (pc := 18) (i := 2) ?_ dX10_likeliest_18 rfl (by decide)
  refine s_iconst (pc := 19) (v := 0) ?_ dX10_likeliest_19 (by decide)
  refine s_istore (pc := 20) (i := 4) ?_ dX10_likeliest_20 (by decide)
  exact s_fall (pc := 22) h1
theorem sbX10_likeliest_1 (g : GE) (J : Nat → KT) (h1 : Snd mX10_likeliest g 22 (J 1)) (h2 : Snd mX10_likeliest g 66 (J 2)) : Snd mX10_likeliest g 22 (bX10_likeliest_1 g J) := by
  unfold bX10_likeliest_1
  refine s_iload (pc := 22) (i := 4) ?_ dX10_likeliest_22
  refine s_aload_n (pc := 24) (i := 0) ?_ dX10_likeliest_24 rfl
  refine s_getf (pc := 25) (ci := 9) (f := 5) (T := TX10) ?_ ginX10 rfl (by decide) wt_459 dX10_likeliest_25
  refine s_getf (pc := 28) (ci := 7) (f := 2) (T := TX7) ?_ ginX7 rfl (by decide) wt_340 dX10_likeliest_28
  refine s_icge (pc := 31) (tgt := 72) ?_ ?_ dX10_likeliest_31 (by decide)
  · skip
    refine s_iload_n (pc := 72) (i := 1) ?_ dX10_likeliest_72 rfl
    exact s_ireturn (pc := 73) rfl dX10_likeliest_73
  · skip
    refine s_aload_n (pc := 34) (i := 0) ?_ dX10_likeliest_34 rfl
    refine s_getf (pc := 35) (ci := 9) (f := 7) (T := TX10) ?_ ginX10 rfl (by decide) wt_461 dX10_likeliest_35
    refine s_aload_n (pc := 38) (i := 0) ?_ dX10_likeliest_38 rfl
    refine s_getf (pc := 39) (ci := 9) (f := 5) (T := TX10) ?_ ginX10 rfl (by decide) wt_459 dX10_likeliest_39
    refine s_getf (pc := 42) (ci := 7) (f := 0) (T := TX7) ?_ ginX7 rfl (by decide) wt_337 dX10_likeliest_42
    refine s_iload (pc := 45) (i := 4) ?_ dX10_likeliest_45
    refine s_laload (pc := 47) ?_ dX10_likeliest_47
    refine s_cv (pc := 48) (n := 1) (ci := 5) ?_ tX5_oddsOf rfl rfl wt_576 wt_577 wt_578 wt_15 wt_579 ⟨crX5_oddsOf, by decide, by decide⟩ dX10_likeliest_48
    refine s_lstore (pc := 51) (i := 5) ?_ dX10_likeliest_51 (by decide)
    refine s_lload (pc := 53) (i := 5) ?_ dX10_likeliest_53
    refine s_lload_n (pc := 55) (i := 2) ?_ dX10_likeliest_55 rfl
    refine s_lcmp (pc := 56) ?_ dX10_likeliest_56
    refine s_ifle (pc := 57) (tgt := 66) ?_ ?_ dX10_likeliest_57 (by decide)
    · skip
      exact s_fall (pc := 66) h2
    · skip
      refine s_lload (pc := 60) (i := 5) ?_ dX10_likeliest_60
      refine s_lstore_n (pc := 62) (i := 2) ?_ dX10_likeliest_62 rfl (by decide)
      refine s_iload (pc := 63) (i := 4) ?_ dX10_likeliest_63
      refine s_istore_n (pc := 65) (i := 1) ?_ dX10_likeliest_65 rfl (by decide)
      exact s_fall (pc := 66) h2
theorem sbX10_likeliest_2 (g : GE) (J : Nat → KT) (h1 : Snd mX10_likeliest g 22 (J 1)) (h2 : Snd mX10_likeliest g 66 (J 2)) : Snd mX10_likeliest g 66 (bX10_likeliest_2 g J) := by
  unfold bX10_likeliest_2
  refine s_iinc (pc := 66) (i := 4) (v := 1) ?_ dX10_likeliest_66 (by decide) (by decide)
  exact s_goto (pc := 69) (tgt := 22) h1 dX10_likeliest_69 (by decide)
def jX10_likeliest (g : GE) : Nat → Nat → KT
  | 0, _ => fun _ _ _ => none
  | n + 1, 0 => bX10_likeliest_0 g (jX10_likeliest g n)
  | n + 1, 1 => bX10_likeliest_1 g (jX10_likeliest g n)
  | n + 1, 2 => bX10_likeliest_2 g (jX10_likeliest g n)
  | _ + 1, _ + 3 => fun _ _ _ => none
theorem sjX10_likeliest (g : GE) : ∀ n, Snd mX10_likeliest g 0 (jX10_likeliest g n 0) ∧ Snd mX10_likeliest g 22 (jX10_likeliest g n 1) ∧ Snd mX10_likeliest g 66 (jX10_likeliest g n 2)
  | 0 => ⟨s_none, s_none, s_none⟩
  | n + 1 => by
    obtain ⟨-, h1, h2⟩ := sjX10_likeliest g n
    exact ⟨sbX10_likeliest_0 g _ h1 h2, sbX10_likeliest_1 g _ h1 h2, sbX10_likeliest_2 g _ h1 h2⟩
def kX10_likeliest (g : GE) : KT := jX10_likeliest g g.1 0
theorem sX10_likeliest (g : GE) : Snd mX10_likeliest g 0 (kX10_likeliest g) := (sjX10_likeliest g g.1).1
def fX10_likeliest : FT := fun g av w => if (ent av).length ≤ 7 then kX10_likeliest g [] (entp 7 av) w else none
theorem tX10_likeliest : Mt yX10_likeliest cX10_likeliest 7 (some .int) 4 104 fX10_likeliest := Mt.of (K := kX10_likeliest) (by decide +kernel) (fun _ _ _ => rfl) sX10_likeliest
theorem crX10_likeliest : yX10_likeliest.cls ≠ "java/lang/invoke/MethodHandle" ∧ yX10_likeliest.cls ≠ "java/lang/invoke/VarHandle" ∧ (parseMethodDescriptor yX10_likeliest.desc).map (fun d => d.parameters.length) = some 0 := by decide +kernel
theorem dX10_likely_0 : decode cX10_likely 0 = .ok (.aload_n 0, 1) := by decide +kernel
theorem dX10_likely_1 : decode cX10_likely 1 = .ok (.iload_n 1, 1) := by decide +kernel
theorem dX10_likely_2 : decode cX10_likely 2 = .ok (.invokevirtual 175, 3) := by decide +kernel
theorem dX10_likely_5 : decode cX10_likely 5 = .ok (.aload_n 0, 1) := by decide +kernel
theorem dX10_likely_6 : decode cX10_likely 6 = .ok (.iload_n 2, 1) := by decide +kernel
theorem dX10_likely_7 : decode cX10_likely 7 = .ok (.invokevirtual 166, 3) := by decide +kernel
theorem dX10_likely_10 : decode cX10_likely 10 = .ok (.aload_n 0, 1) := by decide +kernel
theorem dX10_likely_11 : decode cX10_likely 11 = .ok (.iload_n 3, 1) := by decide +kernel
theorem dX10_likely_12 : decode cX10_likely 12 = .ok (.iconst 1, 1) := by decide +kernel
theorem dX10_likely_13 : decode cX10_likely 13 = .ok (.invokevirtual 104, 3) := by decide +kernel
theorem dX10_likely_16 : decode cX10_likely 16 = .ok (.aload_n 0, 1) := by decide +kernel
theorem dX10_likely_17 : decode cX10_likely 17 = .ok (.getfield 51, 3) := by decide +kernel
theorem dX10_likely_20 : decode cX10_likely 20 = .ok (.aload_n 0, 1) := by decide +kernel
theorem dX10_likely_21 : decode cX10_likely 21 = .ok (.getfield 16, 3) := by decide +kernel
theorem dX10_likely_24 : decode cX10_likely 24 = .ok (.aload_n 0, 1) := by decide +kernel
theorem dX10_likely_25 : decode cX10_likely 25 = .ok (.getfield 58, 3) := by decide +kernel
theorem dX10_likely_28 : decode cX10_likely 28 = .ok (.invokevirtual 246, 3) := by decide +kernel
theorem dX10_likely_31 : decode cX10_likely 31 = .ok (.lconst 0, 1) := by decide +kernel
theorem dX10_likely_32 : decode cX10_likely 32 = .ok (.lstore 4, 2) := by decide +kernel
theorem dX10_likely_34 : decode cX10_likely 34 = .ok (.lconst 0, 1) := by decide +kernel
theorem dX10_likely_35 : decode cX10_likely 35 = .ok (.lstore 6, 2) := by decide +kernel
theorem dX10_likely_37 : decode cX10_likely 37 = .ok (.iconst 0, 1) := by decide +kernel
theorem dX10_likely_38 : decode cX10_likely 38 = .ok (.istore 8, 2) := by decide +kernel
theorem dX10_likely_40 : decode cX10_likely 40 = .ok (.iload 8, 2) := by decide +kernel
theorem dX10_likely_42 : decode cX10_likely 42 = .ok (.aload_n 0, 1) := by decide +kernel
theorem dX10_likely_43 : decode cX10_likely 43 = .ok (.getfield 37, 3) := by decide +kernel
theorem dX10_likely_46 : decode cX10_likely 46 = .ok (.getfield 150, 3) := by decide +kernel
theorem dX10_likely_49 : decode cX10_likely 49 = .ok (.if_icmp .ge 56, 3) := by decide +kernel
theorem dX10_likely_52 : decode cX10_likely 52 = .ok (.aload_n 0, 1) := by decide +kernel
theorem dX10_likely_53 : decode cX10_likely 53 = .ok (.getfield 51, 3) := by decide +kernel
theorem dX10_likely_56 : decode cX10_likely 56 = .ok (.aload_n 0, 1) := by decide +kernel
theorem dX10_likely_57 : decode cX10_likely 57 = .ok (.getfield 37, 3) := by decide +kernel
theorem dX10_likely_60 : decode cX10_likely 60 = .ok (.getfield 250, 3) := by decide +kernel
theorem dX10_likely_63 : decode cX10_likely 63 = .ok (.iload 8, 2) := by decide +kernel
theorem dX10_likely_65 : decode cX10_likely 65 = .ok (.laload, 1) := by decide +kernel
theorem dX10_likely_66 : decode cX10_likely 66 = .ok (.invokevirtual 254, 3) := by decide +kernel
theorem dX10_likely_69 : decode cX10_likely 69 = .ok (.lstore 9, 2) := by decide +kernel
theorem dX10_likely_71 : decode cX10_likely 71 = .ok (.lload 4, 2) := by decide +kernel
theorem dX10_likely_73 : decode cX10_likely 73 = .ok (.lload 9, 2) := by decide +kernel
theorem dX10_likely_75 : decode cX10_likely 75 = .ok (.ladd, 1) := by decide +kernel
theorem dX10_likely_76 : decode cX10_likely 76 = .ok (.lstore 4, 2) := by decide +kernel
theorem dX10_likely_78 : decode cX10_likely 78 = .ok (.aload_n 0, 1) := by decide +kernel
theorem dX10_likely_79 : decode cX10_likely 79 = .ok (.getfield 37, 3) := by decide +kernel
theorem dX10_likely_82 : decode cX10_likely 82 = .ok (.iload 8, 2) := by decide +kernel
theorem dX10_likely_84 : decode cX10_likely 84 = .ok (.iload_n 1, 1) := by decide +kernel
theorem dX10_likely_85 : decode cX10_likely 85 = .ok (.invokevirtual 178, 3) := by decide +kernel
theorem dX10_likely_88 : decode cX10_likely 88 = .ok (.iload_n 2, 1) := by decide +kernel
theorem dX10_likely_89 : decode cX10_likely 89 = .ok (.if_icmp .ne 10, 3) := by decide +kernel
theorem dX10_likely_92 : decode cX10_likely 92 = .ok (.lload 6, 2) := by decide +kernel
theorem dX10_likely_94 : decode cX10_likely 94 = .ok (.lload 9, 2) := by decide +kernel
theorem dX10_likely_96 : decode cX10_likely 96 = .ok (.ladd, 1) := by decide +kernel
theorem dX10_likely_97 : decode cX10_likely 97 = .ok (.lstore 6, 2) := by decide +kernel
theorem dX10_likely_99 : decode cX10_likely 99 = .ok (.iinc 8 1, 3) := by decide +kernel
theorem dX10_likely_102 : decode cX10_likely 102 = .ok (.goto (-62), 3) := by decide +kernel
theorem dX10_likely_105 : decode cX10_likely 105 = .ok (.lload 4, 2) := by decide +kernel
theorem dX10_likely_107 : decode cX10_likely 107 = .ok (.lconst 0, 1) := by decide +kernel
theorem dX10_likely_108 : decode cX10_likely 108 = .ok (.lcmp, 1) := by decide +kernel
theorem dX10_likely_109 : decode cX10_likely 109 = .ok (.ifCond .gt 6, 3) := by decide +kernel
theorem dX10_likely_112 : decode cX10_likely 112 = .ok (.iload_n 3, 1) := by decide +kernel
theorem dX10_likely_113 : decode cX10_likely 113 = .ok (.i2l, 1) := by decide +kernel
theorem dX10_likely_114 : decode cX10_likely 114 = .ok (.lreturn, 1) := by decide +kernel
theorem dX10_likely_115 : decode cX10_likely 115 = .ok (.lload 4, 2) := by decide +kernel
theorem dX10_likely_117 : decode cX10_likely 117 = .ok (.lload 6, 2) := by decide +kernel
theorem dX10_likely_119 : decode cX10_likely 119 = .ok (.invokestatic 258, 3) := by decide +kernel
theorem dX10_likely_122 : decode cX10_likely 122 = .ok (.lstore 8, 2) := by decide +kernel
theorem dX10_likely_124 : decode cX10_likely 124 = .ok (.lload 8, 2) := by decide +kernel
theorem dX10_likely_126 : decode cX10_likely 126 = .ok (.lconst 0, 1) := by decide +kernel
theorem dX10_likely_127 : decode cX10_likely 127 = .ok (.lcmp, 1) := by decide +kernel
theorem dX10_likely_128 : decode cX10_likely 128 = .ok (.ifCond .le 20, 3) := by decide +kernel
theorem dX10_likely_131 : decode cX10_likely 131 = .ok (.iload_n 3, 1) := by decide +kernel
theorem dX10_likely_132 : decode cX10_likely 132 = .ok (.ifCond .ne 8, 3) := by decide +kernel
theorem dX10_likely_135 : decode cX10_likely 135 = .ok (.lload 6, 2) := by decide +kernel
theorem dX10_likely_137 : decode cX10_likely 137 = .ok (.goto 5, 3) := by decide +kernel
theorem dX10_likely_140 : decode cX10_likely 140 = .ok (.lload 4, 2) := by decide +kernel
theorem dX10_likely_142 : decode cX10_likely 142 = .ok (.lload 8, 2) := by decide +kernel
theorem dX10_likely_144 : decode cX10_likely 144 = .ok (.ldiv, 1) := by decide +kernel
theorem dX10_likely_145 : decode cX10_likely 145 = .ok (.goto 5, 3) := by decide +kernel
theorem dX10_likely_148 : decode cX10_likely 148 = .ok (.iload_n 3, 1) := by decide +kernel
theorem dX10_likely_149 : decode cX10_likely 149 = .ok (.i2l, 1) := by decide +kernel
theorem dX10_likely_150 : decode cX10_likely 150 = .ok (.lreturn, 1) := by decide +kernel
abbrev mX10_likely : MD := (cX10_likely, "BlottedDeed", 11, 8, 143, (some .long), "likely", [])
def bX10_likely_0 (g : GE) (J : Nat → KT) : KT := i_aload 0 (i_iload 1 (i_cvX fX10_needThing g 1 9 (i_aload 0 (i_iload 2 (i_cvX fX10_needHeir g 1 9 (i_aload 0 (i_iload 3 (i_push (.int 1) (i_cvX fX10_needWhat g 2 9 (i_aload 0 (i_getf 9 7 (i_aload 0 (i_getf 9 3 (i_aload 0 (i_getf 9 8 (i_cv fX5_weigh g 2 5 (i_push (.long 0) (i_lstore 4 (i_push (.long 0) (i_lstore 6 (i_push (.int 0) (i_istore 8 (i_jmp [true, true, true, true, true, false, true, false, true, false, false] (J 1))))))))))))))))))))))))
def bX10_likely_1 (g : GE) (J : Nat → KT) : KT := i_iload 8 (i_aload 0 (i_getf 9 5 (i_getf 7 2 (i_icge (i_lload 4 (i_push (.long 0) (i_lcmp (i_ifgt (i_lload 4 (i_lload 6 (i_cs fX10_commonDivisor g 2 (i_lstore 8 (i_lload 8 (i_push (.long 0) (i_lcmp (i_ifle (i_iload 3 (i_i2l (i_jmp [false, false, false, false, false, false, false, false, false, false, false] (J 4)))) (i_iload 3 (i_ifne (i_lload 4 (i_jmp [false, false, false, false, false, false, false, false, true, false, false] (J 3))) (i_lload 6 (i_jmp [false, false, false, false, false, false, false, false, true, false, false] (J 3))))))))))))) (i_iload 3 (i_i2l (i_lreturn))))))) (i_aload 0 (i_getf 9 7 (i_aload 0 (i_getf 9 5 (i_getf 7 0 (i_iload 8 (i_laload (i_cv fX5_oddsOf g 1 5 (i_lstore 9 (i_lload 4 (i_lload 9 (i_ladd (i_lstore 4 (i_aload 0 (i_getf 9 5 (i_iload 8 (i_iload 1 (i_cv fX7_ownerOf g 2 7 (i_iload 2 (i_icne (i_jmp [true, true, true, true, true, false, true, false, true, false, false] (J 2)) (i_lload 6 (i_lload 9 (i_ladd (i_lstore 6 (i_jmp [true, true, true, true, true, false, true, false, true, false, false] (J 2))))))))))))))))))))))))))))))
def bX10_likely_2 (g : GE) (J : Nat → KT) : KT := i_iinc 8 1 (i_jmp [true, true, true, true, true, false, true, false, true, false, false] (J 1))
def bX10_likely_3 (g : GE) (J : Nat → KT) : KT := i_lload 8 (i_ldiv (i_jmp [false, false, false, false, false, false, false, false, false, false, false] (J 4)))
def bX10_likely_4 (g : GE) (J : Nat → KT) : KT := i_lreturn
theorem sbX10_likely_0 (g : GE) (J : Nat → KT) (h1 : Snd mX10_likely g 40 (J 1)) (h2 : Snd mX10_likely g 99 (J 2)) (h3 : Snd mX10_likely g 142 (J 3)) (h4 : Snd mX10_likely g 150 (J 4)) : Snd mX10_likely g 0 (bX10_likely_0 g J) := by
  unfold bX10_likely_0
  refine s_aload_n (pc := 0) (i := 0) ?_ dX10_likely_0 rfl
  refine s_iload_n (pc := 1) (i := 1) ?_ dX10_likely_1 rfl
  refine s_cvX (pc := 2) (n := 1) (ci := 9) ?_ tX10_needThing rfl rfl wt_1030 wt_1032 wp_36 wt_1 wt_1033 ⟨crX10_needThing, by decide, by decide⟩ rfl dX10_likely_2
  refine s_aload_n (pc := 5) (i := 0) ?_ dX10_likely_5 rfl
  refine s_iload_n (pc := 6) (i := 2) ?_ dX10_likely_6 rfl
  refine s_cvX (pc := 7) (n := 1) (ci := 9) ?_ tX10_needHeir rfl rfl wt_1010 wt_1012 wp_35 wt_1 wt_1013 ⟨crX10_needHeir, by decide, by decide⟩ rfl dX10_likely_7
  refine s_aload_n (pc := 10) (i := 0) ?_ dX10_likely_10 rfl
  refine s_iload_n (pc := 11) (i := 3) ?_ dX10_likely_11 rfl
  refine s_iconst (pc := 12) (v := 1) ?_ dX10_likely_12 (by decide)
  refine s_cvX (pc := 13) (n := 2) (ci := 9) ?_ tX10_needWhat rfl rfl wt_920 wt_922 wp_31 wt_1 wt_923 ⟨crX10_needWhat, by decide, by decide⟩ rfl dX10_likely_13
  refine s_aload_n (pc := 16) (i := 0) ?_ dX10_likely_16 rfl
  refine s_getf (pc := 17) (ci := 9) (f := 7) (T := TX10) ?_ ginX10 rfl (by decide) wt_461 dX10_likely_17
  refine s_aload_n (pc := 20) (i := 0) ?_ dX10_likely_20 rfl
  refine s_getf (pc := 21) (ci := 9) (f := 3) (T := TX10) ?_ ginX10 rfl (by decide) wt_457 dX10_likely_21
  refine s_aload_n (pc := 24) (i := 0) ?_ dX10_likely_24 rfl
  refine s_getf (pc := 25) (ci := 9) (f := 8) (T := TX10) ?_ ginX10 rfl (by decide) wt_462 dX10_likely_25
  refine s_cv (pc := 28) (n := 2) (ci := 5) ?_ tX5_weigh rfl rfl wt_560 wt_561 wt_562 wt_15 wt_563 ⟨crX5_weigh, by decide, by decide⟩ dX10_likely_28
  refine s_lconst (pc := 31) (v := 0) ?_ dX10_likely_31 (by decide)
  refine s_lstore (pc := 32) (i := 4) ?_ dX10_likely_32 (by decide)
  refine s_lconst (pc := 34) (v := 0) ?_ dX10_likely_34 (by decide)
  refine s_lstore (pc := 35) (i := 6) ?_ dX10_likely_35 (by decide)
  refine s_iconst (pc := 37) (v := 0) ?_ dX10_likely_37 (by decide)
  refine s_istore (pc := 38) (i := 8) ?_ dX10_likely_38 (by decide)
  exact s_fall (pc := 40) h1
theorem sbX10_likely_1 (g : GE) (J : Nat → KT) (h1 : Snd mX10_likely g 40 (J 1)) (h2 : Snd mX10_likely g 99 (J 2)) (h3 : Snd mX10_likely g 142 (J 3)) (h4 : Snd mX10_likely g 150 (J 4)) : Snd mX10_likely g 40 (bX10_likely_1 g J) := by
  unfold bX10_likely_1
  refine s_iload (pc := 40) (i := 8) ?_ dX10_likely_40
  refine s_aload_n (pc := 42) (i := 0) ?_ dX10_likely_42 rfl
  refine s_getf (pc := 43) (ci := 9) (f := 5) (T := TX10) ?_ ginX10 rfl (by decide) wt_459 dX10_likely_43
  refine s_getf (pc := 46) (ci := 7) (f := 2) (T := TX7) ?_ ginX7 rfl (by decide) wt_340 dX10_likely_46
  refine s_icge (pc := 49) (tgt := 105) ?_ ?_ dX10_likely_49 (by decide)
  · skip
    refine s_lload (pc := 105) (i := 4) ?_ dX10_likely_105
    refine s_lconst (pc := 107) (v := 0) ?_ dX10_likely_107 (by decide)
    refine s_lcmp (pc := 108) ?_ dX10_likely_108
    refine s_ifgt (pc := 109) (tgt := 115) ?_ ?_ dX10_likely_109 (by decide)
    · skip
      refine s_lload (pc := 115) (i := 4) ?_ dX10_likely_115
      refine s_lload (pc := 117) (i := 6) ?_ dX10_likely_117
      refine s_cs (pc := 119) (n := 2) ?_ tX10_commonDivisor wt_1197 wt_1198 wt_1 wt_1199 ⟨crX10_commonDivisor, by decide, by decide⟩ dX10_likely_119
      refine s_lstore (pc := 122) (i := 8) ?_ dX10_likely_122 (by decide)
      refine s_lload (pc := 124) (i := 8) ?_ dX10_likely_124
      refine s_lconst (pc := 126) (v := 0) ?_ dX10_likely_126 (by decide)
      refine s_lcmp (pc := 127) ?_ dX10_likely_127
      refine s_ifle (pc := 128) (tgt := 148) ?_ ?_ dX10_likely_128 (by decide)
      · skip
        refine s_iload_n (pc := 148) (i := 3) ?_ dX10_likely_148 rfl
        refine s_i2l (pc := 149) ?_ dX10_likely_149
        exact s_fall (pc := 150) h4
      · skip
        refine s_iload_n (pc := 131) (i := 3) ?_ dX10_likely_131 rfl
        refine s_ifne (pc := 132) (tgt := 140) ?_ ?_ dX10_likely_132 (by decide)
        · skip
          refine s_lload (pc := 140) (i := 4) ?_ dX10_likely_140
          exact s_fall (pc := 142) h3
        · skip
          refine s_lload (pc := 135) (i := 6) ?_ dX10_likely_135
          exact s_goto (pc := 137) (tgt := 142) h3 dX10_likely_137 (by decide)
    · skip
      refine s_iload_n (pc := 112) (i := 3) ?_ dX10_likely_112 rfl
      refine s_i2l (pc := 113) ?_ dX10_likely_113
      exact s_lreturn (pc := 114) rfl dX10_likely_114
  · skip
    refine s_aload_n (pc := 52) (i := 0) ?_ dX10_likely_52 rfl
    refine s_getf (pc := 53) (ci := 9) (f := 7) (T := TX10) ?_ ginX10 rfl (by decide) wt_461 dX10_likely_53
    refine s_aload_n (pc := 56) (i := 0) ?_ dX10_likely_56 rfl
    refine s_getf (pc := 57) (ci := 9) (f := 5) (T := TX10) ?_ ginX10 rfl (by decide) wt_459 dX10_likely_57
    refine s_getf (pc := 60) (ci := 7) (f := 0) (T := TX7) ?_ ginX7 rfl (by decide) wt_337 dX10_likely_60
    refine s_iload (pc := 63) (i := 8) ?_ dX10_likely_63
    refine s_laload (pc := 65) ?_ dX10_likely_65
    refine s_cv (pc := 66) (n := 1) (ci := 5) ?_ tX5_oddsOf rfl rfl wt_576 wt_577 wt_578 wt_15 wt_579 ⟨crX5_oddsOf, by decide, by decide⟩ dX10_likely_66
    refine s_lstore (pc := 69) (i := 9) ?_ dX10_likely_69 (by decide)
    refine s_lload (pc := 71) (i := 4) ?_ dX10_likely_71
    refine s_lload (pc := 73) (i := 9) ?_ dX10_likely_73
    refine s_ladd (pc := 75) ?_ dX10_likely_75
    refine s_lstore (pc := 76) (i := 4) ?_ dX10_likely_76 (by decide)
    refine s_aload_n (pc := 78) (i := 0) ?_ dX10_likely_78 rfl
    refine s_getf (pc := 79) (ci := 9) (f := 5) (T := TX10) ?_ ginX10 rfl (by decide) wt_459 dX10_likely_79
    refine s_iload (pc := 82) (i := 8) ?_ dX10_likely_82
    refine s_iload_n (pc := 84) (i := 1) ?_ dX10_likely_84 rfl
    refine s_cv (pc := 85) (n := 2) (ci := 7) ?_ tX7_ownerOf rfl rfl wt_1034 wt_594 wt_595 wt_8 wt_596 ⟨crX7_ownerOf, by decide, by decide⟩ dX10_likely_85
    refine s_iload_n (pc := 88) (i := 2) ?_ dX10_likely_88 rfl
    refine s_icne (pc := 89) (tgt := 99) ?_ ?_ dX10_likely_89 (by decide)
    · skip
      exact s_fall (pc := 99) h2
    · skip
      refine s_lload (pc := 92) (i := 6) ?_ dX10_likely_92
      refine s_lload (pc := 94) (i := 9) ?_ dX10_likely_94
      refine s_ladd (pc := 96) ?_ dX10_likely_96
      refine s_lstore (pc := 97) (i := 6) ?_ dX10_likely_97 (by decide)
      exact s_fall (pc := 99) h2
theorem sbX10_likely_2 (g : GE) (J : Nat → KT) (h1 : Snd mX10_likely g 40 (J 1)) (h2 : Snd mX10_likely g 99 (J 2)) (h3 : Snd mX10_likely g 142 (J 3)) (h4 : Snd mX10_likely g 150 (J 4)) : Snd mX10_likely g 99 (bX10_likely_2 g J) := by
  unfold bX10_likely_2
  refine s_iinc (pc := 99) (i := 8) (v := 1) ?_ dX10_likely_99 (by decide) (by decide)
  exact s_goto (pc := 102) (tgt := 40) h1 dX10_likely_102 (by decide)
theorem sbX10_likely_3 (g : GE) (J : Nat → KT) (h1 : Snd mX10_likely g 40 (J 1)) (h2 : Snd mX10_likely g 99 (J 2)) (h3 : Snd mX10_likely g 142 (J 3)) (h4 : Snd mX10_likely g 150 (J 4)) : Snd mX10_likely g 142 (bX10_likely_3 g J) := by
  unfold bX10_likely_3
  refine s_lload (pc := 142) (i := 8) ?_ dX10_likely_142
  refine s_ldiv (pc := 144) ?_ dX10_likely_144
  exact s_goto (pc := 145) (tgt := 150) h4 dX10_likely_145 (by decide)
theorem sbX10_likely_4 (g : GE) (J : Nat → KT) (h1 : Snd mX10_likely g 40 (J 1)) (h2 : Snd mX10_likely g 99 (J 2)) (h3 : Snd mX10_likely g 142 (J 3)) (h4 : Snd mX10_likely g 150 (J 4)) : Snd mX10_likely g 150 (bX10_likely_4 g J) := by
  unfold bX10_likely_4
  exact s_lreturn (pc := 150) rfl dX10_likely_150
def jX10_likely (g : GE) : Nat → Nat → KT
  | 0, _ => fun _ _ _ => none
  | n + 1, 0 => bX10_likely_0 g (jX10_likely g n)
  | n + 1, 1 => bX10_likely_1 g (jX10_likely g n)
  | n + 1, 2 => bX10_likely_2 g (jX10_likely g n)
  | n + 1, 3 => bX10_likely_3 g (jX10_likely g n)
  | n + 1, 4 => bX10_likely_4 g (jX10_likely g n)
  | _ + 1, _ + 5 => fun _ _ _ => none
theorem sjX10_likely (g : GE) : ∀ n, Snd mX10_likely g 0 (jX10_likely g n 0) ∧ Snd mX10_likely g 40 (jX10_likely g n 1) ∧ Snd mX10_likely g 99 (jX10_likely g n 2) ∧ Snd mX10_likely g 142 (jX10_likely g n 3) ∧ Snd mX10_likely g 150 (jX10_likely g n 4)
  | 0 => ⟨s_none, s_none, s_none, s_none, s_none⟩
  | n + 1 => by
    obtain ⟨-, h1, h2, h3, h4⟩ := sjX10_likely g n
    exact ⟨sbX10_likely_0 g _ h1 h2 h3 h4, sbX10_likely_1 g _ h1 h2 h3 h4, sbX10_likely_2 g _ h1 h2 h3 h4, sbX10_likely_3 g _ h1 h2 h3 h4, sbX10_likely_4 g _ h1 h2 h3 h4⟩
def kX10_likely (g : GE) : KT := jX10_likely g g.1 0
theorem sX10_likely (g : GE) : Snd mX10_likely g 0 (kX10_likely g) := (sjX10_likely g g.1).1
def fX10_likely : FT := fun g av w => if (ent av).length ≤ 11 then kX10_likely g [] (entp 11 av) w else none
theorem tX10_likely : Mt yX10_likely cX10_likely 11 (some .long) 8 143 fX10_likely := Mt.of (K := kX10_likely) (by decide +kernel) (fun _ _ _ => rfl) sX10_likely
theorem crX10_likely : yX10_likely.cls ≠ "java/lang/invoke/MethodHandle" ∧ yX10_likely.cls ≠ "java/lang/invoke/VarHandle" ∧ (parseMethodDescriptor yX10_likely.desc).map (fun d => d.parameters.length) = some 3 := by decide +kernel
theorem dX7_farthestFrom_0 : decode cX7_farthestFrom 0 = .ok (.aload_n 0, 1) := by decide +kernel
theorem dX7_farthestFrom_1 : decode cX7_farthestFrom 1 = .ok (.getfield 53, 3) := by decide +kernel
theorem dX7_farthestFrom_4 : decode cX7_farthestFrom 4 = .ok (.sipush 400, 3) := by decide +kernel
theorem dX7_farthestFrom_7 : decode cX7_farthestFrom 7 = .ok (.invokestatic 101, 3) := by decide +kernel
theorem dX7_farthestFrom_10 : decode cX7_farthestFrom 10 = .ok (.istore_n 2, 1) := by decide +kernel
theorem dX7_farthestFrom_11 : decode cX7_farthestFrom 11 = .ok (.iconst 0, 1) := by decide +kernel
theorem dX7_farthestFrom_12 : decode cX7_farthestFrom 12 = .ok (.istore_n 3, 1) := by decide +kernel
theorem dX7_farthestFrom_13 : decode cX7_farthestFrom 13 = .ok (.iconst 0, 1) := by decide +kernel
theorem dX7_farthestFrom_14 : decode cX7_farthestFrom 14 = .ok (.istore 4, 2) := by decide +kernel
theorem dX7_farthestFrom_16 : decode cX7_farthestFrom 16 = .ok (.iload 4, 2) := by decide +kernel
theorem dX7_farthestFrom_18 : decode cX7_farthestFrom 18 = .ok (.iload_n 2, 1) := by decide +kernel
theorem dX7_farthestFrom_19 : decode cX7_farthestFrom 19 = .ok (.if_icmp .ge 21, 3) := by decide +kernel
theorem dX7_farthestFrom_22 : decode cX7_farthestFrom 22 = .ok (.iload_n 3, 1) := by decide +kernel
theorem dX7_farthestFrom_23 : decode cX7_farthestFrom 23 = .ok (.aload_n 0, 1) := by decide +kernel
theorem dX7_farthestFrom_24 : decode cX7_farthestFrom 24 = .ok (.iload_n 1, 1) := by decide +kernel
theorem dX7_farthestFrom_25 : decode cX7_farthestFrom 25 = .ok (.iload 4, 2) := by decide +kernel
theorem dX7_farthestFrom_27 : decode cX7_farthestFrom 27 = .ok (.invokevirtual 199, 3) := by decide +kernel
theorem dX7_farthestFrom_30 : decode cX7_farthestFrom 30 = .ok (.invokestatic 139, 3) := by decide +kernel
theorem dX7_farthestFrom_33 : decode cX7_farthestFrom 33 = .ok (.istore_n 3, 1) := by decide +kernel
theorem dX7_farthestFrom_34 : decode cX7_farthestFrom 34 = .ok (.iinc 4 1, 3) := by decide +kernel
theorem dX7_farthestFrom_37 : decode cX7_farthestFrom 37 = .ok (.goto (-21), 3) := by decide +kernel
theorem dX7_farthestFrom_40 : decode cX7_farthestFrom 40 = .ok (.iload_n 3, 1) := by decide +kernel
theorem dX7_farthestFrom_41 : decode cX7_farthestFrom 41 = .ok (.ireturn, 1) := by decide +kernel
abbrev mX7_farthestFrom : MD := (cX7_farthestFrom, "BlottedDeed$Table", 5, 3, 75, (some .int), "farthestFrom", [])
def bX7_farthestFrom_0 (g : GE) (J : Nat → KT) : KT := i_aload 0 (i_getf 7 2 (i_push (.int 400) (i_min (i_istore 2 (i_push (.int 0) (i_istore 3 (i_push (.int 0) (i_istore 4 (i_jmp [true, true, true, true, true] (J 1))))))))))
def bX7_farthestFrom_1 (g : GE) (J : Nat → KT) : KT := i_iload 4 (i_iload 2 (i_icge (i_iload 3 (i_ireturn)) (i_iload 3 (i_aload 0 (i_iload 1 (i_iload 4 (i_cv fX7_distance g 2 7 (i_max (i_istore 3 (i_iinc 4 1 (i_jmp [true, true, true, true, true] (J 1))))))))))))
theorem sbX7_farthestFrom_0 (g : GE) (J : Nat → KT) (h1 : Snd mX7_farthestFrom g 16 (J 1)) : Snd mX7_farthestFrom g 0 (bX7_farthestFrom_0 g J) := by
  unfold bX7_farthestFrom_0
  refine s_aload_n (pc := 0) (i := 0) ?_ dX7_farthestFrom_0 rfl
  refine s_getf (pc := 1) (ci := 7) (f := 2) (T := TX7) ?_ ginX7 rfl (by decide) wt_339 dX7_farthestFrom_1
  refine s_sipush (pc := 4) (v := 400) ?_ dX7_farthestFrom_4 (by decide)
  refine s_min (pc := 7) ?_ wt_299 wt_300 wt_12 wt_301 (by decide) dX7_farthestFrom_7
  refine s_istore_n (pc := 10) (i := 2) ?_ dX7_farthestFrom_10 rfl (by decide)
  refine s_iconst (pc := 11) (v := 0) ?_ dX7_farthestFrom_11 (by decide)
  refine s_istore_n (pc := 12) (i := 3) ?_ dX7_farthestFrom_12 rfl (by decide)
  refine s_iconst (pc := 13) (v := 0) ?_ dX7_farthestFrom_13 (by decide)
  refine s_istore (pc := 14) (i := 4) ?_ dX7_farthestFrom_14 (by decide)
  exact s_fall (pc := 16) h1
theorem sbX7_farthestFrom_1 (g : GE) (J : Nat → KT) (h1 : Snd mX7_farthestFrom g 16 (J 1)) : Snd mX7_farthestFrom g 16 (bX7_farthestFrom_1 g J) := by
  unfold bX7_farthestFrom_1
  refine s_iload (pc := 16) (i := 4) ?_ dX7_farthestFrom_16
  refine s_iload_n (pc := 18) (i := 2) ?_ dX7_farthestFrom_18 rfl
  refine s_icge (pc := 19) (tgt := 40) ?_ ?_ dX7_farthestFrom_19 (by decide)
  · skip
    refine s_iload_n (pc := 40) (i := 3) ?_ dX7_farthestFrom_40 rfl
    exact s_ireturn (pc := 41) rfl dX7_farthestFrom_41
  · skip
    refine s_iload_n (pc := 22) (i := 3) ?_ dX7_farthestFrom_22 rfl
    refine s_aload_n (pc := 23) (i := 0) ?_ dX7_farthestFrom_23 rfl
    refine s_iload_n (pc := 24) (i := 1) ?_ dX7_farthestFrom_24 rfl
    refine s_iload (pc := 25) (i := 4) ?_ dX7_farthestFrom_25
    refine s_cv (pc := 27) (n := 2) (ci := 7) ?_ tX7_distance rfl rfl wt_1326 wt_1300 wt_1301 wt_8 wt_1302 ⟨crX7_distance, by decide, by decide⟩ dX7_farthestFrom_27
    refine s_max (pc := 30) ?_ wt_545 wt_546 wt_12 wt_547 (by decide) dX7_farthestFrom_30
    refine s_istore_n (pc := 33) (i := 3) ?_ dX7_farthestFrom_33 rfl (by decide)
    refine s_iinc (pc := 34) (i := 4) (v := 1) ?_ dX7_farthestFrom_34 (by decide) (by decide)
    exact s_goto (pc := 37) (tgt := 16) h1 dX7_farthestFrom_37 (by decide)
def jX7_farthestFrom (g : GE) : Nat → Nat → KT
  | 0, _ => fun _ _ _ => none
  | n + 1, 0 => bX7_farthestFrom_0 g (jX7_farthestFrom g n)
  | n + 1, 1 => bX7_farthestFrom_1 g (jX7_farthestFrom g n)
  | _ + 1, _ + 2 => fun _ _ _ => none
theorem sjX7_farthestFrom (g : GE) : ∀ n, Snd mX7_farthestFrom g 0 (jX7_farthestFrom g n 0) ∧ Snd mX7_farthestFrom g 16 (jX7_farthestFrom g n 1)
  | 0 => ⟨s_none, s_none⟩
  | n + 1 => by
    obtain ⟨-, h1⟩ := sjX7_farthestFrom g n
    exact ⟨sbX7_farthestFrom_0 g _ h1, sbX7_farthestFrom_1 g _ h1⟩
def kX7_farthestFrom (g : GE) : KT := jX7_farthestFrom g g.1 0
theorem sX7_farthestFrom (g : GE) : Snd mX7_farthestFrom g 0 (kX7_farthestFrom g) := (sjX7_farthestFrom g g.1).1
def fX7_farthestFrom : FT := fun g av w => if (ent av).length ≤ 5 then kX7_farthestFrom g [] (entp 5 av) w else none
theorem tX7_farthestFrom : Mt yX7_farthestFrom cX7_farthestFrom 5 (some .int) 3 75 fX7_farthestFrom := Mt.of (K := kX7_farthestFrom) (by decide +kernel) (fun _ _ _ => rfl) sX7_farthestFrom
theorem crX7_farthestFrom : yX7_farthestFrom.cls ≠ "java/lang/invoke/MethodHandle" ∧ yX7_farthestFrom.cls ≠ "java/lang/invoke/VarHandle" ∧ (parseMethodDescriptor yX7_farthestFrom.desc).map (fun d => d.parameters.length) = some 1 := by decide +kernel
theorem dX7_middleReading_0 : decode cX7_middleReading 0 = .ok (.aload_n 0, 1) := by decide +kernel
theorem dX7_middleReading_1 : decode cX7_middleReading 1 = .ok (.getfield 53, 3) := by decide +kernel
theorem dX7_middleReading_4 : decode cX7_middleReading 4 = .ok (.sipush 400, 3) := by decide +kernel
theorem dX7_middleReading_7 : decode cX7_middleReading 7 = .ok (.invokestatic 101, 3) := by decide +kernel
theorem dX7_middleReading_10 : decode cX7_middleReading 10 = .ok (.istore_n 1, 1) := by decide +kernel
theorem dX7_middleReading_11 : decode cX7_middleReading 11 = .ok (.iconst (-1), 1) := by decide +kernel
theorem dX7_middleReading_12 : decode cX7_middleReading 12 = .ok (.istore_n 2, 1) := by decide +kernel
theorem dX7_middleReading_13 : decode cX7_middleReading 13 = .ok (.iconst 0, 1) := by decide +kernel
theorem dX7_middleReading_14 : decode cX7_middleReading 14 = .ok (.istore_n 3, 1) := by decide +kernel
theorem dX7_middleReading_15 : decode cX7_middleReading 15 = .ok (.iconst 0, 1) := by decide +kernel
theorem dX7_middleReading_16 : decode cX7_middleReading 16 = .ok (.istore 4, 2) := by decide +kernel
theorem dX7_middleReading_18 : decode cX7_middleReading 18 = .ok (.iload 4, 2) := by decide +kernel
theorem dX7_middleReading_20 : decode cX7_middleReading 20 = .ok (.iload_n 1, 1) := by decide +kernel
theorem dX7_middleReading_21 : decode cX7_middleReading 21 = .ok (.if_icmp .ge 34, 3) := by decide +kernel
theorem dX7_middleReading_24 : decode cX7_middleReading 24 = .ok (.aload_n 0, 1) := by decide +kernel
theorem dX7_middleReading_25 : decode cX7_middleReading 25 = .ok (.iload 4, 2) := by decide +kernel
theorem dX7_middleReading_27 : decode cX7_middleReading 27 = .ok (.invokevirtual 202, 3) := by decide +kernel
theorem dX7_middleReading_30 : decode cX7_middleReading 30 = .ok (.istore 5, 2) := by decide +kernel
theorem dX7_middleReading_32 : decode cX7_middleReading 32 = .ok (.iload_n 2, 1) := by decide +kernel
theorem dX7_middleReading_33 : decode cX7_middleReading 33 = .ok (.iconst (-1), 1) := by decide +kernel
theorem dX7_middleReading_34 : decode cX7_middleReading 34 = .ok (.if_icmp .eq 9, 3) := by decide +kernel
theorem dX7_middleReading_37 : decode cX7_middleReading 37 = .ok (.iload 5, 2) := by decide +kernel
theorem dX7_middleReading_39 : decode cX7_middleReading 39 = .ok (.iload_n 3, 1) := by decide +kernel
theorem dX7_middleReading_40 : decode cX7_middleReading 40 = .ok (.if_icmp .ge 9, 3) := by decide +kernel
theorem dX7_middleReading_43 : decode cX7_middleReading 43 = .ok (.iload 5, 2) := by decide +kernel
theorem dX7_middleReading_45 : decode cX7_middleReading 45 = .ok (.istore_n 3, 1) := by decide +kernel
theorem dX7_middleReading_46 : decode cX7_middleReading 46 = .ok (.iload 4, 2) := by decide +kernel
theorem dX7_middleReading_48 : decode cX7_middleReading 48 = .ok (.istore_n 2, 1) := by decide +kernel
theorem dX7_middleReading_49 : decode cX7_middleReading 49 = .ok (.iinc 4 1, 3) := by decide +kernel
theorem dX7_middleReading_52 : decode cX7_middleReading 52 = .ok (.goto (-34), 3) := by decide +kernel
theorem dX7_middleReading_55 : decode cX7_middleReading 55 = .ok (.iload_n 2, 1) := by decide +kernel
theorem dX7_middleReading_56 : decode cX7_middleReading 56 = .ok (.ireturn, 1) := by decide +kernel
abbrev mX7_middleReading : MD := (cX7_middleReading, "BlottedDeed$Table", 6, 4, 99, (some .int), "middleReading", [])
def bX7_middleReading_0 (g : GE) (J : Nat → KT) : KT := i_aload 0 (i_getf 7 2 (i_push (.int 400) (i_min (i_istore 1 (i_push (.int (-1)) (i_istore 2 (i_push (.int 0) (i_istore 3 (i_push (.int 0) (i_istore 4 (i_jmp [true, true, true, true, true, false] (J 1))))))))))))
def bX7_middleReading_1 (g : GE) (J : Nat → KT) : KT := i_iload 4 (i_iload 1 (i_icge (i_iload 2 (i_ireturn)) (i_aload 0 (i_iload 4 (i_cv fX7_farthestFrom g 1 7 (i_istore 5 (i_iload 2 (i_push (.int (-1)) (i_iceq (i_jmp [true, true, false, false, true, true] (J 2)) (i_iload 5 (i_iload 3 (i_icge (i_jmp [true, true, true, true, true, false] (J 3)) (i_jmp [true, true, false, false, true, true] (J 2))))))))))))))
def bX7_middleReading_2 (g : GE) (J : Nat → KT) : KT := i_iload 5 (i_istore 3 (i_iload 4 (i_istore 2 (i_jmp [true, true, true, true, true, false] (J 3)))))
def bX7_middleReading_3 (g : GE) (J : Nat → KT) : KT := i_iinc 4 1 (i_jmp [true, true, true, true, true, false] (J 1))
theorem sbX7_middleReading_0 (g : GE) (J : Nat → KT) (h1 : Snd mX7_middleReading g 18 (J 1)) (h2 : Snd mX7_middleReading g 43 (J 2)) (h3 : Snd mX7_middleReading g 49 (J 3)) : Snd mX7_middleReading g 0 (bX7_middleReading_0 g J) := by
  unfold bX7_middleReading_0
  refine s_aload_n (pc := 0) (i := 0) ?_ dX7_middleReading_0 rfl
  refine s_getf (pc := 1) (ci := 7) (f := 2) (T := TX7) ?_ ginX7 rfl (by decide) wt_339 dX7_middleReading_1
  refine s_sipush (pc := 4) (v := 400) ?_ dX7_middleReading_4 (by decide)
  refine s_min (pc := 7) ?_ wt_299 wt_300 wt_12 wt_301 (by decide) dX7_middleReading_7
  refine s_istore_n (pc := 10) (i := 1) ?_ dX7_middleReading_10 rfl (by decide)
  refine s_iconst (pc := 11) (v := (-1)) ?_ dX7_middleReading_11 (by decide)
  refine s_istore_n (pc := 12) (i := 2) ?_ dX7_middleReading_12 rfl (by decide)
  refine s_iconst (pc := 13) (v := 0) ?_ dX7_middleReading_13 (by decide)
  refine s_istore_n (pc := 14) (i := 3) ?_ dX7_middleReading_14 rfl (by decide)
  refine s_iconst (pc := 15) (v := 0) ?_ dX7_middleReading_15 (by decide)
  refine s_istore (pc := 16) (i := 4) ?_ dX7_middleReading_16 (by decide)
  exact s_fall (pc := 18) h1
theorem sbX7_middleReading_1 (g : GE) (J : Nat → KT) (h1 : Snd mX7_middleReading g 18 (J 1)) (h2 : Snd mX7_middleReading g 43 (J 2)) (h3 : Snd mX7_middleReading g 49 (J 3)) : Snd mX7_middleReading g 18 (bX7_middleReading_1 g J) := by
  unfold bX7_middleReading_1
  refine s_iload (pc := 18) (i := 4) ?_ dX7_middleReading_18
  refine s_iload_n (pc := 20) (i := 1) ?_ dX7_middleReading_20 rfl
  refine s_icge (pc := 21) (tgt := 55) ?_ ?_ dX7_middleReading_21 (by decide)
  · skip
    refine s_iload_n (pc := 55) (i := 2) ?_ dX7_middleReading_55 rfl
    exact s_ireturn (pc := 56) rfl dX7_middleReading_56
  · skip
    refine s_aload_n (pc := 24) (i := 0) ?_ dX7_middleReading_24 rfl
    refine s_iload (pc := 25) (i := 4) ?_ dX7_middleReading_25
    refine s_cv (pc := 27) (n := 1) (ci := 7) ?_ tX7_farthestFrom rfl rfl wt_1322 wt_1323 wt_1324 wt_8 wt_1325 ⟨crX7_farthestFrom, by decide, by decide⟩ dX7_middleReading_27
    refine s_istore (pc := 30) (i := 5) ?_ dX7_middleReading_30 (by decide)
    refine s_iload_n (pc := 32) (i := 2) ?_ dX7_middleReading_32 rfl
    refine s_iconst (pc := 33) (v := (-1)) ?_ dX7_middleReading_33 (by decide)
    refine s_iceq (pc := 34) (tgt := 43) ?_ ?_ dX7_middleReading_34 (by decide)
    · skip
      exact s_fall (pc := 43) h2
    · skip
      refine s_iload (pc := 37) (i := 5) ?_ dX7_middleReading_37
      refine s_iload_n (pc := 39) (i := 3) ?_ dX7_middleReading_39 rfl
      refine s_icge (pc := 40) (tgt := 49) ?_ ?_ dX7_middleReading_40 (by decide)
      · skip
        exact s_fall (pc := 49) h3
      · skip
        exact s_fall (pc := 43) h2
theorem sbX7_middleReading_2 (g : GE) (J : Nat → KT) (h1 : Snd mX7_middleReading g 18 (J 1)) (h2 : Snd mX7_middleReading g 43 (J 2)) (h3 : Snd mX7_middleReading g 49 (J 3)) : Snd mX7_middleReading g 43 (bX7_middleReading_2 g J) := by
  unfold bX7_middleReading_2
  refine s_iload (pc := 43) (i := 5) ?_ dX7_middleReading_43
  refine s_istore_n (pc := 45) (i := 3) ?_ dX7_middleReading_45 rfl (by decide)
  refine s_iload (pc := 46) (i := 4) ?_ dX7_middleReading_46
  refine s_istore_n (pc := 48) (i := 2) ?_ dX7_middleReading_48 rfl (by decide)
  exact s_fall (pc := 49) h3
theorem sbX7_middleReading_3 (g : GE) (J : Nat → KT) (h1 : Snd mX7_middleReading g 18 (J 1)) (h2 : Snd mX7_middleReading g 43 (J 2)) (h3 : Snd mX7_middleReading g 49 (J 3)) : Snd mX7_middleReading g 49 (bX7_middleReading_3 g J) := by
  unfold bX7_middleReading_3
  refine s_iinc (pc := 49) (i := 4) (v := 1) ?_ dX7_middleReading_49 (by decide) (by decide)
  exact s_goto (pc := 52) (tgt := 18) h1 dX7_middleReading_52 (by decide)
def jX7_middleReading (g : GE) : Nat → Nat → KT
  | 0, _ => fun _ _ _ => none
  | n + 1, 0 => bX7_middleReading_0 g (jX7_middleReading g n)
  | n + 1, 1 => bX7_middleReading_1 g (jX7_middleReading g n)
  | n + 1, 2 => bX7_middleReading_2 g (jX7_middleReading g n)
  | n + 1, 3 => bX7_middleReading_3 g (jX7_middleReading g n)
  | _ + 1, _ + 4 => fun _ _ _ => none
theorem sjX7_middleReading (g : GE) : ∀ n, Snd mX7_middleReading g 0 (jX7_middleReading g n 0) ∧ Snd mX7_middleReading g 18 (jX7_middleReading g n 1) ∧ Snd mX7_middleReading g 43 (jX7_middleReading g n 2) ∧ Snd mX7_middleReading g 49 (jX7_middleReading g n 3)
  | 0 => ⟨s_none, s_none, s_none, s_none⟩
  | n + 1 => by
    obtain ⟨-, h1, h2, h3⟩ := sjX7_middleReading g n
    exact ⟨sbX7_middleReading_0 g _ h1 h2 h3, sbX7_middleReading_1 g _ h1 h2 h3, sbX7_middleReading_2 g _ h1 h2 h3, sbX7_middleReading_3 g _ h1 h2 h3⟩
def kX7_middleReading (g : GE) : KT := jX7_middleReading g g.1 0
theorem sX7_middleReading (g : GE) : Snd mX7_middleReading g 0 (kX7_middleReading g) := (sjX7_middleReading g g.1).1
def fX7_middleReading : FT := fun g av w => if (ent av).length ≤ 6 then kX7_middleReading g [] (entp 6 av) w else none
theorem tX7_middleReading : Mt yX7_middleReading cX7_middleReading 6 (some .int) 4 99 fX7_middleReading := Mt.of (K := kX7_middleReading) (by decide +kernel) (fun _ _ _ => rfl) sX7_middleReading
theorem crX7_middleReading : yX7_middleReading.cls ≠ "java/lang/invoke/MethodHandle" ∧ yX7_middleReading.cls ≠ "java/lang/invoke/VarHandle" ∧ (parseMethodDescriptor yX7_middleReading.desc).map (fun d => d.parameters.length) = some 0 := by decide +kernel
theorem dX10_middle_0 : decode cX10_middle 0 = .ok (.aload_n 0, 1) := by decide +kernel
theorem dX10_middle_1 : decode cX10_middle 1 = .ok (.iload_n 1, 1) := by decide +kernel
theorem dX10_middle_2 : decode cX10_middle 2 = .ok (.iconst 1, 1) := by decide +kernel
theorem dX10_middle_3 : decode cX10_middle 3 = .ok (.invokevirtual 104, 3) := by decide +kernel
theorem dX10_middle_6 : decode cX10_middle 6 = .ok (.aload_n 0, 1) := by decide +kernel
theorem dX10_middle_7 : decode cX10_middle 7 = .ok (.getfield 37, 3) := by decide +kernel
theorem dX10_middle_10 : decode cX10_middle 10 = .ok (.invokevirtual 297, 3) := by decide +kernel
theorem dX10_middle_13 : decode cX10_middle 13 = .ok (.istore_n 2, 1) := by decide +kernel
theorem dX10_middle_14 : decode cX10_middle 14 = .ok (.iload_n 1, 1) := by decide +kernel
theorem dX10_middle_15 : decode cX10_middle 15 = .ok (.ifCond .eq 8, 3) := by decide +kernel
theorem dX10_middle_18 : decode cX10_middle 18 = .ok (.iload_n 2, 1) := by decide +kernel
theorem dX10_middle_19 : decode cX10_middle 19 = .ok (.iconst (-1), 1) := by decide +kernel
theorem dX10_middle_20 : decode cX10_middle 20 = .ok (.if_icmp .ne 7, 3) := by decide +kernel
theorem dX10_middle_23 : decode cX10_middle 23 = .ok (.iload_n 2, 1) := by decide +kernel
theorem dX10_middle_24 : decode cX10_middle 24 = .ok (.goto 11, 3) := by decide +kernel
theorem dX10_middle_27 : decode cX10_middle 27 = .ok (.aload_n 0, 1) := by decide +kernel
theorem dX10_middle_28 : decode cX10_middle 28 = .ok (.getfield 37, 3) := by decide +kernel
theorem dX10_middle_31 : decode cX10_middle 31 = .ok (.iload_n 2, 1) := by decide +kernel
theorem dX10_middle_32 : decode cX10_middle 32 = .ok (.invokevirtual 300, 3) := by decide +kernel
theorem dX10_middle_35 : decode cX10_middle 35 = .ok (.ireturn, 1) := by decide +kernel
abbrev mX10_middle : MD := (cX10_middle, "BlottedDeed", 3, 8, 143, (some .int), "middle", [])
def bX10_middle_0 (g : GE) (J : Nat → KT) : KT := i_aload 0 (i_iload 1 (i_push (.int 1) (i_cvX fX10_needWhat g 2 9 (i_aload 0 (i_getf 9 5 (i_cv fX7_middleReading g 0 7 (i_istore 2 (i_iload 1 (i_ifeq (i_jmp [false, false, true] (J 1)) (i_iload 2 (i_push (.int (-1)) (i_icne (i_aload 0 (i_getf 9 5 (i_iload 2 (i_cv fX7_farthestFrom g 1 7 (i_jmp [false, false, false] (J 2)))))) (i_jmp [false, false, true] (J 1))))))))))))))
def bX10_middle_1 (g : GE) (J : Nat → KT) : KT := i_iload 2 (i_jmp [false, false, false] (J 2))
def bX10_middle_2 (g : GE) (J : Nat → KT) : KT := i_ireturn
theorem sbX10_middle_0 (g : GE) (J : Nat → KT) (h1 : Snd mX10_middle g 23 (J 1)) (h2 : Snd mX10_middle g 35 (J 2)) : Snd mX10_middle g 0 (bX10_middle_0 g J) := by
  unfold bX10_middle_0
  refine s_aload_n (pc := 0) (i := 0) ?_ dX10_middle_0 rfl
  refine s_iload_n (pc := 1) (i := 1) ?_ dX10_middle_1 rfl
  refine s_iconst (pc := 2) (v := 1) ?_ dX10_middle_2 (by decide)
  refine s_cvX (pc := 3) (n := 2) (ci := 9) ?_ tX10_needWhat rfl rfl wt_920 wt_922 wp_31 wt_1 wt_923 ⟨crX10_needWhat, by decide, by decide⟩ rfl dX10_middle_3
  refine s_aload_n (pc := 6) (i := 0) ?_ dX10_middle_6 rfl
  refine s_getf (pc := 7) (ci := 9) (f := 5) (T := TX10) ?_ ginX10 rfl (by decide) wt_459 dX10_middle_7
  refine s_cv (pc := 10) (n := 0) (ci := 7) ?_ tX7_middleReading rfl rfl wt_1318 wt_1319 wt_1320 wt_8 wt_1321 ⟨crX7_middleReading, by decide, by decide⟩ dX10_middle_10
  refine s_istore_n (pc := 13) (i := 2) ?_ dX10_middle_13 rfl (by decide)
  refine s_iload_n (pc := 14) (i := 1) ?_ dX10_middle_14 rfl
  refine s_ifeq (pc := 15) (tgt := 23) ?_ ?_ dX10_middle_15 (by decide)
  · skip
    exact s_fall (pc := 23) h1
  · skip
    refine s_iload_n (pc := 18) (i := 2) ?_ dX10_middle_18 rfl
    refine s_iconst (pc := 19) (v := (-1)) ?_ dX10_middle_19 (by decide)
    refine s_icne (pc := 20) (tgt := 27) ?_ ?_ dX10_middle_20 (by decide)
    · skip
      refine s_aload_n (pc := 27) (i := 0) ?_ dX10_middle_27 rfl
      refine s_getf (pc := 28) (ci := 9) (f := 5) (T := TX10) ?_ ginX10 rfl (by decide) wt_459 dX10_middle_28
      refine s_iload_n (pc := 31) (i := 2) ?_ dX10_middle_31 rfl
      refine s_cv (pc := 32) (n := 1) (ci := 7) ?_ tX7_farthestFrom rfl rfl wt_1327 wt_1323 wt_1324 wt_8 wt_1325 ⟨crX7_farthestFrom, by decide, by decide⟩ dX10_middle_32
      exact s_fall (pc := 35) h2
    · skip
      exact s_fall (pc := 23) h1
theorem sbX10_middle_1 (g : GE) (J : Nat → KT) (h1 : Snd mX10_middle g 23 (J 1)) (h2 : Snd mX10_middle g 35 (J 2)) : Snd mX10_middle g 23 (bX10_middle_1 g J) := by
  unfold bX10_middle_1
  refine s_iload_n (pc := 23) (i := 2) ?_ dX10_middle_23 rfl
  exact s_goto (pc := 24) (tgt := 35) h2 dX10_middle_24 (by decide)
theorem sbX10_middle_2 (g : GE) (J : Nat → KT) (h1 : Snd mX10_middle g 23 (J 1)) (h2 : Snd mX10_middle g 35 (J 2)) : Snd mX10_middle g 35 (bX10_middle_2 g J) := by
  unfold bX10_middle_2
  exact s_ireturn (pc := 35) rfl dX10_middle_35
def jX10_middle (g : GE) : Nat → Nat → KT
  | 0, _ => fun _ _ _ => none
  | n + 1, 0 => bX10_middle_0 g (jX10_middle g n)
  | n + 1, 1 => bX10_middle_1 g (jX10_middle g n)
  | n + 1, 2 => bX10_middle_2 g (jX10_middle g n)
  | _ + 1, _ + 3 => fun _ _ _ => none
theorem sjX10_middle (g : GE) : ∀ n, Snd mX10_middle g 0 (jX10_middle g n 0) ∧ Snd mX10_middle g 23 (jX10_middle g n 1) ∧ Snd mX10_middle g 35 (jX10_middle g n 2)
  | 0 => ⟨s_none, s_none, s_none⟩
  | n + 1 => by
    obtain ⟨-, h1, h2⟩ := sjX10_middle g n
    exact ⟨sbX10_middle_0 g _ h1 h2, sbX10_middle_1 g _ h1 h2, sbX10_middle_2 g _ h1 h2⟩
def kX10_middle (g : GE) : KT := jX10_middle g g.1 0
theorem sX10_middle (g : GE) : Snd mX10_middle g 0 (kX10_middle g) := (sjX10_middle g g.1).1
def fX10_middle : FT := fun g av w => if (ent av).length ≤ 3 then kX10_middle g [] (entp 3 av) w else none
theorem tX10_middle : Mt yX10_middle cX10_middle 3 (some .int) 8 143 fX10_middle := Mt.of (K := kX10_middle) (by decide +kernel) (fun _ _ _ => rfl) sX10_middle
theorem crX10_middle : yX10_middle.cls ≠ "java/lang/invoke/MethodHandle" ∧ yX10_middle.cls ≠ "java/lang/invoke/VarHandle" ∧ (parseMethodDescriptor yX10_middle.desc).map (fun d => d.parameters.length) = some 1 := by decide +kernel
theorem dX10_more_0 : decode cX10_more 0 = .ok (.aload_n 0, 1) := by decide +kernel
theorem dX10_more_1 : decode cX10_more 1 = .ok (.iload_n 1, 1) := by decide +kernel
theorem dX10_more_2 : decode cX10_more 2 = .ok (.aload_n 0, 1) := by decide +kernel
theorem dX10_more_3 : decode cX10_more 3 = .ok (.getfield 16, 3) := by decide +kernel
theorem dX10_more_6 : decode cX10_more 6 = .ok (.getfield 120, 3) := by decide +kernel
theorem dX10_more_9 : decode cX10_more 9 = .ok (.invokevirtual 266, 3) := by decide +kernel
theorem dX10_more_12 : decode cX10_more 12 = .ok (.aload_n 0, 1) := by decide +kernel
theorem dX10_more_13 : decode cX10_more 13 = .ok (.iload_n 2, 1) := by decide +kernel
theorem dX10_more_14 : decode cX10_more 14 = .ok (.iconst 2, 1) := by decide +kernel
theorem dX10_more_15 : decode cX10_more 15 = .ok (.invokevirtual 104, 3) := by decide +kernel
theorem dX10_more_18 : decode cX10_more 18 = .ok (.aload_n 0, 1) := by decide +kernel
theorem dX10_more_19 : decode cX10_more 19 = .ok (.getfield 37, 3) := by decide +kernel
theorem dX10_more_22 : decode cX10_more 22 = .ok (.getfield 150, 3) := by decide +kernel
theorem dX10_more_25 : decode cX10_more 25 = .ok (.ifCond .ne 5, 3) := by decide +kernel
theorem dX10_more_28 : decode cX10_more 28 = .ok (.iconst (-1), 1) := by decide +kernel
theorem dX10_more_29 : decode cX10_more 29 = .ok (.ireturn, 1) := by decide +kernel
theorem dX10_more_30 : decode cX10_more 30 = .ok (.aload_n 0, 1) := by decide +kernel
theorem dX10_more_31 : decode cX10_more 31 = .ok (.getfield 44, 3) := by decide +kernel
theorem dX10_more_34 : decode cX10_more 34 = .ok (.aload_n 0, 1) := by decide +kernel
theorem dX10_more_35 : decode cX10_more 35 = .ok (.getfield 16, 3) := by decide +kernel
theorem dX10_more_38 : decode cX10_more 38 = .ok (.aload_n 0, 1) := by decide +kernel
theorem dX10_more_39 : decode cX10_more 39 = .ok (.getfield 37, 3) := by decide +kernel
theorem dX10_more_42 : decode cX10_more 42 = .ok (.getfield 250, 3) := by decide +kernel
theorem dX10_more_45 : decode cX10_more 45 = .ok (.iconst 0, 1) := by decide +kernel
theorem dX10_more_46 : decode cX10_more 46 = .ok (.laload, 1) := by decide +kernel
theorem dX10_more_47 : decode cX10_more 47 = .ok (.invokevirtual 269, 3) := by decide +kernel
theorem dX10_more_50 : decode cX10_more 50 = .ok (.iload_n 2, 1) := by decide +kernel
theorem dX10_more_51 : decode cX10_more 51 = .ok (.ifCond .ne 12, 3) := by decide +kernel
theorem dX10_more_54 : decode cX10_more 54 = .ok (.aload_n 0, 1) := by decide +kernel
theorem dX10_more_55 : decode cX10_more 55 = .ok (.getfield 44, 3) := by decide +kernel
theorem dX10_more_58 : decode cX10_more 58 = .ok (.iload_n 1, 1) := by decide +kernel
theorem dX10_more_59 : decode cX10_more 59 = .ok (.invokevirtual 273, 3) := by decide +kernel
theorem dX10_more_62 : decode cX10_more 62 = .ok (.ireturn, 1) := by decide +kernel
theorem dX10_more_63 : decode cX10_more 63 = .ok (.iload_n 2, 1) := by decide +kernel
theorem dX10_more_64 : decode cX10_more 64 = .ok (.iconst 1, 1) := by decide +kernel
theorem dX10_more_65 : decode cX10_more 65 = .ok (.if_icmp .ne 14, 3) := by decide +kernel
theorem dX10_more_68 : decode cX10_more 68 = .ok (.aload_n 0, 1) := by decide +kernel
theorem dX10_more_69 : decode cX10_more 69 = .ok (.getfield 44, 3) := by decide +kernel
theorem dX10_more_72 : decode cX10_more 72 = .ok (.iload_n 1, 1) := by decide +kernel
theorem dX10_more_73 : decode cX10_more 73 = .ok (.invokevirtual 276, 3) := by decide +kernel
theorem dX10_more_76 : decode cX10_more 76 = .ok (.goto 11, 3) := by decide +kernel
theorem dX10_more_79 : decode cX10_more 79 = .ok (.aload_n 0, 1) := by decide +kernel
theorem dX10_more_80 : decode cX10_more 80 = .ok (.getfield 44, 3) := by decide +kernel
theorem dX10_more_83 : decode cX10_more 83 = .ok (.iload_n 1, 1) := by decide +kernel
theorem dX10_more_84 : decode cX10_more 84 = .ok (.invokevirtual 279, 3) := by decide +kernel
theorem dX10_more_87 : decode cX10_more 87 = .ok (.ireturn, 1) := by decide +kernel
abbrev mX10_more : MD := (cX10_more, "BlottedDeed", 3, 8, 143, (some .int), "more", [])
def bX10_more_0 (g : GE) (J : Nat → KT) : KT := i_aload 0 (i_iload 1 (i_aload 0 (i_getf 9 3 (i_getf 2 12 (i_cvX fX10_needIndex g 2 9 (i_aload 0 (i_iload 2 (i_push (.int 2) (i_cvX fX10_needWhat g 2 9 (i_aload 0 (i_getf 9 5 (i_getf 7 2 (i_ifne (i_aload 0 (i_getf 9 6 (i_aload 0 (i_getf 9 3 (i_aload 0 (i_getf 9 5 (i_getf 7 0 (i_push (.int 0) (i_laload (i_cv fX0_clean g 2 0 (i_iload 2 (i_ifne (i_iload 2 (i_push (.int 1) (i_icne (i_aload 0 (i_getf 9 6 (i_iload 1 (i_cv fX0_readingsAt g 1 0 (i_jmp [false, false, false] (J 1)))))) (i_aload 0 (i_getf 9 6 (i_iload 1 (i_cv fX0_candidatesAt g 1 0 (i_jmp [false, false, false] (J 1))))))))) (i_aload 0 (i_getf 9 6 (i_iload 1 (i_cv fX0_standsAt g 1 0 (i_ireturn))))))))))))))))) (i_push (.int (-1)) (i_ireturn)))))))))))))))
def bX10_more_1 (g : GE) (J : Nat → KT) : KT := i_ireturn
theorem sbX10_more_0 (g : GE) (J : Nat → KT) (h1 : Snd mX10_more g 87 (J 1)) : Snd mX10_more g 0 (bX10_more_0 g J) := by
  unfold bX10_more_0
  refine s_aload_n (pc := 0) (i := 0) ?_ dX10_more_0 rfl
  refine s_iload_n (pc := 1) (i := 1) ?_ dX10_more_1 rfl
  refine s_aload_n (pc := 2) (i := 0) ?_ dX10_more_2 rfl
  refine s_getf (pc := 3) (ci := 9) (f := 3) (T := TX10) ?_ ginX10 rfl (by decide) wt_457 dX10_more_3
  refine s_getf (pc := 6) (ci := 2) (f := 12) (T := TX2) ?_ ginX2 rfl (by decide) wt_141 dX10_more_6
  refine s_cvX (pc := 9) (n := 2) (ci := 9) ?_ tX10_needIndex rfl rfl wt_971 wt_973 wp_34 wt_1 wt_974 ⟨crX10_needIndex, by decide, by decide⟩ rfl dX10_more_9
  refine s_aload_n (pc := 12) (i := 0) ?_ dX10_more_12 rfl
  refine s_iload_n (pc := 13) (i := 2) ?_ dX10_more_13 rfl
  refine s_iconst (pc := 14) (v := 2) ?_ dX10_more_14 (by decide)
  refine s_cvX (pc := 15) (n := 2) (ci := 9) ?_ tX10_needWhat rfl rfl wt_920 wt_922 wp_31 wt_1 wt_923 ⟨crX10_needWhat, by decide, by decide⟩ rfl dX10_more_15
  refine s_aload_n (pc := 18) (i := 0) ?_ dX10_more_18 rfl
  refine s_getf (pc := 19) (ci := 9) (f := 5) (T := TX10) ?_ ginX10 rfl (by decide) wt_459 dX10_more_19
  refine s_getf (pc := 22) (ci := 7) (f := 2) (T := TX7) ?_ ginX7 rfl (by decide) wt_340 dX10_more_22
  refine s_ifne (pc := 25) (tgt := 30) ?_ ?_ dX10_more_25 (by decide)
  · skip
    refine s_aload_n (pc := 30) (i := 0) ?_ dX10_more_30 rfl
    refine s_getf (pc := 31) (ci := 9) (f := 6) (T := TX10) ?_ ginX10 rfl (by decide) wt_460 dX10_more_31
    refine s_aload_n (pc := 34) (i := 0) ?_ dX10_more_34 rfl
    refine s_getf (pc := 35) (ci := 9) (f := 3) (T := TX10) ?_ ginX10 rfl (by decide) wt_457 dX10_more_35
    refine s_aload_n (pc := 38) (i := 0) ?_ dX10_more_38 rfl
    refine s_getf (pc := 39) (ci := 9) (f := 5) (T := TX10) ?_ ginX10 rfl (by decide) wt_459 dX10_more_39
    refine s_getf (pc := 42) (ci := 7) (f := 0) (T := TX7) ?_ ginX7 rfl (by decide) wt_337 dX10_more_42
    refine s_iconst (pc := 45) (v := 0) ?_ dX10_more_45 (by decide)
    refine s_laload (pc := 46) ?_ dX10_more_46
    refine s_cv (pc := 47) (n := 2) (ci := 0) ?_ tX0_clean rfl rfl wt_1218 wt_1219 wt_1220 wt_14 wt_1221 ⟨crX0_clean, by decide, by decide⟩ dX10_more_47
    refine s_iload_n (pc := 50) (i := 2) ?_ dX10_more_50 rfl
    refine s_ifne (pc := 51) (tgt := 63) ?_ ?_ dX10_more_51 (by decide)
    · skip
      refine s_iload_n (pc := 63) (i := 2) ?_ dX10_more_63 rfl
      refine s_iconst (pc := 64) (v := 1) ?_ dX10_more_64 (by decide)
      refine s_icne (pc := 65) (tgt := 79) ?_ ?_ dX10_more_65 (by decide)
      · skip
        refine s_aload_n (pc := 79) (i := 0) ?_ dX10_more_79 rfl
        refine s_getf (pc := 80) (ci := 9) (f := 6) (T := TX10) ?_ ginX10 rfl (by decide) wt_460 dX10_more_80
        refine s_iload_n (pc := 83) (i := 1) ?_ dX10_more_83 rfl
        refine s_cv (pc := 84) (n := 1) (ci := 0) ?_ tX0_readingsAt rfl rfl wt_1240 wt_1241 wt_1242 wt_14 wt_1243 ⟨crX0_readingsAt, by decide, by decide⟩ dX10_more_84
        exact s_fall (pc := 87) h1
      · skip
        refine s_aload_n (pc := 68) (i := 0) ?_ dX10_more_68 rfl
        refine s_getf (pc := 69) (ci := 9) (f := 6) (T := TX10) ?_ ginX10 rfl (by decide) wt_460 dX10_more_69
        refine s_iload_n (pc := 72) (i := 1) ?_ dX10_more_72 rfl
        refine s_cv (pc := 73) (n := 1) (ci := 0) ?_ tX0_candidatesAt rfl rfl wt_1231 wt_1232 wt_1233 wt_14 wt_1234 ⟨crX0_candidatesAt, by decide, by decide⟩ dX10_more_73
        exact s_goto (pc := 76) (tgt := 87) h1 dX10_more_76 (by decide)
    · skip
      refine s_aload_n (pc := 54) (i := 0) ?_ dX10_more_54 rfl
      refine s_getf (pc := 55) (ci := 9) (f := 6) (T := TX10) ?_ ginX10 rfl (by decide) wt_460 dX10_more_55
      refine s_iload_n (pc := 58) (i := 1) ?_ dX10_more_58 rfl
      refine s_cv (pc := 59) (n := 1) (ci := 0) ?_ tX0_standsAt rfl rfl wt_1227 wt_1228 wt_1229 wt_14 wt_1230 ⟨crX0_standsAt, by decide, by decide⟩ dX10_more_59
      exact s_ireturn (pc := 62) rfl dX10_more_62
  · skip
    refine s_iconst (pc := 28) (v := (-1)) ?_ dX10_more_28 (by decide)
    exact s_ireturn (pc := 29) rfl dX10_more_29
theorem sbX10_more_1 (g : GE) (J : Nat → KT) (h1 : Snd mX10_more g 87 (J 1)) : Snd mX10_more g 87 (bX10_more_1 g J) := by
  unfold bX10_more_1
  exact s_ireturn (pc := 87) rfl dX10_more_87
def jX10_more (g : GE) : Nat → Nat → KT
  | 0, _ => fun _ _ _ => none
  | n + 1, 0 => bX10_more_0 g (jX10_more g n)
  | n + 1, 1 => bX10_more_1 g (jX10_more g n)
  | _ + 1, _ + 2 => fun _ _ _ => none
theorem sjX10_more (g : GE) : ∀ n, Snd mX10_more g 0 (jX10_more g n 0) ∧ Snd mX10_more g 87 (jX10_more g n 1)
  | 0 => ⟨s_none, s_none⟩
  | n + 1 => by
    obtain ⟨-, h1⟩ := sjX10_more g n
    exact ⟨sbX10_more_0 g _ h1, sbX10_more_1 g _ h1⟩
def kX10_more (g : GE) : KT := jX10_more g g.1 0
theorem sX10_more (g : GE) : Snd mX10_more g 0 (kX10_more g) := (sjX10_more g g.1).1
def fX10_more : FT := fun g av w => if (ent av).length ≤ 3 then kX10_more g [] (entp 3 av) w else none
theorem tX10_more : Mt yX10_more cX10_more 3 (some .int) 8 143 fX10_more := Mt.of (K := kX10_more) (by decide +kernel) (fun _ _ _ => rfl) sX10_more
theorem crX10_more : yX10_more.cls ≠ "java/lang/invoke/MethodHandle" ∧ yX10_more.cls ≠ "java/lang/invoke/VarHandle" ∧ (parseMethodDescriptor yX10_more.desc).map (fun d => d.parameters.length) = some 2 := by decide +kernel
theorem dX10_odds_0 : decode cX10_odds 0 = .ok (.aload_n 0, 1) := by decide +kernel
theorem dX10_odds_1 : decode cX10_odds 1 = .ok (.iload_n 1, 1) := by decide +kernel
theorem dX10_odds_2 : decode cX10_odds 2 = .ok (.invokevirtual 151, 3) := by decide +kernel
theorem dX10_odds_5 : decode cX10_odds 5 = .ok (.aload_n 0, 1) := by decide +kernel
theorem dX10_odds_6 : decode cX10_odds 6 = .ok (.getfield 51, 3) := by decide +kernel
theorem dX10_odds_9 : decode cX10_odds 9 = .ok (.aload_n 0, 1) := by decide +kernel
theorem dX10_odds_10 : decode cX10_odds 10 = .ok (.getfield 16, 3) := by decide +kernel
theorem dX10_odds_13 : decode cX10_odds 13 = .ok (.aload_n 0, 1) := by decide +kernel
theorem dX10_odds_14 : decode cX10_odds 14 = .ok (.getfield 58, 3) := by decide +kernel
theorem dX10_odds_17 : decode cX10_odds 17 = .ok (.invokevirtual 246, 3) := by decide +kernel
theorem dX10_odds_20 : decode cX10_odds 20 = .ok (.aload_n 0, 1) := by decide +kernel
theorem dX10_odds_21 : decode cX10_odds 21 = .ok (.getfield 51, 3) := by decide +kernel
theorem dX10_odds_24 : decode cX10_odds 24 = .ok (.aload_n 0, 1) := by decide +kernel
theorem dX10_odds_25 : decode cX10_odds 25 = .ok (.getfield 37, 3) := by decide +kernel
theorem dX10_odds_28 : decode cX10_odds 28 = .ok (.getfield 250, 3) := by decide +kernel
theorem dX10_odds_31 : decode cX10_odds 31 = .ok (.iload_n 1, 1) := by decide +kernel
theorem dX10_odds_32 : decode cX10_odds 32 = .ok (.laload, 1) := by decide +kernel
theorem dX10_odds_33 : decode cX10_odds 33 = .ok (.invokevirtual 254, 3) := by decide +kernel
theorem dX10_odds_36 : decode cX10_odds 36 = .ok (.lreturn, 1) := by decide +kernel
abbrev mX10_odds : MD := (cX10_odds, "BlottedDeed", 2, 8, 143, (some .long), "odds", [])
def bX10_odds_0 (g : GE) (J : Nat → KT) : KT := i_aload 0 (i_iload 1 (i_cvX fX10_needReading g 1 9 (i_aload 0 (i_getf 9 7 (i_aload 0 (i_getf 9 3 (i_aload 0 (i_getf 9 8 (i_cv fX5_weigh g 2 5 (i_aload 0 (i_getf 9 7 (i_aload 0 (i_getf 9 5 (i_getf 7 0 (i_iload 1 (i_laload (i_cv fX5_oddsOf g 1 5 (i_lreturn))))))))))))))))))
theorem sbX10_odds_0 (g : GE) (J : Nat → KT)  : Snd mX10_odds g 0 (bX10_odds_0 g J) := by
  unfold bX10_odds_0
  refine s_aload_n (pc := 0) (i := 0) ?_ dX10_odds_0 rfl
  refine s_iload_n (pc := 1) (i := 1) ?_ dX10_odds_1 rfl
  refine s_cvX (pc := 2) (n := 1) (ci := 9) ?_ tX10_needReading rfl rfl wt_967 wt_969 wp_33 wt_1 wt_970 ⟨crX10_needReading, by decide, by decide⟩ rfl dX10_odds_2
  refine s_aload_n (pc := 5) (i := 0) ?_ dX10_odds_5 rfl
  refine s_getf (pc := 6) (ci := 9) (f := 7) (T := TX10) ?_ ginX10 rfl (by decide) wt_461 dX10_odds_6
  refine s_aload_n (pc := 9) (i := 0) ?_ dX10_odds_9 rfl
  refine s_getf (pc := 10) (ci := 9) (f := 3) (T := TX10) ?_ ginX10 rfl (by decide) wt_457 dX10_odds_10
  refine s_aload_n (pc := 13) (i := 0) ?_ dX10_odds_13 rfl
  refine s_getf (pc := 14) (ci := 9) (f := 8) (T := TX10) ?_ ginX10 rfl (by decide) wt_462 dX10_odds_14
  refine s_cv (pc := 17) (n := 2) (ci := 5) ?_ tX5_weigh rfl rfl wt_560 wt_561 wt_562 wt_15 wt_563 ⟨crX5_weigh, by decide, by decide⟩ dX10_odds_17
  refine s_aload_n (pc := 20) (i := 0) ?_ dX10_odds_20 rfl
  refine s_getf (pc := 21) (ci := 9) (f := 7) (T := TX10) ?_ ginX10 rfl (by decide) wt_461 dX10_odds_21
  refine s_aload_n (pc := 24) (i := 0) ?_ dX10_odds_24 rfl
  refine s_getf (pc := 25) (ci := 9) (f := 5) (T := TX10) ?_ ginX10 rfl (by decide) wt_459 dX10_odds_25
  refine s_getf (pc := 28) (ci := 7) (f := 0) (T := TX7) ?_ ginX7 rfl (by decide) wt_337 dX10_odds_28
  refine s_iload_n (pc := 31) (i := 1) ?_ dX10_odds_31 rfl
  refine s_laload (pc := 32) ?_ dX10_odds_32
  refine s_cv (pc := 33) (n := 1) (ci := 5) ?_ tX5_oddsOf rfl rfl wt_576 wt_577 wt_578 wt_15 wt_579 ⟨crX5_oddsOf, by decide, by decide⟩ dX10_odds_33
  exact s_lreturn (pc := 36) rfl dX10_odds_36
def kX10_odds (g : GE) : KT := bX10_odds_0 g (fun _ _ _ _ => none)
theorem sX10_odds (g : GE) : Snd mX10_odds g 0 (kX10_odds g) := sbX10_odds_0 g _
def fX10_odds : FT := fun g av w => if (ent av).length ≤ 2 then kX10_odds g [] (entp 2 av) w else none
theorem tX10_odds : Mt yX10_odds cX10_odds 2 (some .long) 8 143 fX10_odds := Mt.of (K := kX10_odds) (by decide +kernel) (fun _ _ _ => rfl) sX10_odds
theorem crX10_odds : yX10_odds.cls ≠ "java/lang/invoke/MethodHandle" ∧ yX10_odds.cls ≠ "java/lang/invoke/VarHandle" ∧ (parseMethodDescriptor yX10_odds.desc).map (fun d => d.parameters.length) = some 1 := by decide +kernel
theorem dX10_often_0 : decode cX10_often 0 = .ok (.aload_n 0, 1) := by decide +kernel
theorem dX10_often_1 : decode cX10_often 1 = .ok (.iload_n 1, 1) := by decide +kernel
theorem dX10_often_2 : decode cX10_often 2 = .ok (.invokevirtual 175, 3) := by decide +kernel
theorem dX10_often_5 : decode cX10_often 5 = .ok (.aload_n 0, 1) := by decide +kernel
theorem dX10_often_6 : decode cX10_often 6 = .ok (.iload_n 2, 1) := by decide +kernel
theorem dX10_often_7 : decode cX10_often 7 = .ok (.invokevirtual 166, 3) := by decide +kernel
theorem dX10_often_10 : decode cX10_often 10 = .ok (.aload_n 0, 1) := by decide +kernel
theorem dX10_often_11 : decode cX10_often 11 = .ok (.getfield 37, 3) := by decide +kernel
theorem dX10_often_14 : decode cX10_often 14 = .ok (.iload_n 1, 1) := by decide +kernel
theorem dX10_often_15 : decode cX10_often 15 = .ok (.iload_n 2, 1) := by decide +kernel
theorem dX10_often_16 : decode cX10_often 16 = .ok (.invokevirtual 181, 3) := by decide +kernel
theorem dX10_often_19 : decode cX10_often 19 = .ok (.ireturn, 1) := by decide +kernel
abbrev mX10_often : MD := (cX10_often, "BlottedDeed", 3, 8, 143, (some .int), "often", [])
def bX10_often_0 (g : GE) (J : Nat → KT) : KT := i_aload 0 (i_iload 1 (i_cvX fX10_needThing g 1 9 (i_aload 0 (i_iload 2 (i_cvX fX10_needHeir g 1 9 (i_aload 0 (i_getf 9 5 (i_iload 1 (i_iload 2 (i_cv fX7_timesOwned g 2 7 (i_ireturn)))))))))))
theorem sbX10_often_0 (g : GE) (J : Nat → KT)  : Snd mX10_often g 0 (bX10_often_0 g J) := by
  unfold bX10_often_0
  refine s_aload_n (pc := 0) (i := 0) ?_ dX10_often_0 rfl
  refine s_iload_n (pc := 1) (i := 1) ?_ dX10_often_1 rfl
  refine s_cvX (pc := 2) (n := 1) (ci := 9) ?_ tX10_needThing rfl rfl wt_1030 wt_1032 wp_36 wt_1 wt_1033 ⟨crX10_needThing, by decide, by decide⟩ rfl dX10_often_2
  refine s_aload_n (pc := 5) (i := 0) ?_ dX10_often_5 rfl
  refine s_iload_n (pc := 6) (i := 2) ?_ dX10_often_6 rfl
  refine s_cvX (pc := 7) (n := 1) (ci := 9) ?_ tX10_needHeir rfl rfl wt_1010 wt_1012 wp_35 wt_1 wt_1013 ⟨crX10_needHeir, by decide, by decide⟩ rfl dX10_often_7
  refine s_aload_n (pc := 10) (i := 0) ?_ dX10_often_10 rfl
  refine s_getf (pc := 11) (ci := 9) (f := 5) (T := TX10) ?_ ginX10 rfl (by decide) wt_459 dX10_often_11
  refine s_iload_n (pc := 14) (i := 1) ?_ dX10_often_14 rfl
  refine s_iload_n (pc := 15) (i := 2) ?_ dX10_often_15 rfl
  refine s_cv (pc := 16) (n := 2) (ci := 7) ?_ tX7_timesOwned rfl rfl wt_1042 wt_590 wt_591 wt_8 wt_592 ⟨crX7_timesOwned, by decide, by decide⟩ dX10_often_16
  exact s_ireturn (pc := 19) rfl dX10_often_19
def kX10_often (g : GE) : KT := bX10_often_0 g (fun _ _ _ _ => none)
theorem sX10_often (g : GE) : Snd mX10_often g 0 (kX10_often g) := sbX10_often_0 g _
def fX10_often : FT := fun g av w => if (ent av).length ≤ 3 then kX10_often g [] (entp 3 av) w else none
theorem tX10_often : Mt yX10_often cX10_often 3 (some .int) 8 143 fX10_often := Mt.of (K := kX10_often) (by decide +kernel) (fun _ _ _ => rfl) sX10_often
theorem crX10_often : yX10_often.cls ≠ "java/lang/invoke/MethodHandle" ∧ yX10_often.cls ≠ "java/lang/invoke/VarHandle" ∧ (parseMethodDescriptor yX10_often.desc).map (fun d => d.parameters.length) = some 2 := by decide +kernel
theorem dX10_pairs_0 : decode cX10_pairs 0 = .ok (.aload_n 0, 1) := by decide +kernel
theorem dX10_pairs_1 : decode cX10_pairs 1 = .ok (.iload_n 1, 1) := by decide +kernel
theorem dX10_pairs_2 : decode cX10_pairs 2 = .ok (.invokevirtual 175, 3) := by decide +kernel
theorem dX10_pairs_5 : decode cX10_pairs 5 = .ok (.aload_n 0, 1) := by decide +kernel
theorem dX10_pairs_6 : decode cX10_pairs 6 = .ok (.iload_n 2, 1) := by decide +kernel
theorem dX10_pairs_7 : decode cX10_pairs 7 = .ok (.invokevirtual 175, 3) := by decide +kernel
theorem dX10_pairs_10 : decode cX10_pairs 10 = .ok (.aload_n 0, 1) := by decide +kernel
theorem dX10_pairs_11 : decode cX10_pairs 11 = .ok (.iload_n 1, 1) := by decide +kernel
theorem dX10_pairs_12 : decode cX10_pairs 12 = .ok (.iload_n 2, 1) := by decide +kernel
theorem dX10_pairs_13 : decode cX10_pairs 13 = .ok (.if_icmp .eq 7, 3) := by decide +kernel
theorem dX10_pairs_16 : decode cX10_pairs 16 = .ok (.iconst 1, 1) := by decide +kernel
theorem dX10_pairs_17 : decode cX10_pairs 17 = .ok (.goto 4, 3) := by decide +kernel
theorem dX10_pairs_20 : decode cX10_pairs 20 = .ok (.iconst 0, 1) := by decide +kernel
theorem dX10_pairs_21 : decode cX10_pairs 21 = .ok (.invokevirtual 80, 3) := by decide +kernel
theorem dX10_pairs_24 : decode cX10_pairs 24 = .ok (.iconst 0, 1) := by decide +kernel
theorem dX10_pairs_25 : decode cX10_pairs 25 = .ok (.istore_n 3, 1) := by decide +kernel
theorem dX10_pairs_26 : decode cX10_pairs 26 = .ok (.iconst 0, 1) := by decide +kernel
theorem dX10_pairs_27 : decode cX10_pairs 27 = .ok (.istore 4, 2) := by decide +kernel
theorem dX10_pairs_29 : decode cX10_pairs 29 = .ok (.iload 4, 2) := by decide +kernel
theorem dX10_pairs_31 : decode cX10_pairs 31 = .ok (.aload_n 0, 1) := by decide +kernel
theorem dX10_pairs_32 : decode cX10_pairs 32 = .ok (.getfield 37, 3) := by decide +kernel
theorem dX10_pairs_35 : decode cX10_pairs 35 = .ok (.getfield 150, 3) := by decide +kernel
theorem dX10_pairs_38 : decode cX10_pairs 38 = .ok (.if_icmp .ge 45, 3) := by decide +kernel
theorem dX10_pairs_41 : decode cX10_pairs 41 = .ok (.aload_n 0, 1) := by decide +kernel
theorem dX10_pairs_42 : decode cX10_pairs 42 = .ok (.getfield 37, 3) := by decide +kernel
theorem dX10_pairs_45 : decode cX10_pairs 45 = .ok (.iload 4, 2) := by decide +kernel
theorem dX10_pairs_47 : decode cX10_pairs 47 = .ok (.iload_n 1, 1) := by decide +kernel
theorem dX10_pairs_48 : decode cX10_pairs 48 = .ok (.invokevirtual 178, 3) := by decide +kernel
theorem dX10_pairs_51 : decode cX10_pairs 51 = .ok (.istore 5, 2) := by decide +kernel
theorem dX10_pairs_53 : decode cX10_pairs 53 = .ok (.iload 5, 2) := by decide +kernel
theorem dX10_pairs_55 : decode cX10_pairs 55 = .ok (.iconst (-1), 1) := by decide +kernel
theorem dX10_pairs_56 : decode cX10_pairs 56 = .ok (.if_icmp .eq 21, 3) := by decide +kernel
theorem dX10_pairs_59 : decode cX10_pairs 59 = .ok (.iload 5, 2) := by decide +kernel
theorem dX10_pairs_61 : decode cX10_pairs 61 = .ok (.aload_n 0, 1) := by decide +kernel
theorem dX10_pairs_62 : decode cX10_pairs 62 = .ok (.getfield 37, 3) := by decide +kernel
theorem dX10_pairs_65 : decode cX10_pairs 65 = .ok (.iload 4, 2) := by decide +kernel
theorem dX10_pairs_67 : decode cX10_pairs 67 = .ok (.iload_n 2, 1) := by decide +kernel
theorem dX10_pairs_68 : decode cX10_pairs 68 = .ok (.invokevirtual 178, 3) := by decide +kernel
theorem dX10_pairs_71 : decode cX10_pairs 71 = .ok (.if_icmp .ne 6, 3) := by decide +kernel
theorem dX10_pairs_74 : decode cX10_pairs 74 = .ok (.iinc 3 1, 3) := by decide +kernel
theorem dX10_pairs_77 : decode cX10_pairs 77 = .ok (.iinc 4 1, 3) := by decide +kernel
theorem dX10_pairs_80 : decode cX10_pairs 80 = .ok (.goto (-51), 3) := by decide +kernel
theorem dX10_pairs_83 : decode cX10_pairs 83 = .ok (.iload_n 3, 1) := by decide +kernel
theorem dX10_pairs_84 : decode cX10_pairs 84 = .ok (.ireturn, 1) := by decide +kernel
abbrev mX10_pairs : MD := (cX10_pairs, "BlottedDeed", 6, 8, 143, (some .int), "pairs", [])
def bX10_pairs_0 (g : GE) (J : Nat → KT) : KT := i_aload 0 (i_iload 1 (i_cvX fX10_needThing g 1 9 (i_aload 0 (i_iload 2 (i_cvX fX10_needThing g 1 9 (i_aload 0 (i_iload 1 (i_iload 2 (i_iceq (i_push (.int 0) (i_jmp [true, true, true, false, false, false] (J 1))) (i_push (.int 1) (i_jmp [true, true, true, false, false, false] (J 1))))))))))))
def bX10_pairs_1 (g : GE) (J : Nat → KT) : KT := i_cvX fX10_needArgument g 1 9 (i_push (.int 0) (i_istore 3 (i_push (.int 0) (i_istore 4 (i_jmp [true, true, true, true, true, false] (J 2))))))
def bX10_pairs_2 (g : GE) (J : Nat → KT) : KT := i_iload 4 (i_aload 0 (i_getf 9 5 (i_getf 7 2 (i_icge (i_iload 3 (i_ireturn)) (i_aload 0 (i_getf 9 5 (i_iload 4 (i_iload 1 (i_cv fX7_ownerOf g 2 7 (i_istore 5 (i_iload 5 (i_push (.int (-1)) (i_iceq (i_jmp [true, true, true, true, true, false] (J 3)) (i_iload 5 (i_aload 0 (i_getf 9 5 (i_iload 4 (i_iload 2 (i_cv fX7_ownerOf g 2 7 (i_icne (i_jmp [true, true, true, true, true, false] (J 3)) (i_iinc 3 1 (i_jmp [true, true, true, true, true, false] (J 3)))))))))))))))))))))))
def bX10_pairs_3 (g : GE) (J : Nat → KT) : KT := i_iinc 4 1 (i_jmp [true, true, true, true, true, false] (J 2))
theorem sbX10_pairs_0 (g : GE) (J : Nat → KT) (h1 : Snd mX10_pairs g 21 (J 1)) (h2 : Snd mX10_pairs g 29 (J 2)) (h3 : Snd mX10_pairs g 77 (J 3)) : Snd mX10_pairs g 0 (bX10_pairs_0 g J) := by
  unfold bX10_pairs_0
  refine s_aload_n (pc := 0) (i := 0) ?_ dX10_pairs_0 rfl
  refine s_iload_n (pc := 1) (i := 1) ?_ dX10_pairs_1 rfl
  refine s_cvX (pc := 2) (n := 1) (ci := 9) ?_ tX10_needThing rfl rfl wt_1030 wt_1032 wp_36 wt_1 wt_1033 ⟨crX10_needThing, by decide, by decide⟩ rfl dX10_pairs_2
  refine s_aload_n (pc := 5) (i := 0) ?_ dX10_pairs_5 rfl
  refine s_iload_n (pc := 6) (i := 2) ?_ dX10_pairs_6 rfl
  refine s_cvX (pc := 7) (n := 1) (ci := 9) ?_ tX10_needThing rfl rfl wt_1030 wt_1032 wp_36 wt_1 wt_1033 ⟨crX10_needThing, by decide, by decide⟩ rfl dX10_pairs_7
  refine s_aload_n (pc := 10) (i := 0) ?_ dX10_pairs_10 rfl
  refine s_iload_n (pc := 11) (i := 1) ?_ dX10_pairs_11 rfl
  refine s_iload_n (pc := 12) (i := 2) ?_ dX10_pairs_12 rfl
  refine s_iceq (pc := 13) (tgt := 20) ?_ ?_ dX10_pairs_13 (by decide)
  · skip
    refine s_iconst (pc := 20) (v := 0) ?_ dX10_pairs_20 (by decide)
    exact s_fall (pc := 21) h1
  · skip
    refine s_iconst (pc := 16) (v := 1) ?_ dX10_pairs_16 (by decide)
    exact s_goto (pc := 17) (tgt := 21) h1 dX10_pairs_17 (by decide)
theorem sbX10_pairs_1 (g : GE) (J : Nat → KT) (h1 : Snd mX10_pairs g 21 (J 1)) (h2 : Snd mX10_pairs g 29 (J 2)) (h3 : Snd mX10_pairs g 77 (J 3)) : Snd mX10_pairs g 21 (bX10_pairs_1 g J) := by
  unfold bX10_pairs_1
  refine s_cvX (pc := 21) (n := 1) (ci := 9) ?_ tX10_needArgument rfl rfl wt_626 wt_628 wp_8 wt_1 wt_629 ⟨crX10_needArgument, by decide, by decide⟩ rfl dX10_pairs_21
  refine s_iconst (pc := 24) (v := 0) ?_ dX10_pairs_24 (by decide)
  refine s_istore_n (pc := 25) (i := 3) ?_ dX10_pairs_25 rfl (by decide)
  refine s_iconst (pc := 26) (v := 0) ?_ dX10_pairs_26 (by decide)
  refine s_istore (pc := 27) (i := 4) ?_ dX10_pairs_27 (by decide)
  exact s_fall (pc := 29) h2
theorem sbX10_pairs_2 (g : GE) (J : Nat → KT) (h1 : Snd mX10_pairs g 21 (J 1)) (h2 : Snd mX10_pairs g 29 (J 2)) (h3 : Snd mX10_pairs g 77 (J 3)) : Snd mX10_pairs g 29 (bX10_pairs_2 g J) := by
  unfold bX10_pairs_2
  refine s_iload (pc := 29) (i := 4) ?_ dX10_pairs_29
  refine s_aload_n (pc := 31) (i := 0) ?_ dX10_pairs_31 rfl
  refine s_getf (pc := 32) (ci := 9) (f := 5) (T := TX10) ?_ ginX10 rfl (by decide) wt_459 dX10_pairs_32
  refine s_getf (pc := 35) (ci := 7) (f := 2) (T := TX7) ?_ ginX7 rfl (by decide) wt_340 dX10_pairs_35
  refine s_icge (pc := 38) (tgt := 83) ?_ ?_ dX10_pairs_38 (by decide)
  · skip
    refine s_iload_n (pc := 83) (i := 3) ?_ dX10_pairs_83 rfl
    exact s_ireturn (pc := 84) rfl dX10_pairs_84
  · skip
    refine s_aload_n (pc := 41) (i := 0) ?_ dX10_pairs_41 rfl
    refine s_getf (pc := 42) (ci := 9) (f := 5) (T := TX10) ?_ ginX10 rfl (by decide) wt_459 dX10_pairs_42
    refine s_iload (pc := 45) (i := 4) ?_ dX10_pairs_45
    refine s_iload_n (pc := 47) (i := 1) ?_ dX10_pairs_47 rfl
    refine s_cv (pc := 48) (n := 2) (ci := 7) ?_ tX7_ownerOf rfl rfl wt_1034 wt_594 wt_595 wt_8 wt_596 ⟨crX7_ownerOf, by decide, by decide⟩ dX10_pairs_48
    refine s_istore (pc := 51) (i := 5) ?_ dX10_pairs_51 (by decide)
    refine s_iload (pc := 53) (i := 5) ?_ dX10_pairs_53
    refine s_iconst (pc := 55) (v := (-1)) ?_ dX10_pairs_55 (by decide)
    refine s_iceq (pc := 56) (tgt := 77) ?_ ?_ dX10_pairs_56 (by decide)
    · skip
      exact s_fall (pc := 77) h3
    · skip
      refine s_iload (pc := 59) (i := 5) ?_ dX10_pairs_59
      refine s_aload_n (pc := 61) (i := 0) ?_ dX10_pairs_61 rfl
      refine s_getf (pc := 62) (ci := 9) (f := 5) (T := TX10) ?_ ginX10 rfl (by decide) wt_459 dX10_pairs_62
      refine s_iload (pc := 65) (i := 4) ?_ dX10_pairs_65
      refine s_iload_n (pc := 67) (i := 2) ?_ dX10_pairs_67 rfl
      refine s_cv (pc := 68) (n := 2) (ci := 7) ?_ tX7_ownerOf rfl rfl wt_1034 wt_594 wt_595 wt_8 wt_596 ⟨crX7_ownerOf, by decide, by decide⟩ dX10_pairs_68
      refine s_icne (pc := 71) (tgt := 77) ?_ ?_ dX10_pairs_71 (by decide)
      · skip
        exact s_fall (pc := 77) h3
      · skip
        refine s_iinc (pc := 74) (i := 3) (v := 1) ?_ dX10_pairs_74 (by decide) (by decide)
        exact s_fall (pc := 77) h3
theorem sbX10_pairs_3 (g : GE) (J : Nat → KT) (h1 : Snd mX10_pairs g 21 (J 1)) (h2 : Snd mX10_pairs g 29 (J 2)) (h3 : Snd mX10_pairs g 77 (J 3)) : Snd mX10_pairs g 77 (bX10_pairs_3 g J) := by
  unfold bX10_pairs_3
  refine s_iinc (pc := 77) (i := 4) (v := 1) ?_ dX10_pairs_77 (by decide) (by decide)
  exact s_goto (pc := 80) (tgt := 29) h2 dX10_pairs_80 (by decide)
def jX10_pairs (g : GE) : Nat → Nat → KT
  | 0, _ => fun _ _ _ => none
  | n + 1, 0 => bX10_pairs_0 g (jX10_pairs g n)
  | n + 1, 1 => bX10_pairs_1 g (jX10_pairs g n)
  | n + 1, 2 => bX10_pairs_2 g (jX10_pairs g n)
  | n + 1, 3 => bX10_pairs_3 g (jX10_pairs g n)
  | _ + 1, _ + 4 => fun _ _ _ => none
theorem sjX10_pairs (g : GE) : ∀ n, Snd mX10_pairs g 0 (jX10_pairs g n 0) ∧ Snd mX10_pairs g 21 (jX10_pairs g n 1) ∧ Snd mX10_pairs g 29 (jX10_pairs g n 2) ∧ Snd mX10_pairs g 77 (jX10_pairs g n 3)
  | 0 => ⟨s_none, s_none, s_none, s_none⟩
  | n + 1 => by
    obtain ⟨-, h1, h2, h3⟩ := sjX10_pairs g n
    exact ⟨sbX10_pairs_0 g _ h1 h2 h3, sbX10_pairs_1 g _ h1 h2 h3, sbX10_pairs_2 g _ h1 h2 h3, sbX10_pairs_3 g _ h1 h2 h3⟩
def kX10_pairs (g : GE) : KT := jX10_pairs g g.1 0
theorem sX10_pairs (g : GE) : Snd mX10_pairs g 0 (kX10_pairs g) := (sjX10_pairs g g.1).1
def fX10_pairs : FT := fun g av w => if (ent av).length ≤ 6 then kX10_pairs g [] (entp 6 av) w else none
theorem tX10_pairs : Mt yX10_pairs cX10_pairs 6 (some .int) 8 143 fX10_pairs := Mt.of (K := kX10_pairs) (by decide +kernel) (fun _ _ _ => rfl) sX10_pairs
theorem crX10_pairs : yX10_pairs.cls ≠ "java/lang/invoke/MethodHandle" ∧ yX10_pairs.cls ≠ "java/lang/invoke/VarHandle" ∧ (parseMethodDescriptor yX10_pairs.desc).map (fun d => d.parameters.length) = some 2 := by decide +kernel
theorem dX10_reading_0 : decode cX10_reading 0 = .ok (.aload_n 0, 1) := by decide +kernel
theorem dX10_reading_1 : decode cX10_reading 1 = .ok (.iload_n 1, 1) := by decide +kernel
theorem dX10_reading_2 : decode cX10_reading 2 = .ok (.invokevirtual 151, 3) := by decide +kernel
theorem dX10_reading_5 : decode cX10_reading 5 = .ok (.aload_n 0, 1) := by decide +kernel
theorem dX10_reading_6 : decode cX10_reading 6 = .ok (.iload_n 2, 1) := by decide +kernel
theorem dX10_reading_7 : decode cX10_reading 7 = .ok (.invokevirtual 126, 3) := by decide +kernel
theorem dX10_reading_10 : decode cX10_reading 10 = .ok (.aload_n 0, 1) := by decide +kernel
theorem dX10_reading_11 : decode cX10_reading 11 = .ok (.getfield 16, 3) := by decide +kernel
theorem dX10_reading_14 : decode cX10_reading 14 = .ok (.getfield 129, 3) := by decide +kernel
theorem dX10_reading_17 : decode cX10_reading 17 = .ok (.iload_n 2, 1) := by decide +kernel
theorem dX10_reading_18 : decode cX10_reading 18 = .ok (.aaload, 1) := by decide +kernel
theorem dX10_reading_19 : decode cX10_reading 19 = .ok (.getfield 147, 3) := by decide +kernel
theorem dX10_reading_22 : decode cX10_reading 22 = .ok (.aload_n 0, 1) := by decide +kernel
theorem dX10_reading_23 : decode cX10_reading 23 = .ok (.getfield 37, 3) := by decide +kernel
theorem dX10_reading_26 : decode cX10_reading 26 = .ok (.iload_n 1, 1) := by decide +kernel
theorem dX10_reading_27 : decode cX10_reading 27 = .ok (.iload_n 2, 1) := by decide +kernel
theorem dX10_reading_28 : decode cX10_reading 28 = .ok (.invokevirtual 154, 3) := by decide +kernel
theorem dX10_reading_31 : decode cX10_reading 31 = .ok (.iaload, 1) := by decide +kernel
theorem dX10_reading_32 : decode cX10_reading 32 = .ok (.ireturn, 1) := by decide +kernel
abbrev mX10_reading : MD := (cX10_reading, "BlottedDeed", 3, 8, 143, (some .int), "reading", [])
def bX10_reading_0 (g : GE) (J : Nat → KT) : KT := i_aload 0 (i_iload 1 (i_cvX fX10_needReading g 1 9 (i_aload 0 (i_iload 2 (i_cvX fX10_needBlot g 1 9 (i_aload 0 (i_getf 9 3 (i_getf 2 8 (i_iload 2 (i_aaload 6 (i_getf 1 0 (i_aload 0 (i_getf 9 5 (i_iload 1 (i_iload 2 (i_cv fX7_digit g 2 7 (i_iaload (i_ireturn))))))))))))))))))
theorem sbX10_reading_0 (g : GE) (J : Nat → KT)  : Snd mX10_reading g 0 (bX10_reading_0 g J) := by
  unfold bX10_reading_0
  refine s_aload_n (pc := 0) (i := 0) ?_ dX10_reading_0 rfl
  refine s_iload_n (pc := 1) (i := 1) ?_ dX10_reading_1 rfl
  refine s_cvX (pc := 2) (n := 1) (ci := 9) ?_ tX10_needReading rfl rfl wt_967 wt_969 wp_33 wt_1 wt_970 ⟨crX10_needReading, by decide, by decide⟩ rfl dX10_reading_2
  refine s_aload_n (pc := 5) (i := 0) ?_ dX10_reading_5 rfl
  refine s_iload_n (pc := 6) (i := 2) ?_ dX10_reading_6 rfl
  refine s_cvX (pc := 7) (n := 1) (ci := 9) ?_ tX10_needBlot rfl rfl wt_932 wt_934 wp_32 wt_1 wt_935 ⟨crX10_needBlot, by decide, by decide⟩ rfl dX10_reading_7
  refine s_aload_n (pc := 10) (i := 0) ?_ dX10_reading_10 rfl
  refine s_getf (pc := 11) (ci := 9) (f := 3) (T := TX10) ?_ ginX10 rfl (by decide) wt_457 dX10_reading_11
  refine s_getf (pc := 14) (ci := 2) (f := 8) (T := TX2) ?_ ginX2 rfl (by decide) wt_127 dX10_reading_14
  refine s_iload_n (pc := 17) (i := 2) ?_ dX10_reading_17 rfl
  refine s_aaload (pc := 18) (t := 6) ?_ (by decide) rfl dX10_reading_18
  refine s_getf (pc := 19) (ci := 1) (f := 0) (T := TX1) ?_ ginX1 rfl (by decide) wt_79 dX10_reading_19
  refine s_aload_n (pc := 22) (i := 0) ?_ dX10_reading_22 rfl
  refine s_getf (pc := 23) (ci := 9) (f := 5) (T := TX10) ?_ ginX10 rfl (by decide) wt_459 dX10_reading_23
  refine s_iload_n (pc := 26) (i := 1) ?_ dX10_reading_26 rfl
  refine s_iload_n (pc := 27) (i := 2) ?_ dX10_reading_27 rfl
  refine s_cv (pc := 28) (n := 2) (ci := 7) ?_ tX7_digit rfl rfl wt_991 wt_539 wt_540 wt_8 wt_541 ⟨crX7_digit, by decide, by decide⟩ dX10_reading_28
  refine s_iaload (pc := 31) ?_ dX10_reading_31
  exact s_ireturn (pc := 32) rfl dX10_reading_32
def kX10_reading (g : GE) : KT := bX10_reading_0 g (fun _ _ _ _ => none)
theorem sX10_reading (g : GE) : Snd mX10_reading g 0 (kX10_reading g) := sbX10_reading_0 g _
def fX10_reading : FT := fun g av w => if (ent av).length ≤ 3 then kX10_reading g [] (entp 3 av) w else none
theorem tX10_reading : Mt yX10_reading cX10_reading 3 (some .int) 8 143 fX10_reading := Mt.of (K := kX10_reading) (by decide +kernel) (fun _ _ _ => rfl) sX10_reading
theorem crX10_reading : yX10_reading.cls ≠ "java/lang/invoke/MethodHandle" ∧ yX10_reading.cls ≠ "java/lang/invoke/VarHandle" ∧ (parseMethodDescriptor yX10_reading.desc).map (fun d => d.parameters.length) = some 2 := by decide +kernel
theorem dX10_readings_0 : decode cX10_readings 0 = .ok (.aload_n 0, 1) := by decide +kernel
theorem dX10_readings_1 : decode cX10_readings 1 = .ok (.getfield 37, 3) := by decide +kernel
theorem dX10_readings_4 : decode cX10_readings 4 = .ok (.getfield 150, 3) := by decide +kernel
theorem dX10_readings_7 : decode cX10_readings 7 = .ok (.ireturn, 1) := by decide +kernel
abbrev mX10_readings : MD := (cX10_readings, "BlottedDeed", 1, 1, 30, (some .int), "readings", [])
def bX10_readings_0 (g : GE) (J : Nat → KT) : KT := i_aload 0 (i_getf 9 5 (i_getf 7 2 (i_ireturn)))
theorem sbX10_readings_0 (g : GE) (J : Nat → KT)  : Snd mX10_readings g 0 (bX10_readings_0 g J) := by
  unfold bX10_readings_0
  refine s_aload_n (pc := 0) (i := 0) ?_ dX10_readings_0 rfl
  refine s_getf (pc := 1) (ci := 9) (f := 5) (T := TX10) ?_ ginX10 rfl (by decide) wt_459 dX10_readings_1
  refine s_getf (pc := 4) (ci := 7) (f := 2) (T := TX7) ?_ ginX7 rfl (by decide) wt_340 dX10_readings_4
  exact s_ireturn (pc := 7) rfl dX10_readings_7
def kX10_readings (g : GE) : KT := bX10_readings_0 g (fun _ _ _ _ => none)
theorem sX10_readings (g : GE) : Snd mX10_readings g 0 (kX10_readings g) := sbX10_readings_0 g _
def fX10_readings : FT := fun g av w => if (ent av).length ≤ 1 then kX10_readings g [] (entp 1 av) w else none
theorem tX10_readings : Mt yX10_readings cX10_readings 1 (some .int) 1 30 fX10_readings := Mt.of (K := kX10_readings) (by decide +kernel) (fun _ _ _ => rfl) sX10_readings
theorem crX10_readings : yX10_readings.cls ≠ "java/lang/invoke/MethodHandle" ∧ yX10_readings.cls ≠ "java/lang/invoke/VarHandle" ∧ (parseMethodDescriptor yX10_readings.desc).map (fun d => d.parameters.length) = some 0 := by decide +kernel
theorem dX10_restore_0 : decode cX10_restore 0 = .ok (.aload_n 0, 1) := by decide +kernel
theorem dX10_restore_1 : decode cX10_restore 1 = .ok (.getfield 95, 3) := by decide +kernel
theorem dX10_restore_4 : decode cX10_restore 4 = .ok (.ifCond .gt 5, 3) := by decide +kernel
theorem dX10_restore_7 : decode cX10_restore 7 = .ok (.iconst (-1), 1) := by decide +kernel
theorem dX10_restore_8 : decode cX10_restore 8 = .ok (.ireturn, 1) := by decide +kernel
theorem dX10_restore_9 : decode cX10_restore 9 = .ok (.aload_n 0, 1) := by decide +kernel
theorem dX10_restore_10 : decode cX10_restore 10 = .ok (.dup, 1) := by decide +kernel
theorem dX10_restore_11 : decode cX10_restore 11 = .ok (.getfield 95, 3) := by decide +kernel
theorem dX10_restore_14 : decode cX10_restore 14 = .ok (.iconst 1, 1) := by decide +kernel
theorem dX10_restore_15 : decode cX10_restore 15 = .ok (.isub, 1) := by decide +kernel
theorem dX10_restore_16 : decode cX10_restore 16 = .ok (.putfield 95, 3) := by decide +kernel
theorem dX10_restore_19 : decode cX10_restore 19 = .ok (.aload_n 0, 1) := by decide +kernel
theorem dX10_restore_20 : decode cX10_restore 20 = .ok (.getfield 58, 3) := by decide +kernel
theorem dX10_restore_23 : decode cX10_restore 23 = .ok (.aload_n 0, 1) := by decide +kernel
theorem dX10_restore_24 : decode cX10_restore 24 = .ok (.getfield 62, 3) := by decide +kernel
theorem dX10_restore_27 : decode cX10_restore 27 = .ok (.aload_n 0, 1) := by decide +kernel
theorem dX10_restore_28 : decode cX10_restore 28 = .ok (.getfield 95, 3) := by decide +kernel
theorem dX10_restore_31 : decode cX10_restore 31 = .ok (.aaload, 1) := by decide +kernel
theorem dX10_restore_32 : decode cX10_restore 32 = .ok (.invokevirtual 315, 3) := by decide +kernel
theorem dX10_restore_35 : decode cX10_restore 35 = .ok (.aload_n 0, 1) := by decide +kernel
theorem dX10_restore_36 : decode cX10_restore 36 = .ok (.getfield 95, 3) := by decide +kernel
theorem dX10_restore_39 : decode cX10_restore 39 = .ok (.ireturn, 1) := by decide +kernel
abbrev mX10_restore : MD := (cX10_restore, "BlottedDeed", 1, 2, 81, (some .int), "restore", [])
def bX10_restore_0 (g : GE) (J : Nat → KT) : KT := i_aload 0 (i_getf 9 10 (i_ifgt (i_aload 0 (i_dup (i_getf 9 10 (i_push (.int 1) (i_isub (i_putf 9 10 .int (i_aload 0 (i_getf 9 8 (i_aload 0 (i_getf 9 9 (i_aload 0 (i_getf 9 10 (i_aaload 7 (i_cv fX8_takeFrom g 1 8 (i_aload 0 (i_getf 9 10 (i_ireturn))))))))))))))))) (i_push (.int (-1)) (i_ireturn))))
theorem sbX10_restore_0 (g : GE) (J : Nat → KT)  : Snd mX10_restore g 0 (bX10_restore_0 g J) := by
  unfold bX10_restore_0
  refine s_aload_n (pc := 0) (i := 0) ?_ dX10_restore_0 rfl
  refine s_getf (pc := 1) (ci := 9) (f := 10) (T := TX10) ?_ ginX10 rfl (by decide) wt_464 dX10_restore_1
  refine s_ifgt (pc := 4) (tgt := 9) ?_ ?_ dX10_restore_4 (by decide)
  · skip
    refine s_aload_n (pc := 9) (i := 0) ?_ dX10_restore_9 rfl
    refine s_dup (pc := 10) ?_ dX10_restore_10
    refine s_getf (pc := 11) (ci := 9) (f := 10) (T := TX10) ?_ ginX10 rfl (by decide) wt_464 dX10_restore_11
    refine s_iconst (pc := 14) (v := 1) ?_ dX10_restore_14 (by decide)
    refine s_isub (pc := 15) ?_ dX10_restore_15
    refine s_putf (pc := 16) (ci := 9) (f := 10) (T := TX10) (ty0 := tyX10) ?_ ginX10 tyX10_ok nmX10 rfl (by decide) rfl rfl wt_464 dX10_restore_16
    refine s_aload_n (pc := 19) (i := 0) ?_ dX10_restore_19 rfl
    refine s_getf (pc := 20) (ci := 9) (f := 8) (T := TX10) ?_ ginX10 rfl (by decide) wt_462 dX10_restore_20
    refine s_aload_n (pc := 23) (i := 0) ?_ dX10_restore_23 rfl
    refine s_getf (pc := 24) (ci := 9) (f := 9) (T := TX10) ?_ ginX10 rfl (by decide) wt_463 dX10_restore_24
    refine s_aload_n (pc := 27) (i := 0) ?_ dX10_restore_27 rfl
    refine s_getf (pc := 28) (ci := 9) (f := 10) (T := TX10) ?_ ginX10 rfl (by decide) wt_464 dX10_restore_28
    refine s_aaload (pc := 31) (t := 7) ?_ (by decide) rfl dX10_restore_31
    refine s_cv (pc := 32) (n := 1) (ci := 8) ?_ tX8_takeFrom rfl rfl wt_601 wt_602 wt_603 wt_16 wt_604 ⟨crX8_takeFrom, by decide, by decide⟩ dX10_restore_32
    refine s_aload_n (pc := 35) (i := 0) ?_ dX10_restore_35 rfl
    refine s_getf (pc := 36) (ci := 9) (f := 10) (T := TX10) ?_ ginX10 rfl (by decide) wt_464 dX10_restore_36
    exact s_ireturn (pc := 39) rfl dX10_restore_39
  · skip
    refine s_iconst (pc := 7) (v := (-1)) ?_ dX10_restore_7 (by decide)
    exact s_ireturn (pc := 8) rfl dX10_restore_8
def kX10_restore (g : GE) : KT := bX10_restore_0 g (fun _ _ _ _ => none)
theorem sX10_restore (g : GE) : Snd mX10_restore g 0 (kX10_restore g) := sbX10_restore_0 g _
def fX10_restore : FT := fun g av w => if (ent av).length ≤ 1 then kX10_restore g [] (entp 1 av) w else none
theorem tX10_restore : Mt yX10_restore cX10_restore 1 (some .int) 2 81 fX10_restore := Mt.of (K := kX10_restore) (by decide +kernel) (fun _ _ _ => rfl) sX10_restore
theorem crX10_restore : yX10_restore.cls ≠ "java/lang/invoke/MethodHandle" ∧ yX10_restore.cls ≠ "java/lang/invoke/VarHandle" ∧ (parseMethodDescriptor yX10_restore.desc).map (fun d => d.parameters.length) = some 0 := by decide +kernel
theorem dX10_rows_0 : decode cX10_rows 0 = .ok (.aload_n 0, 1) := by decide +kernel
theorem dX10_rows_1 : decode cX10_rows 1 = .ok (.iload_n 1, 1) := by decide +kernel
theorem dX10_rows_2 : decode cX10_rows 2 = .ok (.ifCond .lt 14, 3) := by decide +kernel
theorem dX10_rows_5 : decode cX10_rows 5 = .ok (.iload_n 1, 1) := by decide +kernel
theorem dX10_rows_6 : decode cX10_rows 6 = .ok (.sipush 1000, 3) := by decide +kernel
theorem dX10_rows_9 : decode cX10_rows 9 = .ok (.if_icmp .ge 7, 3) := by decide +kernel
theorem dX10_rows_12 : decode cX10_rows 12 = .ok (.iconst 1, 1) := by decide +kernel
theorem dX10_rows_13 : decode cX10_rows 13 = .ok (.goto 4, 3) := by decide +kernel
theorem dX10_rows_16 : decode cX10_rows 16 = .ok (.iconst 0, 1) := by decide +kernel
theorem dX10_rows_17 : decode cX10_rows 17 = .ok (.invokevirtual 80, 3) := by decide +kernel
theorem dX10_rows_20 : decode cX10_rows 20 = .ok (.aload_n 0, 1) := by decide +kernel
theorem dX10_rows_21 : decode cX10_rows 21 = .ok (.getfield 37, 3) := by decide +kernel
theorem dX10_rows_24 : decode cX10_rows 24 = .ok (.getfield 309, 3) := by decide +kernel
theorem dX10_rows_27 : decode cX10_rows 27 = .ok (.iload_n 1, 1) := by decide +kernel
theorem dX10_rows_28 : decode cX10_rows 28 = .ok (.iaload, 1) := by decide +kernel
theorem dX10_rows_29 : decode cX10_rows 29 = .ok (.ireturn, 1) := by decide +kernel
abbrev mX10_rows : MD := (cX10_rows, "BlottedDeed", 2, 7, 121, (some .int), "rows", [])
def bX10_rows_0 (g : GE) (J : Nat → KT) : KT := i_aload 0 (i_iload 1 (i_iflt (i_jmp [true, true] (J 1)) (i_iload 1 (i_push (.int 1000) (i_icge (i_jmp [true, true] (J 1)) (i_push (.int 1) (i_jmp [true, true] (J 2))))))))
def bX10_rows_1 (g : GE) (J : Nat → KT) : KT := i_push (.int 0) (i_jmp [true, true] (J 2))
def bX10_rows_2 (g : GE) (J : Nat → KT) : KT := i_cvX fX10_needArgument g 1 9 (i_aload 0 (i_getf 9 5 (i_getf 7 3 (i_iload 1 (i_iaload (i_ireturn))))))
theorem sbX10_rows_0 (g : GE) (J : Nat → KT) (h1 : Snd mX10_rows g 16 (J 1)) (h2 : Snd mX10_rows g 17 (J 2)) : Snd mX10_rows g 0 (bX10_rows_0 g J) := by
  unfold bX10_rows_0
  refine s_aload_n (pc := 0) (i := 0) ?_ dX10_rows_0 rfl
  refine s_iload_n (pc := 1) (i := 1) ?_ dX10_rows_1 rfl
  refine s_iflt (pc := 2) (tgt := 16) ?_ ?_ dX10_rows_2 (by decide)
  · skip
    exact s_fall (pc := 16) h1
  · skip
    refine s_iload_n (pc := 5) (i := 1) ?_ dX10_rows_5 rfl
    refine s_sipush (pc := 6) (v := 1000) ?_ dX10_rows_6 (by decide)
    refine s_icge (pc := 9) (tgt := 16) ?_ ?_ dX10_rows_9 (by decide)
    · skip
      exact s_fall (pc := 16) h1
    · skip
      refine s_iconst (pc := 12) (v := 1) ?_ dX10_rows_12 (by decide)
      exact s_goto (pc := 13) (tgt := 17) h2 dX10_rows_13 (by decide)
theorem sbX10_rows_1 (g : GE) (J : Nat → KT) (h1 : Snd mX10_rows g 16 (J 1)) (h2 : Snd mX10_rows g 17 (J 2)) : Snd mX10_rows g 16 (bX10_rows_1 g J) := by
  unfold bX10_rows_1
  refine s_iconst (pc := 16) (v := 0) ?_ dX10_rows_16 (by decide)
  exact s_fall (pc := 17) h2
theorem sbX10_rows_2 (g : GE) (J : Nat → KT) (h1 : Snd mX10_rows g 16 (J 1)) (h2 : Snd mX10_rows g 17 (J 2)) : Snd mX10_rows g 17 (bX10_rows_2 g J) := by
  unfold bX10_rows_2
  refine s_cvX (pc := 17) (n := 1) (ci := 9) ?_ tX10_needArgument rfl rfl wt_626 wt_628 wp_8 wt_1 wt_629 ⟨crX10_needArgument, by decide, by decide⟩ rfl dX10_rows_17
  refine s_aload_n (pc := 20) (i := 0) ?_ dX10_rows_20 rfl
  refine s_getf (pc := 21) (ci := 9) (f := 5) (T := TX10) ?_ ginX10 rfl (by decide) wt_459 dX10_rows_21
  refine s_getf (pc := 24) (ci := 7) (f := 3) (T := TX7) ?_ ginX7 rfl (by decide) wt_342 dX10_rows_24
  refine s_iload_n (pc := 27) (i := 1) ?_ dX10_rows_27 rfl
  refine s_iaload (pc := 28) ?_ dX10_rows_28
  exact s_ireturn (pc := 29) rfl dX10_rows_29
def jX10_rows (g : GE) : Nat → Nat → KT
  | 0, _ => fun _ _ _ => none
  | n + 1, 0 => bX10_rows_0 g (jX10_rows g n)
  | n + 1, 1 => bX10_rows_1 g (jX10_rows g n)
  | n + 1, 2 => bX10_rows_2 g (jX10_rows g n)
  | _ + 1, _ + 3 => fun _ _ _ => none
theorem sjX10_rows (g : GE) : ∀ n, Snd mX10_rows g 0 (jX10_rows g n 0) ∧ Snd mX10_rows g 16 (jX10_rows g n 1) ∧ Snd mX10_rows g 17 (jX10_rows g n 2)
  | 0 => ⟨s_none, s_none, s_none⟩
  | n + 1 => by
    obtain ⟨-, h1, h2⟩ := sjX10_rows g n
    exact ⟨sbX10_rows_0 g _ h1 h2, sbX10_rows_1 g _ h1 h2, sbX10_rows_2 g _ h1 h2⟩
def kX10_rows (g : GE) : KT := jX10_rows g g.1 0
theorem sX10_rows (g : GE) : Snd mX10_rows g 0 (kX10_rows g) := (sjX10_rows g g.1).1
def fX10_rows : FT := fun g av w => if (ent av).length ≤ 2 then kX10_rows g [] (entp 2 av) w else none
theorem tX10_rows : Mt yX10_rows cX10_rows 2 (some .int) 7 121 fX10_rows := Mt.of (K := kX10_rows) (by decide +kernel) (fun _ _ _ => rfl) sX10_rows
theorem crX10_rows : yX10_rows.cls ≠ "java/lang/invoke/MethodHandle" ∧ yX10_rows.cls ≠ "java/lang/invoke/VarHandle" ∧ (parseMethodDescriptor yX10_rows.desc).map (fun d => d.parameters.length) = some 1 := by decide +kernel
theorem dX7_allThereIs_0 : decode cX7_allThereIs 0 = .ok (.aload_n 0, 1) := by decide +kernel
theorem dX7_allThereIs_1 : decode cX7_allThereIs 1 = .ok (.getfield 45, 3) := by decide +kernel
theorem dX7_allThereIs_4 : decode cX7_allThereIs 4 = .ok (.getfield 145, 3) := by decide +kernel
theorem dX7_allThereIs_7 : decode cX7_allThereIs 7 = .ok (.istore_n 1, 1) := by decide +kernel
theorem dX7_allThereIs_8 : decode cX7_allThereIs 8 = .ok (.iconst 0, 1) := by decide +kernel
theorem dX7_allThereIs_9 : decode cX7_allThereIs 9 = .ok (.istore_n 2, 1) := by decide +kernel
theorem dX7_allThereIs_10 : decode cX7_allThereIs 10 = .ok (.iload_n 2, 1) := by decide +kernel
theorem dX7_allThereIs_11 : decode cX7_allThereIs 11 = .ok (.aload_n 0, 1) := by decide +kernel
theorem dX7_allThereIs_12 : decode cX7_allThereIs 12 = .ok (.getfield 45, 3) := by decide +kernel
theorem dX7_allThereIs_15 : decode cX7_allThereIs 15 = .ok (.getfield 127, 3) := by decide +kernel
theorem dX7_allThereIs_18 : decode cX7_allThereIs 18 = .ok (.if_icmp .ge 31, 3) := by decide +kernel
theorem dX7_allThereIs_21 : decode cX7_allThereIs 21 = .ok (.aload_n 0, 1) := by decide +kernel
theorem dX7_allThereIs_22 : decode cX7_allThereIs 22 = .ok (.iconst 0, 1) := by decide +kernel
theorem dX7_allThereIs_23 : decode cX7_allThereIs 23 = .ok (.iload_n 2, 1) := by decide +kernel
theorem dX7_allThereIs_24 : decode cX7_allThereIs 24 = .ok (.invokevirtual 130, 3) := by decide +kernel
theorem dX7_allThereIs_27 : decode cX7_allThereIs 27 = .ok (.iconst (-1), 1) := by decide +kernel
theorem dX7_allThereIs_28 : decode cX7_allThereIs 28 = .ok (.if_icmp .eq 15, 3) := by decide +kernel
theorem dX7_allThereIs_31 : decode cX7_allThereIs 31 = .ok (.iload_n 1, 1) := by decide +kernel
theorem dX7_allThereIs_32 : decode cX7_allThereIs 32 = .ok (.aload_n 0, 1) := by decide +kernel
theorem dX7_allThereIs_33 : decode cX7_allThereIs 33 = .ok (.getfield 45, 3) := by decide +kernel
theorem dX7_allThereIs_36 : decode cX7_allThereIs 36 = .ok (.getfield 133, 3) := by decide +kernel
theorem dX7_allThereIs_39 : decode cX7_allThereIs 39 = .ok (.iload_n 2, 1) := by decide +kernel
theorem dX7_allThereIs_40 : decode cX7_allThereIs 40 = .ok (.iaload, 1) := by decide +kernel
theorem dX7_allThereIs_41 : decode cX7_allThereIs 41 = .ok (.iadd, 1) := by decide +kernel
theorem dX7_allThereIs_42 : decode cX7_allThereIs 42 = .ok (.istore_n 1, 1) := by decide +kernel
theorem dX7_allThereIs_43 : decode cX7_allThereIs 43 = .ok (.iinc 2 1, 3) := by decide +kernel
theorem dX7_allThereIs_46 : decode cX7_allThereIs 46 = .ok (.goto (-36), 3) := by decide +kernel
theorem dX7_allThereIs_49 : decode cX7_allThereIs 49 = .ok (.iload_n 1, 1) := by decide +kernel
theorem dX7_allThereIs_50 : decode cX7_allThereIs 50 = .ok (.ireturn, 1) := by decide +kernel
abbrev mX7_allThereIs : MD := (cX7_allThereIs, "BlottedDeed$Table", 3, 2, 52, (some .int), "allThereIs", [])
def bX7_allThereIs_0 (g : GE) (J : Nat → KT) : KT := i_aload 0 (i_getf 7 5 (i_getf 2 14 (i_istore 1 (i_push (.int 0) (i_istore 2 (i_jmp [true, true, true] (J 1)))))))
def bX7_allThereIs_1 (g : GE) (J : Nat → KT) : KT := i_iload 2 (i_aload 0 (i_getf 7 5 (i_getf 2 10 (i_icge (i_iload 1 (i_ireturn)) (i_aload 0 (i_push (.int 0) (i_iload 2 (i_cv fX7_ownerOf g 2 7 (i_push (.int (-1)) (i_iceq (i_jmp [true, true, true] (J 2)) (i_iload 1 (i_aload 0 (i_getf 7 5 (i_getf 2 4 (i_iload 2 (i_iaload (i_iadd (i_istore 1 (i_jmp [true, true, true] (J 2))))))))))))))))))))
def bX7_allThereIs_2 (g : GE) (J : Nat → KT) : KT := i_iinc 2 1 (i_jmp [true, true, true] (J 1))
theorem sbX7_allThereIs_0 (g : GE) (J : Nat → KT) (h1 : Snd mX7_allThereIs g 10 (J 1)) (h2 : Snd mX7_allThereIs g 43 (J 2)) : Snd mX7_allThereIs g 0 (bX7_allThereIs_0 g J) := by
  unfold bX7_allThereIs_0
  refine s_aload_n (pc := 0) (i := 0) ?_ dX7_allThereIs_0 rfl
  refine s_getf (pc := 1) (ci := 7) (f := 5) (T := TX7) ?_ ginX7 rfl (by decide) wt_345 dX7_allThereIs_1
  refine s_getf (pc := 4) (ci := 2) (f := 14) (T := TX2) ?_ ginX2 rfl (by decide) wt_152 dX7_allThereIs_4
  refine s_istore_n (pc := 7) (i := 1) ?_ dX7_allThereIs_7 rfl (by decide)
  refine s_iconst (pc := 8) (v := 0) ?_ dX7_allThereIs_8 (by decide)
  refine s_istore_n (pc := 9) (i := 2) ?_ dX7_allThereIs_9 rfl (by decide)
  exact s_fall (pc := 10) h1
theorem sbX7_allThereIs_1 (g : GE) (J : Nat → KT) (h1 : Snd mX7_allThereIs g 10 (J 1)) (h2 : Snd mX7_allThereIs g 43 (J 2)) : Snd mX7_allThereIs g 10 (bX7_allThereIs_1 g J) := by
  unfold bX7_allThereIs_1
  refine s_iload_n (pc := 10) (i := 2) ?_ dX7_allThereIs_10 rfl
  refine s_aload_n (pc := 11) (i := 0) ?_ dX7_allThereIs_11 rfl
  refine s_getf (pc := 12) (ci := 7) (f := 5) (T := TX7) ?_ ginX7 rfl (by decide) wt_345 dX7_allThereIs_12
  refine s_getf (pc := 15) (ci := 2) (f := 10) (T := TX2) ?_ ginX2 rfl (by decide) wt_135 dX7_allThereIs_15
  refine s_icge (pc := 18) (tgt := 49) ?_ ?_ dX7_allThereIs_18 (by decide)
  · skip
    refine s_iload_n (pc := 49) (i := 1) ?_ dX7_allThereIs_49 rfl
    exact s_ireturn (pc := 50) rfl dX7_allThereIs_50
  · skip
    refine s_aload_n (pc := 21) (i := 0) ?_ dX7_allThereIs_21 rfl
    refine s_iconst (pc := 22) (v := 0) ?_ dX7_allThereIs_22 (by decide)
    refine s_iload_n (pc := 23) (i := 2) ?_ dX7_allThereIs_23 rfl
    refine s_cv (pc := 24) (n := 2) (ci := 7) ?_ tX7_ownerOf rfl rfl wt_593 wt_594 wt_595 wt_8 wt_596 ⟨crX7_ownerOf, by decide, by decide⟩ dX7_allThereIs_24
    refine s_iconst (pc := 27) (v := (-1)) ?_ dX7_allThereIs_27 (by decide)
    refine s_iceq (pc := 28) (tgt := 43) ?_ ?_ dX7_allThereIs_28 (by decide)
    · skip
      exact s_fall (pc := 43) h2
    · skip
      refine s_iload_n (pc := 31) (i := 1) ?_ dX7_allThereIs_31 rfl
      refine s_aload_n (pc := 32) (i := 0) ?_ dX7_allThereIs_32 rfl
      refine s_getf (pc := 33) (ci := 7) (f := 5) (T := TX7) ?_ ginX7 rfl (by decide) wt_345 dX7_allThereIs_33
      refine s_getf (pc := 36) (ci := 2) (f := 4) (T := TX2) ?_ ginX2 rfl (by decide) wt_117 dX7_allThereIs_36
      refine s_iload_n (pc := 39) (i := 2) ?_ dX7_allThereIs_39 rfl
      refine s_iaload (pc := 40) ?_ dX7_allThereIs_40
      refine s_iadd (pc := 41) ?_ dX7_allThereIs_41
      refine s_istore_n (pc := 42) (i := 1) ?_ dX7_allThereIs_42 rfl (by decide)
      exact s_fall (pc := 43) h2
theorem sbX7_allThereIs_2 (g : GE) (J : Nat → KT) (h1 : Snd mX7_allThereIs g 10 (J 1)) (h2 : Snd mX7_allThereIs g 43 (J 2)) : Snd mX7_allThereIs g 43 (bX7_allThereIs_2 g J) := by
  unfold bX7_allThereIs_2
  refine s_iinc (pc := 43) (i := 2) (v := 1) ?_ dX7_allThereIs_43 (by decide) (by decide)
  exact s_goto (pc := 46) (tgt := 10) h1 dX7_allThereIs_46 (by decide)
def jX7_allThereIs (g : GE) : Nat → Nat → KT
  | 0, _ => fun _ _ _ => none
  | n + 1, 0 => bX7_allThereIs_0 g (jX7_allThereIs g n)
  | n + 1, 1 => bX7_allThereIs_1 g (jX7_allThereIs g n)
  | n + 1, 2 => bX7_allThereIs_2 g (jX7_allThereIs g n)
  | _ + 1, _ + 3 => fun _ _ _ => none
theorem sjX7_allThereIs (g : GE) : ∀ n, Snd mX7_allThereIs g 0 (jX7_allThereIs g n 0) ∧ Snd mX7_allThereIs g 10 (jX7_allThereIs g n 1) ∧ Snd mX7_allThereIs g 43 (jX7_allThereIs g n 2)
  | 0 => ⟨s_none, s_none, s_none⟩
  | n + 1 => by
    obtain ⟨-, h1, h2⟩ := sjX7_allThereIs g n
    exact ⟨sbX7_allThereIs_0 g _ h1 h2, sbX7_allThereIs_1 g _ h1 h2, sbX7_allThereIs_2 g _ h1 h2⟩
def kX7_allThereIs (g : GE) : KT := jX7_allThereIs g g.1 0
theorem sX7_allThereIs (g : GE) : Snd mX7_allThereIs g 0 (kX7_allThereIs g) := (sjX7_allThereIs g g.1).1
def fX7_allThereIs : FT := fun g av w => if (ent av).length ≤ 3 then kX7_allThereIs g [] (entp 3 av) w else none
theorem tX7_allThereIs : Mt yX7_allThereIs cX7_allThereIs 3 (some .int) 2 52 fX7_allThereIs := Mt.of (K := kX7_allThereIs) (by decide +kernel) (fun _ _ _ => rfl) sX7_allThereIs
theorem crX7_allThereIs : yX7_allThereIs.cls ≠ "java/lang/invoke/MethodHandle" ∧ yX7_allThereIs.cls ≠ "java/lang/invoke/VarHandle" ∧ (parseMethodDescriptor yX7_allThereIs.desc).map (fun d => d.parameters.length) = some 0 := by decide +kernel
theorem dX7_worstFor_0 : decode cX7_worstFor 0 = .ok (.iconst (-1), 1) := by decide +kernel
theorem dX7_worstFor_1 : decode cX7_worstFor 1 = .ok (.istore_n 2, 1) := by decide +kernel
theorem dX7_worstFor_2 : decode cX7_worstFor 2 = .ok (.iconst 0, 1) := by decide +kernel
theorem dX7_worstFor_3 : decode cX7_worstFor 3 = .ok (.istore_n 3, 1) := by decide +kernel
theorem dX7_worstFor_4 : decode cX7_worstFor 4 = .ok (.iconst 0, 1) := by decide +kernel
theorem dX7_worstFor_5 : decode cX7_worstFor 5 = .ok (.istore 4, 2) := by decide +kernel
theorem dX7_worstFor_7 : decode cX7_worstFor 7 = .ok (.iload 4, 2) := by decide +kernel
theorem dX7_worstFor_9 : decode cX7_worstFor 9 = .ok (.aload_n 0, 1) := by decide +kernel
theorem dX7_worstFor_10 : decode cX7_worstFor 10 = .ok (.getfield 53, 3) := by decide +kernel
theorem dX7_worstFor_13 : decode cX7_worstFor 13 = .ok (.if_icmp .ge 35, 3) := by decide +kernel
theorem dX7_worstFor_16 : decode cX7_worstFor 16 = .ok (.aload_n 0, 1) := by decide +kernel
theorem dX7_worstFor_17 : decode cX7_worstFor 17 = .ok (.iload 4, 2) := by decide +kernel
theorem dX7_worstFor_19 : decode cX7_worstFor 19 = .ok (.iload_n 1, 1) := by decide +kernel
theorem dX7_worstFor_20 : decode cX7_worstFor 20 = .ok (.invokevirtual 142, 3) := by decide +kernel
theorem dX7_worstFor_23 : decode cX7_worstFor 23 = .ok (.istore 5, 2) := by decide +kernel
theorem dX7_worstFor_25 : decode cX7_worstFor 25 = .ok (.iload_n 2, 1) := by decide +kernel
theorem dX7_worstFor_26 : decode cX7_worstFor 26 = .ok (.iconst (-1), 1) := by decide +kernel
theorem dX7_worstFor_27 : decode cX7_worstFor 27 = .ok (.if_icmp .eq 9, 3) := by decide +kernel
theorem dX7_worstFor_30 : decode cX7_worstFor 30 = .ok (.iload 5, 2) := by decide +kernel
theorem dX7_worstFor_32 : decode cX7_worstFor 32 = .ok (.iload_n 3, 1) := by decide +kernel
theorem dX7_worstFor_33 : decode cX7_worstFor 33 = .ok (.if_icmp .ge 9, 3) := by decide +kernel
theorem dX7_worstFor_36 : decode cX7_worstFor 36 = .ok (.iload 5, 2) := by decide +kernel
theorem dX7_worstFor_38 : decode cX7_worstFor 38 = .ok (.istore_n 3, 1) := by decide +kernel
theorem dX7_worstFor_39 : decode cX7_worstFor 39 = .ok (.iload 4, 2) := by decide +kernel
theorem dX7_worstFor_41 : decode cX7_worstFor 41 = .ok (.istore_n 2, 1) := by decide +kernel
theorem dX7_worstFor_42 : decode cX7_worstFor 42 = .ok (.iinc 4 1, 3) := by decide +kernel
theorem dX7_worstFor_45 : decode cX7_worstFor 45 = .ok (.goto (-38), 3) := by decide +kernel
theorem dX7_worstFor_48 : decode cX7_worstFor 48 = .ok (.iload_n 2, 1) := by decide +kernel
theorem dX7_worstFor_49 : decode cX7_worstFor 49 = .ok (.ireturn, 1) := by decide +kernel
abbrev mX7_worstFor : MD := (cX7_worstFor, "BlottedDeed$Table", 6, 3, 76, (some .int), "worstFor", [])
def bX7_worstFor_0 (g : GE) (J : Nat → KT) : KT := i_push (.int (-1)) (i_istore 2 (i_push (.int 0) (i_istore 3 (i_push (.int 0) (i_istore 4 (i_jmp [true, true, true, true, true, false] (J 1)))))))
def bX7_worstFor_1 (g : GE) (J : Nat → KT) : KT := i_iload 4 (i_aload 0 (i_getf 7 2 (i_icge (i_iload 2 (i_ireturn)) (i_aload 0 (i_iload 4 (i_iload 1 (i_cv fX7_worthOf g 2 7 (i_istore 5 (i_iload 2 (i_push (.int (-1)) (i_iceq (i_jmp [true, true, false, false, true, true] (J 2)) (i_iload 5 (i_iload 3 (i_icge (i_jmp [true, true, true, true, true, false] (J 3)) (i_jmp [true, true, false, false, true, true] (J 2))))))))))))))))
def bX7_worstFor_2 (g : GE) (J : Nat → KT) : KT := i_iload 5 (i_istore 3 (i_iload 4 (i_istore 2 (i_jmp [true, true, true, true, true, false] (J 3)))))
def bX7_worstFor_3 (g : GE) (J : Nat → KT) : KT := i_iinc 4 1 (i_jmp [true, true, true, true, true, false] (J 1))
theorem sbX7_worstFor_0 (g : GE) (J : Nat → KT) (h1 : Snd mX7_worstFor g 7 (J 1)) (h2 : Snd mX7_worstFor g 36 (J 2)) (h3 : Snd mX7_worstFor g 42 (J 3)) : Snd mX7_worstFor g 0 (bX7_worstFor_0 g J) := by
  unfold bX7_worstFor_0
  refine s_iconst (pc := 0) (v := (-1)) ?_ dX7_worstFor_0 (by decide)
  refine s_istore_n (pc := 1) (i := 2) ?_ dX7_worstFor_1 rfl (by decide)
  refine s_iconst (pc := 2) (v := 0) ?_ dX7_worstFor_2 (by decide)
  refine s_istore_n (pc := 3) (i := 3) ?_ dX7_worstFor_3 rfl (by decide)
  refine s_iconst (pc := 4) (v := 0) ?_ dX7_worstFor_4 (by decide)
  refine s_istore (pc := 5) (i := 4) ?_ dX7_worstFor_5 (by decide)
  exact s_fall (pc := 7) h1
theorem sbX7_worstFor_1 (g : GE) (J : Nat → KT) (h1 : Snd mX7_worstFor g 7 (J 1)) (h2 : Snd mX7_worstFor g 36 (J 2)) (h3 : Snd mX7_worstFor g 42 (J 3)) : Snd mX7_worstFor g 7 (bX7_worstFor_1 g J) := by
  unfold bX7_worstFor_1
  refine s_iload (pc := 7) (i := 4) ?_ dX7_worstFor_7
  refine s_aload_n (pc := 9) (i := 0) ?_ dX7_worstFor_9 rfl
  refine s_getf (pc := 10) (ci := 7) (f := 2) (T := TX7) ?_ ginX7 rfl (by decide) wt_339 dX7_worstFor_10
  refine s_icge (pc := 13) (tgt := 48) ?_ ?_ dX7_worstFor_13 (by decide)
  · skip
    refine s_iload_n (pc := 48) (i := 2) ?_ dX7_worstFor_48 rfl
    exact s_ireturn (pc := 49) rfl dX7_worstFor_49
  · skip
    refine s_aload_n (pc := 16) (i := 0) ?_ dX7_worstFor_16 rfl
    refine s_iload (pc := 17) (i := 4) ?_ dX7_worstFor_17
    refine s_iload_n (pc := 19) (i := 1) ?_ dX7_worstFor_19 rfl
    refine s_cv (pc := 20) (n := 2) (ci := 7) ?_ tX7_worthOf rfl rfl wt_1076 wt_1019 wt_1020 wt_8 wt_1021 ⟨crX7_worthOf, by decide, by decide⟩ dX7_worstFor_20
    refine s_istore (pc := 23) (i := 5) ?_ dX7_worstFor_23 (by decide)
    refine s_iload_n (pc := 25) (i := 2) ?_ dX7_worstFor_25 rfl
    refine s_iconst (pc := 26) (v := (-1)) ?_ dX7_worstFor_26 (by decide)
    refine s_iceq (pc := 27) (tgt := 36) ?_ ?_ dX7_worstFor_27 (by decide)
    · skip
      exact s_fall (pc := 36) h2
    · skip
      refine s_iload (pc := 30) (i := 5) ?_ dX7_worstFor_30
      refine s_iload_n (pc := 32) (i := 3) ?_ dX7_worstFor_32 rfl
      refine s_icge (pc := 33) (tgt := 42) ?_ ?_ dX7_worstFor_33 (by decide)
      · skip
        exact s_fall (pc := 42) h3
      · skip
        exact s_fall (pc := 36) h2
theorem sbX7_worstFor_2 (g : GE) (J : Nat → KT) (h1 : Snd mX7_worstFor g 7 (J 1)) (h2 : Snd mX7_worstFor g 36 (J 2)) (h3 : Snd mX7_worstFor g 42 (J 3)) : Snd mX7_worstFor g 36 (bX7_worstFor_2 g J) := by
  unfold bX7_worstFor_2
  refine s_iload (pc := 36) (i := 5) ?_ dX7_worstFor_36
  refine s_istore_n (pc := 38) (i := 3) ?_ dX7_worstFor_38 rfl (by decide)
  refine s_iload (pc := 39) (i := 4) ?_ dX7_worstFor_39
  refine s_istore_n (pc := 41) (i := 2) ?_ dX7_worstFor_41 rfl (by decide)
  exact s_fall (pc := 42) h3
theorem sbX7_worstFor_3 (g : GE) (J : Nat → KT) (h1 : Snd mX7_worstFor g 7 (J 1)) (h2 : Snd mX7_worstFor g 36 (J 2)) (h3 : Snd mX7_worstFor g 42 (J 3)) : Snd mX7_worstFor g 42 (bX7_worstFor_3 g J) := by
  unfold bX7_worstFor_3
  refine s_iinc (pc := 42) (i := 4) (v := 1) ?_ dX7_worstFor_42 (by decide) (by decide)
  exact s_goto (pc := 45) (tgt := 7) h1 dX7_worstFor_45 (by decide)
def jX7_worstFor (g : GE) : Nat → Nat → KT
  | 0, _ => fun _ _ _ => none
  | n + 1, 0 => bX7_worstFor_0 g (jX7_worstFor g n)
  | n + 1, 1 => bX7_worstFor_1 g (jX7_worstFor g n)
  | n + 1, 2 => bX7_worstFor_2 g (jX7_worstFor g n)
  | n + 1, 3 => bX7_worstFor_3 g (jX7_worstFor g n)
  | _ + 1, _ + 4 => fun _ _ _ => none
theorem sjX7_worstFor (g : GE) : ∀ n, Snd mX7_worstFor g 0 (jX7_worstFor g n 0) ∧ Snd mX7_worstFor g 7 (jX7_worstFor g n 1) ∧ Snd mX7_worstFor g 36 (jX7_worstFor g n 2) ∧ Snd mX7_worstFor g 42 (jX7_worstFor g n 3)
  | 0 => ⟨s_none, s_none, s_none, s_none⟩
  | n + 1 => by
    obtain ⟨-, h1, h2, h3⟩ := sjX7_worstFor g n
    exact ⟨sbX7_worstFor_0 g _ h1 h2 h3, sbX7_worstFor_1 g _ h1 h2 h3, sbX7_worstFor_2 g _ h1 h2 h3, sbX7_worstFor_3 g _ h1 h2 h3⟩
def kX7_worstFor (g : GE) : KT := jX7_worstFor g g.1 0
theorem sX7_worstFor (g : GE) : Snd mX7_worstFor g 0 (kX7_worstFor g) := (sjX7_worstFor g g.1).1
def fX7_worstFor : FT := fun g av w => if (ent av).length ≤ 6 then kX7_worstFor g [] (entp 6 av) w else none
theorem tX7_worstFor : Mt yX7_worstFor cX7_worstFor 6 (some .int) 3 76 fX7_worstFor := Mt.of (K := kX7_worstFor) (by decide +kernel) (fun _ _ _ => rfl) sX7_worstFor
theorem crX7_worstFor : yX7_worstFor.cls ≠ "java/lang/invoke/MethodHandle" ∧ yX7_worstFor.cls ≠ "java/lang/invoke/VarHandle" ∧ (parseMethodDescriptor yX7_worstFor.desc).map (fun d => d.parameters.length) = some 1 := by decide +kernel
theorem dX10_settlement_0 : decode cX10_settlement 0 = .ok (.aload_n 0, 1) := by decide +kernel
theorem dX10_settlement_1 : decode cX10_settlement 1 = .ok (.iload_n 1, 1) := by decide +kernel
theorem dX10_settlement_2 : decode cX10_settlement 2 = .ok (.invokevirtual 166, 3) := by decide +kernel
theorem dX10_settlement_5 : decode cX10_settlement 5 = .ok (.aload_n 0, 1) := by decide +kernel
theorem dX10_settlement_6 : decode cX10_settlement 6 = .ok (.getfield 37, 3) := by decide +kernel
theorem dX10_settlement_9 : decode cX10_settlement 9 = .ok (.getfield 150, 3) := by decide +kernel
theorem dX10_settlement_12 : decode cX10_settlement 12 = .ok (.ifCond .eq 13, 3) := by decide +kernel
theorem dX10_settlement_15 : decode cX10_settlement 15 = .ok (.aload_n 0, 1) := by decide +kernel
theorem dX10_settlement_16 : decode cX10_settlement 16 = .ok (.getfield 16, 3) := by decide +kernel
theorem dX10_settlement_19 : decode cX10_settlement 19 = .ok (.getfield 108, 3) := by decide +kernel
theorem dX10_settlement_22 : decode cX10_settlement 22 = .ok (.ifCond .ne 5, 3) := by decide +kernel
theorem dX10_settlement_25 : decode cX10_settlement 25 = .ok (.iconst (-1), 1) := by decide +kernel
theorem dX10_settlement_26 : decode cX10_settlement 26 = .ok (.ireturn, 1) := by decide +kernel
theorem dX10_settlement_27 : decode cX10_settlement 27 = .ok (.aload_n 0, 1) := by decide +kernel
theorem dX10_settlement_28 : decode cX10_settlement 28 = .ok (.getfield 37, 3) := by decide +kernel
theorem dX10_settlement_31 : decode cX10_settlement 31 = .ok (.invokevirtual 219, 3) := by decide +kernel
theorem dX10_settlement_34 : decode cX10_settlement 34 = .ok (.istore_n 2, 1) := by decide +kernel
theorem dX10_settlement_35 : decode cX10_settlement 35 = .ok (.iconst 0, 1) := by decide +kernel
theorem dX10_settlement_36 : decode cX10_settlement 36 = .ok (.istore_n 3, 1) := by decide +kernel
theorem dX10_settlement_37 : decode cX10_settlement 37 = .ok (.iload_n 3, 1) := by decide +kernel
theorem dX10_settlement_38 : decode cX10_settlement 38 = .ok (.aload_n 0, 1) := by decide +kernel
theorem dX10_settlement_39 : decode cX10_settlement 39 = .ok (.getfield 16, 3) := by decide +kernel
theorem dX10_settlement_42 : decode cX10_settlement 42 = .ok (.getfield 108, 3) := by decide +kernel
theorem dX10_settlement_45 : decode cX10_settlement 45 = .ok (.if_icmp .ge 28, 3) := by decide +kernel
theorem dX10_settlement_48 : decode cX10_settlement 48 = .ok (.iload_n 2, 1) := by decide +kernel
theorem dX10_settlement_49 : decode cX10_settlement 49 = .ok (.aload_n 0, 1) := by decide +kernel
theorem dX10_settlement_50 : decode cX10_settlement 50 = .ok (.getfield 37, 3) := by decide +kernel
theorem dX10_settlement_53 : decode cX10_settlement 53 = .ok (.aload_n 0, 1) := by decide +kernel
theorem dX10_settlement_54 : decode cX10_settlement 54 = .ok (.getfield 37, 3) := by decide +kernel
theorem dX10_settlement_57 : decode cX10_settlement 57 = .ok (.iload_n 3, 1) := by decide +kernel
theorem dX10_settlement_58 : decode cX10_settlement 58 = .ok (.invokevirtual 193, 3) := by decide +kernel
theorem dX10_settlement_61 : decode cX10_settlement 61 = .ok (.iload_n 3, 1) := by decide +kernel
theorem dX10_settlement_62 : decode cX10_settlement 62 = .ok (.invokevirtual 172, 3) := by decide +kernel
theorem dX10_settlement_65 : decode cX10_settlement 65 = .ok (.isub, 1) := by decide +kernel
theorem dX10_settlement_66 : decode cX10_settlement 66 = .ok (.istore_n 2, 1) := by decide +kernel
theorem dX10_settlement_67 : decode cX10_settlement 67 = .ok (.iinc 3 1, 3) := by decide +kernel
theorem dX10_settlement_70 : decode cX10_settlement 70 = .ok (.goto (-33), 3) := by decide +kernel
theorem dX10_settlement_73 : decode cX10_settlement 73 = .ok (.iload_n 2, 1) := by decide +kernel
theorem dX10_settlement_74 : decode cX10_settlement 74 = .ok (.ifCond .ge 5, 3) := by decide +kernel
theorem dX10_settlement_77 : decode cX10_settlement 77 = .ok (.iconst (-1), 1) := by decide +kernel
theorem dX10_settlement_78 : decode cX10_settlement 78 = .ok (.ireturn, 1) := by decide +kernel
theorem dX10_settlement_79 : decode cX10_settlement 79 = .ok (.iload_n 2, 1) := by decide +kernel
theorem dX10_settlement_80 : decode cX10_settlement 80 = .ok (.aload_n 0, 1) := by decide +kernel
theorem dX10_settlement_81 : decode cX10_settlement 81 = .ok (.getfield 16, 3) := by decide +kernel
theorem dX10_settlement_84 : decode cX10_settlement 84 = .ok (.getfield 108, 3) := by decide +kernel
theorem dX10_settlement_87 : decode cX10_settlement 87 = .ok (.idiv, 1) := by decide +kernel
theorem dX10_settlement_88 : decode cX10_settlement 88 = .ok (.iload_n 1, 1) := by decide +kernel
theorem dX10_settlement_89 : decode cX10_settlement 89 = .ok (.iload_n 2, 1) := by decide +kernel
theorem dX10_settlement_90 : decode cX10_settlement 90 = .ok (.aload_n 0, 1) := by decide +kernel
theorem dX10_settlement_91 : decode cX10_settlement 91 = .ok (.getfield 16, 3) := by decide +kernel
theorem dX10_settlement_94 : decode cX10_settlement 94 = .ok (.getfield 108, 3) := by decide +kernel
theorem dX10_settlement_97 : decode cX10_settlement 97 = .ok (.irem, 1) := by decide +kernel
theorem dX10_settlement_98 : decode cX10_settlement 98 = .ok (.if_icmp .ge 7, 3) := by decide +kernel
theorem dX10_settlement_101 : decode cX10_settlement 101 = .ok (.iconst 1, 1) := by decide +kernel
theorem dX10_settlement_102 : decode cX10_settlement 102 = .ok (.goto 4, 3) := by decide +kernel
theorem dX10_settlement_105 : decode cX10_settlement 105 = .ok (.iconst 0, 1) := by decide +kernel
theorem dX10_settlement_106 : decode cX10_settlement 106 = .ok (.iadd, 1) := by decide +kernel
theorem dX10_settlement_107 : decode cX10_settlement 107 = .ok (.istore_n 3, 1) := by decide +kernel
theorem dX10_settlement_108 : decode cX10_settlement 108 = .ok (.aload_n 0, 1) := by decide +kernel
theorem dX10_settlement_109 : decode cX10_settlement 109 = .ok (.getfield 37, 3) := by decide +kernel
theorem dX10_settlement_112 : decode cX10_settlement 112 = .ok (.aload_n 0, 1) := by decide +kernel
theorem dX10_settlement_113 : decode cX10_settlement 113 = .ok (.getfield 37, 3) := by decide +kernel
theorem dX10_settlement_116 : decode cX10_settlement 116 = .ok (.iload_n 1, 1) := by decide +kernel
theorem dX10_settlement_117 : decode cX10_settlement 117 = .ok (.invokevirtual 193, 3) := by decide +kernel
theorem dX10_settlement_120 : decode cX10_settlement 120 = .ok (.iload_n 1, 1) := by decide +kernel
theorem dX10_settlement_121 : decode cX10_settlement 121 = .ok (.invokevirtual 172, 3) := by decide +kernel
theorem dX10_settlement_124 : decode cX10_settlement 124 = .ok (.iload_n 3, 1) := by decide +kernel
theorem dX10_settlement_125 : decode cX10_settlement 125 = .ok (.iadd, 1) := by decide +kernel
theorem dX10_settlement_126 : decode cX10_settlement 126 = .ok (.ireturn, 1) := by decide +kernel
abbrev mX10_settlement : MD := (cX10_settlement, "BlottedDeed", 4, 8, 143, (some .int), "settlement", [])
def bX10_settlement_0 (g : GE) (J : Nat → KT) : KT := i_aload 0 (i_iload 1 (i_cvX fX10_needHeir g 1 9 (i_aload 0 (i_getf 9 5 (i_getf 7 2 (i_ifeq (i_jmp [false, false, false, false] (J 1)) (i_aload 0 (i_getf 9 3 (i_getf 2 9 (i_ifne (i_aload 0 (i_getf 9 5 (i_cv fX7_allThereIs g 0 7 (i_istore 2 (i_push (.int 0) (i_istore 3 (i_jmp [true, true, true, true] (J 2)))))))) (i_jmp [false, false, false, false] (J 1))))))))))))
def bX10_settlement_1 (g : GE) (J : Nat → KT) : KT := i_push (.int (-1)) (i_ireturn)
def bX10_settlement_2 (g : GE) (J : Nat → KT) : KT := i_iload 3 (i_aload 0 (i_getf 9 3 (i_getf 2 9 (i_icge (i_iload 2 (i_ifge (i_iload 2 (i_aload 0 (i_getf 9 3 (i_getf 2 9 (i_idiv (i_iload 1 (i_iload 2 (i_aload 0 (i_getf 9 3 (i_getf 2 9 (i_irem (i_icge (i_push (.int 0) (i_jmp [true, true, false, false] (J 3))) (i_push (.int 1) (i_jmp [true, true, false, false] (J 3))))))))))))))) (i_push (.int (-1)) (i_ireturn)))) (i_iload 2 (i_aload 0 (i_getf 9 5 (i_aload 0 (i_getf 9 5 (i_iload 3 (i_cv fX7_worstFor g 1 7 (i_iload 3 (i_cv fX7_worthOf g 2 7 (i_isub (i_istore 2 (i_iinc 3 1 (i_jmp [true, true, true, true] (J 2))))))))))))))))))
def bX10_settlement_3 (g : GE) (J : Nat → KT) : KT := i_iadd (i_istore 3 (i_aload 0 (i_getf 9 5 (i_aload 0 (i_getf 9 5 (i_iload 1 (i_cv fX7_worstFor g 1 7 (i_iload 1 (i_cv fX7_worthOf g 2 7 (i_iload 3 (i_iadd (i_ireturn))))))))))))
theorem sbX10_settlement_0 (g : GE) (J : Nat → KT) (h1 : Snd mX10_settlement g 25 (J 1)) (h2 : Snd mX10_settlement g 37 (J 2)) (h3 : Snd mX10_settlement g 106 (J 3)) : Snd mX10_settlement g 0 (bX10_settlement_0 g J) := by
  unfold bX10_settlement_0
  refine s_aload_n (pc := 0) (i := 0) ?_ dX10_settlement_0 rfl
  refine s_iload_n (pc := 1) (i := 1) ?_ dX10_settlement_1 rfl
  refine s_cvX (pc := 2) (n := 1) (ci := 9) ?_ tX10_needHeir rfl rfl wt_1010 wt_1012 wp_35 wt_1 wt_1013 ⟨crX10_needHeir, by decide, by decide⟩ rfl dX10_settlement_2
  refine s_aload_n (pc := 5) (i := 0) ?_ dX10_settlement_5 rfl
  refine s_getf (pc := 6) (ci := 9) (f := 5) (T := TX10) ?_ ginX10 rfl (by decide) wt_459 dX10_settlement_6
  refine s_getf (pc := 9) (ci := 7) (f := 2) (T := TX7) ?_ ginX7 rfl (by decide) wt_340 dX10_settlement_9
  refine s_ifeq (pc := 12) (tgt := 25) ?_ ?_ dX10_settlement_12 (by decide)
  · skip
    exact s_fall (pc := 25) h1
  · skip
    refine s_aload_n (pc := 15) (i := 0) ?_ dX10_settlement_15 rfl
    refine s_getf (pc := 16) (ci := 9) (f := 3) (T := TX10) ?_ ginX10 rfl (by decide) wt_457 dX10_settlement_16
    refine s_getf (pc := 19) (ci := 2) (f := 9) (T := TX2) ?_ ginX2 rfl (by decide) wt_131 dX10_settlement_19
    refine s_ifne (pc := 22) (tgt := 27) ?_ ?_ dX10_settlement_22 (by decide)
    · skip
      refine s_aload_n (pc := 27) (i := 0) ?_ dX10_settlement_27 rfl
      refine s_getf (pc := 28) (ci := 9) (f := 5) (T := TX10) ?_ ginX10 rfl (by decide) wt_459 dX10_settlement_28
      refine s_cv (pc := 31) (n := 0) (ci := 7) ?_ tX7_allThereIs rfl rfl wt_1147 wt_1148 wt_1149 wt_8 wt_1150 ⟨crX7_allThereIs, by decide, by decide⟩ dX10_settlement_31
      refine s_istore_n (pc := 34) (i := 2) ?_ dX10_settlement_34 rfl (by decide)
      refine s_iconst (pc := 35) (v := 0) ?_ dX10_settlement_35 (by decide)
      refine s_istore_n (pc := 36) (i := 3) ?_ dX10_settlement_36 rfl (by decide)
      exact s_fall (pc := 37) h2
    · skip
      exact s_fall (pc := 25) h1
theorem sbX10_settlement_1 (g : GE) (J : Nat → KT) (h1 : Snd mX10_settlement g 25 (J 1)) (h2 : Snd mX10_settlement g 37 (J 2)) (h3 : Snd mX10_settlement g 106 (J 3)) : Snd mX10_settlement g 25 (bX10_settlement_1 g J) := by
  unfold bX10_settlement_1
  refine s_iconst (pc := 25) (v := (-1)) ?_ dX10_settlement_25 (by decide)
  exact s_ireturn (pc := 26) rfl dX10_settlement_26
theorem sbX10_settlement_2 (g : GE) (J : Nat → KT) (h1 : Snd mX10_settlement g 25 (J 1)) (h2 : Snd mX10_settlement g 37 (J 2)) (h3 : Snd mX10_settlement g 106 (J 3)) : Snd mX10_settlement g 37 (bX10_settlement_2 g J) := by
  unfold bX10_settlement_2
  refine s_iload_n (pc := 37) (i := 3) ?_ dX10_settlement_37 rfl
  refine s_aload_n (pc := 38) (i := 0) ?_ dX10_settlement_38 rfl
  refine s_getf (pc := 39) (ci := 9) (f := 3) (T := TX10) ?_ ginX10 rfl (by decide) wt_457 dX10_settlement_39
  refine s_getf (pc := 42) (ci := 2) (f := 9) (T := TX2) ?_ ginX2 rfl (by decide) wt_131 dX10_settlement_42
  refine s_icge (pc := 45) (tgt := 73) ?_ ?_ dX10_settlement_45 (by decide)
  · skip
    refine s_iload_n (pc := 73) (i := 2) ?_ dX10_settlement_73 rfl
    refine s_ifge (pc := 74) (tgt := 79) ?_ ?_ dX10_settlement_74 (by decide)
    · skip
      refine s_iload_n (pc := 79) (i := 2) ?_ dX10_settlement_79 rfl
      refine s_aload_n (pc := 80) (i := 0) ?_ dX10_settlement_80 rfl
      refine s_getf (pc := 81) (ci := 9) (f := 3) (T := TX10) ?_ ginX10 rfl (by decide) wt_457 dX10_settlement_81
      refine s_getf (pc := 84) (ci := 2) (f := 9) (T := TX2) ?_ ginX2 rfl (by decide) wt_131 dX10_settlement_84
      refine s_idiv (pc := 87) ?_ dX10_settlement_87
      refine s_iload_n (pc := 88) (i := 1) ?_ dX10_settlement_88 rfl
      refine s_iload_n (pc := 89) (i := 2) ?_ dX10_settlement_89 rfl
      refine s_aload_n (pc := 90) (i := 0) ?_ dX10_settlement_90 rfl
      refine s_getf (pc := 91) (ci := 9) (f := 3) (T := TX10) ?_ ginX10 rfl (by decide) wt_457 dX10_settlement_91
      refine s_getf (pc := 94) (ci := 2) (f := 9) (T := TX2) ?_ ginX2 rfl (by decide) wt_131 dX10_settlement_94
      refine s_irem (pc := 97) ?_ dX10_settlement_97
      refine s_icge (pc := 98) (tgt := 105) ?_ ?_ dX10_settlement_98 (by decide)
      · skip
        refine s_iconst (pc := 105) (v := 0) ?_ dX10_settlement_105 (by decide)
        exact s_fall (pc := 106) h3
      · skip
        refine s_iconst (pc := 101) (v := 1) ?_ dX10_settlement_101 (by decide)
        exact s_goto (pc := 102) (tgt := 106) h3 dX10_settlement_102 (by decide)
    · skip
      refine s_iconst (pc := 77) (v := (-1)) ?_ dX10_settlement_77 (by decide)
      exact s_ireturn (pc := 78) rfl dX10_settlement_78
  · skip
    refine s_iload_n (pc := 48) (i := 2) ?_ dX10_settlement_48 rfl
    refine s_aload_n (pc := 49) (i := 0) ?_ dX10_settlement_49 rfl
    refine s_getf (pc := 50) (ci := 9) (f := 5) (T := TX10) ?_ ginX10 rfl (by decide) wt_459 dX10_settlement_50
    refine s_aload_n (pc := 53) (i := 0) ?_ dX10_settlement_53 rfl
    refine s_getf (pc := 54) (ci := 9) (f := 5) (T := TX10) ?_ ginX10 rfl (by decide) wt_459 dX10_settlement_54
    refine s_iload_n (pc := 57) (i := 3) ?_ dX10_settlement_57 rfl
    refine s_cv (pc := 58) (n := 1) (ci := 7) ?_ tX7_worstFor rfl rfl wt_1077 wt_1078 wt_1079 wt_8 wt_1080 ⟨crX7_worstFor, by decide, by decide⟩ dX10_settlement_58
    refine s_iload_n (pc := 61) (i := 3) ?_ dX10_settlement_61 rfl
    refine s_cv (pc := 62) (n := 2) (ci := 7) ?_ tX7_worthOf rfl rfl wt_1018 wt_1019 wt_1020 wt_8 wt_1021 ⟨crX7_worthOf, by decide, by decide⟩ dX10_settlement_62
    refine s_isub (pc := 65) ?_ dX10_settlement_65
    refine s_istore_n (pc := 66) (i := 2) ?_ dX10_settlement_66 rfl (by decide)
    refine s_iinc (pc := 67) (i := 3) (v := 1) ?_ dX10_settlement_67 (by decide) (by decide)
    exact s_goto (pc := 70) (tgt := 37) h2 dX10_settlement_70 (by decide)
theorem sbX10_settlement_3 (g : GE) (J : Nat → KT) (h1 : Snd mX10_settlement g 25 (J 1)) (h2 : Snd mX10_settlement g 37 (J 2)) (h3 : Snd mX10_settlement g 106 (J 3)) : Snd mX10_settlement g 106 (bX10_settlement_3 g J) := by
  unfold bX10_settlement_3
  refine s_iadd (pc := 106) ?_ dX10_settlement_106
  refine s_istore_n (pc := 107) (i := 3) ?_ dX10_settlement_107 rfl (by decide)
  refine s_aload_n (pc := 108) (i := 0) ?_ dX10_settlement_108 rfl
  refine s_getf (pc := 109) (ci := 9) (f := 5) (T := TX10) ?_ ginX10 rfl (by decide) wt_459 dX10_settlement_109
  refine s_aload_n (pc := 112) (i := 0) ?_ dX10_settlement_112 rfl
  refine s_getf (pc := 113) (ci := 9) (f := 5) (T := TX10) ?_ ginX10 rfl (by decide) wt_459 dX10_settlement_113
  refine s_iload_n (pc := 116) (i := 1) ?_ dX10_settlement_116 rfl
  refine s_cv (pc := 117) (n := 1) (ci := 7) ?_ tX7_worstFor rfl rfl wt_1077 wt_1078 wt_1079 wt_8 wt_1080 ⟨crX7_worstFor, by decide, by decide⟩ dX10_settlement_117
  refine s_iload_n (pc := 120) (i := 1) ?_ dX10_settlement_120 rfl
  refine s_cv (pc := 121) (n := 2) (ci := 7) ?_ tX7_worthOf rfl rfl wt_1018 wt_1019 wt_1020 wt_8 wt_1021 ⟨crX7_worthOf, by decide, by decide⟩ dX10_settlement_121
  refine s_iload_n (pc := 124) (i := 3) ?_ dX10_settlement_124 rfl
  refine s_iadd (pc := 125) ?_ dX10_settlement_125
  exact s_ireturn (pc := 126) rfl dX10_settlement_126
def jX10_settlement (g : GE) : Nat → Nat → KT
  | 0, _ => fun _ _ _ => none
  | n + 1, 0 => bX10_settlement_0 g (jX10_settlement g n)
  | n + 1, 1 => bX10_settlement_1 g (jX10_settlement g n)
  | n + 1, 2 => bX10_settlement_2 g (jX10_settlement g n)
  | n + 1, 3 => bX10_settlement_3 g (jX10_settlement g n)
  | _ + 1, _ + 4 => fun _ _ _ => none
theorem sjX10_settlement (g : GE) : ∀ n, Snd mX10_settlement g 0 (jX10_settlement g n 0) ∧ Snd mX10_settlement g 25 (jX10_settlement g n 1) ∧ Snd mX10_settlement g 37 (jX10_settlement g n 2) ∧ Snd mX10_settlement g 106 (jX10_settlement g n 3)
  | 0 => ⟨s_none, s_none, s_none, s_none⟩
  | n + 1 => by
    obtain ⟨-, h1, h2, h3⟩ := sjX10_settlement g n
    exact ⟨sbX10_settlement_0 g _ h1 h2 h3, sbX10_settlement_1 g _ h1 h2 h3, sbX10_settlement_2 g _ h1 h2 h3, sbX10_settlement_3 g _ h1 h2 h3⟩
def kX10_settlement (g : GE) : KT := jX10_settlement g g.1 0
theorem sX10_settlement (g : GE) : Snd mX10_settlement g 0 (kX10_settlement g) := (sjX10_settlement g g.1).1
def fX10_settlement : FT := fun g av w => if (ent av).length ≤ 4 then kX10_settlement g [] (entp 4 av) w else none
theorem tX10_settlement : Mt yX10_settlement cX10_settlement 4 (some .int) 8 143 fX10_settlement := Mt.of (K := kX10_settlement) (by decide +kernel) (fun _ _ _ => rfl) sX10_settlement
theorem crX10_settlement : yX10_settlement.cls ≠ "java/lang/invoke/MethodHandle" ∧ yX10_settlement.cls ≠ "java/lang/invoke/VarHandle" ∧ (parseMethodDescriptor yX10_settlement.desc).map (fun d => d.parameters.length) = some 1 := by decide +kernel
theorem dX7_maskOf_0 : decode cX7_maskOf 0 = .ok (.ldc2_w 162, 3) := by decide +kernel
theorem dX7_maskOf_3 : decode cX7_maskOf 3 = .ok (.bipush 8, 2) := by decide +kernel
theorem dX7_maskOf_5 : decode cX7_maskOf 5 = .ok (.iload_n 0, 1) := by decide +kernel
theorem dX7_maskOf_6 : decode cX7_maskOf 6 = .ok (.imul, 1) := by decide +kernel
theorem dX7_maskOf_7 : decode cX7_maskOf 7 = .ok (.lshl, 1) := by decide +kernel
theorem dX7_maskOf_8 : decode cX7_maskOf 8 = .ok (.lreturn, 1) := by decide +kernel
abbrev mX7_maskOf : MD := (cX7_maskOf, "BlottedDeed$Table", 1, 1, 30, (some .long), "maskOf", [])
def bX7_maskOf_0 (g : GE) (J : Nat → KT) : KT := i_push (.long 255) (i_push (.int 8) (i_iload 0 (i_imul (i_lshl (i_lreturn)))))
theorem sbX7_maskOf_0 (g : GE) (J : Nat → KT)  : Snd mX7_maskOf g 0 (bX7_maskOf_0 g J) := by
  unfold bX7_maskOf_0
  refine s_ldc2 (pc := 0) (v := 255) ?_ wt_529 dX7_maskOf_0
  refine s_bipush (pc := 3) (v := 8) ?_ dX7_maskOf_3 (by decide)
  refine s_iload_n (pc := 5) (i := 0) ?_ dX7_maskOf_5 rfl
  refine s_imul (pc := 6) ?_ dX7_maskOf_6
  refine s_lshl (pc := 7) ?_ dX7_maskOf_7
  exact s_lreturn (pc := 8) rfl dX7_maskOf_8
def kX7_maskOf (g : GE) : KT := bX7_maskOf_0 g (fun _ _ _ _ => none)
theorem sX7_maskOf (g : GE) : Snd mX7_maskOf g 0 (kX7_maskOf g) := sbX7_maskOf_0 g _
def fX7_maskOf : FT := fun g av w => if (ent av).length ≤ 1 then kX7_maskOf g [] (entp 1 av) w else none
theorem tX7_maskOf : Mt yX7_maskOf cX7_maskOf 1 (some .long) 1 30 fX7_maskOf := Mt.of (K := kX7_maskOf) (by decide +kernel) (fun _ _ _ => rfl) sX7_maskOf
theorem crX7_maskOf : yX7_maskOf.cls ≠ "java/lang/invoke/MethodHandle" ∧ yX7_maskOf.cls ≠ "java/lang/invoke/VarHandle" ∧ (parseMethodDescriptor yX7_maskOf.desc).map (fun d => d.parameters.length) = some 1 := by decide +kernel
theorem dX7_cleanNext_0 : decode cX7_cleanNext 0 = .ok (.iconst (-1), 1) := by decide +kernel
theorem dX7_cleanNext_1 : decode cX7_cleanNext 1 = .ok (.istore 5, 2) := by decide +kernel
theorem dX7_cleanNext_3 : decode cX7_cleanNext 3 = .ok (.iconst 0, 1) := by decide +kernel
theorem dX7_cleanNext_4 : decode cX7_cleanNext 4 = .ok (.istore 6, 2) := by decide +kernel
theorem dX7_cleanNext_6 : decode cX7_cleanNext 6 = .ok (.iconst 0, 1) := by decide +kernel
theorem dX7_cleanNext_7 : decode cX7_cleanNext 7 = .ok (.istore 7, 2) := by decide +kernel
theorem dX7_cleanNext_9 : decode cX7_cleanNext 9 = .ok (.iload 7, 2) := by decide +kernel
theorem dX7_cleanNext_11 : decode cX7_cleanNext 11 = .ok (.aload_n 0, 1) := by decide +kernel
theorem dX7_cleanNext_12 : decode cX7_cleanNext 12 = .ok (.getfield 45, 3) := by decide +kernel
theorem dX7_cleanNext_15 : decode cX7_cleanNext 15 = .ok (.getfield 111, 3) := by decide +kernel
theorem dX7_cleanNext_18 : decode cX7_cleanNext 18 = .ok (.if_icmp .ge 52, 3) := by decide +kernel
theorem dX7_cleanNext_21 : decode cX7_cleanNext 21 = .ok (.lload_n 1, 1) := by decide +kernel
theorem dX7_cleanNext_22 : decode cX7_cleanNext 22 = .ok (.iload 7, 2) := by decide +kernel
theorem dX7_cleanNext_24 : decode cX7_cleanNext 24 = .ok (.invokestatic 155, 3) := by decide +kernel
theorem dX7_cleanNext_27 : decode cX7_cleanNext 27 = .ok (.land, 1) := by decide +kernel
theorem dX7_cleanNext_28 : decode cX7_cleanNext 28 = .ok (.lconst 0, 1) := by decide +kernel
theorem dX7_cleanNext_29 : decode cX7_cleanNext 29 = .ok (.lcmp, 1) := by decide +kernel
theorem dX7_cleanNext_30 : decode cX7_cleanNext 30 = .ok (.ifCond .ne 34, 3) := by decide +kernel
theorem dX7_cleanNext_33 : decode cX7_cleanNext 33 = .ok (.aload_n 0, 1) := by decide +kernel
theorem dX7_cleanNext_34 : decode cX7_cleanNext 34 = .ok (.iload 7, 2) := by decide +kernel
theorem dX7_cleanNext_36 : decode cX7_cleanNext 36 = .ok (.lload_n 1, 1) := by decide +kernel
theorem dX7_cleanNext_37 : decode cX7_cleanNext 37 = .ok (.lload_n 3, 1) := by decide +kernel
theorem dX7_cleanNext_38 : decode cX7_cleanNext 38 = .ok (.invokevirtual 158, 3) := by decide +kernel
theorem dX7_cleanNext_41 : decode cX7_cleanNext 41 = .ok (.istore 8, 2) := by decide +kernel
theorem dX7_cleanNext_43 : decode cX7_cleanNext 43 = .ok (.iload 5, 2) := by decide +kernel
theorem dX7_cleanNext_45 : decode cX7_cleanNext 45 = .ok (.iconst (-1), 1) := by decide +kernel
theorem dX7_cleanNext_46 : decode cX7_cleanNext 46 = .ok (.if_icmp .eq 10, 3) := by decide +kernel
theorem dX7_cleanNext_49 : decode cX7_cleanNext 49 = .ok (.iload 8, 2) := by decide +kernel
theorem dX7_cleanNext_51 : decode cX7_cleanNext 51 = .ok (.iload 6, 2) := by decide +kernel
theorem dX7_cleanNext_53 : decode cX7_cleanNext 53 = .ok (.if_icmp .ge 11, 3) := by decide +kernel
theorem dX7_cleanNext_56 : decode cX7_cleanNext 56 = .ok (.iload 8, 2) := by decide +kernel
theorem dX7_cleanNext_58 : decode cX7_cleanNext 58 = .ok (.istore 6, 2) := by decide +kernel
theorem dX7_cleanNext_60 : decode cX7_cleanNext 60 = .ok (.iload 7, 2) := by decide +kernel
theorem dX7_cleanNext_62 : decode cX7_cleanNext 62 = .ok (.istore 5, 2) := by decide +kernel
theorem dX7_cleanNext_64 : decode cX7_cleanNext 64 = .ok (.iinc 7 1, 3) := by decide +kernel
theorem dX7_cleanNext_67 : decode cX7_cleanNext 67 = .ok (.goto (-58), 3) := by decide +kernel
theorem dX7_cleanNext_70 : decode cX7_cleanNext 70 = .ok (.iload 5, 2) := by decide +kernel
theorem dX7_cleanNext_72 : decode cX7_cleanNext 72 = .ok (.ireturn, 1) := by decide +kernel
abbrev mX7_cleanNext : MD := (cX7_cleanNext, "BlottedDeed$Table", 9, 5, 127, (some .int), "cleanNext", [])
def bX7_cleanNext_0 (g : GE) (J : Nat → KT) : KT := i_push (.int (-1)) (i_istore 5 (i_push (.int 0) (i_istore 6 (i_push (.int 0) (i_istore 7 (i_jmp [true, true, false, true, false, true, true, true, false] (J 1)))))))
def bX7_cleanNext_1 (g : GE) (J : Nat → KT) : KT := i_iload 7 (i_aload 0 (i_getf 7 5 (i_getf 2 13 (i_icge (i_iload 5 (i_ireturn)) (i_lload 1 (i_iload 7 (i_cs fX7_maskOf g 1 (i_land (i_push (.long 0) (i_lcmp (i_ifne (i_jmp [true, true, false, true, false, true, true, true, false] (J 3)) (i_aload 0 (i_iload 7 (i_lload 1 (i_lload 3 (i_cv fX7_mostLeft g 3 7 (i_istore 8 (i_iload 5 (i_push (.int (-1)) (i_iceq (i_jmp [true, true, false, true, false, false, false, true, true] (J 2)) (i_iload 8 (i_iload 6 (i_icge (i_jmp [true, true, false, true, false, true, true, true, false] (J 3)) (i_jmp [true, true, false, true, false, false, false, true, true] (J 2)))))))))))))))))))))))))
def bX7_cleanNext_2 (g : GE) (J : Nat → KT) : KT := i_iload 8 (i_istore 6 (i_iload 7 (i_istore 5 (i_jmp [true, true, false, true, false, true, true, true, false] (J 3)))))
def bX7_cleanNext_3 (g : GE) (J : Nat → KT) : KT := i_iinc 7 1 (i_jmp [true, true, false, true, false, true, true, true, false] (J 1))
theorem sbX7_cleanNext_0 (g : GE) (J : Nat → KT) (h1 : Snd mX7_cleanNext g 9 (J 1)) (h2 : Snd mX7_cleanNext g 56 (J 2)) (h3 : Snd mX7_cleanNext g 64 (J 3)) : Snd mX7_cleanNext g 0 (bX7_cleanNext_0 g J) := by
  unfold bX7_cleanNext_0
  refine s_iconst (pc := 0) (v := (-1)) ?_ dX7_cleanNext_0 (by decide)
  refine s_istore (pc := 1) (i := 5) ?_ dX7_cleanNext_1 (by decide)
  refine s_iconst (pc := 3) (v := 0) ?_ dX7_cleanNext_3 (by decide)
  refine s_istore (pc := 4) (i := 6) ?_ dX7_cleanNext_4 (by decide)
  refine s_iconst (pc := 6) (v := 0) ?_ dX7_cleanNext_6 (by decide)
  refine s_istore (pc := 7) (i := 7) ?_ dX7_cleanNext_7 (by decide)
  exact s_fall (pc := 9) h1
theorem sbX7_cleanNext_1 (g : GE) (J : Nat → KT) (h1 : Snd mX7_cleanNext g 9 (J 1)) (h2 : Snd mX7_cleanNext g 56 (J 2)) (h3 : Snd mX7_cleanNext g 64 (J 3)) : Snd mX7_cleanNext g 9 (bX7_cleanNext_1 g J) := by
  unfold bX7_cleanNext_1
  refine s_iload (pc := 9) (i := 7) ?_ dX7_cleanNext_9
  refine s_aload_n (pc := 11) (i := 0) ?_ dX7_cleanNext_11 rfl
  refine s_getf (pc := 12) (ci := 7) (f := 5) (T := TX7) ?_ ginX7 rfl (by decide) wt_345 dX7_cleanNext_12
  refine s_getf (pc := 15) (ci := 2) (f := 13) (T := TX2) ?_ ginX2 rfl (by decide) wt_145 dX7_cleanNext_15
  refine s_icge (pc := 18) (tgt := 70) ?_ ?_ dX7_cleanNext_18 (by decide)
  · skip
    refine s_iload (pc := 70) (i := 5) ?_ dX7_cleanNext_70
    exact s_ireturn (pc := 72) rfl dX7_cleanNext_72
  · skip
    refine s_lload_n (pc := 21) (i := 1) ?_ dX7_cleanNext_21 rfl
    refine s_iload (pc := 22) (i := 7) ?_ dX7_cleanNext_22
    refine s_cs (pc := 24) (n := 1) ?_ tX7_maskOf wt_526 wt_527 wt_8 wt_528 ⟨crX7_maskOf, by decide, by decide⟩ dX7_cleanNext_24
    refine s_land (pc := 27) ?_ dX7_cleanNext_27
    refine s_lconst (pc := 28) (v := 0) ?_ dX7_cleanNext_28 (by decide)
    refine s_lcmp (pc := 29) ?_ dX7_cleanNext_29
    refine s_ifne (pc := 30) (tgt := 64) ?_ ?_ dX7_cleanNext_30 (by decide)
    · skip
      exact s_fall (pc := 64) h3
    · skip
      refine s_aload_n (pc := 33) (i := 0) ?_ dX7_cleanNext_33 rfl
      refine s_iload (pc := 34) (i := 7) ?_ dX7_cleanNext_34
      refine s_lload_n (pc := 36) (i := 1) ?_ dX7_cleanNext_36 rfl
      refine s_lload_n (pc := 37) (i := 3) ?_ dX7_cleanNext_37 rfl
      refine s_cv (pc := 38) (n := 3) (ci := 7) ?_ tX7_mostLeft rfl rfl wt_530 wt_531 wt_532 wt_8 wt_533 ⟨crX7_mostLeft, by decide, by decide⟩ dX7_cleanNext_38
      refine s_istore (pc := 41) (i := 8) ?_ dX7_cleanNext_41 (by decide)
      refine s_iload (pc := 43) (i := 5) ?_ dX7_cleanNext_43
      refine s_iconst (pc := 45) (v := (-1)) ?_ dX7_cleanNext_45 (by decide)
      refine s_iceq (pc := 46) (tgt := 56) ?_ ?_ dX7_cleanNext_46 (by decide)
      · skip
        exact s_fall (pc := 56) h2
      · skip
        refine s_iload (pc := 49) (i := 8) ?_ dX7_cleanNext_49
        refine s_iload (pc := 51) (i := 6) ?_ dX7_cleanNext_51
        refine s_icge (pc := 53) (tgt := 64) ?_ ?_ dX7_cleanNext_53 (by decide)
        · skip
          exact s_fall (pc := 64) h3
        · skip
          exact s_fall (pc := 56) h2
theorem sbX7_cleanNext_2 (g : GE) (J : Nat → KT) (h1 : Snd mX7_cleanNext g 9 (J 1)) (h2 : Snd mX7_cleanNext g 56 (J 2)) (h3 : Snd mX7_cleanNext g 64 (J 3)) : Snd mX7_cleanNext g 56 (bX7_cleanNext_2 g J) := by
  unfold bX7_cleanNext_2
  refine s_iload (pc := 56) (i := 8) ?_ dX7_cleanNext_56
  refine s_istore (pc := 58) (i := 6) ?_ dX7_cleanNext_58 (by decide)
  refine s_iload (pc := 60) (i := 7) ?_ dX7_cleanNext_60
  refine s_istore (pc := 62) (i := 5) ?_ dX7_cleanNext_62 (by decide)
  exact s_fall (pc := 64) h3
theorem sbX7_cleanNext_3 (g : GE) (J : Nat → KT) (h1 : Snd mX7_cleanNext g 9 (J 1)) (h2 : Snd mX7_cleanNext g 56 (J 2)) (h3 : Snd mX7_cleanNext g 64 (J 3)) : Snd mX7_cleanNext g 64 (bX7_cleanNext_3 g J) := by
  unfold bX7_cleanNext_3
  refine s_iinc (pc := 64) (i := 7) (v := 1) ?_ dX7_cleanNext_64 (by decide) (by decide)
  exact s_goto (pc := 67) (tgt := 9) h1 dX7_cleanNext_67 (by decide)
def jX7_cleanNext (g : GE) : Nat → Nat → KT
  | 0, _ => fun _ _ _ => none
  | n + 1, 0 => bX7_cleanNext_0 g (jX7_cleanNext g n)
  | n + 1, 1 => bX7_cleanNext_1 g (jX7_cleanNext g n)
  | n + 1, 2 => bX7_cleanNext_2 g (jX7_cleanNext g n)
  | n + 1, 3 => bX7_cleanNext_3 g (jX7_cleanNext g n)
  | _ + 1, _ + 4 => fun _ _ _ => none
theorem sjX7_cleanNext (g : GE) : ∀ n, Snd mX7_cleanNext g 0 (jX7_cleanNext g n 0) ∧ Snd mX7_cleanNext g 9 (jX7_cleanNext g n 1) ∧ Snd mX7_cleanNext g 56 (jX7_cleanNext g n 2) ∧ Snd mX7_cleanNext g 64 (jX7_cleanNext g n 3)
  | 0 => ⟨s_none, s_none, s_none, s_none⟩
  | n + 1 => by
    obtain ⟨-, h1, h2, h3⟩ := sjX7_cleanNext g n
    exact ⟨sbX7_cleanNext_0 g _ h1 h2 h3, sbX7_cleanNext_1 g _ h1 h2 h3, sbX7_cleanNext_2 g _ h1 h2 h3, sbX7_cleanNext_3 g _ h1 h2 h3⟩
def kX7_cleanNext (g : GE) : KT := jX7_cleanNext g g.1 0
theorem sX7_cleanNext (g : GE) : Snd mX7_cleanNext g 0 (kX7_cleanNext g) := (sjX7_cleanNext g g.1).1
def fX7_cleanNext : FT := fun g av w => if (ent av).length ≤ 9 then kX7_cleanNext g [] (entp 9 av) w else none
theorem tX7_cleanNext : Mt yX7_cleanNext cX7_cleanNext 9 (some .int) 5 127 fX7_cleanNext := Mt.of (K := kX7_cleanNext) (by decide +kernel) (fun _ _ _ => rfl) sX7_cleanNext
theorem crX7_cleanNext : yX7_cleanNext.cls ≠ "java/lang/invoke/MethodHandle" ∧ yX7_cleanNext.cls ≠ "java/lang/invoke/VarHandle" ∧ (parseMethodDescriptor yX7_cleanNext.desc).map (fun d => d.parameters.length) = some 2 := by decide +kernel
