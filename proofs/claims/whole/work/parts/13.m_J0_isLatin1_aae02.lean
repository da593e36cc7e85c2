theorem dJ0_isLatin1_aae02_0 : decode cJ0_isLatin1_aae02 0 = .ok (.getstatic 38, 3) := by decide +kernel
theorem dJ0_isLatin1_aae02_3 : decode cJ0_isLatin1_aae02 3 = .ok (.ifCond .eq 14, 3) := by decide +kernel
theorem dJ0_isLatin1_aae02_6 : decode cJ0_isLatin1_aae02 6 = .ok (.aload_n 0, 1) := by decide +kernel
theorem dJ0_isLatin1_aae02_7 : decode cJ0_isLatin1_aae02 7 = .ok (.getfield 15, 3) := by decide +kernel
theorem dJ0_isLatin1_aae02_10 : decode cJ0_isLatin1_aae02 10 = .ok (.ifCond .ne 7, 3) := by decide +kernel
theorem dJ0_isLatin1_aae02_13 : decode cJ0_isLatin1_aae02 13 = .ok (.iconst 1, 1) := by decide +kernel
theorem dJ0_isLatin1_aae02_14 : decode cJ0_isLatin1_aae02 14 = .ok (.goto 4, 3) := by decide +kernel
theorem dJ0_isLatin1_aae02_17 : decode cJ0_isLatin1_aae02 17 = .ok (.iconst 0, 1) := by decide +kernel
theorem dJ0_isLatin1_aae02_18 : decode cJ0_isLatin1_aae02 18 = .ok (.ireturn, 1) := by decide +kernel
abbrev mJ0_isLatin1_aae02 : MD := (cJ0_isLatin1_aae02, "java/lang/String", 1, 1, 30, (some .boolean), "isLatin1", [])
def bJ0_isLatin1_aae02_0 (g : GE) (J : Nat → KT) : KT := i_push (.int 1) (i_ifeq (i_jmp [false] (J 1)) (i_aload 0 (i_scod g (i_ifne (i_jmp [false] (J 1)) (i_push (.int 1) (i_jmp [false] (J 2)))))))
def bJ0_isLatin1_aae02_1 (g : GE) (J : Nat → KT) : KT := i_push (.int 0) (i_jmp [false] (J 2))
def bJ0_isLatin1_aae02_2 (g : GE) (J : Nat → KT) : KT := i_zreturn
theorem sbJ0_isLatin1_aae02_0 (g : GE) (J : Nat → KT) (h1 : Snd mJ0_isLatin1_aae02 g 17 (J 1)) (h2 : Snd mJ0_isLatin1_aae02 g 18 (J 2)) : Snd mJ0_isLatin1_aae02 g 0 (bJ0_isLatin1_aae02_0 g J) := by
  unfold bJ0_isLatin1_aae02_0
  refine s_getsC (pc := 0) ?_ wt_740 dJ0_isLatin1_aae02_0
  refine s_ifeq (pc := 3) (tgt := 17) ?_ ?_ dJ0_isLatin1_aae02_3 (by decide)
  · skip
    exact s_fall (pc := 17) h1
  · skip
    refine s_aload_n (pc := 6) (i := 0) ?_ dJ0_isLatin1_aae02_6 rfl
    refine s_scod (pc := 7) ?_ wt_1935 dJ0_isLatin1_aae02_7
    refine s_ifne (pc := 10) (tgt := 17) ?_ ?_ dJ0_isLatin1_aae02_10 (by decide)
    · skip
      exact s_fall (pc := 17) h1
    · skip
      refine s_iconst (pc := 13) (v := 1) ?_ dJ0_isLatin1_aae02_13 (by decide)
      exact s_goto (pc := 14) (tgt := 18) h2 dJ0_isLatin1_aae02_14 (by decide)
theorem sbJ0_isLatin1_aae02_1 (g : GE) (J : Nat → KT) (h1 : Snd mJ0_isLatin1_aae02 g 17 (J 1)) (h2 : Snd mJ0_isLatin1_aae02 g 18 (J 2)) : Snd mJ0_isLatin1_aae02 g 17 (bJ0_isLatin1_aae02_1 g J) := by
  unfold bJ0_isLatin1_aae02_1
  refine s_iconst (pc := 17) (v := 0) ?_ dJ0_isLatin1_aae02_17 (by decide)
  exact s_fall (pc := 18) h2
theorem sbJ0_isLatin1_aae02_2 (g : GE) (J : Nat → KT) (h1 : Snd mJ0_isLatin1_aae02 g 17 (J 1)) (h2 : Snd mJ0_isLatin1_aae02 g 18 (J 2)) : Snd mJ0_isLatin1_aae02 g 18 (bJ0_isLatin1_aae02_2 g J) := by
  unfold bJ0_isLatin1_aae02_2
  exact s_zreturn (pc := 18) rfl dJ0_isLatin1_aae02_18
def jJ0_isLatin1_aae02 (g : GE) : Nat → Nat → KT
  | 0, _ => fun _ _ _ => none
  | n + 1, 0 => bJ0_isLatin1_aae02_0 g (jJ0_isLatin1_aae02 g n)
  | n + 1, 1 => bJ0_isLatin1_aae02_1 g (jJ0_isLatin1_aae02 g n)
  | n + 1, 2 => bJ0_isLatin1_aae02_2 g (jJ0_isLatin1_aae02 g n)
  | _ + 1, _ + 3 => fun _ _ _ => none
theorem sjJ0_isLatin1_aae02 (g : GE) : ∀ n, Snd mJ0_isLatin1_aae02 g 0 (jJ0_isLatin1_aae02 g n 0) ∧ Snd mJ0_isLatin1_aae02 g 17 (jJ0_isLatin1_aae02 g n 1) ∧ Snd mJ0_isLatin1_aae02 g 18 (jJ0_isLatin1_aae02 g n 2)
  | 0 => ⟨s_none, s_none, s_none⟩
  | n + 1 => by
    obtain ⟨-, h1, h2⟩ := sjJ0_isLatin1_aae02 g n
    exact ⟨sbJ0_isLatin1_aae02_0 g _ h1 h2, sbJ0_isLatin1_aae02_1 g _ h1 h2, sbJ0_isLatin1_aae02_2 g _ h1 h2⟩
def kJ0_isLatin1_aae02 (g : GE) : KT := jJ0_isLatin1_aae02 g g.1 0
theorem sJ0_isLatin1_aae02 (g : GE) : Snd mJ0_isLatin1_aae02 g 0 (kJ0_isLatin1_aae02 g) := (sjJ0_isLatin1_aae02 g g.1).1
def fJ0_isLatin1_aae02 : FT := fun g av w => if (ent av).length ≤ 1 then kJ0_isLatin1_aae02 g [] (entp 1 av) w else none
theorem tJ0_isLatin1_aae02 : Mt yJ0_isLatin1_aae02 cJ0_isLatin1_aae02 1 (some .boolean) 1 30 fJ0_isLatin1_aae02 := Mt.of (K := kJ0_isLatin1_aae02) (by decide +kernel) (fun _ _ _ => rfl) sJ0_isLatin1_aae02
theorem crJ0_isLatin1_aae02 : yJ0_isLatin1_aae02.cls ≠ "java/lang/invoke/MethodHandle" ∧ yJ0_isLatin1_aae02.cls ≠ "java/lang/invoke/VarHandle" ∧ (parseMethodDescriptor yJ0_isLatin1_aae02.desc).map (fun d => d.parameters.length) = some 0 := by decide +kernel
theorem dJ3_checkIndex_8e157_0 : decode cJ3_checkIndex_8e157 0 = .ok (.iload_n 0, 1) := by decide +kernel
theorem dJ3_checkIndex_8e157_1 : decode cJ3_checkIndex_8e157 1 = .ok (.ifCond .lt 8, 3) := by decide +kernel
theorem dJ3_checkIndex_8e157_4 : decode cJ3_checkIndex_8e157 4 = .ok (.iload_n 0, 1) := by decide +kernel
theorem dJ3_checkIndex_8e157_5 : decode cJ3_checkIndex_8e157 5 = .ok (.iload_n 1, 1) := by decide +kernel
theorem dJ3_checkIndex_8e157_6 : decode cJ3_checkIndex_8e157 6 = .ok (.if_icmp .lt 10, 3) := by decide +kernel
theorem dJ3_checkIndex_8e157_9 : decode cJ3_checkIndex_8e157 9 = .ok (.aload_n 2, 1) := by decide +kernel
theorem dJ3_checkIndex_8e157_10 : decode cJ3_checkIndex_8e157 10 = .ok (.iload_n 0, 1) := by decide +kernel
theorem dJ3_checkIndex_8e157_11 : decode cJ3_checkIndex_8e157 11 = .ok (.iload_n 1, 1) := by decide +kernel
theorem dJ3_checkIndex_8e157_12 : decode cJ3_checkIndex_8e157 12 = .ok (.invokestatic 95, 3) := by decide +kernel
theorem dJ3_checkIndex_8e157_15 : decode cJ3_checkIndex_8e157 15 = .ok (.athrow, 1) := by decide +kernel
theorem dJ3_checkIndex_8e157_16 : decode cJ3_checkIndex_8e157 16 = .ok (.iload_n 0, 1) := by decide +kernel
theorem dJ3_checkIndex_8e157_17 : decode cJ3_checkIndex_8e157 17 = .ok (.ireturn, 1) := by decide +kernel
abbrev mJ3_checkIndex_8e157 : MD := (cJ3_checkIndex_8e157, "jdk/internal/util/Preconditions", 3, 1, 30, (some .int), "checkIndex", [])
def bJ3_checkIndex_8e157_0 (g : GE) (J : Nat → KT) : KT := i_iload 0 (i_iflt (i_jmp [true, true, true] (J 1)) (i_iload 0 (i_iload 1 (i_iclt (i_iload 0 (i_ireturn)) (i_jmp [true, true, true] (J 1))))))
def bJ3_checkIndex_8e157_1 (g : GE) (J : Nat → KT) : KT := i_aload 2 (i_iload 0 (i_iload 1 ((fun _ _ _ => none))))
theorem sbJ3_checkIndex_8e157_0 (g : GE) (J : Nat → KT) (h1 : Snd mJ3_checkIndex_8e157 g 9 (J 1)) : Snd mJ3_checkIndex_8e157 g 0 (bJ3_checkIndex_8e157_0 g J) := by
  unfold bJ3_checkIndex_8e157_0
  refine s_iload_n (pc := 0) (i := 0) ?_ dJ3_checkIndex_8e157_0 rfl
  refine s_iflt (pc := 1) (tgt := 9) ?_ ?_ dJ3_checkIndex_8e157_1 (by decide)
  · skip
    exact s_fall (pc := 9) h1
  · skip
    refine s_iload_n (pc := 4) (i := 0) ?_ dJ3_checkIndex_8e157_4 rfl
    refine s_iload_n (pc := 5) (i := 1) ?_ dJ3_checkIndex_8e157_5 rfl
    refine s_iclt (pc := 6) (tgt := 16) ?_ ?_ dJ3_checkIndex_8e157_6 (by decide)
    · skip
      refine s_iload_n (pc := 16) (i := 0) ?_ dJ3_checkIndex_8e157_16 rfl
      exact s_ireturn (pc := 17) rfl dJ3_checkIndex_8e157_17
    · skip
      exact s_fall (pc := 9) h1
theorem sbJ3_checkIndex_8e157_1 (g : GE) (J : Nat → KT) (h1 : Snd mJ3_checkIndex_8e157 g 9 (J 1)) : Snd mJ3_checkIndex_8e157 g 9 (bJ3_checkIndex_8e157_1 g J) := by
  unfold bJ3_checkIndex_8e157_1
  refine s_aload_n (pc := 9) (i := 2) ?_ dJ3_checkIndex_8e157_9 rfl
  refine s_iload_n (pc := 10) (i := 0) ?_ dJ3_checkIndex_8e157_10 rfl
  refine s_iload_n (pc := 11) (i := 1) ?_ dJ3_checkIndex_8e157_11 rfl
  exact s_none
def jJ3_checkIndex_8e157 (g : GE) : Nat → Nat → KT
  | 0, _ => fun _ _ _ => none
  | n + 1, 0 => bJ3_checkIndex_8e157_0 g (jJ3_checkIndex_8e157 g n)
  | n + 1, 1 => bJ3_checkIndex_8e157_1 g (jJ3_checkIndex_8e157 g n)
  | _ + 1, _ + 2 => fun _ _ _ => none
theorem sjJ3_checkIndex_8e157 (g : GE) : ∀ n, Snd mJ3_checkIndex_8e157 g 0 (jJ3_checkIndex_8e157 g n 0) ∧ Snd mJ3_checkIndex_8e157 g 9 (jJ3_checkIndex_8e157 g n 1)
  | 0 => ⟨s_none, s_none⟩
  | n + 1 => by
    obtain ⟨-, h1⟩ := sjJ3_checkIndex_8e157 g n
    exact ⟨sbJ3_checkIndex_8e157_0 g _ h1, sbJ3_checkIndex_8e157_1 g _ h1⟩
def kJ3_checkIndex_8e157 (g : GE) : KT := jJ3_checkIndex_8e157 g g.1 0
theorem sJ3_checkIndex_8e157 (g : GE) : Snd mJ3_checkIndex_8e157 g 0 (kJ3_checkIndex_8e157 g) := (sjJ3_checkIndex_8e157 g g.1).1
def fJ3_checkIndex_8e157 : FT := fun g av w => if (ent av).length ≤ 3 then kJ3_checkIndex_8e157 g [] (entp 3 av) w else none
theorem tJ3_checkIndex_8e157 : Mt yJ3_checkIndex_8e157 cJ3_checkIndex_8e157 3 (some .int) 1 30 fJ3_checkIndex_8e157 := Mt.of (K := kJ3_checkIndex_8e157) (by decide +kernel) (fun _ _ _ => rfl) sJ3_checkIndex_8e157
theorem crJ3_checkIndex_8e157 : yJ3_checkIndex_8e157.cls ≠ "java/lang/invoke/MethodHandle" ∧ yJ3_checkIndex_8e157.cls ≠ "java/lang/invoke/VarHandle" ∧ (parseMethodDescriptor yJ3_checkIndex_8e157.desc).map (fun d => d.parameters.length) = some 3 := by decide +kernel
theorem dJ0_checkIndex_df160_0 : decode cJ0_checkIndex_df160 0 = .ok (.iload_n 0, 1) := by decide +kernel
theorem dJ0_checkIndex_df160_1 : decode cJ0_checkIndex_df160 1 = .ok (.iload_n 1, 1) := by decide +kernel
theorem dJ0_checkIndex_df160_2 : decode cJ0_checkIndex_df160 2 = .ok (.getstatic 1053, 3) := by decide +kernel
theorem dJ0_checkIndex_df160_5 : decode cJ0_checkIndex_df160 5 = .ok (.invokestatic 1059, 3) := by decide +kernel
theorem dJ0_checkIndex_df160_8 : decode cJ0_checkIndex_df160 8 = .ok (.pop, 1) := by decide +kernel
theorem dJ0_checkIndex_df160_9 : decode cJ0_checkIndex_df160 9 = .ok (.return_, 1) := by decide +kernel
abbrev mJ0_checkIndex_df160 : MD := (cJ0_checkIndex_df160, "java/lang/String", 2, 2, 52, none, "checkIndex", [])
def bJ0_checkIndex_df160_0 (g : GE) (J : Nat → KT) : KT := i_iload 0 (i_iload 1 (i_push (va_rf g.2.2.2.2.1) (i_cs fJ3_checkIndex_8e157 g 3 (i_pop (i_return)))))
theorem sbJ0_checkIndex_df160_0 (g : GE) (J : Nat → KT)  : Snd mJ0_checkIndex_df160 g 0 (bJ0_checkIndex_df160_0 g J) := by
  unfold bJ0_checkIndex_df160_0
  refine s_iload_n (pc := 0) (i := 0) ?_ dJ0_checkIndex_df160_0 rfl
  refine s_iload_n (pc := 1) (i := 1) ?_ dJ0_checkIndex_df160_1 rfl
  refine s_getsF (pc := 2) ?_ wt_756 dJ0_checkIndex_df160_2
  refine s_cs (pc := 5) (n := 3) ?_ tJ3_checkIndex_8e157 wt_758 wt_759 wt_24 wt_760 ⟨crJ3_checkIndex_8e157, by decide, by decide⟩ dJ0_checkIndex_df160_5
  refine s_pop (pc := 8) ?_ dJ0_checkIndex_df160_8
  exact s_return (pc := 9) rfl dJ0_checkIndex_df160_9
def kJ0_checkIndex_df160 (g : GE) : KT := bJ0_checkIndex_df160_0 g (fun _ _ _ _ => none)
theorem sJ0_checkIndex_df160 (g : GE) : Snd mJ0_checkIndex_df160 g 0 (kJ0_checkIndex_df160 g) := sbJ0_checkIndex_df160_0 g _
def fJ0_checkIndex_df160 : FT := fun g av w => if (ent av).length ≤ 2 then kJ0_checkIndex_df160 g [] (entp 2 av) w else none
theorem tJ0_checkIndex_df160 : Mt yJ0_checkIndex_df160 cJ0_checkIndex_df160 2 none 2 52 fJ0_checkIndex_df160 := Mt.of (K := kJ0_checkIndex_df160) (by decide +kernel) (fun _ _ _ => rfl) sJ0_checkIndex_df160
theorem crJ0_checkIndex_df160 : yJ0_checkIndex_df160.cls ≠ "java/lang/invoke/MethodHandle" ∧ yJ0_checkIndex_df160.cls ≠ "java/lang/invoke/VarHandle" ∧ (parseMethodDescriptor yJ0_checkIndex_df160.desc).map (fun d => d.parameters.length) = some 2 := by decide +kernel
theorem dJ1_charAt_3b067_0 : decode cJ1_charAt_3b067 0 = .ok (.iload_n 1, 1) := by decide +kernel
theorem dJ1_charAt_3b067_1 : decode cJ1_charAt_3b067 1 = .ok (.aload_n 0, 1) := by decide +kernel
theorem dJ1_charAt_3b067_2 : decode cJ1_charAt_3b067 2 = .ok (.arraylength, 1) := by decide +kernel
theorem dJ1_charAt_3b067_3 : decode cJ1_charAt_3b067 3 = .ok (.invokestatic 9, 3) := by decide +kernel
theorem dJ1_charAt_3b067_6 : decode cJ1_charAt_3b067 6 = .ok (.aload_n 0, 1) := by decide +kernel
theorem dJ1_charAt_3b067_7 : decode cJ1_charAt_3b067 7 = .ok (.iload_n 1, 1) := by decide +kernel
theorem dJ1_charAt_3b067_8 : decode cJ1_charAt_3b067 8 = .ok (.baload, 1) := by decide +kernel
theorem dJ1_charAt_3b067_9 : decode cJ1_charAt_3b067 9 = .ok (.sipush 255, 3) := by decide +kernel
theorem dJ1_charAt_3b067_12 : decode cJ1_charAt_3b067 12 = .ok (.iand, 1) := by decide +kernel
theorem dJ1_charAt_3b067_13 : decode cJ1_charAt_3b067 13 = .ok (.i2c, 1) := by decide +kernel
theorem dJ1_charAt_3b067_14 : decode cJ1_charAt_3b067 14 = .ok (.ireturn, 1) := by decide +kernel
abbrev mJ1_charAt_3b067 : MD := (cJ1_charAt_3b067, "java/lang/StringLatin1", 2, 3, 73, (some .char), "charAt", [])
def bJ1_charAt_3b067_0 (g : GE) (J : Nat → KT) : KT := i_iload 1 (i_aload 0 (i_slen g (i_cs fJ0_checkIndex_df160 g 2 (i_aload 0 (i_iload 1 (i_sald g (i_push (.int 255) (i_iand (i_i2c (i_nret 0))))))))))
theorem sbJ1_charAt_3b067_0 (g : GE) (J : Nat → KT)  : Snd mJ1_charAt_3b067 g 0 (bJ1_charAt_3b067_0 g J) := by
  unfold bJ1_charAt_3b067_0
  refine s_iload_n (pc := 0) (i := 1) ?_ dJ1_charAt_3b067_0 rfl
  refine s_aload_n (pc := 1) (i := 0) ?_ dJ1_charAt_3b067_1 rfl
  refine s_slen (pc := 2) ?_ dJ1_charAt_3b067_2
  refine s_cs (pc := 3) (n := 2) ?_ tJ0_checkIndex_df160 wt_753 wt_754 wt_22 wt_755 ⟨crJ0_checkIndex_df160, by decide, by decide⟩ dJ1_charAt_3b067_3
  refine s_aload_n (pc := 6) (i := 0) ?_ dJ1_charAt_3b067_6 rfl
  refine s_iload_n (pc := 7) (i := 1) ?_ dJ1_charAt_3b067_7 rfl
  refine s_sald (pc := 8) ?_ dJ1_charAt_3b067_8
  refine s_sipush (pc := 9) (v := 255) ?_ dJ1_charAt_3b067_9 (by decide)
  refine s_iand (pc := 12) ?_ dJ1_charAt_3b067_12
  refine s_i2c (pc := 13) ?_ dJ1_charAt_3b067_13
  exact s_nret (t := 0) (pc := 14) rfl dJ1_charAt_3b067_14
def kJ1_charAt_3b067 (g : GE) : KT := bJ1_charAt_3b067_0 g (fun _ _ _ _ => none)
theorem sJ1_charAt_3b067 (g : GE) : Snd mJ1_charAt_3b067 g 0 (kJ1_charAt_3b067 g) := sbJ1_charAt_3b067_0 g _
def fJ1_charAt_3b067 : FT := fun g av w => if (ent av).length ≤ 2 then kJ1_charAt_3b067 g [] (entp 2 av) w else none
theorem tJ1_charAt_3b067 : Mt yJ1_charAt_3b067 cJ1_charAt_3b067 2 (some .char) 3 73 fJ1_charAt_3b067 := Mt.of (K := kJ1_charAt_3b067) (by decide +kernel) (fun _ _ _ => rfl) sJ1_charAt_3b067
theorem crJ1_charAt_3b067 : yJ1_charAt_3b067.cls ≠ "java/lang/invoke/MethodHandle" ∧ yJ1_charAt_3b067.cls ≠ "java/lang/invoke/VarHandle" ∧ (parseMethodDescriptor yJ1_charAt_3b067.desc).map (fun d => d.parameters.length) = some 2 := by decide +kernel
theorem dJ0_charAt_5068e_0 : decode cJ0_charAt_5068e 0 = .ok (.aload_n 0, 1) := by decide +kernel
theorem dJ0_charAt_5068e_1 : decode cJ0_charAt_5068e 1 = .ok (.invokevirtual 492, 3) := by decide +kernel
theorem dJ0_charAt_5068e_4 : decode cJ0_charAt_5068e 4 = .ok (.ifCond .eq 12, 3) := by decide +kernel
theorem dJ0_charAt_5068e_7 : decode cJ0_charAt_5068e 7 = .ok (.aload_n 0, 1) := by decide +kernel
theorem dJ0_charAt_5068e_8 : decode cJ0_charAt_5068e 8 = .ok (.getfield 9, 3) := by decide +kernel
theorem dJ0_charAt_5068e_11 : decode cJ0_charAt_5068e 11 = .ok (.iload_n 1, 1) := by decide +kernel
theorem dJ0_charAt_5068e_12 : decode cJ0_charAt_5068e 12 = .ok (.invokestatic 495, 3) := by decide +kernel
theorem dJ0_charAt_5068e_15 : decode cJ0_charAt_5068e 15 = .ok (.ireturn, 1) := by decide +kernel
theorem dJ0_charAt_5068e_16 : decode cJ0_charAt_5068e 16 = .ok (.aload_n 0, 1) := by decide +kernel
theorem dJ0_charAt_5068e_17 : decode cJ0_charAt_5068e 17 = .ok (.getfield 9, 3) := by decide +kernel
theorem dJ0_charAt_5068e_20 : decode cJ0_charAt_5068e 20 = .ok (.iload_n 1, 1) := by decide +kernel
theorem dJ0_charAt_5068e_21 : decode cJ0_charAt_5068e 21 = .ok (.invokestatic 498, 3) := by decide +kernel
theorem dJ0_charAt_5068e_24 : decode cJ0_charAt_5068e 24 = .ok (.ireturn, 1) := by decide +kernel
abbrev mJ0_charAt_5068e : MD := (cJ0_charAt_5068e, "java/lang/String", 2, 4, 94, (some .char), "charAt", [])
def bJ0_charAt_5068e_0 (g : GE) (J : Nat → KT) : KT := i_aload 0 (i_cvS fJ0_isLatin1_aae02 g 0 (i_ifeq (i_aload 0 (i_sval g (i_iload 1 ((fun _ _ _ => none))))) (i_aload 0 (i_sval g (i_iload 1 (i_cs fJ1_charAt_3b067 g 2 (i_nret 0)))))))
theorem sbJ0_charAt_5068e_0 (g : GE) (J : Nat → KT)  : Snd mJ0_charAt_5068e g 0 (bJ0_charAt_5068e_0 g J) := by
  unfold bJ0_charAt_5068e_0
  refine s_aload_n (pc := 0) (i := 0) ?_ dJ0_charAt_5068e_0 rfl
  refine s_cvS (pc := 1) (n := 0) ?_ tJ0_isLatin1_aae02 rfl wt_746 wt_747 wt_748 wt_22 wt_749 ⟨crJ0_isLatin1_aae02, by decide, by decide⟩ dJ0_charAt_5068e_1
  refine s_ifeq (pc := 4) (tgt := 16) ?_ ?_ dJ0_charAt_5068e_4 (by decide)
  · skip
    refine s_aload_n (pc := 16) (i := 0) ?_ dJ0_charAt_5068e_16 rfl
    refine s_sval (pc := 17) ?_ wt_1934 dJ0_charAt_5068e_17
    refine s_iload_n (pc := 20) (i := 1) ?_ dJ0_charAt_5068e_20 rfl
    exact s_none
  · skip
    refine s_aload_n (pc := 7) (i := 0) ?_ dJ0_charAt_5068e_7 rfl
    refine s_sval (pc := 8) ?_ wt_1934 dJ0_charAt_5068e_8
    refine s_iload_n (pc := 11) (i := 1) ?_ dJ0_charAt_5068e_11 rfl
    refine s_cs (pc := 12) (n := 2) ?_ tJ1_charAt_3b067 wt_750 wt_751 wt_23 wt_752 ⟨crJ1_charAt_3b067, by decide, by decide⟩ dJ0_charAt_5068e_12
    exact s_nret (t := 0) (pc := 15) rfl dJ0_charAt_5068e_15
def kJ0_charAt_5068e (g : GE) : KT := bJ0_charAt_5068e_0 g (fun _ _ _ _ => none)
theorem sJ0_charAt_5068e (g : GE) : Snd mJ0_charAt_5068e g 0 (kJ0_charAt_5068e g) := sbJ0_charAt_5068e_0 g _
def fJ0_charAt_5068e : FT := fun g av w => if (ent av).length ≤ 2 then kJ0_charAt_5068e g [] (entp 2 av) w else none
theorem tJ0_charAt_5068e : Mt yJ0_charAt_5068e cJ0_charAt_5068e 2 (some .char) 4 94 fJ0_charAt_5068e := Mt.of (K := kJ0_charAt_5068e) (by decide +kernel) (fun _ _ _ => rfl) sJ0_charAt_5068e
theorem crJ0_charAt_5068e : yJ0_charAt_5068e.cls ≠ "java/lang/invoke/MethodHandle" ∧ yJ0_charAt_5068e.cls ≠ "java/lang/invoke/VarHandle" ∧ (parseMethodDescriptor yJ0_charAt_5068e.desc).map (fun d => d.parameters.length) = some 1 := by decide +kernel
theorem dJ0_coder_7d493_0 : decode cJ0_coder_7d493 0 = .ok (.getstatic 38, 3) := by decide +kernel
theorem dJ0_coder_7d493_3 : decode cJ0_coder_7d493 3 = .ok (.ifCond .eq 10, 3) := by decide +kernel
theorem dJ0_coder_7d493_6 : decode cJ0_coder_7d493 6 = .ok (.aload_n 0, 1) := by decide +kernel
theorem dJ0_coder_7d493_7 : decode cJ0_coder_7d493 7 = .ok (.getfield 15, 3) := by decide +kernel
theorem dJ0_coder_7d493_10 : decode cJ0_coder_7d493 10 = .ok (.goto 4, 3) := by decide +kernel
theorem dJ0_coder_7d493_13 : decode cJ0_coder_7d493 13 = .ok (.iconst 1, 1) := by decide +kernel
theorem dJ0_coder_7d493_14 : decode cJ0_coder_7d493 14 = .ok (.ireturn, 1) := by decide +kernel
abbrev mJ0_coder_7d493 : MD := (cJ0_coder_7d493, "java/lang/String", 1, 1, 30, (some .byte), "coder", [])
def bJ0_coder_7d493_0 (g : GE) (J : Nat → KT) : KT := i_push (.int 1) (i_ifeq (i_push (.int 1) (i_jmp [false] (J 1))) (i_aload 0 (i_scod g (i_jmp [false] (J 1)))))
def bJ0_coder_7d493_1 (g : GE) (J : Nat → KT) : KT := i_nret 1
theorem sbJ0_coder_7d493_0 (g : GE) (J : Nat → KT) (h1 : Snd mJ0_coder_7d493 g 14 (J 1)) : Snd mJ0_coder_7d493 g 0 (bJ0_coder_7d493_0 g J) := by
  unfold bJ0_coder_7d493_0
  refine s_getsC (pc := 0) ?_ wt_740 dJ0_coder_7d493_0
  refine s_ifeq (pc := 3) (tgt := 13) ?_ ?_ dJ0_coder_7d493_3 (by decide)
  · skip
    refine s_iconst (pc := 13) (v := 1) ?_ dJ0_coder_7d493_13 (by decide)
    exact s_fall (pc := 14) h1
  · skip
    refine s_aload_n (pc := 6) (i := 0) ?_ dJ0_coder_7d493_6 rfl
    refine s_scod (pc := 7) ?_ wt_1935 dJ0_coder_7d493_7
    exact s_goto (pc := 10) (tgt := 14) h1 dJ0_coder_7d493_10 (by decide)
theorem sbJ0_coder_7d493_1 (g : GE) (J : Nat → KT) (h1 : Snd mJ0_coder_7d493 g 14 (J 1)) : Snd mJ0_coder_7d493 g 14 (bJ0_coder_7d493_1 g J) := by
  unfold bJ0_coder_7d493_1
  exact s_nret (t := 1) (pc := 14) rfl dJ0_coder_7d493_14
def jJ0_coder_7d493 (g : GE) : Nat → Nat → KT
  | 0, _ => fun _ _ _ => none
  | n + 1, 0 => bJ0_coder_7d493_0 g (jJ0_coder_7d493 g n)
  | n + 1, 1 => bJ0_coder_7d493_1 g (jJ0_coder_7d493 g n)
  | _ + 1, _ + 2 => fun _ _ _ => none
theorem sjJ0_coder_7d493 (g : GE) : ∀ n, Snd mJ0_coder_7d493 g 0 (jJ0_coder_7d493 g n 0) ∧ Snd mJ0_coder_7d493 g 14 (jJ0_coder_7d493 g n 1)
  | 0 => ⟨s_none, s_none⟩
  | n + 1 => by
    obtain ⟨-, h1⟩ := sjJ0_coder_7d493 g n
    exact ⟨sbJ0_coder_7d493_0 g _ h1, sbJ0_coder_7d493_1 g _ h1⟩
def kJ0_coder_7d493 (g : GE) : KT := jJ0_coder_7d493 g g.1 0
theorem sJ0_coder_7d493 (g : GE) : Snd mJ0_coder_7d493 g 0 (kJ0_coder_7d493 g) := (sjJ0_coder_7d493 g g.1).1
def fJ0_coder_7d493 : FT := fun g av w => if (ent av).length ≤ 1 then kJ0_coder_7d493 g [] (entp 1 av) w else none
theorem tJ0_coder_7d493 : Mt yJ0_coder_7d493 cJ0_coder_7d493 1 (some .byte) 1 30 fJ0_coder_7d493 := Mt.of (K := kJ0_coder_7d493) (by decide +kernel) (fun _ _ _ => rfl) sJ0_coder_7d493
theorem crJ0_coder_7d493 : yJ0_coder_7d493.cls ≠ "java/lang/invoke/MethodHandle" ∧ yJ0_coder_7d493.cls ≠ "java/lang/invoke/VarHandle" ∧ (parseMethodDescriptor yJ0_coder_7d493.desc).map (fun d => d.parameters.length) = some 0 := by decide +kernel
theorem dJ0_length_8abf5_0 : decode cJ0_length_8abf5 0 = .ok (.aload_n 0, 1) := by decide +kernel
theorem dJ0_length_8abf5_1 : decode cJ0_length_8abf5 1 = .ok (.getfield 9, 3) := by decide +kernel
theorem dJ0_length_8abf5_4 : decode cJ0_length_8abf5 4 = .ok (.arraylength, 1) := by decide +kernel
theorem dJ0_length_8abf5_5 : decode cJ0_length_8abf5 5 = .ok (.aload_n 0, 1) := by decide +kernel
theorem dJ0_length_8abf5_6 : decode cJ0_length_8abf5 6 = .ok (.invokevirtual 335, 3) := by decide +kernel
theorem dJ0_length_8abf5_9 : decode cJ0_length_8abf5 9 = .ok (.ishr, 1) := by decide +kernel
theorem dJ0_length_8abf5_10 : decode cJ0_length_8abf5 10 = .ok (.ireturn, 1) := by decide +kernel
abbrev mJ0_length_8abf5 : MD := (cJ0_length_8abf5, "java/lang/String", 1, 2, 50, (some .int), "length", [])
def bJ0_length_8abf5_0 (g : GE) (J : Nat → KT) : KT := i_aload 0 (i_sval g (i_slen g (i_aload 0 (i_cvS fJ0_coder_7d493 g 0 (i_ishr (i_ireturn))))))
theorem sbJ0_length_8abf5_0 (g : GE) (J : Nat → KT)  : Snd mJ0_length_8abf5 g 0 (bJ0_length_8abf5_0 g J) := by
  unfold bJ0_length_8abf5_0
  refine s_aload_n (pc := 0) (i := 0) ?_ dJ0_length_8abf5_0 rfl
  refine s_sval (pc := 1) ?_ wt_1934 dJ0_length_8abf5_1
  refine s_slen (pc := 4) ?_ dJ0_length_8abf5_4
  refine s_aload_n (pc := 5) (i := 0) ?_ dJ0_length_8abf5_5 rfl
  refine s_cvS (pc := 6) (n := 0) ?_ tJ0_coder_7d493 rfl wt_736 wt_737 wt_738 wt_22 wt_739 ⟨crJ0_coder_7d493, by decide, by decide⟩ dJ0_length_8abf5_6
  refine s_ishr (pc := 9) ?_ dJ0_length_8abf5_9
  exact s_ireturn (pc := 10) rfl dJ0_length_8abf5_10
def kJ0_length_8abf5 (g : GE) : KT := bJ0_length_8abf5_0 g (fun _ _ _ _ => none)
theorem sJ0_length_8abf5 (g : GE) : Snd mJ0_length_8abf5 g 0 (kJ0_length_8abf5 g) := sbJ0_length_8abf5_0 g _
def fJ0_length_8abf5 : FT := fun g av w => if (ent av).length ≤ 1 then kJ0_length_8abf5 g [] (entp 1 av) w else none
theorem tJ0_length_8abf5 : Mt yJ0_length_8abf5 cJ0_length_8abf5 1 (some .int) 2 50 fJ0_length_8abf5 := Mt.of (K := kJ0_length_8abf5) (by decide +kernel) (fun _ _ _ => rfl) sJ0_length_8abf5
theorem crJ0_length_8abf5 : yJ0_length_8abf5.cls ≠ "java/lang/invoke/MethodHandle" ∧ yJ0_length_8abf5.cls ≠ "java/lang/invoke/VarHandle" ∧ (parseMethodDescriptor yJ0_length_8abf5.desc).map (fun d => d.parameters.length) = some 0 := by decide +kernel
theorem dJ13_bitCount_95d88_0 : decode cJ13_bitCount_95d88 0 = .ok (.lload_n 0, 1) := by decide +kernel
theorem dJ13_bitCount_95d88_1 : decode cJ13_bitCount_95d88 1 = .ok (.lload_n 0, 1) := by decide +kernel
theorem dJ13_bitCount_95d88_2 : decode cJ13_bitCount_95d88 2 = .ok (.iconst 1, 1) := by decide +kernel
theorem dJ13_bitCount_95d88_3 : decode cJ13_bitCount_95d88 3 = .ok (.lushr, 1) := by decide +kernel
theorem dJ13_bitCount_95d88_4 : decode cJ13_bitCount_95d88 4 = .ok (.ldc2_w 314, 3) := by decide +kernel
theorem dJ13_bitCount_95d88_7 : decode cJ13_bitCount_95d88 7 = .ok (.land, 1) := by decide +kernel
theorem dJ13_bitCount_95d88_8 : decode cJ13_bitCount_95d88 8 = .ok (.lsub, 1) := by decide +kernel
theorem dJ13_bitCount_95d88_9 : decode cJ13_bitCount_95d88 9 = .ok (.lstore_n 0, 1) := by decide +kernel
theorem dJ13_bitCount_95d88_10 : decode cJ13_bitCount_95d88 10 = .ok (.lload_n 0, 1) := by decide +kernel
theorem dJ13_bitCount_95d88_11 : decode cJ13_bitCount_95d88 11 = .ok (.ldc2_w 316, 3) := by decide +kernel
theorem dJ13_bitCount_95d88_14 : decode cJ13_bitCount_95d88 14 = .ok (.land, 1) := by decide +kernel
theorem dJ13_bitCount_95d88_15 : decode cJ13_bitCount_95d88 15 = .ok (.lload_n 0, 1) := by decide +kernel
theorem dJ13_bitCount_95d88_16 : decode cJ13_bitCount_95d88 16 = .ok (.iconst 2, 1) := by decide +kernel
theorem dJ13_bitCount_95d88_17 : decode cJ13_bitCount_95d88 17 = .ok (.lushr, 1) := by decide +kernel
theorem dJ13_bitCount_95d88_18 : decode cJ13_bitCount_95d88 18 = .ok (.ldc2_w 316, 3) := by decide +kernel
theorem dJ13_bitCount_95d88_21 : decode cJ13_bitCount_95d88 21 = .ok (.land, 1) := by decide +kernel
theorem dJ13_bitCount_95d88_22 : decode cJ13_bitCount_95d88 22 = .ok (.ladd, 1) := by decide +kernel
theorem dJ13_bitCount_95d88_23 : decode cJ13_bitCount_95d88 23 = .ok (.lstore_n 0, 1) := by decide +kernel
theorem dJ13_bitCount_95d88_24 : decode cJ13_bitCount_95d88 24 = .ok (.lload_n 0, 1) := by decide +kernel
theorem dJ13_bitCount_95d88_25 : decode cJ13_bitCount_95d88 25 = .ok (.lload_n 0, 1) := by decide +kernel
theorem dJ13_bitCount_95d88_26 : decode cJ13_bitCount_95d88 26 = .ok (.iconst 4, 1) := by decide +kernel
theorem dJ13_bitCount_95d88_27 : decode cJ13_bitCount_95d88 27 = .ok (.lushr, 1) := by decide +kernel
theorem dJ13_bitCount_95d88_28 : decode cJ13_bitCount_95d88 28 = .ok (.ladd, 1) := by decide +kernel
theorem dJ13_bitCount_95d88_29 : decode cJ13_bitCount_95d88 29 = .ok (.ldc2_w 318, 3) := by decide +kernel
theorem dJ13_bitCount_95d88_32 : decode cJ13_bitCount_95d88 32 = .ok (.land, 1) := by decide +kernel
theorem dJ13_bitCount_95d88_33 : decode cJ13_bitCount_95d88 33 = .ok (.lstore_n 0, 1) := by decide +kernel
theorem dJ13_bitCount_95d88_34 : decode cJ13_bitCount_95d88 34 = .ok (.lload_n 0, 1) := by decide +kernel
theorem dJ13_bitCount_95d88_35 : decode cJ13_bitCount_95d88 35 = .ok (.lload_n 0, 1) := by decide +kernel
theorem dJ13_bitCount_95d88_36 : decode cJ13_bitCount_95d88 36 = .ok (.bipush 8, 2) := by decide +kernel
theorem dJ13_bitCount_95d88_38 : decode cJ13_bitCount_95d88 38 = .ok (.lushr, 1) := by decide +kernel
theorem dJ13_bitCount_95d88_39 : decode cJ13_bitCount_95d88 39 = .ok (.ladd, 1) := by decide +kernel
theorem dJ13_bitCount_95d88_40 : decode cJ13_bitCount_95d88 40 = .ok (.lstore_n 0, 1) := by decide +kernel
theorem dJ13_bitCount_95d88_41 : decode cJ13_bitCount_95d88 41 = .ok (.lload_n 0, 1) := by decide +kernel
theorem dJ13_bitCount_95d88_42 : decode cJ13_bitCount_95d88 42 = .ok (.lload_n 0, 1) := by decide +kernel
theorem dJ13_bitCount_95d88_43 : decode cJ13_bitCount_95d88 43 = .ok (.bipush 16, 2) := by decide +kernel
theorem dJ13_bitCount_95d88_45 : decode cJ13_bitCount_95d88 45 = .ok (.lushr, 1) := by decide +kernel
theorem dJ13_bitCount_95d88_46 : decode cJ13_bitCount_95d88 46 = .ok (.ladd, 1) := by decide +kernel
theorem dJ13_bitCount_95d88_47 : decode cJ13_bitCount_95d88 47 = .ok (.lstore_n 0, 1) := by decide +kernel
theorem dJ13_bitCount_95d88_48 : decode cJ13_bitCount_95d88 48 = .ok (.lload_n 0, 1) := by decide +kernel
theorem dJ13_bitCount_95d88_49 : decode cJ13_bitCount_95d88 49 = .ok (.lload_n 0, 1) := by decide +kernel
theorem dJ13_bitCount_95d88_50 : decode cJ13_bitCount_95d88 50 = .ok (.bipush 32, 2) := by decide +kernel
theorem dJ13_bitCount_95d88_52 : decode cJ13_bitCount_95d88 52 = .ok (.lushr, 1) := by decide +kernel
theorem dJ13_bitCount_95d88_53 : decode cJ13_bitCount_95d88 53 = .ok (.ladd, 1) := by decide +kernel
theorem dJ13_bitCount_95d88_54 : decode cJ13_bitCount_95d88 54 = .ok (.lstore_n 0, 1) := by decide +kernel
theorem dJ13_bitCount_95d88_55 : decode cJ13_bitCount_95d88 55 = .ok (.lload_n 0, 1) := by decide +kernel
theorem dJ13_bitCount_95d88_56 : decode cJ13_bitCount_95d88 56 = .ok (.l2i, 1) := by decide +kernel
theorem dJ13_bitCount_95d88_57 : decode cJ13_bitCount_95d88 57 = .ok (.bipush 127, 2) := by decide +kernel
theorem dJ13_bitCount_95d88_59 : decode cJ13_bitCount_95d88 59 = .ok (.iand, 1) := by decide +kernel
theorem dJ13_bitCount_95d88_60 : decode cJ13_bitCount_95d88 60 = .ok (.ireturn, 1) := by decide +kernel
abbrev mJ13_bitCount_95d88 : MD := (cJ13_bitCount_95d88, "java/lang/Long", 2, 1, 30, (some .int), "bitCount", [])
def bJ13_bitCount_95d88_0 (g : GE) (J : Nat → KT) : KT := i_lload 0 (i_lload 0 (i_push (.int 1) (i_lushr (i_push (.long 6148914691236517205) (i_land (i_lsub (i_lstore 0 (i_lload 0 (i_push (.long 3689348814741910323) (i_land (i_lload 0 (i_push (.int 2) (i_lushr (i_push (.long 3689348814741910323) (i_land (i_ladd (i_lstore 0 (i_lload 0 (i_lload 0 (i_push (.int 4) (i_lushr (i_ladd (i_push (.long 1085102592571150095) (i_land (i_lstore 0 (i_lload 0 (i_lload 0 (i_push (.int 8) (i_lushr (i_ladd (i_lstore 0 (i_lload 0 (i_lload 0 (i_push (.int 16) (i_lushr (i_ladd (i_lstore 0 (i_lload 0 (i_lload 0 (i_push (.int 32) (i_lushr (i_ladd (i_lstore 0 (i_lload 0 (i_l2i (i_push (.int 127) (i_iand (i_ireturn))))))))))))))))))))))))))))))))))))))))))))))))
theorem sbJ13_bitCount_95d88_0 (g : GE) (J : Nat → KT)  : Snd mJ13_bitCount_95d88 g 0 (bJ13_bitCount_95d88_0 g J) := by
  unfold bJ13_bitCount_95d88_0
  refine s_lload_n (pc := 0) (i := 0) ?_ dJ13_bitCount_95d88_0 rfl
  refine s_lload_n (pc := 1) (i := 0) ?_ dJ13_bitCount_95d88_1 rfl
  refine s_iconst (pc := 2) (v := 1) ?_ dJ13_bitCount_95d88_2 (by decide)
  refine s_lushr (pc := 3) ?_ dJ13_bitCount_95d88_3
  refine s_ldc2 (pc := 4) (v := 6148914691236517205) ?_ wt_1308 dJ13_bitCount_95d88_4
  refine s_land (pc := 7) ?_ dJ13_bitCount_95d88_7
  refine s_lsub (pc := 8) ?_ dJ13_bitCount_95d88_8
  refine s_lstore_n (pc := 9) (i := 0) ?_ dJ13_bitCount_95d88_9 rfl (by decide)
  refine s_lload_n (pc := 10) (i := 0) ?_ dJ13_bitCount_95d88_10 rfl
  refine s_ldc2 (pc := 11) (v := 3689348814741910323) ?_ wt_1309 dJ13_bitCount_95d88_11
  refine s_land (pc := 14) ?_ dJ13_bitCount_95d88_14
  refine s_lload_n (pc := 15) (i := 0) ?_ dJ13_bitCount_95d88_15 rfl
  refine s_iconst (pc := 16) (v := 2) ?_ dJ13_bitCount_95d88_16 (by decide)
  refine s_lushr (pc := 17) ?_ dJ13_bitCount_95d88_17
  refine s_ldc2 (pc := 18) (v := 3689348814741910323) ?_ wt_1309 dJ13_bitCount_95d88_18
  refine s_land (pc := 21) ?_ dJ13_bitCount_95d88_21
  refine s_ladd (pc := 22) ?_ dJ13_bitCount_95d88_22
  refine s_lstore_n (pc := 23) (i := 0) ?_ dJ13_bitCount_95d88_23 rfl (by decide)
  refine s_lload_n (pc := 24) (i := 0) ?_ dJ13_bitCount_95d88_24 rfl
  refine s_lload_n (pc := 25) (i := 0) ?_ dJ13_bitCount_95d88_25 rfl
  refine s_iconst (pc := 26) (v := 4) ?_ dJ13_bitCount_95d88_26 (by decide)
  refine s_lushr (pc := 27) ?_ dJ13_bitCount_95d88_27
  refine s_ladd (pc := 28) ?_ dJ13_bitCount_95d88_28
  refine s_ldc2 (pc := 29) (v := 1085102592571150095) ?_ wt_1310 dJ13_bitCount_95d88_29
  refine s_land (pc := 32) ?_ dJ13_bitCount_95d88_32
  refine s_lstore_n (pc := 33) (i := 0) ?_ dJ13_bitCount_95d88_33 rfl (by decide)
  refine s_lload_n (pc := 34) (i := 0) ?_ dJ13_bitCount_95d88_34 rfl
  refine s_lload_n (pc := 35) (i := 0) ?_ dJ13_bitCount_95d88_35 rfl
  refine s_bipush (pc := 36) (v := 8) ?_ dJ13_bitCount_95d88_36 (by decide)
  refine s_lushr (pc := 38) ?_ dJ13_bitCount_95d88_38
  refine s_ladd (pc := 39) ?_ dJ13_bitCount_95d88_39
  refine s_lstore_n (pc := 40) (i := 0) ?_ dJ13_bitCount_95d88_40 rfl (by decide)
  refine s_lload_n (pc := 41) (i := 0) ?_ dJ13_bitCount_95d88_41 rfl
  refine s_lload_n (pc := 42) (i := 0) ?_ dJ13_bitCount_95d88_42 rfl
  refine s_bipush (pc := 43) (v := 16) ?_ dJ13_bitCount_95d88_43 (by decide)
  refine s_lushr (pc := 45) ?_ dJ13_bitCount_95d88_45
  refine s_ladd (pc := 46) ?_ dJ13_bitCount_95d88_46
  refine s_lstore_n (pc := 47) (i := 0) ?_ dJ13_bitCount_95d88_47 rfl (by decide)
  refine s_lload_n (pc := 48) (i := 0) ?_ dJ13_bitCount_95d88_48 rfl
  refine s_lload_n (pc := 49) (i := 0) ?_ dJ13_bitCount_95d88_49 rfl
  refine s_bipush (pc := 50) (v := 32) ?_ dJ13_bitCount_95d88_50 (by decide)
  refine s_lushr (pc := 52) ?_ dJ13_bitCount_95d88_52
  refine s_ladd (pc := 53) ?_ dJ13_bitCount_95d88_53
  refine s_lstore_n (pc := 54) (i := 0) ?_ dJ13_bitCount_95d88_54 rfl (by decide)
  refine s_lload_n (pc := 55) (i := 0) ?_ dJ13_bitCount_95d88_55 rfl
  refine s_l2i (pc := 56) ?_ dJ13_bitCount_95d88_56
  refine s_bipush (pc := 57) (v := 127) ?_ dJ13_bitCount_95d88_57 (by decide)
  refine s_iand (pc := 59) ?_ dJ13_bitCount_95d88_59
  exact s_ireturn (pc := 60) rfl dJ13_bitCount_95d88_60
def kJ13_bitCount_95d88 (g : GE) : KT := bJ13_bitCount_95d88_0 g (fun _ _ _ _ => none)
theorem sJ13_bitCount_95d88 (g : GE) : Snd mJ13_bitCount_95d88 g 0 (kJ13_bitCount_95d88 g) := sbJ13_bitCount_95d88_0 g _
def fJ13_bitCount_95d88 : FT := fun g av w => if (ent av).length ≤ 2 then kJ13_bitCount_95d88 g [] (entp 2 av) w else none
theorem tJ13_bitCount_95d88 : Mt yJ13_bitCount_95d88 cJ13_bitCount_95d88 2 (some .int) 1 30 fJ13_bitCount_95d88 := Mt.of (K := kJ13_bitCount_95d88) (by decide +kernel) (fun _ _ _ => rfl) sJ13_bitCount_95d88
theorem crJ13_bitCount_95d88 : yJ13_bitCount_95d88.cls ≠ "java/lang/invoke/MethodHandle" ∧ yJ13_bitCount_95d88.cls ≠ "java/lang/invoke/VarHandle" ∧ (parseMethodDescriptor yJ13_bitCount_95d88.desc).map (fun d => d.parameters.length) = some 1 := by decide +kernel
theorem dJ6_bitCount_0f7a4_0 : decode cJ6_bitCount_0f7a4 0 = .ok (.iload_n 0, 1) := by decide +kernel
theorem dJ6_bitCount_0f7a4_1 : decode cJ6_bitCount_0f7a4 1 = .ok (.iload_n 0, 1) := by decide +kernel
theorem dJ6_bitCount_0f7a4_2 : decode cJ6_bitCount_0f7a4 2 = .ok (.iconst 1, 1) := by decide +kernel
theorem dJ6_bitCount_0f7a4_3 : decode cJ6_bitCount_0f7a4 3 = .ok (.iushr, 1) := by decide +kernel
theorem dJ6_bitCount_0f7a4_4 : decode cJ6_bitCount_0f7a4 4 = .ok (.ldc_w 265, 3) := by decide +kernel
theorem dJ6_bitCount_0f7a4_7 : decode cJ6_bitCount_0f7a4 7 = .ok (.iand, 1) := by decide +kernel
theorem dJ6_bitCount_0f7a4_8 : decode cJ6_bitCount_0f7a4 8 = .ok (.isub, 1) := by decide +kernel
theorem dJ6_bitCount_0f7a4_9 : decode cJ6_bitCount_0f7a4 9 = .ok (.istore_n 0, 1) := by decide +kernel
theorem dJ6_bitCount_0f7a4_10 : decode cJ6_bitCount_0f7a4 10 = .ok (.iload_n 0, 1) := by decide +kernel
theorem dJ6_bitCount_0f7a4_11 : decode cJ6_bitCount_0f7a4 11 = .ok (.ldc_w 266, 3) := by decide +kernel
theorem dJ6_bitCount_0f7a4_14 : decode cJ6_bitCount_0f7a4 14 = .ok (.iand, 1) := by decide +kernel
theorem dJ6_bitCount_0f7a4_15 : decode cJ6_bitCount_0f7a4 15 = .ok (.iload_n 0, 1) := by decide +kernel
theorem dJ6_bitCount_0f7a4_16 : decode cJ6_bitCount_0f7a4 16 = .ok (.iconst 2, 1) := by decide +kernel
theorem dJ6_bitCount_0f7a4_17 : decode cJ6_bitCount_0f7a4 17 = .ok (.iushr, 1) := by decide +kernel
theorem dJ6_bitCount_0f7a4_18 : decode cJ6_bitCount_0f7a4 18 = .ok (.ldc_w 266, 3) := by decide +kernel
theorem dJ6_bitCount_0f7a4_21 : decode cJ6_bitCount_0f7a4 21 = .ok (.iand, 1) := by decide +kernel
theorem dJ6_bitCount_0f7a4_22 : decode cJ6_bitCount_0f7a4 22 = .ok (.iadd, 1) := by decide +kernel
theorem dJ6_bitCount_0f7a4_23 : decode cJ6_bitCount_0f7a4 23 = .ok (.istore_n 0, 1) := by decide +kernel
theorem dJ6_bitCount_0f7a4_24 : decode cJ6_bitCount_0f7a4 24 = .ok (.iload_n 0, 1) := by decide +kernel
theorem dJ6_bitCount_0f7a4_25 : decode cJ6_bitCount_0f7a4 25 = .ok (.iload_n 0, 1) := by decide +kernel
theorem dJ6_bitCount_0f7a4_26 : decode cJ6_bitCount_0f7a4 26 = .ok (.iconst 4, 1) := by decide +kernel
theorem dJ6_bitCount_0f7a4_27 : decode cJ6_bitCount_0f7a4 27 = .ok (.iushr, 1) := by decide +kernel
theorem dJ6_bitCount_0f7a4_28 : decode cJ6_bitCount_0f7a4 28 = .ok (.iadd, 1) := by decide +kernel
theorem dJ6_bitCount_0f7a4_29 : decode cJ6_bitCount_0f7a4 29 = .ok (.ldc_w 267, 3) := by decide +kernel
theorem dJ6_bitCount_0f7a4_32 : decode cJ6_bitCount_0f7a4 32 = .ok (.iand, 1) := by decide +kernel
theorem dJ6_bitCount_0f7a4_33 : decode cJ6_bitCount_0f7a4 33 = .ok (.istore_n 0, 1) := by decide +kernel
theorem dJ6_bitCount_0f7a4_34 : decode cJ6_bitCount_0f7a4 34 = .ok (.iload_n 0, 1) := by decide +kernel
theorem dJ6_bitCount_0f7a4_35 : decode cJ6_bitCount_0f7a4 35 = .ok (.iload_n 0, 1) := by decide +kernel
theorem dJ6_bitCount_0f7a4_36 : decode cJ6_bitCount_0f7a4 36 = .ok (.bipush 8, 2) := by decide +kernel
theorem dJ6_bitCount_0f7a4_38 : decode cJ6_bitCount_0f7a4 38 = .ok (.iushr, 1) := by decide +kernel
theorem dJ6_bitCount_0f7a4_39 : decode cJ6_bitCount_0f7a4 39 = .ok (.iadd, 1) := by decide +kernel
theorem dJ6_bitCount_0f7a4_40 : decode cJ6_bitCount_0f7a4 40 = .ok (.istore_n 0, 1) := by decide +kernel
theorem dJ6_bitCount_0f7a4_41 : decode cJ6_bitCount_0f7a4 41 = .ok (.iload_n 0, 1) := by decide +kernel
theorem dJ6_bitCount_0f7a4_42 : decode cJ6_bitCount_0f7a4 42 = .ok (.iload_n 0, 1) := by decide +kernel
theorem dJ6_bitCount_0f7a4_43 : decode cJ6_bitCount_0f7a4 43 = .ok (.bipush 16, 2) := by decide +kernel
theorem dJ6_bitCount_0f7a4_45 : decode cJ6_bitCount_0f7a4 45 = .ok (.iushr, 1) := by decide +kernel
theorem dJ6_bitCount_0f7a4_46 : decode cJ6_bitCount_0f7a4 46 = .ok (.iadd, 1) := by decide +kernel
theorem dJ6_bitCount_0f7a4_47 : decode cJ6_bitCount_0f7a4 47 = .ok (.istore_n 0, 1) := by decide +kernel
theorem dJ6_bitCount_0f7a4_48 : decode cJ6_bitCount_0f7a4 48 = .ok (.iload_n 0, 1) := by decide +kernel
theorem dJ6_bitCount_0f7a4_49 : decode cJ6_bitCount_0f7a4 49 = .ok (.bipush 63, 2) := by decide +kernel
theorem dJ6_bitCount_0f7a4_51 : decode cJ6_bitCount_0f7a4 51 = .ok (.iand, 1) := by decide +kernel
theorem dJ6_bitCount_0f7a4_52 : decode cJ6_bitCount_0f7a4 52 = .ok (.ireturn, 1) := by decide +kernel
abbrev mJ6_bitCount_0f7a4 : MD := (cJ6_bitCount_0f7a4, "java/lang/Integer", 1, 1, 30, (some .int), "bitCount", [])
def bJ6_bitCount_0f7a4_0 (g : GE) (J : Nat → KT) : KT := i_iload 0 (i_iload 0 (i_push (.int 1) (i_iushr (i_push (.int 1431655765) (i_iand (i_isub (i_istore 0 (i_iload 0 (i_push (.int 858993459) (i_iand (i_iload 0 (i_push (.int 2) (i_iushr (i_push (.int 858993459) (i_iand (i_iadd (i_istore 0 (i_iload 0 (i_iload 0 (i_push (.int 4) (i_iushr (i_iadd (i_push (.int 252645135) (i_iand (i_istore 0 (i_iload 0 (i_iload 0 (i_push (.int 8) (i_iushr (i_iadd (i_istore 0 (i_iload 0 (i_iload 0 (i_push (.int 16) (i_iushr (i_iadd (i_istore 0 (i_iload 0 (i_push (.int 63) (i_iand (i_ireturn)))))))))))))))))))))))))))))))))))))))))
theorem sbJ6_bitCount_0f7a4_0 (g : GE) (J : Nat → KT)  : Snd mJ6_bitCount_0f7a4 g 0 (bJ6_bitCount_0f7a4_0 g J) := by
  unfold bJ6_bitCount_0f7a4_0
  refine s_iload_n (pc := 0) (i := 0) ?_ dJ6_bitCount_0f7a4_0 rfl
  refine s_iload_n (pc := 1) (i := 0) ?_ dJ6_bitCount_0f7a4_1 rfl
  refine s_iconst (pc := 2) (v := 1) ?_ dJ6_bitCount_0f7a4_2 (by decide)
  refine s_iushr (pc := 3) ?_ dJ6_bitCount_0f7a4_3
  refine s_ldcw (pc := 4) (v := 1431655765) ?_ wt_325 dJ6_bitCount_0f7a4_4
  refine s_iand (pc := 7) ?_ dJ6_bitCount_0f7a4_7
  refine s_isub (pc := 8) ?_ dJ6_bitCount_0f7a4_8
  refine s_istore_n (pc := 9) (i := 0) ?_ dJ6_bitCount_0f7a4_9 rfl (by decide)
  refine s_iload_n (pc := 10) (i := 0) ?_ dJ6_bitCount_0f7a4_10 rfl
  refine s_ldcw (pc := 11) (v := 858993459) ?_ wt_326 dJ6_bitCount_0f7a4_11
  refine s_iand (pc := 14) ?_ dJ6_bitCount_0f7a4_14
  refine s_iload_n (pc := 15) (i := 0) ?_ dJ6_bitCount_0f7a4_15 rfl
  refine s_iconst (pc := 16) (v := 2) ?_ dJ6_bitCount_0f7a4_16 (by decide)
  refine s_iushr (pc := 17) ?_ dJ6_bitCount_0f7a4_17
  refine s_ldcw (pc := 18) (v := 858993459) ?_ wt_326 dJ6_bitCount_0f7a4_18
  refine s_iand (pc := 21) ?_ dJ6_bitCount_0f7a4_21
  refine s_iadd (pc := 22) ?_ dJ6_bitCount_0f7a4_22
  refine s_istore_n (pc := 23) (i := 0) ?_ dJ6_bitCount_0f7a4_23 rfl (by decide)
  refine s_iload_n (pc := 24) (i := 0) ?_ dJ6_bitCount_0f7a4_24 rfl
  refine s_iload_n (pc := 25) (i := 0) ?_ dJ6_bitCount_0f7a4_25 rfl
  refine s_iconst (pc := 26) (v := 4) ?_ dJ6_bitCount_0f7a4_26 (by decide)
  refine s_iushr (pc := 27) ?_ dJ6_bitCount_0f7a4_27
  refine s_iadd (pc := 28) ?_ dJ6_bitCount_0f7a4_28
  refine s_ldcw (pc := 29) (v := 252645135) ?_ wt_327 dJ6_bitCount_0f7a4_29
  refine s_iand (pc := 32) ?_ dJ6_bitCount_0f7a4_32
  refine s_istore_n (pc := 33) (i := 0) ?_ dJ6_bitCount_0f7a4_33 rfl (by decide)
  refine s_iload_n (pc := 34) (i := 0) ?_ dJ6_bitCount_0f7a4_34 rfl
  refine s_iload_n (pc := 35) (i := 0) ?_ dJ6_bitCount_0f7a4_35 rfl
  refine s_bipush (pc := 36) (v := 8) ?_ dJ6_bitCount_0f7a4_36 (by decide)
  refine s_iushr (pc := 38) ?_ dJ6_bitCount_0f7a4_38
  refine s_iadd (pc := 39) ?_ dJ6_bitCount_0f7a4_39
  refine s_istore_n (pc := 40) (i := 0) ?_ dJ6_bitCount_0f7a4_40 rfl (by decide)
  refine s_iload_n (pc := 41) (i := 0) ?_ dJ6_bitCount_0f7a4_41 rfl
  refine s_iload_n (pc := 42) (i := 0) ?_ dJ6_bitCount_0f7a4_42 rfl
  refine s_bipush (pc := 43) (v := 16) ?_ dJ6_bitCount_0f7a4_43 (by decide)
  refine s_iushr (pc := 45) ?_ dJ6_bitCount_0f7a4_45
  refine s_iadd (pc := 46) ?_ dJ6_bitCount_0f7a4_46
  refine s_istore_n (pc := 47) (i := 0) ?_ dJ6_bitCount_0f7a4_47 rfl (by decide)
  refine s_iload_n (pc := 48) (i := 0) ?_ dJ6_bitCount_0f7a4_48 rfl
  refine s_bipush (pc := 49) (v := 63) ?_ dJ6_bitCount_0f7a4_49 (by decide)
  refine s_iand (pc := 51) ?_ dJ6_bitCount_0f7a4_51
  exact s_ireturn (pc := 52) rfl dJ6_bitCount_0f7a4_52
def kJ6_bitCount_0f7a4 (g : GE) : KT := bJ6_bitCount_0f7a4_0 g (fun _ _ _ _ => none)
theorem sJ6_bitCount_0f7a4 (g : GE) : Snd mJ6_bitCount_0f7a4 g 0 (kJ6_bitCount_0f7a4 g) := sbJ6_bitCount_0f7a4_0 g _
def fJ6_bitCount_0f7a4 : FT := fun g av w => if (ent av).length ≤ 1 then kJ6_bitCount_0f7a4 g [] (entp 1 av) w else none
theorem tJ6_bitCount_0f7a4 : Mt yJ6_bitCount_0f7a4 cJ6_bitCount_0f7a4 1 (some .int) 1 30 fJ6_bitCount_0f7a4 := Mt.of (K := kJ6_bitCount_0f7a4) (by decide +kernel) (fun _ _ _ => rfl) sJ6_bitCount_0f7a4
theorem crJ6_bitCount_0f7a4 : yJ6_bitCount_0f7a4.cls ≠ "java/lang/invoke/MethodHandle" ∧ yJ6_bitCount_0f7a4.cls ≠ "java/lang/invoke/VarHandle" ∧ (parseMethodDescriptor yJ6_bitCount_0f7a4.desc).map (fun d => d.parameters.length) = some 1 := by decide +kernel
theorem dJ7_copyOf_c38d5_0 : decode cJ7_copyOf_c38d5 0 = .ok (.iload_n 1, 1) := by decide +kernel
theorem dJ7_copyOf_c38d5_1 : decode cJ7_copyOf_c38d5 1 = .ok (.aload_n 0, 1) := by decide +kernel
theorem dJ7_copyOf_c38d5_2 : decode cJ7_copyOf_c38d5 2 = .ok (.arraylength, 1) := by decide +kernel
theorem dJ7_copyOf_c38d5_3 : decode cJ7_copyOf_c38d5 3 = .ok (.if_icmp .ne 11, 3) := by decide +kernel
theorem dJ7_copyOf_c38d5_6 : decode cJ7_copyOf_c38d5 6 = .ok (.aload_n 0, 1) := by decide +kernel
theorem dJ7_copyOf_c38d5_7 : decode cJ7_copyOf_c38d5 7 = .ok (.invokevirtual 319, 3) := by decide +kernel
theorem dJ7_copyOf_c38d5_10 : decode cJ7_copyOf_c38d5 10 = .ok (.checkcast 320, 3) := by decide +kernel
theorem dJ7_copyOf_c38d5_13 : decode cJ7_copyOf_c38d5 13 = .ok (.areturn, 1) := by decide +kernel
theorem dJ7_copyOf_c38d5_14 : decode cJ7_copyOf_c38d5 14 = .ok (.iload_n 1, 1) := by decide +kernel
theorem dJ7_copyOf_c38d5_15 : decode cJ7_copyOf_c38d5 15 = .ok (.newarray .long, 2) := by decide +kernel
theorem dJ7_copyOf_c38d5_17 : decode cJ7_copyOf_c38d5 17 = .ok (.astore_n 2, 1) := by decide +kernel
theorem dJ7_copyOf_c38d5_18 : decode cJ7_copyOf_c38d5 18 = .ok (.aload_n 0, 1) := by decide +kernel
theorem dJ7_copyOf_c38d5_19 : decode cJ7_copyOf_c38d5 19 = .ok (.iconst 0, 1) := by decide +kernel
theorem dJ7_copyOf_c38d5_20 : decode cJ7_copyOf_c38d5 20 = .ok (.aload_n 2, 1) := by decide +kernel
theorem dJ7_copyOf_c38d5_21 : decode cJ7_copyOf_c38d5 21 = .ok (.iconst 0, 1) := by decide +kernel
theorem dJ7_copyOf_c38d5_22 : decode cJ7_copyOf_c38d5 22 = .ok (.aload_n 0, 1) := by decide +kernel
theorem dJ7_copyOf_c38d5_23 : decode cJ7_copyOf_c38d5 23 = .ok (.arraylength, 1) := by decide +kernel
theorem dJ7_copyOf_c38d5_24 : decode cJ7_copyOf_c38d5 24 = .ok (.iload_n 1, 1) := by decide +kernel
theorem dJ7_copyOf_c38d5_25 : decode cJ7_copyOf_c38d5 25 = .ok (.invokestatic 304, 3) := by decide +kernel
theorem dJ7_copyOf_c38d5_28 : decode cJ7_copyOf_c38d5 28 = .ok (.invokestatic 150, 3) := by decide +kernel
theorem dJ7_copyOf_c38d5_31 : decode cJ7_copyOf_c38d5 31 = .ok (.aload_n 2, 1) := by decide +kernel
theorem dJ7_copyOf_c38d5_32 : decode cJ7_copyOf_c38d5 32 = .ok (.areturn, 1) := by decide +kernel
abbrev mJ7_copyOf_c38d5 : MD := (cJ7_copyOf_c38d5, "java/util/Arrays", 3, 1, 60, (some (.array .long)), "copyOf", [])
def bJ7_copyOf_c38d5_0 (g : GE) (J : Nat → KT) : KT := i_iload 1 (i_aload 0 (i_alen 1 (i_icne (i_iload 1 (i_newarr 1 (i_astore 2 (i_aload 0 (i_push (.int 0) (i_aload 2 (i_push (.int 0) (i_aload 0 (i_alen 1 (i_iload 1 (i_min (i_acopy (i_aload 2 (i_areturn)))))))))))))) (i_aload 0 ((fun _ _ _ => none))))))
theorem sbJ7_copyOf_c38d5_0 (g : GE) (J : Nat → KT)  : Snd mJ7_copyOf_c38d5 g 0 (bJ7_copyOf_c38d5_0 g J) := by
  unfold bJ7_copyOf_c38d5_0
  refine s_iload_n (pc := 0) (i := 1) ?_ dJ7_copyOf_c38d5_0 rfl
  refine s_aload_n (pc := 1) (i := 0) ?_ dJ7_copyOf_c38d5_1 rfl
  refine s_alen (pc := 2) (t := 1) ?_ (by decide) dJ7_copyOf_c38d5_2
  refine s_icne (pc := 3) (tgt := 14) ?_ ?_ dJ7_copyOf_c38d5_3 (by decide)
  · skip
    refine s_iload_n (pc := 14) (i := 1) ?_ dJ7_copyOf_c38d5_14 rfl
    refine s_newarr (pc := 15) (t := 1) ?_ (by decide) rfl wt_69 dJ7_copyOf_c38d5_15
    refine s_astore_n (pc := 17) (i := 2) ?_ dJ7_copyOf_c38d5_17 rfl (by decide)
    refine s_aload_n (pc := 18) (i := 0) ?_ dJ7_copyOf_c38d5_18 rfl
    refine s_iconst (pc := 19) (v := 0) ?_ dJ7_copyOf_c38d5_19 (by decide)
    refine s_aload_n (pc := 20) (i := 2) ?_ dJ7_copyOf_c38d5_20 rfl
    refine s_iconst (pc := 21) (v := 0) ?_ dJ7_copyOf_c38d5_21 (by decide)
    refine s_aload_n (pc := 22) (i := 0) ?_ dJ7_copyOf_c38d5_22 rfl
    refine s_alen (pc := 23) (t := 1) ?_ (by decide) dJ7_copyOf_c38d5_23
    refine s_iload_n (pc := 24) (i := 1) ?_ dJ7_copyOf_c38d5_24 rfl
    refine s_min (pc := 25) ?_ wt_312 wt_300 wt_12 wt_301 (by decide) dJ7_copyOf_c38d5_25
    refine s_acopy (pc := 28) ?_ wt_313 wt_269 wt_268 wt_11 (by decide +kernel) dJ7_copyOf_c38d5_28
    refine s_aload_n (pc := 31) (i := 2) ?_ dJ7_copyOf_c38d5_31 rfl
    exact s_areturn (pc := 32) rfl (by simp) dJ7_copyOf_c38d5_32
  · skip
    refine s_aload_n (pc := 6) (i := 0) ?_ dJ7_copyOf_c38d5_6 rfl
    exact s_none
def kJ7_copyOf_c38d5 (g : GE) : KT := bJ7_copyOf_c38d5_0 g (fun _ _ _ _ => none)
theorem sJ7_copyOf_c38d5 (g : GE) : Snd mJ7_copyOf_c38d5 g 0 (kJ7_copyOf_c38d5 g) := sbJ7_copyOf_c38d5_0 g _
def fJ7_copyOf_c38d5 : FT := fun g av w => if (ent av).length ≤ 3 then kJ7_copyOf_c38d5 g [] (entp 3 av) w else none
theorem tJ7_copyOf_c38d5 : Mt yJ7_copyOf_c38d5 cJ7_copyOf_c38d5 3 (some (.array .long)) 1 60 fJ7_copyOf_c38d5 := Mt.of (K := kJ7_copyOf_c38d5) (by decide +kernel) (fun _ _ _ => rfl) sJ7_copyOf_c38d5
theorem crJ7_copyOf_c38d5 : yJ7_copyOf_c38d5.cls ≠ "java/lang/invoke/MethodHandle" ∧ yJ7_copyOf_c38d5.cls ≠ "java/lang/invoke/VarHandle" ∧ (parseMethodDescriptor yJ7_copyOf_c38d5.desc).map (fun d => d.parameters.length) = some 2 := by decide +kernel
theorem dJ7_fill_53178_0 : decode cJ7_fill_53178 0 = .ok (.iconst 0, 1) := by decide +kernel
theorem dJ7_fill_53178_1 : decode cJ7_fill_53178 1 = .ok (.istore_n 2, 1) := by decide +kernel
theorem dJ7_fill_53178_2 : decode cJ7_fill_53178 2 = .ok (.aload_n 0, 1) := by decide +kernel
theorem dJ7_fill_53178_3 : decode cJ7_fill_53178 3 = .ok (.arraylength, 1) := by decide +kernel
theorem dJ7_fill_53178_4 : decode cJ7_fill_53178 4 = .ok (.istore_n 3, 1) := by decide +kernel
theorem dJ7_fill_53178_5 : decode cJ7_fill_53178 5 = .ok (.iload_n 2, 1) := by decide +kernel
theorem dJ7_fill_53178_6 : decode cJ7_fill_53178 6 = .ok (.iload_n 3, 1) := by decide +kernel
theorem dJ7_fill_53178_7 : decode cJ7_fill_53178 7 = .ok (.if_icmp .ge 13, 3) := by decide +kernel
theorem dJ7_fill_53178_10 : decode cJ7_fill_53178 10 = .ok (.aload_n 0, 1) := by decide +kernel
theorem dJ7_fill_53178_11 : decode cJ7_fill_53178 11 = .ok (.iload_n 2, 1) := by decide +kernel
theorem dJ7_fill_53178_12 : decode cJ7_fill_53178 12 = .ok (.iload_n 1, 1) := by decide +kernel
theorem dJ7_fill_53178_13 : decode cJ7_fill_53178 13 = .ok (.iastore, 1) := by decide +kernel
theorem dJ7_fill_53178_14 : decode cJ7_fill_53178 14 = .ok (.iinc 2 1, 3) := by decide +kernel
theorem dJ7_fill_53178_17 : decode cJ7_fill_53178 17 = .ok (.goto (-12), 3) := by decide +kernel
theorem dJ7_fill_53178_20 : decode cJ7_fill_53178 20 = .ok (.return_, 1) := by decide +kernel
abbrev mJ7_fill_53178 : MD := (cJ7_fill_53178, "java/util/Arrays", 4, 1, 30, none, "fill", [])
def bJ7_fill_53178_0 (g : GE) (J : Nat → KT) : KT := i_push (.int 0) (i_istore 2 (i_aload 0 (i_alen 0 (i_istore 3 (i_jmp [true, true, true, true] (J 1))))))
def bJ7_fill_53178_1 (g : GE) (J : Nat → KT) : KT := i_iload 2 (i_iload 3 (i_icge (i_return) (i_aload 0 (i_iload 2 (i_iload 1 (i_iastore (i_iinc 2 1 (i_jmp [true, true, true, true] (J 1)))))))))
theorem sbJ7_fill_53178_0 (g : GE) (J : Nat → KT) (h1 : Snd mJ7_fill_53178 g 5 (J 1)) : Snd mJ7_fill_53178 g 0 (bJ7_fill_53178_0 g J) := by
  unfold bJ7_fill_53178_0
  refine s_iconst (pc := 0) (v := 0) ?_ dJ7_fill_53178_0 (by decide)
  refine s_istore_n (pc := 1) (i := 2) ?_ dJ7_fill_53178_1 rfl (by decide)
  refine s_aload_n (pc := 2) (i := 0) ?_ dJ7_fill_53178_2 rfl
  refine s_alen (pc := 3) (t := 0) ?_ (by decide) dJ7_fill_53178_3
  refine s_istore_n (pc := 4) (i := 3) ?_ dJ7_fill_53178_4 rfl (by decide)
  exact s_fall (pc := 5) h1
theorem sbJ7_fill_53178_1 (g : GE) (J : Nat → KT) (h1 : Snd mJ7_fill_53178 g 5 (J 1)) : Snd mJ7_fill_53178 g 5 (bJ7_fill_53178_1 g J) := by
  unfold bJ7_fill_53178_1
  refine s_iload_n (pc := 5) (i := 2) ?_ dJ7_fill_53178_5 rfl
  refine s_iload_n (pc := 6) (i := 3) ?_ dJ7_fill_53178_6 rfl
  refine s_icge (pc := 7) (tgt := 20) ?_ ?_ dJ7_fill_53178_7 (by decide)
  · skip
    exact s_return (pc := 20) rfl dJ7_fill_53178_20
  · skip
    refine s_aload_n (pc := 10) (i := 0) ?_ dJ7_fill_53178_10 rfl
    refine s_iload_n (pc := 11) (i := 2) ?_ dJ7_fill_53178_11 rfl
    refine s_iload_n (pc := 12) (i := 1) ?_ dJ7_fill_53178_12 rfl
    refine s_iastore (pc := 13) ?_ dJ7_fill_53178_13
    refine s_iinc (pc := 14) (i := 2) (v := 1) ?_ dJ7_fill_53178_14 (by decide) (by decide)
    exact s_goto (pc := 17) (tgt := 5) h1 dJ7_fill_53178_17 (by decide)
def jJ7_fill_53178 (g : GE) : Nat → Nat → KT
  | 0, _ => fun _ _ _ => none
  | n + 1, 0 => bJ7_fill_53178_0 g (jJ7_fill_53178 g n)
  | n + 1, 1 => bJ7_fill_53178_1 g (jJ7_fill_53178 g n)
  | _ + 1, _ + 2 => fun _ _ _ => none
theorem sjJ7_fill_53178 (g : GE) : ∀ n, Snd mJ7_fill_53178 g 0 (jJ7_fill_53178 g n 0) ∧ Snd mJ7_fill_53178 g 5 (jJ7_fill_53178 g n 1)
  | 0 => ⟨s_none, s_none⟩
  | n + 1 => by
    obtain ⟨-, h1⟩ := sjJ7_fill_53178 g n
    exact ⟨sbJ7_fill_53178_0 g _ h1, sbJ7_fill_53178_1 g _ h1⟩
def kJ7_fill_53178 (g : GE) : KT := jJ7_fill_53178 g g.1 0
theorem sJ7_fill_53178 (g : GE) : Snd mJ7_fill_53178 g 0 (kJ7_fill_53178 g) := (sjJ7_fill_53178 g g.1).1
def fJ7_fill_53178 : FT := fun g av w => if (ent av).length ≤ 4 then kJ7_fill_53178 g [] (entp 4 av) w else none
theorem tJ7_fill_53178 : Mt yJ7_fill_53178 cJ7_fill_53178 4 none 1 30 fJ7_fill_53178 := Mt.of (K := kJ7_fill_53178) (by decide +kernel) (fun _ _ _ => rfl) sJ7_fill_53178
theorem crJ7_fill_53178 : yJ7_fill_53178.cls ≠ "java/lang/invoke/MethodHandle" ∧ yJ7_fill_53178.cls ≠ "java/lang/invoke/VarHandle" ∧ (parseMethodDescriptor yJ7_fill_53178.desc).map (fun d => d.parameters.length) = some 2 := by decide +kernel
theorem dJ7_fill_d0a16_0 : decode cJ7_fill_d0a16 0 = .ok (.iconst 0, 1) := by decide +kernel
theorem dJ7_fill_d0a16_1 : decode cJ7_fill_d0a16 1 = .ok (.istore_n 3, 1) := by decide +kernel
theorem dJ7_fill_d0a16_2 : decode cJ7_fill_d0a16 2 = .ok (.aload_n 0, 1) := by decide +kernel
theorem dJ7_fill_d0a16_3 : decode cJ7_fill_d0a16 3 = .ok (.arraylength, 1) := by decide +kernel
theorem dJ7_fill_d0a16_4 : decode cJ7_fill_d0a16 4 = .ok (.istore 4, 2) := by decide +kernel
theorem dJ7_fill_d0a16_6 : decode cJ7_fill_d0a16 6 = .ok (.iload_n 3, 1) := by decide +kernel
theorem dJ7_fill_d0a16_7 : decode cJ7_fill_d0a16 7 = .ok (.iload 4, 2) := by decide +kernel
theorem dJ7_fill_d0a16_9 : decode cJ7_fill_d0a16 9 = .ok (.if_icmp .ge 13, 3) := by decide +kernel
theorem dJ7_fill_d0a16_12 : decode cJ7_fill_d0a16 12 = .ok (.aload_n 0, 1) := by decide +kernel
theorem dJ7_fill_d0a16_13 : decode cJ7_fill_d0a16 13 = .ok (.iload_n 3, 1) := by decide +kernel
theorem dJ7_fill_d0a16_14 : decode cJ7_fill_d0a16 14 = .ok (.lload_n 1, 1) := by decide +kernel
theorem dJ7_fill_d0a16_15 : decode cJ7_fill_d0a16 15 = .ok (.lastore, 1) := by decide +kernel
theorem dJ7_fill_d0a16_16 : decode cJ7_fill_d0a16 16 = .ok (.iinc 3 1, 3) := by decide +kernel
theorem dJ7_fill_d0a16_19 : decode cJ7_fill_d0a16 19 = .ok (.goto (-13), 3) := by decide +kernel
theorem dJ7_fill_d0a16_22 : decode cJ7_fill_d0a16 22 = .ok (.return_, 1) := by decide +kernel
abbrev mJ7_fill_d0a16 : MD := (cJ7_fill_d0a16, "java/util/Arrays", 5, 1, 30, none, "fill", [])
def bJ7_fill_d0a16_0 (g : GE) (J : Nat → KT) : KT := i_push (.int 0) (i_istore 3 (i_aload 0 (i_alen 1 (i_istore 4 (i_jmp [true, true, false, true, true] (J 1))))))
def bJ7_fill_d0a16_1 (g : GE) (J : Nat → KT) : KT := i_iload 3 (i_iload 4 (i_icge (i_return) (i_aload 0 (i_iload 3 (i_lload 1 (i_lastore (i_iinc 3 1 (i_jmp [true, true, false, true, true] (J 1)))))))))
theorem sbJ7_fill_d0a16_0 (g : GE) (J : Nat → KT) (h1 : Snd mJ7_fill_d0a16 g 6 (J 1)) : Snd mJ7_fill_d0a16 g 0 (bJ7_fill_d0a16_0 g J) := by
  unfold bJ7_fill_d0a16_0
  refine s_iconst (pc := 0) (v := 0) ?_ dJ7_fill_d0a16_0 (by decide)
  refine s_istore_n (pc := 1) (i := 3) ?_ dJ7_fill_d0a16_1 rfl (by decide)
  refine s_aload_n (pc := 2) (i := 0) ?_ dJ7_fill_d0a16_2 rfl
  refine s_alen (pc := 3) (t := 1) ?_ (by decide) dJ7_fill_d0a16_3
  refine s_istore (pc := 4) (i := 4) ?_ dJ7_fill_d0a16_4 (by decide)
  exact s_fall (pc := 6) h1
theorem sbJ7_fill_d0a16_1 (g : GE) (J : Nat → KT) (h1 : Snd mJ7_fill_d0a16 g 6 (J 1)) : Snd mJ7_fill_d0a16 g 6 (bJ7_fill_d0a16_1 g J) := by
  unfold bJ7_fill_d0a16_1
  refine s_iload_n (pc := 6) (i := 3) ?_ dJ7_fill_d0a16_6 rfl
  refine s_iload (pc := 7) (i := 4) ?_ dJ7_fill_d0a16_7
  refine s_icge (pc := 9) (tgt := 22) ?_ ?_ dJ7_fill_d0a16_9 (by decide)
  · skip
    exact s_return (pc := 22) rfl dJ7_fill_d0a16_22
  · skip
    refine s_aload_n (pc := 12) (i := 0) ?_ dJ7_fill_d0a16_12 rfl
    refine s_iload_n (pc := 13) (i := 3) ?_ dJ7_fill_d0a16_13 rfl
    refine s_lload_n (pc := 14) (i := 1) ?_ dJ7_fill_d0a16_14 rfl
    refine s_lastore (pc := 15) ?_ dJ7_fill_d0a16_15
    refine s_iinc (pc := 16) (i := 3) (v := 1) ?_ dJ7_fill_d0a16_16 (by decide) (by decide)
    exact s_goto (pc := 19) (tgt := 6) h1 dJ7_fill_d0a16_19 (by decide)
def jJ7_fill_d0a16 (g : GE) : Nat → Nat → KT
  | 0, _ => fun _ _ _ => none
  | n + 1, 0 => bJ7_fill_d0a16_0 g (jJ7_fill_d0a16 g n)
  | n + 1, 1 => bJ7_fill_d0a16_1 g (jJ7_fill_d0a16 g n)
  | _ + 1, _ + 2 => fun _ _ _ => none
theorem sjJ7_fill_d0a16 (g : GE) : ∀ n, Snd mJ7_fill_d0a16 g 0 (jJ7_fill_d0a16 g n 0) ∧ Snd mJ7_fill_d0a16 g 6 (jJ7_fill_d0a16 g n 1)
  | 0 => ⟨s_none, s_none⟩
  | n + 1 => by
    obtain ⟨-, h1⟩ := sjJ7_fill_d0a16 g n
    exact ⟨sbJ7_fill_d0a16_0 g _ h1, sbJ7_fill_d0a16_1 g _ h1⟩
def kJ7_fill_d0a16 (g : GE) : KT := jJ7_fill_d0a16 g g.1 0
theorem sJ7_fill_d0a16 (g : GE) : Snd mJ7_fill_d0a16 g 0 (kJ7_fill_d0a16 g) := (sjJ7_fill_d0a16 g g.1).1
def fJ7_fill_d0a16 : FT := fun g av w => if (ent av).length ≤ 5 then kJ7_fill_d0a16 g [] (entp 5 av) w else none
theorem tJ7_fill_d0a16 : Mt yJ7_fill_d0a16 cJ7_fill_d0a16 5 none 1 30 fJ7_fill_d0a16 := Mt.of (K := kJ7_fill_d0a16) (by decide +kernel) (fun _ _ _ => rfl) sJ7_fill_d0a16
theorem crJ7_fill_d0a16 : yJ7_fill_d0a16.cls ≠ "java/lang/invoke/MethodHandle" ∧ yJ7_fill_d0a16.cls ≠ "java/lang/invoke/VarHandle" ∧ (parseMethodDescriptor yJ7_fill_d0a16.desc).map (fun d => d.parameters.length) = some 2 := by decide +kernel
theorem dX2_widthOf_0 : decode cX2_widthOf 0 = .ok (.iload_n 1, 1) := by decide +kernel
theorem dX2_widthOf_1 : decode cX2_widthOf 1 = .ok (.ifCond .ne 15, 3) := by decide +kernel
theorem dX2_widthOf_4 : decode cX2_widthOf 4 = .ok (.iload_n 2, 1) := by decide +kernel
theorem dX2_widthOf_5 : decode cX2_widthOf 5 = .ok (.bipush 10, 2) := by decide +kernel
theorem dX2_widthOf_7 : decode cX2_widthOf 7 = .ok (.if_icmp .ge 7, 3) := by decide +kernel
theorem dX2_widthOf_10 : decode cX2_widthOf 10 = .ok (.iconst 1, 1) := by decide +kernel
theorem dX2_widthOf_11 : decode cX2_widthOf 11 = .ok (.goto 4, 3) := by decide +kernel
theorem dX2_widthOf_14 : decode cX2_widthOf 14 = .ok (.iconst 2, 1) := by decide +kernel
theorem dX2_widthOf_15 : decode cX2_widthOf 15 = .ok (.ireturn, 1) := by decide +kernel
theorem dX2_widthOf_16 : decode cX2_widthOf 16 = .ok (.iload_n 1, 1) := by decide +kernel
theorem dX2_widthOf_17 : decode cX2_widthOf 17 = .ok (.iconst 2, 1) := by decide +kernel
theorem dX2_widthOf_18 : decode cX2_widthOf 18 = .ok (.if_icmp .ne 13, 3) := by decide +kernel
theorem dX2_widthOf_21 : decode cX2_widthOf 21 = .ok (.iload_n 2, 1) := by decide +kernel
theorem dX2_widthOf_22 : decode cX2_widthOf 22 = .ok (.ifCond .ne 7, 3) := by decide +kernel
theorem dX2_widthOf_25 : decode cX2_widthOf 25 = .ok (.iconst 2, 1) := by decide +kernel
theorem dX2_widthOf_26 : decode cX2_widthOf 26 = .ok (.goto 4, 3) := by decide +kernel
theorem dX2_widthOf_29 : decode cX2_widthOf 29 = .ok (.iconst 3, 1) := by decide +kernel
theorem dX2_widthOf_30 : decode cX2_widthOf 30 = .ok (.ireturn, 1) := by decide +kernel
theorem dX2_widthOf_31 : decode cX2_widthOf 31 = .ok (.iload_n 2, 1) := by decide +kernel
theorem dX2_widthOf_32 : decode cX2_widthOf 32 = .ok (.ifCond .lt 20, 3) := by decide +kernel
theorem dX2_widthOf_35 : decode cX2_widthOf 35 = .ok (.iload_n 2, 1) := by decide +kernel
theorem dX2_widthOf_36 : decode cX2_widthOf 36 = .ok (.aload_n 0, 1) := by decide +kernel
theorem dX2_widthOf_37 : decode cX2_widthOf 37 = .ok (.getfield 52, 3) := by decide +kernel
theorem dX2_widthOf_40 : decode cX2_widthOf 40 = .ok (.if_icmp .ge 12, 3) := by decide +kernel
theorem dX2_widthOf_43 : decode cX2_widthOf 43 = .ok (.aload_n 0, 1) := by decide +kernel
theorem dX2_widthOf_44 : decode cX2_widthOf 44 = .ok (.getfield 15, 3) := by decide +kernel
theorem dX2_widthOf_47 : decode cX2_widthOf 47 = .ok (.iload_n 2, 1) := by decide +kernel
theorem dX2_widthOf_48 : decode cX2_widthOf 48 = .ok (.iaload, 1) := by decide +kernel
theorem dX2_widthOf_49 : decode cX2_widthOf 49 = .ok (.goto 4, 3) := by decide +kernel
theorem dX2_widthOf_52 : decode cX2_widthOf 52 = .ok (.iconst 0, 1) := by decide +kernel
theorem dX2_widthOf_53 : decode cX2_widthOf 53 = .ok (.ireturn, 1) := by decide +kernel
abbrev mX2_widthOf : MD := (cX2_widthOf, "BlottedDeed$Deed", 3, 1, 30, (some .int), "widthOf", [])
def bX2_widthOf_0 (g : GE) (J : Nat → KT) : KT := i_iload 1 (i_ifne (i_iload 1 (i_push (.int 2) (i_icne (i_iload 2 (i_iflt (i_jmp [false, false, false] (J 3)) (i_iload 2 (i_aload 0 (i_getf 2 9 (i_icge (i_jmp [false, false, false] (J 3)) (i_aload 0 (i_getf 2 1 (i_iload 2 (i_iaload (i_jmp [false, false, false] (J 4)))))))))))) (i_iload 2 (i_ifne (i_push (.int 3) (i_jmp [false, false, false] (J 2))) (i_push (.int 2) (i_jmp [false, false, false] (J 2)))))))) (i_iload 2 (i_push (.int 10) (i_icge (i_push (.int 2) (i_jmp [false, false, false] (J 1))) (i_push (.int 1) (i_jmp [false, false, false] (J 1)))))))
def bX2_widthOf_1 (g : GE) (J : Nat → KT) : KT := i_ireturn
def bX2_widthOf_2 (g : GE) (J : Nat → KT) : KT := i_ireturn
def bX2_widthOf_3 (g : GE) (J : Nat → KT) : KT := i_push (.int 0) (i_jmp [false, false, false] (J 4))
def bX2_widthOf_4 (g : GE) (J : Nat → KT) : KT := i_ireturn
theorem sbX2_widthOf_0 (g : GE) (J : Nat → KT) (h1 : Snd mX2_widthOf g 15 (J 1)) (h2 : Snd mX2_widthOf g 30 (J 2)) (h3 : Snd mX2_widthOf g 52 (J 3)) (h4 : Snd mX2_widthOf g 53 (J 4)) : Snd mX2_widthOf g 0 (bX2_widthOf_0 g J) := by
  unfold bX2_widthOf_0
  refine s_iload_n (pc := 0) (i := 1) ?_ dX2_widthOf_0 rfl
  refine s_ifne (pc := 1) (tgt := 16) ?_ ?_ dX2_widthOf_1 (by decide)
  · skip
    refine s_iload_n (pc := 16) (i := 1) ?_ dX2_widthOf_16 rfl
    refine s_iconst (pc := 17) (v := 2) ?_ dX2_widthOf_17 (by decide)
    refine s_icne (pc := 18) (tgt := 31) ?_ ?_ dX2_widthOf_18 (by decide)
    · skip
      refine s_iload_n (pc := 31) (i := 2) ?_ dX2_widthOf_31 rfl
      refine s_iflt (pc := 32) (tgt := 52) ?_ ?_ dX2_widthOf_32 (by decide)
      · skip
        exact s_fall (pc := 52) h3
      · skip
        refine s_iload_n (pc := 35) (i := 2) ?_ dX2_widthOf_35 rfl
        refine s_aload_n (pc := 36) (i := 0) ?_ dX2_widthOf_36 rfl
        refine s_getf (pc := 37) (ci := 2) (f := 9) (T := TX2) ?_ ginX2 rfl (by decide) wt_130 dX2_widthOf_37
        refine s_icge (pc := 40) (tgt := 52) ?_ ?_ dX2_widthOf_40 (by decide)
        · skip
          exact s_fall (pc := 52) h3
        · skip
          refine s_aload_n (pc := 43) (i := 0) ?_ dX2_widthOf_43 rfl
          refine s_getf (pc := 44) (ci := 2) (f := 1) (T := TX2) ?_ ginX2 rfl (by decide) wt_111 dX2_widthOf_44
          refine s_iload_n (pc := 47) (i := 2) ?_ dX2_widthOf_47 rfl
          refine s_iaload (pc := 48) ?_ dX2_widthOf_48
          exact s_goto (pc := 49) (tgt := 53) h4 dX2_widthOf_49 (by decide)
    · skip
      refine s_iload_n (pc := 21) (i := 2) ?_ dX2_widthOf_21 rfl
      refine s_ifne (pc := 22) (tgt := 29) ?_ ?_ dX2_widthOf_22 (by decide)
      · skip
        refine s_iconst (pc := 29) (v := 3) ?_ dX2_widthOf_29 (by decide)
        exact s_fall (pc := 30) h2
      · skip
        refine s_iconst (pc := 25) (v := 2) ?_ dX2_widthOf_25 (by decide)
        exact s_goto (pc := 26) (tgt := 30) h2 dX2_widthOf_26 (by decide)
  · skip
    refine s_iload_n (pc := 4) (i := 2) ?_ dX2_widthOf_4 rfl
    refine s_bipush (pc := 5) (v := 10) ?_ dX2_widthOf_5 (by decide)
    refine s_icge (pc := 7) (tgt := 14) ?_ ?_ dX2_widthOf_7 (by decide)
    · skip
      refine s_iconst (pc := 14) (v := 2) ?_ dX2_widthOf_14 (by decide)
      exact s_fall (pc := 15) h1
    · skip
      refine s_iconst (pc := 10) (v := 1) ?_ dX2_widthOf_10 (by decide)
      exact s_goto (pc := 11) (tgt := 15) h1 dX2_widthOf_11 (by decide)
theorem sbX2_widthOf_1 (g : GE) (J : Nat → KT) (h1 : Snd mX2_widthOf g 15 (J 1)) (h2 : Snd mX2_widthOf g 30 (J 2)) (h3 : Snd mX2_widthOf g 52 (J 3)) (h4 : Snd mX2_widthOf g 53 (J 4)) : Snd mX2_widthOf g 15 (bX2_widthOf_1 g J) := by
  unfold bX2_widthOf_1
  exact s_ireturn (pc := 15) rfl dX2_widthOf_15
theorem sbX2_widthOf_2 (g : GE) (J : Nat → KT) (h1 : Snd mX2_widthOf g 15 (J 1)) (h2 : Snd mX2_widthOf g 30 (J 2)) (h3 : Snd mX2_widthOf g 52 (J 3)) (h4 : Snd mX2_widthOf g 53 (J 4)) : Snd mX2_widthOf g 30 (bX2_widthOf_2 g J) := by
  unfold bX2_widthOf_2
  exact s_ireturn (pc := 30) rfl dX2_widthOf_30
theorem sbX2_widthOf_3 (g : GE) (J : Nat → KT) (h1 : Snd mX2_widthOf g 15 (J 1)) (h2 : Snd mX2_widthOf g 30 (J 2)) (h3 : Snd mX2_widthOf g 52 (J 3)) (h4 : Snd mX2_widthOf g 53 (J 4)) : Snd mX2_widthOf g 52 (bX2_widthOf_3 g J) := by
  unfold bX2_widthOf_3
  refine s_iconst (pc := 52) (v := 0) ?_ dX2_widthOf_52 (by decide)
  exact s_fall (pc := 53) h4
theorem sbX2_widthOf_4 (g : GE) (J : Nat → KT) (h1 : Snd mX2_widthOf g 15 (J 1)) (h2 : Snd mX2_widthOf g 30 (J 2)) (h3 : Snd mX2_widthOf g 52 (J 3)) (h4 : Snd mX2_widthOf g 53 (J 4)) : Snd mX2_widthOf g 53 (bX2_widthOf_4 g J) := by
  unfold bX2_widthOf_4
  exact s_ireturn (pc := 53) rfl dX2_widthOf_53
def jX2_widthOf (g : GE) : Nat → Nat → KT
  | 0, _ => fun _ _ _ => none
  | n + 1, 0 => bX2_widthOf_0 g (jX2_widthOf g n)
  | n + 1, 1 => bX2_widthOf_1 g (jX2_widthOf g n)
  | n + 1, 2 => bX2_widthOf_2 g (jX2_widthOf g n)
  | n + 1, 3 => bX2_widthOf_3 g (jX2_widthOf g n)
  | n + 1, 4 => bX2_widthOf_4 g (jX2_widthOf g n)
  | _ + 1, _ + 5 => fun _ _ _ => none
theorem sjX2_widthOf (g : GE) : ∀ n, Snd mX2_widthOf g 0 (jX2_widthOf g n 0) ∧ Snd mX2_widthOf g 15 (jX2_widthOf g n 1) ∧ Snd mX2_widthOf g 30 (jX2_widthOf g n 2) ∧ Snd mX2_widthOf g 52 (jX2_widthOf g n 3) ∧ Snd mX2_widthOf g 53 (jX2_widthOf g n 4)
  | 0 => ⟨s_none, s_none, s_none, s_none, s_none⟩
  | n + 1 => by
    obtain ⟨-, h1, h2, h3, h4⟩ := sjX2_widthOf g n
    exact ⟨sbX2_widthOf_0 g _ h1 h2 h3 h4, sbX2_widthOf_1 g _ h1 h2 h3 h4, sbX2_widthOf_2 g _ h1 h2 h3 h4, sbX2_widthOf_3 g _ h1 h2 h3 h4, sbX2_widthOf_4 g _ h1 h2 h3 h4⟩
def kX2_widthOf (g : GE) : KT := jX2_widthOf g g.1 0
theorem sX2_widthOf (g : GE) : Snd mX2_widthOf g 0 (kX2_widthOf g) := (sjX2_widthOf g g.1).1
def fX2_widthOf : FT := fun g av w => if (ent av).length ≤ 3 then kX2_widthOf g [] (entp 3 av) w else none
theorem tX2_widthOf : Mt yX2_widthOf cX2_widthOf 3 (some .int) 1 30 fX2_widthOf := Mt.of (K := kX2_widthOf) (by decide +kernel) (fun _ _ _ => rfl) sX2_widthOf
theorem crX2_widthOf : yX2_widthOf.cls ≠ "java/lang/invoke/MethodHandle" ∧ yX2_widthOf.cls ≠ "java/lang/invoke/VarHandle" ∧ (parseMethodDescriptor yX2_widthOf.desc).map (fun d => d.parameters.length) = some 2 := by decide +kernel
theorem dX1_addValues_0 : decode cX1_addValues 0 = .ok (.iload_n 1, 1) := by decide +kernel
theorem dX1_addValues_1 : decode cX1_addValues 1 = .ok (.istore_n 3, 1) := by decide +kernel
theorem dX1_addValues_2 : decode cX1_addValues 2 = .ok (.iload_n 3, 1) := by decide +kernel
theorem dX1_addValues_3 : decode cX1_addValues 3 = .ok (.iload_n 2, 1) := by decide +kernel
theorem dX1_addValues_4 : decode cX1_addValues 4 = .ok (.if_icmp .gt 41, 3) := by decide +kernel
theorem dX1_addValues_7 : decode cX1_addValues 7 = .ok (.aload_n 0, 1) := by decide +kernel
theorem dX1_addValues_8 : decode cX1_addValues 8 = .ok (.getfield 15, 3) := by decide +kernel
theorem dX1_addValues_11 : decode cX1_addValues 11 = .ok (.aload_n 0, 1) := by decide +kernel
theorem dX1_addValues_12 : decode cX1_addValues 12 = .ok (.getfield 9, 3) := by decide +kernel
theorem dX1_addValues_15 : decode cX1_addValues 15 = .ok (.arraylength, 1) := by decide +kernel
theorem dX1_addValues_16 : decode cX1_addValues 16 = .ok (.if_icmp .ge 29, 3) := by decide +kernel
theorem dX1_addValues_19 : decode cX1_addValues 19 = .ok (.aload_n 0, 1) := by decide +kernel
theorem dX1_addValues_20 : decode cX1_addValues 20 = .ok (.getfield 9, 3) := by decide +kernel
theorem dX1_addValues_23 : decode cX1_addValues 23 = .ok (.aload_n 0, 1) := by decide +kernel
theorem dX1_addValues_24 : decode cX1_addValues 24 = .ok (.getfield 15, 3) := by decide +kernel
theorem dX1_addValues_27 : decode cX1_addValues 27 = .ok (.iload_n 3, 1) := by decide +kernel
theorem dX1_addValues_28 : decode cX1_addValues 28 = .ok (.iastore, 1) := by decide +kernel
theorem dX1_addValues_29 : decode cX1_addValues 29 = .ok (.aload_n 0, 1) := by decide +kernel
theorem dX1_addValues_30 : decode cX1_addValues 30 = .ok (.dup, 1) := by decide +kernel
theorem dX1_addValues_31 : decode cX1_addValues 31 = .ok (.getfield 15, 3) := by decide +kernel
theorem dX1_addValues_34 : decode cX1_addValues 34 = .ok (.iconst 1, 1) := by decide +kernel
theorem dX1_addValues_35 : decode cX1_addValues 35 = .ok (.iadd, 1) := by decide +kernel
theorem dX1_addValues_36 : decode cX1_addValues 36 = .ok (.putfield 15, 3) := by decide +kernel
theorem dX1_addValues_39 : decode cX1_addValues 39 = .ok (.iinc 3 1, 3) := by decide +kernel
theorem dX1_addValues_42 : decode cX1_addValues 42 = .ok (.goto (-40), 3) := by decide +kernel
theorem dX1_addValues_45 : decode cX1_addValues 45 = .ok (.return_, 1) := by decide +kernel
abbrev mX1_addValues : MD := (cX1_addValues, "BlottedDeed$Blot", 4, 1, 30, none, "addValues", [])
def bX1_addValues_0 (g : GE) (J : Nat → KT) : KT := i_iload 1 (i_istore 3 (i_jmp [true, false, true, true] (J 1)))
def bX1_addValues_1 (g : GE) (J : Nat → KT) : KT := i_iload 3 (i_iload 2 (i_icgt (i_jmp [false, false, false, false] (J 2)) (i_aload 0 (i_getf 1 1 (i_aload 0 (i_getf 1 0 (i_alen 0 (i_icge (i_jmp [false, false, false, false] (J 2)) (i_aload 0 (i_getf 1 0 (i_aload 0 (i_getf 1 1 (i_iload 3 (i_iastore (i_aload 0 (i_dup (i_getf 1 1 (i_push (.int 1) (i_iadd (i_putf 1 1 .int (i_iinc 3 1 (i_jmp [true, false, true, true] (J 1)))))))))))))))))))))))
def bX1_addValues_2 (g : GE) (J : Nat → KT) : KT := i_return
theorem sbX1_addValues_0 (g : GE) (J : Nat → KT) (h1 : Snd mX1_addValues g 2 (J 1)) (h2 : Snd mX1_addValues g 45 (J 2)) : Snd mX1_addValues g 0 (bX1_addValues_0 g J) := by
  unfold bX1_addValues_0
  refine s_iload_n (pc := 0) (i := 1) ?_ dX1_addValues_0 rfl
  refine s_istore_n (pc := 1) (i := 3) ?_ dX1_addValues_1 rfl (by decide)
  exact s_fall (pc := 2) h1
theorem sbX1_addValues_1 (g : GE) (J : Nat → KT) (h1 : Snd mX1_addValues g 2 (J 1)) (h2 : Snd mX1_addValues g 45 (J 2)) : Snd mX1_addValues g 2 (bX1_addValues_1 g J) := by
  unfold bX1_addValues_1
  refine s_iload_n (pc := 2) (i := 3) ?_ dX1_addValues_2 rfl
  refine s_iload_n (pc := 3) (i := 2) ?_ dX1_addValues_3 rfl
  refine s_icgt (pc := 4) (tgt := 45) ?_ ?_ dX1_addValues_4 (by decide)
  · skip
    exact s_fall (pc := 45) h2
  · skip
    refine s_aload_n (pc := 7) (i := 0) ?_ dX1_addValues_7 rfl
    refine s_getf (pc := 8) (ci := 1) (f := 1) (T := TX1) ?_ ginX1 rfl (by decide) wt_81 dX1_addValues_8
    refine s_aload_n (pc := 11) (i := 0) ?_ dX1_addValues_11 rfl
    refine s_getf (pc := 12) (ci := 1) (f := 0) (T := TX1) ?_ ginX1 rfl (by decide) wt_75 dX1_addValues_12
    refine s_alen (pc := 15) (t := 0) ?_ (by decide) dX1_addValues_15
    refine s_icge (pc := 16) (tgt := 45) ?_ ?_ dX1_addValues_16 (by decide)
    · skip
      exact s_fall (pc := 45) h2
    · skip
      refine s_aload_n (pc := 19) (i := 0) ?_ dX1_addValues_19 rfl
      refine s_getf (pc := 20) (ci := 1) (f := 0) (T := TX1) ?_ ginX1 rfl (by decide) wt_75 dX1_addValues_20
      refine s_aload_n (pc := 23) (i := 0) ?_ dX1_addValues_23 rfl
      refine s_getf (pc := 24) (ci := 1) (f := 1) (T := TX1) ?_ ginX1 rfl (by decide) wt_81 dX1_addValues_24
      refine s_iload_n (pc := 27) (i := 3) ?_ dX1_addValues_27 rfl
      refine s_iastore (pc := 28) ?_ dX1_addValues_28
      refine s_aload_n (pc := 29) (i := 0) ?_ dX1_addValues_29 rfl
      refine s_dup (pc := 30) ?_ dX1_addValues_30
      refine s_getf (pc := 31) (ci := 1) (f := 1) (T := TX1) ?_ ginX1 rfl (by decide) wt_81 dX1_addValues_31
      refine s_iconst (pc := 34) (v := 1) ?_ dX1_addValues_34 (by decide)
      refine s_iadd (pc := 35) ?_ dX1_addValues_35
      refine s_putf (pc := 36) (ci := 1) (f := 1) (T := TX1) (ty0 := tyX1) ?_ ginX1 tyX1_ok nmX1 rfl (by decide) rfl rfl wt_81 dX1_addValues_36
      refine s_iinc (pc := 39) (i := 3) (v := 1) ?_ dX1_addValues_39 (by decide) (by decide)
      exact s_goto (pc := 42) (tgt := 2) h1 dX1_addValues_42 (by decide)
theorem sbX1_addValues_2 (g : GE) (J : Nat → KT) (h1 : Snd mX1_addValues g 2 (J 1)) (h2 : Snd mX1_addValues g 45 (J 2)) : Snd mX1_addValues g 45 (bX1_addValues_2 g J) := by
  unfold bX1_addValues_2
  exact s_return (pc := 45) rfl dX1_addValues_45
def jX1_addValues (g : GE) : Nat → Nat → KT
  | 0, _ => fun _ _ _ => none
  | n + 1, 0 => bX1_addValues_0 g (jX1_addValues g n)
  | n + 1, 1 => bX1_addValues_1 g (jX1_addValues g n)
  | n + 1, 2 => bX1_addValues_2 g (jX1_addValues g n)
  | _ + 1, _ + 3 => fun _ _ _ => none
theorem sjX1_addValues (g : GE) : ∀ n, Snd mX1_addValues g 0 (jX1_addValues g n 0) ∧ Snd mX1_addValues g 2 (jX1_addValues g n 1) ∧ Snd mX1_addValues g 45 (jX1_addValues g n 2)
  | 0 => ⟨s_none, s_none, s_none⟩
  | n + 1 => by
    obtain ⟨-, h1, h2⟩ := sjX1_addValues g n
    exact ⟨sbX1_addValues_0 g _ h1 h2, sbX1_addValues_1 g _ h1 h2, sbX1_addValues_2 g _ h1 h2⟩
def kX1_addValues (g : GE) : KT := jX1_addValues g g.1 0
theorem sX1_addValues (g : GE) : Snd mX1_addValues g 0 (kX1_addValues g) := (sjX1_addValues g g.1).1
def fX1_addValues : FT := fun g av w => if (ent av).length ≤ 4 then kX1_addValues g [] (entp 4 av) w else none
theorem tX1_addValues : Mt yX1_addValues cX1_addValues 4 none 1 30 fX1_addValues := Mt.of (K := kX1_addValues) (by decide +kernel) (fun _ _ _ => rfl) sX1_addValues
theorem crX1_addValues : yX1_addValues.cls ≠ "java/lang/invoke/MethodHandle" ∧ yX1_addValues.cls ≠ "java/lang/invoke/VarHandle" ∧ (parseMethodDescriptor yX1_addValues.desc).map (fun d => d.parameters.length) = some 2 := by decide +kernel
theorem dX2_fill_0 : decode cX2_fill 0 = .ok (.aload_n 1, 1) := by decide +kernel
theorem dX2_fill_1 : decode cX2_fill 1 = .ok (.iload_n 2, 1) := by decide +kernel
theorem dX2_fill_2 : decode cX2_fill 2 = .ok (.putfield 92, 3) := by decide +kernel
theorem dX2_fill_5 : decode cX2_fill 5 = .ok (.aload_n 1, 1) := by decide +kernel
theorem dX2_fill_6 : decode cX2_fill 6 = .ok (.iload_n 3, 1) := by decide +kernel
theorem dX2_fill_7 : decode cX2_fill 7 = .ok (.putfield 95, 3) := by decide +kernel
theorem dX2_fill_10 : decode cX2_fill 10 = .ok (.aload_n 1, 1) := by decide +kernel
theorem dX2_fill_11 : decode cX2_fill 11 = .ok (.iconst 0, 1) := by decide +kernel
theorem dX2_fill_12 : decode cX2_fill 12 = .ok (.putfield 98, 3) := by decide +kernel
theorem dX2_fill_15 : decode cX2_fill 15 = .ok (.iload_n 2, 1) := by decide +kernel
theorem dX2_fill_16 : decode cX2_fill 16 = .ok (.iconst 1, 1) := by decide +kernel
theorem dX2_fill_17 : decode cX2_fill 17 = .ok (.if_icmp .ne 47, 3) := by decide +kernel
theorem dX2_fill_20 : decode cX2_fill 20 = .ok (.iconst 0, 1) := by decide +kernel
theorem dX2_fill_21 : decode cX2_fill 21 = .ok (.istore 4, 2) := by decide +kernel
theorem dX2_fill_23 : decode cX2_fill 23 = .ok (.iload 4, 2) := by decide +kernel
theorem dX2_fill_25 : decode cX2_fill 25 = .ok (.aload_n 0, 1) := by decide +kernel
theorem dX2_fill_26 : decode cX2_fill 26 = .ok (.getfield 52, 3) := by decide +kernel
theorem dX2_fill_29 : decode cX2_fill 29 = .ok (.if_icmp .ge 32, 3) := by decide +kernel
theorem dX2_fill_32 : decode cX2_fill 32 = .ok (.iload_n 3, 1) := by decide +kernel
theorem dX2_fill_33 : decode cX2_fill 33 = .ok (.ifCond .eq 14, 3) := by decide +kernel
theorem dX2_fill_36 : decode cX2_fill 36 = .ok (.iload_n 3, 1) := by decide +kernel
theorem dX2_fill_37 : decode cX2_fill 37 = .ok (.aload_n 0, 1) := by decide +kernel
theorem dX2_fill_38 : decode cX2_fill 38 = .ok (.getfield 15, 3) := by decide +kernel
theorem dX2_fill_41 : decode cX2_fill 41 = .ok (.iload 4, 2) := by decide +kernel
theorem dX2_fill_43 : decode cX2_fill 43 = .ok (.iaload, 1) := by decide +kernel
theorem dX2_fill_44 : decode cX2_fill 44 = .ok (.if_icmp .ne 11, 3) := by decide +kernel
theorem dX2_fill_47 : decode cX2_fill 47 = .ok (.aload_n 1, 1) := by decide +kernel
theorem dX2_fill_48 : decode cX2_fill 48 = .ok (.iload 4, 2) := by decide +kernel
theorem dX2_fill_50 : decode cX2_fill 50 = .ok (.iload 4, 2) := by decide +kernel
theorem dX2_fill_52 : decode cX2_fill 52 = .ok (.invokevirtual 101, 3) := by decide +kernel
theorem dX2_fill_55 : decode cX2_fill 55 = .ok (.iinc 4 1, 3) := by decide +kernel
theorem dX2_fill_58 : decode cX2_fill 58 = .ok (.goto (-35), 3) := by decide +kernel
theorem dX2_fill_61 : decode cX2_fill 61 = .ok (.goto 85, 3) := by decide +kernel
theorem dX2_fill_64 : decode cX2_fill 64 = .ok (.iload_n 2, 1) := by decide +kernel
theorem dX2_fill_65 : decode cX2_fill 65 = .ok (.ifCond .ne 38, 3) := by decide +kernel
theorem dX2_fill_68 : decode cX2_fill 68 = .ok (.iload_n 3, 1) := by decide +kernel
theorem dX2_fill_69 : decode cX2_fill 69 = .ok (.iconst 2, 1) := by decide +kernel
theorem dX2_fill_70 : decode cX2_fill 70 = .ok (.if_icmp .gt 33, 3) := by decide +kernel
theorem dX2_fill_73 : decode cX2_fill 73 = .ok (.aload_n 1, 1) := by decide +kernel
theorem dX2_fill_74 : decode cX2_fill 74 = .ok (.iload_n 3, 1) := by decide +kernel
theorem dX2_fill_75 : decode cX2_fill 75 = .ok (.iconst 2, 1) := by decide +kernel
theorem dX2_fill_76 : decode cX2_fill 76 = .ok (.if_icmp .ne 8, 3) := by decide +kernel
theorem dX2_fill_79 : decode cX2_fill 79 = .ok (.bipush 10, 2) := by decide +kernel
theorem dX2_fill_81 : decode cX2_fill 81 = .ok (.goto 4, 3) := by decide +kernel
theorem dX2_fill_84 : decode cX2_fill 84 = .ok (.iconst 0, 1) := by decide +kernel
theorem dX2_fill_85 : decode cX2_fill 85 = .ok (.iload_n 3, 1) := by decide +kernel
theorem dX2_fill_86 : decode cX2_fill 86 = .ok (.iconst 1, 1) := by decide +kernel
theorem dX2_fill_87 : decode cX2_fill 87 = .ok (.if_icmp .ne 8, 3) := by decide +kernel
theorem dX2_fill_90 : decode cX2_fill 90 = .ok (.bipush 9, 2) := by decide +kernel
theorem dX2_fill_92 : decode cX2_fill 92 = .ok (.goto 5, 3) := by decide +kernel
theorem dX2_fill_95 : decode cX2_fill 95 = .ok (.bipush 99, 2) := by decide +kernel
theorem dX2_fill_97 : decode cX2_fill 97 = .ok (.invokevirtual 101, 3) := by decide +kernel
theorem dX2_fill_100 : decode cX2_fill 100 = .ok (.goto 46, 3) := by decide +kernel
theorem dX2_fill_103 : decode cX2_fill 103 = .ok (.iload_n 2, 1) := by decide +kernel
theorem dX2_fill_104 : decode cX2_fill 104 = .ok (.iconst 2, 1) := by decide +kernel
theorem dX2_fill_105 : decode cX2_fill 105 = .ok (.if_icmp .ne 41, 3) := by decide +kernel
theorem dX2_fill_108 : decode cX2_fill 108 = .ok (.iload_n 3, 1) := by decide +kernel
theorem dX2_fill_109 : decode cX2_fill 109 = .ok (.ifCond .eq 13, 3) := by decide +kernel
theorem dX2_fill_112 : decode cX2_fill 112 = .ok (.iload_n 3, 1) := by decide +kernel
theorem dX2_fill_113 : decode cX2_fill 113 = .ok (.iconst 2, 1) := by decide +kernel
theorem dX2_fill_114 : decode cX2_fill 114 = .ok (.if_icmp .eq 8, 3) := by decide +kernel
theorem dX2_fill_117 : decode cX2_fill 117 = .ok (.iload_n 3, 1) := by decide +kernel
theorem dX2_fill_118 : decode cX2_fill 118 = .ok (.iconst 3, 1) := by decide +kernel
theorem dX2_fill_119 : decode cX2_fill 119 = .ok (.if_icmp .ne 27, 3) := by decide +kernel
theorem dX2_fill_122 : decode cX2_fill 122 = .ok (.aload_n 1, 1) := by decide +kernel
theorem dX2_fill_123 : decode cX2_fill 123 = .ok (.iload_n 3, 1) := by decide +kernel
theorem dX2_fill_124 : decode cX2_fill 124 = .ok (.iconst 3, 1) := by decide +kernel
theorem dX2_fill_125 : decode cX2_fill 125 = .ok (.if_icmp .ne 7, 3) := by decide +kernel
theorem dX2_fill_128 : decode cX2_fill 128 = .ok (.iconst 1, 1) := by decide +kernel
theorem dX2_fill_129 : decode cX2_fill 129 = .ok (.goto 4, 3) := by decide +kernel
theorem dX2_fill_132 : decode cX2_fill 132 = .ok (.iconst 0, 1) := by decide +kernel
theorem dX2_fill_133 : decode cX2_fill 133 = .ok (.iload_n 3, 1) := by decide +kernel
theorem dX2_fill_134 : decode cX2_fill 134 = .ok (.iconst 2, 1) := by decide +kernel
theorem dX2_fill_135 : decode cX2_fill 135 = .ok (.if_icmp .ne 7, 3) := by decide +kernel
theorem dX2_fill_138 : decode cX2_fill 138 = .ok (.iconst 0, 1) := by decide +kernel
theorem dX2_fill_139 : decode cX2_fill 139 = .ok (.goto 4, 3) := by decide +kernel
theorem dX2_fill_142 : decode cX2_fill 142 = .ok (.iconst 1, 1) := by decide +kernel
theorem dX2_fill_143 : decode cX2_fill 143 = .ok (.invokevirtual 101, 3) := by decide +kernel
theorem dX2_fill_146 : decode cX2_fill 146 = .ok (.return_, 1) := by decide +kernel
abbrev mX2_fill : MD := (cX2_fill, "BlottedDeed$Deed", 5, 2, 53, none, "fill", [])
def bX2_fill_0 (g : GE) (J : Nat → KT) : KT := i_aload 1 (i_iload 2 (i_putf 1 2 .int (i_aload 1 (i_iload 3 (i_putf 1 3 .int (i_aload 1 (i_push (.int 0) (i_putf 1 1 .int (i_iload 2 (i_push (.int 1) (i_icne (i_iload 2 (i_ifne (i_jmp [false, true, true, true, false] (J 6)) (i_iload 3 (i_push (.int 2) (i_icgt (i_jmp [false, true, true, true, false] (J 6)) (i_aload 1 (i_iload 3 (i_push (.int 2) (i_icne (i_push (.int 0) (i_jmp [false, false, false, true, false] (J 4))) (i_push (.int 10) (i_jmp [false, false, false, true, false] (J 4)))))))))))) (i_push (.int 0) (i_istore 4 (i_jmp [true, true, false, true, true] (J 1)))))))))))))))
def bX2_fill_1 (g : GE) (J : Nat → KT) : KT := i_iload 4 (i_aload 0 (i_getf 2 9 (i_icge (i_jmp [false, false, false, false, false] (J 10)) (i_iload 3 (i_ifeq (i_jmp [true, true, false, true, true] (J 2)) (i_iload 3 (i_aload 0 (i_getf 2 1 (i_iload 4 (i_iaload (i_icne (i_jmp [true, true, false, true, true] (J 3)) (i_jmp [true, true, false, true, true] (J 2)))))))))))))
def bX2_fill_2 (g : GE) (J : Nat → KT) : KT := i_aload 1 (i_iload 4 (i_iload 4 (i_cv fX1_addValues g 2 1 (i_jmp [true, true, false, true, true] (J 3)))))
def bX2_fill_3 (g : GE) (J : Nat → KT) : KT := i_iinc 4 1 (i_jmp [true, true, false, true, true] (J 1))
def bX2_fill_4 (g : GE) (J : Nat → KT) : KT := i_iload 3 (i_push (.int 1) (i_icne (i_push (.int 99) (i_jmp [false, false, false, false, false] (J 5))) (i_push (.int 9) (i_jmp [false, false, false, false, false] (J 5)))))
def bX2_fill_5 (g : GE) (J : Nat → KT) : KT := i_cv fX1_addValues g 2 1 (i_jmp [false, false, false, false, false] (J 10))
def bX2_fill_6 (g : GE) (J : Nat → KT) : KT := i_iload 2 (i_push (.int 2) (i_icne (i_jmp [false, false, false, false, false] (J 10)) (i_iload 3 (i_ifeq (i_jmp [false, true, false, true, false] (J 7)) (i_iload 3 (i_push (.int 2) (i_iceq (i_jmp [false, true, false, true, false] (J 7)) (i_iload 3 (i_push (.int 3) (i_icne (i_jmp [false, false, false, false, false] (J 10)) (i_jmp [false, true, false, true, false] (J 7))))))))))))
def bX2_fill_7 (g : GE) (J : Nat → KT) : KT := i_aload 1 (i_iload 3 (i_push (.int 3) (i_icne (i_push (.int 0) (i_jmp [false, false, false, true, false] (J 8))) (i_push (.int 1) (i_jmp [false, false, false, true, false] (J 8))))))
def bX2_fill_8 (g : GE) (J : Nat → KT) : KT := i_iload 3 (i_push (.int 2) (i_icne (i_push (.int 1) (i_jmp [false, false, false, false, false] (J 9))) (i_push (.int 0) (i_jmp [false, false, false, false, false] (J 9)))))
def bX2_fill_9 (g : GE) (J : Nat → KT) : KT := i_cv fX1_addValues g 2 1 (i_jmp [false, false, false, false, false] (J 10))
def bX2_fill_10 (g : GE) (J : Nat → KT) : KT := i_return
theorem sbX2_fill_0 (g : GE) (J : Nat → KT) (h1 : Snd mX2_fill g 23 (J 1)) (h2 : Snd mX2_fill g 47 (J 2)) (h3 : Snd mX2_fill g 55 (J 3)) (h4 : Snd mX2_fill g 85 (J 4)) (h5 : Snd mX2_fill g 97 (J 5)) (h6 : Snd mX2_fill g 103 (J 6)) (h7 : Snd mX2_fill g 122 (J 7)) (h8 : Snd mX2_fill g 133 (J 8)) (h9 : Snd mX2_fill g 143 (J 9)) (h10 : Snd mX2_fill g 146 (J 10)) : Snd mX2_fill g 0 (bX2_fill_0 g J) := by
  unfold bX2_fill_0
  refine s_aload_n (pc := 0) (i := 1) ?_ dX2_fill_0 rfl
  refine s_iload_n (pc := 1) (i := 2) ?_ dX2_fill_1 rfl
  refine s_putf (pc := 2) (ci := 1) (f := 2) (T := TX1) (ty0 := tyX1) ?_ ginX1 tyX1_ok nmX1 rfl (by decide) rfl rfl wt_90 dX2_fill_2
  refine s_aload_n (pc := 5) (i := 1) ?_ dX2_fill_5 rfl
  refine s_iload_n (pc := 6) (i := 3) ?_ dX2_fill_6 rfl
  refine s_putf (pc := 7) (ci := 1) (f := 3) (T := TX1) (ty0 := tyX1) ?_ ginX1 tyX1_ok nmX1 rfl (by decide) rfl rfl wt_92 dX2_fill_7
  refine s_aload_n (pc := 10) (i := 1) ?_ dX2_fill_10 rfl
  refine s_iconst (pc := 11) (v := 0) ?_ dX2_fill_11 (by decide)
  refine s_putf (pc := 12) (ci := 1) (f := 1) (T := TX1) (ty0 := tyX1) ?_ ginX1 tyX1_ok nmX1 rfl (by decide) rfl rfl wt_86 dX2_fill_12
  refine s_iload_n (pc := 15) (i := 2) ?_ dX2_fill_15 rfl
  refine s_iconst (pc := 16) (v := 1) ?_ dX2_fill_16 (by decide)
  refine s_icne (pc := 17) (tgt := 64) ?_ ?_ dX2_fill_17 (by decide)
  · skip
    refine s_iload_n (pc := 64) (i := 2) ?_ dX2_fill_64 rfl
    refine s_ifne (pc := 65) (tgt := 103) ?_ ?_ dX2_fill_65 (by decide)
    · skip
      exact s_fall (pc := 103) h6
    · skip
      refine s_iload_n (pc := 68) (i := 3) ?_ dX2_fill_68 rfl
      refine s_iconst (pc := 69) (v := 2) ?_ dX2_fill_69 (by decide)
      refine s_icgt (pc := 70) (tgt := 103) ?_ ?_ dX2_fill_70 (by decide)
      · skip
        exact s_fall (pc := 103) h6
      · skip
        refine s_aload_n (pc := 73) (i := 1) ?_ dX2_fill_73 rfl
        refine s_iload_n (pc := 74) (i := 3) ?_ dX2_fill_74 rfl
        refine s_iconst (pc := 75) (v := 2) ?_ dX2_fill_75 (by decide)
        refine s_icne (pc := 76) (tgt := 84) ?_ ?_ dX2_fill_76 (by decide)
        · skip
          refine s_iconst (pc := 84) (v := 0) ?_ dX2_fill_84 (by decide)
          exact s_fall (pc := 85) h4
        · skip
          refine s_bipush (pc := 79) (v := 10) ?_ dX2_fill_79 (by decide)
          exact s_goto (pc := 81) (tgt := 85) h4 dX2_fill_81 (by decide)
  · skip
    refine s_iconst (pc := 20) (v := 0) ?_ dX2_fill_20 (by decide)
    refine s_istore (pc := 21) (i := 4) ?_ dX2_fill_21 (by decide)
    exact s_fall (pc := 23) h1
theorem sbX2_fill_1 (g : GE) (J : Nat → KT) (h1 : Snd mX2_fill g 23 (J 1)) (h2 : Snd mX2_fill g 47 (J 2)) (h3 : Snd mX2_fill g 55 (J 3)) (h4 : Snd mX2_fill g 85 (J 4)) (h5 : Snd mX2_fill g 97 (J 5)) (h6 : Snd mX2_fill g 103 (J 6)) (h7 : Snd mX2_fill g 122 (J 7)) (h8 : Snd mX2_fill g 133 (J 8)) (h9 : Snd mX2_fill g 143 (J 9)) (h10 : Snd mX2_fill g 146 (J 10)) : Snd mX2_fill g 23 (bX2_fill_1 g J) := by
  unfold bX2_fill_1
  refine s_iload (pc := 23) (i := 4) ?_ dX2_fill_23
  refine s_aload_n (pc := 25) (i := 0) ?_ dX2_fill_25 rfl
  refine s_getf (pc := 26) (ci := 2) (f := 9) (T := TX2) ?_ ginX2 rfl (by decide) wt_130 dX2_fill_26
  refine s_icge (pc := 29) (tgt := 61) ?_ ?_ dX2_fill_29 (by decide)
  · skip
    exact s_goto (pc := 61) (tgt := 146) h10 dX2_fill_61 (by decide)
  · skip
    refine s_iload_n (pc := 32) (i := 3) ?_ dX2_fill_32 rfl
    refine s_ifeq (pc := 33) (tgt := 47) ?_ ?_ dX2_fill_33 (by decide)
    · skip
      exact s_fall (pc := 47) h2
    · skip
      refine s_iload_n (pc := 36) (i := 3) ?_ dX2_fill_36 rfl
      refine s_aload_n (pc := 37) (i := 0) ?_ dX2_fill_37 rfl
      refine s_getf (pc := 38) (ci := 2) (f := 1) (T := TX2) ?_ ginX2 rfl (by decide) wt_111 dX2_fill_38
      refine s_iload (pc := 41) (i := 4) ?_ dX2_fill_41
      refine s_iaload (pc := 43) ?_ dX2_fill_43
      refine s_icne (pc := 44) (tgt := 55) ?_ ?_ dX2_fill_44 (by decide)
      · skip
        exact s_fall (pc := 55) h3
      · skip
        exact s_fall (pc := 47) h2
theorem sbX2_fill_2 (g : GE) (J : Nat → KT) (h1 : Snd mX2_fill g 23 (J 1)) (h2 : Snd mX2_fill g 47 (J 2)) (h3 : Snd mX2_fill g 55 (J 3)) (h4 : Snd mX2_fill g 85 (J 4)) (h5 : Snd mX2_fill g 97 (J 5)) (h6 : Snd mX2_fill g 103 (J 6)) (h7 : Snd mX2_fill g 122 (J 7)) (h8 : Snd mX2_fill g 133 (J 8)) (h9 : Snd mX2_fill g 143 (J 9)) (h10 : Snd mX2_fill g 146 (J 10)) : Snd mX2_fill g 47 (bX2_fill_2 g J) := by
  unfold bX2_fill_2
  refine s_aload_n (pc := 47) (i := 1) ?_ dX2_fill_47 rfl
  refine s_iload (pc := 48) (i := 4) ?_ dX2_fill_48
  refine s_iload (pc := 50) (i := 4) ?_ dX2_fill_50
  refine s_cv (pc := 52) (n := 2) (ci := 1) ?_ tX1_addValues rfl rfl wt_875 wt_876 wt_877 wt_6 wt_878 ⟨crX1_addValues, by decide, by decide⟩ dX2_fill_52
  exact s_fall (pc := 55) h3
theorem sbX2_fill_3 (g : GE) (J : Nat → KT) (h1 : Snd mX2_fill g 23 (J 1)) (h2 : Snd mX2_fill g 47 (J 2)) (h3 : Snd mX2_fill g 55 (J 3)) (h4 : Snd mX2_fill g 85 (J 4)) (h5 : Snd mX2_fill g 97 (J 5)) (h6 : Snd mX2_fill g 103 (J 6)) (h7 : Snd mX2_fill g 122 (J 7)) (h8 : Snd mX2_fill g 133 (J 8)) (h9 : Snd mX2_fill g 143 (J 9)) (h10 : Snd mX2_fill g 146 (J 10)) : Snd mX2_fill g 55 (bX2_fill_3 g J) := by
  unfold bX2_fill_3
  refine s_iinc (pc := 55) (i := 4) (v := 1) ?_ dX2_fill_55 (by decide) (by decide)
  exact s_goto (pc := 58) (tgt := 23) h1 dX2_fill_58 (by decide)
theorem sbX2_fill_4 (g : GE) (J : Nat → KT) (h1 : Snd mX2_fill g 23 (J 1)) (h2 : Snd mX2_fill g 47 (J 2)) (h3 : Snd mX2_fill g 55 (J 3)) (h4 : Snd mX2_fill g 85 (J 4)) (h5 : Snd mX2_fill g 97 (J 5)) (h6 : Snd mX2_fill g 103 (J 6)) (h7 : Snd mX2_fill g 122 (J 7)) (h8 : Snd mX2_fill g 133 (J 8)) (h9 : Snd mX2_fill g 143 (J 9)) (h10 : Snd mX2_fill g 146 (J 10)) : Snd mX2_fill g 85 (bX2_fill_4 g J) := by
  unfold bX2_fill_4
  refine s_iload_n (pc := 85) (i := 3) ?_ dX2_fill_85 rfl
  refine s_iconst (pc := 86) (v := 1) ?_ dX2_fill_86 (by decide)
  refine s_icne (pc := 87) (tgt := 95) ?_ ?_ dX2_fill_87 (by decide)
  · skip
    refine s_bipush (pc := 95) (v := 99) ?_ dX2_fill_95 (by decide)
    exact s_fall (pc := 97) h5
  · skip
    refine s_bipush (pc := 90) (v := 9) ?_ dX2_fill_90 (by decide)
    exact s_goto (pc := 92) (tgt := 97) h5 dX2_fill_92 (by decide)
theorem sbX2_fill_5 (g : GE) (J : Nat → KT) (h1 : Snd mX2_fill g 23 (J 1)) (h2 : Snd mX2_fill g 47 (J 2)) (h3 : Snd mX2_fill g 55 (J 3)) (h4 : Snd mX2_fill g 85 (J 4)) (h5 : Snd mX2_fill g 97 (J 5)) (h6 : Snd mX2_fill g 103 (J 6)) (h7 : Snd mX2_fill g 122 (J 7)) (h8 : Snd mX2_fill g 133 (J 8)) (h9 : Snd mX2_fill g 143 (J 9)) (h10 : Snd mX2_fill g 146 (J 10)) : Snd mX2_fill g 97 (bX2_fill_5 g J) := by
  unfold bX2_fill_5
  refine s_cv (pc := 97) (n := 2) (ci := 1) ?_ tX1_addValues rfl rfl wt_875 wt_876 wt_877 wt_6 wt_878 ⟨crX1_addValues, by decide, by decide⟩ dX2_fill_97
  exact s_goto (pc := 100) (tgt := 146) h10 dX2_fill_100 (by decide)
theorem sbX2_fill_6 (g : GE) (J : Nat → KT) (h1 : Snd mX2_fill g 23 (J 1)) (h2 : Snd mX2_fill g 47 (J 2)) (h3 : Snd mX2_fill g 55 (J 3)) (h4 : Snd mX2_fill g 85 (J 4)) (h5 : Snd mX2_fill g 97 (J 5)) (h6 : Snd mX2_fill g 103 (J 6)) (h7 : Snd mX2_fill g 122 (J 7)) (h8 : Snd mX2_fill g 133 (J 8)) (h9 : Snd mX2_fill g 143 (J 9)) (h10 : Snd mX2_fill g 146 (J 10)) : Snd mX2_fill g 103 (bX2_fill_6 g J) := by
  unfold bX2_fill_6
  refine s_iload_n (pc := 103) (i := 2) ?_ dX2_fill_103 rfl
  refine s_iconst (pc := 104) (v := 2) ?_ dX2_fill_104 (by decide)
  refine s_icne (pc := 105) (tgt := 146) ?_ ?_ dX2_fill_105 (by decide)
  · skip
    exact s_fall (pc := 146) h10
  · skip
    refine s_iload_n (pc := 108) (i := 3) ?_ dX2_fill_108 rfl
    refine s_ifeq (pc := 109) (tgt := 122) ?_ ?_ dX2_fill_109 (by decide)
    · skip
      exact s_fall (pc := 122) h7
    · skip
      refine s_iload_n (pc := 112) (i := 3) ?_ dX2_fill_112 rfl
      refine s_iconst (pc := 113) (v := 2) ?_ dX2_fill_113 (by decide)
      refine s_iceq (pc := 114) (tgt := 122) ?_ ?_ dX2_fill_114 (by decide)
      · skip
        exact s_fall (pc := 122) h7
      · skip
        refine s_iload_n (pc := 117) (i := 3) ?_ dX2_fill_117 rfl
        refine s_iconst (pc := 118) (v := 3) ?_ dX2_fill_118 (by decide)
        refine s_icne (pc := 119) (tgt := 146) ?_ ?_ dX2_fill_119 (by decide)
        · skip
          exact s_fall (pc := 146) h10
        · skip
          exact s_fall (pc := 122) h7
theorem sbX2_fill_7 (g : GE) (J : Nat → KT) (h1 : Snd mX2_fill g 23 (J 1)) (h2 : Snd mX2_fill g 47 (J 2)) (h3 : Snd mX2_fill g 55 (J 3)) (h4 : Snd mX2_fill g 85 (J 4)) (h5 : Snd mX2_fill g 97 (J 5)) (h6 : Snd mX2_fill g 103 (J 6)) (h7 : Snd mX2_fill g 122 (J 7)) (h8 : Snd mX2_fill g 133 (J 8)) (h9 : Snd mX2_fill g 143 (J 9)) (h10 : Snd mX2_fill g 146 (J 10)) : Snd mX2_fill g 122 (bX2_fill_7 g J) := by
  unfold bX2_fill_7
  refine s_aload_n (pc := 122) (i := 1) ?_ dX2_fill_122 rfl
  refine s_iload_n (pc := 123) (i := 3) ?_ dX2_fill_123 rfl
  refine s_iconst (pc := 124) (v := 3) ?_ dX2_fill_124 (by decide)
  refine s_icne (pc := 125) (tgt := 132) ?_ ?_ dX2_fill_125 (by decide)
  · skip
    refine s_iconst (pc := 132) (v := 0) ?_ dX2_fill_132 (by decide)
    exact s_fall (pc := 133) h8
  · skip
    refine s_iconst (pc := 128) (v := 1) ?_ dX2_fill_128 (by decide)
    exact s_goto (pc := 129) (tgt := 133) h8 dX2_fill_129 (by decide)
theorem sbX2_fill_8 (g : GE) (J : Nat → KT) (h1 : Snd mX2_fill g 23 (J 1)) (h2 : Snd mX2_fill g 47 (J 2)) (h3 : Snd mX2_fill g 55 (J 3)) (h4 : Snd mX2_fill g 85 (J 4)) (h5 : Snd mX2_fill g 97 (J 5)) (h6 : Snd mX2_fill g 103 (J 6)) (h7 : Snd mX2_fill g 122 (J 7)) (h8 : Snd mX2_fill g 133 (J 8)) (h9 : Snd mX2_fill g 143 (J 9)) (h10 : Snd mX2_fill g 146 (J 10)) : Snd mX2_fill g 133 (bX2_fill_8 g J) := by
  unfold bX2_fill_8
  refine s_iload_n (pc := 133) (i := 3) ?_ dX2_fill_133 rfl
  refine s_iconst (pc := 134) (v := 2) ?_ dX2_fill_134 (by decide)
  refine s_icne (pc := 135) (tgt := 142) ?_ ?_ dX2_fill_135 (by decide)
  · skip
    refine s_iconst (pc := 142) (v := 1) ?_ dX2_fill_142 (by decide)
    exact s_fall (pc := 143) h9
  · skip
    refine s_iconst (pc := 138) (v := 0) ?_ dX2_fill_138 (by decide)
    exact s_goto (pc := 139) (tgt := 143) h9 dX2_fill_139 (by decide)
theorem sbX2_fill_9 (g : GE) (J : Nat → KT) (h1 : Snd mX2_fill g 23 (J 1)) (h2 : Snd mX2_fill g 47 (J 2)) (h3 : Snd mX2_fill g 55 (J 3)) (h4 : Snd mX2_fill g 85 (J 4)) (h5 : Snd mX2_fill g 97 (J 5)) (h6 : Snd mX2_fill g 103 (J 6)) (h7 : Snd mX2_fill g 122 (J 7)) (h8 : Snd mX2_fill g 133 (J 8)) (h9 : Snd mX2_fill g 143 (J 9)) (h10 : Snd mX2_fill g 146 (J 10)) : Snd mX2_fill g 143 (bX2_fill_9 g J) := by
  unfold bX2_fill_9
  refine s_cv (pc := 143) (n := 2) (ci := 1) ?_ tX1_addValues rfl rfl wt_875 wt_876 wt_877 wt_6 wt_878 ⟨crX1_addValues, by decide, by decide⟩ dX2_fill_143
  exact s_fall (pc := 146) h10
theorem sbX2_fill_10 (g : GE) (J : Nat → KT) (h1 : Snd mX2_fill g 23 (J 1)) (h2 : Snd mX2_fill g 47 (J 2)) (h3 : Snd mX2_fill g 55 (J 3)) (h4 : Snd mX2_fill g 85 (J 4)) (h5 : Snd mX2_fill g 97 (J 5)) (h6 : Snd mX2_fill g 103 (J 6)) (h7 : Snd mX2_fill g 122 (J 7)) (h8 : Snd mX2_fill g 133 (J 8)) (h9 : Snd mX2_fill g 143 (J 9)) (h10 : Snd mX2_fill g 146 (J 10)) : Snd mX2_fill g 146 (bX2_fill_10 g J) := by
  unfold bX2_fill_10
  exact s_return (pc := 146) rfl dX2_fill_146
def jX2_fill (g : GE) : Nat → Nat → KT
  | 0, _ => fun _ _ _ => none
  | n + 1, 0 => bX2_fill_0 g (jX2_fill g n)
  | n + 1, 1 => bX2_fill_1 g (jX2_fill g n)
  | n + 1, 2 => bX2_fill_2 g (jX2_fill g n)
  | n + 1, 3 => bX2_fill_3 g (jX2_fill g n)
  | n + 1, 4 => bX2_fill_4 g (jX2_fill g n)
  | n + 1, 5 => bX2_fill_5 g (jX2_fill g n)
  | n + 1, 6 => bX2_fill_6 g (jX2_fill g n)
  | n + 1, 7 => bX2_fill_7 g (jX2_fill g n)
  | n + 1, 8 => bX2_fill_8 g (jX2_fill g n)
  | n + 1, 9 => bX2_fill_9 g (jX2_fill g n)
  | n + 1, 10 => bX2_fill_10 g (jX2_fill g n)
  | _ + 1, _ + 11 => fun _ _ _ => none
theorem sjX2_fill (g : GE) : ∀ n, Snd mX2_fill g 0 (jX2_fill g n 0) ∧ Snd mX2_fill g 23 (jX2_fill g n 1) ∧ Snd mX2_fill g 47 (jX2_fill g n 2) ∧ Snd mX2_fill g 55 (jX2_fill g n 3) ∧ Snd mX2_fill g 85 (jX2_fill g n 4) ∧ Snd mX2_fill g 97 (jX2_fill g n 5) ∧ Snd mX2_fill g 103 (jX2_fill g n 6) ∧ Snd mX2_fill g 122 (jX2_fill g n 7) ∧ Snd mX2_fill g 133 (jX2_fill g n 8) ∧ Snd mX2_fill g 143 (jX2_fill g n 9) ∧ Snd mX2_fill g 146 (jX2_fill g n 10)
  | 0 => ⟨s_none, s_none, s_none, s_none, s_none, s_none, s_none, s_none, s_none, s_none, s_none⟩
  | n + 1 => by
    obtain ⟨-, h1, h2, h3, h4, h5, h6, h7, h8, h9, h10⟩ := sjX2_fill g n
    exact ⟨sbX2_fill_0 g _ h1 h2 h3 h4 h5 h6 h7 h8 h9 h10, sbX2_fill_1 g _ h1 h2 h3 h4 h5 h6 h7 h8 h9 h10, sbX2_fill_2 g _ h1 h2 h3 h4 h5 h6 h7 h8 h9 h10, sbX2_fill_3 g _ h1 h2 h3 h4 h5 h6 h7 h8 h9 h10, sbX2_fill_4 g _ h1 h2 h3 h4 h5 h6 h7 h8 h9 h10, sbX2_fill_5 g _ h1 h2 h3 h4 h5 h6 h7 h8 h9 h10, sbX2_fill_6 g _ h1 h2 h3 h4 h5 h6 h7 h8 h9 h10, sbX2_fill_7 g _ h1 h2 h3 h4 h5 h6 h7 h8 h9 h10, sbX2_fill_8 g _ h1 h2 h3 h4 h5 h6 h7 h8 h9 h10, sbX2_fill_9 g _ h1 h2 h3 h4 h5 h6 h7 h8 h9 h10, sbX2_fill_10 g _ h1 h2 h3 h4 h5 h6 h7 h8 h9 h10⟩
def kX2_fill (g : GE) : KT := jX2_fill g g.1 0
theorem sX2_fill (g : GE) : Snd mX2_fill g 0 (kX2_fill g) := (sjX2_fill g g.1).1
def fX2_fill : FT := fun g av w => if (ent av).length ≤ 5 then kX2_fill g [] (entp 5 av) w else none
theorem tX2_fill : Mt yX2_fill cX2_fill 5 none 2 53 fX2_fill := Mt.of (K := kX2_fill) (by decide +kernel) (fun _ _ _ => rfl) sX2_fill
theorem crX2_fill : yX2_fill.cls ≠ "java/lang/invoke/MethodHandle" ∧ yX2_fill.cls ≠ "java/lang/invoke/VarHandle" ∧ (parseMethodDescriptor yX2_fill.desc).map (fun d => d.parameters.length) = some 3 := by decide +kernel
theorem dX0_candidatesAt_0 : decode cX0_candidatesAt 0 = .ok (.aload_n 0, 1) := by decide +kernel
theorem dX0_candidatesAt_1 : decode cX0_candidatesAt 1 = .ok (.getfield 25, 3) := by decide +kernel
theorem dX0_candidatesAt_4 : decode cX0_candidatesAt 4 = .ok (.getfield 37, 3) := by decide +kernel
theorem dX0_candidatesAt_7 : decode cX0_candidatesAt 7 = .ok (.iload_n 1, 1) := by decide +kernel
theorem dX0_candidatesAt_8 : decode cX0_candidatesAt 8 = .ok (.iaload, 1) := by decide +kernel
theorem dX0_candidatesAt_9 : decode cX0_candidatesAt 9 = .ok (.istore_n 2, 1) := by decide +kernel
theorem dX0_candidatesAt_10 : decode cX0_candidatesAt 10 = .ok (.aload_n 0, 1) := by decide +kernel
theorem dX0_candidatesAt_11 : decode cX0_candidatesAt 11 = .ok (.getfield 25, 3) := by decide +kernel
theorem dX0_candidatesAt_14 : decode cX0_candidatesAt 14 = .ok (.aload_n 0, 1) := by decide +kernel
theorem dX0_candidatesAt_15 : decode cX0_candidatesAt 15 = .ok (.getfield 21, 3) := by decide +kernel
theorem dX0_candidatesAt_18 : decode cX0_candidatesAt 18 = .ok (.iload_n 2, 1) := by decide +kernel
theorem dX0_candidatesAt_19 : decode cX0_candidatesAt 19 = .ok (.aload_n 0, 1) := by decide +kernel
theorem dX0_candidatesAt_20 : decode cX0_candidatesAt 20 = .ok (.getfield 25, 3) := by decide +kernel
theorem dX0_candidatesAt_23 : decode cX0_candidatesAt 23 = .ok (.iload_n 2, 1) := by decide +kernel
theorem dX0_candidatesAt_24 : decode cX0_candidatesAt 24 = .ok (.aload_n 0, 1) := by decide +kernel
theorem dX0_candidatesAt_25 : decode cX0_candidatesAt 25 = .ok (.getfield 12, 3) := by decide +kernel
theorem dX0_candidatesAt_28 : decode cX0_candidatesAt 28 = .ok (.getfield 33, 3) := by decide +kernel
theorem dX0_candidatesAt_31 : decode cX0_candidatesAt 31 = .ok (.iload_n 1, 1) := by decide +kernel
theorem dX0_candidatesAt_32 : decode cX0_candidatesAt 32 = .ok (.iaload, 1) := by decide +kernel
theorem dX0_candidatesAt_33 : decode cX0_candidatesAt 33 = .ok (.invokevirtual 42, 3) := by decide +kernel
theorem dX0_candidatesAt_36 : decode cX0_candidatesAt 36 = .ok (.invokevirtual 46, 3) := by decide +kernel
theorem dX0_candidatesAt_39 : decode cX0_candidatesAt 39 = .ok (.aload_n 0, 1) := by decide +kernel
theorem dX0_candidatesAt_40 : decode cX0_candidatesAt 40 = .ok (.getfield 21, 3) := by decide +kernel
theorem dX0_candidatesAt_43 : decode cX0_candidatesAt 43 = .ok (.getfield 50, 3) := by decide +kernel
theorem dX0_candidatesAt_46 : decode cX0_candidatesAt 46 = .ok (.ireturn, 1) := by decide +kernel
abbrev mX0_candidatesAt : MD := (cX0_candidatesAt, "BlottedDeed$Anew", 3, 3, 77, (some .int), "candidatesAt", [])
def bX0_candidatesAt_0 (g : GE) (J : Nat → KT) : KT := i_aload 0 (i_getf 0 2 (i_getf 2 6 (i_iload 1 (i_iaload (i_istore 2 (i_aload 0 (i_getf 0 2 (i_aload 0 (i_getf 0 1 (i_iload 2 (i_aload 0 (i_getf 0 2 (i_iload 2 (i_aload 0 (i_getf 0 0 (i_getf 4 0 (i_iload 1 (i_iaload (i_cv fX2_widthOf g 2 2 (i_cv fX2_fill g 3 2 (i_aload 0 (i_getf 0 1 (i_getf 1 1 (i_ireturn))))))))))))))))))))))))
theorem sbX0_candidatesAt_0 (g : GE) (J : Nat → KT)  : Snd mX0_candidatesAt g 0 (bX0_candidatesAt_0 g J) := by
  unfold bX0_candidatesAt_0
  refine s_aload_n (pc := 0) (i := 0) ?_ dX0_candidatesAt_0 rfl
  refine s_getf (pc := 1) (ci := 0) (f := 2) (T := TX0) ?_ ginX0 rfl (by decide) wt_390 dX0_candidatesAt_1
  refine s_getf (pc := 4) (ci := 2) (f := 6) (T := TX2) ?_ ginX2 rfl (by decide) wt_121 dX0_candidatesAt_4
  refine s_iload_n (pc := 7) (i := 1) ?_ dX0_candidatesAt_7 rfl
  refine s_iaload (pc := 8) ?_ dX0_candidatesAt_8
  refine s_istore_n (pc := 9) (i := 2) ?_ dX0_candidatesAt_9 rfl (by decide)
  refine s_aload_n (pc := 10) (i := 0) ?_ dX0_candidatesAt_10 rfl
  refine s_getf (pc := 11) (ci := 0) (f := 2) (T := TX0) ?_ ginX0 rfl (by decide) wt_390 dX0_candidatesAt_11
  refine s_aload_n (pc := 14) (i := 0) ?_ dX0_candidatesAt_14 rfl
  refine s_getf (pc := 15) (ci := 0) (f := 1) (T := TX0) ?_ ginX0 rfl (by decide) wt_389 dX0_candidatesAt_15
  refine s_iload_n (pc := 18) (i := 2) ?_ dX0_candidatesAt_18 rfl
  refine s_aload_n (pc := 19) (i := 0) ?_ dX0_candidatesAt_19 rfl
  refine s_getf (pc := 20) (ci := 0) (f := 2) (T := TX0) ?_ ginX0 rfl (by decide) wt_390 dX0_candidatesAt_20
  refine s_iload_n (pc := 23) (i := 2) ?_ dX0_candidatesAt_23 rfl
  refine s_aload_n (pc := 24) (i := 0) ?_ dX0_candidatesAt_24 rfl
  refine s_getf (pc := 25) (ci := 0) (f := 0) (T := TX0) ?_ ginX0 rfl (by decide) wt_388 dX0_candidatesAt_25
  refine s_getf (pc := 28) (ci := 4) (f := 0) (T := TX4) ?_ ginX4 rfl (by decide) wt_235 dX0_candidatesAt_28
  refine s_iload_n (pc := 31) (i := 1) ?_ dX0_candidatesAt_31 rfl
  refine s_iaload (pc := 32) ?_ dX0_candidatesAt_32
  refine s_cv (pc := 33) (n := 2) (ci := 2) ?_ tX2_widthOf rfl rfl wt_1235 wt_1236 wt_1237 wt_2 wt_1238 ⟨crX2_widthOf, by decide, by decide⟩ dX0_candidatesAt_33
  refine s_cv (pc := 36) (n := 3) (ci := 2) ?_ tX2_fill rfl rfl wt_1239 wt_872 wt_873 wt_2 wt_874 ⟨crX2_fill, by decide, by decide⟩ dX0_candidatesAt_36
  refine s_aload_n (pc := 39) (i := 0) ?_ dX0_candidatesAt_39 rfl
  refine s_getf (pc := 40) (ci := 0) (f := 1) (T := TX0) ?_ ginX0 rfl (by decide) wt_389 dX0_candidatesAt_40
  refine s_getf (pc := 43) (ci := 1) (f := 1) (T := TX1) ?_ ginX1 rfl (by decide) wt_84 dX0_candidatesAt_43
  exact s_ireturn (pc := 46) rfl dX0_candidatesAt_46
def kX0_candidatesAt (g : GE) : KT := bX0_candidatesAt_0 g (fun _ _ _ _ => none)
theorem sX0_candidatesAt (g : GE) : Snd mX0_candidatesAt g 0 (kX0_candidatesAt g) := sbX0_candidatesAt_0 g _
def fX0_candidatesAt : FT := fun g av w => if (ent av).length ≤ 3 then kX0_candidatesAt g [] (entp 3 av) w else none
theorem tX0_candidatesAt : Mt yX0_candidatesAt cX0_candidatesAt 3 (some .int) 3 77 fX0_candidatesAt := Mt.of (K := kX0_candidatesAt) (by decide +kernel) (fun _ _ _ => rfl) sX0_candidatesAt
theorem crX0_candidatesAt : yX0_candidatesAt.cls ≠ "java/lang/invoke/MethodHandle" ∧ yX0_candidatesAt.cls ≠ "java/lang/invoke/VarHandle" ∧ (parseMethodDescriptor yX0_candidatesAt.desc).map (fun d => d.parameters.length) = some 1 := by decide +kernel
theorem dX4_digitIn_0 : decode cX4_digitIn 0 = .ok (.lload_n 0, 1) := by decide +kernel
theorem dX4_digitIn_1 : decode cX4_digitIn 1 = .ok (.bipush 8, 2) := by decide +kernel
theorem dX4_digitIn_3 : decode cX4_digitIn 3 = .ok (.iload_n 2, 1) := by decide +kernel
theorem dX4_digitIn_4 : decode cX4_digitIn 4 = .ok (.imul, 1) := by decide +kernel
theorem dX4_digitIn_5 : decode cX4_digitIn 5 = .ok (.lushr, 1) := by decide +kernel
theorem dX4_digitIn_6 : decode cX4_digitIn 6 = .ok (.l2i, 1) := by decide +kernel
theorem dX4_digitIn_7 : decode cX4_digitIn 7 = .ok (.bipush 127, 2) := by decide +kernel
theorem dX4_digitIn_9 : decode cX4_digitIn 9 = .ok (.iand, 1) := by decide +kernel
theorem dX4_digitIn_10 : decode cX4_digitIn 10 = .ok (.ireturn, 1) := by decide +kernel
abbrev mX4_digitIn : MD := (cX4_digitIn, "BlottedDeed$Row", 3, 1, 30, (some .int), "digitIn", [])
def bX4_digitIn_0 (g : GE) (J : Nat → KT) : KT := i_lload 0 (i_push (.int 8) (i_iload 2 (i_imul (i_lushr (i_l2i (i_push (.int 127) (i_iand (i_ireturn))))))))
theorem sbX4_digitIn_0 (g : GE) (J : Nat → KT)  : Snd mX4_digitIn g 0 (bX4_digitIn_0 g J) := by
  unfold bX4_digitIn_0
  refine s_lload_n (pc := 0) (i := 0) ?_ dX4_digitIn_0 rfl
  refine s_bipush (pc := 1) (v := 8) ?_ dX4_digitIn_1 (by decide)
  refine s_iload_n (pc := 3) (i := 2) ?_ dX4_digitIn_3 rfl
  refine s_imul (pc := 4) ?_ dX4_digitIn_4
  refine s_lushr (pc := 5) ?_ dX4_digitIn_5
  refine s_l2i (pc := 6) ?_ dX4_digitIn_6
  refine s_bipush (pc := 7) (v := 127) ?_ dX4_digitIn_7 (by decide)
  refine s_iand (pc := 9) ?_ dX4_digitIn_9
  exact s_ireturn (pc := 10) rfl dX4_digitIn_10
def kX4_digitIn (g : GE) : KT := bX4_digitIn_0 g (fun _ _ _ _ => none)
theorem sX4_digitIn (g : GE) : Snd mX4_digitIn g 0 (kX4_digitIn g) := sbX4_digitIn_0 g _
def fX4_digitIn : FT := fun g av w => if (ent av).length ≤ 3 then kX4_digitIn g [] (entp 3 av) w else none
theorem tX4_digitIn : Mt yX4_digitIn cX4_digitIn 3 (some .int) 1 30 fX4_digitIn := Mt.of (K := kX4_digitIn) (by decide +kernel) (fun _ _ _ => rfl) sX4_digitIn
theorem crX4_digitIn : yX4_digitIn.cls ≠ "java/lang/invoke/MethodHandle" ∧ yX4_digitIn.cls ≠ "java/lang/invoke/VarHandle" ∧ (parseMethodDescriptor yX4_digitIn.desc).map (fun d => d.parameters.length) = some 2 := by decide +kernel
theorem dX4_put_0 : decode cX4_put 0 = .ok (.aload_n 1, 1) := by decide +kernel
theorem dX4_put_1 : decode cX4_put 1 = .ok (.getfield 56, 3) := by decide +kernel
theorem dX4_put_4 : decode cX4_put 4 = .ok (.iload_n 2, 1) := by decide +kernel
theorem dX4_put_5 : decode cX4_put 5 = .ok (.aaload, 1) := by decide +kernel
theorem dX4_put_6 : decode cX4_put 6 = .ok (.astore 4, 2) := by decide +kernel
theorem dX4_put_8 : decode cX4_put 8 = .ok (.iload_n 3, 1) := by decide +kernel
theorem dX4_put_9 : decode cX4_put 9 = .ok (.aload 4, 2) := by decide +kernel
theorem dX4_put_11 : decode cX4_put 11 = .ok (.getfield 60, 3) := by decide +kernel
theorem dX4_put_14 : decode cX4_put 14 = .ok (.if_icmp .ge 27, 3) := by decide +kernel
theorem dX4_put_17 : decode cX4_put 17 = .ok (.aload_n 0, 1) := by decide +kernel
theorem dX4_put_18 : decode cX4_put 18 = .ok (.getfield 15, 3) := by decide +kernel
theorem dX4_put_21 : decode cX4_put 21 = .ok (.iload_n 2, 1) := by decide +kernel
theorem dX4_put_22 : decode cX4_put 22 = .ok (.iload_n 3, 1) := by decide +kernel
theorem dX4_put_23 : decode cX4_put 23 = .ok (.iastore, 1) := by decide +kernel
theorem dX4_put_24 : decode cX4_put 24 = .ok (.aload_n 0, 1) := by decide +kernel
theorem dX4_put_25 : decode cX4_put 25 = .ok (.getfield 9, 3) := by decide +kernel
theorem dX4_put_28 : decode cX4_put 28 = .ok (.aload 4, 2) := by decide +kernel
theorem dX4_put_30 : decode cX4_put 30 = .ok (.getfield 65, 3) := by decide +kernel
theorem dX4_put_33 : decode cX4_put 33 = .ok (.aload 4, 2) := by decide +kernel
theorem dX4_put_35 : decode cX4_put 35 = .ok (.getfield 68, 3) := by decide +kernel
theorem dX4_put_38 : decode cX4_put 38 = .ok (.iload_n 3, 1) := by decide +kernel
theorem dX4_put_39 : decode cX4_put 39 = .ok (.iaload, 1) := by decide +kernel
theorem dX4_put_40 : decode cX4_put 40 = .ok (.iastore, 1) := by decide +kernel
theorem dX4_put_41 : decode cX4_put 41 = .ok (.return_, 1) := by decide +kernel
abbrev mX4_put : MD := (cX4_put, "BlottedDeed$Row", 5, 1, 30, none, "put", [])
def bX4_put_0 (g : GE) (J : Nat → KT) : KT := i_aload 1 (i_getf 2 8 (i_iload 2 (i_aaload 6 (i_astore 4 (i_iload 3 (i_aload 4 (i_getf 1 1 (i_icge (i_jmp [false, false, false, false, false] (J 1)) (i_aload 0 (i_getf 4 1 (i_iload 2 (i_iload 3 (i_iastore (i_aload 0 (i_getf 4 0 (i_aload 4 (i_getf 1 5 (i_aload 4 (i_getf 1 0 (i_iload 3 (i_iaload (i_iastore (i_jmp [false, false, false, false, false] (J 1))))))))))))))))))))))))
def bX4_put_1 (g : GE) (J : Nat → KT) : KT := i_return
theorem sbX4_put_0 (g : GE) (J : Nat → KT) (h1 : Snd mX4_put g 41 (J 1)) : Snd mX4_put g 0 (bX4_put_0 g J) := by
  unfold bX4_put_0
  refine s_aload_n (pc := 0) (i := 1) ?_ dX4_put_0 rfl
  refine s_getf (pc := 1) (ci := 2) (f := 8) (T := TX2) ?_ ginX2 rfl (by decide) wt_126 dX4_put_1
  refine s_iload_n (pc := 4) (i := 2) ?_ dX4_put_4 rfl
  refine s_aaload (pc := 5) (t := 6) ?_ (by decide) rfl dX4_put_5
  refine s_astore (pc := 6) (i := 4) ?_ dX4_put_6 (by decide)
  refine s_iload_n (pc := 8) (i := 3) ?_ dX4_put_8 rfl
  refine s_aload (pc := 9) (i := 4) ?_ dX4_put_9
  refine s_getf (pc := 11) (ci := 1) (f := 1) (T := TX1) ?_ ginX1 rfl (by decide) wt_83 dX4_put_11
  refine s_icge (pc := 14) (tgt := 41) ?_ ?_ dX4_put_14 (by decide)
  · skip
    exact s_fall (pc := 41) h1
  · skip
    refine s_aload_n (pc := 17) (i := 0) ?_ dX4_put_17 rfl
    refine s_getf (pc := 18) (ci := 4) (f := 1) (T := TX4) ?_ ginX4 rfl (by decide) wt_236 dX4_put_18
    refine s_iload_n (pc := 21) (i := 2) ?_ dX4_put_21 rfl
    refine s_iload_n (pc := 22) (i := 3) ?_ dX4_put_22 rfl
    refine s_iastore (pc := 23) ?_ dX4_put_23
    refine s_aload_n (pc := 24) (i := 0) ?_ dX4_put_24 rfl
    refine s_getf (pc := 25) (ci := 4) (f := 0) (T := TX4) ?_ ginX4 rfl (by decide) wt_234 dX4_put_25
    refine s_aload (pc := 28) (i := 4) ?_ dX4_put_28
    refine s_getf (pc := 30) (ci := 1) (f := 5) (T := TX1) ?_ ginX1 rfl (by decide) wt_95 dX4_put_30
    refine s_aload (pc := 33) (i := 4) ?_ dX4_put_33
    refine s_getf (pc := 35) (ci := 1) (f := 0) (T := TX1) ?_ ginX1 rfl (by decide) wt_77 dX4_put_35
    refine s_iload_n (pc := 38) (i := 3) ?_ dX4_put_38 rfl
    refine s_iaload (pc := 39) ?_ dX4_put_39
    refine s_iastore (pc := 40) ?_ dX4_put_40
    exact s_fall (pc := 41) h1
theorem sbX4_put_1 (g : GE) (J : Nat → KT) (h1 : Snd mX4_put g 41 (J 1)) : Snd mX4_put g 41 (bX4_put_1 g J) := by
  unfold bX4_put_1
  exact s_return (pc := 41) rfl dX4_put_41
def jX4_put (g : GE) : Nat → Nat → KT
  | 0, _ => fun _ _ _ => none
  | n + 1, 0 => bX4_put_0 g (jX4_put g n)
  | n + 1, 1 => bX4_put_1 g (jX4_put g n)
  | _ + 1, _ + 2 => fun _ _ _ => none
theorem sjX4_put (g : GE) : ∀ n, Snd mX4_put g 0 (jX4_put g n 0) ∧ Snd mX4_put g 41 (jX4_put g n 1)
  | 0 => ⟨s_none, s_none⟩
  | n + 1 => by
    obtain ⟨-, h1⟩ := sjX4_put g n
    exact ⟨sbX4_put_0 g _ h1, sbX4_put_1 g _ h1⟩
def kX4_put (g : GE) : KT := jX4_put g g.1 0
theorem sX4_put (g : GE) : Snd mX4_put g 0 (kX4_put g) := (sjX4_put g g.1).1
def fX4_put : FT := fun g av w => if (ent av).length ≤ 5 then kX4_put g [] (entp 5 av) w else none
theorem tX4_put : Mt yX4_put cX4_put 5 none 1 30 fX4_put := Mt.of (K := kX4_put) (by decide +kernel) (fun _ _ _ => rfl) sX4_put
theorem crX4_put : yX4_put.cls ≠ "java/lang/invoke/MethodHandle" ∧ yX4_put.cls ≠ "java/lang/invoke/VarHandle" ∧ (parseMethodDescriptor yX4_put.desc).map (fun d => d.parameters.length) = some 3 := by decide +kernel
theorem dX4_show_0 : decode cX4_show 0 = .ok (.aload_n 1, 1) := by decide +kernel
theorem dX4_show_1 : decode cX4_show 1 = .ok (.getfield 24, 3) := by decide +kernel
theorem dX4_show_4 : decode cX4_show 4 = .ok (.iconst 0, 1) := by decide +kernel
theorem dX4_show_5 : decode cX4_show 5 = .ok (.aload_n 0, 1) := by decide +kernel
theorem dX4_show_6 : decode cX4_show 6 = .ok (.getfield 9, 3) := by decide +kernel
theorem dX4_show_9 : decode cX4_show 9 = .ok (.iconst 0, 1) := by decide +kernel
theorem dX4_show_10 : decode cX4_show 10 = .ok (.aload_n 1, 1) := by decide +kernel
theorem dX4_show_11 : decode cX4_show 11 = .ok (.getfield 29, 3) := by decide +kernel
theorem dX4_show_14 : decode cX4_show 14 = .ok (.invokestatic 33, 3) := by decide +kernel
theorem dX4_show_17 : decode cX4_show 17 = .ok (.iconst 0, 1) := by decide +kernel
theorem dX4_show_18 : decode cX4_show 18 = .ok (.istore 4, 2) := by decide +kernel
theorem dX4_show_20 : decode cX4_show 20 = .ok (.iload 4, 2) := by decide +kernel
theorem dX4_show_22 : decode cX4_show 22 = .ok (.aload_n 1, 1) := by decide +kernel
theorem dX4_show_23 : decode cX4_show 23 = .ok (.getfield 45, 3) := by decide +kernel
theorem dX4_show_26 : decode cX4_show 26 = .ok (.if_icmp .ge 22, 3) := by decide +kernel
theorem dX4_show_29 : decode cX4_show 29 = .ok (.aload_n 0, 1) := by decide +kernel
theorem dX4_show_30 : decode cX4_show 30 = .ok (.aload_n 1, 1) := by decide +kernel
theorem dX4_show_31 : decode cX4_show 31 = .ok (.iload 4, 2) := by decide +kernel
theorem dX4_show_33 : decode cX4_show 33 = .ok (.lload_n 2, 1) := by decide +kernel
theorem dX4_show_34 : decode cX4_show 34 = .ok (.iload 4, 2) := by decide +kernel
theorem dX4_show_36 : decode cX4_show 36 = .ok (.invokestatic 48, 3) := by decide +kernel
theorem dX4_show_39 : decode cX4_show 39 = .ok (.invokevirtual 52, 3) := by decide +kernel
theorem dX4_show_42 : decode cX4_show 42 = .ok (.iinc 4 1, 3) := by decide +kernel
theorem dX4_show_45 : decode cX4_show 45 = .ok (.goto (-25), 3) := by decide +kernel
theorem dX4_show_48 : decode cX4_show 48 = .ok (.return_, 1) := by decide +kernel
abbrev mX4_show : MD := (cX4_show, "BlottedDeed$Row", 5, 2, 60, none, "show", [])
def bX4_show_0 (g : GE) (J : Nat → KT) : KT := i_aload 1 (i_getf 2 7 (i_push (.int 0) (i_aload 0 (i_getf 4 0 (i_push (.int 0) (i_aload 1 (i_getf 2 12 (i_acopy (i_push (.int 0) (i_istore 4 (i_jmp [true, true, true, false, true] (J 1))))))))))))
def bX4_show_1 (g : GE) (J : Nat → KT) : KT := i_iload 4 (i_aload 1 (i_getf 2 13 (i_icge (i_return) (i_aload 0 (i_aload 1 (i_iload 4 (i_lload 2 (i_iload 4 (i_cs fX4_digitIn g 2 (i_cv fX4_put g 3 4 (i_iinc 4 1 (i_jmp [true, true, true, false, true] (J 1)))))))))))))
theorem sbX4_show_0 (g : GE) (J : Nat → KT) (h1 : Snd mX4_show g 20 (J 1)) : Snd mX4_show g 0 (bX4_show_0 g J) := by
  unfold bX4_show_0
  refine s_aload_n (pc := 0) (i := 1) ?_ dX4_show_0 rfl
  refine s_getf (pc := 1) (ci := 2) (f := 7) (T := TX2) ?_ ginX2 rfl (by decide) wt_123 dX4_show_1
  refine s_iconst (pc := 4) (v := 0) ?_ dX4_show_4 (by decide)
  refine s_aload_n (pc := 5) (i := 0) ?_ dX4_show_5 rfl
  refine s_getf (pc := 6) (ci := 4) (f := 0) (T := TX4) ?_ ginX4 rfl (by decide) wt_234 dX4_show_6
  refine s_iconst (pc := 9) (v := 0) ?_ dX4_show_9 (by decide)
  refine s_aload_n (pc := 10) (i := 1) ?_ dX4_show_10 rfl
  refine s_getf (pc := 11) (ci := 2) (f := 12) (T := TX2) ?_ ginX2 rfl (by decide) wt_139 dX4_show_11
  refine s_acopy (pc := 14) ?_ wt_267 wt_269 wt_268 wt_11 (by decide +kernel) dX4_show_14
  refine s_iconst (pc := 17) (v := 0) ?_ dX4_show_17 (by decide)
  refine s_istore (pc := 18) (i := 4) ?_ dX4_show_18 (by decide)
  exact s_fall (pc := 20) h1
theorem sbX4_show_1 (g : GE) (J : Nat → KT) (h1 : Snd mX4_show g 20 (J 1)) : Snd mX4_show g 20 (bX4_show_1 g J) := by
  unfold bX4_show_1
  refine s_iload (pc := 20) (i := 4) ?_ dX4_show_20
  refine s_aload_n (pc := 22) (i := 1) ?_ dX4_show_22 rfl
  refine s_getf (pc := 23) (ci := 2) (f := 13) (T := TX2) ?_ ginX2 rfl (by decide) wt_144 dX4_show_23
  refine s_icge (pc := 26) (tgt := 48) ?_ ?_ dX4_show_26 (by decide)
  · skip
    exact s_return (pc := 48) rfl dX4_show_48
  · skip
    refine s_aload_n (pc := 29) (i := 0) ?_ dX4_show_29 rfl
    refine s_aload_n (pc := 30) (i := 1) ?_ dX4_show_30 rfl
    refine s_iload (pc := 31) (i := 4) ?_ dX4_show_31
    refine s_lload_n (pc := 33) (i := 2) ?_ dX4_show_33 rfl
    refine s_iload (pc := 34) (i := 4) ?_ dX4_show_34
    refine s_cs (pc := 36) (n := 2) ?_ tX4_digitIn wt_1226 wt_543 wt_9 wt_544 ⟨crX4_digitIn, by decide, by decide⟩ dX4_show_36
    refine s_cv (pc := 39) (n := 3) (ci := 4) ?_ tX4_put rfl rfl wt_332 wt_334 wp_4 wt_9 wt_335 ⟨crX4_put, by decide, by decide⟩ dX4_show_39
    refine s_iinc (pc := 42) (i := 4) (v := 1) ?_ dX4_show_42 (by decide) (by decide)
    exact s_goto (pc := 45) (tgt := 20) h1 dX4_show_45 (by decide)
def jX4_show (g : GE) : Nat → Nat → KT
  | 0, _ => fun _ _ _ => none
  | n + 1, 0 => bX4_show_0 g (jX4_show g n)
  | n + 1, 1 => bX4_show_1 g (jX4_show g n)
  | _ + 1, _ + 2 => fun _ _ _ => none
theorem sjX4_show (g : GE) : ∀ n, Snd mX4_show g 0 (jX4_show g n 0) ∧ Snd mX4_show g 20 (jX4_show g n 1)
  | 0 => ⟨s_none, s_none⟩
  | n + 1 => by
    obtain ⟨-, h1⟩ := sjX4_show g n
    exact ⟨sbX4_show_0 g _ h1, sbX4_show_1 g _ h1⟩
def kX4_show (g : GE) : KT := jX4_show g g.1 0
theorem sX4_show (g : GE) : Snd mX4_show g 0 (kX4_show g) := (sjX4_show g g.1).1
def fX4_show : FT := fun g av w => if (ent av).length ≤ 5 then kX4_show g [] (entp 5 av) w else none
theorem tX4_show : Mt yX4_show cX4_show 5 none 2 60 fX4_show := Mt.of (K := kX4_show) (by decide +kernel) (fun _ _ _ => rfl) sX4_show
theorem crX4_show : yX4_show.cls ≠ "java/lang/invoke/MethodHandle" ∧ yX4_show.cls ≠ "java/lang/invoke/VarHandle" ∧ (parseMethodDescriptor yX4_show.desc).map (fun d => d.parameters.length) = some 2 := by decide +kernel
theorem dX0_clean_0 : decode cX0_clean 0 = .ok (.aload_n 0, 1) := by decide +kernel
theorem dX0_clean_1 : decode cX0_clean 1 = .ok (.aload_n 1, 1) := by decide +kernel
theorem dX0_clean_2 : decode cX0_clean 2 = .ok (.putfield 25, 3) := by decide +kernel
theorem dX0_clean_5 : decode cX0_clean 5 = .ok (.aload_n 0, 1) := by decide +kernel
theorem dX0_clean_6 : decode cX0_clean 6 = .ok (.getfield 12, 3) := by decide +kernel
theorem dX0_clean_9 : decode cX0_clean 9 = .ok (.aload_n 0, 1) := by decide +kernel
theorem dX0_clean_10 : decode cX0_clean 10 = .ok (.getfield 25, 3) := by decide +kernel
theorem dX0_clean_13 : decode cX0_clean 13 = .ok (.lload_n 2, 1) := by decide +kernel
theorem dX0_clean_14 : decode cX0_clean 14 = .ok (.invokevirtual 29, 3) := by decide +kernel
theorem dX0_clean_17 : decode cX0_clean 17 = .ok (.return_, 1) := by decide +kernel
abbrev mX0_clean : MD := (cX0_clean, "BlottedDeed$Anew", 4, 3, 84, none, "clean", [])
def bX0_clean_0 (g : GE) (J : Nat → KT) : KT := i_aload 0 (i_aload 1 (i_putf 0 2 (.object "BlottedDeed$Deed") (i_aload 0 (i_getf 0 0 (i_aload 0 (i_getf 0 2 (i_lload 2 (i_cv fX4_show g 2 4 (i_return)))))))))
theorem sbX0_clean_0 (g : GE) (J : Nat → KT)  : Snd mX0_clean g 0 (bX0_clean_0 g J) := by
  unfold bX0_clean_0
  refine s_aload_n (pc := 0) (i := 0) ?_ dX0_clean_0 rfl
  refine s_aload_n (pc := 1) (i := 1) ?_ dX0_clean_1 rfl
  refine s_putf (pc := 2) (ci := 0) (f := 2) (T := TX0) (ty0 := tyX0) ?_ ginX0 tyX0_ok nmX0 rfl (by decide) rfl rfl wt_390 dX0_clean_2
  refine s_aload_n (pc := 5) (i := 0) ?_ dX0_clean_5 rfl
  refine s_getf (pc := 6) (ci := 0) (f := 0) (T := TX0) ?_ ginX0 rfl (by decide) wt_388 dX0_clean_6
  refine s_aload_n (pc := 9) (i := 0) ?_ dX0_clean_9 rfl
  refine s_getf (pc := 10) (ci := 0) (f := 2) (T := TX0) ?_ ginX0 rfl (by decide) wt_390 dX0_clean_10
  refine s_lload_n (pc := 13) (i := 2) ?_ dX0_clean_13 rfl
  refine s_cv (pc := 14) (n := 2) (ci := 4) ?_ tX4_show rfl rfl wt_1222 wt_1223 wt_1224 wt_9 wt_1225 ⟨crX4_show, by decide, by decide⟩ dX0_clean_14
  exact s_return (pc := 17) rfl dX0_clean_17
def kX0_clean (g : GE) : KT := bX0_clean_0 g (fun _ _ _ _ => none)
theorem sX0_clean (g : GE) : Snd mX0_clean g 0 (kX0_clean g) := sbX0_clean_0 g _
def fX0_clean : FT := fun g av w => if (ent av).length ≤ 4 then kX0_clean g [] (entp 4 av) w else none
theorem tX0_clean : Mt yX0_clean cX0_clean 4 none 3 84 fX0_clean := Mt.of (K := kX0_clean) (by decide +kernel) (fun _ _ _ => rfl) sX0_clean
theorem crX0_clean : yX0_clean.cls ≠ "java/lang/invoke/MethodHandle" ∧ yX0_clean.cls ≠ "java/lang/invoke/VarHandle" ∧ (parseMethodDescriptor yX0_clean.desc).map (fun d => d.parameters.length) = some 2 := by decide +kernel
theorem dX4_init_0 : decode cX4_init 0 = .ok (.aload_n 0, 1) := by decide +kernel
theorem dX4_init_1 : decode cX4_init 1 = .ok (.invokespecial 3, 3) := by decide +kernel
theorem dX4_init_4 : decode cX4_init 4 = .ok (.aload_n 0, 1) := by decide +kernel
theorem dX4_init_5 : decode cX4_init 5 = .ok (.bipush 36, 2) := by decide +kernel
theorem dX4_init_7 : decode cX4_init 7 = .ok (.newarray .int, 2) := by decide +kernel
theorem dX4_init_9 : decode cX4_init 9 = .ok (.putfield 9, 3) := by decide +kernel
theorem dX4_init_12 : decode cX4_init 12 = .ok (.aload_n 0, 1) := by decide +kernel
theorem dX4_init_13 : decode cX4_init 13 = .ok (.bipush 8, 2) := by decide +kernel
theorem dX4_init_15 : decode cX4_init 15 = .ok (.newarray .int, 2) := by decide +kernel
theorem dX4_init_17 : decode cX4_init 17 = .ok (.putfield 15, 3) := by decide +kernel
theorem dX4_init_20 : decode cX4_init 20 = .ok (.aload_n 0, 1) := by decide +kernel
theorem dX4_init_21 : decode cX4_init 21 = .ok (.iconst 4, 1) := by decide +kernel
theorem dX4_init_22 : decode cX4_init 22 = .ok (.newarray .int, 2) := by decide +kernel
theorem dX4_init_24 : decode cX4_init 24 = .ok (.putfield 18, 3) := by decide +kernel
theorem dX4_init_27 : decode cX4_init 27 = .ok (.aload_n 0, 1) := by decide +kernel
theorem dX4_init_28 : decode cX4_init 28 = .ok (.iconst 5, 1) := by decide +kernel
theorem dX4_init_29 : decode cX4_init 29 = .ok (.newarray .int, 2) := by decide +kernel
theorem dX4_init_31 : decode cX4_init 31 = .ok (.putfield 21, 3) := by decide +kernel
theorem dX4_init_34 : decode cX4_init 34 = .ok (.return_, 1) := by decide +kernel
abbrev mX4_init : MD := (cX4_init, "BlottedDeed$Row", 1, 1, 30, none, "<init>", [])
def bX4_init_0 (g : GE) (J : Nat → KT) : KT := i_aload 0 (i_obj (i_aload 0 (i_push (.int 36) (i_newarr 0 (i_putf 4 0 (.array .int) (i_aload 0 (i_push (.int 8) (i_newarr 0 (i_putf 4 1 (.array .int) (i_aload 0 (i_push (.int 4) (i_newarr 0 (i_putf 4 2 (.array .int) (i_aload 0 (i_push (.int 5) (i_newarr 0 (i_putf 4 3 (.array .int) (i_return))))))))))))))))))
theorem sbX4_init_0 (g : GE) (J : Nat → KT)  : Snd mX4_init g 0 (bX4_init_0 g J) := by
  unfold bX4_init_0
  refine s_aload_n (pc := 0) (i := 0) ?_ dX4_init_0 rfl
  refine s_obj (pc := 1) ?_ wt_233 wt_35 wt_36 (by decide) dX4_init_1
  refine s_aload_n (pc := 4) (i := 0) ?_ dX4_init_4 rfl
  refine s_bipush (pc := 5) (v := 36) ?_ dX4_init_5 (by decide)
  refine s_newarr (pc := 7) (t := 0) ?_ (by decide) rfl wt_68 dX4_init_7
  refine s_putfF (pc := 9) (ci := 4) (f := 0) (T := TX4) (ty0 := tyX4) ?_ ginX4 tyX4_ok nmX4 rfl (by decide) rfl rfl rfl rfl wt_234 dX4_init_9
  refine s_aload_n (pc := 12) (i := 0) ?_ dX4_init_12 rfl
  refine s_bipush (pc := 13) (v := 8) ?_ dX4_init_13 (by decide)
  refine s_newarr (pc := 15) (t := 0) ?_ (by decide) rfl wt_68 dX4_init_15
  refine s_putfF (pc := 17) (ci := 4) (f := 1) (T := TX4) (ty0 := tyX4) ?_ ginX4 tyX4_ok nmX4 rfl (by decide) rfl rfl rfl rfl wt_236 dX4_init_17
  refine s_aload_n (pc := 20) (i := 0) ?_ dX4_init_20 rfl
  refine s_iconst (pc := 21) (v := 4) ?_ dX4_init_21 (by decide)
  refine s_newarr (pc := 22) (t := 0) ?_ (by decide) rfl wt_68 dX4_init_22
  refine s_putfF (pc := 24) (ci := 4) (f := 2) (T := TX4) (ty0 := tyX4) ?_ ginX4 tyX4_ok nmX4 rfl (by decide) rfl rfl rfl rfl wt_237 dX4_init_24
  refine s_aload_n (pc := 27) (i := 0) ?_ dX4_init_27 rfl
  refine s_iconst (pc := 28) (v := 5) ?_ dX4_init_28 (by decide)
  refine s_newarr (pc := 29) (t := 0) ?_ (by decide) rfl wt_68 dX4_init_29
  refine s_putfF (pc := 31) (ci := 4) (f := 3) (T := TX4) (ty0 := tyX4) ?_ ginX4 tyX4_ok nmX4 rfl (by decide) rfl rfl rfl rfl wt_238 dX4_init_31
  exact s_return (pc := 34) rfl dX4_init_34
def kX4_init (g : GE) : KT := bX4_init_0 g (fun _ _ _ _ => none)
theorem sX4_init (g : GE) : Snd mX4_init g 0 (kX4_init g) := sbX4_init_0 g _
def fX4_init : FT := fun g av w => if (ent av).length ≤ 1 then kX4_init g [] (entp 1 av) w else none
theorem tX4_init : Mt yX4_init cX4_init 1 none 1 30 fX4_init := Mt.of (K := kX4_init) (by decide +kernel) (fun _ _ _ => rfl) sX4_init
theorem crX4_init : yX4_init.cls ≠ "java/lang/invoke/MethodHandle" ∧ yX4_init.cls ≠ "java/lang/invoke/VarHandle" ∧ (parseMethodDescriptor yX4_init.desc).map (fun d => d.parameters.length) = some 0 := by decide +kernel
theorem dX1_init_0 : decode cX1_init 0 = .ok (.aload_n 0, 1) := by decide +kernel
theorem dX1_init_1 : decode cX1_init 1 = .ok (.invokespecial 3, 3) := by decide +kernel
theorem dX1_init_4 : decode cX1_init 4 = .ok (.aload_n 0, 1) := by decide +kernel
theorem dX1_init_5 : decode cX1_init 5 = .ok (.bipush 100, 2) := by decide +kernel
theorem dX1_init_7 : decode cX1_init 7 = .ok (.newarray .int, 2) := by decide +kernel
theorem dX1_init_9 : decode cX1_init 9 = .ok (.putfield 9, 3) := by decide +kernel
theorem dX1_init_12 : decode cX1_init 12 = .ok (.return_, 1) := by decide +kernel
abbrev mX1_init : MD := (cX1_init, "BlottedDeed$Blot", 1, 1, 30, none, "<init>", [])
def bX1_init_0 (g : GE) (J : Nat → KT) : KT := i_aload 0 (i_obj (i_aload 0 (i_push (.int 100) (i_newarr 0 (i_putf 1 0 (.array .int) (i_return))))))
theorem sbX1_init_0 (g : GE) (J : Nat → KT)  : Snd mX1_init g 0 (bX1_init_0 g J) := by
  unfold bX1_init_0
  refine s_aload_n (pc := 0) (i := 0) ?_ dX1_init_0 rfl
  refine s_obj (pc := 1) ?_ wt_74 wt_35 wt_36 (by decide) dX1_init_1
  refine s_aload_n (pc := 4) (i := 0) ?_ dX1_init_4 rfl
  refine s_bipush (pc := 5) (v := 100) ?_ dX1_init_5 (by decide)
  refine s_newarr (pc := 7) (t := 0) ?_ (by decide) rfl wt_68 dX1_init_7
  refine s_putfF (pc := 9) (ci := 1) (f := 0) (T := TX1) (ty0 := tyX1) ?_ ginX1 tyX1_ok nmX1 rfl (by decide) rfl rfl rfl rfl wt_75 dX1_init_9
  exact s_return (pc := 12) rfl dX1_init_12
def kX1_init (g : GE) : KT := bX1_init_0 g (fun _ _ _ _ => none)
theorem sX1_init (g : GE) : Snd mX1_init g 0 (kX1_init g) := sbX1_init_0 g _
def fX1_init : FT := fun g av w => if (ent av).length ≤ 1 then kX1_init g [] (entp 1 av) w else none
theorem tX1_init : Mt yX1_init cX1_init 1 none 1 30 fX1_init := Mt.of (K := kX1_init) (by decide +kernel) (fun _ _ _ => rfl) sX1_init
theorem crX1_init : yX1_init.cls ≠ "java/lang/invoke/MethodHandle" ∧ yX1_init.cls ≠ "java/lang/invoke/VarHandle" ∧ (parseMethodDescriptor yX1_init.desc).map (fun d => d.parameters.length) = some 0 := by decide +kernel
theorem dX0_init_0 : decode cX0_init 0 = .ok (.aload_n 0, 1) := by decide +kernel
theorem dX0_init_1 : decode cX0_init 1 = .ok (.invokespecial 3, 3) := by decide +kernel
theorem dX0_init_4 : decode cX0_init 4 = .ok (.aload_n 0, 1) := by decide +kernel
theorem dX0_init_5 : decode cX0_init 5 = .ok (.new 9, 3) := by decide +kernel
theorem dX0_init_8 : decode cX0_init 8 = .ok (.dup, 1) := by decide +kernel
theorem dX0_init_9 : decode cX0_init 9 = .ok (.invokespecial 11, 3) := by decide +kernel
theorem dX0_init_12 : decode cX0_init 12 = .ok (.putfield 12, 3) := by decide +kernel
theorem dX0_init_15 : decode cX0_init 15 = .ok (.aload_n 0, 1) := by decide +kernel
theorem dX0_init_16 : decode cX0_init 16 = .ok (.new 18, 3) := by decide +kernel
theorem dX0_init_19 : decode cX0_init 19 = .ok (.dup, 1) := by decide +kernel
theorem dX0_init_20 : decode cX0_init 20 = .ok (.invokespecial 20, 3) := by decide +kernel
theorem dX0_init_23 : decode cX0_init 23 = .ok (.putfield 21, 3) := by decide +kernel
theorem dX0_init_26 : decode cX0_init 26 = .ok (.aload_n 0, 1) := by decide +kernel
theorem dX0_init_27 : decode cX0_init 27 = .ok (.aload_n 1, 1) := by decide +kernel
theorem dX0_init_28 : decode cX0_init 28 = .ok (.putfield 25, 3) := by decide +kernel
theorem dX0_init_31 : decode cX0_init 31 = .ok (.return_, 1) := by decide +kernel
abbrev mX0_init : MD := (cX0_init, "BlottedDeed$Anew", 2, 2, 50, none, "<init>", [])
def bX0_init_0 (g : GE) (J : Nat → KT) : KT := i_aload 0 (i_obj (i_aload 0 (i_new 4 6 [.null, .null, .null, .null, .int 0, .int 0] (i_dup (i_ci fX4_init g 0 (i_putf 0 0 (.object "BlottedDeed$Row") (i_aload 0 (i_new 1 6 [.null, .int 0, .int 0, .int 0, .int 0, .int 0] (i_dup (i_ci fX1_init g 0 (i_putf 0 1 (.object "BlottedDeed$Blot") (i_aload 0 (i_aload 1 (i_putf 0 2 (.object "BlottedDeed$Deed") (i_return)))))))))))))))
theorem sbX0_init_0 (g : GE) (J : Nat → KT)  : Snd mX0_init g 0 (bX0_init_0 g J) := by
  unfold bX0_init_0
  refine s_aload_n (pc := 0) (i := 0) ?_ dX0_init_0 rfl
  refine s_obj (pc := 1) ?_ wt_383 wt_35 wt_36 (by decide) dX0_init_1
  refine s_aload_n (pc := 4) (i := 0) ?_ dX0_init_4 rfl
  refine s_new (pc := 5) (ci := 4) (N := 6) (T := TX4) (ty0 := tyX4) ?_ ginX4 tyX4_ok rfl wt_384 wt_229 wt_9 (by decide) dX0_init_5
  refine s_dup (pc := 8) ?_ dX0_init_8
  refine s_ciN (pc := 9) (n := 0) ?_ tX4_init rfl (by decide +kernel : Cond.methodLinkNest "BlottedDeed$Anew" 11 yX4_init "BlottedDeed" ∈ owl) wt_231 wt_9 wt_232 ⟨crX4_init, by decide, by decide⟩ dX0_init_9
  refine s_putfF (pc := 12) (ci := 0) (f := 0) (T := TX0) (ty0 := tyX0) ?_ ginX0 tyX0_ok nmX0 rfl (by decide) rfl rfl rfl rfl wt_388 dX0_init_12
  refine s_aload_n (pc := 15) (i := 0) ?_ dX0_init_15 rfl
  refine s_new (pc := 16) (ci := 1) (N := 6) (T := TX1) (ty0 := tyX1) ?_ ginX1 tyX1_ok rfl wt_386 wt_70 wt_6 (by decide) dX0_init_16
  refine s_dup (pc := 19) ?_ dX0_init_19
  refine s_ciN (pc := 20) (n := 0) ?_ tX1_init rfl (by decide +kernel : Cond.methodLinkNest "BlottedDeed$Anew" 20 yX1_init "BlottedDeed" ∈ owl) wt_72 wt_6 wt_73 ⟨crX1_init, by decide, by decide⟩ dX0_init_20
  refine s_putfF (pc := 23) (ci := 0) (f := 1) (T := TX0) (ty0 := tyX0) ?_ ginX0 tyX0_ok nmX0 rfl (by decide) rfl rfl rfl rfl wt_389 dX0_init_23
  refine s_aload_n (pc := 26) (i := 0) ?_ dX0_init_26 rfl
  refine s_aload_n (pc := 27) (i := 1) ?_ dX0_init_27 rfl
  refine s_putf (pc := 28) (ci := 0) (f := 2) (T := TX0) (ty0 := tyX0) ?_ ginX0 tyX0_ok nmX0 rfl (by decide) rfl rfl wt_390 dX0_init_28
  exact s_return (pc := 31) rfl dX0_init_31
def kX0_init (g : GE) : KT := bX0_init_0 g (fun _ _ _ _ => none)
theorem sX0_init (g : GE) : Snd mX0_init g 0 (kX0_init g) := sbX0_init_0 g _
def fX0_init : FT := fun g av w => if (ent av).length ≤ 2 then kX0_init g [] (entp 2 av) w else none
theorem tX0_init : Mt yX0_init cX0_init 2 none 2 50 fX0_init := Mt.of (K := kX0_init) (by decide +kernel) (fun _ _ _ => rfl) sX0_init
theorem crX0_init : yX0_init.cls ≠ "java/lang/invoke/MethodHandle" ∧ yX0_init.cls ≠ "java/lang/invoke/VarHandle" ∧ (parseMethodDescriptor yX0_init.desc).map (fun d => d.parameters.length) = some 1 := by decide +kernel
theorem dX4_will_0 : decode cX4_will 0 = .ok (.aload_n 0, 1) := by decide +kernel
theorem dX4_will_1 : decode cX4_will 1 = .ok (.getfield 9, 3) := by decide +kernel
theorem dX4_will_4 : decode cX4_will 4 = .ok (.aload_n 1, 1) := by decide +kernel
theorem dX4_will_5 : decode cX4_will 5 = .ok (.getfield 103, 3) := by decide +kernel
theorem dX4_will_8 : decode cX4_will 8 = .ok (.iaload, 1) := by decide +kernel
theorem dX4_will_9 : decode cX4_will 9 = .ok (.istore_n 2, 1) := by decide +kernel
theorem dX4_will_10 : decode cX4_will 10 = .ok (.aload_n 0, 1) := by decide +kernel
theorem dX4_will_11 : decode cX4_will 11 = .ok (.getfield 21, 3) := by decide +kernel
theorem dX4_will_14 : decode cX4_will 14 = .ok (.aload_n 1, 1) := by decide +kernel
theorem dX4_will_15 : decode cX4_will 15 = .ok (.getfield 104, 3) := by decide +kernel
theorem dX4_will_18 : decode cX4_will 18 = .ok (.iaload, 1) := by decide +kernel
theorem dX4_will_19 : decode cX4_will 19 = .ok (.iconst (-1), 1) := by decide +kernel
theorem dX4_will_20 : decode cX4_will 20 = .ok (.if_icmp .ne 16, 3) := by decide +kernel
theorem dX4_will_23 : decode cX4_will 23 = .ok (.aload_n 0, 1) := by decide +kernel
theorem dX4_will_24 : decode cX4_will 24 = .ok (.getfield 21, 3) := by decide +kernel
theorem dX4_will_27 : decode cX4_will 27 = .ok (.aload_n 1, 1) := by decide +kernel
theorem dX4_will_28 : decode cX4_will 28 = .ok (.getfield 104, 3) := by decide +kernel
theorem dX4_will_31 : decode cX4_will 31 = .ok (.iload_n 2, 1) := by decide +kernel
theorem dX4_will_32 : decode cX4_will 32 = .ok (.iastore, 1) := by decide +kernel
theorem dX4_will_33 : decode cX4_will 33 = .ok (.goto 21, 3) := by decide +kernel
theorem dX4_will_36 : decode cX4_will 36 = .ok (.aload_n 0, 1) := by decide +kernel
theorem dX4_will_37 : decode cX4_will 37 = .ok (.getfield 21, 3) := by decide +kernel
theorem dX4_will_40 : decode cX4_will 40 = .ok (.aload_n 1, 1) := by decide +kernel
theorem dX4_will_41 : decode cX4_will 41 = .ok (.getfield 104, 3) := by decide +kernel
theorem dX4_will_44 : decode cX4_will 44 = .ok (.iaload, 1) := by decide +kernel
theorem dX4_will_45 : decode cX4_will 45 = .ok (.iload_n 2, 1) := by decide +kernel
theorem dX4_will_46 : decode cX4_will 46 = .ok (.if_icmp .eq 8, 3) := by decide +kernel
theorem dX4_will_49 : decode cX4_will 49 = .ok (.aload_n 0, 1) := by decide +kernel
theorem dX4_will_50 : decode cX4_will 50 = .ok (.iconst 1, 1) := by decide +kernel
theorem dX4_will_51 : decode cX4_will 51 = .ok (.putfield 74, 3) := by decide +kernel
theorem dX4_will_54 : decode cX4_will 54 = .ok (.return_, 1) := by decide +kernel
abbrev mX4_will : MD := (cX4_will, "BlottedDeed$Row", 3, 1, 30, none, "will", [])
def bX4_will_0 (g : GE) (J : Nat → KT) : KT := i_aload 0 (i_getf 4 0 (i_aload 1 (i_getf 3 2 (i_iaload (i_istore 2 (i_aload 0 (i_getf 4 3 (i_aload 1 (i_getf 3 1 (i_iaload (i_push (.int (-1)) (i_icne (i_aload 0 (i_getf 4 3 (i_aload 1 (i_getf 3 1 (i_iaload (i_iload 2 (i_iceq (i_jmp [false, false, false] (J 1)) (i_aload 0 (i_push (.int 1) (i_putf 4 5 .boolean (i_jmp [false, false, false] (J 1)))))))))))) (i_aload 0 (i_getf 4 3 (i_aload 1 (i_getf 3 1 (i_iload 2 (i_iastore (i_jmp [false, false, false] (J 1))))))))))))))))))))
def bX4_will_1 (g : GE) (J : Nat → KT) : KT := i_return
theorem sbX4_will_0 (g : GE) (J : Nat → KT) (h1 : Snd mX4_will g 54 (J 1)) : Snd mX4_will g 0 (bX4_will_0 g J) := by
  unfold bX4_will_0
  refine s_aload_n (pc := 0) (i := 0) ?_ dX4_will_0 rfl
  refine s_getf (pc := 1) (ci := 4) (f := 0) (T := TX4) ?_ ginX4 rfl (by decide) wt_234 dX4_will_1
  refine s_aload_n (pc := 4) (i := 1) ?_ dX4_will_4 rfl
  refine s_getf (pc := 5) (ci := 3) (f := 2) (T := TX3) ?_ ginX3 rfl (by decide) wt_59 dX4_will_5
  refine s_iaload (pc := 8) ?_ dX4_will_8
  refine s_istore_n (pc := 9) (i := 2) ?_ dX4_will_9 rfl (by decide)
  refine s_aload_n (pc := 10) (i := 0) ?_ dX4_will_10 rfl
  refine s_getf (pc := 11) (ci := 4) (f := 3) (T := TX4) ?_ ginX4 rfl (by decide) wt_238 dX4_will_11
  refine s_aload_n (pc := 14) (i := 1) ?_ dX4_will_14 rfl
  refine s_getf (pc := 15) (ci := 3) (f := 1) (T := TX3) ?_ ginX3 rfl (by decide) wt_57 dX4_will_15
  refine s_iaload (pc := 18) ?_ dX4_will_18
  refine s_iconst (pc := 19) (v := (-1)) ?_ dX4_will_19 (by decide)
  refine s_icne (pc := 20) (tgt := 36) ?_ ?_ dX4_will_20 (by decide)
  · skip
    refine s_aload_n (pc := 36) (i := 0) ?_ dX4_will_36 rfl
    refine s_getf (pc := 37) (ci := 4) (f := 3) (T := TX4) ?_ ginX4 rfl (by decide) wt_238 dX4_will_37
    refine s_aload_n (pc := 40) (i := 1) ?_ dX4_will_40 rfl
    refine s_getf (pc := 41) (ci := 3) (f := 1) (T := TX3) ?_ ginX3 rfl (by decide) wt_57 dX4_will_41
    refine s_iaload (pc := 44) ?_ dX4_will_44
    refine s_iload_n (pc := 45) (i := 2) ?_ dX4_will_45 rfl
    refine s_iceq (pc := 46) (tgt := 54) ?_ ?_ dX4_will_46 (by decide)
    · skip
      exact s_fall (pc := 54) h1
    · skip
      refine s_aload_n (pc := 49) (i := 0) ?_ dX4_will_49 rfl
      refine s_iconst (pc := 50) (v := 1) ?_ dX4_will_50 (by decide)
      refine s_putf (pc := 51) (ci := 4) (f := 5) (T := TX4) (ty0 := tyX4) ?_ ginX4 tyX4_ok nmX4 rfl (by decide) rfl rfl wt_242 dX4_will_51
      exact s_fall (pc := 54) h1
  · skip
    refine s_aload_n (pc := 23) (i := 0) ?_ dX4_will_23 rfl
    refine s_getf (pc := 24) (ci := 4) (f := 3) (T := TX4) ?_ ginX4 rfl (by decide) wt_238 dX4_will_24
    refine s_aload_n (pc := 27) (i := 1) ?_ dX4_will_27 rfl
    refine s_getf (pc := 28) (ci := 3) (f := 1) (T := TX3) ?_ ginX3 rfl (by decide) wt_57 dX4_will_28
    refine s_iload_n (pc := 31) (i := 2) ?_ dX4_will_31 rfl
    refine s_iastore (pc := 32) ?_ dX4_will_32
    exact s_goto (pc := 33) (tgt := 54) h1 dX4_will_33 (by decide)
theorem sbX4_will_1 (g : GE) (J : Nat → KT) (h1 : Snd mX4_will g 54 (J 1)) : Snd mX4_will g 54 (bX4_will_1 g J) := by
  unfold bX4_will_1
  exact s_return (pc := 54) rfl dX4_will_54
def jX4_will (g : GE) : Nat → Nat → KT
  | 0, _ => fun _ _ _ => none
  | n + 1, 0 => bX4_will_0 g (jX4_will g n)
  | n + 1, 1 => bX4_will_1 g (jX4_will g n)
  | _ + 1, _ + 2 => fun _ _ _ => none
theorem sjX4_will (g : GE) : ∀ n, Snd mX4_will g 0 (jX4_will g n 0) ∧ Snd mX4_will g 54 (jX4_will g n 1)
  | 0 => ⟨s_none, s_none⟩
  | n + 1 => by
    obtain ⟨-, h1⟩ := sjX4_will g n
    exact ⟨sbX4_will_0 g _ h1, sbX4_will_1 g _ h1⟩
def kX4_will (g : GE) : KT := jX4_will g g.1 0
theorem sX4_will (g : GE) : Snd mX4_will g 0 (kX4_will g) := (sjX4_will g g.1).1
def fX4_will : FT := fun g av w => if (ent av).length ≤ 3 then kX4_will g [] (entp 3 av) w else none
theorem tX4_will : Mt yX4_will cX4_will 3 none 1 30 fX4_will := Mt.of (K := kX4_will) (by decide +kernel) (fun _ _ _ => rfl) sX4_will
theorem crX4_will : yX4_will.cls ≠ "java/lang/invoke/MethodHandle" ∧ yX4_will.cls ≠ "java/lang/invoke/VarHandle" ∧ (parseMethodDescriptor yX4_will.desc).map (fun d => d.parameters.length) = some 1 := by decide +kernel
theorem dX4_pay_0 : decode cX4_pay 0 = .ok (.aload_n 1, 1) := by decide +kernel
theorem dX4_pay_1 : decode cX4_pay 1 = .ok (.getfield 103, 3) := by decide +kernel
theorem dX4_pay_4 : decode cX4_pay 4 = .ok (.istore_n 2, 1) := by decide +kernel
theorem dX4_pay_5 : decode cX4_pay 5 = .ok (.aload_n 1, 1) := by decide +kernel
theorem dX4_pay_6 : decode cX4_pay 6 = .ok (.getfield 85, 3) := by decide +kernel
theorem dX4_pay_9 : decode cX4_pay 9 = .ok (.getstatic 107, 3) := by decide +kernel
theorem dX4_pay_12 : decode cX4_pay 12 = .ok (.if_acmp .ne 51, 3) := by decide +kernel
theorem dX4_pay_15 : decode cX4_pay 15 = .ok (.aload_n 0, 1) := by decide +kernel
theorem dX4_pay_16 : decode cX4_pay 16 = .ok (.getfield 21, 3) := by decide +kernel
theorem dX4_pay_19 : decode cX4_pay 19 = .ok (.aload_n 1, 1) := by decide +kernel
theorem dX4_pay_20 : decode cX4_pay 20 = .ok (.getfield 104, 3) := by decide +kernel
theorem dX4_pay_23 : decode cX4_pay 23 = .ok (.iaload, 1) := by decide +kernel
theorem dX4_pay_24 : decode cX4_pay 24 = .ok (.aload_n 0, 1) := by decide +kernel
theorem dX4_pay_25 : decode cX4_pay 25 = .ok (.getfield 9, 3) := by decide +kernel
theorem dX4_pay_28 : decode cX4_pay 28 = .ok (.iload_n 2, 1) := by decide +kernel
theorem dX4_pay_29 : decode cX4_pay 29 = .ok (.iconst 1, 1) := by decide +kernel
theorem dX4_pay_30 : decode cX4_pay 30 = .ok (.iadd, 1) := by decide +kernel
theorem dX4_pay_31 : decode cX4_pay 31 = .ok (.iaload, 1) := by decide +kernel
theorem dX4_pay_32 : decode cX4_pay 32 = .ok (.if_icmp .ne 7, 3) := by decide +kernel
theorem dX4_pay_35 : decode cX4_pay 35 = .ok (.iconst 1, 1) := by decide +kernel
theorem dX4_pay_36 : decode cX4_pay 36 = .ok (.goto 4, 3) := by decide +kernel
theorem dX4_pay_39 : decode cX4_pay 39 = .ok (.iconst 0, 1) := by decide +kernel
theorem dX4_pay_40 : decode cX4_pay 40 = .ok (.istore_n 3, 1) := by decide +kernel
theorem dX4_pay_41 : decode cX4_pay 41 = .ok (.iload_n 3, 1) := by decide +kernel
theorem dX4_pay_42 : decode cX4_pay 42 = .ok (.aload_n 0, 1) := by decide +kernel
theorem dX4_pay_43 : decode cX4_pay 43 = .ok (.getfield 9, 3) := by decide +kernel
theorem dX4_pay_46 : decode cX4_pay 46 = .ok (.iload_n 2, 1) := by decide +kernel
theorem dX4_pay_47 : decode cX4_pay 47 = .ok (.iaload, 1) := by decide +kernel
theorem dX4_pay_48 : decode cX4_pay 48 = .ok (.ifCond .ne 7, 3) := by decide +kernel
theorem dX4_pay_51 : decode cX4_pay 51 = .ok (.iconst 1, 1) := by decide +kernel
theorem dX4_pay_52 : decode cX4_pay 52 = .ok (.goto 4, 3) := by decide +kernel
theorem dX4_pay_55 : decode cX4_pay 55 = .ok (.iconst 0, 1) := by decide +kernel
theorem dX4_pay_56 : decode cX4_pay 56 = .ok (.if_icmp .eq 4, 3) := by decide +kernel
theorem dX4_pay_59 : decode cX4_pay 59 = .ok (.return_, 1) := by decide +kernel
theorem dX4_pay_60 : decode cX4_pay 60 = .ok (.iinc 2 2, 3) := by decide +kernel
theorem dX4_pay_63 : decode cX4_pay 63 = .ok (.aload_n 0, 1) := by decide +kernel
theorem dX4_pay_64 : decode cX4_pay 64 = .ok (.getfield 18, 3) := by decide +kernel
theorem dX4_pay_67 : decode cX4_pay 67 = .ok (.aload_n 0, 1) := by decide +kernel
theorem dX4_pay_68 : decode cX4_pay 68 = .ok (.getfield 9, 3) := by decide +kernel
theorem dX4_pay_71 : decode cX4_pay 71 = .ok (.iload_n 2, 1) := by decide +kernel
theorem dX4_pay_72 : decode cX4_pay 72 = .ok (.iaload, 1) := by decide +kernel
theorem dX4_pay_73 : decode cX4_pay 73 = .ok (.dup2, 1) := by decide +kernel
theorem dX4_pay_74 : decode cX4_pay 74 = .ok (.iaload, 1) := by decide +kernel
theorem dX4_pay_75 : decode cX4_pay 75 = .ok (.aload_n 0, 1) := by decide +kernel
theorem dX4_pay_76 : decode cX4_pay 76 = .ok (.getfield 9, 3) := by decide +kernel
theorem dX4_pay_79 : decode cX4_pay 79 = .ok (.iload_n 2, 1) := by decide +kernel
theorem dX4_pay_80 : decode cX4_pay 80 = .ok (.iconst 1, 1) := by decide +kernel
theorem dX4_pay_81 : decode cX4_pay 81 = .ok (.iadd, 1) := by decide +kernel
theorem dX4_pay_82 : decode cX4_pay 82 = .ok (.iaload, 1) := by decide +kernel
theorem dX4_pay_83 : decode cX4_pay 83 = .ok (.iadd, 1) := by decide +kernel
theorem dX4_pay_84 : decode cX4_pay 84 = .ok (.iastore, 1) := by decide +kernel
theorem dX4_pay_85 : decode cX4_pay 85 = .ok (.aload_n 0, 1) := by decide +kernel
theorem dX4_pay_86 : decode cX4_pay 86 = .ok (.dup, 1) := by decide +kernel
theorem dX4_pay_87 : decode cX4_pay 87 = .ok (.getfield 71, 3) := by decide +kernel
theorem dX4_pay_90 : decode cX4_pay 90 = .ok (.aload_n 0, 1) := by decide +kernel
theorem dX4_pay_91 : decode cX4_pay 91 = .ok (.getfield 9, 3) := by decide +kernel
theorem dX4_pay_94 : decode cX4_pay 94 = .ok (.iload_n 2, 1) := by decide +kernel
theorem dX4_pay_95 : decode cX4_pay 95 = .ok (.iconst 1, 1) := by decide +kernel
theorem dX4_pay_96 : decode cX4_pay 96 = .ok (.iadd, 1) := by decide +kernel
theorem dX4_pay_97 : decode cX4_pay 97 = .ok (.iaload, 1) := by decide +kernel
theorem dX4_pay_98 : decode cX4_pay 98 = .ok (.iadd, 1) := by decide +kernel
theorem dX4_pay_99 : decode cX4_pay 99 = .ok (.putfield 71, 3) := by decide +kernel
theorem dX4_pay_102 : decode cX4_pay 102 = .ok (.return_, 1) := by decide +kernel
abbrev mX4_pay : MD := (cX4_pay, "BlottedDeed$Row", 4, 1, 30, none, "pay", [])
def bX4_pay_0 (g : GE) (J : Nat → KT) : KT := i_aload 1 (i_getf 3 2 (i_istore 2 (i_aload 1 (i_getf 3 0 (i_push (.ref (g.2.1 6)) (i_acmpne (i_jmp [true, false, true, false] (J 3)) (i_aload 0 (i_getf 4 3 (i_aload 1 (i_getf 3 1 (i_iaload (i_aload 0 (i_getf 4 0 (i_iload 2 (i_push (.int 1) (i_iadd (i_iaload (i_icne (i_push (.int 0) (i_jmp [true, false, true, false] (J 1))) (i_push (.int 1) (i_jmp [true, false, true, false] (J 1)))))))))))))))))))))
def bX4_pay_1 (g : GE) (J : Nat → KT) : KT := i_istore 3 (i_iload 3 (i_aload 0 (i_getf 4 0 (i_iload 2 (i_iaload (i_ifne (i_push (.int 0) (i_jmp [true, false, true, false] (J 2))) (i_push (.int 1) (i_jmp [true, false, true, false] (J 2)))))))))
def bX4_pay_2 (g : GE) (J : Nat → KT) : KT := i_iceq (i_iinc 2 2 (i_jmp [true, false, true, false] (J 3))) (i_return)
def bX4_pay_3 (g : GE) (J : Nat → KT) : KT := i_aload 0 (i_getf 4 2 (i_aload 0 (i_getf 4 0 (i_iload 2 (i_iaload (i_dup2 (i_iaload (i_aload 0 (i_getf 4 0 (i_iload 2 (i_push (.int 1) (i_iadd (i_iaload (i_iadd (i_iastore (i_aload 0 (i_dup (i_getf 4 4 (i_aload 0 (i_getf 4 0 (i_iload 2 (i_push (.int 1) (i_iadd (i_iaload (i_iadd (i_putf 4 4 .int (i_return)))))))))))))))))))))))))))
theorem sbX4_pay_0 (g : GE) (J : Nat → KT) (h1 : Snd mX4_pay g 40 (J 1)) (h2 : Snd mX4_pay g 56 (J 2)) (h3 : Snd mX4_pay g 63 (J 3)) : Snd mX4_pay g 0 (bX4_pay_0 g J) := by
  unfold bX4_pay_0
  refine s_aload_n (pc := 0) (i := 1) ?_ dX4_pay_0 rfl
  refine s_getf (pc := 1) (ci := 3) (f := 2) (T := TX3) ?_ ginX3 rfl (by decide) wt_59 dX4_pay_1
  refine s_istore_n (pc := 4) (i := 2) ?_ dX4_pay_4 rfl (by decide)
  refine s_aload_n (pc := 5) (i := 1) ?_ dX4_pay_5 rfl
  refine s_getf (pc := 6) (ci := 3) (f := 0) (T := TX3) ?_ ginX3 rfl (by decide) wt_55 dX4_pay_6
  refine s_gets (pc := 9) (i := 6) ?_ (by decide) wt_285 dX4_pay_9
  refine s_acmpne (pc := 12) (tgt := 63) ?_ ?_ dX4_pay_12 (by decide)
  · skip
    exact s_fall (pc := 63) h3
  · skip
    refine s_aload_n (pc := 15) (i := 0) ?_ dX4_pay_15 rfl
    refine s_getf (pc := 16) (ci := 4) (f := 3) (T := TX4) ?_ ginX4 rfl (by decide) wt_238 dX4_pay_16
    refine s_aload_n (pc := 19) (i := 1) ?_ dX4_pay_19 rfl
    refine s_getf (pc := 20) (ci := 3) (f := 1) (T := TX3) ?_ ginX3 rfl (by decide) wt_57 dX4_pay_20
    refine s_iaload (pc := 23) ?_ dX4_pay_23
    refine s_aload_n (pc := 24) (i := 0) ?_ dX4_pay_24 rfl
    refine s_getf (pc := 25) (ci := 4) (f := 0) (T := TX4) ?_ ginX4 rfl (by decide) wt_234 dX4_pay_25
    refine s_iload_n (pc := 28) (i := 2) ?_ dX4_pay_28 rfl
    refine s_iconst (pc := 29) (v := 1) ?_ dX4_pay_29 (by decide)
    refine s_iadd (pc := 30) ?_ dX4_pay_30
    refine s_iaload (pc := 31) ?_ dX4_pay_31
    refine s_icne (pc := 32) (tgt := 39) ?_ ?_ dX4_pay_32 (by decide)
    · skip
      refine s_iconst (pc := 39) (v := 0) ?_ dX4_pay_39 (by decide)
      exact s_fall (pc := 40) h1
    · skip
      refine s_iconst (pc := 35) (v := 1) ?_ dX4_pay_35 (by decide)
      exact s_goto (pc := 36) (tgt := 40) h1 dX4_pay_36 (by decide)
theorem sbX4_pay_1 (g : GE) (J : Nat → KT) (h1 : Snd mX4_pay g 40 (J 1)) (h2 : Snd mX4_pay g 56 (J 2)) (h3 : Snd mX4_pay g 63 (J 3)) : Snd mX4_pay g 40 (bX4_pay_1 g J) := by
  unfold bX4_pay_1
  refine s_istore_n (pc := 40) (i := 3) ?_ dX4_pay_40 rfl (by decide)
  refine s_iload_n (pc := 41) (i := 3) ?_ dX4_pay_41 rfl
  refine s_aload_n (pc := 42) (i := 0) ?_ dX4_pay_42 rfl
  refine s_getf (pc := 43) (ci := 4) (f := 0) (T := TX4) ?_ ginX4 rfl (by decide) wt_234 dX4_pay_43
  refine s_iload_n (pc := 46) (i := 2) ?_ dX4_pay_46 rfl
  refine s_iaload (pc := 47) ?_ dX4_pay_47
  refine s_ifne (pc := 48) (tgt := 55) ?_ ?_ dX4_pay_48 (by decide)
  · skip
    refine s_iconst (pc := 55) (v := 0) ?_ dX4_pay_55 (by decide)
    exact s_fall (pc := 56) h2
  · skip
    refine s_iconst (pc := 51) (v := 1) ?_ dX4_pay_51 (by decide)
    exact s_goto (pc := 52) (tgt := 56) h2 dX4_pay_52 (by decide)
theorem sbX4_pay_2 (g : GE) (J : Nat → KT) (h1 : Snd mX4_pay g 40 (J 1)) (h2 : Snd mX4_pay g 56 (J 2)) (h3 : Snd mX4_pay g 63 (J 3)) : Snd mX4_pay g 56 (bX4_pay_2 g J) := by
  unfold bX4_pay_2
  refine s_iceq (pc := 56) (tgt := 60) ?_ ?_ dX4_pay_56 (by decide)
  · skip
    refine s_iinc (pc := 60) (i := 2) (v := 2) ?_ dX4_pay_60 (by decide) (by decide)
    exact s_fall (pc := 63) h3
  · skip
    exact s_return (pc := 59) rfl dX4_pay_59
theorem sbX4_pay_3 (g : GE) (J : Nat → KT) (h1 : Snd mX4_pay g 40 (J 1)) (h2 : Snd mX4_pay g 56 (J 2)) (h3 : Snd mX4_pay g 63 (J 3)) : Snd mX4_pay g 63 (bX4_pay_3 g J) := by
  unfold bX4_pay_3
  refine s_aload_n (pc := 63) (i := 0) ?_ dX4_pay_63 rfl
  refine s_getf (pc := 64) (ci := 4) (f := 2) (T := TX4) ?_ ginX4 rfl (by decide) wt_237 dX4_pay_64
  refine s_aload_n (pc := 67) (i := 0) ?_ dX4_pay_67 rfl
  refine s_getf (pc := 68) (ci := 4) (f := 0) (T := TX4) ?_ ginX4 rfl (by decide) wt_234 dX4_pay_68
  refine s_iload_n (pc := 71) (i := 2) ?_ dX4_pay_71 rfl
  refine s_iaload (pc := 72) ?_ dX4_pay_72
  refine s_dup2 (pc := 73) ?_ dX4_pay_73
  refine s_iaload (pc := 74) ?_ dX4_pay_74
  refine s_aload_n (pc := 75) (i := 0) ?_ dX4_pay_75 rfl
  refine s_getf (pc := 76) (ci := 4) (f := 0) (T := TX4) ?_ ginX4 rfl (by decide) wt_234 dX4_pay_76
  refine s_iload_n (pc := 79) (i := 2) ?_ dX4_pay_79 rfl
  refine s_iconst (pc := 80) (v := 1) ?_ dX4_pay_80 (by decide)
  refine s_iadd (pc := 81) ?_ dX4_pay_81
  refine s_iaload (pc := 82) ?_ dX4_pay_82
  refine s_iadd (pc := 83) ?_ dX4_pay_83
  refine s_iastore (pc := 84) ?_ dX4_pay_84
  refine s_aload_n (pc := 85) (i := 0) ?_ dX4_pay_85 rfl
  refine s_dup (pc := 86) ?_ dX4_pay_86
  refine s_getf (pc := 87) (ci := 4) (f := 4) (T := TX4) ?_ ginX4 rfl (by decide) wt_241 dX4_pay_87
  refine s_aload_n (pc := 90) (i := 0) ?_ dX4_pay_90 rfl
  refine s_getf (pc := 91) (ci := 4) (f := 0) (T := TX4) ?_ ginX4 rfl (by decide) wt_234 dX4_pay_91
  refine s_iload_n (pc := 94) (i := 2) ?_ dX4_pay_94 rfl
  refine s_iconst (pc := 95) (v := 1) ?_ dX4_pay_95 (by decide)
  refine s_iadd (pc := 96) ?_ dX4_pay_96
  refine s_iaload (pc := 97) ?_ dX4_pay_97
  refine s_iadd (pc := 98) ?_ dX4_pay_98
  refine s_putf (pc := 99) (ci := 4) (f := 4) (T := TX4) (ty0 := tyX4) ?_ ginX4 tyX4_ok nmX4 rfl (by decide) rfl rfl wt_241 dX4_pay_99
  exact s_return (pc := 102) rfl dX4_pay_102
def jX4_pay (g : GE) : Nat → Nat → KT
  | 0, _ => fun _ _ _ => none
  | n + 1, 0 => bX4_pay_0 g (jX4_pay g n)
  | n + 1, 1 => bX4_pay_1 g (jX4_pay g n)
  | n + 1, 2 => bX4_pay_2 g (jX4_pay g n)
  | n + 1, 3 => bX4_pay_3 g (jX4_pay g n)
  | _ + 1, _ + 4 => fun _ _ _ => none
theorem sjX4_pay (g : GE) : ∀ n, Snd mX4_pay g 0 (jX4_pay g n 0) ∧ Snd mX4_pay g 40 (jX4_pay g n 1) ∧ Snd mX4_pay g 56 (jX4_pay g n 2) ∧ Snd mX4_pay g 63 (jX4_pay g n 3)
  | 0 => ⟨s_none, s_none, s_none, s_none⟩
  | n + 1 => by
    obtain ⟨-, h1, h2, h3⟩ := sjX4_pay g n
    exact ⟨sbX4_pay_0 g _ h1 h2 h3, sbX4_pay_1 g _ h1 h2 h3, sbX4_pay_2 g _ h1 h2 h3, sbX4_pay_3 g _ h1 h2 h3⟩
def kX4_pay (g : GE) : KT := jX4_pay g g.1 0
theorem sX4_pay (g : GE) : Snd mX4_pay g 0 (kX4_pay g) := (sjX4_pay g g.1).1
def fX4_pay : FT := fun g av w => if (ent av).length ≤ 4 then kX4_pay g [] (entp 4 av) w else none
theorem tX4_pay : Mt yX4_pay cX4_pay 4 none 1 30 fX4_pay := Mt.of (K := kX4_pay) (by decide +kernel) (fun _ _ _ => rfl) sX4_pay
theorem crX4_pay : yX4_pay.cls ≠ "java/lang/invoke/MethodHandle" ∧ yX4_pay.cls ≠ "java/lang/invoke/VarHandle" ∧ (parseMethodDescriptor yX4_pay.desc).map (fun d => d.parameters.length) = some 1 := by decide +kernel
theorem dX4_reckon_0 : decode cX4_reckon 0 = .ok (.aload_n 0, 1) := by decide +kernel
theorem dX4_reckon_1 : decode cX4_reckon 1 = .ok (.getfield 18, 3) := by decide +kernel
theorem dX4_reckon_4 : decode cX4_reckon 4 = .ok (.iconst 0, 1) := by decide +kernel
theorem dX4_reckon_5 : decode cX4_reckon 5 = .ok (.invokestatic 39, 3) := by decide +kernel
theorem dX4_reckon_8 : decode cX4_reckon 8 = .ok (.aload_n 0, 1) := by decide +kernel
theorem dX4_reckon_9 : decode cX4_reckon 9 = .ok (.getfield 21, 3) := by decide +kernel
theorem dX4_reckon_12 : decode cX4_reckon 12 = .ok (.iconst (-1), 1) := by decide +kernel
theorem dX4_reckon_13 : decode cX4_reckon 13 = .ok (.invokestatic 39, 3) := by decide +kernel
theorem dX4_reckon_16 : decode cX4_reckon 16 = .ok (.aload_n 0, 1) := by decide +kernel
theorem dX4_reckon_17 : decode cX4_reckon 17 = .ok (.iconst 0, 1) := by decide +kernel
theorem dX4_reckon_18 : decode cX4_reckon 18 = .ok (.putfield 71, 3) := by decide +kernel
theorem dX4_reckon_21 : decode cX4_reckon 21 = .ok (.aload_n 0, 1) := by decide +kernel
theorem dX4_reckon_22 : decode cX4_reckon 22 = .ok (.iconst 0, 1) := by decide +kernel
theorem dX4_reckon_23 : decode cX4_reckon 23 = .ok (.putfield 74, 3) := by decide +kernel
theorem dX4_reckon_26 : decode cX4_reckon 26 = .ok (.iconst 0, 1) := by decide +kernel
theorem dX4_reckon_27 : decode cX4_reckon 27 = .ok (.istore_n 3, 1) := by decide +kernel
theorem dX4_reckon_28 : decode cX4_reckon 28 = .ok (.iload_n 3, 1) := by decide +kernel
theorem dX4_reckon_29 : decode cX4_reckon 29 = .ok (.aload_n 1, 1) := by decide +kernel
theorem dX4_reckon_30 : decode cX4_reckon 30 = .ok (.getfield 78, 3) := by decide +kernel
theorem dX4_reckon_33 : decode cX4_reckon 33 = .ok (.if_icmp .ge 39, 3) := by decide +kernel
theorem dX4_reckon_36 : decode cX4_reckon 36 = .ok (.iload_n 3, 1) := by decide +kernel
theorem dX4_reckon_37 : decode cX4_reckon 37 = .ok (.iload_n 2, 1) := by decide +kernel
theorem dX4_reckon_38 : decode cX4_reckon 38 = .ok (.if_icmp .eq 28, 3) := by decide +kernel
theorem dX4_reckon_41 : decode cX4_reckon 41 = .ok (.aload_n 1, 1) := by decide +kernel
theorem dX4_reckon_42 : decode cX4_reckon 42 = .ok (.getfield 81, 3) := by decide +kernel
theorem dX4_reckon_45 : decode cX4_reckon 45 = .ok (.iload_n 3, 1) := by decide +kernel
theorem dX4_reckon_46 : decode cX4_reckon 46 = .ok (.aaload, 1) := by decide +kernel
theorem dX4_reckon_47 : decode cX4_reckon 47 = .ok (.getfield 85, 3) := by decide +kernel
theorem dX4_reckon_50 : decode cX4_reckon 50 = .ok (.getstatic 91, 3) := by decide +kernel
theorem dX4_reckon_53 : decode cX4_reckon 53 = .ok (.if_acmp .ne 13, 3) := by decide +kernel
theorem dX4_reckon_56 : decode cX4_reckon 56 = .ok (.aload_n 0, 1) := by decide +kernel
theorem dX4_reckon_57 : decode cX4_reckon 57 = .ok (.aload_n 1, 1) := by decide +kernel
theorem dX4_reckon_58 : decode cX4_reckon 58 = .ok (.getfield 81, 3) := by decide +kernel
theorem dX4_reckon_61 : decode cX4_reckon 61 = .ok (.iload_n 3, 1) := by decide +kernel
theorem dX4_reckon_62 : decode cX4_reckon 62 = .ok (.aaload, 1) := by decide +kernel
theorem dX4_reckon_63 : decode cX4_reckon 63 = .ok (.invokevirtual 96, 3) := by decide +kernel
theorem dX4_reckon_66 : decode cX4_reckon 66 = .ok (.iinc 3 1, 3) := by decide +kernel
theorem dX4_reckon_69 : decode cX4_reckon 69 = .ok (.goto (-41), 3) := by decide +kernel
theorem dX4_reckon_72 : decode cX4_reckon 72 = .ok (.iconst 0, 1) := by decide +kernel
theorem dX4_reckon_73 : decode cX4_reckon 73 = .ok (.istore_n 3, 1) := by decide +kernel
theorem dX4_reckon_74 : decode cX4_reckon 74 = .ok (.iload_n 3, 1) := by decide +kernel
theorem dX4_reckon_75 : decode cX4_reckon 75 = .ok (.aload_n 1, 1) := by decide +kernel
theorem dX4_reckon_76 : decode cX4_reckon 76 = .ok (.getfield 78, 3) := by decide +kernel
theorem dX4_reckon_79 : decode cX4_reckon 79 = .ok (.if_icmp .ge 39, 3) := by decide +kernel
theorem dX4_reckon_82 : decode cX4_reckon 82 = .ok (.iload_n 3, 1) := by decide +kernel
theorem dX4_reckon_83 : decode cX4_reckon 83 = .ok (.iload_n 2, 1) := by decide +kernel
theorem dX4_reckon_84 : decode cX4_reckon 84 = .ok (.if_icmp .eq 28, 3) := by decide +kernel
theorem dX4_reckon_87 : decode cX4_reckon 87 = .ok (.aload_n 1, 1) := by decide +kernel
theorem dX4_reckon_88 : decode cX4_reckon 88 = .ok (.getfield 81, 3) := by decide +kernel
theorem dX4_reckon_91 : decode cX4_reckon 91 = .ok (.iload_n 3, 1) := by decide +kernel
theorem dX4_reckon_92 : decode cX4_reckon 92 = .ok (.aaload, 1) := by decide +kernel
theorem dX4_reckon_93 : decode cX4_reckon 93 = .ok (.getfield 85, 3) := by decide +kernel
theorem dX4_reckon_96 : decode cX4_reckon 96 = .ok (.getstatic 91, 3) := by decide +kernel
theorem dX4_reckon_99 : decode cX4_reckon 99 = .ok (.if_acmp .eq 13, 3) := by decide +kernel
theorem dX4_reckon_102 : decode cX4_reckon 102 = .ok (.aload_n 0, 1) := by decide +kernel
theorem dX4_reckon_103 : decode cX4_reckon 103 = .ok (.aload_n 1, 1) := by decide +kernel
theorem dX4_reckon_104 : decode cX4_reckon 104 = .ok (.getfield 81, 3) := by decide +kernel
theorem dX4_reckon_107 : decode cX4_reckon 107 = .ok (.iload_n 3, 1) := by decide +kernel
theorem dX4_reckon_108 : decode cX4_reckon 108 = .ok (.aaload, 1) := by decide +kernel
theorem dX4_reckon_109 : decode cX4_reckon 109 = .ok (.invokevirtual 100, 3) := by decide +kernel
theorem dX4_reckon_112 : decode cX4_reckon 112 = .ok (.iinc 3 1, 3) := by decide +kernel
theorem dX4_reckon_115 : decode cX4_reckon 115 = .ok (.goto (-41), 3) := by decide +kernel
theorem dX4_reckon_118 : decode cX4_reckon 118 = .ok (.return_, 1) := by decide +kernel
abbrev mX4_reckon : MD := (cX4_reckon, "BlottedDeed$Row", 4, 2, 53, none, "reckon", [])
def bX4_reckon_0 (g : GE) (J : Nat → KT) : KT := i_aload 0 (i_getf 4 2 (i_push (.int 0) (i_cs fJ7_fill_53178 g 2 (i_aload 0 (i_getf 4 3 (i_push (.int (-1)) (i_cs fJ7_fill_53178 g 2 (i_aload 0 (i_push (.int 0) (i_putf 4 4 .int (i_aload 0 (i_push (.int 0) (i_putf 4 5 .boolean (i_push (.int 0) (i_istore 3 (i_jmp [true, true, true, true] (J 1)))))))))))))))))
def bX4_reckon_1 (g : GE) (J : Nat → KT) : KT := i_iload 3 (i_aload 1 (i_getf 2 11 (i_icge (i_push (.int 0) (i_istore 3 (i_jmp [true, true, true, true] (J 3)))) (i_iload 3 (i_iload 2 (i_iceq (i_jmp [true, true, true, true] (J 2)) (i_aload 1 (i_getf 2 5 (i_iload 3 (i_aaload 5 (i_getf 3 0 (i_push (.ref (g.2.1 5)) (i_acmpne (i_jmp [true, true, true, true] (J 2)) (i_aload 0 (i_aload 1 (i_getf 2 5 (i_iload 3 (i_aaload 5 (i_cv fX4_will g 1 4 (i_jmp [true, true, true, true] (J 2)))))))))))))))))))))
def bX4_reckon_2 (g : GE) (J : Nat → KT) : KT := i_iinc 3 1 (i_jmp [true, true, true, true] (J 1))
def bX4_reckon_3 (g : GE) (J : Nat → KT) : KT := i_iload 3 (i_aload 1 (i_getf 2 11 (i_icge (i_return) (i_iload 3 (i_iload 2 (i_iceq (i_jmp [true, true, true, true] (J 4)) (i_aload 1 (i_getf 2 5 (i_iload 3 (i_aaload 5 (i_getf 3 0 (i_push (.ref (g.2.1 5)) (i_acmpeq (i_jmp [true, true, true, true] (J 4)) (i_aload 0 (i_aload 1 (i_getf 2 5 (i_iload 3 (i_aaload 5 (i_cv fX4_pay g 1 4 (i_jmp [true, true, true, true] (J 4)))))))))))))))))))))
def bX4_reckon_4 (g : GE) (J : Nat → KT) : KT := i_iinc 3 1 (i_jmp [true, true, true, true] (J 3))
theorem sbX4_reckon_0 (g : GE) (J : Nat → KT) (h1 : Snd mX4_reckon g 28 (J 1)) (h2 : Snd mX4_reckon g 66 (J 2)) (h3 : Snd mX4_reckon g 74 (J 3)) (h4 : Snd mX4_reckon g 112 (J 4)) : Snd mX4_reckon g 0 (bX4_reckon_0 g J) := by
  unfold bX4_reckon_0
  refine s_aload_n (pc := 0) (i := 0) ?_ dX4_reckon_0 rfl
  refine s_getf (pc := 1) (ci := 4) (f := 2) (T := TX4) ?_ ginX4 rfl (by decide) wt_237 dX4_reckon_1
  refine s_iconst (pc := 4) (v := 0) ?_ dX4_reckon_4 (by decide)
  refine s_cs (pc := 5) (n := 2) ?_ tJ7_fill_53178 wt_270 wt_261 wt_10 wt_262 ⟨crJ7_fill_53178, by decide, by decide⟩ dX4_reckon_5
  refine s_aload_n (pc := 8) (i := 0) ?_ dX4_reckon_8 rfl
  refine s_getf (pc := 9) (ci := 4) (f := 3) (T := TX4) ?_ ginX4 rfl (by decide) wt_238 dX4_reckon_9
  refine s_iconst (pc := 12) (v := (-1)) ?_ dX4_reckon_12 (by decide)
  refine s_cs (pc := 13) (n := 2) ?_ tJ7_fill_53178 wt_270 wt_261 wt_10 wt_262 ⟨crJ7_fill_53178, by decide, by decide⟩ dX4_reckon_13
  refine s_aload_n (pc := 16) (i := 0) ?_ dX4_reckon_16 rfl
  refine s_iconst (pc := 17) (v := 0) ?_ dX4_reckon_17 (by decide)
  refine s_putf (pc := 18) (ci := 4) (f := 4) (T := TX4) (ty0 := tyX4) ?_ ginX4 tyX4_ok nmX4 rfl (by decide) rfl rfl wt_241 dX4_reckon_18
  refine s_aload_n (pc := 21) (i := 0) ?_ dX4_reckon_21 rfl
  refine s_iconst (pc := 22) (v := 0) ?_ dX4_reckon_22 (by decide)
  refine s_putf (pc := 23) (ci := 4) (f := 5) (T := TX4) (ty0 := tyX4) ?_ ginX4 tyX4_ok nmX4 rfl (by decide) rfl rfl wt_242 dX4_reckon_23
  refine s_iconst (pc := 26) (v := 0) ?_ dX4_reckon_26 (by decide)
  refine s_istore_n (pc := 27) (i := 3) ?_ dX4_reckon_27 rfl (by decide)
  exact s_fall (pc := 28) h1
theorem sbX4_reckon_1 (g : GE) (J : Nat → KT) (h1 : Snd mX4_reckon g 28 (J 1)) (h2 : Snd mX4_reckon g 66 (J 2)) (h3 : Snd mX4_reckon g 74 (J 3)) (h4 : Snd mX4_reckon g 112 (J 4)) : Snd mX4_reckon g 28 (bX4_reckon_1 g J) := by
  unfold bX4_reckon_1
  refine s_iload_n (pc := 28) (i := 3) ?_ dX4_reckon_28 rfl
  refine s_aload_n (pc := 29) (i := 1) ?_ dX4_reckon_29 rfl
  refine s_getf (pc := 30) (ci := 2) (f := 11) (T := TX2) ?_ ginX2 rfl (by decide) wt_137 dX4_reckon_30
  refine s_icge (pc := 33) (tgt := 72) ?_ ?_ dX4_reckon_33 (by decide)
  · skip
    refine s_iconst (pc := 72) (v := 0) ?_ dX4_reckon_72 (by decide)
    refine s_istore_n (pc := 73) (i := 3) ?_ dX4_reckon_73 rfl (by decide)
    exact s_fall (pc := 74) h3
  · skip
    refine s_iload_n (pc := 36) (i := 3) ?_ dX4_reckon_36 rfl
    refine s_iload_n (pc := 37) (i := 2) ?_ dX4_reckon_37 rfl
    refine s_iceq (pc := 38) (tgt := 66) ?_ ?_ dX4_reckon_38 (by decide)
    · skip
      exact s_fall (pc := 66) h2
    · skip
      refine s_aload_n (pc := 41) (i := 1) ?_ dX4_reckon_41 rfl
      refine s_getf (pc := 42) (ci := 2) (f := 5) (T := TX2) ?_ ginX2 rfl (by decide) wt_119 dX4_reckon_42
      refine s_iload_n (pc := 45) (i := 3) ?_ dX4_reckon_45 rfl
      refine s_aaload (pc := 46) (t := 5) ?_ (by decide) rfl dX4_reckon_46
      refine s_getf (pc := 47) (ci := 3) (f := 0) (T := TX3) ?_ ginX3 rfl (by decide) wt_55 dX4_reckon_47
      refine s_gets (pc := 50) (i := 5) ?_ (by decide) wt_275 dX4_reckon_50
      refine s_acmpne (pc := 53) (tgt := 66) ?_ ?_ dX4_reckon_53 (by decide)
      · skip
        exact s_fall (pc := 66) h2
      · skip
        refine s_aload_n (pc := 56) (i := 0) ?_ dX4_reckon_56 rfl
        refine s_aload_n (pc := 57) (i := 1) ?_ dX4_reckon_57 rfl
        refine s_getf (pc := 58) (ci := 2) (f := 5) (T := TX2) ?_ ginX2 rfl (by decide) wt_119 dX4_reckon_58
        refine s_iload_n (pc := 61) (i := 3) ?_ dX4_reckon_61 rfl
        refine s_aaload (pc := 62) (t := 5) ?_ (by decide) rfl dX4_reckon_62
        refine s_cv (pc := 63) (n := 1) (ci := 4) ?_ tX4_will rfl rfl wt_277 wt_279 wp_0 wt_9 wt_280 ⟨crX4_will, by decide, by decide⟩ dX4_reckon_63
        exact s_fall (pc := 66) h2
theorem sbX4_reckon_2 (g : GE) (J : Nat → KT) (h1 : Snd mX4_reckon g 28 (J 1)) (h2 : Snd mX4_reckon g 66 (J 2)) (h3 : Snd mX4_reckon g 74 (J 3)) (h4 : Snd mX4_reckon g 112 (J 4)) : Snd mX4_reckon g 66 (bX4_reckon_2 g J) := by
  unfold bX4_reckon_2
  refine s_iinc (pc := 66) (i := 3) (v := 1) ?_ dX4_reckon_66 (by decide) (by decide)
  exact s_goto (pc := 69) (tgt := 28) h1 dX4_reckon_69 (by decide)
theorem sbX4_reckon_3 (g : GE) (J : Nat → KT) (h1 : Snd mX4_reckon g 28 (J 1)) (h2 : Snd mX4_reckon g 66 (J 2)) (h3 : Snd mX4_reckon g 74 (J 3)) (h4 : Snd mX4_reckon g 112 (J 4)) : Snd mX4_reckon g 74 (bX4_reckon_3 g J) := by
  unfold bX4_reckon_3
  refine s_iload_n (pc := 74) (i := 3) ?_ dX4_reckon_74 rfl
  refine s_aload_n (pc := 75) (i := 1) ?_ dX4_reckon_75 rfl
  refine s_getf (pc := 76) (ci := 2) (f := 11) (T := TX2) ?_ ginX2 rfl (by decide) wt_137 dX4_reckon_76
  refine s_icge (pc := 79) (tgt := 118) ?_ ?_ dX4_reckon_79 (by decide)
  · skip
    exact s_return (pc := 118) rfl dX4_reckon_118
  · skip
    refine s_iload_n (pc := 82) (i := 3) ?_ dX4_reckon_82 rfl
    refine s_iload_n (pc := 83) (i := 2) ?_ dX4_reckon_83 rfl
    refine s_iceq (pc := 84) (tgt := 112) ?_ ?_ dX4_reckon_84 (by decide)
    · skip
      exact s_fall (pc := 112) h4
    · skip
      refine s_aload_n (pc := 87) (i := 1) ?_ dX4_reckon_87 rfl
      refine s_getf (pc := 88) (ci := 2) (f := 5) (T := TX2) ?_ ginX2 rfl (by decide) wt_119 dX4_reckon_88
      refine s_iload_n (pc := 91) (i := 3) ?_ dX4_reckon_91 rfl
      refine s_aaload (pc := 92) (t := 5) ?_ (by decide) rfl dX4_reckon_92
      refine s_getf (pc := 93) (ci := 3) (f := 0) (T := TX3) ?_ ginX3 rfl (by decide) wt_55 dX4_reckon_93
      refine s_gets (pc := 96) (i := 5) ?_ (by decide) wt_275 dX4_reckon_96
      refine s_acmpeq (pc := 99) (tgt := 112) ?_ ?_ dX4_reckon_99 (by decide)
      · skip
        exact s_fall (pc := 112) h4
      · skip
        refine s_aload_n (pc := 102) (i := 0) ?_ dX4_reckon_102 rfl
        refine s_aload_n (pc := 103) (i := 1) ?_ dX4_reckon_103 rfl
        refine s_getf (pc := 104) (ci := 2) (f := 5) (T := TX2) ?_ ginX2 rfl (by decide) wt_119 dX4_reckon_104
        refine s_iload_n (pc := 107) (i := 3) ?_ dX4_reckon_107 rfl
        refine s_aaload (pc := 108) (t := 5) ?_ (by decide) rfl dX4_reckon_108
        refine s_cv (pc := 109) (n := 1) (ci := 4) ?_ tX4_pay rfl rfl wt_281 wt_283 wp_1 wt_9 wt_284 ⟨crX4_pay, by decide, by decide⟩ dX4_reckon_109
        exact s_fall (pc := 112) h4
theorem sbX4_reckon_4 (g : GE) (J : Nat → KT) (h1 : Snd mX4_reckon g 28 (J 1)) (h2 : Snd mX4_reckon g 66 (J 2)) (h3 : Snd mX4_reckon g 74 (J 3)) (h4 : Snd mX4_reckon g 112 (J 4)) : Snd mX4_reckon g 112 (bX4_reckon_4 g J) := by
  unfold bX4_reckon_4
  refine s_iinc (pc := 112) (i := 3) (v := 1) ?_ dX4_reckon_112 (by decide) (by decide)
  exact s_goto (pc := 115) (tgt := 74) h3 dX4_reckon_115 (by decide)
def jX4_reckon (g : GE) : Nat → Nat → KT
  | 0, _ => fun _ _ _ => none
  | n + 1, 0 => bX4_reckon_0 g (jX4_reckon g n)
  | n + 1, 1 => bX4_reckon_1 g (jX4_reckon g n)
  | n + 1, 2 => bX4_reckon_2 g (jX4_reckon g n)
  | n + 1, 3 => bX4_reckon_3 g (jX4_reckon g n)
  | n + 1, 4 => bX4_reckon_4 g (jX4_reckon g n)
  | _ + 1, _ + 5 => fun _ _ _ => none
theorem sjX4_reckon (g : GE) : ∀ n, Snd mX4_reckon g 0 (jX4_reckon g n 0) ∧ Snd mX4_reckon g 28 (jX4_reckon g n 1) ∧ Snd mX4_reckon g 66 (jX4_reckon g n 2) ∧ Snd mX4_reckon g 74 (jX4_reckon g n 3) ∧ Snd mX4_reckon g 112 (jX4_reckon g n 4)
  | 0 => ⟨s_none, s_none, s_none, s_none, s_none⟩
  | n + 1 => by
    obtain ⟨-, h1, h2, h3, h4⟩ := sjX4_reckon g n
    exact ⟨sbX4_reckon_0 g _ h1 h2 h3 h4, sbX4_reckon_1 g _ h1 h2 h3 h4, sbX4_reckon_2 g _ h1 h2 h3 h4, sbX4_reckon_3 g _ h1 h2 h3 h4, sbX4_reckon_4 g _ h1 h2 h3 h4⟩
def kX4_reckon (g : GE) : KT := jX4_reckon g g.1 0
theorem sX4_reckon (g : GE) : Snd mX4_reckon g 0 (kX4_reckon g) := (sjX4_reckon g g.1).1
def fX4_reckon : FT := fun g av w => if (ent av).length ≤ 4 then kX4_reckon g [] (entp 4 av) w else none
theorem tX4_reckon : Mt yX4_reckon cX4_reckon 4 none 2 53 fX4_reckon := Mt.of (K := kX4_reckon) (by decide +kernel) (fun _ _ _ => rfl) sX4_reckon
theorem crX4_reckon : yX4_reckon.cls ≠ "java/lang/invoke/MethodHandle" ∧ yX4_reckon.cls ≠ "java/lang/invoke/VarHandle" ∧ (parseMethodDescriptor yX4_reckon.desc).map (fun d => d.parameters.length) = some 2 := by decide +kernel
theorem dX4_broken_0 : decode cX4_broken 0 = .ok (.aload_n 0, 1) := by decide +kernel
theorem dX4_broken_1 : decode cX4_broken 1 = .ok (.getfield 71, 3) := by decide +kernel
theorem dX4_broken_4 : decode cX4_broken 4 = .ok (.aload_n 1, 1) := by decide +kernel
theorem dX4_broken_5 : decode cX4_broken 5 = .ok (.getfield 110, 3) := by decide +kernel
theorem dX4_broken_8 : decode cX4_broken 8 = .ok (.if_icmp .ne 7, 3) := by decide +kernel
theorem dX4_broken_11 : decode cX4_broken 11 = .ok (.iconst 0, 1) := by decide +kernel
theorem dX4_broken_12 : decode cX4_broken 12 = .ok (.goto 4, 3) := by decide +kernel
theorem dX4_broken_15 : decode cX4_broken 15 = .ok (.iconst 1, 1) := by decide +kernel
theorem dX4_broken_16 : decode cX4_broken 16 = .ok (.aload_n 0, 1) := by decide +kernel
theorem dX4_broken_17 : decode cX4_broken 17 = .ok (.getfield 74, 3) := by decide +kernel
theorem dX4_broken_20 : decode cX4_broken 20 = .ok (.ifCond .eq 7, 3) := by decide +kernel
theorem dX4_broken_23 : decode cX4_broken 23 = .ok (.iconst 2, 1) := by decide +kernel
theorem dX4_broken_24 : decode cX4_broken 24 = .ok (.goto 4, 3) := by decide +kernel
theorem dX4_broken_27 : decode cX4_broken 27 = .ok (.iconst 0, 1) := by decide +kernel
theorem dX4_broken_28 : decode cX4_broken 28 = .ok (.ior, 1) := by decide +kernel
theorem dX4_broken_29 : decode cX4_broken 29 = .ok (.istore_n 2, 1) := by decide +kernel
theorem dX4_broken_30 : decode cX4_broken 30 = .ok (.iconst 0, 1) := by decide +kernel
theorem dX4_broken_31 : decode cX4_broken 31 = .ok (.istore_n 3, 1) := by decide +kernel
theorem dX4_broken_32 : decode cX4_broken 32 = .ok (.iload_n 3, 1) := by decide +kernel
theorem dX4_broken_33 : decode cX4_broken 33 = .ok (.aload_n 1, 1) := by decide +kernel
theorem dX4_broken_34 : decode cX4_broken 34 = .ok (.getfield 113, 3) := by decide +kernel
theorem dX4_broken_37 : decode cX4_broken 37 = .ok (.if_icmp .ge 28, 3) := by decide +kernel
theorem dX4_broken_40 : decode cX4_broken 40 = .ok (.aload_n 0, 1) := by decide +kernel
theorem dX4_broken_41 : decode cX4_broken 41 = .ok (.getfield 18, 3) := by decide +kernel
theorem dX4_broken_44 : decode cX4_broken 44 = .ok (.iload_n 3, 1) := by decide +kernel
theorem dX4_broken_45 : decode cX4_broken 45 = .ok (.iaload, 1) := by decide +kernel
theorem dX4_broken_46 : decode cX4_broken 46 = .ok (.aload_n 1, 1) := by decide +kernel
theorem dX4_broken_47 : decode cX4_broken 47 = .ok (.getfield 116, 3) := by decide +kernel
theorem dX4_broken_50 : decode cX4_broken 50 = .ok (.iload_n 3, 1) := by decide +kernel
theorem dX4_broken_51 : decode cX4_broken 51 = .ok (.iaload, 1) := by decide +kernel
theorem dX4_broken_52 : decode cX4_broken 52 = .ok (.if_icmp .ge 7, 3) := by decide +kernel
theorem dX4_broken_55 : decode cX4_broken 55 = .ok (.iload_n 2, 1) := by decide +kernel
theorem dX4_broken_56 : decode cX4_broken 56 = .ok (.iconst 4, 1) := by decide +kernel
theorem dX4_broken_57 : decode cX4_broken 57 = .ok (.ior, 1) := by decide +kernel
theorem dX4_broken_58 : decode cX4_broken 58 = .ok (.istore_n 2, 1) := by decide +kernel
theorem dX4_broken_59 : decode cX4_broken 59 = .ok (.iinc 3 1, 3) := by decide +kernel
theorem dX4_broken_62 : decode cX4_broken 62 = .ok (.goto (-30), 3) := by decide +kernel
theorem dX4_broken_65 : decode cX4_broken 65 = .ok (.iload_n 2, 1) := by decide +kernel
theorem dX4_broken_66 : decode cX4_broken 66 = .ok (.ireturn, 1) := by decide +kernel
abbrev mX4_broken : MD := (cX4_broken, "BlottedDeed$Row", 4, 1, 30, (some .int), "broken", [])
def bX4_broken_0 (g : GE) (J : Nat → KT) : KT := i_aload 0 (i_getf 4 4 (i_aload 1 (i_getf 2 14 (i_icne (i_push (.int 1) (i_jmp [true, true, false, false] (J 1))) (i_push (.int 0) (i_jmp [true, true, false, false] (J 1)))))))
def bX4_broken_1 (g : GE) (J : Nat → KT) : KT := i_aload 0 (i_getf 4 5 (i_ifeq (i_push (.int 0) (i_jmp [true, true, false, false] (J 2))) (i_push (.int 2) (i_jmp [true, true, false, false] (J 2)))))
def bX4_broken_2 (g : GE) (J : Nat → KT) : KT := i_ior (i_istore 2 (i_push (.int 0) (i_istore 3 (i_jmp [true, true, true, true] (J 3)))))
def bX4_broken_3 (g : GE) (J : Nat → KT) : KT := i_iload 3 (i_aload 1 (i_getf 2 9 (i_icge (i_iload 2 (i_ireturn)) (i_aload 0 (i_getf 4 2 (i_iload 3 (i_iaload (i_aload 1 (i_getf 2 2 (i_iload 3 (i_iaload (i_icge (i_jmp [true, true, true, true] (J 4)) (i_iload 2 (i_push (.int 4) (i_ior (i_istore 2 (i_jmp [true, true, true, true] (J 4))))))))))))))))))
def bX4_broken_4 (g : GE) (J : Nat → KT) : KT := i_iinc 3 1 (i_jmp [true, true, true, true] (J 3))
theorem sbX4_broken_0 (g : GE) (J : Nat → KT) (h1 : Snd mX4_broken g 16 (J 1)) (h2 : Snd mX4_broken g 28 (J 2)) (h3 : Snd mX4_broken g 32 (J 3)) (h4 : Snd mX4_broken g 59 (J 4)) : Snd mX4_broken g 0 (bX4_broken_0 g J) := by
  unfold bX4_broken_0
  refine s_aload_n (pc := 0) (i := 0) ?_ dX4_broken_0 rfl
  refine s_getf (pc := 1) (ci := 4) (f := 4) (T := TX4) ?_ ginX4 rfl (by decide) wt_241 dX4_broken_1
  refine s_aload_n (pc := 4) (i := 1) ?_ dX4_broken_4 rfl
  refine s_getf (pc := 5) (ci := 2) (f := 14) (T := TX2) ?_ ginX2 rfl (by decide) wt_150 dX4_broken_5
  refine s_icne (pc := 8) (tgt := 15) ?_ ?_ dX4_broken_8 (by decide)
  · skip
    refine s_iconst (pc := 15) (v := 1) ?_ dX4_broken_15 (by decide)
    exact s_fall (pc := 16) h1
  · skip
    refine s_iconst (pc := 11) (v := 0) ?_ dX4_broken_11 (by decide)
    exact s_goto (pc := 12) (tgt := 16) h1 dX4_broken_12 (by decide)
theorem sbX4_broken_1 (g : GE) (J : Nat → KT) (h1 : Snd mX4_broken g 16 (J 1)) (h2 : Snd mX4_broken g 28 (J 2)) (h3 : Snd mX4_broken g 32 (J 3)) (h4 : Snd mX4_broken g 59 (J 4)) : Snd mX4_broken g 16 (bX4_broken_1 g J) := by
  unfold bX4_broken_1
  refine s_aload_n (pc := 16) (i := 0) ?_ dX4_broken_16 rfl
  refine s_getf (pc := 17) (ci := 4) (f := 5) (T := TX4) ?_ ginX4 rfl (by decide) wt_242 dX4_broken_17
  refine s_ifeq (pc := 20) (tgt := 27) ?_ ?_ dX4_broken_20 (by decide)
  · skip
    refine s_iconst (pc := 27) (v := 0) ?_ dX4_broken_27 (by decide)
    exact s_fall (pc := 28) h2
  · skip
    refine s_iconst (pc := 23) (v := 2) ?_ dX4_broken_23 (by decide)
    exact s_goto (pc := 24) (tgt := 28) h2 dX4_broken_24 (by decide)
theorem sbX4_broken_2 (g : GE) (J : Nat → KT) (h1 : Snd mX4_broken g 16 (J 1)) (h2 : Snd mX4_broken g 28 (J 2)) (h3 : Snd mX4_broken g 32 (J 3)) (h4 : Snd mX4_broken g 59 (J 4)) : Snd mX4_broken g 28 (bX4_broken_2 g J) := by
  unfold bX4_broken_2
  refine s_ior (pc := 28) ?_ dX4_broken_28
  refine s_istore_n (pc := 29) (i := 2) ?_ dX4_broken_29 rfl (by decide)
  refine s_iconst (pc := 30) (v := 0) ?_ dX4_broken_30 (by decide)
  refine s_istore_n (pc := 31) (i := 3) ?_ dX4_broken_31 rfl (by decide)
  exact s_fall (pc := 32) h3
theorem sbX4_broken_3 (g : GE) (J : Nat → KT) (h1 : Snd mX4_broken g 16 (J 1)) (h2 : Snd mX4_broken g 28 (J 2)) (h3 : Snd mX4_broken g 32 (J 3)) (h4 : Snd mX4_broken g 59 (J 4)) : Snd mX4_broken g 32 (bX4_broken_3 g J) := by
  unfold bX4_broken_3
  refine s_iload_n (pc := 32) (i := 3) ?_ dX4_broken_32 rfl
  refine s_aload_n (pc := 33) (i := 1) ?_ dX4_broken_33 rfl
  refine s_getf (pc := 34) (ci := 2) (f := 9) (T := TX2) ?_ ginX2 rfl (by decide) wt_132 dX4_broken_34
  refine s_icge (pc := 37) (tgt := 65) ?_ ?_ dX4_broken_37 (by decide)
  · skip
    refine s_iload_n (pc := 65) (i := 2) ?_ dX4_broken_65 rfl
    exact s_ireturn (pc := 66) rfl dX4_broken_66
  · skip
    refine s_aload_n (pc := 40) (i := 0) ?_ dX4_broken_40 rfl
    refine s_getf (pc := 41) (ci := 4) (f := 2) (T := TX4) ?_ ginX4 rfl (by decide) wt_237 dX4_broken_41
    refine s_iload_n (pc := 44) (i := 3) ?_ dX4_broken_44 rfl
    refine s_iaload (pc := 45) ?_ dX4_broken_45
    refine s_aload_n (pc := 46) (i := 1) ?_ dX4_broken_46 rfl
    refine s_getf (pc := 47) (ci := 2) (f := 2) (T := TX2) ?_ ginX2 rfl (by decide) wt_113 dX4_broken_47
    refine s_iload_n (pc := 50) (i := 3) ?_ dX4_broken_50 rfl
    refine s_iaload (pc := 51) ?_ dX4_broken_51
    refine s_icge (pc := 52) (tgt := 59) ?_ ?_ dX4_broken_52 (by decide)
    · skip
      exact s_fall (pc := 59) h4
    · skip
      refine s_iload_n (pc := 55) (i := 2) ?_ dX4_broken_55 rfl
      refine s_iconst (pc := 56) (v := 4) ?_ dX4_broken_56 (by decide)
      refine s_ior (pc := 57) ?_ dX4_broken_57
      refine s_istore_n (pc := 58) (i := 2) ?_ dX4_broken_58 rfl (by decide)
      exact s_fall (pc := 59) h4
theorem sbX4_broken_4 (g : GE) (J : Nat → KT) (h1 : Snd mX4_broken g 16 (J 1)) (h2 : Snd mX4_broken g 28 (J 2)) (h3 : Snd mX4_broken g 32 (J 3)) (h4 : Snd mX4_broken g 59 (J 4)) : Snd mX4_broken g 59 (bX4_broken_4 g J) := by
  unfold bX4_broken_4
  refine s_iinc (pc := 59) (i := 3) (v := 1) ?_ dX4_broken_59 (by decide) (by decide)
  exact s_goto (pc := 62) (tgt := 32) h3 dX4_broken_62 (by decide)
def jX4_broken (g : GE) : Nat → Nat → KT
  | 0, _ => fun _ _ _ => none
  | n + 1, 0 => bX4_broken_0 g (jX4_broken g n)
  | n + 1, 1 => bX4_broken_1 g (jX4_broken g n)
  | n + 1, 2 => bX4_broken_2 g (jX4_broken g n)
  | n + 1, 3 => bX4_broken_3 g (jX4_broken g n)
  | n + 1, 4 => bX4_broken_4 g (jX4_broken g n)
  | _ + 1, _ + 5 => fun _ _ _ => none
theorem sjX4_broken (g : GE) : ∀ n, Snd mX4_broken g 0 (jX4_broken g n 0) ∧ Snd mX4_broken g 16 (jX4_broken g n 1) ∧ Snd mX4_broken g 28 (jX4_broken g n 2) ∧ Snd mX4_broken g 32 (jX4_broken g n 3) ∧ Snd mX4_broken g 59 (jX4_broken g n 4)
  | 0 => ⟨s_none, s_none, s_none, s_none, s_none⟩
  | n + 1 => by
    obtain ⟨-, h1, h2, h3, h4⟩ := sjX4_broken g n
    exact ⟨sbX4_broken_0 g _ h1 h2 h3 h4, sbX4_broken_1 g _ h1 h2 h3 h4, sbX4_broken_2 g _ h1 h2 h3 h4, sbX4_broken_3 g _ h1 h2 h3 h4, sbX4_broken_4 g _ h1 h2 h3 h4⟩
def kX4_broken (g : GE) : KT := jX4_broken g g.1 0
theorem sX4_broken (g : GE) : Snd mX4_broken g 0 (kX4_broken g) := (sjX4_broken g g.1).1
def fX4_broken : FT := fun g av w => if (ent av).length ≤ 4 then kX4_broken g [] (entp 4 av) w else none
theorem tX4_broken : Mt yX4_broken cX4_broken 4 (some .int) 1 30 fX4_broken := Mt.of (K := kX4_broken) (by decide +kernel) (fun _ _ _ => rfl) sX4_broken
theorem crX4_broken : yX4_broken.cls ≠ "java/lang/invoke/MethodHandle" ∧ yX4_broken.cls ≠ "java/lang/invoke/VarHandle" ∧ (parseMethodDescriptor yX4_broken.desc).map (fun d => d.parameters.length) = some 1 := by decide +kernel
theorem dX0_isLawful_0 : decode cX0_isLawful 0 = .ok (.aload_n 0, 1) := by decide +kernel
theorem dX0_isLawful_1 : decode cX0_isLawful 1 = .ok (.getfield 12, 3) := by decide +kernel
theorem dX0_isLawful_4 : decode cX0_isLawful 4 = .ok (.getfield 33, 3) := by decide +kernel
theorem dX0_isLawful_7 : decode cX0_isLawful 7 = .ok (.iload_n 1, 1) := by decide +kernel
theorem dX0_isLawful_8 : decode cX0_isLawful 8 = .ok (.iload_n 2, 1) := by decide +kernel
theorem dX0_isLawful_9 : decode cX0_isLawful 9 = .ok (.iastore, 1) := by decide +kernel
theorem dX0_isLawful_10 : decode cX0_isLawful 10 = .ok (.aload_n 0, 1) := by decide +kernel
theorem dX0_isLawful_11 : decode cX0_isLawful 11 = .ok (.getfield 12, 3) := by decide +kernel
theorem dX0_isLawful_14 : decode cX0_isLawful 14 = .ok (.aload_n 0, 1) := by decide +kernel
theorem dX0_isLawful_15 : decode cX0_isLawful 15 = .ok (.getfield 25, 3) := by decide +kernel
theorem dX0_isLawful_18 : decode cX0_isLawful 18 = .ok (.iconst (-1), 1) := by decide +kernel
theorem dX0_isLawful_19 : decode cX0_isLawful 19 = .ok (.invokevirtual 68, 3) := by decide +kernel
theorem dX0_isLawful_22 : decode cX0_isLawful 22 = .ok (.aload_n 0, 1) := by decide +kernel
theorem dX0_isLawful_23 : decode cX0_isLawful 23 = .ok (.getfield 12, 3) := by decide +kernel
theorem dX0_isLawful_26 : decode cX0_isLawful 26 = .ok (.aload_n 0, 1) := by decide +kernel
theorem dX0_isLawful_27 : decode cX0_isLawful 27 = .ok (.getfield 25, 3) := by decide +kernel
theorem dX0_isLawful_30 : decode cX0_isLawful 30 = .ok (.invokevirtual 72, 3) := by decide +kernel
theorem dX0_isLawful_33 : decode cX0_isLawful 33 = .ok (.ifCond .ne 7, 3) := by decide +kernel
theorem dX0_isLawful_36 : decode cX0_isLawful 36 = .ok (.iconst 1, 1) := by decide +kernel
theorem dX0_isLawful_37 : decode cX0_isLawful 37 = .ok (.goto 4, 3) := by decide +kernel
theorem dX0_isLawful_40 : decode cX0_isLawful 40 = .ok (.iconst 0, 1) := by decide +kernel
theorem dX0_isLawful_41 : decode cX0_isLawful 41 = .ok (.ireturn, 1) := by decide +kernel
abbrev mX0_isLawful : MD := (cX0_isLawful, "BlottedDeed$Anew", 3, 3, 76, (some .boolean), "isLawful", [])
def bX0_isLawful_0 (g : GE) (J : Nat → KT) : KT := i_aload 0 (i_getf 0 0 (i_getf 4 0 (i_iload 1 (i_iload 2 (i_iastore (i_aload 0 (i_getf 0 0 (i_aload 0 (i_getf 0 2 (i_push (.int (-1)) (i_cv fX4_reckon g 2 4 (i_aload 0 (i_getf 0 0 (i_aload 0 (i_getf 0 2 (i_cv fX4_broken g 1 4 (i_ifne (i_push (.int 0) (i_jmp [false, false, false] (J 1))) (i_push (.int 1) (i_jmp [false, false, false] (J 1))))))))))))))))))))
def bX0_isLawful_1 (g : GE) (J : Nat → KT) : KT := i_zreturn
theorem sbX0_isLawful_0 (g : GE) (J : Nat → KT) (h1 : Snd mX0_isLawful g 41 (J 1)) : Snd mX0_isLawful g 0 (bX0_isLawful_0 g J) := by
  unfold bX0_isLawful_0
  refine s_aload_n (pc := 0) (i := 0) ?_ dX0_isLawful_0 rfl
  refine s_getf (pc := 1) (ci := 0) (f := 0) (T := TX0) ?_ ginX0 rfl (by decide) wt_388 dX0_isLawful_1
  refine s_getf (pc := 4) (ci := 4) (f := 0) (T := TX4) ?_ ginX4 rfl (by decide) wt_235 dX0_isLawful_4
  refine s_iload_n (pc := 7) (i := 1) ?_ dX0_isLawful_7 rfl
  refine s_iload_n (pc := 8) (i := 2) ?_ dX0_isLawful_8 rfl
  refine s_iastore (pc := 9) ?_ dX0_isLawful_9
  refine s_aload_n (pc := 10) (i := 0) ?_ dX0_isLawful_10 rfl
  refine s_getf (pc := 11) (ci := 0) (f := 0) (T := TX0) ?_ ginX0 rfl (by decide) wt_388 dX0_isLawful_11
  refine s_aload_n (pc := 14) (i := 0) ?_ dX0_isLawful_14 rfl
  refine s_getf (pc := 15) (ci := 0) (f := 2) (T := TX0) ?_ ginX0 rfl (by decide) wt_390 dX0_isLawful_15
  refine s_iconst (pc := 18) (v := (-1)) ?_ dX0_isLawful_18 (by decide)
  refine s_cv (pc := 19) (n := 2) (ci := 4) ?_ tX4_reckon rfl rfl wt_1249 wt_272 wt_273 wt_9 wt_274 ⟨crX4_reckon, by decide, by decide⟩ dX0_isLawful_19
  refine s_aload_n (pc := 22) (i := 0) ?_ dX0_isLawful_22 rfl
  refine s_getf (pc := 23) (ci := 0) (f := 0) (T := TX0) ?_ ginX0 rfl (by decide) wt_388 dX0_isLawful_23
  refine s_aload_n (pc := 26) (i := 0) ?_ dX0_isLawful_26 rfl
  refine s_getf (pc := 27) (ci := 0) (f := 2) (T := TX0) ?_ ginX0 rfl (by decide) wt_390 dX0_isLawful_27
  refine s_cv (pc := 30) (n := 1) (ci := 4) ?_ tX4_broken rfl rfl wt_1250 wt_288 wt_289 wt_9 wt_290 ⟨crX4_broken, by decide, by decide⟩ dX0_isLawful_30
  refine s_ifne (pc := 33) (tgt := 40) ?_ ?_ dX0_isLawful_33 (by decide)
  · skip
    refine s_iconst (pc := 40) (v := 0) ?_ dX0_isLawful_40 (by decide)
    exact s_fall (pc := 41) h1
  · skip
    refine s_iconst (pc := 36) (v := 1) ?_ dX0_isLawful_36 (by decide)
    exact s_goto (pc := 37) (tgt := 41) h1 dX0_isLawful_37 (by decide)
theorem sbX0_isLawful_1 (g : GE) (J : Nat → KT) (h1 : Snd mX0_isLawful g 41 (J 1)) : Snd mX0_isLawful g 41 (bX0_isLawful_1 g J) := by
  unfold bX0_isLawful_1
  exact s_zreturn (pc := 41) rfl dX0_isLawful_41
def jX0_isLawful (g : GE) : Nat → Nat → KT
  | 0, _ => fun _ _ _ => none
  | n + 1, 0 => bX0_isLawful_0 g (jX0_isLawful g n)
  | n + 1, 1 => bX0_isLawful_1 g (jX0_isLawful g n)
  | _ + 1, _ + 2 => fun _ _ _ => none
theorem sjX0_isLawful (g : GE) : ∀ n, Snd mX0_isLawful g 0 (jX0_isLawful g n 0) ∧ Snd mX0_isLawful g 41 (jX0_isLawful g n 1)
  | 0 => ⟨s_none, s_none⟩
  | n + 1 => by
    obtain ⟨-, h1⟩ := sjX0_isLawful g n
    exact ⟨sbX0_isLawful_0 g _ h1, sbX0_isLawful_1 g _ h1⟩
def kX0_isLawful (g : GE) : KT := jX0_isLawful g g.1 0
theorem sX0_isLawful (g : GE) : Snd mX0_isLawful g 0 (kX0_isLawful g) := (sjX0_isLawful g g.1).1
def fX0_isLawful : FT := fun g av w => if (ent av).length ≤ 3 then kX0_isLawful g [] (entp 3 av) w else none
theorem tX0_isLawful : Mt yX0_isLawful cX0_isLawful 3 (some .boolean) 3 76 fX0_isLawful := Mt.of (K := kX0_isLawful) (by decide +kernel) (fun _ _ _ => rfl) sX0_isLawful
theorem crX0_isLawful : yX0_isLawful.cls ≠ "java/lang/invoke/MethodHandle" ∧ yX0_isLawful.cls ≠ "java/lang/invoke/VarHandle" ∧ (parseMethodDescriptor yX0_isLawful.desc).map (fun d => d.parameters.length) = some 2 := by decide +kernel
theorem dX0_isWeak_0 : decode cX0_isWeak 0 = .ok (.aload_n 0, 1) := by decide +kernel
theorem dX0_isWeak_1 : decode cX0_isWeak 1 = .ok (.iload_n 1, 1) := by decide +kernel
theorem dX0_isWeak_2 : decode cX0_isWeak 2 = .ok (.invokevirtual 54, 3) := by decide +kernel
theorem dX0_isWeak_5 : decode cX0_isWeak 5 = .ok (.istore_n 3, 1) := by decide +kernel
theorem dX0_isWeak_6 : decode cX0_isWeak 6 = .ok (.aload_n 0, 1) := by decide +kernel
theorem dX0_isWeak_7 : decode cX0_isWeak 7 = .ok (.getfield 12, 3) := by decide +kernel
theorem dX0_isWeak_10 : decode cX0_isWeak 10 = .ok (.getfield 33, 3) := by decide +kernel
theorem dX0_isWeak_13 : decode cX0_isWeak 13 = .ok (.iload_n 1, 1) := by decide +kernel
theorem dX0_isWeak_14 : decode cX0_isWeak 14 = .ok (.iaload, 1) := by decide +kernel
theorem dX0_isWeak_15 : decode cX0_isWeak 15 = .ok (.istore 4, 2) := by decide +kernel
theorem dX0_isWeak_17 : decode cX0_isWeak 17 = .ok (.iconst 0, 1) := by decide +kernel
theorem dX0_isWeak_18 : decode cX0_isWeak 18 = .ok (.istore 5, 2) := by decide +kernel
theorem dX0_isWeak_20 : decode cX0_isWeak 20 = .ok (.iconst 0, 1) := by decide +kernel
theorem dX0_isWeak_21 : decode cX0_isWeak 21 = .ok (.istore 6, 2) := by decide +kernel
theorem dX0_isWeak_23 : decode cX0_isWeak 23 = .ok (.iconst (-1), 1) := by decide +kernel
theorem dX0_isWeak_24 : decode cX0_isWeak 24 = .ok (.istore 7, 2) := by decide +kernel
theorem dX0_isWeak_26 : decode cX0_isWeak 26 = .ok (.iconst 0, 1) := by decide +kernel
theorem dX0_isWeak_27 : decode cX0_isWeak 27 = .ok (.istore 8, 2) := by decide +kernel
theorem dX0_isWeak_29 : decode cX0_isWeak 29 = .ok (.iload 8, 2) := by decide +kernel
theorem dX0_isWeak_31 : decode cX0_isWeak 31 = .ok (.iload_n 3, 1) := by decide +kernel
theorem dX0_isWeak_32 : decode cX0_isWeak 32 = .ok (.if_icmp .ge 72, 3) := by decide +kernel
theorem dX0_isWeak_35 : decode cX0_isWeak 35 = .ok (.aload_n 0, 1) := by decide +kernel
theorem dX0_isWeak_36 : decode cX0_isWeak 36 = .ok (.iload_n 1, 1) := by decide +kernel
theorem dX0_isWeak_37 : decode cX0_isWeak 37 = .ok (.aload_n 0, 1) := by decide +kernel
theorem dX0_isWeak_38 : decode cX0_isWeak 38 = .ok (.getfield 21, 3) := by decide +kernel
theorem dX0_isWeak_41 : decode cX0_isWeak 41 = .ok (.getfield 58, 3) := by decide +kernel
theorem dX0_isWeak_44 : decode cX0_isWeak 44 = .ok (.iload 8, 2) := by decide +kernel
theorem dX0_isWeak_46 : decode cX0_isWeak 46 = .ok (.iaload, 1) := by decide +kernel
theorem dX0_isWeak_47 : decode cX0_isWeak 47 = .ok (.invokevirtual 61, 3) := by decide +kernel
theorem dX0_isWeak_50 : decode cX0_isWeak 50 = .ok (.ifCond .eq 48, 3) := by decide +kernel
theorem dX0_isWeak_53 : decode cX0_isWeak 53 = .ok (.iload 6, 2) := by decide +kernel
theorem dX0_isWeak_55 : decode cX0_isWeak 55 = .ok (.ifCond .ne 22, 3) := by decide +kernel
theorem dX0_isWeak_58 : decode cX0_isWeak 58 = .ok (.iload 5, 2) := by decide +kernel
theorem dX0_isWeak_60 : decode cX0_isWeak 60 = .ok (.ifCond .eq 21, 3) := by decide +kernel
theorem dX0_isWeak_63 : decode cX0_isWeak 63 = .ok (.aload_n 0, 1) := by decide +kernel
theorem dX0_isWeak_64 : decode cX0_isWeak 64 = .ok (.getfield 12, 3) := by decide +kernel
theorem dX0_isWeak_67 : decode cX0_isWeak 67 = .ok (.getfield 65, 3) := by decide +kernel
theorem dX0_isWeak_70 : decode cX0_isWeak 70 = .ok (.iload_n 2, 1) := by decide +kernel
theorem dX0_isWeak_71 : decode cX0_isWeak 71 = .ok (.iaload, 1) := by decide +kernel
theorem dX0_isWeak_72 : decode cX0_isWeak 72 = .ok (.iload 7, 2) := by decide +kernel
theorem dX0_isWeak_74 : decode cX0_isWeak 74 = .ok (.if_icmp .eq 7, 3) := by decide +kernel
theorem dX0_isWeak_77 : decode cX0_isWeak 77 = .ok (.iconst 1, 1) := by decide +kernel
theorem dX0_isWeak_78 : decode cX0_isWeak 78 = .ok (.goto 4, 3) := by decide +kernel
theorem dX0_isWeak_81 : decode cX0_isWeak 81 = .ok (.iconst 0, 1) := by decide +kernel
theorem dX0_isWeak_82 : decode cX0_isWeak 82 = .ok (.istore 6, 2) := by decide +kernel
theorem dX0_isWeak_84 : decode cX0_isWeak 84 = .ok (.aload_n 0, 1) := by decide +kernel
theorem dX0_isWeak_85 : decode cX0_isWeak 85 = .ok (.getfield 12, 3) := by decide +kernel
theorem dX0_isWeak_88 : decode cX0_isWeak 88 = .ok (.getfield 65, 3) := by decide +kernel
theorem dX0_isWeak_91 : decode cX0_isWeak 91 = .ok (.iload_n 2, 1) := by decide +kernel
theorem dX0_isWeak_92 : decode cX0_isWeak 92 = .ok (.iaload, 1) := by decide +kernel
theorem dX0_isWeak_93 : decode cX0_isWeak 93 = .ok (.istore 7, 2) := by decide +kernel
theorem dX0_isWeak_95 : decode cX0_isWeak 95 = .ok (.iconst 1, 1) := by decide +kernel
theorem dX0_isWeak_96 : decode cX0_isWeak 96 = .ok (.istore 5, 2) := by decide +kernel
theorem dX0_isWeak_98 : decode cX0_isWeak 98 = .ok (.iinc 8 1, 3) := by decide +kernel
theorem dX0_isWeak_101 : decode cX0_isWeak 101 = .ok (.goto (-72), 3) := by decide +kernel
theorem dX0_isWeak_104 : decode cX0_isWeak 104 = .ok (.aload_n 0, 1) := by decide +kernel
theorem dX0_isWeak_105 : decode cX0_isWeak 105 = .ok (.getfield 12, 3) := by decide +kernel
theorem dX0_isWeak_108 : decode cX0_isWeak 108 = .ok (.getfield 33, 3) := by decide +kernel
theorem dX0_isWeak_111 : decode cX0_isWeak 111 = .ok (.iload_n 1, 1) := by decide +kernel
theorem dX0_isWeak_112 : decode cX0_isWeak 112 = .ok (.iload 4, 2) := by decide +kernel
theorem dX0_isWeak_114 : decode cX0_isWeak 114 = .ok (.iastore, 1) := by decide +kernel
theorem dX0_isWeak_115 : decode cX0_isWeak 115 = .ok (.iload 6, 2) := by decide +kernel
theorem dX0_isWeak_117 : decode cX0_isWeak 117 = .ok (.ireturn, 1) := by decide +kernel
abbrev mX0_isWeak : MD := (cX0_isWeak, "BlottedDeed$Anew", 9, 4, 99, (some .boolean), "isWeak", [])
def bX0_isWeak_0 (g : GE) (J : Nat → KT) : KT := i_aload 0 (i_iload 1 (i_cv fX0_candidatesAt g 1 0 (i_istore 3 (i_aload 0 (i_getf 0 0 (i_getf 4 0 (i_iload 1 (i_iaload (i_istore 4 (i_push (.int 0) (i_istore 5 (i_push (.int 0) (i_istore 6 (i_push (.int (-1)) (i_istore 7 (i_push (.int 0) (i_istore 8 (i_jmp [true, true, true, true, true, true, true, true, true] (J 1)))))))))))))))))))
def bX0_isWeak_1 (g : GE) (J : Nat → KT) : KT := i_iload 8 (i_iload 3 (i_icge (i_aload 0 (i_getf 0 0 (i_getf 4 0 (i_iload 1 (i_iload 4 (i_iastore (i_iload 6 (i_zreturn)))))))) (i_aload 0 (i_iload 1 (i_aload 0 (i_getf 0 1 (i_getf 1 0 (i_iload 8 (i_iaload (i_cv fX0_isLawful g 2 0 (i_ifeq (i_jmp [true, true, true, true, true, true, true, true, true] (J 5)) (i_iload 6 (i_ifne (i_jmp [true, true, true, true, true, false, false, false, true] (J 2)) (i_iload 5 (i_ifeq (i_jmp [true, true, true, true, true, false, false, false, true] (J 3)) (i_aload 0 (i_getf 0 0 (i_getf 4 3 (i_iload 2 (i_iaload (i_iload 7 (i_iceq (i_jmp [true, true, true, true, true, false, false, false, true] (J 3)) (i_jmp [true, true, true, true, true, false, false, false, true] (J 2))))))))))))))))))))))))
def bX0_isWeak_2 (g : GE) (J : Nat → KT) : KT := i_push (.int 1) (i_jmp [true, true, true, true, true, false, false, false, true] (J 4))
def bX0_isWeak_3 (g : GE) (J : Nat → KT) : KT := i_push (.int 0) (i_jmp [true, true, true, true, true, false, false, false, true] (J 4))
def bX0_isWeak_4 (g : GE) (J : Nat → KT) : KT := i_istore 6 (i_aload 0 (i_getf 0 0 (i_getf 4 3 (i_iload 2 (i_iaload (i_istore 7 (i_push (.int 1) (i_istore 5 (i_jmp [true, true, true, true, true, true, true, true, true] (J 5))))))))))
def bX0_isWeak_5 (g : GE) (J : Nat → KT) : KT := i_iinc 8 1 (i_jmp [true, true, true, true, true, true, true, true, true] (J 1))
theorem sbX0_isWeak_0 (g : GE) (J : Nat → KT) (h1 : Snd mX0_isWeak g 29 (J 1)) (h2 : Snd mX0_isWeak g 77 (J 2)) (h3 : Snd mX0_isWeak g 81 (J 3)) (h4 : Snd mX0_isWeak g 82 (J 4)) (h5 : Snd mX0_isWeak g 98 (J 5)) : Snd mX0_isWeak g 0 (bX0_isWeak_0 g J) := by
  unfold bX0_isWeak_0
  refine s_aload_n (pc := 0) (i := 0) ?_ dX0_isWeak_0 rfl
  refine s_iload_n (pc := 1) (i := 1) ?_ dX0_isWeak_1 rfl
  refine s_cv (pc := 2) (n := 1) (ci := 0) ?_ tX0_candidatesAt rfl rfl wt_1244 wt_1232 wt_1233 wt_14 wt_1234 ⟨crX0_candidatesAt, by decide, by decide⟩ dX0_isWeak_2
  refine s_istore_n (pc := 5) (i := 3) ?_ dX0_isWeak_5 rfl (by decide)
  refine s_aload_n (pc := 6) (i := 0) ?_ dX0_isWeak_6 rfl
  refine s_getf (pc := 7) (ci := 0) (f := 0) (T := TX0) ?_ ginX0 rfl (by decide) wt_388 dX0_isWeak_7
  refine s_getf (pc := 10) (ci := 4) (f := 0) (T := TX4) ?_ ginX4 rfl (by decide) wt_235 dX0_isWeak_10
  refine s_iload_n (pc := 13) (i := 1) ?_ dX0_isWeak_13 rfl
  refine s_iaload (pc := 14) ?_ dX0_isWeak_14
  refine s_istore (pc := 15) (i := 4) ?_ dX0_isWeak_15 (by decide)
  refine s_iconst (pc := 17) (v := 0) ?_ dX0_isWeak_17 (by decide)
  refine s_istore (pc := 18) (i := 5) ?_ dX0_isWeak_18 (by decide)
  refine s_iconst (pc := 20) (v := 0) ?_ dX0_isWeak_20 (by decide)
  refine s_istore (pc := 21) (i := 6) ?_ dX0_isWeak_21 (by decide)
  refine s_iconst (pc := 23) (v := (-1)) ?_ dX0_isWeak_23 (by decide)
  refine s_istore (pc := 24) (i := 7) ?_ dX0_isWeak_24 (by decide)
  refine s_iconst (pc := 26) (v := 0) ?_ dX0_isWeak_26 (by decide)
  refine s_istore (pc := 27) (i := 8) ?_ dX0_isWeak_27 (by decide)
  exact s_fall (pc := 29) h1
theorem sbX0_isWeak_1 (g : GE) (J : Nat → KT) (h1 : Snd mX0_isWeak g 29 (J 1)) (h2 : Snd mX0_isWeak g 77 (J 2)) (h3 : Snd mX0_isWeak g 81 (J 3)) (h4 : Snd mX0_isWeak g 82 (J 4)) (h5 : Snd mX0_isWeak g 98 (J 5)) : Snd mX0_isWeak g 29 (bX0_isWeak_1 g J) := by
  unfold bX0_isWeak_1
  refine s_iload (pc := 29) (i := 8) ?_ dX0_isWeak_29
  refine s_iload_n (pc := 31) (i := 3) ?_ dX0_isWeak_31 rfl
  refine s_icge (pc := 32) (tgt := 104) ?_ ?_ dX0_isWeak_32 (by decide)
  · skip
    refine s_aload_n (pc := 104) (i := 0) ?_ dX0_isWeak_104 rfl
    refine s_getf (pc := 105) (ci := 0) (f := 0) (T := TX0) ?_ ginX0 rfl (by decide) wt_388 dX0_isWeak_105
    refine s_getf (pc := 108) (ci := 4) (f := 0) (T := TX4) ?_ ginX4 rfl (by decide) wt_235 dX0_isWeak_108
    refine s_iload_n (pc := 111) (i := 1) ?_ dX0_isWeak_111 rfl
    refine s_iload (pc := 112) (i := 4) ?_ dX0_isWeak_112
    refine s_iastore (pc := 114) ?_ dX0_isWeak_114
    refine s_iload (pc := 115) (i := 6) ?_ dX0_isWeak_115
    exact s_zreturn (pc := 117) rfl dX0_isWeak_117
  · skip
    refine s_aload_n (pc := 35) (i := 0) ?_ dX0_isWeak_35 rfl
    refine s_iload_n (pc := 36) (i := 1) ?_ dX0_isWeak_36 rfl
    refine s_aload_n (pc := 37) (i := 0) ?_ dX0_isWeak_37 rfl
    refine s_getf (pc := 38) (ci := 0) (f := 1) (T := TX0) ?_ ginX0 rfl (by decide) wt_389 dX0_isWeak_38
    refine s_getf (pc := 41) (ci := 1) (f := 0) (T := TX1) ?_ ginX1 rfl (by decide) wt_78 dX0_isWeak_41
    refine s_iload (pc := 44) (i := 8) ?_ dX0_isWeak_44
    refine s_iaload (pc := 46) ?_ dX0_isWeak_46
    refine s_cv (pc := 47) (n := 2) (ci := 0) ?_ tX0_isLawful rfl rfl wt_1245 wt_1247 wp_41 wt_14 wt_1248 ⟨crX0_isLawful, by decide, by decide⟩ dX0_isWeak_47
    refine s_ifeq (pc := 50) (tgt := 98) ?_ ?_ dX0_isWeak_50 (by decide)
    · skip
      exact s_fall (pc := 98) h5
    · skip
      refine s_iload (pc := 53) (i := 6) ?_ dX0_isWeak_53
      refine s_ifne (pc := 55) (tgt := 77) ?_ ?_ dX0_isWeak_55 (by decide)
      · skip
        exact s_fall (pc := 77) h2
      · skip
        refine s_iload (pc := 58) (i := 5) ?_ dX0_isWeak_58
        refine s_ifeq (pc := 60) (tgt := 81) ?_ ?_ dX0_isWeak_60 (by decide)
        · skip
          exact s_fall (pc := 81) h3
        · skip
          refine s_aload_n (pc := 63) (i := 0) ?_ dX0_isWeak_63 rfl
          refine s_getf (pc := 64) (ci := 0) (f := 0) (T := TX0) ?_ ginX0 rfl (by decide) wt_388 dX0_isWeak_64
          refine s_getf (pc := 67) (ci := 4) (f := 3) (T := TX4) ?_ ginX4 rfl (by decide) wt_239 dX0_isWeak_67
          refine s_iload_n (pc := 70) (i := 2) ?_ dX0_isWeak_70 rfl
          refine s_iaload (pc := 71) ?_ dX0_isWeak_71
          refine s_iload (pc := 72) (i := 7) ?_ dX0_isWeak_72
          refine s_iceq (pc := 74) (tgt := 81) ?_ ?_ dX0_isWeak_74 (by decide)
          · skip
            exact s_fall (pc := 81) h3
          · skip
            exact s_fall (pc := 77) h2
theorem sbX0_isWeak_2 (g : GE) (J : Nat → KT) (h1 : Snd mX0_isWeak g 29 (J 1)) (h2 : Snd mX0_isWeak g 77 (J 2)) (h3 : Snd mX0_isWeak g 81 (J 3)) (h4 : Snd mX0_isWeak g 82 (J 4)) (h5 : Snd mX0_isWeak g 98 (J 5)) : Snd mX0_isWeak g 77 (bX0_isWeak_2 g J) := by
  unfold bX0_isWeak_2
  refine s_iconst (pc := 77) (v := 1) ?_ dX0_isWeak_77 (by decide)
  exact s_goto (pc := 78) (tgt := 82) h4 dX0_isWeak_78 (by decide)
theorem sbX0_isWeak_3 (g : GE) (J : Nat → KT) (h1 : Snd mX0_isWeak g 29 (J 1)) (h2 : Snd mX0_isWeak g 77 (J 2)) (h3 : Snd mX0_isWeak g 81 (J 3)) (h4 : Snd mX0_isWeak g 82 (J 4)) (h5 : Snd mX0_isWeak g 98 (J 5)) : Snd mX0_isWeak g 81 (bX0_isWeak_3 g J) := by
  unfold bX0_isWeak_3
  refine s_iconst (pc := 81) (v := 0) ?_ dX0_isWeak_81 (by decide)
  exact s_fall (pc := 82) h4
theorem sbX0_isWeak_4 (g : GE) (J : Nat → KT) (h1 : Snd mX0_isWeak g 29 (J 1)) (h2 : Snd mX0_isWeak g 77 (J 2)) (h3 : Snd mX0_isWeak g 81 (J 3)) (h4 : Snd mX0_isWeak g 82 (J 4)) (h5 : Snd mX0_isWeak g 98 (J 5)) : Snd mX0_isWeak g 82 (bX0_isWeak_4 g J) := by
  unfold bX0_isWeak_4
  refine s_istore (pc := 82) (i := 6) ?_ dX0_isWeak_82 (by decide)
  refine s_aload_n (pc := 84) (i := 0) ?_ dX0_isWeak_84 rfl
  refine s_getf (pc := 85) (ci := 0) (f := 0) (T := TX0) ?_ ginX0 rfl (by decide) wt_388 dX0_isWeak_85
  refine s_getf (pc := 88) (ci := 4) (f := 3) (T := TX4) ?_ ginX4 rfl (by decide) wt_239 dX0_isWeak_88
  refine s_iload_n (pc := 91) (i := 2) ?_ dX0_isWeak_91 rfl
  refine s_iaload (pc := 92) ?_ dX0_isWeak_92
  refine s_istore (pc := 93) (i := 7) ?_ dX0_isWeak_93 (by decide)
  refine s_iconst (pc := 95) (v := 1) ?_ dX0_isWeak_95 (by decide)
  refine s_istore (pc := 96) (i := 5) ?_ dX0_isWeak_96 (by decide)
  exact s_fall (pc := 98) h5
theorem sbX0_isWeak_5 (g : GE) (J : Nat → KT) (h1 : Snd mX0_isWeak g 29 (J 1)) (h2 : Snd mX0_isWeak g 77 (J 2)) (h3 : Snd mX0_isWeak g 81 (J 3)) (h4 : Snd mX0_isWeak g 82 (J 4)) (h5 : Snd mX0_isWeak g 98 (J 5)) : Snd mX0_isWeak g 98 (bX0_isWeak_5 g J) := by
  unfold bX0_isWeak_5
  refine s_iinc (pc := 98) (i := 8) (v := 1) ?_ dX0_isWeak_98 (by decide) (by decide)
  exact s_goto (pc := 101) (tgt := 29) h1 dX0_isWeak_101 (by decide)
def jX0_isWeak (g : GE) : Nat → Nat → KT
  | 0, _ => fun _ _ _ => none
  | n + 1, 0 => bX0_isWeak_0 g (jX0_isWeak g n)
  | n + 1, 1 => bX0_isWeak_1 g (jX0_isWeak g n)
  | n + 1, 2 => bX0_isWeak_2 g (jX0_isWeak g n)
  | n + 1, 3 => bX0_isWeak_3 g (jX0_isWeak g n)
  | n + 1, 4 => bX0_isWeak_4 g (jX0_isWeak g n)
  | n + 1, 5 => bX0_isWeak_5 g (jX0_isWeak g n)
  | _ + 1, _ + 6 => fun _ _ _ => none
theorem sjX0_isWeak (g : GE) : ∀ n, Snd mX0_isWeak g 0 (jX0_isWeak g n 0) ∧ Snd mX0_isWeak g 29 (jX0_isWeak g n 1) ∧ Snd mX0_isWeak g 77 (jX0_isWeak g n 2) ∧ Snd mX0_isWeak g 81 (jX0_isWeak g n 3) ∧ Snd mX0_isWeak g 82 (jX0_isWeak g n 4) ∧ Snd mX0_isWeak g 98 (jX0_isWeak g n 5)
  | 0 => ⟨s_none, s_none, s_none, s_none, s_none, s_none⟩
  | n + 1 => by
    obtain ⟨-, h1, h2, h3, h4, h5⟩ := sjX0_isWeak g n
    exact ⟨sbX0_isWeak_0 g _ h1 h2 h3 h4 h5, sbX0_isWeak_1 g _ h1 h2 h3 h4 h5, sbX0_isWeak_2 g _ h1 h2 h3 h4 h5, sbX0_isWeak_3 g _ h1 h2 h3 h4 h5, sbX0_isWeak_4 g _ h1 h2 h3 h4 h5, sbX0_isWeak_5 g _ h1 h2 h3 h4 h5⟩
def kX0_isWeak (g : GE) : KT := jX0_isWeak g g.1 0
theorem sX0_isWeak (g : GE) : Snd mX0_isWeak g 0 (kX0_isWeak g) := (sjX0_isWeak g g.1).1
def fX0_isWeak : FT := fun g av w => if (ent av).length ≤ 9 then kX0_isWeak g [] (entp 9 av) w else none
theorem tX0_isWeak : Mt yX0_isWeak cX0_isWeak 9 (some .boolean) 4 99 fX0_isWeak := Mt.of (K := kX0_isWeak) (by decide +kernel) (fun _ _ _ => rfl) sX0_isWeak
theorem crX0_isWeak : yX0_isWeak.cls ≠ "java/lang/invoke/MethodHandle" ∧ yX0_isWeak.cls ≠ "java/lang/invoke/VarHandle" ∧ (parseMethodDescriptor yX0_isWeak.desc).map (fun d => d.parameters.length) = some 2 := by decide +kernel
