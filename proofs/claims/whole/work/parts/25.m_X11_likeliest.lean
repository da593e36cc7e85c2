theorem dX11_likeliest_0 : decode cX11_likeliest 0 = .ok (.aload_n 0, 1) := by decide +kernel
theorem dX11_likeliest_1 : decode cX11_likeliest 1 = .ok (.iconst 0, 1) := by decide +kernel
theorem dX11_likeliest_2 : decode cX11_likeliest 2 = .ok (.putfield 120, 3) := by decide +kernel
theorem dX11_likeliest_5 : decode cX11_likeliest 5 = .ok (.iconst (-1), 1) := by decide +kernel
theorem dX11_likeliest_6 : decode cX11_likeliest 6 = .ok (.istore_n 1, 1) := by decide +kernel
theorem dX11_likeliest_7 : decode cX11_likeliest 7 = .ok (.lconst 0, 1) := by decide +kernel
theorem dX11_likeliest_8 : decode cX11_likeliest 8 = .ok (.lstore_n 2, 1) := by decide +kernel
theorem dX11_likeliest_9 : decode cX11_likeliest 9 = .ok (.iconst 0, 1) := by decide +kernel
theorem dX11_likeliest_10 : decode cX11_likeliest 10 = .ok (.istore 4, 2) := by decide +kernel
theorem dX11_likeliest_12 : decode cX11_likeliest 12 = .ok (.iload 4, 2) := by decide +kernel
theorem dX11_likeliest_14 : decode cX11_likeliest 14 = .ok (.aload_n 0, 1) := by decide +kernel
theorem dX11_likeliest_15 : decode cX11_likeliest 15 = .ok (.getfield 244, 3) := by decide +kernel
theorem dX11_likeliest_18 : decode cX11_likeliest 18 = .ok (.if_icmp .ge 33, 3) := by decide +kernel
theorem dX11_likeliest_21 : decode cX11_likeliest 21 = .ok (.aload_n 0, 1) := by decide +kernel
theorem dX11_likeliest_22 : decode cX11_likeliest 22 = .ok (.iload 4, 2) := by decide +kernel
theorem dX11_likeliest_24 : decode cX11_likeliest 24 = .ok (.invokevirtual 310, 3) := by decide +kernel
theorem dX11_likeliest_27 : decode cX11_likeliest 27 = .ok (.lstore 5, 2) := by decide +kernel
theorem dX11_likeliest_29 : decode cX11_likeliest 29 = .ok (.lload 5, 2) := by decide +kernel
theorem dX11_likeliest_31 : decode cX11_likeliest 31 = .ok (.lload_n 2, 1) := by decide +kernel
theorem dX11_likeliest_32 : decode cX11_likeliest 32 = .ok (.lcmp, 1) := by decide +kernel
theorem dX11_likeliest_33 : decode cX11_likeliest 33 = .ok (.ifCond .gt 6, 3) := by decide +kernel
theorem dX11_likeliest_36 : decode cX11_likeliest 36 = .ok (.goto 9, 3) := by decide +kernel
theorem dX11_likeliest_39 : decode cX11_likeliest 39 = .ok (.iload 4, 2) := by decide +kernel
theorem dX11_likeliest_41 : decode cX11_likeliest 41 = .ok (.istore_n 1, 1) := by decide +kernel
theorem dX11_likeliest_42 : decode cX11_likeliest 42 = .ok (.lload 5, 2) := by decide +kernel
theorem dX11_likeliest_44 : decode cX11_likeliest 44 = .ok (.lstore_n 2, 1) := by decide +kernel
theorem dX11_likeliest_45 : decode cX11_likeliest 45 = .ok (.iinc 4 1, 3) := by decide +kernel
theorem dX11_likeliest_48 : decode cX11_likeliest 48 = .ok (.goto (-36), 3) := by decide +kernel
theorem dX11_likeliest_51 : decode cX11_likeliest 51 = .ok (.iload_n 1, 1) := by decide +kernel
theorem dX11_likeliest_52 : decode cX11_likeliest 52 = .ok (.ireturn, 1) := by decide +kernel
abbrev mX11_likeliest : MD := (cX11_likeliest, "BlottedDeedModel", 7, 4, 100, (some .int), "likeliest", [])
def bX11_likeliest_0 (g : GE) (J : Nat → KT) : KT := i_aload 0 (i_push (.int 0) (i_putf 10 0 .int (i_push (.int (-1)) (i_istore 1 (i_push (.long 0) (i_lstore 2 (i_push (.int 0) (i_istore 4 (i_jmp [true, true, true, false, true, false, false] (J 1))))))))))
def bX11_likeliest_1 (g : GE) (J : Nat → KT) : KT := i_iload 4 (i_aload 0 (i_getf 10 27 (i_icge (i_iload 1 (i_ireturn)) (i_aload 0 (i_iload 4 (i_cv fX11_oddsBy g 1 10 (i_lstore 5 (i_lload 5 (i_lload 2 (i_lcmp (i_ifgt (i_iload 4 (i_istore 1 (i_lload 5 (i_lstore 2 (i_jmp [true, true, true, false, true, false, false] (J 2)))))) (i_jmp [true, true, true, false, true, false, false] (J 2)))))))))))))
def bX11_likeliest_2 (g : GE) (J : Nat → KT) : KT := i_iinc 4 1 (i_jmp [true, true, true, false, true, false, false] (J 1))
theorem sbX11_likeliest_0 (g : GE) (J : Nat → KT) (h1 : Snd mX11_likeliest g 12 (J 1)) (h2 : Snd mX11_likeliest g 45 (J 2)) : Snd mX11_likeliest g 0 (bX11_likeliest_0 g J) := by
  unfold bX11_likeliest_0
  refine s_aload_n (pc := 0) (i := 0) ?_ dX11_likeliest_0 rfl
  refine s_iconst (pc := 1) (v := 0) ?_ dX11_likeliest_1 (by decide)
  refine s_putf (pc := 2) (ci := 10) (f := 0) (T := TX11) (ty0 := tyX11) ?_ ginX11 tyX11_ok nmX11 rfl (by decide) rfl rfl wt_1393 dX11_likeliest_2
  refine s_iconst (pc := 5) (v := (-1)) ?_ dX11_likeliest_5 (by decide)
  refine s_istore_n (pc := 6) (i := 1) ?_ dX11_likeliest_6 rfl (by decide)
  refine s_lconst (pc := 7) (v := 0) ?_ dX11_likeliest_7 (by decide)
  refine s_lstore_n (pc := 8) (i := 2) ?_ dX11_likeliest_8 rfl (by decide)
  refine s_iconst (pc := 9) (v := 0) ?_ dX11_likeliest_9 (by decide)
  refine s_istore (pc := 10) (i := 4) ?_ dX11_likeliest_10 (by decide)
  exact s_fall (pc := 12) h1
theorem sbX11_likeliest_1 (g : GE) (J : Nat → KT) (h1 : Snd mX11_likeliest g 12 (J 1)) (h2 : Snd mX11_likeliest g 45 (J 2)) : Snd mX11_likeliest g 12 (bX11_likeliest_1 g J) := by
  unfold bX11_likeliest_1
  refine s_iload (pc := 12) (i := 4) ?_ dX11_likeliest_12
  refine s_aload_n (pc := 14) (i := 0) ?_ dX11_likeliest_14 rfl
  refine s_getf (pc := 15) (ci := 10) (f := 27) (T := TX11) ?_ ginX11 rfl (by decide) wt_1420 dX11_likeliest_15
  refine s_icge (pc := 18) (tgt := 51) ?_ ?_ dX11_likeliest_18 (by decide)
  · skip
    refine s_iload_n (pc := 51) (i := 1) ?_ dX11_likeliest_51 rfl
    exact s_ireturn (pc := 52) rfl dX11_likeliest_52
  · skip
    refine s_aload_n (pc := 21) (i := 0) ?_ dX11_likeliest_21 rfl
    refine s_iload (pc := 22) (i := 4) ?_ dX11_likeliest_22
    refine s_cv (pc := 24) (n := 1) (ci := 10) ?_ tX11_oddsBy rfl rfl wt_1811 wt_1813 wp_83 wt_17 wt_1814 ⟨crX11_oddsBy, by decide, by decide⟩ dX11_likeliest_24
    refine s_lstore (pc := 27) (i := 5) ?_ dX11_likeliest_27 (by decide)
    refine s_lload (pc := 29) (i := 5) ?_ dX11_likeliest_29
    refine s_lload_n (pc := 31) (i := 2) ?_ dX11_likeliest_31 rfl
    refine s_lcmp (pc := 32) ?_ dX11_likeliest_32
    refine s_ifgt (pc := 33) (tgt := 39) ?_ ?_ dX11_likeliest_33 (by decide)
    · skip
      refine s_iload (pc := 39) (i := 4) ?_ dX11_likeliest_39
      refine s_istore_n (pc := 41) (i := 1) ?_ dX11_likeliest_41 rfl (by decide)
      refine s_lload (pc := 42) (i := 5) ?_ dX11_likeliest_42
      refine s_lstore_n (pc := 44) (i := 2) ?_ dX11_likeliest_44 rfl (by decide)
      exact s_fall (pc := 45) h2
    · skip
      exact s_goto (pc := 36) (tgt := 45) h2 dX11_likeliest_36 (by decide)
theorem sbX11_likeliest_2 (g : GE) (J : Nat → KT) (h1 : Snd mX11_likeliest g 12 (J 1)) (h2 : Snd mX11_likeliest g 45 (J 2)) : Snd mX11_likeliest g 45 (bX11_likeliest_2 g J) := by
  unfold bX11_likeliest_2
  refine s_iinc (pc := 45) (i := 4) (v := 1) ?_ dX11_likeliest_45 (by decide) (by decide)
  exact s_goto (pc := 48) (tgt := 12) h1 dX11_likeliest_48 (by decide)
def jX11_likeliest (g : GE) : Nat → Nat → KT
  | 0, _ => fun _ _ _ => none
  | n + 1, 0 => bX11_likeliest_0 g (jX11_likeliest g n)
  | n + 1, 1 => bX11_likeliest_1 g (jX11_likeliest g n)
  | n + 1, 2 => bX11_likeliest_2 g (jX11_likeliest g n)
  | _ + 1, _ + 3 => fun _ _ _ => none
theorem sjX11_likeliest (g : GE) : ∀ n, Snd mX11_likeliest g 0 (jX11_likeliest g n 0) ∧ Snd mX11_likeliest g 12 (jX11_likeliest g n 1) ∧ Snd mX11_likeliest g 45 (jX11_likeliest g n 2)
  | 0 => ⟨s_none, s_none, s_none⟩
  | n + 1 => by
    obtain ⟨-, h1, h2⟩ := sjX11_likeliest g n
    exact ⟨sbX11_likeliest_0 g _ h1 h2, sbX11_likeliest_1 g _ h1 h2, sbX11_likeliest_2 g _ h1 h2⟩
def kX11_likeliest (g : GE) : KT := jX11_likeliest g g.1 0
theorem sX11_likeliest (g : GE) : Snd mX11_likeliest g 0 (kX11_likeliest g) := (sjX11_likeliest g g.1).1
def fX11_likeliest : FT := fun g av w => if (ent av).length ≤ 7 then kX11_likeliest g [] (entp 7 av) w else none
theorem tX11_likeliest : Mt yX11_likeliest cX11_likeliest 7 (some .int) 4 100 fX11_likeliest := Mt.of (K := kX11_likeliest) (by decide +kernel) (fun _ _ _ => rfl) sX11_likeliest
theorem crX11_likeliest : yX11_likeliest.cls ≠ "java/lang/invoke/MethodHandle" ∧ yX11_likeliest.cls ≠ "java/lang/invoke/VarHandle" ∧ (parseMethodDescriptor yX11_likeliest.desc).map (fun d => d.parameters.length) = some 0 := by decide +kernel
theorem dX11_likely_0 : decode cX11_likely 0 = .ok (.aload_n 0, 1) := by decide +kernel
theorem dX11_likely_1 : decode cX11_likely 1 = .ok (.iconst 0, 1) := by decide +kernel
theorem dX11_likely_2 : decode cX11_likely 2 = .ok (.putfield 120, 3) := by decide +kernel
theorem dX11_likely_5 : decode cX11_likely 5 = .ok (.aload_n 0, 1) := by decide +kernel
theorem dX11_likely_6 : decode cX11_likely 6 = .ok (.aload_n 0, 1) := by decide +kernel
theorem dX11_likely_7 : decode cX11_likely 7 = .ok (.iload_n 1, 1) := by decide +kernel
theorem dX11_likely_8 : decode cX11_likely 8 = .ok (.invokevirtual 282, 3) := by decide +kernel
theorem dX11_likely_11 : decode cX11_likely 11 = .ok (.ifCond .eq 11, 3) := by decide +kernel
theorem dX11_likely_14 : decode cX11_likely 14 = .ok (.aload_n 0, 1) := by decide +kernel
theorem dX11_likely_15 : decode cX11_likely 15 = .ok (.iload_n 2, 1) := by decide +kernel
theorem dX11_likely_16 : decode cX11_likely 16 = .ok (.invokevirtual 276, 3) := by decide +kernel
theorem dX11_likely_19 : decode cX11_likely 19 = .ok (.ifCond .ne 7, 3) := by decide +kernel
theorem dX11_likely_22 : decode cX11_likely 22 = .ok (.iconst 1, 1) := by decide +kernel
theorem dX11_likely_23 : decode cX11_likely 23 = .ok (.goto 4, 3) := by decide +kernel
theorem dX11_likely_26 : decode cX11_likely 26 = .ok (.iconst 0, 1) := by decide +kernel
theorem dX11_likely_27 : decode cX11_likely 27 = .ok (.iconst 1, 1) := by decide +kernel
theorem dX11_likely_28 : decode cX11_likely 28 = .ok (.iconst 0, 1) := by decide +kernel
theorem dX11_likely_29 : decode cX11_likely 29 = .ok (.invokevirtual 215, 3) := by decide +kernel
theorem dX11_likely_32 : decode cX11_likely 32 = .ok (.ifCond .ne 26, 3) := by decide +kernel
theorem dX11_likely_35 : decode cX11_likely 35 = .ok (.aload_n 0, 1) := by decide +kernel
theorem dX11_likely_36 : decode cX11_likely 36 = .ok (.iload_n 3, 1) := by decide +kernel
theorem dX11_likely_37 : decode cX11_likely 37 = .ok (.iconst 0, 1) := by decide +kernel
theorem dX11_likely_38 : decode cX11_likely 38 = .ok (.iconst 1, 1) := by decide +kernel
theorem dX11_likely_39 : decode cX11_likely 39 = .ok (.invokestatic 154, 3) := by decide +kernel
theorem dX11_likely_42 : decode cX11_likely 42 = .ok (.ifCond .ne 7, 3) := by decide +kernel
theorem dX11_likely_45 : decode cX11_likely 45 = .ok (.iconst 1, 1) := by decide +kernel
theorem dX11_likely_46 : decode cX11_likely 46 = .ok (.goto 4, 3) := by decide +kernel
theorem dX11_likely_49 : decode cX11_likely 49 = .ok (.iconst 0, 1) := by decide +kernel
theorem dX11_likely_50 : decode cX11_likely 50 = .ok (.iconst 2, 1) := by decide +kernel
theorem dX11_likely_51 : decode cX11_likely 51 = .ok (.iconst 2, 1) := by decide +kernel
theorem dX11_likely_52 : decode cX11_likely 52 = .ok (.invokevirtual 215, 3) := by decide +kernel
theorem dX11_likely_55 : decode cX11_likely 55 = .ok (.ifCond .eq 5, 3) := by decide +kernel
theorem dX11_likely_58 : decode cX11_likely 58 = .ok (.lconst 0, 1) := by decide +kernel
theorem dX11_likely_59 : decode cX11_likely 59 = .ok (.lreturn, 1) := by decide +kernel
theorem dX11_likely_60 : decode cX11_likely 60 = .ok (.lconst 0, 1) := by decide +kernel
theorem dX11_likely_61 : decode cX11_likely 61 = .ok (.lstore 4, 2) := by decide +kernel
theorem dX11_likely_63 : decode cX11_likely 63 = .ok (.lconst 0, 1) := by decide +kernel
theorem dX11_likely_64 : decode cX11_likely 64 = .ok (.lstore 6, 2) := by decide +kernel
theorem dX11_likely_66 : decode cX11_likely 66 = .ok (.iconst 0, 1) := by decide +kernel
theorem dX11_likely_67 : decode cX11_likely 67 = .ok (.istore 8, 2) := by decide +kernel
theorem dX11_likely_69 : decode cX11_likely 69 = .ok (.iload 8, 2) := by decide +kernel
theorem dX11_likely_71 : decode cX11_likely 71 = .ok (.aload_n 0, 1) := by decide +kernel
theorem dX11_likely_72 : decode cX11_likely 72 = .ok (.getfield 244, 3) := by decide +kernel
theorem dX11_likely_75 : decode cX11_likely 75 = .ok (.if_icmp .ge 46, 3) := by decide +kernel
theorem dX11_likely_78 : decode cX11_likely 78 = .ok (.aload_n 0, 1) := by decide +kernel
theorem dX11_likely_79 : decode cX11_likely 79 = .ok (.iload 8, 2) := by decide +kernel
theorem dX11_likely_81 : decode cX11_likely 81 = .ok (.invokevirtual 310, 3) := by decide +kernel
theorem dX11_likely_84 : decode cX11_likely 84 = .ok (.lstore 9, 2) := by decide +kernel
theorem dX11_likely_86 : decode cX11_likely 86 = .ok (.lload 6, 2) := by decide +kernel
theorem dX11_likely_88 : decode cX11_likely 88 = .ok (.lload 9, 2) := by decide +kernel
theorem dX11_likely_90 : decode cX11_likely 90 = .ok (.ladd, 1) := by decide +kernel
theorem dX11_likely_91 : decode cX11_likely 91 = .ok (.lstore 6, 2) := by decide +kernel
theorem dX11_likely_93 : decode cX11_likely 93 = .ok (.lload 4, 2) := by decide +kernel
theorem dX11_likely_95 : decode cX11_likely 95 = .ok (.aload_n 0, 1) := by decide +kernel
theorem dX11_likely_96 : decode cX11_likely 96 = .ok (.iload 8, 2) := by decide +kernel
theorem dX11_likely_98 : decode cX11_likely 98 = .ok (.iload_n 1, 1) := by decide +kernel
theorem dX11_likely_99 : decode cX11_likely 99 = .ok (.invokevirtual 264, 3) := by decide +kernel
theorem dX11_likely_102 : decode cX11_likely 102 = .ok (.iload_n 2, 1) := by decide +kernel
theorem dX11_likely_103 : decode cX11_likely 103 = .ok (.if_icmp .ne 8, 3) := by decide +kernel
theorem dX11_likely_106 : decode cX11_likely 106 = .ok (.lload 9, 2) := by decide +kernel
theorem dX11_likely_108 : decode cX11_likely 108 = .ok (.goto 4, 3) := by decide +kernel
theorem dX11_likely_111 : decode cX11_likely 111 = .ok (.lconst 0, 1) := by decide +kernel
theorem dX11_likely_112 : decode cX11_likely 112 = .ok (.ladd, 1) := by decide +kernel
theorem dX11_likely_113 : decode cX11_likely 113 = .ok (.lstore 4, 2) := by decide +kernel
theorem dX11_likely_115 : decode cX11_likely 115 = .ok (.iinc 8 1, 3) := by decide +kernel
theorem dX11_likely_118 : decode cX11_likely 118 = .ok (.goto (-49), 3) := by decide +kernel
theorem dX11_likely_121 : decode cX11_likely 121 = .ok (.lload 6, 2) := by decide +kernel
theorem dX11_likely_123 : decode cX11_likely 123 = .ok (.lconst 0, 1) := by decide +kernel
theorem dX11_likely_124 : decode cX11_likely 124 = .ok (.lcmp, 1) := by decide +kernel
theorem dX11_likely_125 : decode cX11_likely 125 = .ok (.ifCond .ne 6, 3) := by decide +kernel
theorem dX11_likely_128 : decode cX11_likely 128 = .ok (.iload_n 3, 1) := by decide +kernel
theorem dX11_likely_129 : decode cX11_likely 129 = .ok (.i2l, 1) := by decide +kernel
theorem dX11_likely_130 : decode cX11_likely 130 = .ok (.lreturn, 1) := by decide +kernel
theorem dX11_likely_131 : decode cX11_likely 131 = .ok (.lload 4, 2) := by decide +kernel
theorem dX11_likely_133 : decode cX11_likely 133 = .ok (.lstore 8, 2) := by decide +kernel
theorem dX11_likely_135 : decode cX11_likely 135 = .ok (.lload 6, 2) := by decide +kernel
theorem dX11_likely_137 : decode cX11_likely 137 = .ok (.lstore 10, 2) := by decide +kernel
theorem dX11_likely_139 : decode cX11_likely 139 = .ok (.lload 10, 2) := by decide +kernel
theorem dX11_likely_141 : decode cX11_likely 141 = .ok (.lconst 0, 1) := by decide +kernel
theorem dX11_likely_142 : decode cX11_likely 142 = .ok (.lcmp, 1) := by decide +kernel
theorem dX11_likely_143 : decode cX11_likely 143 = .ok (.ifCond .eq 21, 3) := by decide +kernel
theorem dX11_likely_146 : decode cX11_likely 146 = .ok (.lload 8, 2) := by decide +kernel
theorem dX11_likely_148 : decode cX11_likely 148 = .ok (.lload 10, 2) := by decide +kernel
theorem dX11_likely_150 : decode cX11_likely 150 = .ok (.lrem, 1) := by decide +kernel
theorem dX11_likely_151 : decode cX11_likely 151 = .ok (.lstore 12, 2) := by decide +kernel
theorem dX11_likely_153 : decode cX11_likely 153 = .ok (.lload 10, 2) := by decide +kernel
theorem dX11_likely_155 : decode cX11_likely 155 = .ok (.lstore 8, 2) := by decide +kernel
theorem dX11_likely_157 : decode cX11_likely 157 = .ok (.lload 12, 2) := by decide +kernel
theorem dX11_likely_159 : decode cX11_likely 159 = .ok (.lstore 10, 2) := by decide +kernel
theorem dX11_likely_161 : decode cX11_likely 161 = .ok (.goto (-22), 3) := by decide +kernel
theorem dX11_likely_164 : decode cX11_likely 164 = .ok (.iload_n 3, 1) := by decide +kernel
theorem dX11_likely_165 : decode cX11_likely 165 = .ok (.ifCond .ne 11, 3) := by decide +kernel
theorem dX11_likely_168 : decode cX11_likely 168 = .ok (.lload 4, 2) := by decide +kernel
theorem dX11_likely_170 : decode cX11_likely 170 = .ok (.lload 8, 2) := by decide +kernel
theorem dX11_likely_172 : decode cX11_likely 172 = .ok (.ldiv, 1) := by decide +kernel
theorem dX11_likely_173 : decode cX11_likely 173 = .ok (.goto 8, 3) := by decide +kernel
theorem dX11_likely_176 : decode cX11_likely 176 = .ok (.lload 6, 2) := by decide +kernel
theorem dX11_likely_178 : decode cX11_likely 178 = .ok (.lload 8, 2) := by decide +kernel
theorem dX11_likely_180 : decode cX11_likely 180 = .ok (.ldiv, 1) := by decide +kernel
theorem dX11_likely_181 : decode cX11_likely 181 = .ok (.lreturn, 1) := by decide +kernel
abbrev mX11_likely : MD := (cX11_likely, "BlottedDeedModel", 14, 4, 100, (some .long), "likely", [])
def bX11_likely_0 (g : GE) (J : Nat → KT) : KT := i_aload 0 (i_push (.int 0) (i_putf 10 0 .int (i_aload 0 (i_aload 0 (i_iload 1 (i_cv fX11_isThing g 1 10 (i_ifeq (i_jmp [true, true, true, true, false, false, false, false, false, false, false, false, false, false] (J 1)) (i_aload 0 (i_iload 2 (i_cv fX11_isHeir g 1 10 (i_ifne (i_push (.int 0) (i_jmp [true, true, true, true, false, false, false, false, false, false, false, false, false, false] (J 2))) (i_jmp [true, true, true, true, false, false, false, false, false, false, false, false, false, false] (J 1)))))))))))))
def bX11_likely_1 (g : GE) (J : Nat → KT) : KT := i_push (.int 1) (i_jmp [true, true, true, true, false, false, false, false, false, false, false, false, false, false] (J 2))
def bX11_likely_2 (g : GE) (J : Nat → KT) : KT := i_push (.int 1) (i_push (.int 0) (i_cv fX11_bad g 3 10 (i_ifne (i_jmp [false, false, false, false, false, false, false, false, false, false, false, false, false, false] (J 4)) (i_aload 0 (i_iload 3 (i_push (.int 0) (i_push (.int 1) (i_cs fX11_in g 3 (i_ifne (i_push (.int 0) (i_jmp [true, true, true, true, false, false, false, false, false, false, false, false, false, false] (J 3))) (i_push (.int 1) (i_jmp [true, true, true, true, false, false, false, false, false, false, false, false, false, false] (J 3))))))))))))
def bX11_likely_3 (g : GE) (J : Nat → KT) : KT := i_push (.int 2) (i_push (.int 2) (i_cv fX11_bad g 3 10 (i_ifeq (i_push (.long 0) (i_lstore 4 (i_push (.long 0) (i_lstore 6 (i_push (.int 0) (i_istore 8 (i_jmp [true, true, true, true, true, false, true, false, true, false, false, false, false, false] (J 5)))))))) (i_jmp [false, false, false, false, false, false, false, false, false, false, false, false, false, false] (J 4)))))
def bX11_likely_4 (g : GE) (J : Nat → KT) : KT := i_push (.long 0) (i_lreturn)
def bX11_likely_5 (g : GE) (J : Nat → KT) : KT := i_iload 8 (i_aload 0 (i_getf 10 27 (i_icge (i_lload 6 (i_push (.long 0) (i_lcmp (i_ifne (i_lload 4 (i_lstore 8 (i_lload 6 (i_lstore 10 (i_jmp [false, false, false, true, true, false, true, false, true, false, true, false, false, false] (J 7)))))) (i_iload 3 (i_i2l (i_lreturn))))))) (i_aload 0 (i_iload 8 (i_cv fX11_oddsBy g 1 10 (i_lstore 9 (i_lload 6 (i_lload 9 (i_ladd (i_lstore 6 (i_lload 4 (i_aload 0 (i_iload 8 (i_iload 1 (i_cv fX11_goesBy g 2 10 (i_iload 2 (i_icne (i_push (.long 0) (i_jmp [true, true, true, true, false, false, true, false, true, false, false, false, false, false] (J 6))) (i_lload 9 (i_jmp [true, true, true, true, false, false, true, false, true, false, false, false, false, false] (J 6)))))))))))))))))))))
def bX11_likely_6 (g : GE) (J : Nat → KT) : KT := i_ladd (i_lstore 4 (i_iinc 8 1 (i_jmp [true, true, true, true, true, false, true, false, true, false, false, false, false, false] (J 5))))
def bX11_likely_7 (g : GE) (J : Nat → KT) : KT := i_lload 10 (i_push (.long 0) (i_lcmp (i_ifeq (i_iload 3 (i_ifne (i_lload 6 (i_lload 8 (i_ldiv (i_jmp [false, false, false, false, false, false, false, false, false, false, false, false, false, false] (J 8))))) (i_lload 4 (i_lload 8 (i_ldiv (i_jmp [false, false, false, false, false, false, false, false, false, false, false, false, false, false] (J 8))))))) (i_lload 8 (i_lload 10 (i_lrem (i_lstore 12 (i_lload 10 (i_lstore 8 (i_lload 12 (i_lstore 10 (i_jmp [false, false, false, true, true, false, true, false, true, false, true, false, false, false] (J 7)))))))))))))
def bX11_likely_8 (g : GE) (J : Nat → KT) : KT := i_lreturn
theorem sbX11_likely_0 (g : GE) (J : Nat → KT) (h1 : Snd mX11_likely g 22 (J 1)) (h2 : Snd mX11_likely g 27 (J 2)) (h3 : Snd mX11_likely g 50 (J 3)) (h4 : Snd mX11_likely g 58 (J 4)) (h5 : Snd mX11_likely g 69 (J 5)) (h6 : Snd mX11_likely g 112 (J 6)) (h7 : Snd mX11_likely g 139 (J 7)) (h8 : Snd mX11_likely g 181 (J 8)) : Snd mX11_likely g 0 (bX11_likely_0 g J) := by
  unfold bX11_likely_0
  refine s_aload_n (pc := 0) (i := 0) ?_ dX11_likely_0 rfl
  refine s_iconst (pc := 1) (v := 0) ?_ dX11_likely_1 (by decide)
  refine s_putf (pc := 2) (ci := 10) (f := 0) (T := TX11) (ty0 := tyX11) ?_ ginX11 tyX11_ok nmX11 rfl (by decide) rfl rfl wt_1393 dX11_likely_2
  refine s_aload_n (pc := 5) (i := 0) ?_ dX11_likely_5 rfl
  refine s_aload_n (pc := 6) (i := 0) ?_ dX11_likely_6 rfl
  refine s_iload_n (pc := 7) (i := 1) ?_ dX11_likely_7 rfl
  refine s_cv (pc := 8) (n := 1) (ci := 10) ?_ tX11_isThing rfl rfl wt_1724 wt_1726 wp_76 wt_17 wt_1727 ⟨crX11_isThing, by decide, by decide⟩ dX11_likely_8
  refine s_ifeq (pc := 11) (tgt := 22) ?_ ?_ dX11_likely_11 (by decide)
  · skip
    exact s_fall (pc := 22) h1
  · skip
    refine s_aload_n (pc := 14) (i := 0) ?_ dX11_likely_14 rfl
    refine s_iload_n (pc := 15) (i := 2) ?_ dX11_likely_15 rfl
    refine s_cv (pc := 16) (n := 1) (ci := 10) ?_ tX11_isHeir rfl rfl wt_1703 wt_1705 wp_72 wt_17 wt_1706 ⟨crX11_isHeir, by decide, by decide⟩ dX11_likely_16
    refine s_ifne (pc := 19) (tgt := 26) ?_ ?_ dX11_likely_19 (by decide)
    · skip
      refine s_iconst (pc := 26) (v := 0) ?_ dX11_likely_26 (by decide)
      exact s_fall (pc := 27) h2
    · skip
      exact s_fall (pc := 22) h1
theorem sbX11_likely_1 (g : GE) (J : Nat → KT) (h1 : Snd mX11_likely g 22 (J 1)) (h2 : Snd mX11_likely g 27 (J 2)) (h3 : Snd mX11_likely g 50 (J 3)) (h4 : Snd mX11_likely g 58 (J 4)) (h5 : Snd mX11_likely g 69 (J 5)) (h6 : Snd mX11_likely g 112 (J 6)) (h7 : Snd mX11_likely g 139 (J 7)) (h8 : Snd mX11_likely g 181 (J 8)) : Snd mX11_likely g 22 (bX11_likely_1 g J) := by
  unfold bX11_likely_1
  refine s_iconst (pc := 22) (v := 1) ?_ dX11_likely_22 (by decide)
  exact s_goto (pc := 23) (tgt := 27) h2 dX11_likely_23 (by decide)
theorem sbX11_likely_2 (g : GE) (J : Nat → KT) (h1 : Snd mX11_likely g 22 (J 1)) (h2 : Snd mX11_likely g 27 (J 2)) (h3 : Snd mX11_likely g 50 (J 3)) (h4 : Snd mX11_likely g 58 (J 4)) (h5 : Snd mX11_likely g 69 (J 5)) (h6 : Snd mX11_likely g 112 (J 6)) (h7 : Snd mX11_likely g 139 (J 7)) (h8 : Snd mX11_likely g 181 (J 8)) : Snd mX11_likely g 27 (bX11_likely_2 g J) := by
  unfold bX11_likely_2
  refine s_iconst (pc := 27) (v := 1) ?_ dX11_likely_27 (by decide)
  refine s_iconst (pc := 28) (v := 0) ?_ dX11_likely_28 (by decide)
  refine s_cv (pc := 29) (n := 3) (ci := 10) ?_ tX11_bad rfl rfl wt_1560 wt_1562 wp_49 wt_17 wt_1563 ⟨crX11_bad, by decide, by decide⟩ dX11_likely_29
  refine s_ifne (pc := 32) (tgt := 58) ?_ ?_ dX11_likely_32 (by decide)
  · skip
    exact s_fall (pc := 58) h4
  · skip
    refine s_aload_n (pc := 35) (i := 0) ?_ dX11_likely_35 rfl
    refine s_iload_n (pc := 36) (i := 3) ?_ dX11_likely_36 rfl
    refine s_iconst (pc := 37) (v := 0) ?_ dX11_likely_37 (by decide)
    refine s_iconst (pc := 38) (v := 1) ?_ dX11_likely_38 (by decide)
    refine s_cs (pc := 39) (n := 3) ?_ tX11_in wt_1557 wt_1558 wt_17 wt_1559 ⟨crX11_in, by decide, by decide⟩ dX11_likely_39
    refine s_ifne (pc := 42) (tgt := 49) ?_ ?_ dX11_likely_42 (by decide)
    · skip
      refine s_iconst (pc := 49) (v := 0) ?_ dX11_likely_49 (by decide)
      exact s_fall (pc := 50) h3
    · skip
      refine s_iconst (pc := 45) (v := 1) ?_ dX11_likely_45 (by decide)
      exact s_goto (pc := 46) (tgt := 50) h3 dX11_likely_46 (by decide)
theorem sbX11_likely_3 (g : GE) (J : Nat → KT) (h1 : Snd mX11_likely g 22 (J 1)) (h2 : Snd mX11_likely g 27 (J 2)) (h3 : Snd mX11_likely g 50 (J 3)) (h4 : Snd mX11_likely g 58 (J 4)) (h5 : Snd mX11_likely g 69 (J 5)) (h6 : Snd mX11_likely g 112 (J 6)) (h7 : Snd mX11_likely g 139 (J 7)) (h8 : Snd mX11_likely g 181 (J 8)) : Snd mX11_likely g 50 (bX11_likely_3 g J) := by
  unfold bX11_likely_3
  refine s_iconst (pc := 50) (v := 2) ?_ dX11_likely_50 (by decide)
  refine s_iconst (pc := 51) (v := 2) ?_ dX11_likely_51 (by decide)
  refine s_cv (pc := 52) (n := 3) (ci := 10) ?_ tX11_bad rfl rfl wt_1560 wt_1562 wp_49 wt_17 wt_1563 ⟨crX11_bad, by decide, by decide⟩ dX11_likely_52
  refine s_ifeq (pc := 55) (tgt := 60) ?_ ?_ dX11_likely_55 (by decide)
  · skip
    refine s_lconst (pc := 60) (v := 0) ?_ dX11_likely_60 (by decide)
    refine s_lstore (pc := 61) (i := 4) ?_ dX11_likely_61 (by decide)
    refine s_lconst (pc := 63) (v := 0) ?_ dX11_likely_63 (by decide)
    refine s_lstore (pc := 64) (i := 6) ?_ dX11_likely_64 (by decide)
    refine s_iconst (pc := 66) (v := 0) ?_ dX11_likely_66 (by decide)
    refine s_istore (pc := 67) (i := 8) ?_ dX11_likely_67 (by decide)
    exact s_fall (pc := 69) h5
  · skip
    exact s_fall (pc := 58) h4
theorem sbX11_likely_4 (g : GE) (J : Nat → KT) (h1 : Snd mX11_likely g 22 (J 1)) (h2 : Snd mX11_likely g 27 (J 2)) (h3 : Snd mX11_likely g 50 (J 3)) (h4 : Snd mX11_likely g 58 (J 4)) (h5 : Snd mX11_likely g 69 (J 5)) (h6 : Snd mX11_likely g 112 (J 6)) (h7 : Snd mX11_likely g 139 (J 7)) (h8 : Snd mX11_likely g 181 (J 8)) : Snd mX11_likely g 58 (bX11_likely_4 g J) := by
  unfold bX11_likely_4
  refine s_lconst (pc := 58) (v := 0) ?_ dX11_likely_58 (by decide)
  exact s_lreturn (pc := 59) rfl dX11_likely_59
theorem sbX11_likely_5 (g : GE) (J : Nat → KT) (h1 : Snd mX11_likely g 22 (J 1)) (h2 : Snd mX11_likely g 27 (J 2)) (h3 : Snd mX11_likely g 50 (J 3)) (h4 : Snd mX11_likely g 58 (J 4)) (h5 : Snd mX11_likely g 69 (J 5)) (h6 : Snd mX11_likely g 112 (J 6)) (h7 : Snd mX11_likely g 139 (J 7)) (h8 : Snd mX11_likely g 181 (J 8)) : Snd mX11_likely g 69 (bX11_likely_5 g J) := by
  unfold bX11_likely_5
  refine s_iload (pc := 69) (i := 8) ?_ dX11_likely_69
  refine s_aload_n (pc := 71) (i := 0) ?_ dX11_likely_71 rfl
  refine s_getf (pc := 72) (ci := 10) (f := 27) (T := TX11) ?_ ginX11 rfl (by decide) wt_1420 dX11_likely_72
  refine s_icge (pc := 75) (tgt := 121) ?_ ?_ dX11_likely_75 (by decide)
  · skip
    refine s_lload (pc := 121) (i := 6) ?_ dX11_likely_121
    refine s_lconst (pc := 123) (v := 0) ?_ dX11_likely_123 (by decide)
    refine s_lcmp (pc := 124) ?_ dX11_likely_124
    refine s_ifne (pc := 125) (tgt := 131) ?_ ?_ dX11_likely_125 (by decide)
    · skip
      refine s_lload (pc := 131) (i := 4) ?_ dX11_likely_131
      refine s_lstore (pc := 133) (i := 8) ?_ dX11_likely_133 (by decide)
      refine s_lload (pc := 135) (i := 6) ?_ dX11_likely_135
      refine s_lstore (pc := 137) (i := 10) ?_ dX11_likely_137 (by decide)
      exact s_fall (pc := 139) h7
    · skip
      refine s_iload_n (pc := 128) (i := 3) ?_ dX11_likely_128 rfl
      refine s_i2l (pc := 129) ?_ dX11_likely_129
      exact s_lreturn (pc := 130) rfl dX11_likely_130
  · skip
    refine s_aload_n (pc := 78) (i := 0) ?_ dX11_likely_78 rfl
    refine s_iload (pc := 79) (i := 8) ?_ dX11_likely_79
    refine s_cv (pc := 81) (n := 1) (ci := 10) ?_ tX11_oddsBy rfl rfl wt_1811 wt_1813 wp_83 wt_17 wt_1814 ⟨crX11_oddsBy, by decide, by decide⟩ dX11_likely_81
    refine s_lstore (pc := 84) (i := 9) ?_ dX11_likely_84 (by decide)
    refine s_lload (pc := 86) (i := 6) ?_ dX11_likely_86
    refine s_lload (pc := 88) (i := 9) ?_ dX11_likely_88
    refine s_ladd (pc := 90) ?_ dX11_likely_90
    refine s_lstore (pc := 91) (i := 6) ?_ dX11_likely_91 (by decide)
    refine s_lload (pc := 93) (i := 4) ?_ dX11_likely_93
    refine s_aload_n (pc := 95) (i := 0) ?_ dX11_likely_95 rfl
    refine s_iload (pc := 96) (i := 8) ?_ dX11_likely_96
    refine s_iload_n (pc := 98) (i := 1) ?_ dX11_likely_98 rfl
    refine s_cv (pc := 99) (n := 2) (ci := 10) ?_ tX11_goesBy rfl rfl wt_1716 wt_1718 wp_75 wt_17 wt_1719 ⟨crX11_goesBy, by decide, by decide⟩ dX11_likely_99
    refine s_iload_n (pc := 102) (i := 2) ?_ dX11_likely_102 rfl
    refine s_icne (pc := 103) (tgt := 111) ?_ ?_ dX11_likely_103 (by decide)
    · skip
      refine s_lconst (pc := 111) (v := 0) ?_ dX11_likely_111 (by decide)
      exact s_fall (pc := 112) h6
    · skip
      refine s_lload (pc := 106) (i := 9) ?_ dX11_likely_106
      exact s_goto (pc := 108) (tgt := 112) h6 dX11_likely_108 (by decide)
theorem sbX11_likely_6 (g : GE) (J : Nat → KT) (h1 : Snd mX11_likely g 22 (J 1)) (h2 : Snd mX11_likely g 27 (J 2)) (h3 : Snd mX11_likely g 50 (J 3)) (h4 : Snd mX11_likely g 58 (J 4)) (h5 : Snd mX11_likely g 69 (J 5)) (h6 : Snd mX11_likely g 112 (J 6)) (h7 : Snd mX11_likely g 139 (J 7)) (h8 : Snd mX11_likely g 181 (J 8)) : Snd mX11_likely g 112 (bX11_likely_6 g J) := by
  unfold bX11_likely_6
  refine s_ladd (pc := 112) ?_ dX11_likely_112
  refine s_lstore (pc := 113) (i := 4) ?_ dX11_likely_113 (by decide)
  refine s_iinc (pc := 115) (i := 8) (v := 1) ?_ dX11_likely_115 (by decide) (by decide)
  exact s_goto (pc := 118) (tgt := 69) h5 dX11_likely_118 (by decide)
theorem sbX11_likely_7 (g : GE) (J : Nat → KT) (h1 : Snd mX11_likely g 22 (J 1)) (h2 : Snd mX11_likely g 27 (J 2)) (h3 : Snd mX11_likely g 50 (J 3)) (h4 : Snd mX11_likely g 58 (J 4)) (h5 : Snd mX11_likely g 69 (J 5)) (h6 : Snd mX11_likely g 112 (J 6)) (h7 : Snd mX11_likely g 139 (J 7)) (h8 : Snd mX11_likely g 181 (J 8)) : Snd mX11_likely g 139 (bX11_likely_7 g J) := by
  unfold bX11_likely_7
  refine s_lload (pc := 139) (i := 10) ?_ dX11_likely_139
  refine s_lconst (pc := 141) (v := 0) ?_ dX11_likely_141 (by decide)
  refine s_lcmp (pc := 142) ?_ dX11_likely_142
  refine s_ifeq (pc := 143) (tgt := 164) ?_ ?_ dX11_likely_143 (by decide)
  · skip
    refine s_iload_n (pc := 164) (i := 3) ?_ dX11_likely_164 rfl
    refine s_ifne (pc := 165) (tgt := 176) ?_ ?_ dX11_likely_165 (by decide)
    · skip
      refine s_lload (pc := 176) (i := 6) ?_ dX11_likely_176
      refine s_lload (pc := 178) (i := 8) ?_ dX11_likely_178
      refine s_ldiv (pc := 180) ?_ dX11_likely_180
      exact s_fall (pc := 181) h8
    · skip
      refine s_lload (pc := 168) (i := 4) ?_ dX11_likely_168
      refine s_lload (pc := 170) (i := 8) ?_ dX11_likely_170
      refine s_ldiv (pc := 172) ?_ dX11_likely_172
      exact s_goto (pc := 173) (tgt := 181) h8 dX11_likely_173 (by decide)
  · skip
    refine s_lload (pc := 146) (i := 8) ?_ dX11_likely_146
    refine s_lload (pc := 148) (i := 10) ?_ dX11_likely_148
    refine s_lrem (pc := 150) ?_ dX11_likely_150
    refine s_lstore (pc := 151) (i := 12) ?_ dX11_likely_151 (by decide)
    refine s_lload (pc := 153) (i := 10) ?_ dX11_likely_153
    refine s_lstore (pc := 155) (i := 8) ?_ dX11_likely_155 (by decide)
    refine s_lload (pc := 157) (i := 12) ?_ dX11_likely_157
    refine s_lstore (pc := 159) (i := 10) ?_ dX11_likely_159 (by decide)
    exact s_goto (pc := 161) (tgt := 139) h7 dX11_likely_161 (by decide)
theorem sbX11_likely_8 (g : GE) (J : Nat → KT) (h1 : Snd mX11_likely g 22 (J 1)) (h2 : Snd mX11_likely g 27 (J 2)) (h3 : Snd mX11_likely g 50 (J 3)) (h4 : Snd mX11_likely g 58 (J 4)) (h5 : Snd mX11_likely g 69 (J 5)) (h6 : Snd mX11_likely g 112 (J 6)) (h7 : Snd mX11_likely g 139 (J 7)) (h8 : Snd mX11_likely g 181 (J 8)) : Snd mX11_likely g 181 (bX11_likely_8 g J) := by
  unfold bX11_likely_8
  exact s_lreturn (pc := 181) rfl dX11_likely_181
def jX11_likely (g : GE) : Nat → Nat → KT
  | 0, _ => fun _ _ _ => none
  | n + 1, 0 => bX11_likely_0 g (jX11_likely g n)
  | n + 1, 1 => bX11_likely_1 g (jX11_likely g n)
  | n + 1, 2 => bX11_likely_2 g (jX11_likely g n)
  | n + 1, 3 => bX11_likely_3 g (jX11_likely g n)
  | n + 1, 4 => bX11_likely_4 g (jX11_likely g n)
  | n + 1, 5 => bX11_likely_5 g (jX11_likely g n)
  | n + 1, 6 => bX11_likely_6 g (jX11_likely g n)
  | n + 1, 7 => bX11_likely_7 g (jX11_likely g n)
  | n + 1, 8 => bX11_likely_8 g (jX11_likely g n)
  | _ + 1, _ + 9 => fun _ _ _ => none
theorem sjX11_likely (g : GE) : ∀ n, Snd mX11_likely g 0 (jX11_likely g n 0) ∧ Snd mX11_likely g 22 (jX11_likely g n 1) ∧ Snd mX11_likely g 27 (jX11_likely g n 2) ∧ Snd mX11_likely g 50 (jX11_likely g n 3) ∧ Snd mX11_likely g 58 (jX11_likely g n 4) ∧ Snd mX11_likely g 69 (jX11_likely g n 5) ∧ Snd mX11_likely g 112 (jX11_likely g n 6) ∧ Snd mX11_likely g 139 (jX11_likely g n 7) ∧ Snd mX11_likely g 181 (jX11_likely g n 8)
  | 0 => ⟨s_none, s_none, s_none, s_none, s_none, s_none, s_none, s_none, s_none⟩
  | n + 1 => by
    obtain ⟨-, h1, h2, h3, h4, h5, h6, h7, h8⟩ := sjX11_likely g n
    exact ⟨sbX11_likely_0 g _ h1 h2 h3 h4 h5 h6 h7 h8, sbX11_likely_1 g _ h1 h2 h3 h4 h5 h6 h7 h8, sbX11_likely_2 g _ h1 h2 h3 h4 h5 h6 h7 h8, sbX11_likely_3 g _ h1 h2 h3 h4 h5 h6 h7 h8, sbX11_likely_4 g _ h1 h2 h3 h4 h5 h6 h7 h8, sbX11_likely_5 g _ h1 h2 h3 h4 h5 h6 h7 h8, sbX11_likely_6 g _ h1 h2 h3 h4 h5 h6 h7 h8, sbX11_likely_7 g _ h1 h2 h3 h4 h5 h6 h7 h8, sbX11_likely_8 g _ h1 h2 h3 h4 h5 h6 h7 h8⟩
def kX11_likely (g : GE) : KT := jX11_likely g g.1 0
theorem sX11_likely (g : GE) : Snd mX11_likely g 0 (kX11_likely g) := (sjX11_likely g g.1).1
def fX11_likely : FT := fun g av w => if (ent av).length ≤ 14 then kX11_likely g [] (entp 14 av) w else none
theorem tX11_likely : Mt yX11_likely cX11_likely 14 (some .long) 4 100 fX11_likely := Mt.of (K := kX11_likely) (by decide +kernel) (fun _ _ _ => rfl) sX11_likely
theorem crX11_likely : yX11_likely.cls ≠ "java/lang/invoke/MethodHandle" ∧ yX11_likely.cls ≠ "java/lang/invoke/VarHandle" ∧ (parseMethodDescriptor yX11_likely.desc).map (fun d => d.parameters.length) = some 3 := by decide +kernel
theorem dX11_middle_0 : decode cX11_middle 0 = .ok (.aload_n 0, 1) := by decide +kernel
theorem dX11_middle_1 : decode cX11_middle 1 = .ok (.iconst 0, 1) := by decide +kernel
theorem dX11_middle_2 : decode cX11_middle 2 = .ok (.putfield 120, 3) := by decide +kernel
theorem dX11_middle_5 : decode cX11_middle 5 = .ok (.aload_n 0, 1) := by decide +kernel
theorem dX11_middle_6 : decode cX11_middle 6 = .ok (.iload_n 1, 1) := by decide +kernel
theorem dX11_middle_7 : decode cX11_middle 7 = .ok (.iconst 0, 1) := by decide +kernel
theorem dX11_middle_8 : decode cX11_middle 8 = .ok (.iconst 1, 1) := by decide +kernel
theorem dX11_middle_9 : decode cX11_middle 9 = .ok (.invokestatic 154, 3) := by decide +kernel
theorem dX11_middle_12 : decode cX11_middle 12 = .ok (.ifCond .ne 7, 3) := by decide +kernel
theorem dX11_middle_15 : decode cX11_middle 15 = .ok (.iconst 1, 1) := by decide +kernel
theorem dX11_middle_16 : decode cX11_middle 16 = .ok (.goto 4, 3) := by decide +kernel
theorem dX11_middle_19 : decode cX11_middle 19 = .ok (.iconst 0, 1) := by decide +kernel
theorem dX11_middle_20 : decode cX11_middle 20 = .ok (.iconst 1, 1) := by decide +kernel
theorem dX11_middle_21 : decode cX11_middle 21 = .ok (.iconst 2, 1) := by decide +kernel
theorem dX11_middle_22 : decode cX11_middle 22 = .ok (.invokevirtual 215, 3) := by decide +kernel
theorem dX11_middle_25 : decode cX11_middle 25 = .ok (.ifCond .eq 5, 3) := by decide +kernel
theorem dX11_middle_28 : decode cX11_middle 28 = .ok (.iconst 0, 1) := by decide +kernel
theorem dX11_middle_29 : decode cX11_middle 29 = .ok (.ireturn, 1) := by decide +kernel
theorem dX11_middle_30 : decode cX11_middle 30 = .ok (.iconst (-1), 1) := by decide +kernel
theorem dX11_middle_31 : decode cX11_middle 31 = .ok (.istore_n 2, 1) := by decide +kernel
theorem dX11_middle_32 : decode cX11_middle 32 = .ok (.iconst 0, 1) := by decide +kernel
theorem dX11_middle_33 : decode cX11_middle 33 = .ok (.istore_n 3, 1) := by decide +kernel
theorem dX11_middle_34 : decode cX11_middle 34 = .ok (.aload_n 0, 1) := by decide +kernel
theorem dX11_middle_35 : decode cX11_middle 35 = .ok (.getfield 244, 3) := by decide +kernel
theorem dX11_middle_38 : decode cX11_middle 38 = .ok (.sipush 400, 3) := by decide +kernel
theorem dX11_middle_41 : decode cX11_middle 41 = .ok (.if_icmp .ge 10, 3) := by decide +kernel
theorem dX11_middle_44 : decode cX11_middle 44 = .ok (.aload_n 0, 1) := by decide +kernel
theorem dX11_middle_45 : decode cX11_middle 45 = .ok (.getfield 244, 3) := by decide +kernel
theorem dX11_middle_48 : decode cX11_middle 48 = .ok (.goto 6, 3) := by decide +kernel
theorem dX11_middle_51 : decode cX11_middle 51 = .ok (.sipush 400, 3) := by decide +kernel
theorem dX11_middle_54 : decode cX11_middle 54 = .ok (.istore 4, 2) := by decide +kernel
theorem dX11_middle_56 : decode cX11_middle 56 = .ok (.iconst 0, 1) := by decide +kernel
theorem dX11_middle_57 : decode cX11_middle 57 = .ok (.istore 5, 2) := by decide +kernel
theorem dX11_middle_59 : decode cX11_middle 59 = .ok (.iload 5, 2) := by decide +kernel
theorem dX11_middle_61 : decode cX11_middle 61 = .ok (.iload 4, 2) := by decide +kernel
theorem dX11_middle_63 : decode cX11_middle 63 = .ok (.if_icmp .ge 76, 3) := by decide +kernel
theorem dX11_middle_66 : decode cX11_middle 66 = .ok (.iconst 0, 1) := by decide +kernel
theorem dX11_middle_67 : decode cX11_middle 67 = .ok (.istore 6, 2) := by decide +kernel
theorem dX11_middle_69 : decode cX11_middle 69 = .ok (.iconst 0, 1) := by decide +kernel
theorem dX11_middle_70 : decode cX11_middle 70 = .ok (.istore 7, 2) := by decide +kernel
theorem dX11_middle_72 : decode cX11_middle 72 = .ok (.iload 7, 2) := by decide +kernel
theorem dX11_middle_74 : decode cX11_middle 74 = .ok (.iload 4, 2) := by decide +kernel
theorem dX11_middle_76 : decode cX11_middle 76 = .ok (.if_icmp .ge 37, 3) := by decide +kernel
theorem dX11_middle_79 : decode cX11_middle 79 = .ok (.aload_n 0, 1) := by decide +kernel
theorem dX11_middle_80 : decode cX11_middle 80 = .ok (.iload 5, 2) := by decide +kernel
theorem dX11_middle_82 : decode cX11_middle 82 = .ok (.iload 7, 2) := by decide +kernel
theorem dX11_middle_84 : decode cX11_middle 84 = .ok (.invokevirtual 330, 3) := by decide +kernel
theorem dX11_middle_87 : decode cX11_middle 87 = .ok (.iload 6, 2) := by decide +kernel
theorem dX11_middle_89 : decode cX11_middle 89 = .ok (.if_icmp .le 14, 3) := by decide +kernel
theorem dX11_middle_92 : decode cX11_middle 92 = .ok (.aload_n 0, 1) := by decide +kernel
theorem dX11_middle_93 : decode cX11_middle 93 = .ok (.iload 5, 2) := by decide +kernel
theorem dX11_middle_95 : decode cX11_middle 95 = .ok (.iload 7, 2) := by decide +kernel
theorem dX11_middle_97 : decode cX11_middle 97 = .ok (.invokevirtual 330, 3) := by decide +kernel
theorem dX11_middle_100 : decode cX11_middle 100 = .ok (.goto 5, 3) := by decide +kernel
theorem dX11_middle_103 : decode cX11_middle 103 = .ok (.iload 6, 2) := by decide +kernel
theorem dX11_middle_105 : decode cX11_middle 105 = .ok (.istore 6, 2) := by decide +kernel
theorem dX11_middle_107 : decode cX11_middle 107 = .ok (.iinc 7 1, 3) := by decide +kernel
theorem dX11_middle_110 : decode cX11_middle 110 = .ok (.goto (-38), 3) := by decide +kernel
theorem dX11_middle_113 : decode cX11_middle 113 = .ok (.iload_n 2, 1) := by decide +kernel
theorem dX11_middle_114 : decode cX11_middle 114 = .ok (.iconst (-1), 1) := by decide +kernel
theorem dX11_middle_115 : decode cX11_middle 115 = .ok (.if_icmp .eq 12, 3) := by decide +kernel
theorem dX11_middle_118 : decode cX11_middle 118 = .ok (.iload 6, 2) := by decide +kernel
theorem dX11_middle_120 : decode cX11_middle 120 = .ok (.iload_n 3, 1) := by decide +kernel
theorem dX11_middle_121 : decode cX11_middle 121 = .ok (.if_icmp .lt 6, 3) := by decide +kernel
theorem dX11_middle_124 : decode cX11_middle 124 = .ok (.goto 9, 3) := by decide +kernel
theorem dX11_middle_127 : decode cX11_middle 127 = .ok (.iload 5, 2) := by decide +kernel
theorem dX11_middle_129 : decode cX11_middle 129 = .ok (.istore_n 2, 1) := by decide +kernel
theorem dX11_middle_130 : decode cX11_middle 130 = .ok (.iload 6, 2) := by decide +kernel
theorem dX11_middle_132 : decode cX11_middle 132 = .ok (.istore_n 3, 1) := by decide +kernel
theorem dX11_middle_133 : decode cX11_middle 133 = .ok (.iinc 5 1, 3) := by decide +kernel
theorem dX11_middle_136 : decode cX11_middle 136 = .ok (.goto (-77), 3) := by decide +kernel
theorem dX11_middle_139 : decode cX11_middle 139 = .ok (.iload_n 2, 1) := by decide +kernel
theorem dX11_middle_140 : decode cX11_middle 140 = .ok (.iconst (-1), 1) := by decide +kernel
theorem dX11_middle_141 : decode cX11_middle 141 = .ok (.if_icmp .eq 7, 3) := by decide +kernel
theorem dX11_middle_144 : decode cX11_middle 144 = .ok (.iload_n 1, 1) := by decide +kernel
theorem dX11_middle_145 : decode cX11_middle 145 = .ok (.ifCond .ne 7, 3) := by decide +kernel
theorem dX11_middle_148 : decode cX11_middle 148 = .ok (.iload_n 2, 1) := by decide +kernel
theorem dX11_middle_149 : decode cX11_middle 149 = .ok (.goto 4, 3) := by decide +kernel
theorem dX11_middle_152 : decode cX11_middle 152 = .ok (.iload_n 3, 1) := by decide +kernel
theorem dX11_middle_153 : decode cX11_middle 153 = .ok (.ireturn, 1) := by decide +kernel
abbrev mX11_middle : MD := (cX11_middle, "BlottedDeedModel", 8, 2, 56, (some .int), "middle", [])
def bX11_middle_0 (g : GE) (J : Nat → KT) : KT := i_aload 0 (i_push (.int 0) (i_putf 10 0 .int (i_aload 0 (i_iload 1 (i_push (.int 0) (i_push (.int 1) (i_cs fX11_in g 3 (i_ifne (i_push (.int 0) (i_jmp [true, true, false, false, false, false, false, false] (J 1))) (i_push (.int 1) (i_jmp [true, true, false, false, false, false, false, false] (J 1)))))))))))
def bX11_middle_1 (g : GE) (J : Nat → KT) : KT := i_push (.int 1) (i_push (.int 2) (i_cv fX11_bad g 3 10 (i_ifeq (i_push (.int (-1)) (i_istore 2 (i_push (.int 0) (i_istore 3 (i_aload 0 (i_getf 10 27 (i_push (.int 400) (i_icge (i_push (.int 400) (i_jmp [true, true, true, true, false, false, false, false] (J 2))) (i_aload 0 (i_getf 10 27 (i_jmp [true, true, true, true, false, false, false, false] (J 2)))))))))))) (i_push (.int 0) (i_ireturn)))))
def bX11_middle_2 (g : GE) (J : Nat → KT) : KT := i_istore 4 (i_push (.int 0) (i_istore 5 (i_jmp [true, true, true, true, true, true, false, false] (J 3))))
def bX11_middle_3 (g : GE) (J : Nat → KT) : KT := i_iload 5 (i_iload 4 (i_icge (i_iload 2 (i_push (.int (-1)) (i_iceq (i_jmp [false, false, true, false, false, false, false, false] (J 8)) (i_iload 1 (i_ifne (i_iload 3 (i_jmp [false, false, false, false, false, false, false, false] (J 9))) (i_jmp [false, false, true, false, false, false, false, false] (J 8))))))) (i_push (.int 0) (i_istore 6 (i_push (.int 0) (i_istore 7 (i_jmp [true, true, true, true, true, true, true, true] (J 4))))))))
def bX11_middle_4 (g : GE) (J : Nat → KT) : KT := i_iload 7 (i_iload 4 (i_icge (i_iload 2 (i_push (.int (-1)) (i_iceq (i_jmp [true, true, false, false, true, true, true, false] (J 6)) (i_iload 6 (i_iload 3 (i_iclt (i_jmp [true, true, false, false, true, true, true, false] (J 6)) (i_jmp [true, true, true, true, true, true, false, false] (J 7)))))))) (i_aload 0 (i_iload 5 (i_iload 7 (i_cv fX11_apartBy g 2 10 (i_iload 6 (i_icle (i_iload 6 (i_jmp [true, true, true, true, true, true, false, true] (J 5))) (i_aload 0 (i_iload 5 (i_iload 7 (i_cv fX11_apartBy g 2 10 (i_jmp [true, true, true, true, true, true, false, true] (J 5))))))))))))))
def bX11_middle_5 (g : GE) (J : Nat → KT) : KT := i_istore 6 (i_iinc 7 1 (i_jmp [true, true, true, true, true, true, true, true] (J 4)))
def bX11_middle_6 (g : GE) (J : Nat → KT) : KT := i_iload 5 (i_istore 2 (i_iload 6 (i_istore 3 (i_jmp [true, true, true, true, true, true, false, false] (J 7)))))
def bX11_middle_7 (g : GE) (J : Nat → KT) : KT := i_iinc 5 1 (i_jmp [true, true, true, true, true, true, false, false] (J 3))
def bX11_middle_8 (g : GE) (J : Nat → KT) : KT := i_iload 2 (i_jmp [false, false, false, false, false, false, false, false] (J 9))
def bX11_middle_9 (g : GE) (J : Nat → KT) : KT := i_ireturn
theorem sbX11_middle_0 (g : GE) (J : Nat → KT) (h1 : Snd mX11_middle g 20 (J 1)) (h2 : Snd mX11_middle g 54 (J 2)) (h3 : Snd mX11_middle g 59 (J 3)) (h4 : Snd mX11_middle g 72 (J 4)) (h5 : Snd mX11_middle g 105 (J 5)) (h6 : Snd mX11_middle g 127 (J 6)) (h7 : Snd mX11_middle g 133 (J 7)) (h8 : Snd mX11_middle g 148 (J 8)) (h9 : Snd mX11_middle g 153 (J 9)) : Snd mX11_middle g 0 (bX11_middle_0 g J) := by
  unfold bX11_middle_0
  refine s_aload_n (pc := 0) (i := 0) ?_ dX11_middle_0 rfl
  refine s_iconst (pc := 1) (v := 0) ?_ dX11_middle_1 (by decide)
  refine s_putf (pc := 2) (ci := 10) (f := 0) (T := TX11) (ty0 := tyX11) ?_ ginX11 tyX11_ok nmX11 rfl (by decide) rfl rfl wt_1393 dX11_middle_2
  refine s_aload_n (pc := 5) (i := 0) ?_ dX11_middle_5 rfl
  refine s_iload_n (pc := 6) (i := 1) ?_ dX11_middle_6 rfl
  refine s_iconst (pc := 7) (v := 0) ?_ dX11_middle_7 (by decide)
  refine s_iconst (pc := 8) (v := 1) ?_ dX11_middle_8 (by decide)
  refine s_cs (pc := 9) (n := 3) ?_ tX11_in wt_1557 wt_1558 wt_17 wt_1559 ⟨crX11_in, by decide, by decide⟩ dX11_middle_9
  refine s_ifne (pc := 12) (tgt := 19) ?_ ?_ dX11_middle_12 (by decide)
  · skip
    refine s_iconst (pc := 19) (v := 0) ?_ dX11_middle_19 (by decide)
    exact s_fall (pc := 20) h1
  · skip
    refine s_iconst (pc := 15) (v := 1) ?_ dX11_middle_15 (by decide)
    exact s_goto (pc := 16) (tgt := 20) h1 dX11_middle_16 (by decide)
theorem sbX11_middle_1 (g : GE) (J : Nat → KT) (h1 : Snd mX11_middle g 20 (J 1)) (h2 : Snd mX11_middle g 54 (J 2)) (h3 : Snd mX11_middle g 59 (J 3)) (h4 : Snd mX11_middle g 72 (J 4)) (h5 : Snd mX11_middle g 105 (J 5)) (h6 : Snd mX11_middle g 127 (J 6)) (h7 : Snd mX11_middle g 133 (J 7)) (h8 : Snd mX11_middle g 148 (J 8)) (h9 : Snd mX11_middle g 153 (J 9)) : Snd mX11_middle g 20 (bX11_middle_1 g J) := by
  unfold bX11_middle_1
  refine s_iconst (pc := 20) (v := 1) ?_ dX11_middle_20 (by decide)
  refine s_iconst (pc := 21) (v := 2) ?_ dX11_middle_21 (by decide)
  refine s_cv (pc := 22) (n := 3) (ci := 10) ?_ tX11_bad rfl rfl wt_1560 wt_1562 wp_49 wt_17 wt_1563 ⟨crX11_bad, by decide, by decide⟩ dX11_middle_22
  refine s_ifeq (pc := 25) (tgt := 30) ?_ ?_ dX11_middle_25 (by decide)
  · skip
    refine s_iconst (pc := 30) (v := (-1)) ?_ dX11_middle_30 (by decide)
    refine s_istore_n (pc := 31) (i := 2) ?_ dX11_middle_31 rfl (by decide)
    refine s_iconst (pc := 32) (v := 0) ?_ dX11_middle_32 (by decide)
    refine s_istore_n (pc := 33) (i := 3) ?_ dX11_middle_33 rfl (by decide)
    refine s_aload_n (pc := 34) (i := 0) ?_ dX11_middle_34 rfl
    refine s_getf (pc := 35) (ci := 10) (f := 27) (T := TX11) ?_ ginX11 rfl (by decide) wt_1420 dX11_middle_35
    refine s_sipush (pc := 38) (v := 400) ?_ dX11_middle_38 (by decide)
    refine s_icge (pc := 41) (tgt := 51) ?_ ?_ dX11_middle_41 (by decide)
    · skip
      refine s_sipush (pc := 51) (v := 400) ?_ dX11_middle_51 (by decide)
      exact s_fall (pc := 54) h2
    · skip
      refine s_aload_n (pc := 44) (i := 0) ?_ dX11_middle_44 rfl
      refine s_getf (pc := 45) (ci := 10) (f := 27) (T := TX11) ?_ ginX11 rfl (by decide) wt_1420 dX11_middle_45
      exact s_goto (pc := 48) (tgt := 54) h2 dX11_middle_48 (by decide)
  · skip
    refine s_iconst (pc := 28) (v := 0) ?_ dX11_middle_28 (by decide)
    exact s_ireturn (pc := 29) rfl dX11_middle_29
theorem sbX11_middle_2 (g : GE) (J : Nat → KT) (h1 : Snd mX11_middle g 20 (J 1)) (h2 : Snd mX11_middle g 54 (J 2)) (h3 : Snd mX11_middle g 59 (J 3)) (h4 : Snd mX11_middle g 72 (J 4)) (h5 : Snd mX11_middle g 105 (J 5)) (h6 : Snd mX11_middle g 127 (J 6)) (h7 : Snd mX11_middle g 133 (J 7)) (h8 : Snd mX11_middle g 148 (J 8)) (h9 : Snd mX11_middle g 153 (J 9)) : Snd mX11_middle g 54 (bX11_middle_2 g J) := by
  unfold bX11_middle_2
  refine s_istore (pc := 54) (i := 4) ?_ dX11_middle_54 (by decide)
  refine s_iconst (pc := 56) (v := 0) ?_ dX11_middle_56 (by decide)
  refine s_istore (pc := 57) (i := 5) ?_ dX11_middle_57 (by decide)
  exact s_fall (pc := 59) h3
theorem sbX11_middle_3 (g : GE) (J : Nat → KT) (h1 : Snd mX11_middle g 20 (J 1)) (h2 : Snd mX11_middle g 54 (J 2)) (h3 : Snd mX11_middle g 59 (J 3)) (h4 : Snd mX11_middle g 72 (J 4)) (h5 : Snd mX11_middle g 105 (J 5)) (h6 : Snd mX11_middle g 127 (J 6)) (h7 : Snd mX11_middle g 133 (J 7)) (h8 : Snd mX11_middle g 148 (J 8)) (h9 : Snd mX11_middle g 153 (J 9)) : Snd mX11_middle g 59 (bX11_middle_3 g J) := by
  unfold bX11_middle_3
  refine s_iload (pc := 59) (i := 5) ?_ dX11_middle_59
  refine s_iload (pc := 61) (i := 4) ?_ dX11_middle_61
  refine s_icge (pc := 63) (tgt := 139) ?_ ?_ dX11_middle_63 (by decide)
  · skip
    refine s_iload_n (pc := 139) (i := 2) ?_ dX11_middle_139 rfl
    refine s_iconst (pc := 140) (v := (-1)) ?_ dX11_middle_140 (by decide)
    refine s_iceq (pc := 141) (tgt := 148) ?_ ?_ dX11_middle_141 (by decide)
    · skip
      exact s_fall (pc := 148) h8
    · skip
      refine s_iload_n (pc := 144) (i := 1) ?_ dX11_middle_144 rfl
      refine s_ifne (pc := 145) (tgt := 152) ?_ ?_ dX11_middle_145 (by decide)
      · skip
        refine s_iload_n (pc := 152) (i := 3) ?_ dX11_middle_152 rfl
        exact s_fall (pc := 153) h9
      · skip
        exact s_fall (pc := 148) h8
  · skip
    refine s_iconst (pc := 66) (v := 0) ?_ dX11_middle_66 (by decide)
    refine s_istore (pc := 67) (i := 6) ?_ dX11_middle_67 (by decide)
    refine s_iconst (pc := 69) (v := 0) ?_ dX11_middle_69 (by decide)
    refine s_istore (pc := 70) (i := 7) ?_ dX11_middle_70 (by decide)
    exact s_fall (pc := 72) h4
theorem sbX11_middle_4 (g : GE) (J : Nat → KT) (h1 : Snd mX11_middle g 20 (J 1)) (h2 : Snd mX11_middle g 54 (J 2)) (h3 : Snd mX11_middle g 59 (J 3)) (h4 : Snd mX11_middle g 72 (J 4)) (h5 : Snd mX11_middle g 105 (J 5)) (h6 : Snd mX11_middle g 127 (J 6)) (h7 : Snd mX11_middle g 133 (J 7)) (h8 : Snd mX11_middle g 148 (J 8)) (h9 : Snd mX11_middle g 153 (J 9)) : Snd mX11_middle g 72 (bX11_middle_4 g J) := by
  unfold bX11_middle_4
  refine s_iload (pc := 72) (i := 7) ?_ dX11_middle_72
  refine s_iload (pc := 74) (i := 4) ?_ dX11_middle_74
  refine s_icge (pc := 76) (tgt := 113) ?_ ?_ dX11_middle_76 (by decide)
  · skip
    refine s_iload_n (pc := 113) (i := 2) ?_ dX11_middle_113 rfl
    refine s_iconst (pc := 114) (v := (-1)) ?_ dX11_middle_114 (by decide)
    refine s_iceq (pc := 115) (tgt := 127) ?_ ?_ dX11_middle_115 (by decide)
    · skip
      exact s_fall (pc := 127) h6
    · skip
      refine s_iload (pc := 118) (i := 6) ?_ dX11_middle_118
      refine s_iload_n (pc := 120) (i := 3) ?_ dX11_middle_120 rfl
      refine s_iclt (pc := 121) (tgt := 127) ?_ ?_ dX11_middle_121 (by decide)
      · skip
        exact s_fall (pc := 127) h6
      · skip
        exact s_goto (pc := 124) (tgt := 133) h7 dX11_middle_124 (by decide)
  · skip
    refine s_aload_n (pc := 79) (i := 0) ?_ dX11_middle_79 rfl
    refine s_iload (pc := 80) (i := 5) ?_ dX11_middle_80
    refine s_iload (pc := 82) (i := 7) ?_ dX11_middle_82
    refine s_cv (pc := 84) (n := 2) (ci := 10) ?_ tX11_apartBy rfl rfl wt_1855 wt_1857 wp_87 wt_17 wt_1858 ⟨crX11_apartBy, by decide, by decide⟩ dX11_middle_84
    refine s_iload (pc := 87) (i := 6) ?_ dX11_middle_87
    refine s_icle (pc := 89) (tgt := 103) ?_ ?_ dX11_middle_89 (by decide)
    · skip
      refine s_iload (pc := 103) (i := 6) ?_ dX11_middle_103
      exact s_fall (pc := 105) h5
    · skip
      refine s_aload_n (pc := 92) (i := 0) ?_ dX11_middle_92 rfl
      refine s_iload (pc := 93) (i := 5) ?_ dX11_middle_93
      refine s_iload (pc := 95) (i := 7) ?_ dX11_middle_95
      refine s_cv (pc := 97) (n := 2) (ci := 10) ?_ tX11_apartBy rfl rfl wt_1855 wt_1857 wp_87 wt_17 wt_1858 ⟨crX11_apartBy, by decide, by decide⟩ dX11_middle_97
      exact s_goto (pc := 100) (tgt := 105) h5 dX11_middle_100 (by decide)
theorem sbX11_middle_5 (g : GE) (J : Nat → KT) (h1 : Snd mX11_middle g 20 (J 1)) (h2 : Snd mX11_middle g 54 (J 2)) (h3 : Snd mX11_middle g 59 (J 3)) (h4 : Snd mX11_middle g 72 (J 4)) (h5 : Snd mX11_middle g 105 (J 5)) (h6 : Snd mX11_middle g 127 (J 6)) (h7 : Snd mX11_middle g 133 (J 7)) (h8 : Snd mX11_middle g 148 (J 8)) (h9 : Snd mX11_middle g 153 (J 9)) : Snd mX11_middle g 105 (bX11_middle_5 g J) := by
  unfold bX11_middle_5
  refine s_istore (pc := 105) (i := 6) ?_ dX11_middle_105 (by decide)
  refine s_iinc (pc := 107) (i := 7) (v := 1) ?_ dX11_middle_107 (by decide) (by decide)
  exact s_goto (pc := 110) (tgt := 72) h4 dX11_middle_110 (by decide)
theorem sbX11_middle_6 (g : GE) (J : Nat → KT) (h1 : Snd mX11_middle g 20 (J 1)) (h2 : Snd mX11_middle g 54 (J 2)) (h3 : Snd mX11_middle g 59 (J 3)) (h4 : Snd mX11_middle g 72 (J 4)) (h5 : Snd mX11_middle g 105 (J 5)) (h6 : Snd mX11_middle g 127 (J 6)) (h7 : Snd mX11_middle g 133 (J 7)) (h8 : Snd mX11_middle g 148 (J 8)) (h9 : Snd mX11_middle g 153 (J 9)) : Snd mX11_middle g 127 (bX11_middle_6 g J) := by
  unfold bX11_middle_6
  refine s_iload (pc := 127) (i := 5) ?_ dX11_middle_127
  refine s_istore_n (pc := 129) (i := 2) ?_ dX11_middle_129 rfl (by decide)
  refine s_iload (pc := 130) (i := 6) ?_ dX11_middle_130
  refine s_istore_n (pc := 132) (i := 3) ?_ dX11_middle_132 rfl (by decide)
  exact s_fall (pc := 133) h7
theorem sbX11_middle_7 (g : GE) (J : Nat → KT) (h1 : Snd mX11_middle g 20 (J 1)) (h2 : Snd mX11_middle g 54 (J 2)) (h3 : Snd mX11_middle g 59 (J 3)) (h4 : Snd mX11_middle g 72 (J 4)) (h5 : Snd mX11_middle g 105 (J 5)) (h6 : Snd mX11_middle g 127 (J 6)) (h7 : Snd mX11_middle g 133 (J 7)) (h8 : Snd mX11_middle g 148 (J 8)) (h9 : Snd mX11_middle g 153 (J 9)) : Snd mX11_middle g 133 (bX11_middle_7 g J) := by
  unfold bX11_middle_7
  refine s_iinc (pc := 133) (i := 5) (v := 1) ?_ dX11_middle_133 (by decide) (by decide)
  exact s_goto (pc := 136) (tgt := 59) h3 dX11_middle_136 (by decide)
theorem sbX11_middle_8 (g : GE) (J : Nat → KT) (h1 : Snd mX11_middle g 20 (J 1)) (h2 : Snd mX11_middle g 54 (J 2)) (h3 : Snd mX11_middle g 59 (J 3)) (h4 : Snd mX11_middle g 72 (J 4)) (h5 : Snd mX11_middle g 105 (J 5)) (h6 : Snd mX11_middle g 127 (J 6)) (h7 : Snd mX11_middle g 133 (J 7)) (h8 : Snd mX11_middle g 148 (J 8)) (h9 : Snd mX11_middle g 153 (J 9)) : Snd mX11_middle g 148 (bX11_middle_8 g J) := by
  unfold bX11_middle_8
  refine s_iload_n (pc := 148) (i := 2) ?_ dX11_middle_148 rfl
  exact s_goto (pc := 149) (tgt := 153) h9 dX11_middle_149 (by decide)
theorem sbX11_middle_9 (g : GE) (J : Nat → KT) (h1 : Snd mX11_middle g 20 (J 1)) (h2 : Snd mX11_middle g 54 (J 2)) (h3 : Snd mX11_middle g 59 (J 3)) (h4 : Snd mX11_middle g 72 (J 4)) (h5 : Snd mX11_middle g 105 (J 5)) (h6 : Snd mX11_middle g 127 (J 6)) (h7 : Snd mX11_middle g 133 (J 7)) (h8 : Snd mX11_middle g 148 (J 8)) (h9 : Snd mX11_middle g 153 (J 9)) : Snd mX11_middle g 153 (bX11_middle_9 g J) := by
  unfold bX11_middle_9
  exact s_ireturn (pc := 153) rfl dX11_middle_153
def jX11_middle (g : GE) : Nat → Nat → KT
  | 0, _ => fun _ _ _ => none
  | n + 1, 0 => bX11_middle_0 g (jX11_middle g n)
  | n + 1, 1 => bX11_middle_1 g (jX11_middle g n)
  | n + 1, 2 => bX11_middle_2 g (jX11_middle g n)
  | n + 1, 3 => bX11_middle_3 g (jX11_middle g n)
  | n + 1, 4 => bX11_middle_4 g (jX11_middle g n)
  | n + 1, 5 => bX11_middle_5 g (jX11_middle g n)
  | n + 1, 6 => bX11_middle_6 g (jX11_middle g n)
  | n + 1, 7 => bX11_middle_7 g (jX11_middle g n)
  | n + 1, 8 => bX11_middle_8 g (jX11_middle g n)
  | n + 1, 9 => bX11_middle_9 g (jX11_middle g n)
  | _ + 1, _ + 10 => fun _ _ _ => none
theorem sjX11_middle (g : GE) : ∀ n, Snd mX11_middle g 0 (jX11_middle g n 0) ∧ Snd mX11_middle g 20 (jX11_middle g n 1) ∧ Snd mX11_middle g 54 (jX11_middle g n 2) ∧ Snd mX11_middle g 59 (jX11_middle g n 3) ∧ Snd mX11_middle g 72 (jX11_middle g n 4) ∧ Snd mX11_middle g 105 (jX11_middle g n 5) ∧ Snd mX11_middle g 127 (jX11_middle g n 6) ∧ Snd mX11_middle g 133 (jX11_middle g n 7) ∧ Snd mX11_middle g 148 (jX11_middle g n 8) ∧ Snd mX11_middle g 153 (jX11_middle g n 9)
  | 0 => ⟨s_none, s_none, s_none, s_none, s_none, s_none, s_none, s_none, s_none, s_none⟩
  | n + 1 => by
    obtain ⟨-, h1, h2, h3, h4, h5, h6, h7, h8, h9⟩ := sjX11_middle g n
    exact ⟨sbX11_middle_0 g _ h1 h2 h3 h4 h5 h6 h7 h8 h9, sbX11_middle_1 g _ h1 h2 h3 h4 h5 h6 h7 h8 h9, sbX11_middle_2 g _ h1 h2 h3 h4 h5 h6 h7 h8 h9, sbX11_middle_3 g _ h1 h2 h3 h4 h5 h6 h7 h8 h9, sbX11_middle_4 g _ h1 h2 h3 h4 h5 h6 h7 h8 h9, sbX11_middle_5 g _ h1 h2 h3 h4 h5 h6 h7 h8 h9, sbX11_middle_6 g _ h1 h2 h3 h4 h5 h6 h7 h8 h9, sbX11_middle_7 g _ h1 h2 h3 h4 h5 h6 h7 h8 h9, sbX11_middle_8 g _ h1 h2 h3 h4 h5 h6 h7 h8 h9, sbX11_middle_9 g _ h1 h2 h3 h4 h5 h6 h7 h8 h9⟩
def kX11_middle (g : GE) : KT := jX11_middle g g.1 0
theorem sX11_middle (g : GE) : Snd mX11_middle g 0 (kX11_middle g) := (sjX11_middle g g.1).1
def fX11_middle : FT := fun g av w => if (ent av).length ≤ 8 then kX11_middle g [] (entp 8 av) w else none
theorem tX11_middle : Mt yX11_middle cX11_middle 8 (some .int) 2 56 fX11_middle := Mt.of (K := kX11_middle) (by decide +kernel) (fun _ _ _ => rfl) sX11_middle
theorem crX11_middle : yX11_middle.cls ≠ "java/lang/invoke/MethodHandle" ∧ yX11_middle.cls ≠ "java/lang/invoke/VarHandle" ∧ (parseMethodDescriptor yX11_middle.desc).map (fun d => d.parameters.length) = some 1 := by decide +kernel
theorem dX11_more_0 : decode cX11_more 0 = .ok (.aload_n 0, 1) := by decide +kernel
theorem dX11_more_1 : decode cX11_more 1 = .ok (.iconst 0, 1) := by decide +kernel
theorem dX11_more_2 : decode cX11_more 2 = .ok (.putfield 120, 3) := by decide +kernel
theorem dX11_more_5 : decode cX11_more 5 = .ok (.aload_n 0, 1) := by decide +kernel
theorem dX11_more_6 : decode cX11_more 6 = .ok (.iload_n 1, 1) := by decide +kernel
theorem dX11_more_7 : decode cX11_more 7 = .ok (.iconst 0, 1) := by decide +kernel
theorem dX11_more_8 : decode cX11_more 8 = .ok (.aload_n 0, 1) := by decide +kernel
theorem dX11_more_9 : decode cX11_more 9 = .ok (.getfield 23, 3) := by decide +kernel
theorem dX11_more_12 : decode cX11_more 12 = .ok (.iconst 5, 1) := by decide +kernel
theorem dX11_more_13 : decode cX11_more 13 = .ok (.iaload, 1) := by decide +kernel
theorem dX11_more_14 : decode cX11_more 14 = .ok (.iconst 1, 1) := by decide +kernel
theorem dX11_more_15 : decode cX11_more 15 = .ok (.isub, 1) := by decide +kernel
theorem dX11_more_16 : decode cX11_more 16 = .ok (.invokestatic 154, 3) := by decide +kernel
theorem dX11_more_19 : decode cX11_more 19 = .ok (.ifCond .ne 7, 3) := by decide +kernel
theorem dX11_more_22 : decode cX11_more 22 = .ok (.iconst 1, 1) := by decide +kernel
theorem dX11_more_23 : decode cX11_more 23 = .ok (.goto 4, 3) := by decide +kernel
theorem dX11_more_26 : decode cX11_more 26 = .ok (.iconst 0, 1) := by decide +kernel
theorem dX11_more_27 : decode cX11_more 27 = .ok (.iconst 1, 1) := by decide +kernel
theorem dX11_more_28 : decode cX11_more 28 = .ok (.iconst 0, 1) := by decide +kernel
theorem dX11_more_29 : decode cX11_more 29 = .ok (.invokevirtual 215, 3) := by decide +kernel
theorem dX11_more_32 : decode cX11_more 32 = .ok (.ifCond .ne 26, 3) := by decide +kernel
theorem dX11_more_35 : decode cX11_more 35 = .ok (.aload_n 0, 1) := by decide +kernel
theorem dX11_more_36 : decode cX11_more 36 = .ok (.iload_n 2, 1) := by decide +kernel
theorem dX11_more_37 : decode cX11_more 37 = .ok (.iconst 0, 1) := by decide +kernel
theorem dX11_more_38 : decode cX11_more 38 = .ok (.iconst 2, 1) := by decide +kernel
theorem dX11_more_39 : decode cX11_more 39 = .ok (.invokestatic 154, 3) := by decide +kernel
theorem dX11_more_42 : decode cX11_more 42 = .ok (.ifCond .ne 7, 3) := by decide +kernel
theorem dX11_more_45 : decode cX11_more 45 = .ok (.iconst 1, 1) := by decide +kernel
theorem dX11_more_46 : decode cX11_more 46 = .ok (.goto 4, 3) := by decide +kernel
theorem dX11_more_49 : decode cX11_more 49 = .ok (.iconst 0, 1) := by decide +kernel
theorem dX11_more_50 : decode cX11_more 50 = .ok (.iconst 2, 1) := by decide +kernel
theorem dX11_more_51 : decode cX11_more 51 = .ok (.iconst 2, 1) := by decide +kernel
theorem dX11_more_52 : decode cX11_more 52 = .ok (.invokevirtual 215, 3) := by decide +kernel
theorem dX11_more_55 : decode cX11_more 55 = .ok (.ifCond .eq 5, 3) := by decide +kernel
theorem dX11_more_58 : decode cX11_more 58 = .ok (.iconst 0, 1) := by decide +kernel
theorem dX11_more_59 : decode cX11_more 59 = .ok (.ireturn, 1) := by decide +kernel
theorem dX11_more_60 : decode cX11_more 60 = .ok (.aload_n 0, 1) := by decide +kernel
theorem dX11_more_61 : decode cX11_more 61 = .ok (.getfield 244, 3) := by decide +kernel
theorem dX11_more_64 : decode cX11_more 64 = .ok (.ifCond .ne 5, 3) := by decide +kernel
theorem dX11_more_67 : decode cX11_more 67 = .ok (.iconst (-1), 1) := by decide +kernel
theorem dX11_more_68 : decode cX11_more 68 = .ok (.ireturn, 1) := by decide +kernel
theorem dX11_more_69 : decode cX11_more 69 = .ok (.aload_n 0, 1) := by decide +kernel
theorem dX11_more_70 : decode cX11_more 70 = .ok (.iload_n 1, 1) := by decide +kernel
theorem dX11_more_71 : decode cX11_more 71 = .ok (.iconst (-1), 1) := by decide +kernel
theorem dX11_more_72 : decode cX11_more 72 = .ok (.invokevirtual 327, 3) := by decide +kernel
theorem dX11_more_75 : decode cX11_more 75 = .ok (.iload_n 2, 1) := by decide +kernel
theorem dX11_more_76 : decode cX11_more 76 = .ok (.ifCond .le 20, 3) := by decide +kernel
theorem dX11_more_79 : decode cX11_more 79 = .ok (.iload_n 2, 1) := by decide +kernel
theorem dX11_more_80 : decode cX11_more 80 = .ok (.iconst 1, 1) := by decide +kernel
theorem dX11_more_81 : decode cX11_more 81 = .ok (.if_icmp .ne 10, 3) := by decide +kernel
theorem dX11_more_84 : decode cX11_more 84 = .ok (.aload_n 0, 1) := by decide +kernel
theorem dX11_more_85 : decode cX11_more 85 = .ok (.getfield 314, 3) := by decide +kernel
theorem dX11_more_88 : decode cX11_more 88 = .ok (.goto 7, 3) := by decide +kernel
theorem dX11_more_91 : decode cX11_more 91 = .ok (.aload_n 0, 1) := by decide +kernel
theorem dX11_more_92 : decode cX11_more 92 = .ok (.getfield 317, 3) := by decide +kernel
theorem dX11_more_95 : decode cX11_more 95 = .ok (.ireturn, 1) := by decide +kernel
theorem dX11_more_96 : decode cX11_more 96 = .ok (.aload_n 0, 1) := by decide +kernel
theorem dX11_more_97 : decode cX11_more 97 = .ok (.aload_n 0, 1) := by decide +kernel
theorem dX11_more_98 : decode cX11_more 98 = .ok (.getfield 74, 3) := by decide +kernel
theorem dX11_more_101 : decode cX11_more 101 = .ok (.iconst 0, 1) := by decide +kernel
theorem dX11_more_102 : decode cX11_more 102 = .ok (.iaload, 1) := by decide +kernel
theorem dX11_more_103 : decode cX11_more 103 = .ok (.invokevirtual 247, 3) := by decide +kernel
theorem dX11_more_106 : decode cX11_more 106 = .ok (.aload_n 0, 1) := by decide +kernel
theorem dX11_more_107 : decode cX11_more 107 = .ok (.getfield 95, 3) := by decide +kernel
theorem dX11_more_110 : decode cX11_more 110 = .ok (.iload_n 1, 1) := by decide +kernel
theorem dX11_more_111 : decode cX11_more 111 = .ok (.iaload, 1) := by decide +kernel
theorem dX11_more_112 : decode cX11_more 112 = .ok (.ireturn, 1) := by decide +kernel
abbrev mX11_more : MD := (cX11_more, "BlottedDeedModel", 3, 4, 99, (some .int), "more", [])
def bX11_more_0 (g : GE) (J : Nat → KT) : KT := i_aload 0 (i_push (.int 0) (i_putf 10 0 .int (i_aload 0 (i_iload 1 (i_push (.int 0) (i_aload 0 (i_getf 10 11 (i_push (.int 5) (i_iaload (i_push (.int 1) (i_isub (i_cs fX11_in g 3 (i_ifne (i_push (.int 0) (i_jmp [true, true, true] (J 1))) (i_push (.int 1) (i_jmp [true, true, true] (J 1))))))))))))))))
def bX11_more_1 (g : GE) (J : Nat → KT) : KT := i_push (.int 1) (i_push (.int 0) (i_cv fX11_bad g 3 10 (i_ifne (i_jmp [false, false, false] (J 3)) (i_aload 0 (i_iload 2 (i_push (.int 0) (i_push (.int 2) (i_cs fX11_in g 3 (i_ifne (i_push (.int 0) (i_jmp [true, true, true] (J 2))) (i_push (.int 1) (i_jmp [true, true, true] (J 2))))))))))))
def bX11_more_2 (g : GE) (J : Nat → KT) : KT := i_push (.int 2) (i_push (.int 2) (i_cv fX11_bad g 3 10 (i_ifeq (i_aload 0 (i_getf 10 27 (i_ifne (i_aload 0 (i_iload 1 (i_push (.int (-1)) (i_cv fX11_blotsAnew g 2 10 (i_iload 2 (i_ifle (i_aload 0 (i_aload 0 (i_getf 10 28 (i_push (.int 0) (i_iaload (i_cv fX11_fills g 1 10 (i_aload 0 (i_getf 10 39 (i_iload 1 (i_iaload (i_ireturn))))))))))) (i_iload 2 (i_push (.int 1) (i_icne (i_aload 0 (i_getf 10 46 (i_jmp [false, false, false] (J 4)))) (i_aload 0 (i_getf 10 45 (i_jmp [false, false, false] (J 4))))))))))))) (i_push (.int (-1)) (i_ireturn))))) (i_jmp [false, false, false] (J 3)))))
def bX11_more_3 (g : GE) (J : Nat → KT) : KT := i_push (.int 0) (i_ireturn)
def bX11_more_4 (g : GE) (J : Nat → KT) : KT := i_ireturn
theorem sbX11_more_0 (g : GE) (J : Nat → KT) (h1 : Snd mX11_more g 27 (J 1)) (h2 : Snd mX11_more g 50 (J 2)) (h3 : Snd mX11_more g 58 (J 3)) (h4 : Snd mX11_more g 95 (J 4)) : Snd mX11_more g 0 (bX11_more_0 g J) := by
  unfold bX11_more_0
  refine s_aload_n (pc := 0) (i := 0) ?_ dX11_more_0 rfl
  refine s_iconst (pc := 1) (v := 0) ?_ dX11_more_1 (by decide)
  refine s_putf (pc := 2) (ci := 10) (f := 0) (T := TX11) (ty0 := tyX11) ?_ ginX11 tyX11_ok nmX11 rfl (by decide) rfl rfl wt_1393 dX11_more_2
  refine s_aload_n (pc := 5) (i := 0) ?_ dX11_more_5 rfl
  refine s_iload_n (pc := 6) (i := 1) ?_ dX11_more_6 rfl
  refine s_iconst (pc := 7) (v := 0) ?_ dX11_more_7 (by decide)
  refine s_aload_n (pc := 8) (i := 0) ?_ dX11_more_8 rfl
  refine s_getf (pc := 9) (ci := 10) (f := 11) (T := TX11) ?_ ginX11 rfl (by decide) wt_1404 dX11_more_9
  refine s_iconst (pc := 12) (v := 5) ?_ dX11_more_12 (by decide)
  refine s_iaload (pc := 13) ?_ dX11_more_13
  refine s_iconst (pc := 14) (v := 1) ?_ dX11_more_14 (by decide)
  refine s_isub (pc := 15) ?_ dX11_more_15
  refine s_cs (pc := 16) (n := 3) ?_ tX11_in wt_1557 wt_1558 wt_17 wt_1559 ⟨crX11_in, by decide, by decide⟩ dX11_more_16
  refine s_ifne (pc := 19) (tgt := 26) ?_ ?_ dX11_more_19 (by decide)
  · skip
    refine s_iconst (pc := 26) (v := 0) ?_ dX11_more_26 (by decide)
    exact s_fall (pc := 27) h1
  · skip
    refine s_iconst (pc := 22) (v := 1) ?_ dX11_more_22 (by decide)
    exact s_goto (pc := 23) (tgt := 27) h1 dX11_more_23 (by decide)
theorem sbX11_more_1 (g : GE) (J : Nat → KT) (h1 : Snd mX11_more g 27 (J 1)) (h2 : Snd mX11_more g 50 (J 2)) (h3 : Snd mX11_more g 58 (J 3)) (h4 : Snd mX11_more g 95 (J 4)) : Snd mX11_more g 27 (bX11_more_1 g J) := by
  unfold bX11_more_1
  refine s_iconst (pc := 27) (v := 1) ?_ dX11_more_27 (by decide)
  refine s_iconst (pc := 28) (v := 0) ?_ dX11_more_28 (by decide)
  refine s_cv (pc := 29) (n := 3) (ci := 10) ?_ tX11_bad rfl rfl wt_1560 wt_1562 wp_49 wt_17 wt_1563 ⟨crX11_bad, by decide, by decide⟩ dX11_more_29
  refine s_ifne (pc := 32) (tgt := 58) ?_ ?_ dX11_more_32 (by decide)
  · skip
    exact s_fall (pc := 58) h3
  · skip
    refine s_aload_n (pc := 35) (i := 0) ?_ dX11_more_35 rfl
    refine s_iload_n (pc := 36) (i := 2) ?_ dX11_more_36 rfl
    refine s_iconst (pc := 37) (v := 0) ?_ dX11_more_37 (by decide)
    refine s_iconst (pc := 38) (v := 2) ?_ dX11_more_38 (by decide)
    refine s_cs (pc := 39) (n := 3) ?_ tX11_in wt_1557 wt_1558 wt_17 wt_1559 ⟨crX11_in, by decide, by decide⟩ dX11_more_39
    refine s_ifne (pc := 42) (tgt := 49) ?_ ?_ dX11_more_42 (by decide)
    · skip
      refine s_iconst (pc := 49) (v := 0) ?_ dX11_more_49 (by decide)
      exact s_fall (pc := 50) h2
    · skip
      refine s_iconst (pc := 45) (v := 1) ?_ dX11_more_45 (by decide)
      exact s_goto (pc := 46) (tgt := 50) h2 dX11_more_46 (by decide)
theorem sbX11_more_2 (g : GE) (J : Nat → KT) (h1 : Snd mX11_more g 27 (J 1)) (h2 : Snd mX11_more g 50 (J 2)) (h3 : Snd mX11_more g 58 (J 3)) (h4 : Snd mX11_more g 95 (J 4)) : Snd mX11_more g 50 (bX11_more_2 g J) := by
  unfold bX11_more_2
  refine s_iconst (pc := 50) (v := 2) ?_ dX11_more_50 (by decide)
  refine s_iconst (pc := 51) (v := 2) ?_ dX11_more_51 (by decide)
  refine s_cv (pc := 52) (n := 3) (ci := 10) ?_ tX11_bad rfl rfl wt_1560 wt_1562 wp_49 wt_17 wt_1563 ⟨crX11_bad, by decide, by decide⟩ dX11_more_52
  refine s_ifeq (pc := 55) (tgt := 60) ?_ ?_ dX11_more_55 (by decide)
  · skip
    refine s_aload_n (pc := 60) (i := 0) ?_ dX11_more_60 rfl
    refine s_getf (pc := 61) (ci := 10) (f := 27) (T := TX11) ?_ ginX11 rfl (by decide) wt_1420 dX11_more_61
    refine s_ifne (pc := 64) (tgt := 69) ?_ ?_ dX11_more_64 (by decide)
    · skip
      refine s_aload_n (pc := 69) (i := 0) ?_ dX11_more_69 rfl
      refine s_iload_n (pc := 70) (i := 1) ?_ dX11_more_70 rfl
      refine s_iconst (pc := 71) (v := (-1)) ?_ dX11_more_71 (by decide)
      refine s_cv (pc := 72) (n := 2) (ci := 10) ?_ tX11_blotsAnew rfl rfl wt_1835 wt_1837 wp_85 wt_17 wt_1838 ⟨crX11_blotsAnew, by decide, by decide⟩ dX11_more_72
      refine s_iload_n (pc := 75) (i := 2) ?_ dX11_more_75 rfl
      refine s_ifle (pc := 76) (tgt := 96) ?_ ?_ dX11_more_76 (by decide)
      · skip
        refine s_aload_n (pc := 96) (i := 0) ?_ dX11_more_96 rfl
        refine s_aload_n (pc := 97) (i := 0) ?_ dX11_more_97 rfl
        refine s_getf (pc := 98) (ci := 10) (f := 28) (T := TX11) ?_ ginX11 rfl (by decide) wt_1421 dX11_more_98
        refine s_iconst (pc := 101) (v := 0) ?_ dX11_more_101 (by decide)
        refine s_iaload (pc := 102) ?_ dX11_more_102
        refine s_cv (pc := 103) (n := 1) (ci := 10) ?_ tX11_fills rfl rfl wt_1377 wt_1379 wp_45 wt_17 wt_1380 ⟨crX11_fills, by decide, by decide⟩ dX11_more_103
        refine s_aload_n (pc := 106) (i := 0) ?_ dX11_more_106 rfl
        refine s_getf (pc := 107) (ci := 10) (f := 39) (T := TX11) ?_ ginX11 rfl (by decide) wt_1432 dX11_more_107
        refine s_iload_n (pc := 110) (i := 1) ?_ dX11_more_110 rfl
        refine s_iaload (pc := 111) ?_ dX11_more_111
        exact s_ireturn (pc := 112) rfl dX11_more_112
      · skip
        refine s_iload_n (pc := 79) (i := 2) ?_ dX11_more_79 rfl
        refine s_iconst (pc := 80) (v := 1) ?_ dX11_more_80 (by decide)
        refine s_icne (pc := 81) (tgt := 91) ?_ ?_ dX11_more_81 (by decide)
        · skip
          refine s_aload_n (pc := 91) (i := 0) ?_ dX11_more_91 rfl
          refine s_getf (pc := 92) (ci := 10) (f := 46) (T := TX11) ?_ ginX11 rfl (by decide) wt_1439 dX11_more_92
          exact s_fall (pc := 95) h4
        · skip
          refine s_aload_n (pc := 84) (i := 0) ?_ dX11_more_84 rfl
          refine s_getf (pc := 85) (ci := 10) (f := 45) (T := TX11) ?_ ginX11 rfl (by decide) wt_1438 dX11_more_85
          exact s_goto (pc := 88) (tgt := 95) h4 dX11_more_88 (by decide)
    · skip
      refine s_iconst (pc := 67) (v := (-1)) ?_ dX11_more_67 (by decide)
      exact s_ireturn (pc := 68) rfl dX11_more_68
  · skip
    exact s_fall (pc := 58) h3
theorem sbX11_more_3 (g : GE) (J : Nat → KT) (h1 : Snd mX11_more g 27 (J 1)) (h2 : Snd mX11_more g 50 (J 2)) (h3 : Snd mX11_more g 58 (J 3)) (h4 : Snd mX11_more g 95 (J 4)) : Snd mX11_more g 58 (bX11_more_3 g J) := by
  unfold bX11_more_3
  refine s_iconst (pc := 58) (v := 0) ?_ dX11_more_58 (by decide)
  exact s_ireturn (pc := 59) rfl dX11_more_59
theorem sbX11_more_4 (g : GE) (J : Nat → KT) (h1 : Snd mX11_more g 27 (J 1)) (h2 : Snd mX11_more g 50 (J 2)) (h3 : Snd mX11_more g 58 (J 3)) (h4 : Snd mX11_more g 95 (J 4)) : Snd mX11_more g 95 (bX11_more_4 g J) := by
  unfold bX11_more_4
  exact s_ireturn (pc := 95) rfl dX11_more_95
def jX11_more (g : GE) : Nat → Nat → KT
  | 0, _ => fun _ _ _ => none
  | n + 1, 0 => bX11_more_0 g (jX11_more g n)
  | n + 1, 1 => bX11_more_1 g (jX11_more g n)
  | n + 1, 2 => bX11_more_2 g (jX11_more g n)
  | n + 1, 3 => bX11_more_3 g (jX11_more g n)
  | n + 1, 4 => bX11_more_4 g (jX11_more g n)
  | _ + 1, _ + 5 => fun _ _ _ => none
theorem sjX11_more (g : GE) : ∀ n, Snd mX11_more g 0 (jX11_more g n 0) ∧ Snd mX11_more g 27 (jX11_more g n 1) ∧ Snd mX11_more g 50 (jX11_more g n 2) ∧ Snd mX11_more g 58 (jX11_more g n 3) ∧ Snd mX11_more g 95 (jX11_more g n 4)
  | 0 => ⟨s_none, s_none, s_none, s_none, s_none⟩
  | n + 1 => by
    obtain ⟨-, h1, h2, h3, h4⟩ := sjX11_more g n
    exact ⟨sbX11_more_0 g _ h1 h2 h3 h4, sbX11_more_1 g _ h1 h2 h3 h4, sbX11_more_2 g _ h1 h2 h3 h4, sbX11_more_3 g _ h1 h2 h3 h4, sbX11_more_4 g _ h1 h2 h3 h4⟩
def kX11_more (g : GE) : KT := jX11_more g g.1 0
theorem sX11_more (g : GE) : Snd mX11_more g 0 (kX11_more g) := (sjX11_more g g.1).1
def fX11_more : FT := fun g av w => if (ent av).length ≤ 3 then kX11_more g [] (entp 3 av) w else none
theorem tX11_more : Mt yX11_more cX11_more 3 (some .int) 4 99 fX11_more := Mt.of (K := kX11_more) (by decide +kernel) (fun _ _ _ => rfl) sX11_more
theorem crX11_more : yX11_more.cls ≠ "java/lang/invoke/MethodHandle" ∧ yX11_more.cls ≠ "java/lang/invoke/VarHandle" ∧ (parseMethodDescriptor yX11_more.desc).map (fun d => d.parameters.length) = some 2 := by decide +kernel
theorem dX11_mostLeft_0 : decode cX11_mostLeft 0 = .ok (.iconst 0, 1) := by decide +kernel
theorem dX11_mostLeft_1 : decode cX11_mostLeft 1 = .ok (.istore_n 2, 1) := by decide +kernel
theorem dX11_mostLeft_2 : decode cX11_mostLeft 2 = .ok (.iconst 0, 1) := by decide +kernel
theorem dX11_mostLeft_3 : decode cX11_mostLeft 3 = .ok (.istore_n 3, 1) := by decide +kernel
theorem dX11_mostLeft_4 : decode cX11_mostLeft 4 = .ok (.iload_n 3, 1) := by decide +kernel
theorem dX11_mostLeft_5 : decode cX11_mostLeft 5 = .ok (.bipush 100, 2) := by decide +kernel
theorem dX11_mostLeft_7 : decode cX11_mostLeft 7 = .ok (.if_icmp .ge 16, 3) := by decide +kernel
theorem dX11_mostLeft_10 : decode cX11_mostLeft 10 = .ok (.aload_n 0, 1) := by decide +kernel
theorem dX11_mostLeft_11 : decode cX11_mostLeft 11 = .ok (.getfield 104, 3) := by decide +kernel
theorem dX11_mostLeft_14 : decode cX11_mostLeft 14 = .ok (.iload_n 3, 1) := by decide +kernel
theorem dX11_mostLeft_15 : decode cX11_mostLeft 15 = .ok (.iconst 0, 1) := by decide +kernel
theorem dX11_mostLeft_16 : decode cX11_mostLeft 16 = .ok (.iastore, 1) := by decide +kernel
theorem dX11_mostLeft_17 : decode cX11_mostLeft 17 = .ok (.iinc 3 1, 3) := by decide +kernel
theorem dX11_mostLeft_20 : decode cX11_mostLeft 20 = .ok (.goto (-16), 3) := by decide +kernel
theorem dX11_mostLeft_23 : decode cX11_mostLeft 23 = .ok (.iconst 0, 1) := by decide +kernel
theorem dX11_mostLeft_24 : decode cX11_mostLeft 24 = .ok (.istore_n 3, 1) := by decide +kernel
theorem dX11_mostLeft_25 : decode cX11_mostLeft 25 = .ok (.iload_n 3, 1) := by decide +kernel
theorem dX11_mostLeft_26 : decode cX11_mostLeft 26 = .ok (.aload_n 0, 1) := by decide +kernel
theorem dX11_mostLeft_27 : decode cX11_mostLeft 27 = .ok (.getfield 244, 3) := by decide +kernel
theorem dX11_mostLeft_30 : decode cX11_mostLeft 30 = .ok (.if_icmp .ge 42, 3) := by decide +kernel
theorem dX11_mostLeft_33 : decode cX11_mostLeft 33 = .ok (.aload_n 0, 1) := by decide +kernel
theorem dX11_mostLeft_34 : decode cX11_mostLeft 34 = .ok (.getfield 104, 3) := by decide +kernel
theorem dX11_mostLeft_37 : decode cX11_mostLeft 37 = .ok (.aload_n 0, 1) := by decide +kernel
theorem dX11_mostLeft_38 : decode cX11_mostLeft 38 = .ok (.aload_n 0, 1) := by decide +kernel
theorem dX11_mostLeft_39 : decode cX11_mostLeft 39 = .ok (.getfield 74, 3) := by decide +kernel
theorem dX11_mostLeft_42 : decode cX11_mostLeft 42 = .ok (.iload_n 3, 1) := by decide +kernel
theorem dX11_mostLeft_43 : decode cX11_mostLeft 43 = .ok (.iaload, 1) := by decide +kernel
theorem dX11_mostLeft_44 : decode cX11_mostLeft 44 = .ok (.iload_n 1, 1) := by decide +kernel
theorem dX11_mostLeft_45 : decode cX11_mostLeft 45 = .ok (.invokevirtual 256, 3) := by decide +kernel
theorem dX11_mostLeft_48 : decode cX11_mostLeft 48 = .ok (.dup2, 1) := by decide +kernel
theorem dX11_mostLeft_49 : decode cX11_mostLeft 49 = .ok (.iaload, 1) := by decide +kernel
theorem dX11_mostLeft_50 : decode cX11_mostLeft 50 = .ok (.aload_n 0, 1) := by decide +kernel
theorem dX11_mostLeft_51 : decode cX11_mostLeft 51 = .ok (.getfield 110, 3) := by decide +kernel
theorem dX11_mostLeft_54 : decode cX11_mostLeft 54 = .ok (.iload_n 3, 1) := by decide +kernel
theorem dX11_mostLeft_55 : decode cX11_mostLeft 55 = .ok (.baload, 1) := by decide +kernel
theorem dX11_mostLeft_56 : decode cX11_mostLeft 56 = .ok (.ifCond .eq 7, 3) := by decide +kernel
theorem dX11_mostLeft_59 : decode cX11_mostLeft 59 = .ok (.iconst 1, 1) := by decide +kernel
theorem dX11_mostLeft_60 : decode cX11_mostLeft 60 = .ok (.goto 4, 3) := by decide +kernel
theorem dX11_mostLeft_63 : decode cX11_mostLeft 63 = .ok (.iconst 0, 1) := by decide +kernel
theorem dX11_mostLeft_64 : decode cX11_mostLeft 64 = .ok (.iadd, 1) := by decide +kernel
theorem dX11_mostLeft_65 : decode cX11_mostLeft 65 = .ok (.iastore, 1) := by decide +kernel
theorem dX11_mostLeft_66 : decode cX11_mostLeft 66 = .ok (.iinc 3 1, 3) := by decide +kernel
theorem dX11_mostLeft_69 : decode cX11_mostLeft 69 = .ok (.goto (-44), 3) := by decide +kernel
theorem dX11_mostLeft_72 : decode cX11_mostLeft 72 = .ok (.iconst 0, 1) := by decide +kernel
theorem dX11_mostLeft_73 : decode cX11_mostLeft 73 = .ok (.istore_n 3, 1) := by decide +kernel
theorem dX11_mostLeft_74 : decode cX11_mostLeft 74 = .ok (.iload_n 3, 1) := by decide +kernel
theorem dX11_mostLeft_75 : decode cX11_mostLeft 75 = .ok (.bipush 100, 2) := by decide +kernel
theorem dX11_mostLeft_77 : decode cX11_mostLeft 77 = .ok (.if_icmp .ge 30, 3) := by decide +kernel
theorem dX11_mostLeft_80 : decode cX11_mostLeft 80 = .ok (.aload_n 0, 1) := by decide +kernel
theorem dX11_mostLeft_81 : decode cX11_mostLeft 81 = .ok (.getfield 104, 3) := by decide +kernel
theorem dX11_mostLeft_84 : decode cX11_mostLeft 84 = .ok (.iload_n 3, 1) := by decide +kernel
theorem dX11_mostLeft_85 : decode cX11_mostLeft 85 = .ok (.iaload, 1) := by decide +kernel
theorem dX11_mostLeft_86 : decode cX11_mostLeft 86 = .ok (.iload_n 2, 1) := by decide +kernel
theorem dX11_mostLeft_87 : decode cX11_mostLeft 87 = .ok (.if_icmp .le 12, 3) := by decide +kernel
theorem dX11_mostLeft_90 : decode cX11_mostLeft 90 = .ok (.aload_n 0, 1) := by decide +kernel
theorem dX11_mostLeft_91 : decode cX11_mostLeft 91 = .ok (.getfield 104, 3) := by decide +kernel
theorem dX11_mostLeft_94 : decode cX11_mostLeft 94 = .ok (.iload_n 3, 1) := by decide +kernel
theorem dX11_mostLeft_95 : decode cX11_mostLeft 95 = .ok (.iaload, 1) := by decide +kernel
theorem dX11_mostLeft_96 : decode cX11_mostLeft 96 = .ok (.goto 4, 3) := by decide +kernel
theorem dX11_mostLeft_99 : decode cX11_mostLeft 99 = .ok (.iload_n 2, 1) := by decide +kernel
theorem dX11_mostLeft_100 : decode cX11_mostLeft 100 = .ok (.istore_n 2, 1) := by decide +kernel
theorem dX11_mostLeft_101 : decode cX11_mostLeft 101 = .ok (.iinc 3 1, 3) := by decide +kernel
theorem dX11_mostLeft_104 : decode cX11_mostLeft 104 = .ok (.goto (-30), 3) := by decide +kernel
theorem dX11_mostLeft_107 : decode cX11_mostLeft 107 = .ok (.iload_n 2, 1) := by decide +kernel
theorem dX11_mostLeft_108 : decode cX11_mostLeft 108 = .ok (.ireturn, 1) := by decide +kernel
abbrev mX11_mostLeft : MD := (cX11_mostLeft, "BlottedDeedModel", 4, 2, 54, (some .int), "mostLeft", [])
def bX11_mostLeft_0 (g : GE) (J : Nat → KT) : KT := i_push (.int 0) (i_istore 2 (i_push (.int 0) (i_istore 3 (i_jmp [true, true, true, true] (J 1)))))
def bX11_mostLeft_1 (g : GE) (J : Nat → KT) : KT := i_iload 3 (i_push (.int 100) (i_icge (i_push (.int 0) (i_istore 3 (i_jmp [true, true, true, true] (J 2)))) (i_aload 0 (i_getf 10 43 (i_iload 3 (i_push (.int 0) (i_iastore (i_iinc 3 1 (i_jmp [true, true, true, true] (J 1))))))))))
def bX11_mostLeft_2 (g : GE) (J : Nat → KT) : KT := i_iload 3 (i_aload 0 (i_getf 10 27 (i_icge (i_push (.int 0) (i_istore 3 (i_jmp [true, false, true, true] (J 4)))) (i_aload 0 (i_getf 10 43 (i_aload 0 (i_aload 0 (i_getf 10 28 (i_iload 3 (i_iaload (i_iload 1 (i_cv fX11_digit g 2 10 (i_dup2 (i_iaload (i_aload 0 (i_getf 10 48 (i_iload 3 (i_zaload (i_ifeq (i_push (.int 0) (i_jmp [true, true, true, true] (J 3))) (i_push (.int 1) (i_jmp [true, true, true, true] (J 3))))))))))))))))))))))
def bX11_mostLeft_3 (g : GE) (J : Nat → KT) : KT := i_iadd (i_iastore (i_iinc 3 1 (i_jmp [true, true, true, true] (J 2))))
def bX11_mostLeft_4 (g : GE) (J : Nat → KT) : KT := i_iload 3 (i_push (.int 100) (i_icge (i_iload 2 (i_ireturn)) (i_aload 0 (i_getf 10 43 (i_iload 3 (i_iaload (i_iload 2 (i_icle (i_iload 2 (i_jmp [true, false, false, true] (J 5))) (i_aload 0 (i_getf 10 43 (i_iload 3 (i_iaload (i_jmp [true, false, false, true] (J 5))))))))))))))
def bX11_mostLeft_5 (g : GE) (J : Nat → KT) : KT := i_istore 2 (i_iinc 3 1 (i_jmp [true, false, true, true] (J 4)))
theorem sbX11_mostLeft_0 (g : GE) (J : Nat → KT) (h1 : Snd mX11_mostLeft g 4 (J 1)) (h2 : Snd mX11_mostLeft g 25 (J 2)) (h3 : Snd mX11_mostLeft g 64 (J 3)) (h4 : Snd mX11_mostLeft g 74 (J 4)) (h5 : Snd mX11_mostLeft g 100 (J 5)) : Snd mX11_mostLeft g 0 (bX11_mostLeft_0 g J) := by
  unfold bX11_mostLeft_0
  refine s_iconst (pc := 0) (v := 0) ?_ dX11_mostLeft_0 (by decide)
  refine s_istore_n (pc := 1) (i := 2) ?_ dX11_mostLeft_1 rfl (by decide)
  refine s_iconst (pc := 2) (v := 0) ?_ dX11_mostLeft_2 (by decide)
  refine s_istore_n (pc := 3) (i := 3) ?_ dX11_mostLeft_3 rfl (by decide)
  exact s_fall (pc := 4) h1
theorem sbX11_mostLeft_1 (g : GE) (J : Nat → KT) (h1 : Snd mX11_mostLeft g 4 (J 1)) (h2 : Snd mX11_mostLeft g 25 (J 2)) (h3 : Snd mX11_mostLeft g 64 (J 3)) (h4 : Snd mX11_mostLeft g 74 (J 4)) (h5 : Snd mX11_mostLeft g 100 (J 5)) : Snd mX11_mostLeft g 4 (bX11_mostLeft_1 g J) := by
  unfold bX11_mostLeft_1
  refine s_iload_n (pc := 4) (i := 3) ?_ dX11_mostLeft_4 rfl
  refine s_bipush (pc := 5) (v := 100) ?_ dX11_mostLeft_5 (by decide)
  refine s_icge (pc := 7) (tgt := 23) ?_ ?_ dX11_mostLeft_7 (by decide)
  · skip
    refine s_iconst (pc := 23) (v := 0) ?_ dX11_mostLeft_23 (by decide)
    refine s_istore_n (pc := 24) (i := 3) ?_ dX11_mostLeft_24 rfl (by decide)
    exact s_fall (pc := 25) h2
  · skip
    refine s_aload_n (pc := 10) (i := 0) ?_ dX11_mostLeft_10 rfl
    refine s_getf (pc := 11) (ci := 10) (f := 43) (T := TX11) ?_ ginX11 rfl (by decide) wt_1436 dX11_mostLeft_11
    refine s_iload_n (pc := 14) (i := 3) ?_ dX11_mostLeft_14 rfl
    refine s_iconst (pc := 15) (v := 0) ?_ dX11_mostLeft_15 (by decide)
    refine s_iastore (pc := 16) ?_ dX11_mostLeft_16
    refine s_iinc (pc := 17) (i := 3) (v := 1) ?_ dX11_mostLeft_17 (by decide) (by decide)
    exact s_goto (pc := 20) (tgt := 4) h1 dX11_mostLeft_20 (by decide)
theorem sbX11_mostLeft_2 (g : GE) (J : Nat → KT) (h1 : Snd mX11_mostLeft g 4 (J 1)) (h2 : Snd mX11_mostLeft g 25 (J 2)) (h3 : Snd mX11_mostLeft g 64 (J 3)) (h4 : Snd mX11_mostLeft g 74 (J 4)) (h5 : Snd mX11_mostLeft g 100 (J 5)) : Snd mX11_mostLeft g 25 (bX11_mostLeft_2 g J) := by
  unfold bX11_mostLeft_2
  refine s_iload_n (pc := 25) (i := 3) ?_ dX11_mostLeft_25 rfl
  refine s_aload_n (pc := 26) (i := 0) ?_ dX11_mostLeft_26 rfl
  refine s_getf (pc := 27) (ci := 10) (f := 27) (T := TX11) ?_ ginX11 rfl (by decide) wt_1420 dX11_mostLeft_27
  refine s_icge (pc := 30) (tgt := 72) ?_ ?_ dX11_mostLeft_30 (by decide)
  · skip
    refine s_iconst (pc := 72) (v := 0) ?_ dX11_mostLeft_72 (by decide)
    refine s_istore_n (pc := 73) (i := 3) ?_ dX11_mostLeft_73 rfl (by decide)
    exact s_fall (pc := 74) h4
  · skip
    refine s_aload_n (pc := 33) (i := 0) ?_ dX11_mostLeft_33 rfl
    refine s_getf (pc := 34) (ci := 10) (f := 43) (T := TX11) ?_ ginX11 rfl (by decide) wt_1436 dX11_mostLeft_34
    refine s_aload_n (pc := 37) (i := 0) ?_ dX11_mostLeft_37 rfl
    refine s_aload_n (pc := 38) (i := 0) ?_ dX11_mostLeft_38 rfl
    refine s_getf (pc := 39) (ci := 10) (f := 28) (T := TX11) ?_ ginX11 rfl (by decide) wt_1421 dX11_mostLeft_39
    refine s_iload_n (pc := 42) (i := 3) ?_ dX11_mostLeft_42 rfl
    refine s_iaload (pc := 43) ?_ dX11_mostLeft_43
    refine s_iload_n (pc := 44) (i := 1) ?_ dX11_mostLeft_44 rfl
    refine s_cv (pc := 45) (n := 2) (ci := 10) ?_ tX11_digit rfl rfl wt_1679 wt_1681 wp_70 wt_17 wt_1682 ⟨crX11_digit, by decide, by decide⟩ dX11_mostLeft_45
    refine s_dup2 (pc := 48) ?_ dX11_mostLeft_48
    refine s_iaload (pc := 49) ?_ dX11_mostLeft_49
    refine s_aload_n (pc := 50) (i := 0) ?_ dX11_mostLeft_50 rfl
    refine s_getf (pc := 51) (ci := 10) (f := 48) (T := TX11) ?_ ginX11 rfl (by decide) wt_1441 dX11_mostLeft_51
    refine s_iload_n (pc := 54) (i := 3) ?_ dX11_mostLeft_54 rfl
    refine s_zaload (pc := 55) ?_ dX11_mostLeft_55
    refine s_ifeq (pc := 56) (tgt := 63) ?_ ?_ dX11_mostLeft_56 (by decide)
    · skip
      refine s_iconst (pc := 63) (v := 0) ?_ dX11_mostLeft_63 (by decide)
      exact s_fall (pc := 64) h3
    · skip
      refine s_iconst (pc := 59) (v := 1) ?_ dX11_mostLeft_59 (by decide)
      exact s_goto (pc := 60) (tgt := 64) h3 dX11_mostLeft_60 (by decide)
theorem sbX11_mostLeft_3 (g : GE) (J : Nat → KT) (h1 : Snd mX11_mostLeft g 4 (J 1)) (h2 : Snd mX11_mostLeft g 25 (J 2)) (h3 : Snd mX11_mostLeft g 64 (J 3)) (h4 : Snd mX11_mostLeft g 74 (J 4)) (h5 : Snd mX11_mostLeft g 100 (J 5)) : Snd mX11_mostLeft g 64 (bX11_mostLeft_3 g J) := by
  unfold bX11_mostLeft_3
  refine s_iadd (pc := 64) ?_ dX11_mostLeft_64
  refine s_iastore (pc := 65) ?_ dX11_mostLeft_65
  refine s_iinc (pc := 66) (i := 3) (v := 1) ?_ dX11_mostLeft_66 (by decide) (by decide)
  exact s_goto (pc := 69) (tgt := 25) h2 dX11_mostLeft_69 (by decide)
theorem sbX11_mostLeft_4 (g : GE) (J : Nat → KT) (h1 : Snd mX11_mostLeft g 4 (J 1)) (h2 : Snd mX11_mostLeft g 25 (J 2)) (h3 : Snd mX11_mostLeft g 64 (J 3)) (h4 : Snd mX11_mostLeft g 74 (J 4)) (h5 : Snd mX11_mostLeft g 100 (J 5)) : Snd mX11_mostLeft g 74 (bX11_mostLeft_4 g J) := by
  unfold bX11_mostLeft_4
  refine s_iload_n (pc := 74) (i := 3) ?_ dX11_mostLeft_74 rfl
  refine s_bipush (pc := 75) (v := 100) ?_ dX11_mostLeft_75 (by decide)
  refine s_icge (pc := 77) (tgt := 107) ?_ ?_ dX11_mostLeft_77 (by decide)
  · skip
    refine s_iload_n (pc := 107) (i := 2) ?_ dX11_mostLeft_107 rfl
    exact s_ireturn (pc := 108) rfl dX11_mostLeft_108
  · skip
    refine s_aload_n (pc := 80) (i := 0) ?_ dX11_mostLeft_80 rfl
    refine s_getf (pc := 81) (ci := 10) (f := 43) (T := TX11) ?_ ginX11 rfl (by decide) wt_1436 dX11_mostLeft_81
    refine s_iload_n (pc := 84) (i := 3) ?_ dX11_mostLeft_84 rfl
    refine s_iaload (pc := 85) ?_ dX11_mostLeft_85
    refine s_iload_n (pc := 86) (i := 2) ?_ dX11_mostLeft_86 rfl
    refine s_icle (pc := 87) (tgt := 99) ?_ ?_ dX11_mostLeft_87 (by decide)
    · skip
      refine s_iload_n (pc := 99) (i := 2) ?_ dX11_mostLeft_99 rfl
      exact s_fall (pc := 100) h5
    · skip
      refine s_aload_n (pc := 90) (i := 0) ?_ dX11_mostLeft_90 rfl
      refine s_getf (pc := 91) (ci := 10) (f := 43) (T := TX11) ?_ ginX11 rfl (by decide) wt_1436 dX11_mostLeft_91
      refine s_iload_n (pc := 94) (i := 3) ?_ dX11_mostLeft_94 rfl
      refine s_iaload (pc := 95) ?_ dX11_mostLeft_95
      exact s_goto (pc := 96) (tgt := 100) h5 dX11_mostLeft_96 (by decide)
theorem sbX11_mostLeft_5 (g : GE) (J : Nat → KT) (h1 : Snd mX11_mostLeft g 4 (J 1)) (h2 : Snd mX11_mostLeft g 25 (J 2)) (h3 : Snd mX11_mostLeft g 64 (J 3)) (h4 : Snd mX11_mostLeft g 74 (J 4)) (h5 : Snd mX11_mostLeft g 100 (J 5)) : Snd mX11_mostLeft g 100 (bX11_mostLeft_5 g J) := by
  unfold bX11_mostLeft_5
  refine s_istore_n (pc := 100) (i := 2) ?_ dX11_mostLeft_100 rfl (by decide)
  refine s_iinc (pc := 101) (i := 3) (v := 1) ?_ dX11_mostLeft_101 (by decide) (by decide)
  exact s_goto (pc := 104) (tgt := 74) h4 dX11_mostLeft_104 (by decide)
def jX11_mostLeft (g : GE) : Nat → Nat → KT
  | 0, _ => fun _ _ _ => none
  | n + 1, 0 => bX11_mostLeft_0 g (jX11_mostLeft g n)
  | n + 1, 1 => bX11_mostLeft_1 g (jX11_mostLeft g n)
  | n + 1, 2 => bX11_mostLeft_2 g (jX11_mostLeft g n)
  | n + 1, 3 => bX11_mostLeft_3 g (jX11_mostLeft g n)
  | n + 1, 4 => bX11_mostLeft_4 g (jX11_mostLeft g n)
  | n + 1, 5 => bX11_mostLeft_5 g (jX11_mostLeft g n)
  | _ + 1, _ + 6 => fun _ _ _ => none
theorem sjX11_mostLeft (g : GE) : ∀ n, Snd mX11_mostLeft g 0 (jX11_mostLeft g n 0) ∧ Snd mX11_mostLeft g 4 (jX11_mostLeft g n 1) ∧ Snd mX11_mostLeft g 25 (jX11_mostLeft g n 2) ∧ Snd mX11_mostLeft g 64 (jX11_mostLeft g n 3) ∧ Snd mX11_mostLeft g 74 (jX11_mostLeft g n 4) ∧ Snd mX11_mostLeft g 100 (jX11_mostLeft g n 5)
  | 0 => ⟨s_none, s_none, s_none, s_none, s_none, s_none⟩
  | n + 1 => by
    obtain ⟨-, h1, h2, h3, h4, h5⟩ := sjX11_mostLeft g n
    exact ⟨sbX11_mostLeft_0 g _ h1 h2 h3 h4 h5, sbX11_mostLeft_1 g _ h1 h2 h3 h4 h5, sbX11_mostLeft_2 g _ h1 h2 h3 h4 h5, sbX11_mostLeft_3 g _ h1 h2 h3 h4 h5, sbX11_mostLeft_4 g _ h1 h2 h3 h4 h5, sbX11_mostLeft_5 g _ h1 h2 h3 h4 h5⟩
def kX11_mostLeft (g : GE) : KT := jX11_mostLeft g g.1 0
theorem sX11_mostLeft (g : GE) : Snd mX11_mostLeft g 0 (kX11_mostLeft g) := (sjX11_mostLeft g g.1).1
def fX11_mostLeft : FT := fun g av w => if (ent av).length ≤ 4 then kX11_mostLeft g [] (entp 4 av) w else none
theorem tX11_mostLeft : Mt yX11_mostLeft cX11_mostLeft 4 (some .int) 2 54 fX11_mostLeft := Mt.of (K := kX11_mostLeft) (by decide +kernel) (fun _ _ _ => rfl) sX11_mostLeft
theorem crX11_mostLeft : yX11_mostLeft.cls ≠ "java/lang/invoke/MethodHandle" ∧ yX11_mostLeft.cls ≠ "java/lang/invoke/VarHandle" ∧ (parseMethodDescriptor yX11_mostLeft.desc).map (fun d => d.parameters.length) = some 1 := by decide +kernel
theorem dX11_odds_0 : decode cX11_odds 0 = .ok (.aload_n 0, 1) := by decide +kernel
theorem dX11_odds_1 : decode cX11_odds 1 = .ok (.iconst 0, 1) := by decide +kernel
theorem dX11_odds_2 : decode cX11_odds 2 = .ok (.putfield 120, 3) := by decide +kernel
theorem dX11_odds_5 : decode cX11_odds 5 = .ok (.aload_n 0, 1) := by decide +kernel
theorem dX11_odds_6 : decode cX11_odds 6 = .ok (.aload_n 0, 1) := by decide +kernel
theorem dX11_odds_7 : decode cX11_odds 7 = .ok (.iload_n 1, 1) := by decide +kernel
theorem dX11_odds_8 : decode cX11_odds 8 = .ok (.invokevirtual 267, 3) := by decide +kernel
theorem dX11_odds_11 : decode cX11_odds 11 = .ok (.ifCond .ne 7, 3) := by decide +kernel
theorem dX11_odds_14 : decode cX11_odds 14 = .ok (.iconst 1, 1) := by decide +kernel
theorem dX11_odds_15 : decode cX11_odds 15 = .ok (.goto 4, 3) := by decide +kernel
theorem dX11_odds_18 : decode cX11_odds 18 = .ok (.iconst 0, 1) := by decide +kernel
theorem dX11_odds_19 : decode cX11_odds 19 = .ok (.iconst 1, 1) := by decide +kernel
theorem dX11_odds_20 : decode cX11_odds 20 = .ok (.iconst 0, 1) := by decide +kernel
theorem dX11_odds_21 : decode cX11_odds 21 = .ok (.invokevirtual 215, 3) := by decide +kernel
theorem dX11_odds_24 : decode cX11_odds 24 = .ok (.ifCond .eq 5, 3) := by decide +kernel
theorem dX11_odds_27 : decode cX11_odds 27 = .ok (.lconst 0, 1) := by decide +kernel
theorem dX11_odds_28 : decode cX11_odds 28 = .ok (.lreturn, 1) := by decide +kernel
theorem dX11_odds_29 : decode cX11_odds 29 = .ok (.aload_n 0, 1) := by decide +kernel
theorem dX11_odds_30 : decode cX11_odds 30 = .ok (.iload_n 1, 1) := by decide +kernel
theorem dX11_odds_31 : decode cX11_odds 31 = .ok (.invokevirtual 310, 3) := by decide +kernel
theorem dX11_odds_34 : decode cX11_odds 34 = .ok (.lreturn, 1) := by decide +kernel
abbrev mX11_odds : MD := (cX11_odds, "BlottedDeedModel", 2, 4, 100, (some .long), "odds", [])
def bX11_odds_0 (g : GE) (J : Nat → KT) : KT := i_aload 0 (i_push (.int 0) (i_putf 10 0 .int (i_aload 0 (i_aload 0 (i_iload 1 (i_cv fX11_isReading g 1 10 (i_ifne (i_push (.int 0) (i_jmp [true, true] (J 1))) (i_push (.int 1) (i_jmp [true, true] (J 1))))))))))
def bX11_odds_1 (g : GE) (J : Nat → KT) : KT := i_push (.int 1) (i_push (.int 0) (i_cv fX11_bad g 3 10 (i_ifeq (i_aload 0 (i_iload 1 (i_cv fX11_oddsBy g 1 10 (i_lreturn)))) (i_push (.long 0) (i_lreturn)))))
theorem sbX11_odds_0 (g : GE) (J : Nat → KT) (h1 : Snd mX11_odds g 19 (J 1)) : Snd mX11_odds g 0 (bX11_odds_0 g J) := by
  unfold bX11_odds_0
  refine s_aload_n (pc := 0) (i := 0) ?_ dX11_odds_0 rfl
  refine s_iconst (pc := 1) (v := 0) ?_ dX11_odds_1 (by decide)
  refine s_putf (pc := 2) (ci := 10) (f := 0) (T := TX11) (ty0 := tyX11) ?_ ginX11 tyX11_ok nmX11 rfl (by decide) rfl rfl wt_1393 dX11_odds_2
  refine s_aload_n (pc := 5) (i := 0) ?_ dX11_odds_5 rfl
  refine s_aload_n (pc := 6) (i := 0) ?_ dX11_odds_6 rfl
  refine s_iload_n (pc := 7) (i := 1) ?_ dX11_odds_7 rfl
  refine s_cv (pc := 8) (n := 1) (ci := 10) ?_ tX11_isReading rfl rfl wt_1671 wt_1673 wp_68 wt_17 wt_1674 ⟨crX11_isReading, by decide, by decide⟩ dX11_odds_8
  refine s_ifne (pc := 11) (tgt := 18) ?_ ?_ dX11_odds_11 (by decide)
  · skip
    refine s_iconst (pc := 18) (v := 0) ?_ dX11_odds_18 (by decide)
    exact s_fall (pc := 19) h1
  · skip
    refine s_iconst (pc := 14) (v := 1) ?_ dX11_odds_14 (by decide)
    exact s_goto (pc := 15) (tgt := 19) h1 dX11_odds_15 (by decide)
theorem sbX11_odds_1 (g : GE) (J : Nat → KT) (h1 : Snd mX11_odds g 19 (J 1)) : Snd mX11_odds g 19 (bX11_odds_1 g J) := by
  unfold bX11_odds_1
  refine s_iconst (pc := 19) (v := 1) ?_ dX11_odds_19 (by decide)
  refine s_iconst (pc := 20) (v := 0) ?_ dX11_odds_20 (by decide)
  refine s_cv (pc := 21) (n := 3) (ci := 10) ?_ tX11_bad rfl rfl wt_1560 wt_1562 wp_49 wt_17 wt_1563 ⟨crX11_bad, by decide, by decide⟩ dX11_odds_21
  refine s_ifeq (pc := 24) (tgt := 29) ?_ ?_ dX11_odds_24 (by decide)
  · skip
    refine s_aload_n (pc := 29) (i := 0) ?_ dX11_odds_29 rfl
    refine s_iload_n (pc := 30) (i := 1) ?_ dX11_odds_30 rfl
    refine s_cv (pc := 31) (n := 1) (ci := 10) ?_ tX11_oddsBy rfl rfl wt_1811 wt_1813 wp_83 wt_17 wt_1814 ⟨crX11_oddsBy, by decide, by decide⟩ dX11_odds_31
    exact s_lreturn (pc := 34) rfl dX11_odds_34
  · skip
    refine s_lconst (pc := 27) (v := 0) ?_ dX11_odds_27 (by decide)
    exact s_lreturn (pc := 28) rfl dX11_odds_28
def jX11_odds (g : GE) : Nat → Nat → KT
  | 0, _ => fun _ _ _ => none
  | n + 1, 0 => bX11_odds_0 g (jX11_odds g n)
  | n + 1, 1 => bX11_odds_1 g (jX11_odds g n)
  | _ + 1, _ + 2 => fun _ _ _ => none
theorem sjX11_odds (g : GE) : ∀ n, Snd mX11_odds g 0 (jX11_odds g n 0) ∧ Snd mX11_odds g 19 (jX11_odds g n 1)
  | 0 => ⟨s_none, s_none⟩
  | n + 1 => by
    obtain ⟨-, h1⟩ := sjX11_odds g n
    exact ⟨sbX11_odds_0 g _ h1, sbX11_odds_1 g _ h1⟩
def kX11_odds (g : GE) : KT := jX11_odds g g.1 0
theorem sX11_odds (g : GE) : Snd mX11_odds g 0 (kX11_odds g) := (sjX11_odds g g.1).1
def fX11_odds : FT := fun g av w => if (ent av).length ≤ 2 then kX11_odds g [] (entp 2 av) w else none
theorem tX11_odds : Mt yX11_odds cX11_odds 2 (some .long) 4 100 fX11_odds := Mt.of (K := kX11_odds) (by decide +kernel) (fun _ _ _ => rfl) sX11_odds
theorem crX11_odds : yX11_odds.cls ≠ "java/lang/invoke/MethodHandle" ∧ yX11_odds.cls ≠ "java/lang/invoke/VarHandle" ∧ (parseMethodDescriptor yX11_odds.desc).map (fun d => d.parameters.length) = some 1 := by decide +kernel
theorem dX11_oftenBy_0 : decode cX11_oftenBy 0 = .ok (.iconst 0, 1) := by decide +kernel
theorem dX11_oftenBy_1 : decode cX11_oftenBy 1 = .ok (.istore_n 3, 1) := by decide +kernel
theorem dX11_oftenBy_2 : decode cX11_oftenBy 2 = .ok (.iconst 0, 1) := by decide +kernel
theorem dX11_oftenBy_3 : decode cX11_oftenBy 3 = .ok (.istore 4, 2) := by decide +kernel
theorem dX11_oftenBy_5 : decode cX11_oftenBy 5 = .ok (.iload 4, 2) := by decide +kernel
theorem dX11_oftenBy_7 : decode cX11_oftenBy 7 = .ok (.aload_n 0, 1) := by decide +kernel
theorem dX11_oftenBy_8 : decode cX11_oftenBy 8 = .ok (.getfield 244, 3) := by decide +kernel
theorem dX11_oftenBy_11 : decode cX11_oftenBy 11 = .ok (.if_icmp .ge 28, 3) := by decide +kernel
theorem dX11_oftenBy_14 : decode cX11_oftenBy 14 = .ok (.iload_n 3, 1) := by decide +kernel
theorem dX11_oftenBy_15 : decode cX11_oftenBy 15 = .ok (.aload_n 0, 1) := by decide +kernel
theorem dX11_oftenBy_16 : decode cX11_oftenBy 16 = .ok (.iload 4, 2) := by decide +kernel
theorem dX11_oftenBy_18 : decode cX11_oftenBy 18 = .ok (.iload_n 1, 1) := by decide +kernel
theorem dX11_oftenBy_19 : decode cX11_oftenBy 19 = .ok (.invokevirtual 264, 3) := by decide +kernel
theorem dX11_oftenBy_22 : decode cX11_oftenBy 22 = .ok (.iload_n 2, 1) := by decide +kernel
theorem dX11_oftenBy_23 : decode cX11_oftenBy 23 = .ok (.if_icmp .ne 7, 3) := by decide +kernel
theorem dX11_oftenBy_26 : decode cX11_oftenBy 26 = .ok (.iconst 1, 1) := by decide +kernel
theorem dX11_oftenBy_27 : decode cX11_oftenBy 27 = .ok (.goto 4, 3) := by decide +kernel
theorem dX11_oftenBy_30 : decode cX11_oftenBy 30 = .ok (.iconst 0, 1) := by decide +kernel
theorem dX11_oftenBy_31 : decode cX11_oftenBy 31 = .ok (.iadd, 1) := by decide +kernel
theorem dX11_oftenBy_32 : decode cX11_oftenBy 32 = .ok (.istore_n 3, 1) := by decide +kernel
theorem dX11_oftenBy_33 : decode cX11_oftenBy 33 = .ok (.iinc 4 1, 3) := by decide +kernel
theorem dX11_oftenBy_36 : decode cX11_oftenBy 36 = .ok (.goto (-31), 3) := by decide +kernel
theorem dX11_oftenBy_39 : decode cX11_oftenBy 39 = .ok (.iload_n 3, 1) := by decide +kernel
theorem dX11_oftenBy_40 : decode cX11_oftenBy 40 = .ok (.ireturn, 1) := by decide +kernel
abbrev mX11_oftenBy : MD := (cX11_oftenBy, "BlottedDeedModel", 5, 2, 52, (some .int), "oftenBy", [])
def bX11_oftenBy_0 (g : GE) (J : Nat → KT) : KT := i_push (.int 0) (i_istore 3 (i_push (.int 0) (i_istore 4 (i_jmp [true, true, true, true, true] (J 1)))))
def bX11_oftenBy_1 (g : GE) (J : Nat → KT) : KT := i_iload 4 (i_aload 0 (i_getf 10 27 (i_icge (i_iload 3 (i_ireturn)) (i_iload 3 (i_aload 0 (i_iload 4 (i_iload 1 (i_cv fX11_goesBy g 2 10 (i_iload 2 (i_icne (i_push (.int 0) (i_jmp [true, true, true, false, true] (J 2))) (i_push (.int 1) (i_jmp [true, true, true, false, true] (J 2)))))))))))))
def bX11_oftenBy_2 (g : GE) (J : Nat → KT) : KT := i_iadd (i_istore 3 (i_iinc 4 1 (i_jmp [true, true, true, true, true] (J 1))))
theorem sbX11_oftenBy_0 (g : GE) (J : Nat → KT) (h1 : Snd mX11_oftenBy g 5 (J 1)) (h2 : Snd mX11_oftenBy g 31 (J 2)) : Snd mX11_oftenBy g 0 (bX11_oftenBy_0 g J) := by
  unfold bX11_oftenBy_0
  refine s_iconst (pc := 0) (v := 0) ?_ dX11_oftenBy_0 (by decide)
  refine s_istore_n (pc := 1) (i := 3) ?_ dX11_oftenBy_1 rfl (by decide)
  refine s_iconst (pc := 2) (v := 0) ?_ dX11_oftenBy_2 (by decide)
  refine s_istore (pc := 3) (i := 4) ?_ dX11_oftenBy_3 (by decide)
  exact s_fall (pc := 5) h1
theorem sbX11_oftenBy_1 (g : GE) (J : Nat → KT) (h1 : Snd mX11_oftenBy g 5 (J 1)) (h2 : Snd mX11_oftenBy g 31 (J 2)) : Snd mX11_oftenBy g 5 (bX11_oftenBy_1 g J) := by
  unfold bX11_oftenBy_1
  refine s_iload (pc := 5) (i := 4) ?_ dX11_oftenBy_5
  refine s_aload_n (pc := 7) (i := 0) ?_ dX11_oftenBy_7 rfl
  refine s_getf (pc := 8) (ci := 10) (f := 27) (T := TX11) ?_ ginX11 rfl (by decide) wt_1420 dX11_oftenBy_8
  refine s_icge (pc := 11) (tgt := 39) ?_ ?_ dX11_oftenBy_11 (by decide)
  · skip
    refine s_iload_n (pc := 39) (i := 3) ?_ dX11_oftenBy_39 rfl
    exact s_ireturn (pc := 40) rfl dX11_oftenBy_40
  · skip
    refine s_iload_n (pc := 14) (i := 3) ?_ dX11_oftenBy_14 rfl
    refine s_aload_n (pc := 15) (i := 0) ?_ dX11_oftenBy_15 rfl
    refine s_iload (pc := 16) (i := 4) ?_ dX11_oftenBy_16
    refine s_iload_n (pc := 18) (i := 1) ?_ dX11_oftenBy_18 rfl
    refine s_cv (pc := 19) (n := 2) (ci := 10) ?_ tX11_goesBy rfl rfl wt_1716 wt_1718 wp_75 wt_17 wt_1719 ⟨crX11_goesBy, by decide, by decide⟩ dX11_oftenBy_19
    refine s_iload_n (pc := 22) (i := 2) ?_ dX11_oftenBy_22 rfl
    refine s_icne (pc := 23) (tgt := 30) ?_ ?_ dX11_oftenBy_23 (by decide)
    · skip
      refine s_iconst (pc := 30) (v := 0) ?_ dX11_oftenBy_30 (by decide)
      exact s_fall (pc := 31) h2
    · skip
      refine s_iconst (pc := 26) (v := 1) ?_ dX11_oftenBy_26 (by decide)
      exact s_goto (pc := 27) (tgt := 31) h2 dX11_oftenBy_27 (by decide)
theorem sbX11_oftenBy_2 (g : GE) (J : Nat → KT) (h1 : Snd mX11_oftenBy g 5 (J 1)) (h2 : Snd mX11_oftenBy g 31 (J 2)) : Snd mX11_oftenBy g 31 (bX11_oftenBy_2 g J) := by
  unfold bX11_oftenBy_2
  refine s_iadd (pc := 31) ?_ dX11_oftenBy_31
  refine s_istore_n (pc := 32) (i := 3) ?_ dX11_oftenBy_32 rfl (by decide)
  refine s_iinc (pc := 33) (i := 4) (v := 1) ?_ dX11_oftenBy_33 (by decide) (by decide)
  exact s_goto (pc := 36) (tgt := 5) h1 dX11_oftenBy_36 (by decide)
def jX11_oftenBy (g : GE) : Nat → Nat → KT
  | 0, _ => fun _ _ _ => none
  | n + 1, 0 => bX11_oftenBy_0 g (jX11_oftenBy g n)
  | n + 1, 1 => bX11_oftenBy_1 g (jX11_oftenBy g n)
  | n + 1, 2 => bX11_oftenBy_2 g (jX11_oftenBy g n)
  | _ + 1, _ + 3 => fun _ _ _ => none
theorem sjX11_oftenBy (g : GE) : ∀ n, Snd mX11_oftenBy g 0 (jX11_oftenBy g n 0) ∧ Snd mX11_oftenBy g 5 (jX11_oftenBy g n 1) ∧ Snd mX11_oftenBy g 31 (jX11_oftenBy g n 2)
  | 0 => ⟨s_none, s_none, s_none⟩
  | n + 1 => by
    obtain ⟨-, h1, h2⟩ := sjX11_oftenBy g n
    exact ⟨sbX11_oftenBy_0 g _ h1 h2, sbX11_oftenBy_1 g _ h1 h2, sbX11_oftenBy_2 g _ h1 h2⟩
def kX11_oftenBy (g : GE) : KT := jX11_oftenBy g g.1 0
theorem sX11_oftenBy (g : GE) : Snd mX11_oftenBy g 0 (kX11_oftenBy g) := (sjX11_oftenBy g g.1).1
def fX11_oftenBy : FT := fun g av w => if (ent av).length ≤ 5 then kX11_oftenBy g [] (entp 5 av) w else none
theorem tX11_oftenBy : Mt yX11_oftenBy cX11_oftenBy 5 (some .int) 2 52 fX11_oftenBy := Mt.of (K := kX11_oftenBy) (by decide +kernel) (fun _ _ _ => rfl) sX11_oftenBy
theorem crX11_oftenBy : yX11_oftenBy.cls ≠ "java/lang/invoke/MethodHandle" ∧ yX11_oftenBy.cls ≠ "java/lang/invoke/VarHandle" ∧ (parseMethodDescriptor yX11_oftenBy.desc).map (fun d => d.parameters.length) = some 2 := by decide +kernel
theorem dX11_often_0 : decode cX11_often 0 = .ok (.aload_n 0, 1) := by decide +kernel
theorem dX11_often_1 : decode cX11_often 1 = .ok (.iconst 0, 1) := by decide +kernel
theorem dX11_often_2 : decode cX11_often 2 = .ok (.putfield 120, 3) := by decide +kernel
theorem dX11_often_5 : decode cX11_often 5 = .ok (.aload_n 0, 1) := by decide +kernel
theorem dX11_often_6 : decode cX11_often 6 = .ok (.aload_n 0, 1) := by decide +kernel
theorem dX11_often_7 : decode cX11_often 7 = .ok (.iload_n 1, 1) := by decide +kernel
theorem dX11_often_8 : decode cX11_often 8 = .ok (.invokevirtual 282, 3) := by decide +kernel
theorem dX11_often_11 : decode cX11_often 11 = .ok (.ifCond .eq 11, 3) := by decide +kernel
theorem dX11_often_14 : decode cX11_often 14 = .ok (.aload_n 0, 1) := by decide +kernel
theorem dX11_often_15 : decode cX11_often 15 = .ok (.iload_n 2, 1) := by decide +kernel
theorem dX11_often_16 : decode cX11_often 16 = .ok (.invokevirtual 276, 3) := by decide +kernel
theorem dX11_often_19 : decode cX11_often 19 = .ok (.ifCond .ne 7, 3) := by decide +kernel
theorem dX11_often_22 : decode cX11_often 22 = .ok (.iconst 1, 1) := by decide +kernel
theorem dX11_often_23 : decode cX11_often 23 = .ok (.goto 4, 3) := by decide +kernel
theorem dX11_often_26 : decode cX11_often 26 = .ok (.iconst 0, 1) := by decide +kernel
theorem dX11_often_27 : decode cX11_often 27 = .ok (.iconst 1, 1) := by decide +kernel
theorem dX11_often_28 : decode cX11_often 28 = .ok (.iconst 0, 1) := by decide +kernel
theorem dX11_often_29 : decode cX11_often 29 = .ok (.invokevirtual 215, 3) := by decide +kernel
theorem dX11_often_32 : decode cX11_often 32 = .ok (.ifCond .eq 5, 3) := by decide +kernel
theorem dX11_often_35 : decode cX11_often 35 = .ok (.iconst 0, 1) := by decide +kernel
theorem dX11_often_36 : decode cX11_often 36 = .ok (.ireturn, 1) := by decide +kernel
theorem dX11_often_37 : decode cX11_often 37 = .ok (.aload_n 0, 1) := by decide +kernel
theorem dX11_often_38 : decode cX11_often 38 = .ok (.iload_n 1, 1) := by decide +kernel
theorem dX11_often_39 : decode cX11_often 39 = .ok (.iload_n 2, 1) := by decide +kernel
theorem dX11_often_40 : decode cX11_often 40 = .ok (.invokevirtual 285, 3) := by decide +kernel
theorem dX11_often_43 : decode cX11_often 43 = .ok (.ireturn, 1) := by decide +kernel
abbrev mX11_often : MD := (cX11_often, "BlottedDeedModel", 3, 3, 76, (some .int), "often", [])
def bX11_often_0 (g : GE) (J : Nat → KT) : KT := i_aload 0 (i_push (.int 0) (i_putf 10 0 .int (i_aload 0 (i_aload 0 (i_iload 1 (i_cv fX11_isThing g 1 10 (i_ifeq (i_jmp [true, true, true] (J 1)) (i_aload 0 (i_iload 2 (i_cv fX11_isHeir g 1 10 (i_ifne (i_push (.int 0) (i_jmp [true, true, true] (J 2))) (i_jmp [true, true, true] (J 1)))))))))))))
def bX11_often_1 (g : GE) (J : Nat → KT) : KT := i_push (.int 1) (i_jmp [true, true, true] (J 2))
def bX11_often_2 (g : GE) (J : Nat → KT) : KT := i_push (.int 1) (i_push (.int 0) (i_cv fX11_bad g 3 10 (i_ifeq (i_aload 0 (i_iload 1 (i_iload 2 (i_cv fX11_oftenBy g 2 10 (i_ireturn))))) (i_push (.int 0) (i_ireturn)))))
theorem sbX11_often_0 (g : GE) (J : Nat → KT) (h1 : Snd mX11_often g 22 (J 1)) (h2 : Snd mX11_often g 27 (J 2)) : Snd mX11_often g 0 (bX11_often_0 g J) := by
  unfold bX11_often_0
  refine s_aload_n (pc := 0) (i := 0) ?_ dX11_often_0 rfl
  refine s_iconst (pc := 1) (v := 0) ?_ dX11_often_1 (by decide)
  refine s_putf (pc := 2) (ci := 10) (f := 0) (T := TX11) (ty0 := tyX11) ?_ ginX11 tyX11_ok nmX11 rfl (by decide) rfl rfl wt_1393 dX11_often_2
  refine s_aload_n (pc := 5) (i := 0) ?_ dX11_often_5 rfl
  refine s_aload_n (pc := 6) (i := 0) ?_ dX11_often_6 rfl
  refine s_iload_n (pc := 7) (i := 1) ?_ dX11_often_7 rfl
  refine s_cv (pc := 8) (n := 1) (ci := 10) ?_ tX11_isThing rfl rfl wt_1724 wt_1726 wp_76 wt_17 wt_1727 ⟨crX11_isThing, by decide, by decide⟩ dX11_often_8
  refine s_ifeq (pc := 11) (tgt := 22) ?_ ?_ dX11_often_11 (by decide)
  · skip
    exact s_fall (pc := 22) h1
  · skip
    refine s_aload_n (pc := 14) (i := 0) ?_ dX11_often_14 rfl
    refine s_iload_n (pc := 15) (i := 2) ?_ dX11_often_15 rfl
    refine s_cv (pc := 16) (n := 1) (ci := 10) ?_ tX11_isHeir rfl rfl wt_1703 wt_1705 wp_72 wt_17 wt_1706 ⟨crX11_isHeir, by decide, by decide⟩ dX11_often_16
    refine s_ifne (pc := 19) (tgt := 26) ?_ ?_ dX11_often_19 (by decide)
    · skip
      refine s_iconst (pc := 26) (v := 0) ?_ dX11_often_26 (by decide)
      exact s_fall (pc := 27) h2
    · skip
      exact s_fall (pc := 22) h1
theorem sbX11_often_1 (g : GE) (J : Nat → KT) (h1 : Snd mX11_often g 22 (J 1)) (h2 : Snd mX11_often g 27 (J 2)) : Snd mX11_often g 22 (bX11_often_1 g J) := by
  unfold bX11_often_1
  refine s_iconst (pc := 22) (v := 1) ?_ dX11_often_22 (by decide)
  exact s_goto (pc := 23) (tgt := 27) h2 dX11_often_23 (by decide)
theorem sbX11_often_2 (g : GE) (J : Nat → KT) (h1 : Snd mX11_often g 22 (J 1)) (h2 : Snd mX11_often g 27 (J 2)) : Snd mX11_often g 27 (bX11_often_2 g J) := by
  unfold bX11_often_2
  refine s_iconst (pc := 27) (v := 1) ?_ dX11_often_27 (by decide)
  refine s_iconst (pc := 28) (v := 0) ?_ dX11_often_28 (by decide)
  refine s_cv (pc := 29) (n := 3) (ci := 10) ?_ tX11_bad rfl rfl wt_1560 wt_1562 wp_49 wt_17 wt_1563 ⟨crX11_bad, by decide, by decide⟩ dX11_often_29
  refine s_ifeq (pc := 32) (tgt := 37) ?_ ?_ dX11_often_32 (by decide)
  · skip
    refine s_aload_n (pc := 37) (i := 0) ?_ dX11_often_37 rfl
    refine s_iload_n (pc := 38) (i := 1) ?_ dX11_often_38 rfl
    refine s_iload_n (pc := 39) (i := 2) ?_ dX11_often_39 rfl
    refine s_cv (pc := 40) (n := 2) (ci := 10) ?_ tX11_oftenBy rfl rfl wt_1732 wt_1734 wp_77 wt_17 wt_1735 ⟨crX11_oftenBy, by decide, by decide⟩ dX11_often_40
    exact s_ireturn (pc := 43) rfl dX11_often_43
  · skip
    refine s_iconst (pc := 35) (v := 0) ?_ dX11_often_35 (by decide)
    exact s_ireturn (pc := 36) rfl dX11_often_36
def jX11_often (g : GE) : Nat → Nat → KT
  | 0, _ => fun _ _ _ => none
  | n + 1, 0 => bX11_often_0 g (jX11_often g n)
  | n + 1, 1 => bX11_often_1 g (jX11_often g n)
  | n + 1, 2 => bX11_often_2 g (jX11_often g n)
  | _ + 1, _ + 3 => fun _ _ _ => none
theorem sjX11_often (g : GE) : ∀ n, Snd mX11_often g 0 (jX11_often g n 0) ∧ Snd mX11_often g 22 (jX11_often g n 1) ∧ Snd mX11_often g 27 (jX11_often g n 2)
  | 0 => ⟨s_none, s_none, s_none⟩
  | n + 1 => by
    obtain ⟨-, h1, h2⟩ := sjX11_often g n
    exact ⟨sbX11_often_0 g _ h1 h2, sbX11_often_1 g _ h1 h2, sbX11_often_2 g _ h1 h2⟩
def kX11_often (g : GE) : KT := jX11_often g g.1 0
theorem sX11_often (g : GE) : Snd mX11_often g 0 (kX11_often g) := (sjX11_often g g.1).1
def fX11_often : FT := fun g av w => if (ent av).length ≤ 3 then kX11_often g [] (entp 3 av) w else none
theorem tX11_often : Mt yX11_often cX11_often 3 (some .int) 3 76 fX11_often := Mt.of (K := kX11_often) (by decide +kernel) (fun _ _ _ => rfl) sX11_often
theorem crX11_often : yX11_often.cls ≠ "java/lang/invoke/MethodHandle" ∧ yX11_often.cls ≠ "java/lang/invoke/VarHandle" ∧ (parseMethodDescriptor yX11_often.desc).map (fun d => d.parameters.length) = some 2 := by decide +kernel
theorem dX11_pairs_0 : decode cX11_pairs 0 = .ok (.aload_n 0, 1) := by decide +kernel
theorem dX11_pairs_1 : decode cX11_pairs 1 = .ok (.iconst 0, 1) := by decide +kernel
theorem dX11_pairs_2 : decode cX11_pairs 2 = .ok (.putfield 120, 3) := by decide +kernel
theorem dX11_pairs_5 : decode cX11_pairs 5 = .ok (.aload_n 0, 1) := by decide +kernel
theorem dX11_pairs_6 : decode cX11_pairs 6 = .ok (.aload_n 0, 1) := by decide +kernel
theorem dX11_pairs_7 : decode cX11_pairs 7 = .ok (.iload_n 1, 1) := by decide +kernel
theorem dX11_pairs_8 : decode cX11_pairs 8 = .ok (.invokevirtual 282, 3) := by decide +kernel
theorem dX11_pairs_11 : decode cX11_pairs 11 = .ok (.ifCond .eq 11, 3) := by decide +kernel
theorem dX11_pairs_14 : decode cX11_pairs 14 = .ok (.aload_n 0, 1) := by decide +kernel
theorem dX11_pairs_15 : decode cX11_pairs 15 = .ok (.iload_n 2, 1) := by decide +kernel
theorem dX11_pairs_16 : decode cX11_pairs 16 = .ok (.invokevirtual 282, 3) := by decide +kernel
theorem dX11_pairs_19 : decode cX11_pairs 19 = .ok (.ifCond .ne 7, 3) := by decide +kernel
theorem dX11_pairs_22 : decode cX11_pairs 22 = .ok (.iconst 1, 1) := by decide +kernel
theorem dX11_pairs_23 : decode cX11_pairs 23 = .ok (.goto 4, 3) := by decide +kernel
theorem dX11_pairs_26 : decode cX11_pairs 26 = .ok (.iconst 0, 1) := by decide +kernel
theorem dX11_pairs_27 : decode cX11_pairs 27 = .ok (.iconst 1, 1) := by decide +kernel
theorem dX11_pairs_28 : decode cX11_pairs 28 = .ok (.iconst 0, 1) := by decide +kernel
theorem dX11_pairs_29 : decode cX11_pairs 29 = .ok (.invokevirtual 215, 3) := by decide +kernel
theorem dX11_pairs_32 : decode cX11_pairs 32 = .ok (.ifCond .ne 22, 3) := by decide +kernel
theorem dX11_pairs_35 : decode cX11_pairs 35 = .ok (.aload_n 0, 1) := by decide +kernel
theorem dX11_pairs_36 : decode cX11_pairs 36 = .ok (.iload_n 1, 1) := by decide +kernel
theorem dX11_pairs_37 : decode cX11_pairs 37 = .ok (.iload_n 2, 1) := by decide +kernel
theorem dX11_pairs_38 : decode cX11_pairs 38 = .ok (.if_icmp .ne 7, 3) := by decide +kernel
theorem dX11_pairs_41 : decode cX11_pairs 41 = .ok (.iconst 1, 1) := by decide +kernel
theorem dX11_pairs_42 : decode cX11_pairs 42 = .ok (.goto 4, 3) := by decide +kernel
theorem dX11_pairs_45 : decode cX11_pairs 45 = .ok (.iconst 0, 1) := by decide +kernel
theorem dX11_pairs_46 : decode cX11_pairs 46 = .ok (.iconst 2, 1) := by decide +kernel
theorem dX11_pairs_47 : decode cX11_pairs 47 = .ok (.iconst 2, 1) := by decide +kernel
theorem dX11_pairs_48 : decode cX11_pairs 48 = .ok (.invokevirtual 215, 3) := by decide +kernel
theorem dX11_pairs_51 : decode cX11_pairs 51 = .ok (.ifCond .eq 5, 3) := by decide +kernel
theorem dX11_pairs_54 : decode cX11_pairs 54 = .ok (.iconst 0, 1) := by decide +kernel
theorem dX11_pairs_55 : decode cX11_pairs 55 = .ok (.ireturn, 1) := by decide +kernel
theorem dX11_pairs_56 : decode cX11_pairs 56 = .ok (.iconst 0, 1) := by decide +kernel
theorem dX11_pairs_57 : decode cX11_pairs 57 = .ok (.istore_n 3, 1) := by decide +kernel
theorem dX11_pairs_58 : decode cX11_pairs 58 = .ok (.iconst 0, 1) := by decide +kernel
theorem dX11_pairs_59 : decode cX11_pairs 59 = .ok (.istore 4, 2) := by decide +kernel
theorem dX11_pairs_61 : decode cX11_pairs 61 = .ok (.iload 4, 2) := by decide +kernel
theorem dX11_pairs_63 : decode cX11_pairs 63 = .ok (.aload_n 0, 1) := by decide +kernel
theorem dX11_pairs_64 : decode cX11_pairs 64 = .ok (.getfield 244, 3) := by decide +kernel
theorem dX11_pairs_67 : decode cX11_pairs 67 = .ok (.if_icmp .ge 45, 3) := by decide +kernel
theorem dX11_pairs_70 : decode cX11_pairs 70 = .ok (.iload_n 3, 1) := by decide +kernel
theorem dX11_pairs_71 : decode cX11_pairs 71 = .ok (.aload_n 0, 1) := by decide +kernel
theorem dX11_pairs_72 : decode cX11_pairs 72 = .ok (.iload 4, 2) := by decide +kernel
theorem dX11_pairs_74 : decode cX11_pairs 74 = .ok (.iload_n 1, 1) := by decide +kernel
theorem dX11_pairs_75 : decode cX11_pairs 75 = .ok (.invokevirtual 264, 3) := by decide +kernel
theorem dX11_pairs_78 : decode cX11_pairs 78 = .ok (.iconst (-1), 1) := by decide +kernel
theorem dX11_pairs_79 : decode cX11_pairs 79 = .ok (.if_icmp .eq 24, 3) := by decide +kernel
theorem dX11_pairs_82 : decode cX11_pairs 82 = .ok (.aload_n 0, 1) := by decide +kernel
theorem dX11_pairs_83 : decode cX11_pairs 83 = .ok (.iload 4, 2) := by decide +kernel
theorem dX11_pairs_85 : decode cX11_pairs 85 = .ok (.iload_n 1, 1) := by decide +kernel
theorem dX11_pairs_86 : decode cX11_pairs 86 = .ok (.invokevirtual 264, 3) := by decide +kernel
theorem dX11_pairs_89 : decode cX11_pairs 89 = .ok (.aload_n 0, 1) := by decide +kernel
theorem dX11_pairs_90 : decode cX11_pairs 90 = .ok (.iload 4, 2) := by decide +kernel
theorem dX11_pairs_92 : decode cX11_pairs 92 = .ok (.iload_n 2, 1) := by decide +kernel
theorem dX11_pairs_93 : decode cX11_pairs 93 = .ok (.invokevirtual 264, 3) := by decide +kernel
theorem dX11_pairs_96 : decode cX11_pairs 96 = .ok (.if_icmp .ne 7, 3) := by decide +kernel
theorem dX11_pairs_99 : decode cX11_pairs 99 = .ok (.iconst 1, 1) := by decide +kernel
theorem dX11_pairs_100 : decode cX11_pairs 100 = .ok (.goto 4, 3) := by decide +kernel
theorem dX11_pairs_103 : decode cX11_pairs 103 = .ok (.iconst 0, 1) := by decide +kernel
theorem dX11_pairs_104 : decode cX11_pairs 104 = .ok (.iadd, 1) := by decide +kernel
theorem dX11_pairs_105 : decode cX11_pairs 105 = .ok (.istore_n 3, 1) := by decide +kernel
theorem dX11_pairs_106 : decode cX11_pairs 106 = .ok (.iinc 4 1, 3) := by decide +kernel
theorem dX11_pairs_109 : decode cX11_pairs 109 = .ok (.goto (-48), 3) := by decide +kernel
theorem dX11_pairs_112 : decode cX11_pairs 112 = .ok (.iload_n 3, 1) := by decide +kernel
theorem dX11_pairs_113 : decode cX11_pairs 113 = .ok (.ireturn, 1) := by decide +kernel
abbrev mX11_pairs : MD := (cX11_pairs, "BlottedDeedModel", 5, 3, 73, (some .int), "pairs", [])
def bX11_pairs_0 (g : GE) (J : Nat → KT) : KT := i_aload 0 (i_push (.int 0) (i_putf 10 0 .int (i_aload 0 (i_aload 0 (i_iload 1 (i_cv fX11_isThing g 1 10 (i_ifeq (i_jmp [true, true, true, false, false] (J 1)) (i_aload 0 (i_iload 2 (i_cv fX11_isThing g 1 10 (i_ifne (i_push (.int 0) (i_jmp [true, true, true, false, false] (J 2))) (i_jmp [true, true, true, false, false] (J 1)))))))))))))
def bX11_pairs_1 (g : GE) (J : Nat → KT) : KT := i_push (.int 1) (i_jmp [true, true, true, false, false] (J 2))
def bX11_pairs_2 (g : GE) (J : Nat → KT) : KT := i_push (.int 1) (i_push (.int 0) (i_cv fX11_bad g 3 10 (i_ifne (i_jmp [false, false, false, false, false] (J 4)) (i_aload 0 (i_iload 1 (i_iload 2 (i_icne (i_push (.int 0) (i_jmp [true, true, true, false, false] (J 3))) (i_push (.int 1) (i_jmp [true, true, true, false, false] (J 3))))))))))
def bX11_pairs_3 (g : GE) (J : Nat → KT) : KT := i_push (.int 2) (i_push (.int 2) (i_cv fX11_bad g 3 10 (i_ifeq (i_push (.int 0) (i_istore 3 (i_push (.int 0) (i_istore 4 (i_jmp [true, true, true, true, true] (J 5)))))) (i_jmp [false, false, false, false, false] (J 4)))))
def bX11_pairs_4 (g : GE) (J : Nat → KT) : KT := i_push (.int 0) (i_ireturn)
def bX11_pairs_5 (g : GE) (J : Nat → KT) : KT := i_iload 4 (i_aload 0 (i_getf 10 27 (i_icge (i_iload 3 (i_ireturn)) (i_iload 3 (i_aload 0 (i_iload 4 (i_iload 1 (i_cv fX11_goesBy g 2 10 (i_push (.int (-1)) (i_iceq (i_jmp [true, true, true, false, true] (J 6)) (i_aload 0 (i_iload 4 (i_iload 1 (i_cv fX11_goesBy g 2 10 (i_aload 0 (i_iload 4 (i_iload 2 (i_cv fX11_goesBy g 2 10 (i_icne (i_jmp [true, true, true, false, true] (J 6)) (i_push (.int 1) (i_jmp [true, true, true, false, true] (J 7))))))))))))))))))))))
def bX11_pairs_6 (g : GE) (J : Nat → KT) : KT := i_push (.int 0) (i_jmp [true, true, true, false, true] (J 7))
def bX11_pairs_7 (g : GE) (J : Nat → KT) : KT := i_iadd (i_istore 3 (i_iinc 4 1 (i_jmp [true, true, true, true, true] (J 5))))
theorem sbX11_pairs_0 (g : GE) (J : Nat → KT) (h1 : Snd mX11_pairs g 22 (J 1)) (h2 : Snd mX11_pairs g 27 (J 2)) (h3 : Snd mX11_pairs g 46 (J 3)) (h4 : Snd mX11_pairs g 54 (J 4)) (h5 : Snd mX11_pairs g 61 (J 5)) (h6 : Snd mX11_pairs g 103 (J 6)) (h7 : Snd mX11_pairs g 104 (J 7)) : Snd mX11_pairs g 0 (bX11_pairs_0 g J) := by
  unfold bX11_pairs_0
  refine s_aload_n (pc := 0) (i := 0) ?_ dX11_pairs_0 rfl
  refine s_iconst (pc := 1) (v := 0) ?_ dX11_pairs_1 (by decide)
  refine s_putf (pc := 2) (ci := 10) (f := 0) (T := TX11) (ty0 := tyX11) ?_ ginX11 tyX11_ok nmX11 rfl (by decide) rfl rfl wt_1393 dX11_pairs_2
  refine s_aload_n (pc := 5) (i := 0) ?_ dX11_pairs_5 rfl
  refine s_aload_n (pc := 6) (i := 0) ?_ dX11_pairs_6 rfl
  refine s_iload_n (pc := 7) (i := 1) ?_ dX11_pairs_7 rfl
  refine s_cv (pc := 8) (n := 1) (ci := 10) ?_ tX11_isThing rfl rfl wt_1724 wt_1726 wp_76 wt_17 wt_1727 ⟨crX11_isThing, by decide, by decide⟩ dX11_pairs_8
  refine s_ifeq (pc := 11) (tgt := 22) ?_ ?_ dX11_pairs_11 (by decide)
  · skip
    exact s_fall (pc := 22) h1
  · skip
    refine s_aload_n (pc := 14) (i := 0) ?_ dX11_pairs_14 rfl
    refine s_iload_n (pc := 15) (i := 2) ?_ dX11_pairs_15 rfl
    refine s_cv (pc := 16) (n := 1) (ci := 10) ?_ tX11_isThing rfl rfl wt_1724 wt_1726 wp_76 wt_17 wt_1727 ⟨crX11_isThing, by decide, by decide⟩ dX11_pairs_16
    refine s_ifne (pc := 19) (tgt := 26) ?_ ?_ dX11_pairs_19 (by decide)
    · skip
      refine s_iconst (pc := 26) (v := 0) ?_ dX11_pairs_26 (by decide)
      exact s_fall (pc := 27) h2
    · skip
      exact s_fall (pc := 22) h1
theorem sbX11_pairs_1 (g : GE) (J : Nat → KT) (h1 : Snd mX11_pairs g 22 (J 1)) (h2 : Snd mX11_pairs g 27 (J 2)) (h3 : Snd mX11_pairs g 46 (J 3)) (h4 : Snd mX11_pairs g 54 (J 4)) (h5 : Snd mX11_pairs g 61 (J 5)) (h6 : Snd mX11_pairs g 103 (J 6)) (h7 : Snd mX11_pairs g 104 (J 7)) : Snd mX11_pairs g 22 (bX11_pairs_1 g J) := by
  unfold bX11_pairs_1
  refine s_iconst (pc := 22) (v := 1) ?_ dX11_pairs_22 (by decide)
  exact s_goto (pc := 23) (tgt := 27) h2 dX11_pairs_23 (by decide)
theorem sbX11_pairs_2 (g : GE) (J : Nat → KT) (h1 : Snd mX11_pairs g 22 (J 1)) (h2 : Snd mX11_pairs g 27 (J 2)) (h3 : Snd mX11_pairs g 46 (J 3)) (h4 : Snd mX11_pairs g 54 (J 4)) (h5 : Snd mX11_pairs g 61 (J 5)) (h6 : Snd mX11_pairs g 103 (J 6)) (h7 : Snd mX11_pairs g 104 (J 7)) : Snd mX11_pairs g 27 (bX11_pairs_2 g J) := by
  unfold bX11_pairs_2
  refine s_iconst (pc := 27) (v := 1) ?_ dX11_pairs_27 (by decide)
  refine s_iconst (pc := 28) (v := 0) ?_ dX11_pairs_28 (by decide)
  refine s_cv (pc := 29) (n := 3) (ci := 10) ?_ tX11_bad rfl rfl wt_1560 wt_1562 wp_49 wt_17 wt_1563 ⟨crX11_bad, by decide, by decide⟩ dX11_pairs_29
  refine s_ifne (pc := 32) (tgt := 54) ?_ ?_ dX11_pairs_32 (by decide)
  · skip
    exact s_fall (pc := 54) h4
  · skip
    refine s_aload_n (pc := 35) (i := 0) ?_ dX11_pairs_35 rfl
    refine s_iload_n (pc := 36) (i := 1) ?_ dX11_pairs_36 rfl
    refine s_iload_n (pc := 37) (i := 2) ?_ dX11_pairs_37 rfl
    refine s_icne (pc := 38) (tgt := 45) ?_ ?_ dX11_pairs_38 (by decide)
    · skip
      refine s_iconst (pc := 45) (v := 0) ?_ dX11_pairs_45 (by decide)
      exact s_fall (pc := 46) h3
    · skip
      refine s_iconst (pc := 41) (v := 1) ?_ dX11_pairs_41 (by decide)
      exact s_goto (pc := 42) (tgt := 46) h3 dX11_pairs_42 (by decide)
theorem sbX11_pairs_3 (g : GE) (J : Nat → KT) (h1 : Snd mX11_pairs g 22 (J 1)) (h2 : Snd mX11_pairs g 27 (J 2)) (h3 : Snd mX11_pairs g 46 (J 3)) (h4 : Snd mX11_pairs g 54 (J 4)) (h5 : Snd mX11_pairs g 61 (J 5)) (h6 : Snd mX11_pairs g 103 (J 6)) (h7 : Snd mX11_pairs g 104 (J 7)) : Snd mX11_pairs g 46 (bX11_pairs_3 g J) := by
  unfold bX11_pairs_3
  refine s_iconst (pc := 46) (v := 2) ?_ dX11_pairs_46 (by decide)
  refine s_iconst (pc := 47) (v := 2) ?_ dX11_pairs_47 (by decide)
  refine s_cv (pc := 48) (n := 3) (ci := 10) ?_ tX11_bad rfl rfl wt_1560 wt_1562 wp_49 wt_17 wt_1563 ⟨crX11_bad, by decide, by decide⟩ dX11_pairs_48
  refine s_ifeq (pc := 51) (tgt := 56) ?_ ?_ dX11_pairs_51 (by decide)
  · skip
    refine s_iconst (pc := 56) (v := 0) ?_ dX11_pairs_56 (by decide)
    refine s_istore_n (pc := 57) (i := 3) ?_ dX11_pairs_57 rfl (by decide)
    refine s_iconst (pc := 58) (v := 0) ?_ dX11_pairs_58 (by decide)
    refine s_istore (pc := 59) (i := 4) ?_ dX11_pairs_59 (by decide)
    exact s_fall (pc := 61) h5
  · skip
    exact s_fall (pc := 54) h4
theorem sbX11_pairs_4 (g : GE) (J : Nat → KT) (h1 : Snd mX11_pairs g 22 (J 1)) (h2 : Snd mX11_pairs g 27 (J 2)) (h3 : Snd mX11_pairs g 46 (J 3)) (h4 : Snd mX11_pairs g 54 (J 4)) (h5 : Snd mX11_pairs g 61 (J 5)) (h6 : Snd mX11_pairs g 103 (J 6)) (h7 : Snd mX11_pairs g 104 (J 7)) : Snd mX11_pairs g 54 (bX11_pairs_4 g J) := by
  unfold bX11_pairs_4
  refine s_iconst (pc := 54) (v := 0) ?_ dX11_pairs_54 (by decide)
  exact s_ireturn (pc := 55) rfl dX11_pairs_55
theorem sbX11_pairs_5 (g : GE) (J : Nat → KT) (h1 : Snd mX11_pairs g 22 (J 1)) (h2 : Snd mX11_pairs g 27 (J 2)) (h3 : Snd mX11_pairs g 46 (J 3)) (h4 : Snd mX11_pairs g 54 (J 4)) (h5 : Snd mX11_pairs g 61 (J 5)) (h6 : Snd mX11_pairs g 103 (J 6)) (h7 : Snd mX11_pairs g 104 (J 7)) : Snd mX11_pairs g 61 (bX11_pairs_5 g J) := by
  unfold bX11_pairs_5
  refine s_iload (pc := 61) (i := 4) ?_ dX11_pairs_61
  refine s_aload_n (pc := 63) (i := 0) ?_ dX11_pairs_63 rfl
  refine s_getf (pc := 64) (ci := 10) (f := 27) (T := TX11) ?_ ginX11 rfl (by decide) wt_1420 dX11_pairs_64
  refine s_icge (pc := 67) (tgt := 112) ?_ ?_ dX11_pairs_67 (by decide)
  · skip
    refine s_iload_n (pc := 112) (i := 3) ?_ dX11_pairs_112 rfl
    exact s_ireturn (pc := 113) rfl dX11_pairs_113
  · skip
    refine s_iload_n (pc := 70) (i := 3) ?_ dX11_pairs_70 rfl
    refine s_aload_n (pc := 71) (i := 0) ?_ dX11_pairs_71 rfl
    refine s_iload (pc := 72) (i := 4) ?_ dX11_pairs_72
    refine s_iload_n (pc := 74) (i := 1) ?_ dX11_pairs_74 rfl
    refine s_cv (pc := 75) (n := 2) (ci := 10) ?_ tX11_goesBy rfl rfl wt_1716 wt_1718 wp_75 wt_17 wt_1719 ⟨crX11_goesBy, by decide, by decide⟩ dX11_pairs_75
    refine s_iconst (pc := 78) (v := (-1)) ?_ dX11_pairs_78 (by decide)
    refine s_iceq (pc := 79) (tgt := 103) ?_ ?_ dX11_pairs_79 (by decide)
    · skip
      exact s_fall (pc := 103) h6
    · skip
      refine s_aload_n (pc := 82) (i := 0) ?_ dX11_pairs_82 rfl
      refine s_iload (pc := 83) (i := 4) ?_ dX11_pairs_83
      refine s_iload_n (pc := 85) (i := 1) ?_ dX11_pairs_85 rfl
      refine s_cv (pc := 86) (n := 2) (ci := 10) ?_ tX11_goesBy rfl rfl wt_1716 wt_1718 wp_75 wt_17 wt_1719 ⟨crX11_goesBy, by decide, by decide⟩ dX11_pairs_86
      refine s_aload_n (pc := 89) (i := 0) ?_ dX11_pairs_89 rfl
      refine s_iload (pc := 90) (i := 4) ?_ dX11_pairs_90
      refine s_iload_n (pc := 92) (i := 2) ?_ dX11_pairs_92 rfl
      refine s_cv (pc := 93) (n := 2) (ci := 10) ?_ tX11_goesBy rfl rfl wt_1716 wt_1718 wp_75 wt_17 wt_1719 ⟨crX11_goesBy, by decide, by decide⟩ dX11_pairs_93
      refine s_icne (pc := 96) (tgt := 103) ?_ ?_ dX11_pairs_96 (by decide)
      · skip
        exact s_fall (pc := 103) h6
      · skip
        refine s_iconst (pc := 99) (v := 1) ?_ dX11_pairs_99 (by decide)
        exact s_goto (pc := 100) (tgt := 104) h7 dX11_pairs_100 (by decide)
theorem sbX11_pairs_6 (g : GE) (J : Nat → KT) (h1 : Snd mX11_pairs g 22 (J 1)) (h2 : Snd mX11_pairs g 27 (J 2)) (h3 : Snd mX11_pairs g 46 (J 3)) (h4 : Snd mX11_pairs g 54 (J 4)) (h5 : Snd mX11_pairs g 61 (J 5)) (h6 : Snd mX11_pairs g 103 (J 6)) (h7 : Snd mX11_pairs g 104 (J 7)) : Snd mX11_pairs g 103 (bX11_pairs_6 g J) := by
  unfold bX11_pairs_6
  refine s_iconst (pc := 103) (v := 0) ?_ dX11_pairs_103 (by decide)
  exact s_fall (pc := 104) h7
theorem sbX11_pairs_7 (g : GE) (J : Nat → KT) (h1 : Snd mX11_pairs g 22 (J 1)) (h2 : Snd mX11_pairs g 27 (J 2)) (h3 : Snd mX11_pairs g 46 (J 3)) (h4 : Snd mX11_pairs g 54 (J 4)) (h5 : Snd mX11_pairs g 61 (J 5)) (h6 : Snd mX11_pairs g 103 (J 6)) (h7 : Snd mX11_pairs g 104 (J 7)) : Snd mX11_pairs g 104 (bX11_pairs_7 g J) := by
  unfold bX11_pairs_7
  refine s_iadd (pc := 104) ?_ dX11_pairs_104
  refine s_istore_n (pc := 105) (i := 3) ?_ dX11_pairs_105 rfl (by decide)
  refine s_iinc (pc := 106) (i := 4) (v := 1) ?_ dX11_pairs_106 (by decide) (by decide)
  exact s_goto (pc := 109) (tgt := 61) h5 dX11_pairs_109 (by decide)
def jX11_pairs (g : GE) : Nat → Nat → KT
  | 0, _ => fun _ _ _ => none
  | n + 1, 0 => bX11_pairs_0 g (jX11_pairs g n)
  | n + 1, 1 => bX11_pairs_1 g (jX11_pairs g n)
  | n + 1, 2 => bX11_pairs_2 g (jX11_pairs g n)
  | n + 1, 3 => bX11_pairs_3 g (jX11_pairs g n)
  | n + 1, 4 => bX11_pairs_4 g (jX11_pairs g n)
  | n + 1, 5 => bX11_pairs_5 g (jX11_pairs g n)
  | n + 1, 6 => bX11_pairs_6 g (jX11_pairs g n)
  | n + 1, 7 => bX11_pairs_7 g (jX11_pairs g n)
  | _ + 1, _ + 8 => fun _ _ _ => none
theorem sjX11_pairs (g : GE) : ∀ n, Snd mX11_pairs g 0 (jX11_pairs g n 0) ∧ Snd mX11_pairs g 22 (jX11_pairs g n 1) ∧ Snd mX11_pairs g 27 (jX11_pairs g n 2) ∧ Snd mX11_pairs g 46 (jX11_pairs g n 3) ∧ Snd mX11_pairs g 54 (jX11_pairs g n 4) ∧ Snd mX11_pairs g 61 (jX11_pairs g n 5) ∧ Snd mX11_pairs g 103 (jX11_pairs g n 6) ∧ Snd mX11_pairs g 104 (jX11_pairs g n 7)
  | 0 => ⟨s_none, s_none, s_none, s_none, s_none, s_none, s_none, s_none⟩
  | n + 1 => by
    obtain ⟨-, h1, h2, h3, h4, h5, h6, h7⟩ := sjX11_pairs g n
    exact ⟨sbX11_pairs_0 g _ h1 h2 h3 h4 h5 h6 h7, sbX11_pairs_1 g _ h1 h2 h3 h4 h5 h6 h7, sbX11_pairs_2 g _ h1 h2 h3 h4 h5 h6 h7, sbX11_pairs_3 g _ h1 h2 h3 h4 h5 h6 h7, sbX11_pairs_4 g _ h1 h2 h3 h4 h5 h6 h7, sbX11_pairs_5 g _ h1 h2 h3 h4 h5 h6 h7, sbX11_pairs_6 g _ h1 h2 h3 h4 h5 h6 h7, sbX11_pairs_7 g _ h1 h2 h3 h4 h5 h6 h7⟩
def kX11_pairs (g : GE) : KT := jX11_pairs g g.1 0
theorem sX11_pairs (g : GE) : Snd mX11_pairs g 0 (kX11_pairs g) := (sjX11_pairs g g.1).1
def fX11_pairs : FT := fun g av w => if (ent av).length ≤ 5 then kX11_pairs g [] (entp 5 av) w else none
theorem tX11_pairs : Mt yX11_pairs cX11_pairs 5 (some .int) 3 73 fX11_pairs := Mt.of (K := kX11_pairs) (by decide +kernel) (fun _ _ _ => rfl) sX11_pairs
theorem crX11_pairs : yX11_pairs.cls ≠ "java/lang/invoke/MethodHandle" ∧ yX11_pairs.cls ≠ "java/lang/invoke/VarHandle" ∧ (parseMethodDescriptor yX11_pairs.desc).map (fun d => d.parameters.length) = some 2 := by decide +kernel
theorem dX11_reading_0 : decode cX11_reading 0 = .ok (.aload_n 0, 1) := by decide +kernel
theorem dX11_reading_1 : decode cX11_reading 1 = .ok (.iconst 0, 1) := by decide +kernel
theorem dX11_reading_2 : decode cX11_reading 2 = .ok (.putfield 120, 3) := by decide +kernel
theorem dX11_reading_5 : decode cX11_reading 5 = .ok (.aload_n 0, 1) := by decide +kernel
theorem dX11_reading_6 : decode cX11_reading 6 = .ok (.aload_n 0, 1) := by decide +kernel
theorem dX11_reading_7 : decode cX11_reading 7 = .ok (.iload_n 1, 1) := by decide +kernel
theorem dX11_reading_8 : decode cX11_reading 8 = .ok (.invokevirtual 267, 3) := by decide +kernel
theorem dX11_reading_11 : decode cX11_reading 11 = .ok (.ifCond .ne 7, 3) := by decide +kernel
theorem dX11_reading_14 : decode cX11_reading 14 = .ok (.iconst 1, 1) := by decide +kernel
theorem dX11_reading_15 : decode cX11_reading 15 = .ok (.goto 4, 3) := by decide +kernel
theorem dX11_reading_18 : decode cX11_reading 18 = .ok (.iconst 0, 1) := by decide +kernel
theorem dX11_reading_19 : decode cX11_reading 19 = .ok (.iconst 1, 1) := by decide +kernel
theorem dX11_reading_20 : decode cX11_reading 20 = .ok (.iconst 0, 1) := by decide +kernel
theorem dX11_reading_21 : decode cX11_reading 21 = .ok (.invokevirtual 215, 3) := by decide +kernel
theorem dX11_reading_24 : decode cX11_reading 24 = .ok (.ifCond .ne 25, 3) := by decide +kernel
theorem dX11_reading_27 : decode cX11_reading 27 = .ok (.aload_n 0, 1) := by decide +kernel
theorem dX11_reading_28 : decode cX11_reading 28 = .ok (.aload_n 0, 1) := by decide +kernel
theorem dX11_reading_29 : decode cX11_reading 29 = .ok (.iload_n 2, 1) := by decide +kernel
theorem dX11_reading_30 : decode cX11_reading 30 = .ok (.invokevirtual 234, 3) := by decide +kernel
theorem dX11_reading_33 : decode cX11_reading 33 = .ok (.ifCond .ne 7, 3) := by decide +kernel
theorem dX11_reading_36 : decode cX11_reading 36 = .ok (.iconst 1, 1) := by decide +kernel
theorem dX11_reading_37 : decode cX11_reading 37 = .ok (.goto 4, 3) := by decide +kernel
theorem dX11_reading_40 : decode cX11_reading 40 = .ok (.iconst 0, 1) := by decide +kernel
theorem dX11_reading_41 : decode cX11_reading 41 = .ok (.iconst 2, 1) := by decide +kernel
theorem dX11_reading_42 : decode cX11_reading 42 = .ok (.iconst 1, 1) := by decide +kernel
theorem dX11_reading_43 : decode cX11_reading 43 = .ok (.invokevirtual 215, 3) := by decide +kernel
theorem dX11_reading_46 : decode cX11_reading 46 = .ok (.ifCond .eq 5, 3) := by decide +kernel
theorem dX11_reading_49 : decode cX11_reading 49 = .ok (.iconst 0, 1) := by decide +kernel
theorem dX11_reading_50 : decode cX11_reading 50 = .ok (.ireturn, 1) := by decide +kernel
theorem dX11_reading_51 : decode cX11_reading 51 = .ok (.aload_n 0, 1) := by decide +kernel
theorem dX11_reading_52 : decode cX11_reading 52 = .ok (.iload_n 1, 1) := by decide +kernel
theorem dX11_reading_53 : decode cX11_reading 53 = .ok (.iload_n 2, 1) := by decide +kernel
theorem dX11_reading_54 : decode cX11_reading 54 = .ok (.invokevirtual 270, 3) := by decide +kernel
theorem dX11_reading_57 : decode cX11_reading 57 = .ok (.ireturn, 1) := by decide +kernel
abbrev mX11_reading : MD := (cX11_reading, "BlottedDeedModel", 3, 3, 76, (some .int), "reading", [])
def bX11_reading_0 (g : GE) (J : Nat → KT) : KT := i_aload 0 (i_push (.int 0) (i_putf 10 0 .int (i_aload 0 (i_aload 0 (i_iload 1 (i_cv fX11_isReading g 1 10 (i_ifne (i_push (.int 0) (i_jmp [true, true, true] (J 1))) (i_push (.int 1) (i_jmp [true, true, true] (J 1))))))))))
def bX11_reading_1 (g : GE) (J : Nat → KT) : KT := i_push (.int 1) (i_push (.int 0) (i_cv fX11_bad g 3 10 (i_ifne (i_jmp [false, false, false] (J 3)) (i_aload 0 (i_aload 0 (i_iload 2 (i_cv fX11_isBlot g 1 10 (i_ifne (i_push (.int 0) (i_jmp [true, true, true] (J 2))) (i_push (.int 1) (i_jmp [true, true, true] (J 2)))))))))))
def bX11_reading_2 (g : GE) (J : Nat → KT) : KT := i_push (.int 2) (i_push (.int 1) (i_cv fX11_bad g 3 10 (i_ifeq (i_aload 0 (i_iload 1 (i_iload 2 (i_cv fX11_shows g 2 10 (i_ireturn))))) (i_jmp [false, false, false] (J 3)))))
def bX11_reading_3 (g : GE) (J : Nat → KT) : KT := i_push (.int 0) (i_ireturn)
theorem sbX11_reading_0 (g : GE) (J : Nat → KT) (h1 : Snd mX11_reading g 19 (J 1)) (h2 : Snd mX11_reading g 41 (J 2)) (h3 : Snd mX11_reading g 49 (J 3)) : Snd mX11_reading g 0 (bX11_reading_0 g J) := by
  unfold bX11_reading_0
  refine s_aload_n (pc := 0) (i := 0) ?_ dX11_reading_0 rfl
  refine s_iconst (pc := 1) (v := 0) ?_ dX11_reading_1 (by decide)
  refine s_putf (pc := 2) (ci := 10) (f := 0) (T := TX11) (ty0 := tyX11) ?_ ginX11 tyX11_ok nmX11 rfl (by decide) rfl rfl wt_1393 dX11_reading_2
  refine s_aload_n (pc := 5) (i := 0) ?_ dX11_reading_5 rfl
  refine s_aload_n (pc := 6) (i := 0) ?_ dX11_reading_6 rfl
  refine s_iload_n (pc := 7) (i := 1) ?_ dX11_reading_7 rfl
  refine s_cv (pc := 8) (n := 1) (ci := 10) ?_ tX11_isReading rfl rfl wt_1671 wt_1673 wp_68 wt_17 wt_1674 ⟨crX11_isReading, by decide, by decide⟩ dX11_reading_8
  refine s_ifne (pc := 11) (tgt := 18) ?_ ?_ dX11_reading_11 (by decide)
  · skip
    refine s_iconst (pc := 18) (v := 0) ?_ dX11_reading_18 (by decide)
    exact s_fall (pc := 19) h1
  · skip
    refine s_iconst (pc := 14) (v := 1) ?_ dX11_reading_14 (by decide)
    exact s_goto (pc := 15) (tgt := 19) h1 dX11_reading_15 (by decide)
theorem sbX11_reading_1 (g : GE) (J : Nat → KT) (h1 : Snd mX11_reading g 19 (J 1)) (h2 : Snd mX11_reading g 41 (J 2)) (h3 : Snd mX11_reading g 49 (J 3)) : Snd mX11_reading g 19 (bX11_reading_1 g J) := by
  unfold bX11_reading_1
  refine s_iconst (pc := 19) (v := 1) ?_ dX11_reading_19 (by decide)
  refine s_iconst (pc := 20) (v := 0) ?_ dX11_reading_20 (by decide)
  refine s_cv (pc := 21) (n := 3) (ci := 10) ?_ tX11_bad rfl rfl wt_1560 wt_1562 wp_49 wt_17 wt_1563 ⟨crX11_bad, by decide, by decide⟩ dX11_reading_21
  refine s_ifne (pc := 24) (tgt := 49) ?_ ?_ dX11_reading_24 (by decide)
  · skip
    exact s_fall (pc := 49) h3
  · skip
    refine s_aload_n (pc := 27) (i := 0) ?_ dX11_reading_27 rfl
    refine s_aload_n (pc := 28) (i := 0) ?_ dX11_reading_28 rfl
    refine s_iload_n (pc := 29) (i := 2) ?_ dX11_reading_29 rfl
    refine s_cv (pc := 30) (n := 1) (ci := 10) ?_ tX11_isBlot rfl rfl wt_1655 wt_1657 wp_67 wt_17 wt_1658 ⟨crX11_isBlot, by decide, by decide⟩ dX11_reading_30
    refine s_ifne (pc := 33) (tgt := 40) ?_ ?_ dX11_reading_33 (by decide)
    · skip
      refine s_iconst (pc := 40) (v := 0) ?_ dX11_reading_40 (by decide)
      exact s_fall (pc := 41) h2
    · skip
      refine s_iconst (pc := 36) (v := 1) ?_ dX11_reading_36 (by decide)
      exact s_goto (pc := 37) (tgt := 41) h2 dX11_reading_37 (by decide)
theorem sbX11_reading_2 (g : GE) (J : Nat → KT) (h1 : Snd mX11_reading g 19 (J 1)) (h2 : Snd mX11_reading g 41 (J 2)) (h3 : Snd mX11_reading g 49 (J 3)) : Snd mX11_reading g 41 (bX11_reading_2 g J) := by
  unfold bX11_reading_2
  refine s_iconst (pc := 41) (v := 2) ?_ dX11_reading_41 (by decide)
  refine s_iconst (pc := 42) (v := 1) ?_ dX11_reading_42 (by decide)
  refine s_cv (pc := 43) (n := 3) (ci := 10) ?_ tX11_bad rfl rfl wt_1560 wt_1562 wp_49 wt_17 wt_1563 ⟨crX11_bad, by decide, by decide⟩ dX11_reading_43
  refine s_ifeq (pc := 46) (tgt := 51) ?_ ?_ dX11_reading_46 (by decide)
  · skip
    refine s_aload_n (pc := 51) (i := 0) ?_ dX11_reading_51 rfl
    refine s_iload_n (pc := 52) (i := 1) ?_ dX11_reading_52 rfl
    refine s_iload_n (pc := 53) (i := 2) ?_ dX11_reading_53 rfl
    refine s_cv (pc := 54) (n := 2) (ci := 10) ?_ tX11_shows rfl rfl wt_1675 wt_1677 wp_69 wt_17 wt_1678 ⟨crX11_shows, by decide, by decide⟩ dX11_reading_54
    exact s_ireturn (pc := 57) rfl dX11_reading_57
  · skip
    exact s_fall (pc := 49) h3
theorem sbX11_reading_3 (g : GE) (J : Nat → KT) (h1 : Snd mX11_reading g 19 (J 1)) (h2 : Snd mX11_reading g 41 (J 2)) (h3 : Snd mX11_reading g 49 (J 3)) : Snd mX11_reading g 49 (bX11_reading_3 g J) := by
  unfold bX11_reading_3
  refine s_iconst (pc := 49) (v := 0) ?_ dX11_reading_49 (by decide)
  exact s_ireturn (pc := 50) rfl dX11_reading_50
def jX11_reading (g : GE) : Nat → Nat → KT
  | 0, _ => fun _ _ _ => none
  | n + 1, 0 => bX11_reading_0 g (jX11_reading g n)
  | n + 1, 1 => bX11_reading_1 g (jX11_reading g n)
  | n + 1, 2 => bX11_reading_2 g (jX11_reading g n)
  | n + 1, 3 => bX11_reading_3 g (jX11_reading g n)
  | _ + 1, _ + 4 => fun _ _ _ => none
theorem sjX11_reading (g : GE) : ∀ n, Snd mX11_reading g 0 (jX11_reading g n 0) ∧ Snd mX11_reading g 19 (jX11_reading g n 1) ∧ Snd mX11_reading g 41 (jX11_reading g n 2) ∧ Snd mX11_reading g 49 (jX11_reading g n 3)
  | 0 => ⟨s_none, s_none, s_none, s_none⟩
  | n + 1 => by
    obtain ⟨-, h1, h2, h3⟩ := sjX11_reading g n
    exact ⟨sbX11_reading_0 g _ h1 h2 h3, sbX11_reading_1 g _ h1 h2 h3, sbX11_reading_2 g _ h1 h2 h3, sbX11_reading_3 g _ h1 h2 h3⟩
def kX11_reading (g : GE) : KT := jX11_reading g g.1 0
theorem sX11_reading (g : GE) : Snd mX11_reading g 0 (kX11_reading g) := (sjX11_reading g g.1).1
def fX11_reading : FT := fun g av w => if (ent av).length ≤ 3 then kX11_reading g [] (entp 3 av) w else none
theorem tX11_reading : Mt yX11_reading cX11_reading 3 (some .int) 3 76 fX11_reading := Mt.of (K := kX11_reading) (by decide +kernel) (fun _ _ _ => rfl) sX11_reading
theorem crX11_reading : yX11_reading.cls ≠ "java/lang/invoke/MethodHandle" ∧ yX11_reading.cls ≠ "java/lang/invoke/VarHandle" ∧ (parseMethodDescriptor yX11_reading.desc).map (fun d => d.parameters.length) = some 2 := by decide +kernel
theorem dX11_readings_0 : decode cX11_readings 0 = .ok (.aload_n 0, 1) := by decide +kernel
theorem dX11_readings_1 : decode cX11_readings 1 = .ok (.iconst 0, 1) := by decide +kernel
theorem dX11_readings_2 : decode cX11_readings 2 = .ok (.putfield 120, 3) := by decide +kernel
theorem dX11_readings_5 : decode cX11_readings 5 = .ok (.aload_n 0, 1) := by decide +kernel
theorem dX11_readings_6 : decode cX11_readings 6 = .ok (.getfield 244, 3) := by decide +kernel
theorem dX11_readings_9 : decode cX11_readings 9 = .ok (.ireturn, 1) := by decide +kernel
abbrev mX11_readings : MD := (cX11_readings, "BlottedDeedModel", 1, 1, 30, (some .int), "readings", [])
def bX11_readings_0 (g : GE) (J : Nat → KT) : KT := i_aload 0 (i_push (.int 0) (i_putf 10 0 .int (i_aload 0 (i_getf 10 27 (i_ireturn)))))
theorem sbX11_readings_0 (g : GE) (J : Nat → KT)  : Snd mX11_readings g 0 (bX11_readings_0 g J) := by
  unfold bX11_readings_0
  refine s_aload_n (pc := 0) (i := 0) ?_ dX11_readings_0 rfl
  refine s_iconst (pc := 1) (v := 0) ?_ dX11_readings_1 (by decide)
  refine s_putf (pc := 2) (ci := 10) (f := 0) (T := TX11) (ty0 := tyX11) ?_ ginX11 tyX11_ok nmX11 rfl (by decide) rfl rfl wt_1393 dX11_readings_2
  refine s_aload_n (pc := 5) (i := 0) ?_ dX11_readings_5 rfl
  refine s_getf (pc := 6) (ci := 10) (f := 27) (T := TX11) ?_ ginX11 rfl (by decide) wt_1420 dX11_readings_6
  exact s_ireturn (pc := 9) rfl dX11_readings_9
def kX11_readings (g : GE) : KT := bX11_readings_0 g (fun _ _ _ _ => none)
theorem sX11_readings (g : GE) : Snd mX11_readings g 0 (kX11_readings g) := sbX11_readings_0 g _
def fX11_readings : FT := fun g av w => if (ent av).length ≤ 1 then kX11_readings g [] (entp 1 av) w else none
theorem tX11_readings : Mt yX11_readings cX11_readings 1 (some .int) 1 30 fX11_readings := Mt.of (K := kX11_readings) (by decide +kernel) (fun _ _ _ => rfl) sX11_readings
theorem crX11_readings : yX11_readings.cls ≠ "java/lang/invoke/MethodHandle" ∧ yX11_readings.cls ≠ "java/lang/invoke/VarHandle" ∧ (parseMethodDescriptor yX11_readings.desc).map (fun d => d.parameters.length) = some 0 := by decide +kernel
theorem dX11_restore_0 : decode cX11_restore 0 = .ok (.aload_n 0, 1) := by decide +kernel
theorem dX11_restore_1 : decode cX11_restore 1 = .ok (.iconst 0, 1) := by decide +kernel
theorem dX11_restore_2 : decode cX11_restore 2 = .ok (.putfield 120, 3) := by decide +kernel
theorem dX11_restore_5 : decode cX11_restore 5 = .ok (.aload_n 0, 1) := by decide +kernel
theorem dX11_restore_6 : decode cX11_restore 6 = .ok (.getfield 231, 3) := by decide +kernel
theorem dX11_restore_9 : decode cX11_restore 9 = .ok (.ifCond .ne 5, 3) := by decide +kernel
theorem dX11_restore_12 : decode cX11_restore 12 = .ok (.iconst (-1), 1) := by decide +kernel
theorem dX11_restore_13 : decode cX11_restore 13 = .ok (.ireturn, 1) := by decide +kernel
theorem dX11_restore_14 : decode cX11_restore 14 = .ok (.aload_n 0, 1) := by decide +kernel
theorem dX11_restore_15 : decode cX11_restore 15 = .ok (.dup, 1) := by decide +kernel
theorem dX11_restore_16 : decode cX11_restore 16 = .ok (.getfield 231, 3) := by decide +kernel
theorem dX11_restore_19 : decode cX11_restore 19 = .ok (.iconst 1, 1) := by decide +kernel
theorem dX11_restore_20 : decode cX11_restore 20 = .ok (.isub, 1) := by decide +kernel
theorem dX11_restore_21 : decode cX11_restore 21 = .ok (.putfield 231, 3) := by decide +kernel
theorem dX11_restore_24 : decode cX11_restore 24 = .ok (.aload_n 0, 1) := by decide +kernel
theorem dX11_restore_25 : decode cX11_restore 25 = .ok (.aload_n 0, 1) := by decide +kernel
theorem dX11_restore_26 : decode cX11_restore 26 = .ok (.getfield 92, 3) := by decide +kernel
theorem dX11_restore_29 : decode cX11_restore 29 = .ok (.aload_n 0, 1) := by decide +kernel
theorem dX11_restore_30 : decode cX11_restore 30 = .ok (.getfield 231, 3) := by decide +kernel
theorem dX11_restore_33 : decode cX11_restore 33 = .ok (.aaload, 1) := by decide +kernel
theorem dX11_restore_34 : decode cX11_restore 34 = .ok (.iconst 1, 1) := by decide +kernel
theorem dX11_restore_35 : decode cX11_restore 35 = .ok (.invokevirtual 346, 3) := by decide +kernel
theorem dX11_restore_38 : decode cX11_restore 38 = .ok (.aload_n 0, 1) := by decide +kernel
theorem dX11_restore_39 : decode cX11_restore 39 = .ok (.getfield 231, 3) := by decide +kernel
theorem dX11_restore_42 : decode cX11_restore 42 = .ok (.ireturn, 1) := by decide +kernel
abbrev mX11_restore : MD := (cX11_restore, "BlottedDeedModel", 1, 3, 77, (some .int), "restore", [])
def bX11_restore_0 (g : GE) (J : Nat → KT) : KT := i_aload 0 (i_push (.int 0) (i_putf 10 0 .int (i_aload 0 (i_getf 10 34 (i_ifne (i_aload 0 (i_dup (i_getf 10 34 (i_push (.int 1) (i_isub (i_putf 10 34 .int (i_aload 0 (i_aload 0 (i_getf 10 38 (i_aload 0 (i_getf 10 34 (i_aaload 4 (i_push (.int 1) (i_cv fX11_movesAll g 2 10 (i_aload 0 (i_getf 10 34 (i_ireturn))))))))))))))))) (i_push (.int (-1)) (i_ireturn)))))))
theorem sbX11_restore_0 (g : GE) (J : Nat → KT)  : Snd mX11_restore g 0 (bX11_restore_0 g J) := by
  unfold bX11_restore_0
  refine s_aload_n (pc := 0) (i := 0) ?_ dX11_restore_0 rfl
  refine s_iconst (pc := 1) (v := 0) ?_ dX11_restore_1 (by decide)
  refine s_putf (pc := 2) (ci := 10) (f := 0) (T := TX11) (ty0 := tyX11) ?_ ginX11 tyX11_ok nmX11 rfl (by decide) rfl rfl wt_1393 dX11_restore_2
  refine s_aload_n (pc := 5) (i := 0) ?_ dX11_restore_5 rfl
  refine s_getf (pc := 6) (ci := 10) (f := 34) (T := TX11) ?_ ginX11 rfl (by decide) wt_1427 dX11_restore_6
  refine s_ifne (pc := 9) (tgt := 14) ?_ ?_ dX11_restore_9 (by decide)
  · skip
    refine s_aload_n (pc := 14) (i := 0) ?_ dX11_restore_14 rfl
    refine s_dup (pc := 15) ?_ dX11_restore_15
    refine s_getf (pc := 16) (ci := 10) (f := 34) (T := TX11) ?_ ginX11 rfl (by decide) wt_1427 dX11_restore_16
    refine s_iconst (pc := 19) (v := 1) ?_ dX11_restore_19 (by decide)
    refine s_isub (pc := 20) ?_ dX11_restore_20
    refine s_putf (pc := 21) (ci := 10) (f := 34) (T := TX11) (ty0 := tyX11) ?_ ginX11 tyX11_ok nmX11 rfl (by decide) rfl rfl wt_1427 dX11_restore_21
    refine s_aload_n (pc := 24) (i := 0) ?_ dX11_restore_24 rfl
    refine s_aload_n (pc := 25) (i := 0) ?_ dX11_restore_25 rfl
    refine s_getf (pc := 26) (ci := 10) (f := 38) (T := TX11) ?_ ginX11 rfl (by decide) wt_1431 dX11_restore_26
    refine s_aload_n (pc := 29) (i := 0) ?_ dX11_restore_29 rfl
    refine s_getf (pc := 30) (ci := 10) (f := 34) (T := TX11) ?_ ginX11 rfl (by decide) wt_1427 dX11_restore_30
    refine s_aaload (pc := 33) (t := 4) ?_ (by decide) rfl dX11_restore_33
    refine s_iconst (pc := 34) (v := 1) ?_ dX11_restore_34 (by decide)
    refine s_cv (pc := 35) (n := 2) (ci := 10) ?_ tX11_movesAll rfl rfl wt_1895 wt_1897 wp_90 wt_17 wt_1898 ⟨crX11_movesAll, by decide, by decide⟩ dX11_restore_35
    refine s_aload_n (pc := 38) (i := 0) ?_ dX11_restore_38 rfl
    refine s_getf (pc := 39) (ci := 10) (f := 34) (T := TX11) ?_ ginX11 rfl (by decide) wt_1427 dX11_restore_39
    exact s_ireturn (pc := 42) rfl dX11_restore_42
  · skip
    refine s_iconst (pc := 12) (v := (-1)) ?_ dX11_restore_12 (by decide)
    exact s_ireturn (pc := 13) rfl dX11_restore_13
def kX11_restore (g : GE) : KT := bX11_restore_0 g (fun _ _ _ _ => none)
theorem sX11_restore (g : GE) : Snd mX11_restore g 0 (kX11_restore g) := sbX11_restore_0 g _
def fX11_restore : FT := fun g av w => if (ent av).length ≤ 1 then kX11_restore g [] (entp 1 av) w else none
theorem tX11_restore : Mt yX11_restore cX11_restore 1 (some .int) 3 77 fX11_restore := Mt.of (K := kX11_restore) (by decide +kernel) (fun _ _ _ => rfl) sX11_restore
theorem crX11_restore : yX11_restore.cls ≠ "java/lang/invoke/MethodHandle" ∧ yX11_restore.cls ≠ "java/lang/invoke/VarHandle" ∧ (parseMethodDescriptor yX11_restore.desc).map (fun d => d.parameters.length) = some 0 := by decide +kernel
theorem dX11_rows_0 : decode cX11_rows 0 = .ok (.aload_n 0, 1) := by decide +kernel
theorem dX11_rows_1 : decode cX11_rows 1 = .ok (.iconst 0, 1) := by decide +kernel
theorem dX11_rows_2 : decode cX11_rows 2 = .ok (.putfield 120, 3) := by decide +kernel
theorem dX11_rows_5 : decode cX11_rows 5 = .ok (.aload_n 0, 1) := by decide +kernel
theorem dX11_rows_6 : decode cX11_rows 6 = .ok (.iload_n 1, 1) := by decide +kernel
theorem dX11_rows_7 : decode cX11_rows 7 = .ok (.iconst 0, 1) := by decide +kernel
theorem dX11_rows_8 : decode cX11_rows 8 = .ok (.sipush 999, 3) := by decide +kernel
theorem dX11_rows_11 : decode cX11_rows 11 = .ok (.invokestatic 154, 3) := by decide +kernel
theorem dX11_rows_14 : decode cX11_rows 14 = .ok (.ifCond .ne 7, 3) := by decide +kernel
theorem dX11_rows_17 : decode cX11_rows 17 = .ok (.iconst 1, 1) := by decide +kernel
theorem dX11_rows_18 : decode cX11_rows 18 = .ok (.goto 4, 3) := by decide +kernel
theorem dX11_rows_21 : decode cX11_rows 21 = .ok (.iconst 0, 1) := by decide +kernel
theorem dX11_rows_22 : decode cX11_rows 22 = .ok (.iconst 1, 1) := by decide +kernel
theorem dX11_rows_23 : decode cX11_rows 23 = .ok (.iconst 2, 1) := by decide +kernel
theorem dX11_rows_24 : decode cX11_rows 24 = .ok (.invokevirtual 215, 3) := by decide +kernel
theorem dX11_rows_27 : decode cX11_rows 27 = .ok (.ifCond .eq 5, 3) := by decide +kernel
theorem dX11_rows_30 : decode cX11_rows 30 = .ok (.iconst 0, 1) := by decide +kernel
theorem dX11_rows_31 : decode cX11_rows 31 = .ok (.ireturn, 1) := by decide +kernel
theorem dX11_rows_32 : decode cX11_rows 32 = .ok (.iconst 0, 1) := by decide +kernel
theorem dX11_rows_33 : decode cX11_rows 33 = .ok (.istore_n 2, 1) := by decide +kernel
theorem dX11_rows_34 : decode cX11_rows 34 = .ok (.iconst 0, 1) := by decide +kernel
theorem dX11_rows_35 : decode cX11_rows 35 = .ok (.istore_n 3, 1) := by decide +kernel
theorem dX11_rows_36 : decode cX11_rows 36 = .ok (.iload_n 3, 1) := by decide +kernel
theorem dX11_rows_37 : decode cX11_rows 37 = .ok (.aload_n 0, 1) := by decide +kernel
theorem dX11_rows_38 : decode cX11_rows 38 = .ok (.getfield 23, 3) := by decide +kernel
theorem dX11_rows_41 : decode cX11_rows 41 = .ok (.bipush 6, 2) := by decide +kernel
theorem dX11_rows_43 : decode cX11_rows 43 = .ok (.iaload, 1) := by decide +kernel
theorem dX11_rows_44 : decode cX11_rows 44 = .ok (.if_icmp .ge 35, 3) := by decide +kernel
theorem dX11_rows_47 : decode cX11_rows 47 = .ok (.aload_n 0, 1) := by decide +kernel
theorem dX11_rows_48 : decode cX11_rows 48 = .ok (.iload_n 3, 1) := by decide +kernel
theorem dX11_rows_49 : decode cX11_rows 49 = .ok (.invokevirtual 247, 3) := by decide +kernel
theorem dX11_rows_52 : decode cX11_rows 52 = .ok (.aload_n 0, 1) := by decide +kernel
theorem dX11_rows_53 : decode cX11_rows 53 = .ok (.iconst (-1), 1) := by decide +kernel
theorem dX11_rows_54 : decode cX11_rows 54 = .ok (.invokevirtual 250, 3) := by decide +kernel
theorem dX11_rows_57 : decode cX11_rows 57 = .ok (.iload_n 2, 1) := by decide +kernel
theorem dX11_rows_58 : decode cX11_rows 58 = .ok (.aload_n 0, 1) := by decide +kernel
theorem dX11_rows_59 : decode cX11_rows 59 = .ok (.iload_n 1, 1) := by decide +kernel
theorem dX11_rows_60 : decode cX11_rows 60 = .ok (.invokevirtual 253, 3) := by decide +kernel
theorem dX11_rows_63 : decode cX11_rows 63 = .ok (.ifCond .ne 7, 3) := by decide +kernel
theorem dX11_rows_66 : decode cX11_rows 66 = .ok (.iconst 1, 1) := by decide +kernel
theorem dX11_rows_67 : decode cX11_rows 67 = .ok (.goto 4, 3) := by decide +kernel
theorem dX11_rows_70 : decode cX11_rows 70 = .ok (.iconst 0, 1) := by decide +kernel
theorem dX11_rows_71 : decode cX11_rows 71 = .ok (.iadd, 1) := by decide +kernel
theorem dX11_rows_72 : decode cX11_rows 72 = .ok (.istore_n 2, 1) := by decide +kernel
theorem dX11_rows_73 : decode cX11_rows 73 = .ok (.iinc 3 1, 3) := by decide +kernel
theorem dX11_rows_76 : decode cX11_rows 76 = .ok (.goto (-40), 3) := by decide +kernel
theorem dX11_rows_79 : decode cX11_rows 79 = .ok (.iload_n 2, 1) := by decide +kernel
theorem dX11_rows_80 : decode cX11_rows 80 = .ok (.ireturn, 1) := by decide +kernel
abbrev mX11_rows : MD := (cX11_rows, "BlottedDeedModel", 4, 3, 75, (some .int), "rows", [])
def bX11_rows_0 (g : GE) (J : Nat → KT) : KT := i_aload 0 (i_push (.int 0) (i_putf 10 0 .int (i_aload 0 (i_iload 1 (i_push (.int 0) (i_push (.int 999) (i_cs fX11_in g 3 (i_ifne (i_push (.int 0) (i_jmp [true, true, false, false] (J 1))) (i_push (.int 1) (i_jmp [true, true, false, false] (J 1)))))))))))
def bX11_rows_1 (g : GE) (J : Nat → KT) : KT := i_push (.int 1) (i_push (.int 2) (i_cv fX11_bad g 3 10 (i_ifeq (i_push (.int 0) (i_istore 2 (i_push (.int 0) (i_istore 3 (i_jmp [true, true, true, true] (J 2)))))) (i_push (.int 0) (i_ireturn)))))
def bX11_rows_2 (g : GE) (J : Nat → KT) : KT := i_iload 3 (i_aload 0 (i_getf 10 11 (i_push (.int 6) (i_iaload (i_icge (i_iload 2 (i_ireturn)) (i_aload 0 (i_iload 3 (i_cv fX11_fills g 1 10 (i_aload 0 (i_push (.int (-1)) (i_cv fX11_asks g 1 10 (i_iload 2 (i_aload 0 (i_iload 1 (i_cv fX11_broken g 1 10 (i_ifne (i_push (.int 0) (i_jmp [true, true, false, true] (J 3))) (i_push (.int 1) (i_jmp [true, true, false, true] (J 3)))))))))))))))))))
def bX11_rows_3 (g : GE) (J : Nat → KT) : KT := i_iadd (i_istore 2 (i_iinc 3 1 (i_jmp [true, true, true, true] (J 2))))
theorem sbX11_rows_0 (g : GE) (J : Nat → KT) (h1 : Snd mX11_rows g 22 (J 1)) (h2 : Snd mX11_rows g 36 (J 2)) (h3 : Snd mX11_rows g 71 (J 3)) : Snd mX11_rows g 0 (bX11_rows_0 g J) := by
  unfold bX11_rows_0
  refine s_aload_n (pc := 0) (i := 0) ?_ dX11_rows_0 rfl
  refine s_iconst (pc := 1) (v := 0) ?_ dX11_rows_1 (by decide)
  refine s_putf (pc := 2) (ci := 10) (f := 0) (T := TX11) (ty0 := tyX11) ?_ ginX11 tyX11_ok nmX11 rfl (by decide) rfl rfl wt_1393 dX11_rows_2
  refine s_aload_n (pc := 5) (i := 0) ?_ dX11_rows_5 rfl
  refine s_iload_n (pc := 6) (i := 1) ?_ dX11_rows_6 rfl
  refine s_iconst (pc := 7) (v := 0) ?_ dX11_rows_7 (by decide)
  refine s_sipush (pc := 8) (v := 999) ?_ dX11_rows_8 (by decide)
  refine s_cs (pc := 11) (n := 3) ?_ tX11_in wt_1557 wt_1558 wt_17 wt_1559 ⟨crX11_in, by decide, by decide⟩ dX11_rows_11
  refine s_ifne (pc := 14) (tgt := 21) ?_ ?_ dX11_rows_14 (by decide)
  · skip
    refine s_iconst (pc := 21) (v := 0) ?_ dX11_rows_21 (by decide)
    exact s_fall (pc := 22) h1
  · skip
    refine s_iconst (pc := 17) (v := 1) ?_ dX11_rows_17 (by decide)
    exact s_goto (pc := 18) (tgt := 22) h1 dX11_rows_18 (by decide)
theorem sbX11_rows_1 (g : GE) (J : Nat → KT) (h1 : Snd mX11_rows g 22 (J 1)) (h2 : Snd mX11_rows g 36 (J 2)) (h3 : Snd mX11_rows g 71 (J 3)) : Snd mX11_rows g 22 (bX11_rows_1 g J) := by
  unfold bX11_rows_1
  refine s_iconst (pc := 22) (v := 1) ?_ dX11_rows_22 (by decide)
  refine s_iconst (pc := 23) (v := 2) ?_ dX11_rows_23 (by decide)
  refine s_cv (pc := 24) (n := 3) (ci := 10) ?_ tX11_bad rfl rfl wt_1560 wt_1562 wp_49 wt_17 wt_1563 ⟨crX11_bad, by decide, by decide⟩ dX11_rows_24
  refine s_ifeq (pc := 27) (tgt := 32) ?_ ?_ dX11_rows_27 (by decide)
  · skip
    refine s_iconst (pc := 32) (v := 0) ?_ dX11_rows_32 (by decide)
    refine s_istore_n (pc := 33) (i := 2) ?_ dX11_rows_33 rfl (by decide)
    refine s_iconst (pc := 34) (v := 0) ?_ dX11_rows_34 (by decide)
    refine s_istore_n (pc := 35) (i := 3) ?_ dX11_rows_35 rfl (by decide)
    exact s_fall (pc := 36) h2
  · skip
    refine s_iconst (pc := 30) (v := 0) ?_ dX11_rows_30 (by decide)
    exact s_ireturn (pc := 31) rfl dX11_rows_31
theorem sbX11_rows_2 (g : GE) (J : Nat → KT) (h1 : Snd mX11_rows g 22 (J 1)) (h2 : Snd mX11_rows g 36 (J 2)) (h3 : Snd mX11_rows g 71 (J 3)) : Snd mX11_rows g 36 (bX11_rows_2 g J) := by
  unfold bX11_rows_2
  refine s_iload_n (pc := 36) (i := 3) ?_ dX11_rows_36 rfl
  refine s_aload_n (pc := 37) (i := 0) ?_ dX11_rows_37 rfl
  refine s_getf (pc := 38) (ci := 10) (f := 11) (T := TX11) ?_ ginX11 rfl (by decide) wt_1404 dX11_rows_38
  refine s_bipush (pc := 41) (v := 6) ?_ dX11_rows_41 (by decide)
  refine s_iaload (pc := 43) ?_ dX11_rows_43
  refine s_icge (pc := 44) (tgt := 79) ?_ ?_ dX11_rows_44 (by decide)
  · skip
    refine s_iload_n (pc := 79) (i := 2) ?_ dX11_rows_79 rfl
    exact s_ireturn (pc := 80) rfl dX11_rows_80
  · skip
    refine s_aload_n (pc := 47) (i := 0) ?_ dX11_rows_47 rfl
    refine s_iload_n (pc := 48) (i := 3) ?_ dX11_rows_48 rfl
    refine s_cv (pc := 49) (n := 1) (ci := 10) ?_ tX11_fills rfl rfl wt_1377 wt_1379 wp_45 wt_17 wt_1380 ⟨crX11_fills, by decide, by decide⟩ dX11_rows_49
    refine s_aload_n (pc := 52) (i := 0) ?_ dX11_rows_52 rfl
    refine s_iconst (pc := 53) (v := (-1)) ?_ dX11_rows_53 (by decide)
    refine s_cv (pc := 54) (n := 1) (ci := 10) ?_ tX11_asks rfl rfl wt_1381 wt_1383 wp_46 wt_17 wt_1384 ⟨crX11_asks, by decide, by decide⟩ dX11_rows_54
    refine s_iload_n (pc := 57) (i := 2) ?_ dX11_rows_57 rfl
    refine s_aload_n (pc := 58) (i := 0) ?_ dX11_rows_58 rfl
    refine s_iload_n (pc := 59) (i := 1) ?_ dX11_rows_59 rfl
    refine s_cv (pc := 60) (n := 1) (ci := 10) ?_ tX11_broken rfl rfl wt_1385 wt_1387 wp_47 wt_17 wt_1388 ⟨crX11_broken, by decide, by decide⟩ dX11_rows_60
    refine s_ifne (pc := 63) (tgt := 70) ?_ ?_ dX11_rows_63 (by decide)
    · skip
      refine s_iconst (pc := 70) (v := 0) ?_ dX11_rows_70 (by decide)
      exact s_fall (pc := 71) h3
    · skip
      refine s_iconst (pc := 66) (v := 1) ?_ dX11_rows_66 (by decide)
      exact s_goto (pc := 67) (tgt := 71) h3 dX11_rows_67 (by decide)
theorem sbX11_rows_3 (g : GE) (J : Nat → KT) (h1 : Snd mX11_rows g 22 (J 1)) (h2 : Snd mX11_rows g 36 (J 2)) (h3 : Snd mX11_rows g 71 (J 3)) : Snd mX11_rows g 71 (bX11_rows_3 g J) := by
  unfold bX11_rows_3
  refine s_iadd (pc := 71) ?_ dX11_rows_71
  refine s_istore_n (pc := 72) (i := 2) ?_ dX11_rows_72 rfl (by decide)
  refine s_iinc (pc := 73) (i := 3) (v := 1) ?_ dX11_rows_73 (by decide) (by decide)
  exact s_goto (pc := 76) (tgt := 36) h2 dX11_rows_76 (by decide)
def jX11_rows (g : GE) : Nat → Nat → KT
  | 0, _ => fun _ _ _ => none
  | n + 1, 0 => bX11_rows_0 g (jX11_rows g n)
  | n + 1, 1 => bX11_rows_1 g (jX11_rows g n)
  | n + 1, 2 => bX11_rows_2 g (jX11_rows g n)
  | n + 1, 3 => bX11_rows_3 g (jX11_rows g n)
  | _ + 1, _ + 4 => fun _ _ _ => none
theorem sjX11_rows (g : GE) : ∀ n, Snd mX11_rows g 0 (jX11_rows g n 0) ∧ Snd mX11_rows g 22 (jX11_rows g n 1) ∧ Snd mX11_rows g 36 (jX11_rows g n 2) ∧ Snd mX11_rows g 71 (jX11_rows g n 3)
  | 0 => ⟨s_none, s_none, s_none, s_none⟩
  | n + 1 => by
    obtain ⟨-, h1, h2, h3⟩ := sjX11_rows g n
    exact ⟨sbX11_rows_0 g _ h1 h2 h3, sbX11_rows_1 g _ h1 h2 h3, sbX11_rows_2 g _ h1 h2 h3, sbX11_rows_3 g _ h1 h2 h3⟩
def kX11_rows (g : GE) : KT := jX11_rows g g.1 0
theorem sX11_rows (g : GE) : Snd mX11_rows g 0 (kX11_rows g) := (sjX11_rows g g.1).1
def fX11_rows : FT := fun g av w => if (ent av).length ≤ 4 then kX11_rows g [] (entp 4 av) w else none
theorem tX11_rows : Mt yX11_rows cX11_rows 4 (some .int) 3 75 fX11_rows := Mt.of (K := kX11_rows) (by decide +kernel) (fun _ _ _ => rfl) sX11_rows
theorem crX11_rows : yX11_rows.cls ≠ "java/lang/invoke/MethodHandle" ∧ yX11_rows.cls ≠ "java/lang/invoke/VarHandle" ∧ (parseMethodDescriptor yX11_rows.desc).map (fun d => d.parameters.length) = some 1 := by decide +kernel
theorem dX11_settlement_0 : decode cX11_settlement 0 = .ok (.aload_n 0, 1) := by decide +kernel
theorem dX11_settlement_1 : decode cX11_settlement 1 = .ok (.iconst 0, 1) := by decide +kernel
theorem dX11_settlement_2 : decode cX11_settlement 2 = .ok (.putfield 120, 3) := by decide +kernel
theorem dX11_settlement_5 : decode cX11_settlement 5 = .ok (.aload_n 0, 1) := by decide +kernel
theorem dX11_settlement_6 : decode cX11_settlement 6 = .ok (.aload_n 0, 1) := by decide +kernel
theorem dX11_settlement_7 : decode cX11_settlement 7 = .ok (.iload_n 1, 1) := by decide +kernel
theorem dX11_settlement_8 : decode cX11_settlement 8 = .ok (.invokevirtual 276, 3) := by decide +kernel
theorem dX11_settlement_11 : decode cX11_settlement 11 = .ok (.ifCond .ne 7, 3) := by decide +kernel
theorem dX11_settlement_14 : decode cX11_settlement 14 = .ok (.iconst 1, 1) := by decide +kernel
theorem dX11_settlement_15 : decode cX11_settlement 15 = .ok (.goto 4, 3) := by decide +kernel
theorem dX11_settlement_18 : decode cX11_settlement 18 = .ok (.iconst 0, 1) := by decide +kernel
theorem dX11_settlement_19 : decode cX11_settlement 19 = .ok (.iconst 1, 1) := by decide +kernel
theorem dX11_settlement_20 : decode cX11_settlement 20 = .ok (.iconst 0, 1) := by decide +kernel
theorem dX11_settlement_21 : decode cX11_settlement 21 = .ok (.invokevirtual 215, 3) := by decide +kernel
theorem dX11_settlement_24 : decode cX11_settlement 24 = .ok (.ifCond .eq 5, 3) := by decide +kernel
theorem dX11_settlement_27 : decode cX11_settlement 27 = .ok (.iconst 0, 1) := by decide +kernel
theorem dX11_settlement_28 : decode cX11_settlement 28 = .ok (.ireturn, 1) := by decide +kernel
theorem dX11_settlement_29 : decode cX11_settlement 29 = .ok (.aload_n 0, 1) := by decide +kernel
theorem dX11_settlement_30 : decode cX11_settlement 30 = .ok (.getfield 244, 3) := by decide +kernel
theorem dX11_settlement_33 : decode cX11_settlement 33 = .ok (.ifCond .ne 5, 3) := by decide +kernel
theorem dX11_settlement_36 : decode cX11_settlement 36 = .ok (.iconst (-1), 1) := by decide +kernel
theorem dX11_settlement_37 : decode cX11_settlement 37 = .ok (.ireturn, 1) := by decide +kernel
theorem dX11_settlement_38 : decode cX11_settlement 38 = .ok (.aload_n 0, 1) := by decide +kernel
theorem dX11_settlement_39 : decode cX11_settlement 39 = .ok (.getfield 23, 3) := by decide +kernel
theorem dX11_settlement_42 : decode cX11_settlement 42 = .ok (.iconst 4, 1) := by decide +kernel
theorem dX11_settlement_43 : decode cX11_settlement 43 = .ok (.iaload, 1) := by decide +kernel
theorem dX11_settlement_44 : decode cX11_settlement 44 = .ok (.istore_n 2, 1) := by decide +kernel
theorem dX11_settlement_45 : decode cX11_settlement 45 = .ok (.iconst 0, 1) := by decide +kernel
theorem dX11_settlement_46 : decode cX11_settlement 46 = .ok (.istore_n 3, 1) := by decide +kernel
theorem dX11_settlement_47 : decode cX11_settlement 47 = .ok (.iload_n 3, 1) := by decide +kernel
theorem dX11_settlement_48 : decode cX11_settlement 48 = .ok (.aload_n 0, 1) := by decide +kernel
theorem dX11_settlement_49 : decode cX11_settlement 49 = .ok (.getfield 23, 3) := by decide +kernel
theorem dX11_settlement_52 : decode cX11_settlement 52 = .ok (.iconst 1, 1) := by decide +kernel
theorem dX11_settlement_53 : decode cX11_settlement 53 = .ok (.iaload, 1) := by decide +kernel
theorem dX11_settlement_54 : decode cX11_settlement 54 = .ok (.if_icmp .ge 32, 3) := by decide +kernel
theorem dX11_settlement_57 : decode cX11_settlement 57 = .ok (.iload_n 2, 1) := by decide +kernel
theorem dX11_settlement_58 : decode cX11_settlement 58 = .ok (.aload_n 0, 1) := by decide +kernel
theorem dX11_settlement_59 : decode cX11_settlement 59 = .ok (.iconst 0, 1) := by decide +kernel
theorem dX11_settlement_60 : decode cX11_settlement 60 = .ok (.iload_n 3, 1) := by decide +kernel
theorem dX11_settlement_61 : decode cX11_settlement 61 = .ok (.invokevirtual 264, 3) := by decide +kernel
theorem dX11_settlement_64 : decode cX11_settlement 64 = .ok (.iconst (-1), 1) := by decide +kernel
theorem dX11_settlement_65 : decode cX11_settlement 65 = .ok (.if_icmp .ne 7, 3) := by decide +kernel
theorem dX11_settlement_68 : decode cX11_settlement 68 = .ok (.iconst 0, 1) := by decide +kernel
theorem dX11_settlement_69 : decode cX11_settlement 69 = .ok (.goto 9, 3) := by decide +kernel
theorem dX11_settlement_72 : decode cX11_settlement 72 = .ok (.aload_n 0, 1) := by decide +kernel
theorem dX11_settlement_73 : decode cX11_settlement 73 = .ok (.getfield 35, 3) := by decide +kernel
theorem dX11_settlement_76 : decode cX11_settlement 76 = .ok (.iload_n 3, 1) := by decide +kernel
theorem dX11_settlement_77 : decode cX11_settlement 77 = .ok (.iaload, 1) := by decide +kernel
theorem dX11_settlement_78 : decode cX11_settlement 78 = .ok (.iadd, 1) := by decide +kernel
theorem dX11_settlement_79 : decode cX11_settlement 79 = .ok (.istore_n 2, 1) := by decide +kernel
theorem dX11_settlement_80 : decode cX11_settlement 80 = .ok (.iinc 3 1, 3) := by decide +kernel
theorem dX11_settlement_83 : decode cX11_settlement 83 = .ok (.goto (-36), 3) := by decide +kernel
theorem dX11_settlement_86 : decode cX11_settlement 86 = .ok (.iconst 0, 1) := by decide +kernel
theorem dX11_settlement_87 : decode cX11_settlement 87 = .ok (.istore_n 3, 1) := by decide +kernel
theorem dX11_settlement_88 : decode cX11_settlement 88 = .ok (.iload_n 3, 1) := by decide +kernel
theorem dX11_settlement_89 : decode cX11_settlement 89 = .ok (.aload_n 0, 1) := by decide +kernel
theorem dX11_settlement_90 : decode cX11_settlement 90 = .ok (.getfield 23, 3) := by decide +kernel
theorem dX11_settlement_93 : decode cX11_settlement 93 = .ok (.iconst 0, 1) := by decide +kernel
theorem dX11_settlement_94 : decode cX11_settlement 94 = .ok (.iaload, 1) := by decide +kernel
theorem dX11_settlement_95 : decode cX11_settlement 95 = .ok (.if_icmp .ge 23, 3) := by decide +kernel
theorem dX11_settlement_98 : decode cX11_settlement 98 = .ok (.iload_n 2, 1) := by decide +kernel
theorem dX11_settlement_99 : decode cX11_settlement 99 = .ok (.aload_n 0, 1) := by decide +kernel
theorem dX11_settlement_100 : decode cX11_settlement 100 = .ok (.aload_n 0, 1) := by decide +kernel
theorem dX11_settlement_101 : decode cX11_settlement 101 = .ok (.iload_n 3, 1) := by decide +kernel
theorem dX11_settlement_102 : decode cX11_settlement 102 = .ok (.iconst 1, 1) := by decide +kernel
theorem dX11_settlement_103 : decode cX11_settlement 103 = .ok (.invokevirtual 288, 3) := by decide +kernel
theorem dX11_settlement_106 : decode cX11_settlement 106 = .ok (.iload_n 3, 1) := by decide +kernel
theorem dX11_settlement_107 : decode cX11_settlement 107 = .ok (.invokevirtual 279, 3) := by decide +kernel
theorem dX11_settlement_110 : decode cX11_settlement 110 = .ok (.isub, 1) := by decide +kernel
theorem dX11_settlement_111 : decode cX11_settlement 111 = .ok (.istore_n 2, 1) := by decide +kernel
theorem dX11_settlement_112 : decode cX11_settlement 112 = .ok (.iinc 3 1, 3) := by decide +kernel
theorem dX11_settlement_115 : decode cX11_settlement 115 = .ok (.goto (-27), 3) := by decide +kernel
theorem dX11_settlement_118 : decode cX11_settlement 118 = .ok (.iload_n 2, 1) := by decide +kernel
theorem dX11_settlement_119 : decode cX11_settlement 119 = .ok (.ifCond .ge 5, 3) := by decide +kernel
theorem dX11_settlement_122 : decode cX11_settlement 122 = .ok (.iconst (-1), 1) := by decide +kernel
theorem dX11_settlement_123 : decode cX11_settlement 123 = .ok (.ireturn, 1) := by decide +kernel
theorem dX11_settlement_124 : decode cX11_settlement 124 = .ok (.aload_n 0, 1) := by decide +kernel
theorem dX11_settlement_125 : decode cX11_settlement 125 = .ok (.aload_n 0, 1) := by decide +kernel
theorem dX11_settlement_126 : decode cX11_settlement 126 = .ok (.iload_n 1, 1) := by decide +kernel
theorem dX11_settlement_127 : decode cX11_settlement 127 = .ok (.iconst 1, 1) := by decide +kernel
theorem dX11_settlement_128 : decode cX11_settlement 128 = .ok (.invokevirtual 288, 3) := by decide +kernel
theorem dX11_settlement_131 : decode cX11_settlement 131 = .ok (.iload_n 1, 1) := by decide +kernel
theorem dX11_settlement_132 : decode cX11_settlement 132 = .ok (.invokevirtual 279, 3) := by decide +kernel
theorem dX11_settlement_135 : decode cX11_settlement 135 = .ok (.iload_n 2, 1) := by decide +kernel
theorem dX11_settlement_136 : decode cX11_settlement 136 = .ok (.aload_n 0, 1) := by decide +kernel
theorem dX11_settlement_137 : decode cX11_settlement 137 = .ok (.getfield 23, 3) := by decide +kernel
theorem dX11_settlement_140 : decode cX11_settlement 140 = .ok (.iconst 0, 1) := by decide +kernel
theorem dX11_settlement_141 : decode cX11_settlement 141 = .ok (.iaload, 1) := by decide +kernel
theorem dX11_settlement_142 : decode cX11_settlement 142 = .ok (.idiv, 1) := by decide +kernel
theorem dX11_settlement_143 : decode cX11_settlement 143 = .ok (.iadd, 1) := by decide +kernel
theorem dX11_settlement_144 : decode cX11_settlement 144 = .ok (.iload_n 1, 1) := by decide +kernel
theorem dX11_settlement_145 : decode cX11_settlement 145 = .ok (.iload_n 2, 1) := by decide +kernel
theorem dX11_settlement_146 : decode cX11_settlement 146 = .ok (.aload_n 0, 1) := by decide +kernel
theorem dX11_settlement_147 : decode cX11_settlement 147 = .ok (.getfield 23, 3) := by decide +kernel
theorem dX11_settlement_150 : decode cX11_settlement 150 = .ok (.iconst 0, 1) := by decide +kernel
theorem dX11_settlement_151 : decode cX11_settlement 151 = .ok (.iaload, 1) := by decide +kernel
theorem dX11_settlement_152 : decode cX11_settlement 152 = .ok (.irem, 1) := by decide +kernel
theorem dX11_settlement_153 : decode cX11_settlement 153 = .ok (.if_icmp .ge 7, 3) := by decide +kernel
theorem dX11_settlement_156 : decode cX11_settlement 156 = .ok (.iconst 1, 1) := by decide +kernel
theorem dX11_settlement_157 : decode cX11_settlement 157 = .ok (.goto 4, 3) := by decide +kernel
theorem dX11_settlement_160 : decode cX11_settlement 160 = .ok (.iconst 0, 1) := by decide +kernel
theorem dX11_settlement_161 : decode cX11_settlement 161 = .ok (.iadd, 1) := by decide +kernel
theorem dX11_settlement_162 : decode cX11_settlement 162 = .ok (.ireturn, 1) := by decide +kernel
abbrev mX11_settlement : MD := (cX11_settlement, "BlottedDeedModel", 4, 4, 100, (some .int), "settlement", [])
def bX11_settlement_0 (g : GE) (J : Nat → KT) : KT := i_aload 0 (i_push (.int 0) (i_putf 10 0 .int (i_aload 0 (i_aload 0 (i_iload 1 (i_cv fX11_isHeir g 1 10 (i_ifne (i_push (.int 0) (i_jmp [true, true, false, false] (J 1))) (i_push (.int 1) (i_jmp [true, true, false, false] (J 1))))))))))
def bX11_settlement_1 (g : GE) (J : Nat → KT) : KT := i_push (.int 1) (i_push (.int 0) (i_cv fX11_bad g 3 10 (i_ifeq (i_aload 0 (i_getf 10 27 (i_ifne (i_aload 0 (i_getf 10 11 (i_push (.int 4) (i_iaload (i_istore 2 (i_push (.int 0) (i_istore 3 (i_jmp [true, true, true, true] (J 2))))))))) (i_push (.int (-1)) (i_ireturn))))) (i_push (.int 0) (i_ireturn)))))
def bX11_settlement_2 (g : GE) (J : Nat → KT) : KT := i_iload 3 (i_aload 0 (i_getf 10 11 (i_push (.int 1) (i_iaload (i_icge (i_push (.int 0) (i_istore 3 (i_jmp [true, true, true, true] (J 4)))) (i_iload 2 (i_aload 0 (i_push (.int 0) (i_iload 3 (i_cv fX11_goesBy g 2 10 (i_push (.int (-1)) (i_icne (i_aload 0 (i_getf 10 15 (i_iload 3 (i_iaload (i_jmp [true, true, false, true] (J 3)))))) (i_push (.int 0) (i_jmp [true, true, false, true] (J 3)))))))))))))))
def bX11_settlement_3 (g : GE) (J : Nat → KT) : KT := i_iadd (i_istore 2 (i_iinc 3 1 (i_jmp [true, true, true, true] (J 2))))
def bX11_settlement_4 (g : GE) (J : Nat → KT) : KT := i_iload 3 (i_aload 0 (i_getf 10 11 (i_push (.int 0) (i_iaload (i_icge (i_iload 2 (i_ifge (i_aload 0 (i_aload 0 (i_iload 1 (i_push (.int 1) (i_cv fX11_worthAt g 2 10 (i_iload 1 (i_cv fX11_worthBy g 2 10 (i_iload 2 (i_aload 0 (i_getf 10 11 (i_push (.int 0) (i_iaload (i_idiv (i_iadd (i_iload 1 (i_iload 2 (i_aload 0 (i_getf 10 11 (i_push (.int 0) (i_iaload (i_irem (i_icge (i_push (.int 0) (i_jmp [false, false, false, false] (J 5))) (i_push (.int 1) (i_jmp [false, false, false, false] (J 5))))))))))))))))))))))))) (i_push (.int (-1)) (i_ireturn)))) (i_iload 2 (i_aload 0 (i_aload 0 (i_iload 3 (i_push (.int 1) (i_cv fX11_worthAt g 2 10 (i_iload 3 (i_cv fX11_worthBy g 2 10 (i_isub (i_istore 2 (i_iinc 3 1 (i_jmp [true, true, true, true] (J 4))))))))))))))))))
def bX11_settlement_5 (g : GE) (J : Nat → KT) : KT := i_iadd (i_ireturn)
theorem sbX11_settlement_0 (g : GE) (J : Nat → KT) (h1 : Snd mX11_settlement g 19 (J 1)) (h2 : Snd mX11_settlement g 47 (J 2)) (h3 : Snd mX11_settlement g 78 (J 3)) (h4 : Snd mX11_settlement g 88 (J 4)) (h5 : Snd mX11_settlement g 161 (J 5)) : Snd mX11_settlement g 0 (bX11_settlement_0 g J) := by
  unfold bX11_settlement_0
  refine s_aload_n (pc := 0) (i := 0) ?_ dX11_settlement_0 rfl
  refine s_iconst (pc := 1) (v := 0) ?_ dX11_settlement_1 (by decide)
  refine s_putf (pc := 2) (ci := 10) (f := 0) (T := TX11) (ty0 := tyX11) ?_ ginX11 tyX11_ok nmX11 rfl (by decide) rfl rfl wt_1393 dX11_settlement_2
  refine s_aload_n (pc := 5) (i := 0) ?_ dX11_settlement_5 rfl
  refine s_aload_n (pc := 6) (i := 0) ?_ dX11_settlement_6 rfl
  refine s_iload_n (pc := 7) (i := 1) ?_ dX11_settlement_7 rfl
  refine s_cv (pc := 8) (n := 1) (ci := 10) ?_ tX11_isHeir rfl rfl wt_1703 wt_1705 wp_72 wt_17 wt_1706 ⟨crX11_isHeir, by decide, by decide⟩ dX11_settlement_8
  refine s_ifne (pc := 11) (tgt := 18) ?_ ?_ dX11_settlement_11 (by decide)
  · skip
    refine s_iconst (pc := 18) (v := 0) ?_ dX11_settlement_18 (by decide)
    exact s_fall (pc := 19) h1
  · skip
    refine s_iconst (pc := 14) (v := 1) ?_ dX11_settlement_14 (by decide)
    exact s_goto (pc := 15) (tgt := 19) h1 dX11_settlement_15 (by decide)
theorem sbX11_settlement_1 (g : GE) (J : Nat → KT) (h1 : Snd mX11_settlement g 19 (J 1)) (h2 : Snd mX11_settlement g 47 (J 2)) (h3 : Snd mX11_settlement g 78 (J 3)) (h4 : Snd mX11_settlement g 88 (J 4)) (h5 : Snd mX11_settlement g 161 (J 5)) : Snd mX11_settlement g 19 (bX11_settlement_1 g J) := by
  unfold bX11_settlement_1
  refine s_iconst (pc := 19) (v := 1) ?_ dX11_settlement_19 (by decide)
  refine s_iconst (pc := 20) (v := 0) ?_ dX11_settlement_20 (by decide)
  refine s_cv (pc := 21) (n := 3) (ci := 10) ?_ tX11_bad rfl rfl wt_1560 wt_1562 wp_49 wt_17 wt_1563 ⟨crX11_bad, by decide, by decide⟩ dX11_settlement_21
  refine s_ifeq (pc := 24) (tgt := 29) ?_ ?_ dX11_settlement_24 (by decide)
  · skip
    refine s_aload_n (pc := 29) (i := 0) ?_ dX11_settlement_29 rfl
    refine s_getf (pc := 30) (ci := 10) (f := 27) (T := TX11) ?_ ginX11 rfl (by decide) wt_1420 dX11_settlement_30
    refine s_ifne (pc := 33) (tgt := 38) ?_ ?_ dX11_settlement_33 (by decide)
    · skip
      refine s_aload_n (pc := 38) (i := 0) ?_ dX11_settlement_38 rfl
      refine s_getf (pc := 39) (ci := 10) (f := 11) (T := TX11) ?_ ginX11 rfl (by decide) wt_1404 dX11_settlement_39
      refine s_iconst (pc := 42) (v := 4) ?_ dX11_settlement_42 (by decide)
      refine s_iaload (pc := 43) ?_ dX11_settlement_43
      refine s_istore_n (pc := 44) (i := 2) ?_ dX11_settlement_44 rfl (by decide)
      refine s_iconst (pc := 45) (v := 0) ?_ dX11_settlement_45 (by decide)
      refine s_istore_n (pc := 46) (i := 3) ?_ dX11_settlement_46 rfl (by decide)
      exact s_fall (pc := 47) h2
    · skip
      refine s_iconst (pc := 36) (v := (-1)) ?_ dX11_settlement_36 (by decide)
      exact s_ireturn (pc := 37) rfl dX11_settlement_37
  · skip
    refine s_iconst (pc := 27) (v := 0) ?_ dX11_settlement_27 (by decide)
    exact s_ireturn (pc := 28) rfl dX11_settlement_28
theorem sbX11_settlement_2 (g : GE) (J : Nat → KT) (h1 : Snd mX11_settlement g 19 (J 1)) (h2 : Snd mX11_settlement g 47 (J 2)) (h3 : Snd mX11_settlement g 78 (J 3)) (h4 : Snd mX11_settlement g 88 (J 4)) (h5 : Snd mX11_settlement g 161 (J 5)) : Snd mX11_settlement g 47 (bX11_settlement_2 g J) := by
  unfold bX11_settlement_2
  refine s_iload_n (pc := 47) (i := 3) ?_ dX11_settlement_47 rfl
  refine s_aload_n (pc := 48) (i := 0) ?_ dX11_settlement_48 rfl
  refine s_getf (pc := 49) (ci := 10) (f := 11) (T := TX11) ?_ ginX11 rfl (by decide) wt_1404 dX11_settlement_49
  refine s_iconst (pc := 52) (v := 1) ?_ dX11_settlement_52 (by decide)
  refine s_iaload (pc := 53) ?_ dX11_settlement_53
  refine s_icge (pc := 54) (tgt := 86) ?_ ?_ dX11_settlement_54 (by decide)
  · skip
    refine s_iconst (pc := 86) (v := 0) ?_ dX11_settlement_86 (by decide)
    refine s_istore_n (pc := 87) (i := 3) ?_ dX11_settlement_87 rfl (by decide)
    exact s_fall (pc := 88) h4
  · skip
    refine s_iload_n (pc := 57) (i := 2) ?_ dX11_settlement_57 rfl
    refine s_aload_n (pc := 58) (i := 0) ?_ dX11_settlement_58 rfl
    refine s_iconst (pc := 59) (v := 0) ?_ dX11_settlement_59 (by decide)
    refine s_iload_n (pc := 60) (i := 3) ?_ dX11_settlement_60 rfl
    refine s_cv (pc := 61) (n := 2) (ci := 10) ?_ tX11_goesBy rfl rfl wt_1716 wt_1718 wp_75 wt_17 wt_1719 ⟨crX11_goesBy, by decide, by decide⟩ dX11_settlement_61
    refine s_iconst (pc := 64) (v := (-1)) ?_ dX11_settlement_64 (by decide)
    refine s_icne (pc := 65) (tgt := 72) ?_ ?_ dX11_settlement_65 (by decide)
    · skip
      refine s_aload_n (pc := 72) (i := 0) ?_ dX11_settlement_72 rfl
      refine s_getf (pc := 73) (ci := 10) (f := 15) (T := TX11) ?_ ginX11 rfl (by decide) wt_1408 dX11_settlement_73
      refine s_iload_n (pc := 76) (i := 3) ?_ dX11_settlement_76 rfl
      refine s_iaload (pc := 77) ?_ dX11_settlement_77
      exact s_fall (pc := 78) h3
    · skip
      refine s_iconst (pc := 68) (v := 0) ?_ dX11_settlement_68 (by decide)
      exact s_goto (pc := 69) (tgt := 78) h3 dX11_settlement_69 (by decide)
theorem sbX11_settlement_3 (g : GE) (J : Nat → KT) (h1 : Snd mX11_settlement g 19 (J 1)) (h2 : Snd mX11_settlement g 47 (J 2)) (h3 : Snd mX11_settlement g 78 (J 3)) (h4 : Snd mX11_settlement g 88 (J 4)) (h5 : Snd mX11_settlement g 161 (J 5)) : Snd mX11_settlement g 78 (bX11_settlement_3 g J) := by
  unfold bX11_settlement_3
  refine s_iadd (pc := 78) ?_ dX11_settlement_78
  refine s_istore_n (pc := 79) (i := 2) ?_ dX11_settlement_79 rfl (by decide)
  refine s_iinc (pc := 80) (i := 3) (v := 1) ?_ dX11_settlement_80 (by decide) (by decide)
  exact s_goto (pc := 83) (tgt := 47) h2 dX11_settlement_83 (by decide)
theorem sbX11_settlement_4 (g : GE) (J : Nat → KT) (h1 : Snd mX11_settlement g 19 (J 1)) (h2 : Snd mX11_settlement g 47 (J 2)) (h3 : Snd mX11_settlement g 78 (J 3)) (h4 : Snd mX11_settlement g 88 (J 4)) (h5 : Snd mX11_settlement g 161 (J 5)) : Snd mX11_settlement g 88 (bX11_settlement_4 g J) := by
  unfold bX11_settlement_4
  refine s_iload_n (pc := 88) (i := 3) ?_ dX11_settlement_88 rfl
  refine s_aload_n (pc := 89) (i := 0) ?_ dX11_settlement_89 rfl
  refine s_getf (pc := 90) (ci := 10) (f := 11) (T := TX11) ?_ ginX11 rfl (by decide) wt_1404 dX11_settlement_90
  refine s_iconst (pc := 93) (v := 0) ?_ dX11_settlement_93 (by decide)
  refine s_iaload (pc := 94) ?_ dX11_settlement_94
  refine s_icge (pc := 95) (tgt := 118) ?_ ?_ dX11_settlement_95 (by decide)
  · skip
    refine s_iload_n (pc := 118) (i := 2) ?_ dX11_settlement_118 rfl
    refine s_ifge (pc := 119) (tgt := 124) ?_ ?_ dX11_settlement_119 (by decide)
    · skip
      refine s_aload_n (pc := 124) (i := 0) ?_ dX11_settlement_124 rfl
      refine s_aload_n (pc := 125) (i := 0) ?_ dX11_settlement_125 rfl
      refine s_iload_n (pc := 126) (i := 1) ?_ dX11_settlement_126 rfl
      refine s_iconst (pc := 127) (v := 1) ?_ dX11_settlement_127 (by decide)
      refine s_cv (pc := 128) (n := 2) (ci := 10) ?_ tX11_worthAt rfl rfl wt_1748 wt_1750 wp_78 wt_17 wt_1751 ⟨crX11_worthAt, by decide, by decide⟩ dX11_settlement_128
      refine s_iload_n (pc := 131) (i := 1) ?_ dX11_settlement_131 rfl
      refine s_cv (pc := 132) (n := 2) (ci := 10) ?_ tX11_worthBy rfl rfl wt_1712 wt_1714 wp_74 wt_17 wt_1715 ⟨crX11_worthBy, by decide, by decide⟩ dX11_settlement_132
      refine s_iload_n (pc := 135) (i := 2) ?_ dX11_settlement_135 rfl
      refine s_aload_n (pc := 136) (i := 0) ?_ dX11_settlement_136 rfl
      refine s_getf (pc := 137) (ci := 10) (f := 11) (T := TX11) ?_ ginX11 rfl (by decide) wt_1404 dX11_settlement_137
      refine s_iconst (pc := 140) (v := 0) ?_ dX11_settlement_140 (by decide)
      refine s_iaload (pc := 141) ?_ dX11_settlement_141
      refine s_idiv (pc := 142) ?_ dX11_settlement_142
      refine s_iadd (pc := 143) ?_ dX11_settlement_143
      refine s_iload_n (pc := 144) (i := 1) ?_ dX11_settlement_144 rfl
      refine s_iload_n (pc := 145) (i := 2) ?_ dX11_settlement_145 rfl
      refine s_aload_n (pc := 146) (i := 0) ?_ dX11_settlement_146 rfl
      refine s_getf (pc := 147) (ci := 10) (f := 11) (T := TX11) ?_ ginX11 rfl (by decide) wt_1404 dX11_settlement_147
      refine s_iconst (pc := 150) (v := 0) ?_ dX11_settlement_150 (by decide)
      refine s_iaload (pc := 151) ?_ dX11_settlement_151
      refine s_irem (pc := 152) ?_ dX11_settlement_152
      refine s_icge (pc := 153) (tgt := 160) ?_ ?_ dX11_settlement_153 (by decide)
      · skip
        refine s_iconst (pc := 160) (v := 0) ?_ dX11_settlement_160 (by decide)
        exact s_fall (pc := 161) h5
      · skip
        refine s_iconst (pc := 156) (v := 1) ?_ dX11_settlement_156 (by decide)
        exact s_goto (pc := 157) (tgt := 161) h5 dX11_settlement_157 (by decide)
    · skip
      refine s_iconst (pc := 122) (v := (-1)) ?_ dX11_settlement_122 (by decide)
      exact s_ireturn (pc := 123) rfl dX11_settlement_123
  · skip
    refine s_iload_n (pc := 98) (i := 2) ?_ dX11_settlement_98 rfl
    refine s_aload_n (pc := 99) (i := 0) ?_ dX11_settlement_99 rfl
    refine s_aload_n (pc := 100) (i := 0) ?_ dX11_settlement_100 rfl
    refine s_iload_n (pc := 101) (i := 3) ?_ dX11_settlement_101 rfl
    refine s_iconst (pc := 102) (v := 1) ?_ dX11_settlement_102 (by decide)
    refine s_cv (pc := 103) (n := 2) (ci := 10) ?_ tX11_worthAt rfl rfl wt_1748 wt_1750 wp_78 wt_17 wt_1751 ⟨crX11_worthAt, by decide, by decide⟩ dX11_settlement_103
    refine s_iload_n (pc := 106) (i := 3) ?_ dX11_settlement_106 rfl
    refine s_cv (pc := 107) (n := 2) (ci := 10) ?_ tX11_worthBy rfl rfl wt_1712 wt_1714 wp_74 wt_17 wt_1715 ⟨crX11_worthBy, by decide, by decide⟩ dX11_settlement_107
    refine s_isub (pc := 110) ?_ dX11_settlement_110
    refine s_istore_n (pc := 111) (i := 2) ?_ dX11_settlement_111 rfl (by decide)
    refine s_iinc (pc := 112) (i := 3) (v := 1) ?_ dX11_settlement_112 (by decide) (by decide)
    exact s_goto (pc := 115) (tgt := 88) h4 dX11_settlement_115 (by decide)
theorem sbX11_settlement_5 (g : GE) (J : Nat → KT) (h1 : Snd mX11_settlement g 19 (J 1)) (h2 : Snd mX11_settlement g 47 (J 2)) (h3 : Snd mX11_settlement g 78 (J 3)) (h4 : Snd mX11_settlement g 88 (J 4)) (h5 : Snd mX11_settlement g 161 (J 5)) : Snd mX11_settlement g 161 (bX11_settlement_5 g J) := by
  unfold bX11_settlement_5
  refine s_iadd (pc := 161) ?_ dX11_settlement_161
  exact s_ireturn (pc := 162) rfl dX11_settlement_162
def jX11_settlement (g : GE) : Nat → Nat → KT
  | 0, _ => fun _ _ _ => none
  | n + 1, 0 => bX11_settlement_0 g (jX11_settlement g n)
  | n + 1, 1 => bX11_settlement_1 g (jX11_settlement g n)
  | n + 1, 2 => bX11_settlement_2 g (jX11_settlement g n)
  | n + 1, 3 => bX11_settlement_3 g (jX11_settlement g n)
  | n + 1, 4 => bX11_settlement_4 g (jX11_settlement g n)
  | n + 1, 5 => bX11_settlement_5 g (jX11_settlement g n)
  | _ + 1, _ + 6 => fun _ _ _ => none
theorem sjX11_settlement (g : GE) : ∀ n, Snd mX11_settlement g 0 (jX11_settlement g n 0) ∧ Snd mX11_settlement g 19 (jX11_settlement g n 1) ∧ Snd mX11_settlement g 47 (jX11_settlement g n 2) ∧ Snd mX11_settlement g 78 (jX11_settlement g n 3) ∧ Snd mX11_settlement g 88 (jX11_settlement g n 4) ∧ Snd mX11_settlement g 161 (jX11_settlement g n 5)
  | 0 => ⟨s_none, s_none, s_none, s_none, s_none, s_none⟩
  | n + 1 => by
    obtain ⟨-, h1, h2, h3, h4, h5⟩ := sjX11_settlement g n
    exact ⟨sbX11_settlement_0 g _ h1 h2 h3 h4 h5, sbX11_settlement_1 g _ h1 h2 h3 h4 h5, sbX11_settlement_2 g _ h1 h2 h3 h4 h5, sbX11_settlement_3 g _ h1 h2 h3 h4 h5, sbX11_settlement_4 g _ h1 h2 h3 h4 h5, sbX11_settlement_5 g _ h1 h2 h3 h4 h5⟩
def kX11_settlement (g : GE) : KT := jX11_settlement g g.1 0
theorem sX11_settlement (g : GE) : Snd mX11_settlement g 0 (kX11_settlement g) := (sjX11_settlement g g.1).1
def fX11_settlement : FT := fun g av w => if (ent av).length ≤ 4 then kX11_settlement g [] (entp 4 av) w else none
theorem tX11_settlement : Mt yX11_settlement cX11_settlement 4 (some .int) 4 100 fX11_settlement := Mt.of (K := kX11_settlement) (by decide +kernel) (fun _ _ _ => rfl) sX11_settlement
theorem crX11_settlement : yX11_settlement.cls ≠ "java/lang/invoke/MethodHandle" ∧ yX11_settlement.cls ≠ "java/lang/invoke/VarHandle" ∧ (parseMethodDescriptor yX11_settlement.desc).map (fun d => d.parameters.length) = some 1 := by decide +kernel
theorem dX11_settles_0 : decode cX11_settles 0 = .ok (.aload_n 0, 1) := by decide +kernel
theorem dX11_settles_1 : decode cX11_settles 1 = .ok (.iconst 0, 1) := by decide +kernel
theorem dX11_settles_2 : decode cX11_settles 2 = .ok (.putfield 120, 3) := by decide +kernel
theorem dX11_settles_5 : decode cX11_settles 5 = .ok (.iconst (-1), 1) := by decide +kernel
theorem dX11_settles_6 : decode cX11_settles 6 = .ok (.istore_n 1, 1) := by decide +kernel
theorem dX11_settles_7 : decode cX11_settles 7 = .ok (.iconst 0, 1) := by decide +kernel
theorem dX11_settles_8 : decode cX11_settles 8 = .ok (.istore_n 2, 1) := by decide +kernel
theorem dX11_settles_9 : decode cX11_settles 9 = .ok (.iconst 0, 1) := by decide +kernel
theorem dX11_settles_10 : decode cX11_settles 10 = .ok (.istore_n 3, 1) := by decide +kernel
theorem dX11_settles_11 : decode cX11_settles 11 = .ok (.iload_n 3, 1) := by decide +kernel
theorem dX11_settles_12 : decode cX11_settles 12 = .ok (.aload_n 0, 1) := by decide +kernel
theorem dX11_settles_13 : decode cX11_settles 13 = .ok (.getfield 23, 3) := by decide +kernel
theorem dX11_settles_16 : decode cX11_settles 16 = .ok (.iconst 3, 1) := by decide +kernel
theorem dX11_settles_17 : decode cX11_settles 17 = .ok (.iaload, 1) := by decide +kernel
theorem dX11_settles_18 : decode cX11_settles 18 = .ok (.if_icmp .ge 35, 3) := by decide +kernel
theorem dX11_settles_21 : decode cX11_settles 21 = .ok (.aload_n 0, 1) := by decide +kernel
theorem dX11_settles_22 : decode cX11_settles 22 = .ok (.iload_n 3, 1) := by decide +kernel
theorem dX11_settles_23 : decode cX11_settles 23 = .ok (.invokevirtual 291, 3) := by decide +kernel
theorem dX11_settles_26 : decode cX11_settles 26 = .ok (.istore 4, 2) := by decide +kernel
theorem dX11_settles_28 : decode cX11_settles 28 = .ok (.iload_n 1, 1) := by decide +kernel
theorem dX11_settles_29 : decode cX11_settles 29 = .ok (.iconst (-1), 1) := by decide +kernel
theorem dX11_settles_30 : decode cX11_settles 30 = .ok (.if_icmp .eq 12, 3) := by decide +kernel
theorem dX11_settles_33 : decode cX11_settles 33 = .ok (.iload 4, 2) := by decide +kernel
theorem dX11_settles_35 : decode cX11_settles 35 = .ok (.iload_n 2, 1) := by decide +kernel
theorem dX11_settles_36 : decode cX11_settles 36 = .ok (.if_icmp .lt 6, 3) := by decide +kernel
theorem dX11_settles_39 : decode cX11_settles 39 = .ok (.goto 8, 3) := by decide +kernel
theorem dX11_settles_42 : decode cX11_settles 42 = .ok (.iload_n 3, 1) := by decide +kernel
theorem dX11_settles_43 : decode cX11_settles 43 = .ok (.istore_n 1, 1) := by decide +kernel
theorem dX11_settles_44 : decode cX11_settles 44 = .ok (.iload 4, 2) := by decide +kernel
theorem dX11_settles_46 : decode cX11_settles 46 = .ok (.istore_n 2, 1) := by decide +kernel
theorem dX11_settles_47 : decode cX11_settles 47 = .ok (.iinc 3 1, 3) := by decide +kernel
theorem dX11_settles_50 : decode cX11_settles 50 = .ok (.goto (-39), 3) := by decide +kernel
theorem dX11_settles_53 : decode cX11_settles 53 = .ok (.iload_n 1, 1) := by decide +kernel
theorem dX11_settles_54 : decode cX11_settles 54 = .ok (.ireturn, 1) := by decide +kernel
abbrev mX11_settles : MD := (cX11_settles, "BlottedDeedModel", 5, 4, 99, (some .int), "settles", [])
def bX11_settles_0 (g : GE) (J : Nat → KT) : KT := i_aload 0 (i_push (.int 0) (i_putf 10 0 .int (i_push (.int (-1)) (i_istore 1 (i_push (.int 0) (i_istore 2 (i_push (.int 0) (i_istore 3 (i_jmp [true, true, true, true, false] (J 1))))))))))
def bX11_settles_1 (g : GE) (J : Nat → KT) : KT := i_iload 3 (i_aload 0 (i_getf 10 11 (i_push (.int 3) (i_iaload (i_icge (i_iload 1 (i_ireturn)) (i_aload 0 (i_iload 3 (i_cv fX11_cleanedBy g 1 10 (i_istore 4 (i_iload 1 (i_push (.int (-1)) (i_iceq (i_jmp [true, false, false, true, true] (J 2)) (i_iload 4 (i_iload 2 (i_iclt (i_jmp [true, false, false, true, true] (J 2)) (i_jmp [true, true, true, true, false] (J 3)))))))))))))))))
def bX11_settles_2 (g : GE) (J : Nat → KT) : KT := i_iload 3 (i_istore 1 (i_iload 4 (i_istore 2 (i_jmp [true, true, true, true, false] (J 3)))))
def bX11_settles_3 (g : GE) (J : Nat → KT) : KT := i_iinc 3 1 (i_jmp [true, true, true, true, false] (J 1))
theorem sbX11_settles_0 (g : GE) (J : Nat → KT) (h1 : Snd mX11_settles g 11 (J 1)) (h2 : Snd mX11_settles g 42 (J 2)) (h3 : Snd mX11_settles g 47 (J 3)) : Snd mX11_settles g 0 (bX11_settles_0 g J) := by
  unfold bX11_settles_0
  refine s_aload_n (pc := 0) (i := 0) ?_ dX11_settles_0 rfl
  refine s_iconst (pc := 1) (v := 0) ?_ dX11_settles_1 (by decide)
  refine s_putf (pc := 2) (ci := 10) (f := 0) (T := TX11) (ty0 := tyX11) ?_ ginX11 tyX11_ok nmX11 rfl (by decide) rfl rfl wt_1393 dX11_settles_2
  refine s_iconst (pc := 5) (v := (-1)) ?_ dX11_settles_5 (by decide)
  refine s_istore_n (pc := 6) (i := 1) ?_ dX11_settles_6 rfl (by decide)
  refine s_iconst (pc := 7) (v := 0) ?_ dX11_settles_7 (by decide)
  refine s_istore_n (pc := 8) (i := 2) ?_ dX11_settles_8 rfl (by decide)
  refine s_iconst (pc := 9) (v := 0) ?_ dX11_settles_9 (by decide)
  refine s_istore_n (pc := 10) (i := 3) ?_ dX11_settles_10 rfl (by decide)
  exact s_fall (pc := 11) h1
theorem sbX11_settles_1 (g : GE) (J : Nat → KT) (h1 : Snd mX11_settles g 11 (J 1)) (h2 : Snd mX11_settles g 42 (J 2)) (h3 : Snd mX11_settles g 47 (J 3)) : Snd mX11_settles g 11 (bX11_settles_1 g J) := by
  unfold bX11_settles_1
  refine s_iload_n (pc := 11) (i := 3) ?_ dX11_settles_11 rfl
  refine s_aload_n (pc := 12) (i := 0) ?_ dX11_settles_12 rfl
  refine s_getf (pc := 13) (ci := 10) (f := 11) (T := TX11) ?_ ginX11 rfl (by decide) wt_1404 dX11_settles_13
  refine s_iconst (pc := 16) (v := 3) ?_ dX11_settles_16 (by decide)
  refine s_iaload (pc := 17) ?_ dX11_settles_17
  refine s_icge (pc := 18) (tgt := 53) ?_ ?_ dX11_settles_18 (by decide)
  · skip
    refine s_iload_n (pc := 53) (i := 1) ?_ dX11_settles_53 rfl
    exact s_ireturn (pc := 54) rfl dX11_settles_54
  · skip
    refine s_aload_n (pc := 21) (i := 0) ?_ dX11_settles_21 rfl
    refine s_iload_n (pc := 22) (i := 3) ?_ dX11_settles_22 rfl
    refine s_cv (pc := 23) (n := 1) (ci := 10) ?_ tX11_cleanedBy rfl rfl wt_1756 wt_1758 wp_79 wt_17 wt_1759 ⟨crX11_cleanedBy, by decide, by decide⟩ dX11_settles_23
    refine s_istore (pc := 26) (i := 4) ?_ dX11_settles_26 (by decide)
    refine s_iload_n (pc := 28) (i := 1) ?_ dX11_settles_28 rfl
    refine s_iconst (pc := 29) (v := (-1)) ?_ dX11_settles_29 (by decide)
    refine s_iceq (pc := 30) (tgt := 42) ?_ ?_ dX11_settles_30 (by decide)
    · skip
      exact s_fall (pc := 42) h2
    · skip
      refine s_iload (pc := 33) (i := 4) ?_ dX11_settles_33
      refine s_iload_n (pc := 35) (i := 2) ?_ dX11_settles_35 rfl
      refine s_iclt (pc := 36) (tgt := 42) ?_ ?_ dX11_settles_36 (by decide)
      · skip
        exact s_fall (pc := 42) h2
      · skip
        exact s_goto (pc := 39) (tgt := 47) h3 dX11_settles_39 (by decide)
theorem sbX11_settles_2 (g : GE) (J : Nat → KT) (h1 : Snd mX11_settles g 11 (J 1)) (h2 : Snd mX11_settles g 42 (J 2)) (h3 : Snd mX11_settles g 47 (J 3)) : Snd mX11_settles g 42 (bX11_settles_2 g J) := by
  unfold bX11_settles_2
  refine s_iload_n (pc := 42) (i := 3) ?_ dX11_settles_42 rfl
  refine s_istore_n (pc := 43) (i := 1) ?_ dX11_settles_43 rfl (by decide)
  refine s_iload (pc := 44) (i := 4) ?_ dX11_settles_44
  refine s_istore_n (pc := 46) (i := 2) ?_ dX11_settles_46 rfl (by decide)
  exact s_fall (pc := 47) h3
theorem sbX11_settles_3 (g : GE) (J : Nat → KT) (h1 : Snd mX11_settles g 11 (J 1)) (h2 : Snd mX11_settles g 42 (J 2)) (h3 : Snd mX11_settles g 47 (J 3)) : Snd mX11_settles g 47 (bX11_settles_3 g J) := by
  unfold bX11_settles_3
  refine s_iinc (pc := 47) (i := 3) (v := 1) ?_ dX11_settles_47 (by decide) (by decide)
  exact s_goto (pc := 50) (tgt := 11) h1 dX11_settles_50 (by decide)
def jX11_settles (g : GE) : Nat → Nat → KT
  | 0, _ => fun _ _ _ => none
  | n + 1, 0 => bX11_settles_0 g (jX11_settles g n)
  | n + 1, 1 => bX11_settles_1 g (jX11_settles g n)
  | n + 1, 2 => bX11_settles_2 g (jX11_settles g n)
  | n + 1, 3 => bX11_settles_3 g (jX11_settles g n)
  | _ + 1, _ + 4 => fun _ _ _ => none
theorem sjX11_settles (g : GE) : ∀ n, Snd mX11_settles g 0 (jX11_settles g n 0) ∧ Snd mX11_settles g 11 (jX11_settles g n 1) ∧ Snd mX11_settles g 42 (jX11_settles g n 2) ∧ Snd mX11_settles g 47 (jX11_settles g n 3)
  | 0 => ⟨s_none, s_none, s_none, s_none⟩
  | n + 1 => by
    obtain ⟨-, h1, h2, h3⟩ := sjX11_settles g n
    exact ⟨sbX11_settles_0 g _ h1 h2 h3, sbX11_settles_1 g _ h1 h2 h3, sbX11_settles_2 g _ h1 h2 h3, sbX11_settles_3 g _ h1 h2 h3⟩
def kX11_settles (g : GE) : KT := jX11_settles g g.1 0
theorem sX11_settles (g : GE) : Snd mX11_settles g 0 (kX11_settles g) := (sjX11_settles g g.1).1
def fX11_settles : FT := fun g av w => if (ent av).length ≤ 5 then kX11_settles g [] (entp 5 av) w else none
theorem tX11_settles : Mt yX11_settles cX11_settles 5 (some .int) 4 99 fX11_settles := Mt.of (K := kX11_settles) (by decide +kernel) (fun _ _ _ => rfl) sX11_settles
theorem crX11_settles : yX11_settles.cls ≠ "java/lang/invoke/MethodHandle" ∧ yX11_settles.cls ≠ "java/lang/invoke/VarHandle" ∧ (parseMethodDescriptor yX11_settles.desc).map (fun d => d.parameters.length) = some 0 := by decide +kernel
