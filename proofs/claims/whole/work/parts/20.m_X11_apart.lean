theorem dX11_apart_0 : decode cX11_apart 0 = .ok (.aload_n 0, 1) := by decide +kernel
theorem dX11_apart_1 : decode cX11_apart 1 = .ok (.iconst 0, 1) := by decide +kernel
theorem dX11_apart_2 : decode cX11_apart 2 = .ok (.putfield 120, 3) := by decide +kernel
theorem dX11_apart_5 : decode cX11_apart 5 = .ok (.aload_n 0, 1) := by decide +kernel
theorem dX11_apart_6 : decode cX11_apart 6 = .ok (.aload_n 0, 1) := by decide +kernel
theorem dX11_apart_7 : decode cX11_apart 7 = .ok (.iload_n 1, 1) := by decide +kernel
theorem dX11_apart_8 : decode cX11_apart 8 = .ok (.invokevirtual 267, 3) := by decide +kernel
theorem dX11_apart_11 : decode cX11_apart 11 = .ok (.ifCond .eq 11, 3) := by decide +kernel
theorem dX11_apart_14 : decode cX11_apart 14 = .ok (.aload_n 0, 1) := by decide +kernel
theorem dX11_apart_15 : decode cX11_apart 15 = .ok (.iload_n 2, 1) := by decide +kernel
theorem dX11_apart_16 : decode cX11_apart 16 = .ok (.invokevirtual 267, 3) := by decide +kernel
theorem dX11_apart_19 : decode cX11_apart 19 = .ok (.ifCond .ne 7, 3) := by decide +kernel
theorem dX11_apart_22 : decode cX11_apart 22 = .ok (.iconst 1, 1) := by decide +kernel
theorem dX11_apart_23 : decode cX11_apart 23 = .ok (.goto 4, 3) := by decide +kernel
theorem dX11_apart_26 : decode cX11_apart 26 = .ok (.iconst 0, 1) := by decide +kernel
theorem dX11_apart_27 : decode cX11_apart 27 = .ok (.iconst 1, 1) := by decide +kernel
theorem dX11_apart_28 : decode cX11_apart 28 = .ok (.iconst 0, 1) := by decide +kernel
theorem dX11_apart_29 : decode cX11_apart 29 = .ok (.invokevirtual 215, 3) := by decide +kernel
theorem dX11_apart_32 : decode cX11_apart 32 = .ok (.ifCond .eq 5, 3) := by decide +kernel
theorem dX11_apart_35 : decode cX11_apart 35 = .ok (.iconst 0, 1) := by decide +kernel
theorem dX11_apart_36 : decode cX11_apart 36 = .ok (.ireturn, 1) := by decide +kernel
theorem dX11_apart_37 : decode cX11_apart 37 = .ok (.aload_n 0, 1) := by decide +kernel
theorem dX11_apart_38 : decode cX11_apart 38 = .ok (.iload_n 1, 1) := by decide +kernel
theorem dX11_apart_39 : decode cX11_apart 39 = .ok (.iload_n 2, 1) := by decide +kernel
theorem dX11_apart_40 : decode cX11_apart 40 = .ok (.invokevirtual 330, 3) := by decide +kernel
theorem dX11_apart_43 : decode cX11_apart 43 = .ok (.ireturn, 1) := by decide +kernel
abbrev mX11_apart : MD := (cX11_apart, "BlottedDeedModel", 3, 3, 73, (some .int), "apart", [])
def bX11_apart_0 (g : GE) (J : Nat → KT) : KT := i_aload 0 (i_push (.int 0) (i_putf 10 0 .int (i_aload 0 (i_aload 0 (i_iload 1 (i_cv fX11_isReading g 1 10 (i_ifeq (i_jmp [true, true, true] (J 1)) (i_aload 0 (i_iload 2 (i_cv fX11_isReading g 1 10 (i_ifne (i_push (.int 0) (i_jmp [true, true, true] (J 2))) (i_jmp [true, true, true] (J 1)))))))))))))
def bX11_apart_1 (g : GE) (J : Nat → KT) : KT := i_push (.int 1) (i_jmp [true, true, true] (J 2))
def bX11_apart_2 (g : GE) (J : Nat → KT) : KT := i_push (.int 1) (i_push (.int 0) (i_cv fX11_bad g 3 10 (i_ifeq (i_aload 0 (i_iload 1 (i_iload 2 (i_cv fX11_apartBy g 2 10 (i_ireturn))))) (i_push (.int 0) (i_ireturn)))))
theorem sbX11_apart_0 (g : GE) (J : Nat → KT) (h1 : Snd mX11_apart g 22 (J 1)) (h2 : Snd mX11_apart g 27 (J 2)) : Snd mX11_apart g 0 (bX11_apart_0 g J) := by
  unfold bX11_apart_0
  refine s_aload_n (pc := 0) (i := 0) ?_ dX11_apart_0 rfl
  refine s_iconst (pc := 1) (v := 0) ?_ dX11_apart_1 (by decide)
  refine s_putf (pc := 2) (ci := 10) (f := 0) (T := TX11) (ty0 := tyX11) ?_ ginX11 tyX11_ok nmX11 rfl (by decide) rfl rfl wt_1393 dX11_apart_2
  refine s_aload_n (pc := 5) (i := 0) ?_ dX11_apart_5 rfl
  refine s_aload_n (pc := 6) (i := 0) ?_ dX11_apart_6 rfl
  refine s_iload_n (pc := 7) (i := 1) ?_ dX11_apart_7 rfl
  refine s_cv (pc := 8) (n := 1) (ci := 10) ?_ tX11_isReading rfl rfl wt_1671 wt_1673 wp_68 wt_17 wt_1674 ⟨crX11_isReading, by decide, by decide⟩ dX11_apart_8
  refine s_ifeq (pc := 11) (tgt := 22) ?_ ?_ dX11_apart_11 (by decide)
  · skip
    exact s_fall (pc := 22) h1
  · skip
    refine s_aload_n (pc := 14) (i := 0) ?_ dX11_apart_14 rfl
    refine s_iload_n (pc := 15) (i := 2) ?_ dX11_apart_15 rfl
    refine s_cv (pc := 16) (n := 1) (ci := 10) ?_ tX11_isReading rfl rfl wt_1671 wt_1673 wp_68 wt_17 wt_1674 ⟨crX11_isReading, by decide, by decide⟩ dX11_apart_16
    refine s_ifne (pc := 19) (tgt := 26) ?_ ?_ dX11_apart_19 (by decide)
    · skip
      refine s_iconst (pc := 26) (v := 0) ?_ dX11_apart_26 (by decide)
      exact s_fall (pc := 27) h2
    · skip
      exact s_fall (pc := 22) h1
theorem sbX11_apart_1 (g : GE) (J : Nat → KT) (h1 : Snd mX11_apart g 22 (J 1)) (h2 : Snd mX11_apart g 27 (J 2)) : Snd mX11_apart g 22 (bX11_apart_1 g J) := by
  unfold bX11_apart_1
  refine s_iconst (pc := 22) (v := 1) ?_ dX11_apart_22 (by decide)
  exact s_goto (pc := 23) (tgt := 27) h2 dX11_apart_23 (by decide)
theorem sbX11_apart_2 (g : GE) (J : Nat → KT) (h1 : Snd mX11_apart g 22 (J 1)) (h2 : Snd mX11_apart g 27 (J 2)) : Snd mX11_apart g 27 (bX11_apart_2 g J) := by
  unfold bX11_apart_2
  refine s_iconst (pc := 27) (v := 1) ?_ dX11_apart_27 (by decide)
  refine s_iconst (pc := 28) (v := 0) ?_ dX11_apart_28 (by decide)
  refine s_cv (pc := 29) (n := 3) (ci := 10) ?_ tX11_bad rfl rfl wt_1560 wt_1562 wp_49 wt_17 wt_1563 ⟨crX11_bad, by decide, by decide⟩ dX11_apart_29
  refine s_ifeq (pc := 32) (tgt := 37) ?_ ?_ dX11_apart_32 (by decide)
  · skip
    refine s_aload_n (pc := 37) (i := 0) ?_ dX11_apart_37 rfl
    refine s_iload_n (pc := 38) (i := 1) ?_ dX11_apart_38 rfl
    refine s_iload_n (pc := 39) (i := 2) ?_ dX11_apart_39 rfl
    refine s_cv (pc := 40) (n := 2) (ci := 10) ?_ tX11_apartBy rfl rfl wt_1855 wt_1857 wp_87 wt_17 wt_1858 ⟨crX11_apartBy, by decide, by decide⟩ dX11_apart_40
    exact s_ireturn (pc := 43) rfl dX11_apart_43
  · skip
    refine s_iconst (pc := 35) (v := 0) ?_ dX11_apart_35 (by decide)
    exact s_ireturn (pc := 36) rfl dX11_apart_36
def jX11_apart (g : GE) : Nat → Nat → KT
  | 0, _ => fun _ _ _ => none
  | n + 1, 0 => bX11_apart_0 g (jX11_apart g n)
  | n + 1, 1 => bX11_apart_1 g (jX11_apart g n)
  | n + 1, 2 => bX11_apart_2 g (jX11_apart g n)
  | _ + 1, _ + 3 => fun _ _ _ => none
theorem sjX11_apart (g : GE) : ∀ n, Snd mX11_apart g 0 (jX11_apart g n 0) ∧ Snd mX11_apart g 22 (jX11_apart g n 1) ∧ Snd mX11_apart g 27 (jX11_apart g n 2)
  | 0 => ⟨s_none, s_none, s_none⟩
  | n + 1 => by
    obtain ⟨-, h1, h2⟩ := sjX11_apart g n
    exact ⟨sbX11_apart_0 g _ h1 h2, sbX11_apart_1 g _ h1 h2, sbX11_apart_2 g _ h1 h2⟩
def kX11_apart (g : GE) : KT := jX11_apart g g.1 0
theorem sX11_apart (g : GE) : Snd mX11_apart g 0 (kX11_apart g) := (sjX11_apart g g.1).1
def fX11_apart : FT := fun g av w => if (ent av).length ≤ 3 then kX11_apart g [] (entp 3 av) w else none
theorem tX11_apart : Mt yX11_apart cX11_apart 3 (some .int) 3 73 fX11_apart := Mt.of (K := kX11_apart) (by decide +kernel) (fun _ _ _ => rfl) sX11_apart
theorem crX11_apart : yX11_apart.cls ≠ "java/lang/invoke/MethodHandle" ∧ yX11_apart.cls ≠ "java/lang/invoke/VarHandle" ∧ (parseMethodDescriptor yX11_apart.desc).map (fun d => d.parameters.length) = some 2 := by decide +kernel
theorem dX11_asks_0 : decode cX11_asks 0 = .ok (.aload_n 0, 1) := by decide +kernel
theorem dX11_asks_1 : decode cX11_asks 1 = .ok (.iconst 0, 1) := by decide +kernel
theorem dX11_asks_2 : decode cX11_asks 2 = .ok (.putfield 237, 3) := by decide +kernel
theorem dX11_asks_5 : decode cX11_asks 5 = .ok (.iconst 0, 1) := by decide +kernel
theorem dX11_asks_6 : decode cX11_asks 6 = .ok (.istore_n 2, 1) := by decide +kernel
theorem dX11_asks_7 : decode cX11_asks 7 = .ok (.iload_n 2, 1) := by decide +kernel
theorem dX11_asks_8 : decode cX11_asks 8 = .ok (.iconst 4, 1) := by decide +kernel
theorem dX11_asks_9 : decode cX11_asks 9 = .ok (.if_icmp .ge 16, 3) := by decide +kernel
theorem dX11_asks_12 : decode cX11_asks 12 = .ok (.aload_n 0, 1) := by decide +kernel
theorem dX11_asks_13 : decode cX11_asks 13 = .ok (.getfield 98, 3) := by decide +kernel
theorem dX11_asks_16 : decode cX11_asks 16 = .ok (.iload_n 2, 1) := by decide +kernel
theorem dX11_asks_17 : decode cX11_asks 17 = .ok (.iconst 0, 1) := by decide +kernel
theorem dX11_asks_18 : decode cX11_asks 18 = .ok (.iastore, 1) := by decide +kernel
theorem dX11_asks_19 : decode cX11_asks 19 = .ok (.iinc 2 1, 3) := by decide +kernel
theorem dX11_asks_22 : decode cX11_asks 22 = .ok (.goto (-15), 3) := by decide +kernel
theorem dX11_asks_25 : decode cX11_asks 25 = .ok (.iconst 0, 1) := by decide +kernel
theorem dX11_asks_26 : decode cX11_asks 26 = .ok (.istore_n 2, 1) := by decide +kernel
theorem dX11_asks_27 : decode cX11_asks 27 = .ok (.iload_n 2, 1) := by decide +kernel
theorem dX11_asks_28 : decode cX11_asks 28 = .ok (.iconst 5, 1) := by decide +kernel
theorem dX11_asks_29 : decode cX11_asks 29 = .ok (.if_icmp .ge 16, 3) := by decide +kernel
theorem dX11_asks_32 : decode cX11_asks 32 = .ok (.aload_n 0, 1) := by decide +kernel
theorem dX11_asks_33 : decode cX11_asks 33 = .ok (.getfield 101, 3) := by decide +kernel
theorem dX11_asks_36 : decode cX11_asks 36 = .ok (.iload_n 2, 1) := by decide +kernel
theorem dX11_asks_37 : decode cX11_asks 37 = .ok (.iconst (-1), 1) := by decide +kernel
theorem dX11_asks_38 : decode cX11_asks 38 = .ok (.iastore, 1) := by decide +kernel
theorem dX11_asks_39 : decode cX11_asks 39 = .ok (.iinc 2 1, 3) := by decide +kernel
theorem dX11_asks_42 : decode cX11_asks 42 = .ok (.goto (-15), 3) := by decide +kernel
theorem dX11_asks_45 : decode cX11_asks 45 = .ok (.iconst 0, 1) := by decide +kernel
theorem dX11_asks_46 : decode cX11_asks 46 = .ok (.istore_n 2, 1) := by decide +kernel
theorem dX11_asks_47 : decode cX11_asks 47 = .ok (.iload_n 2, 1) := by decide +kernel
theorem dX11_asks_48 : decode cX11_asks 48 = .ok (.aload_n 0, 1) := by decide +kernel
theorem dX11_asks_49 : decode cX11_asks 49 = .ok (.getfield 23, 3) := by decide +kernel
theorem dX11_asks_52 : decode cX11_asks 52 = .ok (.iconst 2, 1) := by decide +kernel
theorem dX11_asks_53 : decode cX11_asks 53 = .ok (.iaload, 1) := by decide +kernel
theorem dX11_asks_54 : decode cX11_asks 54 = .ok (.if_icmp .ge 120, 3) := by decide +kernel
theorem dX11_asks_57 : decode cX11_asks 57 = .ok (.iload_n 2, 1) := by decide +kernel
theorem dX11_asks_58 : decode cX11_asks 58 = .ok (.iload_n 1, 1) := by decide +kernel
theorem dX11_asks_59 : decode cX11_asks 59 = .ok (.if_icmp .eq 109, 3) := by decide +kernel
theorem dX11_asks_62 : decode cX11_asks 62 = .ok (.aload_n 0, 1) := by decide +kernel
theorem dX11_asks_63 : decode cX11_asks 63 = .ok (.getfield 53, 3) := by decide +kernel
theorem dX11_asks_66 : decode cX11_asks 66 = .ok (.iload_n 2, 1) := by decide +kernel
theorem dX11_asks_67 : decode cX11_asks 67 = .ok (.aaload, 1) := by decide +kernel
theorem dX11_asks_68 : decode cX11_asks 68 = .ok (.iconst 0, 1) := by decide +kernel
theorem dX11_asks_69 : decode cX11_asks 69 = .ok (.iaload, 1) := by decide +kernel
theorem dX11_asks_70 : decode cX11_asks 70 = .ok (.iconst 1, 1) := by decide +kernel
theorem dX11_asks_71 : decode cX11_asks 71 = .ok (.if_icmp .eq 6, 3) := by decide +kernel
theorem dX11_asks_74 : decode cX11_asks 74 = .ok (.goto 94, 3) := by decide +kernel
theorem dX11_asks_77 : decode cX11_asks 77 = .ok (.aload_n 0, 1) := by decide +kernel
theorem dX11_asks_78 : decode cX11_asks 78 = .ok (.getfield 95, 3) := by decide +kernel
theorem dX11_asks_81 : decode cX11_asks 81 = .ok (.aload_n 0, 1) := by decide +kernel
theorem dX11_asks_82 : decode cX11_asks 82 = .ok (.getfield 53, 3) := by decide +kernel
theorem dX11_asks_85 : decode cX11_asks 85 = .ok (.iload_n 2, 1) := by decide +kernel
theorem dX11_asks_86 : decode cX11_asks 86 = .ok (.aaload, 1) := by decide +kernel
theorem dX11_asks_87 : decode cX11_asks 87 = .ok (.iconst 2, 1) := by decide +kernel
theorem dX11_asks_88 : decode cX11_asks 88 = .ok (.iaload, 1) := by decide +kernel
theorem dX11_asks_89 : decode cX11_asks 89 = .ok (.iaload, 1) := by decide +kernel
theorem dX11_asks_90 : decode cX11_asks 90 = .ok (.istore_n 3, 1) := by decide +kernel
theorem dX11_asks_91 : decode cX11_asks 91 = .ok (.aload_n 0, 1) := by decide +kernel
theorem dX11_asks_92 : decode cX11_asks 92 = .ok (.getfield 53, 3) := by decide +kernel
theorem dX11_asks_95 : decode cX11_asks 95 = .ok (.iload_n 2, 1) := by decide +kernel
theorem dX11_asks_96 : decode cX11_asks 96 = .ok (.aaload, 1) := by decide +kernel
theorem dX11_asks_97 : decode cX11_asks 97 = .ok (.iconst 1, 1) := by decide +kernel
theorem dX11_asks_98 : decode cX11_asks 98 = .ok (.iaload, 1) := by decide +kernel
theorem dX11_asks_99 : decode cX11_asks 99 = .ok (.istore 4, 2) := by decide +kernel
theorem dX11_asks_101 : decode cX11_asks 101 = .ok (.aload_n 0, 1) := by decide +kernel
theorem dX11_asks_102 : decode cX11_asks 102 = .ok (.aload_n 0, 1) := by decide +kernel
theorem dX11_asks_103 : decode cX11_asks 103 = .ok (.getfield 237, 3) := by decide +kernel
theorem dX11_asks_106 : decode cX11_asks 106 = .ok (.ifCond .ne 25, 3) := by decide +kernel
theorem dX11_asks_109 : decode cX11_asks 109 = .ok (.aload_n 0, 1) := by decide +kernel
theorem dX11_asks_110 : decode cX11_asks 110 = .ok (.getfield 101, 3) := by decide +kernel
theorem dX11_asks_113 : decode cX11_asks 113 = .ok (.iload 4, 2) := by decide +kernel
theorem dX11_asks_115 : decode cX11_asks 115 = .ok (.iaload, 1) := by decide +kernel
theorem dX11_asks_116 : decode cX11_asks 116 = .ok (.iconst (-1), 1) := by decide +kernel
theorem dX11_asks_117 : decode cX11_asks 117 = .ok (.if_icmp .eq 18, 3) := by decide +kernel
theorem dX11_asks_120 : decode cX11_asks 120 = .ok (.aload_n 0, 1) := by decide +kernel
theorem dX11_asks_121 : decode cX11_asks 121 = .ok (.getfield 101, 3) := by decide +kernel
theorem dX11_asks_124 : decode cX11_asks 124 = .ok (.iload 4, 2) := by decide +kernel
theorem dX11_asks_126 : decode cX11_asks 126 = .ok (.iaload, 1) := by decide +kernel
theorem dX11_asks_127 : decode cX11_asks 127 = .ok (.iload_n 3, 1) := by decide +kernel
theorem dX11_asks_128 : decode cX11_asks 128 = .ok (.if_icmp .eq 7, 3) := by decide +kernel
theorem dX11_asks_131 : decode cX11_asks 131 = .ok (.iconst 1, 1) := by decide +kernel
theorem dX11_asks_132 : decode cX11_asks 132 = .ok (.goto 4, 3) := by decide +kernel
theorem dX11_asks_135 : decode cX11_asks 135 = .ok (.iconst 0, 1) := by decide +kernel
theorem dX11_asks_136 : decode cX11_asks 136 = .ok (.putfield 237, 3) := by decide +kernel
theorem dX11_asks_139 : decode cX11_asks 139 = .ok (.aload_n 0, 1) := by decide +kernel
theorem dX11_asks_140 : decode cX11_asks 140 = .ok (.getfield 101, 3) := by decide +kernel
theorem dX11_asks_143 : decode cX11_asks 143 = .ok (.iload 4, 2) := by decide +kernel
theorem dX11_asks_145 : decode cX11_asks 145 = .ok (.aload_n 0, 1) := by decide +kernel
theorem dX11_asks_146 : decode cX11_asks 146 = .ok (.getfield 101, 3) := by decide +kernel
theorem dX11_asks_149 : decode cX11_asks 149 = .ok (.iload 4, 2) := by decide +kernel
theorem dX11_asks_151 : decode cX11_asks 151 = .ok (.iaload, 1) := by decide +kernel
theorem dX11_asks_152 : decode cX11_asks 152 = .ok (.iconst (-1), 1) := by decide +kernel
theorem dX11_asks_153 : decode cX11_asks 153 = .ok (.if_icmp .ne 7, 3) := by decide +kernel
theorem dX11_asks_156 : decode cX11_asks 156 = .ok (.iload_n 3, 1) := by decide +kernel
theorem dX11_asks_157 : decode cX11_asks 157 = .ok (.goto 10, 3) := by decide +kernel
theorem dX11_asks_160 : decode cX11_asks 160 = .ok (.aload_n 0, 1) := by decide +kernel
theorem dX11_asks_161 : decode cX11_asks 161 = .ok (.getfield 101, 3) := by decide +kernel
theorem dX11_asks_164 : decode cX11_asks 164 = .ok (.iload 4, 2) := by decide +kernel
theorem dX11_asks_166 : decode cX11_asks 166 = .ok (.iaload, 1) := by decide +kernel
theorem dX11_asks_167 : decode cX11_asks 167 = .ok (.iastore, 1) := by decide +kernel
theorem dX11_asks_168 : decode cX11_asks 168 = .ok (.iinc 2 1, 3) := by decide +kernel
theorem dX11_asks_171 : decode cX11_asks 171 = .ok (.goto (-124), 3) := by decide +kernel
theorem dX11_asks_174 : decode cX11_asks 174 = .ok (.iconst 0, 1) := by decide +kernel
theorem dX11_asks_175 : decode cX11_asks 175 = .ok (.istore_n 2, 1) := by decide +kernel
theorem dX11_asks_176 : decode cX11_asks 176 = .ok (.iload_n 2, 1) := by decide +kernel
theorem dX11_asks_177 : decode cX11_asks 177 = .ok (.aload_n 0, 1) := by decide +kernel
theorem dX11_asks_178 : decode cX11_asks 178 = .ok (.getfield 23, 3) := by decide +kernel
theorem dX11_asks_181 : decode cX11_asks 181 = .ok (.iconst 2, 1) := by decide +kernel
theorem dX11_asks_182 : decode cX11_asks 182 = .ok (.iaload, 1) := by decide +kernel
theorem dX11_asks_183 : decode cX11_asks 183 = .ok (.if_icmp .ge 141, 3) := by decide +kernel
theorem dX11_asks_186 : decode cX11_asks 186 = .ok (.aload_n 0, 1) := by decide +kernel
theorem dX11_asks_187 : decode cX11_asks 187 = .ok (.getfield 53, 3) := by decide +kernel
theorem dX11_asks_190 : decode cX11_asks 190 = .ok (.iload_n 2, 1) := by decide +kernel
theorem dX11_asks_191 : decode cX11_asks 191 = .ok (.aaload, 1) := by decide +kernel
theorem dX11_asks_192 : decode cX11_asks 192 = .ok (.iconst 2, 1) := by decide +kernel
theorem dX11_asks_193 : decode cX11_asks 193 = .ok (.iaload, 1) := by decide +kernel
theorem dX11_asks_194 : decode cX11_asks 194 = .ok (.istore_n 3, 1) := by decide +kernel
theorem dX11_asks_195 : decode cX11_asks 195 = .ok (.iload_n 2, 1) := by decide +kernel
theorem dX11_asks_196 : decode cX11_asks 196 = .ok (.iload_n 1, 1) := by decide +kernel
theorem dX11_asks_197 : decode cX11_asks 197 = .ok (.if_icmp .ne 6, 3) := by decide +kernel
theorem dX11_asks_200 : decode cX11_asks 200 = .ok (.goto 118, 3) := by decide +kernel
theorem dX11_asks_203 : decode cX11_asks 203 = .ok (.aload_n 0, 1) := by decide +kernel
theorem dX11_asks_204 : decode cX11_asks 204 = .ok (.getfield 53, 3) := by decide +kernel
theorem dX11_asks_207 : decode cX11_asks 207 = .ok (.iload_n 2, 1) := by decide +kernel
theorem dX11_asks_208 : decode cX11_asks 208 = .ok (.aaload, 1) := by decide +kernel
theorem dX11_asks_209 : decode cX11_asks 209 = .ok (.iconst 0, 1) := by decide +kernel
theorem dX11_asks_210 : decode cX11_asks 210 = .ok (.iaload, 1) := by decide +kernel
theorem dX11_asks_211 : decode cX11_asks 211 = .ok (.ifCond .ne 25, 3) := by decide +kernel
theorem dX11_asks_214 : decode cX11_asks 214 = .ok (.aload_n 0, 1) := by decide +kernel
theorem dX11_asks_215 : decode cX11_asks 215 = .ok (.getfield 98, 3) := by decide +kernel
theorem dX11_asks_218 : decode cX11_asks 218 = .ok (.aload_n 0, 1) := by decide +kernel
theorem dX11_asks_219 : decode cX11_asks 219 = .ok (.getfield 95, 3) := by decide +kernel
theorem dX11_asks_222 : decode cX11_asks 222 = .ok (.iload_n 3, 1) := by decide +kernel
theorem dX11_asks_223 : decode cX11_asks 223 = .ok (.iaload, 1) := by decide +kernel
theorem dX11_asks_224 : decode cX11_asks 224 = .ok (.dup2, 1) := by decide +kernel
theorem dX11_asks_225 : decode cX11_asks 225 = .ok (.iaload, 1) := by decide +kernel
theorem dX11_asks_226 : decode cX11_asks 226 = .ok (.aload_n 0, 1) := by decide +kernel
theorem dX11_asks_227 : decode cX11_asks 227 = .ok (.getfield 95, 3) := by decide +kernel
theorem dX11_asks_230 : decode cX11_asks 230 = .ok (.iload_n 3, 1) := by decide +kernel
theorem dX11_asks_231 : decode cX11_asks 231 = .ok (.iconst 1, 1) := by decide +kernel
theorem dX11_asks_232 : decode cX11_asks 232 = .ok (.iadd, 1) := by decide +kernel
theorem dX11_asks_233 : decode cX11_asks 233 = .ok (.iaload, 1) := by decide +kernel
theorem dX11_asks_234 : decode cX11_asks 234 = .ok (.iadd, 1) := by decide +kernel
theorem dX11_asks_235 : decode cX11_asks 235 = .ok (.iastore, 1) := by decide +kernel
theorem dX11_asks_236 : decode cX11_asks 236 = .ok (.aload_n 0, 1) := by decide +kernel
theorem dX11_asks_237 : decode cX11_asks 237 = .ok (.getfield 53, 3) := by decide +kernel
theorem dX11_asks_240 : decode cX11_asks 240 = .ok (.iload_n 2, 1) := by decide +kernel
theorem dX11_asks_241 : decode cX11_asks 241 = .ok (.aaload, 1) := by decide +kernel
theorem dX11_asks_242 : decode cX11_asks 242 = .ok (.iconst 0, 1) := by decide +kernel
theorem dX11_asks_243 : decode cX11_asks 243 = .ok (.iaload, 1) := by decide +kernel
theorem dX11_asks_244 : decode cX11_asks 244 = .ok (.iconst 2, 1) := by decide +kernel
theorem dX11_asks_245 : decode cX11_asks 245 = .ok (.if_icmp .ne 73, 3) := by decide +kernel
theorem dX11_asks_248 : decode cX11_asks 248 = .ok (.aload_n 0, 1) := by decide +kernel
theorem dX11_asks_249 : decode cX11_asks 249 = .ok (.getfield 101, 3) := by decide +kernel
theorem dX11_asks_252 : decode cX11_asks 252 = .ok (.aload_n 0, 1) := by decide +kernel
theorem dX11_asks_253 : decode cX11_asks 253 = .ok (.getfield 53, 3) := by decide +kernel
theorem dX11_asks_256 : decode cX11_asks 256 = .ok (.iload_n 2, 1) := by decide +kernel
theorem dX11_asks_257 : decode cX11_asks 257 = .ok (.aaload, 1) := by decide +kernel
theorem dX11_asks_258 : decode cX11_asks 258 = .ok (.iconst 1, 1) := by decide +kernel
theorem dX11_asks_259 : decode cX11_asks 259 = .ok (.iaload, 1) := by decide +kernel
theorem dX11_asks_260 : decode cX11_asks 260 = .ok (.iaload, 1) := by decide +kernel
theorem dX11_asks_261 : decode cX11_asks 261 = .ok (.aload_n 0, 1) := by decide +kernel
theorem dX11_asks_262 : decode cX11_asks 262 = .ok (.getfield 95, 3) := by decide +kernel
theorem dX11_asks_265 : decode cX11_asks 265 = .ok (.iload_n 3, 1) := by decide +kernel
theorem dX11_asks_266 : decode cX11_asks 266 = .ok (.iconst 1, 1) := by decide +kernel
theorem dX11_asks_267 : decode cX11_asks 267 = .ok (.iadd, 1) := by decide +kernel
theorem dX11_asks_268 : decode cX11_asks 268 = .ok (.iaload, 1) := by decide +kernel
theorem dX11_asks_269 : decode cX11_asks 269 = .ok (.if_icmp .ne 7, 3) := by decide +kernel
theorem dX11_asks_272 : decode cX11_asks 272 = .ok (.iconst 1, 1) := by decide +kernel
theorem dX11_asks_273 : decode cX11_asks 273 = .ok (.goto 4, 3) := by decide +kernel
theorem dX11_asks_276 : decode cX11_asks 276 = .ok (.iconst 0, 1) := by decide +kernel
theorem dX11_asks_277 : decode cX11_asks 277 = .ok (.aload_n 0, 1) := by decide +kernel
theorem dX11_asks_278 : decode cX11_asks 278 = .ok (.getfield 95, 3) := by decide +kernel
theorem dX11_asks_281 : decode cX11_asks 281 = .ok (.iload_n 3, 1) := by decide +kernel
theorem dX11_asks_282 : decode cX11_asks 282 = .ok (.iaload, 1) := by decide +kernel
theorem dX11_asks_283 : decode cX11_asks 283 = .ok (.ifCond .ne 7, 3) := by decide +kernel
theorem dX11_asks_286 : decode cX11_asks 286 = .ok (.iconst 1, 1) := by decide +kernel
theorem dX11_asks_287 : decode cX11_asks 287 = .ok (.goto 4, 3) := by decide +kernel
theorem dX11_asks_290 : decode cX11_asks 290 = .ok (.iconst 0, 1) := by decide +kernel
theorem dX11_asks_291 : decode cX11_asks 291 = .ok (.if_icmp .ne 27, 3) := by decide +kernel
theorem dX11_asks_294 : decode cX11_asks 294 = .ok (.aload_n 0, 1) := by decide +kernel
theorem dX11_asks_295 : decode cX11_asks 295 = .ok (.getfield 98, 3) := by decide +kernel
theorem dX11_asks_298 : decode cX11_asks 298 = .ok (.aload_n 0, 1) := by decide +kernel
theorem dX11_asks_299 : decode cX11_asks 299 = .ok (.getfield 95, 3) := by decide +kernel
theorem dX11_asks_302 : decode cX11_asks 302 = .ok (.iload_n 3, 1) := by decide +kernel
theorem dX11_asks_303 : decode cX11_asks 303 = .ok (.iconst 2, 1) := by decide +kernel
theorem dX11_asks_304 : decode cX11_asks 304 = .ok (.iadd, 1) := by decide +kernel
theorem dX11_asks_305 : decode cX11_asks 305 = .ok (.iaload, 1) := by decide +kernel
theorem dX11_asks_306 : decode cX11_asks 306 = .ok (.dup2, 1) := by decide +kernel
theorem dX11_asks_307 : decode cX11_asks 307 = .ok (.iaload, 1) := by decide +kernel
theorem dX11_asks_308 : decode cX11_asks 308 = .ok (.aload_n 0, 1) := by decide +kernel
theorem dX11_asks_309 : decode cX11_asks 309 = .ok (.getfield 95, 3) := by decide +kernel
theorem dX11_asks_312 : decode cX11_asks 312 = .ok (.iload_n 3, 1) := by decide +kernel
theorem dX11_asks_313 : decode cX11_asks 313 = .ok (.iconst 3, 1) := by decide +kernel
theorem dX11_asks_314 : decode cX11_asks 314 = .ok (.iadd, 1) := by decide +kernel
theorem dX11_asks_315 : decode cX11_asks 315 = .ok (.iaload, 1) := by decide +kernel
theorem dX11_asks_316 : decode cX11_asks 316 = .ok (.iadd, 1) := by decide +kernel
theorem dX11_asks_317 : decode cX11_asks 317 = .ok (.iastore, 1) := by decide +kernel
theorem dX11_asks_318 : decode cX11_asks 318 = .ok (.iinc 2 1, 3) := by decide +kernel
theorem dX11_asks_321 : decode cX11_asks 321 = .ok (.goto (-145), 3) := by decide +kernel
theorem dX11_asks_324 : decode cX11_asks 324 = .ok (.return_, 1) := by decide +kernel
abbrev mX11_asks : MD := (cX11_asks, "BlottedDeedModel", 5, 1, 30, none, "asks", [])
def bX11_asks_0 (g : GE) (J : Nat → KT) : KT := i_aload 0 (i_push (.int 0) (i_putf 10 42 .boolean (i_push (.int 0) (i_istore 2 (i_jmp [true, true, true, false, false] (J 1))))))
def bX11_asks_1 (g : GE) (J : Nat → KT) : KT := i_iload 2 (i_push (.int 4) (i_icge (i_push (.int 0) (i_istore 2 (i_jmp [true, true, true, false, false] (J 2)))) (i_aload 0 (i_getf 10 40 (i_iload 2 (i_push (.int 0) (i_iastore (i_iinc 2 1 (i_jmp [true, true, true, false, false] (J 1))))))))))
def bX11_asks_2 (g : GE) (J : Nat → KT) : KT := i_iload 2 (i_push (.int 5) (i_icge (i_push (.int 0) (i_istore 2 (i_jmp [true, true, true, false, false] (J 3)))) (i_aload 0 (i_getf 10 41 (i_iload 2 (i_push (.int (-1)) (i_iastore (i_iinc 2 1 (i_jmp [true, true, true, false, false] (J 2))))))))))
def bX11_asks_3 (g : GE) (J : Nat → KT) : KT := i_iload 2 (i_aload 0 (i_getf 10 11 (i_push (.int 2) (i_iaload (i_icge (i_push (.int 0) (i_istore 2 (i_jmp [true, true, true, false, false] (J 9)))) (i_iload 2 (i_iload 1 (i_iceq (i_jmp [true, true, true, false, false] (J 8)) (i_aload 0 (i_getf 10 20 (i_iload 2 (i_aaload 4 (i_push (.int 0) (i_iaload (i_push (.int 1) (i_iceq (i_aload 0 (i_getf 10 39 (i_aload 0 (i_getf 10 20 (i_iload 2 (i_aaload 4 (i_push (.int 2) (i_iaload (i_iaload (i_istore 3 (i_aload 0 (i_getf 10 20 (i_iload 2 (i_aaload 4 (i_push (.int 1) (i_iaload (i_istore 4 (i_aload 0 (i_aload 0 (i_getf 10 42 (i_ifne (i_jmp [true, true, true, true, true] (J 4)) (i_aload 0 (i_getf 10 41 (i_iload 4 (i_iaload (i_push (.int (-1)) (i_iceq (i_jmp [true, true, true, true, true] (J 5)) (i_aload 0 (i_getf 10 41 (i_iload 4 (i_iaload (i_iload 3 (i_iceq (i_jmp [true, true, true, true, true] (J 5)) (i_jmp [true, true, true, true, true] (J 4))))))))))))))))))))))))))))))))))) (i_jmp [true, true, true, false, false] (J 8))))))))))))))))))
def bX11_asks_4 (g : GE) (J : Nat → KT) : KT := i_push (.int 1) (i_jmp [true, true, true, true, true] (J 6))
def bX11_asks_5 (g : GE) (J : Nat → KT) : KT := i_push (.int 0) (i_jmp [true, true, true, true, true] (J 6))
def bX11_asks_6 (g : GE) (J : Nat → KT) : KT := i_putf 10 42 .boolean (i_aload 0 (i_getf 10 41 (i_iload 4 (i_aload 0 (i_getf 10 41 (i_iload 4 (i_iaload (i_push (.int (-1)) (i_icne (i_aload 0 (i_getf 10 41 (i_iload 4 (i_iaload (i_jmp [true, true, true, false, false] (J 7)))))) (i_iload 3 (i_jmp [true, true, true, false, false] (J 7))))))))))))
def bX11_asks_7 (g : GE) (J : Nat → KT) : KT := i_iastore (i_jmp [true, true, true, false, false] (J 8))
def bX11_asks_8 (g : GE) (J : Nat → KT) : KT := i_iinc 2 1 (i_jmp [true, true, true, false, false] (J 3))
def bX11_asks_9 (g : GE) (J : Nat → KT) : KT := i_iload 2 (i_aload 0 (i_getf 10 11 (i_push (.int 2) (i_iaload (i_icge (i_return) (i_aload 0 (i_getf 10 20 (i_iload 2 (i_aaload 4 (i_push (.int 2) (i_iaload (i_istore 3 (i_iload 2 (i_iload 1 (i_icne (i_aload 0 (i_getf 10 20 (i_iload 2 (i_aaload 4 (i_push (.int 0) (i_iaload (i_ifne (i_jmp [true, true, true, true, false] (J 10)) (i_aload 0 (i_getf 10 40 (i_aload 0 (i_getf 10 39 (i_iload 3 (i_iaload (i_dup2 (i_iaload (i_aload 0 (i_getf 10 39 (i_iload 3 (i_push (.int 1) (i_iadd (i_iaload (i_iadd (i_iastore (i_jmp [true, true, true, true, false] (J 10))))))))))))))))))))))))) (i_jmp [true, true, true, false, false] (J 13)))))))))))))))))
def bX11_asks_10 (g : GE) (J : Nat → KT) : KT := i_aload 0 (i_getf 10 20 (i_iload 2 (i_aaload 4 (i_push (.int 0) (i_iaload (i_push (.int 2) (i_icne (i_jmp [true, true, true, false, false] (J 13)) (i_aload 0 (i_getf 10 41 (i_aload 0 (i_getf 10 20 (i_iload 2 (i_aaload 4 (i_push (.int 1) (i_iaload (i_iaload (i_aload 0 (i_getf 10 39 (i_iload 3 (i_push (.int 1) (i_iadd (i_iaload (i_icne (i_push (.int 0) (i_jmp [true, true, true, true, false] (J 11))) (i_push (.int 1) (i_jmp [true, true, true, true, false] (J 11))))))))))))))))))))))))))
def bX11_asks_11 (g : GE) (J : Nat → KT) : KT := i_aload 0 (i_getf 10 39 (i_iload 3 (i_iaload (i_ifne (i_push (.int 0) (i_jmp [true, true, true, true, false] (J 12))) (i_push (.int 1) (i_jmp [true, true, true, true, false] (J 12)))))))
def bX11_asks_12 (g : GE) (J : Nat → KT) : KT := i_icne (i_jmp [true, true, true, false, false] (J 13)) (i_aload 0 (i_getf 10 40 (i_aload 0 (i_getf 10 39 (i_iload 3 (i_push (.int 2) (i_iadd (i_iaload (i_dup2 (i_iaload (i_aload 0 (i_getf 10 39 (i_iload 3 (i_push (.int 3) (i_iadd (i_iaload (i_iadd (i_iastore (i_jmp [true, true, true, false, false] (J 13))))))))))))))))))))
def bX11_asks_13 (g : GE) (J : Nat → KT) : KT := i_iinc 2 1 (i_jmp [true, true, true, false, false] (J 9))
theorem sbX11_asks_0 (g : GE) (J : Nat → KT) (h1 : Snd mX11_asks g 7 (J 1)) (h2 : Snd mX11_asks g 27 (J 2)) (h3 : Snd mX11_asks g 47 (J 3)) (h4 : Snd mX11_asks g 131 (J 4)) (h5 : Snd mX11_asks g 135 (J 5)) (h6 : Snd mX11_asks g 136 (J 6)) (h7 : Snd mX11_asks g 167 (J 7)) (h8 : Snd mX11_asks g 168 (J 8)) (h9 : Snd mX11_asks g 176 (J 9)) (h10 : Snd mX11_asks g 236 (J 10)) (h11 : Snd mX11_asks g 277 (J 11)) (h12 : Snd mX11_asks g 291 (J 12)) (h13 : Snd mX11_asks g 318 (J 13)) : Snd mX11_asks g 0 (bX11_asks_0 g J) := by
  unfold bX11_asks_0
  refine s_aload_n (pc := 0) (i := 0) ?_ dX11_asks_0 rfl
  refine s_iconst (pc := 1) (v := 0) ?_ dX11_asks_1 (by decide)
  refine s_putf (pc := 2) (ci := 10) (f := 42) (T := TX11) (ty0 := tyX11) ?_ ginX11 tyX11_ok nmX11 rfl (by decide) rfl rfl wt_1435 dX11_asks_2
  refine s_iconst (pc := 5) (v := 0) ?_ dX11_asks_5 (by decide)
  refine s_istore_n (pc := 6) (i := 2) ?_ dX11_asks_6 rfl (by decide)
  exact s_fall (pc := 7) h1
theorem sbX11_asks_1 (g : GE) (J : Nat → KT) (h1 : Snd mX11_asks g 7 (J 1)) (h2 : Snd mX11_asks g 27 (J 2)) (h3 : Snd mX11_asks g 47 (J 3)) (h4 : Snd mX11_asks g 131 (J 4)) (h5 : Snd mX11_asks g 135 (J 5)) (h6 : Snd mX11_asks g 136 (J 6)) (h7 : Snd mX11_asks g 167 (J 7)) (h8 : Snd mX11_asks g 168 (J 8)) (h9 : Snd mX11_asks g 176 (J 9)) (h10 : Snd mX11_asks g 236 (J 10)) (h11 : Snd mX11_asks g 277 (J 11)) (h12 : Snd mX11_asks g 291 (J 12)) (h13 : Snd mX11_asks g 318 (J 13)) : Snd mX11_asks g 7 (bX11_asks_1 g J) := by
  unfold bX11_asks_1
  refine s_iload_n (pc := 7) (i := 2) ?_ dX11_asks_7 rfl
  refine s_iconst (pc := 8) (v := 4) ?_ dX11_asks_8 (by decide)
  refine s_icge (pc := 9) (tgt := 25) ?_ ?_ dX11_asks_9 (by decide)
  · skip
    refine s_iconst (pc := 25) (v := 0) ?_ dX11_asks_25 (by decide)
    refine s_istore_n (pc := 26) (i := 2) ?_ dX11_asks_26 rfl (by decide)
    exact s_fall (pc := 27) h2
  · skip
    refine s_aload_n (pc := 12) (i := 0) ?_ dX11_asks_12 rfl
    refine s_getf (pc := 13) (ci := 10) (f := 40) (T := TX11) ?_ ginX11 rfl (by decide) wt_1433 dX11_asks_13
    refine s_iload_n (pc := 16) (i := 2) ?_ dX11_asks_16 rfl
    refine s_iconst (pc := 17) (v := 0) ?_ dX11_asks_17 (by decide)
    refine s_iastore (pc := 18) ?_ dX11_asks_18
    refine s_iinc (pc := 19) (i := 2) (v := 1) ?_ dX11_asks_19 (by decide) (by decide)
    exact s_goto (pc := 22) (tgt := 7) h1 dX11_asks_22 (by decide)
theorem sbX11_asks_2 (g : GE) (J : Nat → KT) (h1 : Snd mX11_asks g 7 (J 1)) (h2 : Snd mX11_asks g 27 (J 2)) (h3 : Snd mX11_asks g 47 (J 3)) (h4 : Snd mX11_asks g 131 (J 4)) (h5 : Snd mX11_asks g 135 (J 5)) (h6 : Snd mX11_asks g 136 (J 6)) (h7 : Snd mX11_asks g 167 (J 7)) (h8 : Snd mX11_asks g 168 (J 8)) (h9 : Snd mX11_asks g 176 (J 9)) (h10 : Snd mX11_asks g 236 (J 10)) (h11 : Snd mX11_asks g 277 (J 11)) (h12 : Snd mX11_asks g 291 (J 12)) (h13 : Snd mX11_asks g 318 (J 13)) : Snd mX11_asks g 27 (bX11_asks_2 g J) := by
  unfold bX11_asks_2
  refine s_iload_n (pc := 27) (i := 2) ?_ dX11_asks_27 rfl
  refine s_iconst (pc := 28) (v := 5) ?_ dX11_asks_28 (by decide)
  refine s_icge (pc := 29) (tgt := 45) ?_ ?_ dX11_asks_29 (by decide)
  · skip
    refine s_iconst (pc := 45) (v := 0) ?_ dX11_asks_45 (by decide)
    refine s_istore_n (pc := 46) (i := 2) ?_ dX11_asks_46 rfl (by decide)
    exact s_fall (pc := 47) h3
  · skip
    refine s_aload_n (pc := 32) (i := 0) ?_ dX11_asks_32 rfl
    refine s_getf (pc := 33) (ci := 10) (f := 41) (T := TX11) ?_ ginX11 rfl (by decide) wt_1434 dX11_asks_33
    refine s_iload_n (pc := 36) (i := 2) ?_ dX11_asks_36 rfl
    refine s_iconst (pc := 37) (v := (-1)) ?_ dX11_asks_37 (by decide)
    refine s_iastore (pc := 38) ?_ dX11_asks_38
    refine s_iinc (pc := 39) (i := 2) (v := 1) ?_ dX11_asks_39 (by decide) (by decide)
    exact s_goto (pc := 42) (tgt := 27) h2 dX11_asks_42 (by decide)
theorem sbX11_asks_3 (g : GE) (J : Nat → KT) (h1 : Snd mX11_asks g 7 (J 1)) (h2 : Snd mX11_asks g 27 (J 2)) (h3 : Snd mX11_asks g 47 (J 3)) (h4 : Snd mX11_asks g 131 (J 4)) (h5 : Snd mX11_asks g 135 (J 5)) (h6 : Snd mX11_asks g 136 (J 6)) (h7 : Snd mX11_asks g 167 (J 7)) (h8 : Snd mX11_asks g 168 (J 8)) (h9 : Snd mX11_asks g 176 (J 9)) (h10 : Snd mX11_asks g 236 (J 10)) (h11 : Snd mX11_asks g 277 (J 11)) (h12 : Snd mX11_asks g 291 (J 12)) (h13 : Snd mX11_asks g 318 (J 13)) : Snd mX11_asks g 47 (bX11_asks_3 g J) := by
  unfold bX11_asks_3
  refine s_iload_n (pc := 47) (i := 2) ?_ dX11_asks_47 rfl
  refine s_aload_n (pc := 48) (i := 0) ?_ dX11_asks_48 rfl
  refine s_getf (pc := 49) (ci := 10) (f := 11) (T := TX11) ?_ ginX11 rfl (by decide) wt_1404 dX11_asks_49
  refine s_iconst (pc := 52) (v := 2) ?_ dX11_asks_52 (by decide)
  refine s_iaload (pc := 53) ?_ dX11_asks_53
  refine s_icge (pc := 54) (tgt := 174) ?_ ?_ dX11_asks_54 (by decide)
  · skip
    refine s_iconst (pc := 174) (v := 0) ?_ dX11_asks_174 (by decide)
    refine s_istore_n (pc := 175) (i := 2) ?_ dX11_asks_175 rfl (by decide)
    exact s_fall (pc := 176) h9
  · skip
    refine s_iload_n (pc := 57) (i := 2) ?_ dX11_asks_57 rfl
    refine s_iload_n (pc := 58) (i := 1) ?_ dX11_asks_58 rfl
    refine s_iceq (pc := 59) (tgt := 168) ?_ ?_ dX11_asks_59 (by decide)
    · skip
      exact s_fall (pc := 168) h8
    · skip
      refine s_aload_n (pc := 62) (i := 0) ?_ dX11_asks_62 rfl
      refine s_getf (pc := 63) (ci := 10) (f := 20) (T := TX11) ?_ ginX11 rfl (by decide) wt_1413 dX11_asks_63
      refine s_iload_n (pc := 66) (i := 2) ?_ dX11_asks_66 rfl
      refine s_aaload (pc := 67) (t := 4) ?_ (by decide) rfl dX11_asks_67
      refine s_iconst (pc := 68) (v := 0) ?_ dX11_asks_68 (by decide)
      refine s_iaload (pc := 69) ?_ dX11_asks_69
      refine s_iconst (pc := 70) (v := 1) ?_ dX11_asks_70 (by decide)
      refine s_iceq (pc := 71) (tgt := 77) ?_ ?_ dX11_asks_71 (by decide)
      · skip
        refine s_aload_n (pc := 77) (i := 0) ?_ dX11_asks_77 rfl
        refine s_getf (pc := 78) (ci := 10) (f := 39) (T := TX11) ?_ ginX11 rfl (by decide) wt_1432 dX11_asks_78
        refine s_aload_n (pc := 81) (i := 0) ?_ dX11_asks_81 rfl
        refine s_getf (pc := 82) (ci := 10) (f := 20) (T := TX11) ?_ ginX11 rfl (by decide) wt_1413 dX11_asks_82
        refine s_iload_n (pc := 85) (i := 2) ?_ dX11_asks_85 rfl
        refine s_aaload (pc := 86) (t := 4) ?_ (by decide) rfl dX11_asks_86
        refine s_iconst (pc := 87) (v := 2) ?_ dX11_asks_87 (by decide)
        refine s_iaload (pc := 88) ?_ dX11_asks_88
        refine s_iaload (pc := 89) ?_ dX11_asks_89
        refine s_istore_n (pc := 90) (i := 3) ?_ dX11_asks_90 rfl (by decide)
        refine s_aload_n (pc := 91) (i := 0) ?_ dX11_asks_91 rfl
        refine s_getf (pc := 92) (ci := 10) (f := 20) (T := TX11) ?_ ginX11 rfl (by decide) wt_1413 dX11_asks_92
        refine s_iload_n (pc := 95) (i := 2) ?_ dX11_asks_95 rfl
        refine s_aaload (pc := 96) (t := 4) ?_ (by decide) rfl dX11_asks_96
        refine s_iconst (pc := 97) (v := 1) ?_ dX11_asks_97 (by decide)
        refine s_iaload (pc := 98) ?_ dX11_asks_98
        refine s_istore (pc := 99) (i := 4) ?_ dX11_asks_99 (by decide)
        refine s_aload_n (pc := 101) (i := 0) ?_ dX11_asks_101 rfl
        refine s_aload_n (pc := 102) (i := 0) ?_ dX11_asks_102 rfl
        refine s_getf (pc := 103) (ci := 10) (f := 42) (T := TX11) ?_ ginX11 rfl (by decide) wt_1435 dX11_asks_103
        refine s_ifne (pc := 106) (tgt := 131) ?_ ?_ dX11_asks_106 (by decide)
        · skip
          exact s_fall (pc := 131) h4
        · skip
          refine s_aload_n (pc := 109) (i := 0) ?_ dX11_asks_109 rfl
          refine s_getf (pc := 110) (ci := 10) (f := 41) (T := TX11) ?_ ginX11 rfl (by decide) wt_1434 dX11_asks_110
          refine s_iload (pc := 113) (i := 4) ?_ dX11_asks_113
          refine s_iaload (pc := 115) ?_ dX11_asks_115
          refine s_iconst (pc := 116) (v := (-1)) ?_ dX11_asks_116 (by decide)
          refine s_iceq (pc := 117) (tgt := 135) ?_ ?_ dX11_asks_117 (by decide)
          · skip
            exact s_fall (pc := 135) h5
          · skip
            refine s_aload_n (pc := 120) (i := 0) ?_ dX11_asks_120 rfl
            refine s_getf (pc := 121) (ci := 10) (f := 41) (T := TX11) ?_ ginX11 rfl (by decide) wt_1434 dX11_asks_121
            refine s_iload (pc := 124) (i := 4) ?_ dX11_asks_124
            refine s_iaload (pc := 126) ?_ dX11_asks_126
            refine s_iload_n (pc := 127) (i := 3) ?_ dX11_asks_127 rfl
            refine s_iceq (pc := 128) (tgt := 135) ?_ ?_ dX11_asks_128 (by decide)
            · skip
              exact s_fall (pc := 135) h5
            · skip
              exact s_fall (pc := 131) h4
      · skip
        exact s_goto (pc := 74) (tgt := 168) h8 dX11_asks_74 (by decide)
theorem sbX11_asks_4 (g : GE) (J : Nat → KT) (h1 : Snd mX11_asks g 7 (J 1)) (h2 : Snd mX11_asks g 27 (J 2)) (h3 : Snd mX11_asks g 47 (J 3)) (h4 : Snd mX11_asks g 131 (J 4)) (h5 : Snd mX11_asks g 135 (J 5)) (h6 : Snd mX11_asks g 136 (J 6)) (h7 : Snd mX11_asks g 167 (J 7)) (h8 : Snd mX11_asks g 168 (J 8)) (h9 : Snd mX11_asks g 176 (J 9)) (h10 : Snd mX11_asks g 236 (J 10)) (h11 : Snd mX11_asks g 277 (J 11)) (h12 : Snd mX11_asks g 291 (J 12)) (h13 : Snd mX11_asks g 318 (J 13)) : Snd mX11_asks g 131 (bX11_asks_4 g J) := by
  unfold bX11_asks_4
  refine s_iconst (pc := 131) (v := 1) ?_ dX11_asks_131 (by decide)
  exact s_goto (pc := 132) (tgt := 136) h6 dX11_asks_132 (by decide)
theorem sbX11_asks_5 (g : GE) (J : Nat → KT) (h1 : Snd mX11_asks g 7 (J 1)) (h2 : Snd mX11_asks g 27 (J 2)) (h3 : Snd mX11_asks g 47 (J 3)) (h4 : Snd mX11_asks g 131 (J 4)) (h5 : Snd mX11_asks g 135 (J 5)) (h6 : Snd mX11_asks g 136 (J 6)) (h7 : Snd mX11_asks g 167 (J 7)) (h8 : Snd mX11_asks g 168 (J 8)) (h9 : Snd mX11_asks g 176 (J 9)) (h10 : Snd mX11_asks g 236 (J 10)) (h11 : Snd mX11_asks g 277 (J 11)) (h12 : Snd mX11_asks g 291 (J 12)) (h13 : Snd mX11_asks g 318 (J 13)) : Snd mX11_asks g 135 (bX11_asks_5 g J) := by
  unfold bX11_asks_5
  refine s_iconst (pc := 135) (v := 0) ?_ dX11_asks_135 (by decide)
  exact s_fall (pc := 136) h6
theorem sbX11_asks_6 (g : GE) (J : Nat → KT) (h1 : Snd mX11_asks g 7 (J 1)) (h2 : Snd mX11_asks g 27 (J 2)) (h3 : Snd mX11_asks g 47 (J 3)) (h4 : Snd mX11_asks g 131 (J 4)) (h5 : Snd mX11_asks g 135 (J 5)) (h6 : Snd mX11_asks g 136 (J 6)) (h7 : Snd mX11_asks g 167 (J 7)) (h8 : Snd mX11_asks g 168 (J 8)) (h9 : Snd mX11_asks g 176 (J 9)) (h10 : Snd mX11_asks g 236 (J 10)) (h11 : Snd mX11_asks g 277 (J 11)) (h12 : Snd mX11_asks g 291 (J 12)) (h13 : Snd mX11_asks g 318 (J 13)) : Snd mX11_asks g 136 (bX11_asks_6 g J) := by
  unfold bX11_asks_6
  refine s_putf (pc := 136) (ci := 10) (f := 42) (T := TX11) (ty0 := tyX11) ?_ ginX11 tyX11_ok nmX11 rfl (by decide) rfl rfl wt_1435 dX11_asks_136
  refine s_aload_n (pc := 139) (i := 0) ?_ dX11_asks_139 rfl
  refine s_getf (pc := 140) (ci := 10) (f := 41) (T := TX11) ?_ ginX11 rfl (by decide) wt_1434 dX11_asks_140
  refine s_iload (pc := 143) (i := 4) ?_ dX11_asks_143
  refine s_aload_n (pc := 145) (i := 0) ?_ dX11_asks_145 rfl
  refine s_getf (pc := 146) (ci := 10) (f := 41) (T := TX11) ?_ ginX11 rfl (by decide) wt_1434 dX11_asks_146
  refine s_iload (pc := 149) (i := 4) ?_ dX11_asks_149
  refine s_iaload (pc := 151) ?_ dX11_asks_151
  refine s_iconst (pc := 152) (v := (-1)) ?_ dX11_asks_152 (by decide)
  refine s_icne (pc := 153) (tgt := 160) ?_ ?_ dX11_asks_153 (by decide)
  · skip
    refine s_aload_n (pc := 160) (i := 0) ?_ dX11_asks_160 rfl
    refine s_getf (pc := 161) (ci := 10) (f := 41) (T := TX11) ?_ ginX11 rfl (by decide) wt_1434 dX11_asks_161
    refine s_iload (pc := 164) (i := 4) ?_ dX11_asks_164
    refine s_iaload (pc := 166) ?_ dX11_asks_166
    exact s_fall (pc := 167) h7
  · skip
    refine s_iload_n (pc := 156) (i := 3) ?_ dX11_asks_156 rfl
    exact s_goto (pc := 157) (tgt := 167) h7 dX11_asks_157 (by decide)
theorem sbX11_asks_7 (g : GE) (J : Nat → KT) (h1 : Snd mX11_asks g 7 (J 1)) (h2 : Snd mX11_asks g 27 (J 2)) (h3 : Snd mX11_asks g 47 (J 3)) (h4 : Snd mX11_asks g 131 (J 4)) (h5 : Snd mX11_asks g 135 (J 5)) (h6 : Snd mX11_asks g 136 (J 6)) (h7 : Snd mX11_asks g 167 (J 7)) (h8 : Snd mX11_asks g 168 (J 8)) (h9 : Snd mX11_asks g 176 (J 9)) (h10 : Snd mX11_asks g 236 (J 10)) (h11 : Snd mX11_asks g 277 (J 11)) (h12 : Snd mX11_asks g 291 (J 12)) (h13 : Snd mX11_asks g 318 (J 13)) : Snd mX11_asks g 167 (bX11_asks_7 g J) := by
  unfold bX11_asks_7
  refine s_iastore (pc := 167) ?_ dX11_asks_167
  exact s_fall (pc := 168) h8
theorem sbX11_asks_8 (g : GE) (J : Nat → KT) (h1 : Snd mX11_asks g 7 (J 1)) (h2 : Snd mX11_asks g 27 (J 2)) (h3 : Snd mX11_asks g 47 (J 3)) (h4 : Snd mX11_asks g 131 (J 4)) (h5 : Snd mX11_asks g 135 (J 5)) (h6 : Snd mX11_asks g 136 (J 6)) (h7 : Snd mX11_asks g 167 (J 7)) (h8 : Snd mX11_asks g 168 (J 8)) (h9 : Snd mX11_asks g 176 (J 9)) (h10 : Snd mX11_asks g 236 (J 10)) (h11 : Snd mX11_asks g 277 (J 11)) (h12 : Snd mX11_asks g 291 (J 12)) (h13 : Snd mX11_asks g 318 (J 13)) : Snd mX11_asks g 168 (bX11_asks_8 g J) := by
  unfold bX11_asks_8
  refine s_iinc (pc := 168) (i := 2) (v := 1) ?_ dX11_asks_168 (by decide) (by decide)
  exact s_goto (pc := 171) (tgt := 47) h3 dX11_asks_171 (by decide)
theorem sbX11_asks_9 (g : GE) (J : Nat → KT) (h1 : Snd mX11_asks g 7 (J 1)) (h2 : Snd mX11_asks g 27 (J 2)) (h3 : Snd mX11_asks g 47 (J 3)) (h4 : Snd mX11_asks g 131 (J 4)) (h5 : Snd mX11_asks g 135 (J 5)) (h6 : Snd mX11_asks g 136 (J 6)) (h7 : Snd mX11_asks g 167 (J 7)) (h8 : Snd mX11_asks g 168 (J 8)) (h9 : Snd mX11_asks g 176 (J 9)) (h10 : Snd mX11_asks g 236 (J 10)) (h11 : Snd mX11_asks g 277 (J 11)) (h12 : Snd mX11_asks g 291 (J 12)) (h13 : Snd mX11_asks g 318 (J 13)) : Snd mX11_asks g 176 (bX11_asks_9 g J) := by
  unfold bX11_asks_9
  refine s_iload_n (pc := 176) (i := 2) ?_ dX11_asks_176 rfl
  refine s_aload_n (pc := 177) (i := 0) ?_ dX11_asks_177 rfl
  refine s_getf (pc := 178) (ci := 10) (f := 11) (T := TX11) ?_ ginX11 rfl (by decide) wt_1404 dX11_asks_178
  refine s_iconst (pc := 181) (v := 2) ?_ dX11_asks_181 (by decide)
  refine s_iaload (pc := 182) ?_ dX11_asks_182
  refine s_icge (pc := 183) (tgt := 324) ?_ ?_ dX11_asks_183 (by decide)
  · skip
    exact s_return (pc := 324) rfl dX11_asks_324
  · skip
    refine s_aload_n (pc := 186) (i := 0) ?_ dX11_asks_186 rfl
    refine s_getf (pc := 187) (ci := 10) (f := 20) (T := TX11) ?_ ginX11 rfl (by decide) wt_1413 dX11_asks_187
    refine s_iload_n (pc := 190) (i := 2) ?_ dX11_asks_190 rfl
    refine s_aaload (pc := 191) (t := 4) ?_ (by decide) rfl dX11_asks_191
    refine s_iconst (pc := 192) (v := 2) ?_ dX11_asks_192 (by decide)
    refine s_iaload (pc := 193) ?_ dX11_asks_193
    refine s_istore_n (pc := 194) (i := 3) ?_ dX11_asks_194 rfl (by decide)
    refine s_iload_n (pc := 195) (i := 2) ?_ dX11_asks_195 rfl
    refine s_iload_n (pc := 196) (i := 1) ?_ dX11_asks_196 rfl
    refine s_icne (pc := 197) (tgt := 203) ?_ ?_ dX11_asks_197 (by decide)
    · skip
      refine s_aload_n (pc := 203) (i := 0) ?_ dX11_asks_203 rfl
      refine s_getf (pc := 204) (ci := 10) (f := 20) (T := TX11) ?_ ginX11 rfl (by decide) wt_1413 dX11_asks_204
      refine s_iload_n (pc := 207) (i := 2) ?_ dX11_asks_207 rfl
      refine s_aaload (pc := 208) (t := 4) ?_ (by decide) rfl dX11_asks_208
      refine s_iconst (pc := 209) (v := 0) ?_ dX11_asks_209 (by decide)
      refine s_iaload (pc := 210) ?_ dX11_asks_210
      refine s_ifne (pc := 211) (tgt := 236) ?_ ?_ dX11_asks_211 (by decide)
      · skip
        exact s_fall (pc := 236) h10
      · skip
        refine s_aload_n (pc := 214) (i := 0) ?_ dX11_asks_214 rfl
        refine s_getf (pc := 215) (ci := 10) (f := 40) (T := TX11) ?_ ginX11 rfl (by decide) wt_1433 dX11_asks_215
        refine s_aload_n (pc := 218) (i := 0) ?_ dX11_asks_218 rfl
        refine s_getf (pc := 219) (ci := 10) (f := 39) (T := TX11) ?_ ginX11 rfl (by decide) wt_1432 dX11_asks_219
        refine s_iload_n (pc := 222) (i := 3) ?_ dX11_asks_222 rfl
        refine s_iaload (pc := 223) ?_ dX11_asks_223
        refine s_dup2 (pc := 224) ?_ dX11_asks_224
        refine s_iaload (pc := 225) ?_ dX11_asks_225
        refine s_aload_n (pc := 226) (i := 0) ?_ dX11_asks_226 rfl
        refine s_getf (pc := 227) (ci := 10) (f := 39) (T := TX11) ?_ ginX11 rfl (by decide) wt_1432 dX11_asks_227
        refine s_iload_n (pc := 230) (i := 3) ?_ dX11_asks_230 rfl
        refine s_iconst (pc := 231) (v := 1) ?_ dX11_asks_231 (by decide)
        refine s_iadd (pc := 232) ?_ dX11_asks_232
        refine s_iaload (pc := 233) ?_ dX11_asks_233
        refine s_iadd (pc := 234) ?_ dX11_asks_234
        refine s_iastore (pc := 235) ?_ dX11_asks_235
        exact s_fall (pc := 236) h10
    · skip
      exact s_goto (pc := 200) (tgt := 318) h13 dX11_asks_200 (by decide)
theorem sbX11_asks_10 (g : GE) (J : Nat → KT) (h1 : Snd mX11_asks g 7 (J 1)) (h2 : Snd mX11_asks g 27 (J 2)) (h3 : Snd mX11_asks g 47 (J 3)) (h4 : Snd mX11_asks g 131 (J 4)) (h5 : Snd mX11_asks g 135 (J 5)) (h6 : Snd mX11_asks g 136 (J 6)) (h7 : Snd mX11_asks g 167 (J 7)) (h8 : Snd mX11_asks g 168 (J 8)) (h9 : Snd mX11_asks g 176 (J 9)) (h10 : Snd mX11_asks g 236 (J 10)) (h11 : Snd mX11_asks g 277 (J 11)) (h12 : Snd mX11_asks g 291 (J 12)) (h13 : Snd mX11_asks g 318 (J 13)) : Snd mX11_asks g 236 (bX11_asks_10 g J) := by
  unfold bX11_asks_10
  refine s_aload_n (pc := 236) (i := 0) ?_ dX11_asks_236 rfl
  refine s_getf (pc := 237) (ci := 10) (f := 20) (T := TX11) ?_ ginX11 rfl (by decide) wt_1413 dX11_asks_237
  refine s_iload_n (pc := 240) (i := 2) ?_ dX11_asks_240 rfl
  refine s_aaload (pc := 241) (t := 4) ?_ (by decide) rfl dX11_asks_241
  refine s_iconst (pc := 242) (v := 0) ?_ dX11_asks_242 (by decide)
  refine s_iaload (pc := 243) ?_ dX11_asks_243
  refine s_iconst (pc := 244) (v := 2) ?_ dX11_asks_244 (by decide)
  refine s_icne (pc := 245) (tgt := 318) ?_ ?_ dX11_asks_245 (by decide)
  · skip
    exact s_fall (pc := 318) h13
  · skip
    refine s_aload_n (pc := 248) (i := 0) ?_ dX11_asks_248 rfl
    refine s_getf (pc := 249) (ci := 10) (f := 41) (T := TX11) ?_ ginX11 rfl (by decide) wt_1434 dX11_asks_249
    refine s_aload_n (pc := 252) (i := 0) ?_ dX11_asks_252 rfl
    refine s_getf (pc := 253) (ci := 10) (f := 20) (T := TX11) ?_ ginX11 rfl (by decide) wt_1413 dX11_asks_253
    refine s_iload_n (pc := 256) (i := 2) ?_ dX11_asks_256 rfl
    refine s_aaload (pc := 257) (t := 4) ?_ (by decide) rfl dX11_asks_257
    refine s_iconst (pc := 258) (v := 1) ?_ dX11_asks_258 (by decide)
    refine s_iaload (pc := 259) ?_ dX11_asks_259
    refine s_iaload (pc := 260) ?_ dX11_asks_260
    refine s_aload_n (pc := 261) (i := 0) ?_ dX11_asks_261 rfl
    refine s_getf (pc := 262) (ci := 10) (f := 39) (T := TX11) ?_ ginX11 rfl (by decide) wt_1432 dX11_asks_262
    refine s_iload_n (pc := 265) (i := 3) ?_ dX11_asks_265 rfl
    refine s_iconst (pc := 266) (v := 1) ?_ dX11_asks_266 (by decide)
    refine s_iadd (pc := 267) ?_ dX11_asks_267
    refine s_iaload (pc := 268) ?_ dX11_asks_268
    refine s_icne (pc := 269) (tgt := 276) ?_ ?_ dX11_asks_269 (by decide)
    · skip
      refine s_iconst (pc := 276) (v := 0) ?_ dX11_asks_276 (by decide)
      exact s_fall (pc := 277) h11
    · skip
      refine s_iconst (pc := 272) (v := 1) ?_ dX11_asks_272 (by decide)
      exact s_goto (pc := 273) (tgt := 277) h11 dX11_asks_273 (by decide)
theorem sbX11_asks_11 (g : GE) (J : Nat → KT) (h1 : Snd mX11_asks g 7 (J 1)) (h2 : Snd mX11_asks g 27 (J 2)) (h3 : Snd mX11_asks g 47 (J 3)) (h4 : Snd mX11_asks g 131 (J 4)) (h5 : Snd mX11_asks g 135 (J 5)) (h6 : Snd mX11_asks g 136 (J 6)) (h7 : Snd mX11_asks g 167 (J 7)) (h8 : Snd mX11_asks g 168 (J 8)) (h9 : Snd mX11_asks g 176 (J 9)) (h10 : Snd mX11_asks g 236 (J 10)) (h11 : Snd mX11_asks g 277 (J 11)) (h12 : Snd mX11_asks g 291 (J 12)) (h13 : Snd mX11_asks g 318 (J 13)) : Snd mX11_asks g 277 (bX11_asks_11 g J) := by
  unfold bX11_asks_11
  refine s_aload_n (pc := 277) (i := 0) ?_ dX11_asks_277 rfl
  refine s_getf (pc := 278) (ci := 10) (f := 39) (T := TX11) ?_ ginX11 rfl (by decide) wt_1432 dX11_asks_278
  refine s_iload_n (pc := 281) (i := 3) ?_ dX11_asks_281 rfl
  refine s_iaload (pc := 282) ?_ dX11_asks_282
  refine s_ifne (pc := 283) (tgt := 290) ?_ ?_ dX11_asks_283 (by decide)
  · skip
    refine s_iconst (pc := 290) (v := 0) ?_ dX11_asks_290 (by decide)
    exact s_fall (pc := 291) h12
  · skip
    refine s_iconst (pc := 286) (v := 1) ?_ dX11_asks_286 (by decide)
    exact s_goto (pc := 287) (tgt := 291) h12 dX11_asks_287 (by decide)
theorem sbX11_asks_12 (g : GE) (J : Nat → KT) (h1 : Snd mX11_asks g 7 (J 1)) (h2 : Snd mX11_asks g 27 (J 2)) (h3 : Snd mX11_asks g 47 (J 3)) (h4 : Snd mX11_asks g 131 (J 4)) (h5 : Snd mX11_asks g 135 (J 5)) (h6 : Snd mX11_asks g 136 (J 6)) (h7 : Snd mX11_asks g 167 (J 7)) (h8 : Snd mX11_asks g 168 (J 8)) (h9 : Snd mX11_asks g 176 (J 9)) (h10 : Snd mX11_asks g 236 (J 10)) (h11 : Snd mX11_asks g 277 (J 11)) (h12 : Snd mX11_asks g 291 (J 12)) (h13 : Snd mX11_asks g 318 (J 13)) : Snd mX11_asks g 291 (bX11_asks_12 g J) := by
  unfold bX11_asks_12
  refine s_icne (pc := 291) (tgt := 318) ?_ ?_ dX11_asks_291 (by decide)
  · skip
    exact s_fall (pc := 318) h13
  · skip
    refine s_aload_n (pc := 294) (i := 0) ?_ dX11_asks_294 rfl
    refine s_getf (pc := 295) (ci := 10) (f := 40) (T := TX11) ?_ ginX11 rfl (by decide) wt_1433 dX11_asks_295
    refine s_aload_n (pc := 298) (i := 0) ?_ dX11_asks_298 rfl
    refine s_getf (pc := 299) (ci := 10) (f := 39) (T := TX11) ?_ ginX11 rfl (by decide) wt_1432 dX11_asks_299
    refine s_iload_n (pc := 302) (i := 3) ?_ dX11_asks_302 rfl
    refine s_iconst (pc := 303) (v := 2) ?_ dX11_asks_303 (by decide)
    refine s_iadd (pc := 304) ?_ dX11_asks_304
    refine s_iaload (pc := 305) ?_ dX11_asks_305
    refine s_dup2 (pc := 306) ?_ dX11_asks_306
    refine s_iaload (pc := 307) ?_ dX11_asks_307
    refine s_aload_n (pc := 308) (i := 0) ?_ dX11_asks_308 rfl
    refine s_getf (pc := 309) (ci := 10) (f := 39) (T := TX11) ?_ ginX11 rfl (by decide) wt_1432 dX11_asks_309
    refine s_iload_n (pc := 312) (i := 3) ?_ dX11_asks_312 rfl
    refine s_iconst (pc := 313) (v := 3) ?_ dX11_asks_313 (by decide)
    refine s_iadd (pc := 314) ?_ dX11_asks_314
    refine s_iaload (pc := 315) ?_ dX11_asks_315
    refine s_iadd (pc := 316) ?_ dX11_asks_316
    refine s_iastore (pc := 317) ?_ dX11_asks_317
    exact s_fall (pc := 318) h13
theorem sbX11_asks_13 (g : GE) (J : Nat → KT) (h1 : Snd mX11_asks g 7 (J 1)) (h2 : Snd mX11_asks g 27 (J 2)) (h3 : Snd mX11_asks g 47 (J 3)) (h4 : Snd mX11_asks g 131 (J 4)) (h5 : Snd mX11_asks g 135 (J 5)) (h6 : Snd mX11_asks g 136 (J 6)) (h7 : Snd mX11_asks g 167 (J 7)) (h8 : Snd mX11_asks g 168 (J 8)) (h9 : Snd mX11_asks g 176 (J 9)) (h10 : Snd mX11_asks g 236 (J 10)) (h11 : Snd mX11_asks g 277 (J 11)) (h12 : Snd mX11_asks g 291 (J 12)) (h13 : Snd mX11_asks g 318 (J 13)) : Snd mX11_asks g 318 (bX11_asks_13 g J) := by
  unfold bX11_asks_13
  refine s_iinc (pc := 318) (i := 2) (v := 1) ?_ dX11_asks_318 (by decide) (by decide)
  exact s_goto (pc := 321) (tgt := 176) h9 dX11_asks_321 (by decide)
def jX11_asks (g : GE) : Nat → Nat → KT
  | 0, _ => fun _ _ _ => none
  | n + 1, 0 => bX11_asks_0 g (jX11_asks g n)
  | n + 1, 1 => bX11_asks_1 g (jX11_asks g n)
  | n + 1, 2 => bX11_asks_2 g (jX11_asks g n)
  | n + 1, 3 => bX11_asks_3 g (jX11_asks g n)
  | n + 1, 4 => bX11_asks_4 g (jX11_asks g n)
  | n + 1, 5 => bX11_asks_5 g (jX11_asks g n)
  | n + 1, 6 => bX11_asks_6 g (jX11_asks g n)
  | n + 1, 7 => bX11_asks_7 g (jX11_asks g n)
  | n + 1, 8 => bX11_asks_8 g (jX11_asks g n)
  | n + 1, 9 => bX11_asks_9 g (jX11_asks g n)
  | n + 1, 10 => bX11_asks_10 g (jX11_asks g n)
  | n + 1, 11 => bX11_asks_11 g (jX11_asks g n)
  | n + 1, 12 => bX11_asks_12 g (jX11_asks g n)
  | n + 1, 13 => bX11_asks_13 g (jX11_asks g n)
  | _ + 1, _ + 14 => fun _ _ _ => none
theorem sjX11_asks (g : GE) : ∀ n, Snd mX11_asks g 0 (jX11_asks g n 0) ∧ Snd mX11_asks g 7 (jX11_asks g n 1) ∧ Snd mX11_asks g 27 (jX11_asks g n 2) ∧ Snd mX11_asks g 47 (jX11_asks g n 3) ∧ Snd mX11_asks g 131 (jX11_asks g n 4) ∧ Snd mX11_asks g 135 (jX11_asks g n 5) ∧ Snd mX11_asks g 136 (jX11_asks g n 6) ∧ Snd mX11_asks g 167 (jX11_asks g n 7) ∧ Snd mX11_asks g 168 (jX11_asks g n 8) ∧ Snd mX11_asks g 176 (jX11_asks g n 9) ∧ Snd mX11_asks g 236 (jX11_asks g n 10) ∧ Snd mX11_asks g 277 (jX11_asks g n 11) ∧ Snd mX11_asks g 291 (jX11_asks g n 12) ∧ Snd mX11_asks g 318 (jX11_asks g n 13)
  | 0 => ⟨s_none, s_none, s_none, s_none, s_none, s_none, s_none, s_none, s_none, s_none, s_none, s_none, s_none, s_none⟩
  | n + 1 => by
    obtain ⟨-, h1, h2, h3, h4, h5, h6, h7, h8, h9, h10, h11, h12, h13⟩ := sjX11_asks g n
    exact ⟨sbX11_asks_0 g _ h1 h2 h3 h4 h5 h6 h7 h8 h9 h10 h11 h12 h13, sbX11_asks_1 g _ h1 h2 h3 h4 h5 h6 h7 h8 h9 h10 h11 h12 h13, sbX11_asks_2 g _ h1 h2 h3 h4 h5 h6 h7 h8 h9 h10 h11 h12 h13, sbX11_asks_3 g _ h1 h2 h3 h4 h5 h6 h7 h8 h9 h10 h11 h12 h13, sbX11_asks_4 g _ h1 h2 h3 h4 h5 h6 h7 h8 h9 h10 h11 h12 h13, sbX11_asks_5 g _ h1 h2 h3 h4 h5 h6 h7 h8 h9 h10 h11 h12 h13, sbX11_asks_6 g _ h1 h2 h3 h4 h5 h6 h7 h8 h9 h10 h11 h12 h13, sbX11_asks_7 g _ h1 h2 h3 h4 h5 h6 h7 h8 h9 h10 h11 h12 h13, sbX11_asks_8 g _ h1 h2 h3 h4 h5 h6 h7 h8 h9 h10 h11 h12 h13, sbX11_asks_9 g _ h1 h2 h3 h4 h5 h6 h7 h8 h9 h10 h11 h12 h13, sbX11_asks_10 g _ h1 h2 h3 h4 h5 h6 h7 h8 h9 h10 h11 h12 h13, sbX11_asks_11 g _ h1 h2 h3 h4 h5 h6 h7 h8 h9 h10 h11 h12 h13, sbX11_asks_12 g _ h1 h2 h3 h4 h5 h6 h7 h8 h9 h10 h11 h12 h13, sbX11_asks_13 g _ h1 h2 h3 h4 h5 h6 h7 h8 h9 h10 h11 h12 h13⟩
def kX11_asks (g : GE) : KT := jX11_asks g g.1 0
theorem sX11_asks (g : GE) : Snd mX11_asks g 0 (kX11_asks g) := (sjX11_asks g g.1).1
def fX11_asks : FT := fun g av w => if (ent av).length ≤ 5 then kX11_asks g [] (entp 5 av) w else none
theorem tX11_asks : Mt yX11_asks cX11_asks 5 none 1 30 fX11_asks := Mt.of (K := kX11_asks) (by decide +kernel) (fun _ _ _ => rfl) sX11_asks
theorem crX11_asks : yX11_asks.cls ≠ "java/lang/invoke/MethodHandle" ∧ yX11_asks.cls ≠ "java/lang/invoke/VarHandle" ∧ (parseMethodDescriptor yX11_asks.desc).map (fun d => d.parameters.length) = some 1 := by decide +kernel
theorem dX11_goesBy_0 : decode cX11_goesBy 0 = .ok (.aload_n 0, 1) := by decide +kernel
theorem dX11_goesBy_1 : decode cX11_goesBy 1 = .ok (.getfield 80, 3) := by decide +kernel
theorem dX11_goesBy_4 : decode cX11_goesBy 4 = .ok (.iload_n 1, 1) := by decide +kernel
theorem dX11_goesBy_5 : decode cX11_goesBy 5 = .ok (.iaload, 1) := by decide +kernel
theorem dX11_goesBy_6 : decode cX11_goesBy 6 = .ok (.iconst 3, 1) := by decide +kernel
theorem dX11_goesBy_7 : decode cX11_goesBy 7 = .ok (.iload_n 2, 1) := by decide +kernel
theorem dX11_goesBy_8 : decode cX11_goesBy 8 = .ok (.imul, 1) := by decide +kernel
theorem dX11_goesBy_9 : decode cX11_goesBy 9 = .ok (.ishr, 1) := by decide +kernel
theorem dX11_goesBy_10 : decode cX11_goesBy 10 = .ok (.bipush 7, 2) := by decide +kernel
theorem dX11_goesBy_12 : decode cX11_goesBy 12 = .ok (.iand, 1) := by decide +kernel
theorem dX11_goesBy_13 : decode cX11_goesBy 13 = .ok (.iconst 1, 1) := by decide +kernel
theorem dX11_goesBy_14 : decode cX11_goesBy 14 = .ok (.isub, 1) := by decide +kernel
theorem dX11_goesBy_15 : decode cX11_goesBy 15 = .ok (.ireturn, 1) := by decide +kernel
abbrev mX11_goesBy : MD := (cX11_goesBy, "BlottedDeedModel", 3, 1, 30, (some .int), "goesBy", [])
def bX11_goesBy_0 (g : GE) (J : Nat → KT) : KT := i_aload 0 (i_getf 10 30 (i_iload 1 (i_iaload (i_push (.int 3) (i_iload 2 (i_imul (i_ishr (i_push (.int 7) (i_iand (i_push (.int 1) (i_isub (i_ireturn))))))))))))
theorem sbX11_goesBy_0 (g : GE) (J : Nat → KT)  : Snd mX11_goesBy g 0 (bX11_goesBy_0 g J) := by
  unfold bX11_goesBy_0
  refine s_aload_n (pc := 0) (i := 0) ?_ dX11_goesBy_0 rfl
  refine s_getf (pc := 1) (ci := 10) (f := 30) (T := TX11) ?_ ginX11 rfl (by decide) wt_1423 dX11_goesBy_1
  refine s_iload_n (pc := 4) (i := 1) ?_ dX11_goesBy_4 rfl
  refine s_iaload (pc := 5) ?_ dX11_goesBy_5
  refine s_iconst (pc := 6) (v := 3) ?_ dX11_goesBy_6 (by decide)
  refine s_iload_n (pc := 7) (i := 2) ?_ dX11_goesBy_7 rfl
  refine s_imul (pc := 8) ?_ dX11_goesBy_8
  refine s_ishr (pc := 9) ?_ dX11_goesBy_9
  refine s_bipush (pc := 10) (v := 7) ?_ dX11_goesBy_10 (by decide)
  refine s_iand (pc := 12) ?_ dX11_goesBy_12
  refine s_iconst (pc := 13) (v := 1) ?_ dX11_goesBy_13 (by decide)
  refine s_isub (pc := 14) ?_ dX11_goesBy_14
  exact s_ireturn (pc := 15) rfl dX11_goesBy_15
def kX11_goesBy (g : GE) : KT := bX11_goesBy_0 g (fun _ _ _ _ => none)
theorem sX11_goesBy (g : GE) : Snd mX11_goesBy g 0 (kX11_goesBy g) := sbX11_goesBy_0 g _
def fX11_goesBy : FT := fun g av w => if (ent av).length ≤ 3 then kX11_goesBy g [] (entp 3 av) w else none
theorem tX11_goesBy : Mt yX11_goesBy cX11_goesBy 3 (some .int) 1 30 fX11_goesBy := Mt.of (K := kX11_goesBy) (by decide +kernel) (fun _ _ _ => rfl) sX11_goesBy
theorem crX11_goesBy : yX11_goesBy.cls ≠ "java/lang/invoke/MethodHandle" ∧ yX11_goesBy.cls ≠ "java/lang/invoke/VarHandle" ∧ (parseMethodDescriptor yX11_goesBy.desc).map (fun d => d.parameters.length) = some 2 := by decide +kernel
theorem dX11_bare_0 : decode cX11_bare 0 = .ok (.aload_n 0, 1) := by decide +kernel
theorem dX11_bare_1 : decode cX11_bare 1 = .ok (.iconst 0, 1) := by decide +kernel
theorem dX11_bare_2 : decode cX11_bare 2 = .ok (.putfield 120, 3) := by decide +kernel
theorem dX11_bare_5 : decode cX11_bare 5 = .ok (.aload_n 0, 1) := by decide +kernel
theorem dX11_bare_6 : decode cX11_bare 6 = .ok (.getfield 244, 3) := by decide +kernel
theorem dX11_bare_9 : decode cX11_bare 9 = .ok (.ifCond .ne 7, 3) := by decide +kernel
theorem dX11_bare_12 : decode cX11_bare 12 = .ok (.iconst 0, 1) := by decide +kernel
theorem dX11_bare_13 : decode cX11_bare 13 = .ok (.goto 13, 3) := by decide +kernel
theorem dX11_bare_16 : decode cX11_bare 16 = .ok (.iconst 1, 1) := by decide +kernel
theorem dX11_bare_17 : decode cX11_bare 17 = .ok (.aload_n 0, 1) := by decide +kernel
theorem dX11_bare_18 : decode cX11_bare 18 = .ok (.getfield 23, 3) := by decide +kernel
theorem dX11_bare_21 : decode cX11_bare 21 = .ok (.iconst 0, 1) := by decide +kernel
theorem dX11_bare_22 : decode cX11_bare 22 = .ok (.iaload, 1) := by decide +kernel
theorem dX11_bare_23 : decode cX11_bare 23 = .ok (.ishl, 1) := by decide +kernel
theorem dX11_bare_24 : decode cX11_bare 24 = .ok (.iconst 1, 1) := by decide +kernel
theorem dX11_bare_25 : decode cX11_bare 25 = .ok (.isub, 1) := by decide +kernel
theorem dX11_bare_26 : decode cX11_bare 26 = .ok (.istore_n 1, 1) := by decide +kernel
theorem dX11_bare_27 : decode cX11_bare 27 = .ok (.iconst 0, 1) := by decide +kernel
theorem dX11_bare_28 : decode cX11_bare 28 = .ok (.istore_n 2, 1) := by decide +kernel
theorem dX11_bare_29 : decode cX11_bare 29 = .ok (.iload_n 2, 1) := by decide +kernel
theorem dX11_bare_30 : decode cX11_bare 30 = .ok (.aload_n 0, 1) := by decide +kernel
theorem dX11_bare_31 : decode cX11_bare 31 = .ok (.getfield 244, 3) := by decide +kernel
theorem dX11_bare_34 : decode cX11_bare 34 = .ok (.if_icmp .ge 54, 3) := by decide +kernel
theorem dX11_bare_37 : decode cX11_bare 37 = .ok (.iconst 0, 1) := by decide +kernel
theorem dX11_bare_38 : decode cX11_bare 38 = .ok (.istore_n 3, 1) := by decide +kernel
theorem dX11_bare_39 : decode cX11_bare 39 = .ok (.iload_n 3, 1) := by decide +kernel
theorem dX11_bare_40 : decode cX11_bare 40 = .ok (.aload_n 0, 1) := by decide +kernel
theorem dX11_bare_41 : decode cX11_bare 41 = .ok (.getfield 23, 3) := by decide +kernel
theorem dX11_bare_44 : decode cX11_bare 44 = .ok (.iconst 1, 1) := by decide +kernel
theorem dX11_bare_45 : decode cX11_bare 45 = .ok (.iaload, 1) := by decide +kernel
theorem dX11_bare_46 : decode cX11_bare 46 = .ok (.if_icmp .ge 36, 3) := by decide +kernel
theorem dX11_bare_49 : decode cX11_bare 49 = .ok (.iload_n 1, 1) := by decide +kernel
theorem dX11_bare_50 : decode cX11_bare 50 = .ok (.aload_n 0, 1) := by decide +kernel
theorem dX11_bare_51 : decode cX11_bare 51 = .ok (.iload_n 2, 1) := by decide +kernel
theorem dX11_bare_52 : decode cX11_bare 52 = .ok (.iload_n 3, 1) := by decide +kernel
theorem dX11_bare_53 : decode cX11_bare 53 = .ok (.invokevirtual 264, 3) := by decide +kernel
theorem dX11_bare_56 : decode cX11_bare 56 = .ok (.iconst (-1), 1) := by decide +kernel
theorem dX11_bare_57 : decode cX11_bare 57 = .ok (.if_icmp .ne 7, 3) := by decide +kernel
theorem dX11_bare_60 : decode cX11_bare 60 = .ok (.iconst (-1), 1) := by decide +kernel
theorem dX11_bare_61 : decode cX11_bare 61 = .ok (.goto 13, 3) := by decide +kernel
theorem dX11_bare_64 : decode cX11_bare 64 = .ok (.iconst 1, 1) := by decide +kernel
theorem dX11_bare_65 : decode cX11_bare 65 = .ok (.aload_n 0, 1) := by decide +kernel
theorem dX11_bare_66 : decode cX11_bare 66 = .ok (.iload_n 2, 1) := by decide +kernel
theorem dX11_bare_67 : decode cX11_bare 67 = .ok (.iload_n 3, 1) := by decide +kernel
theorem dX11_bare_68 : decode cX11_bare 68 = .ok (.invokevirtual 264, 3) := by decide +kernel
theorem dX11_bare_71 : decode cX11_bare 71 = .ok (.ishl, 1) := by decide +kernel
theorem dX11_bare_72 : decode cX11_bare 72 = .ok (.iconst (-1), 1) := by decide +kernel
theorem dX11_bare_73 : decode cX11_bare 73 = .ok (.ixor, 1) := by decide +kernel
theorem dX11_bare_74 : decode cX11_bare 74 = .ok (.iand, 1) := by decide +kernel
theorem dX11_bare_75 : decode cX11_bare 75 = .ok (.istore_n 1, 1) := by decide +kernel
theorem dX11_bare_76 : decode cX11_bare 76 = .ok (.iinc 3 1, 3) := by decide +kernel
theorem dX11_bare_79 : decode cX11_bare 79 = .ok (.goto (-40), 3) := by decide +kernel
theorem dX11_bare_82 : decode cX11_bare 82 = .ok (.iinc 2 1, 3) := by decide +kernel
theorem dX11_bare_85 : decode cX11_bare 85 = .ok (.goto (-56), 3) := by decide +kernel
theorem dX11_bare_88 : decode cX11_bare 88 = .ok (.iload_n 1, 1) := by decide +kernel
theorem dX11_bare_89 : decode cX11_bare 89 = .ok (.ireturn, 1) := by decide +kernel
abbrev mX11_bare : MD := (cX11_bare, "BlottedDeedModel", 4, 2, 52, (some .int), "bare", [])
def bX11_bare_0 (g : GE) (J : Nat → KT) : KT := i_aload 0 (i_push (.int 0) (i_putf 10 0 .int (i_aload 0 (i_getf 10 27 (i_ifne (i_push (.int 1) (i_aload 0 (i_getf 10 11 (i_push (.int 0) (i_iaload (i_ishl (i_push (.int 1) (i_isub (i_jmp [true, false, false, false] (J 1)))))))))) (i_push (.int 0) (i_jmp [true, false, false, false] (J 1))))))))
def bX11_bare_1 (g : GE) (J : Nat → KT) : KT := i_istore 1 (i_push (.int 0) (i_istore 2 (i_jmp [true, true, true, false] (J 2))))
def bX11_bare_2 (g : GE) (J : Nat → KT) : KT := i_iload 2 (i_aload 0 (i_getf 10 27 (i_icge (i_iload 1 (i_ireturn)) (i_push (.int 0) (i_istore 3 (i_jmp [true, true, true, true] (J 3)))))))
def bX11_bare_3 (g : GE) (J : Nat → KT) : KT := i_iload 3 (i_aload 0 (i_getf 10 11 (i_push (.int 1) (i_iaload (i_icge (i_iinc 2 1 (i_jmp [true, true, true, false] (J 2))) (i_iload 1 (i_aload 0 (i_iload 2 (i_iload 3 (i_cv fX11_goesBy g 2 10 (i_push (.int (-1)) (i_icne (i_push (.int 1) (i_aload 0 (i_iload 2 (i_iload 3 (i_cv fX11_goesBy g 2 10 (i_ishl (i_push (.int (-1)) (i_ixor (i_jmp [true, false, true, true] (J 4)))))))))) (i_push (.int (-1)) (i_jmp [true, false, true, true] (J 4)))))))))))))))
def bX11_bare_4 (g : GE) (J : Nat → KT) : KT := i_iand (i_istore 1 (i_iinc 3 1 (i_jmp [true, true, true, true] (J 3))))
theorem sbX11_bare_0 (g : GE) (J : Nat → KT) (h1 : Snd mX11_bare g 26 (J 1)) (h2 : Snd mX11_bare g 29 (J 2)) (h3 : Snd mX11_bare g 39 (J 3)) (h4 : Snd mX11_bare g 74 (J 4)) : Snd mX11_bare g 0 (bX11_bare_0 g J) := by
  unfold bX11_bare_0
  refine s_aload_n (pc := 0) (i := 0) ?_ dX11_bare_0 rfl
  refine s_iconst (pc := 1) (v := 0) ?_ dX11_bare_1 (by decide)
  refine s_putf (pc := 2) (ci := 10) (f := 0) (T := TX11) (ty0 := tyX11) ?_ ginX11 tyX11_ok nmX11 rfl (by decide) rfl rfl wt_1393 dX11_bare_2
  refine s_aload_n (pc := 5) (i := 0) ?_ dX11_bare_5 rfl
  refine s_getf (pc := 6) (ci := 10) (f := 27) (T := TX11) ?_ ginX11 rfl (by decide) wt_1420 dX11_bare_6
  refine s_ifne (pc := 9) (tgt := 16) ?_ ?_ dX11_bare_9 (by decide)
  · skip
    refine s_iconst (pc := 16) (v := 1) ?_ dX11_bare_16 (by decide)
    refine s_aload_n (pc := 17) (i := 0) ?_ dX11_bare_17 rfl
    refine s_getf (pc := 18) (ci := 10) (f := 11) (T := TX11) ?_ ginX11 rfl (by decide) wt_1404 dX11_bare_18
    refine s_iconst (pc := 21) (v := 0) ?_ dX11_bare_21 (by decide)
    refine s_iaload (pc := 22) ?_ dX11_bare_22
    refine s_ishl (pc := 23) ?_ dX11_bare_23
    refine s_iconst (pc := 24) (v := 1) ?_ dX11_bare_24 (by decide)
    refine s_isub (pc := 25) ?_ dX11_bare_25
    exact s_fall (pc := 26) h1
  · skip
    refine s_iconst (pc := 12) (v := 0) ?_ dX11_bare_12 (by decide)
    exact s_goto (pc := 13) (tgt := 26) h1 dX11_bare_13 (by decide)
theorem sbX11_bare_1 (g : GE) (J : Nat → KT) (h1 : Snd mX11_bare g 26 (J 1)) (h2 : Snd mX11_bare g 29 (J 2)) (h3 : Snd mX11_bare g 39 (J 3)) (h4 : Snd mX11_bare g 74 (J 4)) : Snd mX11_bare g 26 (bX11_bare_1 g J) := by
  unfold bX11_bare_1
  refine s_istore_n (pc := 26) (i := 1) ?_ dX11_bare_26 rfl (by decide)
  refine s_iconst (pc := 27) (v := 0) ?_ dX11_bare_27 (by decide)
  refine s_istore_n (pc := 28) (i := 2) ?_ dX11_bare_28 rfl (by decide)
  exact s_fall (pc := 29) h2
theorem sbX11_bare_2 (g : GE) (J : Nat → KT) (h1 : Snd mX11_bare g 26 (J 1)) (h2 : Snd mX11_bare g 29 (J 2)) (h3 : Snd mX11_bare g 39 (J 3)) (h4 : Snd mX11_bare g 74 (J 4)) : Snd mX11_bare g 29 (bX11_bare_2 g J) := by
  unfold bX11_bare_2
  refine s_iload_n (pc := 29) (i := 2) ?_ dX11_bare_29 rfl
  refine s_aload_n (pc := 30) (i := 0) ?_ dX11_bare_30 rfl
  refine s_getf (pc := 31) (ci := 10) (f := 27) (T := TX11) ?_ ginX11 rfl (by decide) wt_1420 dX11_bare_31
  refine s_icge (pc := 34) (tgt := 88) ?_ ?_ dX11_bare_34 (by decide)
  · skip
    refine s_iload_n (pc := 88) (i := 1) ?_ dX11_bare_88 rfl
    exact s_ireturn (pc := 89) rfl dX11_bare_89
  · skip
    refine s_iconst (pc := 37) (v := 0) ?_ dX11_bare_37 (by decide)
    refine s_istore_n (pc := 38) (i := 3) ?_ dX11_bare_38 rfl (by decide)
    exact s_fall (pc := 39) h3
theorem sbX11_bare_3 (g : GE) (J : Nat → KT) (h1 : Snd mX11_bare g 26 (J 1)) (h2 : Snd mX11_bare g 29 (J 2)) (h3 : Snd mX11_bare g 39 (J 3)) (h4 : Snd mX11_bare g 74 (J 4)) : Snd mX11_bare g 39 (bX11_bare_3 g J) := by
  unfold bX11_bare_3
  refine s_iload_n (pc := 39) (i := 3) ?_ dX11_bare_39 rfl
  refine s_aload_n (pc := 40) (i := 0) ?_ dX11_bare_40 rfl
  refine s_getf (pc := 41) (ci := 10) (f := 11) (T := TX11) ?_ ginX11 rfl (by decide) wt_1404 dX11_bare_41
  refine s_iconst (pc := 44) (v := 1) ?_ dX11_bare_44 (by decide)
  refine s_iaload (pc := 45) ?_ dX11_bare_45
  refine s_icge (pc := 46) (tgt := 82) ?_ ?_ dX11_bare_46 (by decide)
  · skip
    refine s_iinc (pc := 82) (i := 2) (v := 1) ?_ dX11_bare_82 (by decide) (by decide)
    exact s_goto (pc := 85) (tgt := 29) h2 dX11_bare_85 (by decide)
  · skip
    refine s_iload_n (pc := 49) (i := 1) ?_ dX11_bare_49 rfl
    refine s_aload_n (pc := 50) (i := 0) ?_ dX11_bare_50 rfl
    refine s_iload_n (pc := 51) (i := 2) ?_ dX11_bare_51 rfl
    refine s_iload_n (pc := 52) (i := 3) ?_ dX11_bare_52 rfl
    refine s_cv (pc := 53) (n := 2) (ci := 10) ?_ tX11_goesBy rfl rfl wt_1716 wt_1718 wp_75 wt_17 wt_1719 ⟨crX11_goesBy, by decide, by decide⟩ dX11_bare_53
    refine s_iconst (pc := 56) (v := (-1)) ?_ dX11_bare_56 (by decide)
    refine s_icne (pc := 57) (tgt := 64) ?_ ?_ dX11_bare_57 (by decide)
    · skip
      refine s_iconst (pc := 64) (v := 1) ?_ dX11_bare_64 (by decide)
      refine s_aload_n (pc := 65) (i := 0) ?_ dX11_bare_65 rfl
      refine s_iload_n (pc := 66) (i := 2) ?_ dX11_bare_66 rfl
      refine s_iload_n (pc := 67) (i := 3) ?_ dX11_bare_67 rfl
      refine s_cv (pc := 68) (n := 2) (ci := 10) ?_ tX11_goesBy rfl rfl wt_1716 wt_1718 wp_75 wt_17 wt_1719 ⟨crX11_goesBy, by decide, by decide⟩ dX11_bare_68
      refine s_ishl (pc := 71) ?_ dX11_bare_71
      refine s_iconst (pc := 72) (v := (-1)) ?_ dX11_bare_72 (by decide)
      refine s_ixor (pc := 73) ?_ dX11_bare_73
      exact s_fall (pc := 74) h4
    · skip
      refine s_iconst (pc := 60) (v := (-1)) ?_ dX11_bare_60 (by decide)
      exact s_goto (pc := 61) (tgt := 74) h4 dX11_bare_61 (by decide)
theorem sbX11_bare_4 (g : GE) (J : Nat → KT) (h1 : Snd mX11_bare g 26 (J 1)) (h2 : Snd mX11_bare g 29 (J 2)) (h3 : Snd mX11_bare g 39 (J 3)) (h4 : Snd mX11_bare g 74 (J 4)) : Snd mX11_bare g 74 (bX11_bare_4 g J) := by
  unfold bX11_bare_4
  refine s_iand (pc := 74) ?_ dX11_bare_74
  refine s_istore_n (pc := 75) (i := 1) ?_ dX11_bare_75 rfl (by decide)
  refine s_iinc (pc := 76) (i := 3) (v := 1) ?_ dX11_bare_76 (by decide) (by decide)
  exact s_goto (pc := 79) (tgt := 39) h3 dX11_bare_79 (by decide)
def jX11_bare (g : GE) : Nat → Nat → KT
  | 0, _ => fun _ _ _ => none
  | n + 1, 0 => bX11_bare_0 g (jX11_bare g n)
  | n + 1, 1 => bX11_bare_1 g (jX11_bare g n)
  | n + 1, 2 => bX11_bare_2 g (jX11_bare g n)
  | n + 1, 3 => bX11_bare_3 g (jX11_bare g n)
  | n + 1, 4 => bX11_bare_4 g (jX11_bare g n)
  | _ + 1, _ + 5 => fun _ _ _ => none
theorem sjX11_bare (g : GE) : ∀ n, Snd mX11_bare g 0 (jX11_bare g n 0) ∧ Snd mX11_bare g 26 (jX11_bare g n 1) ∧ Snd mX11_bare g 29 (jX11_bare g n 2) ∧ Snd mX11_bare g 39 (jX11_bare g n 3) ∧ Snd mX11_bare g 74 (jX11_bare g n 4)
  | 0 => ⟨s_none, s_none, s_none, s_none, s_none⟩
  | n + 1 => by
    obtain ⟨-, h1, h2, h3, h4⟩ := sjX11_bare g n
    exact ⟨sbX11_bare_0 g _ h1 h2 h3 h4, sbX11_bare_1 g _ h1 h2 h3 h4, sbX11_bare_2 g _ h1 h2 h3 h4, sbX11_bare_3 g _ h1 h2 h3 h4, sbX11_bare_4 g _ h1 h2 h3 h4⟩
def kX11_bare (g : GE) : KT := jX11_bare g g.1 0
theorem sX11_bare (g : GE) : Snd mX11_bare g 0 (kX11_bare g) := (sjX11_bare g g.1).1
def fX11_bare : FT := fun g av w => if (ent av).length ≤ 4 then kX11_bare g [] (entp 4 av) w else none
theorem tX11_bare : Mt yX11_bare cX11_bare 4 (some .int) 2 52 fX11_bare := Mt.of (K := kX11_bare) (by decide +kernel) (fun _ _ _ => rfl) sX11_bare
theorem crX11_bare : yX11_bare.cls ≠ "java/lang/invoke/MethodHandle" ∧ yX11_bare.cls ≠ "java/lang/invoke/VarHandle" ∧ (parseMethodDescriptor yX11_bare.desc).map (fun d => d.parameters.length) = some 0 := by decide +kernel
theorem dX11_fills_0 : decode cX11_fills 0 = .ok (.iload_n 1, 1) := by decide +kernel
theorem dX11_fills_1 : decode cX11_fills 1 = .ok (.istore_n 2, 1) := by decide +kernel
theorem dX11_fills_2 : decode cX11_fills 2 = .ok (.iconst 0, 1) := by decide +kernel
theorem dX11_fills_3 : decode cX11_fills 3 = .ok (.istore_n 3, 1) := by decide +kernel
theorem dX11_fills_4 : decode cX11_fills 4 = .ok (.iload_n 3, 1) := by decide +kernel
theorem dX11_fills_5 : decode cX11_fills 5 = .ok (.aload_n 0, 1) := by decide +kernel
theorem dX11_fills_6 : decode cX11_fills 6 = .ok (.getfield 23, 3) := by decide +kernel
theorem dX11_fills_9 : decode cX11_fills 9 = .ok (.iconst 5, 1) := by decide +kernel
theorem dX11_fills_10 : decode cX11_fills 10 = .ok (.iaload, 1) := by decide +kernel
theorem dX11_fills_11 : decode cX11_fills 11 = .ok (.if_icmp .ge 23, 3) := by decide +kernel
theorem dX11_fills_14 : decode cX11_fills 14 = .ok (.aload_n 0, 1) := by decide +kernel
theorem dX11_fills_15 : decode cX11_fills 15 = .ok (.getfield 95, 3) := by decide +kernel
theorem dX11_fills_18 : decode cX11_fills 18 = .ok (.iload_n 3, 1) := by decide +kernel
theorem dX11_fills_19 : decode cX11_fills 19 = .ok (.aload_n 0, 1) := by decide +kernel
theorem dX11_fills_20 : decode cX11_fills 20 = .ok (.getfield 59, 3) := by decide +kernel
theorem dX11_fills_23 : decode cX11_fills 23 = .ok (.iload_n 3, 1) := by decide +kernel
theorem dX11_fills_24 : decode cX11_fills 24 = .ok (.aaload, 1) := by decide +kernel
theorem dX11_fills_25 : decode cX11_fills 25 = .ok (.iconst 1, 1) := by decide +kernel
theorem dX11_fills_26 : decode cX11_fills 26 = .ok (.iaload, 1) := by decide +kernel
theorem dX11_fills_27 : decode cX11_fills 27 = .ok (.iastore, 1) := by decide +kernel
theorem dX11_fills_28 : decode cX11_fills 28 = .ok (.iinc 3 1, 3) := by decide +kernel
theorem dX11_fills_31 : decode cX11_fills 31 = .ok (.goto (-27), 3) := by decide +kernel
theorem dX11_fills_34 : decode cX11_fills 34 = .ok (.aload_n 0, 1) := by decide +kernel
theorem dX11_fills_35 : decode cX11_fills 35 = .ok (.getfield 23, 3) := by decide +kernel
theorem dX11_fills_38 : decode cX11_fills 38 = .ok (.iconst 3, 1) := by decide +kernel
theorem dX11_fills_39 : decode cX11_fills 39 = .ok (.iaload, 1) := by decide +kernel
theorem dX11_fills_40 : decode cX11_fills 40 = .ok (.iconst 1, 1) := by decide +kernel
theorem dX11_fills_41 : decode cX11_fills 41 = .ok (.isub, 1) := by decide +kernel
theorem dX11_fills_42 : decode cX11_fills 42 = .ok (.istore_n 3, 1) := by decide +kernel
theorem dX11_fills_43 : decode cX11_fills 43 = .ok (.iload_n 3, 1) := by decide +kernel
theorem dX11_fills_44 : decode cX11_fills 44 = .ok (.ifCond .lt 50, 3) := by decide +kernel
theorem dX11_fills_47 : decode cX11_fills 47 = .ok (.aload_n 0, 1) := by decide +kernel
theorem dX11_fills_48 : decode cX11_fills 48 = .ok (.getfield 95, 3) := by decide +kernel
theorem dX11_fills_51 : decode cX11_fills 51 = .ok (.aload_n 0, 1) := by decide +kernel
theorem dX11_fills_52 : decode cX11_fills 52 = .ok (.getfield 65, 3) := by decide +kernel
theorem dX11_fills_55 : decode cX11_fills 55 = .ok (.iload_n 3, 1) := by decide +kernel
theorem dX11_fills_56 : decode cX11_fills 56 = .ok (.aaload, 1) := by decide +kernel
theorem dX11_fills_57 : decode cX11_fills 57 = .ok (.iconst 4, 1) := by decide +kernel
theorem dX11_fills_58 : decode cX11_fills 58 = .ok (.iaload, 1) := by decide +kernel
theorem dX11_fills_59 : decode cX11_fills 59 = .ok (.aload_n 0, 1) := by decide +kernel
theorem dX11_fills_60 : decode cX11_fills 60 = .ok (.getfield 71, 3) := by decide +kernel
theorem dX11_fills_63 : decode cX11_fills 63 = .ok (.iload_n 3, 1) := by decide +kernel
theorem dX11_fills_64 : decode cX11_fills 64 = .ok (.aaload, 1) := by decide +kernel
theorem dX11_fills_65 : decode cX11_fills 65 = .ok (.iload_n 2, 1) := by decide +kernel
theorem dX11_fills_66 : decode cX11_fills 66 = .ok (.aload_n 0, 1) := by decide +kernel
theorem dX11_fills_67 : decode cX11_fills 67 = .ok (.getfield 65, 3) := by decide +kernel
theorem dX11_fills_70 : decode cX11_fills 70 = .ok (.iload_n 3, 1) := by decide +kernel
theorem dX11_fills_71 : decode cX11_fills 71 = .ok (.aaload, 1) := by decide +kernel
theorem dX11_fills_72 : decode cX11_fills 72 = .ok (.iconst 2, 1) := by decide +kernel
theorem dX11_fills_73 : decode cX11_fills 73 = .ok (.iaload, 1) := by decide +kernel
theorem dX11_fills_74 : decode cX11_fills 74 = .ok (.irem, 1) := by decide +kernel
theorem dX11_fills_75 : decode cX11_fills 75 = .ok (.iaload, 1) := by decide +kernel
theorem dX11_fills_76 : decode cX11_fills 76 = .ok (.iastore, 1) := by decide +kernel
theorem dX11_fills_77 : decode cX11_fills 77 = .ok (.iload_n 2, 1) := by decide +kernel
theorem dX11_fills_78 : decode cX11_fills 78 = .ok (.aload_n 0, 1) := by decide +kernel
theorem dX11_fills_79 : decode cX11_fills 79 = .ok (.getfield 65, 3) := by decide +kernel
theorem dX11_fills_82 : decode cX11_fills 82 = .ok (.iload_n 3, 1) := by decide +kernel
theorem dX11_fills_83 : decode cX11_fills 83 = .ok (.aaload, 1) := by decide +kernel
theorem dX11_fills_84 : decode cX11_fills 84 = .ok (.iconst 2, 1) := by decide +kernel
theorem dX11_fills_85 : decode cX11_fills 85 = .ok (.iaload, 1) := by decide +kernel
theorem dX11_fills_86 : decode cX11_fills 86 = .ok (.idiv, 1) := by decide +kernel
theorem dX11_fills_87 : decode cX11_fills 87 = .ok (.istore_n 2, 1) := by decide +kernel
theorem dX11_fills_88 : decode cX11_fills 88 = .ok (.iinc 3 (-1), 3) := by decide +kernel
theorem dX11_fills_91 : decode cX11_fills 91 = .ok (.goto (-48), 3) := by decide +kernel
theorem dX11_fills_94 : decode cX11_fills 94 = .ok (.return_, 1) := by decide +kernel
abbrev mX11_fills : MD := (cX11_fills, "BlottedDeedModel", 4, 1, 30, none, "fills", [])
def bX11_fills_0 (g : GE) (J : Nat → KT) : KT := i_iload 1 (i_istore 2 (i_push (.int 0) (i_istore 3 (i_jmp [true, false, true, true] (J 1)))))
def bX11_fills_1 (g : GE) (J : Nat → KT) : KT := i_iload 3 (i_aload 0 (i_getf 10 11 (i_push (.int 5) (i_iaload (i_icge (i_aload 0 (i_getf 10 11 (i_push (.int 3) (i_iaload (i_push (.int 1) (i_isub (i_istore 3 (i_jmp [true, false, true, true] (J 2))))))))) (i_aload 0 (i_getf 10 39 (i_iload 3 (i_aload 0 (i_getf 10 22 (i_iload 3 (i_aaload 4 (i_push (.int 1) (i_iaload (i_iastore (i_iinc 3 1 (i_jmp [true, false, true, true] (J 1))))))))))))))))))
def bX11_fills_2 (g : GE) (J : Nat → KT) : KT := i_iload 3 (i_iflt (i_return) (i_aload 0 (i_getf 10 39 (i_aload 0 (i_getf 10 24 (i_iload 3 (i_aaload 4 (i_push (.int 4) (i_iaload (i_aload 0 (i_getf 10 26 (i_iload 3 (i_aaload 4 (i_iload 2 (i_aload 0 (i_getf 10 24 (i_iload 3 (i_aaload 4 (i_push (.int 2) (i_iaload (i_irem (i_iaload (i_iastore (i_iload 2 (i_aload 0 (i_getf 10 24 (i_iload 3 (i_aaload 4 (i_push (.int 2) (i_iaload (i_idiv (i_istore 2 (i_iinc 3 (-1) (i_jmp [true, false, true, true] (J 2)))))))))))))))))))))))))))))))))))
theorem sbX11_fills_0 (g : GE) (J : Nat → KT) (h1 : Snd mX11_fills g 4 (J 1)) (h2 : Snd mX11_fills g 43 (J 2)) : Snd mX11_fills g 0 (bX11_fills_0 g J) := by
  unfold bX11_fills_0
  refine s_iload_n (pc := 0) (i := 1) ?_ dX11_fills_0 rfl
  refine s_istore_n (pc := 1) (i := 2) ?_ dX11_fills_1 rfl (by decide)
  refine s_iconst (pc := 2) (v := 0) ?_ dX11_fills_2 (by decide)
  refine s_istore_n (pc := 3) (i := 3) ?_ dX11_fills_3 rfl (by decide)
  exact s_fall (pc := 4) h1
theorem sbX11_fills_1 (g : GE) (J : Nat → KT) (h1 : Snd mX11_fills g 4 (J 1)) (h2 : Snd mX11_fills g 43 (J 2)) : Snd mX11_fills g 4 (bX11_fills_1 g J) := by
  unfold bX11_fills_1
  refine s_iload_n (pc := 4) (i := 3) ?_ dX11_fills_4 rfl
  refine s_aload_n (pc := 5) (i := 0) ?_ dX11_fills_5 rfl
  refine s_getf (pc := 6) (ci := 10) (f := 11) (T := TX11) ?_ ginX11 rfl (by decide) wt_1404 dX11_fills_6
  refine s_iconst (pc := 9) (v := 5) ?_ dX11_fills_9 (by decide)
  refine s_iaload (pc := 10) ?_ dX11_fills_10
  refine s_icge (pc := 11) (tgt := 34) ?_ ?_ dX11_fills_11 (by decide)
  · skip
    refine s_aload_n (pc := 34) (i := 0) ?_ dX11_fills_34 rfl
    refine s_getf (pc := 35) (ci := 10) (f := 11) (T := TX11) ?_ ginX11 rfl (by decide) wt_1404 dX11_fills_35
    refine s_iconst (pc := 38) (v := 3) ?_ dX11_fills_38 (by decide)
    refine s_iaload (pc := 39) ?_ dX11_fills_39
    refine s_iconst (pc := 40) (v := 1) ?_ dX11_fills_40 (by decide)
    refine s_isub (pc := 41) ?_ dX11_fills_41
    refine s_istore_n (pc := 42) (i := 3) ?_ dX11_fills_42 rfl (by decide)
    exact s_fall (pc := 43) h2
  · skip
    refine s_aload_n (pc := 14) (i := 0) ?_ dX11_fills_14 rfl
    refine s_getf (pc := 15) (ci := 10) (f := 39) (T := TX11) ?_ ginX11 rfl (by decide) wt_1432 dX11_fills_15
    refine s_iload_n (pc := 18) (i := 3) ?_ dX11_fills_18 rfl
    refine s_aload_n (pc := 19) (i := 0) ?_ dX11_fills_19 rfl
    refine s_getf (pc := 20) (ci := 10) (f := 22) (T := TX11) ?_ ginX11 rfl (by decide) wt_1415 dX11_fills_20
    refine s_iload_n (pc := 23) (i := 3) ?_ dX11_fills_23 rfl
    refine s_aaload (pc := 24) (t := 4) ?_ (by decide) rfl dX11_fills_24
    refine s_iconst (pc := 25) (v := 1) ?_ dX11_fills_25 (by decide)
    refine s_iaload (pc := 26) ?_ dX11_fills_26
    refine s_iastore (pc := 27) ?_ dX11_fills_27
    refine s_iinc (pc := 28) (i := 3) (v := 1) ?_ dX11_fills_28 (by decide) (by decide)
    exact s_goto (pc := 31) (tgt := 4) h1 dX11_fills_31 (by decide)
theorem sbX11_fills_2 (g : GE) (J : Nat → KT) (h1 : Snd mX11_fills g 4 (J 1)) (h2 : Snd mX11_fills g 43 (J 2)) : Snd mX11_fills g 43 (bX11_fills_2 g J) := by
  unfold bX11_fills_2
  refine s_iload_n (pc := 43) (i := 3) ?_ dX11_fills_43 rfl
  refine s_iflt (pc := 44) (tgt := 94) ?_ ?_ dX11_fills_44 (by decide)
  · skip
    exact s_return (pc := 94) rfl dX11_fills_94
  · skip
    refine s_aload_n (pc := 47) (i := 0) ?_ dX11_fills_47 rfl
    refine s_getf (pc := 48) (ci := 10) (f := 39) (T := TX11) ?_ ginX11 rfl (by decide) wt_1432 dX11_fills_48
    refine s_aload_n (pc := 51) (i := 0) ?_ dX11_fills_51 rfl
    refine s_getf (pc := 52) (ci := 10) (f := 24) (T := TX11) ?_ ginX11 rfl (by decide) wt_1417 dX11_fills_52
    refine s_iload_n (pc := 55) (i := 3) ?_ dX11_fills_55 rfl
    refine s_aaload (pc := 56) (t := 4) ?_ (by decide) rfl dX11_fills_56
    refine s_iconst (pc := 57) (v := 4) ?_ dX11_fills_57 (by decide)
    refine s_iaload (pc := 58) ?_ dX11_fills_58
    refine s_aload_n (pc := 59) (i := 0) ?_ dX11_fills_59 rfl
    refine s_getf (pc := 60) (ci := 10) (f := 26) (T := TX11) ?_ ginX11 rfl (by decide) wt_1419 dX11_fills_60
    refine s_iload_n (pc := 63) (i := 3) ?_ dX11_fills_63 rfl
    refine s_aaload (pc := 64) (t := 4) ?_ (by decide) rfl dX11_fills_64
    refine s_iload_n (pc := 65) (i := 2) ?_ dX11_fills_65 rfl
    refine s_aload_n (pc := 66) (i := 0) ?_ dX11_fills_66 rfl
    refine s_getf (pc := 67) (ci := 10) (f := 24) (T := TX11) ?_ ginX11 rfl (by decide) wt_1417 dX11_fills_67
    refine s_iload_n (pc := 70) (i := 3) ?_ dX11_fills_70 rfl
    refine s_aaload (pc := 71) (t := 4) ?_ (by decide) rfl dX11_fills_71
    refine s_iconst (pc := 72) (v := 2) ?_ dX11_fills_72 (by decide)
    refine s_iaload (pc := 73) ?_ dX11_fills_73
    refine s_irem (pc := 74) ?_ dX11_fills_74
    refine s_iaload (pc := 75) ?_ dX11_fills_75
    refine s_iastore (pc := 76) ?_ dX11_fills_76
    refine s_iload_n (pc := 77) (i := 2) ?_ dX11_fills_77 rfl
    refine s_aload_n (pc := 78) (i := 0) ?_ dX11_fills_78 rfl
    refine s_getf (pc := 79) (ci := 10) (f := 24) (T := TX11) ?_ ginX11 rfl (by decide) wt_1417 dX11_fills_79
    refine s_iload_n (pc := 82) (i := 3) ?_ dX11_fills_82 rfl
    refine s_aaload (pc := 83) (t := 4) ?_ (by decide) rfl dX11_fills_83
    refine s_iconst (pc := 84) (v := 2) ?_ dX11_fills_84 (by decide)
    refine s_iaload (pc := 85) ?_ dX11_fills_85
    refine s_idiv (pc := 86) ?_ dX11_fills_86
    refine s_istore_n (pc := 87) (i := 2) ?_ dX11_fills_87 rfl (by decide)
    refine s_iinc (pc := 88) (i := 3) (v := (-1)) ?_ dX11_fills_88 (by decide) (by decide)
    exact s_goto (pc := 91) (tgt := 43) h2 dX11_fills_91 (by decide)
def jX11_fills (g : GE) : Nat → Nat → KT
  | 0, _ => fun _ _ _ => none
  | n + 1, 0 => bX11_fills_0 g (jX11_fills g n)
  | n + 1, 1 => bX11_fills_1 g (jX11_fills g n)
  | n + 1, 2 => bX11_fills_2 g (jX11_fills g n)
  | _ + 1, _ + 3 => fun _ _ _ => none
theorem sjX11_fills (g : GE) : ∀ n, Snd mX11_fills g 0 (jX11_fills g n 0) ∧ Snd mX11_fills g 4 (jX11_fills g n 1) ∧ Snd mX11_fills g 43 (jX11_fills g n 2)
  | 0 => ⟨s_none, s_none, s_none⟩
  | n + 1 => by
    obtain ⟨-, h1, h2⟩ := sjX11_fills g n
    exact ⟨sbX11_fills_0 g _ h1 h2, sbX11_fills_1 g _ h1 h2, sbX11_fills_2 g _ h1 h2⟩
def kX11_fills (g : GE) : KT := jX11_fills g g.1 0
theorem sX11_fills (g : GE) : Snd mX11_fills g 0 (kX11_fills g) := (sjX11_fills g g.1).1
def fX11_fills : FT := fun g av w => if (ent av).length ≤ 4 then kX11_fills g [] (entp 4 av) w else none
theorem tX11_fills : Mt yX11_fills cX11_fills 4 none 1 30 fX11_fills := Mt.of (K := kX11_fills) (by decide +kernel) (fun _ _ _ => rfl) sX11_fills
theorem crX11_fills : yX11_fills.cls ≠ "java/lang/invoke/MethodHandle" ∧ yX11_fills.cls ≠ "java/lang/invoke/VarHandle" ∧ (parseMethodDescriptor yX11_fills.desc).map (fun d => d.parameters.length) = some 1 := by decide +kernel
theorem dX11_coinTogether_0 : decode cX11_coinTogether 0 = .ok (.iconst 0, 1) := by decide +kernel
theorem dX11_coinTogether_1 : decode cX11_coinTogether 1 = .ok (.istore_n 1, 1) := by decide +kernel
theorem dX11_coinTogether_2 : decode cX11_coinTogether 2 = .ok (.iconst 0, 1) := by decide +kernel
theorem dX11_coinTogether_3 : decode cX11_coinTogether 3 = .ok (.istore_n 2, 1) := by decide +kernel
theorem dX11_coinTogether_4 : decode cX11_coinTogether 4 = .ok (.iload_n 2, 1) := by decide +kernel
theorem dX11_coinTogether_5 : decode cX11_coinTogether 5 = .ok (.aload_n 0, 1) := by decide +kernel
theorem dX11_coinTogether_6 : decode cX11_coinTogether 6 = .ok (.getfield 23, 3) := by decide +kernel
theorem dX11_coinTogether_9 : decode cX11_coinTogether 9 = .ok (.iconst 0, 1) := by decide +kernel
theorem dX11_coinTogether_10 : decode cX11_coinTogether 10 = .ok (.iaload, 1) := by decide +kernel
theorem dX11_coinTogether_11 : decode cX11_coinTogether 11 = .ok (.if_icmp .ge 18, 3) := by decide +kernel
theorem dX11_coinTogether_14 : decode cX11_coinTogether 14 = .ok (.iload_n 1, 1) := by decide +kernel
theorem dX11_coinTogether_15 : decode cX11_coinTogether 15 = .ok (.aload_n 0, 1) := by decide +kernel
theorem dX11_coinTogether_16 : decode cX11_coinTogether 16 = .ok (.getfield 98, 3) := by decide +kernel
theorem dX11_coinTogether_19 : decode cX11_coinTogether 19 = .ok (.iload_n 2, 1) := by decide +kernel
theorem dX11_coinTogether_20 : decode cX11_coinTogether 20 = .ok (.iaload, 1) := by decide +kernel
theorem dX11_coinTogether_21 : decode cX11_coinTogether 21 = .ok (.iadd, 1) := by decide +kernel
theorem dX11_coinTogether_22 : decode cX11_coinTogether 22 = .ok (.istore_n 1, 1) := by decide +kernel
theorem dX11_coinTogether_23 : decode cX11_coinTogether 23 = .ok (.iinc 2 1, 3) := by decide +kernel
theorem dX11_coinTogether_26 : decode cX11_coinTogether 26 = .ok (.goto (-22), 3) := by decide +kernel
theorem dX11_coinTogether_29 : decode cX11_coinTogether 29 = .ok (.iload_n 1, 1) := by decide +kernel
theorem dX11_coinTogether_30 : decode cX11_coinTogether 30 = .ok (.ireturn, 1) := by decide +kernel
abbrev mX11_coinTogether : MD := (cX11_coinTogether, "BlottedDeedModel", 3, 1, 30, (some .int), "coinTogether", [])
def bX11_coinTogether_0 (g : GE) (J : Nat → KT) : KT := i_push (.int 0) (i_istore 1 (i_push (.int 0) (i_istore 2 (i_jmp [true, true, true] (J 1)))))
def bX11_coinTogether_1 (g : GE) (J : Nat → KT) : KT := i_iload 2 (i_aload 0 (i_getf 10 11 (i_push (.int 0) (i_iaload (i_icge (i_iload 1 (i_ireturn)) (i_iload 1 (i_aload 0 (i_getf 10 40 (i_iload 2 (i_iaload (i_iadd (i_istore 1 (i_iinc 2 1 (i_jmp [true, true, true] (J 1)))))))))))))))
theorem sbX11_coinTogether_0 (g : GE) (J : Nat → KT) (h1 : Snd mX11_coinTogether g 4 (J 1)) : Snd mX11_coinTogether g 0 (bX11_coinTogether_0 g J) := by
  unfold bX11_coinTogether_0
  refine s_iconst (pc := 0) (v := 0) ?_ dX11_coinTogether_0 (by decide)
  refine s_istore_n (pc := 1) (i := 1) ?_ dX11_coinTogether_1 rfl (by decide)
  refine s_iconst (pc := 2) (v := 0) ?_ dX11_coinTogether_2 (by decide)
  refine s_istore_n (pc := 3) (i := 2) ?_ dX11_coinTogether_3 rfl (by decide)
  exact s_fall (pc := 4) h1
theorem sbX11_coinTogether_1 (g : GE) (J : Nat → KT) (h1 : Snd mX11_coinTogether g 4 (J 1)) : Snd mX11_coinTogether g 4 (bX11_coinTogether_1 g J) := by
  unfold bX11_coinTogether_1
  refine s_iload_n (pc := 4) (i := 2) ?_ dX11_coinTogether_4 rfl
  refine s_aload_n (pc := 5) (i := 0) ?_ dX11_coinTogether_5 rfl
  refine s_getf (pc := 6) (ci := 10) (f := 11) (T := TX11) ?_ ginX11 rfl (by decide) wt_1404 dX11_coinTogether_6
  refine s_iconst (pc := 9) (v := 0) ?_ dX11_coinTogether_9 (by decide)
  refine s_iaload (pc := 10) ?_ dX11_coinTogether_10
  refine s_icge (pc := 11) (tgt := 29) ?_ ?_ dX11_coinTogether_11 (by decide)
  · skip
    refine s_iload_n (pc := 29) (i := 1) ?_ dX11_coinTogether_29 rfl
    exact s_ireturn (pc := 30) rfl dX11_coinTogether_30
  · skip
    refine s_iload_n (pc := 14) (i := 1) ?_ dX11_coinTogether_14 rfl
    refine s_aload_n (pc := 15) (i := 0) ?_ dX11_coinTogether_15 rfl
    refine s_getf (pc := 16) (ci := 10) (f := 40) (T := TX11) ?_ ginX11 rfl (by decide) wt_1433 dX11_coinTogether_16
    refine s_iload_n (pc := 19) (i := 2) ?_ dX11_coinTogether_19 rfl
    refine s_iaload (pc := 20) ?_ dX11_coinTogether_20
    refine s_iadd (pc := 21) ?_ dX11_coinTogether_21
    refine s_istore_n (pc := 22) (i := 1) ?_ dX11_coinTogether_22 rfl (by decide)
    refine s_iinc (pc := 23) (i := 2) (v := 1) ?_ dX11_coinTogether_23 (by decide) (by decide)
    exact s_goto (pc := 26) (tgt := 4) h1 dX11_coinTogether_26 (by decide)
def jX11_coinTogether (g : GE) : Nat → Nat → KT
  | 0, _ => fun _ _ _ => none
  | n + 1, 0 => bX11_coinTogether_0 g (jX11_coinTogether g n)
  | n + 1, 1 => bX11_coinTogether_1 g (jX11_coinTogether g n)
  | _ + 1, _ + 2 => fun _ _ _ => none
theorem sjX11_coinTogether (g : GE) : ∀ n, Snd mX11_coinTogether g 0 (jX11_coinTogether g n 0) ∧ Snd mX11_coinTogether g 4 (jX11_coinTogether g n 1)
  | 0 => ⟨s_none, s_none⟩
  | n + 1 => by
    obtain ⟨-, h1⟩ := sjX11_coinTogether g n
    exact ⟨sbX11_coinTogether_0 g _ h1, sbX11_coinTogether_1 g _ h1⟩
def kX11_coinTogether (g : GE) : KT := jX11_coinTogether g g.1 0
theorem sX11_coinTogether (g : GE) : Snd mX11_coinTogether g 0 (kX11_coinTogether g) := (sjX11_coinTogether g g.1).1
def fX11_coinTogether : FT := fun g av w => if (ent av).length ≤ 3 then kX11_coinTogether g [] (entp 3 av) w else none
theorem tX11_coinTogether : Mt yX11_coinTogether cX11_coinTogether 3 (some .int) 1 30 fX11_coinTogether := Mt.of (K := kX11_coinTogether) (by decide +kernel) (fun _ _ _ => rfl) sX11_coinTogether
theorem crX11_coinTogether : yX11_coinTogether.cls ≠ "java/lang/invoke/MethodHandle" ∧ yX11_coinTogether.cls ≠ "java/lang/invoke/VarHandle" ∧ (parseMethodDescriptor yX11_coinTogether.desc).map (fun d => d.parameters.length) = some 0 := by decide +kernel
theorem dX11_broken_0 : decode cX11_broken 0 = .ok (.aload_n 0, 1) := by decide +kernel
theorem dX11_broken_1 : decode cX11_broken 1 = .ok (.invokevirtual 241, 3) := by decide +kernel
theorem dX11_broken_4 : decode cX11_broken 4 = .ok (.iload_n 1, 1) := by decide +kernel
theorem dX11_broken_5 : decode cX11_broken 5 = .ok (.if_icmp .ne 7, 3) := by decide +kernel
theorem dX11_broken_8 : decode cX11_broken 8 = .ok (.iconst 0, 1) := by decide +kernel
theorem dX11_broken_9 : decode cX11_broken 9 = .ok (.goto 4, 3) := by decide +kernel
theorem dX11_broken_12 : decode cX11_broken 12 = .ok (.iconst 1, 1) := by decide +kernel
theorem dX11_broken_13 : decode cX11_broken 13 = .ok (.aload_n 0, 1) := by decide +kernel
theorem dX11_broken_14 : decode cX11_broken 14 = .ok (.getfield 237, 3) := by decide +kernel
theorem dX11_broken_17 : decode cX11_broken 17 = .ok (.ifCond .eq 7, 3) := by decide +kernel
theorem dX11_broken_20 : decode cX11_broken 20 = .ok (.iconst 2, 1) := by decide +kernel
theorem dX11_broken_21 : decode cX11_broken 21 = .ok (.goto 4, 3) := by decide +kernel
theorem dX11_broken_24 : decode cX11_broken 24 = .ok (.iconst 0, 1) := by decide +kernel
theorem dX11_broken_25 : decode cX11_broken 25 = .ok (.ior, 1) := by decide +kernel
theorem dX11_broken_26 : decode cX11_broken 26 = .ok (.istore_n 2, 1) := by decide +kernel
theorem dX11_broken_27 : decode cX11_broken 27 = .ok (.iconst 0, 1) := by decide +kernel
theorem dX11_broken_28 : decode cX11_broken 28 = .ok (.istore_n 3, 1) := by decide +kernel
theorem dX11_broken_29 : decode cX11_broken 29 = .ok (.iload_n 3, 1) := by decide +kernel
theorem dX11_broken_30 : decode cX11_broken 30 = .ok (.aload_n 0, 1) := by decide +kernel
theorem dX11_broken_31 : decode cX11_broken 31 = .ok (.getfield 23, 3) := by decide +kernel
theorem dX11_broken_34 : decode cX11_broken 34 = .ok (.iconst 0, 1) := by decide +kernel
theorem dX11_broken_35 : decode cX11_broken 35 = .ok (.iaload, 1) := by decide +kernel
theorem dX11_broken_36 : decode cX11_broken 36 = .ok (.if_icmp .ge 32, 3) := by decide +kernel
theorem dX11_broken_39 : decode cX11_broken 39 = .ok (.iload_n 2, 1) := by decide +kernel
theorem dX11_broken_40 : decode cX11_broken 40 = .ok (.aload_n 0, 1) := by decide +kernel
theorem dX11_broken_41 : decode cX11_broken 41 = .ok (.getfield 98, 3) := by decide +kernel
theorem dX11_broken_44 : decode cX11_broken 44 = .ok (.iload_n 3, 1) := by decide +kernel
theorem dX11_broken_45 : decode cX11_broken 45 = .ok (.iaload, 1) := by decide +kernel
theorem dX11_broken_46 : decode cX11_broken 46 = .ok (.aload_n 0, 1) := by decide +kernel
theorem dX11_broken_47 : decode cX11_broken 47 = .ok (.getfield 41, 3) := by decide +kernel
theorem dX11_broken_50 : decode cX11_broken 50 = .ok (.iload_n 3, 1) := by decide +kernel
theorem dX11_broken_51 : decode cX11_broken 51 = .ok (.iaload, 1) := by decide +kernel
theorem dX11_broken_52 : decode cX11_broken 52 = .ok (.if_icmp .ge 7, 3) := by decide +kernel
theorem dX11_broken_55 : decode cX11_broken 55 = .ok (.iconst 4, 1) := by decide +kernel
theorem dX11_broken_56 : decode cX11_broken 56 = .ok (.goto 4, 3) := by decide +kernel
theorem dX11_broken_59 : decode cX11_broken 59 = .ok (.iconst 0, 1) := by decide +kernel
theorem dX11_broken_60 : decode cX11_broken 60 = .ok (.ior, 1) := by decide +kernel
theorem dX11_broken_61 : decode cX11_broken 61 = .ok (.istore_n 2, 1) := by decide +kernel
theorem dX11_broken_62 : decode cX11_broken 62 = .ok (.iinc 3 1, 3) := by decide +kernel
theorem dX11_broken_65 : decode cX11_broken 65 = .ok (.goto (-36), 3) := by decide +kernel
theorem dX11_broken_68 : decode cX11_broken 68 = .ok (.iload_n 2, 1) := by decide +kernel
theorem dX11_broken_69 : decode cX11_broken 69 = .ok (.ireturn, 1) := by decide +kernel
abbrev mX11_broken : MD := (cX11_broken, "BlottedDeedModel", 4, 2, 52, (some .int), "broken", [])
def bX11_broken_0 (g : GE) (J : Nat → KT) : KT := i_aload 0 (i_cv fX11_coinTogether g 0 10 (i_iload 1 (i_icne (i_push (.int 1) (i_jmp [true, false, false, false] (J 1))) (i_push (.int 0) (i_jmp [true, false, false, false] (J 1))))))
def bX11_broken_1 (g : GE) (J : Nat → KT) : KT := i_aload 0 (i_getf 10 42 (i_ifeq (i_push (.int 0) (i_jmp [true, false, false, false] (J 2))) (i_push (.int 2) (i_jmp [true, false, false, false] (J 2)))))
def bX11_broken_2 (g : GE) (J : Nat → KT) : KT := i_ior (i_istore 2 (i_push (.int 0) (i_istore 3 (i_jmp [true, false, true, true] (J 3)))))
def bX11_broken_3 (g : GE) (J : Nat → KT) : KT := i_iload 3 (i_aload 0 (i_getf 10 11 (i_push (.int 0) (i_iaload (i_icge (i_iload 2 (i_ireturn)) (i_iload 2 (i_aload 0 (i_getf 10 40 (i_iload 3 (i_iaload (i_aload 0 (i_getf 10 17 (i_iload 3 (i_iaload (i_icge (i_push (.int 0) (i_jmp [true, false, false, true] (J 4))) (i_push (.int 4) (i_jmp [true, false, false, true] (J 4))))))))))))))))))
def bX11_broken_4 (g : GE) (J : Nat → KT) : KT := i_ior (i_istore 2 (i_iinc 3 1 (i_jmp [true, false, true, true] (J 3))))
theorem sbX11_broken_0 (g : GE) (J : Nat → KT) (h1 : Snd mX11_broken g 13 (J 1)) (h2 : Snd mX11_broken g 25 (J 2)) (h3 : Snd mX11_broken g 29 (J 3)) (h4 : Snd mX11_broken g 60 (J 4)) : Snd mX11_broken g 0 (bX11_broken_0 g J) := by
  unfold bX11_broken_0
  refine s_aload_n (pc := 0) (i := 0) ?_ dX11_broken_0 rfl
  refine s_cv (pc := 1) (n := 0) (ci := 10) ?_ tX11_coinTogether rfl rfl wt_1389 wt_1391 wp_48 wt_17 wt_1392 ⟨crX11_coinTogether, by decide, by decide⟩ dX11_broken_1
  refine s_iload_n (pc := 4) (i := 1) ?_ dX11_broken_4 rfl
  refine s_icne (pc := 5) (tgt := 12) ?_ ?_ dX11_broken_5 (by decide)
  · skip
    refine s_iconst (pc := 12) (v := 1) ?_ dX11_broken_12 (by decide)
    exact s_fall (pc := 13) h1
  · skip
    refine s_iconst (pc := 8) (v := 0) ?_ dX11_broken_8 (by decide)
    exact s_goto (pc := 9) (tgt := 13) h1 dX11_broken_9 (by decide)
theorem sbX11_broken_1 (g : GE) (J : Nat → KT) (h1 : Snd mX11_broken g 13 (J 1)) (h2 : Snd mX11_broken g 25 (J 2)) (h3 : Snd mX11_broken g 29 (J 3)) (h4 : Snd mX11_broken g 60 (J 4)) : Snd mX11_broken g 13 (bX11_broken_1 g J) := by
  unfold bX11_broken_1
  refine s_aload_n (pc := 13) (i := 0) ?_ dX11_broken_13 rfl
  refine s_getf (pc := 14) (ci := 10) (f := 42) (T := TX11) ?_ ginX11 rfl (by decide) wt_1435 dX11_broken_14
  refine s_ifeq (pc := 17) (tgt := 24) ?_ ?_ dX11_broken_17 (by decide)
  · skip
    refine s_iconst (pc := 24) (v := 0) ?_ dX11_broken_24 (by decide)
    exact s_fall (pc := 25) h2
  · skip
    refine s_iconst (pc := 20) (v := 2) ?_ dX11_broken_20 (by decide)
    exact s_goto (pc := 21) (tgt := 25) h2 dX11_broken_21 (by decide)
theorem sbX11_broken_2 (g : GE) (J : Nat → KT) (h1 : Snd mX11_broken g 13 (J 1)) (h2 : Snd mX11_broken g 25 (J 2)) (h3 : Snd mX11_broken g 29 (J 3)) (h4 : Snd mX11_broken g 60 (J 4)) : Snd mX11_broken g 25 (bX11_broken_2 g J) := by
  unfold bX11_broken_2
  refine s_ior (pc := 25) ?_ dX11_broken_25
  refine s_istore_n (pc := 26) (i := 2) ?_ dX11_broken_26 rfl (by decide)
  refine s_iconst (pc := 27) (v := 0) ?_ dX11_broken_27 (by decide)
  refine s_istore_n (pc := 28) (i := 3) ?_ dX11_broken_28 rfl (by decide)
  exact s_fall (pc := 29) h3
theorem sbX11_broken_3 (g : GE) (J : Nat → KT) (h1 : Snd mX11_broken g 13 (J 1)) (h2 : Snd mX11_broken g 25 (J 2)) (h3 : Snd mX11_broken g 29 (J 3)) (h4 : Snd mX11_broken g 60 (J 4)) : Snd mX11_broken g 29 (bX11_broken_3 g J) := by
  unfold bX11_broken_3
  refine s_iload_n (pc := 29) (i := 3) ?_ dX11_broken_29 rfl
  refine s_aload_n (pc := 30) (i := 0) ?_ dX11_broken_30 rfl
  refine s_getf (pc := 31) (ci := 10) (f := 11) (T := TX11) ?_ ginX11 rfl (by decide) wt_1404 dX11_broken_31
  refine s_iconst (pc := 34) (v := 0) ?_ dX11_broken_34 (by decide)
  refine s_iaload (pc := 35) ?_ dX11_broken_35
  refine s_icge (pc := 36) (tgt := 68) ?_ ?_ dX11_broken_36 (by decide)
  · skip
    refine s_iload_n (pc := 68) (i := 2) ?_ dX11_broken_68 rfl
    exact s_ireturn (pc := 69) rfl dX11_broken_69
  · skip
    refine s_iload_n (pc := 39) (i := 2) ?_ dX11_broken_39 rfl
    refine s_aload_n (pc := 40) (i := 0) ?_ dX11_broken_40 rfl
    refine s_getf (pc := 41) (ci := 10) (f := 40) (T := TX11) ?_ ginX11 rfl (by decide) wt_1433 dX11_broken_41
    refine s_iload_n (pc := 44) (i := 3) ?_ dX11_broken_44 rfl
    refine s_iaload (pc := 45) ?_ dX11_broken_45
    refine s_aload_n (pc := 46) (i := 0) ?_ dX11_broken_46 rfl
    refine s_getf (pc := 47) (ci := 10) (f := 17) (T := TX11) ?_ ginX11 rfl (by decide) wt_1410 dX11_broken_47
    refine s_iload_n (pc := 50) (i := 3) ?_ dX11_broken_50 rfl
    refine s_iaload (pc := 51) ?_ dX11_broken_51
    refine s_icge (pc := 52) (tgt := 59) ?_ ?_ dX11_broken_52 (by decide)
    · skip
      refine s_iconst (pc := 59) (v := 0) ?_ dX11_broken_59 (by decide)
      exact s_fall (pc := 60) h4
    · skip
      refine s_iconst (pc := 55) (v := 4) ?_ dX11_broken_55 (by decide)
      exact s_goto (pc := 56) (tgt := 60) h4 dX11_broken_56 (by decide)
theorem sbX11_broken_4 (g : GE) (J : Nat → KT) (h1 : Snd mX11_broken g 13 (J 1)) (h2 : Snd mX11_broken g 25 (J 2)) (h3 : Snd mX11_broken g 29 (J 3)) (h4 : Snd mX11_broken g 60 (J 4)) : Snd mX11_broken g 60 (bX11_broken_4 g J) := by
  unfold bX11_broken_4
  refine s_ior (pc := 60) ?_ dX11_broken_60
  refine s_istore_n (pc := 61) (i := 2) ?_ dX11_broken_61 rfl (by decide)
  refine s_iinc (pc := 62) (i := 3) (v := 1) ?_ dX11_broken_62 (by decide) (by decide)
  exact s_goto (pc := 65) (tgt := 29) h3 dX11_broken_65 (by decide)
def jX11_broken (g : GE) : Nat → Nat → KT
  | 0, _ => fun _ _ _ => none
  | n + 1, 0 => bX11_broken_0 g (jX11_broken g n)
  | n + 1, 1 => bX11_broken_1 g (jX11_broken g n)
  | n + 1, 2 => bX11_broken_2 g (jX11_broken g n)
  | n + 1, 3 => bX11_broken_3 g (jX11_broken g n)
  | n + 1, 4 => bX11_broken_4 g (jX11_broken g n)
  | _ + 1, _ + 5 => fun _ _ _ => none
theorem sjX11_broken (g : GE) : ∀ n, Snd mX11_broken g 0 (jX11_broken g n 0) ∧ Snd mX11_broken g 13 (jX11_broken g n 1) ∧ Snd mX11_broken g 25 (jX11_broken g n 2) ∧ Snd mX11_broken g 29 (jX11_broken g n 3) ∧ Snd mX11_broken g 60 (jX11_broken g n 4)
  | 0 => ⟨s_none, s_none, s_none, s_none, s_none⟩
  | n + 1 => by
    obtain ⟨-, h1, h2, h3, h4⟩ := sjX11_broken g n
    exact ⟨sbX11_broken_0 g _ h1 h2 h3 h4, sbX11_broken_1 g _ h1 h2 h3 h4, sbX11_broken_2 g _ h1 h2 h3 h4, sbX11_broken_3 g _ h1 h2 h3 h4, sbX11_broken_4 g _ h1 h2 h3 h4⟩
def kX11_broken (g : GE) : KT := jX11_broken g g.1 0
theorem sX11_broken (g : GE) : Snd mX11_broken g 0 (kX11_broken g) := (sjX11_broken g g.1).1
def fX11_broken : FT := fun g av w => if (ent av).length ≤ 4 then kX11_broken g [] (entp 4 av) w else none
theorem tX11_broken : Mt yX11_broken cX11_broken 4 (some .int) 2 52 fX11_broken := Mt.of (K := kX11_broken) (by decide +kernel) (fun _ _ _ => rfl) sX11_broken
theorem crX11_broken : yX11_broken.cls ≠ "java/lang/invoke/MethodHandle" ∧ yX11_broken.cls ≠ "java/lang/invoke/VarHandle" ∧ (parseMethodDescriptor yX11_broken.desc).map (fun d => d.parameters.length) = some 1 := by decide +kernel
theorem dX11_bars_0 : decode cX11_bars 0 = .ok (.aload_n 0, 1) := by decide +kernel
theorem dX11_bars_1 : decode cX11_bars 1 = .ok (.iconst 0, 1) := by decide +kernel
theorem dX11_bars_2 : decode cX11_bars 2 = .ok (.putfield 120, 3) := by decide +kernel
theorem dX11_bars_5 : decode cX11_bars 5 = .ok (.aload_n 0, 1) := by decide +kernel
theorem dX11_bars_6 : decode cX11_bars 6 = .ok (.getfield 244, 3) := by decide +kernel
theorem dX11_bars_9 : decode cX11_bars 9 = .ok (.ifCond .le 5, 3) := by decide +kernel
theorem dX11_bars_12 : decode cX11_bars 12 = .ok (.iconst (-1), 1) := by decide +kernel
theorem dX11_bars_13 : decode cX11_bars 13 = .ok (.ireturn, 1) := by decide +kernel
theorem dX11_bars_14 : decode cX11_bars 14 = .ok (.iconst 0, 1) := by decide +kernel
theorem dX11_bars_15 : decode cX11_bars 15 = .ok (.istore_n 1, 1) := by decide +kernel
theorem dX11_bars_16 : decode cX11_bars 16 = .ok (.iconst 0, 1) := by decide +kernel
theorem dX11_bars_17 : decode cX11_bars 17 = .ok (.istore_n 2, 1) := by decide +kernel
theorem dX11_bars_18 : decode cX11_bars 18 = .ok (.iload_n 2, 1) := by decide +kernel
theorem dX11_bars_19 : decode cX11_bars 19 = .ok (.aload_n 0, 1) := by decide +kernel
theorem dX11_bars_20 : decode cX11_bars 20 = .ok (.getfield 23, 3) := by decide +kernel
theorem dX11_bars_23 : decode cX11_bars 23 = .ok (.bipush 6, 2) := by decide +kernel
theorem dX11_bars_25 : decode cX11_bars 25 = .ok (.iaload, 1) := by decide +kernel
theorem dX11_bars_26 : decode cX11_bars 26 = .ok (.if_icmp .ge 67, 3) := by decide +kernel
theorem dX11_bars_29 : decode cX11_bars 29 = .ok (.aload_n 0, 1) := by decide +kernel
theorem dX11_bars_30 : decode cX11_bars 30 = .ok (.iload_n 2, 1) := by decide +kernel
theorem dX11_bars_31 : decode cX11_bars 31 = .ok (.invokevirtual 247, 3) := by decide +kernel
theorem dX11_bars_34 : decode cX11_bars 34 = .ok (.aload_n 0, 1) := by decide +kernel
theorem dX11_bars_35 : decode cX11_bars 35 = .ok (.iconst (-1), 1) := by decide +kernel
theorem dX11_bars_36 : decode cX11_bars 36 = .ok (.invokevirtual 250, 3) := by decide +kernel
theorem dX11_bars_39 : decode cX11_bars 39 = .ok (.aload_n 0, 1) := by decide +kernel
theorem dX11_bars_40 : decode cX11_bars 40 = .ok (.aload_n 0, 1) := by decide +kernel
theorem dX11_bars_41 : decode cX11_bars 41 = .ok (.getfield 23, 3) := by decide +kernel
theorem dX11_bars_44 : decode cX11_bars 44 = .ok (.iconst 4, 1) := by decide +kernel
theorem dX11_bars_45 : decode cX11_bars 45 = .ok (.iaload, 1) := by decide +kernel
theorem dX11_bars_46 : decode cX11_bars 46 = .ok (.invokevirtual 253, 3) := by decide +kernel
theorem dX11_bars_49 : decode cX11_bars 49 = .ok (.istore_n 3, 1) := by decide +kernel
theorem dX11_bars_50 : decode cX11_bars 50 = .ok (.iconst 0, 1) := by decide +kernel
theorem dX11_bars_51 : decode cX11_bars 51 = .ok (.istore 4, 2) := by decide +kernel
theorem dX11_bars_53 : decode cX11_bars 53 = .ok (.iload 4, 2) := by decide +kernel
theorem dX11_bars_55 : decode cX11_bars 55 = .ok (.iconst 3, 1) := by decide +kernel
theorem dX11_bars_56 : decode cX11_bars 56 = .ok (.if_icmp .ge 31, 3) := by decide +kernel
theorem dX11_bars_59 : decode cX11_bars 59 = .ok (.iload_n 1, 1) := by decide +kernel
theorem dX11_bars_60 : decode cX11_bars 60 = .ok (.iload_n 3, 1) := by decide +kernel
theorem dX11_bars_61 : decode cX11_bars 61 = .ok (.iconst 1, 1) := by decide +kernel
theorem dX11_bars_62 : decode cX11_bars 62 = .ok (.iload 4, 2) := by decide +kernel
theorem dX11_bars_64 : decode cX11_bars 64 = .ok (.ishl, 1) := by decide +kernel
theorem dX11_bars_65 : decode cX11_bars 65 = .ok (.iconst (-1), 1) := by decide +kernel
theorem dX11_bars_66 : decode cX11_bars 66 = .ok (.ixor, 1) := by decide +kernel
theorem dX11_bars_67 : decode cX11_bars 67 = .ok (.iand, 1) := by decide +kernel
theorem dX11_bars_68 : decode cX11_bars 68 = .ok (.ifCond .ne 10, 3) := by decide +kernel
theorem dX11_bars_71 : decode cX11_bars 71 = .ok (.iconst 1, 1) := by decide +kernel
theorem dX11_bars_72 : decode cX11_bars 72 = .ok (.iload 4, 2) := by decide +kernel
theorem dX11_bars_74 : decode cX11_bars 74 = .ok (.ishl, 1) := by decide +kernel
theorem dX11_bars_75 : decode cX11_bars 75 = .ok (.goto 4, 3) := by decide +kernel
theorem dX11_bars_78 : decode cX11_bars 78 = .ok (.iconst 0, 1) := by decide +kernel
theorem dX11_bars_79 : decode cX11_bars 79 = .ok (.ior, 1) := by decide +kernel
theorem dX11_bars_80 : decode cX11_bars 80 = .ok (.istore_n 1, 1) := by decide +kernel
theorem dX11_bars_81 : decode cX11_bars 81 = .ok (.iinc 4 1, 3) := by decide +kernel
theorem dX11_bars_84 : decode cX11_bars 84 = .ok (.goto (-31), 3) := by decide +kernel
theorem dX11_bars_87 : decode cX11_bars 87 = .ok (.iinc 2 1, 3) := by decide +kernel
theorem dX11_bars_90 : decode cX11_bars 90 = .ok (.goto (-72), 3) := by decide +kernel
theorem dX11_bars_93 : decode cX11_bars 93 = .ok (.iconst 0, 1) := by decide +kernel
theorem dX11_bars_94 : decode cX11_bars 94 = .ok (.istore_n 2, 1) := by decide +kernel
theorem dX11_bars_95 : decode cX11_bars 95 = .ok (.iload_n 2, 1) := by decide +kernel
theorem dX11_bars_96 : decode cX11_bars 96 = .ok (.iconst 3, 1) := by decide +kernel
theorem dX11_bars_97 : decode cX11_bars 97 = .ok (.if_icmp .ge 20, 3) := by decide +kernel
theorem dX11_bars_100 : decode cX11_bars 100 = .ok (.iload_n 1, 1) := by decide +kernel
theorem dX11_bars_101 : decode cX11_bars 101 = .ok (.iload_n 2, 1) := by decide +kernel
theorem dX11_bars_102 : decode cX11_bars 102 = .ok (.ishr, 1) := by decide +kernel
theorem dX11_bars_103 : decode cX11_bars 103 = .ok (.iconst 1, 1) := by decide +kernel
theorem dX11_bars_104 : decode cX11_bars 104 = .ok (.iand, 1) := by decide +kernel
theorem dX11_bars_105 : decode cX11_bars 105 = .ok (.iconst 1, 1) := by decide +kernel
theorem dX11_bars_106 : decode cX11_bars 106 = .ok (.if_icmp .ne 5, 3) := by decide +kernel
theorem dX11_bars_109 : decode cX11_bars 109 = .ok (.iload_n 2, 1) := by decide +kernel
theorem dX11_bars_110 : decode cX11_bars 110 = .ok (.ireturn, 1) := by decide +kernel
theorem dX11_bars_111 : decode cX11_bars 111 = .ok (.iinc 2 1, 3) := by decide +kernel
theorem dX11_bars_114 : decode cX11_bars 114 = .ok (.goto (-19), 3) := by decide +kernel
theorem dX11_bars_117 : decode cX11_bars 117 = .ok (.iconst (-1), 1) := by decide +kernel
theorem dX11_bars_118 : decode cX11_bars 118 = .ok (.ireturn, 1) := by decide +kernel
abbrev mX11_bars : MD := (cX11_bars, "BlottedDeedModel", 5, 3, 75, (some .int), "bars", [])
def bX11_bars_0 (g : GE) (J : Nat → KT) : KT := i_aload 0 (i_push (.int 0) (i_putf 10 0 .int (i_aload 0 (i_getf 10 27 (i_ifle (i_push (.int 0) (i_istore 1 (i_push (.int 0) (i_istore 2 (i_jmp [true, true, true, false, false] (J 1)))))) (i_push (.int (-1)) (i_ireturn)))))))
def bX11_bars_1 (g : GE) (J : Nat → KT) : KT := i_iload 2 (i_aload 0 (i_getf 10 11 (i_push (.int 6) (i_iaload (i_icge (i_push (.int 0) (i_istore 2 (i_jmp [false, true, true, false, false] (J 4)))) (i_aload 0 (i_iload 2 (i_cv fX11_fills g 1 10 (i_aload 0 (i_push (.int (-1)) (i_cv fX11_asks g 1 10 (i_aload 0 (i_aload 0 (i_getf 10 11 (i_push (.int 4) (i_iaload (i_cv fX11_broken g 1 10 (i_istore 3 (i_push (.int 0) (i_istore 4 (i_jmp [true, true, true, true, true] (J 2))))))))))))))))))))))
def bX11_bars_2 (g : GE) (J : Nat → KT) : KT := i_iload 4 (i_push (.int 3) (i_icge (i_iinc 2 1 (i_jmp [true, true, true, false, false] (J 1))) (i_iload 1 (i_iload 3 (i_push (.int 1) (i_iload 4 (i_ishl (i_push (.int (-1)) (i_ixor (i_iand (i_ifne (i_push (.int 0) (i_jmp [true, false, true, true, true] (J 3))) (i_push (.int 1) (i_iload 4 (i_ishl (i_jmp [true, false, true, true, true] (J 3))))))))))))))))
def bX11_bars_3 (g : GE) (J : Nat → KT) : KT := i_ior (i_istore 1 (i_iinc 4 1 (i_jmp [true, true, true, true, true] (J 2))))
def bX11_bars_4 (g : GE) (J : Nat → KT) : KT := i_iload 2 (i_push (.int 3) (i_icge (i_push (.int (-1)) (i_ireturn)) (i_iload 1 (i_iload 2 (i_ishr (i_push (.int 1) (i_iand (i_push (.int 1) (i_icne (i_iinc 2 1 (i_jmp [false, true, true, false, false] (J 4))) (i_iload 2 (i_ireturn)))))))))))
theorem sbX11_bars_0 (g : GE) (J : Nat → KT) (h1 : Snd mX11_bars g 18 (J 1)) (h2 : Snd mX11_bars g 53 (J 2)) (h3 : Snd mX11_bars g 79 (J 3)) (h4 : Snd mX11_bars g 95 (J 4)) : Snd mX11_bars g 0 (bX11_bars_0 g J) := by
  unfold bX11_bars_0
  refine s_aload_n (pc := 0) (i := 0) ?_ dX11_bars_0 rfl
  refine s_iconst (pc := 1) (v := 0) ?_ dX11_bars_1 (by decide)
  refine s_putf (pc := 2) (ci := 10) (f := 0) (T := TX11) (ty0 := tyX11) ?_ ginX11 tyX11_ok nmX11 rfl (by decide) rfl rfl wt_1393 dX11_bars_2
  refine s_aload_n (pc := 5) (i := 0) ?_ dX11_bars_5 rfl
  refine s_getf (pc := 6) (ci := 10) (f := 27) (T := TX11) ?_ ginX11 rfl (by decide) wt_1420 dX11_bars_6
  refine s_ifle (pc := 9) (tgt := 14) ?_ ?_ dX11_bars_9 (by decide)
  · skip
    refine s_iconst (pc := 14) (v := 0) ?_ dX11_bars_14 (by decide)
    refine s_istore_n (pc := 15) (i := 1) ?_ dX11_bars_15 rfl (by decide)
    refine s_iconst (pc := 16) (v := 0) ?_ dX11_bars_16 (by decide)
    refine s_istore_n (pc := 17) (i := 2) ?_ dX11_bars_17 rfl (by decide)
    exact s_fall (pc := 18) h1
  · skip
    refine s_iconst (pc := 12) (v := (-1)) ?_ dX11_bars_12 (by decide)
    exact s_ireturn (pc := 13) rfl dX11_bars_13
theorem sbX11_bars_1 (g : GE) (J : Nat → KT) (h1 : Snd mX11_bars g 18 (J 1)) (h2 : Snd mX11_bars g 53 (J 2)) (h3 : Snd mX11_bars g 79 (J 3)) (h4 : Snd mX11_bars g 95 (J 4)) : Snd mX11_bars g 18 (bX11_bars_1 g J) := by
  unfold bX11_bars_1
  refine s_iload_n (pc := 18) (i := 2) ?_ dX11_bars_18 rfl
  refine s_aload_n (pc := 19) (i := 0) ?_ dX11_bars_19 rfl
  refine s_getf (pc := 20) (ci := 10) (f := 11) (T := TX11) ?_ ginX11 rfl (by decide) wt_1404 dX11_bars_20
  refine s_bipush (pc := 23) (v := 6) ?_ dX11_bars_23 (by decide)
  refine s_iaload (pc := 25) ?_ dX11_bars_25
  refine s_icge (pc := 26) (tgt := 93) ?_ ?_ dX11_bars_26 (by decide)
  · skip
    refine s_iconst (pc := 93) (v := 0) ?_ dX11_bars_93 (by decide)
    refine s_istore_n (pc := 94) (i := 2) ?_ dX11_bars_94 rfl (by decide)
    exact s_fall (pc := 95) h4
  · skip
    refine s_aload_n (pc := 29) (i := 0) ?_ dX11_bars_29 rfl
    refine s_iload_n (pc := 30) (i := 2) ?_ dX11_bars_30 rfl
    refine s_cv (pc := 31) (n := 1) (ci := 10) ?_ tX11_fills rfl rfl wt_1377 wt_1379 wp_45 wt_17 wt_1380 ⟨crX11_fills, by decide, by decide⟩ dX11_bars_31
    refine s_aload_n (pc := 34) (i := 0) ?_ dX11_bars_34 rfl
    refine s_iconst (pc := 35) (v := (-1)) ?_ dX11_bars_35 (by decide)
    refine s_cv (pc := 36) (n := 1) (ci := 10) ?_ tX11_asks rfl rfl wt_1381 wt_1383 wp_46 wt_17 wt_1384 ⟨crX11_asks, by decide, by decide⟩ dX11_bars_36
    refine s_aload_n (pc := 39) (i := 0) ?_ dX11_bars_39 rfl
    refine s_aload_n (pc := 40) (i := 0) ?_ dX11_bars_40 rfl
    refine s_getf (pc := 41) (ci := 10) (f := 11) (T := TX11) ?_ ginX11 rfl (by decide) wt_1404 dX11_bars_41
    refine s_iconst (pc := 44) (v := 4) ?_ dX11_bars_44 (by decide)
    refine s_iaload (pc := 45) ?_ dX11_bars_45
    refine s_cv (pc := 46) (n := 1) (ci := 10) ?_ tX11_broken rfl rfl wt_1385 wt_1387 wp_47 wt_17 wt_1388 ⟨crX11_broken, by decide, by decide⟩ dX11_bars_46
    refine s_istore_n (pc := 49) (i := 3) ?_ dX11_bars_49 rfl (by decide)
    refine s_iconst (pc := 50) (v := 0) ?_ dX11_bars_50 (by decide)
    refine s_istore (pc := 51) (i := 4) ?_ dX11_bars_51 (by decide)
    exact s_fall (pc := 53) h2
theorem sbX11_bars_2 (g : GE) (J : Nat → KT) (h1 : Snd mX11_bars g 18 (J 1)) (h2 : Snd mX11_bars g 53 (J 2)) (h3 : Snd mX11_bars g 79 (J 3)) (h4 : Snd mX11_bars g 95 (J 4)) : Snd mX11_bars g 53 (bX11_bars_2 g J) := by
  unfold bX11_bars_2
  refine s_iload (pc := 53) (i := 4) ?_ dX11_bars_53
  refine s_iconst (pc := 55) (v := 3) ?_ dX11_bars_55 (by decide)
  refine s_icge (pc := 56) (tgt := 87) ?_ ?_ dX11_bars_56 (by decide)
  · skip
    refine s_iinc (pc := 87) (i := 2) (v := 1) ?_ dX11_bars_87 (by decide) (by decide)
    exact s_goto (pc := 90) (tgt := 18) h1 dX11_bars_90 (by decide)
  · skip
    refine s_iload_n (pc := 59) (i := 1) ?_ dX11_bars_59 rfl
    refine s_iload_n (pc := 60) (i := 3) ?_ dX11_bars_60 rfl
    refine s_iconst (pc := 61) (v := 1) ?_ dX11_bars_61 (by decide)
    refine s_iload (pc := 62) (i := 4) ?_ dX11_bars_62
    refine s_ishl (pc := 64) ?_ dX11_bars_64
    refine s_iconst (pc := 65) (v := (-1)) ?_ dX11_bars_65 (by decide)
    refine s_ixor (pc := 66) ?_ dX11_bars_66
    refine s_iand (pc := 67) ?_ dX11_bars_67
    refine s_ifne (pc := 68) (tgt := 78) ?_ ?_ dX11_bars_68 (by decide)
    · skip
      refine s_iconst (pc := 78) (v := 0) ?_ dX11_bars_78 (by decide)
      exact s_fall (pc := 79) h3
    · skip
      refine s_iconst (pc := 71) (v := 1) ?_ dX11_bars_71 (by decide)
      refine s_iload (pc := 72) (i := 4) ?_ dX11_bars_72
      refine s_ishl (pc := 74) ?_ dX11_bars_74
      exact s_goto (pc := 75) (tgt := 79) h3 dX11_bars_75 (by decide)
theorem sbX11_bars_3 (g : GE) (J : Nat → KT) (h1 : Snd mX11_bars g 18 (J 1)) (h2 : Snd mX11_bars g 53 (J 2)) (h3 : Snd mX11_bars g 79 (J 3)) (h4 : Snd mX11_bars g 95 (J 4)) : Snd mX11_bars g 79 (bX11_bars_3 g J) := by
  unfold bX11_bars_3
  refine s_ior (pc := 79) ?_ dX11_bars_79
  refine s_istore_n (pc := 80) (i := 1) ?_ dX11_bars_80 rfl (by decide)
  refine s_iinc (pc := 81) (i := 4) (v := 1) ?_ dX11_bars_81 (by decide) (by decide)
  exact s_goto (pc := 84) (tgt := 53) h2 dX11_bars_84 (by decide)
theorem sbX11_bars_4 (g : GE) (J : Nat → KT) (h1 : Snd mX11_bars g 18 (J 1)) (h2 : Snd mX11_bars g 53 (J 2)) (h3 : Snd mX11_bars g 79 (J 3)) (h4 : Snd mX11_bars g 95 (J 4)) : Snd mX11_bars g 95 (bX11_bars_4 g J) := by
  unfold bX11_bars_4
  refine s_iload_n (pc := 95) (i := 2) ?_ dX11_bars_95 rfl
  refine s_iconst (pc := 96) (v := 3) ?_ dX11_bars_96 (by decide)
  refine s_icge (pc := 97) (tgt := 117) ?_ ?_ dX11_bars_97 (by decide)
  · skip
    refine s_iconst (pc := 117) (v := (-1)) ?_ dX11_bars_117 (by decide)
    exact s_ireturn (pc := 118) rfl dX11_bars_118
  · skip
    refine s_iload_n (pc := 100) (i := 1) ?_ dX11_bars_100 rfl
    refine s_iload_n (pc := 101) (i := 2) ?_ dX11_bars_101 rfl
    refine s_ishr (pc := 102) ?_ dX11_bars_102
    refine s_iconst (pc := 103) (v := 1) ?_ dX11_bars_103 (by decide)
    refine s_iand (pc := 104) ?_ dX11_bars_104
    refine s_iconst (pc := 105) (v := 1) ?_ dX11_bars_105 (by decide)
    refine s_icne (pc := 106) (tgt := 111) ?_ ?_ dX11_bars_106 (by decide)
    · skip
      refine s_iinc (pc := 111) (i := 2) (v := 1) ?_ dX11_bars_111 (by decide) (by decide)
      exact s_goto (pc := 114) (tgt := 95) h4 dX11_bars_114 (by decide)
    · skip
      refine s_iload_n (pc := 109) (i := 2) ?_ dX11_bars_109 rfl
      exact s_ireturn (pc := 110) rfl dX11_bars_110
def jX11_bars (g : GE) : Nat → Nat → KT
  | 0, _ => fun _ _ _ => none
  | n + 1, 0 => bX11_bars_0 g (jX11_bars g n)
  | n + 1, 1 => bX11_bars_1 g (jX11_bars g n)
  | n + 1, 2 => bX11_bars_2 g (jX11_bars g n)
  | n + 1, 3 => bX11_bars_3 g (jX11_bars g n)
  | n + 1, 4 => bX11_bars_4 g (jX11_bars g n)
  | _ + 1, _ + 5 => fun _ _ _ => none
theorem sjX11_bars (g : GE) : ∀ n, Snd mX11_bars g 0 (jX11_bars g n 0) ∧ Snd mX11_bars g 18 (jX11_bars g n 1) ∧ Snd mX11_bars g 53 (jX11_bars g n 2) ∧ Snd mX11_bars g 79 (jX11_bars g n 3) ∧ Snd mX11_bars g 95 (jX11_bars g n 4)
  | 0 => ⟨s_none, s_none, s_none, s_none, s_none⟩
  | n + 1 => by
    obtain ⟨-, h1, h2, h3, h4⟩ := sjX11_bars g n
    exact ⟨sbX11_bars_0 g _ h1 h2 h3 h4, sbX11_bars_1 g _ h1 h2 h3 h4, sbX11_bars_2 g _ h1 h2 h3 h4, sbX11_bars_3 g _ h1 h2 h3 h4, sbX11_bars_4 g _ h1 h2 h3 h4⟩
def kX11_bars (g : GE) : KT := jX11_bars g g.1 0
theorem sX11_bars (g : GE) : Snd mX11_bars g 0 (kX11_bars g) := (sjX11_bars g g.1).1
def fX11_bars : FT := fun g av w => if (ent av).length ≤ 5 then kX11_bars g [] (entp 5 av) w else none
theorem tX11_bars : Mt yX11_bars cX11_bars 5 (some .int) 3 75 fX11_bars := Mt.of (K := kX11_bars) (by decide +kernel) (fun _ _ _ => rfl) sX11_bars
theorem crX11_bars : yX11_bars.cls ≠ "java/lang/invoke/MethodHandle" ∧ yX11_bars.cls ≠ "java/lang/invoke/VarHandle" ∧ (parseMethodDescriptor yX11_bars.desc).map (fun d => d.parameters.length) = some 0 := by decide +kernel
theorem dX11_behind_0 : decode cX11_behind 0 = .ok (.iload_n 3, 1) := by decide +kernel
theorem dX11_behind_1 : decode cX11_behind 1 = .ok (.iconst 1, 1) := by decide +kernel
theorem dX11_behind_2 : decode cX11_behind 2 = .ok (.iadd, 1) := by decide +kernel
theorem dX11_behind_3 : decode cX11_behind 3 = .ok (.istore 4, 2) := by decide +kernel
theorem dX11_behind_5 : decode cX11_behind 5 = .ok (.iload_n 1, 1) := by decide +kernel
theorem dX11_behind_6 : decode cX11_behind 6 = .ok (.ifCond .ne 60, 3) := by decide +kernel
theorem dX11_behind_9 : decode cX11_behind 9 = .ok (.iload 4, 2) := by decide +kernel
theorem dX11_behind_11 : decode cX11_behind 11 = .ok (.iload_n 2, 1) := by decide +kernel
theorem dX11_behind_12 : decode cX11_behind 12 = .ok (.bipush 10, 2) := by decide +kernel
theorem dX11_behind_14 : decode cX11_behind 14 = .ok (.if_icmp .ge 7, 3) := by decide +kernel
theorem dX11_behind_17 : decode cX11_behind 17 = .ok (.iconst 0, 1) := by decide +kernel
theorem dX11_behind_18 : decode cX11_behind 18 = .ok (.goto 5, 3) := by decide +kernel
theorem dX11_behind_21 : decode cX11_behind 21 = .ok (.bipush 10, 2) := by decide +kernel
theorem dX11_behind_23 : decode cX11_behind 23 = .ok (.if_icmp .ge 18, 3) := by decide +kernel
theorem dX11_behind_26 : decode cX11_behind 26 = .ok (.iload_n 2, 1) := by decide +kernel
theorem dX11_behind_27 : decode cX11_behind 27 = .ok (.bipush 10, 2) := by decide +kernel
theorem dX11_behind_29 : decode cX11_behind 29 = .ok (.if_icmp .ge 7, 3) := by decide +kernel
theorem dX11_behind_32 : decode cX11_behind 32 = .ok (.iconst 0, 1) := by decide +kernel
theorem dX11_behind_33 : decode cX11_behind 33 = .ok (.goto 32, 3) := by decide +kernel
theorem dX11_behind_36 : decode cX11_behind 36 = .ok (.bipush 10, 2) := by decide +kernel
theorem dX11_behind_38 : decode cX11_behind 38 = .ok (.goto 27, 3) := by decide +kernel
theorem dX11_behind_41 : decode cX11_behind 41 = .ok (.iload 4, 2) := by decide +kernel
theorem dX11_behind_43 : decode cX11_behind 43 = .ok (.iload_n 2, 1) := by decide +kernel
theorem dX11_behind_44 : decode cX11_behind 44 = .ok (.bipush 10, 2) := by decide +kernel
theorem dX11_behind_46 : decode cX11_behind 46 = .ok (.if_icmp .ge 8, 3) := by decide +kernel
theorem dX11_behind_49 : decode cX11_behind 49 = .ok (.bipush 10, 2) := by decide +kernel
theorem dX11_behind_51 : decode cX11_behind 51 = .ok (.goto 5, 3) := by decide +kernel
theorem dX11_behind_54 : decode cX11_behind 54 = .ok (.bipush 100, 2) := by decide +kernel
theorem dX11_behind_56 : decode cX11_behind 56 = .ok (.if_icmp .ge 8, 3) := by decide +kernel
theorem dX11_behind_59 : decode cX11_behind 59 = .ok (.iload 4, 2) := by decide +kernel
theorem dX11_behind_61 : decode cX11_behind 61 = .ok (.goto 4, 3) := by decide +kernel
theorem dX11_behind_64 : decode cX11_behind 64 = .ok (.iconst (-1), 1) := by decide +kernel
theorem dX11_behind_65 : decode cX11_behind 65 = .ok (.ireturn, 1) := by decide +kernel
theorem dX11_behind_66 : decode cX11_behind 66 = .ok (.iload_n 1, 1) := by decide +kernel
theorem dX11_behind_67 : decode cX11_behind 67 = .ok (.iconst 2, 1) := by decide +kernel
theorem dX11_behind_68 : decode cX11_behind 68 = .ok (.if_icmp .ne 14, 3) := by decide +kernel
theorem dX11_behind_71 : decode cX11_behind 71 = .ok (.iload_n 3, 1) := by decide +kernel
theorem dX11_behind_72 : decode cX11_behind 72 = .ok (.iconst (-1), 1) := by decide +kernel
theorem dX11_behind_73 : decode cX11_behind 73 = .ok (.if_icmp .ne 7, 3) := by decide +kernel
theorem dX11_behind_76 : decode cX11_behind 76 = .ok (.iload_n 2, 1) := by decide +kernel
theorem dX11_behind_77 : decode cX11_behind 77 = .ok (.goto 4, 3) := by decide +kernel
theorem dX11_behind_80 : decode cX11_behind 80 = .ok (.iconst (-1), 1) := by decide +kernel
theorem dX11_behind_81 : decode cX11_behind 81 = .ok (.ireturn, 1) := by decide +kernel
theorem dX11_behind_82 : decode cX11_behind 82 = .ok (.iload 4, 2) := by decide +kernel
theorem dX11_behind_84 : decode cX11_behind 84 = .ok (.aload_n 0, 1) := by decide +kernel
theorem dX11_behind_85 : decode cX11_behind 85 = .ok (.getfield 23, 3) := by decide +kernel
theorem dX11_behind_88 : decode cX11_behind 88 = .ok (.iconst 0, 1) := by decide +kernel
theorem dX11_behind_89 : decode cX11_behind 89 = .ok (.iaload, 1) := by decide +kernel
theorem dX11_behind_90 : decode cX11_behind 90 = .ok (.if_icmp .ge 25, 3) := by decide +kernel
theorem dX11_behind_93 : decode cX11_behind 93 = .ok (.aload_n 0, 1) := by decide +kernel
theorem dX11_behind_94 : decode cX11_behind 94 = .ok (.getfield 29, 3) := by decide +kernel
theorem dX11_behind_97 : decode cX11_behind 97 = .ok (.iload 4, 2) := by decide +kernel
theorem dX11_behind_99 : decode cX11_behind 99 = .ok (.iaload, 1) := by decide +kernel
theorem dX11_behind_100 : decode cX11_behind 100 = .ok (.aload_n 0, 1) := by decide +kernel
theorem dX11_behind_101 : decode cX11_behind 101 = .ok (.getfield 29, 3) := by decide +kernel
theorem dX11_behind_104 : decode cX11_behind 104 = .ok (.iload_n 2, 1) := by decide +kernel
theorem dX11_behind_105 : decode cX11_behind 105 = .ok (.iaload, 1) := by decide +kernel
theorem dX11_behind_106 : decode cX11_behind 106 = .ok (.if_icmp .eq 9, 3) := by decide +kernel
theorem dX11_behind_109 : decode cX11_behind 109 = .ok (.iinc 4 1, 3) := by decide +kernel
theorem dX11_behind_112 : decode cX11_behind 112 = .ok (.goto (-30), 3) := by decide +kernel
theorem dX11_behind_115 : decode cX11_behind 115 = .ok (.iload 4, 2) := by decide +kernel
theorem dX11_behind_117 : decode cX11_behind 117 = .ok (.aload_n 0, 1) := by decide +kernel
theorem dX11_behind_118 : decode cX11_behind 118 = .ok (.getfield 23, 3) := by decide +kernel
theorem dX11_behind_121 : decode cX11_behind 121 = .ok (.iconst 0, 1) := by decide +kernel
theorem dX11_behind_122 : decode cX11_behind 122 = .ok (.iaload, 1) := by decide +kernel
theorem dX11_behind_123 : decode cX11_behind 123 = .ok (.if_icmp .ge 8, 3) := by decide +kernel
theorem dX11_behind_126 : decode cX11_behind 126 = .ok (.iload 4, 2) := by decide +kernel
theorem dX11_behind_128 : decode cX11_behind 128 = .ok (.goto 4, 3) := by decide +kernel
theorem dX11_behind_131 : decode cX11_behind 131 = .ok (.iconst (-1), 1) := by decide +kernel
theorem dX11_behind_132 : decode cX11_behind 132 = .ok (.ireturn, 1) := by decide +kernel
abbrev mX11_behind : MD := (cX11_behind, "BlottedDeedModel", 5, 1, 30, (some .int), "behind", [])
def bX11_behind_0 (g : GE) (J : Nat → KT) : KT := i_iload 3 (i_push (.int 1) (i_iadd (i_istore 4 (i_iload 1 (i_ifne (i_iload 1 (i_push (.int 2) (i_icne (i_jmp [true, false, true, false, true] (J 5)) (i_iload 3 (i_push (.int (-1)) (i_icne (i_push (.int (-1)) (i_jmp [false, false, false, false, false] (J 4))) (i_iload 2 (i_jmp [false, false, false, false, false] (J 4))))))))) (i_iload 4 (i_iload 2 (i_push (.int 10) (i_icge (i_push (.int 10) (i_jmp [false, false, true, false, true] (J 1))) (i_push (.int 0) (i_jmp [false, false, true, false, true] (J 1))))))))))))
def bX11_behind_1 (g : GE) (J : Nat → KT) : KT := i_icge (i_iload 4 (i_iload 2 (i_push (.int 10) (i_icge (i_push (.int 100) (i_jmp [false, false, false, false, true] (J 2))) (i_push (.int 10) (i_jmp [false, false, false, false, true] (J 2))))))) (i_iload 2 (i_push (.int 10) (i_icge (i_push (.int 10) (i_jmp [false, false, false, false, false] (J 3))) (i_push (.int 0) (i_jmp [false, false, false, false, false] (J 3))))))
def bX11_behind_2 (g : GE) (J : Nat → KT) : KT := i_icge (i_push (.int (-1)) (i_jmp [false, false, false, false, false] (J 3))) (i_iload 4 (i_jmp [false, false, false, false, false] (J 3)))
def bX11_behind_3 (g : GE) (J : Nat → KT) : KT := i_ireturn
def bX11_behind_4 (g : GE) (J : Nat → KT) : KT := i_ireturn
def bX11_behind_5 (g : GE) (J : Nat → KT) : KT := i_iload 4 (i_aload 0 (i_getf 10 11 (i_push (.int 0) (i_iaload (i_icge (i_jmp [true, false, false, false, true] (J 6)) (i_aload 0 (i_getf 10 13 (i_iload 4 (i_iaload (i_aload 0 (i_getf 10 13 (i_iload 2 (i_iaload (i_iceq (i_jmp [true, false, false, false, true] (J 6)) (i_iinc 4 1 (i_jmp [true, false, true, false, true] (J 5)))))))))))))))))
def bX11_behind_6 (g : GE) (J : Nat → KT) : KT := i_iload 4 (i_aload 0 (i_getf 10 11 (i_push (.int 0) (i_iaload (i_icge (i_push (.int (-1)) (i_jmp [false, false, false, false, false] (J 7))) (i_iload 4 (i_jmp [false, false, false, false, false] (J 7))))))))
def bX11_behind_7 (g : GE) (J : Nat → KT) : KT := i_ireturn
theorem sbX11_behind_0 (g : GE) (J : Nat → KT) (h1 : Snd mX11_behind g 23 (J 1)) (h2 : Snd mX11_behind g 56 (J 2)) (h3 : Snd mX11_behind g 65 (J 3)) (h4 : Snd mX11_behind g 81 (J 4)) (h5 : Snd mX11_behind g 82 (J 5)) (h6 : Snd mX11_behind g 115 (J 6)) (h7 : Snd mX11_behind g 132 (J 7)) : Snd mX11_behind g 0 (bX11_behind_0 g J) := by
  unfold bX11_behind_0
  refine s_iload_n (pc := 0) (i := 3) ?_ dX11_behind_0 rfl
  refine s_iconst (pc := 1) (v := 1) ?_ dX11_behind_1 (by decide)
  refine s_iadd (pc := 2) ?_ dX11_behind_2
  refine s_istore (pc := 3) (i := 4) ?_ dX11_behind_3 (by decide)
  refine s_iload_n (pc := 5) (i := 1) ?_ dX11_behind_5 rfl
  refine s_ifne (pc := 6) (tgt := 66) ?_ ?_ dX11_behind_6 (by decide)
  · skip
    refine s_iload_n (pc := 66) (i := 1) ?_ dX11_behind_66 rfl
    refine s_iconst (pc := 67) (v := 2) ?_ dX11_behind_67 (by decide)
    refine s_icne (pc := 68) (tgt := 82) ?_ ?_ dX11_behind_68 (by decide)
    · skip
      exact s_fall (pc := 82) h5
    · skip
      refine s_iload_n (pc := 71) (i := 3) ?_ dX11_behind_71 rfl
      refine s_iconst (pc := 72) (v := (-1)) ?_ dX11_behind_72 (by decide)
      refine s_icne (pc := 73) (tgt := 80) ?_ ?_ dX11_behind_73 (by decide)
      · skip
        refine s_iconst (pc := 80) (v := (-1)) ?_ dX11_behind_80 (by decide)
        exact s_fall (pc := 81) h4
      · skip
        refine s_iload_n (pc := 76) (i := 2) ?_ dX11_behind_76 rfl
        exact s_goto (pc := 77) (tgt := 81) h4 dX11_behind_77 (by decide)
  · skip
    refine s_iload (pc := 9) (i := 4) ?_ dX11_behind_9
    refine s_iload_n (pc := 11) (i := 2) ?_ dX11_behind_11 rfl
    refine s_bipush (pc := 12) (v := 10) ?_ dX11_behind_12 (by decide)
    refine s_icge (pc := 14) (tgt := 21) ?_ ?_ dX11_behind_14 (by decide)
    · skip
      refine s_bipush (pc := 21) (v := 10) ?_ dX11_behind_21 (by decide)
      exact s_fall (pc := 23) h1
    · skip
      refine s_iconst (pc := 17) (v := 0) ?_ dX11_behind_17 (by decide)
      exact s_goto (pc := 18) (tgt := 23) h1 dX11_behind_18 (by decide)
theorem sbX11_behind_1 (g : GE) (J : Nat → KT) (h1 : Snd mX11_behind g 23 (J 1)) (h2 : Snd mX11_behind g 56 (J 2)) (h3 : Snd mX11_behind g 65 (J 3)) (h4 : Snd mX11_behind g 81 (J 4)) (h5 : Snd mX11_behind g 82 (J 5)) (h6 : Snd mX11_behind g 115 (J 6)) (h7 : Snd mX11_behind g 132 (J 7)) : Snd mX11_behind g 23 (bX11_behind_1 g J) := by
  unfold bX11_behind_1
  refine s_icge (pc := 23) (tgt := 41) ?_ ?_ dX11_behind_23 (by decide)
  · skip
    refine s_iload (pc := 41) (i := 4) ?_ dX11_behind_41
    refine s_iload_n (pc := 43) (i := 2) ?_ dX11_behind_43 rfl
    refine s_bipush (pc := 44) (v := 10) ?_ dX11_behind_44 (by decide)
    refine s_icge (pc := 46) (tgt := 54) ?_ ?_ dX11_behind_46 (by decide)
    · skip
      refine s_bipush (pc := 54) (v := 100) ?_ dX11_behind_54 (by decide)
      exact s_fall (pc := 56) h2
    · skip
      refine s_bipush (pc := 49) (v := 10) ?_ dX11_behind_49 (by decide)
      exact s_goto (pc := 51) (tgt := 56) h2 dX11_behind_51 (by decide)
  · skip
    refine s_iload_n (pc := 26) (i := 2) ?_ dX11_behind_26 rfl
    refine s_bipush (pc := 27) (v := 10) ?_ dX11_behind_27 (by decide)
    refine s_icge (pc := 29) (tgt := 36) ?_ ?_ dX11_behind_29 (by decide)
    · skip
      refine s_bipush (pc := 36) (v := 10) ?_ dX11_behind_36 (by decide)
      exact s_goto (pc := 38) (tgt := 65) h3 dX11_behind_38 (by decide)
    · skip
      refine s_iconst (pc := 32) (v := 0) ?_ dX11_behind_32 (by decide)
      exact s_goto (pc := 33) (tgt := 65) h3 dX11_behind_33 (by decide)
theorem sbX11_behind_2 (g : GE) (J : Nat → KT) (h1 : Snd mX11_behind g 23 (J 1)) (h2 : Snd mX11_behind g 56 (J 2)) (h3 : Snd mX11_behind g 65 (J 3)) (h4 : Snd mX11_behind g 81 (J 4)) (h5 : Snd mX11_behind g 82 (J 5)) (h6 : Snd mX11_behind g 115 (J 6)) (h7 : Snd mX11_behind g 132 (J 7)) : Snd mX11_behind g 56 (bX11_behind_2 g J) := by
  unfold bX11_behind_2
  refine s_icge (pc := 56) (tgt := 64) ?_ ?_ dX11_behind_56 (by decide)
  · skip
    refine s_iconst (pc := 64) (v := (-1)) ?_ dX11_behind_64 (by decide)
    exact s_fall (pc := 65) h3
  · skip
    refine s_iload (pc := 59) (i := 4) ?_ dX11_behind_59
    exact s_goto (pc := 61) (tgt := 65) h3 dX11_behind_61 (by decide)
theorem sbX11_behind_3 (g : GE) (J : Nat → KT) (h1 : Snd mX11_behind g 23 (J 1)) (h2 : Snd mX11_behind g 56 (J 2)) (h3 : Snd mX11_behind g 65 (J 3)) (h4 : Snd mX11_behind g 81 (J 4)) (h5 : Snd mX11_behind g 82 (J 5)) (h6 : Snd mX11_behind g 115 (J 6)) (h7 : Snd mX11_behind g 132 (J 7)) : Snd mX11_behind g 65 (bX11_behind_3 g J) := by
  unfold bX11_behind_3
  exact s_ireturn (pc := 65) rfl dX11_behind_65
theorem sbX11_behind_4 (g : GE) (J : Nat → KT) (h1 : Snd mX11_behind g 23 (J 1)) (h2 : Snd mX11_behind g 56 (J 2)) (h3 : Snd mX11_behind g 65 (J 3)) (h4 : Snd mX11_behind g 81 (J 4)) (h5 : Snd mX11_behind g 82 (J 5)) (h6 : Snd mX11_behind g 115 (J 6)) (h7 : Snd mX11_behind g 132 (J 7)) : Snd mX11_behind g 81 (bX11_behind_4 g J) := by
  unfold bX11_behind_4
  exact s_ireturn (pc := 81) rfl dX11_behind_81
theorem sbX11_behind_5 (g : GE) (J : Nat → KT) (h1 : Snd mX11_behind g 23 (J 1)) (h2 : Snd mX11_behind g 56 (J 2)) (h3 : Snd mX11_behind g 65 (J 3)) (h4 : Snd mX11_behind g 81 (J 4)) (h5 : Snd mX11_behind g 82 (J 5)) (h6 : Snd mX11_behind g 115 (J 6)) (h7 : Snd mX11_behind g 132 (J 7)) : Snd mX11_behind g 82 (bX11_behind_5 g J) := by
  unfold bX11_behind_5
  refine s_iload (pc := 82) (i := 4) ?_ dX11_behind_82
  refine s_aload_n (pc := 84) (i := 0) ?_ dX11_behind_84 rfl
  refine s_getf (pc := 85) (ci := 10) (f := 11) (T := TX11) ?_ ginX11 rfl (by decide) wt_1404 dX11_behind_85
  refine s_iconst (pc := 88) (v := 0) ?_ dX11_behind_88 (by decide)
  refine s_iaload (pc := 89) ?_ dX11_behind_89
  refine s_icge (pc := 90) (tgt := 115) ?_ ?_ dX11_behind_90 (by decide)
  · skip
    exact s_fall (pc := 115) h6
  · skip
    refine s_aload_n (pc := 93) (i := 0) ?_ dX11_behind_93 rfl
    refine s_getf (pc := 94) (ci := 10) (f := 13) (T := TX11) ?_ ginX11 rfl (by decide) wt_1406 dX11_behind_94
    refine s_iload (pc := 97) (i := 4) ?_ dX11_behind_97
    refine s_iaload (pc := 99) ?_ dX11_behind_99
    refine s_aload_n (pc := 100) (i := 0) ?_ dX11_behind_100 rfl
    refine s_getf (pc := 101) (ci := 10) (f := 13) (T := TX11) ?_ ginX11 rfl (by decide) wt_1406 dX11_behind_101
    refine s_iload_n (pc := 104) (i := 2) ?_ dX11_behind_104 rfl
    refine s_iaload (pc := 105) ?_ dX11_behind_105
    refine s_iceq (pc := 106) (tgt := 115) ?_ ?_ dX11_behind_106 (by decide)
    · skip
      exact s_fall (pc := 115) h6
    · skip
      refine s_iinc (pc := 109) (i := 4) (v := 1) ?_ dX11_behind_109 (by decide) (by decide)
      exact s_goto (pc := 112) (tgt := 82) h5 dX11_behind_112 (by decide)
theorem sbX11_behind_6 (g : GE) (J : Nat → KT) (h1 : Snd mX11_behind g 23 (J 1)) (h2 : Snd mX11_behind g 56 (J 2)) (h3 : Snd mX11_behind g 65 (J 3)) (h4 : Snd mX11_behind g 81 (J 4)) (h5 : Snd mX11_behind g 82 (J 5)) (h6 : Snd mX11_behind g 115 (J 6)) (h7 : Snd mX11_behind g 132 (J 7)) : Snd mX11_behind g 115 (bX11_behind_6 g J) := by
  unfold bX11_behind_6
  refine s_iload (pc := 115) (i := 4) ?_ dX11_behind_115
  refine s_aload_n (pc := 117) (i := 0) ?_ dX11_behind_117 rfl
  refine s_getf (pc := 118) (ci := 10) (f := 11) (T := TX11) ?_ ginX11 rfl (by decide) wt_1404 dX11_behind_118
  refine s_iconst (pc := 121) (v := 0) ?_ dX11_behind_121 (by decide)
  refine s_iaload (pc := 122) ?_ dX11_behind_122
  refine s_icge (pc := 123) (tgt := 131) ?_ ?_ dX11_behind_123 (by decide)
  · skip
    refine s_iconst (pc := 131) (v := (-1)) ?_ dX11_behind_131 (by decide)
    exact s_fall (pc := 132) h7
  · skip
    refine s_iload (pc := 126) (i := 4) ?_ dX11_behind_126
    exact s_goto (pc := 128) (tgt := 132) h7 dX11_behind_128 (by decide)
theorem sbX11_behind_7 (g : GE) (J : Nat → KT) (h1 : Snd mX11_behind g 23 (J 1)) (h2 : Snd mX11_behind g 56 (J 2)) (h3 : Snd mX11_behind g 65 (J 3)) (h4 : Snd mX11_behind g 81 (J 4)) (h5 : Snd mX11_behind g 82 (J 5)) (h6 : Snd mX11_behind g 115 (J 6)) (h7 : Snd mX11_behind g 132 (J 7)) : Snd mX11_behind g 132 (bX11_behind_7 g J) := by
  unfold bX11_behind_7
  exact s_ireturn (pc := 132) rfl dX11_behind_132
def jX11_behind (g : GE) : Nat → Nat → KT
  | 0, _ => fun _ _ _ => none
  | n + 1, 0 => bX11_behind_0 g (jX11_behind g n)
  | n + 1, 1 => bX11_behind_1 g (jX11_behind g n)
  | n + 1, 2 => bX11_behind_2 g (jX11_behind g n)
  | n + 1, 3 => bX11_behind_3 g (jX11_behind g n)
  | n + 1, 4 => bX11_behind_4 g (jX11_behind g n)
  | n + 1, 5 => bX11_behind_5 g (jX11_behind g n)
  | n + 1, 6 => bX11_behind_6 g (jX11_behind g n)
  | n + 1, 7 => bX11_behind_7 g (jX11_behind g n)
  | _ + 1, _ + 8 => fun _ _ _ => none
theorem sjX11_behind (g : GE) : ∀ n, Snd mX11_behind g 0 (jX11_behind g n 0) ∧ Snd mX11_behind g 23 (jX11_behind g n 1) ∧ Snd mX11_behind g 56 (jX11_behind g n 2) ∧ Snd mX11_behind g 65 (jX11_behind g n 3) ∧ Snd mX11_behind g 81 (jX11_behind g n 4) ∧ Snd mX11_behind g 82 (jX11_behind g n 5) ∧ Snd mX11_behind g 115 (jX11_behind g n 6) ∧ Snd mX11_behind g 132 (jX11_behind g n 7)
  | 0 => ⟨s_none, s_none, s_none, s_none, s_none, s_none, s_none, s_none⟩
  | n + 1 => by
    obtain ⟨-, h1, h2, h3, h4, h5, h6, h7⟩ := sjX11_behind g n
    exact ⟨sbX11_behind_0 g _ h1 h2 h3 h4 h5 h6 h7, sbX11_behind_1 g _ h1 h2 h3 h4 h5 h6 h7, sbX11_behind_2 g _ h1 h2 h3 h4 h5 h6 h7, sbX11_behind_3 g _ h1 h2 h3 h4 h5 h6 h7, sbX11_behind_4 g _ h1 h2 h3 h4 h5 h6 h7, sbX11_behind_5 g _ h1 h2 h3 h4 h5 h6 h7, sbX11_behind_6 g _ h1 h2 h3 h4 h5 h6 h7, sbX11_behind_7 g _ h1 h2 h3 h4 h5 h6 h7⟩
def kX11_behind (g : GE) : KT := jX11_behind g g.1 0
theorem sX11_behind (g : GE) : Snd mX11_behind g 0 (kX11_behind g) := (sjX11_behind g g.1).1
def fX11_behind : FT := fun g av w => if (ent av).length ≤ 5 then kX11_behind g [] (entp 5 av) w else none
theorem tX11_behind : Mt yX11_behind cX11_behind 5 (some .int) 1 30 fX11_behind := Mt.of (K := kX11_behind) (by decide +kernel) (fun _ _ _ => rfl) sX11_behind
theorem crX11_behind : yX11_behind.cls ≠ "java/lang/invoke/MethodHandle" ∧ yX11_behind.cls ≠ "java/lang/invoke/VarHandle" ∧ (parseMethodDescriptor yX11_behind.desc).map (fun d => d.parameters.length) = some 3 := by decide +kernel
theorem dX11_byteAt_0 : decode cX11_byteAt 0 = .ok (.iload_n 1, 1) := by decide +kernel
theorem dX11_byteAt_1 : decode cX11_byteAt 1 = .ok (.aload_n 0, 1) := by decide +kernel
theorem dX11_byteAt_2 : decode cX11_byteAt 2 = .ok (.getfield 126, 3) := by decide +kernel
theorem dX11_byteAt_5 : decode cX11_byteAt 5 = .ok (.if_icmp .lt 7, 3) := by decide +kernel
theorem dX11_byteAt_8 : decode cX11_byteAt 8 = .ok (.iconst (-1), 1) := by decide +kernel
theorem dX11_byteAt_9 : decode cX11_byteAt 9 = .ok (.goto 9, 3) := by decide +kernel
theorem dX11_byteAt_12 : decode cX11_byteAt 12 = .ok (.aload_n 0, 1) := by decide +kernel
theorem dX11_byteAt_13 : decode cX11_byteAt 13 = .ok (.getfield 13, 3) := by decide +kernel
theorem dX11_byteAt_16 : decode cX11_byteAt 16 = .ok (.iload_n 1, 1) := by decide +kernel
theorem dX11_byteAt_17 : decode cX11_byteAt 17 = .ok (.iaload, 1) := by decide +kernel
theorem dX11_byteAt_18 : decode cX11_byteAt 18 = .ok (.ireturn, 1) := by decide +kernel
abbrev mX11_byteAt : MD := (cX11_byteAt, "BlottedDeedModel", 2, 1, 30, (some .int), "byteAt", [])
def bX11_byteAt_0 (g : GE) (J : Nat → KT) : KT := i_iload 1 (i_aload 0 (i_getf 10 2 (i_iclt (i_aload 0 (i_getf 10 8 (i_iload 1 (i_iaload (i_jmp [false, false] (J 1)))))) (i_push (.int (-1)) (i_jmp [false, false] (J 1))))))
def bX11_byteAt_1 (g : GE) (J : Nat → KT) : KT := i_ireturn
theorem sbX11_byteAt_0 (g : GE) (J : Nat → KT) (h1 : Snd mX11_byteAt g 18 (J 1)) : Snd mX11_byteAt g 0 (bX11_byteAt_0 g J) := by
  unfold bX11_byteAt_0
  refine s_iload_n (pc := 0) (i := 1) ?_ dX11_byteAt_0 rfl
  refine s_aload_n (pc := 1) (i := 0) ?_ dX11_byteAt_1 rfl
  refine s_getf (pc := 2) (ci := 10) (f := 2) (T := TX11) ?_ ginX11 rfl (by decide) wt_1395 dX11_byteAt_2
  refine s_iclt (pc := 5) (tgt := 12) ?_ ?_ dX11_byteAt_5 (by decide)
  · skip
    refine s_aload_n (pc := 12) (i := 0) ?_ dX11_byteAt_12 rfl
    refine s_getf (pc := 13) (ci := 10) (f := 8) (T := TX11) ?_ ginX11 rfl (by decide) wt_1401 dX11_byteAt_13
    refine s_iload_n (pc := 16) (i := 1) ?_ dX11_byteAt_16 rfl
    refine s_iaload (pc := 17) ?_ dX11_byteAt_17
    exact s_fall (pc := 18) h1
  · skip
    refine s_iconst (pc := 8) (v := (-1)) ?_ dX11_byteAt_8 (by decide)
    exact s_goto (pc := 9) (tgt := 18) h1 dX11_byteAt_9 (by decide)
theorem sbX11_byteAt_1 (g : GE) (J : Nat → KT) (h1 : Snd mX11_byteAt g 18 (J 1)) : Snd mX11_byteAt g 18 (bX11_byteAt_1 g J) := by
  unfold bX11_byteAt_1
  exact s_ireturn (pc := 18) rfl dX11_byteAt_18
def jX11_byteAt (g : GE) : Nat → Nat → KT
  | 0, _ => fun _ _ _ => none
  | n + 1, 0 => bX11_byteAt_0 g (jX11_byteAt g n)
  | n + 1, 1 => bX11_byteAt_1 g (jX11_byteAt g n)
  | _ + 1, _ + 2 => fun _ _ _ => none
theorem sjX11_byteAt (g : GE) : ∀ n, Snd mX11_byteAt g 0 (jX11_byteAt g n 0) ∧ Snd mX11_byteAt g 18 (jX11_byteAt g n 1)
  | 0 => ⟨s_none, s_none⟩
  | n + 1 => by
    obtain ⟨-, h1⟩ := sjX11_byteAt g n
    exact ⟨sbX11_byteAt_0 g _ h1, sbX11_byteAt_1 g _ h1⟩
def kX11_byteAt (g : GE) : KT := jX11_byteAt g g.1 0
theorem sX11_byteAt (g : GE) : Snd mX11_byteAt g 0 (kX11_byteAt g) := (sjX11_byteAt g g.1).1
def fX11_byteAt : FT := fun g av w => if (ent av).length ≤ 2 then kX11_byteAt g [] (entp 2 av) w else none
theorem tX11_byteAt : Mt yX11_byteAt cX11_byteAt 2 (some .int) 1 30 fX11_byteAt := Mt.of (K := kX11_byteAt) (by decide +kernel) (fun _ _ _ => rfl) sX11_byteAt
theorem crX11_byteAt : yX11_byteAt.cls ≠ "java/lang/invoke/MethodHandle" ∧ yX11_byteAt.cls ≠ "java/lang/invoke/VarHandle" ∧ (parseMethodDescriptor yX11_byteAt.desc).map (fun d => d.parameters.length) = some 1 := by decide +kernel
theorem dX11_blanks_0 : decode cX11_blanks 0 = .ok (.aload_n 0, 1) := by decide +kernel
theorem dX11_blanks_1 : decode cX11_blanks 1 = .ok (.aload_n 0, 1) := by decide +kernel
theorem dX11_blanks_2 : decode cX11_blanks 2 = .ok (.getfield 129, 3) := by decide +kernel
theorem dX11_blanks_5 : decode cX11_blanks 5 = .ok (.invokevirtual 132, 3) := by decide +kernel
theorem dX11_blanks_8 : decode cX11_blanks 8 = .ok (.bipush 32, 2) := by decide +kernel
theorem dX11_blanks_10 : decode cX11_blanks 10 = .ok (.if_icmp .ne 16, 3) := by decide +kernel
theorem dX11_blanks_13 : decode cX11_blanks 13 = .ok (.aload_n 0, 1) := by decide +kernel
theorem dX11_blanks_14 : decode cX11_blanks 14 = .ok (.dup, 1) := by decide +kernel
theorem dX11_blanks_15 : decode cX11_blanks 15 = .ok (.getfield 129, 3) := by decide +kernel
theorem dX11_blanks_18 : decode cX11_blanks 18 = .ok (.iconst 1, 1) := by decide +kernel
theorem dX11_blanks_19 : decode cX11_blanks 19 = .ok (.iadd, 1) := by decide +kernel
theorem dX11_blanks_20 : decode cX11_blanks 20 = .ok (.putfield 129, 3) := by decide +kernel
theorem dX11_blanks_23 : decode cX11_blanks 23 = .ok (.goto (-23), 3) := by decide +kernel
theorem dX11_blanks_26 : decode cX11_blanks 26 = .ok (.return_, 1) := by decide +kernel
abbrev mX11_blanks : MD := (cX11_blanks, "BlottedDeedModel", 1, 2, 51, none, "blanks", [])
def bX11_blanks_0 (g : GE) (J : Nat → KT) : KT := i_aload 0 (i_aload 0 (i_getf 10 4 (i_cv fX11_byteAt g 1 10 (i_push (.int 32) (i_icne (i_return) (i_aload 0 (i_dup (i_getf 10 4 (i_push (.int 1) (i_iadd (i_putf 10 4 .int (i_jmp [true] (J 0)))))))))))))
theorem sbX11_blanks_0 (g : GE) (J : Nat → KT) (h0 : Snd mX11_blanks g 0 (J 0)) : Snd mX11_blanks g 0 (bX11_blanks_0 g J) := by
  unfold bX11_blanks_0
  refine s_aload_n (pc := 0) (i := 0) ?_ dX11_blanks_0 rfl
  refine s_aload_n (pc := 1) (i := 0) ?_ dX11_blanks_1 rfl
  refine s_getf (pc := 2) (ci := 10) (f := 4) (T := TX11) ?_ ginX11 rfl (by decide) wt_1397 dX11_blanks_2
  refine s_cv (pc := 5) (n := 1) (ci := 10) ?_ tX11_byteAt rfl rfl wt_1568 wt_1570 wp_51 wt_17 wt_1571 ⟨crX11_byteAt, by decide, by decide⟩ dX11_blanks_5
  refine s_bipush (pc := 8) (v := 32) ?_ dX11_blanks_8 (by decide)
  refine s_icne (pc := 10) (tgt := 26) ?_ ?_ dX11_blanks_10 (by decide)
  · skip
    exact s_return (pc := 26) rfl dX11_blanks_26
  · skip
    refine s_aload_n (pc := 13) (i := 0) ?_ dX11_blanks_13 rfl
    refine s_dup (pc := 14) ?_ dX11_blanks_14
    refine s_getf (pc := 15) (ci := 10) (f := 4) (T := TX11) ?_ ginX11 rfl (by decide) wt_1397 dX11_blanks_15
    refine s_iconst (pc := 18) (v := 1) ?_ dX11_blanks_18 (by decide)
    refine s_iadd (pc := 19) ?_ dX11_blanks_19
    refine s_putf (pc := 20) (ci := 10) (f := 4) (T := TX11) (ty0 := tyX11) ?_ ginX11 tyX11_ok nmX11 rfl (by decide) rfl rfl wt_1397 dX11_blanks_20
    exact s_goto (pc := 23) (tgt := 0) h0 dX11_blanks_23 (by decide)
def jX11_blanks (g : GE) : Nat → Nat → KT
  | 0, _ => fun _ _ _ => none
  | n + 1, 0 => bX11_blanks_0 g (jX11_blanks g n)
  | _ + 1, _ + 1 => fun _ _ _ => none
theorem sjX11_blanks (g : GE) : ∀ n, Snd mX11_blanks g 0 (jX11_blanks g n 0) ∧ True
  | 0 => ⟨s_none, trivial⟩
  | n + 1 => by
    obtain ⟨h0, -⟩ := sjX11_blanks g n
    exact ⟨sbX11_blanks_0 g _ h0, trivial⟩
def kX11_blanks (g : GE) : KT := jX11_blanks g g.1 0
theorem sX11_blanks (g : GE) : Snd mX11_blanks g 0 (kX11_blanks g) := (sjX11_blanks g g.1).1
def fX11_blanks : FT := fun g av w => if (ent av).length ≤ 1 then kX11_blanks g [] (entp 1 av) w else none
theorem tX11_blanks : Mt yX11_blanks cX11_blanks 1 none 2 51 fX11_blanks := Mt.of (K := kX11_blanks) (by decide +kernel) (fun _ _ _ => rfl) sX11_blanks
theorem crX11_blanks : yX11_blanks.cls ≠ "java/lang/invoke/MethodHandle" ∧ yX11_blanks.cls ≠ "java/lang/invoke/VarHandle" ∧ (parseMethodDescriptor yX11_blanks.desc).map (fun d => d.parameters.length) = some 0 := by decide +kernel
theorem dX11_blot_0 : decode cX11_blot 0 = .ok (.aload_n 0, 1) := by decide +kernel
theorem dX11_blot_1 : decode cX11_blot 1 = .ok (.iconst 0, 1) := by decide +kernel
theorem dX11_blot_2 : decode cX11_blot 2 = .ok (.putfield 120, 3) := by decide +kernel
theorem dX11_blot_5 : decode cX11_blot 5 = .ok (.aload_n 0, 1) := by decide +kernel
theorem dX11_blot_6 : decode cX11_blot 6 = .ok (.aload_n 0, 1) := by decide +kernel
theorem dX11_blot_7 : decode cX11_blot 7 = .ok (.iload_n 1, 1) := by decide +kernel
theorem dX11_blot_8 : decode cX11_blot 8 = .ok (.invokevirtual 234, 3) := by decide +kernel
theorem dX11_blot_11 : decode cX11_blot 11 = .ok (.ifCond .ne 7, 3) := by decide +kernel
theorem dX11_blot_14 : decode cX11_blot 14 = .ok (.iconst 1, 1) := by decide +kernel
theorem dX11_blot_15 : decode cX11_blot 15 = .ok (.goto 4, 3) := by decide +kernel
theorem dX11_blot_18 : decode cX11_blot 18 = .ok (.iconst 0, 1) := by decide +kernel
theorem dX11_blot_19 : decode cX11_blot 19 = .ok (.iconst 1, 1) := by decide +kernel
theorem dX11_blot_20 : decode cX11_blot 20 = .ok (.iconst 1, 1) := by decide +kernel
theorem dX11_blot_21 : decode cX11_blot 21 = .ok (.invokevirtual 215, 3) := by decide +kernel
theorem dX11_blot_24 : decode cX11_blot 24 = .ok (.ifCond .ne 26, 3) := by decide +kernel
theorem dX11_blot_27 : decode cX11_blot 27 = .ok (.aload_n 0, 1) := by decide +kernel
theorem dX11_blot_28 : decode cX11_blot 28 = .ok (.iload_n 2, 1) := by decide +kernel
theorem dX11_blot_29 : decode cX11_blot 29 = .ok (.iconst 0, 1) := by decide +kernel
theorem dX11_blot_30 : decode cX11_blot 30 = .ok (.iconst 3, 1) := by decide +kernel
theorem dX11_blot_31 : decode cX11_blot 31 = .ok (.invokestatic 154, 3) := by decide +kernel
theorem dX11_blot_34 : decode cX11_blot 34 = .ok (.ifCond .ne 7, 3) := by decide +kernel
theorem dX11_blot_37 : decode cX11_blot 37 = .ok (.iconst 1, 1) := by decide +kernel
theorem dX11_blot_38 : decode cX11_blot 38 = .ok (.goto 4, 3) := by decide +kernel
theorem dX11_blot_41 : decode cX11_blot 41 = .ok (.iconst 0, 1) := by decide +kernel
theorem dX11_blot_42 : decode cX11_blot 42 = .ok (.iconst 2, 1) := by decide +kernel
theorem dX11_blot_43 : decode cX11_blot 43 = .ok (.iconst 2, 1) := by decide +kernel
theorem dX11_blot_44 : decode cX11_blot 44 = .ok (.invokevirtual 215, 3) := by decide +kernel
theorem dX11_blot_47 : decode cX11_blot 47 = .ok (.ifCond .eq 5, 3) := by decide +kernel
theorem dX11_blot_50 : decode cX11_blot 50 = .ok (.iconst 0, 1) := by decide +kernel
theorem dX11_blot_51 : decode cX11_blot 51 = .ok (.ireturn, 1) := by decide +kernel
theorem dX11_blot_52 : decode cX11_blot 52 = .ok (.aload_n 0, 1) := by decide +kernel
theorem dX11_blot_53 : decode cX11_blot 53 = .ok (.getfield 65, 3) := by decide +kernel
theorem dX11_blot_56 : decode cX11_blot 56 = .ok (.iload_n 1, 1) := by decide +kernel
theorem dX11_blot_57 : decode cX11_blot 57 = .ok (.aaload, 1) := by decide +kernel
theorem dX11_blot_58 : decode cX11_blot 58 = .ok (.iload_n 2, 1) := by decide +kernel
theorem dX11_blot_59 : decode cX11_blot 59 = .ok (.iaload, 1) := by decide +kernel
theorem dX11_blot_60 : decode cX11_blot 60 = .ok (.ireturn, 1) := by decide +kernel
abbrev mX11_blot : MD := (cX11_blot, "BlottedDeedModel", 3, 3, 73, (some .int), "blot", [])
def bX11_blot_0 (g : GE) (J : Nat → KT) : KT := i_aload 0 (i_push (.int 0) (i_putf 10 0 .int (i_aload 0 (i_aload 0 (i_iload 1 (i_cv fX11_isBlot g 1 10 (i_ifne (i_push (.int 0) (i_jmp [true, true, true] (J 1))) (i_push (.int 1) (i_jmp [true, true, true] (J 1))))))))))
def bX11_blot_1 (g : GE) (J : Nat → KT) : KT := i_push (.int 1) (i_push (.int 1) (i_cv fX11_bad g 3 10 (i_ifne (i_jmp [false, false, false] (J 3)) (i_aload 0 (i_iload 2 (i_push (.int 0) (i_push (.int 3) (i_cs fX11_in g 3 (i_ifne (i_push (.int 0) (i_jmp [true, true, true] (J 2))) (i_push (.int 1) (i_jmp [true, true, true] (J 2))))))))))))
def bX11_blot_2 (g : GE) (J : Nat → KT) : KT := i_push (.int 2) (i_push (.int 2) (i_cv fX11_bad g 3 10 (i_ifeq (i_aload 0 (i_getf 10 24 (i_iload 1 (i_aaload 4 (i_iload 2 (i_iaload (i_ireturn))))))) (i_jmp [false, false, false] (J 3)))))
def bX11_blot_3 (g : GE) (J : Nat → KT) : KT := i_push (.int 0) (i_ireturn)
theorem sbX11_blot_0 (g : GE) (J : Nat → KT) (h1 : Snd mX11_blot g 19 (J 1)) (h2 : Snd mX11_blot g 42 (J 2)) (h3 : Snd mX11_blot g 50 (J 3)) : Snd mX11_blot g 0 (bX11_blot_0 g J) := by
  unfold bX11_blot_0
  refine s_aload_n (pc := 0) (i := 0) ?_ dX11_blot_0 rfl
  refine s_iconst (pc := 1) (v := 0) ?_ dX11_blot_1 (by decide)
  refine s_putf (pc := 2) (ci := 10) (f := 0) (T := TX11) (ty0 := tyX11) ?_ ginX11 tyX11_ok nmX11 rfl (by decide) rfl rfl wt_1393 dX11_blot_2
  refine s_aload_n (pc := 5) (i := 0) ?_ dX11_blot_5 rfl
  refine s_aload_n (pc := 6) (i := 0) ?_ dX11_blot_6 rfl
  refine s_iload_n (pc := 7) (i := 1) ?_ dX11_blot_7 rfl
  refine s_cv (pc := 8) (n := 1) (ci := 10) ?_ tX11_isBlot rfl rfl wt_1655 wt_1657 wp_67 wt_17 wt_1658 ⟨crX11_isBlot, by decide, by decide⟩ dX11_blot_8
  refine s_ifne (pc := 11) (tgt := 18) ?_ ?_ dX11_blot_11 (by decide)
  · skip
    refine s_iconst (pc := 18) (v := 0) ?_ dX11_blot_18 (by decide)
    exact s_fall (pc := 19) h1
  · skip
    refine s_iconst (pc := 14) (v := 1) ?_ dX11_blot_14 (by decide)
    exact s_goto (pc := 15) (tgt := 19) h1 dX11_blot_15 (by decide)
theorem sbX11_blot_1 (g : GE) (J : Nat → KT) (h1 : Snd mX11_blot g 19 (J 1)) (h2 : Snd mX11_blot g 42 (J 2)) (h3 : Snd mX11_blot g 50 (J 3)) : Snd mX11_blot g 19 (bX11_blot_1 g J) := by
  unfold bX11_blot_1
  refine s_iconst (pc := 19) (v := 1) ?_ dX11_blot_19 (by decide)
  refine s_iconst (pc := 20) (v := 1) ?_ dX11_blot_20 (by decide)
  refine s_cv (pc := 21) (n := 3) (ci := 10) ?_ tX11_bad rfl rfl wt_1560 wt_1562 wp_49 wt_17 wt_1563 ⟨crX11_bad, by decide, by decide⟩ dX11_blot_21
  refine s_ifne (pc := 24) (tgt := 50) ?_ ?_ dX11_blot_24 (by decide)
  · skip
    exact s_fall (pc := 50) h3
  · skip
    refine s_aload_n (pc := 27) (i := 0) ?_ dX11_blot_27 rfl
    refine s_iload_n (pc := 28) (i := 2) ?_ dX11_blot_28 rfl
    refine s_iconst (pc := 29) (v := 0) ?_ dX11_blot_29 (by decide)
    refine s_iconst (pc := 30) (v := 3) ?_ dX11_blot_30 (by decide)
    refine s_cs (pc := 31) (n := 3) ?_ tX11_in wt_1557 wt_1558 wt_17 wt_1559 ⟨crX11_in, by decide, by decide⟩ dX11_blot_31
    refine s_ifne (pc := 34) (tgt := 41) ?_ ?_ dX11_blot_34 (by decide)
    · skip
      refine s_iconst (pc := 41) (v := 0) ?_ dX11_blot_41 (by decide)
      exact s_fall (pc := 42) h2
    · skip
      refine s_iconst (pc := 37) (v := 1) ?_ dX11_blot_37 (by decide)
      exact s_goto (pc := 38) (tgt := 42) h2 dX11_blot_38 (by decide)
theorem sbX11_blot_2 (g : GE) (J : Nat → KT) (h1 : Snd mX11_blot g 19 (J 1)) (h2 : Snd mX11_blot g 42 (J 2)) (h3 : Snd mX11_blot g 50 (J 3)) : Snd mX11_blot g 42 (bX11_blot_2 g J) := by
  unfold bX11_blot_2
  refine s_iconst (pc := 42) (v := 2) ?_ dX11_blot_42 (by decide)
  refine s_iconst (pc := 43) (v := 2) ?_ dX11_blot_43 (by decide)
  refine s_cv (pc := 44) (n := 3) (ci := 10) ?_ tX11_bad rfl rfl wt_1560 wt_1562 wp_49 wt_17 wt_1563 ⟨crX11_bad, by decide, by decide⟩ dX11_blot_44
  refine s_ifeq (pc := 47) (tgt := 52) ?_ ?_ dX11_blot_47 (by decide)
  · skip
    refine s_aload_n (pc := 52) (i := 0) ?_ dX11_blot_52 rfl
    refine s_getf (pc := 53) (ci := 10) (f := 24) (T := TX11) ?_ ginX11 rfl (by decide) wt_1417 dX11_blot_53
    refine s_iload_n (pc := 56) (i := 1) ?_ dX11_blot_56 rfl
    refine s_aaload (pc := 57) (t := 4) ?_ (by decide) rfl dX11_blot_57
    refine s_iload_n (pc := 58) (i := 2) ?_ dX11_blot_58 rfl
    refine s_iaload (pc := 59) ?_ dX11_blot_59
    exact s_ireturn (pc := 60) rfl dX11_blot_60
  · skip
    exact s_fall (pc := 50) h3
theorem sbX11_blot_3 (g : GE) (J : Nat → KT) (h1 : Snd mX11_blot g 19 (J 1)) (h2 : Snd mX11_blot g 42 (J 2)) (h3 : Snd mX11_blot g 50 (J 3)) : Snd mX11_blot g 50 (bX11_blot_3 g J) := by
  unfold bX11_blot_3
  refine s_iconst (pc := 50) (v := 0) ?_ dX11_blot_50 (by decide)
  exact s_ireturn (pc := 51) rfl dX11_blot_51
def jX11_blot (g : GE) : Nat → Nat → KT
  | 0, _ => fun _ _ _ => none
  | n + 1, 0 => bX11_blot_0 g (jX11_blot g n)
  | n + 1, 1 => bX11_blot_1 g (jX11_blot g n)
  | n + 1, 2 => bX11_blot_2 g (jX11_blot g n)
  | n + 1, 3 => bX11_blot_3 g (jX11_blot g n)
  | _ + 1, _ + 4 => fun _ _ _ => none
theorem sjX11_blot (g : GE) : ∀ n, Snd mX11_blot g 0 (jX11_blot g n 0) ∧ Snd mX11_blot g 19 (jX11_blot g n 1) ∧ Snd mX11_blot g 42 (jX11_blot g n 2) ∧ Snd mX11_blot g 50 (jX11_blot g n 3)
  | 0 => ⟨s_none, s_none, s_none, s_none⟩
  | n + 1 => by
    obtain ⟨-, h1, h2, h3⟩ := sjX11_blot g n
    exact ⟨sbX11_blot_0 g _ h1 h2 h3, sbX11_blot_1 g _ h1 h2 h3, sbX11_blot_2 g _ h1 h2 h3, sbX11_blot_3 g _ h1 h2 h3⟩
def kX11_blot (g : GE) : KT := jX11_blot g g.1 0
theorem sX11_blot (g : GE) : Snd mX11_blot g 0 (kX11_blot g) := (sjX11_blot g g.1).1
def fX11_blot : FT := fun g av w => if (ent av).length ≤ 3 then kX11_blot g [] (entp 3 av) w else none
theorem tX11_blot : Mt yX11_blot cX11_blot 3 (some .int) 3 73 fX11_blot := Mt.of (K := kX11_blot) (by decide +kernel) (fun _ _ _ => rfl) sX11_blot
theorem crX11_blot : yX11_blot.cls ≠ "java/lang/invoke/MethodHandle" ∧ yX11_blot.cls ≠ "java/lang/invoke/VarHandle" ∧ (parseMethodDescriptor yX11_blot.desc).map (fun d => d.parameters.length) = some 2 := by decide +kernel
theorem dX11_wrong_0 : decode cX11_wrong 0 = .ok (.aload_n 0, 1) := by decide +kernel
theorem dX11_wrong_1 : decode cX11_wrong 1 = .ok (.getfield 136, 3) := by decide +kernel
theorem dX11_wrong_4 : decode cX11_wrong 4 = .ok (.ifCond .ne 13, 3) := by decide +kernel
theorem dX11_wrong_7 : decode cX11_wrong 7 = .ok (.aload_n 0, 1) := by decide +kernel
theorem dX11_wrong_8 : decode cX11_wrong 8 = .ok (.iload_n 1, 1) := by decide +kernel
theorem dX11_wrong_9 : decode cX11_wrong 9 = .ok (.putfield 136, 3) := by decide +kernel
theorem dX11_wrong_12 : decode cX11_wrong 12 = .ok (.aload_n 0, 1) := by decide +kernel
theorem dX11_wrong_13 : decode cX11_wrong 13 = .ok (.iload_n 2, 1) := by decide +kernel
theorem dX11_wrong_14 : decode cX11_wrong 14 = .ok (.putfield 139, 3) := by decide +kernel
theorem dX11_wrong_17 : decode cX11_wrong 17 = .ok (.return_, 1) := by decide +kernel
abbrev mX11_wrong : MD := (cX11_wrong, "BlottedDeedModel", 3, 1, 30, none, "wrong", [])
def bX11_wrong_0 (g : GE) (J : Nat → KT) : KT := i_aload 0 (i_getf 10 5 (i_ifne (i_jmp [false, false, false] (J 1)) (i_aload 0 (i_iload 1 (i_putf 10 5 .int (i_aload 0 (i_iload 2 (i_putf 10 6 .int (i_jmp [false, false, false] (J 1))))))))))
def bX11_wrong_1 (g : GE) (J : Nat → KT) : KT := i_return
theorem sbX11_wrong_0 (g : GE) (J : Nat → KT) (h1 : Snd mX11_wrong g 17 (J 1)) : Snd mX11_wrong g 0 (bX11_wrong_0 g J) := by
  unfold bX11_wrong_0
  refine s_aload_n (pc := 0) (i := 0) ?_ dX11_wrong_0 rfl
  refine s_getf (pc := 1) (ci := 10) (f := 5) (T := TX11) ?_ ginX11 rfl (by decide) wt_1398 dX11_wrong_1
  refine s_ifne (pc := 4) (tgt := 17) ?_ ?_ dX11_wrong_4 (by decide)
  · skip
    exact s_fall (pc := 17) h1
  · skip
    refine s_aload_n (pc := 7) (i := 0) ?_ dX11_wrong_7 rfl
    refine s_iload_n (pc := 8) (i := 1) ?_ dX11_wrong_8 rfl
    refine s_putf (pc := 9) (ci := 10) (f := 5) (T := TX11) (ty0 := tyX11) ?_ ginX11 tyX11_ok nmX11 rfl (by decide) rfl rfl wt_1398 dX11_wrong_9
    refine s_aload_n (pc := 12) (i := 0) ?_ dX11_wrong_12 rfl
    refine s_iload_n (pc := 13) (i := 2) ?_ dX11_wrong_13 rfl
    refine s_putf (pc := 14) (ci := 10) (f := 6) (T := TX11) (ty0 := tyX11) ?_ ginX11 tyX11_ok nmX11 rfl (by decide) rfl rfl wt_1399 dX11_wrong_14
    exact s_fall (pc := 17) h1
theorem sbX11_wrong_1 (g : GE) (J : Nat → KT) (h1 : Snd mX11_wrong g 17 (J 1)) : Snd mX11_wrong g 17 (bX11_wrong_1 g J) := by
  unfold bX11_wrong_1
  exact s_return (pc := 17) rfl dX11_wrong_17
def jX11_wrong (g : GE) : Nat → Nat → KT
  | 0, _ => fun _ _ _ => none
  | n + 1, 0 => bX11_wrong_0 g (jX11_wrong g n)
  | n + 1, 1 => bX11_wrong_1 g (jX11_wrong g n)
  | _ + 1, _ + 2 => fun _ _ _ => none
theorem sjX11_wrong (g : GE) : ∀ n, Snd mX11_wrong g 0 (jX11_wrong g n 0) ∧ Snd mX11_wrong g 17 (jX11_wrong g n 1)
  | 0 => ⟨s_none, s_none⟩
  | n + 1 => by
    obtain ⟨-, h1⟩ := sjX11_wrong g n
    exact ⟨sbX11_wrong_0 g _ h1, sbX11_wrong_1 g _ h1⟩
def kX11_wrong (g : GE) : KT := jX11_wrong g g.1 0
theorem sX11_wrong (g : GE) : Snd mX11_wrong g 0 (kX11_wrong g) := (sjX11_wrong g g.1).1
def fX11_wrong : FT := fun g av w => if (ent av).length ≤ 3 then kX11_wrong g [] (entp 3 av) w else none
theorem tX11_wrong : Mt yX11_wrong cX11_wrong 3 none 1 30 fX11_wrong := Mt.of (K := kX11_wrong) (by decide +kernel) (fun _ _ _ => rfl) sX11_wrong
theorem crX11_wrong : yX11_wrong.cls ≠ "java/lang/invoke/MethodHandle" ∧ yX11_wrong.cls ≠ "java/lang/invoke/VarHandle" ∧ (parseMethodDescriptor yX11_wrong.desc).map (fun d => d.parameters.length) = some 2 := by decide +kernel
theorem dX11_isDigit_0 : decode cX11_isDigit 0 = .ok (.iload_n 0, 1) := by decide +kernel
theorem dX11_isDigit_1 : decode cX11_isDigit 1 = .ok (.bipush 48, 2) := by decide +kernel
theorem dX11_isDigit_3 : decode cX11_isDigit 3 = .ok (.if_icmp .lt 13, 3) := by decide +kernel
theorem dX11_isDigit_6 : decode cX11_isDigit 6 = .ok (.iload_n 0, 1) := by decide +kernel
theorem dX11_isDigit_7 : decode cX11_isDigit 7 = .ok (.bipush 57, 2) := by decide +kernel
theorem dX11_isDigit_9 : decode cX11_isDigit 9 = .ok (.if_icmp .gt 7, 3) := by decide +kernel
theorem dX11_isDigit_12 : decode cX11_isDigit 12 = .ok (.iconst 1, 1) := by decide +kernel
theorem dX11_isDigit_13 : decode cX11_isDigit 13 = .ok (.goto 4, 3) := by decide +kernel
theorem dX11_isDigit_16 : decode cX11_isDigit 16 = .ok (.iconst 0, 1) := by decide +kernel
theorem dX11_isDigit_17 : decode cX11_isDigit 17 = .ok (.ireturn, 1) := by decide +kernel
abbrev mX11_isDigit : MD := (cX11_isDigit, "BlottedDeedModel", 1, 1, 30, (some .boolean), "isDigit", [])
def bX11_isDigit_0 (g : GE) (J : Nat → KT) : KT := i_iload 0 (i_push (.int 48) (i_iclt (i_jmp [false] (J 1)) (i_iload 0 (i_push (.int 57) (i_icgt (i_jmp [false] (J 1)) (i_push (.int 1) (i_jmp [false] (J 2))))))))
def bX11_isDigit_1 (g : GE) (J : Nat → KT) : KT := i_push (.int 0) (i_jmp [false] (J 2))
def bX11_isDigit_2 (g : GE) (J : Nat → KT) : KT := i_zreturn
theorem sbX11_isDigit_0 (g : GE) (J : Nat → KT) (h1 : Snd mX11_isDigit g 16 (J 1)) (h2 : Snd mX11_isDigit g 17 (J 2)) : Snd mX11_isDigit g 0 (bX11_isDigit_0 g J) := by
  unfold bX11_isDigit_0
  refine s_iload_n (pc := 0) (i := 0) ?_ dX11_isDigit_0 rfl
  refine s_bipush (pc := 1) (v := 48) ?_ dX11_isDigit_1 (by decide)
  refine s_iclt (pc := 3) (tgt := 16) ?_ ?_ dX11_isDigit_3 (by decide)
  · skip
    exact s_fall (pc := 16) h1
  · skip
    refine s_iload_n (pc := 6) (i := 0) ?_ dX11_isDigit_6 rfl
    refine s_bipush (pc := 7) (v := 57) ?_ dX11_isDigit_7 (by decide)
    refine s_icgt (pc := 9) (tgt := 16) ?_ ?_ dX11_isDigit_9 (by decide)
    · skip
      exact s_fall (pc := 16) h1
    · skip
      refine s_iconst (pc := 12) (v := 1) ?_ dX11_isDigit_12 (by decide)
      exact s_goto (pc := 13) (tgt := 17) h2 dX11_isDigit_13 (by decide)
theorem sbX11_isDigit_1 (g : GE) (J : Nat → KT) (h1 : Snd mX11_isDigit g 16 (J 1)) (h2 : Snd mX11_isDigit g 17 (J 2)) : Snd mX11_isDigit g 16 (bX11_isDigit_1 g J) := by
  unfold bX11_isDigit_1
  refine s_iconst (pc := 16) (v := 0) ?_ dX11_isDigit_16 (by decide)
  exact s_fall (pc := 17) h2
theorem sbX11_isDigit_2 (g : GE) (J : Nat → KT) (h1 : Snd mX11_isDigit g 16 (J 1)) (h2 : Snd mX11_isDigit g 17 (J 2)) : Snd mX11_isDigit g 17 (bX11_isDigit_2 g J) := by
  unfold bX11_isDigit_2
  exact s_zreturn (pc := 17) rfl dX11_isDigit_17
def jX11_isDigit (g : GE) : Nat → Nat → KT
  | 0, _ => fun _ _ _ => none
  | n + 1, 0 => bX11_isDigit_0 g (jX11_isDigit g n)
  | n + 1, 1 => bX11_isDigit_1 g (jX11_isDigit g n)
  | n + 1, 2 => bX11_isDigit_2 g (jX11_isDigit g n)
  | _ + 1, _ + 3 => fun _ _ _ => none
theorem sjX11_isDigit (g : GE) : ∀ n, Snd mX11_isDigit g 0 (jX11_isDigit g n 0) ∧ Snd mX11_isDigit g 16 (jX11_isDigit g n 1) ∧ Snd mX11_isDigit g 17 (jX11_isDigit g n 2)
  | 0 => ⟨s_none, s_none, s_none⟩
  | n + 1 => by
    obtain ⟨-, h1, h2⟩ := sjX11_isDigit g n
    exact ⟨sbX11_isDigit_0 g _ h1 h2, sbX11_isDigit_1 g _ h1 h2, sbX11_isDigit_2 g _ h1 h2⟩
def kX11_isDigit (g : GE) : KT := jX11_isDigit g g.1 0
theorem sX11_isDigit (g : GE) : Snd mX11_isDigit g 0 (kX11_isDigit g) := (sjX11_isDigit g g.1).1
def fX11_isDigit : FT := fun g av w => if (ent av).length ≤ 1 then kX11_isDigit g [] (entp 1 av) w else none
theorem tX11_isDigit : Mt yX11_isDigit cX11_isDigit 1 (some .boolean) 1 30 fX11_isDigit := Mt.of (K := kX11_isDigit) (by decide +kernel) (fun _ _ _ => rfl) sX11_isDigit
theorem crX11_isDigit : yX11_isDigit.cls ≠ "java/lang/invoke/MethodHandle" ∧ yX11_isDigit.cls ≠ "java/lang/invoke/VarHandle" ∧ (parseMethodDescriptor yX11_isDigit.desc).map (fun d => d.parameters.length) = some 1 := by decide +kernel
theorem dX11_number_0 : decode cX11_number 0 = .ok (.aload_n 0, 1) := by decide +kernel
theorem dX11_number_1 : decode cX11_number 1 = .ok (.getfield 136, 3) := by decide +kernel
theorem dX11_number_4 : decode cX11_number 4 = .ok (.ifCond .eq 5, 3) := by decide +kernel
theorem dX11_number_7 : decode cX11_number 7 = .ok (.iconst 0, 1) := by decide +kernel
theorem dX11_number_8 : decode cX11_number 8 = .ok (.ireturn, 1) := by decide +kernel
theorem dX11_number_9 : decode cX11_number 9 = .ok (.aload_n 0, 1) := by decide +kernel
theorem dX11_number_10 : decode cX11_number 10 = .ok (.invokevirtual 142, 3) := by decide +kernel
theorem dX11_number_13 : decode cX11_number 13 = .ok (.aload_n 0, 1) := by decide +kernel
theorem dX11_number_14 : decode cX11_number 14 = .ok (.getfield 129, 3) := by decide +kernel
theorem dX11_number_17 : decode cX11_number 17 = .ok (.istore_n 3, 1) := by decide +kernel
theorem dX11_number_18 : decode cX11_number 18 = .ok (.iconst 0, 1) := by decide +kernel
theorem dX11_number_19 : decode cX11_number 19 = .ok (.istore 4, 2) := by decide +kernel
theorem dX11_number_21 : decode cX11_number 21 = .ok (.aload_n 0, 1) := by decide +kernel
theorem dX11_number_22 : decode cX11_number 22 = .ok (.aload_n 0, 1) := by decide +kernel
theorem dX11_number_23 : decode cX11_number 23 = .ok (.getfield 129, 3) := by decide +kernel
theorem dX11_number_26 : decode cX11_number 26 = .ok (.invokevirtual 132, 3) := by decide +kernel
theorem dX11_number_29 : decode cX11_number 29 = .ok (.invokestatic 145, 3) := by decide +kernel
theorem dX11_number_32 : decode cX11_number 32 = .ok (.ifCond .ne 12, 3) := by decide +kernel
theorem dX11_number_35 : decode cX11_number 35 = .ok (.aload_n 0, 1) := by decide +kernel
theorem dX11_number_36 : decode cX11_number 36 = .ok (.iconst 1, 1) := by decide +kernel
theorem dX11_number_37 : decode cX11_number 37 = .ok (.aload_n 0, 1) := by decide +kernel
theorem dX11_number_38 : decode cX11_number 38 = .ok (.getfield 129, 3) := by decide +kernel
theorem dX11_number_41 : decode cX11_number 41 = .ok (.invokevirtual 149, 3) := by decide +kernel
theorem dX11_number_44 : decode cX11_number 44 = .ok (.aload_n 0, 1) := by decide +kernel
theorem dX11_number_45 : decode cX11_number 45 = .ok (.aload_n 0, 1) := by decide +kernel
theorem dX11_number_46 : decode cX11_number 46 = .ok (.getfield 129, 3) := by decide +kernel
theorem dX11_number_49 : decode cX11_number 49 = .ok (.invokevirtual 132, 3) := by decide +kernel
theorem dX11_number_52 : decode cX11_number 52 = .ok (.invokestatic 145, 3) := by decide +kernel
theorem dX11_number_55 : decode cX11_number 55 = .ok (.ifCond .eq 51, 3) := by decide +kernel
theorem dX11_number_58 : decode cX11_number 58 = .ok (.bipush 10, 2) := by decide +kernel
theorem dX11_number_60 : decode cX11_number 60 = .ok (.iload 4, 2) := by decide +kernel
theorem dX11_number_62 : decode cX11_number 62 = .ok (.imul, 1) := by decide +kernel
theorem dX11_number_63 : decode cX11_number 63 = .ok (.aload_n 0, 1) := by decide +kernel
theorem dX11_number_64 : decode cX11_number 64 = .ok (.aload_n 0, 1) := by decide +kernel
theorem dX11_number_65 : decode cX11_number 65 = .ok (.getfield 129, 3) := by decide +kernel
theorem dX11_number_68 : decode cX11_number 68 = .ok (.invokevirtual 132, 3) := by decide +kernel
theorem dX11_number_71 : decode cX11_number 71 = .ok (.iadd, 1) := by decide +kernel
theorem dX11_number_72 : decode cX11_number 72 = .ok (.bipush 48, 2) := by decide +kernel
theorem dX11_number_74 : decode cX11_number 74 = .ok (.isub, 1) := by decide +kernel
theorem dX11_number_75 : decode cX11_number 75 = .ok (.istore 4, 2) := by decide +kernel
theorem dX11_number_77 : decode cX11_number 77 = .ok (.iload 4, 2) := by decide +kernel
theorem dX11_number_79 : decode cX11_number 79 = .ok (.ldc 153, 2) := by decide +kernel
theorem dX11_number_81 : decode cX11_number 81 = .ok (.if_icmp .le 8, 3) := by decide +kernel
theorem dX11_number_84 : decode cX11_number 84 = .ok (.ldc 153, 2) := by decide +kernel
theorem dX11_number_86 : decode cX11_number 86 = .ok (.goto 5, 3) := by decide +kernel
theorem dX11_number_89 : decode cX11_number 89 = .ok (.iload 4, 2) := by decide +kernel
theorem dX11_number_91 : decode cX11_number 91 = .ok (.istore 4, 2) := by decide +kernel
theorem dX11_number_93 : decode cX11_number 93 = .ok (.aload_n 0, 1) := by decide +kernel
theorem dX11_number_94 : decode cX11_number 94 = .ok (.dup, 1) := by decide +kernel
theorem dX11_number_95 : decode cX11_number 95 = .ok (.getfield 129, 3) := by decide +kernel
theorem dX11_number_98 : decode cX11_number 98 = .ok (.iconst 1, 1) := by decide +kernel
theorem dX11_number_99 : decode cX11_number 99 = .ok (.iadd, 1) := by decide +kernel
theorem dX11_number_100 : decode cX11_number 100 = .ok (.putfield 129, 3) := by decide +kernel
theorem dX11_number_103 : decode cX11_number 103 = .ok (.goto (-59), 3) := by decide +kernel
theorem dX11_number_106 : decode cX11_number 106 = .ok (.iload 4, 2) := by decide +kernel
theorem dX11_number_108 : decode cX11_number 108 = .ok (.iload_n 1, 1) := by decide +kernel
theorem dX11_number_109 : decode cX11_number 109 = .ok (.iload_n 2, 1) := by decide +kernel
theorem dX11_number_110 : decode cX11_number 110 = .ok (.invokestatic 154, 3) := by decide +kernel
theorem dX11_number_113 : decode cX11_number 113 = .ok (.ifCond .ne 9, 3) := by decide +kernel
theorem dX11_number_116 : decode cX11_number 116 = .ok (.aload_n 0, 1) := by decide +kernel
theorem dX11_number_117 : decode cX11_number 117 = .ok (.iconst 2, 1) := by decide +kernel
theorem dX11_number_118 : decode cX11_number 118 = .ok (.iload_n 3, 1) := by decide +kernel
theorem dX11_number_119 : decode cX11_number 119 = .ok (.invokevirtual 149, 3) := by decide +kernel
theorem dX11_number_122 : decode cX11_number 122 = .ok (.aload_n 0, 1) := by decide +kernel
theorem dX11_number_123 : decode cX11_number 123 = .ok (.getfield 136, 3) := by decide +kernel
theorem dX11_number_126 : decode cX11_number 126 = .ok (.ifCond .ne 8, 3) := by decide +kernel
theorem dX11_number_129 : decode cX11_number 129 = .ok (.iload 4, 2) := by decide +kernel
theorem dX11_number_131 : decode cX11_number 131 = .ok (.goto 4, 3) := by decide +kernel
theorem dX11_number_134 : decode cX11_number 134 = .ok (.iconst 0, 1) := by decide +kernel
theorem dX11_number_135 : decode cX11_number 135 = .ok (.ireturn, 1) := by decide +kernel
abbrev mX11_number : MD := (cX11_number, "BlottedDeedModel", 5, 3, 71, (some .int), "number", [])
def bX11_number_0 (g : GE) (J : Nat → KT) : KT := i_aload 0 (i_getf 10 5 (i_ifeq (i_aload 0 (i_cv fX11_blanks g 0 10 (i_aload 0 (i_getf 10 4 (i_istore 3 (i_push (.int 0) (i_istore 4 (i_aload 0 (i_aload 0 (i_getf 10 4 (i_cv fX11_byteAt g 1 10 (i_cs fX11_isDigit g 1 (i_ifne (i_jmp [true, true, true, true, true] (J 1)) (i_aload 0 (i_push (.int 1) (i_aload 0 (i_getf 10 4 (i_cv fX11_wrong g 2 10 (i_jmp [true, true, true, true, true] (J 1)))))))))))))))))))) (i_push (.int 0) (i_ireturn))))
def bX11_number_1 (g : GE) (J : Nat → KT) : KT := i_aload 0 (i_aload 0 (i_getf 10 4 (i_cv fX11_byteAt g 1 10 (i_cs fX11_isDigit g 1 (i_ifeq (i_iload 4 (i_iload 1 (i_iload 2 (i_cs fX11_in g 3 (i_ifne (i_jmp [true, false, false, false, true] (J 3)) (i_aload 0 (i_push (.int 2) (i_iload 3 (i_cv fX11_wrong g 2 10 (i_jmp [true, false, false, false, true] (J 3))))))))))) (i_push (.int 10) (i_iload 4 (i_imul (i_aload 0 (i_aload 0 (i_getf 10 4 (i_cv fX11_byteAt g 1 10 (i_iadd (i_push (.int 48) (i_isub (i_istore 4 (i_iload 4 (i_push (.int 100000) (i_icle (i_iload 4 (i_jmp [true, true, true, true, false] (J 2))) (i_push (.int 100000) (i_jmp [true, true, true, true, false] (J 2))))))))))))))))))))))
def bX11_number_2 (g : GE) (J : Nat → KT) : KT := i_istore 4 (i_aload 0 (i_dup (i_getf 10 4 (i_push (.int 1) (i_iadd (i_putf 10 4 .int (i_jmp [true, true, true, true, true] (J 1))))))))
def bX11_number_3 (g : GE) (J : Nat → KT) : KT := i_aload 0 (i_getf 10 5 (i_ifne (i_push (.int 0) (i_jmp [false, false, false, false, false] (J 4))) (i_iload 4 (i_jmp [false, false, false, false, false] (J 4)))))
def bX11_number_4 (g : GE) (J : Nat → KT) : KT := i_ireturn
theorem sbX11_number_0 (g : GE) (J : Nat → KT) (h1 : Snd mX11_number g 44 (J 1)) (h2 : Snd mX11_number g 91 (J 2)) (h3 : Snd mX11_number g 122 (J 3)) (h4 : Snd mX11_number g 135 (J 4)) : Snd mX11_number g 0 (bX11_number_0 g J) := by
  unfold bX11_number_0
  refine s_aload_n (pc := 0) (i := 0) ?_ dX11_number_0 rfl
  refine s_getf (pc := 1) (ci := 10) (f := 5) (T := TX11) ?_ ginX11 rfl (by decide) wt_1398 dX11_number_1
  refine s_ifeq (pc := 4) (tgt := 9) ?_ ?_ dX11_number_4 (by decide)
  · skip
    refine s_aload_n (pc := 9) (i := 0) ?_ dX11_number_9 rfl
    refine s_cv (pc := 10) (n := 0) (ci := 10) ?_ tX11_blanks rfl rfl wt_1564 wt_1566 wp_50 wt_17 wt_1567 ⟨crX11_blanks, by decide, by decide⟩ dX11_number_10
    refine s_aload_n (pc := 13) (i := 0) ?_ dX11_number_13 rfl
    refine s_getf (pc := 14) (ci := 10) (f := 4) (T := TX11) ?_ ginX11 rfl (by decide) wt_1397 dX11_number_14
    refine s_istore_n (pc := 17) (i := 3) ?_ dX11_number_17 rfl (by decide)
    refine s_iconst (pc := 18) (v := 0) ?_ dX11_number_18 (by decide)
    refine s_istore (pc := 19) (i := 4) ?_ dX11_number_19 (by decide)
    refine s_aload_n (pc := 21) (i := 0) ?_ dX11_number_21 rfl
    refine s_aload_n (pc := 22) (i := 0) ?_ dX11_number_22 rfl
    refine s_getf (pc := 23) (ci := 10) (f := 4) (T := TX11) ?_ ginX11 rfl (by decide) wt_1397 dX11_number_23
    refine s_cv (pc := 26) (n := 1) (ci := 10) ?_ tX11_byteAt rfl rfl wt_1568 wt_1570 wp_51 wt_17 wt_1571 ⟨crX11_byteAt, by decide, by decide⟩ dX11_number_26
    refine s_cs (pc := 29) (n := 1) ?_ tX11_isDigit wt_1615 wt_1616 wt_17 wt_1617 ⟨crX11_isDigit, by decide, by decide⟩ dX11_number_29
    refine s_ifne (pc := 32) (tgt := 44) ?_ ?_ dX11_number_32 (by decide)
    · skip
      exact s_fall (pc := 44) h1
    · skip
      refine s_aload_n (pc := 35) (i := 0) ?_ dX11_number_35 rfl
      refine s_iconst (pc := 36) (v := 1) ?_ dX11_number_36 (by decide)
      refine s_aload_n (pc := 37) (i := 0) ?_ dX11_number_37 rfl
      refine s_getf (pc := 38) (ci := 10) (f := 4) (T := TX11) ?_ ginX11 rfl (by decide) wt_1397 dX11_number_38
      refine s_cv (pc := 41) (n := 2) (ci := 10) ?_ tX11_wrong rfl rfl wt_1599 wt_1601 wp_57 wt_17 wt_1602 ⟨crX11_wrong, by decide, by decide⟩ dX11_number_41
      exact s_fall (pc := 44) h1
  · skip
    refine s_iconst (pc := 7) (v := 0) ?_ dX11_number_7 (by decide)
    exact s_ireturn (pc := 8) rfl dX11_number_8
theorem sbX11_number_1 (g : GE) (J : Nat → KT) (h1 : Snd mX11_number g 44 (J 1)) (h2 : Snd mX11_number g 91 (J 2)) (h3 : Snd mX11_number g 122 (J 3)) (h4 : Snd mX11_number g 135 (J 4)) : Snd mX11_number g 44 (bX11_number_1 g J) := by
  unfold bX11_number_1
  refine s_aload_n (pc := 44) (i := 0) ?_ dX11_number_44 rfl
  refine s_aload_n (pc := 45) (i := 0) ?_ dX11_number_45 rfl
  refine s_getf (pc := 46) (ci := 10) (f := 4) (T := TX11) ?_ ginX11 rfl (by decide) wt_1397 dX11_number_46
  refine s_cv (pc := 49) (n := 1) (ci := 10) ?_ tX11_byteAt rfl rfl wt_1568 wt_1570 wp_51 wt_17 wt_1571 ⟨crX11_byteAt, by decide, by decide⟩ dX11_number_49
  refine s_cs (pc := 52) (n := 1) ?_ tX11_isDigit wt_1615 wt_1616 wt_17 wt_1617 ⟨crX11_isDigit, by decide, by decide⟩ dX11_number_52
  refine s_ifeq (pc := 55) (tgt := 106) ?_ ?_ dX11_number_55 (by decide)
  · skip
    refine s_iload (pc := 106) (i := 4) ?_ dX11_number_106
    refine s_iload_n (pc := 108) (i := 1) ?_ dX11_number_108 rfl
    refine s_iload_n (pc := 109) (i := 2) ?_ dX11_number_109 rfl
    refine s_cs (pc := 110) (n := 3) ?_ tX11_in wt_1557 wt_1558 wt_17 wt_1559 ⟨crX11_in, by decide, by decide⟩ dX11_number_110
    refine s_ifne (pc := 113) (tgt := 122) ?_ ?_ dX11_number_113 (by decide)
    · skip
      exact s_fall (pc := 122) h3
    · skip
      refine s_aload_n (pc := 116) (i := 0) ?_ dX11_number_116 rfl
      refine s_iconst (pc := 117) (v := 2) ?_ dX11_number_117 (by decide)
      refine s_iload_n (pc := 118) (i := 3) ?_ dX11_number_118 rfl
      refine s_cv (pc := 119) (n := 2) (ci := 10) ?_ tX11_wrong rfl rfl wt_1599 wt_1601 wp_57 wt_17 wt_1602 ⟨crX11_wrong, by decide, by decide⟩ dX11_number_119
      exact s_fall (pc := 122) h3
  · skip
    refine s_bipush (pc := 58) (v := 10) ?_ dX11_number_58 (by decide)
    refine s_iload (pc := 60) (i := 4) ?_ dX11_number_60
    refine s_imul (pc := 62) ?_ dX11_number_62
    refine s_aload_n (pc := 63) (i := 0) ?_ dX11_number_63 rfl
    refine s_aload_n (pc := 64) (i := 0) ?_ dX11_number_64 rfl
    refine s_getf (pc := 65) (ci := 10) (f := 4) (T := TX11) ?_ ginX11 rfl (by decide) wt_1397 dX11_number_65
    refine s_cv (pc := 68) (n := 1) (ci := 10) ?_ tX11_byteAt rfl rfl wt_1568 wt_1570 wp_51 wt_17 wt_1571 ⟨crX11_byteAt, by decide, by decide⟩ dX11_number_68
    refine s_iadd (pc := 71) ?_ dX11_number_71
    refine s_bipush (pc := 72) (v := 48) ?_ dX11_number_72 (by decide)
    refine s_isub (pc := 74) ?_ dX11_number_74
    refine s_istore (pc := 75) (i := 4) ?_ dX11_number_75 (by decide)
    refine s_iload (pc := 77) (i := 4) ?_ dX11_number_77
    refine s_ldc (pc := 79) (v := 100000) ?_ wt_1618 dX11_number_79
    refine s_icle (pc := 81) (tgt := 89) ?_ ?_ dX11_number_81 (by decide)
    · skip
      refine s_iload (pc := 89) (i := 4) ?_ dX11_number_89
      exact s_fall (pc := 91) h2
    · skip
      refine s_ldc (pc := 84) (v := 100000) ?_ wt_1618 dX11_number_84
      exact s_goto (pc := 86) (tgt := 91) h2 dX11_number_86 (by decide)
theorem sbX11_number_2 (g : GE) (J : Nat → KT) (h1 : Snd mX11_number g 44 (J 1)) (h2 : Snd mX11_number g 91 (J 2)) (h3 : Snd mX11_number g 122 (J 3)) (h4 : Snd mX11_number g 135 (J 4)) : Snd mX11_number g 91 (bX11_number_2 g J) := by
  unfold bX11_number_2
  refine s_istore (pc := 91) (i := 4) ?_ dX11_number_91 (by decide)
  refine s_aload_n (pc := 93) (i := 0) ?_ dX11_number_93 rfl
  refine s_dup (pc := 94) ?_ dX11_number_94
  refine s_getf (pc := 95) (ci := 10) (f := 4) (T := TX11) ?_ ginX11 rfl (by decide) wt_1397 dX11_number_95
  refine s_iconst (pc := 98) (v := 1) ?_ dX11_number_98 (by decide)
  refine s_iadd (pc := 99) ?_ dX11_number_99
  refine s_putf (pc := 100) (ci := 10) (f := 4) (T := TX11) (ty0 := tyX11) ?_ ginX11 tyX11_ok nmX11 rfl (by decide) rfl rfl wt_1397 dX11_number_100
  exact s_goto (pc := 103) (tgt := 44) h1 dX11_number_103 (by decide)
theorem sbX11_number_3 (g : GE) (J : Nat → KT) (h1 : Snd mX11_number g 44 (J 1)) (h2 : Snd mX11_number g 91 (J 2)) (h3 : Snd mX11_number g 122 (J 3)) (h4 : Snd mX11_number g 135 (J 4)) : Snd mX11_number g 122 (bX11_number_3 g J) := by
  unfold bX11_number_3
  refine s_aload_n (pc := 122) (i := 0) ?_ dX11_number_122 rfl
  refine s_getf (pc := 123) (ci := 10) (f := 5) (T := TX11) ?_ ginX11 rfl (by decide) wt_1398 dX11_number_123
  refine s_ifne (pc := 126) (tgt := 134) ?_ ?_ dX11_number_126 (by decide)
  · skip
    refine s_iconst (pc := 134) (v := 0) ?_ dX11_number_134 (by decide)
    exact s_fall (pc := 135) h4
  · skip
    refine s_iload (pc := 129) (i := 4) ?_ dX11_number_129
    exact s_goto (pc := 131) (tgt := 135) h4 dX11_number_131 (by decide)
theorem sbX11_number_4 (g : GE) (J : Nat → KT) (h1 : Snd mX11_number g 44 (J 1)) (h2 : Snd mX11_number g 91 (J 2)) (h3 : Snd mX11_number g 122 (J 3)) (h4 : Snd mX11_number g 135 (J 4)) : Snd mX11_number g 135 (bX11_number_4 g J) := by
  unfold bX11_number_4
  exact s_ireturn (pc := 135) rfl dX11_number_135
def jX11_number (g : GE) : Nat → Nat → KT
  | 0, _ => fun _ _ _ => none
  | n + 1, 0 => bX11_number_0 g (jX11_number g n)
  | n + 1, 1 => bX11_number_1 g (jX11_number g n)
  | n + 1, 2 => bX11_number_2 g (jX11_number g n)
  | n + 1, 3 => bX11_number_3 g (jX11_number g n)
  | n + 1, 4 => bX11_number_4 g (jX11_number g n)
  | _ + 1, _ + 5 => fun _ _ _ => none
theorem sjX11_number (g : GE) : ∀ n, Snd mX11_number g 0 (jX11_number g n 0) ∧ Snd mX11_number g 44 (jX11_number g n 1) ∧ Snd mX11_number g 91 (jX11_number g n 2) ∧ Snd mX11_number g 122 (jX11_number g n 3) ∧ Snd mX11_number g 135 (jX11_number g n 4)
  | 0 => ⟨s_none, s_none, s_none, s_none, s_none⟩
  | n + 1 => by
    obtain ⟨-, h1, h2, h3, h4⟩ := sjX11_number g n
    exact ⟨sbX11_number_0 g _ h1 h2 h3 h4, sbX11_number_1 g _ h1 h2 h3 h4, sbX11_number_2 g _ h1 h2 h3 h4, sbX11_number_3 g _ h1 h2 h3 h4, sbX11_number_4 g _ h1 h2 h3 h4⟩
def kX11_number (g : GE) : KT := jX11_number g g.1 0
theorem sX11_number (g : GE) : Snd mX11_number g 0 (kX11_number g) := (sjX11_number g g.1).1
def fX11_number : FT := fun g av w => if (ent av).length ≤ 5 then kX11_number g [] (entp 5 av) w else none
theorem tX11_number : Mt yX11_number cX11_number 5 (some .int) 3 71 fX11_number := Mt.of (K := kX11_number) (by decide +kernel) (fun _ _ _ => rfl) sX11_number
theorem crX11_number : yX11_number.cls ≠ "java/lang/invoke/MethodHandle" ∧ yX11_number.cls ≠ "java/lang/invoke/VarHandle" ∧ (parseMethodDescriptor yX11_number.desc).map (fun d => d.parameters.length) = some 2 := by decide +kernel
