theorem dX11_slips_0 : decode cX11_slips 0 = .ok (.aload_n 0, 1) := by decide +kernel
theorem dX11_slips_1 : decode cX11_slips 1 = .ok (.iconst 0, 1) := by decide +kernel
theorem dX11_slips_2 : decode cX11_slips 2 = .ok (.putfield 120, 3) := by decide +kernel
theorem dX11_slips_5 : decode cX11_slips 5 = .ok (.aload_n 0, 1) := by decide +kernel
theorem dX11_slips_6 : decode cX11_slips 6 = .ok (.iload_n 1, 1) := by decide +kernel
theorem dX11_slips_7 : decode cX11_slips 7 = .ok (.iconst 0, 1) := by decide +kernel
theorem dX11_slips_8 : decode cX11_slips 8 = .ok (.iconst 1, 1) := by decide +kernel
theorem dX11_slips_9 : decode cX11_slips 9 = .ok (.invokestatic 154, 3) := by decide +kernel
theorem dX11_slips_12 : decode cX11_slips 12 = .ok (.ifCond .ne 7, 3) := by decide +kernel
theorem dX11_slips_15 : decode cX11_slips 15 = .ok (.iconst 1, 1) := by decide +kernel
theorem dX11_slips_16 : decode cX11_slips 16 = .ok (.goto 4, 3) := by decide +kernel
theorem dX11_slips_19 : decode cX11_slips 19 = .ok (.iconst 0, 1) := by decide +kernel
theorem dX11_slips_20 : decode cX11_slips 20 = .ok (.iconst 1, 1) := by decide +kernel
theorem dX11_slips_21 : decode cX11_slips 21 = .ok (.iconst 2, 1) := by decide +kernel
theorem dX11_slips_22 : decode cX11_slips 22 = .ok (.invokevirtual 215, 3) := by decide +kernel
theorem dX11_slips_25 : decode cX11_slips 25 = .ok (.ifCond .eq 5, 3) := by decide +kernel
theorem dX11_slips_28 : decode cX11_slips 28 = .ok (.iconst 0, 1) := by decide +kernel
theorem dX11_slips_29 : decode cX11_slips 29 = .ok (.ireturn, 1) := by decide +kernel
theorem dX11_slips_30 : decode cX11_slips 30 = .ok (.iconst (-1), 1) := by decide +kernel
theorem dX11_slips_31 : decode cX11_slips 31 = .ok (.istore_n 2, 1) := by decide +kernel
theorem dX11_slips_32 : decode cX11_slips 32 = .ok (.iconst 0, 1) := by decide +kernel
theorem dX11_slips_33 : decode cX11_slips 33 = .ok (.istore_n 3, 1) := by decide +kernel
theorem dX11_slips_34 : decode cX11_slips 34 = .ok (.iconst 0, 1) := by decide +kernel
theorem dX11_slips_35 : decode cX11_slips 35 = .ok (.istore 4, 2) := by decide +kernel
theorem dX11_slips_37 : decode cX11_slips 37 = .ok (.iload 4, 2) := by decide +kernel
theorem dX11_slips_39 : decode cX11_slips 39 = .ok (.aload_n 0, 1) := by decide +kernel
theorem dX11_slips_40 : decode cX11_slips 40 = .ok (.getfield 244, 3) := by decide +kernel
theorem dX11_slips_43 : decode cX11_slips 43 = .ok (.if_icmp .ge 87, 3) := by decide +kernel
theorem dX11_slips_46 : decode cX11_slips 46 = .ok (.iconst 0, 1) := by decide +kernel
theorem dX11_slips_47 : decode cX11_slips 47 = .ok (.istore 5, 2) := by decide +kernel
theorem dX11_slips_49 : decode cX11_slips 49 = .ok (.iconst 0, 1) := by decide +kernel
theorem dX11_slips_50 : decode cX11_slips 50 = .ok (.istore 6, 2) := by decide +kernel
theorem dX11_slips_52 : decode cX11_slips 52 = .ok (.iload 6, 2) := by decide +kernel
theorem dX11_slips_54 : decode cX11_slips 54 = .ok (.aload_n 0, 1) := by decide +kernel
theorem dX11_slips_55 : decode cX11_slips 55 = .ok (.getfield 225, 3) := by decide +kernel
theorem dX11_slips_58 : decode cX11_slips 58 = .ok (.if_icmp .ge 46, 3) := by decide +kernel
theorem dX11_slips_61 : decode cX11_slips 61 = .ok (.iload 5, 2) := by decide +kernel
theorem dX11_slips_63 : decode cX11_slips 63 = .ok (.aload_n 0, 1) := by decide +kernel
theorem dX11_slips_64 : decode cX11_slips 64 = .ok (.iload 4, 2) := by decide +kernel
theorem dX11_slips_66 : decode cX11_slips 66 = .ok (.aload_n 0, 1) := by decide +kernel
theorem dX11_slips_67 : decode cX11_slips 67 = .ok (.getfield 86, 3) := by decide +kernel
theorem dX11_slips_70 : decode cX11_slips 70 = .ok (.iload 6, 2) := by decide +kernel
theorem dX11_slips_72 : decode cX11_slips 72 = .ok (.aaload, 1) := by decide +kernel
theorem dX11_slips_73 : decode cX11_slips 73 = .ok (.iconst 1, 1) := by decide +kernel
theorem dX11_slips_74 : decode cX11_slips 74 = .ok (.iaload, 1) := by decide +kernel
theorem dX11_slips_75 : decode cX11_slips 75 = .ok (.invokevirtual 270, 3) := by decide +kernel
theorem dX11_slips_78 : decode cX11_slips 78 = .ok (.aload_n 0, 1) := by decide +kernel
theorem dX11_slips_79 : decode cX11_slips 79 = .ok (.getfield 86, 3) := by decide +kernel
theorem dX11_slips_82 : decode cX11_slips 82 = .ok (.iload 6, 2) := by decide +kernel
theorem dX11_slips_84 : decode cX11_slips 84 = .ok (.aaload, 1) := by decide +kernel
theorem dX11_slips_85 : decode cX11_slips 85 = .ok (.iconst 2, 1) := by decide +kernel
theorem dX11_slips_86 : decode cX11_slips 86 = .ok (.iaload, 1) := by decide +kernel
theorem dX11_slips_87 : decode cX11_slips 87 = .ok (.if_icmp .ne 7, 3) := by decide +kernel
theorem dX11_slips_90 : decode cX11_slips 90 = .ok (.iconst 0, 1) := by decide +kernel
theorem dX11_slips_91 : decode cX11_slips 91 = .ok (.goto 4, 3) := by decide +kernel
theorem dX11_slips_94 : decode cX11_slips 94 = .ok (.iconst 1, 1) := by decide +kernel
theorem dX11_slips_95 : decode cX11_slips 95 = .ok (.iadd, 1) := by decide +kernel
theorem dX11_slips_96 : decode cX11_slips 96 = .ok (.istore 5, 2) := by decide +kernel
theorem dX11_slips_98 : decode cX11_slips 98 = .ok (.iinc 6 1, 3) := by decide +kernel
theorem dX11_slips_101 : decode cX11_slips 101 = .ok (.goto (-49), 3) := by decide +kernel
theorem dX11_slips_104 : decode cX11_slips 104 = .ok (.iload_n 2, 1) := by decide +kernel
theorem dX11_slips_105 : decode cX11_slips 105 = .ok (.iconst (-1), 1) := by decide +kernel
theorem dX11_slips_106 : decode cX11_slips 106 = .ok (.if_icmp .eq 12, 3) := by decide +kernel
theorem dX11_slips_109 : decode cX11_slips 109 = .ok (.iload 5, 2) := by decide +kernel
theorem dX11_slips_111 : decode cX11_slips 111 = .ok (.iload_n 3, 1) := by decide +kernel
theorem dX11_slips_112 : decode cX11_slips 112 = .ok (.if_icmp .lt 6, 3) := by decide +kernel
theorem dX11_slips_115 : decode cX11_slips 115 = .ok (.goto 9, 3) := by decide +kernel
theorem dX11_slips_118 : decode cX11_slips 118 = .ok (.iload 4, 2) := by decide +kernel
theorem dX11_slips_120 : decode cX11_slips 120 = .ok (.istore_n 2, 1) := by decide +kernel
theorem dX11_slips_121 : decode cX11_slips 121 = .ok (.iload 5, 2) := by decide +kernel
theorem dX11_slips_123 : decode cX11_slips 123 = .ok (.istore_n 3, 1) := by decide +kernel
theorem dX11_slips_124 : decode cX11_slips 124 = .ok (.iinc 4 1, 3) := by decide +kernel
theorem dX11_slips_127 : decode cX11_slips 127 = .ok (.goto (-90), 3) := by decide +kernel
theorem dX11_slips_130 : decode cX11_slips 130 = .ok (.iload_n 2, 1) := by decide +kernel
theorem dX11_slips_131 : decode cX11_slips 131 = .ok (.iconst (-1), 1) := by decide +kernel
theorem dX11_slips_132 : decode cX11_slips 132 = .ok (.if_icmp .eq 8, 3) := by decide +kernel
theorem dX11_slips_135 : decode cX11_slips 135 = .ok (.iload_n 1, 1) := by decide +kernel
theorem dX11_slips_136 : decode cX11_slips 136 = .ok (.iconst 1, 1) := by decide +kernel
theorem dX11_slips_137 : decode cX11_slips 137 = .ok (.if_icmp .ne 7, 3) := by decide +kernel
theorem dX11_slips_140 : decode cX11_slips 140 = .ok (.iload_n 2, 1) := by decide +kernel
theorem dX11_slips_141 : decode cX11_slips 141 = .ok (.goto 4, 3) := by decide +kernel
theorem dX11_slips_144 : decode cX11_slips 144 = .ok (.iload_n 3, 1) := by decide +kernel
theorem dX11_slips_145 : decode cX11_slips 145 = .ok (.ireturn, 1) := by decide +kernel
abbrev mX11_slips : MD := (cX11_slips, "BlottedDeedModel", 7, 3, 76, (some .int), "slips", [])
def bX11_slips_0 (g : GE) (J : Nat → KT) : KT := i_aload 0 (i_push (.int 0) (i_putf 10 0 .int (i_aload 0 (i_iload 1 (i_push (.int 0) (i_push (.int 1) (i_cs fX11_in g 3 (i_ifne (i_push (.int 0) (i_jmp [true, true, false, false, false, false, false] (J 1))) (i_push (.int 1) (i_jmp [true, true, false, false, false, false, false] (J 1)))))))))))
def bX11_slips_1 (g : GE) (J : Nat → KT) : KT := i_push (.int 1) (i_push (.int 2) (i_cv fX11_bad g 3 10 (i_ifeq (i_push (.int (-1)) (i_istore 2 (i_push (.int 0) (i_istore 3 (i_push (.int 0) (i_istore 4 (i_jmp [true, true, true, true, true, false, false] (J 2)))))))) (i_push (.int 0) (i_ireturn)))))
def bX11_slips_2 (g : GE) (J : Nat → KT) : KT := i_iload 4 (i_aload 0 (i_getf 10 27 (i_icge (i_iload 2 (i_push (.int (-1)) (i_iceq (i_jmp [false, false, true, false, false, false, false] (J 7)) (i_iload 1 (i_push (.int 1) (i_icne (i_iload 3 (i_jmp [false, false, false, false, false, false, false] (J 8))) (i_jmp [false, false, true, false, false, false, false] (J 7)))))))) (i_push (.int 0) (i_istore 5 (i_push (.int 0) (i_istore 6 (i_jmp [true, true, true, true, true, true, true] (J 3)))))))))
def bX11_slips_3 (g : GE) (J : Nat → KT) : KT := i_iload 6 (i_aload 0 (i_getf 10 32 (i_icge (i_iload 2 (i_push (.int (-1)) (i_iceq (i_jmp [true, true, false, false, true, true, false] (J 5)) (i_iload 5 (i_iload 3 (i_iclt (i_jmp [true, true, false, false, true, true, false] (J 5)) (i_jmp [true, true, true, true, true, false, false] (J 6)))))))) (i_iload 5 (i_aload 0 (i_iload 4 (i_aload 0 (i_getf 10 36 (i_iload 6 (i_aaload 4 (i_push (.int 1) (i_iaload (i_cv fX11_shows g 2 10 (i_aload 0 (i_getf 10 36 (i_iload 6 (i_aaload 4 (i_push (.int 2) (i_iaload (i_icne (i_push (.int 1) (i_jmp [true, true, true, true, true, false, true] (J 4))) (i_push (.int 0) (i_jmp [true, true, true, true, true, false, true] (J 4)))))))))))))))))))))))
def bX11_slips_4 (g : GE) (J : Nat → KT) : KT := i_iadd (i_istore 5 (i_iinc 6 1 (i_jmp [true, true, true, true, true, true, true] (J 3))))
def bX11_slips_5 (g : GE) (J : Nat → KT) : KT := i_iload 4 (i_istore 2 (i_iload 5 (i_istore 3 (i_jmp [true, true, true, true, true, false, false] (J 6)))))
def bX11_slips_6 (g : GE) (J : Nat → KT) : KT := i_iinc 4 1 (i_jmp [true, true, true, true, true, false, false] (J 2))
def bX11_slips_7 (g : GE) (J : Nat → KT) : KT := i_iload 2 (i_jmp [false, false, false, false, false, false, false] (J 8))
def bX11_slips_8 (g : GE) (J : Nat → KT) : KT := i_ireturn
theorem sbX11_slips_0 (g : GE) (J : Nat → KT) (h1 : Snd mX11_slips g 20 (J 1)) (h2 : Snd mX11_slips g 37 (J 2)) (h3 : Snd mX11_slips g 52 (J 3)) (h4 : Snd mX11_slips g 95 (J 4)) (h5 : Snd mX11_slips g 118 (J 5)) (h6 : Snd mX11_slips g 124 (J 6)) (h7 : Snd mX11_slips g 140 (J 7)) (h8 : Snd mX11_slips g 145 (J 8)) : Snd mX11_slips g 0 (bX11_slips_0 g J) := by
  unfold bX11_slips_0
  refine s_aload_n (pc := 0) (i := 0) ?_ dX11_slips_0 rfl
  refine s_iconst (pc := 1) (v := 0) ?_ dX11_slips_1 (by decide)
  refine s_putf (pc := 2) (ci := 10) (f := 0) (T := TX11) (ty0 := tyX11) ?_ ginX11 tyX11_ok nmX11 rfl (by decide) rfl rfl wt_1393 dX11_slips_2
  refine s_aload_n (pc := 5) (i := 0) ?_ dX11_slips_5 rfl
  refine s_iload_n (pc := 6) (i := 1) ?_ dX11_slips_6 rfl
  refine s_iconst (pc := 7) (v := 0) ?_ dX11_slips_7 (by decide)
  refine s_iconst (pc := 8) (v := 1) ?_ dX11_slips_8 (by decide)
  refine s_cs (pc := 9) (n := 3) ?_ tX11_in wt_1557 wt_1558 wt_17 wt_1559 ⟨crX11_in, by decide, by decide⟩ dX11_slips_9
  refine s_ifne (pc := 12) (tgt := 19) ?_ ?_ dX11_slips_12 (by decide)
  · skip
    refine s_iconst (pc := 19) (v := 0) ?_ dX11_slips_19 (by decide)
    exact s_fall (pc := 20) h1
  · skip
    refine s_iconst (pc := 15) (v := 1) ?_ dX11_slips_15 (by decide)
    exact s_goto (pc := 16) (tgt := 20) h1 dX11_slips_16 (by decide)
theorem sbX11_slips_1 (g : GE) (J : Nat → KT) (h1 : Snd mX11_slips g 20 (J 1)) (h2 : Snd mX11_slips g 37 (J 2)) (h3 : Snd mX11_slips g 52 (J 3)) (h4 : Snd mX11_slips g 95 (J 4)) (h5 : Snd mX11_slips g 118 (J 5)) (h6 : Snd mX11_slips g 124 (J 6)) (h7 : Snd mX11_slips g 140 (J 7)) (h8 : Snd mX11_slips g 145 (J 8)) : Snd mX11_slips g 20 (bX11_slips_1 g J) := by
  unfold bX11_slips_1
  refine s_iconst (pc := 20) (v := 1) ?_ dX11_slips_20 (by decide)
  refine s_iconst (pc := 21) (v := 2) ?_ dX11_slips_21 (by decide)
  refine s_cv (pc := 22) (n := 3) (ci := 10) ?_ tX11_bad rfl rfl wt_1560 wt_1562 wp_49 wt_17 wt_1563 ⟨crX11_bad, by decide, by decide⟩ dX11_slips_22
  refine s_ifeq (pc := 25) (tgt := 30) ?_ ?_ dX11_slips_25 (by decide)
  · skip
    refine s_iconst (pc := 30) (v := (-1)) ?_ dX11_slips_30 (by decide)
    refine s_istore_n (pc := 31) (i := 2) ?_ dX11_slips_31 rfl (by decide)
    refine s_iconst (pc := 32) (v := 0) ?_ dX11_slips_32 (by decide)
    refine s_istore_n (pc := 33) (i := 3) ?_ dX11_slips_33 rfl (by decide)
    refine s_iconst (pc := 34) (v := 0) ?_ dX11_slips_34 (by decide)
    refine s_istore (pc := 35) (i := 4) ?_ dX11_slips_35 (by decide)
    exact s_fall (pc := 37) h2
  · skip
    refine s_iconst (pc := 28) (v := 0) ?_ dX11_slips_28 (by decide)
    exact s_ireturn (pc := 29) rfl dX11_slips_29
theorem sbX11_slips_2 (g : GE) (J : Nat → KT) (h1 : Snd mX11_slips g 20 (J 1)) (h2 : Snd mX11_slips g 37 (J 2)) (h3 : Snd mX11_slips g 52 (J 3)) (h4 : Snd mX11_slips g 95 (J 4)) (h5 : Snd mX11_slips g 118 (J 5)) (h6 : Snd mX11_slips g 124 (J 6)) (h7 : Snd mX11_slips g 140 (J 7)) (h8 : Snd mX11_slips g 145 (J 8)) : Snd mX11_slips g 37 (bX11_slips_2 g J) := by
  unfold bX11_slips_2
  refine s_iload (pc := 37) (i := 4) ?_ dX11_slips_37
  refine s_aload_n (pc := 39) (i := 0) ?_ dX11_slips_39 rfl
  refine s_getf (pc := 40) (ci := 10) (f := 27) (T := TX11) ?_ ginX11 rfl (by decide) wt_1420 dX11_slips_40
  refine s_icge (pc := 43) (tgt := 130) ?_ ?_ dX11_slips_43 (by decide)
  · skip
    refine s_iload_n (pc := 130) (i := 2) ?_ dX11_slips_130 rfl
    refine s_iconst (pc := 131) (v := (-1)) ?_ dX11_slips_131 (by decide)
    refine s_iceq (pc := 132) (tgt := 140) ?_ ?_ dX11_slips_132 (by decide)
    · skip
      exact s_fall (pc := 140) h7
    · skip
      refine s_iload_n (pc := 135) (i := 1) ?_ dX11_slips_135 rfl
      refine s_iconst (pc := 136) (v := 1) ?_ dX11_slips_136 (by decide)
      refine s_icne (pc := 137) (tgt := 144) ?_ ?_ dX11_slips_137 (by decide)
      · skip
        refine s_iload_n (pc := 144) (i := 3) ?_ dX11_slips_144 rfl
        exact s_fall (pc := 145) h8
      · skip
        exact s_fall (pc := 140) h7
  · skip
    refine s_iconst (pc := 46) (v := 0) ?_ dX11_slips_46 (by decide)
    refine s_istore (pc := 47) (i := 5) ?_ dX11_slips_47 (by decide)
    refine s_iconst (pc := 49) (v := 0) ?_ dX11_slips_49 (by decide)
    refine s_istore (pc := 50) (i := 6) ?_ dX11_slips_50 (by decide)
    exact s_fall (pc := 52) h3
theorem sbX11_slips_3 (g : GE) (J : Nat → KT) (h1 : Snd mX11_slips g 20 (J 1)) (h2 : Snd mX11_slips g 37 (J 2)) (h3 : Snd mX11_slips g 52 (J 3)) (h4 : Snd mX11_slips g 95 (J 4)) (h5 : Snd mX11_slips g 118 (J 5)) (h6 : Snd mX11_slips g 124 (J 6)) (h7 : Snd mX11_slips g 140 (J 7)) (h8 : Snd mX11_slips g 145 (J 8)) : Snd mX11_slips g 52 (bX11_slips_3 g J) := by
  unfold bX11_slips_3
  refine s_iload (pc := 52) (i := 6) ?_ dX11_slips_52
  refine s_aload_n (pc := 54) (i := 0) ?_ dX11_slips_54 rfl
  refine s_getf (pc := 55) (ci := 10) (f := 32) (T := TX11) ?_ ginX11 rfl (by decide) wt_1425 dX11_slips_55
  refine s_icge (pc := 58) (tgt := 104) ?_ ?_ dX11_slips_58 (by decide)
  · skip
    refine s_iload_n (pc := 104) (i := 2) ?_ dX11_slips_104 rfl
    refine s_iconst (pc := 105) (v := (-1)) ?_ dX11_slips_105 (by decide)
    refine s_iceq (pc := 106) (tgt := 118) ?_ ?_ dX11_slips_106 (by decide)
    · skip
      exact s_fall (pc := 118) h5
    · skip
      refine s_iload (pc := 109) (i := 5) ?_ dX11_slips_109
      refine s_iload_n (pc := 111) (i := 3) ?_ dX11_slips_111 rfl
      refine s_iclt (pc := 112) (tgt := 118) ?_ ?_ dX11_slips_112 (by decide)
      · skip
        exact s_fall (pc := 118) h5
      · skip
        exact s_goto (pc := 115) (tgt := 124) h6 dX11_slips_115 (by decide)
  · skip
    refine s_iload (pc := 61) (i := 5) ?_ dX11_slips_61
    refine s_aload_n (pc := 63) (i := 0) ?_ dX11_slips_63 rfl
    refine s_iload (pc := 64) (i := 4) ?_ dX11_slips_64
    refine s_aload_n (pc := 66) (i := 0) ?_ dX11_slips_66 rfl
    refine s_getf (pc := 67) (ci := 10) (f := 36) (T := TX11) ?_ ginX11 rfl (by decide) wt_1429 dX11_slips_67
    refine s_iload (pc := 70) (i := 6) ?_ dX11_slips_70
    refine s_aaload (pc := 72) (t := 4) ?_ (by decide) rfl dX11_slips_72
    refine s_iconst (pc := 73) (v := 1) ?_ dX11_slips_73 (by decide)
    refine s_iaload (pc := 74) ?_ dX11_slips_74
    refine s_cv (pc := 75) (n := 2) (ci := 10) ?_ tX11_shows rfl rfl wt_1675 wt_1677 wp_69 wt_17 wt_1678 ⟨crX11_shows, by decide, by decide⟩ dX11_slips_75
    refine s_aload_n (pc := 78) (i := 0) ?_ dX11_slips_78 rfl
    refine s_getf (pc := 79) (ci := 10) (f := 36) (T := TX11) ?_ ginX11 rfl (by decide) wt_1429 dX11_slips_79
    refine s_iload (pc := 82) (i := 6) ?_ dX11_slips_82
    refine s_aaload (pc := 84) (t := 4) ?_ (by decide) rfl dX11_slips_84
    refine s_iconst (pc := 85) (v := 2) ?_ dX11_slips_85 (by decide)
    refine s_iaload (pc := 86) ?_ dX11_slips_86
    refine s_icne (pc := 87) (tgt := 94) ?_ ?_ dX11_slips_87 (by decide)
    · skip
      refine s_iconst (pc := 94) (v := 1) ?_ dX11_slips_94 (by decide)
      exact s_fall (pc := 95) h4
    · skip
      refine s_iconst (pc := 90) (v := 0) ?_ dX11_slips_90 (by decide)
      exact s_goto (pc := 91) (tgt := 95) h4 dX11_slips_91 (by decide)
theorem sbX11_slips_4 (g : GE) (J : Nat → KT) (h1 : Snd mX11_slips g 20 (J 1)) (h2 : Snd mX11_slips g 37 (J 2)) (h3 : Snd mX11_slips g 52 (J 3)) (h4 : Snd mX11_slips g 95 (J 4)) (h5 : Snd mX11_slips g 118 (J 5)) (h6 : Snd mX11_slips g 124 (J 6)) (h7 : Snd mX11_slips g 140 (J 7)) (h8 : Snd mX11_slips g 145 (J 8)) : Snd mX11_slips g 95 (bX11_slips_4 g J) := by
  unfold bX11_slips_4
  refine s_iadd (pc := 95) ?_ dX11_slips_95
  refine s_istore (pc := 96) (i := 5) ?_ dX11_slips_96 (by decide)
  refine s_iinc (pc := 98) (i := 6) (v := 1) ?_ dX11_slips_98 (by decide) (by decide)
  exact s_goto (pc := 101) (tgt := 52) h3 dX11_slips_101 (by decide)
theorem sbX11_slips_5 (g : GE) (J : Nat → KT) (h1 : Snd mX11_slips g 20 (J 1)) (h2 : Snd mX11_slips g 37 (J 2)) (h3 : Snd mX11_slips g 52 (J 3)) (h4 : Snd mX11_slips g 95 (J 4)) (h5 : Snd mX11_slips g 118 (J 5)) (h6 : Snd mX11_slips g 124 (J 6)) (h7 : Snd mX11_slips g 140 (J 7)) (h8 : Snd mX11_slips g 145 (J 8)) : Snd mX11_slips g 118 (bX11_slips_5 g J) := by
  unfold bX11_slips_5
  refine s_iload (pc := 118) (i := 4) ?_ dX11_slips_118
  refine s_istore_n (pc := 120) (i := 2) ?_ dX11_slips_120 rfl (by decide)
  refine s_iload (pc := 121) (i := 5) ?_ dX11_slips_121
  refine s_istore_n (pc := 123) (i := 3) ?_ dX11_slips_123 rfl (by decide)
  exact s_fall (pc := 124) h6
theorem sbX11_slips_6 (g : GE) (J : Nat → KT) (h1 : Snd mX11_slips g 20 (J 1)) (h2 : Snd mX11_slips g 37 (J 2)) (h3 : Snd mX11_slips g 52 (J 3)) (h4 : Snd mX11_slips g 95 (J 4)) (h5 : Snd mX11_slips g 118 (J 5)) (h6 : Snd mX11_slips g 124 (J 6)) (h7 : Snd mX11_slips g 140 (J 7)) (h8 : Snd mX11_slips g 145 (J 8)) : Snd mX11_slips g 124 (bX11_slips_6 g J) := by
  unfold bX11_slips_6
  refine s_iinc (pc := 124) (i := 4) (v := 1) ?_ dX11_slips_124 (by decide) (by decide)
  exact s_goto (pc := 127) (tgt := 37) h2 dX11_slips_127 (by decide)
theorem sbX11_slips_7 (g : GE) (J : Nat → KT) (h1 : Snd mX11_slips g 20 (J 1)) (h2 : Snd mX11_slips g 37 (J 2)) (h3 : Snd mX11_slips g 52 (J 3)) (h4 : Snd mX11_slips g 95 (J 4)) (h5 : Snd mX11_slips g 118 (J 5)) (h6 : Snd mX11_slips g 124 (J 6)) (h7 : Snd mX11_slips g 140 (J 7)) (h8 : Snd mX11_slips g 145 (J 8)) : Snd mX11_slips g 140 (bX11_slips_7 g J) := by
  unfold bX11_slips_7
  refine s_iload_n (pc := 140) (i := 2) ?_ dX11_slips_140 rfl
  exact s_goto (pc := 141) (tgt := 145) h8 dX11_slips_141 (by decide)
theorem sbX11_slips_8 (g : GE) (J : Nat → KT) (h1 : Snd mX11_slips g 20 (J 1)) (h2 : Snd mX11_slips g 37 (J 2)) (h3 : Snd mX11_slips g 52 (J 3)) (h4 : Snd mX11_slips g 95 (J 4)) (h5 : Snd mX11_slips g 118 (J 5)) (h6 : Snd mX11_slips g 124 (J 6)) (h7 : Snd mX11_slips g 140 (J 7)) (h8 : Snd mX11_slips g 145 (J 8)) : Snd mX11_slips g 145 (bX11_slips_8 g J) := by
  unfold bX11_slips_8
  exact s_ireturn (pc := 145) rfl dX11_slips_145
def jX11_slips (g : GE) : Nat → Nat → KT
  | 0, _ => fun _ _ _ => none
  | n + 1, 0 => bX11_slips_0 g (jX11_slips g n)
  | n + 1, 1 => bX11_slips_1 g (jX11_slips g n)
  | n + 1, 2 => bX11_slips_2 g (jX11_slips g n)
  | n + 1, 3 => bX11_slips_3 g (jX11_slips g n)
  | n + 1, 4 => bX11_slips_4 g (jX11_slips g n)
  | n + 1, 5 => bX11_slips_5 g (jX11_slips g n)
  | n + 1, 6 => bX11_slips_6 g (jX11_slips g n)
  | n + 1, 7 => bX11_slips_7 g (jX11_slips g n)
  | n + 1, 8 => bX11_slips_8 g (jX11_slips g n)
  | _ + 1, _ + 9 => fun _ _ _ => none
theorem sjX11_slips (g : GE) : ∀ n, Snd mX11_slips g 0 (jX11_slips g n 0) ∧ Snd mX11_slips g 20 (jX11_slips g n 1) ∧ Snd mX11_slips g 37 (jX11_slips g n 2) ∧ Snd mX11_slips g 52 (jX11_slips g n 3) ∧ Snd mX11_slips g 95 (jX11_slips g n 4) ∧ Snd mX11_slips g 118 (jX11_slips g n 5) ∧ Snd mX11_slips g 124 (jX11_slips g n 6) ∧ Snd mX11_slips g 140 (jX11_slips g n 7) ∧ Snd mX11_slips g 145 (jX11_slips g n 8)
  | 0 => ⟨s_none, s_none, s_none, s_none, s_none, s_none, s_none, s_none, s_none⟩
  | n + 1 => by
    obtain ⟨-, h1, h2, h3, h4, h5, h6, h7, h8⟩ := sjX11_slips g n
    exact ⟨sbX11_slips_0 g _ h1 h2 h3 h4 h5 h6 h7 h8, sbX11_slips_1 g _ h1 h2 h3 h4 h5 h6 h7 h8, sbX11_slips_2 g _ h1 h2 h3 h4 h5 h6 h7 h8, sbX11_slips_3 g _ h1 h2 h3 h4 h5 h6 h7 h8, sbX11_slips_4 g _ h1 h2 h3 h4 h5 h6 h7 h8, sbX11_slips_5 g _ h1 h2 h3 h4 h5 h6 h7 h8, sbX11_slips_6 g _ h1 h2 h3 h4 h5 h6 h7 h8, sbX11_slips_7 g _ h1 h2 h3 h4 h5 h6 h7 h8, sbX11_slips_8 g _ h1 h2 h3 h4 h5 h6 h7 h8⟩
def kX11_slips (g : GE) : KT := jX11_slips g g.1 0
theorem sX11_slips (g : GE) : Snd mX11_slips g 0 (kX11_slips g) := (sjX11_slips g g.1).1
def fX11_slips : FT := fun g av w => if (ent av).length ≤ 7 then kX11_slips g [] (entp 7 av) w else none
theorem tX11_slips : Mt yX11_slips cX11_slips 7 (some .int) 3 76 fX11_slips := Mt.of (K := kX11_slips) (by decide +kernel) (fun _ _ _ => rfl) sX11_slips
theorem crX11_slips : yX11_slips.cls ≠ "java/lang/invoke/MethodHandle" ∧ yX11_slips.cls ≠ "java/lang/invoke/VarHandle" ∧ (parseMethodDescriptor yX11_slips.desc).map (fun d => d.parameters.length) = some 1 := by decide +kernel
theorem dX11_status_0 : decode cX11_status 0 = .ok (.aload_n 0, 1) := by decide +kernel
theorem dX11_status_1 : decode cX11_status 1 = .ok (.iconst 0, 1) := by decide +kernel
theorem dX11_status_2 : decode cX11_status 2 = .ok (.putfield 120, 3) := by decide +kernel
theorem dX11_status_5 : decode cX11_status 5 = .ok (.iload_n 1, 1) := by decide +kernel
theorem dX11_status_6 : decode cX11_status 6 = .ok (.iconst 0, 1) := by decide +kernel
theorem dX11_status_7 : decode cX11_status 7 = .ok (.iconst 2, 1) := by decide +kernel
theorem dX11_status_8 : decode cX11_status 8 = .ok (.invokestatic 154, 3) := by decide +kernel
theorem dX11_status_11 : decode cX11_status 11 = .ok (.ifCond .eq 12, 3) := by decide +kernel
theorem dX11_status_14 : decode cX11_status 14 = .ok (.aload_n 0, 1) := by decide +kernel
theorem dX11_status_15 : decode cX11_status 15 = .ok (.getfield 17, 3) := by decide +kernel
theorem dX11_status_18 : decode cX11_status 18 = .ok (.iload_n 1, 1) := by decide +kernel
theorem dX11_status_19 : decode cX11_status 19 = .ok (.iaload, 1) := by decide +kernel
theorem dX11_status_20 : decode cX11_status 20 = .ok (.goto 4, 3) := by decide +kernel
theorem dX11_status_23 : decode cX11_status 23 = .ok (.iconst (-1), 1) := by decide +kernel
theorem dX11_status_24 : decode cX11_status 24 = .ok (.ireturn, 1) := by decide +kernel
abbrev mX11_status : MD := (cX11_status, "BlottedDeedModel", 2, 2, 52, (some .int), "status", [])
def bX11_status_0 (g : GE) (J : Nat → KT) : KT := i_aload 0 (i_push (.int 0) (i_putf 10 0 .int (i_iload 1 (i_push (.int 0) (i_push (.int 2) (i_cs fX11_in g 3 (i_ifeq (i_push (.int (-1)) (i_jmp [false, false] (J 1))) (i_aload 0 (i_getf 10 9 (i_iload 1 (i_iaload (i_jmp [false, false] (J 1)))))))))))))
def bX11_status_1 (g : GE) (J : Nat → KT) : KT := i_ireturn
theorem sbX11_status_0 (g : GE) (J : Nat → KT) (h1 : Snd mX11_status g 24 (J 1)) : Snd mX11_status g 0 (bX11_status_0 g J) := by
  unfold bX11_status_0
  refine s_aload_n (pc := 0) (i := 0) ?_ dX11_status_0 rfl
  refine s_iconst (pc := 1) (v := 0) ?_ dX11_status_1 (by decide)
  refine s_putf (pc := 2) (ci := 10) (f := 0) (T := TX11) (ty0 := tyX11) ?_ ginX11 tyX11_ok nmX11 rfl (by decide) rfl rfl wt_1393 dX11_status_2
  refine s_iload_n (pc := 5) (i := 1) ?_ dX11_status_5 rfl
  refine s_iconst (pc := 6) (v := 0) ?_ dX11_status_6 (by decide)
  refine s_iconst (pc := 7) (v := 2) ?_ dX11_status_7 (by decide)
  refine s_cs (pc := 8) (n := 3) ?_ tX11_in wt_1557 wt_1558 wt_17 wt_1559 ⟨crX11_in, by decide, by decide⟩ dX11_status_8
  refine s_ifeq (pc := 11) (tgt := 23) ?_ ?_ dX11_status_11 (by decide)
  · skip
    refine s_iconst (pc := 23) (v := (-1)) ?_ dX11_status_23 (by decide)
    exact s_fall (pc := 24) h1
  · skip
    refine s_aload_n (pc := 14) (i := 0) ?_ dX11_status_14 rfl
    refine s_getf (pc := 15) (ci := 10) (f := 9) (T := TX11) ?_ ginX11 rfl (by decide) wt_1402 dX11_status_15
    refine s_iload_n (pc := 18) (i := 1) ?_ dX11_status_18 rfl
    refine s_iaload (pc := 19) ?_ dX11_status_19
    exact s_goto (pc := 20) (tgt := 24) h1 dX11_status_20 (by decide)
theorem sbX11_status_1 (g : GE) (J : Nat → KT) (h1 : Snd mX11_status g 24 (J 1)) : Snd mX11_status g 24 (bX11_status_1 g J) := by
  unfold bX11_status_1
  exact s_ireturn (pc := 24) rfl dX11_status_24
def jX11_status (g : GE) : Nat → Nat → KT
  | 0, _ => fun _ _ _ => none
  | n + 1, 0 => bX11_status_0 g (jX11_status g n)
  | n + 1, 1 => bX11_status_1 g (jX11_status g n)
  | _ + 1, _ + 2 => fun _ _ _ => none
theorem sjX11_status (g : GE) : ∀ n, Snd mX11_status g 0 (jX11_status g n 0) ∧ Snd mX11_status g 24 (jX11_status g n 1)
  | 0 => ⟨s_none, s_none⟩
  | n + 1 => by
    obtain ⟨-, h1⟩ := sjX11_status g n
    exact ⟨sbX11_status_0 g _ h1, sbX11_status_1 g _ h1⟩
def kX11_status (g : GE) : KT := jX11_status g g.1 0
theorem sX11_status (g : GE) : Snd mX11_status g 0 (kX11_status g) := (sjX11_status g g.1).1
def fX11_status : FT := fun g av w => if (ent av).length ≤ 2 then kX11_status g [] (entp 2 av) w else none
theorem tX11_status : Mt yX11_status cX11_status 2 (some .int) 2 52 fX11_status := Mt.of (K := kX11_status) (by decide +kernel) (fun _ _ _ => rfl) sX11_status
theorem crX11_status : yX11_status.cls ≠ "java/lang/invoke/MethodHandle" ∧ yX11_status.cls ≠ "java/lang/invoke/VarHandle" ∧ (parseMethodDescriptor yX11_status.desc).map (fun d => d.parameters.length) = some 1 := by decide +kernel
theorem dX11_steps_0 : decode cX11_steps 0 = .ok (.aload_n 0, 1) := by decide +kernel
theorem dX11_steps_1 : decode cX11_steps 1 = .ok (.iconst 0, 1) := by decide +kernel
theorem dX11_steps_2 : decode cX11_steps 2 = .ok (.putfield 120, 3) := by decide +kernel
theorem dX11_steps_5 : decode cX11_steps 5 = .ok (.aload_n 0, 1) := by decide +kernel
theorem dX11_steps_6 : decode cX11_steps 6 = .ok (.aload_n 0, 1) := by decide +kernel
theorem dX11_steps_7 : decode cX11_steps 7 = .ok (.iload_n 1, 1) := by decide +kernel
theorem dX11_steps_8 : decode cX11_steps 8 = .ok (.invokevirtual 267, 3) := by decide +kernel
theorem dX11_steps_11 : decode cX11_steps 11 = .ok (.ifCond .eq 11, 3) := by decide +kernel
theorem dX11_steps_14 : decode cX11_steps 14 = .ok (.aload_n 0, 1) := by decide +kernel
theorem dX11_steps_15 : decode cX11_steps 15 = .ok (.iload_n 2, 1) := by decide +kernel
theorem dX11_steps_16 : decode cX11_steps 16 = .ok (.invokevirtual 282, 3) := by decide +kernel
theorem dX11_steps_19 : decode cX11_steps 19 = .ok (.ifCond .ne 7, 3) := by decide +kernel
theorem dX11_steps_22 : decode cX11_steps 22 = .ok (.iconst 1, 1) := by decide +kernel
theorem dX11_steps_23 : decode cX11_steps 23 = .ok (.goto 4, 3) := by decide +kernel
theorem dX11_steps_26 : decode cX11_steps 26 = .ok (.iconst 0, 1) := by decide +kernel
theorem dX11_steps_27 : decode cX11_steps 27 = .ok (.iconst 1, 1) := by decide +kernel
theorem dX11_steps_28 : decode cX11_steps 28 = .ok (.iconst 0, 1) := by decide +kernel
theorem dX11_steps_29 : decode cX11_steps 29 = .ok (.invokevirtual 215, 3) := by decide +kernel
theorem dX11_steps_32 : decode cX11_steps 32 = .ok (.ifCond .ne 27, 3) := by decide +kernel
theorem dX11_steps_35 : decode cX11_steps 35 = .ok (.aload_n 0, 1) := by decide +kernel
theorem dX11_steps_36 : decode cX11_steps 36 = .ok (.iload_n 3, 1) := by decide +kernel
theorem dX11_steps_37 : decode cX11_steps 37 = .ok (.iconst 0, 1) := by decide +kernel
theorem dX11_steps_38 : decode cX11_steps 38 = .ok (.bipush 8, 2) := by decide +kernel
theorem dX11_steps_40 : decode cX11_steps 40 = .ok (.invokestatic 154, 3) := by decide +kernel
theorem dX11_steps_43 : decode cX11_steps 43 = .ok (.ifCond .ne 7, 3) := by decide +kernel
theorem dX11_steps_46 : decode cX11_steps 46 = .ok (.iconst 1, 1) := by decide +kernel
theorem dX11_steps_47 : decode cX11_steps 47 = .ok (.goto 4, 3) := by decide +kernel
theorem dX11_steps_50 : decode cX11_steps 50 = .ok (.iconst 0, 1) := by decide +kernel
theorem dX11_steps_51 : decode cX11_steps 51 = .ok (.iconst 2, 1) := by decide +kernel
theorem dX11_steps_52 : decode cX11_steps 52 = .ok (.iconst 2, 1) := by decide +kernel
theorem dX11_steps_53 : decode cX11_steps 53 = .ok (.invokevirtual 215, 3) := by decide +kernel
theorem dX11_steps_56 : decode cX11_steps 56 = .ok (.ifCond .eq 5, 3) := by decide +kernel
theorem dX11_steps_59 : decode cX11_steps 59 = .ok (.iconst 0, 1) := by decide +kernel
theorem dX11_steps_60 : decode cX11_steps 60 = .ok (.ireturn, 1) := by decide +kernel
theorem dX11_steps_61 : decode cX11_steps 61 = .ok (.iconst 0, 1) := by decide +kernel
theorem dX11_steps_62 : decode cX11_steps 62 = .ok (.istore 4, 2) := by decide +kernel
theorem dX11_steps_64 : decode cX11_steps 64 = .ok (.iconst 0, 1) := by decide +kernel
theorem dX11_steps_65 : decode cX11_steps 65 = .ok (.istore 5, 2) := by decide +kernel
theorem dX11_steps_67 : decode cX11_steps 67 = .ok (.iconst 0, 1) := by decide +kernel
theorem dX11_steps_68 : decode cX11_steps 68 = .ok (.istore 6, 2) := by decide +kernel
theorem dX11_steps_70 : decode cX11_steps 70 = .ok (.iload 6, 2) := by decide +kernel
theorem dX11_steps_72 : decode cX11_steps 72 = .ok (.aload_n 0, 1) := by decide +kernel
theorem dX11_steps_73 : decode cX11_steps 73 = .ok (.getfield 244, 3) := by decide +kernel
theorem dX11_steps_76 : decode cX11_steps 76 = .ok (.if_icmp .ge 17, 3) := by decide +kernel
theorem dX11_steps_79 : decode cX11_steps 79 = .ok (.aload_n 0, 1) := by decide +kernel
theorem dX11_steps_80 : decode cX11_steps 80 = .ok (.getfield 110, 3) := by decide +kernel
theorem dX11_steps_83 : decode cX11_steps 83 = .ok (.iload 6, 2) := by decide +kernel
theorem dX11_steps_85 : decode cX11_steps 85 = .ok (.iconst 1, 1) := by decide +kernel
theorem dX11_steps_86 : decode cX11_steps 86 = .ok (.bastore, 1) := by decide +kernel
theorem dX11_steps_87 : decode cX11_steps 87 = .ok (.iinc 6 1, 3) := by decide +kernel
theorem dX11_steps_90 : decode cX11_steps 90 = .ok (.goto (-20), 3) := by decide +kernel
theorem dX11_steps_93 : decode cX11_steps 93 = .ok (.aload_n 0, 1) := by decide +kernel
theorem dX11_steps_94 : decode cX11_steps 94 = .ok (.iload_n 2, 1) := by decide +kernel
theorem dX11_steps_95 : decode cX11_steps 95 = .ok (.invokevirtual 333, 3) := by decide +kernel
theorem dX11_steps_98 : decode cX11_steps 98 = .ok (.ifCond .ne 171, 3) := by decide +kernel
theorem dX11_steps_101 : decode cX11_steps 101 = .ok (.iconst (-1), 1) := by decide +kernel
theorem dX11_steps_102 : decode cX11_steps 102 = .ok (.istore 6, 2) := by decide +kernel
theorem dX11_steps_104 : decode cX11_steps 104 = .ok (.iconst 0, 1) := by decide +kernel
theorem dX11_steps_105 : decode cX11_steps 105 = .ok (.istore 7, 2) := by decide +kernel
theorem dX11_steps_107 : decode cX11_steps 107 = .ok (.iconst 0, 1) := by decide +kernel
theorem dX11_steps_108 : decode cX11_steps 108 = .ok (.istore 8, 2) := by decide +kernel
theorem dX11_steps_110 : decode cX11_steps 110 = .ok (.iload 8, 2) := by decide +kernel
theorem dX11_steps_112 : decode cX11_steps 112 = .ok (.aload_n 0, 1) := by decide +kernel
theorem dX11_steps_113 : decode cX11_steps 113 = .ok (.getfield 23, 3) := by decide +kernel
theorem dX11_steps_116 : decode cX11_steps 116 = .ok (.iconst 3, 1) := by decide +kernel
theorem dX11_steps_117 : decode cX11_steps 117 = .ok (.iaload, 1) := by decide +kernel
theorem dX11_steps_118 : decode cX11_steps 118 = .ok (.if_icmp .ge 55, 3) := by decide +kernel
theorem dX11_steps_121 : decode cX11_steps 121 = .ok (.iload 5, 2) := by decide +kernel
theorem dX11_steps_123 : decode cX11_steps 123 = .ok (.iload 8, 2) := by decide +kernel
theorem dX11_steps_125 : decode cX11_steps 125 = .ok (.ishr, 1) := by decide +kernel
theorem dX11_steps_126 : decode cX11_steps 126 = .ok (.iconst 1, 1) := by decide +kernel
theorem dX11_steps_127 : decode cX11_steps 127 = .ok (.iand, 1) := by decide +kernel
theorem dX11_steps_128 : decode cX11_steps 128 = .ok (.iconst 1, 1) := by decide +kernel
theorem dX11_steps_129 : decode cX11_steps 129 = .ok (.if_icmp .ne 6, 3) := by decide +kernel
theorem dX11_steps_132 : decode cX11_steps 132 = .ok (.goto 35, 3) := by decide +kernel
theorem dX11_steps_135 : decode cX11_steps 135 = .ok (.aload_n 0, 1) := by decide +kernel
theorem dX11_steps_136 : decode cX11_steps 136 = .ok (.iload 8, 2) := by decide +kernel
theorem dX11_steps_138 : decode cX11_steps 138 = .ok (.invokevirtual 336, 3) := by decide +kernel
theorem dX11_steps_141 : decode cX11_steps 141 = .ok (.istore 9, 2) := by decide +kernel
theorem dX11_steps_143 : decode cX11_steps 143 = .ok (.iload 6, 2) := by decide +kernel
theorem dX11_steps_145 : decode cX11_steps 145 = .ok (.iconst (-1), 1) := by decide +kernel
theorem dX11_steps_146 : decode cX11_steps 146 = .ok (.if_icmp .eq 13, 3) := by decide +kernel
theorem dX11_steps_149 : decode cX11_steps 149 = .ok (.iload 9, 2) := by decide +kernel
theorem dX11_steps_151 : decode cX11_steps 151 = .ok (.iload 7, 2) := by decide +kernel
theorem dX11_steps_153 : decode cX11_steps 153 = .ok (.if_icmp .lt 6, 3) := by decide +kernel
theorem dX11_steps_156 : decode cX11_steps 156 = .ok (.goto 11, 3) := by decide +kernel
theorem dX11_steps_159 : decode cX11_steps 159 = .ok (.iload 8, 2) := by decide +kernel
theorem dX11_steps_161 : decode cX11_steps 161 = .ok (.istore 6, 2) := by decide +kernel
theorem dX11_steps_163 : decode cX11_steps 163 = .ok (.iload 9, 2) := by decide +kernel
theorem dX11_steps_165 : decode cX11_steps 165 = .ok (.istore 7, 2) := by decide +kernel
theorem dX11_steps_167 : decode cX11_steps 167 = .ok (.iinc 8 1, 3) := by decide +kernel
theorem dX11_steps_170 : decode cX11_steps 170 = .ok (.goto (-60), 3) := by decide +kernel
theorem dX11_steps_173 : decode cX11_steps 173 = .ok (.iload 5, 2) := by decide +kernel
theorem dX11_steps_175 : decode cX11_steps 175 = .ok (.iconst 1, 1) := by decide +kernel
theorem dX11_steps_176 : decode cX11_steps 176 = .ok (.iload 6, 2) := by decide +kernel
theorem dX11_steps_178 : decode cX11_steps 178 = .ok (.ishl, 1) := by decide +kernel
theorem dX11_steps_179 : decode cX11_steps 179 = .ok (.ior, 1) := by decide +kernel
theorem dX11_steps_180 : decode cX11_steps 180 = .ok (.istore 5, 2) := by decide +kernel
theorem dX11_steps_182 : decode cX11_steps 182 = .ok (.aload_n 0, 1) := by decide +kernel
theorem dX11_steps_183 : decode cX11_steps 183 = .ok (.getfield 114, 3) := by decide +kernel
theorem dX11_steps_186 : decode cX11_steps 186 = .ok (.iload 4, 2) := by decide +kernel
theorem dX11_steps_188 : decode cX11_steps 188 = .ok (.iload 6, 2) := by decide +kernel
theorem dX11_steps_190 : decode cX11_steps 190 = .ok (.iastore, 1) := by decide +kernel
theorem dX11_steps_191 : decode cX11_steps 191 = .ok (.iinc 4 1, 3) := by decide +kernel
theorem dX11_steps_194 : decode cX11_steps 194 = .ok (.aload_n 0, 1) := by decide +kernel
theorem dX11_steps_195 : decode cX11_steps 195 = .ok (.aload_n 0, 1) := by decide +kernel
theorem dX11_steps_196 : decode cX11_steps 196 = .ok (.getfield 74, 3) := by decide +kernel
theorem dX11_steps_199 : decode cX11_steps 199 = .ok (.iload_n 1, 1) := by decide +kernel
theorem dX11_steps_200 : decode cX11_steps 200 = .ok (.iaload, 1) := by decide +kernel
theorem dX11_steps_201 : decode cX11_steps 201 = .ok (.iload 6, 2) := by decide +kernel
theorem dX11_steps_203 : decode cX11_steps 203 = .ok (.invokevirtual 256, 3) := by decide +kernel
theorem dX11_steps_206 : decode cX11_steps 206 = .ok (.istore 8, 2) := by decide +kernel
theorem dX11_steps_208 : decode cX11_steps 208 = .ok (.iconst 0, 1) := by decide +kernel
theorem dX11_steps_209 : decode cX11_steps 209 = .ok (.istore 9, 2) := by decide +kernel
theorem dX11_steps_211 : decode cX11_steps 211 = .ok (.iload 9, 2) := by decide +kernel
theorem dX11_steps_213 : decode cX11_steps 213 = .ok (.aload_n 0, 1) := by decide +kernel
theorem dX11_steps_214 : decode cX11_steps 214 = .ok (.getfield 244, 3) := by decide +kernel
theorem dX11_steps_217 : decode cX11_steps 217 = .ok (.if_icmp .ge 49, 3) := by decide +kernel
theorem dX11_steps_220 : decode cX11_steps 220 = .ok (.aload_n 0, 1) := by decide +kernel
theorem dX11_steps_221 : decode cX11_steps 221 = .ok (.getfield 110, 3) := by decide +kernel
theorem dX11_steps_224 : decode cX11_steps 224 = .ok (.iload 9, 2) := by decide +kernel
theorem dX11_steps_226 : decode cX11_steps 226 = .ok (.aload_n 0, 1) := by decide +kernel
theorem dX11_steps_227 : decode cX11_steps 227 = .ok (.getfield 110, 3) := by decide +kernel
theorem dX11_steps_230 : decode cX11_steps 230 = .ok (.iload 9, 2) := by decide +kernel
theorem dX11_steps_232 : decode cX11_steps 232 = .ok (.baload, 1) := by decide +kernel
theorem dX11_steps_233 : decode cX11_steps 233 = .ok (.ifCond .eq 25, 3) := by decide +kernel
theorem dX11_steps_236 : decode cX11_steps 236 = .ok (.aload_n 0, 1) := by decide +kernel
theorem dX11_steps_237 : decode cX11_steps 237 = .ok (.aload_n 0, 1) := by decide +kernel
theorem dX11_steps_238 : decode cX11_steps 238 = .ok (.getfield 74, 3) := by decide +kernel
theorem dX11_steps_241 : decode cX11_steps 241 = .ok (.iload 9, 2) := by decide +kernel
theorem dX11_steps_243 : decode cX11_steps 243 = .ok (.iaload, 1) := by decide +kernel
theorem dX11_steps_244 : decode cX11_steps 244 = .ok (.iload 6, 2) := by decide +kernel
theorem dX11_steps_246 : decode cX11_steps 246 = .ok (.invokevirtual 256, 3) := by decide +kernel
theorem dX11_steps_249 : decode cX11_steps 249 = .ok (.iload 8, 2) := by decide +kernel
theorem dX11_steps_251 : decode cX11_steps 251 = .ok (.if_icmp .ne 7, 3) := by decide +kernel
theorem dX11_steps_254 : decode cX11_steps 254 = .ok (.iconst 1, 1) := by decide +kernel
theorem dX11_steps_255 : decode cX11_steps 255 = .ok (.goto 4, 3) := by decide +kernel
theorem dX11_steps_258 : decode cX11_steps 258 = .ok (.iconst 0, 1) := by decide +kernel
theorem dX11_steps_259 : decode cX11_steps 259 = .ok (.bastore, 1) := by decide +kernel
theorem dX11_steps_260 : decode cX11_steps 260 = .ok (.iinc 9 1, 3) := by decide +kernel
theorem dX11_steps_263 : decode cX11_steps 263 = .ok (.goto (-52), 3) := by decide +kernel
theorem dX11_steps_266 : decode cX11_steps 266 = .ok (.goto (-173), 3) := by decide +kernel
theorem dX11_steps_269 : decode cX11_steps 269 = .ok (.iload_n 3, 1) := by decide +kernel
theorem dX11_steps_270 : decode cX11_steps 270 = .ok (.ifCond .ne 8, 3) := by decide +kernel
theorem dX11_steps_273 : decode cX11_steps 273 = .ok (.iload 4, 2) := by decide +kernel
theorem dX11_steps_275 : decode cX11_steps 275 = .ok (.goto 21, 3) := by decide +kernel
theorem dX11_steps_278 : decode cX11_steps 278 = .ok (.iload_n 3, 1) := by decide +kernel
theorem dX11_steps_279 : decode cX11_steps 279 = .ok (.iload 4, 2) := by decide +kernel
theorem dX11_steps_281 : decode cX11_steps 281 = .ok (.if_icmp .gt 14, 3) := by decide +kernel
theorem dX11_steps_284 : decode cX11_steps 284 = .ok (.aload_n 0, 1) := by decide +kernel
theorem dX11_steps_285 : decode cX11_steps 285 = .ok (.getfield 114, 3) := by decide +kernel
theorem dX11_steps_288 : decode cX11_steps 288 = .ok (.iload_n 3, 1) := by decide +kernel
theorem dX11_steps_289 : decode cX11_steps 289 = .ok (.iconst 1, 1) := by decide +kernel
theorem dX11_steps_290 : decode cX11_steps 290 = .ok (.isub, 1) := by decide +kernel
theorem dX11_steps_291 : decode cX11_steps 291 = .ok (.iaload, 1) := by decide +kernel
theorem dX11_steps_292 : decode cX11_steps 292 = .ok (.goto 4, 3) := by decide +kernel
theorem dX11_steps_295 : decode cX11_steps 295 = .ok (.iconst (-1), 1) := by decide +kernel
theorem dX11_steps_296 : decode cX11_steps 296 = .ok (.ireturn, 1) := by decide +kernel
abbrev mX11_steps : MD := (cX11_steps, "BlottedDeedModel", 10, 3, 77, (some .int), "steps", [])
def bX11_steps_0 (g : GE) (J : Nat → KT) : KT := i_aload 0 (i_push (.int 0) (i_putf 10 0 .int (i_aload 0 (i_aload 0 (i_iload 1 (i_cv fX11_isReading g 1 10 (i_ifeq (i_jmp [true, true, true, true, false, false, false, false, false, false] (J 1)) (i_aload 0 (i_iload 2 (i_cv fX11_isThing g 1 10 (i_ifne (i_push (.int 0) (i_jmp [true, true, true, true, false, false, false, false, false, false] (J 2))) (i_jmp [true, true, true, true, false, false, false, false, false, false] (J 1)))))))))))))
def bX11_steps_1 (g : GE) (J : Nat → KT) : KT := i_push (.int 1) (i_jmp [true, true, true, true, false, false, false, false, false, false] (J 2))
def bX11_steps_2 (g : GE) (J : Nat → KT) : KT := i_push (.int 1) (i_push (.int 0) (i_cv fX11_bad g 3 10 (i_ifne (i_jmp [false, false, false, false, false, false, false, false, false, false] (J 4)) (i_aload 0 (i_iload 3 (i_push (.int 0) (i_push (.int 8) (i_cs fX11_in g 3 (i_ifne (i_push (.int 0) (i_jmp [true, true, true, true, false, false, false, false, false, false] (J 3))) (i_push (.int 1) (i_jmp [true, true, true, true, false, false, false, false, false, false] (J 3))))))))))))
def bX11_steps_3 (g : GE) (J : Nat → KT) : KT := i_push (.int 2) (i_push (.int 2) (i_cv fX11_bad g 3 10 (i_ifeq (i_push (.int 0) (i_istore 4 (i_push (.int 0) (i_istore 5 (i_push (.int 0) (i_istore 6 (i_jmp [true, true, true, true, true, true, true, false, false, false] (J 5)))))))) (i_jmp [false, false, false, false, false, false, false, false, false, false] (J 4)))))
def bX11_steps_4 (g : GE) (J : Nat → KT) : KT := i_push (.int 0) (i_ireturn)
def bX11_steps_5 (g : GE) (J : Nat → KT) : KT := i_iload 6 (i_aload 0 (i_getf 10 27 (i_icge (i_jmp [true, true, true, true, true, true, false, false, false, false] (J 6)) (i_aload 0 (i_getf 10 48 (i_iload 6 (i_push (.int 1) (i_zastore (i_iinc 6 1 (i_jmp [true, true, true, true, true, true, true, false, false, false] (J 5)))))))))))
def bX11_steps_6 (g : GE) (J : Nat → KT) : KT := i_aload 0 (i_iload 2 (i_cv fX11_isKnown g 1 10 (i_ifne (i_iload 3 (i_ifne (i_iload 3 (i_iload 4 (i_icgt (i_push (.int (-1)) (i_jmp [false, false, false, false, false, false, false, false, false, false] (J 13))) (i_aload 0 (i_getf 10 49 (i_iload 3 (i_push (.int 1) (i_isub (i_iaload (i_jmp [false, false, false, false, false, false, false, false, false, false] (J 13))))))))))) (i_iload 4 (i_jmp [false, false, false, false, false, false, false, false, false, false] (J 13))))) (i_push (.int (-1)) (i_istore 6 (i_push (.int 0) (i_istore 7 (i_push (.int 0) (i_istore 8 (i_jmp [true, true, true, true, true, true, true, true, true, false] (J 7)))))))))))
def bX11_steps_7 (g : GE) (J : Nat → KT) : KT := i_iload 8 (i_aload 0 (i_getf 10 11 (i_push (.int 3) (i_iaload (i_icge (i_iload 5 (i_push (.int 1) (i_iload 6 (i_ishl (i_ior (i_istore 5 (i_aload 0 (i_getf 10 49 (i_iload 4 (i_iload 6 (i_iastore (i_iinc 4 1 (i_aload 0 (i_aload 0 (i_getf 10 28 (i_iload 1 (i_iaload (i_iload 6 (i_cv fX11_digit g 2 10 (i_istore 8 (i_push (.int 0) (i_istore 9 (i_jmp [true, true, true, true, true, true, true, false, true, true] (J 10)))))))))))))))))))))))) (i_iload 5 (i_iload 8 (i_ishr (i_push (.int 1) (i_iand (i_push (.int 1) (i_icne (i_aload 0 (i_iload 8 (i_cv fX11_mostLeft g 1 10 (i_istore 9 (i_iload 6 (i_push (.int (-1)) (i_iceq (i_jmp [true, true, true, true, true, true, false, false, true, true] (J 8)) (i_iload 9 (i_iload 7 (i_iclt (i_jmp [true, true, true, true, true, true, false, false, true, true] (J 8)) (i_jmp [true, true, true, true, true, true, true, true, true, false] (J 9)))))))))))) (i_jmp [true, true, true, true, true, true, true, true, true, false] (J 9))))))))))))))
def bX11_steps_8 (g : GE) (J : Nat → KT) : KT := i_iload 8 (i_istore 6 (i_iload 9 (i_istore 7 (i_jmp [true, true, true, true, true, true, true, true, true, false] (J 9)))))
def bX11_steps_9 (g : GE) (J : Nat → KT) : KT := i_iinc 8 1 (i_jmp [true, true, true, true, true, true, true, true, true, false] (J 7))
def bX11_steps_10 (g : GE) (J : Nat → KT) : KT := i_iload 9 (i_aload 0 (i_getf 10 27 (i_icge (i_jmp [true, true, true, true, true, true, false, false, false, false] (J 6)) (i_aload 0 (i_getf 10 48 (i_iload 9 (i_aload 0 (i_getf 10 48 (i_iload 9 (i_zaload (i_ifeq (i_jmp [true, true, true, true, true, true, true, false, true, true] (J 11)) (i_aload 0 (i_aload 0 (i_getf 10 28 (i_iload 9 (i_iaload (i_iload 6 (i_cv fX11_digit g 2 10 (i_iload 8 (i_icne (i_jmp [true, true, true, true, true, true, true, false, true, true] (J 11)) (i_push (.int 1) (i_jmp [true, true, true, true, true, true, true, false, true, true] (J 12)))))))))))))))))))))))
def bX11_steps_11 (g : GE) (J : Nat → KT) : KT := i_push (.int 0) (i_jmp [true, true, true, true, true, true, true, false, true, true] (J 12))
def bX11_steps_12 (g : GE) (J : Nat → KT) : KT := i_zastore (i_iinc 9 1 (i_jmp [true, true, true, true, true, true, true, false, true, true] (J 10)))
def bX11_steps_13 (g : GE) (J : Nat → KT) : KT := i_ireturn
theorem sbX11_steps_0 (g : GE) (J : Nat → KT) (h1 : Snd mX11_steps g 22 (J 1)) (h2 : Snd mX11_steps g 27 (J 2)) (h3 : Snd mX11_steps g 51 (J 3)) (h4 : Snd mX11_steps g 59 (J 4)) (h5 : Snd mX11_steps g 70 (J 5)) (h6 : Snd mX11_steps g 93 (J 6)) (h7 : Snd mX11_steps g 110 (J 7)) (h8 : Snd mX11_steps g 159 (J 8)) (h9 : Snd mX11_steps g 167 (J 9)) (h10 : Snd mX11_steps g 211 (J 10)) (h11 : Snd mX11_steps g 258 (J 11)) (h12 : Snd mX11_steps g 259 (J 12)) (h13 : Snd mX11_steps g 296 (J 13)) : Snd mX11_steps g 0 (bX11_steps_0 g J) := by
  unfold bX11_steps_0
  refine s_aload_n (pc := 0) (i := 0) ?_ dX11_steps_0 rfl
  refine s_iconst (pc := 1) (v := 0) ?_ dX11_steps_1 (by decide)
  refine s_putf (pc := 2) (ci := 10) (f := 0) (T := TX11) (ty0 := tyX11) ?_ ginX11 tyX11_ok nmX11 rfl (by decide) rfl rfl wt_1393 dX11_steps_2
  refine s_aload_n (pc := 5) (i := 0) ?_ dX11_steps_5 rfl
  refine s_aload_n (pc := 6) (i := 0) ?_ dX11_steps_6 rfl
  refine s_iload_n (pc := 7) (i := 1) ?_ dX11_steps_7 rfl
  refine s_cv (pc := 8) (n := 1) (ci := 10) ?_ tX11_isReading rfl rfl wt_1671 wt_1673 wp_68 wt_17 wt_1674 ⟨crX11_isReading, by decide, by decide⟩ dX11_steps_8
  refine s_ifeq (pc := 11) (tgt := 22) ?_ ?_ dX11_steps_11 (by decide)
  · skip
    exact s_fall (pc := 22) h1
  · skip
    refine s_aload_n (pc := 14) (i := 0) ?_ dX11_steps_14 rfl
    refine s_iload_n (pc := 15) (i := 2) ?_ dX11_steps_15 rfl
    refine s_cv (pc := 16) (n := 1) (ci := 10) ?_ tX11_isThing rfl rfl wt_1724 wt_1726 wp_76 wt_17 wt_1727 ⟨crX11_isThing, by decide, by decide⟩ dX11_steps_16
    refine s_ifne (pc := 19) (tgt := 26) ?_ ?_ dX11_steps_19 (by decide)
    · skip
      refine s_iconst (pc := 26) (v := 0) ?_ dX11_steps_26 (by decide)
      exact s_fall (pc := 27) h2
    · skip
      exact s_fall (pc := 22) h1
theorem sbX11_steps_1 (g : GE) (J : Nat → KT) (h1 : Snd mX11_steps g 22 (J 1)) (h2 : Snd mX11_steps g 27 (J 2)) (h3 : Snd mX11_steps g 51 (J 3)) (h4 : Snd mX11_steps g 59 (J 4)) (h5 : Snd mX11_steps g 70 (J 5)) (h6 : Snd mX11_steps g 93 (J 6)) (h7 : Snd mX11_steps g 110 (J 7)) (h8 : Snd mX11_steps g 159 (J 8)) (h9 : Snd mX11_steps g 167 (J 9)) (h10 : Snd mX11_steps g 211 (J 10)) (h11 : Snd mX11_steps g 258 (J 11)) (h12 : Snd mX11_steps g 259 (J 12)) (h13 : Snd mX11_steps g 296 (J 13)) : Snd mX11_steps g 22 (bX11_steps_1 g J) := by
  unfold bX11_steps_1
  refine s_iconst (pc := 22) (v := 1) ?_ dX11_steps_22 (by decide)
  exact s_goto (pc := 23) (tgt := 27) h2 dX11_steps_23 (by decide)
theorem sbX11_steps_2 (g : GE) (J : Nat → KT) (h1 : Snd mX11_steps g 22 (J 1)) (h2 : Snd mX11_steps g 27 (J 2)) (h3 : Snd mX11_steps g 51 (J 3)) (h4 : Snd mX11_steps g 59 (J 4)) (h5 : Snd mX11_steps g 70 (J 5)) (h6 : Snd mX11_steps g 93 (J 6)) (h7 : Snd mX11_steps g 110 (J 7)) (h8 : Snd mX11_steps g 159 (J 8)) (h9 : Snd mX11_steps g 167 (J 9)) (h10 : Snd mX11_steps g 211 (J 10)) (h11 : Snd mX11_steps g 258 (J 11)) (h12 : Snd mX11_steps g 259 (J 12)) (h13 : Snd mX11_steps g 296 (J 13)) : Snd mX11_steps g 27 (bX11_steps_2 g J) := by
  unfold bX11_steps_2
  refine s_iconst (pc := 27) (v := 1) ?_ dX11_steps_27 (by decide)
  refine s_iconst (pc := 28) (v := 0) ?_ dX11_steps_28 (by decide)
  refine s_cv (pc := 29) (n := 3) (ci := 10) ?_ tX11_bad rfl rfl wt_1560 wt_1562 wp_49 wt_17 wt_1563 ⟨crX11_bad, by decide, by decide⟩ dX11_steps_29
  refine s_ifne (pc := 32) (tgt := 59) ?_ ?_ dX11_steps_32 (by decide)
  · skip
    exact s_fall (pc := 59) h4
  · skip
    refine s_aload_n (pc := 35) (i := 0) ?_ dX11_steps_35 rfl
    refine s_iload_n (pc := 36) (i := 3) ?_ dX11_steps_36 rfl
    refine s_iconst (pc := 37) (v := 0) ?_ dX11_steps_37 (by decide)
    refine s_bipush (pc := 38) (v := 8) ?_ dX11_steps_38 (by decide)
    refine s_cs (pc := 40) (n := 3) ?_ tX11_in wt_1557 wt_1558 wt_17 wt_1559 ⟨crX11_in, by decide, by decide⟩ dX11_steps_40
    refine s_ifne (pc := 43) (tgt := 50) ?_ ?_ dX11_steps_43 (by decide)
    · skip
      refine s_iconst (pc := 50) (v := 0) ?_ dX11_steps_50 (by decide)
      exact s_fall (pc := 51) h3
    · skip
      refine s_iconst (pc := 46) (v := 1) ?_ dX11_steps_46 (by decide)
      exact s_goto (pc := 47) (tgt := 51) h3 dX11_steps_47 (by decide)
theorem sbX11_steps_3 (g : GE) (J : Nat → KT) (h1 : Snd mX11_steps g 22 (J 1)) (h2 : Snd mX11_steps g 27 (J 2)) (h3 : Snd mX11_steps g 51 (J 3)) (h4 : Snd mX11_steps g 59 (J 4)) (h5 : Snd mX11_steps g 70 (J 5)) (h6 : Snd mX11_steps g 93 (J 6)) (h7 : Snd mX11_steps g 110 (J 7)) (h8 : Snd mX11_steps g 159 (J 8)) (h9 : Snd mX11_steps g 167 (J 9)) (h10 : Snd mX11_steps g 211 (J 10)) (h11 : Snd mX11_steps g 258 (J 11)) (h12 : Snd mX11_steps g 259 (J 12)) (h13 : Snd mX11_steps g 296 (J 13)) : Snd mX11_steps g 51 (bX11_steps_3 g J) := by
  unfold bX11_steps_3
  refine s_iconst (pc := 51) (v := 2) ?_ dX11_steps_51 (by decide)
  refine s_iconst (pc := 52) (v := 2) ?_ dX11_steps_52 (by decide)
  refine s_cv (pc := 53) (n := 3) (ci := 10) ?_ tX11_bad rfl rfl wt_1560 wt_1562 wp_49 wt_17 wt_1563 ⟨crX11_bad, by decide, by decide⟩ dX11_steps_53
  refine s_ifeq (pc := 56) (tgt := 61) ?_ ?_ dX11_steps_56 (by decide)
  · skip
    refine s_iconst (pc := 61) (v := 0) ?_ dX11_steps_61 (by decide)
    refine s_istore (pc := 62) (i := 4) ?_ dX11_steps_62 (by decide)
    refine s_iconst (pc := 64) (v := 0) ?_ dX11_steps_64 (by decide)
    refine s_istore (pc := 65) (i := 5) ?_ dX11_steps_65 (by decide)
    refine s_iconst (pc := 67) (v := 0) ?_ dX11_steps_67 (by decide)
    refine s_istore (pc := 68) (i := 6) ?_ dX11_steps_68 (by decide)
    exact s_fall (pc := 70) h5
  · skip
    exact s_fall (pc := 59) h4
theorem sbX11_steps_4 (g : GE) (J : Nat → KT) (h1 : Snd mX11_steps g 22 (J 1)) (h2 : Snd mX11_steps g 27 (J 2)) (h3 : Snd mX11_steps g 51 (J 3)) (h4 : Snd mX11_steps g 59 (J 4)) (h5 : Snd mX11_steps g 70 (J 5)) (h6 : Snd mX11_steps g 93 (J 6)) (h7 : Snd mX11_steps g 110 (J 7)) (h8 : Snd mX11_steps g 159 (J 8)) (h9 : Snd mX11_steps g 167 (J 9)) (h10 : Snd mX11_steps g 211 (J 10)) (h11 : Snd mX11_steps g 258 (J 11)) (h12 : Snd mX11_steps g 259 (J 12)) (h13 : Snd mX11_steps g 296 (J 13)) : Snd mX11_steps g 59 (bX11_steps_4 g J) := by
  unfold bX11_steps_4
  refine s_iconst (pc := 59) (v := 0) ?_ dX11_steps_59 (by decide)
  exact s_ireturn (pc := 60) rfl dX11_steps_60
theorem sbX11_steps_5 (g : GE) (J : Nat → KT) (h1 : Snd mX11_steps g 22 (J 1)) (h2 : Snd mX11_steps g 27 (J 2)) (h3 : Snd mX11_steps g 51 (J 3)) (h4 : Snd mX11_steps g 59 (J 4)) (h5 : Snd mX11_steps g 70 (J 5)) (h6 : Snd mX11_steps g 93 (J 6)) (h7 : Snd mX11_steps g 110 (J 7)) (h8 : Snd mX11_steps g 159 (J 8)) (h9 : Snd mX11_steps g 167 (J 9)) (h10 : Snd mX11_steps g 211 (J 10)) (h11 : Snd mX11_steps g 258 (J 11)) (h12 : Snd mX11_steps g 259 (J 12)) (h13 : Snd mX11_steps g 296 (J 13)) : Snd mX11_steps g 70 (bX11_steps_5 g J) := by
  unfold bX11_steps_5
  refine s_iload (pc := 70) (i := 6) ?_ dX11_steps_70
  refine s_aload_n (pc := 72) (i := 0) ?_ dX11_steps_72 rfl
  refine s_getf (pc := 73) (ci := 10) (f := 27) (T := TX11) ?_ ginX11 rfl (by decide) wt_1420 dX11_steps_73
  refine s_icge (pc := 76) (tgt := 93) ?_ ?_ dX11_steps_76 (by decide)
  · skip
    exact s_fall (pc := 93) h6
  · skip
    refine s_aload_n (pc := 79) (i := 0) ?_ dX11_steps_79 rfl
    refine s_getf (pc := 80) (ci := 10) (f := 48) (T := TX11) ?_ ginX11 rfl (by decide) wt_1441 dX11_steps_80
    refine s_iload (pc := 83) (i := 6) ?_ dX11_steps_83
    refine s_iconst (pc := 85) (v := 1) ?_ dX11_steps_85 (by decide)
    refine s_zastore (pc := 86) ?_ dX11_steps_86
    refine s_iinc (pc := 87) (i := 6) (v := 1) ?_ dX11_steps_87 (by decide) (by decide)
    exact s_goto (pc := 90) (tgt := 70) h5 dX11_steps_90 (by decide)
theorem sbX11_steps_6 (g : GE) (J : Nat → KT) (h1 : Snd mX11_steps g 22 (J 1)) (h2 : Snd mX11_steps g 27 (J 2)) (h3 : Snd mX11_steps g 51 (J 3)) (h4 : Snd mX11_steps g 59 (J 4)) (h5 : Snd mX11_steps g 70 (J 5)) (h6 : Snd mX11_steps g 93 (J 6)) (h7 : Snd mX11_steps g 110 (J 7)) (h8 : Snd mX11_steps g 159 (J 8)) (h9 : Snd mX11_steps g 167 (J 9)) (h10 : Snd mX11_steps g 211 (J 10)) (h11 : Snd mX11_steps g 258 (J 11)) (h12 : Snd mX11_steps g 259 (J 12)) (h13 : Snd mX11_steps g 296 (J 13)) : Snd mX11_steps g 93 (bX11_steps_6 g J) := by
  unfold bX11_steps_6
  refine s_aload_n (pc := 93) (i := 0) ?_ dX11_steps_93 rfl
  refine s_iload_n (pc := 94) (i := 2) ?_ dX11_steps_94 rfl
  refine s_cv (pc := 95) (n := 1) (ci := 10) ?_ tX11_isKnown rfl rfl wt_1871 wt_1873 wp_88 wt_17 wt_1874 ⟨crX11_isKnown, by decide, by decide⟩ dX11_steps_95
  refine s_ifne (pc := 98) (tgt := 269) ?_ ?_ dX11_steps_98 (by decide)
  · skip
    refine s_iload_n (pc := 269) (i := 3) ?_ dX11_steps_269 rfl
    refine s_ifne (pc := 270) (tgt := 278) ?_ ?_ dX11_steps_270 (by decide)
    · skip
      refine s_iload_n (pc := 278) (i := 3) ?_ dX11_steps_278 rfl
      refine s_iload (pc := 279) (i := 4) ?_ dX11_steps_279
      refine s_icgt (pc := 281) (tgt := 295) ?_ ?_ dX11_steps_281 (by decide)
      · skip
        refine s_iconst (pc := 295) (v := (-1)) ?_ dX11_steps_295 (by decide)
        exact s_fall (pc := 296) h13
      · skip
        refine s_aload_n (pc := 284) (i := 0) ?_ dX11_steps_284 rfl
        refine s_getf (pc := 285) (ci := 10) (f := 49) (T := TX11) ?_ ginX11 rfl (by decide) wt_1442 dX11_steps_285
        refine s_iload_n (pc := 288) (i := 3) ?_ dX11_steps_288 rfl
        refine s_iconst (pc := 289) (v := 1) ?_ dX11_steps_289 (by decide)
        refine s_isub (pc := 290) ?_ dX11_steps_290
        refine s_iaload (pc := 291) ?_ dX11_steps_291
        exact s_goto (pc := 292) (tgt := 296) h13 dX11_steps_292 (by decide)
    · skip
      refine s_iload (pc := 273) (i := 4) ?_ dX11_steps_273
      exact s_goto (pc := 275) (tgt := 296) h13 dX11_steps_275 (by decide)
  · skip
    refine s_iconst (pc := 101) (v := (-1)) ?_ dX11_steps_101 (by decide)
    refine s_istore (pc := 102) (i := 6) ?_ dX11_steps_102 (by decide)
    refine s_iconst (pc := 104) (v := 0) ?_ dX11_steps_104 (by decide)
    refine s_istore (pc := 105) (i := 7) ?_ dX11_steps_105 (by decide)
    refine s_iconst (pc := 107) (v := 0) ?_ dX11_steps_107 (by decide)
    refine s_istore (pc := 108) (i := 8) ?_ dX11_steps_108 (by decide)
    exact s_fall (pc := 110) h7
theorem sbX11_steps_7 (g : GE) (J : Nat → KT) (h1 : Snd mX11_steps g 22 (J 1)) (h2 : Snd mX11_steps g 27 (J 2)) (h3 : Snd mX11_steps g 51 (J 3)) (h4 : Snd mX11_steps g 59 (J 4)) (h5 : Snd mX11_steps g 70 (J 5)) (h6 : Snd mX11_steps g 93 (J 6)) (h7 : Snd mX11_steps g 110 (J 7)) (h8 : Snd mX11_steps g 159 (J 8)) (h9 : Snd mX11_steps g 167 (J 9)) (h10 : Snd mX11_steps g 211 (J 10)) (h11 : Snd mX11_steps g 258 (J 11)) (h12 : Snd mX11_steps g 259 (J 12)) (h13 : Snd mX11_steps g 296 (J 13)) : Snd mX11_steps g 110 (bX11_steps_7 g J) := by
  unfold bX11_steps_7
  refine s_iload (pc := 110) (i := 8) ?_ dX11_steps_110
  refine s_aload_n (pc := 112) (i := 0) ?_ dX11_steps_112 rfl
  refine s_getf (pc := 113) (ci := 10) (f := 11) (T := TX11) ?_ ginX11 rfl (by decide) wt_1404 dX11_steps_113
  refine s_iconst (pc := 116) (v := 3) ?_ dX11_steps_116 (by decide)
  refine s_iaload (pc := 117) ?_ dX11_steps_117
  refine s_icge (pc := 118) (tgt := 173) ?_ ?_ dX11_steps_118 (by decide)
  · skip
    refine s_iload (pc := 173) (i := 5) ?_ dX11_steps_173
    refine s_iconst (pc := 175) (v := 1) ?_ dX11_steps_175 (by decide)
    refine s_iload (pc := 176) (i := 6) ?_ dX11_steps_176
    refine s_ishl (pc := 178) ?_ dX11_steps_178
    refine s_ior (pc := 179) ?_ dX11_steps_179
    refine s_istore (pc := 180) (i := 5) ?_ dX11_steps_180 (by decide)
    refine s_aload_n (pc := 182) (i := 0) ?_ dX11_steps_182 rfl
    refine s_getf (pc := 183) (ci := 10) (f := 49) (T := TX11) ?_ ginX11 rfl (by decide) wt_1442 dX11_steps_183
    refine s_iload (pc := 186) (i := 4) ?_ dX11_steps_186
    refine s_iload (pc := 188) (i := 6) ?_ dX11_steps_188
    refine s_iastore (pc := 190) ?_ dX11_steps_190
    refine s_iinc (pc := 191) (i := 4) (v := 1) ?_ dX11_steps_191 (by decide) (by decide)
    refine s_aload_n (pc := 194) (i := 0) ?_ dX11_steps_194 rfl
    refine s_aload_n (pc := 195) (i := 0) ?_ dX11_steps_195 rfl
    refine s_getf (pc := 196) (ci := 10) (f := 28) (T := TX11) ?_ ginX11 rfl (by decide) wt_1421 dX11_steps_196
    refine s_iload_n (pc := 199) (i := 1) ?_ dX11_steps_199 rfl
    refine s_iaload (pc := 200) ?_ dX11_steps_200
    refine s_iload (pc := 201) (i := 6) ?_ dX11_steps_201
    refine s_cv (pc := 203) (n := 2) (ci := 10) ?_ tX11_digit rfl rfl wt_1679 wt_1681 wp_70 wt_17 wt_1682 ⟨crX11_digit, by decide, by decide⟩ dX11_steps_203
    refine s_istore (pc := 206) (i := 8) ?_ dX11_steps_206 (by decide)
    refine s_iconst (pc := 208) (v := 0) ?_ dX11_steps_208 (by decide)
    refine s_istore (pc := 209) (i := 9) ?_ dX11_steps_209 (by decide)
    exact s_fall (pc := 211) h10
  · skip
    refine s_iload (pc := 121) (i := 5) ?_ dX11_steps_121
    refine s_iload (pc := 123) (i := 8) ?_ dX11_steps_123
    refine s_ishr (pc := 125) ?_ dX11_steps_125
    refine s_iconst (pc := 126) (v := 1) ?_ dX11_steps_126 (by decide)
    refine s_iand (pc := 127) ?_ dX11_steps_127
    refine s_iconst (pc := 128) (v := 1) ?_ dX11_steps_128 (by decide)
    refine s_icne (pc := 129) (tgt := 135) ?_ ?_ dX11_steps_129 (by decide)
    · skip
      refine s_aload_n (pc := 135) (i := 0) ?_ dX11_steps_135 rfl
      refine s_iload (pc := 136) (i := 8) ?_ dX11_steps_136
      refine s_cv (pc := 138) (n := 1) (ci := 10) ?_ tX11_mostLeft rfl rfl wt_1875 wt_1877 wp_89 wt_17 wt_1878 ⟨crX11_mostLeft, by decide, by decide⟩ dX11_steps_138
      refine s_istore (pc := 141) (i := 9) ?_ dX11_steps_141 (by decide)
      refine s_iload (pc := 143) (i := 6) ?_ dX11_steps_143
      refine s_iconst (pc := 145) (v := (-1)) ?_ dX11_steps_145 (by decide)
      refine s_iceq (pc := 146) (tgt := 159) ?_ ?_ dX11_steps_146 (by decide)
      · skip
        exact s_fall (pc := 159) h8
      · skip
        refine s_iload (pc := 149) (i := 9) ?_ dX11_steps_149
        refine s_iload (pc := 151) (i := 7) ?_ dX11_steps_151
        refine s_iclt (pc := 153) (tgt := 159) ?_ ?_ dX11_steps_153 (by decide)
        · skip
          exact s_fall (pc := 159) h8
        · skip
          exact s_goto (pc := 156) (tgt := 167) h9 dX11_steps_156 (by decide)
    · skip
      exact s_goto (pc := 132) (tgt := 167) h9 dX11_steps_132 (by decide)
theorem sbX11_steps_8 (g : GE) (J : Nat → KT) (h1 : Snd mX11_steps g 22 (J 1)) (h2 : Snd mX11_steps g 27 (J 2)) (h3 : Snd mX11_steps g 51 (J 3)) (h4 : Snd mX11_steps g 59 (J 4)) (h5 : Snd mX11_steps g 70 (J 5)) (h6 : Snd mX11_steps g 93 (J 6)) (h7 : Snd mX11_steps g 110 (J 7)) (h8 : Snd mX11_steps g 159 (J 8)) (h9 : Snd mX11_steps g 167 (J 9)) (h10 : Snd mX11_steps g 211 (J 10)) (h11 : Snd mX11_steps g 258 (J 11)) (h12 : Snd mX11_steps g 259 (J 12)) (h13 : Snd mX11_steps g 296 (J 13)) : Snd mX11_steps g 159 (bX11_steps_8 g J) := by
  unfold bX11_steps_8
  refine s_iload (pc := 159) (i := 8) ?_ dX11_steps_159
  refine s_istore (pc := 161) (i := 6) ?_ dX11_steps_161 (by decide)
  refine s_iload (pc := 163) (i := 9) ?_ dX11_steps_163
  refine s_istore (pc := 165) (i := 7) ?_ dX11_steps_165 (by decide)
  exact s_fall (pc := 167) h9
theorem sbX11_steps_9 (g : GE) (J : Nat → KT) (h1 : Snd mX11_steps g 22 (J 1)) (h2 : Snd mX11_steps g 27 (J 2)) (h3 : Snd mX11_steps g 51 (J 3)) (h4 : Snd mX11_steps g 59 (J 4)) (h5 : Snd mX11_steps g 70 (J 5)) (h6 : Snd mX11_steps g 93 (J 6)) (h7 : Snd mX11_steps g 110 (J 7)) (h8 : Snd mX11_steps g 159 (J 8)) (h9 : Snd mX11_steps g 167 (J 9)) (h10 : Snd mX11_steps g 211 (J 10)) (h11 : Snd mX11_steps g 258 (J 11)) (h12 : Snd mX11_steps g 259 (J 12)) (h13 : Snd mX11_steps g 296 (J 13)) : Snd mX11_steps g 167 (bX11_steps_9 g J) := by
  unfold bX11_steps_9
  refine s_iinc (pc := 167) (i := 8) (v := 1) ?_ dX11_steps_167 (by decide) (by decide)
  exact s_goto (pc := 170) (tgt := 110) h7 dX11_steps_170 (by decide)
theorem sbX11_steps_10 (g : GE) (J : Nat → KT) (h1 : Snd mX11_steps g 22 (J 1)) (h2 : Snd mX11_steps g 27 (J 2)) (h3 : Snd mX11_steps g 51 (J 3)) (h4 : Snd mX11_steps g 59 (J 4)) (h5 : Snd mX11_steps g 70 (J 5)) (h6 : Snd mX11_steps g 93 (J 6)) (h7 : Snd mX11_steps g 110 (J 7)) (h8 : Snd mX11_steps g 159 (J 8)) (h9 : Snd mX11_steps g 167 (J 9)) (h10 : Snd mX11_steps g 211 (J 10)) (h11 : Snd mX11_steps g 258 (J 11)) (h12 : Snd mX11_steps g 259 (J 12)) (h13 : Snd mX11_steps g 296 (J 13)) : Snd mX11_steps g 211 (bX11_steps_10 g J) := by
  unfold bX11_steps_10
  refine s_iload (pc := 211) (i := 9) ?_ dX11_steps_211
  refine s_aload_n (pc := 213) (i := 0) ?_ dX11_steps_213 rfl
  refine s_getf (pc := 214) (ci := 10) (f := 27) (T := TX11) ?_ ginX11 rfl (by decide) wt_1420 dX11_steps_214
  refine s_icge (pc := 217) (tgt := 266) ?_ ?_ dX11_steps_217 (by decide)
  · skip
    exact s_goto (pc := 266) (tgt := 93) h6 dX11_steps_266 (by decide)
  · skip
    refine s_aload_n (pc := 220) (i := 0) ?_ dX11_steps_220 rfl
    refine s_getf (pc := 221) (ci := 10) (f := 48) (T := TX11) ?_ ginX11 rfl (by decide) wt_1441 dX11_steps_221
    refine s_iload (pc := 224) (i := 9) ?_ dX11_steps_224
    refine s_aload_n (pc := 226) (i := 0) ?_ dX11_steps_226 rfl
    refine s_getf (pc := 227) (ci := 10) (f := 48) (T := TX11) ?_ ginX11 rfl (by decide) wt_1441 dX11_steps_227
    refine s_iload (pc := 230) (i := 9) ?_ dX11_steps_230
    refine s_zaload (pc := 232) ?_ dX11_steps_232
    refine s_ifeq (pc := 233) (tgt := 258) ?_ ?_ dX11_steps_233 (by decide)
    · skip
      exact s_fall (pc := 258) h11
    · skip
      refine s_aload_n (pc := 236) (i := 0) ?_ dX11_steps_236 rfl
      refine s_aload_n (pc := 237) (i := 0) ?_ dX11_steps_237 rfl
      refine s_getf (pc := 238) (ci := 10) (f := 28) (T := TX11) ?_ ginX11 rfl (by decide) wt_1421 dX11_steps_238
      refine s_iload (pc := 241) (i := 9) ?_ dX11_steps_241
      refine s_iaload (pc := 243) ?_ dX11_steps_243
      refine s_iload (pc := 244) (i := 6) ?_ dX11_steps_244
      refine s_cv (pc := 246) (n := 2) (ci := 10) ?_ tX11_digit rfl rfl wt_1679 wt_1681 wp_70 wt_17 wt_1682 ⟨crX11_digit, by decide, by decide⟩ dX11_steps_246
      refine s_iload (pc := 249) (i := 8) ?_ dX11_steps_249
      refine s_icne (pc := 251) (tgt := 258) ?_ ?_ dX11_steps_251 (by decide)
      · skip
        exact s_fall (pc := 258) h11
      · skip
        refine s_iconst (pc := 254) (v := 1) ?_ dX11_steps_254 (by decide)
        exact s_goto (pc := 255) (tgt := 259) h12 dX11_steps_255 (by decide)
theorem sbX11_steps_11 (g : GE) (J : Nat → KT) (h1 : Snd mX11_steps g 22 (J 1)) (h2 : Snd mX11_steps g 27 (J 2)) (h3 : Snd mX11_steps g 51 (J 3)) (h4 : Snd mX11_steps g 59 (J 4)) (h5 : Snd mX11_steps g 70 (J 5)) (h6 : Snd mX11_steps g 93 (J 6)) (h7 : Snd mX11_steps g 110 (J 7)) (h8 : Snd mX11_steps g 159 (J 8)) (h9 : Snd mX11_steps g 167 (J 9)) (h10 : Snd mX11_steps g 211 (J 10)) (h11 : Snd mX11_steps g 258 (J 11)) (h12 : Snd mX11_steps g 259 (J 12)) (h13 : Snd mX11_steps g 296 (J 13)) : Snd mX11_steps g 258 (bX11_steps_11 g J) := by
  unfold bX11_steps_11
  refine s_iconst (pc := 258) (v := 0) ?_ dX11_steps_258 (by decide)
  exact s_fall (pc := 259) h12
theorem sbX11_steps_12 (g : GE) (J : Nat → KT) (h1 : Snd mX11_steps g 22 (J 1)) (h2 : Snd mX11_steps g 27 (J 2)) (h3 : Snd mX11_steps g 51 (J 3)) (h4 : Snd mX11_steps g 59 (J 4)) (h5 : Snd mX11_steps g 70 (J 5)) (h6 : Snd mX11_steps g 93 (J 6)) (h7 : Snd mX11_steps g 110 (J 7)) (h8 : Snd mX11_steps g 159 (J 8)) (h9 : Snd mX11_steps g 167 (J 9)) (h10 : Snd mX11_steps g 211 (J 10)) (h11 : Snd mX11_steps g 258 (J 11)) (h12 : Snd mX11_steps g 259 (J 12)) (h13 : Snd mX11_steps g 296 (J 13)) : Snd mX11_steps g 259 (bX11_steps_12 g J) := by
  unfold bX11_steps_12
  refine s_zastore (pc := 259) ?_ dX11_steps_259
  refine s_iinc (pc := 260) (i := 9) (v := 1) ?_ dX11_steps_260 (by decide) (by decide)
  exact s_goto (pc := 263) (tgt := 211) h10 dX11_steps_263 (by decide)
theorem sbX11_steps_13 (g : GE) (J : Nat → KT) (h1 : Snd mX11_steps g 22 (J 1)) (h2 : Snd mX11_steps g 27 (J 2)) (h3 : Snd mX11_steps g 51 (J 3)) (h4 : Snd mX11_steps g 59 (J 4)) (h5 : Snd mX11_steps g 70 (J 5)) (h6 : Snd mX11_steps g 93 (J 6)) (h7 : Snd mX11_steps g 110 (J 7)) (h8 : Snd mX11_steps g 159 (J 8)) (h9 : Snd mX11_steps g 167 (J 9)) (h10 : Snd mX11_steps g 211 (J 10)) (h11 : Snd mX11_steps g 258 (J 11)) (h12 : Snd mX11_steps g 259 (J 12)) (h13 : Snd mX11_steps g 296 (J 13)) : Snd mX11_steps g 296 (bX11_steps_13 g J) := by
  unfold bX11_steps_13
  exact s_ireturn (pc := 296) rfl dX11_steps_296
def jX11_steps (g : GE) : Nat → Nat → KT
  | 0, _ => fun _ _ _ => none
  | n + 1, 0 => bX11_steps_0 g (jX11_steps g n)
  | n + 1, 1 => bX11_steps_1 g (jX11_steps g n)
  | n + 1, 2 => bX11_steps_2 g (jX11_steps g n)
  | n + 1, 3 => bX11_steps_3 g (jX11_steps g n)
  | n + 1, 4 => bX11_steps_4 g (jX11_steps g n)
  | n + 1, 5 => bX11_steps_5 g (jX11_steps g n)
  | n + 1, 6 => bX11_steps_6 g (jX11_steps g n)
  | n + 1, 7 => bX11_steps_7 g (jX11_steps g n)
  | n + 1, 8 => bX11_steps_8 g (jX11_steps g n)
  | n + 1, 9 => bX11_steps_9 g (jX11_steps g n)
  | n + 1, 10 => bX11_steps_10 g (jX11_steps g n)
  | n + 1, 11 => bX11_steps_11 g (jX11_steps g n)
  | n + 1, 12 => bX11_steps_12 g (jX11_steps g n)
  | n + 1, 13 => bX11_steps_13 g (jX11_steps g n)
  | _ + 1, _ + 14 => fun _ _ _ => none
theorem sjX11_steps (g : GE) : ∀ n, Snd mX11_steps g 0 (jX11_steps g n 0) ∧ Snd mX11_steps g 22 (jX11_steps g n 1) ∧ Snd mX11_steps g 27 (jX11_steps g n 2) ∧ Snd mX11_steps g 51 (jX11_steps g n 3) ∧ Snd mX11_steps g 59 (jX11_steps g n 4) ∧ Snd mX11_steps g 70 (jX11_steps g n 5) ∧ Snd mX11_steps g 93 (jX11_steps g n 6) ∧ Snd mX11_steps g 110 (jX11_steps g n 7) ∧ Snd mX11_steps g 159 (jX11_steps g n 8) ∧ Snd mX11_steps g 167 (jX11_steps g n 9) ∧ Snd mX11_steps g 211 (jX11_steps g n 10) ∧ Snd mX11_steps g 258 (jX11_steps g n 11) ∧ Snd mX11_steps g 259 (jX11_steps g n 12) ∧ Snd mX11_steps g 296 (jX11_steps g n 13)
  | 0 => ⟨s_none, s_none, s_none, s_none, s_none, s_none, s_none, s_none, s_none, s_none, s_none, s_none, s_none, s_none⟩
  | n + 1 => by
    obtain ⟨-, h1, h2, h3, h4, h5, h6, h7, h8, h9, h10, h11, h12, h13⟩ := sjX11_steps g n
    exact ⟨sbX11_steps_0 g _ h1 h2 h3 h4 h5 h6 h7 h8 h9 h10 h11 h12 h13, sbX11_steps_1 g _ h1 h2 h3 h4 h5 h6 h7 h8 h9 h10 h11 h12 h13, sbX11_steps_2 g _ h1 h2 h3 h4 h5 h6 h7 h8 h9 h10 h11 h12 h13, sbX11_steps_3 g _ h1 h2 h3 h4 h5 h6 h7 h8 h9 h10 h11 h12 h13, sbX11_steps_4 g _ h1 h2 h3 h4 h5 h6 h7 h8 h9 h10 h11 h12 h13, sbX11_steps_5 g _ h1 h2 h3 h4 h5 h6 h7 h8 h9 h10 h11 h12 h13, sbX11_steps_6 g _ h1 h2 h3 h4 h5 h6 h7 h8 h9 h10 h11 h12 h13, sbX11_steps_7 g _ h1 h2 h3 h4 h5 h6 h7 h8 h9 h10 h11 h12 h13, sbX11_steps_8 g _ h1 h2 h3 h4 h5 h6 h7 h8 h9 h10 h11 h12 h13, sbX11_steps_9 g _ h1 h2 h3 h4 h5 h6 h7 h8 h9 h10 h11 h12 h13, sbX11_steps_10 g _ h1 h2 h3 h4 h5 h6 h7 h8 h9 h10 h11 h12 h13, sbX11_steps_11 g _ h1 h2 h3 h4 h5 h6 h7 h8 h9 h10 h11 h12 h13, sbX11_steps_12 g _ h1 h2 h3 h4 h5 h6 h7 h8 h9 h10 h11 h12 h13, sbX11_steps_13 g _ h1 h2 h3 h4 h5 h6 h7 h8 h9 h10 h11 h12 h13⟩
def kX11_steps (g : GE) : KT := jX11_steps g g.1 0
theorem sX11_steps (g : GE) : Snd mX11_steps g 0 (kX11_steps g) := (sjX11_steps g g.1).1
def fX11_steps : FT := fun g av w => if (ent av).length ≤ 10 then kX11_steps g [] (entp 10 av) w else none
theorem tX11_steps : Mt yX11_steps cX11_steps 10 (some .int) 3 77 fX11_steps := Mt.of (K := kX11_steps) (by decide +kernel) (fun _ _ _ => rfl) sX11_steps
theorem crX11_steps : yX11_steps.cls ≠ "java/lang/invoke/MethodHandle" ∧ yX11_steps.cls ≠ "java/lang/invoke/VarHandle" ∧ (parseMethodDescriptor yX11_steps.desc).map (fun d => d.parameters.length) = some 3 := by decide +kernel
theorem dX11_struck_0 : decode cX11_struck 0 = .ok (.aload_n 0, 1) := by decide +kernel
theorem dX11_struck_1 : decode cX11_struck 1 = .ok (.iconst 0, 1) := by decide +kernel
theorem dX11_struck_2 : decode cX11_struck 2 = .ok (.putfield 120, 3) := by decide +kernel
theorem dX11_struck_5 : decode cX11_struck 5 = .ok (.aload_n 0, 1) := by decide +kernel
theorem dX11_struck_6 : decode cX11_struck 6 = .ok (.iload_n 1, 1) := by decide +kernel
theorem dX11_struck_7 : decode cX11_struck 7 = .ok (.iconst 0, 1) := by decide +kernel
theorem dX11_struck_8 : decode cX11_struck 8 = .ok (.aload_n 0, 1) := by decide +kernel
theorem dX11_struck_9 : decode cX11_struck 9 = .ok (.getfield 23, 3) := by decide +kernel
theorem dX11_struck_12 : decode cX11_struck 12 = .ok (.iconst 2, 1) := by decide +kernel
theorem dX11_struck_13 : decode cX11_struck 13 = .ok (.iaload, 1) := by decide +kernel
theorem dX11_struck_14 : decode cX11_struck 14 = .ok (.iconst 1, 1) := by decide +kernel
theorem dX11_struck_15 : decode cX11_struck 15 = .ok (.isub, 1) := by decide +kernel
theorem dX11_struck_16 : decode cX11_struck 16 = .ok (.invokestatic 154, 3) := by decide +kernel
theorem dX11_struck_19 : decode cX11_struck 19 = .ok (.ifCond .ne 7, 3) := by decide +kernel
theorem dX11_struck_22 : decode cX11_struck 22 = .ok (.iconst 1, 1) := by decide +kernel
theorem dX11_struck_23 : decode cX11_struck 23 = .ok (.goto 4, 3) := by decide +kernel
theorem dX11_struck_26 : decode cX11_struck 26 = .ok (.iconst 0, 1) := by decide +kernel
theorem dX11_struck_27 : decode cX11_struck 27 = .ok (.iconst 1, 1) := by decide +kernel
theorem dX11_struck_28 : decode cX11_struck 28 = .ok (.iconst 0, 1) := by decide +kernel
theorem dX11_struck_29 : decode cX11_struck 29 = .ok (.invokevirtual 215, 3) := by decide +kernel
theorem dX11_struck_32 : decode cX11_struck 32 = .ok (.ifCond .eq 5, 3) := by decide +kernel
theorem dX11_struck_35 : decode cX11_struck 35 = .ok (.iconst 0, 1) := by decide +kernel
theorem dX11_struck_36 : decode cX11_struck 36 = .ok (.ireturn, 1) := by decide +kernel
theorem dX11_struck_37 : decode cX11_struck 37 = .ok (.iconst 0, 1) := by decide +kernel
theorem dX11_struck_38 : decode cX11_struck 38 = .ok (.istore_n 2, 1) := by decide +kernel
theorem dX11_struck_39 : decode cX11_struck 39 = .ok (.iconst 0, 1) := by decide +kernel
theorem dX11_struck_40 : decode cX11_struck 40 = .ok (.istore_n 3, 1) := by decide +kernel
theorem dX11_struck_41 : decode cX11_struck 41 = .ok (.iload_n 3, 1) := by decide +kernel
theorem dX11_struck_42 : decode cX11_struck 42 = .ok (.aload_n 0, 1) := by decide +kernel
theorem dX11_struck_43 : decode cX11_struck 43 = .ok (.getfield 23, 3) := by decide +kernel
theorem dX11_struck_46 : decode cX11_struck 46 = .ok (.bipush 6, 2) := by decide +kernel
theorem dX11_struck_48 : decode cX11_struck 48 = .ok (.iaload, 1) := by decide +kernel
theorem dX11_struck_49 : decode cX11_struck 49 = .ok (.if_icmp .ge 40, 3) := by decide +kernel
theorem dX11_struck_52 : decode cX11_struck 52 = .ok (.aload_n 0, 1) := by decide +kernel
theorem dX11_struck_53 : decode cX11_struck 53 = .ok (.iload_n 3, 1) := by decide +kernel
theorem dX11_struck_54 : decode cX11_struck 54 = .ok (.invokevirtual 247, 3) := by decide +kernel
theorem dX11_struck_57 : decode cX11_struck 57 = .ok (.aload_n 0, 1) := by decide +kernel
theorem dX11_struck_58 : decode cX11_struck 58 = .ok (.iload_n 1, 1) := by decide +kernel
theorem dX11_struck_59 : decode cX11_struck 59 = .ok (.invokevirtual 250, 3) := by decide +kernel
theorem dX11_struck_62 : decode cX11_struck 62 = .ok (.iload_n 2, 1) := by decide +kernel
theorem dX11_struck_63 : decode cX11_struck 63 = .ok (.aload_n 0, 1) := by decide +kernel
theorem dX11_struck_64 : decode cX11_struck 64 = .ok (.aload_n 0, 1) := by decide +kernel
theorem dX11_struck_65 : decode cX11_struck 65 = .ok (.getfield 23, 3) := by decide +kernel
theorem dX11_struck_68 : decode cX11_struck 68 = .ok (.iconst 4, 1) := by decide +kernel
theorem dX11_struck_69 : decode cX11_struck 69 = .ok (.iaload, 1) := by decide +kernel
theorem dX11_struck_70 : decode cX11_struck 70 = .ok (.invokevirtual 253, 3) := by decide +kernel
theorem dX11_struck_73 : decode cX11_struck 73 = .ok (.ifCond .ne 7, 3) := by decide +kernel
theorem dX11_struck_76 : decode cX11_struck 76 = .ok (.iconst 1, 1) := by decide +kernel
theorem dX11_struck_77 : decode cX11_struck 77 = .ok (.goto 4, 3) := by decide +kernel
theorem dX11_struck_80 : decode cX11_struck 80 = .ok (.iconst 0, 1) := by decide +kernel
theorem dX11_struck_81 : decode cX11_struck 81 = .ok (.iadd, 1) := by decide +kernel
theorem dX11_struck_82 : decode cX11_struck 82 = .ok (.istore_n 2, 1) := by decide +kernel
theorem dX11_struck_83 : decode cX11_struck 83 = .ok (.iinc 3 1, 3) := by decide +kernel
theorem dX11_struck_86 : decode cX11_struck 86 = .ok (.goto (-45), 3) := by decide +kernel
theorem dX11_struck_89 : decode cX11_struck 89 = .ok (.iload_n 2, 1) := by decide +kernel
theorem dX11_struck_90 : decode cX11_struck 90 = .ok (.ireturn, 1) := by decide +kernel
abbrev mX11_struck : MD := (cX11_struck, "BlottedDeedModel", 4, 3, 75, (some .int), "struck", [])
def bX11_struck_0 (g : GE) (J : Nat → KT) : KT := i_aload 0 (i_push (.int 0) (i_putf 10 0 .int (i_aload 0 (i_iload 1 (i_push (.int 0) (i_aload 0 (i_getf 10 11 (i_push (.int 2) (i_iaload (i_push (.int 1) (i_isub (i_cs fX11_in g 3 (i_ifne (i_push (.int 0) (i_jmp [true, true, false, false] (J 1))) (i_push (.int 1) (i_jmp [true, true, false, false] (J 1))))))))))))))))
def bX11_struck_1 (g : GE) (J : Nat → KT) : KT := i_push (.int 1) (i_push (.int 0) (i_cv fX11_bad g 3 10 (i_ifeq (i_push (.int 0) (i_istore 2 (i_push (.int 0) (i_istore 3 (i_jmp [true, true, true, true] (J 2)))))) (i_push (.int 0) (i_ireturn)))))
def bX11_struck_2 (g : GE) (J : Nat → KT) : KT := i_iload 3 (i_aload 0 (i_getf 10 11 (i_push (.int 6) (i_iaload (i_icge (i_iload 2 (i_ireturn)) (i_aload 0 (i_iload 3 (i_cv fX11_fills g 1 10 (i_aload 0 (i_iload 1 (i_cv fX11_asks g 1 10 (i_iload 2 (i_aload 0 (i_aload 0 (i_getf 10 11 (i_push (.int 4) (i_iaload (i_cv fX11_broken g 1 10 (i_ifne (i_push (.int 0) (i_jmp [true, true, false, true] (J 3))) (i_push (.int 1) (i_jmp [true, true, false, true] (J 3))))))))))))))))))))))
def bX11_struck_3 (g : GE) (J : Nat → KT) : KT := i_iadd (i_istore 2 (i_iinc 3 1 (i_jmp [true, true, true, true] (J 2))))
theorem sbX11_struck_0 (g : GE) (J : Nat → KT) (h1 : Snd mX11_struck g 27 (J 1)) (h2 : Snd mX11_struck g 41 (J 2)) (h3 : Snd mX11_struck g 81 (J 3)) : Snd mX11_struck g 0 (bX11_struck_0 g J) := by
  unfold bX11_struck_0
  refine s_aload_n (pc := 0) (i := 0) ?_ dX11_struck_0 rfl
  refine s_iconst (pc := 1) (v := 0) ?_ dX11_struck_1 (by decide)
  refine s_putf (pc := 2) (ci := 10) (f := 0) (T := TX11) (ty0 := tyX11) ?_ ginX11 tyX11_ok nmX11 rfl (by decide) rfl rfl wt_1393 dX11_struck_2
  refine s_aload_n (pc := 5) (i := 0) ?_ dX11_struck_5 rfl
  refine s_iload_n (pc := 6) (i := 1) ?_ dX11_struck_6 rfl
  refine s_iconst (pc := 7) (v := 0) ?_ dX11_struck_7 (by decide)
  refine s_aload_n (pc := 8) (i := 0) ?_ dX11_struck_8 rfl
  refine s_getf (pc := 9) (ci := 10) (f := 11) (T := TX11) ?_ ginX11 rfl (by decide) wt_1404 dX11_struck_9
  refine s_iconst (pc := 12) (v := 2) ?_ dX11_struck_12 (by decide)
  refine s_iaload (pc := 13) ?_ dX11_struck_13
  refine s_iconst (pc := 14) (v := 1) ?_ dX11_struck_14 (by decide)
  refine s_isub (pc := 15) ?_ dX11_struck_15
  refine s_cs (pc := 16) (n := 3) ?_ tX11_in wt_1557 wt_1558 wt_17 wt_1559 ⟨crX11_in, by decide, by decide⟩ dX11_struck_16
  refine s_ifne (pc := 19) (tgt := 26) ?_ ?_ dX11_struck_19 (by decide)
  · skip
    refine s_iconst (pc := 26) (v := 0) ?_ dX11_struck_26 (by decide)
    exact s_fall (pc := 27) h1
  · skip
    refine s_iconst (pc := 22) (v := 1) ?_ dX11_struck_22 (by decide)
    exact s_goto (pc := 23) (tgt := 27) h1 dX11_struck_23 (by decide)
theorem sbX11_struck_1 (g : GE) (J : Nat → KT) (h1 : Snd mX11_struck g 27 (J 1)) (h2 : Snd mX11_struck g 41 (J 2)) (h3 : Snd mX11_struck g 81 (J 3)) : Snd mX11_struck g 27 (bX11_struck_1 g J) := by
  unfold bX11_struck_1
  refine s_iconst (pc := 27) (v := 1) ?_ dX11_struck_27 (by decide)
  refine s_iconst (pc := 28) (v := 0) ?_ dX11_struck_28 (by decide)
  refine s_cv (pc := 29) (n := 3) (ci := 10) ?_ tX11_bad rfl rfl wt_1560 wt_1562 wp_49 wt_17 wt_1563 ⟨crX11_bad, by decide, by decide⟩ dX11_struck_29
  refine s_ifeq (pc := 32) (tgt := 37) ?_ ?_ dX11_struck_32 (by decide)
  · skip
    refine s_iconst (pc := 37) (v := 0) ?_ dX11_struck_37 (by decide)
    refine s_istore_n (pc := 38) (i := 2) ?_ dX11_struck_38 rfl (by decide)
    refine s_iconst (pc := 39) (v := 0) ?_ dX11_struck_39 (by decide)
    refine s_istore_n (pc := 40) (i := 3) ?_ dX11_struck_40 rfl (by decide)
    exact s_fall (pc := 41) h2
  · skip
    refine s_iconst (pc := 35) (v := 0) ?_ dX11_struck_35 (by decide)
    exact s_ireturn (pc := 36) rfl dX11_struck_36
theorem sbX11_struck_2 (g : GE) (J : Nat → KT) (h1 : Snd mX11_struck g 27 (J 1)) (h2 : Snd mX11_struck g 41 (J 2)) (h3 : Snd mX11_struck g 81 (J 3)) : Snd mX11_struck g 41 (bX11_struck_2 g J) := by
  unfold bX11_struck_2
  refine s_iload_n (pc := 41) (i := 3) ?_ dX11_struck_41 rfl
  refine s_aload_n (pc := 42) (i := 0) ?_ dX11_struck_42 rfl
  refine s_getf (pc := 43) (ci := 10) (f := 11) (T := TX11) ?_ ginX11 rfl (by decide) wt_1404 dX11_struck_43
  refine s_bipush (pc := 46) (v := 6) ?_ dX11_struck_46 (by decide)
  refine s_iaload (pc := 48) ?_ dX11_struck_48
  refine s_icge (pc := 49) (tgt := 89) ?_ ?_ dX11_struck_49 (by decide)
  · skip
    refine s_iload_n (pc := 89) (i := 2) ?_ dX11_struck_89 rfl
    exact s_ireturn (pc := 90) rfl dX11_struck_90
  · skip
    refine s_aload_n (pc := 52) (i := 0) ?_ dX11_struck_52 rfl
    refine s_iload_n (pc := 53) (i := 3) ?_ dX11_struck_53 rfl
    refine s_cv (pc := 54) (n := 1) (ci := 10) ?_ tX11_fills rfl rfl wt_1377 wt_1379 wp_45 wt_17 wt_1380 ⟨crX11_fills, by decide, by decide⟩ dX11_struck_54
    refine s_aload_n (pc := 57) (i := 0) ?_ dX11_struck_57 rfl
    refine s_iload_n (pc := 58) (i := 1) ?_ dX11_struck_58 rfl
    refine s_cv (pc := 59) (n := 1) (ci := 10) ?_ tX11_asks rfl rfl wt_1381 wt_1383 wp_46 wt_17 wt_1384 ⟨crX11_asks, by decide, by decide⟩ dX11_struck_59
    refine s_iload_n (pc := 62) (i := 2) ?_ dX11_struck_62 rfl
    refine s_aload_n (pc := 63) (i := 0) ?_ dX11_struck_63 rfl
    refine s_aload_n (pc := 64) (i := 0) ?_ dX11_struck_64 rfl
    refine s_getf (pc := 65) (ci := 10) (f := 11) (T := TX11) ?_ ginX11 rfl (by decide) wt_1404 dX11_struck_65
    refine s_iconst (pc := 68) (v := 4) ?_ dX11_struck_68 (by decide)
    refine s_iaload (pc := 69) ?_ dX11_struck_69
    refine s_cv (pc := 70) (n := 1) (ci := 10) ?_ tX11_broken rfl rfl wt_1385 wt_1387 wp_47 wt_17 wt_1388 ⟨crX11_broken, by decide, by decide⟩ dX11_struck_70
    refine s_ifne (pc := 73) (tgt := 80) ?_ ?_ dX11_struck_73 (by decide)
    · skip
      refine s_iconst (pc := 80) (v := 0) ?_ dX11_struck_80 (by decide)
      exact s_fall (pc := 81) h3
    · skip
      refine s_iconst (pc := 76) (v := 1) ?_ dX11_struck_76 (by decide)
      exact s_goto (pc := 77) (tgt := 81) h3 dX11_struck_77 (by decide)
theorem sbX11_struck_3 (g : GE) (J : Nat → KT) (h1 : Snd mX11_struck g 27 (J 1)) (h2 : Snd mX11_struck g 41 (J 2)) (h3 : Snd mX11_struck g 81 (J 3)) : Snd mX11_struck g 81 (bX11_struck_3 g J) := by
  unfold bX11_struck_3
  refine s_iadd (pc := 81) ?_ dX11_struck_81
  refine s_istore_n (pc := 82) (i := 2) ?_ dX11_struck_82 rfl (by decide)
  refine s_iinc (pc := 83) (i := 3) (v := 1) ?_ dX11_struck_83 (by decide) (by decide)
  exact s_goto (pc := 86) (tgt := 41) h2 dX11_struck_86 (by decide)
def jX11_struck (g : GE) : Nat → Nat → KT
  | 0, _ => fun _ _ _ => none
  | n + 1, 0 => bX11_struck_0 g (jX11_struck g n)
  | n + 1, 1 => bX11_struck_1 g (jX11_struck g n)
  | n + 1, 2 => bX11_struck_2 g (jX11_struck g n)
  | n + 1, 3 => bX11_struck_3 g (jX11_struck g n)
  | _ + 1, _ + 4 => fun _ _ _ => none
theorem sjX11_struck (g : GE) : ∀ n, Snd mX11_struck g 0 (jX11_struck g n 0) ∧ Snd mX11_struck g 27 (jX11_struck g n 1) ∧ Snd mX11_struck g 41 (jX11_struck g n 2) ∧ Snd mX11_struck g 81 (jX11_struck g n 3)
  | 0 => ⟨s_none, s_none, s_none, s_none⟩
  | n + 1 => by
    obtain ⟨-, h1, h2, h3⟩ := sjX11_struck g n
    exact ⟨sbX11_struck_0 g _ h1 h2 h3, sbX11_struck_1 g _ h1 h2 h3, sbX11_struck_2 g _ h1 h2 h3, sbX11_struck_3 g _ h1 h2 h3⟩
def kX11_struck (g : GE) : KT := jX11_struck g g.1 0
theorem sX11_struck (g : GE) : Snd mX11_struck g 0 (kX11_struck g) := (sjX11_struck g g.1).1
def fX11_struck : FT := fun g av w => if (ent av).length ≤ 4 then kX11_struck g [] (entp 4 av) w else none
theorem tX11_struck : Mt yX11_struck cX11_struck 4 (some .int) 3 75 fX11_struck := Mt.of (K := kX11_struck) (by decide +kernel) (fun _ _ _ => rfl) sX11_struck
theorem crX11_struck : yX11_struck.cls ≠ "java/lang/invoke/MethodHandle" ∧ yX11_struck.cls ≠ "java/lang/invoke/VarHandle" ∧ (parseMethodDescriptor yX11_struck.desc).map (fun d => d.parameters.length) = some 1 := by decide +kernel
theorem dX11_sure_0 : decode cX11_sure 0 = .ok (.aload_n 0, 1) := by decide +kernel
theorem dX11_sure_1 : decode cX11_sure 1 = .ok (.iconst 0, 1) := by decide +kernel
theorem dX11_sure_2 : decode cX11_sure 2 = .ok (.putfield 120, 3) := by decide +kernel
theorem dX11_sure_5 : decode cX11_sure 5 = .ok (.aload_n 0, 1) := by decide +kernel
theorem dX11_sure_6 : decode cX11_sure 6 = .ok (.aload_n 0, 1) := by decide +kernel
theorem dX11_sure_7 : decode cX11_sure 7 = .ok (.iload_n 1, 1) := by decide +kernel
theorem dX11_sure_8 : decode cX11_sure 8 = .ok (.invokevirtual 282, 3) := by decide +kernel
theorem dX11_sure_11 : decode cX11_sure 11 = .ok (.ifCond .eq 11, 3) := by decide +kernel
theorem dX11_sure_14 : decode cX11_sure 14 = .ok (.aload_n 0, 1) := by decide +kernel
theorem dX11_sure_15 : decode cX11_sure 15 = .ok (.iload_n 2, 1) := by decide +kernel
theorem dX11_sure_16 : decode cX11_sure 16 = .ok (.invokevirtual 276, 3) := by decide +kernel
theorem dX11_sure_19 : decode cX11_sure 19 = .ok (.ifCond .ne 7, 3) := by decide +kernel
theorem dX11_sure_22 : decode cX11_sure 22 = .ok (.iconst 1, 1) := by decide +kernel
theorem dX11_sure_23 : decode cX11_sure 23 = .ok (.goto 4, 3) := by decide +kernel
theorem dX11_sure_26 : decode cX11_sure 26 = .ok (.iconst 0, 1) := by decide +kernel
theorem dX11_sure_27 : decode cX11_sure 27 = .ok (.iconst 1, 1) := by decide +kernel
theorem dX11_sure_28 : decode cX11_sure 28 = .ok (.iconst 0, 1) := by decide +kernel
theorem dX11_sure_29 : decode cX11_sure 29 = .ok (.invokevirtual 215, 3) := by decide +kernel
theorem dX11_sure_32 : decode cX11_sure 32 = .ok (.ifCond .eq 5, 3) := by decide +kernel
theorem dX11_sure_35 : decode cX11_sure 35 = .ok (.iconst 0, 1) := by decide +kernel
theorem dX11_sure_36 : decode cX11_sure 36 = .ok (.ireturn, 1) := by decide +kernel
theorem dX11_sure_37 : decode cX11_sure 37 = .ok (.aload_n 0, 1) := by decide +kernel
theorem dX11_sure_38 : decode cX11_sure 38 = .ok (.getfield 244, 3) := by decide +kernel
theorem dX11_sure_41 : decode cX11_sure 41 = .ok (.ifCond .le 20, 3) := by decide +kernel
theorem dX11_sure_44 : decode cX11_sure 44 = .ok (.aload_n 0, 1) := by decide +kernel
theorem dX11_sure_45 : decode cX11_sure 45 = .ok (.iload_n 1, 1) := by decide +kernel
theorem dX11_sure_46 : decode cX11_sure 46 = .ok (.iload_n 2, 1) := by decide +kernel
theorem dX11_sure_47 : decode cX11_sure 47 = .ok (.invokevirtual 285, 3) := by decide +kernel
theorem dX11_sure_50 : decode cX11_sure 50 = .ok (.aload_n 0, 1) := by decide +kernel
theorem dX11_sure_51 : decode cX11_sure 51 = .ok (.getfield 244, 3) := by decide +kernel
theorem dX11_sure_54 : decode cX11_sure 54 = .ok (.if_icmp .ne 7, 3) := by decide +kernel
theorem dX11_sure_57 : decode cX11_sure 57 = .ok (.iconst 1, 1) := by decide +kernel
theorem dX11_sure_58 : decode cX11_sure 58 = .ok (.goto 4, 3) := by decide +kernel
theorem dX11_sure_61 : decode cX11_sure 61 = .ok (.iconst 0, 1) := by decide +kernel
theorem dX11_sure_62 : decode cX11_sure 62 = .ok (.ireturn, 1) := by decide +kernel
abbrev mX11_sure : MD := (cX11_sure, "BlottedDeedModel", 3, 3, 76, (some .boolean), "sure", [])
def bX11_sure_0 (g : GE) (J : Nat → KT) : KT := i_aload 0 (i_push (.int 0) (i_putf 10 0 .int (i_aload 0 (i_aload 0 (i_iload 1 (i_cv fX11_isThing g 1 10 (i_ifeq (i_jmp [true, true, true] (J 1)) (i_aload 0 (i_iload 2 (i_cv fX11_isHeir g 1 10 (i_ifne (i_push (.int 0) (i_jmp [true, true, true] (J 2))) (i_jmp [true, true, true] (J 1)))))))))))))
def bX11_sure_1 (g : GE) (J : Nat → KT) : KT := i_push (.int 1) (i_jmp [true, true, true] (J 2))
def bX11_sure_2 (g : GE) (J : Nat → KT) : KT := i_push (.int 1) (i_push (.int 0) (i_cv fX11_bad g 3 10 (i_ifeq (i_aload 0 (i_getf 10 27 (i_ifle (i_jmp [false, false, false] (J 3)) (i_aload 0 (i_iload 1 (i_iload 2 (i_cv fX11_oftenBy g 2 10 (i_aload 0 (i_getf 10 27 (i_icne (i_jmp [false, false, false] (J 3)) (i_push (.int 1) (i_jmp [false, false, false] (J 4))))))))))))) (i_push (.int 0) (i_zreturn)))))
def bX11_sure_3 (g : GE) (J : Nat → KT) : KT := i_push (.int 0) (i_jmp [false, false, false] (J 4))
def bX11_sure_4 (g : GE) (J : Nat → KT) : KT := i_zreturn
theorem sbX11_sure_0 (g : GE) (J : Nat → KT) (h1 : Snd mX11_sure g 22 (J 1)) (h2 : Snd mX11_sure g 27 (J 2)) (h3 : Snd mX11_sure g 61 (J 3)) (h4 : Snd mX11_sure g 62 (J 4)) : Snd mX11_sure g 0 (bX11_sure_0 g J) := by
  unfold bX11_sure_0
  refine s_aload_n (pc := 0) (i := 0) ?_ dX11_sure_0 rfl
  refine s_iconst (pc := 1) (v := 0) ?_ dX11_sure_1 (by decide)
  refine s_putf (pc := 2) (ci := 10) (f := 0) (T := TX11) (ty0 := tyX11) ?_ ginX11 tyX11_ok nmX11 rfl (by decide) rfl rfl wt_1393 dX11_sure_2
  refine s_aload_n (pc := 5) (i := 0) ?_ dX11_sure_5 rfl
  refine s_aload_n (pc := 6) (i := 0) ?_ dX11_sure_6 rfl
  refine s_iload_n (pc := 7) (i := 1) ?_ dX11_sure_7 rfl
  refine s_cv (pc := 8) (n := 1) (ci := 10) ?_ tX11_isThing rfl rfl wt_1724 wt_1726 wp_76 wt_17 wt_1727 ⟨crX11_isThing, by decide, by decide⟩ dX11_sure_8
  refine s_ifeq (pc := 11) (tgt := 22) ?_ ?_ dX11_sure_11 (by decide)
  · skip
    exact s_fall (pc := 22) h1
  · skip
    refine s_aload_n (pc := 14) (i := 0) ?_ dX11_sure_14 rfl
    refine s_iload_n (pc := 15) (i := 2) ?_ dX11_sure_15 rfl
    refine s_cv (pc := 16) (n := 1) (ci := 10) ?_ tX11_isHeir rfl rfl wt_1703 wt_1705 wp_72 wt_17 wt_1706 ⟨crX11_isHeir, by decide, by decide⟩ dX11_sure_16
    refine s_ifne (pc := 19) (tgt := 26) ?_ ?_ dX11_sure_19 (by decide)
    · skip
      refine s_iconst (pc := 26) (v := 0) ?_ dX11_sure_26 (by decide)
      exact s_fall (pc := 27) h2
    · skip
      exact s_fall (pc := 22) h1
theorem sbX11_sure_1 (g : GE) (J : Nat → KT) (h1 : Snd mX11_sure g 22 (J 1)) (h2 : Snd mX11_sure g 27 (J 2)) (h3 : Snd mX11_sure g 61 (J 3)) (h4 : Snd mX11_sure g 62 (J 4)) : Snd mX11_sure g 22 (bX11_sure_1 g J) := by
  unfold bX11_sure_1
  refine s_iconst (pc := 22) (v := 1) ?_ dX11_sure_22 (by decide)
  exact s_goto (pc := 23) (tgt := 27) h2 dX11_sure_23 (by decide)
theorem sbX11_sure_2 (g : GE) (J : Nat → KT) (h1 : Snd mX11_sure g 22 (J 1)) (h2 : Snd mX11_sure g 27 (J 2)) (h3 : Snd mX11_sure g 61 (J 3)) (h4 : Snd mX11_sure g 62 (J 4)) : Snd mX11_sure g 27 (bX11_sure_2 g J) := by
  unfold bX11_sure_2
  refine s_iconst (pc := 27) (v := 1) ?_ dX11_sure_27 (by decide)
  refine s_iconst (pc := 28) (v := 0) ?_ dX11_sure_28 (by decide)
  refine s_cv (pc := 29) (n := 3) (ci := 10) ?_ tX11_bad rfl rfl wt_1560 wt_1562 wp_49 wt_17 wt_1563 ⟨crX11_bad, by decide, by decide⟩ dX11_sure_29
  refine s_ifeq (pc := 32) (tgt := 37) ?_ ?_ dX11_sure_32 (by decide)
  · skip
    refine s_aload_n (pc := 37) (i := 0) ?_ dX11_sure_37 rfl
    refine s_getf (pc := 38) (ci := 10) (f := 27) (T := TX11) ?_ ginX11 rfl (by decide) wt_1420 dX11_sure_38
    refine s_ifle (pc := 41) (tgt := 61) ?_ ?_ dX11_sure_41 (by decide)
    · skip
      exact s_fall (pc := 61) h3
    · skip
      refine s_aload_n (pc := 44) (i := 0) ?_ dX11_sure_44 rfl
      refine s_iload_n (pc := 45) (i := 1) ?_ dX11_sure_45 rfl
      refine s_iload_n (pc := 46) (i := 2) ?_ dX11_sure_46 rfl
      refine s_cv (pc := 47) (n := 2) (ci := 10) ?_ tX11_oftenBy rfl rfl wt_1732 wt_1734 wp_77 wt_17 wt_1735 ⟨crX11_oftenBy, by decide, by decide⟩ dX11_sure_47
      refine s_aload_n (pc := 50) (i := 0) ?_ dX11_sure_50 rfl
      refine s_getf (pc := 51) (ci := 10) (f := 27) (T := TX11) ?_ ginX11 rfl (by decide) wt_1420 dX11_sure_51
      refine s_icne (pc := 54) (tgt := 61) ?_ ?_ dX11_sure_54 (by decide)
      · skip
        exact s_fall (pc := 61) h3
      · skip
        refine s_iconst (pc := 57) (v := 1) ?_ dX11_sure_57 (by decide)
        exact s_goto (pc := 58) (tgt := 62) h4 dX11_sure_58 (by decide)
  · skip
    refine s_iconst (pc := 35) (v := 0) ?_ dX11_sure_35 (by decide)
    exact s_zreturn (pc := 36) rfl dX11_sure_36
theorem sbX11_sure_3 (g : GE) (J : Nat → KT) (h1 : Snd mX11_sure g 22 (J 1)) (h2 : Snd mX11_sure g 27 (J 2)) (h3 : Snd mX11_sure g 61 (J 3)) (h4 : Snd mX11_sure g 62 (J 4)) : Snd mX11_sure g 61 (bX11_sure_3 g J) := by
  unfold bX11_sure_3
  refine s_iconst (pc := 61) (v := 0) ?_ dX11_sure_61 (by decide)
  exact s_fall (pc := 62) h4
theorem sbX11_sure_4 (g : GE) (J : Nat → KT) (h1 : Snd mX11_sure g 22 (J 1)) (h2 : Snd mX11_sure g 27 (J 2)) (h3 : Snd mX11_sure g 61 (J 3)) (h4 : Snd mX11_sure g 62 (J 4)) : Snd mX11_sure g 62 (bX11_sure_4 g J) := by
  unfold bX11_sure_4
  exact s_zreturn (pc := 62) rfl dX11_sure_62
def jX11_sure (g : GE) : Nat → Nat → KT
  | 0, _ => fun _ _ _ => none
  | n + 1, 0 => bX11_sure_0 g (jX11_sure g n)
  | n + 1, 1 => bX11_sure_1 g (jX11_sure g n)
  | n + 1, 2 => bX11_sure_2 g (jX11_sure g n)
  | n + 1, 3 => bX11_sure_3 g (jX11_sure g n)
  | n + 1, 4 => bX11_sure_4 g (jX11_sure g n)
  | _ + 1, _ + 5 => fun _ _ _ => none
theorem sjX11_sure (g : GE) : ∀ n, Snd mX11_sure g 0 (jX11_sure g n 0) ∧ Snd mX11_sure g 22 (jX11_sure g n 1) ∧ Snd mX11_sure g 27 (jX11_sure g n 2) ∧ Snd mX11_sure g 61 (jX11_sure g n 3) ∧ Snd mX11_sure g 62 (jX11_sure g n 4)
  | 0 => ⟨s_none, s_none, s_none, s_none, s_none⟩
  | n + 1 => by
    obtain ⟨-, h1, h2, h3, h4⟩ := sjX11_sure g n
    exact ⟨sbX11_sure_0 g _ h1 h2 h3 h4, sbX11_sure_1 g _ h1 h2 h3 h4, sbX11_sure_2 g _ h1 h2 h3 h4, sbX11_sure_3 g _ h1 h2 h3 h4, sbX11_sure_4 g _ h1 h2 h3 h4⟩
def kX11_sure (g : GE) : KT := jX11_sure g g.1 0
theorem sX11_sure (g : GE) : Snd mX11_sure g 0 (kX11_sure g) := (sjX11_sure g g.1).1
def fX11_sure : FT := fun g av w => if (ent av).length ≤ 3 then kX11_sure g [] (entp 3 av) w else none
theorem tX11_sure : Mt yX11_sure cX11_sure 3 (some .boolean) 3 76 fX11_sure := Mt.of (K := kX11_sure) (by decide +kernel) (fun _ _ _ => rfl) sX11_sure
theorem crX11_sure : yX11_sure.cls ≠ "java/lang/invoke/MethodHandle" ∧ yX11_sure.cls ≠ "java/lang/invoke/VarHandle" ∧ (parseMethodDescriptor yX11_sure.desc).map (fun d => d.parameters.length) = some 2 := by decide +kernel
theorem dX11_sway_0 : decode cX11_sway 0 = .ok (.aload_n 0, 1) := by decide +kernel
theorem dX11_sway_1 : decode cX11_sway 1 = .ok (.iconst 0, 1) := by decide +kernel
theorem dX11_sway_2 : decode cX11_sway 2 = .ok (.putfield 120, 3) := by decide +kernel
theorem dX11_sway_5 : decode cX11_sway 5 = .ok (.aload_n 0, 1) := by decide +kernel
theorem dX11_sway_6 : decode cX11_sway 6 = .ok (.aload_n 0, 1) := by decide +kernel
theorem dX11_sway_7 : decode cX11_sway 7 = .ok (.iload_n 1, 1) := by decide +kernel
theorem dX11_sway_8 : decode cX11_sway 8 = .ok (.invokevirtual 282, 3) := by decide +kernel
theorem dX11_sway_11 : decode cX11_sway 11 = .ok (.ifCond .ne 7, 3) := by decide +kernel
theorem dX11_sway_14 : decode cX11_sway 14 = .ok (.iconst 1, 1) := by decide +kernel
theorem dX11_sway_15 : decode cX11_sway 15 = .ok (.goto 4, 3) := by decide +kernel
theorem dX11_sway_18 : decode cX11_sway 18 = .ok (.iconst 0, 1) := by decide +kernel
theorem dX11_sway_19 : decode cX11_sway 19 = .ok (.iconst 1, 1) := by decide +kernel
theorem dX11_sway_20 : decode cX11_sway 20 = .ok (.iconst 0, 1) := by decide +kernel
theorem dX11_sway_21 : decode cX11_sway 21 = .ok (.invokevirtual 215, 3) := by decide +kernel
theorem dX11_sway_24 : decode cX11_sway 24 = .ok (.ifCond .ne 25, 3) := by decide +kernel
theorem dX11_sway_27 : decode cX11_sway 27 = .ok (.aload_n 0, 1) := by decide +kernel
theorem dX11_sway_28 : decode cX11_sway 28 = .ok (.aload_n 0, 1) := by decide +kernel
theorem dX11_sway_29 : decode cX11_sway 29 = .ok (.iload_n 2, 1) := by decide +kernel
theorem dX11_sway_30 : decode cX11_sway 30 = .ok (.invokevirtual 234, 3) := by decide +kernel
theorem dX11_sway_33 : decode cX11_sway 33 = .ok (.ifCond .ne 7, 3) := by decide +kernel
theorem dX11_sway_36 : decode cX11_sway 36 = .ok (.iconst 1, 1) := by decide +kernel
theorem dX11_sway_37 : decode cX11_sway 37 = .ok (.goto 4, 3) := by decide +kernel
theorem dX11_sway_40 : decode cX11_sway 40 = .ok (.iconst 0, 1) := by decide +kernel
theorem dX11_sway_41 : decode cX11_sway 41 = .ok (.iconst 2, 1) := by decide +kernel
theorem dX11_sway_42 : decode cX11_sway 42 = .ok (.iconst 1, 1) := by decide +kernel
theorem dX11_sway_43 : decode cX11_sway 43 = .ok (.invokevirtual 215, 3) := by decide +kernel
theorem dX11_sway_46 : decode cX11_sway 46 = .ok (.ifCond .eq 5, 3) := by decide +kernel
theorem dX11_sway_49 : decode cX11_sway 49 = .ok (.iconst 0, 1) := by decide +kernel
theorem dX11_sway_50 : decode cX11_sway 50 = .ok (.ireturn, 1) := by decide +kernel
theorem dX11_sway_51 : decode cX11_sway 51 = .ok (.iconst 0, 1) := by decide +kernel
theorem dX11_sway_52 : decode cX11_sway 52 = .ok (.istore_n 3, 1) := by decide +kernel
theorem dX11_sway_53 : decode cX11_sway 53 = .ok (.iconst 0, 1) := by decide +kernel
theorem dX11_sway_54 : decode cX11_sway 54 = .ok (.istore 4, 2) := by decide +kernel
theorem dX11_sway_56 : decode cX11_sway 56 = .ok (.iload 4, 2) := by decide +kernel
theorem dX11_sway_58 : decode cX11_sway 58 = .ok (.aload_n 0, 1) := by decide +kernel
theorem dX11_sway_59 : decode cX11_sway 59 = .ok (.getfield 244, 3) := by decide +kernel
theorem dX11_sway_62 : decode cX11_sway 62 = .ok (.if_icmp .ge 28, 3) := by decide +kernel
theorem dX11_sway_65 : decode cX11_sway 65 = .ok (.iload_n 3, 1) := by decide +kernel
theorem dX11_sway_66 : decode cX11_sway 66 = .ok (.aload_n 0, 1) := by decide +kernel
theorem dX11_sway_67 : decode cX11_sway 67 = .ok (.iload 4, 2) := by decide +kernel
theorem dX11_sway_69 : decode cX11_sway 69 = .ok (.iload_n 1, 1) := by decide +kernel
theorem dX11_sway_70 : decode cX11_sway 70 = .ok (.iload_n 2, 1) := by decide +kernel
theorem dX11_sway_71 : decode cX11_sway 71 = .ok (.invokevirtual 304, 3) := by decide +kernel
theorem dX11_sway_74 : decode cX11_sway 74 = .ok (.ifCond .eq 7, 3) := by decide +kernel
theorem dX11_sway_77 : decode cX11_sway 77 = .ok (.iconst 1, 1) := by decide +kernel
theorem dX11_sway_78 : decode cX11_sway 78 = .ok (.goto 4, 3) := by decide +kernel
theorem dX11_sway_81 : decode cX11_sway 81 = .ok (.iconst 0, 1) := by decide +kernel
theorem dX11_sway_82 : decode cX11_sway 82 = .ok (.iadd, 1) := by decide +kernel
theorem dX11_sway_83 : decode cX11_sway 83 = .ok (.istore_n 3, 1) := by decide +kernel
theorem dX11_sway_84 : decode cX11_sway 84 = .ok (.iinc 4 1, 3) := by decide +kernel
theorem dX11_sway_87 : decode cX11_sway 87 = .ok (.goto (-31), 3) := by decide +kernel
theorem dX11_sway_90 : decode cX11_sway 90 = .ok (.iload_n 3, 1) := by decide +kernel
theorem dX11_sway_91 : decode cX11_sway 91 = .ok (.ireturn, 1) := by decide +kernel
abbrev mX11_sway : MD := (cX11_sway, "BlottedDeedModel", 5, 3, 80, (some .int), "sway", [])
def bX11_sway_0 (g : GE) (J : Nat → KT) : KT := i_aload 0 (i_push (.int 0) (i_putf 10 0 .int (i_aload 0 (i_aload 0 (i_iload 1 (i_cv fX11_isThing g 1 10 (i_ifne (i_push (.int 0) (i_jmp [true, true, true, false, false] (J 1))) (i_push (.int 1) (i_jmp [true, true, true, false, false] (J 1))))))))))
def bX11_sway_1 (g : GE) (J : Nat → KT) : KT := i_push (.int 1) (i_push (.int 0) (i_cv fX11_bad g 3 10 (i_ifne (i_jmp [false, false, false, false, false] (J 3)) (i_aload 0 (i_aload 0 (i_iload 2 (i_cv fX11_isBlot g 1 10 (i_ifne (i_push (.int 0) (i_jmp [true, true, true, false, false] (J 2))) (i_push (.int 1) (i_jmp [true, true, true, false, false] (J 2)))))))))))
def bX11_sway_2 (g : GE) (J : Nat → KT) : KT := i_push (.int 2) (i_push (.int 1) (i_cv fX11_bad g 3 10 (i_ifeq (i_push (.int 0) (i_istore 3 (i_push (.int 0) (i_istore 4 (i_jmp [true, true, true, true, true] (J 4)))))) (i_jmp [false, false, false, false, false] (J 3)))))
def bX11_sway_3 (g : GE) (J : Nat → KT) : KT := i_push (.int 0) (i_ireturn)
def bX11_sway_4 (g : GE) (J : Nat → KT) : KT := i_iload 4 (i_aload 0 (i_getf 10 27 (i_icge (i_iload 3 (i_ireturn)) (i_iload 3 (i_aload 0 (i_iload 4 (i_iload 1 (i_iload 2 (i_cv fX11_isSwayed g 3 10 (i_ifeq (i_push (.int 0) (i_jmp [true, true, true, false, true] (J 5))) (i_push (.int 1) (i_jmp [true, true, true, false, true] (J 5)))))))))))))
def bX11_sway_5 (g : GE) (J : Nat → KT) : KT := i_iadd (i_istore 3 (i_iinc 4 1 (i_jmp [true, true, true, true, true] (J 4))))
theorem sbX11_sway_0 (g : GE) (J : Nat → KT) (h1 : Snd mX11_sway g 19 (J 1)) (h2 : Snd mX11_sway g 41 (J 2)) (h3 : Snd mX11_sway g 49 (J 3)) (h4 : Snd mX11_sway g 56 (J 4)) (h5 : Snd mX11_sway g 82 (J 5)) : Snd mX11_sway g 0 (bX11_sway_0 g J) := by
  unfold bX11_sway_0
  refine s_aload_n (pc := 0) (i := 0) ?_ dX11_sway_0 rfl
  refine s_iconst (pc := 1) (v := 0) ?_ dX11_sway_1 (by decide)
  refine s_putf (pc := 2) (ci := 10) (f := 0) (T := TX11) (ty0 := tyX11) ?_ ginX11 tyX11_ok nmX11 rfl (by decide) rfl rfl wt_1393 dX11_sway_2
  refine s_aload_n (pc := 5) (i := 0) ?_ dX11_sway_5 rfl
  refine s_aload_n (pc := 6) (i := 0) ?_ dX11_sway_6 rfl
  refine s_iload_n (pc := 7) (i := 1) ?_ dX11_sway_7 rfl
  refine s_cv (pc := 8) (n := 1) (ci := 10) ?_ tX11_isThing rfl rfl wt_1724 wt_1726 wp_76 wt_17 wt_1727 ⟨crX11_isThing, by decide, by decide⟩ dX11_sway_8
  refine s_ifne (pc := 11) (tgt := 18) ?_ ?_ dX11_sway_11 (by decide)
  · skip
    refine s_iconst (pc := 18) (v := 0) ?_ dX11_sway_18 (by decide)
    exact s_fall (pc := 19) h1
  · skip
    refine s_iconst (pc := 14) (v := 1) ?_ dX11_sway_14 (by decide)
    exact s_goto (pc := 15) (tgt := 19) h1 dX11_sway_15 (by decide)
theorem sbX11_sway_1 (g : GE) (J : Nat → KT) (h1 : Snd mX11_sway g 19 (J 1)) (h2 : Snd mX11_sway g 41 (J 2)) (h3 : Snd mX11_sway g 49 (J 3)) (h4 : Snd mX11_sway g 56 (J 4)) (h5 : Snd mX11_sway g 82 (J 5)) : Snd mX11_sway g 19 (bX11_sway_1 g J) := by
  unfold bX11_sway_1
  refine s_iconst (pc := 19) (v := 1) ?_ dX11_sway_19 (by decide)
  refine s_iconst (pc := 20) (v := 0) ?_ dX11_sway_20 (by decide)
  refine s_cv (pc := 21) (n := 3) (ci := 10) ?_ tX11_bad rfl rfl wt_1560 wt_1562 wp_49 wt_17 wt_1563 ⟨crX11_bad, by decide, by decide⟩ dX11_sway_21
  refine s_ifne (pc := 24) (tgt := 49) ?_ ?_ dX11_sway_24 (by decide)
  · skip
    exact s_fall (pc := 49) h3
  · skip
    refine s_aload_n (pc := 27) (i := 0) ?_ dX11_sway_27 rfl
    refine s_aload_n (pc := 28) (i := 0) ?_ dX11_sway_28 rfl
    refine s_iload_n (pc := 29) (i := 2) ?_ dX11_sway_29 rfl
    refine s_cv (pc := 30) (n := 1) (ci := 10) ?_ tX11_isBlot rfl rfl wt_1655 wt_1657 wp_67 wt_17 wt_1658 ⟨crX11_isBlot, by decide, by decide⟩ dX11_sway_30
    refine s_ifne (pc := 33) (tgt := 40) ?_ ?_ dX11_sway_33 (by decide)
    · skip
      refine s_iconst (pc := 40) (v := 0) ?_ dX11_sway_40 (by decide)
      exact s_fall (pc := 41) h2
    · skip
      refine s_iconst (pc := 36) (v := 1) ?_ dX11_sway_36 (by decide)
      exact s_goto (pc := 37) (tgt := 41) h2 dX11_sway_37 (by decide)
theorem sbX11_sway_2 (g : GE) (J : Nat → KT) (h1 : Snd mX11_sway g 19 (J 1)) (h2 : Snd mX11_sway g 41 (J 2)) (h3 : Snd mX11_sway g 49 (J 3)) (h4 : Snd mX11_sway g 56 (J 4)) (h5 : Snd mX11_sway g 82 (J 5)) : Snd mX11_sway g 41 (bX11_sway_2 g J) := by
  unfold bX11_sway_2
  refine s_iconst (pc := 41) (v := 2) ?_ dX11_sway_41 (by decide)
  refine s_iconst (pc := 42) (v := 1) ?_ dX11_sway_42 (by decide)
  refine s_cv (pc := 43) (n := 3) (ci := 10) ?_ tX11_bad rfl rfl wt_1560 wt_1562 wp_49 wt_17 wt_1563 ⟨crX11_bad, by decide, by decide⟩ dX11_sway_43
  refine s_ifeq (pc := 46) (tgt := 51) ?_ ?_ dX11_sway_46 (by decide)
  · skip
    refine s_iconst (pc := 51) (v := 0) ?_ dX11_sway_51 (by decide)
    refine s_istore_n (pc := 52) (i := 3) ?_ dX11_sway_52 rfl (by decide)
    refine s_iconst (pc := 53) (v := 0) ?_ dX11_sway_53 (by decide)
    refine s_istore (pc := 54) (i := 4) ?_ dX11_sway_54 (by decide)
    exact s_fall (pc := 56) h4
  · skip
    exact s_fall (pc := 49) h3
theorem sbX11_sway_3 (g : GE) (J : Nat → KT) (h1 : Snd mX11_sway g 19 (J 1)) (h2 : Snd mX11_sway g 41 (J 2)) (h3 : Snd mX11_sway g 49 (J 3)) (h4 : Snd mX11_sway g 56 (J 4)) (h5 : Snd mX11_sway g 82 (J 5)) : Snd mX11_sway g 49 (bX11_sway_3 g J) := by
  unfold bX11_sway_3
  refine s_iconst (pc := 49) (v := 0) ?_ dX11_sway_49 (by decide)
  exact s_ireturn (pc := 50) rfl dX11_sway_50
theorem sbX11_sway_4 (g : GE) (J : Nat → KT) (h1 : Snd mX11_sway g 19 (J 1)) (h2 : Snd mX11_sway g 41 (J 2)) (h3 : Snd mX11_sway g 49 (J 3)) (h4 : Snd mX11_sway g 56 (J 4)) (h5 : Snd mX11_sway g 82 (J 5)) : Snd mX11_sway g 56 (bX11_sway_4 g J) := by
  unfold bX11_sway_4
  refine s_iload (pc := 56) (i := 4) ?_ dX11_sway_56
  refine s_aload_n (pc := 58) (i := 0) ?_ dX11_sway_58 rfl
  refine s_getf (pc := 59) (ci := 10) (f := 27) (T := TX11) ?_ ginX11 rfl (by decide) wt_1420 dX11_sway_59
  refine s_icge (pc := 62) (tgt := 90) ?_ ?_ dX11_sway_62 (by decide)
  · skip
    refine s_iload_n (pc := 90) (i := 3) ?_ dX11_sway_90 rfl
    exact s_ireturn (pc := 91) rfl dX11_sway_91
  · skip
    refine s_iload_n (pc := 65) (i := 3) ?_ dX11_sway_65 rfl
    refine s_aload_n (pc := 66) (i := 0) ?_ dX11_sway_66 rfl
    refine s_iload (pc := 67) (i := 4) ?_ dX11_sway_67
    refine s_iload_n (pc := 69) (i := 1) ?_ dX11_sway_69 rfl
    refine s_iload_n (pc := 70) (i := 2) ?_ dX11_sway_70 rfl
    refine s_cv (pc := 71) (n := 3) (ci := 10) ?_ tX11_isSwayed rfl rfl wt_1779 wt_1781 wp_81 wt_17 wt_1782 ⟨crX11_isSwayed, by decide, by decide⟩ dX11_sway_71
    refine s_ifeq (pc := 74) (tgt := 81) ?_ ?_ dX11_sway_74 (by decide)
    · skip
      refine s_iconst (pc := 81) (v := 0) ?_ dX11_sway_81 (by decide)
      exact s_fall (pc := 82) h5
    · skip
      refine s_iconst (pc := 77) (v := 1) ?_ dX11_sway_77 (by decide)
      exact s_goto (pc := 78) (tgt := 82) h5 dX11_sway_78 (by decide)
theorem sbX11_sway_5 (g : GE) (J : Nat → KT) (h1 : Snd mX11_sway g 19 (J 1)) (h2 : Snd mX11_sway g 41 (J 2)) (h3 : Snd mX11_sway g 49 (J 3)) (h4 : Snd mX11_sway g 56 (J 4)) (h5 : Snd mX11_sway g 82 (J 5)) : Snd mX11_sway g 82 (bX11_sway_5 g J) := by
  unfold bX11_sway_5
  refine s_iadd (pc := 82) ?_ dX11_sway_82
  refine s_istore_n (pc := 83) (i := 3) ?_ dX11_sway_83 rfl (by decide)
  refine s_iinc (pc := 84) (i := 4) (v := 1) ?_ dX11_sway_84 (by decide) (by decide)
  exact s_goto (pc := 87) (tgt := 56) h4 dX11_sway_87 (by decide)
def jX11_sway (g : GE) : Nat → Nat → KT
  | 0, _ => fun _ _ _ => none
  | n + 1, 0 => bX11_sway_0 g (jX11_sway g n)
  | n + 1, 1 => bX11_sway_1 g (jX11_sway g n)
  | n + 1, 2 => bX11_sway_2 g (jX11_sway g n)
  | n + 1, 3 => bX11_sway_3 g (jX11_sway g n)
  | n + 1, 4 => bX11_sway_4 g (jX11_sway g n)
  | n + 1, 5 => bX11_sway_5 g (jX11_sway g n)
  | _ + 1, _ + 6 => fun _ _ _ => none
theorem sjX11_sway (g : GE) : ∀ n, Snd mX11_sway g 0 (jX11_sway g n 0) ∧ Snd mX11_sway g 19 (jX11_sway g n 1) ∧ Snd mX11_sway g 41 (jX11_sway g n 2) ∧ Snd mX11_sway g 49 (jX11_sway g n 3) ∧ Snd mX11_sway g 56 (jX11_sway g n 4) ∧ Snd mX11_sway g 82 (jX11_sway g n 5)
  | 0 => ⟨s_none, s_none, s_none, s_none, s_none, s_none⟩
  | n + 1 => by
    obtain ⟨-, h1, h2, h3, h4, h5⟩ := sjX11_sway g n
    exact ⟨sbX11_sway_0 g _ h1 h2 h3 h4 h5, sbX11_sway_1 g _ h1 h2 h3 h4 h5, sbX11_sway_2 g _ h1 h2 h3 h4 h5, sbX11_sway_3 g _ h1 h2 h3 h4 h5, sbX11_sway_4 g _ h1 h2 h3 h4 h5, sbX11_sway_5 g _ h1 h2 h3 h4 h5⟩
def kX11_sway (g : GE) : KT := jX11_sway g g.1 0
theorem sX11_sway (g : GE) : Snd mX11_sway g 0 (kX11_sway g) := (sjX11_sway g g.1).1
def fX11_sway : FT := fun g av w => if (ent av).length ≤ 5 then kX11_sway g [] (entp 5 av) w else none
theorem tX11_sway : Mt yX11_sway cX11_sway 5 (some .int) 3 80 fX11_sway := Mt.of (K := kX11_sway) (by decide +kernel) (fun _ _ _ => rfl) sX11_sway
theorem crX11_sway : yX11_sway.cls ≠ "java/lang/invoke/MethodHandle" ∧ yX11_sway.cls ≠ "java/lang/invoke/VarHandle" ∧ (parseMethodDescriptor yX11_sway.desc).map (fun d => d.parameters.length) = some 2 := by decide +kernel
theorem dX11_thrown_0 : decode cX11_thrown 0 = .ok (.aload_n 0, 1) := by decide +kernel
theorem dX11_thrown_1 : decode cX11_thrown 1 = .ok (.getfield 120, 3) := by decide +kernel
theorem dX11_thrown_4 : decode cX11_thrown 4 = .ok (.ireturn, 1) := by decide +kernel
abbrev mX11_thrown : MD := (cX11_thrown, "BlottedDeedModel", 1, 1, 30, (some .int), "thrown", [])
def bX11_thrown_0 (g : GE) (J : Nat → KT) : KT := i_aload 0 (i_getf 10 0 (i_ireturn))
theorem sbX11_thrown_0 (g : GE) (J : Nat → KT)  : Snd mX11_thrown g 0 (bX11_thrown_0 g J) := by
  unfold bX11_thrown_0
  refine s_aload_n (pc := 0) (i := 0) ?_ dX11_thrown_0 rfl
  refine s_getf (pc := 1) (ci := 10) (f := 0) (T := TX11) ?_ ginX11 rfl (by decide) wt_1393 dX11_thrown_1
  exact s_ireturn (pc := 4) rfl dX11_thrown_4
def kX11_thrown (g : GE) : KT := bX11_thrown_0 g (fun _ _ _ _ => none)
theorem sX11_thrown (g : GE) : Snd mX11_thrown g 0 (kX11_thrown g) := sbX11_thrown_0 g _
def fX11_thrown : FT := fun g av w => if (ent av).length ≤ 1 then kX11_thrown g [] (entp 1 av) w else none
theorem tX11_thrown : Mt yX11_thrown cX11_thrown 1 (some .int) 1 30 fX11_thrown := Mt.of (K := kX11_thrown) (by decide +kernel) (fun _ _ _ => rfl) sX11_thrown
theorem crX11_thrown : yX11_thrown.cls ≠ "java/lang/invoke/MethodHandle" ∧ yX11_thrown.cls ≠ "java/lang/invoke/VarHandle" ∧ (parseMethodDescriptor yX11_thrown.desc).map (fun d => d.parameters.length) = some 0 := by decide +kernel
theorem dX11_told_0 : decode cX11_told 0 = .ok (.aload_n 0, 1) := by decide +kernel
theorem dX11_told_1 : decode cX11_told 1 = .ok (.iconst 0, 1) := by decide +kernel
theorem dX11_told_2 : decode cX11_told 2 = .ok (.putfield 120, 3) := by decide +kernel
theorem dX11_told_5 : decode cX11_told 5 = .ok (.aload_n 0, 1) := by decide +kernel
theorem dX11_told_6 : decode cX11_told 6 = .ok (.iload_n 1, 1) := by decide +kernel
theorem dX11_told_7 : decode cX11_told 7 = .ok (.iconst 0, 1) := by decide +kernel
theorem dX11_told_8 : decode cX11_told 8 = .ok (.bipush 6, 2) := by decide +kernel
theorem dX11_told_10 : decode cX11_told 10 = .ok (.invokestatic 154, 3) := by decide +kernel
theorem dX11_told_13 : decode cX11_told 13 = .ok (.ifCond .ne 7, 3) := by decide +kernel
theorem dX11_told_16 : decode cX11_told 16 = .ok (.iconst 1, 1) := by decide +kernel
theorem dX11_told_17 : decode cX11_told 17 = .ok (.goto 4, 3) := by decide +kernel
theorem dX11_told_20 : decode cX11_told 20 = .ok (.iconst 0, 1) := by decide +kernel
theorem dX11_told_21 : decode cX11_told 21 = .ok (.iconst 1, 1) := by decide +kernel
theorem dX11_told_22 : decode cX11_told 22 = .ok (.iconst 2, 1) := by decide +kernel
theorem dX11_told_23 : decode cX11_told 23 = .ok (.invokevirtual 215, 3) := by decide +kernel
theorem dX11_told_26 : decode cX11_told 26 = .ok (.ifCond .eq 5, 3) := by decide +kernel
theorem dX11_told_29 : decode cX11_told 29 = .ok (.iconst 0, 1) := by decide +kernel
theorem dX11_told_30 : decode cX11_told 30 = .ok (.ireturn, 1) := by decide +kernel
theorem dX11_told_31 : decode cX11_told 31 = .ok (.aload_n 0, 1) := by decide +kernel
theorem dX11_told_32 : decode cX11_told 32 = .ok (.getfield 23, 3) := by decide +kernel
theorem dX11_told_35 : decode cX11_told 35 = .ok (.iload_n 1, 1) := by decide +kernel
theorem dX11_told_36 : decode cX11_told 36 = .ok (.iaload, 1) := by decide +kernel
theorem dX11_told_37 : decode cX11_told 37 = .ok (.ireturn, 1) := by decide +kernel
abbrev mX11_told : MD := (cX11_told, "BlottedDeedModel", 2, 2, 53, (some .int), "told", [])
def bX11_told_0 (g : GE) (J : Nat → KT) : KT := i_aload 0 (i_push (.int 0) (i_putf 10 0 .int (i_aload 0 (i_iload 1 (i_push (.int 0) (i_push (.int 6) (i_cs fX11_in g 3 (i_ifne (i_push (.int 0) (i_jmp [true, true] (J 1))) (i_push (.int 1) (i_jmp [true, true] (J 1)))))))))))
def bX11_told_1 (g : GE) (J : Nat → KT) : KT := i_push (.int 1) (i_push (.int 2) (i_cv fX11_bad g 3 10 (i_ifeq (i_aload 0 (i_getf 10 11 (i_iload 1 (i_iaload (i_ireturn))))) (i_push (.int 0) (i_ireturn)))))
theorem sbX11_told_0 (g : GE) (J : Nat → KT) (h1 : Snd mX11_told g 21 (J 1)) : Snd mX11_told g 0 (bX11_told_0 g J) := by
  unfold bX11_told_0
  refine s_aload_n (pc := 0) (i := 0) ?_ dX11_told_0 rfl
  refine s_iconst (pc := 1) (v := 0) ?_ dX11_told_1 (by decide)
  refine s_putf (pc := 2) (ci := 10) (f := 0) (T := TX11) (ty0 := tyX11) ?_ ginX11 tyX11_ok nmX11 rfl (by decide) rfl rfl wt_1393 dX11_told_2
  refine s_aload_n (pc := 5) (i := 0) ?_ dX11_told_5 rfl
  refine s_iload_n (pc := 6) (i := 1) ?_ dX11_told_6 rfl
  refine s_iconst (pc := 7) (v := 0) ?_ dX11_told_7 (by decide)
  refine s_bipush (pc := 8) (v := 6) ?_ dX11_told_8 (by decide)
  refine s_cs (pc := 10) (n := 3) ?_ tX11_in wt_1557 wt_1558 wt_17 wt_1559 ⟨crX11_in, by decide, by decide⟩ dX11_told_10
  refine s_ifne (pc := 13) (tgt := 20) ?_ ?_ dX11_told_13 (by decide)
  · skip
    refine s_iconst (pc := 20) (v := 0) ?_ dX11_told_20 (by decide)
    exact s_fall (pc := 21) h1
  · skip
    refine s_iconst (pc := 16) (v := 1) ?_ dX11_told_16 (by decide)
    exact s_goto (pc := 17) (tgt := 21) h1 dX11_told_17 (by decide)
theorem sbX11_told_1 (g : GE) (J : Nat → KT) (h1 : Snd mX11_told g 21 (J 1)) : Snd mX11_told g 21 (bX11_told_1 g J) := by
  unfold bX11_told_1
  refine s_iconst (pc := 21) (v := 1) ?_ dX11_told_21 (by decide)
  refine s_iconst (pc := 22) (v := 2) ?_ dX11_told_22 (by decide)
  refine s_cv (pc := 23) (n := 3) (ci := 10) ?_ tX11_bad rfl rfl wt_1560 wt_1562 wp_49 wt_17 wt_1563 ⟨crX11_bad, by decide, by decide⟩ dX11_told_23
  refine s_ifeq (pc := 26) (tgt := 31) ?_ ?_ dX11_told_26 (by decide)
  · skip
    refine s_aload_n (pc := 31) (i := 0) ?_ dX11_told_31 rfl
    refine s_getf (pc := 32) (ci := 10) (f := 11) (T := TX11) ?_ ginX11 rfl (by decide) wt_1404 dX11_told_32
    refine s_iload_n (pc := 35) (i := 1) ?_ dX11_told_35 rfl
    refine s_iaload (pc := 36) ?_ dX11_told_36
    exact s_ireturn (pc := 37) rfl dX11_told_37
  · skip
    refine s_iconst (pc := 29) (v := 0) ?_ dX11_told_29 (by decide)
    exact s_ireturn (pc := 30) rfl dX11_told_30
def jX11_told (g : GE) : Nat → Nat → KT
  | 0, _ => fun _ _ _ => none
  | n + 1, 0 => bX11_told_0 g (jX11_told g n)
  | n + 1, 1 => bX11_told_1 g (jX11_told g n)
  | _ + 1, _ + 2 => fun _ _ _ => none
theorem sjX11_told (g : GE) : ∀ n, Snd mX11_told g 0 (jX11_told g n 0) ∧ Snd mX11_told g 21 (jX11_told g n 1)
  | 0 => ⟨s_none, s_none⟩
  | n + 1 => by
    obtain ⟨-, h1⟩ := sjX11_told g n
    exact ⟨sbX11_told_0 g _ h1, sbX11_told_1 g _ h1⟩
def kX11_told (g : GE) : KT := jX11_told g g.1 0
theorem sX11_told (g : GE) : Snd mX11_told g 0 (kX11_told g) := (sjX11_told g g.1).1
def fX11_told : FT := fun g av w => if (ent av).length ≤ 2 then kX11_told g [] (entp 2 av) w else none
theorem tX11_told : Mt yX11_told cX11_told 2 (some .int) 2 53 fX11_told := Mt.of (K := kX11_told) (by decide +kernel) (fun _ _ _ => rfl) sX11_told
theorem crX11_told : yX11_told.cls ≠ "java/lang/invoke/MethodHandle" ∧ yX11_told.cls ≠ "java/lang/invoke/VarHandle" ∧ (parseMethodDescriptor yX11_told.desc).map (fun d => d.parameters.length) = some 1 := by decide +kernel
theorem dX11_weak_0 : decode cX11_weak 0 = .ok (.aload_n 0, 1) := by decide +kernel
theorem dX11_weak_1 : decode cX11_weak 1 = .ok (.iconst 0, 1) := by decide +kernel
theorem dX11_weak_2 : decode cX11_weak 2 = .ok (.putfield 120, 3) := by decide +kernel
theorem dX11_weak_5 : decode cX11_weak 5 = .ok (.aload_n 0, 1) := by decide +kernel
theorem dX11_weak_6 : decode cX11_weak 6 = .ok (.aload_n 0, 1) := by decide +kernel
theorem dX11_weak_7 : decode cX11_weak 7 = .ok (.iload_n 1, 1) := by decide +kernel
theorem dX11_weak_8 : decode cX11_weak 8 = .ok (.invokevirtual 282, 3) := by decide +kernel
theorem dX11_weak_11 : decode cX11_weak 11 = .ok (.ifCond .ne 7, 3) := by decide +kernel
theorem dX11_weak_14 : decode cX11_weak 14 = .ok (.iconst 1, 1) := by decide +kernel
theorem dX11_weak_15 : decode cX11_weak 15 = .ok (.goto 4, 3) := by decide +kernel
theorem dX11_weak_18 : decode cX11_weak 18 = .ok (.iconst 0, 1) := by decide +kernel
theorem dX11_weak_19 : decode cX11_weak 19 = .ok (.iconst 1, 1) := by decide +kernel
theorem dX11_weak_20 : decode cX11_weak 20 = .ok (.iconst 0, 1) := by decide +kernel
theorem dX11_weak_21 : decode cX11_weak 21 = .ok (.invokevirtual 215, 3) := by decide +kernel
theorem dX11_weak_24 : decode cX11_weak 24 = .ok (.ifCond .eq 5, 3) := by decide +kernel
theorem dX11_weak_27 : decode cX11_weak 27 = .ok (.iconst 0, 1) := by decide +kernel
theorem dX11_weak_28 : decode cX11_weak 28 = .ok (.ireturn, 1) := by decide +kernel
theorem dX11_weak_29 : decode cX11_weak 29 = .ok (.aload_n 0, 1) := by decide +kernel
theorem dX11_weak_30 : decode cX11_weak 30 = .ok (.getfield 244, 3) := by decide +kernel
theorem dX11_weak_33 : decode cX11_weak 33 = .ok (.ifCond .ne 5, 3) := by decide +kernel
theorem dX11_weak_36 : decode cX11_weak 36 = .ok (.iconst (-1), 1) := by decide +kernel
theorem dX11_weak_37 : decode cX11_weak 37 = .ok (.ireturn, 1) := by decide +kernel
theorem dX11_weak_38 : decode cX11_weak 38 = .ok (.iconst 0, 1) := by decide +kernel
theorem dX11_weak_39 : decode cX11_weak 39 = .ok (.istore_n 2, 1) := by decide +kernel
theorem dX11_weak_40 : decode cX11_weak 40 = .ok (.iconst 0, 1) := by decide +kernel
theorem dX11_weak_41 : decode cX11_weak 41 = .ok (.istore_n 3, 1) := by decide +kernel
theorem dX11_weak_42 : decode cX11_weak 42 = .ok (.iload_n 3, 1) := by decide +kernel
theorem dX11_weak_43 : decode cX11_weak 43 = .ok (.aload_n 0, 1) := by decide +kernel
theorem dX11_weak_44 : decode cX11_weak 44 = .ok (.getfield 23, 3) := by decide +kernel
theorem dX11_weak_47 : decode cX11_weak 47 = .ok (.iconst 5, 1) := by decide +kernel
theorem dX11_weak_48 : decode cX11_weak 48 = .ok (.iaload, 1) := by decide +kernel
theorem dX11_weak_49 : decode cX11_weak 49 = .ok (.if_icmp .ge 37, 3) := by decide +kernel
theorem dX11_weak_52 : decode cX11_weak 52 = .ok (.aload_n 0, 1) := by decide +kernel
theorem dX11_weak_53 : decode cX11_weak 53 = .ok (.iload_n 3, 1) := by decide +kernel
theorem dX11_weak_54 : decode cX11_weak 54 = .ok (.iload_n 1, 1) := by decide +kernel
theorem dX11_weak_55 : decode cX11_weak 55 = .ok (.invokevirtual 327, 3) := by decide +kernel
theorem dX11_weak_58 : decode cX11_weak 58 = .ok (.iload_n 2, 1) := by decide +kernel
theorem dX11_weak_59 : decode cX11_weak 59 = .ok (.aload_n 0, 1) := by decide +kernel
theorem dX11_weak_60 : decode cX11_weak 60 = .ok (.getfield 320, 3) := by decide +kernel
theorem dX11_weak_63 : decode cX11_weak 63 = .ok (.aload_n 0, 1) := by decide +kernel
theorem dX11_weak_64 : decode cX11_weak 64 = .ok (.getfield 320, 3) := by decide +kernel
theorem dX11_weak_67 : decode cX11_weak 67 = .ok (.iconst 1, 1) := by decide +kernel
theorem dX11_weak_68 : decode cX11_weak 68 = .ok (.isub, 1) := by decide +kernel
theorem dX11_weak_69 : decode cX11_weak 69 = .ok (.iand, 1) := by decide +kernel
theorem dX11_weak_70 : decode cX11_weak 70 = .ok (.ifCond .eq 7, 3) := by decide +kernel
theorem dX11_weak_73 : decode cX11_weak 73 = .ok (.iconst 1, 1) := by decide +kernel
theorem dX11_weak_74 : decode cX11_weak 74 = .ok (.goto 4, 3) := by decide +kernel
theorem dX11_weak_77 : decode cX11_weak 77 = .ok (.iconst 0, 1) := by decide +kernel
theorem dX11_weak_78 : decode cX11_weak 78 = .ok (.iadd, 1) := by decide +kernel
theorem dX11_weak_79 : decode cX11_weak 79 = .ok (.istore_n 2, 1) := by decide +kernel
theorem dX11_weak_80 : decode cX11_weak 80 = .ok (.iinc 3 1, 3) := by decide +kernel
theorem dX11_weak_83 : decode cX11_weak 83 = .ok (.goto (-41), 3) := by decide +kernel
theorem dX11_weak_86 : decode cX11_weak 86 = .ok (.iload_n 2, 1) := by decide +kernel
theorem dX11_weak_87 : decode cX11_weak 87 = .ok (.ireturn, 1) := by decide +kernel
abbrev mX11_weak : MD := (cX11_weak, "BlottedDeedModel", 4, 4, 99, (some .int), "weak", [])
def bX11_weak_0 (g : GE) (J : Nat → KT) : KT := i_aload 0 (i_push (.int 0) (i_putf 10 0 .int (i_aload 0 (i_aload 0 (i_iload 1 (i_cv fX11_isThing g 1 10 (i_ifne (i_push (.int 0) (i_jmp [true, true, false, false] (J 1))) (i_push (.int 1) (i_jmp [true, true, false, false] (J 1))))))))))
def bX11_weak_1 (g : GE) (J : Nat → KT) : KT := i_push (.int 1) (i_push (.int 0) (i_cv fX11_bad g 3 10 (i_ifeq (i_aload 0 (i_getf 10 27 (i_ifne (i_push (.int 0) (i_istore 2 (i_push (.int 0) (i_istore 3 (i_jmp [true, true, true, true] (J 2)))))) (i_push (.int (-1)) (i_ireturn))))) (i_push (.int 0) (i_ireturn)))))
def bX11_weak_2 (g : GE) (J : Nat → KT) : KT := i_iload 3 (i_aload 0 (i_getf 10 11 (i_push (.int 5) (i_iaload (i_icge (i_iload 2 (i_ireturn)) (i_aload 0 (i_iload 3 (i_iload 1 (i_cv fX11_blotsAnew g 2 10 (i_iload 2 (i_aload 0 (i_getf 10 47 (i_aload 0 (i_getf 10 47 (i_push (.int 1) (i_isub (i_iand (i_ifeq (i_push (.int 0) (i_jmp [true, true, false, true] (J 3))) (i_push (.int 1) (i_jmp [true, true, false, true] (J 3)))))))))))))))))))))
def bX11_weak_3 (g : GE) (J : Nat → KT) : KT := i_iadd (i_istore 2 (i_iinc 3 1 (i_jmp [true, true, true, true] (J 2))))
theorem sbX11_weak_0 (g : GE) (J : Nat → KT) (h1 : Snd mX11_weak g 19 (J 1)) (h2 : Snd mX11_weak g 42 (J 2)) (h3 : Snd mX11_weak g 78 (J 3)) : Snd mX11_weak g 0 (bX11_weak_0 g J) := by
  unfold bX11_weak_0
  refine s_aload_n (pc := 0) (i := 0) ?_ dX11_weak_0 rfl
  refine s_iconst (pc := 1) (v := 0) ?_ dX11_weak_1 (by decide)
  refine s_putf (pc := 2) (ci := 10) (f := 0) (T := TX11) (ty0 := tyX11) ?_ ginX11 tyX11_ok nmX11 rfl (by decide) rfl rfl wt_1393 dX11_weak_2
  refine s_aload_n (pc := 5) (i := 0) ?_ dX11_weak_5 rfl
  refine s_aload_n (pc := 6) (i := 0) ?_ dX11_weak_6 rfl
  refine s_iload_n (pc := 7) (i := 1) ?_ dX11_weak_7 rfl
  refine s_cv (pc := 8) (n := 1) (ci := 10) ?_ tX11_isThing rfl rfl wt_1724 wt_1726 wp_76 wt_17 wt_1727 ⟨crX11_isThing, by decide, by decide⟩ dX11_weak_8
  refine s_ifne (pc := 11) (tgt := 18) ?_ ?_ dX11_weak_11 (by decide)
  · skip
    refine s_iconst (pc := 18) (v := 0) ?_ dX11_weak_18 (by decide)
    exact s_fall (pc := 19) h1
  · skip
    refine s_iconst (pc := 14) (v := 1) ?_ dX11_weak_14 (by decide)
    exact s_goto (pc := 15) (tgt := 19) h1 dX11_weak_15 (by decide)
theorem sbX11_weak_1 (g : GE) (J : Nat → KT) (h1 : Snd mX11_weak g 19 (J 1)) (h2 : Snd mX11_weak g 42 (J 2)) (h3 : Snd mX11_weak g 78 (J 3)) : Snd mX11_weak g 19 (bX11_weak_1 g J) := by
  unfold bX11_weak_1
  refine s_iconst (pc := 19) (v := 1) ?_ dX11_weak_19 (by decide)
  refine s_iconst (pc := 20) (v := 0) ?_ dX11_weak_20 (by decide)
  refine s_cv (pc := 21) (n := 3) (ci := 10) ?_ tX11_bad rfl rfl wt_1560 wt_1562 wp_49 wt_17 wt_1563 ⟨crX11_bad, by decide, by decide⟩ dX11_weak_21
  refine s_ifeq (pc := 24) (tgt := 29) ?_ ?_ dX11_weak_24 (by decide)
  · skip
    refine s_aload_n (pc := 29) (i := 0) ?_ dX11_weak_29 rfl
    refine s_getf (pc := 30) (ci := 10) (f := 27) (T := TX11) ?_ ginX11 rfl (by decide) wt_1420 dX11_weak_30
    refine s_ifne (pc := 33) (tgt := 38) ?_ ?_ dX11_weak_33 (by decide)
    · skip
      refine s_iconst (pc := 38) (v := 0) ?_ dX11_weak_38 (by decide)
      refine s_istore_n (pc := 39) (i := 2) ?_ dX11_weak_39 rfl (by decide)
      refine s_iconst (pc := 40) (v := 0) ?_ dX11_weak_40 (by decide)
      refine s_istore_n (pc := 41) (i := 3) ?_ dX11_weak_41 rfl (by decide)
      exact s_fall (pc := 42) h2
    · skip
      refine s_iconst (pc := 36) (v := (-1)) ?_ dX11_weak_36 (by decide)
      exact s_ireturn (pc := 37) rfl dX11_weak_37
  · skip
    refine s_iconst (pc := 27) (v := 0) ?_ dX11_weak_27 (by decide)
    exact s_ireturn (pc := 28) rfl dX11_weak_28
theorem sbX11_weak_2 (g : GE) (J : Nat → KT) (h1 : Snd mX11_weak g 19 (J 1)) (h2 : Snd mX11_weak g 42 (J 2)) (h3 : Snd mX11_weak g 78 (J 3)) : Snd mX11_weak g 42 (bX11_weak_2 g J) := by
  unfold bX11_weak_2
  refine s_iload_n (pc := 42) (i := 3) ?_ dX11_weak_42 rfl
  refine s_aload_n (pc := 43) (i := 0) ?_ dX11_weak_43 rfl
  refine s_getf (pc := 44) (ci := 10) (f := 11) (T := TX11) ?_ ginX11 rfl (by decide) wt_1404 dX11_weak_44
  refine s_iconst (pc := 47) (v := 5) ?_ dX11_weak_47 (by decide)
  refine s_iaload (pc := 48) ?_ dX11_weak_48
  refine s_icge (pc := 49) (tgt := 86) ?_ ?_ dX11_weak_49 (by decide)
  · skip
    refine s_iload_n (pc := 86) (i := 2) ?_ dX11_weak_86 rfl
    exact s_ireturn (pc := 87) rfl dX11_weak_87
  · skip
    refine s_aload_n (pc := 52) (i := 0) ?_ dX11_weak_52 rfl
    refine s_iload_n (pc := 53) (i := 3) ?_ dX11_weak_53 rfl
    refine s_iload_n (pc := 54) (i := 1) ?_ dX11_weak_54 rfl
    refine s_cv (pc := 55) (n := 2) (ci := 10) ?_ tX11_blotsAnew rfl rfl wt_1835 wt_1837 wp_85 wt_17 wt_1838 ⟨crX11_blotsAnew, by decide, by decide⟩ dX11_weak_55
    refine s_iload_n (pc := 58) (i := 2) ?_ dX11_weak_58 rfl
    refine s_aload_n (pc := 59) (i := 0) ?_ dX11_weak_59 rfl
    refine s_getf (pc := 60) (ci := 10) (f := 47) (T := TX11) ?_ ginX11 rfl (by decide) wt_1440 dX11_weak_60
    refine s_aload_n (pc := 63) (i := 0) ?_ dX11_weak_63 rfl
    refine s_getf (pc := 64) (ci := 10) (f := 47) (T := TX11) ?_ ginX11 rfl (by decide) wt_1440 dX11_weak_64
    refine s_iconst (pc := 67) (v := 1) ?_ dX11_weak_67 (by decide)
    refine s_isub (pc := 68) ?_ dX11_weak_68
    refine s_iand (pc := 69) ?_ dX11_weak_69
    refine s_ifeq (pc := 70) (tgt := 77) ?_ ?_ dX11_weak_70 (by decide)
    · skip
      refine s_iconst (pc := 77) (v := 0) ?_ dX11_weak_77 (by decide)
      exact s_fall (pc := 78) h3
    · skip
      refine s_iconst (pc := 73) (v := 1) ?_ dX11_weak_73 (by decide)
      exact s_goto (pc := 74) (tgt := 78) h3 dX11_weak_74 (by decide)
theorem sbX11_weak_3 (g : GE) (J : Nat → KT) (h1 : Snd mX11_weak g 19 (J 1)) (h2 : Snd mX11_weak g 42 (J 2)) (h3 : Snd mX11_weak g 78 (J 3)) : Snd mX11_weak g 78 (bX11_weak_3 g J) := by
  unfold bX11_weak_3
  refine s_iadd (pc := 78) ?_ dX11_weak_78
  refine s_istore_n (pc := 79) (i := 2) ?_ dX11_weak_79 rfl (by decide)
  refine s_iinc (pc := 80) (i := 3) (v := 1) ?_ dX11_weak_80 (by decide) (by decide)
  exact s_goto (pc := 83) (tgt := 42) h2 dX11_weak_83 (by decide)
def jX11_weak (g : GE) : Nat → Nat → KT
  | 0, _ => fun _ _ _ => none
  | n + 1, 0 => bX11_weak_0 g (jX11_weak g n)
  | n + 1, 1 => bX11_weak_1 g (jX11_weak g n)
  | n + 1, 2 => bX11_weak_2 g (jX11_weak g n)
  | n + 1, 3 => bX11_weak_3 g (jX11_weak g n)
  | _ + 1, _ + 4 => fun _ _ _ => none
theorem sjX11_weak (g : GE) : ∀ n, Snd mX11_weak g 0 (jX11_weak g n 0) ∧ Snd mX11_weak g 19 (jX11_weak g n 1) ∧ Snd mX11_weak g 42 (jX11_weak g n 2) ∧ Snd mX11_weak g 78 (jX11_weak g n 3)
  | 0 => ⟨s_none, s_none, s_none, s_none⟩
  | n + 1 => by
    obtain ⟨-, h1, h2, h3⟩ := sjX11_weak g n
    exact ⟨sbX11_weak_0 g _ h1 h2 h3, sbX11_weak_1 g _ h1 h2 h3, sbX11_weak_2 g _ h1 h2 h3, sbX11_weak_3 g _ h1 h2 h3⟩
def kX11_weak (g : GE) : KT := jX11_weak g g.1 0
theorem sX11_weak (g : GE) : Snd mX11_weak g 0 (kX11_weak g) := (sjX11_weak g g.1).1
def fX11_weak : FT := fun g av w => if (ent av).length ≤ 4 then kX11_weak g [] (entp 4 av) w else none
theorem tX11_weak : Mt yX11_weak cX11_weak 4 (some .int) 4 99 fX11_weak := Mt.of (K := kX11_weak) (by decide +kernel) (fun _ _ _ => rfl) sX11_weak
theorem crX11_weak : yX11_weak.cls ≠ "java/lang/invoke/MethodHandle" ∧ yX11_weak.cls ≠ "java/lang/invoke/VarHandle" ∧ (parseMethodDescriptor yX11_weak.desc).map (fun d => d.parameters.length) = some 1 := by decide +kernel
theorem dX11_when_0 : decode cX11_when 0 = .ok (.aload_n 0, 1) := by decide +kernel
theorem dX11_when_1 : decode cX11_when 1 = .ok (.iconst 0, 1) := by decide +kernel
theorem dX11_when_2 : decode cX11_when 2 = .ok (.putfield 120, 3) := by decide +kernel
theorem dX11_when_5 : decode cX11_when 5 = .ok (.aload_n 0, 1) := by decide +kernel
theorem dX11_when_6 : decode cX11_when 6 = .ok (.aload_n 0, 1) := by decide +kernel
theorem dX11_when_7 : decode cX11_when 7 = .ok (.iload_n 1, 1) := by decide +kernel
theorem dX11_when_8 : decode cX11_when 8 = .ok (.invokevirtual 282, 3) := by decide +kernel
theorem dX11_when_11 : decode cX11_when 11 = .ok (.ifCond .eq 19, 3) := by decide +kernel
theorem dX11_when_14 : decode cX11_when 14 = .ok (.aload_n 0, 1) := by decide +kernel
theorem dX11_when_15 : decode cX11_when 15 = .ok (.iload_n 2, 1) := by decide +kernel
theorem dX11_when_16 : decode cX11_when 16 = .ok (.invokevirtual 276, 3) := by decide +kernel
theorem dX11_when_19 : decode cX11_when 19 = .ok (.ifCond .eq 11, 3) := by decide +kernel
theorem dX11_when_22 : decode cX11_when 22 = .ok (.aload_n 0, 1) := by decide +kernel
theorem dX11_when_23 : decode cX11_when 23 = .ok (.iload_n 3, 1) := by decide +kernel
theorem dX11_when_24 : decode cX11_when 24 = .ok (.invokevirtual 276, 3) := by decide +kernel
theorem dX11_when_27 : decode cX11_when 27 = .ok (.ifCond .ne 7, 3) := by decide +kernel
theorem dX11_when_30 : decode cX11_when 30 = .ok (.iconst 1, 1) := by decide +kernel
theorem dX11_when_31 : decode cX11_when 31 = .ok (.goto 4, 3) := by decide +kernel
theorem dX11_when_34 : decode cX11_when 34 = .ok (.iconst 0, 1) := by decide +kernel
theorem dX11_when_35 : decode cX11_when 35 = .ok (.iconst 1, 1) := by decide +kernel
theorem dX11_when_36 : decode cX11_when 36 = .ok (.iconst 0, 1) := by decide +kernel
theorem dX11_when_37 : decode cX11_when 37 = .ok (.invokevirtual 215, 3) := by decide +kernel
theorem dX11_when_40 : decode cX11_when 40 = .ok (.ifCond .ne 27, 3) := by decide +kernel
theorem dX11_when_43 : decode cX11_when 43 = .ok (.aload_n 0, 1) := by decide +kernel
theorem dX11_when_44 : decode cX11_when 44 = .ok (.iload 4, 2) := by decide +kernel
theorem dX11_when_46 : decode cX11_when 46 = .ok (.iconst 0, 1) := by decide +kernel
theorem dX11_when_47 : decode cX11_when 47 = .ok (.iconst 1, 1) := by decide +kernel
theorem dX11_when_48 : decode cX11_when 48 = .ok (.invokestatic 154, 3) := by decide +kernel
theorem dX11_when_51 : decode cX11_when 51 = .ok (.ifCond .ne 7, 3) := by decide +kernel
theorem dX11_when_54 : decode cX11_when 54 = .ok (.iconst 1, 1) := by decide +kernel
theorem dX11_when_55 : decode cX11_when 55 = .ok (.goto 4, 3) := by decide +kernel
theorem dX11_when_58 : decode cX11_when 58 = .ok (.iconst 0, 1) := by decide +kernel
theorem dX11_when_59 : decode cX11_when 59 = .ok (.iconst 2, 1) := by decide +kernel
theorem dX11_when_60 : decode cX11_when 60 = .ok (.iconst 2, 1) := by decide +kernel
theorem dX11_when_61 : decode cX11_when 61 = .ok (.invokevirtual 215, 3) := by decide +kernel
theorem dX11_when_64 : decode cX11_when 64 = .ok (.ifCond .eq 5, 3) := by decide +kernel
theorem dX11_when_67 : decode cX11_when 67 = .ok (.iconst 0, 1) := by decide +kernel
theorem dX11_when_68 : decode cX11_when 68 = .ok (.ireturn, 1) := by decide +kernel
theorem dX11_when_69 : decode cX11_when 69 = .ok (.iconst (-1), 1) := by decide +kernel
theorem dX11_when_70 : decode cX11_when 70 = .ok (.istore 5, 2) := by decide +kernel
theorem dX11_when_72 : decode cX11_when 72 = .ok (.iconst 0, 1) := by decide +kernel
theorem dX11_when_73 : decode cX11_when 73 = .ok (.istore 6, 2) := by decide +kernel
theorem dX11_when_75 : decode cX11_when 75 = .ok (.iload 6, 2) := by decide +kernel
theorem dX11_when_77 : decode cX11_when 77 = .ok (.aload_n 0, 1) := by decide +kernel
theorem dX11_when_78 : decode cX11_when 78 = .ok (.getfield 244, 3) := by decide +kernel
theorem dX11_when_81 : decode cX11_when 81 = .ok (.if_icmp .ge 69, 3) := by decide +kernel
theorem dX11_when_84 : decode cX11_when 84 = .ok (.aload_n 0, 1) := by decide +kernel
theorem dX11_when_85 : decode cX11_when 85 = .ok (.iload 6, 2) := by decide +kernel
theorem dX11_when_87 : decode cX11_when 87 = .ok (.iload_n 1, 1) := by decide +kernel
theorem dX11_when_88 : decode cX11_when 88 = .ok (.invokevirtual 264, 3) := by decide +kernel
theorem dX11_when_91 : decode cX11_when 91 = .ok (.iload_n 2, 1) := by decide +kernel
theorem dX11_when_92 : decode cX11_when 92 = .ok (.if_icmp .eq 6, 3) := by decide +kernel
theorem dX11_when_95 : decode cX11_when 95 = .ok (.goto 49, 3) := by decide +kernel
theorem dX11_when_98 : decode cX11_when 98 = .ok (.aload_n 0, 1) := by decide +kernel
theorem dX11_when_99 : decode cX11_when 99 = .ok (.iload 6, 2) := by decide +kernel
theorem dX11_when_101 : decode cX11_when 101 = .ok (.iload_n 3, 1) := by decide +kernel
theorem dX11_when_102 : decode cX11_when 102 = .ok (.invokevirtual 261, 3) := by decide +kernel
theorem dX11_when_105 : decode cX11_when 105 = .ok (.istore 7, 2) := by decide +kernel
theorem dX11_when_107 : decode cX11_when 107 = .ok (.iload 5, 2) := by decide +kernel
theorem dX11_when_109 : decode cX11_when 109 = .ok (.iconst (-1), 1) := by decide +kernel
theorem dX11_when_110 : decode cX11_when 110 = .ok (.if_icmp .eq 25, 3) := by decide +kernel
theorem dX11_when_113 : decode cX11_when 113 = .ok (.iload 4, 2) := by decide +kernel
theorem dX11_when_115 : decode cX11_when 115 = .ok (.ifCond .ne 13, 3) := by decide +kernel
theorem dX11_when_118 : decode cX11_when 118 = .ok (.iload 7, 2) := by decide +kernel
theorem dX11_when_120 : decode cX11_when 120 = .ok (.iload 5, 2) := by decide +kernel
theorem dX11_when_122 : decode cX11_when 122 = .ok (.if_icmp .ge 18, 3) := by decide +kernel
theorem dX11_when_125 : decode cX11_when 125 = .ok (.goto 10, 3) := by decide +kernel
theorem dX11_when_128 : decode cX11_when 128 = .ok (.iload 7, 2) := by decide +kernel
theorem dX11_when_130 : decode cX11_when 130 = .ok (.iload 5, 2) := by decide +kernel
theorem dX11_when_132 : decode cX11_when 132 = .ok (.if_icmp .le 8, 3) := by decide +kernel
theorem dX11_when_135 : decode cX11_when 135 = .ok (.iload 7, 2) := by decide +kernel
theorem dX11_when_137 : decode cX11_when 137 = .ok (.goto 5, 3) := by decide +kernel
theorem dX11_when_140 : decode cX11_when 140 = .ok (.iload 5, 2) := by decide +kernel
theorem dX11_when_142 : decode cX11_when 142 = .ok (.istore 5, 2) := by decide +kernel
theorem dX11_when_144 : decode cX11_when 144 = .ok (.iinc 6 1, 3) := by decide +kernel
theorem dX11_when_147 : decode cX11_when 147 = .ok (.goto (-72), 3) := by decide +kernel
theorem dX11_when_150 : decode cX11_when 150 = .ok (.iload 5, 2) := by decide +kernel
theorem dX11_when_152 : decode cX11_when 152 = .ok (.ireturn, 1) := by decide +kernel
abbrev mX11_when : MD := (cX11_when, "BlottedDeedModel", 8, 3, 73, (some .int), "when", [])
def bX11_when_0 (g : GE) (J : Nat → KT) : KT := i_aload 0 (i_push (.int 0) (i_putf 10 0 .int (i_aload 0 (i_aload 0 (i_iload 1 (i_cv fX11_isThing g 1 10 (i_ifeq (i_jmp [true, true, true, true, true, false, false, false] (J 1)) (i_aload 0 (i_iload 2 (i_cv fX11_isHeir g 1 10 (i_ifeq (i_jmp [true, true, true, true, true, false, false, false] (J 1)) (i_aload 0 (i_iload 3 (i_cv fX11_isHeir g 1 10 (i_ifne (i_push (.int 0) (i_jmp [true, true, true, true, true, false, false, false] (J 2))) (i_jmp [true, true, true, true, true, false, false, false] (J 1)))))))))))))))))
def bX11_when_1 (g : GE) (J : Nat → KT) : KT := i_push (.int 1) (i_jmp [true, true, true, true, true, false, false, false] (J 2))
def bX11_when_2 (g : GE) (J : Nat → KT) : KT := i_push (.int 1) (i_push (.int 0) (i_cv fX11_bad g 3 10 (i_ifne (i_jmp [false, false, false, false, false, false, false, false] (J 4)) (i_aload 0 (i_iload 4 (i_push (.int 0) (i_push (.int 1) (i_cs fX11_in g 3 (i_ifne (i_push (.int 0) (i_jmp [true, true, true, true, true, false, false, false] (J 3))) (i_push (.int 1) (i_jmp [true, true, true, true, true, false, false, false] (J 3))))))))))))
def bX11_when_3 (g : GE) (J : Nat → KT) : KT := i_push (.int 2) (i_push (.int 2) (i_cv fX11_bad g 3 10 (i_ifeq (i_push (.int (-1)) (i_istore 5 (i_push (.int 0) (i_istore 6 (i_jmp [true, true, true, true, true, true, true, false] (J 5)))))) (i_jmp [false, false, false, false, false, false, false, false] (J 4)))))
def bX11_when_4 (g : GE) (J : Nat → KT) : KT := i_push (.int 0) (i_ireturn)
def bX11_when_5 (g : GE) (J : Nat → KT) : KT := i_iload 6 (i_aload 0 (i_getf 10 27 (i_icge (i_iload 5 (i_ireturn)) (i_aload 0 (i_iload 6 (i_iload 1 (i_cv fX11_goesBy g 2 10 (i_iload 2 (i_iceq (i_aload 0 (i_iload 6 (i_iload 3 (i_cv fX11_coinBy g 2 10 (i_istore 7 (i_iload 5 (i_push (.int (-1)) (i_iceq (i_jmp [true, true, true, true, true, false, true, true] (J 6)) (i_iload 4 (i_ifne (i_iload 7 (i_iload 5 (i_icle (i_jmp [true, true, true, true, true, true, true, false] (J 7)) (i_jmp [true, true, true, true, true, false, true, true] (J 6))))) (i_iload 7 (i_iload 5 (i_icge (i_jmp [true, true, true, true, true, true, true, false] (J 7)) (i_jmp [true, true, true, true, true, false, true, true] (J 6))))))))))))))) (i_jmp [true, true, true, true, true, true, true, false] (J 9)))))))))))
def bX11_when_6 (g : GE) (J : Nat → KT) : KT := i_iload 7 (i_jmp [true, true, true, true, true, false, true, false] (J 8))
def bX11_when_7 (g : GE) (J : Nat → KT) : KT := i_iload 5 (i_jmp [true, true, true, true, true, false, true, false] (J 8))
def bX11_when_8 (g : GE) (J : Nat → KT) : KT := i_istore 5 (i_jmp [true, true, true, true, true, true, true, false] (J 9))
def bX11_when_9 (g : GE) (J : Nat → KT) : KT := i_iinc 6 1 (i_jmp [true, true, true, true, true, true, true, false] (J 5))
theorem sbX11_when_0 (g : GE) (J : Nat → KT) (h1 : Snd mX11_when g 30 (J 1)) (h2 : Snd mX11_when g 35 (J 2)) (h3 : Snd mX11_when g 59 (J 3)) (h4 : Snd mX11_when g 67 (J 4)) (h5 : Snd mX11_when g 75 (J 5)) (h6 : Snd mX11_when g 135 (J 6)) (h7 : Snd mX11_when g 140 (J 7)) (h8 : Snd mX11_when g 142 (J 8)) (h9 : Snd mX11_when g 144 (J 9)) : Snd mX11_when g 0 (bX11_when_0 g J) := by
  unfold bX11_when_0
  refine s_aload_n (pc := 0) (i := 0) ?_ dX11_when_0 rfl
  refine s_iconst (pc := 1) (v := 0) ?_ dX11_when_1 (by decide)
  refine s_putf (pc := 2) (ci := 10) (f := 0) (T := TX11) (ty0 := tyX11) ?_ ginX11 tyX11_ok nmX11 rfl (by decide) rfl rfl wt_1393 dX11_when_2
  refine s_aload_n (pc := 5) (i := 0) ?_ dX11_when_5 rfl
  refine s_aload_n (pc := 6) (i := 0) ?_ dX11_when_6 rfl
  refine s_iload_n (pc := 7) (i := 1) ?_ dX11_when_7 rfl
  refine s_cv (pc := 8) (n := 1) (ci := 10) ?_ tX11_isThing rfl rfl wt_1724 wt_1726 wp_76 wt_17 wt_1727 ⟨crX11_isThing, by decide, by decide⟩ dX11_when_8
  refine s_ifeq (pc := 11) (tgt := 30) ?_ ?_ dX11_when_11 (by decide)
  · skip
    exact s_fall (pc := 30) h1
  · skip
    refine s_aload_n (pc := 14) (i := 0) ?_ dX11_when_14 rfl
    refine s_iload_n (pc := 15) (i := 2) ?_ dX11_when_15 rfl
    refine s_cv (pc := 16) (n := 1) (ci := 10) ?_ tX11_isHeir rfl rfl wt_1703 wt_1705 wp_72 wt_17 wt_1706 ⟨crX11_isHeir, by decide, by decide⟩ dX11_when_16
    refine s_ifeq (pc := 19) (tgt := 30) ?_ ?_ dX11_when_19 (by decide)
    · skip
      exact s_fall (pc := 30) h1
    · skip
      refine s_aload_n (pc := 22) (i := 0) ?_ dX11_when_22 rfl
      refine s_iload_n (pc := 23) (i := 3) ?_ dX11_when_23 rfl
      refine s_cv (pc := 24) (n := 1) (ci := 10) ?_ tX11_isHeir rfl rfl wt_1703 wt_1705 wp_72 wt_17 wt_1706 ⟨crX11_isHeir, by decide, by decide⟩ dX11_when_24
      refine s_ifne (pc := 27) (tgt := 34) ?_ ?_ dX11_when_27 (by decide)
      · skip
        refine s_iconst (pc := 34) (v := 0) ?_ dX11_when_34 (by decide)
        exact s_fall (pc := 35) h2
      · skip
        exact s_fall (pc := 30) h1
theorem sbX11_when_1 (g : GE) (J : Nat → KT) (h1 : Snd mX11_when g 30 (J 1)) (h2 : Snd mX11_when g 35 (J 2)) (h3 : Snd mX11_when g 59 (J 3)) (h4 : Snd mX11_when g 67 (J 4)) (h5 : Snd mX11_when g 75 (J 5)) (h6 : Snd mX11_when g 135 (J 6)) (h7 : Snd mX11_when g 140 (J 7)) (h8 : Snd mX11_when g 142 (J 8)) (h9 : Snd mX11_when g 144 (J 9)) : Snd mX11_when g 30 (bX11_when_1 g J) := by
  unfold bX11_when_1
  refine s_iconst (pc := 30) (v := 1) ?_ dX11_when_30 (by decide)
  exact s_goto (pc := 31) (tgt := 35) h2 dX11_when_31 (by decide)
theorem sbX11_when_2 (g : GE) (J : Nat → KT) (h1 : Snd mX11_when g 30 (J 1)) (h2 : Snd mX11_when g 35 (J 2)) (h3 : Snd mX11_when g 59 (J 3)) (h4 : Snd mX11_when g 67 (J 4)) (h5 : Snd mX11_when g 75 (J 5)) (h6 : Snd mX11_when g 135 (J 6)) (h7 : Snd mX11_when g 140 (J 7)) (h8 : Snd mX11_when g 142 (J 8)) (h9 : Snd mX11_when g 144 (J 9)) : Snd mX11_when g 35 (bX11_when_2 g J) := by
  unfold bX11_when_2
  refine s_iconst (pc := 35) (v := 1) ?_ dX11_when_35 (by decide)
  refine s_iconst (pc := 36) (v := 0) ?_ dX11_when_36 (by decide)
  refine s_cv (pc := 37) (n := 3) (ci := 10) ?_ tX11_bad rfl rfl wt_1560 wt_1562 wp_49 wt_17 wt_1563 ⟨crX11_bad, by decide, by decide⟩ dX11_when_37
  refine s_ifne (pc := 40) (tgt := 67) ?_ ?_ dX11_when_40 (by decide)
  · skip
    exact s_fall (pc := 67) h4
  · skip
    refine s_aload_n (pc := 43) (i := 0) ?_ dX11_when_43 rfl
    refine s_iload (pc := 44) (i := 4) ?_ dX11_when_44
    refine s_iconst (pc := 46) (v := 0) ?_ dX11_when_46 (by decide)
    refine s_iconst (pc := 47) (v := 1) ?_ dX11_when_47 (by decide)
    refine s_cs (pc := 48) (n := 3) ?_ tX11_in wt_1557 wt_1558 wt_17 wt_1559 ⟨crX11_in, by decide, by decide⟩ dX11_when_48
    refine s_ifne (pc := 51) (tgt := 58) ?_ ?_ dX11_when_51 (by decide)
    · skip
      refine s_iconst (pc := 58) (v := 0) ?_ dX11_when_58 (by decide)
      exact s_fall (pc := 59) h3
    · skip
      refine s_iconst (pc := 54) (v := 1) ?_ dX11_when_54 (by decide)
      exact s_goto (pc := 55) (tgt := 59) h3 dX11_when_55 (by decide)
theorem sbX11_when_3 (g : GE) (J : Nat → KT) (h1 : Snd mX11_when g 30 (J 1)) (h2 : Snd mX11_when g 35 (J 2)) (h3 : Snd mX11_when g 59 (J 3)) (h4 : Snd mX11_when g 67 (J 4)) (h5 : Snd mX11_when g 75 (J 5)) (h6 : Snd mX11_when g 135 (J 6)) (h7 : Snd mX11_when g 140 (J 7)) (h8 : Snd mX11_when g 142 (J 8)) (h9 : Snd mX11_when g 144 (J 9)) : Snd mX11_when g 59 (bX11_when_3 g J) := by
  unfold bX11_when_3
  refine s_iconst (pc := 59) (v := 2) ?_ dX11_when_59 (by decide)
  refine s_iconst (pc := 60) (v := 2) ?_ dX11_when_60 (by decide)
  refine s_cv (pc := 61) (n := 3) (ci := 10) ?_ tX11_bad rfl rfl wt_1560 wt_1562 wp_49 wt_17 wt_1563 ⟨crX11_bad, by decide, by decide⟩ dX11_when_61
  refine s_ifeq (pc := 64) (tgt := 69) ?_ ?_ dX11_when_64 (by decide)
  · skip
    refine s_iconst (pc := 69) (v := (-1)) ?_ dX11_when_69 (by decide)
    refine s_istore (pc := 70) (i := 5) ?_ dX11_when_70 (by decide)
    refine s_iconst (pc := 72) (v := 0) ?_ dX11_when_72 (by decide)
    refine s_istore (pc := 73) (i := 6) ?_ dX11_when_73 (by decide)
    exact s_fall (pc := 75) h5
  · skip
    exact s_fall (pc := 67) h4
theorem sbX11_when_4 (g : GE) (J : Nat → KT) (h1 : Snd mX11_when g 30 (J 1)) (h2 : Snd mX11_when g 35 (J 2)) (h3 : Snd mX11_when g 59 (J 3)) (h4 : Snd mX11_when g 67 (J 4)) (h5 : Snd mX11_when g 75 (J 5)) (h6 : Snd mX11_when g 135 (J 6)) (h7 : Snd mX11_when g 140 (J 7)) (h8 : Snd mX11_when g 142 (J 8)) (h9 : Snd mX11_when g 144 (J 9)) : Snd mX11_when g 67 (bX11_when_4 g J) := by
  unfold bX11_when_4
  refine s_iconst (pc := 67) (v := 0) ?_ dX11_when_67 (by decide)
  exact s_ireturn (pc := 68) rfl dX11_when_68
theorem sbX11_when_5 (g : GE) (J : Nat → KT) (h1 : Snd mX11_when g 30 (J 1)) (h2 : Snd mX11_when g 35 (J 2)) (h3 : Snd mX11_when g 59 (J 3)) (h4 : Snd mX11_when g 67 (J 4)) (h5 : Snd mX11_when g 75 (J 5)) (h6 : Snd mX11_when g 135 (J 6)) (h7 : Snd mX11_when g 140 (J 7)) (h8 : Snd mX11_when g 142 (J 8)) (h9 : Snd mX11_when g 144 (J 9)) : Snd mX11_when g 75 (bX11_when_5 g J) := by
  unfold bX11_when_5
  refine s_iload (pc := 75) (i := 6) ?_ dX11_when_75
  refine s_aload_n (pc := 77) (i := 0) ?_ dX11_when_77 rfl
  refine s_getf (pc := 78) (ci := 10) (f := 27) (T := TX11) ?_ ginX11 rfl (by decide) wt_1420 dX11_when_78
  refine s_icge (pc := 81) (tgt := 150) ?_ ?_ dX11_when_81 (by decide)
  · skip
    refine s_iload (pc := 150) (i := 5) ?_ dX11_when_150
    exact s_ireturn (pc := 152) rfl dX11_when_152
  · skip
    refine s_aload_n (pc := 84) (i := 0) ?_ dX11_when_84 rfl
    refine s_iload (pc := 85) (i := 6) ?_ dX11_when_85
    refine s_iload_n (pc := 87) (i := 1) ?_ dX11_when_87 rfl
    refine s_cv (pc := 88) (n := 2) (ci := 10) ?_ tX11_goesBy rfl rfl wt_1716 wt_1718 wp_75 wt_17 wt_1719 ⟨crX11_goesBy, by decide, by decide⟩ dX11_when_88
    refine s_iload_n (pc := 91) (i := 2) ?_ dX11_when_91 rfl
    refine s_iceq (pc := 92) (tgt := 98) ?_ ?_ dX11_when_92 (by decide)
    · skip
      refine s_aload_n (pc := 98) (i := 0) ?_ dX11_when_98 rfl
      refine s_iload (pc := 99) (i := 6) ?_ dX11_when_99
      refine s_iload_n (pc := 101) (i := 3) ?_ dX11_when_101 rfl
      refine s_cv (pc := 102) (n := 2) (ci := 10) ?_ tX11_coinBy rfl rfl wt_1707 wt_1709 wp_73 wt_17 wt_1710 ⟨crX11_coinBy, by decide, by decide⟩ dX11_when_102
      refine s_istore (pc := 105) (i := 7) ?_ dX11_when_105 (by decide)
      refine s_iload (pc := 107) (i := 5) ?_ dX11_when_107
      refine s_iconst (pc := 109) (v := (-1)) ?_ dX11_when_109 (by decide)
      refine s_iceq (pc := 110) (tgt := 135) ?_ ?_ dX11_when_110 (by decide)
      · skip
        exact s_fall (pc := 135) h6
      · skip
        refine s_iload (pc := 113) (i := 4) ?_ dX11_when_113
        refine s_ifne (pc := 115) (tgt := 128) ?_ ?_ dX11_when_115 (by decide)
        · skip
          refine s_iload (pc := 128) (i := 7) ?_ dX11_when_128
          refine s_iload (pc := 130) (i := 5) ?_ dX11_when_130
          refine s_icle (pc := 132) (tgt := 140) ?_ ?_ dX11_when_132 (by decide)
          · skip
            exact s_fall (pc := 140) h7
          · skip
            exact s_fall (pc := 135) h6
        · skip
          refine s_iload (pc := 118) (i := 7) ?_ dX11_when_118
          refine s_iload (pc := 120) (i := 5) ?_ dX11_when_120
          refine s_icge (pc := 122) (tgt := 140) ?_ ?_ dX11_when_122 (by decide)
          · skip
            exact s_fall (pc := 140) h7
          · skip
            exact s_goto (pc := 125) (tgt := 135) h6 dX11_when_125 (by decide)
    · skip
      exact s_goto (pc := 95) (tgt := 144) h9 dX11_when_95 (by decide)
theorem sbX11_when_6 (g : GE) (J : Nat → KT) (h1 : Snd mX11_when g 30 (J 1)) (h2 : Snd mX11_when g 35 (J 2)) (h3 : Snd mX11_when g 59 (J 3)) (h4 : Snd mX11_when g 67 (J 4)) (h5 : Snd mX11_when g 75 (J 5)) (h6 : Snd mX11_when g 135 (J 6)) (h7 : Snd mX11_when g 140 (J 7)) (h8 : Snd mX11_when g 142 (J 8)) (h9 : Snd mX11_when g 144 (J 9)) : Snd mX11_when g 135 (bX11_when_6 g J) := by
  unfold bX11_when_6
  refine s_iload (pc := 135) (i := 7) ?_ dX11_when_135
  exact s_goto (pc := 137) (tgt := 142) h8 dX11_when_137 (by decide)
theorem sbX11_when_7 (g : GE) (J : Nat → KT) (h1 : Snd mX11_when g 30 (J 1)) (h2 : Snd mX11_when g 35 (J 2)) (h3 : Snd mX11_when g 59 (J 3)) (h4 : Snd mX11_when g 67 (J 4)) (h5 : Snd mX11_when g 75 (J 5)) (h6 : Snd mX11_when g 135 (J 6)) (h7 : Snd mX11_when g 140 (J 7)) (h8 : Snd mX11_when g 142 (J 8)) (h9 : Snd mX11_when g 144 (J 9)) : Snd mX11_when g 140 (bX11_when_7 g J) := by
  unfold bX11_when_7
  refine s_iload (pc := 140) (i := 5) ?_ dX11_when_140
  exact s_fall (pc := 142) h8
theorem sbX11_when_8 (g : GE) (J : Nat → KT) (h1 : Snd mX11_when g 30 (J 1)) (h2 : Snd mX11_when g 35 (J 2)) (h3 : Snd mX11_when g 59 (J 3)) (h4 : Snd mX11_when g 67 (J 4)) (h5 : Snd mX11_when g 75 (J 5)) (h6 : Snd mX11_when g 135 (J 6)) (h7 : Snd mX11_when g 140 (J 7)) (h8 : Snd mX11_when g 142 (J 8)) (h9 : Snd mX11_when g 144 (J 9)) : Snd mX11_when g 142 (bX11_when_8 g J) := by
  unfold bX11_when_8
  refine s_istore (pc := 142) (i := 5) ?_ dX11_when_142 (by decide)
  exact s_fall (pc := 144) h9
theorem sbX11_when_9 (g : GE) (J : Nat → KT) (h1 : Snd mX11_when g 30 (J 1)) (h2 : Snd mX11_when g 35 (J 2)) (h3 : Snd mX11_when g 59 (J 3)) (h4 : Snd mX11_when g 67 (J 4)) (h5 : Snd mX11_when g 75 (J 5)) (h6 : Snd mX11_when g 135 (J 6)) (h7 : Snd mX11_when g 140 (J 7)) (h8 : Snd mX11_when g 142 (J 8)) (h9 : Snd mX11_when g 144 (J 9)) : Snd mX11_when g 144 (bX11_when_9 g J) := by
  unfold bX11_when_9
  refine s_iinc (pc := 144) (i := 6) (v := 1) ?_ dX11_when_144 (by decide) (by decide)
  exact s_goto (pc := 147) (tgt := 75) h5 dX11_when_147 (by decide)
def jX11_when (g : GE) : Nat → Nat → KT
  | 0, _ => fun _ _ _ => none
  | n + 1, 0 => bX11_when_0 g (jX11_when g n)
  | n + 1, 1 => bX11_when_1 g (jX11_when g n)
  | n + 1, 2 => bX11_when_2 g (jX11_when g n)
  | n + 1, 3 => bX11_when_3 g (jX11_when g n)
  | n + 1, 4 => bX11_when_4 g (jX11_when g n)
  | n + 1, 5 => bX11_when_5 g (jX11_when g n)
  | n + 1, 6 => bX11_when_6 g (jX11_when g n)
  | n + 1, 7 => bX11_when_7 g (jX11_when g n)
  | n + 1, 8 => bX11_when_8 g (jX11_when g n)
  | n + 1, 9 => bX11_when_9 g (jX11_when g n)
  | _ + 1, _ + 10 => fun _ _ _ => none
theorem sjX11_when (g : GE) : ∀ n, Snd mX11_when g 0 (jX11_when g n 0) ∧ Snd mX11_when g 30 (jX11_when g n 1) ∧ Snd mX11_when g 35 (jX11_when g n 2) ∧ Snd mX11_when g 59 (jX11_when g n 3) ∧ Snd mX11_when g 67 (jX11_when g n 4) ∧ Snd mX11_when g 75 (jX11_when g n 5) ∧ Snd mX11_when g 135 (jX11_when g n 6) ∧ Snd mX11_when g 140 (jX11_when g n 7) ∧ Snd mX11_when g 142 (jX11_when g n 8) ∧ Snd mX11_when g 144 (jX11_when g n 9)
  | 0 => ⟨s_none, s_none, s_none, s_none, s_none, s_none, s_none, s_none, s_none, s_none⟩
  | n + 1 => by
    obtain ⟨-, h1, h2, h3, h4, h5, h6, h7, h8, h9⟩ := sjX11_when g n
    exact ⟨sbX11_when_0 g _ h1 h2 h3 h4 h5 h6 h7 h8 h9, sbX11_when_1 g _ h1 h2 h3 h4 h5 h6 h7 h8 h9, sbX11_when_2 g _ h1 h2 h3 h4 h5 h6 h7 h8 h9, sbX11_when_3 g _ h1 h2 h3 h4 h5 h6 h7 h8 h9, sbX11_when_4 g _ h1 h2 h3 h4 h5 h6 h7 h8 h9, sbX11_when_5 g _ h1 h2 h3 h4 h5 h6 h7 h8 h9, sbX11_when_6 g _ h1 h2 h3 h4 h5 h6 h7 h8 h9, sbX11_when_7 g _ h1 h2 h3 h4 h5 h6 h7 h8 h9, sbX11_when_8 g _ h1 h2 h3 h4 h5 h6 h7 h8 h9, sbX11_when_9 g _ h1 h2 h3 h4 h5 h6 h7 h8 h9⟩
def kX11_when (g : GE) : KT := jX11_when g g.1 0
theorem sX11_when (g : GE) : Snd mX11_when g 0 (kX11_when g) := (sjX11_when g g.1).1
def fX11_when : FT := fun g av w => if (ent av).length ≤ 8 then kX11_when g [] (entp 8 av) w else none
theorem tX11_when : Mt yX11_when cX11_when 8 (some .int) 3 73 fX11_when := Mt.of (K := kX11_when) (by decide +kernel) (fun _ _ _ => rfl) sX11_when
theorem crX11_when : yX11_when.cls ≠ "java/lang/invoke/MethodHandle" ∧ yX11_when.cls ≠ "java/lang/invoke/VarHandle" ∧ (parseMethodDescriptor yX11_when.desc).map (fun d => d.parameters.length) = some 4 := by decide +kernel
theorem dX11_worth_0 : decode cX11_worth 0 = .ok (.aload_n 0, 1) := by decide +kernel
theorem dX11_worth_1 : decode cX11_worth 1 = .ok (.iconst 0, 1) := by decide +kernel
theorem dX11_worth_2 : decode cX11_worth 2 = .ok (.putfield 120, 3) := by decide +kernel
theorem dX11_worth_5 : decode cX11_worth 5 = .ok (.aload_n 0, 1) := by decide +kernel
theorem dX11_worth_6 : decode cX11_worth 6 = .ok (.aload_n 0, 1) := by decide +kernel
theorem dX11_worth_7 : decode cX11_worth 7 = .ok (.iload_n 1, 1) := by decide +kernel
theorem dX11_worth_8 : decode cX11_worth 8 = .ok (.invokevirtual 276, 3) := by decide +kernel
theorem dX11_worth_11 : decode cX11_worth 11 = .ok (.ifCond .ne 7, 3) := by decide +kernel
theorem dX11_worth_14 : decode cX11_worth 14 = .ok (.iconst 1, 1) := by decide +kernel
theorem dX11_worth_15 : decode cX11_worth 15 = .ok (.goto 4, 3) := by decide +kernel
theorem dX11_worth_18 : decode cX11_worth 18 = .ok (.iconst 0, 1) := by decide +kernel
theorem dX11_worth_19 : decode cX11_worth 19 = .ok (.iconst 1, 1) := by decide +kernel
theorem dX11_worth_20 : decode cX11_worth 20 = .ok (.iconst 0, 1) := by decide +kernel
theorem dX11_worth_21 : decode cX11_worth 21 = .ok (.invokevirtual 215, 3) := by decide +kernel
theorem dX11_worth_24 : decode cX11_worth 24 = .ok (.ifCond .ne 26, 3) := by decide +kernel
theorem dX11_worth_27 : decode cX11_worth 27 = .ok (.aload_n 0, 1) := by decide +kernel
theorem dX11_worth_28 : decode cX11_worth 28 = .ok (.iload_n 2, 1) := by decide +kernel
theorem dX11_worth_29 : decode cX11_worth 29 = .ok (.iconst 0, 1) := by decide +kernel
theorem dX11_worth_30 : decode cX11_worth 30 = .ok (.iconst 3, 1) := by decide +kernel
theorem dX11_worth_31 : decode cX11_worth 31 = .ok (.invokestatic 154, 3) := by decide +kernel
theorem dX11_worth_34 : decode cX11_worth 34 = .ok (.ifCond .ne 7, 3) := by decide +kernel
theorem dX11_worth_37 : decode cX11_worth 37 = .ok (.iconst 1, 1) := by decide +kernel
theorem dX11_worth_38 : decode cX11_worth 38 = .ok (.goto 4, 3) := by decide +kernel
theorem dX11_worth_41 : decode cX11_worth 41 = .ok (.iconst 0, 1) := by decide +kernel
theorem dX11_worth_42 : decode cX11_worth 42 = .ok (.iconst 2, 1) := by decide +kernel
theorem dX11_worth_43 : decode cX11_worth 43 = .ok (.iconst 2, 1) := by decide +kernel
theorem dX11_worth_44 : decode cX11_worth 44 = .ok (.invokevirtual 215, 3) := by decide +kernel
theorem dX11_worth_47 : decode cX11_worth 47 = .ok (.ifCond .eq 5, 3) := by decide +kernel
theorem dX11_worth_50 : decode cX11_worth 50 = .ok (.iconst 0, 1) := by decide +kernel
theorem dX11_worth_51 : decode cX11_worth 51 = .ok (.ireturn, 1) := by decide +kernel
theorem dX11_worth_52 : decode cX11_worth 52 = .ok (.aload_n 0, 1) := by decide +kernel
theorem dX11_worth_53 : decode cX11_worth 53 = .ok (.iload_n 1, 1) := by decide +kernel
theorem dX11_worth_54 : decode cX11_worth 54 = .ok (.iload_n 2, 1) := by decide +kernel
theorem dX11_worth_55 : decode cX11_worth 55 = .ok (.iconst 2, 1) := by decide +kernel
theorem dX11_worth_56 : decode cX11_worth 56 = .ok (.irem, 1) := by decide +kernel
theorem dX11_worth_57 : decode cX11_worth 57 = .ok (.invokevirtual 288, 3) := by decide +kernel
theorem dX11_worth_60 : decode cX11_worth 60 = .ok (.istore_n 3, 1) := by decide +kernel
theorem dX11_worth_61 : decode cX11_worth 61 = .ok (.iload_n 3, 1) := by decide +kernel
theorem dX11_worth_62 : decode cX11_worth 62 = .ok (.iconst (-1), 1) := by decide +kernel
theorem dX11_worth_63 : decode cX11_worth 63 = .ok (.if_icmp .eq 8, 3) := by decide +kernel
theorem dX11_worth_66 : decode cX11_worth 66 = .ok (.iload_n 2, 1) := by decide +kernel
theorem dX11_worth_67 : decode cX11_worth 67 = .ok (.iconst 1, 1) := by decide +kernel
theorem dX11_worth_68 : decode cX11_worth 68 = .ok (.if_icmp .le 7, 3) := by decide +kernel
theorem dX11_worth_71 : decode cX11_worth 71 = .ok (.iload_n 3, 1) := by decide +kernel
theorem dX11_worth_72 : decode cX11_worth 72 = .ok (.goto 9, 3) := by decide +kernel
theorem dX11_worth_75 : decode cX11_worth 75 = .ok (.aload_n 0, 1) := by decide +kernel
theorem dX11_worth_76 : decode cX11_worth 76 = .ok (.iload_n 3, 1) := by decide +kernel
theorem dX11_worth_77 : decode cX11_worth 77 = .ok (.iload_n 1, 1) := by decide +kernel
theorem dX11_worth_78 : decode cX11_worth 78 = .ok (.invokevirtual 279, 3) := by decide +kernel
theorem dX11_worth_81 : decode cX11_worth 81 = .ok (.ireturn, 1) := by decide +kernel
abbrev mX11_worth : MD := (cX11_worth, "BlottedDeedModel", 4, 4, 100, (some .int), "worth", [])
def bX11_worth_0 (g : GE) (J : Nat → KT) : KT := i_aload 0 (i_push (.int 0) (i_putf 10 0 .int (i_aload 0 (i_aload 0 (i_iload 1 (i_cv fX11_isHeir g 1 10 (i_ifne (i_push (.int 0) (i_jmp [true, true, true, false] (J 1))) (i_push (.int 1) (i_jmp [true, true, true, false] (J 1))))))))))
def bX11_worth_1 (g : GE) (J : Nat → KT) : KT := i_push (.int 1) (i_push (.int 0) (i_cv fX11_bad g 3 10 (i_ifne (i_jmp [false, false, false, false] (J 3)) (i_aload 0 (i_iload 2 (i_push (.int 0) (i_push (.int 3) (i_cs fX11_in g 3 (i_ifne (i_push (.int 0) (i_jmp [true, true, true, false] (J 2))) (i_push (.int 1) (i_jmp [true, true, true, false] (J 2))))))))))))
def bX11_worth_2 (g : GE) (J : Nat → KT) : KT := i_push (.int 2) (i_push (.int 2) (i_cv fX11_bad g 3 10 (i_ifeq (i_aload 0 (i_iload 1 (i_iload 2 (i_push (.int 2) (i_irem (i_cv fX11_worthAt g 2 10 (i_istore 3 (i_iload 3 (i_push (.int (-1)) (i_iceq (i_jmp [false, false, false, true] (J 4)) (i_iload 2 (i_push (.int 1) (i_icle (i_aload 0 (i_iload 3 (i_iload 1 (i_cv fX11_worthBy g 2 10 (i_jmp [false, false, false, false] (J 5)))))) (i_jmp [false, false, false, true] (J 4))))))))))))))) (i_jmp [false, false, false, false] (J 3)))))
def bX11_worth_3 (g : GE) (J : Nat → KT) : KT := i_push (.int 0) (i_ireturn)
def bX11_worth_4 (g : GE) (J : Nat → KT) : KT := i_iload 3 (i_jmp [false, false, false, false] (J 5))
def bX11_worth_5 (g : GE) (J : Nat → KT) : KT := i_ireturn
theorem sbX11_worth_0 (g : GE) (J : Nat → KT) (h1 : Snd mX11_worth g 19 (J 1)) (h2 : Snd mX11_worth g 42 (J 2)) (h3 : Snd mX11_worth g 50 (J 3)) (h4 : Snd mX11_worth g 71 (J 4)) (h5 : Snd mX11_worth g 81 (J 5)) : Snd mX11_worth g 0 (bX11_worth_0 g J) := by
  unfold bX11_worth_0
  refine s_aload_n (pc := 0) (i := 0) ?_ dX11_worth_0 rfl
  refine s_iconst (pc := 1) (v := 0) ?_ dX11_worth_1 (by decide)
  refine s_putf (pc := 2) (ci := 10) (f := 0) (T := TX11) (ty0 := tyX11) ?_ ginX11 tyX11_ok nmX11 rfl (by decide) rfl rfl wt_1393 dX11_worth_2
  refine s_aload_n (pc := 5) (i := 0) ?_ dX11_worth_5 rfl
  refine s_aload_n (pc := 6) (i := 0) ?_ dX11_worth_6 rfl
  refine s_iload_n (pc := 7) (i := 1) ?_ dX11_worth_7 rfl
  refine s_cv (pc := 8) (n := 1) (ci := 10) ?_ tX11_isHeir rfl rfl wt_1703 wt_1705 wp_72 wt_17 wt_1706 ⟨crX11_isHeir, by decide, by decide⟩ dX11_worth_8
  refine s_ifne (pc := 11) (tgt := 18) ?_ ?_ dX11_worth_11 (by decide)
  · skip
    refine s_iconst (pc := 18) (v := 0) ?_ dX11_worth_18 (by decide)
    exact s_fall (pc := 19) h1
  · skip
    refine s_iconst (pc := 14) (v := 1) ?_ dX11_worth_14 (by decide)
    exact s_goto (pc := 15) (tgt := 19) h1 dX11_worth_15 (by decide)
theorem sbX11_worth_1 (g : GE) (J : Nat → KT) (h1 : Snd mX11_worth g 19 (J 1)) (h2 : Snd mX11_worth g 42 (J 2)) (h3 : Snd mX11_worth g 50 (J 3)) (h4 : Snd mX11_worth g 71 (J 4)) (h5 : Snd mX11_worth g 81 (J 5)) : Snd mX11_worth g 19 (bX11_worth_1 g J) := by
  unfold bX11_worth_1
  refine s_iconst (pc := 19) (v := 1) ?_ dX11_worth_19 (by decide)
  refine s_iconst (pc := 20) (v := 0) ?_ dX11_worth_20 (by decide)
  refine s_cv (pc := 21) (n := 3) (ci := 10) ?_ tX11_bad rfl rfl wt_1560 wt_1562 wp_49 wt_17 wt_1563 ⟨crX11_bad, by decide, by decide⟩ dX11_worth_21
  refine s_ifne (pc := 24) (tgt := 50) ?_ ?_ dX11_worth_24 (by decide)
  · skip
    exact s_fall (pc := 50) h3
  · skip
    refine s_aload_n (pc := 27) (i := 0) ?_ dX11_worth_27 rfl
    refine s_iload_n (pc := 28) (i := 2) ?_ dX11_worth_28 rfl
    refine s_iconst (pc := 29) (v := 0) ?_ dX11_worth_29 (by decide)
    refine s_iconst (pc := 30) (v := 3) ?_ dX11_worth_30 (by decide)
    refine s_cs (pc := 31) (n := 3) ?_ tX11_in wt_1557 wt_1558 wt_17 wt_1559 ⟨crX11_in, by decide, by decide⟩ dX11_worth_31
    refine s_ifne (pc := 34) (tgt := 41) ?_ ?_ dX11_worth_34 (by decide)
    · skip
      refine s_iconst (pc := 41) (v := 0) ?_ dX11_worth_41 (by decide)
      exact s_fall (pc := 42) h2
    · skip
      refine s_iconst (pc := 37) (v := 1) ?_ dX11_worth_37 (by decide)
      exact s_goto (pc := 38) (tgt := 42) h2 dX11_worth_38 (by decide)
theorem sbX11_worth_2 (g : GE) (J : Nat → KT) (h1 : Snd mX11_worth g 19 (J 1)) (h2 : Snd mX11_worth g 42 (J 2)) (h3 : Snd mX11_worth g 50 (J 3)) (h4 : Snd mX11_worth g 71 (J 4)) (h5 : Snd mX11_worth g 81 (J 5)) : Snd mX11_worth g 42 (bX11_worth_2 g J) := by
  unfold bX11_worth_2
  refine s_iconst (pc := 42) (v := 2) ?_ dX11_worth_42 (by decide)
  refine s_iconst (pc := 43) (v := 2) ?_ dX11_worth_43 (by decide)
  refine s_cv (pc := 44) (n := 3) (ci := 10) ?_ tX11_bad rfl rfl wt_1560 wt_1562 wp_49 wt_17 wt_1563 ⟨crX11_bad, by decide, by decide⟩ dX11_worth_44
  refine s_ifeq (pc := 47) (tgt := 52) ?_ ?_ dX11_worth_47 (by decide)
  · skip
    refine s_aload_n (pc := 52) (i := 0) ?_ dX11_worth_52 rfl
    refine s_iload_n (pc := 53) (i := 1) ?_ dX11_worth_53 rfl
    refine s_iload_n (pc := 54) (i := 2) ?_ dX11_worth_54 rfl
    refine s_iconst (pc := 55) (v := 2) ?_ dX11_worth_55 (by decide)
    refine s_irem (pc := 56) ?_ dX11_worth_56
    refine s_cv (pc := 57) (n := 2) (ci := 10) ?_ tX11_worthAt rfl rfl wt_1748 wt_1750 wp_78 wt_17 wt_1751 ⟨crX11_worthAt, by decide, by decide⟩ dX11_worth_57
    refine s_istore_n (pc := 60) (i := 3) ?_ dX11_worth_60 rfl (by decide)
    refine s_iload_n (pc := 61) (i := 3) ?_ dX11_worth_61 rfl
    refine s_iconst (pc := 62) (v := (-1)) ?_ dX11_worth_62 (by decide)
    refine s_iceq (pc := 63) (tgt := 71) ?_ ?_ dX11_worth_63 (by decide)
    · skip
      exact s_fall (pc := 71) h4
    · skip
      refine s_iload_n (pc := 66) (i := 2) ?_ dX11_worth_66 rfl
      refine s_iconst (pc := 67) (v := 1) ?_ dX11_worth_67 (by decide)
      refine s_icle (pc := 68) (tgt := 75) ?_ ?_ dX11_worth_68 (by decide)
      · skip
        refine s_aload_n (pc := 75) (i := 0) ?_ dX11_worth_75 rfl
        refine s_iload_n (pc := 76) (i := 3) ?_ dX11_worth_76 rfl
        refine s_iload_n (pc := 77) (i := 1) ?_ dX11_worth_77 rfl
        refine s_cv (pc := 78) (n := 2) (ci := 10) ?_ tX11_worthBy rfl rfl wt_1712 wt_1714 wp_74 wt_17 wt_1715 ⟨crX11_worthBy, by decide, by decide⟩ dX11_worth_78
        exact s_fall (pc := 81) h5
      · skip
        exact s_fall (pc := 71) h4
  · skip
    exact s_fall (pc := 50) h3
theorem sbX11_worth_3 (g : GE) (J : Nat → KT) (h1 : Snd mX11_worth g 19 (J 1)) (h2 : Snd mX11_worth g 42 (J 2)) (h3 : Snd mX11_worth g 50 (J 3)) (h4 : Snd mX11_worth g 71 (J 4)) (h5 : Snd mX11_worth g 81 (J 5)) : Snd mX11_worth g 50 (bX11_worth_3 g J) := by
  unfold bX11_worth_3
  refine s_iconst (pc := 50) (v := 0) ?_ dX11_worth_50 (by decide)
  exact s_ireturn (pc := 51) rfl dX11_worth_51
theorem sbX11_worth_4 (g : GE) (J : Nat → KT) (h1 : Snd mX11_worth g 19 (J 1)) (h2 : Snd mX11_worth g 42 (J 2)) (h3 : Snd mX11_worth g 50 (J 3)) (h4 : Snd mX11_worth g 71 (J 4)) (h5 : Snd mX11_worth g 81 (J 5)) : Snd mX11_worth g 71 (bX11_worth_4 g J) := by
  unfold bX11_worth_4
  refine s_iload_n (pc := 71) (i := 3) ?_ dX11_worth_71 rfl
  exact s_goto (pc := 72) (tgt := 81) h5 dX11_worth_72 (by decide)
theorem sbX11_worth_5 (g : GE) (J : Nat → KT) (h1 : Snd mX11_worth g 19 (J 1)) (h2 : Snd mX11_worth g 42 (J 2)) (h3 : Snd mX11_worth g 50 (J 3)) (h4 : Snd mX11_worth g 71 (J 4)) (h5 : Snd mX11_worth g 81 (J 5)) : Snd mX11_worth g 81 (bX11_worth_5 g J) := by
  unfold bX11_worth_5
  exact s_ireturn (pc := 81) rfl dX11_worth_81
def jX11_worth (g : GE) : Nat → Nat → KT
  | 0, _ => fun _ _ _ => none
  | n + 1, 0 => bX11_worth_0 g (jX11_worth g n)
  | n + 1, 1 => bX11_worth_1 g (jX11_worth g n)
  | n + 1, 2 => bX11_worth_2 g (jX11_worth g n)
  | n + 1, 3 => bX11_worth_3 g (jX11_worth g n)
  | n + 1, 4 => bX11_worth_4 g (jX11_worth g n)
  | n + 1, 5 => bX11_worth_5 g (jX11_worth g n)
  | _ + 1, _ + 6 => fun _ _ _ => none
theorem sjX11_worth (g : GE) : ∀ n, Snd mX11_worth g 0 (jX11_worth g n 0) ∧ Snd mX11_worth g 19 (jX11_worth g n 1) ∧ Snd mX11_worth g 42 (jX11_worth g n 2) ∧ Snd mX11_worth g 50 (jX11_worth g n 3) ∧ Snd mX11_worth g 71 (jX11_worth g n 4) ∧ Snd mX11_worth g 81 (jX11_worth g n 5)
  | 0 => ⟨s_none, s_none, s_none, s_none, s_none, s_none⟩
  | n + 1 => by
    obtain ⟨-, h1, h2, h3, h4, h5⟩ := sjX11_worth g n
    exact ⟨sbX11_worth_0 g _ h1 h2 h3 h4 h5, sbX11_worth_1 g _ h1 h2 h3 h4 h5, sbX11_worth_2 g _ h1 h2 h3 h4 h5, sbX11_worth_3 g _ h1 h2 h3 h4 h5, sbX11_worth_4 g _ h1 h2 h3 h4 h5, sbX11_worth_5 g _ h1 h2 h3 h4 h5⟩
def kX11_worth (g : GE) : KT := jX11_worth g g.1 0
theorem sX11_worth (g : GE) : Snd mX11_worth g 0 (kX11_worth g) := (sjX11_worth g g.1).1
def fX11_worth : FT := fun g av w => if (ent av).length ≤ 4 then kX11_worth g [] (entp 4 av) w else none
theorem tX11_worth : Mt yX11_worth cX11_worth 4 (some .int) 4 100 fX11_worth := Mt.of (K := kX11_worth) (by decide +kernel) (fun _ _ _ => rfl) sX11_worth
theorem crX11_worth : yX11_worth.cls ≠ "java/lang/invoke/MethodHandle" ∧ yX11_worth.cls ≠ "java/lang/invoke/VarHandle" ∧ (parseMethodDescriptor yX11_worth.desc).map (fun d => d.parameters.length) = some 2 := by decide +kernel
theorem dL_alive_0 : decode cL_alive 0 = .ok (.aload_n 2, 1) := by decide +kernel
theorem dL_alive_1 : decode cL_alive 1 = .ok (.iconst 0, 1) := by decide +kernel
theorem dL_alive_2 : decode cL_alive 2 = .ok (.aload_n 0, 1) := by decide +kernel
theorem dL_alive_3 : decode cL_alive 3 = .ok (.iload_n 1, 1) := by decide +kernel
theorem dL_alive_4 : decode cL_alive 4 = .ok (.invokevirtual 32, 3) := by decide +kernel
theorem dL_alive_7 : decode cL_alive 7 = .ok (.i2l, 1) := by decide +kernel
theorem dL_alive_8 : decode cL_alive 8 = .ok (.lastore, 1) := by decide +kernel
theorem dL_alive_9 : decode cL_alive 9 = .ok (.goto 6, 3) := by decide +kernel
theorem dL_alive_12 : decode cL_alive 12 = .ok (.astore_n 3, 1) := by decide +kernel
theorem dL_alive_13 : decode cL_alive 13 = .ok (.iconst 1, 1) := by decide +kernel
theorem dL_alive_14 : decode cL_alive 14 = .ok (.ireturn, 1) := by decide +kernel
theorem dL_alive_15 : decode cL_alive 15 = .ok (.iconst 0, 1) := by decide +kernel
theorem dL_alive_16 : decode cL_alive 16 = .ok (.ireturn, 1) := by decide +kernel
abbrev mL_alive : MD := (cL_alive, "BlottedDeedLaw", 4, 8, 144, (some .int), "alive", [(0, 9, 12, 22)])
def bL_alive_0 (g : GE) (J : Nat → KT) : KT := i_aload 2 (i_push (.int 0) (i_aload 0 (i_iload 1 (i_cvC fX10_alive g 1 9 [("java/util/NoSuchElementException", i_astore 3 (i_push (.int 1) (i_ireturn)))] (i_i2l (i_lastore (i_jmp [false, false, false, false] (i_push (.int 0) (i_ireturn)))))))))
theorem sbL_alive_0 (g : GE) (J : Nat → KT)  : Snd mL_alive g 0 (bL_alive_0 g J) := by
  unfold bL_alive_0
  refine s_aload_n (pc := 0) (i := 2) ?_ dL_alive_0 rfl
  refine s_iconst (pc := 1) (v := 0) ?_ dL_alive_1 (by decide)
  refine s_aload_n (pc := 2) (i := 0) ?_ dL_alive_2 rfl
  refine s_iload_n (pc := 3) (i := 1) ?_ dL_alive_3 rfl
  refine s_cvC (pc := 4) (n := 1) (ci := 9) ?_ ?_ tX10_alive rfl rfl wt_995 wt_996 wt_997 wt_1 wt_998 ⟨crX10_alive, by decide, by decide⟩ dL_alive_4
  · skip
    refine s_i2l (pc := 7) ?_ dL_alive_7
    refine s_lastore (pc := 8) ?_ dL_alive_8
    refine s_goto (pc := 9) (tgt := 15) ?_ dL_alive_9 (by decide)
    refine s_iconst (pc := 15) (v := 0) ?_ dL_alive_15 (by decide)
    exact s_ireturn (pc := 16) rfl dL_alive_16
  · skip
    refine List.forall_mem_cons.mpr ⟨⟨[], ⟨0, 9, 12, 22⟩, [], "java/util/NoSuchElementException", rfl, fun z hz => (by cases hz), by decide, by decide, wt_927, by decide +kernel, ?_, fun _ _ _ => rfl⟩, ?_⟩
    · skip
      refine s_astore_n (pc := 12) (i := 3) ?_ dL_alive_12 rfl (by decide)
      refine s_iconst (pc := 13) (v := 1) ?_ dL_alive_13 (by decide)
      exact s_ireturn (pc := 14) rfl dL_alive_14
    exact fun _ h => by cases h
def kL_alive (g : GE) : KT := bL_alive_0 g (fun _ _ _ _ => none)
theorem sL_alive (g : GE) : Snd mL_alive g 0 (kL_alive g) := sbL_alive_0 g _
def fL_alive : FT := fun g av w => if (ent av).length ≤ 4 then kL_alive g [] (entp 4 av) w else none
theorem tL_alive : MtW yL_alive cL_alive 4 (some .int) [(0, 9, 12, 22)] 8 144 fL_alive := MtW.of (K := kL_alive) (by decide +kernel) (fun _ _ _ => rfl) sL_alive
theorem crL_alive : yL_alive.cls ≠ "java/lang/invoke/MethodHandle" ∧ yL_alive.cls ≠ "java/lang/invoke/VarHandle" ∧ (parseMethodDescriptor yL_alive.desc).map (fun d => d.parameters.length) = some 3 := by decide +kernel
theorem dL_apart_0 : decode cL_apart 0 = .ok (.aload_n 3, 1) := by decide +kernel
theorem dL_apart_1 : decode cL_apart 1 = .ok (.iconst 0, 1) := by decide +kernel
theorem dL_apart_2 : decode cL_apart 2 = .ok (.aload_n 0, 1) := by decide +kernel
theorem dL_apart_3 : decode cL_apart 3 = .ok (.iload_n 1, 1) := by decide +kernel
theorem dL_apart_4 : decode cL_apart 4 = .ok (.iload_n 2, 1) := by decide +kernel
theorem dL_apart_5 : decode cL_apart 5 = .ok (.invokevirtual 100, 3) := by decide +kernel
theorem dL_apart_8 : decode cL_apart 8 = .ok (.i2l, 1) := by decide +kernel
theorem dL_apart_9 : decode cL_apart 9 = .ok (.lastore, 1) := by decide +kernel
theorem dL_apart_10 : decode cL_apart 10 = .ok (.goto 7, 3) := by decide +kernel
theorem dL_apart_13 : decode cL_apart 13 = .ok (.astore 4, 2) := by decide +kernel
theorem dL_apart_15 : decode cL_apart 15 = .ok (.iconst 1, 1) := by decide +kernel
theorem dL_apart_16 : decode cL_apart 16 = .ok (.ireturn, 1) := by decide +kernel
theorem dL_apart_17 : decode cL_apart 17 = .ok (.iconst 0, 1) := by decide +kernel
theorem dL_apart_18 : decode cL_apart 18 = .ok (.ireturn, 1) := by decide +kernel
abbrev mL_apart : MD := (cL_apart, "BlottedDeedLaw", 5, 9, 165, (some .int), "apart", [(0, 10, 13, 30)])
def bL_apart_0 (g : GE) (J : Nat → KT) : KT := i_aload 3 (i_push (.int 0) (i_aload 0 (i_iload 1 (i_iload 2 (i_cvC fX10_apart g 2 9 [("java/lang/IndexOutOfBoundsException", i_astore 4 (i_push (.int 1) (i_ireturn)))] (i_i2l (i_lastore (i_jmp [false, false, false, false, false] (i_push (.int 0) (i_ireturn))))))))))
theorem sbL_apart_0 (g : GE) (J : Nat → KT)  : Snd mL_apart g 0 (bL_apart_0 g J) := by
  unfold bL_apart_0
  refine s_aload_n (pc := 0) (i := 3) ?_ dL_apart_0 rfl
  refine s_iconst (pc := 1) (v := 0) ?_ dL_apart_1 (by decide)
  refine s_aload_n (pc := 2) (i := 0) ?_ dL_apart_2 rfl
  refine s_iload_n (pc := 3) (i := 1) ?_ dL_apart_3 rfl
  refine s_iload_n (pc := 4) (i := 2) ?_ dL_apart_4 rfl
  refine s_cvC (pc := 5) (n := 2) (ci := 9) ?_ ?_ tX10_apart rfl rfl wt_1295 wt_1296 wt_1297 wt_1 wt_1298 ⟨crX10_apart, by decide, by decide⟩ dL_apart_5
  · skip
    refine s_i2l (pc := 8) ?_ dL_apart_8
    refine s_lastore (pc := 9) ?_ dL_apart_9
    refine s_goto (pc := 10) (tgt := 17) ?_ dL_apart_10 (by decide)
    refine s_iconst (pc := 17) (v := 0) ?_ dL_apart_17 (by decide)
    exact s_ireturn (pc := 18) rfl dL_apart_18
  · skip
    refine List.forall_mem_cons.mpr ⟨⟨[], ⟨0, 10, 13, 30⟩, [], "java/lang/IndexOutOfBoundsException", rfl, fun z hz => (by cases hz), by decide, by decide, wt_962, by decide +kernel, ?_, fun _ _ _ => rfl⟩, ?_⟩
    · skip
      refine s_astore (pc := 13) (i := 4) ?_ dL_apart_13 (by decide)
      refine s_iconst (pc := 15) (v := 1) ?_ dL_apart_15 (by decide)
      exact s_ireturn (pc := 16) rfl dL_apart_16
    exact fun _ h => by cases h
def kL_apart (g : GE) : KT := bL_apart_0 g (fun _ _ _ _ => none)
theorem sL_apart (g : GE) : Snd mL_apart g 0 (kL_apart g) := sbL_apart_0 g _
def fL_apart : FT := fun g av w => if (ent av).length ≤ 5 then kL_apart g [] (entp 5 av) w else none
theorem tL_apart : MtW yL_apart cL_apart 5 (some .int) [(0, 10, 13, 30)] 9 165 fL_apart := MtW.of (K := kL_apart) (by decide +kernel) (fun _ _ _ => rfl) sL_apart
theorem crL_apart : yL_apart.cls ≠ "java/lang/invoke/MethodHandle" ∧ yL_apart.cls ≠ "java/lang/invoke/VarHandle" ∧ (parseMethodDescriptor yL_apart.desc).map (fun d => d.parameters.length) = some 4 := by decide +kernel
theorem dL_blot_0 : decode cL_blot 0 = .ok (.aload_n 3, 1) := by decide +kernel
theorem dL_blot_1 : decode cL_blot 1 = .ok (.iconst 0, 1) := by decide +kernel
theorem dL_blot_2 : decode cL_blot 2 = .ok (.aload_n 0, 1) := by decide +kernel
theorem dL_blot_3 : decode cL_blot 3 = .ok (.iload_n 1, 1) := by decide +kernel
theorem dL_blot_4 : decode cL_blot 4 = .ok (.iload_n 2, 1) := by decide +kernel
theorem dL_blot_5 : decode cL_blot 5 = .ok (.invokevirtual 18, 3) := by decide +kernel
theorem dL_blot_8 : decode cL_blot 8 = .ok (.i2l, 1) := by decide +kernel
theorem dL_blot_9 : decode cL_blot 9 = .ok (.lastore, 1) := by decide +kernel
theorem dL_blot_10 : decode cL_blot 10 = .ok (.goto 11, 3) := by decide +kernel
theorem dL_blot_13 : decode cL_blot 13 = .ok (.astore 4, 2) := by decide +kernel
theorem dL_blot_15 : decode cL_blot 15 = .ok (.iconst 1, 1) := by decide +kernel
theorem dL_blot_16 : decode cL_blot 16 = .ok (.ireturn, 1) := by decide +kernel
theorem dL_blot_17 : decode cL_blot 17 = .ok (.astore 4, 2) := by decide +kernel
theorem dL_blot_19 : decode cL_blot 19 = .ok (.iconst 2, 1) := by decide +kernel
theorem dL_blot_20 : decode cL_blot 20 = .ok (.ireturn, 1) := by decide +kernel
theorem dL_blot_21 : decode cL_blot 21 = .ok (.iconst 0, 1) := by decide +kernel
theorem dL_blot_22 : decode cL_blot 22 = .ok (.ireturn, 1) := by decide +kernel
abbrev mL_blot : MD := (cL_blot, "BlottedDeedLaw", 5, 9, 166, (some .int), "blot", [(0, 10, 13, 22), (0, 10, 17, 13)])
def bL_blot_0 (g : GE) (J : Nat → KT) : KT := i_aload 3 (i_push (.int 0) (i_aload 0 (i_iload 1 (i_iload 2 (i_cvC fX10_blot g 2 9 [("java/util/NoSuchElementException", i_astore 4 (i_push (.int 1) (i_ireturn))), ("java/lang/IllegalArgumentException", i_astore 4 (i_push (.int 2) (i_ireturn)))] (i_i2l (i_lastore (i_jmp [false, false, false, false, false] (i_push (.int 0) (i_ireturn))))))))))
theorem sbL_blot_0 (g : GE) (J : Nat → KT)  : Snd mL_blot g 0 (bL_blot_0 g J) := by
  unfold bL_blot_0
  refine s_aload_n (pc := 0) (i := 3) ?_ dL_blot_0 rfl
  refine s_iconst (pc := 1) (v := 0) ?_ dL_blot_1 (by decide)
  refine s_aload_n (pc := 2) (i := 0) ?_ dL_blot_2 rfl
  refine s_iload_n (pc := 3) (i := 1) ?_ dL_blot_3 rfl
  refine s_iload_n (pc := 4) (i := 2) ?_ dL_blot_4 rfl
  refine s_cvC (pc := 5) (n := 2) (ci := 9) ?_ ?_ tX10_blot rfl rfl wt_928 wt_929 wt_930 wt_1 wt_931 ⟨crX10_blot, by decide, by decide⟩ dL_blot_5
  · skip
    refine s_i2l (pc := 8) ?_ dL_blot_8
    refine s_lastore (pc := 9) ?_ dL_blot_9
    refine s_goto (pc := 10) (tgt := 21) ?_ dL_blot_10 (by decide)
    refine s_iconst (pc := 21) (v := 0) ?_ dL_blot_21 (by decide)
    exact s_ireturn (pc := 22) rfl dL_blot_22
  · skip
    refine List.forall_mem_cons.mpr ⟨⟨[], ⟨0, 10, 13, 22⟩, [⟨0, 10, 17, 13⟩], "java/util/NoSuchElementException", rfl, fun z hz => (by cases hz), by decide, by decide, wt_927, by decide +kernel, ?_, fun _ _ _ => rfl⟩, ?_⟩
    · skip
      refine s_astore (pc := 13) (i := 4) ?_ dL_blot_13 (by decide)
      refine s_iconst (pc := 15) (v := 1) ?_ dL_blot_15 (by decide)
      exact s_ireturn (pc := 16) rfl dL_blot_16
    refine List.forall_mem_cons.mpr ⟨⟨[⟨0, 10, 13, 22⟩], ⟨0, 10, 17, 13⟩, [], "java/lang/IllegalArgumentException", rfl, fun z hz => (by rw [List.mem_singleton.mp hz]; exact ⟨by decide, "java/util/NoSuchElementException", wt_927, by decide +kernel⟩), by decide, by decide, wt_621, by decide +kernel, ?_, fun _ _ _ => rfl⟩, ?_⟩
    · skip
      refine s_astore (pc := 17) (i := 4) ?_ dL_blot_17 (by decide)
      refine s_iconst (pc := 19) (v := 2) ?_ dL_blot_19 (by decide)
      exact s_ireturn (pc := 20) rfl dL_blot_20
    exact fun _ h => by cases h
def kL_blot (g : GE) : KT := bL_blot_0 g (fun _ _ _ _ => none)
theorem sL_blot (g : GE) : Snd mL_blot g 0 (kL_blot g) := sbL_blot_0 g _
def fL_blot : FT := fun g av w => if (ent av).length ≤ 5 then kL_blot g [] (entp 5 av) w else none
theorem tL_blot : MtW yL_blot cL_blot 5 (some .int) [(0, 10, 13, 22), (0, 10, 17, 13)] 9 166 fL_blot := MtW.of (K := kL_blot) (by decide +kernel) (fun _ _ _ => rfl) sL_blot
theorem crL_blot : yL_blot.cls ≠ "java/lang/invoke/MethodHandle" ∧ yL_blot.cls ≠ "java/lang/invoke/VarHandle" ∧ (parseMethodDescriptor yL_blot.desc).map (fun d => d.parameters.length) = some 4 := by decide +kernel
theorem dL_candidate_0 : decode cL_candidate 0 = .ok (.aload_n 3, 1) := by decide +kernel
theorem dL_candidate_1 : decode cL_candidate 1 = .ok (.iconst 0, 1) := by decide +kernel
theorem dL_candidate_2 : decode cL_candidate 2 = .ok (.aload_n 0, 1) := by decide +kernel
theorem dL_candidate_3 : decode cL_candidate 3 = .ok (.iload_n 1, 1) := by decide +kernel
theorem dL_candidate_4 : decode cL_candidate 4 = .ok (.iload_n 2, 1) := by decide +kernel
theorem dL_candidate_5 : decode cL_candidate 5 = .ok (.invokevirtual 24, 3) := by decide +kernel
theorem dL_candidate_8 : decode cL_candidate 8 = .ok (.i2l, 1) := by decide +kernel
theorem dL_candidate_9 : decode cL_candidate 9 = .ok (.lastore, 1) := by decide +kernel
theorem dL_candidate_10 : decode cL_candidate 10 = .ok (.goto 7, 3) := by decide +kernel
theorem dL_candidate_13 : decode cL_candidate 13 = .ok (.astore 4, 2) := by decide +kernel
theorem dL_candidate_15 : decode cL_candidate 15 = .ok (.iconst 1, 1) := by decide +kernel
theorem dL_candidate_16 : decode cL_candidate 16 = .ok (.ireturn, 1) := by decide +kernel
theorem dL_candidate_17 : decode cL_candidate 17 = .ok (.iconst 0, 1) := by decide +kernel
theorem dL_candidate_18 : decode cL_candidate 18 = .ok (.ireturn, 1) := by decide +kernel
abbrev mL_candidate : MD := (cL_candidate, "BlottedDeedLaw", 5, 8, 144, (some .int), "candidate", [(0, 10, 13, 22)])
def bL_candidate_0 (g : GE) (J : Nat → KT) : KT := i_aload 3 (i_push (.int 0) (i_aload 0 (i_iload 1 (i_iload 2 (i_cvC fX10_candidate g 2 9 [("java/util/NoSuchElementException", i_astore 4 (i_push (.int 1) (i_ireturn)))] (i_i2l (i_lastore (i_jmp [false, false, false, false, false] (i_push (.int 0) (i_ireturn))))))))))
theorem sbL_candidate_0 (g : GE) (J : Nat → KT)  : Snd mL_candidate g 0 (bL_candidate_0 g J) := by
  unfold bL_candidate_0
  refine s_aload_n (pc := 0) (i := 3) ?_ dL_candidate_0 rfl
  refine s_iconst (pc := 1) (v := 0) ?_ dL_candidate_1 (by decide)
  refine s_aload_n (pc := 2) (i := 0) ?_ dL_candidate_2 rfl
  refine s_iload_n (pc := 3) (i := 1) ?_ dL_candidate_3 rfl
  refine s_iload_n (pc := 4) (i := 2) ?_ dL_candidate_4 rfl
  refine s_cvC (pc := 5) (n := 2) (ci := 9) ?_ ?_ tX10_candidate rfl rfl wt_955 wt_956 wt_957 wt_1 wt_958 ⟨crX10_candidate, by decide, by decide⟩ dL_candidate_5
  · skip
    refine s_i2l (pc := 8) ?_ dL_candidate_8
    refine s_lastore (pc := 9) ?_ dL_candidate_9
    refine s_goto (pc := 10) (tgt := 17) ?_ dL_candidate_10 (by decide)
    refine s_iconst (pc := 17) (v := 0) ?_ dL_candidate_17 (by decide)
    exact s_ireturn (pc := 18) rfl dL_candidate_18
  · skip
    refine List.forall_mem_cons.mpr ⟨⟨[], ⟨0, 10, 13, 22⟩, [], "java/util/NoSuchElementException", rfl, fun z hz => (by cases hz), by decide, by decide, wt_927, by decide +kernel, ?_, fun _ _ _ => rfl⟩, ?_⟩
    · skip
      refine s_astore (pc := 13) (i := 4) ?_ dL_candidate_13 (by decide)
      refine s_iconst (pc := 15) (v := 1) ?_ dL_candidate_15 (by decide)
      exact s_ireturn (pc := 16) rfl dL_candidate_16
    exact fun _ h => by cases h
def kL_candidate (g : GE) : KT := bL_candidate_0 g (fun _ _ _ _ => none)
theorem sL_candidate (g : GE) : Snd mL_candidate g 0 (kL_candidate g) := sbL_candidate_0 g _
def fL_candidate : FT := fun g av w => if (ent av).length ≤ 5 then kL_candidate g [] (entp 5 av) w else none
theorem tL_candidate : MtW yL_candidate cL_candidate 5 (some .int) [(0, 10, 13, 22)] 8 144 fL_candidate := MtW.of (K := kL_candidate) (by decide +kernel) (fun _ _ _ => rfl) sL_candidate
theorem crL_candidate : yL_candidate.cls ≠ "java/lang/invoke/MethodHandle" ∧ yL_candidate.cls ≠ "java/lang/invoke/VarHandle" ∧ (parseMethodDescriptor yL_candidate.desc).map (fun d => d.parameters.length) = some 4 := by decide +kernel
theorem dL_cleaned_0 : decode cL_cleaned 0 = .ok (.aload_n 2, 1) := by decide +kernel
theorem dL_cleaned_1 : decode cL_cleaned 1 = .ok (.iconst 0, 1) := by decide +kernel
theorem dL_cleaned_2 : decode cL_cleaned 2 = .ok (.aload_n 0, 1) := by decide +kernel
theorem dL_cleaned_3 : decode cL_cleaned 3 = .ok (.iload_n 1, 1) := by decide +kernel
theorem dL_cleaned_4 : decode cL_cleaned 4 = .ok (.invokevirtual 55, 3) := by decide +kernel
theorem dL_cleaned_7 : decode cL_cleaned 7 = .ok (.i2l, 1) := by decide +kernel
theorem dL_cleaned_8 : decode cL_cleaned 8 = .ok (.lastore, 1) := by decide +kernel
theorem dL_cleaned_9 : decode cL_cleaned 9 = .ok (.goto 6, 3) := by decide +kernel
theorem dL_cleaned_12 : decode cL_cleaned 12 = .ok (.astore_n 3, 1) := by decide +kernel
theorem dL_cleaned_13 : decode cL_cleaned 13 = .ok (.iconst 1, 1) := by decide +kernel
theorem dL_cleaned_14 : decode cL_cleaned 14 = .ok (.ireturn, 1) := by decide +kernel
theorem dL_cleaned_15 : decode cL_cleaned 15 = .ok (.iconst 0, 1) := by decide +kernel
theorem dL_cleaned_16 : decode cL_cleaned 16 = .ok (.ireturn, 1) := by decide +kernel
abbrev mL_cleaned : MD := (cL_cleaned, "BlottedDeedLaw", 4, 8, 148, (some .int), "cleaned", [(0, 9, 12, 22)])
def bL_cleaned_0 (g : GE) (J : Nat → KT) : KT := i_aload 2 (i_push (.int 0) (i_aload 0 (i_iload 1 (i_cvC fX10_cleaned g 1 9 [("java/util/NoSuchElementException", i_astore 3 (i_push (.int 1) (i_ireturn)))] (i_i2l (i_lastore (i_jmp [false, false, false, false] (i_push (.int 0) (i_ireturn)))))))))
theorem sbL_cleaned_0 (g : GE) (J : Nat → KT)  : Snd mL_cleaned g 0 (bL_cleaned_0 g J) := by
  unfold bL_cleaned_0
  refine s_aload_n (pc := 0) (i := 2) ?_ dL_cleaned_0 rfl
  refine s_iconst (pc := 1) (v := 0) ?_ dL_cleaned_1 (by decide)
  refine s_aload_n (pc := 2) (i := 0) ?_ dL_cleaned_2 rfl
  refine s_iload_n (pc := 3) (i := 1) ?_ dL_cleaned_3 rfl
  refine s_cvC (pc := 4) (n := 1) (ci := 9) ?_ ?_ tX10_cleaned rfl rfl wt_1084 wt_1085 wt_1086 wt_1 wt_1087 ⟨crX10_cleaned, by decide, by decide⟩ dL_cleaned_4
  · skip
    refine s_i2l (pc := 7) ?_ dL_cleaned_7
    refine s_lastore (pc := 8) ?_ dL_cleaned_8
    refine s_goto (pc := 9) (tgt := 15) ?_ dL_cleaned_9 (by decide)
    refine s_iconst (pc := 15) (v := 0) ?_ dL_cleaned_15 (by decide)
    exact s_ireturn (pc := 16) rfl dL_cleaned_16
  · skip
    refine List.forall_mem_cons.mpr ⟨⟨[], ⟨0, 9, 12, 22⟩, [], "java/util/NoSuchElementException", rfl, fun z hz => (by cases hz), by decide, by decide, wt_927, by decide +kernel, ?_, fun _ _ _ => rfl⟩, ?_⟩
    · skip
      refine s_astore_n (pc := 12) (i := 3) ?_ dL_cleaned_12 rfl (by decide)
      refine s_iconst (pc := 13) (v := 1) ?_ dL_cleaned_13 (by decide)
      exact s_ireturn (pc := 14) rfl dL_cleaned_14
    exact fun _ h => by cases h
def kL_cleaned (g : GE) : KT := bL_cleaned_0 g (fun _ _ _ _ => none)
theorem sL_cleaned (g : GE) : Snd mL_cleaned g 0 (kL_cleaned g) := sbL_cleaned_0 g _
def fL_cleaned : FT := fun g av w => if (ent av).length ≤ 4 then kL_cleaned g [] (entp 4 av) w else none
theorem tL_cleaned : MtW yL_cleaned cL_cleaned 4 (some .int) [(0, 9, 12, 22)] 8 148 fL_cleaned := MtW.of (K := kL_cleaned) (by decide +kernel) (fun _ _ _ => rfl) sL_cleaned
theorem crL_cleaned : yL_cleaned.cls ≠ "java/lang/invoke/MethodHandle" ∧ yL_cleaned.cls ≠ "java/lang/invoke/VarHandle" ∧ (parseMethodDescriptor yL_cleaned.desc).map (fun d => d.parameters.length) = some 3 := by decide +kernel
theorem dL_coin_0 : decode cL_coin 0 = .ok (.aload_n 3, 1) := by decide +kernel
theorem dL_coin_1 : decode cL_coin 1 = .ok (.iconst 0, 1) := by decide +kernel
theorem dL_coin_2 : decode cL_coin 2 = .ok (.aload_n 0, 1) := by decide +kernel
theorem dL_coin_3 : decode cL_coin 3 = .ok (.iload_n 1, 1) := by decide +kernel
theorem dL_coin_4 : decode cL_coin 4 = .ok (.iload_n 2, 1) := by decide +kernel
theorem dL_coin_5 : decode cL_coin 5 = .ok (.invokevirtual 49, 3) := by decide +kernel
theorem dL_coin_8 : decode cL_coin 8 = .ok (.i2l, 1) := by decide +kernel
theorem dL_coin_9 : decode cL_coin 9 = .ok (.lastore, 1) := by decide +kernel
theorem dL_coin_10 : decode cL_coin 10 = .ok (.goto 11, 3) := by decide +kernel
theorem dL_coin_13 : decode cL_coin 13 = .ok (.astore 4, 2) := by decide +kernel
theorem dL_coin_15 : decode cL_coin 15 = .ok (.iconst 1, 1) := by decide +kernel
theorem dL_coin_16 : decode cL_coin 16 = .ok (.ireturn, 1) := by decide +kernel
theorem dL_coin_17 : decode cL_coin 17 = .ok (.astore 4, 2) := by decide +kernel
theorem dL_coin_19 : decode cL_coin 19 = .ok (.iconst 2, 1) := by decide +kernel
theorem dL_coin_20 : decode cL_coin 20 = .ok (.ireturn, 1) := by decide +kernel
theorem dL_coin_21 : decode cL_coin 21 = .ok (.iconst 0, 1) := by decide +kernel
theorem dL_coin_22 : decode cL_coin 22 = .ok (.ireturn, 1) := by decide +kernel
abbrev mL_coin : MD := (cL_coin, "BlottedDeedLaw", 5, 9, 165, (some .int), "coin", [(0, 10, 13, 30), (0, 10, 17, 13)])
def bL_coin_0 (g : GE) (J : Nat → KT) : KT := i_aload 3 (i_push (.int 0) (i_aload 0 (i_iload 1 (i_iload 2 (i_cvC fX10_coin g 2 9 [("java/lang/IndexOutOfBoundsException", i_astore 4 (i_push (.int 1) (i_ireturn))), ("java/lang/IllegalArgumentException", i_astore 4 (i_push (.int 2) (i_ireturn)))] (i_i2l (i_lastore (i_jmp [false, false, false, false, false] (i_push (.int 0) (i_ireturn))))))))))
theorem sbL_coin_0 (g : GE) (J : Nat → KT)  : Snd mL_coin g 0 (bL_coin_0 g J) := by
  unfold bL_coin_0
  refine s_aload_n (pc := 0) (i := 3) ?_ dL_coin_0 rfl
  refine s_iconst (pc := 1) (v := 0) ?_ dL_coin_1 (by decide)
  refine s_aload_n (pc := 2) (i := 0) ?_ dL_coin_2 rfl
  refine s_iload_n (pc := 3) (i := 1) ?_ dL_coin_3 rfl
  refine s_iload_n (pc := 4) (i := 2) ?_ dL_coin_4 rfl
  refine s_cvC (pc := 5) (n := 2) (ci := 9) ?_ ?_ tX10_coin rfl rfl wt_1053 wt_1054 wt_1055 wt_1 wt_1056 ⟨crX10_coin, by decide, by decide⟩ dL_coin_5
  · skip
    refine s_i2l (pc := 8) ?_ dL_coin_8
    refine s_lastore (pc := 9) ?_ dL_coin_9
    refine s_goto (pc := 10) (tgt := 21) ?_ dL_coin_10 (by decide)
    refine s_iconst (pc := 21) (v := 0) ?_ dL_coin_21 (by decide)
    exact s_ireturn (pc := 22) rfl dL_coin_22
  · skip
    refine List.forall_mem_cons.mpr ⟨⟨[], ⟨0, 10, 13, 30⟩, [⟨0, 10, 17, 13⟩], "java/lang/IndexOutOfBoundsException", rfl, fun z hz => (by cases hz), by decide, by decide, wt_962, by decide +kernel, ?_, fun _ _ _ => rfl⟩, ?_⟩
    · skip
      refine s_astore (pc := 13) (i := 4) ?_ dL_coin_13 (by decide)
      refine s_iconst (pc := 15) (v := 1) ?_ dL_coin_15 (by decide)
      exact s_ireturn (pc := 16) rfl dL_coin_16
    refine List.forall_mem_cons.mpr ⟨⟨[⟨0, 10, 13, 30⟩], ⟨0, 10, 17, 13⟩, [], "java/lang/IllegalArgumentException", rfl, fun z hz => (by rw [List.mem_singleton.mp hz]; exact ⟨by decide, "java/lang/IndexOutOfBoundsException", wt_962, by decide +kernel⟩), by decide, by decide, wt_621, by decide +kernel, ?_, fun _ _ _ => rfl⟩, ?_⟩
    · skip
      refine s_astore (pc := 17) (i := 4) ?_ dL_coin_17 (by decide)
      refine s_iconst (pc := 19) (v := 2) ?_ dL_coin_19 (by decide)
      exact s_ireturn (pc := 20) rfl dL_coin_20
    exact fun _ h => by cases h
def kL_coin (g : GE) : KT := bL_coin_0 g (fun _ _ _ _ => none)
theorem sL_coin (g : GE) : Snd mL_coin g 0 (kL_coin g) := sbL_coin_0 g _
def fL_coin : FT := fun g av w => if (ent av).length ≤ 5 then kL_coin g [] (entp 5 av) w else none
theorem tL_coin : MtW yL_coin cL_coin 5 (some .int) [(0, 10, 13, 30), (0, 10, 17, 13)] 9 165 fL_coin := MtW.of (K := kL_coin) (by decide +kernel) (fun _ _ _ => rfl) sL_coin
theorem crL_coin : yL_coin.cls ≠ "java/lang/invoke/MethodHandle" ∧ yL_coin.cls ≠ "java/lang/invoke/VarHandle" ∧ (parseMethodDescriptor yL_coin.desc).map (fun d => d.parameters.length) = some 4 := by decide +kernel
theorem dL_copy_0 : decode cL_copy 0 = .ok (.aload 4, 2) := by decide +kernel
theorem dL_copy_2 : decode cL_copy 2 = .ok (.iconst 0, 1) := by decide +kernel
theorem dL_copy_3 : decode cL_copy 3 = .ok (.aload_n 0, 1) := by decide +kernel
theorem dL_copy_4 : decode cL_copy 4 = .ok (.iload_n 1, 1) := by decide +kernel
theorem dL_copy_5 : decode cL_copy 5 = .ok (.iload_n 2, 1) := by decide +kernel
theorem dL_copy_6 : decode cL_copy 6 = .ok (.iload_n 3, 1) := by decide +kernel
theorem dL_copy_7 : decode cL_copy 7 = .ok (.invokevirtual 70, 3) := by decide +kernel
theorem dL_copy_10 : decode cL_copy 10 = .ok (.i2l, 1) := by decide +kernel
theorem dL_copy_11 : decode cL_copy 11 = .ok (.lastore, 1) := by decide +kernel
theorem dL_copy_12 : decode cL_copy 12 = .ok (.goto 11, 3) := by decide +kernel
theorem dL_copy_15 : decode cL_copy 15 = .ok (.astore 5, 2) := by decide +kernel
theorem dL_copy_17 : decode cL_copy 17 = .ok (.iconst 1, 1) := by decide +kernel
theorem dL_copy_18 : decode cL_copy 18 = .ok (.ireturn, 1) := by decide +kernel
theorem dL_copy_19 : decode cL_copy 19 = .ok (.astore 5, 2) := by decide +kernel
theorem dL_copy_21 : decode cL_copy 21 = .ok (.iconst 2, 1) := by decide +kernel
theorem dL_copy_22 : decode cL_copy 22 = .ok (.ireturn, 1) := by decide +kernel
theorem dL_copy_23 : decode cL_copy 23 = .ok (.iconst 0, 1) := by decide +kernel
theorem dL_copy_24 : decode cL_copy 24 = .ok (.ireturn, 1) := by decide +kernel
abbrev mL_copy : MD := (cL_copy, "BlottedDeedLaw", 6, 8, 144, (some .int), "copy", [(0, 12, 15, 22), (0, 12, 19, 13)])
def bL_copy_0 (g : GE) (J : Nat → KT) : KT := i_aload 4 (i_push (.int 0) (i_aload 0 (i_iload 1 (i_iload 2 (i_iload 3 (i_cvC fX10_copy g 3 9 [("java/util/NoSuchElementException", i_astore 5 (i_push (.int 1) (i_ireturn))), ("java/lang/IllegalArgumentException", i_astore 5 (i_push (.int 2) (i_ireturn)))] (i_i2l (i_lastore (i_jmp [false, false, false, false, false, false] (i_push (.int 0) (i_ireturn)))))))))))
theorem sbL_copy_0 (g : GE) (J : Nat → KT)  : Snd mL_copy g 0 (bL_copy_0 g J) := by
  unfold bL_copy_0
  refine s_aload (pc := 0) (i := 4) ?_ dL_copy_0
  refine s_iconst (pc := 2) (v := 0) ?_ dL_copy_2 (by decide)
  refine s_aload_n (pc := 3) (i := 0) ?_ dL_copy_3 rfl
  refine s_iload_n (pc := 4) (i := 1) ?_ dL_copy_4 rfl
  refine s_iload_n (pc := 5) (i := 2) ?_ dL_copy_5 rfl
  refine s_iload_n (pc := 6) (i := 3) ?_ dL_copy_6 rfl
  refine s_cvC (pc := 7) (n := 3) (ci := 9) ?_ ?_ tX10_copy rfl rfl wt_1154 wt_1155 wt_1156 wt_1 wt_1157 ⟨crX10_copy, by decide, by decide⟩ dL_copy_7
  · skip
    refine s_i2l (pc := 10) ?_ dL_copy_10
    refine s_lastore (pc := 11) ?_ dL_copy_11
    refine s_goto (pc := 12) (tgt := 23) ?_ dL_copy_12 (by decide)
    refine s_iconst (pc := 23) (v := 0) ?_ dL_copy_23 (by decide)
    exact s_ireturn (pc := 24) rfl dL_copy_24
  · skip
    refine List.forall_mem_cons.mpr ⟨⟨[], ⟨0, 12, 15, 22⟩, [⟨0, 12, 19, 13⟩], "java/util/NoSuchElementException", rfl, fun z hz => (by cases hz), by decide, by decide, wt_927, by decide +kernel, ?_, fun _ _ _ => rfl⟩, ?_⟩
    · skip
      refine s_astore (pc := 15) (i := 5) ?_ dL_copy_15 (by decide)
      refine s_iconst (pc := 17) (v := 1) ?_ dL_copy_17 (by decide)
      exact s_ireturn (pc := 18) rfl dL_copy_18
    refine List.forall_mem_cons.mpr ⟨⟨[⟨0, 12, 15, 22⟩], ⟨0, 12, 19, 13⟩, [], "java/lang/IllegalArgumentException", rfl, fun z hz => (by rw [List.mem_singleton.mp hz]; exact ⟨by decide, "java/util/NoSuchElementException", wt_927, by decide +kernel⟩), by decide, by decide, wt_621, by decide +kernel, ?_, fun _ _ _ => rfl⟩, ?_⟩
    · skip
      refine s_astore (pc := 19) (i := 5) ?_ dL_copy_19 (by decide)
      refine s_iconst (pc := 21) (v := 2) ?_ dL_copy_21 (by decide)
      exact s_ireturn (pc := 22) rfl dL_copy_22
    exact fun _ h => by cases h
def kL_copy (g : GE) : KT := bL_copy_0 g (fun _ _ _ _ => none)
theorem sL_copy (g : GE) : Snd mL_copy g 0 (kL_copy g) := sbL_copy_0 g _
def fL_copy : FT := fun g av w => if (ent av).length ≤ 6 then kL_copy g [] (entp 6 av) w else none
theorem tL_copy : MtW yL_copy cL_copy 6 (some .int) [(0, 12, 15, 22), (0, 12, 19, 13)] 8 144 fL_copy := MtW.of (K := kL_copy) (by decide +kernel) (fun _ _ _ => rfl) sL_copy
theorem crL_copy : yL_copy.cls ≠ "java/lang/invoke/MethodHandle" ∧ yL_copy.cls ≠ "java/lang/invoke/VarHandle" ∧ (parseMethodDescriptor yL_copy.desc).map (fun d => d.parameters.length) = some 5 := by decide +kernel
