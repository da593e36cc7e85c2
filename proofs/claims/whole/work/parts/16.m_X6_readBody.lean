theorem dX6_readBody_0 : decode cX6_readBody 0 = .ok (.aload_n 1, 1) := by decide +kernel
theorem dX6_readBody_1 : decode cX6_readBody 1 = .ok (.getstatic 72, 3) := by decide +kernel
theorem dX6_readBody_4 : decode cX6_readBody 4 = .ok (.if_acmp .ne 8, 3) := by decide +kernel
theorem dX6_readBody_7 : decode cX6_readBody 7 = .ok (.aload_n 0, 1) := by decide +kernel
theorem dX6_readBody_8 : decode cX6_readBody 8 = .ok (.invokevirtual 78, 3) := by decide +kernel
theorem dX6_readBody_11 : decode cX6_readBody 11 = .ok (.ireturn, 1) := by decide +kernel
theorem dX6_readBody_12 : decode cX6_readBody 12 = .ok (.aload_n 1, 1) := by decide +kernel
theorem dX6_readBody_13 : decode cX6_readBody 13 = .ok (.getstatic 81, 3) := by decide +kernel
theorem dX6_readBody_16 : decode cX6_readBody 16 = .ok (.if_acmp .ne 8, 3) := by decide +kernel
theorem dX6_readBody_19 : decode cX6_readBody 19 = .ok (.aload_n 0, 1) := by decide +kernel
theorem dX6_readBody_20 : decode cX6_readBody 20 = .ok (.invokevirtual 84, 3) := by decide +kernel
theorem dX6_readBody_23 : decode cX6_readBody 23 = .ok (.ireturn, 1) := by decide +kernel
theorem dX6_readBody_24 : decode cX6_readBody 24 = .ok (.aload_n 1, 1) := by decide +kernel
theorem dX6_readBody_25 : decode cX6_readBody 25 = .ok (.getstatic 87, 3) := by decide +kernel
theorem dX6_readBody_28 : decode cX6_readBody 28 = .ok (.if_acmp .ne 8, 3) := by decide +kernel
theorem dX6_readBody_31 : decode cX6_readBody 31 = .ok (.aload_n 0, 1) := by decide +kernel
theorem dX6_readBody_32 : decode cX6_readBody 32 = .ok (.invokevirtual 90, 3) := by decide +kernel
theorem dX6_readBody_35 : decode cX6_readBody 35 = .ok (.ireturn, 1) := by decide +kernel
theorem dX6_readBody_36 : decode cX6_readBody 36 = .ok (.aload_n 1, 1) := by decide +kernel
theorem dX6_readBody_37 : decode cX6_readBody 37 = .ok (.getstatic 93, 3) := by decide +kernel
theorem dX6_readBody_40 : decode cX6_readBody 40 = .ok (.if_acmp .ne 8, 3) := by decide +kernel
theorem dX6_readBody_43 : decode cX6_readBody 43 = .ok (.aload_n 0, 1) := by decide +kernel
theorem dX6_readBody_44 : decode cX6_readBody 44 = .ok (.invokevirtual 96, 3) := by decide +kernel
theorem dX6_readBody_47 : decode cX6_readBody 47 = .ok (.ireturn, 1) := by decide +kernel
theorem dX6_readBody_48 : decode cX6_readBody 48 = .ok (.aload_n 0, 1) := by decide +kernel
theorem dX6_readBody_49 : decode cX6_readBody 49 = .ok (.getfield 15, 3) := by decide +kernel
theorem dX6_readBody_52 : decode cX6_readBody 52 = .ok (.aload_n 1, 1) := by decide +kernel
theorem dX6_readBody_53 : decode cX6_readBody 53 = .ok (.invokevirtual 99, 3) := by decide +kernel
theorem dX6_readBody_56 : decode cX6_readBody 56 = .ok (.aload_n 1, 1) := by decide +kernel
theorem dX6_readBody_57 : decode cX6_readBody 57 = .ok (.getstatic 103, 3) := by decide +kernel
theorem dX6_readBody_60 : decode cX6_readBody 60 = .ok (.if_acmp .ne 25, 3) := by decide +kernel
theorem dX6_readBody_63 : decode cX6_readBody 63 = .ok (.aload_n 0, 1) := by decide +kernel
theorem dX6_readBody_64 : decode cX6_readBody 64 = .ok (.iconst 1, 1) := by decide +kernel
theorem dX6_readBody_65 : decode cX6_readBody 65 = .ok (.invokevirtual 106, 3) := by decide +kernel
theorem dX6_readBody_68 : decode cX6_readBody 68 = .ok (.ifCond .eq 15, 3) := by decide +kernel
theorem dX6_readBody_71 : decode cX6_readBody 71 = .ok (.aload_n 0, 1) := by decide +kernel
theorem dX6_readBody_72 : decode cX6_readBody 72 = .ok (.iconst 0, 1) := by decide +kernel
theorem dX6_readBody_73 : decode cX6_readBody 73 = .ok (.invokevirtual 106, 3) := by decide +kernel
theorem dX6_readBody_76 : decode cX6_readBody 76 = .ok (.ifCond .eq 7, 3) := by decide +kernel
theorem dX6_readBody_79 : decode cX6_readBody 79 = .ok (.iconst 1, 1) := by decide +kernel
theorem dX6_readBody_80 : decode cX6_readBody 80 = .ok (.goto 4, 3) := by decide +kernel
theorem dX6_readBody_83 : decode cX6_readBody 83 = .ok (.iconst 0, 1) := by decide +kernel
theorem dX6_readBody_84 : decode cX6_readBody 84 = .ok (.ireturn, 1) := by decide +kernel
theorem dX6_readBody_85 : decode cX6_readBody 85 = .ok (.aload_n 1, 1) := by decide +kernel
theorem dX6_readBody_86 : decode cX6_readBody 86 = .ok (.getstatic 110, 3) := by decide +kernel
theorem dX6_readBody_89 : decode cX6_readBody 89 = .ok (.if_acmp .ne 24, 3) := by decide +kernel
theorem dX6_readBody_92 : decode cX6_readBody 92 = .ok (.aload_n 0, 1) := by decide +kernel
theorem dX6_readBody_93 : decode cX6_readBody 93 = .ok (.invokevirtual 113, 3) := by decide +kernel
theorem dX6_readBody_96 : decode cX6_readBody 96 = .ok (.ifCond .eq 15, 3) := by decide +kernel
theorem dX6_readBody_99 : decode cX6_readBody 99 = .ok (.aload_n 0, 1) := by decide +kernel
theorem dX6_readBody_100 : decode cX6_readBody 100 = .ok (.iconst 1, 1) := by decide +kernel
theorem dX6_readBody_101 : decode cX6_readBody 101 = .ok (.invokevirtual 106, 3) := by decide +kernel
theorem dX6_readBody_104 : decode cX6_readBody 104 = .ok (.ifCond .eq 7, 3) := by decide +kernel
theorem dX6_readBody_107 : decode cX6_readBody 107 = .ok (.iconst 1, 1) := by decide +kernel
theorem dX6_readBody_108 : decode cX6_readBody 108 = .ok (.goto 4, 3) := by decide +kernel
theorem dX6_readBody_111 : decode cX6_readBody 111 = .ok (.iconst 0, 1) := by decide +kernel
theorem dX6_readBody_112 : decode cX6_readBody 112 = .ok (.ireturn, 1) := by decide +kernel
theorem dX6_readBody_113 : decode cX6_readBody 113 = .ok (.aload_n 0, 1) := by decide +kernel
theorem dX6_readBody_114 : decode cX6_readBody 114 = .ok (.iconst 2, 1) := by decide +kernel
theorem dX6_readBody_115 : decode cX6_readBody 115 = .ok (.invokevirtual 106, 3) := by decide +kernel
theorem dX6_readBody_118 : decode cX6_readBody 118 = .ok (.ifCond .eq 38, 3) := by decide +kernel
theorem dX6_readBody_121 : decode cX6_readBody 121 = .ok (.aload_n 0, 1) := by decide +kernel
theorem dX6_readBody_122 : decode cX6_readBody 122 = .ok (.iconst 1, 1) := by decide +kernel
theorem dX6_readBody_123 : decode cX6_readBody 123 = .ok (.invokevirtual 106, 3) := by decide +kernel
theorem dX6_readBody_126 : decode cX6_readBody 126 = .ok (.ifCond .eq 30, 3) := by decide +kernel
theorem dX6_readBody_129 : decode cX6_readBody 129 = .ok (.aload_n 0, 1) := by decide +kernel
theorem dX6_readBody_130 : decode cX6_readBody 130 = .ok (.invokevirtual 113, 3) := by decide +kernel
theorem dX6_readBody_133 : decode cX6_readBody 133 = .ok (.ifCond .eq 23, 3) := by decide +kernel
theorem dX6_readBody_136 : decode cX6_readBody 136 = .ok (.aload_n 0, 1) := by decide +kernel
theorem dX6_readBody_137 : decode cX6_readBody 137 = .ok (.iconst 1, 1) := by decide +kernel
theorem dX6_readBody_138 : decode cX6_readBody 138 = .ok (.invokevirtual 106, 3) := by decide +kernel
theorem dX6_readBody_141 : decode cX6_readBody 141 = .ok (.ifCond .eq 15, 3) := by decide +kernel
theorem dX6_readBody_144 : decode cX6_readBody 144 = .ok (.aload_n 0, 1) := by decide +kernel
theorem dX6_readBody_145 : decode cX6_readBody 145 = .ok (.iconst 0, 1) := by decide +kernel
theorem dX6_readBody_146 : decode cX6_readBody 146 = .ok (.invokevirtual 106, 3) := by decide +kernel
theorem dX6_readBody_149 : decode cX6_readBody 149 = .ok (.ifCond .eq 7, 3) := by decide +kernel
theorem dX6_readBody_152 : decode cX6_readBody 152 = .ok (.iconst 1, 1) := by decide +kernel
theorem dX6_readBody_153 : decode cX6_readBody 153 = .ok (.goto 4, 3) := by decide +kernel
theorem dX6_readBody_156 : decode cX6_readBody 156 = .ok (.iconst 0, 1) := by decide +kernel
theorem dX6_readBody_157 : decode cX6_readBody 157 = .ok (.ireturn, 1) := by decide +kernel
abbrev mX6_readBody : MD := (cX6_readBody, "BlottedDeed$Scribe", 2, 8, 179, (some .boolean), "readBody", [])
def bX6_readBody_0 (g : GE) (J : Nat → KT) : KT := i_aload 1 (i_push (.ref (g.2.1 0)) (i_acmpne (i_aload 1 (i_push (.ref (g.2.1 1)) (i_acmpne (i_aload 1 (i_push (.ref (g.2.1 2)) (i_acmpne (i_aload 1 (i_push (.ref (g.2.1 3)) (i_acmpne (i_aload 0 (i_getf 6 5 (i_aload 1 (i_cv fX2_addPart g 1 2 (i_aload 1 (i_push (.ref (g.2.1 4)) (i_acmpne (i_aload 1 (i_push (.ref (g.2.1 5)) (i_acmpne (i_aload 0 (i_push (.int 2) (i_cv fX6_readPlace g 1 6 (i_ifeq (i_jmp [false, false] (J 5)) (i_aload 0 (i_push (.int 1) (i_cv fX6_readPlace g 1 6 (i_ifeq (i_jmp [false, false] (J 5)) (i_aload 0 (i_cv fX6_readThing g 0 6 (i_ifeq (i_jmp [false, false] (J 5)) (i_aload 0 (i_push (.int 1) (i_cv fX6_readPlace g 1 6 (i_ifeq (i_jmp [false, false] (J 5)) (i_aload 0 (i_push (.int 0) (i_cv fX6_readPlace g 1 6 (i_ifeq (i_jmp [false, false] (J 5)) (i_push (.int 1) (i_jmp [false, false] (J 6)))))))))))))))))))))) (i_aload 0 (i_cv fX6_readThing g 0 6 (i_ifeq (i_jmp [false, false] (J 3)) (i_aload 0 (i_push (.int 1) (i_cv fX6_readPlace g 1 6 (i_ifeq (i_jmp [false, false] (J 3)) (i_push (.int 1) (i_jmp [false, false] (J 4))))))))))))) (i_aload 0 (i_push (.int 1) (i_cv fX6_readPlace g 1 6 (i_ifeq (i_jmp [false, false] (J 1)) (i_aload 0 (i_push (.int 0) (i_cv fX6_readPlace g 1 6 (i_ifeq (i_jmp [false, false] (J 1)) (i_push (.int 1) (i_jmp [false, false] (J 2)))))))))))))))))) (i_aload 0 (i_cv fX6_readLeast g 0 6 (i_zreturn)))))) (i_aload 0 (i_cv fX6_readEstate g 0 6 (i_zreturn)))))) (i_aload 0 (i_cv fX6_readNewThing g 0 6 (i_zreturn)))))) (i_aload 0 (i_cv fX6_readNewHeir g 0 6 (i_zreturn)))))
def bX6_readBody_1 (g : GE) (J : Nat → KT) : KT := i_push (.int 0) (i_jmp [false, false] (J 2))
def bX6_readBody_2 (g : GE) (J : Nat → KT) : KT := i_zreturn
def bX6_readBody_3 (g : GE) (J : Nat → KT) : KT := i_push (.int 0) (i_jmp [false, false] (J 4))
def bX6_readBody_4 (g : GE) (J : Nat → KT) : KT := i_zreturn
def bX6_readBody_5 (g : GE) (J : Nat → KT) : KT := i_push (.int 0) (i_jmp [false, false] (J 6))
def bX6_readBody_6 (g : GE) (J : Nat → KT) : KT := i_zreturn
theorem sbX6_readBody_0 (g : GE) (J : Nat → KT) (h1 : Snd mX6_readBody g 83 (J 1)) (h2 : Snd mX6_readBody g 84 (J 2)) (h3 : Snd mX6_readBody g 111 (J 3)) (h4 : Snd mX6_readBody g 112 (J 4)) (h5 : Snd mX6_readBody g 156 (J 5)) (h6 : Snd mX6_readBody g 157 (J 6)) : Snd mX6_readBody g 0 (bX6_readBody_0 g J) := by
  unfold bX6_readBody_0
  refine s_aload_n (pc := 0) (i := 1) ?_ dX6_readBody_0 rfl
  refine s_gets (pc := 1) (i := 0) ?_ (by decide) wt_799 dX6_readBody_1
  refine s_acmpne (pc := 4) (tgt := 12) ?_ ?_ dX6_readBody_4 (by decide)
  · skip
    refine s_aload_n (pc := 12) (i := 1) ?_ dX6_readBody_12 rfl
    refine s_gets (pc := 13) (i := 1) ?_ (by decide) wt_824 dX6_readBody_13
    refine s_acmpne (pc := 16) (tgt := 24) ?_ ?_ dX6_readBody_16 (by decide)
    · skip
      refine s_aload_n (pc := 24) (i := 1) ?_ dX6_readBody_24 rfl
      refine s_gets (pc := 25) (i := 2) ?_ (by decide) wt_838 dX6_readBody_25
      refine s_acmpne (pc := 28) (tgt := 36) ?_ ?_ dX6_readBody_28 (by decide)
      · skip
        refine s_aload_n (pc := 36) (i := 1) ?_ dX6_readBody_36 rfl
        refine s_gets (pc := 37) (i := 3) ?_ (by decide) wt_844 dX6_readBody_37
        refine s_acmpne (pc := 40) (tgt := 48) ?_ ?_ dX6_readBody_40 (by decide)
        · skip
          refine s_aload_n (pc := 48) (i := 0) ?_ dX6_readBody_48 rfl
          refine s_getf (pc := 49) (ci := 6) (f := 5) (T := TX6) ?_ ginX6 rfl (by decide) wt_200 dX6_readBody_49
          refine s_aload_n (pc := 52) (i := 1) ?_ dX6_readBody_52 rfl
          refine s_cv (pc := 53) (n := 1) (ci := 2) ?_ tX2_addPart rfl rfl wt_854 wt_855 wt_856 wt_2 wt_857 ⟨crX2_addPart, by decide, by decide⟩ dX6_readBody_53
          refine s_aload_n (pc := 56) (i := 1) ?_ dX6_readBody_56 rfl
          refine s_gets (pc := 57) (i := 4) ?_ (by decide) wt_858 dX6_readBody_57
          refine s_acmpne (pc := 60) (tgt := 85) ?_ ?_ dX6_readBody_60 (by decide)
          · skip
            refine s_aload_n (pc := 85) (i := 1) ?_ dX6_readBody_85 rfl
            refine s_gets (pc := 86) (i := 5) ?_ (by decide) wt_894 dX6_readBody_86
            refine s_acmpne (pc := 89) (tgt := 113) ?_ ?_ dX6_readBody_89 (by decide)
            · skip
              refine s_aload_n (pc := 113) (i := 0) ?_ dX6_readBody_113 rfl
              refine s_iconst (pc := 114) (v := 2) ?_ dX6_readBody_114 (by decide)
              refine s_cv (pc := 115) (n := 1) (ci := 6) ?_ tX6_readPlace rfl rfl wt_859 wt_861 wp_25 wt_7 wt_862 ⟨crX6_readPlace, by decide, by decide⟩ dX6_readBody_115
              refine s_ifeq (pc := 118) (tgt := 156) ?_ ?_ dX6_readBody_118 (by decide)
              · skip
                exact s_fall (pc := 156) h5
              · skip
                refine s_aload_n (pc := 121) (i := 0) ?_ dX6_readBody_121 rfl
                refine s_iconst (pc := 122) (v := 1) ?_ dX6_readBody_122 (by decide)
                refine s_cv (pc := 123) (n := 1) (ci := 6) ?_ tX6_readPlace rfl rfl wt_859 wt_861 wp_25 wt_7 wt_862 ⟨crX6_readPlace, by decide, by decide⟩ dX6_readBody_123
                refine s_ifeq (pc := 126) (tgt := 156) ?_ ?_ dX6_readBody_126 (by decide)
                · skip
                  exact s_fall (pc := 156) h5
                · skip
                  refine s_aload_n (pc := 129) (i := 0) ?_ dX6_readBody_129 rfl
                  refine s_cv (pc := 130) (n := 0) (ci := 6) ?_ tX6_readThing rfl rfl wt_895 wt_897 wp_29 wt_7 wt_898 ⟨crX6_readThing, by decide, by decide⟩ dX6_readBody_130
                  refine s_ifeq (pc := 133) (tgt := 156) ?_ ?_ dX6_readBody_133 (by decide)
                  · skip
                    exact s_fall (pc := 156) h5
                  · skip
                    refine s_aload_n (pc := 136) (i := 0) ?_ dX6_readBody_136 rfl
                    refine s_iconst (pc := 137) (v := 1) ?_ dX6_readBody_137 (by decide)
                    refine s_cv (pc := 138) (n := 1) (ci := 6) ?_ tX6_readPlace rfl rfl wt_859 wt_861 wp_25 wt_7 wt_862 ⟨crX6_readPlace, by decide, by decide⟩ dX6_readBody_138
                    refine s_ifeq (pc := 141) (tgt := 156) ?_ ?_ dX6_readBody_141 (by decide)
                    · skip
                      exact s_fall (pc := 156) h5
                    · skip
                      refine s_aload_n (pc := 144) (i := 0) ?_ dX6_readBody_144 rfl
                      refine s_iconst (pc := 145) (v := 0) ?_ dX6_readBody_145 (by decide)
                      refine s_cv (pc := 146) (n := 1) (ci := 6) ?_ tX6_readPlace rfl rfl wt_859 wt_861 wp_25 wt_7 wt_862 ⟨crX6_readPlace, by decide, by decide⟩ dX6_readBody_146
                      refine s_ifeq (pc := 149) (tgt := 156) ?_ ?_ dX6_readBody_149 (by decide)
                      · skip
                        exact s_fall (pc := 156) h5
                      · skip
                        refine s_iconst (pc := 152) (v := 1) ?_ dX6_readBody_152 (by decide)
                        exact s_goto (pc := 153) (tgt := 157) h6 dX6_readBody_153 (by decide)
            · skip
              refine s_aload_n (pc := 92) (i := 0) ?_ dX6_readBody_92 rfl
              refine s_cv (pc := 93) (n := 0) (ci := 6) ?_ tX6_readThing rfl rfl wt_895 wt_897 wp_29 wt_7 wt_898 ⟨crX6_readThing, by decide, by decide⟩ dX6_readBody_93
              refine s_ifeq (pc := 96) (tgt := 111) ?_ ?_ dX6_readBody_96 (by decide)
              · skip
                exact s_fall (pc := 111) h3
              · skip
                refine s_aload_n (pc := 99) (i := 0) ?_ dX6_readBody_99 rfl
                refine s_iconst (pc := 100) (v := 1) ?_ dX6_readBody_100 (by decide)
                refine s_cv (pc := 101) (n := 1) (ci := 6) ?_ tX6_readPlace rfl rfl wt_859 wt_861 wp_25 wt_7 wt_862 ⟨crX6_readPlace, by decide, by decide⟩ dX6_readBody_101
                refine s_ifeq (pc := 104) (tgt := 111) ?_ ?_ dX6_readBody_104 (by decide)
                · skip
                  exact s_fall (pc := 111) h3
                · skip
                  refine s_iconst (pc := 107) (v := 1) ?_ dX6_readBody_107 (by decide)
                  exact s_goto (pc := 108) (tgt := 112) h4 dX6_readBody_108 (by decide)
          · skip
            refine s_aload_n (pc := 63) (i := 0) ?_ dX6_readBody_63 rfl
            refine s_iconst (pc := 64) (v := 1) ?_ dX6_readBody_64 (by decide)
            refine s_cv (pc := 65) (n := 1) (ci := 6) ?_ tX6_readPlace rfl rfl wt_859 wt_861 wp_25 wt_7 wt_862 ⟨crX6_readPlace, by decide, by decide⟩ dX6_readBody_65
            refine s_ifeq (pc := 68) (tgt := 83) ?_ ?_ dX6_readBody_68 (by decide)
            · skip
              exact s_fall (pc := 83) h1
            · skip
              refine s_aload_n (pc := 71) (i := 0) ?_ dX6_readBody_71 rfl
              refine s_iconst (pc := 72) (v := 0) ?_ dX6_readBody_72 (by decide)
              refine s_cv (pc := 73) (n := 1) (ci := 6) ?_ tX6_readPlace rfl rfl wt_859 wt_861 wp_25 wt_7 wt_862 ⟨crX6_readPlace, by decide, by decide⟩ dX6_readBody_73
              refine s_ifeq (pc := 76) (tgt := 83) ?_ ?_ dX6_readBody_76 (by decide)
              · skip
                exact s_fall (pc := 83) h1
              · skip
                refine s_iconst (pc := 79) (v := 1) ?_ dX6_readBody_79 (by decide)
                exact s_goto (pc := 80) (tgt := 84) h2 dX6_readBody_80 (by decide)
        · skip
          refine s_aload_n (pc := 43) (i := 0) ?_ dX6_readBody_43 rfl
          refine s_cv (pc := 44) (n := 0) (ci := 6) ?_ tX6_readLeast rfl rfl wt_846 wt_848 wp_23 wt_7 wt_849 ⟨crX6_readLeast, by decide, by decide⟩ dX6_readBody_44
          exact s_zreturn (pc := 47) rfl dX6_readBody_47
      · skip
        refine s_aload_n (pc := 31) (i := 0) ?_ dX6_readBody_31 rfl
        refine s_cv (pc := 32) (n := 0) (ci := 6) ?_ tX6_readEstate rfl rfl wt_840 wt_842 wp_22 wt_7 wt_843 ⟨crX6_readEstate, by decide, by decide⟩ dX6_readBody_32
        exact s_zreturn (pc := 35) rfl dX6_readBody_35
    · skip
      refine s_aload_n (pc := 19) (i := 0) ?_ dX6_readBody_19 rfl
      refine s_cv (pc := 20) (n := 0) (ci := 6) ?_ tX6_readNewThing rfl rfl wt_825 wt_827 wp_20 wt_7 wt_828 ⟨crX6_readNewThing, by decide, by decide⟩ dX6_readBody_20
      exact s_zreturn (pc := 23) rfl dX6_readBody_23
  · skip
    refine s_aload_n (pc := 7) (i := 0) ?_ dX6_readBody_7 rfl
    refine s_cv (pc := 8) (n := 0) (ci := 6) ?_ tX6_readNewHeir rfl rfl wt_800 wt_802 wp_17 wt_7 wt_803 ⟨crX6_readNewHeir, by decide, by decide⟩ dX6_readBody_8
    exact s_zreturn (pc := 11) rfl dX6_readBody_11
theorem sbX6_readBody_1 (g : GE) (J : Nat → KT) (h1 : Snd mX6_readBody g 83 (J 1)) (h2 : Snd mX6_readBody g 84 (J 2)) (h3 : Snd mX6_readBody g 111 (J 3)) (h4 : Snd mX6_readBody g 112 (J 4)) (h5 : Snd mX6_readBody g 156 (J 5)) (h6 : Snd mX6_readBody g 157 (J 6)) : Snd mX6_readBody g 83 (bX6_readBody_1 g J) := by
  unfold bX6_readBody_1
  refine s_iconst (pc := 83) (v := 0) ?_ dX6_readBody_83 (by decide)
  exact s_fall (pc := 84) h2
theorem sbX6_readBody_2 (g : GE) (J : Nat → KT) (h1 : Snd mX6_readBody g 83 (J 1)) (h2 : Snd mX6_readBody g 84 (J 2)) (h3 : Snd mX6_readBody g 111 (J 3)) (h4 : Snd mX6_readBody g 112 (J 4)) (h5 : Snd mX6_readBody g 156 (J 5)) (h6 : Snd mX6_readBody g 157 (J 6)) : Snd mX6_readBody g 84 (bX6_readBody_2 g J) := by
  unfold bX6_readBody_2
  exact s_zreturn (pc := 84) rfl dX6_readBody_84
theorem sbX6_readBody_3 (g : GE) (J : Nat → KT) (h1 : Snd mX6_readBody g 83 (J 1)) (h2 : Snd mX6_readBody g 84 (J 2)) (h3 : Snd mX6_readBody g 111 (J 3)) (h4 : Snd mX6_readBody g 112 (J 4)) (h5 : Snd mX6_readBody g 156 (J 5)) (h6 : Snd mX6_readBody g 157 (J 6)) : Snd mX6_readBody g 111 (bX6_readBody_3 g J) := by
  unfold bX6_readBody_3
  refine s_iconst (pc := 111) (v := 0) ?_ dX6_readBody_111 (by decide)
  exact s_fall (pc := 112) h4
theorem sbX6_readBody_4 (g : GE) (J : Nat → KT) (h1 : Snd mX6_readBody g 83 (J 1)) (h2 : Snd mX6_readBody g 84 (J 2)) (h3 : Snd mX6_readBody g 111 (J 3)) (h4 : Snd mX6_readBody g 112 (J 4)) (h5 : Snd mX6_readBody g 156 (J 5)) (h6 : Snd mX6_readBody g 157 (J 6)) : Snd mX6_readBody g 112 (bX6_readBody_4 g J) := by
  unfold bX6_readBody_4
  exact s_zreturn (pc := 112) rfl dX6_readBody_112
theorem sbX6_readBody_5 (g : GE) (J : Nat → KT) (h1 : Snd mX6_readBody g 83 (J 1)) (h2 : Snd mX6_readBody g 84 (J 2)) (h3 : Snd mX6_readBody g 111 (J 3)) (h4 : Snd mX6_readBody g 112 (J 4)) (h5 : Snd mX6_readBody g 156 (J 5)) (h6 : Snd mX6_readBody g 157 (J 6)) : Snd mX6_readBody g 156 (bX6_readBody_5 g J) := by
  unfold bX6_readBody_5
  refine s_iconst (pc := 156) (v := 0) ?_ dX6_readBody_156 (by decide)
  exact s_fall (pc := 157) h6
theorem sbX6_readBody_6 (g : GE) (J : Nat → KT) (h1 : Snd mX6_readBody g 83 (J 1)) (h2 : Snd mX6_readBody g 84 (J 2)) (h3 : Snd mX6_readBody g 111 (J 3)) (h4 : Snd mX6_readBody g 112 (J 4)) (h5 : Snd mX6_readBody g 156 (J 5)) (h6 : Snd mX6_readBody g 157 (J 6)) : Snd mX6_readBody g 157 (bX6_readBody_6 g J) := by
  unfold bX6_readBody_6
  exact s_zreturn (pc := 157) rfl dX6_readBody_157
def jX6_readBody (g : GE) : Nat → Nat → KT
  | 0, _ => fun _ _ _ => none
  | n + 1, 0 => bX6_readBody_0 g (jX6_readBody g n)
  | n + 1, 1 => bX6_readBody_1 g (jX6_readBody g n)
  | n + 1, 2 => bX6_readBody_2 g (jX6_readBody g n)
  | n + 1, 3 => bX6_readBody_3 g (jX6_readBody g n)
  | n + 1, 4 => bX6_readBody_4 g (jX6_readBody g n)
  | n + 1, 5 => bX6_readBody_5 g (jX6_readBody g n)
  | n + 1, 6 => bX6_readBody_6 g (jX6_readBody g n)
  | _ + 1, _ + 7 => fun _ _ _ => none
theorem sjX6_readBody (g : GE) : ∀ n, Snd mX6_readBody g 0 (jX6_readBody g n 0) ∧ Snd mX6_readBody g 83 (jX6_readBody g n 1) ∧ Snd mX6_readBody g 84 (jX6_readBody g n 2) ∧ Snd mX6_readBody g 111 (jX6_readBody g n 3) ∧ Snd mX6_readBody g 112 (jX6_readBody g n 4) ∧ Snd mX6_readBody g 156 (jX6_readBody g n 5) ∧ Snd mX6_readBody g 157 (jX6_readBody g n 6)
  | 0 => ⟨s_none, s_none, s_none, s_none, s_none, s_none, s_none⟩
  | n + 1 => by
    obtain ⟨-, h1, h2, h3, h4, h5, h6⟩ := sjX6_readBody g n
    exact ⟨sbX6_readBody_0 g _ h1 h2 h3 h4 h5 h6, sbX6_readBody_1 g _ h1 h2 h3 h4 h5 h6, sbX6_readBody_2 g _ h1 h2 h3 h4 h5 h6, sbX6_readBody_3 g _ h1 h2 h3 h4 h5 h6, sbX6_readBody_4 g _ h1 h2 h3 h4 h5 h6, sbX6_readBody_5 g _ h1 h2 h3 h4 h5 h6, sbX6_readBody_6 g _ h1 h2 h3 h4 h5 h6⟩
def kX6_readBody (g : GE) : KT := jX6_readBody g g.1 0
theorem sX6_readBody (g : GE) : Snd mX6_readBody g 0 (kX6_readBody g) := (sjX6_readBody g g.1).1
def fX6_readBody : FT := fun g av w => if (ent av).length ≤ 2 then kX6_readBody g [] (entp 2 av) w else none
theorem tX6_readBody : Mt yX6_readBody cX6_readBody 2 (some .boolean) 8 179 fX6_readBody := Mt.of (K := kX6_readBody) (by decide +kernel) (fun _ _ _ => rfl) sX6_readBody
theorem crX6_readBody : yX6_readBody.cls ≠ "java/lang/invoke/MethodHandle" ∧ yX6_readBody.cls ≠ "java/lang/invoke/VarHandle" ∧ (parseMethodDescriptor yX6_readBody.desc).map (fun d => d.parameters.length) = some 1 := by decide +kernel
theorem dX6_readEnd_0 : decode cX6_readEnd 0 = .ok (.aload_n 0, 1) := by decide +kernel
theorem dX6_readEnd_1 : decode cX6_readEnd 1 = .ok (.invokevirtual 31, 3) := by decide +kernel
theorem dX6_readEnd_4 : decode cX6_readEnd 4 = .ok (.aload_n 0, 1) := by decide +kernel
theorem dX6_readEnd_5 : decode cX6_readEnd 5 = .ok (.bipush 59, 2) := by decide +kernel
theorem dX6_readEnd_7 : decode cX6_readEnd 7 = .ok (.invokevirtual 116, 3) := by decide +kernel
theorem dX6_readEnd_10 : decode cX6_readEnd 10 = .ok (.ifCond .ne 13, 3) := by decide +kernel
theorem dX6_readEnd_13 : decode cX6_readEnd 13 = .ok (.aload_n 0, 1) := by decide +kernel
theorem dX6_readEnd_14 : decode cX6_readEnd 14 = .ok (.iconst 1, 1) := by decide +kernel
theorem dX6_readEnd_15 : decode cX6_readEnd 15 = .ok (.aload_n 0, 1) := by decide +kernel
theorem dX6_readEnd_16 : decode cX6_readEnd 16 = .ok (.getfield 28, 3) := by decide +kernel
theorem dX6_readEnd_19 : decode cX6_readEnd 19 = .ok (.invokevirtual 49, 3) := by decide +kernel
theorem dX6_readEnd_22 : decode cX6_readEnd 22 = .ok (.ireturn, 1) := by decide +kernel
theorem dX6_readEnd_23 : decode cX6_readEnd 23 = .ok (.aload_n 0, 1) := by decide +kernel
theorem dX6_readEnd_24 : decode cX6_readEnd 24 = .ok (.dup, 1) := by decide +kernel
theorem dX6_readEnd_25 : decode cX6_readEnd 25 = .ok (.getfield 28, 3) := by decide +kernel
theorem dX6_readEnd_28 : decode cX6_readEnd 28 = .ok (.iconst 1, 1) := by decide +kernel
theorem dX6_readEnd_29 : decode cX6_readEnd 29 = .ok (.iadd, 1) := by decide +kernel
theorem dX6_readEnd_30 : decode cX6_readEnd 30 = .ok (.putfield 28, 3) := by decide +kernel
theorem dX6_readEnd_33 : decode cX6_readEnd 33 = .ok (.iconst 1, 1) := by decide +kernel
theorem dX6_readEnd_34 : decode cX6_readEnd 34 = .ok (.ireturn, 1) := by decide +kernel
abbrev mX6_readEnd : MD := (cX6_readEnd, "BlottedDeed$Scribe", 1, 2, 52, (some .boolean), "readEnd", [])
def bX6_readEnd_0 (g : GE) (J : Nat → KT) : KT := i_aload 0 (i_cv fX6_skipBlanks g 0 6 (i_aload 0 (i_push (.int 59) (i_cv fX6_standsHere g 1 6 (i_ifne (i_aload 0 (i_dup (i_getf 6 2 (i_push (.int 1) (i_iadd (i_putf 6 2 .int (i_push (.int 1) (i_zreturn)))))))) (i_aload 0 (i_push (.int 1) (i_aload 0 (i_getf 6 2 (i_cv fX6_fail g 2 6 (i_zreturn)))))))))))
theorem sbX6_readEnd_0 (g : GE) (J : Nat → KT)  : Snd mX6_readEnd g 0 (bX6_readEnd_0 g J) := by
  unfold bX6_readEnd_0
  refine s_aload_n (pc := 0) (i := 0) ?_ dX6_readEnd_0 rfl
  refine s_cv (pc := 1) (n := 0) (ci := 6) ?_ tX6_skipBlanks rfl rfl wt_705 wt_707 wp_10 wt_7 wt_708 ⟨crX6_skipBlanks, by decide, by decide⟩ dX6_readEnd_1
  refine s_aload_n (pc := 4) (i := 0) ?_ dX6_readEnd_4 rfl
  refine s_bipush (pc := 5) (v := 59) ?_ dX6_readEnd_5 (by decide)
  refine s_cv (pc := 7) (n := 1) (ci := 6) ?_ tX6_standsHere rfl rfl wt_863 wt_865 wp_26 wt_7 wt_866 ⟨crX6_standsHere, by decide, by decide⟩ dX6_readEnd_7
  refine s_ifne (pc := 10) (tgt := 23) ?_ ?_ dX6_readEnd_10 (by decide)
  · skip
    refine s_aload_n (pc := 23) (i := 0) ?_ dX6_readEnd_23 rfl
    refine s_dup (pc := 24) ?_ dX6_readEnd_24
    refine s_getf (pc := 25) (ci := 6) (f := 2) (T := TX6) ?_ ginX6 rfl (by decide) wt_197 dX6_readEnd_25
    refine s_iconst (pc := 28) (v := 1) ?_ dX6_readEnd_28 (by decide)
    refine s_iadd (pc := 29) ?_ dX6_readEnd_29
    refine s_putf (pc := 30) (ci := 6) (f := 2) (T := TX6) (ty0 := tyX6) ?_ ginX6 tyX6_ok nmX6 rfl (by decide) rfl rfl wt_197 dX6_readEnd_30
    refine s_iconst (pc := 33) (v := 1) ?_ dX6_readEnd_33 (by decide)
    exact s_zreturn (pc := 34) rfl dX6_readEnd_34
  · skip
    refine s_aload_n (pc := 13) (i := 0) ?_ dX6_readEnd_13 rfl
    refine s_iconst (pc := 14) (v := 1) ?_ dX6_readEnd_14 (by decide)
    refine s_aload_n (pc := 15) (i := 0) ?_ dX6_readEnd_15 rfl
    refine s_getf (pc := 16) (ci := 6) (f := 2) (T := TX6) ?_ ginX6 rfl (by decide) wt_197 dX6_readEnd_16
    refine s_cv (pc := 19) (n := 2) (ci := 6) ?_ tX6_fail rfl rfl wt_718 wt_720 wp_13 wt_7 wt_721 ⟨crX6_fail, by decide, by decide⟩ dX6_readEnd_19
    exact s_zreturn (pc := 22) rfl dX6_readEnd_22
def kX6_readEnd (g : GE) : KT := bX6_readEnd_0 g (fun _ _ _ _ => none)
theorem sX6_readEnd (g : GE) : Snd mX6_readEnd g 0 (kX6_readEnd g) := sbX6_readEnd_0 g _
def fX6_readEnd : FT := fun g av w => if (ent av).length ≤ 1 then kX6_readEnd g [] (entp 1 av) w else none
theorem tX6_readEnd : Mt yX6_readEnd cX6_readEnd 1 (some .boolean) 2 52 fX6_readEnd := Mt.of (K := kX6_readEnd) (by decide +kernel) (fun _ _ _ => rfl) sX6_readEnd
theorem crX6_readEnd : yX6_readEnd.cls ≠ "java/lang/invoke/MethodHandle" ∧ yX6_readEnd.cls ≠ "java/lang/invoke/VarHandle" ∧ (parseMethodDescriptor yX6_readEnd.desc).map (fun d => d.parameters.length) = some 0 := by decide +kernel
theorem dX2_countRows_0 : decode cX2_countRows 0 = .ok (.lconst 1, 1) := by decide +kernel
theorem dX2_countRows_1 : decode cX2_countRows 1 = .ok (.lstore_n 1, 1) := by decide +kernel
theorem dX2_countRows_2 : decode cX2_countRows 2 = .ok (.iconst 0, 1) := by decide +kernel
theorem dX2_countRows_3 : decode cX2_countRows 3 = .ok (.istore_n 3, 1) := by decide +kernel
theorem dX2_countRows_4 : decode cX2_countRows 4 = .ok (.iload_n 3, 1) := by decide +kernel
theorem dX2_countRows_5 : decode cX2_countRows 5 = .ok (.aload_n 0, 1) := by decide +kernel
theorem dX2_countRows_6 : decode cX2_countRows 6 = .ok (.getfield 64, 3) := by decide +kernel
theorem dX2_countRows_9 : decode cX2_countRows 9 = .ok (.if_icmp .ge 22, 3) := by decide +kernel
theorem dX2_countRows_12 : decode cX2_countRows 12 = .ok (.lload_n 1, 1) := by decide +kernel
theorem dX2_countRows_13 : decode cX2_countRows 13 = .ok (.aload_n 0, 1) := by decide +kernel
theorem dX2_countRows_14 : decode cX2_countRows 14 = .ok (.getfield 42, 3) := by decide +kernel
theorem dX2_countRows_17 : decode cX2_countRows 17 = .ok (.iload_n 3, 1) := by decide +kernel
theorem dX2_countRows_18 : decode cX2_countRows 18 = .ok (.aaload, 1) := by decide +kernel
theorem dX2_countRows_19 : decode cX2_countRows 19 = .ok (.getfield 98, 3) := by decide +kernel
theorem dX2_countRows_22 : decode cX2_countRows 22 = .ok (.i2l, 1) := by decide +kernel
theorem dX2_countRows_23 : decode cX2_countRows 23 = .ok (.lmul, 1) := by decide +kernel
theorem dX2_countRows_24 : decode cX2_countRows 24 = .ok (.lstore_n 1, 1) := by decide +kernel
theorem dX2_countRows_25 : decode cX2_countRows 25 = .ok (.iinc 3 1, 3) := by decide +kernel
theorem dX2_countRows_28 : decode cX2_countRows 28 = .ok (.goto (-24), 3) := by decide +kernel
theorem dX2_countRows_31 : decode cX2_countRows 31 = .ok (.aload_n 0, 1) := by decide +kernel
theorem dX2_countRows_32 : decode cX2_countRows 32 = .ok (.lload_n 1, 1) := by decide +kernel
theorem dX2_countRows_33 : decode cX2_countRows 33 = .ok (.ldc2_w 115, 3) := by decide +kernel
theorem dX2_countRows_36 : decode cX2_countRows 36 = .ok (.lcmp, 1) := by decide +kernel
theorem dX2_countRows_37 : decode cX2_countRows 37 = .ok (.ifCond .gt 8, 3) := by decide +kernel
theorem dX2_countRows_40 : decode cX2_countRows 40 = .ok (.lload_n 1, 1) := by decide +kernel
theorem dX2_countRows_41 : decode cX2_countRows 41 = .ok (.l2i, 1) := by decide +kernel
theorem dX2_countRows_42 : decode cX2_countRows 42 = .ok (.goto 4, 3) := by decide +kernel
theorem dX2_countRows_45 : decode cX2_countRows 45 = .ok (.iconst 0, 1) := by decide +kernel
theorem dX2_countRows_46 : decode cX2_countRows 46 = .ok (.putfield 46, 3) := by decide +kernel
theorem dX2_countRows_49 : decode cX2_countRows 49 = .ok (.lload_n 1, 1) := by decide +kernel
theorem dX2_countRows_50 : decode cX2_countRows 50 = .ok (.ldc2_w 115, 3) := by decide +kernel
theorem dX2_countRows_53 : decode cX2_countRows 53 = .ok (.lcmp, 1) := by decide +kernel
theorem dX2_countRows_54 : decode cX2_countRows 54 = .ok (.ifCond .gt 7, 3) := by decide +kernel
theorem dX2_countRows_57 : decode cX2_countRows 57 = .ok (.iconst 1, 1) := by decide +kernel
theorem dX2_countRows_58 : decode cX2_countRows 58 = .ok (.goto 4, 3) := by decide +kernel
theorem dX2_countRows_61 : decode cX2_countRows 61 = .ok (.iconst 0, 1) := by decide +kernel
theorem dX2_countRows_62 : decode cX2_countRows 62 = .ok (.ireturn, 1) := by decide +kernel
abbrev mX2_countRows : MD := (cX2_countRows, "BlottedDeed$Deed", 4, 1, 30, (some .boolean), "countRows", [])
def bX2_countRows_0 (g : GE) (J : Nat → KT) : KT := i_push (.long 1) (i_lstore 1 (i_push (.int 0) (i_istore 3 (i_jmp [true, true, false, true] (J 1)))))
def bX2_countRows_1 (g : GE) (J : Nat → KT) : KT := i_iload 3 (i_aload 0 (i_getf 2 13 (i_icge (i_aload 0 (i_lload 1 (i_push (.long 20000) (i_lcmp (i_ifgt (i_push (.int 0) (i_jmp [false, true, false, false] (J 2))) (i_lload 1 (i_l2i (i_jmp [false, true, false, false] (J 2))))))))) (i_lload 1 (i_aload 0 (i_getf 2 8 (i_iload 3 (i_aaload 6 (i_getf 1 1 (i_i2l (i_lmul (i_lstore 1 (i_iinc 3 1 (i_jmp [true, true, false, true] (J 1)))))))))))))))
def bX2_countRows_2 (g : GE) (J : Nat → KT) : KT := i_putf 2 15 .int (i_lload 1 (i_push (.long 20000) (i_lcmp (i_ifgt (i_push (.int 0) (i_jmp [false, false, false, false] (J 3))) (i_push (.int 1) (i_jmp [false, false, false, false] (J 3)))))))
def bX2_countRows_3 (g : GE) (J : Nat → KT) : KT := i_zreturn
theorem sbX2_countRows_0 (g : GE) (J : Nat → KT) (h1 : Snd mX2_countRows g 4 (J 1)) (h2 : Snd mX2_countRows g 46 (J 2)) (h3 : Snd mX2_countRows g 62 (J 3)) : Snd mX2_countRows g 0 (bX2_countRows_0 g J) := by
  unfold bX2_countRows_0
  refine s_lconst (pc := 0) (v := 1) ?_ dX2_countRows_0 (by decide)
  refine s_lstore_n (pc := 1) (i := 1) ?_ dX2_countRows_1 rfl (by decide)
  refine s_iconst (pc := 2) (v := 0) ?_ dX2_countRows_2 (by decide)
  refine s_istore_n (pc := 3) (i := 3) ?_ dX2_countRows_3 rfl (by decide)
  exact s_fall (pc := 4) h1
theorem sbX2_countRows_1 (g : GE) (J : Nat → KT) (h1 : Snd mX2_countRows g 4 (J 1)) (h2 : Snd mX2_countRows g 46 (J 2)) (h3 : Snd mX2_countRows g 62 (J 3)) : Snd mX2_countRows g 4 (bX2_countRows_1 g J) := by
  unfold bX2_countRows_1
  refine s_iload_n (pc := 4) (i := 3) ?_ dX2_countRows_4 rfl
  refine s_aload_n (pc := 5) (i := 0) ?_ dX2_countRows_5 rfl
  refine s_getf (pc := 6) (ci := 2) (f := 13) (T := TX2) ?_ ginX2 rfl (by decide) wt_143 dX2_countRows_6
  refine s_icge (pc := 9) (tgt := 31) ?_ ?_ dX2_countRows_9 (by decide)
  · skip
    refine s_aload_n (pc := 31) (i := 0) ?_ dX2_countRows_31 rfl
    refine s_lload_n (pc := 32) (i := 1) ?_ dX2_countRows_32 rfl
    refine s_ldc2 (pc := 33) (v := 20000) ?_ wt_911 dX2_countRows_33
    refine s_lcmp (pc := 36) ?_ dX2_countRows_36
    refine s_ifgt (pc := 37) (tgt := 45) ?_ ?_ dX2_countRows_37 (by decide)
    · skip
      refine s_iconst (pc := 45) (v := 0) ?_ dX2_countRows_45 (by decide)
      exact s_fall (pc := 46) h2
    · skip
      refine s_lload_n (pc := 40) (i := 1) ?_ dX2_countRows_40 rfl
      refine s_l2i (pc := 41) ?_ dX2_countRows_41
      exact s_goto (pc := 42) (tgt := 46) h2 dX2_countRows_42 (by decide)
  · skip
    refine s_lload_n (pc := 12) (i := 1) ?_ dX2_countRows_12 rfl
    refine s_aload_n (pc := 13) (i := 0) ?_ dX2_countRows_13 rfl
    refine s_getf (pc := 14) (ci := 2) (f := 8) (T := TX2) ?_ ginX2 rfl (by decide) wt_124 dX2_countRows_14
    refine s_iload_n (pc := 17) (i := 3) ?_ dX2_countRows_17 rfl
    refine s_aaload (pc := 18) (t := 6) ?_ (by decide) rfl dX2_countRows_18
    refine s_getf (pc := 19) (ci := 1) (f := 1) (T := TX1) ?_ ginX1 rfl (by decide) wt_86 dX2_countRows_19
    refine s_i2l (pc := 22) ?_ dX2_countRows_22
    refine s_lmul (pc := 23) ?_ dX2_countRows_23
    refine s_lstore_n (pc := 24) (i := 1) ?_ dX2_countRows_24 rfl (by decide)
    refine s_iinc (pc := 25) (i := 3) (v := 1) ?_ dX2_countRows_25 (by decide) (by decide)
    exact s_goto (pc := 28) (tgt := 4) h1 dX2_countRows_28 (by decide)
theorem sbX2_countRows_2 (g : GE) (J : Nat → KT) (h1 : Snd mX2_countRows g 4 (J 1)) (h2 : Snd mX2_countRows g 46 (J 2)) (h3 : Snd mX2_countRows g 62 (J 3)) : Snd mX2_countRows g 46 (bX2_countRows_2 g J) := by
  unfold bX2_countRows_2
  refine s_putf (pc := 46) (ci := 2) (f := 15) (T := TX2) (ty0 := tyX2) ?_ ginX2 tyX2_ok nmX2 rfl (by decide) rfl rfl wt_153 dX2_countRows_46
  refine s_lload_n (pc := 49) (i := 1) ?_ dX2_countRows_49 rfl
  refine s_ldc2 (pc := 50) (v := 20000) ?_ wt_911 dX2_countRows_50
  refine s_lcmp (pc := 53) ?_ dX2_countRows_53
  refine s_ifgt (pc := 54) (tgt := 61) ?_ ?_ dX2_countRows_54 (by decide)
  · skip
    refine s_iconst (pc := 61) (v := 0) ?_ dX2_countRows_61 (by decide)
    exact s_fall (pc := 62) h3
  · skip
    refine s_iconst (pc := 57) (v := 1) ?_ dX2_countRows_57 (by decide)
    exact s_goto (pc := 58) (tgt := 62) h3 dX2_countRows_58 (by decide)
theorem sbX2_countRows_3 (g : GE) (J : Nat → KT) (h1 : Snd mX2_countRows g 4 (J 1)) (h2 : Snd mX2_countRows g 46 (J 2)) (h3 : Snd mX2_countRows g 62 (J 3)) : Snd mX2_countRows g 62 (bX2_countRows_3 g J) := by
  unfold bX2_countRows_3
  exact s_zreturn (pc := 62) rfl dX2_countRows_62
def jX2_countRows (g : GE) : Nat → Nat → KT
  | 0, _ => fun _ _ _ => none
  | n + 1, 0 => bX2_countRows_0 g (jX2_countRows g n)
  | n + 1, 1 => bX2_countRows_1 g (jX2_countRows g n)
  | n + 1, 2 => bX2_countRows_2 g (jX2_countRows g n)
  | n + 1, 3 => bX2_countRows_3 g (jX2_countRows g n)
  | _ + 1, _ + 4 => fun _ _ _ => none
theorem sjX2_countRows (g : GE) : ∀ n, Snd mX2_countRows g 0 (jX2_countRows g n 0) ∧ Snd mX2_countRows g 4 (jX2_countRows g n 1) ∧ Snd mX2_countRows g 46 (jX2_countRows g n 2) ∧ Snd mX2_countRows g 62 (jX2_countRows g n 3)
  | 0 => ⟨s_none, s_none, s_none, s_none⟩
  | n + 1 => by
    obtain ⟨-, h1, h2, h3⟩ := sjX2_countRows g n
    exact ⟨sbX2_countRows_0 g _ h1 h2 h3, sbX2_countRows_1 g _ h1 h2 h3, sbX2_countRows_2 g _ h1 h2 h3, sbX2_countRows_3 g _ h1 h2 h3⟩
def kX2_countRows (g : GE) : KT := jX2_countRows g g.1 0
theorem sX2_countRows (g : GE) : Snd mX2_countRows g 0 (kX2_countRows g) := (sjX2_countRows g g.1).1
def fX2_countRows : FT := fun g av w => if (ent av).length ≤ 4 then kX2_countRows g [] (entp 4 av) w else none
theorem tX2_countRows : Mt yX2_countRows cX2_countRows 4 (some .boolean) 1 30 fX2_countRows := Mt.of (K := kX2_countRows) (by decide +kernel) (fun _ _ _ => rfl) sX2_countRows
theorem crX2_countRows : yX2_countRows.cls ≠ "java/lang/invoke/MethodHandle" ∧ yX2_countRows.cls ≠ "java/lang/invoke/VarHandle" ∧ (parseMethodDescriptor yX2_countRows.desc).map (fun d => d.parameters.length) = some 0 := by decide +kernel
theorem dX6_copyOut_0 : decode cX6_copyOut 0 = .ok (.aload_n 0, 1) := by decide +kernel
theorem dX6_copyOut_1 : decode cX6_copyOut 1 = .ok (.aload_n 1, 1) := by decide +kernel
theorem dX6_copyOut_2 : decode cX6_copyOut 2 = .ok (.putfield 15, 3) := by decide +kernel
theorem dX6_copyOut_5 : decode cX6_copyOut 5 = .ok (.aload_n 0, 1) := by decide +kernel
theorem dX6_copyOut_6 : decode cX6_copyOut 6 = .ok (.getfield 15, 3) := by decide +kernel
theorem dX6_copyOut_9 : decode cX6_copyOut 9 = .ok (.invokevirtual 19, 3) := by decide +kernel
theorem dX6_copyOut_12 : decode cX6_copyOut 12 = .ok (.aload_n 0, 1) := by decide +kernel
theorem dX6_copyOut_13 : decode cX6_copyOut 13 = .ok (.iload_n 2, 1) := by decide +kernel
theorem dX6_copyOut_14 : decode cX6_copyOut 14 = .ok (.putfield 24, 3) := by decide +kernel
theorem dX6_copyOut_17 : decode cX6_copyOut 17 = .ok (.aload_n 0, 1) := by decide +kernel
theorem dX6_copyOut_18 : decode cX6_copyOut 18 = .ok (.iconst 0, 1) := by decide +kernel
theorem dX6_copyOut_19 : decode cX6_copyOut 19 = .ok (.putfield 28, 3) := by decide +kernel
theorem dX6_copyOut_22 : decode cX6_copyOut 22 = .ok (.iconst 0, 1) := by decide +kernel
theorem dX6_copyOut_23 : decode cX6_copyOut 23 = .ok (.istore_n 3, 1) := by decide +kernel
theorem dX6_copyOut_24 : decode cX6_copyOut 24 = .ok (.iload_n 3, 1) := by decide +kernel
theorem dX6_copyOut_25 : decode cX6_copyOut 25 = .ok (.bipush 40, 2) := by decide +kernel
theorem dX6_copyOut_27 : decode cX6_copyOut 27 = .ok (.if_icmp .gt 57, 3) := by decide +kernel
theorem dX6_copyOut_30 : decode cX6_copyOut 30 = .ok (.aload_n 0, 1) := by decide +kernel
theorem dX6_copyOut_31 : decode cX6_copyOut 31 = .ok (.invokevirtual 31, 3) := by decide +kernel
theorem dX6_copyOut_34 : decode cX6_copyOut 34 = .ok (.aload_n 0, 1) := by decide +kernel
theorem dX6_copyOut_35 : decode cX6_copyOut 35 = .ok (.getfield 28, 3) := by decide +kernel
theorem dX6_copyOut_38 : decode cX6_copyOut 38 = .ok (.aload_n 0, 1) := by decide +kernel
theorem dX6_copyOut_39 : decode cX6_copyOut 39 = .ok (.getfield 24, 3) := by decide +kernel
theorem dX6_copyOut_42 : decode cX6_copyOut 42 = .ok (.if_icmp .lt 6, 3) := by decide +kernel
theorem dX6_copyOut_45 : decode cX6_copyOut 45 = .ok (.goto 39, 3) := by decide +kernel
theorem dX6_copyOut_48 : decode cX6_copyOut 48 = .ok (.aload_n 0, 1) := by decide +kernel
theorem dX6_copyOut_49 : decode cX6_copyOut 49 = .ok (.iload_n 3, 1) := by decide +kernel
theorem dX6_copyOut_50 : decode cX6_copyOut 50 = .ok (.invokevirtual 34, 3) := by decide +kernel
theorem dX6_copyOut_53 : decode cX6_copyOut 53 = .ok (.astore 4, 2) := by decide +kernel
theorem dX6_copyOut_55 : decode cX6_copyOut 55 = .ok (.aload 4, 2) := by decide +kernel
theorem dX6_copyOut_57 : decode cX6_copyOut 57 = .ok (.ifnull 19, 3) := by decide +kernel
theorem dX6_copyOut_60 : decode cX6_copyOut 60 = .ok (.aload_n 0, 1) := by decide +kernel
theorem dX6_copyOut_61 : decode cX6_copyOut 61 = .ok (.aload 4, 2) := by decide +kernel
theorem dX6_copyOut_63 : decode cX6_copyOut 63 = .ok (.invokevirtual 38, 3) := by decide +kernel
theorem dX6_copyOut_66 : decode cX6_copyOut 66 = .ok (.ifCond .eq 10, 3) := by decide +kernel
theorem dX6_copyOut_69 : decode cX6_copyOut 69 = .ok (.aload_n 0, 1) := by decide +kernel
theorem dX6_copyOut_70 : decode cX6_copyOut 70 = .ok (.invokevirtual 42, 3) := by decide +kernel
theorem dX6_copyOut_73 : decode cX6_copyOut 73 = .ok (.ifCond .ne 5, 3) := by decide +kernel
theorem dX6_copyOut_76 : decode cX6_copyOut 76 = .ok (.iconst 0, 1) := by decide +kernel
theorem dX6_copyOut_77 : decode cX6_copyOut 77 = .ok (.ireturn, 1) := by decide +kernel
theorem dX6_copyOut_78 : decode cX6_copyOut 78 = .ok (.iinc 3 1, 3) := by decide +kernel
theorem dX6_copyOut_81 : decode cX6_copyOut 81 = .ok (.goto (-57), 3) := by decide +kernel
theorem dX6_copyOut_84 : decode cX6_copyOut 84 = .ok (.aload_n 0, 1) := by decide +kernel
theorem dX6_copyOut_85 : decode cX6_copyOut 85 = .ok (.getfield 15, 3) := by decide +kernel
theorem dX6_copyOut_88 : decode cX6_copyOut 88 = .ok (.invokevirtual 46, 3) := by decide +kernel
theorem dX6_copyOut_91 : decode cX6_copyOut 91 = .ok (.ifCond .ne 15, 3) := by decide +kernel
theorem dX6_copyOut_94 : decode cX6_copyOut 94 = .ok (.aload_n 0, 1) := by decide +kernel
theorem dX6_copyOut_95 : decode cX6_copyOut 95 = .ok (.iconst 4, 1) := by decide +kernel
theorem dX6_copyOut_96 : decode cX6_copyOut 96 = .ok (.aload_n 0, 1) := by decide +kernel
theorem dX6_copyOut_97 : decode cX6_copyOut 97 = .ok (.getfield 24, 3) := by decide +kernel
theorem dX6_copyOut_100 : decode cX6_copyOut 100 = .ok (.invokevirtual 49, 3) := by decide +kernel
theorem dX6_copyOut_103 : decode cX6_copyOut 103 = .ok (.ifCond .eq 7, 3) := by decide +kernel
theorem dX6_copyOut_106 : decode cX6_copyOut 106 = .ok (.iconst 1, 1) := by decide +kernel
theorem dX6_copyOut_107 : decode cX6_copyOut 107 = .ok (.goto 4, 3) := by decide +kernel
theorem dX6_copyOut_110 : decode cX6_copyOut 110 = .ok (.iconst 0, 1) := by decide +kernel
theorem dX6_copyOut_111 : decode cX6_copyOut 111 = .ok (.ireturn, 1) := by decide +kernel
abbrev mX6_copyOut : MD := (cX6_copyOut, "BlottedDeed$Scribe", 5, 9, 200, (some .boolean), "copyOut", [])
def bX6_copyOut_0 (g : GE) (J : Nat → KT) : KT := i_aload 0 (i_aload 1 (i_putf 6 5 (.object "BlottedDeed$Deed") (i_aload 0 (i_getf 6 5 (i_cv fX2_clear g 0 2 (i_aload 0 (i_iload 2 (i_putf 6 1 .int (i_aload 0 (i_push (.int 0) (i_putf 6 2 .int (i_push (.int 0) (i_istore 3 (i_jmp [true, false, false, true, false] (J 1)))))))))))))))
def bX6_copyOut_1 (g : GE) (J : Nat → KT) : KT := i_iload 3 (i_push (.int 40) (i_icgt (i_jmp [true, false, false, false, false] (J 3)) (i_aload 0 (i_cv fX6_skipBlanks g 0 6 (i_aload 0 (i_getf 6 2 (i_aload 0 (i_getf 6 1 (i_iclt (i_aload 0 (i_iload 3 (i_cv fX6_readVerb g 1 6 (i_astore 4 (i_aload 4 (i_ifnull (i_jmp [false, false, false, false, false] (J 2)) (i_aload 0 (i_aload 4 (i_cv fX6_readBody g 1 6 (i_ifeq (i_jmp [false, false, false, false, false] (J 2)) (i_aload 0 (i_cv fX6_readEnd g 0 6 (i_ifne (i_iinc 3 1 (i_jmp [true, false, false, true, false] (J 1))) (i_jmp [false, false, false, false, false] (J 2))))))))))))))) (i_jmp [true, false, false, false, false] (J 3)))))))))))
def bX6_copyOut_2 (g : GE) (J : Nat → KT) : KT := i_push (.int 0) (i_zreturn)
def bX6_copyOut_3 (g : GE) (J : Nat → KT) : KT := i_aload 0 (i_getf 6 5 (i_cv fX2_countRows g 0 2 (i_ifne (i_jmp [false, false, false, false, false] (J 4)) (i_aload 0 (i_push (.int 4) (i_aload 0 (i_getf 6 1 (i_cv fX6_fail g 2 6 (i_ifeq (i_push (.int 0) (i_jmp [false, false, false, false, false] (J 5))) (i_jmp [false, false, false, false, false] (J 4)))))))))))
def bX6_copyOut_4 (g : GE) (J : Nat → KT) : KT := i_push (.int 1) (i_jmp [false, false, false, false, false] (J 5))
def bX6_copyOut_5 (g : GE) (J : Nat → KT) : KT := i_zreturn
theorem sbX6_copyOut_0 (g : GE) (J : Nat → KT) (h1 : Snd mX6_copyOut g 24 (J 1)) (h2 : Snd mX6_copyOut g 76 (J 2)) (h3 : Snd mX6_copyOut g 84 (J 3)) (h4 : Snd mX6_copyOut g 106 (J 4)) (h5 : Snd mX6_copyOut g 111 (J 5)) : Snd mX6_copyOut g 0 (bX6_copyOut_0 g J) := by
  unfold bX6_copyOut_0
  refine s_aload_n (pc := 0) (i := 0) ?_ dX6_copyOut_0 rfl
  refine s_aload_n (pc := 1) (i := 1) ?_ dX6_copyOut_1 rfl
  refine s_putf (pc := 2) (ci := 6) (f := 5) (T := TX6) (ty0 := tyX6) ?_ ginX6 tyX6_ok nmX6 rfl (by decide) rfl rfl wt_200 dX6_copyOut_2
  refine s_aload_n (pc := 5) (i := 0) ?_ dX6_copyOut_5 rfl
  refine s_getf (pc := 6) (ci := 6) (f := 5) (T := TX6) ?_ ginX6 rfl (by decide) wt_200 dX6_copyOut_6
  refine s_cv (pc := 9) (n := 0) (ci := 2) ?_ tX2_clear rfl rfl wt_701 wt_702 wt_703 wt_2 wt_704 ⟨crX2_clear, by decide, by decide⟩ dX6_copyOut_9
  refine s_aload_n (pc := 12) (i := 0) ?_ dX6_copyOut_12 rfl
  refine s_iload_n (pc := 13) (i := 2) ?_ dX6_copyOut_13 rfl
  refine s_putf (pc := 14) (ci := 6) (f := 1) (T := TX6) (ty0 := tyX6) ?_ ginX6 tyX6_ok nmX6 rfl (by decide) rfl rfl wt_196 dX6_copyOut_14
  refine s_aload_n (pc := 17) (i := 0) ?_ dX6_copyOut_17 rfl
  refine s_iconst (pc := 18) (v := 0) ?_ dX6_copyOut_18 (by decide)
  refine s_putf (pc := 19) (ci := 6) (f := 2) (T := TX6) (ty0 := tyX6) ?_ ginX6 tyX6_ok nmX6 rfl (by decide) rfl rfl wt_197 dX6_copyOut_19
  refine s_iconst (pc := 22) (v := 0) ?_ dX6_copyOut_22 (by decide)
  refine s_istore_n (pc := 23) (i := 3) ?_ dX6_copyOut_23 rfl (by decide)
  exact s_fall (pc := 24) h1
theorem sbX6_copyOut_1 (g : GE) (J : Nat → KT) (h1 : Snd mX6_copyOut g 24 (J 1)) (h2 : Snd mX6_copyOut g 76 (J 2)) (h3 : Snd mX6_copyOut g 84 (J 3)) (h4 : Snd mX6_copyOut g 106 (J 4)) (h5 : Snd mX6_copyOut g 111 (J 5)) : Snd mX6_copyOut g 24 (bX6_copyOut_1 g J) := by
  unfold bX6_copyOut_1
  refine s_iload_n (pc := 24) (i := 3) ?_ dX6_copyOut_24 rfl
  refine s_bipush (pc := 25) (v := 40) ?_ dX6_copyOut_25 (by decide)
  refine s_icgt (pc := 27) (tgt := 84) ?_ ?_ dX6_copyOut_27 (by decide)
  · skip
    exact s_fall (pc := 84) h3
  · skip
    refine s_aload_n (pc := 30) (i := 0) ?_ dX6_copyOut_30 rfl
    refine s_cv (pc := 31) (n := 0) (ci := 6) ?_ tX6_skipBlanks rfl rfl wt_705 wt_707 wp_10 wt_7 wt_708 ⟨crX6_skipBlanks, by decide, by decide⟩ dX6_copyOut_31
    refine s_aload_n (pc := 34) (i := 0) ?_ dX6_copyOut_34 rfl
    refine s_getf (pc := 35) (ci := 6) (f := 2) (T := TX6) ?_ ginX6 rfl (by decide) wt_197 dX6_copyOut_35
    refine s_aload_n (pc := 38) (i := 0) ?_ dX6_copyOut_38 rfl
    refine s_getf (pc := 39) (ci := 6) (f := 1) (T := TX6) ?_ ginX6 rfl (by decide) wt_196 dX6_copyOut_39
    refine s_iclt (pc := 42) (tgt := 48) ?_ ?_ dX6_copyOut_42 (by decide)
    · skip
      refine s_aload_n (pc := 48) (i := 0) ?_ dX6_copyOut_48 rfl
      refine s_iload_n (pc := 49) (i := 3) ?_ dX6_copyOut_49 rfl
      refine s_cv (pc := 50) (n := 1) (ci := 6) ?_ tX6_readVerb rfl rfl wt_709 wt_711 wp_11 wt_7 wt_712 ⟨crX6_readVerb, by decide, by decide⟩ dX6_copyOut_50
      refine s_astore (pc := 53) (i := 4) ?_ dX6_copyOut_53 (by decide)
      refine s_aload (pc := 55) (i := 4) ?_ dX6_copyOut_55
      refine s_ifnull (pc := 57) (tgt := 76) ?_ ?_ dX6_copyOut_57 (by decide)
      · skip
        exact s_fall (pc := 76) h2
      · skip
        refine s_aload_n (pc := 60) (i := 0) ?_ dX6_copyOut_60 rfl
        refine s_aload (pc := 61) (i := 4) ?_ dX6_copyOut_61
        refine s_cv (pc := 63) (n := 1) (ci := 6) ?_ tX6_readBody rfl rfl wt_795 wt_797 wp_16 wt_7 wt_798 ⟨crX6_readBody, by decide, by decide⟩ dX6_copyOut_63
        refine s_ifeq (pc := 66) (tgt := 76) ?_ ?_ dX6_copyOut_66 (by decide)
        · skip
          exact s_fall (pc := 76) h2
        · skip
          refine s_aload_n (pc := 69) (i := 0) ?_ dX6_copyOut_69 rfl
          refine s_cv (pc := 70) (n := 0) (ci := 6) ?_ tX6_readEnd rfl rfl wt_903 wt_905 wp_30 wt_7 wt_906 ⟨crX6_readEnd, by decide, by decide⟩ dX6_copyOut_70
          refine s_ifne (pc := 73) (tgt := 78) ?_ ?_ dX6_copyOut_73 (by decide)
          · skip
            refine s_iinc (pc := 78) (i := 3) (v := 1) ?_ dX6_copyOut_78 (by decide) (by decide)
            exact s_goto (pc := 81) (tgt := 24) h1 dX6_copyOut_81 (by decide)
          · skip
            exact s_fall (pc := 76) h2
    · skip
      exact s_goto (pc := 45) (tgt := 84) h3 dX6_copyOut_45 (by decide)
theorem sbX6_copyOut_2 (g : GE) (J : Nat → KT) (h1 : Snd mX6_copyOut g 24 (J 1)) (h2 : Snd mX6_copyOut g 76 (J 2)) (h3 : Snd mX6_copyOut g 84 (J 3)) (h4 : Snd mX6_copyOut g 106 (J 4)) (h5 : Snd mX6_copyOut g 111 (J 5)) : Snd mX6_copyOut g 76 (bX6_copyOut_2 g J) := by
  unfold bX6_copyOut_2
  refine s_iconst (pc := 76) (v := 0) ?_ dX6_copyOut_76 (by decide)
  exact s_zreturn (pc := 77) rfl dX6_copyOut_77
theorem sbX6_copyOut_3 (g : GE) (J : Nat → KT) (h1 : Snd mX6_copyOut g 24 (J 1)) (h2 : Snd mX6_copyOut g 76 (J 2)) (h3 : Snd mX6_copyOut g 84 (J 3)) (h4 : Snd mX6_copyOut g 106 (J 4)) (h5 : Snd mX6_copyOut g 111 (J 5)) : Snd mX6_copyOut g 84 (bX6_copyOut_3 g J) := by
  unfold bX6_copyOut_3
  refine s_aload_n (pc := 84) (i := 0) ?_ dX6_copyOut_84 rfl
  refine s_getf (pc := 85) (ci := 6) (f := 5) (T := TX6) ?_ ginX6 rfl (by decide) wt_200 dX6_copyOut_85
  refine s_cv (pc := 88) (n := 0) (ci := 2) ?_ tX2_countRows rfl rfl wt_907 wt_908 wt_909 wt_2 wt_910 ⟨crX2_countRows, by decide, by decide⟩ dX6_copyOut_88
  refine s_ifne (pc := 91) (tgt := 106) ?_ ?_ dX6_copyOut_91 (by decide)
  · skip
    exact s_fall (pc := 106) h4
  · skip
    refine s_aload_n (pc := 94) (i := 0) ?_ dX6_copyOut_94 rfl
    refine s_iconst (pc := 95) (v := 4) ?_ dX6_copyOut_95 (by decide)
    refine s_aload_n (pc := 96) (i := 0) ?_ dX6_copyOut_96 rfl
    refine s_getf (pc := 97) (ci := 6) (f := 1) (T := TX6) ?_ ginX6 rfl (by decide) wt_196 dX6_copyOut_97
    refine s_cv (pc := 100) (n := 2) (ci := 6) ?_ tX6_fail rfl rfl wt_718 wt_720 wp_13 wt_7 wt_721 ⟨crX6_fail, by decide, by decide⟩ dX6_copyOut_100
    refine s_ifeq (pc := 103) (tgt := 110) ?_ ?_ dX6_copyOut_103 (by decide)
    · skip
      refine s_iconst (pc := 110) (v := 0) ?_ dX6_copyOut_110 (by decide)
      exact s_fall (pc := 111) h5
    · skip
      exact s_fall (pc := 106) h4
theorem sbX6_copyOut_4 (g : GE) (J : Nat → KT) (h1 : Snd mX6_copyOut g 24 (J 1)) (h2 : Snd mX6_copyOut g 76 (J 2)) (h3 : Snd mX6_copyOut g 84 (J 3)) (h4 : Snd mX6_copyOut g 106 (J 4)) (h5 : Snd mX6_copyOut g 111 (J 5)) : Snd mX6_copyOut g 106 (bX6_copyOut_4 g J) := by
  unfold bX6_copyOut_4
  refine s_iconst (pc := 106) (v := 1) ?_ dX6_copyOut_106 (by decide)
  exact s_goto (pc := 107) (tgt := 111) h5 dX6_copyOut_107 (by decide)
theorem sbX6_copyOut_5 (g : GE) (J : Nat → KT) (h1 : Snd mX6_copyOut g 24 (J 1)) (h2 : Snd mX6_copyOut g 76 (J 2)) (h3 : Snd mX6_copyOut g 84 (J 3)) (h4 : Snd mX6_copyOut g 106 (J 4)) (h5 : Snd mX6_copyOut g 111 (J 5)) : Snd mX6_copyOut g 111 (bX6_copyOut_5 g J) := by
  unfold bX6_copyOut_5
  exact s_zreturn (pc := 111) rfl dX6_copyOut_111
def jX6_copyOut (g : GE) : Nat → Nat → KT
  | 0, _ => fun _ _ _ => none
  | n + 1, 0 => bX6_copyOut_0 g (jX6_copyOut g n)
  | n + 1, 1 => bX6_copyOut_1 g (jX6_copyOut g n)
  | n + 1, 2 => bX6_copyOut_2 g (jX6_copyOut g n)
  | n + 1, 3 => bX6_copyOut_3 g (jX6_copyOut g n)
  | n + 1, 4 => bX6_copyOut_4 g (jX6_copyOut g n)
  | n + 1, 5 => bX6_copyOut_5 g (jX6_copyOut g n)
  | _ + 1, _ + 6 => fun _ _ _ => none
theorem sjX6_copyOut (g : GE) : ∀ n, Snd mX6_copyOut g 0 (jX6_copyOut g n 0) ∧ Snd mX6_copyOut g 24 (jX6_copyOut g n 1) ∧ Snd mX6_copyOut g 76 (jX6_copyOut g n 2) ∧ Snd mX6_copyOut g 84 (jX6_copyOut g n 3) ∧ Snd mX6_copyOut g 106 (jX6_copyOut g n 4) ∧ Snd mX6_copyOut g 111 (jX6_copyOut g n 5)
  | 0 => ⟨s_none, s_none, s_none, s_none, s_none, s_none⟩
  | n + 1 => by
    obtain ⟨-, h1, h2, h3, h4, h5⟩ := sjX6_copyOut g n
    exact ⟨sbX6_copyOut_0 g _ h1 h2 h3 h4 h5, sbX6_copyOut_1 g _ h1 h2 h3 h4 h5, sbX6_copyOut_2 g _ h1 h2 h3 h4 h5, sbX6_copyOut_3 g _ h1 h2 h3 h4 h5, sbX6_copyOut_4 g _ h1 h2 h3 h4 h5, sbX6_copyOut_5 g _ h1 h2 h3 h4 h5⟩
def kX6_copyOut (g : GE) : KT := jX6_copyOut g g.1 0
theorem sX6_copyOut (g : GE) : Snd mX6_copyOut g 0 (kX6_copyOut g) := (sjX6_copyOut g g.1).1
def fX6_copyOut : FT := fun g av w => if (ent av).length ≤ 5 then kX6_copyOut g [] (entp 5 av) w else none
theorem tX6_copyOut : Mt yX6_copyOut cX6_copyOut 5 (some .boolean) 9 200 fX6_copyOut := Mt.of (K := kX6_copyOut) (by decide +kernel) (fun _ _ _ => rfl) sX6_copyOut
theorem crX6_copyOut : yX6_copyOut.cls ≠ "java/lang/invoke/MethodHandle" ∧ yX6_copyOut.cls ≠ "java/lang/invoke/VarHandle" ∧ (parseMethodDescriptor yX6_copyOut.desc).map (fun d => d.parameters.length) = some 2 := by decide +kernel
theorem dX8_clear_0 : decode cX8_clear 0 = .ok (.aload_n 0, 1) := by decide +kernel
theorem dX8_clear_1 : decode cX8_clear 1 = .ok (.iconst 0, 1) := by decide +kernel
theorem dX8_clear_2 : decode cX8_clear 2 = .ok (.putfield 33, 3) := by decide +kernel
theorem dX8_clear_5 : decode cX8_clear 5 = .ok (.aload_n 0, 1) := by decide +kernel
theorem dX8_clear_6 : decode cX8_clear 6 = .ok (.iconst 0, 1) := by decide +kernel
theorem dX8_clear_7 : decode cX8_clear 7 = .ok (.putfield 37, 3) := by decide +kernel
theorem dX8_clear_10 : decode cX8_clear 10 = .ok (.return_, 1) := by decide +kernel
abbrev mX8_clear : MD := (cX8_clear, "BlottedDeed$Testimony", 1, 1, 30, none, "clear", [])
def bX8_clear_0 (g : GE) (J : Nat → KT) : KT := i_aload 0 (i_push (.int 0) (i_putf 8 7 .int (i_aload 0 (i_push (.int 0) (i_putf 8 8 .int (i_return))))))
theorem sbX8_clear_0 (g : GE) (J : Nat → KT)  : Snd mX8_clear g 0 (bX8_clear_0 g J) := by
  unfold bX8_clear_0
  refine s_aload_n (pc := 0) (i := 0) ?_ dX8_clear_0 rfl
  refine s_iconst (pc := 1) (v := 0) ?_ dX8_clear_1 (by decide)
  refine s_putf (pc := 2) (ci := 8) (f := 7) (T := TX8) (ty0 := tyX8) ?_ ginX8 tyX8_ok nmX8 rfl (by decide) rfl rfl wt_429 dX8_clear_2
  refine s_aload_n (pc := 5) (i := 0) ?_ dX8_clear_5 rfl
  refine s_iconst (pc := 6) (v := 0) ?_ dX8_clear_6 (by decide)
  refine s_putf (pc := 7) (ci := 8) (f := 8) (T := TX8) (ty0 := tyX8) ?_ ginX8 tyX8_ok nmX8 rfl (by decide) rfl rfl wt_432 dX8_clear_7
  exact s_return (pc := 10) rfl dX8_clear_10
def kX8_clear (g : GE) : KT := bX8_clear_0 g (fun _ _ _ _ => none)
theorem sX8_clear (g : GE) : Snd mX8_clear g 0 (kX8_clear g) := sbX8_clear_0 g _
def fX8_clear : FT := fun g av w => if (ent av).length ≤ 1 then kX8_clear g [] (entp 1 av) w else none
theorem tX8_clear : Mt yX8_clear cX8_clear 1 none 1 30 fX8_clear := Mt.of (K := kX8_clear) (by decide +kernel) (fun _ _ _ => rfl) sX8_clear
theorem crX8_clear : yX8_clear.cls ≠ "java/lang/invoke/MethodHandle" ∧ yX8_clear.cls ≠ "java/lang/invoke/VarHandle" ∧ (parseMethodDescriptor yX8_clear.desc).map (fun d => d.parameters.length) = some 0 := by decide +kernel
theorem dX4_showFirst_0 : decode cX4_showFirst 0 = .ok (.aload_n 1, 1) := by decide +kernel
theorem dX4_showFirst_1 : decode cX4_showFirst 1 = .ok (.getfield 24, 3) := by decide +kernel
theorem dX4_showFirst_4 : decode cX4_showFirst 4 = .ok (.iconst 0, 1) := by decide +kernel
theorem dX4_showFirst_5 : decode cX4_showFirst 5 = .ok (.aload_n 0, 1) := by decide +kernel
theorem dX4_showFirst_6 : decode cX4_showFirst 6 = .ok (.getfield 9, 3) := by decide +kernel
theorem dX4_showFirst_9 : decode cX4_showFirst 9 = .ok (.iconst 0, 1) := by decide +kernel
theorem dX4_showFirst_10 : decode cX4_showFirst 10 = .ok (.aload_n 1, 1) := by decide +kernel
theorem dX4_showFirst_11 : decode cX4_showFirst 11 = .ok (.getfield 29, 3) := by decide +kernel
theorem dX4_showFirst_14 : decode cX4_showFirst 14 = .ok (.invokestatic 33, 3) := by decide +kernel
theorem dX4_showFirst_17 : decode cX4_showFirst 17 = .ok (.aload_n 0, 1) := by decide +kernel
theorem dX4_showFirst_18 : decode cX4_showFirst 18 = .ok (.getfield 15, 3) := by decide +kernel
theorem dX4_showFirst_21 : decode cX4_showFirst 21 = .ok (.iconst 0, 1) := by decide +kernel
theorem dX4_showFirst_22 : decode cX4_showFirst 22 = .ok (.invokestatic 39, 3) := by decide +kernel
theorem dX4_showFirst_25 : decode cX4_showFirst 25 = .ok (.return_, 1) := by decide +kernel
abbrev mX4_showFirst : MD := (cX4_showFirst, "BlottedDeed$Row", 2, 2, 60, none, "showFirst", [])
def bX4_showFirst_0 (g : GE) (J : Nat → KT) : KT := i_aload 1 (i_getf 2 7 (i_push (.int 0) (i_aload 0 (i_getf 4 0 (i_push (.int 0) (i_aload 1 (i_getf 2 12 (i_acopy (i_aload 0 (i_getf 4 1 (i_push (.int 0) (i_cs fJ7_fill_53178 g 2 (i_return)))))))))))))
theorem sbX4_showFirst_0 (g : GE) (J : Nat → KT)  : Snd mX4_showFirst g 0 (bX4_showFirst_0 g J) := by
  unfold bX4_showFirst_0
  refine s_aload_n (pc := 0) (i := 1) ?_ dX4_showFirst_0 rfl
  refine s_getf (pc := 1) (ci := 2) (f := 7) (T := TX2) ?_ ginX2 rfl (by decide) wt_123 dX4_showFirst_1
  refine s_iconst (pc := 4) (v := 0) ?_ dX4_showFirst_4 (by decide)
  refine s_aload_n (pc := 5) (i := 0) ?_ dX4_showFirst_5 rfl
  refine s_getf (pc := 6) (ci := 4) (f := 0) (T := TX4) ?_ ginX4 rfl (by decide) wt_234 dX4_showFirst_6
  refine s_iconst (pc := 9) (v := 0) ?_ dX4_showFirst_9 (by decide)
  refine s_aload_n (pc := 10) (i := 1) ?_ dX4_showFirst_10 rfl
  refine s_getf (pc := 11) (ci := 2) (f := 12) (T := TX2) ?_ ginX2 rfl (by decide) wt_139 dX4_showFirst_11
  refine s_acopy (pc := 14) ?_ wt_267 wt_269 wt_268 wt_11 (by decide +kernel) dX4_showFirst_14
  refine s_aload_n (pc := 17) (i := 0) ?_ dX4_showFirst_17 rfl
  refine s_getf (pc := 18) (ci := 4) (f := 1) (T := TX4) ?_ ginX4 rfl (by decide) wt_236 dX4_showFirst_18
  refine s_iconst (pc := 21) (v := 0) ?_ dX4_showFirst_21 (by decide)
  refine s_cs (pc := 22) (n := 2) ?_ tJ7_fill_53178 wt_270 wt_261 wt_10 wt_262 ⟨crJ7_fill_53178, by decide, by decide⟩ dX4_showFirst_22
  exact s_return (pc := 25) rfl dX4_showFirst_25
def kX4_showFirst (g : GE) : KT := bX4_showFirst_0 g (fun _ _ _ _ => none)
theorem sX4_showFirst (g : GE) : Snd mX4_showFirst g 0 (kX4_showFirst g) := sbX4_showFirst_0 g _
def fX4_showFirst : FT := fun g av w => if (ent av).length ≤ 2 then kX4_showFirst g [] (entp 2 av) w else none
theorem tX4_showFirst : Mt yX4_showFirst cX4_showFirst 2 none 2 60 fX4_showFirst := Mt.of (K := kX4_showFirst) (by decide +kernel) (fun _ _ _ => rfl) sX4_showFirst
theorem crX4_showFirst : yX4_showFirst.cls ≠ "java/lang/invoke/MethodHandle" ∧ yX4_showFirst.cls ≠ "java/lang/invoke/VarHandle" ∧ (parseMethodDescriptor yX4_showFirst.desc).map (fun d => d.parameters.length) = some 1 := by decide +kernel
theorem dX4_marks_0 : decode cX4_marks 0 = .ok (.lconst 0, 1) := by decide +kernel
theorem dX4_marks_1 : decode cX4_marks 1 = .ok (.lstore_n 2, 1) := by decide +kernel
theorem dX4_marks_2 : decode cX4_marks 2 = .ok (.iconst 0, 1) := by decide +kernel
theorem dX4_marks_3 : decode cX4_marks 3 = .ok (.istore 4, 2) := by decide +kernel
theorem dX4_marks_5 : decode cX4_marks 5 = .ok (.iload 4, 2) := by decide +kernel
theorem dX4_marks_7 : decode cX4_marks 7 = .ok (.iload_n 1, 1) := by decide +kernel
theorem dX4_marks_8 : decode cX4_marks 8 = .ok (.if_icmp .ge 26, 3) := by decide +kernel
theorem dX4_marks_11 : decode cX4_marks 11 = .ok (.lload_n 2, 1) := by decide +kernel
theorem dX4_marks_12 : decode cX4_marks 12 = .ok (.aload_n 0, 1) := by decide +kernel
theorem dX4_marks_13 : decode cX4_marks 13 = .ok (.getfield 15, 3) := by decide +kernel
theorem dX4_marks_16 : decode cX4_marks 16 = .ok (.iload 4, 2) := by decide +kernel
theorem dX4_marks_18 : decode cX4_marks 18 = .ok (.iaload, 1) := by decide +kernel
theorem dX4_marks_19 : decode cX4_marks 19 = .ok (.i2l, 1) := by decide +kernel
theorem dX4_marks_20 : decode cX4_marks 20 = .ok (.bipush 8, 2) := by decide +kernel
theorem dX4_marks_22 : decode cX4_marks 22 = .ok (.iload 4, 2) := by decide +kernel
theorem dX4_marks_24 : decode cX4_marks 24 = .ok (.imul, 1) := by decide +kernel
theorem dX4_marks_25 : decode cX4_marks 25 = .ok (.lshl, 1) := by decide +kernel
theorem dX4_marks_26 : decode cX4_marks 26 = .ok (.lor, 1) := by decide +kernel
theorem dX4_marks_27 : decode cX4_marks 27 = .ok (.lstore_n 2, 1) := by decide +kernel
theorem dX4_marks_28 : decode cX4_marks 28 = .ok (.iinc 4 1, 3) := by decide +kernel
theorem dX4_marks_31 : decode cX4_marks 31 = .ok (.goto (-26), 3) := by decide +kernel
theorem dX4_marks_34 : decode cX4_marks 34 = .ok (.lload_n 2, 1) := by decide +kernel
theorem dX4_marks_35 : decode cX4_marks 35 = .ok (.lreturn, 1) := by decide +kernel
abbrev mX4_marks : MD := (cX4_marks, "BlottedDeed$Row", 5, 1, 30, (some .long), "marks", [])
def bX4_marks_0 (g : GE) (J : Nat → KT) : KT := i_push (.long 0) (i_lstore 2 (i_push (.int 0) (i_istore 4 (i_jmp [true, true, true, false, true] (J 1)))))
def bX4_marks_1 (g : GE) (J : Nat → KT) : KT := i_iload 4 (i_iload 1 (i_icge (i_lload 2 (i_lreturn)) (i_lload 2 (i_aload 0 (i_getf 4 1 (i_iload 4 (i_iaload (i_i2l (i_push (.int 8) (i_iload 4 (i_imul (i_lshl (i_lor (i_lstore 2 (i_iinc 4 1 (i_jmp [true, true, true, false, true] (J 1)))))))))))))))))
theorem sbX4_marks_0 (g : GE) (J : Nat → KT) (h1 : Snd mX4_marks g 5 (J 1)) : Snd mX4_marks g 0 (bX4_marks_0 g J) := by
  unfold bX4_marks_0
  refine s_lconst (pc := 0) (v := 0) ?_ dX4_marks_0 (by decide)
  refine s_lstore_n (pc := 1) (i := 2) ?_ dX4_marks_1 rfl (by decide)
  refine s_iconst (pc := 2) (v := 0) ?_ dX4_marks_2 (by decide)
  refine s_istore (pc := 3) (i := 4) ?_ dX4_marks_3 (by decide)
  exact s_fall (pc := 5) h1
theorem sbX4_marks_1 (g : GE) (J : Nat → KT) (h1 : Snd mX4_marks g 5 (J 1)) : Snd mX4_marks g 5 (bX4_marks_1 g J) := by
  unfold bX4_marks_1
  refine s_iload (pc := 5) (i := 4) ?_ dX4_marks_5
  refine s_iload_n (pc := 7) (i := 1) ?_ dX4_marks_7 rfl
  refine s_icge (pc := 8) (tgt := 34) ?_ ?_ dX4_marks_8 (by decide)
  · skip
    refine s_lload_n (pc := 34) (i := 2) ?_ dX4_marks_34 rfl
    exact s_lreturn (pc := 35) rfl dX4_marks_35
  · skip
    refine s_lload_n (pc := 11) (i := 2) ?_ dX4_marks_11 rfl
    refine s_aload_n (pc := 12) (i := 0) ?_ dX4_marks_12 rfl
    refine s_getf (pc := 13) (ci := 4) (f := 1) (T := TX4) ?_ ginX4 rfl (by decide) wt_236 dX4_marks_13
    refine s_iload (pc := 16) (i := 4) ?_ dX4_marks_16
    refine s_iaload (pc := 18) ?_ dX4_marks_18
    refine s_i2l (pc := 19) ?_ dX4_marks_19
    refine s_bipush (pc := 20) (v := 8) ?_ dX4_marks_20 (by decide)
    refine s_iload (pc := 22) (i := 4) ?_ dX4_marks_22
    refine s_imul (pc := 24) ?_ dX4_marks_24
    refine s_lshl (pc := 25) ?_ dX4_marks_25
    refine s_lor (pc := 26) ?_ dX4_marks_26
    refine s_lstore_n (pc := 27) (i := 2) ?_ dX4_marks_27 rfl (by decide)
    refine s_iinc (pc := 28) (i := 4) (v := 1) ?_ dX4_marks_28 (by decide) (by decide)
    exact s_goto (pc := 31) (tgt := 5) h1 dX4_marks_31 (by decide)
def jX4_marks (g : GE) : Nat → Nat → KT
  | 0, _ => fun _ _ _ => none
  | n + 1, 0 => bX4_marks_0 g (jX4_marks g n)
  | n + 1, 1 => bX4_marks_1 g (jX4_marks g n)
  | _ + 1, _ + 2 => fun _ _ _ => none
theorem sjX4_marks (g : GE) : ∀ n, Snd mX4_marks g 0 (jX4_marks g n 0) ∧ Snd mX4_marks g 5 (jX4_marks g n 1)
  | 0 => ⟨s_none, s_none⟩
  | n + 1 => by
    obtain ⟨-, h1⟩ := sjX4_marks g n
    exact ⟨sbX4_marks_0 g _ h1, sbX4_marks_1 g _ h1⟩
def kX4_marks (g : GE) : KT := jX4_marks g g.1 0
theorem sX4_marks (g : GE) : Snd mX4_marks g 0 (kX4_marks g) := (sjX4_marks g g.1).1
def fX4_marks : FT := fun g av w => if (ent av).length ≤ 5 then kX4_marks g [] (entp 5 av) w else none
theorem tX4_marks : Mt yX4_marks cX4_marks 5 (some .long) 1 30 fX4_marks := Mt.of (K := kX4_marks) (by decide +kernel) (fun _ _ _ => rfl) sX4_marks
theorem crX4_marks : yX4_marks.cls ≠ "java/lang/invoke/MethodHandle" ∧ yX4_marks.cls ≠ "java/lang/invoke/VarHandle" ∧ (parseMethodDescriptor yX4_marks.desc).map (fun d => d.parameters.length) = some 1 := by decide +kernel
theorem dX4_shares_0 : decode cX4_shares 0 = .ok (.lconst 0, 1) := by decide +kernel
theorem dX4_shares_1 : decode cX4_shares 1 = .ok (.lstore_n 1, 1) := by decide +kernel
theorem dX4_shares_2 : decode cX4_shares 2 = .ok (.iconst 0, 1) := by decide +kernel
theorem dX4_shares_3 : decode cX4_shares 3 = .ok (.istore_n 3, 1) := by decide +kernel
theorem dX4_shares_4 : decode cX4_shares 4 = .ok (.iload_n 3, 1) := by decide +kernel
theorem dX4_shares_5 : decode cX4_shares 5 = .ok (.iconst 4, 1) := by decide +kernel
theorem dX4_shares_6 : decode cX4_shares 6 = .ok (.if_icmp .ge 24, 3) := by decide +kernel
theorem dX4_shares_9 : decode cX4_shares 9 = .ok (.lload_n 1, 1) := by decide +kernel
theorem dX4_shares_10 : decode cX4_shares 10 = .ok (.aload_n 0, 1) := by decide +kernel
theorem dX4_shares_11 : decode cX4_shares 11 = .ok (.getfield 18, 3) := by decide +kernel
theorem dX4_shares_14 : decode cX4_shares 14 = .ok (.iload_n 3, 1) := by decide +kernel
theorem dX4_shares_15 : decode cX4_shares 15 = .ok (.iaload, 1) := by decide +kernel
theorem dX4_shares_16 : decode cX4_shares 16 = .ok (.i2l, 1) := by decide +kernel
theorem dX4_shares_17 : decode cX4_shares 17 = .ok (.bipush 10, 2) := by decide +kernel
theorem dX4_shares_19 : decode cX4_shares 19 = .ok (.iload_n 3, 1) := by decide +kernel
theorem dX4_shares_20 : decode cX4_shares 20 = .ok (.imul, 1) := by decide +kernel
theorem dX4_shares_21 : decode cX4_shares 21 = .ok (.lshl, 1) := by decide +kernel
theorem dX4_shares_22 : decode cX4_shares 22 = .ok (.lor, 1) := by decide +kernel
theorem dX4_shares_23 : decode cX4_shares 23 = .ok (.lstore_n 1, 1) := by decide +kernel
theorem dX4_shares_24 : decode cX4_shares 24 = .ok (.iinc 3 1, 3) := by decide +kernel
theorem dX4_shares_27 : decode cX4_shares 27 = .ok (.goto (-23), 3) := by decide +kernel
theorem dX4_shares_30 : decode cX4_shares 30 = .ok (.iconst 0, 1) := by decide +kernel
theorem dX4_shares_31 : decode cX4_shares 31 = .ok (.istore_n 3, 1) := by decide +kernel
theorem dX4_shares_32 : decode cX4_shares 32 = .ok (.iload_n 3, 1) := by decide +kernel
theorem dX4_shares_33 : decode cX4_shares 33 = .ok (.iconst 5, 1) := by decide +kernel
theorem dX4_shares_34 : decode cX4_shares 34 = .ok (.if_icmp .ge 28, 3) := by decide +kernel
theorem dX4_shares_37 : decode cX4_shares 37 = .ok (.lload_n 1, 1) := by decide +kernel
theorem dX4_shares_38 : decode cX4_shares 38 = .ok (.aload_n 0, 1) := by decide +kernel
theorem dX4_shares_39 : decode cX4_shares 39 = .ok (.getfield 21, 3) := by decide +kernel
theorem dX4_shares_42 : decode cX4_shares 42 = .ok (.iload_n 3, 1) := by decide +kernel
theorem dX4_shares_43 : decode cX4_shares 43 = .ok (.iaload, 1) := by decide +kernel
theorem dX4_shares_44 : decode cX4_shares 44 = .ok (.iconst 1, 1) := by decide +kernel
theorem dX4_shares_45 : decode cX4_shares 45 = .ok (.iadd, 1) := by decide +kernel
theorem dX4_shares_46 : decode cX4_shares 46 = .ok (.i2l, 1) := by decide +kernel
theorem dX4_shares_47 : decode cX4_shares 47 = .ok (.bipush 40, 2) := by decide +kernel
theorem dX4_shares_49 : decode cX4_shares 49 = .ok (.iconst 3, 1) := by decide +kernel
theorem dX4_shares_50 : decode cX4_shares 50 = .ok (.iload_n 3, 1) := by decide +kernel
theorem dX4_shares_51 : decode cX4_shares 51 = .ok (.imul, 1) := by decide +kernel
theorem dX4_shares_52 : decode cX4_shares 52 = .ok (.iadd, 1) := by decide +kernel
theorem dX4_shares_53 : decode cX4_shares 53 = .ok (.lshl, 1) := by decide +kernel
theorem dX4_shares_54 : decode cX4_shares 54 = .ok (.lor, 1) := by decide +kernel
theorem dX4_shares_55 : decode cX4_shares 55 = .ok (.lstore_n 1, 1) := by decide +kernel
theorem dX4_shares_56 : decode cX4_shares 56 = .ok (.iinc 3 1, 3) := by decide +kernel
theorem dX4_shares_59 : decode cX4_shares 59 = .ok (.goto (-27), 3) := by decide +kernel
theorem dX4_shares_62 : decode cX4_shares 62 = .ok (.lload_n 1, 1) := by decide +kernel
theorem dX4_shares_63 : decode cX4_shares 63 = .ok (.lreturn, 1) := by decide +kernel
abbrev mX4_shares : MD := (cX4_shares, "BlottedDeed$Row", 4, 1, 30, (some .long), "shares", [])
def bX4_shares_0 (g : GE) (J : Nat → KT) : KT := i_push (.long 0) (i_lstore 1 (i_push (.int 0) (i_istore 3 (i_jmp [true, true, false, true] (J 1)))))
def bX4_shares_1 (g : GE) (J : Nat → KT) : KT := i_iload 3 (i_push (.int 4) (i_icge (i_push (.int 0) (i_istore 3 (i_jmp [true, true, false, true] (J 2)))) (i_lload 1 (i_aload 0 (i_getf 4 2 (i_iload 3 (i_iaload (i_i2l (i_push (.int 10) (i_iload 3 (i_imul (i_lshl (i_lor (i_lstore 1 (i_iinc 3 1 (i_jmp [true, true, false, true] (J 1)))))))))))))))))
def bX4_shares_2 (g : GE) (J : Nat → KT) : KT := i_iload 3 (i_push (.int 5) (i_icge (i_lload 1 (i_lreturn)) (i_lload 1 (i_aload 0 (i_getf 4 3 (i_iload 3 (i_iaload (i_push (.int 1) (i_iadd (i_i2l (i_push (.int 40) (i_push (.int 3) (i_iload 3 (i_imul (i_iadd (i_lshl (i_lor (i_lstore 1 (i_iinc 3 1 (i_jmp [true, true, false, true] (J 2)))))))))))))))))))))
theorem sbX4_shares_0 (g : GE) (J : Nat → KT) (h1 : Snd mX4_shares g 4 (J 1)) (h2 : Snd mX4_shares g 32 (J 2)) : Snd mX4_shares g 0 (bX4_shares_0 g J) := by
  unfold bX4_shares_0
  refine s_lconst (pc := 0) (v := 0) ?_ dX4_shares_0 (by decide)
  refine s_lstore_n (pc := 1) (i := 1) ?_ dX4_shares_1 rfl (by decide)
  refine s_iconst (pc := 2) (v := 0) ?_ dX4_shares_2 (by decide)
  refine s_istore_n (pc := 3) (i := 3) ?_ dX4_shares_3 rfl (by decide)
  exact s_fall (pc := 4) h1
theorem sbX4_shares_1 (g : GE) (J : Nat → KT) (h1 : Snd mX4_shares g 4 (J 1)) (h2 : Snd mX4_shares g 32 (J 2)) : Snd mX4_shares g 4 (bX4_shares_1 g J) := by
  unfold bX4_shares_1
  refine s_iload_n (pc := 4) (i := 3) ?_ dX4_shares_4 rfl
  refine s_iconst (pc := 5) (v := 4) ?_ dX4_shares_5 (by decide)
  refine s_icge (pc := 6) (tgt := 30) ?_ ?_ dX4_shares_6 (by decide)
  · skip
    refine s_iconst (pc := 30) (v := 0) ?_ dX4_shares_30 (by decide)
    refine s_istore_n (pc := 31) (i := 3) ?_ dX4_shares_31 rfl (by decide)
    exact s_fall (pc := 32) h2
  · skip
    refine s_lload_n (pc := 9) (i := 1) ?_ dX4_shares_9 rfl
    refine s_aload_n (pc := 10) (i := 0) ?_ dX4_shares_10 rfl
    refine s_getf (pc := 11) (ci := 4) (f := 2) (T := TX4) ?_ ginX4 rfl (by decide) wt_237 dX4_shares_11
    refine s_iload_n (pc := 14) (i := 3) ?_ dX4_shares_14 rfl
    refine s_iaload (pc := 15) ?_ dX4_shares_15
    refine s_i2l (pc := 16) ?_ dX4_shares_16
    refine s_bipush (pc := 17) (v := 10) ?_ dX4_shares_17 (by decide)
    refine s_iload_n (pc := 19) (i := 3) ?_ dX4_shares_19 rfl
    refine s_imul (pc := 20) ?_ dX4_shares_20
    refine s_lshl (pc := 21) ?_ dX4_shares_21
    refine s_lor (pc := 22) ?_ dX4_shares_22
    refine s_lstore_n (pc := 23) (i := 1) ?_ dX4_shares_23 rfl (by decide)
    refine s_iinc (pc := 24) (i := 3) (v := 1) ?_ dX4_shares_24 (by decide) (by decide)
    exact s_goto (pc := 27) (tgt := 4) h1 dX4_shares_27 (by decide)
theorem sbX4_shares_2 (g : GE) (J : Nat → KT) (h1 : Snd mX4_shares g 4 (J 1)) (h2 : Snd mX4_shares g 32 (J 2)) : Snd mX4_shares g 32 (bX4_shares_2 g J) := by
  unfold bX4_shares_2
  refine s_iload_n (pc := 32) (i := 3) ?_ dX4_shares_32 rfl
  refine s_iconst (pc := 33) (v := 5) ?_ dX4_shares_33 (by decide)
  refine s_icge (pc := 34) (tgt := 62) ?_ ?_ dX4_shares_34 (by decide)
  · skip
    refine s_lload_n (pc := 62) (i := 1) ?_ dX4_shares_62 rfl
    exact s_lreturn (pc := 63) rfl dX4_shares_63
  · skip
    refine s_lload_n (pc := 37) (i := 1) ?_ dX4_shares_37 rfl
    refine s_aload_n (pc := 38) (i := 0) ?_ dX4_shares_38 rfl
    refine s_getf (pc := 39) (ci := 4) (f := 3) (T := TX4) ?_ ginX4 rfl (by decide) wt_238 dX4_shares_39
    refine s_iload_n (pc := 42) (i := 3) ?_ dX4_shares_42 rfl
    refine s_iaload (pc := 43) ?_ dX4_shares_43
    refine s_iconst (pc := 44) (v := 1) ?_ dX4_shares_44 (by decide)
    refine s_iadd (pc := 45) ?_ dX4_shares_45
    refine s_i2l (pc := 46) ?_ dX4_shares_46
    refine s_bipush (pc := 47) (v := 40) ?_ dX4_shares_47 (by decide)
    refine s_iconst (pc := 49) (v := 3) ?_ dX4_shares_49 (by decide)
    refine s_iload_n (pc := 50) (i := 3) ?_ dX4_shares_50 rfl
    refine s_imul (pc := 51) ?_ dX4_shares_51
    refine s_iadd (pc := 52) ?_ dX4_shares_52
    refine s_lshl (pc := 53) ?_ dX4_shares_53
    refine s_lor (pc := 54) ?_ dX4_shares_54
    refine s_lstore_n (pc := 55) (i := 1) ?_ dX4_shares_55 rfl (by decide)
    refine s_iinc (pc := 56) (i := 3) (v := 1) ?_ dX4_shares_56 (by decide) (by decide)
    exact s_goto (pc := 59) (tgt := 32) h2 dX4_shares_59 (by decide)
def jX4_shares (g : GE) : Nat → Nat → KT
  | 0, _ => fun _ _ _ => none
  | n + 1, 0 => bX4_shares_0 g (jX4_shares g n)
  | n + 1, 1 => bX4_shares_1 g (jX4_shares g n)
  | n + 1, 2 => bX4_shares_2 g (jX4_shares g n)
  | _ + 1, _ + 3 => fun _ _ _ => none
theorem sjX4_shares (g : GE) : ∀ n, Snd mX4_shares g 0 (jX4_shares g n 0) ∧ Snd mX4_shares g 4 (jX4_shares g n 1) ∧ Snd mX4_shares g 32 (jX4_shares g n 2)
  | 0 => ⟨s_none, s_none, s_none⟩
  | n + 1 => by
    obtain ⟨-, h1, h2⟩ := sjX4_shares g n
    exact ⟨sbX4_shares_0 g _ h1 h2, sbX4_shares_1 g _ h1 h2, sbX4_shares_2 g _ h1 h2⟩
def kX4_shares (g : GE) : KT := jX4_shares g g.1 0
theorem sX4_shares (g : GE) : Snd mX4_shares g 0 (kX4_shares g) := (sjX4_shares g g.1).1
def fX4_shares : FT := fun g av w => if (ent av).length ≤ 4 then kX4_shares g [] (entp 4 av) w else none
theorem tX4_shares : Mt yX4_shares cX4_shares 4 (some .long) 1 30 fX4_shares := Mt.of (K := kX4_shares) (by decide +kernel) (fun _ _ _ => rfl) sX4_shares
theorem crX4_shares : yX4_shares.cls ≠ "java/lang/invoke/MethodHandle" ∧ yX4_shares.cls ≠ "java/lang/invoke/VarHandle" ∧ (parseMethodDescriptor yX4_shares.desc).map (fun d => d.parameters.length) = some 0 := by decide +kernel
theorem dX7_keepRow_0 : decode cX7_keepRow 0 = .ok (.aload_n 0, 1) := by decide +kernel
theorem dX7_keepRow_1 : decode cX7_keepRow 1 = .ok (.getfield 53, 3) := by decide +kernel
theorem dX7_keepRow_4 : decode cX7_keepRow 4 = .ok (.aload_n 0, 1) := by decide +kernel
theorem dX7_keepRow_5 : decode cX7_keepRow 5 = .ok (.getfield 11, 3) := by decide +kernel
theorem dX7_keepRow_8 : decode cX7_keepRow 8 = .ok (.arraylength, 1) := by decide +kernel
theorem dX7_keepRow_9 : decode cX7_keepRow 9 = .ok (.if_icmp .lt 41, 3) := by decide +kernel
theorem dX7_keepRow_12 : decode cX7_keepRow 12 = .ok (.aload_n 0, 1) := by decide +kernel
theorem dX7_keepRow_13 : decode cX7_keepRow 13 = .ok (.getfield 11, 3) := by decide +kernel
theorem dX7_keepRow_16 : decode cX7_keepRow 16 = .ok (.arraylength, 1) := by decide +kernel
theorem dX7_keepRow_17 : decode cX7_keepRow 17 = .ok (.iconst 2, 1) := by decide +kernel
theorem dX7_keepRow_18 : decode cX7_keepRow 18 = .ok (.imul, 1) := by decide +kernel
theorem dX7_keepRow_19 : decode cX7_keepRow 19 = .ok (.sipush 20000, 3) := by decide +kernel
theorem dX7_keepRow_22 : decode cX7_keepRow 22 = .ok (.invokestatic 101, 3) := by decide +kernel
theorem dX7_keepRow_25 : decode cX7_keepRow 25 = .ok (.istore_n 1, 1) := by decide +kernel
theorem dX7_keepRow_26 : decode cX7_keepRow 26 = .ok (.aload_n 0, 1) := by decide +kernel
theorem dX7_keepRow_27 : decode cX7_keepRow 27 = .ok (.aload_n 0, 1) := by decide +kernel
theorem dX7_keepRow_28 : decode cX7_keepRow 28 = .ok (.getfield 11, 3) := by decide +kernel
theorem dX7_keepRow_31 : decode cX7_keepRow 31 = .ok (.iload_n 1, 1) := by decide +kernel
theorem dX7_keepRow_32 : decode cX7_keepRow 32 = .ok (.invokestatic 107, 3) := by decide +kernel
theorem dX7_keepRow_35 : decode cX7_keepRow 35 = .ok (.putfield 11, 3) := by decide +kernel
theorem dX7_keepRow_38 : decode cX7_keepRow 38 = .ok (.aload_n 0, 1) := by decide +kernel
theorem dX7_keepRow_39 : decode cX7_keepRow 39 = .ok (.aload_n 0, 1) := by decide +kernel
theorem dX7_keepRow_40 : decode cX7_keepRow 40 = .ok (.getfield 15, 3) := by decide +kernel
theorem dX7_keepRow_43 : decode cX7_keepRow 43 = .ok (.iload_n 1, 1) := by decide +kernel
theorem dX7_keepRow_44 : decode cX7_keepRow 44 = .ok (.invokestatic 107, 3) := by decide +kernel
theorem dX7_keepRow_47 : decode cX7_keepRow 47 = .ok (.putfield 15, 3) := by decide +kernel
theorem dX7_keepRow_50 : decode cX7_keepRow 50 = .ok (.aload_n 0, 1) := by decide +kernel
theorem dX7_keepRow_51 : decode cX7_keepRow 51 = .ok (.getfield 53, 3) := by decide +kernel
theorem dX7_keepRow_54 : decode cX7_keepRow 54 = .ok (.aload_n 0, 1) := by decide +kernel
theorem dX7_keepRow_55 : decode cX7_keepRow 55 = .ok (.getfield 11, 3) := by decide +kernel
theorem dX7_keepRow_58 : decode cX7_keepRow 58 = .ok (.arraylength, 1) := by decide +kernel
theorem dX7_keepRow_59 : decode cX7_keepRow 59 = .ok (.if_icmp .ge 52, 3) := by decide +kernel
theorem dX7_keepRow_62 : decode cX7_keepRow 62 = .ok (.aload_n 0, 1) := by decide +kernel
theorem dX7_keepRow_63 : decode cX7_keepRow 63 = .ok (.getfield 11, 3) := by decide +kernel
theorem dX7_keepRow_66 : decode cX7_keepRow 66 = .ok (.aload_n 0, 1) := by decide +kernel
theorem dX7_keepRow_67 : decode cX7_keepRow 67 = .ok (.getfield 53, 3) := by decide +kernel
theorem dX7_keepRow_70 : decode cX7_keepRow 70 = .ok (.aload_n 0, 1) := by decide +kernel
theorem dX7_keepRow_71 : decode cX7_keepRow 71 = .ok (.getfield 28, 3) := by decide +kernel
theorem dX7_keepRow_74 : decode cX7_keepRow 74 = .ok (.aload_n 0, 1) := by decide +kernel
theorem dX7_keepRow_75 : decode cX7_keepRow 75 = .ok (.getfield 45, 3) := by decide +kernel
theorem dX7_keepRow_78 : decode cX7_keepRow 78 = .ok (.getfield 111, 3) := by decide +kernel
theorem dX7_keepRow_81 : decode cX7_keepRow 81 = .ok (.invokevirtual 114, 3) := by decide +kernel
theorem dX7_keepRow_84 : decode cX7_keepRow 84 = .ok (.lastore, 1) := by decide +kernel
theorem dX7_keepRow_85 : decode cX7_keepRow 85 = .ok (.aload_n 0, 1) := by decide +kernel
theorem dX7_keepRow_86 : decode cX7_keepRow 86 = .ok (.getfield 15, 3) := by decide +kernel
theorem dX7_keepRow_89 : decode cX7_keepRow 89 = .ok (.aload_n 0, 1) := by decide +kernel
theorem dX7_keepRow_90 : decode cX7_keepRow 90 = .ok (.getfield 53, 3) := by decide +kernel
theorem dX7_keepRow_93 : decode cX7_keepRow 93 = .ok (.aload_n 0, 1) := by decide +kernel
theorem dX7_keepRow_94 : decode cX7_keepRow 94 = .ok (.getfield 28, 3) := by decide +kernel
theorem dX7_keepRow_97 : decode cX7_keepRow 97 = .ok (.invokevirtual 117, 3) := by decide +kernel
theorem dX7_keepRow_100 : decode cX7_keepRow 100 = .ok (.lastore, 1) := by decide +kernel
theorem dX7_keepRow_101 : decode cX7_keepRow 101 = .ok (.aload_n 0, 1) := by decide +kernel
theorem dX7_keepRow_102 : decode cX7_keepRow 102 = .ok (.dup, 1) := by decide +kernel
theorem dX7_keepRow_103 : decode cX7_keepRow 103 = .ok (.getfield 53, 3) := by decide +kernel
theorem dX7_keepRow_106 : decode cX7_keepRow 106 = .ok (.iconst 1, 1) := by decide +kernel
theorem dX7_keepRow_107 : decode cX7_keepRow 107 = .ok (.iadd, 1) := by decide +kernel
theorem dX7_keepRow_108 : decode cX7_keepRow 108 = .ok (.putfield 53, 3) := by decide +kernel
theorem dX7_keepRow_111 : decode cX7_keepRow 111 = .ok (.return_, 1) := by decide +kernel
abbrev mX7_keepRow : MD := (cX7_keepRow, "BlottedDeed$Table", 2, 2, 82, none, "keepRow", [])
def bX7_keepRow_0 (g : GE) (J : Nat → KT) : KT := i_aload 0 (i_getf 7 2 (i_aload 0 (i_getf 7 0 (i_alen 1 (i_iclt (i_jmp [true, false] (J 1)) (i_aload 0 (i_getf 7 0 (i_alen 1 (i_push (.int 2) (i_imul (i_push (.int 20000) (i_min (i_istore 1 (i_aload 0 (i_aload 0 (i_getf 7 0 (i_iload 1 (i_cs fJ7_copyOf_c38d5 g 2 (i_putf 7 0 (.array .long) (i_aload 0 (i_aload 0 (i_getf 7 1 (i_iload 1 (i_cs fJ7_copyOf_c38d5 g 2 (i_putf 7 1 (.array .long) (i_jmp [true, false] (J 1)))))))))))))))))))))))))))
def bX7_keepRow_1 (g : GE) (J : Nat → KT) : KT := i_aload 0 (i_getf 7 2 (i_aload 0 (i_getf 7 0 (i_alen 1 (i_icge (i_jmp [false, false] (J 2)) (i_aload 0 (i_getf 7 0 (i_aload 0 (i_getf 7 2 (i_aload 0 (i_getf 7 6 (i_aload 0 (i_getf 7 5 (i_getf 2 13 (i_cv fX4_marks g 1 4 (i_lastore (i_aload 0 (i_getf 7 1 (i_aload 0 (i_getf 7 2 (i_aload 0 (i_getf 7 6 (i_cv fX4_shares g 0 4 (i_lastore (i_aload 0 (i_dup (i_getf 7 2 (i_push (.int 1) (i_iadd (i_putf 7 2 .int (i_jmp [false, false] (J 2))))))))))))))))))))))))))))))))
def bX7_keepRow_2 (g : GE) (J : Nat → KT) : KT := i_return
theorem sbX7_keepRow_0 (g : GE) (J : Nat → KT) (h1 : Snd mX7_keepRow g 50 (J 1)) (h2 : Snd mX7_keepRow g 111 (J 2)) : Snd mX7_keepRow g 0 (bX7_keepRow_0 g J) := by
  unfold bX7_keepRow_0
  refine s_aload_n (pc := 0) (i := 0) ?_ dX7_keepRow_0 rfl
  refine s_getf (pc := 1) (ci := 7) (f := 2) (T := TX7) ?_ ginX7 rfl (by decide) wt_339 dX7_keepRow_1
  refine s_aload_n (pc := 4) (i := 0) ?_ dX7_keepRow_4 rfl
  refine s_getf (pc := 5) (ci := 7) (f := 0) (T := TX7) ?_ ginX7 rfl (by decide) wt_336 dX7_keepRow_5
  refine s_alen (pc := 8) (t := 1) ?_ (by decide) dX7_keepRow_8
  refine s_iclt (pc := 9) (tgt := 50) ?_ ?_ dX7_keepRow_9 (by decide)
  · skip
    exact s_fall (pc := 50) h1
  · skip
    refine s_aload_n (pc := 12) (i := 0) ?_ dX7_keepRow_12 rfl
    refine s_getf (pc := 13) (ci := 7) (f := 0) (T := TX7) ?_ ginX7 rfl (by decide) wt_336 dX7_keepRow_13
    refine s_alen (pc := 16) (t := 1) ?_ (by decide) dX7_keepRow_16
    refine s_iconst (pc := 17) (v := 2) ?_ dX7_keepRow_17 (by decide)
    refine s_imul (pc := 18) ?_ dX7_keepRow_18
    refine s_sipush (pc := 19) (v := 20000) ?_ dX7_keepRow_19 (by decide)
    refine s_min (pc := 22) ?_ wt_299 wt_300 wt_12 wt_301 (by decide) dX7_keepRow_22
    refine s_istore_n (pc := 25) (i := 1) ?_ dX7_keepRow_25 rfl (by decide)
    refine s_aload_n (pc := 26) (i := 0) ?_ dX7_keepRow_26 rfl
    refine s_aload_n (pc := 27) (i := 0) ?_ dX7_keepRow_27 rfl
    refine s_getf (pc := 28) (ci := 7) (f := 0) (T := TX7) ?_ ginX7 rfl (by decide) wt_336 dX7_keepRow_28
    refine s_iload_n (pc := 31) (i := 1) ?_ dX7_keepRow_31 rfl
    refine s_cs (pc := 32) (n := 2) ?_ tJ7_copyOf_c38d5 wt_302 wt_303 wt_10 wt_304 ⟨crJ7_copyOf_c38d5, by decide, by decide⟩ dX7_keepRow_32
    refine s_putf (pc := 35) (ci := 7) (f := 0) (T := TX7) (ty0 := tyX7) ?_ ginX7 tyX7_ok nmX7 rfl (by decide) rfl rfl wt_336 dX7_keepRow_35
    refine s_aload_n (pc := 38) (i := 0) ?_ dX7_keepRow_38 rfl
    refine s_aload_n (pc := 39) (i := 0) ?_ dX7_keepRow_39 rfl
    refine s_getf (pc := 40) (ci := 7) (f := 1) (T := TX7) ?_ ginX7 rfl (by decide) wt_338 dX7_keepRow_40
    refine s_iload_n (pc := 43) (i := 1) ?_ dX7_keepRow_43 rfl
    refine s_cs (pc := 44) (n := 2) ?_ tJ7_copyOf_c38d5 wt_302 wt_303 wt_10 wt_304 ⟨crJ7_copyOf_c38d5, by decide, by decide⟩ dX7_keepRow_44
    refine s_putf (pc := 47) (ci := 7) (f := 1) (T := TX7) (ty0 := tyX7) ?_ ginX7 tyX7_ok nmX7 rfl (by decide) rfl rfl wt_338 dX7_keepRow_47
    exact s_fall (pc := 50) h1
theorem sbX7_keepRow_1 (g : GE) (J : Nat → KT) (h1 : Snd mX7_keepRow g 50 (J 1)) (h2 : Snd mX7_keepRow g 111 (J 2)) : Snd mX7_keepRow g 50 (bX7_keepRow_1 g J) := by
  unfold bX7_keepRow_1
  refine s_aload_n (pc := 50) (i := 0) ?_ dX7_keepRow_50 rfl
  refine s_getf (pc := 51) (ci := 7) (f := 2) (T := TX7) ?_ ginX7 rfl (by decide) wt_339 dX7_keepRow_51
  refine s_aload_n (pc := 54) (i := 0) ?_ dX7_keepRow_54 rfl
  refine s_getf (pc := 55) (ci := 7) (f := 0) (T := TX7) ?_ ginX7 rfl (by decide) wt_336 dX7_keepRow_55
  refine s_alen (pc := 58) (t := 1) ?_ (by decide) dX7_keepRow_58
  refine s_icge (pc := 59) (tgt := 111) ?_ ?_ dX7_keepRow_59 (by decide)
  · skip
    exact s_fall (pc := 111) h2
  · skip
    refine s_aload_n (pc := 62) (i := 0) ?_ dX7_keepRow_62 rfl
    refine s_getf (pc := 63) (ci := 7) (f := 0) (T := TX7) ?_ ginX7 rfl (by decide) wt_336 dX7_keepRow_63
    refine s_aload_n (pc := 66) (i := 0) ?_ dX7_keepRow_66 rfl
    refine s_getf (pc := 67) (ci := 7) (f := 2) (T := TX7) ?_ ginX7 rfl (by decide) wt_339 dX7_keepRow_67
    refine s_aload_n (pc := 70) (i := 0) ?_ dX7_keepRow_70 rfl
    refine s_getf (pc := 71) (ci := 7) (f := 6) (T := TX7) ?_ ginX7 rfl (by decide) wt_346 dX7_keepRow_71
    refine s_aload_n (pc := 74) (i := 0) ?_ dX7_keepRow_74 rfl
    refine s_getf (pc := 75) (ci := 7) (f := 5) (T := TX7) ?_ ginX7 rfl (by decide) wt_345 dX7_keepRow_75
    refine s_getf (pc := 78) (ci := 2) (f := 13) (T := TX2) ?_ ginX2 rfl (by decide) wt_145 dX7_keepRow_78
    refine s_cv (pc := 81) (n := 1) (ci := 4) ?_ tX4_marks rfl rfl wt_314 wt_315 wt_316 wt_9 wt_317 ⟨crX4_marks, by decide, by decide⟩ dX7_keepRow_81
    refine s_lastore (pc := 84) ?_ dX7_keepRow_84
    refine s_aload_n (pc := 85) (i := 0) ?_ dX7_keepRow_85 rfl
    refine s_getf (pc := 86) (ci := 7) (f := 1) (T := TX7) ?_ ginX7 rfl (by decide) wt_338 dX7_keepRow_86
    refine s_aload_n (pc := 89) (i := 0) ?_ dX7_keepRow_89 rfl
    refine s_getf (pc := 90) (ci := 7) (f := 2) (T := TX7) ?_ ginX7 rfl (by decide) wt_339 dX7_keepRow_90
    refine s_aload_n (pc := 93) (i := 0) ?_ dX7_keepRow_93 rfl
    refine s_getf (pc := 94) (ci := 7) (f := 6) (T := TX7) ?_ ginX7 rfl (by decide) wt_346 dX7_keepRow_94
    refine s_cv (pc := 97) (n := 0) (ci := 4) ?_ tX4_shares rfl rfl wt_318 wt_319 wt_320 wt_9 wt_321 ⟨crX4_shares, by decide, by decide⟩ dX7_keepRow_97
    refine s_lastore (pc := 100) ?_ dX7_keepRow_100
    refine s_aload_n (pc := 101) (i := 0) ?_ dX7_keepRow_101 rfl
    refine s_dup (pc := 102) ?_ dX7_keepRow_102
    refine s_getf (pc := 103) (ci := 7) (f := 2) (T := TX7) ?_ ginX7 rfl (by decide) wt_339 dX7_keepRow_103
    refine s_iconst (pc := 106) (v := 1) ?_ dX7_keepRow_106 (by decide)
    refine s_iadd (pc := 107) ?_ dX7_keepRow_107
    refine s_putf (pc := 108) (ci := 7) (f := 2) (T := TX7) (ty0 := tyX7) ?_ ginX7 tyX7_ok nmX7 rfl (by decide) rfl rfl wt_339 dX7_keepRow_108
    exact s_fall (pc := 111) h2
theorem sbX7_keepRow_2 (g : GE) (J : Nat → KT) (h1 : Snd mX7_keepRow g 50 (J 1)) (h2 : Snd mX7_keepRow g 111 (J 2)) : Snd mX7_keepRow g 111 (bX7_keepRow_2 g J) := by
  unfold bX7_keepRow_2
  exact s_return (pc := 111) rfl dX7_keepRow_111
def jX7_keepRow (g : GE) : Nat → Nat → KT
  | 0, _ => fun _ _ _ => none
  | n + 1, 0 => bX7_keepRow_0 g (jX7_keepRow g n)
  | n + 1, 1 => bX7_keepRow_1 g (jX7_keepRow g n)
  | n + 1, 2 => bX7_keepRow_2 g (jX7_keepRow g n)
  | _ + 1, _ + 3 => fun _ _ _ => none
theorem sjX7_keepRow (g : GE) : ∀ n, Snd mX7_keepRow g 0 (jX7_keepRow g n 0) ∧ Snd mX7_keepRow g 50 (jX7_keepRow g n 1) ∧ Snd mX7_keepRow g 111 (jX7_keepRow g n 2)
  | 0 => ⟨s_none, s_none, s_none⟩
  | n + 1 => by
    obtain ⟨-, h1, h2⟩ := sjX7_keepRow g n
    exact ⟨sbX7_keepRow_0 g _ h1 h2, sbX7_keepRow_1 g _ h1 h2, sbX7_keepRow_2 g _ h1 h2⟩
def kX7_keepRow (g : GE) : KT := jX7_keepRow g g.1 0
theorem sX7_keepRow (g : GE) : Snd mX7_keepRow g 0 (kX7_keepRow g) := (sjX7_keepRow g g.1).1
def fX7_keepRow : FT := fun g av w => if (ent av).length ≤ 2 then kX7_keepRow g [] (entp 2 av) w else none
theorem tX7_keepRow : Mt yX7_keepRow cX7_keepRow 2 none 2 82 fX7_keepRow := Mt.of (K := kX7_keepRow) (by decide +kernel) (fun _ _ _ => rfl) sX7_keepRow
theorem crX7_keepRow : yX7_keepRow.cls ≠ "java/lang/invoke/MethodHandle" ∧ yX7_keepRow.cls ≠ "java/lang/invoke/VarHandle" ∧ (parseMethodDescriptor yX7_keepRow.desc).map (fun d => d.parameters.length) = some 0 := by decide +kernel
theorem dX7_note_0 : decode cX7_note 0 = .ok (.iload_n 1, 1) := by decide +kernel
theorem dX7_note_1 : decode cX7_note 1 = .ok (.ifCond .ne 10, 3) := by decide +kernel
theorem dX7_note_4 : decode cX7_note 4 = .ok (.aload_n 0, 1) := by decide +kernel
theorem dX7_note_5 : decode cX7_note 5 = .ok (.invokevirtual 89, 3) := by decide +kernel
theorem dX7_note_8 : decode cX7_note 8 = .ok (.goto 21, 3) := by decide +kernel
theorem dX7_note_11 : decode cX7_note 11 = .ok (.iload_n 1, 1) := by decide +kernel
theorem dX7_note_12 : decode cX7_note 12 = .ok (.invokestatic 92, 3) := by decide +kernel
theorem dX7_note_15 : decode cX7_note 15 = .ok (.iconst 1, 1) := by decide +kernel
theorem dX7_note_16 : decode cX7_note 16 = .ok (.if_icmp .ne 13, 3) := by decide +kernel
theorem dX7_note_19 : decode cX7_note 19 = .ok (.aload_n 0, 1) := by decide +kernel
theorem dX7_note_20 : decode cX7_note 20 = .ok (.dup, 1) := by decide +kernel
theorem dX7_note_21 : decode cX7_note 21 = .ok (.getfield 57, 3) := by decide +kernel
theorem dX7_note_24 : decode cX7_note 24 = .ok (.iload_n 1, 1) := by decide +kernel
theorem dX7_note_25 : decode cX7_note 25 = .ok (.ior, 1) := by decide +kernel
theorem dX7_note_26 : decode cX7_note 26 = .ok (.putfield 57, 3) := by decide +kernel
theorem dX7_note_29 : decode cX7_note 29 = .ok (.iload_n 1, 1) := by decide +kernel
theorem dX7_note_30 : decode cX7_note 30 = .ok (.bipush 6, 2) := by decide +kernel
theorem dX7_note_32 : decode cX7_note 32 = .ok (.iand, 1) := by decide +kernel
theorem dX7_note_33 : decode cX7_note 33 = .ok (.ifCond .ne 32, 3) := by decide +kernel
theorem dX7_note_36 : decode cX7_note 36 = .ok (.aload_n 0, 1) := by decide +kernel
theorem dX7_note_37 : decode cX7_note 37 = .ok (.getfield 28, 3) := by decide +kernel
theorem dX7_note_40 : decode cX7_note 40 = .ok (.getfield 98, 3) := by decide +kernel
theorem dX7_note_43 : decode cX7_note 43 = .ok (.sipush 1000, 3) := by decide +kernel
theorem dX7_note_46 : decode cX7_note 46 = .ok (.if_icmp .ge 19, 3) := by decide +kernel
theorem dX7_note_49 : decode cX7_note 49 = .ok (.aload_n 0, 1) := by decide +kernel
theorem dX7_note_50 : decode cX7_note 50 = .ok (.getfield 18, 3) := by decide +kernel
theorem dX7_note_53 : decode cX7_note 53 = .ok (.aload_n 0, 1) := by decide +kernel
theorem dX7_note_54 : decode cX7_note 54 = .ok (.getfield 28, 3) := by decide +kernel
theorem dX7_note_57 : decode cX7_note 57 = .ok (.getfield 98, 3) := by decide +kernel
theorem dX7_note_60 : decode cX7_note 60 = .ok (.dup2, 1) := by decide +kernel
theorem dX7_note_61 : decode cX7_note 61 = .ok (.iaload, 1) := by decide +kernel
theorem dX7_note_62 : decode cX7_note 62 = .ok (.iconst 1, 1) := by decide +kernel
theorem dX7_note_63 : decode cX7_note 63 = .ok (.iadd, 1) := by decide +kernel
theorem dX7_note_64 : decode cX7_note 64 = .ok (.iastore, 1) := by decide +kernel
theorem dX7_note_65 : decode cX7_note 65 = .ok (.return_, 1) := by decide +kernel
abbrev mX7_note : MD := (cX7_note, "BlottedDeed$Table", 2, 3, 103, none, "note", [])
def bX7_note_0 (g : GE) (J : Nat → KT) : KT := i_iload 1 (i_ifne (i_iload 1 (i_cs fJ6_bitCount_0f7a4 g 1 (i_push (.int 1) (i_icne (i_jmp [true, true] (J 1)) (i_aload 0 (i_dup (i_getf 7 7 (i_iload 1 (i_ior (i_putf 7 7 .int (i_jmp [true, true] (J 1)))))))))))) (i_aload 0 (i_cv fX7_keepRow g 0 7 (i_jmp [true, true] (J 1)))))
def bX7_note_1 (g : GE) (J : Nat → KT) : KT := i_iload 1 (i_push (.int 6) (i_iand (i_ifne (i_jmp [false, false] (J 2)) (i_aload 0 (i_getf 7 6 (i_getf 4 4 (i_push (.int 1000) (i_icge (i_jmp [false, false] (J 2)) (i_aload 0 (i_getf 7 3 (i_aload 0 (i_getf 7 6 (i_getf 4 4 (i_dup2 (i_iaload (i_push (.int 1) (i_iadd (i_iastore (i_jmp [false, false] (J 2))))))))))))))))))))
def bX7_note_2 (g : GE) (J : Nat → KT) : KT := i_return
theorem sbX7_note_0 (g : GE) (J : Nat → KT) (h1 : Snd mX7_note g 29 (J 1)) (h2 : Snd mX7_note g 65 (J 2)) : Snd mX7_note g 0 (bX7_note_0 g J) := by
  unfold bX7_note_0
  refine s_iload_n (pc := 0) (i := 1) ?_ dX7_note_0 rfl
  refine s_ifne (pc := 1) (tgt := 11) ?_ ?_ dX7_note_1 (by decide)
  · skip
    refine s_iload_n (pc := 11) (i := 1) ?_ dX7_note_11 rfl
    refine s_cs (pc := 12) (n := 1) ?_ tJ6_bitCount_0f7a4 wt_322 wt_323 wt_13 wt_324 ⟨crJ6_bitCount_0f7a4, by decide, by decide⟩ dX7_note_12
    refine s_iconst (pc := 15) (v := 1) ?_ dX7_note_15 (by decide)
    refine s_icne (pc := 16) (tgt := 29) ?_ ?_ dX7_note_16 (by decide)
    · skip
      exact s_fall (pc := 29) h1
    · skip
      refine s_aload_n (pc := 19) (i := 0) ?_ dX7_note_19 rfl
      refine s_dup (pc := 20) ?_ dX7_note_20
      refine s_getf (pc := 21) (ci := 7) (f := 7) (T := TX7) ?_ ginX7 rfl (by decide) wt_347 dX7_note_21
      refine s_iload_n (pc := 24) (i := 1) ?_ dX7_note_24 rfl
      refine s_ior (pc := 25) ?_ dX7_note_25
      refine s_putf (pc := 26) (ci := 7) (f := 7) (T := TX7) (ty0 := tyX7) ?_ ginX7 tyX7_ok nmX7 rfl (by decide) rfl rfl wt_347 dX7_note_26
      exact s_fall (pc := 29) h1
  · skip
    refine s_aload_n (pc := 4) (i := 0) ?_ dX7_note_4 rfl
    refine s_cv (pc := 5) (n := 0) (ci := 7) ?_ tX7_keepRow rfl rfl wt_295 wt_297 wp_3 wt_8 wt_298 ⟨crX7_keepRow, by decide, by decide⟩ dX7_note_5
    exact s_goto (pc := 8) (tgt := 29) h1 dX7_note_8 (by decide)
theorem sbX7_note_1 (g : GE) (J : Nat → KT) (h1 : Snd mX7_note g 29 (J 1)) (h2 : Snd mX7_note g 65 (J 2)) : Snd mX7_note g 29 (bX7_note_1 g J) := by
  unfold bX7_note_1
  refine s_iload_n (pc := 29) (i := 1) ?_ dX7_note_29 rfl
  refine s_bipush (pc := 30) (v := 6) ?_ dX7_note_30 (by decide)
  refine s_iand (pc := 32) ?_ dX7_note_32
  refine s_ifne (pc := 33) (tgt := 65) ?_ ?_ dX7_note_33 (by decide)
  · skip
    exact s_fall (pc := 65) h2
  · skip
    refine s_aload_n (pc := 36) (i := 0) ?_ dX7_note_36 rfl
    refine s_getf (pc := 37) (ci := 7) (f := 6) (T := TX7) ?_ ginX7 rfl (by decide) wt_346 dX7_note_37
    refine s_getf (pc := 40) (ci := 4) (f := 4) (T := TX4) ?_ ginX4 rfl (by decide) wt_240 dX7_note_40
    refine s_sipush (pc := 43) (v := 1000) ?_ dX7_note_43 (by decide)
    refine s_icge (pc := 46) (tgt := 65) ?_ ?_ dX7_note_46 (by decide)
    · skip
      exact s_fall (pc := 65) h2
    · skip
      refine s_aload_n (pc := 49) (i := 0) ?_ dX7_note_49 rfl
      refine s_getf (pc := 50) (ci := 7) (f := 3) (T := TX7) ?_ ginX7 rfl (by decide) wt_341 dX7_note_50
      refine s_aload_n (pc := 53) (i := 0) ?_ dX7_note_53 rfl
      refine s_getf (pc := 54) (ci := 7) (f := 6) (T := TX7) ?_ ginX7 rfl (by decide) wt_346 dX7_note_54
      refine s_getf (pc := 57) (ci := 4) (f := 4) (T := TX4) ?_ ginX4 rfl (by decide) wt_240 dX7_note_57
      refine s_dup2 (pc := 60) ?_ dX7_note_60
      refine s_iaload (pc := 61) ?_ dX7_note_61
      refine s_iconst (pc := 62) (v := 1) ?_ dX7_note_62 (by decide)
      refine s_iadd (pc := 63) ?_ dX7_note_63
      refine s_iastore (pc := 64) ?_ dX7_note_64
      exact s_fall (pc := 65) h2
theorem sbX7_note_2 (g : GE) (J : Nat → KT) (h1 : Snd mX7_note g 29 (J 1)) (h2 : Snd mX7_note g 65 (J 2)) : Snd mX7_note g 65 (bX7_note_2 g J) := by
  unfold bX7_note_2
  exact s_return (pc := 65) rfl dX7_note_65
def jX7_note (g : GE) : Nat → Nat → KT
  | 0, _ => fun _ _ _ => none
  | n + 1, 0 => bX7_note_0 g (jX7_note g n)
  | n + 1, 1 => bX7_note_1 g (jX7_note g n)
  | n + 1, 2 => bX7_note_2 g (jX7_note g n)
  | _ + 1, _ + 3 => fun _ _ _ => none
theorem sjX7_note (g : GE) : ∀ n, Snd mX7_note g 0 (jX7_note g n 0) ∧ Snd mX7_note g 29 (jX7_note g n 1) ∧ Snd mX7_note g 65 (jX7_note g n 2)
  | 0 => ⟨s_none, s_none, s_none⟩
  | n + 1 => by
    obtain ⟨-, h1, h2⟩ := sjX7_note g n
    exact ⟨sbX7_note_0 g _ h1 h2, sbX7_note_1 g _ h1 h2, sbX7_note_2 g _ h1 h2⟩
def kX7_note (g : GE) : KT := jX7_note g g.1 0
theorem sX7_note (g : GE) : Snd mX7_note g 0 (kX7_note g) := (sjX7_note g g.1).1
def fX7_note : FT := fun g av w => if (ent av).length ≤ 2 then kX7_note g [] (entp 2 av) w else none
theorem tX7_note : Mt yX7_note cX7_note 2 none 3 103 fX7_note := Mt.of (K := kX7_note) (by decide +kernel) (fun _ _ _ => rfl) sX7_note
theorem crX7_note : yX7_note.cls ≠ "java/lang/invoke/MethodHandle" ∧ yX7_note.cls ≠ "java/lang/invoke/VarHandle" ∧ (parseMethodDescriptor yX7_note.desc).map (fun d => d.parameters.length) = some 1 := by decide +kernel
theorem dX4_showNext_0 : decode cX4_showNext 0 = .ok (.aload_n 1, 1) := by decide +kernel
theorem dX4_showNext_1 : decode cX4_showNext 1 = .ok (.getfield 45, 3) := by decide +kernel
theorem dX4_showNext_4 : decode cX4_showNext 4 = .ok (.iconst 1, 1) := by decide +kernel
theorem dX4_showNext_5 : decode cX4_showNext 5 = .ok (.isub, 1) := by decide +kernel
theorem dX4_showNext_6 : decode cX4_showNext 6 = .ok (.istore_n 2, 1) := by decide +kernel
theorem dX4_showNext_7 : decode cX4_showNext 7 = .ok (.iload_n 2, 1) := by decide +kernel
theorem dX4_showNext_8 : decode cX4_showNext 8 = .ok (.ifCond .lt 51, 3) := by decide +kernel
theorem dX4_showNext_11 : decode cX4_showNext 11 = .ok (.aload_n 0, 1) := by decide +kernel
theorem dX4_showNext_12 : decode cX4_showNext 12 = .ok (.getfield 15, 3) := by decide +kernel
theorem dX4_showNext_15 : decode cX4_showNext 15 = .ok (.iload_n 2, 1) := by decide +kernel
theorem dX4_showNext_16 : decode cX4_showNext 16 = .ok (.iaload, 1) := by decide +kernel
theorem dX4_showNext_17 : decode cX4_showNext 17 = .ok (.iconst 1, 1) := by decide +kernel
theorem dX4_showNext_18 : decode cX4_showNext 18 = .ok (.iadd, 1) := by decide +kernel
theorem dX4_showNext_19 : decode cX4_showNext 19 = .ok (.aload_n 1, 1) := by decide +kernel
theorem dX4_showNext_20 : decode cX4_showNext 20 = .ok (.getfield 56, 3) := by decide +kernel
theorem dX4_showNext_23 : decode cX4_showNext 23 = .ok (.iload_n 2, 1) := by decide +kernel
theorem dX4_showNext_24 : decode cX4_showNext 24 = .ok (.aaload, 1) := by decide +kernel
theorem dX4_showNext_25 : decode cX4_showNext 25 = .ok (.getfield 60, 3) := by decide +kernel
theorem dX4_showNext_28 : decode cX4_showNext 28 = .ok (.if_icmp .ge 18, 3) := by decide +kernel
theorem dX4_showNext_31 : decode cX4_showNext 31 = .ok (.aload_n 0, 1) := by decide +kernel
theorem dX4_showNext_32 : decode cX4_showNext 32 = .ok (.aload_n 1, 1) := by decide +kernel
theorem dX4_showNext_33 : decode cX4_showNext 33 = .ok (.iload_n 2, 1) := by decide +kernel
theorem dX4_showNext_34 : decode cX4_showNext 34 = .ok (.aload_n 0, 1) := by decide +kernel
theorem dX4_showNext_35 : decode cX4_showNext 35 = .ok (.getfield 15, 3) := by decide +kernel
theorem dX4_showNext_38 : decode cX4_showNext 38 = .ok (.iload_n 2, 1) := by decide +kernel
theorem dX4_showNext_39 : decode cX4_showNext 39 = .ok (.iaload, 1) := by decide +kernel
theorem dX4_showNext_40 : decode cX4_showNext 40 = .ok (.iconst 1, 1) := by decide +kernel
theorem dX4_showNext_41 : decode cX4_showNext 41 = .ok (.iadd, 1) := by decide +kernel
theorem dX4_showNext_42 : decode cX4_showNext 42 = .ok (.invokevirtual 52, 3) := by decide +kernel
theorem dX4_showNext_45 : decode cX4_showNext 45 = .ok (.return_, 1) := by decide +kernel
theorem dX4_showNext_46 : decode cX4_showNext 46 = .ok (.aload_n 0, 1) := by decide +kernel
theorem dX4_showNext_47 : decode cX4_showNext 47 = .ok (.aload_n 1, 1) := by decide +kernel
theorem dX4_showNext_48 : decode cX4_showNext 48 = .ok (.iload_n 2, 1) := by decide +kernel
theorem dX4_showNext_49 : decode cX4_showNext 49 = .ok (.iconst 0, 1) := by decide +kernel
theorem dX4_showNext_50 : decode cX4_showNext 50 = .ok (.invokevirtual 52, 3) := by decide +kernel
theorem dX4_showNext_53 : decode cX4_showNext 53 = .ok (.iinc 2 (-1), 3) := by decide +kernel
theorem dX4_showNext_56 : decode cX4_showNext 56 = .ok (.goto (-49), 3) := by decide +kernel
theorem dX4_showNext_59 : decode cX4_showNext 59 = .ok (.return_, 1) := by decide +kernel
abbrev mX4_showNext : MD := (cX4_showNext, "BlottedDeed$Row", 3, 2, 54, none, "showNext", [])
def bX4_showNext_0 (g : GE) (J : Nat → KT) : KT := i_aload 1 (i_getf 2 13 (i_push (.int 1) (i_isub (i_istore 2 (i_jmp [true, true, true] (J 1))))))
def bX4_showNext_1 (g : GE) (J : Nat → KT) : KT := i_iload 2 (i_iflt (i_return) (i_aload 0 (i_getf 4 1 (i_iload 2 (i_iaload (i_push (.int 1) (i_iadd (i_aload 1 (i_getf 2 8 (i_iload 2 (i_aaload 6 (i_getf 1 1 (i_icge (i_aload 0 (i_aload 1 (i_iload 2 (i_push (.int 0) (i_cv fX4_put g 3 4 (i_iinc 2 (-1) (i_jmp [true, true, true] (J 1)))))))) (i_aload 0 (i_aload 1 (i_iload 2 (i_aload 0 (i_getf 4 1 (i_iload 2 (i_iaload (i_push (.int 1) (i_iadd (i_cv fX4_put g 3 4 (i_return))))))))))))))))))))))))
theorem sbX4_showNext_0 (g : GE) (J : Nat → KT) (h1 : Snd mX4_showNext g 7 (J 1)) : Snd mX4_showNext g 0 (bX4_showNext_0 g J) := by
  unfold bX4_showNext_0
  refine s_aload_n (pc := 0) (i := 1) ?_ dX4_showNext_0 rfl
  refine s_getf (pc := 1) (ci := 2) (f := 13) (T := TX2) ?_ ginX2 rfl (by decide) wt_144 dX4_showNext_1
  refine s_iconst (pc := 4) (v := 1) ?_ dX4_showNext_4 (by decide)
  refine s_isub (pc := 5) ?_ dX4_showNext_5
  refine s_istore_n (pc := 6) (i := 2) ?_ dX4_showNext_6 rfl (by decide)
  exact s_fall (pc := 7) h1
theorem sbX4_showNext_1 (g : GE) (J : Nat → KT) (h1 : Snd mX4_showNext g 7 (J 1)) : Snd mX4_showNext g 7 (bX4_showNext_1 g J) := by
  unfold bX4_showNext_1
  refine s_iload_n (pc := 7) (i := 2) ?_ dX4_showNext_7 rfl
  refine s_iflt (pc := 8) (tgt := 59) ?_ ?_ dX4_showNext_8 (by decide)
  · skip
    exact s_return (pc := 59) rfl dX4_showNext_59
  · skip
    refine s_aload_n (pc := 11) (i := 0) ?_ dX4_showNext_11 rfl
    refine s_getf (pc := 12) (ci := 4) (f := 1) (T := TX4) ?_ ginX4 rfl (by decide) wt_236 dX4_showNext_12
    refine s_iload_n (pc := 15) (i := 2) ?_ dX4_showNext_15 rfl
    refine s_iaload (pc := 16) ?_ dX4_showNext_16
    refine s_iconst (pc := 17) (v := 1) ?_ dX4_showNext_17 (by decide)
    refine s_iadd (pc := 18) ?_ dX4_showNext_18
    refine s_aload_n (pc := 19) (i := 1) ?_ dX4_showNext_19 rfl
    refine s_getf (pc := 20) (ci := 2) (f := 8) (T := TX2) ?_ ginX2 rfl (by decide) wt_126 dX4_showNext_20
    refine s_iload_n (pc := 23) (i := 2) ?_ dX4_showNext_23 rfl
    refine s_aaload (pc := 24) (t := 6) ?_ (by decide) rfl dX4_showNext_24
    refine s_getf (pc := 25) (ci := 1) (f := 1) (T := TX1) ?_ ginX1 rfl (by decide) wt_83 dX4_showNext_25
    refine s_icge (pc := 28) (tgt := 46) ?_ ?_ dX4_showNext_28 (by decide)
    · skip
      refine s_aload_n (pc := 46) (i := 0) ?_ dX4_showNext_46 rfl
      refine s_aload_n (pc := 47) (i := 1) ?_ dX4_showNext_47 rfl
      refine s_iload_n (pc := 48) (i := 2) ?_ dX4_showNext_48 rfl
      refine s_iconst (pc := 49) (v := 0) ?_ dX4_showNext_49 (by decide)
      refine s_cv (pc := 50) (n := 3) (ci := 4) ?_ tX4_put rfl rfl wt_332 wt_334 wp_4 wt_9 wt_335 ⟨crX4_put, by decide, by decide⟩ dX4_showNext_50
      refine s_iinc (pc := 53) (i := 2) (v := (-1)) ?_ dX4_showNext_53 (by decide) (by decide)
      exact s_goto (pc := 56) (tgt := 7) h1 dX4_showNext_56 (by decide)
    · skip
      refine s_aload_n (pc := 31) (i := 0) ?_ dX4_showNext_31 rfl
      refine s_aload_n (pc := 32) (i := 1) ?_ dX4_showNext_32 rfl
      refine s_iload_n (pc := 33) (i := 2) ?_ dX4_showNext_33 rfl
      refine s_aload_n (pc := 34) (i := 0) ?_ dX4_showNext_34 rfl
      refine s_getf (pc := 35) (ci := 4) (f := 1) (T := TX4) ?_ ginX4 rfl (by decide) wt_236 dX4_showNext_35
      refine s_iload_n (pc := 38) (i := 2) ?_ dX4_showNext_38 rfl
      refine s_iaload (pc := 39) ?_ dX4_showNext_39
      refine s_iconst (pc := 40) (v := 1) ?_ dX4_showNext_40 (by decide)
      refine s_iadd (pc := 41) ?_ dX4_showNext_41
      refine s_cv (pc := 42) (n := 3) (ci := 4) ?_ tX4_put rfl rfl wt_332 wt_334 wp_4 wt_9 wt_335 ⟨crX4_put, by decide, by decide⟩ dX4_showNext_42
      exact s_return (pc := 45) rfl dX4_showNext_45
def jX4_showNext (g : GE) : Nat → Nat → KT
  | 0, _ => fun _ _ _ => none
  | n + 1, 0 => bX4_showNext_0 g (jX4_showNext g n)
  | n + 1, 1 => bX4_showNext_1 g (jX4_showNext g n)
  | _ + 1, _ + 2 => fun _ _ _ => none
theorem sjX4_showNext (g : GE) : ∀ n, Snd mX4_showNext g 0 (jX4_showNext g n 0) ∧ Snd mX4_showNext g 7 (jX4_showNext g n 1)
  | 0 => ⟨s_none, s_none⟩
  | n + 1 => by
    obtain ⟨-, h1⟩ := sjX4_showNext g n
    exact ⟨sbX4_showNext_0 g _ h1, sbX4_showNext_1 g _ h1⟩
def kX4_showNext (g : GE) : KT := jX4_showNext g g.1 0
theorem sX4_showNext (g : GE) : Snd mX4_showNext g 0 (kX4_showNext g) := (sjX4_showNext g g.1).1
def fX4_showNext : FT := fun g av w => if (ent av).length ≤ 3 then kX4_showNext g [] (entp 3 av) w else none
theorem tX4_showNext : Mt yX4_showNext cX4_showNext 3 none 2 54 fX4_showNext := Mt.of (K := kX4_showNext) (by decide +kernel) (fun _ _ _ => rfl) sX4_showNext
theorem crX4_showNext : yX4_showNext.cls ≠ "java/lang/invoke/MethodHandle" ∧ yX4_showNext.cls ≠ "java/lang/invoke/VarHandle" ∧ (parseMethodDescriptor yX4_showNext.desc).map (fun d => d.parameters.length) = some 1 := by decide +kernel
theorem dX7_gather_0 : decode cX7_gather 0 = .ok (.aload_n 0, 1) := by decide +kernel
theorem dX7_gather_1 : decode cX7_gather 1 = .ok (.aload_n 1, 1) := by decide +kernel
theorem dX7_gather_2 : decode cX7_gather 2 = .ok (.putfield 45, 3) := by decide +kernel
theorem dX7_gather_5 : decode cX7_gather 5 = .ok (.aload_n 0, 1) := by decide +kernel
theorem dX7_gather_6 : decode cX7_gather 6 = .ok (.iconst 0, 1) := by decide +kernel
theorem dX7_gather_7 : decode cX7_gather 7 = .ok (.putfield 53, 3) := by decide +kernel
theorem dX7_gather_10 : decode cX7_gather 10 = .ok (.aload_n 0, 1) := by decide +kernel
theorem dX7_gather_11 : decode cX7_gather 11 = .ok (.iconst 0, 1) := by decide +kernel
theorem dX7_gather_12 : decode cX7_gather 12 = .ok (.putfield 57, 3) := by decide +kernel
theorem dX7_gather_15 : decode cX7_gather 15 = .ok (.aload_n 0, 1) := by decide +kernel
theorem dX7_gather_16 : decode cX7_gather 16 = .ok (.getfield 18, 3) := by decide +kernel
theorem dX7_gather_19 : decode cX7_gather 19 = .ok (.iconst 0, 1) := by decide +kernel
theorem dX7_gather_20 : decode cX7_gather 20 = .ok (.invokestatic 60, 3) := by decide +kernel
theorem dX7_gather_23 : decode cX7_gather 23 = .ok (.aload_n 0, 1) := by decide +kernel
theorem dX7_gather_24 : decode cX7_gather 24 = .ok (.getfield 35, 3) := by decide +kernel
theorem dX7_gather_27 : decode cX7_gather 27 = .ok (.iconst (-1), 1) := by decide +kernel
theorem dX7_gather_28 : decode cX7_gather 28 = .ok (.invokestatic 60, 3) := by decide +kernel
theorem dX7_gather_31 : decode cX7_gather 31 = .ok (.aload_n 0, 1) := by decide +kernel
theorem dX7_gather_32 : decode cX7_gather 32 = .ok (.getfield 38, 3) := by decide +kernel
theorem dX7_gather_35 : decode cX7_gather 35 = .ok (.iconst (-1), 1) := by decide +kernel
theorem dX7_gather_36 : decode cX7_gather 36 = .ok (.invokestatic 60, 3) := by decide +kernel
theorem dX7_gather_39 : decode cX7_gather 39 = .ok (.aload_n 0, 1) := by decide +kernel
theorem dX7_gather_40 : decode cX7_gather 40 = .ok (.getfield 28, 3) := by decide +kernel
theorem dX7_gather_43 : decode cX7_gather 43 = .ok (.aload_n 0, 1) := by decide +kernel
theorem dX7_gather_44 : decode cX7_gather 44 = .ok (.getfield 45, 3) := by decide +kernel
theorem dX7_gather_47 : decode cX7_gather 47 = .ok (.invokevirtual 66, 3) := by decide +kernel
theorem dX7_gather_50 : decode cX7_gather 50 = .ok (.iconst 0, 1) := by decide +kernel
theorem dX7_gather_51 : decode cX7_gather 51 = .ok (.istore_n 2, 1) := by decide +kernel
theorem dX7_gather_52 : decode cX7_gather 52 = .ok (.iload_n 2, 1) := by decide +kernel
theorem dX7_gather_53 : decode cX7_gather 53 = .ok (.aload_n 0, 1) := by decide +kernel
theorem dX7_gather_54 : decode cX7_gather 54 = .ok (.getfield 45, 3) := by decide +kernel
theorem dX7_gather_57 : decode cX7_gather 57 = .ok (.getfield 69, 3) := by decide +kernel
theorem dX7_gather_60 : decode cX7_gather 60 = .ok (.if_icmp .ge 47, 3) := by decide +kernel
theorem dX7_gather_63 : decode cX7_gather 63 = .ok (.aload_n 0, 1) := by decide +kernel
theorem dX7_gather_64 : decode cX7_gather 64 = .ok (.getfield 28, 3) := by decide +kernel
theorem dX7_gather_67 : decode cX7_gather 67 = .ok (.aload_n 0, 1) := by decide +kernel
theorem dX7_gather_68 : decode cX7_gather 68 = .ok (.getfield 45, 3) := by decide +kernel
theorem dX7_gather_71 : decode cX7_gather 71 = .ok (.iconst (-1), 1) := by decide +kernel
theorem dX7_gather_72 : decode cX7_gather 72 = .ok (.invokevirtual 74, 3) := by decide +kernel
theorem dX7_gather_75 : decode cX7_gather 75 = .ok (.aload_n 0, 1) := by decide +kernel
theorem dX7_gather_76 : decode cX7_gather 76 = .ok (.aload_n 0, 1) := by decide +kernel
theorem dX7_gather_77 : decode cX7_gather 77 = .ok (.getfield 28, 3) := by decide +kernel
theorem dX7_gather_80 : decode cX7_gather 80 = .ok (.aload_n 0, 1) := by decide +kernel
theorem dX7_gather_81 : decode cX7_gather 81 = .ok (.getfield 45, 3) := by decide +kernel
theorem dX7_gather_84 : decode cX7_gather 84 = .ok (.invokevirtual 78, 3) := by decide +kernel
theorem dX7_gather_87 : decode cX7_gather 87 = .ok (.invokevirtual 82, 3) := by decide +kernel
theorem dX7_gather_90 : decode cX7_gather 90 = .ok (.aload_n 0, 1) := by decide +kernel
theorem dX7_gather_91 : decode cX7_gather 91 = .ok (.getfield 28, 3) := by decide +kernel
theorem dX7_gather_94 : decode cX7_gather 94 = .ok (.aload_n 0, 1) := by decide +kernel
theorem dX7_gather_95 : decode cX7_gather 95 = .ok (.getfield 45, 3) := by decide +kernel
theorem dX7_gather_98 : decode cX7_gather 98 = .ok (.invokevirtual 86, 3) := by decide +kernel
theorem dX7_gather_101 : decode cX7_gather 101 = .ok (.iinc 2 1, 3) := by decide +kernel
theorem dX7_gather_104 : decode cX7_gather 104 = .ok (.goto (-52), 3) := by decide +kernel
theorem dX7_gather_107 : decode cX7_gather 107 = .ok (.return_, 1) := by decide +kernel
abbrev mX7_gather : MD := (cX7_gather, "BlottedDeed$Table", 3, 4, 124, none, "gather", [])
def bX7_gather_0 (g : GE) (J : Nat → KT) : KT := i_aload 0 (i_aload 1 (i_putf 7 5 (.object "BlottedDeed$Deed") (i_aload 0 (i_push (.int 0) (i_putf 7 2 .int (i_aload 0 (i_push (.int 0) (i_putf 7 7 .int (i_aload 0 (i_getf 7 3 (i_push (.int 0) (i_cs fJ7_fill_53178 g 2 (i_aload 0 (i_getf 7 9 (i_push (.int (-1)) (i_cs fJ7_fill_53178 g 2 (i_aload 0 (i_getf 7 10 (i_push (.int (-1)) (i_cs fJ7_fill_53178 g 2 (i_aload 0 (i_getf 7 6 (i_aload 0 (i_getf 7 5 (i_cv fX4_showFirst g 1 4 (i_push (.int 0) (i_istore 2 (i_jmp [true, false, true] (J 1)))))))))))))))))))))))))))))
def bX7_gather_1 (g : GE) (J : Nat → KT) : KT := i_iload 2 (i_aload 0 (i_getf 7 5 (i_getf 2 15 (i_icge (i_return) (i_aload 0 (i_getf 7 6 (i_aload 0 (i_getf 7 5 (i_push (.int (-1)) (i_cv fX4_reckon g 2 4 (i_aload 0 (i_aload 0 (i_getf 7 6 (i_aload 0 (i_getf 7 5 (i_cv fX4_broken g 1 4 (i_cv fX7_note g 1 7 (i_aload 0 (i_getf 7 6 (i_aload 0 (i_getf 7 5 (i_cv fX4_showNext g 1 4 (i_iinc 2 1 (i_jmp [true, false, true] (J 1)))))))))))))))))))))))))
theorem sbX7_gather_0 (g : GE) (J : Nat → KT) (h1 : Snd mX7_gather g 52 (J 1)) : Snd mX7_gather g 0 (bX7_gather_0 g J) := by
  unfold bX7_gather_0
  refine s_aload_n (pc := 0) (i := 0) ?_ dX7_gather_0 rfl
  refine s_aload_n (pc := 1) (i := 1) ?_ dX7_gather_1 rfl
  refine s_putf (pc := 2) (ci := 7) (f := 5) (T := TX7) (ty0 := tyX7) ?_ ginX7 tyX7_ok nmX7 rfl (by decide) rfl rfl wt_345 dX7_gather_2
  refine s_aload_n (pc := 5) (i := 0) ?_ dX7_gather_5 rfl
  refine s_iconst (pc := 6) (v := 0) ?_ dX7_gather_6 (by decide)
  refine s_putf (pc := 7) (ci := 7) (f := 2) (T := TX7) (ty0 := tyX7) ?_ ginX7 tyX7_ok nmX7 rfl (by decide) rfl rfl wt_339 dX7_gather_7
  refine s_aload_n (pc := 10) (i := 0) ?_ dX7_gather_10 rfl
  refine s_iconst (pc := 11) (v := 0) ?_ dX7_gather_11 (by decide)
  refine s_putf (pc := 12) (ci := 7) (f := 7) (T := TX7) (ty0 := tyX7) ?_ ginX7 tyX7_ok nmX7 rfl (by decide) rfl rfl wt_347 dX7_gather_12
  refine s_aload_n (pc := 15) (i := 0) ?_ dX7_gather_15 rfl
  refine s_getf (pc := 16) (ci := 7) (f := 3) (T := TX7) ?_ ginX7 rfl (by decide) wt_341 dX7_gather_16
  refine s_iconst (pc := 19) (v := 0) ?_ dX7_gather_19 (by decide)
  refine s_cs (pc := 20) (n := 2) ?_ tJ7_fill_53178 wt_260 wt_261 wt_10 wt_262 ⟨crJ7_fill_53178, by decide, by decide⟩ dX7_gather_20
  refine s_aload_n (pc := 23) (i := 0) ?_ dX7_gather_23 rfl
  refine s_getf (pc := 24) (ci := 7) (f := 9) (T := TX7) ?_ ginX7 rfl (by decide) wt_349 dX7_gather_24
  refine s_iconst (pc := 27) (v := (-1)) ?_ dX7_gather_27 (by decide)
  refine s_cs (pc := 28) (n := 2) ?_ tJ7_fill_53178 wt_260 wt_261 wt_10 wt_262 ⟨crJ7_fill_53178, by decide, by decide⟩ dX7_gather_28
  refine s_aload_n (pc := 31) (i := 0) ?_ dX7_gather_31 rfl
  refine s_getf (pc := 32) (ci := 7) (f := 10) (T := TX7) ?_ ginX7 rfl (by decide) wt_350 dX7_gather_32
  refine s_iconst (pc := 35) (v := (-1)) ?_ dX7_gather_35 (by decide)
  refine s_cs (pc := 36) (n := 2) ?_ tJ7_fill_53178 wt_260 wt_261 wt_10 wt_262 ⟨crJ7_fill_53178, by decide, by decide⟩ dX7_gather_36
  refine s_aload_n (pc := 39) (i := 0) ?_ dX7_gather_39 rfl
  refine s_getf (pc := 40) (ci := 7) (f := 6) (T := TX7) ?_ ginX7 rfl (by decide) wt_346 dX7_gather_40
  refine s_aload_n (pc := 43) (i := 0) ?_ dX7_gather_43 rfl
  refine s_getf (pc := 44) (ci := 7) (f := 5) (T := TX7) ?_ ginX7 rfl (by decide) wt_345 dX7_gather_44
  refine s_cv (pc := 47) (n := 1) (ci := 4) ?_ tX4_showFirst rfl rfl wt_263 wt_264 wt_265 wt_9 wt_266 ⟨crX4_showFirst, by decide, by decide⟩ dX7_gather_47
  refine s_iconst (pc := 50) (v := 0) ?_ dX7_gather_50 (by decide)
  refine s_istore_n (pc := 51) (i := 2) ?_ dX7_gather_51 rfl (by decide)
  exact s_fall (pc := 52) h1
theorem sbX7_gather_1 (g : GE) (J : Nat → KT) (h1 : Snd mX7_gather g 52 (J 1)) : Snd mX7_gather g 52 (bX7_gather_1 g J) := by
  unfold bX7_gather_1
  refine s_iload_n (pc := 52) (i := 2) ?_ dX7_gather_52 rfl
  refine s_aload_n (pc := 53) (i := 0) ?_ dX7_gather_53 rfl
  refine s_getf (pc := 54) (ci := 7) (f := 5) (T := TX7) ?_ ginX7 rfl (by decide) wt_345 dX7_gather_54
  refine s_getf (pc := 57) (ci := 2) (f := 15) (T := TX2) ?_ ginX2 rfl (by decide) wt_154 dX7_gather_57
  refine s_icge (pc := 60) (tgt := 107) ?_ ?_ dX7_gather_60 (by decide)
  · skip
    exact s_return (pc := 107) rfl dX7_gather_107
  · skip
    refine s_aload_n (pc := 63) (i := 0) ?_ dX7_gather_63 rfl
    refine s_getf (pc := 64) (ci := 7) (f := 6) (T := TX7) ?_ ginX7 rfl (by decide) wt_346 dX7_gather_64
    refine s_aload_n (pc := 67) (i := 0) ?_ dX7_gather_67 rfl
    refine s_getf (pc := 68) (ci := 7) (f := 5) (T := TX7) ?_ ginX7 rfl (by decide) wt_345 dX7_gather_68
    refine s_iconst (pc := 71) (v := (-1)) ?_ dX7_gather_71 (by decide)
    refine s_cv (pc := 72) (n := 2) (ci := 4) ?_ tX4_reckon rfl rfl wt_271 wt_272 wt_273 wt_9 wt_274 ⟨crX4_reckon, by decide, by decide⟩ dX7_gather_72
    refine s_aload_n (pc := 75) (i := 0) ?_ dX7_gather_75 rfl
    refine s_aload_n (pc := 76) (i := 0) ?_ dX7_gather_76 rfl
    refine s_getf (pc := 77) (ci := 7) (f := 6) (T := TX7) ?_ ginX7 rfl (by decide) wt_346 dX7_gather_77
    refine s_aload_n (pc := 80) (i := 0) ?_ dX7_gather_80 rfl
    refine s_getf (pc := 81) (ci := 7) (f := 5) (T := TX7) ?_ ginX7 rfl (by decide) wt_345 dX7_gather_81
    refine s_cv (pc := 84) (n := 1) (ci := 4) ?_ tX4_broken rfl rfl wt_287 wt_288 wt_289 wt_9 wt_290 ⟨crX4_broken, by decide, by decide⟩ dX7_gather_84
    refine s_cv (pc := 87) (n := 1) (ci := 7) ?_ tX7_note rfl rfl wt_291 wt_293 wp_2 wt_8 wt_294 ⟨crX7_note, by decide, by decide⟩ dX7_gather_87
    refine s_aload_n (pc := 90) (i := 0) ?_ dX7_gather_90 rfl
    refine s_getf (pc := 91) (ci := 7) (f := 6) (T := TX7) ?_ ginX7 rfl (by decide) wt_346 dX7_gather_91
    refine s_aload_n (pc := 94) (i := 0) ?_ dX7_gather_94 rfl
    refine s_getf (pc := 95) (ci := 7) (f := 5) (T := TX7) ?_ ginX7 rfl (by decide) wt_345 dX7_gather_95
    refine s_cv (pc := 98) (n := 1) (ci := 4) ?_ tX4_showNext rfl rfl wt_328 wt_329 wt_330 wt_9 wt_331 ⟨crX4_showNext, by decide, by decide⟩ dX7_gather_98
    refine s_iinc (pc := 101) (i := 2) (v := 1) ?_ dX7_gather_101 (by decide) (by decide)
    exact s_goto (pc := 104) (tgt := 52) h1 dX7_gather_104 (by decide)
def jX7_gather (g : GE) : Nat → Nat → KT
  | 0, _ => fun _ _ _ => none
  | n + 1, 0 => bX7_gather_0 g (jX7_gather g n)
  | n + 1, 1 => bX7_gather_1 g (jX7_gather g n)
  | _ + 1, _ + 2 => fun _ _ _ => none
theorem sjX7_gather (g : GE) : ∀ n, Snd mX7_gather g 0 (jX7_gather g n 0) ∧ Snd mX7_gather g 52 (jX7_gather g n 1)
  | 0 => ⟨s_none, s_none⟩
  | n + 1 => by
    obtain ⟨-, h1⟩ := sjX7_gather g n
    exact ⟨sbX7_gather_0 g _ h1, sbX7_gather_1 g _ h1⟩
def kX7_gather (g : GE) : KT := jX7_gather g g.1 0
theorem sX7_gather (g : GE) : Snd mX7_gather g 0 (kX7_gather g) := (sjX7_gather g g.1).1
def fX7_gather : FT := fun g av w => if (ent av).length ≤ 3 then kX7_gather g [] (entp 3 av) w else none
theorem tX7_gather : Mt yX7_gather cX7_gather 3 none 4 124 fX7_gather := Mt.of (K := kX7_gather) (by decide +kernel) (fun _ _ _ => rfl) sX7_gather
theorem crX7_gather : yX7_gather.cls ≠ "java/lang/invoke/MethodHandle" ∧ yX7_gather.cls ≠ "java/lang/invoke/VarHandle" ∧ (parseMethodDescriptor yX7_gather.desc).map (fun d => d.parameters.length) = some 1 := by decide +kernel
theorem dX10_deed_0 : decode cX10_deed 0 = .ok (.aload_n 0, 1) := by decide +kernel
theorem dX10_deed_1 : decode cX10_deed 1 = .ok (.iload_n 1, 1) := by decide +kernel
theorem dX10_deed_2 : decode cX10_deed 2 = .ok (.ifCond .lt 15, 3) := by decide +kernel
theorem dX10_deed_5 : decode cX10_deed 5 = .ok (.iload_n 1, 1) := by decide +kernel
theorem dX10_deed_6 : decode cX10_deed 6 = .ok (.aload_n 0, 1) := by decide +kernel
theorem dX10_deed_7 : decode cX10_deed 7 = .ok (.getfield 73, 3) := by decide +kernel
theorem dX10_deed_10 : decode cX10_deed 10 = .ok (.if_icmp .gt 7, 3) := by decide +kernel
theorem dX10_deed_13 : decode cX10_deed 13 = .ok (.iconst 1, 1) := by decide +kernel
theorem dX10_deed_14 : decode cX10_deed 14 = .ok (.goto 4, 3) := by decide +kernel
theorem dX10_deed_17 : decode cX10_deed 17 = .ok (.iconst 0, 1) := by decide +kernel
theorem dX10_deed_18 : decode cX10_deed 18 = .ok (.invokevirtual 80, 3) := by decide +kernel
theorem dX10_deed_21 : decode cX10_deed 21 = .ok (.aload_n 0, 1) := by decide +kernel
theorem dX10_deed_22 : decode cX10_deed 22 = .ok (.iconst 0, 1) := by decide +kernel
theorem dX10_deed_23 : decode cX10_deed 23 = .ok (.putfield 73, 3) := by decide +kernel
theorem dX10_deed_26 : decode cX10_deed 26 = .ok (.aload_n 0, 1) := by decide +kernel
theorem dX10_deed_27 : decode cX10_deed 27 = .ok (.getfield 28, 3) := by decide +kernel
theorem dX10_deed_30 : decode cX10_deed 30 = .ok (.aload_n 0, 1) := by decide +kernel
theorem dX10_deed_31 : decode cX10_deed 31 = .ok (.getfield 20, 3) := by decide +kernel
theorem dX10_deed_34 : decode cX10_deed 34 = .ok (.iload_n 1, 1) := by decide +kernel
theorem dX10_deed_35 : decode cX10_deed 35 = .ok (.invokevirtual 84, 3) := by decide +kernel
theorem dX10_deed_38 : decode cX10_deed 38 = .ok (.ifCond .ne 25, 3) := by decide +kernel
theorem dX10_deed_41 : decode cX10_deed 41 = .ok (.aload_n 0, 1) := by decide +kernel
theorem dX10_deed_42 : decode cX10_deed 42 = .ok (.aload_n 0, 1) := by decide +kernel
theorem dX10_deed_43 : decode cX10_deed 43 = .ok (.getfield 28, 3) := by decide +kernel
theorem dX10_deed_46 : decode cX10_deed 46 = .ok (.getfield 88, 3) := by decide +kernel
theorem dX10_deed_49 : decode cX10_deed 49 = .ok (.putfield 66, 3) := by decide +kernel
theorem dX10_deed_52 : decode cX10_deed 52 = .ok (.aload_n 0, 1) := by decide +kernel
theorem dX10_deed_53 : decode cX10_deed 53 = .ok (.getfield 28, 3) := by decide +kernel
theorem dX10_deed_56 : decode cX10_deed 56 = .ok (.getfield 89, 3) := by decide +kernel
theorem dX10_deed_59 : decode cX10_deed 59 = .ok (.bipush 10, 2) := by decide +kernel
theorem dX10_deed_61 : decode cX10_deed 61 = .ok (.isub, 1) := by decide +kernel
theorem dX10_deed_62 : decode cX10_deed 62 = .ok (.ireturn, 1) := by decide +kernel
theorem dX10_deed_63 : decode cX10_deed 63 = .ok (.aload_n 0, 1) := by decide +kernel
theorem dX10_deed_64 : decode cX10_deed 64 = .ok (.iconst (-1), 1) := by decide +kernel
theorem dX10_deed_65 : decode cX10_deed 65 = .ok (.putfield 66, 3) := by decide +kernel
theorem dX10_deed_68 : decode cX10_deed 68 = .ok (.aload_n 0, 1) := by decide +kernel
theorem dX10_deed_69 : decode cX10_deed 69 = .ok (.getfield 16, 3) := by decide +kernel
theorem dX10_deed_72 : decode cX10_deed 72 = .ok (.astore_n 2, 1) := by decide +kernel
theorem dX10_deed_73 : decode cX10_deed 73 = .ok (.aload_n 0, 1) := by decide +kernel
theorem dX10_deed_74 : decode cX10_deed 74 = .ok (.aload_n 0, 1) := by decide +kernel
theorem dX10_deed_75 : decode cX10_deed 75 = .ok (.getfield 20, 3) := by decide +kernel
theorem dX10_deed_78 : decode cX10_deed 78 = .ok (.putfield 16, 3) := by decide +kernel
theorem dX10_deed_81 : decode cX10_deed 81 = .ok (.aload_n 0, 1) := by decide +kernel
theorem dX10_deed_82 : decode cX10_deed 82 = .ok (.aload_n 2, 1) := by decide +kernel
theorem dX10_deed_83 : decode cX10_deed 83 = .ok (.putfield 20, 3) := by decide +kernel
theorem dX10_deed_86 : decode cX10_deed 86 = .ok (.aload_n 0, 1) := by decide +kernel
theorem dX10_deed_87 : decode cX10_deed 87 = .ok (.getfield 58, 3) := by decide +kernel
theorem dX10_deed_90 : decode cX10_deed 90 = .ok (.invokevirtual 92, 3) := by decide +kernel
theorem dX10_deed_93 : decode cX10_deed 93 = .ok (.aload_n 0, 1) := by decide +kernel
theorem dX10_deed_94 : decode cX10_deed 94 = .ok (.iconst 0, 1) := by decide +kernel
theorem dX10_deed_95 : decode cX10_deed 95 = .ok (.putfield 95, 3) := by decide +kernel
theorem dX10_deed_98 : decode cX10_deed 98 = .ok (.aload_n 0, 1) := by decide +kernel
theorem dX10_deed_99 : decode cX10_deed 99 = .ok (.getfield 37, 3) := by decide +kernel
theorem dX10_deed_102 : decode cX10_deed 102 = .ok (.aload_n 0, 1) := by decide +kernel
theorem dX10_deed_103 : decode cX10_deed 103 = .ok (.getfield 16, 3) := by decide +kernel
theorem dX10_deed_106 : decode cX10_deed 106 = .ok (.invokevirtual 98, 3) := by decide +kernel
theorem dX10_deed_109 : decode cX10_deed 109 = .ok (.aload_n 0, 1) := by decide +kernel
theorem dX10_deed_110 : decode cX10_deed 110 = .ok (.getfield 16, 3) := by decide +kernel
theorem dX10_deed_113 : decode cX10_deed 113 = .ok (.getfield 101, 3) := by decide +kernel
theorem dX10_deed_116 : decode cX10_deed 116 = .ok (.ireturn, 1) := by decide +kernel
abbrev mX10_deed : MD := (cX10_deed, "BlottedDeed", 3, 10, 224, (some .int), "deed", [])
def bX10_deed_0 (g : GE) (J : Nat → KT) : KT := i_aload 0 (i_iload 1 (i_iflt (i_jmp [true, true, false] (J 1)) (i_iload 1 (i_aload 0 (i_getf 9 1 (i_icgt (i_jmp [true, true, false] (J 1)) (i_push (.int 1) (i_jmp [true, true, false] (J 2)))))))))
def bX10_deed_1 (g : GE) (J : Nat → KT) : KT := i_push (.int 0) (i_jmp [true, true, false] (J 2))
def bX10_deed_2 (g : GE) (J : Nat → KT) : KT := i_cvX fX10_needArgument g 1 9 (i_aload 0 (i_push (.int 0) (i_putf 9 1 .int (i_aload 0 (i_getf 9 2 (i_aload 0 (i_getf 9 4 (i_iload 1 (i_cv fX6_copyOut g 2 6 (i_ifne (i_aload 0 (i_push (.int (-1)) (i_putf 9 11 .int (i_aload 0 (i_getf 9 3 (i_astore 2 (i_aload 0 (i_aload 0 (i_getf 9 4 (i_putf 9 3 (.object "BlottedDeed$Deed") (i_aload 0 (i_aload 2 (i_putf 9 4 (.object "BlottedDeed$Deed") (i_aload 0 (i_getf 9 8 (i_cv fX8_clear g 0 8 (i_aload 0 (i_push (.int 0) (i_putf 9 10 .int (i_aload 0 (i_getf 9 5 (i_aload 0 (i_getf 9 3 (i_cv fX7_gather g 1 7 (i_aload 0 (i_getf 9 3 (i_getf 2 13 (i_ireturn)))))))))))))))))))))))))))) (i_aload 0 (i_aload 0 (i_getf 9 2 (i_getf 6 7 (i_putf 9 11 .int (i_aload 0 (i_getf 9 2 (i_getf 6 6 (i_push (.int 10) (i_isub (i_ireturn)))))))))))))))))))))
theorem sbX10_deed_0 (g : GE) (J : Nat → KT) (h1 : Snd mX10_deed g 17 (J 1)) (h2 : Snd mX10_deed g 18 (J 2)) : Snd mX10_deed g 0 (bX10_deed_0 g J) := by
  unfold bX10_deed_0
  refine s_aload_n (pc := 0) (i := 0) ?_ dX10_deed_0 rfl
  refine s_iload_n (pc := 1) (i := 1) ?_ dX10_deed_1 rfl
  refine s_iflt (pc := 2) (tgt := 17) ?_ ?_ dX10_deed_2 (by decide)
  · skip
    exact s_fall (pc := 17) h1
  · skip
    refine s_iload_n (pc := 5) (i := 1) ?_ dX10_deed_5 rfl
    refine s_aload_n (pc := 6) (i := 0) ?_ dX10_deed_6 rfl
    refine s_getf (pc := 7) (ci := 9) (f := 1) (T := TX10) ?_ ginX10 rfl (by decide) wt_455 dX10_deed_7
    refine s_icgt (pc := 10) (tgt := 17) ?_ ?_ dX10_deed_10 (by decide)
    · skip
      exact s_fall (pc := 17) h1
    · skip
      refine s_iconst (pc := 13) (v := 1) ?_ dX10_deed_13 (by decide)
      exact s_goto (pc := 14) (tgt := 18) h2 dX10_deed_14 (by decide)
theorem sbX10_deed_1 (g : GE) (J : Nat → KT) (h1 : Snd mX10_deed g 17 (J 1)) (h2 : Snd mX10_deed g 18 (J 2)) : Snd mX10_deed g 17 (bX10_deed_1 g J) := by
  unfold bX10_deed_1
  refine s_iconst (pc := 17) (v := 0) ?_ dX10_deed_17 (by decide)
  exact s_fall (pc := 18) h2
theorem sbX10_deed_2 (g : GE) (J : Nat → KT) (h1 : Snd mX10_deed g 17 (J 1)) (h2 : Snd mX10_deed g 18 (J 2)) : Snd mX10_deed g 18 (bX10_deed_2 g J) := by
  unfold bX10_deed_2
  refine s_cvX (pc := 18) (n := 1) (ci := 9) ?_ tX10_needArgument rfl rfl wt_626 wt_628 wp_8 wt_1 wt_629 ⟨crX10_needArgument, by decide, by decide⟩ rfl dX10_deed_18
  refine s_aload_n (pc := 21) (i := 0) ?_ dX10_deed_21 rfl
  refine s_iconst (pc := 22) (v := 0) ?_ dX10_deed_22 (by decide)
  refine s_putf (pc := 23) (ci := 9) (f := 1) (T := TX10) (ty0 := tyX10) ?_ ginX10 tyX10_ok nmX10 rfl (by decide) rfl rfl wt_455 dX10_deed_23
  refine s_aload_n (pc := 26) (i := 0) ?_ dX10_deed_26 rfl
  refine s_getf (pc := 27) (ci := 9) (f := 2) (T := TX10) ?_ ginX10 rfl (by decide) wt_456 dX10_deed_27
  refine s_aload_n (pc := 30) (i := 0) ?_ dX10_deed_30 rfl
  refine s_getf (pc := 31) (ci := 9) (f := 4) (T := TX10) ?_ ginX10 rfl (by decide) wt_458 dX10_deed_31
  refine s_iload_n (pc := 34) (i := 1) ?_ dX10_deed_34 rfl
  refine s_cv (pc := 35) (n := 2) (ci := 6) ?_ tX6_copyOut rfl rfl wt_697 wt_698 wt_699 wt_7 wt_700 ⟨crX6_copyOut, by decide, by decide⟩ dX10_deed_35
  refine s_ifne (pc := 38) (tgt := 63) ?_ ?_ dX10_deed_38 (by decide)
  · skip
    refine s_aload_n (pc := 63) (i := 0) ?_ dX10_deed_63 rfl
    refine s_iconst (pc := 64) (v := (-1)) ?_ dX10_deed_64 (by decide)
    refine s_putf (pc := 65) (ci := 9) (f := 11) (T := TX10) (ty0 := tyX10) ?_ ginX10 tyX10_ok nmX10 rfl (by decide) rfl rfl wt_465 dX10_deed_65
    refine s_aload_n (pc := 68) (i := 0) ?_ dX10_deed_68 rfl
    refine s_getf (pc := 69) (ci := 9) (f := 3) (T := TX10) ?_ ginX10 rfl (by decide) wt_457 dX10_deed_69
    refine s_astore_n (pc := 72) (i := 2) ?_ dX10_deed_72 rfl (by decide)
    refine s_aload_n (pc := 73) (i := 0) ?_ dX10_deed_73 rfl
    refine s_aload_n (pc := 74) (i := 0) ?_ dX10_deed_74 rfl
    refine s_getf (pc := 75) (ci := 9) (f := 4) (T := TX10) ?_ ginX10 rfl (by decide) wt_458 dX10_deed_75
    refine s_putf (pc := 78) (ci := 9) (f := 3) (T := TX10) (ty0 := tyX10) ?_ ginX10 tyX10_ok nmX10 rfl (by decide) rfl rfl wt_457 dX10_deed_78
    refine s_aload_n (pc := 81) (i := 0) ?_ dX10_deed_81 rfl
    refine s_aload_n (pc := 82) (i := 2) ?_ dX10_deed_82 rfl
    refine s_putf (pc := 83) (ci := 9) (f := 4) (T := TX10) (ty0 := tyX10) ?_ ginX10 tyX10_ok nmX10 rfl (by decide) rfl rfl wt_458 dX10_deed_83
    refine s_aload_n (pc := 86) (i := 0) ?_ dX10_deed_86 rfl
    refine s_getf (pc := 87) (ci := 9) (f := 8) (T := TX10) ?_ ginX10 rfl (by decide) wt_462 dX10_deed_87
    refine s_cv (pc := 90) (n := 0) (ci := 8) ?_ tX8_clear rfl rfl wt_552 wt_553 wt_554 wt_16 wt_555 ⟨crX8_clear, by decide, by decide⟩ dX10_deed_90
    refine s_aload_n (pc := 93) (i := 0) ?_ dX10_deed_93 rfl
    refine s_iconst (pc := 94) (v := 0) ?_ dX10_deed_94 (by decide)
    refine s_putf (pc := 95) (ci := 9) (f := 10) (T := TX10) (ty0 := tyX10) ?_ ginX10 tyX10_ok nmX10 rfl (by decide) rfl rfl wt_464 dX10_deed_95
    refine s_aload_n (pc := 98) (i := 0) ?_ dX10_deed_98 rfl
    refine s_getf (pc := 99) (ci := 9) (f := 5) (T := TX10) ?_ ginX10 rfl (by decide) wt_459 dX10_deed_99
    refine s_aload_n (pc := 102) (i := 0) ?_ dX10_deed_102 rfl
    refine s_getf (pc := 103) (ci := 9) (f := 3) (T := TX10) ?_ ginX10 rfl (by decide) wt_457 dX10_deed_103
    refine s_cv (pc := 106) (n := 1) (ci := 7) ?_ tX7_gather rfl rfl wt_912 wt_257 wt_258 wt_8 wt_259 ⟨crX7_gather, by decide, by decide⟩ dX10_deed_106
    refine s_aload_n (pc := 109) (i := 0) ?_ dX10_deed_109 rfl
    refine s_getf (pc := 110) (ci := 9) (f := 3) (T := TX10) ?_ ginX10 rfl (by decide) wt_457 dX10_deed_110
    refine s_getf (pc := 113) (ci := 2) (f := 13) (T := TX2) ?_ ginX2 rfl (by decide) wt_146 dX10_deed_113
    exact s_ireturn (pc := 116) rfl dX10_deed_116
  · skip
    refine s_aload_n (pc := 41) (i := 0) ?_ dX10_deed_41 rfl
    refine s_aload_n (pc := 42) (i := 0) ?_ dX10_deed_42 rfl
    refine s_getf (pc := 43) (ci := 9) (f := 2) (T := TX10) ?_ ginX10 rfl (by decide) wt_456 dX10_deed_43
    refine s_getf (pc := 46) (ci := 6) (f := 7) (T := TX6) ?_ ginX6 rfl (by decide) wt_204 dX10_deed_46
    refine s_putf (pc := 49) (ci := 9) (f := 11) (T := TX10) (ty0 := tyX10) ?_ ginX10 tyX10_ok nmX10 rfl (by decide) rfl rfl wt_465 dX10_deed_49
    refine s_aload_n (pc := 52) (i := 0) ?_ dX10_deed_52 rfl
    refine s_getf (pc := 53) (ci := 9) (f := 2) (T := TX10) ?_ ginX10 rfl (by decide) wt_456 dX10_deed_53
    refine s_getf (pc := 56) (ci := 6) (f := 6) (T := TX6) ?_ ginX6 rfl (by decide) wt_202 dX10_deed_56
    refine s_bipush (pc := 59) (v := 10) ?_ dX10_deed_59 (by decide)
    refine s_isub (pc := 61) ?_ dX10_deed_61
    exact s_ireturn (pc := 62) rfl dX10_deed_62
def jX10_deed (g : GE) : Nat → Nat → KT
  | 0, _ => fun _ _ _ => none
  | n + 1, 0 => bX10_deed_0 g (jX10_deed g n)
  | n + 1, 1 => bX10_deed_1 g (jX10_deed g n)
  | n + 1, 2 => bX10_deed_2 g (jX10_deed g n)
  | _ + 1, _ + 3 => fun _ _ _ => none
theorem sjX10_deed (g : GE) : ∀ n, Snd mX10_deed g 0 (jX10_deed g n 0) ∧ Snd mX10_deed g 17 (jX10_deed g n 1) ∧ Snd mX10_deed g 18 (jX10_deed g n 2)
  | 0 => ⟨s_none, s_none, s_none⟩
  | n + 1 => by
    obtain ⟨-, h1, h2⟩ := sjX10_deed g n
    exact ⟨sbX10_deed_0 g _ h1 h2, sbX10_deed_1 g _ h1 h2, sbX10_deed_2 g _ h1 h2⟩
def kX10_deed (g : GE) : KT := jX10_deed g g.1 0
theorem sX10_deed (g : GE) : Snd mX10_deed g 0 (kX10_deed g) := (sjX10_deed g g.1).1
def fX10_deed : FT := fun g av w => if (ent av).length ≤ 3 then kX10_deed g [] (entp 3 av) w else none
theorem tX10_deed : Mt yX10_deed cX10_deed 3 (some .int) 10 224 fX10_deed := Mt.of (K := kX10_deed) (by decide +kernel) (fun _ _ _ => rfl) sX10_deed
theorem crX10_deed : yX10_deed.cls ≠ "java/lang/invoke/MethodHandle" ∧ yX10_deed.cls ≠ "java/lang/invoke/VarHandle" ∧ (parseMethodDescriptor yX10_deed.desc).map (fun d => d.parameters.length) = some 1 := by decide +kernel
theorem dX10_fault_0 : decode cX10_fault 0 = .ok (.aload_n 0, 1) := by decide +kernel
theorem dX10_fault_1 : decode cX10_fault 1 = .ok (.getfield 66, 3) := by decide +kernel
theorem dX10_fault_4 : decode cX10_fault 4 = .ok (.ireturn, 1) := by decide +kernel
abbrev mX10_fault : MD := (cX10_fault, "BlottedDeed", 1, 1, 30, (some .int), "fault", [])
def bX10_fault_0 (g : GE) (J : Nat → KT) : KT := i_aload 0 (i_getf 9 11 (i_ireturn))
theorem sbX10_fault_0 (g : GE) (J : Nat → KT)  : Snd mX10_fault g 0 (bX10_fault_0 g J) := by
  unfold bX10_fault_0
  refine s_aload_n (pc := 0) (i := 0) ?_ dX10_fault_0 rfl
  refine s_getf (pc := 1) (ci := 9) (f := 11) (T := TX10) ?_ ginX10 rfl (by decide) wt_465 dX10_fault_1
  exact s_ireturn (pc := 4) rfl dX10_fault_4
def kX10_fault (g : GE) : KT := bX10_fault_0 g (fun _ _ _ _ => none)
theorem sX10_fault (g : GE) : Snd mX10_fault g 0 (kX10_fault g) := sbX10_fault_0 g _
def fX10_fault : FT := fun g av w => if (ent av).length ≤ 1 then kX10_fault g [] (entp 1 av) w else none
theorem tX10_fault : Mt yX10_fault cX10_fault 1 (some .int) 1 30 fX10_fault := Mt.of (K := kX10_fault) (by decide +kernel) (fun _ _ _ => rfl) sX10_fault
theorem crX10_fault : yX10_fault.cls ≠ "java/lang/invoke/MethodHandle" ∧ yX10_fault.cls ≠ "java/lang/invoke/VarHandle" ∧ (parseMethodDescriptor yX10_fault.desc).map (fun d => d.parameters.length) = some 0 := by decide +kernel
theorem dX10_putBytes_0 : decode cX10_putBytes 0 = .ok (.bipush 24, 2) := by decide +kernel
theorem dX10_putBytes_2 : decode cX10_putBytes 2 = .ok (.istore_n 2, 1) := by decide +kernel
theorem dX10_putBytes_3 : decode cX10_putBytes 3 = .ok (.iload_n 2, 1) := by decide +kernel
theorem dX10_putBytes_4 : decode cX10_putBytes 4 = .ok (.ifCond .lt 45, 3) := by decide +kernel
theorem dX10_putBytes_7 : decode cX10_putBytes 7 = .ok (.aload_n 0, 1) := by decide +kernel
theorem dX10_putBytes_8 : decode cX10_putBytes 8 = .ok (.getfield 73, 3) := by decide +kernel
theorem dX10_putBytes_11 : decode cX10_putBytes 11 = .ok (.sipush 600, 3) := by decide +kernel
theorem dX10_putBytes_14 : decode cX10_putBytes 14 = .ok (.if_icmp .ge 35, 3) := by decide +kernel
theorem dX10_putBytes_17 : decode cX10_putBytes 17 = .ok (.aload_n 0, 1) := by decide +kernel
theorem dX10_putBytes_18 : decode cX10_putBytes 18 = .ok (.getfield 9, 3) := by decide +kernel
theorem dX10_putBytes_21 : decode cX10_putBytes 21 = .ok (.aload_n 0, 1) := by decide +kernel
theorem dX10_putBytes_22 : decode cX10_putBytes 22 = .ok (.getfield 73, 3) := by decide +kernel
theorem dX10_putBytes_25 : decode cX10_putBytes 25 = .ok (.iload_n 1, 1) := by decide +kernel
theorem dX10_putBytes_26 : decode cX10_putBytes 26 = .ok (.iload_n 2, 1) := by decide +kernel
theorem dX10_putBytes_27 : decode cX10_putBytes 27 = .ok (.iushr, 1) := by decide +kernel
theorem dX10_putBytes_28 : decode cX10_putBytes 28 = .ok (.sipush 255, 3) := by decide +kernel
theorem dX10_putBytes_31 : decode cX10_putBytes 31 = .ok (.iand, 1) := by decide +kernel
theorem dX10_putBytes_32 : decode cX10_putBytes 32 = .ok (.iastore, 1) := by decide +kernel
theorem dX10_putBytes_33 : decode cX10_putBytes 33 = .ok (.aload_n 0, 1) := by decide +kernel
theorem dX10_putBytes_34 : decode cX10_putBytes 34 = .ok (.dup, 1) := by decide +kernel
theorem dX10_putBytes_35 : decode cX10_putBytes 35 = .ok (.getfield 73, 3) := by decide +kernel
theorem dX10_putBytes_38 : decode cX10_putBytes 38 = .ok (.iconst 1, 1) := by decide +kernel
theorem dX10_putBytes_39 : decode cX10_putBytes 39 = .ok (.iadd, 1) := by decide +kernel
theorem dX10_putBytes_40 : decode cX10_putBytes 40 = .ok (.putfield 73, 3) := by decide +kernel
theorem dX10_putBytes_43 : decode cX10_putBytes 43 = .ok (.iinc 2 (-8), 3) := by decide +kernel
theorem dX10_putBytes_46 : decode cX10_putBytes 46 = .ok (.goto (-43), 3) := by decide +kernel
theorem dX10_putBytes_49 : decode cX10_putBytes 49 = .ok (.return_, 1) := by decide +kernel
abbrev mX10_putBytes : MD := (cX10_putBytes, "BlottedDeed", 3, 1, 30, none, "putBytes", [])
def bX10_putBytes_0 (g : GE) (J : Nat → KT) : KT := i_push (.int 24) (i_istore 2 (i_jmp [true, true, true] (J 1)))
def bX10_putBytes_1 (g : GE) (J : Nat → KT) : KT := i_iload 2 (i_iflt (i_jmp [false, false, false] (J 2)) (i_aload 0 (i_getf 9 1 (i_push (.int 600) (i_icge (i_jmp [false, false, false] (J 2)) (i_aload 0 (i_getf 9 0 (i_aload 0 (i_getf 9 1 (i_iload 1 (i_iload 2 (i_iushr (i_push (.int 255) (i_iand (i_iastore (i_aload 0 (i_dup (i_getf 9 1 (i_push (.int 1) (i_iadd (i_putf 9 1 .int (i_iinc 2 (-8) (i_jmp [true, true, true] (J 1))))))))))))))))))))))))
def bX10_putBytes_2 (g : GE) (J : Nat → KT) : KT := i_return
theorem sbX10_putBytes_0 (g : GE) (J : Nat → KT) (h1 : Snd mX10_putBytes g 3 (J 1)) (h2 : Snd mX10_putBytes g 49 (J 2)) : Snd mX10_putBytes g 0 (bX10_putBytes_0 g J) := by
  unfold bX10_putBytes_0
  refine s_bipush (pc := 0) (v := 24) ?_ dX10_putBytes_0 (by decide)
  refine s_istore_n (pc := 2) (i := 2) ?_ dX10_putBytes_2 rfl (by decide)
  exact s_fall (pc := 3) h1
theorem sbX10_putBytes_1 (g : GE) (J : Nat → KT) (h1 : Snd mX10_putBytes g 3 (J 1)) (h2 : Snd mX10_putBytes g 49 (J 2)) : Snd mX10_putBytes g 3 (bX10_putBytes_1 g J) := by
  unfold bX10_putBytes_1
  refine s_iload_n (pc := 3) (i := 2) ?_ dX10_putBytes_3 rfl
  refine s_iflt (pc := 4) (tgt := 49) ?_ ?_ dX10_putBytes_4 (by decide)
  · skip
    exact s_fall (pc := 49) h2
  · skip
    refine s_aload_n (pc := 7) (i := 0) ?_ dX10_putBytes_7 rfl
    refine s_getf (pc := 8) (ci := 9) (f := 1) (T := TX10) ?_ ginX10 rfl (by decide) wt_455 dX10_putBytes_8
    refine s_sipush (pc := 11) (v := 600) ?_ dX10_putBytes_11 (by decide)
    refine s_icge (pc := 14) (tgt := 49) ?_ ?_ dX10_putBytes_14 (by decide)
    · skip
      exact s_fall (pc := 49) h2
    · skip
      refine s_aload_n (pc := 17) (i := 0) ?_ dX10_putBytes_17 rfl
      refine s_getf (pc := 18) (ci := 9) (f := 0) (T := TX10) ?_ ginX10 rfl (by decide) wt_454 dX10_putBytes_18
      refine s_aload_n (pc := 21) (i := 0) ?_ dX10_putBytes_21 rfl
      refine s_getf (pc := 22) (ci := 9) (f := 1) (T := TX10) ?_ ginX10 rfl (by decide) wt_455 dX10_putBytes_22
      refine s_iload_n (pc := 25) (i := 1) ?_ dX10_putBytes_25 rfl
      refine s_iload_n (pc := 26) (i := 2) ?_ dX10_putBytes_26 rfl
      refine s_iushr (pc := 27) ?_ dX10_putBytes_27
      refine s_sipush (pc := 28) (v := 255) ?_ dX10_putBytes_28 (by decide)
      refine s_iand (pc := 31) ?_ dX10_putBytes_31
      refine s_iastore (pc := 32) ?_ dX10_putBytes_32
      refine s_aload_n (pc := 33) (i := 0) ?_ dX10_putBytes_33 rfl
      refine s_dup (pc := 34) ?_ dX10_putBytes_34
      refine s_getf (pc := 35) (ci := 9) (f := 1) (T := TX10) ?_ ginX10 rfl (by decide) wt_455 dX10_putBytes_35
      refine s_iconst (pc := 38) (v := 1) ?_ dX10_putBytes_38 (by decide)
      refine s_iadd (pc := 39) ?_ dX10_putBytes_39
      refine s_putf (pc := 40) (ci := 9) (f := 1) (T := TX10) (ty0 := tyX10) ?_ ginX10 tyX10_ok nmX10 rfl (by decide) rfl rfl wt_455 dX10_putBytes_40
      refine s_iinc (pc := 43) (i := 2) (v := (-8)) ?_ dX10_putBytes_43 (by decide) (by decide)
      exact s_goto (pc := 46) (tgt := 3) h1 dX10_putBytes_46 (by decide)
theorem sbX10_putBytes_2 (g : GE) (J : Nat → KT) (h1 : Snd mX10_putBytes g 3 (J 1)) (h2 : Snd mX10_putBytes g 49 (J 2)) : Snd mX10_putBytes g 49 (bX10_putBytes_2 g J) := by
  unfold bX10_putBytes_2
  exact s_return (pc := 49) rfl dX10_putBytes_49
def jX10_putBytes (g : GE) : Nat → Nat → KT
  | 0, _ => fun _ _ _ => none
  | n + 1, 0 => bX10_putBytes_0 g (jX10_putBytes g n)
  | n + 1, 1 => bX10_putBytes_1 g (jX10_putBytes g n)
  | n + 1, 2 => bX10_putBytes_2 g (jX10_putBytes g n)
  | _ + 1, _ + 3 => fun _ _ _ => none
theorem sjX10_putBytes (g : GE) : ∀ n, Snd mX10_putBytes g 0 (jX10_putBytes g n 0) ∧ Snd mX10_putBytes g 3 (jX10_putBytes g n 1) ∧ Snd mX10_putBytes g 49 (jX10_putBytes g n 2)
  | 0 => ⟨s_none, s_none, s_none⟩
  | n + 1 => by
    obtain ⟨-, h1, h2⟩ := sjX10_putBytes g n
    exact ⟨sbX10_putBytes_0 g _ h1 h2, sbX10_putBytes_1 g _ h1 h2, sbX10_putBytes_2 g _ h1 h2⟩
def kX10_putBytes (g : GE) : KT := jX10_putBytes g g.1 0
theorem sX10_putBytes (g : GE) : Snd mX10_putBytes g 0 (kX10_putBytes g) := (sjX10_putBytes g g.1).1
def fX10_putBytes : FT := fun g av w => if (ent av).length ≤ 3 then kX10_putBytes g [] (entp 3 av) w else none
theorem tX10_putBytes : Mt yX10_putBytes cX10_putBytes 3 none 1 30 fX10_putBytes := Mt.of (K := kX10_putBytes) (by decide +kernel) (fun _ _ _ => rfl) sX10_putBytes
theorem crX10_putBytes : yX10_putBytes.cls ≠ "java/lang/invoke/MethodHandle" ∧ yX10_putBytes.cls ≠ "java/lang/invoke/VarHandle" ∧ (parseMethodDescriptor yX10_putBytes.desc).map (fun d => d.parameters.length) = some 1 := by decide +kernel
theorem dX10_feed_0 : decode cX10_feed 0 = .ok (.aload_n 0, 1) := by decide +kernel
theorem dX10_feed_1 : decode cX10_feed 1 = .ok (.getfield 73, 3) := by decide +kernel
theorem dX10_feed_4 : decode cX10_feed 4 = .ok (.bipush 20, 2) := by decide +kernel
theorem dX10_feed_6 : decode cX10_feed 6 = .ok (.iadd, 1) := by decide +kernel
theorem dX10_feed_7 : decode cX10_feed 7 = .ok (.sipush 600, 3) := by decide +kernel
theorem dX10_feed_10 : decode cX10_feed 10 = .ok (.if_icmp .le 5, 3) := by decide +kernel
theorem dX10_feed_13 : decode cX10_feed 13 = .ok (.iconst (-1), 1) := by decide +kernel
theorem dX10_feed_14 : decode cX10_feed 14 = .ok (.ireturn, 1) := by decide +kernel
theorem dX10_feed_15 : decode cX10_feed 15 = .ok (.aload_n 0, 1) := by decide +kernel
theorem dX10_feed_16 : decode cX10_feed 16 = .ok (.iload_n 1, 1) := by decide +kernel
theorem dX10_feed_17 : decode cX10_feed 17 = .ok (.invokevirtual 76, 3) := by decide +kernel
theorem dX10_feed_20 : decode cX10_feed 20 = .ok (.aload_n 0, 1) := by decide +kernel
theorem dX10_feed_21 : decode cX10_feed 21 = .ok (.iload_n 2, 1) := by decide +kernel
theorem dX10_feed_22 : decode cX10_feed 22 = .ok (.invokevirtual 76, 3) := by decide +kernel
theorem dX10_feed_25 : decode cX10_feed 25 = .ok (.aload_n 0, 1) := by decide +kernel
theorem dX10_feed_26 : decode cX10_feed 26 = .ok (.iload_n 3, 1) := by decide +kernel
theorem dX10_feed_27 : decode cX10_feed 27 = .ok (.invokevirtual 76, 3) := by decide +kernel
theorem dX10_feed_30 : decode cX10_feed 30 = .ok (.aload_n 0, 1) := by decide +kernel
theorem dX10_feed_31 : decode cX10_feed 31 = .ok (.iload 4, 2) := by decide +kernel
theorem dX10_feed_33 : decode cX10_feed 33 = .ok (.invokevirtual 76, 3) := by decide +kernel
theorem dX10_feed_36 : decode cX10_feed 36 = .ok (.aload_n 0, 1) := by decide +kernel
theorem dX10_feed_37 : decode cX10_feed 37 = .ok (.iload 5, 2) := by decide +kernel
theorem dX10_feed_39 : decode cX10_feed 39 = .ok (.invokevirtual 76, 3) := by decide +kernel
theorem dX10_feed_42 : decode cX10_feed 42 = .ok (.aload_n 0, 1) := by decide +kernel
theorem dX10_feed_43 : decode cX10_feed 43 = .ok (.getfield 73, 3) := by decide +kernel
theorem dX10_feed_46 : decode cX10_feed 46 = .ok (.ireturn, 1) := by decide +kernel
abbrev mX10_feed : MD := (cX10_feed, "BlottedDeed", 6, 2, 52, (some .int), "feed", [])
def bX10_feed_0 (g : GE) (J : Nat → KT) : KT := i_aload 0 (i_getf 9 1 (i_push (.int 20) (i_iadd (i_push (.int 600) (i_icle (i_aload 0 (i_iload 1 (i_cv fX10_putBytes g 1 9 (i_aload 0 (i_iload 2 (i_cv fX10_putBytes g 1 9 (i_aload 0 (i_iload 3 (i_cv fX10_putBytes g 1 9 (i_aload 0 (i_iload 4 (i_cv fX10_putBytes g 1 9 (i_aload 0 (i_iload 5 (i_cv fX10_putBytes g 1 9 (i_aload 0 (i_getf 9 1 (i_ireturn)))))))))))))))))) (i_push (.int (-1)) (i_ireturn)))))))
theorem sbX10_feed_0 (g : GE) (J : Nat → KT)  : Snd mX10_feed g 0 (bX10_feed_0 g J) := by
  unfold bX10_feed_0
  refine s_aload_n (pc := 0) (i := 0) ?_ dX10_feed_0 rfl
  refine s_getf (pc := 1) (ci := 9) (f := 1) (T := TX10) ?_ ginX10 rfl (by decide) wt_455 dX10_feed_1
  refine s_bipush (pc := 4) (v := 20) ?_ dX10_feed_4 (by decide)
  refine s_iadd (pc := 6) ?_ dX10_feed_6
  refine s_sipush (pc := 7) (v := 600) ?_ dX10_feed_7 (by decide)
  refine s_icle (pc := 10) (tgt := 15) ?_ ?_ dX10_feed_10 (by decide)
  · skip
    refine s_aload_n (pc := 15) (i := 0) ?_ dX10_feed_15 rfl
    refine s_iload_n (pc := 16) (i := 1) ?_ dX10_feed_16 rfl
    refine s_cv (pc := 17) (n := 1) (ci := 9) ?_ tX10_putBytes rfl rfl wt_498 wt_500 wp_5 wt_1 wt_501 ⟨crX10_putBytes, by decide, by decide⟩ dX10_feed_17
    refine s_aload_n (pc := 20) (i := 0) ?_ dX10_feed_20 rfl
    refine s_iload_n (pc := 21) (i := 2) ?_ dX10_feed_21 rfl
    refine s_cv (pc := 22) (n := 1) (ci := 9) ?_ tX10_putBytes rfl rfl wt_498 wt_500 wp_5 wt_1 wt_501 ⟨crX10_putBytes, by decide, by decide⟩ dX10_feed_22
    refine s_aload_n (pc := 25) (i := 0) ?_ dX10_feed_25 rfl
    refine s_iload_n (pc := 26) (i := 3) ?_ dX10_feed_26 rfl
    refine s_cv (pc := 27) (n := 1) (ci := 9) ?_ tX10_putBytes rfl rfl wt_498 wt_500 wp_5 wt_1 wt_501 ⟨crX10_putBytes, by decide, by decide⟩ dX10_feed_27
    refine s_aload_n (pc := 30) (i := 0) ?_ dX10_feed_30 rfl
    refine s_iload (pc := 31) (i := 4) ?_ dX10_feed_31
    refine s_cv (pc := 33) (n := 1) (ci := 9) ?_ tX10_putBytes rfl rfl wt_498 wt_500 wp_5 wt_1 wt_501 ⟨crX10_putBytes, by decide, by decide⟩ dX10_feed_33
    refine s_aload_n (pc := 36) (i := 0) ?_ dX10_feed_36 rfl
    refine s_iload (pc := 37) (i := 5) ?_ dX10_feed_37
    refine s_cv (pc := 39) (n := 1) (ci := 9) ?_ tX10_putBytes rfl rfl wt_498 wt_500 wp_5 wt_1 wt_501 ⟨crX10_putBytes, by decide, by decide⟩ dX10_feed_39
    refine s_aload_n (pc := 42) (i := 0) ?_ dX10_feed_42 rfl
    refine s_getf (pc := 43) (ci := 9) (f := 1) (T := TX10) ?_ ginX10 rfl (by decide) wt_455 dX10_feed_43
    exact s_ireturn (pc := 46) rfl dX10_feed_46
  · skip
    refine s_iconst (pc := 13) (v := (-1)) ?_ dX10_feed_13 (by decide)
    exact s_ireturn (pc := 14) rfl dX10_feed_14
def kX10_feed (g : GE) : KT := bX10_feed_0 g (fun _ _ _ _ => none)
theorem sX10_feed (g : GE) : Snd mX10_feed g 0 (kX10_feed g) := sbX10_feed_0 g _
def fX10_feed : FT := fun g av w => if (ent av).length ≤ 6 then kX10_feed g [] (entp 6 av) w else none
theorem tX10_feed : Mt yX10_feed cX10_feed 6 (some .int) 2 52 fX10_feed := Mt.of (K := kX10_feed) (by decide +kernel) (fun _ _ _ => rfl) sX10_feed
theorem crX10_feed : yX10_feed.cls ≠ "java/lang/invoke/MethodHandle" ∧ yX10_feed.cls ≠ "java/lang/invoke/VarHandle" ∧ (parseMethodDescriptor yX10_feed.desc).map (fun d => d.parameters.length) = some 5 := by decide +kernel
theorem dX10_needThing_0 : decode cX10_needThing 0 = .ok (.aload_n 0, 1) := by decide +kernel
theorem dX10_needThing_1 : decode cX10_needThing 1 = .ok (.iload_n 1, 1) := by decide +kernel
theorem dX10_needThing_2 : decode cX10_needThing 2 = .ok (.aload_n 0, 1) := by decide +kernel
theorem dX10_needThing_3 : decode cX10_needThing 3 = .ok (.getfield 16, 3) := by decide +kernel
theorem dX10_needThing_6 : decode cX10_needThing 6 = .ok (.getfield 111, 3) := by decide +kernel
theorem dX10_needThing_9 : decode cX10_needThing 9 = .ok (.invokevirtual 266, 3) := by decide +kernel
theorem dX10_needThing_12 : decode cX10_needThing 12 = .ok (.return_, 1) := by decide +kernel
abbrev mX10_needThing : MD := (cX10_needThing, "BlottedDeed", 2, 7, 122, none, "needThing", [])
def bX10_needThing_0 (g : GE) (J : Nat → KT) : KT := i_aload 0 (i_iload 1 (i_aload 0 (i_getf 9 3 (i_getf 2 10 (i_cvX fX10_needIndex g 2 9 (i_return))))))
theorem sbX10_needThing_0 (g : GE) (J : Nat → KT)  : Snd mX10_needThing g 0 (bX10_needThing_0 g J) := by
  unfold bX10_needThing_0
  refine s_aload_n (pc := 0) (i := 0) ?_ dX10_needThing_0 rfl
  refine s_iload_n (pc := 1) (i := 1) ?_ dX10_needThing_1 rfl
  refine s_aload_n (pc := 2) (i := 0) ?_ dX10_needThing_2 rfl
  refine s_getf (pc := 3) (ci := 9) (f := 3) (T := TX10) ?_ ginX10 rfl (by decide) wt_457 dX10_needThing_3
  refine s_getf (pc := 6) (ci := 2) (f := 10) (T := TX2) ?_ ginX2 rfl (by decide) wt_134 dX10_needThing_6
  refine s_cvX (pc := 9) (n := 2) (ci := 9) ?_ tX10_needIndex rfl rfl wt_971 wt_973 wp_34 wt_1 wt_974 ⟨crX10_needIndex, by decide, by decide⟩ rfl dX10_needThing_9
  exact s_return (pc := 12) rfl dX10_needThing_12
def kX10_needThing (g : GE) : KT := bX10_needThing_0 g (fun _ _ _ _ => none)
theorem sX10_needThing (g : GE) : Snd mX10_needThing g 0 (kX10_needThing g) := sbX10_needThing_0 g _
def fX10_needThing : FT := fun g av w => if (ent av).length ≤ 2 then kX10_needThing g [] (entp 2 av) w else none
theorem tX10_needThing : Mt yX10_needThing cX10_needThing 2 none 7 122 fX10_needThing := Mt.of (K := kX10_needThing) (by decide +kernel) (fun _ _ _ => rfl) sX10_needThing
theorem crX10_needThing : yX10_needThing.cls ≠ "java/lang/invoke/MethodHandle" ∧ yX10_needThing.cls ≠ "java/lang/invoke/VarHandle" ∧ (parseMethodDescriptor yX10_needThing.desc).map (fun d => d.parameters.length) = some 1 := by decide +kernel
theorem dX7_groupsBy_0 : decode cX7_groupsBy 0 = .ok (.iconst 1, 1) := by decide +kernel
theorem dX7_groupsBy_1 : decode cX7_groupsBy 1 = .ok (.istore_n 2, 1) := by decide +kernel
theorem dX7_groupsBy_2 : decode cX7_groupsBy 2 = .ok (.iconst 0, 1) := by decide +kernel
theorem dX7_groupsBy_3 : decode cX7_groupsBy 3 = .ok (.istore_n 3, 1) := by decide +kernel
theorem dX7_groupsBy_4 : decode cX7_groupsBy 4 = .ok (.iload_n 3, 1) := by decide +kernel
theorem dX7_groupsBy_5 : decode cX7_groupsBy 5 = .ok (.aload_n 0, 1) := by decide +kernel
theorem dX7_groupsBy_6 : decode cX7_groupsBy 6 = .ok (.getfield 45, 3) := by decide +kernel
theorem dX7_groupsBy_9 : decode cX7_groupsBy 9 = .ok (.getfield 111, 3) := by decide +kernel
theorem dX7_groupsBy_12 : decode cX7_groupsBy 12 = .ok (.if_icmp .ge 33, 3) := by decide +kernel
theorem dX7_groupsBy_15 : decode cX7_groupsBy 15 = .ok (.iload_n 1, 1) := by decide +kernel
theorem dX7_groupsBy_16 : decode cX7_groupsBy 16 = .ok (.iload_n 3, 1) := by decide +kernel
theorem dX7_groupsBy_17 : decode cX7_groupsBy 17 = .ok (.ishr, 1) := by decide +kernel
theorem dX7_groupsBy_18 : decode cX7_groupsBy 18 = .ok (.iconst 1, 1) := by decide +kernel
theorem dX7_groupsBy_19 : decode cX7_groupsBy 19 = .ok (.iand, 1) := by decide +kernel
theorem dX7_groupsBy_20 : decode cX7_groupsBy 20 = .ok (.iconst 1, 1) := by decide +kernel
theorem dX7_groupsBy_21 : decode cX7_groupsBy 21 = .ok (.if_icmp .ne 18, 3) := by decide +kernel
theorem dX7_groupsBy_24 : decode cX7_groupsBy 24 = .ok (.iload_n 2, 1) := by decide +kernel
theorem dX7_groupsBy_25 : decode cX7_groupsBy 25 = .ok (.aload_n 0, 1) := by decide +kernel
theorem dX7_groupsBy_26 : decode cX7_groupsBy 26 = .ok (.getfield 45, 3) := by decide +kernel
theorem dX7_groupsBy_29 : decode cX7_groupsBy 29 = .ok (.getfield 180, 3) := by decide +kernel
theorem dX7_groupsBy_32 : decode cX7_groupsBy 32 = .ok (.iload_n 3, 1) := by decide +kernel
theorem dX7_groupsBy_33 : decode cX7_groupsBy 33 = .ok (.aaload, 1) := by decide +kernel
theorem dX7_groupsBy_34 : decode cX7_groupsBy 34 = .ok (.getfield 184, 3) := by decide +kernel
theorem dX7_groupsBy_37 : decode cX7_groupsBy 37 = .ok (.imul, 1) := by decide +kernel
theorem dX7_groupsBy_38 : decode cX7_groupsBy 38 = .ok (.istore_n 2, 1) := by decide +kernel
theorem dX7_groupsBy_39 : decode cX7_groupsBy 39 = .ok (.iinc 3 1, 3) := by decide +kernel
theorem dX7_groupsBy_42 : decode cX7_groupsBy 42 = .ok (.goto (-38), 3) := by decide +kernel
theorem dX7_groupsBy_45 : decode cX7_groupsBy 45 = .ok (.iload_n 2, 1) := by decide +kernel
theorem dX7_groupsBy_46 : decode cX7_groupsBy 46 = .ok (.ireturn, 1) := by decide +kernel
abbrev mX7_groupsBy : MD := (cX7_groupsBy, "BlottedDeed$Table", 4, 1, 30, (some .int), "groupsBy", [])
def bX7_groupsBy_0 (g : GE) (J : Nat → KT) : KT := i_push (.int 1) (i_istore 2 (i_push (.int 0) (i_istore 3 (i_jmp [true, true, true, true] (J 1)))))
def bX7_groupsBy_1 (g : GE) (J : Nat → KT) : KT := i_iload 3 (i_aload 0 (i_getf 7 5 (i_getf 2 13 (i_icge (i_iload 2 (i_ireturn)) (i_iload 1 (i_iload 3 (i_ishr (i_push (.int 1) (i_iand (i_push (.int 1) (i_icne (i_jmp [true, true, true, true] (J 2)) (i_iload 2 (i_aload 0 (i_getf 7 5 (i_getf 2 8 (i_iload 3 (i_aaload 6 (i_getf 1 1 (i_imul (i_istore 2 (i_jmp [true, true, true, true] (J 2))))))))))))))))))))))
def bX7_groupsBy_2 (g : GE) (J : Nat → KT) : KT := i_iinc 3 1 (i_jmp [true, true, true, true] (J 1))
theorem sbX7_groupsBy_0 (g : GE) (J : Nat → KT) (h1 : Snd mX7_groupsBy g 4 (J 1)) (h2 : Snd mX7_groupsBy g 39 (J 2)) : Snd mX7_groupsBy g 0 (bX7_groupsBy_0 g J) := by
  unfold bX7_groupsBy_0
  refine s_iconst (pc := 0) (v := 1) ?_ dX7_groupsBy_0 (by decide)
  refine s_istore_n (pc := 1) (i := 2) ?_ dX7_groupsBy_1 rfl (by decide)
  refine s_iconst (pc := 2) (v := 0) ?_ dX7_groupsBy_2 (by decide)
  refine s_istore_n (pc := 3) (i := 3) ?_ dX7_groupsBy_3 rfl (by decide)
  exact s_fall (pc := 4) h1
theorem sbX7_groupsBy_1 (g : GE) (J : Nat → KT) (h1 : Snd mX7_groupsBy g 4 (J 1)) (h2 : Snd mX7_groupsBy g 39 (J 2)) : Snd mX7_groupsBy g 4 (bX7_groupsBy_1 g J) := by
  unfold bX7_groupsBy_1
  refine s_iload_n (pc := 4) (i := 3) ?_ dX7_groupsBy_4 rfl
  refine s_aload_n (pc := 5) (i := 0) ?_ dX7_groupsBy_5 rfl
  refine s_getf (pc := 6) (ci := 7) (f := 5) (T := TX7) ?_ ginX7 rfl (by decide) wt_345 dX7_groupsBy_6
  refine s_getf (pc := 9) (ci := 2) (f := 13) (T := TX2) ?_ ginX2 rfl (by decide) wt_145 dX7_groupsBy_9
  refine s_icge (pc := 12) (tgt := 45) ?_ ?_ dX7_groupsBy_12 (by decide)
  · skip
    refine s_iload_n (pc := 45) (i := 2) ?_ dX7_groupsBy_45 rfl
    exact s_ireturn (pc := 46) rfl dX7_groupsBy_46
  · skip
    refine s_iload_n (pc := 15) (i := 1) ?_ dX7_groupsBy_15 rfl
    refine s_iload_n (pc := 16) (i := 3) ?_ dX7_groupsBy_16 rfl
    refine s_ishr (pc := 17) ?_ dX7_groupsBy_17
    refine s_iconst (pc := 18) (v := 1) ?_ dX7_groupsBy_18 (by decide)
    refine s_iand (pc := 19) ?_ dX7_groupsBy_19
    refine s_iconst (pc := 20) (v := 1) ?_ dX7_groupsBy_20 (by decide)
    refine s_icne (pc := 21) (tgt := 39) ?_ ?_ dX7_groupsBy_21 (by decide)
    · skip
      exact s_fall (pc := 39) h2
    · skip
      refine s_iload_n (pc := 24) (i := 2) ?_ dX7_groupsBy_24 rfl
      refine s_aload_n (pc := 25) (i := 0) ?_ dX7_groupsBy_25 rfl
      refine s_getf (pc := 26) (ci := 7) (f := 5) (T := TX7) ?_ ginX7 rfl (by decide) wt_345 dX7_groupsBy_26
      refine s_getf (pc := 29) (ci := 2) (f := 8) (T := TX2) ?_ ginX2 rfl (by decide) wt_129 dX7_groupsBy_29
      refine s_iload_n (pc := 32) (i := 3) ?_ dX7_groupsBy_32 rfl
      refine s_aaload (pc := 33) (t := 6) ?_ (by decide) rfl dX7_groupsBy_33
      refine s_getf (pc := 34) (ci := 1) (f := 1) (T := TX1) ?_ ginX1 rfl (by decide) wt_87 dX7_groupsBy_34
      refine s_imul (pc := 37) ?_ dX7_groupsBy_37
      refine s_istore_n (pc := 38) (i := 2) ?_ dX7_groupsBy_38 rfl (by decide)
      exact s_fall (pc := 39) h2
theorem sbX7_groupsBy_2 (g : GE) (J : Nat → KT) (h1 : Snd mX7_groupsBy g 4 (J 1)) (h2 : Snd mX7_groupsBy g 39 (J 2)) : Snd mX7_groupsBy g 39 (bX7_groupsBy_2 g J) := by
  unfold bX7_groupsBy_2
  refine s_iinc (pc := 39) (i := 3) (v := 1) ?_ dX7_groupsBy_39 (by decide) (by decide)
  exact s_goto (pc := 42) (tgt := 4) h1 dX7_groupsBy_42 (by decide)
def jX7_groupsBy (g : GE) : Nat → Nat → KT
  | 0, _ => fun _ _ _ => none
  | n + 1, 0 => bX7_groupsBy_0 g (jX7_groupsBy g n)
  | n + 1, 1 => bX7_groupsBy_1 g (jX7_groupsBy g n)
  | n + 1, 2 => bX7_groupsBy_2 g (jX7_groupsBy g n)
  | _ + 1, _ + 3 => fun _ _ _ => none
theorem sjX7_groupsBy (g : GE) : ∀ n, Snd mX7_groupsBy g 0 (jX7_groupsBy g n 0) ∧ Snd mX7_groupsBy g 4 (jX7_groupsBy g n 1) ∧ Snd mX7_groupsBy g 39 (jX7_groupsBy g n 2)
  | 0 => ⟨s_none, s_none, s_none⟩
  | n + 1 => by
    obtain ⟨-, h1, h2⟩ := sjX7_groupsBy g n
    exact ⟨sbX7_groupsBy_0 g _ h1 h2, sbX7_groupsBy_1 g _ h1 h2, sbX7_groupsBy_2 g _ h1 h2⟩
def kX7_groupsBy (g : GE) : KT := jX7_groupsBy g g.1 0
theorem sX7_groupsBy (g : GE) : Snd mX7_groupsBy g 0 (kX7_groupsBy g) := (sjX7_groupsBy g g.1).1
def fX7_groupsBy : FT := fun g av w => if (ent av).length ≤ 4 then kX7_groupsBy g [] (entp 4 av) w else none
theorem tX7_groupsBy : Mt yX7_groupsBy cX7_groupsBy 4 (some .int) 1 30 fX7_groupsBy := Mt.of (K := kX7_groupsBy) (by decide +kernel) (fun _ _ _ => rfl) sX7_groupsBy
theorem crX7_groupsBy : yX7_groupsBy.cls ≠ "java/lang/invoke/MethodHandle" ∧ yX7_groupsBy.cls ≠ "java/lang/invoke/VarHandle" ∧ (parseMethodDescriptor yX7_groupsBy.desc).map (fun d => d.parameters.length) = some 1 := by decide +kernel
theorem dX7_groupOf_0 : decode cX7_groupOf 0 = .ok (.iconst 0, 1) := by decide +kernel
theorem dX7_groupOf_1 : decode cX7_groupOf 1 = .ok (.istore_n 3, 1) := by decide +kernel
theorem dX7_groupOf_2 : decode cX7_groupOf 2 = .ok (.iconst 0, 1) := by decide +kernel
theorem dX7_groupOf_3 : decode cX7_groupOf 3 = .ok (.istore 4, 2) := by decide +kernel
theorem dX7_groupOf_5 : decode cX7_groupOf 5 = .ok (.iload 4, 2) := by decide +kernel
theorem dX7_groupOf_7 : decode cX7_groupOf 7 = .ok (.aload_n 0, 1) := by decide +kernel
theorem dX7_groupOf_8 : decode cX7_groupOf 8 = .ok (.getfield 45, 3) := by decide +kernel
theorem dX7_groupOf_11 : decode cX7_groupOf 11 = .ok (.getfield 111, 3) := by decide +kernel
theorem dX7_groupOf_14 : decode cX7_groupOf 14 = .ok (.if_icmp .ge 43, 3) := by decide +kernel
theorem dX7_groupOf_17 : decode cX7_groupOf 17 = .ok (.iload_n 2, 1) := by decide +kernel
theorem dX7_groupOf_18 : decode cX7_groupOf 18 = .ok (.iload 4, 2) := by decide +kernel
theorem dX7_groupOf_20 : decode cX7_groupOf 20 = .ok (.ishr, 1) := by decide +kernel
theorem dX7_groupOf_21 : decode cX7_groupOf 21 = .ok (.iconst 1, 1) := by decide +kernel
theorem dX7_groupOf_22 : decode cX7_groupOf 22 = .ok (.iand, 1) := by decide +kernel
theorem dX7_groupOf_23 : decode cX7_groupOf 23 = .ok (.iconst 1, 1) := by decide +kernel
theorem dX7_groupOf_24 : decode cX7_groupOf 24 = .ok (.if_icmp .ne 27, 3) := by decide +kernel
theorem dX7_groupOf_27 : decode cX7_groupOf 27 = .ok (.iload_n 3, 1) := by decide +kernel
theorem dX7_groupOf_28 : decode cX7_groupOf 28 = .ok (.aload_n 0, 1) := by decide +kernel
theorem dX7_groupOf_29 : decode cX7_groupOf 29 = .ok (.getfield 45, 3) := by decide +kernel
theorem dX7_groupOf_32 : decode cX7_groupOf 32 = .ok (.getfield 180, 3) := by decide +kernel
theorem dX7_groupOf_35 : decode cX7_groupOf 35 = .ok (.iload 4, 2) := by decide +kernel
theorem dX7_groupOf_37 : decode cX7_groupOf 37 = .ok (.aaload, 1) := by decide +kernel
theorem dX7_groupOf_38 : decode cX7_groupOf 38 = .ok (.getfield 184, 3) := by decide +kernel
theorem dX7_groupOf_41 : decode cX7_groupOf 41 = .ok (.imul, 1) := by decide +kernel
theorem dX7_groupOf_42 : decode cX7_groupOf 42 = .ok (.aload_n 0, 1) := by decide +kernel
theorem dX7_groupOf_43 : decode cX7_groupOf 43 = .ok (.iload_n 1, 1) := by decide +kernel
theorem dX7_groupOf_44 : decode cX7_groupOf 44 = .ok (.iload 4, 2) := by decide +kernel
theorem dX7_groupOf_46 : decode cX7_groupOf 46 = .ok (.invokevirtual 148, 3) := by decide +kernel
theorem dX7_groupOf_49 : decode cX7_groupOf 49 = .ok (.iadd, 1) := by decide +kernel
theorem dX7_groupOf_50 : decode cX7_groupOf 50 = .ok (.istore_n 3, 1) := by decide +kernel
theorem dX7_groupOf_51 : decode cX7_groupOf 51 = .ok (.iinc 4 1, 3) := by decide +kernel
theorem dX7_groupOf_54 : decode cX7_groupOf 54 = .ok (.goto (-49), 3) := by decide +kernel
theorem dX7_groupOf_57 : decode cX7_groupOf 57 = .ok (.iload_n 3, 1) := by decide +kernel
theorem dX7_groupOf_58 : decode cX7_groupOf 58 = .ok (.ireturn, 1) := by decide +kernel
abbrev mX7_groupOf : MD := (cX7_groupOf, "BlottedDeed$Table", 5, 3, 74, (some .int), "groupOf", [])
def bX7_groupOf_0 (g : GE) (J : Nat → KT) : KT := i_push (.int 0) (i_istore 3 (i_push (.int 0) (i_istore 4 (i_jmp [true, true, true, true, true] (J 1)))))
def bX7_groupOf_1 (g : GE) (J : Nat → KT) : KT := i_iload 4 (i_aload 0 (i_getf 7 5 (i_getf 2 13 (i_icge (i_iload 3 (i_ireturn)) (i_iload 2 (i_iload 4 (i_ishr (i_push (.int 1) (i_iand (i_push (.int 1) (i_icne (i_jmp [true, true, true, true, true] (J 2)) (i_iload 3 (i_aload 0 (i_getf 7 5 (i_getf 2 8 (i_iload 4 (i_aaload 6 (i_getf 1 1 (i_imul (i_aload 0 (i_iload 1 (i_iload 4 (i_cv fX7_digit g 2 7 (i_iadd (i_istore 3 (i_jmp [true, true, true, true, true] (J 2)))))))))))))))))))))))))))
def bX7_groupOf_2 (g : GE) (J : Nat → KT) : KT := i_iinc 4 1 (i_jmp [true, true, true, true, true] (J 1))
theorem sbX7_groupOf_0 (g : GE) (J : Nat → KT) (h1 : Snd mX7_groupOf g 5 (J 1)) (h2 : Snd mX7_groupOf g 51 (J 2)) : Snd mX7_groupOf g 0 (bX7_groupOf_0 g J) := by
  unfold bX7_groupOf_0
  refine s_iconst (pc := 0) (v := 0) ?_ dX7_groupOf_0 (by decide)
  refine s_istore_n (pc := 1) (i := 3) ?_ dX7_groupOf_1 rfl (by decide)
  refine s_iconst (pc := 2) (v := 0) ?_ dX7_groupOf_2 (by decide)
  refine s_istore (pc := 3) (i := 4) ?_ dX7_groupOf_3 (by decide)
  exact s_fall (pc := 5) h1
theorem sbX7_groupOf_1 (g : GE) (J : Nat → KT) (h1 : Snd mX7_groupOf g 5 (J 1)) (h2 : Snd mX7_groupOf g 51 (J 2)) : Snd mX7_groupOf g 5 (bX7_groupOf_1 g J) := by
  unfold bX7_groupOf_1
  refine s_iload (pc := 5) (i := 4) ?_ dX7_groupOf_5
  refine s_aload_n (pc := 7) (i := 0) ?_ dX7_groupOf_7 rfl
  refine s_getf (pc := 8) (ci := 7) (f := 5) (T := TX7) ?_ ginX7 rfl (by decide) wt_345 dX7_groupOf_8
  refine s_getf (pc := 11) (ci := 2) (f := 13) (T := TX2) ?_ ginX2 rfl (by decide) wt_145 dX7_groupOf_11
  refine s_icge (pc := 14) (tgt := 57) ?_ ?_ dX7_groupOf_14 (by decide)
  · skip
    refine s_iload_n (pc := 57) (i := 3) ?_ dX7_groupOf_57 rfl
    exact s_ireturn (pc := 58) rfl dX7_groupOf_58
  · skip
    refine s_iload_n (pc := 17) (i := 2) ?_ dX7_groupOf_17 rfl
    refine s_iload (pc := 18) (i := 4) ?_ dX7_groupOf_18
    refine s_ishr (pc := 20) ?_ dX7_groupOf_20
    refine s_iconst (pc := 21) (v := 1) ?_ dX7_groupOf_21 (by decide)
    refine s_iand (pc := 22) ?_ dX7_groupOf_22
    refine s_iconst (pc := 23) (v := 1) ?_ dX7_groupOf_23 (by decide)
    refine s_icne (pc := 24) (tgt := 51) ?_ ?_ dX7_groupOf_24 (by decide)
    · skip
      exact s_fall (pc := 51) h2
    · skip
      refine s_iload_n (pc := 27) (i := 3) ?_ dX7_groupOf_27 rfl
      refine s_aload_n (pc := 28) (i := 0) ?_ dX7_groupOf_28 rfl
      refine s_getf (pc := 29) (ci := 7) (f := 5) (T := TX7) ?_ ginX7 rfl (by decide) wt_345 dX7_groupOf_29
      refine s_getf (pc := 32) (ci := 2) (f := 8) (T := TX2) ?_ ginX2 rfl (by decide) wt_129 dX7_groupOf_32
      refine s_iload (pc := 35) (i := 4) ?_ dX7_groupOf_35
      refine s_aaload (pc := 37) (t := 6) ?_ (by decide) rfl dX7_groupOf_37
      refine s_getf (pc := 38) (ci := 1) (f := 1) (T := TX1) ?_ ginX1 rfl (by decide) wt_87 dX7_groupOf_38
      refine s_imul (pc := 41) ?_ dX7_groupOf_41
      refine s_aload_n (pc := 42) (i := 0) ?_ dX7_groupOf_42 rfl
      refine s_iload_n (pc := 43) (i := 1) ?_ dX7_groupOf_43 rfl
      refine s_iload (pc := 44) (i := 4) ?_ dX7_groupOf_44
      refine s_cv (pc := 46) (n := 2) (ci := 7) ?_ tX7_digit rfl rfl wt_538 wt_539 wt_540 wt_8 wt_541 ⟨crX7_digit, by decide, by decide⟩ dX7_groupOf_46
      refine s_iadd (pc := 49) ?_ dX7_groupOf_49
      refine s_istore_n (pc := 50) (i := 3) ?_ dX7_groupOf_50 rfl (by decide)
      exact s_fall (pc := 51) h2
theorem sbX7_groupOf_2 (g : GE) (J : Nat → KT) (h1 : Snd mX7_groupOf g 5 (J 1)) (h2 : Snd mX7_groupOf g 51 (J 2)) : Snd mX7_groupOf g 51 (bX7_groupOf_2 g J) := by
  unfold bX7_groupOf_2
  refine s_iinc (pc := 51) (i := 4) (v := 1) ?_ dX7_groupOf_51 (by decide) (by decide)
  exact s_goto (pc := 54) (tgt := 5) h1 dX7_groupOf_54 (by decide)
def jX7_groupOf (g : GE) : Nat → Nat → KT
  | 0, _ => fun _ _ _ => none
  | n + 1, 0 => bX7_groupOf_0 g (jX7_groupOf g n)
  | n + 1, 1 => bX7_groupOf_1 g (jX7_groupOf g n)
  | n + 1, 2 => bX7_groupOf_2 g (jX7_groupOf g n)
  | _ + 1, _ + 3 => fun _ _ _ => none
theorem sjX7_groupOf (g : GE) : ∀ n, Snd mX7_groupOf g 0 (jX7_groupOf g n 0) ∧ Snd mX7_groupOf g 5 (jX7_groupOf g n 1) ∧ Snd mX7_groupOf g 51 (jX7_groupOf g n 2)
  | 0 => ⟨s_none, s_none, s_none⟩
  | n + 1 => by
    obtain ⟨-, h1, h2⟩ := sjX7_groupOf g n
    exact ⟨sbX7_groupOf_0 g _ h1 h2, sbX7_groupOf_1 g _ h1 h2, sbX7_groupOf_2 g _ h1 h2⟩
def kX7_groupOf (g : GE) : KT := jX7_groupOf g g.1 0
theorem sX7_groupOf (g : GE) : Snd mX7_groupOf g 0 (kX7_groupOf g) := (sjX7_groupOf g g.1).1
def fX7_groupOf : FT := fun g av w => if (ent av).length ≤ 5 then kX7_groupOf g [] (entp 5 av) w else none
theorem tX7_groupOf : Mt yX7_groupOf cX7_groupOf 5 (some .int) 3 74 fX7_groupOf := Mt.of (K := kX7_groupOf) (by decide +kernel) (fun _ _ _ => rfl) sX7_groupOf
theorem crX7_groupOf : yX7_groupOf.cls ≠ "java/lang/invoke/MethodHandle" ∧ yX7_groupOf.cls ≠ "java/lang/invoke/VarHandle" ∧ (parseMethodDescriptor yX7_groupOf.desc).map (fun d => d.parameters.length) = some 2 := by decide +kernel
theorem dX7_sortOwners_0 : decode cX7_sortOwners 0 = .ok (.aload_n 0, 1) := by decide +kernel
theorem dX7_sortOwners_1 : decode cX7_sortOwners 1 = .ok (.iload_n 1, 1) := by decide +kernel
theorem dX7_sortOwners_2 : decode cX7_sortOwners 2 = .ok (.invokevirtual 177, 3) := by decide +kernel
theorem dX7_sortOwners_5 : decode cX7_sortOwners 5 = .ok (.istore_n 3, 1) := by decide +kernel
theorem dX7_sortOwners_6 : decode cX7_sortOwners 6 = .ok (.aload_n 0, 1) := by decide +kernel
theorem dX7_sortOwners_7 : decode cX7_sortOwners 7 = .ok (.getfield 41, 3) := by decide +kernel
theorem dX7_sortOwners_10 : decode cX7_sortOwners 10 = .ok (.arraylength, 1) := by decide +kernel
theorem dX7_sortOwners_11 : decode cX7_sortOwners 11 = .ok (.iload_n 3, 1) := by decide +kernel
theorem dX7_sortOwners_12 : decode cX7_sortOwners 12 = .ok (.if_icmp .ge 26, 3) := by decide +kernel
theorem dX7_sortOwners_15 : decode cX7_sortOwners 15 = .ok (.aload_n 0, 1) := by decide +kernel
theorem dX7_sortOwners_16 : decode cX7_sortOwners 16 = .ok (.aload_n 0, 1) := by decide +kernel
theorem dX7_sortOwners_17 : decode cX7_sortOwners 17 = .ok (.getfield 41, 3) := by decide +kernel
theorem dX7_sortOwners_20 : decode cX7_sortOwners 20 = .ok (.arraylength, 1) := by decide +kernel
theorem dX7_sortOwners_21 : decode cX7_sortOwners 21 = .ok (.iconst 2, 1) := by decide +kernel
theorem dX7_sortOwners_22 : decode cX7_sortOwners 22 = .ok (.imul, 1) := by decide +kernel
theorem dX7_sortOwners_23 : decode cX7_sortOwners 23 = .ok (.iload_n 3, 1) := by decide +kernel
theorem dX7_sortOwners_24 : decode cX7_sortOwners 24 = .ok (.invokestatic 139, 3) := by decide +kernel
theorem dX7_sortOwners_27 : decode cX7_sortOwners 27 = .ok (.sipush 20000, 3) := by decide +kernel
theorem dX7_sortOwners_30 : decode cX7_sortOwners 30 = .ok (.invokestatic 101, 3) := by decide +kernel
theorem dX7_sortOwners_33 : decode cX7_sortOwners 33 = .ok (.newarray .byte, 2) := by decide +kernel
theorem dX7_sortOwners_35 : decode cX7_sortOwners 35 = .ok (.putfield 41, 3) := by decide +kernel
theorem dX7_sortOwners_38 : decode cX7_sortOwners 38 = .ok (.iconst 0, 1) := by decide +kernel
theorem dX7_sortOwners_39 : decode cX7_sortOwners 39 = .ok (.istore 4, 2) := by decide +kernel
theorem dX7_sortOwners_41 : decode cX7_sortOwners 41 = .ok (.iload 4, 2) := by decide +kernel
theorem dX7_sortOwners_43 : decode cX7_sortOwners 43 = .ok (.iload_n 3, 1) := by decide +kernel
theorem dX7_sortOwners_44 : decode cX7_sortOwners 44 = .ok (.if_icmp .ge 17, 3) := by decide +kernel
theorem dX7_sortOwners_47 : decode cX7_sortOwners 47 = .ok (.aload_n 0, 1) := by decide +kernel
theorem dX7_sortOwners_48 : decode cX7_sortOwners 48 = .ok (.getfield 41, 3) := by decide +kernel
theorem dX7_sortOwners_51 : decode cX7_sortOwners 51 = .ok (.iload 4, 2) := by decide +kernel
theorem dX7_sortOwners_53 : decode cX7_sortOwners 53 = .ok (.iconst 0, 1) := by decide +kernel
theorem dX7_sortOwners_54 : decode cX7_sortOwners 54 = .ok (.bastore, 1) := by decide +kernel
theorem dX7_sortOwners_55 : decode cX7_sortOwners 55 = .ok (.iinc 4 1, 3) := by decide +kernel
theorem dX7_sortOwners_58 : decode cX7_sortOwners 58 = .ok (.goto (-17), 3) := by decide +kernel
theorem dX7_sortOwners_61 : decode cX7_sortOwners 61 = .ok (.iconst 0, 1) := by decide +kernel
theorem dX7_sortOwners_62 : decode cX7_sortOwners 62 = .ok (.istore 4, 2) := by decide +kernel
theorem dX7_sortOwners_64 : decode cX7_sortOwners 64 = .ok (.iconst 0, 1) := by decide +kernel
theorem dX7_sortOwners_65 : decode cX7_sortOwners 65 = .ok (.istore 5, 2) := by decide +kernel
theorem dX7_sortOwners_67 : decode cX7_sortOwners 67 = .ok (.iload 5, 2) := by decide +kernel
theorem dX7_sortOwners_69 : decode cX7_sortOwners 69 = .ok (.aload_n 0, 1) := by decide +kernel
theorem dX7_sortOwners_70 : decode cX7_sortOwners 70 = .ok (.getfield 53, 3) := by decide +kernel
theorem dX7_sortOwners_73 : decode cX7_sortOwners 73 = .ok (.if_icmp .ge 76, 3) := by decide +kernel
theorem dX7_sortOwners_76 : decode cX7_sortOwners 76 = .ok (.aload_n 0, 1) := by decide +kernel
theorem dX7_sortOwners_77 : decode cX7_sortOwners 77 = .ok (.iload 5, 2) := by decide +kernel
theorem dX7_sortOwners_79 : decode cX7_sortOwners 79 = .ok (.iload_n 1, 1) := by decide +kernel
theorem dX7_sortOwners_80 : decode cX7_sortOwners 80 = .ok (.invokevirtual 174, 3) := by decide +kernel
theorem dX7_sortOwners_83 : decode cX7_sortOwners 83 = .ok (.istore 6, 2) := by decide +kernel
theorem dX7_sortOwners_85 : decode cX7_sortOwners 85 = .ok (.aload_n 0, 1) := by decide +kernel
theorem dX7_sortOwners_86 : decode cX7_sortOwners 86 = .ok (.iload 5, 2) := by decide +kernel
theorem dX7_sortOwners_88 : decode cX7_sortOwners 88 = .ok (.iload_n 2, 1) := by decide +kernel
theorem dX7_sortOwners_89 : decode cX7_sortOwners 89 = .ok (.invokevirtual 130, 3) := by decide +kernel
theorem dX7_sortOwners_92 : decode cX7_sortOwners 92 = .ok (.iconst 2, 1) := by decide +kernel
theorem dX7_sortOwners_93 : decode cX7_sortOwners 93 = .ok (.iadd, 1) := by decide +kernel
theorem dX7_sortOwners_94 : decode cX7_sortOwners 94 = .ok (.i2b, 1) := by decide +kernel
theorem dX7_sortOwners_95 : decode cX7_sortOwners 95 = .ok (.istore 7, 2) := by decide +kernel
theorem dX7_sortOwners_97 : decode cX7_sortOwners 97 = .ok (.aload_n 0, 1) := by decide +kernel
theorem dX7_sortOwners_98 : decode cX7_sortOwners 98 = .ok (.getfield 41, 3) := by decide +kernel
theorem dX7_sortOwners_101 : decode cX7_sortOwners 101 = .ok (.iload 6, 2) := by decide +kernel
theorem dX7_sortOwners_103 : decode cX7_sortOwners 103 = .ok (.baload, 1) := by decide +kernel
theorem dX7_sortOwners_104 : decode cX7_sortOwners 104 = .ok (.ifCond .ne 15, 3) := by decide +kernel
theorem dX7_sortOwners_107 : decode cX7_sortOwners 107 = .ok (.aload_n 0, 1) := by decide +kernel
theorem dX7_sortOwners_108 : decode cX7_sortOwners 108 = .ok (.getfield 41, 3) := by decide +kernel
theorem dX7_sortOwners_111 : decode cX7_sortOwners 111 = .ok (.iload 6, 2) := by decide +kernel
theorem dX7_sortOwners_113 : decode cX7_sortOwners 113 = .ok (.iload 7, 2) := by decide +kernel
theorem dX7_sortOwners_115 : decode cX7_sortOwners 115 = .ok (.bastore, 1) := by decide +kernel
theorem dX7_sortOwners_116 : decode cX7_sortOwners 116 = .ok (.goto 27, 3) := by decide +kernel
theorem dX7_sortOwners_119 : decode cX7_sortOwners 119 = .ok (.aload_n 0, 1) := by decide +kernel
theorem dX7_sortOwners_120 : decode cX7_sortOwners 120 = .ok (.getfield 41, 3) := by decide +kernel
theorem dX7_sortOwners_123 : decode cX7_sortOwners 123 = .ok (.iload 6, 2) := by decide +kernel
theorem dX7_sortOwners_125 : decode cX7_sortOwners 125 = .ok (.baload, 1) := by decide +kernel
theorem dX7_sortOwners_126 : decode cX7_sortOwners 126 = .ok (.iload 7, 2) := by decide +kernel
theorem dX7_sortOwners_128 : decode cX7_sortOwners 128 = .ok (.if_icmp .eq 15, 3) := by decide +kernel
theorem dX7_sortOwners_131 : decode cX7_sortOwners 131 = .ok (.aload_n 0, 1) := by decide +kernel
theorem dX7_sortOwners_132 : decode cX7_sortOwners 132 = .ok (.getfield 41, 3) := by decide +kernel
theorem dX7_sortOwners_135 : decode cX7_sortOwners 135 = .ok (.iload 6, 2) := by decide +kernel
theorem dX7_sortOwners_137 : decode cX7_sortOwners 137 = .ok (.bipush 7, 2) := by decide +kernel
theorem dX7_sortOwners_139 : decode cX7_sortOwners 139 = .ok (.bastore, 1) := by decide +kernel
theorem dX7_sortOwners_140 : decode cX7_sortOwners 140 = .ok (.iconst 1, 1) := by decide +kernel
theorem dX7_sortOwners_141 : decode cX7_sortOwners 141 = .ok (.istore 4, 2) := by decide +kernel
theorem dX7_sortOwners_143 : decode cX7_sortOwners 143 = .ok (.iinc 5 1, 3) := by decide +kernel
theorem dX7_sortOwners_146 : decode cX7_sortOwners 146 = .ok (.goto (-79), 3) := by decide +kernel
theorem dX7_sortOwners_149 : decode cX7_sortOwners 149 = .ok (.iload 4, 2) := by decide +kernel
theorem dX7_sortOwners_151 : decode cX7_sortOwners 151 = .ok (.ireturn, 1) := by decide +kernel
abbrev mX7_sortOwners : MD := (cX7_sortOwners, "BlottedDeed$Table", 8, 4, 98, (some .boolean), "sortOwners", [])
def bX7_sortOwners_0 (g : GE) (J : Nat → KT) : KT := i_aload 0 (i_iload 1 (i_cv fX7_groupsBy g 1 7 (i_istore 3 (i_aload 0 (i_getf 7 11 (i_alen 2 (i_iload 3 (i_icge (i_jmp [true, true, true, true, false, false, false, false] (J 1)) (i_aload 0 (i_aload 0 (i_getf 7 11 (i_alen 2 (i_push (.int 2) (i_imul (i_iload 3 (i_max (i_push (.int 20000) (i_min (i_newarr 2 (i_putf 7 11 (.array .byte) (i_jmp [true, true, true, true, false, false, false, false] (J 1))))))))))))))))))))))
def bX7_sortOwners_1 (g : GE) (J : Nat → KT) : KT := i_push (.int 0) (i_istore 4 (i_jmp [true, true, true, true, true, false, false, false] (J 2)))
def bX7_sortOwners_2 (g : GE) (J : Nat → KT) : KT := i_iload 4 (i_iload 3 (i_icge (i_push (.int 0) (i_istore 4 (i_push (.int 0) (i_istore 5 (i_jmp [true, true, true, false, true, true, false, false] (J 3)))))) (i_aload 0 (i_getf 7 11 (i_iload 4 (i_push (.int 0) (i_bastore (i_iinc 4 1 (i_jmp [true, true, true, true, true, false, false, false] (J 2))))))))))
def bX7_sortOwners_3 (g : GE) (J : Nat → KT) : KT := i_iload 5 (i_aload 0 (i_getf 7 2 (i_icge (i_iload 4 (i_zreturn)) (i_aload 0 (i_iload 5 (i_iload 1 (i_cv fX7_groupOf g 2 7 (i_istore 6 (i_aload 0 (i_iload 5 (i_iload 2 (i_cv fX7_ownerOf g 2 7 (i_push (.int 2) (i_iadd (i_i2b (i_istore 7 (i_aload 0 (i_getf 7 11 (i_iload 6 (i_baload (i_ifne (i_aload 0 (i_getf 7 11 (i_iload 6 (i_baload (i_iload 7 (i_iceq (i_jmp [true, true, true, false, true, true, false, false] (J 4)) (i_aload 0 (i_getf 7 11 (i_iload 6 (i_push (.int 7) (i_bastore (i_push (.int 1) (i_istore 4 (i_jmp [true, true, true, false, true, true, false, false] (J 4))))))))))))))) (i_aload 0 (i_getf 7 11 (i_iload 6 (i_iload 7 (i_bastore (i_jmp [true, true, true, false, true, true, false, false] (J 4))))))))))))))))))))))))))))
def bX7_sortOwners_4 (g : GE) (J : Nat → KT) : KT := i_iinc 5 1 (i_jmp [true, true, true, false, true, true, false, false] (J 3))
theorem sbX7_sortOwners_0 (g : GE) (J : Nat → KT) (h1 : Snd mX7_sortOwners g 38 (J 1)) (h2 : Snd mX7_sortOwners g 41 (J 2)) (h3 : Snd mX7_sortOwners g 67 (J 3)) (h4 : Snd mX7_sortOwners g 143 (J 4)) : Snd mX7_sortOwners g 0 (bX7_sortOwners_0 g J) := by
  unfold bX7_sortOwners_0
  refine s_aload_n (pc := 0) (i := 0) ?_ dX7_sortOwners_0 rfl
  refine s_iload_n (pc := 1) (i := 1) ?_ dX7_sortOwners_1 rfl
  refine s_cv (pc := 2) (n := 1) (ci := 7) ?_ tX7_groupsBy rfl rfl wt_1108 wt_1110 wp_39 wt_8 wt_1111 ⟨crX7_groupsBy, by decide, by decide⟩ dX7_sortOwners_2
  refine s_istore_n (pc := 5) (i := 3) ?_ dX7_sortOwners_5 rfl (by decide)
  refine s_aload_n (pc := 6) (i := 0) ?_ dX7_sortOwners_6 rfl
  refine s_getf (pc := 7) (ci := 7) (f := 11) (T := TX7) ?_ ginX7 rfl (by decide) wt_351 dX7_sortOwners_7
  refine s_alen (pc := 10) (t := 2) ?_ (by decide) dX7_sortOwners_10
  refine s_iload_n (pc := 11) (i := 3) ?_ dX7_sortOwners_11 rfl
  refine s_icge (pc := 12) (tgt := 38) ?_ ?_ dX7_sortOwners_12 (by decide)
  · skip
    exact s_fall (pc := 38) h1
  · skip
    refine s_aload_n (pc := 15) (i := 0) ?_ dX7_sortOwners_15 rfl
    refine s_aload_n (pc := 16) (i := 0) ?_ dX7_sortOwners_16 rfl
    refine s_getf (pc := 17) (ci := 7) (f := 11) (T := TX7) ?_ ginX7 rfl (by decide) wt_351 dX7_sortOwners_17
    refine s_alen (pc := 20) (t := 2) ?_ (by decide) dX7_sortOwners_20
    refine s_iconst (pc := 21) (v := 2) ?_ dX7_sortOwners_21 (by decide)
    refine s_imul (pc := 22) ?_ dX7_sortOwners_22
    refine s_iload_n (pc := 23) (i := 3) ?_ dX7_sortOwners_23 rfl
    refine s_max (pc := 24) ?_ wt_545 wt_546 wt_12 wt_547 (by decide) dX7_sortOwners_24
    refine s_sipush (pc := 27) (v := 20000) ?_ dX7_sortOwners_27 (by decide)
    refine s_min (pc := 30) ?_ wt_299 wt_300 wt_12 wt_301 (by decide) dX7_sortOwners_30
    refine s_newarr (pc := 33) (t := 2) ?_ (by decide) rfl wt_377 dX7_sortOwners_33
    refine s_putf (pc := 35) (ci := 7) (f := 11) (T := TX7) (ty0 := tyX7) ?_ ginX7 tyX7_ok nmX7 rfl (by decide) rfl rfl wt_351 dX7_sortOwners_35
    exact s_fall (pc := 38) h1
theorem sbX7_sortOwners_1 (g : GE) (J : Nat → KT) (h1 : Snd mX7_sortOwners g 38 (J 1)) (h2 : Snd mX7_sortOwners g 41 (J 2)) (h3 : Snd mX7_sortOwners g 67 (J 3)) (h4 : Snd mX7_sortOwners g 143 (J 4)) : Snd mX7_sortOwners g 38 (bX7_sortOwners_1 g J) := by
  unfold bX7_sortOwners_1
  refine s_iconst (pc := 38) (v := 0) ?_ dX7_sortOwners_38 (by decide)
  refine s_istore (pc := 39) (i := 4) ?_ dX7_sortOwners_39 (by decide)
  exact s_fall (pc := 41) h2
theorem sbX7_sortOwners_2 (g : GE) (J : Nat → KT) (h1 : Snd mX7_sortOwners g 38 (J 1)) (h2 : Snd mX7_sortOwners g 41 (J 2)) (h3 : Snd mX7_sortOwners g 67 (J 3)) (h4 : Snd mX7_sortOwners g 143 (J 4)) : Snd mX7_sortOwners g 41 (bX7_sortOwners_2 g J) := by
  unfold bX7_sortOwners_2
  refine s_iload (pc := 41) (i := 4) ?_ dX7_sortOwners_41
  refine s_iload_n (pc := 43) (i := 3) ?_ dX7_sortOwners_43 rfl
  refine s_icge (pc := 44) (tgt := 61) ?_ ?_ dX7_sortOwners_44 (by decide)
  · skip
    refine s_iconst (pc := 61) (v := 0) ?_ dX7_sortOwners_61 (by decide)
    refine s_istore (pc := 62) (i := 4) ?_ dX7_sortOwners_62 (by decide)
    refine s_iconst (pc := 64) (v := 0) ?_ dX7_sortOwners_64 (by decide)
    refine s_istore (pc := 65) (i := 5) ?_ dX7_sortOwners_65 (by decide)
    exact s_fall (pc := 67) h3
  · skip
    refine s_aload_n (pc := 47) (i := 0) ?_ dX7_sortOwners_47 rfl
    refine s_getf (pc := 48) (ci := 7) (f := 11) (T := TX7) ?_ ginX7 rfl (by decide) wt_351 dX7_sortOwners_48
    refine s_iload (pc := 51) (i := 4) ?_ dX7_sortOwners_51
    refine s_iconst (pc := 53) (v := 0) ?_ dX7_sortOwners_53 (by decide)
    refine s_bastore (pc := 54) ?_ dX7_sortOwners_54
    refine s_iinc (pc := 55) (i := 4) (v := 1) ?_ dX7_sortOwners_55 (by decide) (by decide)
    exact s_goto (pc := 58) (tgt := 41) h2 dX7_sortOwners_58 (by decide)
theorem sbX7_sortOwners_3 (g : GE) (J : Nat → KT) (h1 : Snd mX7_sortOwners g 38 (J 1)) (h2 : Snd mX7_sortOwners g 41 (J 2)) (h3 : Snd mX7_sortOwners g 67 (J 3)) (h4 : Snd mX7_sortOwners g 143 (J 4)) : Snd mX7_sortOwners g 67 (bX7_sortOwners_3 g J) := by
  unfold bX7_sortOwners_3
  refine s_iload (pc := 67) (i := 5) ?_ dX7_sortOwners_67
  refine s_aload_n (pc := 69) (i := 0) ?_ dX7_sortOwners_69 rfl
  refine s_getf (pc := 70) (ci := 7) (f := 2) (T := TX7) ?_ ginX7 rfl (by decide) wt_339 dX7_sortOwners_70
  refine s_icge (pc := 73) (tgt := 149) ?_ ?_ dX7_sortOwners_73 (by decide)
  · skip
    refine s_iload (pc := 149) (i := 4) ?_ dX7_sortOwners_149
    exact s_zreturn (pc := 151) rfl dX7_sortOwners_151
  · skip
    refine s_aload_n (pc := 76) (i := 0) ?_ dX7_sortOwners_76 rfl
    refine s_iload (pc := 77) (i := 5) ?_ dX7_sortOwners_77
    refine s_iload_n (pc := 79) (i := 1) ?_ dX7_sortOwners_79 rfl
    refine s_cv (pc := 80) (n := 2) (ci := 7) ?_ tX7_groupOf rfl rfl wt_1112 wt_1114 wp_40 wt_8 wt_1115 ⟨crX7_groupOf, by decide, by decide⟩ dX7_sortOwners_80
    refine s_istore (pc := 83) (i := 6) ?_ dX7_sortOwners_83 (by decide)
    refine s_aload_n (pc := 85) (i := 0) ?_ dX7_sortOwners_85 rfl
    refine s_iload (pc := 86) (i := 5) ?_ dX7_sortOwners_86
    refine s_iload_n (pc := 88) (i := 2) ?_ dX7_sortOwners_88 rfl
    refine s_cv (pc := 89) (n := 2) (ci := 7) ?_ tX7_ownerOf rfl rfl wt_593 wt_594 wt_595 wt_8 wt_596 ⟨crX7_ownerOf, by decide, by decide⟩ dX7_sortOwners_89
    refine s_iconst (pc := 92) (v := 2) ?_ dX7_sortOwners_92 (by decide)
    refine s_iadd (pc := 93) ?_ dX7_sortOwners_93
    refine s_i2b (pc := 94) ?_ dX7_sortOwners_94
    refine s_istore (pc := 95) (i := 7) ?_ dX7_sortOwners_95 (by decide)
    refine s_aload_n (pc := 97) (i := 0) ?_ dX7_sortOwners_97 rfl
    refine s_getf (pc := 98) (ci := 7) (f := 11) (T := TX7) ?_ ginX7 rfl (by decide) wt_351 dX7_sortOwners_98
    refine s_iload (pc := 101) (i := 6) ?_ dX7_sortOwners_101
    refine s_baload (pc := 103) ?_ dX7_sortOwners_103
    refine s_ifne (pc := 104) (tgt := 119) ?_ ?_ dX7_sortOwners_104 (by decide)
    · skip
      refine s_aload_n (pc := 119) (i := 0) ?_ dX7_sortOwners_119 rfl
      refine s_getf (pc := 120) (ci := 7) (f := 11) (T := TX7) ?_ ginX7 rfl (by decide) wt_351 dX7_sortOwners_120
      refine s_iload (pc := 123) (i := 6) ?_ dX7_sortOwners_123
      refine s_baload (pc := 125) ?_ dX7_sortOwners_125
      refine s_iload (pc := 126) (i := 7) ?_ dX7_sortOwners_126
      refine s_iceq (pc := 128) (tgt := 143) ?_ ?_ dX7_sortOwners_128 (by decide)
      · skip
        exact s_fall (pc := 143) h4
      · skip
        refine s_aload_n (pc := 131) (i := 0) ?_ dX7_sortOwners_131 rfl
        refine s_getf (pc := 132) (ci := 7) (f := 11) (T := TX7) ?_ ginX7 rfl (by decide) wt_351 dX7_sortOwners_132
        refine s_iload (pc := 135) (i := 6) ?_ dX7_sortOwners_135
        refine s_bipush (pc := 137) (v := 7) ?_ dX7_sortOwners_137 (by decide)
        refine s_bastore (pc := 139) ?_ dX7_sortOwners_139
        refine s_iconst (pc := 140) (v := 1) ?_ dX7_sortOwners_140 (by decide)
        refine s_istore (pc := 141) (i := 4) ?_ dX7_sortOwners_141 (by decide)
        exact s_fall (pc := 143) h4
    · skip
      refine s_aload_n (pc := 107) (i := 0) ?_ dX7_sortOwners_107 rfl
      refine s_getf (pc := 108) (ci := 7) (f := 11) (T := TX7) ?_ ginX7 rfl (by decide) wt_351 dX7_sortOwners_108
      refine s_iload (pc := 111) (i := 6) ?_ dX7_sortOwners_111
      refine s_iload (pc := 113) (i := 7) ?_ dX7_sortOwners_113
      refine s_bastore (pc := 115) ?_ dX7_sortOwners_115
      exact s_goto (pc := 116) (tgt := 143) h4 dX7_sortOwners_116 (by decide)
theorem sbX7_sortOwners_4 (g : GE) (J : Nat → KT) (h1 : Snd mX7_sortOwners g 38 (J 1)) (h2 : Snd mX7_sortOwners g 41 (J 2)) (h3 : Snd mX7_sortOwners g 67 (J 3)) (h4 : Snd mX7_sortOwners g 143 (J 4)) : Snd mX7_sortOwners g 143 (bX7_sortOwners_4 g J) := by
  unfold bX7_sortOwners_4
  refine s_iinc (pc := 143) (i := 5) (v := 1) ?_ dX7_sortOwners_143 (by decide) (by decide)
  exact s_goto (pc := 146) (tgt := 67) h3 dX7_sortOwners_146 (by decide)
def jX7_sortOwners (g : GE) : Nat → Nat → KT
  | 0, _ => fun _ _ _ => none
  | n + 1, 0 => bX7_sortOwners_0 g (jX7_sortOwners g n)
  | n + 1, 1 => bX7_sortOwners_1 g (jX7_sortOwners g n)
  | n + 1, 2 => bX7_sortOwners_2 g (jX7_sortOwners g n)
  | n + 1, 3 => bX7_sortOwners_3 g (jX7_sortOwners g n)
  | n + 1, 4 => bX7_sortOwners_4 g (jX7_sortOwners g n)
  | _ + 1, _ + 5 => fun _ _ _ => none
theorem sjX7_sortOwners (g : GE) : ∀ n, Snd mX7_sortOwners g 0 (jX7_sortOwners g n 0) ∧ Snd mX7_sortOwners g 38 (jX7_sortOwners g n 1) ∧ Snd mX7_sortOwners g 41 (jX7_sortOwners g n 2) ∧ Snd mX7_sortOwners g 67 (jX7_sortOwners g n 3) ∧ Snd mX7_sortOwners g 143 (jX7_sortOwners g n 4)
  | 0 => ⟨s_none, s_none, s_none, s_none, s_none⟩
  | n + 1 => by
    obtain ⟨-, h1, h2, h3, h4⟩ := sjX7_sortOwners g n
    exact ⟨sbX7_sortOwners_0 g _ h1 h2 h3 h4, sbX7_sortOwners_1 g _ h1 h2 h3 h4, sbX7_sortOwners_2 g _ h1 h2 h3 h4, sbX7_sortOwners_3 g _ h1 h2 h3 h4, sbX7_sortOwners_4 g _ h1 h2 h3 h4⟩
def kX7_sortOwners (g : GE) : KT := jX7_sortOwners g g.1 0
theorem sX7_sortOwners (g : GE) : Snd mX7_sortOwners g 0 (kX7_sortOwners g) := (sjX7_sortOwners g g.1).1
def fX7_sortOwners : FT := fun g av w => if (ent av).length ≤ 8 then kX7_sortOwners g [] (entp 8 av) w else none
theorem tX7_sortOwners : Mt yX7_sortOwners cX7_sortOwners 8 (some .boolean) 4 98 fX7_sortOwners := Mt.of (K := kX7_sortOwners) (by decide +kernel) (fun _ _ _ => rfl) sX7_sortOwners
theorem crX7_sortOwners : yX7_sortOwners.cls ≠ "java/lang/invoke/MethodHandle" ∧ yX7_sortOwners.cls ≠ "java/lang/invoke/VarHandle" ∧ (parseMethodDescriptor yX7_sortOwners.desc).map (fun d => d.parameters.length) = some 2 := by decide +kernel
