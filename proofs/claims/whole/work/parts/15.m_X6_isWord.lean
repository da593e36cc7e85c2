theorem dX6_isWord_0 : decode cX6_isWord 0 = .ok (.aload_n 0, 1) := by decide +kernel
theorem dX6_isWord_1 : decode cX6_isWord 1 = .ok (.getfield 28, 3) := by decide +kernel
theorem dX6_isWord_4 : decode cX6_isWord 4 = .ok (.aload_n 0, 1) := by decide +kernel
theorem dX6_isWord_5 : decode cX6_isWord 5 = .ok (.getfield 66, 3) := by decide +kernel
theorem dX6_isWord_8 : decode cX6_isWord 8 = .ok (.isub, 1) := by decide +kernel
theorem dX6_isWord_9 : decode cX6_isWord 9 = .ok (.aload_n 1, 1) := by decide +kernel
theorem dX6_isWord_10 : decode cX6_isWord 10 = .ok (.invokevirtual 174, 3) := by decide +kernel
theorem dX6_isWord_13 : decode cX6_isWord 13 = .ok (.if_icmp .eq 5, 3) := by decide +kernel
theorem dX6_isWord_16 : decode cX6_isWord 16 = .ok (.iconst 0, 1) := by decide +kernel
theorem dX6_isWord_17 : decode cX6_isWord 17 = .ok (.ireturn, 1) := by decide +kernel
theorem dX6_isWord_18 : decode cX6_isWord 18 = .ok (.iconst 0, 1) := by decide +kernel
theorem dX6_isWord_19 : decode cX6_isWord 19 = .ok (.istore_n 2, 1) := by decide +kernel
theorem dX6_isWord_20 : decode cX6_isWord 20 = .ok (.iload_n 2, 1) := by decide +kernel
theorem dX6_isWord_21 : decode cX6_isWord 21 = .ok (.aload_n 1, 1) := by decide +kernel
theorem dX6_isWord_22 : decode cX6_isWord 22 = .ok (.invokevirtual 174, 3) := by decide +kernel
theorem dX6_isWord_25 : decode cX6_isWord 25 = .ok (.if_icmp .ge 30, 3) := by decide +kernel
theorem dX6_isWord_28 : decode cX6_isWord 28 = .ok (.aload_n 0, 1) := by decide +kernel
theorem dX6_isWord_29 : decode cX6_isWord 29 = .ok (.getfield 9, 3) := by decide +kernel
theorem dX6_isWord_32 : decode cX6_isWord 32 = .ok (.aload_n 0, 1) := by decide +kernel
theorem dX6_isWord_33 : decode cX6_isWord 33 = .ok (.getfield 66, 3) := by decide +kernel
theorem dX6_isWord_36 : decode cX6_isWord 36 = .ok (.iload_n 2, 1) := by decide +kernel
theorem dX6_isWord_37 : decode cX6_isWord 37 = .ok (.iadd, 1) := by decide +kernel
theorem dX6_isWord_38 : decode cX6_isWord 38 = .ok (.iaload, 1) := by decide +kernel
theorem dX6_isWord_39 : decode cX6_isWord 39 = .ok (.aload_n 1, 1) := by decide +kernel
theorem dX6_isWord_40 : decode cX6_isWord 40 = .ok (.iload_n 2, 1) := by decide +kernel
theorem dX6_isWord_41 : decode cX6_isWord 41 = .ok (.invokevirtual 178, 3) := by decide +kernel
theorem dX6_isWord_44 : decode cX6_isWord 44 = .ok (.if_icmp .eq 5, 3) := by decide +kernel
theorem dX6_isWord_47 : decode cX6_isWord 47 = .ok (.iconst 0, 1) := by decide +kernel
theorem dX6_isWord_48 : decode cX6_isWord 48 = .ok (.ireturn, 1) := by decide +kernel
theorem dX6_isWord_49 : decode cX6_isWord 49 = .ok (.iinc 2 1, 3) := by decide +kernel
theorem dX6_isWord_52 : decode cX6_isWord 52 = .ok (.goto (-32), 3) := by decide +kernel
theorem dX6_isWord_55 : decode cX6_isWord 55 = .ok (.iconst 1, 1) := by decide +kernel
theorem dX6_isWord_56 : decode cX6_isWord 56 = .ok (.ireturn, 1) := by decide +kernel
abbrev mX6_isWord : MD := (cX6_isWord, "BlottedDeed$Scribe", 3, 5, 115, (some .boolean), "isWord", [])
def bX6_isWord_0 (g : GE) (J : Nat → KT) : KT := i_aload 0 (i_getf 6 2 (i_aload 0 (i_getf 6 3 (i_isub (i_aload 1 (i_cvS fJ0_length_8abf5 g 0 (i_iceq (i_push (.int 0) (i_istore 2 (i_jmp [true, true, true] (J 1)))) (i_push (.int 0) (i_zreturn)))))))))
def bX6_isWord_1 (g : GE) (J : Nat → KT) : KT := i_iload 2 (i_aload 1 (i_cvS fJ0_length_8abf5 g 0 (i_icge (i_push (.int 1) (i_zreturn)) (i_aload 0 (i_getf 6 0 (i_aload 0 (i_getf 6 3 (i_iload 2 (i_iadd (i_iaload (i_aload 1 (i_iload 2 (i_cvS fJ0_charAt_5068e g 1 (i_iceq (i_iinc 2 1 (i_jmp [true, true, true] (J 1))) (i_push (.int 0) (i_zreturn))))))))))))))))
theorem sbX6_isWord_0 (g : GE) (J : Nat → KT) (h1 : Snd mX6_isWord g 20 (J 1)) : Snd mX6_isWord g 0 (bX6_isWord_0 g J) := by
  unfold bX6_isWord_0
  refine s_aload_n (pc := 0) (i := 0) ?_ dX6_isWord_0 rfl
  refine s_getf (pc := 1) (ci := 6) (f := 2) (T := TX6) ?_ ginX6 rfl (by decide) wt_197 dX6_isWord_1
  refine s_aload_n (pc := 4) (i := 0) ?_ dX6_isWord_4 rfl
  refine s_getf (pc := 5) (ci := 6) (f := 3) (T := TX6) ?_ ginX6 rfl (by decide) wt_198 dX6_isWord_5
  refine s_isub (pc := 8) ?_ dX6_isWord_8
  refine s_aload_n (pc := 9) (i := 1) ?_ dX6_isWord_9 rfl
  refine s_cvS (pc := 10) (n := 0) ?_ tJ0_length_8abf5 rfl wt_732 wt_733 wt_734 wt_22 wt_735 ⟨crJ0_length_8abf5, by decide, by decide⟩ dX6_isWord_10
  refine s_iceq (pc := 13) (tgt := 18) ?_ ?_ dX6_isWord_13 (by decide)
  · skip
    refine s_iconst (pc := 18) (v := 0) ?_ dX6_isWord_18 (by decide)
    refine s_istore_n (pc := 19) (i := 2) ?_ dX6_isWord_19 rfl (by decide)
    exact s_fall (pc := 20) h1
  · skip
    refine s_iconst (pc := 16) (v := 0) ?_ dX6_isWord_16 (by decide)
    exact s_zreturn (pc := 17) rfl dX6_isWord_17
theorem sbX6_isWord_1 (g : GE) (J : Nat → KT) (h1 : Snd mX6_isWord g 20 (J 1)) : Snd mX6_isWord g 20 (bX6_isWord_1 g J) := by
  unfold bX6_isWord_1
  refine s_iload_n (pc := 20) (i := 2) ?_ dX6_isWord_20 rfl
  refine s_aload_n (pc := 21) (i := 1) ?_ dX6_isWord_21 rfl
  refine s_cvS (pc := 22) (n := 0) ?_ tJ0_length_8abf5 rfl wt_732 wt_733 wt_734 wt_22 wt_735 ⟨crJ0_length_8abf5, by decide, by decide⟩ dX6_isWord_22
  refine s_icge (pc := 25) (tgt := 55) ?_ ?_ dX6_isWord_25 (by decide)
  · skip
    refine s_iconst (pc := 55) (v := 1) ?_ dX6_isWord_55 (by decide)
    exact s_zreturn (pc := 56) rfl dX6_isWord_56
  · skip
    refine s_aload_n (pc := 28) (i := 0) ?_ dX6_isWord_28 rfl
    refine s_getf (pc := 29) (ci := 6) (f := 0) (T := TX6) ?_ ginX6 rfl (by decide) wt_195 dX6_isWord_29
    refine s_aload_n (pc := 32) (i := 0) ?_ dX6_isWord_32 rfl
    refine s_getf (pc := 33) (ci := 6) (f := 3) (T := TX6) ?_ ginX6 rfl (by decide) wt_198 dX6_isWord_33
    refine s_iload_n (pc := 36) (i := 2) ?_ dX6_isWord_36 rfl
    refine s_iadd (pc := 37) ?_ dX6_isWord_37
    refine s_iaload (pc := 38) ?_ dX6_isWord_38
    refine s_aload_n (pc := 39) (i := 1) ?_ dX6_isWord_39 rfl
    refine s_iload_n (pc := 40) (i := 2) ?_ dX6_isWord_40 rfl
    refine s_cvS (pc := 41) (n := 1) ?_ tJ0_charAt_5068e rfl wt_742 wt_743 wt_744 wt_22 wt_745 ⟨crJ0_charAt_5068e, by decide, by decide⟩ dX6_isWord_41
    refine s_iceq (pc := 44) (tgt := 49) ?_ ?_ dX6_isWord_44 (by decide)
    · skip
      refine s_iinc (pc := 49) (i := 2) (v := 1) ?_ dX6_isWord_49 (by decide) (by decide)
      exact s_goto (pc := 52) (tgt := 20) h1 dX6_isWord_52 (by decide)
    · skip
      refine s_iconst (pc := 47) (v := 0) ?_ dX6_isWord_47 (by decide)
      exact s_zreturn (pc := 48) rfl dX6_isWord_48
def jX6_isWord (g : GE) : Nat → Nat → KT
  | 0, _ => fun _ _ _ => none
  | n + 1, 0 => bX6_isWord_0 g (jX6_isWord g n)
  | n + 1, 1 => bX6_isWord_1 g (jX6_isWord g n)
  | _ + 1, _ + 2 => fun _ _ _ => none
theorem sjX6_isWord (g : GE) : ∀ n, Snd mX6_isWord g 0 (jX6_isWord g n 0) ∧ Snd mX6_isWord g 20 (jX6_isWord g n 1)
  | 0 => ⟨s_none, s_none⟩
  | n + 1 => by
    obtain ⟨-, h1⟩ := sjX6_isWord g n
    exact ⟨sbX6_isWord_0 g _ h1, sbX6_isWord_1 g _ h1⟩
def kX6_isWord (g : GE) : KT := jX6_isWord g g.1 0
theorem sX6_isWord (g : GE) : Snd mX6_isWord g 0 (kX6_isWord g) := (sjX6_isWord g g.1).1
def fX6_isWord : FT := fun g av w => if (ent av).length ≤ 3 then kX6_isWord g [] (entp 3 av) w else none
theorem tX6_isWord : Mt yX6_isWord cX6_isWord 3 (some .boolean) 5 115 fX6_isWord := Mt.of (K := kX6_isWord) (by decide +kernel) (fun _ _ _ => rfl) sX6_isWord
theorem crX6_isWord : yX6_isWord.cls ≠ "java/lang/invoke/MethodHandle" ∧ yX6_isWord.cls ≠ "java/lang/invoke/VarHandle" ∧ (parseMethodDescriptor yX6_isWord.desc).map (fun d => d.parameters.length) = some 1 := by decide +kernel
theorem dX6_verbRead_0 : decode cX6_verbRead 0 = .ok (.iconst 0, 1) := by decide +kernel
theorem dX6_verbRead_1 : decode cX6_verbRead 1 = .ok (.istore_n 1, 1) := by decide +kernel
theorem dX6_verbRead_2 : decode cX6_verbRead 2 = .ok (.iload_n 1, 1) := by decide +kernel
theorem dX6_verbRead_3 : decode cX6_verbRead 3 = .ok (.getstatic 182, 3) := by decide +kernel
theorem dX6_verbRead_6 : decode cX6_verbRead 6 = .ok (.arraylength, 1) := by decide +kernel
theorem dX6_verbRead_7 : decode cX6_verbRead 7 = .ok (.if_icmp .ge 30, 3) := by decide +kernel
theorem dX6_verbRead_10 : decode cX6_verbRead 10 = .ok (.aload_n 0, 1) := by decide +kernel
theorem dX6_verbRead_11 : decode cX6_verbRead 11 = .ok (.getstatic 182, 3) := by decide +kernel
theorem dX6_verbRead_14 : decode cX6_verbRead 14 = .ok (.iload_n 1, 1) := by decide +kernel
theorem dX6_verbRead_15 : decode cX6_verbRead 15 = .ok (.aaload, 1) := by decide +kernel
theorem dX6_verbRead_16 : decode cX6_verbRead 16 = .ok (.getfield 186, 3) := by decide +kernel
theorem dX6_verbRead_19 : decode cX6_verbRead 19 = .ok (.invokevirtual 190, 3) := by decide +kernel
theorem dX6_verbRead_22 : decode cX6_verbRead 22 = .ok (.ifCond .eq 9, 3) := by decide +kernel
theorem dX6_verbRead_25 : decode cX6_verbRead 25 = .ok (.getstatic 182, 3) := by decide +kernel
theorem dX6_verbRead_28 : decode cX6_verbRead 28 = .ok (.iload_n 1, 1) := by decide +kernel
theorem dX6_verbRead_29 : decode cX6_verbRead 29 = .ok (.aaload, 1) := by decide +kernel
theorem dX6_verbRead_30 : decode cX6_verbRead 30 = .ok (.areturn, 1) := by decide +kernel
theorem dX6_verbRead_31 : decode cX6_verbRead 31 = .ok (.iinc 1 1, 3) := by decide +kernel
theorem dX6_verbRead_34 : decode cX6_verbRead 34 = .ok (.goto (-32), 3) := by decide +kernel
theorem dX6_verbRead_37 : decode cX6_verbRead 37 = .ok (.aconst_null, 1) := by decide +kernel
theorem dX6_verbRead_38 : decode cX6_verbRead 38 = .ok (.areturn, 1) := by decide +kernel
abbrev mX6_verbRead : MD := (cX6_verbRead, "BlottedDeed$Scribe", 2, 6, 137, (some (.object "BlottedDeed$Verb")), "verbRead", [])
def bX6_verbRead_0 (g : GE) (J : Nat → KT) : KT := i_push (.int 0) (i_istore 1 (i_jmp [true, true] (J 1)))
def bX6_verbRead_1 (g : GE) (J : Nat → KT) : KT := i_iload 1 (i_push (.ref (g.2.1 7)) (i_vlen g (i_icge (i_push .null (i_areturn)) (i_aload 0 (i_push (.ref (g.2.1 7)) (i_iload 1 (i_vald g (i_word g (i_cv fX6_isWord g 1 6 (i_ifeq (i_iinc 1 1 (i_jmp [true, true] (J 1))) (i_push (.ref (g.2.1 7)) (i_iload 1 (i_vald g (i_areturn))))))))))))))
theorem sbX6_verbRead_0 (g : GE) (J : Nat → KT) (h1 : Snd mX6_verbRead g 2 (J 1)) : Snd mX6_verbRead g 0 (bX6_verbRead_0 g J) := by
  unfold bX6_verbRead_0
  refine s_iconst (pc := 0) (v := 0) ?_ dX6_verbRead_0 (by decide)
  refine s_istore_n (pc := 1) (i := 1) ?_ dX6_verbRead_1 rfl (by decide)
  exact s_fall (pc := 2) h1
theorem sbX6_verbRead_1 (g : GE) (J : Nat → KT) (h1 : Snd mX6_verbRead g 2 (J 1)) : Snd mX6_verbRead g 2 (bX6_verbRead_1 g J) := by
  unfold bX6_verbRead_1
  refine s_iload_n (pc := 2) (i := 1) ?_ dX6_verbRead_2 rfl
  refine s_gets (pc := 3) (i := 7) ?_ (by decide) wt_726 dX6_verbRead_3
  refine s_vlen (pc := 6) ?_ dX6_verbRead_6
  refine s_icge (pc := 7) (tgt := 37) ?_ ?_ dX6_verbRead_7 (by decide)
  · skip
    refine s_null (pc := 37) ?_ dX6_verbRead_37
    exact s_areturn (pc := 38) rfl (by simp) dX6_verbRead_38
  · skip
    refine s_aload_n (pc := 10) (i := 0) ?_ dX6_verbRead_10 rfl
    refine s_gets (pc := 11) (i := 7) ?_ (by decide) wt_726 dX6_verbRead_11
    refine s_iload_n (pc := 14) (i := 1) ?_ dX6_verbRead_14 rfl
    refine s_vald (pc := 15) ?_ dX6_verbRead_15
    refine s_word (pc := 16) ?_ wt_1933 dX6_verbRead_16
    refine s_cv (pc := 19) (n := 1) (ci := 6) ?_ tX6_isWord rfl rfl wt_728 wt_730 wp_15 wt_7 wt_731 ⟨crX6_isWord, by decide, by decide⟩ dX6_verbRead_19
    refine s_ifeq (pc := 22) (tgt := 31) ?_ ?_ dX6_verbRead_22 (by decide)
    · skip
      refine s_iinc (pc := 31) (i := 1) (v := 1) ?_ dX6_verbRead_31 (by decide) (by decide)
      exact s_goto (pc := 34) (tgt := 2) h1 dX6_verbRead_34 (by decide)
    · skip
      refine s_gets (pc := 25) (i := 7) ?_ (by decide) wt_726 dX6_verbRead_25
      refine s_iload_n (pc := 28) (i := 1) ?_ dX6_verbRead_28 rfl
      refine s_vald (pc := 29) ?_ dX6_verbRead_29
      exact s_areturn (pc := 30) rfl (by simp) dX6_verbRead_30
def jX6_verbRead (g : GE) : Nat → Nat → KT
  | 0, _ => fun _ _ _ => none
  | n + 1, 0 => bX6_verbRead_0 g (jX6_verbRead g n)
  | n + 1, 1 => bX6_verbRead_1 g (jX6_verbRead g n)
  | _ + 1, _ + 2 => fun _ _ _ => none
theorem sjX6_verbRead (g : GE) : ∀ n, Snd mX6_verbRead g 0 (jX6_verbRead g n 0) ∧ Snd mX6_verbRead g 2 (jX6_verbRead g n 1)
  | 0 => ⟨s_none, s_none⟩
  | n + 1 => by
    obtain ⟨-, h1⟩ := sjX6_verbRead g n
    exact ⟨sbX6_verbRead_0 g _ h1, sbX6_verbRead_1 g _ h1⟩
def kX6_verbRead (g : GE) : KT := jX6_verbRead g g.1 0
theorem sX6_verbRead (g : GE) : Snd mX6_verbRead g 0 (kX6_verbRead g) := (sjX6_verbRead g g.1).1
def fX6_verbRead : FT := fun g av w => if (ent av).length ≤ 2 then kX6_verbRead g [] (entp 2 av) w else none
theorem tX6_verbRead : Mt yX6_verbRead cX6_verbRead 2 (some (.object "BlottedDeed$Verb")) 6 137 fX6_verbRead := Mt.of (K := kX6_verbRead) (by decide +kernel) (fun _ _ _ => rfl) sX6_verbRead
theorem crX6_verbRead : yX6_verbRead.cls ≠ "java/lang/invoke/MethodHandle" ∧ yX6_verbRead.cls ≠ "java/lang/invoke/VarHandle" ∧ (parseMethodDescriptor yX6_verbRead.desc).map (fun d => d.parameters.length) = some 0 := by decide +kernel
theorem dX9_isPart_0 : decode cX9_isPart 0 = .ok (.aload_n 0, 1) := by decide +kernel
theorem dX9_isPart_1 : decode cX9_isPart 1 = .ok (.getstatic 16, 3) := by decide +kernel
theorem dX9_isPart_4 : decode cX9_isPart 4 = .ok (.if_acmp .eq 17, 3) := by decide +kernel
theorem dX9_isPart_7 : decode cX9_isPart 7 = .ok (.aload_n 0, 1) := by decide +kernel
theorem dX9_isPart_8 : decode cX9_isPart 8 = .ok (.getstatic 19, 3) := by decide +kernel
theorem dX9_isPart_11 : decode cX9_isPart 11 = .ok (.if_acmp .eq 10, 3) := by decide +kernel
theorem dX9_isPart_14 : decode cX9_isPart 14 = .ok (.aload_n 0, 1) := by decide +kernel
theorem dX9_isPart_15 : decode cX9_isPart 15 = .ok (.getstatic 22, 3) := by decide +kernel
theorem dX9_isPart_18 : decode cX9_isPart 18 = .ok (.if_acmp .ne 7, 3) := by decide +kernel
theorem dX9_isPart_21 : decode cX9_isPart 21 = .ok (.iconst 1, 1) := by decide +kernel
theorem dX9_isPart_22 : decode cX9_isPart 22 = .ok (.goto 4, 3) := by decide +kernel
theorem dX9_isPart_25 : decode cX9_isPart 25 = .ok (.iconst 0, 1) := by decide +kernel
theorem dX9_isPart_26 : decode cX9_isPart 26 = .ok (.ireturn, 1) := by decide +kernel
abbrev mX9_isPart : MD := (cX9_isPart, "BlottedDeed$Verb", 1, 1, 30, (some .boolean), "isPart", [])
def bX9_isPart_0 (g : GE) (J : Nat → KT) : KT := i_aload 0 (i_push (.ref (g.2.1 4)) (i_acmpeq (i_jmp [false] (J 1)) (i_aload 0 (i_push (.ref (g.2.1 5)) (i_acmpeq (i_jmp [false] (J 1)) (i_aload 0 (i_push (.ref (g.2.1 6)) (i_acmpne (i_push (.int 0) (i_jmp [false] (J 2))) (i_jmp [false] (J 1))))))))))
def bX9_isPart_1 (g : GE) (J : Nat → KT) : KT := i_push (.int 1) (i_jmp [false] (J 2))
def bX9_isPart_2 (g : GE) (J : Nat → KT) : KT := i_zreturn
theorem sbX9_isPart_0 (g : GE) (J : Nat → KT) (h1 : Snd mX9_isPart g 21 (J 1)) (h2 : Snd mX9_isPart g 26 (J 2)) : Snd mX9_isPart g 0 (bX9_isPart_0 g J) := by
  unfold bX9_isPart_0
  refine s_aload_n (pc := 0) (i := 0) ?_ dX9_isPart_0 rfl
  refine s_gets (pc := 1) (i := 4) ?_ (by decide) wt_792 dX9_isPart_1
  refine s_acmpeq (pc := 4) (tgt := 21) ?_ ?_ dX9_isPart_4 (by decide)
  · skip
    exact s_fall (pc := 21) h1
  · skip
    refine s_aload_n (pc := 7) (i := 0) ?_ dX9_isPart_7 rfl
    refine s_gets (pc := 8) (i := 5) ?_ (by decide) wt_793 dX9_isPart_8
    refine s_acmpeq (pc := 11) (tgt := 21) ?_ ?_ dX9_isPart_11 (by decide)
    · skip
      exact s_fall (pc := 21) h1
    · skip
      refine s_aload_n (pc := 14) (i := 0) ?_ dX9_isPart_14 rfl
      refine s_gets (pc := 15) (i := 6) ?_ (by decide) wt_794 dX9_isPart_15
      refine s_acmpne (pc := 18) (tgt := 25) ?_ ?_ dX9_isPart_18 (by decide)
      · skip
        refine s_iconst (pc := 25) (v := 0) ?_ dX9_isPart_25 (by decide)
        exact s_fall (pc := 26) h2
      · skip
        exact s_fall (pc := 21) h1
theorem sbX9_isPart_1 (g : GE) (J : Nat → KT) (h1 : Snd mX9_isPart g 21 (J 1)) (h2 : Snd mX9_isPart g 26 (J 2)) : Snd mX9_isPart g 21 (bX9_isPart_1 g J) := by
  unfold bX9_isPart_1
  refine s_iconst (pc := 21) (v := 1) ?_ dX9_isPart_21 (by decide)
  exact s_goto (pc := 22) (tgt := 26) h2 dX9_isPart_22 (by decide)
theorem sbX9_isPart_2 (g : GE) (J : Nat → KT) (h1 : Snd mX9_isPart g 21 (J 1)) (h2 : Snd mX9_isPart g 26 (J 2)) : Snd mX9_isPart g 26 (bX9_isPart_2 g J) := by
  unfold bX9_isPart_2
  exact s_zreturn (pc := 26) rfl dX9_isPart_26
def jX9_isPart (g : GE) : Nat → Nat → KT
  | 0, _ => fun _ _ _ => none
  | n + 1, 0 => bX9_isPart_0 g (jX9_isPart g n)
  | n + 1, 1 => bX9_isPart_1 g (jX9_isPart g n)
  | n + 1, 2 => bX9_isPart_2 g (jX9_isPart g n)
  | _ + 1, _ + 3 => fun _ _ _ => none
theorem sjX9_isPart (g : GE) : ∀ n, Snd mX9_isPart g 0 (jX9_isPart g n 0) ∧ Snd mX9_isPart g 21 (jX9_isPart g n 1) ∧ Snd mX9_isPart g 26 (jX9_isPart g n 2)
  | 0 => ⟨s_none, s_none, s_none⟩
  | n + 1 => by
    obtain ⟨-, h1, h2⟩ := sjX9_isPart g n
    exact ⟨sbX9_isPart_0 g _ h1 h2, sbX9_isPart_1 g _ h1 h2, sbX9_isPart_2 g _ h1 h2⟩
def kX9_isPart (g : GE) : KT := jX9_isPart g g.1 0
theorem sX9_isPart (g : GE) : Snd mX9_isPart g 0 (kX9_isPart g) := (sjX9_isPart g g.1).1
def fX9_isPart : FT := fun g av w => if (ent av).length ≤ 1 then kX9_isPart g [] (entp 1 av) w else none
theorem tX9_isPart : Mt yX9_isPart cX9_isPart 1 (some .boolean) 1 30 fX9_isPart := Mt.of (K := kX9_isPart) (by decide +kernel) (fun _ _ _ => rfl) sX9_isPart
theorem crX9_isPart : yX9_isPart.cls ≠ "java/lang/invoke/MethodHandle" ∧ yX9_isPart.cls ≠ "java/lang/invoke/VarHandle" ∧ (parseMethodDescriptor yX9_isPart.desc).map (fun d => d.parameters.length) = some 0 := by decide +kernel
theorem dX2_isFull_0 : decode cX2_isFull 0 = .ok (.aload_n 1, 1) := by decide +kernel
theorem dX2_isFull_1 : decode cX2_isFull 1 = .ok (.getstatic 70, 3) := by decide +kernel
theorem dX2_isFull_4 : decode cX2_isFull 4 = .ok (.if_acmp .ne 17, 3) := by decide +kernel
theorem dX2_isFull_7 : decode cX2_isFull 7 = .ok (.aload_n 0, 1) := by decide +kernel
theorem dX2_isFull_8 : decode cX2_isFull 8 = .ok (.getfield 52, 3) := by decide +kernel
theorem dX2_isFull_11 : decode cX2_isFull 11 = .ok (.iconst 4, 1) := by decide +kernel
theorem dX2_isFull_12 : decode cX2_isFull 12 = .ok (.if_icmp .lt 7, 3) := by decide +kernel
theorem dX2_isFull_15 : decode cX2_isFull 15 = .ok (.iconst 1, 1) := by decide +kernel
theorem dX2_isFull_16 : decode cX2_isFull 16 = .ok (.goto 4, 3) := by decide +kernel
theorem dX2_isFull_19 : decode cX2_isFull 19 = .ok (.iconst 0, 1) := by decide +kernel
theorem dX2_isFull_20 : decode cX2_isFull 20 = .ok (.ireturn, 1) := by decide +kernel
theorem dX2_isFull_21 : decode cX2_isFull 21 = .ok (.aload_n 1, 1) := by decide +kernel
theorem dX2_isFull_22 : decode cX2_isFull 22 = .ok (.getstatic 76, 3) := by decide +kernel
theorem dX2_isFull_25 : decode cX2_isFull 25 = .ok (.if_acmp .ne 17, 3) := by decide +kernel
theorem dX2_isFull_28 : decode cX2_isFull 28 = .ok (.aload_n 0, 1) := by decide +kernel
theorem dX2_isFull_29 : decode cX2_isFull 29 = .ok (.getfield 55, 3) := by decide +kernel
theorem dX2_isFull_32 : decode cX2_isFull 32 = .ok (.iconst 5, 1) := by decide +kernel
theorem dX2_isFull_33 : decode cX2_isFull 33 = .ok (.if_icmp .lt 7, 3) := by decide +kernel
theorem dX2_isFull_36 : decode cX2_isFull 36 = .ok (.iconst 1, 1) := by decide +kernel
theorem dX2_isFull_37 : decode cX2_isFull 37 = .ok (.goto 4, 3) := by decide +kernel
theorem dX2_isFull_40 : decode cX2_isFull 40 = .ok (.iconst 0, 1) := by decide +kernel
theorem dX2_isFull_41 : decode cX2_isFull 41 = .ok (.ireturn, 1) := by decide +kernel
theorem dX2_isFull_42 : decode cX2_isFull 42 = .ok (.aload_n 1, 1) := by decide +kernel
theorem dX2_isFull_43 : decode cX2_isFull 43 = .ok (.invokevirtual 79, 3) := by decide +kernel
theorem dX2_isFull_46 : decode cX2_isFull 46 = .ok (.ifCond .eq 16, 3) := by decide +kernel
theorem dX2_isFull_49 : decode cX2_isFull 49 = .ok (.aload_n 0, 1) := by decide +kernel
theorem dX2_isFull_50 : decode cX2_isFull 50 = .ok (.getfield 58, 3) := by decide +kernel
theorem dX2_isFull_53 : decode cX2_isFull 53 = .ok (.bipush 9, 2) := by decide +kernel
theorem dX2_isFull_55 : decode cX2_isFull 55 = .ok (.if_icmp .lt 7, 3) := by decide +kernel
theorem dX2_isFull_58 : decode cX2_isFull 58 = .ok (.iconst 1, 1) := by decide +kernel
theorem dX2_isFull_59 : decode cX2_isFull 59 = .ok (.goto 4, 3) := by decide +kernel
theorem dX2_isFull_62 : decode cX2_isFull 62 = .ok (.iconst 0, 1) := by decide +kernel
theorem dX2_isFull_63 : decode cX2_isFull 63 = .ok (.ireturn, 1) := by decide +kernel
abbrev mX2_isFull : MD := (cX2_isFull, "BlottedDeed$Deed", 2, 2, 50, (some .boolean), "isFull", [])
def bX2_isFull_0 (g : GE) (J : Nat → KT) : KT := i_aload 1 (i_push (.ref (g.2.1 0)) (i_acmpne (i_aload 1 (i_push (.ref (g.2.1 1)) (i_acmpne (i_aload 1 (i_cvE fX9_isPart g 0 (i_ifeq (i_jmp [false, false] (J 3)) (i_aload 0 (i_getf 2 11 (i_push (.int 9) (i_iclt (i_jmp [false, false] (J 3)) (i_push (.int 1) (i_jmp [false, false] (J 4)))))))))) (i_aload 0 (i_getf 2 10 (i_push (.int 5) (i_iclt (i_push (.int 0) (i_jmp [false, false] (J 2))) (i_push (.int 1) (i_jmp [false, false] (J 2)))))))))) (i_aload 0 (i_getf 2 9 (i_push (.int 4) (i_iclt (i_push (.int 0) (i_jmp [false, false] (J 1))) (i_push (.int 1) (i_jmp [false, false] (J 1)))))))))
def bX2_isFull_1 (g : GE) (J : Nat → KT) : KT := i_zreturn
def bX2_isFull_2 (g : GE) (J : Nat → KT) : KT := i_zreturn
def bX2_isFull_3 (g : GE) (J : Nat → KT) : KT := i_push (.int 0) (i_jmp [false, false] (J 4))
def bX2_isFull_4 (g : GE) (J : Nat → KT) : KT := i_zreturn
theorem sbX2_isFull_0 (g : GE) (J : Nat → KT) (h1 : Snd mX2_isFull g 20 (J 1)) (h2 : Snd mX2_isFull g 41 (J 2)) (h3 : Snd mX2_isFull g 62 (J 3)) (h4 : Snd mX2_isFull g 63 (J 4)) : Snd mX2_isFull g 0 (bX2_isFull_0 g J) := by
  unfold bX2_isFull_0
  refine s_aload_n (pc := 0) (i := 1) ?_ dX2_isFull_0 rfl
  refine s_gets (pc := 1) (i := 0) ?_ (by decide) wt_784 dX2_isFull_1
  refine s_acmpne (pc := 4) (tgt := 21) ?_ ?_ dX2_isFull_4 (by decide)
  · skip
    refine s_aload_n (pc := 21) (i := 1) ?_ dX2_isFull_21 rfl
    refine s_gets (pc := 22) (i := 1) ?_ (by decide) wt_786 dX2_isFull_22
    refine s_acmpne (pc := 25) (tgt := 42) ?_ ?_ dX2_isFull_25 (by decide)
    · skip
      refine s_aload_n (pc := 42) (i := 1) ?_ dX2_isFull_42 rfl
      refine s_cvE (pc := 43) (n := 0) ?_ tX9_isPart rfl wt_788 wt_789 wt_790 wt_5 wt_791 ⟨crX9_isPart, by decide, by decide⟩ dX2_isFull_43
      refine s_ifeq (pc := 46) (tgt := 62) ?_ ?_ dX2_isFull_46 (by decide)
      · skip
        exact s_fall (pc := 62) h3
      · skip
        refine s_aload_n (pc := 49) (i := 0) ?_ dX2_isFull_49 rfl
        refine s_getf (pc := 50) (ci := 2) (f := 11) (T := TX2) ?_ ginX2 rfl (by decide) wt_136 dX2_isFull_50
        refine s_bipush (pc := 53) (v := 9) ?_ dX2_isFull_53 (by decide)
        refine s_iclt (pc := 55) (tgt := 62) ?_ ?_ dX2_isFull_55 (by decide)
        · skip
          exact s_fall (pc := 62) h3
        · skip
          refine s_iconst (pc := 58) (v := 1) ?_ dX2_isFull_58 (by decide)
          exact s_goto (pc := 59) (tgt := 63) h4 dX2_isFull_59 (by decide)
    · skip
      refine s_aload_n (pc := 28) (i := 0) ?_ dX2_isFull_28 rfl
      refine s_getf (pc := 29) (ci := 2) (f := 10) (T := TX2) ?_ ginX2 rfl (by decide) wt_133 dX2_isFull_29
      refine s_iconst (pc := 32) (v := 5) ?_ dX2_isFull_32 (by decide)
      refine s_iclt (pc := 33) (tgt := 40) ?_ ?_ dX2_isFull_33 (by decide)
      · skip
        refine s_iconst (pc := 40) (v := 0) ?_ dX2_isFull_40 (by decide)
        exact s_fall (pc := 41) h2
      · skip
        refine s_iconst (pc := 36) (v := 1) ?_ dX2_isFull_36 (by decide)
        exact s_goto (pc := 37) (tgt := 41) h2 dX2_isFull_37 (by decide)
  · skip
    refine s_aload_n (pc := 7) (i := 0) ?_ dX2_isFull_7 rfl
    refine s_getf (pc := 8) (ci := 2) (f := 9) (T := TX2) ?_ ginX2 rfl (by decide) wt_130 dX2_isFull_8
    refine s_iconst (pc := 11) (v := 4) ?_ dX2_isFull_11 (by decide)
    refine s_iclt (pc := 12) (tgt := 19) ?_ ?_ dX2_isFull_12 (by decide)
    · skip
      refine s_iconst (pc := 19) (v := 0) ?_ dX2_isFull_19 (by decide)
      exact s_fall (pc := 20) h1
    · skip
      refine s_iconst (pc := 15) (v := 1) ?_ dX2_isFull_15 (by decide)
      exact s_goto (pc := 16) (tgt := 20) h1 dX2_isFull_16 (by decide)
theorem sbX2_isFull_1 (g : GE) (J : Nat → KT) (h1 : Snd mX2_isFull g 20 (J 1)) (h2 : Snd mX2_isFull g 41 (J 2)) (h3 : Snd mX2_isFull g 62 (J 3)) (h4 : Snd mX2_isFull g 63 (J 4)) : Snd mX2_isFull g 20 (bX2_isFull_1 g J) := by
  unfold bX2_isFull_1
  exact s_zreturn (pc := 20) rfl dX2_isFull_20
theorem sbX2_isFull_2 (g : GE) (J : Nat → KT) (h1 : Snd mX2_isFull g 20 (J 1)) (h2 : Snd mX2_isFull g 41 (J 2)) (h3 : Snd mX2_isFull g 62 (J 3)) (h4 : Snd mX2_isFull g 63 (J 4)) : Snd mX2_isFull g 41 (bX2_isFull_2 g J) := by
  unfold bX2_isFull_2
  exact s_zreturn (pc := 41) rfl dX2_isFull_41
theorem sbX2_isFull_3 (g : GE) (J : Nat → KT) (h1 : Snd mX2_isFull g 20 (J 1)) (h2 : Snd mX2_isFull g 41 (J 2)) (h3 : Snd mX2_isFull g 62 (J 3)) (h4 : Snd mX2_isFull g 63 (J 4)) : Snd mX2_isFull g 62 (bX2_isFull_3 g J) := by
  unfold bX2_isFull_3
  refine s_iconst (pc := 62) (v := 0) ?_ dX2_isFull_62 (by decide)
  exact s_fall (pc := 63) h4
theorem sbX2_isFull_4 (g : GE) (J : Nat → KT) (h1 : Snd mX2_isFull g 20 (J 1)) (h2 : Snd mX2_isFull g 41 (J 2)) (h3 : Snd mX2_isFull g 62 (J 3)) (h4 : Snd mX2_isFull g 63 (J 4)) : Snd mX2_isFull g 63 (bX2_isFull_4 g J) := by
  unfold bX2_isFull_4
  exact s_zreturn (pc := 63) rfl dX2_isFull_63
def jX2_isFull (g : GE) : Nat → Nat → KT
  | 0, _ => fun _ _ _ => none
  | n + 1, 0 => bX2_isFull_0 g (jX2_isFull g n)
  | n + 1, 1 => bX2_isFull_1 g (jX2_isFull g n)
  | n + 1, 2 => bX2_isFull_2 g (jX2_isFull g n)
  | n + 1, 3 => bX2_isFull_3 g (jX2_isFull g n)
  | n + 1, 4 => bX2_isFull_4 g (jX2_isFull g n)
  | _ + 1, _ + 5 => fun _ _ _ => none
theorem sjX2_isFull (g : GE) : ∀ n, Snd mX2_isFull g 0 (jX2_isFull g n 0) ∧ Snd mX2_isFull g 20 (jX2_isFull g n 1) ∧ Snd mX2_isFull g 41 (jX2_isFull g n 2) ∧ Snd mX2_isFull g 62 (jX2_isFull g n 3) ∧ Snd mX2_isFull g 63 (jX2_isFull g n 4)
  | 0 => ⟨s_none, s_none, s_none, s_none, s_none⟩
  | n + 1 => by
    obtain ⟨-, h1, h2, h3, h4⟩ := sjX2_isFull g n
    exact ⟨sbX2_isFull_0 g _ h1 h2 h3 h4, sbX2_isFull_1 g _ h1 h2 h3 h4, sbX2_isFull_2 g _ h1 h2 h3 h4, sbX2_isFull_3 g _ h1 h2 h3 h4, sbX2_isFull_4 g _ h1 h2 h3 h4⟩
def kX2_isFull (g : GE) : KT := jX2_isFull g g.1 0
theorem sX2_isFull (g : GE) : Snd mX2_isFull g 0 (kX2_isFull g) := (sjX2_isFull g g.1).1
def fX2_isFull : FT := fun g av w => if (ent av).length ≤ 2 then kX2_isFull g [] (entp 2 av) w else none
theorem tX2_isFull : Mt yX2_isFull cX2_isFull 2 (some .boolean) 2 50 fX2_isFull := Mt.of (K := kX2_isFull) (by decide +kernel) (fun _ _ _ => rfl) sX2_isFull
theorem crX2_isFull : yX2_isFull.cls ≠ "java/lang/invoke/MethodHandle" ∧ yX2_isFull.cls ≠ "java/lang/invoke/VarHandle" ∧ (parseMethodDescriptor yX2_isFull.desc).map (fun d => d.parameters.length) = some 1 := by decide +kernel
theorem dX6_readVerb_0 : decode cX6_readVerb 0 = .ok (.aload_n 0, 1) := by decide +kernel
theorem dX6_readVerb_1 : decode cX6_readVerb 1 = .ok (.invokevirtual 59, 3) := by decide +kernel
theorem dX6_readVerb_4 : decode cX6_readVerb 4 = .ok (.ifCond .ne 5, 3) := by decide +kernel
theorem dX6_readVerb_7 : decode cX6_readVerb 7 = .ok (.aconst_null, 1) := by decide +kernel
theorem dX6_readVerb_8 : decode cX6_readVerb 8 = .ok (.areturn, 1) := by decide +kernel
theorem dX6_readVerb_9 : decode cX6_readVerb 9 = .ok (.aload_n 0, 1) := by decide +kernel
theorem dX6_readVerb_10 : decode cX6_readVerb 10 = .ok (.invokevirtual 62, 3) := by decide +kernel
theorem dX6_readVerb_13 : decode cX6_readVerb 13 = .ok (.astore_n 2, 1) := by decide +kernel
theorem dX6_readVerb_14 : decode cX6_readVerb 14 = .ok (.aload_n 2, 1) := by decide +kernel
theorem dX6_readVerb_15 : decode cX6_readVerb 15 = .ok (.ifnonnull 15, 3) := by decide +kernel
theorem dX6_readVerb_18 : decode cX6_readVerb 18 = .ok (.aload_n 0, 1) := by decide +kernel
theorem dX6_readVerb_19 : decode cX6_readVerb 19 = .ok (.iconst 1, 1) := by decide +kernel
theorem dX6_readVerb_20 : decode cX6_readVerb 20 = .ok (.aload_n 0, 1) := by decide +kernel
theorem dX6_readVerb_21 : decode cX6_readVerb 21 = .ok (.getfield 66, 3) := by decide +kernel
theorem dX6_readVerb_24 : decode cX6_readVerb 24 = .ok (.invokevirtual 49, 3) := by decide +kernel
theorem dX6_readVerb_27 : decode cX6_readVerb 27 = .ok (.pop, 1) := by decide +kernel
theorem dX6_readVerb_28 : decode cX6_readVerb 28 = .ok (.aconst_null, 1) := by decide +kernel
theorem dX6_readVerb_29 : decode cX6_readVerb 29 = .ok (.areturn, 1) := by decide +kernel
theorem dX6_readVerb_30 : decode cX6_readVerb 30 = .ok (.iload_n 1, 1) := by decide +kernel
theorem dX6_readVerb_31 : decode cX6_readVerb 31 = .ok (.bipush 40, 2) := by decide +kernel
theorem dX6_readVerb_33 : decode cX6_readVerb 33 = .ok (.if_icmp .ge 14, 3) := by decide +kernel
theorem dX6_readVerb_36 : decode cX6_readVerb 36 = .ok (.aload_n 0, 1) := by decide +kernel
theorem dX6_readVerb_37 : decode cX6_readVerb 37 = .ok (.getfield 15, 3) := by decide +kernel
theorem dX6_readVerb_40 : decode cX6_readVerb 40 = .ok (.aload_n 2, 1) := by decide +kernel
theorem dX6_readVerb_41 : decode cX6_readVerb 41 = .ok (.invokevirtual 69, 3) := by decide +kernel
theorem dX6_readVerb_44 : decode cX6_readVerb 44 = .ok (.ifCond .eq 15, 3) := by decide +kernel
theorem dX6_readVerb_47 : decode cX6_readVerb 47 = .ok (.aload_n 0, 1) := by decide +kernel
theorem dX6_readVerb_48 : decode cX6_readVerb 48 = .ok (.iconst 3, 1) := by decide +kernel
theorem dX6_readVerb_49 : decode cX6_readVerb 49 = .ok (.aload_n 0, 1) := by decide +kernel
theorem dX6_readVerb_50 : decode cX6_readVerb 50 = .ok (.getfield 66, 3) := by decide +kernel
theorem dX6_readVerb_53 : decode cX6_readVerb 53 = .ok (.invokevirtual 49, 3) := by decide +kernel
theorem dX6_readVerb_56 : decode cX6_readVerb 56 = .ok (.pop, 1) := by decide +kernel
theorem dX6_readVerb_57 : decode cX6_readVerb 57 = .ok (.aconst_null, 1) := by decide +kernel
theorem dX6_readVerb_58 : decode cX6_readVerb 58 = .ok (.areturn, 1) := by decide +kernel
theorem dX6_readVerb_59 : decode cX6_readVerb 59 = .ok (.aload_n 2, 1) := by decide +kernel
theorem dX6_readVerb_60 : decode cX6_readVerb 60 = .ok (.areturn, 1) := by decide +kernel
abbrev mX6_readVerb : MD := (cX6_readVerb, "BlottedDeed$Scribe", 3, 7, 158, (some (.object "BlottedDeed$Verb")), "readVerb", [])
def bX6_readVerb_0 (g : GE) (J : Nat → KT) : KT := i_aload 0 (i_cv fX6_readWord g 0 6 (i_ifne (i_aload 0 (i_cv fX6_verbRead g 0 6 (i_astore 2 (i_aload 2 (i_ifnonnull (i_iload 1 (i_push (.int 40) (i_icge (i_jmp [true, false, false] (J 1)) (i_aload 0 (i_getf 6 5 (i_aload 2 (i_cv fX2_isFull g 1 2 (i_ifeq (i_aload 2 (i_areturn)) (i_jmp [true, false, false] (J 1)))))))))) (i_aload 0 (i_push (.int 1) (i_aload 0 (i_getf 6 3 (i_cv fX6_fail g 2 6 (i_pop (i_push .null (i_areturn))))))))))))) (i_push .null (i_areturn))))
def bX6_readVerb_1 (g : GE) (J : Nat → KT) : KT := i_aload 0 (i_push (.int 3) (i_aload 0 (i_getf 6 3 (i_cv fX6_fail g 2 6 (i_pop (i_push .null (i_areturn)))))))
theorem sbX6_readVerb_0 (g : GE) (J : Nat → KT) (h1 : Snd mX6_readVerb g 47 (J 1)) : Snd mX6_readVerb g 0 (bX6_readVerb_0 g J) := by
  unfold bX6_readVerb_0
  refine s_aload_n (pc := 0) (i := 0) ?_ dX6_readVerb_0 rfl
  refine s_cv (pc := 1) (n := 0) (ci := 6) ?_ tX6_readWord rfl rfl wt_713 wt_715 wp_12 wt_7 wt_716 ⟨crX6_readWord, by decide, by decide⟩ dX6_readVerb_1
  refine s_ifne (pc := 4) (tgt := 9) ?_ ?_ dX6_readVerb_4 (by decide)
  · skip
    refine s_aload_n (pc := 9) (i := 0) ?_ dX6_readVerb_9 rfl
    refine s_cv (pc := 10) (n := 0) (ci := 6) ?_ tX6_verbRead rfl rfl wt_722 wt_724 wp_14 wt_7 wt_725 ⟨crX6_verbRead, by decide, by decide⟩ dX6_readVerb_10
    refine s_astore_n (pc := 13) (i := 2) ?_ dX6_readVerb_13 rfl (by decide)
    refine s_aload_n (pc := 14) (i := 2) ?_ dX6_readVerb_14 rfl
    refine s_ifnonnull (pc := 15) (tgt := 30) ?_ ?_ dX6_readVerb_15 (by decide)
    · skip
      refine s_iload_n (pc := 30) (i := 1) ?_ dX6_readVerb_30 rfl
      refine s_bipush (pc := 31) (v := 40) ?_ dX6_readVerb_31 (by decide)
      refine s_icge (pc := 33) (tgt := 47) ?_ ?_ dX6_readVerb_33 (by decide)
      · skip
        exact s_fall (pc := 47) h1
      · skip
        refine s_aload_n (pc := 36) (i := 0) ?_ dX6_readVerb_36 rfl
        refine s_getf (pc := 37) (ci := 6) (f := 5) (T := TX6) ?_ ginX6 rfl (by decide) wt_200 dX6_readVerb_37
        refine s_aload_n (pc := 40) (i := 2) ?_ dX6_readVerb_40 rfl
        refine s_cv (pc := 41) (n := 1) (ci := 2) ?_ tX2_isFull rfl rfl wt_780 wt_781 wt_782 wt_2 wt_783 ⟨crX2_isFull, by decide, by decide⟩ dX6_readVerb_41
        refine s_ifeq (pc := 44) (tgt := 59) ?_ ?_ dX6_readVerb_44 (by decide)
        · skip
          refine s_aload_n (pc := 59) (i := 2) ?_ dX6_readVerb_59 rfl
          exact s_areturn (pc := 60) rfl (by simp) dX6_readVerb_60
        · skip
          exact s_fall (pc := 47) h1
    · skip
      refine s_aload_n (pc := 18) (i := 0) ?_ dX6_readVerb_18 rfl
      refine s_iconst (pc := 19) (v := 1) ?_ dX6_readVerb_19 (by decide)
      refine s_aload_n (pc := 20) (i := 0) ?_ dX6_readVerb_20 rfl
      refine s_getf (pc := 21) (ci := 6) (f := 3) (T := TX6) ?_ ginX6 rfl (by decide) wt_198 dX6_readVerb_21
      refine s_cv (pc := 24) (n := 2) (ci := 6) ?_ tX6_fail rfl rfl wt_718 wt_720 wp_13 wt_7 wt_721 ⟨crX6_fail, by decide, by decide⟩ dX6_readVerb_24
      refine s_pop (pc := 27) ?_ dX6_readVerb_27
      refine s_null (pc := 28) ?_ dX6_readVerb_28
      exact s_areturn (pc := 29) rfl (by simp) dX6_readVerb_29
  · skip
    refine s_null (pc := 7) ?_ dX6_readVerb_7
    exact s_areturn (pc := 8) rfl (by simp) dX6_readVerb_8
theorem sbX6_readVerb_1 (g : GE) (J : Nat → KT) (h1 : Snd mX6_readVerb g 47 (J 1)) : Snd mX6_readVerb g 47 (bX6_readVerb_1 g J) := by
  unfold bX6_readVerb_1
  refine s_aload_n (pc := 47) (i := 0) ?_ dX6_readVerb_47 rfl
  refine s_iconst (pc := 48) (v := 3) ?_ dX6_readVerb_48 (by decide)
  refine s_aload_n (pc := 49) (i := 0) ?_ dX6_readVerb_49 rfl
  refine s_getf (pc := 50) (ci := 6) (f := 3) (T := TX6) ?_ ginX6 rfl (by decide) wt_198 dX6_readVerb_50
  refine s_cv (pc := 53) (n := 2) (ci := 6) ?_ tX6_fail rfl rfl wt_718 wt_720 wp_13 wt_7 wt_721 ⟨crX6_fail, by decide, by decide⟩ dX6_readVerb_53
  refine s_pop (pc := 56) ?_ dX6_readVerb_56
  refine s_null (pc := 57) ?_ dX6_readVerb_57
  exact s_areturn (pc := 58) rfl (by simp) dX6_readVerb_58
def jX6_readVerb (g : GE) : Nat → Nat → KT
  | 0, _ => fun _ _ _ => none
  | n + 1, 0 => bX6_readVerb_0 g (jX6_readVerb g n)
  | n + 1, 1 => bX6_readVerb_1 g (jX6_readVerb g n)
  | _ + 1, _ + 2 => fun _ _ _ => none
theorem sjX6_readVerb (g : GE) : ∀ n, Snd mX6_readVerb g 0 (jX6_readVerb g n 0) ∧ Snd mX6_readVerb g 47 (jX6_readVerb g n 1)
  | 0 => ⟨s_none, s_none⟩
  | n + 1 => by
    obtain ⟨-, h1⟩ := sjX6_readVerb g n
    exact ⟨sbX6_readVerb_0 g _ h1, sbX6_readVerb_1 g _ h1⟩
def kX6_readVerb (g : GE) : KT := jX6_readVerb g g.1 0
theorem sX6_readVerb (g : GE) : Snd mX6_readVerb g 0 (kX6_readVerb g) := (sjX6_readVerb g g.1).1
def fX6_readVerb : FT := fun g av w => if (ent av).length ≤ 3 then kX6_readVerb g [] (entp 3 av) w else none
theorem tX6_readVerb : Mt yX6_readVerb cX6_readVerb 3 (some (.object "BlottedDeed$Verb")) 7 158 fX6_readVerb := Mt.of (K := kX6_readVerb) (by decide +kernel) (fun _ _ _ => rfl) sX6_readVerb
theorem crX6_readVerb : yX6_readVerb.cls ≠ "java/lang/invoke/MethodHandle" ∧ yX6_readVerb.cls ≠ "java/lang/invoke/VarHandle" ∧ (parseMethodDescriptor yX6_readVerb.desc).map (fun d => d.parameters.length) = some 1 := by decide +kernel
theorem dX2_heirNamed_0 : decode cX2_heirNamed 0 = .ok (.iconst 0, 1) := by decide +kernel
theorem dX2_heirNamed_1 : decode cX2_heirNamed 1 = .ok (.istore_n 3, 1) := by decide +kernel
theorem dX2_heirNamed_2 : decode cX2_heirNamed 2 = .ok (.iload_n 3, 1) := by decide +kernel
theorem dX2_heirNamed_3 : decode cX2_heirNamed 3 = .ok (.aload_n 0, 1) := by decide +kernel
theorem dX2_heirNamed_4 : decode cX2_heirNamed 4 = .ok (.getfield 52, 3) := by decide +kernel
theorem dX2_heirNamed_7 : decode cX2_heirNamed 7 = .ok (.if_icmp .ge 22, 3) := by decide +kernel
theorem dX2_heirNamed_10 : decode cX2_heirNamed 10 = .ok (.aload_n 0, 1) := by decide +kernel
theorem dX2_heirNamed_11 : decode cX2_heirNamed 11 = .ok (.getfield 9, 3) := by decide +kernel
theorem dX2_heirNamed_14 : decode cX2_heirNamed 14 = .ok (.iload_n 3, 1) := by decide +kernel
theorem dX2_heirNamed_15 : decode cX2_heirNamed 15 = .ok (.laload, 1) := by decide +kernel
theorem dX2_heirNamed_16 : decode cX2_heirNamed 16 = .ok (.lload_n 1, 1) := by decide +kernel
theorem dX2_heirNamed_17 : decode cX2_heirNamed 17 = .ok (.lcmp, 1) := by decide +kernel
theorem dX2_heirNamed_18 : decode cX2_heirNamed 18 = .ok (.ifCond .ne 5, 3) := by decide +kernel
theorem dX2_heirNamed_21 : decode cX2_heirNamed 21 = .ok (.iload_n 3, 1) := by decide +kernel
theorem dX2_heirNamed_22 : decode cX2_heirNamed 22 = .ok (.ireturn, 1) := by decide +kernel
theorem dX2_heirNamed_23 : decode cX2_heirNamed 23 = .ok (.iinc 3 1, 3) := by decide +kernel
theorem dX2_heirNamed_26 : decode cX2_heirNamed 26 = .ok (.goto (-24), 3) := by decide +kernel
theorem dX2_heirNamed_29 : decode cX2_heirNamed 29 = .ok (.iconst (-1), 1) := by decide +kernel
theorem dX2_heirNamed_30 : decode cX2_heirNamed 30 = .ok (.ireturn, 1) := by decide +kernel
abbrev mX2_heirNamed : MD := (cX2_heirNamed, "BlottedDeed$Deed", 4, 1, 30, (some .int), "heirNamed", [])
def bX2_heirNamed_0 (g : GE) (J : Nat → KT) : KT := i_push (.int 0) (i_istore 3 (i_jmp [true, true, false, true] (J 1)))
def bX2_heirNamed_1 (g : GE) (J : Nat → KT) : KT := i_iload 3 (i_aload 0 (i_getf 2 9 (i_icge (i_push (.int (-1)) (i_ireturn)) (i_aload 0 (i_getf 2 0 (i_iload 3 (i_laload (i_lload 1 (i_lcmp (i_ifne (i_iinc 3 1 (i_jmp [true, true, false, true] (J 1))) (i_iload 3 (i_ireturn))))))))))))
theorem sbX2_heirNamed_0 (g : GE) (J : Nat → KT) (h1 : Snd mX2_heirNamed g 2 (J 1)) : Snd mX2_heirNamed g 0 (bX2_heirNamed_0 g J) := by
  unfold bX2_heirNamed_0
  refine s_iconst (pc := 0) (v := 0) ?_ dX2_heirNamed_0 (by decide)
  refine s_istore_n (pc := 1) (i := 3) ?_ dX2_heirNamed_1 rfl (by decide)
  exact s_fall (pc := 2) h1
theorem sbX2_heirNamed_1 (g : GE) (J : Nat → KT) (h1 : Snd mX2_heirNamed g 2 (J 1)) : Snd mX2_heirNamed g 2 (bX2_heirNamed_1 g J) := by
  unfold bX2_heirNamed_1
  refine s_iload_n (pc := 2) (i := 3) ?_ dX2_heirNamed_2 rfl
  refine s_aload_n (pc := 3) (i := 0) ?_ dX2_heirNamed_3 rfl
  refine s_getf (pc := 4) (ci := 2) (f := 9) (T := TX2) ?_ ginX2 rfl (by decide) wt_130 dX2_heirNamed_4
  refine s_icge (pc := 7) (tgt := 29) ?_ ?_ dX2_heirNamed_7 (by decide)
  · skip
    refine s_iconst (pc := 29) (v := (-1)) ?_ dX2_heirNamed_29 (by decide)
    exact s_ireturn (pc := 30) rfl dX2_heirNamed_30
  · skip
    refine s_aload_n (pc := 10) (i := 0) ?_ dX2_heirNamed_10 rfl
    refine s_getf (pc := 11) (ci := 2) (f := 0) (T := TX2) ?_ ginX2 rfl (by decide) wt_110 dX2_heirNamed_11
    refine s_iload_n (pc := 14) (i := 3) ?_ dX2_heirNamed_14 rfl
    refine s_laload (pc := 15) ?_ dX2_heirNamed_15
    refine s_lload_n (pc := 16) (i := 1) ?_ dX2_heirNamed_16 rfl
    refine s_lcmp (pc := 17) ?_ dX2_heirNamed_17
    refine s_ifne (pc := 18) (tgt := 23) ?_ ?_ dX2_heirNamed_18 (by decide)
    · skip
      refine s_iinc (pc := 23) (i := 3) (v := 1) ?_ dX2_heirNamed_23 (by decide) (by decide)
      exact s_goto (pc := 26) (tgt := 2) h1 dX2_heirNamed_26 (by decide)
    · skip
      refine s_iload_n (pc := 21) (i := 3) ?_ dX2_heirNamed_21 rfl
      exact s_ireturn (pc := 22) rfl dX2_heirNamed_22
def jX2_heirNamed (g : GE) : Nat → Nat → KT
  | 0, _ => fun _ _ _ => none
  | n + 1, 0 => bX2_heirNamed_0 g (jX2_heirNamed g n)
  | n + 1, 1 => bX2_heirNamed_1 g (jX2_heirNamed g n)
  | _ + 1, _ + 2 => fun _ _ _ => none
theorem sjX2_heirNamed (g : GE) : ∀ n, Snd mX2_heirNamed g 0 (jX2_heirNamed g n 0) ∧ Snd mX2_heirNamed g 2 (jX2_heirNamed g n 1)
  | 0 => ⟨s_none, s_none⟩
  | n + 1 => by
    obtain ⟨-, h1⟩ := sjX2_heirNamed g n
    exact ⟨sbX2_heirNamed_0 g _ h1, sbX2_heirNamed_1 g _ h1⟩
def kX2_heirNamed (g : GE) : KT := jX2_heirNamed g g.1 0
theorem sX2_heirNamed (g : GE) : Snd mX2_heirNamed g 0 (kX2_heirNamed g) := (sjX2_heirNamed g g.1).1
def fX2_heirNamed : FT := fun g av w => if (ent av).length ≤ 4 then kX2_heirNamed g [] (entp 4 av) w else none
theorem tX2_heirNamed : Mt yX2_heirNamed cX2_heirNamed 4 (some .int) 1 30 fX2_heirNamed := Mt.of (K := kX2_heirNamed) (by decide +kernel) (fun _ _ _ => rfl) sX2_heirNamed
theorem crX2_heirNamed : yX2_heirNamed.cls ≠ "java/lang/invoke/MethodHandle" ∧ yX2_heirNamed.cls ≠ "java/lang/invoke/VarHandle" ∧ (parseMethodDescriptor yX2_heirNamed.desc).map (fun d => d.parameters.length) = some 1 := by decide +kernel
theorem dX2_thingNamed_0 : decode cX2_thingNamed 0 = .ok (.iconst 0, 1) := by decide +kernel
theorem dX2_thingNamed_1 : decode cX2_thingNamed 1 = .ok (.istore_n 3, 1) := by decide +kernel
theorem dX2_thingNamed_2 : decode cX2_thingNamed 2 = .ok (.iload_n 3, 1) := by decide +kernel
theorem dX2_thingNamed_3 : decode cX2_thingNamed 3 = .ok (.aload_n 0, 1) := by decide +kernel
theorem dX2_thingNamed_4 : decode cX2_thingNamed 4 = .ok (.getfield 55, 3) := by decide +kernel
theorem dX2_thingNamed_7 : decode cX2_thingNamed 7 = .ok (.if_icmp .ge 22, 3) := by decide +kernel
theorem dX2_thingNamed_10 : decode cX2_thingNamed 10 = .ok (.aload_n 0, 1) := by decide +kernel
theorem dX2_thingNamed_11 : decode cX2_thingNamed 11 = .ok (.getfield 22, 3) := by decide +kernel
theorem dX2_thingNamed_14 : decode cX2_thingNamed 14 = .ok (.iload_n 3, 1) := by decide +kernel
theorem dX2_thingNamed_15 : decode cX2_thingNamed 15 = .ok (.laload, 1) := by decide +kernel
theorem dX2_thingNamed_16 : decode cX2_thingNamed 16 = .ok (.lload_n 1, 1) := by decide +kernel
theorem dX2_thingNamed_17 : decode cX2_thingNamed 17 = .ok (.lcmp, 1) := by decide +kernel
theorem dX2_thingNamed_18 : decode cX2_thingNamed 18 = .ok (.ifCond .ne 5, 3) := by decide +kernel
theorem dX2_thingNamed_21 : decode cX2_thingNamed 21 = .ok (.iload_n 3, 1) := by decide +kernel
theorem dX2_thingNamed_22 : decode cX2_thingNamed 22 = .ok (.ireturn, 1) := by decide +kernel
theorem dX2_thingNamed_23 : decode cX2_thingNamed 23 = .ok (.iinc 3 1, 3) := by decide +kernel
theorem dX2_thingNamed_26 : decode cX2_thingNamed 26 = .ok (.goto (-24), 3) := by decide +kernel
theorem dX2_thingNamed_29 : decode cX2_thingNamed 29 = .ok (.iconst (-1), 1) := by decide +kernel
theorem dX2_thingNamed_30 : decode cX2_thingNamed 30 = .ok (.ireturn, 1) := by decide +kernel
abbrev mX2_thingNamed : MD := (cX2_thingNamed, "BlottedDeed$Deed", 4, 1, 30, (some .int), "thingNamed", [])
def bX2_thingNamed_0 (g : GE) (J : Nat → KT) : KT := i_push (.int 0) (i_istore 3 (i_jmp [true, true, false, true] (J 1)))
def bX2_thingNamed_1 (g : GE) (J : Nat → KT) : KT := i_iload 3 (i_aload 0 (i_getf 2 10 (i_icge (i_push (.int (-1)) (i_ireturn)) (i_aload 0 (i_getf 2 3 (i_iload 3 (i_laload (i_lload 1 (i_lcmp (i_ifne (i_iinc 3 1 (i_jmp [true, true, false, true] (J 1))) (i_iload 3 (i_ireturn))))))))))))
theorem sbX2_thingNamed_0 (g : GE) (J : Nat → KT) (h1 : Snd mX2_thingNamed g 2 (J 1)) : Snd mX2_thingNamed g 0 (bX2_thingNamed_0 g J) := by
  unfold bX2_thingNamed_0
  refine s_iconst (pc := 0) (v := 0) ?_ dX2_thingNamed_0 (by decide)
  refine s_istore_n (pc := 1) (i := 3) ?_ dX2_thingNamed_1 rfl (by decide)
  exact s_fall (pc := 2) h1
theorem sbX2_thingNamed_1 (g : GE) (J : Nat → KT) (h1 : Snd mX2_thingNamed g 2 (J 1)) : Snd mX2_thingNamed g 2 (bX2_thingNamed_1 g J) := by
  unfold bX2_thingNamed_1
  refine s_iload_n (pc := 2) (i := 3) ?_ dX2_thingNamed_2 rfl
  refine s_aload_n (pc := 3) (i := 0) ?_ dX2_thingNamed_3 rfl
  refine s_getf (pc := 4) (ci := 2) (f := 10) (T := TX2) ?_ ginX2 rfl (by decide) wt_133 dX2_thingNamed_4
  refine s_icge (pc := 7) (tgt := 29) ?_ ?_ dX2_thingNamed_7 (by decide)
  · skip
    refine s_iconst (pc := 29) (v := (-1)) ?_ dX2_thingNamed_29 (by decide)
    exact s_ireturn (pc := 30) rfl dX2_thingNamed_30
  · skip
    refine s_aload_n (pc := 10) (i := 0) ?_ dX2_thingNamed_10 rfl
    refine s_getf (pc := 11) (ci := 2) (f := 3) (T := TX2) ?_ ginX2 rfl (by decide) wt_115 dX2_thingNamed_11
    refine s_iload_n (pc := 14) (i := 3) ?_ dX2_thingNamed_14 rfl
    refine s_laload (pc := 15) ?_ dX2_thingNamed_15
    refine s_lload_n (pc := 16) (i := 1) ?_ dX2_thingNamed_16 rfl
    refine s_lcmp (pc := 17) ?_ dX2_thingNamed_17
    refine s_ifne (pc := 18) (tgt := 23) ?_ ?_ dX2_thingNamed_18 (by decide)
    · skip
      refine s_iinc (pc := 23) (i := 3) (v := 1) ?_ dX2_thingNamed_23 (by decide) (by decide)
      exact s_goto (pc := 26) (tgt := 2) h1 dX2_thingNamed_26 (by decide)
    · skip
      refine s_iload_n (pc := 21) (i := 3) ?_ dX2_thingNamed_21 rfl
      exact s_ireturn (pc := 22) rfl dX2_thingNamed_22
def jX2_thingNamed (g : GE) : Nat → Nat → KT
  | 0, _ => fun _ _ _ => none
  | n + 1, 0 => bX2_thingNamed_0 g (jX2_thingNamed g n)
  | n + 1, 1 => bX2_thingNamed_1 g (jX2_thingNamed g n)
  | _ + 1, _ + 2 => fun _ _ _ => none
theorem sjX2_thingNamed (g : GE) : ∀ n, Snd mX2_thingNamed g 0 (jX2_thingNamed g n 0) ∧ Snd mX2_thingNamed g 2 (jX2_thingNamed g n 1)
  | 0 => ⟨s_none, s_none⟩
  | n + 1 => by
    obtain ⟨-, h1⟩ := sjX2_thingNamed g n
    exact ⟨sbX2_thingNamed_0 g _ h1, sbX2_thingNamed_1 g _ h1⟩
def kX2_thingNamed (g : GE) : KT := jX2_thingNamed g g.1 0
theorem sX2_thingNamed (g : GE) : Snd mX2_thingNamed g 0 (kX2_thingNamed g) := (sjX2_thingNamed g g.1).1
def fX2_thingNamed : FT := fun g av w => if (ent av).length ≤ 4 then kX2_thingNamed g [] (entp 4 av) w else none
theorem tX2_thingNamed : Mt yX2_thingNamed cX2_thingNamed 4 (some .int) 1 30 fX2_thingNamed := Mt.of (K := kX2_thingNamed) (by decide +kernel) (fun _ _ _ => rfl) sX2_thingNamed
theorem crX2_thingNamed : yX2_thingNamed.cls ≠ "java/lang/invoke/MethodHandle" ∧ yX2_thingNamed.cls ≠ "java/lang/invoke/VarHandle" ∧ (parseMethodDescriptor yX2_thingNamed.desc).map (fun d => d.parameters.length) = some 1 := by decide +kernel
theorem dX6_isTooLong_0 : decode cX6_isTooLong 0 = .ok (.aload_n 0, 1) := by decide +kernel
theorem dX6_isTooLong_1 : decode cX6_isTooLong 1 = .ok (.getfield 28, 3) := by decide +kernel
theorem dX6_isTooLong_4 : decode cX6_isTooLong 4 = .ok (.aload_n 0, 1) := by decide +kernel
theorem dX6_isTooLong_5 : decode cX6_isTooLong 5 = .ok (.getfield 66, 3) := by decide +kernel
theorem dX6_isTooLong_8 : decode cX6_isTooLong 8 = .ok (.isub, 1) := by decide +kernel
theorem dX6_isTooLong_9 : decode cX6_isTooLong 9 = .ok (.bipush 9, 2) := by decide +kernel
theorem dX6_isTooLong_11 : decode cX6_isTooLong 11 = .ok (.if_icmp .le 7, 3) := by decide +kernel
theorem dX6_isTooLong_14 : decode cX6_isTooLong 14 = .ok (.iconst 1, 1) := by decide +kernel
theorem dX6_isTooLong_15 : decode cX6_isTooLong 15 = .ok (.goto 4, 3) := by decide +kernel
theorem dX6_isTooLong_18 : decode cX6_isTooLong 18 = .ok (.iconst 0, 1) := by decide +kernel
theorem dX6_isTooLong_19 : decode cX6_isTooLong 19 = .ok (.ireturn, 1) := by decide +kernel
abbrev mX6_isTooLong : MD := (cX6_isTooLong, "BlottedDeed$Scribe", 1, 1, 30, (some .boolean), "isTooLong", [])
def bX6_isTooLong_0 (g : GE) (J : Nat → KT) : KT := i_aload 0 (i_getf 6 2 (i_aload 0 (i_getf 6 3 (i_isub (i_push (.int 9) (i_icle (i_push (.int 0) (i_jmp [false] (J 1))) (i_push (.int 1) (i_jmp [false] (J 1)))))))))
def bX6_isTooLong_1 (g : GE) (J : Nat → KT) : KT := i_zreturn
theorem sbX6_isTooLong_0 (g : GE) (J : Nat → KT) (h1 : Snd mX6_isTooLong g 19 (J 1)) : Snd mX6_isTooLong g 0 (bX6_isTooLong_0 g J) := by
  unfold bX6_isTooLong_0
  refine s_aload_n (pc := 0) (i := 0) ?_ dX6_isTooLong_0 rfl
  refine s_getf (pc := 1) (ci := 6) (f := 2) (T := TX6) ?_ ginX6 rfl (by decide) wt_197 dX6_isTooLong_1
  refine s_aload_n (pc := 4) (i := 0) ?_ dX6_isTooLong_4 rfl
  refine s_getf (pc := 5) (ci := 6) (f := 3) (T := TX6) ?_ ginX6 rfl (by decide) wt_198 dX6_isTooLong_5
  refine s_isub (pc := 8) ?_ dX6_isTooLong_8
  refine s_bipush (pc := 9) (v := 9) ?_ dX6_isTooLong_9 (by decide)
  refine s_icle (pc := 11) (tgt := 18) ?_ ?_ dX6_isTooLong_11 (by decide)
  · skip
    refine s_iconst (pc := 18) (v := 0) ?_ dX6_isTooLong_18 (by decide)
    exact s_fall (pc := 19) h1
  · skip
    refine s_iconst (pc := 14) (v := 1) ?_ dX6_isTooLong_14 (by decide)
    exact s_goto (pc := 15) (tgt := 19) h1 dX6_isTooLong_15 (by decide)
theorem sbX6_isTooLong_1 (g : GE) (J : Nat → KT) (h1 : Snd mX6_isTooLong g 19 (J 1)) : Snd mX6_isTooLong g 19 (bX6_isTooLong_1 g J) := by
  unfold bX6_isTooLong_1
  exact s_zreturn (pc := 19) rfl dX6_isTooLong_19
def jX6_isTooLong (g : GE) : Nat → Nat → KT
  | 0, _ => fun _ _ _ => none
  | n + 1, 0 => bX6_isTooLong_0 g (jX6_isTooLong g n)
  | n + 1, 1 => bX6_isTooLong_1 g (jX6_isTooLong g n)
  | _ + 1, _ + 2 => fun _ _ _ => none
theorem sjX6_isTooLong (g : GE) : ∀ n, Snd mX6_isTooLong g 0 (jX6_isTooLong g n 0) ∧ Snd mX6_isTooLong g 19 (jX6_isTooLong g n 1)
  | 0 => ⟨s_none, s_none⟩
  | n + 1 => by
    obtain ⟨-, h1⟩ := sjX6_isTooLong g n
    exact ⟨sbX6_isTooLong_0 g _ h1, sbX6_isTooLong_1 g _ h1⟩
def kX6_isTooLong (g : GE) : KT := jX6_isTooLong g g.1 0
theorem sX6_isTooLong (g : GE) : Snd mX6_isTooLong g 0 (kX6_isTooLong g) := (sjX6_isTooLong g g.1).1
def fX6_isTooLong : FT := fun g av w => if (ent av).length ≤ 1 then kX6_isTooLong g [] (entp 1 av) w else none
theorem tX6_isTooLong : Mt yX6_isTooLong cX6_isTooLong 1 (some .boolean) 1 30 fX6_isTooLong := Mt.of (K := kX6_isTooLong) (by decide +kernel) (fun _ _ _ => rfl) sX6_isTooLong
theorem crX6_isTooLong : yX6_isTooLong.cls ≠ "java/lang/invoke/MethodHandle" ∧ yX6_isTooLong.cls ≠ "java/lang/invoke/VarHandle" ∧ (parseMethodDescriptor yX6_isTooLong.desc).map (fun d => d.parameters.length) = some 0 := by decide +kernel
theorem dX6_readNewName_0 : decode cX6_readNewName 0 = .ok (.aload_n 0, 1) := by decide +kernel
theorem dX6_readNewName_1 : decode cX6_readNewName 1 = .ok (.invokevirtual 59, 3) := by decide +kernel
theorem dX6_readNewName_4 : decode cX6_readNewName 4 = .ok (.ifCond .ne 5, 3) := by decide +kernel
theorem dX6_readNewName_7 : decode cX6_readNewName 7 = .ok (.iconst 0, 1) := by decide +kernel
theorem dX6_readNewName_8 : decode cX6_readNewName 8 = .ok (.ireturn, 1) := by decide +kernel
theorem dX6_readNewName_9 : decode cX6_readNewName 9 = .ok (.aload_n 0, 1) := by decide +kernel
theorem dX6_readNewName_10 : decode cX6_readNewName 10 = .ok (.getfield 15, 3) := by decide +kernel
theorem dX6_readNewName_13 : decode cX6_readNewName 13 = .ok (.aload_n 0, 1) := by decide +kernel
theorem dX6_readNewName_14 : decode cX6_readNewName 14 = .ok (.getfield 123, 3) := by decide +kernel
theorem dX6_readNewName_17 : decode cX6_readNewName 17 = .ok (.invokevirtual 194, 3) := by decide +kernel
theorem dX6_readNewName_20 : decode cX6_readNewName 20 = .ok (.iconst (-1), 1) := by decide +kernel
theorem dX6_readNewName_21 : decode cX6_readNewName 21 = .ok (.if_icmp .ne 18, 3) := by decide +kernel
theorem dX6_readNewName_24 : decode cX6_readNewName 24 = .ok (.aload_n 0, 1) := by decide +kernel
theorem dX6_readNewName_25 : decode cX6_readNewName 25 = .ok (.getfield 15, 3) := by decide +kernel
theorem dX6_readNewName_28 : decode cX6_readNewName 28 = .ok (.aload_n 0, 1) := by decide +kernel
theorem dX6_readNewName_29 : decode cX6_readNewName 29 = .ok (.getfield 123, 3) := by decide +kernel
theorem dX6_readNewName_32 : decode cX6_readNewName 32 = .ok (.invokevirtual 198, 3) := by decide +kernel
theorem dX6_readNewName_35 : decode cX6_readNewName 35 = .ok (.iconst (-1), 1) := by decide +kernel
theorem dX6_readNewName_36 : decode cX6_readNewName 36 = .ok (.if_icmp .eq 7, 3) := by decide +kernel
theorem dX6_readNewName_39 : decode cX6_readNewName 39 = .ok (.iconst 1, 1) := by decide +kernel
theorem dX6_readNewName_40 : decode cX6_readNewName 40 = .ok (.goto 4, 3) := by decide +kernel
theorem dX6_readNewName_43 : decode cX6_readNewName 43 = .ok (.iconst 0, 1) := by decide +kernel
theorem dX6_readNewName_44 : decode cX6_readNewName 44 = .ok (.istore_n 1, 1) := by decide +kernel
theorem dX6_readNewName_45 : decode cX6_readNewName 45 = .ok (.aload_n 0, 1) := by decide +kernel
theorem dX6_readNewName_46 : decode cX6_readNewName 46 = .ok (.invokevirtual 201, 3) := by decide +kernel
theorem dX6_readNewName_49 : decode cX6_readNewName 49 = .ok (.ifCond .ne 7, 3) := by decide +kernel
theorem dX6_readNewName_52 : decode cX6_readNewName 52 = .ok (.iload_n 1, 1) := by decide +kernel
theorem dX6_readNewName_53 : decode cX6_readNewName 53 = .ok (.ifCond .eq 15, 3) := by decide +kernel
theorem dX6_readNewName_56 : decode cX6_readNewName 56 = .ok (.aload_n 0, 1) := by decide +kernel
theorem dX6_readNewName_57 : decode cX6_readNewName 57 = .ok (.iconst 2, 1) := by decide +kernel
theorem dX6_readNewName_58 : decode cX6_readNewName 58 = .ok (.aload_n 0, 1) := by decide +kernel
theorem dX6_readNewName_59 : decode cX6_readNewName 59 = .ok (.getfield 66, 3) := by decide +kernel
theorem dX6_readNewName_62 : decode cX6_readNewName 62 = .ok (.invokevirtual 49, 3) := by decide +kernel
theorem dX6_readNewName_65 : decode cX6_readNewName 65 = .ok (.ifCond .eq 7, 3) := by decide +kernel
theorem dX6_readNewName_68 : decode cX6_readNewName 68 = .ok (.iconst 1, 1) := by decide +kernel
theorem dX6_readNewName_69 : decode cX6_readNewName 69 = .ok (.goto 4, 3) := by decide +kernel
theorem dX6_readNewName_72 : decode cX6_readNewName 72 = .ok (.iconst 0, 1) := by decide +kernel
theorem dX6_readNewName_73 : decode cX6_readNewName 73 = .ok (.ireturn, 1) := by decide +kernel
abbrev mX6_readNewName : MD := (cX6_readNewName, "BlottedDeed$Scribe", 2, 3, 72, (some .boolean), "readNewName", [])
def bX6_readNewName_0 (g : GE) (J : Nat → KT) : KT := i_aload 0 (i_cv fX6_readWord g 0 6 (i_ifne (i_aload 0 (i_getf 6 5 (i_aload 0 (i_getf 6 4 (i_cv fX2_heirNamed g 1 2 (i_push (.int (-1)) (i_icne (i_jmp [true, false] (J 1)) (i_aload 0 (i_getf 6 5 (i_aload 0 (i_getf 6 4 (i_cv fX2_thingNamed g 1 2 (i_push (.int (-1)) (i_iceq (i_push (.int 0) (i_jmp [true, false] (J 2))) (i_jmp [true, false] (J 1)))))))))))))))) (i_push (.int 0) (i_zreturn))))
def bX6_readNewName_1 (g : GE) (J : Nat → KT) : KT := i_push (.int 1) (i_jmp [true, false] (J 2))
def bX6_readNewName_2 (g : GE) (J : Nat → KT) : KT := i_istore 1 (i_aload 0 (i_cv fX6_isTooLong g 0 6 (i_ifne (i_jmp [true, false] (J 3)) (i_iload 1 (i_ifeq (i_jmp [false, false] (J 4)) (i_jmp [true, false] (J 3)))))))
def bX6_readNewName_3 (g : GE) (J : Nat → KT) : KT := i_aload 0 (i_push (.int 2) (i_aload 0 (i_getf 6 3 (i_cv fX6_fail g 2 6 (i_ifeq (i_push (.int 0) (i_jmp [false, false] (J 5))) (i_jmp [false, false] (J 4)))))))
def bX6_readNewName_4 (g : GE) (J : Nat → KT) : KT := i_push (.int 1) (i_jmp [false, false] (J 5))
def bX6_readNewName_5 (g : GE) (J : Nat → KT) : KT := i_zreturn
theorem sbX6_readNewName_0 (g : GE) (J : Nat → KT) (h1 : Snd mX6_readNewName g 39 (J 1)) (h2 : Snd mX6_readNewName g 44 (J 2)) (h3 : Snd mX6_readNewName g 56 (J 3)) (h4 : Snd mX6_readNewName g 68 (J 4)) (h5 : Snd mX6_readNewName g 73 (J 5)) : Snd mX6_readNewName g 0 (bX6_readNewName_0 g J) := by
  unfold bX6_readNewName_0
  refine s_aload_n (pc := 0) (i := 0) ?_ dX6_readNewName_0 rfl
  refine s_cv (pc := 1) (n := 0) (ci := 6) ?_ tX6_readWord rfl rfl wt_713 wt_715 wp_12 wt_7 wt_716 ⟨crX6_readWord, by decide, by decide⟩ dX6_readNewName_1
  refine s_ifne (pc := 4) (tgt := 9) ?_ ?_ dX6_readNewName_4 (by decide)
  · skip
    refine s_aload_n (pc := 9) (i := 0) ?_ dX6_readNewName_9 rfl
    refine s_getf (pc := 10) (ci := 6) (f := 5) (T := TX6) ?_ ginX6 rfl (by decide) wt_200 dX6_readNewName_10
    refine s_aload_n (pc := 13) (i := 0) ?_ dX6_readNewName_13 rfl
    refine s_getf (pc := 14) (ci := 6) (f := 4) (T := TX6) ?_ ginX6 rfl (by decide) wt_199 dX6_readNewName_14
    refine s_cv (pc := 17) (n := 1) (ci := 2) ?_ tX2_heirNamed rfl rfl wt_808 wt_809 wt_810 wt_2 wt_811 ⟨crX2_heirNamed, by decide, by decide⟩ dX6_readNewName_17
    refine s_iconst (pc := 20) (v := (-1)) ?_ dX6_readNewName_20 (by decide)
    refine s_icne (pc := 21) (tgt := 39) ?_ ?_ dX6_readNewName_21 (by decide)
    · skip
      exact s_fall (pc := 39) h1
    · skip
      refine s_aload_n (pc := 24) (i := 0) ?_ dX6_readNewName_24 rfl
      refine s_getf (pc := 25) (ci := 6) (f := 5) (T := TX6) ?_ ginX6 rfl (by decide) wt_200 dX6_readNewName_25
      refine s_aload_n (pc := 28) (i := 0) ?_ dX6_readNewName_28 rfl
      refine s_getf (pc := 29) (ci := 6) (f := 4) (T := TX6) ?_ ginX6 rfl (by decide) wt_199 dX6_readNewName_29
      refine s_cv (pc := 32) (n := 1) (ci := 2) ?_ tX2_thingNamed rfl rfl wt_812 wt_813 wt_814 wt_2 wt_815 ⟨crX2_thingNamed, by decide, by decide⟩ dX6_readNewName_32
      refine s_iconst (pc := 35) (v := (-1)) ?_ dX6_readNewName_35 (by decide)
      refine s_iceq (pc := 36) (tgt := 43) ?_ ?_ dX6_readNewName_36 (by decide)
      · skip
        refine s_iconst (pc := 43) (v := 0) ?_ dX6_readNewName_43 (by decide)
        exact s_fall (pc := 44) h2
      · skip
        exact s_fall (pc := 39) h1
  · skip
    refine s_iconst (pc := 7) (v := 0) ?_ dX6_readNewName_7 (by decide)
    exact s_zreturn (pc := 8) rfl dX6_readNewName_8
theorem sbX6_readNewName_1 (g : GE) (J : Nat → KT) (h1 : Snd mX6_readNewName g 39 (J 1)) (h2 : Snd mX6_readNewName g 44 (J 2)) (h3 : Snd mX6_readNewName g 56 (J 3)) (h4 : Snd mX6_readNewName g 68 (J 4)) (h5 : Snd mX6_readNewName g 73 (J 5)) : Snd mX6_readNewName g 39 (bX6_readNewName_1 g J) := by
  unfold bX6_readNewName_1
  refine s_iconst (pc := 39) (v := 1) ?_ dX6_readNewName_39 (by decide)
  exact s_goto (pc := 40) (tgt := 44) h2 dX6_readNewName_40 (by decide)
theorem sbX6_readNewName_2 (g : GE) (J : Nat → KT) (h1 : Snd mX6_readNewName g 39 (J 1)) (h2 : Snd mX6_readNewName g 44 (J 2)) (h3 : Snd mX6_readNewName g 56 (J 3)) (h4 : Snd mX6_readNewName g 68 (J 4)) (h5 : Snd mX6_readNewName g 73 (J 5)) : Snd mX6_readNewName g 44 (bX6_readNewName_2 g J) := by
  unfold bX6_readNewName_2
  refine s_istore_n (pc := 44) (i := 1) ?_ dX6_readNewName_44 rfl (by decide)
  refine s_aload_n (pc := 45) (i := 0) ?_ dX6_readNewName_45 rfl
  refine s_cv (pc := 46) (n := 0) (ci := 6) ?_ tX6_isTooLong rfl rfl wt_816 wt_818 wp_19 wt_7 wt_819 ⟨crX6_isTooLong, by decide, by decide⟩ dX6_readNewName_46
  refine s_ifne (pc := 49) (tgt := 56) ?_ ?_ dX6_readNewName_49 (by decide)
  · skip
    exact s_fall (pc := 56) h3
  · skip
    refine s_iload_n (pc := 52) (i := 1) ?_ dX6_readNewName_52 rfl
    refine s_ifeq (pc := 53) (tgt := 68) ?_ ?_ dX6_readNewName_53 (by decide)
    · skip
      exact s_fall (pc := 68) h4
    · skip
      exact s_fall (pc := 56) h3
theorem sbX6_readNewName_3 (g : GE) (J : Nat → KT) (h1 : Snd mX6_readNewName g 39 (J 1)) (h2 : Snd mX6_readNewName g 44 (J 2)) (h3 : Snd mX6_readNewName g 56 (J 3)) (h4 : Snd mX6_readNewName g 68 (J 4)) (h5 : Snd mX6_readNewName g 73 (J 5)) : Snd mX6_readNewName g 56 (bX6_readNewName_3 g J) := by
  unfold bX6_readNewName_3
  refine s_aload_n (pc := 56) (i := 0) ?_ dX6_readNewName_56 rfl
  refine s_iconst (pc := 57) (v := 2) ?_ dX6_readNewName_57 (by decide)
  refine s_aload_n (pc := 58) (i := 0) ?_ dX6_readNewName_58 rfl
  refine s_getf (pc := 59) (ci := 6) (f := 3) (T := TX6) ?_ ginX6 rfl (by decide) wt_198 dX6_readNewName_59
  refine s_cv (pc := 62) (n := 2) (ci := 6) ?_ tX6_fail rfl rfl wt_718 wt_720 wp_13 wt_7 wt_721 ⟨crX6_fail, by decide, by decide⟩ dX6_readNewName_62
  refine s_ifeq (pc := 65) (tgt := 72) ?_ ?_ dX6_readNewName_65 (by decide)
  · skip
    refine s_iconst (pc := 72) (v := 0) ?_ dX6_readNewName_72 (by decide)
    exact s_fall (pc := 73) h5
  · skip
    exact s_fall (pc := 68) h4
theorem sbX6_readNewName_4 (g : GE) (J : Nat → KT) (h1 : Snd mX6_readNewName g 39 (J 1)) (h2 : Snd mX6_readNewName g 44 (J 2)) (h3 : Snd mX6_readNewName g 56 (J 3)) (h4 : Snd mX6_readNewName g 68 (J 4)) (h5 : Snd mX6_readNewName g 73 (J 5)) : Snd mX6_readNewName g 68 (bX6_readNewName_4 g J) := by
  unfold bX6_readNewName_4
  refine s_iconst (pc := 68) (v := 1) ?_ dX6_readNewName_68 (by decide)
  exact s_goto (pc := 69) (tgt := 73) h5 dX6_readNewName_69 (by decide)
theorem sbX6_readNewName_5 (g : GE) (J : Nat → KT) (h1 : Snd mX6_readNewName g 39 (J 1)) (h2 : Snd mX6_readNewName g 44 (J 2)) (h3 : Snd mX6_readNewName g 56 (J 3)) (h4 : Snd mX6_readNewName g 68 (J 4)) (h5 : Snd mX6_readNewName g 73 (J 5)) : Snd mX6_readNewName g 73 (bX6_readNewName_5 g J) := by
  unfold bX6_readNewName_5
  exact s_zreturn (pc := 73) rfl dX6_readNewName_73
def jX6_readNewName (g : GE) : Nat → Nat → KT
  | 0, _ => fun _ _ _ => none
  | n + 1, 0 => bX6_readNewName_0 g (jX6_readNewName g n)
  | n + 1, 1 => bX6_readNewName_1 g (jX6_readNewName g n)
  | n + 1, 2 => bX6_readNewName_2 g (jX6_readNewName g n)
  | n + 1, 3 => bX6_readNewName_3 g (jX6_readNewName g n)
  | n + 1, 4 => bX6_readNewName_4 g (jX6_readNewName g n)
  | n + 1, 5 => bX6_readNewName_5 g (jX6_readNewName g n)
  | _ + 1, _ + 6 => fun _ _ _ => none
theorem sjX6_readNewName (g : GE) : ∀ n, Snd mX6_readNewName g 0 (jX6_readNewName g n 0) ∧ Snd mX6_readNewName g 39 (jX6_readNewName g n 1) ∧ Snd mX6_readNewName g 44 (jX6_readNewName g n 2) ∧ Snd mX6_readNewName g 56 (jX6_readNewName g n 3) ∧ Snd mX6_readNewName g 68 (jX6_readNewName g n 4) ∧ Snd mX6_readNewName g 73 (jX6_readNewName g n 5)
  | 0 => ⟨s_none, s_none, s_none, s_none, s_none, s_none⟩
  | n + 1 => by
    obtain ⟨-, h1, h2, h3, h4, h5⟩ := sjX6_readNewName g n
    exact ⟨sbX6_readNewName_0 g _ h1 h2 h3 h4 h5, sbX6_readNewName_1 g _ h1 h2 h3 h4 h5, sbX6_readNewName_2 g _ h1 h2 h3 h4 h5, sbX6_readNewName_3 g _ h1 h2 h3 h4 h5, sbX6_readNewName_4 g _ h1 h2 h3 h4 h5, sbX6_readNewName_5 g _ h1 h2 h3 h4 h5⟩
def kX6_readNewName (g : GE) : KT := jX6_readNewName g g.1 0
theorem sX6_readNewName (g : GE) : Snd mX6_readNewName g 0 (kX6_readNewName g) := (sjX6_readNewName g g.1).1
def fX6_readNewName : FT := fun g av w => if (ent av).length ≤ 2 then kX6_readNewName g [] (entp 2 av) w else none
theorem tX6_readNewName : Mt yX6_readNewName cX6_readNewName 2 (some .boolean) 3 72 fX6_readNewName := Mt.of (K := kX6_readNewName) (by decide +kernel) (fun _ _ _ => rfl) sX6_readNewName
theorem crX6_readNewName : yX6_readNewName.cls ≠ "java/lang/invoke/MethodHandle" ∧ yX6_readNewName.cls ≠ "java/lang/invoke/VarHandle" ∧ (parseMethodDescriptor yX6_readNewName.desc).map (fun d => d.parameters.length) = some 0 := by decide +kernel
theorem dX2_addHeir_0 : decode cX2_addHeir 0 = .ok (.aload_n 0, 1) := by decide +kernel
theorem dX2_addHeir_1 : decode cX2_addHeir 1 = .ok (.getfield 52, 3) := by decide +kernel
theorem dX2_addHeir_4 : decode cX2_addHeir 4 = .ok (.iconst 4, 1) := by decide +kernel
theorem dX2_addHeir_5 : decode cX2_addHeir 5 = .ok (.if_icmp .ge 43, 3) := by decide +kernel
theorem dX2_addHeir_8 : decode cX2_addHeir 8 = .ok (.aload_n 0, 1) := by decide +kernel
theorem dX2_addHeir_9 : decode cX2_addHeir 9 = .ok (.getfield 9, 3) := by decide +kernel
theorem dX2_addHeir_12 : decode cX2_addHeir 12 = .ok (.aload_n 0, 1) := by decide +kernel
theorem dX2_addHeir_13 : decode cX2_addHeir 13 = .ok (.getfield 52, 3) := by decide +kernel
theorem dX2_addHeir_16 : decode cX2_addHeir 16 = .ok (.lload_n 1, 1) := by decide +kernel
theorem dX2_addHeir_17 : decode cX2_addHeir 17 = .ok (.lastore, 1) := by decide +kernel
theorem dX2_addHeir_18 : decode cX2_addHeir 18 = .ok (.aload_n 0, 1) := by decide +kernel
theorem dX2_addHeir_19 : decode cX2_addHeir 19 = .ok (.getfield 15, 3) := by decide +kernel
theorem dX2_addHeir_22 : decode cX2_addHeir 22 = .ok (.aload_n 0, 1) := by decide +kernel
theorem dX2_addHeir_23 : decode cX2_addHeir 23 = .ok (.getfield 52, 3) := by decide +kernel
theorem dX2_addHeir_26 : decode cX2_addHeir 26 = .ok (.iload_n 3, 1) := by decide +kernel
theorem dX2_addHeir_27 : decode cX2_addHeir 27 = .ok (.iastore, 1) := by decide +kernel
theorem dX2_addHeir_28 : decode cX2_addHeir 28 = .ok (.aload_n 0, 1) := by decide +kernel
theorem dX2_addHeir_29 : decode cX2_addHeir 29 = .ok (.getfield 19, 3) := by decide +kernel
theorem dX2_addHeir_32 : decode cX2_addHeir 32 = .ok (.aload_n 0, 1) := by decide +kernel
theorem dX2_addHeir_33 : decode cX2_addHeir 33 = .ok (.getfield 52, 3) := by decide +kernel
theorem dX2_addHeir_36 : decode cX2_addHeir 36 = .ok (.iconst 0, 1) := by decide +kernel
theorem dX2_addHeir_37 : decode cX2_addHeir 37 = .ok (.iastore, 1) := by decide +kernel
theorem dX2_addHeir_38 : decode cX2_addHeir 38 = .ok (.aload_n 0, 1) := by decide +kernel
theorem dX2_addHeir_39 : decode cX2_addHeir 39 = .ok (.dup, 1) := by decide +kernel
theorem dX2_addHeir_40 : decode cX2_addHeir 40 = .ok (.getfield 52, 3) := by decide +kernel
theorem dX2_addHeir_43 : decode cX2_addHeir 43 = .ok (.iconst 1, 1) := by decide +kernel
theorem dX2_addHeir_44 : decode cX2_addHeir 44 = .ok (.iadd, 1) := by decide +kernel
theorem dX2_addHeir_45 : decode cX2_addHeir 45 = .ok (.putfield 52, 3) := by decide +kernel
theorem dX2_addHeir_48 : decode cX2_addHeir 48 = .ok (.return_, 1) := by decide +kernel
abbrev mX2_addHeir : MD := (cX2_addHeir, "BlottedDeed$Deed", 4, 1, 30, none, "addHeir", [])
def bX2_addHeir_0 (g : GE) (J : Nat → KT) : KT := i_aload 0 (i_getf 2 9 (i_push (.int 4) (i_icge (i_jmp [false, false, false, false] (J 1)) (i_aload 0 (i_getf 2 0 (i_aload 0 (i_getf 2 9 (i_lload 1 (i_lastore (i_aload 0 (i_getf 2 1 (i_aload 0 (i_getf 2 9 (i_iload 3 (i_iastore (i_aload 0 (i_getf 2 2 (i_aload 0 (i_getf 2 9 (i_push (.int 0) (i_iastore (i_aload 0 (i_dup (i_getf 2 9 (i_push (.int 1) (i_iadd (i_putf 2 9 .int (i_jmp [false, false, false, false] (J 1)))))))))))))))))))))))))))))
def bX2_addHeir_1 (g : GE) (J : Nat → KT) : KT := i_return
theorem sbX2_addHeir_0 (g : GE) (J : Nat → KT) (h1 : Snd mX2_addHeir g 48 (J 1)) : Snd mX2_addHeir g 0 (bX2_addHeir_0 g J) := by
  unfold bX2_addHeir_0
  refine s_aload_n (pc := 0) (i := 0) ?_ dX2_addHeir_0 rfl
  refine s_getf (pc := 1) (ci := 2) (f := 9) (T := TX2) ?_ ginX2 rfl (by decide) wt_130 dX2_addHeir_1
  refine s_iconst (pc := 4) (v := 4) ?_ dX2_addHeir_4 (by decide)
  refine s_icge (pc := 5) (tgt := 48) ?_ ?_ dX2_addHeir_5 (by decide)
  · skip
    exact s_fall (pc := 48) h1
  · skip
    refine s_aload_n (pc := 8) (i := 0) ?_ dX2_addHeir_8 rfl
    refine s_getf (pc := 9) (ci := 2) (f := 0) (T := TX2) ?_ ginX2 rfl (by decide) wt_110 dX2_addHeir_9
    refine s_aload_n (pc := 12) (i := 0) ?_ dX2_addHeir_12 rfl
    refine s_getf (pc := 13) (ci := 2) (f := 9) (T := TX2) ?_ ginX2 rfl (by decide) wt_130 dX2_addHeir_13
    refine s_lload_n (pc := 16) (i := 1) ?_ dX2_addHeir_16 rfl
    refine s_lastore (pc := 17) ?_ dX2_addHeir_17
    refine s_aload_n (pc := 18) (i := 0) ?_ dX2_addHeir_18 rfl
    refine s_getf (pc := 19) (ci := 2) (f := 1) (T := TX2) ?_ ginX2 rfl (by decide) wt_111 dX2_addHeir_19
    refine s_aload_n (pc := 22) (i := 0) ?_ dX2_addHeir_22 rfl
    refine s_getf (pc := 23) (ci := 2) (f := 9) (T := TX2) ?_ ginX2 rfl (by decide) wt_130 dX2_addHeir_23
    refine s_iload_n (pc := 26) (i := 3) ?_ dX2_addHeir_26 rfl
    refine s_iastore (pc := 27) ?_ dX2_addHeir_27
    refine s_aload_n (pc := 28) (i := 0) ?_ dX2_addHeir_28 rfl
    refine s_getf (pc := 29) (ci := 2) (f := 2) (T := TX2) ?_ ginX2 rfl (by decide) wt_112 dX2_addHeir_29
    refine s_aload_n (pc := 32) (i := 0) ?_ dX2_addHeir_32 rfl
    refine s_getf (pc := 33) (ci := 2) (f := 9) (T := TX2) ?_ ginX2 rfl (by decide) wt_130 dX2_addHeir_33
    refine s_iconst (pc := 36) (v := 0) ?_ dX2_addHeir_36 (by decide)
    refine s_iastore (pc := 37) ?_ dX2_addHeir_37
    refine s_aload_n (pc := 38) (i := 0) ?_ dX2_addHeir_38 rfl
    refine s_dup (pc := 39) ?_ dX2_addHeir_39
    refine s_getf (pc := 40) (ci := 2) (f := 9) (T := TX2) ?_ ginX2 rfl (by decide) wt_130 dX2_addHeir_40
    refine s_iconst (pc := 43) (v := 1) ?_ dX2_addHeir_43 (by decide)
    refine s_iadd (pc := 44) ?_ dX2_addHeir_44
    refine s_putf (pc := 45) (ci := 2) (f := 9) (T := TX2) (ty0 := tyX2) ?_ ginX2 tyX2_ok nmX2 rfl (by decide) rfl rfl wt_130 dX2_addHeir_45
    exact s_fall (pc := 48) h1
theorem sbX2_addHeir_1 (g : GE) (J : Nat → KT) (h1 : Snd mX2_addHeir g 48 (J 1)) : Snd mX2_addHeir g 48 (bX2_addHeir_1 g J) := by
  unfold bX2_addHeir_1
  exact s_return (pc := 48) rfl dX2_addHeir_48
def jX2_addHeir (g : GE) : Nat → Nat → KT
  | 0, _ => fun _ _ _ => none
  | n + 1, 0 => bX2_addHeir_0 g (jX2_addHeir g n)
  | n + 1, 1 => bX2_addHeir_1 g (jX2_addHeir g n)
  | _ + 1, _ + 2 => fun _ _ _ => none
theorem sjX2_addHeir (g : GE) : ∀ n, Snd mX2_addHeir g 0 (jX2_addHeir g n 0) ∧ Snd mX2_addHeir g 48 (jX2_addHeir g n 1)
  | 0 => ⟨s_none, s_none⟩
  | n + 1 => by
    obtain ⟨-, h1⟩ := sjX2_addHeir g n
    exact ⟨sbX2_addHeir_0 g _ h1, sbX2_addHeir_1 g _ h1⟩
def kX2_addHeir (g : GE) : KT := jX2_addHeir g g.1 0
theorem sX2_addHeir (g : GE) : Snd mX2_addHeir g 0 (kX2_addHeir g) := (sjX2_addHeir g g.1).1
def fX2_addHeir : FT := fun g av w => if (ent av).length ≤ 4 then kX2_addHeir g [] (entp 4 av) w else none
theorem tX2_addHeir : Mt yX2_addHeir cX2_addHeir 4 none 1 30 fX2_addHeir := Mt.of (K := kX2_addHeir) (by decide +kernel) (fun _ _ _ => rfl) sX2_addHeir
theorem crX2_addHeir : yX2_addHeir.cls ≠ "java/lang/invoke/MethodHandle" ∧ yX2_addHeir.cls ≠ "java/lang/invoke/VarHandle" ∧ (parseMethodDescriptor yX2_addHeir.desc).map (fun d => d.parameters.length) = some 2 := by decide +kernel
theorem dX6_readNewHeir_0 : decode cX6_readNewHeir 0 = .ok (.aload_n 0, 1) := by decide +kernel
theorem dX6_readNewHeir_1 : decode cX6_readNewHeir 1 = .ok (.invokevirtual 120, 3) := by decide +kernel
theorem dX6_readNewHeir_4 : decode cX6_readNewHeir 4 = .ok (.ifCond .ne 5, 3) := by decide +kernel
theorem dX6_readNewHeir_7 : decode cX6_readNewHeir 7 = .ok (.iconst 0, 1) := by decide +kernel
theorem dX6_readNewHeir_8 : decode cX6_readNewHeir 8 = .ok (.ireturn, 1) := by decide +kernel
theorem dX6_readNewHeir_9 : decode cX6_readNewHeir 9 = .ok (.aload_n 0, 1) := by decide +kernel
theorem dX6_readNewHeir_10 : decode cX6_readNewHeir 10 = .ok (.getfield 15, 3) := by decide +kernel
theorem dX6_readNewHeir_13 : decode cX6_readNewHeir 13 = .ok (.aload_n 0, 1) := by decide +kernel
theorem dX6_readNewHeir_14 : decode cX6_readNewHeir 14 = .ok (.getfield 123, 3) := by decide +kernel
theorem dX6_readNewHeir_17 : decode cX6_readNewHeir 17 = .ok (.aload_n 0, 1) := by decide +kernel
theorem dX6_readNewHeir_18 : decode cX6_readNewHeir 18 = .ok (.getfield 28, 3) := by decide +kernel
theorem dX6_readNewHeir_21 : decode cX6_readNewHeir 21 = .ok (.aload_n 0, 1) := by decide +kernel
theorem dX6_readNewHeir_22 : decode cX6_readNewHeir 22 = .ok (.getfield 66, 3) := by decide +kernel
theorem dX6_readNewHeir_25 : decode cX6_readNewHeir 25 = .ok (.isub, 1) := by decide +kernel
theorem dX6_readNewHeir_26 : decode cX6_readNewHeir 26 = .ok (.invokevirtual 127, 3) := by decide +kernel
theorem dX6_readNewHeir_29 : decode cX6_readNewHeir 29 = .ok (.iconst 1, 1) := by decide +kernel
theorem dX6_readNewHeir_30 : decode cX6_readNewHeir 30 = .ok (.ireturn, 1) := by decide +kernel
abbrev mX6_readNewHeir : MD := (cX6_readNewHeir, "BlottedDeed$Scribe", 1, 4, 93, (some .boolean), "readNewHeir", [])
def bX6_readNewHeir_0 (g : GE) (J : Nat → KT) : KT := i_aload 0 (i_cv fX6_readNewName g 0 6 (i_ifne (i_aload 0 (i_getf 6 5 (i_aload 0 (i_getf 6 4 (i_aload 0 (i_getf 6 2 (i_aload 0 (i_getf 6 3 (i_isub (i_cv fX2_addHeir g 2 2 (i_push (.int 1) (i_zreturn)))))))))))) (i_push (.int 0) (i_zreturn))))
theorem sbX6_readNewHeir_0 (g : GE) (J : Nat → KT)  : Snd mX6_readNewHeir g 0 (bX6_readNewHeir_0 g J) := by
  unfold bX6_readNewHeir_0
  refine s_aload_n (pc := 0) (i := 0) ?_ dX6_readNewHeir_0 rfl
  refine s_cv (pc := 1) (n := 0) (ci := 6) ?_ tX6_readNewName rfl rfl wt_804 wt_806 wp_18 wt_7 wt_807 ⟨crX6_readNewName, by decide, by decide⟩ dX6_readNewHeir_1
  refine s_ifne (pc := 4) (tgt := 9) ?_ ?_ dX6_readNewHeir_4 (by decide)
  · skip
    refine s_aload_n (pc := 9) (i := 0) ?_ dX6_readNewHeir_9 rfl
    refine s_getf (pc := 10) (ci := 6) (f := 5) (T := TX6) ?_ ginX6 rfl (by decide) wt_200 dX6_readNewHeir_10
    refine s_aload_n (pc := 13) (i := 0) ?_ dX6_readNewHeir_13 rfl
    refine s_getf (pc := 14) (ci := 6) (f := 4) (T := TX6) ?_ ginX6 rfl (by decide) wt_199 dX6_readNewHeir_14
    refine s_aload_n (pc := 17) (i := 0) ?_ dX6_readNewHeir_17 rfl
    refine s_getf (pc := 18) (ci := 6) (f := 2) (T := TX6) ?_ ginX6 rfl (by decide) wt_197 dX6_readNewHeir_18
    refine s_aload_n (pc := 21) (i := 0) ?_ dX6_readNewHeir_21 rfl
    refine s_getf (pc := 22) (ci := 6) (f := 3) (T := TX6) ?_ ginX6 rfl (by decide) wt_198 dX6_readNewHeir_22
    refine s_isub (pc := 25) ?_ dX6_readNewHeir_25
    refine s_cv (pc := 26) (n := 2) (ci := 2) ?_ tX2_addHeir rfl rfl wt_820 wt_821 wt_822 wt_2 wt_823 ⟨crX2_addHeir, by decide, by decide⟩ dX6_readNewHeir_26
    refine s_iconst (pc := 29) (v := 1) ?_ dX6_readNewHeir_29 (by decide)
    exact s_zreturn (pc := 30) rfl dX6_readNewHeir_30
  · skip
    refine s_iconst (pc := 7) (v := 0) ?_ dX6_readNewHeir_7 (by decide)
    exact s_zreturn (pc := 8) rfl dX6_readNewHeir_8
def kX6_readNewHeir (g : GE) : KT := bX6_readNewHeir_0 g (fun _ _ _ _ => none)
theorem sX6_readNewHeir (g : GE) : Snd mX6_readNewHeir g 0 (kX6_readNewHeir g) := sbX6_readNewHeir_0 g _
def fX6_readNewHeir : FT := fun g av w => if (ent av).length ≤ 1 then kX6_readNewHeir g [] (entp 1 av) w else none
theorem tX6_readNewHeir : Mt yX6_readNewHeir cX6_readNewHeir 1 (some .boolean) 4 93 fX6_readNewHeir := Mt.of (K := kX6_readNewHeir) (by decide +kernel) (fun _ _ _ => rfl) sX6_readNewHeir
theorem crX6_readNewHeir : yX6_readNewHeir.cls ≠ "java/lang/invoke/MethodHandle" ∧ yX6_readNewHeir.cls ≠ "java/lang/invoke/VarHandle" ∧ (parseMethodDescriptor yX6_readNewHeir.desc).map (fun d => d.parameters.length) = some 0 := by decide +kernel
theorem dX6_readNumber_0 : decode cX6_readNumber 0 = .ok (.aload_n 0, 1) := by decide +kernel
theorem dX6_readNumber_1 : decode cX6_readNumber 1 = .ok (.invokevirtual 31, 3) := by decide +kernel
theorem dX6_readNumber_4 : decode cX6_readNumber 4 = .ok (.aload_n 0, 1) := by decide +kernel
theorem dX6_readNumber_5 : decode cX6_readNumber 5 = .ok (.getfield 28, 3) := by decide +kernel
theorem dX6_readNumber_8 : decode cX6_readNumber 8 = .ok (.istore_n 2, 1) := by decide +kernel
theorem dX6_readNumber_9 : decode cX6_readNumber 9 = .ok (.iconst 0, 1) := by decide +kernel
theorem dX6_readNumber_10 : decode cX6_readNumber 10 = .ok (.istore_n 3, 1) := by decide +kernel
theorem dX6_readNumber_11 : decode cX6_readNumber 11 = .ok (.aload_n 0, 1) := by decide +kernel
theorem dX6_readNumber_12 : decode cX6_readNumber 12 = .ok (.getfield 28, 3) := by decide +kernel
theorem dX6_readNumber_15 : decode cX6_readNumber 15 = .ok (.aload_n 0, 1) := by decide +kernel
theorem dX6_readNumber_16 : decode cX6_readNumber 16 = .ok (.getfield 24, 3) := by decide +kernel
theorem dX6_readNumber_19 : decode cX6_readNumber 19 = .ok (.if_icmp .ge 68, 3) := by decide +kernel
theorem dX6_readNumber_22 : decode cX6_readNumber 22 = .ok (.aload_n 0, 1) := by decide +kernel
theorem dX6_readNumber_23 : decode cX6_readNumber 23 = .ok (.getfield 9, 3) := by decide +kernel
theorem dX6_readNumber_26 : decode cX6_readNumber 26 = .ok (.aload_n 0, 1) := by decide +kernel
theorem dX6_readNumber_27 : decode cX6_readNumber 27 = .ok (.getfield 28, 3) := by decide +kernel
theorem dX6_readNumber_30 : decode cX6_readNumber 30 = .ok (.iaload, 1) := by decide +kernel
theorem dX6_readNumber_31 : decode cX6_readNumber 31 = .ok (.bipush 48, 2) := by decide +kernel
theorem dX6_readNumber_33 : decode cX6_readNumber 33 = .ok (.if_icmp .lt 54, 3) := by decide +kernel
theorem dX6_readNumber_36 : decode cX6_readNumber 36 = .ok (.aload_n 0, 1) := by decide +kernel
theorem dX6_readNumber_37 : decode cX6_readNumber 37 = .ok (.getfield 9, 3) := by decide +kernel
theorem dX6_readNumber_40 : decode cX6_readNumber 40 = .ok (.aload_n 0, 1) := by decide +kernel
theorem dX6_readNumber_41 : decode cX6_readNumber 41 = .ok (.getfield 28, 3) := by decide +kernel
theorem dX6_readNumber_44 : decode cX6_readNumber 44 = .ok (.iaload, 1) := by decide +kernel
theorem dX6_readNumber_45 : decode cX6_readNumber 45 = .ok (.bipush 57, 2) := by decide +kernel
theorem dX6_readNumber_47 : decode cX6_readNumber 47 = .ok (.if_icmp .gt 40, 3) := by decide +kernel
theorem dX6_readNumber_50 : decode cX6_readNumber 50 = .ok (.iload_n 3, 1) := by decide +kernel
theorem dX6_readNumber_51 : decode cX6_readNumber 51 = .ok (.bipush 10, 2) := by decide +kernel
theorem dX6_readNumber_53 : decode cX6_readNumber 53 = .ok (.imul, 1) := by decide +kernel
theorem dX6_readNumber_54 : decode cX6_readNumber 54 = .ok (.aload_n 0, 1) := by decide +kernel
theorem dX6_readNumber_55 : decode cX6_readNumber 55 = .ok (.getfield 9, 3) := by decide +kernel
theorem dX6_readNumber_58 : decode cX6_readNumber 58 = .ok (.aload_n 0, 1) := by decide +kernel
theorem dX6_readNumber_59 : decode cX6_readNumber 59 = .ok (.getfield 28, 3) := by decide +kernel
theorem dX6_readNumber_62 : decode cX6_readNumber 62 = .ok (.iaload, 1) := by decide +kernel
theorem dX6_readNumber_63 : decode cX6_readNumber 63 = .ok (.iadd, 1) := by decide +kernel
theorem dX6_readNumber_64 : decode cX6_readNumber 64 = .ok (.bipush 48, 2) := by decide +kernel
theorem dX6_readNumber_66 : decode cX6_readNumber 66 = .ok (.isub, 1) := by decide +kernel
theorem dX6_readNumber_67 : decode cX6_readNumber 67 = .ok (.sipush 1000, 3) := by decide +kernel
theorem dX6_readNumber_70 : decode cX6_readNumber 70 = .ok (.invokestatic 212, 3) := by decide +kernel
theorem dX6_readNumber_73 : decode cX6_readNumber 73 = .ok (.istore_n 3, 1) := by decide +kernel
theorem dX6_readNumber_74 : decode cX6_readNumber 74 = .ok (.aload_n 0, 1) := by decide +kernel
theorem dX6_readNumber_75 : decode cX6_readNumber 75 = .ok (.dup, 1) := by decide +kernel
theorem dX6_readNumber_76 : decode cX6_readNumber 76 = .ok (.getfield 28, 3) := by decide +kernel
theorem dX6_readNumber_79 : decode cX6_readNumber 79 = .ok (.iconst 1, 1) := by decide +kernel
theorem dX6_readNumber_80 : decode cX6_readNumber 80 = .ok (.iadd, 1) := by decide +kernel
theorem dX6_readNumber_81 : decode cX6_readNumber 81 = .ok (.putfield 28, 3) := by decide +kernel
theorem dX6_readNumber_84 : decode cX6_readNumber 84 = .ok (.goto (-73), 3) := by decide +kernel
theorem dX6_readNumber_87 : decode cX6_readNumber 87 = .ok (.aload_n 0, 1) := by decide +kernel
theorem dX6_readNumber_88 : decode cX6_readNumber 88 = .ok (.getfield 28, 3) := by decide +kernel
theorem dX6_readNumber_91 : decode cX6_readNumber 91 = .ok (.iload_n 2, 1) := by decide +kernel
theorem dX6_readNumber_92 : decode cX6_readNumber 92 = .ok (.if_icmp .ne 12, 3) := by decide +kernel
theorem dX6_readNumber_95 : decode cX6_readNumber 95 = .ok (.aload_n 0, 1) := by decide +kernel
theorem dX6_readNumber_96 : decode cX6_readNumber 96 = .ok (.iconst 1, 1) := by decide +kernel
theorem dX6_readNumber_97 : decode cX6_readNumber 97 = .ok (.iload_n 2, 1) := by decide +kernel
theorem dX6_readNumber_98 : decode cX6_readNumber 98 = .ok (.invokevirtual 49, 3) := by decide +kernel
theorem dX6_readNumber_101 : decode cX6_readNumber 101 = .ok (.pop, 1) := by decide +kernel
theorem dX6_readNumber_102 : decode cX6_readNumber 102 = .ok (.iconst (-1), 1) := by decide +kernel
theorem dX6_readNumber_103 : decode cX6_readNumber 103 = .ok (.ireturn, 1) := by decide +kernel
theorem dX6_readNumber_104 : decode cX6_readNumber 104 = .ok (.iload_n 3, 1) := by decide +kernel
theorem dX6_readNumber_105 : decode cX6_readNumber 105 = .ok (.iload_n 1, 1) := by decide +kernel
theorem dX6_readNumber_106 : decode cX6_readNumber 106 = .ok (.if_icmp .le 12, 3) := by decide +kernel
theorem dX6_readNumber_109 : decode cX6_readNumber 109 = .ok (.aload_n 0, 1) := by decide +kernel
theorem dX6_readNumber_110 : decode cX6_readNumber 110 = .ok (.iconst 2, 1) := by decide +kernel
theorem dX6_readNumber_111 : decode cX6_readNumber 111 = .ok (.iload_n 2, 1) := by decide +kernel
theorem dX6_readNumber_112 : decode cX6_readNumber 112 = .ok (.invokevirtual 49, 3) := by decide +kernel
theorem dX6_readNumber_115 : decode cX6_readNumber 115 = .ok (.pop, 1) := by decide +kernel
theorem dX6_readNumber_116 : decode cX6_readNumber 116 = .ok (.iconst (-1), 1) := by decide +kernel
theorem dX6_readNumber_117 : decode cX6_readNumber 117 = .ok (.ireturn, 1) := by decide +kernel
theorem dX6_readNumber_118 : decode cX6_readNumber 118 = .ok (.iload_n 3, 1) := by decide +kernel
theorem dX6_readNumber_119 : decode cX6_readNumber 119 = .ok (.ireturn, 1) := by decide +kernel
abbrev mX6_readNumber : MD := (cX6_readNumber, "BlottedDeed$Scribe", 4, 2, 52, (some .int), "readNumber", [])
def bX6_readNumber_0 (g : GE) (J : Nat → KT) : KT := i_aload 0 (i_cv fX6_skipBlanks g 0 6 (i_aload 0 (i_getf 6 2 (i_istore 2 (i_push (.int 0) (i_istore 3 (i_jmp [true, true, true, true] (J 1))))))))
def bX6_readNumber_1 (g : GE) (J : Nat → KT) : KT := i_aload 0 (i_getf 6 2 (i_aload 0 (i_getf 6 1 (i_icge (i_jmp [true, true, true, true] (J 2)) (i_aload 0 (i_getf 6 0 (i_aload 0 (i_getf 6 2 (i_iaload (i_push (.int 48) (i_iclt (i_jmp [true, true, true, true] (J 2)) (i_aload 0 (i_getf 6 0 (i_aload 0 (i_getf 6 2 (i_iaload (i_push (.int 57) (i_icgt (i_jmp [true, true, true, true] (J 2)) (i_iload 3 (i_push (.int 10) (i_imul (i_aload 0 (i_getf 6 0 (i_aload 0 (i_getf 6 2 (i_iaload (i_iadd (i_push (.int 48) (i_isub (i_push (.int 1000) (i_min (i_istore 3 (i_aload 0 (i_dup (i_getf 6 2 (i_push (.int 1) (i_iadd (i_putf 6 2 .int (i_jmp [true, true, true, true] (J 1))))))))))))))))))))))))))))))))))))))))
def bX6_readNumber_2 (g : GE) (J : Nat → KT) : KT := i_aload 0 (i_getf 6 2 (i_iload 2 (i_icne (i_iload 3 (i_iload 1 (i_icle (i_iload 3 (i_ireturn)) (i_aload 0 (i_push (.int 2) (i_iload 2 (i_cv fX6_fail g 2 6 (i_pop (i_push (.int (-1)) (i_ireturn)))))))))) (i_aload 0 (i_push (.int 1) (i_iload 2 (i_cv fX6_fail g 2 6 (i_pop (i_push (.int (-1)) (i_ireturn))))))))))
theorem sbX6_readNumber_0 (g : GE) (J : Nat → KT) (h1 : Snd mX6_readNumber g 11 (J 1)) (h2 : Snd mX6_readNumber g 87 (J 2)) : Snd mX6_readNumber g 0 (bX6_readNumber_0 g J) := by
  unfold bX6_readNumber_0
  refine s_aload_n (pc := 0) (i := 0) ?_ dX6_readNumber_0 rfl
  refine s_cv (pc := 1) (n := 0) (ci := 6) ?_ tX6_skipBlanks rfl rfl wt_705 wt_707 wp_10 wt_7 wt_708 ⟨crX6_skipBlanks, by decide, by decide⟩ dX6_readNumber_1
  refine s_aload_n (pc := 4) (i := 0) ?_ dX6_readNumber_4 rfl
  refine s_getf (pc := 5) (ci := 6) (f := 2) (T := TX6) ?_ ginX6 rfl (by decide) wt_197 dX6_readNumber_5
  refine s_istore_n (pc := 8) (i := 2) ?_ dX6_readNumber_8 rfl (by decide)
  refine s_iconst (pc := 9) (v := 0) ?_ dX6_readNumber_9 (by decide)
  refine s_istore_n (pc := 10) (i := 3) ?_ dX6_readNumber_10 rfl (by decide)
  exact s_fall (pc := 11) h1
theorem sbX6_readNumber_1 (g : GE) (J : Nat → KT) (h1 : Snd mX6_readNumber g 11 (J 1)) (h2 : Snd mX6_readNumber g 87 (J 2)) : Snd mX6_readNumber g 11 (bX6_readNumber_1 g J) := by
  unfold bX6_readNumber_1
  refine s_aload_n (pc := 11) (i := 0) ?_ dX6_readNumber_11 rfl
  refine s_getf (pc := 12) (ci := 6) (f := 2) (T := TX6) ?_ ginX6 rfl (by decide) wt_197 dX6_readNumber_12
  refine s_aload_n (pc := 15) (i := 0) ?_ dX6_readNumber_15 rfl
  refine s_getf (pc := 16) (ci := 6) (f := 1) (T := TX6) ?_ ginX6 rfl (by decide) wt_196 dX6_readNumber_16
  refine s_icge (pc := 19) (tgt := 87) ?_ ?_ dX6_readNumber_19 (by decide)
  · skip
    exact s_fall (pc := 87) h2
  · skip
    refine s_aload_n (pc := 22) (i := 0) ?_ dX6_readNumber_22 rfl
    refine s_getf (pc := 23) (ci := 6) (f := 0) (T := TX6) ?_ ginX6 rfl (by decide) wt_195 dX6_readNumber_23
    refine s_aload_n (pc := 26) (i := 0) ?_ dX6_readNumber_26 rfl
    refine s_getf (pc := 27) (ci := 6) (f := 2) (T := TX6) ?_ ginX6 rfl (by decide) wt_197 dX6_readNumber_27
    refine s_iaload (pc := 30) ?_ dX6_readNumber_30
    refine s_bipush (pc := 31) (v := 48) ?_ dX6_readNumber_31 (by decide)
    refine s_iclt (pc := 33) (tgt := 87) ?_ ?_ dX6_readNumber_33 (by decide)
    · skip
      exact s_fall (pc := 87) h2
    · skip
      refine s_aload_n (pc := 36) (i := 0) ?_ dX6_readNumber_36 rfl
      refine s_getf (pc := 37) (ci := 6) (f := 0) (T := TX6) ?_ ginX6 rfl (by decide) wt_195 dX6_readNumber_37
      refine s_aload_n (pc := 40) (i := 0) ?_ dX6_readNumber_40 rfl
      refine s_getf (pc := 41) (ci := 6) (f := 2) (T := TX6) ?_ ginX6 rfl (by decide) wt_197 dX6_readNumber_41
      refine s_iaload (pc := 44) ?_ dX6_readNumber_44
      refine s_bipush (pc := 45) (v := 57) ?_ dX6_readNumber_45 (by decide)
      refine s_icgt (pc := 47) (tgt := 87) ?_ ?_ dX6_readNumber_47 (by decide)
      · skip
        exact s_fall (pc := 87) h2
      · skip
        refine s_iload_n (pc := 50) (i := 3) ?_ dX6_readNumber_50 rfl
        refine s_bipush (pc := 51) (v := 10) ?_ dX6_readNumber_51 (by decide)
        refine s_imul (pc := 53) ?_ dX6_readNumber_53
        refine s_aload_n (pc := 54) (i := 0) ?_ dX6_readNumber_54 rfl
        refine s_getf (pc := 55) (ci := 6) (f := 0) (T := TX6) ?_ ginX6 rfl (by decide) wt_195 dX6_readNumber_55
        refine s_aload_n (pc := 58) (i := 0) ?_ dX6_readNumber_58 rfl
        refine s_getf (pc := 59) (ci := 6) (f := 2) (T := TX6) ?_ ginX6 rfl (by decide) wt_197 dX6_readNumber_59
        refine s_iaload (pc := 62) ?_ dX6_readNumber_62
        refine s_iadd (pc := 63) ?_ dX6_readNumber_63
        refine s_bipush (pc := 64) (v := 48) ?_ dX6_readNumber_64 (by decide)
        refine s_isub (pc := 66) ?_ dX6_readNumber_66
        refine s_sipush (pc := 67) (v := 1000) ?_ dX6_readNumber_67 (by decide)
        refine s_min (pc := 70) ?_ wt_833 wt_300 wt_12 wt_301 (by decide) dX6_readNumber_70
        refine s_istore_n (pc := 73) (i := 3) ?_ dX6_readNumber_73 rfl (by decide)
        refine s_aload_n (pc := 74) (i := 0) ?_ dX6_readNumber_74 rfl
        refine s_dup (pc := 75) ?_ dX6_readNumber_75
        refine s_getf (pc := 76) (ci := 6) (f := 2) (T := TX6) ?_ ginX6 rfl (by decide) wt_197 dX6_readNumber_76
        refine s_iconst (pc := 79) (v := 1) ?_ dX6_readNumber_79 (by decide)
        refine s_iadd (pc := 80) ?_ dX6_readNumber_80
        refine s_putf (pc := 81) (ci := 6) (f := 2) (T := TX6) (ty0 := tyX6) ?_ ginX6 tyX6_ok nmX6 rfl (by decide) rfl rfl wt_197 dX6_readNumber_81
        exact s_goto (pc := 84) (tgt := 11) h1 dX6_readNumber_84 (by decide)
theorem sbX6_readNumber_2 (g : GE) (J : Nat → KT) (h1 : Snd mX6_readNumber g 11 (J 1)) (h2 : Snd mX6_readNumber g 87 (J 2)) : Snd mX6_readNumber g 87 (bX6_readNumber_2 g J) := by
  unfold bX6_readNumber_2
  refine s_aload_n (pc := 87) (i := 0) ?_ dX6_readNumber_87 rfl
  refine s_getf (pc := 88) (ci := 6) (f := 2) (T := TX6) ?_ ginX6 rfl (by decide) wt_197 dX6_readNumber_88
  refine s_iload_n (pc := 91) (i := 2) ?_ dX6_readNumber_91 rfl
  refine s_icne (pc := 92) (tgt := 104) ?_ ?_ dX6_readNumber_92 (by decide)
  · skip
    refine s_iload_n (pc := 104) (i := 3) ?_ dX6_readNumber_104 rfl
    refine s_iload_n (pc := 105) (i := 1) ?_ dX6_readNumber_105 rfl
    refine s_icle (pc := 106) (tgt := 118) ?_ ?_ dX6_readNumber_106 (by decide)
    · skip
      refine s_iload_n (pc := 118) (i := 3) ?_ dX6_readNumber_118 rfl
      exact s_ireturn (pc := 119) rfl dX6_readNumber_119
    · skip
      refine s_aload_n (pc := 109) (i := 0) ?_ dX6_readNumber_109 rfl
      refine s_iconst (pc := 110) (v := 2) ?_ dX6_readNumber_110 (by decide)
      refine s_iload_n (pc := 111) (i := 2) ?_ dX6_readNumber_111 rfl
      refine s_cv (pc := 112) (n := 2) (ci := 6) ?_ tX6_fail rfl rfl wt_718 wt_720 wp_13 wt_7 wt_721 ⟨crX6_fail, by decide, by decide⟩ dX6_readNumber_112
      refine s_pop (pc := 115) ?_ dX6_readNumber_115
      refine s_iconst (pc := 116) (v := (-1)) ?_ dX6_readNumber_116 (by decide)
      exact s_ireturn (pc := 117) rfl dX6_readNumber_117
  · skip
    refine s_aload_n (pc := 95) (i := 0) ?_ dX6_readNumber_95 rfl
    refine s_iconst (pc := 96) (v := 1) ?_ dX6_readNumber_96 (by decide)
    refine s_iload_n (pc := 97) (i := 2) ?_ dX6_readNumber_97 rfl
    refine s_cv (pc := 98) (n := 2) (ci := 6) ?_ tX6_fail rfl rfl wt_718 wt_720 wp_13 wt_7 wt_721 ⟨crX6_fail, by decide, by decide⟩ dX6_readNumber_98
    refine s_pop (pc := 101) ?_ dX6_readNumber_101
    refine s_iconst (pc := 102) (v := (-1)) ?_ dX6_readNumber_102 (by decide)
    exact s_ireturn (pc := 103) rfl dX6_readNumber_103
def jX6_readNumber (g : GE) : Nat → Nat → KT
  | 0, _ => fun _ _ _ => none
  | n + 1, 0 => bX6_readNumber_0 g (jX6_readNumber g n)
  | n + 1, 1 => bX6_readNumber_1 g (jX6_readNumber g n)
  | n + 1, 2 => bX6_readNumber_2 g (jX6_readNumber g n)
  | _ + 1, _ + 3 => fun _ _ _ => none
theorem sjX6_readNumber (g : GE) : ∀ n, Snd mX6_readNumber g 0 (jX6_readNumber g n 0) ∧ Snd mX6_readNumber g 11 (jX6_readNumber g n 1) ∧ Snd mX6_readNumber g 87 (jX6_readNumber g n 2)
  | 0 => ⟨s_none, s_none, s_none⟩
  | n + 1 => by
    obtain ⟨-, h1, h2⟩ := sjX6_readNumber g n
    exact ⟨sbX6_readNumber_0 g _ h1 h2, sbX6_readNumber_1 g _ h1 h2, sbX6_readNumber_2 g _ h1 h2⟩
def kX6_readNumber (g : GE) : KT := jX6_readNumber g g.1 0
theorem sX6_readNumber (g : GE) : Snd mX6_readNumber g 0 (kX6_readNumber g) := (sjX6_readNumber g g.1).1
def fX6_readNumber : FT := fun g av w => if (ent av).length ≤ 4 then kX6_readNumber g [] (entp 4 av) w else none
theorem tX6_readNumber : Mt yX6_readNumber cX6_readNumber 4 (some .int) 2 52 fX6_readNumber := Mt.of (K := kX6_readNumber) (by decide +kernel) (fun _ _ _ => rfl) sX6_readNumber
theorem crX6_readNumber : yX6_readNumber.cls ≠ "java/lang/invoke/MethodHandle" ∧ yX6_readNumber.cls ≠ "java/lang/invoke/VarHandle" ∧ (parseMethodDescriptor yX6_readNumber.desc).map (fun d => d.parameters.length) = some 1 := by decide +kernel
theorem dX2_addThing_0 : decode cX2_addThing 0 = .ok (.aload_n 0, 1) := by decide +kernel
theorem dX2_addThing_1 : decode cX2_addThing 1 = .ok (.getfield 55, 3) := by decide +kernel
theorem dX2_addThing_4 : decode cX2_addThing 4 = .ok (.iconst 5, 1) := by decide +kernel
theorem dX2_addThing_5 : decode cX2_addThing 5 = .ok (.if_icmp .ge 33, 3) := by decide +kernel
theorem dX2_addThing_8 : decode cX2_addThing 8 = .ok (.aload_n 0, 1) := by decide +kernel
theorem dX2_addThing_9 : decode cX2_addThing 9 = .ok (.getfield 22, 3) := by decide +kernel
theorem dX2_addThing_12 : decode cX2_addThing 12 = .ok (.aload_n 0, 1) := by decide +kernel
theorem dX2_addThing_13 : decode cX2_addThing 13 = .ok (.getfield 55, 3) := by decide +kernel
theorem dX2_addThing_16 : decode cX2_addThing 16 = .ok (.lload_n 1, 1) := by decide +kernel
theorem dX2_addThing_17 : decode cX2_addThing 17 = .ok (.lastore, 1) := by decide +kernel
theorem dX2_addThing_18 : decode cX2_addThing 18 = .ok (.aload_n 0, 1) := by decide +kernel
theorem dX2_addThing_19 : decode cX2_addThing 19 = .ok (.getfield 25, 3) := by decide +kernel
theorem dX2_addThing_22 : decode cX2_addThing 22 = .ok (.aload_n 0, 1) := by decide +kernel
theorem dX2_addThing_23 : decode cX2_addThing 23 = .ok (.getfield 55, 3) := by decide +kernel
theorem dX2_addThing_26 : decode cX2_addThing 26 = .ok (.iload_n 3, 1) := by decide +kernel
theorem dX2_addThing_27 : decode cX2_addThing 27 = .ok (.iastore, 1) := by decide +kernel
theorem dX2_addThing_28 : decode cX2_addThing 28 = .ok (.aload_n 0, 1) := by decide +kernel
theorem dX2_addThing_29 : decode cX2_addThing 29 = .ok (.dup, 1) := by decide +kernel
theorem dX2_addThing_30 : decode cX2_addThing 30 = .ok (.getfield 55, 3) := by decide +kernel
theorem dX2_addThing_33 : decode cX2_addThing 33 = .ok (.iconst 1, 1) := by decide +kernel
theorem dX2_addThing_34 : decode cX2_addThing 34 = .ok (.iadd, 1) := by decide +kernel
theorem dX2_addThing_35 : decode cX2_addThing 35 = .ok (.putfield 55, 3) := by decide +kernel
theorem dX2_addThing_38 : decode cX2_addThing 38 = .ok (.return_, 1) := by decide +kernel
abbrev mX2_addThing : MD := (cX2_addThing, "BlottedDeed$Deed", 4, 1, 30, none, "addThing", [])
def bX2_addThing_0 (g : GE) (J : Nat → KT) : KT := i_aload 0 (i_getf 2 10 (i_push (.int 5) (i_icge (i_jmp [false, false, false, false] (J 1)) (i_aload 0 (i_getf 2 3 (i_aload 0 (i_getf 2 10 (i_lload 1 (i_lastore (i_aload 0 (i_getf 2 4 (i_aload 0 (i_getf 2 10 (i_iload 3 (i_iastore (i_aload 0 (i_dup (i_getf 2 10 (i_push (.int 1) (i_iadd (i_putf 2 10 .int (i_jmp [false, false, false, false] (J 1)))))))))))))))))))))))
def bX2_addThing_1 (g : GE) (J : Nat → KT) : KT := i_return
theorem sbX2_addThing_0 (g : GE) (J : Nat → KT) (h1 : Snd mX2_addThing g 38 (J 1)) : Snd mX2_addThing g 0 (bX2_addThing_0 g J) := by
  unfold bX2_addThing_0
  refine s_aload_n (pc := 0) (i := 0) ?_ dX2_addThing_0 rfl
  refine s_getf (pc := 1) (ci := 2) (f := 10) (T := TX2) ?_ ginX2 rfl (by decide) wt_133 dX2_addThing_1
  refine s_iconst (pc := 4) (v := 5) ?_ dX2_addThing_4 (by decide)
  refine s_icge (pc := 5) (tgt := 38) ?_ ?_ dX2_addThing_5 (by decide)
  · skip
    exact s_fall (pc := 38) h1
  · skip
    refine s_aload_n (pc := 8) (i := 0) ?_ dX2_addThing_8 rfl
    refine s_getf (pc := 9) (ci := 2) (f := 3) (T := TX2) ?_ ginX2 rfl (by decide) wt_115 dX2_addThing_9
    refine s_aload_n (pc := 12) (i := 0) ?_ dX2_addThing_12 rfl
    refine s_getf (pc := 13) (ci := 2) (f := 10) (T := TX2) ?_ ginX2 rfl (by decide) wt_133 dX2_addThing_13
    refine s_lload_n (pc := 16) (i := 1) ?_ dX2_addThing_16 rfl
    refine s_lastore (pc := 17) ?_ dX2_addThing_17
    refine s_aload_n (pc := 18) (i := 0) ?_ dX2_addThing_18 rfl
    refine s_getf (pc := 19) (ci := 2) (f := 4) (T := TX2) ?_ ginX2 rfl (by decide) wt_116 dX2_addThing_19
    refine s_aload_n (pc := 22) (i := 0) ?_ dX2_addThing_22 rfl
    refine s_getf (pc := 23) (ci := 2) (f := 10) (T := TX2) ?_ ginX2 rfl (by decide) wt_133 dX2_addThing_23
    refine s_iload_n (pc := 26) (i := 3) ?_ dX2_addThing_26 rfl
    refine s_iastore (pc := 27) ?_ dX2_addThing_27
    refine s_aload_n (pc := 28) (i := 0) ?_ dX2_addThing_28 rfl
    refine s_dup (pc := 29) ?_ dX2_addThing_29
    refine s_getf (pc := 30) (ci := 2) (f := 10) (T := TX2) ?_ ginX2 rfl (by decide) wt_133 dX2_addThing_30
    refine s_iconst (pc := 33) (v := 1) ?_ dX2_addThing_33 (by decide)
    refine s_iadd (pc := 34) ?_ dX2_addThing_34
    refine s_putf (pc := 35) (ci := 2) (f := 10) (T := TX2) (ty0 := tyX2) ?_ ginX2 tyX2_ok nmX2 rfl (by decide) rfl rfl wt_133 dX2_addThing_35
    exact s_fall (pc := 38) h1
theorem sbX2_addThing_1 (g : GE) (J : Nat → KT) (h1 : Snd mX2_addThing g 38 (J 1)) : Snd mX2_addThing g 38 (bX2_addThing_1 g J) := by
  unfold bX2_addThing_1
  exact s_return (pc := 38) rfl dX2_addThing_38
def jX2_addThing (g : GE) : Nat → Nat → KT
  | 0, _ => fun _ _ _ => none
  | n + 1, 0 => bX2_addThing_0 g (jX2_addThing g n)
  | n + 1, 1 => bX2_addThing_1 g (jX2_addThing g n)
  | _ + 1, _ + 2 => fun _ _ _ => none
theorem sjX2_addThing (g : GE) : ∀ n, Snd mX2_addThing g 0 (jX2_addThing g n 0) ∧ Snd mX2_addThing g 38 (jX2_addThing g n 1)
  | 0 => ⟨s_none, s_none⟩
  | n + 1 => by
    obtain ⟨-, h1⟩ := sjX2_addThing g n
    exact ⟨sbX2_addThing_0 g _ h1, sbX2_addThing_1 g _ h1⟩
def kX2_addThing (g : GE) : KT := jX2_addThing g g.1 0
theorem sX2_addThing (g : GE) : Snd mX2_addThing g 0 (kX2_addThing g) := (sjX2_addThing g g.1).1
def fX2_addThing : FT := fun g av w => if (ent av).length ≤ 4 then kX2_addThing g [] (entp 4 av) w else none
theorem tX2_addThing : Mt yX2_addThing cX2_addThing 4 none 1 30 fX2_addThing := Mt.of (K := kX2_addThing) (by decide +kernel) (fun _ _ _ => rfl) sX2_addThing
theorem crX2_addThing : yX2_addThing.cls ≠ "java/lang/invoke/MethodHandle" ∧ yX2_addThing.cls ≠ "java/lang/invoke/VarHandle" ∧ (parseMethodDescriptor yX2_addThing.desc).map (fun d => d.parameters.length) = some 2 := by decide +kernel
theorem dX6_readNewThing_0 : decode cX6_readNewThing 0 = .ok (.aload_n 0, 1) := by decide +kernel
theorem dX6_readNewThing_1 : decode cX6_readNewThing 1 = .ok (.invokevirtual 120, 3) := by decide +kernel
theorem dX6_readNewThing_4 : decode cX6_readNewThing 4 = .ok (.ifCond .ne 5, 3) := by decide +kernel
theorem dX6_readNewThing_7 : decode cX6_readNewThing 7 = .ok (.iconst 0, 1) := by decide +kernel
theorem dX6_readNewThing_8 : decode cX6_readNewThing 8 = .ok (.ireturn, 1) := by decide +kernel
theorem dX6_readNewThing_9 : decode cX6_readNewThing 9 = .ok (.aload_n 0, 1) := by decide +kernel
theorem dX6_readNewThing_10 : decode cX6_readNewThing 10 = .ok (.getfield 123, 3) := by decide +kernel
theorem dX6_readNewThing_13 : decode cX6_readNewThing 13 = .ok (.lstore_n 1, 1) := by decide +kernel
theorem dX6_readNewThing_14 : decode cX6_readNewThing 14 = .ok (.aload_n 0, 1) := by decide +kernel
theorem dX6_readNewThing_15 : decode cX6_readNewThing 15 = .ok (.bipush 99, 2) := by decide +kernel
theorem dX6_readNewThing_17 : decode cX6_readNewThing 17 = .ok (.invokevirtual 131, 3) := by decide +kernel
theorem dX6_readNewThing_20 : decode cX6_readNewThing 20 = .ok (.istore_n 3, 1) := by decide +kernel
theorem dX6_readNewThing_21 : decode cX6_readNewThing 21 = .ok (.iload_n 3, 1) := by decide +kernel
theorem dX6_readNewThing_22 : decode cX6_readNewThing 22 = .ok (.iconst (-1), 1) := by decide +kernel
theorem dX6_readNewThing_23 : decode cX6_readNewThing 23 = .ok (.if_icmp .ne 5, 3) := by decide +kernel
theorem dX6_readNewThing_26 : decode cX6_readNewThing 26 = .ok (.iconst 0, 1) := by decide +kernel
theorem dX6_readNewThing_27 : decode cX6_readNewThing 27 = .ok (.ireturn, 1) := by decide +kernel
theorem dX6_readNewThing_28 : decode cX6_readNewThing 28 = .ok (.aload_n 0, 1) := by decide +kernel
theorem dX6_readNewThing_29 : decode cX6_readNewThing 29 = .ok (.getfield 15, 3) := by decide +kernel
theorem dX6_readNewThing_32 : decode cX6_readNewThing 32 = .ok (.lload_n 1, 1) := by decide +kernel
theorem dX6_readNewThing_33 : decode cX6_readNewThing 33 = .ok (.iload_n 3, 1) := by decide +kernel
theorem dX6_readNewThing_34 : decode cX6_readNewThing 34 = .ok (.invokevirtual 135, 3) := by decide +kernel
theorem dX6_readNewThing_37 : decode cX6_readNewThing 37 = .ok (.iconst 1, 1) := by decide +kernel
theorem dX6_readNewThing_38 : decode cX6_readNewThing 38 = .ok (.ireturn, 1) := by decide +kernel
abbrev mX6_readNewThing : MD := (cX6_readNewThing, "BlottedDeed$Scribe", 4, 4, 93, (some .boolean), "readNewThing", [])
def bX6_readNewThing_0 (g : GE) (J : Nat → KT) : KT := i_aload 0 (i_cv fX6_readNewName g 0 6 (i_ifne (i_aload 0 (i_getf 6 4 (i_lstore 1 (i_aload 0 (i_push (.int 99) (i_cv fX6_readNumber g 1 6 (i_istore 3 (i_iload 3 (i_push (.int (-1)) (i_icne (i_aload 0 (i_getf 6 5 (i_lload 1 (i_iload 3 (i_cv fX2_addThing g 2 2 (i_push (.int 1) (i_zreturn))))))) (i_push (.int 0) (i_zreturn)))))))))))) (i_push (.int 0) (i_zreturn))))
theorem sbX6_readNewThing_0 (g : GE) (J : Nat → KT)  : Snd mX6_readNewThing g 0 (bX6_readNewThing_0 g J) := by
  unfold bX6_readNewThing_0
  refine s_aload_n (pc := 0) (i := 0) ?_ dX6_readNewThing_0 rfl
  refine s_cv (pc := 1) (n := 0) (ci := 6) ?_ tX6_readNewName rfl rfl wt_804 wt_806 wp_18 wt_7 wt_807 ⟨crX6_readNewName, by decide, by decide⟩ dX6_readNewThing_1
  refine s_ifne (pc := 4) (tgt := 9) ?_ ?_ dX6_readNewThing_4 (by decide)
  · skip
    refine s_aload_n (pc := 9) (i := 0) ?_ dX6_readNewThing_9 rfl
    refine s_getf (pc := 10) (ci := 6) (f := 4) (T := TX6) ?_ ginX6 rfl (by decide) wt_199 dX6_readNewThing_10
    refine s_lstore_n (pc := 13) (i := 1) ?_ dX6_readNewThing_13 rfl (by decide)
    refine s_aload_n (pc := 14) (i := 0) ?_ dX6_readNewThing_14 rfl
    refine s_bipush (pc := 15) (v := 99) ?_ dX6_readNewThing_15 (by decide)
    refine s_cv (pc := 17) (n := 1) (ci := 6) ?_ tX6_readNumber rfl rfl wt_829 wt_831 wp_21 wt_7 wt_832 ⟨crX6_readNumber, by decide, by decide⟩ dX6_readNewThing_17
    refine s_istore_n (pc := 20) (i := 3) ?_ dX6_readNewThing_20 rfl (by decide)
    refine s_iload_n (pc := 21) (i := 3) ?_ dX6_readNewThing_21 rfl
    refine s_iconst (pc := 22) (v := (-1)) ?_ dX6_readNewThing_22 (by decide)
    refine s_icne (pc := 23) (tgt := 28) ?_ ?_ dX6_readNewThing_23 (by decide)
    · skip
      refine s_aload_n (pc := 28) (i := 0) ?_ dX6_readNewThing_28 rfl
      refine s_getf (pc := 29) (ci := 6) (f := 5) (T := TX6) ?_ ginX6 rfl (by decide) wt_200 dX6_readNewThing_29
      refine s_lload_n (pc := 32) (i := 1) ?_ dX6_readNewThing_32 rfl
      refine s_iload_n (pc := 33) (i := 3) ?_ dX6_readNewThing_33 rfl
      refine s_cv (pc := 34) (n := 2) (ci := 2) ?_ tX2_addThing rfl rfl wt_834 wt_835 wt_836 wt_2 wt_837 ⟨crX2_addThing, by decide, by decide⟩ dX6_readNewThing_34
      refine s_iconst (pc := 37) (v := 1) ?_ dX6_readNewThing_37 (by decide)
      exact s_zreturn (pc := 38) rfl dX6_readNewThing_38
    · skip
      refine s_iconst (pc := 26) (v := 0) ?_ dX6_readNewThing_26 (by decide)
      exact s_zreturn (pc := 27) rfl dX6_readNewThing_27
  · skip
    refine s_iconst (pc := 7) (v := 0) ?_ dX6_readNewThing_7 (by decide)
    exact s_zreturn (pc := 8) rfl dX6_readNewThing_8
def kX6_readNewThing (g : GE) : KT := bX6_readNewThing_0 g (fun _ _ _ _ => none)
theorem sX6_readNewThing (g : GE) : Snd mX6_readNewThing g 0 (kX6_readNewThing g) := sbX6_readNewThing_0 g _
def fX6_readNewThing : FT := fun g av w => if (ent av).length ≤ 4 then kX6_readNewThing g [] (entp 4 av) w else none
theorem tX6_readNewThing : Mt yX6_readNewThing cX6_readNewThing 4 (some .boolean) 4 93 fX6_readNewThing := Mt.of (K := kX6_readNewThing) (by decide +kernel) (fun _ _ _ => rfl) sX6_readNewThing
theorem crX6_readNewThing : yX6_readNewThing.cls ≠ "java/lang/invoke/MethodHandle" ∧ yX6_readNewThing.cls ≠ "java/lang/invoke/VarHandle" ∧ (parseMethodDescriptor yX6_readNewThing.desc).map (fun d => d.parameters.length) = some 0 := by decide +kernel
theorem dX6_readEstate_0 : decode cX6_readEstate 0 = .ok (.aload_n 0, 1) := by decide +kernel
theorem dX6_readEstate_1 : decode cX6_readEstate 1 = .ok (.sipush 999, 3) := by decide +kernel
theorem dX6_readEstate_4 : decode cX6_readEstate 4 = .ok (.invokevirtual 131, 3) := by decide +kernel
theorem dX6_readEstate_7 : decode cX6_readEstate 7 = .ok (.istore_n 1, 1) := by decide +kernel
theorem dX6_readEstate_8 : decode cX6_readEstate 8 = .ok (.iload_n 1, 1) := by decide +kernel
theorem dX6_readEstate_9 : decode cX6_readEstate 9 = .ok (.iconst (-1), 1) := by decide +kernel
theorem dX6_readEstate_10 : decode cX6_readEstate 10 = .ok (.if_icmp .ne 5, 3) := by decide +kernel
theorem dX6_readEstate_13 : decode cX6_readEstate 13 = .ok (.iconst 0, 1) := by decide +kernel
theorem dX6_readEstate_14 : decode cX6_readEstate 14 = .ok (.ireturn, 1) := by decide +kernel
theorem dX6_readEstate_15 : decode cX6_readEstate 15 = .ok (.aload_n 0, 1) := by decide +kernel
theorem dX6_readEstate_16 : decode cX6_readEstate 16 = .ok (.getfield 15, 3) := by decide +kernel
theorem dX6_readEstate_19 : decode cX6_readEstate 19 = .ok (.iload_n 1, 1) := by decide +kernel
theorem dX6_readEstate_20 : decode cX6_readEstate 20 = .ok (.putfield 138, 3) := by decide +kernel
theorem dX6_readEstate_23 : decode cX6_readEstate 23 = .ok (.iconst 1, 1) := by decide +kernel
theorem dX6_readEstate_24 : decode cX6_readEstate 24 = .ok (.ireturn, 1) := by decide +kernel
abbrev mX6_readEstate : MD := (cX6_readEstate, "BlottedDeed$Scribe", 2, 3, 75, (some .boolean), "readEstate", [])
def bX6_readEstate_0 (g : GE) (J : Nat → KT) : KT := i_aload 0 (i_push (.int 999) (i_cv fX6_readNumber g 1 6 (i_istore 1 (i_iload 1 (i_push (.int (-1)) (i_icne (i_aload 0 (i_getf 6 5 (i_iload 1 (i_putf 2 14 .int (i_push (.int 1) (i_zreturn)))))) (i_push (.int 0) (i_zreturn))))))))
theorem sbX6_readEstate_0 (g : GE) (J : Nat → KT)  : Snd mX6_readEstate g 0 (bX6_readEstate_0 g J) := by
  unfold bX6_readEstate_0
  refine s_aload_n (pc := 0) (i := 0) ?_ dX6_readEstate_0 rfl
  refine s_sipush (pc := 1) (v := 999) ?_ dX6_readEstate_1 (by decide)
  refine s_cv (pc := 4) (n := 1) (ci := 6) ?_ tX6_readNumber rfl rfl wt_829 wt_831 wp_21 wt_7 wt_832 ⟨crX6_readNumber, by decide, by decide⟩ dX6_readEstate_4
  refine s_istore_n (pc := 7) (i := 1) ?_ dX6_readEstate_7 rfl (by decide)
  refine s_iload_n (pc := 8) (i := 1) ?_ dX6_readEstate_8 rfl
  refine s_iconst (pc := 9) (v := (-1)) ?_ dX6_readEstate_9 (by decide)
  refine s_icne (pc := 10) (tgt := 15) ?_ ?_ dX6_readEstate_10 (by decide)
  · skip
    refine s_aload_n (pc := 15) (i := 0) ?_ dX6_readEstate_15 rfl
    refine s_getf (pc := 16) (ci := 6) (f := 5) (T := TX6) ?_ ginX6 rfl (by decide) wt_200 dX6_readEstate_16
    refine s_iload_n (pc := 19) (i := 1) ?_ dX6_readEstate_19 rfl
    refine s_putf (pc := 20) (ci := 2) (f := 14) (T := TX2) (ty0 := tyX2) ?_ ginX2 tyX2_ok nmX2 rfl (by decide) rfl rfl wt_151 dX6_readEstate_20
    refine s_iconst (pc := 23) (v := 1) ?_ dX6_readEstate_23 (by decide)
    exact s_zreturn (pc := 24) rfl dX6_readEstate_24
  · skip
    refine s_iconst (pc := 13) (v := 0) ?_ dX6_readEstate_13 (by decide)
    exact s_zreturn (pc := 14) rfl dX6_readEstate_14
def kX6_readEstate (g : GE) : KT := bX6_readEstate_0 g (fun _ _ _ _ => none)
theorem sX6_readEstate (g : GE) : Snd mX6_readEstate g 0 (kX6_readEstate g) := sbX6_readEstate_0 g _
def fX6_readEstate : FT := fun g av w => if (ent av).length ≤ 2 then kX6_readEstate g [] (entp 2 av) w else none
theorem tX6_readEstate : Mt yX6_readEstate cX6_readEstate 2 (some .boolean) 3 75 fX6_readEstate := Mt.of (K := kX6_readEstate) (by decide +kernel) (fun _ _ _ => rfl) sX6_readEstate
theorem crX6_readEstate : yX6_readEstate.cls ≠ "java/lang/invoke/MethodHandle" ∧ yX6_readEstate.cls ≠ "java/lang/invoke/VarHandle" ∧ (parseMethodDescriptor yX6_readEstate.desc).map (fun d => d.parameters.length) = some 0 := by decide +kernel
theorem dX6_readHeir_0 : decode cX6_readHeir 0 = .ok (.aload_n 0, 1) := by decide +kernel
theorem dX6_readHeir_1 : decode cX6_readHeir 1 = .ok (.invokevirtual 59, 3) := by decide +kernel
theorem dX6_readHeir_4 : decode cX6_readHeir 4 = .ok (.ifCond .ne 5, 3) := by decide +kernel
theorem dX6_readHeir_7 : decode cX6_readHeir 7 = .ok (.iconst (-1), 1) := by decide +kernel
theorem dX6_readHeir_8 : decode cX6_readHeir 8 = .ok (.ireturn, 1) := by decide +kernel
theorem dX6_readHeir_9 : decode cX6_readHeir 9 = .ok (.aload_n 0, 1) := by decide +kernel
theorem dX6_readHeir_10 : decode cX6_readHeir 10 = .ok (.invokevirtual 201, 3) := by decide +kernel
theorem dX6_readHeir_13 : decode cX6_readHeir 13 = .ok (.ifCond .eq 7, 3) := by decide +kernel
theorem dX6_readHeir_16 : decode cX6_readHeir 16 = .ok (.iconst (-1), 1) := by decide +kernel
theorem dX6_readHeir_17 : decode cX6_readHeir 17 = .ok (.goto 14, 3) := by decide +kernel
theorem dX6_readHeir_20 : decode cX6_readHeir 20 = .ok (.aload_n 0, 1) := by decide +kernel
theorem dX6_readHeir_21 : decode cX6_readHeir 21 = .ok (.getfield 15, 3) := by decide +kernel
theorem dX6_readHeir_24 : decode cX6_readHeir 24 = .ok (.aload_n 0, 1) := by decide +kernel
theorem dX6_readHeir_25 : decode cX6_readHeir 25 = .ok (.getfield 123, 3) := by decide +kernel
theorem dX6_readHeir_28 : decode cX6_readHeir 28 = .ok (.invokevirtual 194, 3) := by decide +kernel
theorem dX6_readHeir_31 : decode cX6_readHeir 31 = .ok (.istore_n 1, 1) := by decide +kernel
theorem dX6_readHeir_32 : decode cX6_readHeir 32 = .ok (.iload_n 1, 1) := by decide +kernel
theorem dX6_readHeir_33 : decode cX6_readHeir 33 = .ok (.iconst (-1), 1) := by decide +kernel
theorem dX6_readHeir_34 : decode cX6_readHeir 34 = .ok (.if_icmp .ne 13, 3) := by decide +kernel
theorem dX6_readHeir_37 : decode cX6_readHeir 37 = .ok (.aload_n 0, 1) := by decide +kernel
theorem dX6_readHeir_38 : decode cX6_readHeir 38 = .ok (.iconst 2, 1) := by decide +kernel
theorem dX6_readHeir_39 : decode cX6_readHeir 39 = .ok (.aload_n 0, 1) := by decide +kernel
theorem dX6_readHeir_40 : decode cX6_readHeir 40 = .ok (.getfield 66, 3) := by decide +kernel
theorem dX6_readHeir_43 : decode cX6_readHeir 43 = .ok (.invokevirtual 49, 3) := by decide +kernel
theorem dX6_readHeir_46 : decode cX6_readHeir 46 = .ok (.pop, 1) := by decide +kernel
theorem dX6_readHeir_47 : decode cX6_readHeir 47 = .ok (.iload_n 1, 1) := by decide +kernel
theorem dX6_readHeir_48 : decode cX6_readHeir 48 = .ok (.ireturn, 1) := by decide +kernel
abbrev mX6_readHeir : MD := (cX6_readHeir, "BlottedDeed$Scribe", 2, 3, 72, (some .int), "readHeir", [])
def bX6_readHeir_0 (g : GE) (J : Nat → KT) : KT := i_aload 0 (i_cv fX6_readWord g 0 6 (i_ifne (i_aload 0 (i_cv fX6_isTooLong g 0 6 (i_ifeq (i_aload 0 (i_getf 6 5 (i_aload 0 (i_getf 6 4 (i_cv fX2_heirNamed g 1 2 (i_jmp [true, false] (J 1))))))) (i_push (.int (-1)) (i_jmp [true, false] (J 1)))))) (i_push (.int (-1)) (i_ireturn))))
def bX6_readHeir_1 (g : GE) (J : Nat → KT) : KT := i_istore 1 (i_iload 1 (i_push (.int (-1)) (i_icne (i_jmp [false, true] (J 2)) (i_aload 0 (i_push (.int 2) (i_aload 0 (i_getf 6 3 (i_cv fX6_fail g 2 6 (i_pop (i_jmp [false, true] (J 2)))))))))))
def bX6_readHeir_2 (g : GE) (J : Nat → KT) : KT := i_iload 1 (i_ireturn)
theorem sbX6_readHeir_0 (g : GE) (J : Nat → KT) (h1 : Snd mX6_readHeir g 31 (J 1)) (h2 : Snd mX6_readHeir g 47 (J 2)) : Snd mX6_readHeir g 0 (bX6_readHeir_0 g J) := by
  unfold bX6_readHeir_0
  refine s_aload_n (pc := 0) (i := 0) ?_ dX6_readHeir_0 rfl
  refine s_cv (pc := 1) (n := 0) (ci := 6) ?_ tX6_readWord rfl rfl wt_713 wt_715 wp_12 wt_7 wt_716 ⟨crX6_readWord, by decide, by decide⟩ dX6_readHeir_1
  refine s_ifne (pc := 4) (tgt := 9) ?_ ?_ dX6_readHeir_4 (by decide)
  · skip
    refine s_aload_n (pc := 9) (i := 0) ?_ dX6_readHeir_9 rfl
    refine s_cv (pc := 10) (n := 0) (ci := 6) ?_ tX6_isTooLong rfl rfl wt_816 wt_818 wp_19 wt_7 wt_819 ⟨crX6_isTooLong, by decide, by decide⟩ dX6_readHeir_10
    refine s_ifeq (pc := 13) (tgt := 20) ?_ ?_ dX6_readHeir_13 (by decide)
    · skip
      refine s_aload_n (pc := 20) (i := 0) ?_ dX6_readHeir_20 rfl
      refine s_getf (pc := 21) (ci := 6) (f := 5) (T := TX6) ?_ ginX6 rfl (by decide) wt_200 dX6_readHeir_21
      refine s_aload_n (pc := 24) (i := 0) ?_ dX6_readHeir_24 rfl
      refine s_getf (pc := 25) (ci := 6) (f := 4) (T := TX6) ?_ ginX6 rfl (by decide) wt_199 dX6_readHeir_25
      refine s_cv (pc := 28) (n := 1) (ci := 2) ?_ tX2_heirNamed rfl rfl wt_808 wt_809 wt_810 wt_2 wt_811 ⟨crX2_heirNamed, by decide, by decide⟩ dX6_readHeir_28
      exact s_fall (pc := 31) h1
    · skip
      refine s_iconst (pc := 16) (v := (-1)) ?_ dX6_readHeir_16 (by decide)
      exact s_goto (pc := 17) (tgt := 31) h1 dX6_readHeir_17 (by decide)
  · skip
    refine s_iconst (pc := 7) (v := (-1)) ?_ dX6_readHeir_7 (by decide)
    exact s_ireturn (pc := 8) rfl dX6_readHeir_8
theorem sbX6_readHeir_1 (g : GE) (J : Nat → KT) (h1 : Snd mX6_readHeir g 31 (J 1)) (h2 : Snd mX6_readHeir g 47 (J 2)) : Snd mX6_readHeir g 31 (bX6_readHeir_1 g J) := by
  unfold bX6_readHeir_1
  refine s_istore_n (pc := 31) (i := 1) ?_ dX6_readHeir_31 rfl (by decide)
  refine s_iload_n (pc := 32) (i := 1) ?_ dX6_readHeir_32 rfl
  refine s_iconst (pc := 33) (v := (-1)) ?_ dX6_readHeir_33 (by decide)
  refine s_icne (pc := 34) (tgt := 47) ?_ ?_ dX6_readHeir_34 (by decide)
  · skip
    exact s_fall (pc := 47) h2
  · skip
    refine s_aload_n (pc := 37) (i := 0) ?_ dX6_readHeir_37 rfl
    refine s_iconst (pc := 38) (v := 2) ?_ dX6_readHeir_38 (by decide)
    refine s_aload_n (pc := 39) (i := 0) ?_ dX6_readHeir_39 rfl
    refine s_getf (pc := 40) (ci := 6) (f := 3) (T := TX6) ?_ ginX6 rfl (by decide) wt_198 dX6_readHeir_40
    refine s_cv (pc := 43) (n := 2) (ci := 6) ?_ tX6_fail rfl rfl wt_718 wt_720 wp_13 wt_7 wt_721 ⟨crX6_fail, by decide, by decide⟩ dX6_readHeir_43
    refine s_pop (pc := 46) ?_ dX6_readHeir_46
    exact s_fall (pc := 47) h2
theorem sbX6_readHeir_2 (g : GE) (J : Nat → KT) (h1 : Snd mX6_readHeir g 31 (J 1)) (h2 : Snd mX6_readHeir g 47 (J 2)) : Snd mX6_readHeir g 47 (bX6_readHeir_2 g J) := by
  unfold bX6_readHeir_2
  refine s_iload_n (pc := 47) (i := 1) ?_ dX6_readHeir_47 rfl
  exact s_ireturn (pc := 48) rfl dX6_readHeir_48
def jX6_readHeir (g : GE) : Nat → Nat → KT
  | 0, _ => fun _ _ _ => none
  | n + 1, 0 => bX6_readHeir_0 g (jX6_readHeir g n)
  | n + 1, 1 => bX6_readHeir_1 g (jX6_readHeir g n)
  | n + 1, 2 => bX6_readHeir_2 g (jX6_readHeir g n)
  | _ + 1, _ + 3 => fun _ _ _ => none
theorem sjX6_readHeir (g : GE) : ∀ n, Snd mX6_readHeir g 0 (jX6_readHeir g n 0) ∧ Snd mX6_readHeir g 31 (jX6_readHeir g n 1) ∧ Snd mX6_readHeir g 47 (jX6_readHeir g n 2)
  | 0 => ⟨s_none, s_none, s_none⟩
  | n + 1 => by
    obtain ⟨-, h1, h2⟩ := sjX6_readHeir g n
    exact ⟨sbX6_readHeir_0 g _ h1 h2, sbX6_readHeir_1 g _ h1 h2, sbX6_readHeir_2 g _ h1 h2⟩
def kX6_readHeir (g : GE) : KT := jX6_readHeir g g.1 0
theorem sX6_readHeir (g : GE) : Snd mX6_readHeir g 0 (kX6_readHeir g) := (sjX6_readHeir g g.1).1
def fX6_readHeir : FT := fun g av w => if (ent av).length ≤ 2 then kX6_readHeir g [] (entp 2 av) w else none
theorem tX6_readHeir : Mt yX6_readHeir cX6_readHeir 2 (some .int) 3 72 fX6_readHeir := Mt.of (K := kX6_readHeir) (by decide +kernel) (fun _ _ _ => rfl) sX6_readHeir
theorem crX6_readHeir : yX6_readHeir.cls ≠ "java/lang/invoke/MethodHandle" ∧ yX6_readHeir.cls ≠ "java/lang/invoke/VarHandle" ∧ (parseMethodDescriptor yX6_readHeir.desc).map (fun d => d.parameters.length) = some 0 := by decide +kernel
theorem dX6_readLeast_0 : decode cX6_readLeast 0 = .ok (.aload_n 0, 1) := by decide +kernel
theorem dX6_readLeast_1 : decode cX6_readLeast 1 = .ok (.invokevirtual 141, 3) := by decide +kernel
theorem dX6_readLeast_4 : decode cX6_readLeast 4 = .ok (.istore_n 1, 1) := by decide +kernel
theorem dX6_readLeast_5 : decode cX6_readLeast 5 = .ok (.iload_n 1, 1) := by decide +kernel
theorem dX6_readLeast_6 : decode cX6_readLeast 6 = .ok (.iconst (-1), 1) := by decide +kernel
theorem dX6_readLeast_7 : decode cX6_readLeast 7 = .ok (.if_icmp .ne 5, 3) := by decide +kernel
theorem dX6_readLeast_10 : decode cX6_readLeast 10 = .ok (.iconst 0, 1) := by decide +kernel
theorem dX6_readLeast_11 : decode cX6_readLeast 11 = .ok (.ireturn, 1) := by decide +kernel
theorem dX6_readLeast_12 : decode cX6_readLeast 12 = .ok (.aload_n 0, 1) := by decide +kernel
theorem dX6_readLeast_13 : decode cX6_readLeast 13 = .ok (.sipush 999, 3) := by decide +kernel
theorem dX6_readLeast_16 : decode cX6_readLeast 16 = .ok (.invokevirtual 131, 3) := by decide +kernel
theorem dX6_readLeast_19 : decode cX6_readLeast 19 = .ok (.istore_n 2, 1) := by decide +kernel
theorem dX6_readLeast_20 : decode cX6_readLeast 20 = .ok (.iload_n 2, 1) := by decide +kernel
theorem dX6_readLeast_21 : decode cX6_readLeast 21 = .ok (.iconst (-1), 1) := by decide +kernel
theorem dX6_readLeast_22 : decode cX6_readLeast 22 = .ok (.if_icmp .ne 5, 3) := by decide +kernel
theorem dX6_readLeast_25 : decode cX6_readLeast 25 = .ok (.iconst 0, 1) := by decide +kernel
theorem dX6_readLeast_26 : decode cX6_readLeast 26 = .ok (.ireturn, 1) := by decide +kernel
theorem dX6_readLeast_27 : decode cX6_readLeast 27 = .ok (.aload_n 0, 1) := by decide +kernel
theorem dX6_readLeast_28 : decode cX6_readLeast 28 = .ok (.getfield 15, 3) := by decide +kernel
theorem dX6_readLeast_31 : decode cX6_readLeast 31 = .ok (.getfield 145, 3) := by decide +kernel
theorem dX6_readLeast_34 : decode cX6_readLeast 34 = .ok (.iload_n 1, 1) := by decide +kernel
theorem dX6_readLeast_35 : decode cX6_readLeast 35 = .ok (.iload_n 2, 1) := by decide +kernel
theorem dX6_readLeast_36 : decode cX6_readLeast 36 = .ok (.iastore, 1) := by decide +kernel
theorem dX6_readLeast_37 : decode cX6_readLeast 37 = .ok (.iconst 1, 1) := by decide +kernel
theorem dX6_readLeast_38 : decode cX6_readLeast 38 = .ok (.ireturn, 1) := by decide +kernel
abbrev mX6_readLeast : MD := (cX6_readLeast, "BlottedDeed$Scribe", 3, 4, 93, (some .boolean), "readLeast", [])
def bX6_readLeast_0 (g : GE) (J : Nat → KT) : KT := i_aload 0 (i_cv fX6_readHeir g 0 6 (i_istore 1 (i_iload 1 (i_push (.int (-1)) (i_icne (i_aload 0 (i_push (.int 999) (i_cv fX6_readNumber g 1 6 (i_istore 2 (i_iload 2 (i_push (.int (-1)) (i_icne (i_aload 0 (i_getf 6 5 (i_getf 2 2 (i_iload 1 (i_iload 2 (i_iastore (i_push (.int 1) (i_zreturn)))))))) (i_push (.int 0) (i_zreturn))))))))) (i_push (.int 0) (i_zreturn)))))))
theorem sbX6_readLeast_0 (g : GE) (J : Nat → KT)  : Snd mX6_readLeast g 0 (bX6_readLeast_0 g J) := by
  unfold bX6_readLeast_0
  refine s_aload_n (pc := 0) (i := 0) ?_ dX6_readLeast_0 rfl
  refine s_cv (pc := 1) (n := 0) (ci := 6) ?_ tX6_readHeir rfl rfl wt_850 wt_852 wp_24 wt_7 wt_853 ⟨crX6_readHeir, by decide, by decide⟩ dX6_readLeast_1
  refine s_istore_n (pc := 4) (i := 1) ?_ dX6_readLeast_4 rfl (by decide)
  refine s_iload_n (pc := 5) (i := 1) ?_ dX6_readLeast_5 rfl
  refine s_iconst (pc := 6) (v := (-1)) ?_ dX6_readLeast_6 (by decide)
  refine s_icne (pc := 7) (tgt := 12) ?_ ?_ dX6_readLeast_7 (by decide)
  · skip
    refine s_aload_n (pc := 12) (i := 0) ?_ dX6_readLeast_12 rfl
    refine s_sipush (pc := 13) (v := 999) ?_ dX6_readLeast_13 (by decide)
    refine s_cv (pc := 16) (n := 1) (ci := 6) ?_ tX6_readNumber rfl rfl wt_829 wt_831 wp_21 wt_7 wt_832 ⟨crX6_readNumber, by decide, by decide⟩ dX6_readLeast_16
    refine s_istore_n (pc := 19) (i := 2) ?_ dX6_readLeast_19 rfl (by decide)
    refine s_iload_n (pc := 20) (i := 2) ?_ dX6_readLeast_20 rfl
    refine s_iconst (pc := 21) (v := (-1)) ?_ dX6_readLeast_21 (by decide)
    refine s_icne (pc := 22) (tgt := 27) ?_ ?_ dX6_readLeast_22 (by decide)
    · skip
      refine s_aload_n (pc := 27) (i := 0) ?_ dX6_readLeast_27 rfl
      refine s_getf (pc := 28) (ci := 6) (f := 5) (T := TX6) ?_ ginX6 rfl (by decide) wt_200 dX6_readLeast_28
      refine s_getf (pc := 31) (ci := 2) (f := 2) (T := TX2) ?_ ginX2 rfl (by decide) wt_114 dX6_readLeast_31
      refine s_iload_n (pc := 34) (i := 1) ?_ dX6_readLeast_34 rfl
      refine s_iload_n (pc := 35) (i := 2) ?_ dX6_readLeast_35 rfl
      refine s_iastore (pc := 36) ?_ dX6_readLeast_36
      refine s_iconst (pc := 37) (v := 1) ?_ dX6_readLeast_37 (by decide)
      exact s_zreturn (pc := 38) rfl dX6_readLeast_38
    · skip
      refine s_iconst (pc := 25) (v := 0) ?_ dX6_readLeast_25 (by decide)
      exact s_zreturn (pc := 26) rfl dX6_readLeast_26
  · skip
    refine s_iconst (pc := 10) (v := 0) ?_ dX6_readLeast_10 (by decide)
    exact s_zreturn (pc := 11) rfl dX6_readLeast_11
def kX6_readLeast (g : GE) : KT := bX6_readLeast_0 g (fun _ _ _ _ => none)
theorem sX6_readLeast (g : GE) : Snd mX6_readLeast g 0 (kX6_readLeast g) := sbX6_readLeast_0 g _
def fX6_readLeast : FT := fun g av w => if (ent av).length ≤ 3 then kX6_readLeast g [] (entp 3 av) w else none
theorem tX6_readLeast : Mt yX6_readLeast cX6_readLeast 3 (some .boolean) 4 93 fX6_readLeast := Mt.of (K := kX6_readLeast) (by decide +kernel) (fun _ _ _ => rfl) sX6_readLeast
theorem crX6_readLeast : yX6_readLeast.cls ≠ "java/lang/invoke/MethodHandle" ∧ yX6_readLeast.cls ≠ "java/lang/invoke/VarHandle" ∧ (parseMethodDescriptor yX6_readLeast.desc).map (fun d => d.parameters.length) = some 0 := by decide +kernel
theorem dX2_addPart_0 : decode cX2_addPart 0 = .ok (.aload_n 0, 1) := by decide +kernel
theorem dX2_addPart_1 : decode cX2_addPart 1 = .ok (.getfield 58, 3) := by decide +kernel
theorem dX2_addPart_4 : decode cX2_addPart 4 = .ok (.bipush 9, 2) := by decide +kernel
theorem dX2_addPart_6 : decode cX2_addPart 6 = .ok (.if_icmp .ge 42, 3) := by decide +kernel
theorem dX2_addPart_9 : decode cX2_addPart 9 = .ok (.aload_n 0, 1) := by decide +kernel
theorem dX2_addPart_10 : decode cX2_addPart 10 = .ok (.getfield 30, 3) := by decide +kernel
theorem dX2_addPart_13 : decode cX2_addPart 13 = .ok (.aload_n 0, 1) := by decide +kernel
theorem dX2_addPart_14 : decode cX2_addPart 14 = .ok (.getfield 58, 3) := by decide +kernel
theorem dX2_addPart_17 : decode cX2_addPart 17 = .ok (.aaload, 1) := by decide +kernel
theorem dX2_addPart_18 : decode cX2_addPart 18 = .ok (.aload_n 1, 1) := by decide +kernel
theorem dX2_addPart_19 : decode cX2_addPart 19 = .ok (.putfield 83, 3) := by decide +kernel
theorem dX2_addPart_22 : decode cX2_addPart 22 = .ok (.aload_n 0, 1) := by decide +kernel
theorem dX2_addPart_23 : decode cX2_addPart 23 = .ok (.getfield 30, 3) := by decide +kernel
theorem dX2_addPart_26 : decode cX2_addPart 26 = .ok (.aload_n 0, 1) := by decide +kernel
theorem dX2_addPart_27 : decode cX2_addPart 27 = .ok (.getfield 58, 3) := by decide +kernel
theorem dX2_addPart_30 : decode cX2_addPart 30 = .ok (.aaload, 1) := by decide +kernel
theorem dX2_addPart_31 : decode cX2_addPart 31 = .ok (.aload_n 0, 1) := by decide +kernel
theorem dX2_addPart_32 : decode cX2_addPart 32 = .ok (.getfield 61, 3) := by decide +kernel
theorem dX2_addPart_35 : decode cX2_addPart 35 = .ok (.putfield 86, 3) := by decide +kernel
theorem dX2_addPart_38 : decode cX2_addPart 38 = .ok (.aload_n 0, 1) := by decide +kernel
theorem dX2_addPart_39 : decode cX2_addPart 39 = .ok (.dup, 1) := by decide +kernel
theorem dX2_addPart_40 : decode cX2_addPart 40 = .ok (.getfield 58, 3) := by decide +kernel
theorem dX2_addPart_43 : decode cX2_addPart 43 = .ok (.iconst 1, 1) := by decide +kernel
theorem dX2_addPart_44 : decode cX2_addPart 44 = .ok (.iadd, 1) := by decide +kernel
theorem dX2_addPart_45 : decode cX2_addPart 45 = .ok (.putfield 58, 3) := by decide +kernel
theorem dX2_addPart_48 : decode cX2_addPart 48 = .ok (.return_, 1) := by decide +kernel
abbrev mX2_addPart : MD := (cX2_addPart, "BlottedDeed$Deed", 2, 1, 30, none, "addPart", [])
def bX2_addPart_0 (g : GE) (J : Nat → KT) : KT := i_aload 0 (i_getf 2 11 (i_push (.int 9) (i_icge (i_jmp [false, false] (J 1)) (i_aload 0 (i_getf 2 5 (i_aload 0 (i_getf 2 11 (i_aaload 5 (i_aload 1 (i_putf 3 0 (.object "BlottedDeed$Verb") (i_aload 0 (i_getf 2 5 (i_aload 0 (i_getf 2 11 (i_aaload 5 (i_aload 0 (i_getf 2 12 (i_putf 3 2 .int (i_aload 0 (i_dup (i_getf 2 11 (i_push (.int 1) (i_iadd (i_putf 2 11 .int (i_jmp [false, false] (J 1))))))))))))))))))))))))))
def bX2_addPart_1 (g : GE) (J : Nat → KT) : KT := i_return
theorem sbX2_addPart_0 (g : GE) (J : Nat → KT) (h1 : Snd mX2_addPart g 48 (J 1)) : Snd mX2_addPart g 0 (bX2_addPart_0 g J) := by
  unfold bX2_addPart_0
  refine s_aload_n (pc := 0) (i := 0) ?_ dX2_addPart_0 rfl
  refine s_getf (pc := 1) (ci := 2) (f := 11) (T := TX2) ?_ ginX2 rfl (by decide) wt_136 dX2_addPart_1
  refine s_bipush (pc := 4) (v := 9) ?_ dX2_addPart_4 (by decide)
  refine s_icge (pc := 6) (tgt := 48) ?_ ?_ dX2_addPart_6 (by decide)
  · skip
    exact s_fall (pc := 48) h1
  · skip
    refine s_aload_n (pc := 9) (i := 0) ?_ dX2_addPart_9 rfl
    refine s_getf (pc := 10) (ci := 2) (f := 5) (T := TX2) ?_ ginX2 rfl (by decide) wt_118 dX2_addPart_10
    refine s_aload_n (pc := 13) (i := 0) ?_ dX2_addPart_13 rfl
    refine s_getf (pc := 14) (ci := 2) (f := 11) (T := TX2) ?_ ginX2 rfl (by decide) wt_136 dX2_addPart_14
    refine s_aaload (pc := 17) (t := 5) ?_ (by decide) rfl dX2_addPart_17
    refine s_aload_n (pc := 18) (i := 1) ?_ dX2_addPart_18 rfl
    refine s_putf (pc := 19) (ci := 3) (f := 0) (T := TX3) (ty0 := tyX3) ?_ ginX3 tyX3_ok nmX3 rfl (by decide) rfl rfl wt_56 dX2_addPart_19
    refine s_aload_n (pc := 22) (i := 0) ?_ dX2_addPart_22 rfl
    refine s_getf (pc := 23) (ci := 2) (f := 5) (T := TX2) ?_ ginX2 rfl (by decide) wt_118 dX2_addPart_23
    refine s_aload_n (pc := 26) (i := 0) ?_ dX2_addPart_26 rfl
    refine s_getf (pc := 27) (ci := 2) (f := 11) (T := TX2) ?_ ginX2 rfl (by decide) wt_136 dX2_addPart_27
    refine s_aaload (pc := 30) (t := 5) ?_ (by decide) rfl dX2_addPart_30
    refine s_aload_n (pc := 31) (i := 0) ?_ dX2_addPart_31 rfl
    refine s_getf (pc := 32) (ci := 2) (f := 12) (T := TX2) ?_ ginX2 rfl (by decide) wt_140 dX2_addPart_32
    refine s_putf (pc := 35) (ci := 3) (f := 2) (T := TX3) (ty0 := tyX3) ?_ ginX3 tyX3_ok nmX3 rfl (by decide) rfl rfl wt_60 dX2_addPart_35
    refine s_aload_n (pc := 38) (i := 0) ?_ dX2_addPart_38 rfl
    refine s_dup (pc := 39) ?_ dX2_addPart_39
    refine s_getf (pc := 40) (ci := 2) (f := 11) (T := TX2) ?_ ginX2 rfl (by decide) wt_136 dX2_addPart_40
    refine s_iconst (pc := 43) (v := 1) ?_ dX2_addPart_43 (by decide)
    refine s_iadd (pc := 44) ?_ dX2_addPart_44
    refine s_putf (pc := 45) (ci := 2) (f := 11) (T := TX2) (ty0 := tyX2) ?_ ginX2 tyX2_ok nmX2 rfl (by decide) rfl rfl wt_136 dX2_addPart_45
    exact s_fall (pc := 48) h1
theorem sbX2_addPart_1 (g : GE) (J : Nat → KT) (h1 : Snd mX2_addPart g 48 (J 1)) : Snd mX2_addPart g 48 (bX2_addPart_1 g J) := by
  unfold bX2_addPart_1
  exact s_return (pc := 48) rfl dX2_addPart_48
def jX2_addPart (g : GE) : Nat → Nat → KT
  | 0, _ => fun _ _ _ => none
  | n + 1, 0 => bX2_addPart_0 g (jX2_addPart g n)
  | n + 1, 1 => bX2_addPart_1 g (jX2_addPart g n)
  | _ + 1, _ + 2 => fun _ _ _ => none
theorem sjX2_addPart (g : GE) : ∀ n, Snd mX2_addPart g 0 (jX2_addPart g n 0) ∧ Snd mX2_addPart g 48 (jX2_addPart g n 1)
  | 0 => ⟨s_none, s_none⟩
  | n + 1 => by
    obtain ⟨-, h1⟩ := sjX2_addPart g n
    exact ⟨sbX2_addPart_0 g _ h1, sbX2_addPart_1 g _ h1⟩
def kX2_addPart (g : GE) : KT := jX2_addPart g g.1 0
theorem sX2_addPart (g : GE) : Snd mX2_addPart g 0 (kX2_addPart g) := (sjX2_addPart g g.1).1
def fX2_addPart : FT := fun g av w => if (ent av).length ≤ 2 then kX2_addPart g [] (entp 2 av) w else none
theorem tX2_addPart : Mt yX2_addPart cX2_addPart 2 none 1 30 fX2_addPart := Mt.of (K := kX2_addPart) (by decide +kernel) (fun _ _ _ => rfl) sX2_addPart
theorem crX2_addPart : yX2_addPart.cls ≠ "java/lang/invoke/MethodHandle" ∧ yX2_addPart.cls ≠ "java/lang/invoke/VarHandle" ∧ (parseMethodDescriptor yX2_addPart.desc).map (fun d => d.parameters.length) = some 1 := by decide +kernel
theorem dX6_standsHere_0 : decode cX6_standsHere 0 = .ok (.aload_n 0, 1) := by decide +kernel
theorem dX6_standsHere_1 : decode cX6_standsHere 1 = .ok (.getfield 28, 3) := by decide +kernel
theorem dX6_standsHere_4 : decode cX6_standsHere 4 = .ok (.aload_n 0, 1) := by decide +kernel
theorem dX6_standsHere_5 : decode cX6_standsHere 5 = .ok (.getfield 24, 3) := by decide +kernel
theorem dX6_standsHere_8 : decode cX6_standsHere 8 = .ok (.if_icmp .ge 20, 3) := by decide +kernel
theorem dX6_standsHere_11 : decode cX6_standsHere 11 = .ok (.aload_n 0, 1) := by decide +kernel
theorem dX6_standsHere_12 : decode cX6_standsHere 12 = .ok (.getfield 9, 3) := by decide +kernel
theorem dX6_standsHere_15 : decode cX6_standsHere 15 = .ok (.aload_n 0, 1) := by decide +kernel
theorem dX6_standsHere_16 : decode cX6_standsHere 16 = .ok (.getfield 28, 3) := by decide +kernel
theorem dX6_standsHere_19 : decode cX6_standsHere 19 = .ok (.iaload, 1) := by decide +kernel
theorem dX6_standsHere_20 : decode cX6_standsHere 20 = .ok (.iload_n 1, 1) := by decide +kernel
theorem dX6_standsHere_21 : decode cX6_standsHere 21 = .ok (.if_icmp .ne 7, 3) := by decide +kernel
theorem dX6_standsHere_24 : decode cX6_standsHere 24 = .ok (.iconst 1, 1) := by decide +kernel
theorem dX6_standsHere_25 : decode cX6_standsHere 25 = .ok (.goto 4, 3) := by decide +kernel
theorem dX6_standsHere_28 : decode cX6_standsHere 28 = .ok (.iconst 0, 1) := by decide +kernel
theorem dX6_standsHere_29 : decode cX6_standsHere 29 = .ok (.ireturn, 1) := by decide +kernel
abbrev mX6_standsHere : MD := (cX6_standsHere, "BlottedDeed$Scribe", 2, 1, 30, (some .boolean), "standsHere", [])
def bX6_standsHere_0 (g : GE) (J : Nat → KT) : KT := i_aload 0 (i_getf 6 2 (i_aload 0 (i_getf 6 1 (i_icge (i_jmp [false, false] (J 1)) (i_aload 0 (i_getf 6 0 (i_aload 0 (i_getf 6 2 (i_iaload (i_iload 1 (i_icne (i_jmp [false, false] (J 1)) (i_push (.int 1) (i_jmp [false, false] (J 2))))))))))))))
def bX6_standsHere_1 (g : GE) (J : Nat → KT) : KT := i_push (.int 0) (i_jmp [false, false] (J 2))
def bX6_standsHere_2 (g : GE) (J : Nat → KT) : KT := i_zreturn
theorem sbX6_standsHere_0 (g : GE) (J : Nat → KT) (h1 : Snd mX6_standsHere g 28 (J 1)) (h2 : Snd mX6_standsHere g 29 (J 2)) : Snd mX6_standsHere g 0 (bX6_standsHere_0 g J) := by
  unfold bX6_standsHere_0
  refine s_aload_n (pc := 0) (i := 0) ?_ dX6_standsHere_0 rfl
  refine s_getf (pc := 1) (ci := 6) (f := 2) (T := TX6) ?_ ginX6 rfl (by decide) wt_197 dX6_standsHere_1
  refine s_aload_n (pc := 4) (i := 0) ?_ dX6_standsHere_4 rfl
  refine s_getf (pc := 5) (ci := 6) (f := 1) (T := TX6) ?_ ginX6 rfl (by decide) wt_196 dX6_standsHere_5
  refine s_icge (pc := 8) (tgt := 28) ?_ ?_ dX6_standsHere_8 (by decide)
  · skip
    exact s_fall (pc := 28) h1
  · skip
    refine s_aload_n (pc := 11) (i := 0) ?_ dX6_standsHere_11 rfl
    refine s_getf (pc := 12) (ci := 6) (f := 0) (T := TX6) ?_ ginX6 rfl (by decide) wt_195 dX6_standsHere_12
    refine s_aload_n (pc := 15) (i := 0) ?_ dX6_standsHere_15 rfl
    refine s_getf (pc := 16) (ci := 6) (f := 2) (T := TX6) ?_ ginX6 rfl (by decide) wt_197 dX6_standsHere_16
    refine s_iaload (pc := 19) ?_ dX6_standsHere_19
    refine s_iload_n (pc := 20) (i := 1) ?_ dX6_standsHere_20 rfl
    refine s_icne (pc := 21) (tgt := 28) ?_ ?_ dX6_standsHere_21 (by decide)
    · skip
      exact s_fall (pc := 28) h1
    · skip
      refine s_iconst (pc := 24) (v := 1) ?_ dX6_standsHere_24 (by decide)
      exact s_goto (pc := 25) (tgt := 29) h2 dX6_standsHere_25 (by decide)
theorem sbX6_standsHere_1 (g : GE) (J : Nat → KT) (h1 : Snd mX6_standsHere g 28 (J 1)) (h2 : Snd mX6_standsHere g 29 (J 2)) : Snd mX6_standsHere g 28 (bX6_standsHere_1 g J) := by
  unfold bX6_standsHere_1
  refine s_iconst (pc := 28) (v := 0) ?_ dX6_standsHere_28 (by decide)
  exact s_fall (pc := 29) h2
theorem sbX6_standsHere_2 (g : GE) (J : Nat → KT) (h1 : Snd mX6_standsHere g 28 (J 1)) (h2 : Snd mX6_standsHere g 29 (J 2)) : Snd mX6_standsHere g 29 (bX6_standsHere_2 g J) := by
  unfold bX6_standsHere_2
  exact s_zreturn (pc := 29) rfl dX6_standsHere_29
def jX6_standsHere (g : GE) : Nat → Nat → KT
  | 0, _ => fun _ _ _ => none
  | n + 1, 0 => bX6_standsHere_0 g (jX6_standsHere g n)
  | n + 1, 1 => bX6_standsHere_1 g (jX6_standsHere g n)
  | n + 1, 2 => bX6_standsHere_2 g (jX6_standsHere g n)
  | _ + 1, _ + 3 => fun _ _ _ => none
theorem sjX6_standsHere (g : GE) : ∀ n, Snd mX6_standsHere g 0 (jX6_standsHere g n 0) ∧ Snd mX6_standsHere g 28 (jX6_standsHere g n 1) ∧ Snd mX6_standsHere g 29 (jX6_standsHere g n 2)
  | 0 => ⟨s_none, s_none, s_none⟩
  | n + 1 => by
    obtain ⟨-, h1, h2⟩ := sjX6_standsHere g n
    exact ⟨sbX6_standsHere_0 g _ h1 h2, sbX6_standsHere_1 g _ h1 h2, sbX6_standsHere_2 g _ h1 h2⟩
def kX6_standsHere (g : GE) : KT := jX6_standsHere g g.1 0
theorem sX6_standsHere (g : GE) : Snd mX6_standsHere g 0 (kX6_standsHere g) := (sjX6_standsHere g g.1).1
def fX6_standsHere : FT := fun g av w => if (ent av).length ≤ 2 then kX6_standsHere g [] (entp 2 av) w else none
theorem tX6_standsHere : Mt yX6_standsHere cX6_standsHere 2 (some .boolean) 1 30 fX6_standsHere := Mt.of (K := kX6_standsHere) (by decide +kernel) (fun _ _ _ => rfl) sX6_standsHere
theorem crX6_standsHere : yX6_standsHere.cls ≠ "java/lang/invoke/MethodHandle" ∧ yX6_standsHere.cls ≠ "java/lang/invoke/VarHandle" ∧ (parseMethodDescriptor yX6_standsHere.desc).map (fun d => d.parameters.length) = some 1 := by decide +kernel
theorem dX2_addPlace_0 : decode cX2_addPlace 0 = .ok (.aload_n 0, 1) := by decide +kernel
theorem dX2_addPlace_1 : decode cX2_addPlace 1 = .ok (.getfield 61, 3) := by decide +kernel
theorem dX2_addPlace_4 : decode cX2_addPlace 4 = .ok (.aload_n 0, 1) := by decide +kernel
theorem dX2_addPlace_5 : decode cX2_addPlace 5 = .ok (.getfield 34, 3) := by decide +kernel
theorem dX2_addPlace_8 : decode cX2_addPlace 8 = .ok (.arraylength, 1) := by decide +kernel
theorem dX2_addPlace_9 : decode cX2_addPlace 9 = .ok (.if_icmp .ge 33, 3) := by decide +kernel
theorem dX2_addPlace_12 : decode cX2_addPlace 12 = .ok (.aload_n 0, 1) := by decide +kernel
theorem dX2_addPlace_13 : decode cX2_addPlace 13 = .ok (.getfield 34, 3) := by decide +kernel
theorem dX2_addPlace_16 : decode cX2_addPlace 16 = .ok (.aload_n 0, 1) := by decide +kernel
theorem dX2_addPlace_17 : decode cX2_addPlace 17 = .ok (.getfield 61, 3) := by decide +kernel
theorem dX2_addPlace_20 : decode cX2_addPlace 20 = .ok (.iload_n 1, 1) := by decide +kernel
theorem dX2_addPlace_21 : decode cX2_addPlace 21 = .ok (.iastore, 1) := by decide +kernel
theorem dX2_addPlace_22 : decode cX2_addPlace 22 = .ok (.aload_n 0, 1) := by decide +kernel
theorem dX2_addPlace_23 : decode cX2_addPlace 23 = .ok (.getfield 37, 3) := by decide +kernel
theorem dX2_addPlace_26 : decode cX2_addPlace 26 = .ok (.aload_n 0, 1) := by decide +kernel
theorem dX2_addPlace_27 : decode cX2_addPlace 27 = .ok (.getfield 61, 3) := by decide +kernel
theorem dX2_addPlace_30 : decode cX2_addPlace 30 = .ok (.iload_n 2, 1) := by decide +kernel
theorem dX2_addPlace_31 : decode cX2_addPlace 31 = .ok (.iastore, 1) := by decide +kernel
theorem dX2_addPlace_32 : decode cX2_addPlace 32 = .ok (.aload_n 0, 1) := by decide +kernel
theorem dX2_addPlace_33 : decode cX2_addPlace 33 = .ok (.dup, 1) := by decide +kernel
theorem dX2_addPlace_34 : decode cX2_addPlace 34 = .ok (.getfield 61, 3) := by decide +kernel
theorem dX2_addPlace_37 : decode cX2_addPlace 37 = .ok (.iconst 1, 1) := by decide +kernel
theorem dX2_addPlace_38 : decode cX2_addPlace 38 = .ok (.iadd, 1) := by decide +kernel
theorem dX2_addPlace_39 : decode cX2_addPlace 39 = .ok (.putfield 61, 3) := by decide +kernel
theorem dX2_addPlace_42 : decode cX2_addPlace 42 = .ok (.return_, 1) := by decide +kernel
abbrev mX2_addPlace : MD := (cX2_addPlace, "BlottedDeed$Deed", 3, 1, 30, none, "addPlace", [])
def bX2_addPlace_0 (g : GE) (J : Nat → KT) : KT := i_aload 0 (i_getf 2 12 (i_aload 0 (i_getf 2 6 (i_alen 0 (i_icge (i_jmp [false, false, false] (J 1)) (i_aload 0 (i_getf 2 6 (i_aload 0 (i_getf 2 12 (i_iload 1 (i_iastore (i_aload 0 (i_getf 2 7 (i_aload 0 (i_getf 2 12 (i_iload 2 (i_iastore (i_aload 0 (i_dup (i_getf 2 12 (i_push (.int 1) (i_iadd (i_putf 2 12 .int (i_jmp [false, false, false] (J 1)))))))))))))))))))))))))
def bX2_addPlace_1 (g : GE) (J : Nat → KT) : KT := i_return
theorem sbX2_addPlace_0 (g : GE) (J : Nat → KT) (h1 : Snd mX2_addPlace g 42 (J 1)) : Snd mX2_addPlace g 0 (bX2_addPlace_0 g J) := by
  unfold bX2_addPlace_0
  refine s_aload_n (pc := 0) (i := 0) ?_ dX2_addPlace_0 rfl
  refine s_getf (pc := 1) (ci := 2) (f := 12) (T := TX2) ?_ ginX2 rfl (by decide) wt_140 dX2_addPlace_1
  refine s_aload_n (pc := 4) (i := 0) ?_ dX2_addPlace_4 rfl
  refine s_getf (pc := 5) (ci := 2) (f := 6) (T := TX2) ?_ ginX2 rfl (by decide) wt_120 dX2_addPlace_5
  refine s_alen (pc := 8) (t := 0) ?_ (by decide) dX2_addPlace_8
  refine s_icge (pc := 9) (tgt := 42) ?_ ?_ dX2_addPlace_9 (by decide)
  · skip
    exact s_fall (pc := 42) h1
  · skip
    refine s_aload_n (pc := 12) (i := 0) ?_ dX2_addPlace_12 rfl
    refine s_getf (pc := 13) (ci := 2) (f := 6) (T := TX2) ?_ ginX2 rfl (by decide) wt_120 dX2_addPlace_13
    refine s_aload_n (pc := 16) (i := 0) ?_ dX2_addPlace_16 rfl
    refine s_getf (pc := 17) (ci := 2) (f := 12) (T := TX2) ?_ ginX2 rfl (by decide) wt_140 dX2_addPlace_17
    refine s_iload_n (pc := 20) (i := 1) ?_ dX2_addPlace_20 rfl
    refine s_iastore (pc := 21) ?_ dX2_addPlace_21
    refine s_aload_n (pc := 22) (i := 0) ?_ dX2_addPlace_22 rfl
    refine s_getf (pc := 23) (ci := 2) (f := 7) (T := TX2) ?_ ginX2 rfl (by decide) wt_122 dX2_addPlace_23
    refine s_aload_n (pc := 26) (i := 0) ?_ dX2_addPlace_26 rfl
    refine s_getf (pc := 27) (ci := 2) (f := 12) (T := TX2) ?_ ginX2 rfl (by decide) wt_140 dX2_addPlace_27
    refine s_iload_n (pc := 30) (i := 2) ?_ dX2_addPlace_30 rfl
    refine s_iastore (pc := 31) ?_ dX2_addPlace_31
    refine s_aload_n (pc := 32) (i := 0) ?_ dX2_addPlace_32 rfl
    refine s_dup (pc := 33) ?_ dX2_addPlace_33
    refine s_getf (pc := 34) (ci := 2) (f := 12) (T := TX2) ?_ ginX2 rfl (by decide) wt_140 dX2_addPlace_34
    refine s_iconst (pc := 37) (v := 1) ?_ dX2_addPlace_37 (by decide)
    refine s_iadd (pc := 38) ?_ dX2_addPlace_38
    refine s_putf (pc := 39) (ci := 2) (f := 12) (T := TX2) (ty0 := tyX2) ?_ ginX2 tyX2_ok nmX2 rfl (by decide) rfl rfl wt_140 dX2_addPlace_39
    exact s_fall (pc := 42) h1
theorem sbX2_addPlace_1 (g : GE) (J : Nat → KT) (h1 : Snd mX2_addPlace g 42 (J 1)) : Snd mX2_addPlace g 42 (bX2_addPlace_1 g J) := by
  unfold bX2_addPlace_1
  exact s_return (pc := 42) rfl dX2_addPlace_42
def jX2_addPlace (g : GE) : Nat → Nat → KT
  | 0, _ => fun _ _ _ => none
  | n + 1, 0 => bX2_addPlace_0 g (jX2_addPlace g n)
  | n + 1, 1 => bX2_addPlace_1 g (jX2_addPlace g n)
  | _ + 1, _ + 2 => fun _ _ _ => none
theorem sjX2_addPlace (g : GE) : ∀ n, Snd mX2_addPlace g 0 (jX2_addPlace g n 0) ∧ Snd mX2_addPlace g 42 (jX2_addPlace g n 1)
  | 0 => ⟨s_none, s_none⟩
  | n + 1 => by
    obtain ⟨-, h1⟩ := sjX2_addPlace g n
    exact ⟨sbX2_addPlace_0 g _ h1, sbX2_addPlace_1 g _ h1⟩
def kX2_addPlace (g : GE) : KT := jX2_addPlace g g.1 0
theorem sX2_addPlace (g : GE) : Snd mX2_addPlace g 0 (kX2_addPlace g) := (sjX2_addPlace g g.1).1
def fX2_addPlace : FT := fun g av w => if (ent av).length ≤ 3 then kX2_addPlace g [] (entp 3 av) w else none
theorem tX2_addPlace : Mt yX2_addPlace cX2_addPlace 3 none 1 30 fX2_addPlace := Mt.of (K := kX2_addPlace) (by decide +kernel) (fun _ _ _ => rfl) sX2_addPlace
theorem crX2_addPlace : yX2_addPlace.cls ≠ "java/lang/invoke/MethodHandle" ∧ yX2_addPlace.cls ≠ "java/lang/invoke/VarHandle" ∧ (parseMethodDescriptor yX2_addPlace.desc).map (fun d => d.parameters.length) = some 2 := by decide +kernel
theorem dX2_keepBlot_0 : decode cX2_keepBlot 0 = .ok (.aload_n 0, 1) := by decide +kernel
theorem dX2_keepBlot_1 : decode cX2_keepBlot 1 = .ok (.getfield 64, 3) := by decide +kernel
theorem dX2_keepBlot_4 : decode cX2_keepBlot 4 = .ok (.bipush 8, 2) := by decide +kernel
theorem dX2_keepBlot_6 : decode cX2_keepBlot 6 = .ok (.if_icmp .ge 18, 3) := by decide +kernel
theorem dX2_keepBlot_9 : decode cX2_keepBlot 9 = .ok (.aload_n 0, 1) := by decide +kernel
theorem dX2_keepBlot_10 : decode cX2_keepBlot 10 = .ok (.getfield 42, 3) := by decide +kernel
theorem dX2_keepBlot_13 : decode cX2_keepBlot 13 = .ok (.aload_n 0, 1) := by decide +kernel
theorem dX2_keepBlot_14 : decode cX2_keepBlot 14 = .ok (.getfield 64, 3) := by decide +kernel
theorem dX2_keepBlot_17 : decode cX2_keepBlot 17 = .ok (.aaload, 1) := by decide +kernel
theorem dX2_keepBlot_18 : decode cX2_keepBlot 18 = .ok (.getfield 98, 3) := by decide +kernel
theorem dX2_keepBlot_21 : decode cX2_keepBlot 21 = .ok (.ifCond .ne 5, 3) := by decide +kernel
theorem dX2_keepBlot_24 : decode cX2_keepBlot 24 = .ok (.iconst 0, 1) := by decide +kernel
theorem dX2_keepBlot_25 : decode cX2_keepBlot 25 = .ok (.ireturn, 1) := by decide +kernel
theorem dX2_keepBlot_26 : decode cX2_keepBlot 26 = .ok (.aload_n 0, 1) := by decide +kernel
theorem dX2_keepBlot_27 : decode cX2_keepBlot 27 = .ok (.getfield 42, 3) := by decide +kernel
theorem dX2_keepBlot_30 : decode cX2_keepBlot 30 = .ok (.aload_n 0, 1) := by decide +kernel
theorem dX2_keepBlot_31 : decode cX2_keepBlot 31 = .ok (.getfield 64, 3) := by decide +kernel
theorem dX2_keepBlot_34 : decode cX2_keepBlot 34 = .ok (.aaload, 1) := by decide +kernel
theorem dX2_keepBlot_35 : decode cX2_keepBlot 35 = .ok (.astore_n 1, 1) := by decide +kernel
theorem dX2_keepBlot_36 : decode cX2_keepBlot 36 = .ok (.aload_n 1, 1) := by decide +kernel
theorem dX2_keepBlot_37 : decode cX2_keepBlot 37 = .ok (.aload_n 0, 1) := by decide +kernel
theorem dX2_keepBlot_38 : decode cX2_keepBlot 38 = .ok (.getfield 58, 3) := by decide +kernel
theorem dX2_keepBlot_41 : decode cX2_keepBlot 41 = .ok (.iconst 1, 1) := by decide +kernel
theorem dX2_keepBlot_42 : decode cX2_keepBlot 42 = .ok (.isub, 1) := by decide +kernel
theorem dX2_keepBlot_43 : decode cX2_keepBlot 43 = .ok (.putfield 105, 3) := by decide +kernel
theorem dX2_keepBlot_46 : decode cX2_keepBlot 46 = .ok (.aload_n 1, 1) := by decide +kernel
theorem dX2_keepBlot_47 : decode cX2_keepBlot 47 = .ok (.aload_n 0, 1) := by decide +kernel
theorem dX2_keepBlot_48 : decode cX2_keepBlot 48 = .ok (.getfield 61, 3) := by decide +kernel
theorem dX2_keepBlot_51 : decode cX2_keepBlot 51 = .ok (.putfield 108, 3) := by decide +kernel
theorem dX2_keepBlot_54 : decode cX2_keepBlot 54 = .ok (.aload_n 0, 1) := by decide +kernel
theorem dX2_keepBlot_55 : decode cX2_keepBlot 55 = .ok (.dup, 1) := by decide +kernel
theorem dX2_keepBlot_56 : decode cX2_keepBlot 56 = .ok (.getfield 64, 3) := by decide +kernel
theorem dX2_keepBlot_59 : decode cX2_keepBlot 59 = .ok (.iconst 1, 1) := by decide +kernel
theorem dX2_keepBlot_60 : decode cX2_keepBlot 60 = .ok (.iadd, 1) := by decide +kernel
theorem dX2_keepBlot_61 : decode cX2_keepBlot 61 = .ok (.putfield 64, 3) := by decide +kernel
theorem dX2_keepBlot_64 : decode cX2_keepBlot 64 = .ok (.aload_n 0, 1) := by decide +kernel
theorem dX2_keepBlot_65 : decode cX2_keepBlot 65 = .ok (.aload_n 1, 1) := by decide +kernel
theorem dX2_keepBlot_66 : decode cX2_keepBlot 66 = .ok (.getfield 92, 3) := by decide +kernel
theorem dX2_keepBlot_69 : decode cX2_keepBlot 69 = .ok (.aload_n 1, 1) := by decide +kernel
theorem dX2_keepBlot_70 : decode cX2_keepBlot 70 = .ok (.getfield 109, 3) := by decide +kernel
theorem dX2_keepBlot_73 : decode cX2_keepBlot 73 = .ok (.iconst 0, 1) := by decide +kernel
theorem dX2_keepBlot_74 : decode cX2_keepBlot 74 = .ok (.iaload, 1) := by decide +kernel
theorem dX2_keepBlot_75 : decode cX2_keepBlot 75 = .ok (.invokevirtual 112, 3) := by decide +kernel
theorem dX2_keepBlot_78 : decode cX2_keepBlot 78 = .ok (.iconst 1, 1) := by decide +kernel
theorem dX2_keepBlot_79 : decode cX2_keepBlot 79 = .ok (.ireturn, 1) := by decide +kernel
abbrev mX2_keepBlot : MD := (cX2_keepBlot, "BlottedDeed$Deed", 2, 2, 52, (some .boolean), "keepBlot", [])
def bX2_keepBlot_0 (g : GE) (J : Nat → KT) : KT := i_aload 0 (i_getf 2 13 (i_push (.int 8) (i_icge (i_jmp [false, false] (J 1)) (i_aload 0 (i_getf 2 8 (i_aload 0 (i_getf 2 13 (i_aaload 6 (i_getf 1 1 (i_ifne (i_aload 0 (i_getf 2 8 (i_aload 0 (i_getf 2 13 (i_aaload 6 (i_astore 1 (i_aload 1 (i_aload 0 (i_getf 2 11 (i_push (.int 1) (i_isub (i_putf 1 4 .int (i_aload 1 (i_aload 0 (i_getf 2 12 (i_putf 1 5 .int (i_aload 0 (i_dup (i_getf 2 13 (i_push (.int 1) (i_iadd (i_putf 2 13 .int (i_aload 0 (i_aload 1 (i_getf 1 2 (i_aload 1 (i_getf 1 0 (i_push (.int 0) (i_iaload (i_cv fX2_addPlace g 2 2 (i_push (.int 1) (i_zreturn)))))))))))))))))))))))))))))))) (i_jmp [false, false] (J 1))))))))))))
def bX2_keepBlot_1 (g : GE) (J : Nat → KT) : KT := i_push (.int 0) (i_zreturn)
theorem sbX2_keepBlot_0 (g : GE) (J : Nat → KT) (h1 : Snd mX2_keepBlot g 24 (J 1)) : Snd mX2_keepBlot g 0 (bX2_keepBlot_0 g J) := by
  unfold bX2_keepBlot_0
  refine s_aload_n (pc := 0) (i := 0) ?_ dX2_keepBlot_0 rfl
  refine s_getf (pc := 1) (ci := 2) (f := 13) (T := TX2) ?_ ginX2 rfl (by decide) wt_143 dX2_keepBlot_1
  refine s_bipush (pc := 4) (v := 8) ?_ dX2_keepBlot_4 (by decide)
  refine s_icge (pc := 6) (tgt := 24) ?_ ?_ dX2_keepBlot_6 (by decide)
  · skip
    exact s_fall (pc := 24) h1
  · skip
    refine s_aload_n (pc := 9) (i := 0) ?_ dX2_keepBlot_9 rfl
    refine s_getf (pc := 10) (ci := 2) (f := 8) (T := TX2) ?_ ginX2 rfl (by decide) wt_124 dX2_keepBlot_10
    refine s_aload_n (pc := 13) (i := 0) ?_ dX2_keepBlot_13 rfl
    refine s_getf (pc := 14) (ci := 2) (f := 13) (T := TX2) ?_ ginX2 rfl (by decide) wt_143 dX2_keepBlot_14
    refine s_aaload (pc := 17) (t := 6) ?_ (by decide) rfl dX2_keepBlot_17
    refine s_getf (pc := 18) (ci := 1) (f := 1) (T := TX1) ?_ ginX1 rfl (by decide) wt_86 dX2_keepBlot_18
    refine s_ifne (pc := 21) (tgt := 26) ?_ ?_ dX2_keepBlot_21 (by decide)
    · skip
      refine s_aload_n (pc := 26) (i := 0) ?_ dX2_keepBlot_26 rfl
      refine s_getf (pc := 27) (ci := 2) (f := 8) (T := TX2) ?_ ginX2 rfl (by decide) wt_124 dX2_keepBlot_27
      refine s_aload_n (pc := 30) (i := 0) ?_ dX2_keepBlot_30 rfl
      refine s_getf (pc := 31) (ci := 2) (f := 13) (T := TX2) ?_ ginX2 rfl (by decide) wt_143 dX2_keepBlot_31
      refine s_aaload (pc := 34) (t := 6) ?_ (by decide) rfl dX2_keepBlot_34
      refine s_astore_n (pc := 35) (i := 1) ?_ dX2_keepBlot_35 rfl (by decide)
      refine s_aload_n (pc := 36) (i := 1) ?_ dX2_keepBlot_36 rfl
      refine s_aload_n (pc := 37) (i := 0) ?_ dX2_keepBlot_37 rfl
      refine s_getf (pc := 38) (ci := 2) (f := 11) (T := TX2) ?_ ginX2 rfl (by decide) wt_136 dX2_keepBlot_38
      refine s_iconst (pc := 41) (v := 1) ?_ dX2_keepBlot_41 (by decide)
      refine s_isub (pc := 42) ?_ dX2_keepBlot_42
      refine s_putf (pc := 43) (ci := 1) (f := 4) (T := TX1) (ty0 := tyX1) ?_ ginX1 tyX1_ok nmX1 rfl (by decide) rfl rfl wt_94 dX2_keepBlot_43
      refine s_aload_n (pc := 46) (i := 1) ?_ dX2_keepBlot_46 rfl
      refine s_aload_n (pc := 47) (i := 0) ?_ dX2_keepBlot_47 rfl
      refine s_getf (pc := 48) (ci := 2) (f := 12) (T := TX2) ?_ ginX2 rfl (by decide) wt_140 dX2_keepBlot_48
      refine s_putf (pc := 51) (ci := 1) (f := 5) (T := TX1) (ty0 := tyX1) ?_ ginX1 tyX1_ok nmX1 rfl (by decide) rfl rfl wt_96 dX2_keepBlot_51
      refine s_aload_n (pc := 54) (i := 0) ?_ dX2_keepBlot_54 rfl
      refine s_dup (pc := 55) ?_ dX2_keepBlot_55
      refine s_getf (pc := 56) (ci := 2) (f := 13) (T := TX2) ?_ ginX2 rfl (by decide) wt_143 dX2_keepBlot_56
      refine s_iconst (pc := 59) (v := 1) ?_ dX2_keepBlot_59 (by decide)
      refine s_iadd (pc := 60) ?_ dX2_keepBlot_60
      refine s_putf (pc := 61) (ci := 2) (f := 13) (T := TX2) (ty0 := tyX2) ?_ ginX2 tyX2_ok nmX2 rfl (by decide) rfl rfl wt_143 dX2_keepBlot_61
      refine s_aload_n (pc := 64) (i := 0) ?_ dX2_keepBlot_64 rfl
      refine s_aload_n (pc := 65) (i := 1) ?_ dX2_keepBlot_65 rfl
      refine s_getf (pc := 66) (ci := 1) (f := 2) (T := TX1) ?_ ginX1 rfl (by decide) wt_90 dX2_keepBlot_66
      refine s_aload_n (pc := 69) (i := 1) ?_ dX2_keepBlot_69 rfl
      refine s_getf (pc := 70) (ci := 1) (f := 0) (T := TX1) ?_ ginX1 rfl (by decide) wt_80 dX2_keepBlot_70
      refine s_iconst (pc := 73) (v := 0) ?_ dX2_keepBlot_73 (by decide)
      refine s_iaload (pc := 74) ?_ dX2_keepBlot_74
      refine s_cv (pc := 75) (n := 2) (ci := 2) ?_ tX2_addPlace rfl rfl wt_883 wt_884 wt_885 wt_2 wt_886 ⟨crX2_addPlace, by decide, by decide⟩ dX2_keepBlot_75
      refine s_iconst (pc := 78) (v := 1) ?_ dX2_keepBlot_78 (by decide)
      exact s_zreturn (pc := 79) rfl dX2_keepBlot_79
    · skip
      exact s_fall (pc := 24) h1
theorem sbX2_keepBlot_1 (g : GE) (J : Nat → KT) (h1 : Snd mX2_keepBlot g 24 (J 1)) : Snd mX2_keepBlot g 24 (bX2_keepBlot_1 g J) := by
  unfold bX2_keepBlot_1
  refine s_iconst (pc := 24) (v := 0) ?_ dX2_keepBlot_24 (by decide)
  exact s_zreturn (pc := 25) rfl dX2_keepBlot_25
def jX2_keepBlot (g : GE) : Nat → Nat → KT
  | 0, _ => fun _ _ _ => none
  | n + 1, 0 => bX2_keepBlot_0 g (jX2_keepBlot g n)
  | n + 1, 1 => bX2_keepBlot_1 g (jX2_keepBlot g n)
  | _ + 1, _ + 2 => fun _ _ _ => none
theorem sjX2_keepBlot (g : GE) : ∀ n, Snd mX2_keepBlot g 0 (jX2_keepBlot g n 0) ∧ Snd mX2_keepBlot g 24 (jX2_keepBlot g n 1)
  | 0 => ⟨s_none, s_none⟩
  | n + 1 => by
    obtain ⟨-, h1⟩ := sjX2_keepBlot g n
    exact ⟨sbX2_keepBlot_0 g _ h1, sbX2_keepBlot_1 g _ h1⟩
def kX2_keepBlot (g : GE) : KT := jX2_keepBlot g g.1 0
theorem sX2_keepBlot (g : GE) : Snd mX2_keepBlot g 0 (kX2_keepBlot g) := (sjX2_keepBlot g g.1).1
def fX2_keepBlot : FT := fun g av w => if (ent av).length ≤ 2 then kX2_keepBlot g [] (entp 2 av) w else none
theorem tX2_keepBlot : Mt yX2_keepBlot cX2_keepBlot 2 (some .boolean) 2 52 fX2_keepBlot := Mt.of (K := kX2_keepBlot) (by decide +kernel) (fun _ _ _ => rfl) sX2_keepBlot
theorem crX2_keepBlot : yX2_keepBlot.cls ≠ "java/lang/invoke/MethodHandle" ∧ yX2_keepBlot.cls ≠ "java/lang/invoke/VarHandle" ∧ (parseMethodDescriptor yX2_keepBlot.desc).map (fun d => d.parameters.length) = some 0 := by decide +kernel
theorem dX6_readBlot_0 : decode cX6_readBlot 0 = .ok (.aload_n 0, 1) := by decide +kernel
theorem dX6_readBlot_1 : decode cX6_readBlot 1 = .ok (.getfield 15, 3) := by decide +kernel
theorem dX6_readBlot_4 : decode cX6_readBlot 4 = .ok (.getfield 158, 3) := by decide +kernel
theorem dX6_readBlot_7 : decode cX6_readBlot 7 = .ok (.bipush 8, 2) := by decide +kernel
theorem dX6_readBlot_9 : decode cX6_readBlot 9 = .ok (.if_icmp .lt 13, 3) := by decide +kernel
theorem dX6_readBlot_12 : decode cX6_readBlot 12 = .ok (.aload_n 0, 1) := by decide +kernel
theorem dX6_readBlot_13 : decode cX6_readBlot 13 = .ok (.iconst 3, 1) := by decide +kernel
theorem dX6_readBlot_14 : decode cX6_readBlot 14 = .ok (.aload_n 0, 1) := by decide +kernel
theorem dX6_readBlot_15 : decode cX6_readBlot 15 = .ok (.getfield 28, 3) := by decide +kernel
theorem dX6_readBlot_18 : decode cX6_readBlot 18 = .ok (.invokevirtual 49, 3) := by decide +kernel
theorem dX6_readBlot_21 : decode cX6_readBlot 21 = .ok (.ireturn, 1) := by decide +kernel
theorem dX6_readBlot_22 : decode cX6_readBlot 22 = .ok (.aload_n 0, 1) := by decide +kernel
theorem dX6_readBlot_23 : decode cX6_readBlot 23 = .ok (.dup, 1) := by decide +kernel
theorem dX6_readBlot_24 : decode cX6_readBlot 24 = .ok (.getfield 28, 3) := by decide +kernel
theorem dX6_readBlot_27 : decode cX6_readBlot 27 = .ok (.iconst 1, 1) := by decide +kernel
theorem dX6_readBlot_28 : decode cX6_readBlot 28 = .ok (.iadd, 1) := by decide +kernel
theorem dX6_readBlot_29 : decode cX6_readBlot 29 = .ok (.putfield 28, 3) := by decide +kernel
theorem dX6_readBlot_32 : decode cX6_readBlot 32 = .ok (.aload_n 0, 1) := by decide +kernel
theorem dX6_readBlot_33 : decode cX6_readBlot 33 = .ok (.invokevirtual 31, 3) := by decide +kernel
theorem dX6_readBlot_36 : decode cX6_readBlot 36 = .ok (.aload_n 0, 1) := by decide +kernel
theorem dX6_readBlot_37 : decode cX6_readBlot 37 = .ok (.getfield 28, 3) := by decide +kernel
theorem dX6_readBlot_40 : decode cX6_readBlot 40 = .ok (.istore_n 2, 1) := by decide +kernel
theorem dX6_readBlot_41 : decode cX6_readBlot 41 = .ok (.aload_n 0, 1) := by decide +kernel
theorem dX6_readBlot_42 : decode cX6_readBlot 42 = .ok (.bipush 9, 2) := by decide +kernel
theorem dX6_readBlot_44 : decode cX6_readBlot 44 = .ok (.invokevirtual 131, 3) := by decide +kernel
theorem dX6_readBlot_47 : decode cX6_readBlot 47 = .ok (.istore_n 3, 1) := by decide +kernel
theorem dX6_readBlot_48 : decode cX6_readBlot 48 = .ok (.iload_n 3, 1) := by decide +kernel
theorem dX6_readBlot_49 : decode cX6_readBlot 49 = .ok (.iconst (-1), 1) := by decide +kernel
theorem dX6_readBlot_50 : decode cX6_readBlot 50 = .ok (.if_icmp .ne 5, 3) := by decide +kernel
theorem dX6_readBlot_53 : decode cX6_readBlot 53 = .ok (.iconst 0, 1) := by decide +kernel
theorem dX6_readBlot_54 : decode cX6_readBlot 54 = .ok (.ireturn, 1) := by decide +kernel
theorem dX6_readBlot_55 : decode cX6_readBlot 55 = .ok (.aload_n 0, 1) := by decide +kernel
theorem dX6_readBlot_56 : decode cX6_readBlot 56 = .ok (.getfield 15, 3) := by decide +kernel
theorem dX6_readBlot_59 : decode cX6_readBlot 59 = .ok (.aload_n 0, 1) := by decide +kernel
theorem dX6_readBlot_60 : decode cX6_readBlot 60 = .ok (.getfield 15, 3) := by decide +kernel
theorem dX6_readBlot_63 : decode cX6_readBlot 63 = .ok (.getfield 161, 3) := by decide +kernel
theorem dX6_readBlot_66 : decode cX6_readBlot 66 = .ok (.aload_n 0, 1) := by decide +kernel
theorem dX6_readBlot_67 : decode cX6_readBlot 67 = .ok (.getfield 15, 3) := by decide +kernel
theorem dX6_readBlot_70 : decode cX6_readBlot 70 = .ok (.getfield 158, 3) := by decide +kernel
theorem dX6_readBlot_73 : decode cX6_readBlot 73 = .ok (.aaload, 1) := by decide +kernel
theorem dX6_readBlot_74 : decode cX6_readBlot 74 = .ok (.iload_n 1, 1) := by decide +kernel
theorem dX6_readBlot_75 : decode cX6_readBlot 75 = .ok (.iload_n 3, 1) := by decide +kernel
theorem dX6_readBlot_76 : decode cX6_readBlot 76 = .ok (.invokevirtual 165, 3) := by decide +kernel
theorem dX6_readBlot_79 : decode cX6_readBlot 79 = .ok (.aload_n 0, 1) := by decide +kernel
theorem dX6_readBlot_80 : decode cX6_readBlot 80 = .ok (.getfield 15, 3) := by decide +kernel
theorem dX6_readBlot_83 : decode cX6_readBlot 83 = .ok (.invokevirtual 169, 3) := by decide +kernel
theorem dX6_readBlot_86 : decode cX6_readBlot 86 = .ok (.ifCond .ne 12, 3) := by decide +kernel
theorem dX6_readBlot_89 : decode cX6_readBlot 89 = .ok (.aload_n 0, 1) := by decide +kernel
theorem dX6_readBlot_90 : decode cX6_readBlot 90 = .ok (.iconst 2, 1) := by decide +kernel
theorem dX6_readBlot_91 : decode cX6_readBlot 91 = .ok (.iload_n 2, 1) := by decide +kernel
theorem dX6_readBlot_92 : decode cX6_readBlot 92 = .ok (.invokevirtual 49, 3) := by decide +kernel
theorem dX6_readBlot_95 : decode cX6_readBlot 95 = .ok (.ifCond .eq 7, 3) := by decide +kernel
theorem dX6_readBlot_98 : decode cX6_readBlot 98 = .ok (.iconst 1, 1) := by decide +kernel
theorem dX6_readBlot_99 : decode cX6_readBlot 99 = .ok (.goto 4, 3) := by decide +kernel
theorem dX6_readBlot_102 : decode cX6_readBlot 102 = .ok (.iconst 0, 1) := by decide +kernel
theorem dX6_readBlot_103 : decode cX6_readBlot 103 = .ok (.ireturn, 1) := by decide +kernel
abbrev mX6_readBlot : MD := (cX6_readBlot, "BlottedDeed$Scribe", 4, 3, 77, (some .boolean), "readBlot", [])
def bX6_readBlot_0 (g : GE) (J : Nat → KT) : KT := i_aload 0 (i_getf 6 5 (i_getf 2 13 (i_push (.int 8) (i_iclt (i_aload 0 (i_dup (i_getf 6 2 (i_push (.int 1) (i_iadd (i_putf 6 2 .int (i_aload 0 (i_cv fX6_skipBlanks g 0 6 (i_aload 0 (i_getf 6 2 (i_istore 2 (i_aload 0 (i_push (.int 9) (i_cv fX6_readNumber g 1 6 (i_istore 3 (i_iload 3 (i_push (.int (-1)) (i_icne (i_aload 0 (i_getf 6 5 (i_aload 0 (i_getf 6 5 (i_getf 2 8 (i_aload 0 (i_getf 6 5 (i_getf 2 13 (i_aaload 6 (i_iload 1 (i_iload 3 (i_cv fX2_fill g 3 2 (i_aload 0 (i_getf 6 5 (i_cv fX2_keepBlot g 0 2 (i_ifne (i_jmp [false, false, false, false] (J 1)) (i_aload 0 (i_push (.int 2) (i_iload 2 (i_cv fX6_fail g 2 6 (i_ifeq (i_push (.int 0) (i_jmp [false, false, false, false] (J 2))) (i_jmp [false, false, false, false] (J 1))))))))))))))))))))))) (i_push (.int 0) (i_zreturn)))))))))))))))))))) (i_aload 0 (i_push (.int 3) (i_aload 0 (i_getf 6 2 (i_cv fX6_fail g 2 6 (i_zreturn))))))))))
def bX6_readBlot_1 (g : GE) (J : Nat → KT) : KT := i_push (.int 1) (i_jmp [false, false, false, false] (J 2))
def bX6_readBlot_2 (g : GE) (J : Nat → KT) : KT := i_zreturn
theorem sbX6_readBlot_0 (g : GE) (J : Nat → KT) (h1 : Snd mX6_readBlot g 98 (J 1)) (h2 : Snd mX6_readBlot g 103 (J 2)) : Snd mX6_readBlot g 0 (bX6_readBlot_0 g J) := by
  unfold bX6_readBlot_0
  refine s_aload_n (pc := 0) (i := 0) ?_ dX6_readBlot_0 rfl
  refine s_getf (pc := 1) (ci := 6) (f := 5) (T := TX6) ?_ ginX6 rfl (by decide) wt_200 dX6_readBlot_1
  refine s_getf (pc := 4) (ci := 2) (f := 13) (T := TX2) ?_ ginX2 rfl (by decide) wt_147 dX6_readBlot_4
  refine s_bipush (pc := 7) (v := 8) ?_ dX6_readBlot_7 (by decide)
  refine s_iclt (pc := 9) (tgt := 22) ?_ ?_ dX6_readBlot_9 (by decide)
  · skip
    refine s_aload_n (pc := 22) (i := 0) ?_ dX6_readBlot_22 rfl
    refine s_dup (pc := 23) ?_ dX6_readBlot_23
    refine s_getf (pc := 24) (ci := 6) (f := 2) (T := TX6) ?_ ginX6 rfl (by decide) wt_197 dX6_readBlot_24
    refine s_iconst (pc := 27) (v := 1) ?_ dX6_readBlot_27 (by decide)
    refine s_iadd (pc := 28) ?_ dX6_readBlot_28
    refine s_putf (pc := 29) (ci := 6) (f := 2) (T := TX6) (ty0 := tyX6) ?_ ginX6 tyX6_ok nmX6 rfl (by decide) rfl rfl wt_197 dX6_readBlot_29
    refine s_aload_n (pc := 32) (i := 0) ?_ dX6_readBlot_32 rfl
    refine s_cv (pc := 33) (n := 0) (ci := 6) ?_ tX6_skipBlanks rfl rfl wt_705 wt_707 wp_10 wt_7 wt_708 ⟨crX6_skipBlanks, by decide, by decide⟩ dX6_readBlot_33
    refine s_aload_n (pc := 36) (i := 0) ?_ dX6_readBlot_36 rfl
    refine s_getf (pc := 37) (ci := 6) (f := 2) (T := TX6) ?_ ginX6 rfl (by decide) wt_197 dX6_readBlot_37
    refine s_istore_n (pc := 40) (i := 2) ?_ dX6_readBlot_40 rfl (by decide)
    refine s_aload_n (pc := 41) (i := 0) ?_ dX6_readBlot_41 rfl
    refine s_bipush (pc := 42) (v := 9) ?_ dX6_readBlot_42 (by decide)
    refine s_cv (pc := 44) (n := 1) (ci := 6) ?_ tX6_readNumber rfl rfl wt_829 wt_831 wp_21 wt_7 wt_832 ⟨crX6_readNumber, by decide, by decide⟩ dX6_readBlot_44
    refine s_istore_n (pc := 47) (i := 3) ?_ dX6_readBlot_47 rfl (by decide)
    refine s_iload_n (pc := 48) (i := 3) ?_ dX6_readBlot_48 rfl
    refine s_iconst (pc := 49) (v := (-1)) ?_ dX6_readBlot_49 (by decide)
    refine s_icne (pc := 50) (tgt := 55) ?_ ?_ dX6_readBlot_50 (by decide)
    · skip
      refine s_aload_n (pc := 55) (i := 0) ?_ dX6_readBlot_55 rfl
      refine s_getf (pc := 56) (ci := 6) (f := 5) (T := TX6) ?_ ginX6 rfl (by decide) wt_200 dX6_readBlot_56
      refine s_aload_n (pc := 59) (i := 0) ?_ dX6_readBlot_59 rfl
      refine s_getf (pc := 60) (ci := 6) (f := 5) (T := TX6) ?_ ginX6 rfl (by decide) wt_200 dX6_readBlot_60
      refine s_getf (pc := 63) (ci := 2) (f := 8) (T := TX2) ?_ ginX2 rfl (by decide) wt_128 dX6_readBlot_63
      refine s_aload_n (pc := 66) (i := 0) ?_ dX6_readBlot_66 rfl
      refine s_getf (pc := 67) (ci := 6) (f := 5) (T := TX6) ?_ ginX6 rfl (by decide) wt_200 dX6_readBlot_67
      refine s_getf (pc := 70) (ci := 2) (f := 13) (T := TX2) ?_ ginX2 rfl (by decide) wt_147 dX6_readBlot_70
      refine s_aaload (pc := 73) (t := 6) ?_ (by decide) rfl dX6_readBlot_73
      refine s_iload_n (pc := 74) (i := 1) ?_ dX6_readBlot_74 rfl
      refine s_iload_n (pc := 75) (i := 3) ?_ dX6_readBlot_75 rfl
      refine s_cv (pc := 76) (n := 3) (ci := 2) ?_ tX2_fill rfl rfl wt_871 wt_872 wt_873 wt_2 wt_874 ⟨crX2_fill, by decide, by decide⟩ dX6_readBlot_76
      refine s_aload_n (pc := 79) (i := 0) ?_ dX6_readBlot_79 rfl
      refine s_getf (pc := 80) (ci := 6) (f := 5) (T := TX6) ?_ ginX6 rfl (by decide) wt_200 dX6_readBlot_80
      refine s_cv (pc := 83) (n := 0) (ci := 2) ?_ tX2_keepBlot rfl rfl wt_879 wt_880 wt_881 wt_2 wt_882 ⟨crX2_keepBlot, by decide, by decide⟩ dX6_readBlot_83
      refine s_ifne (pc := 86) (tgt := 98) ?_ ?_ dX6_readBlot_86 (by decide)
      · skip
        exact s_fall (pc := 98) h1
      · skip
        refine s_aload_n (pc := 89) (i := 0) ?_ dX6_readBlot_89 rfl
        refine s_iconst (pc := 90) (v := 2) ?_ dX6_readBlot_90 (by decide)
        refine s_iload_n (pc := 91) (i := 2) ?_ dX6_readBlot_91 rfl
        refine s_cv (pc := 92) (n := 2) (ci := 6) ?_ tX6_fail rfl rfl wt_718 wt_720 wp_13 wt_7 wt_721 ⟨crX6_fail, by decide, by decide⟩ dX6_readBlot_92
        refine s_ifeq (pc := 95) (tgt := 102) ?_ ?_ dX6_readBlot_95 (by decide)
        · skip
          refine s_iconst (pc := 102) (v := 0) ?_ dX6_readBlot_102 (by decide)
          exact s_fall (pc := 103) h2
        · skip
          exact s_fall (pc := 98) h1
    · skip
      refine s_iconst (pc := 53) (v := 0) ?_ dX6_readBlot_53 (by decide)
      exact s_zreturn (pc := 54) rfl dX6_readBlot_54
  · skip
    refine s_aload_n (pc := 12) (i := 0) ?_ dX6_readBlot_12 rfl
    refine s_iconst (pc := 13) (v := 3) ?_ dX6_readBlot_13 (by decide)
    refine s_aload_n (pc := 14) (i := 0) ?_ dX6_readBlot_14 rfl
    refine s_getf (pc := 15) (ci := 6) (f := 2) (T := TX6) ?_ ginX6 rfl (by decide) wt_197 dX6_readBlot_15
    refine s_cv (pc := 18) (n := 2) (ci := 6) ?_ tX6_fail rfl rfl wt_718 wt_720 wp_13 wt_7 wt_721 ⟨crX6_fail, by decide, by decide⟩ dX6_readBlot_18
    exact s_zreturn (pc := 21) rfl dX6_readBlot_21
theorem sbX6_readBlot_1 (g : GE) (J : Nat → KT) (h1 : Snd mX6_readBlot g 98 (J 1)) (h2 : Snd mX6_readBlot g 103 (J 2)) : Snd mX6_readBlot g 98 (bX6_readBlot_1 g J) := by
  unfold bX6_readBlot_1
  refine s_iconst (pc := 98) (v := 1) ?_ dX6_readBlot_98 (by decide)
  exact s_goto (pc := 99) (tgt := 103) h2 dX6_readBlot_99 (by decide)
theorem sbX6_readBlot_2 (g : GE) (J : Nat → KT) (h1 : Snd mX6_readBlot g 98 (J 1)) (h2 : Snd mX6_readBlot g 103 (J 2)) : Snd mX6_readBlot g 103 (bX6_readBlot_2 g J) := by
  unfold bX6_readBlot_2
  exact s_zreturn (pc := 103) rfl dX6_readBlot_103
def jX6_readBlot (g : GE) : Nat → Nat → KT
  | 0, _ => fun _ _ _ => none
  | n + 1, 0 => bX6_readBlot_0 g (jX6_readBlot g n)
  | n + 1, 1 => bX6_readBlot_1 g (jX6_readBlot g n)
  | n + 1, 2 => bX6_readBlot_2 g (jX6_readBlot g n)
  | _ + 1, _ + 3 => fun _ _ _ => none
theorem sjX6_readBlot (g : GE) : ∀ n, Snd mX6_readBlot g 0 (jX6_readBlot g n 0) ∧ Snd mX6_readBlot g 98 (jX6_readBlot g n 1) ∧ Snd mX6_readBlot g 103 (jX6_readBlot g n 2)
  | 0 => ⟨s_none, s_none, s_none⟩
  | n + 1 => by
    obtain ⟨-, h1, h2⟩ := sjX6_readBlot g n
    exact ⟨sbX6_readBlot_0 g _ h1 h2, sbX6_readBlot_1 g _ h1 h2, sbX6_readBlot_2 g _ h1 h2⟩
def kX6_readBlot (g : GE) : KT := jX6_readBlot g g.1 0
theorem sX6_readBlot (g : GE) : Snd mX6_readBlot g 0 (kX6_readBlot g) := (sjX6_readBlot g g.1).1
def fX6_readBlot : FT := fun g av w => if (ent av).length ≤ 4 then kX6_readBlot g [] (entp 4 av) w else none
theorem tX6_readBlot : Mt yX6_readBlot cX6_readBlot 4 (some .boolean) 3 77 fX6_readBlot := Mt.of (K := kX6_readBlot) (by decide +kernel) (fun _ _ _ => rfl) sX6_readBlot
theorem crX6_readBlot : yX6_readBlot.cls ≠ "java/lang/invoke/MethodHandle" ∧ yX6_readBlot.cls ≠ "java/lang/invoke/VarHandle" ∧ (parseMethodDescriptor yX6_readBlot.desc).map (fun d => d.parameters.length) = some 1 := by decide +kernel
theorem dX6_readIs_0 : decode cX6_readIs 0 = .ok (.aload_n 0, 1) := by decide +kernel
theorem dX6_readIs_1 : decode cX6_readIs 1 = .ok (.invokevirtual 59, 3) := by decide +kernel
theorem dX6_readIs_4 : decode cX6_readIs 4 = .ok (.ifCond .ne 5, 3) := by decide +kernel
theorem dX6_readIs_7 : decode cX6_readIs 7 = .ok (.iconst (-1), 1) := by decide +kernel
theorem dX6_readIs_8 : decode cX6_readIs 8 = .ok (.ireturn, 1) := by decide +kernel
theorem dX6_readIs_9 : decode cX6_readIs 9 = .ok (.aload_n 0, 1) := by decide +kernel
theorem dX6_readIs_10 : decode cX6_readIs 10 = .ok (.ldc 208, 2) := by decide +kernel
theorem dX6_readIs_12 : decode cX6_readIs 12 = .ok (.invokevirtual 190, 3) := by decide +kernel
theorem dX6_readIs_15 : decode cX6_readIs 15 = .ok (.ifCond .eq 5, 3) := by decide +kernel
theorem dX6_readIs_18 : decode cX6_readIs 18 = .ok (.iconst 0, 1) := by decide +kernel
theorem dX6_readIs_19 : decode cX6_readIs 19 = .ok (.ireturn, 1) := by decide +kernel
theorem dX6_readIs_20 : decode cX6_readIs 20 = .ok (.aload_n 0, 1) := by decide +kernel
theorem dX6_readIs_21 : decode cX6_readIs 21 = .ok (.ldc 210, 2) := by decide +kernel
theorem dX6_readIs_23 : decode cX6_readIs 23 = .ok (.invokevirtual 190, 3) := by decide +kernel
theorem dX6_readIs_26 : decode cX6_readIs 26 = .ok (.ifCond .eq 5, 3) := by decide +kernel
theorem dX6_readIs_29 : decode cX6_readIs 29 = .ok (.iconst 1, 1) := by decide +kernel
theorem dX6_readIs_30 : decode cX6_readIs 30 = .ok (.ireturn, 1) := by decide +kernel
theorem dX6_readIs_31 : decode cX6_readIs 31 = .ok (.aload_n 0, 1) := by decide +kernel
theorem dX6_readIs_32 : decode cX6_readIs 32 = .ok (.iconst 2, 1) := by decide +kernel
theorem dX6_readIs_33 : decode cX6_readIs 33 = .ok (.aload_n 0, 1) := by decide +kernel
theorem dX6_readIs_34 : decode cX6_readIs 34 = .ok (.getfield 66, 3) := by decide +kernel
theorem dX6_readIs_37 : decode cX6_readIs 37 = .ok (.invokevirtual 49, 3) := by decide +kernel
theorem dX6_readIs_40 : decode cX6_readIs 40 = .ok (.pop, 1) := by decide +kernel
theorem dX6_readIs_41 : decode cX6_readIs 41 = .ok (.iconst (-1), 1) := by decide +kernel
theorem dX6_readIs_42 : decode cX6_readIs 42 = .ok (.ireturn, 1) := by decide +kernel
abbrev mX6_readIs : MD := (cX6_readIs, "BlottedDeed$Scribe", 1, 6, 137, (some .int), "readIs", [])
def bX6_readIs_0 (g : GE) (J : Nat → KT) : KT := i_aload 0 (i_cv fX6_readWord g 0 6 (i_ifne (i_aload 0 (i_push (.ref (g.2.2.1 7)) (i_cv fX6_isWord g 1 6 (i_ifeq (i_aload 0 (i_push (.ref (g.2.2.1 8)) (i_cv fX6_isWord g 1 6 (i_ifeq (i_aload 0 (i_push (.int 2) (i_aload 0 (i_getf 6 3 (i_cv fX6_fail g 2 6 (i_pop (i_push (.int (-1)) (i_ireturn)))))))) (i_push (.int 1) (i_ireturn)))))) (i_push (.int 0) (i_ireturn)))))) (i_push (.int (-1)) (i_ireturn))))
theorem sbX6_readIs_0 (g : GE) (J : Nat → KT)  : Snd mX6_readIs g 0 (bX6_readIs_0 g J) := by
  unfold bX6_readIs_0
  refine s_aload_n (pc := 0) (i := 0) ?_ dX6_readIs_0 rfl
  refine s_cv (pc := 1) (n := 0) (ci := 6) ?_ tX6_readWord rfl rfl wt_713 wt_715 wp_12 wt_7 wt_716 ⟨crX6_readWord, by decide, by decide⟩ dX6_readIs_1
  refine s_ifne (pc := 4) (tgt := 9) ?_ ?_ dX6_readIs_4 (by decide)
  · skip
    refine s_aload_n (pc := 9) (i := 0) ?_ dX6_readIs_9 rfl
    refine s_str (pc := 10) (i := 7) ?_ (by decide) rfl rfl dX6_readIs_10
    refine s_cv (pc := 12) (n := 1) (ci := 6) ?_ tX6_isWord rfl rfl wt_728 wt_730 wp_15 wt_7 wt_731 ⟨crX6_isWord, by decide, by decide⟩ dX6_readIs_12
    refine s_ifeq (pc := 15) (tgt := 20) ?_ ?_ dX6_readIs_15 (by decide)
    · skip
      refine s_aload_n (pc := 20) (i := 0) ?_ dX6_readIs_20 rfl
      refine s_str (pc := 21) (i := 8) ?_ (by decide) rfl rfl dX6_readIs_21
      refine s_cv (pc := 23) (n := 1) (ci := 6) ?_ tX6_isWord rfl rfl wt_728 wt_730 wp_15 wt_7 wt_731 ⟨crX6_isWord, by decide, by decide⟩ dX6_readIs_23
      refine s_ifeq (pc := 26) (tgt := 31) ?_ ?_ dX6_readIs_26 (by decide)
      · skip
        refine s_aload_n (pc := 31) (i := 0) ?_ dX6_readIs_31 rfl
        refine s_iconst (pc := 32) (v := 2) ?_ dX6_readIs_32 (by decide)
        refine s_aload_n (pc := 33) (i := 0) ?_ dX6_readIs_33 rfl
        refine s_getf (pc := 34) (ci := 6) (f := 3) (T := TX6) ?_ ginX6 rfl (by decide) wt_198 dX6_readIs_34
        refine s_cv (pc := 37) (n := 2) (ci := 6) ?_ tX6_fail rfl rfl wt_718 wt_720 wp_13 wt_7 wt_721 ⟨crX6_fail, by decide, by decide⟩ dX6_readIs_37
        refine s_pop (pc := 40) ?_ dX6_readIs_40
        refine s_iconst (pc := 41) (v := (-1)) ?_ dX6_readIs_41 (by decide)
        exact s_ireturn (pc := 42) rfl dX6_readIs_42
      · skip
        refine s_iconst (pc := 29) (v := 1) ?_ dX6_readIs_29 (by decide)
        exact s_ireturn (pc := 30) rfl dX6_readIs_30
    · skip
      refine s_iconst (pc := 18) (v := 0) ?_ dX6_readIs_18 (by decide)
      exact s_ireturn (pc := 19) rfl dX6_readIs_19
  · skip
    refine s_iconst (pc := 7) (v := (-1)) ?_ dX6_readIs_7 (by decide)
    exact s_ireturn (pc := 8) rfl dX6_readIs_8
def kX6_readIs (g : GE) : KT := bX6_readIs_0 g (fun _ _ _ _ => none)
theorem sX6_readIs (g : GE) : Snd mX6_readIs g 0 (kX6_readIs g) := sbX6_readIs_0 g _
def fX6_readIs : FT := fun g av w => if (ent av).length ≤ 1 then kX6_readIs g [] (entp 1 av) w else none
theorem tX6_readIs : Mt yX6_readIs cX6_readIs 1 (some .int) 6 137 fX6_readIs := Mt.of (K := kX6_readIs) (by decide +kernel) (fun _ _ _ => rfl) sX6_readIs
theorem crX6_readIs : yX6_readIs.cls ≠ "java/lang/invoke/MethodHandle" ∧ yX6_readIs.cls ≠ "java/lang/invoke/VarHandle" ∧ (parseMethodDescriptor yX6_readIs.desc).map (fun d => d.parameters.length) = some 0 := by decide +kernel
theorem dX6_readPlace_0 : decode cX6_readPlace 0 = .ok (.aload_n 0, 1) := by decide +kernel
theorem dX6_readPlace_1 : decode cX6_readPlace 1 = .ok (.invokevirtual 31, 3) := by decide +kernel
theorem dX6_readPlace_4 : decode cX6_readPlace 4 = .ok (.aload_n 0, 1) := by decide +kernel
theorem dX6_readPlace_5 : decode cX6_readPlace 5 = .ok (.bipush 35, 2) := by decide +kernel
theorem dX6_readPlace_7 : decode cX6_readPlace 7 = .ok (.invokevirtual 116, 3) := by decide +kernel
theorem dX6_readPlace_10 : decode cX6_readPlace 10 = .ok (.ifCond .eq 9, 3) := by decide +kernel
theorem dX6_readPlace_13 : decode cX6_readPlace 13 = .ok (.aload_n 0, 1) := by decide +kernel
theorem dX6_readPlace_14 : decode cX6_readPlace 14 = .ok (.iload_n 1, 1) := by decide +kernel
theorem dX6_readPlace_15 : decode cX6_readPlace 15 = .ok (.invokevirtual 148, 3) := by decide +kernel
theorem dX6_readPlace_18 : decode cX6_readPlace 18 = .ok (.ireturn, 1) := by decide +kernel
theorem dX6_readPlace_19 : decode cX6_readPlace 19 = .ok (.iload_n 1, 1) := by decide +kernel
theorem dX6_readPlace_20 : decode cX6_readPlace 20 = .ok (.ifCond .ne 12, 3) := by decide +kernel
theorem dX6_readPlace_23 : decode cX6_readPlace 23 = .ok (.aload_n 0, 1) := by decide +kernel
theorem dX6_readPlace_24 : decode cX6_readPlace 24 = .ok (.bipush 99, 2) := by decide +kernel
theorem dX6_readPlace_26 : decode cX6_readPlace 26 = .ok (.invokevirtual 131, 3) := by decide +kernel
theorem dX6_readPlace_29 : decode cX6_readPlace 29 = .ok (.goto 19, 3) := by decide +kernel
theorem dX6_readPlace_32 : decode cX6_readPlace 32 = .ok (.iload_n 1, 1) := by decide +kernel
theorem dX6_readPlace_33 : decode cX6_readPlace 33 = .ok (.iconst 1, 1) := by decide +kernel
theorem dX6_readPlace_34 : decode cX6_readPlace 34 = .ok (.if_icmp .ne 10, 3) := by decide +kernel
theorem dX6_readPlace_37 : decode cX6_readPlace 37 = .ok (.aload_n 0, 1) := by decide +kernel
theorem dX6_readPlace_38 : decode cX6_readPlace 38 = .ok (.invokevirtual 141, 3) := by decide +kernel
theorem dX6_readPlace_41 : decode cX6_readPlace 41 = .ok (.goto 7, 3) := by decide +kernel
theorem dX6_readPlace_44 : decode cX6_readPlace 44 = .ok (.aload_n 0, 1) := by decide +kernel
theorem dX6_readPlace_45 : decode cX6_readPlace 45 = .ok (.invokevirtual 151, 3) := by decide +kernel
theorem dX6_readPlace_48 : decode cX6_readPlace 48 = .ok (.istore_n 2, 1) := by decide +kernel
theorem dX6_readPlace_49 : decode cX6_readPlace 49 = .ok (.iload_n 2, 1) := by decide +kernel
theorem dX6_readPlace_50 : decode cX6_readPlace 50 = .ok (.iconst (-1), 1) := by decide +kernel
theorem dX6_readPlace_51 : decode cX6_readPlace 51 = .ok (.if_icmp .ne 5, 3) := by decide +kernel
theorem dX6_readPlace_54 : decode cX6_readPlace 54 = .ok (.iconst 0, 1) := by decide +kernel
theorem dX6_readPlace_55 : decode cX6_readPlace 55 = .ok (.ireturn, 1) := by decide +kernel
theorem dX6_readPlace_56 : decode cX6_readPlace 56 = .ok (.aload_n 0, 1) := by decide +kernel
theorem dX6_readPlace_57 : decode cX6_readPlace 57 = .ok (.getfield 15, 3) := by decide +kernel
theorem dX6_readPlace_60 : decode cX6_readPlace 60 = .ok (.iload_n 1, 1) := by decide +kernel
theorem dX6_readPlace_61 : decode cX6_readPlace 61 = .ok (.iload_n 2, 1) := by decide +kernel
theorem dX6_readPlace_62 : decode cX6_readPlace 62 = .ok (.invokevirtual 154, 3) := by decide +kernel
theorem dX6_readPlace_65 : decode cX6_readPlace 65 = .ok (.iconst 1, 1) := by decide +kernel
theorem dX6_readPlace_66 : decode cX6_readPlace 66 = .ok (.ireturn, 1) := by decide +kernel
abbrev mX6_readPlace : MD := (cX6_readPlace, "BlottedDeed$Scribe", 3, 7, 157, (some .boolean), "readPlace", [])
def bX6_readPlace_0 (g : GE) (J : Nat → KT) : KT := i_aload 0 (i_cv fX6_skipBlanks g 0 6 (i_aload 0 (i_push (.int 35) (i_cv fX6_standsHere g 1 6 (i_ifeq (i_iload 1 (i_ifne (i_iload 1 (i_push (.int 1) (i_icne (i_aload 0 (i_cv fX6_readIs g 0 6 (i_jmp [true, true, false] (J 1)))) (i_aload 0 (i_cv fX6_readHeir g 0 6 (i_jmp [true, true, false] (J 1))))))) (i_aload 0 (i_push (.int 99) (i_cv fX6_readNumber g 1 6 (i_jmp [true, true, false] (J 1))))))) (i_aload 0 (i_iload 1 (i_cv fX6_readBlot g 1 6 (i_zreturn)))))))))
def bX6_readPlace_1 (g : GE) (J : Nat → KT) : KT := i_istore 2 (i_iload 2 (i_push (.int (-1)) (i_icne (i_aload 0 (i_getf 6 5 (i_iload 1 (i_iload 2 (i_cv fX2_addPlace g 2 2 (i_push (.int 1) (i_zreturn))))))) (i_push (.int 0) (i_zreturn)))))
theorem sbX6_readPlace_0 (g : GE) (J : Nat → KT) (h1 : Snd mX6_readPlace g 48 (J 1)) : Snd mX6_readPlace g 0 (bX6_readPlace_0 g J) := by
  unfold bX6_readPlace_0
  refine s_aload_n (pc := 0) (i := 0) ?_ dX6_readPlace_0 rfl
  refine s_cv (pc := 1) (n := 0) (ci := 6) ?_ tX6_skipBlanks rfl rfl wt_705 wt_707 wp_10 wt_7 wt_708 ⟨crX6_skipBlanks, by decide, by decide⟩ dX6_readPlace_1
  refine s_aload_n (pc := 4) (i := 0) ?_ dX6_readPlace_4 rfl
  refine s_bipush (pc := 5) (v := 35) ?_ dX6_readPlace_5 (by decide)
  refine s_cv (pc := 7) (n := 1) (ci := 6) ?_ tX6_standsHere rfl rfl wt_863 wt_865 wp_26 wt_7 wt_866 ⟨crX6_standsHere, by decide, by decide⟩ dX6_readPlace_7
  refine s_ifeq (pc := 10) (tgt := 19) ?_ ?_ dX6_readPlace_10 (by decide)
  · skip
    refine s_iload_n (pc := 19) (i := 1) ?_ dX6_readPlace_19 rfl
    refine s_ifne (pc := 20) (tgt := 32) ?_ ?_ dX6_readPlace_20 (by decide)
    · skip
      refine s_iload_n (pc := 32) (i := 1) ?_ dX6_readPlace_32 rfl
      refine s_iconst (pc := 33) (v := 1) ?_ dX6_readPlace_33 (by decide)
      refine s_icne (pc := 34) (tgt := 44) ?_ ?_ dX6_readPlace_34 (by decide)
      · skip
        refine s_aload_n (pc := 44) (i := 0) ?_ dX6_readPlace_44 rfl
        refine s_cv (pc := 45) (n := 0) (ci := 6) ?_ tX6_readIs rfl rfl wt_887 wt_889 wp_28 wt_7 wt_890 ⟨crX6_readIs, by decide, by decide⟩ dX6_readPlace_45
        exact s_fall (pc := 48) h1
      · skip
        refine s_aload_n (pc := 37) (i := 0) ?_ dX6_readPlace_37 rfl
        refine s_cv (pc := 38) (n := 0) (ci := 6) ?_ tX6_readHeir rfl rfl wt_850 wt_852 wp_24 wt_7 wt_853 ⟨crX6_readHeir, by decide, by decide⟩ dX6_readPlace_38
        exact s_goto (pc := 41) (tgt := 48) h1 dX6_readPlace_41 (by decide)
    · skip
      refine s_aload_n (pc := 23) (i := 0) ?_ dX6_readPlace_23 rfl
      refine s_bipush (pc := 24) (v := 99) ?_ dX6_readPlace_24 (by decide)
      refine s_cv (pc := 26) (n := 1) (ci := 6) ?_ tX6_readNumber rfl rfl wt_829 wt_831 wp_21 wt_7 wt_832 ⟨crX6_readNumber, by decide, by decide⟩ dX6_readPlace_26
      exact s_goto (pc := 29) (tgt := 48) h1 dX6_readPlace_29 (by decide)
  · skip
    refine s_aload_n (pc := 13) (i := 0) ?_ dX6_readPlace_13 rfl
    refine s_iload_n (pc := 14) (i := 1) ?_ dX6_readPlace_14 rfl
    refine s_cv (pc := 15) (n := 1) (ci := 6) ?_ tX6_readBlot rfl rfl wt_867 wt_869 wp_27 wt_7 wt_870 ⟨crX6_readBlot, by decide, by decide⟩ dX6_readPlace_15
    exact s_zreturn (pc := 18) rfl dX6_readPlace_18
theorem sbX6_readPlace_1 (g : GE) (J : Nat → KT) (h1 : Snd mX6_readPlace g 48 (J 1)) : Snd mX6_readPlace g 48 (bX6_readPlace_1 g J) := by
  unfold bX6_readPlace_1
  refine s_istore_n (pc := 48) (i := 2) ?_ dX6_readPlace_48 rfl (by decide)
  refine s_iload_n (pc := 49) (i := 2) ?_ dX6_readPlace_49 rfl
  refine s_iconst (pc := 50) (v := (-1)) ?_ dX6_readPlace_50 (by decide)
  refine s_icne (pc := 51) (tgt := 56) ?_ ?_ dX6_readPlace_51 (by decide)
  · skip
    refine s_aload_n (pc := 56) (i := 0) ?_ dX6_readPlace_56 rfl
    refine s_getf (pc := 57) (ci := 6) (f := 5) (T := TX6) ?_ ginX6 rfl (by decide) wt_200 dX6_readPlace_57
    refine s_iload_n (pc := 60) (i := 1) ?_ dX6_readPlace_60 rfl
    refine s_iload_n (pc := 61) (i := 2) ?_ dX6_readPlace_61 rfl
    refine s_cv (pc := 62) (n := 2) (ci := 2) ?_ tX2_addPlace rfl rfl wt_893 wt_884 wt_885 wt_2 wt_886 ⟨crX2_addPlace, by decide, by decide⟩ dX6_readPlace_62
    refine s_iconst (pc := 65) (v := 1) ?_ dX6_readPlace_65 (by decide)
    exact s_zreturn (pc := 66) rfl dX6_readPlace_66
  · skip
    refine s_iconst (pc := 54) (v := 0) ?_ dX6_readPlace_54 (by decide)
    exact s_zreturn (pc := 55) rfl dX6_readPlace_55
def jX6_readPlace (g : GE) : Nat → Nat → KT
  | 0, _ => fun _ _ _ => none
  | n + 1, 0 => bX6_readPlace_0 g (jX6_readPlace g n)
  | n + 1, 1 => bX6_readPlace_1 g (jX6_readPlace g n)
  | _ + 1, _ + 2 => fun _ _ _ => none
theorem sjX6_readPlace (g : GE) : ∀ n, Snd mX6_readPlace g 0 (jX6_readPlace g n 0) ∧ Snd mX6_readPlace g 48 (jX6_readPlace g n 1)
  | 0 => ⟨s_none, s_none⟩
  | n + 1 => by
    obtain ⟨-, h1⟩ := sjX6_readPlace g n
    exact ⟨sbX6_readPlace_0 g _ h1, sbX6_readPlace_1 g _ h1⟩
def kX6_readPlace (g : GE) : KT := jX6_readPlace g g.1 0
theorem sX6_readPlace (g : GE) : Snd mX6_readPlace g 0 (kX6_readPlace g) := (sjX6_readPlace g g.1).1
def fX6_readPlace : FT := fun g av w => if (ent av).length ≤ 3 then kX6_readPlace g [] (entp 3 av) w else none
theorem tX6_readPlace : Mt yX6_readPlace cX6_readPlace 3 (some .boolean) 7 157 fX6_readPlace := Mt.of (K := kX6_readPlace) (by decide +kernel) (fun _ _ _ => rfl) sX6_readPlace
theorem crX6_readPlace : yX6_readPlace.cls ≠ "java/lang/invoke/MethodHandle" ∧ yX6_readPlace.cls ≠ "java/lang/invoke/VarHandle" ∧ (parseMethodDescriptor yX6_readPlace.desc).map (fun d => d.parameters.length) = some 1 := by decide +kernel
theorem dX2_nameThing_0 : decode cX2_nameThing 0 = .ok (.aload_n 0, 1) := by decide +kernel
theorem dX2_nameThing_1 : decode cX2_nameThing 1 = .ok (.getfield 58, 3) := by decide +kernel
theorem dX2_nameThing_4 : decode cX2_nameThing 4 = .ok (.ifCond .le 18, 3) := by decide +kernel
theorem dX2_nameThing_7 : decode cX2_nameThing 7 = .ok (.aload_n 0, 1) := by decide +kernel
theorem dX2_nameThing_8 : decode cX2_nameThing 8 = .ok (.getfield 30, 3) := by decide +kernel
theorem dX2_nameThing_11 : decode cX2_nameThing 11 = .ok (.aload_n 0, 1) := by decide +kernel
theorem dX2_nameThing_12 : decode cX2_nameThing 12 = .ok (.getfield 58, 3) := by decide +kernel
theorem dX2_nameThing_15 : decode cX2_nameThing 15 = .ok (.iconst 1, 1) := by decide +kernel
theorem dX2_nameThing_16 : decode cX2_nameThing 16 = .ok (.isub, 1) := by decide +kernel
theorem dX2_nameThing_17 : decode cX2_nameThing 17 = .ok (.aaload, 1) := by decide +kernel
theorem dX2_nameThing_18 : decode cX2_nameThing 18 = .ok (.iload_n 1, 1) := by decide +kernel
theorem dX2_nameThing_19 : decode cX2_nameThing 19 = .ok (.putfield 89, 3) := by decide +kernel
theorem dX2_nameThing_22 : decode cX2_nameThing 22 = .ok (.return_, 1) := by decide +kernel
abbrev mX2_nameThing : MD := (cX2_nameThing, "BlottedDeed$Deed", 2, 1, 30, none, "nameThing", [])
def bX2_nameThing_0 (g : GE) (J : Nat → KT) : KT := i_aload 0 (i_getf 2 11 (i_ifle (i_jmp [false, false] (J 1)) (i_aload 0 (i_getf 2 5 (i_aload 0 (i_getf 2 11 (i_push (.int 1) (i_isub (i_aaload 5 (i_iload 1 (i_putf 3 1 .int (i_jmp [false, false] (J 1)))))))))))))
def bX2_nameThing_1 (g : GE) (J : Nat → KT) : KT := i_return
theorem sbX2_nameThing_0 (g : GE) (J : Nat → KT) (h1 : Snd mX2_nameThing g 22 (J 1)) : Snd mX2_nameThing g 0 (bX2_nameThing_0 g J) := by
  unfold bX2_nameThing_0
  refine s_aload_n (pc := 0) (i := 0) ?_ dX2_nameThing_0 rfl
  refine s_getf (pc := 1) (ci := 2) (f := 11) (T := TX2) ?_ ginX2 rfl (by decide) wt_136 dX2_nameThing_1
  refine s_ifle (pc := 4) (tgt := 22) ?_ ?_ dX2_nameThing_4 (by decide)
  · skip
    exact s_fall (pc := 22) h1
  · skip
    refine s_aload_n (pc := 7) (i := 0) ?_ dX2_nameThing_7 rfl
    refine s_getf (pc := 8) (ci := 2) (f := 5) (T := TX2) ?_ ginX2 rfl (by decide) wt_118 dX2_nameThing_8
    refine s_aload_n (pc := 11) (i := 0) ?_ dX2_nameThing_11 rfl
    refine s_getf (pc := 12) (ci := 2) (f := 11) (T := TX2) ?_ ginX2 rfl (by decide) wt_136 dX2_nameThing_12
    refine s_iconst (pc := 15) (v := 1) ?_ dX2_nameThing_15 (by decide)
    refine s_isub (pc := 16) ?_ dX2_nameThing_16
    refine s_aaload (pc := 17) (t := 5) ?_ (by decide) rfl dX2_nameThing_17
    refine s_iload_n (pc := 18) (i := 1) ?_ dX2_nameThing_18 rfl
    refine s_putf (pc := 19) (ci := 3) (f := 1) (T := TX3) (ty0 := tyX3) ?_ ginX3 tyX3_ok nmX3 rfl (by decide) rfl rfl wt_58 dX2_nameThing_19
    exact s_fall (pc := 22) h1
theorem sbX2_nameThing_1 (g : GE) (J : Nat → KT) (h1 : Snd mX2_nameThing g 22 (J 1)) : Snd mX2_nameThing g 22 (bX2_nameThing_1 g J) := by
  unfold bX2_nameThing_1
  exact s_return (pc := 22) rfl dX2_nameThing_22
def jX2_nameThing (g : GE) : Nat → Nat → KT
  | 0, _ => fun _ _ _ => none
  | n + 1, 0 => bX2_nameThing_0 g (jX2_nameThing g n)
  | n + 1, 1 => bX2_nameThing_1 g (jX2_nameThing g n)
  | _ + 1, _ + 2 => fun _ _ _ => none
theorem sjX2_nameThing (g : GE) : ∀ n, Snd mX2_nameThing g 0 (jX2_nameThing g n 0) ∧ Snd mX2_nameThing g 22 (jX2_nameThing g n 1)
  | 0 => ⟨s_none, s_none⟩
  | n + 1 => by
    obtain ⟨-, h1⟩ := sjX2_nameThing g n
    exact ⟨sbX2_nameThing_0 g _ h1, sbX2_nameThing_1 g _ h1⟩
def kX2_nameThing (g : GE) : KT := jX2_nameThing g g.1 0
theorem sX2_nameThing (g : GE) : Snd mX2_nameThing g 0 (kX2_nameThing g) := (sjX2_nameThing g g.1).1
def fX2_nameThing : FT := fun g av w => if (ent av).length ≤ 2 then kX2_nameThing g [] (entp 2 av) w else none
theorem tX2_nameThing : Mt yX2_nameThing cX2_nameThing 2 none 1 30 fX2_nameThing := Mt.of (K := kX2_nameThing) (by decide +kernel) (fun _ _ _ => rfl) sX2_nameThing
theorem crX2_nameThing : yX2_nameThing.cls ≠ "java/lang/invoke/MethodHandle" ∧ yX2_nameThing.cls ≠ "java/lang/invoke/VarHandle" ∧ (parseMethodDescriptor yX2_nameThing.desc).map (fun d => d.parameters.length) = some 1 := by decide +kernel
theorem dX6_readThing_0 : decode cX6_readThing 0 = .ok (.aload_n 0, 1) := by decide +kernel
theorem dX6_readThing_1 : decode cX6_readThing 1 = .ok (.invokevirtual 59, 3) := by decide +kernel
theorem dX6_readThing_4 : decode cX6_readThing 4 = .ok (.ifCond .ne 5, 3) := by decide +kernel
theorem dX6_readThing_7 : decode cX6_readThing 7 = .ok (.iconst 0, 1) := by decide +kernel
theorem dX6_readThing_8 : decode cX6_readThing 8 = .ok (.ireturn, 1) := by decide +kernel
theorem dX6_readThing_9 : decode cX6_readThing 9 = .ok (.aload_n 0, 1) := by decide +kernel
theorem dX6_readThing_10 : decode cX6_readThing 10 = .ok (.invokevirtual 201, 3) := by decide +kernel
theorem dX6_readThing_13 : decode cX6_readThing 13 = .ok (.ifCond .eq 7, 3) := by decide +kernel
theorem dX6_readThing_16 : decode cX6_readThing 16 = .ok (.iconst (-1), 1) := by decide +kernel
theorem dX6_readThing_17 : decode cX6_readThing 17 = .ok (.goto 14, 3) := by decide +kernel
theorem dX6_readThing_20 : decode cX6_readThing 20 = .ok (.aload_n 0, 1) := by decide +kernel
theorem dX6_readThing_21 : decode cX6_readThing 21 = .ok (.getfield 15, 3) := by decide +kernel
theorem dX6_readThing_24 : decode cX6_readThing 24 = .ok (.aload_n 0, 1) := by decide +kernel
theorem dX6_readThing_25 : decode cX6_readThing 25 = .ok (.getfield 123, 3) := by decide +kernel
theorem dX6_readThing_28 : decode cX6_readThing 28 = .ok (.invokevirtual 198, 3) := by decide +kernel
theorem dX6_readThing_31 : decode cX6_readThing 31 = .ok (.istore_n 1, 1) := by decide +kernel
theorem dX6_readThing_32 : decode cX6_readThing 32 = .ok (.iload_n 1, 1) := by decide +kernel
theorem dX6_readThing_33 : decode cX6_readThing 33 = .ok (.iconst (-1), 1) := by decide +kernel
theorem dX6_readThing_34 : decode cX6_readThing 34 = .ok (.if_icmp .ne 13, 3) := by decide +kernel
theorem dX6_readThing_37 : decode cX6_readThing 37 = .ok (.aload_n 0, 1) := by decide +kernel
theorem dX6_readThing_38 : decode cX6_readThing 38 = .ok (.iconst 2, 1) := by decide +kernel
theorem dX6_readThing_39 : decode cX6_readThing 39 = .ok (.aload_n 0, 1) := by decide +kernel
theorem dX6_readThing_40 : decode cX6_readThing 40 = .ok (.getfield 66, 3) := by decide +kernel
theorem dX6_readThing_43 : decode cX6_readThing 43 = .ok (.invokevirtual 49, 3) := by decide +kernel
theorem dX6_readThing_46 : decode cX6_readThing 46 = .ok (.ireturn, 1) := by decide +kernel
theorem dX6_readThing_47 : decode cX6_readThing 47 = .ok (.aload_n 0, 1) := by decide +kernel
theorem dX6_readThing_48 : decode cX6_readThing 48 = .ok (.getfield 15, 3) := by decide +kernel
theorem dX6_readThing_51 : decode cX6_readThing 51 = .ok (.iload_n 1, 1) := by decide +kernel
theorem dX6_readThing_52 : decode cX6_readThing 52 = .ok (.invokevirtual 204, 3) := by decide +kernel
theorem dX6_readThing_55 : decode cX6_readThing 55 = .ok (.iconst 1, 1) := by decide +kernel
theorem dX6_readThing_56 : decode cX6_readThing 56 = .ok (.ireturn, 1) := by decide +kernel
abbrev mX6_readThing : MD := (cX6_readThing, "BlottedDeed$Scribe", 2, 3, 72, (some .boolean), "readThing", [])
def bX6_readThing_0 (g : GE) (J : Nat → KT) : KT := i_aload 0 (i_cv fX6_readWord g 0 6 (i_ifne (i_aload 0 (i_cv fX6_isTooLong g 0 6 (i_ifeq (i_aload 0 (i_getf 6 5 (i_aload 0 (i_getf 6 4 (i_cv fX2_thingNamed g 1 2 (i_jmp [true, false] (J 1))))))) (i_push (.int (-1)) (i_jmp [true, false] (J 1)))))) (i_push (.int 0) (i_zreturn))))
def bX6_readThing_1 (g : GE) (J : Nat → KT) : KT := i_istore 1 (i_iload 1 (i_push (.int (-1)) (i_icne (i_aload 0 (i_getf 6 5 (i_iload 1 (i_cv fX2_nameThing g 1 2 (i_push (.int 1) (i_zreturn)))))) (i_aload 0 (i_push (.int 2) (i_aload 0 (i_getf 6 3 (i_cv fX6_fail g 2 6 (i_zreturn)))))))))
theorem sbX6_readThing_0 (g : GE) (J : Nat → KT) (h1 : Snd mX6_readThing g 31 (J 1)) : Snd mX6_readThing g 0 (bX6_readThing_0 g J) := by
  unfold bX6_readThing_0
  refine s_aload_n (pc := 0) (i := 0) ?_ dX6_readThing_0 rfl
  refine s_cv (pc := 1) (n := 0) (ci := 6) ?_ tX6_readWord rfl rfl wt_713 wt_715 wp_12 wt_7 wt_716 ⟨crX6_readWord, by decide, by decide⟩ dX6_readThing_1
  refine s_ifne (pc := 4) (tgt := 9) ?_ ?_ dX6_readThing_4 (by decide)
  · skip
    refine s_aload_n (pc := 9) (i := 0) ?_ dX6_readThing_9 rfl
    refine s_cv (pc := 10) (n := 0) (ci := 6) ?_ tX6_isTooLong rfl rfl wt_816 wt_818 wp_19 wt_7 wt_819 ⟨crX6_isTooLong, by decide, by decide⟩ dX6_readThing_10
    refine s_ifeq (pc := 13) (tgt := 20) ?_ ?_ dX6_readThing_13 (by decide)
    · skip
      refine s_aload_n (pc := 20) (i := 0) ?_ dX6_readThing_20 rfl
      refine s_getf (pc := 21) (ci := 6) (f := 5) (T := TX6) ?_ ginX6 rfl (by decide) wt_200 dX6_readThing_21
      refine s_aload_n (pc := 24) (i := 0) ?_ dX6_readThing_24 rfl
      refine s_getf (pc := 25) (ci := 6) (f := 4) (T := TX6) ?_ ginX6 rfl (by decide) wt_199 dX6_readThing_25
      refine s_cv (pc := 28) (n := 1) (ci := 2) ?_ tX2_thingNamed rfl rfl wt_812 wt_813 wt_814 wt_2 wt_815 ⟨crX2_thingNamed, by decide, by decide⟩ dX6_readThing_28
      exact s_fall (pc := 31) h1
    · skip
      refine s_iconst (pc := 16) (v := (-1)) ?_ dX6_readThing_16 (by decide)
      exact s_goto (pc := 17) (tgt := 31) h1 dX6_readThing_17 (by decide)
  · skip
    refine s_iconst (pc := 7) (v := 0) ?_ dX6_readThing_7 (by decide)
    exact s_zreturn (pc := 8) rfl dX6_readThing_8
theorem sbX6_readThing_1 (g : GE) (J : Nat → KT) (h1 : Snd mX6_readThing g 31 (J 1)) : Snd mX6_readThing g 31 (bX6_readThing_1 g J) := by
  unfold bX6_readThing_1
  refine s_istore_n (pc := 31) (i := 1) ?_ dX6_readThing_31 rfl (by decide)
  refine s_iload_n (pc := 32) (i := 1) ?_ dX6_readThing_32 rfl
  refine s_iconst (pc := 33) (v := (-1)) ?_ dX6_readThing_33 (by decide)
  refine s_icne (pc := 34) (tgt := 47) ?_ ?_ dX6_readThing_34 (by decide)
  · skip
    refine s_aload_n (pc := 47) (i := 0) ?_ dX6_readThing_47 rfl
    refine s_getf (pc := 48) (ci := 6) (f := 5) (T := TX6) ?_ ginX6 rfl (by decide) wt_200 dX6_readThing_48
    refine s_iload_n (pc := 51) (i := 1) ?_ dX6_readThing_51 rfl
    refine s_cv (pc := 52) (n := 1) (ci := 2) ?_ tX2_nameThing rfl rfl wt_899 wt_900 wt_901 wt_2 wt_902 ⟨crX2_nameThing, by decide, by decide⟩ dX6_readThing_52
    refine s_iconst (pc := 55) (v := 1) ?_ dX6_readThing_55 (by decide)
    exact s_zreturn (pc := 56) rfl dX6_readThing_56
  · skip
    refine s_aload_n (pc := 37) (i := 0) ?_ dX6_readThing_37 rfl
    refine s_iconst (pc := 38) (v := 2) ?_ dX6_readThing_38 (by decide)
    refine s_aload_n (pc := 39) (i := 0) ?_ dX6_readThing_39 rfl
    refine s_getf (pc := 40) (ci := 6) (f := 3) (T := TX6) ?_ ginX6 rfl (by decide) wt_198 dX6_readThing_40
    refine s_cv (pc := 43) (n := 2) (ci := 6) ?_ tX6_fail rfl rfl wt_718 wt_720 wp_13 wt_7 wt_721 ⟨crX6_fail, by decide, by decide⟩ dX6_readThing_43
    exact s_zreturn (pc := 46) rfl dX6_readThing_46
def jX6_readThing (g : GE) : Nat → Nat → KT
  | 0, _ => fun _ _ _ => none
  | n + 1, 0 => bX6_readThing_0 g (jX6_readThing g n)
  | n + 1, 1 => bX6_readThing_1 g (jX6_readThing g n)
  | _ + 1, _ + 2 => fun _ _ _ => none
theorem sjX6_readThing (g : GE) : ∀ n, Snd mX6_readThing g 0 (jX6_readThing g n 0) ∧ Snd mX6_readThing g 31 (jX6_readThing g n 1)
  | 0 => ⟨s_none, s_none⟩
  | n + 1 => by
    obtain ⟨-, h1⟩ := sjX6_readThing g n
    exact ⟨sbX6_readThing_0 g _ h1, sbX6_readThing_1 g _ h1⟩
def kX6_readThing (g : GE) : KT := jX6_readThing g g.1 0
theorem sX6_readThing (g : GE) : Snd mX6_readThing g 0 (kX6_readThing g) := (sjX6_readThing g g.1).1
def fX6_readThing : FT := fun g av w => if (ent av).length ≤ 2 then kX6_readThing g [] (entp 2 av) w else none
theorem tX6_readThing : Mt yX6_readThing cX6_readThing 2 (some .boolean) 3 72 fX6_readThing := Mt.of (K := kX6_readThing) (by decide +kernel) (fun _ _ _ => rfl) sX6_readThing
theorem crX6_readThing : yX6_readThing.cls ≠ "java/lang/invoke/MethodHandle" ∧ yX6_readThing.cls ≠ "java/lang/invoke/VarHandle" ∧ (parseMethodDescriptor yX6_readThing.desc).map (fun d => d.parameters.length) = some 0 := by decide +kernel
