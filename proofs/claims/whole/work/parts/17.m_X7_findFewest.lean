theorem dX7_findFewest_0 : decode cX7_findFewest 0 = .ok (.iconst 1, 1) := by decide +kernel
theorem dX7_findFewest_1 : decode cX7_findFewest 1 = .ok (.aload_n 0, 1) := by decide +kernel
theorem dX7_findFewest_2 : decode cX7_findFewest 2 = .ok (.getfield 45, 3) := by decide +kernel
theorem dX7_findFewest_5 : decode cX7_findFewest 5 = .ok (.getfield 111, 3) := by decide +kernel
theorem dX7_findFewest_8 : decode cX7_findFewest 8 = .ok (.ishl, 1) := by decide +kernel
theorem dX7_findFewest_9 : decode cX7_findFewest 9 = .ok (.iconst 1, 1) := by decide +kernel
theorem dX7_findFewest_10 : decode cX7_findFewest 10 = .ok (.isub, 1) := by decide +kernel
theorem dX7_findFewest_11 : decode cX7_findFewest 11 = .ok (.istore_n 2, 1) := by decide +kernel
theorem dX7_findFewest_12 : decode cX7_findFewest 12 = .ok (.iconst 0, 1) := by decide +kernel
theorem dX7_findFewest_13 : decode cX7_findFewest 13 = .ok (.istore_n 3, 1) := by decide +kernel
theorem dX7_findFewest_14 : decode cX7_findFewest 14 = .ok (.iload_n 3, 1) := by decide +kernel
theorem dX7_findFewest_15 : decode cX7_findFewest 15 = .ok (.aload_n 0, 1) := by decide +kernel
theorem dX7_findFewest_16 : decode cX7_findFewest 16 = .ok (.getfield 45, 3) := by decide +kernel
theorem dX7_findFewest_19 : decode cX7_findFewest 19 = .ok (.getfield 111, 3) := by decide +kernel
theorem dX7_findFewest_22 : decode cX7_findFewest 22 = .ok (.if_icmp .ge 46, 3) := by decide +kernel
theorem dX7_findFewest_25 : decode cX7_findFewest 25 = .ok (.iconst 0, 1) := by decide +kernel
theorem dX7_findFewest_26 : decode cX7_findFewest 26 = .ok (.istore 4, 2) := by decide +kernel
theorem dX7_findFewest_28 : decode cX7_findFewest 28 = .ok (.iload 4, 2) := by decide +kernel
theorem dX7_findFewest_30 : decode cX7_findFewest 30 = .ok (.iload_n 2, 1) := by decide +kernel
theorem dX7_findFewest_31 : decode cX7_findFewest 31 = .ok (.if_icmp .ge 31, 3) := by decide +kernel
theorem dX7_findFewest_34 : decode cX7_findFewest 34 = .ok (.iload 4, 2) := by decide +kernel
theorem dX7_findFewest_36 : decode cX7_findFewest 36 = .ok (.invokestatic 92, 3) := by decide +kernel
theorem dX7_findFewest_39 : decode cX7_findFewest 39 = .ok (.iload_n 3, 1) := by decide +kernel
theorem dX7_findFewest_40 : decode cX7_findFewest 40 = .ok (.if_icmp .ne 16, 3) := by decide +kernel
theorem dX7_findFewest_43 : decode cX7_findFewest 43 = .ok (.aload_n 0, 1) := by decide +kernel
theorem dX7_findFewest_44 : decode cX7_findFewest 44 = .ok (.iload 4, 2) := by decide +kernel
theorem dX7_findFewest_46 : decode cX7_findFewest 46 = .ok (.iload_n 1, 1) := by decide +kernel
theorem dX7_findFewest_47 : decode cX7_findFewest 47 = .ok (.invokevirtual 170, 3) := by decide +kernel
theorem dX7_findFewest_50 : decode cX7_findFewest 50 = .ok (.ifCond .ne 6, 3) := by decide +kernel
theorem dX7_findFewest_53 : decode cX7_findFewest 53 = .ok (.iload 4, 2) := by decide +kernel
theorem dX7_findFewest_55 : decode cX7_findFewest 55 = .ok (.ireturn, 1) := by decide +kernel
theorem dX7_findFewest_56 : decode cX7_findFewest 56 = .ok (.iinc 4 1, 3) := by decide +kernel
theorem dX7_findFewest_59 : decode cX7_findFewest 59 = .ok (.goto (-31), 3) := by decide +kernel
theorem dX7_findFewest_62 : decode cX7_findFewest 62 = .ok (.iinc 3 1, 3) := by decide +kernel
theorem dX7_findFewest_65 : decode cX7_findFewest 65 = .ok (.goto (-51), 3) := by decide +kernel
theorem dX7_findFewest_68 : decode cX7_findFewest 68 = .ok (.iload_n 2, 1) := by decide +kernel
theorem dX7_findFewest_69 : decode cX7_findFewest 69 = .ok (.ireturn, 1) := by decide +kernel
abbrev mX7_findFewest : MD := (cX7_findFewest, "BlottedDeed$Table", 5, 5, 125, (some .int), "findFewest", [])
def bX7_findFewest_0 (g : GE) (J : Nat → KT) : KT := i_push (.int 1) (i_aload 0 (i_getf 7 5 (i_getf 2 13 (i_ishl (i_push (.int 1) (i_isub (i_istore 2 (i_push (.int 0) (i_istore 3 (i_jmp [true, true, true, true, false] (J 1)))))))))))
def bX7_findFewest_1 (g : GE) (J : Nat → KT) : KT := i_iload 3 (i_aload 0 (i_getf 7 5 (i_getf 2 13 (i_icge (i_iload 2 (i_ireturn)) (i_push (.int 0) (i_istore 4 (i_jmp [true, true, true, true, true] (J 2))))))))
def bX7_findFewest_2 (g : GE) (J : Nat → KT) : KT := i_iload 4 (i_iload 2 (i_icge (i_iinc 3 1 (i_jmp [true, true, true, true, false] (J 1))) (i_iload 4 (i_cs fJ6_bitCount_0f7a4 g 1 (i_iload 3 (i_icne (i_jmp [true, true, true, true, true] (J 3)) (i_aload 0 (i_iload 4 (i_iload 1 (i_cv fX7_sortOwners g 2 7 (i_ifne (i_jmp [true, true, true, true, true] (J 3)) (i_iload 4 (i_ireturn)))))))))))))
def bX7_findFewest_3 (g : GE) (J : Nat → KT) : KT := i_iinc 4 1 (i_jmp [true, true, true, true, true] (J 2))
theorem sbX7_findFewest_0 (g : GE) (J : Nat → KT) (h1 : Snd mX7_findFewest g 14 (J 1)) (h2 : Snd mX7_findFewest g 28 (J 2)) (h3 : Snd mX7_findFewest g 56 (J 3)) : Snd mX7_findFewest g 0 (bX7_findFewest_0 g J) := by
  unfold bX7_findFewest_0
  refine s_iconst (pc := 0) (v := 1) ?_ dX7_findFewest_0 (by decide)
  refine s_aload_n (pc := 1) (i := 0) ?_ dX7_findFewest_1 rfl
  refine s_getf (pc := 2) (ci := 7) (f := 5) (T := TX7) ?_ ginX7 rfl (by decide) wt_345 dX7_findFewest_2
  refine s_getf (pc := 5) (ci := 2) (f := 13) (T := TX2) ?_ ginX2 rfl (by decide) wt_145 dX7_findFewest_5
  refine s_ishl (pc := 8) ?_ dX7_findFewest_8
  refine s_iconst (pc := 9) (v := 1) ?_ dX7_findFewest_9 (by decide)
  refine s_isub (pc := 10) ?_ dX7_findFewest_10
  refine s_istore_n (pc := 11) (i := 2) ?_ dX7_findFewest_11 rfl (by decide)
  refine s_iconst (pc := 12) (v := 0) ?_ dX7_findFewest_12 (by decide)
  refine s_istore_n (pc := 13) (i := 3) ?_ dX7_findFewest_13 rfl (by decide)
  exact s_fall (pc := 14) h1
theorem sbX7_findFewest_1 (g : GE) (J : Nat → KT) (h1 : Snd mX7_findFewest g 14 (J 1)) (h2 : Snd mX7_findFewest g 28 (J 2)) (h3 : Snd mX7_findFewest g 56 (J 3)) : Snd mX7_findFewest g 14 (bX7_findFewest_1 g J) := by
  unfold bX7_findFewest_1
  refine s_iload_n (pc := 14) (i := 3) ?_ dX7_findFewest_14 rfl
  refine s_aload_n (pc := 15) (i := 0) ?_ dX7_findFewest_15 rfl
  refine s_getf (pc := 16) (ci := 7) (f := 5) (T := TX7) ?_ ginX7 rfl (by decide) wt_345 dX7_findFewest_16
  refine s_getf (pc := 19) (ci := 2) (f := 13) (T := TX2) ?_ ginX2 rfl (by decide) wt_145 dX7_findFewest_19
  refine s_icge (pc := 22) (tgt := 68) ?_ ?_ dX7_findFewest_22 (by decide)
  · skip
    refine s_iload_n (pc := 68) (i := 2) ?_ dX7_findFewest_68 rfl
    exact s_ireturn (pc := 69) rfl dX7_findFewest_69
  · skip
    refine s_iconst (pc := 25) (v := 0) ?_ dX7_findFewest_25 (by decide)
    refine s_istore (pc := 26) (i := 4) ?_ dX7_findFewest_26 (by decide)
    exact s_fall (pc := 28) h2
theorem sbX7_findFewest_2 (g : GE) (J : Nat → KT) (h1 : Snd mX7_findFewest g 14 (J 1)) (h2 : Snd mX7_findFewest g 28 (J 2)) (h3 : Snd mX7_findFewest g 56 (J 3)) : Snd mX7_findFewest g 28 (bX7_findFewest_2 g J) := by
  unfold bX7_findFewest_2
  refine s_iload (pc := 28) (i := 4) ?_ dX7_findFewest_28
  refine s_iload_n (pc := 30) (i := 2) ?_ dX7_findFewest_30 rfl
  refine s_icge (pc := 31) (tgt := 62) ?_ ?_ dX7_findFewest_31 (by decide)
  · skip
    refine s_iinc (pc := 62) (i := 3) (v := 1) ?_ dX7_findFewest_62 (by decide) (by decide)
    exact s_goto (pc := 65) (tgt := 14) h1 dX7_findFewest_65 (by decide)
  · skip
    refine s_iload (pc := 34) (i := 4) ?_ dX7_findFewest_34
    refine s_cs (pc := 36) (n := 1) ?_ tJ6_bitCount_0f7a4 wt_322 wt_323 wt_13 wt_324 ⟨crJ6_bitCount_0f7a4, by decide, by decide⟩ dX7_findFewest_36
    refine s_iload_n (pc := 39) (i := 3) ?_ dX7_findFewest_39 rfl
    refine s_icne (pc := 40) (tgt := 56) ?_ ?_ dX7_findFewest_40 (by decide)
    · skip
      exact s_fall (pc := 56) h3
    · skip
      refine s_aload_n (pc := 43) (i := 0) ?_ dX7_findFewest_43 rfl
      refine s_iload (pc := 44) (i := 4) ?_ dX7_findFewest_44
      refine s_iload_n (pc := 46) (i := 1) ?_ dX7_findFewest_46 rfl
      refine s_cv (pc := 47) (n := 2) (ci := 7) ?_ tX7_sortOwners rfl rfl wt_1104 wt_1106 wp_38 wt_8 wt_1107 ⟨crX7_sortOwners, by decide, by decide⟩ dX7_findFewest_47
      refine s_ifne (pc := 50) (tgt := 56) ?_ ?_ dX7_findFewest_50 (by decide)
      · skip
        exact s_fall (pc := 56) h3
      · skip
        refine s_iload (pc := 53) (i := 4) ?_ dX7_findFewest_53
        exact s_ireturn (pc := 55) rfl dX7_findFewest_55
theorem sbX7_findFewest_3 (g : GE) (J : Nat → KT) (h1 : Snd mX7_findFewest g 14 (J 1)) (h2 : Snd mX7_findFewest g 28 (J 2)) (h3 : Snd mX7_findFewest g 56 (J 3)) : Snd mX7_findFewest g 56 (bX7_findFewest_3 g J) := by
  unfold bX7_findFewest_3
  refine s_iinc (pc := 56) (i := 4) (v := 1) ?_ dX7_findFewest_56 (by decide) (by decide)
  exact s_goto (pc := 59) (tgt := 28) h2 dX7_findFewest_59 (by decide)
def jX7_findFewest (g : GE) : Nat → Nat → KT
  | 0, _ => fun _ _ _ => none
  | n + 1, 0 => bX7_findFewest_0 g (jX7_findFewest g n)
  | n + 1, 1 => bX7_findFewest_1 g (jX7_findFewest g n)
  | n + 1, 2 => bX7_findFewest_2 g (jX7_findFewest g n)
  | n + 1, 3 => bX7_findFewest_3 g (jX7_findFewest g n)
  | _ + 1, _ + 4 => fun _ _ _ => none
theorem sjX7_findFewest (g : GE) : ∀ n, Snd mX7_findFewest g 0 (jX7_findFewest g n 0) ∧ Snd mX7_findFewest g 14 (jX7_findFewest g n 1) ∧ Snd mX7_findFewest g 28 (jX7_findFewest g n 2) ∧ Snd mX7_findFewest g 56 (jX7_findFewest g n 3)
  | 0 => ⟨s_none, s_none, s_none, s_none⟩
  | n + 1 => by
    obtain ⟨-, h1, h2, h3⟩ := sjX7_findFewest g n
    exact ⟨sbX7_findFewest_0 g _ h1 h2 h3, sbX7_findFewest_1 g _ h1 h2 h3, sbX7_findFewest_2 g _ h1 h2 h3, sbX7_findFewest_3 g _ h1 h2 h3⟩
def kX7_findFewest (g : GE) : KT := jX7_findFewest g g.1 0
theorem sX7_findFewest (g : GE) : Snd mX7_findFewest g 0 (kX7_findFewest g) := (sjX7_findFewest g g.1).1
def fX7_findFewest : FT := fun g av w => if (ent av).length ≤ 5 then kX7_findFewest g [] (entp 5 av) w else none
theorem tX7_findFewest : Mt yX7_findFewest cX7_findFewest 5 (some .int) 5 125 fX7_findFewest := Mt.of (K := kX7_findFewest) (by decide +kernel) (fun _ _ _ => rfl) sX7_findFewest
theorem crX7_findFewest : yX7_findFewest.cls ≠ "java/lang/invoke/MethodHandle" ∧ yX7_findFewest.cls ≠ "java/lang/invoke/VarHandle" ∧ (parseMethodDescriptor yX7_findFewest.desc).map (fun d => d.parameters.length) = some 1 := by decide +kernel
theorem dX7_fewestToKnow_0 : decode cX7_fewestToKnow 0 = .ok (.aload_n 0, 1) := by decide +kernel
theorem dX7_fewestToKnow_1 : decode cX7_fewestToKnow 1 = .ok (.getfield 38, 3) := by decide +kernel
theorem dX7_fewestToKnow_4 : decode cX7_fewestToKnow 4 = .ok (.iload_n 1, 1) := by decide +kernel
theorem dX7_fewestToKnow_5 : decode cX7_fewestToKnow 5 = .ok (.iaload, 1) := by decide +kernel
theorem dX7_fewestToKnow_6 : decode cX7_fewestToKnow 6 = .ok (.iconst (-1), 1) := by decide +kernel
theorem dX7_fewestToKnow_7 : decode cX7_fewestToKnow 7 = .ok (.if_icmp .ne 14, 3) := by decide +kernel
theorem dX7_fewestToKnow_10 : decode cX7_fewestToKnow 10 = .ok (.aload_n 0, 1) := by decide +kernel
theorem dX7_fewestToKnow_11 : decode cX7_fewestToKnow 11 = .ok (.getfield 38, 3) := by decide +kernel
theorem dX7_fewestToKnow_14 : decode cX7_fewestToKnow 14 = .ok (.iload_n 1, 1) := by decide +kernel
theorem dX7_fewestToKnow_15 : decode cX7_fewestToKnow 15 = .ok (.aload_n 0, 1) := by decide +kernel
theorem dX7_fewestToKnow_16 : decode cX7_fewestToKnow 16 = .ok (.iload_n 1, 1) := by decide +kernel
theorem dX7_fewestToKnow_17 : decode cX7_fewestToKnow 17 = .ok (.invokevirtual 167, 3) := by decide +kernel
theorem dX7_fewestToKnow_20 : decode cX7_fewestToKnow 20 = .ok (.iastore, 1) := by decide +kernel
theorem dX7_fewestToKnow_21 : decode cX7_fewestToKnow 21 = .ok (.aload_n 0, 1) := by decide +kernel
theorem dX7_fewestToKnow_22 : decode cX7_fewestToKnow 22 = .ok (.getfield 38, 3) := by decide +kernel
theorem dX7_fewestToKnow_25 : decode cX7_fewestToKnow 25 = .ok (.iload_n 1, 1) := by decide +kernel
theorem dX7_fewestToKnow_26 : decode cX7_fewestToKnow 26 = .ok (.iaload, 1) := by decide +kernel
theorem dX7_fewestToKnow_27 : decode cX7_fewestToKnow 27 = .ok (.ireturn, 1) := by decide +kernel
abbrev mX7_fewestToKnow : MD := (cX7_fewestToKnow, "BlottedDeed$Table", 2, 6, 149, (some .int), "fewestToKnow", [])
def bX7_fewestToKnow_0 (g : GE) (J : Nat → KT) : KT := i_aload 0 (i_getf 7 10 (i_iload 1 (i_iaload (i_push (.int (-1)) (i_icne (i_jmp [true, true] (J 1)) (i_aload 0 (i_getf 7 10 (i_iload 1 (i_aload 0 (i_iload 1 (i_cv fX7_findFewest g 1 7 (i_iastore (i_jmp [true, true] (J 1))))))))))))))
def bX7_fewestToKnow_1 (g : GE) (J : Nat → KT) : KT := i_aload 0 (i_getf 7 10 (i_iload 1 (i_iaload (i_ireturn))))
theorem sbX7_fewestToKnow_0 (g : GE) (J : Nat → KT) (h1 : Snd mX7_fewestToKnow g 21 (J 1)) : Snd mX7_fewestToKnow g 0 (bX7_fewestToKnow_0 g J) := by
  unfold bX7_fewestToKnow_0
  refine s_aload_n (pc := 0) (i := 0) ?_ dX7_fewestToKnow_0 rfl
  refine s_getf (pc := 1) (ci := 7) (f := 10) (T := TX7) ?_ ginX7 rfl (by decide) wt_350 dX7_fewestToKnow_1
  refine s_iload_n (pc := 4) (i := 1) ?_ dX7_fewestToKnow_4 rfl
  refine s_iaload (pc := 5) ?_ dX7_fewestToKnow_5
  refine s_iconst (pc := 6) (v := (-1)) ?_ dX7_fewestToKnow_6 (by decide)
  refine s_icne (pc := 7) (tgt := 21) ?_ ?_ dX7_fewestToKnow_7 (by decide)
  · skip
    exact s_fall (pc := 21) h1
  · skip
    refine s_aload_n (pc := 10) (i := 0) ?_ dX7_fewestToKnow_10 rfl
    refine s_getf (pc := 11) (ci := 7) (f := 10) (T := TX7) ?_ ginX7 rfl (by decide) wt_350 dX7_fewestToKnow_11
    refine s_iload_n (pc := 14) (i := 1) ?_ dX7_fewestToKnow_14 rfl
    refine s_aload_n (pc := 15) (i := 0) ?_ dX7_fewestToKnow_15 rfl
    refine s_iload_n (pc := 16) (i := 1) ?_ dX7_fewestToKnow_16 rfl
    refine s_cv (pc := 17) (n := 1) (ci := 7) ?_ tX7_findFewest rfl rfl wt_1100 wt_1102 wp_37 wt_8 wt_1103 ⟨crX7_findFewest, by decide, by decide⟩ dX7_fewestToKnow_17
    refine s_iastore (pc := 20) ?_ dX7_fewestToKnow_20
    exact s_fall (pc := 21) h1
theorem sbX7_fewestToKnow_1 (g : GE) (J : Nat → KT) (h1 : Snd mX7_fewestToKnow g 21 (J 1)) : Snd mX7_fewestToKnow g 21 (bX7_fewestToKnow_1 g J) := by
  unfold bX7_fewestToKnow_1
  refine s_aload_n (pc := 21) (i := 0) ?_ dX7_fewestToKnow_21 rfl
  refine s_getf (pc := 22) (ci := 7) (f := 10) (T := TX7) ?_ ginX7 rfl (by decide) wt_350 dX7_fewestToKnow_22
  refine s_iload_n (pc := 25) (i := 1) ?_ dX7_fewestToKnow_25 rfl
  refine s_iaload (pc := 26) ?_ dX7_fewestToKnow_26
  exact s_ireturn (pc := 27) rfl dX7_fewestToKnow_27
def jX7_fewestToKnow (g : GE) : Nat → Nat → KT
  | 0, _ => fun _ _ _ => none
  | n + 1, 0 => bX7_fewestToKnow_0 g (jX7_fewestToKnow g n)
  | n + 1, 1 => bX7_fewestToKnow_1 g (jX7_fewestToKnow g n)
  | _ + 1, _ + 2 => fun _ _ _ => none
theorem sjX7_fewestToKnow (g : GE) : ∀ n, Snd mX7_fewestToKnow g 0 (jX7_fewestToKnow g n 0) ∧ Snd mX7_fewestToKnow g 21 (jX7_fewestToKnow g n 1)
  | 0 => ⟨s_none, s_none⟩
  | n + 1 => by
    obtain ⟨-, h1⟩ := sjX7_fewestToKnow g n
    exact ⟨sbX7_fewestToKnow_0 g _ h1, sbX7_fewestToKnow_1 g _ h1⟩
def kX7_fewestToKnow (g : GE) : KT := jX7_fewestToKnow g g.1 0
theorem sX7_fewestToKnow (g : GE) : Snd mX7_fewestToKnow g 0 (kX7_fewestToKnow g) := (sjX7_fewestToKnow g g.1).1
def fX7_fewestToKnow : FT := fun g av w => if (ent av).length ≤ 2 then kX7_fewestToKnow g [] (entp 2 av) w else none
theorem tX7_fewestToKnow : Mt yX7_fewestToKnow cX7_fewestToKnow 2 (some .int) 6 149 fX7_fewestToKnow := Mt.of (K := kX7_fewestToKnow) (by decide +kernel) (fun _ _ _ => rfl) sX7_fewestToKnow
theorem crX7_fewestToKnow : yX7_fewestToKnow.cls ≠ "java/lang/invoke/MethodHandle" ∧ yX7_fewestToKnow.cls ≠ "java/lang/invoke/VarHandle" ∧ (parseMethodDescriptor yX7_fewestToKnow.desc).map (fun d => d.parameters.length) = some 1 := by decide +kernel
theorem dX10_fewest_0 : decode cX10_fewest 0 = .ok (.aload_n 0, 1) := by decide +kernel
theorem dX10_fewest_1 : decode cX10_fewest 1 = .ok (.iload_n 1, 1) := by decide +kernel
theorem dX10_fewest_2 : decode cX10_fewest 2 = .ok (.invokevirtual 175, 3) := by decide +kernel
theorem dX10_fewest_5 : decode cX10_fewest 5 = .ok (.aload_n 0, 1) := by decide +kernel
theorem dX10_fewest_6 : decode cX10_fewest 6 = .ok (.iload_n 2, 1) := by decide +kernel
theorem dX10_fewest_7 : decode cX10_fewest 7 = .ok (.iconst 1, 1) := by decide +kernel
theorem dX10_fewest_8 : decode cX10_fewest 8 = .ok (.invokevirtual 104, 3) := by decide +kernel
theorem dX10_fewest_11 : decode cX10_fewest 11 = .ok (.aload_n 0, 1) := by decide +kernel
theorem dX10_fewest_12 : decode cX10_fewest 12 = .ok (.getfield 37, 3) := by decide +kernel
theorem dX10_fewest_15 : decode cX10_fewest 15 = .ok (.iload_n 1, 1) := by decide +kernel
theorem dX10_fewest_16 : decode cX10_fewest 16 = .ok (.invokevirtual 204, 3) := by decide +kernel
theorem dX10_fewest_19 : decode cX10_fewest 19 = .ok (.istore_n 3, 1) := by decide +kernel
theorem dX10_fewest_20 : decode cX10_fewest 20 = .ok (.iload_n 2, 1) := by decide +kernel
theorem dX10_fewest_21 : decode cX10_fewest 21 = .ok (.ifCond .ne 10, 3) := by decide +kernel
theorem dX10_fewest_24 : decode cX10_fewest 24 = .ok (.iload_n 3, 1) := by decide +kernel
theorem dX10_fewest_25 : decode cX10_fewest 25 = .ok (.invokestatic 207, 3) := by decide +kernel
theorem dX10_fewest_28 : decode cX10_fewest 28 = .ok (.goto 4, 3) := by decide +kernel
theorem dX10_fewest_31 : decode cX10_fewest 31 = .ok (.iload_n 3, 1) := by decide +kernel
theorem dX10_fewest_32 : decode cX10_fewest 32 = .ok (.ireturn, 1) := by decide +kernel
abbrev mX10_fewest : MD := (cX10_fewest, "BlottedDeed", 4, 8, 170, (some .int), "fewest", [])
def bX10_fewest_0 (g : GE) (J : Nat → KT) : KT := i_aload 0 (i_iload 1 (i_cvX fX10_needThing g 1 9 (i_aload 0 (i_iload 2 (i_push (.int 1) (i_cvX fX10_needWhat g 2 9 (i_aload 0 (i_getf 9 5 (i_iload 1 (i_cv fX7_fewestToKnow g 1 7 (i_istore 3 (i_iload 2 (i_ifne (i_iload 3 (i_jmp [false, false, false, false] (J 1))) (i_iload 3 (i_cs fJ6_bitCount_0f7a4 g 1 (i_jmp [false, false, false, false] (J 1)))))))))))))))))
def bX10_fewest_1 (g : GE) (J : Nat → KT) : KT := i_ireturn
theorem sbX10_fewest_0 (g : GE) (J : Nat → KT) (h1 : Snd mX10_fewest g 32 (J 1)) : Snd mX10_fewest g 0 (bX10_fewest_0 g J) := by
  unfold bX10_fewest_0
  refine s_aload_n (pc := 0) (i := 0) ?_ dX10_fewest_0 rfl
  refine s_iload_n (pc := 1) (i := 1) ?_ dX10_fewest_1 rfl
  refine s_cvX (pc := 2) (n := 1) (ci := 9) ?_ tX10_needThing rfl rfl wt_1030 wt_1032 wp_36 wt_1 wt_1033 ⟨crX10_needThing, by decide, by decide⟩ rfl dX10_fewest_2
  refine s_aload_n (pc := 5) (i := 0) ?_ dX10_fewest_5 rfl
  refine s_iload_n (pc := 6) (i := 2) ?_ dX10_fewest_6 rfl
  refine s_iconst (pc := 7) (v := 1) ?_ dX10_fewest_7 (by decide)
  refine s_cvX (pc := 8) (n := 2) (ci := 9) ?_ tX10_needWhat rfl rfl wt_920 wt_922 wp_31 wt_1 wt_923 ⟨crX10_needWhat, by decide, by decide⟩ rfl dX10_fewest_8
  refine s_aload_n (pc := 11) (i := 0) ?_ dX10_fewest_11 rfl
  refine s_getf (pc := 12) (ci := 9) (f := 5) (T := TX10) ?_ ginX10 rfl (by decide) wt_459 dX10_fewest_12
  refine s_iload_n (pc := 15) (i := 1) ?_ dX10_fewest_15 rfl
  refine s_cv (pc := 16) (n := 1) (ci := 7) ?_ tX7_fewestToKnow rfl rfl wt_1096 wt_1097 wt_1098 wt_8 wt_1099 ⟨crX7_fewestToKnow, by decide, by decide⟩ dX10_fewest_16
  refine s_istore_n (pc := 19) (i := 3) ?_ dX10_fewest_19 rfl (by decide)
  refine s_iload_n (pc := 20) (i := 2) ?_ dX10_fewest_20 rfl
  refine s_ifne (pc := 21) (tgt := 31) ?_ ?_ dX10_fewest_21 (by decide)
  · skip
    refine s_iload_n (pc := 31) (i := 3) ?_ dX10_fewest_31 rfl
    exact s_fall (pc := 32) h1
  · skip
    refine s_iload_n (pc := 24) (i := 3) ?_ dX10_fewest_24 rfl
    refine s_cs (pc := 25) (n := 1) ?_ tJ6_bitCount_0f7a4 wt_1116 wt_323 wt_13 wt_324 ⟨crJ6_bitCount_0f7a4, by decide, by decide⟩ dX10_fewest_25
    exact s_goto (pc := 28) (tgt := 32) h1 dX10_fewest_28 (by decide)
theorem sbX10_fewest_1 (g : GE) (J : Nat → KT) (h1 : Snd mX10_fewest g 32 (J 1)) : Snd mX10_fewest g 32 (bX10_fewest_1 g J) := by
  unfold bX10_fewest_1
  exact s_ireturn (pc := 32) rfl dX10_fewest_32
def jX10_fewest (g : GE) : Nat → Nat → KT
  | 0, _ => fun _ _ _ => none
  | n + 1, 0 => bX10_fewest_0 g (jX10_fewest g n)
  | n + 1, 1 => bX10_fewest_1 g (jX10_fewest g n)
  | _ + 1, _ + 2 => fun _ _ _ => none
theorem sjX10_fewest (g : GE) : ∀ n, Snd mX10_fewest g 0 (jX10_fewest g n 0) ∧ Snd mX10_fewest g 32 (jX10_fewest g n 1)
  | 0 => ⟨s_none, s_none⟩
  | n + 1 => by
    obtain ⟨-, h1⟩ := sjX10_fewest g n
    exact ⟨sbX10_fewest_0 g _ h1, sbX10_fewest_1 g _ h1⟩
def kX10_fewest (g : GE) : KT := jX10_fewest g g.1 0
theorem sX10_fewest (g : GE) : Snd mX10_fewest g 0 (kX10_fewest g) := (sjX10_fewest g g.1).1
def fX10_fewest : FT := fun g av w => if (ent av).length ≤ 4 then kX10_fewest g [] (entp 4 av) w else none
theorem tX10_fewest : Mt yX10_fewest cX10_fewest 4 (some .int) 8 170 fX10_fewest := Mt.of (K := kX10_fewest) (by decide +kernel) (fun _ _ _ => rfl) sX10_fewest
theorem crX10_fewest : yX10_fewest.cls ≠ "java/lang/invoke/MethodHandle" ∧ yX10_fewest.cls ≠ "java/lang/invoke/VarHandle" ∧ (parseMethodDescriptor yX10_fewest.desc).map (fun d => d.parameters.length) = some 2 := by decide +kernel
theorem dX10_forget_0 : decode cX10_forget 0 = .ok (.aload_n 0, 1) := by decide +kernel
theorem dX10_forget_1 : decode cX10_forget 1 = .ok (.getfield 58, 3) := by decide +kernel
theorem dX10_forget_4 : decode cX10_forget 4 = .ok (.getfield 240, 3) := by decide +kernel
theorem dX10_forget_7 : decode cX10_forget 7 = .ok (.aload_n 0, 1) := by decide +kernel
theorem dX10_forget_8 : decode cX10_forget 8 = .ok (.getfield 58, 3) := by decide +kernel
theorem dX10_forget_11 : decode cX10_forget 11 = .ok (.getfield 243, 3) := by decide +kernel
theorem dX10_forget_14 : decode cX10_forget 14 = .ok (.iadd, 1) := by decide +kernel
theorem dX10_forget_15 : decode cX10_forget 15 = .ok (.istore_n 1, 1) := by decide +kernel
theorem dX10_forget_16 : decode cX10_forget 16 = .ok (.aload_n 0, 1) := by decide +kernel
theorem dX10_forget_17 : decode cX10_forget 17 = .ok (.getfield 58, 3) := by decide +kernel
theorem dX10_forget_20 : decode cX10_forget 20 = .ok (.invokevirtual 92, 3) := by decide +kernel
theorem dX10_forget_23 : decode cX10_forget 23 = .ok (.iload_n 1, 1) := by decide +kernel
theorem dX10_forget_24 : decode cX10_forget 24 = .ok (.ireturn, 1) := by decide +kernel
abbrev mX10_forget : MD := (cX10_forget, "BlottedDeed", 2, 2, 50, (some .int), "forget", [])
def bX10_forget_0 (g : GE) (J : Nat → KT) : KT := i_aload 0 (i_getf 9 8 (i_getf 8 7 (i_aload 0 (i_getf 9 8 (i_getf 8 8 (i_iadd (i_istore 1 (i_aload 0 (i_getf 9 8 (i_cv fX8_clear g 0 8 (i_iload 1 (i_ireturn))))))))))))
theorem sbX10_forget_0 (g : GE) (J : Nat → KT)  : Snd mX10_forget g 0 (bX10_forget_0 g J) := by
  unfold bX10_forget_0
  refine s_aload_n (pc := 0) (i := 0) ?_ dX10_forget_0 rfl
  refine s_getf (pc := 1) (ci := 9) (f := 8) (T := TX10) ?_ ginX10 rfl (by decide) wt_462 dX10_forget_1
  refine s_getf (pc := 4) (ci := 8) (f := 7) (T := TX8) ?_ ginX8 rfl (by decide) wt_431 dX10_forget_4
  refine s_aload_n (pc := 7) (i := 0) ?_ dX10_forget_7 rfl
  refine s_getf (pc := 8) (ci := 9) (f := 8) (T := TX10) ?_ ginX10 rfl (by decide) wt_462 dX10_forget_8
  refine s_getf (pc := 11) (ci := 8) (f := 8) (T := TX8) ?_ ginX8 rfl (by decide) wt_433 dX10_forget_11
  refine s_iadd (pc := 14) ?_ dX10_forget_14
  refine s_istore_n (pc := 15) (i := 1) ?_ dX10_forget_15 rfl (by decide)
  refine s_aload_n (pc := 16) (i := 0) ?_ dX10_forget_16 rfl
  refine s_getf (pc := 17) (ci := 9) (f := 8) (T := TX10) ?_ ginX10 rfl (by decide) wt_462 dX10_forget_17
  refine s_cv (pc := 20) (n := 0) (ci := 8) ?_ tX8_clear rfl rfl wt_552 wt_553 wt_554 wt_16 wt_555 ⟨crX8_clear, by decide, by decide⟩ dX10_forget_20
  refine s_iload_n (pc := 23) (i := 1) ?_ dX10_forget_23 rfl
  exact s_ireturn (pc := 24) rfl dX10_forget_24
def kX10_forget (g : GE) : KT := bX10_forget_0 g (fun _ _ _ _ => none)
theorem sX10_forget (g : GE) : Snd mX10_forget g 0 (kX10_forget g) := sbX10_forget_0 g _
def fX10_forget : FT := fun g av w => if (ent av).length ≤ 2 then kX10_forget g [] (entp 2 av) w else none
theorem tX10_forget : Mt yX10_forget cX10_forget 2 (some .int) 2 50 fX10_forget := Mt.of (K := kX10_forget) (by decide +kernel) (fun _ _ _ => rfl) sX10_forget
theorem crX10_forget : yX10_forget.cls ≠ "java/lang/invoke/MethodHandle" ∧ yX10_forget.cls ≠ "java/lang/invoke/VarHandle" ∧ (parseMethodDescriptor yX10_forget.desc).map (fun d => d.parameters.length) = some 0 := by decide +kernel
theorem dX7_worthOf_0 : decode cX7_worthOf 0 = .ok (.aload_n 0, 1) := by decide +kernel
theorem dX7_worthOf_1 : decode cX7_worthOf 1 = .ok (.iload_n 1, 1) := by decide +kernel
theorem dX7_worthOf_2 : decode cX7_worthOf 2 = .ok (.iload_n 2, 1) := by decide +kernel
theorem dX7_worthOf_3 : decode cX7_worthOf 3 = .ok (.invokevirtual 124, 3) := by decide +kernel
theorem dX7_worthOf_6 : decode cX7_worthOf 6 = .ok (.istore_n 3, 1) := by decide +kernel
theorem dX7_worthOf_7 : decode cX7_worthOf 7 = .ok (.iconst 0, 1) := by decide +kernel
theorem dX7_worthOf_8 : decode cX7_worthOf 8 = .ok (.istore 4, 2) := by decide +kernel
theorem dX7_worthOf_10 : decode cX7_worthOf 10 = .ok (.iload 4, 2) := by decide +kernel
theorem dX7_worthOf_12 : decode cX7_worthOf 12 = .ok (.aload_n 0, 1) := by decide +kernel
theorem dX7_worthOf_13 : decode cX7_worthOf 13 = .ok (.getfield 45, 3) := by decide +kernel
theorem dX7_worthOf_16 : decode cX7_worthOf 16 = .ok (.getfield 127, 3) := by decide +kernel
theorem dX7_worthOf_19 : decode cX7_worthOf 19 = .ok (.if_icmp .ge 33, 3) := by decide +kernel
theorem dX7_worthOf_22 : decode cX7_worthOf 22 = .ok (.aload_n 0, 1) := by decide +kernel
theorem dX7_worthOf_23 : decode cX7_worthOf 23 = .ok (.iload_n 1, 1) := by decide +kernel
theorem dX7_worthOf_24 : decode cX7_worthOf 24 = .ok (.iload 4, 2) := by decide +kernel
theorem dX7_worthOf_26 : decode cX7_worthOf 26 = .ok (.invokevirtual 130, 3) := by decide +kernel
theorem dX7_worthOf_29 : decode cX7_worthOf 29 = .ok (.iload_n 2, 1) := by decide +kernel
theorem dX7_worthOf_30 : decode cX7_worthOf 30 = .ok (.if_icmp .ne 16, 3) := by decide +kernel
theorem dX7_worthOf_33 : decode cX7_worthOf 33 = .ok (.iload_n 3, 1) := by decide +kernel
theorem dX7_worthOf_34 : decode cX7_worthOf 34 = .ok (.aload_n 0, 1) := by decide +kernel
theorem dX7_worthOf_35 : decode cX7_worthOf 35 = .ok (.getfield 45, 3) := by decide +kernel
theorem dX7_worthOf_38 : decode cX7_worthOf 38 = .ok (.getfield 133, 3) := by decide +kernel
theorem dX7_worthOf_41 : decode cX7_worthOf 41 = .ok (.iload 4, 2) := by decide +kernel
theorem dX7_worthOf_43 : decode cX7_worthOf 43 = .ok (.iaload, 1) := by decide +kernel
theorem dX7_worthOf_44 : decode cX7_worthOf 44 = .ok (.iadd, 1) := by decide +kernel
theorem dX7_worthOf_45 : decode cX7_worthOf 45 = .ok (.istore_n 3, 1) := by decide +kernel
theorem dX7_worthOf_46 : decode cX7_worthOf 46 = .ok (.iinc 4 1, 3) := by decide +kernel
theorem dX7_worthOf_49 : decode cX7_worthOf 49 = .ok (.goto (-39), 3) := by decide +kernel
theorem dX7_worthOf_52 : decode cX7_worthOf 52 = .ok (.iload_n 3, 1) := by decide +kernel
theorem dX7_worthOf_53 : decode cX7_worthOf 53 = .ok (.ireturn, 1) := by decide +kernel
abbrev mX7_worthOf : MD := (cX7_worthOf, "BlottedDeed$Table", 5, 2, 52, (some .int), "worthOf", [])
def bX7_worthOf_0 (g : GE) (J : Nat → KT) : KT := i_aload 0 (i_iload 1 (i_iload 2 (i_cv fX7_coinOf g 2 7 (i_istore 3 (i_push (.int 0) (i_istore 4 (i_jmp [true, true, true, true, true] (J 1))))))))
def bX7_worthOf_1 (g : GE) (J : Nat → KT) : KT := i_iload 4 (i_aload 0 (i_getf 7 5 (i_getf 2 10 (i_icge (i_iload 3 (i_ireturn)) (i_aload 0 (i_iload 1 (i_iload 4 (i_cv fX7_ownerOf g 2 7 (i_iload 2 (i_icne (i_jmp [true, true, true, true, true] (J 2)) (i_iload 3 (i_aload 0 (i_getf 7 5 (i_getf 2 4 (i_iload 4 (i_iaload (i_iadd (i_istore 3 (i_jmp [true, true, true, true, true] (J 2))))))))))))))))))))
def bX7_worthOf_2 (g : GE) (J : Nat → KT) : KT := i_iinc 4 1 (i_jmp [true, true, true, true, true] (J 1))
theorem sbX7_worthOf_0 (g : GE) (J : Nat → KT) (h1 : Snd mX7_worthOf g 10 (J 1)) (h2 : Snd mX7_worthOf g 46 (J 2)) : Snd mX7_worthOf g 0 (bX7_worthOf_0 g J) := by
  unfold bX7_worthOf_0
  refine s_aload_n (pc := 0) (i := 0) ?_ dX7_worthOf_0 rfl
  refine s_iload_n (pc := 1) (i := 1) ?_ dX7_worthOf_1 rfl
  refine s_iload_n (pc := 2) (i := 2) ?_ dX7_worthOf_2 rfl
  refine s_cv (pc := 3) (n := 2) (ci := 7) ?_ tX7_coinOf rfl rfl wt_1022 wt_1015 wt_1016 wt_8 wt_1017 ⟨crX7_coinOf, by decide, by decide⟩ dX7_worthOf_3
  refine s_istore_n (pc := 6) (i := 3) ?_ dX7_worthOf_6 rfl (by decide)
  refine s_iconst (pc := 7) (v := 0) ?_ dX7_worthOf_7 (by decide)
  refine s_istore (pc := 8) (i := 4) ?_ dX7_worthOf_8 (by decide)
  exact s_fall (pc := 10) h1
theorem sbX7_worthOf_1 (g : GE) (J : Nat → KT) (h1 : Snd mX7_worthOf g 10 (J 1)) (h2 : Snd mX7_worthOf g 46 (J 2)) : Snd mX7_worthOf g 10 (bX7_worthOf_1 g J) := by
  unfold bX7_worthOf_1
  refine s_iload (pc := 10) (i := 4) ?_ dX7_worthOf_10
  refine s_aload_n (pc := 12) (i := 0) ?_ dX7_worthOf_12 rfl
  refine s_getf (pc := 13) (ci := 7) (f := 5) (T := TX7) ?_ ginX7 rfl (by decide) wt_345 dX7_worthOf_13
  refine s_getf (pc := 16) (ci := 2) (f := 10) (T := TX2) ?_ ginX2 rfl (by decide) wt_135 dX7_worthOf_16
  refine s_icge (pc := 19) (tgt := 52) ?_ ?_ dX7_worthOf_19 (by decide)
  · skip
    refine s_iload_n (pc := 52) (i := 3) ?_ dX7_worthOf_52 rfl
    exact s_ireturn (pc := 53) rfl dX7_worthOf_53
  · skip
    refine s_aload_n (pc := 22) (i := 0) ?_ dX7_worthOf_22 rfl
    refine s_iload_n (pc := 23) (i := 1) ?_ dX7_worthOf_23 rfl
    refine s_iload (pc := 24) (i := 4) ?_ dX7_worthOf_24
    refine s_cv (pc := 26) (n := 2) (ci := 7) ?_ tX7_ownerOf rfl rfl wt_593 wt_594 wt_595 wt_8 wt_596 ⟨crX7_ownerOf, by decide, by decide⟩ dX7_worthOf_26
    refine s_iload_n (pc := 29) (i := 2) ?_ dX7_worthOf_29 rfl
    refine s_icne (pc := 30) (tgt := 46) ?_ ?_ dX7_worthOf_30 (by decide)
    · skip
      exact s_fall (pc := 46) h2
    · skip
      refine s_iload_n (pc := 33) (i := 3) ?_ dX7_worthOf_33 rfl
      refine s_aload_n (pc := 34) (i := 0) ?_ dX7_worthOf_34 rfl
      refine s_getf (pc := 35) (ci := 7) (f := 5) (T := TX7) ?_ ginX7 rfl (by decide) wt_345 dX7_worthOf_35
      refine s_getf (pc := 38) (ci := 2) (f := 4) (T := TX2) ?_ ginX2 rfl (by decide) wt_117 dX7_worthOf_38
      refine s_iload (pc := 41) (i := 4) ?_ dX7_worthOf_41
      refine s_iaload (pc := 43) ?_ dX7_worthOf_43
      refine s_iadd (pc := 44) ?_ dX7_worthOf_44
      refine s_istore_n (pc := 45) (i := 3) ?_ dX7_worthOf_45 rfl (by decide)
      exact s_fall (pc := 46) h2
theorem sbX7_worthOf_2 (g : GE) (J : Nat → KT) (h1 : Snd mX7_worthOf g 10 (J 1)) (h2 : Snd mX7_worthOf g 46 (J 2)) : Snd mX7_worthOf g 46 (bX7_worthOf_2 g J) := by
  unfold bX7_worthOf_2
  refine s_iinc (pc := 46) (i := 4) (v := 1) ?_ dX7_worthOf_46 (by decide) (by decide)
  exact s_goto (pc := 49) (tgt := 10) h1 dX7_worthOf_49 (by decide)
def jX7_worthOf (g : GE) : Nat → Nat → KT
  | 0, _ => fun _ _ _ => none
  | n + 1, 0 => bX7_worthOf_0 g (jX7_worthOf g n)
  | n + 1, 1 => bX7_worthOf_1 g (jX7_worthOf g n)
  | n + 1, 2 => bX7_worthOf_2 g (jX7_worthOf g n)
  | _ + 1, _ + 3 => fun _ _ _ => none
theorem sjX7_worthOf (g : GE) : ∀ n, Snd mX7_worthOf g 0 (jX7_worthOf g n 0) ∧ Snd mX7_worthOf g 10 (jX7_worthOf g n 1) ∧ Snd mX7_worthOf g 46 (jX7_worthOf g n 2)
  | 0 => ⟨s_none, s_none, s_none⟩
  | n + 1 => by
    obtain ⟨-, h1, h2⟩ := sjX7_worthOf g n
    exact ⟨sbX7_worthOf_0 g _ h1 h2, sbX7_worthOf_1 g _ h1 h2, sbX7_worthOf_2 g _ h1 h2⟩
def kX7_worthOf (g : GE) : KT := jX7_worthOf g g.1 0
theorem sX7_worthOf (g : GE) : Snd mX7_worthOf g 0 (kX7_worthOf g) := (sjX7_worthOf g g.1).1
def fX7_worthOf : FT := fun g av w => if (ent av).length ≤ 5 then kX7_worthOf g [] (entp 5 av) w else none
theorem tX7_worthOf : Mt yX7_worthOf cX7_worthOf 5 (some .int) 2 52 fX7_worthOf := Mt.of (K := kX7_worthOf) (by decide +kernel) (fun _ _ _ => rfl) sX7_worthOf
theorem crX7_worthOf : yX7_worthOf.cls ≠ "java/lang/invoke/MethodHandle" ∧ yX7_worthOf.cls ≠ "java/lang/invoke/VarHandle" ∧ (parseMethodDescriptor yX7_worthOf.desc).map (fun d => d.parameters.length) = some 2 := by decide +kernel
theorem dX7_bestFor_0 : decode cX7_bestFor 0 = .ok (.iconst (-1), 1) := by decide +kernel
theorem dX7_bestFor_1 : decode cX7_bestFor 1 = .ok (.istore_n 2, 1) := by decide +kernel
theorem dX7_bestFor_2 : decode cX7_bestFor 2 = .ok (.iconst (-1), 1) := by decide +kernel
theorem dX7_bestFor_3 : decode cX7_bestFor 3 = .ok (.istore_n 3, 1) := by decide +kernel
theorem dX7_bestFor_4 : decode cX7_bestFor 4 = .ok (.iconst 0, 1) := by decide +kernel
theorem dX7_bestFor_5 : decode cX7_bestFor 5 = .ok (.istore 4, 2) := by decide +kernel
theorem dX7_bestFor_7 : decode cX7_bestFor 7 = .ok (.iload 4, 2) := by decide +kernel
theorem dX7_bestFor_9 : decode cX7_bestFor 9 = .ok (.aload_n 0, 1) := by decide +kernel
theorem dX7_bestFor_10 : decode cX7_bestFor 10 = .ok (.getfield 53, 3) := by decide +kernel
theorem dX7_bestFor_13 : decode cX7_bestFor 13 = .ok (.if_icmp .ge 30, 3) := by decide +kernel
theorem dX7_bestFor_16 : decode cX7_bestFor 16 = .ok (.aload_n 0, 1) := by decide +kernel
theorem dX7_bestFor_17 : decode cX7_bestFor 17 = .ok (.iload 4, 2) := by decide +kernel
theorem dX7_bestFor_19 : decode cX7_bestFor 19 = .ok (.iload_n 1, 1) := by decide +kernel
theorem dX7_bestFor_20 : decode cX7_bestFor 20 = .ok (.invokevirtual 142, 3) := by decide +kernel
theorem dX7_bestFor_23 : decode cX7_bestFor 23 = .ok (.istore 5, 2) := by decide +kernel
theorem dX7_bestFor_25 : decode cX7_bestFor 25 = .ok (.iload 5, 2) := by decide +kernel
theorem dX7_bestFor_27 : decode cX7_bestFor 27 = .ok (.iload_n 3, 1) := by decide +kernel
theorem dX7_bestFor_28 : decode cX7_bestFor 28 = .ok (.if_icmp .le 9, 3) := by decide +kernel
theorem dX7_bestFor_31 : decode cX7_bestFor 31 = .ok (.iload 5, 2) := by decide +kernel
theorem dX7_bestFor_33 : decode cX7_bestFor 33 = .ok (.istore_n 3, 1) := by decide +kernel
theorem dX7_bestFor_34 : decode cX7_bestFor 34 = .ok (.iload 4, 2) := by decide +kernel
theorem dX7_bestFor_36 : decode cX7_bestFor 36 = .ok (.istore_n 2, 1) := by decide +kernel
theorem dX7_bestFor_37 : decode cX7_bestFor 37 = .ok (.iinc 4 1, 3) := by decide +kernel
theorem dX7_bestFor_40 : decode cX7_bestFor 40 = .ok (.goto (-33), 3) := by decide +kernel
theorem dX7_bestFor_43 : decode cX7_bestFor 43 = .ok (.iload_n 2, 1) := by decide +kernel
theorem dX7_bestFor_44 : decode cX7_bestFor 44 = .ok (.ireturn, 1) := by decide +kernel
abbrev mX7_bestFor : MD := (cX7_bestFor, "BlottedDeed$Table", 6, 3, 76, (some .int), "bestFor", [])
def bX7_bestFor_0 (g : GE) (J : Nat → KT) : KT := i_push (.int (-1)) (i_istore 2 (i_push (.int (-1)) (i_istore 3 (i_push (.int 0) (i_istore 4 (i_jmp [true, true, true, true, true, false] (J 1)))))))
def bX7_bestFor_1 (g : GE) (J : Nat → KT) : KT := i_iload 4 (i_aload 0 (i_getf 7 2 (i_icge (i_iload 2 (i_ireturn)) (i_aload 0 (i_iload 4 (i_iload 1 (i_cv fX7_worthOf g 2 7 (i_istore 5 (i_iload 5 (i_iload 3 (i_icle (i_jmp [true, true, true, true, true, false] (J 2)) (i_iload 5 (i_istore 3 (i_iload 4 (i_istore 2 (i_jmp [true, true, true, true, true, false] (J 2)))))))))))))))))
def bX7_bestFor_2 (g : GE) (J : Nat → KT) : KT := i_iinc 4 1 (i_jmp [true, true, true, true, true, false] (J 1))
theorem sbX7_bestFor_0 (g : GE) (J : Nat → KT) (h1 : Snd mX7_bestFor g 7 (J 1)) (h2 : Snd mX7_bestFor g 37 (J 2)) : Snd mX7_bestFor g 0 (bX7_bestFor_0 g J) := by
  unfold bX7_bestFor_0
  refine s_iconst (pc := 0) (v := (-1)) ?_ dX7_bestFor_0 (by decide)
  refine s_istore_n (pc := 1) (i := 2) ?_ dX7_bestFor_1 rfl (by decide)
  refine s_iconst (pc := 2) (v := (-1)) ?_ dX7_bestFor_2 (by decide)
  refine s_istore_n (pc := 3) (i := 3) ?_ dX7_bestFor_3 rfl (by decide)
  refine s_iconst (pc := 4) (v := 0) ?_ dX7_bestFor_4 (by decide)
  refine s_istore (pc := 5) (i := 4) ?_ dX7_bestFor_5 (by decide)
  exact s_fall (pc := 7) h1
theorem sbX7_bestFor_1 (g : GE) (J : Nat → KT) (h1 : Snd mX7_bestFor g 7 (J 1)) (h2 : Snd mX7_bestFor g 37 (J 2)) : Snd mX7_bestFor g 7 (bX7_bestFor_1 g J) := by
  unfold bX7_bestFor_1
  refine s_iload (pc := 7) (i := 4) ?_ dX7_bestFor_7
  refine s_aload_n (pc := 9) (i := 0) ?_ dX7_bestFor_9 rfl
  refine s_getf (pc := 10) (ci := 7) (f := 2) (T := TX7) ?_ ginX7 rfl (by decide) wt_339 dX7_bestFor_10
  refine s_icge (pc := 13) (tgt := 43) ?_ ?_ dX7_bestFor_13 (by decide)
  · skip
    refine s_iload_n (pc := 43) (i := 2) ?_ dX7_bestFor_43 rfl
    exact s_ireturn (pc := 44) rfl dX7_bestFor_44
  · skip
    refine s_aload_n (pc := 16) (i := 0) ?_ dX7_bestFor_16 rfl
    refine s_iload (pc := 17) (i := 4) ?_ dX7_bestFor_17
    refine s_iload_n (pc := 19) (i := 1) ?_ dX7_bestFor_19 rfl
    refine s_cv (pc := 20) (n := 2) (ci := 7) ?_ tX7_worthOf rfl rfl wt_1076 wt_1019 wt_1020 wt_8 wt_1021 ⟨crX7_worthOf, by decide, by decide⟩ dX7_bestFor_20
    refine s_istore (pc := 23) (i := 5) ?_ dX7_bestFor_23 (by decide)
    refine s_iload (pc := 25) (i := 5) ?_ dX7_bestFor_25
    refine s_iload_n (pc := 27) (i := 3) ?_ dX7_bestFor_27 rfl
    refine s_icle (pc := 28) (tgt := 37) ?_ ?_ dX7_bestFor_28 (by decide)
    · skip
      exact s_fall (pc := 37) h2
    · skip
      refine s_iload (pc := 31) (i := 5) ?_ dX7_bestFor_31
      refine s_istore_n (pc := 33) (i := 3) ?_ dX7_bestFor_33 rfl (by decide)
      refine s_iload (pc := 34) (i := 4) ?_ dX7_bestFor_34
      refine s_istore_n (pc := 36) (i := 2) ?_ dX7_bestFor_36 rfl (by decide)
      exact s_fall (pc := 37) h2
theorem sbX7_bestFor_2 (g : GE) (J : Nat → KT) (h1 : Snd mX7_bestFor g 7 (J 1)) (h2 : Snd mX7_bestFor g 37 (J 2)) : Snd mX7_bestFor g 37 (bX7_bestFor_2 g J) := by
  unfold bX7_bestFor_2
  refine s_iinc (pc := 37) (i := 4) (v := 1) ?_ dX7_bestFor_37 (by decide) (by decide)
  exact s_goto (pc := 40) (tgt := 7) h1 dX7_bestFor_40 (by decide)
def jX7_bestFor (g : GE) : Nat → Nat → KT
  | 0, _ => fun _ _ _ => none
  | n + 1, 0 => bX7_bestFor_0 g (jX7_bestFor g n)
  | n + 1, 1 => bX7_bestFor_1 g (jX7_bestFor g n)
  | n + 1, 2 => bX7_bestFor_2 g (jX7_bestFor g n)
  | _ + 1, _ + 3 => fun _ _ _ => none
theorem sjX7_bestFor (g : GE) : ∀ n, Snd mX7_bestFor g 0 (jX7_bestFor g n 0) ∧ Snd mX7_bestFor g 7 (jX7_bestFor g n 1) ∧ Snd mX7_bestFor g 37 (jX7_bestFor g n 2)
  | 0 => ⟨s_none, s_none, s_none⟩
  | n + 1 => by
    obtain ⟨-, h1, h2⟩ := sjX7_bestFor g n
    exact ⟨sbX7_bestFor_0 g _ h1 h2, sbX7_bestFor_1 g _ h1 h2, sbX7_bestFor_2 g _ h1 h2⟩
def kX7_bestFor (g : GE) : KT := jX7_bestFor g g.1 0
theorem sX7_bestFor (g : GE) : Snd mX7_bestFor g 0 (kX7_bestFor g) := (sjX7_bestFor g g.1).1
def fX7_bestFor : FT := fun g av w => if (ent av).length ≤ 6 then kX7_bestFor g [] (entp 6 av) w else none
theorem tX7_bestFor : Mt yX7_bestFor cX7_bestFor 6 (some .int) 3 76 fX7_bestFor := Mt.of (K := kX7_bestFor) (by decide +kernel) (fun _ _ _ => rfl) sX7_bestFor
theorem crX7_bestFor : yX7_bestFor.cls ≠ "java/lang/invoke/MethodHandle" ∧ yX7_bestFor.cls ≠ "java/lang/invoke/VarHandle" ∧ (parseMethodDescriptor yX7_bestFor.desc).map (fun d => d.parameters.length) = some 1 := by decide +kernel
theorem dX7_gainsBy_0 : decode cX7_gainsBy 0 = .ok (.aload_n 0, 1) := by decide +kernel
theorem dX7_gainsBy_1 : decode cX7_gainsBy 1 = .ok (.iload_n 2, 1) := by decide +kernel
theorem dX7_gainsBy_2 : decode cX7_gainsBy 2 = .ok (.invokevirtual 164, 3) := by decide +kernel
theorem dX7_gainsBy_5 : decode cX7_gainsBy 5 = .ok (.istore_n 3, 1) := by decide +kernel
theorem dX7_gainsBy_6 : decode cX7_gainsBy 6 = .ok (.iload_n 3, 1) := by decide +kernel
theorem dX7_gainsBy_7 : decode cX7_gainsBy 7 = .ok (.iconst (-1), 1) := by decide +kernel
theorem dX7_gainsBy_8 : decode cX7_gainsBy 8 = .ok (.if_icmp .ne 5, 3) := by decide +kernel
theorem dX7_gainsBy_11 : decode cX7_gainsBy 11 = .ok (.iconst 0, 1) := by decide +kernel
theorem dX7_gainsBy_12 : decode cX7_gainsBy 12 = .ok (.ireturn, 1) := by decide +kernel
theorem dX7_gainsBy_13 : decode cX7_gainsBy 13 = .ok (.aload_n 0, 1) := by decide +kernel
theorem dX7_gainsBy_14 : decode cX7_gainsBy 14 = .ok (.getfield 32, 3) := by decide +kernel
theorem dX7_gainsBy_17 : decode cX7_gainsBy 17 = .ok (.iconst (-1), 1) := by decide +kernel
theorem dX7_gainsBy_18 : decode cX7_gainsBy 18 = .ok (.invokestatic 60, 3) := by decide +kernel
theorem dX7_gainsBy_21 : decode cX7_gainsBy 21 = .ok (.iconst 0, 1) := by decide +kernel
theorem dX7_gainsBy_22 : decode cX7_gainsBy 22 = .ok (.istore 4, 2) := by decide +kernel
theorem dX7_gainsBy_24 : decode cX7_gainsBy 24 = .ok (.iload 4, 2) := by decide +kernel
theorem dX7_gainsBy_26 : decode cX7_gainsBy 26 = .ok (.aload_n 0, 1) := by decide +kernel
theorem dX7_gainsBy_27 : decode cX7_gainsBy 27 = .ok (.getfield 53, 3) := by decide +kernel
theorem dX7_gainsBy_30 : decode cX7_gainsBy 30 = .ok (.if_icmp .ge 42, 3) := by decide +kernel
theorem dX7_gainsBy_33 : decode cX7_gainsBy 33 = .ok (.aload_n 0, 1) := by decide +kernel
theorem dX7_gainsBy_34 : decode cX7_gainsBy 34 = .ok (.iload 4, 2) := by decide +kernel
theorem dX7_gainsBy_36 : decode cX7_gainsBy 36 = .ok (.iload_n 1, 1) := by decide +kernel
theorem dX7_gainsBy_37 : decode cX7_gainsBy 37 = .ok (.invokevirtual 148, 3) := by decide +kernel
theorem dX7_gainsBy_40 : decode cX7_gainsBy 40 = .ok (.istore 5, 2) := by decide +kernel
theorem dX7_gainsBy_42 : decode cX7_gainsBy 42 = .ok (.aload_n 0, 1) := by decide +kernel
theorem dX7_gainsBy_43 : decode cX7_gainsBy 43 = .ok (.getfield 32, 3) := by decide +kernel
theorem dX7_gainsBy_46 : decode cX7_gainsBy 46 = .ok (.iload 5, 2) := by decide +kernel
theorem dX7_gainsBy_48 : decode cX7_gainsBy 48 = .ok (.aload_n 0, 1) := by decide +kernel
theorem dX7_gainsBy_49 : decode cX7_gainsBy 49 = .ok (.getfield 32, 3) := by decide +kernel
theorem dX7_gainsBy_52 : decode cX7_gainsBy 52 = .ok (.iload 5, 2) := by decide +kernel
theorem dX7_gainsBy_54 : decode cX7_gainsBy 54 = .ok (.iaload, 1) := by decide +kernel
theorem dX7_gainsBy_55 : decode cX7_gainsBy 55 = .ok (.aload_n 0, 1) := by decide +kernel
theorem dX7_gainsBy_56 : decode cX7_gainsBy 56 = .ok (.iload 4, 2) := by decide +kernel
theorem dX7_gainsBy_58 : decode cX7_gainsBy 58 = .ok (.iload_n 2, 1) := by decide +kernel
theorem dX7_gainsBy_59 : decode cX7_gainsBy 59 = .ok (.invokevirtual 142, 3) := by decide +kernel
theorem dX7_gainsBy_62 : decode cX7_gainsBy 62 = .ok (.invokestatic 139, 3) := by decide +kernel
theorem dX7_gainsBy_65 : decode cX7_gainsBy 65 = .ok (.iastore, 1) := by decide +kernel
theorem dX7_gainsBy_66 : decode cX7_gainsBy 66 = .ok (.iinc 4 1, 3) := by decide +kernel
theorem dX7_gainsBy_69 : decode cX7_gainsBy 69 = .ok (.goto (-45), 3) := by decide +kernel
theorem dX7_gainsBy_72 : decode cX7_gainsBy 72 = .ok (.aload_n 0, 1) := by decide +kernel
theorem dX7_gainsBy_73 : decode cX7_gainsBy 73 = .ok (.iload_n 3, 1) := by decide +kernel
theorem dX7_gainsBy_74 : decode cX7_gainsBy 74 = .ok (.iload_n 2, 1) := by decide +kernel
theorem dX7_gainsBy_75 : decode cX7_gainsBy 75 = .ok (.invokevirtual 142, 3) := by decide +kernel
theorem dX7_gainsBy_78 : decode cX7_gainsBy 78 = .ok (.istore 4, 2) := by decide +kernel
theorem dX7_gainsBy_80 : decode cX7_gainsBy 80 = .ok (.iconst 0, 1) := by decide +kernel
theorem dX7_gainsBy_81 : decode cX7_gainsBy 81 = .ok (.istore 5, 2) := by decide +kernel
theorem dX7_gainsBy_83 : decode cX7_gainsBy 83 = .ok (.iload 5, 2) := by decide +kernel
theorem dX7_gainsBy_85 : decode cX7_gainsBy 85 = .ok (.bipush 100, 2) := by decide +kernel
theorem dX7_gainsBy_87 : decode cX7_gainsBy 87 = .ok (.if_icmp .ge 34, 3) := by decide +kernel
theorem dX7_gainsBy_90 : decode cX7_gainsBy 90 = .ok (.aload_n 0, 1) := by decide +kernel
theorem dX7_gainsBy_91 : decode cX7_gainsBy 91 = .ok (.getfield 32, 3) := by decide +kernel
theorem dX7_gainsBy_94 : decode cX7_gainsBy 94 = .ok (.iload 5, 2) := by decide +kernel
theorem dX7_gainsBy_96 : decode cX7_gainsBy 96 = .ok (.iaload, 1) := by decide +kernel
theorem dX7_gainsBy_97 : decode cX7_gainsBy 97 = .ok (.iconst (-1), 1) := by decide +kernel
theorem dX7_gainsBy_98 : decode cX7_gainsBy 98 = .ok (.if_icmp .eq 17, 3) := by decide +kernel
theorem dX7_gainsBy_101 : decode cX7_gainsBy 101 = .ok (.aload_n 0, 1) := by decide +kernel
theorem dX7_gainsBy_102 : decode cX7_gainsBy 102 = .ok (.getfield 32, 3) := by decide +kernel
theorem dX7_gainsBy_105 : decode cX7_gainsBy 105 = .ok (.iload 5, 2) := by decide +kernel
theorem dX7_gainsBy_107 : decode cX7_gainsBy 107 = .ok (.iaload, 1) := by decide +kernel
theorem dX7_gainsBy_108 : decode cX7_gainsBy 108 = .ok (.iload 4, 2) := by decide +kernel
theorem dX7_gainsBy_110 : decode cX7_gainsBy 110 = .ok (.if_icmp .ge 5, 3) := by decide +kernel
theorem dX7_gainsBy_113 : decode cX7_gainsBy 113 = .ok (.iconst 1, 1) := by decide +kernel
theorem dX7_gainsBy_114 : decode cX7_gainsBy 114 = .ok (.ireturn, 1) := by decide +kernel
theorem dX7_gainsBy_115 : decode cX7_gainsBy 115 = .ok (.iinc 5 1, 3) := by decide +kernel
theorem dX7_gainsBy_118 : decode cX7_gainsBy 118 = .ok (.goto (-35), 3) := by decide +kernel
theorem dX7_gainsBy_121 : decode cX7_gainsBy 121 = .ok (.iconst 0, 1) := by decide +kernel
theorem dX7_gainsBy_122 : decode cX7_gainsBy 122 = .ok (.ireturn, 1) := by decide +kernel
abbrev mX7_gainsBy : MD := (cX7_gainsBy, "BlottedDeed$Table", 6, 4, 101, (some .boolean), "gainsBy", [])
def bX7_gainsBy_0 (g : GE) (J : Nat → KT) : KT := i_aload 0 (i_iload 2 (i_cv fX7_bestFor g 1 7 (i_istore 3 (i_iload 3 (i_push (.int (-1)) (i_icne (i_aload 0 (i_getf 7 8 (i_push (.int (-1)) (i_cs fJ7_fill_53178 g 2 (i_push (.int 0) (i_istore 4 (i_jmp [true, true, true, true, true, false] (J 1)))))))) (i_push (.int 0) (i_zreturn))))))))
def bX7_gainsBy_1 (g : GE) (J : Nat → KT) : KT := i_iload 4 (i_aload 0 (i_getf 7 2 (i_icge (i_aload 0 (i_iload 3 (i_iload 2 (i_cv fX7_worthOf g 2 7 (i_istore 4 (i_push (.int 0) (i_istore 5 (i_jmp [true, false, false, false, true, true] (J 2))))))))) (i_aload 0 (i_iload 4 (i_iload 1 (i_cv fX7_digit g 2 7 (i_istore 5 (i_aload 0 (i_getf 7 8 (i_iload 5 (i_aload 0 (i_getf 7 8 (i_iload 5 (i_iaload (i_aload 0 (i_iload 4 (i_iload 2 (i_cv fX7_worthOf g 2 7 (i_max (i_iastore (i_iinc 4 1 (i_jmp [true, true, true, true, true, false] (J 1))))))))))))))))))))))))
def bX7_gainsBy_2 (g : GE) (J : Nat → KT) : KT := i_iload 5 (i_push (.int 100) (i_icge (i_push (.int 0) (i_zreturn)) (i_aload 0 (i_getf 7 8 (i_iload 5 (i_iaload (i_push (.int (-1)) (i_iceq (i_jmp [true, false, false, false, true, true] (J 3)) (i_aload 0 (i_getf 7 8 (i_iload 5 (i_iaload (i_iload 4 (i_icge (i_jmp [true, false, false, false, true, true] (J 3)) (i_push (.int 1) (i_zreturn))))))))))))))))
def bX7_gainsBy_3 (g : GE) (J : Nat → KT) : KT := i_iinc 5 1 (i_jmp [true, false, false, false, true, true] (J 2))
theorem sbX7_gainsBy_0 (g : GE) (J : Nat → KT) (h1 : Snd mX7_gainsBy g 24 (J 1)) (h2 : Snd mX7_gainsBy g 83 (J 2)) (h3 : Snd mX7_gainsBy g 115 (J 3)) : Snd mX7_gainsBy g 0 (bX7_gainsBy_0 g J) := by
  unfold bX7_gainsBy_0
  refine s_aload_n (pc := 0) (i := 0) ?_ dX7_gainsBy_0 rfl
  refine s_iload_n (pc := 1) (i := 2) ?_ dX7_gainsBy_1 rfl
  refine s_cv (pc := 2) (n := 1) (ci := 7) ?_ tX7_bestFor rfl rfl wt_1139 wt_1073 wt_1074 wt_8 wt_1075 ⟨crX7_bestFor, by decide, by decide⟩ dX7_gainsBy_2
  refine s_istore_n (pc := 5) (i := 3) ?_ dX7_gainsBy_5 rfl (by decide)
  refine s_iload_n (pc := 6) (i := 3) ?_ dX7_gainsBy_6 rfl
  refine s_iconst (pc := 7) (v := (-1)) ?_ dX7_gainsBy_7 (by decide)
  refine s_icne (pc := 8) (tgt := 13) ?_ ?_ dX7_gainsBy_8 (by decide)
  · skip
    refine s_aload_n (pc := 13) (i := 0) ?_ dX7_gainsBy_13 rfl
    refine s_getf (pc := 14) (ci := 7) (f := 8) (T := TX7) ?_ ginX7 rfl (by decide) wt_348 dX7_gainsBy_14
    refine s_iconst (pc := 17) (v := (-1)) ?_ dX7_gainsBy_17 (by decide)
    refine s_cs (pc := 18) (n := 2) ?_ tJ7_fill_53178 wt_260 wt_261 wt_10 wt_262 ⟨crJ7_fill_53178, by decide, by decide⟩ dX7_gainsBy_18
    refine s_iconst (pc := 21) (v := 0) ?_ dX7_gainsBy_21 (by decide)
    refine s_istore (pc := 22) (i := 4) ?_ dX7_gainsBy_22 (by decide)
    exact s_fall (pc := 24) h1
  · skip
    refine s_iconst (pc := 11) (v := 0) ?_ dX7_gainsBy_11 (by decide)
    exact s_zreturn (pc := 12) rfl dX7_gainsBy_12
theorem sbX7_gainsBy_1 (g : GE) (J : Nat → KT) (h1 : Snd mX7_gainsBy g 24 (J 1)) (h2 : Snd mX7_gainsBy g 83 (J 2)) (h3 : Snd mX7_gainsBy g 115 (J 3)) : Snd mX7_gainsBy g 24 (bX7_gainsBy_1 g J) := by
  unfold bX7_gainsBy_1
  refine s_iload (pc := 24) (i := 4) ?_ dX7_gainsBy_24
  refine s_aload_n (pc := 26) (i := 0) ?_ dX7_gainsBy_26 rfl
  refine s_getf (pc := 27) (ci := 7) (f := 2) (T := TX7) ?_ ginX7 rfl (by decide) wt_339 dX7_gainsBy_27
  refine s_icge (pc := 30) (tgt := 72) ?_ ?_ dX7_gainsBy_30 (by decide)
  · skip
    refine s_aload_n (pc := 72) (i := 0) ?_ dX7_gainsBy_72 rfl
    refine s_iload_n (pc := 73) (i := 3) ?_ dX7_gainsBy_73 rfl
    refine s_iload_n (pc := 74) (i := 2) ?_ dX7_gainsBy_74 rfl
    refine s_cv (pc := 75) (n := 2) (ci := 7) ?_ tX7_worthOf rfl rfl wt_1076 wt_1019 wt_1020 wt_8 wt_1021 ⟨crX7_worthOf, by decide, by decide⟩ dX7_gainsBy_75
    refine s_istore (pc := 78) (i := 4) ?_ dX7_gainsBy_78 (by decide)
    refine s_iconst (pc := 80) (v := 0) ?_ dX7_gainsBy_80 (by decide)
    refine s_istore (pc := 81) (i := 5) ?_ dX7_gainsBy_81 (by decide)
    exact s_fall (pc := 83) h2
  · skip
    refine s_aload_n (pc := 33) (i := 0) ?_ dX7_gainsBy_33 rfl
    refine s_iload (pc := 34) (i := 4) ?_ dX7_gainsBy_34
    refine s_iload_n (pc := 36) (i := 1) ?_ dX7_gainsBy_36 rfl
    refine s_cv (pc := 37) (n := 2) (ci := 7) ?_ tX7_digit rfl rfl wt_538 wt_539 wt_540 wt_8 wt_541 ⟨crX7_digit, by decide, by decide⟩ dX7_gainsBy_37
    refine s_istore (pc := 40) (i := 5) ?_ dX7_gainsBy_40 (by decide)
    refine s_aload_n (pc := 42) (i := 0) ?_ dX7_gainsBy_42 rfl
    refine s_getf (pc := 43) (ci := 7) (f := 8) (T := TX7) ?_ ginX7 rfl (by decide) wt_348 dX7_gainsBy_43
    refine s_iload (pc := 46) (i := 5) ?_ dX7_gainsBy_46
    refine s_aload_n (pc := 48) (i := 0) ?_ dX7_gainsBy_48 rfl
    refine s_getf (pc := 49) (ci := 7) (f := 8) (T := TX7) ?_ ginX7 rfl (by decide) wt_348 dX7_gainsBy_49
    refine s_iload (pc := 52) (i := 5) ?_ dX7_gainsBy_52
    refine s_iaload (pc := 54) ?_ dX7_gainsBy_54
    refine s_aload_n (pc := 55) (i := 0) ?_ dX7_gainsBy_55 rfl
    refine s_iload (pc := 56) (i := 4) ?_ dX7_gainsBy_56
    refine s_iload_n (pc := 58) (i := 2) ?_ dX7_gainsBy_58 rfl
    refine s_cv (pc := 59) (n := 2) (ci := 7) ?_ tX7_worthOf rfl rfl wt_1076 wt_1019 wt_1020 wt_8 wt_1021 ⟨crX7_worthOf, by decide, by decide⟩ dX7_gainsBy_59
    refine s_max (pc := 62) ?_ wt_545 wt_546 wt_12 wt_547 (by decide) dX7_gainsBy_62
    refine s_iastore (pc := 65) ?_ dX7_gainsBy_65
    refine s_iinc (pc := 66) (i := 4) (v := 1) ?_ dX7_gainsBy_66 (by decide) (by decide)
    exact s_goto (pc := 69) (tgt := 24) h1 dX7_gainsBy_69 (by decide)
theorem sbX7_gainsBy_2 (g : GE) (J : Nat → KT) (h1 : Snd mX7_gainsBy g 24 (J 1)) (h2 : Snd mX7_gainsBy g 83 (J 2)) (h3 : Snd mX7_gainsBy g 115 (J 3)) : Snd mX7_gainsBy g 83 (bX7_gainsBy_2 g J) := by
  unfold bX7_gainsBy_2
  refine s_iload (pc := 83) (i := 5) ?_ dX7_gainsBy_83
  refine s_bipush (pc := 85) (v := 100) ?_ dX7_gainsBy_85 (by decide)
  refine s_icge (pc := 87) (tgt := 121) ?_ ?_ dX7_gainsBy_87 (by decide)
  · skip
    refine s_iconst (pc := 121) (v := 0) ?_ dX7_gainsBy_121 (by decide)
    exact s_zreturn (pc := 122) rfl dX7_gainsBy_122
  · skip
    refine s_aload_n (pc := 90) (i := 0) ?_ dX7_gainsBy_90 rfl
    refine s_getf (pc := 91) (ci := 7) (f := 8) (T := TX7) ?_ ginX7 rfl (by decide) wt_348 dX7_gainsBy_91
    refine s_iload (pc := 94) (i := 5) ?_ dX7_gainsBy_94
    refine s_iaload (pc := 96) ?_ dX7_gainsBy_96
    refine s_iconst (pc := 97) (v := (-1)) ?_ dX7_gainsBy_97 (by decide)
    refine s_iceq (pc := 98) (tgt := 115) ?_ ?_ dX7_gainsBy_98 (by decide)
    · skip
      exact s_fall (pc := 115) h3
    · skip
      refine s_aload_n (pc := 101) (i := 0) ?_ dX7_gainsBy_101 rfl
      refine s_getf (pc := 102) (ci := 7) (f := 8) (T := TX7) ?_ ginX7 rfl (by decide) wt_348 dX7_gainsBy_102
      refine s_iload (pc := 105) (i := 5) ?_ dX7_gainsBy_105
      refine s_iaload (pc := 107) ?_ dX7_gainsBy_107
      refine s_iload (pc := 108) (i := 4) ?_ dX7_gainsBy_108
      refine s_icge (pc := 110) (tgt := 115) ?_ ?_ dX7_gainsBy_110 (by decide)
      · skip
        exact s_fall (pc := 115) h3
      · skip
        refine s_iconst (pc := 113) (v := 1) ?_ dX7_gainsBy_113 (by decide)
        exact s_zreturn (pc := 114) rfl dX7_gainsBy_114
theorem sbX7_gainsBy_3 (g : GE) (J : Nat → KT) (h1 : Snd mX7_gainsBy g 24 (J 1)) (h2 : Snd mX7_gainsBy g 83 (J 2)) (h3 : Snd mX7_gainsBy g 115 (J 3)) : Snd mX7_gainsBy g 115 (bX7_gainsBy_3 g J) := by
  unfold bX7_gainsBy_3
  refine s_iinc (pc := 115) (i := 5) (v := 1) ?_ dX7_gainsBy_115 (by decide) (by decide)
  exact s_goto (pc := 118) (tgt := 83) h2 dX7_gainsBy_118 (by decide)
def jX7_gainsBy (g : GE) : Nat → Nat → KT
  | 0, _ => fun _ _ _ => none
  | n + 1, 0 => bX7_gainsBy_0 g (jX7_gainsBy g n)
  | n + 1, 1 => bX7_gainsBy_1 g (jX7_gainsBy g n)
  | n + 1, 2 => bX7_gainsBy_2 g (jX7_gainsBy g n)
  | n + 1, 3 => bX7_gainsBy_3 g (jX7_gainsBy g n)
  | _ + 1, _ + 4 => fun _ _ _ => none
theorem sjX7_gainsBy (g : GE) : ∀ n, Snd mX7_gainsBy g 0 (jX7_gainsBy g n 0) ∧ Snd mX7_gainsBy g 24 (jX7_gainsBy g n 1) ∧ Snd mX7_gainsBy g 83 (jX7_gainsBy g n 2) ∧ Snd mX7_gainsBy g 115 (jX7_gainsBy g n 3)
  | 0 => ⟨s_none, s_none, s_none, s_none⟩
  | n + 1 => by
    obtain ⟨-, h1, h2, h3⟩ := sjX7_gainsBy g n
    exact ⟨sbX7_gainsBy_0 g _ h1 h2 h3, sbX7_gainsBy_1 g _ h1 h2 h3, sbX7_gainsBy_2 g _ h1 h2 h3, sbX7_gainsBy_3 g _ h1 h2 h3⟩
def kX7_gainsBy (g : GE) : KT := jX7_gainsBy g g.1 0
theorem sX7_gainsBy (g : GE) : Snd mX7_gainsBy g 0 (kX7_gainsBy g) := (sjX7_gainsBy g g.1).1
def fX7_gainsBy : FT := fun g av w => if (ent av).length ≤ 6 then kX7_gainsBy g [] (entp 6 av) w else none
theorem tX7_gainsBy : Mt yX7_gainsBy cX7_gainsBy 6 (some .boolean) 4 101 fX7_gainsBy := Mt.of (K := kX7_gainsBy) (by decide +kernel) (fun _ _ _ => rfl) sX7_gainsBy
theorem crX7_gainsBy : yX7_gainsBy.cls ≠ "java/lang/invoke/MethodHandle" ∧ yX7_gainsBy.cls ≠ "java/lang/invoke/VarHandle" ∧ (parseMethodDescriptor yX7_gainsBy.desc).map (fun d => d.parameters.length) = some 2 := by decide +kernel
theorem dX10_gains_0 : decode cX10_gains 0 = .ok (.aload_n 0, 1) := by decide +kernel
theorem dX10_gains_1 : decode cX10_gains 1 = .ok (.iload_n 1, 1) := by decide +kernel
theorem dX10_gains_2 : decode cX10_gains 2 = .ok (.invokevirtual 126, 3) := by decide +kernel
theorem dX10_gains_5 : decode cX10_gains 5 = .ok (.iconst 0, 1) := by decide +kernel
theorem dX10_gains_6 : decode cX10_gains 6 = .ok (.istore_n 2, 1) := by decide +kernel
theorem dX10_gains_7 : decode cX10_gains 7 = .ok (.iconst 0, 1) := by decide +kernel
theorem dX10_gains_8 : decode cX10_gains 8 = .ok (.istore_n 3, 1) := by decide +kernel
theorem dX10_gains_9 : decode cX10_gains 9 = .ok (.iload_n 3, 1) := by decide +kernel
theorem dX10_gains_10 : decode cX10_gains 10 = .ok (.aload_n 0, 1) := by decide +kernel
theorem dX10_gains_11 : decode cX10_gains 11 = .ok (.getfield 16, 3) := by decide +kernel
theorem dX10_gains_14 : decode cX10_gains 14 = .ok (.getfield 108, 3) := by decide +kernel
theorem dX10_gains_17 : decode cX10_gains 17 = .ok (.if_icmp .ge 27, 3) := by decide +kernel
theorem dX10_gains_20 : decode cX10_gains 20 = .ok (.aload_n 0, 1) := by decide +kernel
theorem dX10_gains_21 : decode cX10_gains 21 = .ok (.getfield 37, 3) := by decide +kernel
theorem dX10_gains_24 : decode cX10_gains 24 = .ok (.iload_n 1, 1) := by decide +kernel
theorem dX10_gains_25 : decode cX10_gains 25 = .ok (.iload_n 3, 1) := by decide +kernel
theorem dX10_gains_26 : decode cX10_gains 26 = .ok (.invokevirtual 215, 3) := by decide +kernel
theorem dX10_gains_29 : decode cX10_gains 29 = .ok (.ifCond .eq 9, 3) := by decide +kernel
theorem dX10_gains_32 : decode cX10_gains 32 = .ok (.iload_n 2, 1) := by decide +kernel
theorem dX10_gains_33 : decode cX10_gains 33 = .ok (.iconst 1, 1) := by decide +kernel
theorem dX10_gains_34 : decode cX10_gains 34 = .ok (.iload_n 3, 1) := by decide +kernel
theorem dX10_gains_35 : decode cX10_gains 35 = .ok (.ishl, 1) := by decide +kernel
theorem dX10_gains_36 : decode cX10_gains 36 = .ok (.ior, 1) := by decide +kernel
theorem dX10_gains_37 : decode cX10_gains 37 = .ok (.istore_n 2, 1) := by decide +kernel
theorem dX10_gains_38 : decode cX10_gains 38 = .ok (.iinc 3 1, 3) := by decide +kernel
theorem dX10_gains_41 : decode cX10_gains 41 = .ok (.goto (-32), 3) := by decide +kernel
theorem dX10_gains_44 : decode cX10_gains 44 = .ok (.iload_n 2, 1) := by decide +kernel
theorem dX10_gains_45 : decode cX10_gains 45 = .ok (.ireturn, 1) := by decide +kernel
abbrev mX10_gains : MD := (cX10_gains, "BlottedDeed", 4, 7, 126, (some .int), "gains", [])
def bX10_gains_0 (g : GE) (J : Nat → KT) : KT := i_aload 0 (i_iload 1 (i_cvX fX10_needBlot g 1 9 (i_push (.int 0) (i_istore 2 (i_push (.int 0) (i_istore 3 (i_jmp [true, true, true, true] (J 1))))))))
def bX10_gains_1 (g : GE) (J : Nat → KT) : KT := i_iload 3 (i_aload 0 (i_getf 9 3 (i_getf 2 9 (i_icge (i_iload 2 (i_ireturn)) (i_aload 0 (i_getf 9 5 (i_iload 1 (i_iload 3 (i_cv fX7_gainsBy g 2 7 (i_ifeq (i_jmp [true, true, true, true] (J 2)) (i_iload 2 (i_push (.int 1) (i_iload 3 (i_ishl (i_ior (i_istore 2 (i_jmp [true, true, true, true] (J 2))))))))))))))))))
def bX10_gains_2 (g : GE) (J : Nat → KT) : KT := i_iinc 3 1 (i_jmp [true, true, true, true] (J 1))
theorem sbX10_gains_0 (g : GE) (J : Nat → KT) (h1 : Snd mX10_gains g 9 (J 1)) (h2 : Snd mX10_gains g 38 (J 2)) : Snd mX10_gains g 0 (bX10_gains_0 g J) := by
  unfold bX10_gains_0
  refine s_aload_n (pc := 0) (i := 0) ?_ dX10_gains_0 rfl
  refine s_iload_n (pc := 1) (i := 1) ?_ dX10_gains_1 rfl
  refine s_cvX (pc := 2) (n := 1) (ci := 9) ?_ tX10_needBlot rfl rfl wt_932 wt_934 wp_32 wt_1 wt_935 ⟨crX10_needBlot, by decide, by decide⟩ rfl dX10_gains_2
  refine s_iconst (pc := 5) (v := 0) ?_ dX10_gains_5 (by decide)
  refine s_istore_n (pc := 6) (i := 2) ?_ dX10_gains_6 rfl (by decide)
  refine s_iconst (pc := 7) (v := 0) ?_ dX10_gains_7 (by decide)
  refine s_istore_n (pc := 8) (i := 3) ?_ dX10_gains_8 rfl (by decide)
  exact s_fall (pc := 9) h1
theorem sbX10_gains_1 (g : GE) (J : Nat → KT) (h1 : Snd mX10_gains g 9 (J 1)) (h2 : Snd mX10_gains g 38 (J 2)) : Snd mX10_gains g 9 (bX10_gains_1 g J) := by
  unfold bX10_gains_1
  refine s_iload_n (pc := 9) (i := 3) ?_ dX10_gains_9 rfl
  refine s_aload_n (pc := 10) (i := 0) ?_ dX10_gains_10 rfl
  refine s_getf (pc := 11) (ci := 9) (f := 3) (T := TX10) ?_ ginX10 rfl (by decide) wt_457 dX10_gains_11
  refine s_getf (pc := 14) (ci := 2) (f := 9) (T := TX2) ?_ ginX2 rfl (by decide) wt_131 dX10_gains_14
  refine s_icge (pc := 17) (tgt := 44) ?_ ?_ dX10_gains_17 (by decide)
  · skip
    refine s_iload_n (pc := 44) (i := 2) ?_ dX10_gains_44 rfl
    exact s_ireturn (pc := 45) rfl dX10_gains_45
  · skip
    refine s_aload_n (pc := 20) (i := 0) ?_ dX10_gains_20 rfl
    refine s_getf (pc := 21) (ci := 9) (f := 5) (T := TX10) ?_ ginX10 rfl (by decide) wt_459 dX10_gains_21
    refine s_iload_n (pc := 24) (i := 1) ?_ dX10_gains_24 rfl
    refine s_iload_n (pc := 25) (i := 3) ?_ dX10_gains_25 rfl
    refine s_cv (pc := 26) (n := 2) (ci := 7) ?_ tX7_gainsBy rfl rfl wt_1135 wt_1136 wt_1137 wt_8 wt_1138 ⟨crX7_gainsBy, by decide, by decide⟩ dX10_gains_26
    refine s_ifeq (pc := 29) (tgt := 38) ?_ ?_ dX10_gains_29 (by decide)
    · skip
      exact s_fall (pc := 38) h2
    · skip
      refine s_iload_n (pc := 32) (i := 2) ?_ dX10_gains_32 rfl
      refine s_iconst (pc := 33) (v := 1) ?_ dX10_gains_33 (by decide)
      refine s_iload_n (pc := 34) (i := 3) ?_ dX10_gains_34 rfl
      refine s_ishl (pc := 35) ?_ dX10_gains_35
      refine s_ior (pc := 36) ?_ dX10_gains_36
      refine s_istore_n (pc := 37) (i := 2) ?_ dX10_gains_37 rfl (by decide)
      exact s_fall (pc := 38) h2
theorem sbX10_gains_2 (g : GE) (J : Nat → KT) (h1 : Snd mX10_gains g 9 (J 1)) (h2 : Snd mX10_gains g 38 (J 2)) : Snd mX10_gains g 38 (bX10_gains_2 g J) := by
  unfold bX10_gains_2
  refine s_iinc (pc := 38) (i := 3) (v := 1) ?_ dX10_gains_38 (by decide) (by decide)
  exact s_goto (pc := 41) (tgt := 9) h1 dX10_gains_41 (by decide)
def jX10_gains (g : GE) : Nat → Nat → KT
  | 0, _ => fun _ _ _ => none
  | n + 1, 0 => bX10_gains_0 g (jX10_gains g n)
  | n + 1, 1 => bX10_gains_1 g (jX10_gains g n)
  | n + 1, 2 => bX10_gains_2 g (jX10_gains g n)
  | _ + 1, _ + 3 => fun _ _ _ => none
theorem sjX10_gains (g : GE) : ∀ n, Snd mX10_gains g 0 (jX10_gains g n 0) ∧ Snd mX10_gains g 9 (jX10_gains g n 1) ∧ Snd mX10_gains g 38 (jX10_gains g n 2)
  | 0 => ⟨s_none, s_none, s_none⟩
  | n + 1 => by
    obtain ⟨-, h1, h2⟩ := sjX10_gains g n
    exact ⟨sbX10_gains_0 g _ h1 h2, sbX10_gains_1 g _ h1 h2, sbX10_gains_2 g _ h1 h2⟩
def kX10_gains (g : GE) : KT := jX10_gains g g.1 0
theorem sX10_gains (g : GE) : Snd mX10_gains g 0 (kX10_gains g) := (sjX10_gains g g.1).1
def fX10_gains : FT := fun g av w => if (ent av).length ≤ 4 then kX10_gains g [] (entp 4 av) w else none
theorem tX10_gains : Mt yX10_gains cX10_gains 4 (some .int) 7 126 fX10_gains := Mt.of (K := kX10_gains) (by decide +kernel) (fun _ _ _ => rfl) sX10_gains
theorem crX10_gains : yX10_gains.cls ≠ "java/lang/invoke/MethodHandle" ∧ yX10_gains.cls ≠ "java/lang/invoke/VarHandle" ∧ (parseMethodDescriptor yX10_gains.desc).map (fun d => d.parameters.length) = some 1 := by decide +kernel
theorem dX10_gets_0 : decode cX10_gets 0 = .ok (.aload_n 0, 1) := by decide +kernel
theorem dX10_gets_1 : decode cX10_gets 1 = .ok (.iload_n 1, 1) := by decide +kernel
theorem dX10_gets_2 : decode cX10_gets 2 = .ok (.invokevirtual 151, 3) := by decide +kernel
theorem dX10_gets_5 : decode cX10_gets 5 = .ok (.aload_n 0, 1) := by decide +kernel
theorem dX10_gets_6 : decode cX10_gets 6 = .ok (.iload_n 2, 1) := by decide +kernel
theorem dX10_gets_7 : decode cX10_gets 7 = .ok (.invokevirtual 166, 3) := by decide +kernel
theorem dX10_gets_10 : decode cX10_gets 10 = .ok (.aload_n 0, 1) := by decide +kernel
theorem dX10_gets_11 : decode cX10_gets 11 = .ok (.iload_n 3, 1) := by decide +kernel
theorem dX10_gets_12 : decode cX10_gets 12 = .ok (.iconst 1, 1) := by decide +kernel
theorem dX10_gets_13 : decode cX10_gets 13 = .ok (.invokevirtual 104, 3) := by decide +kernel
theorem dX10_gets_16 : decode cX10_gets 16 = .ok (.iload_n 3, 1) := by decide +kernel
theorem dX10_gets_17 : decode cX10_gets 17 = .ok (.ifCond .ne 15, 3) := by decide +kernel
theorem dX10_gets_20 : decode cX10_gets 20 = .ok (.aload_n 0, 1) := by decide +kernel
theorem dX10_gets_21 : decode cX10_gets 21 = .ok (.getfield 37, 3) := by decide +kernel
theorem dX10_gets_24 : decode cX10_gets 24 = .ok (.iload_n 1, 1) := by decide +kernel
theorem dX10_gets_25 : decode cX10_gets 25 = .ok (.iload_n 2, 1) := by decide +kernel
theorem dX10_gets_26 : decode cX10_gets 26 = .ok (.invokevirtual 169, 3) := by decide +kernel
theorem dX10_gets_29 : decode cX10_gets 29 = .ok (.goto 12, 3) := by decide +kernel
theorem dX10_gets_32 : decode cX10_gets 32 = .ok (.aload_n 0, 1) := by decide +kernel
theorem dX10_gets_33 : decode cX10_gets 33 = .ok (.getfield 37, 3) := by decide +kernel
theorem dX10_gets_36 : decode cX10_gets 36 = .ok (.iload_n 1, 1) := by decide +kernel
theorem dX10_gets_37 : decode cX10_gets 37 = .ok (.iload_n 2, 1) := by decide +kernel
theorem dX10_gets_38 : decode cX10_gets 38 = .ok (.invokevirtual 172, 3) := by decide +kernel
theorem dX10_gets_41 : decode cX10_gets 41 = .ok (.ireturn, 1) := by decide +kernel
abbrev mX10_gets : MD := (cX10_gets, "BlottedDeed", 4, 8, 143, (some .int), "gets", [])
def bX10_gets_0 (g : GE) (J : Nat → KT) : KT := i_aload 0 (i_iload 1 (i_cvX fX10_needReading g 1 9 (i_aload 0 (i_iload 2 (i_cvX fX10_needHeir g 1 9 (i_aload 0 (i_iload 3 (i_push (.int 1) (i_cvX fX10_needWhat g 2 9 (i_iload 3 (i_ifne (i_aload 0 (i_getf 9 5 (i_iload 1 (i_iload 2 (i_cv fX7_worthOf g 2 7 (i_jmp [false, false, false, false] (J 1))))))) (i_aload 0 (i_getf 9 5 (i_iload 1 (i_iload 2 (i_cv fX7_coinOf g 2 7 (i_jmp [false, false, false, false] (J 1))))))))))))))))))
def bX10_gets_1 (g : GE) (J : Nat → KT) : KT := i_ireturn
theorem sbX10_gets_0 (g : GE) (J : Nat → KT) (h1 : Snd mX10_gets g 41 (J 1)) : Snd mX10_gets g 0 (bX10_gets_0 g J) := by
  unfold bX10_gets_0
  refine s_aload_n (pc := 0) (i := 0) ?_ dX10_gets_0 rfl
  refine s_iload_n (pc := 1) (i := 1) ?_ dX10_gets_1 rfl
  refine s_cvX (pc := 2) (n := 1) (ci := 9) ?_ tX10_needReading rfl rfl wt_967 wt_969 wp_33 wt_1 wt_970 ⟨crX10_needReading, by decide, by decide⟩ rfl dX10_gets_2
  refine s_aload_n (pc := 5) (i := 0) ?_ dX10_gets_5 rfl
  refine s_iload_n (pc := 6) (i := 2) ?_ dX10_gets_6 rfl
  refine s_cvX (pc := 7) (n := 1) (ci := 9) ?_ tX10_needHeir rfl rfl wt_1010 wt_1012 wp_35 wt_1 wt_1013 ⟨crX10_needHeir, by decide, by decide⟩ rfl dX10_gets_7
  refine s_aload_n (pc := 10) (i := 0) ?_ dX10_gets_10 rfl
  refine s_iload_n (pc := 11) (i := 3) ?_ dX10_gets_11 rfl
  refine s_iconst (pc := 12) (v := 1) ?_ dX10_gets_12 (by decide)
  refine s_cvX (pc := 13) (n := 2) (ci := 9) ?_ tX10_needWhat rfl rfl wt_920 wt_922 wp_31 wt_1 wt_923 ⟨crX10_needWhat, by decide, by decide⟩ rfl dX10_gets_13
  refine s_iload_n (pc := 16) (i := 3) ?_ dX10_gets_16 rfl
  refine s_ifne (pc := 17) (tgt := 32) ?_ ?_ dX10_gets_17 (by decide)
  · skip
    refine s_aload_n (pc := 32) (i := 0) ?_ dX10_gets_32 rfl
    refine s_getf (pc := 33) (ci := 9) (f := 5) (T := TX10) ?_ ginX10 rfl (by decide) wt_459 dX10_gets_33
    refine s_iload_n (pc := 36) (i := 1) ?_ dX10_gets_36 rfl
    refine s_iload_n (pc := 37) (i := 2) ?_ dX10_gets_37 rfl
    refine s_cv (pc := 38) (n := 2) (ci := 7) ?_ tX7_worthOf rfl rfl wt_1018 wt_1019 wt_1020 wt_8 wt_1021 ⟨crX7_worthOf, by decide, by decide⟩ dX10_gets_38
    exact s_fall (pc := 41) h1
  · skip
    refine s_aload_n (pc := 20) (i := 0) ?_ dX10_gets_20 rfl
    refine s_getf (pc := 21) (ci := 9) (f := 5) (T := TX10) ?_ ginX10 rfl (by decide) wt_459 dX10_gets_21
    refine s_iload_n (pc := 24) (i := 1) ?_ dX10_gets_24 rfl
    refine s_iload_n (pc := 25) (i := 2) ?_ dX10_gets_25 rfl
    refine s_cv (pc := 26) (n := 2) (ci := 7) ?_ tX7_coinOf rfl rfl wt_1014 wt_1015 wt_1016 wt_8 wt_1017 ⟨crX7_coinOf, by decide, by decide⟩ dX10_gets_26
    exact s_goto (pc := 29) (tgt := 41) h1 dX10_gets_29 (by decide)
theorem sbX10_gets_1 (g : GE) (J : Nat → KT) (h1 : Snd mX10_gets g 41 (J 1)) : Snd mX10_gets g 41 (bX10_gets_1 g J) := by
  unfold bX10_gets_1
  exact s_ireturn (pc := 41) rfl dX10_gets_41
def jX10_gets (g : GE) : Nat → Nat → KT
  | 0, _ => fun _ _ _ => none
  | n + 1, 0 => bX10_gets_0 g (jX10_gets g n)
  | n + 1, 1 => bX10_gets_1 g (jX10_gets g n)
  | _ + 1, _ + 2 => fun _ _ _ => none
theorem sjX10_gets (g : GE) : ∀ n, Snd mX10_gets g 0 (jX10_gets g n 0) ∧ Snd mX10_gets g 41 (jX10_gets g n 1)
  | 0 => ⟨s_none, s_none⟩
  | n + 1 => by
    obtain ⟨-, h1⟩ := sjX10_gets g n
    exact ⟨sbX10_gets_0 g _ h1, sbX10_gets_1 g _ h1⟩
def kX10_gets (g : GE) : KT := jX10_gets g g.1 0
theorem sX10_gets (g : GE) : Snd mX10_gets g 0 (kX10_gets g) := (sjX10_gets g g.1).1
def fX10_gets : FT := fun g av w => if (ent av).length ≤ 4 then kX10_gets g [] (entp 4 av) w else none
theorem tX10_gets : Mt yX10_gets cX10_gets 4 (some .int) 8 143 fX10_gets := Mt.of (K := kX10_gets) (by decide +kernel) (fun _ _ _ => rfl) sX10_gets
theorem crX10_gets : yX10_gets.cls ≠ "java/lang/invoke/MethodHandle" ∧ yX10_gets.cls ≠ "java/lang/invoke/VarHandle" ∧ (parseMethodDescriptor yX10_gets.desc).map (fun d => d.parameters.length) = some 3 := by decide +kernel
theorem dX10_goes_0 : decode cX10_goes 0 = .ok (.aload_n 0, 1) := by decide +kernel
theorem dX10_goes_1 : decode cX10_goes 1 = .ok (.iload_n 1, 1) := by decide +kernel
theorem dX10_goes_2 : decode cX10_goes 2 = .ok (.invokevirtual 151, 3) := by decide +kernel
theorem dX10_goes_5 : decode cX10_goes 5 = .ok (.aload_n 0, 1) := by decide +kernel
theorem dX10_goes_6 : decode cX10_goes 6 = .ok (.iload_n 2, 1) := by decide +kernel
theorem dX10_goes_7 : decode cX10_goes 7 = .ok (.invokevirtual 175, 3) := by decide +kernel
theorem dX10_goes_10 : decode cX10_goes 10 = .ok (.aload_n 0, 1) := by decide +kernel
theorem dX10_goes_11 : decode cX10_goes 11 = .ok (.getfield 37, 3) := by decide +kernel
theorem dX10_goes_14 : decode cX10_goes 14 = .ok (.iload_n 1, 1) := by decide +kernel
theorem dX10_goes_15 : decode cX10_goes 15 = .ok (.iload_n 2, 1) := by decide +kernel
theorem dX10_goes_16 : decode cX10_goes 16 = .ok (.invokevirtual 178, 3) := by decide +kernel
theorem dX10_goes_19 : decode cX10_goes 19 = .ok (.ireturn, 1) := by decide +kernel
abbrev mX10_goes : MD := (cX10_goes, "BlottedDeed", 3, 8, 143, (some .int), "goes", [])
def bX10_goes_0 (g : GE) (J : Nat → KT) : KT := i_aload 0 (i_iload 1 (i_cvX fX10_needReading g 1 9 (i_aload 0 (i_iload 2 (i_cvX fX10_needThing g 1 9 (i_aload 0 (i_getf 9 5 (i_iload 1 (i_iload 2 (i_cv fX7_ownerOf g 2 7 (i_ireturn)))))))))))
theorem sbX10_goes_0 (g : GE) (J : Nat → KT)  : Snd mX10_goes g 0 (bX10_goes_0 g J) := by
  unfold bX10_goes_0
  refine s_aload_n (pc := 0) (i := 0) ?_ dX10_goes_0 rfl
  refine s_iload_n (pc := 1) (i := 1) ?_ dX10_goes_1 rfl
  refine s_cvX (pc := 2) (n := 1) (ci := 9) ?_ tX10_needReading rfl rfl wt_967 wt_969 wp_33 wt_1 wt_970 ⟨crX10_needReading, by decide, by decide⟩ rfl dX10_goes_2
  refine s_aload_n (pc := 5) (i := 0) ?_ dX10_goes_5 rfl
  refine s_iload_n (pc := 6) (i := 2) ?_ dX10_goes_6 rfl
  refine s_cvX (pc := 7) (n := 1) (ci := 9) ?_ tX10_needThing rfl rfl wt_1030 wt_1032 wp_36 wt_1 wt_1033 ⟨crX10_needThing, by decide, by decide⟩ rfl dX10_goes_7
  refine s_aload_n (pc := 10) (i := 0) ?_ dX10_goes_10 rfl
  refine s_getf (pc := 11) (ci := 9) (f := 5) (T := TX10) ?_ ginX10 rfl (by decide) wt_459 dX10_goes_11
  refine s_iload_n (pc := 14) (i := 1) ?_ dX10_goes_14 rfl
  refine s_iload_n (pc := 15) (i := 2) ?_ dX10_goes_15 rfl
  refine s_cv (pc := 16) (n := 2) (ci := 7) ?_ tX7_ownerOf rfl rfl wt_1034 wt_594 wt_595 wt_8 wt_596 ⟨crX7_ownerOf, by decide, by decide⟩ dX10_goes_16
  exact s_ireturn (pc := 19) rfl dX10_goes_19
def kX10_goes (g : GE) : KT := bX10_goes_0 g (fun _ _ _ _ => none)
theorem sX10_goes (g : GE) : Snd mX10_goes g 0 (kX10_goes g) := sbX10_goes_0 g _
def fX10_goes : FT := fun g av w => if (ent av).length ≤ 3 then kX10_goes g [] (entp 3 av) w else none
theorem tX10_goes : Mt yX10_goes cX10_goes 3 (some .int) 8 143 fX10_goes := Mt.of (K := kX10_goes) (by decide +kernel) (fun _ _ _ => rfl) sX10_goes
theorem crX10_goes : yX10_goes.cls ≠ "java/lang/invoke/MethodHandle" ∧ yX10_goes.cls ≠ "java/lang/invoke/VarHandle" ∧ (parseMethodDescriptor yX10_goes.desc).map (fun d => d.parameters.length) = some 2 := by decide +kernel
theorem dX10_isNum_0 : decode cX10_isNum 0 = .ok (.iload_n 0, 1) := by decide +kernel
theorem dX10_isNum_1 : decode cX10_isNum 1 = .ok (.ifCond .lt 13, 3) := by decide +kernel
theorem dX10_isNum_4 : decode cX10_isNum 4 = .ok (.iload_n 0, 1) := by decide +kernel
theorem dX10_isNum_5 : decode cX10_isNum 5 = .ok (.bipush 100, 2) := by decide +kernel
theorem dX10_isNum_7 : decode cX10_isNum 7 = .ok (.if_icmp .ge 7, 3) := by decide +kernel
theorem dX10_isNum_10 : decode cX10_isNum 10 = .ok (.iconst 1, 1) := by decide +kernel
theorem dX10_isNum_11 : decode cX10_isNum 11 = .ok (.goto 4, 3) := by decide +kernel
theorem dX10_isNum_14 : decode cX10_isNum 14 = .ok (.iconst 0, 1) := by decide +kernel
theorem dX10_isNum_15 : decode cX10_isNum 15 = .ok (.ireturn, 1) := by decide +kernel
abbrev mX10_isNum : MD := (cX10_isNum, "BlottedDeed", 1, 1, 30, (some .boolean), "isNum", [])
def bX10_isNum_0 (g : GE) (J : Nat → KT) : KT := i_iload 0 (i_iflt (i_jmp [false] (J 1)) (i_iload 0 (i_push (.int 100) (i_icge (i_jmp [false] (J 1)) (i_push (.int 1) (i_jmp [false] (J 2)))))))
def bX10_isNum_1 (g : GE) (J : Nat → KT) : KT := i_push (.int 0) (i_jmp [false] (J 2))
def bX10_isNum_2 (g : GE) (J : Nat → KT) : KT := i_zreturn
theorem sbX10_isNum_0 (g : GE) (J : Nat → KT) (h1 : Snd mX10_isNum g 14 (J 1)) (h2 : Snd mX10_isNum g 15 (J 2)) : Snd mX10_isNum g 0 (bX10_isNum_0 g J) := by
  unfold bX10_isNum_0
  refine s_iload_n (pc := 0) (i := 0) ?_ dX10_isNum_0 rfl
  refine s_iflt (pc := 1) (tgt := 14) ?_ ?_ dX10_isNum_1 (by decide)
  · skip
    exact s_fall (pc := 14) h1
  · skip
    refine s_iload_n (pc := 4) (i := 0) ?_ dX10_isNum_4 rfl
    refine s_bipush (pc := 5) (v := 100) ?_ dX10_isNum_5 (by decide)
    refine s_icge (pc := 7) (tgt := 14) ?_ ?_ dX10_isNum_7 (by decide)
    · skip
      exact s_fall (pc := 14) h1
    · skip
      refine s_iconst (pc := 10) (v := 1) ?_ dX10_isNum_10 (by decide)
      exact s_goto (pc := 11) (tgt := 15) h2 dX10_isNum_11 (by decide)
theorem sbX10_isNum_1 (g : GE) (J : Nat → KT) (h1 : Snd mX10_isNum g 14 (J 1)) (h2 : Snd mX10_isNum g 15 (J 2)) : Snd mX10_isNum g 14 (bX10_isNum_1 g J) := by
  unfold bX10_isNum_1
  refine s_iconst (pc := 14) (v := 0) ?_ dX10_isNum_14 (by decide)
  exact s_fall (pc := 15) h2
theorem sbX10_isNum_2 (g : GE) (J : Nat → KT) (h1 : Snd mX10_isNum g 14 (J 1)) (h2 : Snd mX10_isNum g 15 (J 2)) : Snd mX10_isNum g 15 (bX10_isNum_2 g J) := by
  unfold bX10_isNum_2
  exact s_zreturn (pc := 15) rfl dX10_isNum_15
def jX10_isNum (g : GE) : Nat → Nat → KT
  | 0, _ => fun _ _ _ => none
  | n + 1, 0 => bX10_isNum_0 g (jX10_isNum g n)
  | n + 1, 1 => bX10_isNum_1 g (jX10_isNum g n)
  | n + 1, 2 => bX10_isNum_2 g (jX10_isNum g n)
  | _ + 1, _ + 3 => fun _ _ _ => none
theorem sjX10_isNum (g : GE) : ∀ n, Snd mX10_isNum g 0 (jX10_isNum g n 0) ∧ Snd mX10_isNum g 14 (jX10_isNum g n 1) ∧ Snd mX10_isNum g 15 (jX10_isNum g n 2)
  | 0 => ⟨s_none, s_none, s_none⟩
  | n + 1 => by
    obtain ⟨-, h1, h2⟩ := sjX10_isNum g n
    exact ⟨sbX10_isNum_0 g _ h1 h2, sbX10_isNum_1 g _ h1 h2, sbX10_isNum_2 g _ h1 h2⟩
def kX10_isNum (g : GE) : KT := jX10_isNum g g.1 0
theorem sX10_isNum (g : GE) : Snd mX10_isNum g 0 (kX10_isNum g) := (sjX10_isNum g g.1).1
def fX10_isNum : FT := fun g av w => if (ent av).length ≤ 1 then kX10_isNum g [] (entp 1 av) w else none
theorem tX10_isNum : Mt yX10_isNum cX10_isNum 1 (some .boolean) 1 30 fX10_isNum := Mt.of (K := kX10_isNum) (by decide +kernel) (fun _ _ _ => rfl) sX10_isNum
theorem crX10_isNum : yX10_isNum.cls ≠ "java/lang/invoke/MethodHandle" ∧ yX10_isNum.cls ≠ "java/lang/invoke/VarHandle" ∧ (parseMethodDescriptor yX10_isNum.desc).map (fun d => d.parameters.length) = some 1 := by decide +kernel
theorem dX8_addHabit_0 : decode cX8_addHabit 0 = .ok (.aload_n 0, 1) := by decide +kernel
theorem dX8_addHabit_1 : decode cX8_addHabit 1 = .ok (.getfield 37, 3) := by decide +kernel
theorem dX8_addHabit_4 : decode cX8_addHabit 4 = .ok (.bipush 8, 2) := by decide +kernel
theorem dX8_addHabit_6 : decode cX8_addHabit 6 = .ok (.if_icmp .lt 5, 3) := by decide +kernel
theorem dX8_addHabit_9 : decode cX8_addHabit 9 = .ok (.iconst (-1), 1) := by decide +kernel
theorem dX8_addHabit_10 : decode cX8_addHabit 10 = .ok (.ireturn, 1) := by decide +kernel
theorem dX8_addHabit_11 : decode cX8_addHabit 11 = .ok (.aload_n 0, 1) := by decide +kernel
theorem dX8_addHabit_12 : decode cX8_addHabit 12 = .ok (.getfield 21, 3) := by decide +kernel
theorem dX8_addHabit_15 : decode cX8_addHabit 15 = .ok (.aload_n 0, 1) := by decide +kernel
theorem dX8_addHabit_16 : decode cX8_addHabit 16 = .ok (.getfield 37, 3) := by decide +kernel
theorem dX8_addHabit_19 : decode cX8_addHabit 19 = .ok (.iload_n 1, 1) := by decide +kernel
theorem dX8_addHabit_20 : decode cX8_addHabit 20 = .ok (.iastore, 1) := by decide +kernel
theorem dX8_addHabit_21 : decode cX8_addHabit 21 = .ok (.aload_n 0, 1) := by decide +kernel
theorem dX8_addHabit_22 : decode cX8_addHabit 22 = .ok (.getfield 24, 3) := by decide +kernel
theorem dX8_addHabit_25 : decode cX8_addHabit 25 = .ok (.aload_n 0, 1) := by decide +kernel
theorem dX8_addHabit_26 : decode cX8_addHabit 26 = .ok (.getfield 37, 3) := by decide +kernel
theorem dX8_addHabit_29 : decode cX8_addHabit 29 = .ok (.iload_n 2, 1) := by decide +kernel
theorem dX8_addHabit_30 : decode cX8_addHabit 30 = .ok (.iastore, 1) := by decide +kernel
theorem dX8_addHabit_31 : decode cX8_addHabit 31 = .ok (.aload_n 0, 1) := by decide +kernel
theorem dX8_addHabit_32 : decode cX8_addHabit 32 = .ok (.getfield 27, 3) := by decide +kernel
theorem dX8_addHabit_35 : decode cX8_addHabit 35 = .ok (.aload_n 0, 1) := by decide +kernel
theorem dX8_addHabit_36 : decode cX8_addHabit 36 = .ok (.getfield 37, 3) := by decide +kernel
theorem dX8_addHabit_39 : decode cX8_addHabit 39 = .ok (.iload_n 3, 1) := by decide +kernel
theorem dX8_addHabit_40 : decode cX8_addHabit 40 = .ok (.iastore, 1) := by decide +kernel
theorem dX8_addHabit_41 : decode cX8_addHabit 41 = .ok (.aload_n 0, 1) := by decide +kernel
theorem dX8_addHabit_42 : decode cX8_addHabit 42 = .ok (.getfield 30, 3) := by decide +kernel
theorem dX8_addHabit_45 : decode cX8_addHabit 45 = .ok (.aload_n 0, 1) := by decide +kernel
theorem dX8_addHabit_46 : decode cX8_addHabit 46 = .ok (.getfield 37, 3) := by decide +kernel
theorem dX8_addHabit_49 : decode cX8_addHabit 49 = .ok (.iload 4, 2) := by decide +kernel
theorem dX8_addHabit_51 : decode cX8_addHabit 51 = .ok (.iastore, 1) := by decide +kernel
theorem dX8_addHabit_52 : decode cX8_addHabit 52 = .ok (.aload_n 0, 1) := by decide +kernel
theorem dX8_addHabit_53 : decode cX8_addHabit 53 = .ok (.dup, 1) := by decide +kernel
theorem dX8_addHabit_54 : decode cX8_addHabit 54 = .ok (.getfield 37, 3) := by decide +kernel
theorem dX8_addHabit_57 : decode cX8_addHabit 57 = .ok (.iconst 1, 1) := by decide +kernel
theorem dX8_addHabit_58 : decode cX8_addHabit 58 = .ok (.iadd, 1) := by decide +kernel
theorem dX8_addHabit_59 : decode cX8_addHabit 59 = .ok (.putfield 37, 3) := by decide +kernel
theorem dX8_addHabit_62 : decode cX8_addHabit 62 = .ok (.aload_n 0, 1) := by decide +kernel
theorem dX8_addHabit_63 : decode cX8_addHabit 63 = .ok (.getfield 37, 3) := by decide +kernel
theorem dX8_addHabit_66 : decode cX8_addHabit 66 = .ok (.ireturn, 1) := by decide +kernel
abbrev mX8_addHabit : MD := (cX8_addHabit, "BlottedDeed$Testimony", 5, 1, 30, (some .int), "addHabit", [])
def bX8_addHabit_0 (g : GE) (J : Nat → KT) : KT := i_aload 0 (i_getf 8 8 (i_push (.int 8) (i_iclt (i_aload 0 (i_getf 8 3 (i_aload 0 (i_getf 8 8 (i_iload 1 (i_iastore (i_aload 0 (i_getf 8 4 (i_aload 0 (i_getf 8 8 (i_iload 2 (i_iastore (i_aload 0 (i_getf 8 5 (i_aload 0 (i_getf 8 8 (i_iload 3 (i_iastore (i_aload 0 (i_getf 8 6 (i_aload 0 (i_getf 8 8 (i_iload 4 (i_iastore (i_aload 0 (i_dup (i_getf 8 8 (i_push (.int 1) (i_iadd (i_putf 8 8 .int (i_aload 0 (i_getf 8 8 (i_ireturn))))))))))))))))))))))))))))))))) (i_push (.int (-1)) (i_ireturn)))))
theorem sbX8_addHabit_0 (g : GE) (J : Nat → KT)  : Snd mX8_addHabit g 0 (bX8_addHabit_0 g J) := by
  unfold bX8_addHabit_0
  refine s_aload_n (pc := 0) (i := 0) ?_ dX8_addHabit_0 rfl
  refine s_getf (pc := 1) (ci := 8) (f := 8) (T := TX8) ?_ ginX8 rfl (by decide) wt_432 dX8_addHabit_1
  refine s_bipush (pc := 4) (v := 8) ?_ dX8_addHabit_4 (by decide)
  refine s_iclt (pc := 6) (tgt := 11) ?_ ?_ dX8_addHabit_6 (by decide)
  · skip
    refine s_aload_n (pc := 11) (i := 0) ?_ dX8_addHabit_11 rfl
    refine s_getf (pc := 12) (ci := 8) (f := 3) (T := TX8) ?_ ginX8 rfl (by decide) wt_425 dX8_addHabit_12
    refine s_aload_n (pc := 15) (i := 0) ?_ dX8_addHabit_15 rfl
    refine s_getf (pc := 16) (ci := 8) (f := 8) (T := TX8) ?_ ginX8 rfl (by decide) wt_432 dX8_addHabit_16
    refine s_iload_n (pc := 19) (i := 1) ?_ dX8_addHabit_19 rfl
    refine s_iastore (pc := 20) ?_ dX8_addHabit_20
    refine s_aload_n (pc := 21) (i := 0) ?_ dX8_addHabit_21 rfl
    refine s_getf (pc := 22) (ci := 8) (f := 4) (T := TX8) ?_ ginX8 rfl (by decide) wt_426 dX8_addHabit_22
    refine s_aload_n (pc := 25) (i := 0) ?_ dX8_addHabit_25 rfl
    refine s_getf (pc := 26) (ci := 8) (f := 8) (T := TX8) ?_ ginX8 rfl (by decide) wt_432 dX8_addHabit_26
    refine s_iload_n (pc := 29) (i := 2) ?_ dX8_addHabit_29 rfl
    refine s_iastore (pc := 30) ?_ dX8_addHabit_30
    refine s_aload_n (pc := 31) (i := 0) ?_ dX8_addHabit_31 rfl
    refine s_getf (pc := 32) (ci := 8) (f := 5) (T := TX8) ?_ ginX8 rfl (by decide) wt_427 dX8_addHabit_32
    refine s_aload_n (pc := 35) (i := 0) ?_ dX8_addHabit_35 rfl
    refine s_getf (pc := 36) (ci := 8) (f := 8) (T := TX8) ?_ ginX8 rfl (by decide) wt_432 dX8_addHabit_36
    refine s_iload_n (pc := 39) (i := 3) ?_ dX8_addHabit_39 rfl
    refine s_iastore (pc := 40) ?_ dX8_addHabit_40
    refine s_aload_n (pc := 41) (i := 0) ?_ dX8_addHabit_41 rfl
    refine s_getf (pc := 42) (ci := 8) (f := 6) (T := TX8) ?_ ginX8 rfl (by decide) wt_428 dX8_addHabit_42
    refine s_aload_n (pc := 45) (i := 0) ?_ dX8_addHabit_45 rfl
    refine s_getf (pc := 46) (ci := 8) (f := 8) (T := TX8) ?_ ginX8 rfl (by decide) wt_432 dX8_addHabit_46
    refine s_iload (pc := 49) (i := 4) ?_ dX8_addHabit_49
    refine s_iastore (pc := 51) ?_ dX8_addHabit_51
    refine s_aload_n (pc := 52) (i := 0) ?_ dX8_addHabit_52 rfl
    refine s_dup (pc := 53) ?_ dX8_addHabit_53
    refine s_getf (pc := 54) (ci := 8) (f := 8) (T := TX8) ?_ ginX8 rfl (by decide) wt_432 dX8_addHabit_54
    refine s_iconst (pc := 57) (v := 1) ?_ dX8_addHabit_57 (by decide)
    refine s_iadd (pc := 58) ?_ dX8_addHabit_58
    refine s_putf (pc := 59) (ci := 8) (f := 8) (T := TX8) (ty0 := tyX8) ?_ ginX8 tyX8_ok nmX8 rfl (by decide) rfl rfl wt_432 dX8_addHabit_59
    refine s_aload_n (pc := 62) (i := 0) ?_ dX8_addHabit_62 rfl
    refine s_getf (pc := 63) (ci := 8) (f := 8) (T := TX8) ?_ ginX8 rfl (by decide) wt_432 dX8_addHabit_63
    exact s_ireturn (pc := 66) rfl dX8_addHabit_66
  · skip
    refine s_iconst (pc := 9) (v := (-1)) ?_ dX8_addHabit_9 (by decide)
    exact s_ireturn (pc := 10) rfl dX8_addHabit_10
def kX8_addHabit (g : GE) : KT := bX8_addHabit_0 g (fun _ _ _ _ => none)
theorem sX8_addHabit (g : GE) : Snd mX8_addHabit g 0 (kX8_addHabit g) := sbX8_addHabit_0 g _
def fX8_addHabit : FT := fun g av w => if (ent av).length ≤ 5 then kX8_addHabit g [] (entp 5 av) w else none
theorem tX8_addHabit : Mt yX8_addHabit cX8_addHabit 5 (some .int) 1 30 fX8_addHabit := Mt.of (K := kX8_addHabit) (by decide +kernel) (fun _ _ _ => rfl) sX8_addHabit
theorem crX8_addHabit : yX8_addHabit.cls ≠ "java/lang/invoke/MethodHandle" ∧ yX8_addHabit.cls ≠ "java/lang/invoke/VarHandle" ∧ (parseMethodDescriptor yX8_addHabit.desc).map (fun d => d.parameters.length) = some 4 := by decide +kernel
theorem dX10_habit_0 : decode cX10_habit 0 = .ok (.aload_n 0, 1) := by decide +kernel
theorem dX10_habit_1 : decode cX10_habit 1 = .ok (.iload_n 1, 1) := by decide +kernel
theorem dX10_habit_2 : decode cX10_habit 2 = .ok (.invokestatic 222, 3) := by decide +kernel
theorem dX10_habit_5 : decode cX10_habit 5 = .ok (.ifCond .eq 39, 3) := by decide +kernel
theorem dX10_habit_8 : decode cX10_habit 8 = .ok (.iload_n 2, 1) := by decide +kernel
theorem dX10_habit_9 : decode cX10_habit 9 = .ok (.invokestatic 233, 3) := by decide +kernel
theorem dX10_habit_12 : decode cX10_habit 12 = .ok (.ifCond .eq 32, 3) := by decide +kernel
theorem dX10_habit_15 : decode cX10_habit 15 = .ok (.iload_n 3, 1) := by decide +kernel
theorem dX10_habit_16 : decode cX10_habit 16 = .ok (.invokestatic 233, 3) := by decide +kernel
theorem dX10_habit_19 : decode cX10_habit 19 = .ok (.ifCond .eq 25, 3) := by decide +kernel
theorem dX10_habit_22 : decode cX10_habit 22 = .ok (.iload_n 2, 1) := by decide +kernel
theorem dX10_habit_23 : decode cX10_habit 23 = .ok (.iload_n 3, 1) := by decide +kernel
theorem dX10_habit_24 : decode cX10_habit 24 = .ok (.if_icmp .eq 20, 3) := by decide +kernel
theorem dX10_habit_27 : decode cX10_habit 27 = .ok (.iload 4, 2) := by decide +kernel
theorem dX10_habit_29 : decode cX10_habit 29 = .ok (.iconst 1, 1) := by decide +kernel
theorem dX10_habit_30 : decode cX10_habit 30 = .ok (.if_icmp .lt 14, 3) := by decide +kernel
theorem dX10_habit_33 : decode cX10_habit 33 = .ok (.iload 4, 2) := by decide +kernel
theorem dX10_habit_35 : decode cX10_habit 35 = .ok (.bipush 16, 2) := by decide +kernel
theorem dX10_habit_37 : decode cX10_habit 37 = .ok (.if_icmp .ge 7, 3) := by decide +kernel
theorem dX10_habit_40 : decode cX10_habit 40 = .ok (.iconst 1, 1) := by decide +kernel
theorem dX10_habit_41 : decode cX10_habit 41 = .ok (.goto 4, 3) := by decide +kernel
theorem dX10_habit_44 : decode cX10_habit 44 = .ok (.iconst 0, 1) := by decide +kernel
theorem dX10_habit_45 : decode cX10_habit 45 = .ok (.invokevirtual 80, 3) := by decide +kernel
theorem dX10_habit_48 : decode cX10_habit 48 = .ok (.aload_n 0, 1) := by decide +kernel
theorem dX10_habit_49 : decode cX10_habit 49 = .ok (.getfield 58, 3) := by decide +kernel
theorem dX10_habit_52 : decode cX10_habit 52 = .ok (.iload_n 1, 1) := by decide +kernel
theorem dX10_habit_53 : decode cX10_habit 53 = .ok (.iload_n 2, 1) := by decide +kernel
theorem dX10_habit_54 : decode cX10_habit 54 = .ok (.iload_n 3, 1) := by decide +kernel
theorem dX10_habit_55 : decode cX10_habit 55 = .ok (.iload 4, 2) := by decide +kernel
theorem dX10_habit_57 : decode cX10_habit 57 = .ok (.invokevirtual 236, 3) := by decide +kernel
theorem dX10_habit_60 : decode cX10_habit 60 = .ok (.ireturn, 1) := by decide +kernel
abbrev mX10_habit : MD := (cX10_habit, "BlottedDeed", 5, 7, 121, (some .int), "habit", [])
def bX10_habit_0 (g : GE) (J : Nat → KT) : KT := i_aload 0 (i_iload 1 (i_cs fX10_isHand g 1 (i_ifeq (i_jmp [true, true, true, true, true] (J 1)) (i_iload 2 (i_cs fX10_isNum g 1 (i_ifeq (i_jmp [true, true, true, true, true] (J 1)) (i_iload 3 (i_cs fX10_isNum g 1 (i_ifeq (i_jmp [true, true, true, true, true] (J 1)) (i_iload 2 (i_iload 3 (i_iceq (i_jmp [true, true, true, true, true] (J 1)) (i_iload 4 (i_push (.int 1) (i_iclt (i_jmp [true, true, true, true, true] (J 1)) (i_iload 4 (i_push (.int 16) (i_icge (i_jmp [true, true, true, true, true] (J 1)) (i_push (.int 1) (i_jmp [true, true, true, true, true] (J 2)))))))))))))))))))))
def bX10_habit_1 (g : GE) (J : Nat → KT) : KT := i_push (.int 0) (i_jmp [true, true, true, true, true] (J 2))
def bX10_habit_2 (g : GE) (J : Nat → KT) : KT := i_cvX fX10_needArgument g 1 9 (i_aload 0 (i_getf 9 8 (i_iload 1 (i_iload 2 (i_iload 3 (i_iload 4 (i_cv fX8_addHabit g 4 8 (i_ireturn))))))))
theorem sbX10_habit_0 (g : GE) (J : Nat → KT) (h1 : Snd mX10_habit g 44 (J 1)) (h2 : Snd mX10_habit g 45 (J 2)) : Snd mX10_habit g 0 (bX10_habit_0 g J) := by
  unfold bX10_habit_0
  refine s_aload_n (pc := 0) (i := 0) ?_ dX10_habit_0 rfl
  refine s_iload_n (pc := 1) (i := 1) ?_ dX10_habit_1 rfl
  refine s_cs (pc := 2) (n := 1) ?_ tX10_isHand wt_1158 wt_1159 wt_1 wt_1160 ⟨crX10_isHand, by decide, by decide⟩ dX10_habit_2
  refine s_ifeq (pc := 5) (tgt := 44) ?_ ?_ dX10_habit_5 (by decide)
  · skip
    exact s_fall (pc := 44) h1
  · skip
    refine s_iload_n (pc := 8) (i := 2) ?_ dX10_habit_8 rfl
    refine s_cs (pc := 9) (n := 1) ?_ tX10_isNum wt_1176 wt_1177 wt_1 wt_1178 ⟨crX10_isNum, by decide, by decide⟩ dX10_habit_9
    refine s_ifeq (pc := 12) (tgt := 44) ?_ ?_ dX10_habit_12 (by decide)
    · skip
      exact s_fall (pc := 44) h1
    · skip
      refine s_iload_n (pc := 15) (i := 3) ?_ dX10_habit_15 rfl
      refine s_cs (pc := 16) (n := 1) ?_ tX10_isNum wt_1176 wt_1177 wt_1 wt_1178 ⟨crX10_isNum, by decide, by decide⟩ dX10_habit_16
      refine s_ifeq (pc := 19) (tgt := 44) ?_ ?_ dX10_habit_19 (by decide)
      · skip
        exact s_fall (pc := 44) h1
      · skip
        refine s_iload_n (pc := 22) (i := 2) ?_ dX10_habit_22 rfl
        refine s_iload_n (pc := 23) (i := 3) ?_ dX10_habit_23 rfl
        refine s_iceq (pc := 24) (tgt := 44) ?_ ?_ dX10_habit_24 (by decide)
        · skip
          exact s_fall (pc := 44) h1
        · skip
          refine s_iload (pc := 27) (i := 4) ?_ dX10_habit_27
          refine s_iconst (pc := 29) (v := 1) ?_ dX10_habit_29 (by decide)
          refine s_iclt (pc := 30) (tgt := 44) ?_ ?_ dX10_habit_30 (by decide)
          · skip
            exact s_fall (pc := 44) h1
          · skip
            refine s_iload (pc := 33) (i := 4) ?_ dX10_habit_33
            refine s_bipush (pc := 35) (v := 16) ?_ dX10_habit_35 (by decide)
            refine s_icge (pc := 37) (tgt := 44) ?_ ?_ dX10_habit_37 (by decide)
            · skip
              exact s_fall (pc := 44) h1
            · skip
              refine s_iconst (pc := 40) (v := 1) ?_ dX10_habit_40 (by decide)
              exact s_goto (pc := 41) (tgt := 45) h2 dX10_habit_41 (by decide)
theorem sbX10_habit_1 (g : GE) (J : Nat → KT) (h1 : Snd mX10_habit g 44 (J 1)) (h2 : Snd mX10_habit g 45 (J 2)) : Snd mX10_habit g 44 (bX10_habit_1 g J) := by
  unfold bX10_habit_1
  refine s_iconst (pc := 44) (v := 0) ?_ dX10_habit_44 (by decide)
  exact s_fall (pc := 45) h2
theorem sbX10_habit_2 (g : GE) (J : Nat → KT) (h1 : Snd mX10_habit g 44 (J 1)) (h2 : Snd mX10_habit g 45 (J 2)) : Snd mX10_habit g 45 (bX10_habit_2 g J) := by
  unfold bX10_habit_2
  refine s_cvX (pc := 45) (n := 1) (ci := 9) ?_ tX10_needArgument rfl rfl wt_626 wt_628 wp_8 wt_1 wt_629 ⟨crX10_needArgument, by decide, by decide⟩ rfl dX10_habit_45
  refine s_aload_n (pc := 48) (i := 0) ?_ dX10_habit_48 rfl
  refine s_getf (pc := 49) (ci := 9) (f := 8) (T := TX10) ?_ ginX10 rfl (by decide) wt_462 dX10_habit_49
  refine s_iload_n (pc := 52) (i := 1) ?_ dX10_habit_52 rfl
  refine s_iload_n (pc := 53) (i := 2) ?_ dX10_habit_53 rfl
  refine s_iload_n (pc := 54) (i := 3) ?_ dX10_habit_54 rfl
  refine s_iload (pc := 55) (i := 4) ?_ dX10_habit_55
  refine s_cv (pc := 57) (n := 4) (ci := 8) ?_ tX8_addHabit rfl rfl wt_1179 wt_1180 wt_1181 wt_16 wt_1182 ⟨crX8_addHabit, by decide, by decide⟩ dX10_habit_57
  exact s_ireturn (pc := 60) rfl dX10_habit_60
def jX10_habit (g : GE) : Nat → Nat → KT
  | 0, _ => fun _ _ _ => none
  | n + 1, 0 => bX10_habit_0 g (jX10_habit g n)
  | n + 1, 1 => bX10_habit_1 g (jX10_habit g n)
  | n + 1, 2 => bX10_habit_2 g (jX10_habit g n)
  | _ + 1, _ + 3 => fun _ _ _ => none
theorem sjX10_habit (g : GE) : ∀ n, Snd mX10_habit g 0 (jX10_habit g n 0) ∧ Snd mX10_habit g 44 (jX10_habit g n 1) ∧ Snd mX10_habit g 45 (jX10_habit g n 2)
  | 0 => ⟨s_none, s_none, s_none⟩
  | n + 1 => by
    obtain ⟨-, h1, h2⟩ := sjX10_habit g n
    exact ⟨sbX10_habit_0 g _ h1 h2, sbX10_habit_1 g _ h1 h2, sbX10_habit_2 g _ h1 h2⟩
def kX10_habit (g : GE) : KT := jX10_habit g g.1 0
theorem sX10_habit (g : GE) : Snd mX10_habit g 0 (kX10_habit g) := (sjX10_habit g g.1).1
def fX10_habit : FT := fun g av w => if (ent av).length ≤ 5 then kX10_habit g [] (entp 5 av) w else none
theorem tX10_habit : Mt yX10_habit cX10_habit 5 (some .int) 7 121 fX10_habit := Mt.of (K := kX10_habit) (by decide +kernel) (fun _ _ _ => rfl) sX10_habit
theorem crX10_habit : yX10_habit.cls ≠ "java/lang/invoke/MethodHandle" ∧ yX10_habit.cls ≠ "java/lang/invoke/VarHandle" ∧ (parseMethodDescriptor yX10_habit.desc).map (fun d => d.parameters.length) = some 4 := by decide +kernel
theorem dX1_digitOf_0 : decode cX1_digitOf 0 = .ok (.iconst 0, 1) := by decide +kernel
theorem dX1_digitOf_1 : decode cX1_digitOf 1 = .ok (.istore_n 2, 1) := by decide +kernel
theorem dX1_digitOf_2 : decode cX1_digitOf 2 = .ok (.iload_n 2, 1) := by decide +kernel
theorem dX1_digitOf_3 : decode cX1_digitOf 3 = .ok (.aload_n 0, 1) := by decide +kernel
theorem dX1_digitOf_4 : decode cX1_digitOf 4 = .ok (.getfield 15, 3) := by decide +kernel
theorem dX1_digitOf_7 : decode cX1_digitOf 7 = .ok (.if_icmp .ge 21, 3) := by decide +kernel
theorem dX1_digitOf_10 : decode cX1_digitOf 10 = .ok (.aload_n 0, 1) := by decide +kernel
theorem dX1_digitOf_11 : decode cX1_digitOf 11 = .ok (.getfield 9, 3) := by decide +kernel
theorem dX1_digitOf_14 : decode cX1_digitOf 14 = .ok (.iload_n 2, 1) := by decide +kernel
theorem dX1_digitOf_15 : decode cX1_digitOf 15 = .ok (.iaload, 1) := by decide +kernel
theorem dX1_digitOf_16 : decode cX1_digitOf 16 = .ok (.iload_n 1, 1) := by decide +kernel
theorem dX1_digitOf_17 : decode cX1_digitOf 17 = .ok (.if_icmp .ne 5, 3) := by decide +kernel
theorem dX1_digitOf_20 : decode cX1_digitOf 20 = .ok (.iload_n 2, 1) := by decide +kernel
theorem dX1_digitOf_21 : decode cX1_digitOf 21 = .ok (.ireturn, 1) := by decide +kernel
theorem dX1_digitOf_22 : decode cX1_digitOf 22 = .ok (.iinc 2 1, 3) := by decide +kernel
theorem dX1_digitOf_25 : decode cX1_digitOf 25 = .ok (.goto (-23), 3) := by decide +kernel
theorem dX1_digitOf_28 : decode cX1_digitOf 28 = .ok (.iconst (-1), 1) := by decide +kernel
theorem dX1_digitOf_29 : decode cX1_digitOf 29 = .ok (.ireturn, 1) := by decide +kernel
abbrev mX1_digitOf : MD := (cX1_digitOf, "BlottedDeed$Blot", 3, 1, 30, (some .int), "digitOf", [])
def bX1_digitOf_0 (g : GE) (J : Nat → KT) : KT := i_push (.int 0) (i_istore 2 (i_jmp [true, true, true] (J 1)))
def bX1_digitOf_1 (g : GE) (J : Nat → KT) : KT := i_iload 2 (i_aload 0 (i_getf 1 1 (i_icge (i_push (.int (-1)) (i_ireturn)) (i_aload 0 (i_getf 1 0 (i_iload 2 (i_iaload (i_iload 1 (i_icne (i_iinc 2 1 (i_jmp [true, true, true] (J 1))) (i_iload 2 (i_ireturn)))))))))))
theorem sbX1_digitOf_0 (g : GE) (J : Nat → KT) (h1 : Snd mX1_digitOf g 2 (J 1)) : Snd mX1_digitOf g 0 (bX1_digitOf_0 g J) := by
  unfold bX1_digitOf_0
  refine s_iconst (pc := 0) (v := 0) ?_ dX1_digitOf_0 (by decide)
  refine s_istore_n (pc := 1) (i := 2) ?_ dX1_digitOf_1 rfl (by decide)
  exact s_fall (pc := 2) h1
theorem sbX1_digitOf_1 (g : GE) (J : Nat → KT) (h1 : Snd mX1_digitOf g 2 (J 1)) : Snd mX1_digitOf g 2 (bX1_digitOf_1 g J) := by
  unfold bX1_digitOf_1
  refine s_iload_n (pc := 2) (i := 2) ?_ dX1_digitOf_2 rfl
  refine s_aload_n (pc := 3) (i := 0) ?_ dX1_digitOf_3 rfl
  refine s_getf (pc := 4) (ci := 1) (f := 1) (T := TX1) ?_ ginX1 rfl (by decide) wt_81 dX1_digitOf_4
  refine s_icge (pc := 7) (tgt := 28) ?_ ?_ dX1_digitOf_7 (by decide)
  · skip
    refine s_iconst (pc := 28) (v := (-1)) ?_ dX1_digitOf_28 (by decide)
    exact s_ireturn (pc := 29) rfl dX1_digitOf_29
  · skip
    refine s_aload_n (pc := 10) (i := 0) ?_ dX1_digitOf_10 rfl
    refine s_getf (pc := 11) (ci := 1) (f := 0) (T := TX1) ?_ ginX1 rfl (by decide) wt_75 dX1_digitOf_11
    refine s_iload_n (pc := 14) (i := 2) ?_ dX1_digitOf_14 rfl
    refine s_iaload (pc := 15) ?_ dX1_digitOf_15
    refine s_iload_n (pc := 16) (i := 1) ?_ dX1_digitOf_16 rfl
    refine s_icne (pc := 17) (tgt := 22) ?_ ?_ dX1_digitOf_17 (by decide)
    · skip
      refine s_iinc (pc := 22) (i := 2) (v := 1) ?_ dX1_digitOf_22 (by decide) (by decide)
      exact s_goto (pc := 25) (tgt := 2) h1 dX1_digitOf_25 (by decide)
    · skip
      refine s_iload_n (pc := 20) (i := 2) ?_ dX1_digitOf_20 rfl
      exact s_ireturn (pc := 21) rfl dX1_digitOf_21
def jX1_digitOf (g : GE) : Nat → Nat → KT
  | 0, _ => fun _ _ _ => none
  | n + 1, 0 => bX1_digitOf_0 g (jX1_digitOf g n)
  | n + 1, 1 => bX1_digitOf_1 g (jX1_digitOf g n)
  | _ + 1, _ + 2 => fun _ _ _ => none
theorem sjX1_digitOf (g : GE) : ∀ n, Snd mX1_digitOf g 0 (jX1_digitOf g n 0) ∧ Snd mX1_digitOf g 2 (jX1_digitOf g n 1)
  | 0 => ⟨s_none, s_none⟩
  | n + 1 => by
    obtain ⟨-, h1⟩ := sjX1_digitOf g n
    exact ⟨sbX1_digitOf_0 g _ h1, sbX1_digitOf_1 g _ h1⟩
def kX1_digitOf (g : GE) : KT := jX1_digitOf g g.1 0
theorem sX1_digitOf (g : GE) : Snd mX1_digitOf g 0 (kX1_digitOf g) := (sjX1_digitOf g g.1).1
def fX1_digitOf : FT := fun g av w => if (ent av).length ≤ 3 then kX1_digitOf g [] (entp 3 av) w else none
theorem tX1_digitOf : Mt yX1_digitOf cX1_digitOf 3 (some .int) 1 30 fX1_digitOf := Mt.of (K := kX1_digitOf) (by decide +kernel) (fun _ _ _ => rfl) sX1_digitOf
theorem crX1_digitOf : yX1_digitOf.cls ≠ "java/lang/invoke/MethodHandle" ∧ yX1_digitOf.cls ≠ "java/lang/invoke/VarHandle" ∧ (parseMethodDescriptor yX1_digitOf.desc).map (fun d => d.parameters.length) = some 1 := by decide +kernel
theorem dX7_holdingDigit_0 : decode cX7_holdingDigit 0 = .ok (.aload_n 0, 1) := by decide +kernel
theorem dX7_holdingDigit_1 : decode cX7_holdingDigit 1 = .ok (.iload_n 1, 1) := by decide +kernel
theorem dX7_holdingDigit_2 : decode cX7_holdingDigit 2 = .ok (.lconst 0, 1) := by decide +kernel
theorem dX7_holdingDigit_3 : decode cX7_holdingDigit 3 = .ok (.lconst 0, 1) := by decide +kernel
theorem dX7_holdingDigit_4 : decode cX7_holdingDigit 4 = .ok (.invokevirtual 151, 3) := by decide +kernel
theorem dX7_holdingDigit_7 : decode cX7_holdingDigit 7 = .ok (.aload_n 0, 1) := by decide +kernel
theorem dX7_holdingDigit_8 : decode cX7_holdingDigit 8 = .ok (.getfield 32, 3) := by decide +kernel
theorem dX7_holdingDigit_11 : decode cX7_holdingDigit 11 = .ok (.iload_n 2, 1) := by decide +kernel
theorem dX7_holdingDigit_12 : decode cX7_holdingDigit 12 = .ok (.iaload, 1) := by decide +kernel
theorem dX7_holdingDigit_13 : decode cX7_holdingDigit 13 = .ok (.ireturn, 1) := by decide +kernel
abbrev mX7_holdingDigit : MD := (cX7_holdingDigit, "BlottedDeed$Table", 3, 4, 100, (some .int), "holdingDigit", [])
def bX7_holdingDigit_0 (g : GE) (J : Nat → KT) : KT := i_aload 0 (i_iload 1 (i_push (.long 0) (i_push (.long 0) (i_cv fX7_tallyUp g 3 7 (i_aload 0 (i_getf 7 8 (i_iload 2 (i_iaload (i_ireturn)))))))))
theorem sbX7_holdingDigit_0 (g : GE) (J : Nat → KT)  : Snd mX7_holdingDigit g 0 (bX7_holdingDigit_0 g J) := by
  unfold bX7_holdingDigit_0
  refine s_aload_n (pc := 0) (i := 0) ?_ dX7_holdingDigit_0 rfl
  refine s_iload_n (pc := 1) (i := 1) ?_ dX7_holdingDigit_1 rfl
  refine s_lconst (pc := 2) (v := 0) ?_ dX7_holdingDigit_2 (by decide)
  refine s_lconst (pc := 3) (v := 0) ?_ dX7_holdingDigit_3 (by decide)
  refine s_cv (pc := 4) (n := 3) (ci := 7) ?_ tX7_tallyUp rfl rfl wt_534 wt_536 wp_6 wt_8 wt_537 ⟨crX7_tallyUp, by decide, by decide⟩ dX7_holdingDigit_4
  refine s_aload_n (pc := 7) (i := 0) ?_ dX7_holdingDigit_7 rfl
  refine s_getf (pc := 8) (ci := 7) (f := 8) (T := TX7) ?_ ginX7 rfl (by decide) wt_348 dX7_holdingDigit_8
  refine s_iload_n (pc := 11) (i := 2) ?_ dX7_holdingDigit_11 rfl
  refine s_iaload (pc := 12) ?_ dX7_holdingDigit_12
  exact s_ireturn (pc := 13) rfl dX7_holdingDigit_13
def kX7_holdingDigit (g : GE) : KT := bX7_holdingDigit_0 g (fun _ _ _ _ => none)
theorem sX7_holdingDigit (g : GE) : Snd mX7_holdingDigit g 0 (kX7_holdingDigit g) := sbX7_holdingDigit_0 g _
def fX7_holdingDigit : FT := fun g av w => if (ent av).length ≤ 3 then kX7_holdingDigit g [] (entp 3 av) w else none
theorem tX7_holdingDigit : Mt yX7_holdingDigit cX7_holdingDigit 3 (some .int) 4 100 fX7_holdingDigit := Mt.of (K := kX7_holdingDigit) (by decide +kernel) (fun _ _ _ => rfl) sX7_holdingDigit
theorem crX7_holdingDigit : yX7_holdingDigit.cls ≠ "java/lang/invoke/MethodHandle" ∧ yX7_holdingDigit.cls ≠ "java/lang/invoke/VarHandle" ∧ (parseMethodDescriptor yX7_holdingDigit.desc).map (fun d => d.parameters.length) = some 2 := by decide +kernel
theorem dX10_holding_0 : decode cX10_holding 0 = .ok (.aload_n 0, 1) := by decide +kernel
theorem dX10_holding_1 : decode cX10_holding 1 = .ok (.iload_n 1, 1) := by decide +kernel
theorem dX10_holding_2 : decode cX10_holding 2 = .ok (.invokevirtual 126, 3) := by decide +kernel
theorem dX10_holding_5 : decode cX10_holding 5 = .ok (.aload_n 0, 1) := by decide +kernel
theorem dX10_holding_6 : decode cX10_holding 6 = .ok (.getfield 16, 3) := by decide +kernel
theorem dX10_holding_9 : decode cX10_holding 9 = .ok (.getfield 129, 3) := by decide +kernel
theorem dX10_holding_12 : decode cX10_holding 12 = .ok (.iload_n 1, 1) := by decide +kernel
theorem dX10_holding_13 : decode cX10_holding 13 = .ok (.aaload, 1) := by decide +kernel
theorem dX10_holding_14 : decode cX10_holding 14 = .ok (.iload_n 2, 1) := by decide +kernel
theorem dX10_holding_15 : decode cX10_holding 15 = .ok (.invokevirtual 285, 3) := by decide +kernel
theorem dX10_holding_18 : decode cX10_holding 18 = .ok (.istore_n 3, 1) := by decide +kernel
theorem dX10_holding_19 : decode cX10_holding 19 = .ok (.iload_n 3, 1) := by decide +kernel
theorem dX10_holding_20 : decode cX10_holding 20 = .ok (.iconst (-1), 1) := by decide +kernel
theorem dX10_holding_21 : decode cX10_holding 21 = .ok (.if_icmp .ne 7, 3) := by decide +kernel
theorem dX10_holding_24 : decode cX10_holding 24 = .ok (.iconst (-1), 1) := by decide +kernel
theorem dX10_holding_25 : decode cX10_holding 25 = .ok (.goto 12, 3) := by decide +kernel
theorem dX10_holding_28 : decode cX10_holding 28 = .ok (.aload_n 0, 1) := by decide +kernel
theorem dX10_holding_29 : decode cX10_holding 29 = .ok (.getfield 37, 3) := by decide +kernel
theorem dX10_holding_32 : decode cX10_holding 32 = .ok (.iload_n 1, 1) := by decide +kernel
theorem dX10_holding_33 : decode cX10_holding 33 = .ok (.iload_n 3, 1) := by decide +kernel
theorem dX10_holding_34 : decode cX10_holding 34 = .ok (.invokevirtual 288, 3) := by decide +kernel
theorem dX10_holding_37 : decode cX10_holding 37 = .ok (.ireturn, 1) := by decide +kernel
abbrev mX10_holding : MD := (cX10_holding, "BlottedDeed", 4, 7, 122, (some .int), "holding", [])
def bX10_holding_0 (g : GE) (J : Nat → KT) : KT := i_aload 0 (i_iload 1 (i_cvX fX10_needBlot g 1 9 (i_aload 0 (i_getf 9 3 (i_getf 2 8 (i_iload 1 (i_aaload 6 (i_iload 2 (i_cv fX1_digitOf g 1 1 (i_istore 3 (i_iload 3 (i_push (.int (-1)) (i_icne (i_aload 0 (i_getf 9 5 (i_iload 1 (i_iload 3 (i_cv fX7_holdingDigit g 2 7 (i_jmp [false, false, false, false] (J 1))))))) (i_push (.int (-1)) (i_jmp [false, false, false, false] (J 1))))))))))))))))
def bX10_holding_1 (g : GE) (J : Nat → KT) : KT := i_ireturn
theorem sbX10_holding_0 (g : GE) (J : Nat → KT) (h1 : Snd mX10_holding g 37 (J 1)) : Snd mX10_holding g 0 (bX10_holding_0 g J) := by
  unfold bX10_holding_0
  refine s_aload_n (pc := 0) (i := 0) ?_ dX10_holding_0 rfl
  refine s_iload_n (pc := 1) (i := 1) ?_ dX10_holding_1 rfl
  refine s_cvX (pc := 2) (n := 1) (ci := 9) ?_ tX10_needBlot rfl rfl wt_932 wt_934 wp_32 wt_1 wt_935 ⟨crX10_needBlot, by decide, by decide⟩ rfl dX10_holding_2
  refine s_aload_n (pc := 5) (i := 0) ?_ dX10_holding_5 rfl
  refine s_getf (pc := 6) (ci := 9) (f := 3) (T := TX10) ?_ ginX10 rfl (by decide) wt_457 dX10_holding_6
  refine s_getf (pc := 9) (ci := 2) (f := 8) (T := TX2) ?_ ginX2 rfl (by decide) wt_127 dX10_holding_9
  refine s_iload_n (pc := 12) (i := 1) ?_ dX10_holding_12 rfl
  refine s_aaload (pc := 13) (t := 6) ?_ (by decide) rfl dX10_holding_13
  refine s_iload_n (pc := 14) (i := 2) ?_ dX10_holding_14 rfl
  refine s_cv (pc := 15) (n := 1) (ci := 1) ?_ tX1_digitOf rfl rfl wt_1269 wt_1270 wt_1271 wt_6 wt_1272 ⟨crX1_digitOf, by decide, by decide⟩ dX10_holding_15
  refine s_istore_n (pc := 18) (i := 3) ?_ dX10_holding_18 rfl (by decide)
  refine s_iload_n (pc := 19) (i := 3) ?_ dX10_holding_19 rfl
  refine s_iconst (pc := 20) (v := (-1)) ?_ dX10_holding_20 (by decide)
  refine s_icne (pc := 21) (tgt := 28) ?_ ?_ dX10_holding_21 (by decide)
  · skip
    refine s_aload_n (pc := 28) (i := 0) ?_ dX10_holding_28 rfl
    refine s_getf (pc := 29) (ci := 9) (f := 5) (T := TX10) ?_ ginX10 rfl (by decide) wt_459 dX10_holding_29
    refine s_iload_n (pc := 32) (i := 1) ?_ dX10_holding_32 rfl
    refine s_iload_n (pc := 33) (i := 3) ?_ dX10_holding_33 rfl
    refine s_cv (pc := 34) (n := 2) (ci := 7) ?_ tX7_holdingDigit rfl rfl wt_1273 wt_1274 wt_1275 wt_8 wt_1276 ⟨crX7_holdingDigit, by decide, by decide⟩ dX10_holding_34
    exact s_fall (pc := 37) h1
  · skip
    refine s_iconst (pc := 24) (v := (-1)) ?_ dX10_holding_24 (by decide)
    exact s_goto (pc := 25) (tgt := 37) h1 dX10_holding_25 (by decide)
theorem sbX10_holding_1 (g : GE) (J : Nat → KT) (h1 : Snd mX10_holding g 37 (J 1)) : Snd mX10_holding g 37 (bX10_holding_1 g J) := by
  unfold bX10_holding_1
  exact s_ireturn (pc := 37) rfl dX10_holding_37
def jX10_holding (g : GE) : Nat → Nat → KT
  | 0, _ => fun _ _ _ => none
  | n + 1, 0 => bX10_holding_0 g (jX10_holding g n)
  | n + 1, 1 => bX10_holding_1 g (jX10_holding g n)
  | _ + 1, _ + 2 => fun _ _ _ => none
theorem sjX10_holding (g : GE) : ∀ n, Snd mX10_holding g 0 (jX10_holding g n 0) ∧ Snd mX10_holding g 37 (jX10_holding g n 1)
  | 0 => ⟨s_none, s_none⟩
  | n + 1 => by
    obtain ⟨-, h1⟩ := sjX10_holding g n
    exact ⟨sbX10_holding_0 g _ h1, sbX10_holding_1 g _ h1⟩
def kX10_holding (g : GE) : KT := jX10_holding g g.1 0
theorem sX10_holding (g : GE) : Snd mX10_holding g 0 (kX10_holding g) := (sjX10_holding g g.1).1
def fX10_holding : FT := fun g av w => if (ent av).length ≤ 4 then kX10_holding g [] (entp 4 av) w else none
theorem tX10_holding : Mt yX10_holding cX10_holding 4 (some .int) 7 122 fX10_holding := Mt.of (K := kX10_holding) (by decide +kernel) (fun _ _ _ => rfl) sX10_holding
theorem crX10_holding : yX10_holding.cls ≠ "java/lang/invoke/MethodHandle" ∧ yX10_holding.cls ≠ "java/lang/invoke/VarHandle" ∧ (parseMethodDescriptor yX10_holding.desc).map (fun d => d.parameters.length) = some 2 := by decide +kernel
theorem dX8_takeFrom_0 : decode cX8_takeFrom 0 = .ok (.aload_n 0, 1) := by decide +kernel
theorem dX8_takeFrom_1 : decode cX8_takeFrom 1 = .ok (.aload_n 1, 1) := by decide +kernel
theorem dX8_takeFrom_2 : decode cX8_takeFrom 2 = .ok (.getfield 33, 3) := by decide +kernel
theorem dX8_takeFrom_5 : decode cX8_takeFrom 5 = .ok (.putfield 33, 3) := by decide +kernel
theorem dX8_takeFrom_8 : decode cX8_takeFrom 8 = .ok (.aload_n 0, 1) := by decide +kernel
theorem dX8_takeFrom_9 : decode cX8_takeFrom 9 = .ok (.aload_n 1, 1) := by decide +kernel
theorem dX8_takeFrom_10 : decode cX8_takeFrom 10 = .ok (.getfield 37, 3) := by decide +kernel
theorem dX8_takeFrom_13 : decode cX8_takeFrom 13 = .ok (.putfield 37, 3) := by decide +kernel
theorem dX8_takeFrom_16 : decode cX8_takeFrom 16 = .ok (.aload_n 1, 1) := by decide +kernel
theorem dX8_takeFrom_17 : decode cX8_takeFrom 17 = .ok (.getfield 9, 3) := by decide +kernel
theorem dX8_takeFrom_20 : decode cX8_takeFrom 20 = .ok (.iconst 0, 1) := by decide +kernel
theorem dX8_takeFrom_21 : decode cX8_takeFrom 21 = .ok (.aload_n 0, 1) := by decide +kernel
theorem dX8_takeFrom_22 : decode cX8_takeFrom 22 = .ok (.getfield 9, 3) := by decide +kernel
theorem dX8_takeFrom_25 : decode cX8_takeFrom 25 = .ok (.iconst 0, 1) := by decide +kernel
theorem dX8_takeFrom_26 : decode cX8_takeFrom 26 = .ok (.bipush 12, 2) := by decide +kernel
theorem dX8_takeFrom_28 : decode cX8_takeFrom 28 = .ok (.invokestatic 40, 3) := by decide +kernel
theorem dX8_takeFrom_31 : decode cX8_takeFrom 31 = .ok (.aload_n 1, 1) := by decide +kernel
theorem dX8_takeFrom_32 : decode cX8_takeFrom 32 = .ok (.getfield 15, 3) := by decide +kernel
theorem dX8_takeFrom_35 : decode cX8_takeFrom 35 = .ok (.iconst 0, 1) := by decide +kernel
theorem dX8_takeFrom_36 : decode cX8_takeFrom 36 = .ok (.aload_n 0, 1) := by decide +kernel
theorem dX8_takeFrom_37 : decode cX8_takeFrom 37 = .ok (.getfield 15, 3) := by decide +kernel
theorem dX8_takeFrom_40 : decode cX8_takeFrom 40 = .ok (.iconst 0, 1) := by decide +kernel
theorem dX8_takeFrom_41 : decode cX8_takeFrom 41 = .ok (.bipush 12, 2) := by decide +kernel
theorem dX8_takeFrom_43 : decode cX8_takeFrom 43 = .ok (.invokestatic 40, 3) := by decide +kernel
theorem dX8_takeFrom_46 : decode cX8_takeFrom 46 = .ok (.aload_n 1, 1) := by decide +kernel
theorem dX8_takeFrom_47 : decode cX8_takeFrom 47 = .ok (.getfield 18, 3) := by decide +kernel
theorem dX8_takeFrom_50 : decode cX8_takeFrom 50 = .ok (.iconst 0, 1) := by decide +kernel
theorem dX8_takeFrom_51 : decode cX8_takeFrom 51 = .ok (.aload_n 0, 1) := by decide +kernel
theorem dX8_takeFrom_52 : decode cX8_takeFrom 52 = .ok (.getfield 18, 3) := by decide +kernel
theorem dX8_takeFrom_55 : decode cX8_takeFrom 55 = .ok (.iconst 0, 1) := by decide +kernel
theorem dX8_takeFrom_56 : decode cX8_takeFrom 56 = .ok (.bipush 12, 2) := by decide +kernel
theorem dX8_takeFrom_58 : decode cX8_takeFrom 58 = .ok (.invokestatic 40, 3) := by decide +kernel
theorem dX8_takeFrom_61 : decode cX8_takeFrom 61 = .ok (.aload_n 1, 1) := by decide +kernel
theorem dX8_takeFrom_62 : decode cX8_takeFrom 62 = .ok (.getfield 21, 3) := by decide +kernel
theorem dX8_takeFrom_65 : decode cX8_takeFrom 65 = .ok (.iconst 0, 1) := by decide +kernel
theorem dX8_takeFrom_66 : decode cX8_takeFrom 66 = .ok (.aload_n 0, 1) := by decide +kernel
theorem dX8_takeFrom_67 : decode cX8_takeFrom 67 = .ok (.getfield 21, 3) := by decide +kernel
theorem dX8_takeFrom_70 : decode cX8_takeFrom 70 = .ok (.iconst 0, 1) := by decide +kernel
theorem dX8_takeFrom_71 : decode cX8_takeFrom 71 = .ok (.bipush 8, 2) := by decide +kernel
theorem dX8_takeFrom_73 : decode cX8_takeFrom 73 = .ok (.invokestatic 40, 3) := by decide +kernel
theorem dX8_takeFrom_76 : decode cX8_takeFrom 76 = .ok (.aload_n 1, 1) := by decide +kernel
theorem dX8_takeFrom_77 : decode cX8_takeFrom 77 = .ok (.getfield 24, 3) := by decide +kernel
theorem dX8_takeFrom_80 : decode cX8_takeFrom 80 = .ok (.iconst 0, 1) := by decide +kernel
theorem dX8_takeFrom_81 : decode cX8_takeFrom 81 = .ok (.aload_n 0, 1) := by decide +kernel
theorem dX8_takeFrom_82 : decode cX8_takeFrom 82 = .ok (.getfield 24, 3) := by decide +kernel
theorem dX8_takeFrom_85 : decode cX8_takeFrom 85 = .ok (.iconst 0, 1) := by decide +kernel
theorem dX8_takeFrom_86 : decode cX8_takeFrom 86 = .ok (.bipush 8, 2) := by decide +kernel
theorem dX8_takeFrom_88 : decode cX8_takeFrom 88 = .ok (.invokestatic 40, 3) := by decide +kernel
theorem dX8_takeFrom_91 : decode cX8_takeFrom 91 = .ok (.aload_n 1, 1) := by decide +kernel
theorem dX8_takeFrom_92 : decode cX8_takeFrom 92 = .ok (.getfield 27, 3) := by decide +kernel
theorem dX8_takeFrom_95 : decode cX8_takeFrom 95 = .ok (.iconst 0, 1) := by decide +kernel
theorem dX8_takeFrom_96 : decode cX8_takeFrom 96 = .ok (.aload_n 0, 1) := by decide +kernel
theorem dX8_takeFrom_97 : decode cX8_takeFrom 97 = .ok (.getfield 27, 3) := by decide +kernel
theorem dX8_takeFrom_100 : decode cX8_takeFrom 100 = .ok (.iconst 0, 1) := by decide +kernel
theorem dX8_takeFrom_101 : decode cX8_takeFrom 101 = .ok (.bipush 8, 2) := by decide +kernel
theorem dX8_takeFrom_103 : decode cX8_takeFrom 103 = .ok (.invokestatic 40, 3) := by decide +kernel
theorem dX8_takeFrom_106 : decode cX8_takeFrom 106 = .ok (.aload_n 1, 1) := by decide +kernel
theorem dX8_takeFrom_107 : decode cX8_takeFrom 107 = .ok (.getfield 30, 3) := by decide +kernel
theorem dX8_takeFrom_110 : decode cX8_takeFrom 110 = .ok (.iconst 0, 1) := by decide +kernel
theorem dX8_takeFrom_111 : decode cX8_takeFrom 111 = .ok (.aload_n 0, 1) := by decide +kernel
theorem dX8_takeFrom_112 : decode cX8_takeFrom 112 = .ok (.getfield 30, 3) := by decide +kernel
theorem dX8_takeFrom_115 : decode cX8_takeFrom 115 = .ok (.iconst 0, 1) := by decide +kernel
theorem dX8_takeFrom_116 : decode cX8_takeFrom 116 = .ok (.bipush 8, 2) := by decide +kernel
theorem dX8_takeFrom_118 : decode cX8_takeFrom 118 = .ok (.invokestatic 40, 3) := by decide +kernel
theorem dX8_takeFrom_121 : decode cX8_takeFrom 121 = .ok (.return_, 1) := by decide +kernel
abbrev mX8_takeFrom : MD := (cX8_takeFrom, "BlottedDeed$Testimony", 2, 1, 60, none, "takeFrom", [])
def bX8_takeFrom_0 (g : GE) (J : Nat → KT) : KT := i_aload 0 (i_aload 1 (i_getf 8 7 (i_putf 8 7 .int (i_aload 0 (i_aload 1 (i_getf 8 8 (i_putf 8 8 .int (i_aload 1 (i_getf 8 0 (i_push (.int 0) (i_aload 0 (i_getf 8 0 (i_push (.int 0) (i_push (.int 12) (i_acopy (i_aload 1 (i_getf 8 1 (i_push (.int 0) (i_aload 0 (i_getf 8 1 (i_push (.int 0) (i_push (.int 12) (i_acopy (i_aload 1 (i_getf 8 2 (i_push (.int 0) (i_aload 0 (i_getf 8 2 (i_push (.int 0) (i_push (.int 12) (i_acopy (i_aload 1 (i_getf 8 3 (i_push (.int 0) (i_aload 0 (i_getf 8 3 (i_push (.int 0) (i_push (.int 8) (i_acopy (i_aload 1 (i_getf 8 4 (i_push (.int 0) (i_aload 0 (i_getf 8 4 (i_push (.int 0) (i_push (.int 8) (i_acopy (i_aload 1 (i_getf 8 5 (i_push (.int 0) (i_aload 0 (i_getf 8 5 (i_push (.int 0) (i_push (.int 8) (i_acopy (i_aload 1 (i_getf 8 6 (i_push (.int 0) (i_aload 0 (i_getf 8 6 (i_push (.int 0) (i_push (.int 8) (i_acopy (i_return))))))))))))))))))))))))))))))))))))))))))))))))))))))))))))))))
theorem sbX8_takeFrom_0 (g : GE) (J : Nat → KT)  : Snd mX8_takeFrom g 0 (bX8_takeFrom_0 g J) := by
  unfold bX8_takeFrom_0
  refine s_aload_n (pc := 0) (i := 0) ?_ dX8_takeFrom_0 rfl
  refine s_aload_n (pc := 1) (i := 1) ?_ dX8_takeFrom_1 rfl
  refine s_getf (pc := 2) (ci := 8) (f := 7) (T := TX8) ?_ ginX8 rfl (by decide) wt_429 dX8_takeFrom_2
  refine s_putf (pc := 5) (ci := 8) (f := 7) (T := TX8) (ty0 := tyX8) ?_ ginX8 tyX8_ok nmX8 rfl (by decide) rfl rfl wt_429 dX8_takeFrom_5
  refine s_aload_n (pc := 8) (i := 0) ?_ dX8_takeFrom_8 rfl
  refine s_aload_n (pc := 9) (i := 1) ?_ dX8_takeFrom_9 rfl
  refine s_getf (pc := 10) (ci := 8) (f := 8) (T := TX8) ?_ ginX8 rfl (by decide) wt_432 dX8_takeFrom_10
  refine s_putf (pc := 13) (ci := 8) (f := 8) (T := TX8) (ty0 := tyX8) ?_ ginX8 tyX8_ok nmX8 rfl (by decide) rfl rfl wt_432 dX8_takeFrom_13
  refine s_aload_n (pc := 16) (i := 1) ?_ dX8_takeFrom_16 rfl
  refine s_getf (pc := 17) (ci := 8) (f := 0) (T := TX8) ?_ ginX8 rfl (by decide) wt_420 dX8_takeFrom_17
  refine s_iconst (pc := 20) (v := 0) ?_ dX8_takeFrom_20 (by decide)
  refine s_aload_n (pc := 21) (i := 0) ?_ dX8_takeFrom_21 rfl
  refine s_getf (pc := 22) (ci := 8) (f := 0) (T := TX8) ?_ ginX8 rfl (by decide) wt_420 dX8_takeFrom_22
  refine s_iconst (pc := 25) (v := 0) ?_ dX8_takeFrom_25 (by decide)
  refine s_bipush (pc := 26) (v := 12) ?_ dX8_takeFrom_26 (by decide)
  refine s_acopy (pc := 28) ?_ wt_605 wt_269 wt_268 wt_11 (by decide +kernel) dX8_takeFrom_28
  refine s_aload_n (pc := 31) (i := 1) ?_ dX8_takeFrom_31 rfl
  refine s_getf (pc := 32) (ci := 8) (f := 1) (T := TX8) ?_ ginX8 rfl (by decide) wt_421 dX8_takeFrom_32
  refine s_iconst (pc := 35) (v := 0) ?_ dX8_takeFrom_35 (by decide)
  refine s_aload_n (pc := 36) (i := 0) ?_ dX8_takeFrom_36 rfl
  refine s_getf (pc := 37) (ci := 8) (f := 1) (T := TX8) ?_ ginX8 rfl (by decide) wt_421 dX8_takeFrom_37
  refine s_iconst (pc := 40) (v := 0) ?_ dX8_takeFrom_40 (by decide)
  refine s_bipush (pc := 41) (v := 12) ?_ dX8_takeFrom_41 (by decide)
  refine s_acopy (pc := 43) ?_ wt_605 wt_269 wt_268 wt_11 (by decide +kernel) dX8_takeFrom_43
  refine s_aload_n (pc := 46) (i := 1) ?_ dX8_takeFrom_46 rfl
  refine s_getf (pc := 47) (ci := 8) (f := 2) (T := TX8) ?_ ginX8 rfl (by decide) wt_423 dX8_takeFrom_47
  refine s_iconst (pc := 50) (v := 0) ?_ dX8_takeFrom_50 (by decide)
  refine s_aload_n (pc := 51) (i := 0) ?_ dX8_takeFrom_51 rfl
  refine s_getf (pc := 52) (ci := 8) (f := 2) (T := TX8) ?_ ginX8 rfl (by decide) wt_423 dX8_takeFrom_52
  refine s_iconst (pc := 55) (v := 0) ?_ dX8_takeFrom_55 (by decide)
  refine s_bipush (pc := 56) (v := 12) ?_ dX8_takeFrom_56 (by decide)
  refine s_acopy (pc := 58) ?_ wt_605 wt_269 wt_268 wt_11 (by decide +kernel) dX8_takeFrom_58
  refine s_aload_n (pc := 61) (i := 1) ?_ dX8_takeFrom_61 rfl
  refine s_getf (pc := 62) (ci := 8) (f := 3) (T := TX8) ?_ ginX8 rfl (by decide) wt_425 dX8_takeFrom_62
  refine s_iconst (pc := 65) (v := 0) ?_ dX8_takeFrom_65 (by decide)
  refine s_aload_n (pc := 66) (i := 0) ?_ dX8_takeFrom_66 rfl
  refine s_getf (pc := 67) (ci := 8) (f := 3) (T := TX8) ?_ ginX8 rfl (by decide) wt_425 dX8_takeFrom_67
  refine s_iconst (pc := 70) (v := 0) ?_ dX8_takeFrom_70 (by decide)
  refine s_bipush (pc := 71) (v := 8) ?_ dX8_takeFrom_71 (by decide)
  refine s_acopy (pc := 73) ?_ wt_605 wt_269 wt_268 wt_11 (by decide +kernel) dX8_takeFrom_73
  refine s_aload_n (pc := 76) (i := 1) ?_ dX8_takeFrom_76 rfl
  refine s_getf (pc := 77) (ci := 8) (f := 4) (T := TX8) ?_ ginX8 rfl (by decide) wt_426 dX8_takeFrom_77
  refine s_iconst (pc := 80) (v := 0) ?_ dX8_takeFrom_80 (by decide)
  refine s_aload_n (pc := 81) (i := 0) ?_ dX8_takeFrom_81 rfl
  refine s_getf (pc := 82) (ci := 8) (f := 4) (T := TX8) ?_ ginX8 rfl (by decide) wt_426 dX8_takeFrom_82
  refine s_iconst (pc := 85) (v := 0) ?_ dX8_takeFrom_85 (by decide)
  refine s_bipush (pc := 86) (v := 8) ?_ dX8_takeFrom_86 (by decide)
  refine s_acopy (pc := 88) ?_ wt_605 wt_269 wt_268 wt_11 (by decide +kernel) dX8_takeFrom_88
  refine s_aload_n (pc := 91) (i := 1) ?_ dX8_takeFrom_91 rfl
  refine s_getf (pc := 92) (ci := 8) (f := 5) (T := TX8) ?_ ginX8 rfl (by decide) wt_427 dX8_takeFrom_92
  refine s_iconst (pc := 95) (v := 0) ?_ dX8_takeFrom_95 (by decide)
  refine s_aload_n (pc := 96) (i := 0) ?_ dX8_takeFrom_96 rfl
  refine s_getf (pc := 97) (ci := 8) (f := 5) (T := TX8) ?_ ginX8 rfl (by decide) wt_427 dX8_takeFrom_97
  refine s_iconst (pc := 100) (v := 0) ?_ dX8_takeFrom_100 (by decide)
  refine s_bipush (pc := 101) (v := 8) ?_ dX8_takeFrom_101 (by decide)
  refine s_acopy (pc := 103) ?_ wt_605 wt_269 wt_268 wt_11 (by decide +kernel) dX8_takeFrom_103
  refine s_aload_n (pc := 106) (i := 1) ?_ dX8_takeFrom_106 rfl
  refine s_getf (pc := 107) (ci := 8) (f := 6) (T := TX8) ?_ ginX8 rfl (by decide) wt_428 dX8_takeFrom_107
  refine s_iconst (pc := 110) (v := 0) ?_ dX8_takeFrom_110 (by decide)
  refine s_aload_n (pc := 111) (i := 0) ?_ dX8_takeFrom_111 rfl
  refine s_getf (pc := 112) (ci := 8) (f := 6) (T := TX8) ?_ ginX8 rfl (by decide) wt_428 dX8_takeFrom_112
  refine s_iconst (pc := 115) (v := 0) ?_ dX8_takeFrom_115 (by decide)
  refine s_bipush (pc := 116) (v := 8) ?_ dX8_takeFrom_116 (by decide)
  refine s_acopy (pc := 118) ?_ wt_605 wt_269 wt_268 wt_11 (by decide +kernel) dX8_takeFrom_118
  exact s_return (pc := 121) rfl dX8_takeFrom_121
def kX8_takeFrom (g : GE) : KT := bX8_takeFrom_0 g (fun _ _ _ _ => none)
theorem sX8_takeFrom (g : GE) : Snd mX8_takeFrom g 0 (kX8_takeFrom g) := sbX8_takeFrom_0 g _
def fX8_takeFrom : FT := fun g av w => if (ent av).length ≤ 2 then kX8_takeFrom g [] (entp 2 av) w else none
theorem tX8_takeFrom : Mt yX8_takeFrom cX8_takeFrom 2 none 1 60 fX8_takeFrom := Mt.of (K := kX8_takeFrom) (by decide +kernel) (fun _ _ _ => rfl) sX8_takeFrom
theorem crX8_takeFrom : yX8_takeFrom.cls ≠ "java/lang/invoke/MethodHandle" ∧ yX8_takeFrom.cls ≠ "java/lang/invoke/VarHandle" ∧ (parseMethodDescriptor yX8_takeFrom.desc).map (fun d => d.parameters.length) = some 1 := by decide +kernel
theorem dX10_image_0 : decode cX10_image 0 = .ok (.aload_n 0, 1) := by decide +kernel
theorem dX10_image_1 : decode cX10_image 1 = .ok (.getfield 95, 3) := by decide +kernel
theorem dX10_image_4 : decode cX10_image 4 = .ok (.iconst 3, 1) := by decide +kernel
theorem dX10_image_5 : decode cX10_image 5 = .ok (.if_icmp .lt 5, 3) := by decide +kernel
theorem dX10_image_8 : decode cX10_image 8 = .ok (.iconst (-1), 1) := by decide +kernel
theorem dX10_image_9 : decode cX10_image 9 = .ok (.ireturn, 1) := by decide +kernel
theorem dX10_image_10 : decode cX10_image 10 = .ok (.aload_n 0, 1) := by decide +kernel
theorem dX10_image_11 : decode cX10_image 11 = .ok (.getfield 62, 3) := by decide +kernel
theorem dX10_image_14 : decode cX10_image 14 = .ok (.aload_n 0, 1) := by decide +kernel
theorem dX10_image_15 : decode cX10_image 15 = .ok (.getfield 95, 3) := by decide +kernel
theorem dX10_image_18 : decode cX10_image 18 = .ok (.aaload, 1) := by decide +kernel
theorem dX10_image_19 : decode cX10_image 19 = .ok (.aload_n 0, 1) := by decide +kernel
theorem dX10_image_20 : decode cX10_image 20 = .ok (.getfield 58, 3) := by decide +kernel
theorem dX10_image_23 : decode cX10_image 23 = .ok (.invokevirtual 315, 3) := by decide +kernel
theorem dX10_image_26 : decode cX10_image 26 = .ok (.aload_n 0, 1) := by decide +kernel
theorem dX10_image_27 : decode cX10_image 27 = .ok (.dup, 1) := by decide +kernel
theorem dX10_image_28 : decode cX10_image 28 = .ok (.getfield 95, 3) := by decide +kernel
theorem dX10_image_31 : decode cX10_image 31 = .ok (.iconst 1, 1) := by decide +kernel
theorem dX10_image_32 : decode cX10_image 32 = .ok (.iadd, 1) := by decide +kernel
theorem dX10_image_33 : decode cX10_image 33 = .ok (.putfield 95, 3) := by decide +kernel
theorem dX10_image_36 : decode cX10_image 36 = .ok (.aload_n 0, 1) := by decide +kernel
theorem dX10_image_37 : decode cX10_image 37 = .ok (.getfield 95, 3) := by decide +kernel
theorem dX10_image_40 : decode cX10_image 40 = .ok (.ireturn, 1) := by decide +kernel
abbrev mX10_image : MD := (cX10_image, "BlottedDeed", 1, 2, 81, (some .int), "image", [])
def bX10_image_0 (g : GE) (J : Nat → KT) : KT := i_aload 0 (i_getf 9 10 (i_push (.int 3) (i_iclt (i_aload 0 (i_getf 9 9 (i_aload 0 (i_getf 9 10 (i_aaload 7 (i_aload 0 (i_getf 9 8 (i_cv fX8_takeFrom g 1 8 (i_aload 0 (i_dup (i_getf 9 10 (i_push (.int 1) (i_iadd (i_putf 9 10 .int (i_aload 0 (i_getf 9 10 (i_ireturn))))))))))))))))) (i_push (.int (-1)) (i_ireturn)))))
theorem sbX10_image_0 (g : GE) (J : Nat → KT)  : Snd mX10_image g 0 (bX10_image_0 g J) := by
  unfold bX10_image_0
  refine s_aload_n (pc := 0) (i := 0) ?_ dX10_image_0 rfl
  refine s_getf (pc := 1) (ci := 9) (f := 10) (T := TX10) ?_ ginX10 rfl (by decide) wt_464 dX10_image_1
  refine s_iconst (pc := 4) (v := 3) ?_ dX10_image_4 (by decide)
  refine s_iclt (pc := 5) (tgt := 10) ?_ ?_ dX10_image_5 (by decide)
  · skip
    refine s_aload_n (pc := 10) (i := 0) ?_ dX10_image_10 rfl
    refine s_getf (pc := 11) (ci := 9) (f := 9) (T := TX10) ?_ ginX10 rfl (by decide) wt_463 dX10_image_11
    refine s_aload_n (pc := 14) (i := 0) ?_ dX10_image_14 rfl
    refine s_getf (pc := 15) (ci := 9) (f := 10) (T := TX10) ?_ ginX10 rfl (by decide) wt_464 dX10_image_15
    refine s_aaload (pc := 18) (t := 7) ?_ (by decide) rfl dX10_image_18
    refine s_aload_n (pc := 19) (i := 0) ?_ dX10_image_19 rfl
    refine s_getf (pc := 20) (ci := 9) (f := 8) (T := TX10) ?_ ginX10 rfl (by decide) wt_462 dX10_image_20
    refine s_cv (pc := 23) (n := 1) (ci := 8) ?_ tX8_takeFrom rfl rfl wt_601 wt_602 wt_603 wt_16 wt_604 ⟨crX8_takeFrom, by decide, by decide⟩ dX10_image_23
    refine s_aload_n (pc := 26) (i := 0) ?_ dX10_image_26 rfl
    refine s_dup (pc := 27) ?_ dX10_image_27
    refine s_getf (pc := 28) (ci := 9) (f := 10) (T := TX10) ?_ ginX10 rfl (by decide) wt_464 dX10_image_28
    refine s_iconst (pc := 31) (v := 1) ?_ dX10_image_31 (by decide)
    refine s_iadd (pc := 32) ?_ dX10_image_32
    refine s_putf (pc := 33) (ci := 9) (f := 10) (T := TX10) (ty0 := tyX10) ?_ ginX10 tyX10_ok nmX10 rfl (by decide) rfl rfl wt_464 dX10_image_33
    refine s_aload_n (pc := 36) (i := 0) ?_ dX10_image_36 rfl
    refine s_getf (pc := 37) (ci := 9) (f := 10) (T := TX10) ?_ ginX10 rfl (by decide) wt_464 dX10_image_37
    exact s_ireturn (pc := 40) rfl dX10_image_40
  · skip
    refine s_iconst (pc := 8) (v := (-1)) ?_ dX10_image_8 (by decide)
    exact s_ireturn (pc := 9) rfl dX10_image_9
def kX10_image (g : GE) : KT := bX10_image_0 g (fun _ _ _ _ => none)
theorem sX10_image (g : GE) : Snd mX10_image g 0 (kX10_image g) := sbX10_image_0 g _
def fX10_image : FT := fun g av w => if (ent av).length ≤ 1 then kX10_image g [] (entp 1 av) w else none
theorem tX10_image : Mt yX10_image cX10_image 1 (some .int) 2 81 fX10_image := Mt.of (K := kX10_image) (by decide +kernel) (fun _ _ _ => rfl) sX10_image
theorem crX10_image : yX10_image.cls ≠ "java/lang/invoke/MethodHandle" ∧ yX10_image.cls ≠ "java/lang/invoke/VarHandle" ∧ (parseMethodDescriptor yX10_image.desc).map (fun d => d.parameters.length) = some 0 := by decide +kernel
theorem dX3_init_0 : decode cX3_init 0 = .ok (.aload_n 0, 1) := by decide +kernel
theorem dX3_init_1 : decode cX3_init 1 = .ok (.invokespecial 1, 3) := by decide +kernel
theorem dX3_init_4 : decode cX3_init 4 = .ok (.aload_n 0, 1) := by decide +kernel
theorem dX3_init_5 : decode cX3_init 5 = .ok (.getstatic 7, 3) := by decide +kernel
theorem dX3_init_8 : decode cX3_init 8 = .ok (.putfield 13, 3) := by decide +kernel
theorem dX3_init_11 : decode cX3_init 11 = .ok (.return_, 1) := by decide +kernel
abbrev mX3_init : MD := (cX3_init, "BlottedDeed$Part", 1, 1, 30, none, "<init>", [])
def bX3_init_0 (g : GE) (J : Nat → KT) : KT := i_aload 0 (i_obj (i_aload 0 (i_push (.ref (g.2.1 4)) (i_putf 3 0 (.object "BlottedDeed$Verb") (i_return)))))
theorem sbX3_init_0 (g : GE) (J : Nat → KT)  : Snd mX3_init g 0 (bX3_init_0 g J) := by
  unfold bX3_init_0
  refine s_aload_n (pc := 0) (i := 0) ?_ dX3_init_0 rfl
  refine s_obj (pc := 1) ?_ wt_51 wt_35 wt_36 (by decide) dX3_init_1
  refine s_aload_n (pc := 4) (i := 0) ?_ dX3_init_4 rfl
  refine s_gets (pc := 5) (i := 4) ?_ (by decide) wt_52 dX3_init_5
  refine s_putf (pc := 8) (ci := 3) (f := 0) (T := TX3) (ty0 := tyX3) ?_ ginX3 tyX3_ok nmX3 rfl (by decide) rfl rfl wt_54 dX3_init_8
  exact s_return (pc := 11) rfl dX3_init_11
def kX3_init (g : GE) : KT := bX3_init_0 g (fun _ _ _ _ => none)
theorem sX3_init (g : GE) : Snd mX3_init g 0 (kX3_init g) := sbX3_init_0 g _
def fX3_init : FT := fun g av w => if (ent av).length ≤ 1 then kX3_init g [] (entp 1 av) w else none
theorem tX3_init : Mt yX3_init cX3_init 1 none 1 30 fX3_init := Mt.of (K := kX3_init) (by decide +kernel) (fun _ _ _ => rfl) sX3_init
theorem crX3_init : yX3_init.cls ≠ "java/lang/invoke/MethodHandle" ∧ yX3_init.cls ≠ "java/lang/invoke/VarHandle" ∧ (parseMethodDescriptor yX3_init.desc).map (fun d => d.parameters.length) = some 0 := by decide +kernel
theorem dX2_init_0 : decode cX2_init 0 = .ok (.aload_n 0, 1) := by decide +kernel
theorem dX2_init_1 : decode cX2_init 1 = .ok (.invokespecial 3, 3) := by decide +kernel
theorem dX2_init_4 : decode cX2_init 4 = .ok (.aload_n 0, 1) := by decide +kernel
theorem dX2_init_5 : decode cX2_init 5 = .ok (.iconst 4, 1) := by decide +kernel
theorem dX2_init_6 : decode cX2_init 6 = .ok (.newarray .long, 2) := by decide +kernel
theorem dX2_init_8 : decode cX2_init 8 = .ok (.putfield 9, 3) := by decide +kernel
theorem dX2_init_11 : decode cX2_init 11 = .ok (.aload_n 0, 1) := by decide +kernel
theorem dX2_init_12 : decode cX2_init 12 = .ok (.iconst 4, 1) := by decide +kernel
theorem dX2_init_13 : decode cX2_init 13 = .ok (.newarray .int, 2) := by decide +kernel
theorem dX2_init_15 : decode cX2_init 15 = .ok (.putfield 15, 3) := by decide +kernel
theorem dX2_init_18 : decode cX2_init 18 = .ok (.aload_n 0, 1) := by decide +kernel
theorem dX2_init_19 : decode cX2_init 19 = .ok (.iconst 4, 1) := by decide +kernel
theorem dX2_init_20 : decode cX2_init 20 = .ok (.newarray .int, 2) := by decide +kernel
theorem dX2_init_22 : decode cX2_init 22 = .ok (.putfield 19, 3) := by decide +kernel
theorem dX2_init_25 : decode cX2_init 25 = .ok (.aload_n 0, 1) := by decide +kernel
theorem dX2_init_26 : decode cX2_init 26 = .ok (.iconst 5, 1) := by decide +kernel
theorem dX2_init_27 : decode cX2_init 27 = .ok (.newarray .long, 2) := by decide +kernel
theorem dX2_init_29 : decode cX2_init 29 = .ok (.putfield 22, 3) := by decide +kernel
theorem dX2_init_32 : decode cX2_init 32 = .ok (.aload_n 0, 1) := by decide +kernel
theorem dX2_init_33 : decode cX2_init 33 = .ok (.iconst 5, 1) := by decide +kernel
theorem dX2_init_34 : decode cX2_init 34 = .ok (.newarray .int, 2) := by decide +kernel
theorem dX2_init_36 : decode cX2_init 36 = .ok (.putfield 25, 3) := by decide +kernel
theorem dX2_init_39 : decode cX2_init 39 = .ok (.aload_n 0, 1) := by decide +kernel
theorem dX2_init_40 : decode cX2_init 40 = .ok (.bipush 9, 2) := by decide +kernel
theorem dX2_init_42 : decode cX2_init 42 = .ok (.anewarray 28, 3) := by decide +kernel
theorem dX2_init_45 : decode cX2_init 45 = .ok (.putfield 30, 3) := by decide +kernel
theorem dX2_init_48 : decode cX2_init 48 = .ok (.aload_n 0, 1) := by decide +kernel
theorem dX2_init_49 : decode cX2_init 49 = .ok (.bipush 36, 2) := by decide +kernel
theorem dX2_init_51 : decode cX2_init 51 = .ok (.newarray .int, 2) := by decide +kernel
theorem dX2_init_53 : decode cX2_init 53 = .ok (.putfield 34, 3) := by decide +kernel
theorem dX2_init_56 : decode cX2_init 56 = .ok (.aload_n 0, 1) := by decide +kernel
theorem dX2_init_57 : decode cX2_init 57 = .ok (.bipush 36, 2) := by decide +kernel
theorem dX2_init_59 : decode cX2_init 59 = .ok (.newarray .int, 2) := by decide +kernel
theorem dX2_init_61 : decode cX2_init 61 = .ok (.putfield 37, 3) := by decide +kernel
theorem dX2_init_64 : decode cX2_init 64 = .ok (.aload_n 0, 1) := by decide +kernel
theorem dX2_init_65 : decode cX2_init 65 = .ok (.bipush 8, 2) := by decide +kernel
theorem dX2_init_67 : decode cX2_init 67 = .ok (.anewarray 40, 3) := by decide +kernel
theorem dX2_init_70 : decode cX2_init 70 = .ok (.putfield 42, 3) := by decide +kernel
theorem dX2_init_73 : decode cX2_init 73 = .ok (.aload_n 0, 1) := by decide +kernel
theorem dX2_init_74 : decode cX2_init 74 = .ok (.iconst 1, 1) := by decide +kernel
theorem dX2_init_75 : decode cX2_init 75 = .ok (.putfield 46, 3) := by decide +kernel
theorem dX2_init_78 : decode cX2_init 78 = .ok (.iconst 0, 1) := by decide +kernel
theorem dX2_init_79 : decode cX2_init 79 = .ok (.istore_n 1, 1) := by decide +kernel
theorem dX2_init_80 : decode cX2_init 80 = .ok (.iload_n 1, 1) := by decide +kernel
theorem dX2_init_81 : decode cX2_init 81 = .ok (.bipush 9, 2) := by decide +kernel
theorem dX2_init_83 : decode cX2_init 83 = .ok (.if_icmp .ge 22, 3) := by decide +kernel
theorem dX2_init_86 : decode cX2_init 86 = .ok (.aload_n 0, 1) := by decide +kernel
theorem dX2_init_87 : decode cX2_init 87 = .ok (.getfield 30, 3) := by decide +kernel
theorem dX2_init_90 : decode cX2_init 90 = .ok (.iload_n 1, 1) := by decide +kernel
theorem dX2_init_91 : decode cX2_init 91 = .ok (.new 28, 3) := by decide +kernel
theorem dX2_init_94 : decode cX2_init 94 = .ok (.dup, 1) := by decide +kernel
theorem dX2_init_95 : decode cX2_init 95 = .ok (.invokespecial 50, 3) := by decide +kernel
theorem dX2_init_98 : decode cX2_init 98 = .ok (.aastore, 1) := by decide +kernel
theorem dX2_init_99 : decode cX2_init 99 = .ok (.iinc 1 1, 3) := by decide +kernel
theorem dX2_init_102 : decode cX2_init 102 = .ok (.goto (-22), 3) := by decide +kernel
theorem dX2_init_105 : decode cX2_init 105 = .ok (.iconst 0, 1) := by decide +kernel
theorem dX2_init_106 : decode cX2_init 106 = .ok (.istore_n 1, 1) := by decide +kernel
theorem dX2_init_107 : decode cX2_init 107 = .ok (.iload_n 1, 1) := by decide +kernel
theorem dX2_init_108 : decode cX2_init 108 = .ok (.bipush 8, 2) := by decide +kernel
theorem dX2_init_110 : decode cX2_init 110 = .ok (.if_icmp .ge 22, 3) := by decide +kernel
theorem dX2_init_113 : decode cX2_init 113 = .ok (.aload_n 0, 1) := by decide +kernel
theorem dX2_init_114 : decode cX2_init 114 = .ok (.getfield 42, 3) := by decide +kernel
theorem dX2_init_117 : decode cX2_init 117 = .ok (.iload_n 1, 1) := by decide +kernel
theorem dX2_init_118 : decode cX2_init 118 = .ok (.new 40, 3) := by decide +kernel
theorem dX2_init_121 : decode cX2_init 121 = .ok (.dup, 1) := by decide +kernel
theorem dX2_init_122 : decode cX2_init 122 = .ok (.invokespecial 51, 3) := by decide +kernel
theorem dX2_init_125 : decode cX2_init 125 = .ok (.aastore, 1) := by decide +kernel
theorem dX2_init_126 : decode cX2_init 126 = .ok (.iinc 1 1, 3) := by decide +kernel
theorem dX2_init_129 : decode cX2_init 129 = .ok (.goto (-22), 3) := by decide +kernel
theorem dX2_init_132 : decode cX2_init 132 = .ok (.return_, 1) := by decide +kernel
abbrev mX2_init : MD := (cX2_init, "BlottedDeed$Deed", 2, 2, 50, none, "<init>", [])
def bX2_init_0 (g : GE) (J : Nat → KT) : KT := i_aload 0 (i_obj (i_aload 0 (i_push (.int 4) (i_newarr 1 (i_putf 2 0 (.array .long) (i_aload 0 (i_push (.int 4) (i_newarr 0 (i_putf 2 1 (.array .int) (i_aload 0 (i_push (.int 4) (i_newarr 0 (i_putf 2 2 (.array .int) (i_aload 0 (i_push (.int 5) (i_newarr 1 (i_putf 2 3 (.array .long) (i_aload 0 (i_push (.int 5) (i_newarr 0 (i_putf 2 4 (.array .int) (i_aload 0 (i_push (.int 9) (i_anew 5 (i_putf 2 5 (.array (.object "BlottedDeed$Part")) (i_aload 0 (i_push (.int 36) (i_newarr 0 (i_putf 2 6 (.array .int) (i_aload 0 (i_push (.int 36) (i_newarr 0 (i_putf 2 7 (.array .int) (i_aload 0 (i_push (.int 8) (i_anew 6 (i_putf 2 8 (.array (.object "BlottedDeed$Blot")) (i_aload 0 (i_push (.int 1) (i_putf 2 15 .int (i_push (.int 0) (i_istore 1 (i_jmp [true, true] (J 1))))))))))))))))))))))))))))))))))))))))))))
def bX2_init_1 (g : GE) (J : Nat → KT) : KT := i_iload 1 (i_push (.int 9) (i_icge (i_push (.int 0) (i_istore 1 (i_jmp [true, true] (J 2)))) (i_aload 0 (i_getf 2 5 (i_iload 1 (i_new 3 3 [.null, .int 0, .int 0] (i_dup (i_ci fX3_init g 0 (i_aastore 5 3 (i_iinc 1 1 (i_jmp [true, true] (J 1))))))))))))
def bX2_init_2 (g : GE) (J : Nat → KT) : KT := i_iload 1 (i_push (.int 8) (i_icge (i_return) (i_aload 0 (i_getf 2 8 (i_iload 1 (i_new 1 6 [.null, .int 0, .int 0, .int 0, .int 0, .int 0] (i_dup (i_ci fX1_init g 0 (i_aastore 6 1 (i_iinc 1 1 (i_jmp [true, true] (J 2))))))))))))
theorem sbX2_init_0 (g : GE) (J : Nat → KT) (h1 : Snd mX2_init g 80 (J 1)) (h2 : Snd mX2_init g 107 (J 2)) : Snd mX2_init g 0 (bX2_init_0 g J) := by
  unfold bX2_init_0
  refine s_aload_n (pc := 0) (i := 0) ?_ dX2_init_0 rfl
  refine s_obj (pc := 1) ?_ wt_42 wt_35 wt_36 (by decide) dX2_init_1
  refine s_aload_n (pc := 4) (i := 0) ?_ dX2_init_4 rfl
  refine s_iconst (pc := 5) (v := 4) ?_ dX2_init_5 (by decide)
  refine s_newarr (pc := 6) (t := 1) ?_ (by decide) rfl wt_69 dX2_init_6
  refine s_putfF (pc := 8) (ci := 2) (f := 0) (T := TX2) (ty0 := tyX2) ?_ ginX2 tyX2_ok nmX2 rfl (by decide) rfl rfl rfl rfl wt_110 dX2_init_8
  refine s_aload_n (pc := 11) (i := 0) ?_ dX2_init_11 rfl
  refine s_iconst (pc := 12) (v := 4) ?_ dX2_init_12 (by decide)
  refine s_newarr (pc := 13) (t := 0) ?_ (by decide) rfl wt_68 dX2_init_13
  refine s_putfF (pc := 15) (ci := 2) (f := 1) (T := TX2) (ty0 := tyX2) ?_ ginX2 tyX2_ok nmX2 rfl (by decide) rfl rfl rfl rfl wt_111 dX2_init_15
  refine s_aload_n (pc := 18) (i := 0) ?_ dX2_init_18 rfl
  refine s_iconst (pc := 19) (v := 4) ?_ dX2_init_19 (by decide)
  refine s_newarr (pc := 20) (t := 0) ?_ (by decide) rfl wt_68 dX2_init_20
  refine s_putfF (pc := 22) (ci := 2) (f := 2) (T := TX2) (ty0 := tyX2) ?_ ginX2 tyX2_ok nmX2 rfl (by decide) rfl rfl rfl rfl wt_112 dX2_init_22
  refine s_aload_n (pc := 25) (i := 0) ?_ dX2_init_25 rfl
  refine s_iconst (pc := 26) (v := 5) ?_ dX2_init_26 (by decide)
  refine s_newarr (pc := 27) (t := 1) ?_ (by decide) rfl wt_69 dX2_init_27
  refine s_putfF (pc := 29) (ci := 2) (f := 3) (T := TX2) (ty0 := tyX2) ?_ ginX2 tyX2_ok nmX2 rfl (by decide) rfl rfl rfl rfl wt_115 dX2_init_29
  refine s_aload_n (pc := 32) (i := 0) ?_ dX2_init_32 rfl
  refine s_iconst (pc := 33) (v := 5) ?_ dX2_init_33 (by decide)
  refine s_newarr (pc := 34) (t := 0) ?_ (by decide) rfl wt_68 dX2_init_34
  refine s_putfF (pc := 36) (ci := 2) (f := 4) (T := TX2) (ty0 := tyX2) ?_ ginX2 tyX2_ok nmX2 rfl (by decide) rfl rfl rfl rfl wt_116 dX2_init_36
  refine s_aload_n (pc := 39) (i := 0) ?_ dX2_init_39 rfl
  refine s_bipush (pc := 40) (v := 9) ?_ dX2_init_40 (by decide)
  refine s_anew (pc := 42) (t := 5) (C := "BlottedDeed$Part") ?_ (by decide) rfl wt_43 (by decide +kernel) dX2_init_42
  refine s_putfF (pc := 45) (ci := 2) (f := 5) (T := TX2) (ty0 := tyX2) ?_ ginX2 tyX2_ok nmX2 rfl (by decide) rfl rfl rfl rfl wt_118 dX2_init_45
  refine s_aload_n (pc := 48) (i := 0) ?_ dX2_init_48 rfl
  refine s_bipush (pc := 49) (v := 36) ?_ dX2_init_49 (by decide)
  refine s_newarr (pc := 51) (t := 0) ?_ (by decide) rfl wt_68 dX2_init_51
  refine s_putfF (pc := 53) (ci := 2) (f := 6) (T := TX2) (ty0 := tyX2) ?_ ginX2 tyX2_ok nmX2 rfl (by decide) rfl rfl rfl rfl wt_120 dX2_init_53
  refine s_aload_n (pc := 56) (i := 0) ?_ dX2_init_56 rfl
  refine s_bipush (pc := 57) (v := 36) ?_ dX2_init_57 (by decide)
  refine s_newarr (pc := 59) (t := 0) ?_ (by decide) rfl wt_68 dX2_init_59
  refine s_putfF (pc := 61) (ci := 2) (f := 7) (T := TX2) (ty0 := tyX2) ?_ ginX2 tyX2_ok nmX2 rfl (by decide) rfl rfl rfl rfl wt_122 dX2_init_61
  refine s_aload_n (pc := 64) (i := 0) ?_ dX2_init_64 rfl
  refine s_bipush (pc := 65) (v := 8) ?_ dX2_init_65 (by decide)
  refine s_anew (pc := 67) (t := 6) (C := "BlottedDeed$Blot") ?_ (by decide) rfl wt_45 (by decide +kernel) dX2_init_67
  refine s_putfF (pc := 70) (ci := 2) (f := 8) (T := TX2) (ty0 := tyX2) ?_ ginX2 tyX2_ok nmX2 rfl (by decide) rfl rfl rfl rfl wt_124 dX2_init_70
  refine s_aload_n (pc := 73) (i := 0) ?_ dX2_init_73 rfl
  refine s_iconst (pc := 74) (v := 1) ?_ dX2_init_74 (by decide)
  refine s_putf (pc := 75) (ci := 2) (f := 15) (T := TX2) (ty0 := tyX2) ?_ ginX2 tyX2_ok nmX2 rfl (by decide) rfl rfl wt_153 dX2_init_75
  refine s_iconst (pc := 78) (v := 0) ?_ dX2_init_78 (by decide)
  refine s_istore_n (pc := 79) (i := 1) ?_ dX2_init_79 rfl (by decide)
  exact s_fall (pc := 80) h1
theorem sbX2_init_1 (g : GE) (J : Nat → KT) (h1 : Snd mX2_init g 80 (J 1)) (h2 : Snd mX2_init g 107 (J 2)) : Snd mX2_init g 80 (bX2_init_1 g J) := by
  unfold bX2_init_1
  refine s_iload_n (pc := 80) (i := 1) ?_ dX2_init_80 rfl
  refine s_bipush (pc := 81) (v := 9) ?_ dX2_init_81 (by decide)
  refine s_icge (pc := 83) (tgt := 105) ?_ ?_ dX2_init_83 (by decide)
  · skip
    refine s_iconst (pc := 105) (v := 0) ?_ dX2_init_105 (by decide)
    refine s_istore_n (pc := 106) (i := 1) ?_ dX2_init_106 rfl (by decide)
    exact s_fall (pc := 107) h2
  · skip
    refine s_aload_n (pc := 86) (i := 0) ?_ dX2_init_86 rfl
    refine s_getf (pc := 87) (ci := 2) (f := 5) (T := TX2) ?_ ginX2 rfl (by decide) wt_118 dX2_init_87
    refine s_iload_n (pc := 90) (i := 1) ?_ dX2_init_90 rfl
    refine s_new (pc := 91) (ci := 3) (N := 3) (T := TX3) (ty0 := tyX3) ?_ ginX3 tyX3_ok rfl wt_43 wt_47 wt_3 (by decide) dX2_init_91
    refine s_dup (pc := 94) ?_ dX2_init_94
    refine s_ciN (pc := 95) (n := 0) ?_ tX3_init rfl (by decide +kernel : Cond.methodLinkNest "BlottedDeed$Deed" 50 yX3_init "BlottedDeed" ∈ owl) wt_49 wt_3 wt_50 ⟨crX3_init, by decide, by decide⟩ dX2_init_95
    refine s_aastore (pc := 98) (t := 5) (ci := 3) ?_ (by decide) rfl rfl dX2_init_98
    refine s_iinc (pc := 99) (i := 1) (v := 1) ?_ dX2_init_99 (by decide) (by decide)
    exact s_goto (pc := 102) (tgt := 80) h1 dX2_init_102 (by decide)
theorem sbX2_init_2 (g : GE) (J : Nat → KT) (h1 : Snd mX2_init g 80 (J 1)) (h2 : Snd mX2_init g 107 (J 2)) : Snd mX2_init g 107 (bX2_init_2 g J) := by
  unfold bX2_init_2
  refine s_iload_n (pc := 107) (i := 1) ?_ dX2_init_107 rfl
  refine s_bipush (pc := 108) (v := 8) ?_ dX2_init_108 (by decide)
  refine s_icge (pc := 110) (tgt := 132) ?_ ?_ dX2_init_110 (by decide)
  · skip
    exact s_return (pc := 132) rfl dX2_init_132
  · skip
    refine s_aload_n (pc := 113) (i := 0) ?_ dX2_init_113 rfl
    refine s_getf (pc := 114) (ci := 2) (f := 8) (T := TX2) ?_ ginX2 rfl (by decide) wt_124 dX2_init_114
    refine s_iload_n (pc := 117) (i := 1) ?_ dX2_init_117 rfl
    refine s_new (pc := 118) (ci := 1) (N := 6) (T := TX1) (ty0 := tyX1) ?_ ginX1 tyX1_ok rfl wt_45 wt_70 wt_6 (by decide) dX2_init_118
    refine s_dup (pc := 121) ?_ dX2_init_121
    refine s_ciN (pc := 122) (n := 0) ?_ tX1_init rfl (by decide +kernel : Cond.methodLinkNest "BlottedDeed$Deed" 51 yX1_init "BlottedDeed" ∈ owl) wt_72 wt_6 wt_73 ⟨crX1_init, by decide, by decide⟩ dX2_init_122
    refine s_aastore (pc := 125) (t := 6) (ci := 1) ?_ (by decide) rfl rfl dX2_init_125
    refine s_iinc (pc := 126) (i := 1) (v := 1) ?_ dX2_init_126 (by decide) (by decide)
    exact s_goto (pc := 129) (tgt := 107) h2 dX2_init_129 (by decide)
def jX2_init (g : GE) : Nat → Nat → KT
  | 0, _ => fun _ _ _ => none
  | n + 1, 0 => bX2_init_0 g (jX2_init g n)
  | n + 1, 1 => bX2_init_1 g (jX2_init g n)
  | n + 1, 2 => bX2_init_2 g (jX2_init g n)
  | _ + 1, _ + 3 => fun _ _ _ => none
theorem sjX2_init (g : GE) : ∀ n, Snd mX2_init g 0 (jX2_init g n 0) ∧ Snd mX2_init g 80 (jX2_init g n 1) ∧ Snd mX2_init g 107 (jX2_init g n 2)
  | 0 => ⟨s_none, s_none, s_none⟩
  | n + 1 => by
    obtain ⟨-, h1, h2⟩ := sjX2_init g n
    exact ⟨sbX2_init_0 g _ h1 h2, sbX2_init_1 g _ h1 h2, sbX2_init_2 g _ h1 h2⟩
def kX2_init (g : GE) : KT := jX2_init g g.1 0
theorem sX2_init (g : GE) : Snd mX2_init g 0 (kX2_init g) := (sjX2_init g g.1).1
def fX2_init : FT := fun g av w => if (ent av).length ≤ 2 then kX2_init g [] (entp 2 av) w else none
theorem tX2_init : Mt yX2_init cX2_init 2 none 2 50 fX2_init := Mt.of (K := kX2_init) (by decide +kernel) (fun _ _ _ => rfl) sX2_init
theorem crX2_init : yX2_init.cls ≠ "java/lang/invoke/MethodHandle" ∧ yX2_init.cls ≠ "java/lang/invoke/VarHandle" ∧ (parseMethodDescriptor yX2_init.desc).map (fun d => d.parameters.length) = some 0 := by decide +kernel
theorem dX6_init_0 : decode cX6_init 0 = .ok (.aload_n 0, 1) := by decide +kernel
theorem dX6_init_1 : decode cX6_init 1 = .ok (.invokespecial 3, 3) := by decide +kernel
theorem dX6_init_4 : decode cX6_init 4 = .ok (.aload_n 0, 1) := by decide +kernel
theorem dX6_init_5 : decode cX6_init 5 = .ok (.aload_n 1, 1) := by decide +kernel
theorem dX6_init_6 : decode cX6_init 6 = .ok (.putfield 9, 3) := by decide +kernel
theorem dX6_init_9 : decode cX6_init 9 = .ok (.aload_n 0, 1) := by decide +kernel
theorem dX6_init_10 : decode cX6_init 10 = .ok (.aload_n 2, 1) := by decide +kernel
theorem dX6_init_11 : decode cX6_init 11 = .ok (.putfield 15, 3) := by decide +kernel
theorem dX6_init_14 : decode cX6_init 14 = .ok (.return_, 1) := by decide +kernel
abbrev mX6_init : MD := (cX6_init, "BlottedDeed$Scribe", 3, 1, 30, none, "<init>", [])
def bX6_init_0 (g : GE) (J : Nat → KT) : KT := i_aload 0 (i_obj (i_aload 0 (i_aload 1 (i_putf 6 0 (.array .int) (i_aload 0 (i_aload 2 (i_putf 6 5 (.object "BlottedDeed$Deed") (i_return))))))))
theorem sbX6_init_0 (g : GE) (J : Nat → KT)  : Snd mX6_init g 0 (bX6_init_0 g J) := by
  unfold bX6_init_0
  refine s_aload_n (pc := 0) (i := 0) ?_ dX6_init_0 rfl
  refine s_obj (pc := 1) ?_ wt_194 wt_35 wt_36 (by decide) dX6_init_1
  refine s_aload_n (pc := 4) (i := 0) ?_ dX6_init_4 rfl
  refine s_aload_n (pc := 5) (i := 1) ?_ dX6_init_5 rfl
  refine s_putfF (pc := 6) (ci := 6) (f := 0) (T := TX6) (ty0 := tyX6) ?_ ginX6 tyX6_ok nmX6 rfl (by decide) rfl rfl rfl rfl wt_195 dX6_init_6
  refine s_aload_n (pc := 9) (i := 0) ?_ dX6_init_9 rfl
  refine s_aload_n (pc := 10) (i := 2) ?_ dX6_init_10 rfl
  refine s_putf (pc := 11) (ci := 6) (f := 5) (T := TX6) (ty0 := tyX6) ?_ ginX6 tyX6_ok nmX6 rfl (by decide) rfl rfl wt_200 dX6_init_11
  exact s_return (pc := 14) rfl dX6_init_14
def kX6_init (g : GE) : KT := bX6_init_0 g (fun _ _ _ _ => none)
theorem sX6_init (g : GE) : Snd mX6_init g 0 (kX6_init g) := sbX6_init_0 g _
def fX6_init : FT := fun g av w => if (ent av).length ≤ 3 then kX6_init g [] (entp 3 av) w else none
theorem tX6_init : Mt yX6_init cX6_init 3 none 1 30 fX6_init := Mt.of (K := kX6_init) (by decide +kernel) (fun _ _ _ => rfl) sX6_init
theorem crX6_init : yX6_init.cls ≠ "java/lang/invoke/MethodHandle" ∧ yX6_init.cls ≠ "java/lang/invoke/VarHandle" ∧ (parseMethodDescriptor yX6_init.desc).map (fun d => d.parameters.length) = some 2 := by decide +kernel
theorem dX7_init_0 : decode cX7_init 0 = .ok (.aload_n 0, 1) := by decide +kernel
theorem dX7_init_1 : decode cX7_init 1 = .ok (.invokespecial 3, 3) := by decide +kernel
theorem dX7_init_4 : decode cX7_init 4 = .ok (.aload_n 0, 1) := by decide +kernel
theorem dX7_init_5 : decode cX7_init 5 = .ok (.bipush 32, 2) := by decide +kernel
theorem dX7_init_7 : decode cX7_init 7 = .ok (.newarray .long, 2) := by decide +kernel
theorem dX7_init_9 : decode cX7_init 9 = .ok (.putfield 11, 3) := by decide +kernel
theorem dX7_init_12 : decode cX7_init 12 = .ok (.aload_n 0, 1) := by decide +kernel
theorem dX7_init_13 : decode cX7_init 13 = .ok (.bipush 32, 2) := by decide +kernel
theorem dX7_init_15 : decode cX7_init 15 = .ok (.newarray .long, 2) := by decide +kernel
theorem dX7_init_17 : decode cX7_init 17 = .ok (.putfield 15, 3) := by decide +kernel
theorem dX7_init_20 : decode cX7_init 20 = .ok (.aload_n 0, 1) := by decide +kernel
theorem dX7_init_21 : decode cX7_init 21 = .ok (.sipush 1000, 3) := by decide +kernel
theorem dX7_init_24 : decode cX7_init 24 = .ok (.newarray .int, 2) := by decide +kernel
theorem dX7_init_26 : decode cX7_init 26 = .ok (.putfield 18, 3) := by decide +kernel
theorem dX7_init_29 : decode cX7_init 29 = .ok (.aload_n 0, 1) := by decide +kernel
theorem dX7_init_30 : decode cX7_init 30 = .ok (.bipush 8, 2) := by decide +kernel
theorem dX7_init_32 : decode cX7_init 32 = .ok (.newarray .int, 2) := by decide +kernel
theorem dX7_init_34 : decode cX7_init 34 = .ok (.putfield 22, 3) := by decide +kernel
theorem dX7_init_37 : decode cX7_init 37 = .ok (.aload_n 0, 1) := by decide +kernel
theorem dX7_init_38 : decode cX7_init 38 = .ok (.new 25, 3) := by decide +kernel
theorem dX7_init_41 : decode cX7_init 41 = .ok (.dup, 1) := by decide +kernel
theorem dX7_init_42 : decode cX7_init 42 = .ok (.invokespecial 27, 3) := by decide +kernel
theorem dX7_init_45 : decode cX7_init 45 = .ok (.putfield 28, 3) := by decide +kernel
theorem dX7_init_48 : decode cX7_init 48 = .ok (.aload_n 0, 1) := by decide +kernel
theorem dX7_init_49 : decode cX7_init 49 = .ok (.bipush 100, 2) := by decide +kernel
theorem dX7_init_51 : decode cX7_init 51 = .ok (.newarray .int, 2) := by decide +kernel
theorem dX7_init_53 : decode cX7_init 53 = .ok (.putfield 32, 3) := by decide +kernel
theorem dX7_init_56 : decode cX7_init 56 = .ok (.aload_n 0, 1) := by decide +kernel
theorem dX7_init_57 : decode cX7_init 57 = .ok (.bipush 9, 2) := by decide +kernel
theorem dX7_init_59 : decode cX7_init 59 = .ok (.newarray .int, 2) := by decide +kernel
theorem dX7_init_61 : decode cX7_init 61 = .ok (.putfield 35, 3) := by decide +kernel
theorem dX7_init_64 : decode cX7_init 64 = .ok (.aload_n 0, 1) := by decide +kernel
theorem dX7_init_65 : decode cX7_init 65 = .ok (.iconst 5, 1) := by decide +kernel
theorem dX7_init_66 : decode cX7_init 66 = .ok (.newarray .int, 2) := by decide +kernel
theorem dX7_init_68 : decode cX7_init 68 = .ok (.putfield 38, 3) := by decide +kernel
theorem dX7_init_71 : decode cX7_init 71 = .ok (.aload_n 0, 1) := by decide +kernel
theorem dX7_init_72 : decode cX7_init 72 = .ok (.bipush 32, 2) := by decide +kernel
theorem dX7_init_74 : decode cX7_init 74 = .ok (.newarray .byte, 2) := by decide +kernel
theorem dX7_init_76 : decode cX7_init 76 = .ok (.putfield 41, 3) := by decide +kernel
theorem dX7_init_79 : decode cX7_init 79 = .ok (.aload_n 0, 1) := by decide +kernel
theorem dX7_init_80 : decode cX7_init 80 = .ok (.aload_n 1, 1) := by decide +kernel
theorem dX7_init_81 : decode cX7_init 81 = .ok (.putfield 45, 3) := by decide +kernel
theorem dX7_init_84 : decode cX7_init 84 = .ok (.aload_n 0, 1) := by decide +kernel
theorem dX7_init_85 : decode cX7_init 85 = .ok (.aload_n 1, 1) := by decide +kernel
theorem dX7_init_86 : decode cX7_init 86 = .ok (.invokevirtual 49, 3) := by decide +kernel
theorem dX7_init_89 : decode cX7_init 89 = .ok (.return_, 1) := by decide +kernel
abbrev mX7_init : MD := (cX7_init, "BlottedDeed$Table", 2, 5, 146, none, "<init>", [])
def bX7_init_0 (g : GE) (J : Nat → KT) : KT := i_aload 0 (i_obj (i_aload 0 (i_push (.int 32) (i_newarr 1 (i_putf 7 0 (.array .long) (i_aload 0 (i_push (.int 32) (i_newarr 1 (i_putf 7 1 (.array .long) (i_aload 0 (i_push (.int 1000) (i_newarr 0 (i_putf 7 3 (.array .int) (i_aload 0 (i_push (.int 8) (i_newarr 0 (i_putf 7 4 (.array .int) (i_aload 0 (i_new 4 6 [.null, .null, .null, .null, .int 0, .int 0] (i_dup (i_ci fX4_init g 0 (i_putf 7 6 (.object "BlottedDeed$Row") (i_aload 0 (i_push (.int 100) (i_newarr 0 (i_putf 7 8 (.array .int) (i_aload 0 (i_push (.int 9) (i_newarr 0 (i_putf 7 9 (.array .int) (i_aload 0 (i_push (.int 5) (i_newarr 0 (i_putf 7 10 (.array .int) (i_aload 0 (i_push (.int 32) (i_newarr 2 (i_putf 7 11 (.array .byte) (i_aload 0 (i_aload 1 (i_putf 7 5 (.object "BlottedDeed$Deed") (i_aload 0 (i_aload 1 (i_cv fX7_gather g 1 7 (i_return)))))))))))))))))))))))))))))))))))))))))))))
theorem sbX7_init_0 (g : GE) (J : Nat → KT)  : Snd mX7_init g 0 (bX7_init_0 g J) := by
  unfold bX7_init_0
  refine s_aload_n (pc := 0) (i := 0) ?_ dX7_init_0 rfl
  refine s_obj (pc := 1) ?_ wt_227 wt_35 wt_36 (by decide) dX7_init_1
  refine s_aload_n (pc := 4) (i := 0) ?_ dX7_init_4 rfl
  refine s_bipush (pc := 5) (v := 32) ?_ dX7_init_5 (by decide)
  refine s_newarr (pc := 7) (t := 1) ?_ (by decide) rfl wt_69 dX7_init_7
  refine s_putf (pc := 9) (ci := 7) (f := 0) (T := TX7) (ty0 := tyX7) ?_ ginX7 tyX7_ok nmX7 rfl (by decide) rfl rfl wt_336 dX7_init_9
  refine s_aload_n (pc := 12) (i := 0) ?_ dX7_init_12 rfl
  refine s_bipush (pc := 13) (v := 32) ?_ dX7_init_13 (by decide)
  refine s_newarr (pc := 15) (t := 1) ?_ (by decide) rfl wt_69 dX7_init_15
  refine s_putf (pc := 17) (ci := 7) (f := 1) (T := TX7) (ty0 := tyX7) ?_ ginX7 tyX7_ok nmX7 rfl (by decide) rfl rfl wt_338 dX7_init_17
  refine s_aload_n (pc := 20) (i := 0) ?_ dX7_init_20 rfl
  refine s_sipush (pc := 21) (v := 1000) ?_ dX7_init_21 (by decide)
  refine s_newarr (pc := 24) (t := 0) ?_ (by decide) rfl wt_68 dX7_init_24
  refine s_putfF (pc := 26) (ci := 7) (f := 3) (T := TX7) (ty0 := tyX7) ?_ ginX7 tyX7_ok nmX7 rfl (by decide) rfl rfl rfl rfl wt_341 dX7_init_26
  refine s_aload_n (pc := 29) (i := 0) ?_ dX7_init_29 rfl
  refine s_bipush (pc := 30) (v := 8) ?_ dX7_init_30 (by decide)
  refine s_newarr (pc := 32) (t := 0) ?_ (by decide) rfl wt_68 dX7_init_32
  refine s_putfF (pc := 34) (ci := 7) (f := 4) (T := TX7) (ty0 := tyX7) ?_ ginX7 tyX7_ok nmX7 rfl (by decide) rfl rfl rfl rfl wt_343 dX7_init_34
  refine s_aload_n (pc := 37) (i := 0) ?_ dX7_init_37 rfl
  refine s_new (pc := 38) (ci := 4) (N := 6) (T := TX4) (ty0 := tyX4) ?_ ginX4 tyX4_ok rfl wt_228 wt_229 wt_9 (by decide) dX7_init_38
  refine s_dup (pc := 41) ?_ dX7_init_41
  refine s_ciN (pc := 42) (n := 0) ?_ tX4_init rfl (by decide +kernel : Cond.methodLinkNest "BlottedDeed$Table" 27 yX4_init "BlottedDeed" ∈ owl) wt_231 wt_9 wt_232 ⟨crX4_init, by decide, by decide⟩ dX7_init_42
  refine s_putfF (pc := 45) (ci := 7) (f := 6) (T := TX7) (ty0 := tyX7) ?_ ginX7 tyX7_ok nmX7 rfl (by decide) rfl rfl rfl rfl wt_346 dX7_init_45
  refine s_aload_n (pc := 48) (i := 0) ?_ dX7_init_48 rfl
  refine s_bipush (pc := 49) (v := 100) ?_ dX7_init_49 (by decide)
  refine s_newarr (pc := 51) (t := 0) ?_ (by decide) rfl wt_68 dX7_init_51
  refine s_putfF (pc := 53) (ci := 7) (f := 8) (T := TX7) (ty0 := tyX7) ?_ ginX7 tyX7_ok nmX7 rfl (by decide) rfl rfl rfl rfl wt_348 dX7_init_53
  refine s_aload_n (pc := 56) (i := 0) ?_ dX7_init_56 rfl
  refine s_bipush (pc := 57) (v := 9) ?_ dX7_init_57 (by decide)
  refine s_newarr (pc := 59) (t := 0) ?_ (by decide) rfl wt_68 dX7_init_59
  refine s_putfF (pc := 61) (ci := 7) (f := 9) (T := TX7) (ty0 := tyX7) ?_ ginX7 tyX7_ok nmX7 rfl (by decide) rfl rfl rfl rfl wt_349 dX7_init_61
  refine s_aload_n (pc := 64) (i := 0) ?_ dX7_init_64 rfl
  refine s_iconst (pc := 65) (v := 5) ?_ dX7_init_65 (by decide)
  refine s_newarr (pc := 66) (t := 0) ?_ (by decide) rfl wt_68 dX7_init_66
  refine s_putfF (pc := 68) (ci := 7) (f := 10) (T := TX7) (ty0 := tyX7) ?_ ginX7 tyX7_ok nmX7 rfl (by decide) rfl rfl rfl rfl wt_350 dX7_init_68
  refine s_aload_n (pc := 71) (i := 0) ?_ dX7_init_71 rfl
  refine s_bipush (pc := 72) (v := 32) ?_ dX7_init_72 (by decide)
  refine s_newarr (pc := 74) (t := 2) ?_ (by decide) rfl wt_377 dX7_init_74
  refine s_putf (pc := 76) (ci := 7) (f := 11) (T := TX7) (ty0 := tyX7) ?_ ginX7 tyX7_ok nmX7 rfl (by decide) rfl rfl wt_351 dX7_init_76
  refine s_aload_n (pc := 79) (i := 0) ?_ dX7_init_79 rfl
  refine s_aload_n (pc := 80) (i := 1) ?_ dX7_init_80 rfl
  refine s_putf (pc := 81) (ci := 7) (f := 5) (T := TX7) (ty0 := tyX7) ?_ ginX7 tyX7_ok nmX7 rfl (by decide) rfl rfl wt_345 dX7_init_81
  refine s_aload_n (pc := 84) (i := 0) ?_ dX7_init_84 rfl
  refine s_aload_n (pc := 85) (i := 1) ?_ dX7_init_85 rfl
  refine s_cv (pc := 86) (n := 1) (ci := 7) ?_ tX7_gather rfl rfl wt_256 wt_257 wt_258 wt_8 wt_259 ⟨crX7_gather, by decide, by decide⟩ dX7_init_86
  exact s_return (pc := 89) rfl dX7_init_89
def kX7_init (g : GE) : KT := bX7_init_0 g (fun _ _ _ _ => none)
theorem sX7_init (g : GE) : Snd mX7_init g 0 (kX7_init g) := sbX7_init_0 g _
def fX7_init : FT := fun g av w => if (ent av).length ≤ 2 then kX7_init g [] (entp 2 av) w else none
theorem tX7_init : Mt yX7_init cX7_init 2 none 5 146 fX7_init := Mt.of (K := kX7_init) (by decide +kernel) (fun _ _ _ => rfl) sX7_init
theorem crX7_init : yX7_init.cls ≠ "java/lang/invoke/MethodHandle" ∧ yX7_init.cls ≠ "java/lang/invoke/VarHandle" ∧ (parseMethodDescriptor yX7_init.desc).map (fun d => d.parameters.length) = some 1 := by decide +kernel
theorem dX5_init_0 : decode cX5_init 0 = .ok (.aload_n 0, 1) := by decide +kernel
theorem dX5_init_1 : decode cX5_init 1 = .ok (.invokespecial 3, 3) := by decide +kernel
theorem dX5_init_4 : decode cX5_init 4 = .ok (.aload_n 0, 1) := by decide +kernel
theorem dX5_init_5 : decode cX5_init 5 = .ok (.sipush 800, 3) := by decide +kernel
theorem dX5_init_8 : decode cX5_init 8 = .ok (.newarray .long, 2) := by decide +kernel
theorem dX5_init_10 : decode cX5_init 10 = .ok (.putfield 9, 3) := by decide +kernel
theorem dX5_init_13 : decode cX5_init 13 = .ok (.aload_n 0, 1) := by decide +kernel
theorem dX5_init_14 : decode cX5_init 14 = .ok (.sipush 800, 3) := by decide +kernel
theorem dX5_init_17 : decode cX5_init 17 = .ok (.newarray .int, 2) := by decide +kernel
theorem dX5_init_19 : decode cX5_init 19 = .ok (.putfield 15, 3) := by decide +kernel
theorem dX5_init_22 : decode cX5_init 22 = .ok (.return_, 1) := by decide +kernel
abbrev mX5_init : MD := (cX5_init, "BlottedDeed$Scales", 1, 1, 30, none, "<init>", [])
def bX5_init_0 (g : GE) (J : Nat → KT) : KT := i_aload 0 (i_obj (i_aload 0 (i_push (.int 800) (i_newarr 1 (i_putf 5 0 (.array .long) (i_aload 0 (i_push (.int 800) (i_newarr 0 (i_putf 5 1 (.array .int) (i_return))))))))))
theorem sbX5_init_0 (g : GE) (J : Nat → KT)  : Snd mX5_init g 0 (bX5_init_0 g J) := by
  unfold bX5_init_0
  refine s_aload_n (pc := 0) (i := 0) ?_ dX5_init_0 rfl
  refine s_obj (pc := 1) ?_ wt_403 wt_35 wt_36 (by decide) dX5_init_1
  refine s_aload_n (pc := 4) (i := 0) ?_ dX5_init_4 rfl
  refine s_sipush (pc := 5) (v := 800) ?_ dX5_init_5 (by decide)
  refine s_newarr (pc := 8) (t := 1) ?_ (by decide) rfl wt_69 dX5_init_8
  refine s_putfF (pc := 10) (ci := 5) (f := 0) (T := TX5) (ty0 := tyX5) ?_ ginX5 tyX5_ok nmX5 rfl (by decide) rfl rfl rfl rfl wt_404 dX5_init_10
  refine s_aload_n (pc := 13) (i := 0) ?_ dX5_init_13 rfl
  refine s_sipush (pc := 14) (v := 800) ?_ dX5_init_14 (by decide)
  refine s_newarr (pc := 17) (t := 0) ?_ (by decide) rfl wt_68 dX5_init_17
  refine s_putfF (pc := 19) (ci := 5) (f := 1) (T := TX5) (ty0 := tyX5) ?_ ginX5 tyX5_ok nmX5 rfl (by decide) rfl rfl rfl rfl wt_405 dX5_init_19
  exact s_return (pc := 22) rfl dX5_init_22
def kX5_init (g : GE) : KT := bX5_init_0 g (fun _ _ _ _ => none)
theorem sX5_init (g : GE) : Snd mX5_init g 0 (kX5_init g) := sbX5_init_0 g _
def fX5_init : FT := fun g av w => if (ent av).length ≤ 1 then kX5_init g [] (entp 1 av) w else none
theorem tX5_init : Mt yX5_init cX5_init 1 none 1 30 fX5_init := Mt.of (K := kX5_init) (by decide +kernel) (fun _ _ _ => rfl) sX5_init
theorem crX5_init : yX5_init.cls ≠ "java/lang/invoke/MethodHandle" ∧ yX5_init.cls ≠ "java/lang/invoke/VarHandle" ∧ (parseMethodDescriptor yX5_init.desc).map (fun d => d.parameters.length) = some 0 := by decide +kernel
theorem dX8_init_0 : decode cX8_init 0 = .ok (.aload_n 0, 1) := by decide +kernel
theorem dX8_init_1 : decode cX8_init 1 = .ok (.invokespecial 3, 3) := by decide +kernel
theorem dX8_init_4 : decode cX8_init 4 = .ok (.aload_n 0, 1) := by decide +kernel
theorem dX8_init_5 : decode cX8_init 5 = .ok (.bipush 12, 2) := by decide +kernel
theorem dX8_init_7 : decode cX8_init 7 = .ok (.newarray .int, 2) := by decide +kernel
theorem dX8_init_9 : decode cX8_init 9 = .ok (.putfield 9, 3) := by decide +kernel
theorem dX8_init_12 : decode cX8_init 12 = .ok (.aload_n 0, 1) := by decide +kernel
theorem dX8_init_13 : decode cX8_init 13 = .ok (.bipush 12, 2) := by decide +kernel
theorem dX8_init_15 : decode cX8_init 15 = .ok (.newarray .int, 2) := by decide +kernel
theorem dX8_init_17 : decode cX8_init 17 = .ok (.putfield 15, 3) := by decide +kernel
theorem dX8_init_20 : decode cX8_init 20 = .ok (.aload_n 0, 1) := by decide +kernel
theorem dX8_init_21 : decode cX8_init 21 = .ok (.bipush 12, 2) := by decide +kernel
theorem dX8_init_23 : decode cX8_init 23 = .ok (.newarray .int, 2) := by decide +kernel
theorem dX8_init_25 : decode cX8_init 25 = .ok (.putfield 18, 3) := by decide +kernel
theorem dX8_init_28 : decode cX8_init 28 = .ok (.aload_n 0, 1) := by decide +kernel
theorem dX8_init_29 : decode cX8_init 29 = .ok (.bipush 8, 2) := by decide +kernel
theorem dX8_init_31 : decode cX8_init 31 = .ok (.newarray .int, 2) := by decide +kernel
theorem dX8_init_33 : decode cX8_init 33 = .ok (.putfield 21, 3) := by decide +kernel
theorem dX8_init_36 : decode cX8_init 36 = .ok (.aload_n 0, 1) := by decide +kernel
theorem dX8_init_37 : decode cX8_init 37 = .ok (.bipush 8, 2) := by decide +kernel
theorem dX8_init_39 : decode cX8_init 39 = .ok (.newarray .int, 2) := by decide +kernel
theorem dX8_init_41 : decode cX8_init 41 = .ok (.putfield 24, 3) := by decide +kernel
theorem dX8_init_44 : decode cX8_init 44 = .ok (.aload_n 0, 1) := by decide +kernel
theorem dX8_init_45 : decode cX8_init 45 = .ok (.bipush 8, 2) := by decide +kernel
theorem dX8_init_47 : decode cX8_init 47 = .ok (.newarray .int, 2) := by decide +kernel
theorem dX8_init_49 : decode cX8_init 49 = .ok (.putfield 27, 3) := by decide +kernel
theorem dX8_init_52 : decode cX8_init 52 = .ok (.aload_n 0, 1) := by decide +kernel
theorem dX8_init_53 : decode cX8_init 53 = .ok (.bipush 8, 2) := by decide +kernel
theorem dX8_init_55 : decode cX8_init 55 = .ok (.newarray .int, 2) := by decide +kernel
theorem dX8_init_57 : decode cX8_init 57 = .ok (.putfield 30, 3) := by decide +kernel
theorem dX8_init_60 : decode cX8_init 60 = .ok (.return_, 1) := by decide +kernel
abbrev mX8_init : MD := (cX8_init, "BlottedDeed$Testimony", 1, 1, 30, none, "<init>", [])
def bX8_init_0 (g : GE) (J : Nat → KT) : KT := i_aload 0 (i_obj (i_aload 0 (i_push (.int 12) (i_newarr 0 (i_putf 8 0 (.array .int) (i_aload 0 (i_push (.int 12) (i_newarr 0 (i_putf 8 1 (.array .int) (i_aload 0 (i_push (.int 12) (i_newarr 0 (i_putf 8 2 (.array .int) (i_aload 0 (i_push (.int 8) (i_newarr 0 (i_putf 8 3 (.array .int) (i_aload 0 (i_push (.int 8) (i_newarr 0 (i_putf 8 4 (.array .int) (i_aload 0 (i_push (.int 8) (i_newarr 0 (i_putf 8 5 (.array .int) (i_aload 0 (i_push (.int 8) (i_newarr 0 (i_putf 8 6 (.array .int) (i_return))))))))))))))))))))))))))))))
theorem sbX8_init_0 (g : GE) (J : Nat → KT)  : Snd mX8_init g 0 (bX8_init_0 g J) := by
  unfold bX8_init_0
  refine s_aload_n (pc := 0) (i := 0) ?_ dX8_init_0 rfl
  refine s_obj (pc := 1) ?_ wt_419 wt_35 wt_36 (by decide) dX8_init_1
  refine s_aload_n (pc := 4) (i := 0) ?_ dX8_init_4 rfl
  refine s_bipush (pc := 5) (v := 12) ?_ dX8_init_5 (by decide)
  refine s_newarr (pc := 7) (t := 0) ?_ (by decide) rfl wt_68 dX8_init_7
  refine s_putfF (pc := 9) (ci := 8) (f := 0) (T := TX8) (ty0 := tyX8) ?_ ginX8 tyX8_ok nmX8 rfl (by decide) rfl rfl rfl rfl wt_420 dX8_init_9
  refine s_aload_n (pc := 12) (i := 0) ?_ dX8_init_12 rfl
  refine s_bipush (pc := 13) (v := 12) ?_ dX8_init_13 (by decide)
  refine s_newarr (pc := 15) (t := 0) ?_ (by decide) rfl wt_68 dX8_init_15
  refine s_putfF (pc := 17) (ci := 8) (f := 1) (T := TX8) (ty0 := tyX8) ?_ ginX8 tyX8_ok nmX8 rfl (by decide) rfl rfl rfl rfl wt_421 dX8_init_17
  refine s_aload_n (pc := 20) (i := 0) ?_ dX8_init_20 rfl
  refine s_bipush (pc := 21) (v := 12) ?_ dX8_init_21 (by decide)
  refine s_newarr (pc := 23) (t := 0) ?_ (by decide) rfl wt_68 dX8_init_23
  refine s_putfF (pc := 25) (ci := 8) (f := 2) (T := TX8) (ty0 := tyX8) ?_ ginX8 tyX8_ok nmX8 rfl (by decide) rfl rfl rfl rfl wt_423 dX8_init_25
  refine s_aload_n (pc := 28) (i := 0) ?_ dX8_init_28 rfl
  refine s_bipush (pc := 29) (v := 8) ?_ dX8_init_29 (by decide)
  refine s_newarr (pc := 31) (t := 0) ?_ (by decide) rfl wt_68 dX8_init_31
  refine s_putfF (pc := 33) (ci := 8) (f := 3) (T := TX8) (ty0 := tyX8) ?_ ginX8 tyX8_ok nmX8 rfl (by decide) rfl rfl rfl rfl wt_425 dX8_init_33
  refine s_aload_n (pc := 36) (i := 0) ?_ dX8_init_36 rfl
  refine s_bipush (pc := 37) (v := 8) ?_ dX8_init_37 (by decide)
  refine s_newarr (pc := 39) (t := 0) ?_ (by decide) rfl wt_68 dX8_init_39
  refine s_putfF (pc := 41) (ci := 8) (f := 4) (T := TX8) (ty0 := tyX8) ?_ ginX8 tyX8_ok nmX8 rfl (by decide) rfl rfl rfl rfl wt_426 dX8_init_41
  refine s_aload_n (pc := 44) (i := 0) ?_ dX8_init_44 rfl
  refine s_bipush (pc := 45) (v := 8) ?_ dX8_init_45 (by decide)
  refine s_newarr (pc := 47) (t := 0) ?_ (by decide) rfl wt_68 dX8_init_47
  refine s_putfF (pc := 49) (ci := 8) (f := 5) (T := TX8) (ty0 := tyX8) ?_ ginX8 tyX8_ok nmX8 rfl (by decide) rfl rfl rfl rfl wt_427 dX8_init_49
  refine s_aload_n (pc := 52) (i := 0) ?_ dX8_init_52 rfl
  refine s_bipush (pc := 53) (v := 8) ?_ dX8_init_53 (by decide)
  refine s_newarr (pc := 55) (t := 0) ?_ (by decide) rfl wt_68 dX8_init_55
  refine s_putfF (pc := 57) (ci := 8) (f := 6) (T := TX8) (ty0 := tyX8) ?_ ginX8 tyX8_ok nmX8 rfl (by decide) rfl rfl rfl rfl wt_428 dX8_init_57
  exact s_return (pc := 60) rfl dX8_init_60
def kX8_init (g : GE) : KT := bX8_init_0 g (fun _ _ _ _ => none)
theorem sX8_init (g : GE) : Snd mX8_init g 0 (kX8_init g) := sbX8_init_0 g _
def fX8_init : FT := fun g av w => if (ent av).length ≤ 1 then kX8_init g [] (entp 1 av) w else none
theorem tX8_init : Mt yX8_init cX8_init 1 none 1 30 fX8_init := Mt.of (K := kX8_init) (by decide +kernel) (fun _ _ _ => rfl) sX8_init
theorem crX8_init : yX8_init.cls ≠ "java/lang/invoke/MethodHandle" ∧ yX8_init.cls ≠ "java/lang/invoke/VarHandle" ∧ (parseMethodDescriptor yX8_init.desc).map (fun d => d.parameters.length) = some 0 := by decide +kernel
theorem dX10_init_0 : decode cX10_init 0 = .ok (.aload_n 0, 1) := by decide +kernel
theorem dX10_init_1 : decode cX10_init 1 = .ok (.invokespecial 1, 3) := by decide +kernel
theorem dX10_init_4 : decode cX10_init 4 = .ok (.aload_n 0, 1) := by decide +kernel
theorem dX10_init_5 : decode cX10_init 5 = .ok (.sipush 600, 3) := by decide +kernel
theorem dX10_init_8 : decode cX10_init 8 = .ok (.newarray .int, 2) := by decide +kernel
theorem dX10_init_10 : decode cX10_init 10 = .ok (.putfield 9, 3) := by decide +kernel
theorem dX10_init_13 : decode cX10_init 13 = .ok (.aload_n 0, 1) := by decide +kernel
theorem dX10_init_14 : decode cX10_init 14 = .ok (.new 13, 3) := by decide +kernel
theorem dX10_init_17 : decode cX10_init 17 = .ok (.dup, 1) := by decide +kernel
theorem dX10_init_18 : decode cX10_init 18 = .ok (.invokespecial 15, 3) := by decide +kernel
theorem dX10_init_21 : decode cX10_init 21 = .ok (.putfield 16, 3) := by decide +kernel
theorem dX10_init_24 : decode cX10_init 24 = .ok (.aload_n 0, 1) := by decide +kernel
theorem dX10_init_25 : decode cX10_init 25 = .ok (.new 13, 3) := by decide +kernel
theorem dX10_init_28 : decode cX10_init 28 = .ok (.dup, 1) := by decide +kernel
theorem dX10_init_29 : decode cX10_init 29 = .ok (.invokespecial 15, 3) := by decide +kernel
theorem dX10_init_32 : decode cX10_init 32 = .ok (.putfield 20, 3) := by decide +kernel
theorem dX10_init_35 : decode cX10_init 35 = .ok (.aload_n 0, 1) := by decide +kernel
theorem dX10_init_36 : decode cX10_init 36 = .ok (.new 23, 3) := by decide +kernel
theorem dX10_init_39 : decode cX10_init 39 = .ok (.dup, 1) := by decide +kernel
theorem dX10_init_40 : decode cX10_init 40 = .ok (.aload_n 0, 1) := by decide +kernel
theorem dX10_init_41 : decode cX10_init 41 = .ok (.getfield 9, 3) := by decide +kernel
theorem dX10_init_44 : decode cX10_init 44 = .ok (.aload_n 0, 1) := by decide +kernel
theorem dX10_init_45 : decode cX10_init 45 = .ok (.getfield 20, 3) := by decide +kernel
theorem dX10_init_48 : decode cX10_init 48 = .ok (.invokespecial 25, 3) := by decide +kernel
theorem dX10_init_51 : decode cX10_init 51 = .ok (.putfield 28, 3) := by decide +kernel
theorem dX10_init_54 : decode cX10_init 54 = .ok (.aload_n 0, 1) := by decide +kernel
theorem dX10_init_55 : decode cX10_init 55 = .ok (.new 32, 3) := by decide +kernel
theorem dX10_init_58 : decode cX10_init 58 = .ok (.dup, 1) := by decide +kernel
theorem dX10_init_59 : decode cX10_init 59 = .ok (.aload_n 0, 1) := by decide +kernel
theorem dX10_init_60 : decode cX10_init 60 = .ok (.getfield 16, 3) := by decide +kernel
theorem dX10_init_63 : decode cX10_init 63 = .ok (.invokespecial 34, 3) := by decide +kernel
theorem dX10_init_66 : decode cX10_init 66 = .ok (.putfield 37, 3) := by decide +kernel
theorem dX10_init_69 : decode cX10_init 69 = .ok (.aload_n 0, 1) := by decide +kernel
theorem dX10_init_70 : decode cX10_init 70 = .ok (.new 41, 3) := by decide +kernel
theorem dX10_init_73 : decode cX10_init 73 = .ok (.dup, 1) := by decide +kernel
theorem dX10_init_74 : decode cX10_init 74 = .ok (.aload_n 0, 1) := by decide +kernel
theorem dX10_init_75 : decode cX10_init 75 = .ok (.getfield 16, 3) := by decide +kernel
theorem dX10_init_78 : decode cX10_init 78 = .ok (.invokespecial 43, 3) := by decide +kernel
theorem dX10_init_81 : decode cX10_init 81 = .ok (.putfield 44, 3) := by decide +kernel
theorem dX10_init_84 : decode cX10_init 84 = .ok (.aload_n 0, 1) := by decide +kernel
theorem dX10_init_85 : decode cX10_init 85 = .ok (.new 48, 3) := by decide +kernel
theorem dX10_init_88 : decode cX10_init 88 = .ok (.dup, 1) := by decide +kernel
theorem dX10_init_89 : decode cX10_init 89 = .ok (.invokespecial 50, 3) := by decide +kernel
theorem dX10_init_92 : decode cX10_init 92 = .ok (.putfield 51, 3) := by decide +kernel
theorem dX10_init_95 : decode cX10_init 95 = .ok (.aload_n 0, 1) := by decide +kernel
theorem dX10_init_96 : decode cX10_init 96 = .ok (.new 55, 3) := by decide +kernel
theorem dX10_init_99 : decode cX10_init 99 = .ok (.dup, 1) := by decide +kernel
theorem dX10_init_100 : decode cX10_init 100 = .ok (.invokespecial 57, 3) := by decide +kernel
theorem dX10_init_103 : decode cX10_init 103 = .ok (.putfield 58, 3) := by decide +kernel
theorem dX10_init_106 : decode cX10_init 106 = .ok (.aload_n 0, 1) := by decide +kernel
theorem dX10_init_107 : decode cX10_init 107 = .ok (.iconst 3, 1) := by decide +kernel
theorem dX10_init_108 : decode cX10_init 108 = .ok (.anewarray 55, 3) := by decide +kernel
theorem dX10_init_111 : decode cX10_init 111 = .ok (.putfield 62, 3) := by decide +kernel
theorem dX10_init_114 : decode cX10_init 114 = .ok (.iconst 0, 1) := by decide +kernel
theorem dX10_init_115 : decode cX10_init 115 = .ok (.istore_n 1, 1) := by decide +kernel
theorem dX10_init_116 : decode cX10_init 116 = .ok (.iload_n 1, 1) := by decide +kernel
theorem dX10_init_117 : decode cX10_init 117 = .ok (.iconst 3, 1) := by decide +kernel
theorem dX10_init_118 : decode cX10_init 118 = .ok (.if_icmp .ge 22, 3) := by decide +kernel
theorem dX10_init_121 : decode cX10_init 121 = .ok (.aload_n 0, 1) := by decide +kernel
theorem dX10_init_122 : decode cX10_init 122 = .ok (.getfield 62, 3) := by decide +kernel
theorem dX10_init_125 : decode cX10_init 125 = .ok (.iload_n 1, 1) := by decide +kernel
theorem dX10_init_126 : decode cX10_init 126 = .ok (.new 55, 3) := by decide +kernel
theorem dX10_init_129 : decode cX10_init 129 = .ok (.dup, 1) := by decide +kernel
theorem dX10_init_130 : decode cX10_init 130 = .ok (.invokespecial 57, 3) := by decide +kernel
theorem dX10_init_133 : decode cX10_init 133 = .ok (.aastore, 1) := by decide +kernel
theorem dX10_init_134 : decode cX10_init 134 = .ok (.iinc 1 1, 3) := by decide +kernel
theorem dX10_init_137 : decode cX10_init 137 = .ok (.goto (-21), 3) := by decide +kernel
theorem dX10_init_140 : decode cX10_init 140 = .ok (.aload_n 0, 1) := by decide +kernel
theorem dX10_init_141 : decode cX10_init 141 = .ok (.iconst (-1), 1) := by decide +kernel
theorem dX10_init_142 : decode cX10_init 142 = .ok (.putfield 66, 3) := by decide +kernel
theorem dX10_init_145 : decode cX10_init 145 = .ok (.aload_n 0, 1) := by decide +kernel
theorem dX10_init_146 : decode cX10_init 146 = .ok (.iconst 3, 1) := by decide +kernel
theorem dX10_init_147 : decode cX10_init 147 = .ok (.newarray .int, 2) := by decide +kernel
theorem dX10_init_149 : decode cX10_init 149 = .ok (.putfield 70, 3) := by decide +kernel
theorem dX10_init_152 : decode cX10_init 152 = .ok (.return_, 1) := by decide +kernel
abbrev mX10_init : MD := (cX10_init, "BlottedDeed", 2, 6, 167, none, "<init>", [])
def bX10_init_0 (g : GE) (J : Nat → KT) : KT := i_aload 0 (i_obj (i_aload 0 (i_push (.int 600) (i_newarr 0 (i_putf 9 0 (.array .int) (i_aload 0 (i_new 2 16 [.null, .null, .null, .null, .null, .null, .null, .null, .null, .int 0, .int 0, .int 0, .int 0, .int 0, .int 0, .int 0] (i_dup (i_ci fX2_init g 0 (i_putf 9 3 (.object "BlottedDeed$Deed") (i_aload 0 (i_new 2 16 [.null, .null, .null, .null, .null, .null, .null, .null, .null, .int 0, .int 0, .int 0, .int 0, .int 0, .int 0, .int 0] (i_dup (i_ci fX2_init g 0 (i_putf 9 4 (.object "BlottedDeed$Deed") (i_aload 0 (i_new 6 8 [.null, .int 0, .int 0, .int 0, .long 0, .null, .int 0, .int 0] (i_dup (i_aload 0 (i_getf 9 0 (i_aload 0 (i_getf 9 4 (i_ci fX6_init g 2 (i_putf 9 2 (.object "BlottedDeed$Scribe") (i_aload 0 (i_new 7 12 [.null, .null, .int 0, .null, .null, .null, .null, .int 0, .null, .null, .null, .null] (i_dup (i_aload 0 (i_getf 9 3 (i_ci fX7_init g 1 (i_putf 9 5 (.object "BlottedDeed$Table") (i_aload 0 (i_new 0 3 [.null, .null, .null] (i_dup (i_aload 0 (i_getf 9 3 (i_ci fX0_init g 1 (i_putf 9 6 (.object "BlottedDeed$Anew") (i_aload 0 (i_new 5 3 [.null, .null, .int 0] (i_dup (i_ci fX5_init g 0 (i_putf 9 7 (.object "BlottedDeed$Scales") (i_aload 0 (i_new 8 9 [.null, .null, .null, .null, .null, .null, .null, .int 0, .int 0] (i_dup (i_ci fX8_init g 0 (i_putf 9 8 (.object "BlottedDeed$Testimony") (i_aload 0 (i_push (.int 3) (i_anew 7 (i_putf 9 9 (.array (.object "BlottedDeed$Testimony")) (i_push (.int 0) (i_istore 1 (i_jmp [true, true] (J 1))))))))))))))))))))))))))))))))))))))))))))))))))))))))
def bX10_init_1 (g : GE) (J : Nat → KT) : KT := i_iload 1 (i_push (.int 3) (i_icge (i_aload 0 (i_push (.int (-1)) (i_putf 9 11 .int (i_aload 0 (i_push (.int 3) (i_newarr 0 (i_putf 9 12 (.array .int) (i_return)))))))) (i_aload 0 (i_getf 9 9 (i_iload 1 (i_new 8 9 [.null, .null, .null, .null, .null, .null, .null, .int 0, .int 0] (i_dup (i_ci fX8_init g 0 (i_aastore 7 8 (i_iinc 1 1 (i_jmp [true, true] (J 1))))))))))))
theorem sbX10_init_0 (g : GE) (J : Nat → KT) (h1 : Snd mX10_init g 116 (J 1)) : Snd mX10_init g 0 (bX10_init_0 g J) := by
  unfold bX10_init_0
  refine s_aload_n (pc := 0) (i := 0) ?_ dX10_init_0 rfl
  refine s_obj (pc := 1) ?_ wt_34 wt_35 wt_36 (by decide) dX10_init_1
  refine s_aload_n (pc := 4) (i := 0) ?_ dX10_init_4 rfl
  refine s_sipush (pc := 5) (v := 600) ?_ dX10_init_5 (by decide)
  refine s_newarr (pc := 8) (t := 0) ?_ (by decide) rfl wt_68 dX10_init_8
  refine s_putfF (pc := 10) (ci := 9) (f := 0) (T := TX10) (ty0 := tyX10) ?_ ginX10 tyX10_ok nmX10 rfl (by decide) rfl rfl rfl rfl wt_454 dX10_init_10
  refine s_aload_n (pc := 13) (i := 0) ?_ dX10_init_13 rfl
  refine s_new (pc := 14) (ci := 2) (N := 16) (T := TX2) (ty0 := tyX2) ?_ ginX2 tyX2_ok rfl wt_37 wt_38 wt_2 (by decide) dX10_init_14
  refine s_dup (pc := 17) ?_ dX10_init_17
  refine s_ci (pc := 18) (n := 0) ?_ tX2_init rfl wt_39 wt_40 wt_2 wt_41 ⟨crX2_init, by decide, by decide⟩ dX10_init_18
  refine s_putf (pc := 21) (ci := 9) (f := 3) (T := TX10) (ty0 := tyX10) ?_ ginX10 tyX10_ok nmX10 rfl (by decide) rfl rfl wt_457 dX10_init_21
  refine s_aload_n (pc := 24) (i := 0) ?_ dX10_init_24 rfl
  refine s_new (pc := 25) (ci := 2) (N := 16) (T := TX2) (ty0 := tyX2) ?_ ginX2 tyX2_ok rfl wt_37 wt_38 wt_2 (by decide) dX10_init_25
  refine s_dup (pc := 28) ?_ dX10_init_28
  refine s_ci (pc := 29) (n := 0) ?_ tX2_init rfl wt_39 wt_40 wt_2 wt_41 ⟨crX2_init, by decide, by decide⟩ dX10_init_29
  refine s_putf (pc := 32) (ci := 9) (f := 4) (T := TX10) (ty0 := tyX10) ?_ ginX10 tyX10_ok nmX10 rfl (by decide) rfl rfl wt_458 dX10_init_32
  refine s_aload_n (pc := 35) (i := 0) ?_ dX10_init_35 rfl
  refine s_new (pc := 36) (ci := 6) (N := 8) (T := TX6) (ty0 := tyX6) ?_ ginX6 tyX6_ok rfl wt_189 wt_190 wt_7 (by decide) dX10_init_36
  refine s_dup (pc := 39) ?_ dX10_init_39
  refine s_aload_n (pc := 40) (i := 0) ?_ dX10_init_40 rfl
  refine s_getf (pc := 41) (ci := 9) (f := 0) (T := TX10) ?_ ginX10 rfl (by decide) wt_454 dX10_init_41
  refine s_aload_n (pc := 44) (i := 0) ?_ dX10_init_44 rfl
  refine s_getf (pc := 45) (ci := 9) (f := 4) (T := TX10) ?_ ginX10 rfl (by decide) wt_458 dX10_init_45
  refine s_ci (pc := 48) (n := 2) ?_ tX6_init rfl wt_191 wt_192 wt_7 wt_193 ⟨crX6_init, by decide, by decide⟩ dX10_init_48
  refine s_putfF (pc := 51) (ci := 9) (f := 2) (T := TX10) (ty0 := tyX10) ?_ ginX10 tyX10_ok nmX10 rfl (by decide) rfl rfl rfl rfl wt_456 dX10_init_51
  refine s_aload_n (pc := 54) (i := 0) ?_ dX10_init_54 rfl
  refine s_new (pc := 55) (ci := 7) (N := 12) (T := TX7) (ty0 := tyX7) ?_ ginX7 tyX7_ok rfl wt_222 wt_223 wt_8 (by decide) dX10_init_55
  refine s_dup (pc := 58) ?_ dX10_init_58
  refine s_aload_n (pc := 59) (i := 0) ?_ dX10_init_59 rfl
  refine s_getf (pc := 60) (ci := 9) (f := 3) (T := TX10) ?_ ginX10 rfl (by decide) wt_457 dX10_init_60
  refine s_ci (pc := 63) (n := 1) ?_ tX7_init rfl wt_224 wt_225 wt_8 wt_226 ⟨crX7_init, by decide, by decide⟩ dX10_init_63
  refine s_putfF (pc := 66) (ci := 9) (f := 5) (T := TX10) (ty0 := tyX10) ?_ ginX10 tyX10_ok nmX10 rfl (by decide) rfl rfl rfl rfl wt_459 dX10_init_66
  refine s_aload_n (pc := 69) (i := 0) ?_ dX10_init_69 rfl
  refine s_new (pc := 70) (ci := 0) (N := 3) (T := TX0) (ty0 := tyX0) ?_ ginX0 tyX0_ok rfl wt_378 wt_379 wt_14 (by decide) dX10_init_70
  refine s_dup (pc := 73) ?_ dX10_init_73
  refine s_aload_n (pc := 74) (i := 0) ?_ dX10_init_74 rfl
  refine s_getf (pc := 75) (ci := 9) (f := 3) (T := TX10) ?_ ginX10 rfl (by decide) wt_457 dX10_init_75
  refine s_ci (pc := 78) (n := 1) ?_ tX0_init rfl wt_380 wt_381 wt_14 wt_382 ⟨crX0_init, by decide, by decide⟩ dX10_init_78
  refine s_putfF (pc := 81) (ci := 9) (f := 6) (T := TX10) (ty0 := tyX10) ?_ ginX10 tyX10_ok nmX10 rfl (by decide) rfl rfl rfl rfl wt_460 dX10_init_81
  refine s_aload_n (pc := 84) (i := 0) ?_ dX10_init_84 rfl
  refine s_new (pc := 85) (ci := 5) (N := 3) (T := TX5) (ty0 := tyX5) ?_ ginX5 tyX5_ok rfl wt_398 wt_399 wt_15 (by decide) dX10_init_85
  refine s_dup (pc := 88) ?_ dX10_init_88
  refine s_ciN (pc := 89) (n := 0) ?_ tX5_init rfl (by decide +kernel : Cond.methodLinkNest "BlottedDeed" 50 yX5_init "BlottedDeed" ∈ owl) wt_401 wt_15 wt_402 ⟨crX5_init, by decide, by decide⟩ dX10_init_89
  refine s_putfF (pc := 92) (ci := 9) (f := 7) (T := TX10) (ty0 := tyX10) ?_ ginX10 tyX10_ok nmX10 rfl (by decide) rfl rfl rfl rfl wt_461 dX10_init_92
  refine s_aload_n (pc := 95) (i := 0) ?_ dX10_init_95 rfl
  refine s_new (pc := 96) (ci := 8) (N := 9) (T := TX8) (ty0 := tyX8) ?_ ginX8 tyX8_ok rfl wt_414 wt_415 wt_16 (by decide) dX10_init_96
  refine s_dup (pc := 99) ?_ dX10_init_99
  refine s_ciN (pc := 100) (n := 0) ?_ tX8_init rfl (by decide +kernel : Cond.methodLinkNest "BlottedDeed" 57 yX8_init "BlottedDeed" ∈ owl) wt_417 wt_16 wt_418 ⟨crX8_init, by decide, by decide⟩ dX10_init_100
  refine s_putfF (pc := 103) (ci := 9) (f := 8) (T := TX10) (ty0 := tyX10) ?_ ginX10 tyX10_ok nmX10 rfl (by decide) rfl rfl rfl rfl wt_462 dX10_init_103
  refine s_aload_n (pc := 106) (i := 0) ?_ dX10_init_106 rfl
  refine s_iconst (pc := 107) (v := 3) ?_ dX10_init_107 (by decide)
  refine s_anew (pc := 108) (t := 7) (C := "BlottedDeed$Testimony") ?_ (by decide) rfl wt_414 (by decide +kernel) dX10_init_108
  refine s_putfF (pc := 111) (ci := 9) (f := 9) (T := TX10) (ty0 := tyX10) ?_ ginX10 tyX10_ok nmX10 rfl (by decide) rfl rfl rfl rfl wt_463 dX10_init_111
  refine s_iconst (pc := 114) (v := 0) ?_ dX10_init_114 (by decide)
  refine s_istore_n (pc := 115) (i := 1) ?_ dX10_init_115 rfl (by decide)
  exact s_fall (pc := 116) h1
theorem sbX10_init_1 (g : GE) (J : Nat → KT) (h1 : Snd mX10_init g 116 (J 1)) : Snd mX10_init g 116 (bX10_init_1 g J) := by
  unfold bX10_init_1
  refine s_iload_n (pc := 116) (i := 1) ?_ dX10_init_116 rfl
  refine s_iconst (pc := 117) (v := 3) ?_ dX10_init_117 (by decide)
  refine s_icge (pc := 118) (tgt := 140) ?_ ?_ dX10_init_118 (by decide)
  · skip
    refine s_aload_n (pc := 140) (i := 0) ?_ dX10_init_140 rfl
    refine s_iconst (pc := 141) (v := (-1)) ?_ dX10_init_141 (by decide)
    refine s_putf (pc := 142) (ci := 9) (f := 11) (T := TX10) (ty0 := tyX10) ?_ ginX10 tyX10_ok nmX10 rfl (by decide) rfl rfl wt_465 dX10_init_142
    refine s_aload_n (pc := 145) (i := 0) ?_ dX10_init_145 rfl
    refine s_iconst (pc := 146) (v := 3) ?_ dX10_init_146 (by decide)
    refine s_newarr (pc := 147) (t := 0) ?_ (by decide) rfl wt_68 dX10_init_147
    refine s_putfF (pc := 149) (ci := 9) (f := 12) (T := TX10) (ty0 := tyX10) ?_ ginX10 tyX10_ok nmX10 rfl (by decide) rfl rfl rfl rfl wt_466 dX10_init_149
    exact s_return (pc := 152) rfl dX10_init_152
  · skip
    refine s_aload_n (pc := 121) (i := 0) ?_ dX10_init_121 rfl
    refine s_getf (pc := 122) (ci := 9) (f := 9) (T := TX10) ?_ ginX10 rfl (by decide) wt_463 dX10_init_122
    refine s_iload_n (pc := 125) (i := 1) ?_ dX10_init_125 rfl
    refine s_new (pc := 126) (ci := 8) (N := 9) (T := TX8) (ty0 := tyX8) ?_ ginX8 tyX8_ok rfl wt_414 wt_415 wt_16 (by decide) dX10_init_126
    refine s_dup (pc := 129) ?_ dX10_init_129
    refine s_ciN (pc := 130) (n := 0) ?_ tX8_init rfl (by decide +kernel : Cond.methodLinkNest "BlottedDeed" 57 yX8_init "BlottedDeed" ∈ owl) wt_417 wt_16 wt_418 ⟨crX8_init, by decide, by decide⟩ dX10_init_130
    refine s_aastore (pc := 133) (t := 7) (ci := 8) ?_ (by decide) rfl rfl dX10_init_133
    refine s_iinc (pc := 134) (i := 1) (v := 1) ?_ dX10_init_134 (by decide) (by decide)
    exact s_goto (pc := 137) (tgt := 116) h1 dX10_init_137 (by decide)
def jX10_init (g : GE) : Nat → Nat → KT
  | 0, _ => fun _ _ _ => none
  | n + 1, 0 => bX10_init_0 g (jX10_init g n)
  | n + 1, 1 => bX10_init_1 g (jX10_init g n)
  | _ + 1, _ + 2 => fun _ _ _ => none
theorem sjX10_init (g : GE) : ∀ n, Snd mX10_init g 0 (jX10_init g n 0) ∧ Snd mX10_init g 116 (jX10_init g n 1)
  | 0 => ⟨s_none, s_none⟩
  | n + 1 => by
    obtain ⟨-, h1⟩ := sjX10_init g n
    exact ⟨sbX10_init_0 g _ h1, sbX10_init_1 g _ h1⟩
def kX10_init (g : GE) : KT := jX10_init g g.1 0
theorem sX10_init (g : GE) : Snd mX10_init g 0 (kX10_init g) := (sjX10_init g g.1).1
def fX10_init : FT := fun g av w => if (ent av).length ≤ 2 then kX10_init g [] (entp 2 av) w else none
theorem tX10_init : Mt yX10_init cX10_init 2 none 6 167 fX10_init := Mt.of (K := kX10_init) (by decide +kernel) (fun _ _ _ => rfl) sX10_init
theorem crX10_init : yX10_init.cls ≠ "java/lang/invoke/MethodHandle" ∧ yX10_init.cls ≠ "java/lang/invoke/VarHandle" ∧ (parseMethodDescriptor yX10_init.desc).map (fun d => d.parameters.length) = some 0 := by decide +kernel
