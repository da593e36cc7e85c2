theorem dX0_readingsAt_0 : decode cX0_readingsAt 0 = .ok (.aload_n 0, 1) := by decide +kernel
theorem dX0_readingsAt_1 : decode cX0_readingsAt 1 = .ok (.iload_n 1, 1) := by decide +kernel
theorem dX0_readingsAt_2 : decode cX0_readingsAt 2 = .ok (.invokevirtual 54, 3) := by decide +kernel
theorem dX0_readingsAt_5 : decode cX0_readingsAt 5 = .ok (.istore_n 2, 1) := by decide +kernel
theorem dX0_readingsAt_6 : decode cX0_readingsAt 6 = .ok (.aload_n 0, 1) := by decide +kernel
theorem dX0_readingsAt_7 : decode cX0_readingsAt 7 = .ok (.getfield 12, 3) := by decide +kernel
theorem dX0_readingsAt_10 : decode cX0_readingsAt 10 = .ok (.getfield 33, 3) := by decide +kernel
theorem dX0_readingsAt_13 : decode cX0_readingsAt 13 = .ok (.iload_n 1, 1) := by decide +kernel
theorem dX0_readingsAt_14 : decode cX0_readingsAt 14 = .ok (.iaload, 1) := by decide +kernel
theorem dX0_readingsAt_15 : decode cX0_readingsAt 15 = .ok (.istore_n 3, 1) := by decide +kernel
theorem dX0_readingsAt_16 : decode cX0_readingsAt 16 = .ok (.iconst 0, 1) := by decide +kernel
theorem dX0_readingsAt_17 : decode cX0_readingsAt 17 = .ok (.istore 4, 2) := by decide +kernel
theorem dX0_readingsAt_19 : decode cX0_readingsAt 19 = .ok (.iconst 0, 1) := by decide +kernel
theorem dX0_readingsAt_20 : decode cX0_readingsAt 20 = .ok (.istore 5, 2) := by decide +kernel
theorem dX0_readingsAt_22 : decode cX0_readingsAt 22 = .ok (.iload 5, 2) := by decide +kernel
theorem dX0_readingsAt_24 : decode cX0_readingsAt 24 = .ok (.iload_n 2, 1) := by decide +kernel
theorem dX0_readingsAt_25 : decode cX0_readingsAt 25 = .ok (.if_icmp .ge 30, 3) := by decide +kernel
theorem dX0_readingsAt_28 : decode cX0_readingsAt 28 = .ok (.aload_n 0, 1) := by decide +kernel
theorem dX0_readingsAt_29 : decode cX0_readingsAt 29 = .ok (.iload_n 1, 1) := by decide +kernel
theorem dX0_readingsAt_30 : decode cX0_readingsAt 30 = .ok (.aload_n 0, 1) := by decide +kernel
theorem dX0_readingsAt_31 : decode cX0_readingsAt 31 = .ok (.getfield 21, 3) := by decide +kernel
theorem dX0_readingsAt_34 : decode cX0_readingsAt 34 = .ok (.getfield 58, 3) := by decide +kernel
theorem dX0_readingsAt_37 : decode cX0_readingsAt 37 = .ok (.iload 5, 2) := by decide +kernel
theorem dX0_readingsAt_39 : decode cX0_readingsAt 39 = .ok (.iaload, 1) := by decide +kernel
theorem dX0_readingsAt_40 : decode cX0_readingsAt 40 = .ok (.invokevirtual 61, 3) := by decide +kernel
theorem dX0_readingsAt_43 : decode cX0_readingsAt 43 = .ok (.ifCond .eq 6, 3) := by decide +kernel
theorem dX0_readingsAt_46 : decode cX0_readingsAt 46 = .ok (.iinc 4 1, 3) := by decide +kernel
theorem dX0_readingsAt_49 : decode cX0_readingsAt 49 = .ok (.iinc 5 1, 3) := by decide +kernel
theorem dX0_readingsAt_52 : decode cX0_readingsAt 52 = .ok (.goto (-30), 3) := by decide +kernel
theorem dX0_readingsAt_55 : decode cX0_readingsAt 55 = .ok (.aload_n 0, 1) := by decide +kernel
theorem dX0_readingsAt_56 : decode cX0_readingsAt 56 = .ok (.getfield 12, 3) := by decide +kernel
theorem dX0_readingsAt_59 : decode cX0_readingsAt 59 = .ok (.getfield 33, 3) := by decide +kernel
theorem dX0_readingsAt_62 : decode cX0_readingsAt 62 = .ok (.iload_n 1, 1) := by decide +kernel
theorem dX0_readingsAt_63 : decode cX0_readingsAt 63 = .ok (.iload_n 3, 1) := by decide +kernel
theorem dX0_readingsAt_64 : decode cX0_readingsAt 64 = .ok (.iastore, 1) := by decide +kernel
theorem dX0_readingsAt_65 : decode cX0_readingsAt 65 = .ok (.iload 4, 2) := by decide +kernel
theorem dX0_readingsAt_67 : decode cX0_readingsAt 67 = .ok (.ireturn, 1) := by decide +kernel
abbrev mX0_readingsAt : MD := (cX0_readingsAt, "BlottedDeed$Anew", 6, 4, 99, (some .int), "readingsAt", [])
def bX0_readingsAt_0 (g : GE) (J : Nat → KT) : KT := i_aload 0 (i_iload 1 (i_cv fX0_candidatesAt g 1 0 (i_istore 2 (i_aload 0 (i_getf 0 0 (i_getf 4 0 (i_iload 1 (i_iaload (i_istore 3 (i_push (.int 0) (i_istore 4 (i_push (.int 0) (i_istore 5 (i_jmp [true, true, true, true, true, true] (J 1)))))))))))))))
def bX0_readingsAt_1 (g : GE) (J : Nat → KT) : KT := i_iload 5 (i_iload 2 (i_icge (i_aload 0 (i_getf 0 0 (i_getf 4 0 (i_iload 1 (i_iload 3 (i_iastore (i_iload 4 (i_ireturn)))))))) (i_aload 0 (i_iload 1 (i_aload 0 (i_getf 0 1 (i_getf 1 0 (i_iload 5 (i_iaload (i_cv fX0_isLawful g 2 0 (i_ifeq (i_jmp [true, true, true, true, true, true] (J 2)) (i_iinc 4 1 (i_jmp [true, true, true, true, true, true] (J 2))))))))))))))
def bX0_readingsAt_2 (g : GE) (J : Nat → KT) : KT := i_iinc 5 1 (i_jmp [true, true, true, true, true, true] (J 1))
theorem sbX0_readingsAt_0 (g : GE) (J : Nat → KT) (h1 : Snd mX0_readingsAt g 22 (J 1)) (h2 : Snd mX0_readingsAt g 49 (J 2)) : Snd mX0_readingsAt g 0 (bX0_readingsAt_0 g J) := by
  unfold bX0_readingsAt_0
  refine s_aload_n (pc := 0) (i := 0) ?_ dX0_readingsAt_0 rfl
  refine s_iload_n (pc := 1) (i := 1) ?_ dX0_readingsAt_1 rfl
  refine s_cv (pc := 2) (n := 1) (ci := 0) ?_ tX0_candidatesAt rfl rfl wt_1244 wt_1232 wt_1233 wt_14 wt_1234 ⟨crX0_candidatesAt, by decide, by decide⟩ dX0_readingsAt_2
  refine s_istore_n (pc := 5) (i := 2) ?_ dX0_readingsAt_5 rfl (by decide)
  refine s_aload_n (pc := 6) (i := 0) ?_ dX0_readingsAt_6 rfl
  refine s_getf (pc := 7) (ci := 0) (f := 0) (T := TX0) ?_ ginX0 rfl (by decide) wt_388 dX0_readingsAt_7
  refine s_getf (pc := 10) (ci := 4) (f := 0) (T := TX4) ?_ ginX4 rfl (by decide) wt_235 dX0_readingsAt_10
  refine s_iload_n (pc := 13) (i := 1) ?_ dX0_readingsAt_13 rfl
  refine s_iaload (pc := 14) ?_ dX0_readingsAt_14
  refine s_istore_n (pc := 15) (i := 3) ?_ dX0_readingsAt_15 rfl (by decide)
  refine s_iconst (pc := 16) (v := 0) ?_ dX0_readingsAt_16 (by decide)
  refine s_istore (pc := 17) (i := 4) ?_ dX0_readingsAt_17 (by decide)
  refine s_iconst (pc := 19) (v := 0) ?_ dX0_readingsAt_19 (by decide)
  refine s_istore (pc := 20) (i := 5) ?_ dX0_readingsAt_20 (by decide)
  exact s_fall (pc := 22) h1
theorem sbX0_readingsAt_1 (g : GE) (J : Nat → KT) (h1 : Snd mX0_readingsAt g 22 (J 1)) (h2 : Snd mX0_readingsAt g 49 (J 2)) : Snd mX0_readingsAt g 22 (bX0_readingsAt_1 g J) := by
  unfold bX0_readingsAt_1
  refine s_iload (pc := 22) (i := 5) ?_ dX0_readingsAt_22
  refine s_iload_n (pc := 24) (i := 2) ?_ dX0_readingsAt_24 rfl
  refine s_icge (pc := 25) (tgt := 55) ?_ ?_ dX0_readingsAt_25 (by decide)
  · skip
    refine s_aload_n (pc := 55) (i := 0) ?_ dX0_readingsAt_55 rfl
    refine s_getf (pc := 56) (ci := 0) (f := 0) (T := TX0) ?_ ginX0 rfl (by decide) wt_388 dX0_readingsAt_56
    refine s_getf (pc := 59) (ci := 4) (f := 0) (T := TX4) ?_ ginX4 rfl (by decide) wt_235 dX0_readingsAt_59
    refine s_iload_n (pc := 62) (i := 1) ?_ dX0_readingsAt_62 rfl
    refine s_iload_n (pc := 63) (i := 3) ?_ dX0_readingsAt_63 rfl
    refine s_iastore (pc := 64) ?_ dX0_readingsAt_64
    refine s_iload (pc := 65) (i := 4) ?_ dX0_readingsAt_65
    exact s_ireturn (pc := 67) rfl dX0_readingsAt_67
  · skip
    refine s_aload_n (pc := 28) (i := 0) ?_ dX0_readingsAt_28 rfl
    refine s_iload_n (pc := 29) (i := 1) ?_ dX0_readingsAt_29 rfl
    refine s_aload_n (pc := 30) (i := 0) ?_ dX0_readingsAt_30 rfl
    refine s_getf (pc := 31) (ci := 0) (f := 1) (T := TX0) ?_ ginX0 rfl (by decide) wt_389 dX0_readingsAt_31
    refine s_getf (pc := 34) (ci := 1) (f := 0) (T := TX1) ?_ ginX1 rfl (by decide) wt_78 dX0_readingsAt_34
    refine s_iload (pc := 37) (i := 5) ?_ dX0_readingsAt_37
    refine s_iaload (pc := 39) ?_ dX0_readingsAt_39
    refine s_cv (pc := 40) (n := 2) (ci := 0) ?_ tX0_isLawful rfl rfl wt_1245 wt_1247 wp_41 wt_14 wt_1248 ⟨crX0_isLawful, by decide, by decide⟩ dX0_readingsAt_40
    refine s_ifeq (pc := 43) (tgt := 49) ?_ ?_ dX0_readingsAt_43 (by decide)
    · skip
      exact s_fall (pc := 49) h2
    · skip
      refine s_iinc (pc := 46) (i := 4) (v := 1) ?_ dX0_readingsAt_46 (by decide) (by decide)
      exact s_fall (pc := 49) h2
theorem sbX0_readingsAt_2 (g : GE) (J : Nat → KT) (h1 : Snd mX0_readingsAt g 22 (J 1)) (h2 : Snd mX0_readingsAt g 49 (J 2)) : Snd mX0_readingsAt g 49 (bX0_readingsAt_2 g J) := by
  unfold bX0_readingsAt_2
  refine s_iinc (pc := 49) (i := 5) (v := 1) ?_ dX0_readingsAt_49 (by decide) (by decide)
  exact s_goto (pc := 52) (tgt := 22) h1 dX0_readingsAt_52 (by decide)
def jX0_readingsAt (g : GE) : Nat → Nat → KT
  | 0, _ => fun _ _ _ => none
  | n + 1, 0 => bX0_readingsAt_0 g (jX0_readingsAt g n)
  | n + 1, 1 => bX0_readingsAt_1 g (jX0_readingsAt g n)
  | n + 1, 2 => bX0_readingsAt_2 g (jX0_readingsAt g n)
  | _ + 1, _ + 3 => fun _ _ _ => none
theorem sjX0_readingsAt (g : GE) : ∀ n, Snd mX0_readingsAt g 0 (jX0_readingsAt g n 0) ∧ Snd mX0_readingsAt g 22 (jX0_readingsAt g n 1) ∧ Snd mX0_readingsAt g 49 (jX0_readingsAt g n 2)
  | 0 => ⟨s_none, s_none, s_none⟩
  | n + 1 => by
    obtain ⟨-, h1, h2⟩ := sjX0_readingsAt g n
    exact ⟨sbX0_readingsAt_0 g _ h1 h2, sbX0_readingsAt_1 g _ h1 h2, sbX0_readingsAt_2 g _ h1 h2⟩
def kX0_readingsAt (g : GE) : KT := jX0_readingsAt g g.1 0
theorem sX0_readingsAt (g : GE) : Snd mX0_readingsAt g 0 (kX0_readingsAt g) := (sjX0_readingsAt g g.1).1
def fX0_readingsAt : FT := fun g av w => if (ent av).length ≤ 6 then kX0_readingsAt g [] (entp 6 av) w else none
theorem tX0_readingsAt : Mt yX0_readingsAt cX0_readingsAt 6 (some .int) 4 99 fX0_readingsAt := Mt.of (K := kX0_readingsAt) (by decide +kernel) (fun _ _ _ => rfl) sX0_readingsAt
theorem crX0_readingsAt : yX0_readingsAt.cls ≠ "java/lang/invoke/MethodHandle" ∧ yX0_readingsAt.cls ≠ "java/lang/invoke/VarHandle" ∧ (parseMethodDescriptor yX0_readingsAt.desc).map (fun d => d.parameters.length) = some 1 := by decide +kernel
theorem dX0_standsAt_0 : decode cX0_standsAt 0 = .ok (.aload_n 0, 1) := by decide +kernel
theorem dX0_standsAt_1 : decode cX0_standsAt 1 = .ok (.getfield 12, 3) := by decide +kernel
theorem dX0_standsAt_4 : decode cX0_standsAt 4 = .ok (.getfield 33, 3) := by decide +kernel
theorem dX0_standsAt_7 : decode cX0_standsAt 7 = .ok (.iload_n 1, 1) := by decide +kernel
theorem dX0_standsAt_8 : decode cX0_standsAt 8 = .ok (.iaload, 1) := by decide +kernel
theorem dX0_standsAt_9 : decode cX0_standsAt 9 = .ok (.ireturn, 1) := by decide +kernel
abbrev mX0_standsAt : MD := (cX0_standsAt, "BlottedDeed$Anew", 2, 1, 30, (some .int), "standsAt", [])
def bX0_standsAt_0 (g : GE) (J : Nat → KT) : KT := i_aload 0 (i_getf 0 0 (i_getf 4 0 (i_iload 1 (i_iaload (i_ireturn)))))
theorem sbX0_standsAt_0 (g : GE) (J : Nat → KT)  : Snd mX0_standsAt g 0 (bX0_standsAt_0 g J) := by
  unfold bX0_standsAt_0
  refine s_aload_n (pc := 0) (i := 0) ?_ dX0_standsAt_0 rfl
  refine s_getf (pc := 1) (ci := 0) (f := 0) (T := TX0) ?_ ginX0 rfl (by decide) wt_388 dX0_standsAt_1
  refine s_getf (pc := 4) (ci := 4) (f := 0) (T := TX4) ?_ ginX4 rfl (by decide) wt_235 dX0_standsAt_4
  refine s_iload_n (pc := 7) (i := 1) ?_ dX0_standsAt_7 rfl
  refine s_iaload (pc := 8) ?_ dX0_standsAt_8
  exact s_ireturn (pc := 9) rfl dX0_standsAt_9
def kX0_standsAt (g : GE) : KT := bX0_standsAt_0 g (fun _ _ _ _ => none)
theorem sX0_standsAt (g : GE) : Snd mX0_standsAt g 0 (kX0_standsAt g) := sbX0_standsAt_0 g _
def fX0_standsAt : FT := fun g av w => if (ent av).length ≤ 2 then kX0_standsAt g [] (entp 2 av) w else none
theorem tX0_standsAt : Mt yX0_standsAt cX0_standsAt 2 (some .int) 1 30 fX0_standsAt := Mt.of (K := kX0_standsAt) (by decide +kernel) (fun _ _ _ => rfl) sX0_standsAt
theorem crX0_standsAt : yX0_standsAt.cls ≠ "java/lang/invoke/MethodHandle" ∧ yX0_standsAt.cls ≠ "java/lang/invoke/VarHandle" ∧ (parseMethodDescriptor yX0_standsAt.desc).map (fun d => d.parameters.length) = some 1 := by decide +kernel
theorem dX10_needBlot_0 : decode cX10_needBlot 0 = .ok (.iload_n 1, 1) := by decide +kernel
theorem dX10_needBlot_1 : decode cX10_needBlot 1 = .ok (.ifCond .lt 14, 3) := by decide +kernel
theorem dX10_needBlot_4 : decode cX10_needBlot 4 = .ok (.iload_n 1, 1) := by decide +kernel
theorem dX10_needBlot_5 : decode cX10_needBlot 5 = .ok (.aload_n 0, 1) := by decide +kernel
theorem dX10_needBlot_6 : decode cX10_needBlot 6 = .ok (.getfield 16, 3) := by decide +kernel
theorem dX10_needBlot_9 : decode cX10_needBlot 9 = .ok (.getfield 101, 3) := by decide +kernel
theorem dX10_needBlot_12 : decode cX10_needBlot 12 = .ok (.if_icmp .lt 24, 3) := by decide +kernel
theorem dX10_needBlot_15 : decode cX10_needBlot 15 = .ok (.aload_n 0, 1) := by decide +kernel
theorem dX10_needBlot_16 : decode cX10_needBlot 16 = .ok (.getfield 70, 3) := by decide +kernel
theorem dX10_needBlot_19 : decode cX10_needBlot 19 = .ok (.iconst 1, 1) := by decide +kernel
theorem dX10_needBlot_20 : decode cX10_needBlot 20 = .ok (.dup2, 1) := by decide +kernel
theorem dX10_needBlot_21 : decode cX10_needBlot 21 = .ok (.iaload, 1) := by decide +kernel
theorem dX10_needBlot_22 : decode cX10_needBlot 22 = .ok (.iconst 1, 1) := by decide +kernel
theorem dX10_needBlot_23 : decode cX10_needBlot 23 = .ok (.iadd, 1) := by decide +kernel
theorem dX10_needBlot_24 : decode cX10_needBlot 24 = .ok (.iastore, 1) := by decide +kernel
theorem dX10_needBlot_25 : decode cX10_needBlot 25 = .ok (.new 326, 3) := by decide +kernel
theorem dX10_needBlot_28 : decode cX10_needBlot 28 = .ok (.dup, 1) := by decide +kernel
theorem dX10_needBlot_29 : decode cX10_needBlot 29 = .ok (.ldc_w 328, 3) := by decide +kernel
theorem dX10_needBlot_32 : decode cX10_needBlot 32 = .ok (.invokespecial 330, 3) := by decide +kernel
theorem dX10_needBlot_35 : decode cX10_needBlot 35 = .ok (.athrow, 1) := by decide +kernel
theorem dX10_needBlot_36 : decode cX10_needBlot 36 = .ok (.return_, 1) := by decide +kernel
theorem at_X10_needBlot : ((oa13 "BlottedDeed" 330 "java/util/NoSuchElementException").filter vx_no).all (fun w => decide (w ∈ gt) || (w.onTables && decide (w ∈ owl))) = true := by decide +kernel
abbrev mX10_needBlot : MD := (cX10_needBlot, "BlottedDeed", 2, 6, 100, none, "needBlot", [])
def bX10_needBlot_0 (g : GE) (J : Nat → KT) : KT := i_iload 1 (i_iflt (i_jmp [true, false] (J 1)) (i_iload 1 (i_aload 0 (i_getf 9 3 (i_getf 2 13 (i_iclt (i_return) (i_jmp [true, false] (J 1))))))))
def bX10_needBlot_1 (g : GE) (J : Nat → KT) : KT := i_aload 0 (i_getf 9 12 (i_push (.int 1) (i_dup2 (i_iaload (i_push (.int 1) (i_iadd (i_iastore (i_throw "java/util/NoSuchElementException"))))))))
theorem sbX10_needBlot_0 (g : GE) (J : Nat → KT) (h1 : Snd mX10_needBlot g 15 (J 1)) : Snd mX10_needBlot g 0 (bX10_needBlot_0 g J) := by
  unfold bX10_needBlot_0
  refine s_iload_n (pc := 0) (i := 1) ?_ dX10_needBlot_0 rfl
  refine s_iflt (pc := 1) (tgt := 15) ?_ ?_ dX10_needBlot_1 (by decide)
  · skip
    exact s_fall (pc := 15) h1
  · skip
    refine s_iload_n (pc := 4) (i := 1) ?_ dX10_needBlot_4 rfl
    refine s_aload_n (pc := 5) (i := 0) ?_ dX10_needBlot_5 rfl
    refine s_getf (pc := 6) (ci := 9) (f := 3) (T := TX10) ?_ ginX10 rfl (by decide) wt_457 dX10_needBlot_6
    refine s_getf (pc := 9) (ci := 2) (f := 13) (T := TX2) ?_ ginX2 rfl (by decide) wt_146 dX10_needBlot_9
    refine s_iclt (pc := 12) (tgt := 36) ?_ ?_ dX10_needBlot_12 (by decide)
    · skip
      exact s_return (pc := 36) rfl dX10_needBlot_36
    · skip
      exact s_fall (pc := 15) h1
theorem sbX10_needBlot_1 (g : GE) (J : Nat → KT) (h1 : Snd mX10_needBlot g 15 (J 1)) : Snd mX10_needBlot g 15 (bX10_needBlot_1 g J) := by
  unfold bX10_needBlot_1
  refine s_aload_n (pc := 15) (i := 0) ?_ dX10_needBlot_15 rfl
  refine s_getf (pc := 16) (ci := 9) (f := 12) (T := TX10) ?_ ginX10 rfl (by decide) wt_466 dX10_needBlot_16
  refine s_iconst (pc := 19) (v := 1) ?_ dX10_needBlot_19 (by decide)
  refine s_dup2 (pc := 20) ?_ dX10_needBlot_20
  refine s_iaload (pc := 21) ?_ dX10_needBlot_21
  refine s_iconst (pc := 22) (v := 1) ?_ dX10_needBlot_22 (by decide)
  refine s_iadd (pc := 23) ?_ dX10_needBlot_23
  refine s_iastore (pc := 24) ?_ dX10_needBlot_24
  exact s_throw13 (pc := 25) (i := 10) (ik := 326) (is := 328) (ic := 330) (by decide) rfl rfl (by decide +kernel) at_X10_needBlot wt_936 wt_26 (by decide) rfl dX10_needBlot_25 dX10_needBlot_28 dX10_needBlot_29 dX10_needBlot_32 dX10_needBlot_35
def jX10_needBlot (g : GE) : Nat → Nat → KT
  | 0, _ => fun _ _ _ => none
  | n + 1, 0 => bX10_needBlot_0 g (jX10_needBlot g n)
  | n + 1, 1 => bX10_needBlot_1 g (jX10_needBlot g n)
  | _ + 1, _ + 2 => fun _ _ _ => none
theorem sjX10_needBlot (g : GE) : ∀ n, Snd mX10_needBlot g 0 (jX10_needBlot g n 0) ∧ Snd mX10_needBlot g 15 (jX10_needBlot g n 1)
  | 0 => ⟨s_none, s_none⟩
  | n + 1 => by
    obtain ⟨-, h1⟩ := sjX10_needBlot g n
    exact ⟨sbX10_needBlot_0 g _ h1, sbX10_needBlot_1 g _ h1⟩
def kX10_needBlot (g : GE) : KT := jX10_needBlot g g.1 0
theorem sX10_needBlot (g : GE) : Snd mX10_needBlot g 0 (kX10_needBlot g) := (sjX10_needBlot g g.1).1
def fX10_needBlot : FT := fun g av w => if (ent av).length ≤ 2 then kX10_needBlot g [] (entp 2 av) w else none
theorem tX10_needBlot : Mt yX10_needBlot cX10_needBlot 2 none 6 100 fX10_needBlot := Mt.of (K := kX10_needBlot) (by decide +kernel) (fun _ _ _ => rfl) sX10_needBlot
theorem crX10_needBlot : yX10_needBlot.cls ≠ "java/lang/invoke/MethodHandle" ∧ yX10_needBlot.cls ≠ "java/lang/invoke/VarHandle" ∧ (parseMethodDescriptor yX10_needBlot.desc).map (fun d => d.parameters.length) = some 1 := by decide +kernel
theorem dX7_digit_0 : decode cX7_digit 0 = .ok (.aload_n 0, 1) := by decide +kernel
theorem dX7_digit_1 : decode cX7_digit 1 = .ok (.getfield 11, 3) := by decide +kernel
theorem dX7_digit_4 : decode cX7_digit 4 = .ok (.iload_n 1, 1) := by decide +kernel
theorem dX7_digit_5 : decode cX7_digit 5 = .ok (.laload, 1) := by decide +kernel
theorem dX7_digit_6 : decode cX7_digit 6 = .ok (.iload_n 2, 1) := by decide +kernel
theorem dX7_digit_7 : decode cX7_digit 7 = .ok (.invokestatic 120, 3) := by decide +kernel
theorem dX7_digit_10 : decode cX7_digit 10 = .ok (.ireturn, 1) := by decide +kernel
abbrev mX7_digit : MD := (cX7_digit, "BlottedDeed$Table", 3, 2, 52, (some .int), "digit", [])
def bX7_digit_0 (g : GE) (J : Nat → KT) : KT := i_aload 0 (i_getf 7 0 (i_iload 1 (i_laload (i_iload 2 (i_cs fX4_digitIn g 2 (i_ireturn))))))
theorem sbX7_digit_0 (g : GE) (J : Nat → KT)  : Snd mX7_digit g 0 (bX7_digit_0 g J) := by
  unfold bX7_digit_0
  refine s_aload_n (pc := 0) (i := 0) ?_ dX7_digit_0 rfl
  refine s_getf (pc := 1) (ci := 7) (f := 0) (T := TX7) ?_ ginX7 rfl (by decide) wt_336 dX7_digit_1
  refine s_iload_n (pc := 4) (i := 1) ?_ dX7_digit_4 rfl
  refine s_laload (pc := 5) ?_ dX7_digit_5
  refine s_iload_n (pc := 6) (i := 2) ?_ dX7_digit_6 rfl
  refine s_cs (pc := 7) (n := 2) ?_ tX4_digitIn wt_542 wt_543 wt_9 wt_544 ⟨crX4_digitIn, by decide, by decide⟩ dX7_digit_7
  exact s_ireturn (pc := 10) rfl dX7_digit_10
def kX7_digit (g : GE) : KT := bX7_digit_0 g (fun _ _ _ _ => none)
theorem sX7_digit (g : GE) : Snd mX7_digit g 0 (kX7_digit g) := sbX7_digit_0 g _
def fX7_digit : FT := fun g av w => if (ent av).length ≤ 3 then kX7_digit g [] (entp 3 av) w else none
theorem tX7_digit : Mt yX7_digit cX7_digit 3 (some .int) 2 52 fX7_digit := Mt.of (K := kX7_digit) (by decide +kernel) (fun _ _ _ => rfl) sX7_digit
theorem crX7_digit : yX7_digit.cls ≠ "java/lang/invoke/MethodHandle" ∧ yX7_digit.cls ≠ "java/lang/invoke/VarHandle" ∧ (parseMethodDescriptor yX7_digit.desc).map (fun d => d.parameters.length) = some 2 := by decide +kernel
theorem dX7_tallyUp_0 : decode cX7_tallyUp 0 = .ok (.aload_n 0, 1) := by decide +kernel
theorem dX7_tallyUp_1 : decode cX7_tallyUp 1 = .ok (.getfield 32, 3) := by decide +kernel
theorem dX7_tallyUp_4 : decode cX7_tallyUp 4 = .ok (.iconst 0, 1) := by decide +kernel
theorem dX7_tallyUp_5 : decode cX7_tallyUp 5 = .ok (.invokestatic 60, 3) := by decide +kernel
theorem dX7_tallyUp_8 : decode cX7_tallyUp 8 = .ok (.iconst 0, 1) := by decide +kernel
theorem dX7_tallyUp_9 : decode cX7_tallyUp 9 = .ok (.istore 6, 2) := by decide +kernel
theorem dX7_tallyUp_11 : decode cX7_tallyUp 11 = .ok (.iload 6, 2) := by decide +kernel
theorem dX7_tallyUp_13 : decode cX7_tallyUp 13 = .ok (.aload_n 0, 1) := by decide +kernel
theorem dX7_tallyUp_14 : decode cX7_tallyUp 14 = .ok (.getfield 53, 3) := by decide +kernel
theorem dX7_tallyUp_17 : decode cX7_tallyUp 17 = .ok (.if_icmp .ge 40, 3) := by decide +kernel
theorem dX7_tallyUp_20 : decode cX7_tallyUp 20 = .ok (.aload_n 0, 1) := by decide +kernel
theorem dX7_tallyUp_21 : decode cX7_tallyUp 21 = .ok (.getfield 11, 3) := by decide +kernel
theorem dX7_tallyUp_24 : decode cX7_tallyUp 24 = .ok (.iload 6, 2) := by decide +kernel
theorem dX7_tallyUp_26 : decode cX7_tallyUp 26 = .ok (.laload, 1) := by decide +kernel
theorem dX7_tallyUp_27 : decode cX7_tallyUp 27 = .ok (.lload_n 2, 1) := by decide +kernel
theorem dX7_tallyUp_28 : decode cX7_tallyUp 28 = .ok (.land, 1) := by decide +kernel
theorem dX7_tallyUp_29 : decode cX7_tallyUp 29 = .ok (.lload 4, 2) := by decide +kernel
theorem dX7_tallyUp_31 : decode cX7_tallyUp 31 = .ok (.lcmp, 1) := by decide +kernel
theorem dX7_tallyUp_32 : decode cX7_tallyUp 32 = .ok (.ifCond .ne 19, 3) := by decide +kernel
theorem dX7_tallyUp_35 : decode cX7_tallyUp 35 = .ok (.aload_n 0, 1) := by decide +kernel
theorem dX7_tallyUp_36 : decode cX7_tallyUp 36 = .ok (.getfield 32, 3) := by decide +kernel
theorem dX7_tallyUp_39 : decode cX7_tallyUp 39 = .ok (.aload_n 0, 1) := by decide +kernel
theorem dX7_tallyUp_40 : decode cX7_tallyUp 40 = .ok (.iload 6, 2) := by decide +kernel
theorem dX7_tallyUp_42 : decode cX7_tallyUp 42 = .ok (.iload_n 1, 1) := by decide +kernel
theorem dX7_tallyUp_43 : decode cX7_tallyUp 43 = .ok (.invokevirtual 148, 3) := by decide +kernel
theorem dX7_tallyUp_46 : decode cX7_tallyUp 46 = .ok (.dup2, 1) := by decide +kernel
theorem dX7_tallyUp_47 : decode cX7_tallyUp 47 = .ok (.iaload, 1) := by decide +kernel
theorem dX7_tallyUp_48 : decode cX7_tallyUp 48 = .ok (.iconst 1, 1) := by decide +kernel
theorem dX7_tallyUp_49 : decode cX7_tallyUp 49 = .ok (.iadd, 1) := by decide +kernel
theorem dX7_tallyUp_50 : decode cX7_tallyUp 50 = .ok (.iastore, 1) := by decide +kernel
theorem dX7_tallyUp_51 : decode cX7_tallyUp 51 = .ok (.iinc 6 1, 3) := by decide +kernel
theorem dX7_tallyUp_54 : decode cX7_tallyUp 54 = .ok (.goto (-43), 3) := by decide +kernel
theorem dX7_tallyUp_57 : decode cX7_tallyUp 57 = .ok (.return_, 1) := by decide +kernel
abbrev mX7_tallyUp : MD := (cX7_tallyUp, "BlottedDeed$Table", 7, 3, 74, none, "tallyUp", [])
def bX7_tallyUp_0 (g : GE) (J : Nat → KT) : KT := i_aload 0 (i_getf 7 8 (i_push (.int 0) (i_cs fJ7_fill_53178 g 2 (i_push (.int 0) (i_istore 6 (i_jmp [true, true, true, false, true, false, true] (J 1)))))))
def bX7_tallyUp_1 (g : GE) (J : Nat → KT) : KT := i_iload 6 (i_aload 0 (i_getf 7 2 (i_icge (i_return) (i_aload 0 (i_getf 7 0 (i_iload 6 (i_laload (i_lload 2 (i_land (i_lload 4 (i_lcmp (i_ifne (i_jmp [true, true, true, false, true, false, true] (J 2)) (i_aload 0 (i_getf 7 8 (i_aload 0 (i_iload 6 (i_iload 1 (i_cv fX7_digit g 2 7 (i_dup2 (i_iaload (i_push (.int 1) (i_iadd (i_iastore (i_jmp [true, true, true, false, true, false, true] (J 2)))))))))))))))))))))))))
def bX7_tallyUp_2 (g : GE) (J : Nat → KT) : KT := i_iinc 6 1 (i_jmp [true, true, true, false, true, false, true] (J 1))
theorem sbX7_tallyUp_0 (g : GE) (J : Nat → KT) (h1 : Snd mX7_tallyUp g 11 (J 1)) (h2 : Snd mX7_tallyUp g 51 (J 2)) : Snd mX7_tallyUp g 0 (bX7_tallyUp_0 g J) := by
  unfold bX7_tallyUp_0
  refine s_aload_n (pc := 0) (i := 0) ?_ dX7_tallyUp_0 rfl
  refine s_getf (pc := 1) (ci := 7) (f := 8) (T := TX7) ?_ ginX7 rfl (by decide) wt_348 dX7_tallyUp_1
  refine s_iconst (pc := 4) (v := 0) ?_ dX7_tallyUp_4 (by decide)
  refine s_cs (pc := 5) (n := 2) ?_ tJ7_fill_53178 wt_260 wt_261 wt_10 wt_262 ⟨crJ7_fill_53178, by decide, by decide⟩ dX7_tallyUp_5
  refine s_iconst (pc := 8) (v := 0) ?_ dX7_tallyUp_8 (by decide)
  refine s_istore (pc := 9) (i := 6) ?_ dX7_tallyUp_9 (by decide)
  exact s_fall (pc := 11) h1
theorem sbX7_tallyUp_1 (g : GE) (J : Nat → KT) (h1 : Snd mX7_tallyUp g 11 (J 1)) (h2 : Snd mX7_tallyUp g 51 (J 2)) : Snd mX7_tallyUp g 11 (bX7_tallyUp_1 g J) := by
  unfold bX7_tallyUp_1
  refine s_iload (pc := 11) (i := 6) ?_ dX7_tallyUp_11
  refine s_aload_n (pc := 13) (i := 0) ?_ dX7_tallyUp_13 rfl
  refine s_getf (pc := 14) (ci := 7) (f := 2) (T := TX7) ?_ ginX7 rfl (by decide) wt_339 dX7_tallyUp_14
  refine s_icge (pc := 17) (tgt := 57) ?_ ?_ dX7_tallyUp_17 (by decide)
  · skip
    exact s_return (pc := 57) rfl dX7_tallyUp_57
  · skip
    refine s_aload_n (pc := 20) (i := 0) ?_ dX7_tallyUp_20 rfl
    refine s_getf (pc := 21) (ci := 7) (f := 0) (T := TX7) ?_ ginX7 rfl (by decide) wt_336 dX7_tallyUp_21
    refine s_iload (pc := 24) (i := 6) ?_ dX7_tallyUp_24
    refine s_laload (pc := 26) ?_ dX7_tallyUp_26
    refine s_lload_n (pc := 27) (i := 2) ?_ dX7_tallyUp_27 rfl
    refine s_land (pc := 28) ?_ dX7_tallyUp_28
    refine s_lload (pc := 29) (i := 4) ?_ dX7_tallyUp_29
    refine s_lcmp (pc := 31) ?_ dX7_tallyUp_31
    refine s_ifne (pc := 32) (tgt := 51) ?_ ?_ dX7_tallyUp_32 (by decide)
    · skip
      exact s_fall (pc := 51) h2
    · skip
      refine s_aload_n (pc := 35) (i := 0) ?_ dX7_tallyUp_35 rfl
      refine s_getf (pc := 36) (ci := 7) (f := 8) (T := TX7) ?_ ginX7 rfl (by decide) wt_348 dX7_tallyUp_36
      refine s_aload_n (pc := 39) (i := 0) ?_ dX7_tallyUp_39 rfl
      refine s_iload (pc := 40) (i := 6) ?_ dX7_tallyUp_40
      refine s_iload_n (pc := 42) (i := 1) ?_ dX7_tallyUp_42 rfl
      refine s_cv (pc := 43) (n := 2) (ci := 7) ?_ tX7_digit rfl rfl wt_538 wt_539 wt_540 wt_8 wt_541 ⟨crX7_digit, by decide, by decide⟩ dX7_tallyUp_43
      refine s_dup2 (pc := 46) ?_ dX7_tallyUp_46
      refine s_iaload (pc := 47) ?_ dX7_tallyUp_47
      refine s_iconst (pc := 48) (v := 1) ?_ dX7_tallyUp_48 (by decide)
      refine s_iadd (pc := 49) ?_ dX7_tallyUp_49
      refine s_iastore (pc := 50) ?_ dX7_tallyUp_50
      exact s_fall (pc := 51) h2
theorem sbX7_tallyUp_2 (g : GE) (J : Nat → KT) (h1 : Snd mX7_tallyUp g 11 (J 1)) (h2 : Snd mX7_tallyUp g 51 (J 2)) : Snd mX7_tallyUp g 51 (bX7_tallyUp_2 g J) := by
  unfold bX7_tallyUp_2
  refine s_iinc (pc := 51) (i := 6) (v := 1) ?_ dX7_tallyUp_51 (by decide) (by decide)
  exact s_goto (pc := 54) (tgt := 11) h1 dX7_tallyUp_54 (by decide)
def jX7_tallyUp (g : GE) : Nat → Nat → KT
  | 0, _ => fun _ _ _ => none
  | n + 1, 0 => bX7_tallyUp_0 g (jX7_tallyUp g n)
  | n + 1, 1 => bX7_tallyUp_1 g (jX7_tallyUp g n)
  | n + 1, 2 => bX7_tallyUp_2 g (jX7_tallyUp g n)
  | _ + 1, _ + 3 => fun _ _ _ => none
theorem sjX7_tallyUp (g : GE) : ∀ n, Snd mX7_tallyUp g 0 (jX7_tallyUp g n 0) ∧ Snd mX7_tallyUp g 11 (jX7_tallyUp g n 1) ∧ Snd mX7_tallyUp g 51 (jX7_tallyUp g n 2)
  | 0 => ⟨s_none, s_none, s_none⟩
  | n + 1 => by
    obtain ⟨-, h1, h2⟩ := sjX7_tallyUp g n
    exact ⟨sbX7_tallyUp_0 g _ h1 h2, sbX7_tallyUp_1 g _ h1 h2, sbX7_tallyUp_2 g _ h1 h2⟩
def kX7_tallyUp (g : GE) : KT := jX7_tallyUp g g.1 0
theorem sX7_tallyUp (g : GE) : Snd mX7_tallyUp g 0 (kX7_tallyUp g) := (sjX7_tallyUp g g.1).1
def fX7_tallyUp : FT := fun g av w => if (ent av).length ≤ 7 then kX7_tallyUp g [] (entp 7 av) w else none
theorem tX7_tallyUp : Mt yX7_tallyUp cX7_tallyUp 7 none 3 74 fX7_tallyUp := Mt.of (K := kX7_tallyUp) (by decide +kernel) (fun _ _ _ => rfl) sX7_tallyUp
theorem crX7_tallyUp : yX7_tallyUp.cls ≠ "java/lang/invoke/MethodHandle" ∧ yX7_tallyUp.cls ≠ "java/lang/invoke/VarHandle" ∧ (parseMethodDescriptor yX7_tallyUp.desc).map (fun d => d.parameters.length) = some 3 := by decide +kernel
theorem dX7_aliveUnder_0 : decode cX7_aliveUnder 0 = .ok (.aload_n 0, 1) := by decide +kernel
theorem dX7_aliveUnder_1 : decode cX7_aliveUnder 1 = .ok (.iload_n 1, 1) := by decide +kernel
theorem dX7_aliveUnder_2 : decode cX7_aliveUnder 2 = .ok (.lconst 0, 1) := by decide +kernel
theorem dX7_aliveUnder_3 : decode cX7_aliveUnder 3 = .ok (.lconst 0, 1) := by decide +kernel
theorem dX7_aliveUnder_4 : decode cX7_aliveUnder 4 = .ok (.invokevirtual 151, 3) := by decide +kernel
theorem dX7_aliveUnder_7 : decode cX7_aliveUnder 7 = .ok (.iconst 0, 1) := by decide +kernel
theorem dX7_aliveUnder_8 : decode cX7_aliveUnder 8 = .ok (.istore_n 2, 1) := by decide +kernel
theorem dX7_aliveUnder_9 : decode cX7_aliveUnder 9 = .ok (.iconst 0, 1) := by decide +kernel
theorem dX7_aliveUnder_10 : decode cX7_aliveUnder 10 = .ok (.istore_n 3, 1) := by decide +kernel
theorem dX7_aliveUnder_11 : decode cX7_aliveUnder 11 = .ok (.iload_n 3, 1) := by decide +kernel
theorem dX7_aliveUnder_12 : decode cX7_aliveUnder 12 = .ok (.bipush 100, 2) := by decide +kernel
theorem dX7_aliveUnder_14 : decode cX7_aliveUnder 14 = .ok (.if_icmp .ge 21, 3) := by decide +kernel
theorem dX7_aliveUnder_17 : decode cX7_aliveUnder 17 = .ok (.aload_n 0, 1) := by decide +kernel
theorem dX7_aliveUnder_18 : decode cX7_aliveUnder 18 = .ok (.getfield 32, 3) := by decide +kernel
theorem dX7_aliveUnder_21 : decode cX7_aliveUnder 21 = .ok (.iload_n 3, 1) := by decide +kernel
theorem dX7_aliveUnder_22 : decode cX7_aliveUnder 22 = .ok (.iaload, 1) := by decide +kernel
theorem dX7_aliveUnder_23 : decode cX7_aliveUnder 23 = .ok (.ifCond .le 6, 3) := by decide +kernel
theorem dX7_aliveUnder_26 : decode cX7_aliveUnder 26 = .ok (.iinc 2 1, 3) := by decide +kernel
theorem dX7_aliveUnder_29 : decode cX7_aliveUnder 29 = .ok (.iinc 3 1, 3) := by decide +kernel
theorem dX7_aliveUnder_32 : decode cX7_aliveUnder 32 = .ok (.goto (-21), 3) := by decide +kernel
theorem dX7_aliveUnder_35 : decode cX7_aliveUnder 35 = .ok (.iload_n 2, 1) := by decide +kernel
theorem dX7_aliveUnder_36 : decode cX7_aliveUnder 36 = .ok (.ireturn, 1) := by decide +kernel
abbrev mX7_aliveUnder : MD := (cX7_aliveUnder, "BlottedDeed$Table", 4, 4, 100, (some .int), "aliveUnder", [])
def bX7_aliveUnder_0 (g : GE) (J : Nat → KT) : KT := i_aload 0 (i_iload 1 (i_push (.long 0) (i_push (.long 0) (i_cv fX7_tallyUp g 3 7 (i_push (.int 0) (i_istore 2 (i_push (.int 0) (i_istore 3 (i_jmp [true, false, true, true] (J 1))))))))))
def bX7_aliveUnder_1 (g : GE) (J : Nat → KT) : KT := i_iload 3 (i_push (.int 100) (i_icge (i_iload 2 (i_ireturn)) (i_aload 0 (i_getf 7 8 (i_iload 3 (i_iaload (i_ifle (i_jmp [true, false, true, true] (J 2)) (i_iinc 2 1 (i_jmp [true, false, true, true] (J 2))))))))))
def bX7_aliveUnder_2 (g : GE) (J : Nat → KT) : KT := i_iinc 3 1 (i_jmp [true, false, true, true] (J 1))
theorem sbX7_aliveUnder_0 (g : GE) (J : Nat → KT) (h1 : Snd mX7_aliveUnder g 11 (J 1)) (h2 : Snd mX7_aliveUnder g 29 (J 2)) : Snd mX7_aliveUnder g 0 (bX7_aliveUnder_0 g J) := by
  unfold bX7_aliveUnder_0
  refine s_aload_n (pc := 0) (i := 0) ?_ dX7_aliveUnder_0 rfl
  refine s_iload_n (pc := 1) (i := 1) ?_ dX7_aliveUnder_1 rfl
  refine s_lconst (pc := 2) (v := 0) ?_ dX7_aliveUnder_2 (by decide)
  refine s_lconst (pc := 3) (v := 0) ?_ dX7_aliveUnder_3 (by decide)
  refine s_cv (pc := 4) (n := 3) (ci := 7) ?_ tX7_tallyUp rfl rfl wt_534 wt_536 wp_6 wt_8 wt_537 ⟨crX7_tallyUp, by decide, by decide⟩ dX7_aliveUnder_4
  refine s_iconst (pc := 7) (v := 0) ?_ dX7_aliveUnder_7 (by decide)
  refine s_istore_n (pc := 8) (i := 2) ?_ dX7_aliveUnder_8 rfl (by decide)
  refine s_iconst (pc := 9) (v := 0) ?_ dX7_aliveUnder_9 (by decide)
  refine s_istore_n (pc := 10) (i := 3) ?_ dX7_aliveUnder_10 rfl (by decide)
  exact s_fall (pc := 11) h1
theorem sbX7_aliveUnder_1 (g : GE) (J : Nat → KT) (h1 : Snd mX7_aliveUnder g 11 (J 1)) (h2 : Snd mX7_aliveUnder g 29 (J 2)) : Snd mX7_aliveUnder g 11 (bX7_aliveUnder_1 g J) := by
  unfold bX7_aliveUnder_1
  refine s_iload_n (pc := 11) (i := 3) ?_ dX7_aliveUnder_11 rfl
  refine s_bipush (pc := 12) (v := 100) ?_ dX7_aliveUnder_12 (by decide)
  refine s_icge (pc := 14) (tgt := 35) ?_ ?_ dX7_aliveUnder_14 (by decide)
  · skip
    refine s_iload_n (pc := 35) (i := 2) ?_ dX7_aliveUnder_35 rfl
    exact s_ireturn (pc := 36) rfl dX7_aliveUnder_36
  · skip
    refine s_aload_n (pc := 17) (i := 0) ?_ dX7_aliveUnder_17 rfl
    refine s_getf (pc := 18) (ci := 7) (f := 8) (T := TX7) ?_ ginX7 rfl (by decide) wt_348 dX7_aliveUnder_18
    refine s_iload_n (pc := 21) (i := 3) ?_ dX7_aliveUnder_21 rfl
    refine s_iaload (pc := 22) ?_ dX7_aliveUnder_22
    refine s_ifle (pc := 23) (tgt := 29) ?_ ?_ dX7_aliveUnder_23 (by decide)
    · skip
      exact s_fall (pc := 29) h2
    · skip
      refine s_iinc (pc := 26) (i := 2) (v := 1) ?_ dX7_aliveUnder_26 (by decide) (by decide)
      exact s_fall (pc := 29) h2
theorem sbX7_aliveUnder_2 (g : GE) (J : Nat → KT) (h1 : Snd mX7_aliveUnder g 11 (J 1)) (h2 : Snd mX7_aliveUnder g 29 (J 2)) : Snd mX7_aliveUnder g 29 (bX7_aliveUnder_2 g J) := by
  unfold bX7_aliveUnder_2
  refine s_iinc (pc := 29) (i := 3) (v := 1) ?_ dX7_aliveUnder_29 (by decide) (by decide)
  exact s_goto (pc := 32) (tgt := 11) h1 dX7_aliveUnder_32 (by decide)
def jX7_aliveUnder (g : GE) : Nat → Nat → KT
  | 0, _ => fun _ _ _ => none
  | n + 1, 0 => bX7_aliveUnder_0 g (jX7_aliveUnder g n)
  | n + 1, 1 => bX7_aliveUnder_1 g (jX7_aliveUnder g n)
  | n + 1, 2 => bX7_aliveUnder_2 g (jX7_aliveUnder g n)
  | _ + 1, _ + 3 => fun _ _ _ => none
theorem sjX7_aliveUnder (g : GE) : ∀ n, Snd mX7_aliveUnder g 0 (jX7_aliveUnder g n 0) ∧ Snd mX7_aliveUnder g 11 (jX7_aliveUnder g n 1) ∧ Snd mX7_aliveUnder g 29 (jX7_aliveUnder g n 2)
  | 0 => ⟨s_none, s_none, s_none⟩
  | n + 1 => by
    obtain ⟨-, h1, h2⟩ := sjX7_aliveUnder g n
    exact ⟨sbX7_aliveUnder_0 g _ h1 h2, sbX7_aliveUnder_1 g _ h1 h2, sbX7_aliveUnder_2 g _ h1 h2⟩
def kX7_aliveUnder (g : GE) : KT := jX7_aliveUnder g g.1 0
theorem sX7_aliveUnder (g : GE) : Snd mX7_aliveUnder g 0 (kX7_aliveUnder g) := (sjX7_aliveUnder g g.1).1
def fX7_aliveUnder : FT := fun g av w => if (ent av).length ≤ 4 then kX7_aliveUnder g [] (entp 4 av) w else none
theorem tX7_aliveUnder : Mt yX7_aliveUnder cX7_aliveUnder 4 (some .int) 4 100 fX7_aliveUnder := Mt.of (K := kX7_aliveUnder) (by decide +kernel) (fun _ _ _ => rfl) sX7_aliveUnder
theorem crX7_aliveUnder : yX7_aliveUnder.cls ≠ "java/lang/invoke/MethodHandle" ∧ yX7_aliveUnder.cls ≠ "java/lang/invoke/VarHandle" ∧ (parseMethodDescriptor yX7_aliveUnder.desc).map (fun d => d.parameters.length) = some 1 := by decide +kernel
theorem dX10_alive_0 : decode cX10_alive 0 = .ok (.aload_n 0, 1) := by decide +kernel
theorem dX10_alive_1 : decode cX10_alive 1 = .ok (.iload_n 1, 1) := by decide +kernel
theorem dX10_alive_2 : decode cX10_alive 2 = .ok (.invokevirtual 126, 3) := by decide +kernel
theorem dX10_alive_5 : decode cX10_alive 5 = .ok (.aload_n 0, 1) := by decide +kernel
theorem dX10_alive_6 : decode cX10_alive 6 = .ok (.getfield 37, 3) := by decide +kernel
theorem dX10_alive_9 : decode cX10_alive 9 = .ok (.iload_n 1, 1) := by decide +kernel
theorem dX10_alive_10 : decode cX10_alive 10 = .ok (.invokevirtual 158, 3) := by decide +kernel
theorem dX10_alive_13 : decode cX10_alive 13 = .ok (.ireturn, 1) := by decide +kernel
abbrev mX10_alive : MD := (cX10_alive, "BlottedDeed", 2, 7, 123, (some .int), "alive", [])
def bX10_alive_0 (g : GE) (J : Nat → KT) : KT := i_aload 0 (i_iload 1 (i_cvX fX10_needBlot g 1 9 (i_aload 0 (i_getf 9 5 (i_iload 1 (i_cv fX7_aliveUnder g 1 7 (i_ireturn)))))))
theorem sbX10_alive_0 (g : GE) (J : Nat → KT)  : Snd mX10_alive g 0 (bX10_alive_0 g J) := by
  unfold bX10_alive_0
  refine s_aload_n (pc := 0) (i := 0) ?_ dX10_alive_0 rfl
  refine s_iload_n (pc := 1) (i := 1) ?_ dX10_alive_1 rfl
  refine s_cvX (pc := 2) (n := 1) (ci := 9) ?_ tX10_needBlot rfl rfl wt_932 wt_934 wp_32 wt_1 wt_935 ⟨crX10_needBlot, by decide, by decide⟩ rfl dX10_alive_2
  refine s_aload_n (pc := 5) (i := 0) ?_ dX10_alive_5 rfl
  refine s_getf (pc := 6) (ci := 9) (f := 5) (T := TX10) ?_ ginX10 rfl (by decide) wt_459 dX10_alive_6
  refine s_iload_n (pc := 9) (i := 1) ?_ dX10_alive_9 rfl
  refine s_cv (pc := 10) (n := 1) (ci := 7) ?_ tX7_aliveUnder rfl rfl wt_999 wt_1000 wt_1001 wt_8 wt_1002 ⟨crX7_aliveUnder, by decide, by decide⟩ dX10_alive_10
  exact s_ireturn (pc := 13) rfl dX10_alive_13
def kX10_alive (g : GE) : KT := bX10_alive_0 g (fun _ _ _ _ => none)
theorem sX10_alive (g : GE) : Snd mX10_alive g 0 (kX10_alive g) := sbX10_alive_0 g _
def fX10_alive : FT := fun g av w => if (ent av).length ≤ 2 then kX10_alive g [] (entp 2 av) w else none
theorem tX10_alive : Mt yX10_alive cX10_alive 2 (some .int) 7 123 fX10_alive := Mt.of (K := kX10_alive) (by decide +kernel) (fun _ _ _ => rfl) sX10_alive
theorem crX10_alive : yX10_alive.cls ≠ "java/lang/invoke/MethodHandle" ∧ yX10_alive.cls ≠ "java/lang/invoke/VarHandle" ∧ (parseMethodDescriptor yX10_alive.desc).map (fun d => d.parameters.length) = some 1 := by decide +kernel
theorem dX10_needIndex_0 : decode cX10_needIndex 0 = .ok (.iload_n 1, 1) := by decide +kernel
theorem dX10_needIndex_1 : decode cX10_needIndex 1 = .ok (.ifCond .lt 8, 3) := by decide +kernel
theorem dX10_needIndex_4 : decode cX10_needIndex 4 = .ok (.iload_n 1, 1) := by decide +kernel
theorem dX10_needIndex_5 : decode cX10_needIndex 5 = .ok (.iload_n 2, 1) := by decide +kernel
theorem dX10_needIndex_6 : decode cX10_needIndex 6 = .ok (.if_icmp .lt 24, 3) := by decide +kernel
theorem dX10_needIndex_9 : decode cX10_needIndex 9 = .ok (.aload_n 0, 1) := by decide +kernel
theorem dX10_needIndex_10 : decode cX10_needIndex 10 = .ok (.getfield 70, 3) := by decide +kernel
theorem dX10_needIndex_13 : decode cX10_needIndex 13 = .ok (.iconst 0, 1) := by decide +kernel
theorem dX10_needIndex_14 : decode cX10_needIndex 14 = .ok (.dup2, 1) := by decide +kernel
theorem dX10_needIndex_15 : decode cX10_needIndex 15 = .ok (.iaload, 1) := by decide +kernel
theorem dX10_needIndex_16 : decode cX10_needIndex 16 = .ok (.iconst 1, 1) := by decide +kernel
theorem dX10_needIndex_17 : decode cX10_needIndex 17 = .ok (.iadd, 1) := by decide +kernel
theorem dX10_needIndex_18 : decode cX10_needIndex 18 = .ok (.iastore, 1) := by decide +kernel
theorem dX10_needIndex_19 : decode cX10_needIndex 19 = .ok (.new 319, 3) := by decide +kernel
theorem dX10_needIndex_22 : decode cX10_needIndex 22 = .ok (.dup, 1) := by decide +kernel
theorem dX10_needIndex_23 : decode cX10_needIndex 23 = .ok (.ldc_w 321, 3) := by decide +kernel
theorem dX10_needIndex_26 : decode cX10_needIndex 26 = .ok (.invokespecial 323, 3) := by decide +kernel
theorem dX10_needIndex_29 : decode cX10_needIndex 29 = .ok (.athrow, 1) := by decide +kernel
theorem dX10_needIndex_30 : decode cX10_needIndex 30 = .ok (.return_, 1) := by decide +kernel
theorem at_X10_needIndex : (vx_atS "BlottedDeed" 323 "java/lang/IndexOutOfBoundsException" ["java/lang/RuntimeException", "java/lang/Exception"]).all (fun w => decide (w ∈ gt) || (w.onTables && decide (w ∈ owl))) = true := by decide +kernel
abbrev mX10_needIndex : MD := (cX10_needIndex, "BlottedDeed", 3, 6, 100, none, "needIndex", [])
def bX10_needIndex_0 (g : GE) (J : Nat → KT) : KT := i_iload 1 (i_iflt (i_jmp [true, false, false] (J 1)) (i_iload 1 (i_iload 2 (i_iclt (i_return) (i_jmp [true, false, false] (J 1))))))
def bX10_needIndex_1 (g : GE) (J : Nat → KT) : KT := i_aload 0 (i_getf 9 12 (i_push (.int 0) (i_dup2 (i_iaload (i_push (.int 1) (i_iadd (i_iastore (i_throw "java/lang/IndexOutOfBoundsException"))))))))
theorem sbX10_needIndex_0 (g : GE) (J : Nat → KT) (h1 : Snd mX10_needIndex g 9 (J 1)) : Snd mX10_needIndex g 0 (bX10_needIndex_0 g J) := by
  unfold bX10_needIndex_0
  refine s_iload_n (pc := 0) (i := 1) ?_ dX10_needIndex_0 rfl
  refine s_iflt (pc := 1) (tgt := 9) ?_ ?_ dX10_needIndex_1 (by decide)
  · skip
    exact s_fall (pc := 9) h1
  · skip
    refine s_iload_n (pc := 4) (i := 1) ?_ dX10_needIndex_4 rfl
    refine s_iload_n (pc := 5) (i := 2) ?_ dX10_needIndex_5 rfl
    refine s_iclt (pc := 6) (tgt := 30) ?_ ?_ dX10_needIndex_6 (by decide)
    · skip
      exact s_return (pc := 30) rfl dX10_needIndex_30
    · skip
      exact s_fall (pc := 9) h1
theorem sbX10_needIndex_1 (g : GE) (J : Nat → KT) (h1 : Snd mX10_needIndex g 9 (J 1)) : Snd mX10_needIndex g 9 (bX10_needIndex_1 g J) := by
  unfold bX10_needIndex_1
  refine s_aload_n (pc := 9) (i := 0) ?_ dX10_needIndex_9 rfl
  refine s_getf (pc := 10) (ci := 9) (f := 12) (T := TX10) ?_ ginX10 rfl (by decide) wt_466 dX10_needIndex_10
  refine s_iconst (pc := 13) (v := 0) ?_ dX10_needIndex_13 (by decide)
  refine s_dup2 (pc := 14) ?_ dX10_needIndex_14
  refine s_iaload (pc := 15) ?_ dX10_needIndex_15
  refine s_iconst (pc := 16) (v := 1) ?_ dX10_needIndex_16 (by decide)
  refine s_iadd (pc := 17) ?_ dX10_needIndex_17
  refine s_iastore (pc := 18) ?_ dX10_needIndex_18
  exact s_throw (pc := 19) (i := 9) (ik := 319) (is := 321) (ic := 323) (by decide) rfl rfl (by decide +kernel) at_X10_needIndex wt_975 wt_27 (by decide) rfl dX10_needIndex_19 dX10_needIndex_22 dX10_needIndex_23 dX10_needIndex_26 dX10_needIndex_29
def jX10_needIndex (g : GE) : Nat → Nat → KT
  | 0, _ => fun _ _ _ => none
  | n + 1, 0 => bX10_needIndex_0 g (jX10_needIndex g n)
  | n + 1, 1 => bX10_needIndex_1 g (jX10_needIndex g n)
  | _ + 1, _ + 2 => fun _ _ _ => none
theorem sjX10_needIndex (g : GE) : ∀ n, Snd mX10_needIndex g 0 (jX10_needIndex g n 0) ∧ Snd mX10_needIndex g 9 (jX10_needIndex g n 1)
  | 0 => ⟨s_none, s_none⟩
  | n + 1 => by
    obtain ⟨-, h1⟩ := sjX10_needIndex g n
    exact ⟨sbX10_needIndex_0 g _ h1, sbX10_needIndex_1 g _ h1⟩
def kX10_needIndex (g : GE) : KT := jX10_needIndex g g.1 0
theorem sX10_needIndex (g : GE) : Snd mX10_needIndex g 0 (kX10_needIndex g) := (sjX10_needIndex g g.1).1
def fX10_needIndex : FT := fun g av w => if (ent av).length ≤ 3 then kX10_needIndex g [] (entp 3 av) w else none
theorem tX10_needIndex : Mt yX10_needIndex cX10_needIndex 3 none 6 100 fX10_needIndex := Mt.of (K := kX10_needIndex) (by decide +kernel) (fun _ _ _ => rfl) sX10_needIndex
theorem crX10_needIndex : yX10_needIndex.cls ≠ "java/lang/invoke/MethodHandle" ∧ yX10_needIndex.cls ≠ "java/lang/invoke/VarHandle" ∧ (parseMethodDescriptor yX10_needIndex.desc).map (fun d => d.parameters.length) = some 2 := by decide +kernel
theorem dX10_needReading_0 : decode cX10_needReading 0 = .ok (.aload_n 0, 1) := by decide +kernel
theorem dX10_needReading_1 : decode cX10_needReading 1 = .ok (.iload_n 1, 1) := by decide +kernel
theorem dX10_needReading_2 : decode cX10_needReading 2 = .ok (.aload_n 0, 1) := by decide +kernel
theorem dX10_needReading_3 : decode cX10_needReading 3 = .ok (.getfield 37, 3) := by decide +kernel
theorem dX10_needReading_6 : decode cX10_needReading 6 = .ok (.getfield 150, 3) := by decide +kernel
theorem dX10_needReading_9 : decode cX10_needReading 9 = .ok (.invokevirtual 266, 3) := by decide +kernel
theorem dX10_needReading_12 : decode cX10_needReading 12 = .ok (.return_, 1) := by decide +kernel
abbrev mX10_needReading : MD := (cX10_needReading, "BlottedDeed", 2, 7, 122, none, "needReading", [])
def bX10_needReading_0 (g : GE) (J : Nat → KT) : KT := i_aload 0 (i_iload 1 (i_aload 0 (i_getf 9 5 (i_getf 7 2 (i_cvX fX10_needIndex g 2 9 (i_return))))))
theorem sbX10_needReading_0 (g : GE) (J : Nat → KT)  : Snd mX10_needReading g 0 (bX10_needReading_0 g J) := by
  unfold bX10_needReading_0
  refine s_aload_n (pc := 0) (i := 0) ?_ dX10_needReading_0 rfl
  refine s_iload_n (pc := 1) (i := 1) ?_ dX10_needReading_1 rfl
  refine s_aload_n (pc := 2) (i := 0) ?_ dX10_needReading_2 rfl
  refine s_getf (pc := 3) (ci := 9) (f := 5) (T := TX10) ?_ ginX10 rfl (by decide) wt_459 dX10_needReading_3
  refine s_getf (pc := 6) (ci := 7) (f := 2) (T := TX7) ?_ ginX7 rfl (by decide) wt_340 dX10_needReading_6
  refine s_cvX (pc := 9) (n := 2) (ci := 9) ?_ tX10_needIndex rfl rfl wt_971 wt_973 wp_34 wt_1 wt_974 ⟨crX10_needIndex, by decide, by decide⟩ rfl dX10_needReading_9
  exact s_return (pc := 12) rfl dX10_needReading_12
def kX10_needReading (g : GE) : KT := bX10_needReading_0 g (fun _ _ _ _ => none)
theorem sX10_needReading (g : GE) : Snd mX10_needReading g 0 (kX10_needReading g) := sbX10_needReading_0 g _
def fX10_needReading : FT := fun g av w => if (ent av).length ≤ 2 then kX10_needReading g [] (entp 2 av) w else none
theorem tX10_needReading : Mt yX10_needReading cX10_needReading 2 none 7 122 fX10_needReading := Mt.of (K := kX10_needReading) (by decide +kernel) (fun _ _ _ => rfl) sX10_needReading
theorem crX10_needReading : yX10_needReading.cls ≠ "java/lang/invoke/MethodHandle" ∧ yX10_needReading.cls ≠ "java/lang/invoke/VarHandle" ∧ (parseMethodDescriptor yX10_needReading.desc).map (fun d => d.parameters.length) = some 1 := by decide +kernel
theorem dX7_distance_0 : decode cX7_distance 0 = .ok (.aload_n 0, 1) := by decide +kernel
theorem dX7_distance_1 : decode cX7_distance 1 = .ok (.getfield 11, 3) := by decide +kernel
theorem dX7_distance_4 : decode cX7_distance 4 = .ok (.iload_n 1, 1) := by decide +kernel
theorem dX7_distance_5 : decode cX7_distance 5 = .ok (.laload, 1) := by decide +kernel
theorem dX7_distance_6 : decode cX7_distance 6 = .ok (.aload_n 0, 1) := by decide +kernel
theorem dX7_distance_7 : decode cX7_distance 7 = .ok (.getfield 11, 3) := by decide +kernel
theorem dX7_distance_10 : decode cX7_distance 10 = .ok (.iload_n 2, 1) := by decide +kernel
theorem dX7_distance_11 : decode cX7_distance 11 = .ok (.laload, 1) := by decide +kernel
theorem dX7_distance_12 : decode cX7_distance 12 = .ok (.lxor, 1) := by decide +kernel
theorem dX7_distance_13 : decode cX7_distance 13 = .ok (.ldc2_w 190, 3) := by decide +kernel
theorem dX7_distance_16 : decode cX7_distance 16 = .ok (.ladd, 1) := by decide +kernel
theorem dX7_distance_17 : decode cX7_distance 17 = .ok (.lstore_n 3, 1) := by decide +kernel
theorem dX7_distance_18 : decode cX7_distance 18 = .ok (.lload_n 3, 1) := by decide +kernel
theorem dX7_distance_19 : decode cX7_distance 19 = .ok (.ldc2_w 192, 3) := by decide +kernel
theorem dX7_distance_22 : decode cX7_distance 22 = .ok (.land, 1) := by decide +kernel
theorem dX7_distance_23 : decode cX7_distance 23 = .ok (.invokestatic 194, 3) := by decide +kernel
theorem dX7_distance_26 : decode cX7_distance 26 = .ok (.ireturn, 1) := by decide +kernel
abbrev mX7_distance : MD := (cX7_distance, "BlottedDeed$Table", 5, 2, 51, (some .int), "distance", [])
def bX7_distance_0 (g : GE) (J : Nat → KT) : KT := i_aload 0 (i_getf 7 0 (i_iload 1 (i_laload (i_aload 0 (i_getf 7 0 (i_iload 2 (i_laload (i_lxor (i_push (.long 9187201950435737471) (i_ladd (i_lstore 3 (i_lload 3 (i_push (.long (-9187201950435737472)) (i_land (i_cs fJ13_bitCount_95d88 g 1 (i_ireturn))))))))))))))))
theorem sbX7_distance_0 (g : GE) (J : Nat → KT)  : Snd mX7_distance g 0 (bX7_distance_0 g J) := by
  unfold bX7_distance_0
  refine s_aload_n (pc := 0) (i := 0) ?_ dX7_distance_0 rfl
  refine s_getf (pc := 1) (ci := 7) (f := 0) (T := TX7) ?_ ginX7 rfl (by decide) wt_336 dX7_distance_1
  refine s_iload_n (pc := 4) (i := 1) ?_ dX7_distance_4 rfl
  refine s_laload (pc := 5) ?_ dX7_distance_5
  refine s_aload_n (pc := 6) (i := 0) ?_ dX7_distance_6 rfl
  refine s_getf (pc := 7) (ci := 7) (f := 0) (T := TX7) ?_ ginX7 rfl (by decide) wt_336 dX7_distance_7
  refine s_iload_n (pc := 10) (i := 2) ?_ dX7_distance_10 rfl
  refine s_laload (pc := 11) ?_ dX7_distance_11
  refine s_lxor (pc := 12) ?_ dX7_distance_12
  refine s_ldc2 (pc := 13) (v := 9187201950435737471) ?_ wt_1303 dX7_distance_13
  refine s_ladd (pc := 16) ?_ dX7_distance_16
  refine s_lstore_n (pc := 17) (i := 3) ?_ dX7_distance_17 rfl (by decide)
  refine s_lload_n (pc := 18) (i := 3) ?_ dX7_distance_18 rfl
  refine s_ldc2 (pc := 19) (v := (-9187201950435737472)) ?_ wt_1304 dX7_distance_19
  refine s_land (pc := 22) ?_ dX7_distance_22
  refine s_cs (pc := 23) (n := 1) ?_ tJ13_bitCount_95d88 wt_1305 wt_1306 wt_28 wt_1307 ⟨crJ13_bitCount_95d88, by decide, by decide⟩ dX7_distance_23
  exact s_ireturn (pc := 26) rfl dX7_distance_26
def kX7_distance (g : GE) : KT := bX7_distance_0 g (fun _ _ _ _ => none)
theorem sX7_distance (g : GE) : Snd mX7_distance g 0 (kX7_distance g) := sbX7_distance_0 g _
def fX7_distance : FT := fun g av w => if (ent av).length ≤ 5 then kX7_distance g [] (entp 5 av) w else none
theorem tX7_distance : Mt yX7_distance cX7_distance 5 (some .int) 2 51 fX7_distance := Mt.of (K := kX7_distance) (by decide +kernel) (fun _ _ _ => rfl) sX7_distance
theorem crX7_distance : yX7_distance.cls ≠ "java/lang/invoke/MethodHandle" ∧ yX7_distance.cls ≠ "java/lang/invoke/VarHandle" ∧ (parseMethodDescriptor yX7_distance.desc).map (fun d => d.parameters.length) = some 2 := by decide +kernel
theorem dX10_apart_0 : decode cX10_apart 0 = .ok (.aload_n 0, 1) := by decide +kernel
theorem dX10_apart_1 : decode cX10_apart 1 = .ok (.iload_n 1, 1) := by decide +kernel
theorem dX10_apart_2 : decode cX10_apart 2 = .ok (.invokevirtual 151, 3) := by decide +kernel
theorem dX10_apart_5 : decode cX10_apart 5 = .ok (.aload_n 0, 1) := by decide +kernel
theorem dX10_apart_6 : decode cX10_apart 6 = .ok (.iload_n 2, 1) := by decide +kernel
theorem dX10_apart_7 : decode cX10_apart 7 = .ok (.invokevirtual 151, 3) := by decide +kernel
theorem dX10_apart_10 : decode cX10_apart 10 = .ok (.aload_n 0, 1) := by decide +kernel
theorem dX10_apart_11 : decode cX10_apart 11 = .ok (.getfield 37, 3) := by decide +kernel
theorem dX10_apart_14 : decode cX10_apart 14 = .ok (.iload_n 1, 1) := by decide +kernel
theorem dX10_apart_15 : decode cX10_apart 15 = .ok (.iload_n 2, 1) := by decide +kernel
theorem dX10_apart_16 : decode cX10_apart 16 = .ok (.invokevirtual 294, 3) := by decide +kernel
theorem dX10_apart_19 : decode cX10_apart 19 = .ok (.ireturn, 1) := by decide +kernel
abbrev mX10_apart : MD := (cX10_apart, "BlottedDeed", 3, 8, 143, (some .int), "apart", [])
def bX10_apart_0 (g : GE) (J : Nat → KT) : KT := i_aload 0 (i_iload 1 (i_cvX fX10_needReading g 1 9 (i_aload 0 (i_iload 2 (i_cvX fX10_needReading g 1 9 (i_aload 0 (i_getf 9 5 (i_iload 1 (i_iload 2 (i_cv fX7_distance g 2 7 (i_ireturn)))))))))))
theorem sbX10_apart_0 (g : GE) (J : Nat → KT)  : Snd mX10_apart g 0 (bX10_apart_0 g J) := by
  unfold bX10_apart_0
  refine s_aload_n (pc := 0) (i := 0) ?_ dX10_apart_0 rfl
  refine s_iload_n (pc := 1) (i := 1) ?_ dX10_apart_1 rfl
  refine s_cvX (pc := 2) (n := 1) (ci := 9) ?_ tX10_needReading rfl rfl wt_967 wt_969 wp_33 wt_1 wt_970 ⟨crX10_needReading, by decide, by decide⟩ rfl dX10_apart_2
  refine s_aload_n (pc := 5) (i := 0) ?_ dX10_apart_5 rfl
  refine s_iload_n (pc := 6) (i := 2) ?_ dX10_apart_6 rfl
  refine s_cvX (pc := 7) (n := 1) (ci := 9) ?_ tX10_needReading rfl rfl wt_967 wt_969 wp_33 wt_1 wt_970 ⟨crX10_needReading, by decide, by decide⟩ rfl dX10_apart_7
  refine s_aload_n (pc := 10) (i := 0) ?_ dX10_apart_10 rfl
  refine s_getf (pc := 11) (ci := 9) (f := 5) (T := TX10) ?_ ginX10 rfl (by decide) wt_459 dX10_apart_11
  refine s_iload_n (pc := 14) (i := 1) ?_ dX10_apart_14 rfl
  refine s_iload_n (pc := 15) (i := 2) ?_ dX10_apart_15 rfl
  refine s_cv (pc := 16) (n := 2) (ci := 7) ?_ tX7_distance rfl rfl wt_1299 wt_1300 wt_1301 wt_8 wt_1302 ⟨crX7_distance, by decide, by decide⟩ dX10_apart_16
  exact s_ireturn (pc := 19) rfl dX10_apart_19
def kX10_apart (g : GE) : KT := bX10_apart_0 g (fun _ _ _ _ => none)
theorem sX10_apart (g : GE) : Snd mX10_apart g 0 (kX10_apart g) := sbX10_apart_0 g _
def fX10_apart : FT := fun g av w => if (ent av).length ≤ 3 then kX10_apart g [] (entp 3 av) w else none
theorem tX10_apart : Mt yX10_apart cX10_apart 3 (some .int) 8 143 fX10_apart := Mt.of (K := kX10_apart) (by decide +kernel) (fun _ _ _ => rfl) sX10_apart
theorem crX10_apart : yX10_apart.cls ≠ "java/lang/invoke/MethodHandle" ∧ yX10_apart.cls ≠ "java/lang/invoke/VarHandle" ∧ (parseMethodDescriptor yX10_apart.desc).map (fun d => d.parameters.length) = some 2 := by decide +kernel
theorem dX7_ownerOf_0 : decode cX7_ownerOf 0 = .ok (.aload_n 0, 1) := by decide +kernel
theorem dX7_ownerOf_1 : decode cX7_ownerOf 1 = .ok (.getfield 15, 3) := by decide +kernel
theorem dX7_ownerOf_4 : decode cX7_ownerOf 4 = .ok (.iload_n 1, 1) := by decide +kernel
theorem dX7_ownerOf_5 : decode cX7_ownerOf 5 = .ok (.laload, 1) := by decide +kernel
theorem dX7_ownerOf_6 : decode cX7_ownerOf 6 = .ok (.bipush 40, 2) := by decide +kernel
theorem dX7_ownerOf_8 : decode cX7_ownerOf 8 = .ok (.iconst 3, 1) := by decide +kernel
theorem dX7_ownerOf_9 : decode cX7_ownerOf 9 = .ok (.iload_n 2, 1) := by decide +kernel
theorem dX7_ownerOf_10 : decode cX7_ownerOf 10 = .ok (.imul, 1) := by decide +kernel
theorem dX7_ownerOf_11 : decode cX7_ownerOf 11 = .ok (.iadd, 1) := by decide +kernel
theorem dX7_ownerOf_12 : decode cX7_ownerOf 12 = .ok (.lushr, 1) := by decide +kernel
theorem dX7_ownerOf_13 : decode cX7_ownerOf 13 = .ok (.l2i, 1) := by decide +kernel
theorem dX7_ownerOf_14 : decode cX7_ownerOf 14 = .ok (.bipush 7, 2) := by decide +kernel
theorem dX7_ownerOf_16 : decode cX7_ownerOf 16 = .ok (.iand, 1) := by decide +kernel
theorem dX7_ownerOf_17 : decode cX7_ownerOf 17 = .ok (.iconst 1, 1) := by decide +kernel
theorem dX7_ownerOf_18 : decode cX7_ownerOf 18 = .ok (.isub, 1) := by decide +kernel
theorem dX7_ownerOf_19 : decode cX7_ownerOf 19 = .ok (.ireturn, 1) := by decide +kernel
abbrev mX7_ownerOf : MD := (cX7_ownerOf, "BlottedDeed$Table", 3, 1, 30, (some .int), "ownerOf", [])
def bX7_ownerOf_0 (g : GE) (J : Nat → KT) : KT := i_aload 0 (i_getf 7 1 (i_iload 1 (i_laload (i_push (.int 40) (i_push (.int 3) (i_iload 2 (i_imul (i_iadd (i_lushr (i_l2i (i_push (.int 7) (i_iand (i_push (.int 1) (i_isub (i_ireturn)))))))))))))))
theorem sbX7_ownerOf_0 (g : GE) (J : Nat → KT)  : Snd mX7_ownerOf g 0 (bX7_ownerOf_0 g J) := by
  unfold bX7_ownerOf_0
  refine s_aload_n (pc := 0) (i := 0) ?_ dX7_ownerOf_0 rfl
  refine s_getf (pc := 1) (ci := 7) (f := 1) (T := TX7) ?_ ginX7 rfl (by decide) wt_338 dX7_ownerOf_1
  refine s_iload_n (pc := 4) (i := 1) ?_ dX7_ownerOf_4 rfl
  refine s_laload (pc := 5) ?_ dX7_ownerOf_5
  refine s_bipush (pc := 6) (v := 40) ?_ dX7_ownerOf_6 (by decide)
  refine s_iconst (pc := 8) (v := 3) ?_ dX7_ownerOf_8 (by decide)
  refine s_iload_n (pc := 9) (i := 2) ?_ dX7_ownerOf_9 rfl
  refine s_imul (pc := 10) ?_ dX7_ownerOf_10
  refine s_iadd (pc := 11) ?_ dX7_ownerOf_11
  refine s_lushr (pc := 12) ?_ dX7_ownerOf_12
  refine s_l2i (pc := 13) ?_ dX7_ownerOf_13
  refine s_bipush (pc := 14) (v := 7) ?_ dX7_ownerOf_14 (by decide)
  refine s_iand (pc := 16) ?_ dX7_ownerOf_16
  refine s_iconst (pc := 17) (v := 1) ?_ dX7_ownerOf_17 (by decide)
  refine s_isub (pc := 18) ?_ dX7_ownerOf_18
  exact s_ireturn (pc := 19) rfl dX7_ownerOf_19
def kX7_ownerOf (g : GE) : KT := bX7_ownerOf_0 g (fun _ _ _ _ => none)
theorem sX7_ownerOf (g : GE) : Snd mX7_ownerOf g 0 (kX7_ownerOf g) := sbX7_ownerOf_0 g _
def fX7_ownerOf : FT := fun g av w => if (ent av).length ≤ 3 then kX7_ownerOf g [] (entp 3 av) w else none
theorem tX7_ownerOf : Mt yX7_ownerOf cX7_ownerOf 3 (some .int) 1 30 fX7_ownerOf := Mt.of (K := kX7_ownerOf) (by decide +kernel) (fun _ _ _ => rfl) sX7_ownerOf
theorem crX7_ownerOf : yX7_ownerOf.cls ≠ "java/lang/invoke/MethodHandle" ∧ yX7_ownerOf.cls ≠ "java/lang/invoke/VarHandle" ∧ (parseMethodDescriptor yX7_ownerOf.desc).map (fun d => d.parameters.length) = some 2 := by decide +kernel
theorem dX7_timesOwned_0 : decode cX7_timesOwned 0 = .ok (.iconst 0, 1) := by decide +kernel
theorem dX7_timesOwned_1 : decode cX7_timesOwned 1 = .ok (.istore_n 3, 1) := by decide +kernel
theorem dX7_timesOwned_2 : decode cX7_timesOwned 2 = .ok (.iconst 0, 1) := by decide +kernel
theorem dX7_timesOwned_3 : decode cX7_timesOwned 3 = .ok (.istore 4, 2) := by decide +kernel
theorem dX7_timesOwned_5 : decode cX7_timesOwned 5 = .ok (.iload 4, 2) := by decide +kernel
theorem dX7_timesOwned_7 : decode cX7_timesOwned 7 = .ok (.aload_n 0, 1) := by decide +kernel
theorem dX7_timesOwned_8 : decode cX7_timesOwned 8 = .ok (.getfield 53, 3) := by decide +kernel
theorem dX7_timesOwned_11 : decode cX7_timesOwned 11 = .ok (.if_icmp .ge 23, 3) := by decide +kernel
theorem dX7_timesOwned_14 : decode cX7_timesOwned 14 = .ok (.aload_n 0, 1) := by decide +kernel
theorem dX7_timesOwned_15 : decode cX7_timesOwned 15 = .ok (.iload 4, 2) := by decide +kernel
theorem dX7_timesOwned_17 : decode cX7_timesOwned 17 = .ok (.iload_n 1, 1) := by decide +kernel
theorem dX7_timesOwned_18 : decode cX7_timesOwned 18 = .ok (.invokevirtual 130, 3) := by decide +kernel
theorem dX7_timesOwned_21 : decode cX7_timesOwned 21 = .ok (.iload_n 2, 1) := by decide +kernel
theorem dX7_timesOwned_22 : decode cX7_timesOwned 22 = .ok (.if_icmp .ne 6, 3) := by decide +kernel
theorem dX7_timesOwned_25 : decode cX7_timesOwned 25 = .ok (.iinc 3 1, 3) := by decide +kernel
theorem dX7_timesOwned_28 : decode cX7_timesOwned 28 = .ok (.iinc 4 1, 3) := by decide +kernel
theorem dX7_timesOwned_31 : decode cX7_timesOwned 31 = .ok (.goto (-26), 3) := by decide +kernel
theorem dX7_timesOwned_34 : decode cX7_timesOwned 34 = .ok (.iload_n 3, 1) := by decide +kernel
theorem dX7_timesOwned_35 : decode cX7_timesOwned 35 = .ok (.ireturn, 1) := by decide +kernel
abbrev mX7_timesOwned : MD := (cX7_timesOwned, "BlottedDeed$Table", 5, 2, 52, (some .int), "timesOwned", [])
def bX7_timesOwned_0 (g : GE) (J : Nat → KT) : KT := i_push (.int 0) (i_istore 3 (i_push (.int 0) (i_istore 4 (i_jmp [true, true, true, true, true] (J 1)))))
def bX7_timesOwned_1 (g : GE) (J : Nat → KT) : KT := i_iload 4 (i_aload 0 (i_getf 7 2 (i_icge (i_iload 3 (i_ireturn)) (i_aload 0 (i_iload 4 (i_iload 1 (i_cv fX7_ownerOf g 2 7 (i_iload 2 (i_icne (i_jmp [true, true, true, true, true] (J 2)) (i_iinc 3 1 (i_jmp [true, true, true, true, true] (J 2))))))))))))
def bX7_timesOwned_2 (g : GE) (J : Nat → KT) : KT := i_iinc 4 1 (i_jmp [true, true, true, true, true] (J 1))
theorem sbX7_timesOwned_0 (g : GE) (J : Nat → KT) (h1 : Snd mX7_timesOwned g 5 (J 1)) (h2 : Snd mX7_timesOwned g 28 (J 2)) : Snd mX7_timesOwned g 0 (bX7_timesOwned_0 g J) := by
  unfold bX7_timesOwned_0
  refine s_iconst (pc := 0) (v := 0) ?_ dX7_timesOwned_0 (by decide)
  refine s_istore_n (pc := 1) (i := 3) ?_ dX7_timesOwned_1 rfl (by decide)
  refine s_iconst (pc := 2) (v := 0) ?_ dX7_timesOwned_2 (by decide)
  refine s_istore (pc := 3) (i := 4) ?_ dX7_timesOwned_3 (by decide)
  exact s_fall (pc := 5) h1
theorem sbX7_timesOwned_1 (g : GE) (J : Nat → KT) (h1 : Snd mX7_timesOwned g 5 (J 1)) (h2 : Snd mX7_timesOwned g 28 (J 2)) : Snd mX7_timesOwned g 5 (bX7_timesOwned_1 g J) := by
  unfold bX7_timesOwned_1
  refine s_iload (pc := 5) (i := 4) ?_ dX7_timesOwned_5
  refine s_aload_n (pc := 7) (i := 0) ?_ dX7_timesOwned_7 rfl
  refine s_getf (pc := 8) (ci := 7) (f := 2) (T := TX7) ?_ ginX7 rfl (by decide) wt_339 dX7_timesOwned_8
  refine s_icge (pc := 11) (tgt := 34) ?_ ?_ dX7_timesOwned_11 (by decide)
  · skip
    refine s_iload_n (pc := 34) (i := 3) ?_ dX7_timesOwned_34 rfl
    exact s_ireturn (pc := 35) rfl dX7_timesOwned_35
  · skip
    refine s_aload_n (pc := 14) (i := 0) ?_ dX7_timesOwned_14 rfl
    refine s_iload (pc := 15) (i := 4) ?_ dX7_timesOwned_15
    refine s_iload_n (pc := 17) (i := 1) ?_ dX7_timesOwned_17 rfl
    refine s_cv (pc := 18) (n := 2) (ci := 7) ?_ tX7_ownerOf rfl rfl wt_593 wt_594 wt_595 wt_8 wt_596 ⟨crX7_ownerOf, by decide, by decide⟩ dX7_timesOwned_18
    refine s_iload_n (pc := 21) (i := 2) ?_ dX7_timesOwned_21 rfl
    refine s_icne (pc := 22) (tgt := 28) ?_ ?_ dX7_timesOwned_22 (by decide)
    · skip
      exact s_fall (pc := 28) h2
    · skip
      refine s_iinc (pc := 25) (i := 3) (v := 1) ?_ dX7_timesOwned_25 (by decide) (by decide)
      exact s_fall (pc := 28) h2
theorem sbX7_timesOwned_2 (g : GE) (J : Nat → KT) (h1 : Snd mX7_timesOwned g 5 (J 1)) (h2 : Snd mX7_timesOwned g 28 (J 2)) : Snd mX7_timesOwned g 28 (bX7_timesOwned_2 g J) := by
  unfold bX7_timesOwned_2
  refine s_iinc (pc := 28) (i := 4) (v := 1) ?_ dX7_timesOwned_28 (by decide) (by decide)
  exact s_goto (pc := 31) (tgt := 5) h1 dX7_timesOwned_31 (by decide)
def jX7_timesOwned (g : GE) : Nat → Nat → KT
  | 0, _ => fun _ _ _ => none
  | n + 1, 0 => bX7_timesOwned_0 g (jX7_timesOwned g n)
  | n + 1, 1 => bX7_timesOwned_1 g (jX7_timesOwned g n)
  | n + 1, 2 => bX7_timesOwned_2 g (jX7_timesOwned g n)
  | _ + 1, _ + 3 => fun _ _ _ => none
theorem sjX7_timesOwned (g : GE) : ∀ n, Snd mX7_timesOwned g 0 (jX7_timesOwned g n 0) ∧ Snd mX7_timesOwned g 5 (jX7_timesOwned g n 1) ∧ Snd mX7_timesOwned g 28 (jX7_timesOwned g n 2)
  | 0 => ⟨s_none, s_none, s_none⟩
  | n + 1 => by
    obtain ⟨-, h1, h2⟩ := sjX7_timesOwned g n
    exact ⟨sbX7_timesOwned_0 g _ h1 h2, sbX7_timesOwned_1 g _ h1 h2, sbX7_timesOwned_2 g _ h1 h2⟩
def kX7_timesOwned (g : GE) : KT := jX7_timesOwned g g.1 0
theorem sX7_timesOwned (g : GE) : Snd mX7_timesOwned g 0 (kX7_timesOwned g) := (sjX7_timesOwned g g.1).1
def fX7_timesOwned : FT := fun g av w => if (ent av).length ≤ 5 then kX7_timesOwned g [] (entp 5 av) w else none
theorem tX7_timesOwned : Mt yX7_timesOwned cX7_timesOwned 5 (some .int) 2 52 fX7_timesOwned := Mt.of (K := kX7_timesOwned) (by decide +kernel) (fun _ _ _ => rfl) sX7_timesOwned
theorem crX7_timesOwned : yX7_timesOwned.cls ≠ "java/lang/invoke/MethodHandle" ∧ yX7_timesOwned.cls ≠ "java/lang/invoke/VarHandle" ∧ (parseMethodDescriptor yX7_timesOwned.desc).map (fun d => d.parameters.length) = some 2 := by decide +kernel
theorem dX7_everOwns_0 : decode cX7_everOwns 0 = .ok (.iconst 0, 1) := by decide +kernel
theorem dX7_everOwns_1 : decode cX7_everOwns 1 = .ok (.istore_n 2, 1) := by decide +kernel
theorem dX7_everOwns_2 : decode cX7_everOwns 2 = .ok (.iload_n 2, 1) := by decide +kernel
theorem dX7_everOwns_3 : decode cX7_everOwns 3 = .ok (.aload_n 0, 1) := by decide +kernel
theorem dX7_everOwns_4 : decode cX7_everOwns 4 = .ok (.getfield 45, 3) := by decide +kernel
theorem dX7_everOwns_7 : decode cX7_everOwns 7 = .ok (.getfield 127, 3) := by decide +kernel
theorem dX7_everOwns_10 : decode cX7_everOwns 10 = .ok (.if_icmp .ge 20, 3) := by decide +kernel
theorem dX7_everOwns_13 : decode cX7_everOwns 13 = .ok (.aload_n 0, 1) := by decide +kernel
theorem dX7_everOwns_14 : decode cX7_everOwns 14 = .ok (.iload_n 2, 1) := by decide +kernel
theorem dX7_everOwns_15 : decode cX7_everOwns 15 = .ok (.iload_n 1, 1) := by decide +kernel
theorem dX7_everOwns_16 : decode cX7_everOwns 16 = .ok (.invokevirtual 136, 3) := by decide +kernel
theorem dX7_everOwns_19 : decode cX7_everOwns 19 = .ok (.ifCond .le 5, 3) := by decide +kernel
theorem dX7_everOwns_22 : decode cX7_everOwns 22 = .ok (.iconst 1, 1) := by decide +kernel
theorem dX7_everOwns_23 : decode cX7_everOwns 23 = .ok (.ireturn, 1) := by decide +kernel
theorem dX7_everOwns_24 : decode cX7_everOwns 24 = .ok (.iinc 2 1, 3) := by decide +kernel
theorem dX7_everOwns_27 : decode cX7_everOwns 27 = .ok (.goto (-25), 3) := by decide +kernel
theorem dX7_everOwns_30 : decode cX7_everOwns 30 = .ok (.iconst 0, 1) := by decide +kernel
theorem dX7_everOwns_31 : decode cX7_everOwns 31 = .ok (.ireturn, 1) := by decide +kernel
abbrev mX7_everOwns : MD := (cX7_everOwns, "BlottedDeed$Table", 3, 3, 76, (some .boolean), "everOwns", [])
def bX7_everOwns_0 (g : GE) (J : Nat → KT) : KT := i_push (.int 0) (i_istore 2 (i_jmp [true, true, true] (J 1)))
def bX7_everOwns_1 (g : GE) (J : Nat → KT) : KT := i_iload 2 (i_aload 0 (i_getf 7 5 (i_getf 2 10 (i_icge (i_push (.int 0) (i_zreturn)) (i_aload 0 (i_iload 2 (i_iload 1 (i_cv fX7_timesOwned g 2 7 (i_ifle (i_iinc 2 1 (i_jmp [true, true, true] (J 1))) (i_push (.int 1) (i_zreturn)))))))))))
theorem sbX7_everOwns_0 (g : GE) (J : Nat → KT) (h1 : Snd mX7_everOwns g 2 (J 1)) : Snd mX7_everOwns g 0 (bX7_everOwns_0 g J) := by
  unfold bX7_everOwns_0
  refine s_iconst (pc := 0) (v := 0) ?_ dX7_everOwns_0 (by decide)
  refine s_istore_n (pc := 1) (i := 2) ?_ dX7_everOwns_1 rfl (by decide)
  exact s_fall (pc := 2) h1
theorem sbX7_everOwns_1 (g : GE) (J : Nat → KT) (h1 : Snd mX7_everOwns g 2 (J 1)) : Snd mX7_everOwns g 2 (bX7_everOwns_1 g J) := by
  unfold bX7_everOwns_1
  refine s_iload_n (pc := 2) (i := 2) ?_ dX7_everOwns_2 rfl
  refine s_aload_n (pc := 3) (i := 0) ?_ dX7_everOwns_3 rfl
  refine s_getf (pc := 4) (ci := 7) (f := 5) (T := TX7) ?_ ginX7 rfl (by decide) wt_345 dX7_everOwns_4
  refine s_getf (pc := 7) (ci := 2) (f := 10) (T := TX2) ?_ ginX2 rfl (by decide) wt_135 dX7_everOwns_7
  refine s_icge (pc := 10) (tgt := 30) ?_ ?_ dX7_everOwns_10 (by decide)
  · skip
    refine s_iconst (pc := 30) (v := 0) ?_ dX7_everOwns_30 (by decide)
    exact s_zreturn (pc := 31) rfl dX7_everOwns_31
  · skip
    refine s_aload_n (pc := 13) (i := 0) ?_ dX7_everOwns_13 rfl
    refine s_iload_n (pc := 14) (i := 2) ?_ dX7_everOwns_14 rfl
    refine s_iload_n (pc := 15) (i := 1) ?_ dX7_everOwns_15 rfl
    refine s_cv (pc := 16) (n := 2) (ci := 7) ?_ tX7_timesOwned rfl rfl wt_589 wt_590 wt_591 wt_8 wt_592 ⟨crX7_timesOwned, by decide, by decide⟩ dX7_everOwns_16
    refine s_ifle (pc := 19) (tgt := 24) ?_ ?_ dX7_everOwns_19 (by decide)
    · skip
      refine s_iinc (pc := 24) (i := 2) (v := 1) ?_ dX7_everOwns_24 (by decide) (by decide)
      exact s_goto (pc := 27) (tgt := 2) h1 dX7_everOwns_27 (by decide)
    · skip
      refine s_iconst (pc := 22) (v := 1) ?_ dX7_everOwns_22 (by decide)
      exact s_zreturn (pc := 23) rfl dX7_everOwns_23
def jX7_everOwns (g : GE) : Nat → Nat → KT
  | 0, _ => fun _ _ _ => none
  | n + 1, 0 => bX7_everOwns_0 g (jX7_everOwns g n)
  | n + 1, 1 => bX7_everOwns_1 g (jX7_everOwns g n)
  | _ + 1, _ + 2 => fun _ _ _ => none
theorem sjX7_everOwns (g : GE) : ∀ n, Snd mX7_everOwns g 0 (jX7_everOwns g n 0) ∧ Snd mX7_everOwns g 2 (jX7_everOwns g n 1)
  | 0 => ⟨s_none, s_none⟩
  | n + 1 => by
    obtain ⟨-, h1⟩ := sjX7_everOwns g n
    exact ⟨sbX7_everOwns_0 g _ h1, sbX7_everOwns_1 g _ h1⟩
def kX7_everOwns (g : GE) : KT := jX7_everOwns g g.1 0
theorem sX7_everOwns (g : GE) : Snd mX7_everOwns g 0 (kX7_everOwns g) := (sjX7_everOwns g g.1).1
def fX7_everOwns : FT := fun g av w => if (ent av).length ≤ 3 then kX7_everOwns g [] (entp 3 av) w else none
theorem tX7_everOwns : Mt yX7_everOwns cX7_everOwns 3 (some .boolean) 3 76 fX7_everOwns := Mt.of (K := kX7_everOwns) (by decide +kernel) (fun _ _ _ => rfl) sX7_everOwns
theorem crX7_everOwns : yX7_everOwns.cls ≠ "java/lang/invoke/MethodHandle" ∧ yX7_everOwns.cls ≠ "java/lang/invoke/VarHandle" ∧ (parseMethodDescriptor yX7_everOwns.desc).map (fun d => d.parameters.length) = some 1 := by decide +kernel
theorem dX10_bare_0 : decode cX10_bare 0 = .ok (.aload_n 0, 1) := by decide +kernel
theorem dX10_bare_1 : decode cX10_bare 1 = .ok (.getfield 37, 3) := by decide +kernel
theorem dX10_bare_4 : decode cX10_bare 4 = .ok (.getfield 150, 3) := by decide +kernel
theorem dX10_bare_7 : decode cX10_bare 7 = .ok (.ifCond .ne 5, 3) := by decide +kernel
theorem dX10_bare_10 : decode cX10_bare 10 = .ok (.iconst 0, 1) := by decide +kernel
theorem dX10_bare_11 : decode cX10_bare 11 = .ok (.ireturn, 1) := by decide +kernel
theorem dX10_bare_12 : decode cX10_bare 12 = .ok (.iconst 0, 1) := by decide +kernel
theorem dX10_bare_13 : decode cX10_bare 13 = .ok (.istore_n 1, 1) := by decide +kernel
theorem dX10_bare_14 : decode cX10_bare 14 = .ok (.iconst 0, 1) := by decide +kernel
theorem dX10_bare_15 : decode cX10_bare 15 = .ok (.istore_n 2, 1) := by decide +kernel
theorem dX10_bare_16 : decode cX10_bare 16 = .ok (.iload_n 2, 1) := by decide +kernel
theorem dX10_bare_17 : decode cX10_bare 17 = .ok (.aload_n 0, 1) := by decide +kernel
theorem dX10_bare_18 : decode cX10_bare 18 = .ok (.getfield 16, 3) := by decide +kernel
theorem dX10_bare_21 : decode cX10_bare 21 = .ok (.getfield 108, 3) := by decide +kernel
theorem dX10_bare_24 : decode cX10_bare 24 = .ok (.if_icmp .ge 26, 3) := by decide +kernel
theorem dX10_bare_27 : decode cX10_bare 27 = .ok (.aload_n 0, 1) := by decide +kernel
theorem dX10_bare_28 : decode cX10_bare 28 = .ok (.getfield 37, 3) := by decide +kernel
theorem dX10_bare_31 : decode cX10_bare 31 = .ok (.iload_n 2, 1) := by decide +kernel
theorem dX10_bare_32 : decode cX10_bare 32 = .ok (.invokevirtual 312, 3) := by decide +kernel
theorem dX10_bare_35 : decode cX10_bare 35 = .ok (.ifCond .ne 9, 3) := by decide +kernel
theorem dX10_bare_38 : decode cX10_bare 38 = .ok (.iload_n 1, 1) := by decide +kernel
theorem dX10_bare_39 : decode cX10_bare 39 = .ok (.iconst 1, 1) := by decide +kernel
theorem dX10_bare_40 : decode cX10_bare 40 = .ok (.iload_n 2, 1) := by decide +kernel
theorem dX10_bare_41 : decode cX10_bare 41 = .ok (.ishl, 1) := by decide +kernel
theorem dX10_bare_42 : decode cX10_bare 42 = .ok (.ior, 1) := by decide +kernel
theorem dX10_bare_43 : decode cX10_bare 43 = .ok (.istore_n 1, 1) := by decide +kernel
theorem dX10_bare_44 : decode cX10_bare 44 = .ok (.iinc 2 1, 3) := by decide +kernel
theorem dX10_bare_47 : decode cX10_bare 47 = .ok (.goto (-31), 3) := by decide +kernel
theorem dX10_bare_50 : decode cX10_bare 50 = .ok (.iload_n 1, 1) := by decide +kernel
theorem dX10_bare_51 : decode cX10_bare 51 = .ok (.ireturn, 1) := by decide +kernel
abbrev mX10_bare : MD := (cX10_bare, "BlottedDeed", 3, 4, 98, (some .int), "bare", [])
def bX10_bare_0 (g : GE) (J : Nat → KT) : KT := i_aload 0 (i_getf 9 5 (i_getf 7 2 (i_ifne (i_push (.int 0) (i_istore 1 (i_push (.int 0) (i_istore 2 (i_jmp [true, true, true] (J 1)))))) (i_push (.int 0) (i_ireturn)))))
def bX10_bare_1 (g : GE) (J : Nat → KT) : KT := i_iload 2 (i_aload 0 (i_getf 9 3 (i_getf 2 9 (i_icge (i_iload 1 (i_ireturn)) (i_aload 0 (i_getf 9 5 (i_iload 2 (i_cv fX7_everOwns g 1 7 (i_ifne (i_jmp [true, true, true] (J 2)) (i_iload 1 (i_push (.int 1) (i_iload 2 (i_ishl (i_ior (i_istore 1 (i_jmp [true, true, true] (J 2)))))))))))))))))
def bX10_bare_2 (g : GE) (J : Nat → KT) : KT := i_iinc 2 1 (i_jmp [true, true, true] (J 1))
theorem sbX10_bare_0 (g : GE) (J : Nat → KT) (h1 : Snd mX10_bare g 16 (J 1)) (h2 : Snd mX10_bare g 44 (J 2)) : Snd mX10_bare g 0 (bX10_bare_0 g J) := by
  unfold bX10_bare_0
  refine s_aload_n (pc := 0) (i := 0) ?_ dX10_bare_0 rfl
  refine s_getf (pc := 1) (ci := 9) (f := 5) (T := TX10) ?_ ginX10 rfl (by decide) wt_459 dX10_bare_1
  refine s_getf (pc := 4) (ci := 7) (f := 2) (T := TX7) ?_ ginX7 rfl (by decide) wt_340 dX10_bare_4
  refine s_ifne (pc := 7) (tgt := 12) ?_ ?_ dX10_bare_7 (by decide)
  · skip
    refine s_iconst (pc := 12) (v := 0) ?_ dX10_bare_12 (by decide)
    refine s_istore_n (pc := 13) (i := 1) ?_ dX10_bare_13 rfl (by decide)
    refine s_iconst (pc := 14) (v := 0) ?_ dX10_bare_14 (by decide)
    refine s_istore_n (pc := 15) (i := 2) ?_ dX10_bare_15 rfl (by decide)
    exact s_fall (pc := 16) h1
  · skip
    refine s_iconst (pc := 10) (v := 0) ?_ dX10_bare_10 (by decide)
    exact s_ireturn (pc := 11) rfl dX10_bare_11
theorem sbX10_bare_1 (g : GE) (J : Nat → KT) (h1 : Snd mX10_bare g 16 (J 1)) (h2 : Snd mX10_bare g 44 (J 2)) : Snd mX10_bare g 16 (bX10_bare_1 g J) := by
  unfold bX10_bare_1
  refine s_iload_n (pc := 16) (i := 2) ?_ dX10_bare_16 rfl
  refine s_aload_n (pc := 17) (i := 0) ?_ dX10_bare_17 rfl
  refine s_getf (pc := 18) (ci := 9) (f := 3) (T := TX10) ?_ ginX10 rfl (by decide) wt_457 dX10_bare_18
  refine s_getf (pc := 21) (ci := 2) (f := 9) (T := TX2) ?_ ginX2 rfl (by decide) wt_131 dX10_bare_21
  refine s_icge (pc := 24) (tgt := 50) ?_ ?_ dX10_bare_24 (by decide)
  · skip
    refine s_iload_n (pc := 50) (i := 1) ?_ dX10_bare_50 rfl
    exact s_ireturn (pc := 51) rfl dX10_bare_51
  · skip
    refine s_aload_n (pc := 27) (i := 0) ?_ dX10_bare_27 rfl
    refine s_getf (pc := 28) (ci := 9) (f := 5) (T := TX10) ?_ ginX10 rfl (by decide) wt_459 dX10_bare_28
    refine s_iload_n (pc := 31) (i := 2) ?_ dX10_bare_31 rfl
    refine s_cv (pc := 32) (n := 1) (ci := 7) ?_ tX7_everOwns rfl rfl wt_585 wt_586 wt_587 wt_8 wt_588 ⟨crX7_everOwns, by decide, by decide⟩ dX10_bare_32
    refine s_ifne (pc := 35) (tgt := 44) ?_ ?_ dX10_bare_35 (by decide)
    · skip
      exact s_fall (pc := 44) h2
    · skip
      refine s_iload_n (pc := 38) (i := 1) ?_ dX10_bare_38 rfl
      refine s_iconst (pc := 39) (v := 1) ?_ dX10_bare_39 (by decide)
      refine s_iload_n (pc := 40) (i := 2) ?_ dX10_bare_40 rfl
      refine s_ishl (pc := 41) ?_ dX10_bare_41
      refine s_ior (pc := 42) ?_ dX10_bare_42
      refine s_istore_n (pc := 43) (i := 1) ?_ dX10_bare_43 rfl (by decide)
      exact s_fall (pc := 44) h2
theorem sbX10_bare_2 (g : GE) (J : Nat → KT) (h1 : Snd mX10_bare g 16 (J 1)) (h2 : Snd mX10_bare g 44 (J 2)) : Snd mX10_bare g 44 (bX10_bare_2 g J) := by
  unfold bX10_bare_2
  refine s_iinc (pc := 44) (i := 2) (v := 1) ?_ dX10_bare_44 (by decide) (by decide)
  exact s_goto (pc := 47) (tgt := 16) h1 dX10_bare_47 (by decide)
def jX10_bare (g : GE) : Nat → Nat → KT
  | 0, _ => fun _ _ _ => none
  | n + 1, 0 => bX10_bare_0 g (jX10_bare g n)
  | n + 1, 1 => bX10_bare_1 g (jX10_bare g n)
  | n + 1, 2 => bX10_bare_2 g (jX10_bare g n)
  | _ + 1, _ + 3 => fun _ _ _ => none
theorem sjX10_bare (g : GE) : ∀ n, Snd mX10_bare g 0 (jX10_bare g n 0) ∧ Snd mX10_bare g 16 (jX10_bare g n 1) ∧ Snd mX10_bare g 44 (jX10_bare g n 2)
  | 0 => ⟨s_none, s_none, s_none⟩
  | n + 1 => by
    obtain ⟨-, h1, h2⟩ := sjX10_bare g n
    exact ⟨sbX10_bare_0 g _ h1 h2, sbX10_bare_1 g _ h1 h2, sbX10_bare_2 g _ h1 h2⟩
def kX10_bare (g : GE) : KT := jX10_bare g g.1 0
theorem sX10_bare (g : GE) : Snd mX10_bare g 0 (kX10_bare g) := (sjX10_bare g g.1).1
def fX10_bare : FT := fun g av w => if (ent av).length ≤ 3 then kX10_bare g [] (entp 3 av) w else none
theorem tX10_bare : Mt yX10_bare cX10_bare 3 (some .int) 4 98 fX10_bare := Mt.of (K := kX10_bare) (by decide +kernel) (fun _ _ _ => rfl) sX10_bare
theorem crX10_bare : yX10_bare.cls ≠ "java/lang/invoke/MethodHandle" ∧ yX10_bare.cls ≠ "java/lang/invoke/VarHandle" ∧ (parseMethodDescriptor yX10_bare.desc).map (fun d => d.parameters.length) = some 0 := by decide +kernel
theorem dX7_barring_0 : decode cX7_barring 0 = .ok (.aload_n 0, 1) := by decide +kernel
theorem dX7_barring_1 : decode cX7_barring 1 = .ok (.getfield 53, 3) := by decide +kernel
theorem dX7_barring_4 : decode cX7_barring 4 = .ok (.ifCond .le 5, 3) := by decide +kernel
theorem dX7_barring_7 : decode cX7_barring 7 = .ok (.iconst (-1), 1) := by decide +kernel
theorem dX7_barring_8 : decode cX7_barring 8 = .ok (.ireturn, 1) := by decide +kernel
theorem dX7_barring_9 : decode cX7_barring 9 = .ok (.iconst 0, 1) := by decide +kernel
theorem dX7_barring_10 : decode cX7_barring 10 = .ok (.istore_n 1, 1) := by decide +kernel
theorem dX7_barring_11 : decode cX7_barring 11 = .ok (.iload_n 1, 1) := by decide +kernel
theorem dX7_barring_12 : decode cX7_barring 12 = .ok (.iconst 3, 1) := by decide +kernel
theorem dX7_barring_13 : decode cX7_barring 13 = .ok (.if_icmp .ge 23, 3) := by decide +kernel
theorem dX7_barring_16 : decode cX7_barring 16 = .ok (.aload_n 0, 1) := by decide +kernel
theorem dX7_barring_17 : decode cX7_barring 17 = .ok (.getfield 57, 3) := by decide +kernel
theorem dX7_barring_20 : decode cX7_barring 20 = .ok (.iload_n 1, 1) := by decide +kernel
theorem dX7_barring_21 : decode cX7_barring 21 = .ok (.ishr, 1) := by decide +kernel
theorem dX7_barring_22 : decode cX7_barring 22 = .ok (.iconst 1, 1) := by decide +kernel
theorem dX7_barring_23 : decode cX7_barring 23 = .ok (.iand, 1) := by decide +kernel
theorem dX7_barring_24 : decode cX7_barring 24 = .ok (.iconst 1, 1) := by decide +kernel
theorem dX7_barring_25 : decode cX7_barring 25 = .ok (.if_icmp .ne 5, 3) := by decide +kernel
theorem dX7_barring_28 : decode cX7_barring 28 = .ok (.iload_n 1, 1) := by decide +kernel
theorem dX7_barring_29 : decode cX7_barring 29 = .ok (.ireturn, 1) := by decide +kernel
theorem dX7_barring_30 : decode cX7_barring 30 = .ok (.iinc 1 1, 3) := by decide +kernel
theorem dX7_barring_33 : decode cX7_barring 33 = .ok (.goto (-22), 3) := by decide +kernel
theorem dX7_barring_36 : decode cX7_barring 36 = .ok (.iconst (-1), 1) := by decide +kernel
theorem dX7_barring_37 : decode cX7_barring 37 = .ok (.ireturn, 1) := by decide +kernel
abbrev mX7_barring : MD := (cX7_barring, "BlottedDeed$Table", 2, 1, 30, (some .int), "barring", [])
def bX7_barring_0 (g : GE) (J : Nat → KT) : KT := i_aload 0 (i_getf 7 2 (i_ifle (i_push (.int 0) (i_istore 1 (i_jmp [true, true] (J 1)))) (i_push (.int (-1)) (i_ireturn))))
def bX7_barring_1 (g : GE) (J : Nat → KT) : KT := i_iload 1 (i_push (.int 3) (i_icge (i_push (.int (-1)) (i_ireturn)) (i_aload 0 (i_getf 7 7 (i_iload 1 (i_ishr (i_push (.int 1) (i_iand (i_push (.int 1) (i_icne (i_iinc 1 1 (i_jmp [true, true] (J 1))) (i_iload 1 (i_ireturn))))))))))))
theorem sbX7_barring_0 (g : GE) (J : Nat → KT) (h1 : Snd mX7_barring g 11 (J 1)) : Snd mX7_barring g 0 (bX7_barring_0 g J) := by
  unfold bX7_barring_0
  refine s_aload_n (pc := 0) (i := 0) ?_ dX7_barring_0 rfl
  refine s_getf (pc := 1) (ci := 7) (f := 2) (T := TX7) ?_ ginX7 rfl (by decide) wt_339 dX7_barring_1
  refine s_ifle (pc := 4) (tgt := 9) ?_ ?_ dX7_barring_4 (by decide)
  · skip
    refine s_iconst (pc := 9) (v := 0) ?_ dX7_barring_9 (by decide)
    refine s_istore_n (pc := 10) (i := 1) ?_ dX7_barring_10 rfl (by decide)
    exact s_fall (pc := 11) h1
  · skip
    refine s_iconst (pc := 7) (v := (-1)) ?_ dX7_barring_7 (by decide)
    exact s_ireturn (pc := 8) rfl dX7_barring_8
theorem sbX7_barring_1 (g : GE) (J : Nat → KT) (h1 : Snd mX7_barring g 11 (J 1)) : Snd mX7_barring g 11 (bX7_barring_1 g J) := by
  unfold bX7_barring_1
  refine s_iload_n (pc := 11) (i := 1) ?_ dX7_barring_11 rfl
  refine s_iconst (pc := 12) (v := 3) ?_ dX7_barring_12 (by decide)
  refine s_icge (pc := 13) (tgt := 36) ?_ ?_ dX7_barring_13 (by decide)
  · skip
    refine s_iconst (pc := 36) (v := (-1)) ?_ dX7_barring_36 (by decide)
    exact s_ireturn (pc := 37) rfl dX7_barring_37
  · skip
    refine s_aload_n (pc := 16) (i := 0) ?_ dX7_barring_16 rfl
    refine s_getf (pc := 17) (ci := 7) (f := 7) (T := TX7) ?_ ginX7 rfl (by decide) wt_347 dX7_barring_17
    refine s_iload_n (pc := 20) (i := 1) ?_ dX7_barring_20 rfl
    refine s_ishr (pc := 21) ?_ dX7_barring_21
    refine s_iconst (pc := 22) (v := 1) ?_ dX7_barring_22 (by decide)
    refine s_iand (pc := 23) ?_ dX7_barring_23
    refine s_iconst (pc := 24) (v := 1) ?_ dX7_barring_24 (by decide)
    refine s_icne (pc := 25) (tgt := 30) ?_ ?_ dX7_barring_25 (by decide)
    · skip
      refine s_iinc (pc := 30) (i := 1) (v := 1) ?_ dX7_barring_30 (by decide) (by decide)
      exact s_goto (pc := 33) (tgt := 11) h1 dX7_barring_33 (by decide)
    · skip
      refine s_iload_n (pc := 28) (i := 1) ?_ dX7_barring_28 rfl
      exact s_ireturn (pc := 29) rfl dX7_barring_29
def jX7_barring (g : GE) : Nat → Nat → KT
  | 0, _ => fun _ _ _ => none
  | n + 1, 0 => bX7_barring_0 g (jX7_barring g n)
  | n + 1, 1 => bX7_barring_1 g (jX7_barring g n)
  | _ + 1, _ + 2 => fun _ _ _ => none
theorem sjX7_barring (g : GE) : ∀ n, Snd mX7_barring g 0 (jX7_barring g n 0) ∧ Snd mX7_barring g 11 (jX7_barring g n 1)
  | 0 => ⟨s_none, s_none⟩
  | n + 1 => by
    obtain ⟨-, h1⟩ := sjX7_barring g n
    exact ⟨sbX7_barring_0 g _ h1, sbX7_barring_1 g _ h1⟩
def kX7_barring (g : GE) : KT := jX7_barring g g.1 0
theorem sX7_barring (g : GE) : Snd mX7_barring g 0 (kX7_barring g) := (sjX7_barring g g.1).1
def fX7_barring : FT := fun g av w => if (ent av).length ≤ 2 then kX7_barring g [] (entp 2 av) w else none
theorem tX7_barring : Mt yX7_barring cX7_barring 2 (some .int) 1 30 fX7_barring := Mt.of (K := kX7_barring) (by decide +kernel) (fun _ _ _ => rfl) sX7_barring
theorem crX7_barring : yX7_barring.cls ≠ "java/lang/invoke/MethodHandle" ∧ yX7_barring.cls ≠ "java/lang/invoke/VarHandle" ∧ (parseMethodDescriptor yX7_barring.desc).map (fun d => d.parameters.length) = some 0 := by decide +kernel
theorem dX10_bars_0 : decode cX10_bars 0 = .ok (.aload_n 0, 1) := by decide +kernel
theorem dX10_bars_1 : decode cX10_bars 1 = .ok (.getfield 37, 3) := by decide +kernel
theorem dX10_bars_4 : decode cX10_bars 4 = .ok (.invokevirtual 162, 3) := by decide +kernel
theorem dX10_bars_7 : decode cX10_bars 7 = .ok (.ireturn, 1) := by decide +kernel
abbrev mX10_bars : MD := (cX10_bars, "BlottedDeed", 1, 2, 51, (some .int), "bars", [])
def bX10_bars_0 (g : GE) (J : Nat → KT) : KT := i_aload 0 (i_getf 9 5 (i_cv fX7_barring g 0 7 (i_ireturn)))
theorem sbX10_bars_0 (g : GE) (J : Nat → KT)  : Snd mX10_bars g 0 (bX10_bars_0 g J) := by
  unfold bX10_bars_0
  refine s_aload_n (pc := 0) (i := 0) ?_ dX10_bars_0 rfl
  refine s_getf (pc := 1) (ci := 9) (f := 5) (T := TX10) ?_ ginX10 rfl (by decide) wt_459 dX10_bars_1
  refine s_cv (pc := 4) (n := 0) (ci := 7) ?_ tX7_barring rfl rfl wt_514 wt_515 wt_516 wt_8 wt_517 ⟨crX7_barring, by decide, by decide⟩ dX10_bars_4
  exact s_ireturn (pc := 7) rfl dX10_bars_7
def kX10_bars (g : GE) : KT := bX10_bars_0 g (fun _ _ _ _ => none)
theorem sX10_bars (g : GE) : Snd mX10_bars g 0 (kX10_bars g) := sbX10_bars_0 g _
def fX10_bars : FT := fun g av w => if (ent av).length ≤ 1 then kX10_bars g [] (entp 1 av) w else none
theorem tX10_bars : Mt yX10_bars cX10_bars 1 (some .int) 2 51 fX10_bars := Mt.of (K := kX10_bars) (by decide +kernel) (fun _ _ _ => rfl) sX10_bars
theorem crX10_bars : yX10_bars.cls ≠ "java/lang/invoke/MethodHandle" ∧ yX10_bars.cls ≠ "java/lang/invoke/VarHandle" ∧ (parseMethodDescriptor yX10_bars.desc).map (fun d => d.parameters.length) = some 0 := by decide +kernel
theorem dX10_needArgument_0 : decode cX10_needArgument 0 = .ok (.iload_n 1, 1) := by decide +kernel
theorem dX10_needArgument_1 : decode cX10_needArgument 1 = .ok (.ifCond .ne 24, 3) := by decide +kernel
theorem dX10_needArgument_4 : decode cX10_needArgument 4 = .ok (.aload_n 0, 1) := by decide +kernel
theorem dX10_needArgument_5 : decode cX10_needArgument 5 = .ok (.getfield 70, 3) := by decide +kernel
theorem dX10_needArgument_8 : decode cX10_needArgument 8 = .ok (.iconst 2, 1) := by decide +kernel
theorem dX10_needArgument_9 : decode cX10_needArgument 9 = .ok (.dup2, 1) := by decide +kernel
theorem dX10_needArgument_10 : decode cX10_needArgument 10 = .ok (.iaload, 1) := by decide +kernel
theorem dX10_needArgument_11 : decode cX10_needArgument 11 = .ok (.iconst 1, 1) := by decide +kernel
theorem dX10_needArgument_12 : decode cX10_needArgument 12 = .ok (.iadd, 1) := by decide +kernel
theorem dX10_needArgument_13 : decode cX10_needArgument 13 = .ok (.iastore, 1) := by decide +kernel
theorem dX10_needArgument_14 : decode cX10_needArgument 14 = .ok (.new 331, 3) := by decide +kernel
theorem dX10_needArgument_17 : decode cX10_needArgument 17 = .ok (.dup, 1) := by decide +kernel
theorem dX10_needArgument_18 : decode cX10_needArgument 18 = .ok (.ldc_w 333, 3) := by decide +kernel
theorem dX10_needArgument_21 : decode cX10_needArgument 21 = .ok (.invokespecial 335, 3) := by decide +kernel
theorem dX10_needArgument_24 : decode cX10_needArgument 24 = .ok (.athrow, 1) := by decide +kernel
theorem dX10_needArgument_25 : decode cX10_needArgument 25 = .ok (.return_, 1) := by decide +kernel
theorem at_X10_needArgument : (vx_atS "BlottedDeed" 335 "java/lang/IllegalArgumentException" ["java/lang/RuntimeException", "java/lang/Exception"]).all (fun w => decide (w ∈ gt) || (w.onTables && decide (w ∈ owl))) = true := by decide +kernel
abbrev mX10_needArgument : MD := (cX10_needArgument, "BlottedDeed", 2, 6, 100, none, "needArgument", [])
def bX10_needArgument_0 (g : GE) (J : Nat → KT) : KT := i_iload 1 (i_ifne (i_return) (i_aload 0 (i_getf 9 12 (i_push (.int 2) (i_dup2 (i_iaload (i_push (.int 1) (i_iadd (i_iastore (i_throw "java/lang/IllegalArgumentException"))))))))))
theorem sbX10_needArgument_0 (g : GE) (J : Nat → KT)  : Snd mX10_needArgument g 0 (bX10_needArgument_0 g J) := by
  unfold bX10_needArgument_0
  refine s_iload_n (pc := 0) (i := 1) ?_ dX10_needArgument_0 rfl
  refine s_ifne (pc := 1) (tgt := 25) ?_ ?_ dX10_needArgument_1 (by decide)
  · skip
    exact s_return (pc := 25) rfl dX10_needArgument_25
  · skip
    refine s_aload_n (pc := 4) (i := 0) ?_ dX10_needArgument_4 rfl
    refine s_getf (pc := 5) (ci := 9) (f := 12) (T := TX10) ?_ ginX10 rfl (by decide) wt_466 dX10_needArgument_5
    refine s_iconst (pc := 8) (v := 2) ?_ dX10_needArgument_8 (by decide)
    refine s_dup2 (pc := 9) ?_ dX10_needArgument_9
    refine s_iaload (pc := 10) ?_ dX10_needArgument_10
    refine s_iconst (pc := 11) (v := 1) ?_ dX10_needArgument_11 (by decide)
    refine s_iadd (pc := 12) ?_ dX10_needArgument_12
    refine s_iastore (pc := 13) ?_ dX10_needArgument_13
    exact s_throw (pc := 14) (i := 11) (ik := 331) (is := 333) (ic := 335) (by decide) rfl rfl (by decide +kernel) at_X10_needArgument wt_630 wt_21 (by decide) rfl dX10_needArgument_14 dX10_needArgument_17 dX10_needArgument_18 dX10_needArgument_21 dX10_needArgument_24
def kX10_needArgument (g : GE) : KT := bX10_needArgument_0 g (fun _ _ _ _ => none)
theorem sX10_needArgument (g : GE) : Snd mX10_needArgument g 0 (kX10_needArgument g) := sbX10_needArgument_0 g _
def fX10_needArgument : FT := fun g av w => if (ent av).length ≤ 2 then kX10_needArgument g [] (entp 2 av) w else none
theorem tX10_needArgument : Mt yX10_needArgument cX10_needArgument 2 none 6 100 fX10_needArgument := Mt.of (K := kX10_needArgument) (by decide +kernel) (fun _ _ _ => rfl) sX10_needArgument
theorem crX10_needArgument : yX10_needArgument.cls ≠ "java/lang/invoke/MethodHandle" ∧ yX10_needArgument.cls ≠ "java/lang/invoke/VarHandle" ∧ (parseMethodDescriptor yX10_needArgument.desc).map (fun d => d.parameters.length) = some 1 := by decide +kernel
theorem dX10_needWhat_0 : decode cX10_needWhat 0 = .ok (.aload_n 0, 1) := by decide +kernel
theorem dX10_needWhat_1 : decode cX10_needWhat 1 = .ok (.iload_n 1, 1) := by decide +kernel
theorem dX10_needWhat_2 : decode cX10_needWhat 2 = .ok (.ifCond .lt 12, 3) := by decide +kernel
theorem dX10_needWhat_5 : decode cX10_needWhat 5 = .ok (.iload_n 1, 1) := by decide +kernel
theorem dX10_needWhat_6 : decode cX10_needWhat 6 = .ok (.iload_n 2, 1) := by decide +kernel
theorem dX10_needWhat_7 : decode cX10_needWhat 7 = .ok (.if_icmp .gt 7, 3) := by decide +kernel
theorem dX10_needWhat_10 : decode cX10_needWhat 10 = .ok (.iconst 1, 1) := by decide +kernel
theorem dX10_needWhat_11 : decode cX10_needWhat 11 = .ok (.goto 4, 3) := by decide +kernel
theorem dX10_needWhat_14 : decode cX10_needWhat 14 = .ok (.iconst 0, 1) := by decide +kernel
theorem dX10_needWhat_15 : decode cX10_needWhat 15 = .ok (.invokevirtual 80, 3) := by decide +kernel
theorem dX10_needWhat_18 : decode cX10_needWhat 18 = .ok (.return_, 1) := by decide +kernel
abbrev mX10_needWhat : MD := (cX10_needWhat, "BlottedDeed", 3, 7, 121, none, "needWhat", [])
def bX10_needWhat_0 (g : GE) (J : Nat → KT) : KT := i_aload 0 (i_iload 1 (i_iflt (i_jmp [false, false, false] (J 1)) (i_iload 1 (i_iload 2 (i_icgt (i_jmp [false, false, false] (J 1)) (i_push (.int 1) (i_jmp [false, false, false] (J 2))))))))
def bX10_needWhat_1 (g : GE) (J : Nat → KT) : KT := i_push (.int 0) (i_jmp [false, false, false] (J 2))
def bX10_needWhat_2 (g : GE) (J : Nat → KT) : KT := i_cvX fX10_needArgument g 1 9 (i_return)
theorem sbX10_needWhat_0 (g : GE) (J : Nat → KT) (h1 : Snd mX10_needWhat g 14 (J 1)) (h2 : Snd mX10_needWhat g 15 (J 2)) : Snd mX10_needWhat g 0 (bX10_needWhat_0 g J) := by
  unfold bX10_needWhat_0
  refine s_aload_n (pc := 0) (i := 0) ?_ dX10_needWhat_0 rfl
  refine s_iload_n (pc := 1) (i := 1) ?_ dX10_needWhat_1 rfl
  refine s_iflt (pc := 2) (tgt := 14) ?_ ?_ dX10_needWhat_2 (by decide)
  · skip
    exact s_fall (pc := 14) h1
  · skip
    refine s_iload_n (pc := 5) (i := 1) ?_ dX10_needWhat_5 rfl
    refine s_iload_n (pc := 6) (i := 2) ?_ dX10_needWhat_6 rfl
    refine s_icgt (pc := 7) (tgt := 14) ?_ ?_ dX10_needWhat_7 (by decide)
    · skip
      exact s_fall (pc := 14) h1
    · skip
      refine s_iconst (pc := 10) (v := 1) ?_ dX10_needWhat_10 (by decide)
      exact s_goto (pc := 11) (tgt := 15) h2 dX10_needWhat_11 (by decide)
theorem sbX10_needWhat_1 (g : GE) (J : Nat → KT) (h1 : Snd mX10_needWhat g 14 (J 1)) (h2 : Snd mX10_needWhat g 15 (J 2)) : Snd mX10_needWhat g 14 (bX10_needWhat_1 g J) := by
  unfold bX10_needWhat_1
  refine s_iconst (pc := 14) (v := 0) ?_ dX10_needWhat_14 (by decide)
  exact s_fall (pc := 15) h2
theorem sbX10_needWhat_2 (g : GE) (J : Nat → KT) (h1 : Snd mX10_needWhat g 14 (J 1)) (h2 : Snd mX10_needWhat g 15 (J 2)) : Snd mX10_needWhat g 15 (bX10_needWhat_2 g J) := by
  unfold bX10_needWhat_2
  refine s_cvX (pc := 15) (n := 1) (ci := 9) ?_ tX10_needArgument rfl rfl wt_626 wt_628 wp_8 wt_1 wt_629 ⟨crX10_needArgument, by decide, by decide⟩ rfl dX10_needWhat_15
  exact s_return (pc := 18) rfl dX10_needWhat_18
def jX10_needWhat (g : GE) : Nat → Nat → KT
  | 0, _ => fun _ _ _ => none
  | n + 1, 0 => bX10_needWhat_0 g (jX10_needWhat g n)
  | n + 1, 1 => bX10_needWhat_1 g (jX10_needWhat g n)
  | n + 1, 2 => bX10_needWhat_2 g (jX10_needWhat g n)
  | _ + 1, _ + 3 => fun _ _ _ => none
theorem sjX10_needWhat (g : GE) : ∀ n, Snd mX10_needWhat g 0 (jX10_needWhat g n 0) ∧ Snd mX10_needWhat g 14 (jX10_needWhat g n 1) ∧ Snd mX10_needWhat g 15 (jX10_needWhat g n 2)
  | 0 => ⟨s_none, s_none, s_none⟩
  | n + 1 => by
    obtain ⟨-, h1, h2⟩ := sjX10_needWhat g n
    exact ⟨sbX10_needWhat_0 g _ h1 h2, sbX10_needWhat_1 g _ h1 h2, sbX10_needWhat_2 g _ h1 h2⟩
def kX10_needWhat (g : GE) : KT := jX10_needWhat g g.1 0
theorem sX10_needWhat (g : GE) : Snd mX10_needWhat g 0 (kX10_needWhat g) := (sjX10_needWhat g g.1).1
def fX10_needWhat : FT := fun g av w => if (ent av).length ≤ 3 then kX10_needWhat g [] (entp 3 av) w else none
theorem tX10_needWhat : Mt yX10_needWhat cX10_needWhat 3 none 7 121 fX10_needWhat := Mt.of (K := kX10_needWhat) (by decide +kernel) (fun _ _ _ => rfl) sX10_needWhat
theorem crX10_needWhat : yX10_needWhat.cls ≠ "java/lang/invoke/MethodHandle" ∧ yX10_needWhat.cls ≠ "java/lang/invoke/VarHandle" ∧ (parseMethodDescriptor yX10_needWhat.desc).map (fun d => d.parameters.length) = some 2 := by decide +kernel
theorem dX10_blot_0 : decode cX10_blot 0 = .ok (.aload_n 0, 1) := by decide +kernel
theorem dX10_blot_1 : decode cX10_blot 1 = .ok (.iload_n 1, 1) := by decide +kernel
theorem dX10_blot_2 : decode cX10_blot 2 = .ok (.invokevirtual 126, 3) := by decide +kernel
theorem dX10_blot_5 : decode cX10_blot 5 = .ok (.aload_n 0, 1) := by decide +kernel
theorem dX10_blot_6 : decode cX10_blot 6 = .ok (.iload_n 2, 1) := by decide +kernel
theorem dX10_blot_7 : decode cX10_blot 7 = .ok (.iconst 3, 1) := by decide +kernel
theorem dX10_blot_8 : decode cX10_blot 8 = .ok (.invokevirtual 104, 3) := by decide +kernel
theorem dX10_blot_11 : decode cX10_blot 11 = .ok (.aload_n 0, 1) := by decide +kernel
theorem dX10_blot_12 : decode cX10_blot 12 = .ok (.getfield 16, 3) := by decide +kernel
theorem dX10_blot_15 : decode cX10_blot 15 = .ok (.getfield 129, 3) := by decide +kernel
theorem dX10_blot_18 : decode cX10_blot 18 = .ok (.iload_n 1, 1) := by decide +kernel
theorem dX10_blot_19 : decode cX10_blot 19 = .ok (.aaload, 1) := by decide +kernel
theorem dX10_blot_20 : decode cX10_blot 20 = .ok (.astore_n 3, 1) := by decide +kernel
theorem dX10_blot_21 : decode cX10_blot 21 = .ok (.iload_n 2, 1) := by decide +kernel
theorem dX10_blot_22 : decode cX10_blot 22 = .ok (.tableswitch 41 0 2 #[26, 31, 36], 26) := by decide +kernel
theorem dX10_blot_48 : decode cX10_blot 48 = .ok (.aload_n 3, 1) := by decide +kernel
theorem dX10_blot_49 : decode cX10_blot 49 = .ok (.getfield 133, 3) := by decide +kernel
theorem dX10_blot_52 : decode cX10_blot 52 = .ok (.ireturn, 1) := by decide +kernel
theorem dX10_blot_53 : decode cX10_blot 53 = .ok (.aload_n 3, 1) := by decide +kernel
theorem dX10_blot_54 : decode cX10_blot 54 = .ok (.getfield 138, 3) := by decide +kernel
theorem dX10_blot_57 : decode cX10_blot 57 = .ok (.ireturn, 1) := by decide +kernel
theorem dX10_blot_58 : decode cX10_blot 58 = .ok (.aload_n 3, 1) := by decide +kernel
theorem dX10_blot_59 : decode cX10_blot 59 = .ok (.getfield 141, 3) := by decide +kernel
theorem dX10_blot_62 : decode cX10_blot 62 = .ok (.ireturn, 1) := by decide +kernel
theorem dX10_blot_63 : decode cX10_blot 63 = .ok (.aload_n 3, 1) := by decide +kernel
theorem dX10_blot_64 : decode cX10_blot 64 = .ok (.getfield 144, 3) := by decide +kernel
theorem dX10_blot_67 : decode cX10_blot 67 = .ok (.ireturn, 1) := by decide +kernel
abbrev mX10_blot : MD := (cX10_blot, "BlottedDeed", 4, 8, 143, (some .int), "blot", [])
def bX10_blot_0 (g : GE) (J : Nat → KT) : KT := i_aload 0 (i_iload 1 (i_cvX fX10_needBlot g 1 9 (i_aload 0 (i_iload 2 (i_push (.int 3) (i_cvX fX10_needWhat g 2 9 (i_aload 0 (i_getf 9 3 (i_getf 2 8 (i_iload 1 (i_aaload 6 (i_astore 3 (i_iload 2 (i_tsw 0 2 [i_aload 3 (i_getf 1 2 (i_ireturn)), i_aload 3 (i_getf 1 3 (i_ireturn)), i_aload 3 (i_getf 1 1 (i_ireturn))] (i_aload 3 (i_getf 1 4 (i_ireturn)))))))))))))))))
theorem sbX10_blot_0 (g : GE) (J : Nat → KT)  : Snd mX10_blot g 0 (bX10_blot_0 g J) := by
  unfold bX10_blot_0
  refine s_aload_n (pc := 0) (i := 0) ?_ dX10_blot_0 rfl
  refine s_iload_n (pc := 1) (i := 1) ?_ dX10_blot_1 rfl
  refine s_cvX (pc := 2) (n := 1) (ci := 9) ?_ tX10_needBlot rfl rfl wt_932 wt_934 wp_32 wt_1 wt_935 ⟨crX10_needBlot, by decide, by decide⟩ rfl dX10_blot_2
  refine s_aload_n (pc := 5) (i := 0) ?_ dX10_blot_5 rfl
  refine s_iload_n (pc := 6) (i := 2) ?_ dX10_blot_6 rfl
  refine s_iconst (pc := 7) (v := 3) ?_ dX10_blot_7 (by decide)
  refine s_cvX (pc := 8) (n := 2) (ci := 9) ?_ tX10_needWhat rfl rfl wt_920 wt_922 wp_31 wt_1 wt_923 ⟨crX10_needWhat, by decide, by decide⟩ rfl dX10_blot_8
  refine s_aload_n (pc := 11) (i := 0) ?_ dX10_blot_11 rfl
  refine s_getf (pc := 12) (ci := 9) (f := 3) (T := TX10) ?_ ginX10 rfl (by decide) wt_457 dX10_blot_12
  refine s_getf (pc := 15) (ci := 2) (f := 8) (T := TX2) ?_ ginX2 rfl (by decide) wt_127 dX10_blot_15
  refine s_iload_n (pc := 18) (i := 1) ?_ dX10_blot_18 rfl
  refine s_aaload (pc := 19) (t := 6) ?_ (by decide) rfl dX10_blot_19
  refine s_astore_n (pc := 20) (i := 3) ?_ dX10_blot_20 rfl (by decide)
  refine s_iload_n (pc := 21) (i := 2) ?_ dX10_blot_21 rfl
  refine s_tsw (pc := 22) (tgt := 63) dX10_blot_22 ?_ (by decide) ?_
  · skip
    refine s_aload_n (pc := 63) (i := 3) ?_ dX10_blot_63 rfl
    refine s_getf (pc := 64) (ci := 1) (f := 4) (T := TX1) ?_ ginX1 rfl (by decide) wt_93 dX10_blot_64
    exact s_ireturn (pc := 67) rfl dX10_blot_67
  · intro j kj hj
    match j, hj with
    | 0, hj =>
      cases hj
      refine ⟨_, 48, rfl, by decide, ?_⟩
      refine s_aload_n (pc := 48) (i := 3) ?_ dX10_blot_48 rfl
      refine s_getf (pc := 49) (ci := 1) (f := 2) (T := TX1) ?_ ginX1 rfl (by decide) wt_89 dX10_blot_49
      exact s_ireturn (pc := 52) rfl dX10_blot_52
    | 1, hj =>
      cases hj
      refine ⟨_, 53, rfl, by decide, ?_⟩
      refine s_aload_n (pc := 53) (i := 3) ?_ dX10_blot_53 rfl
      refine s_getf (pc := 54) (ci := 1) (f := 3) (T := TX1) ?_ ginX1 rfl (by decide) wt_91 dX10_blot_54
      exact s_ireturn (pc := 57) rfl dX10_blot_57
    | 2, hj =>
      cases hj
      refine ⟨_, 58, rfl, by decide, ?_⟩
      refine s_aload_n (pc := 58) (i := 3) ?_ dX10_blot_58 rfl
      refine s_getf (pc := 59) (ci := 1) (f := 1) (T := TX1) ?_ ginX1 rfl (by decide) wt_85 dX10_blot_59
      exact s_ireturn (pc := 62) rfl dX10_blot_62
    | j + 3, hj => simp at hj
def kX10_blot (g : GE) : KT := bX10_blot_0 g (fun _ _ _ _ => none)
theorem sX10_blot (g : GE) : Snd mX10_blot g 0 (kX10_blot g) := sbX10_blot_0 g _
def fX10_blot : FT := fun g av w => if (ent av).length ≤ 4 then kX10_blot g [] (entp 4 av) w else none
theorem tX10_blot : Mt yX10_blot cX10_blot 4 (some .int) 8 143 fX10_blot := Mt.of (K := kX10_blot) (by decide +kernel) (fun _ _ _ => rfl) sX10_blot
theorem crX10_blot : yX10_blot.cls ≠ "java/lang/invoke/MethodHandle" ∧ yX10_blot.cls ≠ "java/lang/invoke/VarHandle" ∧ (parseMethodDescriptor yX10_blot.desc).map (fun d => d.parameters.length) = some 2 := by decide +kernel
theorem dX10_candidate_0 : decode cX10_candidate 0 = .ok (.aload_n 0, 1) := by decide +kernel
theorem dX10_candidate_1 : decode cX10_candidate 1 = .ok (.iload_n 1, 1) := by decide +kernel
theorem dX10_candidate_2 : decode cX10_candidate 2 = .ok (.invokevirtual 126, 3) := by decide +kernel
theorem dX10_candidate_5 : decode cX10_candidate 5 = .ok (.aload_n 0, 1) := by decide +kernel
theorem dX10_candidate_6 : decode cX10_candidate 6 = .ok (.getfield 16, 3) := by decide +kernel
theorem dX10_candidate_9 : decode cX10_candidate 9 = .ok (.getfield 129, 3) := by decide +kernel
theorem dX10_candidate_12 : decode cX10_candidate 12 = .ok (.iload_n 1, 1) := by decide +kernel
theorem dX10_candidate_13 : decode cX10_candidate 13 = .ok (.aaload, 1) := by decide +kernel
theorem dX10_candidate_14 : decode cX10_candidate 14 = .ok (.astore_n 3, 1) := by decide +kernel
theorem dX10_candidate_15 : decode cX10_candidate 15 = .ok (.iload_n 2, 1) := by decide +kernel
theorem dX10_candidate_16 : decode cX10_candidate 16 = .ok (.ifCond .lt 20, 3) := by decide +kernel
theorem dX10_candidate_19 : decode cX10_candidate 19 = .ok (.iload_n 2, 1) := by decide +kernel
theorem dX10_candidate_20 : decode cX10_candidate 20 = .ok (.aload_n 3, 1) := by decide +kernel
theorem dX10_candidate_21 : decode cX10_candidate 21 = .ok (.getfield 141, 3) := by decide +kernel
theorem dX10_candidate_24 : decode cX10_candidate 24 = .ok (.if_icmp .ge 12, 3) := by decide +kernel
theorem dX10_candidate_27 : decode cX10_candidate 27 = .ok (.aload_n 3, 1) := by decide +kernel
theorem dX10_candidate_28 : decode cX10_candidate 28 = .ok (.getfield 147, 3) := by decide +kernel
theorem dX10_candidate_31 : decode cX10_candidate 31 = .ok (.iload_n 2, 1) := by decide +kernel
theorem dX10_candidate_32 : decode cX10_candidate 32 = .ok (.iaload, 1) := by decide +kernel
theorem dX10_candidate_33 : decode cX10_candidate 33 = .ok (.goto 4, 3) := by decide +kernel
theorem dX10_candidate_36 : decode cX10_candidate 36 = .ok (.iconst (-1), 1) := by decide +kernel
theorem dX10_candidate_37 : decode cX10_candidate 37 = .ok (.ireturn, 1) := by decide +kernel
abbrev mX10_candidate : MD := (cX10_candidate, "BlottedDeed", 4, 7, 121, (some .int), "candidate", [])
def bX10_candidate_0 (g : GE) (J : Nat → KT) : KT := i_aload 0 (i_iload 1 (i_cvX fX10_needBlot g 1 9 (i_aload 0 (i_getf 9 3 (i_getf 2 8 (i_iload 1 (i_aaload 6 (i_astore 3 (i_iload 2 (i_iflt (i_jmp [false, false, false, false] (J 1)) (i_iload 2 (i_aload 3 (i_getf 1 1 (i_icge (i_jmp [false, false, false, false] (J 1)) (i_aload 3 (i_getf 1 0 (i_iload 2 (i_iaload (i_jmp [false, false, false, false] (J 2))))))))))))))))))))
def bX10_candidate_1 (g : GE) (J : Nat → KT) : KT := i_push (.int (-1)) (i_jmp [false, false, false, false] (J 2))
def bX10_candidate_2 (g : GE) (J : Nat → KT) : KT := i_ireturn
theorem sbX10_candidate_0 (g : GE) (J : Nat → KT) (h1 : Snd mX10_candidate g 36 (J 1)) (h2 : Snd mX10_candidate g 37 (J 2)) : Snd mX10_candidate g 0 (bX10_candidate_0 g J) := by
  unfold bX10_candidate_0
  refine s_aload_n (pc := 0) (i := 0) ?_ dX10_candidate_0 rfl
  refine s_iload_n (pc := 1) (i := 1) ?_ dX10_candidate_1 rfl
  refine s_cvX (pc := 2) (n := 1) (ci := 9) ?_ tX10_needBlot rfl rfl wt_932 wt_934 wp_32 wt_1 wt_935 ⟨crX10_needBlot, by decide, by decide⟩ rfl dX10_candidate_2
  refine s_aload_n (pc := 5) (i := 0) ?_ dX10_candidate_5 rfl
  refine s_getf (pc := 6) (ci := 9) (f := 3) (T := TX10) ?_ ginX10 rfl (by decide) wt_457 dX10_candidate_6
  refine s_getf (pc := 9) (ci := 2) (f := 8) (T := TX2) ?_ ginX2 rfl (by decide) wt_127 dX10_candidate_9
  refine s_iload_n (pc := 12) (i := 1) ?_ dX10_candidate_12 rfl
  refine s_aaload (pc := 13) (t := 6) ?_ (by decide) rfl dX10_candidate_13
  refine s_astore_n (pc := 14) (i := 3) ?_ dX10_candidate_14 rfl (by decide)
  refine s_iload_n (pc := 15) (i := 2) ?_ dX10_candidate_15 rfl
  refine s_iflt (pc := 16) (tgt := 36) ?_ ?_ dX10_candidate_16 (by decide)
  · skip
    exact s_fall (pc := 36) h1
  · skip
    refine s_iload_n (pc := 19) (i := 2) ?_ dX10_candidate_19 rfl
    refine s_aload_n (pc := 20) (i := 3) ?_ dX10_candidate_20 rfl
    refine s_getf (pc := 21) (ci := 1) (f := 1) (T := TX1) ?_ ginX1 rfl (by decide) wt_85 dX10_candidate_21
    refine s_icge (pc := 24) (tgt := 36) ?_ ?_ dX10_candidate_24 (by decide)
    · skip
      exact s_fall (pc := 36) h1
    · skip
      refine s_aload_n (pc := 27) (i := 3) ?_ dX10_candidate_27 rfl
      refine s_getf (pc := 28) (ci := 1) (f := 0) (T := TX1) ?_ ginX1 rfl (by decide) wt_79 dX10_candidate_28
      refine s_iload_n (pc := 31) (i := 2) ?_ dX10_candidate_31 rfl
      refine s_iaload (pc := 32) ?_ dX10_candidate_32
      exact s_goto (pc := 33) (tgt := 37) h2 dX10_candidate_33 (by decide)
theorem sbX10_candidate_1 (g : GE) (J : Nat → KT) (h1 : Snd mX10_candidate g 36 (J 1)) (h2 : Snd mX10_candidate g 37 (J 2)) : Snd mX10_candidate g 36 (bX10_candidate_1 g J) := by
  unfold bX10_candidate_1
  refine s_iconst (pc := 36) (v := (-1)) ?_ dX10_candidate_36 (by decide)
  exact s_fall (pc := 37) h2
theorem sbX10_candidate_2 (g : GE) (J : Nat → KT) (h1 : Snd mX10_candidate g 36 (J 1)) (h2 : Snd mX10_candidate g 37 (J 2)) : Snd mX10_candidate g 37 (bX10_candidate_2 g J) := by
  unfold bX10_candidate_2
  exact s_ireturn (pc := 37) rfl dX10_candidate_37
def jX10_candidate (g : GE) : Nat → Nat → KT
  | 0, _ => fun _ _ _ => none
  | n + 1, 0 => bX10_candidate_0 g (jX10_candidate g n)
  | n + 1, 1 => bX10_candidate_1 g (jX10_candidate g n)
  | n + 1, 2 => bX10_candidate_2 g (jX10_candidate g n)
  | _ + 1, _ + 3 => fun _ _ _ => none
theorem sjX10_candidate (g : GE) : ∀ n, Snd mX10_candidate g 0 (jX10_candidate g n 0) ∧ Snd mX10_candidate g 36 (jX10_candidate g n 1) ∧ Snd mX10_candidate g 37 (jX10_candidate g n 2)
  | 0 => ⟨s_none, s_none, s_none⟩
  | n + 1 => by
    obtain ⟨-, h1, h2⟩ := sjX10_candidate g n
    exact ⟨sbX10_candidate_0 g _ h1 h2, sbX10_candidate_1 g _ h1 h2, sbX10_candidate_2 g _ h1 h2⟩
def kX10_candidate (g : GE) : KT := jX10_candidate g g.1 0
theorem sX10_candidate (g : GE) : Snd mX10_candidate g 0 (kX10_candidate g) := (sjX10_candidate g g.1).1
def fX10_candidate : FT := fun g av w => if (ent av).length ≤ 4 then kX10_candidate g [] (entp 4 av) w else none
theorem tX10_candidate : Mt yX10_candidate cX10_candidate 4 (some .int) 7 121 fX10_candidate := Mt.of (K := kX10_candidate) (by decide +kernel) (fun _ _ _ => rfl) sX10_candidate
theorem crX10_candidate : yX10_candidate.cls ≠ "java/lang/invoke/MethodHandle" ∧ yX10_candidate.cls ≠ "java/lang/invoke/VarHandle" ∧ (parseMethodDescriptor yX10_candidate.desc).map (fun d => d.parameters.length) = some 2 := by decide +kernel
theorem dX7_mostLeft_0 : decode cX7_mostLeft 0 = .ok (.aload_n 0, 1) := by decide +kernel
theorem dX7_mostLeft_1 : decode cX7_mostLeft 1 = .ok (.iload_n 1, 1) := by decide +kernel
theorem dX7_mostLeft_2 : decode cX7_mostLeft 2 = .ok (.lload_n 2, 1) := by decide +kernel
theorem dX7_mostLeft_3 : decode cX7_mostLeft 3 = .ok (.lload 4, 2) := by decide +kernel
theorem dX7_mostLeft_5 : decode cX7_mostLeft 5 = .ok (.invokevirtual 151, 3) := by decide +kernel
theorem dX7_mostLeft_8 : decode cX7_mostLeft 8 = .ok (.iconst 0, 1) := by decide +kernel
theorem dX7_mostLeft_9 : decode cX7_mostLeft 9 = .ok (.istore 6, 2) := by decide +kernel
theorem dX7_mostLeft_11 : decode cX7_mostLeft 11 = .ok (.iconst 0, 1) := by decide +kernel
theorem dX7_mostLeft_12 : decode cX7_mostLeft 12 = .ok (.istore 7, 2) := by decide +kernel
theorem dX7_mostLeft_14 : decode cX7_mostLeft 14 = .ok (.iload 7, 2) := by decide +kernel
theorem dX7_mostLeft_16 : decode cX7_mostLeft 16 = .ok (.bipush 100, 2) := by decide +kernel
theorem dX7_mostLeft_18 : decode cX7_mostLeft 18 = .ok (.if_icmp .ge 23, 3) := by decide +kernel
theorem dX7_mostLeft_21 : decode cX7_mostLeft 21 = .ok (.iload 6, 2) := by decide +kernel
theorem dX7_mostLeft_23 : decode cX7_mostLeft 23 = .ok (.aload_n 0, 1) := by decide +kernel
theorem dX7_mostLeft_24 : decode cX7_mostLeft 24 = .ok (.getfield 32, 3) := by decide +kernel
theorem dX7_mostLeft_27 : decode cX7_mostLeft 27 = .ok (.iload 7, 2) := by decide +kernel
theorem dX7_mostLeft_29 : decode cX7_mostLeft 29 = .ok (.iaload, 1) := by decide +kernel
theorem dX7_mostLeft_30 : decode cX7_mostLeft 30 = .ok (.invokestatic 139, 3) := by decide +kernel
theorem dX7_mostLeft_33 : decode cX7_mostLeft 33 = .ok (.istore 6, 2) := by decide +kernel
theorem dX7_mostLeft_35 : decode cX7_mostLeft 35 = .ok (.iinc 7 1, 3) := by decide +kernel
theorem dX7_mostLeft_38 : decode cX7_mostLeft 38 = .ok (.goto (-24), 3) := by decide +kernel
theorem dX7_mostLeft_41 : decode cX7_mostLeft 41 = .ok (.iload 6, 2) := by decide +kernel
theorem dX7_mostLeft_43 : decode cX7_mostLeft 43 = .ok (.ireturn, 1) := by decide +kernel
abbrev mX7_mostLeft : MD := (cX7_mostLeft, "BlottedDeed$Table", 8, 4, 100, (some .int), "mostLeft", [])
def bX7_mostLeft_0 (g : GE) (J : Nat → KT) : KT := i_aload 0 (i_iload 1 (i_lload 2 (i_lload 4 (i_cv fX7_tallyUp g 3 7 (i_push (.int 0) (i_istore 6 (i_push (.int 0) (i_istore 7 (i_jmp [true, false, false, false, false, false, true, true] (J 1))))))))))
def bX7_mostLeft_1 (g : GE) (J : Nat → KT) : KT := i_iload 7 (i_push (.int 100) (i_icge (i_iload 6 (i_ireturn)) (i_iload 6 (i_aload 0 (i_getf 7 8 (i_iload 7 (i_iaload (i_max (i_istore 6 (i_iinc 7 1 (i_jmp [true, false, false, false, false, false, true, true] (J 1))))))))))))
theorem sbX7_mostLeft_0 (g : GE) (J : Nat → KT) (h1 : Snd mX7_mostLeft g 14 (J 1)) : Snd mX7_mostLeft g 0 (bX7_mostLeft_0 g J) := by
  unfold bX7_mostLeft_0
  refine s_aload_n (pc := 0) (i := 0) ?_ dX7_mostLeft_0 rfl
  refine s_iload_n (pc := 1) (i := 1) ?_ dX7_mostLeft_1 rfl
  refine s_lload_n (pc := 2) (i := 2) ?_ dX7_mostLeft_2 rfl
  refine s_lload (pc := 3) (i := 4) ?_ dX7_mostLeft_3
  refine s_cv (pc := 5) (n := 3) (ci := 7) ?_ tX7_tallyUp rfl rfl wt_534 wt_536 wp_6 wt_8 wt_537 ⟨crX7_tallyUp, by decide, by decide⟩ dX7_mostLeft_5
  refine s_iconst (pc := 8) (v := 0) ?_ dX7_mostLeft_8 (by decide)
  refine s_istore (pc := 9) (i := 6) ?_ dX7_mostLeft_9 (by decide)
  refine s_iconst (pc := 11) (v := 0) ?_ dX7_mostLeft_11 (by decide)
  refine s_istore (pc := 12) (i := 7) ?_ dX7_mostLeft_12 (by decide)
  exact s_fall (pc := 14) h1
theorem sbX7_mostLeft_1 (g : GE) (J : Nat → KT) (h1 : Snd mX7_mostLeft g 14 (J 1)) : Snd mX7_mostLeft g 14 (bX7_mostLeft_1 g J) := by
  unfold bX7_mostLeft_1
  refine s_iload (pc := 14) (i := 7) ?_ dX7_mostLeft_14
  refine s_bipush (pc := 16) (v := 100) ?_ dX7_mostLeft_16 (by decide)
  refine s_icge (pc := 18) (tgt := 41) ?_ ?_ dX7_mostLeft_18 (by decide)
  · skip
    refine s_iload (pc := 41) (i := 6) ?_ dX7_mostLeft_41
    exact s_ireturn (pc := 43) rfl dX7_mostLeft_43
  · skip
    refine s_iload (pc := 21) (i := 6) ?_ dX7_mostLeft_21
    refine s_aload_n (pc := 23) (i := 0) ?_ dX7_mostLeft_23 rfl
    refine s_getf (pc := 24) (ci := 7) (f := 8) (T := TX7) ?_ ginX7 rfl (by decide) wt_348 dX7_mostLeft_24
    refine s_iload (pc := 27) (i := 7) ?_ dX7_mostLeft_27
    refine s_iaload (pc := 29) ?_ dX7_mostLeft_29
    refine s_max (pc := 30) ?_ wt_545 wt_546 wt_12 wt_547 (by decide) dX7_mostLeft_30
    refine s_istore (pc := 33) (i := 6) ?_ dX7_mostLeft_33 (by decide)
    refine s_iinc (pc := 35) (i := 7) (v := 1) ?_ dX7_mostLeft_35 (by decide) (by decide)
    exact s_goto (pc := 38) (tgt := 14) h1 dX7_mostLeft_38 (by decide)
def jX7_mostLeft (g : GE) : Nat → Nat → KT
  | 0, _ => fun _ _ _ => none
  | n + 1, 0 => bX7_mostLeft_0 g (jX7_mostLeft g n)
  | n + 1, 1 => bX7_mostLeft_1 g (jX7_mostLeft g n)
  | _ + 1, _ + 2 => fun _ _ _ => none
theorem sjX7_mostLeft (g : GE) : ∀ n, Snd mX7_mostLeft g 0 (jX7_mostLeft g n 0) ∧ Snd mX7_mostLeft g 14 (jX7_mostLeft g n 1)
  | 0 => ⟨s_none, s_none⟩
  | n + 1 => by
    obtain ⟨-, h1⟩ := sjX7_mostLeft g n
    exact ⟨sbX7_mostLeft_0 g _ h1, sbX7_mostLeft_1 g _ h1⟩
def kX7_mostLeft (g : GE) : KT := jX7_mostLeft g g.1 0
theorem sX7_mostLeft (g : GE) : Snd mX7_mostLeft g 0 (kX7_mostLeft g) := (sjX7_mostLeft g g.1).1
def fX7_mostLeft : FT := fun g av w => if (ent av).length ≤ 8 then kX7_mostLeft g [] (entp 8 av) w else none
theorem tX7_mostLeft : Mt yX7_mostLeft cX7_mostLeft 8 (some .int) 4 100 fX7_mostLeft := Mt.of (K := kX7_mostLeft) (by decide +kernel) (fun _ _ _ => rfl) sX7_mostLeft
theorem crX7_mostLeft : yX7_mostLeft.cls ≠ "java/lang/invoke/MethodHandle" ∧ yX7_mostLeft.cls ≠ "java/lang/invoke/VarHandle" ∧ (parseMethodDescriptor yX7_mostLeft.desc).map (fun d => d.parameters.length) = some 3 := by decide +kernel
theorem dX10_cleaned_0 : decode cX10_cleaned 0 = .ok (.aload_n 0, 1) := by decide +kernel
theorem dX10_cleaned_1 : decode cX10_cleaned 1 = .ok (.iload_n 1, 1) := by decide +kernel
theorem dX10_cleaned_2 : decode cX10_cleaned 2 = .ok (.invokevirtual 126, 3) := by decide +kernel
theorem dX10_cleaned_5 : decode cX10_cleaned 5 = .ok (.aload_n 0, 1) := by decide +kernel
theorem dX10_cleaned_6 : decode cX10_cleaned 6 = .ok (.getfield 37, 3) := by decide +kernel
theorem dX10_cleaned_9 : decode cX10_cleaned 9 = .ok (.iload_n 1, 1) := by decide +kernel
theorem dX10_cleaned_10 : decode cX10_cleaned 10 = .ok (.lconst 0, 1) := by decide +kernel
theorem dX10_cleaned_11 : decode cX10_cleaned 11 = .ok (.lconst 0, 1) := by decide +kernel
theorem dX10_cleaned_12 : decode cX10_cleaned 12 = .ok (.invokevirtual 196, 3) := by decide +kernel
theorem dX10_cleaned_15 : decode cX10_cleaned 15 = .ok (.ireturn, 1) := by decide +kernel
abbrev mX10_cleaned : MD := (cX10_cleaned, "BlottedDeed", 2, 7, 127, (some .int), "cleaned", [])
def bX10_cleaned_0 (g : GE) (J : Nat → KT) : KT := i_aload 0 (i_iload 1 (i_cvX fX10_needBlot g 1 9 (i_aload 0 (i_getf 9 5 (i_iload 1 (i_push (.long 0) (i_push (.long 0) (i_cv fX7_mostLeft g 3 7 (i_ireturn)))))))))
theorem sbX10_cleaned_0 (g : GE) (J : Nat → KT)  : Snd mX10_cleaned g 0 (bX10_cleaned_0 g J) := by
  unfold bX10_cleaned_0
  refine s_aload_n (pc := 0) (i := 0) ?_ dX10_cleaned_0 rfl
  refine s_iload_n (pc := 1) (i := 1) ?_ dX10_cleaned_1 rfl
  refine s_cvX (pc := 2) (n := 1) (ci := 9) ?_ tX10_needBlot rfl rfl wt_932 wt_934 wp_32 wt_1 wt_935 ⟨crX10_needBlot, by decide, by decide⟩ rfl dX10_cleaned_2
  refine s_aload_n (pc := 5) (i := 0) ?_ dX10_cleaned_5 rfl
  refine s_getf (pc := 6) (ci := 9) (f := 5) (T := TX10) ?_ ginX10 rfl (by decide) wt_459 dX10_cleaned_6
  refine s_iload_n (pc := 9) (i := 1) ?_ dX10_cleaned_9 rfl
  refine s_lconst (pc := 10) (v := 0) ?_ dX10_cleaned_10 (by decide)
  refine s_lconst (pc := 11) (v := 0) ?_ dX10_cleaned_11 (by decide)
  refine s_cv (pc := 12) (n := 3) (ci := 7) ?_ tX7_mostLeft rfl rfl wt_1088 wt_531 wt_532 wt_8 wt_533 ⟨crX7_mostLeft, by decide, by decide⟩ dX10_cleaned_12
  exact s_ireturn (pc := 15) rfl dX10_cleaned_15
def kX10_cleaned (g : GE) : KT := bX10_cleaned_0 g (fun _ _ _ _ => none)
theorem sX10_cleaned (g : GE) : Snd mX10_cleaned g 0 (kX10_cleaned g) := sbX10_cleaned_0 g _
def fX10_cleaned : FT := fun g av w => if (ent av).length ≤ 2 then kX10_cleaned g [] (entp 2 av) w else none
theorem tX10_cleaned : Mt yX10_cleaned cX10_cleaned 2 (some .int) 7 127 fX10_cleaned := Mt.of (K := kX10_cleaned) (by decide +kernel) (fun _ _ _ => rfl) sX10_cleaned
theorem crX10_cleaned : yX10_cleaned.cls ≠ "java/lang/invoke/MethodHandle" ∧ yX10_cleaned.cls ≠ "java/lang/invoke/VarHandle" ∧ (parseMethodDescriptor yX10_cleaned.desc).map (fun d => d.parameters.length) = some 1 := by decide +kernel
theorem dX10_needHeir_0 : decode cX10_needHeir 0 = .ok (.aload_n 0, 1) := by decide +kernel
theorem dX10_needHeir_1 : decode cX10_needHeir 1 = .ok (.iload_n 1, 1) := by decide +kernel
theorem dX10_needHeir_2 : decode cX10_needHeir 2 = .ok (.aload_n 0, 1) := by decide +kernel
theorem dX10_needHeir_3 : decode cX10_needHeir 3 = .ok (.getfield 16, 3) := by decide +kernel
theorem dX10_needHeir_6 : decode cX10_needHeir 6 = .ok (.getfield 108, 3) := by decide +kernel
theorem dX10_needHeir_9 : decode cX10_needHeir 9 = .ok (.invokevirtual 266, 3) := by decide +kernel
theorem dX10_needHeir_12 : decode cX10_needHeir 12 = .ok (.return_, 1) := by decide +kernel
abbrev mX10_needHeir : MD := (cX10_needHeir, "BlottedDeed", 2, 7, 122, none, "needHeir", [])
def bX10_needHeir_0 (g : GE) (J : Nat → KT) : KT := i_aload 0 (i_iload 1 (i_aload 0 (i_getf 9 3 (i_getf 2 9 (i_cvX fX10_needIndex g 2 9 (i_return))))))
theorem sbX10_needHeir_0 (g : GE) (J : Nat → KT)  : Snd mX10_needHeir g 0 (bX10_needHeir_0 g J) := by
  unfold bX10_needHeir_0
  refine s_aload_n (pc := 0) (i := 0) ?_ dX10_needHeir_0 rfl
  refine s_iload_n (pc := 1) (i := 1) ?_ dX10_needHeir_1 rfl
  refine s_aload_n (pc := 2) (i := 0) ?_ dX10_needHeir_2 rfl
  refine s_getf (pc := 3) (ci := 9) (f := 3) (T := TX10) ?_ ginX10 rfl (by decide) wt_457 dX10_needHeir_3
  refine s_getf (pc := 6) (ci := 2) (f := 9) (T := TX2) ?_ ginX2 rfl (by decide) wt_131 dX10_needHeir_6
  refine s_cvX (pc := 9) (n := 2) (ci := 9) ?_ tX10_needIndex rfl rfl wt_971 wt_973 wp_34 wt_1 wt_974 ⟨crX10_needIndex, by decide, by decide⟩ rfl dX10_needHeir_9
  exact s_return (pc := 12) rfl dX10_needHeir_12
def kX10_needHeir (g : GE) : KT := bX10_needHeir_0 g (fun _ _ _ _ => none)
theorem sX10_needHeir (g : GE) : Snd mX10_needHeir g 0 (kX10_needHeir g) := sbX10_needHeir_0 g _
def fX10_needHeir : FT := fun g av w => if (ent av).length ≤ 2 then kX10_needHeir g [] (entp 2 av) w else none
theorem tX10_needHeir : Mt yX10_needHeir cX10_needHeir 2 none 7 122 fX10_needHeir := Mt.of (K := kX10_needHeir) (by decide +kernel) (fun _ _ _ => rfl) sX10_needHeir
theorem crX10_needHeir : yX10_needHeir.cls ≠ "java/lang/invoke/MethodHandle" ∧ yX10_needHeir.cls ≠ "java/lang/invoke/VarHandle" ∧ (parseMethodDescriptor yX10_needHeir.desc).map (fun d => d.parameters.length) = some 1 := by decide +kernel
theorem dX7_coinOf_0 : decode cX7_coinOf 0 = .ok (.aload_n 0, 1) := by decide +kernel
theorem dX7_coinOf_1 : decode cX7_coinOf 1 = .ok (.getfield 15, 3) := by decide +kernel
theorem dX7_coinOf_4 : decode cX7_coinOf 4 = .ok (.iload_n 1, 1) := by decide +kernel
theorem dX7_coinOf_5 : decode cX7_coinOf 5 = .ok (.laload, 1) := by decide +kernel
theorem dX7_coinOf_6 : decode cX7_coinOf 6 = .ok (.bipush 10, 2) := by decide +kernel
theorem dX7_coinOf_8 : decode cX7_coinOf 8 = .ok (.iload_n 2, 1) := by decide +kernel
theorem dX7_coinOf_9 : decode cX7_coinOf 9 = .ok (.imul, 1) := by decide +kernel
theorem dX7_coinOf_10 : decode cX7_coinOf 10 = .ok (.lushr, 1) := by decide +kernel
theorem dX7_coinOf_11 : decode cX7_coinOf 11 = .ok (.l2i, 1) := by decide +kernel
theorem dX7_coinOf_12 : decode cX7_coinOf 12 = .ok (.sipush 1023, 3) := by decide +kernel
theorem dX7_coinOf_15 : decode cX7_coinOf 15 = .ok (.iand, 1) := by decide +kernel
theorem dX7_coinOf_16 : decode cX7_coinOf 16 = .ok (.ireturn, 1) := by decide +kernel
abbrev mX7_coinOf : MD := (cX7_coinOf, "BlottedDeed$Table", 3, 1, 30, (some .int), "coinOf", [])
def bX7_coinOf_0 (g : GE) (J : Nat → KT) : KT := i_aload 0 (i_getf 7 1 (i_iload 1 (i_laload (i_push (.int 10) (i_iload 2 (i_imul (i_lushr (i_l2i (i_push (.int 1023) (i_iand (i_ireturn)))))))))))
theorem sbX7_coinOf_0 (g : GE) (J : Nat → KT)  : Snd mX7_coinOf g 0 (bX7_coinOf_0 g J) := by
  unfold bX7_coinOf_0
  refine s_aload_n (pc := 0) (i := 0) ?_ dX7_coinOf_0 rfl
  refine s_getf (pc := 1) (ci := 7) (f := 1) (T := TX7) ?_ ginX7 rfl (by decide) wt_338 dX7_coinOf_1
  refine s_iload_n (pc := 4) (i := 1) ?_ dX7_coinOf_4 rfl
  refine s_laload (pc := 5) ?_ dX7_coinOf_5
  refine s_bipush (pc := 6) (v := 10) ?_ dX7_coinOf_6 (by decide)
  refine s_iload_n (pc := 8) (i := 2) ?_ dX7_coinOf_8 rfl
  refine s_imul (pc := 9) ?_ dX7_coinOf_9
  refine s_lushr (pc := 10) ?_ dX7_coinOf_10
  refine s_l2i (pc := 11) ?_ dX7_coinOf_11
  refine s_sipush (pc := 12) (v := 1023) ?_ dX7_coinOf_12 (by decide)
  refine s_iand (pc := 15) ?_ dX7_coinOf_15
  exact s_ireturn (pc := 16) rfl dX7_coinOf_16
def kX7_coinOf (g : GE) : KT := bX7_coinOf_0 g (fun _ _ _ _ => none)
theorem sX7_coinOf (g : GE) : Snd mX7_coinOf g 0 (kX7_coinOf g) := sbX7_coinOf_0 g _
def fX7_coinOf : FT := fun g av w => if (ent av).length ≤ 3 then kX7_coinOf g [] (entp 3 av) w else none
theorem tX7_coinOf : Mt yX7_coinOf cX7_coinOf 3 (some .int) 1 30 fX7_coinOf := Mt.of (K := kX7_coinOf) (by decide +kernel) (fun _ _ _ => rfl) sX7_coinOf
theorem crX7_coinOf : yX7_coinOf.cls ≠ "java/lang/invoke/MethodHandle" ∧ yX7_coinOf.cls ≠ "java/lang/invoke/VarHandle" ∧ (parseMethodDescriptor yX7_coinOf.desc).map (fun d => d.parameters.length) = some 2 := by decide +kernel
theorem dX7_leastCoin_0 : decode cX7_leastCoin 0 = .ok (.iconst (-1), 1) := by decide +kernel
theorem dX7_leastCoin_1 : decode cX7_leastCoin 1 = .ok (.istore_n 2, 1) := by decide +kernel
theorem dX7_leastCoin_2 : decode cX7_leastCoin 2 = .ok (.iconst 0, 1) := by decide +kernel
theorem dX7_leastCoin_3 : decode cX7_leastCoin 3 = .ok (.istore_n 3, 1) := by decide +kernel
theorem dX7_leastCoin_4 : decode cX7_leastCoin 4 = .ok (.iload_n 3, 1) := by decide +kernel
theorem dX7_leastCoin_5 : decode cX7_leastCoin 5 = .ok (.aload_n 0, 1) := by decide +kernel
theorem dX7_leastCoin_6 : decode cX7_leastCoin 6 = .ok (.getfield 53, 3) := by decide +kernel
theorem dX7_leastCoin_9 : decode cX7_leastCoin 9 = .ok (.if_icmp .ge 34, 3) := by decide +kernel
theorem dX7_leastCoin_12 : decode cX7_leastCoin 12 = .ok (.aload_n 0, 1) := by decide +kernel
theorem dX7_leastCoin_13 : decode cX7_leastCoin 13 = .ok (.iload_n 3, 1) := by decide +kernel
theorem dX7_leastCoin_14 : decode cX7_leastCoin 14 = .ok (.iload_n 1, 1) := by decide +kernel
theorem dX7_leastCoin_15 : decode cX7_leastCoin 15 = .ok (.invokevirtual 124, 3) := by decide +kernel
theorem dX7_leastCoin_18 : decode cX7_leastCoin 18 = .ok (.istore 4, 2) := by decide +kernel
theorem dX7_leastCoin_20 : decode cX7_leastCoin 20 = .ok (.iload_n 2, 1) := by decide +kernel
theorem dX7_leastCoin_21 : decode cX7_leastCoin 21 = .ok (.iconst (-1), 1) := by decide +kernel
theorem dX7_leastCoin_22 : decode cX7_leastCoin 22 = .ok (.if_icmp .ne 8, 3) := by decide +kernel
theorem dX7_leastCoin_25 : decode cX7_leastCoin 25 = .ok (.iload 4, 2) := by decide +kernel
theorem dX7_leastCoin_27 : decode cX7_leastCoin 27 = .ok (.goto 9, 3) := by decide +kernel
theorem dX7_leastCoin_30 : decode cX7_leastCoin 30 = .ok (.iload_n 2, 1) := by decide +kernel
theorem dX7_leastCoin_31 : decode cX7_leastCoin 31 = .ok (.iload 4, 2) := by decide +kernel
theorem dX7_leastCoin_33 : decode cX7_leastCoin 33 = .ok (.invokestatic 101, 3) := by decide +kernel
theorem dX7_leastCoin_36 : decode cX7_leastCoin 36 = .ok (.istore_n 2, 1) := by decide +kernel
theorem dX7_leastCoin_37 : decode cX7_leastCoin 37 = .ok (.iinc 3 1, 3) := by decide +kernel
theorem dX7_leastCoin_40 : decode cX7_leastCoin 40 = .ok (.goto (-36), 3) := by decide +kernel
theorem dX7_leastCoin_43 : decode cX7_leastCoin 43 = .ok (.iload_n 2, 1) := by decide +kernel
theorem dX7_leastCoin_44 : decode cX7_leastCoin 44 = .ok (.ireturn, 1) := by decide +kernel
abbrev mX7_leastCoin : MD := (cX7_leastCoin, "BlottedDeed$Table", 5, 2, 52, (some .int), "leastCoin", [])
def bX7_leastCoin_0 (g : GE) (J : Nat → KT) : KT := i_push (.int (-1)) (i_istore 2 (i_push (.int 0) (i_istore 3 (i_jmp [true, true, true, true, false] (J 1)))))
def bX7_leastCoin_1 (g : GE) (J : Nat → KT) : KT := i_iload 3 (i_aload 0 (i_getf 7 2 (i_icge (i_iload 2 (i_ireturn)) (i_aload 0 (i_iload 3 (i_iload 1 (i_cv fX7_coinOf g 2 7 (i_istore 4 (i_iload 2 (i_push (.int (-1)) (i_icne (i_iload 2 (i_iload 4 (i_min (i_jmp [true, true, false, true, false] (J 2))))) (i_iload 4 (i_jmp [true, true, false, true, false] (J 2))))))))))))))
def bX7_leastCoin_2 (g : GE) (J : Nat → KT) : KT := i_istore 2 (i_iinc 3 1 (i_jmp [true, true, true, true, false] (J 1)))
theorem sbX7_leastCoin_0 (g : GE) (J : Nat → KT) (h1 : Snd mX7_leastCoin g 4 (J 1)) (h2 : Snd mX7_leastCoin g 36 (J 2)) : Snd mX7_leastCoin g 0 (bX7_leastCoin_0 g J) := by
  unfold bX7_leastCoin_0
  refine s_iconst (pc := 0) (v := (-1)) ?_ dX7_leastCoin_0 (by decide)
  refine s_istore_n (pc := 1) (i := 2) ?_ dX7_leastCoin_1 rfl (by decide)
  refine s_iconst (pc := 2) (v := 0) ?_ dX7_leastCoin_2 (by decide)
  refine s_istore_n (pc := 3) (i := 3) ?_ dX7_leastCoin_3 rfl (by decide)
  exact s_fall (pc := 4) h1
theorem sbX7_leastCoin_1 (g : GE) (J : Nat → KT) (h1 : Snd mX7_leastCoin g 4 (J 1)) (h2 : Snd mX7_leastCoin g 36 (J 2)) : Snd mX7_leastCoin g 4 (bX7_leastCoin_1 g J) := by
  unfold bX7_leastCoin_1
  refine s_iload_n (pc := 4) (i := 3) ?_ dX7_leastCoin_4 rfl
  refine s_aload_n (pc := 5) (i := 0) ?_ dX7_leastCoin_5 rfl
  refine s_getf (pc := 6) (ci := 7) (f := 2) (T := TX7) ?_ ginX7 rfl (by decide) wt_339 dX7_leastCoin_6
  refine s_icge (pc := 9) (tgt := 43) ?_ ?_ dX7_leastCoin_9 (by decide)
  · skip
    refine s_iload_n (pc := 43) (i := 2) ?_ dX7_leastCoin_43 rfl
    exact s_ireturn (pc := 44) rfl dX7_leastCoin_44
  · skip
    refine s_aload_n (pc := 12) (i := 0) ?_ dX7_leastCoin_12 rfl
    refine s_iload_n (pc := 13) (i := 3) ?_ dX7_leastCoin_13 rfl
    refine s_iload_n (pc := 14) (i := 1) ?_ dX7_leastCoin_14 rfl
    refine s_cv (pc := 15) (n := 2) (ci := 7) ?_ tX7_coinOf rfl rfl wt_1022 wt_1015 wt_1016 wt_8 wt_1017 ⟨crX7_coinOf, by decide, by decide⟩ dX7_leastCoin_15
    refine s_istore (pc := 18) (i := 4) ?_ dX7_leastCoin_18 (by decide)
    refine s_iload_n (pc := 20) (i := 2) ?_ dX7_leastCoin_20 rfl
    refine s_iconst (pc := 21) (v := (-1)) ?_ dX7_leastCoin_21 (by decide)
    refine s_icne (pc := 22) (tgt := 30) ?_ ?_ dX7_leastCoin_22 (by decide)
    · skip
      refine s_iload_n (pc := 30) (i := 2) ?_ dX7_leastCoin_30 rfl
      refine s_iload (pc := 31) (i := 4) ?_ dX7_leastCoin_31
      refine s_min (pc := 33) ?_ wt_299 wt_300 wt_12 wt_301 (by decide) dX7_leastCoin_33
      exact s_fall (pc := 36) h2
    · skip
      refine s_iload (pc := 25) (i := 4) ?_ dX7_leastCoin_25
      exact s_goto (pc := 27) (tgt := 36) h2 dX7_leastCoin_27 (by decide)
theorem sbX7_leastCoin_2 (g : GE) (J : Nat → KT) (h1 : Snd mX7_leastCoin g 4 (J 1)) (h2 : Snd mX7_leastCoin g 36 (J 2)) : Snd mX7_leastCoin g 36 (bX7_leastCoin_2 g J) := by
  unfold bX7_leastCoin_2
  refine s_istore_n (pc := 36) (i := 2) ?_ dX7_leastCoin_36 rfl (by decide)
  refine s_iinc (pc := 37) (i := 3) (v := 1) ?_ dX7_leastCoin_37 (by decide) (by decide)
  exact s_goto (pc := 40) (tgt := 4) h1 dX7_leastCoin_40 (by decide)
def jX7_leastCoin (g : GE) : Nat → Nat → KT
  | 0, _ => fun _ _ _ => none
  | n + 1, 0 => bX7_leastCoin_0 g (jX7_leastCoin g n)
  | n + 1, 1 => bX7_leastCoin_1 g (jX7_leastCoin g n)
  | n + 1, 2 => bX7_leastCoin_2 g (jX7_leastCoin g n)
  | _ + 1, _ + 3 => fun _ _ _ => none
theorem sjX7_leastCoin (g : GE) : ∀ n, Snd mX7_leastCoin g 0 (jX7_leastCoin g n 0) ∧ Snd mX7_leastCoin g 4 (jX7_leastCoin g n 1) ∧ Snd mX7_leastCoin g 36 (jX7_leastCoin g n 2)
  | 0 => ⟨s_none, s_none, s_none⟩
  | n + 1 => by
    obtain ⟨-, h1, h2⟩ := sjX7_leastCoin g n
    exact ⟨sbX7_leastCoin_0 g _ h1 h2, sbX7_leastCoin_1 g _ h1 h2, sbX7_leastCoin_2 g _ h1 h2⟩
def kX7_leastCoin (g : GE) : KT := jX7_leastCoin g g.1 0
theorem sX7_leastCoin (g : GE) : Snd mX7_leastCoin g 0 (kX7_leastCoin g) := (sjX7_leastCoin g g.1).1
def fX7_leastCoin : FT := fun g av w => if (ent av).length ≤ 5 then kX7_leastCoin g [] (entp 5 av) w else none
theorem tX7_leastCoin : Mt yX7_leastCoin cX7_leastCoin 5 (some .int) 2 52 fX7_leastCoin := Mt.of (K := kX7_leastCoin) (by decide +kernel) (fun _ _ _ => rfl) sX7_leastCoin
theorem crX7_leastCoin : yX7_leastCoin.cls ≠ "java/lang/invoke/MethodHandle" ∧ yX7_leastCoin.cls ≠ "java/lang/invoke/VarHandle" ∧ (parseMethodDescriptor yX7_leastCoin.desc).map (fun d => d.parameters.length) = some 1 := by decide +kernel
theorem dX7_mostCoin_0 : decode cX7_mostCoin 0 = .ok (.iconst (-1), 1) := by decide +kernel
theorem dX7_mostCoin_1 : decode cX7_mostCoin 1 = .ok (.istore_n 2, 1) := by decide +kernel
theorem dX7_mostCoin_2 : decode cX7_mostCoin 2 = .ok (.iconst 0, 1) := by decide +kernel
theorem dX7_mostCoin_3 : decode cX7_mostCoin 3 = .ok (.istore_n 3, 1) := by decide +kernel
theorem dX7_mostCoin_4 : decode cX7_mostCoin 4 = .ok (.iload_n 3, 1) := by decide +kernel
theorem dX7_mostCoin_5 : decode cX7_mostCoin 5 = .ok (.aload_n 0, 1) := by decide +kernel
theorem dX7_mostCoin_6 : decode cX7_mostCoin 6 = .ok (.getfield 53, 3) := by decide +kernel
theorem dX7_mostCoin_9 : decode cX7_mostCoin 9 = .ok (.if_icmp .ge 20, 3) := by decide +kernel
theorem dX7_mostCoin_12 : decode cX7_mostCoin 12 = .ok (.iload_n 2, 1) := by decide +kernel
theorem dX7_mostCoin_13 : decode cX7_mostCoin 13 = .ok (.aload_n 0, 1) := by decide +kernel
theorem dX7_mostCoin_14 : decode cX7_mostCoin 14 = .ok (.iload_n 3, 1) := by decide +kernel
theorem dX7_mostCoin_15 : decode cX7_mostCoin 15 = .ok (.iload_n 1, 1) := by decide +kernel
theorem dX7_mostCoin_16 : decode cX7_mostCoin 16 = .ok (.invokevirtual 124, 3) := by decide +kernel
theorem dX7_mostCoin_19 : decode cX7_mostCoin 19 = .ok (.invokestatic 139, 3) := by decide +kernel
theorem dX7_mostCoin_22 : decode cX7_mostCoin 22 = .ok (.istore_n 2, 1) := by decide +kernel
theorem dX7_mostCoin_23 : decode cX7_mostCoin 23 = .ok (.iinc 3 1, 3) := by decide +kernel
theorem dX7_mostCoin_26 : decode cX7_mostCoin 26 = .ok (.goto (-22), 3) := by decide +kernel
theorem dX7_mostCoin_29 : decode cX7_mostCoin 29 = .ok (.iload_n 2, 1) := by decide +kernel
theorem dX7_mostCoin_30 : decode cX7_mostCoin 30 = .ok (.ireturn, 1) := by decide +kernel
abbrev mX7_mostCoin : MD := (cX7_mostCoin, "BlottedDeed$Table", 4, 2, 52, (some .int), "mostCoin", [])
def bX7_mostCoin_0 (g : GE) (J : Nat → KT) : KT := i_push (.int (-1)) (i_istore 2 (i_push (.int 0) (i_istore 3 (i_jmp [true, true, true, true] (J 1)))))
def bX7_mostCoin_1 (g : GE) (J : Nat → KT) : KT := i_iload 3 (i_aload 0 (i_getf 7 2 (i_icge (i_iload 2 (i_ireturn)) (i_iload 2 (i_aload 0 (i_iload 3 (i_iload 1 (i_cv fX7_coinOf g 2 7 (i_max (i_istore 2 (i_iinc 3 1 (i_jmp [true, true, true, true] (J 1)))))))))))))
theorem sbX7_mostCoin_0 (g : GE) (J : Nat → KT) (h1 : Snd mX7_mostCoin g 4 (J 1)) : Snd mX7_mostCoin g 0 (bX7_mostCoin_0 g J) := by
  unfold bX7_mostCoin_0
  refine s_iconst (pc := 0) (v := (-1)) ?_ dX7_mostCoin_0 (by decide)
  refine s_istore_n (pc := 1) (i := 2) ?_ dX7_mostCoin_1 rfl (by decide)
  refine s_iconst (pc := 2) (v := 0) ?_ dX7_mostCoin_2 (by decide)
  refine s_istore_n (pc := 3) (i := 3) ?_ dX7_mostCoin_3 rfl (by decide)
  exact s_fall (pc := 4) h1
theorem sbX7_mostCoin_1 (g : GE) (J : Nat → KT) (h1 : Snd mX7_mostCoin g 4 (J 1)) : Snd mX7_mostCoin g 4 (bX7_mostCoin_1 g J) := by
  unfold bX7_mostCoin_1
  refine s_iload_n (pc := 4) (i := 3) ?_ dX7_mostCoin_4 rfl
  refine s_aload_n (pc := 5) (i := 0) ?_ dX7_mostCoin_5 rfl
  refine s_getf (pc := 6) (ci := 7) (f := 2) (T := TX7) ?_ ginX7 rfl (by decide) wt_339 dX7_mostCoin_6
  refine s_icge (pc := 9) (tgt := 29) ?_ ?_ dX7_mostCoin_9 (by decide)
  · skip
    refine s_iload_n (pc := 29) (i := 2) ?_ dX7_mostCoin_29 rfl
    exact s_ireturn (pc := 30) rfl dX7_mostCoin_30
  · skip
    refine s_iload_n (pc := 12) (i := 2) ?_ dX7_mostCoin_12 rfl
    refine s_aload_n (pc := 13) (i := 0) ?_ dX7_mostCoin_13 rfl
    refine s_iload_n (pc := 14) (i := 3) ?_ dX7_mostCoin_14 rfl
    refine s_iload_n (pc := 15) (i := 1) ?_ dX7_mostCoin_15 rfl
    refine s_cv (pc := 16) (n := 2) (ci := 7) ?_ tX7_coinOf rfl rfl wt_1022 wt_1015 wt_1016 wt_8 wt_1017 ⟨crX7_coinOf, by decide, by decide⟩ dX7_mostCoin_16
    refine s_max (pc := 19) ?_ wt_545 wt_546 wt_12 wt_547 (by decide) dX7_mostCoin_19
    refine s_istore_n (pc := 22) (i := 2) ?_ dX7_mostCoin_22 rfl (by decide)
    refine s_iinc (pc := 23) (i := 3) (v := 1) ?_ dX7_mostCoin_23 (by decide) (by decide)
    exact s_goto (pc := 26) (tgt := 4) h1 dX7_mostCoin_26 (by decide)
def jX7_mostCoin (g : GE) : Nat → Nat → KT
  | 0, _ => fun _ _ _ => none
  | n + 1, 0 => bX7_mostCoin_0 g (jX7_mostCoin g n)
  | n + 1, 1 => bX7_mostCoin_1 g (jX7_mostCoin g n)
  | _ + 1, _ + 2 => fun _ _ _ => none
theorem sjX7_mostCoin (g : GE) : ∀ n, Snd mX7_mostCoin g 0 (jX7_mostCoin g n 0) ∧ Snd mX7_mostCoin g 4 (jX7_mostCoin g n 1)
  | 0 => ⟨s_none, s_none⟩
  | n + 1 => by
    obtain ⟨-, h1⟩ := sjX7_mostCoin g n
    exact ⟨sbX7_mostCoin_0 g _ h1, sbX7_mostCoin_1 g _ h1⟩
def kX7_mostCoin (g : GE) : KT := jX7_mostCoin g g.1 0
theorem sX7_mostCoin (g : GE) : Snd mX7_mostCoin g 0 (kX7_mostCoin g) := (sjX7_mostCoin g g.1).1
def fX7_mostCoin : FT := fun g av w => if (ent av).length ≤ 4 then kX7_mostCoin g [] (entp 4 av) w else none
theorem tX7_mostCoin : Mt yX7_mostCoin cX7_mostCoin 4 (some .int) 2 52 fX7_mostCoin := Mt.of (K := kX7_mostCoin) (by decide +kernel) (fun _ _ _ => rfl) sX7_mostCoin
theorem crX7_mostCoin : yX7_mostCoin.cls ≠ "java/lang/invoke/MethodHandle" ∧ yX7_mostCoin.cls ≠ "java/lang/invoke/VarHandle" ∧ (parseMethodDescriptor yX7_mostCoin.desc).map (fun d => d.parameters.length) = some 1 := by decide +kernel
theorem dX10_coin_0 : decode cX10_coin 0 = .ok (.aload_n 0, 1) := by decide +kernel
theorem dX10_coin_1 : decode cX10_coin 1 = .ok (.iload_n 1, 1) := by decide +kernel
theorem dX10_coin_2 : decode cX10_coin 2 = .ok (.invokevirtual 166, 3) := by decide +kernel
theorem dX10_coin_5 : decode cX10_coin 5 = .ok (.aload_n 0, 1) := by decide +kernel
theorem dX10_coin_6 : decode cX10_coin 6 = .ok (.iload_n 2, 1) := by decide +kernel
theorem dX10_coin_7 : decode cX10_coin 7 = .ok (.iconst 1, 1) := by decide +kernel
theorem dX10_coin_8 : decode cX10_coin 8 = .ok (.invokevirtual 104, 3) := by decide +kernel
theorem dX10_coin_11 : decode cX10_coin 11 = .ok (.iload_n 2, 1) := by decide +kernel
theorem dX10_coin_12 : decode cX10_coin 12 = .ok (.ifCond .ne 14, 3) := by decide +kernel
theorem dX10_coin_15 : decode cX10_coin 15 = .ok (.aload_n 0, 1) := by decide +kernel
theorem dX10_coin_16 : decode cX10_coin 16 = .ok (.getfield 37, 3) := by decide +kernel
theorem dX10_coin_19 : decode cX10_coin 19 = .ok (.iload_n 1, 1) := by decide +kernel
theorem dX10_coin_20 : decode cX10_coin 20 = .ok (.invokevirtual 184, 3) := by decide +kernel
theorem dX10_coin_23 : decode cX10_coin 23 = .ok (.goto 11, 3) := by decide +kernel
theorem dX10_coin_26 : decode cX10_coin 26 = .ok (.aload_n 0, 1) := by decide +kernel
theorem dX10_coin_27 : decode cX10_coin 27 = .ok (.getfield 37, 3) := by decide +kernel
theorem dX10_coin_30 : decode cX10_coin 30 = .ok (.iload_n 1, 1) := by decide +kernel
theorem dX10_coin_31 : decode cX10_coin 31 = .ok (.invokevirtual 187, 3) := by decide +kernel
theorem dX10_coin_34 : decode cX10_coin 34 = .ok (.ireturn, 1) := by decide +kernel
abbrev mX10_coin : MD := (cX10_coin, "BlottedDeed", 3, 8, 143, (some .int), "coin", [])
def bX10_coin_0 (g : GE) (J : Nat → KT) : KT := i_aload 0 (i_iload 1 (i_cvX fX10_needHeir g 1 9 (i_aload 0 (i_iload 2 (i_push (.int 1) (i_cvX fX10_needWhat g 2 9 (i_iload 2 (i_ifne (i_aload 0 (i_getf 9 5 (i_iload 1 (i_cv fX7_mostCoin g 1 7 (i_jmp [false, false, false] (J 1)))))) (i_aload 0 (i_getf 9 5 (i_iload 1 (i_cv fX7_leastCoin g 1 7 (i_jmp [false, false, false] (J 1))))))))))))))
def bX10_coin_1 (g : GE) (J : Nat → KT) : KT := i_ireturn
theorem sbX10_coin_0 (g : GE) (J : Nat → KT) (h1 : Snd mX10_coin g 34 (J 1)) : Snd mX10_coin g 0 (bX10_coin_0 g J) := by
  unfold bX10_coin_0
  refine s_aload_n (pc := 0) (i := 0) ?_ dX10_coin_0 rfl
  refine s_iload_n (pc := 1) (i := 1) ?_ dX10_coin_1 rfl
  refine s_cvX (pc := 2) (n := 1) (ci := 9) ?_ tX10_needHeir rfl rfl wt_1010 wt_1012 wp_35 wt_1 wt_1013 ⟨crX10_needHeir, by decide, by decide⟩ rfl dX10_coin_2
  refine s_aload_n (pc := 5) (i := 0) ?_ dX10_coin_5 rfl
  refine s_iload_n (pc := 6) (i := 2) ?_ dX10_coin_6 rfl
  refine s_iconst (pc := 7) (v := 1) ?_ dX10_coin_7 (by decide)
  refine s_cvX (pc := 8) (n := 2) (ci := 9) ?_ tX10_needWhat rfl rfl wt_920 wt_922 wp_31 wt_1 wt_923 ⟨crX10_needWhat, by decide, by decide⟩ rfl dX10_coin_8
  refine s_iload_n (pc := 11) (i := 2) ?_ dX10_coin_11 rfl
  refine s_ifne (pc := 12) (tgt := 26) ?_ ?_ dX10_coin_12 (by decide)
  · skip
    refine s_aload_n (pc := 26) (i := 0) ?_ dX10_coin_26 rfl
    refine s_getf (pc := 27) (ci := 9) (f := 5) (T := TX10) ?_ ginX10 rfl (by decide) wt_459 dX10_coin_27
    refine s_iload_n (pc := 30) (i := 1) ?_ dX10_coin_30 rfl
    refine s_cv (pc := 31) (n := 1) (ci := 7) ?_ tX7_mostCoin rfl rfl wt_1061 wt_1062 wt_1063 wt_8 wt_1064 ⟨crX7_mostCoin, by decide, by decide⟩ dX10_coin_31
    exact s_fall (pc := 34) h1
  · skip
    refine s_aload_n (pc := 15) (i := 0) ?_ dX10_coin_15 rfl
    refine s_getf (pc := 16) (ci := 9) (f := 5) (T := TX10) ?_ ginX10 rfl (by decide) wt_459 dX10_coin_16
    refine s_iload_n (pc := 19) (i := 1) ?_ dX10_coin_19 rfl
    refine s_cv (pc := 20) (n := 1) (ci := 7) ?_ tX7_leastCoin rfl rfl wt_1057 wt_1058 wt_1059 wt_8 wt_1060 ⟨crX7_leastCoin, by decide, by decide⟩ dX10_coin_20
    exact s_goto (pc := 23) (tgt := 34) h1 dX10_coin_23 (by decide)
theorem sbX10_coin_1 (g : GE) (J : Nat → KT) (h1 : Snd mX10_coin g 34 (J 1)) : Snd mX10_coin g 34 (bX10_coin_1 g J) := by
  unfold bX10_coin_1
  exact s_ireturn (pc := 34) rfl dX10_coin_34
def jX10_coin (g : GE) : Nat → Nat → KT
  | 0, _ => fun _ _ _ => none
  | n + 1, 0 => bX10_coin_0 g (jX10_coin g n)
  | n + 1, 1 => bX10_coin_1 g (jX10_coin g n)
  | _ + 1, _ + 2 => fun _ _ _ => none
theorem sjX10_coin (g : GE) : ∀ n, Snd mX10_coin g 0 (jX10_coin g n 0) ∧ Snd mX10_coin g 34 (jX10_coin g n 1)
  | 0 => ⟨s_none, s_none⟩
  | n + 1 => by
    obtain ⟨-, h1⟩ := sjX10_coin g n
    exact ⟨sbX10_coin_0 g _ h1, sbX10_coin_1 g _ h1⟩
def kX10_coin (g : GE) : KT := jX10_coin g g.1 0
theorem sX10_coin (g : GE) : Snd mX10_coin g 0 (kX10_coin g) := (sjX10_coin g g.1).1
def fX10_coin : FT := fun g av w => if (ent av).length ≤ 3 then kX10_coin g [] (entp 3 av) w else none
theorem tX10_coin : Mt yX10_coin cX10_coin 3 (some .int) 8 143 fX10_coin := Mt.of (K := kX10_coin) (by decide +kernel) (fun _ _ _ => rfl) sX10_coin
theorem crX10_coin : yX10_coin.cls ≠ "java/lang/invoke/MethodHandle" ∧ yX10_coin.cls ≠ "java/lang/invoke/VarHandle" ∧ (parseMethodDescriptor yX10_coin.desc).map (fun d => d.parameters.length) = some 2 := by decide +kernel
theorem dX10_commonDivisor_0 : decode cX10_commonDivisor 0 = .ok (.iconst 0, 1) := by decide +kernel
theorem dX10_commonDivisor_1 : decode cX10_commonDivisor 1 = .ok (.istore 4, 2) := by decide +kernel
theorem dX10_commonDivisor_3 : decode cX10_commonDivisor 3 = .ok (.iload 4, 2) := by decide +kernel
theorem dX10_commonDivisor_5 : decode cX10_commonDivisor 5 = .ok (.sipush 200, 3) := by decide +kernel
theorem dX10_commonDivisor_8 : decode cX10_commonDivisor 8 = .ok (.if_icmp .ge 25, 3) := by decide +kernel
theorem dX10_commonDivisor_11 : decode cX10_commonDivisor 11 = .ok (.lload_n 2, 1) := by decide +kernel
theorem dX10_commonDivisor_12 : decode cX10_commonDivisor 12 = .ok (.lconst 0, 1) := by decide +kernel
theorem dX10_commonDivisor_13 : decode cX10_commonDivisor 13 = .ok (.lcmp, 1) := by decide +kernel
theorem dX10_commonDivisor_14 : decode cX10_commonDivisor 14 = .ok (.ifCond .eq 19, 3) := by decide +kernel
theorem dX10_commonDivisor_17 : decode cX10_commonDivisor 17 = .ok (.lload_n 0, 1) := by decide +kernel
theorem dX10_commonDivisor_18 : decode cX10_commonDivisor 18 = .ok (.lload_n 2, 1) := by decide +kernel
theorem dX10_commonDivisor_19 : decode cX10_commonDivisor 19 = .ok (.lrem, 1) := by decide +kernel
theorem dX10_commonDivisor_20 : decode cX10_commonDivisor 20 = .ok (.lstore 5, 2) := by decide +kernel
theorem dX10_commonDivisor_22 : decode cX10_commonDivisor 22 = .ok (.lload_n 2, 1) := by decide +kernel
theorem dX10_commonDivisor_23 : decode cX10_commonDivisor 23 = .ok (.lstore_n 0, 1) := by decide +kernel
theorem dX10_commonDivisor_24 : decode cX10_commonDivisor 24 = .ok (.lload 5, 2) := by decide +kernel
theorem dX10_commonDivisor_26 : decode cX10_commonDivisor 26 = .ok (.lstore_n 2, 1) := by decide +kernel
theorem dX10_commonDivisor_27 : decode cX10_commonDivisor 27 = .ok (.iinc 4 1, 3) := by decide +kernel
theorem dX10_commonDivisor_30 : decode cX10_commonDivisor 30 = .ok (.goto (-27), 3) := by decide +kernel
theorem dX10_commonDivisor_33 : decode cX10_commonDivisor 33 = .ok (.lload_n 0, 1) := by decide +kernel
theorem dX10_commonDivisor_34 : decode cX10_commonDivisor 34 = .ok (.lreturn, 1) := by decide +kernel
abbrev mX10_commonDivisor : MD := (cX10_commonDivisor, "BlottedDeed", 7, 1, 30, (some .long), "commonDivisor", [])
def bX10_commonDivisor_0 (g : GE) (J : Nat → KT) : KT := i_push (.int 0) (i_istore 4 (i_jmp [true, false, true, false, true, false, false] (J 1)))
def bX10_commonDivisor_1 (g : GE) (J : Nat → KT) : KT := i_iload 4 (i_push (.int 200) (i_icge (i_jmp [true, false, false, false, false, false, false] (J 2)) (i_lload 2 (i_push (.long 0) (i_lcmp (i_ifeq (i_jmp [true, false, false, false, false, false, false] (J 2)) (i_lload 0 (i_lload 2 (i_lrem (i_lstore 5 (i_lload 2 (i_lstore 0 (i_lload 5 (i_lstore 2 (i_iinc 4 1 (i_jmp [true, false, true, false, true, false, false] (J 1)))))))))))))))))
def bX10_commonDivisor_2 (g : GE) (J : Nat → KT) : KT := i_lload 0 (i_lreturn)
theorem sbX10_commonDivisor_0 (g : GE) (J : Nat → KT) (h1 : Snd mX10_commonDivisor g 3 (J 1)) (h2 : Snd mX10_commonDivisor g 33 (J 2)) : Snd mX10_commonDivisor g 0 (bX10_commonDivisor_0 g J) := by
  unfold bX10_commonDivisor_0
  refine s_iconst (pc := 0) (v := 0) ?_ dX10_commonDivisor_0 (by decide)
  refine s_istore (pc := 1) (i := 4) ?_ dX10_commonDivisor_1 (by decide)
  exact s_fall (pc := 3) h1
theorem sbX10_commonDivisor_1 (g : GE) (J : Nat → KT) (h1 : Snd mX10_commonDivisor g 3 (J 1)) (h2 : Snd mX10_commonDivisor g 33 (J 2)) : Snd mX10_commonDivisor g 3 (bX10_commonDivisor_1 g J) := by
  unfold bX10_commonDivisor_1
  refine s_iload (pc := 3) (i := 4) ?_ dX10_commonDivisor_3
  refine s_sipush (pc := 5) (v := 200) ?_ dX10_commonDivisor_5 (by decide)
  refine s_icge (pc := 8) (tgt := 33) ?_ ?_ dX10_commonDivisor_8 (by decide)
  · skip
    exact s_fall (pc := 33) h2
  · skip
    refine s_lload_n (pc := 11) (i := 2) ?_ dX10_commonDivisor_11 rfl
    refine s_lconst (pc := 12) (v := 0) ?_ dX10_commonDivisor_12 (by decide)
    refine s_lcmp (pc := 13) ?_ dX10_commonDivisor_13
    refine s_ifeq (pc := 14) (tgt := 33) ?_ ?_ dX10_commonDivisor_14 (by decide)
    · skip
      exact s_fall (pc := 33) h2
    · skip
      refine s_lload_n (pc := 17) (i := 0) ?_ dX10_commonDivisor_17 rfl
      refine s_lload_n (pc := 18) (i := 2) ?_ dX10_commonDivisor_18 rfl
      refine s_lrem (pc := 19) ?_ dX10_commonDivisor_19
      refine s_lstore (pc := 20) (i := 5) ?_ dX10_commonDivisor_20 (by decide)
      refine s_lload_n (pc := 22) (i := 2) ?_ dX10_commonDivisor_22 rfl
      refine s_lstore_n (pc := 23) (i := 0) ?_ dX10_commonDivisor_23 rfl (by decide)
      refine s_lload (pc := 24) (i := 5) ?_ dX10_commonDivisor_24
      refine s_lstore_n (pc := 26) (i := 2) ?_ dX10_commonDivisor_26 rfl (by decide)
      refine s_iinc (pc := 27) (i := 4) (v := 1) ?_ dX10_commonDivisor_27 (by decide) (by decide)
      exact s_goto (pc := 30) (tgt := 3) h1 dX10_commonDivisor_30 (by decide)
theorem sbX10_commonDivisor_2 (g : GE) (J : Nat → KT) (h1 : Snd mX10_commonDivisor g 3 (J 1)) (h2 : Snd mX10_commonDivisor g 33 (J 2)) : Snd mX10_commonDivisor g 33 (bX10_commonDivisor_2 g J) := by
  unfold bX10_commonDivisor_2
  refine s_lload_n (pc := 33) (i := 0) ?_ dX10_commonDivisor_33 rfl
  exact s_lreturn (pc := 34) rfl dX10_commonDivisor_34
def jX10_commonDivisor (g : GE) : Nat → Nat → KT
  | 0, _ => fun _ _ _ => none
  | n + 1, 0 => bX10_commonDivisor_0 g (jX10_commonDivisor g n)
  | n + 1, 1 => bX10_commonDivisor_1 g (jX10_commonDivisor g n)
  | n + 1, 2 => bX10_commonDivisor_2 g (jX10_commonDivisor g n)
  | _ + 1, _ + 3 => fun _ _ _ => none
theorem sjX10_commonDivisor (g : GE) : ∀ n, Snd mX10_commonDivisor g 0 (jX10_commonDivisor g n 0) ∧ Snd mX10_commonDivisor g 3 (jX10_commonDivisor g n 1) ∧ Snd mX10_commonDivisor g 33 (jX10_commonDivisor g n 2)
  | 0 => ⟨s_none, s_none, s_none⟩
  | n + 1 => by
    obtain ⟨-, h1, h2⟩ := sjX10_commonDivisor g n
    exact ⟨sbX10_commonDivisor_0 g _ h1 h2, sbX10_commonDivisor_1 g _ h1 h2, sbX10_commonDivisor_2 g _ h1 h2⟩
def kX10_commonDivisor (g : GE) : KT := jX10_commonDivisor g g.1 0
theorem sX10_commonDivisor (g : GE) : Snd mX10_commonDivisor g 0 (kX10_commonDivisor g) := (sjX10_commonDivisor g g.1).1
def fX10_commonDivisor : FT := fun g av w => if (ent av).length ≤ 7 then kX10_commonDivisor g [] (entp 7 av) w else none
theorem tX10_commonDivisor : Mt yX10_commonDivisor cX10_commonDivisor 7 (some .long) 1 30 fX10_commonDivisor := Mt.of (K := kX10_commonDivisor) (by decide +kernel) (fun _ _ _ => rfl) sX10_commonDivisor
theorem crX10_commonDivisor : yX10_commonDivisor.cls ≠ "java/lang/invoke/MethodHandle" ∧ yX10_commonDivisor.cls ≠ "java/lang/invoke/VarHandle" ∧ (parseMethodDescriptor yX10_commonDivisor.desc).map (fun d => d.parameters.length) = some 2 := by decide +kernel
theorem dX10_isHand_0 : decode cX10_isHand 0 = .ok (.iload_n 0, 1) := by decide +kernel
theorem dX10_isHand_1 : decode cX10_isHand 1 = .ok (.ifCond .lt 12, 3) := by decide +kernel
theorem dX10_isHand_4 : decode cX10_isHand 4 = .ok (.iload_n 0, 1) := by decide +kernel
theorem dX10_isHand_5 : decode cX10_isHand 5 = .ok (.iconst 4, 1) := by decide +kernel
theorem dX10_isHand_6 : decode cX10_isHand 6 = .ok (.if_icmp .ge 7, 3) := by decide +kernel
theorem dX10_isHand_9 : decode cX10_isHand 9 = .ok (.iconst 1, 1) := by decide +kernel
theorem dX10_isHand_10 : decode cX10_isHand 10 = .ok (.goto 4, 3) := by decide +kernel
theorem dX10_isHand_13 : decode cX10_isHand 13 = .ok (.iconst 0, 1) := by decide +kernel
theorem dX10_isHand_14 : decode cX10_isHand 14 = .ok (.ireturn, 1) := by decide +kernel
abbrev mX10_isHand : MD := (cX10_isHand, "BlottedDeed", 1, 1, 30, (some .boolean), "isHand", [])
def bX10_isHand_0 (g : GE) (J : Nat → KT) : KT := i_iload 0 (i_iflt (i_jmp [false] (J 1)) (i_iload 0 (i_push (.int 4) (i_icge (i_jmp [false] (J 1)) (i_push (.int 1) (i_jmp [false] (J 2)))))))
def bX10_isHand_1 (g : GE) (J : Nat → KT) : KT := i_push (.int 0) (i_jmp [false] (J 2))
def bX10_isHand_2 (g : GE) (J : Nat → KT) : KT := i_zreturn
theorem sbX10_isHand_0 (g : GE) (J : Nat → KT) (h1 : Snd mX10_isHand g 13 (J 1)) (h2 : Snd mX10_isHand g 14 (J 2)) : Snd mX10_isHand g 0 (bX10_isHand_0 g J) := by
  unfold bX10_isHand_0
  refine s_iload_n (pc := 0) (i := 0) ?_ dX10_isHand_0 rfl
  refine s_iflt (pc := 1) (tgt := 13) ?_ ?_ dX10_isHand_1 (by decide)
  · skip
    exact s_fall (pc := 13) h1
  · skip
    refine s_iload_n (pc := 4) (i := 0) ?_ dX10_isHand_4 rfl
    refine s_iconst (pc := 5) (v := 4) ?_ dX10_isHand_5 (by decide)
    refine s_icge (pc := 6) (tgt := 13) ?_ ?_ dX10_isHand_6 (by decide)
    · skip
      exact s_fall (pc := 13) h1
    · skip
      refine s_iconst (pc := 9) (v := 1) ?_ dX10_isHand_9 (by decide)
      exact s_goto (pc := 10) (tgt := 14) h2 dX10_isHand_10 (by decide)
theorem sbX10_isHand_1 (g : GE) (J : Nat → KT) (h1 : Snd mX10_isHand g 13 (J 1)) (h2 : Snd mX10_isHand g 14 (J 2)) : Snd mX10_isHand g 13 (bX10_isHand_1 g J) := by
  unfold bX10_isHand_1
  refine s_iconst (pc := 13) (v := 0) ?_ dX10_isHand_13 (by decide)
  exact s_fall (pc := 14) h2
theorem sbX10_isHand_2 (g : GE) (J : Nat → KT) (h1 : Snd mX10_isHand g 13 (J 1)) (h2 : Snd mX10_isHand g 14 (J 2)) : Snd mX10_isHand g 14 (bX10_isHand_2 g J) := by
  unfold bX10_isHand_2
  exact s_zreturn (pc := 14) rfl dX10_isHand_14
def jX10_isHand (g : GE) : Nat → Nat → KT
  | 0, _ => fun _ _ _ => none
  | n + 1, 0 => bX10_isHand_0 g (jX10_isHand g n)
  | n + 1, 1 => bX10_isHand_1 g (jX10_isHand g n)
  | n + 1, 2 => bX10_isHand_2 g (jX10_isHand g n)
  | _ + 1, _ + 3 => fun _ _ _ => none
theorem sjX10_isHand (g : GE) : ∀ n, Snd mX10_isHand g 0 (jX10_isHand g n 0) ∧ Snd mX10_isHand g 13 (jX10_isHand g n 1) ∧ Snd mX10_isHand g 14 (jX10_isHand g n 2)
  | 0 => ⟨s_none, s_none, s_none⟩
  | n + 1 => by
    obtain ⟨-, h1, h2⟩ := sjX10_isHand g n
    exact ⟨sbX10_isHand_0 g _ h1 h2, sbX10_isHand_1 g _ h1 h2, sbX10_isHand_2 g _ h1 h2⟩
def kX10_isHand (g : GE) : KT := jX10_isHand g g.1 0
theorem sX10_isHand (g : GE) : Snd mX10_isHand g 0 (kX10_isHand g) := (sjX10_isHand g g.1).1
def fX10_isHand : FT := fun g av w => if (ent av).length ≤ 1 then kX10_isHand g [] (entp 1 av) w else none
theorem tX10_isHand : Mt yX10_isHand cX10_isHand 1 (some .boolean) 1 30 fX10_isHand := Mt.of (K := kX10_isHand) (by decide +kernel) (fun _ _ _ => rfl) sX10_isHand
theorem crX10_isHand : yX10_isHand.cls ≠ "java/lang/invoke/MethodHandle" ∧ yX10_isHand.cls ≠ "java/lang/invoke/VarHandle" ∧ (parseMethodDescriptor yX10_isHand.desc).map (fun d => d.parameters.length) = some 1 := by decide +kernel
theorem dX2_canBeTold_0 : decode cX2_canBeTold 0 = .ok (.aload_n 0, 1) := by decide +kernel
theorem dX2_canBeTold_1 : decode cX2_canBeTold 1 = .ok (.getfield 42, 3) := by decide +kernel
theorem dX2_canBeTold_4 : decode cX2_canBeTold 4 = .ok (.iload_n 1, 1) := by decide +kernel
theorem dX2_canBeTold_5 : decode cX2_canBeTold 5 = .ok (.aaload, 1) := by decide +kernel
theorem dX2_canBeTold_6 : decode cX2_canBeTold 6 = .ok (.getfield 92, 3) := by decide +kernel
theorem dX2_canBeTold_9 : decode cX2_canBeTold 9 = .ok (.istore_n 3, 1) := by decide +kernel
theorem dX2_canBeTold_10 : decode cX2_canBeTold 10 = .ok (.iload_n 3, 1) := by decide +kernel
theorem dX2_canBeTold_11 : decode cX2_canBeTold 11 = .ok (.ifCond .ne 8, 3) := by decide +kernel
theorem dX2_canBeTold_14 : decode cX2_canBeTold 14 = .ok (.bipush 100, 2) := by decide +kernel
theorem dX2_canBeTold_16 : decode cX2_canBeTold 16 = .ok (.goto 16, 3) := by decide +kernel
theorem dX2_canBeTold_19 : decode cX2_canBeTold 19 = .ok (.iload_n 3, 1) := by decide +kernel
theorem dX2_canBeTold_20 : decode cX2_canBeTold 20 = .ok (.iconst 1, 1) := by decide +kernel
theorem dX2_canBeTold_21 : decode cX2_canBeTold 21 = .ok (.if_icmp .ne 10, 3) := by decide +kernel
theorem dX2_canBeTold_24 : decode cX2_canBeTold 24 = .ok (.aload_n 0, 1) := by decide +kernel
theorem dX2_canBeTold_25 : decode cX2_canBeTold 25 = .ok (.getfield 52, 3) := by decide +kernel
theorem dX2_canBeTold_28 : decode cX2_canBeTold 28 = .ok (.goto 4, 3) := by decide +kernel
theorem dX2_canBeTold_31 : decode cX2_canBeTold 31 = .ok (.iconst 2, 1) := by decide +kernel
theorem dX2_canBeTold_32 : decode cX2_canBeTold 32 = .ok (.istore 4, 2) := by decide +kernel
theorem dX2_canBeTold_34 : decode cX2_canBeTold 34 = .ok (.iload_n 2, 1) := by decide +kernel
theorem dX2_canBeTold_35 : decode cX2_canBeTold 35 = .ok (.ifCond .lt 13, 3) := by decide +kernel
theorem dX2_canBeTold_38 : decode cX2_canBeTold 38 = .ok (.iload_n 2, 1) := by decide +kernel
theorem dX2_canBeTold_39 : decode cX2_canBeTold 39 = .ok (.iload 4, 2) := by decide +kernel
theorem dX2_canBeTold_41 : decode cX2_canBeTold 41 = .ok (.if_icmp .ge 7, 3) := by decide +kernel
theorem dX2_canBeTold_44 : decode cX2_canBeTold 44 = .ok (.iconst 1, 1) := by decide +kernel
theorem dX2_canBeTold_45 : decode cX2_canBeTold 45 = .ok (.goto 4, 3) := by decide +kernel
theorem dX2_canBeTold_48 : decode cX2_canBeTold 48 = .ok (.iconst 0, 1) := by decide +kernel
theorem dX2_canBeTold_49 : decode cX2_canBeTold 49 = .ok (.ireturn, 1) := by decide +kernel
abbrev mX2_canBeTold : MD := (cX2_canBeTold, "BlottedDeed$Deed", 5, 1, 30, (some .boolean), "canBeTold", [])
def bX2_canBeTold_0 (g : GE) (J : Nat → KT) : KT := i_aload 0 (i_getf 2 8 (i_iload 1 (i_aaload 6 (i_getf 1 2 (i_istore 3 (i_iload 3 (i_ifne (i_iload 3 (i_push (.int 1) (i_icne (i_push (.int 2) (i_jmp [false, false, true, false, false] (J 1))) (i_aload 0 (i_getf 2 9 (i_jmp [false, false, true, false, false] (J 1))))))) (i_push (.int 100) (i_jmp [false, false, true, false, false] (J 1))))))))))
def bX2_canBeTold_1 (g : GE) (J : Nat → KT) : KT := i_istore 4 (i_iload 2 (i_iflt (i_jmp [false, false, false, false, false] (J 2)) (i_iload 2 (i_iload 4 (i_icge (i_jmp [false, false, false, false, false] (J 2)) (i_push (.int 1) (i_jmp [false, false, false, false, false] (J 3))))))))
def bX2_canBeTold_2 (g : GE) (J : Nat → KT) : KT := i_push (.int 0) (i_jmp [false, false, false, false, false] (J 3))
def bX2_canBeTold_3 (g : GE) (J : Nat → KT) : KT := i_zreturn
theorem sbX2_canBeTold_0 (g : GE) (J : Nat → KT) (h1 : Snd mX2_canBeTold g 32 (J 1)) (h2 : Snd mX2_canBeTold g 48 (J 2)) (h3 : Snd mX2_canBeTold g 49 (J 3)) : Snd mX2_canBeTold g 0 (bX2_canBeTold_0 g J) := by
  unfold bX2_canBeTold_0
  refine s_aload_n (pc := 0) (i := 0) ?_ dX2_canBeTold_0 rfl
  refine s_getf (pc := 1) (ci := 2) (f := 8) (T := TX2) ?_ ginX2 rfl (by decide) wt_124 dX2_canBeTold_1
  refine s_iload_n (pc := 4) (i := 1) ?_ dX2_canBeTold_4 rfl
  refine s_aaload (pc := 5) (t := 6) ?_ (by decide) rfl dX2_canBeTold_5
  refine s_getf (pc := 6) (ci := 1) (f := 2) (T := TX1) ?_ ginX1 rfl (by decide) wt_90 dX2_canBeTold_6
  refine s_istore_n (pc := 9) (i := 3) ?_ dX2_canBeTold_9 rfl (by decide)
  refine s_iload_n (pc := 10) (i := 3) ?_ dX2_canBeTold_10 rfl
  refine s_ifne (pc := 11) (tgt := 19) ?_ ?_ dX2_canBeTold_11 (by decide)
  · skip
    refine s_iload_n (pc := 19) (i := 3) ?_ dX2_canBeTold_19 rfl
    refine s_iconst (pc := 20) (v := 1) ?_ dX2_canBeTold_20 (by decide)
    refine s_icne (pc := 21) (tgt := 31) ?_ ?_ dX2_canBeTold_21 (by decide)
    · skip
      refine s_iconst (pc := 31) (v := 2) ?_ dX2_canBeTold_31 (by decide)
      exact s_fall (pc := 32) h1
    · skip
      refine s_aload_n (pc := 24) (i := 0) ?_ dX2_canBeTold_24 rfl
      refine s_getf (pc := 25) (ci := 2) (f := 9) (T := TX2) ?_ ginX2 rfl (by decide) wt_130 dX2_canBeTold_25
      exact s_goto (pc := 28) (tgt := 32) h1 dX2_canBeTold_28 (by decide)
  · skip
    refine s_bipush (pc := 14) (v := 100) ?_ dX2_canBeTold_14 (by decide)
    exact s_goto (pc := 16) (tgt := 32) h1 dX2_canBeTold_16 (by decide)
theorem sbX2_canBeTold_1 (g : GE) (J : Nat → KT) (h1 : Snd mX2_canBeTold g 32 (J 1)) (h2 : Snd mX2_canBeTold g 48 (J 2)) (h3 : Snd mX2_canBeTold g 49 (J 3)) : Snd mX2_canBeTold g 32 (bX2_canBeTold_1 g J) := by
  unfold bX2_canBeTold_1
  refine s_istore (pc := 32) (i := 4) ?_ dX2_canBeTold_32 (by decide)
  refine s_iload_n (pc := 34) (i := 2) ?_ dX2_canBeTold_34 rfl
  refine s_iflt (pc := 35) (tgt := 48) ?_ ?_ dX2_canBeTold_35 (by decide)
  · skip
    exact s_fall (pc := 48) h2
  · skip
    refine s_iload_n (pc := 38) (i := 2) ?_ dX2_canBeTold_38 rfl
    refine s_iload (pc := 39) (i := 4) ?_ dX2_canBeTold_39
    refine s_icge (pc := 41) (tgt := 48) ?_ ?_ dX2_canBeTold_41 (by decide)
    · skip
      exact s_fall (pc := 48) h2
    · skip
      refine s_iconst (pc := 44) (v := 1) ?_ dX2_canBeTold_44 (by decide)
      exact s_goto (pc := 45) (tgt := 49) h3 dX2_canBeTold_45 (by decide)
theorem sbX2_canBeTold_2 (g : GE) (J : Nat → KT) (h1 : Snd mX2_canBeTold g 32 (J 1)) (h2 : Snd mX2_canBeTold g 48 (J 2)) (h3 : Snd mX2_canBeTold g 49 (J 3)) : Snd mX2_canBeTold g 48 (bX2_canBeTold_2 g J) := by
  unfold bX2_canBeTold_2
  refine s_iconst (pc := 48) (v := 0) ?_ dX2_canBeTold_48 (by decide)
  exact s_fall (pc := 49) h3
theorem sbX2_canBeTold_3 (g : GE) (J : Nat → KT) (h1 : Snd mX2_canBeTold g 32 (J 1)) (h2 : Snd mX2_canBeTold g 48 (J 2)) (h3 : Snd mX2_canBeTold g 49 (J 3)) : Snd mX2_canBeTold g 49 (bX2_canBeTold_3 g J) := by
  unfold bX2_canBeTold_3
  exact s_zreturn (pc := 49) rfl dX2_canBeTold_49
def jX2_canBeTold (g : GE) : Nat → Nat → KT
  | 0, _ => fun _ _ _ => none
  | n + 1, 0 => bX2_canBeTold_0 g (jX2_canBeTold g n)
  | n + 1, 1 => bX2_canBeTold_1 g (jX2_canBeTold g n)
  | n + 1, 2 => bX2_canBeTold_2 g (jX2_canBeTold g n)
  | n + 1, 3 => bX2_canBeTold_3 g (jX2_canBeTold g n)
  | _ + 1, _ + 4 => fun _ _ _ => none
theorem sjX2_canBeTold (g : GE) : ∀ n, Snd mX2_canBeTold g 0 (jX2_canBeTold g n 0) ∧ Snd mX2_canBeTold g 32 (jX2_canBeTold g n 1) ∧ Snd mX2_canBeTold g 48 (jX2_canBeTold g n 2) ∧ Snd mX2_canBeTold g 49 (jX2_canBeTold g n 3)
  | 0 => ⟨s_none, s_none, s_none, s_none⟩
  | n + 1 => by
    obtain ⟨-, h1, h2, h3⟩ := sjX2_canBeTold g n
    exact ⟨sbX2_canBeTold_0 g _ h1 h2 h3, sbX2_canBeTold_1 g _ h1 h2 h3, sbX2_canBeTold_2 g _ h1 h2 h3, sbX2_canBeTold_3 g _ h1 h2 h3⟩
def kX2_canBeTold (g : GE) : KT := jX2_canBeTold g g.1 0
theorem sX2_canBeTold (g : GE) : Snd mX2_canBeTold g 0 (kX2_canBeTold g) := (sjX2_canBeTold g g.1).1
def fX2_canBeTold : FT := fun g av w => if (ent av).length ≤ 5 then kX2_canBeTold g [] (entp 5 av) w else none
theorem tX2_canBeTold : Mt yX2_canBeTold cX2_canBeTold 5 (some .boolean) 1 30 fX2_canBeTold := Mt.of (K := kX2_canBeTold) (by decide +kernel) (fun _ _ _ => rfl) sX2_canBeTold
theorem crX2_canBeTold : yX2_canBeTold.cls ≠ "java/lang/invoke/MethodHandle" ∧ yX2_canBeTold.cls ≠ "java/lang/invoke/VarHandle" ∧ (parseMethodDescriptor yX2_canBeTold.desc).map (fun d => d.parameters.length) = some 2 := by decide +kernel
theorem dX8_addCopy_0 : decode cX8_addCopy 0 = .ok (.aload_n 0, 1) := by decide +kernel
theorem dX8_addCopy_1 : decode cX8_addCopy 1 = .ok (.getfield 33, 3) := by decide +kernel
theorem dX8_addCopy_4 : decode cX8_addCopy 4 = .ok (.bipush 12, 2) := by decide +kernel
theorem dX8_addCopy_6 : decode cX8_addCopy 6 = .ok (.if_icmp .lt 5, 3) := by decide +kernel
theorem dX8_addCopy_9 : decode cX8_addCopy 9 = .ok (.iconst (-1), 1) := by decide +kernel
theorem dX8_addCopy_10 : decode cX8_addCopy 10 = .ok (.ireturn, 1) := by decide +kernel
theorem dX8_addCopy_11 : decode cX8_addCopy 11 = .ok (.aload_n 0, 1) := by decide +kernel
theorem dX8_addCopy_12 : decode cX8_addCopy 12 = .ok (.getfield 9, 3) := by decide +kernel
theorem dX8_addCopy_15 : decode cX8_addCopy 15 = .ok (.aload_n 0, 1) := by decide +kernel
theorem dX8_addCopy_16 : decode cX8_addCopy 16 = .ok (.getfield 33, 3) := by decide +kernel
theorem dX8_addCopy_19 : decode cX8_addCopy 19 = .ok (.iload_n 1, 1) := by decide +kernel
theorem dX8_addCopy_20 : decode cX8_addCopy 20 = .ok (.iastore, 1) := by decide +kernel
theorem dX8_addCopy_21 : decode cX8_addCopy 21 = .ok (.aload_n 0, 1) := by decide +kernel
theorem dX8_addCopy_22 : decode cX8_addCopy 22 = .ok (.getfield 15, 3) := by decide +kernel
theorem dX8_addCopy_25 : decode cX8_addCopy 25 = .ok (.aload_n 0, 1) := by decide +kernel
theorem dX8_addCopy_26 : decode cX8_addCopy 26 = .ok (.getfield 33, 3) := by decide +kernel
theorem dX8_addCopy_29 : decode cX8_addCopy 29 = .ok (.iload_n 2, 1) := by decide +kernel
theorem dX8_addCopy_30 : decode cX8_addCopy 30 = .ok (.iastore, 1) := by decide +kernel
theorem dX8_addCopy_31 : decode cX8_addCopy 31 = .ok (.aload_n 0, 1) := by decide +kernel
theorem dX8_addCopy_32 : decode cX8_addCopy 32 = .ok (.getfield 18, 3) := by decide +kernel
theorem dX8_addCopy_35 : decode cX8_addCopy 35 = .ok (.aload_n 0, 1) := by decide +kernel
theorem dX8_addCopy_36 : decode cX8_addCopy 36 = .ok (.getfield 33, 3) := by decide +kernel
theorem dX8_addCopy_39 : decode cX8_addCopy 39 = .ok (.iload_n 3, 1) := by decide +kernel
theorem dX8_addCopy_40 : decode cX8_addCopy 40 = .ok (.iastore, 1) := by decide +kernel
theorem dX8_addCopy_41 : decode cX8_addCopy 41 = .ok (.aload_n 0, 1) := by decide +kernel
theorem dX8_addCopy_42 : decode cX8_addCopy 42 = .ok (.dup, 1) := by decide +kernel
theorem dX8_addCopy_43 : decode cX8_addCopy 43 = .ok (.getfield 33, 3) := by decide +kernel
theorem dX8_addCopy_46 : decode cX8_addCopy 46 = .ok (.iconst 1, 1) := by decide +kernel
theorem dX8_addCopy_47 : decode cX8_addCopy 47 = .ok (.iadd, 1) := by decide +kernel
theorem dX8_addCopy_48 : decode cX8_addCopy 48 = .ok (.putfield 33, 3) := by decide +kernel
theorem dX8_addCopy_51 : decode cX8_addCopy 51 = .ok (.aload_n 0, 1) := by decide +kernel
theorem dX8_addCopy_52 : decode cX8_addCopy 52 = .ok (.getfield 33, 3) := by decide +kernel
theorem dX8_addCopy_55 : decode cX8_addCopy 55 = .ok (.ireturn, 1) := by decide +kernel
abbrev mX8_addCopy : MD := (cX8_addCopy, "BlottedDeed$Testimony", 4, 1, 30, (some .int), "addCopy", [])
def bX8_addCopy_0 (g : GE) (J : Nat → KT) : KT := i_aload 0 (i_getf 8 7 (i_push (.int 12) (i_iclt (i_aload 0 (i_getf 8 0 (i_aload 0 (i_getf 8 7 (i_iload 1 (i_iastore (i_aload 0 (i_getf 8 1 (i_aload 0 (i_getf 8 7 (i_iload 2 (i_iastore (i_aload 0 (i_getf 8 2 (i_aload 0 (i_getf 8 7 (i_iload 3 (i_iastore (i_aload 0 (i_dup (i_getf 8 7 (i_push (.int 1) (i_iadd (i_putf 8 7 .int (i_aload 0 (i_getf 8 7 (i_ireturn))))))))))))))))))))))))))) (i_push (.int (-1)) (i_ireturn)))))
theorem sbX8_addCopy_0 (g : GE) (J : Nat → KT)  : Snd mX8_addCopy g 0 (bX8_addCopy_0 g J) := by
  unfold bX8_addCopy_0
  refine s_aload_n (pc := 0) (i := 0) ?_ dX8_addCopy_0 rfl
  refine s_getf (pc := 1) (ci := 8) (f := 7) (T := TX8) ?_ ginX8 rfl (by decide) wt_429 dX8_addCopy_1
  refine s_bipush (pc := 4) (v := 12) ?_ dX8_addCopy_4 (by decide)
  refine s_iclt (pc := 6) (tgt := 11) ?_ ?_ dX8_addCopy_6 (by decide)
  · skip
    refine s_aload_n (pc := 11) (i := 0) ?_ dX8_addCopy_11 rfl
    refine s_getf (pc := 12) (ci := 8) (f := 0) (T := TX8) ?_ ginX8 rfl (by decide) wt_420 dX8_addCopy_12
    refine s_aload_n (pc := 15) (i := 0) ?_ dX8_addCopy_15 rfl
    refine s_getf (pc := 16) (ci := 8) (f := 7) (T := TX8) ?_ ginX8 rfl (by decide) wt_429 dX8_addCopy_16
    refine s_iload_n (pc := 19) (i := 1) ?_ dX8_addCopy_19 rfl
    refine s_iastore (pc := 20) ?_ dX8_addCopy_20
    refine s_aload_n (pc := 21) (i := 0) ?_ dX8_addCopy_21 rfl
    refine s_getf (pc := 22) (ci := 8) (f := 1) (T := TX8) ?_ ginX8 rfl (by decide) wt_421 dX8_addCopy_22
    refine s_aload_n (pc := 25) (i := 0) ?_ dX8_addCopy_25 rfl
    refine s_getf (pc := 26) (ci := 8) (f := 7) (T := TX8) ?_ ginX8 rfl (by decide) wt_429 dX8_addCopy_26
    refine s_iload_n (pc := 29) (i := 2) ?_ dX8_addCopy_29 rfl
    refine s_iastore (pc := 30) ?_ dX8_addCopy_30
    refine s_aload_n (pc := 31) (i := 0) ?_ dX8_addCopy_31 rfl
    refine s_getf (pc := 32) (ci := 8) (f := 2) (T := TX8) ?_ ginX8 rfl (by decide) wt_423 dX8_addCopy_32
    refine s_aload_n (pc := 35) (i := 0) ?_ dX8_addCopy_35 rfl
    refine s_getf (pc := 36) (ci := 8) (f := 7) (T := TX8) ?_ ginX8 rfl (by decide) wt_429 dX8_addCopy_36
    refine s_iload_n (pc := 39) (i := 3) ?_ dX8_addCopy_39 rfl
    refine s_iastore (pc := 40) ?_ dX8_addCopy_40
    refine s_aload_n (pc := 41) (i := 0) ?_ dX8_addCopy_41 rfl
    refine s_dup (pc := 42) ?_ dX8_addCopy_42
    refine s_getf (pc := 43) (ci := 8) (f := 7) (T := TX8) ?_ ginX8 rfl (by decide) wt_429 dX8_addCopy_43
    refine s_iconst (pc := 46) (v := 1) ?_ dX8_addCopy_46 (by decide)
    refine s_iadd (pc := 47) ?_ dX8_addCopy_47
    refine s_putf (pc := 48) (ci := 8) (f := 7) (T := TX8) (ty0 := tyX8) ?_ ginX8 tyX8_ok nmX8 rfl (by decide) rfl rfl wt_429 dX8_addCopy_48
    refine s_aload_n (pc := 51) (i := 0) ?_ dX8_addCopy_51 rfl
    refine s_getf (pc := 52) (ci := 8) (f := 7) (T := TX8) ?_ ginX8 rfl (by decide) wt_429 dX8_addCopy_52
    exact s_ireturn (pc := 55) rfl dX8_addCopy_55
  · skip
    refine s_iconst (pc := 9) (v := (-1)) ?_ dX8_addCopy_9 (by decide)
    exact s_ireturn (pc := 10) rfl dX8_addCopy_10
def kX8_addCopy (g : GE) : KT := bX8_addCopy_0 g (fun _ _ _ _ => none)
theorem sX8_addCopy (g : GE) : Snd mX8_addCopy g 0 (kX8_addCopy g) := sbX8_addCopy_0 g _
def fX8_addCopy : FT := fun g av w => if (ent av).length ≤ 4 then kX8_addCopy g [] (entp 4 av) w else none
theorem tX8_addCopy : Mt yX8_addCopy cX8_addCopy 4 (some .int) 1 30 fX8_addCopy := Mt.of (K := kX8_addCopy) (by decide +kernel) (fun _ _ _ => rfl) sX8_addCopy
theorem crX8_addCopy : yX8_addCopy.cls ≠ "java/lang/invoke/MethodHandle" ∧ yX8_addCopy.cls ≠ "java/lang/invoke/VarHandle" ∧ (parseMethodDescriptor yX8_addCopy.desc).map (fun d => d.parameters.length) = some 3 := by decide +kernel
theorem dX10_copy_0 : decode cX10_copy 0 = .ok (.aload_n 0, 1) := by decide +kernel
theorem dX10_copy_1 : decode cX10_copy 1 = .ok (.iload_n 2, 1) := by decide +kernel
theorem dX10_copy_2 : decode cX10_copy 2 = .ok (.invokevirtual 126, 3) := by decide +kernel
theorem dX10_copy_5 : decode cX10_copy 5 = .ok (.aload_n 0, 1) := by decide +kernel
theorem dX10_copy_6 : decode cX10_copy 6 = .ok (.iload_n 1, 1) := by decide +kernel
theorem dX10_copy_7 : decode cX10_copy 7 = .ok (.invokestatic 222, 3) := by decide +kernel
theorem dX10_copy_10 : decode cX10_copy 10 = .ok (.ifCond .eq 19, 3) := by decide +kernel
theorem dX10_copy_13 : decode cX10_copy 13 = .ok (.aload_n 0, 1) := by decide +kernel
theorem dX10_copy_14 : decode cX10_copy 14 = .ok (.getfield 16, 3) := by decide +kernel
theorem dX10_copy_17 : decode cX10_copy 17 = .ok (.iload_n 2, 1) := by decide +kernel
theorem dX10_copy_18 : decode cX10_copy 18 = .ok (.iload_n 3, 1) := by decide +kernel
theorem dX10_copy_19 : decode cX10_copy 19 = .ok (.invokevirtual 226, 3) := by decide +kernel
theorem dX10_copy_22 : decode cX10_copy 22 = .ok (.ifCond .eq 7, 3) := by decide +kernel
theorem dX10_copy_25 : decode cX10_copy 25 = .ok (.iconst 1, 1) := by decide +kernel
theorem dX10_copy_26 : decode cX10_copy 26 = .ok (.goto 4, 3) := by decide +kernel
theorem dX10_copy_29 : decode cX10_copy 29 = .ok (.iconst 0, 1) := by decide +kernel
theorem dX10_copy_30 : decode cX10_copy 30 = .ok (.invokevirtual 80, 3) := by decide +kernel
theorem dX10_copy_33 : decode cX10_copy 33 = .ok (.aload_n 0, 1) := by decide +kernel
theorem dX10_copy_34 : decode cX10_copy 34 = .ok (.getfield 58, 3) := by decide +kernel
theorem dX10_copy_37 : decode cX10_copy 37 = .ok (.iload_n 1, 1) := by decide +kernel
theorem dX10_copy_38 : decode cX10_copy 38 = .ok (.iload_n 2, 1) := by decide +kernel
theorem dX10_copy_39 : decode cX10_copy 39 = .ok (.iload_n 3, 1) := by decide +kernel
theorem dX10_copy_40 : decode cX10_copy 40 = .ok (.invokevirtual 229, 3) := by decide +kernel
theorem dX10_copy_43 : decode cX10_copy 43 = .ok (.ireturn, 1) := by decide +kernel
abbrev mX10_copy : MD := (cX10_copy, "BlottedDeed", 4, 7, 121, (some .int), "copy", [])
def bX10_copy_0 (g : GE) (J : Nat → KT) : KT := i_aload 0 (i_iload 2 (i_cvX fX10_needBlot g 1 9 (i_aload 0 (i_iload 1 (i_cs fX10_isHand g 1 (i_ifeq (i_jmp [true, true, true, true] (J 1)) (i_aload 0 (i_getf 9 3 (i_iload 2 (i_iload 3 (i_cv fX2_canBeTold g 2 2 (i_ifeq (i_jmp [true, true, true, true] (J 1)) (i_push (.int 1) (i_jmp [true, true, true, true] (J 2)))))))))))))))
def bX10_copy_1 (g : GE) (J : Nat → KT) : KT := i_push (.int 0) (i_jmp [true, true, true, true] (J 2))
def bX10_copy_2 (g : GE) (J : Nat → KT) : KT := i_cvX fX10_needArgument g 1 9 (i_aload 0 (i_getf 9 8 (i_iload 1 (i_iload 2 (i_iload 3 (i_cv fX8_addCopy g 3 8 (i_ireturn)))))))
theorem sbX10_copy_0 (g : GE) (J : Nat → KT) (h1 : Snd mX10_copy g 29 (J 1)) (h2 : Snd mX10_copy g 30 (J 2)) : Snd mX10_copy g 0 (bX10_copy_0 g J) := by
  unfold bX10_copy_0
  refine s_aload_n (pc := 0) (i := 0) ?_ dX10_copy_0 rfl
  refine s_iload_n (pc := 1) (i := 2) ?_ dX10_copy_1 rfl
  refine s_cvX (pc := 2) (n := 1) (ci := 9) ?_ tX10_needBlot rfl rfl wt_932 wt_934 wp_32 wt_1 wt_935 ⟨crX10_needBlot, by decide, by decide⟩ rfl dX10_copy_2
  refine s_aload_n (pc := 5) (i := 0) ?_ dX10_copy_5 rfl
  refine s_iload_n (pc := 6) (i := 1) ?_ dX10_copy_6 rfl
  refine s_cs (pc := 7) (n := 1) ?_ tX10_isHand wt_1158 wt_1159 wt_1 wt_1160 ⟨crX10_isHand, by decide, by decide⟩ dX10_copy_7
  refine s_ifeq (pc := 10) (tgt := 29) ?_ ?_ dX10_copy_10 (by decide)
  · skip
    exact s_fall (pc := 29) h1
  · skip
    refine s_aload_n (pc := 13) (i := 0) ?_ dX10_copy_13 rfl
    refine s_getf (pc := 14) (ci := 9) (f := 3) (T := TX10) ?_ ginX10 rfl (by decide) wt_457 dX10_copy_14
    refine s_iload_n (pc := 17) (i := 2) ?_ dX10_copy_17 rfl
    refine s_iload_n (pc := 18) (i := 3) ?_ dX10_copy_18 rfl
    refine s_cv (pc := 19) (n := 2) (ci := 2) ?_ tX2_canBeTold rfl rfl wt_1161 wt_1162 wt_1163 wt_2 wt_1164 ⟨crX2_canBeTold, by decide, by decide⟩ dX10_copy_19
    refine s_ifeq (pc := 22) (tgt := 29) ?_ ?_ dX10_copy_22 (by decide)
    · skip
      exact s_fall (pc := 29) h1
    · skip
      refine s_iconst (pc := 25) (v := 1) ?_ dX10_copy_25 (by decide)
      exact s_goto (pc := 26) (tgt := 30) h2 dX10_copy_26 (by decide)
theorem sbX10_copy_1 (g : GE) (J : Nat → KT) (h1 : Snd mX10_copy g 29 (J 1)) (h2 : Snd mX10_copy g 30 (J 2)) : Snd mX10_copy g 29 (bX10_copy_1 g J) := by
  unfold bX10_copy_1
  refine s_iconst (pc := 29) (v := 0) ?_ dX10_copy_29 (by decide)
  exact s_fall (pc := 30) h2
theorem sbX10_copy_2 (g : GE) (J : Nat → KT) (h1 : Snd mX10_copy g 29 (J 1)) (h2 : Snd mX10_copy g 30 (J 2)) : Snd mX10_copy g 30 (bX10_copy_2 g J) := by
  unfold bX10_copy_2
  refine s_cvX (pc := 30) (n := 1) (ci := 9) ?_ tX10_needArgument rfl rfl wt_626 wt_628 wp_8 wt_1 wt_629 ⟨crX10_needArgument, by decide, by decide⟩ rfl dX10_copy_30
  refine s_aload_n (pc := 33) (i := 0) ?_ dX10_copy_33 rfl
  refine s_getf (pc := 34) (ci := 9) (f := 8) (T := TX10) ?_ ginX10 rfl (by decide) wt_462 dX10_copy_34
  refine s_iload_n (pc := 37) (i := 1) ?_ dX10_copy_37 rfl
  refine s_iload_n (pc := 38) (i := 2) ?_ dX10_copy_38 rfl
  refine s_iload_n (pc := 39) (i := 3) ?_ dX10_copy_39 rfl
  refine s_cv (pc := 40) (n := 3) (ci := 8) ?_ tX8_addCopy rfl rfl wt_1165 wt_1166 wt_1167 wt_16 wt_1168 ⟨crX8_addCopy, by decide, by decide⟩ dX10_copy_40
  exact s_ireturn (pc := 43) rfl dX10_copy_43
def jX10_copy (g : GE) : Nat → Nat → KT
  | 0, _ => fun _ _ _ => none
  | n + 1, 0 => bX10_copy_0 g (jX10_copy g n)
  | n + 1, 1 => bX10_copy_1 g (jX10_copy g n)
  | n + 1, 2 => bX10_copy_2 g (jX10_copy g n)
  | _ + 1, _ + 3 => fun _ _ _ => none
theorem sjX10_copy (g : GE) : ∀ n, Snd mX10_copy g 0 (jX10_copy g n 0) ∧ Snd mX10_copy g 29 (jX10_copy g n 1) ∧ Snd mX10_copy g 30 (jX10_copy g n 2)
  | 0 => ⟨s_none, s_none, s_none⟩
  | n + 1 => by
    obtain ⟨-, h1, h2⟩ := sjX10_copy g n
    exact ⟨sbX10_copy_0 g _ h1 h2, sbX10_copy_1 g _ h1 h2, sbX10_copy_2 g _ h1 h2⟩
def kX10_copy (g : GE) : KT := jX10_copy g g.1 0
theorem sX10_copy (g : GE) : Snd mX10_copy g 0 (kX10_copy g) := (sjX10_copy g g.1).1
def fX10_copy : FT := fun g av w => if (ent av).length ≤ 4 then kX10_copy g [] (entp 4 av) w else none
theorem tX10_copy : Mt yX10_copy cX10_copy 4 (some .int) 7 121 fX10_copy := Mt.of (K := kX10_copy) (by decide +kernel) (fun _ _ _ => rfl) sX10_copy
theorem crX10_copy : yX10_copy.cls ≠ "java/lang/invoke/MethodHandle" ∧ yX10_copy.cls ≠ "java/lang/invoke/VarHandle" ∧ (parseMethodDescriptor yX10_copy.desc).map (fun d => d.parameters.length) = some 3 := by decide +kernel
theorem dX10_count_0 : decode cX10_count 0 = .ok (.iload_n 1, 1) := by decide +kernel
theorem dX10_count_1 : decode cX10_count 1 = .ok (.tableswitch 57 0 3 #[31, 39, 47, 52], 31) := by decide +kernel
theorem dX10_count_32 : decode cX10_count 32 = .ok (.aload_n 0, 1) := by decide +kernel
theorem dX10_count_33 : decode cX10_count 33 = .ok (.getfield 58, 3) := by decide +kernel
theorem dX10_count_36 : decode cX10_count 36 = .ok (.getfield 240, 3) := by decide +kernel
theorem dX10_count_39 : decode cX10_count 39 = .ok (.ireturn, 1) := by decide +kernel
theorem dX10_count_40 : decode cX10_count 40 = .ok (.aload_n 0, 1) := by decide +kernel
theorem dX10_count_41 : decode cX10_count 41 = .ok (.getfield 58, 3) := by decide +kernel
theorem dX10_count_44 : decode cX10_count 44 = .ok (.getfield 243, 3) := by decide +kernel
theorem dX10_count_47 : decode cX10_count 47 = .ok (.ireturn, 1) := by decide +kernel
theorem dX10_count_48 : decode cX10_count 48 = .ok (.aload_n 0, 1) := by decide +kernel
theorem dX10_count_49 : decode cX10_count 49 = .ok (.getfield 95, 3) := by decide +kernel
theorem dX10_count_52 : decode cX10_count 52 = .ok (.ireturn, 1) := by decide +kernel
theorem dX10_count_53 : decode cX10_count 53 = .ok (.aload_n 0, 1) := by decide +kernel
theorem dX10_count_54 : decode cX10_count 54 = .ok (.getfield 73, 3) := by decide +kernel
theorem dX10_count_57 : decode cX10_count 57 = .ok (.ireturn, 1) := by decide +kernel
theorem dX10_count_58 : decode cX10_count 58 = .ok (.iconst (-1), 1) := by decide +kernel
theorem dX10_count_59 : decode cX10_count 59 = .ok (.ireturn, 1) := by decide +kernel
abbrev mX10_count : MD := (cX10_count, "BlottedDeed", 2, 1, 30, (some .int), "count", [])
def bX10_count_0 (g : GE) (J : Nat → KT) : KT := i_iload 1 (i_tsw 0 3 [i_aload 0 (i_getf 9 8 (i_getf 8 7 (i_ireturn))), i_aload 0 (i_getf 9 8 (i_getf 8 8 (i_ireturn))), i_aload 0 (i_getf 9 10 (i_ireturn)), i_aload 0 (i_getf 9 1 (i_ireturn))] (i_push (.int (-1)) (i_ireturn)))
theorem sbX10_count_0 (g : GE) (J : Nat → KT)  : Snd mX10_count g 0 (bX10_count_0 g J) := by
  unfold bX10_count_0
  refine s_iload_n (pc := 0) (i := 1) ?_ dX10_count_0 rfl
  refine s_tsw (pc := 1) (tgt := 58) dX10_count_1 ?_ (by decide) ?_
  · skip
    refine s_iconst (pc := 58) (v := (-1)) ?_ dX10_count_58 (by decide)
    exact s_ireturn (pc := 59) rfl dX10_count_59
  · intro j kj hj
    match j, hj with
    | 0, hj =>
      cases hj
      refine ⟨_, 32, rfl, by decide, ?_⟩
      refine s_aload_n (pc := 32) (i := 0) ?_ dX10_count_32 rfl
      refine s_getf (pc := 33) (ci := 9) (f := 8) (T := TX10) ?_ ginX10 rfl (by decide) wt_462 dX10_count_33
      refine s_getf (pc := 36) (ci := 8) (f := 7) (T := TX8) ?_ ginX8 rfl (by decide) wt_431 dX10_count_36
      exact s_ireturn (pc := 39) rfl dX10_count_39
    | 1, hj =>
      cases hj
      refine ⟨_, 40, rfl, by decide, ?_⟩
      refine s_aload_n (pc := 40) (i := 0) ?_ dX10_count_40 rfl
      refine s_getf (pc := 41) (ci := 9) (f := 8) (T := TX10) ?_ ginX10 rfl (by decide) wt_462 dX10_count_41
      refine s_getf (pc := 44) (ci := 8) (f := 8) (T := TX8) ?_ ginX8 rfl (by decide) wt_433 dX10_count_44
      exact s_ireturn (pc := 47) rfl dX10_count_47
    | 2, hj =>
      cases hj
      refine ⟨_, 48, rfl, by decide, ?_⟩
      refine s_aload_n (pc := 48) (i := 0) ?_ dX10_count_48 rfl
      refine s_getf (pc := 49) (ci := 9) (f := 10) (T := TX10) ?_ ginX10 rfl (by decide) wt_464 dX10_count_49
      exact s_ireturn (pc := 52) rfl dX10_count_52
    | 3, hj =>
      cases hj
      refine ⟨_, 53, rfl, by decide, ?_⟩
      refine s_aload_n (pc := 53) (i := 0) ?_ dX10_count_53 rfl
      refine s_getf (pc := 54) (ci := 9) (f := 1) (T := TX10) ?_ ginX10 rfl (by decide) wt_455 dX10_count_54
      exact s_ireturn (pc := 57) rfl dX10_count_57
    | j + 4, hj => simp at hj
def kX10_count (g : GE) : KT := bX10_count_0 g (fun _ _ _ _ => none)
theorem sX10_count (g : GE) : Snd mX10_count g 0 (kX10_count g) := sbX10_count_0 g _
def fX10_count : FT := fun g av w => if (ent av).length ≤ 2 then kX10_count g [] (entp 2 av) w else none
theorem tX10_count : Mt yX10_count cX10_count 2 (some .int) 1 30 fX10_count := Mt.of (K := kX10_count) (by decide +kernel) (fun _ _ _ => rfl) sX10_count
theorem crX10_count : yX10_count.cls ≠ "java/lang/invoke/MethodHandle" ∧ yX10_count.cls ≠ "java/lang/invoke/VarHandle" ∧ (parseMethodDescriptor yX10_count.desc).map (fun d => d.parameters.length) = some 1 := by decide +kernel
theorem dX2_clear_0 : decode cX2_clear 0 = .ok (.aload_n 0, 1) := by decide +kernel
theorem dX2_clear_1 : decode cX2_clear 1 = .ok (.iconst 0, 1) := by decide +kernel
theorem dX2_clear_2 : decode cX2_clear 2 = .ok (.putfield 52, 3) := by decide +kernel
theorem dX2_clear_5 : decode cX2_clear 5 = .ok (.aload_n 0, 1) := by decide +kernel
theorem dX2_clear_6 : decode cX2_clear 6 = .ok (.iconst 0, 1) := by decide +kernel
theorem dX2_clear_7 : decode cX2_clear 7 = .ok (.putfield 55, 3) := by decide +kernel
theorem dX2_clear_10 : decode cX2_clear 10 = .ok (.aload_n 0, 1) := by decide +kernel
theorem dX2_clear_11 : decode cX2_clear 11 = .ok (.iconst 0, 1) := by decide +kernel
theorem dX2_clear_12 : decode cX2_clear 12 = .ok (.putfield 58, 3) := by decide +kernel
theorem dX2_clear_15 : decode cX2_clear 15 = .ok (.aload_n 0, 1) := by decide +kernel
theorem dX2_clear_16 : decode cX2_clear 16 = .ok (.iconst 0, 1) := by decide +kernel
theorem dX2_clear_17 : decode cX2_clear 17 = .ok (.putfield 61, 3) := by decide +kernel
theorem dX2_clear_20 : decode cX2_clear 20 = .ok (.aload_n 0, 1) := by decide +kernel
theorem dX2_clear_21 : decode cX2_clear 21 = .ok (.iconst 0, 1) := by decide +kernel
theorem dX2_clear_22 : decode cX2_clear 22 = .ok (.putfield 64, 3) := by decide +kernel
theorem dX2_clear_25 : decode cX2_clear 25 = .ok (.aload_n 0, 1) := by decide +kernel
theorem dX2_clear_26 : decode cX2_clear 26 = .ok (.iconst 0, 1) := by decide +kernel
theorem dX2_clear_27 : decode cX2_clear 27 = .ok (.putfield 67, 3) := by decide +kernel
theorem dX2_clear_30 : decode cX2_clear 30 = .ok (.aload_n 0, 1) := by decide +kernel
theorem dX2_clear_31 : decode cX2_clear 31 = .ok (.iconst 1, 1) := by decide +kernel
theorem dX2_clear_32 : decode cX2_clear 32 = .ok (.putfield 46, 3) := by decide +kernel
theorem dX2_clear_35 : decode cX2_clear 35 = .ok (.return_, 1) := by decide +kernel
abbrev mX2_clear : MD := (cX2_clear, "BlottedDeed$Deed", 1, 1, 30, none, "clear", [])
def bX2_clear_0 (g : GE) (J : Nat → KT) : KT := i_aload 0 (i_push (.int 0) (i_putf 2 9 .int (i_aload 0 (i_push (.int 0) (i_putf 2 10 .int (i_aload 0 (i_push (.int 0) (i_putf 2 11 .int (i_aload 0 (i_push (.int 0) (i_putf 2 12 .int (i_aload 0 (i_push (.int 0) (i_putf 2 13 .int (i_aload 0 (i_push (.int 0) (i_putf 2 14 .int (i_aload 0 (i_push (.int 1) (i_putf 2 15 .int (i_return)))))))))))))))))))))
theorem sbX2_clear_0 (g : GE) (J : Nat → KT)  : Snd mX2_clear g 0 (bX2_clear_0 g J) := by
  unfold bX2_clear_0
  refine s_aload_n (pc := 0) (i := 0) ?_ dX2_clear_0 rfl
  refine s_iconst (pc := 1) (v := 0) ?_ dX2_clear_1 (by decide)
  refine s_putf (pc := 2) (ci := 2) (f := 9) (T := TX2) (ty0 := tyX2) ?_ ginX2 tyX2_ok nmX2 rfl (by decide) rfl rfl wt_130 dX2_clear_2
  refine s_aload_n (pc := 5) (i := 0) ?_ dX2_clear_5 rfl
  refine s_iconst (pc := 6) (v := 0) ?_ dX2_clear_6 (by decide)
  refine s_putf (pc := 7) (ci := 2) (f := 10) (T := TX2) (ty0 := tyX2) ?_ ginX2 tyX2_ok nmX2 rfl (by decide) rfl rfl wt_133 dX2_clear_7
  refine s_aload_n (pc := 10) (i := 0) ?_ dX2_clear_10 rfl
  refine s_iconst (pc := 11) (v := 0) ?_ dX2_clear_11 (by decide)
  refine s_putf (pc := 12) (ci := 2) (f := 11) (T := TX2) (ty0 := tyX2) ?_ ginX2 tyX2_ok nmX2 rfl (by decide) rfl rfl wt_136 dX2_clear_12
  refine s_aload_n (pc := 15) (i := 0) ?_ dX2_clear_15 rfl
  refine s_iconst (pc := 16) (v := 0) ?_ dX2_clear_16 (by decide)
  refine s_putf (pc := 17) (ci := 2) (f := 12) (T := TX2) (ty0 := tyX2) ?_ ginX2 tyX2_ok nmX2 rfl (by decide) rfl rfl wt_140 dX2_clear_17
  refine s_aload_n (pc := 20) (i := 0) ?_ dX2_clear_20 rfl
  refine s_iconst (pc := 21) (v := 0) ?_ dX2_clear_21 (by decide)
  refine s_putf (pc := 22) (ci := 2) (f := 13) (T := TX2) (ty0 := tyX2) ?_ ginX2 tyX2_ok nmX2 rfl (by decide) rfl rfl wt_143 dX2_clear_22
  refine s_aload_n (pc := 25) (i := 0) ?_ dX2_clear_25 rfl
  refine s_iconst (pc := 26) (v := 0) ?_ dX2_clear_26 (by decide)
  refine s_putf (pc := 27) (ci := 2) (f := 14) (T := TX2) (ty0 := tyX2) ?_ ginX2 tyX2_ok nmX2 rfl (by decide) rfl rfl wt_148 dX2_clear_27
  refine s_aload_n (pc := 30) (i := 0) ?_ dX2_clear_30 rfl
  refine s_iconst (pc := 31) (v := 1) ?_ dX2_clear_31 (by decide)
  refine s_putf (pc := 32) (ci := 2) (f := 15) (T := TX2) (ty0 := tyX2) ?_ ginX2 tyX2_ok nmX2 rfl (by decide) rfl rfl wt_153 dX2_clear_32
  exact s_return (pc := 35) rfl dX2_clear_35
def kX2_clear (g : GE) : KT := bX2_clear_0 g (fun _ _ _ _ => none)
theorem sX2_clear (g : GE) : Snd mX2_clear g 0 (kX2_clear g) := sbX2_clear_0 g _
def fX2_clear : FT := fun g av w => if (ent av).length ≤ 1 then kX2_clear g [] (entp 1 av) w else none
theorem tX2_clear : Mt yX2_clear cX2_clear 1 none 1 30 fX2_clear := Mt.of (K := kX2_clear) (by decide +kernel) (fun _ _ _ => rfl) sX2_clear
theorem crX2_clear : yX2_clear.cls ≠ "java/lang/invoke/MethodHandle" ∧ yX2_clear.cls ≠ "java/lang/invoke/VarHandle" ∧ (parseMethodDescriptor yX2_clear.desc).map (fun d => d.parameters.length) = some 0 := by decide +kernel
theorem dX6_skipBlanks_0 : decode cX6_skipBlanks 0 = .ok (.aload_n 0, 1) := by decide +kernel
theorem dX6_skipBlanks_1 : decode cX6_skipBlanks 1 = .ok (.getfield 28, 3) := by decide +kernel
theorem dX6_skipBlanks_4 : decode cX6_skipBlanks 4 = .ok (.aload_n 0, 1) := by decide +kernel
theorem dX6_skipBlanks_5 : decode cX6_skipBlanks 5 = .ok (.getfield 24, 3) := by decide +kernel
theorem dX6_skipBlanks_8 : decode cX6_skipBlanks 8 = .ok (.if_icmp .ge 30, 3) := by decide +kernel
theorem dX6_skipBlanks_11 : decode cX6_skipBlanks 11 = .ok (.aload_n 0, 1) := by decide +kernel
theorem dX6_skipBlanks_12 : decode cX6_skipBlanks 12 = .ok (.getfield 9, 3) := by decide +kernel
theorem dX6_skipBlanks_15 : decode cX6_skipBlanks 15 = .ok (.aload_n 0, 1) := by decide +kernel
theorem dX6_skipBlanks_16 : decode cX6_skipBlanks 16 = .ok (.getfield 28, 3) := by decide +kernel
theorem dX6_skipBlanks_19 : decode cX6_skipBlanks 19 = .ok (.iaload, 1) := by decide +kernel
theorem dX6_skipBlanks_20 : decode cX6_skipBlanks 20 = .ok (.bipush 32, 2) := by decide +kernel
theorem dX6_skipBlanks_22 : decode cX6_skipBlanks 22 = .ok (.if_icmp .ne 16, 3) := by decide +kernel
theorem dX6_skipBlanks_25 : decode cX6_skipBlanks 25 = .ok (.aload_n 0, 1) := by decide +kernel
theorem dX6_skipBlanks_26 : decode cX6_skipBlanks 26 = .ok (.dup, 1) := by decide +kernel
theorem dX6_skipBlanks_27 : decode cX6_skipBlanks 27 = .ok (.getfield 28, 3) := by decide +kernel
theorem dX6_skipBlanks_30 : decode cX6_skipBlanks 30 = .ok (.iconst 1, 1) := by decide +kernel
theorem dX6_skipBlanks_31 : decode cX6_skipBlanks 31 = .ok (.iadd, 1) := by decide +kernel
theorem dX6_skipBlanks_32 : decode cX6_skipBlanks 32 = .ok (.putfield 28, 3) := by decide +kernel
theorem dX6_skipBlanks_35 : decode cX6_skipBlanks 35 = .ok (.goto (-35), 3) := by decide +kernel
theorem dX6_skipBlanks_38 : decode cX6_skipBlanks 38 = .ok (.return_, 1) := by decide +kernel
abbrev mX6_skipBlanks : MD := (cX6_skipBlanks, "BlottedDeed$Scribe", 1, 1, 30, none, "skipBlanks", [])
def bX6_skipBlanks_0 (g : GE) (J : Nat → KT) : KT := i_aload 0 (i_getf 6 2 (i_aload 0 (i_getf 6 1 (i_icge (i_jmp [false] (J 1)) (i_aload 0 (i_getf 6 0 (i_aload 0 (i_getf 6 2 (i_iaload (i_push (.int 32) (i_icne (i_jmp [false] (J 1)) (i_aload 0 (i_dup (i_getf 6 2 (i_push (.int 1) (i_iadd (i_putf 6 2 .int (i_jmp [true] (J 0)))))))))))))))))))
def bX6_skipBlanks_1 (g : GE) (J : Nat → KT) : KT := i_return
theorem sbX6_skipBlanks_0 (g : GE) (J : Nat → KT) (h0 : Snd mX6_skipBlanks g 0 (J 0)) (h1 : Snd mX6_skipBlanks g 38 (J 1)) : Snd mX6_skipBlanks g 0 (bX6_skipBlanks_0 g J) := by
  unfold bX6_skipBlanks_0
  refine s_aload_n (pc := 0) (i := 0) ?_ dX6_skipBlanks_0 rfl
  refine s_getf (pc := 1) (ci := 6) (f := 2) (T := TX6) ?_ ginX6 rfl (by decide) wt_197 dX6_skipBlanks_1
  refine s_aload_n (pc := 4) (i := 0) ?_ dX6_skipBlanks_4 rfl
  refine s_getf (pc := 5) (ci := 6) (f := 1) (T := TX6) ?_ ginX6 rfl (by decide) wt_196 dX6_skipBlanks_5
  refine s_icge (pc := 8) (tgt := 38) ?_ ?_ dX6_skipBlanks_8 (by decide)
  · skip
    exact s_fall (pc := 38) h1
  · skip
    refine s_aload_n (pc := 11) (i := 0) ?_ dX6_skipBlanks_11 rfl
    refine s_getf (pc := 12) (ci := 6) (f := 0) (T := TX6) ?_ ginX6 rfl (by decide) wt_195 dX6_skipBlanks_12
    refine s_aload_n (pc := 15) (i := 0) ?_ dX6_skipBlanks_15 rfl
    refine s_getf (pc := 16) (ci := 6) (f := 2) (T := TX6) ?_ ginX6 rfl (by decide) wt_197 dX6_skipBlanks_16
    refine s_iaload (pc := 19) ?_ dX6_skipBlanks_19
    refine s_bipush (pc := 20) (v := 32) ?_ dX6_skipBlanks_20 (by decide)
    refine s_icne (pc := 22) (tgt := 38) ?_ ?_ dX6_skipBlanks_22 (by decide)
    · skip
      exact s_fall (pc := 38) h1
    · skip
      refine s_aload_n (pc := 25) (i := 0) ?_ dX6_skipBlanks_25 rfl
      refine s_dup (pc := 26) ?_ dX6_skipBlanks_26
      refine s_getf (pc := 27) (ci := 6) (f := 2) (T := TX6) ?_ ginX6 rfl (by decide) wt_197 dX6_skipBlanks_27
      refine s_iconst (pc := 30) (v := 1) ?_ dX6_skipBlanks_30 (by decide)
      refine s_iadd (pc := 31) ?_ dX6_skipBlanks_31
      refine s_putf (pc := 32) (ci := 6) (f := 2) (T := TX6) (ty0 := tyX6) ?_ ginX6 tyX6_ok nmX6 rfl (by decide) rfl rfl wt_197 dX6_skipBlanks_32
      exact s_goto (pc := 35) (tgt := 0) h0 dX6_skipBlanks_35 (by decide)
theorem sbX6_skipBlanks_1 (g : GE) (J : Nat → KT) (h0 : Snd mX6_skipBlanks g 0 (J 0)) (h1 : Snd mX6_skipBlanks g 38 (J 1)) : Snd mX6_skipBlanks g 38 (bX6_skipBlanks_1 g J) := by
  unfold bX6_skipBlanks_1
  exact s_return (pc := 38) rfl dX6_skipBlanks_38
def jX6_skipBlanks (g : GE) : Nat → Nat → KT
  | 0, _ => fun _ _ _ => none
  | n + 1, 0 => bX6_skipBlanks_0 g (jX6_skipBlanks g n)
  | n + 1, 1 => bX6_skipBlanks_1 g (jX6_skipBlanks g n)
  | _ + 1, _ + 2 => fun _ _ _ => none
theorem sjX6_skipBlanks (g : GE) : ∀ n, Snd mX6_skipBlanks g 0 (jX6_skipBlanks g n 0) ∧ Snd mX6_skipBlanks g 38 (jX6_skipBlanks g n 1)
  | 0 => ⟨s_none, s_none⟩
  | n + 1 => by
    obtain ⟨h0, h1⟩ := sjX6_skipBlanks g n
    exact ⟨sbX6_skipBlanks_0 g _ h0 h1, sbX6_skipBlanks_1 g _ h0 h1⟩
def kX6_skipBlanks (g : GE) : KT := jX6_skipBlanks g g.1 0
theorem sX6_skipBlanks (g : GE) : Snd mX6_skipBlanks g 0 (kX6_skipBlanks g) := (sjX6_skipBlanks g g.1).1
def fX6_skipBlanks : FT := fun g av w => if (ent av).length ≤ 1 then kX6_skipBlanks g [] (entp 1 av) w else none
theorem tX6_skipBlanks : Mt yX6_skipBlanks cX6_skipBlanks 1 none 1 30 fX6_skipBlanks := Mt.of (K := kX6_skipBlanks) (by decide +kernel) (fun _ _ _ => rfl) sX6_skipBlanks
theorem crX6_skipBlanks : yX6_skipBlanks.cls ≠ "java/lang/invoke/MethodHandle" ∧ yX6_skipBlanks.cls ≠ "java/lang/invoke/VarHandle" ∧ (parseMethodDescriptor yX6_skipBlanks.desc).map (fun d => d.parameters.length) = some 0 := by decide +kernel
theorem dX6_fail_0 : decode cX6_fail 0 = .ok (.aload_n 0, 1) := by decide +kernel
theorem dX6_fail_1 : decode cX6_fail 1 = .ok (.iload_n 1, 1) := by decide +kernel
theorem dX6_fail_2 : decode cX6_fail 2 = .ok (.putfield 53, 3) := by decide +kernel
theorem dX6_fail_5 : decode cX6_fail 5 = .ok (.aload_n 0, 1) := by decide +kernel
theorem dX6_fail_6 : decode cX6_fail 6 = .ok (.iload_n 2, 1) := by decide +kernel
theorem dX6_fail_7 : decode cX6_fail 7 = .ok (.putfield 56, 3) := by decide +kernel
theorem dX6_fail_10 : decode cX6_fail 10 = .ok (.iconst 0, 1) := by decide +kernel
theorem dX6_fail_11 : decode cX6_fail 11 = .ok (.ireturn, 1) := by decide +kernel
abbrev mX6_fail : MD := (cX6_fail, "BlottedDeed$Scribe", 3, 1, 30, (some .boolean), "fail", [])
def bX6_fail_0 (g : GE) (J : Nat → KT) : KT := i_aload 0 (i_iload 1 (i_putf 6 6 .int (i_aload 0 (i_iload 2 (i_putf 6 7 .int (i_push (.int 0) (i_zreturn)))))))
theorem sbX6_fail_0 (g : GE) (J : Nat → KT)  : Snd mX6_fail g 0 (bX6_fail_0 g J) := by
  unfold bX6_fail_0
  refine s_aload_n (pc := 0) (i := 0) ?_ dX6_fail_0 rfl
  refine s_iload_n (pc := 1) (i := 1) ?_ dX6_fail_1 rfl
  refine s_putf (pc := 2) (ci := 6) (f := 6) (T := TX6) (ty0 := tyX6) ?_ ginX6 tyX6_ok nmX6 rfl (by decide) rfl rfl wt_201 dX6_fail_2
  refine s_aload_n (pc := 5) (i := 0) ?_ dX6_fail_5 rfl
  refine s_iload_n (pc := 6) (i := 2) ?_ dX6_fail_6 rfl
  refine s_putf (pc := 7) (ci := 6) (f := 7) (T := TX6) (ty0 := tyX6) ?_ ginX6 tyX6_ok nmX6 rfl (by decide) rfl rfl wt_203 dX6_fail_7
  refine s_iconst (pc := 10) (v := 0) ?_ dX6_fail_10 (by decide)
  exact s_zreturn (pc := 11) rfl dX6_fail_11
def kX6_fail (g : GE) : KT := bX6_fail_0 g (fun _ _ _ _ => none)
theorem sX6_fail (g : GE) : Snd mX6_fail g 0 (kX6_fail g) := sbX6_fail_0 g _
def fX6_fail : FT := fun g av w => if (ent av).length ≤ 3 then kX6_fail g [] (entp 3 av) w else none
theorem tX6_fail : Mt yX6_fail cX6_fail 3 (some .boolean) 1 30 fX6_fail := Mt.of (K := kX6_fail) (by decide +kernel) (fun _ _ _ => rfl) sX6_fail
theorem crX6_fail : yX6_fail.cls ≠ "java/lang/invoke/MethodHandle" ∧ yX6_fail.cls ≠ "java/lang/invoke/VarHandle" ∧ (parseMethodDescriptor yX6_fail.desc).map (fun d => d.parameters.length) = some 2 := by decide +kernel
theorem dX6_readWord_0 : decode cX6_readWord 0 = .ok (.aload_n 0, 1) := by decide +kernel
theorem dX6_readWord_1 : decode cX6_readWord 1 = .ok (.invokevirtual 31, 3) := by decide +kernel
theorem dX6_readWord_4 : decode cX6_readWord 4 = .ok (.aload_n 0, 1) := by decide +kernel
theorem dX6_readWord_5 : decode cX6_readWord 5 = .ok (.aload_n 0, 1) := by decide +kernel
theorem dX6_readWord_6 : decode cX6_readWord 6 = .ok (.getfield 28, 3) := by decide +kernel
theorem dX6_readWord_9 : decode cX6_readWord 9 = .ok (.putfield 66, 3) := by decide +kernel
theorem dX6_readWord_12 : decode cX6_readWord 12 = .ok (.aload_n 0, 1) := by decide +kernel
theorem dX6_readWord_13 : decode cX6_readWord 13 = .ok (.lconst 0, 1) := by decide +kernel
theorem dX6_readWord_14 : decode cX6_readWord 14 = .ok (.putfield 123, 3) := by decide +kernel
theorem dX6_readWord_17 : decode cX6_readWord 17 = .ok (.aload_n 0, 1) := by decide +kernel
theorem dX6_readWord_18 : decode cX6_readWord 18 = .ok (.getfield 28, 3) := by decide +kernel
theorem dX6_readWord_21 : decode cX6_readWord 21 = .ok (.aload_n 0, 1) := by decide +kernel
theorem dX6_readWord_22 : decode cX6_readWord 22 = .ok (.getfield 24, 3) := by decide +kernel
theorem dX6_readWord_25 : decode cX6_readWord 25 = .ok (.if_icmp .ge 86, 3) := by decide +kernel
theorem dX6_readWord_28 : decode cX6_readWord 28 = .ok (.aload_n 0, 1) := by decide +kernel
theorem dX6_readWord_29 : decode cX6_readWord 29 = .ok (.getfield 9, 3) := by decide +kernel
theorem dX6_readWord_32 : decode cX6_readWord 32 = .ok (.aload_n 0, 1) := by decide +kernel
theorem dX6_readWord_33 : decode cX6_readWord 33 = .ok (.getfield 28, 3) := by decide +kernel
theorem dX6_readWord_36 : decode cX6_readWord 36 = .ok (.iaload, 1) := by decide +kernel
theorem dX6_readWord_37 : decode cX6_readWord 37 = .ok (.bipush 97, 2) := by decide +kernel
theorem dX6_readWord_39 : decode cX6_readWord 39 = .ok (.if_icmp .lt 72, 3) := by decide +kernel
theorem dX6_readWord_42 : decode cX6_readWord 42 = .ok (.aload_n 0, 1) := by decide +kernel
theorem dX6_readWord_43 : decode cX6_readWord 43 = .ok (.getfield 9, 3) := by decide +kernel
theorem dX6_readWord_46 : decode cX6_readWord 46 = .ok (.aload_n 0, 1) := by decide +kernel
theorem dX6_readWord_47 : decode cX6_readWord 47 = .ok (.getfield 28, 3) := by decide +kernel
theorem dX6_readWord_50 : decode cX6_readWord 50 = .ok (.iaload, 1) := by decide +kernel
theorem dX6_readWord_51 : decode cX6_readWord 51 = .ok (.bipush 122, 2) := by decide +kernel
theorem dX6_readWord_53 : decode cX6_readWord 53 = .ok (.if_icmp .gt 58, 3) := by decide +kernel
theorem dX6_readWord_56 : decode cX6_readWord 56 = .ok (.aload_n 0, 1) := by decide +kernel
theorem dX6_readWord_57 : decode cX6_readWord 57 = .ok (.getfield 28, 3) := by decide +kernel
theorem dX6_readWord_60 : decode cX6_readWord 60 = .ok (.aload_n 0, 1) := by decide +kernel
theorem dX6_readWord_61 : decode cX6_readWord 61 = .ok (.getfield 66, 3) := by decide +kernel
theorem dX6_readWord_64 : decode cX6_readWord 64 = .ok (.isub, 1) := by decide +kernel
theorem dX6_readWord_65 : decode cX6_readWord 65 = .ok (.bipush 9, 2) := by decide +kernel
theorem dX6_readWord_67 : decode cX6_readWord 67 = .ok (.if_icmp .ge 31, 3) := by decide +kernel
theorem dX6_readWord_70 : decode cX6_readWord 70 = .ok (.aload_n 0, 1) := by decide +kernel
theorem dX6_readWord_71 : decode cX6_readWord 71 = .ok (.aload_n 0, 1) := by decide +kernel
theorem dX6_readWord_72 : decode cX6_readWord 72 = .ok (.getfield 123, 3) := by decide +kernel
theorem dX6_readWord_75 : decode cX6_readWord 75 = .ok (.ldc2_w 172, 3) := by decide +kernel
theorem dX6_readWord_78 : decode cX6_readWord 78 = .ok (.lmul, 1) := by decide +kernel
theorem dX6_readWord_79 : decode cX6_readWord 79 = .ok (.aload_n 0, 1) := by decide +kernel
theorem dX6_readWord_80 : decode cX6_readWord 80 = .ok (.getfield 9, 3) := by decide +kernel
theorem dX6_readWord_83 : decode cX6_readWord 83 = .ok (.aload_n 0, 1) := by decide +kernel
theorem dX6_readWord_84 : decode cX6_readWord 84 = .ok (.getfield 28, 3) := by decide +kernel
theorem dX6_readWord_87 : decode cX6_readWord 87 = .ok (.iaload, 1) := by decide +kernel
theorem dX6_readWord_88 : decode cX6_readWord 88 = .ok (.bipush 97, 2) := by decide +kernel
theorem dX6_readWord_90 : decode cX6_readWord 90 = .ok (.isub, 1) := by decide +kernel
theorem dX6_readWord_91 : decode cX6_readWord 91 = .ok (.iconst 1, 1) := by decide +kernel
theorem dX6_readWord_92 : decode cX6_readWord 92 = .ok (.iadd, 1) := by decide +kernel
theorem dX6_readWord_93 : decode cX6_readWord 93 = .ok (.i2l, 1) := by decide +kernel
theorem dX6_readWord_94 : decode cX6_readWord 94 = .ok (.ladd, 1) := by decide +kernel
theorem dX6_readWord_95 : decode cX6_readWord 95 = .ok (.putfield 123, 3) := by decide +kernel
theorem dX6_readWord_98 : decode cX6_readWord 98 = .ok (.aload_n 0, 1) := by decide +kernel
theorem dX6_readWord_99 : decode cX6_readWord 99 = .ok (.dup, 1) := by decide +kernel
theorem dX6_readWord_100 : decode cX6_readWord 100 = .ok (.getfield 28, 3) := by decide +kernel
theorem dX6_readWord_103 : decode cX6_readWord 103 = .ok (.iconst 1, 1) := by decide +kernel
theorem dX6_readWord_104 : decode cX6_readWord 104 = .ok (.iadd, 1) := by decide +kernel
theorem dX6_readWord_105 : decode cX6_readWord 105 = .ok (.putfield 28, 3) := by decide +kernel
theorem dX6_readWord_108 : decode cX6_readWord 108 = .ok (.goto (-91), 3) := by decide +kernel
theorem dX6_readWord_111 : decode cX6_readWord 111 = .ok (.aload_n 0, 1) := by decide +kernel
theorem dX6_readWord_112 : decode cX6_readWord 112 = .ok (.getfield 28, 3) := by decide +kernel
theorem dX6_readWord_115 : decode cX6_readWord 115 = .ok (.aload_n 0, 1) := by decide +kernel
theorem dX6_readWord_116 : decode cX6_readWord 116 = .ok (.getfield 66, 3) := by decide +kernel
theorem dX6_readWord_119 : decode cX6_readWord 119 = .ok (.if_icmp .gt 15, 3) := by decide +kernel
theorem dX6_readWord_122 : decode cX6_readWord 122 = .ok (.aload_n 0, 1) := by decide +kernel
theorem dX6_readWord_123 : decode cX6_readWord 123 = .ok (.iconst 1, 1) := by decide +kernel
theorem dX6_readWord_124 : decode cX6_readWord 124 = .ok (.aload_n 0, 1) := by decide +kernel
theorem dX6_readWord_125 : decode cX6_readWord 125 = .ok (.getfield 28, 3) := by decide +kernel
theorem dX6_readWord_128 : decode cX6_readWord 128 = .ok (.invokevirtual 49, 3) := by decide +kernel
theorem dX6_readWord_131 : decode cX6_readWord 131 = .ok (.ifCond .eq 7, 3) := by decide +kernel
theorem dX6_readWord_134 : decode cX6_readWord 134 = .ok (.iconst 1, 1) := by decide +kernel
theorem dX6_readWord_135 : decode cX6_readWord 135 = .ok (.goto 4, 3) := by decide +kernel
theorem dX6_readWord_138 : decode cX6_readWord 138 = .ok (.iconst 0, 1) := by decide +kernel
theorem dX6_readWord_139 : decode cX6_readWord 139 = .ok (.ireturn, 1) := by decide +kernel
abbrev mX6_readWord : MD := (cX6_readWord, "BlottedDeed$Scribe", 1, 2, 52, (some .boolean), "readWord", [])
def bX6_readWord_0 (g : GE) (J : Nat → KT) : KT := i_aload 0 (i_cv fX6_skipBlanks g 0 6 (i_aload 0 (i_aload 0 (i_getf 6 2 (i_putf 6 3 .int (i_aload 0 (i_push (.long 0) (i_putf 6 4 .long (i_jmp [true] (J 1))))))))))
def bX6_readWord_1 (g : GE) (J : Nat → KT) : KT := i_aload 0 (i_getf 6 2 (i_aload 0 (i_getf 6 1 (i_icge (i_jmp [true] (J 3)) (i_aload 0 (i_getf 6 0 (i_aload 0 (i_getf 6 2 (i_iaload (i_push (.int 97) (i_iclt (i_jmp [true] (J 3)) (i_aload 0 (i_getf 6 0 (i_aload 0 (i_getf 6 2 (i_iaload (i_push (.int 122) (i_icgt (i_jmp [true] (J 3)) (i_aload 0 (i_getf 6 2 (i_aload 0 (i_getf 6 3 (i_isub (i_push (.int 9) (i_icge (i_jmp [true] (J 2)) (i_aload 0 (i_aload 0 (i_getf 6 4 (i_push (.long 27) (i_lmul (i_aload 0 (i_getf 6 0 (i_aload 0 (i_getf 6 2 (i_iaload (i_push (.int 97) (i_isub (i_push (.int 1) (i_iadd (i_i2l (i_ladd (i_putf 6 4 .long (i_jmp [true] (J 2))))))))))))))))))))))))))))))))))))))))))))
def bX6_readWord_2 (g : GE) (J : Nat → KT) : KT := i_aload 0 (i_dup (i_getf 6 2 (i_push (.int 1) (i_iadd (i_putf 6 2 .int (i_jmp [true] (J 1)))))))
def bX6_readWord_3 (g : GE) (J : Nat → KT) : KT := i_aload 0 (i_getf 6 2 (i_aload 0 (i_getf 6 3 (i_icgt (i_jmp [false] (J 4)) (i_aload 0 (i_push (.int 1) (i_aload 0 (i_getf 6 2 (i_cv fX6_fail g 2 6 (i_ifeq (i_push (.int 0) (i_jmp [false] (J 5))) (i_jmp [false] (J 4))))))))))))
def bX6_readWord_4 (g : GE) (J : Nat → KT) : KT := i_push (.int 1) (i_jmp [false] (J 5))
def bX6_readWord_5 (g : GE) (J : Nat → KT) : KT := i_zreturn
theorem sbX6_readWord_0 (g : GE) (J : Nat → KT) (h1 : Snd mX6_readWord g 17 (J 1)) (h2 : Snd mX6_readWord g 98 (J 2)) (h3 : Snd mX6_readWord g 111 (J 3)) (h4 : Snd mX6_readWord g 134 (J 4)) (h5 : Snd mX6_readWord g 139 (J 5)) : Snd mX6_readWord g 0 (bX6_readWord_0 g J) := by
  unfold bX6_readWord_0
  refine s_aload_n (pc := 0) (i := 0) ?_ dX6_readWord_0 rfl
  refine s_cv (pc := 1) (n := 0) (ci := 6) ?_ tX6_skipBlanks rfl rfl wt_705 wt_707 wp_10 wt_7 wt_708 ⟨crX6_skipBlanks, by decide, by decide⟩ dX6_readWord_1
  refine s_aload_n (pc := 4) (i := 0) ?_ dX6_readWord_4 rfl
  refine s_aload_n (pc := 5) (i := 0) ?_ dX6_readWord_5 rfl
  refine s_getf (pc := 6) (ci := 6) (f := 2) (T := TX6) ?_ ginX6 rfl (by decide) wt_197 dX6_readWord_6
  refine s_putf (pc := 9) (ci := 6) (f := 3) (T := TX6) (ty0 := tyX6) ?_ ginX6 tyX6_ok nmX6 rfl (by decide) rfl rfl wt_198 dX6_readWord_9
  refine s_aload_n (pc := 12) (i := 0) ?_ dX6_readWord_12 rfl
  refine s_lconst (pc := 13) (v := 0) ?_ dX6_readWord_13 (by decide)
  refine s_putf (pc := 14) (ci := 6) (f := 4) (T := TX6) (ty0 := tyX6) ?_ ginX6 tyX6_ok nmX6 rfl (by decide) rfl rfl wt_199 dX6_readWord_14
  exact s_fall (pc := 17) h1
theorem sbX6_readWord_1 (g : GE) (J : Nat → KT) (h1 : Snd mX6_readWord g 17 (J 1)) (h2 : Snd mX6_readWord g 98 (J 2)) (h3 : Snd mX6_readWord g 111 (J 3)) (h4 : Snd mX6_readWord g 134 (J 4)) (h5 : Snd mX6_readWord g 139 (J 5)) : Snd mX6_readWord g 17 (bX6_readWord_1 g J) := by
  unfold bX6_readWord_1
  refine s_aload_n (pc := 17) (i := 0) ?_ dX6_readWord_17 rfl
  refine s_getf (pc := 18) (ci := 6) (f := 2) (T := TX6) ?_ ginX6 rfl (by decide) wt_197 dX6_readWord_18
  refine s_aload_n (pc := 21) (i := 0) ?_ dX6_readWord_21 rfl
  refine s_getf (pc := 22) (ci := 6) (f := 1) (T := TX6) ?_ ginX6 rfl (by decide) wt_196 dX6_readWord_22
  refine s_icge (pc := 25) (tgt := 111) ?_ ?_ dX6_readWord_25 (by decide)
  · skip
    exact s_fall (pc := 111) h3
  · skip
    refine s_aload_n (pc := 28) (i := 0) ?_ dX6_readWord_28 rfl
    refine s_getf (pc := 29) (ci := 6) (f := 0) (T := TX6) ?_ ginX6 rfl (by decide) wt_195 dX6_readWord_29
    refine s_aload_n (pc := 32) (i := 0) ?_ dX6_readWord_32 rfl
    refine s_getf (pc := 33) (ci := 6) (f := 2) (T := TX6) ?_ ginX6 rfl (by decide) wt_197 dX6_readWord_33
    refine s_iaload (pc := 36) ?_ dX6_readWord_36
    refine s_bipush (pc := 37) (v := 97) ?_ dX6_readWord_37 (by decide)
    refine s_iclt (pc := 39) (tgt := 111) ?_ ?_ dX6_readWord_39 (by decide)
    · skip
      exact s_fall (pc := 111) h3
    · skip
      refine s_aload_n (pc := 42) (i := 0) ?_ dX6_readWord_42 rfl
      refine s_getf (pc := 43) (ci := 6) (f := 0) (T := TX6) ?_ ginX6 rfl (by decide) wt_195 dX6_readWord_43
      refine s_aload_n (pc := 46) (i := 0) ?_ dX6_readWord_46 rfl
      refine s_getf (pc := 47) (ci := 6) (f := 2) (T := TX6) ?_ ginX6 rfl (by decide) wt_197 dX6_readWord_47
      refine s_iaload (pc := 50) ?_ dX6_readWord_50
      refine s_bipush (pc := 51) (v := 122) ?_ dX6_readWord_51 (by decide)
      refine s_icgt (pc := 53) (tgt := 111) ?_ ?_ dX6_readWord_53 (by decide)
      · skip
        exact s_fall (pc := 111) h3
      · skip
        refine s_aload_n (pc := 56) (i := 0) ?_ dX6_readWord_56 rfl
        refine s_getf (pc := 57) (ci := 6) (f := 2) (T := TX6) ?_ ginX6 rfl (by decide) wt_197 dX6_readWord_57
        refine s_aload_n (pc := 60) (i := 0) ?_ dX6_readWord_60 rfl
        refine s_getf (pc := 61) (ci := 6) (f := 3) (T := TX6) ?_ ginX6 rfl (by decide) wt_198 dX6_readWord_61
        refine s_isub (pc := 64) ?_ dX6_readWord_64
        refine s_bipush (pc := 65) (v := 9) ?_ dX6_readWord_65 (by decide)
        refine s_icge (pc := 67) (tgt := 98) ?_ ?_ dX6_readWord_67 (by decide)
        · skip
          exact s_fall (pc := 98) h2
        · skip
          refine s_aload_n (pc := 70) (i := 0) ?_ dX6_readWord_70 rfl
          refine s_aload_n (pc := 71) (i := 0) ?_ dX6_readWord_71 rfl
          refine s_getf (pc := 72) (ci := 6) (f := 4) (T := TX6) ?_ ginX6 rfl (by decide) wt_199 dX6_readWord_72
          refine s_ldc2 (pc := 75) (v := 27) ?_ wt_717 dX6_readWord_75
          refine s_lmul (pc := 78) ?_ dX6_readWord_78
          refine s_aload_n (pc := 79) (i := 0) ?_ dX6_readWord_79 rfl
          refine s_getf (pc := 80) (ci := 6) (f := 0) (T := TX6) ?_ ginX6 rfl (by decide) wt_195 dX6_readWord_80
          refine s_aload_n (pc := 83) (i := 0) ?_ dX6_readWord_83 rfl
          refine s_getf (pc := 84) (ci := 6) (f := 2) (T := TX6) ?_ ginX6 rfl (by decide) wt_197 dX6_readWord_84
          refine s_iaload (pc := 87) ?_ dX6_readWord_87
          refine s_bipush (pc := 88) (v := 97) ?_ dX6_readWord_88 (by decide)
          refine s_isub (pc := 90) ?_ dX6_readWord_90
          refine s_iconst (pc := 91) (v := 1) ?_ dX6_readWord_91 (by decide)
          refine s_iadd (pc := 92) ?_ dX6_readWord_92
          refine s_i2l (pc := 93) ?_ dX6_readWord_93
          refine s_ladd (pc := 94) ?_ dX6_readWord_94
          refine s_putf (pc := 95) (ci := 6) (f := 4) (T := TX6) (ty0 := tyX6) ?_ ginX6 tyX6_ok nmX6 rfl (by decide) rfl rfl wt_199 dX6_readWord_95
          exact s_fall (pc := 98) h2
theorem sbX6_readWord_2 (g : GE) (J : Nat → KT) (h1 : Snd mX6_readWord g 17 (J 1)) (h2 : Snd mX6_readWord g 98 (J 2)) (h3 : Snd mX6_readWord g 111 (J 3)) (h4 : Snd mX6_readWord g 134 (J 4)) (h5 : Snd mX6_readWord g 139 (J 5)) : Snd mX6_readWord g 98 (bX6_readWord_2 g J) := by
  unfold bX6_readWord_2
  refine s_aload_n (pc := 98) (i := 0) ?_ dX6_readWord_98 rfl
  refine s_dup (pc := 99) ?_ dX6_readWord_99
  refine s_getf (pc := 100) (ci := 6) (f := 2) (T := TX6) ?_ ginX6 rfl (by decide) wt_197 dX6_readWord_100
  refine s_iconst (pc := 103) (v := 1) ?_ dX6_readWord_103 (by decide)
  refine s_iadd (pc := 104) ?_ dX6_readWord_104
  refine s_putf (pc := 105) (ci := 6) (f := 2) (T := TX6) (ty0 := tyX6) ?_ ginX6 tyX6_ok nmX6 rfl (by decide) rfl rfl wt_197 dX6_readWord_105
  exact s_goto (pc := 108) (tgt := 17) h1 dX6_readWord_108 (by decide)
theorem sbX6_readWord_3 (g : GE) (J : Nat → KT) (h1 : Snd mX6_readWord g 17 (J 1)) (h2 : Snd mX6_readWord g 98 (J 2)) (h3 : Snd mX6_readWord g 111 (J 3)) (h4 : Snd mX6_readWord g 134 (J 4)) (h5 : Snd mX6_readWord g 139 (J 5)) : Snd mX6_readWord g 111 (bX6_readWord_3 g J) := by
  unfold bX6_readWord_3
  refine s_aload_n (pc := 111) (i := 0) ?_ dX6_readWord_111 rfl
  refine s_getf (pc := 112) (ci := 6) (f := 2) (T := TX6) ?_ ginX6 rfl (by decide) wt_197 dX6_readWord_112
  refine s_aload_n (pc := 115) (i := 0) ?_ dX6_readWord_115 rfl
  refine s_getf (pc := 116) (ci := 6) (f := 3) (T := TX6) ?_ ginX6 rfl (by decide) wt_198 dX6_readWord_116
  refine s_icgt (pc := 119) (tgt := 134) ?_ ?_ dX6_readWord_119 (by decide)
  · skip
    exact s_fall (pc := 134) h4
  · skip
    refine s_aload_n (pc := 122) (i := 0) ?_ dX6_readWord_122 rfl
    refine s_iconst (pc := 123) (v := 1) ?_ dX6_readWord_123 (by decide)
    refine s_aload_n (pc := 124) (i := 0) ?_ dX6_readWord_124 rfl
    refine s_getf (pc := 125) (ci := 6) (f := 2) (T := TX6) ?_ ginX6 rfl (by decide) wt_197 dX6_readWord_125
    refine s_cv (pc := 128) (n := 2) (ci := 6) ?_ tX6_fail rfl rfl wt_718 wt_720 wp_13 wt_7 wt_721 ⟨crX6_fail, by decide, by decide⟩ dX6_readWord_128
    refine s_ifeq (pc := 131) (tgt := 138) ?_ ?_ dX6_readWord_131 (by decide)
    · skip
      refine s_iconst (pc := 138) (v := 0) ?_ dX6_readWord_138 (by decide)
      exact s_fall (pc := 139) h5
    · skip
      exact s_fall (pc := 134) h4
theorem sbX6_readWord_4 (g : GE) (J : Nat → KT) (h1 : Snd mX6_readWord g 17 (J 1)) (h2 : Snd mX6_readWord g 98 (J 2)) (h3 : Snd mX6_readWord g 111 (J 3)) (h4 : Snd mX6_readWord g 134 (J 4)) (h5 : Snd mX6_readWord g 139 (J 5)) : Snd mX6_readWord g 134 (bX6_readWord_4 g J) := by
  unfold bX6_readWord_4
  refine s_iconst (pc := 134) (v := 1) ?_ dX6_readWord_134 (by decide)
  exact s_goto (pc := 135) (tgt := 139) h5 dX6_readWord_135 (by decide)
theorem sbX6_readWord_5 (g : GE) (J : Nat → KT) (h1 : Snd mX6_readWord g 17 (J 1)) (h2 : Snd mX6_readWord g 98 (J 2)) (h3 : Snd mX6_readWord g 111 (J 3)) (h4 : Snd mX6_readWord g 134 (J 4)) (h5 : Snd mX6_readWord g 139 (J 5)) : Snd mX6_readWord g 139 (bX6_readWord_5 g J) := by
  unfold bX6_readWord_5
  exact s_zreturn (pc := 139) rfl dX6_readWord_139
def jX6_readWord (g : GE) : Nat → Nat → KT
  | 0, _ => fun _ _ _ => none
  | n + 1, 0 => bX6_readWord_0 g (jX6_readWord g n)
  | n + 1, 1 => bX6_readWord_1 g (jX6_readWord g n)
  | n + 1, 2 => bX6_readWord_2 g (jX6_readWord g n)
  | n + 1, 3 => bX6_readWord_3 g (jX6_readWord g n)
  | n + 1, 4 => bX6_readWord_4 g (jX6_readWord g n)
  | n + 1, 5 => bX6_readWord_5 g (jX6_readWord g n)
  | _ + 1, _ + 6 => fun _ _ _ => none
theorem sjX6_readWord (g : GE) : ∀ n, Snd mX6_readWord g 0 (jX6_readWord g n 0) ∧ Snd mX6_readWord g 17 (jX6_readWord g n 1) ∧ Snd mX6_readWord g 98 (jX6_readWord g n 2) ∧ Snd mX6_readWord g 111 (jX6_readWord g n 3) ∧ Snd mX6_readWord g 134 (jX6_readWord g n 4) ∧ Snd mX6_readWord g 139 (jX6_readWord g n 5)
  | 0 => ⟨s_none, s_none, s_none, s_none, s_none, s_none⟩
  | n + 1 => by
    obtain ⟨-, h1, h2, h3, h4, h5⟩ := sjX6_readWord g n
    exact ⟨sbX6_readWord_0 g _ h1 h2 h3 h4 h5, sbX6_readWord_1 g _ h1 h2 h3 h4 h5, sbX6_readWord_2 g _ h1 h2 h3 h4 h5, sbX6_readWord_3 g _ h1 h2 h3 h4 h5, sbX6_readWord_4 g _ h1 h2 h3 h4 h5, sbX6_readWord_5 g _ h1 h2 h3 h4 h5⟩
def kX6_readWord (g : GE) : KT := jX6_readWord g g.1 0
theorem sX6_readWord (g : GE) : Snd mX6_readWord g 0 (kX6_readWord g) := (sjX6_readWord g g.1).1
def fX6_readWord : FT := fun g av w => if (ent av).length ≤ 1 then kX6_readWord g [] (entp 1 av) w else none
theorem tX6_readWord : Mt yX6_readWord cX6_readWord 1 (some .boolean) 2 52 fX6_readWord := Mt.of (K := kX6_readWord) (by decide +kernel) (fun _ _ _ => rfl) sX6_readWord
theorem crX6_readWord : yX6_readWord.cls ≠ "java/lang/invoke/MethodHandle" ∧ yX6_readWord.cls ≠ "java/lang/invoke/VarHandle" ∧ (parseMethodDescriptor yX6_readWord.desc).map (fun d => d.parameters.length) = some 0 := by decide +kernel
