/-! ===== the law: its turns ===== -/
theorem csk_4 {F : FT} {g : GE} {k : KT} {x y z u : Value} {r : List Value} {lv : Lv} {w w1 : Mem} {v : Option Value} (hF : F g [x, y, z, u] w = some (.inl v, w1)) (hr : r.length ≤ 4) : i_cs F g 4 k (u :: z :: y :: x :: r) lv w = k (v.toList ++ r) lv w1 := by
  unfold i_cs
  simp [hF, hr]
theorem csk_5 {F : FT} {g : GE} {k : KT} {x y z u v0 : Value} {r : List Value} {lv : Lv} {w w1 : Mem} {v : Option Value} (hF : F g [x, y, z, u, v0] w = some (.inl v, w1)) (hr : r.length ≤ 4) : i_cs F g 5 k (v0 :: u :: z :: y :: x :: r) lv w = k (v.toList ++ r) lv w1 := by
  unfold i_cs
  simp [hF, hr]
theorem thrown_sp {g : GE} {w : Mem} {M : Nat} {x : Nat → Int32} (hO : MO w M x) : fX11_thrown g [.ref M] w = some (.inl (some (.int (x 0))), w) := by
  simp [fX11_thrown, kX11_thrown, ent, entp, bX11_thrown_0, i_aload, i_getf, i_ireturn, msk, lset1, lset2, clr, Value.category, Option.toList, List.cons_append, List.nil_append, List.length_cons, List.length_nil, gf_eq hO, mg_0]
def LVs (g : GE) (B i : Nat) : Lv := [some (.ref g.2.2.2.2.2.1), some (.ref B), some (.ref (B + 132)), some (.ref (B + 311)), some (.int (nI (6 * i))), none, none, none]
/-- the script's ints of a turn -/
def SCx (g : GE) (i : Nat) : Prop := ∀ k, k < 6 → ix (nI (6 * i + k)) g.2.2.2.2.2.2.1 = some (6 * i + k)
section
variable {g : GE} {w : Mem} {B i c0 s0 : Nat}
theorem lb_feed (hg : GD g) (hS : SCx g i) (h : LWi g w B i c0 s0) (F : Nat) : ∃ f' w', F ≤ f' ∧ LWi g w' B (i + 1) c0 s0 ∧ jL_law g (F + 4) 2 [] (LVs g B i) w = jL_law g f' 1 [] (LVs g B (i + 1)) w' := by
  obtain ⟨s, lev, nG, h⟩ := h
  have a1 : nI (6 * i) + 1 = nI (6 * i + 1) := nI_add (6 * i) 1
  have z1 := hS 1 (by decide)
  have a2 : nI (6 * i) + 2 = nI (6 * i + 2) := nI_add (6 * i) 2
  have z2 := hS 2 (by decide)
  have a3 : nI (6 * i) + 3 = nI (6 * i + 3) := nI_add (6 * i) 3
  have z3 := hS 3 (by decide)
  have a4 : nI (6 * i) + 4 = nI (6 * i + 4) := nI_add (6 * i) 4
  have z4 := hS 4 (by decide)
  have a5 : nI (6 * i) + 5 = nI (6 * i + 5) := nI_add (6 * i) 5
  have z5 := hS 5 (by decide)
  have a6 : nI (6 * i) + 6 = nI (6 * (i + 1)) := nI_add (6 * i) 6
  obtain ⟨fs, hO⟩ := h.ob
  obtain ⟨v, w1, x1, w2, e1, o1, e2, hL⟩ := ly_feed hg h (g.2.2.2.2.2.2.2 (6 * i + 1)) (g.2.2.2.2.2.2.2 (6 * i + 2)) (g.2.2.2.2.2.2.2 (6 * i + 3)) (g.2.2.2.2.2.2.2 (6 * i + 4)) (g.2.2.2.2.2.2.2 (6 * i + 5))
  refine ⟨F + 2, w2, by omega, hL, ?_⟩
  rw [show F + 4 = (F + 2) + 2 from rfl]
  generalize F + 2 = FF
  clear hL h hS
  simp [LVs, jL_law, bL_law_2, bL_law_79, i_aload, i_iload, i_push, i_iadd, i_sli, i_istore, i_iceq, i_ifne, i_ifeq, i_laload, i_i2l, i_lcmp, i_zreturn, i_jmp, i_iinc, i_lstore, i_lload, msk, lset1, lset2, clr, Value.category, Option.toList, List.cons_append, List.nil_append, List.length_cons, List.length_nil, a1, z1, a2, z2, a3, z3, a4, z4, a5, z5, a6, cvk_5 hO e1, cvk_5 o1 e2]
theorem lb_deed (hg : GD g) (hS : SCx g i) (h : LWi g w B i c0 s0) (F : Nat) : ∃ f' w', F ≤ f' ∧ LWi g w' B (i + 1) c0 s0 ∧ jL_law g (F + 4) 3 [] (LVs g B i) w = jL_law g f' 1 [] (LVs g B (i + 1)) w' := by
  obtain ⟨s, lev, nG, h⟩ := h
  have a1 : nI (6 * i) + 1 = nI (6 * i + 1) := nI_add (6 * i) 1
  have z1 := hS 1 (by decide)
  have a6 : nI (6 * i) + 6 = nI (6 * (i + 1)) := nI_add (6 * i) 6
  obtain ⟨k, w1, x1, v, w2, x2, e1, o1, e2, o2, e3, e4, hL⟩ := ly_deed hg h (g.2.2.2.2.2.2.2 (6 * i + 1))
  have th := thrown_sp (g := g) o2
  rw [e3] at th
  refine ⟨F + 1, w2, by omega, hL, ?_⟩
  rw [show F + 4 = (F + 1) + 3 from rfl]
  generalize F + 1 = FF
  by_cases y : k = 0
  · subst y
    have e5 := e4 rfl
    have e6 : lg_cmp v.toInt64 v.toInt64 = 0 := cz_y rfl
    clear hL h hS e4
    simp [LVs, jL_law, bL_law_3, bL_law_4, bL_law_79, i_aload, i_iload, i_push, i_iadd, i_sli, i_istore, i_iceq, i_ifne, i_ifeq, i_laload, i_i2l, i_lcmp, i_zreturn, i_jmp, i_iinc, i_lstore, i_lload, msk, lset1, lset2, clr, Value.category, Option.toList, List.cons_append, List.nil_append, List.length_cons, List.length_nil, a1, z1, a6, csk_3 e1, cvk_1 o1 e2, cvk_0 o2 th, e5, e6]
  · clear hL h hS e4
    simp [LVs, jL_law, bL_law_3, bL_law_4, bL_law_79, i_aload, i_iload, i_push, i_iadd, i_sli, i_istore, i_iceq, i_ifne, i_ifeq, i_laload, i_i2l, i_lcmp, i_zreturn, i_jmp, i_iinc, i_lstore, i_lload, msk, lset1, lset2, clr, Value.category, Option.toList, List.cons_append, List.nil_append, List.length_cons, List.length_nil, a1, z1, a6, csk_3 e1, cvk_1 o1 e2, cvk_0 o2 th, y]
theorem lb_fault (hg : GD g) (hS : SCx g i) (h : LWi g w B i c0 s0) (F : Nat) : ∃ f' w', F ≤ f' ∧ LWi g w' B (i + 1) c0 s0 ∧ jL_law g (F + 4) 5 [] (LVs g B i) w = jL_law g f' 1 [] (LVs g B (i + 1)) w' := by
  obtain ⟨s, lev, nG, h⟩ := h
  have a6 : nI (6 * i) + 6 = nI (6 * (i + 1)) := nI_add (6 * i) 6
  obtain ⟨fs, hO⟩ := h.ob
  obtain ⟨v, w1, x1, w2, e1, o1, e2, hL⟩ := ly_fault hg h
  refine ⟨F + 2, w2, by omega, hL, ?_⟩
  rw [show F + 4 = (F + 2) + 2 from rfl]
  generalize F + 2 = FF
  clear hL h hS
  simp [LVs, jL_law, bL_law_5, bL_law_79, i_aload, i_iload, i_push, i_iadd, i_sli, i_istore, i_iceq, i_ifne, i_ifeq, i_laload, i_i2l, i_lcmp, i_zreturn, i_jmp, i_iinc, i_lstore, i_lload, msk, lset1, lset2, clr, Value.category, Option.toList, List.cons_append, List.nil_append, List.length_cons, List.length_nil, a6, cvk_0 hO e1, cvk_0 o1 e2]
theorem lb_told (hg : GD g) (hS : SCx g i) (h : LWi g w B i c0 s0) (F : Nat) : ∃ f' w', F ≤ f' ∧ LWi g w' B (i + 1) c0 s0 ∧ jL_law g (F + 4) 6 [] (LVs g B i) w = jL_law g f' 1 [] (LVs g B (i + 1)) w' := by
  obtain ⟨s, lev, nG, h⟩ := h
  have a1 : nI (6 * i) + 1 = nI (6 * i + 1) := nI_add (6 * i) 1
  have z1 := hS 1 (by decide)
  have a6 : nI (6 * i) + 6 = nI (6 * (i + 1)) := nI_add (6 * i) 6
  obtain ⟨k, w1, x1, v, w2, x2, e1, o1, e2, o2, e3, e4, hL⟩ := ly_told hg h (g.2.2.2.2.2.2.2 (6 * i + 1))
  have th := thrown_sp (g := g) o2
  rw [e3] at th
  refine ⟨F + 1, w2, by omega, hL, ?_⟩
  rw [show F + 4 = (F + 1) + 3 from rfl]
  generalize F + 1 = FF
  by_cases y : k = 0
  · subst y
    have e5 := e4 rfl
    have e6 : lg_cmp v.toInt64 v.toInt64 = 0 := cz_y rfl
    clear hL h hS e4
    simp [LVs, jL_law, bL_law_6, bL_law_7, bL_law_79, i_aload, i_iload, i_push, i_iadd, i_sli, i_istore, i_iceq, i_ifne, i_ifeq, i_laload, i_i2l, i_lcmp, i_zreturn, i_jmp, i_iinc, i_lstore, i_lload, msk, lset1, lset2, clr, Value.category, Option.toList, List.cons_append, List.nil_append, List.length_cons, List.length_nil, a1, z1, a6, csk_3 e1, cvk_1 o1 e2, cvk_0 o2 th, e5, e6]
  · clear hL h hS e4
    simp [LVs, jL_law, bL_law_6, bL_law_7, bL_law_79, i_aload, i_iload, i_push, i_iadd, i_sli, i_istore, i_iceq, i_ifne, i_ifeq, i_laload, i_i2l, i_lcmp, i_zreturn, i_jmp, i_iinc, i_lstore, i_lload, msk, lset1, lset2, clr, Value.category, Option.toList, List.cons_append, List.nil_append, List.length_cons, List.length_nil, a1, z1, a6, csk_3 e1, cvk_1 o1 e2, cvk_0 o2 th, y]
theorem lb_blot (hg : GD g) (hS : SCx g i) (h : LWi g w B i c0 s0) (F : Nat) : ∃ f' w', F ≤ f' ∧ LWi g w' B (i + 1) c0 s0 ∧ jL_law g (F + 4) 8 [] (LVs g B i) w = jL_law g f' 1 [] (LVs g B (i + 1)) w' := by
  obtain ⟨s, lev, nG, h⟩ := h
  have a1 : nI (6 * i) + 1 = nI (6 * i + 1) := nI_add (6 * i) 1
  have z1 := hS 1 (by decide)
  have a2 : nI (6 * i) + 2 = nI (6 * i + 2) := nI_add (6 * i) 2
  have z2 := hS 2 (by decide)
  have a6 : nI (6 * i) + 6 = nI (6 * (i + 1)) := nI_add (6 * i) 6
  obtain ⟨k, w1, x1, v, w2, x2, e1, o1, e2, o2, e3, e4, hL⟩ := ly_blot hg h (g.2.2.2.2.2.2.2 (6 * i + 1)) (g.2.2.2.2.2.2.2 (6 * i + 2))
  have th := thrown_sp (g := g) o2
  rw [e3] at th
  refine ⟨F + 1, w2, by omega, hL, ?_⟩
  rw [show F + 4 = (F + 1) + 3 from rfl]
  generalize F + 1 = FF
  by_cases y : k = 0
  · subst y
    have e5 := e4 rfl
    have e6 : lg_cmp v.toInt64 v.toInt64 = 0 := cz_y rfl
    clear hL h hS e4
    simp [LVs, jL_law, bL_law_8, bL_law_9, bL_law_79, i_aload, i_iload, i_push, i_iadd, i_sli, i_istore, i_iceq, i_ifne, i_ifeq, i_laload, i_i2l, i_lcmp, i_zreturn, i_jmp, i_iinc, i_lstore, i_lload, msk, lset1, lset2, clr, Value.category, Option.toList, List.cons_append, List.nil_append, List.length_cons, List.length_nil, a1, z1, a2, z2, a6, csk_4 e1, cvk_2 o1 e2, cvk_0 o2 th, e5, e6]
  · clear hL h hS e4
    simp [LVs, jL_law, bL_law_8, bL_law_9, bL_law_79, i_aload, i_iload, i_push, i_iadd, i_sli, i_istore, i_iceq, i_ifne, i_ifeq, i_laload, i_i2l, i_lcmp, i_zreturn, i_jmp, i_iinc, i_lstore, i_lload, msk, lset1, lset2, clr, Value.category, Option.toList, List.cons_append, List.nil_append, List.length_cons, List.length_nil, a1, z1, a2, z2, a6, csk_4 e1, cvk_2 o1 e2, cvk_0 o2 th, y]
theorem lb_candidate (hg : GD g) (hS : SCx g i) (h : LWi g w B i c0 s0) (F : Nat) : ∃ f' w', F ≤ f' ∧ LWi g w' B (i + 1) c0 s0 ∧ jL_law g (F + 4) 10 [] (LVs g B i) w = jL_law g f' 1 [] (LVs g B (i + 1)) w' := by
  obtain ⟨s, lev, nG, h⟩ := h
  have a1 : nI (6 * i) + 1 = nI (6 * i + 1) := nI_add (6 * i) 1
  have z1 := hS 1 (by decide)
  have a2 : nI (6 * i) + 2 = nI (6 * i + 2) := nI_add (6 * i) 2
  have z2 := hS 2 (by decide)
  have a6 : nI (6 * i) + 6 = nI (6 * (i + 1)) := nI_add (6 * i) 6
  obtain ⟨k, w1, x1, v, w2, x2, e1, o1, e2, o2, e3, e4, hL⟩ := ly_candidate hg h (g.2.2.2.2.2.2.2 (6 * i + 1)) (g.2.2.2.2.2.2.2 (6 * i + 2))
  have th := thrown_sp (g := g) o2
  rw [e3] at th
  refine ⟨F + 1, w2, by omega, hL, ?_⟩
  rw [show F + 4 = (F + 1) + 3 from rfl]
  generalize F + 1 = FF
  by_cases y : k = 0
  · subst y
    have e5 := e4 rfl
    have e6 : lg_cmp v.toInt64 v.toInt64 = 0 := cz_y rfl
    clear hL h hS e4
    simp [LVs, jL_law, bL_law_10, bL_law_11, bL_law_79, i_aload, i_iload, i_push, i_iadd, i_sli, i_istore, i_iceq, i_ifne, i_ifeq, i_laload, i_i2l, i_lcmp, i_zreturn, i_jmp, i_iinc, i_lstore, i_lload, msk, lset1, lset2, clr, Value.category, Option.toList, List.cons_append, List.nil_append, List.length_cons, List.length_nil, a1, z1, a2, z2, a6, csk_4 e1, cvk_2 o1 e2, cvk_0 o2 th, e5, e6]
  · clear hL h hS e4
    simp [LVs, jL_law, bL_law_10, bL_law_11, bL_law_79, i_aload, i_iload, i_push, i_iadd, i_sli, i_istore, i_iceq, i_ifne, i_ifeq, i_laload, i_i2l, i_lcmp, i_zreturn, i_jmp, i_iinc, i_lstore, i_lload, msk, lset1, lset2, clr, Value.category, Option.toList, List.cons_append, List.nil_append, List.length_cons, List.length_nil, a1, z1, a2, z2, a6, csk_4 e1, cvk_2 o1 e2, cvk_0 o2 th, y]
theorem lb_readings (hg : GD g) (hS : SCx g i) (h : LWi g w B i c0 s0) (F : Nat) : ∃ f' w', F ≤ f' ∧ LWi g w' B (i + 1) c0 s0 ∧ jL_law g (F + 4) 12 [] (LVs g B i) w = jL_law g f' 1 [] (LVs g B (i + 1)) w' := by
  obtain ⟨s, lev, nG, h⟩ := h
  have a6 : nI (6 * i) + 6 = nI (6 * (i + 1)) := nI_add (6 * i) 6
  obtain ⟨fs, hO⟩ := h.ob
  obtain ⟨v, w1, x1, w2, e1, o1, e2, hL⟩ := ly_readings hg h
  refine ⟨F + 2, w2, by omega, hL, ?_⟩
  rw [show F + 4 = (F + 2) + 2 from rfl]
  generalize F + 2 = FF
  clear hL h hS
  simp [LVs, jL_law, bL_law_12, bL_law_79, i_aload, i_iload, i_push, i_iadd, i_sli, i_istore, i_iceq, i_ifne, i_ifeq, i_laload, i_i2l, i_lcmp, i_zreturn, i_jmp, i_iinc, i_lstore, i_lload, msk, lset1, lset2, clr, Value.category, Option.toList, List.cons_append, List.nil_append, List.length_cons, List.length_nil, a6, cvk_0 hO e1, cvk_0 o1 e2]
theorem lb_reading (hg : GD g) (hS : SCx g i) (h : LWi g w B i c0 s0) (F : Nat) : ∃ f' w', F ≤ f' ∧ LWi g w' B (i + 1) c0 s0 ∧ jL_law g (F + 4) 13 [] (LVs g B i) w = jL_law g f' 1 [] (LVs g B (i + 1)) w' := by
  obtain ⟨s, lev, nG, h⟩ := h
  have a1 : nI (6 * i) + 1 = nI (6 * i + 1) := nI_add (6 * i) 1
  have z1 := hS 1 (by decide)
  have a2 : nI (6 * i) + 2 = nI (6 * i + 2) := nI_add (6 * i) 2
  have z2 := hS 2 (by decide)
  have a6 : nI (6 * i) + 6 = nI (6 * (i + 1)) := nI_add (6 * i) 6
  obtain ⟨k, w1, x1, v, w2, x2, e1, o1, e2, o2, e3, e4, hL⟩ := ly_reading hg h (g.2.2.2.2.2.2.2 (6 * i + 1)) (g.2.2.2.2.2.2.2 (6 * i + 2))
  have th := thrown_sp (g := g) o2
  rw [e3] at th
  refine ⟨F + 1, w2, by omega, hL, ?_⟩
  rw [show F + 4 = (F + 1) + 3 from rfl]
  generalize F + 1 = FF
  by_cases y : k = 0
  · subst y
    have e5 := e4 rfl
    have e6 : lg_cmp v.toInt64 v.toInt64 = 0 := cz_y rfl
    clear hL h hS e4
    simp [LVs, jL_law, bL_law_13, bL_law_14, bL_law_79, i_aload, i_iload, i_push, i_iadd, i_sli, i_istore, i_iceq, i_ifne, i_ifeq, i_laload, i_i2l, i_lcmp, i_zreturn, i_jmp, i_iinc, i_lstore, i_lload, msk, lset1, lset2, clr, Value.category, Option.toList, List.cons_append, List.nil_append, List.length_cons, List.length_nil, a1, z1, a2, z2, a6, csk_4 e1, cvk_2 o1 e2, cvk_0 o2 th, e5, e6]
  · clear hL h hS e4
    simp [LVs, jL_law, bL_law_13, bL_law_14, bL_law_79, i_aload, i_iload, i_push, i_iadd, i_sli, i_istore, i_iceq, i_ifne, i_ifeq, i_laload, i_i2l, i_lcmp, i_zreturn, i_jmp, i_iinc, i_lstore, i_lload, msk, lset1, lset2, clr, Value.category, Option.toList, List.cons_append, List.nil_append, List.length_cons, List.length_nil, a1, z1, a2, z2, a6, csk_4 e1, cvk_2 o1 e2, cvk_0 o2 th, y]
theorem lb_alive (hg : GD g) (hS : SCx g i) (h : LWi g w B i c0 s0) (F : Nat) : ∃ f' w', F ≤ f' ∧ LWi g w' B (i + 1) c0 s0 ∧ jL_law g (F + 4) 15 [] (LVs g B i) w = jL_law g f' 1 [] (LVs g B (i + 1)) w' := by
  obtain ⟨s, lev, nG, h⟩ := h
  have a1 : nI (6 * i) + 1 = nI (6 * i + 1) := nI_add (6 * i) 1
  have z1 := hS 1 (by decide)
  have a6 : nI (6 * i) + 6 = nI (6 * (i + 1)) := nI_add (6 * i) 6
  obtain ⟨k, w1, x1, v, w2, x2, e1, o1, e2, o2, e3, e4, hL⟩ := ly_alive hg h (g.2.2.2.2.2.2.2 (6 * i + 1))
  have th := thrown_sp (g := g) o2
  rw [e3] at th
  refine ⟨F + 1, w2, by omega, hL, ?_⟩
  rw [show F + 4 = (F + 1) + 3 from rfl]
  generalize F + 1 = FF
  by_cases y : k = 0
  · subst y
    have e5 := e4 rfl
    have e6 : lg_cmp v.toInt64 v.toInt64 = 0 := cz_y rfl
    clear hL h hS e4
    simp [LVs, jL_law, bL_law_15, bL_law_16, bL_law_79, i_aload, i_iload, i_push, i_iadd, i_sli, i_istore, i_iceq, i_ifne, i_ifeq, i_laload, i_i2l, i_lcmp, i_zreturn, i_jmp, i_iinc, i_lstore, i_lload, msk, lset1, lset2, clr, Value.category, Option.toList, List.cons_append, List.nil_append, List.length_cons, List.length_nil, a1, z1, a6, csk_3 e1, cvk_1 o1 e2, cvk_0 o2 th, e5, e6]
  · clear hL h hS e4
    simp [LVs, jL_law, bL_law_15, bL_law_16, bL_law_79, i_aload, i_iload, i_push, i_iadd, i_sli, i_istore, i_iceq, i_ifne, i_ifeq, i_laload, i_i2l, i_lcmp, i_zreturn, i_jmp, i_iinc, i_lstore, i_lload, msk, lset1, lset2, clr, Value.category, Option.toList, List.cons_append, List.nil_append, List.length_cons, List.length_nil, a1, z1, a6, csk_3 e1, cvk_1 o1 e2, cvk_0 o2 th, y]
theorem lb_bars (hg : GD g) (hS : SCx g i) (h : LWi g w B i c0 s0) (F : Nat) : ∃ f' w', F ≤ f' ∧ LWi g w' B (i + 1) c0 s0 ∧ jL_law g (F + 4) 17 [] (LVs g B i) w = jL_law g f' 1 [] (LVs g B (i + 1)) w' := by
  obtain ⟨s, lev, nG, h⟩ := h
  have a6 : nI (6 * i) + 6 = nI (6 * (i + 1)) := nI_add (6 * i) 6
  obtain ⟨fs, hO⟩ := h.ob
  obtain ⟨v, w1, x1, w2, e1, o1, e2, hL⟩ := ly_bars hg h
  refine ⟨F + 2, w2, by omega, hL, ?_⟩
  rw [show F + 4 = (F + 2) + 2 from rfl]
  generalize F + 2 = FF
  clear hL h hS
  simp [LVs, jL_law, bL_law_17, bL_law_79, i_aload, i_iload, i_push, i_iadd, i_sli, i_istore, i_iceq, i_ifne, i_ifeq, i_laload, i_i2l, i_lcmp, i_zreturn, i_jmp, i_iinc, i_lstore, i_lload, msk, lset1, lset2, clr, Value.category, Option.toList, List.cons_append, List.nil_append, List.length_cons, List.length_nil, a6, cvk_0 hO e1, cvk_0 o1 e2]
theorem lb_gets (hg : GD g) (hS : SCx g i) (h : LWi g w B i c0 s0) (F : Nat) : ∃ f' w', F ≤ f' ∧ LWi g w' B (i + 1) c0 s0 ∧ jL_law g (F + 4) 18 [] (LVs g B i) w = jL_law g f' 1 [] (LVs g B (i + 1)) w' := by
  obtain ⟨s, lev, nG, h⟩ := h
  have a1 : nI (6 * i) + 1 = nI (6 * i + 1) := nI_add (6 * i) 1
  have z1 := hS 1 (by decide)
  have a2 : nI (6 * i) + 2 = nI (6 * i + 2) := nI_add (6 * i) 2
  have z2 := hS 2 (by decide)
  have a3 : nI (6 * i) + 3 = nI (6 * i + 3) := nI_add (6 * i) 3
  have z3 := hS 3 (by decide)
  have a6 : nI (6 * i) + 6 = nI (6 * (i + 1)) := nI_add (6 * i) 6
  obtain ⟨k, w1, x1, v, w2, x2, e1, o1, e2, o2, e3, e4, hL⟩ := ly_gets hg h (g.2.2.2.2.2.2.2 (6 * i + 1)) (g.2.2.2.2.2.2.2 (6 * i + 2)) (g.2.2.2.2.2.2.2 (6 * i + 3))
  have th := thrown_sp (g := g) o2
  rw [e3] at th
  refine ⟨F + 1, w2, by omega, hL, ?_⟩
  rw [show F + 4 = (F + 1) + 3 from rfl]
  generalize F + 1 = FF
  by_cases y : k = 0
  · subst y
    have e5 := e4 rfl
    have e6 : lg_cmp v.toInt64 v.toInt64 = 0 := cz_y rfl
    clear hL h hS e4
    simp [LVs, jL_law, bL_law_18, bL_law_19, bL_law_79, i_aload, i_iload, i_push, i_iadd, i_sli, i_istore, i_iceq, i_ifne, i_ifeq, i_laload, i_i2l, i_lcmp, i_zreturn, i_jmp, i_iinc, i_lstore, i_lload, msk, lset1, lset2, clr, Value.category, Option.toList, List.cons_append, List.nil_append, List.length_cons, List.length_nil, a1, z1, a2, z2, a3, z3, a6, csk_5 e1, cvk_3 o1 e2, cvk_0 o2 th, e5, e6]
  · clear hL h hS e4
    simp [LVs, jL_law, bL_law_18, bL_law_19, bL_law_79, i_aload, i_iload, i_push, i_iadd, i_sli, i_istore, i_iceq, i_ifne, i_ifeq, i_laload, i_i2l, i_lcmp, i_zreturn, i_jmp, i_iinc, i_lstore, i_lload, msk, lset1, lset2, clr, Value.category, Option.toList, List.cons_append, List.nil_append, List.length_cons, List.length_nil, a1, z1, a2, z2, a3, z3, a6, csk_5 e1, cvk_3 o1 e2, cvk_0 o2 th, y]
theorem lb_goes (hg : GD g) (hS : SCx g i) (h : LWi g w B i c0 s0) (F : Nat) : ∃ f' w', F ≤ f' ∧ LWi g w' B (i + 1) c0 s0 ∧ jL_law g (F + 4) 20 [] (LVs g B i) w = jL_law g f' 1 [] (LVs g B (i + 1)) w' := by
  obtain ⟨s, lev, nG, h⟩ := h
  have a1 : nI (6 * i) + 1 = nI (6 * i + 1) := nI_add (6 * i) 1
  have z1 := hS 1 (by decide)
  have a2 : nI (6 * i) + 2 = nI (6 * i + 2) := nI_add (6 * i) 2
  have z2 := hS 2 (by decide)
  have a6 : nI (6 * i) + 6 = nI (6 * (i + 1)) := nI_add (6 * i) 6
  obtain ⟨k, w1, x1, v, w2, x2, e1, o1, e2, o2, e3, e4, hL⟩ := ly_goes hg h (g.2.2.2.2.2.2.2 (6 * i + 1)) (g.2.2.2.2.2.2.2 (6 * i + 2))
  have th := thrown_sp (g := g) o2
  rw [e3] at th
  refine ⟨F + 1, w2, by omega, hL, ?_⟩
  rw [show F + 4 = (F + 1) + 3 from rfl]
  generalize F + 1 = FF
  by_cases y : k = 0
  · subst y
    have e5 := e4 rfl
    have e6 : lg_cmp v.toInt64 v.toInt64 = 0 := cz_y rfl
    clear hL h hS e4
    simp [LVs, jL_law, bL_law_20, bL_law_21, bL_law_79, i_aload, i_iload, i_push, i_iadd, i_sli, i_istore, i_iceq, i_ifne, i_ifeq, i_laload, i_i2l, i_lcmp, i_zreturn, i_jmp, i_iinc, i_lstore, i_lload, msk, lset1, lset2, clr, Value.category, Option.toList, List.cons_append, List.nil_append, List.length_cons, List.length_nil, a1, z1, a2, z2, a6, csk_4 e1, cvk_2 o1 e2, cvk_0 o2 th, e5, e6]
  · clear hL h hS e4
    simp [LVs, jL_law, bL_law_20, bL_law_21, bL_law_79, i_aload, i_iload, i_push, i_iadd, i_sli, i_istore, i_iceq, i_ifne, i_ifeq, i_laload, i_i2l, i_lcmp, i_zreturn, i_jmp, i_iinc, i_lstore, i_lload, msk, lset1, lset2, clr, Value.category, Option.toList, List.cons_append, List.nil_append, List.length_cons, List.length_nil, a1, z1, a2, z2, a6, csk_4 e1, cvk_2 o1 e2, cvk_0 o2 th, y]
theorem lb_often (hg : GD g) (hS : SCx g i) (h : LWi g w B i c0 s0) (F : Nat) : ∃ f' w', F ≤ f' ∧ LWi g w' B (i + 1) c0 s0 ∧ jL_law g (F + 4) 22 [] (LVs g B i) w = jL_law g f' 1 [] (LVs g B (i + 1)) w' := by
  obtain ⟨s, lev, nG, h⟩ := h
  have a1 : nI (6 * i) + 1 = nI (6 * i + 1) := nI_add (6 * i) 1
  have z1 := hS 1 (by decide)
  have a2 : nI (6 * i) + 2 = nI (6 * i + 2) := nI_add (6 * i) 2
  have z2 := hS 2 (by decide)
  have a6 : nI (6 * i) + 6 = nI (6 * (i + 1)) := nI_add (6 * i) 6
  obtain ⟨k, w1, x1, v, w2, x2, e1, o1, e2, o2, e3, e4, hL⟩ := ly_often hg h (g.2.2.2.2.2.2.2 (6 * i + 1)) (g.2.2.2.2.2.2.2 (6 * i + 2))
  have th := thrown_sp (g := g) o2
  rw [e3] at th
  refine ⟨F + 1, w2, by omega, hL, ?_⟩
  rw [show F + 4 = (F + 1) + 3 from rfl]
  generalize F + 1 = FF
  by_cases y : k = 0
  · subst y
    have e5 := e4 rfl
    have e6 : lg_cmp v.toInt64 v.toInt64 = 0 := cz_y rfl
    clear hL h hS e4
    simp [LVs, jL_law, bL_law_22, bL_law_23, bL_law_79, i_aload, i_iload, i_push, i_iadd, i_sli, i_istore, i_iceq, i_ifne, i_ifeq, i_laload, i_i2l, i_lcmp, i_zreturn, i_jmp, i_iinc, i_lstore, i_lload, msk, lset1, lset2, clr, Value.category, Option.toList, List.cons_append, List.nil_append, List.length_cons, List.length_nil, a1, z1, a2, z2, a6, csk_4 e1, cvk_2 o1 e2, cvk_0 o2 th, e5, e6]
  · clear hL h hS e4
    simp [LVs, jL_law, bL_law_22, bL_law_23, bL_law_79, i_aload, i_iload, i_push, i_iadd, i_sli, i_istore, i_iceq, i_ifne, i_ifeq, i_laload, i_i2l, i_lcmp, i_zreturn, i_jmp, i_iinc, i_lstore, i_lload, msk, lset1, lset2, clr, Value.category, Option.toList, List.cons_append, List.nil_append, List.length_cons, List.length_nil, a1, z1, a2, z2, a6, csk_4 e1, cvk_2 o1 e2, cvk_0 o2 th, y]
theorem lb_sure (hg : GD g) (hS : SCx g i) (h : LWi g w B i c0 s0) (F : Nat) : ∃ f' w', F ≤ f' ∧ LWi g w' B (i + 1) c0 s0 ∧ jL_law g (F + 4) 24 [] (LVs g B i) w = jL_law g f' 1 [] (LVs g B (i + 1)) w' := by
  obtain ⟨s, lev, nG, h⟩ := h
  have a1 : nI (6 * i) + 1 = nI (6 * i + 1) := nI_add (6 * i) 1
  have z1 := hS 1 (by decide)
  have a2 : nI (6 * i) + 2 = nI (6 * i + 2) := nI_add (6 * i) 2
  have z2 := hS 2 (by decide)
  have a6 : nI (6 * i) + 6 = nI (6 * (i + 1)) := nI_add (6 * i) 6
  obtain ⟨k, w1, x1, v, w2, x2, e1, o1, e2, o2, e3, e4, hL⟩ := ly_sure hg h (g.2.2.2.2.2.2.2 (6 * i + 1)) (g.2.2.2.2.2.2.2 (6 * i + 2))
  have th := thrown_sp (g := g) o2
  rw [e3] at th
  by_cases y : k = 0
  · subst y
    have e5 := e4 rfl
    refine ⟨F, w2, Nat.le_refl _, hL, ?_⟩
    clear hL h hS e4
    by_cases u : v = 0
    · rw [if_pos u] at e5
      have e6 : lg_cmp 0 0 = 0 := cz_y rfl
      simp [LVs, jL_law, bL_law_24, bL_law_25, bL_law_26, bL_law_79, i_aload, i_iload, i_push, i_iadd, i_sli, i_istore, i_iceq, i_ifne, i_ifeq, i_laload, i_i2l, i_lcmp, i_zreturn, i_jmp, i_iinc, i_lstore, i_lload, msk, lset1, lset2, clr, Value.category, Option.toList, List.cons_append, List.nil_append, List.length_cons, List.length_nil, a1, z1, a2, z2, a6, csk_4 e1, cvk_2 o1 e2, cvk_0 o2 th, e5, e6, u]
    · rw [if_neg u] at e5
      have e6 : lg_cmp 1 1 = 0 := cz_y rfl
      simp [LVs, jL_law, bL_law_24, bL_law_25, bL_law_26, bL_law_79, i_aload, i_iload, i_push, i_iadd, i_sli, i_istore, i_iceq, i_ifne, i_ifeq, i_laload, i_i2l, i_lcmp, i_zreturn, i_jmp, i_iinc, i_lstore, i_lload, msk, lset1, lset2, clr, Value.category, Option.toList, List.cons_append, List.nil_append, List.length_cons, List.length_nil, a1, z1, a2, z2, a6, csk_4 e1, cvk_2 o1 e2, cvk_0 o2 th, e5, e6, u]
  · refine ⟨F + 1, w2, by omega, hL, ?_⟩
    rw [show F + 4 = (F + 1) + 3 from rfl]
    generalize F + 1 = FF
    clear hL h hS e4
    simp [LVs, jL_law, bL_law_24, bL_law_25, bL_law_26, bL_law_79, i_aload, i_iload, i_push, i_iadd, i_sli, i_istore, i_iceq, i_ifne, i_ifeq, i_laload, i_i2l, i_lcmp, i_zreturn, i_jmp, i_iinc, i_lstore, i_lload, msk, lset1, lset2, clr, Value.category, Option.toList, List.cons_append, List.nil_append, List.length_cons, List.length_nil, a1, z1, a2, z2, a6, csk_4 e1, cvk_2 o1 e2, cvk_0 o2 th, y]
theorem lb_coin (hg : GD g) (hS : SCx g i) (h : LWi g w B i c0 s0) (F : Nat) : ∃ f' w', F ≤ f' ∧ LWi g w' B (i + 1) c0 s0 ∧ jL_law g (F + 4) 27 [] (LVs g B i) w = jL_law g f' 1 [] (LVs g B (i + 1)) w' := by
  obtain ⟨s, lev, nG, h⟩ := h
  have a1 : nI (6 * i) + 1 = nI (6 * i + 1) := nI_add (6 * i) 1
  have z1 := hS 1 (by decide)
  have a2 : nI (6 * i) + 2 = nI (6 * i + 2) := nI_add (6 * i) 2
  have z2 := hS 2 (by decide)
  have a6 : nI (6 * i) + 6 = nI (6 * (i + 1)) := nI_add (6 * i) 6
  obtain ⟨k, w1, x1, v, w2, x2, e1, o1, e2, o2, e3, e4, hL⟩ := ly_coin hg h (g.2.2.2.2.2.2.2 (6 * i + 1)) (g.2.2.2.2.2.2.2 (6 * i + 2))
  have th := thrown_sp (g := g) o2
  rw [e3] at th
  refine ⟨F + 1, w2, by omega, hL, ?_⟩
  rw [show F + 4 = (F + 1) + 3 from rfl]
  generalize F + 1 = FF
  by_cases y : k = 0
  · subst y
    have e5 := e4 rfl
    have e6 : lg_cmp v.toInt64 v.toInt64 = 0 := cz_y rfl
    clear hL h hS e4
    simp [LVs, jL_law, bL_law_27, bL_law_28, bL_law_79, i_aload, i_iload, i_push, i_iadd, i_sli, i_istore, i_iceq, i_ifne, i_ifeq, i_laload, i_i2l, i_lcmp, i_zreturn, i_jmp, i_iinc, i_lstore, i_lload, msk, lset1, lset2, clr, Value.category, Option.toList, List.cons_append, List.nil_append, List.length_cons, List.length_nil, a1, z1, a2, z2, a6, csk_4 e1, cvk_2 o1 e2, cvk_0 o2 th, e5, e6]
  · clear hL h hS e4
    simp [LVs, jL_law, bL_law_27, bL_law_28, bL_law_79, i_aload, i_iload, i_push, i_iadd, i_sli, i_istore, i_iceq, i_ifne, i_ifeq, i_laload, i_i2l, i_lcmp, i_zreturn, i_jmp, i_iinc, i_lstore, i_lload, msk, lset1, lset2, clr, Value.category, Option.toList, List.cons_append, List.nil_append, List.length_cons, List.length_nil, a1, z1, a2, z2, a6, csk_4 e1, cvk_2 o1 e2, cvk_0 o2 th, y]
theorem lb_worth (hg : GD g) (hS : SCx g i) (h : LWi g w B i c0 s0) (F : Nat) : ∃ f' w', F ≤ f' ∧ LWi g w' B (i + 1) c0 s0 ∧ jL_law g (F + 4) 29 [] (LVs g B i) w = jL_law g f' 1 [] (LVs g B (i + 1)) w' := by
  obtain ⟨s, lev, nG, h⟩ := h
  have a1 : nI (6 * i) + 1 = nI (6 * i + 1) := nI_add (6 * i) 1
  have z1 := hS 1 (by decide)
  have a2 : nI (6 * i) + 2 = nI (6 * i + 2) := nI_add (6 * i) 2
  have z2 := hS 2 (by decide)
  have a6 : nI (6 * i) + 6 = nI (6 * (i + 1)) := nI_add (6 * i) 6
  obtain ⟨k, w1, x1, v, w2, x2, e1, o1, e2, o2, e3, e4, hL⟩ := ly_worth hg h (g.2.2.2.2.2.2.2 (6 * i + 1)) (g.2.2.2.2.2.2.2 (6 * i + 2))
  have th := thrown_sp (g := g) o2
  rw [e3] at th
  refine ⟨F + 1, w2, by omega, hL, ?_⟩
  rw [show F + 4 = (F + 1) + 3 from rfl]
  generalize F + 1 = FF
  by_cases y : k = 0
  · subst y
    have e5 := e4 rfl
    have e6 : lg_cmp v.toInt64 v.toInt64 = 0 := cz_y rfl
    clear hL h hS e4
    simp [LVs, jL_law, bL_law_29, bL_law_30, bL_law_79, i_aload, i_iload, i_push, i_iadd, i_sli, i_istore, i_iceq, i_ifne, i_ifeq, i_laload, i_i2l, i_lcmp, i_zreturn, i_jmp, i_iinc, i_lstore, i_lload, msk, lset1, lset2, clr, Value.category, Option.toList, List.cons_append, List.nil_append, List.length_cons, List.length_nil, a1, z1, a2, z2, a6, csk_4 e1, cvk_2 o1 e2, cvk_0 o2 th, e5, e6]
  · clear hL h hS e4
    simp [LVs, jL_law, bL_law_29, bL_law_30, bL_law_79, i_aload, i_iload, i_push, i_iadd, i_sli, i_istore, i_iceq, i_ifne, i_ifeq, i_laload, i_i2l, i_lcmp, i_zreturn, i_jmp, i_iinc, i_lstore, i_lload, msk, lset1, lset2, clr, Value.category, Option.toList, List.cons_append, List.nil_append, List.length_cons, List.length_nil, a1, z1, a2, z2, a6, csk_4 e1, cvk_2 o1 e2, cvk_0 o2 th, y]
theorem lb_cleaned (hg : GD g) (hS : SCx g i) (h : LWi g w B i c0 s0) (F : Nat) : ∃ f' w', F ≤ f' ∧ LWi g w' B (i + 1) c0 s0 ∧ jL_law g (F + 4) 31 [] (LVs g B i) w = jL_law g f' 1 [] (LVs g B (i + 1)) w' := by
  obtain ⟨s, lev, nG, h⟩ := h
  have a1 : nI (6 * i) + 1 = nI (6 * i + 1) := nI_add (6 * i) 1
  have z1 := hS 1 (by decide)
  have a6 : nI (6 * i) + 6 = nI (6 * (i + 1)) := nI_add (6 * i) 6
  obtain ⟨k, w1, x1, v, w2, x2, e1, o1, e2, o2, e3, e4, hL⟩ := ly_cleaned hg h (g.2.2.2.2.2.2.2 (6 * i + 1))
  have th := thrown_sp (g := g) o2
  rw [e3] at th
  refine ⟨F + 1, w2, by omega, hL, ?_⟩
  rw [show F + 4 = (F + 1) + 3 from rfl]
  generalize F + 1 = FF
  by_cases y : k = 0
  · subst y
    have e5 := e4 rfl
    have e6 : lg_cmp v.toInt64 v.toInt64 = 0 := cz_y rfl
    clear hL h hS e4
    simp [LVs, jL_law, bL_law_31, bL_law_32, bL_law_79, i_aload, i_iload, i_push, i_iadd, i_sli, i_istore, i_iceq, i_ifne, i_ifeq, i_laload, i_i2l, i_lcmp, i_zreturn, i_jmp, i_iinc, i_lstore, i_lload, msk, lset1, lset2, clr, Value.category, Option.toList, List.cons_append, List.nil_append, List.length_cons, List.length_nil, a1, z1, a6, csk_3 e1, cvk_1 o1 e2, cvk_0 o2 th, e5, e6]
  · clear hL h hS e4
    simp [LVs, jL_law, bL_law_31, bL_law_32, bL_law_79, i_aload, i_iload, i_push, i_iadd, i_sli, i_istore, i_iceq, i_ifne, i_ifeq, i_laload, i_i2l, i_lcmp, i_zreturn, i_jmp, i_iinc, i_lstore, i_lload, msk, lset1, lset2, clr, Value.category, Option.toList, List.cons_append, List.nil_append, List.length_cons, List.length_nil, a1, z1, a6, csk_3 e1, cvk_1 o1 e2, cvk_0 o2 th, y]
theorem lb_settles (hg : GD g) (hS : SCx g i) (h : LWi g w B i c0 s0) (F : Nat) : ∃ f' w', F ≤ f' ∧ LWi g w' B (i + 1) c0 s0 ∧ jL_law g (F + 4) 33 [] (LVs g B i) w = jL_law g f' 1 [] (LVs g B (i + 1)) w' := by
  obtain ⟨s, lev, nG, h⟩ := h
  have a6 : nI (6 * i) + 6 = nI (6 * (i + 1)) := nI_add (6 * i) 6
  obtain ⟨fs, hO⟩ := h.ob
  obtain ⟨v, w1, x1, w2, e1, o1, e2, hL⟩ := ly_settles hg h
  refine ⟨F + 2, w2, by omega, hL, ?_⟩
  rw [show F + 4 = (F + 2) + 2 from rfl]
  generalize F + 2 = FF
  clear hL h hS
  simp [LVs, jL_law, bL_law_33, bL_law_79, i_aload, i_iload, i_push, i_iadd, i_sli, i_istore, i_iceq, i_ifne, i_ifeq, i_laload, i_i2l, i_lcmp, i_zreturn, i_jmp, i_iinc, i_lstore, i_lload, msk, lset1, lset2, clr, Value.category, Option.toList, List.cons_append, List.nil_append, List.length_cons, List.length_nil, a6, cvk_0 hO e1, cvk_0 o1 e2]
theorem lb_fewest (hg : GD g) (hS : SCx g i) (h : LWi g w B i c0 s0) (F : Nat) : ∃ f' w', F ≤ f' ∧ LWi g w' B (i + 1) c0 s0 ∧ jL_law g (F + 4) 34 [] (LVs g B i) w = jL_law g f' 1 [] (LVs g B (i + 1)) w' := by
  obtain ⟨s, lev, nG, h⟩ := h
  have a1 : nI (6 * i) + 1 = nI (6 * i + 1) := nI_add (6 * i) 1
  have z1 := hS 1 (by decide)
  have a2 : nI (6 * i) + 2 = nI (6 * i + 2) := nI_add (6 * i) 2
  have z2 := hS 2 (by decide)
  have a6 : nI (6 * i) + 6 = nI (6 * (i + 1)) := nI_add (6 * i) 6
  obtain ⟨k, w1, x1, v, w2, x2, e1, o1, e2, o2, e3, e4, hL⟩ := ly_fewest hg h (g.2.2.2.2.2.2.2 (6 * i + 1)) (g.2.2.2.2.2.2.2 (6 * i + 2))
  have th := thrown_sp (g := g) o2
  rw [e3] at th
  refine ⟨F + 1, w2, by omega, hL, ?_⟩
  rw [show F + 4 = (F + 1) + 3 from rfl]
  generalize F + 1 = FF
  by_cases y : k = 0
  · subst y
    have e5 := e4 rfl
    have e6 : lg_cmp v.toInt64 v.toInt64 = 0 := cz_y rfl
    clear hL h hS e4
    simp [LVs, jL_law, bL_law_34, bL_law_35, bL_law_79, i_aload, i_iload, i_push, i_iadd, i_sli, i_istore, i_iceq, i_ifne, i_ifeq, i_laload, i_i2l, i_lcmp, i_zreturn, i_jmp, i_iinc, i_lstore, i_lload, msk, lset1, lset2, clr, Value.category, Option.toList, List.cons_append, List.nil_append, List.length_cons, List.length_nil, a1, z1, a2, z2, a6, csk_4 e1, cvk_2 o1 e2, cvk_0 o2 th, e5, e6]
  · clear hL h hS e4
    simp [LVs, jL_law, bL_law_34, bL_law_35, bL_law_79, i_aload, i_iload, i_push, i_iadd, i_sli, i_istore, i_iceq, i_ifne, i_ifeq, i_laload, i_i2l, i_lcmp, i_zreturn, i_jmp, i_iinc, i_lstore, i_lload, msk, lset1, lset2, clr, Value.category, Option.toList, List.cons_append, List.nil_append, List.length_cons, List.length_nil, a1, z1, a2, z2, a6, csk_4 e1, cvk_2 o1 e2, cvk_0 o2 th, y]
theorem lb_sway (hg : GD g) (hS : SCx g i) (h : LWi g w B i c0 s0) (F : Nat) : ∃ f' w', F ≤ f' ∧ LWi g w' B (i + 1) c0 s0 ∧ jL_law g (F + 4) 36 [] (LVs g B i) w = jL_law g f' 1 [] (LVs g B (i + 1)) w' := by
  obtain ⟨s, lev, nG, h⟩ := h
  have a1 : nI (6 * i) + 1 = nI (6 * i + 1) := nI_add (6 * i) 1
  have z1 := hS 1 (by decide)
  have a2 : nI (6 * i) + 2 = nI (6 * i + 2) := nI_add (6 * i) 2
  have z2 := hS 2 (by decide)
  have a6 : nI (6 * i) + 6 = nI (6 * (i + 1)) := nI_add (6 * i) 6
  obtain ⟨k, w1, x1, v, w2, x2, e1, o1, e2, o2, e3, e4, hL⟩ := ly_sway hg h (g.2.2.2.2.2.2.2 (6 * i + 1)) (g.2.2.2.2.2.2.2 (6 * i + 2))
  have th := thrown_sp (g := g) o2
  rw [e3] at th
  refine ⟨F + 1, w2, by omega, hL, ?_⟩
  rw [show F + 4 = (F + 1) + 3 from rfl]
  generalize F + 1 = FF
  by_cases y : k = 0
  · subst y
    have e5 := e4 rfl
    have e6 : lg_cmp v.toInt64 v.toInt64 = 0 := cz_y rfl
    clear hL h hS e4
    simp [LVs, jL_law, bL_law_36, bL_law_37, bL_law_79, i_aload, i_iload, i_push, i_iadd, i_sli, i_istore, i_iceq, i_ifne, i_ifeq, i_laload, i_i2l, i_lcmp, i_zreturn, i_jmp, i_iinc, i_lstore, i_lload, msk, lset1, lset2, clr, Value.category, Option.toList, List.cons_append, List.nil_append, List.length_cons, List.length_nil, a1, z1, a2, z2, a6, csk_4 e1, cvk_2 o1 e2, cvk_0 o2 th, e5, e6]
  · clear hL h hS e4
    simp [LVs, jL_law, bL_law_36, bL_law_37, bL_law_79, i_aload, i_iload, i_push, i_iadd, i_sli, i_istore, i_iceq, i_ifne, i_ifeq, i_laload, i_i2l, i_lcmp, i_zreturn, i_jmp, i_iinc, i_lstore, i_lload, msk, lset1, lset2, clr, Value.category, Option.toList, List.cons_append, List.nil_append, List.length_cons, List.length_nil, a1, z1, a2, z2, a6, csk_4 e1, cvk_2 o1 e2, cvk_0 o2 th, y]
theorem lb_gains (hg : GD g) (hS : SCx g i) (h : LWi g w B i c0 s0) (F : Nat) : ∃ f' w', F ≤ f' ∧ LWi g w' B (i + 1) c0 s0 ∧ jL_law g (F + 4) 38 [] (LVs g B i) w = jL_law g f' 1 [] (LVs g B (i + 1)) w' := by
  obtain ⟨s, lev, nG, h⟩ := h
  have a1 : nI (6 * i) + 1 = nI (6 * i + 1) := nI_add (6 * i) 1
  have z1 := hS 1 (by decide)
  have a6 : nI (6 * i) + 6 = nI (6 * (i + 1)) := nI_add (6 * i) 6
  obtain ⟨k, w1, x1, v, w2, x2, e1, o1, e2, o2, e3, e4, hL⟩ := ly_gains hg h (g.2.2.2.2.2.2.2 (6 * i + 1))
  have th := thrown_sp (g := g) o2
  rw [e3] at th
  refine ⟨F + 1, w2, by omega, hL, ?_⟩
  rw [show F + 4 = (F + 1) + 3 from rfl]
  generalize F + 1 = FF
  by_cases y : k = 0
  · subst y
    have e5 := e4 rfl
    have e6 : lg_cmp v.toInt64 v.toInt64 = 0 := cz_y rfl
    clear hL h hS e4
    simp [LVs, jL_law, bL_law_38, bL_law_39, bL_law_79, i_aload, i_iload, i_push, i_iadd, i_sli, i_istore, i_iceq, i_ifne, i_ifeq, i_laload, i_i2l, i_lcmp, i_zreturn, i_jmp, i_iinc, i_lstore, i_lload, msk, lset1, lset2, clr, Value.category, Option.toList, List.cons_append, List.nil_append, List.length_cons, List.length_nil, a1, z1, a6, csk_3 e1, cvk_1 o1 e2, cvk_0 o2 th, e5, e6]
  · clear hL h hS e4
    simp [LVs, jL_law, bL_law_38, bL_law_39, bL_law_79, i_aload, i_iload, i_push, i_iadd, i_sli, i_istore, i_iceq, i_ifne, i_ifeq, i_laload, i_i2l, i_lcmp, i_zreturn, i_jmp, i_iinc, i_lstore, i_lload, msk, lset1, lset2, clr, Value.category, Option.toList, List.cons_append, List.nil_append, List.length_cons, List.length_nil, a1, z1, a6, csk_3 e1, cvk_1 o1 e2, cvk_0 o2 th, y]
theorem lb_settlement (hg : GD g) (hS : SCx g i) (h : LWi g w B i c0 s0) (F : Nat) : ∃ f' w', F ≤ f' ∧ LWi g w' B (i + 1) c0 s0 ∧ jL_law g (F + 4) 40 [] (LVs g B i) w = jL_law g f' 1 [] (LVs g B (i + 1)) w' := by
  obtain ⟨s, lev, nG, h⟩ := h
  have a1 : nI (6 * i) + 1 = nI (6 * i + 1) := nI_add (6 * i) 1
  have z1 := hS 1 (by decide)
  have a6 : nI (6 * i) + 6 = nI (6 * (i + 1)) := nI_add (6 * i) 6
  obtain ⟨k, w1, x1, v, w2, x2, e1, o1, e2, o2, e3, e4, hL⟩ := ly_settlement hg h (g.2.2.2.2.2.2.2 (6 * i + 1))
  have th := thrown_sp (g := g) o2
  rw [e3] at th
  refine ⟨F + 1, w2, by omega, hL, ?_⟩
  rw [show F + 4 = (F + 1) + 3 from rfl]
  generalize F + 1 = FF
  by_cases y : k = 0
  · subst y
    have e5 := e4 rfl
    have e6 : lg_cmp v.toInt64 v.toInt64 = 0 := cz_y rfl
    clear hL h hS e4
    simp [LVs, jL_law, bL_law_40, bL_law_41, bL_law_79, i_aload, i_iload, i_push, i_iadd, i_sli, i_istore, i_iceq, i_ifne, i_ifeq, i_laload, i_i2l, i_lcmp, i_zreturn, i_jmp, i_iinc, i_lstore, i_lload, msk, lset1, lset2, clr, Value.category, Option.toList, List.cons_append, List.nil_append, List.length_cons, List.length_nil, a1, z1, a6, csk_3 e1, cvk_1 o1 e2, cvk_0 o2 th, e5, e6]
  · clear hL h hS e4
    simp [LVs, jL_law, bL_law_40, bL_law_41, bL_law_79, i_aload, i_iload, i_push, i_iadd, i_sli, i_istore, i_iceq, i_ifne, i_ifeq, i_laload, i_i2l, i_lcmp, i_zreturn, i_jmp, i_iinc, i_lstore, i_lload, msk, lset1, lset2, clr, Value.category, Option.toList, List.cons_append, List.nil_append, List.length_cons, List.length_nil, a1, z1, a6, csk_3 e1, cvk_1 o1 e2, cvk_0 o2 th, y]
theorem lb_copy (hg : GD g) (hS : SCx g i) (h : LWi g w B i c0 s0) (F : Nat) : ∃ f' w', F ≤ f' ∧ LWi g w' B (i + 1) c0 s0 ∧ jL_law g (F + 4) 42 [] (LVs g B i) w = jL_law g f' 1 [] (LVs g B (i + 1)) w' := by
  obtain ⟨s, lev, nG, h⟩ := h
  have a1 : nI (6 * i) + 1 = nI (6 * i + 1) := nI_add (6 * i) 1
  have z1 := hS 1 (by decide)
  have a2 : nI (6 * i) + 2 = nI (6 * i + 2) := nI_add (6 * i) 2
  have z2 := hS 2 (by decide)
  have a3 : nI (6 * i) + 3 = nI (6 * i + 3) := nI_add (6 * i) 3
  have z3 := hS 3 (by decide)
  have a6 : nI (6 * i) + 6 = nI (6 * (i + 1)) := nI_add (6 * i) 6
  obtain ⟨k, w1, x1, v, w2, x2, e1, o1, e2, o2, e3, e4, hL⟩ := ly_copy hg h (g.2.2.2.2.2.2.2 (6 * i + 1)) (g.2.2.2.2.2.2.2 (6 * i + 2)) (g.2.2.2.2.2.2.2 (6 * i + 3))
  have th := thrown_sp (g := g) o2
  rw [e3] at th
  refine ⟨F + 1, w2, by omega, hL, ?_⟩
  rw [show F + 4 = (F + 1) + 3 from rfl]
  generalize F + 1 = FF
  by_cases y : k = 0
  · subst y
    have e5 := e4 rfl
    have e6 : lg_cmp v.toInt64 v.toInt64 = 0 := cz_y rfl
    clear hL h hS e4
    simp [LVs, jL_law, bL_law_42, bL_law_43, bL_law_79, i_aload, i_iload, i_push, i_iadd, i_sli, i_istore, i_iceq, i_ifne, i_ifeq, i_laload, i_i2l, i_lcmp, i_zreturn, i_jmp, i_iinc, i_lstore, i_lload, msk, lset1, lset2, clr, Value.category, Option.toList, List.cons_append, List.nil_append, List.length_cons, List.length_nil, a1, z1, a2, z2, a3, z3, a6, csk_5 e1, cvk_3 o1 e2, cvk_0 o2 th, e5, e6]
  · clear hL h hS e4
    simp [LVs, jL_law, bL_law_42, bL_law_43, bL_law_79, i_aload, i_iload, i_push, i_iadd, i_sli, i_istore, i_iceq, i_ifne, i_ifeq, i_laload, i_i2l, i_lcmp, i_zreturn, i_jmp, i_iinc, i_lstore, i_lload, msk, lset1, lset2, clr, Value.category, Option.toList, List.cons_append, List.nil_append, List.length_cons, List.length_nil, a1, z1, a2, z2, a3, z3, a6, csk_5 e1, cvk_3 o1 e2, cvk_0 o2 th, y]
theorem lb_habit (hg : GD g) (hS : SCx g i) (h : LWi g w B i c0 s0) (F : Nat) : ∃ f' w', F ≤ f' ∧ LWi g w' B (i + 1) c0 s0 ∧ jL_law g (F + 4) 44 [] (LVs g B i) w = jL_law g f' 1 [] (LVs g B (i + 1)) w' := by
  obtain ⟨s, lev, nG, h⟩ := h
  have a1 : nI (6 * i) + 1 = nI (6 * i + 1) := nI_add (6 * i) 1
  have z1 := hS 1 (by decide)
  have a2 : nI (6 * i) + 2 = nI (6 * i + 2) := nI_add (6 * i) 2
  have z2 := hS 2 (by decide)
  have a3 : nI (6 * i) + 3 = nI (6 * i + 3) := nI_add (6 * i) 3
  have z3 := hS 3 (by decide)
  have a4 : nI (6 * i) + 4 = nI (6 * i + 4) := nI_add (6 * i) 4
  have z4 := hS 4 (by decide)
  have a6 : nI (6 * i) + 6 = nI (6 * (i + 1)) := nI_add (6 * i) 6
  obtain ⟨k, w1, x1, v, w2, x2, e1, o1, e2, o2, e3, e4, hL⟩ := ly_habit hg h (g.2.2.2.2.2.2.2 (6 * i + 1)) (g.2.2.2.2.2.2.2 (6 * i + 2)) (g.2.2.2.2.2.2.2 (6 * i + 3)) (g.2.2.2.2.2.2.2 (6 * i + 4))
  have th := thrown_sp (g := g) o2
  rw [e3] at th
  refine ⟨F + 1, w2, by omega, hL, ?_⟩
  rw [show F + 4 = (F + 1) + 3 from rfl]
  generalize F + 1 = FF
  by_cases y : k = 0
  · subst y
    have e5 := e4 rfl
    have e6 : lg_cmp v.toInt64 v.toInt64 = 0 := cz_y rfl
    clear hL h hS e4
    simp [LVs, jL_law, bL_law_44, bL_law_45, bL_law_79, i_aload, i_iload, i_push, i_iadd, i_sli, i_istore, i_iceq, i_ifne, i_ifeq, i_laload, i_i2l, i_lcmp, i_zreturn, i_jmp, i_iinc, i_lstore, i_lload, msk, lset1, lset2, clr, Value.category, Option.toList, List.cons_append, List.nil_append, List.length_cons, List.length_nil, a1, z1, a2, z2, a3, z3, a4, z4, a6, csk_6 e1, cvk_4 o1 e2, cvk_0 o2 th, e5, e6]
  · clear hL h hS e4
    simp [LVs, jL_law, bL_law_44, bL_law_45, bL_law_79, i_aload, i_iload, i_push, i_iadd, i_sli, i_istore, i_iceq, i_ifne, i_ifeq, i_laload, i_i2l, i_lcmp, i_zreturn, i_jmp, i_iinc, i_lstore, i_lload, msk, lset1, lset2, clr, Value.category, Option.toList, List.cons_append, List.nil_append, List.length_cons, List.length_nil, a1, z1, a2, z2, a3, z3, a4, z4, a6, csk_6 e1, cvk_4 o1 e2, cvk_0 o2 th, y]
theorem lb_forget (hg : GD g) (hS : SCx g i) (h : LWi g w B i c0 s0) (F : Nat) : ∃ f' w', F ≤ f' ∧ LWi g w' B (i + 1) c0 s0 ∧ jL_law g (F + 4) 46 [] (LVs g B i) w = jL_law g f' 1 [] (LVs g B (i + 1)) w' := by
  obtain ⟨s, lev, nG, h⟩ := h
  have a6 : nI (6 * i) + 6 = nI (6 * (i + 1)) := nI_add (6 * i) 6
  obtain ⟨fs, hO⟩ := h.ob
  obtain ⟨v, w1, x1, w2, e1, o1, e2, hL⟩ := ly_forget hg h
  refine ⟨F + 2, w2, by omega, hL, ?_⟩
  rw [show F + 4 = (F + 2) + 2 from rfl]
  generalize F + 2 = FF
  clear hL h hS
  simp [LVs, jL_law, bL_law_46, bL_law_79, i_aload, i_iload, i_push, i_iadd, i_sli, i_istore, i_iceq, i_ifne, i_ifeq, i_laload, i_i2l, i_lcmp, i_zreturn, i_jmp, i_iinc, i_lstore, i_lload, msk, lset1, lset2, clr, Value.category, Option.toList, List.cons_append, List.nil_append, List.length_cons, List.length_nil, a6, cvk_0 hO e1, cvk_0 o1 e2]
theorem lb_odds (hg : GD g) (hS : SCx g i) (h : LWi g w B i c0 s0) (F : Nat) : ∃ f' w', F ≤ f' ∧ LWi g w' B (i + 1) c0 s0 ∧ jL_law g (F + 4) 47 [] (LVs g B i) w = jL_law g f' 1 [] (LVs g B (i + 1)) w' := by
  obtain ⟨s, lev, nG, h⟩ := h
  have a1 : nI (6 * i) + 1 = nI (6 * i + 1) := nI_add (6 * i) 1
  have z1 := hS 1 (by decide)
  have a6 : nI (6 * i) + 6 = nI (6 * (i + 1)) := nI_add (6 * i) 6
  obtain ⟨k, w1, x1, v, w2, x2, e1, o1, e2, o2, e3, e4, hL⟩ := ly_odds hg h (g.2.2.2.2.2.2.2 (6 * i + 1))
  have th := thrown_sp (g := g) o2
  rw [e3] at th
  refine ⟨F + 1, w2, by omega, hL, ?_⟩
  rw [show F + 4 = (F + 1) + 3 from rfl]
  generalize F + 1 = FF
  by_cases y : k = 0
  · subst y
    have e5 := e4 rfl
    have e6 : lg_cmp v v = 0 := cz_y rfl
    clear hL h hS e4
    simp [LVs, jL_law, bL_law_47, bL_law_48, bL_law_79, i_aload, i_iload, i_push, i_iadd, i_sli, i_istore, i_iceq, i_ifne, i_ifeq, i_laload, i_i2l, i_lcmp, i_zreturn, i_jmp, i_iinc, i_lstore, i_lload, msk, lset1, lset2, clr, Value.category, Option.toList, List.cons_append, List.nil_append, List.length_cons, List.length_nil, a1, z1, a6, csk_3 e1, cvk_1 o1 e2, cvk_0 o2 th, e5, e6]
  · clear hL h hS e4
    simp [LVs, jL_law, bL_law_47, bL_law_48, bL_law_79, i_aload, i_iload, i_push, i_iadd, i_sli, i_istore, i_iceq, i_ifne, i_ifeq, i_laload, i_i2l, i_lcmp, i_zreturn, i_jmp, i_iinc, i_lstore, i_lload, msk, lset1, lset2, clr, Value.category, Option.toList, List.cons_append, List.nil_append, List.length_cons, List.length_nil, a1, z1, a6, csk_3 e1, cvk_1 o1 e2, cvk_0 o2 th, y]
theorem lb_likely (hg : GD g) (hS : SCx g i) (h : LWi g w B i c0 s0) (F : Nat) : ∃ f' w', F ≤ f' ∧ LWi g w' B (i + 1) c0 s0 ∧ jL_law g (F + 4) 49 [] (LVs g B i) w = jL_law g f' 1 [] (LVs g B (i + 1)) w' := by
  obtain ⟨s, lev, nG, h⟩ := h
  have a1 : nI (6 * i) + 1 = nI (6 * i + 1) := nI_add (6 * i) 1
  have z1 := hS 1 (by decide)
  have a2 : nI (6 * i) + 2 = nI (6 * i + 2) := nI_add (6 * i) 2
  have z2 := hS 2 (by decide)
  have a3 : nI (6 * i) + 3 = nI (6 * i + 3) := nI_add (6 * i) 3
  have z3 := hS 3 (by decide)
  have a6 : nI (6 * i) + 6 = nI (6 * (i + 1)) := nI_add (6 * i) 6
  obtain ⟨k, w1, x1, v, w2, x2, e1, o1, e2, o2, e3, e4, hL⟩ := ly_likely hg h (g.2.2.2.2.2.2.2 (6 * i + 1)) (g.2.2.2.2.2.2.2 (6 * i + 2)) (g.2.2.2.2.2.2.2 (6 * i + 3))
  have th := thrown_sp (g := g) o2
  rw [e3] at th
  refine ⟨F + 1, w2, by omega, hL, ?_⟩
  rw [show F + 4 = (F + 1) + 3 from rfl]
  generalize F + 1 = FF
  by_cases y : k = 0
  · subst y
    have e5 := e4 rfl
    have e6 : lg_cmp v v = 0 := cz_y rfl
    clear hL h hS e4
    simp [LVs, jL_law, bL_law_49, bL_law_50, bL_law_79, i_aload, i_iload, i_push, i_iadd, i_sli, i_istore, i_iceq, i_ifne, i_ifeq, i_laload, i_i2l, i_lcmp, i_zreturn, i_jmp, i_iinc, i_lstore, i_lload, msk, lset1, lset2, clr, Value.category, Option.toList, List.cons_append, List.nil_append, List.length_cons, List.length_nil, a1, z1, a2, z2, a3, z3, a6, csk_5 e1, cvk_3 o1 e2, cvk_0 o2 th, e5, e6]
  · clear hL h hS e4
    simp [LVs, jL_law, bL_law_49, bL_law_50, bL_law_79, i_aload, i_iload, i_push, i_iadd, i_sli, i_istore, i_iceq, i_ifne, i_ifeq, i_laload, i_i2l, i_lcmp, i_zreturn, i_jmp, i_iinc, i_lstore, i_lload, msk, lset1, lset2, clr, Value.category, Option.toList, List.cons_append, List.nil_append, List.length_cons, List.length_nil, a1, z1, a2, z2, a3, z3, a6, csk_5 e1, cvk_3 o1 e2, cvk_0 o2 th, y]
theorem lb_likeliest (hg : GD g) (hS : SCx g i) (h : LWi g w B i c0 s0) (F : Nat) : ∃ f' w', F ≤ f' ∧ LWi g w' B (i + 1) c0 s0 ∧ jL_law g (F + 4) 51 [] (LVs g B i) w = jL_law g f' 1 [] (LVs g B (i + 1)) w' := by
  obtain ⟨s, lev, nG, h⟩ := h
  have a6 : nI (6 * i) + 6 = nI (6 * (i + 1)) := nI_add (6 * i) 6
  obtain ⟨fs, hO⟩ := h.ob
  obtain ⟨v, w1, x1, w2, e1, o1, e2, hL⟩ := ly_likeliest hg h
  refine ⟨F + 2, w2, by omega, hL, ?_⟩
  rw [show F + 4 = (F + 2) + 2 from rfl]
  generalize F + 2 = FF
  clear hL h hS
  simp [LVs, jL_law, bL_law_51, bL_law_79, i_aload, i_iload, i_push, i_iadd, i_sli, i_istore, i_iceq, i_ifne, i_ifeq, i_laload, i_i2l, i_lcmp, i_zreturn, i_jmp, i_iinc, i_lstore, i_lload, msk, lset1, lset2, clr, Value.category, Option.toList, List.cons_append, List.nil_append, List.length_cons, List.length_nil, a6, cvk_0 hO e1, cvk_0 o1 e2]
theorem lb_slips (hg : GD g) (hS : SCx g i) (h : LWi g w B i c0 s0) (F : Nat) : ∃ f' w', F ≤ f' ∧ LWi g w' B (i + 1) c0 s0 ∧ jL_law g (F + 4) 52 [] (LVs g B i) w = jL_law g f' 1 [] (LVs g B (i + 1)) w' := by
  obtain ⟨s, lev, nG, h⟩ := h
  have a1 : nI (6 * i) + 1 = nI (6 * i + 1) := nI_add (6 * i) 1
  have z1 := hS 1 (by decide)
  have a6 : nI (6 * i) + 6 = nI (6 * (i + 1)) := nI_add (6 * i) 6
  obtain ⟨k, w1, x1, v, w2, x2, e1, o1, e2, o2, e3, e4, hL⟩ := ly_slips hg h (g.2.2.2.2.2.2.2 (6 * i + 1))
  have th := thrown_sp (g := g) o2
  rw [e3] at th
  refine ⟨F + 1, w2, by omega, hL, ?_⟩
  rw [show F + 4 = (F + 1) + 3 from rfl]
  generalize F + 1 = FF
  by_cases y : k = 0
  · subst y
    have e5 := e4 rfl
    have e6 : lg_cmp v.toInt64 v.toInt64 = 0 := cz_y rfl
    clear hL h hS e4
    simp [LVs, jL_law, bL_law_52, bL_law_53, bL_law_79, i_aload, i_iload, i_push, i_iadd, i_sli, i_istore, i_iceq, i_ifne, i_ifeq, i_laload, i_i2l, i_lcmp, i_zreturn, i_jmp, i_iinc, i_lstore, i_lload, msk, lset1, lset2, clr, Value.category, Option.toList, List.cons_append, List.nil_append, List.length_cons, List.length_nil, a1, z1, a6, csk_3 e1, cvk_1 o1 e2, cvk_0 o2 th, e5, e6]
  · clear hL h hS e4
    simp [LVs, jL_law, bL_law_52, bL_law_53, bL_law_79, i_aload, i_iload, i_push, i_iadd, i_sli, i_istore, i_iceq, i_ifne, i_ifeq, i_laload, i_i2l, i_lcmp, i_zreturn, i_jmp, i_iinc, i_lstore, i_lload, msk, lset1, lset2, clr, Value.category, Option.toList, List.cons_append, List.nil_append, List.length_cons, List.length_nil, a1, z1, a6, csk_3 e1, cvk_1 o1 e2, cvk_0 o2 th, y]
theorem lb_more (hg : GD g) (hS : SCx g i) (h : LWi g w B i c0 s0) (F : Nat) : ∃ f' w', F ≤ f' ∧ LWi g w' B (i + 1) c0 s0 ∧ jL_law g (F + 4) 54 [] (LVs g B i) w = jL_law g f' 1 [] (LVs g B (i + 1)) w' := by
  obtain ⟨s, lev, nG, h⟩ := h
  have a1 : nI (6 * i) + 1 = nI (6 * i + 1) := nI_add (6 * i) 1
  have z1 := hS 1 (by decide)
  have a2 : nI (6 * i) + 2 = nI (6 * i + 2) := nI_add (6 * i) 2
  have z2 := hS 2 (by decide)
  have a6 : nI (6 * i) + 6 = nI (6 * (i + 1)) := nI_add (6 * i) 6
  obtain ⟨k, w1, x1, v, w2, x2, e1, o1, e2, o2, e3, e4, hL⟩ := ly_more hg h (g.2.2.2.2.2.2.2 (6 * i + 1)) (g.2.2.2.2.2.2.2 (6 * i + 2))
  have th := thrown_sp (g := g) o2
  rw [e3] at th
  refine ⟨F + 1, w2, by omega, hL, ?_⟩
  rw [show F + 4 = (F + 1) + 3 from rfl]
  generalize F + 1 = FF
  by_cases y : k = 0
  · subst y
    have e5 := e4 rfl
    have e6 : lg_cmp v.toInt64 v.toInt64 = 0 := cz_y rfl
    clear hL h hS e4
    simp [LVs, jL_law, bL_law_54, bL_law_55, bL_law_79, i_aload, i_iload, i_push, i_iadd, i_sli, i_istore, i_iceq, i_ifne, i_ifeq, i_laload, i_i2l, i_lcmp, i_zreturn, i_jmp, i_iinc, i_lstore, i_lload, msk, lset1, lset2, clr, Value.category, Option.toList, List.cons_append, List.nil_append, List.length_cons, List.length_nil, a1, z1, a2, z2, a6, csk_4 e1, cvk_2 o1 e2, cvk_0 o2 th, e5, e6]
  · clear hL h hS e4
    simp [LVs, jL_law, bL_law_54, bL_law_55, bL_law_79, i_aload, i_iload, i_push, i_iadd, i_sli, i_istore, i_iceq, i_ifne, i_ifeq, i_laload, i_i2l, i_lcmp, i_zreturn, i_jmp, i_iinc, i_lstore, i_lload, msk, lset1, lset2, clr, Value.category, Option.toList, List.cons_append, List.nil_append, List.length_cons, List.length_nil, a1, z1, a2, z2, a6, csk_4 e1, cvk_2 o1 e2, cvk_0 o2 th, y]
theorem lb_weak (hg : GD g) (hS : SCx g i) (h : LWi g w B i c0 s0) (F : Nat) : ∃ f' w', F ≤ f' ∧ LWi g w' B (i + 1) c0 s0 ∧ jL_law g (F + 4) 56 [] (LVs g B i) w = jL_law g f' 1 [] (LVs g B (i + 1)) w' := by
  obtain ⟨s, lev, nG, h⟩ := h
  have a1 : nI (6 * i) + 1 = nI (6 * i + 1) := nI_add (6 * i) 1
  have z1 := hS 1 (by decide)
  have a6 : nI (6 * i) + 6 = nI (6 * (i + 1)) := nI_add (6 * i) 6
  obtain ⟨k, w1, x1, v, w2, x2, e1, o1, e2, o2, e3, e4, hL⟩ := ly_weak hg h (g.2.2.2.2.2.2.2 (6 * i + 1))
  have th := thrown_sp (g := g) o2
  rw [e3] at th
  refine ⟨F + 1, w2, by omega, hL, ?_⟩
  rw [show F + 4 = (F + 1) + 3 from rfl]
  generalize F + 1 = FF
  by_cases y : k = 0
  · subst y
    have e5 := e4 rfl
    have e6 : lg_cmp v.toInt64 v.toInt64 = 0 := cz_y rfl
    clear hL h hS e4
    simp [LVs, jL_law, bL_law_56, bL_law_57, bL_law_79, i_aload, i_iload, i_push, i_iadd, i_sli, i_istore, i_iceq, i_ifne, i_ifeq, i_laload, i_i2l, i_lcmp, i_zreturn, i_jmp, i_iinc, i_lstore, i_lload, msk, lset1, lset2, clr, Value.category, Option.toList, List.cons_append, List.nil_append, List.length_cons, List.length_nil, a1, z1, a6, csk_3 e1, cvk_1 o1 e2, cvk_0 o2 th, e5, e6]
  · clear hL h hS e4
    simp [LVs, jL_law, bL_law_56, bL_law_57, bL_law_79, i_aload, i_iload, i_push, i_iadd, i_sli, i_istore, i_iceq, i_ifne, i_ifeq, i_laload, i_i2l, i_lcmp, i_zreturn, i_jmp, i_iinc, i_lstore, i_lload, msk, lset1, lset2, clr, Value.category, Option.toList, List.cons_append, List.nil_append, List.length_cons, List.length_nil, a1, z1, a6, csk_3 e1, cvk_1 o1 e2, cvk_0 o2 th, y]
theorem lb_holding (hg : GD g) (hS : SCx g i) (h : LWi g w B i c0 s0) (F : Nat) : ∃ f' w', F ≤ f' ∧ LWi g w' B (i + 1) c0 s0 ∧ jL_law g (F + 4) 58 [] (LVs g B i) w = jL_law g f' 1 [] (LVs g B (i + 1)) w' := by
  obtain ⟨s, lev, nG, h⟩ := h
  have a1 : nI (6 * i) + 1 = nI (6 * i + 1) := nI_add (6 * i) 1
  have z1 := hS 1 (by decide)
  have a2 : nI (6 * i) + 2 = nI (6 * i + 2) := nI_add (6 * i) 2
  have z2 := hS 2 (by decide)
  have a6 : nI (6 * i) + 6 = nI (6 * (i + 1)) := nI_add (6 * i) 6
  obtain ⟨k, w1, x1, v, w2, x2, e1, o1, e2, o2, e3, e4, hL⟩ := ly_holding hg h (g.2.2.2.2.2.2.2 (6 * i + 1)) (g.2.2.2.2.2.2.2 (6 * i + 2))
  have th := thrown_sp (g := g) o2
  rw [e3] at th
  refine ⟨F + 1, w2, by omega, hL, ?_⟩
  rw [show F + 4 = (F + 1) + 3 from rfl]
  generalize F + 1 = FF
  by_cases y : k = 0
  · subst y
    have e5 := e4 rfl
    have e6 : lg_cmp v.toInt64 v.toInt64 = 0 := cz_y rfl
    clear hL h hS e4
    simp [LVs, jL_law, bL_law_58, bL_law_59, bL_law_79, i_aload, i_iload, i_push, i_iadd, i_sli, i_istore, i_iceq, i_ifne, i_ifeq, i_laload, i_i2l, i_lcmp, i_zreturn, i_jmp, i_iinc, i_lstore, i_lload, msk, lset1, lset2, clr, Value.category, Option.toList, List.cons_append, List.nil_append, List.length_cons, List.length_nil, a1, z1, a2, z2, a6, csk_4 e1, cvk_2 o1 e2, cvk_0 o2 th, e5, e6]
  · clear hL h hS e4
    simp [LVs, jL_law, bL_law_58, bL_law_59, bL_law_79, i_aload, i_iload, i_push, i_iadd, i_sli, i_istore, i_iceq, i_ifne, i_ifeq, i_laload, i_i2l, i_lcmp, i_zreturn, i_jmp, i_iinc, i_lstore, i_lload, msk, lset1, lset2, clr, Value.category, Option.toList, List.cons_append, List.nil_append, List.length_cons, List.length_nil, a1, z1, a2, z2, a6, csk_4 e1, cvk_2 o1 e2, cvk_0 o2 th, y]
theorem lb_struck (hg : GD g) (hS : SCx g i) (h : LWi g w B i c0 s0) (F : Nat) : ∃ f' w', F ≤ f' ∧ LWi g w' B (i + 1) c0 s0 ∧ jL_law g (F + 4) 60 [] (LVs g B i) w = jL_law g f' 1 [] (LVs g B (i + 1)) w' := by
  obtain ⟨s, lev, nG, h⟩ := h
  have a1 : nI (6 * i) + 1 = nI (6 * i + 1) := nI_add (6 * i) 1
  have z1 := hS 1 (by decide)
  have a6 : nI (6 * i) + 6 = nI (6 * (i + 1)) := nI_add (6 * i) 6
  obtain ⟨k, w1, x1, v, w2, x2, e1, o1, e2, o2, e3, e4, hL⟩ := ly_struck hg h (g.2.2.2.2.2.2.2 (6 * i + 1))
  have th := thrown_sp (g := g) o2
  rw [e3] at th
  refine ⟨F + 1, w2, by omega, hL, ?_⟩
  rw [show F + 4 = (F + 1) + 3 from rfl]
  generalize F + 1 = FF
  by_cases y : k = 0
  · subst y
    have e5 := e4 rfl
    have e6 : lg_cmp v.toInt64 v.toInt64 = 0 := cz_y rfl
    clear hL h hS e4
    simp [LVs, jL_law, bL_law_60, bL_law_61, bL_law_79, i_aload, i_iload, i_push, i_iadd, i_sli, i_istore, i_iceq, i_ifne, i_ifeq, i_laload, i_i2l, i_lcmp, i_zreturn, i_jmp, i_iinc, i_lstore, i_lload, msk, lset1, lset2, clr, Value.category, Option.toList, List.cons_append, List.nil_append, List.length_cons, List.length_nil, a1, z1, a6, csk_3 e1, cvk_1 o1 e2, cvk_0 o2 th, e5, e6]
  · clear hL h hS e4
    simp [LVs, jL_law, bL_law_60, bL_law_61, bL_law_79, i_aload, i_iload, i_push, i_iadd, i_sli, i_istore, i_iceq, i_ifne, i_ifeq, i_laload, i_i2l, i_lcmp, i_zreturn, i_jmp, i_iinc, i_lstore, i_lload, msk, lset1, lset2, clr, Value.category, Option.toList, List.cons_append, List.nil_append, List.length_cons, List.length_nil, a1, z1, a6, csk_3 e1, cvk_1 o1 e2, cvk_0 o2 th, y]
theorem lb_apart (hg : GD g) (hS : SCx g i) (h : LWi g w B i c0 s0) (F : Nat) : ∃ f' w', F ≤ f' ∧ LWi g w' B (i + 1) c0 s0 ∧ jL_law g (F + 4) 62 [] (LVs g B i) w = jL_law g f' 1 [] (LVs g B (i + 1)) w' := by
  obtain ⟨s, lev, nG, h⟩ := h
  have a1 : nI (6 * i) + 1 = nI (6 * i + 1) := nI_add (6 * i) 1
  have z1 := hS 1 (by decide)
  have a2 : nI (6 * i) + 2 = nI (6 * i + 2) := nI_add (6 * i) 2
  have z2 := hS 2 (by decide)
  have a6 : nI (6 * i) + 6 = nI (6 * (i + 1)) := nI_add (6 * i) 6
  obtain ⟨k, w1, x1, v, w2, x2, e1, o1, e2, o2, e3, e4, hL⟩ := ly_apart hg h (g.2.2.2.2.2.2.2 (6 * i + 1)) (g.2.2.2.2.2.2.2 (6 * i + 2))
  have th := thrown_sp (g := g) o2
  rw [e3] at th
  refine ⟨F + 1, w2, by omega, hL, ?_⟩
  rw [show F + 4 = (F + 1) + 3 from rfl]
  generalize F + 1 = FF
  by_cases y : k = 0
  · subst y
    have e5 := e4 rfl
    have e6 : lg_cmp v.toInt64 v.toInt64 = 0 := cz_y rfl
    clear hL h hS e4
    simp [LVs, jL_law, bL_law_62, bL_law_63, bL_law_79, i_aload, i_iload, i_push, i_iadd, i_sli, i_istore, i_iceq, i_ifne, i_ifeq, i_laload, i_i2l, i_lcmp, i_zreturn, i_jmp, i_iinc, i_lstore, i_lload, msk, lset1, lset2, clr, Value.category, Option.toList, List.cons_append, List.nil_append, List.length_cons, List.length_nil, a1, z1, a2, z2, a6, csk_4 e1, cvk_2 o1 e2, cvk_0 o2 th, e5, e6]
  · clear hL h hS e4
    simp [LVs, jL_law, bL_law_62, bL_law_63, bL_law_79, i_aload, i_iload, i_push, i_iadd, i_sli, i_istore, i_iceq, i_ifne, i_ifeq, i_laload, i_i2l, i_lcmp, i_zreturn, i_jmp, i_iinc, i_lstore, i_lload, msk, lset1, lset2, clr, Value.category, Option.toList, List.cons_append, List.nil_append, List.length_cons, List.length_nil, a1, z1, a2, z2, a6, csk_4 e1, cvk_2 o1 e2, cvk_0 o2 th, y]
theorem lb_middle (hg : GD g) (hS : SCx g i) (h : LWi g w B i c0 s0) (F : Nat) : ∃ f' w', F ≤ f' ∧ LWi g w' B (i + 1) c0 s0 ∧ jL_law g (F + 4) 64 [] (LVs g B i) w = jL_law g f' 1 [] (LVs g B (i + 1)) w' := by
  obtain ⟨s, lev, nG, h⟩ := h
  have a1 : nI (6 * i) + 1 = nI (6 * i + 1) := nI_add (6 * i) 1
  have z1 := hS 1 (by decide)
  have a6 : nI (6 * i) + 6 = nI (6 * (i + 1)) := nI_add (6 * i) 6
  obtain ⟨k, w1, x1, v, w2, x2, e1, o1, e2, o2, e3, e4, hL⟩ := ly_middle hg h (g.2.2.2.2.2.2.2 (6 * i + 1))
  have th := thrown_sp (g := g) o2
  rw [e3] at th
  refine ⟨F + 1, w2, by omega, hL, ?_⟩
  rw [show F + 4 = (F + 1) + 3 from rfl]
  generalize F + 1 = FF
  by_cases y : k = 0
  · subst y
    have e5 := e4 rfl
    have e6 : lg_cmp v.toInt64 v.toInt64 = 0 := cz_y rfl
    clear hL h hS e4
    simp [LVs, jL_law, bL_law_64, bL_law_65, bL_law_79, i_aload, i_iload, i_push, i_iadd, i_sli, i_istore, i_iceq, i_ifne, i_ifeq, i_laload, i_i2l, i_lcmp, i_zreturn, i_jmp, i_iinc, i_lstore, i_lload, msk, lset1, lset2, clr, Value.category, Option.toList, List.cons_append, List.nil_append, List.length_cons, List.length_nil, a1, z1, a6, csk_3 e1, cvk_1 o1 e2, cvk_0 o2 th, e5, e6]
  · clear hL h hS e4
    simp [LVs, jL_law, bL_law_64, bL_law_65, bL_law_79, i_aload, i_iload, i_push, i_iadd, i_sli, i_istore, i_iceq, i_ifne, i_ifeq, i_laload, i_i2l, i_lcmp, i_zreturn, i_jmp, i_iinc, i_lstore, i_lload, msk, lset1, lset2, clr, Value.category, Option.toList, List.cons_append, List.nil_append, List.length_cons, List.length_nil, a1, z1, a6, csk_3 e1, cvk_1 o1 e2, cvk_0 o2 th, y]
theorem lb_when (hg : GD g) (hS : SCx g i) (h : LWi g w B i c0 s0) (F : Nat) : ∃ f' w', F ≤ f' ∧ LWi g w' B (i + 1) c0 s0 ∧ jL_law g (F + 4) 66 [] (LVs g B i) w = jL_law g f' 1 [] (LVs g B (i + 1)) w' := by
  obtain ⟨s, lev, nG, h⟩ := h
  have a1 : nI (6 * i) + 1 = nI (6 * i + 1) := nI_add (6 * i) 1
  have z1 := hS 1 (by decide)
  have a2 : nI (6 * i) + 2 = nI (6 * i + 2) := nI_add (6 * i) 2
  have z2 := hS 2 (by decide)
  have a3 : nI (6 * i) + 3 = nI (6 * i + 3) := nI_add (6 * i) 3
  have z3 := hS 3 (by decide)
  have a4 : nI (6 * i) + 4 = nI (6 * i + 4) := nI_add (6 * i) 4
  have z4 := hS 4 (by decide)
  have a6 : nI (6 * i) + 6 = nI (6 * (i + 1)) := nI_add (6 * i) 6
  obtain ⟨k, w1, x1, v, w2, x2, e1, o1, e2, o2, e3, e4, hL⟩ := ly_when hg h (g.2.2.2.2.2.2.2 (6 * i + 1)) (g.2.2.2.2.2.2.2 (6 * i + 2)) (g.2.2.2.2.2.2.2 (6 * i + 3)) (g.2.2.2.2.2.2.2 (6 * i + 4))
  have th := thrown_sp (g := g) o2
  rw [e3] at th
  refine ⟨F + 1, w2, by omega, hL, ?_⟩
  rw [show F + 4 = (F + 1) + 3 from rfl]
  generalize F + 1 = FF
  by_cases y : k = 0
  · subst y
    have e5 := e4 rfl
    have e6 : lg_cmp v.toInt64 v.toInt64 = 0 := cz_y rfl
    clear hL h hS e4
    simp [LVs, jL_law, bL_law_66, bL_law_67, bL_law_79, i_aload, i_iload, i_push, i_iadd, i_sli, i_istore, i_iceq, i_ifne, i_ifeq, i_laload, i_i2l, i_lcmp, i_zreturn, i_jmp, i_iinc, i_lstore, i_lload, msk, lset1, lset2, clr, Value.category, Option.toList, List.cons_append, List.nil_append, List.length_cons, List.length_nil, a1, z1, a2, z2, a3, z3, a4, z4, a6, csk_6 e1, cvk_4 o1 e2, cvk_0 o2 th, e5, e6]
  · clear hL h hS e4
    simp [LVs, jL_law, bL_law_66, bL_law_67, bL_law_79, i_aload, i_iload, i_push, i_iadd, i_sli, i_istore, i_iceq, i_ifne, i_ifeq, i_laload, i_i2l, i_lcmp, i_zreturn, i_jmp, i_iinc, i_lstore, i_lload, msk, lset1, lset2, clr, Value.category, Option.toList, List.cons_append, List.nil_append, List.length_cons, List.length_nil, a1, z1, a2, z2, a3, z3, a4, z4, a6, csk_6 e1, cvk_4 o1 e2, cvk_0 o2 th, y]
theorem lb_steps (hg : GD g) (hS : SCx g i) (h : LWi g w B i c0 s0) (F : Nat) : ∃ f' w', F ≤ f' ∧ LWi g w' B (i + 1) c0 s0 ∧ jL_law g (F + 4) 68 [] (LVs g B i) w = jL_law g f' 1 [] (LVs g B (i + 1)) w' := by
  obtain ⟨s, lev, nG, h⟩ := h
  have a1 : nI (6 * i) + 1 = nI (6 * i + 1) := nI_add (6 * i) 1
  have z1 := hS 1 (by decide)
  have a2 : nI (6 * i) + 2 = nI (6 * i + 2) := nI_add (6 * i) 2
  have z2 := hS 2 (by decide)
  have a3 : nI (6 * i) + 3 = nI (6 * i + 3) := nI_add (6 * i) 3
  have z3 := hS 3 (by decide)
  have a6 : nI (6 * i) + 6 = nI (6 * (i + 1)) := nI_add (6 * i) 6
  obtain ⟨k, w1, x1, v, w2, x2, e1, o1, e2, o2, e3, e4, hL⟩ := ly_steps hg h (g.2.2.2.2.2.2.2 (6 * i + 1)) (g.2.2.2.2.2.2.2 (6 * i + 2)) (g.2.2.2.2.2.2.2 (6 * i + 3))
  have th := thrown_sp (g := g) o2
  rw [e3] at th
  refine ⟨F + 1, w2, by omega, hL, ?_⟩
  rw [show F + 4 = (F + 1) + 3 from rfl]
  generalize F + 1 = FF
  by_cases y : k = 0
  · subst y
    have e5 := e4 rfl
    have e6 : lg_cmp v.toInt64 v.toInt64 = 0 := cz_y rfl
    clear hL h hS e4
    simp [LVs, jL_law, bL_law_68, bL_law_69, bL_law_79, i_aload, i_iload, i_push, i_iadd, i_sli, i_istore, i_iceq, i_ifne, i_ifeq, i_laload, i_i2l, i_lcmp, i_zreturn, i_jmp, i_iinc, i_lstore, i_lload, msk, lset1, lset2, clr, Value.category, Option.toList, List.cons_append, List.nil_append, List.length_cons, List.length_nil, a1, z1, a2, z2, a3, z3, a6, csk_5 e1, cvk_3 o1 e2, cvk_0 o2 th, e5, e6]
  · clear hL h hS e4
    simp [LVs, jL_law, bL_law_68, bL_law_69, bL_law_79, i_aload, i_iload, i_push, i_iadd, i_sli, i_istore, i_iceq, i_ifne, i_ifeq, i_laload, i_i2l, i_lcmp, i_zreturn, i_jmp, i_iinc, i_lstore, i_lload, msk, lset1, lset2, clr, Value.category, Option.toList, List.cons_append, List.nil_append, List.length_cons, List.length_nil, a1, z1, a2, z2, a3, z3, a6, csk_5 e1, cvk_3 o1 e2, cvk_0 o2 th, y]
theorem lb_pairs (hg : GD g) (hS : SCx g i) (h : LWi g w B i c0 s0) (F : Nat) : ∃ f' w', F ≤ f' ∧ LWi g w' B (i + 1) c0 s0 ∧ jL_law g (F + 4) 70 [] (LVs g B i) w = jL_law g f' 1 [] (LVs g B (i + 1)) w' := by
  obtain ⟨s, lev, nG, h⟩ := h
  have a1 : nI (6 * i) + 1 = nI (6 * i + 1) := nI_add (6 * i) 1
  have z1 := hS 1 (by decide)
  have a2 : nI (6 * i) + 2 = nI (6 * i + 2) := nI_add (6 * i) 2
  have z2 := hS 2 (by decide)
  have a6 : nI (6 * i) + 6 = nI (6 * (i + 1)) := nI_add (6 * i) 6
  obtain ⟨k, w1, x1, v, w2, x2, e1, o1, e2, o2, e3, e4, hL⟩ := ly_pairs hg h (g.2.2.2.2.2.2.2 (6 * i + 1)) (g.2.2.2.2.2.2.2 (6 * i + 2))
  have th := thrown_sp (g := g) o2
  rw [e3] at th
  refine ⟨F + 1, w2, by omega, hL, ?_⟩
  rw [show F + 4 = (F + 1) + 3 from rfl]
  generalize F + 1 = FF
  by_cases y : k = 0
  · subst y
    have e5 := e4 rfl
    have e6 : lg_cmp v.toInt64 v.toInt64 = 0 := cz_y rfl
    clear hL h hS e4
    simp [LVs, jL_law, bL_law_70, bL_law_71, bL_law_79, i_aload, i_iload, i_push, i_iadd, i_sli, i_istore, i_iceq, i_ifne, i_ifeq, i_laload, i_i2l, i_lcmp, i_zreturn, i_jmp, i_iinc, i_lstore, i_lload, msk, lset1, lset2, clr, Value.category, Option.toList, List.cons_append, List.nil_append, List.length_cons, List.length_nil, a1, z1, a2, z2, a6, csk_4 e1, cvk_2 o1 e2, cvk_0 o2 th, e5, e6]
  · clear hL h hS e4
    simp [LVs, jL_law, bL_law_70, bL_law_71, bL_law_79, i_aload, i_iload, i_push, i_iadd, i_sli, i_istore, i_iceq, i_ifne, i_ifeq, i_laload, i_i2l, i_lcmp, i_zreturn, i_jmp, i_iinc, i_lstore, i_lload, msk, lset1, lset2, clr, Value.category, Option.toList, List.cons_append, List.nil_append, List.length_cons, List.length_nil, a1, z1, a2, z2, a6, csk_4 e1, cvk_2 o1 e2, cvk_0 o2 th, y]
theorem lb_rows (hg : GD g) (hS : SCx g i) (h : LWi g w B i c0 s0) (F : Nat) : ∃ f' w', F ≤ f' ∧ LWi g w' B (i + 1) c0 s0 ∧ jL_law g (F + 4) 72 [] (LVs g B i) w = jL_law g f' 1 [] (LVs g B (i + 1)) w' := by
  obtain ⟨s, lev, nG, h⟩ := h
  have a1 : nI (6 * i) + 1 = nI (6 * i + 1) := nI_add (6 * i) 1
  have z1 := hS 1 (by decide)
  have a6 : nI (6 * i) + 6 = nI (6 * (i + 1)) := nI_add (6 * i) 6
  obtain ⟨k, w1, x1, v, w2, x2, e1, o1, e2, o2, e3, e4, hL⟩ := ly_rows hg h (g.2.2.2.2.2.2.2 (6 * i + 1))
  have th := thrown_sp (g := g) o2
  rw [e3] at th
  refine ⟨F + 1, w2, by omega, hL, ?_⟩
  rw [show F + 4 = (F + 1) + 3 from rfl]
  generalize F + 1 = FF
  by_cases y : k = 0
  · subst y
    have e5 := e4 rfl
    have e6 : lg_cmp v.toInt64 v.toInt64 = 0 := cz_y rfl
    clear hL h hS e4
    simp [LVs, jL_law, bL_law_72, bL_law_73, bL_law_79, i_aload, i_iload, i_push, i_iadd, i_sli, i_istore, i_iceq, i_ifne, i_ifeq, i_laload, i_i2l, i_lcmp, i_zreturn, i_jmp, i_iinc, i_lstore, i_lload, msk, lset1, lset2, clr, Value.category, Option.toList, List.cons_append, List.nil_append, List.length_cons, List.length_nil, a1, z1, a6, csk_3 e1, cvk_1 o1 e2, cvk_0 o2 th, e5, e6]
  · clear hL h hS e4
    simp [LVs, jL_law, bL_law_72, bL_law_73, bL_law_79, i_aload, i_iload, i_push, i_iadd, i_sli, i_istore, i_iceq, i_ifne, i_ifeq, i_laload, i_i2l, i_lcmp, i_zreturn, i_jmp, i_iinc, i_lstore, i_lload, msk, lset1, lset2, clr, Value.category, Option.toList, List.cons_append, List.nil_append, List.length_cons, List.length_nil, a1, z1, a6, csk_3 e1, cvk_1 o1 e2, cvk_0 o2 th, y]
theorem lb_bare (hg : GD g) (hS : SCx g i) (h : LWi g w B i c0 s0) (F : Nat) : ∃ f' w', F ≤ f' ∧ LWi g w' B (i + 1) c0 s0 ∧ jL_law g (F + 4) 74 [] (LVs g B i) w = jL_law g f' 1 [] (LVs g B (i + 1)) w' := by
  obtain ⟨s, lev, nG, h⟩ := h
  have a6 : nI (6 * i) + 6 = nI (6 * (i + 1)) := nI_add (6 * i) 6
  obtain ⟨fs, hO⟩ := h.ob
  obtain ⟨v, w1, x1, w2, e1, o1, e2, hL⟩ := ly_bare hg h
  refine ⟨F + 2, w2, by omega, hL, ?_⟩
  rw [show F + 4 = (F + 2) + 2 from rfl]
  generalize F + 2 = FF
  clear hL h hS
  simp [LVs, jL_law, bL_law_74, bL_law_79, i_aload, i_iload, i_push, i_iadd, i_sli, i_istore, i_iceq, i_ifne, i_ifeq, i_laload, i_i2l, i_lcmp, i_zreturn, i_jmp, i_iinc, i_lstore, i_lload, msk, lset1, lset2, clr, Value.category, Option.toList, List.cons_append, List.nil_append, List.length_cons, List.length_nil, a6, cvk_0 hO e1, cvk_0 o1 e2]
theorem lb_image (hg : GD g) (hS : SCx g i) (h : LWi g w B i c0 s0) (F : Nat) : ∃ f' w', F ≤ f' ∧ LWi g w' B (i + 1) c0 s0 ∧ jL_law g (F + 4) 75 [] (LVs g B i) w = jL_law g f' 1 [] (LVs g B (i + 1)) w' := by
  obtain ⟨s, lev, nG, h⟩ := h
  have a6 : nI (6 * i) + 6 = nI (6 * (i + 1)) := nI_add (6 * i) 6
  obtain ⟨fs, hO⟩ := h.ob
  obtain ⟨v, w1, x1, w2, e1, o1, e2, hL⟩ := ly_image hg h
  refine ⟨F + 2, w2, by omega, hL, ?_⟩
  rw [show F + 4 = (F + 2) + 2 from rfl]
  generalize F + 2 = FF
  clear hL h hS
  simp [LVs, jL_law, bL_law_75, bL_law_79, i_aload, i_iload, i_push, i_iadd, i_sli, i_istore, i_iceq, i_ifne, i_ifeq, i_laload, i_i2l, i_lcmp, i_zreturn, i_jmp, i_iinc, i_lstore, i_lload, msk, lset1, lset2, clr, Value.category, Option.toList, List.cons_append, List.nil_append, List.length_cons, List.length_nil, a6, cvk_0 hO e1, cvk_0 o1 e2]
theorem lb_restore (hg : GD g) (hS : SCx g i) (h : LWi g w B i c0 s0) (F : Nat) : ∃ f' w', F ≤ f' ∧ LWi g w' B (i + 1) c0 s0 ∧ jL_law g (F + 4) 76 [] (LVs g B i) w = jL_law g f' 1 [] (LVs g B (i + 1)) w' := by
  obtain ⟨s, lev, nG, h⟩ := h
  have a6 : nI (6 * i) + 6 = nI (6 * (i + 1)) := nI_add (6 * i) 6
  obtain ⟨fs, hO⟩ := h.ob
  obtain ⟨v, w1, x1, w2, e1, o1, e2, hL⟩ := ly_restore hg h
  refine ⟨F + 2, w2, by omega, hL, ?_⟩
  rw [show F + 4 = (F + 2) + 2 from rfl]
  generalize F + 2 = FF
  clear hL h hS
  simp [LVs, jL_law, bL_law_76, bL_law_79, i_aload, i_iload, i_push, i_iadd, i_sli, i_istore, i_iceq, i_ifne, i_ifeq, i_laload, i_i2l, i_lcmp, i_zreturn, i_jmp, i_iinc, i_lstore, i_lload, msk, lset1, lset2, clr, Value.category, Option.toList, List.cons_append, List.nil_append, List.length_cons, List.length_nil, a6, cvk_0 hO e1, cvk_0 o1 e2]
theorem lb_status (hg : GD g) (hS : SCx g i) (h : LWi g w B i c0 s0) (F : Nat) : ∃ f' w', F ≤ f' ∧ LWi g w' B (i + 1) c0 s0 ∧ jL_law g (F + 4) 77 [] (LVs g B i) w = jL_law g f' 1 [] (LVs g B (i + 1)) w' := by
  obtain ⟨s, lev, nG, h⟩ := h
  have a1 : nI (6 * i) + 1 = nI (6 * i + 1) := nI_add (6 * i) 1
  have z1 := hS 1 (by decide)
  have a6 : nI (6 * i) + 6 = nI (6 * (i + 1)) := nI_add (6 * i) 6
  obtain ⟨fs, hO⟩ := h.ob
  obtain ⟨v, w1, x1, w2, e1, o1, e2, hL⟩ := ly_status hg h (g.2.2.2.2.2.2.2 (6 * i + 1))
  refine ⟨F + 2, w2, by omega, hL, ?_⟩
  rw [show F + 4 = (F + 2) + 2 from rfl]
  generalize F + 2 = FF
  clear hL h hS
  simp [LVs, jL_law, bL_law_77, bL_law_79, i_aload, i_iload, i_push, i_iadd, i_sli, i_istore, i_iceq, i_ifne, i_ifeq, i_laload, i_i2l, i_lcmp, i_zreturn, i_jmp, i_iinc, i_lstore, i_lload, msk, lset1, lset2, clr, Value.category, Option.toList, List.cons_append, List.nil_append, List.length_cons, List.length_nil, a1, z1, a6, cvk_1 hO e1, cvk_1 o1 e2]
theorem lb_count (hg : GD g) (hS : SCx g i) (h : LWi g w B i c0 s0) (F : Nat) : ∃ f' w', F ≤ f' ∧ LWi g w' B (i + 1) c0 s0 ∧ jL_law g (F + 4) 78 [] (LVs g B i) w = jL_law g f' 1 [] (LVs g B (i + 1)) w' := by
  obtain ⟨s, lev, nG, h⟩ := h
  have a1 : nI (6 * i) + 1 = nI (6 * i + 1) := nI_add (6 * i) 1
  have z1 := hS 1 (by decide)
  have a6 : nI (6 * i) + 6 = nI (6 * (i + 1)) := nI_add (6 * i) 6
  obtain ⟨fs, hO⟩ := h.ob
  obtain ⟨v, w1, x1, w2, e1, o1, e2, hL⟩ := ly_count hg h (g.2.2.2.2.2.2.2 (6 * i + 1))
  refine ⟨F + 2, w2, by omega, hL, ?_⟩
  rw [show F + 4 = (F + 2) + 2 from rfl]
  generalize F + 2 = FF
  clear hL h hS
  simp [LVs, jL_law, bL_law_78, bL_law_79, i_aload, i_iload, i_push, i_iadd, i_sli, i_istore, i_iceq, i_ifne, i_ifeq, i_laload, i_i2l, i_lcmp, i_zreturn, i_jmp, i_iinc, i_lstore, i_lload, msk, lset1, lset2, clr, Value.category, Option.toList, List.cons_append, List.nil_append, List.length_cons, List.length_nil, a1, z1, a6, cvk_1 hO e1, cvk_1 o1 e2]
end
