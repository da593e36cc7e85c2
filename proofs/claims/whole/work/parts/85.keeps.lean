/-! ===== a blot is kept; a deed is cleared; its rows are counted ===== -/
theorem DEED.cf {g : GE} {w w1 : Mem} {D : Nat} {δ : DE} {c : Nat → Nat} (h : DEED g w D δ) (F : Fr (fun q => q = D) w w1) (ho : OB w1 D 2 [.ref (D + 1), .ref (D + 2), .ref (D + 3), .ref (D + 4), .ref (D + 5), .ref (D + 6), .ref (D + 7), .ref (D + 8), .ref (D + 9), .int (nI (c 0)), .int (nI (c 1)), .int (nI (c 2)), .int (nI (c 5)), .int (nI (c 3)), .int (nI (c 4)), .int (nI (c 6))]) : DEED g w1 D (c, δ.2) := by
  obtain ⟨h0, h1, h2, h3, h4, h5, h6, h7, h8, h9, hp, hb, hv⟩ := h
  exact ⟨ho, h1.fr F (by omega), h2.fr F (by omega), h3.fr F (by omega), h4.fr F (by omega), h5.fr F (by omega), h6.fr F (by omega), h7.fr F (by omega), h8.fr F (by omega), h9.fr F (by omega), fun k hk => F.at (hp k hk) (by omega), fun k hk => F.at (hb k hk) (by omega), fun k hk => (hv k hk).fr F (by omega)⟩
theorem clearD_sp {g : GE} {w : Mem} {D : Nat} {δ : DE} (hD : DEED g w D δ) :
    ∃ w', fX2_clear g [.ref D] w = some (.inl none, w') ∧ DEED g w' D (clear δ) ∧ Fr (rg D (D + 35)) w w' := by
  have a0 := hD.1
  obtain ⟨w1, hw1⟩ : ∃ z, mset w D (.inr (2, [.ref (D + 1), .ref (D + 2), .ref (D + 3), .ref (D + 4), .ref (D + 5), .ref (D + 6), .ref (D + 7), .ref (D + 8), .ref (D + 9), .int 0, .int (nI (δ.1 1)), .int (nI (δ.1 2)), .int (nI (δ.1 5)), .int (nI (δ.1 3)), .int (nI (δ.1 4)), .int (nI (δ.1 6))])) = z := ⟨_, rfl⟩
  have a1 : OB w1 D 2 [.ref (D + 1), .ref (D + 2), .ref (D + 3), .ref (D + 4), .ref (D + 5), .ref (D + 6), .ref (D + 7), .ref (D + 8), .ref (D + 9), .int 0, .int (nI (δ.1 1)), .int (nI (δ.1 2)), .int (nI (δ.1 5)), .int (nI (δ.1 3)), .int (nI (δ.1 4)), .int (nI (δ.1 6))] := hw1 ▸ ms_at _ _ _
  have F1 : Fr (fun q => q = D) w w1 := hw1 ▸ Fr.ms _ _ rfl
  obtain ⟨w2, hw2⟩ : ∃ z, mset w1 D (.inr (2, [.ref (D + 1), .ref (D + 2), .ref (D + 3), .ref (D + 4), .ref (D + 5), .ref (D + 6), .ref (D + 7), .ref (D + 8), .ref (D + 9), .int 0, .int 0, .int (nI (δ.1 2)), .int (nI (δ.1 5)), .int (nI (δ.1 3)), .int (nI (δ.1 4)), .int (nI (δ.1 6))])) = z := ⟨_, rfl⟩
  have a2 : OB w2 D 2 [.ref (D + 1), .ref (D + 2), .ref (D + 3), .ref (D + 4), .ref (D + 5), .ref (D + 6), .ref (D + 7), .ref (D + 8), .ref (D + 9), .int 0, .int 0, .int (nI (δ.1 2)), .int (nI (δ.1 5)), .int (nI (δ.1 3)), .int (nI (δ.1 4)), .int (nI (δ.1 6))] := hw2 ▸ ms_at _ _ _
  have F2 : Fr (fun q => q = D) w1 w2 := hw2 ▸ Fr.ms _ _ rfl
  obtain ⟨w3, hw3⟩ : ∃ z, mset w2 D (.inr (2, [.ref (D + 1), .ref (D + 2), .ref (D + 3), .ref (D + 4), .ref (D + 5), .ref (D + 6), .ref (D + 7), .ref (D + 8), .ref (D + 9), .int 0, .int 0, .int 0, .int (nI (δ.1 5)), .int (nI (δ.1 3)), .int (nI (δ.1 4)), .int (nI (δ.1 6))])) = z := ⟨_, rfl⟩
  have a3 : OB w3 D 2 [.ref (D + 1), .ref (D + 2), .ref (D + 3), .ref (D + 4), .ref (D + 5), .ref (D + 6), .ref (D + 7), .ref (D + 8), .ref (D + 9), .int 0, .int 0, .int 0, .int (nI (δ.1 5)), .int (nI (δ.1 3)), .int (nI (δ.1 4)), .int (nI (δ.1 6))] := hw3 ▸ ms_at _ _ _
  have F3 : Fr (fun q => q = D) w2 w3 := hw3 ▸ Fr.ms _ _ rfl
  obtain ⟨w4, hw4⟩ : ∃ z, mset w3 D (.inr (2, [.ref (D + 1), .ref (D + 2), .ref (D + 3), .ref (D + 4), .ref (D + 5), .ref (D + 6), .ref (D + 7), .ref (D + 8), .ref (D + 9), .int 0, .int 0, .int 0, .int 0, .int (nI (δ.1 3)), .int (nI (δ.1 4)), .int (nI (δ.1 6))])) = z := ⟨_, rfl⟩
  have a4 : OB w4 D 2 [.ref (D + 1), .ref (D + 2), .ref (D + 3), .ref (D + 4), .ref (D + 5), .ref (D + 6), .ref (D + 7), .ref (D + 8), .ref (D + 9), .int 0, .int 0, .int 0, .int 0, .int (nI (δ.1 3)), .int (nI (δ.1 4)), .int (nI (δ.1 6))] := hw4 ▸ ms_at _ _ _
  have F4 : Fr (fun q => q = D) w3 w4 := hw4 ▸ Fr.ms _ _ rfl
  obtain ⟨w5, hw5⟩ : ∃ z, mset w4 D (.inr (2, [.ref (D + 1), .ref (D + 2), .ref (D + 3), .ref (D + 4), .ref (D + 5), .ref (D + 6), .ref (D + 7), .ref (D + 8), .ref (D + 9), .int 0, .int 0, .int 0, .int 0, .int 0, .int (nI (δ.1 4)), .int (nI (δ.1 6))])) = z := ⟨_, rfl⟩
  have a5 : OB w5 D 2 [.ref (D + 1), .ref (D + 2), .ref (D + 3), .ref (D + 4), .ref (D + 5), .ref (D + 6), .ref (D + 7), .ref (D + 8), .ref (D + 9), .int 0, .int 0, .int 0, .int 0, .int 0, .int (nI (δ.1 4)), .int (nI (δ.1 6))] := hw5 ▸ ms_at _ _ _
  have F5 : Fr (fun q => q = D) w4 w5 := hw5 ▸ Fr.ms _ _ rfl
  obtain ⟨w6, hw6⟩ : ∃ z, mset w5 D (.inr (2, [.ref (D + 1), .ref (D + 2), .ref (D + 3), .ref (D + 4), .ref (D + 5), .ref (D + 6), .ref (D + 7), .ref (D + 8), .ref (D + 9), .int 0, .int 0, .int 0, .int 0, .int 0, .int 0, .int (nI (δ.1 6))])) = z := ⟨_, rfl⟩
  have a6 : OB w6 D 2 [.ref (D + 1), .ref (D + 2), .ref (D + 3), .ref (D + 4), .ref (D + 5), .ref (D + 6), .ref (D + 7), .ref (D + 8), .ref (D + 9), .int 0, .int 0, .int 0, .int 0, .int 0, .int 0, .int (nI (δ.1 6))] := hw6 ▸ ms_at _ _ _
  have F6 : Fr (fun q => q = D) w5 w6 := hw6 ▸ Fr.ms _ _ rfl
  obtain ⟨w7, hw7⟩ : ∃ z, mset w6 D (.inr (2, [.ref (D + 1), .ref (D + 2), .ref (D + 3), .ref (D + 4), .ref (D + 5), .ref (D + 6), .ref (D + 7), .ref (D + 8), .ref (D + 9), .int 0, .int 0, .int 0, .int 0, .int 0, .int 0, .int 1])) = z := ⟨_, rfl⟩
  have a7 : OB w7 D 2 [.ref (D + 1), .ref (D + 2), .ref (D + 3), .ref (D + 4), .ref (D + 5), .ref (D + 6), .ref (D + 7), .ref (D + 8), .ref (D + 9), .int 0, .int 0, .int 0, .int 0, .int 0, .int 0, .int 1] := hw7 ▸ ms_at _ _ _
  have F7 : Fr (fun q => q = D) w6 w7 := hw7 ▸ Fr.ms _ _ rfl
  have F := (((((F1.tr F2).tr F3).tr F4).tr F5).tr F6).tr F7
  refine ⟨w7, ?_, hD.cf F a7, F.mn fun q h => by unfold rg; omega⟩
  simp [fX2_clear, kX2_clear, ent, entp, bX2_clear_0, i_aload, i_push, i_putf, i_return, msk, lset1, lset2, clr, Value.category, Option.toList, List.cons_append, List.nil_append, List.length_cons, List.length_nil, sf_i a0, hw1, sf_i a1, hw2, sf_i a2, hw3, sf_i a3, hw4, sf_i a4, hw5, sf_i a5, hw6, sf_i a6, hw7]
theorem lN_gtB {a b : Nat} (ha : a < 2 ^ 63) (hb : b < 2 ^ 63) : 0 < lg_cmp (lN a) (lN b) ↔ b < a := by
  rw [lg_cmp_gt, Int64.lt_iff_toInt_lt]
  unfold lN
  rw [lg_ofNat_toInt ha, lg_ofNat_toInt hb]
  omega
theorem prd_le {δ : DE} : ∀ b, (∀ k, k < b → δ.2 10 k ≤ 100) → prd δ b ≤ 100 ^ b
  | 0, _ => Nat.le_refl _
  | b + 1, h => by
    have ih := prd_le (δ := δ) b fun k hk => h k (by omega)
    unfold prd
    rw [Nat.pow_succ]
    exact Nat.mul_le_mul ih (h b (by omega))
theorem countRows_sp {g : GE} (hg : FU g) {w : Mem} {D : Nat} {δ : DE} (hD : DEED g w D δ) (hQ : PQ δ) :
    ∃ w', fX2_countRows g [.ref D] w = some (.inl (some (.int (if 20000 < prd δ (δ.1 3) then 0 else 1))), w') ∧ DEED g w' D (dC δ 6 (if 20000 < prd δ (δ.1 3) then 0 else prd δ (δ.1 3))) ∧ Fr (rg D (D + 35)) w w' := by
  obtain ⟨N, hN⟩ : ∃ N, g.1 = N + 1 := ⟨g.1 - 1, by omega⟩
  have b3 := hQ.1.2.2.2.1
  have a0 := hD.1
  have pl := prd_le (δ := δ) (δ.1 3) fun k hk => (hQ.2.2.1 k hk).2.1
  have pl2 : 100 ^ (δ.1 3) ≤ 100 ^ 8 := Nat.pow_le_pow_right (by decide) b3
  have pl3 : (100 : Nat) ^ 8 < 2 ^ 63 := by decide
  have cm := lN_gtB (a := prd δ (δ.1 3)) (b := 20000) (by omega) (by decide)
  have cm' : 0 < lg_cmp (lN (prd δ (δ.1 3))) 20000 ↔ 20000 < prd δ (δ.1 3) := cm
  have L := lpC (fun f (z : Lv) => jX2_countRows g f 1 [] z w) (fun i z => z = [some (.ref D), some (.long (lN (prd δ i))), none, some (.int (nI i))]) 1 (δ.1 3)
    (fun i z hi hI f => by
      have e3 := nI_ge hi (by omega)
      have rd := hD.2.2.2.2.2.2.2.2.2.1.rd (j := i) (by omega) (by decide)
      have ob := hD.2.2.2.2.2.2.2.2.2.2.2.1 i (by omega)
      have l1 : (nI (δ.2 10 i)).toInt64 = lN (δ.2 10 i) := nI_l (by have := (hQ.2.2.1 i hi).2.1; omega)
      have l2 : lN (prd δ i) * lN (δ.2 10 i) = lN (prd δ (i + 1)) := lN_mul _ _
      refine ⟨f, [some (.ref D), some (.long (lN (prd δ (i + 1)))), none, some (.int (nI (i + 1)))], Nat.le_refl _, rfl, ?_⟩
      subst hI
      generalize prd δ (i + 1) = P1 at *
      generalize prd δ i = P0 at *
      simp [jX2_countRows, bX2_countRows_0, bX2_countRows_1, bX2_countRows_2, bX2_countRows_3, i_aaload, i_aload, i_getf, i_i2l, i_icge, i_ifgt, i_iinc, i_iload, i_istore, i_jmp, i_l2i, i_lcmp, i_lload, i_lmul, i_lstore, i_push, i_putf, i_zreturn, msk, lset1, lset2, clr, Value.category, Option.toList, List.cons_append, List.nil_append, List.length_cons, List.length_nil, gf_eq a0, e3, rd, va_rf, gf_eq ob, l1, l2, nI_1])
  obtain ⟨N1, hN1⟩ : ∃ N1, N = N1 + 1 * δ.1 3 := ⟨N - δ.1 3, by omega⟩
  obtain ⟨f', s', g1, g2, g3⟩ := L (δ.1 3) 0 [some (.ref D), some (.long (lN (prd δ 0))), none, some (.int (nI 0))] (by omega) rfl N1
  obtain ⟨f2, hf2⟩ : ∃ f2, f' = f2 + 3 := ⟨f' - 3, by omega⟩

  rw [← hN1, g2, hf2, nI_0, show lN (prd δ 0) = 1 from rfl] at g3
  have e0 : fX2_countRows g [.ref D] w = jX2_countRows g N 1 [] [some (.ref D), some (.long 1), none, some (.int 0)] w := by
    clear g3
    simp [fX2_countRows, kX2_countRows, ent, entp, jX2_countRows, bX2_countRows_0, bX2_countRows_1, bX2_countRows_2, bX2_countRows_3, i_aaload, i_aload, i_getf, i_i2l, i_icge, i_ifgt, i_iinc, i_iload, i_istore, i_jmp, i_l2i, i_lcmp, i_lload, i_lmul, i_lstore, i_push, i_putf, i_zreturn, msk, lset1, lset2, clr, Value.category, Option.toList, List.cons_append, List.nil_append, List.length_cons, List.length_nil, hN]
  rw [e0, g3]
  clear e0 g3 g2 L hN1
  have li : (lN (prd δ (δ.1 3))).toInt32 = nI (prd δ (δ.1 3)) := lN_i _
  have cn := hD.cn (va_up δ.1 6 (if 20000 < prd δ (δ.1 3) then 0 else prd δ (δ.1 3)))
  by_cases y : 20000 < prd δ (δ.1 3)
  · have y1 := cm'.mpr y
    rw [if_pos y] at cn ⊢
    refine ⟨_, ?_, by rw [if_pos y]; exact cn, Fr.ms _ _ (by unfold rg; omega)⟩
    generalize prd δ (δ.1 3) = P at *
    simp [jX2_countRows, bX2_countRows_0, bX2_countRows_1, bX2_countRows_2, bX2_countRows_3, i_aaload, i_aload, i_getf, i_i2l, i_icge, i_ifgt, i_iinc, i_iload, i_istore, i_jmp, i_l2i, i_lcmp, i_lload, i_lmul, i_lstore, i_push, i_putf, i_zreturn, msk, lset1, lset2, clr, Value.category, Option.toList, List.cons_append, List.nil_append, List.length_cons, List.length_nil, gf_eq a0, y1, sf_i a0, va_up, nI_0]
  · have y1 := mt cm'.mp y
    rw [if_neg y] at cn ⊢
    refine ⟨_, ?_, by rw [if_neg y]; exact cn, Fr.ms _ _ (by unfold rg; omega)⟩
    generalize prd δ (δ.1 3) = P at *
    simp [jX2_countRows, bX2_countRows_0, bX2_countRows_1, bX2_countRows_2, bX2_countRows_3, i_aaload, i_aload, i_getf, i_i2l, i_icge, i_ifgt, i_iinc, i_iload, i_istore, i_jmp, i_l2i, i_lcmp, i_lload, i_lmul, i_lstore, i_push, i_putf, i_zreturn, msk, lset1, lset2, clr, Value.category, Option.toList, List.cons_append, List.nil_append, List.length_cons, List.length_nil, gf_eq a0, y1, li, sf_i a0, va_up]
theorem keepBlot_sp {g : GE} (hg : FU g) {w : Mem} {D : Nat} {δ : DE} (hD : DEED g w D δ) (hb : δ.1 3 < 8) (h5 : δ.1 5 < 36) (h2 : δ.1 2 ≤ 9) (h1 : 1 ≤ δ.1 2) (hl : δ.2 10 (δ.1 3) ≤ 100) :
    ∃ w', fX2_keepBlot g [.ref D] w = some (.inl (some (.int (if δ.2 10 (δ.1 3) = 0 then 0 else 1))), w') ∧ DEED g w' D (if δ.2 10 (δ.1 3) = 0 then δ else addPl (dC (dT (dT δ 11 (δ.1 3) (δ.1 2 - 1)) 12 (δ.1 3) (δ.1 5)) 3 (δ.1 3 + 1)) (δ.2 8 (δ.1 3)) (δ.2 (20 + δ.1 3) 0)) ∧ Fr (rg D (D + 35)) w w' := by
  obtain ⟨N, hN⟩ : ∃ N, g.1 = N + 2 := ⟨g.1 - 2, by omega⟩
  have a0 := hD.1
  have e0 : ¬ (8 : Int32) ≤ nI (δ.1 3) := nI_ge (b := 8) hb (by decide)
  have rd := hD.2.2.2.2.2.2.2.2.2.1.rd (j := δ.1 3) (by omega) (by decide)
  have ob := hD.2.2.2.2.2.2.2.2.2.2.2.1 (δ.1 3) hb
  have z0 := nI_eq (a := δ.2 10 (δ.1 3)) (b := 0) (by omega) (by decide)
  have z0' : nI (δ.2 10 (δ.1 3)) = 0 ↔ δ.2 10 (δ.1 3) = 0 := z0
  by_cases y : δ.2 10 (δ.1 3) = 0
  · rw [if_pos y]
    refine ⟨w, ?_, by rw [if_pos y]; exact hD, Fr.rf _ _⟩
    have y1 := z0'.mpr y
    simp [fX2_keepBlot, kX2_keepBlot, ent, entp, jX2_keepBlot, bX2_keepBlot_0, bX2_keepBlot_1, i_aaload, i_aload, i_astore, i_dup, i_getf, i_iadd, i_iaload, i_icge, i_ifne, i_isub, i_jmp, i_push, i_putf, i_zreturn, msk, lset1, lset2, clr, Value.category, Option.toList, List.cons_append, List.nil_append, List.length_cons, List.length_nil, hN, gf_eq a0, e0, rd, va_rf, gf_eq ob, y1]
  · rw [if_neg y]
    have y1 := mt z0'.mp y
    have e1 : nI (δ.1 2) - 1 = nI (δ.1 2 - 1) := nI_sub (s := 1) h1
    obtain ⟨w1, hw1⟩ : ∃ z, mset w (D + 19 + 2 * δ.1 3) (.inr (1, [.ref (D + 20 + 2 * δ.1 3), .int (nI (δ.2 10 (δ.1 3))), .int (nI (δ.2 8 (δ.1 3))), .int (nI (δ.2 9 (δ.1 3))), .int (nI (δ.1 2 - 1)), .int (nI (δ.2 12 (δ.1 3)))])) = z := ⟨_, rfl⟩
    have d1 : DEED g w1 D (dT δ 11 (δ.1 3) (δ.1 2 - 1)) := hw1 ▸ hD.t11 hb (δ.1 2 - 1)
    have F1 : Fr (rg D (D + 35)) w w1 := hw1 ▸ Fr.ms _ _ (by unfold rg; omega)
    have o1 : OB w1 (D + 19 + 2 * δ.1 3) 1 [.ref (D + 20 + 2 * δ.1 3), .int (nI (δ.2 10 (δ.1 3))), .int (nI (δ.2 8 (δ.1 3))), .int (nI (δ.2 9 (δ.1 3))), .int (nI (δ.1 2 - 1)), .int (nI (δ.2 12 (δ.1 3)))] := hw1 ▸ ms_at _ _ _
    obtain ⟨w2, hw2⟩ : ∃ z, mset w1 (D + 19 + 2 * δ.1 3) (.inr (1, [.ref (D + 20 + 2 * δ.1 3), .int (nI (δ.2 10 (δ.1 3))), .int (nI (δ.2 8 (δ.1 3))), .int (nI (δ.2 9 (δ.1 3))), .int (nI (δ.1 2 - 1)), .int (nI (δ.1 5))])) = z := ⟨_, rfl⟩
    have d2 : DEED g w2 D (dT (dT δ 11 (δ.1 3) (δ.1 2 - 1)) 12 (δ.1 3) (δ.1 5)) := by
      have := d1.t12 hb (δ.1 5)
      rw [dT_e (k' := 8) (by decide), dT_e (k' := 9) (by decide), dT_e (k' := 10) (by decide), dT_2, if_pos rfl, if_pos rfl, hw2] at this
      exact this
    have F2 : Fr (rg D (D + 35)) w1 w2 := hw2 ▸ Fr.ms _ _ (by unfold rg; omega)
    have o2 : OB w2 (D + 19 + 2 * δ.1 3) 1 [.ref (D + 20 + 2 * δ.1 3), .int (nI (δ.2 10 (δ.1 3))), .int (nI (δ.2 8 (δ.1 3))), .int (nI (δ.2 9 (δ.1 3))), .int (nI (δ.1 2 - 1)), .int (nI (δ.1 5))] := hw2 ▸ ms_at _ _ _
    obtain ⟨w3, hw3⟩ : ∃ z, mset w2 D (.inr (2, [.ref (D + 1), .ref (D + 2), .ref (D + 3), .ref (D + 4), .ref (D + 5), .ref (D + 6), .ref (D + 7), .ref (D + 8), .ref (D + 9), .int (nI (δ.1 0)), .int (nI (δ.1 1)), .int (nI (δ.1 2)), .int (nI (δ.1 5)), .int (nI (δ.1 3 + 1)), .int (nI (δ.1 4)), .int (nI (δ.1 6))])) = z := ⟨_, rfl⟩
    have d3 : DEED g w3 D (dC (dT (dT δ 11 (δ.1 3) (δ.1 2 - 1)) 12 (δ.1 3) (δ.1 5)) 3 (δ.1 3 + 1)) := hw3 ▸ d2.cn (va_up δ.1 3 (δ.1 3 + 1))
    have F3 : Fr (fun q => q = D) w2 w3 := hw3 ▸ Fr.ms _ _ rfl
    have o3 := F3.at o2 (by omega)
    have v3 := (d3.2.2.2.2.2.2.2.2.2.2.2.2 (δ.1 3) hb).rd (j := 0) (by decide) (by decide)
    have ev : (dC (dT (dT δ 11 (δ.1 3) (δ.1 2 - 1)) 12 (δ.1 3) (δ.1 5)) 3 (δ.1 3 + 1)).2 (20 + δ.1 3) 0 = δ.2 (20 + δ.1 3) 0 := by
      simp [dC_2, dT_2, m20_11, m20_12]
    rw [ev] at v3
    rw [nI_0] at v3
    obtain ⟨w4, p1, p2, p3⟩ := addPlace_sp hg (kd := δ.2 8 (δ.1 3)) (v := δ.2 (20 + δ.1 3) 0) d3 h5
    refine ⟨w4, ?_, by rw [if_neg y]; exact p2, ((F1.tr F2).tr (F3.mn fun q h => by unfold rg; omega)).tr p3⟩
    have a1 := d1.1
    have a2 := d2.1
    have a3 := d3.1
    have a3' := a3
    simp only [dT_1] at a1 a2
    clear p2 p3 d1 d2 d3 F1 F2 F3
    generalize nI (δ.2 (20 + δ.1 3) 0) = V at *
    simp [fX2_keepBlot, kX2_keepBlot, ent, entp, jX2_keepBlot, bX2_keepBlot_0, bX2_keepBlot_1, i_aaload, i_aload, i_astore, i_dup, i_getf, i_iadd, i_iaload, i_icge, i_ifne, i_isub, i_jmp, i_push, i_putf, i_zreturn, msk, lset1, lset2, clr, Value.category, Option.toList, List.cons_append, List.nil_append, List.length_cons, List.length_nil, hN, gf_eq a0, e0, rd, va_rf, gf_eq ob, y1, e1, sf_i ob, hw1, gf_eq a1, sf_i o1, hw2, gf_eq a2, sf_i a2, nI_1, hw3, gf_eq o3, v3, cvk_2 a3 p1]
