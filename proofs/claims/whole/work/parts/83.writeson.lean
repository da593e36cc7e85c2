/-! ===== what the scribe writes, on ===== -/
theorem addThing_sp {g : GE} (hg : FU g) {w : Mem} {D C k : Nat} {δ : DE} (hD : DEED g w D δ) (hH : δ.1 1 < 5) :
    ∃ w', fX2_addThing g [.ref D, .long (lN C), .int (nI k)] w = some (.inl none, w') ∧ DEED g w' D (addTh δ C k) ∧ Fr (rg D (D + 35)) w w' := by
  obtain ⟨N, hN⟩ : ∃ N, g.1 = N + 2 := ⟨g.1 - 2, by omega⟩
  have e0 : ¬ 5 ≤ nI (δ.1 1) := nI_ge (b := 5) hH (by decide)
  obtain ⟨w1, hw1⟩ : ∃ z, wl w (D + 4) (δ.1 1) (lN C) = z := ⟨_, rfl⟩
  have d1 : DEED g w1 D (dT δ 14 (δ.1 1) C) := hw1 ▸ hD.t14 (δ.1 1) C
  have F1 : Fr (rg D (D + 35)) w w1 := hw1 ▸ Fr.wl _ _ _ (by unfold rg; omega)
  obtain ⟨w2, hw2⟩ : ∃ z, wi w1 0 (D + 5) (δ.1 1) (nI k) = z := ⟨_, rfl⟩
  have d2 : DEED g w2 D (dT (dT δ 14 (δ.1 1) C) 2 (δ.1 1) k) := hw2 ▸ d1.t2 (δ.1 1) k
  have F2 : Fr (rg D (D + 35)) w1 w2 := hw2 ▸ Fr.wi _ _ _ _ (by unfold rg; omega)
  obtain ⟨w3, hw3⟩ : ∃ z, mset w2 D (.inr (2, [.ref (D + 1), .ref (D + 2), .ref (D + 3), .ref (D + 4), .ref (D + 5), .ref (D + 6), .ref (D + 7), .ref (D + 8), .ref (D + 9), .int (nI (δ.1 0)), .int (nI (δ.1 1 + 1)), .int (nI (δ.1 2)), .int (nI (δ.1 5)), .int (nI (δ.1 3)), .int (nI (δ.1 4)), .int (nI (δ.1 6))])) = z := ⟨_, rfl⟩
  have d3 : DEED g w3 D (addTh δ C k) := hw3 ▸ d2.cn (va_up δ.1 1 (δ.1 1 + 1))
  have F3 : Fr (rg D (D + 35)) w2 w3 := hw3 ▸ Fr.ms _ _ (by unfold rg; omega)
  refine ⟨w3, ?_, d3, (F1.tr F2).tr F3⟩
  have a0 := hD.1
  have a1 := d1.1
  have a2 := d2.1
  have r1 := hD.2.2.2.2.1.wr (j := δ.1 1) (by omega) (by decide) (lN C)
  rw [hw1] at r1
  have r2 := d1.2.2.2.2.2.1.wr (j := δ.1 1) (by omega) (by decide) (nI k)
  rw [hw2] at r2
  simp only [dT_1] at a1 a2
  clear d1 d2 d3 F1 F2 F3
  simp [fX2_addThing, kX2_addThing, ent, entp, jX2_addThing, bX2_addThing_0, bX2_addThing_1, i_aload, i_dup, i_getf, i_iadd, i_iastore, i_icge, i_iload, i_jmp, i_lastore, i_lload, i_push, i_putf, i_return, msk, lset1, lset2, clr, Value.category, Option.toList, List.cons_append, List.nil_append, List.length_cons, List.length_nil, hN, gf_eq a0, e0, r1, gf_eq a1, r2, gf_eq a2, sf_i a2, nI_1, hw3]
theorem addPlace_sp {g : GE} (hg : FU g) {w : Mem} {D kd v : Nat} {δ : DE} (hD : DEED g w D δ) (h5 : δ.1 5 < 36) :
    ∃ w', fX2_addPlace g [.ref D, .int (nI kd), .int (nI v)] w = some (.inl none, w') ∧ DEED g w' D (addPl δ kd v) ∧ Fr (rg D (D + 35)) w w' := by
  obtain ⟨N, hN⟩ : ∃ N, g.1 = N + 2 := ⟨g.1 - 2, by omega⟩
  have e0 : ¬ (36 : Int32) ≤ nI (δ.1 5) := nI_ge (b := 36) h5 (by decide)
  have e0' : ¬ Int32.ofNat 36 ≤ nI (δ.1 5) := e0
  obtain ⟨w1, hw1⟩ : ∃ z, wi w 0 (D + 7) (δ.1 5) (nI kd) = z := ⟨_, rfl⟩
  have d1 : DEED g w1 D (dT δ 6 (δ.1 5) kd) := hw1 ▸ hD.t6 (δ.1 5) kd
  have F1 : Fr (rg D (D + 35)) w w1 := hw1 ▸ Fr.wi _ _ _ _ (by unfold rg; omega)
  obtain ⟨w2, hw2⟩ : ∃ z, wi w1 0 (D + 8) (δ.1 5) (nI v) = z := ⟨_, rfl⟩
  have d2 : DEED g w2 D (dT (dT δ 6 (δ.1 5) kd) 7 (δ.1 5) v) := hw2 ▸ d1.t7 (δ.1 5) v
  have F2 : Fr (rg D (D + 35)) w1 w2 := hw2 ▸ Fr.wi _ _ _ _ (by unfold rg; omega)
  obtain ⟨w3, hw3⟩ : ∃ z, mset w2 D (.inr (2, [.ref (D + 1), .ref (D + 2), .ref (D + 3), .ref (D + 4), .ref (D + 5), .ref (D + 6), .ref (D + 7), .ref (D + 8), .ref (D + 9), .int (nI (δ.1 0)), .int (nI (δ.1 1)), .int (nI (δ.1 2)), .int (nI (δ.1 5 + 1)), .int (nI (δ.1 3)), .int (nI (δ.1 4)), .int (nI (δ.1 6))])) = z := ⟨_, rfl⟩
  have d3 : DEED g w3 D (addPl δ kd v) := hw3 ▸ d2.cn (va_up δ.1 5 (δ.1 5 + 1))
  have F3 : Fr (rg D (D + 35)) w2 w3 := hw3 ▸ Fr.ms _ _ (by unfold rg; omega)
  refine ⟨w3, ?_, d3, (F1.tr F2).tr F3⟩
  have a0 := hD.1
  have a1 := d1.1
  have a2 := d2.1
  obtain ⟨-, -, -, -, -, -, -, h7, -⟩ := id hD
  obtain ⟨fc, hfc, -⟩ := id h7
  have r1 := h7.wr (j := δ.1 5) (by omega) (by decide) (nI kd)
  rw [hw1] at r1
  have r2 := d1.2.2.2.2.2.2.2.2.1.wr (j := δ.1 5) (by omega) (by decide) (nI v)
  rw [hw2] at r2
  simp only [dT_1] at a1 a2
  clear d1 d2 d3 F1 F2 F3
  simp [fX2_addPlace, kX2_addPlace, ent, entp, jX2_addPlace, bX2_addPlace_0, bX2_addPlace_1, i_alen, i_aload, i_dup, i_getf, i_iadd, i_iastore, i_icge, i_iload, i_jmp, i_push, i_putf, i_return, msk, lset1, lset2, clr, Value.category, Option.toList, List.cons_append, List.nil_append, List.length_cons, List.length_nil, hN, gf_eq a0, hfc, e0, e0', r1, gf_eq a1, r2, gf_eq a2, sf_i a2, nI_1, hw3]
theorem addPart_sp {g : GE} (hg : FU g) {w : Mem} {D vb : Nat} {δ : DE} (hD : DEED g w D δ) (h2 : δ.1 2 < 9) :
    ∃ w', fX2_addPart g [.ref D, .ref (g.2.1 (4 + vb))] w = some (.inl none, w') ∧ DEED g w' D (addPt δ vb) ∧ Fr (rg D (D + 35)) w w' := by
  obtain ⟨N, hN⟩ : ∃ N, g.1 = N + 2 := ⟨g.1 - 2, by omega⟩
  have e0 : ¬ (9 : Int32) ≤ nI (δ.1 2) := nI_ge (b := 9) h2 (by decide)
  obtain ⟨w1, hw1⟩ : ∃ z, mset w (D + 10 + δ.1 2) (.inr (3, [.ref (g.2.1 (4 + vb)), .int (nI (δ.2 4 (δ.1 2))), .int (nI (δ.2 5 (δ.1 2)))])) = z := ⟨_, rfl⟩
  have d1 : DEED g w1 D (dT δ 3 (δ.1 2) vb) := hw1 ▸ hD.t3 h2 vb
  have F1 : Fr (rg D (D + 35)) w w1 := hw1 ▸ Fr.ms _ _ (by unfold rg; omega)
  have p1 := d1.2.2.2.2.2.2.2.2.2.2.1 (δ.1 2) h2
  have p0 := hD.2.2.2.2.2.2.2.2.2.2.1 (δ.1 2) h2
  rw [dT_e (k' := 4) (by decide), dT_e (k' := 5) (by decide), dT_2, if_pos rfl, if_pos rfl] at p1
  obtain ⟨w2, hw2⟩ : ∃ z, mset w1 (D + 10 + δ.1 2) (.inr (3, [.ref (g.2.1 (4 + vb)), .int (nI (δ.2 4 (δ.1 2))), .int (nI (δ.1 5))])) = z := ⟨_, rfl⟩
  have d2 : DEED g w2 D (dT (dT δ 3 (δ.1 2) vb) 5 (δ.1 2) (δ.1 5)) := hw2 ▸ by
    have := d1.t5 h2 (δ.1 5)
    rw [dT_e (k' := 4) (by decide), dT_2, if_pos rfl, if_pos rfl] at this
    exact this
  have F2 : Fr (rg D (D + 35)) w1 w2 := hw2 ▸ Fr.ms _ _ (by unfold rg; omega)
  obtain ⟨w3, hw3⟩ : ∃ z, mset w2 D (.inr (2, [.ref (D + 1), .ref (D + 2), .ref (D + 3), .ref (D + 4), .ref (D + 5), .ref (D + 6), .ref (D + 7), .ref (D + 8), .ref (D + 9), .int (nI (δ.1 0)), .int (nI (δ.1 1)), .int (nI (δ.1 2 + 1)), .int (nI (δ.1 5)), .int (nI (δ.1 3)), .int (nI (δ.1 4)), .int (nI (δ.1 6))])) = z := ⟨_, rfl⟩
  have d3 : DEED g w3 D (addPt δ vb) := hw3 ▸ d2.cn (va_up δ.1 2 (δ.1 2 + 1))
  have F3 : Fr (rg D (D + 35)) w2 w3 := hw3 ▸ Fr.ms _ _ (by unfold rg; omega)
  refine ⟨w3, ?_, d3, (F1.tr F2).tr F3⟩
  have a0 := hD.1
  have a1 := d1.1
  have a2 := d2.1
  have r1 := hD.2.2.2.2.2.2.1.rd (j := δ.1 2) (by omega) (by decide)
  have r2 := d1.2.2.2.2.2.2.1.rd (j := δ.1 2) (by omega) (by decide)
  simp only [dT_1] at a1 a2
  have s1 := sf_eq p0 0 (.object "BlottedDeed$Verb") (.ref (g.2.1 (4 + vb))) (by simp) rfl
  simp only [List.set_cons_zero, hw1] at s1
  clear d1 d2 d3 F1 F2 F3
  generalize g.2.1 (4 + vb) = V at *
  simp [fX2_addPart, kX2_addPart, ent, entp, jX2_addPart, bX2_addPart_0, bX2_addPart_1, i_aaload, i_aload, i_dup, i_getf, i_iadd, i_icge, i_jmp, i_push, i_putf, i_return, msk, lset1, lset2, clr, Value.category, Option.toList, List.cons_append, List.nil_append, List.length_cons, List.length_nil, hN, gf_eq a0, e0, r1, va_rf, s1, gf_eq a1, r2, sf_i p1, hw2, gf_eq a2, sf_i a2, nI_1, hw3]
theorem nameThing_sp {g : GE} (hg : FU g) {w : Mem} {D t : Nat} {δ : DE} (hD : DEED g w D δ) (h2 : δ.1 2 ≤ 9) (h1 : 1 ≤ δ.1 2) :
    ∃ w', fX2_nameThing g [.ref D, .int (nI t)] w = some (.inl none, w') ∧ DEED g w' D (dT δ 4 (δ.1 2 - 1) t) ∧ Fr (rg D (D + 35)) w w' := by
  obtain ⟨N, hN⟩ : ∃ N, g.1 = N + 2 := ⟨g.1 - 2, by omega⟩
  have e0 : ¬ nI (δ.1 2) ≤ 0 := nI_nle (by omega) (by omega)
  have e1 : nI (δ.1 2) - 1 = nI (δ.1 2 - 1) := nI_sub (s := 1) h1
  have p0 := hD.2.2.2.2.2.2.2.2.2.2.1 (δ.1 2 - 1) (by omega)
  have r1 := hD.2.2.2.2.2.2.1.rd (j := δ.1 2 - 1) (by omega) (by decide)
  refine ⟨_, ?_, hD.t4 (i := δ.1 2 - 1) (by omega) t, Fr.ms _ _ (by unfold rg; omega)⟩
  have a0 := hD.1
  simp [fX2_nameThing, kX2_nameThing, ent, entp, jX2_nameThing, bX2_nameThing_0, bX2_nameThing_1, i_aaload, i_aload, i_getf, i_ifle, i_iload, i_isub, i_jmp, i_push, i_putf, i_return, msk, lset1, lset2, clr, Value.category, Option.toList, List.cons_append, List.nil_append, List.length_cons, List.length_nil, hN, gf_eq a0, e0, e1, r1, va_rf, sf_i p0]
theorem isPart_sp {g : GE} (hg : GD g) {v : Nat} (hv : v < 7) (w : Mem) : fX9_isPart g [.ref (g.2.1 v)] w = some (.inl (some (.int (if 4 ≤ v then 1 else 0))), w) := by
  have hg1 := hg.1
  obtain ⟨N, hN⟩ : ∃ N, g.1 = N + 3 := ⟨g.1 - 3, by omega⟩
  have q : ∀ j, j < 8 → (g.2.1 v = g.2.1 j ↔ v = j) := fun j hj => hg.v (by omega) hj
  have : v = 0 ∨ v = 1 ∨ v = 2 ∨ v = 3 ∨ v = 4 ∨ v = 5 ∨ v = 6 := by omega
  rcases this with z | z | z | z | z | z | z <;> subst z <;> simp [fX9_isPart, kX9_isPart, ent, entp, jX9_isPart, bX9_isPart_0, bX9_isPart_1, bX9_isPart_2, i_acmpeq, i_acmpne, i_aload, i_jmp, i_push, i_zreturn, msk, lset1, lset2, clr, Value.category, Option.toList, List.cons_append, List.nil_append, List.length_cons, List.length_nil, hN, rfo, q]
theorem isFull_sp {g : GE} (hg : GD g) {w : Mem} {D v : Nat} {δ : DE} (hD : DEED g w D δ) (hQ : PQ δ) (hv : v < 7) :
    fX2_isFull g [.ref D, .ref (g.2.1 v)] w = some (.inl (some (.int (if fullP δ v = true then 1 else 0))), w) := by
  have hg1 := hg.1
  obtain ⟨N, hN⟩ : ∃ N, g.1 = N + 3 := ⟨g.1 - 3, by omega⟩
  obtain ⟨⟨b0, b1, b2, -⟩, -⟩ := hQ
  have q : ∀ j, j < 8 → (g.2.1 v = g.2.1 j ↔ v = j) := fun j hj => hg.v (by omega) hj
  have ip := isPart_sp hg hv w
  have c0 : (nI (δ.1 0) < 4) ↔ δ.1 0 < 4 := nI_ltI (b := 4) (by omega) (by decide)
  have c1 : (nI (δ.1 1) < 5) ↔ δ.1 1 < 5 := nI_ltI (b := 5) (by omega) (by decide)
  have c2 : (nI (δ.1 2) < 9) ↔ δ.1 2 < 9 := nI_ltI (b := 9) (by omega) (by decide)
  have a0 := hD.1
  have ce : ∀ {k : KT} {r : List Value} {lv : Lv}, r.length ≤ 4 → i_cvE fX9_isPart g 0 k (.ref (g.2.1 v) :: r) lv w = k ((some (Value.int (if 4 ≤ v then 1 else 0))).toList ++ r) lv w := fun hr => cvEk_0 hg hv ip hr
  have q0 := q 0 (by decide)
  have q1 := q 1 (by decide)
  unfold fullP
  by_cases z0 : v = 0
  · have q0' := q0.mpr z0
    by_cases y : δ.1 0 < 4
    · rw [if_neg (by simp; omega)]
      simp [fX2_isFull, kX2_isFull, ent, entp, jX2_isFull, bX2_isFull_0, bX2_isFull_1, bX2_isFull_2, bX2_isFull_3, bX2_isFull_4, i_acmpne, i_aload, i_getf, i_iclt, i_ifeq, i_jmp, i_push, i_zreturn, msk, lset1, lset2, clr, Value.category, Option.toList, List.cons_append, List.nil_append, List.length_cons, List.length_nil, hN, rfo, q0', gf_eq a0, c0, y]
    · rw [if_pos (by simp; omega)]
      simp [fX2_isFull, kX2_isFull, ent, entp, jX2_isFull, bX2_isFull_0, bX2_isFull_1, bX2_isFull_2, bX2_isFull_3, bX2_isFull_4, i_acmpne, i_aload, i_getf, i_iclt, i_ifeq, i_jmp, i_push, i_zreturn, msk, lset1, lset2, clr, Value.category, Option.toList, List.cons_append, List.nil_append, List.length_cons, List.length_nil, hN, rfo, q0', gf_eq a0, c0, y]
  · have q0' := mt q0.mp z0
    by_cases z1 : v = 1
    · have q1' := q1.mpr z1
      rw [q1'] at q0'
      by_cases y : δ.1 1 < 5
      · rw [if_neg (by simp; omega), q1']
        simp [fX2_isFull, kX2_isFull, ent, entp, jX2_isFull, bX2_isFull_0, bX2_isFull_1, bX2_isFull_2, bX2_isFull_3, bX2_isFull_4, i_acmpne, i_aload, i_getf, i_iclt, i_ifeq, i_jmp, i_push, i_zreturn, msk, lset1, lset2, clr, Value.category, Option.toList, List.cons_append, List.nil_append, List.length_cons, List.length_nil, hN, rfo, q0', gf_eq a0, c1, y]
      · rw [if_pos (by simp; omega), q1']
        simp [fX2_isFull, kX2_isFull, ent, entp, jX2_isFull, bX2_isFull_0, bX2_isFull_1, bX2_isFull_2, bX2_isFull_3, bX2_isFull_4, i_acmpne, i_aload, i_getf, i_iclt, i_ifeq, i_jmp, i_push, i_zreturn, msk, lset1, lset2, clr, Value.category, Option.toList, List.cons_append, List.nil_append, List.length_cons, List.length_nil, hN, rfo, q0', gf_eq a0, c1, y]
    · have q1' := mt q1.mp z1
      generalize g.2.1 v = V at *
      by_cases z4 : 4 ≤ v
      · rw [if_pos z4] at ce
        by_cases y : δ.1 2 < 9
        · rw [if_neg (by simp; omega)]
          simp [fX2_isFull, kX2_isFull, ent, entp, jX2_isFull, bX2_isFull_0, bX2_isFull_1, bX2_isFull_2, bX2_isFull_3, bX2_isFull_4, i_acmpne, i_aload, i_getf, i_iclt, i_ifeq, i_jmp, i_push, i_zreturn, msk, lset1, lset2, clr, Value.category, Option.toList, List.cons_append, List.nil_append, List.length_cons, List.length_nil, hN, rfo, q0', q1', ce, gf_eq a0, c2, y]
        · rw [if_pos (by simp; omega)]
          simp [fX2_isFull, kX2_isFull, ent, entp, jX2_isFull, bX2_isFull_0, bX2_isFull_1, bX2_isFull_2, bX2_isFull_3, bX2_isFull_4, i_acmpne, i_aload, i_getf, i_iclt, i_ifeq, i_jmp, i_push, i_zreturn, msk, lset1, lset2, clr, Value.category, Option.toList, List.cons_append, List.nil_append, List.length_cons, List.length_nil, hN, rfo, q0', q1', ce, gf_eq a0, c2, y]
      · rw [if_neg z4] at ce
        rw [if_neg (by simp; omega)]
        simp [fX2_isFull, kX2_isFull, ent, entp, jX2_isFull, bX2_isFull_0, bX2_isFull_1, bX2_isFull_2, bX2_isFull_3, bX2_isFull_4, i_acmpne, i_aload, i_getf, i_iclt, i_ifeq, i_jmp, i_push, i_zreturn, msk, lset1, lset2, clr, Value.category, Option.toList, List.cons_append, List.nil_append, List.length_cons, List.length_nil, hN, rfo, q0', q1', ce]
