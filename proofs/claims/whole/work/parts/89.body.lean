/-! ===== the body of a clause ===== -/
theorem readBody0 {g : GE} (hg : GD g) {w : Mem} {S tx n a D : Nat} {T : Nat → Nat} {δ : DE} (hL : LY S tx D) (h : SS g w S tx D T n a δ) (ha : a ≤ n) (hn : n ≤ 600) (hQ : PQ δ) (h1 : δ.1 0 < 4) :
    ∃ w', fX6_readBody g [.ref S, .ref (g.2.1 0)] w = some (.inl (some (.int (prI (heirC T n (δ, a))))), w') ∧ SX g w' S tx D T n (heirC T n (δ, a)) ∧ Fr (FS S D) w w' := by
  have hg1 := hg.1
  obtain ⟨⟨s0, c0, k, p, hO⟩, hT, hD⟩ := id h
  obtain ⟨N, hN⟩ : ∃ N, g.1 = N + 3 := ⟨g.1 - 3, by omega⟩
  have f1 : ¬ g.2.1 0 = g.2.1 1 := mt (hg.v (by decide) (by decide)).mp (by decide)
  have f2 : ¬ g.2.1 0 = g.2.1 2 := mt (hg.v (by decide) (by decide)).mp (by decide)
  have f3 : ¬ g.2.1 0 = g.2.1 3 := mt (hg.v (by decide) (by decide)).mp (by decide)
  have f4 : ¬ g.2.1 0 = g.2.1 4 := mt (hg.v (by decide) (by decide)).mp (by decide)
  have f5 : ¬ g.2.1 0 = g.2.1 5 := mt (hg.v (by decide) (by decide)).mp (by decide)
  have f6 : ¬ g.2.1 0 = g.2.1 6 := mt (hg.v (by decide) (by decide)).mp (by decide)
  obtain ⟨w1, r1, x1, F1⟩ := readNewHeir_sp hg hL h ha hn hQ h1
  refine ⟨w1, ?_, x1, F1⟩
  have hb : ∀ r : PR, prI r = 0 ∨ prI r = 1 := fun r => by cases r <;> simp [prI]
  rcases hb (heirC T n (δ, a)) with z | z <;> rw [z] at r1 ⊢ <;> clear x1
  · simp [fX6_readBody, kX6_readBody, ent, entp, jX6_readBody, bX6_readBody_0, bX6_readBody_1, bX6_readBody_2, bX6_readBody_3, bX6_readBody_4, bX6_readBody_5, bX6_readBody_6, i_acmpne, i_aload, i_getf, i_ifeq, i_jmp, i_push, i_zreturn, msk, lset1, lset2, clr, Value.category, Option.toList, List.cons_append, List.nil_append, List.length_cons, List.length_nil, hN, rfo, f1, f2, f3, f4, f5, f6, cvk_0 hO r1]
  · simp [fX6_readBody, kX6_readBody, ent, entp, jX6_readBody, bX6_readBody_0, bX6_readBody_1, bX6_readBody_2, bX6_readBody_3, bX6_readBody_4, bX6_readBody_5, bX6_readBody_6, i_acmpne, i_aload, i_getf, i_ifeq, i_jmp, i_push, i_zreturn, msk, lset1, lset2, clr, Value.category, Option.toList, List.cons_append, List.nil_append, List.length_cons, List.length_nil, hN, rfo, f1, f2, f3, f4, f5, f6, cvk_0 hO r1]
theorem readBody1 {g : GE} (hg : GD g) {w : Mem} {S tx n a D : Nat} {T : Nat → Nat} {δ : DE} (hL : LY S tx D) (h : SS g w S tx D T n a δ) (ha : a ≤ n) (hn : n ≤ 600) (hQ : PQ δ) (h1 : δ.1 1 < 5) :
    ∃ w', fX6_readBody g [.ref S, .ref (g.2.1 1)] w = some (.inl (some (.int (prI (thingC T n (δ, a))))), w') ∧ SX g w' S tx D T n (thingC T n (δ, a)) ∧ Fr (FS S D) w w' := by
  have hg1 := hg.1
  obtain ⟨⟨s0, c0, k, p, hO⟩, hT, hD⟩ := id h
  obtain ⟨N, hN⟩ : ∃ N, g.1 = N + 3 := ⟨g.1 - 3, by omega⟩
  have f0 : ¬ g.2.1 1 = g.2.1 0 := mt (hg.v (by decide) (by decide)).mp (by decide)
  have f2 : ¬ g.2.1 1 = g.2.1 2 := mt (hg.v (by decide) (by decide)).mp (by decide)
  have f3 : ¬ g.2.1 1 = g.2.1 3 := mt (hg.v (by decide) (by decide)).mp (by decide)
  have f4 : ¬ g.2.1 1 = g.2.1 4 := mt (hg.v (by decide) (by decide)).mp (by decide)
  have f5 : ¬ g.2.1 1 = g.2.1 5 := mt (hg.v (by decide) (by decide)).mp (by decide)
  have f6 : ¬ g.2.1 1 = g.2.1 6 := mt (hg.v (by decide) (by decide)).mp (by decide)
  obtain ⟨w1, r1, x1, F1⟩ := readNewThing_sp hg hL h ha hn hQ h1
  refine ⟨w1, ?_, x1, F1⟩
  have hb : ∀ r : PR, prI r = 0 ∨ prI r = 1 := fun r => by cases r <;> simp [prI]
  rcases hb (thingC T n (δ, a)) with z | z <;> rw [z] at r1 ⊢ <;> clear x1
  · simp [fX6_readBody, kX6_readBody, ent, entp, jX6_readBody, bX6_readBody_0, bX6_readBody_1, bX6_readBody_2, bX6_readBody_3, bX6_readBody_4, bX6_readBody_5, bX6_readBody_6, i_acmpne, i_aload, i_getf, i_ifeq, i_jmp, i_push, i_zreturn, msk, lset1, lset2, clr, Value.category, Option.toList, List.cons_append, List.nil_append, List.length_cons, List.length_nil, hN, rfo, f0, f2, f3, f4, f5, f6, cvk_0 hO r1]
  · simp [fX6_readBody, kX6_readBody, ent, entp, jX6_readBody, bX6_readBody_0, bX6_readBody_1, bX6_readBody_2, bX6_readBody_3, bX6_readBody_4, bX6_readBody_5, bX6_readBody_6, i_acmpne, i_aload, i_getf, i_ifeq, i_jmp, i_push, i_zreturn, msk, lset1, lset2, clr, Value.category, Option.toList, List.cons_append, List.nil_append, List.length_cons, List.length_nil, hN, rfo, f0, f2, f3, f4, f5, f6, cvk_0 hO r1]
theorem readBody2 {g : GE} (hg : GD g) {w : Mem} {S tx n a D : Nat} {T : Nat → Nat} {δ : DE} (hL : LY S tx D) (h : SS g w S tx D T n a δ) (ha : a ≤ n) (hn : n ≤ 600) (hQ : PQ δ) :
    ∃ w', fX6_readBody g [.ref S, .ref (g.2.1 2)] w = some (.inl (some (.int (prI (estC T n (δ, a))))), w') ∧ SX g w' S tx D T n (estC T n (δ, a)) ∧ Fr (FS S D) w w' := by
  have hg1 := hg.1
  obtain ⟨⟨s0, c0, k, p, hO⟩, hT, hD⟩ := id h
  obtain ⟨N, hN⟩ : ∃ N, g.1 = N + 3 := ⟨g.1 - 3, by omega⟩
  have f0 : ¬ g.2.1 2 = g.2.1 0 := mt (hg.v (by decide) (by decide)).mp (by decide)
  have f1 : ¬ g.2.1 2 = g.2.1 1 := mt (hg.v (by decide) (by decide)).mp (by decide)
  have f3 : ¬ g.2.1 2 = g.2.1 3 := mt (hg.v (by decide) (by decide)).mp (by decide)
  have f4 : ¬ g.2.1 2 = g.2.1 4 := mt (hg.v (by decide) (by decide)).mp (by decide)
  have f5 : ¬ g.2.1 2 = g.2.1 5 := mt (hg.v (by decide) (by decide)).mp (by decide)
  have f6 : ¬ g.2.1 2 = g.2.1 6 := mt (hg.v (by decide) (by decide)).mp (by decide)
  obtain ⟨w1, r1, x1, F1⟩ := readEstate_sp hg hL h ha hn hQ
  refine ⟨w1, ?_, x1, F1⟩
  have hb : ∀ r : PR, prI r = 0 ∨ prI r = 1 := fun r => by cases r <;> simp [prI]
  rcases hb (estC T n (δ, a)) with z | z <;> rw [z] at r1 ⊢ <;> clear x1
  · simp [fX6_readBody, kX6_readBody, ent, entp, jX6_readBody, bX6_readBody_0, bX6_readBody_1, bX6_readBody_2, bX6_readBody_3, bX6_readBody_4, bX6_readBody_5, bX6_readBody_6, i_acmpne, i_aload, i_getf, i_ifeq, i_jmp, i_push, i_zreturn, msk, lset1, lset2, clr, Value.category, Option.toList, List.cons_append, List.nil_append, List.length_cons, List.length_nil, hN, rfo, f0, f1, f3, f4, f5, f6, cvk_0 hO r1]
  · simp [fX6_readBody, kX6_readBody, ent, entp, jX6_readBody, bX6_readBody_0, bX6_readBody_1, bX6_readBody_2, bX6_readBody_3, bX6_readBody_4, bX6_readBody_5, bX6_readBody_6, i_acmpne, i_aload, i_getf, i_ifeq, i_jmp, i_push, i_zreturn, msk, lset1, lset2, clr, Value.category, Option.toList, List.cons_append, List.nil_append, List.length_cons, List.length_nil, hN, rfo, f0, f1, f3, f4, f5, f6, cvk_0 hO r1]
theorem readBody3 {g : GE} (hg : GD g) {w : Mem} {S tx n a D : Nat} {T : Nat → Nat} {δ : DE} (hL : LY S tx D) (h : SS g w S tx D T n a δ) (ha : a ≤ n) (hn : n ≤ 600) (hQ : PQ δ) :
    ∃ w', fX6_readBody g [.ref S, .ref (g.2.1 3)] w = some (.inl (some (.int (prI (leastC T n (δ, a))))), w') ∧ SX g w' S tx D T n (leastC T n (δ, a)) ∧ Fr (FS S D) w w' := by
  have hg1 := hg.1
  obtain ⟨⟨s0, c0, k, p, hO⟩, hT, hD⟩ := id h
  obtain ⟨N, hN⟩ : ∃ N, g.1 = N + 3 := ⟨g.1 - 3, by omega⟩
  have f0 : ¬ g.2.1 3 = g.2.1 0 := mt (hg.v (by decide) (by decide)).mp (by decide)
  have f1 : ¬ g.2.1 3 = g.2.1 1 := mt (hg.v (by decide) (by decide)).mp (by decide)
  have f2 : ¬ g.2.1 3 = g.2.1 2 := mt (hg.v (by decide) (by decide)).mp (by decide)
  have f4 : ¬ g.2.1 3 = g.2.1 4 := mt (hg.v (by decide) (by decide)).mp (by decide)
  have f5 : ¬ g.2.1 3 = g.2.1 5 := mt (hg.v (by decide) (by decide)).mp (by decide)
  have f6 : ¬ g.2.1 3 = g.2.1 6 := mt (hg.v (by decide) (by decide)).mp (by decide)
  obtain ⟨w1, r1, x1, F1⟩ := readLeast_sp hg hL h ha hn hQ
  refine ⟨w1, ?_, x1, F1⟩
  have hb : ∀ r : PR, prI r = 0 ∨ prI r = 1 := fun r => by cases r <;> simp [prI]
  rcases hb (leastC T n (δ, a)) with z | z <;> rw [z] at r1 ⊢ <;> clear x1
  · simp [fX6_readBody, kX6_readBody, ent, entp, jX6_readBody, bX6_readBody_0, bX6_readBody_1, bX6_readBody_2, bX6_readBody_3, bX6_readBody_4, bX6_readBody_5, bX6_readBody_6, i_acmpne, i_aload, i_getf, i_ifeq, i_jmp, i_push, i_zreturn, msk, lset1, lset2, clr, Value.category, Option.toList, List.cons_append, List.nil_append, List.length_cons, List.length_nil, hN, rfo, f0, f1, f2, f4, f5, f6, cvk_0 hO r1]
  · simp [fX6_readBody, kX6_readBody, ent, entp, jX6_readBody, bX6_readBody_0, bX6_readBody_1, bX6_readBody_2, bX6_readBody_3, bX6_readBody_4, bX6_readBody_5, bX6_readBody_6, i_acmpne, i_aload, i_getf, i_ifeq, i_jmp, i_push, i_zreturn, msk, lset1, lset2, clr, Value.category, Option.toList, List.cons_append, List.nil_append, List.length_cons, List.length_nil, hN, rfo, f0, f1, f2, f4, f5, f6, cvk_0 hO r1]
theorem readBody4 {g : GE} (hg : GD g) {w : Mem} {S tx n a D : Nat} {T : Nat → Nat} {δ : DE} (hL : LY S tx D) (h : SS g w S tx D T n a δ) (ha : a ≤ n) (hn : n ≤ 600) (hW : PW δ) (h2 : δ.1 2 < 9) :
    ∃ w', fX6_readBody g [.ref S, .ref (g.2.1 4)] w = some (.inl (some (.int (prI (coinC T n (δ, a))))), w') ∧ SX g w' S tx D T n (coinC T n (δ, a)) ∧ Fr (FS S D) w w' := by
  have hg1 := hg.1
  obtain ⟨⟨s0, c0, k, p, hO⟩, hT, hD⟩ := id h
  obtain ⟨N, hN⟩ : ∃ N, g.1 = N + 3 := ⟨g.1 - 3, by omega⟩
  have f0 : ¬ g.2.1 4 = g.2.1 0 := mt (hg.v (by decide) (by decide)).mp (by decide)
  have f1 : ¬ g.2.1 4 = g.2.1 1 := mt (hg.v (by decide) (by decide)).mp (by decide)
  have f2 : ¬ g.2.1 4 = g.2.1 2 := mt (hg.v (by decide) (by decide)).mp (by decide)
  have f3 : ¬ g.2.1 4 = g.2.1 3 := mt (hg.v (by decide) (by decide)).mp (by decide)
  have f5 : ¬ g.2.1 4 = g.2.1 5 := mt (hg.v (by decide) (by decide)).mp (by decide)
  have f6 : ¬ g.2.1 4 = g.2.1 6 := mt (hg.v (by decide) (by decide)).mp (by decide)
  have hb : ∀ r : PR, prI r = 0 ∨ prI r = 1 := fun r => by cases r <;> simp [prI]
  have a0 := hD.1
  obtain ⟨w1, r1, D1, F1⟩ := addPart_sp hg1 (vb := 0) hD h2
  have S1 : SS g w1 S tx D T n a (addPt δ 0) := ⟨⟨_, _, _, _, F1.at hO hL.s⟩, hT.fr F1 hL.t, D1⟩
  have G1 : Fr (FS S D) w w1 := F1.mn fun q h => Or.inr h
  have Q1 := addPt_ok (vb := 0) hW.1 h2
  have O1 := F1.at hO hL.s
  have w5 := hW.2.2
  have c5 : (addPt δ 0).1 5 = δ.1 5 := rfl
  have c2 : (addPt δ 0).1 2 = δ.1 2 + 1 := rfl
  clear h
  have r1 : fX2_addPart g [.ref D, .ref (g.2.1 4)] w = some (.inl none, w1) := r1
  unfold coinC
  simp only []
  obtain ⟨w2, r2, x2, F2⟩ := readPlace_sp hg hL (kd := 1) (K := 1) S1 ha hn Q1 (by omega) (by omega) (by decide) rfl
  have G2 := G1.tr F2
  cases hr2 : placeP T n 1 (addPt δ 0, a) with
  | inl e =>
    rw [hr2] at r2 x2
    have r2' : fX6_readPlace g [.ref S, .int 1] w1 = some (.inl (some (.int 0)), w2) := r2
    refine ⟨w2, ?_, x2, G2⟩
    show _ = some (Sum.inl (some (Value.int 0)), w2)
    clear x2
    simp [fX6_readBody, kX6_readBody, ent, entp, jX6_readBody, bX6_readBody_0, bX6_readBody_1, bX6_readBody_2, bX6_readBody_3, bX6_readBody_4, bX6_readBody_5, bX6_readBody_6, i_acmpne, i_aload, i_getf, i_ifeq, i_jmp, i_push, i_zreturn, msk, lset1, lset2, clr, Value.category, Option.toList, List.cons_append, List.nil_append, List.length_cons, List.length_nil, hN, rfo, f0, f1, f2, f3, f5, f6, gf_eq hO, cvk_1 a0 r1, cvk_1 O1 r2']
  | inr y =>
    obtain ⟨δ2, e2⟩ := y
    rw [hr2] at r2 x2
    have r2' : fX6_readPlace g [.ref S, .int 1] w1 = some (.inl (some (.int 1)), w2) := r2
    have x2 : SS g w2 S tx D T n e2 δ2 := x2
    obtain ⟨Q2, px2, -, l2⟩ := placeP_ok hr2 ha (by decide) Q1 (by omega)
    have u2 := px2.1
    obtain ⟨k12, k22, k32, k42, O2⟩ := id x2.1
    show ∃ w', fX6_readBody g [.ref S, .ref (g.2.1 4)] w = some (.inl (some (.int (prI (placeP T n 0 (δ2, e2))))), w') ∧ SX g w' S tx D T n (placeP T n 0 (δ2, e2)) ∧ Fr (FS S D) w w'
    obtain ⟨w3, r3, x3, F3⟩ := readPlace_sp hg hL (kd := 0) (K := 0) x2 l2 hn Q2 (by omega) (by omega) (by decide) rfl
    have G3 := G2.tr F3
    refine ⟨w3, ?_, x3, G3⟩
    show _ = some (Sum.inl (some (Value.int (prI (placeP T n 0 (δ2, e2))))), w3)
    rcases hb (placeP T n 0 (δ2, e2)) with z | z <;> rw [z] at r3 ⊢ <;> clear x3
    · simp [fX6_readBody, kX6_readBody, ent, entp, jX6_readBody, bX6_readBody_0, bX6_readBody_1, bX6_readBody_2, bX6_readBody_3, bX6_readBody_4, bX6_readBody_5, bX6_readBody_6, i_acmpne, i_aload, i_getf, i_ifeq, i_jmp, i_push, i_zreturn, msk, lset1, lset2, clr, Value.category, Option.toList, List.cons_append, List.nil_append, List.length_cons, List.length_nil, hN, rfo, f0, f1, f2, f3, f5, f6, gf_eq hO, cvk_1 a0 r1, cvk_1 O1 r2', cvk_1 O2 r3]
    · simp [fX6_readBody, kX6_readBody, ent, entp, jX6_readBody, bX6_readBody_0, bX6_readBody_1, bX6_readBody_2, bX6_readBody_3, bX6_readBody_4, bX6_readBody_5, bX6_readBody_6, i_acmpne, i_aload, i_getf, i_ifeq, i_jmp, i_push, i_zreturn, msk, lset1, lset2, clr, Value.category, Option.toList, List.cons_append, List.nil_append, List.length_cons, List.length_nil, hN, rfo, f0, f1, f2, f3, f5, f6, gf_eq hO, cvk_1 a0 r1, cvk_1 O1 r2', cvk_1 O2 r3]
theorem readBody5 {g : GE} (hg : GD g) {w : Mem} {S tx n a D : Nat} {T : Nat → Nat} {δ : DE} (hL : LY S tx D) (h : SS g w S tx D T n a δ) (ha : a ≤ n) (hn : n ≤ 600) (hW : PW δ) (h2 : δ.1 2 < 9) :
    ∃ w', fX6_readBody g [.ref S, .ref (g.2.1 5)] w = some (.inl (some (.int (prI (willC T n (δ, a))))), w') ∧ SX g w' S tx D T n (willC T n (δ, a)) ∧ Fr (FS S D) w w' := by
  have hg1 := hg.1
  obtain ⟨⟨s0, c0, k, p, hO⟩, hT, hD⟩ := id h
  obtain ⟨N, hN⟩ : ∃ N, g.1 = N + 3 := ⟨g.1 - 3, by omega⟩
  have f0 : ¬ g.2.1 5 = g.2.1 0 := mt (hg.v (by decide) (by decide)).mp (by decide)
  have f1 : ¬ g.2.1 5 = g.2.1 1 := mt (hg.v (by decide) (by decide)).mp (by decide)
  have f2 : ¬ g.2.1 5 = g.2.1 2 := mt (hg.v (by decide) (by decide)).mp (by decide)
  have f3 : ¬ g.2.1 5 = g.2.1 3 := mt (hg.v (by decide) (by decide)).mp (by decide)
  have f4 : ¬ g.2.1 5 = g.2.1 4 := mt (hg.v (by decide) (by decide)).mp (by decide)
  have f6 : ¬ g.2.1 5 = g.2.1 6 := mt (hg.v (by decide) (by decide)).mp (by decide)
  have hb : ∀ r : PR, prI r = 0 ∨ prI r = 1 := fun r => by cases r <;> simp [prI]
  have a0 := hD.1
  obtain ⟨w1, r1, D1, F1⟩ := addPart_sp hg1 (vb := 1) hD h2
  have S1 : SS g w1 S tx D T n a (addPt δ 1) := ⟨⟨_, _, _, _, F1.at hO hL.s⟩, hT.fr F1 hL.t, D1⟩
  have G1 : Fr (FS S D) w w1 := F1.mn fun q h => Or.inr h
  have Q1 := addPt_ok (vb := 1) hW.1 h2
  have O1 := F1.at hO hL.s
  have w5 := hW.2.2
  have c5 : (addPt δ 1).1 5 = δ.1 5 := rfl
  have c2 : (addPt δ 1).1 2 = δ.1 2 + 1 := rfl
  clear h
  have r1 : fX2_addPart g [.ref D, .ref (g.2.1 5)] w = some (.inl none, w1) := r1
  unfold willC
  simp only []
  obtain ⟨w2, r2, x2, F2⟩ := readThing_sp hg hL S1 ha hn Q1 (by omega)
  have G2 := G1.tr F2
  cases hr2 : thingP T n (addPt δ 1, a) with
  | inl e =>
    rw [hr2] at r2 x2
    have r2' : fX6_readThing g [.ref S] w1 = some (.inl (some (.int 0)), w2) := r2
    refine ⟨w2, ?_, x2, G2⟩
    show _ = some (Sum.inl (some (Value.int 0)), w2)
    clear x2
    simp [fX6_readBody, kX6_readBody, ent, entp, jX6_readBody, bX6_readBody_0, bX6_readBody_1, bX6_readBody_2, bX6_readBody_3, bX6_readBody_4, bX6_readBody_5, bX6_readBody_6, i_acmpne, i_aload, i_getf, i_ifeq, i_jmp, i_push, i_zreturn, msk, lset1, lset2, clr, Value.category, Option.toList, List.cons_append, List.nil_append, List.length_cons, List.length_nil, hN, rfo, f0, f1, f2, f3, f4, f6, gf_eq hO, cvk_1 a0 r1, cvk_0 O1 r2']
  | inr y =>
    obtain ⟨δ2, e2⟩ := y
    rw [hr2] at r2 x2
    have r2' : fX6_readThing g [.ref S] w1 = some (.inl (some (.int 1)), w2) := r2
    have x2 : SS g w2 S tx D T n e2 δ2 := x2
    have tz2 : PQ δ2 ∧ δ2.1 = (addPt δ 1).1 ∧ e2 ≤ n := by
      obtain ⟨⟨tt, e9⟩, g7, g4⟩ := bd_r hr2
      injection g4 with g4
      injection g4 with i1 i2
      rw [← i1, ← i2]
      exact ⟨nameTh_ok Q1, rfl, (namP_in g7 ha).2.2⟩
    obtain ⟨Q2, u2, l2⟩ := tz2
    have u2a := congrFun u2 5
    have u2b := congrFun u2 2
    obtain ⟨k12, k22, k32, k42, O2⟩ := id x2.1
    show ∃ w', fX6_readBody g [.ref S, .ref (g.2.1 5)] w = some (.inl (some (.int (prI (placeP T n 1 (δ2, e2))))), w') ∧ SX g w' S tx D T n (placeP T n 1 (δ2, e2)) ∧ Fr (FS S D) w w'
    obtain ⟨w3, r3, x3, F3⟩ := readPlace_sp hg hL (kd := 1) (K := 1) x2 l2 hn Q2 (by omega) (by omega) (by decide) rfl
    have G3 := G2.tr F3
    refine ⟨w3, ?_, x3, G3⟩
    show _ = some (Sum.inl (some (Value.int (prI (placeP T n 1 (δ2, e2))))), w3)
    rcases hb (placeP T n 1 (δ2, e2)) with z | z <;> rw [z] at r3 ⊢ <;> clear x3
    · simp [fX6_readBody, kX6_readBody, ent, entp, jX6_readBody, bX6_readBody_0, bX6_readBody_1, bX6_readBody_2, bX6_readBody_3, bX6_readBody_4, bX6_readBody_5, bX6_readBody_6, i_acmpne, i_aload, i_getf, i_ifeq, i_jmp, i_push, i_zreturn, msk, lset1, lset2, clr, Value.category, Option.toList, List.cons_append, List.nil_append, List.length_cons, List.length_nil, hN, rfo, f0, f1, f2, f3, f4, f6, gf_eq hO, cvk_1 a0 r1, cvk_0 O1 r2', cvk_1 O2 r3]
    · simp [fX6_readBody, kX6_readBody, ent, entp, jX6_readBody, bX6_readBody_0, bX6_readBody_1, bX6_readBody_2, bX6_readBody_3, bX6_readBody_4, bX6_readBody_5, bX6_readBody_6, i_acmpne, i_aload, i_getf, i_ifeq, i_jmp, i_push, i_zreturn, msk, lset1, lset2, clr, Value.category, Option.toList, List.cons_append, List.nil_append, List.length_cons, List.length_nil, hN, rfo, f0, f1, f2, f3, f4, f6, gf_eq hO, cvk_1 a0 r1, cvk_0 O1 r2', cvk_1 O2 r3]
theorem readBody6 {g : GE} (hg : GD g) {w : Mem} {S tx n a D : Nat} {T : Nat → Nat} {δ : DE} (hL : LY S tx D) (h : SS g w S tx D T n a δ) (ha : a ≤ n) (hn : n ≤ 600) (hW : PW δ) (h2 : δ.1 2 < 9) :
    ∃ w', fX6_readBody g [.ref S, .ref (g.2.1 6)] w = some (.inl (some (.int (prI (whenC T n (δ, a))))), w') ∧ SX g w' S tx D T n (whenC T n (δ, a)) ∧ Fr (FS S D) w w' := by
  have hg1 := hg.1
  obtain ⟨⟨s0, c0, k, p, hO⟩, hT, hD⟩ := id h
  obtain ⟨N, hN⟩ : ∃ N, g.1 = N + 3 := ⟨g.1 - 3, by omega⟩
  have f0 : ¬ g.2.1 6 = g.2.1 0 := mt (hg.v (by decide) (by decide)).mp (by decide)
  have f1 : ¬ g.2.1 6 = g.2.1 1 := mt (hg.v (by decide) (by decide)).mp (by decide)
  have f2 : ¬ g.2.1 6 = g.2.1 2 := mt (hg.v (by decide) (by decide)).mp (by decide)
  have f3 : ¬ g.2.1 6 = g.2.1 3 := mt (hg.v (by decide) (by decide)).mp (by decide)
  have f4 : ¬ g.2.1 6 = g.2.1 4 := mt (hg.v (by decide) (by decide)).mp (by decide)
  have f5 : ¬ g.2.1 6 = g.2.1 5 := mt (hg.v (by decide) (by decide)).mp (by decide)
  have hb : ∀ r : PR, prI r = 0 ∨ prI r = 1 := fun r => by cases r <;> simp [prI]
  have a0 := hD.1
  obtain ⟨w1, r1, D1, F1⟩ := addPart_sp hg1 (vb := 2) hD h2
  have S1 : SS g w1 S tx D T n a (addPt δ 2) := ⟨⟨_, _, _, _, F1.at hO hL.s⟩, hT.fr F1 hL.t, D1⟩
  have G1 : Fr (FS S D) w w1 := F1.mn fun q h => Or.inr h
  have Q1 := addPt_ok (vb := 2) hW.1 h2
  have O1 := F1.at hO hL.s
  have w5 := hW.2.2
  have c5 : (addPt δ 2).1 5 = δ.1 5 := rfl
  have c2 : (addPt δ 2).1 2 = δ.1 2 + 1 := rfl
  clear h
  have r1 : fX2_addPart g [.ref D, .ref (g.2.1 6)] w = some (.inl none, w1) := r1
  unfold whenC
  simp only []
  obtain ⟨w2, r2, x2, F2⟩ := readPlace_sp hg hL (kd := 2) (K := 2) S1 ha hn Q1 (by omega) (by omega) (by decide) rfl
  have G2 := G1.tr F2
  cases hr2 : placeP T n 2 (addPt δ 2, a) with
  | inl e =>
    rw [hr2] at r2 x2
    have r2' : fX6_readPlace g [.ref S, .int 2] w1 = some (.inl (some (.int 0)), w2) := r2
    refine ⟨w2, ?_, x2, G2⟩
    show _ = some (Sum.inl (some (Value.int 0)), w2)
    clear x2
    simp [fX6_readBody, kX6_readBody, ent, entp, jX6_readBody, bX6_readBody_0, bX6_readBody_1, bX6_readBody_2, bX6_readBody_3, bX6_readBody_4, bX6_readBody_5, bX6_readBody_6, i_acmpne, i_aload, i_getf, i_ifeq, i_jmp, i_push, i_zreturn, msk, lset1, lset2, clr, Value.category, Option.toList, List.cons_append, List.nil_append, List.length_cons, List.length_nil, hN, rfo, f0, f1, f2, f3, f4, f5, gf_eq hO, cvk_1 a0 r1, cvk_1 O1 r2']
  | inr y =>
    obtain ⟨δ2, e2⟩ := y
    rw [hr2] at r2 x2
    have r2' : fX6_readPlace g [.ref S, .int 2] w1 = some (.inl (some (.int 1)), w2) := r2
    have x2 : SS g w2 S tx D T n e2 δ2 := x2
    obtain ⟨Q2, px2, -, l2⟩ := placeP_ok hr2 ha (by decide) Q1 (by omega)
    have u2 := px2.1
    obtain ⟨k12, k22, k32, k42, O2⟩ := id x2.1
    show ∃ w', fX6_readBody g [.ref S, .ref (g.2.1 6)] w = some (.inl (some (.int (prI (bd (placeP T n 1 (δ2, e2)) fun z => bd (thingP T n z) fun u => bd (placeP T n 1 u) (placeP T n 0))))), w') ∧ SX g w' S tx D T n (bd (placeP T n 1 (δ2, e2)) fun z => bd (thingP T n z) fun u => bd (placeP T n 1 u) (placeP T n 0)) ∧ Fr (FS S D) w w'
    obtain ⟨w3, r3, x3, F3⟩ := readPlace_sp hg hL (kd := 1) (K := 1) x2 l2 hn Q2 (by omega) (by omega) (by decide) rfl
    have G3 := G2.tr F3
    cases hr3 : placeP T n 1 (δ2, e2) with
    | inl e =>
      rw [hr3] at r3 x3
      have r3' : fX6_readPlace g [.ref S, .int 1] w2 = some (.inl (some (.int 0)), w3) := r3
      refine ⟨w3, ?_, x3, G3⟩
      show _ = some (Sum.inl (some (Value.int 0)), w3)
      clear x3
      simp [fX6_readBody, kX6_readBody, ent, entp, jX6_readBody, bX6_readBody_0, bX6_readBody_1, bX6_readBody_2, bX6_readBody_3, bX6_readBody_4, bX6_readBody_5, bX6_readBody_6, i_acmpne, i_aload, i_getf, i_ifeq, i_jmp, i_push, i_zreturn, msk, lset1, lset2, clr, Value.category, Option.toList, List.cons_append, List.nil_append, List.length_cons, List.length_nil, hN, rfo, f0, f1, f2, f3, f4, f5, gf_eq hO, cvk_1 a0 r1, cvk_1 O1 r2', cvk_1 O2 r3']
    | inr y =>
      obtain ⟨δ3, e3⟩ := y
      rw [hr3] at r3 x3
      have r3' : fX6_readPlace g [.ref S, .int 1] w2 = some (.inl (some (.int 1)), w3) := r3
      have x3 : SS g w3 S tx D T n e3 δ3 := x3
      obtain ⟨Q3, px3, -, l3⟩ := placeP_ok hr3 l2 (by decide) Q2 (by omega)
      have u3 := px3.1
      obtain ⟨k13, k23, k33, k43, O3⟩ := id x3.1
      show ∃ w', fX6_readBody g [.ref S, .ref (g.2.1 6)] w = some (.inl (some (.int (prI (bd (thingP T n (δ3, e3)) fun u => bd (placeP T n 1 u) (placeP T n 0))))), w') ∧ SX g w' S tx D T n (bd (thingP T n (δ3, e3)) fun u => bd (placeP T n 1 u) (placeP T n 0)) ∧ Fr (FS S D) w w'
      obtain ⟨w4, r4, x4, F4⟩ := readThing_sp hg hL x3 l3 hn Q3 (by omega)
      have G4 := G3.tr F4
      cases hr4 : thingP T n (δ3, e3) with
      | inl e =>
        rw [hr4] at r4 x4
        have r4' : fX6_readThing g [.ref S] w3 = some (.inl (some (.int 0)), w4) := r4
        refine ⟨w4, ?_, x4, G4⟩
        show _ = some (Sum.inl (some (Value.int 0)), w4)
        clear x4
        simp [fX6_readBody, kX6_readBody, ent, entp, jX6_readBody, bX6_readBody_0, bX6_readBody_1, bX6_readBody_2, bX6_readBody_3, bX6_readBody_4, bX6_readBody_5, bX6_readBody_6, i_acmpne, i_aload, i_getf, i_ifeq, i_jmp, i_push, i_zreturn, msk, lset1, lset2, clr, Value.category, Option.toList, List.cons_append, List.nil_append, List.length_cons, List.length_nil, hN, rfo, f0, f1, f2, f3, f4, f5, gf_eq hO, cvk_1 a0 r1, cvk_1 O1 r2', cvk_1 O2 r3', cvk_0 O3 r4']
      | inr y =>
        obtain ⟨δ4, e4⟩ := y
        rw [hr4] at r4 x4
        have r4' : fX6_readThing g [.ref S] w3 = some (.inl (some (.int 1)), w4) := r4
        have x4 : SS g w4 S tx D T n e4 δ4 := x4
        have tz4 : PQ δ4 ∧ δ4.1 = (δ3).1 ∧ e4 ≤ n := by
          obtain ⟨⟨tt, e9⟩, g7, g4⟩ := bd_r hr4
          injection g4 with g4
          injection g4 with i1 i2
          rw [← i1, ← i2]
          exact ⟨nameTh_ok Q3, rfl, (namP_in g7 l3).2.2⟩
        obtain ⟨Q4, u4, l4⟩ := tz4
        have u4a := congrFun u4 5
        have u4b := congrFun u4 2
        obtain ⟨k14, k24, k34, k44, O4⟩ := id x4.1
        show ∃ w', fX6_readBody g [.ref S, .ref (g.2.1 6)] w = some (.inl (some (.int (prI (bd (placeP T n 1 (δ4, e4)) (placeP T n 0))))), w') ∧ SX g w' S tx D T n (bd (placeP T n 1 (δ4, e4)) (placeP T n 0)) ∧ Fr (FS S D) w w'
        obtain ⟨w5, r5, x5, F5⟩ := readPlace_sp hg hL (kd := 1) (K := 1) x4 l4 hn Q4 (by omega) (by omega) (by decide) rfl
        have G5 := G4.tr F5
        cases hr5 : placeP T n 1 (δ4, e4) with
        | inl e =>
          rw [hr5] at r5 x5
          have r5' : fX6_readPlace g [.ref S, .int 1] w4 = some (.inl (some (.int 0)), w5) := r5
          refine ⟨w5, ?_, x5, G5⟩
          show _ = some (Sum.inl (some (Value.int 0)), w5)
          clear x5
          simp [fX6_readBody, kX6_readBody, ent, entp, jX6_readBody, bX6_readBody_0, bX6_readBody_1, bX6_readBody_2, bX6_readBody_3, bX6_readBody_4, bX6_readBody_5, bX6_readBody_6, i_acmpne, i_aload, i_getf, i_ifeq, i_jmp, i_push, i_zreturn, msk, lset1, lset2, clr, Value.category, Option.toList, List.cons_append, List.nil_append, List.length_cons, List.length_nil, hN, rfo, f0, f1, f2, f3, f4, f5, gf_eq hO, cvk_1 a0 r1, cvk_1 O1 r2', cvk_1 O2 r3', cvk_0 O3 r4', cvk_1 O4 r5']
        | inr y =>
          obtain ⟨δ5, e5⟩ := y
          rw [hr5] at r5 x5
          have r5' : fX6_readPlace g [.ref S, .int 1] w4 = some (.inl (some (.int 1)), w5) := r5
          have x5 : SS g w5 S tx D T n e5 δ5 := x5
          obtain ⟨Q5, px5, -, l5⟩ := placeP_ok hr5 l4 (by decide) Q4 (by omega)
          have u5 := px5.1
          obtain ⟨k15, k25, k35, k45, O5⟩ := id x5.1
          show ∃ w', fX6_readBody g [.ref S, .ref (g.2.1 6)] w = some (.inl (some (.int (prI (placeP T n 0 (δ5, e5))))), w') ∧ SX g w' S tx D T n (placeP T n 0 (δ5, e5)) ∧ Fr (FS S D) w w'
          obtain ⟨w6, r6, x6, F6⟩ := readPlace_sp hg hL (kd := 0) (K := 0) x5 l5 hn Q5 (by omega) (by omega) (by decide) rfl
          have G6 := G5.tr F6
          refine ⟨w6, ?_, x6, G6⟩
          show _ = some (Sum.inl (some (Value.int (prI (placeP T n 0 (δ5, e5))))), w6)
          rcases hb (placeP T n 0 (δ5, e5)) with z | z <;> rw [z] at r6 ⊢ <;> clear x6
          · simp [fX6_readBody, kX6_readBody, ent, entp, jX6_readBody, bX6_readBody_0, bX6_readBody_1, bX6_readBody_2, bX6_readBody_3, bX6_readBody_4, bX6_readBody_5, bX6_readBody_6, i_acmpne, i_aload, i_getf, i_ifeq, i_jmp, i_push, i_zreturn, msk, lset1, lset2, clr, Value.category, Option.toList, List.cons_append, List.nil_append, List.length_cons, List.length_nil, hN, rfo, f0, f1, f2, f3, f4, f5, gf_eq hO, cvk_1 a0 r1, cvk_1 O1 r2', cvk_1 O2 r3', cvk_0 O3 r4', cvk_1 O4 r5', cvk_1 O5 r6]
          · simp [fX6_readBody, kX6_readBody, ent, entp, jX6_readBody, bX6_readBody_0, bX6_readBody_1, bX6_readBody_2, bX6_readBody_3, bX6_readBody_4, bX6_readBody_5, bX6_readBody_6, i_acmpne, i_aload, i_getf, i_ifeq, i_jmp, i_push, i_zreturn, msk, lset1, lset2, clr, Value.category, Option.toList, List.cons_append, List.nil_append, List.length_cons, List.length_nil, hN, rfo, f0, f1, f2, f3, f4, f5, gf_eq hO, cvk_1 a0 r1, cvk_1 O1 r2', cvk_1 O2 r3', cvk_0 O3 r4', cvk_1 O4 r5', cvk_1 O5 r6]
theorem readBody_sp {g : GE} (hg : GD g) {w : Mem} {S tx n a D v : Nat} {T : Nat → Nat} {δ : DE} (hL : LY S tx D) (h : SS g w S tx D T n a δ) (ha : a ≤ n) (hn : n ≤ 600) (hW : PW δ) (hv : v < 7) (hf : ¬ fullP δ v = true) :
    ∃ w', fX6_readBody g [.ref S, .ref (g.2.1 v)] w = some (.inl (some (.int (prI (bodyP T n v (δ, a))))), w') ∧ SX g w' S tx D T n (bodyP T n v (δ, a)) ∧ Fr (FS S D) w w' := by
  simp only [fullP, decide_eq_true_eq] at hf
  have : v = 0 ∨ v = 1 ∨ v = 2 ∨ v = 3 ∨ v = 4 ∨ v = 5 ∨ v = 6 := by omega
  rcases this with z | z | z | z | z | z | z
  · subst z; exact readBody0 hg hL h ha hn hW.1 (by omega)
  · subst z; exact readBody1 hg hL h ha hn hW.1 (by omega)
  · subst z; exact readBody2 hg hL h ha hn hW.1
  · subst z; exact readBody3 hg hL h ha hn hW.1
  · subst z; exact readBody4 hg hL h ha hn hW (by omega)
  · subst z; exact readBody5 hg hL h ha hn hW (by omega)
  · subst z; exact readBody6 hg hL h ha hn hW (by omega)
