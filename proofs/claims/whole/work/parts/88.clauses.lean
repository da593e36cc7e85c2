/-! ===== the clauses ===== -/
theorem readThing_sp {g : GE} (hg : GD g) {w : Mem} {S tx n a D : Nat} {T : Nat → Nat} {δ : DE} (hL : LY S tx D) (h : SS g w S tx D T n a δ) (ha : a ≤ n) (hn : n ≤ 600) (hQ : PQ δ) (h1 : 1 ≤ δ.1 2) :
    ∃ w', fX6_readThing g [.ref S] w = some (.inl (some (.int (prI (thingP T n (δ, a))))), w') ∧ SX g w' S tx D T n (thingP T n (δ, a)) ∧ Fr (FS S D) w w' := by
  have hg1 := hg.1
  obtain ⟨⟨s0, c0, k, p, hO⟩, hT, hD⟩ := h
  have a0 := hD.1
  have q2 := hQ.1.2.2.1
  obtain ⟨N, hN⟩ : ∃ N, g.1 = N + 3 := ⟨g.1 - 3, by omega⟩
  obtain ⟨w1, r1, o1, o2, F1⟩ := readWord_sp hg.1 hO hT hL.1 ha hn
  have h2 : sb T n a ≤ n := ru_n ha
  have h3 : sb T n a ≤ le9 T n (sb T n a) := ru_le h2
  have h4 : le9 T n (sb T n a) ≤ n := ru_n h2
  have h5 := code_lt (T := T) h2
  have hT1 := hT.fr F1 (fun q => hL.1 q.symm)
  have hD1 := hD.fr F1 hL.2.1
  unfold thingP namP
  simp only []
  generalize sb T n a = s at *
  generalize le9 T n s = e at *
  have FF1 : Fr (FS S D) w w1 := F1.mn fun q h => Or.inl h
  by_cases y : e = s
  · rw [if_pos y] at r1 ⊢
    refine ⟨w1, ?_, SX.no (k1 := 1) hL hD F1 (o1 y), FF1⟩
    show _ = some (Sum.inl (some (Value.int 0)), w1)
    simp [fX6_readThing, kX6_readThing, ent, entp, jX6_readThing, bX6_readThing_0, bX6_readThing_1, i_aload, i_getf, i_icne, i_ifeq, i_ifne, i_iload, i_istore, i_jmp, i_push, i_zreturn, msk, lset1, lset2, clr, Value.category, Option.toList, List.cons_append, List.nil_append, List.length_cons, List.length_nil, hN, cvk_0 hO r1]
  · rw [if_neg y] at r1 ⊢
    have o3 := o2 y
    have e1 := isTooLong_sp hg.1 o3 h3 (by omega)
    obtain ⟨w2, p1, p2, p3⟩ := fail_sp (g := g) o3 2 (nI s)
    by_cases z : 9 < e - s
    · rw [if_pos z] at e1 ⊢
      refine ⟨w2, ?_, SX.no (k1 := 2) hL hD (F1.tr p3) p2, (F1.tr p3).mn fun q h => Or.inl h⟩
      show _ = some (Sum.inl (some (Value.int 0)), w2)
      generalize cdF T s (min (e - s) 9) = C at *
      simp [fX6_readThing, kX6_readThing, ent, entp, jX6_readThing, bX6_readThing_0, bX6_readThing_1, i_aload, i_getf, i_icne, i_ifeq, i_ifne, i_iload, i_istore, i_jmp, i_push, i_zreturn, msk, lset1, lset2, clr, Value.category, Option.toList, List.cons_append, List.nil_append, List.length_cons, List.length_nil, hN, cvk_0 hO r1, cvk_0 o3 e1, gf_eq o3, cvk_2 o3 p1]
    · rw [if_neg z] at e1 ⊢
      rw [show min (e - s) 9 = e - s by omega] at o3 h5 p2
      have e2 := thingNamed_sp hg.1 hD1 hQ.1.2.1 (fun h hh => (hQ.2.2.2.2.2 h hh).2) h5
      generalize cdF T s (e - s) = C at *
      cases hq : nfF (δ.2 14) C (δ.1 1) with
      | some i =>
        rw [hq] at e2
        have lt := (nf_some hq).1
        have := hQ.1.2.1
        have e3 := nI_m1n (i := i) (by omega)
        have e2' : fX2_thingNamed g [.ref D, .long (lN C)] w1 = some (.inl (some (.int (nI i))), w1) := e2
        obtain ⟨w3, r3, D3, F3⟩ := nameThing_sp hg1 (t := i) hD1 q2 h1
        have O3 := F3.at o3 hL.s
        have FF := FF1.tr (F3.mn fun q h => Or.inr h)
        refine ⟨w3, ?_, ⟨⟨_, _, _, _, O3⟩, hT.fr FF (fun q => q.elim (fun z => hL.1 z.symm) hL.t), D3⟩, FF⟩
        show _ = some (Sum.inl (some (Value.int 1)), w3)
        simp [fX6_readThing, kX6_readThing, ent, entp, jX6_readThing, bX6_readThing_0, bX6_readThing_1, i_aload, i_getf, i_icne, i_ifeq, i_ifne, i_iload, i_istore, i_jmp, i_push, i_zreturn, msk, lset1, lset2, clr, Value.category, Option.toList, List.cons_append, List.nil_append, List.length_cons, List.length_nil, hN, cvk_0 hO r1, cvk_0 o3 e1, gf_eq o3, cvk_1 hD1.1 e2', e3, cvk_1 hD1.1 r3]
      | none =>
        rw [hq] at e2
        have e2' : fX2_thingNamed g [.ref D, .long (lN C)] w1 = some (.inl (some (.int (-1))), w1) := e2
        refine ⟨w2, ?_, SX.no (k1 := 2) hL hD (F1.tr p3) p2, (F1.tr p3).mn fun q h => Or.inl h⟩
        show _ = some (Sum.inl (some (Value.int 0)), w2)
        simp [fX6_readThing, kX6_readThing, ent, entp, jX6_readThing, bX6_readThing_0, bX6_readThing_1, i_aload, i_getf, i_icne, i_ifeq, i_ifne, i_iload, i_istore, i_jmp, i_push, i_zreturn, msk, lset1, lset2, clr, Value.category, Option.toList, List.cons_append, List.nil_append, List.length_cons, List.length_nil, hN, cvk_0 hO r1, cvk_0 o3 e1, gf_eq o3, cvk_1 hD1.1 e2', cvk_2 o3 p1]
theorem readNewHeir_sp {g : GE} (hg : GD g) {w : Mem} {S tx n a D : Nat} {T : Nat → Nat} {δ : DE} (hL : LY S tx D) (h : SS g w S tx D T n a δ) (ha : a ≤ n) (hn : n ≤ 600) (hQ : PQ δ) (h1 : δ.1 0 < 4) :
    ∃ w', fX6_readNewHeir g [.ref S] w = some (.inl (some (.int (prI (heirC T n (δ, a))))), w') ∧ SX g w' S tx D T n (heirC T n (δ, a)) ∧ Fr (FS S D) w w' := by
  have hg1 := hg.1
  obtain ⟨⟨s0, c0, k, p, hO⟩, hT, hD⟩ := h
  have a0 := hD.1
  obtain ⟨w1, r1, o1, F1⟩ := readNewName_sp hg hL hO hT hD ha hn hQ
  have D1 := hD.fr F1 hL.2.1
  have FF1 : Fr (FS S D) w w1 := F1.mn fun q h => Or.inl h
  unfold heirC
  simp only []
  cases hr : newP T n δ a with
  | inl e =>
    rw [hr] at r1 o1
    obtain ⟨x1, x2, x3, o2⟩ := o1
    refine ⟨w1, ?_, SX.no hL hD F1 o2, FF1⟩
    show _ = some (Sum.inl (some (Value.int 0)), w1)
    have r1' : fX6_readNewName g [.ref S] w = some (.inl (some (.int 0)), w1) := r1
    simp [fX6_readNewHeir, kX6_readNewHeir, ent, entp, bX6_readNewHeir_0, i_aload, i_getf, i_ifne, i_isub, i_push, i_zreturn, msk, lset1, lset2, clr, Value.category, Option.toList, List.cons_append, List.nil_append, List.length_cons, List.length_nil, cvk_0 hO r1']
  | inr x =>
    obtain ⟨s, e⟩ := x
    obtain ⟨j1, j2, j3, j4, j5, j6, j7⟩ := newP_in hr ha
    rw [hr] at r1 o1
    have o2 : SO w1 S tx n e (nI s) (lN (cdF T s (e - s))) D k p := o1
    have r1' : fX6_readNewName g [.ref S] w = some (.inl (some (.int 1)), w1) := r1
    obtain ⟨w2, r2, D2, F2⟩ := addHeir_sp hg1 (C := cdF T s (e - s)) (k := e - s) D1 h1
    have O2 := F2.at o2 hL.s
    have FF := FF1.tr (F2.mn fun q h => Or.inr h)
    refine ⟨w2, ?_, ⟨⟨_, _, _, _, O2⟩, hT.fr FF (fun q => q.elim (fun z => hL.1 z.symm) hL.t), D2⟩, FF⟩
    show _ = some (Sum.inl (some (Value.int 1)), w2)
    have es := nI_sub (a := e) (s := s) (by omega)
    clear r1 o1 D2
    generalize cdF T s (e - s) = C at *
    simp [fX6_readNewHeir, kX6_readNewHeir, ent, entp, bX6_readNewHeir_0, i_aload, i_getf, i_ifne, i_isub, i_push, i_zreturn, msk, lset1, lset2, clr, Value.category, Option.toList, List.cons_append, List.nil_append, List.length_cons, List.length_nil, cvk_0 hO r1', gf_eq o2, es, cvk_2 D1.1 r2]
theorem readNewThing_sp {g : GE} (hg : GD g) {w : Mem} {S tx n a D : Nat} {T : Nat → Nat} {δ : DE} (hL : LY S tx D) (h : SS g w S tx D T n a δ) (ha : a ≤ n) (hn : n ≤ 600) (hQ : PQ δ) (h1 : δ.1 1 < 5) :
    ∃ w', fX6_readNewThing g [.ref S] w = some (.inl (some (.int (prI (thingC T n (δ, a))))), w') ∧ SX g w' S tx D T n (thingC T n (δ, a)) ∧ Fr (FS S D) w w' := by
  have hg1 := hg.1
  obtain ⟨⟨s0, c0, k, p, hO⟩, hT, hD⟩ := h
  have a0 := hD.1
  obtain ⟨w1, r1, o1, F1⟩ := readNewName_sp hg hL hO hT hD ha hn hQ
  have D1 := hD.fr F1 hL.2.1
  have FF1 : Fr (FS S D) w w1 := F1.mn fun q h => Or.inl h
  unfold thingC
  simp only []
  cases hr : newP T n δ a with
  | inl e =>
    rw [hr] at r1 o1
    obtain ⟨x1, x2, x3, o2⟩ := o1
    refine ⟨w1, ?_, SX.no hL hD F1 o2, FF1⟩
    show _ = some (Sum.inl (some (Value.int 0)), w1)
    have r1' : fX6_readNewName g [.ref S] w = some (.inl (some (.int 0)), w1) := r1
    simp [fX6_readNewThing, kX6_readNewThing, ent, entp, bX6_readNewThing_0, i_aload, i_getf, i_icne, i_ifne, i_iload, i_istore, i_lload, i_lstore, i_push, i_zreturn, msk, lset1, lset2, clr, Value.category, Option.toList, List.cons_append, List.nil_append, List.length_cons, List.length_nil, cvk_0 hO r1']
  | inr x =>
    obtain ⟨s, e⟩ := x
    obtain ⟨j1, j2, j3, j4, j5, j6, j7⟩ := newP_in hr ha
    rw [hr] at r1 o1
    have o2 : SO w1 S tx n e (nI s) (lN (cdF T s (e - s))) D k p := o1
    have r1' : fX6_readNewName g [.ref S] w = some (.inl (some (.int 1)), w1) := r1
    have T1 := hT.fr F1 (fun q => hL.1 q.symm)
    obtain ⟨w2, r2, o3, F2⟩ := readNumber_sp hg1 o2 T1 hL.1 j6 hn (mx := 99) (by decide)
    have D2 := D1.fr F2 hL.2.1
    show ∃ w', fX6_readNewThing g [.ref S] w = some (.inl (some (.int (prI (bd (numP T n 99 e) fun q => .inr (addTh δ (cdF T s (e - s)) q.1, q.2))))), w') ∧ SX g w' S tx D T n (bd (numP T n 99 e) fun q => .inr (addTh δ (cdF T s (e - s)) q.1, q.2)) ∧ Fr (FS S D) w w'
    generalize cdF T s (e - s) = C at *
    cases hr2 : numP T n 99 e with
    | inl f =>
      rw [hr2] at r2 o3
      have r2' : fX6_readNumber g [.ref S, .int 99] w1 = some (.inl (some (.int (-1))), w2) := r2
      refine ⟨w2, ?_, SX.no hL hD (F1.tr F2) o3, (F1.tr F2).mn fun q h => Or.inl h⟩
      show _ = some (Sum.inl (some (Value.int 0)), w2)
      clear r1 o1 o3
      simp [fX6_readNewThing, kX6_readNewThing, ent, entp, bX6_readNewThing_0, i_aload, i_getf, i_icne, i_ifne, i_iload, i_istore, i_lload, i_lstore, i_push, i_zreturn, msk, lset1, lset2, clr, Value.category, Option.toList, List.cons_append, List.nil_append, List.length_cons, List.length_nil, cvk_0 hO r1', gf_eq o2, cvk_1 o2 r2']
    | inr y =>
      obtain ⟨v, e2⟩ := y
      have hv := numP_in hr2 j6
      rw [hr2] at r2 o3
      have r2' : fX6_readNumber g [.ref S, .int 99] w1 = some (.inl (some (.int (nI v))), w2) := r2
      have o4 : SO w2 S tx n e2 (nI s) (lN C) D k p := o3
      obtain ⟨w3, r3, D3, F3⟩ := addThing_sp hg1 (C := C) (k := v) D2 h1
      have O3 := F3.at o4 hL.s
      have FF : Fr (FS S D) w w3 := ((F1.tr F2).mn fun q h => Or.inl h).tr (F3.mn fun q h => Or.inr h)
      refine ⟨w3, ?_, ⟨⟨_, _, _, _, O3⟩, hT.fr FF (fun q => q.elim (fun z => hL.1 z.symm) hL.t), D3⟩, FF⟩
      show _ = some (Sum.inl (some (Value.int 1)), w3)
      have e3 := nI_m1n (i := v) (by omega)
      clear r1 o1 o3 D3
      simp [fX6_readNewThing, kX6_readNewThing, ent, entp, bX6_readNewThing_0, i_aload, i_getf, i_icne, i_ifne, i_iload, i_istore, i_lload, i_lstore, i_push, i_zreturn, msk, lset1, lset2, clr, Value.category, Option.toList, List.cons_append, List.nil_append, List.length_cons, List.length_nil, cvk_0 hO r1', gf_eq o2, cvk_1 o2 r2', e3, gf_eq o4, cvk_2 D2.1 r3]
theorem readEstate_sp {g : GE} (hg : GD g) {w : Mem} {S tx n a D : Nat} {T : Nat → Nat} {δ : DE} (hL : LY S tx D) (h : SS g w S tx D T n a δ) (ha : a ≤ n) (hn : n ≤ 600) (hQ : PQ δ) :
    ∃ w', fX6_readEstate g [.ref S] w = some (.inl (some (.int (prI (estC T n (δ, a))))), w') ∧ SX g w' S tx D T n (estC T n (δ, a)) ∧ Fr (FS S D) w w' := by
  have hg1 := hg.1
  obtain ⟨⟨s0, c0, k, p, hO⟩, hT, hD⟩ := h
  have a0 := hD.1
  obtain ⟨w2, r2, o3, F2⟩ := readNumber_sp hg1 hO hT hL.1 ha hn (mx := 999) (by decide)
  have D2 := hD.fr F2 hL.2.1
  unfold estC
  simp only []
  cases hr2 : numP T n 999 a with
  | inl f =>
    rw [hr2] at r2 o3
    have r2' : fX6_readNumber g [.ref S, .int 999] w = some (.inl (some (.int (-1))), w2) := r2
    refine ⟨w2, ?_, SX.no hL hD F2 o3, F2.mn fun q h => Or.inl h⟩
    show _ = some (Sum.inl (some (Value.int 0)), w2)
    clear o3
    simp [fX6_readEstate, kX6_readEstate, ent, entp, bX6_readEstate_0, i_aload, i_getf, i_icne, i_iload, i_istore, i_push, i_putf, i_zreturn, msk, lset1, lset2, clr, Value.category, Option.toList, List.cons_append, List.nil_append, List.length_cons, List.length_nil, cvk_1 hO r2']
  | inr y =>
    obtain ⟨v, e2⟩ := y
    have hv := numP_in hr2 ha
    rw [hr2] at r2 o3
    have r2' : fX6_readNumber g [.ref S, .int 999] w = some (.inl (some (.int (nI v))), w2) := r2
    have o4 : SO w2 S tx n e2 s0 c0 D k p := o3
    obtain ⟨w3, hw3⟩ : ∃ z, mset w2 D (.inr (2, [.ref (D + 1), .ref (D + 2), .ref (D + 3), .ref (D + 4), .ref (D + 5), .ref (D + 6), .ref (D + 7), .ref (D + 8), .ref (D + 9), .int (nI (δ.1 0)), .int (nI (δ.1 1)), .int (nI (δ.1 2)), .int (nI (δ.1 5)), .int (nI (δ.1 3)), .int (nI (v)), .int (nI (δ.1 6))])) = z := ⟨_, rfl⟩
    have D3 : DEED g w3 D (dC δ 4 v) := hw3 ▸ D2.cn (va_up δ.1 4 v)
    have F3 : Fr (rg D (D + 35)) w2 w3 := hw3 ▸ Fr.ms _ _ (by unfold rg; omega)
    have O3 := F3.at o4 hL.s
    have FF : Fr (FS S D) w w3 := (F2.mn fun q h => Or.inl h).tr (F3.mn fun q h => Or.inr h)
    refine ⟨w3, ?_, ⟨⟨_, _, _, _, O3⟩, hT.fr FF (fun q => q.elim (fun z => hL.1 z.symm) hL.t), D3⟩, FF⟩
    show _ = some (Sum.inl (some (Value.int 1)), w3)
    have e3 : ¬ nI v = -1 := nI_nn (by omega)
    have a2 := D2.1
    clear o3 D3
    simp [fX6_readEstate, kX6_readEstate, ent, entp, bX6_readEstate_0, i_aload, i_getf, i_icne, i_iload, i_istore, i_push, i_putf, i_zreturn, msk, lset1, lset2, clr, Value.category, Option.toList, List.cons_append, List.nil_append, List.length_cons, List.length_nil, cvk_1 hO r2', e3, gf_eq o4, sf_i a2, hw3]
theorem readLeast_sp {g : GE} (hg : GD g) {w : Mem} {S tx n a D : Nat} {T : Nat → Nat} {δ : DE} (hL : LY S tx D) (h : SS g w S tx D T n a δ) (ha : a ≤ n) (hn : n ≤ 600) (hQ : PQ δ) :
    ∃ w', fX6_readLeast g [.ref S] w = some (.inl (some (.int (prI (leastC T n (δ, a))))), w') ∧ SX g w' S tx D T n (leastC T n (δ, a)) ∧ Fr (FS S D) w w' := by
  have hg1 := hg.1
  obtain ⟨⟨s0, c0, k, p, hO⟩, hT, hD⟩ := h
  have a0 := hD.1
  obtain ⟨w1, r1, o1, F1⟩ := readHeir_sp hg hO hT hL.1 ha hn hD hL.2.1 hQ
  have D1 := hD.fr F1 hL.2.1
  have T1 := hT.fr F1 (fun q => hL.1 q.symm)
  unfold leastC
  simp only []
  cases hr : namP T n (δ.1 0) (δ.2 13) a with
  | inl f =>
    rw [hr] at r1 o1
    obtain ⟨x1, x2, x3, o2⟩ := o1
    have r1' : fX6_readHeir g [.ref S] w = some (.inl (some (.int (-1))), w1) := r1
    refine ⟨w1, ?_, SX.no hL hD F1 o2, F1.mn fun q h => Or.inl h⟩
    show _ = some (Sum.inl (some (Value.int 0)), w1)
    simp [fX6_readLeast, kX6_readLeast, ent, entp, bX6_readLeast_0, i_aload, i_getf, i_iastore, i_icne, i_iload, i_istore, i_push, i_zreturn, msk, lset1, lset2, clr, Value.category, Option.toList, List.cons_append, List.nil_append, List.length_cons, List.length_nil, cvk_0 hO r1']
  | inr x =>
    obtain ⟨i, e⟩ := x
    have hx := namP_in hr ha
    have q0 := hQ.1.1
    rw [hr] at r1 o1
    obtain ⟨x1, x2, o2⟩ := o1
    have o2 : SO w1 S tx n e x1 x2 D k p := o2
    have r1' : fX6_readHeir g [.ref S] w = some (.inl (some (.int (nI i))), w1) := r1
    have e4 := nI_m1n (i := i) (by omega)
    obtain ⟨w2, r2, o3, F2⟩ := readNumber_sp hg1 o2 T1 hL.1 hx.2.2 hn (mx := 999) (by decide)
    have D2 := D1.fr F2 hL.2.1
    show ∃ w', fX6_readLeast g [.ref S] w = some (.inl (some (.int (prI (bd (numP T n 999 e) fun q => .inr (dT δ 1 i q.1, q.2))))), w') ∧ SX g w' S tx D T n (bd (numP T n 999 e) fun q => .inr (dT δ 1 i q.1, q.2)) ∧ Fr (FS S D) w w'
    cases hr2 : numP T n 999 e with
    | inl f =>
      rw [hr2] at r2 o3
      have r2' : fX6_readNumber g [.ref S, .int 999] w1 = some (.inl (some (.int (-1))), w2) := r2
      refine ⟨w2, ?_, SX.no hL hD (F1.tr F2) o3, (F1.tr F2).mn fun q h => Or.inl h⟩
      show _ = some (Sum.inl (some (Value.int 0)), w2)
      clear o3
      simp [fX6_readLeast, kX6_readLeast, ent, entp, bX6_readLeast_0, i_aload, i_getf, i_iastore, i_icne, i_iload, i_istore, i_push, i_zreturn, msk, lset1, lset2, clr, Value.category, Option.toList, List.cons_append, List.nil_append, List.length_cons, List.length_nil, cvk_0 hO r1', e4, cvk_1 o2 r2']
    | inr y =>
      obtain ⟨v, e2⟩ := y
      have hv := numP_in hr2 hx.2.2
      rw [hr2] at r2 o3
      have r2' : fX6_readNumber g [.ref S, .int 999] w1 = some (.inl (some (.int (nI v))), w2) := r2
      have o4 : SO w2 S tx n e2 x1 x2 D k p := o3
      obtain ⟨w3, hw3⟩ : ∃ z, wi w2 0 (D + 3) i (nI v) = z := ⟨_, rfl⟩
      have D3 : DEED g w3 D (dT δ 1 i v) := hw3 ▸ D2.t1 i v
      have F3 : Fr (rg D (D + 35)) w2 w3 := hw3 ▸ Fr.wi _ _ _ _ (by unfold rg; omega)
      have O3 := F3.at o4 hL.s
      have FF : Fr (FS S D) w w3 := ((F1.tr F2).mn fun q h => Or.inl h).tr (F3.mn fun q h => Or.inr h)
      refine ⟨w3, ?_, ⟨⟨_, _, _, _, O3⟩, hT.fr FF (fun q => q.elim (fun z => hL.1 z.symm) hL.t), D3⟩, FF⟩
      show _ = some (Sum.inl (some (Value.int 1)), w3)
      have e3 : ¬ nI v = -1 := nI_nn (by omega)
      have a2 := D2.1
      have wr := D2.2.2.2.1.wr (j := i) (by omega) (by decide) (nI v)
      rw [hw3] at wr
      clear o3 D3
      simp [fX6_readLeast, kX6_readLeast, ent, entp, bX6_readLeast_0, i_aload, i_getf, i_iastore, i_icne, i_iload, i_istore, i_push, i_zreturn, msk, lset1, lset2, clr, Value.category, Option.toList, List.cons_append, List.nil_append, List.length_cons, List.length_nil, cvk_0 hO r1', e4, cvk_1 o2 r2', e3, gf_eq o4, gf_eq a2, wr]
theorem readEnd_sp {g : GE} (hg : GD g) {w : Mem} {S tx n a D : Nat} {T : Nat → Nat} {δ : DE} (hL : LY S tx D) (h : SS g w S tx D T n a δ) (ha : a ≤ n) (hn : n ≤ 600) (hQ : PQ δ) :
    ∃ w', fX6_readEnd g [.ref S] w = some (.inl (some (.int (prI (endP T n (δ, a))))), w') ∧ SX g w' S tx D T n (endP T n (δ, a)) ∧ Fr (FS S D) w w' := by
  have hg1 := hg.1
  obtain ⟨⟨s0, c0, k, p, hO⟩, hT, hD⟩ := h
  have a0 := hD.1
  obtain ⟨w1, r1, o1, F1⟩ := skipBlanks_sp hg1 hO hT hL.1 ha hn
  have T1 := hT.fr F1 (fun q => hL.1 q.symm)
  have D1 := hD.fr F1 hL.2.1
  have h2 : sb T n a ≤ n := ru_n ha
  have r2 := standsHere_sp hg1 o1 T1 hn h2 (c0 := 59) (by decide)
  have r2' : fX6_standsHere g [.ref S, .int 59] w1 = some (.inl (some (.int (if sb T n a < n ∧ T (sb T n a) = 59 then 1 else 0))), w1) := r2
  clear r2
  unfold endP
  simp only []
  generalize sb T n a = s at *
  by_cases y : s < n ∧ T s = 59
  · rw [if_pos y] at r2' ⊢
    obtain ⟨w2, hw2⟩ : ∃ z, mset w1 S (.inr (6, [.ref tx, .int (nI n), .int (nI (s + 1)), .int s0, .long c0, .ref D, .int k, .int p])) = z := ⟨_, rfl⟩
    have o2 : SO w2 S tx n (s + 1) s0 c0 D k p := hw2 ▸ ms_at _ _ _
    have F2 : Fr (fun q => q = S) w1 w2 := hw2 ▸ Fr.ms _ _ rfl
    have FF : Fr (FS S D) w w2 := (F1.tr F2).mn fun q h => Or.inl h
    refine ⟨w2, ?_, ⟨⟨_, _, _, _, o2⟩, hT.fr FF (fun q => q.elim (fun z => hL.1 z.symm) hL.t), D1.fr F2 hL.2.1⟩, FF⟩
    show _ = some (Sum.inl (some (Value.int 1)), w2)
    simp [fX6_readEnd, kX6_readEnd, ent, entp, bX6_readEnd_0, i_aload, i_dup, i_getf, i_iadd, i_ifne, i_push, i_putf, i_zreturn, msk, lset1, lset2, clr, Value.category, Option.toList, List.cons_append, List.nil_append, List.length_cons, List.length_nil, cvk_0 hO r1, cvk_1 o1 r2', gf_eq o1, sf_i o1, nI_1, hw2]
  · rw [if_neg y] at r2' ⊢
    obtain ⟨w2, p1, p2, p3⟩ := fail_sp (g := g) o1 1 (nI s)
    refine ⟨w2, ?_, SX.no (k1 := 1) hL hD (F1.tr p3) p2, (F1.tr p3).mn fun q h => Or.inl h⟩
    show _ = some (Sum.inl (some (Value.int 0)), w2)
    simp [fX6_readEnd, kX6_readEnd, ent, entp, bX6_readEnd_0, i_aload, i_dup, i_getf, i_iadd, i_ifne, i_push, i_putf, i_zreturn, msk, lset1, lset2, clr, Value.category, Option.toList, List.cons_append, List.nil_append, List.length_cons, List.length_nil, cvk_0 hO r1, cvk_1 o1 r2', gf_eq o1, cvk_2 o1 p1]
