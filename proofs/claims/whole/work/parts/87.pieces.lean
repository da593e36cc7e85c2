/-! ===== clauses' pieces ===== -/
theorem SX.no {g : GE} {w w' : Mem} {S tx n D k1 p1 a : Nat} {T : Nat → Nat} {s : Int32} {c : Int64} {δ : DE} (hL : LY S tx D) (hD : DEED g w D δ) (F : Fr (fun q => q = S) w w') (o : SO w' S tx n a s c D (nI k1) (nI p1)) : SX g w' S tx D T n (.inl (k1, p1)) := ⟨⟨_, _, _, o⟩, δ, hD.fr F hL.2.1⟩
theorem valP_sp {g : GE} (hg : GD g) {w : Mem} {S tx n a D kd : Nat} {s0 k p : Int32} {c0 : Int64} {T : Nat → Nat} {δ : DE} (hL : LY S tx D) (hO : SO w S tx n a s0 c0 D k p) (hT : TXT w tx T) (hD : DEED g w D δ) (ha : a ≤ n) (hn : n ≤ 600) (hQ : PQ δ) :
    (kd = 0 → ∃ w', fX6_readNumber g [.ref S, .int 99] w = some (.inl (some (.int (pvI (valP T n kd δ a)))), w') ∧ PVO w' S tx n D k p (valP T n kd δ a) ∧ Fr (fun q => q = S) w w')
    ∧ (kd = 1 → ∃ w', fX6_readHeir g [.ref S] w = some (.inl (some (.int (pvI (valP T n kd δ a)))), w') ∧ PVO w' S tx n D k p (valP T n kd δ a) ∧ Fr (fun q => q = S) w w')
    ∧ (kd = 2 → ∃ w', fX6_readIs g [.ref S] w = some (.inl (some (.int (pvI (valP T n kd δ a)))), w') ∧ PVO w' S tx n D k p (valP T n kd δ a) ∧ Fr (fun q => q = S) w w') := by
  refine ⟨fun z => ?_, fun z => ?_, fun z => ?_⟩
  · subst z
    obtain ⟨w1, r1, o1, F1⟩ := readNumber_sp hg.1 hO hT hL.1 ha hn (mx := 99) (by decide)
    refine ⟨w1, r1, ?_, F1⟩
    show PVO w1 S tx n D k p (numP T n 99 a)
    cases hr : numP T n 99 a with
    | inl e => rw [hr] at o1; exact ⟨_, _, _, o1⟩
    | inr x => rw [hr] at o1; exact ⟨_, _, o1⟩
  · subst z
    exact readHeir_sp hg hO hT hL.1 ha hn hD hL.2.1 hQ
  · subst z
    exact readIs_sp hg hO hT hL.1 ha hn
theorem readPlace_sp {g : GE} (hg : GD g) {w : Mem} {S tx n a D kd : Nat} {K : Int32} {T : Nat → Nat} {δ : DE} (hL : LY S tx D) (h : SS g w S tx D T n a δ) (ha : a ≤ n) (hn : n ≤ 600) (hQ : PQ δ) (h5 : δ.1 5 < 36) (h1 : 1 ≤ δ.1 2) (hk : kd ≤ 2) (hK : nI kd = K) :
    ∃ w', fX6_readPlace g [.ref S, .int K] w = some (.inl (some (.int (prI (placeP T n kd (δ, a))))), w') ∧ SX g w' S tx D T n (placeP T n kd (δ, a)) ∧ Fr (FS S D) w w' := by
  have hg1 := hg.1
  obtain ⟨⟨s0, c0, k, p, hO⟩, hT, hD⟩ := h
  have a0 := hD.1
  obtain ⟨N, hN⟩ : ∃ N, g.1 = N + 3 := ⟨g.1 - 3, by omega⟩
  obtain ⟨w1, r1, o1, F1⟩ := skipBlanks_sp hg1 hO hT hL.1 ha hn
  have T1 := hT.fr F1 (fun q => hL.1 q.symm)
  have D1 := hD.fr F1 hL.2.1
  have h2 : sb T n a ≤ n := ru_n ha
  have r2 := standsHere_sp hg1 o1 T1 hn h2 (c0 := 35) (by decide)
  have r2' : fX6_standsHere g [.ref S, .int 35] w1 = some (.inl (some (.int (if sb T n a < n ∧ T (sb T n a) = 35 then 1 else 0))), w1) := r2
  clear r2
  unfold placeP
  simp only []
  generalize sb T n a = s at *
  by_cases y : s < n ∧ T s = 35
  · rw [if_pos y] at r2' ⊢
    obtain ⟨w2, r3, x2, F2⟩ := readBlot_sp hg hL (w := w1) ⟨⟨_, _, _, _, o1⟩, T1, D1⟩ y.1 hn hQ h5 h1 hk hK
    refine ⟨w2, ?_, x2, (F1.mn fun q h => Or.inl h).tr F2⟩
    have hz : ∀ (b : Int32), (b = 0 ∨ b = 1) → True := fun _ _ => trivial
    cases hr : blotP T n kd δ s with
    | inl e =>
      rw [hr] at r3
      have r3' : fX6_readBlot g [.ref S, .int K] w1 = some (.inl (some (.int 0)), w2) := r3
      show _ = some (Sum.inl (some (Value.int 0)), w2)
      simp [fX6_readPlace, kX6_readPlace, ent, entp, jX6_readPlace, bX6_readPlace_0, bX6_readPlace_1, i_aload, i_getf, i_icne, i_ifeq, i_ifne, i_iload, i_istore, i_jmp, i_push, i_zreturn, msk, lset1, lset2, clr, Value.category, Option.toList, List.cons_append, List.nil_append, List.length_cons, List.length_nil, hN, cvk_0 hO r1, cvk_1 o1 r2', cvk_1 o1 r3']
    | inr x =>
      rw [hr] at r3
      have r3' : fX6_readBlot g [.ref S, .int K] w1 = some (.inl (some (.int 1)), w2) := r3
      show _ = some (Sum.inl (some (Value.int 1)), w2)
      simp [fX6_readPlace, kX6_readPlace, ent, entp, jX6_readPlace, bX6_readPlace_0, bX6_readPlace_1, i_aload, i_getf, i_icne, i_ifeq, i_ifne, i_iload, i_istore, i_jmp, i_push, i_zreturn, msk, lset1, lset2, clr, Value.category, Option.toList, List.cons_append, List.nil_append, List.length_cons, List.length_nil, hN, cvk_0 hO r1, cvk_1 o1 r2', cvk_1 o1 r3']
  · rw [if_neg y] at r2' ⊢
    obtain ⟨v0, v1, v2⟩ := valP_sp hg (kd := kd) hL o1 T1 D1 h2 hn hQ
    have fin : ∀ w2, PVO w2 S tx n D k p (valP T n kd δ s) → Fr (fun q => q = S) w1 w2 → (∀ v wv, (pvI (valP T n kd δ s) = v) → (∀ F, jX6_readPlace g (F + 1) 1 [.int v] [some (.ref S), some (.int K), none] w2 = some (.inl (some (.int (prI (bd (valP T n kd δ s) fun r => .inr (addPl δ kd r.1, r.2))))), wv)) → fX6_readPlace g [.ref S, .int K] w = some (.inl (some (.int (prI (bd (valP T n kd δ s) fun r => .inr (addPl δ kd r.1, r.2))))), wv)) → ∃ w', fX6_readPlace g [.ref S, .int K] w = some (.inl (some (.int (prI (bd (valP T n kd δ s) fun r => .inr (addPl δ kd r.1, r.2))))), w') ∧ SX g w' S tx D T n (bd (valP T n kd δ s) fun r => .inr (addPl δ kd r.1, r.2)) ∧ Fr (FS S D) w w' := fun w2 po F2 st => by
      have D2 := D1.fr F2 hL.2.1
      have FF : Fr (FS S D) w w2 := (F1.tr F2).mn fun q h => Or.inl h
      cases hr : valP T n kd δ s with
      | inl e =>
        rw [hr] at po st
        obtain ⟨x1, x2, x3, o2⟩ := po
        refine ⟨w2, st (-1) w2 rfl (fun F => ?_), SX.no hL D1 F2 o2, FF⟩
        show _ = some (Sum.inl (some (Value.int 0)), w2)
        clear st
        simp [jX6_readPlace, bX6_readPlace_0, bX6_readPlace_1, i_aload, i_getf, i_icne, i_ifeq, i_ifne, i_iload, i_istore, i_jmp, i_push, i_zreturn, msk, lset1, lset2, clr, Value.category, Option.toList, List.cons_append, List.nil_append, List.length_cons, List.length_nil, hN]
      | inr x =>
        obtain ⟨v, e⟩ := x
        rw [hr] at po st
        obtain ⟨x1, x2, o2⟩ := po
        have o2' : SO w2 S tx n e x1 x2 D k p := o2
        have hx := valP_in hr h2 hk
        have lv : v < 100 := by
          have q0 := hQ.1.1
          rcases hx.1 with ⟨_, q⟩ | ⟨_, q⟩ | ⟨_, q⟩ <;> omega
        obtain ⟨w3, r3, D3, F3⟩ := addPlace_sp hg1 (kd := kd) (v := v) D2 h5
        rw [hK] at r3
        have O3 := F3.at o2' hL.s
        have FF3 := FF.tr (F3.mn fun q h => Or.inr h)
        refine ⟨w3, st (nI v) w3 rfl (fun F => ?_), ⟨⟨_, _, _, _, O3⟩, hT.fr FF3 (fun q => q.elim (fun z => hL.1 z.symm) hL.t), D3⟩, FF3⟩
        show _ = some (Sum.inl (some (Value.int 1)), w3)
        have e3 := nI_m1n lv
        clear st
        simp [jX6_readPlace, bX6_readPlace_0, bX6_readPlace_1, i_aload, i_getf, i_icne, i_ifeq, i_ifne, i_iload, i_istore, i_jmp, i_push, i_zreturn, msk, lset1, lset2, clr, Value.category, Option.toList, List.cons_append, List.nil_append, List.length_cons, List.length_nil, e3, gf_eq o2', cvk_2 D2.1 r3]
    have : kd = 0 ∨ kd = 1 ∨ kd = 2 := by omega
    rcases this with z | z | z
    · obtain ⟨w2, r3, po, F2⟩ := v0 z
      have eK : K = 0 := by rw [← hK, z]; rfl
      refine fin w2 po F2 fun v wv hv hj => ?_
      rw [hv] at r3
      rw [← hj (N + 1)]
      clear fin v0 v1 v2 hj
      subst eK
      have hN' : g.1 = (N + 1 + 1) + 1 := hN
      generalize N + 1 + 1 = M at *
      simp [fX6_readPlace, kX6_readPlace, ent, entp, jX6_readPlace, bX6_readPlace_0, bX6_readPlace_1, i_aload, i_getf, i_icne, i_ifeq, i_ifne, i_iload, i_istore, i_jmp, i_push, i_zreturn, msk, lset1, lset2, clr, Value.category, Option.toList, List.cons_append, List.nil_append, List.length_cons, List.length_nil, hN', cvk_0 hO r1, cvk_1 o1 r2', cvk_1 o1 r3]
    · obtain ⟨w2, r3, po, F2⟩ := v1 z
      have eK : K = 1 := by rw [← hK, z]; rfl
      refine fin w2 po F2 fun v wv hv hj => ?_
      rw [hv] at r3
      rw [← hj (N + 1)]
      clear fin v0 v1 v2 hj
      subst eK
      have hN' : g.1 = (N + 1 + 1) + 1 := hN
      generalize N + 1 + 1 = M at *
      simp [fX6_readPlace, kX6_readPlace, ent, entp, jX6_readPlace, bX6_readPlace_0, bX6_readPlace_1, i_aload, i_getf, i_icne, i_ifeq, i_ifne, i_iload, i_istore, i_jmp, i_push, i_zreturn, msk, lset1, lset2, clr, Value.category, Option.toList, List.cons_append, List.nil_append, List.length_cons, List.length_nil, hN', cvk_0 hO r1, cvk_1 o1 r2', cvk_0 o1 r3]
    · obtain ⟨w2, r3, po, F2⟩ := v2 z
      have eK : K = 2 := by rw [← hK, z]; rfl
      refine fin w2 po F2 fun v wv hv hj => ?_
      rw [hv] at r3
      rw [← hj (N + 1)]
      clear fin v0 v1 v2 hj
      subst eK
      have hN' : g.1 = (N + 1 + 1) + 1 := hN
      generalize N + 1 + 1 = M at *
      simp [fX6_readPlace, kX6_readPlace, ent, entp, jX6_readPlace, bX6_readPlace_0, bX6_readPlace_1, i_aload, i_getf, i_icne, i_ifeq, i_ifne, i_iload, i_istore, i_jmp, i_push, i_zreturn, msk, lset1, lset2, clr, Value.category, Option.toList, List.cons_append, List.nil_append, List.length_cons, List.length_nil, hN', cvk_0 hO r1, cvk_1 o1 r2', cvk_0 o1 r3]
theorem readNewName_sp {g : GE} (hg : GD g) {w : Mem} {S tx n a D : Nat} {s0 k p : Int32} {c0 : Int64} {T : Nat → Nat} {δ : DE} (hL : LY S tx D) (hO : SO w S tx n a s0 c0 D k p) (hT : TXT w tx T) (hD : DEED g w D δ) (ha : a ≤ n) (hn : n ≤ 600) (hQ : PQ δ) :
    ∃ w', fX6_readNewName g [.ref S] w = some (.inl (some (.int (match newP T n δ a with | .inl _ => 0 | .inr _ => 1))), w') ∧ (match newP T n δ a with | .inl e => ∃ a s c, SO w' S tx n a s c D (nI e.1) (nI e.2) | .inr x => SO w' S tx n x.2 (nI x.1) (lN (cdF T x.1 (x.2 - x.1))) D k p) ∧ Fr (fun q => q = S) w w' := by
  have hg1 := hg.1
  obtain ⟨w1, r1, o1, o2, F1⟩ := readWord_sp hg.1 hO hT hL.1 ha hn
  have h2 : sb T n a ≤ n := ru_n ha
  have h3 : sb T n a ≤ le9 T n (sb T n a) := ru_le h2
  have h4 : le9 T n (sb T n a) ≤ n := ru_n h2
  have h5 := code_lt (T := T) h2
  have hT1 := hT.fr F1 (fun q => hL.1 q.symm)
  have hD1 := hD.fr F1 hL.2.1
  obtain ⟨N, hN⟩ : ∃ N, g.1 = N + 5 := ⟨g.1 - 5, by omega⟩
  unfold newP
  generalize sb T n a = s at *
  generalize le9 T n s = e at *
  by_cases y : e = s
  · rw [if_pos y] at r1 ⊢
    refine ⟨w1, ?_, ⟨_, _, _, o1 y⟩, F1⟩
    show _ = some (Sum.inl (some (Value.int 0)), w1)
    simp [fX6_readNewName, kX6_readNewName, ent, entp, jX6_readNewName, bX6_readNewName_0, bX6_readNewName_1, bX6_readNewName_2, bX6_readNewName_3, bX6_readNewName_4, bX6_readNewName_5, i_aload, i_getf, i_iceq, i_icne, i_ifeq, i_ifne, i_iload, i_istore, i_jmp, i_push, i_zreturn, msk, lset1, lset2, clr, Value.category, Option.toList, List.cons_append, List.nil_append, List.length_cons, List.length_nil, hN, cvk_0 hO r1]
  · rw [if_neg y] at r1 ⊢
    have o3 := o2 y
    have e1 := isTooLong_sp hg.1 o3 h3 (by omega)
    have e2 := heirNamed_sp hg.1 hD1 hQ.1.1 (fun h hh => (hQ.2.2.2.2.1 h hh).2.2.2) h5
    have e3 := thingNamed_sp hg.1 hD1 hQ.1.2.1 (fun h hh => (hQ.2.2.2.2.2 h hh).2) h5
    have a1 := hD1.1
    obtain ⟨w2, p1, p2, p3⟩ := fail_sp (g := g) o3 2 (nI s)
    have q0 := hQ.1.1
    have q1 := hQ.1.2.1
    by_cases z : 9 < e - s
    · rw [if_pos z] at e1
      rw [if_pos (Or.inl z)]
      refine ⟨w2, ?_, ⟨_, _, _, p2⟩, F1.tr p3⟩
      show _ = some (Sum.inl (some (Value.int 0)), w2)
      generalize cdF T s (min (e - s) 9) = C at *
      cases hq : nfF (δ.2 13) C (δ.1 0) with
      | some i =>
        have lt := (nf_some hq).1
        have e4 := nI_m1n (i := i) (by omega)
        rw [hq] at e2
        have e2' : fX2_heirNamed g [.ref D, .long (lN C)] w1 = some (.inl (some (.int (nI i))), w1) := e2
        simp [fX6_readNewName, kX6_readNewName, ent, entp, jX6_readNewName, bX6_readNewName_0, bX6_readNewName_1, bX6_readNewName_2, bX6_readNewName_3, bX6_readNewName_4, bX6_readNewName_5, i_aload, i_getf, i_iceq, i_icne, i_ifeq, i_ifne, i_iload, i_istore, i_jmp, i_push, i_zreturn, msk, lset1, lset2, clr, Value.category, Option.toList, List.cons_append, List.nil_append, List.length_cons, List.length_nil, hN, cvk_0 hO r1, cvk_0 o3 e1, gf_eq o3, cvk_1 a1 e2', e4, cvk_2 o3 p1]
      | none =>
        rw [hq] at e2
        have e2' : fX2_heirNamed g [.ref D, .long (lN C)] w1 = some (.inl (some (.int (-1))), w1) := e2
        cases hq2 : nfF (δ.2 14) C (δ.1 1) with
        | some i =>
          have lt := (nf_some hq2).1
          have e4 := nI_m1n (i := i) (by omega)
          rw [hq2] at e3
          have e3' : fX2_thingNamed g [.ref D, .long (lN C)] w1 = some (.inl (some (.int (nI i))), w1) := e3
          simp [fX6_readNewName, kX6_readNewName, ent, entp, jX6_readNewName, bX6_readNewName_0, bX6_readNewName_1, bX6_readNewName_2, bX6_readNewName_3, bX6_readNewName_4, bX6_readNewName_5, i_aload, i_getf, i_iceq, i_icne, i_ifeq, i_ifne, i_iload, i_istore, i_jmp, i_push, i_zreturn, msk, lset1, lset2, clr, Value.category, Option.toList, List.cons_append, List.nil_append, List.length_cons, List.length_nil, hN, cvk_0 hO r1, cvk_0 o3 e1, gf_eq o3, cvk_1 a1 e2', cvk_1 a1 e3', e4, cvk_2 o3 p1]
        | none =>
          rw [hq2] at e3
          have e3' : fX2_thingNamed g [.ref D, .long (lN C)] w1 = some (.inl (some (.int (-1))), w1) := e3
          simp [fX6_readNewName, kX6_readNewName, ent, entp, jX6_readNewName, bX6_readNewName_0, bX6_readNewName_1, bX6_readNewName_2, bX6_readNewName_3, bX6_readNewName_4, bX6_readNewName_5, i_aload, i_getf, i_iceq, i_icne, i_ifeq, i_ifne, i_iload, i_istore, i_jmp, i_push, i_zreturn, msk, lset1, lset2, clr, Value.category, Option.toList, List.cons_append, List.nil_append, List.length_cons, List.length_nil, hN, cvk_0 hO r1, cvk_0 o3 e1, gf_eq o3, cvk_1 a1 e2', cvk_1 a1 e3', cvk_2 o3 p1]
    · rw [if_neg z] at e1
      rw [show min (e - s) 9 = e - s by omega] at o3 p2 e2 e3
      cases hq : nfF (δ.2 13) (cdF T s (e - s)) (δ.1 0) with
      | some i =>
        rw [if_pos (Or.inr (Or.inl (by simp)))]
        refine ⟨w2, ?_, ⟨_, _, _, p2⟩, F1.tr p3⟩
        show _ = some (Sum.inl (some (Value.int 0)), w2)
        generalize cdF T s (e - s) = C at *
        have lt := (nf_some hq).1
        have e4 := nI_m1n (i := i) (by omega)
        rw [hq] at e2
        have e2' : fX2_heirNamed g [.ref D, .long (lN C)] w1 = some (.inl (some (.int (nI i))), w1) := e2
        simp [fX6_readNewName, kX6_readNewName, ent, entp, jX6_readNewName, bX6_readNewName_0, bX6_readNewName_1, bX6_readNewName_2, bX6_readNewName_3, bX6_readNewName_4, bX6_readNewName_5, i_aload, i_getf, i_iceq, i_icne, i_ifeq, i_ifne, i_iload, i_istore, i_jmp, i_push, i_zreturn, msk, lset1, lset2, clr, Value.category, Option.toList, List.cons_append, List.nil_append, List.length_cons, List.length_nil, hN, cvk_0 hO r1, cvk_0 o3 e1, gf_eq o3, cvk_1 a1 e2', e4, cvk_2 o3 p1]
      | none =>
        rw [hq] at e2
        have e2' : fX2_heirNamed g [.ref D, .long (lN (cdF T s (e - s)))] w1 = some (.inl (some (.int (-1))), w1) := e2
        cases hq2 : nfF (δ.2 14) (cdF T s (e - s)) (δ.1 1) with
        | some i =>
          rw [if_pos (Or.inr (Or.inr (by simp)))]
          refine ⟨w2, ?_, ⟨_, _, _, p2⟩, F1.tr p3⟩
          show _ = some (Sum.inl (some (Value.int 0)), w2)
          generalize cdF T s (e - s) = C at *
          have lt := (nf_some hq2).1
          have e4 := nI_m1n (i := i) (by omega)
          rw [hq2] at e3
          have e3' : fX2_thingNamed g [.ref D, .long (lN C)] w1 = some (.inl (some (.int (nI i))), w1) := e3
          simp [fX6_readNewName, kX6_readNewName, ent, entp, jX6_readNewName, bX6_readNewName_0, bX6_readNewName_1, bX6_readNewName_2, bX6_readNewName_3, bX6_readNewName_4, bX6_readNewName_5, i_aload, i_getf, i_iceq, i_icne, i_ifeq, i_ifne, i_iload, i_istore, i_jmp, i_push, i_zreturn, msk, lset1, lset2, clr, Value.category, Option.toList, List.cons_append, List.nil_append, List.length_cons, List.length_nil, hN, cvk_0 hO r1, cvk_0 o3 e1, gf_eq o3, cvk_1 a1 e2', cvk_1 a1 e3', e4, cvk_2 o3 p1]
        | none =>
          rw [hq2] at e3
          rw [if_neg (by simp; omega)]
          have e3' : fX2_thingNamed g [.ref D, .long (lN (cdF T s (e - s)))] w1 = some (.inl (some (.int (-1))), w1) := e3
          refine ⟨w1, ?_, o3, F1⟩
          show _ = some (Sum.inl (some (Value.int 1)), w1)
          generalize cdF T s (e - s) = C at *
          simp [fX6_readNewName, kX6_readNewName, ent, entp, jX6_readNewName, bX6_readNewName_0, bX6_readNewName_1, bX6_readNewName_2, bX6_readNewName_3, bX6_readNewName_4, bX6_readNewName_5, i_aload, i_getf, i_iceq, i_icne, i_ifeq, i_ifne, i_iload, i_istore, i_jmp, i_push, i_zreturn, msk, lset1, lset2, clr, Value.category, Option.toList, List.cons_append, List.nil_append, List.length_cons, List.length_nil, hN, cvk_0 hO r1, cvk_0 o3 e1, gf_eq o3, cvk_1 a1 e2', cvk_1 a1 e3']
