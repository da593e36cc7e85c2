/-! ===== verbs, names ===== -/
theorem vb_i {l : List Nat} : ∀ {i : Nat}, i ≤ 7 → (∀ m, m < i → l ≠ vbW m) → vbS l 7 = vbS l (7 - i)
  | 0, _, _ => rfl
  | i + 1, h, hm => by
    rw [vb_i (i := i) (by omega) fun m hk => hm m (by omega), show 7 - i = (7 - (i + 1)) + 1 by omega]
    have e : 6 - (7 - (i + 1)) = i := by omega
    show (if l = vbW (6 - (7 - (i + 1))) then _ else _) = _
    rw [e, if_neg (hm i (by omega))]
theorem vb_at {l : List Nat} {i : Nat} (hi : i < 7) (hm : ∀ m, m < i → l ≠ vbW m) (h : l = vbW i) : vbP l = some i := by
  unfold vbP
  rw [vb_i (i := i) (by omega) hm, show 7 - i = (6 - i) + 1 by omega]
  have e : 6 - (6 - i) = i := by omega
  show (if l = vbW (6 - (6 - i)) then _ else _) = _
  rw [e, if_pos h]
theorem vb_no {l : List Nat} (hm : ∀ m, m < 7 → l ≠ vbW m) : vbP l = none := by
  unfold vbP
  rw [vb_i (i := 7) (by omega) hm]
  rfl
theorem sW_vb : ∀ i, i < 7 → sW i = vbW i := by decide +kernel
theorem GD.f {g : GE} (hg : GD g) {i : Nat} (hi : i < 7) : (List.range 7).find? (fun j => g.2.1 j == g.2.1 i) = some i := fnd_at (f := g.2.1) (n := 7) (fun a b h1 h2 h3 => hg.2.1 a b (by omega) (by omega) h3) hi
theorem vword_at {g : GE} (hg : GD g) {i : Nat} (hi : i < 7) {k : KT} {r : List Value} {lv : Lv} {w : Mem} : i_word g k (.ref (g.2.1 i) :: r) lv w = k (.ref (g.2.2.1 i) :: r) lv w := by
  unfold i_word
  simp only [hg.f hi]
theorem vald_at {g : GE} {i : Nat} (hi : i < 7) {k : KT} {r : List Value} {lv : Lv} {w : Mem} : i_vald g k (.int (nI i) :: .ref (g.2.1 7) :: r) lv w = k (.ref (g.2.1 i) :: r) lv w := by
  unfold i_vald
  simp only [if_true, ix_nI hi (by decide)]
theorem cvEk_0 {F : FT} {g : GE} (hg : GD g) {k : KT} {i : Nat} (hi : i < 7) {r : List Value} {lv : Lv} {w w1 : Mem} {v : Option Value} (hF : F g [.ref (g.2.1 i)] w = some (.inl v, w1)) (hr : r.length ≤ 4) : i_cvE F g 0 k (.ref (g.2.1 i) :: r) lv w = k (v.toList ++ r) lv w1 := by
  unfold i_cvE
  simp only [List.drop, hg.f hi, hr, if_true, List.take, List.reverse_nil, hF]
def vbV (g : GE) (o : Option Nat) : Value := match o with
  | some v => .ref (g.2.1 v)
  | none => .null
theorem verbRead_sp {g : GE} (hg : GD g) {w : Mem} {S tx n a D s : Nat} {k p : Int32} {c : Int64} {T : Nat → Nat} (hO : SO w S tx n a (nI s) c D k p) (hT : TXT w tx T) (hs : s ≤ a) (ha : a ≤ 600) :
    fX6_verbRead g [.ref S] w = some (.inl (some (vbV g (vbP (wdL T s (a - s))))), w) := by
  have hg1 := hg.1
  obtain ⟨N, hN⟩ : ∃ N, g.1 = N + 1 := ⟨g.1 - 1, by omega⟩
  have L := lpR (fun f (z : Lv) => jX6_verbRead g f 1 [] z w) (fun i z => z = [some (.ref S), some (.int (nI i))] ∧ ∀ m, m < i → wdL T s (a - s) ≠ vbW m)
    (fun z => z = some (.inl (some (vbV g (vbP (wdL T s (a - s))))), w)) 1 1 7
    (fun i z hi hI f => by
      obtain ⟨e1, e2⟩ := hI
      have e3 : ¬ 7 ≤ nI i := nI_ge (b := 7) hi (by decide)
      have e4 := isWord_sp hg hO hT hs ha (i := i) (by omega)
      rw [sW_vb i hi] at e4
      by_cases y : wdL T s (a - s) = vbW i
      · rw [if_pos y] at e4
        refine Or.inl ?_
        rw [vb_at hi e2 y]
        show _ = some (Sum.inl (some (Value.ref (g.2.1 i))), w)
        simp [jX6_verbRead, bX6_verbRead_0, bX6_verbRead_1, i_aload, i_areturn, i_icge, i_ifeq, i_iinc, i_iload, i_istore, i_jmp, i_push, i_vlen, msk, lset1, lset2, clr, Value.category, Option.toList, List.cons_append, List.nil_append, List.length_cons, List.length_nil, e1, e3, vald_at hi, vword_at hg hi, cvk_1 hO e4]
      · rw [if_neg y] at e4
        refine Or.inr ⟨f, [some (.ref S), some (.int (nI (i + 1)))], Nat.le_refl _, ⟨rfl, fun m hm => ?_⟩, ?_⟩
        · by_cases z : m = i
          · rw [z]; exact y
          · exact e2 m (by omega)
        · simp [jX6_verbRead, bX6_verbRead_0, bX6_verbRead_1, i_aload, i_areturn, i_icge, i_ifeq, i_iinc, i_iload, i_istore, i_jmp, i_push, i_vlen, msk, lset1, lset2, clr, Value.category, Option.toList, List.cons_append, List.nil_append, List.length_cons, List.length_nil, e1, e3, vald_at hi, vword_at hg hi, cvk_1 hO e4, nI_1])
    (fun z hI f => by
      obtain ⟨e1, e2⟩ := hI
      rw [vb_no e2]
      have e3 : (7 : Int32) ≤ nI 7 := by decide
      show _ = some (Sum.inl (some Value.null), w)
      simp [jX6_verbRead, bX6_verbRead_0, bX6_verbRead_1, i_aload, i_areturn, i_icge, i_ifeq, i_iinc, i_iload, i_istore, i_jmp, i_push, i_vlen, msk, lset1, lset2, clr, Value.category, Option.toList, List.cons_append, List.nil_append, List.length_cons, List.length_nil, e1, e3])
  have L1 := L 7 0 [some (.ref S), some (.int (nI 0))] (by omega) ⟨rfl, fun m hm => by omega⟩ N (by omega)
  simp only [nI_0] at L1
  rw [← L1]
  simp [fX6_verbRead, kX6_verbRead, ent, entp, jX6_verbRead, bX6_verbRead_0, bX6_verbRead_1, i_aload, i_areturn, i_icge, i_ifeq, i_iinc, i_iload, i_istore, i_jmp, i_push, i_vlen, msk, lset1, lset2, clr, Value.category, Option.toList, List.cons_append, List.nil_append, List.length_cons, List.length_nil, hN]
theorem readIs_sp {g : GE} (hg : GD g) {w : Mem} {S tx n a D : Nat} {s0 k p : Int32} {c0 : Int64} {T : Nat → Nat} (hO : SO w S tx n a s0 c0 D k p) (hT : TXT w tx T) (hS : S ≠ tx) (ha : a ≤ n) (hn : n ≤ 600) :
    ∃ w', fX6_readIs g [.ref S] w = some (.inl (some (.int (pvI (isP T n a)))), w') ∧ PVO w' S tx n D k p (isP T n a) ∧ Fr (fun q => q = S) w w' := by
  obtain ⟨w1, r1, o1, o2, F1⟩ := readWord_sp hg.1 hO hT hS ha hn
  have h2 : sb T n a ≤ n := ru_n ha
  have h3 : sb T n a ≤ le9 T n (sb T n a) := ru_le h2
  have h4 : le9 T n (sb T n a) ≤ n := ru_n h2
  have hT1 := hT.fr F1 (fun q => hS q.symm)
  unfold isP
  generalize sb T n a = s at *
  generalize le9 T n s = e at *
  by_cases y : e = s
  · rw [if_pos y] at r1 ⊢
    refine ⟨w1, ?_, ⟨_, _, _, o1 y⟩, F1⟩
    show _ = some (Sum.inl (some (Value.int (-1))), w1)
    simp [fX6_readIs, kX6_readIs, ent, entp, bX6_readIs_0, i_aload, i_getf, i_ifeq, i_ifne, i_ireturn, i_pop, i_push, msk, lset1, lset2, clr, Value.category, Option.toList, List.cons_append, List.nil_append, List.length_cons, List.length_nil, cvk_0 hO r1]
  · rw [if_neg y] at r1 ⊢
    have o3 := o2 y
    have e7 := isWord_sp hg o3 hT1 h3 (by omega) (i := 7) (by decide)
    have e8 := isWord_sp hg o3 hT1 h3 (by omega) (i := 8) (by decide)
    have e7' : fX6_isWord g [.ref S, .ref (g.2.2.1 7)] w1 = some (.inl (some (.int (if wdL T s (e - s) = wIs then 1 else 0))), w1) := e7
    have e8' : fX6_isWord g [.ref S, .ref (g.2.2.1 8)] w1 = some (.inl (some (.int (if wdL T s (e - s) = wNot then 1 else 0))), w1) := e8
    clear e7 e8
    generalize cdF T s (min (e - s) 9) = C at *
    by_cases z1 : wdL T s (e - s) = wIs
    · rw [if_pos z1] at e7' ⊢
      refine ⟨w1, ?_, ⟨_, _, o3⟩, F1⟩
      show _ = some (Sum.inl (some (Value.int (nI 0))), w1)
      simp [fX6_readIs, kX6_readIs, ent, entp, bX6_readIs_0, i_aload, i_getf, i_ifeq, i_ifne, i_ireturn, i_pop, i_push, msk, lset1, lset2, clr, Value.category, Option.toList, List.cons_append, List.nil_append, List.length_cons, List.length_nil, cvk_0 hO r1, cvk_1 o3 e7', nI_0]
    · rw [if_neg z1] at e7' ⊢
      by_cases z2 : wdL T s (e - s) = wNot
      · rw [if_pos z2] at e8' ⊢
        refine ⟨w1, ?_, ⟨_, _, o3⟩, F1⟩
        show _ = some (Sum.inl (some (Value.int (nI 1))), w1)
        have n1 : nI 1 = 1 := rfl
        simp [fX6_readIs, kX6_readIs, ent, entp, bX6_readIs_0, i_aload, i_getf, i_ifeq, i_ifne, i_ireturn, i_pop, i_push, msk, lset1, lset2, clr, Value.category, Option.toList, List.cons_append, List.nil_append, List.length_cons, List.length_nil, cvk_0 hO r1, cvk_1 o3 e7', cvk_1 o3 e8', n1]
      · rw [if_neg z2] at e8' ⊢
        obtain ⟨w2, p1, p2, p3⟩ := fail_sp (g := g) o3 2 (nI s)
        refine ⟨w2, ?_, ⟨_, _, _, p2⟩, F1.tr p3⟩
        show _ = some (Sum.inl (some (Value.int (-1))), w2)
        simp [fX6_readIs, kX6_readIs, ent, entp, bX6_readIs_0, i_aload, i_getf, i_ifeq, i_ifne, i_ireturn, i_pop, i_push, msk, lset1, lset2, clr, Value.category, Option.toList, List.cons_append, List.nil_append, List.length_cons, List.length_nil, cvk_0 hO r1, cvk_1 o3 e7', cvk_1 o3 e8', gf_eq o3, cvk_2 o3 p1]
def nfI (o : Option Nat) : Int32 := match o with
  | some i => nI i
  | none => -1
theorem heirNamed_sp {g : GE} (hg : FU g) {w : Mem} {D C : Nat} {δ : DE} (hD : DEED g w D δ) (hH : δ.1 0 ≤ 4) (hn : ∀ h, h < δ.1 0 → δ.2 13 h < 2 ^ 43) (hC : C < 2 ^ 43) :
    fX2_heirNamed g [.ref D, .long (lN C)] w = some (.inl (some (.int (nfI (nfF (δ.2 13) C (δ.1 0))))), w) := by
  obtain ⟨h0, h1, h2, h3, h4, h5, h6, h7, h8, h9, hp, hb, hv⟩ := id hD
  obtain ⟨N, hN⟩ : ∃ N, g.1 = N + 1 := ⟨g.1 - 1, by omega⟩
  have L := lpR (fun f (z : Lv) => jX2_heirNamed g f 1 [] z w) (fun i z => z = [some (.ref D), some (.long (lN C)), none, some (.int (nI i))] ∧ ∀ m, m < i → δ.2 13 m ≠ C)
    (fun z => z = some (.inl (some (.int (nfI (nfF (δ.2 13) C (δ.1 0))))), w)) 1 1 (δ.1 0)
    (fun i z hi hI f => by
      obtain ⟨e1, e2⟩ := hI
      have e3 := nI_ge hi (by omega)
      have rd := h1.rd (j := i) (by omega) (by decide)
      have lt := hn i hi
      have e4 := lN_inj9 (a := δ.2 13 i) (b := C) (by omega) (by omega)
      by_cases y : δ.2 13 i = C
      · refine Or.inl ?_
        rw [nf_first hi y e2]
        have e5 := cz_y (e4.mpr y)
        show _ = some (Sum.inl (some (Value.int (nI i))), w)
        simp [jX2_heirNamed, bX2_heirNamed_0, bX2_heirNamed_1, i_aload, i_getf, i_icge, i_ifne, i_iinc, i_iload, i_ireturn, i_istore, i_jmp, i_laload, i_lcmp, i_lload, i_push, msk, lset1, lset2, clr, Value.category, Option.toList, List.cons_append, List.nil_append, List.length_cons, List.length_nil, e1, gf_eq h0, e3, rd, e5]
      · have e5 := cz_n (mt e4.mp y)
        refine Or.inr ⟨f, [some (.ref D), some (.long (lN C)), none, some (.int (nI (i + 1)))], Nat.le_refl _, ⟨rfl, fun m hm => ?_⟩, ?_⟩
        · by_cases z : m = i
          · rw [z]; exact y
          · exact e2 m (by omega)
        · simp [jX2_heirNamed, bX2_heirNamed_0, bX2_heirNamed_1, i_aload, i_getf, i_icge, i_ifne, i_iinc, i_iload, i_ireturn, i_istore, i_jmp, i_laload, i_lcmp, i_lload, i_push, msk, lset1, lset2, clr, Value.category, Option.toList, List.cons_append, List.nil_append, List.length_cons, List.length_nil, e1, gf_eq h0, e3, rd, e5, nI_1])
    (fun z hI f => by
      obtain ⟨e1, e2⟩ := hI
      have e4 : nfF (δ.2 13) C (δ.1 0) = none := by
        cases hq : nfF (δ.2 13) C (δ.1 0) with
        | none => rfl
        | some i => exact absurd (nf_some hq).2 (e2 i (nf_some hq).1)
      rw [e4]
      show _ = some (Sum.inl (some (Value.int (-1))), w)
      simp [jX2_heirNamed, bX2_heirNamed_0, bX2_heirNamed_1, i_aload, i_getf, i_icge, i_ifne, i_iinc, i_iload, i_ireturn, i_istore, i_jmp, i_laload, i_lcmp, i_lload, i_push, msk, lset1, lset2, clr, Value.category, Option.toList, List.cons_append, List.nil_append, List.length_cons, List.length_nil, e1, gf_eq h0])
  have L1 := L (δ.1 0) 0 [some (.ref D), some (.long (lN C)), none, some (.int (nI 0))] (by omega) ⟨rfl, fun m hm => by omega⟩ N (by omega)
  simp only [nI_0] at L1
  rw [← L1]
  simp [fX2_heirNamed, kX2_heirNamed, ent, entp, jX2_heirNamed, bX2_heirNamed_0, bX2_heirNamed_1, i_aload, i_getf, i_icge, i_ifne, i_iinc, i_iload, i_ireturn, i_istore, i_jmp, i_laload, i_lcmp, i_lload, i_push, msk, lset1, lset2, clr, Value.category, Option.toList, List.cons_append, List.nil_append, List.length_cons, List.length_nil, hN]
theorem thingNamed_sp {g : GE} (hg : FU g) {w : Mem} {D C : Nat} {δ : DE} (hD : DEED g w D δ) (hH : δ.1 1 ≤ 5) (hn : ∀ h, h < δ.1 1 → δ.2 14 h < 2 ^ 43) (hC : C < 2 ^ 43) :
    fX2_thingNamed g [.ref D, .long (lN C)] w = some (.inl (some (.int (nfI (nfF (δ.2 14) C (δ.1 1))))), w) := by
  obtain ⟨h0, h1, h2, h3, h4, h5, h6, h7, h8, h9, hp, hb, hv⟩ := id hD
  obtain ⟨N, hN⟩ : ∃ N, g.1 = N + 1 := ⟨g.1 - 1, by omega⟩
  have L := lpR (fun f (z : Lv) => jX2_thingNamed g f 1 [] z w) (fun i z => z = [some (.ref D), some (.long (lN C)), none, some (.int (nI i))] ∧ ∀ m, m < i → δ.2 14 m ≠ C)
    (fun z => z = some (.inl (some (.int (nfI (nfF (δ.2 14) C (δ.1 1))))), w)) 1 1 (δ.1 1)
    (fun i z hi hI f => by
      obtain ⟨e1, e2⟩ := hI
      have e3 := nI_ge hi (by omega)
      have rd := h4.rd (j := i) (by omega) (by decide)
      have lt := hn i hi
      have e4 := lN_inj9 (a := δ.2 14 i) (b := C) (by omega) (by omega)
      by_cases y : δ.2 14 i = C
      · refine Or.inl ?_
        rw [nf_first hi y e2]
        have e5 := cz_y (e4.mpr y)
        show _ = some (Sum.inl (some (Value.int (nI i))), w)
        simp [jX2_thingNamed, bX2_thingNamed_0, bX2_thingNamed_1, i_aload, i_getf, i_icge, i_ifne, i_iinc, i_iload, i_ireturn, i_istore, i_jmp, i_laload, i_lcmp, i_lload, i_push, msk, lset1, lset2, clr, Value.category, Option.toList, List.cons_append, List.nil_append, List.length_cons, List.length_nil, e1, gf_eq h0, e3, rd, e5]
      · have e5 := cz_n (mt e4.mp y)
        refine Or.inr ⟨f, [some (.ref D), some (.long (lN C)), none, some (.int (nI (i + 1)))], Nat.le_refl _, ⟨rfl, fun m hm => ?_⟩, ?_⟩
        · by_cases z : m = i
          · rw [z]; exact y
          · exact e2 m (by omega)
        · simp [jX2_thingNamed, bX2_thingNamed_0, bX2_thingNamed_1, i_aload, i_getf, i_icge, i_ifne, i_iinc, i_iload, i_ireturn, i_istore, i_jmp, i_laload, i_lcmp, i_lload, i_push, msk, lset1, lset2, clr, Value.category, Option.toList, List.cons_append, List.nil_append, List.length_cons, List.length_nil, e1, gf_eq h0, e3, rd, e5, nI_1])
    (fun z hI f => by
      obtain ⟨e1, e2⟩ := hI
      have e4 : nfF (δ.2 14) C (δ.1 1) = none := by
        cases hq : nfF (δ.2 14) C (δ.1 1) with
        | none => rfl
        | some i => exact absurd (nf_some hq).2 (e2 i (nf_some hq).1)
      rw [e4]
      show _ = some (Sum.inl (some (Value.int (-1))), w)
      simp [jX2_thingNamed, bX2_thingNamed_0, bX2_thingNamed_1, i_aload, i_getf, i_icge, i_ifne, i_iinc, i_iload, i_ireturn, i_istore, i_jmp, i_laload, i_lcmp, i_lload, i_push, msk, lset1, lset2, clr, Value.category, Option.toList, List.cons_append, List.nil_append, List.length_cons, List.length_nil, e1, gf_eq h0])
  have L1 := L (δ.1 1) 0 [some (.ref D), some (.long (lN C)), none, some (.int (nI 0))] (by omega) ⟨rfl, fun m hm => by omega⟩ N (by omega)
  simp only [nI_0] at L1
  rw [← L1]
  simp [fX2_thingNamed, kX2_thingNamed, ent, entp, jX2_thingNamed, bX2_thingNamed_0, bX2_thingNamed_1, i_aload, i_getf, i_icge, i_ifne, i_iinc, i_iload, i_ireturn, i_istore, i_jmp, i_laload, i_lcmp, i_lload, i_push, msk, lset1, lset2, clr, Value.category, Option.toList, List.cons_append, List.nil_append, List.length_cons, List.length_nil, hN]

theorem code_lt {T : Nat → Nat} {n s : Nat} (hs : s ≤ n) : cdF T s (min (le9 T n s - s) 9) < 2 ^ 43 := by
  have h1 := cdF_lt T s (min (le9 T n s - s) 9) fun i hi => ru_p hs (Nat.le_add_right _ _) (show s + i < le9 T n s by omega)
  have h2 : 27 ^ (min (le9 T n s - s) 9) ≤ 27 ^ 9 := Nat.pow_le_pow_right (by decide) (by omega)
  have h3 : (27 : Nat) ^ 9 < 2 ^ 43 := by decide
  omega
theorem nI_m1n {i : Nat} (h : i < 100) : ¬ nI i = -1 := nI_nn (by omega)
theorem readHeir_sp {g : GE} (hg : GD g) {w : Mem} {S tx n a D : Nat} {s0 k p : Int32} {c0 : Int64} {T : Nat → Nat} {δ : DE} (hO : SO w S tx n a s0 c0 D k p) (hT : TXT w tx T) (hS : S ≠ tx) (ha : a ≤ n) (hn : n ≤ 600) (hD : DEED g w D δ) (hSD : ∀ i, i < 35 → ¬ D + i = S) (hQ : PQ δ) :
    ∃ w', fX6_readHeir g [.ref S] w = some (.inl (some (.int (pvI (namP T n (δ.1 0) (δ.2 13) a)))), w') ∧ PVO w' S tx n D k p (namP T n (δ.1 0) (δ.2 13) a) ∧ Fr (fun q => q = S) w w' := by
  have hg1 := hg.1
  obtain ⟨w1, r1, o1, o2, F1⟩ := readWord_sp hg.1 hO hT hS ha hn
  have h2 : sb T n a ≤ n := ru_n ha
  have h3 : sb T n a ≤ le9 T n (sb T n a) := ru_le h2
  have h4 : le9 T n (sb T n a) ≤ n := ru_n h2
  have h5 := code_lt (T := T) h2
  have hT1 := hT.fr F1 (fun q => hS q.symm)
  have hD1 := hD.fr F1 hSD
  obtain ⟨N, hN⟩ : ∃ N, g.1 = N + 3 := ⟨g.1 - 3, by omega⟩
  unfold namP
  generalize sb T n a = s at *
  generalize le9 T n s = e at *
  by_cases y : e = s
  · rw [if_pos y] at r1 ⊢
    refine ⟨w1, ?_, ⟨_, _, _, o1 y⟩, F1⟩
    show _ = some (Sum.inl (some (Value.int (-1))), w1)
    simp [fX6_readHeir, kX6_readHeir, ent, entp, jX6_readHeir, bX6_readHeir_0, bX6_readHeir_1, bX6_readHeir_2, i_aload, i_getf, i_icne, i_ifeq, i_ifne, i_iload, i_ireturn, i_istore, i_jmp, i_pop, i_push, msk, lset1, lset2, clr, Value.category, Option.toList, List.cons_append, List.nil_append, List.length_cons, List.length_nil, hN, cvk_0 hO r1]
  · rw [if_neg y] at r1 ⊢
    have o3 := o2 y
    have e1 := isTooLong_sp hg.1 o3 h3 (by omega)
    by_cases z : 9 < e - s
    · rw [if_pos z] at e1 ⊢
      generalize cdF T s (min (e - s) 9) = C at *
      obtain ⟨w2, p1, p2, p3⟩ := fail_sp (g := g) o3 2 (nI s)
      refine ⟨w2, ?_, ⟨_, _, _, p2⟩, F1.tr p3⟩
      show _ = some (Sum.inl (some (Value.int (-1))), w2)
      simp [fX6_readHeir, kX6_readHeir, ent, entp, jX6_readHeir, bX6_readHeir_0, bX6_readHeir_1, bX6_readHeir_2, i_aload, i_getf, i_icne, i_ifeq, i_ifne, i_iload, i_ireturn, i_istore, i_jmp, i_pop, i_push, msk, lset1, lset2, clr, Value.category, Option.toList, List.cons_append, List.nil_append, List.length_cons, List.length_nil, hN, cvk_0 hO r1, cvk_0 o3 e1, gf_eq o3, cvk_2 o3 p1]
    · rw [if_neg z] at e1 ⊢
      rw [show min (e - s) 9 = e - s by omega] at o3 h5
      have e2 := heirNamed_sp hg.1 hD1 hQ.1.1 (fun h hh => (hQ.2.2.2.2.1 h hh).2.2.2) h5
      generalize cdF T s (e - s) = C at *
      cases hq : nfF (δ.2 13) C (δ.1 0) with
      | some i =>
        rw [hq] at e2
        have lt := (nf_some hq).1
        have := hQ.1.1
        have e3 := nI_m1n (i := i) (by omega)
        have e2' : fX2_heirNamed g [.ref D, .long (lN C)] w1 = some (.inl (some (.int (nI i))), w1) := e2
        refine ⟨w1, ?_, ⟨_, _, o3⟩, F1⟩
        show _ = some (Sum.inl (some (Value.int (nI i))), w1)
        simp [fX6_readHeir, kX6_readHeir, ent, entp, jX6_readHeir, bX6_readHeir_0, bX6_readHeir_1, bX6_readHeir_2, i_aload, i_getf, i_icne, i_ifeq, i_ifne, i_iload, i_ireturn, i_istore, i_jmp, i_pop, i_push, msk, lset1, lset2, clr, Value.category, Option.toList, List.cons_append, List.nil_append, List.length_cons, List.length_nil, hN, cvk_0 hO r1, cvk_0 o3 e1, gf_eq o3, cvk_1 hD1.1 e2', e3]
      | none =>
        rw [hq] at e2
        have e2' : fX2_heirNamed g [.ref D, .long (lN C)] w1 = some (.inl (some (.int (-1))), w1) := e2
        obtain ⟨w2, p1, p2, p3⟩ := fail_sp (g := g) o3 2 (nI s)
        refine ⟨w2, ?_, ⟨_, _, _, p2⟩, F1.tr p3⟩
        show _ = some (Sum.inl (some (Value.int (-1))), w2)
        simp [fX6_readHeir, kX6_readHeir, ent, entp, jX6_readHeir, bX6_readHeir_0, bX6_readHeir_1, bX6_readHeir_2, i_aload, i_getf, i_icne, i_ifeq, i_ifne, i_iload, i_ireturn, i_istore, i_jmp, i_pop, i_push, msk, lset1, lset2, clr, Value.category, Option.toList, List.cons_append, List.nil_append, List.length_cons, List.length_nil, hN, cvk_0 hO r1, cvk_0 o3 e1, gf_eq o3, cvk_1 hD1.1 e2', cvk_2 o3 p1]
