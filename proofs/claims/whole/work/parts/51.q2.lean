/-! ===== the least, the most, the best, the worst ===== -/
def zV (f : Nat → Nat) : Option Nat → Int32
  | none => 0
  | some j => nI (f j)
theorem nI_ss (a b c : Nat) : nI a - nI b - nI c = nI a - nI (b + c) := by
  apply Int32.toBitVec_inj.1
  show BitVec.ofNat 32 a - BitVec.ofNat 32 b - BitVec.ofNat 32 c = BitVec.ofNat 32 a - BitVec.ofNat 32 (b + c)
  apply BitVec.eq_of_toNat_eq
  simp only [BitVec.toNat_sub, BitVec.toNat_ofNat]
  omega
theorem leastCoin_sp {g : GE} (hg : FU g) {w : Mem} {tb E D aM aS aG n1 lev : Nat} {δ : DE} (hd : WF δ) (hG : GT g w tb E D δ (δ.1 6) aM aS aG n1 lev) {h : Nat} (hh : h < 4) : fX7_leastCoin g [.ref tb, .int (nI h)] w = some (.inl (some (.int (oV (fun i => cnR δ i h) (amnP tru (fun i => cnR δ i h) (nR δ))))), w) := by
  have hT := hG.tb
  have hn := nR_le hd
  obtain ⟨b1, b2, b3, b4, b5, b6, b7, b8⟩ := id hd.1
  have L := lpF (fun f (s : Lv × Mem) => jX7_leastCoin g f 1 [] s.1 s.2) (fun k => ([some (.ref tb), some (.int (nI h)), some (.int (oV (fun i => cnR δ i h) (amnP tru (fun i => cnR δ i h) k))), some (.int (nI k)), none], w)) (some (.inl (some (.int (oV (fun i => cnR δ i h) (amnP tru (fun i => cnR δ i h) (nR δ))))), w)) 2 1 (nR δ)
    (fun k hk f => by
      refine ⟨f, Nat.le_refl _, ?_⟩
      have o := coinOf_sp hd hG hk hh
      cases hA : amnP tru (fun i => cnR δ i h) k with
      | none => simp [jX7_leastCoin, bX7_leastCoin_0, bX7_leastCoin_1, bX7_leastCoin_2, i_aload, i_getf, i_icge, i_icne, i_iinc, i_iload, i_ireturn, i_istore, i_jmp, i_min, i_push, msk, lset1, lset2, clr, Value.category, Option.toList, List.cons_append, List.nil_append, List.length_cons, List.length_nil, gf_eq hT, nI_ge hk (by omega), cvk_2 hT o, hA, oV, amnP, nI_1]
      | some j =>
        have lj := cnR_le hd j h
        have lk := cnR_le hd k h
        have nn := nI_nn (y := cnR δ j h) (by omega)
        have m := nI_ltI (a := cnR δ k h) (b := cnR δ j h) (by omega) (by omega)
        by_cases z : cnR δ k h < cnR δ j h
        · simp [jX7_leastCoin, bX7_leastCoin_0, bX7_leastCoin_1, bX7_leastCoin_2, i_aload, i_getf, i_icge, i_icne, i_iinc, i_iload, i_ireturn, i_istore, i_jmp, i_min, i_push, msk, lset1, lset2, clr, Value.category, Option.toList, List.cons_append, List.nil_append, List.length_cons, List.length_nil, gf_eq hT, nI_ge hk (by omega), cvk_2 hT o, hA, oV, amnP, nn, m, z, nI_1]
        · simp [jX7_leastCoin, bX7_leastCoin_0, bX7_leastCoin_1, bX7_leastCoin_2, i_aload, i_getf, i_icge, i_icne, i_iinc, i_iload, i_ireturn, i_istore, i_jmp, i_min, i_push, msk, lset1, lset2, clr, Value.category, Option.toList, List.cons_append, List.nil_append, List.length_cons, List.length_nil, gf_eq hT, nI_ge hk (by omega), cvk_2 hT o, hA, oV, amnP, nn, m, z, nI_1])
    (fun f => by
      simp [jX7_leastCoin, bX7_leastCoin_0, bX7_leastCoin_1, bX7_leastCoin_2, i_aload, i_getf, i_icge, i_icne, i_iinc, i_iload, i_ireturn, i_istore, i_jmp, i_min, i_push, msk, lset1, lset2, clr, Value.category, Option.toList, List.cons_append, List.nil_append, List.length_cons, List.length_nil, gf_eq hT])
  obtain ⟨N, hN⟩ : ∃ N, g.1 = N + 1 := ⟨g.1 - 1, by omega⟩
  rw [← L N (by omega)]
  simp [fX7_leastCoin, kX7_leastCoin, ent, entp, jX7_leastCoin, bX7_leastCoin_0, bX7_leastCoin_1, bX7_leastCoin_2, i_aload, i_getf, i_icge, i_icne, i_iinc, i_iload, i_ireturn, i_istore, i_jmp, i_min, i_push, msk, lset1, lset2, clr, Value.category, Option.toList, List.cons_append, List.nil_append, List.length_cons, List.length_nil, hN, nI_0, amnP, oV]
theorem mostCoin_sp {g : GE} (hg : FU g) {w : Mem} {tb E D aM aS aG n1 lev : Nat} {δ : DE} (hd : WF δ) (hG : GT g w tb E D δ (δ.1 6) aM aS aG n1 lev) {h : Nat} (hh : h < 4) : fX7_mostCoin g [.ref tb, .int (nI h)] w = some (.inl (some (.int (oV (fun i => cnR δ i h) (amxP tru (fun i => cnR δ i h) (nR δ))))), w) := by
  have hT := hG.tb
  have hn := nR_le hd
  obtain ⟨b1, b2, b3, b4, b5, b6, b7, b8⟩ := id hd.1
  have L := lpF (fun f (s : Lv × Mem) => jX7_mostCoin g f 1 [] s.1 s.2) (fun k => ([some (.ref tb), some (.int (nI h)), some (.int (oV (fun i => cnR δ i h) (amxP tru (fun i => cnR δ i h) k))), some (.int (nI k))], w)) (some (.inl (some (.int (oV (fun i => cnR δ i h) (amxP tru (fun i => cnR δ i h) (nR δ))))), w)) 1 1 (nR δ)
    (fun k hk f => by
      refine ⟨f, Nat.le_refl _, ?_⟩
      have o := coinOf_sp hd hG hk hh
      cases hA : amxP tru (fun i => cnR δ i h) k with
      | none =>
        have nn : (-1 : Int32) < nI (cnR δ k h) := Int32.lt_of_lt_of_le (by decide) (nI_pos' (by have := cnR_le hd k h; omega))
        simp [jX7_mostCoin, bX7_mostCoin_0, bX7_mostCoin_1, i_aload, i_getf, i_icge, i_iinc, i_iload, i_ireturn, i_istore, i_jmp, i_max, i_push, msk, lset1, lset2, clr, Value.category, Option.toList, List.cons_append, List.nil_append, List.length_cons, List.length_nil, gf_eq hT, nI_ge hk (by omega), cvk_2 hT o, hA, oV, amxP, nn, nI_1]
      | some j =>
        have lj := cnR_le hd j h
        have lk := cnR_le hd k h
        have m := nI_ltI (a := cnR δ j h) (b := cnR δ k h) (by omega) (by omega)
        by_cases z : cnR δ j h < cnR δ k h
        · simp [jX7_mostCoin, bX7_mostCoin_0, bX7_mostCoin_1, i_aload, i_getf, i_icge, i_iinc, i_iload, i_ireturn, i_istore, i_jmp, i_max, i_push, msk, lset1, lset2, clr, Value.category, Option.toList, List.cons_append, List.nil_append, List.length_cons, List.length_nil, gf_eq hT, nI_ge hk (by omega), cvk_2 hT o, hA, oV, amxP, m, z, nI_1]
        · simp [jX7_mostCoin, bX7_mostCoin_0, bX7_mostCoin_1, i_aload, i_getf, i_icge, i_iinc, i_iload, i_ireturn, i_istore, i_jmp, i_max, i_push, msk, lset1, lset2, clr, Value.category, Option.toList, List.cons_append, List.nil_append, List.length_cons, List.length_nil, gf_eq hT, nI_ge hk (by omega), cvk_2 hT o, hA, oV, amxP, m, z, nI_1])
    (fun f => by
      simp [jX7_mostCoin, bX7_mostCoin_0, bX7_mostCoin_1, i_aload, i_getf, i_icge, i_iinc, i_iload, i_ireturn, i_istore, i_jmp, i_max, i_push, msk, lset1, lset2, clr, Value.category, Option.toList, List.cons_append, List.nil_append, List.length_cons, List.length_nil, gf_eq hT])
  obtain ⟨N, hN⟩ : ∃ N, g.1 = N + 1 := ⟨g.1 - 1, by omega⟩
  rw [← L N (by omega)]
  simp [fX7_mostCoin, kX7_mostCoin, ent, entp, jX7_mostCoin, bX7_mostCoin_0, bX7_mostCoin_1, i_aload, i_getf, i_icge, i_iinc, i_iload, i_ireturn, i_istore, i_jmp, i_max, i_push, msk, lset1, lset2, clr, Value.category, Option.toList, List.cons_append, List.nil_append, List.length_cons, List.length_nil, hN, nI_0, amxP, oV]
theorem bestFor_sp {g : GE} (hg : FU g) {w : Mem} {tb E D aM aS aG n1 lev : Nat} {δ : DE} (hd : WF δ) (hD : DEED g w D δ) (hG : GT g w tb E D δ (δ.1 6) aM aS aG n1 lev) {h : Nat} (hh : h < 4) : fX7_bestFor g [.ref tb, .int (nI h)] w = some (.inl (some (.int (oI (bstR δ h)))), w) := by
  have hT := hG.tb
  have hn := nR_le hd
  obtain ⟨b1, b2, b3, b4, b5, b6, b7, b8⟩ := id hd.1
  have L := lpF (fun f (s : Lv × Mem) => jX7_bestFor g f 1 [] s.1 s.2) (fun k => ([some (.ref tb), some (.int (nI h)), some (.int (oI (amxP tru (fun i => wtR δ i h) k))), some (.int (oV (fun i => wtR δ i h) (amxP tru (fun i => wtR δ i h) k))), some (.int (nI k)), none], w)) (some (.inl (some (.int (oI (bstR δ h)))), w)) 2 1 (nR δ)
    (fun k hk f => by
      refine ⟨f, Nat.le_refl _, ?_⟩
      have o := worthOf_sp hg hd hD hG hk hh
      have lk := wtR_le hd k h
      cases hA : amxP tru (fun i => wtR δ i h) k with
      | none =>
        have nn : ¬ nI (wtR δ k h) ≤ -1 := Int32.not_le.mpr (Int32.lt_of_lt_of_le (by decide) (nI_pos' (by omega)))
        simp [jX7_bestFor, bX7_bestFor_0, bX7_bestFor_1, bX7_bestFor_2, i_aload, i_getf, i_icge, i_icle, i_iinc, i_iload, i_ireturn, i_istore, i_jmp, i_push, msk, lset1, lset2, clr, Value.category, Option.toList, List.cons_append, List.nil_append, List.length_cons, List.length_nil, gf_eq hT, nI_ge hk (by omega), cvk_2 hT o, hA, oV, oI, amxP, nn, nI_1]
      | some j =>
        have lj := wtR_le hd j h
        by_cases z : wtR δ j h < wtR δ k h
        · have m := nI_ge z (by omega)
          simp [jX7_bestFor, bX7_bestFor_0, bX7_bestFor_1, bX7_bestFor_2, i_aload, i_getf, i_icge, i_icle, i_iinc, i_iload, i_ireturn, i_istore, i_jmp, i_push, msk, lset1, lset2, clr, Value.category, Option.toList, List.cons_append, List.nil_append, List.length_cons, List.length_nil, gf_eq hT, nI_ge hk (by omega), cvk_2 hT o, hA, oV, oI, amxP, m, z, nI_1]
        · have m := nI_le (Nat.le_of_not_lt z) (by omega)
          simp [jX7_bestFor, bX7_bestFor_0, bX7_bestFor_1, bX7_bestFor_2, i_aload, i_getf, i_icge, i_icle, i_iinc, i_iload, i_ireturn, i_istore, i_jmp, i_push, msk, lset1, lset2, clr, Value.category, Option.toList, List.cons_append, List.nil_append, List.length_cons, List.length_nil, gf_eq hT, nI_ge hk (by omega), cvk_2 hT o, hA, oV, oI, amxP, m, z, nI_1])
    (fun f => by
      simp [jX7_bestFor, bX7_bestFor_0, bX7_bestFor_1, bX7_bestFor_2, i_aload, i_getf, i_icge, i_icle, i_iinc, i_iload, i_ireturn, i_istore, i_jmp, i_push, msk, lset1, lset2, clr, Value.category, Option.toList, List.cons_append, List.nil_append, List.length_cons, List.length_nil, gf_eq hT, bstR])
  obtain ⟨N, hN⟩ : ∃ N, g.1 = N + 1 := ⟨g.1 - 1, by omega⟩
  rw [← L N (by omega)]
  simp [fX7_bestFor, kX7_bestFor, ent, entp, jX7_bestFor, bX7_bestFor_0, bX7_bestFor_1, bX7_bestFor_2, i_aload, i_getf, i_icge, i_icle, i_iinc, i_iload, i_ireturn, i_istore, i_jmp, i_push, msk, lset1, lset2, clr, Value.category, Option.toList, List.cons_append, List.nil_append, List.length_cons, List.length_nil, hN, nI_0, amxP, oV, oI]
theorem worstFor_sp {g : GE} (hg : FU g) {w : Mem} {tb E D aM aS aG n1 lev : Nat} {δ : DE} (hd : WF δ) (hD : DEED g w D δ) (hG : GT g w tb E D δ (δ.1 6) aM aS aG n1 lev) {h : Nat} (hh : h < 4) : fX7_worstFor g [.ref tb, .int (nI h)] w = some (.inl (some (.int (oI (wrsR δ h)))), w) := by
  have hT := hG.tb
  have hn := nR_le hd
  obtain ⟨b1, b2, b3, b4, b5, b6, b7, b8⟩ := id hd.1
  have L := lpF (fun f (s : Lv × Mem) => jX7_worstFor g f 1 [] s.1 s.2) (fun k => ([some (.ref tb), some (.int (nI h)), some (.int (oI (amnP tru (fun i => wtR δ i h) k))), some (.int (zV (fun i => wtR δ i h) (amnP tru (fun i => wtR δ i h) k))), some (.int (nI k)), none], w)) (some (.inl (some (.int (oI (wrsR δ h)))), w)) 3 1 (nR δ)
    (fun k hk f => by
      have o := worthOf_sp hg hd hD hG hk hh
      have lk := wtR_le hd k h
      cases hA : amnP tru (fun i => wtR δ i h) k with
      | none =>
        refine ⟨f, Nat.le_refl _, ?_⟩
        simp [jX7_worstFor, bX7_worstFor_0, bX7_worstFor_1, bX7_worstFor_2, bX7_worstFor_3, i_aload, i_getf, i_iceq, i_icge, i_iinc, i_iload, i_ireturn, i_istore, i_jmp, i_push, msk, lset1, lset2, clr, Value.category, Option.toList, List.cons_append, List.nil_append, List.length_cons, List.length_nil, gf_eq hT, nI_ge hk (by omega), cvk_2 hT o, hA, zV, oI, amnP, nI_1]
      | some j =>
        have lj := wtR_le hd j h
        have ljk := amnP_lt hA
        have nn := nI_nn (y := j) (by omega)
        by_cases z : wtR δ k h < wtR δ j h
        · refine ⟨f, Nat.le_refl _, ?_⟩
          have m := nI_ge z (by omega)
          simp [jX7_worstFor, bX7_worstFor_0, bX7_worstFor_1, bX7_worstFor_2, bX7_worstFor_3, i_aload, i_getf, i_iceq, i_icge, i_iinc, i_iload, i_ireturn, i_istore, i_jmp, i_push, msk, lset1, lset2, clr, Value.category, Option.toList, List.cons_append, List.nil_append, List.length_cons, List.length_nil, gf_eq hT, nI_ge hk (by omega), cvk_2 hT o, hA, zV, oI, amnP, nn, m, z, nI_1]
        · refine ⟨f + 1, by omega, ?_⟩
          have m := nI_le (Nat.le_of_not_lt z) (by omega)
          have ef : f + 3 = (f + 1) + 2 := rfl
          rw [ef]
          generalize f + 1 = F
          simp [jX7_worstFor, bX7_worstFor_0, bX7_worstFor_1, bX7_worstFor_2, bX7_worstFor_3, i_aload, i_getf, i_iceq, i_icge, i_iinc, i_iload, i_ireturn, i_istore, i_jmp, i_push, msk, lset1, lset2, clr, Value.category, Option.toList, List.cons_append, List.nil_append, List.length_cons, List.length_nil, gf_eq hT, nI_ge hk (by omega), cvk_2 hT o, hA, zV, oI, amnP, nn, m, z, nI_1])
    (fun f => by
      simp [jX7_worstFor, bX7_worstFor_0, bX7_worstFor_1, bX7_worstFor_2, bX7_worstFor_3, i_aload, i_getf, i_iceq, i_icge, i_iinc, i_iload, i_ireturn, i_istore, i_jmp, i_push, msk, lset1, lset2, clr, Value.category, Option.toList, List.cons_append, List.nil_append, List.length_cons, List.length_nil, gf_eq hT, wrsR])
  obtain ⟨N, hN⟩ : ∃ N, g.1 = N + 1 := ⟨g.1 - 1, by omega⟩
  rw [← L N (by omega)]
  simp [fX7_worstFor, kX7_worstFor, ent, entp, jX7_worstFor, bX7_worstFor_0, bX7_worstFor_1, bX7_worstFor_2, bX7_worstFor_3, i_aload, i_getf, i_iceq, i_icge, i_iinc, i_iload, i_ireturn, i_istore, i_jmp, i_push, msk, lset1, lset2, clr, Value.category, Option.toList, List.cons_append, List.nil_append, List.length_cons, List.length_nil, hN, nI_0, amnP, zV, oI]
def atK (δ : DE) : Nat → Nat
  | 0 => δ.1 4
  | t + 1 => atK δ t + if owR δ 0 t = 0 then 0 else δ.2 2 t
theorem atK_le {δ : DE} (hd : WF δ) : ∀ t, t ≤ δ.1 1 → atK δ t ≤ 999 + 99 * t
  | 0, _ => hd.1.2.2.2.2.1
  | t + 1, ht => by
    have ih := atK_le hd t (by omega)
    have := hd.2.2.2.2.2.2 t (by omega)
    unfold atK
    split <;> omega
theorem allThereIs_sp {g : GE} (hg : FU g) {w : Mem} {tb E D aM aS aG n1 lev : Nat} {δ : DE} (hd : WF δ) (hD : DEED g w D δ) (hG : GT g w tb E D δ (δ.1 6) aM aS aG n1 lev) (h0 : 0 < nR δ) : fX7_allThereIs g [.ref tb] w = some (.inl (some (.int (nI (atK δ (δ.1 1))))), w) := by
  have hT := hG.tb
  have hn := nR_le hd
  obtain ⟨b1, b2, b3, b4, b5, b6, b7, b8⟩ := id hd.1
  obtain ⟨d0, -, -, -, -, d5, -⟩ := id hD
  have L := lpF (fun f (s : Lv × Mem) => jX7_allThereIs g f 1 [] s.1 s.2) (fun k => ([some (.ref tb), some (.int (nI (atK δ k))), some (.int (nI k))], w)) (some (.inl (some (.int (nI (atK δ (δ.1 1))))), w)) 2 1 (δ.1 1)
    (fun k hk f => by
      refine ⟨f, Nat.le_refl _, ?_⟩
      have o := ownerOf_sp hd hG h0 (t := k) (by omega)
      rw [nI_0] at o
      have lo := owR_le hd 0 k
      have m := nI_m1 (y := owR δ 0 k) (by omega)
      by_cases z : owR δ 0 k = 0
      · simp [jX7_allThereIs, bX7_allThereIs_0, bX7_allThereIs_1, bX7_allThereIs_2, i_aload, i_getf, i_iadd, i_iaload, i_iceq, i_icge, i_iinc, i_iload, i_ireturn, i_istore, i_jmp, i_push, msk, lset1, lset2, clr, Value.category, Option.toList, List.cons_append, List.nil_append, List.length_cons, List.length_nil, gf_eq hT, gf_eq hD.1, nI_ge hk (by omega), cvk_2 hT o, m.mpr z, atK, z, nI_1, nI_0]
      · simp [jX7_allThereIs, bX7_allThereIs_0, bX7_allThereIs_1, bX7_allThereIs_2, i_aload, i_getf, i_iadd, i_iaload, i_iceq, i_icge, i_iinc, i_iload, i_ireturn, i_istore, i_jmp, i_push, msk, lset1, lset2, clr, Value.category, Option.toList, List.cons_append, List.nil_append, List.length_cons, List.length_nil, gf_eq hT, gf_eq hD.1, nI_ge hk (by omega), cvk_2 hT o, mt m.mp z, atK, z, d5.rd (j := k) (by omega) (by decide), nI_add, nI_1])
    (fun f => by
      simp [jX7_allThereIs, bX7_allThereIs_0, bX7_allThereIs_1, bX7_allThereIs_2, i_aload, i_getf, i_iadd, i_iaload, i_iceq, i_icge, i_iinc, i_iload, i_ireturn, i_istore, i_jmp, i_push, msk, lset1, lset2, clr, Value.category, Option.toList, List.cons_append, List.nil_append, List.length_cons, List.length_nil, gf_eq hT, gf_eq d0])
  obtain ⟨N, hN⟩ : ∃ N, g.1 = N + 1 := ⟨g.1 - 1, by omega⟩
  rw [← L N (by omega)]
  simp [fX7_allThereIs, kX7_allThereIs, ent, entp, jX7_allThereIs, bX7_allThereIs_0, bX7_allThereIs_1, bX7_allThereIs_2, i_aload, i_getf, i_iadd, i_iaload, i_iceq, i_icge, i_iinc, i_iload, i_ireturn, i_istore, i_jmp, i_push, msk, lset1, lset2, clr, Value.category, Option.toList, List.cons_append, List.nil_append, List.length_cons, List.length_nil, hN, nI_0, gf_eq hT, gf_eq d0, atK]
def coinO (δ : DE) (x0 x1 : Int32) : OUT := 
  match rng x0 (δ.1 0) with
  | none => .inr (1, 0)
  | some n0 =>
    match rng x1 (1 + 1) with
    | none => .inr (2, 2)
    | some n1 =>
      .inl (.int (if n1 = 0 then oV (fun i => cnR δ i n0) (amnP tru (fun i => cnR δ i n0) (nR δ)) else oV (fun i => cnR δ i n0) (amxP tru (fun i => cnR δ i n0) (nR δ))))
theorem coin_c {g : GE} {w : Mem} {B E fed kept : Nat} {fp : Int32} {tp : Nat → Int32} {rf : Nat → Nat} {δ : DE} {τ : TE} {im : Nat → TE} {lev nG : Nat} (hg : GD g) (hE : B + 132 ≤ E) (hI : CI g w B E fed kept fp tp rf δ τ im lev nG) (x0 x1 : Int32) : CQ g w B E fed kept fp tp rf δ τ im lev nG (fX10_coin g [.ref B, .int x0, .int x1] w) (coinO δ x0 x1) := by
  have hg1 := hg.1
  obtain ⟨D, D', hCC, hCT, hCN, hCL, hCM⟩ := id hI
  obtain ⟨hDD, hB, hTp, hD, hD', hSc, hr, hd, hfd, hkp⟩ := id hCC
  obtain ⟨aM, aS, aG, n1', hG, hX⟩ := id hCT
  obtain ⟨b1, b2, b3, b4, b5, b6, b7, b8⟩ := id hd.1
  have hT := hG.tb
  have hn := nR_le hd
  obtain ⟨N, hN⟩ : ∃ N, g.1 = N + 12 := ⟨g.1 - 12, by omega⟩
  unfold coinO
  have q0 := needHeir_sp hg1 hB hr hD b1 x0
  cases h0 : rng x0 (δ.1 0) with
  | none =>
    rw [h0] at q0
    simp only [tst, Option.isSome, Bool.false_eq_true, if_false] at q0
    refine CQ.no hE hI ?_
    simp [fX10_coin, kX10_coin, ent, entp, jX10_coin, bX10_coin_0, bX10_coin_1, i_aload, i_getf, i_ifne, i_iload, i_ireturn, i_jmp, i_push, msk, lset1, lset2, clr, Value.category, Option.toList, List.cons_append, List.nil_append, List.length_cons, List.length_nil, hN, cxe_1 hB q0]
  | some n0 =>
    rw [h0] at q0
    simp only [tst, Option.isSome, if_true] at q0
    obtain ⟨l0, e0⟩ := rng_some (by omega) h0
    subst e0
    have q1 := needWhat_sp hg1 hB hr x1 (n := 1) (y := 1) rfl (by decide)
    cases h1 : rng x1 (1 + 1) with
    | none =>
      rw [h1] at q1
      simp only [tst, Option.isSome, Bool.false_eq_true, if_false] at q1
      refine CQ.no hE hI ?_
      simp [fX10_coin, kX10_coin, ent, entp, jX10_coin, bX10_coin_0, bX10_coin_1, i_aload, i_getf, i_ifne, i_iload, i_ireturn, i_jmp, i_push, msk, lset1, lset2, clr, Value.category, Option.toList, List.cons_append, List.nil_append, List.length_cons, List.length_nil, hN, cxk_1 hB q0, cxe_2 hB q1]
    | some n1 =>
      rw [h1] at q1
      simp only [tst, Option.isSome, if_true] at q1
      obtain ⟨l1, e1⟩ := rng_some (by omega) h1
      subst e1
      refine CQ.ok hI ?_
      have q8 := leastCoin_sp hg1 hd hG (h := n0) (by omega)
      have q9 := mostCoin_sp hg1 hd hG (h := n0) (by omega)
      have : n1 = 0 ∨ n1 = 1 := by omega
      rcases this with z | z <;> subst z
      · rw [nI_0] at q1
        simp [fX10_coin, kX10_coin, ent, entp, jX10_coin, bX10_coin_0, bX10_coin_1, i_aload, i_getf, i_ifne, i_iload, i_ireturn, i_jmp, i_push, msk, lset1, lset2, clr, Value.category, Option.toList, List.cons_append, List.nil_append, List.length_cons, List.length_nil, hN, cxk_1 hB q0, cxk_2 hB q1, gf_eq hB, nI_0, cvk_1 hT q8]
      · simp [fX10_coin, kX10_coin, ent, entp, jX10_coin, bX10_coin_0, bX10_coin_1, i_aload, i_getf, i_ifne, i_iload, i_ireturn, i_jmp, i_push, msk, lset1, lset2, clr, Value.category, Option.toList, List.cons_append, List.nil_append, List.length_cons, List.length_nil, hN, cxk_1 hB q0, cxk_2 hB q1, gf_eq hB, (show ¬ nI 1 = 0 from by decide), cvk_1 hT q9]
theorem coin_lp {g : GE} (hg : FU g) {w : Mem} {M : Nat} {x : Nat → Int32} {δ : DE} (hd : WF δ) (hO : MO w M x) (hx : x 27 = nI (nR δ)) (hR : RT w M δ (δ.1 6)) {h wh : Nat} (hh : h < 4) (hw : wh = 0 ∨ wh = 1) : ∀ F, 3 * nR δ + 1 ≤ F → jX11_coin g F 4 [] [some (.ref M), some (.int (nI h)), some (.int (nI wh)), some (.int (-1)), some (.int 0), none] w = some (.inl (some (.int (if wh = 0 then oV (fun i => cnR δ i h) (amnP tru (fun i => cnR δ i h) (nR δ)) else oV (fun i => cnR δ i h) (amxP tru (fun i => cnR δ i h) (nR δ))))), w) := by
  have hn := nR_le hd
  rcases hw with q | q <;> subst q
  · have L := lpF (fun f (s : Lv × Mem) => jX11_coin g f 4 [] s.1 s.2) (fun k => ([some (.ref M), some (.int (nI h)), some (.int (nI 0)), some (.int (oV (fun i => cnR δ i h) (amnP tru (fun i => cnR δ i h) k))), some (.int (nI k)), none], w)) (some (.inl (some (.int (oV (fun i => cnR δ i h) (amnP tru (fun i => cnR δ i h) (nR δ))))), w)) 3 1 (nR δ)
      (fun k hk f => by
        refine ⟨f, Nat.le_refl _, ?_⟩
        have o := rcoinBy_sp (g := g) hd hO hR hk hh
        cases hA : amnP tru (fun i => cnR δ i h) k with
        | none => simp [jX11_coin, bX11_coin_0, bX11_coin_1, bX11_coin_2, bX11_coin_3, bX11_coin_4, bX11_coin_5, bX11_coin_6, bX11_coin_7, i_aload, i_getf, i_iceq, i_icge, i_icle, i_ifeq, i_ifne, i_iinc, i_iload, i_ireturn, i_istore, i_jmp, i_push, i_putf, msk, lset1, lset2, clr, Value.category, Option.toList, List.cons_append, List.nil_append, List.length_cons, List.length_nil, gf_eq hO, mg_27, hx, nI_ge hk (by omega), cvk_2 hO o, hA, oV, amnP, nI_1]
        | some j =>
          have lj := cnR_le hd j h
          have lk := cnR_le hd k h
          have nn := nI_nn (y := cnR δ j h) (by omega)
          by_cases z : cnR δ k h < cnR δ j h
          · have m := nI_ge z (by omega)
            simp [jX11_coin, bX11_coin_0, bX11_coin_1, bX11_coin_2, bX11_coin_3, bX11_coin_4, bX11_coin_5, bX11_coin_6, bX11_coin_7, i_aload, i_getf, i_iceq, i_icge, i_icle, i_ifeq, i_ifne, i_iinc, i_iload, i_ireturn, i_istore, i_jmp, i_push, i_putf, msk, lset1, lset2, clr, Value.category, Option.toList, List.cons_append, List.nil_append, List.length_cons, List.length_nil, gf_eq hO, mg_27, hx, nI_ge hk (by omega), cvk_2 hO o, hA, oV, amnP, nn, (show nI 0 = 0 from nI_0), m, z, nI_1]
          · have m := nI_le (Nat.le_of_not_lt z) (by omega)
            simp [jX11_coin, bX11_coin_0, bX11_coin_1, bX11_coin_2, bX11_coin_3, bX11_coin_4, bX11_coin_5, bX11_coin_6, bX11_coin_7, i_aload, i_getf, i_iceq, i_icge, i_icle, i_ifeq, i_ifne, i_iinc, i_iload, i_ireturn, i_istore, i_jmp, i_push, i_putf, msk, lset1, lset2, clr, Value.category, Option.toList, List.cons_append, List.nil_append, List.length_cons, List.length_nil, gf_eq hO, mg_27, hx, nI_ge hk (by omega), cvk_2 hO o, hA, oV, amnP, nn, (show nI 0 = 0 from nI_0), m, z, nI_1])
      (fun f => by
        simp [jX11_coin, bX11_coin_0, bX11_coin_1, bX11_coin_2, bX11_coin_3, bX11_coin_4, bX11_coin_5, bX11_coin_6, bX11_coin_7, i_aload, i_getf, i_iceq, i_icge, i_icle, i_ifeq, i_ifne, i_iinc, i_iload, i_ireturn, i_istore, i_jmp, i_push, i_putf, msk, lset1, lset2, clr, Value.category, Option.toList, List.cons_append, List.nil_append, List.length_cons, List.length_nil, gf_eq hO, mg_27, hx])
    intro F hF
    exact L F hF
  · have L := lpF (fun f (s : Lv × Mem) => jX11_coin g f 4 [] s.1 s.2) (fun k => ([some (.ref M), some (.int (nI h)), some (.int (nI 1)), some (.int (oV (fun i => cnR δ i h) (amxP tru (fun i => cnR δ i h) k))), some (.int (nI k)), none], w)) (some (.inl (some (.int (oV (fun i => cnR δ i h) (amxP tru (fun i => cnR δ i h) (nR δ))))), w)) 3 1 (nR δ)
      (fun k hk f => by
        refine ⟨f, Nat.le_refl _, ?_⟩
        have o := rcoinBy_sp (g := g) hd hO hR hk hh
        have n1 : ¬ nI 1 = 0 := by decide
        cases hA : amxP tru (fun i => cnR δ i h) k with
        | none => simp [jX11_coin, bX11_coin_0, bX11_coin_1, bX11_coin_2, bX11_coin_3, bX11_coin_4, bX11_coin_5, bX11_coin_6, bX11_coin_7, i_aload, i_getf, i_iceq, i_icge, i_icle, i_ifeq, i_ifne, i_iinc, i_iload, i_ireturn, i_istore, i_jmp, i_push, i_putf, msk, lset1, lset2, clr, Value.category, Option.toList, List.cons_append, List.nil_append, List.length_cons, List.length_nil, gf_eq hO, mg_27, hx, nI_ge hk (by omega), cvk_2 hO o, hA, oV, amxP, nI_1]
        | some j =>
          have lj := cnR_le hd j h
          have lk := cnR_le hd k h
          have nn := nI_nn (y := cnR δ j h) (by omega)
          by_cases z : cnR δ j h < cnR δ k h
          · have m := nI_ge z (by omega)
            simp [jX11_coin, bX11_coin_0, bX11_coin_1, bX11_coin_2, bX11_coin_3, bX11_coin_4, bX11_coin_5, bX11_coin_6, bX11_coin_7, i_aload, i_getf, i_iceq, i_icge, i_icle, i_ifeq, i_ifne, i_iinc, i_iload, i_ireturn, i_istore, i_jmp, i_push, i_putf, msk, lset1, lset2, clr, Value.category, Option.toList, List.cons_append, List.nil_append, List.length_cons, List.length_nil, gf_eq hO, mg_27, hx, nI_ge hk (by omega), cvk_2 hO o, hA, oV, amxP, nn, n1, m, z, nI_1]
          · have m := nI_le (Nat.le_of_not_lt z) (by omega)
            simp [jX11_coin, bX11_coin_0, bX11_coin_1, bX11_coin_2, bX11_coin_3, bX11_coin_4, bX11_coin_5, bX11_coin_6, bX11_coin_7, i_aload, i_getf, i_iceq, i_icge, i_icle, i_ifeq, i_ifne, i_iinc, i_iload, i_ireturn, i_istore, i_jmp, i_push, i_putf, msk, lset1, lset2, clr, Value.category, Option.toList, List.cons_append, List.nil_append, List.length_cons, List.length_nil, gf_eq hO, mg_27, hx, nI_ge hk (by omega), cvk_2 hO o, hA, oV, amxP, nn, n1, m, z, nI_1])
      (fun f => by
        simp [jX11_coin, bX11_coin_0, bX11_coin_1, bX11_coin_2, bX11_coin_3, bX11_coin_4, bX11_coin_5, bX11_coin_6, bX11_coin_7, i_aload, i_getf, i_iceq, i_icge, i_icle, i_ifeq, i_ifne, i_iinc, i_iload, i_ireturn, i_istore, i_jmp, i_push, i_putf, msk, lset1, lset2, clr, Value.category, Option.toList, List.cons_append, List.nil_append, List.length_cons, List.length_nil, gf_eq hO, mg_27, hx])
    intro F hF
    exact L F hF
theorem coin_r {g : GE} {w : Mem} {M fed kept : Nat} {fp : Int32} {tp : Nat → Int32} {rf : Nat → Nat} {δ : DE} {τ : TE} {im : Nat → TE} {x : Nat → Int32} (hg : FU g) (hd : WF δ) (hI : RI w M fed kept fp tp rf δ τ im x) (x0 x1 : Int32) : RQo w M fed kept fp tp rf δ τ im (fX11_coin g [.ref M, .int x0, .int x1] w) (coinO δ x0 x1) := by
  obtain ⟨w0, hw0, I0, F0⟩ := hI.t0
  obtain ⟨b1, b2, b3, b4, b5, b6, b7, b8⟩ := id hd.1
  obtain ⟨hO, hXO, hRK, hRZ, hrf⟩ := id I0
  obtain ⟨x1', x3', x27, x32, x33, x34⟩ := id hXO
  obtain ⟨hTp, hD, hR, hCp, hHb, hKp, hRP⟩ := id hRK
  have hn := nR_le hd
  have x0' : (va_up x 0 0) 0 = 0 := va_up_self _ _ _
  obtain ⟨N, hN⟩ : ∃ N, g.1 = N + 16 := ⟨g.1 - 16, by omega⟩
  unfold coinO
  have q0 := isHeir_sp hg hO hD b1 x0
  cases h0 : rng x0 (δ.1 0) with
  | none =>
    rw [h0] at q0
    simp only [bI, Option.isSome, Bool.false_eq_true, if_false] at q0
    obtain ⟨w1, p1, p2, p3⟩ := bad1_sp hg I0 x0' (c := 1) (r := 0) (C := 1) (R := 0) rfl rfl (by decide) (by decide)
    refine RQo.no (v := .int 0) F0 p2 ?_ p3
    simp [fX11_coin, kX11_coin, ent, entp, jX11_coin, bX11_coin_0, bX11_coin_1, bX11_coin_2, bX11_coin_3, bX11_coin_4, bX11_coin_5, bX11_coin_6, bX11_coin_7, i_aload, i_getf, i_iceq, i_icge, i_icle, i_ifeq, i_ifne, i_iinc, i_iload, i_ireturn, i_istore, i_jmp, i_push, i_putf, msk, lset1, lset2, clr, Value.category, Option.toList, List.cons_append, List.nil_append, List.length_cons, List.length_nil, hN, st_0 hI.1, hw0, cvk_1 hO q0, cvk_3 hO p1]
  | some n0 =>
    rw [h0] at q0
    simp only [bI, Option.isSome, if_true] at q0
    obtain ⟨l0, e0⟩ := rng_some (by omega) h0
    subst e0
    have q1 := in_sp (w := w0) hg x1 (n := 1 + 1) (y := 1) (by decide) (by decide)
    cases h1 : rng x1 (1 + 1) with
    | none =>
      rw [h1] at q1
      simp only [bI, Option.isSome, Bool.false_eq_true, if_false] at q1
      obtain ⟨w1, p1, p2, p3⟩ := bad1_sp hg I0 x0' (c := 2) (r := 2) (C := 2) (R := 2) rfl rfl (by decide) (by decide)
      refine RQo.no (v := .int 0) F0 p2 ?_ p3
      simp [fX11_coin, kX11_coin, ent, entp, jX11_coin, bX11_coin_0, bX11_coin_1, bX11_coin_2, bX11_coin_3, bX11_coin_4, bX11_coin_5, bX11_coin_6, bX11_coin_7, i_aload, i_getf, i_iceq, i_icge, i_icle, i_ifeq, i_ifne, i_iinc, i_iload, i_ireturn, i_istore, i_jmp, i_push, i_putf, msk, lset1, lset2, clr, Value.category, Option.toList, List.cons_append, List.nil_append, List.length_cons, List.length_nil, hN, st_0 hI.1, hw0, cvk_1 hO q0, cvk_3 hO (bad0_sp hg hO x0' 1 0), csk_3 q1, cvk_3 hO p1]
    | some n1 =>
      rw [h1] at q1
      simp only [bI, Option.isSome, if_true] at q1
      obtain ⟨l1, e1⟩ := rng_some (by omega) h1
      subst e1
      obtain ⟨N2, hN2⟩ : ∃ N, g.1 = N + 3 := ⟨g.1 - 3, by omega⟩
      refine RQo.ok F0 I0 x0' ?_ (Fr.rf _ _)
      have q9 := coin_lp hg hd hO x27 hR (h := n0) (wh := n1) (by omega) (by omega) N2 (by omega)
      rw [← q9]
      simp [fX11_coin, kX11_coin, ent, entp, jX11_coin, bX11_coin_0, bX11_coin_1, bX11_coin_2, bX11_coin_3, bX11_coin_4, bX11_coin_5, bX11_coin_6, bX11_coin_7, i_aload, i_getf, i_iceq, i_icge, i_icle, i_ifeq, i_ifne, i_iinc, i_iload, i_ireturn, i_istore, i_jmp, i_push, i_putf, msk, lset1, lset2, clr, Value.category, Option.toList, List.cons_append, List.nil_append, List.length_cons, List.length_nil, hN2, st_0 hI.1, hw0, cvk_1 hO q0, cvk_3 hO (bad0_sp hg hO x0' 1 0), csk_3 q1, cvk_3 hO (bad0_sp hg hO x0' 2 2)]
theorem worthAt_sp {g : GE} (hg : FU g) {w : Mem} {M : Nat} {x : Nat → Int32} {δ : DE} (hd : WF δ) (hO : MO w M x) (hx : x 27 = nI (nR δ)) (hD : RD w M δ) (hR : RT w M δ (δ.1 6)) {h wh : Nat} (hh : h < 4) (hw : wh = 0 ∨ wh = 1) : fX11_worthAt g [.ref M, .int (nI h), .int (nI wh)] w = some (.inl (some (.int (oI (if wh = 0 then bstR δ h else wrsR δ h)))), w) := by
  have hn := nR_le hd
  obtain ⟨N, hN⟩ : ∃ N, g.1 = N + 1 := ⟨g.1 - 1, by omega⟩
  rcases hw with q | q <;> subst q
  · have L := lpF (fun f (s : Lv × Mem) => jX11_worthAt g f 1 [] s.1 s.2) (fun k => ([some (.ref M), some (.int (nI h)), some (.int (nI 0)), some (.int (oI (amxP tru (fun i => wtR δ i h) k))), some (.int (nI k))], w)) (some (.inl (some (.int (oI (amxP tru (fun i => wtR δ i h) (nR δ))))), w)) 3 1 (nR δ)
      (fun k hk f => by
        have o := rworthBy_sp hg hd hO hD hR hk hh
        cases hA : amxP tru (fun i => wtR δ i h) k with
        | none =>
          refine ⟨f, Nat.le_refl _, ?_⟩
          simp [jX11_worthAt, bX11_worthAt_0, bX11_worthAt_1, bX11_worthAt_2, bX11_worthAt_3, i_aload, i_getf, i_iceq, i_icge, i_icle, i_ifne, i_iinc, i_iload, i_ireturn, i_istore, i_jmp, i_push, msk, lset1, lset2, clr, Value.category, Option.toList, List.cons_append, List.nil_append, List.length_cons, List.length_nil, gf_eq hO, mg_27, hx, nI_ge hk (by omega), hA, oI, amxP, nI_1]
        | some j =>
          have ljk := amxP_lt hA
          have o2 := rworthBy_sp hg hd hO hD hR (i := j) (by omega) hh
          have lj := wtR_le hd j h
          have lk := wtR_le hd k h
          have nn := nI_nn (y := j) (by omega)
          by_cases z : wtR δ j h < wtR δ k h
          · refine ⟨f, Nat.le_refl _, ?_⟩
            have m := nI_ge z (by omega)
            simp [jX11_worthAt, bX11_worthAt_0, bX11_worthAt_1, bX11_worthAt_2, bX11_worthAt_3, i_aload, i_getf, i_iceq, i_icge, i_icle, i_ifne, i_iinc, i_iload, i_ireturn, i_istore, i_jmp, i_push, msk, lset1, lset2, clr, Value.category, Option.toList, List.cons_append, List.nil_append, List.length_cons, List.length_nil, gf_eq hO, mg_27, hx, nI_ge hk (by omega), cvk_2 hO o, cvk_2 hO o2, hA, oI, amxP, nn, (show nI 0 = 0 from nI_0), m, z, nI_1]
          · refine ⟨f + 1, by omega, ?_⟩
            have m := nI_le (Nat.le_of_not_lt z) (by omega)
            have ef : f + 3 = (f + 1) + 2 := rfl
            rw [ef]
            generalize f + 1 = F
            simp [jX11_worthAt, bX11_worthAt_0, bX11_worthAt_1, bX11_worthAt_2, bX11_worthAt_3, i_aload, i_getf, i_iceq, i_icge, i_icle, i_ifne, i_iinc, i_iload, i_ireturn, i_istore, i_jmp, i_push, msk, lset1, lset2, clr, Value.category, Option.toList, List.cons_append, List.nil_append, List.length_cons, List.length_nil, gf_eq hO, mg_27, hx, nI_ge hk (by omega), cvk_2 hO o, cvk_2 hO o2, hA, oI, amxP, nn, (show nI 0 = 0 from nI_0), m, z, nI_1])
      (fun f => by
        simp [jX11_worthAt, bX11_worthAt_0, bX11_worthAt_1, bX11_worthAt_2, bX11_worthAt_3, i_aload, i_getf, i_iceq, i_icge, i_icle, i_ifne, i_iinc, i_iload, i_ireturn, i_istore, i_jmp, i_push, msk, lset1, lset2, clr, Value.category, Option.toList, List.cons_append, List.nil_append, List.length_cons, List.length_nil, gf_eq hO, mg_27, hx])
    have L1 := L N (by omega)
    simp only [if_true, bstR]
    rw [← L1]
    simp [fX11_worthAt, kX11_worthAt, ent, entp, jX11_worthAt, bX11_worthAt_0, bX11_worthAt_1, bX11_worthAt_2, bX11_worthAt_3, i_aload, i_getf, i_iceq, i_icge, i_icle, i_ifne, i_iinc, i_iload, i_ireturn, i_istore, i_jmp, i_push, msk, lset1, lset2, clr, Value.category, Option.toList, List.cons_append, List.nil_append, List.length_cons, List.length_nil, hN, nI_0, amxP, oI]
  · have L := lpF (fun f (s : Lv × Mem) => jX11_worthAt g f 1 [] s.1 s.2) (fun k => ([some (.ref M), some (.int (nI h)), some (.int (nI 1)), some (.int (oI (amnP tru (fun i => wtR δ i h) k))), some (.int (nI k))], w)) (some (.inl (some (.int (oI (amnP tru (fun i => wtR δ i h) (nR δ))))), w)) 3 1 (nR δ)
      (fun k hk f => by
        have o := rworthBy_sp hg hd hO hD hR hk hh
        have n1 : ¬ nI 1 = 0 := by decide
        cases hA : amnP tru (fun i => wtR δ i h) k with
        | none =>
          refine ⟨f, Nat.le_refl _, ?_⟩
          simp [jX11_worthAt, bX11_worthAt_0, bX11_worthAt_1, bX11_worthAt_2, bX11_worthAt_3, i_aload, i_getf, i_iceq, i_icge, i_icle, i_ifne, i_iinc, i_iload, i_ireturn, i_istore, i_jmp, i_push, msk, lset1, lset2, clr, Value.category, Option.toList, List.cons_append, List.nil_append, List.length_cons, List.length_nil, gf_eq hO, mg_27, hx, nI_ge hk (by omega), hA, oI, amnP, nI_1]
        | some j =>
          have ljk := amnP_lt hA
          have o2 := rworthBy_sp hg hd hO hD hR (i := j) (by omega) hh
          have lj := wtR_le hd j h
          have lk := wtR_le hd k h
          have nn := nI_nn (y := j) (by omega)
          by_cases z : wtR δ k h < wtR δ j h
          · refine ⟨f, Nat.le_refl _, ?_⟩
            have m := nI_ge z (by omega)
            simp [jX11_worthAt, bX11_worthAt_0, bX11_worthAt_1, bX11_worthAt_2, bX11_worthAt_3, i_aload, i_getf, i_iceq, i_icge, i_icle, i_ifne, i_iinc, i_iload, i_ireturn, i_istore, i_jmp, i_push, msk, lset1, lset2, clr, Value.category, Option.toList, List.cons_append, List.nil_append, List.length_cons, List.length_nil, gf_eq hO, mg_27, hx, nI_ge hk (by omega), cvk_2 hO o, cvk_2 hO o2, hA, oI, amnP, nn, n1, m, z, nI_1]
          · refine ⟨f + 1, by omega, ?_⟩
            have m := nI_le (Nat.le_of_not_lt z) (by omega)
            have ef : f + 3 = (f + 1) + 2 := rfl
            rw [ef]
            generalize f + 1 = F
            simp [jX11_worthAt, bX11_worthAt_0, bX11_worthAt_1, bX11_worthAt_2, bX11_worthAt_3, i_aload, i_getf, i_iceq, i_icge, i_icle, i_ifne, i_iinc, i_iload, i_ireturn, i_istore, i_jmp, i_push, msk, lset1, lset2, clr, Value.category, Option.toList, List.cons_append, List.nil_append, List.length_cons, List.length_nil, gf_eq hO, mg_27, hx, nI_ge hk (by omega), cvk_2 hO o, cvk_2 hO o2, hA, oI, amnP, nn, n1, m, z, nI_1])
      (fun f => by
        simp [jX11_worthAt, bX11_worthAt_0, bX11_worthAt_1, bX11_worthAt_2, bX11_worthAt_3, i_aload, i_getf, i_iceq, i_icge, i_icle, i_ifne, i_iinc, i_iload, i_ireturn, i_istore, i_jmp, i_push, msk, lset1, lset2, clr, Value.category, Option.toList, List.cons_append, List.nil_append, List.length_cons, List.length_nil, gf_eq hO, mg_27, hx])
    have L1 := L N (by omega)
    simp only [Nat.one_ne_zero, if_false, wrsR]
    rw [← L1]
    simp [fX11_worthAt, kX11_worthAt, ent, entp, jX11_worthAt, bX11_worthAt_0, bX11_worthAt_1, bX11_worthAt_2, bX11_worthAt_3, i_aload, i_getf, i_iceq, i_icge, i_icle, i_ifne, i_iinc, i_iload, i_ireturn, i_istore, i_jmp, i_push, msk, lset1, lset2, clr, Value.category, Option.toList, List.cons_append, List.nil_append, List.length_cons, List.length_nil, hN, nI_0, amnP, oI]
def worthO (δ : DE) (x0 x1 : Int32) : OUT := 
  match rng x0 (δ.1 0) with
  | none => .inr (1, 0)
  | some n0 =>
    match rng x1 (3 + 1) with
    | none => .inr (2, 2)
    | some n1 =>
      .inl (.int (if n1 < 2 then oV (fun i => wtR δ i n0) (if n1 % 2 = 0 then bstR δ n0 else wrsR δ n0) else oI (if n1 % 2 = 0 then bstR δ n0 else wrsR δ n0)))
theorem worth_c {g : GE} {w : Mem} {B E fed kept : Nat} {fp : Int32} {tp : Nat → Int32} {rf : Nat → Nat} {δ : DE} {τ : TE} {im : Nat → TE} {lev nG : Nat} (hg : GD g) (hE : B + 132 ≤ E) (hI : CI g w B E fed kept fp tp rf δ τ im lev nG) (x0 x1 : Int32) : CQ g w B E fed kept fp tp rf δ τ im lev nG (fX10_worth g [.ref B, .int x0, .int x1] w) (worthO δ x0 x1) := by
  have hg1 := hg.1
  obtain ⟨D, D', hCC, hCT, hCN, hCL, hCM⟩ := id hI
  obtain ⟨hDD, hB, hTp, hD, hD', hSc, hr, hd, hfd, hkp⟩ := id hCC
  obtain ⟨aM, aS, aG, n1', hG, hX⟩ := id hCT
  obtain ⟨b1, b2, b3, b4, b5, b6, b7, b8⟩ := id hd.1
  have hT := hG.tb
  have hn := nR_le hd
  obtain ⟨N, hN⟩ : ∃ N, g.1 = N + 12 := ⟨g.1 - 12, by omega⟩
  unfold worthO
  have q0 := needHeir_sp hg1 hB hr hD b1 x0
  cases h0 : rng x0 (δ.1 0) with
  | none =>
    rw [h0] at q0
    simp only [tst, Option.isSome, Bool.false_eq_true, if_false] at q0
    refine CQ.no hE hI ?_
    simp [fX10_worth, kX10_worth, ent, entp, jX10_worth, bX10_worth_0, bX10_worth_1, bX10_worth_2, bX10_worth_3, bX10_worth_4, i_aload, i_getf, i_iceq, i_icge, i_icne, i_ifeq, i_iload, i_ireturn, i_istore, i_jmp, i_push, msk, lset1, lset2, clr, Value.category, Option.toList, List.cons_append, List.nil_append, List.length_cons, List.length_nil, hN, cxe_1 hB q0]
  | some n0 =>
    rw [h0] at q0
    simp only [tst, Option.isSome, if_true] at q0
    obtain ⟨l0, e0⟩ := rng_some (by omega) h0
    subst e0
    have q1 := needWhat_sp hg1 hB hr x1 (n := 3) (y := 3) rfl (by decide)
    cases h1 : rng x1 (3 + 1) with
    | none =>
      rw [h1] at q1
      simp only [tst, Option.isSome, Bool.false_eq_true, if_false] at q1
      refine CQ.no hE hI ?_
      simp [fX10_worth, kX10_worth, ent, entp, jX10_worth, bX10_worth_0, bX10_worth_1, bX10_worth_2, bX10_worth_3, bX10_worth_4, i_aload, i_getf, i_iceq, i_icge, i_icne, i_ifeq, i_iload, i_ireturn, i_istore, i_jmp, i_push, msk, lset1, lset2, clr, Value.category, Option.toList, List.cons_append, List.nil_append, List.length_cons, List.length_nil, hN, cxk_1 hB q0, cxe_2 hB q1]
    | some n1 =>
      rw [h1] at q1
      simp only [tst, Option.isSome, if_true] at q1
      obtain ⟨l1, e1⟩ := rng_some (by omega) h1
      subst e1
      refine CQ.ok hI ?_
      have q8 := bestFor_sp hg1 hd hD hG (h := n0) (by omega)
      have q9 := worstFor_sp hg1 hd hD hG (h := n0) (by omega)
      have hb : ∀ j, bstR δ n0 = some j → fX7_worthOf g [.ref (B + 73), .int (nI j), .int (nI n0)] w = some (.inl (some (.int (nI (wtR δ j n0)))), w) := fun j hj => worthOf_sp hg1 hd hD hG (amxP_lt hj) (by omega)
      have hw : ∀ j, wrsR δ n0 = some j → fX7_worthOf g [.ref (B + 73), .int (nI j), .int (nI n0)] w = some (.inl (some (.int (nI (wtR δ j n0)))), w) := fun j hj => worthOf_sp hg1 hd hD hG (amnP_lt hj) (by omega)
      have c0 : ¬ (2 : Int32) ≤ nI 0 := by decide
      have c1 : ¬ (2 : Int32) ≤ nI 1 := by decide
      have c2 : (2 : Int32) ≤ nI 2 := by decide
      have c3 : (2 : Int32) ≤ nI 3 := by decide
      have a1 : ¬ nI 1 = 0 := by decide
      have a2 : ¬ nI 2 = 0 := by decide
      have a3 : ¬ nI 3 = 0 := by decide
      have d1 : ¬ nI 1 = 2 := by decide
      have d2 : nI 2 = 2 := rfl
      have d3 : ¬ nI 3 = 2 := by decide
      have : n1 = 0 ∨ n1 = 1 ∨ n1 = 2 ∨ n1 = 3 := by omega
      rcases this with z | z | z | z <;> subst z
      · rw [nI_0] at q1 c0
        cases hj : bstR δ n0 with
        | none =>
          rw [hj] at q8
          simp [fX10_worth, kX10_worth, ent, entp, jX10_worth, bX10_worth_0, bX10_worth_1, bX10_worth_2, bX10_worth_3, bX10_worth_4, i_aload, i_getf, i_iceq, i_icge, i_icne, i_ifeq, i_iload, i_ireturn, i_istore, i_jmp, i_push, msk, lset1, lset2, clr, Value.category, Option.toList, List.cons_append, List.nil_append, List.length_cons, List.length_nil, hN, cxk_1 hB q0, cxk_2 hB q1, gf_eq hB, nI_0, c0, cvk_1 hT q8, oI, oV]
        | some j =>
          rw [hj] at q8
          have nn := nI_nn (y := j) (by have := amxP_lt hj; omega)
          simp [fX10_worth, kX10_worth, ent, entp, jX10_worth, bX10_worth_0, bX10_worth_1, bX10_worth_2, bX10_worth_3, bX10_worth_4, i_aload, i_getf, i_iceq, i_icge, i_icne, i_ifeq, i_iload, i_ireturn, i_istore, i_jmp, i_push, msk, lset1, lset2, clr, Value.category, Option.toList, List.cons_append, List.nil_append, List.length_cons, List.length_nil, hN, cxk_1 hB q0, cxk_2 hB q1, gf_eq hB, nI_0, c0, cvk_1 hT q8, oI, oV, nn, cvk_2 hT (hb j hj)]
      · cases hj : wrsR δ n0 with
        | none =>
          rw [hj] at q9
          simp [fX10_worth, kX10_worth, ent, entp, jX10_worth, bX10_worth_0, bX10_worth_1, bX10_worth_2, bX10_worth_3, bX10_worth_4, i_aload, i_getf, i_iceq, i_icge, i_icne, i_ifeq, i_iload, i_ireturn, i_istore, i_jmp, i_push, msk, lset1, lset2, clr, Value.category, Option.toList, List.cons_append, List.nil_append, List.length_cons, List.length_nil, hN, cxk_1 hB q0, cxk_2 hB q1, gf_eq hB, a1, d1, c1, cvk_1 hT q9, oI, oV]
        | some j =>
          rw [hj] at q9
          have nn := nI_nn (y := j) (by have := amnP_lt hj; omega)
          simp [fX10_worth, kX10_worth, ent, entp, jX10_worth, bX10_worth_0, bX10_worth_1, bX10_worth_2, bX10_worth_3, bX10_worth_4, i_aload, i_getf, i_iceq, i_icge, i_icne, i_ifeq, i_iload, i_ireturn, i_istore, i_jmp, i_push, msk, lset1, lset2, clr, Value.category, Option.toList, List.cons_append, List.nil_append, List.length_cons, List.length_nil, hN, cxk_1 hB q0, cxk_2 hB q1, gf_eq hB, a1, d1, c1, cvk_1 hT q9, oI, oV, nn, cvk_2 hT (hw j hj)]
      · rw [d2] at q1 c2 a2
        simp [fX10_worth, kX10_worth, ent, entp, jX10_worth, bX10_worth_0, bX10_worth_1, bX10_worth_2, bX10_worth_3, bX10_worth_4, i_aload, i_getf, i_iceq, i_icge, i_icne, i_ifeq, i_iload, i_ireturn, i_istore, i_jmp, i_push, msk, lset1, lset2, clr, Value.category, Option.toList, List.cons_append, List.nil_append, List.length_cons, List.length_nil, hN, cxk_1 hB q0, cxk_2 hB q1, gf_eq hB, a2, d2, c2, cvk_1 hT q8]
      · simp [fX10_worth, kX10_worth, ent, entp, jX10_worth, bX10_worth_0, bX10_worth_1, bX10_worth_2, bX10_worth_3, bX10_worth_4, i_aload, i_getf, i_iceq, i_icge, i_icne, i_ifeq, i_iload, i_ireturn, i_istore, i_jmp, i_push, msk, lset1, lset2, clr, Value.category, Option.toList, List.cons_append, List.nil_append, List.length_cons, List.length_nil, hN, cxk_1 hB q0, cxk_2 hB q1, gf_eq hB, a3, d3, c3, cvk_1 hT q9]
theorem worth_r {g : GE} {w : Mem} {M fed kept : Nat} {fp : Int32} {tp : Nat → Int32} {rf : Nat → Nat} {δ : DE} {τ : TE} {im : Nat → TE} {x : Nat → Int32} (hg : FU g) (hd : WF δ) (hI : RI w M fed kept fp tp rf δ τ im x) (x0 x1 : Int32) : RQo w M fed kept fp tp rf δ τ im (fX11_worth g [.ref M, .int x0, .int x1] w) (worthO δ x0 x1) := by
  obtain ⟨w0, hw0, I0, F0⟩ := hI.t0
  obtain ⟨b1, b2, b3, b4, b5, b6, b7, b8⟩ := id hd.1
  obtain ⟨hO, hXO, hRK, hRZ, hrf⟩ := id I0
  obtain ⟨x1', x3', x27, x32, x33, x34⟩ := id hXO
  obtain ⟨hTp, hD, hR, hCp, hHb, hKp, hRP⟩ := id hRK
  have hn := nR_le hd
  have x0' : (va_up x 0 0) 0 = 0 := va_up_self _ _ _
  obtain ⟨N, hN⟩ : ∃ N, g.1 = N + 16 := ⟨g.1 - 16, by omega⟩
  unfold worthO
  have q0 := isHeir_sp hg hO hD b1 x0
  cases h0 : rng x0 (δ.1 0) with
  | none =>
    rw [h0] at q0
    simp only [bI, Option.isSome, Bool.false_eq_true, if_false] at q0
    obtain ⟨w1, p1, p2, p3⟩ := bad1_sp hg I0 x0' (c := 1) (r := 0) (C := 1) (R := 0) rfl rfl (by decide) (by decide)
    refine RQo.no (v := .int 0) F0 p2 ?_ p3
    simp [fX11_worth, kX11_worth, ent, entp, jX11_worth, bX11_worth_0, bX11_worth_1, bX11_worth_2, bX11_worth_3, bX11_worth_4, bX11_worth_5, i_aload, i_iceq, i_icle, i_ifeq, i_ifne, i_iload, i_irem, i_ireturn, i_istore, i_jmp, i_push, i_putf, msk, lset1, lset2, clr, Value.category, Option.toList, List.cons_append, List.nil_append, List.length_cons, List.length_nil, hN, st_0 hI.1, hw0, cvk_1 hO q0, cvk_3 hO p1]
  | some n0 =>
    rw [h0] at q0
    simp only [bI, Option.isSome, if_true] at q0
    obtain ⟨l0, e0⟩ := rng_some (by omega) h0
    subst e0
    have q1 := in_sp (w := w0) hg x1 (n := 3 + 1) (y := 3) (by decide) (by decide)
    cases h1 : rng x1 (3 + 1) with
    | none =>
      rw [h1] at q1
      simp only [bI, Option.isSome, Bool.false_eq_true, if_false] at q1
      obtain ⟨w1, p1, p2, p3⟩ := bad1_sp hg I0 x0' (c := 2) (r := 2) (C := 2) (R := 2) rfl rfl (by decide) (by decide)
      refine RQo.no (v := .int 0) F0 p2 ?_ p3
      simp [fX11_worth, kX11_worth, ent, entp, jX11_worth, bX11_worth_0, bX11_worth_1, bX11_worth_2, bX11_worth_3, bX11_worth_4, bX11_worth_5, i_aload, i_iceq, i_icle, i_ifeq, i_ifne, i_iload, i_irem, i_ireturn, i_istore, i_jmp, i_push, i_putf, msk, lset1, lset2, clr, Value.category, Option.toList, List.cons_append, List.nil_append, List.length_cons, List.length_nil, hN, st_0 hI.1, hw0, cvk_1 hO q0, cvk_3 hO (bad0_sp hg hO x0' 1 0), csk_3 q1, cvk_3 hO p1]
    | some n1 =>
      rw [h1] at q1
      simp only [bI, Option.isSome, if_true] at q1
      obtain ⟨l1, e1⟩ := rng_some (by omega) h1
      subst e1
      refine RQo.ok F0 I0 x0' ?_ (Fr.rf _ _)
      have hb : ∀ j, bstR δ n0 = some j → fX11_worthBy g [.ref M, .int (nI j), .int (nI n0)] w0 = some (.inl (some (.int (nI (wtR δ j n0)))), w0) := fun j hj => rworthBy_sp hg hd hO hD hR (amxP_lt hj) (by omega)
      have hw : ∀ j, wrsR δ n0 = some j → fX11_worthBy g [.ref M, .int (nI j), .int (nI n0)] w0 = some (.inl (some (.int (nI (wtR δ j n0)))), w0) := fun j hj => rworthBy_sp hg hd hO hD hR (amnP_lt hj) (by omega)
      have q8 := worthAt_sp hg hd hO x27 hD hR (h := n0) (wh := 0) (by omega) (Or.inl rfl)
      have q9 := worthAt_sp hg hd hO x27 hD hR (h := n0) (wh := 1) (by omega) (Or.inr rfl)
      simp only [if_true] at q8
      simp only [Nat.one_ne_zero, if_false] at q9
      have m0 : nI 0 - nI 0 / 2 * 2 = nI 0 := by decide
      have m1 : nI 1 - nI 1 / 2 * 2 = nI 1 := by decide
      have m2 : nI 2 - nI 2 / 2 * 2 = nI 0 := by decide
      have m3 : nI 3 - nI 3 / 2 * 2 = nI 1 := by decide
      have l0' : nI 0 ≤ 1 := by decide
      have l1' : nI 1 ≤ 1 := by decide
      have l2' : ¬ nI 2 ≤ 1 := by decide
      have l3' : ¬ nI 3 ≤ 1 := by decide
      have : n1 = 0 ∨ n1 = 1 ∨ n1 = 2 ∨ n1 = 3 := by omega
      rcases this with z | z | z | z <;> subst z
      · cases hj : bstR δ n0 with
        | none =>
          rw [hj] at q8
          simp [fX11_worth, kX11_worth, ent, entp, jX11_worth, bX11_worth_0, bX11_worth_1, bX11_worth_2, bX11_worth_3, bX11_worth_4, bX11_worth_5, i_aload, i_iceq, i_icle, i_ifeq, i_ifne, i_iload, i_irem, i_ireturn, i_istore, i_jmp, i_push, i_putf, msk, lset1, lset2, clr, Value.category, Option.toList, List.cons_append, List.nil_append, List.length_cons, List.length_nil, hN, st_0 hI.1, hw0, cvk_1 hO q0, cvk_3 hO (bad0_sp hg hO x0' 1 0), csk_3 q1, cvk_3 hO (bad0_sp hg hO x0' 2 2), m0, cvk_2 hO q8, oI, oV]
        | some j =>
          rw [hj] at q8
          have nn := nI_nn (y := j) (by have := amxP_lt hj; omega)
          simp [fX11_worth, kX11_worth, ent, entp, jX11_worth, bX11_worth_0, bX11_worth_1, bX11_worth_2, bX11_worth_3, bX11_worth_4, bX11_worth_5, i_aload, i_iceq, i_icle, i_ifeq, i_ifne, i_iload, i_irem, i_ireturn, i_istore, i_jmp, i_push, i_putf, msk, lset1, lset2, clr, Value.category, Option.toList, List.cons_append, List.nil_append, List.length_cons, List.length_nil, hN, st_0 hI.1, hw0, cvk_1 hO q0, cvk_3 hO (bad0_sp hg hO x0' 1 0), csk_3 q1, cvk_3 hO (bad0_sp hg hO x0' 2 2), m0, l0', cvk_2 hO q8, oI, oV, nn, cvk_2 hO (hb j hj)]
      · cases hj : wrsR δ n0 with
        | none =>
          rw [hj] at q9
          simp [fX11_worth, kX11_worth, ent, entp, jX11_worth, bX11_worth_0, bX11_worth_1, bX11_worth_2, bX11_worth_3, bX11_worth_4, bX11_worth_5, i_aload, i_iceq, i_icle, i_ifeq, i_ifne, i_iload, i_irem, i_ireturn, i_istore, i_jmp, i_push, i_putf, msk, lset1, lset2, clr, Value.category, Option.toList, List.cons_append, List.nil_append, List.length_cons, List.length_nil, hN, st_0 hI.1, hw0, cvk_1 hO q0, cvk_3 hO (bad0_sp hg hO x0' 1 0), csk_3 q1, cvk_3 hO (bad0_sp hg hO x0' 2 2), m1, cvk_2 hO q9, oI, oV]
        | some j =>
          rw [hj] at q9
          have nn := nI_nn (y := j) (by have := amnP_lt hj; omega)
          simp [fX11_worth, kX11_worth, ent, entp, jX11_worth, bX11_worth_0, bX11_worth_1, bX11_worth_2, bX11_worth_3, bX11_worth_4, bX11_worth_5, i_aload, i_iceq, i_icle, i_ifeq, i_ifne, i_iload, i_irem, i_ireturn, i_istore, i_jmp, i_push, i_putf, msk, lset1, lset2, clr, Value.category, Option.toList, List.cons_append, List.nil_append, List.length_cons, List.length_nil, hN, st_0 hI.1, hw0, cvk_1 hO q0, cvk_3 hO (bad0_sp hg hO x0' 1 0), csk_3 q1, cvk_3 hO (bad0_sp hg hO x0' 2 2), m1, l1', cvk_2 hO q9, oI, oV, nn, cvk_2 hO (hw j hj)]
      · cases hj : bstR δ n0 with
        | none =>
          rw [hj] at q8
          simp [fX11_worth, kX11_worth, ent, entp, jX11_worth, bX11_worth_0, bX11_worth_1, bX11_worth_2, bX11_worth_3, bX11_worth_4, bX11_worth_5, i_aload, i_iceq, i_icle, i_ifeq, i_ifne, i_iload, i_irem, i_ireturn, i_istore, i_jmp, i_push, i_putf, msk, lset1, lset2, clr, Value.category, Option.toList, List.cons_append, List.nil_append, List.length_cons, List.length_nil, hN, st_0 hI.1, hw0, cvk_1 hO q0, cvk_3 hO (bad0_sp hg hO x0' 1 0), csk_3 q1, cvk_3 hO (bad0_sp hg hO x0' 2 2), m2, cvk_2 hO q8, oI, oV]
        | some j =>
          rw [hj] at q8
          have nn := nI_nn (y := j) (by have := amxP_lt hj; omega)
          simp [fX11_worth, kX11_worth, ent, entp, jX11_worth, bX11_worth_0, bX11_worth_1, bX11_worth_2, bX11_worth_3, bX11_worth_4, bX11_worth_5, i_aload, i_iceq, i_icle, i_ifeq, i_ifne, i_iload, i_irem, i_ireturn, i_istore, i_jmp, i_push, i_putf, msk, lset1, lset2, clr, Value.category, Option.toList, List.cons_append, List.nil_append, List.length_cons, List.length_nil, hN, st_0 hI.1, hw0, cvk_1 hO q0, cvk_3 hO (bad0_sp hg hO x0' 1 0), csk_3 q1, cvk_3 hO (bad0_sp hg hO x0' 2 2), m2, l2', cvk_2 hO q8, oI, oV, nn]
      · cases hj : wrsR δ n0 with
        | none =>
          rw [hj] at q9
          simp [fX11_worth, kX11_worth, ent, entp, jX11_worth, bX11_worth_0, bX11_worth_1, bX11_worth_2, bX11_worth_3, bX11_worth_4, bX11_worth_5, i_aload, i_iceq, i_icle, i_ifeq, i_ifne, i_iload, i_irem, i_ireturn, i_istore, i_jmp, i_push, i_putf, msk, lset1, lset2, clr, Value.category, Option.toList, List.cons_append, List.nil_append, List.length_cons, List.length_nil, hN, st_0 hI.1, hw0, cvk_1 hO q0, cvk_3 hO (bad0_sp hg hO x0' 1 0), csk_3 q1, cvk_3 hO (bad0_sp hg hO x0' 2 2), m3, cvk_2 hO q9, oI, oV]
        | some j =>
          rw [hj] at q9
          have nn := nI_nn (y := j) (by have := amnP_lt hj; omega)
          simp [fX11_worth, kX11_worth, ent, entp, jX11_worth, bX11_worth_0, bX11_worth_1, bX11_worth_2, bX11_worth_3, bX11_worth_4, bX11_worth_5, i_aload, i_iceq, i_icle, i_ifeq, i_ifne, i_iload, i_irem, i_ireturn, i_istore, i_jmp, i_push, i_putf, msk, lset1, lset2, clr, Value.category, Option.toList, List.cons_append, List.nil_append, List.length_cons, List.length_nil, hN, st_0 hI.1, hw0, cvk_1 hO q0, cvk_3 hO (bad0_sp hg hO x0' 1 0), csk_3 q1, cvk_3 hO (bad0_sp hg hO x0' 2 2), m3, l3', cvk_2 hO q9, oI, oV, nn]
