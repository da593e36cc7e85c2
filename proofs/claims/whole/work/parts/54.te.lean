/-! ===== copy, habit, forget, status, count ===== -/
theorem CF.in {B E a : Nat} (h : B ≤ a ∧ a < B + 132) : CF B E a := Or.inl h
section
variable {g : GE} {w w' : Mem} {B E fed kept fed' kept' : Nat} {fp : Int32} {tp tp' : Nat → Int32} {rf : Nat → Nat} {δ : DE} {τ τ' : TE} {im im' : Nat → TE} {lev nG : Nat} {res : Option (Rs × Mem)} {o : OUT}
theorem CZ.of (h : CQ g w B E fed kept fp tp rf δ τ im lev nG res o) : CZ g w B E (fed, kept, fp, tp, rf, δ, τ, im) lev nG res o (fed, kept, fp, tp, rfb rf o, δ, τ, im) := h
theorem CZ.okw (hI : CI g w' B E fed' kept' fp tp' rf δ τ' im' lev nG) {v : Value} (h : res = some (.inl (some v), w')) (hF : Fr (CF B E) w w') : CZ g w B E (fed, kept, fp, tp, rf, δ, τ, im) lev nG res (.inl v) (fed', kept', fp, tp', rf, δ, τ', im') :=
  ⟨w', lev, nG, h, hI, hF.fa, RM.rf hF.2⟩
end
section
variable {w w' w0 : Mem} {M fed kept fed' kept' : Nat} {fp : Int32} {tp tp' : Nat → Int32} {rf : Nat → Nat} {δ : DE} {τ τ' : TE} {im im' : Nat → TE} {x x' : Nat → Int32} {res : Option (Rs × Mem)} {o : OUT}
theorem RZo.of (h : RQo w M fed kept fp tp rf δ τ im res o) : RZo w M res o (fed, kept, fp, tp, rfb rf o, δ, τ, im) := h
theorem RZo.ok (F0 : Fr (fun a => a = M) w w0) (hI : RI w' M fed' kept' fp tp' rf δ τ' im' x') (hx : x' 0 = 0) {v : Value} (h : res = some (.inl (some v), w')) (hF : Fr (rg M (M + 179)) w0 w') : RZo w M res (.inl v) (fed', kept', fp, tp', rf, δ, τ', im') :=
  ⟨w', v, x', h, hI, hx, fun u e => Sum.inl.inj e, (F0.mn fun a h => by subst h; unfold rg; omega).tr hF⟩
theorem RI.te (h : RI w M fed kept fp tp rf δ τ im x) (k : Fr (fun a => a = M ∨ rg (M + 146) (M + 172) a) w w') (h1 : MO w' M x') (h2 : XO x' fed kept' fp δ τ') (h3 : GRD w' (M + 146) 12 3 (fun k i => nI (τ'.2 i k))) (h4 : GRD w' (M + 159) 8 4 (fun k i => nI (τ'.2 (3 + i) k))) (h5 : ∃ c, GRD w' (M + 168) 3 70 c ∧ ∀ i, i < kept' → KP (c i) (im' i)) : RI w' M fed kept' fp tp rf δ τ' im' x' := by
  obtain ⟨k1, k2, ⟨a1, a2, a3, a4, a5, a6, a7⟩, k4, k5⟩ := h
  exact ⟨h1, h2, ⟨a1.fr k (by unfold rg; omega), a2.fr k (fun i z1 z2 => by unfold rg; omega), a3.fr k (fun i z1 z2 => by unfold rg; omega), h3, h4, h5, a7.fr k (fun i z1 z2 => by unfold rg; omega)⟩, k4.fr k (fun i z1 z2 => by unfold rg; omega), k5.fr k (by unfold rg; omega)⟩
end
theorem tcp_h (τ : TE) (h b t j i : Nat) : (tcp τ h b t).2 (3 + j) i = τ.2 (3 + j) i := by
  simp only [tcp]
  split
  · rw [if_neg (by omega), if_neg (by omega), if_neg (by omega)]
  · rfl
theorem thb_c (τ : TE) (h x y p : Nat) {j i : Nat} (hj : j < 3) : (thb τ h x y p).2 j i = τ.2 j i := by
  simp only [thb]
  split
  · rw [if_neg (by omega), if_neg (by omega), if_neg (by omega), if_neg (by omega)]
  · rfl
theorem GRD.cg {w : Mem} {a n m : Nat} {c d : Nat → Nat → Int32} (h : GRD w a n m c) (k : ∀ i j, i < n → j < m → c i j = d i j) : GRD w a n m d := ⟨h.1, fun i hi => (h.2 i hi).cg fun j hj => k i j hi hj⟩
theorem GRD.up {w : Mem} {a n m : Nat} {c : Nat → Nat → Int32} (h : GRD w a n m c) {i : Nat} (j : Nat) (x : Int32) : GRD (wi w 0 (a + 1 + i) j x) a n m (fun k l => if k = i then va_up (c i) j x l else c k l) := by
  refine ⟨h.1.fr (Fr.wi (S := fun q => q = a + 1 + i) _ _ _ _ rfl) (by omega), fun k hk => ?_⟩
  by_cases z : k = i
  · subst z
    simp only [if_true]
    exact (h.2 k hk).up j x
  · simp only [z, if_false]
    exact (h.2 k hk).wi (by omega)
theorem isHand_sp {g : GE} (hg : FU g) {w : Mem} (x : Int32) : fX10_isHand g [.int x] w = some (.inl (some (.int (bI (rng x 4).isSome))), w) := by
  obtain ⟨N, hN⟩ : ∃ N, g.1 = N + 3 := ⟨g.1 - 3, by omega⟩
  cases h : rng x 4 with
  | some j =>
    obtain ⟨hj, e⟩ := rng_some (by decide) h
    subst e
    have e1 : ¬ nI j < 0 := nI_pos (by omega)
    have e2 : ¬ (4 : Int32) ≤ nI j := nI_ge hj (by decide)
    simp [fX10_isHand, kX10_isHand, ent, entp, jX10_isHand, bX10_isHand_0, bX10_isHand_1, bX10_isHand_2, i_icge, i_iflt, i_iload, i_jmp, i_push, i_zreturn, msk, lset1, lset2, clr, Value.category, Option.toList, List.cons_append, List.nil_append, List.length_cons, List.length_nil, hN, e1, e2, bI]
  | none =>
    by_cases e1 : x < 0
    · simp [fX10_isHand, kX10_isHand, ent, entp, jX10_isHand, bX10_isHand_0, bX10_isHand_1, bX10_isHand_2, i_icge, i_iflt, i_iload, i_jmp, i_push, i_zreturn, msk, lset1, lset2, clr, Value.category, Option.toList, List.cons_append, List.nil_append, List.length_cons, List.length_nil, hN, e1, bI]
    · have e2 : (4 : Int32) ≤ x := by
        rcases rng_none (by decide) h with q | q
        · exact absurd q e1
        · exact q
      simp [fX10_isHand, kX10_isHand, ent, entp, jX10_isHand, bX10_isHand_0, bX10_isHand_1, bX10_isHand_2, i_icge, i_iflt, i_iload, i_jmp, i_push, i_zreturn, msk, lset1, lset2, clr, Value.category, Option.toList, List.cons_append, List.nil_append, List.length_cons, List.length_nil, hN, e1, e2, bI]
theorem isNum_sp {g : GE} (hg : FU g) {w : Mem} (x : Int32) : fX10_isNum g [.int x] w = some (.inl (some (.int (bI (rng x 100).isSome))), w) := by
  obtain ⟨N, hN⟩ : ∃ N, g.1 = N + 3 := ⟨g.1 - 3, by omega⟩
  cases h : rng x 100 with
  | some j =>
    obtain ⟨hj, e⟩ := rng_some (by decide) h
    subst e
    have e1 : ¬ nI j < 0 := nI_pos (by omega)
    have e2 : ¬ (100 : Int32) ≤ nI j := nI_ge hj (by decide)
    simp [fX10_isNum, kX10_isNum, ent, entp, jX10_isNum, bX10_isNum_0, bX10_isNum_1, bX10_isNum_2, i_icge, i_iflt, i_iload, i_jmp, i_push, i_zreturn, msk, lset1, lset2, clr, Value.category, Option.toList, List.cons_append, List.nil_append, List.length_cons, List.length_nil, hN, e1, e2, bI]
  | none =>
    by_cases e1 : x < 0
    · simp [fX10_isNum, kX10_isNum, ent, entp, jX10_isNum, bX10_isNum_0, bX10_isNum_1, bX10_isNum_2, i_icge, i_iflt, i_iload, i_jmp, i_push, i_zreturn, msk, lset1, lset2, clr, Value.category, Option.toList, List.cons_append, List.nil_append, List.length_cons, List.length_nil, hN, e1, bI]
    · have e2 : (100 : Int32) ≤ x := by
        rcases rng_none (by decide) h with q | q
        · exact absurd q e1
        · exact q
      simp [fX10_isNum, kX10_isNum, ent, entp, jX10_isNum, bX10_isNum_0, bX10_isNum_1, bX10_isNum_2, i_icge, i_iflt, i_iload, i_jmp, i_push, i_zreturn, msk, lset1, lset2, clr, Value.category, Option.toList, List.cons_append, List.nil_append, List.length_cons, List.length_nil, hN, e1, e2, bI]
def tlb (δ : DE) (b : Nat) : Nat := if δ.2 8 b = 0 then 100 else if δ.2 8 b = 1 then δ.1 0 else 2
theorem kd3 {δ : DE} (hd : WF δ) {b : Nat} (hb : b < δ.1 3) : δ.2 8 b ≤ 2 := by
  have h := hd.2.2.2.1 b hb
  have := h.2.2.2.2.1 0 (by omega)
  rcases this with ⟨q, _⟩ | ⟨q, _⟩ | ⟨q, _⟩ <;> omega
theorem tlb_le {δ : DE} (hd : WF δ) (b : Nat) : tlb δ b ≤ 100 := by
  have := hd.1.1
  unfold tlb
  split
  · omega
  · split <;> omega
theorem canBeTold_sp {g : GE} (hg : FU g) {w : Mem} {D : Nat} {δ : DE} (hd : WF δ) (hD : DEED g w D δ) {b : Nat} (hb : b < δ.1 3) (x : Int32) : fX2_canBeTold g [.ref D, .int (nI b), .int x] w = some (.inl (some (.int (bI (rng x (tlb δ b)).isSome))), w) := by
  obtain ⟨N, hN⟩ : ∃ N, g.1 = N + 4 := ⟨g.1 - 4, by omega⟩
  obtain ⟨b1, b2, b3, b4, b5, b6, b7, b8⟩ := id hd.1
  obtain ⟨d0, -, -, -, -, -, -, -, -, d9, -, dbl, -⟩ := id hD
  have e9 := dbl b (by omega)
  have hk := kd3 hd hb
  have hl := tlb_le hd b
  have key : ∀ n, n ≤ 100 → jX2_canBeTold g (N + 3) 1 [.int (nI n)] [none, none, some (.int x), none, none] w = some (.inl (some (.int (bI (rng x n).isSome))), w) := by
    intro n hn
    cases h : rng x n with
    | some j =>
      obtain ⟨hj, e⟩ := rng_some (by omega) h
      subst e
      have e1 : ¬ nI j < 0 := nI_pos (by omega)
      have e2 : ¬ nI n ≤ nI j := nI_ge hj (by omega)
      simp [jX2_canBeTold, bX2_canBeTold_0, bX2_canBeTold_1, bX2_canBeTold_2, bX2_canBeTold_3, i_aaload, i_aload, i_getf, i_icge, i_icne, i_iflt, i_ifne, i_iload, i_istore, i_jmp, i_push, i_zreturn, msk, lset1, lset2, clr, Value.category, Option.toList, List.cons_append, List.nil_append, List.length_cons, List.length_nil, e1, e2, bI]
    | none =>
      by_cases e1 : x < 0
      · simp [jX2_canBeTold, bX2_canBeTold_0, bX2_canBeTold_1, bX2_canBeTold_2, bX2_canBeTold_3, i_aaload, i_aload, i_getf, i_icge, i_icne, i_iflt, i_ifne, i_iload, i_istore, i_jmp, i_push, i_zreturn, msk, lset1, lset2, clr, Value.category, Option.toList, List.cons_append, List.nil_append, List.length_cons, List.length_nil, e1, bI]
      · have e2 : nI n ≤ x := by
          rcases rng_none (by omega) h with q | q
          · exact absurd q e1
          · exact q
        simp [jX2_canBeTold, bX2_canBeTold_0, bX2_canBeTold_1, bX2_canBeTold_2, bX2_canBeTold_3, i_aaload, i_aload, i_getf, i_icge, i_icne, i_iflt, i_ifne, i_iload, i_istore, i_jmp, i_push, i_zreturn, msk, lset1, lset2, clr, Value.category, Option.toList, List.cons_append, List.nil_append, List.length_cons, List.length_nil, e1, e2, bI]
  rw [← key _ hl]
  unfold tlb
  have : δ.2 8 b = 0 ∨ δ.2 8 b = 1 ∨ δ.2 8 b = 2 := by omega
  rcases this with q | q | q <;> rw [q] at e9
  · simp [fX2_canBeTold, kX2_canBeTold, ent, entp, jX2_canBeTold, bX2_canBeTold_0, bX2_canBeTold_1, bX2_canBeTold_2, bX2_canBeTold_3, i_aaload, i_aload, i_getf, i_icge, i_icne, i_iflt, i_ifne, i_iload, i_istore, i_jmp, i_push, i_zreturn, msk, lset1, lset2, clr, Value.category, Option.toList, List.cons_append, List.nil_append, List.length_cons, List.length_nil, hN, gf_eq d0, d9.rd (j := b) (by omega) (by decide), va_rf, gf_eq e9, q, nI_0]
    rfl
  · have n1 : ¬ nI 1 = 0 := by decide
    simp [fX2_canBeTold, kX2_canBeTold, ent, entp, jX2_canBeTold, bX2_canBeTold_0, bX2_canBeTold_1, bX2_canBeTold_2, bX2_canBeTold_3, i_aaload, i_aload, i_getf, i_icge, i_icne, i_iflt, i_ifne, i_iload, i_istore, i_jmp, i_push, i_zreturn, msk, lset1, lset2, clr, Value.category, Option.toList, List.cons_append, List.nil_append, List.length_cons, List.length_nil, hN, gf_eq d0, d9.rd (j := b) (by omega) (by decide), va_rf, gf_eq e9, q, n1, (show nI 1 = 1 from rfl)]
  · have n1 : ¬ nI 2 = 0 := by decide
    have n2 : ¬ nI 2 = 1 := by decide
    simp [fX2_canBeTold, kX2_canBeTold, ent, entp, jX2_canBeTold, bX2_canBeTold_0, bX2_canBeTold_1, bX2_canBeTold_2, bX2_canBeTold_3, i_aaload, i_aload, i_getf, i_icge, i_icne, i_iflt, i_ifne, i_iload, i_istore, i_jmp, i_push, i_zreturn, msk, lset1, lset2, clr, Value.category, Option.toList, List.cons_append, List.nil_append, List.length_cons, List.length_nil, hN, gf_eq d0, d9.rd (j := b) (by omega) (by decide), va_rf, gf_eq e9, q, n1, n2]
    rfl
def copyR (δ : DE) (τ : TE) (x0 x1 x2 : Int32) : OUT × TE :=
  match rng x1 (δ.1 3) with
  | none => (.inr (1, 1), τ)
  | some b => match rng x0 4 with
    | none => (.inr (2, 2), τ)
    | some h => match rng x2 (tlb δ b) with
      | none => (.inr (2, 2), τ)
      | some t => if τ.1 0 = 12 then (.inl (.int (-1)), τ) else (.inl (.int (nI (τ.1 0 + 1))), tcp τ h b t)
theorem copy_c {g : GE} {w : Mem} {B E fed kept : Nat} {fp : Int32} {tp : Nat → Int32} {rf : Nat → Nat} {δ : DE} {τ : TE} {im : Nat → TE} {lev nG : Nat} (hg : GD g) (hE : B + 132 ≤ E) (hI : CI g w B E fed kept fp tp rf δ τ im lev nG) (hV : τ.1 0 ≤ 12) (x0 x1 x2 : Int32) : CZ g w B E (fed, kept, fp, tp, rf, δ, τ, im) lev nG (fX10_copy g [.ref B, .int x0, .int x1, .int x2] w) (copyR δ τ x0 x1 x2).1 (fed, kept, fp, tp, rfb rf (copyR δ τ x0 x1 x2).1, δ, (copyR δ τ x0 x1 x2).2, im) := by
  have hg1 := hg.1
  obtain ⟨D, D', hCC, hCT, hCN, hCL, hCM⟩ := id hI
  obtain ⟨hDD, hB, hTp, hD, hD', hSc, hr, hd, hfd, hkp⟩ := id hCC
  obtain ⟨b1, b2, b3, b4, b5, b6, b7, b8⟩ := id hd.1
  obtain ⟨hM1, hM2, hM3⟩ := id hCM
  obtain ⟨N, hN⟩ : ∃ N, g.1 = N + 3 := ⟨g.1 - 3, by omega⟩
  unfold copyR
  have q0 := needBlot_sp hg1 hB hr hD b4 x1
  cases h0 : rng x1 (δ.1 3) with
  | none =>
    rw [h0] at q0
    simp only [tst, Option.isSome, Bool.false_eq_true, if_false] at q0
    refine CZ.of (CQ.no hE hI ?_)
    simp [fX10_copy, kX10_copy, ent, entp, jX10_copy, bX10_copy_0, bX10_copy_1, bX10_copy_2, i_aload, i_getf, i_ifeq, i_iload, i_ireturn, i_jmp, i_push, msk, lset1, lset2, clr, Value.category, Option.toList, List.cons_append, List.nil_append, List.length_cons, List.length_nil, hN, cxe_1 hB q0]
  | some b =>
    rw [h0] at q0
    simp only [tst, Option.isSome, if_true] at q0
    obtain ⟨l1, e1⟩ := rng_some (by omega) h0
    subst e1
    dsimp only
    have q1 := isHand_sp hg1 (w := w) x0
    have q2 := canBeTold_sp hg1 hd hD l1 x2
    have e9 := needArgument_sp (g := g) hB hr false
    simp only [tst, Bool.false_eq_true, if_false] at e9
    cases h1 : rng x0 4 with
    | none =>
      rw [h1] at q1
      simp only [bI, Option.isSome, Bool.false_eq_true, if_false] at q1
      refine CZ.of (CQ.no hE hI ?_)
      simp [fX10_copy, kX10_copy, ent, entp, jX10_copy, bX10_copy_0, bX10_copy_1, bX10_copy_2, i_aload, i_getf, i_ifeq, i_iload, i_ireturn, i_jmp, i_push, msk, lset1, lset2, clr, Value.category, Option.toList, List.cons_append, List.nil_append, List.length_cons, List.length_nil, hN, cxk_1 hB q0, csk_1 q1, cxe_1 hB e9]
    | some h =>
      rw [h1] at q1
      simp only [bI, Option.isSome, if_true] at q1
      dsimp only
      cases h2 : rng x2 (tlb δ b) with
      | none =>
        rw [h2] at q2
        simp only [bI, Option.isSome, Bool.false_eq_true, if_false] at q2
        refine CZ.of (CQ.no hE hI ?_)
        simp [fX10_copy, kX10_copy, ent, entp, jX10_copy, bX10_copy_0, bX10_copy_1, bX10_copy_2, i_aload, i_getf, i_ifeq, i_iload, i_ireturn, i_jmp, i_push, msk, lset1, lset2, clr, Value.category, Option.toList, List.cons_append, List.nil_append, List.length_cons, List.length_nil, hN, cxk_1 hB q0, csk_1 q1, gf_eq hB, cvk_2 hD.1 q2, cxe_1 hB e9]
      | some t =>
        rw [h2] at q2
        simp only [bI, Option.isSome, if_true] at q2
        obtain ⟨l0, e0⟩ := rng_some (by decide) h1
        obtain ⟨l2, e2⟩ := rng_some (by have := tlb_le hd b; omega) h2
        subst e0
        subst e2
        have e8 := needArgument_sp (g := g) hB hr true
        simp only [tst, if_true] at e8
        by_cases z : τ.1 0 = 12
        · simp only [z, if_true]
          have hM9 := hM1.1
          rw [z] at hM9
          refine CZ.of (CQ.ok hI ?_)
          have q3 : fX8_addCopy g [.ref (B + 98), .int (nI h), .int (nI b), .int (nI t)] w = some (.inl (some (.int (-1))), w) := by
            simp [fX8_addCopy, kX8_addCopy, ent, entp, bX8_addCopy_0, i_aload, i_dup, i_getf, i_iadd, i_iastore, i_iclt, i_iload, i_ireturn, i_push, i_putf, msk, lset1, lset2, clr, Value.category, Option.toList, List.cons_append, List.nil_append, List.length_cons, List.length_nil, gf_eq hM9, (show ¬ nI 12 < 12 from by decide)]
          simp [fX10_copy, kX10_copy, ent, entp, jX10_copy, bX10_copy_0, bX10_copy_1, bX10_copy_2, i_aload, i_getf, i_ifeq, i_iload, i_ireturn, i_jmp, i_push, msk, lset1, lset2, clr, Value.category, Option.toList, List.cons_append, List.nil_append, List.length_cons, List.length_nil, hN, cxk_1 hB q0, csk_1 q1, gf_eq hB, cvk_2 hD.1 q2, cxk_1 hB e8, cvk_3 hM1.1 q3]
        · simp only [z, if_false]
          obtain ⟨w', q3, q4, q5⟩ := addCopy_sp (g := g) hM1 (by omega) h b t
          refine CZ.okw (hI.te hE (q5.mn fun a ha => by unfold rg at *; omega) ⟨q4, hM2.fr q5 (by unfold rg; omega), fun i hi => (hM3 i hi).fr q5 (fun j hj => by unfold rg; omega)⟩) ?_ (q5.mn fun a ha => CF.in (by unfold rg at ha; omega))
          simp [fX10_copy, kX10_copy, ent, entp, jX10_copy, bX10_copy_0, bX10_copy_1, bX10_copy_2, i_aload, i_getf, i_ifeq, i_iload, i_ireturn, i_jmp, i_push, msk, lset1, lset2, clr, Value.category, Option.toList, List.cons_append, List.nil_append, List.length_cons, List.length_nil, hN, cxk_1 hB q0, csk_1 q1, gf_eq hB, cvk_2 hD.1 q2, cxk_1 hB e8, cvk_3 hM1.1 q3]
theorem copy_r {g : GE} {w : Mem} {M fed kept : Nat} {fp : Int32} {tp : Nat → Int32} {rf : Nat → Nat} {δ : DE} {τ : TE} {im : Nat → TE} {x : Nat → Int32} (hg : FU g) (hd : WF δ) (hI : RI w M fed kept fp tp rf δ τ im x) (hV : τ.1 0 ≤ 12) (x0 x1 x2 : Int32) : RZo w M (fX11_copy g [.ref M, .int x0, .int x1, .int x2] w) (copyR δ τ x0 x1 x2).1 (fed, kept, fp, tp, rfb rf (copyR δ τ x0 x1 x2).1, δ, (copyR δ τ x0 x1 x2).2, im) := by
  obtain ⟨w0, hw0, I0, F0⟩ := hI.t0
  obtain ⟨b1, b2, b3, b4, b5, b6, b7, b8⟩ := id hd.1
  obtain ⟨hO, hXO, hRK, hRZ, hrf⟩ := id I0
  obtain ⟨x1', x3', x27, x32, x33, x34⟩ := id hXO
  obtain ⟨hTp, hD, hR, hCp, hHb, hKp, hRP⟩ := id hRK
  have x0' : (va_up x 0 0) 0 = 0 := va_up_self _ _ _
  obtain ⟨N, hN⟩ : ∃ N, g.1 = N + 5 := ⟨g.1 - 5, by omega⟩
  unfold copyR
  have q0 := isBlot_sp hg hO hD b4 x1
  cases h0 : rng x1 (δ.1 3) with
  | none =>
    rw [h0] at q0
    simp only [bI, Option.isSome, Bool.false_eq_true, if_false] at q0
    obtain ⟨w1, p1, p2, p3⟩ := bad1_sp hg I0 x0' (c := 1) (r := 1) (C := 1) (R := 1) rfl rfl (by decide) (by decide)
    refine RZo.of (RQo.no (v := .int 0) F0 p2 ?_ p3)
    simp [fX11_copy, kX11_copy, ent, entp, jX11_copy, bX11_copy_0, bX11_copy_1, bX11_copy_2, bX11_copy_3, bX11_copy_4, i_aaload, i_aload, i_dup, i_getf, i_iadd, i_iaload, i_iastore, i_icne, i_ifeq, i_ifne, i_iload, i_ireturn, i_istore, i_isub, i_jmp, i_push, i_putf, msk, lset1, lset2, clr, Value.category, Option.toList, List.cons_append, List.nil_append, List.length_cons, List.length_nil, hN, st_0 hI.1, hw0, cvk_1 hO q0, cvk_3 hO p1]
  | some b =>
    rw [h0] at q0
    simp only [bI, Option.isSome, if_true] at q0
    obtain ⟨l1, e1⟩ := rng_some (by omega) h0
    subst e1
    dsimp only
    have q1 := in_sp (w := w0) hg x0 (n := 4) (y := 3) (by decide) (by decide)
    have hl := tlb_le hd b
    have q2 := in_sp (w := w0) hg x2 (n := tlb δ b) rfl (by omega)
    obtain ⟨h0', -, -, -, -, -, ⟨c6, h6, k6⟩, -⟩ := id hD
    have kb := (k6 b l1).1
    have hk := kd3 hd l1
    -- up to the test of hand and telling
    have pre : fX11_copy g [.ref M, .int x0, .int (nI b), .int x2] w = jX11_copy g (N + 3) 2 [.int (nI (tlb δ b) - 1)] [some (.ref M), some (.int x0), some (.int (nI b)), some (.int x2), none] w0 := by
      unfold tlb
      have : δ.2 8 b = 0 ∨ δ.2 8 b = 1 ∨ δ.2 8 b = 2 := by omega
      rcases this with q | q | q <;> rw [q] at kb
      · simp [fX11_copy, kX11_copy, ent, entp, jX11_copy, bX11_copy_0, bX11_copy_1, bX11_copy_2, bX11_copy_3, bX11_copy_4, i_aaload, i_aload, i_dup, i_getf, i_iadd, i_iaload, i_iastore, i_icne, i_ifeq, i_ifne, i_iload, i_ireturn, i_istore, i_isub, i_jmp, i_push, i_putf, msk, lset1, lset2, clr, Value.category, Option.toList, List.cons_append, List.nil_append, List.length_cons, List.length_nil, hN, st_0 hI.1, hw0, cvk_1 hO q0, cvk_3 hO (bad0_sp hg hO x0' 1 1), gf_eq hO, mg_24, h6.1.rd (j := b) (by omega) (by decide), va_rf, (h6.2 b (by omega)).rc 0 0 rfl (by decide) (by decide), kb, q, nI_0]
        rfl
      · have n1 : ¬ nI 1 = 0 := by decide
        simp [fX11_copy, kX11_copy, ent, entp, jX11_copy, bX11_copy_0, bX11_copy_1, bX11_copy_2, bX11_copy_3, bX11_copy_4, i_aaload, i_aload, i_dup, i_getf, i_iadd, i_iaload, i_iastore, i_icne, i_ifeq, i_ifne, i_iload, i_ireturn, i_istore, i_isub, i_jmp, i_push, i_putf, msk, lset1, lset2, clr, Value.category, Option.toList, List.cons_append, List.nil_append, List.length_cons, List.length_nil, hN, st_0 hI.1, hw0, cvk_1 hO q0, cvk_3 hO (bad0_sp hg hO x0' 1 1), gf_eq hO, mg_24, mg_11, h0'.rc 0 0 rfl (by decide) (by decide), h6.1.rd (j := b) (by omega) (by decide), va_rf, (h6.2 b (by omega)).rc 0 0 rfl (by decide) (by decide), kb, q, n1, (show nI 1 = 1 from rfl)]
      · have n1 : ¬ nI 2 = 0 := by decide
        have n2 : ¬ nI 2 = 1 := by decide
        simp [fX11_copy, kX11_copy, ent, entp, jX11_copy, bX11_copy_0, bX11_copy_1, bX11_copy_2, bX11_copy_3, bX11_copy_4, i_aaload, i_aload, i_dup, i_getf, i_iadd, i_iaload, i_iastore, i_icne, i_ifeq, i_ifne, i_iload, i_ireturn, i_istore, i_isub, i_jmp, i_push, i_putf, msk, lset1, lset2, clr, Value.category, Option.toList, List.cons_append, List.nil_append, List.length_cons, List.length_nil, hN, st_0 hI.1, hw0, cvk_1 hO q0, cvk_3 hO (bad0_sp hg hO x0' 1 1), gf_eq hO, mg_24, h6.1.rd (j := b) (by omega) (by decide), va_rf, (h6.2 b (by omega)).rc 0 0 rfl (by decide) (by decide), kb, q, n1, n2]
        rfl
    rw [pre]
    cases h1 : rng x0 4 with
    | none =>
      rw [h1] at q1
      simp only [bI, Option.isSome, Bool.false_eq_true, if_false] at q1
      obtain ⟨w1, p1, p2, p3⟩ := bad1_sp hg I0 x0' (c := 2) (r := 2) (C := 2) (R := 2) rfl rfl (by decide) (by decide)
      refine RZo.of (RQo.no (v := .int 0) F0 p2 ?_ p3)
      simp [jX11_copy, bX11_copy_0, bX11_copy_1, bX11_copy_2, bX11_copy_3, bX11_copy_4, i_aaload, i_aload, i_dup, i_getf, i_iadd, i_iaload, i_iastore, i_icne, i_ifeq, i_ifne, i_iload, i_ireturn, i_istore, i_isub, i_jmp, i_push, i_putf, msk, lset1, lset2, clr, Value.category, Option.toList, List.cons_append, List.nil_append, List.length_cons, List.length_nil, csk_3 q1, cvk_3 hO p1]
    | some h =>
      rw [h1] at q1
      simp only [bI, Option.isSome, if_true] at q1
      dsimp only
      cases h2 : rng x2 (tlb δ b) with
      | none =>
        rw [h2] at q2
        simp only [bI, Option.isSome, Bool.false_eq_true, if_false] at q2
        obtain ⟨w1, p1, p2, p3⟩ := bad1_sp hg I0 x0' (c := 2) (r := 2) (C := 2) (R := 2) rfl rfl (by decide) (by decide)
        refine RZo.of (RQo.no (v := .int 0) F0 p2 ?_ p3)
        simp [jX11_copy, bX11_copy_0, bX11_copy_1, bX11_copy_2, bX11_copy_3, bX11_copy_4, i_aaload, i_aload, i_dup, i_getf, i_iadd, i_iaload, i_iastore, i_icne, i_ifeq, i_ifne, i_iload, i_ireturn, i_istore, i_isub, i_jmp, i_push, i_putf, msk, lset1, lset2, clr, Value.category, Option.toList, List.cons_append, List.nil_append, List.length_cons, List.length_nil, csk_3 q1, csk_3 q2, cvk_3 hO p1]
      | some t =>
        rw [h2] at q2
        simp only [bI, Option.isSome, if_true] at q2
        obtain ⟨l0, e0⟩ := rng_some (by decide) h1
        obtain ⟨l2, e2⟩ := rng_some (by omega) h2
        subst e0
        subst e2
        by_cases z : τ.1 0 = 12
        · simp only [z, if_true]
          rw [z] at x32
          refine RZo.ok F0 I0 x0' ?_ (Fr.rf _ _)
          simp [jX11_copy, bX11_copy_0, bX11_copy_1, bX11_copy_2, bX11_copy_3, bX11_copy_4, i_aaload, i_aload, i_dup, i_getf, i_iadd, i_iaload, i_iastore, i_icne, i_ifeq, i_ifne, i_iload, i_ireturn, i_istore, i_isub, i_jmp, i_push, i_putf, msk, lset1, lset2, clr, Value.category, Option.toList, List.cons_append, List.nil_append, List.length_cons, List.length_nil, csk_3 q1, csk_3 q2, cvk_3 hO (bad0_sp hg hO x0' 2 2), gf_eq hO, mg_32, x32, (show nI 12 = 12 from rfl)]
        · simp only [z, if_false]
          obtain ⟨c, hc⟩ : ∃ c, τ.1 0 = c := ⟨_, rfl⟩
          rw [hc] at z hV x32
          have zc : ¬ nI c = 12 := fun q => z ((nI_eq (a := c) (b := 12) (by omega) (by decide)).mp q)
          have lc : c < 12 := by omega
          obtain ⟨w1, hw1⟩ : ∃ q, wi w0 0 (M + 146 + 1 + c) 0 (nI h) = q := ⟨_, rfl⟩
          have g1 := hCp.up (i := c) 0 (nI h)
          rw [hw1] at g1
          have F1 : Fr (fun a => a = M + 146 + 1 + c) w0 w1 := hw1 ▸ Fr.wi _ _ _ _ rfl
          have o1 := F1.at hO (by omega)
          obtain ⟨w2, hw2⟩ : ∃ q, wi w1 0 (M + 146 + 1 + c) 1 (nI b) = q := ⟨_, rfl⟩
          have g2 := g1.up (i := c) 1 (nI b)
          rw [hw2] at g2
          have F2 : Fr (fun a => a = M + 146 + 1 + c) w1 w2 := hw2 ▸ Fr.wi _ _ _ _ rfl
          have o2 := F2.at o1 (by omega)
          obtain ⟨w3, hw3⟩ : ∃ q, wi w2 0 (M + 146 + 1 + c) 2 (nI t) = q := ⟨_, rfl⟩
          have g3 := g2.up (i := c) 2 (nI t)
          rw [hw3] at g3
          have F3 : Fr (fun a => a = M + 146 + 1 + c) w2 w3 := hw3 ▸ Fr.wi _ _ _ _ rfl
          have o3 : MO w3 M (va_up x 0 0) := F3.at o2 (by omega)
          obtain ⟨w4, hw4⟩ : ∃ q, mset w3 M (.inr (10, mo M (va_up (va_up x 0 0) 32 (nI (c + 1))))) = q := ⟨_, rfl⟩
          have o4 : MO w4 M (va_up (va_up x 0 0) 32 (nI (c + 1))) := hw4 ▸ ms_at _ _ _
          have F4 : Fr (fun a => a = M) w3 w4 := hw4 ▸ Fr.ms _ _ rfl
          have F : Fr (fun a => a = M ∨ a = M + 146 + 1 + c) w0 w4 := (((F1.mn fun a ha => Or.inr ha).tr (F2.mn fun a ha => Or.inr ha)).tr (F3.mn fun a ha => Or.inr ha)).tr (F4.mn fun a ha => Or.inl ha)
          refine RZo.ok F0 (I0.te (x' := va_up (va_up x 0 0) 32 (nI (c + 1))) (τ' := tcp τ h b t) (kept' := kept) (im' := im) (F.mn fun a ha => by unfold rg; omega) o4 ⟨x1', x3', x27, ?_, x33, x34⟩ ?_ ((hHb.fr F fun i hi => by omega).cg fun i j hi hj => by rw [tcp_h]) ?_) (by rw [va_up_ne _ _ (by decide)]; exact x0') ?_ (F.mn fun a ha => by unfold rg; omega)
          · rw [va_up_self]
            simp only [tcp, hc, va_up_self]
          · have g4 := g3.fr F4 (fun i hi => by omega)
            refine ⟨g4.1, fun k hk => (g4.2 k hk).cg fun i hi => ?_⟩
            have : i = 0 ∨ i = 1 ∨ i = 2 := by omega
            by_cases y : k = c
            · subst y
              rcases this with q | q | q <;> subst q <;> simp [tcp, hc, va_up]
            · simp [tcp, hc, y]
          · obtain ⟨c8, h8, k8⟩ := hKp
            exact ⟨c8, h8.fr F fun i hi => by omega, k8⟩
          · simp [jX11_copy, bX11_copy_0, bX11_copy_1, bX11_copy_2, bX11_copy_3, bX11_copy_4, i_aaload, i_aload, i_dup, i_getf, i_iadd, i_iaload, i_iastore, i_icne, i_ifeq, i_ifne, i_iload, i_ireturn, i_istore, i_isub, i_jmp, i_push, i_putf, msk, lset1, lset2, clr, Value.category, Option.toList, List.cons_append, List.nil_append, List.length_cons, List.length_nil, csk_3 q1, csk_3 q2, cvk_3 hO (bad0_sp hg hO x0' 2 2), gf_eq hO, mg_32, mg_36, x32, zc, hCp.1.rd lc (by decide), va_rf, arwc (hCp.2 c lc) 0 0 rfl (by decide) (by decide), hw1, gf_eq o1, g1.1.rd lc (by decide), arwc (g1.2 c lc) 1 1 rfl (by decide) (by decide), hw2, gf_eq o2, g2.1.rd lc (by decide), arwc (g2.2 c lc) 2 2 rfl (by decide) (by decide), hw3, gf_eq o3, nI_1, st_32 o3, hw4, gf_eq o4, va_up_self, hc]
def habitR (τ : TE) (x0 x1 x2 x3 : Int32) : OUT × TE :=
  match rng x0 4 with
  | none => (.inr (1, 2), τ)
  | some h => match rng x1 100 with
    | none => (.inr (1, 2), τ)
    | some a => match rng x2 100 with
      | none => (.inr (1, 2), τ)
      | some b => if a = b then (.inr (1, 2), τ) else match rng x3 16 with
        | none => (.inr (1, 2), τ)
        | some p => if p = 0 then (.inr (1, 2), τ) else if τ.1 1 = 8 then (.inl (.int (-1)), τ) else (.inl (.int (nI (τ.1 1 + 1))), thb τ h a b p)
theorem in1_sp {g : GE} (hg : FU g) {w : Mem} (v : Int32) : fX11_in g [.int v, .int 1, .int 15] w = some (.inl (some (.int (bI (match rng v 16 with | none => false | some p => p != 0)))), w) := by
  obtain ⟨N, hN⟩ : ∃ N, g.1 = N + 3 := ⟨g.1 - 3, by omega⟩
  cases h : rng v 16 with
  | some j =>
    obtain ⟨hj, e⟩ := rng_some (by decide) h
    subst e
    by_cases z : j = 0
    · subst z
      simp [fX11_in, kX11_in, ent, entp, jX11_in, bX11_in_0, bX11_in_1, bX11_in_2, i_icgt, i_iclt, i_iload, i_jmp, i_push, i_zreturn, msk, lset1, lset2, clr, Value.category, Option.toList, List.cons_append, List.nil_append, List.length_cons, List.length_nil, hN, (show nI 0 < 1 from by decide), bI]
    · have e1 : ¬ nI j < 1 := nI_nlt (a := j) (b := 1) (by omega) (by omega)
      have e2 : ¬ (15 : Int32) < nI j := nI_nlt (a := 15) (b := j) (by omega) (by omega)
      simp [fX11_in, kX11_in, ent, entp, jX11_in, bX11_in_0, bX11_in_1, bX11_in_2, i_icgt, i_iclt, i_iload, i_jmp, i_push, i_zreturn, msk, lset1, lset2, clr, Value.category, Option.toList, List.cons_append, List.nil_append, List.length_cons, List.length_nil, hN, e1, e2, bI, z]
  | none =>
    by_cases e1 : v < 1
    · simp [fX11_in, kX11_in, ent, entp, jX11_in, bX11_in_0, bX11_in_1, bX11_in_2, i_icgt, i_iclt, i_iload, i_jmp, i_push, i_zreturn, msk, lset1, lset2, clr, Value.category, Option.toList, List.cons_append, List.nil_append, List.length_cons, List.length_nil, hN, e1, bI]
    · have e2 : (15 : Int32) < v := by
        rcases rng_none (by decide) h with q | q
        · exact absurd (Int32.lt_of_lt_of_le q (by decide)) e1
        · exact Int32.lt_of_lt_of_le (by decide) q
      simp [fX11_in, kX11_in, ent, entp, jX11_in, bX11_in_0, bX11_in_1, bX11_in_2, i_icgt, i_iclt, i_iload, i_jmp, i_push, i_zreturn, msk, lset1, lset2, clr, Value.category, Option.toList, List.cons_append, List.nil_append, List.length_cons, List.length_nil, hN, e1, e2, bI]
theorem habit_c {g : GE} {w : Mem} {B E fed kept : Nat} {fp : Int32} {tp : Nat → Int32} {rf : Nat → Nat} {δ : DE} {τ : TE} {im : Nat → TE} {lev nG : Nat} (hg : GD g) (hE : B + 132 ≤ E) (hI : CI g w B E fed kept fp tp rf δ τ im lev nG) (hV : τ.1 1 ≤ 8) (x0 x1 x2 x3 : Int32) : CZ g w B E (fed, kept, fp, tp, rf, δ, τ, im) lev nG (fX10_habit g [.ref B, .int x0, .int x1, .int x2, .int x3] w) (habitR τ x0 x1 x2 x3).1 (fed, kept, fp, tp, rfb rf (habitR τ x0 x1 x2 x3).1, δ, (habitR τ x0 x1 x2 x3).2, im) := by
  have hg1 := hg.1
  obtain ⟨D, D', hCC, hCT, hCN, hCL, hCM⟩ := id hI
  obtain ⟨hDD, hB, hTp, hD, hD', hSc, hr, hd, hfd, hkp⟩ := id hCC
  obtain ⟨b1, b2, b3, b4, b5, b6, b7, b8⟩ := id hd.1
  obtain ⟨hM1, hM2, hM3⟩ := id hCM
  obtain ⟨N, hN⟩ : ∃ N, g.1 = N + 3 := ⟨g.1 - 3, by omega⟩
  have e9 := needArgument_sp (g := g) hB hr false
  simp only [tst, Bool.false_eq_true, if_false] at e9
  have e8 := needArgument_sp (g := g) hB hr true
  simp only [tst, if_true] at e8
  unfold habitR
  have q0 := isHand_sp hg1 (w := w) x0
  cases h0 : rng x0 4 with
  | none =>
    rw [h0] at q0
    simp only [bI, Option.isSome, Bool.false_eq_true, if_false] at q0
    refine CZ.of (CQ.no hE hI ?_)
    simp [fX10_habit, kX10_habit, ent, entp, jX10_habit, bX10_habit_0, bX10_habit_1, bX10_habit_2, i_aload, i_getf, i_iceq, i_icge, i_iclt, i_ifeq, i_iload, i_ireturn, i_jmp, i_push, msk, lset1, lset2, clr, Value.category, Option.toList, List.cons_append, List.nil_append, List.length_cons, List.length_nil, hN, csk_1 q0, cxe_1 hB e9]
  | some h =>
    rw [h0] at q0
    simp only [bI, Option.isSome, if_true] at q0
    obtain ⟨l0, e0⟩ := rng_some (by decide) h0
    subst e0
    have q1 := isNum_sp hg1 (w := w) x1
    cases h1 : rng x1 100 with
    | none =>
      rw [h1] at q1
      simp only [bI, Option.isSome, Bool.false_eq_true, if_false] at q1
      refine CZ.of (CQ.no hE hI ?_)
      simp [fX10_habit, kX10_habit, ent, entp, jX10_habit, bX10_habit_0, bX10_habit_1, bX10_habit_2, i_aload, i_getf, i_iceq, i_icge, i_iclt, i_ifeq, i_iload, i_ireturn, i_jmp, i_push, msk, lset1, lset2, clr, Value.category, Option.toList, List.cons_append, List.nil_append, List.length_cons, List.length_nil, hN, csk_1 q0, csk_1 q1, cxe_1 hB e9]
    | some a =>
      rw [h1] at q1
      simp only [bI, Option.isSome, if_true] at q1
      obtain ⟨l1, e1⟩ := rng_some (by decide) h1
      subst e1
      have q2 := isNum_sp hg1 (w := w) x2
      cases h2 : rng x2 100 with
      | none =>
        rw [h2] at q2
        simp only [bI, Option.isSome, Bool.false_eq_true, if_false] at q2
        refine CZ.of (CQ.no hE hI ?_)
        simp [fX10_habit, kX10_habit, ent, entp, jX10_habit, bX10_habit_0, bX10_habit_1, bX10_habit_2, i_aload, i_getf, i_iceq, i_icge, i_iclt, i_ifeq, i_iload, i_ireturn, i_jmp, i_push, msk, lset1, lset2, clr, Value.category, Option.toList, List.cons_append, List.nil_append, List.length_cons, List.length_nil, hN, csk_1 q0, csk_1 q1, csk_1 q2, cxe_1 hB e9]
      | some b =>
        rw [h2] at q2
        simp only [bI, Option.isSome, if_true] at q2
        obtain ⟨l2, e2⟩ := rng_some (by decide) h2
        subst e2
        by_cases z : a = b
        · subst z
          simp only [if_true]
          refine CZ.of (CQ.no hE hI ?_)
          simp [fX10_habit, kX10_habit, ent, entp, jX10_habit, bX10_habit_0, bX10_habit_1, bX10_habit_2, i_aload, i_getf, i_iceq, i_icge, i_iclt, i_ifeq, i_iload, i_ireturn, i_jmp, i_push, msk, lset1, lset2, clr, Value.category, Option.toList, List.cons_append, List.nil_append, List.length_cons, List.length_nil, hN, csk_1 q0, csk_1 q1, csk_1 q2, cxe_1 hB e9]
        · simp only [z, if_false]
          have m : ¬ nI a = nI b := mt (nI_eq (by omega) (by omega)).mp z
          cases h3 : rng x3 16 with
          | none =>
            refine CZ.of (CQ.no hE hI ?_)
            by_cases y : x3 < 1
            · simp [fX10_habit, kX10_habit, ent, entp, jX10_habit, bX10_habit_0, bX10_habit_1, bX10_habit_2, i_aload, i_getf, i_iceq, i_icge, i_iclt, i_ifeq, i_iload, i_ireturn, i_jmp, i_push, msk, lset1, lset2, clr, Value.category, Option.toList, List.cons_append, List.nil_append, List.length_cons, List.length_nil, hN, csk_1 q0, csk_1 q1, csk_1 q2, m, y, cxe_1 hB e9]
            · have y2 : (16 : Int32) ≤ x3 := by
                rcases rng_none (by decide) h3 with q | q
                · exact absurd (Int32.lt_of_lt_of_le q (by decide)) y
                · exact q
              simp [fX10_habit, kX10_habit, ent, entp, jX10_habit, bX10_habit_0, bX10_habit_1, bX10_habit_2, i_aload, i_getf, i_iceq, i_icge, i_iclt, i_ifeq, i_iload, i_ireturn, i_jmp, i_push, msk, lset1, lset2, clr, Value.category, Option.toList, List.cons_append, List.nil_append, List.length_cons, List.length_nil, hN, csk_1 q0, csk_1 q1, csk_1 q2, m, y, y2, cxe_1 hB e9]
          | some p =>
            obtain ⟨l3, e3⟩ := rng_some (by decide) h3
            subst e3
            by_cases y : p = 0
            · subst y
              simp only [if_true]
              refine CZ.of (CQ.no hE hI ?_)
              simp [fX10_habit, kX10_habit, ent, entp, jX10_habit, bX10_habit_0, bX10_habit_1, bX10_habit_2, i_aload, i_getf, i_iceq, i_icge, i_iclt, i_ifeq, i_iload, i_ireturn, i_jmp, i_push, msk, lset1, lset2, clr, Value.category, Option.toList, List.cons_append, List.nil_append, List.length_cons, List.length_nil, hN, csk_1 q0, csk_1 q1, csk_1 q2, m, (show nI 0 < 1 from by decide), cxe_1 hB e9]
            · simp only [y, if_false]
              have y1 : ¬ nI p < 1 := nI_nlt (a := p) (b := 1) (by omega) (by omega)
              have y2 : ¬ (16 : Int32) ≤ nI p := nI_ge (a := p) (b := 16) l3 (by decide)
              by_cases u : τ.1 1 = 8
              · simp only [u, if_true]
                have hM9 := hM1.1
                rw [u] at hM9
                refine CZ.of (CQ.ok hI ?_)
                have q3 : fX8_addHabit g [.ref (B + 98), .int (nI h), .int (nI a), .int (nI b), .int (nI p)] w = some (.inl (some (.int (-1))), w) := by
                  simp [fX8_addHabit, kX8_addHabit, ent, entp, bX8_addHabit_0, i_aload, i_dup, i_getf, i_iadd, i_iastore, i_iclt, i_iload, i_ireturn, i_push, i_putf, msk, lset1, lset2, clr, Value.category, Option.toList, List.cons_append, List.nil_append, List.length_cons, List.length_nil, gf_eq hM9, (show ¬ nI 8 < 8 from by decide)]
                simp [fX10_habit, kX10_habit, ent, entp, jX10_habit, bX10_habit_0, bX10_habit_1, bX10_habit_2, i_aload, i_getf, i_iceq, i_icge, i_iclt, i_ifeq, i_iload, i_ireturn, i_jmp, i_push, msk, lset1, lset2, clr, Value.category, Option.toList, List.cons_append, List.nil_append, List.length_cons, List.length_nil, hN, csk_1 q0, csk_1 q1, csk_1 q2, m, y1, y2, gf_eq hB, cxk_1 hB e8, cvk_4 hM1.1 q3]
              · simp only [u, if_false]
                obtain ⟨w', q3, q4, q5⟩ := addHabit_sp (g := g) hM1 (by omega) h a b p
                refine CZ.okw (hI.te hE (q5.mn fun a ha => by unfold rg at *; omega) ⟨q4, hM2.fr q5 (by unfold rg; omega), fun i hi => (hM3 i hi).fr q5 (fun j hj => by unfold rg; omega)⟩) ?_ (q5.mn fun a ha => CF.in (by unfold rg at ha; omega))
                simp [fX10_habit, kX10_habit, ent, entp, jX10_habit, bX10_habit_0, bX10_habit_1, bX10_habit_2, i_aload, i_getf, i_iceq, i_icge, i_iclt, i_ifeq, i_iload, i_ireturn, i_jmp, i_push, msk, lset1, lset2, clr, Value.category, Option.toList, List.cons_append, List.nil_append, List.length_cons, List.length_nil, hN, csk_1 q0, csk_1 q1, csk_1 q2, m, y1, y2, gf_eq hB, cxk_1 hB e8, cvk_4 hM1.1 q3]
theorem habit_r {g : GE} {w : Mem} {M fed kept : Nat} {fp : Int32} {tp : Nat → Int32} {rf : Nat → Nat} {δ : DE} {τ : TE} {im : Nat → TE} {x : Nat → Int32} (hg : FU g) (hd : WF δ) (hI : RI w M fed kept fp tp rf δ τ im x) (hV : τ.1 1 ≤ 8) (x0 x1 x2 x3 : Int32) : RZo w M (fX11_habit g [.ref M, .int x0, .int x1, .int x2, .int x3] w) (habitR τ x0 x1 x2 x3).1 (fed, kept, fp, tp, rfb rf (habitR τ x0 x1 x2 x3).1, δ, (habitR τ x0 x1 x2 x3).2, im) := by
  obtain ⟨w0, hw0, I0, F0⟩ := hI.t0
  obtain ⟨b1, b2, b3, b4, b5, b6, b7, b8⟩ := id hd.1
  obtain ⟨hO, hXO, hRK, hRZ, hrf⟩ := id I0
  obtain ⟨x1', x3', x27, x32, x33, x34⟩ := id hXO
  obtain ⟨hTp, hD, hR, hCp, hHb, hKp, hRP⟩ := id hRK
  have x0' : (va_up x 0 0) 0 = 0 := va_up_self _ _ _
  obtain ⟨N, hN⟩ : ∃ N, g.1 = N + 3 := ⟨g.1 - 3, by omega⟩
  obtain ⟨w1, p1, p2, p3⟩ := bad1_sp hg I0 x0' (c := 1) (r := 2) (C := 1) (R := 2) rfl rfl (by decide) (by decide)
  unfold habitR
  have q0 := in_sp (w := w0) hg x0 (n := 4) (y := 3) (by decide) (by decide)
  cases h0 : rng x0 4 with
  | none =>
    rw [h0] at q0
    simp only [bI, Option.isSome, Bool.false_eq_true, if_false] at q0
    refine RZo.of (RQo.no (v := .int 0) F0 p2 ?_ p3)
    simp [fX11_habit, kX11_habit, ent, entp, jX11_habit, bX11_habit_0, bX11_habit_1, bX11_habit_2, i_aaload, i_aload, i_dup, i_getf, i_iadd, i_iastore, i_iceq, i_icne, i_ifeq, i_ifne, i_iload, i_ireturn, i_jmp, i_push, i_putf, msk, lset1, lset2, clr, Value.category, Option.toList, List.cons_append, List.nil_append, List.length_cons, List.length_nil, hN, st_0 hI.1, hw0, csk_3 q0, cvk_3 hO p1]
  | some h =>
    rw [h0] at q0
    simp only [bI, Option.isSome, if_true] at q0
    obtain ⟨l0, e0⟩ := rng_some (by decide) h0
    subst e0
    have q1 := in_sp (w := w0) hg x1 (n := 100) (y := 99) (by decide) (by decide)
    cases h1 : rng x1 100 with
    | none =>
      rw [h1] at q1
      simp only [bI, Option.isSome, Bool.false_eq_true, if_false] at q1
      refine RZo.of (RQo.no (v := .int 0) F0 p2 ?_ p3)
      simp [fX11_habit, kX11_habit, ent, entp, jX11_habit, bX11_habit_0, bX11_habit_1, bX11_habit_2, i_aaload, i_aload, i_dup, i_getf, i_iadd, i_iastore, i_iceq, i_icne, i_ifeq, i_ifne, i_iload, i_ireturn, i_jmp, i_push, i_putf, msk, lset1, lset2, clr, Value.category, Option.toList, List.cons_append, List.nil_append, List.length_cons, List.length_nil, hN, st_0 hI.1, hw0, csk_3 q0, csk_3 q1, cvk_3 hO p1]
    | some a =>
      rw [h1] at q1
      simp only [bI, Option.isSome, if_true] at q1
      obtain ⟨l1, e1⟩ := rng_some (by decide) h1
      subst e1
      have q2 := in_sp (w := w0) hg x2 (n := 100) (y := 99) (by decide) (by decide)
      cases h2 : rng x2 100 with
      | none =>
        rw [h2] at q2
        simp only [bI, Option.isSome, Bool.false_eq_true, if_false] at q2
        refine RZo.of (RQo.no (v := .int 0) F0 p2 ?_ p3)
        simp [fX11_habit, kX11_habit, ent, entp, jX11_habit, bX11_habit_0, bX11_habit_1, bX11_habit_2, i_aaload, i_aload, i_dup, i_getf, i_iadd, i_iastore, i_iceq, i_icne, i_ifeq, i_ifne, i_iload, i_ireturn, i_jmp, i_push, i_putf, msk, lset1, lset2, clr, Value.category, Option.toList, List.cons_append, List.nil_append, List.length_cons, List.length_nil, hN, st_0 hI.1, hw0, csk_3 q0, csk_3 q1, csk_3 q2, cvk_3 hO p1]
      | some b =>
        rw [h2] at q2
        simp only [bI, Option.isSome, if_true] at q2
        obtain ⟨l2, e2⟩ := rng_some (by decide) h2
        subst e2
        by_cases z : a = b
        · subst z
          simp only [if_true]
          refine RZo.of (RQo.no (v := .int 0) F0 p2 ?_ p3)
          simp [fX11_habit, kX11_habit, ent, entp, jX11_habit, bX11_habit_0, bX11_habit_1, bX11_habit_2, i_aaload, i_aload, i_dup, i_getf, i_iadd, i_iastore, i_iceq, i_icne, i_ifeq, i_ifne, i_iload, i_ireturn, i_jmp, i_push, i_putf, msk, lset1, lset2, clr, Value.category, Option.toList, List.cons_append, List.nil_append, List.length_cons, List.length_nil, hN, st_0 hI.1, hw0, csk_3 q0, csk_3 q1, csk_3 q2, cvk_3 hO p1]
        · simp only [z, if_false]
          have m : ¬ nI a = nI b := mt (nI_eq (by omega) (by omega)).mp z
          have q3 := in1_sp hg (w := w0) x3
          cases h3 : rng x3 16 with
          | none =>
            rw [h3] at q3
            simp only [bI, Bool.false_eq_true, if_false] at q3
            refine RZo.of (RQo.no (v := .int 0) F0 p2 ?_ p3)
            simp [fX11_habit, kX11_habit, ent, entp, jX11_habit, bX11_habit_0, bX11_habit_1, bX11_habit_2, i_aaload, i_aload, i_dup, i_getf, i_iadd, i_iastore, i_iceq, i_icne, i_ifeq, i_ifne, i_iload, i_ireturn, i_jmp, i_push, i_putf, msk, lset1, lset2, clr, Value.category, Option.toList, List.cons_append, List.nil_append, List.length_cons, List.length_nil, hN, st_0 hI.1, hw0, csk_3 q0, csk_3 q1, csk_3 q2, csk_3 q3, m, cvk_3 hO p1]
          | some p =>
            rw [h3] at q3
            obtain ⟨l3, e3⟩ := rng_some (by decide) h3
            subst e3
            by_cases y : p = 0
            · subst y
              simp only [bI, bne_self_eq_false, Bool.false_eq_true, if_false] at q3
              simp only [if_true]
              refine RZo.of (RQo.no (v := .int 0) F0 p2 ?_ p3)
              simp [fX11_habit, kX11_habit, ent, entp, jX11_habit, bX11_habit_0, bX11_habit_1, bX11_habit_2, i_aaload, i_aload, i_dup, i_getf, i_iadd, i_iastore, i_iceq, i_icne, i_ifeq, i_ifne, i_iload, i_ireturn, i_jmp, i_push, i_putf, msk, lset1, lset2, clr, Value.category, Option.toList, List.cons_append, List.nil_append, List.length_cons, List.length_nil, hN, st_0 hI.1, hw0, csk_3 q0, csk_3 q1, csk_3 q2, csk_3 q3, m, cvk_3 hO p1]
            · have yb : (p != 0) = true := by simp [y]
              simp only [bI, yb, if_true] at q3
              simp only [y, if_false]
              by_cases u : τ.1 1 = 8
              · simp only [u, if_true]
                rw [u] at x33
                refine RZo.ok F0 I0 x0' ?_ (Fr.rf _ _)
                simp [fX11_habit, kX11_habit, ent, entp, jX11_habit, bX11_habit_0, bX11_habit_1, bX11_habit_2, i_aaload, i_aload, i_dup, i_getf, i_iadd, i_iastore, i_iceq, i_icne, i_ifeq, i_ifne, i_iload, i_ireturn, i_jmp, i_push, i_putf, msk, lset1, lset2, clr, Value.category, Option.toList, List.cons_append, List.nil_append, List.length_cons, List.length_nil, hN, st_0 hI.1, hw0, csk_3 q0, csk_3 q1, csk_3 q2, csk_3 q3, m, cvk_3 hO (bad0_sp hg hO x0' 1 2), gf_eq hO, mg_33, x33, (show nI 8 = 8 from rfl)]
              · simp only [u, if_false]
                obtain ⟨c, hc⟩ : ∃ c, τ.1 1 = c := ⟨_, rfl⟩
                rw [hc] at u hV x33
                have zc : ¬ nI c = 8 := fun q => u ((nI_eq (a := c) (b := 8) (by omega) (by decide)).mp q)
                have lc : c < 8 := by omega
                obtain ⟨u1, hu1⟩ : ∃ q, wi w0 0 (M + 159 + 1 + c) 0 (nI h) = q := ⟨_, rfl⟩
                have g1 := hHb.up (i := c) 0 (nI h)
                rw [hu1] at g1
                have F1 : Fr (fun a => a = M + 159 + 1 + c) w0 u1 := hu1 ▸ Fr.wi _ _ _ _ rfl
                have o1 := F1.at hO (by omega)
                obtain ⟨u2, hu2⟩ : ∃ q, wi u1 0 (M + 159 + 1 + c) 1 (nI a) = q := ⟨_, rfl⟩
                have g2 := g1.up (i := c) 1 (nI a)
                rw [hu2] at g2
                have F2 : Fr (fun a => a = M + 159 + 1 + c) u1 u2 := hu2 ▸ Fr.wi _ _ _ _ rfl
                have o2 := F2.at o1 (by omega)
                obtain ⟨u3, hu3⟩ : ∃ q, wi u2 0 (M + 159 + 1 + c) 2 (nI b) = q := ⟨_, rfl⟩
                have g3 := g2.up (i := c) 2 (nI b)
                rw [hu3] at g3
                have F3 : Fr (fun a => a = M + 159 + 1 + c) u2 u3 := hu3 ▸ Fr.wi _ _ _ _ rfl
                have o3 := F3.at o2 (by omega)
                obtain ⟨u4, hu4⟩ : ∃ q, wi u3 0 (M + 159 + 1 + c) 3 (nI p) = q := ⟨_, rfl⟩
                have g4 := g3.up (i := c) 3 (nI p)
                rw [hu4] at g4
                have F4 : Fr (fun a => a = M + 159 + 1 + c) u3 u4 := hu4 ▸ Fr.wi _ _ _ _ rfl
                have o4 : MO u4 M (va_up x 0 0) := F4.at o3 (by omega)
                obtain ⟨u5, hu5⟩ : ∃ q, mset u4 M (.inr (10, mo M (va_up (va_up x 0 0) 33 (nI (c + 1))))) = q := ⟨_, rfl⟩
                have o5 : MO u5 M (va_up (va_up x 0 0) 33 (nI (c + 1))) := hu5 ▸ ms_at _ _ _
                have F5 : Fr (fun a => a = M) u4 u5 := hu5 ▸ Fr.ms _ _ rfl
                have F : Fr (fun a => a = M ∨ a = M + 159 + 1 + c) w0 u5 := ((((F1.mn fun a ha => Or.inr ha).tr (F2.mn fun a ha => Or.inr ha)).tr (F3.mn fun a ha => Or.inr ha)).tr (F4.mn fun a ha => Or.inr ha)).tr (F5.mn fun a ha => Or.inl ha)
                refine RZo.ok F0 (I0.te (x' := va_up (va_up x 0 0) 33 (nI (c + 1))) (τ' := thb τ h a b p) (kept' := kept) (im' := im) (F.mn fun a ha => by unfold rg; omega) o5 ⟨x1', x3', x27, x32, ?_, x34⟩ ((hCp.fr F fun i hi => by omega).cg fun i j hi hj => by rw [thb_c _ _ _ _ _ hj]) ?_ ?_) (by rw [va_up_ne _ _ (by decide)]; exact x0') ?_ (F.mn fun a ha => by unfold rg; omega)
                · rw [va_up_self]
                  simp only [thb, hc, va_up_self]
                · have g5 := g4.fr F5 (fun i hi => by omega)
                  refine ⟨g5.1, fun k hk => (g5.2 k hk).cg fun i hi => ?_⟩
                  have : i = 0 ∨ i = 1 ∨ i = 2 ∨ i = 3 := by omega
                  by_cases y : k = c
                  · subst y
                    rcases this with q | q | q | q <;> subst q <;> simp [thb, hc, va_up]
                  · simp [thb, hc, y]
                · obtain ⟨c8, h8, k8⟩ := hKp
                  exact ⟨c8, h8.fr F fun i hi => by omega, k8⟩
                · simp [fX11_habit, kX11_habit, ent, entp, jX11_habit, bX11_habit_0, bX11_habit_1, bX11_habit_2, i_aaload, i_aload, i_dup, i_getf, i_iadd, i_iastore, i_iceq, i_icne, i_ifeq, i_ifne, i_iload, i_ireturn, i_jmp, i_push, i_putf, msk, lset1, lset2, clr, Value.category, Option.toList, List.cons_append, List.nil_append, List.length_cons, List.length_nil, hN, st_0 hI.1, hw0, csk_3 q0, csk_3 q1, csk_3 q2, csk_3 q3, m, cvk_3 hO (bad0_sp hg hO x0' 1 2), gf_eq hO, mg_33, mg_37, x33, zc, hHb.1.rd lc (by decide), va_rf, arwc (hHb.2 c lc) 0 0 rfl (by decide) (by decide), hu1, gf_eq o1, g1.1.rd lc (by decide), arwc (g1.2 c lc) 1 1 rfl (by decide) (by decide), hu2, gf_eq o2, g2.1.rd lc (by decide), arwc (g2.2 c lc) 2 2 rfl (by decide) (by decide), hu3, gf_eq o3, g3.1.rd lc (by decide), arwc (g3.2 c lc) 3 3 rfl (by decide) (by decide), hu4, gf_eq o4, nI_1, st_33 o4, hu5, gf_eq o5, va_up_self, hc]
def clrT (τ : TE) : TE := (va_up (va_up τ.1 0 0) 1 0, τ.2)
theorem forget_c {g : GE} {w : Mem} {B E fed kept : Nat} {fp : Int32} {tp : Nat → Int32} {rf : Nat → Nat} {δ : DE} {τ : TE} {im : Nat → TE} {lev nG : Nat} (hg : GD g) (hE : B + 132 ≤ E) (hI : CI g w B E fed kept fp tp rf δ τ im lev nG) : CZ g w B E (fed, kept, fp, tp, rf, δ, τ, im) lev nG (fX10_forget g [.ref B] w) (.inl (.int (nI (τ.1 0 + τ.1 1)))) (fed, kept, fp, tp, rf, δ, clrT τ, im) := by
  have hg1 := hg.1
  obtain ⟨D, D', hCC, hCT, hCN, hCL, hCM⟩ := id hI
  obtain ⟨hDD, hB, hTp, hD, hD', hSc, hr, hd, hfd, hkp⟩ := id hCC
  obtain ⟨b1, b2, b3, b4, b5, b6, b7, b8⟩ := id hd.1
  obtain ⟨hM1, hM2, hM3⟩ := id hCM
  obtain ⟨w', q1, q2, q3⟩ := clear_sp (g := g) hM1
  refine CZ.okw (hI.te hE (q3.mn fun a ha => by unfold rg; omega) ⟨q2, hM2.fr q3 (by omega), fun i hi => (hM3 i hi).fr q3 (fun j hj => by omega)⟩) ?_ (q3.mn fun a ha => CF.in (by omega))
  simp [fX10_forget, kX10_forget, ent, entp, bX10_forget_0, i_aload, i_getf, i_iadd, i_iload, i_ireturn, i_istore, msk, lset1, lset2, clr, Value.category, Option.toList, List.cons_append, List.nil_append, List.length_cons, List.length_nil, gf_eq hB, gf_eq hM1.1, nI_add, cvk_0 hM1.1 q1]
theorem forget_r {g : GE} {w : Mem} {M fed kept : Nat} {fp : Int32} {tp : Nat → Int32} {rf : Nat → Nat} {δ : DE} {τ : TE} {im : Nat → TE} {x : Nat → Int32} (hg : FU g) (hd : WF δ) (hI : RI w M fed kept fp tp rf δ τ im x) : RZo w M (fX11_forget g [.ref M] w) (.inl (.int (nI (τ.1 0 + τ.1 1)))) (fed, kept, fp, tp, rf, δ, clrT τ, im) := by
  obtain ⟨w0, hw0, I0, F0⟩ := hI.t0
  obtain ⟨b1, b2, b3, b4, b5, b6, b7, b8⟩ := id hd.1
  obtain ⟨hO, hXO, hRK, hRZ, hrf⟩ := id I0
  obtain ⟨x1', x3', x27, x32, x33, x34⟩ := id hXO
  obtain ⟨hTp, hD, hR, hCp, hHb, hKp, hRP⟩ := id hRK
  have x0' : (va_up x 0 0) 0 = 0 := va_up_self _ _ _
  obtain ⟨w1, hw1⟩ : ∃ q, mset w0 M (.inr (10, mo M (va_up (va_up x 0 0) 32 0))) = q := ⟨_, rfl⟩
  have o1 : MO w1 M (va_up (va_up x 0 0) 32 0) := hw1 ▸ ms_at _ _ _
  obtain ⟨w2, hw2⟩ : ∃ q, mset w1 M (.inr (10, mo M (va_up (va_up (va_up x 0 0) 32 0) 33 0))) = q := ⟨_, rfl⟩
  have o2 : MO w2 M (va_up (va_up (va_up x 0 0) 32 0) 33 0) := hw2 ▸ ms_at _ _ _
  have F : Fr (fun a => a = M) w0 w2 := (hw1 ▸ Fr.ms _ _ rfl : Fr (fun a => a = M) w0 w1).tr (hw2 ▸ Fr.ms _ _ rfl)
  refine RZo.ok F0 (I0.te (x' := va_up (va_up (va_up x 0 0) 32 0) 33 0) (τ' := clrT τ) (kept' := kept) (im' := im) (F.mn fun a ha => Or.inl ha) o2 ⟨x1', x3', x27, rfl, rfl, x34⟩ (hCp.fr F fun i hi => by omega) (hHb.fr F fun i hi => by omega) ?_) x0' ?_ (F.mn fun a ha => by unfold rg; omega)
  · obtain ⟨c8, h8, k8⟩ := hKp
    exact ⟨c8, h8.fr F fun i hi => by omega, k8⟩
  · simp [fX11_forget, kX11_forget, ent, entp, bX11_forget_0, i_aload, i_getf, i_iadd, i_iload, i_ireturn, i_istore, i_push, i_putf, msk, lset1, lset2, clr, Value.category, Option.toList, List.cons_append, List.nil_append, List.length_cons, List.length_nil, st_0 hI.1, hw0, gf_eq hO, mg_32, mg_33, x32, x33, nI_add, st_32 hO, hw1, st_33 o1, hw2]
def statusO (rf : Nat → Nat) (x0 : Int32) : OUT := .inl (.int (match rng x0 3 with | some j => nI (rf j) | none => -1))
theorem status_c {g : GE} {w : Mem} {B E fed kept : Nat} {fp : Int32} {tp : Nat → Int32} {rf : Nat → Nat} {δ : DE} {τ : TE} {im : Nat → TE} {lev nG : Nat} (hg : GD g) (hE : B + 132 ≤ E) (hI : CI g w B E fed kept fp tp rf δ τ im lev nG) (x0 : Int32) : CQ g w B E fed kept fp tp rf δ τ im lev nG (fX10_status g [.ref B, .int x0] w) (statusO rf x0) := by
  have hg1 := hg.1
  obtain ⟨D, D', hCC, hCT, hCN, hCL, hCM⟩ := id hI
  obtain ⟨hDD, hB, hTp, hD, hD', hSc, hr, hd, hfd, hkp⟩ := id hCC
  obtain ⟨aM, aS, aG, n1', hG, hX⟩ := id hCT
  obtain ⟨b1, b2, b3, b4, b5, b6, b7, b8⟩ := id hd.1
  have hT := hG.tb
  have hn := nR_le hd
  obtain ⟨N, hN⟩ : ∃ N, g.1 = N + 12 := ⟨g.1 - 12, by omega⟩
  unfold statusO
  refine CQ.ok hI ?_
  obtain ⟨f9, hr9, -⟩ := id hr
  cases h : rng x0 3 with
  | some j =>
    obtain ⟨l, e⟩ := rng_some (by decide) h
    subst e
    have e1 : ¬ nI j < 0 := nI_pos (by omega)
    have e2 : ¬ (3 : Int32) ≤ nI j := nI_ge l (by decide)
    simp [fX10_status, kX10_status, ent, entp, jX10_status, bX10_status_0, bX10_status_1, bX10_status_2, i_alen, i_aload, i_getf, i_iaload, i_icge, i_iflt, i_iload, i_ireturn, i_jmp, i_push, msk, lset1, lset2, clr, Value.category, Option.toList, List.cons_append, List.nil_append, List.length_cons, List.length_nil, hN, e1, gf_eq hB, hr9, (show Int32.ofNat 3 = 3 from rfl), e2, hr.rd l (by decide)]
  | none =>
    by_cases e1 : x0 < 0
    · simp [fX10_status, kX10_status, ent, entp, jX10_status, bX10_status_0, bX10_status_1, bX10_status_2, i_alen, i_aload, i_getf, i_iaload, i_icge, i_iflt, i_iload, i_ireturn, i_jmp, i_push, msk, lset1, lset2, clr, Value.category, Option.toList, List.cons_append, List.nil_append, List.length_cons, List.length_nil, hN, e1]
    · have e2 : (3 : Int32) ≤ x0 := by
        rcases rng_none (by decide) h with q | q
        · exact absurd q e1
        · exact q
      simp [fX10_status, kX10_status, ent, entp, jX10_status, bX10_status_0, bX10_status_1, bX10_status_2, i_alen, i_aload, i_getf, i_iaload, i_icge, i_iflt, i_iload, i_ireturn, i_jmp, i_push, msk, lset1, lset2, clr, Value.category, Option.toList, List.cons_append, List.nil_append, List.length_cons, List.length_nil, hN, e1, gf_eq hB, hr9, (show Int32.ofNat 3 = 3 from rfl), e2]
theorem status_r {g : GE} {w : Mem} {M fed kept : Nat} {fp : Int32} {tp : Nat → Int32} {rf : Nat → Nat} {δ : DE} {τ : TE} {im : Nat → TE} {x : Nat → Int32} (hg : FU g) (hd : WF δ) (hI : RI w M fed kept fp tp rf δ τ im x) (x0 : Int32) : RQo w M fed kept fp tp rf δ τ im (fX11_status g [.ref M, .int x0] w) (statusO rf x0) := by
  obtain ⟨w0, hw0, I0, F0⟩ := hI.t0
  obtain ⟨b1, b2, b3, b4, b5, b6, b7, b8⟩ := id hd.1
  obtain ⟨hO, hXO, hRK, hRZ, hrf⟩ := id I0
  obtain ⟨x1', x3', x27, x32, x33, x34⟩ := id hXO
  obtain ⟨hTp, hD, hR, hCp, hHb, hKp, hRP⟩ := id hRK
  have hn := nR_le hd
  have x0' : (va_up x 0 0) 0 = 0 := va_up_self _ _ _
  obtain ⟨N, hN⟩ : ∃ N, g.1 = N + 16 := ⟨g.1 - 16, by omega⟩
  unfold statusO
  refine RQo.ok F0 I0 x0' ?_ (Fr.rf _ _)
  have q9 := in_sp (w := w0) hg x0 (n := 3) (y := 2) (by decide) (by decide)
  cases h : rng x0 3 with
  | some j =>
    rw [h] at q9
    simp only [bI, Option.isSome, if_true] at q9
    obtain ⟨l, e⟩ := rng_some (by decide) h
    subst e
    simp [fX11_status, kX11_status, ent, entp, jX11_status, bX11_status_0, bX11_status_1, i_aload, i_getf, i_iaload, i_ifeq, i_iload, i_ireturn, i_jmp, i_push, i_putf, msk, lset1, lset2, clr, Value.category, Option.toList, List.cons_append, List.nil_append, List.length_cons, List.length_nil, hN, st_0 hI.1, hw0, csk_3 q9, gf_eq hO, mg_9, hrf.rd l (by decide)]
  | none =>
    rw [h] at q9
    simp only [bI, Option.isSome, Bool.false_eq_true, if_false] at q9
    simp [fX11_status, kX11_status, ent, entp, jX11_status, bX11_status_0, bX11_status_1, i_aload, i_getf, i_iaload, i_ifeq, i_iload, i_ireturn, i_jmp, i_push, i_putf, msk, lset1, lset2, clr, Value.category, Option.toList, List.cons_append, List.nil_append, List.length_cons, List.length_nil, hN, st_0 hI.1, hw0, csk_3 q9]
def countO (fed kept : Nat) (τ : TE) (x0 : Int32) : OUT := .inl (.int (match rng x0 4 with | some j => nI (if j = 0 then τ.1 0 else if j = 1 then τ.1 1 else if j = 2 then kept else fed) | none => -1))
theorem rng_sw {x : Int32} (h : rng x 4 = none) : x.toInt < 0 ∨ 3 < x.toInt := by
  unfold rng at h
  split at h
  · cases h
  · omega
theorem count_c {g : GE} {w : Mem} {B E fed kept : Nat} {fp : Int32} {tp : Nat → Int32} {rf : Nat → Nat} {δ : DE} {τ : TE} {im : Nat → TE} {lev nG : Nat} (hg : GD g) (hE : B + 132 ≤ E) (hI : CI g w B E fed kept fp tp rf δ τ im lev nG) (x0 : Int32) : CQ g w B E fed kept fp tp rf δ τ im lev nG (fX10_count g [.ref B, .int x0] w) (countO fed kept τ x0) := by
  have hg1 := hg.1
  obtain ⟨D, D', hCC, hCT, hCN, hCL, hCM⟩ := id hI
  obtain ⟨hDD, hB, hTp, hD, hD', hSc, hr, hd, hfd, hkp⟩ := id hCC
  obtain ⟨aM, aS, aG, n1', hG, hX⟩ := id hCT
  obtain ⟨b1, b2, b3, b4, b5, b6, b7, b8⟩ := id hd.1
  have hT := hG.tb
  have hn := nR_le hd
  obtain ⟨N, hN⟩ : ∃ N, g.1 = N + 12 := ⟨g.1 - 12, by omega⟩
  unfold countO
  refine CQ.ok hI ?_
  obtain ⟨hM1, hM2, hM3⟩ := id hCM
  have t7 : ∀ j, j < 7 → (nI j).toInt = (j : Int) := fun j hj => nI_toInt (by omega)
  cases h : rng x0 4 with
  | some j =>
    obtain ⟨l, e⟩ := rng_some (by decide) h
    subst e
    have : j = 0 ∨ j = 1 ∨ j = 2 ∨ j = 3 := by omega
    rcases this with z | z | z | z <;> subst z <;> simp [fX10_count, kX10_count, ent, entp, bX10_count_0, i_aload, i_getf, i_iload, i_ireturn, i_push, i_tsw, msk, lset1, lset2, clr, Value.category, Option.toList, List.cons_append, List.nil_append, List.length_cons, List.length_nil, hN, gf_eq hB, gf_eq hM1.1, t7]
  | none =>
    have z := rng_sw h
    simp [fX10_count, kX10_count, ent, entp, bX10_count_0, i_aload, i_getf, i_iload, i_ireturn, i_push, i_tsw, msk, lset1, lset2, clr, Value.category, Option.toList, List.cons_append, List.nil_append, List.length_cons, List.length_nil, hN, z]
theorem count_r {g : GE} {w : Mem} {M fed kept : Nat} {fp : Int32} {tp : Nat → Int32} {rf : Nat → Nat} {δ : DE} {τ : TE} {im : Nat → TE} {x : Nat → Int32} (hg : FU g) (hd : WF δ) (hI : RI w M fed kept fp tp rf δ τ im x) (x0 : Int32) : RQo w M fed kept fp tp rf δ τ im (fX11_count g [.ref M, .int x0] w) (countO fed kept τ x0) := by
  obtain ⟨w0, hw0, I0, F0⟩ := hI.t0
  obtain ⟨b1, b2, b3, b4, b5, b6, b7, b8⟩ := id hd.1
  obtain ⟨hO, hXO, hRK, hRZ, hrf⟩ := id I0
  obtain ⟨x1', x3', x27, x32, x33, x34⟩ := id hXO
  obtain ⟨hTp, hD, hR, hCp, hHb, hKp, hRP⟩ := id hRK
  have hn := nR_le hd
  have x0' : (va_up x 0 0) 0 = 0 := va_up_self _ _ _
  obtain ⟨N, hN⟩ : ∃ N, g.1 = N + 16 := ⟨g.1 - 16, by omega⟩
  unfold countO
  refine RQo.ok F0 I0 x0' ?_ (Fr.rf _ _)
  have t7 : ∀ j, j < 7 → (nI j).toInt = (j : Int) := fun j hj => nI_toInt (by omega)
  cases h : rng x0 4 with
  | some j =>
    obtain ⟨l, e⟩ := rng_some (by decide) h
    subst e
    have : j = 0 ∨ j = 1 ∨ j = 2 ∨ j = 3 := by omega
    rcases this with z | z | z | z <;> subst z <;> simp [fX11_count, kX11_count, ent, entp, bX11_count_0, i_aload, i_getf, i_iload, i_ireturn, i_push, i_putf, i_tsw, msk, lset1, lset2, clr, Value.category, Option.toList, List.cons_append, List.nil_append, List.length_cons, List.length_nil, hN, st_0 hI.1, hw0, gf_eq hO, mg_32, mg_33, mg_34, mg_1, x32, x33, x34, x1', t7]
  | none =>
    have z := rng_sw h
    simp [fX11_count, kX11_count, ent, entp, bX11_count_0, i_aload, i_getf, i_iload, i_ireturn, i_push, i_putf, i_tsw, msk, lset1, lset2, clr, Value.category, Option.toList, List.cons_append, List.nil_append, List.length_cons, List.length_nil, hN, st_0 hI.1, hw0, z]
