/-! ===== likeliest, slips, likely ===== -/
def zL (f : Nat → Nat) : Option Nat → Int64
  | none => 0
  | some j => lN (f j)
abbrev lkK (δ : DE) (τ : TE) (n : Nat) : Option Nat := amxP (fun i => decide (0 < odK δ τ i)) (odK δ τ) n
/-- the likeliest so far, and one more -/
theorem lk_s {δ : DE} {τ : TE} (hV : TV δ τ) (k : Nat) : (lN (odK δ τ k) ≤ zL (odK δ τ) (lkK δ τ k) ∧ lkK δ τ (k + 1) = lkK δ τ k) ∨ (¬ lN (odK δ τ k) ≤ zL (odK δ τ) (lkK δ τ k) ∧ lkK δ τ (k + 1) = some k) := by
  have lk := odK_le hV k
  have e : lkK δ τ (k + 1) = if decide (0 < odK δ τ k) = true then (match lkK δ τ k with
    | none => some k
    | some j => if odK δ τ j < odK δ τ k then some k else some j) else lkK δ τ k := rfl
  cases hA : lkK δ τ k with
  | none =>
    have m : (lN (odK δ τ k) ≤ 0) ↔ odK δ τ k ≤ 0 := pk_lLE (b := 0) (by omega) (by decide)
    rw [e, hA]
    by_cases z : 0 < odK δ τ k
    · right
      exact ⟨fun q => by have := m.mp q; omega, by simp [z]⟩
    · left
      exact ⟨m.mpr (by omega), by simp [z]⟩
  | some j =>
    have lj := odK_le hV j
    have m : (lN (odK δ τ k) ≤ lN (odK δ τ j)) ↔ odK δ τ k ≤ odK δ τ j := pk_lLE (by omega) (by omega)
    rw [e, hA]
    by_cases z : odK δ τ j < odK δ τ k
    · right
      refine ⟨fun q => by have := m.mp q; omega, ?_⟩
      have z0 : 0 < odK δ τ k := by omega
      simp [z, z0]
    · left
      refine ⟨m.mpr (by omega), ?_⟩
      by_cases z0 : 0 < odK δ τ k
      · simp [z, z0]
      · simp [z0]
def likeliestO (δ : DE) (τ : TE) : OUT := .inl (.int (oI (lkK δ τ (nR δ))))
theorem likeliest_c {g : GE} {w : Mem} {B E fed kept : Nat} {fp : Int32} {tp : Nat → Int32} {rf : Nat → Nat} {δ : DE} {τ : TE} {im : Nat → TE} {lev nG : Nat} (hV : TV δ τ) (hg : GD g) (hE : B + 132 ≤ E) (hI : CI g w B E fed kept fp tp rf δ τ im lev nG) : CQ g w B E fed kept fp tp rf δ τ im lev nG (fX10_likeliest g [.ref B] w) (likeliestO δ τ) := by
  have hg1 := hg.1
  obtain ⟨D, D', hCC, hCT, hCN, hCL, hCM⟩ := id hI
  obtain ⟨hDD, hB, hTp, hD, hD', hSc, hr, hd, hfd, hkp⟩ := id hCC
  obtain ⟨aM, aS, aG, n1', hG, hX⟩ := id hCT
  obtain ⟨b1, b2, b3, b4, b5, b6, b7, b8⟩ := id hd.1
  have hT := hG.tb
  have hn := nR_le hd
  obtain ⟨N, hN⟩ : ∃ N, g.1 = N + 1 := ⟨g.1 - 1, by omega⟩
  unfold likeliestO
  clear hT hG hX hB hD hr hDD hTp hD' hSc hCC hCT
  obtain ⟨D, D', aM, aS, aG, n1, w', hCC, p1, ⟨bb, hS0⟩, hG, p2, hCC', hG', I', FF⟩ := weighed hg hE hI hV
  obtain ⟨-, hB, -, hD, -, -, hr, -⟩ := id hCC
  obtain ⟨-, hB', -, hD2, -⟩ := id hCC'
  have hT := hG.tb
  have hT' := hG'.tb

  refine CQ.okw I' ?_ FF
  obtain ⟨N2, hN2⟩ : ∃ N, g.1 = N + 1 := ⟨g.1 - 1, by omega⟩
  have L := lpF (fun f (s : Lv) => jX10_likeliest g f 1 [] s w') (fun k => [some (.ref B), some (.int (oI (lkK δ τ k))), some (.long (zL (odK δ τ) (lkK δ τ k))), none, some (.int (nI k)), none, none]) (some (.inl (some (.int (oI (lkK δ τ (nR δ))))), w')) 2 1 (nR δ)
    (fun k hk f => by
      refine ⟨f, Nat.le_refl _, ?_⟩
      have o1 := oddsOf_sp hg1 (i := k) hd hV p2
      have m1 := hG'.mk hk
      generalize lN (mkN (δ.1 3) (dgR δ k)) = Y at m1 o1
      rcases lk_s hV k with ⟨z1, z2⟩ | ⟨z1, z2⟩
      · rw [z2]
        have z3 := (lg_cmp_le _ _).mpr z1
        generalize lkK δ τ k = X at z1 z3 ⊢
        simp [jX10_likeliest, bX10_likeliest_0, bX10_likeliest_1, bX10_likeliest_2, i_aload, i_getf, i_icge, i_ifle, i_iinc, i_iload, i_ireturn, i_istore, i_jmp, i_laload, i_lcmp, i_lload, i_lstore, i_push, msk, lset1, lset2, clr, Value.category, Option.toList, List.cons_append, List.nil_append, List.length_cons, List.length_nil, gf_eq hB', gf_eq hT', nI_ge hk (by omega), m1, cvk_1 p2.1 o1, z3, nI_1]
      · rw [z2]
        have z3 := mt (lg_cmp_le _ _).mp z1
        have eo : oI (some k) = nI k := rfl
        have ez : zL (odK δ τ) (some k) = lN (odK δ τ k) := rfl
        rw [eo, ez]
        generalize oI (lkK δ τ k) = X1
        generalize zL (odK δ τ) (lkK δ τ k) = X2 at z3 ⊢
        simp [jX10_likeliest, bX10_likeliest_0, bX10_likeliest_1, bX10_likeliest_2, i_aload, i_getf, i_icge, i_ifle, i_iinc, i_iload, i_ireturn, i_istore, i_jmp, i_laload, i_lcmp, i_lload, i_lstore, i_push, msk, lset1, lset2, clr, Value.category, Option.toList, List.cons_append, List.nil_append, List.length_cons, List.length_nil, gf_eq hB', gf_eq hT', nI_ge hk (by omega), m1, cvk_1 p2.1 o1, z3, nI_1])
    (fun f => by
      generalize lkK δ τ (nR δ) = X
      simp [jX10_likeliest, bX10_likeliest_0, bX10_likeliest_1, bX10_likeliest_2, i_aload, i_getf, i_icge, i_ifle, i_iinc, i_iload, i_ireturn, i_istore, i_jmp, i_laload, i_lcmp, i_lload, i_lstore, i_push, msk, lset1, lset2, clr, Value.category, Option.toList, List.cons_append, List.nil_append, List.length_cons, List.length_nil, gf_eq hB', gf_eq hT'])
  rw [← L N2 (by omega)]
  simp [fX10_likeliest, kX10_likeliest, ent, entp, jX10_likeliest, bX10_likeliest_0, bX10_likeliest_1, bX10_likeliest_2, i_aload, i_getf, i_icge, i_ifle, i_iinc, i_iload, i_ireturn, i_istore, i_jmp, i_laload, i_lcmp, i_lload, i_lstore, i_push, msk, lset1, lset2, clr, Value.category, Option.toList, List.cons_append, List.nil_append, List.length_cons, List.length_nil, hN2, gf_eq hB, cvk_2 hS0 p1, nI_0, lkK, amxP, oI, zL]
theorem likeliest_r {g : GE} {w : Mem} {M fed kept : Nat} {fp : Int32} {tp : Nat → Int32} {rf : Nat → Nat} {δ : DE} {τ : TE} {im : Nat → TE} {x : Nat → Int32} (hV : TV δ τ) (hg : FU g) (hd : WF δ) (hI : RI w M fed kept fp tp rf δ τ im x) : RQo w M fed kept fp tp rf δ τ im (fX11_likeliest g [.ref M] w) (likeliestO δ τ) := by
  obtain ⟨w0, hw0, I0, F0⟩ := hI.t0
  obtain ⟨b1, b2, b3, b4, b5, b6, b7, b8⟩ := id hd.1
  obtain ⟨hO, hXO, hRK, hRZ, hrf⟩ := id I0
  obtain ⟨x1', x3', x27, x32, x33, x34⟩ := id hXO
  obtain ⟨hTp, hD, hR, hCp, hHb, hKp, hRP⟩ := id hRK
  have hn := nR_le hd
  have x0' : (va_up x 0 0) 0 = 0 := va_up_self _ _ _
  obtain ⟨N, hN⟩ : ∃ N, g.1 = N + 1 := ⟨g.1 - 1, by omega⟩
  unfold likeliestO
  refine RQo.ok F0 I0 x0' ?_ (Fr.rf _ _)
  obtain ⟨N2, hN2⟩ : ∃ N, g.1 = N + 1 := ⟨g.1 - 1, by omega⟩
  have L := lpF (fun f (s : Lv) => jX11_likeliest g f 1 [] s w0) (fun k => [some (.ref M), some (.int (oI (lkK δ τ k))), some (.long (zL (odK δ τ) (lkK δ τ k))), none, some (.int (nI k)), none, none]) (some (.inl (some (.int (oI (lkK δ τ (nR δ))))), w0)) 2 1 (nR δ)
    (fun k hk f => by
      refine ⟨f, Nat.le_refl _, ?_⟩
      have o1 := oddsBy_sp hg hd hV hO x32 x33 hD hR hCp hHb hk
      rcases lk_s hV k with ⟨z1, z2⟩ | ⟨z1, z2⟩
      · rw [z2]
        have z3 : ¬ 0 < lg_cmp (lN (odK δ τ k)) (zL (odK δ τ) (lkK δ τ k)) := fun q => (Int32.not_lt.mpr ((lg_cmp_le _ _).mpr z1)) q
        generalize lkK δ τ k = X at z1 z3 ⊢
        simp [jX11_likeliest, bX11_likeliest_0, bX11_likeliest_1, bX11_likeliest_2, i_aload, i_getf, i_icge, i_ifgt, i_iinc, i_iload, i_ireturn, i_istore, i_jmp, i_lcmp, i_lload, i_lstore, i_push, i_putf, msk, lset1, lset2, clr, Value.category, Option.toList, List.cons_append, List.nil_append, List.length_cons, List.length_nil, gf_eq hO, mg_27, x27, nI_ge hk (by omega), cvk_1 hO o1, z3, nI_1]
      · rw [z2]
        have z3 : 0 < lg_cmp (lN (odK δ τ k)) (zL (odK δ τ) (lkK δ τ k)) := Int32.not_le.mp (mt (lg_cmp_le _ _).mp z1)
        have eo : oI (some k) = nI k := rfl
        have ez : zL (odK δ τ) (some k) = lN (odK δ τ k) := rfl
        rw [eo, ez]
        generalize oI (lkK δ τ k) = X1
        generalize zL (odK δ τ) (lkK δ τ k) = X2 at z3 ⊢
        simp [jX11_likeliest, bX11_likeliest_0, bX11_likeliest_1, bX11_likeliest_2, i_aload, i_getf, i_icge, i_ifgt, i_iinc, i_iload, i_ireturn, i_istore, i_jmp, i_lcmp, i_lload, i_lstore, i_push, i_putf, msk, lset1, lset2, clr, Value.category, Option.toList, List.cons_append, List.nil_append, List.length_cons, List.length_nil, gf_eq hO, mg_27, x27, nI_ge hk (by omega), cvk_1 hO o1, z3, nI_1])
    (fun f => by
      generalize lkK δ τ (nR δ) = X
      simp [jX11_likeliest, bX11_likeliest_0, bX11_likeliest_1, bX11_likeliest_2, i_aload, i_getf, i_icge, i_ifgt, i_iinc, i_iload, i_ireturn, i_istore, i_jmp, i_lcmp, i_lload, i_lstore, i_push, i_putf, msk, lset1, lset2, clr, Value.category, Option.toList, List.cons_append, List.nil_append, List.length_cons, List.length_nil, gf_eq hO, mg_27, x27])
  rw [← L N2 (by omega)]
  simp [fX11_likeliest, kX11_likeliest, ent, entp, jX11_likeliest, bX11_likeliest_0, bX11_likeliest_1, bX11_likeliest_2, i_aload, i_getf, i_icge, i_ifgt, i_iinc, i_iload, i_ireturn, i_istore, i_jmp, i_lcmp, i_lload, i_lstore, i_push, i_putf, msk, lset1, lset2, clr, Value.category, Option.toList, List.cons_append, List.nil_append, List.length_cons, List.length_nil, hN2, st_0 hI.1, hw0, nI_0, lkK, amxP, oI, zL]
abbrev fsK (δ : DE) (τ : TE) (n : Nat) : Option Nat := amnP tru (slK δ τ) n
theorem slK_le (δ : DE) {τ : TE} (hV : TV δ τ) (i : Nat) : slK δ τ i ≤ 12 := Nat.le_trans (cntF_le _ _) hV.1
def slipsO (δ : DE) (τ : TE) (x0 : Int32) : OUT := 
  match rng x0 (1 + 1) with
  | none => .inr (1, 2)
  | some n0 =>
    .inl (.int (if n0 = 0 then oV (slK δ τ) (fsK δ τ (nR δ)) else oI (fsK δ τ (nR δ))))
theorem slips_c {g : GE} {w : Mem} {B E fed kept : Nat} {fp : Int32} {tp : Nat → Int32} {rf : Nat → Nat} {δ : DE} {τ : TE} {im : Nat → TE} {lev nG : Nat} (hV : TV δ τ) (hg : GD g) (hE : B + 132 ≤ E) (hI : CI g w B E fed kept fp tp rf δ τ im lev nG) (x0 : Int32) : CQ g w B E fed kept fp tp rf δ τ im lev nG (fX10_slips g [.ref B, .int x0] w) (slipsO δ τ x0) := by
  have hg1 := hg.1
  obtain ⟨D, D', hCC, hCT, hCN, hCL, hCM⟩ := id hI
  obtain ⟨hDD, hB, hTp, hD, hD', hSc, hr, hd, hfd, hkp⟩ := id hCC
  obtain ⟨aM, aS, aG, n1', hG, hX⟩ := id hCT
  obtain ⟨b1, b2, b3, b4, b5, b6, b7, b8⟩ := id hd.1
  have hT := hG.tb
  have hn := nR_le hd
  obtain ⟨N, hN⟩ : ∃ N, g.1 = N + 1 := ⟨g.1 - 1, by omega⟩
  unfold slipsO
  have q0 := needWhat_sp hg1 hB hr x0 (n := 1) (y := 1) rfl (by decide)
  cases h0 : rng x0 (1 + 1) with
  | none =>
    rw [h0] at q0
    simp only [tst, Option.isSome, Bool.false_eq_true, if_false] at q0
    refine CQ.no hE hI ?_
    simp [fX10_slips, kX10_slips, ent, entp, jX10_slips, bX10_slips_0, bX10_slips_1, bX10_slips_2, bX10_slips_3, bX10_slips_4, i_aload, i_getf, i_iceq, i_icge, i_ifne, i_iinc, i_iload, i_ireturn, i_istore, i_jmp, i_laload, i_push, msk, lset1, lset2, clr, Value.category, Option.toList, List.cons_append, List.nil_append, List.length_cons, List.length_nil, hN, cxe_2 hB q0]
  | some n0 =>
    rw [h0] at q0
    simp only [tst, Option.isSome, if_true] at q0
    obtain ⟨l0, e0⟩ := rng_some (by omega) h0
    subst e0
    dsimp only
    clear hT hG hX hB hD hr hDD hTp hD' hSc hCC hCT q0
    obtain ⟨D, D', aM, aS, aG, n1, w', hCC, p1, ⟨bb, hS0⟩, hG, p2, hCC', hG', I', FF⟩ := weighed hg hE hI hV
    obtain ⟨-, hB, -, hD, -, -, hr, -⟩ := id hCC
    obtain ⟨-, hB', -, hD2, -⟩ := id hCC'
    have hT := hG.tb
    have hT' := hG'.tb

    have q0 := needWhat_sp hg1 hB hr (nI n0) (n := 1) (y := 1) rfl (by decide)
    rw [h0] at q0
    simp only [tst, Option.isSome, if_true] at q0
    refine CQ.okw I' ?_ FF
    obtain ⟨N2, hN2⟩ : ∃ N, g.1 = N + 1 := ⟨g.1 - 1, by omega⟩
    have L := lpF (fun f (s : Lv) => jX10_slips g f 1 [] s w') (fun k => [some (.ref B), some (.int (nI n0)), some (.int (oI (fsK δ τ k))), some (.int (oV (slK δ τ) (fsK δ τ k))), some (.int (nI k)), none]) (some (.inl (some (.int (if n0 = 0 then oV (slK δ τ) (fsK δ τ (nR δ)) else oI (fsK δ τ (nR δ))))), w')) 3 2 (nR δ)
      (fun k hk f => by
        have o1 := slipsOf_sp hg1 (i := k) hd hV p2
        have m1 := hG'.mk hk
        have ls := slK_le δ hV k
        generalize lN (mkN (δ.1 3) (dgR δ k)) = Y at m1 o1
        cases hA : fsK δ τ k with
        | none =>
          refine ⟨f, Nat.le_refl _, ?_⟩
          have e9 : fsK δ τ (k + 1) = some k := by simp [fsK, amnP, show amnP tru (slK δ τ) k = none from hA]
          rw [e9]
          simp [jX10_slips, bX10_slips_0, bX10_slips_1, bX10_slips_2, bX10_slips_3, bX10_slips_4, i_aload, i_getf, i_iceq, i_icge, i_ifne, i_iinc, i_iload, i_ireturn, i_istore, i_jmp, i_laload, i_push, msk, lset1, lset2, clr, Value.category, Option.toList, List.cons_append, List.nil_append, List.length_cons, List.length_nil, gf_eq hB', gf_eq hT', nI_ge hk (by omega), m1, cvk_1 p2.1 o1, oI, oV, nI_1]
        | some j =>
          have ljk := amnP_lt hA
          have nn := nI_nn (y := j) (by omega)
          have lj := slK_le δ hV j
          by_cases z : slK δ τ k < slK δ τ j
          · refine ⟨f, Nat.le_refl _, ?_⟩
            have e9 : fsK δ τ (k + 1) = some k := by simp [fsK, amnP, show amnP tru (slK δ τ) k = some j from hA, z]
            rw [e9]
            simp [jX10_slips, bX10_slips_0, bX10_slips_1, bX10_slips_2, bX10_slips_3, bX10_slips_4, i_aload, i_getf, i_iceq, i_icge, i_ifne, i_iinc, i_iload, i_ireturn, i_istore, i_jmp, i_laload, i_push, msk, lset1, lset2, clr, Value.category, Option.toList, List.cons_append, List.nil_append, List.length_cons, List.length_nil, gf_eq hB', gf_eq hT', nI_ge hk (by omega), m1, cvk_1 p2.1 o1, oI, oV, nn, nI_ge z (by omega), nI_1]
          · refine ⟨f + 1, by omega, ?_⟩
            have e9 : fsK δ τ (k + 1) = some j := by simp [fsK, amnP, show amnP tru (slK δ τ) k = some j from hA, z]
            rw [e9]
            rw [show f + 3 = (f + 1) + 2 from rfl]
            generalize f + 1 = F
            simp [jX10_slips, bX10_slips_0, bX10_slips_1, bX10_slips_2, bX10_slips_3, bX10_slips_4, i_aload, i_getf, i_iceq, i_icge, i_ifne, i_iinc, i_iload, i_ireturn, i_istore, i_jmp, i_laload, i_push, msk, lset1, lset2, clr, Value.category, Option.toList, List.cons_append, List.nil_append, List.length_cons, List.length_nil, gf_eq hB', gf_eq hT', nI_ge hk (by omega), m1, cvk_1 p2.1 o1, oI, oV, nn, nI_le (Nat.le_of_not_lt z) (by omega), nI_1])
      (fun f => by
        generalize fsK δ τ (nR δ) = X
        by_cases z : n0 = 0
        · subst z
          simp [jX10_slips, bX10_slips_0, bX10_slips_1, bX10_slips_2, bX10_slips_3, bX10_slips_4, i_aload, i_getf, i_iceq, i_icge, i_ifne, i_iinc, i_iload, i_ireturn, i_istore, i_jmp, i_laload, i_push, msk, lset1, lset2, clr, Value.category, Option.toList, List.cons_append, List.nil_append, List.length_cons, List.length_nil, gf_eq hB', gf_eq hT', nI_0]
        · have z1 := nI_ne0 (n := n0) (by omega) (by omega)
          simp [jX10_slips, bX10_slips_0, bX10_slips_1, bX10_slips_2, bX10_slips_3, bX10_slips_4, i_aload, i_getf, i_iceq, i_icge, i_ifne, i_iinc, i_iload, i_ireturn, i_istore, i_jmp, i_laload, i_push, msk, lset1, lset2, clr, Value.category, Option.toList, List.cons_append, List.nil_append, List.length_cons, List.length_nil, gf_eq hB', gf_eq hT', z1, z])
    rw [← L N2 (by omega)]
    simp [fX10_slips, kX10_slips, ent, entp, jX10_slips, bX10_slips_0, bX10_slips_1, bX10_slips_2, bX10_slips_3, bX10_slips_4, i_aload, i_getf, i_iceq, i_icge, i_ifne, i_iinc, i_iload, i_ireturn, i_istore, i_jmp, i_laload, i_push, msk, lset1, lset2, clr, Value.category, Option.toList, List.cons_append, List.nil_append, List.length_cons, List.length_nil, hN2, cxk_2 hB q0, gf_eq hB, cvk_2 hS0 p1, nI_0, fsK, amnP, oI, oV]
theorem slips_r {g : GE} {w : Mem} {M fed kept : Nat} {fp : Int32} {tp : Nat → Int32} {rf : Nat → Nat} {δ : DE} {τ : TE} {im : Nat → TE} {x : Nat → Int32} (hV : TV δ τ) (hg : FU g) (hd : WF δ) (hI : RI w M fed kept fp tp rf δ τ im x) (x0 : Int32) : RQo w M fed kept fp tp rf δ τ im (fX11_slips g [.ref M, .int x0] w) (slipsO δ τ x0) := by
  obtain ⟨w0, hw0, I0, F0⟩ := hI.t0
  obtain ⟨b1, b2, b3, b4, b5, b6, b7, b8⟩ := id hd.1
  obtain ⟨hO, hXO, hRK, hRZ, hrf⟩ := id I0
  obtain ⟨x1', x3', x27, x32, x33, x34⟩ := id hXO
  obtain ⟨hTp, hD, hR, hCp, hHb, hKp, hRP⟩ := id hRK
  have hn := nR_le hd
  have x0' : (va_up x 0 0) 0 = 0 := va_up_self _ _ _
  obtain ⟨N, hN⟩ : ∃ N, g.1 = N + 2 := ⟨g.1 - 2, by omega⟩
  unfold slipsO
  have q0 := in_sp (w := w0) hg x0 (n := 1 + 1) (y := 1) (by decide) (by decide)
  cases h0 : rng x0 (1 + 1) with
  | none =>
    rw [h0] at q0
    simp only [bI, Option.isSome, Bool.false_eq_true, if_false] at q0
    obtain ⟨w1, p1, p2, p3⟩ := bad1_sp hg I0 x0' (c := 1) (r := 2) (C := 1) (R := 2) rfl rfl (by decide) (by decide)
    refine RQo.no (v := .int 0) F0 p2 ?_ p3
    simp [fX11_slips, kX11_slips, ent, entp, jX11_slips, bX11_slips_0, bX11_slips_1, bX11_slips_2, bX11_slips_3, bX11_slips_4, bX11_slips_5, bX11_slips_6, bX11_slips_7, bX11_slips_8, i_aaload, i_aload, i_getf, i_iadd, i_iaload, i_iceq, i_icge, i_iclt, i_icne, i_ifeq, i_ifne, i_iinc, i_iload, i_ireturn, i_istore, i_jmp, i_push, i_putf, msk, lset1, lset2, clr, Value.category, Option.toList, List.cons_append, List.nil_append, List.length_cons, List.length_nil, hN, st_0 hI.1, hw0, csk_3 q0, cvk_3 hO p1]
  | some n0 =>
    rw [h0] at q0
    simp only [bI, Option.isSome, if_true] at q0
    obtain ⟨l0, e0⟩ := rng_some (by omega) h0
    subst e0
    dsimp only
    obtain ⟨v1, v2, v3, v4⟩ := id hV
    have xc : ∀ k, k < nR δ → ∀ (X Y : Int32) (f : Nat), ∃ f', f ≤ f' ∧ jX11_slips g (f + 1 + 2 * τ.1 0) 3 [] [some (.ref M), some (.int (nI n0)), some (.int X), some (.int Y), some (.int (nI k)), some (.int 0), some (.int 0)] w0 = jX11_slips g (f' + 1) 3 [] [some (.ref M), some (.int (nI n0)), some (.int X), some (.int Y), some (.int (nI k)), some (.int (nI (slK δ τ k))), some (.int (nI (τ.1 0)))] w0 := fun k hk X Y f => by
      have L := lpC (fun f (s : Lv) => jX11_slips g f 3 [] s w0) (fun c s => s = [some (.ref M), some (.int (nI n0)), some (.int X), some (.int Y), some (.int (nI k)), some (.int (nI (cntF (fun c => decide (τ.2 2 c ≠ δ.2 (20 + τ.2 1 c) (dgR δ k (τ.2 1 c)))) c))), some (.int (nI c))]) 2 (τ.1 0)
        (fun c s hc hI f => by
          subst hI
          refine ⟨f, _, Nat.le_refl _, rfl, ?_⟩
          obtain ⟨c1, c2, c3⟩ := v3 c hc
          have rc1 : gi w0 0 (M + 146 + 1 + c) 1 = some (nI (τ.2 1 c)) := (hCp.2 c (by omega)).rc 1 1 rfl (by decide) (by decide)
          have rc2 : gi w0 0 (M + 146 + 1 + c) 2 = some (nI (τ.2 2 c)) := (hCp.2 c (by omega)).rc 2 2 rfl (by decide) (by decide)
          have rr1 := hCp.1.rd (j := c) (by omega) (by decide)
          have s1 := rshows_sp hg hd hO hD hR hk c2
          have ld := dgR_lt hd k c2
          have lv : δ.2 (20 + τ.2 1 c) (dgR δ k (τ.2 1 c)) < 100 := by
            rcases (hd.2.2.2.1 _ c2).2.2.2.2.1 _ ld with ⟨_, q⟩ | ⟨_, q⟩ | ⟨_, q⟩ <;> omega
          have m := nI_eq (a := δ.2 (20 + τ.2 1 c) (dgR δ k (τ.2 1 c))) (b := τ.2 2 c) (by omega) (by omega)
          by_cases y : τ.2 2 c = δ.2 (20 + τ.2 1 c) (dgR δ k (τ.2 1 c))
          · have e9 : cntF (fun c => decide (τ.2 2 c ≠ δ.2 (20 + τ.2 1 c) (dgR δ k (τ.2 1 c)))) (c + 1) = cntF (fun c => decide (τ.2 2 c ≠ δ.2 (20 + τ.2 1 c) (dgR δ k (τ.2 1 c)))) c := by simp [cntF, y]
            rw [e9]
            generalize cntF (fun c => decide (τ.2 2 c ≠ δ.2 (20 + τ.2 1 c) (dgR δ k (τ.2 1 c)))) c = Z
            rw [y] at rc2
            generalize δ.2 (20 + τ.2 1 c) (dgR δ k (τ.2 1 c)) = V at s1 rc2
            simp [jX11_slips, bX11_slips_0, bX11_slips_1, bX11_slips_2, bX11_slips_3, bX11_slips_4, bX11_slips_5, bX11_slips_6, bX11_slips_7, bX11_slips_8, i_aaload, i_aload, i_getf, i_iadd, i_iaload, i_iceq, i_icge, i_iclt, i_icne, i_ifeq, i_ifne, i_iinc, i_iload, i_ireturn, i_istore, i_jmp, i_push, i_putf, msk, lset1, lset2, clr, Value.category, Option.toList, List.cons_append, List.nil_append, List.length_cons, List.length_nil, gf_eq hO, mg_32, mg_36, x32, nI_ge hc (by omega), rr1, va_rf, rc1, rc2, cvk_2 hO s1, nI_1]
          · have e9 : cntF (fun c => decide (τ.2 2 c ≠ δ.2 (20 + τ.2 1 c) (dgR δ k (τ.2 1 c)))) (c + 1) = cntF (fun c => decide (τ.2 2 c ≠ δ.2 (20 + τ.2 1 c) (dgR δ k (τ.2 1 c)))) c + 1 := by simp [cntF, y]
            rw [e9]
            generalize cntF (fun c => decide (τ.2 2 c ≠ δ.2 (20 + τ.2 1 c) (dgR δ k (τ.2 1 c)))) c = Z
            have y' := mt m.mp (fun q => y q.symm)
            generalize δ.2 (20 + τ.2 1 c) (dgR δ k (τ.2 1 c)) = V at s1 y'
            simp [jX11_slips, bX11_slips_0, bX11_slips_1, bX11_slips_2, bX11_slips_3, bX11_slips_4, bX11_slips_5, bX11_slips_6, bX11_slips_7, bX11_slips_8, i_aaload, i_aload, i_getf, i_iadd, i_iaload, i_iceq, i_icge, i_iclt, i_icne, i_ifeq, i_ifne, i_iinc, i_iload, i_ireturn, i_istore, i_jmp, i_push, i_putf, msk, lset1, lset2, clr, Value.category, Option.toList, List.cons_append, List.nil_append, List.length_cons, List.length_nil, gf_eq hO, mg_32, mg_36, x32, nI_ge hc (by omega), rr1, va_rf, rc1, rc2, cvk_2 hO s1, y', nI_1])
      obtain ⟨f1, s1, g1, g2, g3⟩ := L (τ.1 0) 0 [some (.ref M), some (.int (nI n0)), some (.int X), some (.int Y), some (.int (nI k)), some (.int (nI 0)), some (.int (nI 0))] (by omega) rfl (f + 1)
      obtain ⟨f2, rfl⟩ : ∃ z, f1 = z + 1 := ⟨f1 - 1, by omega⟩
      refine ⟨f2, by omega, ?_⟩
      simp only [nI_0] at g3
      rw [g3, g2]
      rfl
    refine RQo.ok F0 I0 x0' ?_ (Fr.rf _ _)
    obtain ⟨N2, hN2⟩ : ∃ N, g.1 = N + 3 := ⟨g.1 - 3, by omega⟩
    have L := lpF (fun f (s : Lv) => jX11_slips g f 2 [] s w0) (fun k => [some (.ref M), some (.int (nI n0)), some (.int (oI (fsK δ τ k))), some (.int (zV (slK δ τ) (fsK δ τ k))), some (.int (nI k)), none, none]) (some (.inl (some (.int (if n0 = 0 then oV (slK δ τ) (fsK δ τ (nR δ)) else oI (fsK δ τ (nR δ))))), w0)) 30 3 (nR δ)
      (fun k hk f => by
        have ls := slK_le δ hV k
        obtain ⟨f', g1, g2⟩ := xc k hk (oI (fsK δ τ k)) (zV (slK δ τ) (fsK δ τ k)) (f + 28 - 2 * τ.1 0)
        rw [show f + 28 - 2 * τ.1 0 + 1 + 2 * τ.1 0 = f + 29 from by omega] at g2
        have e0 : jX11_slips g (f + 30) 2 [] [some (.ref M), some (.int (nI n0)), some (.int (oI (fsK δ τ k))), some (.int (zV (slK δ τ) (fsK δ τ k))), some (.int (nI k)), none, none] w0 = jX11_slips g (f + 29) 3 [] [some (.ref M), some (.int (nI n0)), some (.int (oI (fsK δ τ k))), some (.int (zV (slK δ τ) (fsK δ τ k))), some (.int (nI k)), some (.int 0), some (.int 0)] w0 := by
          generalize fsK δ τ k = X
          rw [show f + 30 = (f + 29) + 1 from rfl]
          generalize f + 29 = F
          simp [jX11_slips, bX11_slips_0, bX11_slips_1, bX11_slips_2, bX11_slips_3, bX11_slips_4, bX11_slips_5, bX11_slips_6, bX11_slips_7, bX11_slips_8, i_aaload, i_aload, i_getf, i_iadd, i_iaload, i_iceq, i_icge, i_iclt, i_icne, i_ifeq, i_ifne, i_iinc, i_iload, i_ireturn, i_istore, i_jmp, i_push, i_putf, msk, lset1, lset2, clr, Value.category, Option.toList, List.cons_append, List.nil_append, List.length_cons, List.length_nil, gf_eq hO, mg_27, x27, nI_ge hk (by omega)]
        have goal : ∀ (f' : Nat), f + 4 ≤ f' → ∃ f2, f ≤ f2 ∧ jX11_slips g (f' + 1) 3 [] [some (.ref M), some (.int (nI n0)), some (.int (oI (fsK δ τ k))), some (.int (zV (slK δ τ) (fsK δ τ k))), some (.int (nI k)), some (.int (nI (slK δ τ k))), some (.int (nI (τ.1 0)))] w0 = jX11_slips g f2 2 [] [some (.ref M), some (.int (nI n0)), some (.int (oI (fsK δ τ (k + 1)))), some (.int (zV (slK δ τ) (fsK δ τ (k + 1)))), some (.int (nI (k + 1))), none, none] w0 := fun f' hf => by
          obtain ⟨q, rfl⟩ : ∃ q, f' = q + 3 := ⟨f' - 3, by omega⟩
          cases hA : fsK δ τ k with
          | none =>
            refine ⟨q + 1, by omega, ?_⟩
            have e9 : fsK δ τ (k + 1) = some k := by simp [fsK, amnP, show amnP tru (slK δ τ) k = none from hA]
            rw [e9]
            rw [show q + 3 + 1 = (q + 1) + 3 from rfl]
            generalize q + 1 = F
            simp [jX11_slips, bX11_slips_0, bX11_slips_1, bX11_slips_2, bX11_slips_3, bX11_slips_4, bX11_slips_5, bX11_slips_6, bX11_slips_7, bX11_slips_8, i_aaload, i_aload, i_getf, i_iadd, i_iaload, i_iceq, i_icge, i_iclt, i_icne, i_ifeq, i_ifne, i_iinc, i_iload, i_ireturn, i_istore, i_jmp, i_push, i_putf, msk, lset1, lset2, clr, Value.category, Option.toList, List.cons_append, List.nil_append, List.length_cons, List.length_nil, gf_eq hO, mg_32, x32, oI, zV, nI_1]
          | some j =>
            have ljk := amnP_lt hA
            have nn := nI_nn (y := j) (by omega)
            have lj := slK_le δ hV j
            by_cases z : slK δ τ k < slK δ τ j
            · refine ⟨q + 1, by omega, ?_⟩
              have e9 : fsK δ τ (k + 1) = some k := by simp [fsK, amnP, show amnP tru (slK δ τ) k = some j from hA, z]
              rw [e9]
              rw [show q + 3 + 1 = (q + 1) + 3 from rfl]
              generalize q + 1 = F
              simp [jX11_slips, bX11_slips_0, bX11_slips_1, bX11_slips_2, bX11_slips_3, bX11_slips_4, bX11_slips_5, bX11_slips_6, bX11_slips_7, bX11_slips_8, i_aaload, i_aload, i_getf, i_iadd, i_iaload, i_iceq, i_icge, i_iclt, i_icne, i_ifeq, i_ifne, i_iinc, i_iload, i_ireturn, i_istore, i_jmp, i_push, i_putf, msk, lset1, lset2, clr, Value.category, Option.toList, List.cons_append, List.nil_append, List.length_cons, List.length_nil, gf_eq hO, mg_32, x32, oI, zV, nn, nI_lt z (by omega), nI_1]
            · refine ⟨q + 2, by omega, ?_⟩
              have e9 : fsK δ τ (k + 1) = some j := by simp [fsK, amnP, show amnP tru (slK δ τ) k = some j from hA, z]
              rw [e9]
              rw [show q + 3 + 1 = (q + 2) + 2 from rfl]
              generalize q + 2 = F
              simp [jX11_slips, bX11_slips_0, bX11_slips_1, bX11_slips_2, bX11_slips_3, bX11_slips_4, bX11_slips_5, bX11_slips_6, bX11_slips_7, bX11_slips_8, i_aaload, i_aload, i_getf, i_iadd, i_iaload, i_iceq, i_icge, i_iclt, i_icne, i_ifeq, i_ifne, i_iinc, i_iload, i_ireturn, i_istore, i_jmp, i_push, i_putf, msk, lset1, lset2, clr, Value.category, Option.toList, List.cons_append, List.nil_append, List.length_cons, List.length_nil, gf_eq hO, mg_32, x32, oI, zV, nn, nI_nlt (Nat.le_of_not_lt z) (by omega), nI_1]
        obtain ⟨f2, k1, k2⟩ := goal f' (by omega)
        exact ⟨f2, k1, by show jX11_slips g (f + 30) 2 [] _ w0 = _; rw [e0, g2, k2]⟩)
      (fun f => by
        cases hA : fsK δ τ (nR δ) with
        | none =>
          have e9 : (if n0 = 0 then oV (slK δ τ) none else oI none) = -1 := by split <;> rfl
          rw [e9]
          simp [jX11_slips, bX11_slips_0, bX11_slips_1, bX11_slips_2, bX11_slips_3, bX11_slips_4, bX11_slips_5, bX11_slips_6, bX11_slips_7, bX11_slips_8, i_aaload, i_aload, i_getf, i_iadd, i_iaload, i_iceq, i_icge, i_iclt, i_icne, i_ifeq, i_ifne, i_iinc, i_iload, i_ireturn, i_istore, i_jmp, i_push, i_putf, msk, lset1, lset2, clr, Value.category, Option.toList, List.cons_append, List.nil_append, List.length_cons, List.length_nil, gf_eq hO, mg_27, x27, oI]
        | some j =>
          have ljk := amnP_lt hA
          have nn := nI_nn (y := j) (by omega)
          by_cases z : n0 = 0
          · subst z
            simp [jX11_slips, bX11_slips_0, bX11_slips_1, bX11_slips_2, bX11_slips_3, bX11_slips_4, bX11_slips_5, bX11_slips_6, bX11_slips_7, bX11_slips_8, i_aaload, i_aload, i_getf, i_iadd, i_iaload, i_iceq, i_icge, i_iclt, i_icne, i_ifeq, i_ifne, i_iinc, i_iload, i_ireturn, i_istore, i_jmp, i_push, i_putf, msk, lset1, lset2, clr, Value.category, Option.toList, List.cons_append, List.nil_append, List.length_cons, List.length_nil, gf_eq hO, mg_27, x27, oI, oV, zV, nn, (show ¬ nI 0 = 1 from by decide)]
          · have z1 : n0 = 1 := by omega
            subst z1
            simp [jX11_slips, bX11_slips_0, bX11_slips_1, bX11_slips_2, bX11_slips_3, bX11_slips_4, bX11_slips_5, bX11_slips_6, bX11_slips_7, bX11_slips_8, i_aaload, i_aload, i_getf, i_iadd, i_iaload, i_iceq, i_icge, i_iclt, i_icne, i_ifeq, i_ifne, i_iinc, i_iload, i_ireturn, i_istore, i_jmp, i_push, i_putf, msk, lset1, lset2, clr, Value.category, Option.toList, List.cons_append, List.nil_append, List.length_cons, List.length_nil, gf_eq hO, mg_27, x27, oI, oV, zV, nn, (show nI 1 = 1 from rfl)])
    rw [← L (N2 + 1) (by omega)]
    rw [show N2 + 3 = (N2 + 1) + 2 from rfl] at hN2
    generalize N2 + 1 = F at hN2 ⊢
    simp [fX11_slips, kX11_slips, ent, entp, jX11_slips, bX11_slips_0, bX11_slips_1, bX11_slips_2, bX11_slips_3, bX11_slips_4, bX11_slips_5, bX11_slips_6, bX11_slips_7, bX11_slips_8, i_aaload, i_aload, i_getf, i_iadd, i_iaload, i_iceq, i_icge, i_iclt, i_icne, i_ifeq, i_ifne, i_iinc, i_iload, i_ireturn, i_istore, i_jmp, i_push, i_putf, msk, lset1, lset2, clr, Value.category, Option.toList, List.cons_append, List.nil_append, List.length_cons, List.length_nil, hN2, st_0 hI.1, hw0, csk_3 q0, cvk_3 hO (bad0_sp hg hO x0' 1 2), nI_0, fsK, amnP, oI, zV]
/-! likely -/
theorem eu_s (a b : Nat) : Nat.gcd a b = Nat.gcd b (a % b) := by
  rw [Nat.gcd_comm a b, Nat.gcd_rec b a, Nat.gcd_comm]
theorem eucl {β : Type} (F : Nat → Nat → Nat → Nat → β) (R : Nat → β) (hs : ∀ f a b t, b ≠ 0 → a < 2 ^ 63 → b < 2 ^ 63 → t < 200 → F (f + 1) a b t = F f b (a % b) (t + 1)) (he : ∀ f a t, a < 2 ^ 63 → F (f + 2) a 0 t = R a) :
    ∀ k a b t f, b < 2 ^ k → k ≤ 63 → a < 2 ^ 63 → t + 2 * k ≤ 199 → 2 * k + 2 ≤ f → F f a b t = R (Nat.gcd a b) := by
  intro k
  induction k with
  | zero =>
    intro a b t f h1 h2 h3 h4 h5
    have e : b = 0 := by simp at h1; exact h1
    subst e
    obtain ⟨q, rfl⟩ : ∃ q, f = q + 2 := ⟨f - 2, by omega⟩
    rw [he q a t h3, Nat.gcd_zero_right]
  | succ k ih =>
    intro a b t f h1 h2 h3 h4 h5
    have hb : b < 2 ^ 63 := Nat.lt_of_lt_of_le h1 (Nat.pow_le_pow_right (by decide) h2)
    obtain ⟨q, rfl⟩ : ∃ q, f = q + 4 := ⟨f - 4, by omega⟩
    by_cases z : b = 0
    · subst z
      rw [show q + 4 = (q + 2) + 2 from rfl, he (q + 2) a t h3, Nat.gcd_zero_right]
    · have lr : a % b < b := Nat.mod_lt _ (by omega)
      rw [show q + 4 = (q + 3) + 1 from rfl, hs _ _ _ _ z h3 hb (by omega), eu_s]
      by_cases z2 : a % b = 0
      · rw [z2, show q + 3 = (q + 1) + 2 from rfl, he (q + 1) b _ hb, Nat.gcd_zero_right]
      · rw [show q + 3 = (q + 2) + 1 from rfl, hs _ _ _ _ z2 hb (by omega) (by omega), eu_s b]
        have l2 : b % (a % b) < a % b := Nat.mod_lt _ (by omega)
        have l3 : b % (a % b) + a % b ≤ b := by
          have h := Nat.div_add_mod b (a % b)
          have h7 : 1 ≤ b / (a % b) := (Nat.one_le_div_iff (by omega)).mpr (by omega)
          have h8 : a % b * 1 ≤ a % b * (b / (a % b)) := Nat.mul_le_mul_left _ h7
          omega
        exact ih (a % b) (b % (a % b)) _ _ (by rw [Nat.pow_succ] at h1; omega) (by omega) (by omega) (by omega) (by omega)
theorem commonDivisor_sp {g : GE} (hg : FU g) {w : Mem} {a b : Nat} (ha : a < 2 ^ 63) (hb : b < 2 ^ 63) : fX10_commonDivisor g [.long (lN a), .long (lN b)] w = some (.inl (some (.long (lN (Nat.gcd a b)))), w) := by
  obtain ⟨N, hN⟩ : ∃ N, g.1 = N + 1 := ⟨g.1 - 1, by omega⟩
  have E := eucl (fun f a b t => jX10_commonDivisor g f 1 [] [some (.long (lN a)), none, some (.long (lN b)), none, some (.int (nI t)), none, none] w) (fun r => some (.inl (some (.long (lN r))), w))
    (fun f a b t z h1 h2 h3 => by
      have ek : ¬ (200 : Int32) ≤ nI t := nI_ge h3 (by decide)
      have m := pk_lEQ (a := b) (b := 0) h2 (by decide)
      have z' : ¬ lN b = 0 := mt m.mp z
      have c1 := cz_n z'
      have rm := pk_lRem h1 (show 0 < b by omega) h2
      simp [jX10_commonDivisor, bX10_commonDivisor_0, bX10_commonDivisor_1, bX10_commonDivisor_2, i_icge, i_ifeq, i_iinc, i_iload, i_istore, i_jmp, i_lcmp, i_lload, i_lrem, i_lreturn, i_lstore, i_push, msk, lset1, lset2, clr, Value.category, Option.toList, List.cons_append, List.nil_append, List.length_cons, List.length_nil, ek, c1, z', rm, nI_1])
    (fun f a t h1 => by
      have c1 : lg_cmp (lN 0) 0 = 0 := cz_y rfl
      by_cases y : (200 : Int32) ≤ nI t
      · simp [jX10_commonDivisor, bX10_commonDivisor_0, bX10_commonDivisor_1, bX10_commonDivisor_2, i_icge, i_ifeq, i_iinc, i_iload, i_istore, i_jmp, i_lcmp, i_lload, i_lrem, i_lreturn, i_lstore, i_push, msk, lset1, lset2, clr, Value.category, Option.toList, List.cons_append, List.nil_append, List.length_cons, List.length_nil, y]
      · simp [jX10_commonDivisor, bX10_commonDivisor_0, bX10_commonDivisor_1, bX10_commonDivisor_2, i_icge, i_ifeq, i_iinc, i_iload, i_istore, i_jmp, i_lcmp, i_lload, i_lrem, i_lreturn, i_lstore, i_push, msk, lset1, lset2, clr, Value.category, Option.toList, List.cons_append, List.nil_append, List.length_cons, List.length_nil, y, c1])
    63 a b 0 N hb (Nat.le_refl _) ha (by decide) (by omega)
  simp only [nI_0] at E
  rw [← E]
  simp [fX10_commonDivisor, kX10_commonDivisor, ent, entp, jX10_commonDivisor, bX10_commonDivisor_0, bX10_commonDivisor_1, bX10_commonDivisor_2, i_icge, i_ifeq, i_iinc, i_iload, i_istore, i_jmp, i_lcmp, i_lload, i_lrem, i_lreturn, i_lstore, i_push, msk, lset1, lset2, clr, Value.category, Option.toList, List.cons_append, List.nil_append, List.length_cons, List.length_nil, hN]
abbrev aoK (δ : DE) (τ : TE) : Nat → Nat := sumH (odK δ τ)
abbrev hoS (δ : DE) (τ : TE) (t h : Nat) : Nat → Nat := sumH (fun i => if owR δ i t = h + 1 then odK δ τ i else 0)
theorem aoK_le {δ : DE} {τ : TE} (hV : TV δ τ) : ∀ n, aoK δ τ n ≤ n * 2 ^ 48
  | 0 => Nat.zero_le _
  | n + 1 => by
    have h1 := aoK_le hV n
    have h2 := odK_le hV n
    show aoK δ τ n + odK δ τ n ≤ _
    rw [Nat.succ_mul]
    omega
theorem hoS_le {δ : DE} {τ : TE} {t h : Nat} : ∀ n, hoS δ τ t h n ≤ aoK δ τ n
  | 0 => Nat.le_refl _
  | n + 1 => by
    have h1 := hoS_le (δ := δ) (τ := τ) (t := t) (h := h) n
    show hoS δ τ t h n + (if owR δ n t = h + 1 then odK δ τ n else 0) ≤ aoK δ τ n + odK δ τ n
    split <;> omega
def lyK (δ : DE) (τ : TE) (t h wh : Nat) : Nat := if aoK δ τ (nR δ) = 0 then wh else (if wh = 0 then hoS δ τ t h (nR δ) else aoK δ τ (nR δ)) / Nat.gcd (aoK δ τ (nR δ)) (hoS δ τ t h (nR δ))
def likelyO (δ : DE) (τ : TE) (x0 x1 x2 : Int32) : OUT := 
  match rng x0 (δ.1 1) with
  | none => .inr (1, 0)
  | some n0 =>
    match rng x1 (δ.1 0) with
    | none => .inr (1, 0)
    | some n1 =>
      match rng x2 (1 + 1) with
      | none => .inr (2, 2)
      | some n2 =>
        .inl (.long (lN (lyK δ τ n0 n1 n2)))
theorem likely_c {g : GE} {w : Mem} {B E fed kept : Nat} {fp : Int32} {tp : Nat → Int32} {rf : Nat → Nat} {δ : DE} {τ : TE} {im : Nat → TE} {lev nG : Nat} (hV : TV δ τ) (hg : GD g) (hE : B + 132 ≤ E) (hI : CI g w B E fed kept fp tp rf δ τ im lev nG) (x0 x1 x2 : Int32) : CQ g w B E fed kept fp tp rf δ τ im lev nG (fX10_likely g [.ref B, .int x0, .int x1, .int x2] w) (likelyO δ τ x0 x1 x2) := by
  have hg1 := hg.1
  obtain ⟨D, D', hCC, hCT, hCN, hCL, hCM⟩ := id hI
  obtain ⟨hDD, hB, hTp, hD, hD', hSc, hr, hd, hfd, hkp⟩ := id hCC
  obtain ⟨aM, aS, aG, n1', hG, hX⟩ := id hCT
  obtain ⟨b1, b2, b3, b4, b5, b6, b7, b8⟩ := id hd.1
  have hT := hG.tb
  have hn := nR_le hd
  obtain ⟨N, hN⟩ : ∃ N, g.1 = N + 1 := ⟨g.1 - 1, by omega⟩
  unfold likelyO
  have q0 := needThing_sp hg1 hB hr hD b2 x0
  cases h0 : rng x0 (δ.1 1) with
  | none =>
    rw [h0] at q0
    simp only [tst, Option.isSome, Bool.false_eq_true, if_false] at q0
    refine CQ.no hE hI ?_
    simp [fX10_likely, kX10_likely, ent, entp, jX10_likely, bX10_likely_0, bX10_likely_1, bX10_likely_2, bX10_likely_3, bX10_likely_4, i_aload, i_getf, i_i2l, i_icge, i_icne, i_ifgt, i_ifle, i_ifne, i_iinc, i_iload, i_istore, i_jmp, i_ladd, i_laload, i_lcmp, i_ldiv, i_lload, i_lreturn, i_lstore, i_push, msk, lset1, lset2, clr, Value.category, Option.toList, List.cons_append, List.nil_append, List.length_cons, List.length_nil, hN, cxe_1 hB q0]
  | some n0 =>
    rw [h0] at q0
    simp only [tst, Option.isSome, if_true] at q0
    obtain ⟨l0, e0⟩ := rng_some (by omega) h0
    subst e0
    have q1 := needHeir_sp hg1 hB hr hD b1 x1
    cases h1 : rng x1 (δ.1 0) with
    | none =>
      rw [h1] at q1
      simp only [tst, Option.isSome, Bool.false_eq_true, if_false] at q1
      refine CQ.no hE hI ?_
      simp [fX10_likely, kX10_likely, ent, entp, jX10_likely, bX10_likely_0, bX10_likely_1, bX10_likely_2, bX10_likely_3, bX10_likely_4, i_aload, i_getf, i_i2l, i_icge, i_icne, i_ifgt, i_ifle, i_ifne, i_iinc, i_iload, i_istore, i_jmp, i_ladd, i_laload, i_lcmp, i_ldiv, i_lload, i_lreturn, i_lstore, i_push, msk, lset1, lset2, clr, Value.category, Option.toList, List.cons_append, List.nil_append, List.length_cons, List.length_nil, hN, cxk_1 hB q0, cxe_1 hB q1]
    | some n1 =>
      rw [h1] at q1
      simp only [tst, Option.isSome, if_true] at q1
      obtain ⟨l1, e1⟩ := rng_some (by omega) h1
      subst e1
      have q2 := needWhat_sp hg1 hB hr x2 (n := 1) (y := 1) rfl (by decide)
      cases h2 : rng x2 (1 + 1) with
      | none =>
        rw [h2] at q2
        simp only [tst, Option.isSome, Bool.false_eq_true, if_false] at q2
        refine CQ.no hE hI ?_
        simp [fX10_likely, kX10_likely, ent, entp, jX10_likely, bX10_likely_0, bX10_likely_1, bX10_likely_2, bX10_likely_3, bX10_likely_4, i_aload, i_getf, i_i2l, i_icge, i_icne, i_ifgt, i_ifle, i_ifne, i_iinc, i_iload, i_istore, i_jmp, i_ladd, i_laload, i_lcmp, i_ldiv, i_lload, i_lreturn, i_lstore, i_push, msk, lset1, lset2, clr, Value.category, Option.toList, List.cons_append, List.nil_append, List.length_cons, List.length_nil, hN, cxk_1 hB q0, cxk_1 hB q1, cxe_2 hB q2]
      | some n2 =>
        rw [h2] at q2
        simp only [tst, Option.isSome, if_true] at q2
        obtain ⟨l2, e2⟩ := rng_some (by omega) h2
        subst e2
        dsimp only
        clear hT hG hX hB hD hr hDD hTp hD' hSc hCC hCT q0 q1 q2
        obtain ⟨D, D', aM, aS, aG, n1', w', hCC, p1, ⟨bb, hS0⟩, hG, p2, hCC', hG', I', FF⟩ := weighed hg hE hI hV
        obtain ⟨-, hB, -, hD, -, -, hr, -⟩ := id hCC
        obtain ⟨-, hB', -, hD2, -⟩ := id hCC'
        have hT := hG.tb
        have hT' := hG'.tb

        have q0 := needThing_sp hg1 hB hr hD b2 (nI n0)
        rw [h0] at q0
        have q1 := needHeir_sp hg1 hB hr hD b1 (nI n1)
        rw [h1] at q1
        have q2 := needWhat_sp hg1 hB hr (nI n2) (n := 1) (y := 1) rfl (by decide)
        rw [h2] at q2
        simp only [tst, Option.isSome, if_true] at q0 q1 q2
        refine CQ.okw I' ?_ FF
        have la := aoK_le hV (nR δ)
        have lh := hoS_le (δ := δ) (τ := τ) (t := n0) (h := n1) (nR δ)
        have la63 : aoK δ τ (nR δ) < 2 ^ 63 := by
          have : nR δ * 2 ^ 48 ≤ 20000 * 2 ^ 48 := Nat.mul_le_mul_right _ hn
          omega
        have wl2 : (nI n2).toInt64 = lN n2 := nI_l (by omega)
        obtain ⟨N2, hN2⟩ : ∃ N, g.1 = N + 1 := ⟨g.1 - 1, by omega⟩
        have L := lpF (fun f (s : Lv) => jX10_likely g f 1 [] s w') (fun k => [some (.ref B), some (.int (nI n0)), some (.int (nI n1)), some (.int (nI n2)), some (.long (lN (aoK δ τ k))), none, some (.long (lN (hoS δ τ n0 n1 k))), none, some (.int (nI k)), none, none]) (some (.inl (some (.long (lN (lyK δ τ n0 n1 n2)))), w')) 2 3 (nR δ)
          (fun k hk f => by
            refine ⟨f, Nat.le_refl _, ?_⟩
            have o1 := oddsOf_sp hg1 (i := k) hd hV p2
            have m1 := hG'.mk hk
            generalize lN (mkN (δ.1 3) (dgR δ k)) = Y at m1 o1
            have ow := ownerOf_sp hd hG' hk (t := n0) (by omega)
            have lo := owR_le hd k n0
            have m : (nI (owR δ k n0) - 1 = nI n1) ↔ owR δ k n0 = n1 + 1 := nI_m1e (by omega) (by omega)
            have ea : aoK δ τ (k + 1) = aoK δ τ k + odK δ τ k := rfl
            have eh : hoS δ τ n0 n1 (k + 1) = hoS δ τ n0 n1 k + (if owR δ k n0 = n1 + 1 then odK δ τ k else 0) := rfl
            rw [ea, eh]
            by_cases z : owR δ k n0 = n1 + 1
            · rw [if_pos z]
              have z' := m.mpr z
              generalize aoK δ τ k = X1
              generalize hoS δ τ n0 n1 k = X2
              generalize nI (owR δ k n0) - 1 = X3 at ow z'
              simp [jX10_likely, bX10_likely_0, bX10_likely_1, bX10_likely_2, bX10_likely_3, bX10_likely_4, i_aload, i_getf, i_i2l, i_icge, i_icne, i_ifgt, i_ifle, i_ifne, i_iinc, i_iload, i_istore, i_jmp, i_ladd, i_laload, i_lcmp, i_ldiv, i_lload, i_lreturn, i_lstore, i_push, msk, lset1, lset2, clr, Value.category, Option.toList, List.cons_append, List.nil_append, List.length_cons, List.length_nil, gf_eq hB', gf_eq hT', nI_ge hk (by omega), m1, cvk_1 p2.1 o1, lN_add, cvk_2 hT' ow, z', nI_1]
            · rw [if_neg z]
              have z' := mt m.mp z
              generalize aoK δ τ k = X1
              generalize hoS δ τ n0 n1 k = X2
              generalize nI (owR δ k n0) - 1 = X3 at ow z'
              simp [jX10_likely, bX10_likely_0, bX10_likely_1, bX10_likely_2, bX10_likely_3, bX10_likely_4, i_aload, i_getf, i_i2l, i_icge, i_icne, i_ifgt, i_ifle, i_ifne, i_iinc, i_iload, i_istore, i_jmp, i_ladd, i_laload, i_lcmp, i_ldiv, i_lload, i_lreturn, i_lstore, i_push, msk, lset1, lset2, clr, Value.category, Option.toList, List.cons_append, List.nil_append, List.length_cons, List.length_nil, gf_eq hB', gf_eq hT', nI_ge hk (by omega), m1, cvk_1 p2.1 o1, lN_add, cvk_2 hT' ow, z', nI_1])
          (fun f => by
            unfold lyK
            generalize aoK δ τ (nR δ) = X1 at la63 lh ⊢
            generalize hoS δ τ n0 n1 (nR δ) = X2 at lh ⊢
            have m := pk_lLT (a := 0) (b := X1) (by decide) la63
            by_cases z : X1 = 0
            · subst z
              have c1 : ¬ 0 < lg_cmp (lN 0) 0 := by decide
              simp [jX10_likely, bX10_likely_0, bX10_likely_1, bX10_likely_2, bX10_likely_3, bX10_likely_4, i_aload, i_getf, i_i2l, i_icge, i_icne, i_ifgt, i_ifle, i_ifne, i_iinc, i_iload, i_istore, i_jmp, i_ladd, i_laload, i_lcmp, i_ldiv, i_lload, i_lreturn, i_lstore, i_push, msk, lset1, lset2, clr, Value.category, Option.toList, List.cons_append, List.nil_append, List.length_cons, List.length_nil, gf_eq hB', gf_eq hT', c1, wl2]
            · rw [if_neg z]
              have c1 : 0 < lg_cmp (lN X1) 0 := (lg_cmp_gt _ _).mpr (m.mpr (by omega))
              have cd := commonDivisor_sp hg1 (w := w') (a := X1) (b := X2) la63 (by omega)
              have gp : 0 < Nat.gcd X1 X2 := Nat.gcd_pos_of_pos_left _ (by omega)
              have gl' : Nat.gcd X1 X2 ≤ X1 := Nat.gcd_le_left _ (by omega)
              generalize Nat.gcd X1 X2 = Q at cd gp gl' ⊢
              have c2 : ¬ lg_cmp (lN Q) 0 ≤ 0 := fun q => by
                have := (lg_cmp_le _ _).mp q
                have := (pk_lLE (a := Q) (b := 0) (by omega) (by decide)).mp this
                omega
              have qn : ¬ lN Q = 0 := fun q => by
                have := (pk_lEQ (a := Q) (b := 0) (by omega) (by decide)).mp q
                omega
              by_cases z2 : n2 = 0
              · subst z2
                have dv := pk_lDiv (a := X2) (b := Q) (by omega) gp (by omega)
                simp [jX10_likely, bX10_likely_0, bX10_likely_1, bX10_likely_2, bX10_likely_3, bX10_likely_4, i_aload, i_getf, i_i2l, i_icge, i_icne, i_ifgt, i_ifle, i_ifne, i_iinc, i_iload, i_istore, i_jmp, i_ladd, i_laload, i_lcmp, i_ldiv, i_lload, i_lreturn, i_lstore, i_push, msk, lset1, lset2, clr, Value.category, Option.toList, List.cons_append, List.nil_append, List.length_cons, List.length_nil, gf_eq hB', gf_eq hT', c1, csk_2 cd, c2, nI_0, qn, dv]
              · have dv := pk_lDiv (a := X1) (b := Q) (by omega) gp (by omega)
                have z3 := nI_ne0 (n := n2) (by omega) (by omega)
                simp [jX10_likely, bX10_likely_0, bX10_likely_1, bX10_likely_2, bX10_likely_3, bX10_likely_4, i_aload, i_getf, i_i2l, i_icge, i_icne, i_ifgt, i_ifle, i_ifne, i_iinc, i_iload, i_istore, i_jmp, i_ladd, i_laload, i_lcmp, i_ldiv, i_lload, i_lreturn, i_lstore, i_push, msk, lset1, lset2, clr, Value.category, Option.toList, List.cons_append, List.nil_append, List.length_cons, List.length_nil, gf_eq hB', gf_eq hT', c1, csk_2 cd, c2, z2, z3, qn, dv])
        rw [← L N2 (by omega)]
        simp [fX10_likely, kX10_likely, ent, entp, jX10_likely, bX10_likely_0, bX10_likely_1, bX10_likely_2, bX10_likely_3, bX10_likely_4, i_aload, i_getf, i_i2l, i_icge, i_icne, i_ifgt, i_ifle, i_ifne, i_iinc, i_iload, i_istore, i_jmp, i_ladd, i_laload, i_lcmp, i_ldiv, i_lload, i_lreturn, i_lstore, i_push, msk, lset1, lset2, clr, Value.category, Option.toList, List.cons_append, List.nil_append, List.length_cons, List.length_nil, hN2, cxk_1 hB q0, cxk_1 hB q1, cxk_2 hB q2, gf_eq hB, cvk_2 hS0 p1, nI_0, sumH, (show lN 0 = 0 from rfl)]
theorem likely_r {g : GE} {w : Mem} {M fed kept : Nat} {fp : Int32} {tp : Nat → Int32} {rf : Nat → Nat} {δ : DE} {τ : TE} {im : Nat → TE} {x : Nat → Int32} (hV : TV δ τ) (hg : FU g) (hd : WF δ) (hI : RI w M fed kept fp tp rf δ τ im x) (x0 x1 x2 : Int32) : RQo w M fed kept fp tp rf δ τ im (fX11_likely g [.ref M, .int x0, .int x1, .int x2] w) (likelyO δ τ x0 x1 x2) := by
  obtain ⟨w0, hw0, I0, F0⟩ := hI.t0
  obtain ⟨b1, b2, b3, b4, b5, b6, b7, b8⟩ := id hd.1
  obtain ⟨hO, hXO, hRK, hRZ, hrf⟩ := id I0
  obtain ⟨x1', x3', x27, x32, x33, x34⟩ := id hXO
  obtain ⟨hTp, hD, hR, hCp, hHb, hKp, hRP⟩ := id hRK
  have hn := nR_le hd
  have x0' : (va_up x 0 0) 0 = 0 := va_up_self _ _ _
  obtain ⟨N, hN⟩ : ∃ N, g.1 = N + 4 := ⟨g.1 - 4, by omega⟩
  unfold likelyO
  have q0 := isThing_sp hg hO hD b2 x0
  cases h0 : rng x0 (δ.1 1) with
  | none =>
    rw [h0] at q0
    simp only [bI, Option.isSome, Bool.false_eq_true, if_false] at q0
    obtain ⟨w1, p1, p2, p3⟩ := bad1_sp hg I0 x0' (c := 1) (r := 0) (C := 1) (R := 0) rfl rfl (by decide) (by decide)
    refine RQo.no (v := .long 0) F0 p2 ?_ p3
    simp [fX11_likely, kX11_likely, ent, entp, jX11_likely, bX11_likely_0, bX11_likely_1, bX11_likely_2, bX11_likely_3, bX11_likely_4, bX11_likely_5, bX11_likely_6, bX11_likely_7, bX11_likely_8, i_aload, i_getf, i_i2l, i_icge, i_icne, i_ifeq, i_ifne, i_iinc, i_iload, i_istore, i_jmp, i_ladd, i_lcmp, i_ldiv, i_lload, i_lrem, i_lreturn, i_lstore, i_push, i_putf, msk, lset1, lset2, clr, Value.category, Option.toList, List.cons_append, List.nil_append, List.length_cons, List.length_nil, hN, st_0 hI.1, hw0, cvk_1 hO q0, cvk_3 hO p1]
  | some n0 =>
    rw [h0] at q0
    simp only [bI, Option.isSome, if_true] at q0
    obtain ⟨l0, e0⟩ := rng_some (by omega) h0
    subst e0
    have q1 := isHeir_sp hg hO hD b1 x1
    cases h1 : rng x1 (δ.1 0) with
    | none =>
      rw [h1] at q1
      simp only [bI, Option.isSome, Bool.false_eq_true, if_false] at q1
      obtain ⟨w1, p1, p2, p3⟩ := bad1_sp hg I0 x0' (c := 1) (r := 0) (C := 1) (R := 0) rfl rfl (by decide) (by decide)
      refine RQo.no (v := .long 0) F0 p2 ?_ p3
      simp [fX11_likely, kX11_likely, ent, entp, jX11_likely, bX11_likely_0, bX11_likely_1, bX11_likely_2, bX11_likely_3, bX11_likely_4, bX11_likely_5, bX11_likely_6, bX11_likely_7, bX11_likely_8, i_aload, i_getf, i_i2l, i_icge, i_icne, i_ifeq, i_ifne, i_iinc, i_iload, i_istore, i_jmp, i_ladd, i_lcmp, i_ldiv, i_lload, i_lrem, i_lreturn, i_lstore, i_push, i_putf, msk, lset1, lset2, clr, Value.category, Option.toList, List.cons_append, List.nil_append, List.length_cons, List.length_nil, hN, st_0 hI.1, hw0, cvk_1 hO q0, cvk_1 hO q1, cvk_3 hO p1]
    | some n1 =>
      rw [h1] at q1
      simp only [bI, Option.isSome, if_true] at q1
      obtain ⟨l1, e1⟩ := rng_some (by omega) h1
      subst e1
      have q2 := in_sp (w := w0) hg x2 (n := 1 + 1) (y := 1) (by decide) (by decide)
      cases h2 : rng x2 (1 + 1) with
      | none =>
        rw [h2] at q2
        simp only [bI, Option.isSome, Bool.false_eq_true, if_false] at q2
        obtain ⟨w1, p1, p2, p3⟩ := bad1_sp hg I0 x0' (c := 2) (r := 2) (C := 2) (R := 2) rfl rfl (by decide) (by decide)
        refine RQo.no (v := .long 0) F0 p2 ?_ p3
        simp [fX11_likely, kX11_likely, ent, entp, jX11_likely, bX11_likely_0, bX11_likely_1, bX11_likely_2, bX11_likely_3, bX11_likely_4, bX11_likely_5, bX11_likely_6, bX11_likely_7, bX11_likely_8, i_aload, i_getf, i_i2l, i_icge, i_icne, i_ifeq, i_ifne, i_iinc, i_iload, i_istore, i_jmp, i_ladd, i_lcmp, i_ldiv, i_lload, i_lrem, i_lreturn, i_lstore, i_push, i_putf, msk, lset1, lset2, clr, Value.category, Option.toList, List.cons_append, List.nil_append, List.length_cons, List.length_nil, hN, st_0 hI.1, hw0, cvk_1 hO q0, cvk_1 hO q1, cvk_3 hO (bad0_sp hg hO x0' 1 0), csk_3 q2, cvk_3 hO p1]
      | some n2 =>
        rw [h2] at q2
        simp only [bI, Option.isSome, if_true] at q2
        obtain ⟨l2, e2⟩ := rng_some (by omega) h2
        subst e2
        dsimp only
        refine RQo.ok F0 I0 x0' ?_ (Fr.rf _ _)
        have la := aoK_le hV (nR δ)
        have lh := hoS_le (δ := δ) (τ := τ) (t := n0) (h := n1) (nR δ)
        have la63 : aoK δ τ (nR δ) < 2 ^ 63 := by
          have : nR δ * 2 ^ 48 ≤ 20000 * 2 ^ 48 := Nat.mul_le_mul_right _ hn
          omega
        have wl2 : (nI n2).toInt64 = lN n2 := nI_l (by omega)
        obtain ⟨N2, hN2⟩ : ∃ N, g.1 = N + 3 := ⟨g.1 - 3, by omega⟩
        have L := lpF (fun f (s : Lv) => jX11_likely g f 5 [] s w0) (fun k => [some (.ref M), some (.int (nI n0)), some (.int (nI n1)), some (.int (nI n2)), some (.long (lN (hoS δ τ n0 n1 k))), none, some (.long (lN (aoK δ τ k))), none, some (.int (nI k)), none, none, none, none, none]) (some (.inl (some (.long (lN (lyK δ τ n0 n1 n2)))), w0)) 2 300 (nR δ)
          (fun k hk f => by
            refine ⟨f, Nat.le_refl _, ?_⟩
            have o1 := oddsBy_sp hg hd hV hO x32 x33 hD hR hCp hHb hk
            have ow := rgoesBy_sp (g := g) hd hO hR hk (t := n0) (by omega)
            have lo := owR_le hd k n0
            have m : (nI (owR δ k n0) - 1 = nI n1) ↔ owR δ k n0 = n1 + 1 := nI_m1e (by omega) (by omega)
            have ea : aoK δ τ (k + 1) = aoK δ τ k + odK δ τ k := rfl
            have eh : hoS δ τ n0 n1 (k + 1) = hoS δ τ n0 n1 k + (if owR δ k n0 = n1 + 1 then odK δ τ k else 0) := rfl
            rw [ea, eh]
            by_cases z : owR δ k n0 = n1 + 1
            · rw [if_pos z]
              have z' := m.mpr z
              generalize aoK δ τ k = X1
              generalize hoS δ τ n0 n1 k = X2
              generalize nI (owR δ k n0) - 1 = X3 at ow z'
              simp [jX11_likely, bX11_likely_0, bX11_likely_1, bX11_likely_2, bX11_likely_3, bX11_likely_4, bX11_likely_5, bX11_likely_6, bX11_likely_7, bX11_likely_8, i_aload, i_getf, i_i2l, i_icge, i_icne, i_ifeq, i_ifne, i_iinc, i_iload, i_istore, i_jmp, i_ladd, i_lcmp, i_ldiv, i_lload, i_lrem, i_lreturn, i_lstore, i_push, i_putf, msk, lset1, lset2, clr, Value.category, Option.toList, List.cons_append, List.nil_append, List.length_cons, List.length_nil, gf_eq hO, mg_27, x27, nI_ge hk (by omega), cvk_1 hO o1, lN_add, cvk_2 hO ow, z', nI_1]
            · rw [if_neg z]
              have z' := mt m.mp z
              generalize aoK δ τ k = X1
              generalize hoS δ τ n0 n1 k = X2
              have l0' : lN X2 + 0 = lN (X2 + 0) := lN_add X2 0
              generalize nI (owR δ k n0) - 1 = X3 at ow z'
              simp [jX11_likely, bX11_likely_0, bX11_likely_1, bX11_likely_2, bX11_likely_3, bX11_likely_4, bX11_likely_5, bX11_likely_6, bX11_likely_7, bX11_likely_8, i_aload, i_getf, i_i2l, i_icge, i_icne, i_ifeq, i_ifne, i_iinc, i_iload, i_istore, i_jmp, i_ladd, i_lcmp, i_ldiv, i_lload, i_lrem, i_lreturn, i_lstore, i_push, i_putf, msk, lset1, lset2, clr, Value.category, Option.toList, List.cons_append, List.nil_append, List.length_cons, List.length_nil, gf_eq hO, mg_27, x27, nI_ge hk (by omega), cvk_1 hO o1, lN_add, cvk_2 hO ow, z', nI_1])
          (fun f => by
            unfold lyK
            generalize aoK δ τ (nR δ) = X1 at la63 lh ⊢
            generalize hoS δ τ n0 n1 (nR δ) = X2 at lh ⊢
            have m := pk_lEQ (a := X1) (b := 0) la63 (by decide)
            rw [show f + 300 = (f + 298) + 2 from by omega]
            by_cases z : X1 = 0
            · subst z
              have c1 : lg_cmp (lN 0) 0 = 0 := cz_y rfl
              generalize f + 298 = F
              simp [jX11_likely, bX11_likely_0, bX11_likely_1, bX11_likely_2, bX11_likely_3, bX11_likely_4, bX11_likely_5, bX11_likely_6, bX11_likely_7, bX11_likely_8, i_aload, i_getf, i_i2l, i_icge, i_icne, i_ifeq, i_ifne, i_iinc, i_iload, i_istore, i_jmp, i_ladd, i_lcmp, i_ldiv, i_lload, i_lrem, i_lreturn, i_lstore, i_push, i_putf, msk, lset1, lset2, clr, Value.category, Option.toList, List.cons_append, List.nil_append, List.length_cons, List.length_nil, gf_eq hO, mg_27, x27, c1, wl2]
            · rw [if_neg z]
              have c1 : ¬ lg_cmp (lN X1) 0 = 0 := cz_n (mt m.mp z)
              have E := eucl (fun f a b t => jX11_likely g f 7 [] [none, none, none, some (.int (nI n2)), some (.long (lN X2)), none, some (.long (lN X1)), none, some (.long (lN a)), none, some (.long (lN b)), none, none, none] w0) (fun r => jX11_likely g (1 + 1) 7 [] [none, none, none, some (.int (nI n2)), some (.long (lN X2)), none, some (.long (lN X1)), none, some (.long (lN r)), none, some (.long (lN 0)), none, none, none] w0)
                (fun f a b t z h1 h2 h3 => by
                  have m := pk_lEQ (a := b) (b := 0) h2 (by decide)
                  have z' : ¬ lN b = 0 := mt m.mp z
                  have c1 := cz_n z'
                  have rm := pk_lRem h1 (show 0 < b by omega) h2
                  simp [jX11_likely, bX11_likely_0, bX11_likely_1, bX11_likely_2, bX11_likely_3, bX11_likely_4, bX11_likely_5, bX11_likely_6, bX11_likely_7, bX11_likely_8, i_aload, i_getf, i_i2l, i_icge, i_icne, i_ifeq, i_ifne, i_iinc, i_iload, i_istore, i_jmp, i_ladd, i_lcmp, i_ldiv, i_lload, i_lrem, i_lreturn, i_lstore, i_push, i_putf, msk, lset1, lset2, clr, Value.category, Option.toList, List.cons_append, List.nil_append, List.length_cons, List.length_nil, c1, z', rm])
                (fun f a t h1 => by
                  have c1 : lg_cmp (lN 0) 0 = 0 := cz_y rfl
                  by_cases y : lN a = 0
                  · simp [jX11_likely, bX11_likely_0, bX11_likely_1, bX11_likely_2, bX11_likely_3, bX11_likely_4, bX11_likely_5, bX11_likely_6, bX11_likely_7, bX11_likely_8, i_aload, i_getf, i_i2l, i_icge, i_icne, i_ifeq, i_ifne, i_iinc, i_iload, i_istore, i_jmp, i_ladd, i_lcmp, i_ldiv, i_lload, i_lrem, i_lreturn, i_lstore, i_push, i_putf, msk, lset1, lset2, clr, Value.category, Option.toList, List.cons_append, List.nil_append, List.length_cons, List.length_nil, c1, y]
                  · simp [jX11_likely, bX11_likely_0, bX11_likely_1, bX11_likely_2, bX11_likely_3, bX11_likely_4, bX11_likely_5, bX11_likely_6, bX11_likely_7, bX11_likely_8, i_aload, i_getf, i_i2l, i_icge, i_icne, i_ifeq, i_ifne, i_iinc, i_iload, i_istore, i_jmp, i_ladd, i_lcmp, i_ldiv, i_lload, i_lrem, i_lreturn, i_lstore, i_push, i_putf, msk, lset1, lset2, clr, Value.category, Option.toList, List.cons_append, List.nil_append, List.length_cons, List.length_nil, c1, y])
                63 X2 X1 0 (f + 298 + 1) la63 (Nat.le_refl _) (by omega) (by decide) (by omega)
              have gp : 0 < Nat.gcd X1 X2 := Nat.gcd_pos_of_pos_left _ (by omega)
              have gl' : Nat.gcd X1 X2 ≤ X1 := Nat.gcd_le_left _ (by omega)
              rw [Nat.gcd_comm X2 X1] at E
              generalize Nat.gcd X1 X2 = Q at E gp gl' ⊢
              have c2 : lg_cmp (lN 0) 0 = 0 := cz_y rfl
              have qn : ¬ lN Q = 0 := fun q => by
                have := (pk_lEQ (a := Q) (b := 0) (by omega) (by decide)).mp q
                omega
              have e1 : jX11_likely g (f + 298 + 2) 5 [] [some (.ref M), some (.int (nI n0)), some (.int (nI n1)), some (.int (nI n2)), some (.long (lN X2)), none, some (.long (lN X1)), none, some (.int (nI (nR δ))), none, none, none, none, none] w0 = jX11_likely g (f + 298 + 1) 7 [] [none, none, none, some (.int (nI n2)), some (.long (lN X2)), none, some (.long (lN X1)), none, some (.long (lN X2)), none, some (.long (lN X1)), none, none, none] w0 := by
                rw [show f + 298 + 2 = (f + 298 + 1) + 1 from rfl]
                generalize f + 298 + 1 = F
                simp [jX11_likely, bX11_likely_0, bX11_likely_1, bX11_likely_2, bX11_likely_3, bX11_likely_4, bX11_likely_5, bX11_likely_6, bX11_likely_7, bX11_likely_8, i_aload, i_getf, i_i2l, i_icge, i_icne, i_ifeq, i_ifne, i_iinc, i_iload, i_istore, i_jmp, i_ladd, i_lcmp, i_ldiv, i_lload, i_lrem, i_lreturn, i_lstore, i_push, i_putf, msk, lset1, lset2, clr, Value.category, Option.toList, List.cons_append, List.nil_append, List.length_cons, List.length_nil, gf_eq hO, mg_27, x27, c1]
              rw [e1, E]
              by_cases z2 : n2 = 0
              · subst z2
                have dv := pk_lDiv (a := X2) (b := Q) (by omega) gp (by omega)
                simp [jX11_likely, bX11_likely_0, bX11_likely_1, bX11_likely_2, bX11_likely_3, bX11_likely_4, bX11_likely_5, bX11_likely_6, bX11_likely_7, bX11_likely_8, i_aload, i_getf, i_i2l, i_icge, i_icne, i_ifeq, i_ifne, i_iinc, i_iload, i_istore, i_jmp, i_ladd, i_lcmp, i_ldiv, i_lload, i_lrem, i_lreturn, i_lstore, i_push, i_putf, msk, lset1, lset2, clr, Value.category, Option.toList, List.cons_append, List.nil_append, List.length_cons, List.length_nil, c2, nI_0, qn, dv]
              · have dv := pk_lDiv (a := X1) (b := Q) (by omega) gp (by omega)
                have z3 := nI_ne0 (n := n2) (by omega) (by omega)
                simp [jX11_likely, bX11_likely_0, bX11_likely_1, bX11_likely_2, bX11_likely_3, bX11_likely_4, bX11_likely_5, bX11_likely_6, bX11_likely_7, bX11_likely_8, i_aload, i_getf, i_i2l, i_icge, i_icne, i_ifeq, i_ifne, i_iinc, i_iload, i_istore, i_jmp, i_ladd, i_lcmp, i_ldiv, i_lload, i_lrem, i_lreturn, i_lstore, i_push, i_putf, msk, lset1, lset2, clr, Value.category, Option.toList, List.cons_append, List.nil_append, List.length_cons, List.length_nil, c2, z2, z3, qn, dv])
        rw [← L N2 (by omega)]
        simp [fX11_likely, kX11_likely, ent, entp, jX11_likely, bX11_likely_0, bX11_likely_1, bX11_likely_2, bX11_likely_3, bX11_likely_4, bX11_likely_5, bX11_likely_6, bX11_likely_7, bX11_likely_8, i_aload, i_getf, i_i2l, i_icge, i_icne, i_ifeq, i_ifne, i_iinc, i_iload, i_istore, i_jmp, i_ladd, i_lcmp, i_ldiv, i_lload, i_lrem, i_lreturn, i_lstore, i_push, i_putf, msk, lset1, lset2, clr, Value.category, Option.toList, List.cons_append, List.nil_append, List.length_cons, List.length_nil, hN2, st_0 hI.1, hw0, cvk_1 hO q0, cvk_1 hO q1, cvk_3 hO (bad0_sp hg hO x0' 1 0), csk_3 q2, cvk_3 hO (bad0_sp hg hO x0' 2 2), nI_0, sumH, (show lN 0 = 0 from rfl)]
