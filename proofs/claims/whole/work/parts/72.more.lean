/-! ===== more, weak ===== -/
theorem CI.an {g : GE} {w w' : Mem} {B E fed kept : Nat} {fp : Int32} {tp : Nat → Int32} {rf : Nat → Nat} {δ : DE} {τ : TE} {im : Nat → TE} {lev nG : Nat} (hE : B + 132 ≤ E) (h : CI g w B E fed kept fp tp rf δ τ im lev nG) {D : Nat} (k : Fr (rg (B + 87) (B + 95)) w w') (hA : AN0 w' (B + 87) D δ) : CI g w' B E fed kept fp tp rf δ τ im lev nG := by
  obtain ⟨D0, D', h1, h2, h3, h4, h5⟩ := h
  obtain ⟨a1, ⟨v, d, c, o, su, tw, a2, -⟩, ⟨x1, x2, x3, x4, x5, a3⟩, ⟨c4, a4⟩⟩ := hA
  exact ⟨D0, D', h1.fr k (fun i hi => by unfold rg; omega) (by unfold rg; omega), h2.fr k (fun i h1 h2 => by unfold rg; omega) (fun a ha => by unfold rg; omega), ⟨⟨D, a1⟩, ⟨v, d, c, o, su, tw, a2⟩, ⟨x1, x2, x3, x4, x5, a3⟩, ⟨c4, a4⟩⟩, h4.fr k (fun i h1 h2 => by unfold rg; omega), h5.fr k (fun i h1 h2 => by unfold rg; omega)⟩
theorem clean_sp {g : GE} {w : Mem} {B E fed kept : Nat} {fp : Int32} {tp : Nat → Int32} {rf : Nat → Nat} {δ : DE} {lev D D' aM aS aG n1 : Nat} (hg : GD g) (hE : B + 132 ≤ E) (hCC : CC g w B D D' fed kept fp tp rf δ) (hG : GT g w (B + 73) E D δ (δ.1 6) aM aS aG n1 lev) (hCN : CN w B) (h0 : 0 < nR δ) :
    ∃ w' d0, OB w (B + 87) 0 [.ref (B + 87 + 1), .ref (B + 87 + 6), .ref d0] ∧ fX0_clean g [.ref (B + 87), .ref D, .long (lN (mkN (δ.1 3) (dgR δ 0)))] w = some (.inl none, w') ∧ AN0 w' (B + 87) D δ ∧ Fr (rg (B + 87) (B + 95)) w w' := by
  have hg1 := hg.1
  obtain ⟨hDD, hB, hTp, hD, hD', hSc, hr, hd, hfd, hkp⟩ := id hCC
  obtain ⟨b1, b2, b3, b4, b5, b6, b7, b8⟩ := id hd.1
  have dt := hCC.dt
  obtain ⟨⟨dd, n0⟩, ⟨v, d, c, o, su, tw, n2⟩, ⟨x1, x2, x3, x4, x5, n3⟩, ⟨c4, n4⟩⟩ := hCN
  obtain ⟨w1, hw1⟩ : ∃ q, mset w (B + 87) (.inr (0, [.ref (B + 88), .ref (B + 93), .ref D])) = q := ⟨_, rfl⟩
  have o1 : OB w1 (B + 87) 0 [.ref (B + 88), .ref (B + 93), .ref D] := hw1 ▸ ms_at _ _ _
  have F1 : Fr (fun a => a = B + 87) w w1 := hw1 ▸ Fr.ms _ _ rfl
  have D1 := hD.fr F1 (fun i hi => by omega)
  have R1 := n2.fr F1 (fun i hi => by omega)
  obtain ⟨w2, v', d', q1, q2, q3, q4⟩ := show_sp hg1 (dd := dgR δ 0) (mk := lN (mkN (δ.1 3) (dgR δ 0))) D1 R1 (Or.inl (by omega)) hd (fun b hb => dgR_lt hd 0 hb) (fun w1 b hb => digitIn_sp b4 (fun b hb => by have := dgR_100 hd 0 hb; omega) hb)
  have F2 : Fr (rg (B + 87) (B + 95)) w w2 := (F1.mn fun a h => by unfold rg; omega).tr (q4.mn fun a h => by unfold rg at *; omega)
  have o2 := q4.at o1 (by unfold rg; omega)
  refine ⟨w2, dd, n0, ?_, ⟨o2, ⟨v', d', _, _, _, _, q2, q3.1⟩, ⟨_, _, _, _, _, (F1.at n3 (by omega) |> fun z => q4.at z (by unfold rg; omega))⟩, ⟨c4, (n4.fr F1 (by omega)).fr q4 (by unfold rg; omega)⟩⟩, F2⟩
  generalize lN (mkN (δ.1 3) (dgR δ 0)) = X at q1 ⊢
  simp [fX0_clean, kX0_clean, ent, entp, bX0_clean_0, i_aload, i_getf, i_lload, i_putf, i_return, msk, lset1, lset2, clr, Value.category, Option.toList, List.cons_append, List.nil_append, List.length_cons, List.length_nil, sf_o n0, hw1, gf_eq o1, cvk_2 R1.1 q1]
def moreO (δ : DE) (x0 x1 : Int32) : OUT := 
  match rng x0 (δ.1 5) with
  | none => .inr (1, 0)
  | some n0 =>
    match rng x1 (2 + 1) with
    | none => .inr (2, 2)
    | some n1 =>
      .inl (.int (if nR δ = 0 then -1 else nI (if n1 = 0 then v0K δ n0 else if n1 = 1 then cntF (caP δ n0) 100 else cntF (clP δ n0) 100)))
theorem more_c {g : GE} {w : Mem} {B E fed kept : Nat} {fp : Int32} {tp : Nat → Int32} {rf : Nat → Nat} {δ : DE} {τ : TE} {im : Nat → TE} {lev nG : Nat} (hg : GD g) (hE : B + 132 ≤ E) (hI : CI g w B E fed kept fp tp rf δ τ im lev nG) (x0 x1 : Int32) : CQ g w B E fed kept fp tp rf δ τ im lev nG (fX10_more g [.ref B, .int x0, .int x1] w) (moreO δ x0 x1) := by
  have hg1 := hg.1
  obtain ⟨D, D', hCC, hCT, hCN, hCL, hCM⟩ := id hI
  obtain ⟨hDD, hB, hTp, hD, hD', hSc, hr, hd, hfd, hkp⟩ := id hCC
  obtain ⟨aM, aS, aG, n1', hG, hX⟩ := id hCT
  obtain ⟨b1, b2, b3, b4, b5, b6, b7, b8⟩ := id hd.1
  have hT := hG.tb
  have hn := nR_le hd
  obtain ⟨N, hN⟩ : ∃ N, g.1 = N + 12 := ⟨g.1 - 12, by omega⟩
  unfold moreO
  have q0 := needIndex_sp hg1 hB hr x0 (n := δ.1 5) (by omega)
  cases h0 : rng x0 (δ.1 5) with
  | none =>
    rw [h0] at q0
    simp only [tst, Option.isSome, Bool.false_eq_true, if_false] at q0
    refine CQ.no hE hI ?_
    simp [fX10_more, kX10_more, ent, entp, jX10_more, bX10_more_0, bX10_more_1, i_aload, i_getf, i_icne, i_ifne, i_iload, i_ireturn, i_jmp, i_laload, i_push, msk, lset1, lset2, clr, Value.category, Option.toList, List.cons_append, List.nil_append, List.length_cons, List.length_nil, hN, gf_eq hB, gf_eq hD.1, cxe_2 hB q0]
  | some n0 =>
    rw [h0] at q0
    simp only [tst, Option.isSome, if_true] at q0
    obtain ⟨l0, e0⟩ := rng_some (by omega) h0
    subst e0
    have q1 := needWhat_sp hg1 hB hr x1 (n := 2) (y := 2) rfl (by decide)
    cases h1 : rng x1 (2 + 1) with
    | none =>
      rw [h1] at q1
      simp only [tst, Option.isSome, Bool.false_eq_true, if_false] at q1
      refine CQ.no hE hI ?_
      simp [fX10_more, kX10_more, ent, entp, jX10_more, bX10_more_0, bX10_more_1, i_aload, i_getf, i_icne, i_ifne, i_iload, i_ireturn, i_jmp, i_laload, i_push, msk, lset1, lset2, clr, Value.category, Option.toList, List.cons_append, List.nil_append, List.length_cons, List.length_nil, hN, gf_eq hB, gf_eq hD.1, cxk_2 hB q0, cxe_2 hB q1]
    | some n1 =>
      rw [h1] at q1
      simp only [tst, Option.isSome, if_true] at q1
      obtain ⟨l1, e1⟩ := rng_some (by omega) h1
      subst e1
      dsimp only
      have dt := hCC.dt
      by_cases z0 : nR δ = 0
      · rw [if_pos z0]
        have z1 : nI (nR δ) = 0 := by rw [z0]; exact nI_0
        refine CQ.ok hI ?_
        simp [fX10_more, kX10_more, ent, entp, jX10_more, bX10_more_0, bX10_more_1, i_aload, i_getf, i_icne, i_ifne, i_iload, i_ireturn, i_jmp, i_laload, i_push, msk, lset1, lset2, clr, Value.category, Option.toList, List.cons_append, List.nil_append, List.length_cons, List.length_nil, hN, gf_eq hB, gf_eq hD.1, cxk_2 hB q0, cxk_2 hB q1, gf_eq hT, z1]
      · rw [if_neg z0]
        have z1 := nI_ne0 (n := nR δ) (by omega) (by omega)
        obtain ⟨w1, dd0, o0, q9, A1, F1⟩ := clean_sp hg hE hCC hG hCN (by omega)
        have m1 := hG.mk (i := 0) (by omega)
        rw [nI_0] at m1
        have hD1 := hD.fr F1 (fun i hi => by unfold rg; omega)
        have hB1 := F1.at hB (by unfold rg; omega)
        generalize lN (mkN (δ.1 3) (dgR δ 0)) = MK at m1 q9

        have : n1 = 0 ∨ n1 = 1 ∨ n1 = 2 := by omega
        rcases this with y | y | y
        · subst y
          simp only [nI_0] at q1
          simp only [if_true]
          obtain ⟨O1, ⟨v, d, c, o, su, tw, r1, k1⟩, -, -⟩ := id A1
          have rv : gi w1 0 (B + 87 + 1 + 1) (nI n0) = some (nI (v0K δ n0)) := by rw [r1.2.1.rd (by omega) (by decide), k1 n0 l0]
          have p1 : fX0_standsAt g [.ref (B + 87), .int (nI n0)] w1 = some (.inl (some (.int (nI (v0K δ n0)))), w1) := by
            generalize nI (v0K δ n0) = V at rv ⊢
            simp [fX0_standsAt, kX0_standsAt, ent, entp, bX0_standsAt_0, i_aload, i_getf, i_iaload, i_iload, i_ireturn, msk, lset1, lset2, clr, Value.category, Option.toList, List.cons_append, List.nil_append, List.length_cons, List.length_nil, gf_eq O1, gf_eq r1.1, rv]
          refine CQ.okw (hI.an hE F1 A1) ?_ (F1.mn fun a ha => CF.in (by unfold rg at ha; omega))
          generalize nI (v0K δ n0) = V at p1 ⊢
          simp [fX10_more, kX10_more, ent, entp, jX10_more, bX10_more_0, bX10_more_1, i_aload, i_getf, i_icne, i_ifne, i_iload, i_ireturn, i_jmp, i_laload, i_push, msk, lset1, lset2, clr, Value.category, Option.toList, List.cons_append, List.nil_append, List.length_cons, List.length_nil, hN, gf_eq hB, gf_eq hD.1, cxk_2 hB q0, cxk_2 hB q1, gf_eq hT, z1, m1, cvk_2 o0 q9, gf_eq hB1, cvk_1 O1 p1, nI_0]
        · subst y
          have q1' : fX10_needWhat g [.ref B, .int 1, .int 2] w = some (.inl none, w) := q1
          simp only [if_true]
          obtain ⟨w2, p1, p2, -, p4⟩ := candidatesAt_sp hg1 hd hD1 (by omega) A1 l0
          have O1 := A1.1
          have F2 : Fr (rg (B + 87) (B + 95)) w w2 := F1.tr (p4.mn fun a h => by unfold rg at *; omega)
          rw [fil_len] at p1
          refine CQ.okw (hI.an hE F2 p2) ?_ (F2.mn fun a ha => CF.in (by unfold rg at ha; omega))
          simp only [show ¬ (1 = 0) from by decide, if_false]
          generalize nI (cntF (caP δ n0) 100) = V at p1 ⊢
          have e1 : nI 1 = 1 := rfl
          simp [fX10_more, kX10_more, ent, entp, jX10_more, bX10_more_0, bX10_more_1, i_aload, i_getf, i_icne, i_ifne, i_iload, i_ireturn, i_jmp, i_laload, i_push, msk, lset1, lset2, clr, Value.category, Option.toList, List.cons_append, List.nil_append, List.length_cons, List.length_nil, hN, gf_eq hB, gf_eq hD.1, cxk_2 hB q0, e1, cxk_2 hB q1', gf_eq hT, z1, m1, cvk_2 o0 q9, gf_eq hB1, cvk_1 O1 p1]
        · subst y
          have q1' : fX10_needWhat g [.ref B, .int 2, .int 2] w = some (.inl none, w) := q1
          obtain ⟨w2, p1, p2, p4⟩ := readingsAt_sp hg hd hD1 (by omega) A1 l0
          have O1 := A1.1
          have F2 : Fr (rg (B + 87) (B + 95)) w w2 := F1.tr (p4.mn fun a h => by unfold rg at *; omega)
          refine CQ.okw (hI.an hE F2 p2) ?_ (F2.mn fun a ha => CF.in (by unfold rg at ha; omega))
          simp only [show ¬ (2 = 0) from by decide, show ¬ (2 = 1) from by decide, if_false]
          generalize nI (cntF (clP δ n0) 100) = V at p1 ⊢
          have e1 : nI 2 = 2 := rfl
          simp [fX10_more, kX10_more, ent, entp, jX10_more, bX10_more_0, bX10_more_1, i_aload, i_getf, i_icne, i_ifne, i_iload, i_ireturn, i_jmp, i_laload, i_push, msk, lset1, lset2, clr, Value.category, Option.toList, List.cons_append, List.nil_append, List.length_cons, List.length_nil, hN, gf_eq hB, gf_eq hD.1, cxk_2 hB q0, e1, cxk_2 hB q1', gf_eq hT, z1, m1, cvk_2 o0 q9, gf_eq hB1, cvk_1 O1 p1]
def weakO (δ : DE) (x0 : Int32) : OUT := 
  match rng x0 (δ.1 1) with
  | none => .inr (1, 0)
  | some n0 =>
    .inl (.int (if nR δ = 0 then -1 else nI (cntF (fun p => wkB δ p n0) (δ.1 5))))
theorem weak_c {g : GE} {w : Mem} {B E fed kept : Nat} {fp : Int32} {tp : Nat → Int32} {rf : Nat → Nat} {δ : DE} {τ : TE} {im : Nat → TE} {lev nG : Nat} (hg : GD g) (hE : B + 132 ≤ E) (hI : CI g w B E fed kept fp tp rf δ τ im lev nG) (x0 : Int32) : CQ g w B E fed kept fp tp rf δ τ im lev nG (fX10_weak g [.ref B, .int x0] w) (weakO δ x0) := by
  have hg1 := hg.1
  obtain ⟨D, D', hCC, hCT, hCN, hCL, hCM⟩ := id hI
  obtain ⟨hDD, hB, hTp, hD, hD', hSc, hr, hd, hfd, hkp⟩ := id hCC
  obtain ⟨aM, aS, aG, n1', hG, hX⟩ := id hCT
  obtain ⟨b1, b2, b3, b4, b5, b6, b7, b8⟩ := id hd.1
  have hT := hG.tb
  have hn := nR_le hd
  obtain ⟨N, hN⟩ : ∃ N, g.1 = N + 1 := ⟨g.1 - 1, by omega⟩
  unfold weakO
  have q0 := needThing_sp hg1 hB hr hD b2 x0
  cases h0 : rng x0 (δ.1 1) with
  | none =>
    rw [h0] at q0
    simp only [tst, Option.isSome, Bool.false_eq_true, if_false] at q0
    refine CQ.no hE hI ?_
    simp [fX10_weak, kX10_weak, ent, entp, jX10_weak, bX10_weak_0, bX10_weak_1, bX10_weak_2, i_aload, i_getf, i_icge, i_ifeq, i_ifne, i_iinc, i_iload, i_ireturn, i_istore, i_jmp, i_laload, i_push, msk, lset1, lset2, clr, Value.category, Option.toList, List.cons_append, List.nil_append, List.length_cons, List.length_nil, hN, cxe_1 hB q0]
  | some n0 =>
    rw [h0] at q0
    simp only [tst, Option.isSome, if_true] at q0
    obtain ⟨l0, e0⟩ := rng_some (by omega) h0
    subst e0
    dsimp only
    have dt := hCC.dt
    by_cases z0 : nR δ = 0
    · rw [if_pos z0]
      have z1 : nI (nR δ) = 0 := by rw [z0]; exact nI_0
      refine CQ.ok hI ?_
      simp [fX10_weak, kX10_weak, ent, entp, jX10_weak, bX10_weak_0, bX10_weak_1, bX10_weak_2, i_aload, i_getf, i_icge, i_ifeq, i_ifne, i_iinc, i_iload, i_ireturn, i_istore, i_jmp, i_laload, i_push, msk, lset1, lset2, clr, Value.category, Option.toList, List.cons_append, List.nil_append, List.length_cons, List.length_nil, hN, cxk_1 hB q0, gf_eq hB, gf_eq hT, z1]
    · rw [if_neg z0]
      have z1 := nI_ne0 (n := nR δ) (by omega) (by omega)
      obtain ⟨w1, dd0, o0, q9, A1, F1⟩ := clean_sp hg hE hCC hG hCN (by omega)
      have m1 := hG.mk (i := 0) (by omega)
      rw [nI_0] at m1
      have hD1 := hD.fr F1 (fun i hi => by unfold rg; omega)
      have hB1 := F1.at hB (by unfold rg; omega)
      generalize lN (mkN (δ.1 3) (dgR δ 0)) = MK at m1 q9

      obtain ⟨N2, hN2⟩ : ∃ N, g.1 = N + 1 := ⟨g.1 - 1, by omega⟩
      have L := lpR (fun f (s : Lv × Mem) => jX10_weak g f 1 [] s.1 s.2) (fun k s => s.1 = [some (.ref B), some (.int (nI n0)), some (.int (nI (cntF (fun p => wkB δ p n0) k))), some (.int (nI k))] ∧ AN0 s.2 (B + 87) D δ ∧ Fr (rg (B + 87) (B + 95)) w s.2)
        (fun z => ∃ w', z = some (.inl (some (.int (nI (cntF (fun p => wkB δ p n0) (δ.1 5))))), w') ∧ AN0 w' (B + 87) D δ ∧ Fr (rg (B + 87) (B + 95)) w w') 2 1 (δ.1 5)
        (fun k s hk hI f => by
          obtain ⟨e1, e2, e3⟩ := hI
          have hDs := hD.fr e3 (fun i hi => by unfold rg; omega)
          have hBs := e3.at hB (by unfold rg; omega)
          obtain ⟨w2, p1, p2, p4⟩ := isWeak_sp hg hd hDs (by omega) e2 hk (t := n0) (by omega)
          refine Or.inr ⟨f, ([some (.ref B), some (.int (nI n0)), some (.int (nI (cntF (fun p => wkB δ p n0) (k + 1)))), some (.int (nI (k + 1)))], w2), Nat.le_refl _, ⟨rfl, p2, e3.tr (p4.mn fun a h => by unfold rg at *; omega)⟩, ?_⟩
          have ec : cntF (fun p => wkB δ p n0) (k + 1) = cntF (fun p => wkB δ p n0) k + if wkB δ k n0 = true then 1 else 0 := rfl
          rw [ec]
          generalize cntF (fun p => wkB δ p n0) k = X at e1 ⊢
          cases hw : wkB δ k n0 with
          | true =>
            rw [hw] at p1
            simp [jX10_weak, bX10_weak_0, bX10_weak_1, bX10_weak_2, i_aload, i_getf, i_icge, i_ifeq, i_ifne, i_iinc, i_iload, i_ireturn, i_istore, i_jmp, i_laload, i_push, msk, lset1, lset2, clr, Value.category, Option.toList, List.cons_append, List.nil_append, List.length_cons, List.length_nil, e1, gf_eq hBs, gf_eq hDs.1, nI_ge hk (by omega), cvk_2 e2.1 p1, bI, nI_1]
          | false =>
            rw [hw] at p1
            simp [jX10_weak, bX10_weak_0, bX10_weak_1, bX10_weak_2, i_aload, i_getf, i_icge, i_ifeq, i_ifne, i_iinc, i_iload, i_ireturn, i_istore, i_jmp, i_laload, i_push, msk, lset1, lset2, clr, Value.category, Option.toList, List.cons_append, List.nil_append, List.length_cons, List.length_nil, e1, gf_eq hBs, gf_eq hDs.1, nI_ge hk (by omega), cvk_2 e2.1 p1, bI, nI_1])
        (fun s hI f => by
          obtain ⟨e1, e2, e3⟩ := hI
          have hDs := hD.fr e3 (fun i hi => by unfold rg; omega)
          have hBs := e3.at hB (by unfold rg; omega)
          refine ⟨s.2, ?_, e2, e3⟩
          generalize cntF (fun p => wkB δ p n0) (δ.1 5) = X at e1 ⊢
          simp [jX10_weak, bX10_weak_0, bX10_weak_1, bX10_weak_2, i_aload, i_getf, i_icge, i_ifeq, i_ifne, i_iinc, i_iload, i_ireturn, i_istore, i_jmp, i_laload, i_push, msk, lset1, lset2, clr, Value.category, Option.toList, List.cons_append, List.nil_append, List.length_cons, List.length_nil, e1, gf_eq hBs, gf_eq hDs.1])
      obtain ⟨w', p1, p2, p3⟩ := L (δ.1 5) 0 ([some (.ref B), some (.int (nI n0)), some (.int (nI 0)), some (.int (nI 0))], w1) (by omega) ⟨rfl, A1, F1⟩ N2 (by omega)
      refine CQ.okw (hI.an hE p3 p2) ?_ (p3.mn fun a ha => CF.in (by unfold rg at ha; omega))
      simp only [nI_0] at p1
      rw [← p1]
      simp [fX10_weak, kX10_weak, ent, entp, jX10_weak, bX10_weak_0, bX10_weak_1, bX10_weak_2, i_aload, i_getf, i_icge, i_ifeq, i_ifne, i_iinc, i_iload, i_ireturn, i_istore, i_jmp, i_laload, i_push, msk, lset1, lset2, clr, Value.category, Option.toList, List.cons_append, List.nil_append, List.length_cons, List.length_nil, hN2, cxk_1 hB q0, gf_eq hB, gf_eq hT, z1, m1, cvk_2 o0 q9]
/-! the reference -/
/-- the next candidate from n on -/
def isN (p : Nat → Bool) (n : Nat) (o : Option Nat) : Prop := (o = none → ∀ u, n ≤ u → p u = false) ∧ (∀ u, o = some u → n ≤ u ∧ p u = true ∧ ∀ x, n ≤ x → x < u → p x = false)
theorem isN_cnt {p q : Nat → Bool} {n u : Nat} (h : isN p n (some u)) : cntF (fun v => p v && q v) u = cntF (fun v => p v && q v) n := by
  obtain ⟨-, h2⟩ := h
  obtain ⟨h3, h4, h5⟩ := h2 u rfl
  obtain ⟨k, rfl⟩ : ∃ k, u = n + k := ⟨u - n, by omega⟩
  clear h2 h4 h3
  induction k with
  | zero => rfl
  | succ k ih =>
    rw [← Nat.add_assoc]
    show cntF (fun v => p v && q v) (n + k) + (if (p (n + k) && q (n + k)) = true then 1 else 0) = _
    rw [h5 (n + k) (by omega) (by omega), ih fun x h1 h2 => h5 x h1 (by omega)]
    rfl
theorem isN_end {p q : Nat → Bool} {n : Nat} (h : isN p n none) (hn : n ≤ 100) : cntF (fun v => p v && q v) 100 = cntF (fun v => p v && q v) n := by
  have h1 := h.1 rfl
  have := cntF_ext (p := fun v => p v && q v) (n := n) (100 - n) (fun b hb => by simp [h1 b hb])
  rw [show n + (100 - n) = 100 by omega] at this
  exact this
