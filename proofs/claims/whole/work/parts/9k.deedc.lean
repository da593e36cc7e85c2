/-! ===== deed: the class ===== -/
theorem deed_c {g : GE} {w : Mem} {B E fed kept : Nat} {fp : Int32} {tp : Nat → Int32} {rf : Nat → Nat} {δ : DE} {τ : TE} {im : Nat → TE} {lev nG : Nat} (hg : GD g) (hE : B + 132 ≤ E) (hI : CI g w B E fed kept fp tp rf δ τ im lev nG) {T : Nat → Nat} (hT : TXT w (B + 1) T) (x0 : Int32) : ∃ δ0, CZ g w B E (fed, kept, fp, tp, rf, δ, τ, im) lev nG (fX10_deed g [.ref B, .int x0] w) (deedS (fed, kept, fp, tp, rf, δ, τ, im) T δ0 x0).1 (deedS (fed, kept, fp, tp, rf, δ, τ, im) T δ0 x0).2 := by
  have hg1 := hg.1
  obtain ⟨D, D', hCC, hCT, hCN, hCL, hCM⟩ := id hI
  obtain ⟨hDD, hB, hTp, hD, ⟨δ0, hD'⟩, ⟨l0, a0, s0, c0, d0, k0, p0, hSc⟩, hr, hd, hfd, hkp⟩ := id hCC
  obtain ⟨aM, aS, aG, n1', hG, hX⟩ := id hCT
  obtain ⟨N, hN⟩ : ∃ N, g.1 = N + 3 := ⟨g.1 - 3, by omega⟩
  refine ⟨δ0, ?_⟩
  unfold deedS
  simp only []
  cases h0 : rng x0 (fed + 1) with
  | none =>
    have e9 := needArgument_sp (g := g) hB hr false
    simp only [tst, Bool.false_eq_true, if_false] at e9
    refine CZ.of (o := .inr (1, 2)) (CQ.no hE hI ?_)
    rcases rng_none (by omega) h0 with q | q
    · simp [fX10_deed, kX10_deed, ent, entp, jX10_deed, bX10_deed_0, bX10_deed_1, bX10_deed_2, i_aload, i_astore, i_getf, i_icgt, i_iflt, i_ifne, i_iload, i_ireturn, i_isub, i_jmp, i_push, i_putf, msk, lset1, lset2, clr, Value.category, Option.toList, List.cons_append, List.nil_append, List.length_cons, List.length_nil, hN, q, gf_eq hB, cxe_1 hB e9]
    · have q2 : nI fed < x0 := Int32.lt_of_lt_of_le (nI_lt (by omega) (by omega)) q
      by_cases q3 : x0 < 0
      · simp [fX10_deed, kX10_deed, ent, entp, jX10_deed, bX10_deed_0, bX10_deed_1, bX10_deed_2, i_aload, i_astore, i_getf, i_icgt, i_iflt, i_ifne, i_iload, i_ireturn, i_isub, i_jmp, i_push, i_putf, msk, lset1, lset2, clr, Value.category, Option.toList, List.cons_append, List.nil_append, List.length_cons, List.length_nil, hN, q3, gf_eq hB, cxe_1 hB e9]
      · simp [fX10_deed, kX10_deed, ent, entp, jX10_deed, bX10_deed_0, bX10_deed_1, bX10_deed_2, i_aload, i_astore, i_getf, i_icgt, i_iflt, i_ifne, i_iload, i_ireturn, i_isub, i_jmp, i_push, i_putf, msk, lset1, lset2, clr, Value.category, Option.toList, List.cons_append, List.nil_append, List.length_cons, List.length_nil, hN, q3, q2, gf_eq hB, cxe_1 hB e9]
  | some n =>
    obtain ⟨ln, en⟩ := rng_some (by omega) h0
    subst en
    simp only []
    have e8 := needArgument_sp (g := g) hB hr true
    simp only [tst, if_true] at e8
    have g1 : ¬ nI n < 0 := nI_pos (by omega)
    have g2 : ¬ nI fed < nI n := nI_nlt (by omega) (by omega)
    -- the tape is empty
    have s1 := sf_i hB 1 0 (by simp)
    obtain ⟨w1, hw1⟩ : ∃ z, mset w B (.inr (9, [.ref (B + 1), .int 0, .ref (B + 72), .ref D, .ref D', .ref (B + 73), .ref (B + 87), .ref (B + 95), .ref (B + 98), .ref (B + 106), .int (nI kept), .int fp, .ref (B + 131)])) = z := ⟨_, rfl⟩
    have s1' : sf w B 9 1 .int (.int 0) = some w1 := by rw [s1, ← hw1]; rfl
    have b1 : BD w1 B D D' 0 kept fp := hw1 ▸ ms_at _ _ _
    have F1 : Fr (fun q => q = B) w w1 := hw1 ▸ Fr.ms _ _ rfl
    have lD : ∀ i, i < 35 → D + i ≠ B ∧ D + i ≠ B + 1 ∧ D + i ≠ B + 72 ∧ D + i < B + 73 ∧ B + 1 < D + i ∧ ¬ rg D' (D' + 35) (D + i) := fun i hi => by
      clear hkp
      unfold rg
      rcases hDD with ⟨e1, e2⟩ | ⟨e1, e2⟩ <;> omega
    have lD' : ∀ i, i < 35 → D' + i ≠ B ∧ D' + i ≠ B + 1 ∧ D' + i ≠ B + 72 ∧ D' + i < B + 73 ∧ B + 1 < D' + i := fun i hi => by
      clear hkp
      rcases hDD with ⟨e1, e2⟩ | ⟨e1, e2⟩ <;> omega
    have lr : ∀ a, rg D' (D' + 35) a → B + 1 < a ∧ a < B + 72 := fun a ha => by
      clear hkp
      unfold rg at ha
      rcases hDD with ⟨e1, e2⟩ | ⟨e1, e2⟩ <;> omega
    have hL : LY (B + 72) (B + 1) D' := ⟨by omega, fun i hi => (lD' i hi).2.2.1, fun i hi => (lD' i hi).2.1⟩
    obtain ⟨w2, r2, X2, F2⟩ := copyOut_sp hg hL (F1.at hSc (by omega)) (hT.fr F1 (by omega)) (hD'.fr F1 fun i hi => (lD' i hi).1) (show n ≤ 600 by omega)
    have nB : ¬ FS (B + 72) D' B := fun h => by
      rcases h with h | h
      · omega
      · have := lr _ h; omega
    have b2 : BD w2 B D D' 0 kept fp := F2.at b1 nB
    have FS_lt : ∀ a, FS (B + 72) D' a → B + 1 < a ∧ a < B + 73 := fun a h => by
      rcases h with h | h
      · omega
      · have := lr _ h; omega
    have F12 : Fr (fun q => q = B ∨ FS (B + 72) D' q) w w2 := (F1.mn fun a h => Or.inl h).tr (F2.mn fun a h => Or.inr h)
    have nD : ∀ i, i < 35 → ¬ (D + i = B ∨ FS (B + 72) D' (D + i)) := fun i hi h => by
      have := lD i hi
      rcases h with h | h | h
      · exact this.1 h
      · exact this.2.2.1 h
      · exact this.2.2.2.2.2 h
    have n73 : ∀ a, B + 73 ≤ a → ¬ (a = B ∨ FS (B + 72) D' a) := fun a ha h => by
      rcases h with h | h
      · omega
      · have := FS_lt _ h; omega
    have nB1 : ¬ (B + 1 = B ∨ FS (B + 72) D' (B + 1)) := fun h => by
      rcases h with h | h
      · omega
      · have := FS_lt _ h; omega
    have hTp2 := hTp.fr F12 nB1
    have hr2 := hr.fr F12 (n73 _ (by omega))
    have D2 := hD.fr F12 nD
    have CN2 := hCN.fr F12 fun i h1 h2 => n73 _ (by omega)
    have CL2 := hCL.fr F12 fun i h1 h2 => n73 _ (by omega)
    have CM2 := hCM.fr F12 fun i h1 h2 => n73 _ (by omega)
    have CT2 := hCT.fr F12 (fun i h1 h2 => n73 _ (by omega)) (fun a ha => n73 _ (by omega))
    cases hp : deedP T n δ0 with
    | inl e =>
      rw [hp] at r2 X2
      obtain ⟨⟨a1, s1'', c1, o2⟩, δ2, D2'⟩ := X2
      have s3 := sf_i b2 11 (nI e.2) (by simp)
      obtain ⟨w3, hw3⟩ : ∃ z, mset w2 B (.inr (9, [.ref (B + 1), .int (nI 0), .ref (B + 72), .ref D, .ref D', .ref (B + 73), .ref (B + 87), .ref (B + 95), .ref (B + 98), .ref (B + 106), .int (nI kept), .int (nI e.2), .ref (B + 131)])) = z := ⟨_, rfl⟩
      have s3' : sf w2 B 9 11 .int (.int (nI e.2)) = some w3 := by rw [s3, ← hw3]; rfl
      have b3 : BD w3 B D D' 0 kept (nI e.2) := hw3 ▸ ms_at _ _ _
      have F3 : Fr (fun q => q = B) w2 w3 := hw3 ▸ Fr.ms _ _ rfl
      have o3 := F3.at o2 (by omega)
      have r2' : fX6_copyOut g [.ref (B + 72), .ref D', .int (nI n)] w1 = some (.inl (some (.int 0)), w2) := r2
      refine ⟨w3, lev, nG, ?_, ⟨D, D', ⟨hDD, b3, hTp2.fr F3 (by omega), D2.fr F3 (fun i hi => (lD i hi).1), ⟨δ2, D2'.fr F3 fun i hi => (lD' i hi).1⟩, ⟨_, _, _, _, _, _, _, o3⟩, hr2.fr F3 (by omega), hd, Nat.zero_le _, hkp⟩, CT2.fr F3 (fun i h1 h2 => by omega) (fun a ha => by omega), CN2.fr F3 (fun i h1 h2 => by omega), CL2.fr F3 (fun i h1 h2 => by omega), CM2.fr F3 (fun i h1 h2 => by omega)⟩, Fr.fa ?_, RM.rf (F3.2.trans F12.2)⟩
      · show _ = some (Sum.inl (some (Value.int (nI e.1 - 10))), w3)
        clear s1 s3
        simp [fX10_deed, kX10_deed, ent, entp, jX10_deed, bX10_deed_0, bX10_deed_1, bX10_deed_2, i_aload, i_astore, i_getf, i_icgt, i_iflt, i_ifne, i_iload, i_ireturn, i_isub, i_jmp, i_push, i_putf, msk, lset1, lset2, clr, Value.category, Option.toList, List.cons_append, List.nil_append, List.length_cons, List.length_nil, hN, g1, g2, gf_eq hB, cxk_1 hB e8, s1', gf_eq b1, cvk_2 (F1.at hSc (by omega)) r2', gf_eq b2, gf_eq o2, s3', gf_eq b3, gf_eq o3]
      · refine (F12.mn fun a h => ?_).tr (F3.mn fun a h => ?_)
        · rcases h with h | h
          · exact CF.in (by omega)
          · have := FS_lt _ h
            exact CF.in (by omega)
        · exact CF.in (by omega)
    | inr y =>
      obtain ⟨δ1, e1⟩ := y
      rw [hp] at r2 X2
      obtain ⟨⟨s4, c4, k4, p4, o2⟩, T2, D2'⟩ := X2
      have D2' : DEED g w2 D' δ1 := D2'
      have wf : WF δ1 := deedP_ok hp
      have r2' : fX6_copyOut g [.ref (B + 72), .ref D', .int (nI n)] w1 = some (.inl (some (.int 1)), w2) := r2
      -- no fault, the draft stands
      have s3 := sf_i b2 11 (-1) (by simp)
      obtain ⟨w3, hw3⟩ : ∃ z, mset w2 B (.inr (9, [.ref (B + 1), .int (nI 0), .ref (B + 72), .ref D, .ref D', .ref (B + 73), .ref (B + 87), .ref (B + 95), .ref (B + 98), .ref (B + 106), .int (nI kept), .int (-1), .ref (B + 131)])) = z := ⟨_, rfl⟩
      have s3' : sf w2 B 9 11 .int (.int (-1)) = some w3 := by rw [s3, ← hw3]; rfl
      have b3 : BD w3 B D D' 0 kept (-1) := hw3 ▸ ms_at _ _ _
      have F3 : Fr (fun q => q = B) w2 w3 := hw3 ▸ Fr.ms _ _ rfl
      have s5 := sf_o b3 3 "BlottedDeed$Deed" D' (by simp)
      obtain ⟨w4, hw4⟩ : ∃ z, mset w3 B (.inr (9, [.ref (B + 1), .int (nI 0), .ref (B + 72), .ref D', .ref D', .ref (B + 73), .ref (B + 87), .ref (B + 95), .ref (B + 98), .ref (B + 106), .int (nI kept), .int (-1), .ref (B + 131)])) = z := ⟨_, rfl⟩
      have s5' : sf w3 B 9 3 (.object "BlottedDeed$Deed") (.ref D') = some w4 := by rw [s5, ← hw4]; rfl
      have b4 : BD w4 B D' D' 0 kept (-1) := hw4 ▸ ms_at _ _ _
      have F4 : Fr (fun q => q = B) w3 w4 := hw4 ▸ Fr.ms _ _ rfl
      have s6 := sf_o b4 4 "BlottedDeed$Deed" D (by simp)
      obtain ⟨w5, hw5⟩ : ∃ z, mset w4 B (.inr (9, [.ref (B + 1), .int (nI 0), .ref (B + 72), .ref D', .ref D, .ref (B + 73), .ref (B + 87), .ref (B + 95), .ref (B + 98), .ref (B + 106), .int (nI kept), .int (-1), .ref (B + 131)])) = z := ⟨_, rfl⟩
      have s6' : sf w4 B 9 4 (.object "BlottedDeed$Deed") (.ref D) = some w5 := by rw [s6, ← hw5]; rfl
      have b5 : BD w5 B D' D 0 kept (-1) := hw5 ▸ ms_at _ _ _
      have F5 : Fr (fun q => q = B) w4 w5 := hw5 ▸ Fr.ms _ _ rfl
      have F35 := (F3.tr F4).tr F5
      -- the testimony
      have CM5 := CM2.fr F35 (fun i h1 h2 => by omega)
      obtain ⟨w6, r6, t6, F6⟩ := clear_sp (g := g) CM5.1
      have b6 : BD w6 B D' D 0 kept (-1) := F6.at b5 (by omega)
      have s7 := sf_i b6 10 0 (by simp)
      obtain ⟨w7, hw7⟩ : ∃ z, mset w6 B (.inr (9, [.ref (B + 1), .int (nI 0), .ref (B + 72), .ref D', .ref D, .ref (B + 73), .ref (B + 87), .ref (B + 95), .ref (B + 98), .ref (B + 106), .int 0, .int (-1), .ref (B + 131)])) = z := ⟨_, rfl⟩
      have s7' : sf w6 B 9 10 .int (.int 0) = some w7 := by rw [s7, ← hw7]; rfl
      have b7 : BD w7 B D' D 0 0 (-1) := hw7 ▸ ms_at _ _ _
      have F7 : Fr (fun q => q = B) w6 w7 := hw7 ▸ Fr.ms _ _ rfl
      have F37 : Fr (fun q => q = B ∨ q = B + 98) w2 w7 := ((F35.mn fun a h => Or.inl h).tr (F6.mn fun a h => Or.inr h)).tr (F7.mn fun a h => Or.inl h)
      have CM7 : CM w7 B (va_up (va_up τ.1 0 0) 1 0, τ.2) im := ⟨t6.fr F7 (fun i hi => by omega), (CM5.2.1.fr F6 (by omega)).fr F7 (by omega), fun i hi => ((CM5.2.2 i hi).fr F6 (fun j hj => by omega)).fr F7 (fun j hj => by omega)⟩
      have D7 := D2.fr F37 (fun i hi => by have := lD i hi; omega)
      have D7' := D2'.fr F37 (fun i hi => by have := lD' i hi; omega)
      obtain ⟨aM2, aS2, aG2, n2, hG2, hX2⟩ := CT2.fr F37 (fun i h1 h2 => by omega) (fun a ha => by omega)
      obtain ⟨fM, fS, hTB, hLM, hLS, hTA, hCAP, -, -, h3⟩ := hG2
      obtain ⟨⟨x1, y1⟩, ⟨v9, d9, c9, o9, su9, tw9, y2⟩, ⟨x3, y3⟩, ⟨x4, y4, -⟩, ⟨x5, y5, -⟩, ⟨x6, y6⟩, y7⟩ := hX2
      obtain ⟨w8, aM8, aS8, n8, lev8, r8, G8, l8, t11, t12, ⟨v8, d8, c8, o8, su8, tw8, R8⟩, F8, u1, u2, u3, u4⟩ := gather_sp hg wf hTB hLM hLS hTA hCAP h3 y4 y5 y2 D7' (by have := lD' 34 (by decide); omega)
      obtain ⟨ta1, ta2, ta3, ta4, ta5, ta6, ta7, ta8, ta9, ta10, ta11⟩ := id hTA
      have K8 := F8.fr
      have nK : ∀ a, a < E → a ≠ B + 73 → a ≠ B + 74 → a ≠ B + 75 → a ≠ B + 76 → ¬ rg (B + 78) (B + 83) a → a ≠ B + 84 → a ≠ B + 85 → ¬ ((a = B + 73 ∨ a = B + 73 + 3 ∨ rg (B + 73 + 5) (B + 73 + 10) a ∨ a = B + 73 + 11 ∨ a = B + 73 + 12 ∨ a = aM2 ∨ a = aS2) ∨ w7.2.1 ≤ a) := fun a h1 h2 h3 h4 h5 h6 h7 h8 h => by
        unfold rg at *
        omega
      have b8 : BD w8 B D' D 0 0 (-1) := K8.at b7 (nK _ (by omega) (by omega) (by omega) (by omega) (by omega) (by unfold rg; omega) (by omega) (by omega))
      have nK2 : ∀ i, i < 73 → ¬ _ := fun i hi => nK (B + i) (by omega) (by omega) (by omega) (by omega) (by omega) (by unfold rg; omega) (by omega) (by omega)
      have nK3 : ∀ i, 86 ≤ i → i < 132 → ¬ _ := fun i h1 h2 => nK (B + i) (by omega) (by omega) (by omega) (by omega) (by omega) (by unfold rg; omega) (by omega) (by omega)
      have D8 : DEED g w8 D δ := DEED.fr (w := (w7.1, w8.2)) D7 K8 fun i hi => nK _ (by have := lD i hi; omega) (by have := lD i hi; omega) (by have := lD i hi; omega) (by have := lD i hi; omega) (by have := lD i hi; omega) (by have := lD i hi; unfold rg; omega) (by have := lD i hi; omega) (by have := lD i hi; omega)
      have D8' : DEED g w8 D' δ1 := DEED.fr (w := (w7.1, w8.2)) D7' K8 fun i hi => nK _ (by have := lD' i hi; omega) (by have := lD' i hi; omega) (by have := lD' i hi; omega) (by have := lD' i hi; omega) (by have := lD' i hi; omega) (by have := lD' i hi; unfold rg; omega) (by have := lD' i hi; omega) (by have := lD' i hi; omega)
      have FA7 : FA (CF B E) w w7 := ((F12.mn fun a h => by
        rcases h with h | h
        · exact CF.in (by omega)
        · have := FS_lt _ h
          exact CF.in (by omega)).tr (F37.mn fun a h => CF.in (by omega))).fa
      have e72 : w7.2 = w.2 := F37.2.trans F12.2
      have hTp7 : IA w7 (B + 1) 600 tp := hTp2.fr F37 (by omega)
      have hTp8 : IA w8 (B + 1) 600 tp := AR.fr (w := (w7.1, w8.2)) hTp7 K8 (nK _ (by omega) (by omega) (by omega) (by omega) (by omega) (by unfold rg; omega) (by omega) (by omega))
      have o8' : OB w8 (B + 72) 6 [.ref (B + 1), .int (nI n), .int (nI e1), .int s4, .long c4, .ref D', .int k4, .int p4] := K8.at (F37.at o2 (by omega)) (nK2 72 (by decide))
      have hr7 : IA w7 (B + 131) 3 (fun i => nI (rf i)) := hr2.fr F37 (by omega)
      have hr8 : IA w8 (B + 131) 3 (fun i => nI (rf i)) := AR.fr (w := (w7.1, w8.2)) hr7 K8 (nK3 131 (by decide) (by decide))
      have CN7 : CN w7 B := CN2.fr F37 (fun i h1 h2 => by omega)
      have CL7 : CL w7 B := CL2.fr F37 (fun i h1 h2 => by omega)
      have CN8 : CN w8 B := CN.fr (w := (w7.1, w8.2)) CN7 K8 (fun i h1 h2 => nK3 i (by omega) (by omega))
      have CL8 : CL w8 B := CL.fr (w := (w7.1, w8.2)) CL7 K8 (fun i h1 h2 => nK3 i (by omega) (by omega))
      have CM8 : CM w8 B (va_up (va_up τ.1 0 0) 1 0, τ.2) im := CM.fr (w := (w7.1, w8.2)) CM7 K8 (fun i h1 h2 => nK3 i (by omega) (by omega))
      have X8 : TX w8 B aG2 nG δ1 := by
        refine ⟨⟨x1, AR.fr (w := (w7.1, w8.2)) y1 K8 (nK _ (by omega) (by omega) (by omega) (by omega) (by omega) (by unfold rg; omega) (by omega) (by omega))⟩, ⟨v8, d8, c8, o8, su8, tw8, R8⟩, ⟨x3, AR.fr (w := (w7.1, w8.2)) y3 K8 (nK _ (by omega) (by omega) (by omega) (by omega) (by omega) (by unfold rg; omega) (by omega) (by omega))⟩, ⟨_, t11, fun k hk => Or.inl rfl⟩, ⟨_, t12, fun k hk => Or.inl rfl⟩, ⟨x6, AR.fr (w := (w7.1, w8.2)) y6 K8 fun h => ?_⟩, y7⟩
        unfold rg at h
        omega
      refine ⟨w8, lev8, nG, ?_, ⟨D', D, ⟨hDD.symm.imp (fun h => ⟨h.2, h.1⟩) (fun h => ⟨h.2, h.1⟩), b8, hTp8, D8', ⟨δ, D8⟩, ⟨_, _, _, _, _, _, _, o8'⟩, hr8, wf, Nat.zero_le _, Nat.zero_le _⟩, ⟨aM8, aS8, aG2, n8, G8, X8⟩, CN8, CL8, CM8⟩, ?_, ?_⟩
      · show _ = some (Sum.inl (some (Value.int (nI (δ1.1 3)))), w8)
        have o8d := D8'.1
        clear s1 s3 s5 s6 s7
        simp [fX10_deed, kX10_deed, ent, entp, jX10_deed, bX10_deed_0, bX10_deed_1, bX10_deed_2, i_aload, i_astore, i_getf, i_icgt, i_iflt, i_ifne, i_iload, i_ireturn, i_isub, i_jmp, i_push, i_putf, msk, lset1, lset2, clr, Value.category, Option.toList, List.cons_append, List.nil_append, List.length_cons, List.length_nil, hN, g1, g2, gf_eq hB, cxk_1 hB e8, s1', gf_eq b1, cvk_2 (F1.at hSc (by omega)) r2', gf_eq b2, s3', gf_eq b3, s5', gf_eq b4, s6', gf_eq b5, cvk_0 CM5.1.1 r6, s7', gf_eq b7, cvk_1 hTB r8, gf_eq b8, gf_eq o8d]
      · refine FA7.tr F8 fun a ha h => ?_
        unfold rg at h
        have : (B ≤ a ∧ a < B + 132) ∨ E ≤ a := by omega
        exact this
      · rw [e72] at u1 u2
        refine ⟨l8, ?_, ?_⟩
        · show _ + ge1 nG 0 ≤ _ + ge1 nG 0
          omega
        · show _ + 20000 * ge1 nG 0 ≤ _ + 20000 * ge1 nG 0 + 10006
          omega
