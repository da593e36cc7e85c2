/-! ===== gather ===== -/
theorem RS.cg {δ : DE} {dd ee : Nat → Nat} {w w' : Mem} {r : Nat} {v d : Nat → Int32} (h : RS δ dd w r v d) (k : ∀ b, b < δ.1 3 → dd b = ee b) : RS δ ee w' r v d :=
  ⟨fun p hp => by rw [h.1 p hp, va_cg k p], fun b hb => by rw [h.2 b hb, k b hb]⟩
theorem GT.fr {g : GE} {S : Nat → Prop} {w w' : Mem} {tb E D n aM aS aG n1 lev : Nat} {δ : DE} (h : GT g w tb E D δ n aM aS aG n1 lev) (k : Fr S w w') (q1 : ¬ S tb) (q2 : ¬ S aM) (q3 : ¬ S aS) (q4 : ¬ S (tb + 3)) : GT g w' tb E D δ n aM aS aG n1 lev := by
  obtain ⟨fM, fS, hT, hM, hSh, hA, hC, hl, hfm, hrs⟩ := h
  exact ⟨fM, fS, k.at hT q1, hM.fr k q2, hSh.fr k q3, by unfold TA; rw [k.2]; exact hA, hC, hl, hfm, hrs.fr k q4⟩
/-- of the arrays that grow: they are no other cell of the table, nor below it -/
theorem TA.no {w : Mem} {tb E aM aS aG : Nat} (h : TA w tb E aM aS aG) : (tb < aM ∧ tb < aS ∧ aM ≠ tb + 3 ∧ aS ≠ tb + 3 ∧ aM ≠ tb + 11 ∧ aS ≠ tb + 11 ∧ aM ≠ tb + 12 ∧ aS ≠ tb + 12) ∧ ¬ rg (tb + 5) (tb + 10) aM ∧ ¬ rg (tb + 5) (tb + 10) aS ∧ tb + 14 ≤ w.2.1 := by
  obtain ⟨h1, h2, h3, h4, h5, h6, h7, h8, h9, h10, h11⟩ := h
  unfold rg
  refine ⟨⟨?_, ?_, ?_, ?_, ?_, ?_, ?_, ?_⟩, ?_, ?_, ?_⟩ <;> omega
theorem TA.m0 {w : Mem} {tb E aM aS aG : Nat} (h : TA w tb E aM aS aG) : tb < aM := h.no.1.1
theorem TA.s0 {w : Mem} {tb E aM aS aG : Nat} (h : TA w tb E aM aS aG) : tb < aS := h.no.1.2.1
theorem TA.w0 {w : Mem} {tb E aM aS aG : Nat} (h : TA w tb E aM aS aG) : tb + 14 ≤ w.2.1 := h.no.2.2.2
theorem TA.n4 {w : Mem} {tb E aM aS aG k : Nat} (h : TA w tb E aM aS aG) (hk : k = 11 ∨ k = 12 ∨ (5 ≤ k ∧ k < 10)) : ¬ (tb + k = tb ∨ tb + k = tb + 3 ∨ tb + k = aM ∨ tb + k = aS) := by
  obtain ⟨h1, h2, h3, h4, h5, h6, h7, h8, h9, h10, h11⟩ := h
  clear h3 h4 h5 h6 h7 h8 h9
  omega
theorem TA.nD {w : Mem} {tb E aM aS aG D j : Nat} (h : TA w tb E aM aS aG) (hD : D + 35 ≤ tb) (hj : j < 35) : ¬ (D + j = tb ∨ D + j = tb + 3 ∨ D + j = aM ∨ D + j = aS) := by
  have := h.m0
  have := h.s0
  omega
theorem gather_sp {g : GE} (hg : GD g) {w : Mem} {tb E D D0 sz ob aM aS aG n1 lev : Nat} {δ : DE} {fM fS : Nat → Int64} {c3 c11 c12 v d c o : Nat → Int32} {su tw : Int32} (hd : WF δ) (hT : TB w tb aM aS aG D0 sz ob) (hM : LA w aM n1 fM) (hSh : LA w aS n1 fS) (hA : TA w tb E aM aS aG) (hC : CAP n1 lev) (h3 : IA w (tb + 3) 1000 c3) (h11 : IA w (tb + 11) 9 c11) (h12 : IA w (tb + 12) 5 c12)
    (hR : ROW w (tb + 5) v d c o su tw) (hD : DEED g w D δ) (hDt : D + 35 ≤ tb) :
    ∃ w' aM' aS' n1' lev', fX7_gather g [.ref tb, .ref D] w = some (.inl none, w') ∧ GT g w' tb E D δ (δ.1 6) aM' aS' aG n1' lev' ∧ lev ≤ lev' ∧ IA w' (tb + 11) 9 (fun _ => -1) ∧ IA w' (tb + 12) 5 (fun _ => -1) ∧ (∃ v' d' c' o' su' tw', ROW w' (tb + 5) v' d' c' o' su' tw')
      ∧ FA (fun a => a = tb ∨ a = tb + 3 ∨ rg (tb + 5) (tb + 10) a ∨ a = tb + 11 ∨ a = tb + 12 ∨ a = aM ∨ a = aS) w w' ∧ w'.2.1 = w.2.1 + 2 * (lev' - lev) ∧ w'.2.2 ≤ w.2.2 + 40000 * (lev' - lev) ∧ (aM' = aM ∨ w.2.1 ≤ aM') ∧ (aS' = aS ∨ w.2.1 ≤ aS') := by
  have hg1 := hg.1
  obtain ⟨b1, b2, b3, b4, b5, b6, b7, b8⟩ := id hd.1
  have t1 := hA.m0
  have t2 := hA.s0
  have t11 := hA.w0
  have LP := lpR (fun f (s : Lv × Mem) => jX7_gather g f 1 [] s.1 s.2) (fun i s => s.1 = [some (.ref tb), none, some (.int (nI i))] ∧ ∃ aM' aS' n1' lev' v' d' c' o' su' tw', GT g s.2 tb E D δ i aM' aS' aG n1' lev' ∧ lev ≤ lev' ∧ IA s.2 (tb + 11) 9 (fun _ => -1) ∧ IA s.2 (tb + 12) 5 (fun _ => -1) ∧ ROW s.2 (tb + 5) v' d' c' o' su' tw' ∧ RS δ (dg δ i) s.2 (tb + 5) v' d'
      ∧ FA (fun a => a = tb ∨ a = tb + 3 ∨ rg (tb + 5) (tb + 10) a ∨ a = tb + 11 ∨ a = tb + 12 ∨ a = aM ∨ a = aS) w s.2 ∧ s.2.2.1 = w.2.1 + 2 * (lev' - lev) ∧ s.2.2.2 ≤ w.2.2 + 40000 * (lev' - lev) ∧ (aM' = aM ∨ w.2.1 ≤ aM') ∧ (aS' = aS ∨ w.2.1 ≤ aS'))
    (fun z => ∃ w' aM' aS' n1' lev', z = some (.inl none, w') ∧ GT g w' tb E D δ (δ.1 6) aM' aS' aG n1' lev' ∧ lev ≤ lev' ∧ IA w' (tb + 11) 9 (fun _ => -1) ∧ IA w' (tb + 12) 5 (fun _ => -1) ∧ (∃ v' d' c' o' su' tw', ROW w' (tb + 5) v' d' c' o' su' tw')
      ∧ FA (fun a => a = tb ∨ a = tb + 3 ∨ rg (tb + 5) (tb + 10) a ∨ a = tb + 11 ∨ a = tb + 12 ∨ a = aM ∨ a = aS) w w' ∧ w'.2.1 = w.2.1 + 2 * (lev' - lev) ∧ w'.2.2 ≤ w.2.2 + 40000 * (lev' - lev) ∧ (aM' = aM ∨ w.2.1 ≤ aM') ∧ (aS' = aS ∨ w.2.1 ≤ aS')) 1 1 (δ.1 6)
    (fun i s hi hI f => by
      obtain ⟨e1, aM', aS', n1', lev', v', d', c', o', su', tw', i1, i2, i3, i4, i5, i6, i7, i8, i9, i1011⟩ := hI
      have hDs : DEED g s.2 D δ := hD.fa i7 (by clear i1011; omega) (fun j hj => by clear i1011; unfold rg; omega)
      obtain ⟨fM', fS', hTs, -, -, hAs, -⟩ := id i1
      have u11 := hAs.w0
      obtain ⟨I10, hI10⟩ : ∃ P : Prop, P = ((aM' = aM ∨ w.2.1 ≤ aM') ∧ (aS' = aS ∨ w.2.1 ≤ aS')) := ⟨_, rfl⟩
      rw [← hI10] at i1011
      obtain ⟨w1, q1, q2, q3⟩ := reckon_sp hg hDs i5 (Or.inl (by omega)) hd (vr_VD hd i) i6.1 (-1)
      have hD1 := hDs.fr q3 (fun j hj => by unfold rg; omega)
      have i1' := i1.fr q3 (by unfold rg; omega) hAs.no.2.1 hAs.no.2.2.1 (by unfold rg; omega)
      have q4 := broken_sp hg1 hD1 q2 hd (vr_VD hd i)
      have hT1 : TB w1 tb aM' aS' aG D (rl δ i).length (obK δ i) := q3.at hTs (by unfold rg; omega)
      obtain ⟨w2, aM2, aS2, n2, lev2, r1, r2, r3, r4, r5, r6, r78⟩ := note_sp hg hd i1' (by omega) hD1 hDt q2 (RS.cg (w' := w1) i6 fun _ _ => rfl)
      have e1' : w1.2 = s.2.2 := q3.2
      have hD2 := hD1.fa r4 (by rw [e1']; omega) (fun j hj => hAs.nD hDt hj)
      have hR2 := q2.fa r4 (by rw [e1']; omega) (fun j hj => by have z := hAs.n4 (k := 5 + j) (by omega); rw [← Nat.add_assoc] at z; exact z)
      obtain ⟨fM2, fS2, hT2, -, -, hA2, -⟩ := id r2
      obtain ⟨w3, v3, d3, p1, p2, p3, p4⟩ := showNext_sp hg1 hD2 hR2 (RS.cg (w' := w2) i6 fun _ _ => rfl) (fun b hb => dg_lt hd i hb) (Or.inl (by omega)) hd
      refine Or.inr ⟨f, ([some (.ref tb), none, some (.int (nI (i + 1)))], w3), Nat.le_refl _, ⟨rfl, aM2, aS2, n2, lev2, v3, d3, _, _, _, _, r2.fr p4 (by unfold rg; omega) hA2.no.2.1 hA2.no.2.2.1 (by unfold rg; omega), by clear r78; omega, ?_, ?_, p2, RS.cg (w' := w3) p3 (nx_row hd i), ?_, ?_, ?_, ?_, ?_⟩, ?_⟩
      · exact ((i3.fr q3 (by unfold rg; omega)).fa r4 (by rw [e1']; omega) (hAs.n4 (Or.inl rfl))).fr p4 (by unfold rg; omega)
      · exact ((i4.fr q3 (by unfold rg; omega)).fa r4 (by rw [e1']; omega) (hAs.n4 (Or.inr (Or.inl rfl)))).fr p4 (by unfold rg; omega)
      · refine ((i7.tr q3.fa ?_).tr r4 ?_).tr p4.fa ?_
        · exact fun a ha h => Or.inr (Or.inr (Or.inl h))
        · intro a ha h
          rcases h with h | h | h | h
          · exact Or.inl h
          · exact Or.inr (Or.inl h)
          · rcases (hI10 ▸ i1011).1 with z | z
            · exact Or.inr (Or.inr (Or.inr (Or.inr (Or.inr (Or.inl (h.trans z))))))
            · exact absurd ha (by rw [h]; exact Nat.not_lt.mpr z)
          · rcases (hI10 ▸ i1011).2 with z | z
            · exact Or.inr (Or.inr (Or.inr (Or.inr (Or.inr (Or.inr (h.trans z))))))
            · exact absurd ha (by rw [h]; exact Nat.not_lt.mpr z)
        · exact fun a ha h => Or.inr (Or.inr (Or.inl h))
      · simp only [p4.2, r5, e1', i8]
        clear r78
        omega
      · have := r6
        rw [e1'] at this
        simp only [p4.2]
        clear r78
        omega
      · have r7' : aM2 = aM' ∨ s.2.2.1 ≤ aM2 := e1' ▸ r78.1
        have i10 := (hI10 ▸ i1011).1
        clear r78
        omega
      · have r8' : aS2 = aS' ∨ s.2.2.1 ≤ aS2 := e1' ▸ r78.2
        have i11 := (hI10 ▸ i1011).2
        clear r78
        omega
      · simp [jX7_gather, bX7_gather_0, bX7_gather_1, i_aload, i_getf, i_icge, i_iinc, i_iload, i_istore, i_jmp, i_push, i_putf, i_return, msk, lset1, lset2, clr, Value.category, Option.toList, List.cons_append, List.nil_append, List.length_cons, List.length_nil, e1, gf_eq hTs, gf_eq hDs.1, nI_ge hi (by omega), cvk_2 i5.1 q1, gf_eq hT1, cvk_1 q2.1 q4, cvk_1 hT1 r1, gf_eq hT2, cvk_1 hR2.1 p1, nI_1])
    (fun s hI f => by
      obtain ⟨e1, aM', aS', n1', lev', v', d', c', o', su', tw', i1, i2, i3, i4, i5, i6, i7, i8, i9, i10, i11⟩ := hI
      have hDs : DEED g s.2 D δ := hD.fa i7 (by omega) (fun j hj => by unfold rg; omega)
      obtain ⟨fM', fS', hTs, -⟩ := id i1
      refine ⟨s.2, aM', aS', n1', lev', ?_, i1, i2, i3, i4, ⟨_, _, _, _, _, _, i5⟩, i7, i8, i9, i10, i11⟩
      simp [jX7_gather, bX7_gather_0, bX7_gather_1, i_aload, i_getf, i_icge, i_iinc, i_iload, i_istore, i_jmp, i_push, i_putf, i_return, msk, lset1, lset2, clr, Value.category, Option.toList, List.cons_append, List.nil_append, List.length_cons, List.length_nil, e1, gf_eq hTs, gf_eq hDs.1])
  -- the beginning
  obtain ⟨w1, hw1⟩ : ∃ z, mset w tb (.inr (7, [.ref aM, .ref aS, .int (nI sz), .ref (tb + 3), .ref (tb + 4), .ref D, .ref (tb + 5), .int (nI ob), .ref (tb + 10), .ref (tb + 11), .ref (tb + 12), .ref aG])) = z := ⟨_, rfl⟩
  have hT1 : TB w1 tb aM aS aG D sz ob := hw1 ▸ ms_at _ _ _
  have F1 : Fr (fun a => a = tb) w w1 := hw1 ▸ Fr.ms w _ rfl
  obtain ⟨w2, hw2⟩ : ∃ z, mset w1 tb (.inr (7, [.ref aM, .ref aS, .int 0, .ref (tb + 3), .ref (tb + 4), .ref D, .ref (tb + 5), .int (nI ob), .ref (tb + 10), .ref (tb + 11), .ref (tb + 12), .ref aG])) = z := ⟨_, rfl⟩
  have hT2 : TB w2 tb aM aS aG D 0 ob := hw2 ▸ ms_at _ _ _
  have F2 : Fr (fun a => a = tb) w1 w2 := hw2 ▸ Fr.ms w1 _ rfl
  obtain ⟨w3, hw3⟩ : ∃ z, mset w2 tb (.inr (7, [.ref aM, .ref aS, .int (nI 0), .ref (tb + 3), .ref (tb + 4), .ref D, .ref (tb + 5), .int 0, .ref (tb + 10), .ref (tb + 11), .ref (tb + 12), .ref aG])) = z := ⟨_, rfl⟩
  have hT3 : TB w3 tb aM aS aG D 0 0 := hw3 ▸ ms_at _ _ _
  have F3 : Fr (fun a => a = tb) w w3 := (F1.tr F2).tr (hw3 ▸ Fr.ms w2 _ rfl)
  obtain ⟨w4, q1, q2, q3⟩ := fill_sp hg1 (h3.fr F3 (by omega)) (by decide) 0
  have hT4 : TB w4 tb aM aS aG D 0 0 := q3.at hT3 (by omega)
  obtain ⟨w5, p1, p2, p3⟩ := fill_sp hg1 ((h11.fr F3 (by omega)).fr q3 (by omega)) (by decide) (-1)
  have hT5 : TB w5 tb aM aS aG D 0 0 := p3.at hT4 (by omega)
  obtain ⟨w6, r1, r2, r3⟩ := fill_sp hg1 (((h12.fr F3 (by omega)).fr q3 (by omega)).fr p3 (by omega)) (by decide) (-1)
  have hT6 : TB w6 tb aM aS aG D 0 0 := r3.at hT5 (by omega)
  have F6 : Fr (fun a => a = tb ∨ a = tb + 3 ∨ a = tb + 11 ∨ a = tb + 12) w w6 := (((F3.mn fun a h => by omega).tr (q3.mn fun a h => by omega)).tr (p3.mn fun a h => by omega)).tr (r3.mn fun a h => by omega)
  have hD6 := hD.fr F6 (fun i hi => by omega)
  have hR6 := hR.fr F6 (fun i hi => by omega)
  obtain ⟨w7, v7, d7, s1, s2, s3, s4⟩ := showFirst_sp hg1 hD6 hR6 (Or.inl (by omega)) hd
  have F7 : Fr (fun a => a = tb ∨ a = tb + 3 ∨ rg (tb + 5) (tb + 10) a ∨ a = tb + 11 ∨ a = tb + 12 ∨ a = aM ∨ a = aS) w w7 := (F6.mn fun a h => by unfold rg; omega).tr (s4.mn fun a h => by unfold rg at h ⊢; omega)
  have F67 : Fr (rg (tb + 5) (tb + 10)) w6 w7 := s4.mn fun a h => by unfold rg at h ⊢; omega
  obtain ⟨N, hN⟩ : ∃ N, g.1 = N + 1 := ⟨g.1 - 1, by omega⟩
  have L := LP (δ.1 6) 0 ([some (.ref tb), none, some (.int (nI 0))], w7) (by omega) ⟨rfl, aM, aS, n1, lev, v7, d7, _, _, _, _, ⟨fM, fS, F67.at hT6 (by unfold rg; omega), (hM.fr F6 (by have := hA.no.1; omega)).fr F67 hA.no.2.1, (hSh.fr F6 (by have := hA.no.1; omega)).fr F67 hA.no.2.2.1, by unfold TA; rw [F7.2]; exact hA, hC, Nat.zero_le _, fun i hi => absurd hi (Nat.not_lt_zero _), ((q2.fr p3 (by omega)).fr r3 (by omega)).fr F67 (by unfold rg; omega)⟩, Nat.le_refl _, (p2.fr r3 (by omega)).fr F67 (by unfold rg; omega), r2.fr F67 (by unfold rg; omega), s2, RS.cg (w' := w7) s3 (fun b _ => (dg_0 δ b).symm), F7.fa, by simp only [F7.2]; omega, by simp only [F7.2]; omega, Or.inl rfl, Or.inl rfl⟩ N (by omega)
  simp only [nI_0] at L hw3
  have e : fX7_gather g [.ref tb, .ref D] w = jX7_gather g N 1 [] [some (.ref tb), none, some (.int 0)] w7 := by
    have hT2 : OB w2 tb 7 [.ref aM, .ref aS, .int 0, .ref (tb + 3), .ref (tb + 4), .ref D, .ref (tb + 5), .int (nI ob), .ref (tb + 10), .ref (tb + 11), .ref (tb + 12), .ref aG] := hT2
    simp [fX7_gather, kX7_gather, ent, entp, jX7_gather, bX7_gather_0, bX7_gather_1, i_aload, i_getf, i_icge, i_iinc, i_iload, i_istore, i_jmp, i_push, i_putf, i_return, msk, lset1, lset2, clr, Value.category, Option.toList, List.cons_append, List.nil_append, List.length_cons, List.length_nil, hN, sf_o hT, hw1, sf_i hT1, hw2, sf_i hT2, hw3, gf_eq hT3, csk_2 q1, gf_eq hT4, csk_2 p1, gf_eq hT5, csk_2 r1, gf_eq hT6, cvk_1 hR6.1 s1]
  rw [e]
  exact L
