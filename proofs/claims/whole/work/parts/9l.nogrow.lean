/-! ===== gathering that needs no more room ===== -/
theorem keepRow_s2 {g : GE} (hg : FU g) {w : Mem} {tb E aM aS aG D sz ob n1 lev : Nat} {δ : DE} {fM fS : Nat → Int64} {v d c o : Nat → Int32} {su tw : Int32} {mk sh : Int64} (hT : TB w tb aM aS aG D sz ob) (hM : LA w aM n1 fM) (hS : LA w aS n1 fS) (hA : TA w tb E aM aS aG) (hC : CAP n1 lev) (hD : DEED g w D δ) (hR : ROW w (tb + 5) v d c o su tw)
    (hDt : D + 35 ≤ tb) (hsz : sz ≤ n1) (hs2 : sz < 20000) (hmk : ∀ w', ROW w' (tb + 5) v d c o su tw → fX4_marks g [.ref (tb + 5), .int (nI (δ.1 3))] w' = some (.inl (some (.long mk)), w')) (hsh : ∀ w', ROW w' (tb + 5) v d c o su tw → fX4_shares g [.ref (tb + 5)] w' = some (.inl (some (.long sh)), w')) :
    ∃ w' aM' aS' n1' lev' fM' fS', fX7_keepRow g [.ref tb] w = some (.inl none, w') ∧ TB w' tb aM' aS' aG D (sz + 1) ob ∧ LA w' aM' n1' fM' ∧ LA w' aS' n1' fS' ∧ TA w' tb E aM' aS' aG ∧ CAP n1' lev' ∧ lev ≤ lev' ∧ sz + 1 ≤ n1' ∧ (∀ i, i < sz → fM' i = fM i ∧ fS' i = fS i) ∧ fM' sz = mk ∧ fS' sz = sh
      ∧ FA (fun a => a = tb ∨ a = aM ∨ a = aS) w w' ∧ w'.2.1 = w.2.1 + 2 * (lev' - lev) ∧ w'.2.2 ≤ w.2.2 + 40000 * (lev' - lev) ∧ (aM' = aM ∨ w.2.1 ≤ aM') ∧ (aS' = aS ∨ w.2.1 ≤ aS') ∧ (sz < n1 → lev' = lev ∧ n1' = n1) := by
  obtain ⟨N, hN⟩ : ∃ N, g.1 = N + 3 := ⟨g.1 - 3, by omega⟩
  have hcl := hC.le
  obtain ⟨a2, a3, a4, a5⟩ := hA.mM
  obtain ⟨t1, t2, t3, t4, t5, t6, t7, t8, t9, t10, t11⟩ := id hA
  obtain ⟨f9, hM9, -⟩ := id hM
  by_cases z : sz < n1
  · obtain ⟨w', q1, q2, q3, q4, q5⟩ := keep1_sp (N := N) hg (L1 := none) hT hM hS hD hR t4 a2 a3 a4 z (by omega) (hmk w hR) hsh
    refine ⟨w', aM, aS, n1, lev, _, _, ?_, q2, q3, q4, ?_, hC, Nat.le_refl _, by omega, fun i hi => ⟨va_up_ne _ _ (by omega), va_up_ne _ _ (by omega)⟩, va_up_self _ _ _, va_up_self _ _ _, q5.fa, by rw [q5.2]; omega, by rw [q5.2]; omega, Or.inl rfl, Or.inl rfl, fun _ => ⟨rfl, rfl⟩⟩
    · rw [← q1]
      have el : nI sz < Int32.ofNat n1 := nI_lt z (by omega)
      simp [fX7_keepRow, kX7_keepRow, ent, entp, jX7_keepRow, bX7_keepRow_0, bX7_keepRow_1, bX7_keepRow_2, i_alen, i_aload, i_dup, i_getf, i_iadd, i_icge, i_iclt, i_iload, i_imul, i_istore, i_jmp, i_lastore, i_min, i_push, i_putf, i_return, msk, lset1, lset2, clr, Value.category, Option.toList, List.cons_append, List.nil_append, List.length_cons, List.length_nil, hN, gf_eq hT, hM9, el]
    · unfold TA
      rw [q5.2]
      exact hA
  · have e0 : sz = n1 := by omega
    obtain ⟨m, hm⟩ : ∃ m, (if 20000 < n1 * 2 then 20000 else n1 * 2) = m := ⟨_, rfl⟩
    have hC2 := hC.nx (by omega)
    rw [hm] at hC2
    have lm : n1 < m ∧ m ≤ 20000 := by
      rw [← hm]
      split <;> omega
    obtain ⟨w1, p1, p2, p3, p4⟩ := copyOf_sp (g := g) (m := m) hM lm.1 lm.2 (by omega)
    have e1 : w1.2.1 = w.2.1 + 1 := by rw [p4]
    have e2 : w1.2.2 = w.2.2 + m := by rw [p4]
    have hT1 : TB w1 tb aM aS aG D sz ob := (p3 tb (by omega)).trans hT
    obtain ⟨w2, hw2⟩ : ∃ z, mset w1 tb (.inr (7, [.ref w.2.1, .ref aS, .int (nI sz), .ref (tb + 3), .ref (tb + 4), .ref D, .ref (tb + 5), .int (nI ob), .ref (tb + 10), .ref (tb + 11), .ref (tb + 12), .ref aG])) = z := ⟨_, rfl⟩
    have F2 : Fr (fun a => a = tb) w1 w2 := hw2 ▸ Fr.ms w1 _ rfl
    have hT2 : TB w2 tb w.2.1 aS aG D sz ob := hw2 ▸ ms_at _ _ _
    have hS2 : LA w2 aS n1 fS := by
      obtain ⟨f, h1, h2⟩ := hS
      exact ⟨f, F2.at ((p3 aS (by omega)).trans h1) a3, h2⟩
    have e3 : w2.2 = w1.2 := F2.2
    obtain ⟨w3, r1, r2, r3, r4⟩ := copyOf_sp (g := g) (m := m) hS2 lm.1 lm.2 (by rw [e3]; omega)
    rw [e3, e1] at r1 r2 r3 r4
    have hT3 : TB w3 tb w.2.1 aS aG D sz ob := (r3 tb (by omega)).trans hT2
    obtain ⟨w4, hw4⟩ : ∃ z, mset w3 tb (.inr (7, [.ref w.2.1, .ref (w.2.1 + 1), .int (nI sz), .ref (tb + 3), .ref (tb + 4), .ref D, .ref (tb + 5), .int (nI ob), .ref (tb + 10), .ref (tb + 11), .ref (tb + 12), .ref aG])) = z := ⟨_, rfl⟩
    have F4 : Fr (fun a => a = tb) w3 w4 := hw4 ▸ Fr.ms w3 _ rfl
    have hT4 : TB w4 tb w.2.1 (w.2.1 + 1) aG D sz ob := hw4 ▸ ms_at _ _ _
    have hM4 : LA w4 w.2.1 m (fun i => if i < n1 then fM i else 0) := by
      obtain ⟨f, h1, h2⟩ := p2
      exact ⟨f, F4.at ((r3 _ (by omega)).trans (F2.at h1 (by omega))) (by omega), h2⟩
    have hS4 : LA w4 (w.2.1 + 1) m (fun i => if i < n1 then fS i else 0) := r2.fr F4 (by omega)
    have hk : ∀ a, a < w.2.1 → a ≠ tb → w4.1 a = w.1 a := fun a ha hne => (F4.1 a hne).trans ((r3 a (by omega)).trans ((F2.1 a hne).trans (p3 a (by omega))))
    have e4 : w4.2 = (w.2.1 + 2, w.2.2 + m + m) := by
      rw [F4.2, r4, e2]
    have hF4 : FA (fun a => a = tb) w w4 := ⟨fun a ha n => hk a ha n, by rw [e4]; omega, by rw [e4]; omega⟩
    have hD4 : DEED g w4 D δ := hD.fa hF4 (by omega) (fun i hi => by omega)
    have hR4 : ROW w4 (tb + 5) v d c o su tw := hR.fa hF4 (by omega) (fun i hi => by omega)
    obtain ⟨w', q1, q2, q3, q4, q5⟩ := keep1_sp (N := N) hg (L1 := none) hT4 hM4 hS4 hD4 hR4 (by omega) (by omega) (by omega) (fun i hi => by omega) (by omega) lm.2 (hmk w4 hR4) hsh
    have e5 : w'.2 = (w.2.1 + 2, w.2.2 + m + m) := by rw [q5.2, e4]
    refine ⟨w', w.2.1, w.2.1 + 1, m, lev + 1, _, _, ?_, q2, q3, q4, ?_, hC2, by omega, by omega, fun i hi => ⟨?_, ?_⟩, va_up_self _ _ _, va_up_self _ _ _, ⟨fun a ha n => (q5.1 a (by omega)).trans (hk a ha (by omega)), by rw [e5]; omega, by rw [e5]; omega⟩, by rw [e5]; omega, by rw [e5]; omega, Or.inr (Nat.le_refl _), Or.inr (by omega), fun h => absurd h z⟩
    · rw [← q1]
      have el : ¬ nI sz < Int32.ofNat n1 := nI_nlt (by omega) (by omega)
      have em : (if (20000 : Int32) < Int32.ofNat n1 * 2 then (20000 : Int32) else Int32.ofNat n1 * 2) = nI m := by
        have h1 : Int32.ofNat n1 * 2 = nI (n1 * 2) := pk_mul n1 2
        rw [h1, ← hm]
        have h2 : (20000 : Int32) = nI 20000 := rfl
        rw [h2]
        by_cases y : 20000 < n1 * 2
        · rw [if_pos y, if_pos (nI_lt y (by omega))]
        · rw [if_neg y, if_neg (nI_nlt (by omega) (by omega))]
      simp [fX7_keepRow, kX7_keepRow, ent, entp, jX7_keepRow, bX7_keepRow_0, bX7_keepRow_1, bX7_keepRow_2, i_alen, i_aload, i_dup, i_getf, i_iadd, i_icge, i_iclt, i_iload, i_imul, i_istore, i_jmp, i_lastore, i_min, i_push, i_putf, i_return, msk, lset1, lset2, clr, Value.category, Option.toList, List.cons_append, List.nil_append, List.length_cons, List.length_nil, hN, gf_eq hT, hM9, el, em, csk_2 p1, sf_a hT1, hw2, gf_eq hT2, csk_2 r1, sf_a hT3, hw4]
    · unfold TA
      rw [e5]
      refine ⟨by omega, by omega, by omega, by omega, by omega, by omega, by simp only; omega, by simp only; omega, by simp only; omega, by omega, by simp only; omega⟩
    · rw [va_up_ne _ _ (by omega)]
      simp [show i < n1 by omega]
    · rw [va_up_ne _ _ (by omega)]
      simp [show i < n1 by omega]
theorem note_s2 {g : GE} (hg : GD g) {w : Mem} {tb E D n aM aS aG n1 lev : Nat} {δ : DE} {v d : Nat → Int32} (hd : WF δ) (hG : GT g w tb E D δ n aM aS aG n1 lev) (hn : n < 20000) (hD : DEED g w D δ) (hDt : D + 35 ≤ tb) (hR : RK δ (-1) (vr δ n) w (tb + 5) v d) (hS : RS δ (dg δ n) w (tb + 5) v d) :
    ∃ w' aM' aS' n1' lev', fX7_note g [.ref tb, .int (nI (br δ n))] w = some (.inl none, w') ∧ GT g w' tb E D δ (n + 1) aM' aS' aG n1' lev' ∧ lev ≤ lev'
      ∧ FA (fun a => a = tb ∨ a = tb + 3 ∨ a = aM ∨ a = aS) w w' ∧ w'.2.1 = w.2.1 + 2 * (lev' - lev) ∧ w'.2.2 ≤ w.2.2 + 40000 * (lev' - lev) ∧ (aM' = aM ∨ w.2.1 ≤ aM') ∧ (aS' = aS ∨ w.2.1 ≤ aS') ∧ ((rl δ n).length < n1 → lev' = lev ∧ n1' = n1) := by
  have hg1 := hg.1
  obtain ⟨b1, b2, b3, b4, b5, b6, b7, b8⟩ := hd.1
  obtain ⟨fM, fS, hT, hM, hSh, hA, hC, hl, hfm, hrs⟩ := hG
  have hv := vr_VD hd n
  have hb7 : br δ n ≤ 7 := br_le δ (-1) (δ.1 4) (vr δ n)
  have hsl := sK_le (s := -1) hd hv (δ.1 2) (Nat.le_refl _)
  have hll := rl_le δ n
  obtain ⟨t1, t2, t3, t4, t5, t6, t7, t8, t9, t10, t11⟩ := id hA
  -- the second half: the rows by their sums
  have half2 : ∀ (w1 : Mem) (sz ob aM' aS' N : Nat), TB w1 tb aM' aS' aG D sz ob → ROW w1 (tb + 5) v d (fun h => nI (cK δ (-1) (vr δ n) (δ.1 2) h)) (fun t => nI (ownK δ (-1) (vr δ n) (δ.1 2) t) - 1) (nI (sK δ (-1) (vr δ n) (δ.1 2))) (nI (twK δ (-1) (vr δ n) (δ.1 2))) → IA w1 (tb + 3) 1000 (fun x => nI (rsK δ x n)) →
      ∃ w2, jX7_note g (N + 2) 1 [] [some (.ref tb), some (.int (nI (br δ n)))] w1 = some (.inl none, w2) ∧ IA w2 (tb + 3) 1000 (fun x => nI (rsK δ x (n + 1))) ∧ Fr (fun a => a = tb + 3) w1 w2 := by
    intro w1 sz ob aM' aS' N k1 k2 k3
    have e6 : ∀ x, x ≤ 7 → ((nI x &&& 6 = 0) ↔ x < 2) := by decide +kernel
    by_cases z : br δ n < 2
    · have ez := (e6 _ hb7).mpr z
      have lk : sK δ (-1) (vr δ n) (δ.1 2) < 1000 := by omega
      refine ⟨wi w1 0 (tb + 3) (sK δ (-1) (vr δ n) (δ.1 2)) (nI (rsK δ (sK δ (-1) (vr δ n) (δ.1 2)) n + 1)), ?_, (k3.up _ _).cg fun i hi => ?_, Fr.wi _ _ _ _ rfl⟩
      · have el : ¬ (1000 : Int32) ≤ nI (sK δ (-1) (vr δ n) (δ.1 2)) := nI_ge (b := 1000) lk (by decide)
        simp [jX7_note, bX7_note_0, bX7_note_1, bX7_note_2, i_aload, i_dup, i_dup2, i_getf, i_iadd, i_iaload, i_iand, i_iastore, i_icge, i_icne, i_ifne, i_iload, i_ior, i_jmp, i_push, i_putf, i_return, msk, lset1, lset2, clr, Value.category, Option.toList, List.cons_append, List.nil_append, List.length_cons, List.length_nil, ez, gf_eq k1, gf_eq k2.1, el, k3.rd lk (by decide), nI_1, k3.wr lk (by decide)]
      · unfold va_up
        simp only [rsK]
        by_cases y : i = sK δ (-1) (vr δ n) (δ.1 2)
        · subst y; simp [z]
        · have : ¬ sK δ (-1) (vr δ n) (δ.1 2) = i := fun q => y q.symm
          simp [y, this]
    · have ez : ¬ (nI (br δ n) &&& 6 = 0) := fun q => z ((e6 _ hb7).mp q)
      refine ⟨w1, ?_, k3.cg fun i hi => by simp only [rsK]; simp [z], Fr.rf _ _⟩
      simp [jX7_note, bX7_note_0, bX7_note_1, bX7_note_2, i_aload, i_dup, i_dup2, i_getf, i_iadd, i_iaload, i_iand, i_iastore, i_icge, i_icne, i_ifne, i_iload, i_ior, i_jmp, i_push, i_putf, i_return, msk, lset1, lset2, clr, Value.category, Option.toList, List.cons_append, List.nil_append, List.length_cons, List.length_nil, ez]
  obtain ⟨N, hN⟩ : ∃ N, g.1 = N + 3 := ⟨g.1 - 3, by omega⟩
  by_cases z0 : br δ n = 0
  · have hlc : ∀ b, b < 4 → (nI (cK δ (-1) (vr δ n) (δ.1 2) b) = nI (cK δ (-1) (vr δ n) (δ.1 2) b) ∧ cK δ (-1) (vr δ n) (δ.1 2) b < 1024) := fun b hb => ⟨rfl, by have := cK_sK (δ := δ) (s := -1) (v := vr δ n) (δ.1 2) b; omega⟩
    have hlo : ∀ b, b < 5 → (nI (ownK δ (-1) (vr δ n) (δ.1 2) b) - 1 = nI (ownK δ (-1) (vr δ n) (δ.1 2) b) - 1 ∧ ownK δ (-1) (vr δ n) (δ.1 2) b < 8) := fun b hb => ⟨rfl, by have := ownK_le (s := -1) hd hv (δ.1 2) (Nat.le_refl _) b; omega⟩
    obtain ⟨w1, aM', aS', n1', lev', fM', fS', q1, q2, q3, q4, q5, q6, q7, q8, q9, q10, q11, q12, q13, q14, q15, q16, q17⟩ := keepRow_s2 hg1 (mk := lN (mkN (δ.1 3) (dg δ n))) (sh := lN (shN (cK δ (-1) (vr δ n) (δ.1 2)) (ownK δ (-1) (vr δ n) (δ.1 2)))) hT hM hSh hA hC hD hR hDt hl (by omega)
      (fun w' hw' => marks_sp hg1 hw' b4 (fun b hb => by have := dg_lt hd n hb; have := (hd.2.2.2.1 b hb).2.1; omega) hS.2) (fun w' hw' => shares_sp hg1 hw' hlc hlo)
    have hR1 := hR.fa q12 (by omega) (fun i hi => by omega)
    have hrs1 := hrs.fa q12 (by omega) (by omega)
    obtain ⟨w2, p1, p2, p3⟩ := half2 w1 _ _ _ _ N q2 hR1 hrs1
    have erl : rl δ (n + 1) = rl δ n ++ [n] := by show (if br δ n = 0 then _ else _) = _; rw [if_pos z0]
    have eob : obK δ (n + 1) = obK δ n := by
      show (if pc8 (br δ n) = 1 then _ else _) = _
      rw [if_neg (by rw [z0]; decide)]
    have el : (rl δ (n + 1)).length = (rl δ n).length + 1 := by rw [erl]; simp
    have hA1 := q5
    obtain ⟨u1, u2, u3, u4, u5, u6, u7, u8, u9, u10, u11⟩ := q5
    have hA2 : TA w2 tb E aM' aS' aG := by
      unfold TA
      rw [p3.2]
      exact hA1
    refine ⟨w2, aM', aS', n1', lev', ?_, ⟨fM', fS', ?_, q3.fr p3 (by omega), q4.fr p3 (by omega), hA2, q6, by omega, fun i hi => ?_, p2⟩, q7, FA.tr (S := fun a => a = tb ∨ a = tb + 3 ∨ a = aM ∨ a = aS) (q12.tr' fun a h => by omega) p3.fa fun a ha h => Or.inr (Or.inl h), by rw [p3.2]; exact q13, by rw [p3.2]; exact q14, q15, q16, q17⟩
    · rw [← p1]
      have e0 : nI (br δ n) = 0 := by rw [z0]; exact nI_0
      simp [fX7_note, kX7_note, ent, entp, jX7_note, bX7_note_0, bX7_note_1, bX7_note_2, i_aload, i_dup, i_dup2, i_getf, i_iadd, i_iaload, i_iand, i_iastore, i_icge, i_icne, i_ifne, i_iload, i_ior, i_jmp, i_push, i_putf, i_return, msk, lset1, lset2, clr, Value.category, Option.toList, List.cons_append, List.nil_append, List.length_cons, List.length_nil, hN, e0, cvk_0 hT q1]
    · rw [el, eob]
      exact p3.at q2 (by omega)
    · rw [erl]
      by_cases y : i < (rl δ n).length
      · rw [(q9 i y).1, (q9 i y).2]
        have := hfm i y
        simpa [List.getD, List.getElem?_append, y] using this
      · have ei : i = (rl δ n).length := by omega
        subst ei
        rw [q10, q11]
        simp [List.getD]
  · have erl : rl δ (n + 1) = rl δ n := by show (if br δ n = 0 then _ else _) = _; rw [if_neg z0]
    have en : ¬ (nI (br δ n) = 0) := by rw [← nI_0, nI_eq (by omega) (by decide)]; exact z0
    have hbc := bitCount_sp (g := g) (w := w) (k := br δ n) (by omega)
    have hpc : pc8 (br δ n) < 9 := by unfold pc8; omega
    by_cases z1 : pc8 (br δ n) = 1
    · have eob : obK δ (n + 1) = obK δ n ||| br δ n := by
        show (if pc8 (br δ n) = 1 then _ else _) = _
        rw [if_pos z1]
      rw [z1] at hbc
      obtain ⟨w1, hw1⟩ : ∃ z, mset w tb (.inr (7, [.ref aM, .ref aS, .int (nI (rl δ n).length), .ref (tb + 3), .ref (tb + 4), .ref D, .ref (tb + 5), .int (nI (obK δ n ||| br δ n)), .ref (tb + 10), .ref (tb + 11), .ref (tb + 12), .ref aG])) = z := ⟨_, rfl⟩
      have F1 : Fr (fun a => a = tb) w w1 := hw1 ▸ Fr.ms w _ rfl
      have hT1 : TB w1 tb aM aS aG D (rl δ n).length (obK δ n ||| br δ n) := hw1 ▸ ms_at _ _ _
      obtain ⟨w2, p1, p2, p3⟩ := half2 w1 _ _ _ _ N hT1 (hR.fr F1 (fun i hi => by omega)) (hrs.fr F1 (by omega))
      have F2 : Fr (fun a => a = tb ∨ a = tb + 3) w w2 := (F1.mn fun a h => Or.inl h).tr (p3.mn fun a h => Or.inr h)
      refine ⟨w2, aM, aS, n1, lev, ?_, ⟨fM, fS, ?_, hM.fr F2 (by omega), hSh.fr F2 (by omega), ?_, hC, by rw [erl]; exact hl, by rw [erl]; exact hfm, p2⟩, Nat.le_refl _, F2.fa.tr' (fun a h => by omega), by rw [F2.2]; omega, by rw [F2.2]; omega, Or.inl rfl, Or.inl rfl, fun _ => ⟨rfl, rfl⟩⟩
      · rw [← p1]
        have eo := or8 _ (obK_le δ n) (br δ n) (by omega)
        simp [fX7_note, kX7_note, ent, entp, jX7_note, bX7_note_0, bX7_note_1, bX7_note_2, i_aload, i_dup, i_dup2, i_getf, i_iadd, i_iaload, i_iand, i_iastore, i_icge, i_icne, i_ifne, i_iload, i_ior, i_jmp, i_push, i_putf, i_return, msk, lset1, lset2, clr, Value.category, Option.toList, List.cons_append, List.nil_append, List.length_cons, List.length_nil, hN, en, csk_1 hbc, (show nI 1 = 1 from rfl), gf_eq hT, eo, sf_i hT, hw1]
      · rw [erl, eob]
        exact p3.at hT1 (by omega)
      · unfold TA
        rw [F2.2]
        exact hA
    · have eob : obK δ (n + 1) = obK δ n := by
        show (if pc8 (br δ n) = 1 then _ else _) = _
        rw [if_neg z1]
      have en1 : ¬ (nI (pc8 (br δ n)) = 1) := by
        have : (1 : Int32) = nI 1 := rfl
        rw [this, nI_eq (by omega) (by decide)]; exact z1
      obtain ⟨w2, p1, p2, p3⟩ := half2 w _ _ _ _ N hT hR hrs
      refine ⟨w2, aM, aS, n1, lev, ?_, ⟨fM, fS, ?_, hM.fr p3 (by omega), hSh.fr p3 (by omega), ?_, hC, by rw [erl]; exact hl, by rw [erl]; exact hfm, p2⟩, Nat.le_refl _, p3.fa.tr' (fun a h => by omega), by rw [p3.2]; omega, by rw [p3.2]; omega, Or.inl rfl, Or.inl rfl, fun _ => ⟨rfl, rfl⟩⟩
      · rw [← p1]
        simp [fX7_note, kX7_note, ent, entp, jX7_note, bX7_note_0, bX7_note_1, bX7_note_2, i_aload, i_dup, i_dup2, i_getf, i_iadd, i_iaload, i_iand, i_iastore, i_icge, i_icne, i_ifne, i_iload, i_ior, i_jmp, i_push, i_putf, i_return, msk, lset1, lset2, clr, Value.category, Option.toList, List.cons_append, List.nil_append, List.length_cons, List.length_nil, hN, en, csk_1 hbc, en1]
      · rw [erl, eob]
        exact p3.at hT (by omega)
      · unfold TA
        rw [p3.2]
        exact hA
theorem gather_s2 {g : GE} (hg : GD g) {w : Mem} {tb E D D0 sz ob aM aS aG n1 lev : Nat} {δ : DE} {fM fS : Nat → Int64} {c3 c11 c12 v d c o : Nat → Int32} {su tw : Int32} (hd : WF δ) (hT : TB w tb aM aS aG D0 sz ob) (hM : LA w aM n1 fM) (hSh : LA w aS n1 fS) (hA : TA w tb E aM aS aG) (hC : CAP n1 lev) (h3 : IA w (tb + 3) 1000 c3) (h11 : IA w (tb + 11) 9 c11) (h12 : IA w (tb + 12) 5 c12)
    (hR : ROW w (tb + 5) v d c o su tw) (hD : DEED g w D δ) (hDt : D + 35 ≤ tb) :
    ∃ w' aM' aS' n1' lev', fX7_gather g [.ref tb, .ref D] w = some (.inl none, w') ∧ GT g w' tb E D δ (δ.1 6) aM' aS' aG n1' lev' ∧ lev ≤ lev' ∧ IA w' (tb + 11) 9 (fun _ => -1) ∧ IA w' (tb + 12) 5 (fun _ => -1) ∧ (∃ v' d' c' o' su' tw', ROW w' (tb + 5) v' d' c' o' su' tw')
      ∧ FA (fun a => a = tb ∨ a = tb + 3 ∨ rg (tb + 5) (tb + 10) a ∨ a = tb + 11 ∨ a = tb + 12 ∨ a = aM ∨ a = aS) w w' ∧ w'.2.1 = w.2.1 + 2 * (lev' - lev) ∧ w'.2.2 ≤ w.2.2 + 40000 * (lev' - lev) ∧ (aM' = aM ∨ w.2.1 ≤ aM') ∧ (aS' = aS ∨ w.2.1 ≤ aS') ∧ (δ.1 6 ≤ n1 → lev' = lev ∧ n1' = n1) := by
  have hg1 := hg.1
  obtain ⟨b1, b2, b3, b4, b5, b6, b7, b8⟩ := id hd.1
  have t1 := hA.m0
  have t2 := hA.s0
  have t11 := hA.w0
  have LP := lpR (fun f (s : Lv × Mem) => jX7_gather g f 1 [] s.1 s.2) (fun i s => s.1 = [some (.ref tb), none, some (.int (nI i))] ∧ ∃ aM' aS' n1' lev' v' d' c' o' su' tw', GT g s.2 tb E D δ i aM' aS' aG n1' lev' ∧ lev ≤ lev' ∧ IA s.2 (tb + 11) 9 (fun _ => -1) ∧ IA s.2 (tb + 12) 5 (fun _ => -1) ∧ ROW s.2 (tb + 5) v' d' c' o' su' tw' ∧ RS δ (dg δ i) s.2 (tb + 5) v' d'
      ∧ FA (fun a => a = tb ∨ a = tb + 3 ∨ rg (tb + 5) (tb + 10) a ∨ a = tb + 11 ∨ a = tb + 12 ∨ a = aM ∨ a = aS) w s.2 ∧ s.2.2.1 = w.2.1 + 2 * (lev' - lev) ∧ s.2.2.2 ≤ w.2.2 + 40000 * (lev' - lev) ∧ (aM' = aM ∨ w.2.1 ≤ aM') ∧ (aS' = aS ∨ w.2.1 ≤ aS') ∧ (i ≤ n1 → lev' = lev ∧ n1' = n1))
    (fun z => ∃ w' aM' aS' n1' lev', z = some (.inl none, w') ∧ GT g w' tb E D δ (δ.1 6) aM' aS' aG n1' lev' ∧ lev ≤ lev' ∧ IA w' (tb + 11) 9 (fun _ => -1) ∧ IA w' (tb + 12) 5 (fun _ => -1) ∧ (∃ v' d' c' o' su' tw', ROW w' (tb + 5) v' d' c' o' su' tw')
      ∧ FA (fun a => a = tb ∨ a = tb + 3 ∨ rg (tb + 5) (tb + 10) a ∨ a = tb + 11 ∨ a = tb + 12 ∨ a = aM ∨ a = aS) w w' ∧ w'.2.1 = w.2.1 + 2 * (lev' - lev) ∧ w'.2.2 ≤ w.2.2 + 40000 * (lev' - lev) ∧ (aM' = aM ∨ w.2.1 ≤ aM') ∧ (aS' = aS ∨ w.2.1 ≤ aS') ∧ (δ.1 6 ≤ n1 → lev' = lev ∧ n1' = n1)) 1 1 (δ.1 6)
    (fun i s hi hI f => by
      obtain ⟨e1, aM', aS', n1', lev', v', d', c', o', su', tw', i1, i2, i3, i4, i5, i6, i7, i8, i9, i1011a, i1011b, i12⟩ := hI
      have i1011 := And.intro i1011a i1011b
      clear i1011a i1011b
      have hDs : DEED g s.2 D δ := hD.fa i7 (by clear i1011; omega) (fun j hj => by clear i1011; unfold rg; omega)
      obtain ⟨fM', fS', hTs, -, -, hAs, -⟩ := id i1
      have u11 := hAs.w0
      obtain ⟨I10, hI10⟩ : ∃ P : Prop, P = ((aM' = aM ∨ w.2.1 ≤ aM') ∧ (aS' = aS ∨ w.2.1 ≤ aS')) := ⟨_, rfl⟩
      rw [← hI10] at i1011
      obtain ⟨w1, q1, q2, q3⟩ := reckon_sp hg hDs i5 (Or.inl (by omega)) hd (vr_VD hd i) i6.1 (-1)
      have hD1 := hDs.fr q3 (fun j hj => by unfold rg; omega)
      have i1' := i1.fr q3 (by unfold rg; omega) hAs.no.2.1 hAs.no.2.2.1 (by unfold rg; omega)
      have q4 := broken_sp hg1 hD1 q2 hd (vr_VD hd i)
      have hT1 : TB w1 tb aM' aS' aG D (rl δ i).length (obK δ i) := q3.at hTs (by unfold rg; omega)
      obtain ⟨w2, aM2, aS2, n2, lev2, r1, r2, r3, r4, r5, r6, r78a, r78b, r9⟩ := note_s2 hg hd i1' (by omega) hD1 hDt q2 (RS.cg (w' := w1) i6 fun _ _ => rfl)
      have r78 := And.intro r78a r78b
      clear r78a r78b
      have e1' : w1.2 = s.2.2 := q3.2
      have hD2 := hD1.fa r4 (by rw [e1']; omega) (fun j hj => hAs.nD hDt hj)
      have hR2 := q2.fa r4 (by rw [e1']; omega) (fun j hj => by have z := hAs.n4 (k := 5 + j) (by omega); rw [← Nat.add_assoc] at z; exact z)
      obtain ⟨fM2, fS2, hT2, -, -, hA2, -⟩ := id r2
      obtain ⟨w3, v3, d3, p1, p2, p3, p4⟩ := showNext_sp hg1 hD2 hR2 (RS.cg (w' := w2) i6 fun _ _ => rfl) (fun b hb => dg_lt hd i hb) (Or.inl (by omega)) hd
      refine Or.inr ⟨f, ([some (.ref tb), none, some (.int (nI (i + 1)))], w3), Nat.le_refl _, ⟨rfl, aM2, aS2, n2, lev2, v3, d3, _, _, _, _, r2.fr p4 (by unfold rg; omega) hA2.no.2.1 hA2.no.2.2.1 (by unfold rg; omega), by clear r78; omega, ?_, ?_, p2, RS.cg (w' := w3) p3 (nx_row hd i), ?_, ?_, ?_, ?_, ?_, fun h9 => ?_⟩, ?_⟩
      · exact ((i3.fr q3 (by unfold rg; omega)).fa r4 (by rw [e1']; omega) (hAs.n4 (Or.inl rfl))).fr p4 (by unfold rg; omega)
      · exact ((i4.fr q3 (by unfold rg; omega)).fa r4 (by rw [e1']; omega) (hAs.n4 (Or.inr (Or.inl rfl)))).fr p4 (by unfold rg; omega)
      · refine ((i7.tr q3.fa ?_).tr r4 ?_).tr p4.fa ?_
        · exact fun a ha h => Or.inr (Or.inr (Or.inl h))
        · intro a ha h
          rcases h with h | h | h | h
          · exact Or.inl h
          · exact Or.inr (Or.inl h)
          · rcases (hI10 ▸ i1011).1 with z | z
            · exact Or.inr (Or.inr (Or.inr (Or.inr (Or.inr (Or.inl (h.trans z))))))
            · exact absurd ha (by rw [h]; exact Nat.not_lt.mpr z)
          · rcases (hI10 ▸ i1011).2 with z | z
            · exact Or.inr (Or.inr (Or.inr (Or.inr (Or.inr (Or.inr (h.trans z))))))
            · exact absurd ha (by rw [h]; exact Nat.not_lt.mpr z)
        · exact fun a ha h => Or.inr (Or.inr (Or.inl h))
      · simp only [p4.2, r5, e1', i8]
        clear r78
        omega
      · have := r6
        rw [e1'] at this
        simp only [p4.2]
        clear r78
        omega
      · have r7' : aM2 = aM' ∨ s.2.2.1 ≤ aM2 := e1' ▸ r78.1
        have i10 := (hI10 ▸ i1011).1
        clear r78
        omega
      · have r8' : aS2 = aS' ∨ s.2.2.1 ≤ aS2 := e1' ▸ r78.2
        have i11 := (hI10 ▸ i1011).2
        clear r78
        omega
      · obtain ⟨z1, z2⟩ := i12 (by omega)
        have z3 := rl_le δ i
        obtain ⟨z4, z5⟩ := r9 (by clear r78 i1011; omega)
        exact ⟨z4.trans z1, z5.trans z2⟩
      · simp [jX7_gather, bX7_gather_0, bX7_gather_1, i_aload, i_getf, i_icge, i_iinc, i_iload, i_istore, i_jmp, i_push, i_putf, i_return, msk, lset1, lset2, clr, Value.category, Option.toList, List.cons_append, List.nil_append, List.length_cons, List.length_nil, e1, gf_eq hTs, gf_eq hDs.1, nI_ge hi (by omega), cvk_2 i5.1 q1, gf_eq hT1, cvk_1 q2.1 q4, cvk_1 hT1 r1, gf_eq hT2, cvk_1 hR2.1 p1, nI_1])
    (fun s hI f => by
      obtain ⟨e1, aM', aS', n1', lev', v', d', c', o', su', tw', i1, i2, i3, i4, i5, i6, i7, i8, i9, i10, i11, i12⟩ := hI
      have hDs : DEED g s.2 D δ := hD.fa i7 (by omega) (fun j hj => by unfold rg; omega)
      obtain ⟨fM', fS', hTs, -⟩ := id i1
      refine ⟨s.2, aM', aS', n1', lev', ?_, i1, i2, i3, i4, ⟨_, _, _, _, _, _, i5⟩, i7, i8, i9, i10, i11, i12⟩
      simp [jX7_gather, bX7_gather_0, bX7_gather_1, i_aload, i_getf, i_icge, i_iinc, i_iload, i_istore, i_jmp, i_push, i_putf, i_return, msk, lset1, lset2, clr, Value.category, Option.toList, List.cons_append, List.nil_append, List.length_cons, List.length_nil, e1, gf_eq hTs, gf_eq hDs.1])
  -- the beginning
  obtain ⟨w1, hw1⟩ : ∃ z, mset w tb (.inr (7, [.ref aM, .ref aS, .int (nI sz), .ref (tb + 3), .ref (tb + 4), .ref D, .ref (tb + 5), .int (nI ob), .ref (tb + 10), .ref (tb + 11), .ref (tb + 12), .ref aG])) = z := ⟨_, rfl⟩
  have hT1 : TB w1 tb aM aS aG D sz ob := hw1 ▸ ms_at _ _ _
  have F1 : Fr (fun a => a = tb) w w1 := hw1 ▸ Fr.ms w _ rfl
  obtain ⟨w2, hw2⟩ : ∃ z, mset w1 tb (.inr (7, [.ref aM, .ref aS, .int 0, .ref (tb + 3), .ref (tb + 4), .ref D, .ref (tb + 5), .int (nI ob), .ref (tb + 10), .ref (tb + 11), .ref (tb + 12), .ref aG])) = z := ⟨_, rfl⟩
  have hT2 : TB w2 tb aM aS aG D 0 ob := hw2 ▸ ms_at _ _ _
  have F2 : Fr (fun a => a = tb) w1 w2 := hw2 ▸ Fr.ms w1 _ rfl
  obtain ⟨w3, hw3⟩ : ∃ z, mset w2 tb (.inr (7, [.ref aM, .ref aS, .int (nI 0), .ref (tb + 3), .ref (tb + 4), .ref D, .ref (tb + 5), .int 0, .ref (tb + 10), .ref (tb + 11), .ref (tb + 12), .ref aG])) = z := ⟨_, rfl⟩
  have hT3 : TB w3 tb aM aS aG D 0 0 := hw3 ▸ ms_at _ _ _
  have F3 : Fr (fun a => a = tb) w w3 := (F1.tr F2).tr (hw3 ▸ Fr.ms w2 _ rfl)
  obtain ⟨w4, q1, q2, q3⟩ := fill_sp hg1 (h3.fr F3 (by omega)) (by decide) 0
  have hT4 : TB w4 tb aM aS aG D 0 0 := q3.at hT3 (by omega)
  obtain ⟨w5, p1, p2, p3⟩ := fill_sp hg1 ((h11.fr F3 (by omega)).fr q3 (by omega)) (by decide) (-1)
  have hT5 : TB w5 tb aM aS aG D 0 0 := p3.at hT4 (by omega)
  obtain ⟨w6, r1, r2, r3⟩ := fill_sp hg1 (((h12.fr F3 (by omega)).fr q3 (by omega)).fr p3 (by omega)) (by decide) (-1)
  have hT6 : TB w6 tb aM aS aG D 0 0 := r3.at hT5 (by omega)
  have F6 : Fr (fun a => a = tb ∨ a = tb + 3 ∨ a = tb + 11 ∨ a = tb + 12) w w6 := (((F3.mn fun a h => by omega).tr (q3.mn fun a h => by omega)).tr (p3.mn fun a h => by omega)).tr (r3.mn fun a h => by omega)
  have hD6 := hD.fr F6 (fun i hi => by omega)
  have hR6 := hR.fr F6 (fun i hi => by omega)
  obtain ⟨w7, v7, d7, s1, s2, s3, s4⟩ := showFirst_sp hg1 hD6 hR6 (Or.inl (by omega)) hd
  have F7 : Fr (fun a => a = tb ∨ a = tb + 3 ∨ rg (tb + 5) (tb + 10) a ∨ a = tb + 11 ∨ a = tb + 12 ∨ a = aM ∨ a = aS) w w7 := (F6.mn fun a h => by unfold rg; omega).tr (s4.mn fun a h => by unfold rg at h ⊢; omega)
  have F67 : Fr (rg (tb + 5) (tb + 10)) w6 w7 := s4.mn fun a h => by unfold rg at h ⊢; omega
  obtain ⟨N, hN⟩ : ∃ N, g.1 = N + 1 := ⟨g.1 - 1, by omega⟩
  have L := LP (δ.1 6) 0 ([some (.ref tb), none, some (.int (nI 0))], w7) (by omega) ⟨rfl, aM, aS, n1, lev, v7, d7, _, _, _, _, ⟨fM, fS, F67.at hT6 (by unfold rg; omega), (hM.fr F6 (by have := hA.no.1; omega)).fr F67 hA.no.2.1, (hSh.fr F6 (by have := hA.no.1; omega)).fr F67 hA.no.2.2.1, by unfold TA; rw [F7.2]; exact hA, hC, Nat.zero_le _, fun i hi => absurd hi (Nat.not_lt_zero _), ((q2.fr p3 (by omega)).fr r3 (by omega)).fr F67 (by unfold rg; omega)⟩, Nat.le_refl _, (p2.fr r3 (by omega)).fr F67 (by unfold rg; omega), r2.fr F67 (by unfold rg; omega), s2, RS.cg (w' := w7) s3 (fun b _ => (dg_0 δ b).symm), F7.fa, by simp only [F7.2]; omega, by simp only [F7.2]; omega, Or.inl rfl, Or.inl rfl, fun _ => ⟨rfl, rfl⟩⟩ N (by omega)
  simp only [nI_0] at L hw3
  have e : fX7_gather g [.ref tb, .ref D] w = jX7_gather g N 1 [] [some (.ref tb), none, some (.int 0)] w7 := by
    have hT2 : OB w2 tb 7 [.ref aM, .ref aS, .int 0, .ref (tb + 3), .ref (tb + 4), .ref D, .ref (tb + 5), .int (nI ob), .ref (tb + 10), .ref (tb + 11), .ref (tb + 12), .ref aG] := hT2
    simp [fX7_gather, kX7_gather, ent, entp, jX7_gather, bX7_gather_0, bX7_gather_1, i_aload, i_getf, i_icge, i_iinc, i_iload, i_istore, i_jmp, i_push, i_putf, i_return, msk, lset1, lset2, clr, Value.category, Option.toList, List.cons_append, List.nil_append, List.length_cons, List.length_nil, hN, sf_o hT, hw1, sf_i hT1, hw2, sf_i hT2, hw3, gf_eq hT3, csk_2 q1, gf_eq hT4, csk_2 p1, gf_eq hT5, csk_2 r1, gf_eq hT6, cvk_1 hR6.1 s1]
  rw [e]
  exact L
