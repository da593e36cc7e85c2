/-! ===== the class's Row: put, showFirst, show, showNext ===== -/
theorem cpi_sp {w : Mem} {a0 a n0 n1 n : Nat} {c0 c1 : Nat → Int32} (h0 : IA w a0 n0 c0) (h1 : IA w a n1 c1) (k0 : n ≤ n0) (k1 : n ≤ n1) (hn : n < 2 ^ 31) : ∃ w', cpi w a0 a 0 0 (nI n) = some w' ∧ IA w' a n1 (fun i => if i < n then c0 i else c1 i) ∧ Fr (fun q => q = a) w w' := by
  obtain ⟨f0, p0, q0⟩ := h0
  obtain ⟨f1, p1, q1⟩ := h1
  have e0 : (0 : Int32).toNatClampNeg = 0 := by decide
  have e1 : (nI n).toNatClampNeg = n := nI_clamp hn
  have e2 : ¬ (nI n < 0) := nI_pos hn
  have e3 : ¬ ((0 : Int32) < 0) := by decide
  refine ⟨mset w a (.inl (0, n1, .inl (va_cpy f0 f1 0 0 n))), ?_, ⟨_, ms_at _ _ _, fun i hi => ?_⟩, Fr.ms _ _ rfl⟩
  · unfold cpi
    rw [p0, p1]
    simp only [e0, e1, e2, e3, not_false_eq_true, Nat.zero_add, k0, k1, and_self, if_true]
  · by_cases z : i < n
    · rw [pk_cpy_in (by omega) (by omega)]
      simp [z]
      exact q0 i (by omega)
    · rw [pk_cpy_out (by omega)]
      simp [z]
      exact q1 i hi
theorem put_sp {g : GE} (hg : FU g) {w : Mem} {r D b x : Nat} {δ : DE} {v d c o : Nat → Int32} {su tw : Int32} (hD : DEED g w D δ) (hR : ROW w r v d c o su tw) (hdis : D + 35 ≤ r ∨ r + 5 ≤ D) (hd : WF δ) (hb : b < δ.1 3) (hx : x < δ.2 10 b) :
    ∃ w', fX4_put g [.ref r, .ref D, .int (nI b), .int (nI x)] w = some (.inl none, w') ∧ ROW w' r (va_up v (δ.2 12 b) (nI (δ.2 (20 + b) x))) (va_up d b (nI x)) c o su tw ∧ Fr (rg r (r + 5)) w w' := by
  obtain ⟨b1, b2, b3, b4, b5, b6, b7, b8⟩ := hd.1
  have hbl := hd.2.2.2.1 b hb
  obtain ⟨N, hN⟩ : ∃ N, g.1 = N + 2 := ⟨g.1 - 2, by omega⟩
  obtain ⟨h0, h1, h2, h3, h4⟩ := id hR
  have lb : b < 8 := by omega
  have nd : ∀ i, i < 35 → ¬ rg r (r + 5) (D + i) := fun i hi => by unfold rg; omega
  have hR1 := hR.d' b (nI x)
  have hF1 : Fr (rg r (r + 5)) w (wi w 0 (r + 2) b (nI x)) := Fr.wi _ _ _ _ (by unfold rg; omega)
  have hD1 := hD.fr hF1 nd
  obtain ⟨k0, k1, k2, k3, k4⟩ := id hR1
  obtain ⟨d0, -, -, -, -, -, -, -, -, d9, -, dbl, dvl⟩ := id hD
  obtain ⟨c0, -, -, -, -, -, -, -, -, c9, -, cbl, cvl⟩ := id hD1
  have e1 := dbl b lb
  have e2 := cbl b lb
  have e3 := cvl b lb
  have lx := nI_ge hx (by omega)
  refine ⟨_, ?_, hR1.v' (δ.2 12 b) (nI (δ.2 (20 + b) x)), hF1.tr (Fr.wi _ _ _ _ (by unfold rg; omega))⟩
  simp [fX4_put, kX4_put, ent, entp, jX4_put, bX4_put_0, bX4_put_1, i_aaload, i_aload, i_astore, i_getf, i_iaload, i_iastore, i_icge, i_iload, i_jmp, i_return, msk, lset1, lset2, clr, Value.category, Option.toList, List.cons_append, List.nil_append, List.length_cons, List.length_nil, hN, gf_eq d0, d9.rd lb (by decide), va_rf, gf_eq e1, lx, gf_eq h0, h2.wr lb (by decide), gf_eq k0, gf_eq e2, e3.rd (j := x) (by omega) (by decide), k1.wr (j := δ.2 12 b) (by omega) (by decide)]
/-- a row that shows digits -/
def RS (δ : DE) (dd : Nat → Nat) (w : Mem) (r : Nat) (v d : Nat → Int32) : Prop := (∀ p, p < δ.1 5 → v p = nI (va δ dd p)) ∧ (∀ b, b < δ.1 3 → d b = nI (dd b))
theorem showFirst_sp {g : GE} (hg : FU g) {w : Mem} {r D : Nat} {δ : DE} {v d c o : Nat → Int32} {su tw : Int32} (hD : DEED g w D δ) (hR : ROW w r v d c o su tw) (hdis : D + 35 ≤ r ∨ r + 5 ≤ D) (hd : WF δ) :
    ∃ w' v' d', fX4_showFirst g [.ref r, .ref D] w = some (.inl none, w') ∧ ROW w' r v' d' c o su tw ∧ RS δ (fun _ => 0) w' r v' d' ∧ Fr (rg r (r + 5)) w w' := by
  obtain ⟨b1, b2, b3, b4, b5, b6, b7, b8⟩ := hd.1
  obtain ⟨h0, h1, h2, h3, h4⟩ := id hR
  obtain ⟨d0, -, -, -, -, -, -, -, d8, -⟩ := id hD
  obtain ⟨w1, q1, q2, q3⟩ := cpi_sp (n := δ.1 5) d8 h1 (by omega) (by omega) (by omega)
  have hR1 : ROW w1 r (fun i => if i < δ.1 5 then nI (δ.2 7 i) else v i) d c o su tw := ⟨q3.at h0 (by omega), q2, h2.fr q3 (by omega), h3.fr q3 (by omega), h4.fr q3 (by omega)⟩
  obtain ⟨w2, p1, p2, p3⟩ := fill_sp hg hR1.2.2.1 (by decide) 0
  refine ⟨w2, _, _, ?_, ⟨p3.at hR1.1 (by omega), hR1.2.1.fr p3 (by omega), p2, hR1.2.2.2.1.fr p3 (by omega), hR1.2.2.2.2.fr p3 (by omega)⟩, ⟨fun p hp => ?_, fun b hb => nI_0.symm⟩, (q3.mn fun a h => by subst h; unfold rg; omega).tr (p3.mn fun a h => by subst h; unfold rg; omega)⟩
  · simp [fX4_showFirst, kX4_showFirst, ent, entp, bX4_showFirst_0, i_acopy, i_aload, i_getf, i_push, i_return, msk, lset1, lset2, clr, Value.category, Option.toList, List.cons_append, List.nil_append, List.length_cons, List.length_nil, gf_eq h0, gf_eq d0, q1, gf_eq hR1.1, csk_2 p1]
  · simp only [hp, if_true]
    rw [va_0 hd]
theorem RS.put {δ : DE} {dd : Nat → Nat} {w w' : Mem} {r b x : Nat} {v d : Nat → Int32} (hd : WF δ) (hb : b < δ.1 3) (h : RS δ dd w r v d) : RS δ (va_up dd b x) w' r (va_up v (δ.2 12 b) (nI (δ.2 (20 + b) x))) (va_up d b (nI x)) := by
  refine ⟨fun p hp => ?_, fun c hc => ?_⟩
  · rw [va_upd hd hb]
    unfold va_up
    split
    · rfl
    · exact h.1 p hp
  · unfold va_up
    split
    · rfl
    · exact h.2 c hc
theorem showNext_lp {g : GE} (hg : FU g) {w0 : Mem} {r D : Nat} {δ : DE} {c o : Nat → Int32} {su tw : Int32} (hD : DEED g w0 D δ) (hdis : D + 35 ≤ r ∨ r + 5 ≤ D) (hd : WF δ) :
    ∀ (j : Nat) (w : Mem) (v d : Nat → Int32) (dd : Nat → Nat) (f : Nat), j ≤ δ.1 3 → ROW w r v d c o su tw → RS δ dd w r v d → (∀ b, b < δ.1 3 → dd b < δ.2 10 b) → Fr (rg r (r + 5)) w0 w → j + 1 ≤ f →
    ∃ w' v' d', jX4_showNext g f 1 [] [some (.ref r), some (.ref D), some (.int (nI j - 1))] w = some (.inl none, w') ∧ ROW w' r v' d' c o su tw ∧ RS δ (nx δ j dd) w' r v' d' ∧ Fr (rg r (r + 5)) w0 w' := by
  obtain ⟨b1, b2, b3, b4, b5, b6, b7, b8⟩ := hd.1
  have nd : ∀ i, i < 35 → ¬ rg r (r + 5) (D + i) := fun i hi => by unfold rg; omega
  intro j
  induction j with
  | zero =>
    intro w v d dd f hj hR hS hl hF hf
    obtain ⟨f, rfl⟩ : ∃ z, f = z + 1 := ⟨f - 1, by omega⟩
    refine ⟨w, v, d, ?_, hR, hS, hF⟩
    have e : nI 0 - 1 < 0 := by decide
    simp [jX4_showNext, bX4_showNext_0, bX4_showNext_1, i_aaload, i_aload, i_getf, i_iadd, i_iaload, i_icge, i_iflt, i_iinc, i_iload, i_istore, i_isub, i_jmp, i_push, i_return, msk, lset1, lset2, clr, Value.category, Option.toList, List.cons_append, List.nil_append, List.length_cons, List.length_nil, e]
  | succ j ih =>
    intro w v d dd f hj hR hS hl hF hf
    obtain ⟨f, rfl⟩ : ∃ z, f = z + 1 := ⟨f - 1, by omega⟩
    have hDw := hD.fr hF nd
    obtain ⟨d0, -, -, -, -, -, -, -, -, d9, -, dbl, -⟩ := id hDw
    obtain ⟨h0, h1, h2, h3, h4⟩ := id hR
    have e1 := dbl j (by omega)
    have hbl := hd.2.2.2.1 j (by omega)
    have hdj := hS.2 j (by omega)
    have ldj := hl j (by omega)
    have hneg : ¬ nI j < 0 := nI_pos (by omega)
    unfold nx
    by_cases z : dd j + 1 < δ.2 10 j
    · obtain ⟨w', q1, q2, q3⟩ := put_sp hg hDw hR hdis hd (b := j) (x := dd j + 1) (by omega) z
      have z1 := nI_ge z (by omega)
      refine ⟨w', _, _, ?_, q2, by rw [if_pos z]; exact hS.put (x := dd j + 1) hd (by omega), hF.tr q3⟩
      simp [jX4_showNext, bX4_showNext_0, bX4_showNext_1, i_aaload, i_aload, i_getf, i_iadd, i_iaload, i_icge, i_iflt, i_iinc, i_iload, i_istore, i_isub, i_jmp, i_push, i_return, msk, lset1, lset2, clr, Value.category, Option.toList, List.cons_append, List.nil_append, List.length_cons, List.length_nil, nI_pred, hneg, gf_eq h0, h2.rd (j := j) (by omega) (by decide), hdj, nI_1, gf_eq d0, d9.rd (j := j) (by omega) (by decide), va_rf, gf_eq e1, z1, cvk_3 h0 q1]
    · obtain ⟨w', q1, q2, q3⟩ := put_sp hg hDw hR hdis hd (b := j) (x := 0) (by omega) (by omega)
      have z1 := nI_le (Nat.le_of_not_lt z) (by omega)
      obtain ⟨w'', v'', d'', p1, p2, p3, p4⟩ := ih w' _ _ (va_up dd j 0) f (by omega) q2 (hS.put (x := 0) hd (by omega)) (fun b hb => by
        unfold va_up
        split
        · next q => subst q; omega
        · exact hl b hb) (hF.tr q3) (by omega)
      refine ⟨w'', v'', d'', ?_, p2, by rw [if_neg z]; exact p3, p4⟩
      rw [← p1]
      rw [nI_0] at q1
      have em : nI j + -1 = nI j - 1 := by
        cases j with
        | zero => decide
        | succ k => rw [nI_pred, pk_m1]
      simp [jX4_showNext, bX4_showNext_0, bX4_showNext_1, i_aaload, i_aload, i_getf, i_iadd, i_iaload, i_icge, i_iflt, i_iinc, i_iload, i_istore, i_isub, i_jmp, i_push, i_return, msk, lset1, lset2, clr, Value.category, Option.toList, List.cons_append, List.nil_append, List.length_cons, List.length_nil, nI_pred, hneg, gf_eq h0, h2.rd (j := j) (by omega) (by decide), hdj, nI_1, gf_eq d0, d9.rd (j := j) (by omega) (by decide), va_rf, gf_eq e1, z1, cvk_3 h0 q1, em]
theorem showNext_sp {g : GE} (hg : FU g) {w : Mem} {r D : Nat} {δ : DE} {v d c o : Nat → Int32} {su tw : Int32} {dd : Nat → Nat} (hD : DEED g w D δ) (hR : ROW w r v d c o su tw) (hS : RS δ dd w r v d) (hl : ∀ b, b < δ.1 3 → dd b < δ.2 10 b) (hdis : D + 35 ≤ r ∨ r + 5 ≤ D) (hd : WF δ) :
    ∃ w' v' d', fX4_showNext g [.ref r, .ref D] w = some (.inl none, w') ∧ ROW w' r v' d' c o su tw ∧ RS δ (nx δ (δ.1 3) dd) w' r v' d' ∧ Fr (rg r (r + 5)) w w' := by
  obtain ⟨b1, b2, b3, b4, b5, b6, b7, b8⟩ := hd.1
  obtain ⟨N, hN⟩ : ∃ N, g.1 = N + 1 := ⟨g.1 - 1, by omega⟩
  obtain ⟨w', v', d', q1, q2, q3, q4⟩ := showNext_lp hg hD hdis hd (δ.1 3) w v d dd N (Nat.le_refl _) hR hS hl (Fr.rf _ _) (by omega)
  refine ⟨w', v', d', ?_, q2, q3, q4⟩
  rw [← q1]
  simp [fX4_showNext, kX4_showNext, ent, entp, jX4_showNext, bX4_showNext_0, bX4_showNext_1, i_aaload, i_aload, i_getf, i_iadd, i_iaload, i_icge, i_iflt, i_iinc, i_iload, i_istore, i_isub, i_jmp, i_push, i_return, msk, lset1, lset2, clr, Value.category, Option.toList, List.cons_append, List.nil_append, List.length_cons, List.length_nil, hN, gf_eq hD.1]
theorem show_sp {g : GE} (hg : FU g) {w : Mem} {r D : Nat} {δ : DE} {v d c o : Nat → Int32} {su tw : Int32} {dd : Nat → Nat} {mk : Int64} (hD : DEED g w D δ) (hR : ROW w r v d c o su tw) (hdis : D + 35 ≤ r ∨ r + 5 ≤ D) (hd : WF δ) (hl : ∀ b, b < δ.1 3 → dd b < δ.2 10 b)
    (hm : ∀ (w1 : Mem) b, b < δ.1 3 → fX4_digitIn g [.long mk, .int (nI b)] w1 = some (.inl (some (.int (nI (dd b)))), w1)) :
    ∃ w' v' d', fX4_show g [.ref r, .ref D, .long mk] w = some (.inl none, w') ∧ ROW w' r v' d' c o su tw ∧ RS δ dd w' r v' d' ∧ Fr (rg r (r + 5)) w w' := by
  obtain ⟨b1, b2, b3, b4, b5, b6, b7, b8⟩ := hd.1
  have nd : ∀ i, i < 35 → ¬ rg r (r + 5) (D + i) := fun i hi => by unfold rg; omega
  obtain ⟨h0, h1, h2, h3, h4⟩ := id hR
  obtain ⟨d0, -, -, -, -, -, -, -, d8, -⟩ := id hD
  obtain ⟨w1, q1, q2, q3⟩ := cpi_sp (n := δ.1 5) d8 h1 (by omega) (by omega) (by omega)
  have hR1 : ROW w1 r (fun i => if i < δ.1 5 then nI (δ.2 7 i) else v i) d c o su tw := ⟨q3.at h0 (by omega), q2, h2.fr q3 (by omega), h3.fr q3 (by omega), h4.fr q3 (by omega)⟩
  have hF1 : Fr (rg r (r + 5)) w w1 := q3.mn fun a h => by subst h; unfold rg; omega
  have L := lpR (fun f (s : Lv × Mem) => jX4_show g f 1 [] s.1 s.2) (fun i s => s.1 = [some (.ref r), some (.ref D), some (.long mk), none, some (.int (nI i))] ∧ (∃ v' d', ROW s.2 r v' d' c o su tw ∧ (∀ p, p < δ.1 5 → v' p = nI (va δ (fun b => if b < i then dd b else 0) p)) ∧ (∀ b, b < i → d' b = nI (dd b))) ∧ Fr (rg r (r + 5)) w s.2)
    (fun z => ∃ w' v' d', z = some (.inl none, w') ∧ ROW w' r v' d' c o su tw ∧ RS δ dd w' r v' d' ∧ Fr (rg r (r + 5)) w w') 1 1 (δ.1 3)
    (fun i s hi hI f => by
      obtain ⟨e1, ⟨v', d', e2, e3, e4⟩, e5⟩ := hI
      have hDs := hD.fr e5 nd
      obtain ⟨w', p1, p2, p3⟩ := put_sp hg hDs e2 hdis hd (b := i) (x := dd i) hi (hl i hi)
      refine Or.inr ⟨f, ([some (.ref r), some (.ref D), some (.long mk), none, some (.int (nI (i + 1)))], w'), Nat.le_refl _, ⟨rfl, ⟨_, _, p2, fun p hp => ?_, fun b hb => ?_⟩, e5.tr p3⟩, ?_⟩
      · rw [← va_cg (dd := va_up (fun b => if b < i then dd b else 0) i (dd i)) (fun b hb => ?_) p, va_upd hd hi]
        · unfold va_up
          split
          · rfl
          · exact e3 p hp
        · unfold va_up
          by_cases y : b = i
          · subst y; simp
          · by_cases x : b < i
            · simp [y, x, Nat.lt_succ_of_lt x]
            · have : ¬ b < i + 1 := by omega
              simp [y, x, this]
      · unfold va_up
        by_cases y : b = i
        · subst y; simp
        · simp only [y, if_false]
          exact e4 b (by omega)
      · simp [jX4_show, bX4_show_0, bX4_show_1, i_acopy, i_aload, i_getf, i_icge, i_iinc, i_iload, i_istore, i_jmp, i_lload, i_push, i_return, msk, lset1, lset2, clr, Value.category, Option.toList, List.cons_append, List.nil_append, List.length_cons, List.length_nil, e1, gf_eq hDs.1, nI_ge hi (by omega), csk_2 (hm s.2 i hi), cvk_3 e2.1 p1, nI_1])
    (fun s hI f => by
      obtain ⟨e1, ⟨v', d', e2, e3, e4⟩, e5⟩ := hI
      have hDs := hD.fr e5 nd
      refine ⟨s.2, v', d', ?_, e2, ⟨fun p hp => ?_, e4⟩, e5⟩
      · simp [jX4_show, bX4_show_0, bX4_show_1, i_acopy, i_aload, i_getf, i_icge, i_iinc, i_iload, i_istore, i_jmp, i_lload, i_push, i_return, msk, lset1, lset2, clr, Value.category, Option.toList, List.cons_append, List.nil_append, List.length_cons, List.length_nil, e1, gf_eq hDs.1]
      · rw [e3 p hp, va_cg (ee := dd) (fun b hb => by simp [hb]) p])
  obtain ⟨N, hN⟩ : ∃ N, g.1 = N + 1 := ⟨g.1 - 1, by omega⟩
  have L1 := L (δ.1 3) 0 ([some (.ref r), some (.ref D), some (.long mk), none, some (.int (nI 0))], w1) (by omega) ⟨rfl, ⟨_, _, hR1, fun p hp => by simp only [hp, if_true, Nat.not_lt_zero, if_false]; rw [va_0 hd], fun b hb => by omega⟩, hF1⟩ N (by omega)
  simp only [nI_0] at L1
  have e : fX4_show g [.ref r, .ref D, .long mk] w = jX4_show g N 1 [] [some (.ref r), some (.ref D), some (.long mk), none, some (.int 0)] w1 := by
    simp [fX4_show, kX4_show, ent, entp, jX4_show, bX4_show_0, bX4_show_1, i_acopy, i_aload, i_getf, i_icge, i_iinc, i_iload, i_istore, i_jmp, i_lload, i_push, i_return, msk, lset1, lset2, clr, Value.category, Option.toList, List.cons_append, List.nil_append, List.length_cons, List.length_nil, hN, gf_eq h0, gf_eq d0, q1]
  rw [e]
  exact L1
