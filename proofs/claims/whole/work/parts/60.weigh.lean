/-! ===== weigh; odds, likeliest, slips, likely ===== -/
theorem weigh_sp {g : GE} (hg : FU g) {w : Mem} {S D a : Nat} {δ : DE} {τ : TE} (hd : WF δ) (hV : TV δ τ) (hD : DEED g w D δ) (hT : TS w a τ) (h1 : D + 35 ≤ S) (h2 : S + 3 ≤ a) (hS : (∃ b, OB w S 5 [.ref (S + 1), .ref (S + 2), .int b]) ∧ (∃ c, LA w (S + 1) 800 c) ∧ (∃ c, IA w (S + 2) 800 c)) :
    ∃ w', fX5_weigh g [.ref S, .ref D, .ref a] w = some (.inl none, w') ∧ SCL w' S (δ.1 3) δ τ (τ.1 0) ∧ Fr (rg S (S + 3)) w w' := by
  obtain ⟨b1, b2, b3, b4, b5, b6, b7, b8⟩ := id hd.1
  obtain ⟨v1, v2, v3, v4⟩ := id hV
  obtain ⟨⟨bb, o0⟩, ⟨cL, hL⟩, ⟨cI, hI0⟩⟩ := hS
  have kp : ∀ u, Fr (rg S (S + 3)) w u → DEED g u D δ ∧ TS u a τ := fun u hu => ⟨hD.fr hu (fun i hi => by unfold rg; omega), hT.fr hu (fun i hi => by unfold rg; omega)⟩
  -- the digits of one blot, by one copy
  have LI : ∀ (u : Mem) (c : Nat), c < τ.1 0 → Fr (rg S (S + 3)) w u → SCL u S (δ.1 3) δ τ c → ∀ f, ∃ f' u', f ≤ f' ∧ Fr (rg S (S + 3)) w u' ∧ SCL u' S (δ.1 3) δ τ (c + 1) ∧ jX5_weigh g (f + 1 + 2 * δ.2 10 (τ.2 1 c)) 2 [] [some (.ref S), some (.ref D), some (.ref a), some (.int (nI c)), some (.int (nI (τ.2 1 c))), some (.ref (D + 19 + 2 * τ.2 1 c)), some (.int 0)] u = jX5_weigh g f' 1 [] [some (.ref S), some (.ref D), some (.ref a), some (.int (nI (c + 1))), none, none, none] u' := fun u c hc F hu f => by
    obtain ⟨c1, c2, c3⟩ := v3 c hc
    obtain ⟨b, hb⟩ : ∃ b, τ.2 1 c = b := ⟨_, rfl⟩
    rw [hb] at c2 ⊢
    obtain ⟨z1, z2, z3, z4, z5, z6⟩ := hd.2.2.2.1 b c2
    have L := lpC (fun f (s : Lv × Mem) => jX5_weigh g f 2 [] s.1 s.2) (fun d s => s.1 = [some (.ref S), some (.ref D), some (.ref a), some (.int (nI c)), some (.int (nI b)), some (.ref (D + 19 + 2 * b)), some (.int (nI d))] ∧ Fr (rg S (S + 3)) w s.2 ∧ OB s.2 S 5 [.ref (S + 1), .ref (S + 2), .int (nI (δ.1 3))]
        ∧ (∃ q, LA s.2 (S + 1) 800 q ∧ ∀ b' d', b' < δ.1 3 → d' < δ.2 10 b' → q (b' * 100 + d') = lN (wgK δ τ b' d' (if b' = b ∧ d' < d then c + 1 else c))) ∧ (∃ q, IA s.2 (S + 2) 800 q ∧ ∀ b' d', b' < δ.1 3 → d' < δ.2 10 b' → q (b' * 100 + d') = nI (wpK δ τ b' d' (if b' = b ∧ d' < d then c + 1 else c)))) 2 (δ.2 10 b)
      (fun d s hd' hI f => by
        obtain ⟨e1, e2, e3, ⟨q1, e4, k4⟩, ⟨q2, e5, k5⟩⟩ := hI
        obtain ⟨D1, T1⟩ := kp _ e2
        obtain ⟨d0, -, -, -, -, -, -, -, -, d9, -, dbl, dvl⟩ := id D1
        have ob := dbl b (by omega)
        have vl := dvl b (by omega)
        have lv : δ.2 (20 + b) d < 100 := by
          rcases z5 d hd' with ⟨_, q⟩ | ⟨_, q⟩ | ⟨_, q⟩ <;> omega
        have lx : b * 100 + d < 800 := by omega
        have oc := oddsOfCopy_sp hg (c := c) (v := δ.2 (20 + b) d) hd T1 hV hc lv
        rw [hb] at oc
        have rL : gl s.2 (S + 1) (nI (b * 100 + d)) = some (lN (wgK δ τ b d c)) := by
          rw [e4.rd lx (by decide), k4 b d c2 hd', if_neg (by omega)]
        have lo := ocK_le hV c (δ.2 (20 + b) d)
        have e9 : wgK δ τ b d (c + 1) = wgK δ τ b d c * ocK δ τ c (δ.2 (20 + b) d) := by
          show (if τ.2 1 c = b then _ else _) = _
          rw [if_pos hb]
        have eo := nI_l (n := ocK δ τ c (δ.2 (20 + b) d)) (by omega)
        have em := lN_mul (wgK δ τ b d c) (ocK δ τ c (δ.2 (20 + b) d))
        rw [← e9] at em
        obtain ⟨w1, hw1⟩ : ∃ z, wl s.2 (S + 1) (b * 100 + d) (lN (wgK δ τ b d (c + 1))) = z := ⟨_, rfl⟩
        have F1 : Fr (fun q => q = S + 1) s.2 w1 := hw1 ▸ Fr.wl _ _ _ rfl
        have wL := e4.wr lx (by decide) (lN (wgK δ τ b d (c + 1)))
        rw [hw1] at wL
        have e4' := e4.up (b * 100 + d) (lN (wgK δ τ b d (c + 1)))
        rw [hw1] at e4'
        have k4' : ∀ b' d', b' < δ.1 3 → d' < δ.2 10 b' → (va_up q1 (b * 100 + d) (lN (wgK δ τ b d (c + 1)))) (b' * 100 + d') = lN (wgK δ τ b' d' (if b' = b ∧ d' < d + 1 then c + 1 else c)) := fun b' d' h1 h2 => by
          have := (hd.2.2.2.1 b' h1).2.1
          by_cases y : b' * 100 + d' = b * 100 + d
          · obtain ⟨y1, y2⟩ := ix100 (by omega) (by omega) y
            subst y1 y2
            rw [va_up_self, if_pos ⟨rfl, Nat.lt_succ_self _⟩]
          · rw [va_up_ne _ _ y, k4 b' d' h1 h2]
            have : (b' = b ∧ d' < d) ↔ (b' = b ∧ d' < d + 1) := by
              constructor
              · rintro ⟨p, r⟩; exact ⟨p, by omega⟩
              · rintro ⟨p, r⟩; exact ⟨p, by subst p; omega⟩
            simp only [this]
        have o1 := F1.at e3 (by omega)
        have D2 := D1.fr F1 (fun i hi => by omega)
        have T2 := T1.fr F1 (fun i hi => by omega)
        obtain ⟨-, -, -, -, -, -, -, -, -, -, -, dbl2, dvl2⟩ := id D2
        have ob2 := dbl2 b (by omega)
        have rt : gi w1 0 (a + 3) (nI c) = some (nI (τ.2 2 c)) := (T2.2.1 2 (by decide)).rd (by omega) (by decide)
        have rv1 : gi s.2 0 (D + 20 + 2 * b) (nI d) = some (nI (δ.2 (20 + b) d)) := vl.rd (by omega) (by decide)
        have rv2 : gi w1 0 (D + 20 + 2 * b) (nI d) = some (nI (δ.2 (20 + b) d)) := (dvl2 b (by omega)).rd (by omega) (by decide)
        have F01 : Fr (rg S (S + 3)) w w1 := e2.tr (F1.mn fun q h => by unfold rg; omega)
        have m := nI_eq (a := τ.2 2 c) (b := δ.2 (20 + b) d) (by omega) (by omega)
        have e5' := e5.fr F1 (by omega)
        have rS : gi w1 0 (S + 2) (nI (b * 100 + d)) = some (nI (wpK δ τ b d c)) := by
          rw [e5'.rd lx (by decide), k5 b d c2 hd', if_neg (by omega)]
        by_cases y : τ.2 2 c = δ.2 (20 + b) d
        · refine ⟨f, ([some (.ref S), some (.ref D), some (.ref a), some (.int (nI c)), some (.int (nI b)), some (.ref (D + 19 + 2 * b)), some (.int (nI (d + 1)))], w1), Nat.le_refl _, ⟨rfl, F01, o1, ⟨_, e4', k4'⟩, ⟨q2, e5', fun b' d' h1 h2 => ?_⟩⟩, ?_⟩
          · rw [k5 b' d' h1 h2]
            by_cases y1 : b' = b ∧ d' = d
            · obtain ⟨p1, p2⟩ := y1
              subst p1 p2
              rw [if_neg (by omega), if_pos ⟨rfl, Nat.lt_succ_self _⟩]
              show _ = nI (if τ.2 1 c = b' ∧ _ then _ else _)
              rw [if_neg (fun q => q.2 y)]
            · have : (b' = b ∧ d' < d) ↔ (b' = b ∧ d' < d + 1) := by
                constructor
                · rintro ⟨p, r⟩; exact ⟨p, by omega⟩
                · rintro ⟨p, r⟩; exact ⟨p, by have : d' ≠ d := fun q => y1 ⟨p, q⟩; omega⟩
              simp only [this]
          · simp [jX5_weigh, bX5_weigh_0, bX5_weigh_1, bX5_weigh_2, bX5_weigh_3, i_aaload, i_aload, i_astore, i_dup2, i_getf, i_i2l, i_iadd, i_iaload, i_iastore, i_iceq, i_icge, i_iinc, i_iload, i_imul, i_istore, i_jmp, i_laload, i_lastore, i_lmul, i_push, i_putf, i_return, msk, lset1, lset2, clr, Value.category, Option.toList, List.cons_append, List.nil_append, List.length_cons, List.length_nil, e1, gf_eq ob, nI_ge hd' (by omega), gf_eq e3, i100, rL, gf_eq T1.1, rv1, cvk_3 T1.1 oc, eo, em, wL, gf_eq T2.1, rt, gf_eq ob2, rv2, y, nI_1]
        · obtain ⟨w2, hw2⟩ : ∃ z, wi w1 0 (S + 2) (b * 100 + d) (nI (wpK δ τ b d c + 1)) = z := ⟨_, rfl⟩
          have F2 : Fr (fun q => q = S + 2) w1 w2 := hw2 ▸ Fr.wi _ _ _ _ rfl
          have wS := e5'.wr lx (by decide) (nI (wpK δ τ b d c + 1))
          rw [hw2] at wS
          have e5'' := e5'.up (b * 100 + d) (nI (wpK δ τ b d c + 1))
          rw [hw2] at e5''
          refine ⟨f, ([some (.ref S), some (.ref D), some (.ref a), some (.int (nI c)), some (.int (nI b)), some (.ref (D + 19 + 2 * b)), some (.int (nI (d + 1)))], w2), Nat.le_refl _, ⟨rfl, F01.tr (F2.mn fun q h => by unfold rg; omega), F2.at o1 (by omega), ⟨_, e4'.fr F2 (by omega), k4'⟩, ⟨_, e5'', fun b' d' h1 h2 => ?_⟩⟩, ?_⟩
          · have := (hd.2.2.2.1 b' h1).2.1
            by_cases y1 : b' * 100 + d' = b * 100 + d
            · obtain ⟨p1, p2⟩ := ix100 (by omega) (by omega) y1
              subst p1 p2
              rw [va_up_self, if_pos ⟨rfl, Nat.lt_succ_self _⟩]
              show _ = nI (if τ.2 1 c = b' ∧ _ then _ else _)
              rw [if_pos ⟨hb, y⟩]
            · rw [va_up_ne _ _ y1, k5 b' d' h1 h2]
              have : (b' = b ∧ d' < d) ↔ (b' = b ∧ d' < d + 1) := by
                constructor
                · rintro ⟨p, r⟩; exact ⟨p, by omega⟩
                · rintro ⟨p, r⟩; exact ⟨p, by subst p; omega⟩
              simp only [this]
          · simp [jX5_weigh, bX5_weigh_0, bX5_weigh_1, bX5_weigh_2, bX5_weigh_3, i_aaload, i_aload, i_astore, i_dup2, i_getf, i_i2l, i_iadd, i_iaload, i_iastore, i_iceq, i_icge, i_iinc, i_iload, i_imul, i_istore, i_jmp, i_laload, i_lastore, i_lmul, i_push, i_putf, i_return, msk, lset1, lset2, clr, Value.category, Option.toList, List.cons_append, List.nil_append, List.length_cons, List.length_nil, e1, gf_eq ob, nI_ge hd' (by omega), gf_eq e3, i100, rL, gf_eq T1.1, rv1, cvk_3 T1.1 oc, eo, em, wL, gf_eq T2.1, rt, gf_eq ob2, rv2, mt m.mp y, gf_eq o1, rS, nI_1, wS])
    obtain ⟨h1, ⟨q1, h2, k2⟩, ⟨q2, h3, k3⟩⟩ := hu
    obtain ⟨f1, s1, g1, ⟨e1, e2, e3, ⟨q1, e4, k4⟩, ⟨q2, e5, k5⟩⟩, g3⟩ := L (δ.2 10 b) 0 ([some (.ref S), some (.ref D), some (.ref a), some (.int (nI c)), some (.int (nI b)), some (.ref (D + 19 + 2 * b)), some (.int (nI 0))], u) (by omega) ⟨rfl, F, h1, ⟨q1, h2, fun b' d' p r => by rw [if_neg (by omega)]; exact k2 b' d' p r⟩, ⟨q2, h3, fun b' d' p r => by rw [if_neg (by omega)]; exact k3 b' d' p r⟩⟩ (f + 1)
    obtain ⟨f2, rfl⟩ : ∃ z, f1 = z + 1 := ⟨f1 - 1, by omega⟩
    obtain ⟨D1, T1⟩ := kp _ e2
    obtain ⟨-, -, -, -, -, -, -, -, -, -, -, dbl, -⟩ := id D1
    have ob := dbl b (by omega)
    refine ⟨f2, s1.2, by omega, e2, ⟨e3, ⟨q1, e4, fun b' d' p r => ?_⟩, ⟨q2, e5, fun b' d' p r => ?_⟩⟩, ?_⟩
    · rw [k4 b' d' p r]
      by_cases y : b' = b
      · subst y; rw [if_pos ⟨rfl, r⟩]
      · rw [if_neg (fun q => y q.1)]
        show _ = lN (if τ.2 1 c = b' then _ else _)
        rw [if_neg (by rw [hb]; exact fun q => y q.symm)]
    · rw [k5 b' d' p r]
      by_cases y : b' = b
      · subst y; rw [if_pos ⟨rfl, r⟩]
      · rw [if_neg (fun q => y q.1)]
        show _ = nI (if τ.2 1 c = b' ∧ _ then _ else _)
        rw [if_neg (by rw [hb]; exact fun q => y q.1.symm)]
    · simp only [nI_0] at g3
      rw [g3]
      simp [jX5_weigh, bX5_weigh_0, bX5_weigh_1, bX5_weigh_2, bX5_weigh_3, i_aaload, i_aload, i_astore, i_dup2, i_getf, i_i2l, i_iadd, i_iaload, i_iastore, i_iceq, i_icge, i_iinc, i_iload, i_imul, i_istore, i_jmp, i_laload, i_lastore, i_lmul, i_push, i_putf, i_return, msk, lset1, lset2, clr, Value.category, Option.toList, List.cons_append, List.nil_append, List.length_cons, List.length_nil, e1, gf_eq ob, nI_1]
  obtain ⟨w1, hw1⟩ : ∃ z, mset w S (.inr (5, [.ref (S + 1), .ref (S + 2), .int (nI (δ.1 3))])) = z := ⟨_, rfl⟩
  have o1 : OB w1 S 5 [.ref (S + 1), .ref (S + 2), .int (nI (δ.1 3))] := hw1 ▸ ms_at _ _ _
  have F1 : Fr (fun q => q = S) w w1 := hw1 ▸ Fr.ms _ _ rfl
  obtain ⟨w2, q1, q2, q3⟩ := fillL_sp hg (hL.fr F1 (by omega)) (by decide) 1
  obtain ⟨w3, p1, p2, p3⟩ := fill_sp hg ((hI0.fr F1 (by omega)).fr q3 (by omega)) (by decide) 0
  have o2 := q3.at o1 (by omega)
  have o3 := p3.at o2 (by omega)
  have F3 : Fr (rg S (S + 3)) w w3 := ((F1.mn fun q h => by unfold rg; omega).tr (q3.mn fun q h => by unfold rg; omega)).tr (p3.mn fun q h => by unfold rg; omega)
  obtain ⟨N, hN⟩ : ∃ N, g.1 = N + 1 := ⟨g.1 - 1, by omega⟩
  have L := lpR (fun f (s : Lv × Mem) => jX5_weigh g f 1 [] s.1 s.2) (fun c s => s.1 = [some (.ref S), some (.ref D), some (.ref a), some (.int (nI c)), none, none, none] ∧ Fr (rg S (S + 3)) w s.2 ∧ SCL s.2 S (δ.1 3) δ τ c)
    (fun z => ∃ w', z = some (.inl none, w') ∧ SCL w' S (δ.1 3) δ τ (τ.1 0) ∧ Fr (rg S (S + 3)) w w') 202 1 (τ.1 0)
    (fun c s hc hI f => by
      obtain ⟨e1, e2, e3⟩ := hI
      obtain ⟨D1, T1⟩ := kp _ e2
      obtain ⟨d0, -, -, -, -, -, -, -, -, d9, -⟩ := id D1
      obtain ⟨c1, c2, c3⟩ := v3 c hc
      have z2 := (hd.2.2.2.1 _ c2).2.1
      obtain ⟨f', u', g1, g2, g3, g4⟩ := LI s.2 c hc e2 e3 (f + 200 - 2 * δ.2 10 (τ.2 1 c))
      refine Or.inr ⟨f', (_, u'), by omega, ⟨rfl, g2, g3⟩, ?_⟩
      show jX5_weigh g (f + 202) 1 [] s.1 s.2 = jX5_weigh g f' 1 [] [some (.ref S), some (.ref D), some (.ref a), some (.int (nI (c + 1))), none, none, none] u'
      rw [← g4]
      rw [show f + 202 = (f + 200 - 2 * δ.2 10 (τ.2 1 c) + 1 + 2 * δ.2 10 (τ.2 1 c)) + 1 from by omega]
      generalize f + 200 - 2 * δ.2 10 (τ.2 1 c) + 1 + 2 * δ.2 10 (τ.2 1 c) = F
      have rb : gi s.2 0 (a + 2) (nI c) = some (nI (τ.2 1 c)) := (T1.2.1 1 (by decide)).rd (by omega) (by decide)
      simp [jX5_weigh, bX5_weigh_0, bX5_weigh_1, bX5_weigh_2, bX5_weigh_3, i_aaload, i_aload, i_astore, i_dup2, i_getf, i_i2l, i_iadd, i_iaload, i_iastore, i_iceq, i_icge, i_iinc, i_iload, i_imul, i_istore, i_jmp, i_laload, i_lastore, i_lmul, i_push, i_putf, i_return, msk, lset1, lset2, clr, Value.category, Option.toList, List.cons_append, List.nil_append, List.length_cons, List.length_nil, e1, gf_eq T1.1, nI_ge hc (by omega), rb, gf_eq d0, d9.rd (j := τ.2 1 c) (by omega) (by decide), va_rf])
    (fun s hI f => by
      obtain ⟨e1, e2, e3⟩ := hI
      obtain ⟨D1, T1⟩ := kp _ e2
      refine ⟨s.2, ?_, e3, e2⟩
      simp [jX5_weigh, bX5_weigh_0, bX5_weigh_1, bX5_weigh_2, bX5_weigh_3, i_aaload, i_aload, i_astore, i_dup2, i_getf, i_i2l, i_iadd, i_iaload, i_iastore, i_iceq, i_icge, i_iinc, i_iload, i_imul, i_istore, i_jmp, i_laload, i_lastore, i_lmul, i_push, i_putf, i_return, msk, lset1, lset2, clr, Value.category, Option.toList, List.cons_append, List.nil_append, List.length_cons, List.length_nil, e1, gf_eq T1.1])
  have L1 := L (τ.1 0) 0 ([some (.ref S), some (.ref D), some (.ref a), some (.int (nI 0)), none, none, none], w3) (by omega) ⟨rfl, F3, o3, ⟨_, q2.fr p3 (by omega), fun b d _ _ => rfl⟩, ⟨_, p2, fun b d _ _ => nI_0.symm⟩⟩ N (by omega)
  simp only [nI_0] at L1
  have e : fX5_weigh g [.ref S, .ref D, .ref a] w = jX5_weigh g N 1 [] [some (.ref S), some (.ref D), some (.ref a), some (.int 0), none, none, none] w3 := by
    simp [fX5_weigh, kX5_weigh, ent, entp, jX5_weigh, bX5_weigh_0, bX5_weigh_1, bX5_weigh_2, bX5_weigh_3, i_aaload, i_aload, i_astore, i_dup2, i_getf, i_i2l, i_iadd, i_iaload, i_iastore, i_iceq, i_icge, i_iinc, i_iload, i_imul, i_istore, i_jmp, i_laload, i_lastore, i_lmul, i_push, i_putf, i_return, msk, lset1, lset2, clr, Value.category, Option.toList, List.cons_append, List.nil_append, List.length_cons, List.length_nil, hN, gf_eq hD.1, sf_i o0, hw1, gf_eq o1, csk_2 q1, gf_eq o2, csk_2 p1]
  rw [e]
  exact L1
theorem oddsOf_sp {g : GE} (hg : FU g) {w : Mem} {S i : Nat} {δ : DE} {τ : TE} (hd : WF δ) (hV : TV δ τ) (hS : SCL w S (δ.1 3) δ τ (τ.1 0)) : fX5_oddsOf g [.ref S, .long (lN (mkN (δ.1 3) (dgR δ i)))] w = some (.inl (some (.long (lN (odK δ τ i)))), w) := by
  obtain ⟨b1, b2, b3, b4, b5, b6, b7, b8⟩ := id hd.1
  obtain ⟨o0, ⟨q1, h2, k2⟩, -⟩ := hS
  obtain ⟨N, hN⟩ : ∃ N, g.1 = N + 1 := ⟨g.1 - 1, by omega⟩
  have er : odK δ τ i = prQ (fun b => wgK δ τ b (dgR δ i b) (τ.1 0)) (δ.1 3) := (wg_od hV i (τ.1 0) (Nat.le_refl _)).symm
  rw [er]
  have L := lpF (fun f (s : Lv) => jX5_oddsOf g f 1 [] s w) (fun k => [some (.ref S), some (.long (lN (mkN (δ.1 3) (dgR δ i)))), none, some (.long (lN (prQ (fun b => wgK δ τ b (dgR δ i b) (τ.1 0)) k))), none, some (.int (nI k))]) (some (.inl (some (.long (lN (prQ (fun b => wgK δ τ b (dgR δ i b) (τ.1 0)) (δ.1 3))))), w)) 1 1 (δ.1 3)
    (fun k hk f => by
      refine ⟨f, Nat.le_refl _, ?_⟩
      have dj := digitIn_sp (g := g) (w := w) (n := δ.1 3) (b := k) (dd := dgR δ i) b4 (fun b hb => by have := dgR_100 hd i hb; omega) hk
      have ld := dgR_lt hd i hk
      have z2 := (hd.2.2.2.1 k hk).2.1
      have rL : gl w (S + 1) (nI (k * 100 + dgR δ i k)) = some (lN (wgK δ τ k (dgR δ i k) (τ.1 0))) := by
        rw [h2.rd (by omega) (by decide), k2 k _ hk ld]
      have em := lN_mul (prQ (fun b => wgK δ τ b (dgR δ i b) (τ.1 0)) k) (wgK δ τ k (dgR δ i k) (τ.1 0))
      have e9 : prQ (fun b => wgK δ τ b (dgR δ i b) (τ.1 0)) (k + 1) = prQ (fun b => wgK δ τ b (dgR δ i b) (τ.1 0)) k * wgK δ τ k (dgR δ i k) (τ.1 0) := rfl
      rw [e9]
      generalize prQ (fun b => wgK δ τ b (dgR δ i b) (τ.1 0)) k = X at em ⊢
      generalize lN (mkN (δ.1 3) (dgR δ i)) = Y at dj ⊢
      simp [jX5_oddsOf, bX5_oddsOf_0, bX5_oddsOf_1, i_aload, i_getf, i_iadd, i_icge, i_iinc, i_iload, i_imul, i_istore, i_jmp, i_laload, i_lload, i_lmul, i_lreturn, i_lstore, i_push, msk, lset1, lset2, clr, Value.category, Option.toList, List.cons_append, List.nil_append, List.length_cons, List.length_nil, gf_eq o0, nI_ge hk (by omega), csk_2 dj, i100, rL, em, nI_1])
    (fun f => by
      generalize prQ (fun b => wgK δ τ b (dgR δ i b) (τ.1 0)) (δ.1 3) = X
      generalize lN (mkN (δ.1 3) (dgR δ i)) = Y
      simp [jX5_oddsOf, bX5_oddsOf_0, bX5_oddsOf_1, i_aload, i_getf, i_iadd, i_icge, i_iinc, i_iload, i_imul, i_istore, i_jmp, i_laload, i_lload, i_lmul, i_lreturn, i_lstore, i_push, msk, lset1, lset2, clr, Value.category, Option.toList, List.cons_append, List.nil_append, List.length_cons, List.length_nil, gf_eq o0])
  rw [← L N (by omega)]
  generalize lN (mkN (δ.1 3) (dgR δ i)) = Y
  simp [fX5_oddsOf, kX5_oddsOf, ent, entp, jX5_oddsOf, bX5_oddsOf_0, bX5_oddsOf_1, i_aload, i_getf, i_iadd, i_icge, i_iinc, i_iload, i_imul, i_istore, i_jmp, i_laload, i_lload, i_lmul, i_lreturn, i_lstore, i_push, msk, lset1, lset2, clr, Value.category, Option.toList, List.cons_append, List.nil_append, List.length_cons, List.length_nil, hN, nI_0, prQ, (show lN 1 = 1 from rfl)]
theorem slipsOf_sp {g : GE} (hg : FU g) {w : Mem} {S i : Nat} {δ : DE} {τ : TE} (hd : WF δ) (hV : TV δ τ) (hS : SCL w S (δ.1 3) δ τ (τ.1 0)) : fX5_slipsOf g [.ref S, .long (lN (mkN (δ.1 3) (dgR δ i)))] w = some (.inl (some (.int (nI (slK δ τ i)))), w) := by
  obtain ⟨b1, b2, b3, b4, b5, b6, b7, b8⟩ := id hd.1
  obtain ⟨o0, -, ⟨q1, h2, k2⟩⟩ := hS
  obtain ⟨N, hN⟩ : ∃ N, g.1 = N + 1 := ⟨g.1 - 1, by omega⟩
  have er : slK δ τ i = sumH (fun b => wpK δ τ b (dgR δ i b) (τ.1 0)) (δ.1 3) := (ws_sl hV i (τ.1 0) (Nat.le_refl _)).symm
  rw [er]
  have L := lpF (fun f (s : Lv) => jX5_slipsOf g f 1 [] s w) (fun k => [some (.ref S), some (.long (lN (mkN (δ.1 3) (dgR δ i)))), none, some (.int (nI (sumH (fun b => wpK δ τ b (dgR δ i b) (τ.1 0)) k))), some (.int (nI k))]) (some (.inl (some (.int (nI (sumH (fun b => wpK δ τ b (dgR δ i b) (τ.1 0)) (δ.1 3))))), w)) 1 1 (δ.1 3)
    (fun k hk f => by
      refine ⟨f, Nat.le_refl _, ?_⟩
      have dj := digitIn_sp (g := g) (w := w) (n := δ.1 3) (b := k) (dd := dgR δ i) b4 (fun b hb => by have := dgR_100 hd i hb; omega) hk
      have ld := dgR_lt hd i hk
      have z2 := (hd.2.2.2.1 k hk).2.1
      have rL : gi w 0 (S + 2) (nI (k * 100 + dgR δ i k)) = some (nI (wpK δ τ k (dgR δ i k) (τ.1 0))) := by
        rw [h2.rd (by omega) (by decide), k2 k _ hk ld]
      have em := nI_add (sumH (fun b => wpK δ τ b (dgR δ i b) (τ.1 0)) k) (wpK δ τ k (dgR δ i k) (τ.1 0))
      have e9 : sumH (fun b => wpK δ τ b (dgR δ i b) (τ.1 0)) (k + 1) = sumH (fun b => wpK δ τ b (dgR δ i b) (τ.1 0)) k + wpK δ τ k (dgR δ i k) (τ.1 0) := rfl
      rw [e9]
      generalize sumH (fun b => wpK δ τ b (dgR δ i b) (τ.1 0)) k = X at em ⊢
      generalize lN (mkN (δ.1 3) (dgR δ i)) = Y at dj ⊢
      simp [jX5_slipsOf, bX5_slipsOf_0, bX5_slipsOf_1, i_aload, i_getf, i_iadd, i_iaload, i_icge, i_iinc, i_iload, i_imul, i_ireturn, i_istore, i_jmp, i_lload, i_push, msk, lset1, lset2, clr, Value.category, Option.toList, List.cons_append, List.nil_append, List.length_cons, List.length_nil, gf_eq o0, nI_ge hk (by omega), csk_2 dj, i100, rL, em, nI_1])
    (fun f => by
      generalize sumH (fun b => wpK δ τ b (dgR δ i b) (τ.1 0)) (δ.1 3) = X
      generalize lN (mkN (δ.1 3) (dgR δ i)) = Y
      simp [jX5_slipsOf, bX5_slipsOf_0, bX5_slipsOf_1, i_aload, i_getf, i_iadd, i_iaload, i_icge, i_iinc, i_iload, i_imul, i_ireturn, i_istore, i_jmp, i_lload, i_push, msk, lset1, lset2, clr, Value.category, Option.toList, List.cons_append, List.nil_append, List.length_cons, List.length_nil, gf_eq o0])
  rw [← L N (by omega)]
  generalize lN (mkN (δ.1 3) (dgR δ i)) = Y
  simp [fX5_slipsOf, kX5_slipsOf, ent, entp, jX5_slipsOf, bX5_slipsOf_0, bX5_slipsOf_1, i_aload, i_getf, i_iadd, i_iaload, i_icge, i_iinc, i_iload, i_imul, i_ireturn, i_istore, i_jmp, i_lload, i_push, msk, lset1, lset2, clr, Value.category, Option.toList, List.cons_append, List.nil_append, List.length_cons, List.length_nil, hN, nI_0, sumH]
theorem CI.sl {g : GE} {w w' : Mem} {B E fed kept : Nat} {fp : Int32} {tp : Nat → Int32} {rf : Nat → Nat} {δ : DE} {τ : TE} {im : Nat → TE} {lev nG : Nat} (hE : B + 132 ≤ E) (h : CI g w B E fed kept fp tp rf δ τ im lev nG) (k : Fr (rg (B + 95) (B + 95 + 3)) w w') {n m : Nat} {τ' : TE} (hL : SCL w' (B + 95) n δ τ' m) : CI g w' B E fed kept fp tp rf δ τ im lev nG := by
  obtain ⟨D, D', h1, h2, h3, h4, h5⟩ := h
  obtain ⟨g1, ⟨c1, g2, -⟩, ⟨c2, g3, -⟩⟩ := hL
  exact ⟨D, D', h1.fr k (fun i hi => by unfold rg; omega) (by unfold rg; omega), h2.fr k (fun i h1 h2 => by unfold rg; omega) (fun a ha => by unfold rg; omega), h3.fr k (fun i h1 h2 => by unfold rg; omega), ⟨⟨_, g1⟩, ⟨c1, g2⟩, ⟨c2, g3⟩⟩, h5.fr k (fun i h1 h2 => by unfold rg; omega)⟩
/-- the class has weighed -/
theorem weighed {g : GE} {w : Mem} {B E fed kept : Nat} {fp : Int32} {tp : Nat → Int32} {rf : Nat → Nat} {δ : DE} {τ : TE} {im : Nat → TE} {lev nG : Nat} (hg : GD g) (hE : B + 132 ≤ E) (hI : CI g w B E fed kept fp tp rf δ τ im lev nG) (hV : TV δ τ) : ∃ D D' aM aS aG n1 w', CC g w B D D' fed kept fp tp rf δ ∧ fX5_weigh g [.ref (B + 95), .ref D, .ref (B + 98)] w = some (.inl none, w') ∧ (∃ b, OB w (B + 95) 5 [.ref (B + 95 + 1), .ref (B + 95 + 2), .int b]) ∧ GT g w (B + 73) E D δ (δ.1 6) aM aS aG n1 lev ∧ SCL w' (B + 95) (δ.1 3) δ τ (τ.1 0) ∧ CC g w' B D D' fed kept fp tp rf δ ∧ GT g w' (B + 73) E D δ (δ.1 6) aM aS aG n1 lev ∧ CI g w' B E fed kept fp tp rf δ τ im lev nG ∧ Fr (CF B E) w w' := by
  have hg1 := hg.1
  obtain ⟨D, D', hCC, hCT, hCN, hCL, hCM⟩ := id hI
  obtain ⟨hDD, hB, hTp, hD, hD', hSc, hr, hd, hfd, hkp⟩ := id hCC
  obtain ⟨aM, aS, aG, n1, hG, hX⟩ := id hCT
  have dt := hCC.dt
  obtain ⟨w', q1, q2, q3⟩ := weigh_sp hg1 (S := B + 95) (D := D) (a := B + 98) hd hV hD hCM.1 (by omega) (by omega) hCL
  obtain ⟨fM, fS, hT, hM, hS, hA, -⟩ := id hG
  have nA := hA.in
  refine ⟨D, D', aM, aS, aG, n1, w', hCC, q1, hCL.1, hG, q2, hCC.fr q3 (fun i hi => by unfold rg; omega) (by unfold rg; omega), hG.fr q3 (by unfold rg; omega) (by unfold rg at *; omega) (by unfold rg at *; omega) (by unfold rg; omega), hI.sl hE q3 q2, q3.mn fun a ha => CF.in (by unfold rg at ha; omega)⟩
def oddsO (δ : DE) (τ : TE) (x0 : Int32) : OUT := 
  match rng x0 (nR δ) with
  | none => .inr (1, 0)
  | some n0 =>
    .inl (.long (lN (odK δ τ n0)))
theorem odds_c {g : GE} {w : Mem} {B E fed kept : Nat} {fp : Int32} {tp : Nat → Int32} {rf : Nat → Nat} {δ : DE} {τ : TE} {im : Nat → TE} {lev nG : Nat} (hV : TV δ τ) (hg : GD g) (hE : B + 132 ≤ E) (hI : CI g w B E fed kept fp tp rf δ τ im lev nG) (x0 : Int32) : CQ g w B E fed kept fp tp rf δ τ im lev nG (fX10_odds g [.ref B, .int x0] w) (oddsO δ τ x0) := by
  have hg1 := hg.1
  obtain ⟨D, D', hCC, hCT, hCN, hCL, hCM⟩ := id hI
  obtain ⟨hDD, hB, hTp, hD, hD', hSc, hr, hd, hfd, hkp⟩ := id hCC
  obtain ⟨aM, aS, aG, n1', hG, hX⟩ := id hCT
  obtain ⟨b1, b2, b3, b4, b5, b6, b7, b8⟩ := id hd.1
  have hT := hG.tb
  have hn := nR_le hd
  obtain ⟨N, hN⟩ : ∃ N, g.1 = N + 12 := ⟨g.1 - 12, by omega⟩
  unfold oddsO
  have q0 := needReading_sp hg1 hB hr hT (by omega) x0
  cases h0 : rng x0 (nR δ) with
  | none =>
    rw [h0] at q0
    simp only [tst, Option.isSome, Bool.false_eq_true, if_false] at q0
    refine CQ.no hE hI ?_
    simp [fX10_odds, kX10_odds, ent, entp, bX10_odds_0, i_aload, i_getf, i_iload, i_laload, i_lreturn, msk, lset1, lset2, clr, Value.category, Option.toList, List.cons_append, List.nil_append, List.length_cons, List.length_nil, hN, cxe_1 hB q0]
  | some n0 =>
    rw [h0] at q0
    simp only [tst, Option.isSome, if_true] at q0
    obtain ⟨l0, e0⟩ := rng_some (by omega) h0
    subst e0
    dsimp only
    clear hT hG hX hB hD hr hDD hTp hD' hSc hCC hCT q0
    obtain ⟨D, D', aM, aS, aG, n1, w', hCC, p1, ⟨bb, hS0⟩, hG, p2, hCC', hG', I', FF⟩ := weighed hg hE hI hV
    obtain ⟨-, hB, -, hD, -, -, hr, -⟩ := id hCC
    obtain ⟨-, hB', -, hD2, -⟩ := id hCC'
    have q0 := needReading_sp hg1 hB hr hG.tb (by omega) (nI n0)
    rw [h0] at q0
    simp only [tst, Option.isSome, if_true] at q0
    have o1 := oddsOf_sp hg1 (i := n0) hd hV p2
    have m1 := hG'.mk l0
    refine CQ.okw I' ?_ FF
    generalize lN (mkN (δ.1 3) (dgR δ n0)) = Y at m1 o1
    simp [fX10_odds, kX10_odds, ent, entp, bX10_odds_0, i_aload, i_getf, i_iload, i_laload, i_lreturn, msk, lset1, lset2, clr, Value.category, Option.toList, List.cons_append, List.nil_append, List.length_cons, List.length_nil, hN, cxk_1 hB q0, gf_eq hB, cvk_2 hS0 p1, gf_eq hB', gf_eq hG'.tb, m1, cvk_1 p2.1 o1]
theorem roddsOf_sp {g : GE} (hg : FU g) {w : Mem} {M c v : Nat} {x : Nat → Int32} {δ : DE} {τ : TE} (hd : WF δ) (hV : TV δ τ) (hO : MO w M x) (hx : x 33 = nI (τ.1 1)) (hD : RD w M δ) (hC : GRD w (M + 146) 12 3 (fun k i => nI (τ.2 i k))) (hH : GRD w (M + 159) 8 4 (fun k i => nI (τ.2 (3 + i) k))) (hc : c < τ.1 0) (lv : v < 100) : fX11_oddsOf g [.ref M, .int (nI c), .int (nI v)] w = some (.inl (some (.int (nI (ocK δ τ c v)))), w) := by
  obtain ⟨v1, v2, v3, v4⟩ := id hV
  obtain ⟨c1, c2, c3⟩ := v3 c hc
  have kd := kd3 hd c2
  obtain ⟨b1, b2, b3, b4, b5, b6, b7, b8⟩ := id hd.1
  obtain ⟨h0, -, -, -, -, -, ⟨c6, h6, k6⟩, -⟩ := id hD
  obtain ⟨N, hN⟩ : ∃ N, g.1 = N + 1 := ⟨g.1 - 1, by omega⟩
  have rc0 : gi w 0 (M + 146 + 1 + c) 0 = some (nI (τ.2 0 c)) := (hC.2 c (by omega)).rc 0 0 rfl (by decide) (by decide)
  have rc1 : gi w 0 (M + 146 + 1 + c) 1 = some (nI (τ.2 1 c)) := (hC.2 c (by omega)).rc 1 1 rfl (by decide) (by decide)
  have rc2 : gi w 0 (M + 146 + 1 + c) 2 = some (nI (τ.2 2 c)) := (hC.2 c (by omega)).rc 2 2 rfl (by decide) (by decide)
  have rr1 := hC.1.rd (j := c) (by omega) (by decide)
  have rb : gi w 0 (M + 115 + 1 + τ.2 1 c) 0 = some (nI (δ.2 8 (τ.2 1 c))) := by rw [(h6.2 _ (by omega)).rc 0 0 rfl (by decide) (by decide), (k6 _ c2).1]
  have rr2 := h6.1.rd (j := τ.2 1 c) (by omega) (by decide)
  have m1 := nI_eq (a := τ.2 2 c) (b := v) (by omega) (by omega)
  have fin : ∀ o : Option Nat, (∀ j, o = some j → j < τ.1 1) → ∀ F, jX11_oddsOf g (F + 2) 3 [] [some (.ref M), some (.int (nI c)), some (.int (nI v)), some (.int (oV (fun j => τ.2 4 j) o)), some (.int (zV (fun j => τ.2 6 j) o)), none] w = some (.inl (some (.int (nI (match o with
    | none => if τ.2 2 c = v then 16 else 0
    | some j => if τ.2 2 c = v then 16 - τ.2 6 j else if τ.2 2 c = τ.2 4 j then τ.2 6 j else 0)))), w) := fun o ho F => by
    cases o with
    | none =>
      have nn := nI_nn (y := τ.2 2 c) (by omega)
      by_cases y : τ.2 2 c = v
      · simp only [y, if_true]
        rw [y] at rc2
        simp [jX11_oddsOf, bX11_oddsOf_0, bX11_oddsOf_1, bX11_oddsOf_2, bX11_oddsOf_3, bX11_oddsOf_4, i_aaload, i_aload, i_getf, i_iaload, i_iceq, i_icge, i_icne, i_ifne, i_iinc, i_iload, i_ireturn, i_istore, i_isub, i_jmp, i_push, msk, lset1, lset2, clr, Value.category, Option.toList, List.cons_append, List.nil_append, List.length_cons, List.length_nil, gf_eq hO, mg_36, rr1, va_rf, rc2, oV, zV, (show nI 16 = 16 from rfl)]
      · simp only [y, if_false]
        simp [jX11_oddsOf, bX11_oddsOf_0, bX11_oddsOf_1, bX11_oddsOf_2, bX11_oddsOf_3, bX11_oddsOf_4, i_aaload, i_aload, i_getf, i_iaload, i_iceq, i_icge, i_icne, i_ifne, i_iinc, i_iload, i_ireturn, i_istore, i_isub, i_jmp, i_push, msk, lset1, lset2, clr, Value.category, Option.toList, List.cons_append, List.nil_append, List.length_cons, List.length_nil, gf_eq hO, mg_36, rr1, va_rf, rc2, oV, zV, mt m1.mp y, nn, nI_0]
    | some j =>
      have lj := ho j rfl
      obtain ⟨j1, j2, j3, j4, j5, j6⟩ := v4 j lj
      have m3 := nI_eq (a := τ.2 2 c) (b := τ.2 4 j) (by omega) (by omega)
      by_cases y : τ.2 2 c = v
      · have e16 : (16 : Int32) - nI (τ.2 6 j) = nI (16 - τ.2 6 j) := pk_sub (a := 16) (b := τ.2 6 j) (by omega)
        simp only [y, if_true]
        rw [y] at rc2
        simp [jX11_oddsOf, bX11_oddsOf_0, bX11_oddsOf_1, bX11_oddsOf_2, bX11_oddsOf_3, bX11_oddsOf_4, i_aaload, i_aload, i_getf, i_iaload, i_iceq, i_icge, i_icne, i_ifne, i_iinc, i_iload, i_ireturn, i_istore, i_isub, i_jmp, i_push, msk, lset1, lset2, clr, Value.category, Option.toList, List.cons_append, List.nil_append, List.length_cons, List.length_nil, gf_eq hO, mg_36, rr1, va_rf, rc2, oV, zV, e16]
      · simp only [y, if_false]
        by_cases y2 : τ.2 2 c = τ.2 4 j
        · simp only [y2, if_true]
          have y' : ¬ nI (τ.2 4 j) = nI v := by rw [← y2]; exact mt m1.mp y
          rw [y2] at rc2
          simp [jX11_oddsOf, bX11_oddsOf_0, bX11_oddsOf_1, bX11_oddsOf_2, bX11_oddsOf_3, bX11_oddsOf_4, i_aaload, i_aload, i_getf, i_iaload, i_iceq, i_icge, i_icne, i_ifne, i_iinc, i_iload, i_ireturn, i_istore, i_isub, i_jmp, i_push, msk, lset1, lset2, clr, Value.category, Option.toList, List.cons_append, List.nil_append, List.length_cons, List.length_nil, gf_eq hO, mg_36, rr1, va_rf, rc2, oV, zV, y']
        · simp only [y2, if_false]
          simp [jX11_oddsOf, bX11_oddsOf_0, bX11_oddsOf_1, bX11_oddsOf_2, bX11_oddsOf_3, bX11_oddsOf_4, i_aaload, i_aload, i_getf, i_iaload, i_iceq, i_icge, i_icne, i_ifne, i_iinc, i_iload, i_ireturn, i_istore, i_isub, i_jmp, i_push, msk, lset1, lset2, clr, Value.category, Option.toList, List.cons_append, List.nil_append, List.length_cons, List.length_nil, gf_eq hO, mg_36, rr1, va_rf, rc2, oV, zV, mt m1.mp y, mt m3.mp y2, nI_0]
  unfold ocK hbK
  by_cases z : δ.2 8 (τ.2 1 c) = 0
  · rw [if_pos z]
    have z1 : nI (δ.2 8 (τ.2 1 c)) = 0 := by rw [z]; exact nI_0
    rw [z1] at rb
    have L := lpF (fun f (s : Lv) => jX11_oddsOf g f 1 [] s w) (fun k => [some (.ref M), some (.int (nI c)), some (.int (nI v)), some (.int (oV (fun j => τ.2 4 j) (lhK τ (τ.2 0 c) v k))), some (.int (zV (fun j => τ.2 6 j) (lhK τ (τ.2 0 c) v k))), some (.int (nI k))]) (some (.inl (some (.int (nI (match lhK τ (τ.2 0 c) v (τ.1 1) with
    | none => if τ.2 2 c = v then 16 else 0
    | some j => if τ.2 2 c = v then 16 - τ.2 6 j else if τ.2 2 c = τ.2 4 j then τ.2 6 j else 0)))), w)) 2 3 (τ.1 1)
      (fun k hk f => by
        refine ⟨f, Nat.le_refl _, ?_⟩
        obtain ⟨j1, j2, j3, j4, j5, j6⟩ := v4 k hk
        have rh0 : gi w 0 (M + 159 + 1 + k) 0 = some (nI (τ.2 3 k)) := (hH.2 k (by omega)).rc 0 0 rfl (by decide) (by decide)
        have rh1 : gi w 0 (M + 159 + 1 + k) 1 = some (nI (τ.2 4 k)) := (hH.2 k (by omega)).rc 1 1 rfl (by decide) (by decide)
        have rh2 : gi w 0 (M + 159 + 1 + k) 2 = some (nI (τ.2 5 k)) := (hH.2 k (by omega)).rc 2 2 rfl (by decide) (by decide)
        have rh3 : gi w 0 (M + 159 + 1 + k) 3 = some (nI (τ.2 6 k)) := (hH.2 k (by omega)).rc 3 3 rfl (by decide) (by decide)
        have rr3 := hH.1.rd (j := k) (by omega) (by decide)
        have n1 := nI_eq (a := τ.2 3 k) (b := τ.2 0 c) (by omega) (by omega)
        have n2 := nI_eq (a := τ.2 5 k) (b := v) (by omega) (by omega)
        by_cases y1 : τ.2 3 k = τ.2 0 c
        · by_cases y2 : τ.2 5 k = v
          · have e9 : lhK τ (τ.2 0 c) v (k + 1) = some k := by
              show (if _ then _ else _) = _
              rw [if_pos ⟨y1, y2⟩]
            rw [e9]
            generalize lhK τ (τ.2 0 c) v k = X
            rw [y1] at rh0
            rw [y2] at rh2
            simp [jX11_oddsOf, bX11_oddsOf_0, bX11_oddsOf_1, bX11_oddsOf_2, bX11_oddsOf_3, bX11_oddsOf_4, i_aaload, i_aload, i_getf, i_iaload, i_iceq, i_icge, i_icne, i_ifne, i_iinc, i_iload, i_ireturn, i_istore, i_isub, i_jmp, i_push, msk, lset1, lset2, clr, Value.category, Option.toList, List.cons_append, List.nil_append, List.length_cons, List.length_nil, gf_eq hO, mg_33, mg_24, mg_36, mg_37, hx, nI_ge hk (by omega), rr1, rr2, rr3, va_rf, rc0, rc1, rb, rh0, rh1, rh2, rh3, oV, zV, nI_1]
          · have e9 : lhK τ (τ.2 0 c) v (k + 1) = lhK τ (τ.2 0 c) v k := by
              show (if _ then _ else _) = _
              rw [if_neg (fun q => y2 q.2)]
            rw [e9]
            generalize lhK τ (τ.2 0 c) v k = X
            rw [y1] at rh0
            simp [jX11_oddsOf, bX11_oddsOf_0, bX11_oddsOf_1, bX11_oddsOf_2, bX11_oddsOf_3, bX11_oddsOf_4, i_aaload, i_aload, i_getf, i_iaload, i_iceq, i_icge, i_icne, i_ifne, i_iinc, i_iload, i_ireturn, i_istore, i_isub, i_jmp, i_push, msk, lset1, lset2, clr, Value.category, Option.toList, List.cons_append, List.nil_append, List.length_cons, List.length_nil, gf_eq hO, mg_33, mg_24, mg_36, mg_37, hx, nI_ge hk (by omega), rr1, rr2, rr3, va_rf, rc0, rc1, rb, rh0, rh2, mt n2.mp y2, nI_1]
        · have e9 : lhK τ (τ.2 0 c) v (k + 1) = lhK τ (τ.2 0 c) v k := by
            show (if _ then _ else _) = _
            rw [if_neg (fun q => y1 q.1)]
          rw [e9]
          generalize lhK τ (τ.2 0 c) v k = X
          simp [jX11_oddsOf, bX11_oddsOf_0, bX11_oddsOf_1, bX11_oddsOf_2, bX11_oddsOf_3, bX11_oddsOf_4, i_aaload, i_aload, i_getf, i_iaload, i_iceq, i_icge, i_icne, i_ifne, i_iinc, i_iload, i_ireturn, i_istore, i_isub, i_jmp, i_push, msk, lset1, lset2, clr, Value.category, Option.toList, List.cons_append, List.nil_append, List.length_cons, List.length_nil, gf_eq hO, mg_33, mg_24, mg_36, mg_37, hx, nI_ge hk (by omega), rr1, rr2, rr3, va_rf, rc0, rc1, rb, rh0, mt n1.mp y1, nI_1])
      (fun f => by
        rw [← fin _ (fun j hj => lhK_lt hj) f]
        generalize lhK τ (τ.2 0 c) v (τ.1 1) = X
        rw [show f + 3 = (f + 2) + 1 from rfl]
        generalize f + 2 = F
        simp [jX11_oddsOf, bX11_oddsOf_0, bX11_oddsOf_1, bX11_oddsOf_2, bX11_oddsOf_3, bX11_oddsOf_4, i_aaload, i_aload, i_getf, i_iaload, i_iceq, i_icge, i_icne, i_ifne, i_iinc, i_iload, i_ireturn, i_istore, i_isub, i_jmp, i_push, msk, lset1, lset2, clr, Value.category, Option.toList, List.cons_append, List.nil_append, List.length_cons, List.length_nil, gf_eq hO, mg_33, hx])
    refine Eq.trans ?_ (L N (by omega))
    simp [fX11_oddsOf, kX11_oddsOf, ent, entp, jX11_oddsOf, bX11_oddsOf_0, bX11_oddsOf_1, bX11_oddsOf_2, bX11_oddsOf_3, bX11_oddsOf_4, i_aaload, i_aload, i_getf, i_iaload, i_iceq, i_icge, i_icne, i_ifne, i_iinc, i_iload, i_ireturn, i_istore, i_isub, i_jmp, i_push, msk, lset1, lset2, clr, Value.category, Option.toList, List.cons_append, List.nil_append, List.length_cons, List.length_nil, hN, nI_0, lhK, oV, zV]
  · rw [if_neg z]
    have z1 := nI_ne0 (n := δ.2 8 (τ.2 1 c)) (by omega) (by omega)
    obtain ⟨N2, hN2⟩ : ∃ N, g.1 = N + 4 := ⟨g.1 - 4, by omega⟩
    rw [← fin none (fun j hj => by cases hj) N2]
    have e33 : ∀ F, jX11_oddsOf g (F + 1) 1 [] [some (.ref M), some (.int (nI c)), some (.int (nI v)), some (.int (-1)), some (.int 0), some (.int 0)] w = jX11_oddsOf g F 3 [] [some (.ref M), some (.int (nI c)), some (.int (nI v)), some (.int (-1)), some (.int 0), none] w := fun F => by
      by_cases y : nI (τ.1 1) ≤ 0
      · simp [jX11_oddsOf, bX11_oddsOf_0, bX11_oddsOf_1, bX11_oddsOf_2, bX11_oddsOf_3, bX11_oddsOf_4, i_aaload, i_aload, i_getf, i_iaload, i_iceq, i_icge, i_icne, i_ifne, i_iinc, i_iload, i_ireturn, i_istore, i_isub, i_jmp, i_push, msk, lset1, lset2, clr, Value.category, Option.toList, List.cons_append, List.nil_append, List.length_cons, List.length_nil, gf_eq hO, mg_33, hx, y]
      · simp [jX11_oddsOf, bX11_oddsOf_0, bX11_oddsOf_1, bX11_oddsOf_2, bX11_oddsOf_3, bX11_oddsOf_4, i_aaload, i_aload, i_getf, i_iaload, i_iceq, i_icge, i_icne, i_ifne, i_iinc, i_iload, i_ireturn, i_istore, i_isub, i_jmp, i_push, msk, lset1, lset2, clr, Value.category, Option.toList, List.cons_append, List.nil_append, List.length_cons, List.length_nil, gf_eq hO, mg_33, mg_24, mg_36, hx, y, rr1, rr2, va_rf, rc1, rb, z1]
    have e := e33 (N2 + 2)
    simp only [oV, zV]
    rw [← e]
    rw [show N2 + 4 = (N2 + 2 + 1) + 1 from rfl] at hN2
    generalize N2 + 2 + 1 = F at hN2 ⊢
    simp [fX11_oddsOf, kX11_oddsOf, ent, entp, jX11_oddsOf, bX11_oddsOf_0, bX11_oddsOf_1, bX11_oddsOf_2, bX11_oddsOf_3, bX11_oddsOf_4, i_aaload, i_aload, i_getf, i_iaload, i_iceq, i_icge, i_icne, i_ifne, i_iinc, i_iload, i_ireturn, i_istore, i_isub, i_jmp, i_push, msk, lset1, lset2, clr, Value.category, Option.toList, List.cons_append, List.nil_append, List.length_cons, List.length_nil, hN2]
theorem oddsBy_sp {g : GE} (hg : FU g) {w : Mem} {M i : Nat} {x : Nat → Int32} {δ : DE} {τ : TE} (hd : WF δ) (hV : TV δ τ) (hO : MO w M x) (hx2 : x 32 = nI (τ.1 0)) (hx : x 33 = nI (τ.1 1)) (hD : RD w M δ) (hR : RT w M δ (δ.1 6)) (hC : GRD w (M + 146) 12 3 (fun k i => nI (τ.2 i k))) (hH : GRD w (M + 159) 8 4 (fun k i => nI (τ.2 (3 + i) k))) (hi : i < nR δ) : fX11_oddsBy g [.ref M, .int (nI i)] w = some (.inl (some (.long (lN (odK δ τ i)))), w) := by
  obtain ⟨v1, v2, v3, v4⟩ := id hV
  obtain ⟨b1, b2, b3, b4, b5, b6, b7, b8⟩ := id hd.1
  obtain ⟨N, hN⟩ : ∃ N, g.1 = N + 1 := ⟨g.1 - 1, by omega⟩
  have L := lpF (fun f (s : Lv) => jX11_oddsBy g f 1 [] s w) (fun k => [some (.ref M), some (.int (nI i)), some (.long (lN (prQ (fun c => ocK δ τ c (δ.2 (20 + τ.2 1 c) (dgR δ i (τ.2 1 c)))) k))), none, some (.int (nI k))]) (some (.inl (some (.long (lN (odK δ τ i)))), w)) 1 1 (τ.1 0)
    (fun k hk f => by
      refine ⟨f, Nat.le_refl _, ?_⟩
      obtain ⟨c1, c2, c3⟩ := v3 k hk
      have rc1 : gi w 0 (M + 146 + 1 + k) 1 = some (nI (τ.2 1 k)) := (hC.2 k (by omega)).rc 1 1 rfl (by decide) (by decide)
      have rr1 := hC.1.rd (j := k) (by omega) (by decide)
      have s1 := rshows_sp hg hd hO hD hR hi c2
      have ld := dgR_lt hd i c2
      have lv : δ.2 (20 + τ.2 1 k) (dgR δ i (τ.2 1 k)) < 100 := by
        rcases (hd.2.2.2.1 _ c2).2.2.2.2.1 _ ld with ⟨_, q⟩ | ⟨_, q⟩ | ⟨_, q⟩ <;> omega
      have o1 := roddsOf_sp hg (c := k) hd hV hO hx hD hC hH hk lv
      have lo := ocK_le hV k (δ.2 (20 + τ.2 1 k) (dgR δ i (τ.2 1 k)))
      have eo := nI_l (n := ocK δ τ k (δ.2 (20 + τ.2 1 k) (dgR δ i (τ.2 1 k)))) (by omega)
      have em := lN_mul (prQ (fun c => ocK δ τ c (δ.2 (20 + τ.2 1 c) (dgR δ i (τ.2 1 c)))) k) (ocK δ τ k (δ.2 (20 + τ.2 1 k) (dgR δ i (τ.2 1 k))))
      have e9 : prQ (fun c => ocK δ τ c (δ.2 (20 + τ.2 1 c) (dgR δ i (τ.2 1 c)))) (k + 1) = prQ (fun c => ocK δ τ c (δ.2 (20 + τ.2 1 c) (dgR δ i (τ.2 1 c)))) k * ocK δ τ k (δ.2 (20 + τ.2 1 k) (dgR δ i (τ.2 1 k))) := rfl
      rw [e9]
      generalize prQ (fun c => ocK δ τ c (δ.2 (20 + τ.2 1 c) (dgR δ i (τ.2 1 c)))) k = X at em ⊢
      simp [jX11_oddsBy, bX11_oddsBy_0, bX11_oddsBy_1, i_aaload, i_aload, i_getf, i_i2l, i_iaload, i_icge, i_iinc, i_iload, i_istore, i_jmp, i_lload, i_lmul, i_lreturn, i_lstore, i_push, msk, lset1, lset2, clr, Value.category, Option.toList, List.cons_append, List.nil_append, List.length_cons, List.length_nil, gf_eq hO, mg_32, mg_36, hx2, nI_ge hk (by omega), rr1, va_rf, rc1, cvk_2 hO s1, cvk_2 hO o1, eo, em, nI_1])
    (fun f => by
      have e9 : prQ (fun c => ocK δ τ c (δ.2 (20 + τ.2 1 c) (dgR δ i (τ.2 1 c)))) (τ.1 0) = odK δ τ i := rfl
      rw [e9]
      simp [jX11_oddsBy, bX11_oddsBy_0, bX11_oddsBy_1, i_aaload, i_aload, i_getf, i_i2l, i_iaload, i_icge, i_iinc, i_iload, i_istore, i_jmp, i_lload, i_lmul, i_lreturn, i_lstore, i_push, msk, lset1, lset2, clr, Value.category, Option.toList, List.cons_append, List.nil_append, List.length_cons, List.length_nil, gf_eq hO, mg_32, hx2])
  rw [← L N (by omega)]
  simp [fX11_oddsBy, kX11_oddsBy, ent, entp, jX11_oddsBy, bX11_oddsBy_0, bX11_oddsBy_1, i_aaload, i_aload, i_getf, i_i2l, i_iaload, i_icge, i_iinc, i_iload, i_istore, i_jmp, i_lload, i_lmul, i_lreturn, i_lstore, i_push, msk, lset1, lset2, clr, Value.category, Option.toList, List.cons_append, List.nil_append, List.length_cons, List.length_nil, hN, nI_0, prQ, (show lN 1 = 1 from rfl)]
theorem odds_r {g : GE} {w : Mem} {M fed kept : Nat} {fp : Int32} {tp : Nat → Int32} {rf : Nat → Nat} {δ : DE} {τ : TE} {im : Nat → TE} {x : Nat → Int32} (hV : TV δ τ) (hg : FU g) (hd : WF δ) (hI : RI w M fed kept fp tp rf δ τ im x) (x0 : Int32) : RQo w M fed kept fp tp rf δ τ im (fX11_odds g [.ref M, .int x0] w) (oddsO δ τ x0) := by
  obtain ⟨w0, hw0, I0, F0⟩ := hI.t0
  obtain ⟨b1, b2, b3, b4, b5, b6, b7, b8⟩ := id hd.1
  obtain ⟨hO, hXO, hRK, hRZ, hrf⟩ := id I0
  obtain ⟨x1', x3', x27, x32, x33, x34⟩ := id hXO
  obtain ⟨hTp, hD, hR, hCp, hHb, hKp, hRP⟩ := id hRK
  have hn := nR_le hd
  have x0' : (va_up x 0 0) 0 = 0 := va_up_self _ _ _
  obtain ⟨N, hN⟩ : ∃ N, g.1 = N + 16 := ⟨g.1 - 16, by omega⟩
  unfold oddsO
  have q0 := isReading_sp hg hO x27 hn x0
  cases h0 : rng x0 (nR δ) with
  | none =>
    rw [h0] at q0
    simp only [bI, Option.isSome, Bool.false_eq_true, if_false] at q0
    obtain ⟨w1, p1, p2, p3⟩ := bad1_sp hg I0 x0' (c := 1) (r := 0) (C := 1) (R := 0) rfl rfl (by decide) (by decide)
    refine RQo.no (v := .long 0) F0 p2 ?_ p3
    simp [fX11_odds, kX11_odds, ent, entp, jX11_odds, bX11_odds_0, bX11_odds_1, i_aload, i_ifeq, i_ifne, i_iload, i_jmp, i_lreturn, i_push, i_putf, msk, lset1, lset2, clr, Value.category, Option.toList, List.cons_append, List.nil_append, List.length_cons, List.length_nil, hN, st_0 hI.1, hw0, cvk_1 hO q0, cvk_3 hO p1]
  | some n0 =>
    rw [h0] at q0
    simp only [bI, Option.isSome, if_true] at q0
    obtain ⟨l0, e0⟩ := rng_some (by omega) h0
    subst e0
    dsimp only
    have o1 := oddsBy_sp hg hd hV hO x32 x33 hD hR hCp hHb l0
    refine RQo.ok F0 I0 x0' ?_ (Fr.rf _ _)
    simp [fX11_odds, kX11_odds, ent, entp, jX11_odds, bX11_odds_0, bX11_odds_1, i_aload, i_ifeq, i_ifne, i_iload, i_jmp, i_lreturn, i_push, i_putf, msk, lset1, lset2, clr, Value.category, Option.toList, List.cons_append, List.nil_append, List.length_cons, List.length_nil, hN, st_0 hI.1, hw0, cvk_1 hO q0, cvk_3 hO (bad0_sp hg hO x0' 1 0), cvk_1 hO o1]
