/-! ===== groups in the class ===== -/
theorem bt_b : ∀ m, m < 256 → ∀ b, b < 8 → ((nI m >>> (nI b &&& 31) &&& 1 = 1) ↔ m.testBit b = true) := sh_b
theorem groupsBy_sp {g : GE} (hg : FU g) {w : Mem} {tb E D aM aS aG n1 lev : Nat} {δ : DE} (hd : WF δ) (hD : DEED g w D δ) (hG : GT g w tb E D δ (δ.1 6) aM aS aG n1 lev) {set : Nat} (hs : set < 256) : fX7_groupsBy g [.ref tb, .int (nI set)] w = some (.inl (some (.int (nI (gsR δ set)))), w) := by
  have hT := hG.tb
  obtain ⟨b1, b2, b3, b4, b5, b6, b7, b8⟩ := id hd.1
  obtain ⟨d0, -, -, -, -, -, -, -, -, d9, -, dbl, -⟩ := id hD
  obtain ⟨N, hN⟩ : ∃ N, g.1 = N + 1 := ⟨g.1 - 1, by omega⟩
  have L := lpF (fun f (s : Lv) => jX7_groupsBy g f 1 [] s w) (fun k => [some (.ref tb), some (.int (nI set)), some (.int (nI (gsK δ set k))), some (.int (nI k))]) (some (.inl (some (.int (nI (gsR δ set)))), w)) 2 1 (δ.1 3)
    (fun k hk f => by
      refine ⟨f, Nat.le_refl _, ?_⟩
      have m := bt_b set hs k (by omega)
      have e9 := dbl k (by omega)
      by_cases z : set.testBit k = true
      · have a1 : gsK δ set (k + 1) = gsK δ set k * δ.2 10 k := by
          show (if _ then _ else _) = _
          rw [if_pos z]
        rw [a1]
        have m1 := m.mpr z
        have pm := pk_mul (gsK δ set k) (δ.2 10 k)
        generalize gsK δ set k = X at pm ⊢
        simp [jX7_groupsBy, bX7_groupsBy_0, bX7_groupsBy_1, bX7_groupsBy_2, i_aaload, i_aload, i_getf, i_iand, i_icge, i_icne, i_iinc, i_iload, i_imul, i_ireturn, i_ishr, i_istore, i_jmp, i_push, msk, lset1, lset2, clr, Value.category, Option.toList, List.cons_append, List.nil_append, List.length_cons, List.length_nil, gf_eq hT, gf_eq d0, nI_ge hk (by omega), m1, d9.rd (j := k) (by omega) (by decide), va_rf, gf_eq e9, pm, nI_1]
      · have a1 : gsK δ set (k + 1) = gsK δ set k := by
          show (if _ then _ else _) = _
          rw [if_neg z]
        rw [a1]
        have m1 := mt m.mp z
        generalize gsK δ set k = X
        simp [jX7_groupsBy, bX7_groupsBy_0, bX7_groupsBy_1, bX7_groupsBy_2, i_aaload, i_aload, i_getf, i_iand, i_icge, i_icne, i_iinc, i_iload, i_imul, i_ireturn, i_ishr, i_istore, i_jmp, i_push, msk, lset1, lset2, clr, Value.category, Option.toList, List.cons_append, List.nil_append, List.length_cons, List.length_nil, gf_eq hT, gf_eq d0, nI_ge hk (by omega), m1, nI_1])
    (fun f => by
      show jX7_groupsBy g (f + 1) 1 [] [some (.ref tb), some (.int (nI set)), some (.int (nI (gsR δ set))), some (.int (nI (δ.1 3)))] w = _
      generalize gsR δ set = X
      simp [jX7_groupsBy, bX7_groupsBy_0, bX7_groupsBy_1, bX7_groupsBy_2, i_aaload, i_aload, i_getf, i_iand, i_icge, i_icne, i_iinc, i_iload, i_imul, i_ireturn, i_ishr, i_istore, i_jmp, i_push, msk, lset1, lset2, clr, Value.category, Option.toList, List.cons_append, List.nil_append, List.length_cons, List.length_nil, gf_eq hT, gf_eq d0])
  rw [← L N (by omega)]
  simp [fX7_groupsBy, kX7_groupsBy, ent, entp, jX7_groupsBy, bX7_groupsBy_0, bX7_groupsBy_1, bX7_groupsBy_2, i_aaload, i_aload, i_getf, i_iand, i_icge, i_icne, i_iinc, i_iload, i_imul, i_ireturn, i_ishr, i_istore, i_jmp, i_push, msk, lset1, lset2, clr, Value.category, Option.toList, List.cons_append, List.nil_append, List.length_cons, List.length_nil, hN, nI_0, gsK, (show nI 1 = 1 from rfl)]
theorem groupOf_sp {g : GE} (hg : FU g) {w : Mem} {tb E D aM aS aG n1 lev : Nat} {δ : DE} (hd : WF δ) (hD : DEED g w D δ) (hG : GT g w tb E D δ (δ.1 6) aM aS aG n1 lev) {set i : Nat} (hs : set < 256) (hi : i < nR δ) : fX7_groupOf g [.ref tb, .int (nI i), .int (nI set)] w = some (.inl (some (.int (nI (gpR δ set i)))), w) := by
  have hT := hG.tb
  obtain ⟨b1, b2, b3, b4, b5, b6, b7, b8⟩ := id hd.1
  obtain ⟨d0, -, -, -, -, -, -, -, -, d9, -, dbl, -⟩ := id hD
  obtain ⟨N, hN⟩ : ∃ N, g.1 = N + 1 := ⟨g.1 - 1, by omega⟩
  have L := lpF (fun f (s : Lv) => jX7_groupOf g f 1 [] s w) (fun k => [some (.ref tb), some (.int (nI i)), some (.int (nI set)), some (.int (nI (gpK δ set (dgR δ i) k))), some (.int (nI k))]) (some (.inl (some (.int (nI (gpR δ set i)))), w)) 2 1 (δ.1 3)
    (fun k hk f => by
      refine ⟨f, Nat.le_refl _, ?_⟩
      have m := bt_b set hs k (by omega)
      have e9 := dbl k (by omega)
      have o1 := tdigit_sp hd hG hi hk
      by_cases z : set.testBit k = true
      · have a1 : gpK δ set (dgR δ i) (k + 1) = gpK δ set (dgR δ i) k * δ.2 10 k + dgR δ i k := by
          show (if _ then _ else _) = _
          rw [if_pos z]
        rw [a1]
        have m1 := m.mpr z
        have pm := pk_mul (gpK δ set (dgR δ i) k) (δ.2 10 k)
        have pa := nI_add (gpK δ set (dgR δ i) k * δ.2 10 k) (dgR δ i k)
        generalize gpK δ set (dgR δ i) k = X at pm pa ⊢
        simp [jX7_groupOf, bX7_groupOf_0, bX7_groupOf_1, bX7_groupOf_2, i_aaload, i_aload, i_getf, i_iadd, i_iand, i_icge, i_icne, i_iinc, i_iload, i_imul, i_ireturn, i_ishr, i_istore, i_jmp, i_push, msk, lset1, lset2, clr, Value.category, Option.toList, List.cons_append, List.nil_append, List.length_cons, List.length_nil, gf_eq hT, gf_eq d0, nI_ge hk (by omega), m1, d9.rd (j := k) (by omega) (by decide), va_rf, gf_eq e9, pm, cvk_2 hT o1, pa, nI_1]
      · have a1 : gpK δ set (dgR δ i) (k + 1) = gpK δ set (dgR δ i) k := by
          show (if _ then _ else _) = _
          rw [if_neg z]
        rw [a1]
        have m1 := mt m.mp z
        generalize gpK δ set (dgR δ i) k = X
        simp [jX7_groupOf, bX7_groupOf_0, bX7_groupOf_1, bX7_groupOf_2, i_aaload, i_aload, i_getf, i_iadd, i_iand, i_icge, i_icne, i_iinc, i_iload, i_imul, i_ireturn, i_ishr, i_istore, i_jmp, i_push, msk, lset1, lset2, clr, Value.category, Option.toList, List.cons_append, List.nil_append, List.length_cons, List.length_nil, gf_eq hT, gf_eq d0, nI_ge hk (by omega), m1, nI_1])
    (fun f => by
      show jX7_groupOf g (f + 1) 1 [] [some (.ref tb), some (.int (nI i)), some (.int (nI set)), some (.int (nI (gpR δ set i))), some (.int (nI (δ.1 3)))] w = _
      generalize gpR δ set i = X
      simp [jX7_groupOf, bX7_groupOf_0, bX7_groupOf_1, bX7_groupOf_2, i_aaload, i_aload, i_getf, i_iadd, i_iand, i_icge, i_icne, i_iinc, i_iload, i_imul, i_ireturn, i_ishr, i_istore, i_jmp, i_push, msk, lset1, lset2, clr, Value.category, Option.toList, List.cons_append, List.nil_append, List.length_cons, List.length_nil, gf_eq hT, gf_eq d0])
  rw [← L N (by omega)]
  simp [fX7_groupOf, kX7_groupOf, ent, entp, jX7_groupOf, bX7_groupOf_0, bX7_groupOf_1, bX7_groupOf_2, i_aaload, i_aload, i_getf, i_iadd, i_iand, i_icge, i_icne, i_iinc, i_iload, i_imul, i_ireturn, i_ishr, i_istore, i_jmp, i_push, msk, lset1, lset2, clr, Value.category, Option.toList, List.cons_append, List.nil_append, List.length_cons, List.length_nil, hN, nI_0, gpK]
theorem nb8 : ∀ v, v < 8 → vp_nar .byte (nI v) = nI v := by decide +kernel
theorem ob8 : ∀ v, v < 7 → ((nI v - 1).toInt8 + 2).toInt32 = nI (v + 1) := by decide +kernel
theorem GT.ag {g : GE} {w w' : Mem} {tb E D aM aS aG aG' n1 lev : Nat} {δ : DE} (h : GT g w tb E D δ (δ.1 6) aM aS aG n1 lev) (k : Fr (fun a => a = aG) w w') (e : aG' = aG) : GT g w' tb E D δ (δ.1 6) aM aS aG' n1 lev := by
  subst e
  have hA : tb ≠ aG' ∧ aM ≠ aG' ∧ aS ≠ aG' ∧ tb + 3 ≠ aG' := by
    obtain ⟨fM, fS, hT, hM, hS, ⟨t1, t2, t3, t4, t5, t6, t7, t8, t9, t10, t11⟩, -⟩ := id h
    omega
  exact h.fr k hA.1 hA.2.1 hA.2.2.1 hA.2.2.2
/-- the groups are sorted -/
def GRS (w : Mem) (aG nG : Nat) (δ : DE) (set t : Nat) : Prop := gsR δ set ≤ nG ∧ ∃ c, AR 2 w aG nG c ∧ ∀ q, q < gsR δ set → c q = nI (grK δ set t (nR δ) q)
theorem sort2 {g : GE} (hg : FU g) {w : Mem} {tb E D aM aS aG n1 lev : Nat} {δ : DE} {set t nG : Nat} {c : Nat → Int32} (hd : WF δ) (hD : DEED g w D δ) (hDa : D + 35 ≤ tb) (hG : GT g w tb E D δ (δ.1 6) aM aS aG n1 lev) (hs : set < 256) (ht : t < 5) (hc : AR 2 w aG nG c) (hn : gsR δ set ≤ nG) (hnG : nG ≤ 20000) (f : Nat) (hf : 100000 ≤ f) :
    ∃ w', jX7_sortOwners g f 1 [] [some (.ref tb), some (.int (nI set)), some (.int (nI t)), some (.int (nI (gsR δ set))), none, none, none, none] w = some (.inl (some (.int (bI (mxK δ set t (nR δ))))), w') ∧ GRS w' aG nG δ set t ∧ GT g w' tb E D δ (δ.1 6) aM aS aG n1 lev ∧ Fr (fun a => a = aG) w w' := by
  have hnR := nR_le hd
  obtain ⟨b1, b2, b3, b4, b5, b6, b7, b8⟩ := id hd.1
  have hA : tb ≤ aG := by
    obtain ⟨fM, fS, hT, hM, hS, ⟨t1, t2, t3, t4, t5, t6, t7, t8, t9, t10, t11⟩, -⟩ := id hG
    omega
  have kp : ∀ u, Fr (fun a => a = aG) w u → GT g u tb E D δ (δ.1 6) aM aS aG n1 lev ∧ DEED g u D δ := fun u hu => ⟨hG.ag hu rfl, hD.fr hu (fun i hi => by omega)⟩
  have lgs := gsR_le hd set
  have L3 : ∀ u, Fr (fun a => a = aG) w u → (∃ c, AR 2 u aG nG c ∧ ∀ q, q < gsR δ set → c q = 0) → ∀ F, 2 * nR δ + 1 ≤ F → ∃ w', jX7_sortOwners g F 3 [] [some (.ref tb), some (.int (nI set)), some (.int (nI t)), none, some (.int 0), some (.int 0), none, none] u = some (.inl (some (.int (bI (mxK δ set t (nR δ))))), w') ∧ GRS w' aG nG δ set t ∧ Fr (fun a => a = aG) w w' := fun u hu hcu F hF => by
    obtain ⟨c0, hc0, hk0⟩ := hcu
    have L := lpR (fun f (s : Lv × Mem) => jX7_sortOwners g f 3 [] s.1 s.2) (fun k s => s.1 = [some (.ref tb), some (.int (nI set)), some (.int (nI t)), none, some (.int (bI (mxK δ set t k))), some (.int (nI k)), none, none] ∧ (∃ c, AR 2 s.2 aG nG c ∧ ∀ q, q < gsR δ set → c q = nI (grK δ set t k q)) ∧ Fr (fun a => a = aG) w s.2)
      (fun z => ∃ w', z = some (.inl (some (.int (bI (mxK δ set t (nR δ))))), w') ∧ GRS w' aG nG δ set t ∧ Fr (fun a => a = aG) w w') 2 1 (nR δ)
      (fun k s hk hI f => by
        obtain ⟨e1, ⟨c1, e2, e4⟩, e3⟩ := hI
        obtain ⟨hGs, hDs⟩ := kp _ e3
        have hTs := hGs.tb
        have o1 := groupOf_sp hg hd hDs hGs hs hk
        have o2 := ownerOf_sp hd hGs hk ht
        have lg := gpR_lt hd set k
        have lo := owR_le hd k t
        have lq := gr_le hd set t k (gpR δ set k)
        have eb := ob8 (owR δ k t) (by omega)
        have rd : gi s.2 2 aG (nI (gpR δ set k)) = some (nI (grK δ set t k (gpR δ set k))) := by
          rw [e2.rd (by omega) (by omega), e4 _ lg]
        have wr := fun v => e2.wr (j := gpR δ set k) (by omega) (by omega) v
        have mq := nI_eq (a := grK δ set t k (gpR δ set k)) (b := owR δ k t + 1) (by omega) (by omega)
        have em : mxK δ set t (k + 1) = (mxK δ set t k || decide (grK δ set t k (gpR δ set k) ≠ 0 ∧ grK δ set t k (gpR δ set k) ≠ owR δ k t + 1)) := rfl
        have hz : ∀ v : Nat, (grK δ set t (k + 1) (gpR δ set k) = v) → (∃ c, AR 2 (wi s.2 2 aG (gpR δ set k) (nI v)) aG nG c ∧ ∀ q, q < gsR δ set → c q = nI (grK δ set t (k + 1) q)) := fun v hv => by
          refine ⟨_, e2.up _ _, fun q hq => ?_⟩
          by_cases y : q = gpR δ set k
          · subst y; rw [va_up_self, hv]
          · rw [va_up_ne _ _ y, e4 q hq]
            show _ = nI (if gpR δ set k = q then _ else _)
            rw [if_neg (fun z => y z.symm)]
        have eg : grK δ set t (k + 1) (gpR δ set k) = if grK δ set t k (gpR δ set k) = 0 then owR δ k t + 1 else if grK δ set t k (gpR δ set k) = owR δ k t + 1 then grK δ set t k (gpR δ set k) else 7 := by
          show (if gpR δ set k = gpR δ set k then _ else _) = _
          rw [if_pos rfl]
        by_cases y1 : grK δ set t k (gpR δ set k) = 0
        · rw [if_pos y1] at eg
          have nb := nb8 (owR δ k t + 1) (by omega)
          have em' : mxK δ set t (k + 1) = mxK δ set t k := by rw [em]; simp [y1]
          refine Or.inr ⟨f, ([some (.ref tb), some (.int (nI set)), some (.int (nI t)), none, some (.int (bI (mxK δ set t (k + 1)))), some (.int (nI (k + 1))), none, none], wi s.2 2 aG (gpR δ set k) (nI (owR δ k t + 1))), Nat.le_refl _, ⟨rfl, hz _ eg, e3.tr (Fr.wi _ _ _ _ rfl)⟩, ?_⟩
          rw [em']
          rw [y1, nI_0] at rd
          generalize bI (mxK δ set t k) = X at e1 ⊢
          generalize nI (owR δ k t) - 1 = Y at o2 eb
          generalize gpR δ set k = Z at o1 rd wr ⊢
          simp [jX7_sortOwners, bX7_sortOwners_0, bX7_sortOwners_1, bX7_sortOwners_2, bX7_sortOwners_3, bX7_sortOwners_4, i_alen, i_aload, i_baload, i_bastore, i_getf, i_i2b, i_iadd, i_iceq, i_icge, i_ifne, i_iinc, i_iload, i_imul, i_istore, i_jmp, i_max, i_min, i_newarr, i_push, i_putf, i_zreturn, msk, lset1, lset2, clr, Value.category, Option.toList, List.cons_append, List.nil_append, List.length_cons, List.length_nil, e1, gf_eq hTs, nI_ge hk (by omega), cvk_2 hTs o1, cvk_2 hTs o2, eb, rd, nb, wr, nI_1]
        · rw [if_neg y1] at eg
          have ne := nI_ne0 (n := grK δ set t k (gpR δ set k)) (by omega) (by omega)
          by_cases y2 : grK δ set t k (gpR δ set k) = owR δ k t + 1
          · rw [if_pos y2] at eg
            have em' : mxK δ set t (k + 1) = mxK δ set t k := by rw [em]; simp [y2]
            refine Or.inr ⟨f, ([some (.ref tb), some (.int (nI set)), some (.int (nI t)), none, some (.int (bI (mxK δ set t (k + 1)))), some (.int (nI (k + 1))), none, none], s.2), Nat.le_refl _, ⟨rfl, ⟨c1, e2, fun q hq => ?_⟩, e3⟩, ?_⟩
            · rw [e4 q hq]
              by_cases y : gpR δ set k = q
              · subst y; rw [eg]
              · show _ = nI (if gpR δ set k = q then _ else _)
                rw [if_neg y]
            · rw [em']
              rw [y2] at rd ne
              generalize bI (mxK δ set t k) = X at e1 ⊢
              generalize nI (owR δ k t) - 1 = Y at o2 eb
              generalize gpR δ set k = Z at o1 rd
              simp [jX7_sortOwners, bX7_sortOwners_0, bX7_sortOwners_1, bX7_sortOwners_2, bX7_sortOwners_3, bX7_sortOwners_4, i_alen, i_aload, i_baload, i_bastore, i_getf, i_i2b, i_iadd, i_iceq, i_icge, i_ifne, i_iinc, i_iload, i_imul, i_istore, i_jmp, i_max, i_min, i_newarr, i_push, i_putf, i_zreturn, msk, lset1, lset2, clr, Value.category, Option.toList, List.cons_append, List.nil_append, List.length_cons, List.length_nil, e1, gf_eq hTs, nI_ge hk (by omega), cvk_2 hTs o1, cvk_2 hTs o2, eb, rd, ne, nI_1]
          · rw [if_neg y2] at eg
            have em' : mxK δ set t (k + 1) = true := by rw [em]; simp [y1, y2]
            have nb : vp_nar .byte 7 = 7 := by decide
            refine Or.inr ⟨f, ([some (.ref tb), some (.int (nI set)), some (.int (nI t)), none, some (.int (bI (mxK δ set t (k + 1)))), some (.int (nI (k + 1))), none, none], wi s.2 2 aG (gpR δ set k) (nI 7)), Nat.le_refl _, ⟨rfl, hz _ eg, e3.tr (Fr.wi _ _ _ _ rfl)⟩, ?_⟩
            rw [em']
            have e7 : nI 7 = 7 := rfl
            rw [e7]
            have nq := mt mq.mp y2
            generalize nI (grK δ set t k (gpR δ set k)) = V at rd ne nq
            generalize bI (mxK δ set t k) = X at e1
            generalize nI (owR δ k t) - 1 = Y at o2 eb
            generalize gpR δ set k = Z at o1 rd wr ⊢
            simp [jX7_sortOwners, bX7_sortOwners_0, bX7_sortOwners_1, bX7_sortOwners_2, bX7_sortOwners_3, bX7_sortOwners_4, i_alen, i_aload, i_baload, i_bastore, i_getf, i_i2b, i_iadd, i_iceq, i_icge, i_ifne, i_iinc, i_iload, i_imul, i_istore, i_jmp, i_max, i_min, i_newarr, i_push, i_putf, i_zreturn, msk, lset1, lset2, clr, Value.category, Option.toList, List.cons_append, List.nil_append, List.length_cons, List.length_nil, e1, gf_eq hTs, nI_ge hk (by omega), cvk_2 hTs o1, cvk_2 hTs o2, eb, rd, ne, nq, nb, wr, bI, nI_1])
      (fun s hI f => by
        obtain ⟨e1, ⟨c1, e2, e4⟩, e3⟩ := hI
        obtain ⟨hGs, hDs⟩ := kp _ e3
        have hTs := hGs.tb
        refine ⟨s.2, ?_, ⟨hn, c1, e2, e4⟩, e3⟩
        cases hm : mxK δ set t (nR δ) with
        | true =>
          rw [hm] at e1
          simp [jX7_sortOwners, bX7_sortOwners_0, bX7_sortOwners_1, bX7_sortOwners_2, bX7_sortOwners_3, bX7_sortOwners_4, i_alen, i_aload, i_baload, i_bastore, i_getf, i_i2b, i_iadd, i_iceq, i_icge, i_ifne, i_iinc, i_iload, i_imul, i_istore, i_jmp, i_max, i_min, i_newarr, i_push, i_putf, i_zreturn, msk, lset1, lset2, clr, Value.category, Option.toList, List.cons_append, List.nil_append, List.length_cons, List.length_nil, e1, gf_eq hTs, bI]
        | false =>
          rw [hm] at e1
          simp [jX7_sortOwners, bX7_sortOwners_0, bX7_sortOwners_1, bX7_sortOwners_2, bX7_sortOwners_3, bX7_sortOwners_4, i_alen, i_aload, i_baload, i_bastore, i_getf, i_i2b, i_iadd, i_iceq, i_icge, i_ifne, i_iinc, i_iload, i_imul, i_istore, i_jmp, i_max, i_min, i_newarr, i_push, i_putf, i_zreturn, msk, lset1, lset2, clr, Value.category, Option.toList, List.cons_append, List.nil_append, List.length_cons, List.length_nil, e1, gf_eq hTs, bI])
    have L1 := L (nR δ) 0 ([some (.ref tb), some (.int (nI set)), some (.int (nI t)), none, some (.int (bI (mxK δ set t 0))), some (.int (nI 0)), none, none], u) (by omega) ⟨rfl, ⟨c0, hc0, fun q hq => by rw [hk0 q hq]; rfl⟩, hu⟩ F hF
    simp only [nI_0, mxK, bI, Bool.false_eq_true, if_false] at L1
    exact L1
  have L2 := lpR (fun f (s : Lv × Mem) => jX7_sortOwners g (f + 50000) 2 [] s.1 s.2) (fun k s => s.1 = [some (.ref tb), some (.int (nI set)), some (.int (nI t)), some (.int (nI (gsR δ set))), some (.int (nI k)), none, none, none] ∧ (∃ c, AR 2 s.2 aG nG c ∧ ∀ q, q < k → c q = 0) ∧ Fr (fun a => a = aG) w s.2)
    (fun z => ∃ w', z = some (.inl (some (.int (bI (mxK δ set t (nR δ))))), w') ∧ GRS w' aG nG δ set t ∧ Fr (fun a => a = aG) w w') 1 1 (gsR δ set)
    (fun k s hk hI f => by
      obtain ⟨e1, ⟨c1, e2, e4⟩, e3⟩ := hI
      obtain ⟨hGs, hDs⟩ := kp _ e3
      have hTs := hGs.tb
      have nb : vp_nar .byte 0 = 0 := by decide
      refine Or.inr ⟨f, ([some (.ref tb), some (.int (nI set)), some (.int (nI t)), some (.int (nI (gsR δ set))), some (.int (nI (k + 1))), none, none, none], wi s.2 2 aG k 0), Nat.le_refl _, ⟨rfl, ⟨_, e2.up k 0, fun q hq => ?_⟩, e3.tr (Fr.wi _ _ _ _ rfl)⟩, ?_⟩
      · by_cases y : q = k
        · subst y; exact va_up_self _ _ _
        · rw [va_up_ne _ _ y]; exact e4 q (by omega)
      · show jX7_sortOwners g (f + 1 + 50000) 2 [] s.1 s.2 = _
        rw [show f + 1 + 50000 = (f + 50000) + 1 from by omega]
        generalize f + 50000 = F
        have ek := nI_ge hk (by omega)
        generalize nI (gsR δ set) = X at e1 ek ⊢
        simp [jX7_sortOwners, bX7_sortOwners_0, bX7_sortOwners_1, bX7_sortOwners_2, bX7_sortOwners_3, bX7_sortOwners_4, i_alen, i_aload, i_baload, i_bastore, i_getf, i_i2b, i_iadd, i_iceq, i_icge, i_ifne, i_iinc, i_iload, i_imul, i_istore, i_jmp, i_max, i_min, i_newarr, i_push, i_putf, i_zreturn, msk, lset1, lset2, clr, Value.category, Option.toList, List.cons_append, List.nil_append, List.length_cons, List.length_nil, e1, ek, gf_eq hTs, nb, e2.wr (j := k) (by omega) (by omega), nI_1])
    (fun s hI f => by
      obtain ⟨e1, ⟨c1, e2, e4⟩, e3⟩ := hI
      obtain ⟨w', q1, q2, q3⟩ := L3 s.2 e3 ⟨c1, e2, e4⟩ (f + 50000) (by omega)
      refine ⟨w', ?_, q2, q3⟩
      rw [← q1]
      show jX7_sortOwners g (f + 1 + 50000) 2 [] s.1 s.2 = _
      rw [show f + 1 + 50000 = (f + 50000) + 1 from by omega]
      generalize f + 50000 = F
      generalize nI (gsR δ set) = X at e1
      simp [jX7_sortOwners, bX7_sortOwners_0, bX7_sortOwners_1, bX7_sortOwners_2, bX7_sortOwners_3, bX7_sortOwners_4, i_alen, i_aload, i_baload, i_bastore, i_getf, i_i2b, i_iadd, i_iceq, i_icge, i_ifne, i_iinc, i_iload, i_imul, i_istore, i_jmp, i_max, i_min, i_newarr, i_push, i_putf, i_zreturn, msk, lset1, lset2, clr, Value.category, Option.toList, List.cons_append, List.nil_append, List.length_cons, List.length_nil, e1])
  obtain ⟨N, hN⟩ : ∃ N, f = (N + 50000) + 1 := ⟨f - 50001, by omega⟩
  obtain ⟨w', q1, q2, q3⟩ := L2 (gsR δ set) 0 ([some (.ref tb), some (.int (nI set)), some (.int (nI t)), some (.int (nI (gsR δ set))), some (.int (nI 0)), none, none, none], w) (by omega) ⟨rfl, ⟨c, hc, fun q hq => by omega⟩, Fr.rf _ _⟩ N (by omega)
  refine ⟨w', ?_, q2, (kp _ q3).1, q3⟩
  simp only [nI_0] at q1
  rw [← q1, hN]
  generalize N + 50000 = F
  generalize nI (gsR δ set) = X
  simp [jX7_sortOwners, bX7_sortOwners_0, bX7_sortOwners_1, bX7_sortOwners_2, bX7_sortOwners_3, bX7_sortOwners_4, i_alen, i_aload, i_baload, i_bastore, i_getf, i_i2b, i_iadd, i_iceq, i_icge, i_ifne, i_iinc, i_iload, i_imul, i_istore, i_jmp, i_max, i_min, i_newarr, i_push, i_putf, i_zreturn, msk, lset1, lset2, clr, Value.category, Option.toList, List.cons_append, List.nil_append, List.length_cons, List.length_nil]
/-- how the room of the groups may grow -/
def GRW (w w' : Mem) (aG aG' nG nG' rows : Nat) : Prop := (aG' = aG ∨ w.2.1 ≤ aG') ∧ w.2.1 ≤ w'.2.1 ∧ w'.2.1 + ge1 nG rows ≤ w.2.1 + ge1 nG' rows ∧ w'.2.2 + 20000 * ge1 nG rows ≤ w.2.2 + 20000 * ge1 nG' rows
theorem GRW.rf {w w' : Mem} {aG nG rows : Nat} (h : w'.2 = w.2) : GRW w w' aG aG nG nG rows := ⟨Or.inl rfl, by rw [h]; exact Nat.le_refl _, by rw [h]; exact Nat.le_refl _, by rw [h]; exact Nat.le_refl _⟩
theorem sortOwners_sp {g : GE} (hg : FU g) {w : Mem} {tb E D aM aS aG n1 lev : Nat} {δ : DE} {set t nG : Nat} {c : Nat → Int32} (hd : WF δ) (hD : DEED g w D δ) (hDa : D + 35 ≤ tb) (hG : GT g w tb E D δ (δ.1 6) aM aS aG n1 lev) (hs : set < 256) (ht : t < 5) (hc : AR 2 w aG nG c) (hnG : nG ≤ 20000) :
    ∃ w' aG' nG', fX7_sortOwners g [.ref tb, .int (nI set), .int (nI t)] w = some (.inl (some (.int (bI (mxK δ set t (nR δ))))), w') ∧ GRS w' aG' nG' δ set t ∧ GT g w' tb E D δ (δ.1 6) aM aS aG' n1 lev ∧ nG' ≤ 20000 ∧ GRW w w' aG aG' nG nG' (δ.1 6) ∧ FA (fun a => a = tb ∨ a = aG) w w' := by
  obtain ⟨b1, b2, b3, b4, b5, b6, b7, b8⟩ := id hd.1
  have lgs := gsR_le hd set
  have q0 := groupsBy_sp hg hd hD hG hs
  have hT := hG.tb
  obtain ⟨N, hN⟩ : ∃ N, g.1 = N + 1 := ⟨g.1 - 1, by omega⟩
  obtain ⟨fc, hfc, -⟩ := id hc
  by_cases z : gsR δ set ≤ nG
  · have z1 : nI (gsR δ set) ≤ Int32.ofNat nG := nI_le z (by omega)
    obtain ⟨w', p1, p2, p3, p4⟩ := sort2 hg hd hD hDa hG hs ht hc z hnG N (by omega)
    refine ⟨w', aG, nG, ?_, p2, p3, hnG, GRW.rf p4.2, p4.fa.tr' fun a h => Or.inr h⟩
    rw [← p1]
    generalize nI (gsR δ set) = X at q0 z1
    simp [fX7_sortOwners, kX7_sortOwners, ent, entp, jX7_sortOwners, bX7_sortOwners_0, bX7_sortOwners_1, bX7_sortOwners_2, bX7_sortOwners_3, bX7_sortOwners_4, i_alen, i_aload, i_baload, i_bastore, i_getf, i_i2b, i_iadd, i_iceq, i_icge, i_ifne, i_iinc, i_iload, i_imul, i_istore, i_jmp, i_max, i_min, i_newarr, i_push, i_putf, i_zreturn, msk, lset1, lset2, clr, Value.category, Option.toList, List.cons_append, List.nil_append, List.length_cons, List.length_nil, hN, cvk_1 hT q0, gf_eq hT, hfc, z1]
  · have z1 : ¬ nI (gsR δ set) ≤ Int32.ofNat nG := nI_ge (by omega) (by omega)
    obtain ⟨fM, fS, hT', hM, hSh, hA, hC, hl, hfm, hrs⟩ := id hG
    obtain ⟨t1, t2, t3, t4, t5, t6, t7, t8, t9, t10, t11⟩ := id hA
    obtain ⟨m1, hm1⟩ : ∃ m, (if nG * 2 < gsR δ set then gsR δ set else nG * 2) = m := ⟨_, rfl⟩
    obtain ⟨m, hm⟩ : ∃ m, (if 20000 < m1 then 20000 else m1) = m := ⟨_, rfl⟩
    have lm1 : gsR δ set ≤ m1 ∧ nG * 2 ≤ m1 ∧ m1 ≤ 40000 := by
      rw [← hm1]
      split <;> omega
    have lm : gsR δ set ≤ m ∧ m ≤ 20000 ∧ (2 * nG ≤ m ∨ 20000 ≤ m) := by
      rw [← hm]
      split <;> omega
    have em1 : (if Int32.ofNat nG * 2 < nI (gsR δ set) then nI (gsR δ set) else Int32.ofNat nG * 2) = nI m1 := by
      have h1 : Int32.ofNat nG * 2 = nI (nG * 2) := pk_mul nG 2
      rw [h1, ← hm1]
      by_cases y : nG * 2 < gsR δ set
      · rw [if_pos y, if_pos (nI_lt y (by omega))]
      · rw [if_neg y, if_neg (nI_nlt (by omega) (by omega))]
    have em2 : (if (20000 : Int32) < nI m1 then (20000 : Int32) else nI m1) = nI m := by
      rw [← hm]
      have h2 : (20000 : Int32) = nI 20000 := rfl
      rw [h2]
      by_cases y : 20000 < m1
      · rw [if_pos y, if_pos (nI_lt y (by omega))]
      · rw [if_neg y, if_neg (nI_nlt (by omega) (by omega))]
    have up := ge1_up (a := nG) (b := m) (r := δ.1 6) (r' := δ.1 6) (by omega) (by omega) lm.2.2
    obtain ⟨w1, hw1⟩ : ∃ q, mnew w (.inl (2, m, zc 2)) m = q := ⟨_, rfl⟩
    have w1a : ∀ q, q ≠ w.2.1 → w1.1 q = w.1 q := fun q hq => by rw [← hw1]; simp [mnew, hq]
    have w1n : w1.1 w.2.1 = some (.inl (2, m, .inl (fun _ => 0))) := by rw [← hw1]; simp [mnew, zc]
    have w12 : w1.2 = (w.2.1 + 1, w.2.2 + m) := by rw [← hw1]; rfl
    have F1 : Fr (fun a => a = w.2.1) (w.1, w1.2) w1 := ⟨fun a h => w1a a h, rfl⟩
    have hT1 : TB w1 tb aM aS aG D (nR δ) (obK δ (δ.1 6)) := (w1a tb (by omega)).trans hT
    obtain ⟨w2, hw2⟩ : ∃ q, mset w1 tb (.inr (7, [.ref aM, .ref aS, .int (nI (nR δ)), .ref (tb + 3), .ref (tb + 4), .ref D, .ref (tb + 5), .int (nI (obK δ (δ.1 6))), .ref (tb + 10), .ref (tb + 11), .ref (tb + 12), .ref w.2.1])) = q := ⟨_, rfl⟩
    have hT2 : TB w2 tb aM aS w.2.1 D (nR δ) (obK δ (δ.1 6)) := hw2 ▸ ms_at _ _ _
    have F2 : Fr (fun a => a = tb) w1 w2 := hw2 ▸ Fr.ms _ _ rfl
    have hc2 : AR 2 w2 w.2.1 m (fun _ => 0) := ⟨fun _ => 0, F2.at w1n (by omega), fun _ _ => rfl⟩
    have F02 : Fr (fun a => a = tb ∨ a = w.2.1) (w.1, w1.2) w2 := (F1.mn fun a h => Or.inr h).tr (F2.mn fun a h => Or.inl h)
    have hM0 : LA (w.1, w1.2) aM n1 fM := hM
    have hS0 : LA (w.1, w1.2) aS n1 fS := hSh
    have hR0 : IA (w.1, w1.2) (tb + 3) 1000 (fun x => nI (rsK δ x (δ.1 6))) := hrs
    have hG2 : GT g w2 tb E D δ (δ.1 6) aM aS w.2.1 n1 lev := ⟨fM, fS, hT2, hM0.fr F02 (by omega), hS0.fr F02 (by omega), ⟨t1, t2, Or.inr t11, t4, by omega, by omega, by rw [F2.2, w12]; show aM < w.2.1 + 1; omega, by rw [F2.2, w12]; show aS < w.2.1 + 1; omega, by rw [F2.2, w12]; show w.2.1 < w.2.1 + 1; omega, t10, by rw [F2.2, w12]; show E ≤ w.2.1 + 1; omega⟩, hC, hl, hfm, hR0.fr F02 (by omega)⟩
    have hD0 : DEED g (w.1, w1.2) D δ := hD
    have hD2 := hD0.fr F02 (fun i hi => by omega)
    obtain ⟨w', p1, p2, p3, p4⟩ := sort2 hg hd hD2 hDa hG2 hs ht hc2 lm.1 lm.2.1 N (by omega)
    have F03 : Fr (fun a => a = tb ∨ a = w.2.1) (w.1, w1.2) w' := F02.tr (p4.mn fun a h => Or.inr h)
    have e2 : w'.2 = (w.2.1 + 1, w.2.2 + m) := by rw [p4.2, F2.2, w12]
    refine ⟨w', w.2.1, m, ?_, p2, p3, lm.2.1, ⟨Or.inr (Nat.le_refl _), by rw [e2]; show w.2.1 ≤ w.2.1 + 1; omega, by rw [e2]; show w.2.1 + 1 + _ ≤ _; omega, by rw [e2]; show w.2.2 + m + _ ≤ _; omega⟩, ⟨fun a ha h => F03.1 a (by omega), by rw [e2]; show w.2.1 ≤ w.2.1 + 1; omega, by rw [e2]; show w.2.2 ≤ w.2.2 + m; omega⟩⟩
    rw [← p1]
    have e1 : (nI m).toNatClampNeg = m := nI_clamp (by omega)
    have e2' : ¬ (nI m < 0) := nI_pos (by omega)
    have e9 : ¬ 1000000 < m := by omega
    generalize nI (gsR δ set) = X at q0 z1 em1
    generalize nI m1 = Y at em1 em2
    simp [fX7_sortOwners, kX7_sortOwners, ent, entp, jX7_sortOwners, bX7_sortOwners_0, bX7_sortOwners_1, bX7_sortOwners_2, bX7_sortOwners_3, bX7_sortOwners_4, i_alen, i_aload, i_baload, i_bastore, i_getf, i_i2b, i_iadd, i_iceq, i_icge, i_ifne, i_iinc, i_iload, i_imul, i_istore, i_jmp, i_max, i_min, i_newarr, i_push, i_putf, i_zreturn, msk, lset1, lset2, clr, Value.category, Option.toList, List.cons_append, List.nil_append, List.length_cons, List.length_nil, hN, cvk_1 hT q0, gf_eq hT, hfc, z1, em1, em2, e1, e2', e9, hw1, sf_a hT1, hw2]
theorem CI.gr {g : GE} {w w' : Mem} {B E fed kept : Nat} {fp : Int32} {tp : Nat → Int32} {rf : Nat → Nat} {δ : DE} {τ : TE} {im : Nat → TE} {lev nG nG' D D' aM aS aG aG' n1 n1' : Nat} (hE : B + 132 ≤ E) (h1 : CC g w B D D' fed kept fp tp rf δ) (h3 : CN w B) (h4 : CL w B) (h5 : CM w B τ im) (hG : GT g w (B + 73) E D δ (δ.1 6) aM aS aG n1 lev) (hX : TX w B aG nG δ) (k : FA (fun a => a = B + 73 ∨ a = aG ∨ a = B + 73 + 12) w w') (hG' : GT g w' (B + 73) E D δ (δ.1 6) aM aS aG' n1' lev) (hg' : ∃ c, AR 2 w' aG' nG' c) (hn : nG' ≤ 20000) (hf : ∃ c, IA w' (B + 73 + 12) 5 c ∧ ∀ t, t < δ.1 1 → c t = -1 ∨ c t = nI (fwK δ t)) : CI g w' B E fed kept fp tp rf δ τ im lev nG' := by
  obtain ⟨fM, fS, hT, hM, hS, ⟨t1, t2, t3, t4, t5, t6, t7, t8, t9, t10, t11⟩, -⟩ := id hG
  have q : ∀ i, i < 132 → i ≠ 73 → i ≠ 85 → i ≠ 86 → ¬ ((B + i = B + 73 ∨ B + i = aG ∨ B + i = B + 73 + 12) ∨ w.2.1 ≤ B + i) := fun i hi a1 a2 a3 => by omega
  have F := k.fr
  obtain ⟨⟨c1, x1⟩, ⟨v, d, c, o, su, tw, x2⟩, ⟨c3, x3⟩, ⟨c4, x4, k4⟩, -, -, -⟩ := hX
  have y0 : CC g (w.1, w'.2) B D D' fed kept fp tp rf δ := h1
  have y3 : CN (w.1, w'.2) B := h3
  have y4 : CL (w.1, w'.2) B := h4
  have y5 : CM (w.1, w'.2) B τ im := h5
  have z1 : IA (w.1, w'.2) (B + 77) 8 c1 := x1
  have z2 : ROW (w.1, w'.2) (B + 78) v d c o su tw := x2
  have z3 : IA (w.1, w'.2) (B + 83) 100 c3 := x3
  have z4 : IA (w.1, w'.2) (B + 84) 9 c4 := x4
  refine ⟨D, D', y0.fr F (fun i hi => q i (by omega) (by omega) (by omega) (by omega)) (q 131 (by decide) (by decide) (by decide) (by decide)), ⟨aM, aS, aG', n1', hG', ⟨c1, z1.fr F (q 77 (by decide) (by decide) (by decide) (by decide))⟩, ⟨v, d, c, o, su, tw, z2.fr F (fun i hi => ?_)⟩, ⟨c3, z3.fr F (q 83 (by decide) (by decide) (by decide) (by decide))⟩, ⟨c4, z4.fr F (q 84 (by decide) (by decide) (by decide) (by decide)), k4⟩, hf, hg', hn⟩, y3.fr F (fun i a1 a2 => q i (by omega) (by omega) (by omega) (by omega)), y4.fr F (fun i a1 a2 => q i (by omega) (by omega) (by omega) (by omega)), y5.fr F (fun i a1 a2 => q i (by omega) (by omega) (by omega) (by omega))⟩
  rw [Nat.add_assoc]
  exact q _ (by omega) (by omega) (by omega) (by omega)
theorem GRW.rm {w w' : Mem} {aG aG' nG nG' rows lev : Nat} (h : GRW w w' aG aG' nG nG' rows) : RM w w' lev lev (ge1 nG rows) (ge1 nG' rows) := by
  obtain ⟨-, -, h1, h2⟩ := h
  exact ⟨Nat.le_refl _, by omega, by omega⟩
