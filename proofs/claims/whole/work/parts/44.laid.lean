/-! ===== laysReadings, whole ===== -/
def RSC (w : Mem) (M : Nat) : Prop := (∃ c, IA w (M + 172) 36 c) ∧ (∃ c, IA w (M + 173) 4 c) ∧ (∃ c, IA w (M + 174) 5 c)
theorem RSC.fr {S : Nat → Prop} {w w1 : Mem} {M : Nat} (h : RSC w M) (k : Fr S w w1) (q : ∀ i, 172 ≤ i → i < 175 → ¬ S (M + i)) : RSC w1 M := by
  obtain ⟨⟨c1, h1⟩, ⟨c2, h2⟩, ⟨c3, h3⟩⟩ := h
  exact ⟨⟨c1, h1.fr k (q 172 (by decide) (by decide))⟩, ⟨c2, h2.fr k (q 173 (by decide) (by decide))⟩, ⟨c3, h3.fr k (q 174 (by decide) (by decide))⟩⟩
theorem getD_app {l : List Nat} {n i : Nat} (h : i < l.length) : (l ++ [n]).getD i 0 = l.getD i 0 := by
  simp [List.getD, List.getElem?_append, h]
theorem getD_last {l : List Nat} {n : Nat} : (l ++ [n]).getD l.length 0 = n := by
  simp [List.getD]
abbrev SL (M : Nat) : Nat → Prop := fun a => a = M ∨ rg (M + 142) (M + 146) a ∨ rg (M + 172) (M + 175) a
theorem laysReadings_sp {g : GE} (hg : FU g) {w : Mem} {M : Nat} {x : Nat → Int32} {δ : DE} (hd : WF δ) (hO : MO w M x) (hD : RD w M δ) (hS : RSC w M) (hT : RT w M δ 0) :
    ∃ w' x', fX11_laysReadings g [.ref M] w = some (.inl none, w') ∧ MO w' M x' ∧ (∀ j, j ≠ 27 → j ≠ 42 → x' j = x j) ∧ x' 27 = nI (rl δ (δ.1 6)).length ∧ RT w' M δ (δ.1 6) ∧ RSC w' M ∧ Fr (SL M) w w' := by
  obtain ⟨b1, b2, b3, b4, b5, b6, b7, b8⟩ := id hd.1
  have L := lpC (fun f (s : Lv × Mem) => jX11_laysReadings g f 1 [] s.1 s.2) (fun i s => s.1 = [some (.ref M), some (.int (nI i)), none] ∧ ∃ x', MO s.2 M x' ∧ (∀ j, j ≠ 27 → j ≠ 42 → x' j = x j) ∧ x' 27 = nI (rl δ i).length ∧ RT s.2 M δ i ∧ RSC s.2 M ∧ Fr (SL M) w s.2) 13 (δ.1 6)
    (fun i s hi hI f => by
      obtain ⟨e1, x1, i1, i2, i3, i4, i5, i6⟩ := hI
      have hDs : RD s.2 M δ := hD.fr i6 (fun j h1 h2 => by unfold SL rg; omega)
      obtain ⟨⟨f0, hf0⟩, ⟨co, hco⟩, ⟨to, hto⟩⟩ := id i5
      obtain ⟨w1, fl, q1, q2, q3, q4⟩ := fills_sp hg (row := i) hd i1 hDs hf0 (by omega)
      have hO1 : MO w1 M x1 := q4.at i1 (by omega)
      have hD1 := hDs.fr q4 (fun j h1 h2 => by omega)
      obtain ⟨w2, p1, p2, p3, p4⟩ := asks_sp hg hd hO1 hD1 q2 (hco.fr q4 (by omega)) (hto.fr q4 (by omega)) (vr_VD hd i) q3 (-1)
      have hD2 := hD1.fr p4 (fun j h1 h2 => by omega)
      have hT2 : RT w2 M δ i := (i4.fr q4 (fun j h1 h2 => by omega)).fr p4 (fun j h1 h2 => by omega)
      obtain ⟨⟨c1, t1, u1⟩, ⟨c2, t2, u2⟩, ⟨c3, t3, u3⟩, ⟨c4, t4, u4⟩⟩ := hT2
      obtain ⟨w3, hw3⟩ : ∃ z, wi w2 0 (M + 143) i (-1) = z := ⟨_, rfl⟩
      have F3 : Fr (fun a => a = M + 143) w2 w3 := hw3 ▸ Fr.wi _ _ _ _ rfl
      have hO3 : MO w3 M (va_up x1 42 (nI (twK δ (-1) (vr δ i) (δ.1 2)))) := F3.at p2 (by omega)
      have hD3 := hD2.fr F3 (fun j h1 h2 => by omega)
      have hQ3 : RQ w3 M δ (-1) (vr δ i) := ⟨p3.1.fr F3 (by omega), p3.2.fr F3 (by omega)⟩
      have r1 := rbroken_sp hg (est := δ.1 4) hd (vr_VD hd i) hO3 (va_up_self _ _ _) hD3 hQ3 (by omega)
      have F03 : Fr (SL M) w w3 := ((i6.tr (q4.mn fun a h => by unfold SL rg; omega)).tr (p4.mn fun a h => by unfold SL rg; omega)).tr (F3.mn fun a h => by unfold SL rg; omega)
      have hS3 : RSC w3 M := ⟨⟨fl, (q2.fr p4 (by omega)).fr F3 (by omega)⟩, ⟨_, hQ3.1⟩, ⟨_, hQ3.2⟩⟩
      have t2' := t2.up i (-1)
      rw [hw3] at t2'
      have hll := rl_le δ i
      have li : i < 20000 := by omega
      have hb7 : br δ i ≤ 7 := br_le δ (-1) (δ.1 4) (vr δ i)
      obtain ⟨h0, -⟩ := id hDs
      have c6 := h0.rc 6 6 rfl (by decide) (by decide)
      obtain ⟨h03, -⟩ := id hD3
      have c4' := h03.rc 4 4 rfl (by decide) (by decide)
      have x27 : (va_up x1 42 (nI (twK δ (-1) (vr δ i) (δ.1 2)))) 27 = nI (rl δ i).length := by rw [va_up_ne _ _ (by decide)]; exact i3
      by_cases z : br δ i = 0
      · have e0 : nI (br δ i) = 0 := by rw [z]; exact nI_0
        obtain ⟨w4, hw4⟩ : ∃ z, wi w3 0 (M + 143) i (nI (rl δ i).length) = z := ⟨_, rfl⟩
        have F4 : Fr (fun a => a = M + 143) w3 w4 := hw4 ▸ Fr.wi _ _ _ _ rfl
        have t2'' := t2'.up i (nI (rl δ i).length)
        rw [hw4, va_up_up] at t2''
        have t14 := (t1.fr F3 (by omega)).fr F4 (by omega)
        obtain ⟨w5, hw5⟩ : ∃ z, wi w4 0 (M + 142) (rl δ i).length (nI i) = z := ⟨_, rfl⟩
        have F5 : Fr (fun a => a = M + 142) w4 w5 := hw5 ▸ Fr.wi _ _ _ _ rfl
        have t15 := t14.up (rl δ i).length (nI i)
        rw [hw5] at t15
        have t45 := ((t4.fr F3 (by omega)).fr F4 (by omega)).fr F5 (by omega)
        obtain ⟨w6, hw6⟩ : ∃ z, wl w5 (M + 145) (rl δ i).length 0 = z := ⟨_, rfl⟩
        have F6 : Fr (fun a => a = M + 145) w5 w6 := hw6 ▸ Fr.wl _ _ _ rfl
        have t46 := t45.up (rl δ i).length 0
        rw [hw6] at t46
        have t36 := (((t3.fr F3 (by omega)).fr F4 (by omega)).fr F5 (by omega)).fr F6 (by omega)
        obtain ⟨w7, hw7⟩ : ∃ z, wi w6 0 (M + 144) (rl δ i).length 0 = z := ⟨_, rfl⟩
        have F7 : Fr (fun a => a = M + 144) w6 w7 := hw7 ▸ Fr.wi _ _ _ _ rfl
        have t37 := t36.up (rl δ i).length 0
        rw [hw7] at t37
        have F37 : Fr (rg (M + 142) (M + 146)) w3 w7 := (((F4.mn fun a h => by unfold rg; omega).tr (F5.mn fun a h => by unfold rg; omega)).tr (F6.mn fun a h => by unfold rg; omega)).tr (F7.mn fun a h => by unfold rg; omega)
        have hO4 := F4.at hO3 (by omega)
        have hO5 := F5.at hO4 (by omega)
        have hO6 := F6.at hO5 (by omega)
        have hO7 := F7.at hO6 (by omega)
        have hQ7 : RQ w7 M δ (-1) (vr δ i) := ⟨hQ3.1.fr F37 (by unfold rg; omega), hQ3.2.fr F37 (by unfold rg; omega)⟩
        have hv := vr_VD hd i
        have hsl := sK_le (s := -1) hd hv (δ.1 2) (Nat.le_refl _)
        obtain ⟨f8, w8, c8, g1, g2, g3, g4, g5, g6⟩ := layC_sp (g := g) (row := i) (f0 := f + 7) hO7 x27 (by omega) hQ7.1 (cc := fun h => cK δ (-1) (vr δ i) (δ.1 2) h) (fun h hh => ⟨rfl, by have := cK_sK (δ := δ) (s := -1) (v := vr δ i) (δ.1 2) h; omega⟩) (t46.fr F7 (by omega)) (va_up_self _ _ _)
        have hO8 := g6.at hO7 (by omega)
        obtain ⟨f9, rfl⟩ : ∃ z, f8 = z + 7 := ⟨f8 - 7, by omega⟩
        obtain ⟨f10, w9, c9, k1, k2, k3, k4, k5, k6, k7⟩ := layO_sp (g := g) (row := i) (f0 := f9) hO8 x27 (by omega) (hQ7.2.fr g6 (by omega)) (oo := fun h => ownK δ (-1) (vr δ i) (δ.1 2) h) (fun h hh => ⟨rfl, by have := ownK_le (s := -1) hd hv (δ.1 2) (Nat.le_refl _) h; omega⟩) (t37.fr g6 (by omega)) (va_up_self _ _ _)
        have erl : rl δ (i + 1) = rl δ i ++ [i] := by show (if br δ i = 0 then _ else _) = _; rw [if_pos z]
        have el : (rl δ (i + 1)).length = (rl δ i).length + 1 := by rw [erl]; simp
        have F39 : Fr (SL M) w3 w9 := ((F37.mn fun a h => Or.inr (Or.inl h)).tr (g6.mn fun a h => by unfold rg; omega)).tr (k7.mn fun a h => by unfold rg; omega)
        have F79 : Fr (fun a => a = M ∨ a = M + 144 ∨ a = M + 145) w7 w9 := (g6.mn fun a h => by omega).tr (k7.mn fun a h => by omega)
        refine ⟨f10, ([some (.ref M), some (.int (nI (i + 1))), none], w9), by omega, ⟨rfl, _, k3, fun j h1 h2 => ?_, ?_, ⟨⟨_, ((t15.fr F6 (by omega)).fr F7 (by omega)).fr F79 (by omega), fun j hj => ?_⟩, ⟨_, (((t2''.fr F5 (by omega)).fr F6 (by omega)).fr F7 (by omega)).fr F79 (by omega), fun j hj => ?_⟩, ⟨_, k4, fun j hj => ?_⟩, ⟨_, g3.fr k7 (by omega), fun j hj => ?_⟩⟩, ?_, F03.tr F39⟩, ?_⟩
        · rw [va_up_ne _ _ h1, va_up_ne _ _ h2]
          exact i2 j h1 h2
        · rw [va_up_self, el]
        · rw [erl]
          by_cases y : j = (rl δ i).length
          · subst y
            rw [va_up_self, getD_last]
          · rw [va_up_ne _ _ y, getD_app (by omega)]
            exact u1 j (by omega)
        · by_cases y : j = i
          · subst y
            rw [va_up_self, if_pos z]
          · rw [va_up_ne _ _ y]
            exact u2 j (by omega)
        · rw [erl]
          by_cases y : j = (rl δ i).length
          · subst y
            rw [k5, getD_last]
          · rw [k6 j y, va_up_ne _ _ y, getD_app (by omega)]
            exact u3 j (by omega)
        · rw [erl]
          by_cases y : j = (rl δ i).length
          · subst y
            rw [g4, getD_last]
          · rw [g5 j y, va_up_ne _ _ y, getD_app (by omega)]
            exact u4 j (by omega)
        · exact (hS3.fr F37 (fun j h1 h2 => by unfold rg; omega)).fr F79 (fun j h1 h2 => by omega)
        · show jX11_laysReadings g (f + 13) 1 [] s.1 s.2 = _
          rw [← k2, ← g2]
          have ef : f + 13 = (f + 7 + 5) + 1 := by omega
          rw [ef]
          generalize f + 7 + 5 = F
          simp [jX11_laysReadings, bX11_laysReadings_0, bX11_laysReadings_1, bX11_laysReadings_2, bX11_laysReadings_3, bX11_laysReadings_4, i_aload, i_dup, i_dup2, i_getf, i_i2l, i_iadd, i_iaload, i_iastore, i_icge, i_ifeq, i_iinc, i_iload, i_imul, i_ior, i_ishl, i_istore, i_jmp, i_laload, i_lastore, i_lor, i_lshl, i_push, i_putf, i_return, msk, lset1, lset2, clr, Value.category, Option.toList, List.cons_append, List.nil_append, List.length_cons, List.length_nil, e1, gf_eq i1, mg_11, mg_29, c6, nI_ge hi (by omega), cvk_1 i1 q1, cvk_1 hO1 p1, gf_eq p2, t2.wr li (by decide), hw3, gf_eq hO3, c4', cvk_1 hO3 r1, e0, mg_27, x27, t2'.wr li (by decide), hw4, gf_eq hO4, mg_28, t14.wr (j := (rl δ i).length) (by omega) (by decide), hw5, gf_eq hO5, mg_31, t45.wr (j := (rl δ i).length) (by omega) (by decide), hw6, gf_eq hO6, mg_30, t36.wr (j := (rl δ i).length) (by omega) (by decide), hw7]
      · have e0 : ¬ nI (br δ i) = 0 := by rw [← nI_0, nI_eq (by omega) (by decide)]; exact z
        have erl : rl δ (i + 1) = rl δ i := by show (if br δ i = 0 then _ else _) = _; rw [if_neg z]
        refine ⟨f + 11, ([some (.ref M), some (.int (nI (i + 1))), none], w3), by omega, ⟨rfl, _, hO3, fun j h1 h2 => ?_, ?_, ⟨⟨c1, t1.fr F3 (by omega), by rw [erl]; exact u1⟩, ⟨_, t2', fun j hj => ?_⟩, ⟨c3, t3.fr F3 (by omega), by rw [erl]; exact u3⟩, ⟨c4, t4.fr F3 (by omega), by rw [erl]; exact u4⟩⟩, hS3, F03⟩, ?_⟩
        · rw [va_up_ne _ _ h2]
          exact i2 j h1 h2
        · rw [erl]
          exact x27
        · by_cases y : j = i
          · subst y
            rw [va_up_self, if_neg z]
          · rw [va_up_ne _ _ y]
            exact u2 j (by omega)
        · show jX11_laysReadings g (f + 13) 1 [] s.1 s.2 = _
          have ef : f + 13 = (f + 11) + 2 := by omega
          rw [ef]
          generalize f + 11 = F
          simp [jX11_laysReadings, bX11_laysReadings_0, bX11_laysReadings_1, bX11_laysReadings_2, bX11_laysReadings_3, bX11_laysReadings_4, i_aload, i_dup, i_dup2, i_getf, i_i2l, i_iadd, i_iaload, i_iastore, i_icge, i_ifeq, i_iinc, i_iload, i_imul, i_ior, i_ishl, i_istore, i_jmp, i_laload, i_lastore, i_lor, i_lshl, i_push, i_putf, i_return, msk, lset1, lset2, clr, Value.category, Option.toList, List.cons_append, List.nil_append, List.length_cons, List.length_nil, e1, gf_eq i1, mg_11, mg_29, c6, nI_ge hi (by omega), cvk_1 i1 q1, cvk_1 hO1 p1, gf_eq p2, t2.wr li (by decide), hw3, gf_eq hO3, c4', cvk_1 hO3 r1, e0, nI_1])
  obtain ⟨w1, hw1⟩ : ∃ z, mset w M (.inr (10, mo M (va_up x 27 0))) = z := ⟨_, rfl⟩
  have hO1 : MO w1 M (va_up x 27 0) := hw1 ▸ ms_at _ _ _
  have F1 : Fr (fun a => a = M) w w1 := hw1 ▸ Fr.ms w _ rfl
  obtain ⟨N, hN⟩ : ∃ N, g.1 = (N + 1 + 13 * δ.1 6) + 1 := ⟨g.1 - (13 * δ.1 6 + 2), by omega⟩
  obtain ⟨f1, s1, h1, ⟨e1, x1, i1, i2, i3, i4, i5, i6⟩, h3⟩ := L (δ.1 6) 0 ([some (.ref M), some (.int (nI 0)), none], w1) (by omega) ⟨rfl, va_up x 27 0, hO1, fun j h1 _ => va_up_ne _ _ h1, by rw [va_up_self]; exact nI_0.symm, hT.fr F1 (fun j h1 h2 => by omega), hS.fr F1 (fun j h1 h2 => by omega), F1.mn fun a h => Or.inl h⟩ (N + 1)
  obtain ⟨f2, rfl⟩ : ∃ z, f1 = z + 1 := ⟨f1 - 1, by omega⟩
  have hDs : RD s1.2 M δ := hD.fr i6 (fun j h1 h2 => by unfold SL rg; omega)
  refine ⟨s1.2, x1, ?_, i1, i2, i3, i4, i5, i6⟩
  simp only [nI_0] at h3
  generalize N + 1 + 13 * δ.1 6 = F at h3 hN
  have e : fX11_laysReadings g [.ref M] w = jX11_laysReadings g F 1 [] [some (.ref M), some (.int 0), none] w1 := by
    simp [fX11_laysReadings, kX11_laysReadings, ent, entp, jX11_laysReadings, bX11_laysReadings_0, bX11_laysReadings_1, bX11_laysReadings_2, bX11_laysReadings_3, bX11_laysReadings_4, i_aload, i_dup, i_dup2, i_getf, i_i2l, i_iadd, i_iaload, i_iastore, i_icge, i_ifeq, i_iinc, i_iload, i_imul, i_ior, i_ishl, i_istore, i_jmp, i_laload, i_lastore, i_lor, i_lshl, i_push, i_putf, i_return, msk, lset1, lset2, clr, Value.category, Option.toList, List.cons_append, List.nil_append, List.length_cons, List.length_nil, hN, st_27 hO, hw1]
  rw [e, h3]
  simp [jX11_laysReadings, bX11_laysReadings_0, bX11_laysReadings_1, bX11_laysReadings_2, bX11_laysReadings_3, bX11_laysReadings_4, i_aload, i_dup, i_dup2, i_getf, i_i2l, i_iadd, i_iaload, i_iastore, i_icge, i_ifeq, i_iinc, i_iload, i_imul, i_ior, i_ishl, i_istore, i_jmp, i_laload, i_lastore, i_lor, i_lshl, i_push, i_putf, i_return, msk, lset1, lset2, clr, Value.category, Option.toList, List.cons_append, List.nil_append, List.length_cons, List.length_nil, e1, gf_eq i1, mg_11, hDs.1.rc 6 6 rfl (by decide) (by decide)]
