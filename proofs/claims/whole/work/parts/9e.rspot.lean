/-! ===== the reference reads: a place ===== -/
theorem AR.uq {t : Nat} {w : Mem} {a n : Nat} {c d : Nat → Int32} (h : AR t w a n c) (k : AR t w a n d) {i : Nat} (hi : i < n) : c i = d i := by
  obtain ⟨f, h1, h2⟩ := h
  obtain ⟨f', k1, k2⟩ := k
  rw [h1] at k1
  cases k1
  rw [← h2 i hi, k2 i hi]
theorem RG.row7 {w : Mem} {M pt q i j : Nat} {v : Int32} {δ : DE} (h : RG w M δ pt q) (hi : δ.1 5 ≤ i) (hi36 : i < 36) : RG (wi w 0 (M + 32 + 1 + i) j v) M δ pt q := by
  have F : Fr (fun q => q = M + 32 + 1 + i) w (wi w 0 (M + 32 + 1 + i) j v) := Fr.wi _ _ _ _ rfl
  obtain ⟨h1, h2, h3, h4, h5, h6, ⟨c, h7, k7⟩, h8, h9⟩ := h
  refine ⟨h1.fr F (by omega), h2.fr F (by omega), h3.fr F (by omega), h4.fr F (by omega), h5.fr F (by omega), h6.fr F fun i z1 z2 => by omega, ⟨_, h7.up (i := i) j v, fun p hp => ?_⟩, h8.fr F fun i z1 z2 => by omega, h9.fr F fun i z1 z2 => by omega⟩
  have : ¬ p = i := by omega
  simp only [this, if_false]
  exact k7 p hp
theorem sp_2 {g : GE} {w : Mem} {M pt q kd v : Nat} {x c : Nat → Int32} {δ : DE} (hO : MO w M x) (hG : RG w M δ pt q) (hP : IA w (M + 32 + 1 + δ.1 5) 3 c) (c0 : c 0 = nI kd) (c1 : bat δ (δ.1 5) (δ.1 3) = none → c 1 = nI v) (h36 : δ.1 5 < 36) (f : Nat) :
    ∃ w', jX11_spotHere g (f + 1) 2 [] [some (.ref M), none, none] w = some (.inl none, w') ∧ MO w' M x ∧ RG w' M (addPl δ kd v) pt q ∧ Fr (SR M) w w' := by
  obtain ⟨⟨c3, h3, e0, e1, e2, e3, e4, e5⟩, g2, g3, g4, g5, g6, ⟨c7, h7, k7⟩, g8, ⟨c9, h9, k9⟩⟩ := hG
  have r35 := h3.rc 5 5 rfl (by decide) (by decide)
  rw [e5] at r35
  have s7 := arwc h3 5 5 rfl (by decide) (by decide) (nI (δ.1 5 + 1))
  have H7 := h3.up 5 (nI (δ.1 5 + 1))
  obtain ⟨w1, hw1⟩ : ∃ z, wi w 0 (M + 3) 5 (nI (δ.1 5 + 1)) = z := ⟨_, rfl⟩
  rw [hw1] at H7 s7
  have F1 : Fr (fun q => q = M + 3) w w1 := hw1 ▸ Fr.wi _ _ _ _ rfl
  refine ⟨w1, ?_, F1.at hO (by omega), ⟨?_, ?_, ?_, ?_, ?_, ?_, ?_, ?_, ?_⟩, F1.mn fun a h => by unfold SR rg; omega⟩
  · simp [jX11_spotHere, bX11_spotHere_0, bX11_spotHere_1, bX11_spotHere_2, i_aaload, i_aload, i_astore, i_dup2, i_getf, i_iadd, i_iaload, i_iastore, i_icne, i_ifeq, i_ifne, i_iload, i_jmp, i_push, i_return, msk, lset1, lset2, clr, Value.category, Option.toList, List.cons_append, List.nil_append, List.length_cons, List.length_nil, gf_eq hO, mg_10, r35, nI_1, s7]
  · exact ⟨_, H7, e0, e1, e2, e3, e4, rfl⟩
  · exact g2.fr F1 (by omega)
  · exact g3.fr F1 (by omega)
  · exact g4.fr F1 (by omega)
  · exact g5.fr F1 (by omega)
  · exact g6.fr F1 fun i z1 z2 => by omega
  · refine ⟨c7, h7.fr F1 (fun i hi => by omega), fun p hp => ?_⟩
    have hp' : p < δ.1 5 + 1 := hp
    have eb : bat (addPl δ kd v) p ((addPl δ kd v).1 3) = bat δ p (δ.1 3) := bat_cg fun j hj => rfl
    rw [eb]
    by_cases z : p = δ.1 5
    · subst z
      have u0 := (h7.2 _ h36).uq hP (i := 0) (by decide)
      have u1 := (h7.2 _ h36).uq hP (i := 1) (by decide)
      rw [u0, u1, c0]
      simp only [addPl, dC_2, dT_2]
      exact ⟨rfl, fun h => by simpa using c1 h⟩
    · have := k7 p (by omega)
      simpa [addPl, dC_2, dT_2, z] using this
  · exact g8.fr F1 fun i z1 z2 => by omega
  · refine ⟨c9, h9.fr F1 (fun i hi => by omega), fun b hb i hi => ?_⟩
    rw [k9 b hb i hi]
    simp only [addPl, dC_2, dT_2, m20_6, m20_7, if_false]
theorem sp_2f {g : GE} {w : Mem} {M n : Nat} {x : Nat → Int32} {e : Nat × Nat} (h : RFt w M x n e) (f : Nat) :
    ∃ w', jX11_spotHere g (f + 1) 2 [] [some (.ref M), none, none] w = some (.inl none, w') ∧ RFt w' M x n e ∧ Fr (SR M) w w' := by
  have h' := h
  obtain ⟨x', hO, -, -, -, -, ⟨⟨c3, h3⟩, -⟩, -⟩ := h'
  have r35 := h3.rc 5 5 rfl (by decide) (by decide)
  have s7 := arwc h3 5 5 rfl (by decide) (by decide) (c3 5 + 1)
  have k := h.wi (A := M + 3) (j := 5) (v := c3 5 + 1) (by omega)
  obtain ⟨w1, hw1⟩ : ∃ z, wi w 0 (M + 3) 5 (c3 5 + 1) = z := ⟨_, rfl⟩
  rw [hw1] at k s7
  have F1 : Fr (fun q => q = M + 3) w w1 := hw1 ▸ Fr.wi _ _ _ _ rfl
  refine ⟨w1, ?_, k, F1.mn fun a h => by unfold SR rg; omega⟩
  simp [jX11_spotHere, bX11_spotHere_0, bX11_spotHere_1, bX11_spotHere_2, i_aaload, i_aload, i_astore, i_dup2, i_getf, i_iadd, i_iaload, i_iastore, i_icne, i_ifeq, i_ifne, i_iload, i_jmp, i_push, i_return, msk, lset1, lset2, clr, Value.category, Option.toList, List.cons_append, List.nil_append, List.length_cons, List.length_nil, gf_eq hO, mg_10, r35, s7]
theorem spotHere_sp {g : GE} (hg : FU g) {w : Mem} {M n a pt q kd : Nat} {x : Nat → Int32} {T : Nat → Nat} {δ : DE} {K : Int32} (hO : MO w M x) (h2 : x 2 = nI n) (h4 : x 4 = nI a) (h5 : x 5 = 0) (hT : TXT w (M + 1) T) (ha : a ≤ n) (hn : n ≤ 600) (hG : RG w M δ pt q) (hQ : PQ δ) (hp36 : δ.1 5 < 36) (hpt : pt = δ.1 2 - 1) (hk : kd ≤ 2) (hK : nI kd = K) :
    ∃ w', fX11_spotHere g [.ref M, .int K] w = some (.inl none, w') ∧ RX w' M x n pt q (placeP T n kd (δ, a)) ∧ Fr (SR M) w w' := by
  obtain ⟨⟨q0, q1, q2, q3, q4, q5⟩, -, -, -, q6, -⟩ := id hQ
  obtain ⟨w1, r1, o1, F1⟩ := blanks_sp hg hO h2 h4 hT ha hn
  have k2 : sb T n a ≤ n := ru_n ha
  have ss : sb T n (sb T n a) = sb T n a := ru_ru ha
  unfold placeP
  generalize sb T n a = s at *
  have g4 : va_up x 4 (nI s) 4 = nI s := va_up_self _ _ _
  have g2 : va_up x 4 (nI s) 2 = nI n := h2
  have g5 : va_up x 4 (nI s) 5 = 0 := h5
  have G1' := hG.fr F1 (fun i h1 h2 => by omega)
  obtain ⟨⟨c3, h3, e0, e1, e2, e3, e4, e5⟩, -, -, -, -, -, ⟨c7, h7, k7⟩, -, -⟩ := id G1'
  have r35 := h3.rc 5 5 rfl (by decide) (by decide)
  rw [e5] at r35
  have r7 := h7.1.rd (j := δ.1 5) hp36 (by decide)
  have P1 := h7.2 _ hp36
  -- three writes into the place
  have s2 := arwc P1 0 0 rfl (by decide) (by decide) K
  have P2 := P1.up 0 K
  have G2' := G1'.row7 (j := 0) (v := K) (Nat.le_refl _) hp36
  obtain ⟨w2, hw2⟩ : ∃ z, wi w1 0 (M + 32 + 1 + δ.1 5) 0 K = z := ⟨_, rfl⟩
  rw [hw2] at s2 P2 G2'
  have F2 : Fr (fun q => q = M + 32 + 1 + δ.1 5) w1 w2 := hw2 ▸ Fr.wi _ _ _ _ rfl
  have s3 := arwc P2 1 1 rfl (by decide) (by decide) 0
  have P3 := P2.up 1 0
  have G3' := G2'.row7 (j := 1) (v := 0) (Nat.le_refl _) hp36
  obtain ⟨w3, hw3⟩ : ∃ z, wi w2 0 (M + 32 + 1 + δ.1 5) 1 0 = z := ⟨_, rfl⟩
  rw [hw3] at s3 P3 G3'
  have F3 : Fr (fun q => q = M + 32 + 1 + δ.1 5) w2 w3 := hw3 ▸ Fr.wi _ _ _ _ rfl
  have s4 := arwc P3 2 2 rfl (by decide) (by decide) (-1)
  have P4 := P3.up 2 (-1)
  have G4' := G3'.row7 (j := 2) (v := -1) (Nat.le_refl _) hp36
  obtain ⟨w4, hw4⟩ : ∃ z, wi w3 0 (M + 32 + 1 + δ.1 5) 2 (-1) = z := ⟨_, rfl⟩
  rw [hw4] at s4 P4 G4'
  have F4 : Fr (fun q => q = M + 32 + 1 + δ.1 5) w3 w4 := hw4 ▸ Fr.wi _ _ _ _ rfl
  have F24 := (F2.tr F3).tr F4
  have o4 := F24.at o1 (by omega)
  have F14 : Fr (SR M) w w4 := (F1.mn (SR_M M)).tr (F24.mn fun a h => by unfold SR rg; omega)
  have T4 := hT.fr F14 (by unfold SR rg; omega)
  have by4 := byteAt_sp hg (i := s) o4 h2 T4 hn (by omega)
  have c40 : va_up (va_up (va_up (c7 (δ.1 5)) 0 K) 1 0) 2 (-1) 0 = nI kd := hK.symm
  generalize va_up (va_up (va_up (c7 (δ.1 5)) 0 K) 1 0) 2 (-1) = cP at *
  by_cases y : s < n ∧ T s = 35
  · show ∃ w', _ ∧ RX w' M x n pt q (if s < n ∧ T s = 35 then blotP T n kd δ s else _) ∧ _
    rw [if_pos y]
    rw [if_pos y.1, y.2] at by4
    have by5 : fX11_byteAt g [.ref M, .int (nI s)] w4 = some (.inl (some (.int 35)), w4) := by4
    clear by4
    obtain ⟨w5, p1, p2, p3⟩ := blots_sp hg o4 g2 g4 g5 T4 y.1 hn G4' hQ hp36 hpt hk hK P4
    obtain ⟨N, hN⟩ : ∃ N, g.1 = (N + 1) + 1 := ⟨g.1 - 2, by omega⟩
    have ev : fX11_spotHere g [.ref M, .int K] w = jX11_spotHere g (N + 1) 2 [] [some (.ref M), none, none] w5 := by
      generalize N + 1 = NN at *
      clear p2
      simp [fX11_spotHere, kX11_spotHere, ent, entp, jX11_spotHere, bX11_spotHere_0, bX11_spotHere_1, bX11_spotHere_2, i_aaload, i_aload, i_astore, i_dup2, i_getf, i_iadd, i_iaload, i_iastore, i_icne, i_ifeq, i_ifne, i_iload, i_jmp, i_push, i_return, msk, lset1, lset2, clr, Value.category, Option.toList, List.cons_append, List.nil_append, List.length_cons, List.length_nil, hN, gf_eq hO, mg_5, h5, cvk_0 hO r1, gf_eq o1, mg_21, mg_10, r35, r7, va_rf, s2, s3, s4, gf_eq o4, mg_4, g4, cvk_1 o4 by5, cvk_2 o4 p1]
    rw [ev]
    clear ev p1
    cases hr : blotP T n kd δ s with
    | inl e =>
      rw [hr] at p2
      obtain ⟨w6, t1, t2, t3⟩ := sp_2f (g := g) (RFt.o4 p2) N
      exact ⟨w6, t1, t2, (F14.tr p3).tr t3⟩
    | inr u =>
      rw [hr] at p2
      obtain ⟨u1, δ1, v, u2, u3, u4, u5, c', u6, u7⟩ := p2
      rw [va_up_up] at u1
      rw [← u3] at u6 u4
      obtain ⟨w6, t1, t2, t3, t4⟩ := sp_2 (g := g) (kd := kd) (v := v) u1 u5 u6 (by rw [u7, c40]) (fun h => absurd h u4) (by omega) N
      refine ⟨w6, t1, ⟨t2, ?_⟩, (F14.tr p3).tr t4⟩
      rw [u2]
      exact t3
  · show ∃ w', _ ∧ RX w' M x n pt q (if s < n ∧ T s = 35 then blotP T n kd δ s else bd (valP T n kd δ s) fun r => .inr (addPl δ kd r.1, r.2)) ∧ _
    rw [if_neg y]
    have nb : ¬ (if s < n then nI (T s) else -1) = 35 := by
      split
      · next y1 =>
        have lt := hT.2 s (by omega)
        exact mt (nI_eq (b := 35) (by omega) (by decide)).mp fun h => y ⟨y1, h⟩
      · decide
    generalize (if s < n then nI (T s) else -1) = Y at *
    obtain ⟨⟨c3', h3', e0', -⟩, -, -, -, ⟨cn, hL, cn1, cn2⟩, -⟩ := id G4'
    have r30 := h3'.rc 0 0 rfl (by decide) (by decide)
    rw [e0'] at r30
    obtain ⟨N, hN⟩ : ∃ N, g.1 = (N + 1) + 2 := ⟨g.1 - 3, by omega⟩
    -- the value
    have val : ∃ w5 V a', PVb (valP T n kd δ s) ∧ (∀ y, valP T n kd δ s = .inr y → V = nI y.1) ∧ a' ≤ n ∧ MO w5 M (xV (va_up x 4 (nI s)) a' (valP T n kd δ s)) ∧ Fr (fun q => q = M) w4 w5 ∧ fX11_spotHere g [.ref M, .int K] w = jX11_spotHere g ((N + 1) + 1) 1 [.int V, .int 1, .ref (M + 32 + 1 + δ.1 5)] [some (.ref M), none, none] w5 := by
      unfold valP
      have : kd = 0 ∨ kd = 1 ∨ kd = 2 := by omega
      rcases this with z | z | z
      · subst z
        subst hK
        rw [if_pos rfl]
        obtain ⟨w5, r5, o5, F5⟩ := number_sp hg o4 g2 g4 g5 T4 k2 hn (mx := 99) (by decide)
        have r5' : fX11_number g [.ref M, .int 0, .int 99] w4 = some (.inl (some (.int (pvD 0 (numP T n 99 s)))), w5) := by rw [show (99 : Int32) = nI 99 from rfl, r5]; cases numP T n 99 s <;> rfl
        refine ⟨w5, pvD 0 (numP T n 99 s), _, numP_b T n 99 s, fun y hy => by rw [hy]; rfl, ru_n (ru_n k2), o5, F5, ?_⟩
        clear o5 r5
        generalize pvD 0 (numP T n 99 s) = V at *
        rw [show nI 0 = 0 from rfl] at *
        simp [fX11_spotHere, kX11_spotHere, ent, entp, jX11_spotHere, bX11_spotHere_0, bX11_spotHere_1, bX11_spotHere_2, i_aaload, i_aload, i_astore, i_dup2, i_getf, i_iadd, i_iaload, i_iastore, i_icne, i_ifeq, i_ifne, i_iload, i_jmp, i_push, i_return, msk, lset1, lset2, clr, Value.category, Option.toList, List.cons_append, List.nil_append, List.length_cons, List.length_nil, hN, gf_eq hO, mg_5, h5, cvk_0 hO r1, gf_eq o1, mg_21, mg_10, r35, r7, va_rf, s2, s3, s4, gf_eq o4, mg_4, g4, cvk_1 o4 by4, nb, cvk_2 o4 r5']
      · subst z
        subst hK
        rw [if_neg (by decide), if_pos rfl]
        obtain ⟨w5, r5, o5, F5⟩ := toldName_sp hg o4 g2 g4 g5 T4 k2 hn (fr := 0) (N := δ.1 0) (f := δ.2 13) hL (fun i hi => by rw [Nat.zero_add]; exact cn1 i hi) (fun i hi => (q6 i hi).2.2.2) (by omega)
        have r5' : fX11_toldName g [.ref M, .int 0, .int (nI (δ.1 0))] w4 = some (.inl (some (.int (pvD 0 (namP T n (δ.1 0) (δ.2 13) s)))), w5) := r5
        refine ⟨w5, pvD 0 (namP T n (δ.1 0) (δ.2 13) s), _, namP_b T n _ _ s, fun y hy => by rw [hy]; rfl, ru_n k2, o5, F5, ?_⟩
        clear o5 r5
        generalize pvD 0 (namP T n (δ.1 0) (δ.2 13) s) = V at *
        rw [show nI 1 = 1 from rfl] at *
        simp [fX11_spotHere, kX11_spotHere, ent, entp, jX11_spotHere, bX11_spotHere_0, bX11_spotHere_1, bX11_spotHere_2, i_aaload, i_aload, i_astore, i_dup2, i_getf, i_iadd, i_iaload, i_iastore, i_icne, i_ifeq, i_ifne, i_iload, i_jmp, i_push, i_return, msk, lset1, lset2, clr, Value.category, Option.toList, List.cons_append, List.nil_append, List.length_cons, List.length_nil, hN, gf_eq hO, mg_5, h5, cvk_0 hO r1, gf_eq o1, mg_21, mg_10, r35, r7, va_rf, s2, s3, s4, gf_eq o4, mg_4, g4, cvk_1 o4 by4, nb, r30, cvk_2 o4 r5']
      · subst z
        subst hK
        rw [if_neg (by decide), if_neg (by decide)]
        obtain ⟨w5, r5, o5, F5⟩ := isHere_sp hg o4 g2 g4 g5 T4 k2 hn
        refine ⟨w5, pvD 1 (isP T n s), _, isP_b T n s, fun y hy => by rw [hy]; rfl, ru_n k2, o5, F5, ?_⟩
        clear o5
        generalize pvD 1 (isP T n s) = V at *
        rw [show nI 2 = 2 from rfl] at *
        simp [fX11_spotHere, kX11_spotHere, ent, entp, jX11_spotHere, bX11_spotHere_0, bX11_spotHere_1, bX11_spotHere_2, i_aaload, i_aload, i_astore, i_dup2, i_getf, i_iadd, i_iaload, i_iastore, i_icne, i_ifeq, i_ifne, i_iload, i_jmp, i_push, i_return, msk, lset1, lset2, clr, Value.category, Option.toList, List.cons_append, List.nil_append, List.length_cons, List.length_nil, hN, gf_eq hO, mg_5, h5, cvk_0 hO r1, gf_eq o1, mg_21, mg_10, r35, r7, va_rf, s2, s3, s4, gf_eq o4, mg_4, g4, cvk_1 o4 by4, nb, cvk_0 o4 r5]
    obtain ⟨w5, V, a', hb, hV, ha', o5, F5, E5⟩ := val
    rw [E5]
    clear E5 by4 nb
    have G5' := G4'.fr F5 (fun i h1 h2 => by omega)
    have P5 := P4.fr F5 (by omega)
    have s6 := arwc P5 1 1 rfl (by decide) (by decide) V
    have P6 := P5.up 1 V
    have G6' := G5'.row7 (j := 1) (v := V) (Nat.le_refl _) hp36
    have f6 : ∀ e, RFt w5 M x n e → RFt (wi w5 0 (M + 32 + 1 + δ.1 5) 1 V) M x n e := fun e h => h.wi (by omega)
    obtain ⟨w6, hw6⟩ : ∃ z, wi w5 0 (M + 32 + 1 + δ.1 5) 1 V = z := ⟨_, rfl⟩
    rw [hw6] at s6 P6 G6' f6
    have F6 : Fr (fun q => q = M + 32 + 1 + δ.1 5) w5 w6 := hw6 ▸ Fr.wi _ _ _ _ rfl
    have F16 : Fr (SR M) w w6 := (F14.tr (F5.mn (SR_M M))).tr (F6.mn fun a h => by unfold SR rg; omega)
    have E6 : jX11_spotHere g ((N + 1) + 1) 1 [.int V, .int 1, .ref (M + 32 + 1 + δ.1 5)] [some (.ref M), none, none] w5 = jX11_spotHere g (N + 1) 2 [] [some (.ref M), none, none] w6 := by
      generalize N + 1 = NN at *
      simp [jX11_spotHere, bX11_spotHere_0, bX11_spotHere_1, bX11_spotHere_2, i_aaload, i_aload, i_astore, i_dup2, i_getf, i_iadd, i_iaload, i_iastore, i_icne, i_ifeq, i_ifne, i_iload, i_jmp, i_push, i_return, msk, lset1, lset2, clr, Value.category, Option.toList, List.cons_append, List.nil_append, List.length_cons, List.length_nil, s6]
    rw [E6]
    clear E6
    cases hr : valP T n kd δ s with
    | inl e =>
      rw [hr] at o5
      have hbe := hb e hr
      obtain ⟨w7, t1, t2, t3⟩ := sp_2f (g := g) (f6 e (RFt.v o5 G5'.rp ha' hbe.1 hbe.2).o4) N
      exact ⟨w7, t1, t2, F16.tr t3⟩
    | inr u =>
      rw [hr] at o5
      have o5' : MO w5 M (va_up (va_up x 4 (nI s)) 4 (nI u.2)) := o5
      rw [va_up_up] at o5'
      have hv := hV u hr
      subst hv
      obtain ⟨w7, t1, t2, t3, t4⟩ := sp_2 (g := g) (kd := kd) (v := u.1) (F6.at o5' (by omega)) G6' P6 c40 (fun _ => rfl) hp36 N
      exact ⟨w7, t1, ⟨t2, t3⟩, F16.tr t4⟩
