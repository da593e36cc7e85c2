/-! ===== more, weak of the reference ===== -/
theorem ca_t (δ : DE) (p : Nat) : cntF (fun v => caP δ p v && tru v) 100 = cntF (caP δ p) 100 := cntF_cg fun v _ => by simp
theorem more_r {g : GE} {w : Mem} {M fed kept : Nat} {fp : Int32} {tp : Nat → Int32} {rf : Nat → Nat} {δ : DE} {τ : TE} {im : Nat → TE} {x : Nat → Int32} (hg : FU g) (hd : WF δ) (hI : RI w M fed kept fp tp rf δ τ im x) (x0 x1 : Int32) : RQo w M fed kept fp tp rf δ τ im (fX11_more g [.ref M, .int x0, .int x1] w) (moreO δ x0 x1) := by
  obtain ⟨w0, hw0, I0, F0⟩ := hI.t0
  obtain ⟨b1, b2, b3, b4, b5, b6, b7, b8⟩ := id hd.1
  obtain ⟨hO, hXO, hRK, hRZ, hrf⟩ := id I0
  obtain ⟨x1', x3', x27, x32, x33, x34⟩ := id hXO
  obtain ⟨hTp, hD, hR, hCp, hHb, hKp, hRP⟩ := id hRK
  have hn := nR_le hd
  have x0' : (va_up x 0 0) 0 = 0 := va_up_self _ _ _
  obtain ⟨N, hN⟩ : ∃ N, g.1 = N + 4 := ⟨g.1 - 4, by omega⟩
  unfold moreO
  have q0 := in_sp (w := w0) hg x0 (n := δ.1 5) rfl (by omega)
  cases h0 : rng x0 (δ.1 5) with
  | none =>
    rw [h0] at q0
    simp only [bI, Option.isSome, Bool.false_eq_true, if_false] at q0
    obtain ⟨w1, p1, p2, p3⟩ := bad1_sp hg I0 x0' (c := 1) (r := 0) (C := 1) (R := 0) rfl rfl (by decide) (by decide)
    refine RQo.no (v := .int 0) F0 p2 ?_ p3
    simp [fX11_more, kX11_more, ent, entp, jX11_more, bX11_more_0, bX11_more_1, bX11_more_2, bX11_more_3, bX11_more_4, i_aload, i_getf, i_iaload, i_icne, i_ifeq, i_ifle, i_ifne, i_iload, i_ireturn, i_isub, i_jmp, i_push, i_putf, msk, lset1, lset2, clr, Value.category, Option.toList, List.cons_append, List.nil_append, List.length_cons, List.length_nil, hN, st_0 hI.1, hw0, gf_eq hO, mg_11, hD.1.rc 5 5 rfl (by decide) (by decide), csk_3 q0, cvk_3 hO p1]
  | some n0 =>
    rw [h0] at q0
    simp only [bI, Option.isSome, if_true] at q0
    obtain ⟨l0, e0⟩ := rng_some (by omega) h0
    subst e0
    have q1 := in_sp (w := w0) hg x1 (n := 2 + 1) (y := 2) (by decide) (by decide)
    cases h1 : rng x1 (2 + 1) with
    | none =>
      rw [h1] at q1
      simp only [bI, Option.isSome, Bool.false_eq_true, if_false] at q1
      obtain ⟨w1, p1, p2, p3⟩ := bad1_sp hg I0 x0' (c := 2) (r := 2) (C := 2) (R := 2) rfl rfl (by decide) (by decide)
      refine RQo.no (v := .int 0) F0 p2 ?_ p3
      simp [fX11_more, kX11_more, ent, entp, jX11_more, bX11_more_0, bX11_more_1, bX11_more_2, bX11_more_3, bX11_more_4, i_aload, i_getf, i_iaload, i_icne, i_ifeq, i_ifle, i_ifne, i_iload, i_ireturn, i_isub, i_jmp, i_push, i_putf, msk, lset1, lset2, clr, Value.category, Option.toList, List.cons_append, List.nil_append, List.length_cons, List.length_nil, hN, st_0 hI.1, hw0, gf_eq hO, mg_11, hD.1.rc 5 5 rfl (by decide) (by decide), csk_3 q0, cvk_3 hO (bad0_sp hg hO x0' 1 0), csk_3 q1, cvk_3 hO p1]
    | some n1 =>
      rw [h1] at q1
      simp only [bI, Option.isSome, if_true] at q1
      obtain ⟨l1, e1⟩ := rng_some (by omega) h1
      subst e1
      dsimp only
      by_cases z0 : nR δ = 0
      · rw [if_pos z0]
        have z1 : nI (nR δ) = 0 := by rw [z0]; exact nI_0
        refine RQo.ok F0 I0 x0' ?_ (Fr.rf _ _)
        simp [fX11_more, kX11_more, ent, entp, jX11_more, bX11_more_0, bX11_more_1, bX11_more_2, bX11_more_3, bX11_more_4, i_aload, i_getf, i_iaload, i_icne, i_ifeq, i_ifle, i_ifne, i_iload, i_ireturn, i_isub, i_jmp, i_push, i_putf, msk, lset1, lset2, clr, Value.category, Option.toList, List.cons_append, List.nil_append, List.length_cons, List.length_nil, hN, st_0 hI.1, hw0, gf_eq hO, mg_11, hD.1.rc 5 5 rfl (by decide) (by decide), csk_3 q0, cvk_3 hO (bad0_sp hg hO x0' 1 0), csk_3 q1, cvk_3 hO (bad0_sp hg hO x0' 2 2), mg_27, x27, z1]
      · rw [if_neg z0]
        have z1 := nI_ne0 (n := nR δ) (by omega) (by omega)
        obtain ⟨u, p1, p2⟩ := blotsAnew_sp hg hd hO hD hR hRZ.1 (by omega) (T := -1) (Or.inl rfl) l0
        obtain ⟨x9, I9, k9, m45, m46, -, F9⟩ := p2.rw I0
        have x90 : x9 0 = 0 := by rw [k9 0 (by decide) (by decide) (by decide) (by decide)]; exact x0'
        have : n1 = 0 ∨ n1 = 1 ∨ n1 = 2 := by omega
        rcases this with y | y | y
        · subst y
          simp only [nI_0] at q1
          simp only [if_true]
          obtain ⟨hO9, hXO9, ⟨-, hD9, hR9, -⟩, hRZ9, -⟩ := id I9
          obtain ⟨⟨f0, hf0⟩, hco, hto⟩ := id hRZ9.1
          have rw1 := hR9.row hd (i := 0) (by omega)
          rw [nI_0] at rw1
          have lr := (rr_lt (δ := δ) (i := 0) (by omega)).1
          obtain ⟨w4, fl, r1, r2, r3, r4⟩ := fills_sp hg (row := rr δ 0) hd hO9 hD9 hf0 (by omega)
          have o4 := r4.at hO9 (by omega)
          have rv : gi w4 0 (M + 172) (nI n0) = some (nI (v0K δ n0)) := by rw [r2.rd (by omega) (by decide), r3 n0 l0]
          obtain ⟨-, ⟨c1, e2⟩, ⟨c2, e3⟩, ⟨c3, e4⟩, ⟨c4, e5⟩⟩ := id hRZ9
          obtain ⟨co, hco⟩ := hco
          obtain ⟨to, hto⟩ := hto
          refine RQo.ok F0 (I9.sc (r4.mn fun a ha => by unfold rg; omega) o4 hXO9 ⟨⟨⟨fl, r2⟩, ⟨co, hco.fr r4 (by omega)⟩, ⟨to, hto.fr r4 (by omega)⟩⟩, ⟨c1, e2.fr r4 (by omega)⟩, ⟨c2, e3.fr r4 (by omega)⟩, ⟨c3, e4.fr r4 (by omega)⟩, ⟨c4, e5.fr r4 (by omega)⟩⟩) x90 ?_ (F9.tr (r4.mn fun a ha => by unfold rg; omega))
          generalize nI (v0K δ n0) = V at rv ⊢
          simp [fX11_more, kX11_more, ent, entp, jX11_more, bX11_more_0, bX11_more_1, bX11_more_2, bX11_more_3, bX11_more_4, i_aload, i_getf, i_iaload, i_icne, i_ifeq, i_ifle, i_ifne, i_iload, i_ireturn, i_isub, i_jmp, i_push, i_putf, msk, lset1, lset2, clr, Value.category, Option.toList, List.cons_append, List.nil_append, List.length_cons, List.length_nil, hN, st_0 hI.1, hw0, gf_eq hO, mg_11, hD.1.rc 5 5 rfl (by decide) (by decide), csk_3 q0, cvk_3 hO (bad0_sp hg hO x0' 1 0), csk_3 q1, cvk_3 hO (bad0_sp hg hO x0' 2 2), mg_27, x27, z1, cvk_2 hO p1, nI_0, gf_eq hO9, mg_28, rw1, cvk_1 hO9 r1, gf_eq o4, mg_39, rv]
        · subst y
          have q1' : fX11_in g [.int 1, .int 0, .int 2] w0 = some (.inl (some (.int 1)), w0) := q1
          simp only [if_true, show ¬ (1 = 0) from by decide, if_false]
          rw [ca_t] at m45
          refine RQo.ok F0 I9 x90 ?_ F9
          have e1 : nI 1 = 1 := rfl
          generalize nI (cntF (caP δ n0) 100) = V at m45 ⊢
          simp [fX11_more, kX11_more, ent, entp, jX11_more, bX11_more_0, bX11_more_1, bX11_more_2, bX11_more_3, bX11_more_4, i_aload, i_getf, i_iaload, i_icne, i_ifeq, i_ifle, i_ifne, i_iload, i_ireturn, i_isub, i_jmp, i_push, i_putf, msk, lset1, lset2, clr, Value.category, Option.toList, List.cons_append, List.nil_append, List.length_cons, List.length_nil, hN, st_0 hI.1, hw0, gf_eq hO, mg_11, hD.1.rc 5 5 rfl (by decide) (by decide), csk_3 q0, cvk_3 hO (bad0_sp hg hO x0' 1 0), e1, csk_3 q1', cvk_3 hO (bad0_sp hg hO x0' 2 2), mg_27, x27, z1, cvk_2 hO p1, gf_eq I9.1, mg_45, m45]
        · subst y
          have q1' : fX11_in g [.int 2, .int 0, .int 2] w0 = some (.inl (some (.int 1)), w0) := q1
          simp only [show ¬ (2 = 0) from by decide, show ¬ (2 = 1) from by decide, if_false]
          refine RQo.ok F0 I9 x90 ?_ F9
          have e1 : nI 2 = 2 := rfl
          have m46' : x9 46 = nI (cntF (clP δ n0) 100) := m46
          generalize nI (cntF (clP δ n0) 100) = V at m46' ⊢
          simp [fX11_more, kX11_more, ent, entp, jX11_more, bX11_more_0, bX11_more_1, bX11_more_2, bX11_more_3, bX11_more_4, i_aload, i_getf, i_iaload, i_icne, i_ifeq, i_ifle, i_ifne, i_iload, i_ireturn, i_isub, i_jmp, i_push, i_putf, msk, lset1, lset2, clr, Value.category, Option.toList, List.cons_append, List.nil_append, List.length_cons, List.length_nil, hN, st_0 hI.1, hw0, gf_eq hO, mg_11, hD.1.rc 5 5 rfl (by decide) (by decide), csk_3 q0, cvk_3 hO (bad0_sp hg hO x0' 1 0), e1, csk_3 q1', cvk_3 hO (bad0_sp hg hO x0' 2 2), mg_27, x27, z1, cvk_2 hO p1, gf_eq I9.1, mg_46, m46']
theorem tw_b : ∀ m, m < 32 → ((nI m &&& (nI m - 1) = 0) ↔ ∀ a, a < 5 → ∀ b, b < 5 → m.testBit a = true → m.testBit b = true → a = b) := by decide +kernel
theorem go_wk {δ : DE} (hd : WF δ) {p t : Nat} (hp : p < δ.1 5) (ht : t < 5) {b : Int32} (h : GO δ p (nI t) 100 b) : (b &&& (b - 1) = 0) ↔ wkB δ p t = false := by
  obtain ⟨m, h1, h2, h3⟩ := h t ht rfl
  rw [h2, tw_b m h1]
  have key : ∀ o, o < 5 → (m.testBit o = true ↔ ∃ v, v < 100 ∧ clP δ p v = true ∧ owP δ p t v = o) := fun o ho => by
    rw [h3 o ho, exF_iff]
    constructor
    · rintro ⟨v, a1, a2⟩
      rw [← Bool.and_assoc, Bool.and_eq_true, beq_iff_eq] at a2
      exact ⟨v, a1, a2.1, a2.2⟩
    · rintro ⟨v, a1, a2, a3⟩
      exact ⟨v, a1, by rw [← Bool.and_assoc, Bool.and_eq_true, beq_iff_eq]; exact ⟨a2, a3⟩⟩
  have lo : ∀ v, clP δ p v = true → owP δ p t v < 5 := fun v hv => by
    have h' : (caP δ p v && lwB δ p v) = true := hv
    rw [Bool.and_eq_true] at h'
    have := own_le (t := t) hd hp h'.1
    omega
  constructor
  · intro hu
    cases hw : wkB δ p t with
    | false => rfl
    | true =>
      obtain ⟨v, a1, a2⟩ := exF_iff.mp hw
      rw [Bool.and_eq_true] at a2
      obtain ⟨w', a3, a4⟩ := exF_iff.mp a2.2
      rw [Bool.and_eq_true] at a4
      have e := hu _ (lo v a2.1) _ (lo w' a4.1) ((key _ (lo v a2.1)).mpr ⟨v, a1, a2.1, rfl⟩) ((key _ (lo w' a4.1)).mpr ⟨w', a3, a4.1, rfl⟩)
      have := a4.2
      rw [e] at this
      simp at this
  · intro hw a ha b hb ta tb
    obtain ⟨v, v1, v2, v3⟩ := (key a ha).mp ta
    obtain ⟨u, u1, u2, u3⟩ := (key b hb).mp tb
    apply Classical.byContradiction
    intro ne
    have : wkB δ p t = true := exF_iff.mpr ⟨v, v1, by rw [v2, Bool.true_and]; exact exF_iff.mpr ⟨u, u1, by rw [u2, Bool.true_and]; exact bne_iff_ne.mpr (by rw [v3, u3]; exact ne)⟩⟩
    rw [hw] at this
    cases this
theorem weak_r {g : GE} {w : Mem} {M fed kept : Nat} {fp : Int32} {tp : Nat → Int32} {rf : Nat → Nat} {δ : DE} {τ : TE} {im : Nat → TE} {x : Nat → Int32} (hg : FU g) (hd : WF δ) (hI : RI w M fed kept fp tp rf δ τ im x) (x0 : Int32) : RQo w M fed kept fp tp rf δ τ im (fX11_weak g [.ref M, .int x0] w) (weakO δ x0) := by
  obtain ⟨w0, hw0, I0, F0⟩ := hI.t0
  obtain ⟨b1, b2, b3, b4, b5, b6, b7, b8⟩ := id hd.1
  obtain ⟨hO, hXO, hRK, hRZ, hrf⟩ := id I0
  obtain ⟨x1', x3', x27, x32, x33, x34⟩ := id hXO
  obtain ⟨hTp, hD, hR, hCp, hHb, hKp, hRP⟩ := id hRK
  have hn := nR_le hd
  have x0' : (va_up x 0 0) 0 = 0 := va_up_self _ _ _
  obtain ⟨N, hN⟩ : ∃ N, g.1 = N + 2 := ⟨g.1 - 2, by omega⟩
  unfold weakO
  have q0 := isThing_sp hg hO hD b2 x0
  cases h0 : rng x0 (δ.1 1) with
  | none =>
    rw [h0] at q0
    simp only [bI, Option.isSome, Bool.false_eq_true, if_false] at q0
    obtain ⟨w1, p1, p2, p3⟩ := bad1_sp hg I0 x0' (c := 1) (r := 0) (C := 1) (R := 0) rfl rfl (by decide) (by decide)
    refine RQo.no (v := .int 0) F0 p2 ?_ p3
    simp [fX11_weak, kX11_weak, ent, entp, jX11_weak, bX11_weak_0, bX11_weak_1, bX11_weak_2, bX11_weak_3, i_aload, i_getf, i_iadd, i_iaload, i_iand, i_icge, i_ifeq, i_ifne, i_iinc, i_iload, i_ireturn, i_istore, i_isub, i_jmp, i_push, i_putf, msk, lset1, lset2, clr, Value.category, Option.toList, List.cons_append, List.nil_append, List.length_cons, List.length_nil, hN, st_0 hI.1, hw0, cvk_1 hO q0, cvk_3 hO p1]
  | some n0 =>
    rw [h0] at q0
    simp only [bI, Option.isSome, if_true] at q0
    obtain ⟨l0, e0⟩ := rng_some (by omega) h0
    subst e0
    dsimp only
    by_cases z0 : nR δ = 0
    · rw [if_pos z0]
      have z1 : nI (nR δ) = 0 := by rw [z0]; exact nI_0
      refine RQo.ok F0 I0 x0' ?_ (Fr.rf _ _)
      simp [fX11_weak, kX11_weak, ent, entp, jX11_weak, bX11_weak_0, bX11_weak_1, bX11_weak_2, bX11_weak_3, i_aload, i_getf, i_iadd, i_iaload, i_iand, i_icge, i_ifeq, i_ifne, i_iinc, i_iload, i_ireturn, i_istore, i_isub, i_jmp, i_push, i_putf, msk, lset1, lset2, clr, Value.category, Option.toList, List.cons_append, List.nil_append, List.length_cons, List.length_nil, hN, st_0 hI.1, hw0, cvk_1 hO q0, cvk_3 hO (bad0_sp hg hO x0' 1 0), gf_eq hO, mg_27, x27, z1]
    · rw [if_neg z0]
      have z1 := nI_ne0 (n := nR δ) (by omega) (by omega)
      have L := lpR (fun f (s : Lv × Mem) => jX11_weak g f 2 [] s.1 s.2) (fun k s => s.1 = [some (.ref M), some (.int (nI n0)), some (.int (nI (cntF (fun p => wkB δ p n0) k))), some (.int (nI k))] ∧ (∃ x', RI s.2 M fed kept fp tp rf δ τ im x' ∧ x' 0 = 0) ∧ Fr (rg M (M + 179)) w0 s.2)
        (fun z => ∃ w' x', z = some (.inl (some (.int (nI (cntF (fun p => wkB δ p n0) (δ.1 5))))), w') ∧ RI w' M fed kept fp tp rf δ τ im x' ∧ x' 0 = 0 ∧ Fr (rg M (M + 179)) w0 w') 2 1 (δ.1 5)
        (fun k s hk hI f => by
          obtain ⟨e1, ⟨xs, e2, e3⟩, e4⟩ := hI
          obtain ⟨hOs, hXs, ⟨-, hDs, hRs, -⟩, hRZs, -⟩ := id e2
          obtain ⟨u, p1, p2⟩ := blotsAnew_sp hg hd hOs hDs hRs hRZs.1 (by omega) (T := nI n0) (Or.inr ⟨n0, by omega, rfl⟩) hk
          obtain ⟨x9, I9, k9, -, -, go, F9⟩ := p2.rw e2
          have gw := go_wk hd hk (t := n0) (by omega) go
          have c5 := hDs.1.rc 5 5 rfl (by decide) (by decide)
          refine Or.inr ⟨f, ([some (.ref M), some (.int (nI n0)), some (.int (nI (cntF (fun p => wkB δ p n0) (k + 1)))), some (.int (nI (k + 1)))], u), Nat.le_refl _, ⟨rfl, ⟨x9, I9, by rw [k9 0 (by decide) (by decide) (by decide) (by decide)]; exact e3⟩, e4.tr F9⟩, ?_⟩
          have ec : cntF (fun p => wkB δ p n0) (k + 1) = cntF (fun p => wkB δ p n0) k + if wkB δ k n0 = true then 1 else 0 := rfl
          rw [ec]
          generalize cntF (fun p => wkB δ p n0) k = X at e1 ⊢
          generalize hB : x9 47 = Bt at gw
          cases hw : wkB δ k n0 with
          | true =>
            have g1 : ¬ Bt &&& (Bt - 1) = 0 := fun q => by rw [gw.mp q] at hw; cases hw
            simp [jX11_weak, bX11_weak_0, bX11_weak_1, bX11_weak_2, bX11_weak_3, i_aload, i_getf, i_iadd, i_iaload, i_iand, i_icge, i_ifeq, i_ifne, i_iinc, i_iload, i_ireturn, i_istore, i_isub, i_jmp, i_push, i_putf, msk, lset1, lset2, clr, Value.category, Option.toList, List.cons_append, List.nil_append, List.length_cons, List.length_nil, e1, gf_eq hOs, mg_11, c5, nI_ge hk (by omega), cvk_2 hOs p1, gf_eq I9.1, mg_47, hB, g1, nI_1]
          | false =>
            have g1 := gw.mpr hw
            have a0 : nI X + 0 = nI X := by simp
            simp [jX11_weak, bX11_weak_0, bX11_weak_1, bX11_weak_2, bX11_weak_3, i_aload, i_getf, i_iadd, i_iaload, i_iand, i_icge, i_ifeq, i_ifne, i_iinc, i_iload, i_ireturn, i_istore, i_isub, i_jmp, i_push, i_putf, msk, lset1, lset2, clr, Value.category, Option.toList, List.cons_append, List.nil_append, List.length_cons, List.length_nil, e1, gf_eq hOs, mg_11, c5, nI_ge hk (by omega), cvk_2 hOs p1, gf_eq I9.1, mg_47, hB, g1, a0, nI_1])
        (fun s hI f => by
          obtain ⟨e1, ⟨xs, e2, e3⟩, e4⟩ := hI
          obtain ⟨hOs, hXs, ⟨-, hDs, -⟩, -⟩ := id e2
          refine ⟨s.2, xs, ?_, e2, e3, e4⟩
          generalize cntF (fun p => wkB δ p n0) (δ.1 5) = X at e1 ⊢
          simp [jX11_weak, bX11_weak_0, bX11_weak_1, bX11_weak_2, bX11_weak_3, i_aload, i_getf, i_iadd, i_iaload, i_iand, i_icge, i_ifeq, i_ifne, i_iinc, i_iload, i_ireturn, i_istore, i_isub, i_jmp, i_push, i_putf, msk, lset1, lset2, clr, Value.category, Option.toList, List.cons_append, List.nil_append, List.length_cons, List.length_nil, e1, gf_eq hOs, mg_11, hDs.1.rc 5 5 rfl (by decide) (by decide)])
      obtain ⟨N2, hN2⟩ : ∃ N, g.1 = N + 2 := ⟨g.1 - 2, by omega⟩
      obtain ⟨w1, x1, p1, p2, p3, p4⟩ := L (δ.1 5) 0 ([some (.ref M), some (.int (nI n0)), some (.int (nI 0)), some (.int (nI 0))], w0) (by omega) ⟨rfl, ⟨_, I0, x0'⟩, Fr.rf _ _⟩ N2 (by omega)
      refine RQo.ok F0 p2 p3 ?_ p4
      simp only [nI_0] at p1
      rw [← p1]
      simp [fX11_weak, kX11_weak, ent, entp, jX11_weak, bX11_weak_0, bX11_weak_1, bX11_weak_2, bX11_weak_3, i_aload, i_getf, i_iadd, i_iaload, i_iand, i_icge, i_ifeq, i_ifne, i_iinc, i_iload, i_ireturn, i_istore, i_isub, i_jmp, i_push, i_putf, msk, lset1, lset2, clr, Value.category, Option.toList, List.cons_append, List.nil_append, List.length_cons, List.length_nil, hN2, st_0 hI.1, hw0, cvk_1 hO q0, cvk_3 hO (bad0_sp hg hO x0' 1 0), gf_eq hO, mg_27, x27, z1]
