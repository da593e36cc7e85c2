/-! ===== the reference refuses: what it returns ===== -/
theorem alive_z {g : GE} {w : Mem} {M fed kept : Nat} {fp : Int32} {tp : Nat → Int32} {rf : Nat → Nat} {δ : DE} {τ : TE} {im : Nat → TE} {x : Nat → Int32} (hg : FU g) (hd : WF δ) (hI : RI w M fed kept fp tp rf δ τ im x) (x0 : Int32) {pz : Nat × Nat} (ho : aliveO δ x0 = .inr pz) : ∃ w', fX11_alive g [.ref M, .int x0] w = some (.inl (some (.int 0)), w') := by
  obtain ⟨w0, hw0, I0, F0⟩ := hI.t0
  obtain ⟨b1, b2, b3, b4, b5, b6, b7, b8⟩ := id hd.1
  obtain ⟨hO, hXO, hRK, hRZ, hrf⟩ := id I0
  obtain ⟨x1', x3', x27, x32, x33, x34⟩ := id hXO
  obtain ⟨hTp, hD, hR, hCp, hHb, hKp, hRP⟩ := id hRK
  have hn := nR_le hd
  have x0' : (va_up x 0 0) 0 = 0 := va_up_self _ _ _
  obtain ⟨N, hN⟩ : ∃ N, g.1 = N + 2 := ⟨g.1 - 2, by omega⟩
  unfold aliveO at ho
  have q0 := isBlot_sp hg hO hD b4 x0
  cases h0 : rng x0 (δ.1 3) with
  | none =>
    rw [h0] at q0
    simp only [bI, Option.isSome, Bool.false_eq_true, if_false] at q0
    obtain ⟨w1, p1, p2, p3⟩ := bad1_sp hg I0 x0' (c := 1) (r := 1) (C := 1) (R := 1) rfl rfl (by decide) (by decide)
    refine ⟨w1, ?_⟩
    simp [fX11_alive, kX11_alive, ent, entp, jX11_alive, bX11_alive_0, bX11_alive_1, bX11_alive_2, bX11_alive_3, i_aload, i_getf, i_iadd, i_iaload, i_icge, i_ifeq, i_ifle, i_ifne, i_iinc, i_iload, i_ireturn, i_istore, i_jmp, i_push, i_putf, msk, lset1, lset2, clr, Value.category, Option.toList, List.cons_append, List.nil_append, List.length_cons, List.length_nil, hN, st_0 hI.1, hw0, cvk_1 hO q0, cvk_3 hO p1]
  | some n0 =>
    rw [h0] at q0 ho
    simp only [bI, Option.isSome, if_true] at q0
    simp only [] at ho
    obtain ⟨l0, e0⟩ := rng_some (by omega) h0
    subst e0
    cases ho
theorem apart_z {g : GE} {w : Mem} {M fed kept : Nat} {fp : Int32} {tp : Nat → Int32} {rf : Nat → Nat} {δ : DE} {τ : TE} {im : Nat → TE} {x : Nat → Int32} (hg : FU g) (hd : WF δ) (hI : RI w M fed kept fp tp rf δ τ im x) (x0 x1 : Int32) {pz : Nat × Nat} (ho : apartO δ x0 x1 = .inr pz) : ∃ w', fX11_apart g [.ref M, .int x0, .int x1] w = some (.inl (some (.int 0)), w') := by
  obtain ⟨w0, hw0, I0, F0⟩ := hI.t0
  obtain ⟨b1, b2, b3, b4, b5, b6, b7, b8⟩ := id hd.1
  obtain ⟨hO, hXO, hRK, hRZ, hrf⟩ := id I0
  obtain ⟨x1', x3', x27, x32, x33, x34⟩ := id hXO
  obtain ⟨hTp, hD, hR, hCp, hHb, hKp, hRP⟩ := id hRK
  have hn := nR_le hd
  have x0' : (va_up x 0 0) 0 = 0 := va_up_self _ _ _
  obtain ⟨N, hN⟩ : ∃ N, g.1 = N + 16 := ⟨g.1 - 16, by omega⟩
  unfold apartO at ho
  have q0 := isReading_sp hg hO x27 hn x0
  cases h0 : rng x0 (nR δ) with
  | none =>
    rw [h0] at q0
    simp only [bI, Option.isSome, Bool.false_eq_true, if_false] at q0
    obtain ⟨w1, p1, p2, p3⟩ := bad1_sp hg I0 x0' (c := 1) (r := 0) (C := 1) (R := 0) rfl rfl (by decide) (by decide)
    refine ⟨w1, ?_⟩
    simp [fX11_apart, kX11_apart, ent, entp, jX11_apart, bX11_apart_0, bX11_apart_1, bX11_apart_2, i_aload, i_ifeq, i_ifne, i_iload, i_ireturn, i_jmp, i_push, i_putf, msk, lset1, lset2, clr, Value.category, Option.toList, List.cons_append, List.nil_append, List.length_cons, List.length_nil, hN, st_0 hI.1, hw0, cvk_1 hO q0, cvk_3 hO p1]
  | some n0 =>
    rw [h0] at q0 ho
    simp only [bI, Option.isSome, if_true] at q0
    simp only [] at ho
    obtain ⟨l0, e0⟩ := rng_some (by omega) h0
    subst e0
    have q1 := isReading_sp hg hO x27 hn x1
    cases h1 : rng x1 (nR δ) with
    | none =>
      rw [h1] at q1
      simp only [bI, Option.isSome, Bool.false_eq_true, if_false] at q1
      obtain ⟨w1, p1, p2, p3⟩ := bad1_sp hg I0 x0' (c := 1) (r := 0) (C := 1) (R := 0) rfl rfl (by decide) (by decide)
      refine ⟨w1, ?_⟩
      simp [fX11_apart, kX11_apart, ent, entp, jX11_apart, bX11_apart_0, bX11_apart_1, bX11_apart_2, i_aload, i_ifeq, i_ifne, i_iload, i_ireturn, i_jmp, i_push, i_putf, msk, lset1, lset2, clr, Value.category, Option.toList, List.cons_append, List.nil_append, List.length_cons, List.length_nil, hN, st_0 hI.1, hw0, cvk_1 hO q0, cvk_1 hO q1, cvk_3 hO p1]
    | some n1 =>
      rw [h1] at q1 ho
      simp only [bI, Option.isSome, if_true] at q1
      simp only [] at ho
      obtain ⟨l1, e1⟩ := rng_some (by omega) h1
      subst e1
      cases ho
theorem blot_z {g : GE} {w : Mem} {M fed kept : Nat} {fp : Int32} {tp : Nat → Int32} {rf : Nat → Nat} {δ : DE} {τ : TE} {im : Nat → TE} {x : Nat → Int32} (hg : FU g) (hd : WF δ) (hI : RI w M fed kept fp tp rf δ τ im x) (x0 x1 : Int32) {pz : Nat × Nat} (ho : blotO δ x0 x1 = .inr pz) : ∃ w', fX11_blot g [.ref M, .int x0, .int x1] w = some (.inl (some (.int 0)), w') := by
  obtain ⟨w0, hw0, I0, F0⟩ := hI.t0
  obtain ⟨b1, b2, b3, b4, b5, b6, b7, b8⟩ := id hd.1
  obtain ⟨hO, hXO, hRK, hRZ, hrf⟩ := id I0
  obtain ⟨x1', x3', x27, x32, x33, x34⟩ := id hXO
  obtain ⟨hTp, hD, hR, hCp, hHb, hKp, hRP⟩ := id hRK
  have hn := nR_le hd
  have x0' : (va_up x 0 0) 0 = 0 := va_up_self _ _ _
  obtain ⟨N, hN⟩ : ∃ N, g.1 = N + 16 := ⟨g.1 - 16, by omega⟩
  unfold blotO at ho
  have q0 := isBlot_sp hg hO hD b4 x0
  cases h0 : rng x0 (δ.1 3) with
  | none =>
    rw [h0] at q0
    simp only [bI, Option.isSome, Bool.false_eq_true, if_false] at q0
    obtain ⟨w1, p1, p2, p3⟩ := bad1_sp hg I0 x0' (c := 1) (r := 1) (C := 1) (R := 1) rfl rfl (by decide) (by decide)
    refine ⟨w1, ?_⟩
    simp [fX11_blot, kX11_blot, ent, entp, jX11_blot, bX11_blot_0, bX11_blot_1, bX11_blot_2, bX11_blot_3, i_aaload, i_aload, i_getf, i_iaload, i_ifeq, i_ifne, i_iload, i_ireturn, i_jmp, i_push, i_putf, msk, lset1, lset2, clr, Value.category, Option.toList, List.cons_append, List.nil_append, List.length_cons, List.length_nil, hN, st_0 hI.1, hw0, cvk_1 hO q0, cvk_3 hO p1]
  | some n0 =>
    rw [h0] at q0 ho
    simp only [bI, Option.isSome, if_true] at q0
    simp only [] at ho
    obtain ⟨l0, e0⟩ := rng_some (by omega) h0
    subst e0
    have q1 := in_sp (w := w0) hg x1 (n := 3 + 1) (y := 3) (by decide) (by decide)
    cases h1 : rng x1 (3 + 1) with
    | none =>
      rw [h1] at q1
      simp only [bI, Option.isSome, Bool.false_eq_true, if_false] at q1
      obtain ⟨w1, p1, p2, p3⟩ := bad1_sp hg I0 x0' (c := 2) (r := 2) (C := 2) (R := 2) rfl rfl (by decide) (by decide)
      refine ⟨w1, ?_⟩
      simp [fX11_blot, kX11_blot, ent, entp, jX11_blot, bX11_blot_0, bX11_blot_1, bX11_blot_2, bX11_blot_3, i_aaload, i_aload, i_getf, i_iaload, i_ifeq, i_ifne, i_iload, i_ireturn, i_jmp, i_push, i_putf, msk, lset1, lset2, clr, Value.category, Option.toList, List.cons_append, List.nil_append, List.length_cons, List.length_nil, hN, st_0 hI.1, hw0, cvk_1 hO q0, cvk_3 hO (bad0_sp hg hO x0' 1 1), csk_3 q1, cvk_3 hO p1]
    | some n1 =>
      rw [h1] at q1 ho
      simp only [bI, Option.isSome, if_true] at q1
      simp only [] at ho
      obtain ⟨l1, e1⟩ := rng_some (by omega) h1
      subst e1
      cases ho
theorem candidate_z {g : GE} {w : Mem} {M fed kept : Nat} {fp : Int32} {tp : Nat → Int32} {rf : Nat → Nat} {δ : DE} {τ : TE} {im : Nat → TE} {x : Nat → Int32} (hg : FU g) (hd : WF δ) (hI : RI w M fed kept fp tp rf δ τ im x) (x0 x1 : Int32) {pz : Nat × Nat} (ho : candidateO δ x0 x1 = .inr pz) : ∃ w', fX11_candidate g [.ref M, .int x0, .int x1] w = some (.inl (some (.int 0)), w') := by
  obtain ⟨w0, hw0, I0, F0⟩ := hI.t0
  obtain ⟨b1, b2, b3, b4, b5, b6, b7, b8⟩ := id hd.1
  obtain ⟨hO, hXO, hRK, hRZ, hrf⟩ := id I0
  obtain ⟨x1', x3', x27, x32, x33, x34⟩ := id hXO
  obtain ⟨hTp, hD, hR, hCp, hHb, hKp, hRP⟩ := id hRK
  have hn := nR_le hd
  have x0' : (va_up x 0 0) 0 = 0 := va_up_self _ _ _
  obtain ⟨N, hN⟩ : ∃ N, g.1 = N + 16 := ⟨g.1 - 16, by omega⟩
  unfold candidateO at ho
  have q0 := isBlot_sp hg hO hD b4 x0
  cases h0 : rng x0 (δ.1 3) with
  | none =>
    rw [h0] at q0
    simp only [bI, Option.isSome, Bool.false_eq_true, if_false] at q0
    obtain ⟨w1, p1, p2, p3⟩ := bad1_sp hg I0 x0' (c := 1) (r := 1) (C := 1) (R := 1) rfl rfl (by decide) (by decide)
    refine ⟨w1, ?_⟩
    simp [fX11_candidate, kX11_candidate, ent, entp, jX11_candidate, bX11_candidate_0, bX11_candidate_1, bX11_candidate_2, i_aaload, i_aload, i_getf, i_iaload, i_ifeq, i_ifne, i_iload, i_ireturn, i_isub, i_jmp, i_push, i_putf, msk, lset1, lset2, clr, Value.category, Option.toList, List.cons_append, List.nil_append, List.length_cons, List.length_nil, hN, st_0 hI.1, hw0, cvk_1 hO q0, cvk_3 hO p1]
  | some n0 =>
    rw [h0] at q0 ho
    simp only [bI, Option.isSome, if_true] at q0
    simp only [] at ho
    obtain ⟨l0, e0⟩ := rng_some (by omega) h0
    subst e0
    cases ho
theorem cleaned_z {g : GE} {w : Mem} {M fed kept : Nat} {fp : Int32} {tp : Nat → Int32} {rf : Nat → Nat} {δ : DE} {τ : TE} {im : Nat → TE} {x : Nat → Int32} (hg : FU g) (hd : WF δ) (hI : RI w M fed kept fp tp rf δ τ im x) (x0 : Int32) {pz : Nat × Nat} (ho : cleanedO δ x0 = .inr pz) : ∃ w', fX11_cleaned g [.ref M, .int x0] w = some (.inl (some (.int 0)), w') := by
  obtain ⟨w0, hw0, I0, F0⟩ := hI.t0
  obtain ⟨b1, b2, b3, b4, b5, b6, b7, b8⟩ := id hd.1
  obtain ⟨hO, hXO, hRK, hRZ, hrf⟩ := id I0
  obtain ⟨x1', x3', x27, x32, x33, x34⟩ := id hXO
  obtain ⟨hTp, hD, hR, hCp, hHb, hKp, hRP⟩ := id hRK
  have hn := nR_le hd
  have x0' : (va_up x 0 0) 0 = 0 := va_up_self _ _ _
  obtain ⟨N, hN⟩ : ∃ N, g.1 = N + 16 := ⟨g.1 - 16, by omega⟩
  unfold cleanedO at ho
  have q0 := isBlot_sp hg hO hD b4 x0
  cases h0 : rng x0 (δ.1 3) with
  | none =>
    rw [h0] at q0
    simp only [bI, Option.isSome, Bool.false_eq_true, if_false] at q0
    obtain ⟨w1, p1, p2, p3⟩ := bad1_sp hg I0 x0' (c := 1) (r := 1) (C := 1) (R := 1) rfl rfl (by decide) (by decide)
    refine ⟨w1, ?_⟩
    simp [fX11_cleaned, kX11_cleaned, ent, entp, jX11_cleaned, bX11_cleaned_0, bX11_cleaned_1, i_aload, i_ifeq, i_ifne, i_iload, i_ireturn, i_jmp, i_push, i_putf, msk, lset1, lset2, clr, Value.category, Option.toList, List.cons_append, List.nil_append, List.length_cons, List.length_nil, hN, st_0 hI.1, hw0, cvk_1 hO q0, cvk_3 hO p1]
  | some n0 =>
    rw [h0] at q0 ho
    simp only [bI, Option.isSome, if_true] at q0
    simp only [] at ho
    obtain ⟨l0, e0⟩ := rng_some (by omega) h0
    subst e0
    cases ho
theorem coin_z {g : GE} {w : Mem} {M fed kept : Nat} {fp : Int32} {tp : Nat → Int32} {rf : Nat → Nat} {δ : DE} {τ : TE} {im : Nat → TE} {x : Nat → Int32} (hg : FU g) (hd : WF δ) (hI : RI w M fed kept fp tp rf δ τ im x) (x0 x1 : Int32) {pz : Nat × Nat} (ho : coinO δ x0 x1 = .inr pz) : ∃ w', fX11_coin g [.ref M, .int x0, .int x1] w = some (.inl (some (.int 0)), w') := by
  obtain ⟨w0, hw0, I0, F0⟩ := hI.t0
  obtain ⟨b1, b2, b3, b4, b5, b6, b7, b8⟩ := id hd.1
  obtain ⟨hO, hXO, hRK, hRZ, hrf⟩ := id I0
  obtain ⟨x1', x3', x27, x32, x33, x34⟩ := id hXO
  obtain ⟨hTp, hD, hR, hCp, hHb, hKp, hRP⟩ := id hRK
  have hn := nR_le hd
  have x0' : (va_up x 0 0) 0 = 0 := va_up_self _ _ _
  obtain ⟨N, hN⟩ : ∃ N, g.1 = N + 16 := ⟨g.1 - 16, by omega⟩
  unfold coinO at ho
  have q0 := isHeir_sp hg hO hD b1 x0
  cases h0 : rng x0 (δ.1 0) with
  | none =>
    rw [h0] at q0
    simp only [bI, Option.isSome, Bool.false_eq_true, if_false] at q0
    obtain ⟨w1, p1, p2, p3⟩ := bad1_sp hg I0 x0' (c := 1) (r := 0) (C := 1) (R := 0) rfl rfl (by decide) (by decide)
    refine ⟨w1, ?_⟩
    simp [fX11_coin, kX11_coin, ent, entp, jX11_coin, bX11_coin_0, bX11_coin_1, bX11_coin_2, bX11_coin_3, bX11_coin_4, bX11_coin_5, bX11_coin_6, bX11_coin_7, i_aload, i_getf, i_iceq, i_icge, i_icle, i_ifeq, i_ifne, i_iinc, i_iload, i_ireturn, i_istore, i_jmp, i_push, i_putf, msk, lset1, lset2, clr, Value.category, Option.toList, List.cons_append, List.nil_append, List.length_cons, List.length_nil, hN, st_0 hI.1, hw0, cvk_1 hO q0, cvk_3 hO p1]
  | some n0 =>
    rw [h0] at q0 ho
    simp only [bI, Option.isSome, if_true] at q0
    simp only [] at ho
    obtain ⟨l0, e0⟩ := rng_some (by omega) h0
    subst e0
    have q1 := in_sp (w := w0) hg x1 (n := 1 + 1) (y := 1) (by decide) (by decide)
    cases h1 : rng x1 (1 + 1) with
    | none =>
      rw [h1] at q1
      simp only [bI, Option.isSome, Bool.false_eq_true, if_false] at q1
      obtain ⟨w1, p1, p2, p3⟩ := bad1_sp hg I0 x0' (c := 2) (r := 2) (C := 2) (R := 2) rfl rfl (by decide) (by decide)
      refine ⟨w1, ?_⟩
      simp [fX11_coin, kX11_coin, ent, entp, jX11_coin, bX11_coin_0, bX11_coin_1, bX11_coin_2, bX11_coin_3, bX11_coin_4, bX11_coin_5, bX11_coin_6, bX11_coin_7, i_aload, i_getf, i_iceq, i_icge, i_icle, i_ifeq, i_ifne, i_iinc, i_iload, i_ireturn, i_istore, i_jmp, i_push, i_putf, msk, lset1, lset2, clr, Value.category, Option.toList, List.cons_append, List.nil_append, List.length_cons, List.length_nil, hN, st_0 hI.1, hw0, cvk_1 hO q0, cvk_3 hO (bad0_sp hg hO x0' 1 0), csk_3 q1, cvk_3 hO p1]
    | some n1 =>
      rw [h1] at q1 ho
      simp only [bI, Option.isSome, if_true] at q1
      simp only [] at ho
      obtain ⟨l1, e1⟩ := rng_some (by omega) h1
      subst e1
      cases ho
theorem fewest_z {g : GE} {w : Mem} {M fed kept : Nat} {fp : Int32} {tp : Nat → Int32} {rf : Nat → Nat} {δ : DE} {τ : TE} {im : Nat → TE} {x : Nat → Int32} (hg : FU g) (hd : WF δ) (hI : RI w M fed kept fp tp rf δ τ im x) (x0 x1 : Int32) {pz : Nat × Nat} (ho : fewestO δ x0 x1 = .inr pz) : ∃ w', fX11_fewest g [.ref M, .int x0, .int x1] w = some (.inl (some (.int 0)), w') := by
  obtain ⟨w0, hw0, I0, F0⟩ := hI.t0
  obtain ⟨b1, b2, b3, b4, b5, b6, b7, b8⟩ := id hd.1
  obtain ⟨hO, hXO, hRK, hRZ, hrf⟩ := id I0
  obtain ⟨x1', x3', x27, x32, x33, x34⟩ := id hXO
  obtain ⟨hTp, hD, hR, hCp, hHb, hKp, hRP⟩ := id hRK
  have hn := nR_le hd
  have x0' : (va_up x 0 0) 0 = 0 := va_up_self _ _ _
  obtain ⟨N, hN⟩ : ∃ N, g.1 = N + 4 := ⟨g.1 - 4, by omega⟩
  unfold fewestO at ho
  have q0 := isThing_sp hg hO hD b2 x0
  cases h0 : rng x0 (δ.1 1) with
  | none =>
    rw [h0] at q0
    simp only [bI, Option.isSome, Bool.false_eq_true, if_false] at q0
    obtain ⟨w1, p1, p2, p3⟩ := bad1_sp hg I0 x0' (c := 1) (r := 0) (C := 1) (R := 0) rfl rfl (by decide) (by decide)
    refine ⟨w1, ?_⟩
    simp [fX11_fewest, kX11_fewest, ent, entp, jX11_fewest, bX11_fewest_0, bX11_fewest_1, bX11_fewest_2, bX11_fewest_3, bX11_fewest_4, bX11_fewest_5, bX11_fewest_6, bX11_fewest_7, i_aload, i_getf, i_iaload, i_icge, i_iclt, i_icne, i_ifeq, i_ifne, i_iinc, i_iload, i_ireturn, i_ishl, i_istore, i_isub, i_jmp, i_push, i_putf, msk, lset1, lset2, clr, Value.category, Option.toList, List.cons_append, List.nil_append, List.length_cons, List.length_nil, hN, st_0 hI.1, hw0, cvk_1 hO q0, cvk_3 hO p1]
  | some n0 =>
    rw [h0] at q0 ho
    simp only [bI, Option.isSome, if_true] at q0
    simp only [] at ho
    obtain ⟨l0, e0⟩ := rng_some (by omega) h0
    subst e0
    have q1 := in_sp (w := w0) hg x1 (n := 1 + 1) (y := 1) (by decide) (by decide)
    cases h1 : rng x1 (1 + 1) with
    | none =>
      rw [h1] at q1
      simp only [bI, Option.isSome, Bool.false_eq_true, if_false] at q1
      obtain ⟨w1, p1, p2, p3⟩ := bad1_sp hg I0 x0' (c := 2) (r := 2) (C := 2) (R := 2) rfl rfl (by decide) (by decide)
      refine ⟨w1, ?_⟩
      simp [fX11_fewest, kX11_fewest, ent, entp, jX11_fewest, bX11_fewest_0, bX11_fewest_1, bX11_fewest_2, bX11_fewest_3, bX11_fewest_4, bX11_fewest_5, bX11_fewest_6, bX11_fewest_7, i_aload, i_getf, i_iaload, i_icge, i_iclt, i_icne, i_ifeq, i_ifne, i_iinc, i_iload, i_ireturn, i_ishl, i_istore, i_isub, i_jmp, i_push, i_putf, msk, lset1, lset2, clr, Value.category, Option.toList, List.cons_append, List.nil_append, List.length_cons, List.length_nil, hN, st_0 hI.1, hw0, cvk_1 hO q0, cvk_3 hO (bad0_sp hg hO x0' 1 0), csk_3 q1, cvk_3 hO p1]
    | some n1 =>
      rw [h1] at q1 ho
      simp only [bI, Option.isSome, if_true] at q1
      simp only [] at ho
      obtain ⟨l1, e1⟩ := rng_some (by omega) h1
      subst e1
      cases ho
theorem gains_z {g : GE} {w : Mem} {M fed kept : Nat} {fp : Int32} {tp : Nat → Int32} {rf : Nat → Nat} {δ : DE} {τ : TE} {im : Nat → TE} {x : Nat → Int32} (hg : FU g) (hd : WF δ) (hI : RI w M fed kept fp tp rf δ τ im x) (x0 : Int32) {pz : Nat × Nat} (ho : gainsO δ x0 = .inr pz) : ∃ w', fX11_gains g [.ref M, .int x0] w = some (.inl (some (.int 0)), w') := by
  obtain ⟨w0, hw0, I0, F0⟩ := hI.t0
  obtain ⟨b1, b2, b3, b4, b5, b6, b7, b8⟩ := id hd.1
  obtain ⟨hO, hXO, hRK, hRZ, hrf⟩ := id I0
  obtain ⟨x1', x3', x27, x32, x33, x34⟩ := id hXO
  obtain ⟨hTp, hD, hR, hCp, hHb, hKp, hRP⟩ := id hRK
  have hn := nR_le hd
  have x0' : (va_up x 0 0) 0 = 0 := va_up_self _ _ _
  obtain ⟨N, hN⟩ : ∃ N, g.1 = N + 2 := ⟨g.1 - 2, by omega⟩
  unfold gainsO at ho
  have q0 := isBlot_sp hg hO hD b4 x0
  cases h0 : rng x0 (δ.1 3) with
  | none =>
    rw [h0] at q0
    simp only [bI, Option.isSome, Bool.false_eq_true, if_false] at q0
    obtain ⟨w1, p1, p2, p3⟩ := bad1_sp hg I0 x0' (c := 1) (r := 1) (C := 1) (R := 1) rfl rfl (by decide) (by decide)
    refine ⟨w1, ?_⟩
    simp [fX11_gains, kX11_gains, ent, entp, jX11_gains, bX11_gains_0, bX11_gains_1, bX11_gains_2, bX11_gains_3, bX11_gains_4, bX11_gains_5, bX11_gains_6, bX11_gains_7, bX11_gains_8, bX11_gains_9, i_aaload, i_aload, i_getf, i_iaload, i_iastore, i_iceq, i_icge, i_icle, i_ifeq, i_ifle, i_ifne, i_iinc, i_iload, i_ior, i_ireturn, i_ishl, i_istore, i_jmp, i_push, i_putf, msk, lset1, lset2, clr, Value.category, Option.toList, List.cons_append, List.nil_append, List.length_cons, List.length_nil, hN, st_0 hI.1, hw0, cvk_1 hO q0, cvk_3 hO p1]
  | some n0 =>
    rw [h0] at q0 ho
    simp only [bI, Option.isSome, if_true] at q0
    simp only [] at ho
    obtain ⟨l0, e0⟩ := rng_some (by omega) h0
    subst e0
    cases ho
theorem gets_z {g : GE} {w : Mem} {M fed kept : Nat} {fp : Int32} {tp : Nat → Int32} {rf : Nat → Nat} {δ : DE} {τ : TE} {im : Nat → TE} {x : Nat → Int32} (hg : FU g) (hd : WF δ) (hI : RI w M fed kept fp tp rf δ τ im x) (x0 x1 x2 : Int32) {pz : Nat × Nat} (ho : getsO δ x0 x1 x2 = .inr pz) : ∃ w', fX11_gets g [.ref M, .int x0, .int x1, .int x2] w = some (.inl (some (.int 0)), w') := by
  obtain ⟨w0, hw0, I0, F0⟩ := hI.t0
  obtain ⟨b1, b2, b3, b4, b5, b6, b7, b8⟩ := id hd.1
  obtain ⟨hO, hXO, hRK, hRZ, hrf⟩ := id I0
  obtain ⟨x1', x3', x27, x32, x33, x34⟩ := id hXO
  obtain ⟨hTp, hD, hR, hCp, hHb, hKp, hRP⟩ := id hRK
  have hn := nR_le hd
  have x0' : (va_up x 0 0) 0 = 0 := va_up_self _ _ _
  obtain ⟨N, hN⟩ : ∃ N, g.1 = N + 16 := ⟨g.1 - 16, by omega⟩
  unfold getsO at ho
  have q0 := isReading_sp hg hO x27 hn x0
  cases h0 : rng x0 (nR δ) with
  | none =>
    rw [h0] at q0
    simp only [bI, Option.isSome, Bool.false_eq_true, if_false] at q0
    obtain ⟨w1, p1, p2, p3⟩ := bad1_sp hg I0 x0' (c := 1) (r := 0) (C := 1) (R := 0) rfl rfl (by decide) (by decide)
    refine ⟨w1, ?_⟩
    simp [fX11_gets, kX11_gets, ent, entp, jX11_gets, bX11_gets_0, bX11_gets_1, bX11_gets_2, bX11_gets_3, bX11_gets_4, bX11_gets_5, i_aload, i_ifeq, i_ifne, i_iload, i_ireturn, i_jmp, i_push, i_putf, msk, lset1, lset2, clr, Value.category, Option.toList, List.cons_append, List.nil_append, List.length_cons, List.length_nil, hN, st_0 hI.1, hw0, cvk_1 hO q0, cvk_3 hO p1]
  | some n0 =>
    rw [h0] at q0 ho
    simp only [bI, Option.isSome, if_true] at q0
    simp only [] at ho
    obtain ⟨l0, e0⟩ := rng_some (by omega) h0
    subst e0
    have q1 := isHeir_sp hg hO hD b1 x1
    cases h1 : rng x1 (δ.1 0) with
    | none =>
      rw [h1] at q1
      simp only [bI, Option.isSome, Bool.false_eq_true, if_false] at q1
      obtain ⟨w1, p1, p2, p3⟩ := bad1_sp hg I0 x0' (c := 1) (r := 0) (C := 1) (R := 0) rfl rfl (by decide) (by decide)
      refine ⟨w1, ?_⟩
      simp [fX11_gets, kX11_gets, ent, entp, jX11_gets, bX11_gets_0, bX11_gets_1, bX11_gets_2, bX11_gets_3, bX11_gets_4, bX11_gets_5, i_aload, i_ifeq, i_ifne, i_iload, i_ireturn, i_jmp, i_push, i_putf, msk, lset1, lset2, clr, Value.category, Option.toList, List.cons_append, List.nil_append, List.length_cons, List.length_nil, hN, st_0 hI.1, hw0, cvk_1 hO q0, cvk_1 hO q1, cvk_3 hO p1]
    | some n1 =>
      rw [h1] at q1 ho
      simp only [bI, Option.isSome, if_true] at q1
      simp only [] at ho
      obtain ⟨l1, e1⟩ := rng_some (by omega) h1
      subst e1
      have q2 := in_sp (w := w0) hg x2 (n := 1 + 1) (y := 1) (by decide) (by decide)
      cases h2 : rng x2 (1 + 1) with
      | none =>
        rw [h2] at q2
        simp only [bI, Option.isSome, Bool.false_eq_true, if_false] at q2
        obtain ⟨w1, p1, p2, p3⟩ := bad1_sp hg I0 x0' (c := 2) (r := 2) (C := 2) (R := 2) rfl rfl (by decide) (by decide)
        refine ⟨w1, ?_⟩
        simp [fX11_gets, kX11_gets, ent, entp, jX11_gets, bX11_gets_0, bX11_gets_1, bX11_gets_2, bX11_gets_3, bX11_gets_4, bX11_gets_5, i_aload, i_ifeq, i_ifne, i_iload, i_ireturn, i_jmp, i_push, i_putf, msk, lset1, lset2, clr, Value.category, Option.toList, List.cons_append, List.nil_append, List.length_cons, List.length_nil, hN, st_0 hI.1, hw0, cvk_1 hO q0, cvk_1 hO q1, cvk_3 hO (bad0_sp hg hO x0' 1 0), csk_3 q2, cvk_3 hO p1]
      | some n2 =>
        rw [h2] at q2 ho
        simp only [bI, Option.isSome, if_true] at q2
        simp only [] at ho
        obtain ⟨l2, e2⟩ := rng_some (by omega) h2
        subst e2
        cases ho
theorem goes_z {g : GE} {w : Mem} {M fed kept : Nat} {fp : Int32} {tp : Nat → Int32} {rf : Nat → Nat} {δ : DE} {τ : TE} {im : Nat → TE} {x : Nat → Int32} (hg : FU g) (hd : WF δ) (hI : RI w M fed kept fp tp rf δ τ im x) (x0 x1 : Int32) {pz : Nat × Nat} (ho : goesO δ x0 x1 = .inr pz) : ∃ w', fX11_goes g [.ref M, .int x0, .int x1] w = some (.inl (some (.int 0)), w') := by
  obtain ⟨w0, hw0, I0, F0⟩ := hI.t0
  obtain ⟨b1, b2, b3, b4, b5, b6, b7, b8⟩ := id hd.1
  obtain ⟨hO, hXO, hRK, hRZ, hrf⟩ := id I0
  obtain ⟨x1', x3', x27, x32, x33, x34⟩ := id hXO
  obtain ⟨hTp, hD, hR, hCp, hHb, hKp, hRP⟩ := id hRK
  have hn := nR_le hd
  have x0' : (va_up x 0 0) 0 = 0 := va_up_self _ _ _
  obtain ⟨N, hN⟩ : ∃ N, g.1 = N + 16 := ⟨g.1 - 16, by omega⟩
  unfold goesO at ho
  have q0 := isReading_sp hg hO x27 hn x0
  cases h0 : rng x0 (nR δ) with
  | none =>
    rw [h0] at q0
    simp only [bI, Option.isSome, Bool.false_eq_true, if_false] at q0
    obtain ⟨w1, p1, p2, p3⟩ := bad1_sp hg I0 x0' (c := 1) (r := 0) (C := 1) (R := 0) rfl rfl (by decide) (by decide)
    refine ⟨w1, ?_⟩
    simp [fX11_goes, kX11_goes, ent, entp, jX11_goes, bX11_goes_0, bX11_goes_1, bX11_goes_2, i_aload, i_ifeq, i_ifne, i_iload, i_ireturn, i_jmp, i_push, i_putf, msk, lset1, lset2, clr, Value.category, Option.toList, List.cons_append, List.nil_append, List.length_cons, List.length_nil, hN, st_0 hI.1, hw0, cvk_1 hO q0, cvk_3 hO p1]
  | some n0 =>
    rw [h0] at q0 ho
    simp only [bI, Option.isSome, if_true] at q0
    simp only [] at ho
    obtain ⟨l0, e0⟩ := rng_some (by omega) h0
    subst e0
    have q1 := isThing_sp hg hO hD b2 x1
    cases h1 : rng x1 (δ.1 1) with
    | none =>
      rw [h1] at q1
      simp only [bI, Option.isSome, Bool.false_eq_true, if_false] at q1
      obtain ⟨w1, p1, p2, p3⟩ := bad1_sp hg I0 x0' (c := 1) (r := 0) (C := 1) (R := 0) rfl rfl (by decide) (by decide)
      refine ⟨w1, ?_⟩
      simp [fX11_goes, kX11_goes, ent, entp, jX11_goes, bX11_goes_0, bX11_goes_1, bX11_goes_2, i_aload, i_ifeq, i_ifne, i_iload, i_ireturn, i_jmp, i_push, i_putf, msk, lset1, lset2, clr, Value.category, Option.toList, List.cons_append, List.nil_append, List.length_cons, List.length_nil, hN, st_0 hI.1, hw0, cvk_1 hO q0, cvk_1 hO q1, cvk_3 hO p1]
    | some n1 =>
      rw [h1] at q1 ho
      simp only [bI, Option.isSome, if_true] at q1
      simp only [] at ho
      obtain ⟨l1, e1⟩ := rng_some (by omega) h1
      subst e1
      cases ho
theorem holding_z {g : GE} {w : Mem} {M fed kept : Nat} {fp : Int32} {tp : Nat → Int32} {rf : Nat → Nat} {δ : DE} {τ : TE} {im : Nat → TE} {x : Nat → Int32} (hg : FU g) (hd : WF δ) (hI : RI w M fed kept fp tp rf δ τ im x) (x0 x1 : Int32) {pz : Nat × Nat} (ho : holdingO δ x0 x1 = .inr pz) : ∃ w', fX11_holding g [.ref M, .int x0, .int x1] w = some (.inl (some (.int 0)), w') := by
  obtain ⟨w0, hw0, I0, F0⟩ := hI.t0
  obtain ⟨b1, b2, b3, b4, b5, b6, b7, b8⟩ := id hd.1
  obtain ⟨hO, hXO, hRK, hRZ, hrf⟩ := id I0
  obtain ⟨x1', x3', x27, x32, x33, x34⟩ := id hXO
  obtain ⟨hTp, hD, hR, hCp, hHb, hKp, hRP⟩ := id hRK
  have hn := nR_le hd
  have x0' : (va_up x 0 0) 0 = 0 := va_up_self _ _ _
  obtain ⟨N, hN⟩ : ∃ N, g.1 = N + 2 := ⟨g.1 - 2, by omega⟩
  unfold holdingO at ho
  have q0 := isBlot_sp hg hO hD b4 x0
  cases h0 : rng x0 (δ.1 3) with
  | none =>
    rw [h0] at q0
    simp only [bI, Option.isSome, Bool.false_eq_true, if_false] at q0
    obtain ⟨w1, p1, p2, p3⟩ := bad1_sp hg I0 x0' (c := 1) (r := 1) (C := 1) (R := 1) rfl rfl (by decide) (by decide)
    refine ⟨w1, ?_⟩
    simp [fX11_holding, kX11_holding, ent, entp, jX11_holding, bX11_holding_0, bX11_holding_1, bX11_holding_2, i_aaload, i_aload, i_getf, i_iaload, i_icge, i_icne, i_ifeq, i_ifne, i_iinc, i_iload, i_ireturn, i_istore, i_jmp, i_push, i_putf, msk, lset1, lset2, clr, Value.category, Option.toList, List.cons_append, List.nil_append, List.length_cons, List.length_nil, hN, st_0 hI.1, hw0, cvk_1 hO q0, cvk_3 hO p1]
  | some n0 =>
    rw [h0] at q0 ho
    simp only [bI, Option.isSome, if_true] at q0
    simp only [] at ho
    obtain ⟨l0, e0⟩ := rng_some (by omega) h0
    subst e0
    cases ho
theorem likely_z {g : GE} {w : Mem} {M fed kept : Nat} {fp : Int32} {tp : Nat → Int32} {rf : Nat → Nat} {δ : DE} {τ : TE} {im : Nat → TE} {x : Nat → Int32} (hg : FU g) (hd : WF δ) (hI : RI w M fed kept fp tp rf δ τ im x) (x0 x1 x2 : Int32) {pz : Nat × Nat} (ho : likelyO δ τ x0 x1 x2 = .inr pz) : ∃ w', fX11_likely g [.ref M, .int x0, .int x1, .int x2] w = some (.inl (some (.long 0)), w') := by
  obtain ⟨w0, hw0, I0, F0⟩ := hI.t0
  obtain ⟨b1, b2, b3, b4, b5, b6, b7, b8⟩ := id hd.1
  obtain ⟨hO, hXO, hRK, hRZ, hrf⟩ := id I0
  obtain ⟨x1', x3', x27, x32, x33, x34⟩ := id hXO
  obtain ⟨hTp, hD, hR, hCp, hHb, hKp, hRP⟩ := id hRK
  have hn := nR_le hd
  have x0' : (va_up x 0 0) 0 = 0 := va_up_self _ _ _
  obtain ⟨N, hN⟩ : ∃ N, g.1 = N + 4 := ⟨g.1 - 4, by omega⟩
  unfold likelyO at ho
  have q0 := isThing_sp hg hO hD b2 x0
  cases h0 : rng x0 (δ.1 1) with
  | none =>
    rw [h0] at q0
    simp only [bI, Option.isSome, Bool.false_eq_true, if_false] at q0
    obtain ⟨w1, p1, p2, p3⟩ := bad1_sp hg I0 x0' (c := 1) (r := 0) (C := 1) (R := 0) rfl rfl (by decide) (by decide)
    refine ⟨w1, ?_⟩
    simp [fX11_likely, kX11_likely, ent, entp, jX11_likely, bX11_likely_0, bX11_likely_1, bX11_likely_2, bX11_likely_3, bX11_likely_4, bX11_likely_5, bX11_likely_6, bX11_likely_7, bX11_likely_8, i_aload, i_getf, i_i2l, i_icge, i_icne, i_ifeq, i_ifne, i_iinc, i_iload, i_istore, i_jmp, i_ladd, i_lcmp, i_ldiv, i_lload, i_lrem, i_lreturn, i_lstore, i_push, i_putf, msk, lset1, lset2, clr, Value.category, Option.toList, List.cons_append, List.nil_append, List.length_cons, List.length_nil, hN, st_0 hI.1, hw0, cvk_1 hO q0, cvk_3 hO p1]
  | some n0 =>
    rw [h0] at q0 ho
    simp only [bI, Option.isSome, if_true] at q0
    simp only [] at ho
    obtain ⟨l0, e0⟩ := rng_some (by omega) h0
    subst e0
    have q1 := isHeir_sp hg hO hD b1 x1
    cases h1 : rng x1 (δ.1 0) with
    | none =>
      rw [h1] at q1
      simp only [bI, Option.isSome, Bool.false_eq_true, if_false] at q1
      obtain ⟨w1, p1, p2, p3⟩ := bad1_sp hg I0 x0' (c := 1) (r := 0) (C := 1) (R := 0) rfl rfl (by decide) (by decide)
      refine ⟨w1, ?_⟩
      simp [fX11_likely, kX11_likely, ent, entp, jX11_likely, bX11_likely_0, bX11_likely_1, bX11_likely_2, bX11_likely_3, bX11_likely_4, bX11_likely_5, bX11_likely_6, bX11_likely_7, bX11_likely_8, i_aload, i_getf, i_i2l, i_icge, i_icne, i_ifeq, i_ifne, i_iinc, i_iload, i_istore, i_jmp, i_ladd, i_lcmp, i_ldiv, i_lload, i_lrem, i_lreturn, i_lstore, i_push, i_putf, msk, lset1, lset2, clr, Value.category, Option.toList, List.cons_append, List.nil_append, List.length_cons, List.length_nil, hN, st_0 hI.1, hw0, cvk_1 hO q0, cvk_1 hO q1, cvk_3 hO p1]
    | some n1 =>
      rw [h1] at q1 ho
      simp only [bI, Option.isSome, if_true] at q1
      simp only [] at ho
      obtain ⟨l1, e1⟩ := rng_some (by omega) h1
      subst e1
      have q2 := in_sp (w := w0) hg x2 (n := 1 + 1) (y := 1) (by decide) (by decide)
      cases h2 : rng x2 (1 + 1) with
      | none =>
        rw [h2] at q2
        simp only [bI, Option.isSome, Bool.false_eq_true, if_false] at q2
        obtain ⟨w1, p1, p2, p3⟩ := bad1_sp hg I0 x0' (c := 2) (r := 2) (C := 2) (R := 2) rfl rfl (by decide) (by decide)
        refine ⟨w1, ?_⟩
        simp [fX11_likely, kX11_likely, ent, entp, jX11_likely, bX11_likely_0, bX11_likely_1, bX11_likely_2, bX11_likely_3, bX11_likely_4, bX11_likely_5, bX11_likely_6, bX11_likely_7, bX11_likely_8, i_aload, i_getf, i_i2l, i_icge, i_icne, i_ifeq, i_ifne, i_iinc, i_iload, i_istore, i_jmp, i_ladd, i_lcmp, i_ldiv, i_lload, i_lrem, i_lreturn, i_lstore, i_push, i_putf, msk, lset1, lset2, clr, Value.category, Option.toList, List.cons_append, List.nil_append, List.length_cons, List.length_nil, hN, st_0 hI.1, hw0, cvk_1 hO q0, cvk_1 hO q1, cvk_3 hO (bad0_sp hg hO x0' 1 0), csk_3 q2, cvk_3 hO p1]
      | some n2 =>
        rw [h2] at q2 ho
        simp only [bI, Option.isSome, if_true] at q2
        simp only [] at ho
        obtain ⟨l2, e2⟩ := rng_some (by omega) h2
        subst e2
        cases ho
theorem middle_z {g : GE} {w : Mem} {M fed kept : Nat} {fp : Int32} {tp : Nat → Int32} {rf : Nat → Nat} {δ : DE} {τ : TE} {im : Nat → TE} {x : Nat → Int32} (hg : FU g) (hd : WF δ) (hI : RI w M fed kept fp tp rf δ τ im x) (x0 : Int32) {pz : Nat × Nat} (ho : middleO δ x0 = .inr pz) : ∃ w', fX11_middle g [.ref M, .int x0] w = some (.inl (some (.int 0)), w') := by
  obtain ⟨w0, hw0, I0, F0⟩ := hI.t0
  obtain ⟨b1, b2, b3, b4, b5, b6, b7, b8⟩ := id hd.1
  obtain ⟨hO, hXO, hRK, hRZ, hrf⟩ := id I0
  obtain ⟨x1', x3', x27, x32, x33, x34⟩ := id hXO
  obtain ⟨hTp, hD, hR, hCp, hHb, hKp, hRP⟩ := id hRK
  have hn := nR_le hd
  have x0' : (va_up x 0 0) 0 = 0 := va_up_self _ _ _
  obtain ⟨N, hN⟩ : ∃ N, g.1 = N + 2 := ⟨g.1 - 2, by omega⟩
  unfold middleO at ho
  have q0 := in_sp (w := w0) hg x0 (n := 1 + 1) (y := 1) (by decide) (by decide)
  cases h0 : rng x0 (1 + 1) with
  | none =>
    rw [h0] at q0
    simp only [bI, Option.isSome, Bool.false_eq_true, if_false] at q0
    obtain ⟨w1, p1, p2, p3⟩ := bad1_sp hg I0 x0' (c := 1) (r := 2) (C := 1) (R := 2) rfl rfl (by decide) (by decide)
    refine ⟨w1, ?_⟩
    simp [fX11_middle, kX11_middle, ent, entp, jX11_middle, bX11_middle_0, bX11_middle_1, bX11_middle_2, bX11_middle_3, bX11_middle_4, bX11_middle_5, bX11_middle_6, bX11_middle_7, bX11_middle_8, bX11_middle_9, i_aload, i_getf, i_iceq, i_icge, i_icle, i_iclt, i_ifeq, i_ifne, i_iinc, i_iload, i_ireturn, i_istore, i_jmp, i_push, i_putf, msk, lset1, lset2, clr, Value.category, Option.toList, List.cons_append, List.nil_append, List.length_cons, List.length_nil, hN, st_0 hI.1, hw0, csk_3 q0, cvk_3 hO p1]
  | some n0 =>
    rw [h0] at q0 ho
    simp only [bI, Option.isSome, if_true] at q0
    simp only [] at ho
    obtain ⟨l0, e0⟩ := rng_some (by omega) h0
    subst e0
    cases ho
theorem more_z {g : GE} {w : Mem} {M fed kept : Nat} {fp : Int32} {tp : Nat → Int32} {rf : Nat → Nat} {δ : DE} {τ : TE} {im : Nat → TE} {x : Nat → Int32} (hg : FU g) (hd : WF δ) (hI : RI w M fed kept fp tp rf δ τ im x) (x0 x1 : Int32) {pz : Nat × Nat} (ho : moreO δ x0 x1 = .inr pz) : ∃ w', fX11_more g [.ref M, .int x0, .int x1] w = some (.inl (some (.int 0)), w') := by
  obtain ⟨w0, hw0, I0, F0⟩ := hI.t0
  obtain ⟨b1, b2, b3, b4, b5, b6, b7, b8⟩ := id hd.1
  obtain ⟨hO, hXO, hRK, hRZ, hrf⟩ := id I0
  obtain ⟨x1', x3', x27, x32, x33, x34⟩ := id hXO
  obtain ⟨hTp, hD, hR, hCp, hHb, hKp, hRP⟩ := id hRK
  have hn := nR_le hd
  have x0' : (va_up x 0 0) 0 = 0 := va_up_self _ _ _
  obtain ⟨N, hN⟩ : ∃ N, g.1 = N + 4 := ⟨g.1 - 4, by omega⟩
  unfold moreO at ho
  have q0 := in_sp (w := w0) hg x0 (n := δ.1 5) rfl (by omega)
  cases h0 : rng x0 (δ.1 5) with
  | none =>
    rw [h0] at q0
    simp only [bI, Option.isSome, Bool.false_eq_true, if_false] at q0
    obtain ⟨w1, p1, p2, p3⟩ := bad1_sp hg I0 x0' (c := 1) (r := 0) (C := 1) (R := 0) rfl rfl (by decide) (by decide)
    refine ⟨w1, ?_⟩
    simp [fX11_more, kX11_more, ent, entp, jX11_more, bX11_more_0, bX11_more_1, bX11_more_2, bX11_more_3, bX11_more_4, i_aload, i_getf, i_iaload, i_icne, i_ifeq, i_ifle, i_ifne, i_iload, i_ireturn, i_isub, i_jmp, i_push, i_putf, msk, lset1, lset2, clr, Value.category, Option.toList, List.cons_append, List.nil_append, List.length_cons, List.length_nil, hN, st_0 hI.1, hw0, gf_eq hO, mg_11, hD.1.rc 5 5 rfl (by decide) (by decide), csk_3 q0, cvk_3 hO p1]
  | some n0 =>
    rw [h0] at q0 ho
    simp only [bI, Option.isSome, if_true] at q0
    simp only [] at ho
    obtain ⟨l0, e0⟩ := rng_some (by omega) h0
    subst e0
    have q1 := in_sp (w := w0) hg x1 (n := 2 + 1) (y := 2) (by decide) (by decide)
    cases h1 : rng x1 (2 + 1) with
    | none =>
      rw [h1] at q1
      simp only [bI, Option.isSome, Bool.false_eq_true, if_false] at q1
      obtain ⟨w1, p1, p2, p3⟩ := bad1_sp hg I0 x0' (c := 2) (r := 2) (C := 2) (R := 2) rfl rfl (by decide) (by decide)
      refine ⟨w1, ?_⟩
      simp [fX11_more, kX11_more, ent, entp, jX11_more, bX11_more_0, bX11_more_1, bX11_more_2, bX11_more_3, bX11_more_4, i_aload, i_getf, i_iaload, i_icne, i_ifeq, i_ifle, i_ifne, i_iload, i_ireturn, i_isub, i_jmp, i_push, i_putf, msk, lset1, lset2, clr, Value.category, Option.toList, List.cons_append, List.nil_append, List.length_cons, List.length_nil, hN, st_0 hI.1, hw0, gf_eq hO, mg_11, hD.1.rc 5 5 rfl (by decide) (by decide), csk_3 q0, cvk_3 hO (bad0_sp hg hO x0' 1 0), csk_3 q1, cvk_3 hO p1]
    | some n1 =>
      rw [h1] at q1 ho
      simp only [bI, Option.isSome, if_true] at q1
      simp only [] at ho
      obtain ⟨l1, e1⟩ := rng_some (by omega) h1
      subst e1
      cases ho
theorem odds_z {g : GE} {w : Mem} {M fed kept : Nat} {fp : Int32} {tp : Nat → Int32} {rf : Nat → Nat} {δ : DE} {τ : TE} {im : Nat → TE} {x : Nat → Int32} (hg : FU g) (hd : WF δ) (hI : RI w M fed kept fp tp rf δ τ im x) (x0 : Int32) {pz : Nat × Nat} (ho : oddsO δ τ x0 = .inr pz) : ∃ w', fX11_odds g [.ref M, .int x0] w = some (.inl (some (.long 0)), w') := by
  obtain ⟨w0, hw0, I0, F0⟩ := hI.t0
  obtain ⟨b1, b2, b3, b4, b5, b6, b7, b8⟩ := id hd.1
  obtain ⟨hO, hXO, hRK, hRZ, hrf⟩ := id I0
  obtain ⟨x1', x3', x27, x32, x33, x34⟩ := id hXO
  obtain ⟨hTp, hD, hR, hCp, hHb, hKp, hRP⟩ := id hRK
  have hn := nR_le hd
  have x0' : (va_up x 0 0) 0 = 0 := va_up_self _ _ _
  obtain ⟨N, hN⟩ : ∃ N, g.1 = N + 16 := ⟨g.1 - 16, by omega⟩
  unfold oddsO at ho
  have q0 := isReading_sp hg hO x27 hn x0
  cases h0 : rng x0 (nR δ) with
  | none =>
    rw [h0] at q0
    simp only [bI, Option.isSome, Bool.false_eq_true, if_false] at q0
    obtain ⟨w1, p1, p2, p3⟩ := bad1_sp hg I0 x0' (c := 1) (r := 0) (C := 1) (R := 0) rfl rfl (by decide) (by decide)
    refine ⟨w1, ?_⟩
    simp [fX11_odds, kX11_odds, ent, entp, jX11_odds, bX11_odds_0, bX11_odds_1, i_aload, i_ifeq, i_ifne, i_iload, i_jmp, i_lreturn, i_push, i_putf, msk, lset1, lset2, clr, Value.category, Option.toList, List.cons_append, List.nil_append, List.length_cons, List.length_nil, hN, st_0 hI.1, hw0, cvk_1 hO q0, cvk_3 hO p1]
  | some n0 =>
    rw [h0] at q0 ho
    simp only [bI, Option.isSome, if_true] at q0
    simp only [] at ho
    obtain ⟨l0, e0⟩ := rng_some (by omega) h0
    subst e0
    cases ho
theorem pairs_z {g : GE} {w : Mem} {M fed kept : Nat} {fp : Int32} {tp : Nat → Int32} {rf : Nat → Nat} {δ : DE} {τ : TE} {im : Nat → TE} {x : Nat → Int32} (hg : FU g) (hd : WF δ) (hI : RI w M fed kept fp tp rf δ τ im x) (x0 x1 : Int32) {pz : Nat × Nat} (ho : pairsO δ x0 x1 = .inr pz) : ∃ w', fX11_pairs g [.ref M, .int x0, .int x1] w = some (.inl (some (.int 0)), w') := by
  obtain ⟨w0, hw0, I0, F0⟩ := hI.t0
  obtain ⟨b1, b2, b3, b4, b5, b6, b7, b8⟩ := id hd.1
  obtain ⟨hO, hXO, hRK, hRZ, hrf⟩ := id I0
  obtain ⟨x1', x3', x27, x32, x33, x34⟩ := id hXO
  obtain ⟨hTp, hD, hR, hCp, hHb, hKp, hRP⟩ := id hRK
  have hn := nR_le hd
  have x0' : (va_up x 0 0) 0 = 0 := va_up_self _ _ _
  obtain ⟨N, hN⟩ : ∃ N, g.1 = N + 16 := ⟨g.1 - 16, by omega⟩
  unfold pairsO at ho
  have q0 := isThing_sp hg hO hD b2 x0
  cases h0 : rng x0 (δ.1 1) with
  | none =>
    rw [h0] at q0
    simp only [bI, Option.isSome, Bool.false_eq_true, if_false] at q0
    obtain ⟨w1, p1, p2, p3⟩ := bad1_sp hg I0 x0' (c := 1) (r := 0) (C := 1) (R := 0) rfl rfl (by decide) (by decide)
    refine ⟨w1, ?_⟩
    simp [fX11_pairs, kX11_pairs, ent, entp, jX11_pairs, bX11_pairs_0, bX11_pairs_1, bX11_pairs_2, bX11_pairs_3, bX11_pairs_4, bX11_pairs_5, bX11_pairs_6, bX11_pairs_7, i_aload, i_getf, i_iadd, i_iceq, i_icge, i_icne, i_ifeq, i_ifne, i_iinc, i_iload, i_ireturn, i_istore, i_jmp, i_push, i_putf, msk, lset1, lset2, clr, Value.category, Option.toList, List.cons_append, List.nil_append, List.length_cons, List.length_nil, hN, st_0 hI.1, hw0, cvk_1 hO q0, cvk_3 hO p1]
  | some n0 =>
    rw [h0] at q0 ho
    simp only [bI, Option.isSome, if_true] at q0
    simp only [] at ho
    obtain ⟨l0, e0⟩ := rng_some (by omega) h0
    subst e0
    have q1 := isThing_sp hg hO hD b2 x1
    cases h1 : rng x1 (δ.1 1) with
    | none =>
      rw [h1] at q1
      simp only [bI, Option.isSome, Bool.false_eq_true, if_false] at q1
      obtain ⟨w1, p1, p2, p3⟩ := bad1_sp hg I0 x0' (c := 1) (r := 0) (C := 1) (R := 0) rfl rfl (by decide) (by decide)
      refine ⟨w1, ?_⟩
      simp [fX11_pairs, kX11_pairs, ent, entp, jX11_pairs, bX11_pairs_0, bX11_pairs_1, bX11_pairs_2, bX11_pairs_3, bX11_pairs_4, bX11_pairs_5, bX11_pairs_6, bX11_pairs_7, i_aload, i_getf, i_iadd, i_iceq, i_icge, i_icne, i_ifeq, i_ifne, i_iinc, i_iload, i_ireturn, i_istore, i_jmp, i_push, i_putf, msk, lset1, lset2, clr, Value.category, Option.toList, List.cons_append, List.nil_append, List.length_cons, List.length_nil, hN, st_0 hI.1, hw0, cvk_1 hO q0, cvk_1 hO q1, cvk_3 hO p1]
    | some n1 =>
      rw [h1] at q1 ho
      simp only [bI, Option.isSome, if_true] at q1
      simp only [] at ho
      obtain ⟨l1, e1⟩ := rng_some (by omega) h1
      subst e1
      by_cases z : n0 = n1
      · subst z
        obtain ⟨w1, p1, p2, p3⟩ := bad1_sp hg I0 x0' (c := 2) (r := 2) (C := 2) (R := 2) rfl rfl (by decide) (by decide)
        refine ⟨w1, ?_⟩
        simp [fX11_pairs, kX11_pairs, ent, entp, jX11_pairs, bX11_pairs_0, bX11_pairs_1, bX11_pairs_2, bX11_pairs_3, bX11_pairs_4, bX11_pairs_5, bX11_pairs_6, bX11_pairs_7, i_aload, i_getf, i_iadd, i_iceq, i_icge, i_icne, i_ifeq, i_ifne, i_iinc, i_iload, i_ireturn, i_istore, i_jmp, i_push, i_putf, msk, lset1, lset2, clr, Value.category, Option.toList, List.cons_append, List.nil_append, List.length_cons, List.length_nil, hN, st_0 hI.1, hw0, cvk_1 hO q0, cvk_3 hO (bad0_sp hg hO x0' 1 0), cvk_3 hO p1]
      · rw [if_neg z] at ho
        cases ho
theorem reading_z {g : GE} {w : Mem} {M fed kept : Nat} {fp : Int32} {tp : Nat → Int32} {rf : Nat → Nat} {δ : DE} {τ : TE} {im : Nat → TE} {x : Nat → Int32} (hg : FU g) (hd : WF δ) (hI : RI w M fed kept fp tp rf δ τ im x) (x0 x1 : Int32) {pz : Nat × Nat} (ho : readingO δ x0 x1 = .inr pz) : ∃ w', fX11_reading g [.ref M, .int x0, .int x1] w = some (.inl (some (.int 0)), w') := by
  obtain ⟨w0, hw0, I0, F0⟩ := hI.t0
  obtain ⟨b1, b2, b3, b4, b5, b6, b7, b8⟩ := id hd.1
  obtain ⟨hO, hXO, hRK, hRZ, hrf⟩ := id I0
  obtain ⟨x1', x3', x27, x32, x33, x34⟩ := id hXO
  obtain ⟨hTp, hD, hR, hCp, hHb, hKp, hRP⟩ := id hRK
  have hn := nR_le hd
  have x0' : (va_up x 0 0) 0 = 0 := va_up_self _ _ _
  obtain ⟨N, hN⟩ : ∃ N, g.1 = N + 16 := ⟨g.1 - 16, by omega⟩
  unfold readingO at ho
  have q0 := isReading_sp hg hO x27 hn x0
  cases h0 : rng x0 (nR δ) with
  | none =>
    rw [h0] at q0
    simp only [bI, Option.isSome, Bool.false_eq_true, if_false] at q0
    obtain ⟨w1, p1, p2, p3⟩ := bad1_sp hg I0 x0' (c := 1) (r := 0) (C := 1) (R := 0) rfl rfl (by decide) (by decide)
    refine ⟨w1, ?_⟩
    simp [fX11_reading, kX11_reading, ent, entp, jX11_reading, bX11_reading_0, bX11_reading_1, bX11_reading_2, bX11_reading_3, i_aload, i_ifeq, i_ifne, i_iload, i_ireturn, i_jmp, i_push, i_putf, msk, lset1, lset2, clr, Value.category, Option.toList, List.cons_append, List.nil_append, List.length_cons, List.length_nil, hN, st_0 hI.1, hw0, cvk_1 hO q0, cvk_3 hO p1]
  | some n0 =>
    rw [h0] at q0 ho
    simp only [bI, Option.isSome, if_true] at q0
    simp only [] at ho
    obtain ⟨l0, e0⟩ := rng_some (by omega) h0
    subst e0
    have q1 := isBlot_sp hg hO hD b4 x1
    cases h1 : rng x1 (δ.1 3) with
    | none =>
      rw [h1] at q1
      simp only [bI, Option.isSome, Bool.false_eq_true, if_false] at q1
      obtain ⟨w1, p1, p2, p3⟩ := bad1_sp hg I0 x0' (c := 2) (r := 1) (C := 2) (R := 1) rfl rfl (by decide) (by decide)
      refine ⟨w1, ?_⟩
      simp [fX11_reading, kX11_reading, ent, entp, jX11_reading, bX11_reading_0, bX11_reading_1, bX11_reading_2, bX11_reading_3, i_aload, i_ifeq, i_ifne, i_iload, i_ireturn, i_jmp, i_push, i_putf, msk, lset1, lset2, clr, Value.category, Option.toList, List.cons_append, List.nil_append, List.length_cons, List.length_nil, hN, st_0 hI.1, hw0, cvk_1 hO q0, cvk_3 hO (bad0_sp hg hO x0' 1 0), cvk_1 hO q1, cvk_3 hO p1]
    | some n1 =>
      rw [h1] at q1 ho
      simp only [bI, Option.isSome, if_true] at q1
      simp only [] at ho
      obtain ⟨l1, e1⟩ := rng_some (by omega) h1
      subst e1
      cases ho
theorem rows_z {g : GE} {w : Mem} {M fed kept : Nat} {fp : Int32} {tp : Nat → Int32} {rf : Nat → Nat} {δ : DE} {τ : TE} {im : Nat → TE} {x : Nat → Int32} (hg : FU g) (hd : WF δ) (hI : RI w M fed kept fp tp rf δ τ im x) (x0 : Int32) {pz : Nat × Nat} (ho : rowsO δ x0 = .inr pz) : ∃ w', fX11_rows g [.ref M, .int x0] w = some (.inl (some (.int 0)), w') := by
  obtain ⟨w0, hw0, I0, F0⟩ := hI.t0
  obtain ⟨b1, b2, b3, b4, b5, b6, b7, b8⟩ := id hd.1
  obtain ⟨hO, hXO, hRK, hRZ, hrf⟩ := id I0
  obtain ⟨x1', x3', x27, x32, x33, x34⟩ := id hXO
  obtain ⟨hTp, hD, hR, hCp, hHb, hKp, hRP⟩ := id hRK
  have hn := nR_le hd
  have x0' : (va_up x 0 0) 0 = 0 := va_up_self _ _ _
  obtain ⟨N, hN⟩ : ∃ N, g.1 = N + 2 := ⟨g.1 - 2, by omega⟩
  unfold rowsO at ho
  have q0 := in_sp (w := w0) hg x0 (n := 999 + 1) (y := 999) (by decide) (by decide)
  cases h0 : rng x0 (999 + 1) with
  | none =>
    rw [h0] at q0
    simp only [bI, Option.isSome, Bool.false_eq_true, if_false] at q0
    obtain ⟨w1, p1, p2, p3⟩ := bad1_sp hg I0 x0' (c := 1) (r := 2) (C := 1) (R := 2) rfl rfl (by decide) (by decide)
    refine ⟨w1, ?_⟩
    simp [fX11_rows, kX11_rows, ent, entp, jX11_rows, bX11_rows_0, bX11_rows_1, bX11_rows_2, bX11_rows_3, i_aload, i_getf, i_iadd, i_iaload, i_icge, i_ifeq, i_ifne, i_iinc, i_iload, i_ireturn, i_istore, i_jmp, i_push, i_putf, msk, lset1, lset2, clr, Value.category, Option.toList, List.cons_append, List.nil_append, List.length_cons, List.length_nil, hN, st_0 hI.1, hw0, csk_3 q0, cvk_3 hO p1]
  | some n0 =>
    rw [h0] at q0 ho
    simp only [bI, Option.isSome, if_true] at q0
    simp only [] at ho
    obtain ⟨l0, e0⟩ := rng_some (by omega) h0
    subst e0
    cases ho
theorem settlement_z {g : GE} {w : Mem} {M fed kept : Nat} {fp : Int32} {tp : Nat → Int32} {rf : Nat → Nat} {δ : DE} {τ : TE} {im : Nat → TE} {x : Nat → Int32} (hg : FU g) (hd : WF δ) (hI : RI w M fed kept fp tp rf δ τ im x) (x0 : Int32) {pz : Nat × Nat} (ho : settlementO δ x0 = .inr pz) : ∃ w', fX11_settlement g [.ref M, .int x0] w = some (.inl (some (.int 0)), w') := by
  obtain ⟨w0, hw0, I0, F0⟩ := hI.t0
  obtain ⟨b1, b2, b3, b4, b5, b6, b7, b8⟩ := id hd.1
  obtain ⟨hO, hXO, hRK, hRZ, hrf⟩ := id I0
  obtain ⟨x1', x3', x27, x32, x33, x34⟩ := id hXO
  obtain ⟨hTp, hD, hR, hCp, hHb, hKp, hRP⟩ := id hRK
  have hn := nR_le hd
  have x0' : (va_up x 0 0) 0 = 0 := va_up_self _ _ _
  obtain ⟨N, hN⟩ : ∃ N, g.1 = N + 2 := ⟨g.1 - 2, by omega⟩
  unfold settlementO at ho
  have q0 := isHeir_sp hg hO hD b1 x0
  cases h0 : rng x0 (δ.1 0) with
  | none =>
    rw [h0] at q0
    simp only [bI, Option.isSome, Bool.false_eq_true, if_false] at q0
    obtain ⟨w1, p1, p2, p3⟩ := bad1_sp hg I0 x0' (c := 1) (r := 0) (C := 1) (R := 0) rfl rfl (by decide) (by decide)
    refine ⟨w1, ?_⟩
    simp [fX11_settlement, kX11_settlement, ent, entp, jX11_settlement, bX11_settlement_0, bX11_settlement_1, bX11_settlement_2, bX11_settlement_3, bX11_settlement_4, bX11_settlement_5, i_aload, i_getf, i_iadd, i_iaload, i_icge, i_icne, i_idiv, i_ifeq, i_ifge, i_ifne, i_iinc, i_iload, i_irem, i_ireturn, i_istore, i_isub, i_jmp, i_push, i_putf, msk, lset1, lset2, clr, Value.category, Option.toList, List.cons_append, List.nil_append, List.length_cons, List.length_nil, hN, st_0 hI.1, hw0, cvk_1 hO q0, cvk_3 hO p1]
  | some n0 =>
    rw [h0] at q0 ho
    simp only [bI, Option.isSome, if_true] at q0
    simp only [] at ho
    obtain ⟨l0, e0⟩ := rng_some (by omega) h0
    subst e0
    cases ho
theorem slips_z {g : GE} {w : Mem} {M fed kept : Nat} {fp : Int32} {tp : Nat → Int32} {rf : Nat → Nat} {δ : DE} {τ : TE} {im : Nat → TE} {x : Nat → Int32} (hg : FU g) (hd : WF δ) (hI : RI w M fed kept fp tp rf δ τ im x) (x0 : Int32) {pz : Nat × Nat} (ho : slipsO δ τ x0 = .inr pz) : ∃ w', fX11_slips g [.ref M, .int x0] w = some (.inl (some (.int 0)), w') := by
  obtain ⟨w0, hw0, I0, F0⟩ := hI.t0
  obtain ⟨b1, b2, b3, b4, b5, b6, b7, b8⟩ := id hd.1
  obtain ⟨hO, hXO, hRK, hRZ, hrf⟩ := id I0
  obtain ⟨x1', x3', x27, x32, x33, x34⟩ := id hXO
  obtain ⟨hTp, hD, hR, hCp, hHb, hKp, hRP⟩ := id hRK
  have hn := nR_le hd
  have x0' : (va_up x 0 0) 0 = 0 := va_up_self _ _ _
  obtain ⟨N, hN⟩ : ∃ N, g.1 = N + 2 := ⟨g.1 - 2, by omega⟩
  unfold slipsO at ho
  have q0 := in_sp (w := w0) hg x0 (n := 1 + 1) (y := 1) (by decide) (by decide)
  cases h0 : rng x0 (1 + 1) with
  | none =>
    rw [h0] at q0
    simp only [bI, Option.isSome, Bool.false_eq_true, if_false] at q0
    obtain ⟨w1, p1, p2, p3⟩ := bad1_sp hg I0 x0' (c := 1) (r := 2) (C := 1) (R := 2) rfl rfl (by decide) (by decide)
    refine ⟨w1, ?_⟩
    simp [fX11_slips, kX11_slips, ent, entp, jX11_slips, bX11_slips_0, bX11_slips_1, bX11_slips_2, bX11_slips_3, bX11_slips_4, bX11_slips_5, bX11_slips_6, bX11_slips_7, bX11_slips_8, i_aaload, i_aload, i_getf, i_iadd, i_iaload, i_iceq, i_icge, i_iclt, i_icne, i_ifeq, i_ifne, i_iinc, i_iload, i_ireturn, i_istore, i_jmp, i_push, i_putf, msk, lset1, lset2, clr, Value.category, Option.toList, List.cons_append, List.nil_append, List.length_cons, List.length_nil, hN, st_0 hI.1, hw0, csk_3 q0, cvk_3 hO p1]
  | some n0 =>
    rw [h0] at q0 ho
    simp only [bI, Option.isSome, if_true] at q0
    simp only [] at ho
    obtain ⟨l0, e0⟩ := rng_some (by omega) h0
    subst e0
    cases ho
theorem steps_z {g : GE} {w : Mem} {M fed kept : Nat} {fp : Int32} {tp : Nat → Int32} {rf : Nat → Nat} {δ : DE} {τ : TE} {im : Nat → TE} {x : Nat → Int32} (hg : FU g) (hd : WF δ) (hI : RI w M fed kept fp tp rf δ τ im x) (x0 x1 x2 : Int32) {pz : Nat × Nat} (ho : stepsO δ x0 x1 x2 = .inr pz) : ∃ w', fX11_steps g [.ref M, .int x0, .int x1, .int x2] w = some (.inl (some (.int 0)), w') := by
  obtain ⟨w0, hw0, I0, F0⟩ := hI.t0
  obtain ⟨b1, b2, b3, b4, b5, b6, b7, b8⟩ := id hd.1
  obtain ⟨hO, hXO, hRK, hRZ, hrf⟩ := id I0
  obtain ⟨x1', x3', x27, x32, x33, x34⟩ := id hXO
  obtain ⟨hTp, hD, hR, hCp, hHb, hKp, hRP⟩ := id hRK
  have hn := nR_le hd
  have x0' : (va_up x 0 0) 0 = 0 := va_up_self _ _ _
  obtain ⟨N, hN⟩ : ∃ N, g.1 = N + 4 := ⟨g.1 - 4, by omega⟩
  unfold stepsO at ho
  have q0 := isReading_sp hg hO x27 hn x0
  cases h0 : rng x0 (nR δ) with
  | none =>
    rw [h0] at q0
    simp only [bI, Option.isSome, Bool.false_eq_true, if_false] at q0
    obtain ⟨w1, p1, p2, p3⟩ := bad1_sp hg I0 x0' (c := 1) (r := 0) (C := 1) (R := 0) rfl rfl (by decide) (by decide)
    refine ⟨w1, ?_⟩
    simp [fX11_steps, kX11_steps, ent, entp, jX11_steps, bX11_steps_0, bX11_steps_1, bX11_steps_2, bX11_steps_3, bX11_steps_4, bX11_steps_5, bX11_steps_6, bX11_steps_7, bX11_steps_8, bX11_steps_9, bX11_steps_10, bX11_steps_11, bX11_steps_12, bX11_steps_13, i_aload, i_getf, i_iaload, i_iand, i_iastore, i_iceq, i_icge, i_icgt, i_iclt, i_icne, i_ifeq, i_ifne, i_iinc, i_iload, i_ior, i_ireturn, i_ishl, i_ishr, i_istore, i_isub, i_jmp, i_push, i_putf, i_zaload, i_zastore, msk, lset1, lset2, clr, Value.category, Option.toList, List.cons_append, List.nil_append, List.length_cons, List.length_nil, hN, st_0 hI.1, hw0, cvk_1 hO q0, cvk_3 hO p1]
  | some n0 =>
    rw [h0] at q0 ho
    simp only [bI, Option.isSome, if_true] at q0
    simp only [] at ho
    obtain ⟨l0, e0⟩ := rng_some (by omega) h0
    subst e0
    have q1 := isThing_sp hg hO hD b2 x1
    cases h1 : rng x1 (δ.1 1) with
    | none =>
      rw [h1] at q1
      simp only [bI, Option.isSome, Bool.false_eq_true, if_false] at q1
      obtain ⟨w1, p1, p2, p3⟩ := bad1_sp hg I0 x0' (c := 1) (r := 0) (C := 1) (R := 0) rfl rfl (by decide) (by decide)
      refine ⟨w1, ?_⟩
      simp [fX11_steps, kX11_steps, ent, entp, jX11_steps, bX11_steps_0, bX11_steps_1, bX11_steps_2, bX11_steps_3, bX11_steps_4, bX11_steps_5, bX11_steps_6, bX11_steps_7, bX11_steps_8, bX11_steps_9, bX11_steps_10, bX11_steps_11, bX11_steps_12, bX11_steps_13, i_aload, i_getf, i_iaload, i_iand, i_iastore, i_iceq, i_icge, i_icgt, i_iclt, i_icne, i_ifeq, i_ifne, i_iinc, i_iload, i_ior, i_ireturn, i_ishl, i_ishr, i_istore, i_isub, i_jmp, i_push, i_putf, i_zaload, i_zastore, msk, lset1, lset2, clr, Value.category, Option.toList, List.cons_append, List.nil_append, List.length_cons, List.length_nil, hN, st_0 hI.1, hw0, cvk_1 hO q0, cvk_1 hO q1, cvk_3 hO p1]
    | some n1 =>
      rw [h1] at q1 ho
      simp only [bI, Option.isSome, if_true] at q1
      simp only [] at ho
      obtain ⟨l1, e1⟩ := rng_some (by omega) h1
      subst e1
      have q2 := in_sp (w := w0) hg x2 (n := 8 + 1) (y := 8) (by decide) (by decide)
      cases h2 : rng x2 (8 + 1) with
      | none =>
        rw [h2] at q2
        simp only [bI, Option.isSome, Bool.false_eq_true, if_false] at q2
        obtain ⟨w1, p1, p2, p3⟩ := bad1_sp hg I0 x0' (c := 2) (r := 2) (C := 2) (R := 2) rfl rfl (by decide) (by decide)
        refine ⟨w1, ?_⟩
        simp [fX11_steps, kX11_steps, ent, entp, jX11_steps, bX11_steps_0, bX11_steps_1, bX11_steps_2, bX11_steps_3, bX11_steps_4, bX11_steps_5, bX11_steps_6, bX11_steps_7, bX11_steps_8, bX11_steps_9, bX11_steps_10, bX11_steps_11, bX11_steps_12, bX11_steps_13, i_aload, i_getf, i_iaload, i_iand, i_iastore, i_iceq, i_icge, i_icgt, i_iclt, i_icne, i_ifeq, i_ifne, i_iinc, i_iload, i_ior, i_ireturn, i_ishl, i_ishr, i_istore, i_isub, i_jmp, i_push, i_putf, i_zaload, i_zastore, msk, lset1, lset2, clr, Value.category, Option.toList, List.cons_append, List.nil_append, List.length_cons, List.length_nil, hN, st_0 hI.1, hw0, cvk_1 hO q0, cvk_1 hO q1, cvk_3 hO (bad0_sp hg hO x0' 1 0), csk_3 q2, cvk_3 hO p1]
      | some n2 =>
        rw [h2] at q2 ho
        simp only [bI, Option.isSome, if_true] at q2
        simp only [] at ho
        obtain ⟨l2, e2⟩ := rng_some (by omega) h2
        subst e2
        cases ho
theorem struck_z {g : GE} {w : Mem} {M fed kept : Nat} {fp : Int32} {tp : Nat → Int32} {rf : Nat → Nat} {δ : DE} {τ : TE} {im : Nat → TE} {x : Nat → Int32} (hg : FU g) (hd : WF δ) (hI : RI w M fed kept fp tp rf δ τ im x) (x0 : Int32) {pz : Nat × Nat} (ho : struckO δ x0 = .inr pz) : ∃ w', fX11_struck g [.ref M, .int x0] w = some (.inl (some (.int 0)), w') := by
  obtain ⟨w0, hw0, I0, F0⟩ := hI.t0
  obtain ⟨b1, b2, b3, b4, b5, b6, b7, b8⟩ := id hd.1
  obtain ⟨hO, hXO, hRK, hRZ, hrf⟩ := id I0
  obtain ⟨x1', x3', x27, x32, x33, x34⟩ := id hXO
  obtain ⟨hTp, hD, hR, hCp, hHb, hKp, hRP⟩ := id hRK
  have hn := nR_le hd
  have x0' : (va_up x 0 0) 0 = 0 := va_up_self _ _ _
  obtain ⟨N, hN⟩ : ∃ N, g.1 = N + 2 := ⟨g.1 - 2, by omega⟩
  unfold struckO at ho
  have q0 := in_sp (w := w0) hg x0 (n := δ.1 2) rfl (by omega)
  cases h0 : rng x0 (δ.1 2) with
  | none =>
    rw [h0] at q0
    simp only [bI, Option.isSome, Bool.false_eq_true, if_false] at q0
    obtain ⟨w1, p1, p2, p3⟩ := bad1_sp hg I0 x0' (c := 1) (r := 0) (C := 1) (R := 0) rfl rfl (by decide) (by decide)
    refine ⟨w1, ?_⟩
    simp [fX11_struck, kX11_struck, ent, entp, jX11_struck, bX11_struck_0, bX11_struck_1, bX11_struck_2, bX11_struck_3, i_aload, i_getf, i_iadd, i_iaload, i_icge, i_ifeq, i_ifne, i_iinc, i_iload, i_ireturn, i_istore, i_isub, i_jmp, i_push, i_putf, msk, lset1, lset2, clr, Value.category, Option.toList, List.cons_append, List.nil_append, List.length_cons, List.length_nil, hN, st_0 hI.1, hw0, gf_eq hO, mg_11, hD.1.rc 2 2 rfl (by decide) (by decide), csk_3 q0, cvk_3 hO p1]
  | some n0 =>
    rw [h0] at q0 ho
    simp only [bI, Option.isSome, if_true] at q0
    simp only [] at ho
    obtain ⟨l0, e0⟩ := rng_some (by omega) h0
    subst e0
    cases ho
theorem sure_z {g : GE} {w : Mem} {M fed kept : Nat} {fp : Int32} {tp : Nat → Int32} {rf : Nat → Nat} {δ : DE} {τ : TE} {im : Nat → TE} {x : Nat → Int32} (hg : FU g) (hd : WF δ) (hI : RI w M fed kept fp tp rf δ τ im x) (x0 x1 : Int32) {pz : Nat × Nat} (ho : sureO δ x0 x1 = .inr pz) : ∃ w', fX11_sure g [.ref M, .int x0, .int x1] w = some (.inl (some (.int 0)), w') := by
  obtain ⟨w0, hw0, I0, F0⟩ := hI.t0
  obtain ⟨b1, b2, b3, b4, b5, b6, b7, b8⟩ := id hd.1
  obtain ⟨hO, hXO, hRK, hRZ, hrf⟩ := id I0
  obtain ⟨x1', x3', x27, x32, x33, x34⟩ := id hXO
  obtain ⟨hTp, hD, hR, hCp, hHb, hKp, hRP⟩ := id hRK
  have hn := nR_le hd
  have x0' : (va_up x 0 0) 0 = 0 := va_up_self _ _ _
  obtain ⟨N, hN⟩ : ∃ N, g.1 = N + 16 := ⟨g.1 - 16, by omega⟩
  unfold sureO at ho
  have q0 := isThing_sp hg hO hD b2 x0
  cases h0 : rng x0 (δ.1 1) with
  | none =>
    rw [h0] at q0
    simp only [bI, Option.isSome, Bool.false_eq_true, if_false] at q0
    obtain ⟨w1, p1, p2, p3⟩ := bad1_sp hg I0 x0' (c := 1) (r := 0) (C := 1) (R := 0) rfl rfl (by decide) (by decide)
    refine ⟨w1, ?_⟩
    simp [fX11_sure, kX11_sure, ent, entp, jX11_sure, bX11_sure_0, bX11_sure_1, bX11_sure_2, bX11_sure_3, bX11_sure_4, i_aload, i_getf, i_icne, i_ifeq, i_ifle, i_ifne, i_iload, i_jmp, i_push, i_putf, i_zreturn, msk, lset1, lset2, clr, Value.category, Option.toList, List.cons_append, List.nil_append, List.length_cons, List.length_nil, hN, st_0 hI.1, hw0, cvk_1 hO q0, cvk_3 hO p1]
  | some n0 =>
    rw [h0] at q0 ho
    simp only [bI, Option.isSome, if_true] at q0
    simp only [] at ho
    obtain ⟨l0, e0⟩ := rng_some (by omega) h0
    subst e0
    have q1 := isHeir_sp hg hO hD b1 x1
    cases h1 : rng x1 (δ.1 0) with
    | none =>
      rw [h1] at q1
      simp only [bI, Option.isSome, Bool.false_eq_true, if_false] at q1
      obtain ⟨w1, p1, p2, p3⟩ := bad1_sp hg I0 x0' (c := 1) (r := 0) (C := 1) (R := 0) rfl rfl (by decide) (by decide)
      refine ⟨w1, ?_⟩
      simp [fX11_sure, kX11_sure, ent, entp, jX11_sure, bX11_sure_0, bX11_sure_1, bX11_sure_2, bX11_sure_3, bX11_sure_4, i_aload, i_getf, i_icne, i_ifeq, i_ifle, i_ifne, i_iload, i_jmp, i_push, i_putf, i_zreturn, msk, lset1, lset2, clr, Value.category, Option.toList, List.cons_append, List.nil_append, List.length_cons, List.length_nil, hN, st_0 hI.1, hw0, cvk_1 hO q0, cvk_1 hO q1, cvk_3 hO p1]
    | some n1 =>
      rw [h1] at q1 ho
      simp only [bI, Option.isSome, if_true] at q1
      simp only [] at ho
      obtain ⟨l1, e1⟩ := rng_some (by omega) h1
      subst e1
      cases ho
theorem sway_z {g : GE} {w : Mem} {M fed kept : Nat} {fp : Int32} {tp : Nat → Int32} {rf : Nat → Nat} {δ : DE} {τ : TE} {im : Nat → TE} {x : Nat → Int32} (hg : FU g) (hd : WF δ) (hI : RI w M fed kept fp tp rf δ τ im x) (x0 x1 : Int32) {pz : Nat × Nat} (ho : swayO δ x0 x1 = .inr pz) : ∃ w', fX11_sway g [.ref M, .int x0, .int x1] w = some (.inl (some (.int 0)), w') := by
  obtain ⟨w0, hw0, I0, F0⟩ := hI.t0
  obtain ⟨b1, b2, b3, b4, b5, b6, b7, b8⟩ := id hd.1
  obtain ⟨hO, hXO, hRK, hRZ, hrf⟩ := id I0
  obtain ⟨x1', x3', x27, x32, x33, x34⟩ := id hXO
  obtain ⟨hTp, hD, hR, hCp, hHb, hKp, hRP⟩ := id hRK
  have hn := nR_le hd
  have x0' : (va_up x 0 0) 0 = 0 := va_up_self _ _ _
  obtain ⟨N, hN⟩ : ∃ N, g.1 = N + 4 := ⟨g.1 - 4, by omega⟩
  unfold swayO at ho
  have q0 := isThing_sp hg hO hD b2 x0
  cases h0 : rng x0 (δ.1 1) with
  | none =>
    rw [h0] at q0
    simp only [bI, Option.isSome, Bool.false_eq_true, if_false] at q0
    obtain ⟨w1, p1, p2, p3⟩ := bad1_sp hg I0 x0' (c := 1) (r := 0) (C := 1) (R := 0) rfl rfl (by decide) (by decide)
    refine ⟨w1, ?_⟩
    simp [fX11_sway, kX11_sway, ent, entp, jX11_sway, bX11_sway_0, bX11_sway_1, bX11_sway_2, bX11_sway_3, bX11_sway_4, bX11_sway_5, i_aload, i_getf, i_iadd, i_icge, i_ifeq, i_ifne, i_iinc, i_iload, i_ireturn, i_istore, i_jmp, i_push, i_putf, msk, lset1, lset2, clr, Value.category, Option.toList, List.cons_append, List.nil_append, List.length_cons, List.length_nil, hN, st_0 hI.1, hw0, cvk_1 hO q0, cvk_3 hO p1]
  | some n0 =>
    rw [h0] at q0 ho
    simp only [bI, Option.isSome, if_true] at q0
    simp only [] at ho
    obtain ⟨l0, e0⟩ := rng_some (by omega) h0
    subst e0
    have q1 := isBlot_sp hg hO hD b4 x1
    cases h1 : rng x1 (δ.1 3) with
    | none =>
      rw [h1] at q1
      simp only [bI, Option.isSome, Bool.false_eq_true, if_false] at q1
      obtain ⟨w1, p1, p2, p3⟩ := bad1_sp hg I0 x0' (c := 2) (r := 1) (C := 2) (R := 1) rfl rfl (by decide) (by decide)
      refine ⟨w1, ?_⟩
      simp [fX11_sway, kX11_sway, ent, entp, jX11_sway, bX11_sway_0, bX11_sway_1, bX11_sway_2, bX11_sway_3, bX11_sway_4, bX11_sway_5, i_aload, i_getf, i_iadd, i_icge, i_ifeq, i_ifne, i_iinc, i_iload, i_ireturn, i_istore, i_jmp, i_push, i_putf, msk, lset1, lset2, clr, Value.category, Option.toList, List.cons_append, List.nil_append, List.length_cons, List.length_nil, hN, st_0 hI.1, hw0, cvk_1 hO q0, cvk_3 hO (bad0_sp hg hO x0' 1 0), cvk_1 hO q1, cvk_3 hO p1]
    | some n1 =>
      rw [h1] at q1 ho
      simp only [bI, Option.isSome, if_true] at q1
      simp only [] at ho
      obtain ⟨l1, e1⟩ := rng_some (by omega) h1
      subst e1
      cases ho
theorem told_z {g : GE} {w : Mem} {M fed kept : Nat} {fp : Int32} {tp : Nat → Int32} {rf : Nat → Nat} {δ : DE} {τ : TE} {im : Nat → TE} {x : Nat → Int32} (hg : FU g) (hd : WF δ) (hI : RI w M fed kept fp tp rf δ τ im x) (x0 : Int32) {pz : Nat × Nat} (ho : toldO δ x0 = .inr pz) : ∃ w', fX11_told g [.ref M, .int x0] w = some (.inl (some (.int 0)), w') := by
  obtain ⟨w0, hw0, I0, F0⟩ := hI.t0
  obtain ⟨b1, b2, b3, b4, b5, b6, b7, b8⟩ := id hd.1
  obtain ⟨hO, hXO, hRK, hRZ, hrf⟩ := id I0
  obtain ⟨x1', x3', x27, x32, x33, x34⟩ := id hXO
  obtain ⟨hTp, hD, hR, hCp, hHb, hKp, hRP⟩ := id hRK
  have hn := nR_le hd
  have x0' : (va_up x 0 0) 0 = 0 := va_up_self _ _ _
  obtain ⟨N, hN⟩ : ∃ N, g.1 = N + 16 := ⟨g.1 - 16, by omega⟩
  unfold toldO at ho
  have q0 := in_sp (w := w0) hg x0 (n := 6 + 1) (y := 6) (by decide) (by decide)
  cases h0 : rng x0 (6 + 1) with
  | none =>
    rw [h0] at q0
    simp only [bI, Option.isSome, Bool.false_eq_true, if_false] at q0
    obtain ⟨w1, p1, p2, p3⟩ := bad1_sp hg I0 x0' (c := 1) (r := 2) (C := 1) (R := 2) rfl rfl (by decide) (by decide)
    refine ⟨w1, ?_⟩
    simp [fX11_told, kX11_told, ent, entp, jX11_told, bX11_told_0, bX11_told_1, i_aload, i_getf, i_iaload, i_ifeq, i_ifne, i_iload, i_ireturn, i_jmp, i_push, i_putf, msk, lset1, lset2, clr, Value.category, Option.toList, List.cons_append, List.nil_append, List.length_cons, List.length_nil, hN, st_0 hI.1, hw0, csk_3 q0, cvk_3 hO p1]
  | some n0 =>
    rw [h0] at q0 ho
    simp only [bI, Option.isSome, if_true] at q0
    simp only [] at ho
    obtain ⟨l0, e0⟩ := rng_some (by omega) h0
    subst e0
    cases ho
theorem weak_z {g : GE} {w : Mem} {M fed kept : Nat} {fp : Int32} {tp : Nat → Int32} {rf : Nat → Nat} {δ : DE} {τ : TE} {im : Nat → TE} {x : Nat → Int32} (hg : FU g) (hd : WF δ) (hI : RI w M fed kept fp tp rf δ τ im x) (x0 : Int32) {pz : Nat × Nat} (ho : weakO δ x0 = .inr pz) : ∃ w', fX11_weak g [.ref M, .int x0] w = some (.inl (some (.int 0)), w') := by
  obtain ⟨w0, hw0, I0, F0⟩ := hI.t0
  obtain ⟨b1, b2, b3, b4, b5, b6, b7, b8⟩ := id hd.1
  obtain ⟨hO, hXO, hRK, hRZ, hrf⟩ := id I0
  obtain ⟨x1', x3', x27, x32, x33, x34⟩ := id hXO
  obtain ⟨hTp, hD, hR, hCp, hHb, hKp, hRP⟩ := id hRK
  have hn := nR_le hd
  have x0' : (va_up x 0 0) 0 = 0 := va_up_self _ _ _
  obtain ⟨N, hN⟩ : ∃ N, g.1 = N + 2 := ⟨g.1 - 2, by omega⟩
  unfold weakO at ho
  have q0 := isThing_sp hg hO hD b2 x0
  cases h0 : rng x0 (δ.1 1) with
  | none =>
    rw [h0] at q0
    simp only [bI, Option.isSome, Bool.false_eq_true, if_false] at q0
    obtain ⟨w1, p1, p2, p3⟩ := bad1_sp hg I0 x0' (c := 1) (r := 0) (C := 1) (R := 0) rfl rfl (by decide) (by decide)
    refine ⟨w1, ?_⟩
    simp [fX11_weak, kX11_weak, ent, entp, jX11_weak, bX11_weak_0, bX11_weak_1, bX11_weak_2, bX11_weak_3, i_aload, i_getf, i_iadd, i_iaload, i_iand, i_icge, i_ifeq, i_ifne, i_iinc, i_iload, i_ireturn, i_istore, i_isub, i_jmp, i_push, i_putf, msk, lset1, lset2, clr, Value.category, Option.toList, List.cons_append, List.nil_append, List.length_cons, List.length_nil, hN, st_0 hI.1, hw0, cvk_1 hO q0, cvk_3 hO p1]
  | some n0 =>
    rw [h0] at q0 ho
    simp only [bI, Option.isSome, if_true] at q0
    simp only [] at ho
    obtain ⟨l0, e0⟩ := rng_some (by omega) h0
    subst e0
    cases ho
theorem when_z {g : GE} {w : Mem} {M fed kept : Nat} {fp : Int32} {tp : Nat → Int32} {rf : Nat → Nat} {δ : DE} {τ : TE} {im : Nat → TE} {x : Nat → Int32} (hg : FU g) (hd : WF δ) (hI : RI w M fed kept fp tp rf δ τ im x) (x0 x1 x2 x3 : Int32) {pz : Nat × Nat} (ho : whenO δ x0 x1 x2 x3 = .inr pz) : ∃ w', fX11_when g [.ref M, .int x0, .int x1, .int x2, .int x3] w = some (.inl (some (.int 0)), w') := by
  obtain ⟨w0, hw0, I0, F0⟩ := hI.t0
  obtain ⟨b1, b2, b3, b4, b5, b6, b7, b8⟩ := id hd.1
  obtain ⟨hO, hXO, hRK, hRZ, hrf⟩ := id I0
  obtain ⟨x1', x3', x27, x32, x33, x34⟩ := id hXO
  obtain ⟨hTp, hD, hR, hCp, hHb, hKp, hRP⟩ := id hRK
  have hn := nR_le hd
  have x0' : (va_up x 0 0) 0 = 0 := va_up_self _ _ _
  obtain ⟨N, hN⟩ : ∃ N, g.1 = N + 16 := ⟨g.1 - 16, by omega⟩
  unfold whenO at ho
  have q0 := isThing_sp hg hO hD b2 x0
  cases h0 : rng x0 (δ.1 1) with
  | none =>
    rw [h0] at q0
    simp only [bI, Option.isSome, Bool.false_eq_true, if_false] at q0
    obtain ⟨w1, p1, p2, p3⟩ := bad1_sp hg I0 x0' (c := 1) (r := 0) (C := 1) (R := 0) rfl rfl (by decide) (by decide)
    refine ⟨w1, ?_⟩
    simp [fX11_when, kX11_when, ent, entp, jX11_when, bX11_when_0, bX11_when_1, bX11_when_2, bX11_when_3, bX11_when_4, bX11_when_5, bX11_when_6, bX11_when_7, bX11_when_8, bX11_when_9, i_aload, i_getf, i_iceq, i_icge, i_icle, i_ifeq, i_ifne, i_iinc, i_iload, i_ireturn, i_istore, i_jmp, i_push, i_putf, msk, lset1, lset2, clr, Value.category, Option.toList, List.cons_append, List.nil_append, List.length_cons, List.length_nil, hN, st_0 hI.1, hw0, cvk_1 hO q0, cvk_3 hO p1]
  | some n0 =>
    rw [h0] at q0 ho
    simp only [bI, Option.isSome, if_true] at q0
    simp only [] at ho
    obtain ⟨l0, e0⟩ := rng_some (by omega) h0
    subst e0
    have q1 := isHeir_sp hg hO hD b1 x1
    cases h1 : rng x1 (δ.1 0) with
    | none =>
      rw [h1] at q1
      simp only [bI, Option.isSome, Bool.false_eq_true, if_false] at q1
      obtain ⟨w1, p1, p2, p3⟩ := bad1_sp hg I0 x0' (c := 1) (r := 0) (C := 1) (R := 0) rfl rfl (by decide) (by decide)
      refine ⟨w1, ?_⟩
      simp [fX11_when, kX11_when, ent, entp, jX11_when, bX11_when_0, bX11_when_1, bX11_when_2, bX11_when_3, bX11_when_4, bX11_when_5, bX11_when_6, bX11_when_7, bX11_when_8, bX11_when_9, i_aload, i_getf, i_iceq, i_icge, i_icle, i_ifeq, i_ifne, i_iinc, i_iload, i_ireturn, i_istore, i_jmp, i_push, i_putf, msk, lset1, lset2, clr, Value.category, Option.toList, List.cons_append, List.nil_append, List.length_cons, List.length_nil, hN, st_0 hI.1, hw0, cvk_1 hO q0, cvk_1 hO q1, cvk_3 hO p1]
    | some n1 =>
      rw [h1] at q1 ho
      simp only [bI, Option.isSome, if_true] at q1
      simp only [] at ho
      obtain ⟨l1, e1⟩ := rng_some (by omega) h1
      subst e1
      have q2 := isHeir_sp hg hO hD b1 x2
      cases h2 : rng x2 (δ.1 0) with
      | none =>
        rw [h2] at q2
        simp only [bI, Option.isSome, Bool.false_eq_true, if_false] at q2
        obtain ⟨w1, p1, p2, p3⟩ := bad1_sp hg I0 x0' (c := 1) (r := 0) (C := 1) (R := 0) rfl rfl (by decide) (by decide)
        refine ⟨w1, ?_⟩
        simp [fX11_when, kX11_when, ent, entp, jX11_when, bX11_when_0, bX11_when_1, bX11_when_2, bX11_when_3, bX11_when_4, bX11_when_5, bX11_when_6, bX11_when_7, bX11_when_8, bX11_when_9, i_aload, i_getf, i_iceq, i_icge, i_icle, i_ifeq, i_ifne, i_iinc, i_iload, i_ireturn, i_istore, i_jmp, i_push, i_putf, msk, lset1, lset2, clr, Value.category, Option.toList, List.cons_append, List.nil_append, List.length_cons, List.length_nil, hN, st_0 hI.1, hw0, cvk_1 hO q0, cvk_1 hO q1, cvk_1 hO q2, cvk_3 hO p1]
      | some n2 =>
        rw [h2] at q2 ho
        simp only [bI, Option.isSome, if_true] at q2
        simp only [] at ho
        obtain ⟨l2, e2⟩ := rng_some (by omega) h2
        subst e2
        have q3 := in_sp (w := w0) hg x3 (n := 1 + 1) (y := 1) (by decide) (by decide)
        cases h3 : rng x3 (1 + 1) with
        | none =>
          rw [h3] at q3
          simp only [bI, Option.isSome, Bool.false_eq_true, if_false] at q3
          obtain ⟨w1, p1, p2, p3⟩ := bad1_sp hg I0 x0' (c := 2) (r := 2) (C := 2) (R := 2) rfl rfl (by decide) (by decide)
          refine ⟨w1, ?_⟩
          simp [fX11_when, kX11_when, ent, entp, jX11_when, bX11_when_0, bX11_when_1, bX11_when_2, bX11_when_3, bX11_when_4, bX11_when_5, bX11_when_6, bX11_when_7, bX11_when_8, bX11_when_9, i_aload, i_getf, i_iceq, i_icge, i_icle, i_ifeq, i_ifne, i_iinc, i_iload, i_ireturn, i_istore, i_jmp, i_push, i_putf, msk, lset1, lset2, clr, Value.category, Option.toList, List.cons_append, List.nil_append, List.length_cons, List.length_nil, hN, st_0 hI.1, hw0, cvk_1 hO q0, cvk_1 hO q1, cvk_1 hO q2, cvk_3 hO (bad0_sp hg hO x0' 1 0), csk_3 q3, cvk_3 hO p1]
        | some n3 =>
          rw [h3] at q3 ho
          simp only [bI, Option.isSome, if_true] at q3
          simp only [] at ho
          obtain ⟨l3, e3⟩ := rng_some (by omega) h3
          subst e3
          cases ho
theorem worth_z {g : GE} {w : Mem} {M fed kept : Nat} {fp : Int32} {tp : Nat → Int32} {rf : Nat → Nat} {δ : DE} {τ : TE} {im : Nat → TE} {x : Nat → Int32} (hg : FU g) (hd : WF δ) (hI : RI w M fed kept fp tp rf δ τ im x) (x0 x1 : Int32) {pz : Nat × Nat} (ho : worthO δ x0 x1 = .inr pz) : ∃ w', fX11_worth g [.ref M, .int x0, .int x1] w = some (.inl (some (.int 0)), w') := by
  obtain ⟨w0, hw0, I0, F0⟩ := hI.t0
  obtain ⟨b1, b2, b3, b4, b5, b6, b7, b8⟩ := id hd.1
  obtain ⟨hO, hXO, hRK, hRZ, hrf⟩ := id I0
  obtain ⟨x1', x3', x27, x32, x33, x34⟩ := id hXO
  obtain ⟨hTp, hD, hR, hCp, hHb, hKp, hRP⟩ := id hRK
  have hn := nR_le hd
  have x0' : (va_up x 0 0) 0 = 0 := va_up_self _ _ _
  obtain ⟨N, hN⟩ : ∃ N, g.1 = N + 16 := ⟨g.1 - 16, by omega⟩
  unfold worthO at ho
  have q0 := isHeir_sp hg hO hD b1 x0
  cases h0 : rng x0 (δ.1 0) with
  | none =>
    rw [h0] at q0
    simp only [bI, Option.isSome, Bool.false_eq_true, if_false] at q0
    obtain ⟨w1, p1, p2, p3⟩ := bad1_sp hg I0 x0' (c := 1) (r := 0) (C := 1) (R := 0) rfl rfl (by decide) (by decide)
    refine ⟨w1, ?_⟩
    simp [fX11_worth, kX11_worth, ent, entp, jX11_worth, bX11_worth_0, bX11_worth_1, bX11_worth_2, bX11_worth_3, bX11_worth_4, bX11_worth_5, i_aload, i_iceq, i_icle, i_ifeq, i_ifne, i_iload, i_irem, i_ireturn, i_istore, i_jmp, i_push, i_putf, msk, lset1, lset2, clr, Value.category, Option.toList, List.cons_append, List.nil_append, List.length_cons, List.length_nil, hN, st_0 hI.1, hw0, cvk_1 hO q0, cvk_3 hO p1]
  | some n0 =>
    rw [h0] at q0 ho
    simp only [bI, Option.isSome, if_true] at q0
    simp only [] at ho
    obtain ⟨l0, e0⟩ := rng_some (by omega) h0
    subst e0
    have q1 := in_sp (w := w0) hg x1 (n := 3 + 1) (y := 3) (by decide) (by decide)
    cases h1 : rng x1 (3 + 1) with
    | none =>
      rw [h1] at q1
      simp only [bI, Option.isSome, Bool.false_eq_true, if_false] at q1
      obtain ⟨w1, p1, p2, p3⟩ := bad1_sp hg I0 x0' (c := 2) (r := 2) (C := 2) (R := 2) rfl rfl (by decide) (by decide)
      refine ⟨w1, ?_⟩
      simp [fX11_worth, kX11_worth, ent, entp, jX11_worth, bX11_worth_0, bX11_worth_1, bX11_worth_2, bX11_worth_3, bX11_worth_4, bX11_worth_5, i_aload, i_iceq, i_icle, i_ifeq, i_ifne, i_iload, i_irem, i_ireturn, i_istore, i_jmp, i_push, i_putf, msk, lset1, lset2, clr, Value.category, Option.toList, List.cons_append, List.nil_append, List.length_cons, List.length_nil, hN, st_0 hI.1, hw0, cvk_1 hO q0, cvk_3 hO (bad0_sp hg hO x0' 1 0), csk_3 q1, cvk_3 hO p1]
    | some n1 =>
      rw [h1] at q1 ho
      simp only [bI, Option.isSome, if_true] at q1
      simp only [] at ho
      obtain ⟨l1, e1⟩ := rng_some (by omega) h1
      subst e1
      cases ho
theorem often_z {g : GE} {w : Mem} {M fed kept : Nat} {fp : Int32} {tp : Nat → Int32} {rf : Nat → Nat} {δ : DE} {τ : TE} {im : Nat → TE} {x : Nat → Int32} (hg : FU g) (hd : WF δ) (hI : RI w M fed kept fp tp rf δ τ im x) (x0 x1 : Int32) {pz : Nat × Nat} (ho : oftenO δ x0 x1 = .inr pz) : ∃ w', fX11_often g [.ref M, .int x0, .int x1] w = some (.inl (some (.int 0)), w') := by
  obtain ⟨w0, hw0, I0, F0⟩ := hI.t0
  obtain ⟨b1, b2, b3, b4, b5, b6, b7, b8⟩ := id hd.1
  obtain ⟨hO, hXO, hRK, hRZ, hrf⟩ := id I0
  obtain ⟨x1', x3', x27, x32, x33, x34⟩ := id hXO
  obtain ⟨hTp, hD, hR, hCp, hHb, hKp, hRP⟩ := id hRK
  have hn := nR_le hd
  have x0' : (va_up x 0 0) 0 = 0 := va_up_self _ _ _
  obtain ⟨N, hN⟩ : ∃ N, g.1 = N + 4 := ⟨g.1 - 4, by omega⟩
  unfold oftenO at ho
  have q0 := isThing_sp hg hO hD b2 x0
  cases h0 : rng x0 (δ.1 1) with
  | none =>
    rw [h0] at q0
    simp only [bI, Option.isSome, Bool.false_eq_true, if_false] at q0
    obtain ⟨w1, p1, p2, p3⟩ := bad1_sp hg I0 x0' (c := 1) (r := 0) (C := 1) (R := 0) rfl rfl (by decide) (by decide)
    refine ⟨w1, ?_⟩
    simp [fX11_often, kX11_often, ent, entp, jX11_often, bX11_often_0, bX11_often_1, bX11_often_2, i_aload, i_ifeq, i_ifne, i_iload, i_ireturn, i_jmp, i_push, i_putf, msk, lset1, lset2, clr, Value.category, Option.toList, List.cons_append, List.nil_append, List.length_cons, List.length_nil, hN, st_0 hI.1, hw0, cvk_1 hO q0, cvk_3 hO p1]
  | some n0 =>
    rw [h0] at q0 ho
    simp only [bI, Option.isSome, if_true] at q0
    obtain ⟨l0, e0⟩ := rng_some (by omega) h0
    subst e0
    have q1 := isHeir_sp hg hO hD b1 x1
    cases h1 : rng x1 (δ.1 0) with
    | none =>
      rw [h1] at q1
      simp only [bI, Option.isSome, Bool.false_eq_true, if_false] at q1
      obtain ⟨w1, p1, p2, p3⟩ := bad1_sp hg I0 x0' (c := 1) (r := 0) (C := 1) (R := 0) rfl rfl (by decide) (by decide)
      refine ⟨w1, ?_⟩
      simp [fX11_often, kX11_often, ent, entp, jX11_often, bX11_often_0, bX11_often_1, bX11_often_2, i_aload, i_ifeq, i_ifne, i_iload, i_ireturn, i_jmp, i_push, i_putf, msk, lset1, lset2, clr, Value.category, Option.toList, List.cons_append, List.nil_append, List.length_cons, List.length_nil, hN, st_0 hI.1, hw0, cvk_1 hO q0, cvk_1 hO q1, cvk_3 hO p1]
    | some n1 =>
      rw [h1] at q1 ho
      simp only [bI, Option.isSome, if_true] at q1
      obtain ⟨l1, e1⟩ := rng_some (by omega) h1
      subst e1
      cases ho
theorem copy_z {g : GE} {w : Mem} {M fed kept : Nat} {fp : Int32} {tp : Nat → Int32} {rf : Nat → Nat} {δ : DE} {τ : TE} {im : Nat → TE} {x : Nat → Int32} (hg : FU g) (hd : WF δ) (hI : RI w M fed kept fp tp rf δ τ im x) (hV : τ.1 0 ≤ 12) (x0 x1 x2 : Int32) {pz : Nat × Nat} (ho : (copyR δ τ x0 x1 x2).1 = .inr pz) : ∃ w', fX11_copy g [.ref M, .int x0, .int x1, .int x2] w = some (.inl (some (.int 0)), w') := by
  obtain ⟨w0, hw0, I0, F0⟩ := hI.t0
  obtain ⟨b1, b2, b3, b4, b5, b6, b7, b8⟩ := id hd.1
  obtain ⟨hO, hXO, hRK, hRZ, hrf⟩ := id I0
  obtain ⟨x1', x3', x27, x32, x33, x34⟩ := id hXO
  obtain ⟨hTp, hD, hR, hCp, hHb, hKp, hRP⟩ := id hRK
  have x0' : (va_up x 0 0) 0 = 0 := va_up_self _ _ _
  obtain ⟨N, hN⟩ : ∃ N, g.1 = N + 5 := ⟨g.1 - 5, by omega⟩
  unfold copyR at ho
  have q0 := isBlot_sp hg hO hD b4 x1
  cases h0 : rng x1 (δ.1 3) with
  | none =>
    rw [h0] at q0
    simp only [bI, Option.isSome, Bool.false_eq_true, if_false] at q0
    obtain ⟨w1, p1, p2, p3⟩ := bad1_sp hg I0 x0' (c := 1) (r := 1) (C := 1) (R := 1) rfl rfl (by decide) (by decide)
    refine ⟨w1, ?_⟩
    simp [fX11_copy, kX11_copy, ent, entp, jX11_copy, bX11_copy_0, bX11_copy_1, bX11_copy_2, bX11_copy_3, bX11_copy_4, i_aaload, i_aload, i_dup, i_getf, i_iadd, i_iaload, i_iastore, i_icne, i_ifeq, i_ifne, i_iload, i_ireturn, i_istore, i_isub, i_jmp, i_push, i_putf, msk, lset1, lset2, clr, Value.category, Option.toList, List.cons_append, List.nil_append, List.length_cons, List.length_nil, hN, st_0 hI.1, hw0, cvk_1 hO q0, cvk_3 hO p1]
  | some b =>
    rw [h0] at q0
    simp only [bI, Option.isSome, if_true] at q0
    obtain ⟨l1, e1⟩ := rng_some (by omega) h0
    subst e1
    have q1 := in_sp (w := w0) hg x0 (n := 4) (y := 3) (by decide) (by decide)
    have hl := tlb_le hd b
    have q2 := in_sp (w := w0) hg x2 (n := tlb δ b) rfl (by omega)
    obtain ⟨h0', -, -, -, -, -, ⟨c6, h6, k6⟩, -⟩ := id hD
    have kb := (k6 b l1).1
    have hk := kd3 hd l1
    -- up to the test of hand and telling
    have pre : fX11_copy g [.ref M, .int x0, .int (nI b), .int x2] w = jX11_copy g (N + 3) 2 [.int (nI (tlb δ b) - 1)] [some (.ref M), some (.int x0), some (.int (nI b)), some (.int x2), none] w0 := by
      unfold tlb
      have : δ.2 8 b = 0 ∨ δ.2 8 b = 1 ∨ δ.2 8 b = 2 := by omega
      rcases this with q | q | q <;> rw [q] at kb
      · simp [fX11_copy, kX11_copy, ent, entp, jX11_copy, bX11_copy_0, bX11_copy_1, bX11_copy_2, bX11_copy_3, bX11_copy_4, i_aaload, i_aload, i_dup, i_getf, i_iadd, i_iaload, i_iastore, i_icne, i_ifeq, i_ifne, i_iload, i_ireturn, i_istore, i_isub, i_jmp, i_push, i_putf, msk, lset1, lset2, clr, Value.category, Option.toList, List.cons_append, List.nil_append, List.length_cons, List.length_nil, hN, st_0 hI.1, hw0, cvk_1 hO q0, cvk_3 hO (bad0_sp hg hO x0' 1 1), gf_eq hO, mg_24, h6.1.rd (j := b) (by omega) (by decide), va_rf, (h6.2 b (by omega)).rc 0 0 rfl (by decide) (by decide), kb, q, nI_0]
        rfl
      · have n1 : ¬ nI 1 = 0 := by decide
        simp [fX11_copy, kX11_copy, ent, entp, jX11_copy, bX11_copy_0, bX11_copy_1, bX11_copy_2, bX11_copy_3, bX11_copy_4, i_aaload, i_aload, i_dup, i_getf, i_iadd, i_iaload, i_iastore, i_icne, i_ifeq, i_ifne, i_iload, i_ireturn, i_istore, i_isub, i_jmp, i_push, i_putf, msk, lset1, lset2, clr, Value.category, Option.toList, List.cons_append, List.nil_append, List.length_cons, List.length_nil, hN, st_0 hI.1, hw0, cvk_1 hO q0, cvk_3 hO (bad0_sp hg hO x0' 1 1), gf_eq hO, mg_24, mg_11, h0'.rc 0 0 rfl (by decide) (by decide), h6.1.rd (j := b) (by omega) (by decide), va_rf, (h6.2 b (by omega)).rc 0 0 rfl (by decide) (by decide), kb, q, n1, (show nI 1 = 1 from rfl)]
      · have n1 : ¬ nI 2 = 0 := by decide
        have n2 : ¬ nI 2 = 1 := by decide
        simp [fX11_copy, kX11_copy, ent, entp, jX11_copy, bX11_copy_0, bX11_copy_1, bX11_copy_2, bX11_copy_3, bX11_copy_4, i_aaload, i_aload, i_dup, i_getf, i_iadd, i_iaload, i_iastore, i_icne, i_ifeq, i_ifne, i_iload, i_ireturn, i_istore, i_isub, i_jmp, i_push, i_putf, msk, lset1, lset2, clr, Value.category, Option.toList, List.cons_append, List.nil_append, List.length_cons, List.length_nil, hN, st_0 hI.1, hw0, cvk_1 hO q0, cvk_3 hO (bad0_sp hg hO x0' 1 1), gf_eq hO, mg_24, h6.1.rd (j := b) (by omega) (by decide), va_rf, (h6.2 b (by omega)).rc 0 0 rfl (by decide) (by decide), kb, q, n1, n2]
        rfl
    rw [pre]
    cases h1 : rng x0 4 with
    | none =>
      rw [h1] at q1
      simp only [bI, Option.isSome, Bool.false_eq_true, if_false] at q1
      obtain ⟨w1, p1, p2, p3⟩ := bad1_sp hg I0 x0' (c := 2) (r := 2) (C := 2) (R := 2) rfl rfl (by decide) (by decide)
      refine ⟨w1, ?_⟩
      simp [jX11_copy, bX11_copy_0, bX11_copy_1, bX11_copy_2, bX11_copy_3, bX11_copy_4, i_aaload, i_aload, i_dup, i_getf, i_iadd, i_iaload, i_iastore, i_icne, i_ifeq, i_ifne, i_iload, i_ireturn, i_istore, i_isub, i_jmp, i_push, i_putf, msk, lset1, lset2, clr, Value.category, Option.toList, List.cons_append, List.nil_append, List.length_cons, List.length_nil, csk_3 q1, cvk_3 hO p1]
    | some h =>
      rw [h1] at q1
      simp only [bI, Option.isSome, if_true] at q1
      cases h2 : rng x2 (tlb δ b) with
      | none =>
        rw [h2] at q2
        simp only [bI, Option.isSome, Bool.false_eq_true, if_false] at q2
        obtain ⟨w1, p1, p2, p3⟩ := bad1_sp hg I0 x0' (c := 2) (r := 2) (C := 2) (R := 2) rfl rfl (by decide) (by decide)
        refine ⟨w1, ?_⟩
        simp [jX11_copy, bX11_copy_0, bX11_copy_1, bX11_copy_2, bX11_copy_3, bX11_copy_4, i_aaload, i_aload, i_dup, i_getf, i_iadd, i_iaload, i_iastore, i_icne, i_ifeq, i_ifne, i_iload, i_ireturn, i_istore, i_isub, i_jmp, i_push, i_putf, msk, lset1, lset2, clr, Value.category, Option.toList, List.cons_append, List.nil_append, List.length_cons, List.length_nil, csk_3 q1, csk_3 q2, cvk_3 hO p1]
      | some t =>
        simp only [h0, h1, h2] at ho
        split at ho <;> cases ho
theorem habit_z {g : GE} {w : Mem} {M fed kept : Nat} {fp : Int32} {tp : Nat → Int32} {rf : Nat → Nat} {δ : DE} {τ : TE} {im : Nat → TE} {x : Nat → Int32} (hg : FU g) (hd : WF δ) (hI : RI w M fed kept fp tp rf δ τ im x) (hV : τ.1 1 ≤ 8) (x0 x1 x2 x3 : Int32) {pz : Nat × Nat} (ho : (habitR τ x0 x1 x2 x3).1 = .inr pz) : ∃ w', fX11_habit g [.ref M, .int x0, .int x1, .int x2, .int x3] w = some (.inl (some (.int 0)), w') := by
  obtain ⟨w0, hw0, I0, F0⟩ := hI.t0
  obtain ⟨b1, b2, b3, b4, b5, b6, b7, b8⟩ := id hd.1
  obtain ⟨hO, hXO, hRK, hRZ, hrf⟩ := id I0
  obtain ⟨x1', x3', x27, x32, x33, x34⟩ := id hXO
  obtain ⟨hTp, hD, hR, hCp, hHb, hKp, hRP⟩ := id hRK
  have x0' : (va_up x 0 0) 0 = 0 := va_up_self _ _ _
  obtain ⟨N, hN⟩ : ∃ N, g.1 = N + 3 := ⟨g.1 - 3, by omega⟩
  obtain ⟨w1, p1, p2, p3⟩ := bad1_sp hg I0 x0' (c := 1) (r := 2) (C := 1) (R := 2) rfl rfl (by decide) (by decide)
  unfold habitR at ho
  have q0 := in_sp (w := w0) hg x0 (n := 4) (y := 3) (by decide) (by decide)
  cases h0 : rng x0 4 with
  | none =>
    rw [h0] at q0
    simp only [bI, Option.isSome, Bool.false_eq_true, if_false] at q0
    refine ⟨w1, ?_⟩
    simp [fX11_habit, kX11_habit, ent, entp, jX11_habit, bX11_habit_0, bX11_habit_1, bX11_habit_2, i_aaload, i_aload, i_dup, i_getf, i_iadd, i_iastore, i_iceq, i_icne, i_ifeq, i_ifne, i_iload, i_ireturn, i_jmp, i_push, i_putf, msk, lset1, lset2, clr, Value.category, Option.toList, List.cons_append, List.nil_append, List.length_cons, List.length_nil, hN, st_0 hI.1, hw0, csk_3 q0, cvk_3 hO p1]
  | some h =>
    rw [h0] at q0
    simp only [bI, Option.isSome, if_true] at q0
    obtain ⟨l0, e0⟩ := rng_some (by decide) h0
    subst e0
    have q1 := in_sp (w := w0) hg x1 (n := 100) (y := 99) (by decide) (by decide)
    cases h1 : rng x1 100 with
    | none =>
      rw [h1] at q1
      simp only [bI, Option.isSome, Bool.false_eq_true, if_false] at q1
      refine ⟨w1, ?_⟩
      simp [fX11_habit, kX11_habit, ent, entp, jX11_habit, bX11_habit_0, bX11_habit_1, bX11_habit_2, i_aaload, i_aload, i_dup, i_getf, i_iadd, i_iastore, i_iceq, i_icne, i_ifeq, i_ifne, i_iload, i_ireturn, i_jmp, i_push, i_putf, msk, lset1, lset2, clr, Value.category, Option.toList, List.cons_append, List.nil_append, List.length_cons, List.length_nil, hN, st_0 hI.1, hw0, csk_3 q0, csk_3 q1, cvk_3 hO p1]
    | some a =>
      rw [h1] at q1
      simp only [bI, Option.isSome, if_true] at q1
      obtain ⟨l1, e1⟩ := rng_some (by decide) h1
      subst e1
      have q2 := in_sp (w := w0) hg x2 (n := 100) (y := 99) (by decide) (by decide)
      cases h2 : rng x2 100 with
      | none =>
        rw [h2] at q2
        simp only [bI, Option.isSome, Bool.false_eq_true, if_false] at q2
        refine ⟨w1, ?_⟩
        simp [fX11_habit, kX11_habit, ent, entp, jX11_habit, bX11_habit_0, bX11_habit_1, bX11_habit_2, i_aaload, i_aload, i_dup, i_getf, i_iadd, i_iastore, i_iceq, i_icne, i_ifeq, i_ifne, i_iload, i_ireturn, i_jmp, i_push, i_putf, msk, lset1, lset2, clr, Value.category, Option.toList, List.cons_append, List.nil_append, List.length_cons, List.length_nil, hN, st_0 hI.1, hw0, csk_3 q0, csk_3 q1, csk_3 q2, cvk_3 hO p1]
      | some b =>
        rw [h2] at q2
        simp only [bI, Option.isSome, if_true] at q2
        obtain ⟨l2, e2⟩ := rng_some (by decide) h2
        subst e2
        by_cases z : a = b
        · subst z
          refine ⟨w1, ?_⟩
          simp [fX11_habit, kX11_habit, ent, entp, jX11_habit, bX11_habit_0, bX11_habit_1, bX11_habit_2, i_aaload, i_aload, i_dup, i_getf, i_iadd, i_iastore, i_iceq, i_icne, i_ifeq, i_ifne, i_iload, i_ireturn, i_jmp, i_push, i_putf, msk, lset1, lset2, clr, Value.category, Option.toList, List.cons_append, List.nil_append, List.length_cons, List.length_nil, hN, st_0 hI.1, hw0, csk_3 q0, csk_3 q1, csk_3 q2, cvk_3 hO p1]
        · have m : ¬ nI a = nI b := mt (nI_eq (by omega) (by omega)).mp z
          have q3 := in1_sp hg (w := w0) x3
          cases h3 : rng x3 16 with
          | none =>
            rw [h3] at q3
            simp only [bI, Bool.false_eq_true, if_false] at q3
            refine ⟨w1, ?_⟩
            simp [fX11_habit, kX11_habit, ent, entp, jX11_habit, bX11_habit_0, bX11_habit_1, bX11_habit_2, i_aaload, i_aload, i_dup, i_getf, i_iadd, i_iastore, i_iceq, i_icne, i_ifeq, i_ifne, i_iload, i_ireturn, i_jmp, i_push, i_putf, msk, lset1, lset2, clr, Value.category, Option.toList, List.cons_append, List.nil_append, List.length_cons, List.length_nil, hN, st_0 hI.1, hw0, csk_3 q0, csk_3 q1, csk_3 q2, csk_3 q3, m, cvk_3 hO p1]
          | some p =>
            rw [h3] at q3
            obtain ⟨l3, e3⟩ := rng_some (by decide) h3
            subst e3
            by_cases y : p = 0
            · subst y
              simp only [bI, bne_self_eq_false, Bool.false_eq_true, if_false] at q3
              refine ⟨w1, ?_⟩
              simp [fX11_habit, kX11_habit, ent, entp, jX11_habit, bX11_habit_0, bX11_habit_1, bX11_habit_2, i_aaload, i_aload, i_dup, i_getf, i_iadd, i_iastore, i_iceq, i_icne, i_ifeq, i_ifne, i_iload, i_ireturn, i_jmp, i_push, i_putf, msk, lset1, lset2, clr, Value.category, Option.toList, List.cons_append, List.nil_append, List.length_cons, List.length_nil, hN, st_0 hI.1, hw0, csk_3 q0, csk_3 q1, csk_3 q2, csk_3 q3, m, cvk_3 hO p1]
            · have yb : (p != 0) = true := by simp [y]
              simp only [bI, yb, if_true] at q3
              simp only [h0, h1, h2, h3, z, y, if_false] at ho
              split at ho <;> cases ho
theorem deed_z {g : GE} {w : Mem} {M fed kept : Nat} {fp : Int32} {tp : Nat → Int32} {rf : Nat → Nat} {δ : DE} {τ : TE} {im : Nat → TE} {x : Nat → Int32} (hg : FU g) (hd : WF δ) (hI : RI w M fed kept fp tp rf δ τ im x) (hf : fed ≤ 600) {T : Nat → Nat} (hT : TXT w (M + 1) T) (δ0 : DE) (x0 : Int32) {pz : Nat × Nat} (ho : (deedS (fed, kept, fp, tp, rf, δ, τ, im) T δ0 x0).1 = .inr pz) : ∃ w', fX11_deed g [.ref M, .int x0] w = some (.inl (some (.int 0)), w') := by
  obtain ⟨w0, hw0, I0, F0⟩ := hI.t0
  obtain ⟨hO, hXO, hRK, hRZ, hrf⟩ := id I0
  obtain ⟨x1', x3', x27, x32, x33, x34⟩ := id hXO
  obtain ⟨hTp, hD, hR, hCp, hHb, hKp, hRP⟩ := id hRK
  have x0' : (va_up x 0 0) 0 = 0 := va_up_self _ _ _
  unfold deedS at ho
  have q0 := in_sp (w := w0) hg x0 (n := fed + 1) (y := nI fed) (nI_pred fed) (by omega)
  simp only [] at ho
  cases h0 : rng x0 (fed + 1) with
  | none =>
    rw [h0] at q0
    simp only [bI, Option.isSome, Bool.false_eq_true, if_false] at q0
    obtain ⟨w1, p1, p2, p3⟩ := bad1_sp hg I0 x0' (c := 1) (r := 2) (C := 1) (R := 2) rfl rfl (by decide) (by decide)
    refine ⟨w1, ?_⟩
    obtain ⟨N, hN⟩ : ∃ N, g.1 = N + 2 := ⟨g.1 - 2, by omega⟩
    simp [fX11_deed, kX11_deed, ent, entp, jX11_deed, bX11_deed_0, bX11_deed_1, bX11_deed_2, bX11_deed_3, bX11_deed_4, bX11_deed_5, bX11_deed_6, bX11_deed_7, bX11_deed_8, i_aaload, i_aload, i_getf, i_iaload, i_iastore, i_icge, i_icle, i_ifeq, i_ifne, i_iinc, i_iload, i_imul, i_ireturn, i_istore, i_isub, i_jmp, i_push, i_putf, msk, lset1, lset2, clr, Value.category, Option.toList, List.cons_append, List.nil_append, List.length_cons, List.length_nil, hN, st_0 hI.1, hw0, gf_eq hO, mg_1, x1', csk_3 q0, cvk_3 hO p1]
  | some n =>
    rw [h0] at ho
    simp only [] at ho
    split at ho <;> cases ho
