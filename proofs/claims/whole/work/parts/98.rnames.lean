/-! ===== the reference reads: names told, is or not ===== -/
theorem toldName_sp {g : GE} (hg : FU g) {w : Mem} {M n a fr N : Nat} {x : Nat → Int32} {T f : Nat → Nat} {c : Nat → Int64} (hO : MO w M x) (h2 : x 2 = nI n) (h4 : x 4 = nI a) (h5 : x 5 = 0) (hT : TXT w (M + 1) T) (ha : a ≤ n) (hn : n ≤ 600) (hL : LA w (M + 11) 9 c) (hc : ∀ i, i < N → c (fr + i) = lN (f i)) (hf : ∀ i, i < N → f i < 2 ^ 43) (hN9 : fr + N ≤ 9) :
    ∃ w', fX11_toldName g [.ref M, .int (nI fr), .int (nI N)] w = some (.inl (some (.int (pvD 0 (namP T n N f a)))), w') ∧ MO w' M (xV x (sb T n a) (namP T n N f a)) ∧ Fr (fun q => q = M) w w' := by
  obtain ⟨w1, r1, o1, F1⟩ := lettersHere_sp hg hO h2 h4 hT ha hn
  have k2 : sb T n a ≤ n := ru_n ha
  have ss : sb T n (sb T n a) = sb T n a := ru_ru ha
  have T1 := hT.fr F1 (by omega)
  have L1 := hL.fr F1 (by omega)
  unfold namP
  generalize sb T n a = s at *
  have g2 : va_up x 4 (nI s) 2 = nI n := h2
  have g4 : va_up x 4 (nI s) 4 = nI s := va_up_self _ _ _
  have g5 : va_up x 4 (nI s) 5 = 0 := h5
  have r2 := wordHere_at hg o1 g2 g4 T1 k2 hn ss
  have k3 : s ≤ le9 T n s := ru_le k2
  have k4 : le9 T n s ≤ n := ru_n k2
  by_cases y : le9 T n s = s
  · rw [if_pos y]
    obtain ⟨w2, p1, p2, p3⟩ := wrong_sp hg o1 g5 1 (nI s)
    have j5 : ¬ va_up (va_up (va_up x 4 (nI s)) 5 1) 6 (nI s) 5 = 0 := by show ¬ (1 : Int32) = 0; decide
    have p4 := wrong_no hg p2 j5 2 (nI s)
    have j4 : va_up (va_up (va_up x 4 (nI s)) 5 1) 6 (nI s) 4 = nI s := g4
    obtain ⟨N2, hN2⟩ : ∃ N, g.1 = N + 5 := ⟨g.1 - 5, by omega⟩
    refine ⟨w2, ?_, p2, F1.tr p3⟩
    show _ = some (Sum.inl (some (Value.int 0)), w2)
    rw [y, Nat.sub_self] at r1 r2
    rw [nI_0] at r1
    generalize (if 9 < 0 then (-1 : Int64) else lN (cdF T s 0)) = C at *
    by_cases u : N = 0
    · subst u
      have e0 : nI 0 ≤ 0 := by decide
      simp [fX11_toldName, kX11_toldName, ent, entp, jX11_toldName, bX11_toldName_0, bX11_toldName_1, bX11_toldName_2, bX11_toldName_3, i_aload, i_dup, i_getf, i_iadd, i_icge, i_ifeq, i_ifne, i_iinc, i_iload, i_ireturn, i_istore, i_jmp, i_laload, i_lcmp, i_lload, i_lstore, i_push, i_putf, msk, lset1, lset2, clr, Value.category, Option.toList, List.cons_append, List.nil_append, List.length_cons, List.length_nil, hN2, gf_eq hO, mg_5, mg_4, h5, cvk_0 hO r1, cvk_0 o1 r2, gf_eq o1, g4, cvk_2 o1 p1, gf_eq p2, j4, j5, e0, cvk_2 p2 p4]
    · have e0 : ¬ nI N ≤ 0 := nI_ge (a := 0) (by omega) (by omega)
      simp [fX11_toldName, kX11_toldName, ent, entp, jX11_toldName, bX11_toldName_0, bX11_toldName_1, bX11_toldName_2, bX11_toldName_3, i_aload, i_dup, i_getf, i_iadd, i_icge, i_ifeq, i_ifne, i_iinc, i_iload, i_ireturn, i_istore, i_jmp, i_laload, i_lcmp, i_lload, i_lstore, i_push, i_putf, msk, lset1, lset2, clr, Value.category, Option.toList, List.cons_append, List.nil_append, List.length_cons, List.length_nil, hN2, gf_eq hO, mg_5, mg_4, h5, cvk_0 hO r1, cvk_0 o1 r2, gf_eq o1, g4, cvk_2 o1 p1, gf_eq p2, j4, j5, e0, cvk_2 p2 p4]
  · rw [if_neg y]
    have cl : ¬ 9 < le9 T n s - s → cdF T s (le9 T n s - s) < 2 ^ 43 := fun h9 => by
      have := code_lt (T := T) k2
      rwa [show min (le9 T n s - s) 9 = le9 T n s - s by omega] at this
    have ev : ∀ i, i < N → ((lN (f i) = (if 9 < le9 T n s - s then (-1 : Int64) else lN (cdF T s (le9 T n s - s)))) ↔ (¬ 9 < le9 T n s - s ∧ f i = cdF T s (le9 T n s - s))) := fun i hi => by
      have hfi := hf i hi
      by_cases h9 : 9 < le9 T n s - s
      · rw [if_pos h9]
        constructor
        · intro h
          have : (-1 : Int64) = lN (2 ^ 64 - 1) := by decide
          rw [this, lN_inj9 (by omega) (by decide)] at h
          omega
        · intro h
          exact absurd h9 h.1
      · rw [if_neg h9]
        have := cl h9
        rw [lN_inj9 (by omega) (by omega)]
        exact ⟨fun h => ⟨h9, h⟩, fun h => h.2⟩
    have e3 : ¬ nI (le9 T n s - s) = 0 := nI_ne0 (by omega) (by omega)
    have ea : nI s + nI (le9 T n s - s) = nI (le9 T n s) := by rw [nI_add, show s + (le9 T n s - s) = le9 T n s by omega]
    obtain ⟨w2, p1, p2, p3⟩ := wrong_sp hg o1 g5 2 (nI s)
    obtain ⟨N2, hN2⟩ : ∃ N, g.1 = N + 2 := ⟨g.1 - 2, by omega⟩
    generalize hC : (if 9 < le9 T n s - s then (-1 : Int64) else lN (cdF T s (le9 T n s - s))) = C at *
    have L := lpR (fun f (z : Lv) => jX11_toldName g f 2 [] z w1) (fun i z => z = [some (.ref M), some (.int (nI fr)), some (.int (nI N)), some (.int (nI (le9 T n s - s))), some (.long C), none, some (.int (nI i))] ∧ ∀ m, m < i → ¬ (¬ 9 < le9 T n s - s ∧ f m = cdF T s (le9 T n s - s)))
      (fun z => ∃ w', z = some (.inl (some (.int (pvD 0 (if 9 < le9 T n s - s then .inl (2, s) else match nfF f (cdF T s (le9 T n s - s)) N with
  | some i => .inr (i, le9 T n s)
  | none => .inl (2, s))))), w') ∧ MO w' M (xV x s (if 9 < le9 T n s - s then .inl (2, s) else match nfF f (cdF T s (le9 T n s - s)) N with
  | some i => .inr (i, le9 T n s)
  | none => .inl (2, s))) ∧ Fr (fun q => q = M) w w') 1 2 N
      (fun i z hi hI F => by
        obtain ⟨e1, e2⟩ := hI
        have e4 := nI_ge hi (by omega)
        have rd := L1.rd (j := fr + i) (by omega) (by decide)
        rw [hc i hi] at rd
        have ei := nI_add fr i
        by_cases u : ¬ 9 < le9 T n s - s ∧ f i = cdF T s (le9 T n s - s)
        · refine Or.inl ?_
          have e5 := cz_y ((ev i hi).mpr u)
          rw [if_neg u.1, nf_first hi u.2 fun j hj h => e2 j hj ⟨u.1, h⟩]
          have st := st_4 o1 (nI (le9 T n s))
          rw [va_up_up] at st
          refine ⟨_, ?_, ms_at _ _ _, F1.tr (Fr.ms w1 (.inr (10, mo M (va_up x 4 (nI (le9 T n s))))) rfl)⟩
          show _ = some (Sum.inl (some (Value.int (nI i))), _)
          clear hC ev cl e2
          generalize nI (le9 T n s - s) = K at *
          generalize le9 T n s = A at *
          simp [jX11_toldName, bX11_toldName_0, bX11_toldName_1, bX11_toldName_2, bX11_toldName_3, i_aload, i_dup, i_getf, i_iadd, i_icge, i_ifeq, i_ifne, i_iinc, i_iload, i_ireturn, i_istore, i_jmp, i_laload, i_lcmp, i_lload, i_lstore, i_push, i_putf, msk, lset1, lset2, clr, Value.category, Option.toList, List.cons_append, List.nil_append, List.length_cons, List.length_nil, e1, e4, gf_eq o1, mg_5, mg_4, mg_18, g5, g4, ei, rd, e5, ea, st]
          rfl
        · have e5 := cz_n (mt (ev i hi).mp u)
          refine Or.inr ⟨F, [some (.ref M), some (.int (nI fr)), some (.int (nI N)), some (.int (nI (le9 T n s - s))), some (.long C), none, some (.int (nI (i + 1)))], Nat.le_refl _, ⟨rfl, fun m hm => ?_⟩, ?_⟩
          · by_cases z : m = i
            · rw [z]; exact u
            · exact e2 m (by omega)
          · clear hC ev cl e2 u
            generalize nI (le9 T n s - s) = K at *
            simp [jX11_toldName, bX11_toldName_0, bX11_toldName_1, bX11_toldName_2, bX11_toldName_3, i_aload, i_dup, i_getf, i_iadd, i_icge, i_ifeq, i_ifne, i_iinc, i_iload, i_ireturn, i_istore, i_jmp, i_laload, i_lcmp, i_lload, i_lstore, i_push, i_putf, msk, lset1, lset2, clr, Value.category, Option.toList, List.cons_append, List.nil_append, List.length_cons, List.length_nil, e1, e4, gf_eq o1, mg_5, mg_4, mg_18, g5, g4, ei, rd, e5, nI_1])
      (fun z hI F => by
        obtain ⟨e1, e2⟩ := hI
        have e4 : (if 9 < le9 T n s - s then .inl (2, s) else match nfF f (cdF T s (le9 T n s - s)) N with
  | some i => .inr (i, le9 T n s)
  | none => .inl (2, s)) = (.inl (2, s) : PV) := by
          by_cases h9 : 9 < le9 T n s - s
          · rw [if_pos h9]
          · rw [if_neg h9]
            cases hq : nfF f (cdF T s (le9 T n s - s)) N with
            | none => rfl
            | some i => exact absurd ⟨h9, (nf_some hq).2⟩ (e2 i (nf_some hq).1)
        rw [e4]
        refine ⟨w2, ?_, p2, F1.tr p3⟩
        show _ = some (Sum.inl (some (Value.int 0)), w2)
        clear hC ev cl e2 e4
        generalize nI (le9 T n s - s) = K at *
        simp [jX11_toldName, bX11_toldName_0, bX11_toldName_1, bX11_toldName_2, bX11_toldName_3, i_aload, i_dup, i_getf, i_iadd, i_icge, i_ifeq, i_ifne, i_iinc, i_iload, i_ireturn, i_istore, i_jmp, i_laload, i_lcmp, i_lload, i_lstore, i_push, i_putf, msk, lset1, lset2, clr, Value.category, Option.toList, List.cons_append, List.nil_append, List.length_cons, List.length_nil, e1, gf_eq o1, mg_4, g4, cvk_2 o1 p1])
    have Lz := L N 0 [some (.ref M), some (.int (nI fr)), some (.int (nI N)), some (.int (nI (le9 T n s - s))), some (.long C), none, some (.int (nI 0))] (by omega) ⟨rfl, fun m hm => by omega⟩ N2 (by omega)
    have e0 : fX11_toldName g [.ref M, .int (nI fr), .int (nI N)] w = jX11_toldName g N2 2 [] [some (.ref M), some (.int (nI fr)), some (.int (nI N)), some (.int (nI (le9 T n s - s))), some (.long C), none, some (.int (nI 0))] w1 := by
      clear Lz L hC ev cl
      rw [nI_0]
      generalize nI (le9 T n s - s) = K at *
      simp [fX11_toldName, kX11_toldName, ent, entp, jX11_toldName, bX11_toldName_0, bX11_toldName_1, bX11_toldName_2, bX11_toldName_3, i_aload, i_dup, i_getf, i_iadd, i_icge, i_ifeq, i_ifne, i_iinc, i_iload, i_ireturn, i_istore, i_jmp, i_laload, i_lcmp, i_lload, i_lstore, i_push, i_putf, msk, lset1, lset2, clr, Value.category, Option.toList, List.cons_append, List.nil_append, List.length_cons, List.length_nil, hN2, gf_eq hO, mg_5, mg_4, h5, cvk_0 hO r1, cvk_0 o1 r2, e3]
    rw [e0]
    exact Lz
theorem isHere_sp {g : GE} (hg : FU g) {w : Mem} {M n a : Nat} {x : Nat → Int32} {T : Nat → Nat} (hO : MO w M x) (h2 : x 2 = nI n) (h4 : x 4 = nI a) (h5 : x 5 = 0) (hT : TXT w (M + 1) T) (ha : a ≤ n) (hn : n ≤ 600) :
    ∃ w', fX11_isHere g [.ref M] w = some (.inl (some (.int (pvD 1 (isP T n a)))), w') ∧ MO w' M (xV x (sb T n a) (isP T n a)) ∧ Fr (fun q => q = M) w w' := by
  obtain ⟨N, hN⟩ : ∃ N, g.1 = N + 4 := ⟨g.1 - 4, by omega⟩
  obtain ⟨w1, r1, o1, F1⟩ := lettersHere_sp hg hO h2 h4 hT ha hn
  have k2 : sb T n a ≤ n := ru_n ha
  have ss : sb T n (sb T n a) = sb T n a := ru_ru ha
  have T1 := hT.fr F1 (by omega)
  unfold isP
  generalize sb T n a = s at *
  have g2 : va_up x 4 (nI s) 2 = nI n := h2
  have g4 : va_up x 4 (nI s) 4 = nI s := va_up_self _ _ _
  have g5 : va_up x 4 (nI s) 5 = 0 := h5
  have ri := isWordR_sp hg o1 g2 g4 g5 T1 k2 hn ss (six_i hg w1) (by decide) (by decide)
  have ro := isWordR_sp hg o1 g2 g4 g5 T1 k2 hn ss (six_o hg w1) (by decide) (by decide)
  have k3 : s ≤ le9 T n s := ru_le k2
  have k4 : le9 T n s ≤ n := ru_n k2
  have wl := wdL_len T s (le9 T n s - s)
  by_cases y : le9 T n s = s
  · rw [if_pos y]
    rw [if_neg (fun h => by rw [h] at wl; have : wIs.length = 2 := rfl; omega)] at ri
    rw [if_neg (fun h => by rw [h] at wl; have : wNot.length = 3 := rfl; omega)] at ro
    obtain ⟨w2, p1, p2, p3⟩ := wrong_sp hg o1 g5 1 (nI s)
    have j5 : ¬ va_up (va_up (va_up x 4 (nI s)) 5 1) 6 (nI s) 5 = 0 := by show ¬ (1 : Int32) = 0; decide
    refine ⟨w2, ?_, p2, F1.tr p3⟩
    show _ = some (Sum.inl (some (Value.int 1)), w2)
    rw [y, Nat.sub_self, nI_0] at r1
    simp [fX11_isHere, kX11_isHere, ent, entp, jX11_isHere, bX11_isHere_0, bX11_isHere_1, bX11_isHere_2, bX11_isHere_3, i_aload, i_dup, i_getf, i_iadd, i_ifeq, i_ifne, i_iload, i_ireturn, i_istore, i_jmp, i_push, i_putf, msk, lset1, lset2, clr, Value.category, Option.toList, List.cons_append, List.nil_append, List.length_cons, List.length_nil, hN, cvk_0 hO r1, cvk_6 o1 ri, cvk_6 o1 ro, gf_eq o1, mg_4, mg_5, g4, cvk_2 o1 p1, gf_eq p2, j5]
  · rw [if_neg y]
    have e3 : ¬ nI (le9 T n s - s) = 0 := nI_ne0 (by omega) (by omega)
    have ea : nI s + nI (le9 T n s - s) = nI (le9 T n s) := by rw [nI_add, show s + (le9 T n s - s) = le9 T n s by omega]
    have st := st_4 o1 (nI (le9 T n s))
    rw [va_up_up] at st
    by_cases yi : wdL T s (le9 T n s - s) = wIs
    · rw [if_pos yi] at ri ⊢
      rw [if_neg (fun h => by rw [h] at yi; exact absurd yi (by decide))] at ro
      refine ⟨_, ?_, ms_at _ _ _, F1.tr (Fr.ms w1 (.inr (10, mo M (va_up x 4 (nI (le9 T n s))))) rfl)⟩
      show _ = some (Sum.inl (some (Value.int (nI 0))), _)
      rw [nI_0]
      clear yi wl
      generalize nI (le9 T n s - s) = K at *
      generalize le9 T n s = A at *
      simp [fX11_isHere, kX11_isHere, ent, entp, jX11_isHere, bX11_isHere_0, bX11_isHere_1, bX11_isHere_2, bX11_isHere_3, i_aload, i_dup, i_getf, i_iadd, i_ifeq, i_ifne, i_iload, i_ireturn, i_istore, i_jmp, i_push, i_putf, msk, lset1, lset2, clr, Value.category, Option.toList, List.cons_append, List.nil_append, List.length_cons, List.length_nil, hN, cvk_0 hO r1, cvk_6 o1 ri, cvk_6 o1 ro, gf_eq o1, mg_4, mg_5, g4, g5, e3, ea, st]
      rfl
    · rw [if_neg yi] at ri ⊢
      by_cases yo : wdL T s (le9 T n s - s) = wNot
      · rw [if_pos yo] at ro ⊢
        refine ⟨_, ?_, ms_at _ _ _, F1.tr (Fr.ms w1 (.inr (10, mo M (va_up x 4 (nI (le9 T n s))))) rfl)⟩
        show _ = some (Sum.inl (some (Value.int 1)), _)
        clear yi yo wl
        generalize nI (le9 T n s - s) = K at *
        generalize le9 T n s = A at *
        simp [fX11_isHere, kX11_isHere, ent, entp, jX11_isHere, bX11_isHere_0, bX11_isHere_1, bX11_isHere_2, bX11_isHere_3, i_aload, i_dup, i_getf, i_iadd, i_ifeq, i_ifne, i_iload, i_ireturn, i_istore, i_jmp, i_push, i_putf, msk, lset1, lset2, clr, Value.category, Option.toList, List.cons_append, List.nil_append, List.length_cons, List.length_nil, hN, cvk_0 hO r1, cvk_6 o1 ri, cvk_6 o1 ro, gf_eq o1, mg_4, mg_5, g4, g5, e3, ea, st]
        rfl
      · rw [if_neg yo] at ro ⊢
        obtain ⟨w2, p1, p2, p3⟩ := wrong_sp hg o1 g5 2 (nI s)
        have j5 : ¬ va_up (va_up (va_up x 4 (nI s)) 5 2) 6 (nI s) 5 = 0 := by show ¬ (2 : Int32) = 0; decide
        refine ⟨w2, ?_, p2, F1.tr p3⟩
        show _ = some (Sum.inl (some (Value.int 1)), w2)
        clear yi yo wl
        generalize nI (le9 T n s - s) = K at *
        simp [fX11_isHere, kX11_isHere, ent, entp, jX11_isHere, bX11_isHere_0, bX11_isHere_1, bX11_isHere_2, bX11_isHere_3, i_aload, i_dup, i_getf, i_iadd, i_ifeq, i_ifne, i_iload, i_ireturn, i_istore, i_jmp, i_push, i_putf, msk, lset1, lset2, clr, Value.category, Option.toList, List.cons_append, List.nil_append, List.length_cons, List.length_nil, hN, cvk_0 hO r1, cvk_6 o1 ri, cvk_6 o1 ro, gf_eq o1, mg_4, mg_5, g4, e3, cvk_2 o1 p1, gf_eq p2, j5]
