/-! ===== the reference reads: letters, words ===== -/
theorem lettersHere_sp {g : GE} (hg : FU g) {w : Mem} {M n a : Nat} {x : Nat → Int32} {T : Nat → Nat} (hO : MO w M x) (h2 : x 2 = nI n) (h4 : x 4 = nI a) (hT : TXT w (M + 1) T) (ha : a ≤ n) (hn : n ≤ 600) :
    ∃ w', fX11_lettersHere g [.ref M] w = some (.inl (some (.int (nI (le9 T n (sb T n a) - sb T n a)))), w') ∧ MO w' M (va_up x 4 (nI (sb T n a))) ∧ Fr (fun q => q = M) w w' := by
  obtain ⟨N, hN⟩ : ∃ N, g.1 = N + 1 := ⟨g.1 - 1, by omega⟩
  obtain ⟨w1, r1, o1, F1⟩ := blanks_sp hg hO h2 h4 hT ha hn
  have k2 : sb T n a ≤ n := ru_n ha
  have T1 := hT.fr F1 (by omega)
  generalize sb T n a = s at *
  have k3 : s ≤ le9 T n s := ru_le k2
  have k4 : le9 T n s ≤ n := ru_n k2
  have g4 : va_up x 4 (nI s) 4 = nI s := va_up_self _ _ _
  have L := lpR (fun f (z : Lv) => jX11_lettersHere g f 1 [] z w1) (fun i z => z = [some (.ref M), some (.int (nI i))])
    (fun z => z = some (.inl (some (.int (nI (le9 T n s - s)))), w1)) 1 2 (le9 T n s - s)
    (fun i z hi hI f => by
      have q1 : isL (T (s + i)) = true := ru_p k2 (Nat.le_add_right _ _) (show s + i < le9 T n s by omega)
      simp only [isL, decide_eq_true_eq] at q1
      have by1 := byteAt_sp hg (i := s + i) o1 h2 T1 hn (by omega)
      rw [if_pos (by omega)] at by1
      have e5 : ¬ nI (T (s + i)) < 97 := nI_nlt (b := 97) (by omega) (by omega)
      have e6 : ¬ 122 < nI (T (s + i)) := nI_nlt (a := 122) (by omega) (by decide)
      have ea := nI_add s i
      refine Or.inr ⟨f, [some (.ref M), some (.int (nI (i + 1)))], Nat.le_refl _, rfl, ?_⟩
      subst hI
      generalize T (s + i) = X at *
      generalize s + i = A at *
      simp [jX11_lettersHere, bX11_lettersHere_0, bX11_lettersHere_1, bX11_lettersHere_2, i_aload, i_getf, i_iadd, i_icgt, i_iclt, i_iinc, i_iload, i_ireturn, i_istore, i_jmp, i_push, msk, lset1, lset2, clr, Value.category, Option.toList, List.cons_append, List.nil_append, List.length_cons, List.length_nil, gf_eq o1, mg_4, g4, ea, cvk_1 o1 by1, e5, e6, nI_1])
    (fun z hI f => by
      have ea := nI_add s (le9 T n s - s)
      rw [show s + (le9 T n s - s) = le9 T n s by omega] at ea
      have by1 := byteAt_sp hg (i := le9 T n s) o1 h2 T1 hn (by omega)
      have e5 : (if le9 T n s < n then nI (T (le9 T n s)) else -1) < 97 ∨ (¬ (if le9 T n s < n then nI (T (le9 T n s)) else -1) < 97 ∧ 122 < (if le9 T n s < n then nI (T (le9 T n s)) else -1)) := by
        split
        · next y =>
          have q1 : ¬ isL (T (le9 T n s)) = true := ru_q k2 y
          simp only [isL, decide_eq_true_eq] at q1
          have lt := hT.2 (le9 T n s) (by omega)
          by_cases u : T (le9 T n s) < 97
          · exact Or.inl (nI_lt (b := 97) u (by decide))
          · exact Or.inr ⟨nI_nlt (b := 97) (by omega) (by omega), nI_lt (a := 122) (by omega) (by omega)⟩
        · exact Or.inl (by decide)
      subst hI
      generalize (if le9 T n s < n then nI (T (le9 T n s)) else -1) = Y at *
      generalize nI (le9 T n s - s) = KK at *
      generalize le9 T n s = A at *
      rcases e5 with e5 | ⟨e5, e6⟩
      · simp [jX11_lettersHere, bX11_lettersHere_0, bX11_lettersHere_1, bX11_lettersHere_2, i_aload, i_getf, i_iadd, i_icgt, i_iclt, i_iinc, i_iload, i_ireturn, i_istore, i_jmp, i_push, msk, lset1, lset2, clr, Value.category, Option.toList, List.cons_append, List.nil_append, List.length_cons, List.length_nil, gf_eq o1, mg_4, g4, ea, cvk_1 o1 by1, e5]
      · simp [jX11_lettersHere, bX11_lettersHere_0, bX11_lettersHere_1, bX11_lettersHere_2, i_aload, i_getf, i_iadd, i_icgt, i_iclt, i_iinc, i_iload, i_ireturn, i_istore, i_jmp, i_push, msk, lset1, lset2, clr, Value.category, Option.toList, List.cons_append, List.nil_append, List.length_cons, List.length_nil, gf_eq o1, mg_4, g4, ea, cvk_1 o1 by1, e5, e6])
  have L1 := L (le9 T n s - s) 0 [some (.ref M), some (.int (nI 0))] (by omega) rfl N (by omega)
  refine ⟨w1, ?_, o1, F1⟩
  rw [← L1, nI_0]
  clear L1 L
  simp [fX11_lettersHere, kX11_lettersHere, ent, entp, jX11_lettersHere, bX11_lettersHere_0, bX11_lettersHere_1, bX11_lettersHere_2, i_aload, i_getf, i_iadd, i_icgt, i_iclt, i_iinc, i_iload, i_ireturn, i_istore, i_jmp, i_push, msk, lset1, lset2, clr, Value.category, Option.toList, List.cons_append, List.nil_append, List.length_cons, List.length_nil, hN, cvk_0 hO r1]
theorem cd_sr {C t : Nat} (h1 : 97 ≤ t) (h2 : t ≤ 122) : 27 * lN C + (nI t).toInt64 - 97 + 1 = lN (C * 27 + (t - 96)) := by
  have e1 : 27 * lN C = lN (27 * C) := lN_mul 27 C
  have e2 : lN (27 * C + t) - 97 = lN (27 * C + t - 97) := lN_sub (b := 97) (by omega)
  rw [nI_l (by omega), e1, lN_add, e2, lN_1, show 27 * C + t - 97 + 1 = C * 27 + (t - 96) by omega]
theorem wordHere_sp {g : GE} (hg : FU g) {w : Mem} {M n a : Nat} {x : Nat → Int32} {T : Nat → Nat} (hO : MO w M x) (h2 : x 2 = nI n) (h4 : x 4 = nI a) (hT : TXT w (M + 1) T) (ha : a ≤ n) (hn : n ≤ 600) :
    ∃ w', fX11_wordHere g [.ref M] w = some (.inl (some (.long (if 9 < le9 T n (sb T n a) - sb T n a then -1 else lN (cdF T (sb T n a) (le9 T n (sb T n a) - sb T n a))))), w') ∧ MO w' M (va_up x 4 (nI (sb T n a))) ∧ Fr (fun q => q = M) w w' := by
  obtain ⟨N, hN⟩ : ∃ N, g.1 = N + 1 := ⟨g.1 - 1, by omega⟩
  obtain ⟨w1, r1, o1, F1⟩ := lettersHere_sp hg hO h2 h4 hT ha hn
  have k2 : sb T n a ≤ n := ru_n ha
  have T1 := hT.fr F1 (by omega)
  generalize sb T n a = s at *
  have k3 : s ≤ le9 T n s := ru_le k2
  have k4 : le9 T n s ≤ n := ru_n k2
  have g4 : va_up x 4 (nI s) 4 = nI s := va_up_self _ _ _
  have L := lpR (fun f (z : Lv) => jX11_wordHere g f 1 [] z w1) (fun i z => z = [some (.ref M), some (.int (nI (le9 T n s - s))), some (.long (lN (cdF T s i))), none, some (.int (nI i))])
    (fun z => z = some (.inl (some (.long (if 9 < le9 T n s - s then -1 else lN (cdF T s (le9 T n s - s))))), w1)) 1 3 (min (le9 T n s - s) 9)
    (fun i z hi hI f => by
      have q1 : isL (T (s + i)) = true := ru_p k2 (Nat.le_add_right _ _) (show s + i < le9 T n s by omega)
      simp only [isL, decide_eq_true_eq] at q1
      have by1 := byteAt_sp hg (i := s + i) o1 h2 T1 hn (by omega)
      rw [if_pos (by omega)] at by1
      have e3 := nI_ge (a := i) (b := le9 T n s - s) (by omega) (by omega)
      have e5 : ¬ 9 ≤ nI i := nI_ge (b := 9) (by omega) (by decide)
      have e6 := cd_sr (C := cdF T s i) q1.1 q1.2
      have e7 : cdF T s i * 27 + (T (s + i) - 96) = cdF T s (i + 1) := rfl
      rw [e7] at e6
      have ea := nI_add s i
      refine Or.inr ⟨f, [some (.ref M), some (.int (nI (le9 T n s - s))), some (.long (lN (cdF T s (i + 1)))), none, some (.int (nI (i + 1)))], Nat.le_refl _, rfl, ?_⟩
      subst hI
      clear e7
      generalize cdF T s (i + 1) = C1 at *
      generalize cdF T s i = C0 at *
      generalize T (s + i) = X at *
      generalize s + i = A at *
      simp [jX11_wordHere, bX11_wordHere_0, bX11_wordHere_1, bX11_wordHere_2, bX11_wordHere_3, i_aload, i_getf, i_i2l, i_iadd, i_icge, i_icle, i_iinc, i_iload, i_istore, i_jmp, i_ladd, i_lload, i_lmul, i_lreturn, i_lstore, i_lsub, i_push, msk, lset1, lset2, clr, Value.category, Option.toList, List.cons_append, List.nil_append, List.length_cons, List.length_nil, e3, e5, gf_eq o1, mg_4, g4, ea, cvk_1 o1 by1, e6, nI_1])
    (fun z hI f => by
      by_cases y : 9 < le9 T n s - s
      · rw [if_pos y]
        have e3 := nI_ge (a := 9) (b := le9 T n s - s) y (by omega)
        have e3' : ¬ nI (le9 T n s - s) ≤ 9 := e3
        rw [show min (le9 T n s - s) 9 = 9 by omega] at hI
        subst hI
        have e5 : (9 : Int32) ≤ nI 9 := by decide
        generalize nI (le9 T n s - s) = K at *
        generalize cdF T s 9 = C at *
        simp [jX11_wordHere, bX11_wordHere_0, bX11_wordHere_1, bX11_wordHere_2, bX11_wordHere_3, i_aload, i_getf, i_i2l, i_iadd, i_icge, i_icle, i_iinc, i_iload, i_istore, i_jmp, i_ladd, i_lload, i_lmul, i_lreturn, i_lstore, i_lsub, i_push, msk, lset1, lset2, clr, Value.category, Option.toList, List.cons_append, List.nil_append, List.length_cons, List.length_nil, e3, e3', e5]
      · rw [if_neg y]
        have e3 : nI (le9 T n s - s) ≤ 9 := nI_le (b := 9) (by omega) (by decide)
        rw [show min (le9 T n s - s) 9 = le9 T n s - s by omega] at hI
        subst hI
        generalize cdF T s (le9 T n s - s) = C at *
        generalize nI (le9 T n s - s) = K at *
        simp [jX11_wordHere, bX11_wordHere_0, bX11_wordHere_1, bX11_wordHere_2, bX11_wordHere_3, i_aload, i_getf, i_i2l, i_iadd, i_icge, i_icle, i_iinc, i_iload, i_istore, i_jmp, i_ladd, i_lload, i_lmul, i_lreturn, i_lstore, i_lsub, i_push, msk, lset1, lset2, clr, Value.category, Option.toList, List.cons_append, List.nil_append, List.length_cons, List.length_nil, e3])
  have L1 := L (min (le9 T n s - s) 9) 0 [some (.ref M), some (.int (nI (le9 T n s - s))), some (.long (lN (cdF T s 0))), none, some (.int (nI 0))] (by omega) rfl N (by omega)
  refine ⟨w1, ?_, o1, F1⟩
  rw [← L1, nI_0, show lN (cdF T s 0) = 0 from rfl]
  clear L1 L
  simp [fX11_wordHere, kX11_wordHere, ent, entp, jX11_wordHere, bX11_wordHere_0, bX11_wordHere_1, bX11_wordHere_2, bX11_wordHere_3, i_aload, i_getf, i_i2l, i_iadd, i_icge, i_icle, i_iinc, i_iload, i_istore, i_jmp, i_ladd, i_lload, i_lmul, i_lreturn, i_lstore, i_lsub, i_push, msk, lset1, lset2, clr, Value.category, Option.toList, List.cons_append, List.nil_append, List.length_cons, List.length_nil, hN, cvk_0 hO r1]
