/-! ===== the reference reads: letters, words ===== -/
theorem lettersHere_sp {g : GE} (hg : FU g) {w : Mem} {M n a : Nat} {x : Nat → Int32} {T : Nat → Nat} (hO : MO w M x) (h2 : x 2 = nI n) (h4 : x 4 = nI a) (hT : TXT w (M + 1) T) (ha : a ≤ n) (hn : n ≤ 600) :
    ∃ w', fX11_lettersHere g [.ref M] w = some (.inl (some (.int (nI (le9 T n (sb T n a) - sb T n a)))), w') ∧ MO w' M (va_up x 4 (nI (sb T n a))) ∧ Fr (fun q => q = M) w w' := by
  obtain ⟨N, hN⟩ : ∃ N, g.1 = N + 1 := ⟨g.1 - 1, by omega⟩
  obtain ⟨w1, r1, o1, F1⟩ := blanks_sp hg hO h2 h4 hT ha hn
  have k2 : sb T n a ≤ n := ru_n ha
  have T1 := hT.fr F1 (by omega)
  generalize sb T n a = s at *
  have k3 : s ≤ le9 T n s := ru_le k2
  have k4 : le9 T n s ≤ n := ru_n k2
  have g4 : va_up x 4 (nI s) 4 = nI s := va_up_self _ _ _
  have L := lpR (fun f (z : Lv) => jX11_lettersHere g f 1 [] z w1) (fun i z => z = [some (.ref M), some (.int (nI i))])
    (fun z => z = some (.inl (some (.int (nI (le9 T n s - s)))), w1)) 1 2 (le9 T n s - s)
    (fun i z hi hI f => by
      have q1 : isL (T (s + i)) = true := ru_p k2 (Nat.le_add_right _ _) (show s + i < le9 T n s by omega)
      simp only [isL, decide_eq_true_eq] at q1
      have by1 := byteAt_sp hg (i := s + i) o1 h2 T1 hn (by omega)
      rw [if_pos (by omega)] at by1
      have e5 : ¬ nI (T (s + i)) < 97 := nI_nlt (b := 97) (by omega) (by omega)
      have e6 : ¬ 122 < nI (T (s + i)) := nI_nlt (a := 122) (by omega) (by decide)
      have ea := nI_add s i
      refine Or.inr ⟨f, [some (.ref M), some (.int (nI (i + 1)))], Nat.le_refl _, rfl, ?_⟩
      subst hI
      generalize T (s + i) = X at *
      generalize s + i = A at *
      simp [jX11_lettersHere, bX11_lettersHere_0, bX11_lettersHere_1, bX11_lettersHere_2, i_aload, i_getf, i_iadd, i_icgt, i_iclt, i_iinc, i_iload, i_ireturn, i_istore, i_jmp, i_push, msk, lset1, lset2, clr, Value.category, Option.toList, List.cons_append, List.nil_append, List.length_cons, List.length_nil, gf_eq o1, mg_4, g4, ea, cvk_1 o1 by1, e5, e6, nI_1])
    (fun z hI f => by
      have ea := nI_add s (le9 T n s - s)
      rw [show s + (le9 T n s - s) = le9 T n s by omega] at ea
      have by1 := byteAt_sp hg (i := le9 T n s) o1 h2 T1 hn (by omega)
      have e5 : (if le9 T n s < n then nI (T (le9 T n s)) else -1) < 97 ∨ (¬ (if le9 T n s < n then nI (T (le9 T n s)) else -1) < 97 ∧ 122 < (if le9 T n s < n then nI (T (le9 T n s)) else -1)) := by
        split
        · next y =>
          have q1 : ¬ isL (T (le9 T n s)) = true := ru_q k2 y
          simp only [isL, decide_eq_true_eq] at q1
          have lt := hT.2 (le9 T n s) (by omega)
          by_cases u : T (le9 T n s) < 97
          · exact Or.inl (nI_lt (b := 97) u (by decide))
          · exact Or.inr ⟨nI_nlt (b := 97) (by omega) (by omega), nI_lt (a := 122) (by omega) (by omega)⟩
        · exact Or.inl (by decide)
      subst hI
      generalize (if le9 T n s < n then nI (T (le9 T n s)) else -1) = Y at *
      generalize nI (le9 T n s - s) = KK at *
      generalize le9 T n s = A at *
      rcases e5 with e5 | ⟨e5, e6⟩
      · simp [jX11_lettersHere, bX11_lettersHere_0, bX11_lettersHere_1, bX11_lettersHere_2, i_aload, i_getf, i_iadd, i_icgt, i_iclt, i_iinc, i_iload, i_ireturn, i_istore, i_jmp, i_push, msk, lset1, lset2, clr, Value.category, Option.toList, List.cons_append, List.nil_append, List.length_cons, List.length_nil, gf_eq o1, mg_4, g4, ea, cvk_1 o1 by1, e5]
      · simp [jX11_lettersHere, bX11_lettersHere_0, bX11_lettersHere_1, bX11_lettersHere_2, i_aload, i_getf, i_iadd, i_icgt, i_iclt, i_iinc, i_iload, i_ireturn, i_istore, i_jmp, i_push, msk, lset1, lset2, clr, Value.category, Option.toList, List.cons_append, List.nil_append, List.length_cons, List.length_nil, gf_eq o1, mg_4, g4, ea, cvk_1 o1 by1, e5, e6])
  have L1 := L (le9 T n s - s) 0 [some (.ref M), some (.int (nI 0))] (by omega) rfl N (by omega)
  refine ⟨w1, ?_, o1, F1⟩
  rw [← L1, nI_0]
  clear L1 L
  simp [fX11_lettersHere, kX11_lettersHere, ent, entp, jX11_lettersHere, bX11_lettersHere_0, bX11_lettersHere_1, bX11_lettersHere_2, i_aload, i_getf, i_iadd, i_icgt, i_iclt, i_iinc, i_iload, i_ireturn, i_istore, i_jmp, i_push, msk, lset1, lset2, clr, Value.category, Option.toList, List.cons_append, List.nil_append, List.length_cons, List.length_nil, hN, cvk_0 hO r1]
