/-! ===== the reference reads: a number ===== -/
theorem nr_st {v t : Nat} (h1 : 48 ≤ t) (h2 : t ≤ 57) (hv : v ≤ 100000) : 10 * nI v + nI t - 48 = nI (v * 10 + (t - 48)) := by
  have e1 : 10 * nI v = nI (10 * v) := nI_mul 10 v
  rw [e1, nI_add, show v * 10 + (t - 48) = 10 * v + t - 48 by omega]
  exact nI_sub (s := 48) (by omega)
def xF (x : Nat → Int32) (k p : Nat) : Nat → Int32 := va_up (va_up x 5 (nI k)) 6 (nI p)
/-- the reference's object behind a value -/
def xV (x : Nat → Int32) (a : Nat) (r : PV) : Nat → Int32 := match r with
  | .inl e => xF (va_up x 4 (nI a)) e.1 e.2
  | .inr y => va_up x 4 (nI y.2)
theorem number_sp {g : GE} (hg : FU g) {w : Mem} {M n a mx : Nat} {x : Nat → Int32} {T : Nat → Nat} (hO : MO w M x) (h2 : x 2 = nI n) (h4 : x 4 = nI a) (h5 : x 5 = 0) (hT : TXT w (M + 1) T) (ha : a ≤ n) (hn : n ≤ 600) (hm : mx ≤ 999) :
    ∃ w', fX11_number g [.ref M, .int 0, .int (nI mx)] w = some (.inl (some (.int (match numP T n mx a with | .inl _ => 0 | .inr y => nI y.1))), w') ∧ MO w' M (xV x (ru isD T n (sb T n a)) (numP T n mx a)) ∧ Fr (fun q => q = M) w w' := by
  obtain ⟨N, hN⟩ : ∃ N, g.1 = N + 1 := ⟨g.1 - 1, by omega⟩
  obtain ⟨w1, r1, o1, F1⟩ := blanks_sp hg hO h2 h4 hT ha hn
  have k2 : sb T n a ≤ n := ru_n ha
  have T1 := hT.fr F1 (by omega)
  unfold numP
  generalize sb T n a = s at *
  have k3 : s ≤ ru isD T n s := ru_le k2
  have k4 : ru isD T n s ≤ n := ru_n k2
  have g4 : va_up x 4 (nI s) 4 = nI s := va_up_self _ _ _
  have g5 : va_up x 4 (nI s) 5 = 0 := h5
  have by0 := byteAt_sp hg (i := s) o1 h2 T1 hn (by omega)
  have dg0 := isDigit_sp hg (w := w1) (n := n) (i := s) hT.2 hn
  by_cases y : ru isD T n s = s
  · have nd : ¬ (s < n ∧ isD (T s) = true) := fun q => by
      have := ru_q (p := isD) (T := T) k2 (by omega)
      rw [y] at this
      exact this q.2
    rw [if_neg nd] at dg0
    rw [if_pos y, y]
    obtain ⟨w2, p1, p2, p3⟩ := wrong_sp hg o1 g5 1 (nI s)
    have by2 := byteAt_sp hg (i := s) p2 h2 (T1.fr p3 (by omega)) hn (by omega)
    have dg2 := isDigit_sp hg (w := w2) (n := n) (i := s) hT.2 hn
    rw [if_neg nd] at dg2
    have in2 := inR_sp hg (w := w2) (v := 0) (mx := mx) (by decide) (by omega)
    rw [if_pos (Nat.zero_le _), nI_0] at in2
    have j4 : va_up (va_up (va_up x 4 (nI s)) 5 1) 6 (nI s) 4 = nI s := g4
    have j5 : va_up (va_up (va_up x 4 (nI s)) 5 1) 6 (nI s) 5 = 1 := rfl
    obtain ⟨N2, hN2⟩ : ∃ N, g.1 = N + 4 := ⟨g.1 - 4, by omega⟩
    refine ⟨w2, ?_, p2, F1.tr p3⟩
    show _ = some (Sum.inl (some (Value.int 0)), w2)
    generalize (if s < n then nI (T s) else -1) = Y at *
    simp [fX11_number, kX11_number, ent, entp, jX11_number, bX11_number_0, bX11_number_1, bX11_number_2, bX11_number_3, bX11_number_4, i_aload, i_dup, i_getf, i_iadd, i_icle, i_ifeq, i_ifne, i_iload, i_imul, i_ireturn, i_istore, i_isub, i_jmp, i_push, i_putf, msk, lset1, lset2, clr, Value.category, Option.toList, List.cons_append, List.nil_append, List.length_cons, List.length_nil, hN2, gf_eq hO, mg_5, mg_4, h5, cvk_0 hO r1, gf_eq o1, g4, cvk_1 o1 by0, csk_1 dg0, cvk_2 o1 p1, gf_eq p2, j4, cvk_1 p2 by2, csk_1 dg2, csk_3 in2, j5]
  · rw [if_neg y]
    have dy : s < n ∧ isD (T s) = true := ⟨by omega, ru_p k2 (Nat.le_refl _) (by omega)⟩
    rw [if_pos dy] at dg0
    have L := lpR (fun f (z : Lv × Mem) => jX11_number g f 1 [] z.1 z.2) (fun i z => z.1 = [some (.ref M), some (.int 0), some (.int (nI mx)), some (.int (nI s)), some (.int (nI (nmR T s i)))] ∧ MO z.2 M (va_up x 4 (nI (s + i))) ∧ Fr (fun q => q = M) w z.2)
      (fun z => ∃ w', z = some (.inl (some (.int (match (if mx < nmF T s (ru isD T n s - s) then .inl (2, s) else .inr (nmF T s (ru isD T n s - s), ru isD T n s) : PV) with | .inl _ => 0 | .inr y => nI y.1))), w') ∧ MO w' M (xV x (ru isD T n s) (if mx < nmF T s (ru isD T n s - s) then .inl (2, s) else .inr (nmF T s (ru isD T n s - s), ru isD T n s))) ∧ Fr (fun q => q = M) w w') 2 3 (ru isD T n s - s)
      (fun i z hi hI f => by
        obtain ⟨e1, e2, e3⟩ := hI
        have q0 : isD (T (s + i)) = true := ru_p k2 (Nat.le_add_right _ _) (show s + i < ru isD T n s by omega)
        have q1 := q0
        simp only [isD, decide_eq_true_eq] at q1
        have by1 := byteAt_sp hg (i := s + i) e2 h2 (hT.fr e3 (by omega)) hn (by omega)
        have dg1 := isDigit_sp hg (w := z.2) (n := n) (i := s + i) hT.2 hn
        rw [if_pos (show s + i < n ∧ isD (T (s + i)) = true from ⟨by omega, q0⟩)] at dg1
        rw [if_pos (by omega)] at by1 dg1
        have j4 : va_up x 4 (nI (s + i)) 4 = nI (s + i) := va_up_self _ _ _
        have hv := nmR_le T s i
        have e6 := nr_st q1.1 q1.2 hv
        have st := st_4 e2 (nI (s + (i + 1)))
        rw [va_up_up] at st
        have ei : nI (s + i) + 1 = nI (s + (i + 1)) := nI_1 (s + i)
        refine Or.inr ⟨f, ([some (.ref M), some (.int 0), some (.int (nI mx)), some (.int (nI s)), some (.int (nI (nmR T s (i + 1))))], mset z.2 M (.inr (10, mo M (va_up x 4 (nI (s + (i + 1))))))), Nat.le_refl _, ⟨rfl, ms_at _ _ _, e3.tr (Fr.ms _ _ rfl)⟩, ?_⟩
        have e7 : nmR T s (i + 1) = min (nmR T s i * 10 + (T (s + i) - 48)) 100000 := rfl
        by_cases u : nmR T s i * 10 + (T (s + i) - 48) ≤ 100000
        · have e8 : nI (nmR T s i * 10 + (T (s + i) - 48)) ≤ 100000 := nI_le (b := 100000) u (by decide)
          rw [show min (nmR T s i * 10 + (T (s + i) - 48)) 100000 = nmR T s i * 10 + (T (s + i) - 48) by omega] at e7
          rw [e7]
          generalize nmR T s i * 10 + (T (s + i) - 48) = V at *
          generalize nmR T s i = V0 at *
          generalize T (s + i) = X at *
          simp [jX11_number, bX11_number_0, bX11_number_1, bX11_number_2, bX11_number_3, bX11_number_4, i_aload, i_dup, i_getf, i_iadd, i_icle, i_ifeq, i_ifne, i_iload, i_imul, i_ireturn, i_istore, i_isub, i_jmp, i_push, i_putf, msk, lset1, lset2, clr, Value.category, Option.toList, List.cons_append, List.nil_append, List.length_cons, List.length_nil, e1, gf_eq e2, mg_4, j4, cvk_1 e2 by1, csk_1 dg1, e6, e8, ei, st]
        · have e8 : ¬ nI (nmR T s i * 10 + (T (s + i) - 48)) ≤ 100000 := nI_ge (a := 100000) (by omega) (by omega)
          rw [show min (nmR T s i * 10 + (T (s + i) - 48)) 100000 = 100000 by omega] at e7
          rw [e7]
          have e9 : nI 100000 = 100000 := rfl
          generalize nmR T s i * 10 + (T (s + i) - 48) = V at *
          generalize nmR T s i = V0 at *
          generalize T (s + i) = X at *
          simp [jX11_number, bX11_number_0, bX11_number_1, bX11_number_2, bX11_number_3, bX11_number_4, i_aload, i_dup, i_getf, i_iadd, i_icle, i_ifeq, i_ifne, i_iload, i_imul, i_ireturn, i_istore, i_isub, i_jmp, i_push, i_putf, msk, lset1, lset2, clr, Value.category, Option.toList, List.cons_append, List.nil_append, List.length_cons, List.length_nil, e1, gf_eq e2, mg_4, j4, cvk_1 e2 by1, csk_1 dg1, e6, e8, e9, ei, st])
      (fun z hI f => by
        obtain ⟨e1, e2, e3⟩ := hI
        rw [show s + (ru isD T n s - s) = ru isD T n s by omega] at e2
        have nd : ¬ (ru isD T n s < n ∧ isD (T (ru isD T n s)) = true) := fun q => ru_q k2 q.1 q.2
        have by1 := byteAt_sp hg (i := ru isD T n s) e2 h2 (hT.fr e3 (by omega)) hn (by omega)
        have dg1 := isDigit_sp hg (w := z.2) (n := n) (i := ru isD T n s) hT.2 hn
        rw [if_neg nd] at dg1
        have j4 : va_up x 4 (nI (ru isD T n s)) 4 = nI (ru isD T n s) := va_up_self _ _ _
        have j5 : va_up x 4 (nI (ru isD T n s)) 5 = 0 := h5
        have hv := nmR_le T s (ru isD T n s - s)
        have ef := nmR_F T s (ru isD T n s - s)
        have in2 := inR_sp hg (w := z.2) (v := nmR T s (ru isD T n s - s)) (mx := mx) (by omega) (by omega)
        by_cases u : nmR T s (ru isD T n s - s) ≤ mx
        · rw [if_pos u] at in2
          have eq9 : nmF T s (ru isD T n s - s) = nmR T s (ru isD T n s - s) := by omega
          rw [eq9, if_neg (by omega)]
          refine ⟨z.2, ?_, e2, e3⟩
          show jX11_number g (f + 3) 1 [] z.1 z.2 = some (Sum.inl (some (Value.int (nI (nmR T s (ru isD T n s - s))))), z.2)
          clear eq9 ef hv
          generalize nmR T s (ru isD T n s - s) = V at *
          generalize (if ru isD T n s < n then nI (T (ru isD T n s)) else -1) = Y at *
          generalize ru isD T n s = A at *
          simp [jX11_number, bX11_number_0, bX11_number_1, bX11_number_2, bX11_number_3, bX11_number_4, i_aload, i_dup, i_getf, i_iadd, i_icle, i_ifeq, i_ifne, i_iload, i_imul, i_ireturn, i_istore, i_isub, i_jmp, i_push, i_putf, msk, lset1, lset2, clr, Value.category, Option.toList, List.cons_append, List.nil_append, List.length_cons, List.length_nil, e1, gf_eq e2, mg_4, mg_5, j4, j5, cvk_1 e2 by1, csk_1 dg1, csk_3 in2]
        · rw [if_neg u] at in2
          rw [if_pos (by omega)]
          obtain ⟨w2, p1, p2, p3⟩ := wrong_sp hg e2 j5 2 (nI s)
          have j6 : va_up (va_up (va_up x 4 (nI (ru isD T n s))) 5 2) 6 (nI s) 5 = 2 := rfl
          refine ⟨w2, ?_, p2, e3.tr p3⟩
          show jX11_number g (f + 3) 1 [] z.1 z.2 = some (Sum.inl (some (Value.int 0)), w2)
          clear ef hv
          generalize nmR T s (ru isD T n s - s) = V at *
          generalize (if ru isD T n s < n then nI (T (ru isD T n s)) else -1) = Y at *
          generalize ru isD T n s = A at *
          simp [jX11_number, bX11_number_0, bX11_number_1, bX11_number_2, bX11_number_3, bX11_number_4, i_aload, i_dup, i_getf, i_iadd, i_icle, i_ifeq, i_ifne, i_iload, i_imul, i_ireturn, i_istore, i_isub, i_jmp, i_push, i_putf, msk, lset1, lset2, clr, Value.category, Option.toList, List.cons_append, List.nil_append, List.length_cons, List.length_nil, e1, gf_eq e2, mg_4, mg_5, j4, j5, cvk_1 e2 by1, csk_1 dg1, csk_3 in2, cvk_2 e2 p1, gf_eq p2, j6])
    have L1 := L (ru isD T n s - s) 0 ([some (.ref M), some (.int 0), some (.int (nI mx)), some (.int (nI s)), some (.int (nI (nmR T s 0)))], w1) (by omega) ⟨rfl, o1, F1⟩ N (by omega)
    have e0 : fX11_number g [.ref M, .int 0, .int (nI mx)] w = jX11_number g N 1 [] [some (.ref M), some (.int 0), some (.int (nI mx)), some (.int (nI s)), some (.int (nI (nmR T s 0)))] w1 := by
      clear L1 L
      rw [show nI (nmR T s 0) = 0 from rfl]
      generalize (if s < n then nI (T s) else -1) = Y at *
      simp [fX11_number, kX11_number, ent, entp, jX11_number, bX11_number_0, bX11_number_1, bX11_number_2, bX11_number_3, bX11_number_4, i_aload, i_dup, i_getf, i_iadd, i_icle, i_ifeq, i_ifne, i_iload, i_imul, i_ireturn, i_istore, i_isub, i_jmp, i_push, i_putf, msk, lset1, lset2, clr, Value.category, Option.toList, List.cons_append, List.nil_append, List.length_cons, List.length_nil, hN, gf_eq hO, mg_5, mg_4, h5, cvk_0 hO r1, gf_eq o1, g4, cvk_1 o1 by0, csk_1 dg0]
    rw [e0]
    exact L1
