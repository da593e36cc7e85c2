/-! ===== the reference reads: bytes, blanks ===== -/
theorem byteAt_sp {g : GE} (hg : FU g) {w : Mem} {M n i : Nat} {x : Nat → Int32} {T : Nat → Nat} (hO : MO w M x) (h2 : x 2 = nI n) (hT : TXT w (M + 1) T) (hn : n ≤ 600) (hi : i ≤ 700) :
    fX11_byteAt g [.ref M, .int (nI i)] w = some (.inl (some (.int (if i < n then nI (T i) else -1))), w) := by
  obtain ⟨N, hN⟩ : ∃ N, g.1 = N + 2 := ⟨g.1 - 2, by omega⟩
  by_cases y : i < n
  · rw [if_pos y]
    have e1 := nI_lt y (by omega)
    have rd := hT.rd (a := i) (by omega)
    simp [fX11_byteAt, kX11_byteAt, ent, entp, jX11_byteAt, bX11_byteAt_0, bX11_byteAt_1, i_aload, i_getf, i_iaload, i_iclt, i_iload, i_ireturn, i_jmp, i_push, msk, lset1, lset2, clr, Value.category, Option.toList, List.cons_append, List.nil_append, List.length_cons, List.length_nil, hN, gf_eq hO, mg_2, mg_8, h2, e1, rd]
  · rw [if_neg y]
    have e1 := nI_nlt (a := i) (b := n) (by omega) (by omega)
    simp [fX11_byteAt, kX11_byteAt, ent, entp, jX11_byteAt, bX11_byteAt_0, bX11_byteAt_1, i_aload, i_getf, i_iaload, i_iclt, i_iload, i_ireturn, i_jmp, i_push, msk, lset1, lset2, clr, Value.category, Option.toList, List.cons_append, List.nil_append, List.length_cons, List.length_nil, hN, gf_eq hO, mg_2, mg_8, h2, e1]
theorem va_same {α : Type} {x : Nat → α} {k : Nat} {v : α} (h : x k = v) : va_up x k v = x := by
  funext j
  unfold va_up
  split
  · next z => rw [z, h]
  · rfl
theorem wrong_sp {g : GE} (hg : FU g) {w : Mem} {M : Nat} {x : Nat → Int32} (hO : MO w M x) (h5 : x 5 = 0) (k p : Int32) :
    ∃ w', fX11_wrong g [.ref M, .int k, .int p] w = some (.inl none, w') ∧ MO w' M (va_up (va_up x 5 k) 6 p) ∧ Fr (fun q => q = M) w w' := by
  obtain ⟨N, hN⟩ : ∃ N, g.1 = N + 2 := ⟨g.1 - 2, by omega⟩
  obtain ⟨w1, hw1⟩ : ∃ z, mset w M (.inr (10, mo M (va_up x 5 k))) = z := ⟨_, rfl⟩
  have o1 : MO w1 M (va_up x 5 k) := hw1 ▸ ms_at _ _ _
  have F1 : Fr (fun q => q = M) w w1 := hw1 ▸ Fr.ms _ _ rfl
  obtain ⟨w2, hw2⟩ : ∃ z, mset w1 M (.inr (10, mo M (va_up (va_up x 5 k) 6 p))) = z := ⟨_, rfl⟩
  have o2 : MO w2 M (va_up (va_up x 5 k) 6 p) := hw2 ▸ ms_at _ _ _
  have F2 : Fr (fun q => q = M) w1 w2 := hw2 ▸ Fr.ms _ _ rfl
  refine ⟨w2, ?_, o2, F1.tr F2⟩
  simp [fX11_wrong, kX11_wrong, ent, entp, jX11_wrong, bX11_wrong_0, bX11_wrong_1, i_aload, i_getf, i_ifne, i_iload, i_jmp, i_putf, i_return, msk, lset1, lset2, clr, Value.category, Option.toList, List.cons_append, List.nil_append, List.length_cons, List.length_nil, hN, gf_eq hO, mg_5, h5, st_5 hO, hw1, st_6 o1, hw2]
theorem wrong_no {g : GE} (hg : FU g) {w : Mem} {M : Nat} {x : Nat → Int32} (hO : MO w M x) (h5 : x 5 ≠ 0) (k p : Int32) : fX11_wrong g [.ref M, .int k, .int p] w = some (.inl none, w) := by
  obtain ⟨N, hN⟩ : ∃ N, g.1 = N + 2 := ⟨g.1 - 2, by omega⟩
  simp [fX11_wrong, kX11_wrong, ent, entp, jX11_wrong, bX11_wrong_0, bX11_wrong_1, i_aload, i_getf, i_ifne, i_iload, i_jmp, i_putf, i_return, msk, lset1, lset2, clr, Value.category, Option.toList, List.cons_append, List.nil_append, List.length_cons, List.length_nil, hN, gf_eq hO, mg_5, h5]
theorem blanks_sp {g : GE} (hg : FU g) {w : Mem} {M n a : Nat} {x : Nat → Int32} {T : Nat → Nat} (hO : MO w M x) (h2 : x 2 = nI n) (h4 : x 4 = nI a) (hT : TXT w (M + 1) T) (ha : a ≤ n) (hn : n ≤ 600) :
    ∃ w', fX11_blanks g [.ref M] w = some (.inl none, w') ∧ MO w' M (va_up x 4 (nI (sb T n a))) ∧ Fr (fun q => q = M) w w' := by
  have k1 : a ≤ sb T n a := ru_le ha
  have k2 : sb T n a ≤ n := ru_n ha
  have L := lpR (fun f (z : Lv × Mem) => jX11_blanks g f 0 [] z.1 z.2) (fun i z => z.1 = [some (.ref M)] ∧ MO z.2 M (va_up x 4 (nI (a + i))) ∧ Fr (fun q => q = M) w z.2)
    (fun z => ∃ w', z = some (.inl none, w') ∧ MO w' M (va_up x 4 (nI (sb T n a))) ∧ Fr (fun q => q = M) w w') 1 1 (sb T n a - a)
    (fun i z hi hI f => by
      obtain ⟨e1, e2, e3⟩ := hI
      have q1 : isB (T (a + i)) = true := ru_p ha (Nat.le_add_right _ _) (show a + i < sb T n a by omega)
      simp only [isB, decide_eq_true_eq] at q1
      have by1 := byteAt_sp hg (i := a + i) e2 h2 (hT.fr e3 (by omega)) hn (by omega)
      rw [if_pos (by omega), q1] at by1
      have by2 : fX11_byteAt g [.ref M, .int (nI (a + i))] z.2 = some (.inl (some (.int 32)), z.2) := by1
      have g4 : va_up x 4 (nI (a + i)) 4 = nI (a + i) := va_up_self _ _ _
      refine Or.inr ⟨f, ([some (.ref M)], mset z.2 M (.inr (10, mo M (va_up x 4 (nI (a + (i + 1))))))), Nat.le_refl _, ⟨rfl, ms_at _ _ _, e3.tr (Fr.ms _ _ rfl)⟩, ?_⟩
      have st := st_4 e2 (nI (a + (i + 1)))
      rw [va_up_up] at st
      have ei : nI (a + i) + 1 = nI (a + (i + 1)) := nI_1 (a + i)
      simp [jX11_blanks, bX11_blanks_0, i_aload, i_dup, i_getf, i_iadd, i_icne, i_jmp, i_push, i_putf, i_return, msk, lset1, lset2, clr, Value.category, Option.toList, List.cons_append, List.nil_append, List.length_cons, List.length_nil, e1, gf_eq e2, mg_4, g4, cvk_1 e2 by2, ei, st])
    (fun z hI f => by
      obtain ⟨e1, e2, e3⟩ := hI
      rw [show a + (sb T n a - a) = sb T n a by omega] at e2
      have by1 := byteAt_sp hg (i := sb T n a) e2 h2 (hT.fr e3 (by omega)) hn (by omega)
      have g4 : va_up x 4 (nI (sb T n a)) 4 = nI (sb T n a) := va_up_self _ _ _
      have e5 : ¬ (if sb T n a < n then nI (T (sb T n a)) else -1) = 32 := by
        split
        · next y =>
          have q1 : ¬ isB (T (sb T n a)) = true := ru_q ha y
          simp only [isB, decide_eq_true_eq] at q1
          exact mt (nI_eq (b := 32) (by have := hT.2 (sb T n a) (by omega); omega) (by decide)).mp q1
        · decide
      refine ⟨z.2, ?_, e2, e3⟩
      generalize (if sb T n a < n then nI (T (sb T n a)) else -1) = Y at *
      generalize sb T n a = A at *
      simp [jX11_blanks, bX11_blanks_0, i_aload, i_dup, i_getf, i_iadd, i_icne, i_jmp, i_push, i_putf, i_return, msk, lset1, lset2, clr, Value.category, Option.toList, List.cons_append, List.nil_append, List.length_cons, List.length_nil, e1, gf_eq e2, mg_4, g4, cvk_1 e2 by1, e5])
  obtain ⟨w', q1, q2, q3⟩ := L (sb T n a - a) 0 ([some (.ref M)], w) (by omega) ⟨rfl, by rw [Nat.add_zero, va_same h4]; exact hO, Fr.rf _ _⟩ g.1 (by omega)
  refine ⟨w', ?_, q2, q3⟩
  rw [← q1]
  rfl
