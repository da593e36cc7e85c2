/-! ===== the reference reads: bytes, blanks ===== -/
theorem byteAt_sp {g : GE} (hg : FU g) {w : Mem} {M n i : Nat} {x : Nat → Int32} {T : Nat → Nat} (hO : MO w M x) (h2 : x 2 = nI n) (hT : TXT w (M + 1) T) (hn : n ≤ 600) (hi : i ≤ 700) :
    fX11_byteAt g [.ref M, .int (nI i)] w = some (.inl (some (.int (if i < n then nI (T i) else -1))), w) := by
  obtain ⟨N, hN⟩ : ∃ N, g.1 = N + 2 := ⟨g.1 - 2, by omega⟩
  by_cases y : i < n
  · rw [if_pos y]
    have e1 := nI_lt y (by omega)
    have rd := hT.rd (a := i) (by omega)
    simp [fX11_byteAt, kX11_byteAt, ent, entp, jX11_byteAt, bX11_byteAt_0, bX11_byteAt_1, i_aload, i_getf, i_iaload, i_iclt, i_iload, i_ireturn, i_jmp, i_push, msk, lset1, lset2, clr, Value.category, Option.toList, List.cons_append, List.nil_append, List.length_cons, List.length_nil, hN, gf_eq hO, mg_2, mg_8, h2, e1, rd]
  · rw [if_neg y]
    have e1 := nI_nlt (a := i) (b := n) (by omega) (by omega)
    simp [fX11_byteAt, kX11_byteAt, ent, entp, jX11_byteAt, bX11_byteAt_0, bX11_byteAt_1, i_aload, i_getf, i_iaload, i_iclt, i_iload, i_ireturn, i_jmp, i_push, msk, lset1, lset2, clr, Value.category, Option.toList, List.cons_append, List.nil_append, List.length_cons, List.length_nil, hN, gf_eq hO, mg_2, mg_8, h2, e1]
