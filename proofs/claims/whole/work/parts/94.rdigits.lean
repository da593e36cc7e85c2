/-! ===== the reference reads: digits ===== -/
theorem isDigit_sp {g : GE} (hg : FU g) {w : Mem} {n i : Nat} {T : Nat → Nat} (hT : ∀ i, i < 600 → T i < 256) (hn : n ≤ 600) :
    fX11_isDigit g [.int (if i < n then nI (T i) else -1)] w = some (.inl (some (.int (if i < n ∧ isD (T i) = true then 1 else 0))), w) := by
  obtain ⟨N, hN⟩ : ∃ N, g.1 = N + 3 := ⟨g.1 - 3, by omega⟩
  by_cases y : i < n
  · rw [if_pos y]
    have lt := hT i (by omega)
    by_cases z1 : T i < 48
    · have e1 : nI (T i) < 48 := nI_lt (b := 48) z1 (by decide)
      rw [if_neg (by simp [isD]; omega)]
      simp [fX11_isDigit, kX11_isDigit, ent, entp, jX11_isDigit, bX11_isDigit_0, bX11_isDigit_1, bX11_isDigit_2, i_icgt, i_iclt, i_iload, i_jmp, i_push, i_zreturn, msk, lset1, lset2, clr, Value.category, Option.toList, List.cons_append, List.nil_append, List.length_cons, List.length_nil, hN, e1]
    · have e1 : ¬ nI (T i) < 48 := nI_nlt (b := 48) (by omega) (by omega)
      by_cases z2 : 57 < T i
      · have e2 : 57 < nI (T i) := nI_lt (a := 57) z2 (by omega)
        rw [if_neg (by simp [isD]; omega)]
        simp [fX11_isDigit, kX11_isDigit, ent, entp, jX11_isDigit, bX11_isDigit_0, bX11_isDigit_1, bX11_isDigit_2, i_icgt, i_iclt, i_iload, i_jmp, i_push, i_zreturn, msk, lset1, lset2, clr, Value.category, Option.toList, List.cons_append, List.nil_append, List.length_cons, List.length_nil, hN, e1, e2]
      · have e2 : ¬ 57 < nI (T i) := nI_nlt (a := 57) (by omega) (by decide)
        rw [if_pos ⟨y, by simp [isD]; omega⟩]
        simp [fX11_isDigit, kX11_isDigit, ent, entp, jX11_isDigit, bX11_isDigit_0, bX11_isDigit_1, bX11_isDigit_2, i_icgt, i_iclt, i_iload, i_jmp, i_push, i_zreturn, msk, lset1, lset2, clr, Value.category, Option.toList, List.cons_append, List.nil_append, List.length_cons, List.length_nil, hN, e1, e2]
  · rw [if_neg y, if_neg (fun q => y q.1)]
    have e1 : (-1 : Int32) < 48 := by decide
    simp [fX11_isDigit, kX11_isDigit, ent, entp, jX11_isDigit, bX11_isDigit_0, bX11_isDigit_1, bX11_isDigit_2, i_icgt, i_iclt, i_iload, i_jmp, i_push, i_zreturn, msk, lset1, lset2, clr, Value.category, Option.toList, List.cons_append, List.nil_append, List.length_cons, List.length_nil, hN, e1]
theorem inR_sp {g : GE} (hg : FU g) {w : Mem} {v mx : Nat} (hv : v < 2 ^ 31) (hm : mx < 2 ^ 31) : fX11_in g [.int (nI v), .int 0, .int (nI mx)] w = some (.inl (some (.int (if v ≤ mx then 1 else 0))), w) := by
  obtain ⟨N, hN⟩ : ∃ N, g.1 = N + 3 := ⟨g.1 - 3, by omega⟩
  have e1 := nI_pos hv
  by_cases y : v ≤ mx
  · rw [if_pos y]
    have e2 := nI_nlt (a := mx) (b := v) y hm
    simp [fX11_in, kX11_in, ent, entp, jX11_in, bX11_in_0, bX11_in_1, bX11_in_2, i_icgt, i_iclt, i_iload, i_jmp, i_push, i_zreturn, msk, lset1, lset2, clr, Value.category, Option.toList, List.cons_append, List.nil_append, List.length_cons, List.length_nil, hN, e1, e2]
  · rw [if_neg y]
    have e2 := nI_lt (a := mx) (b := v) (by omega) hv
    simp [fX11_in, kX11_in, ent, entp, jX11_in, bX11_in_0, bX11_in_1, bX11_in_2, i_icgt, i_iclt, i_iload, i_jmp, i_push, i_zreturn, msk, lset1, lset2, clr, Value.category, Option.toList, List.cons_append, List.nil_append, List.length_cons, List.length_nil, hN, e1, e2]
/-- the reference's number: up to a hundred thousand -/
def nmR (T : Nat → Nat) (s : Nat) : Nat → Nat
  | 0 => 0
  | k + 1 => min (nmR T s k * 10 + (T (s + k) - 48)) 100000
theorem nmR_le (T : Nat → Nat) (s : Nat) : ∀ k, nmR T s k ≤ 100000
  | 0 => by simp [nmR]
  | k + 1 => by unfold nmR; omega
theorem nmR_F (T : Nat → Nat) (s : Nat) : ∀ k, nmF T s k = min (nmR T s k) 1000
  | 0 => rfl
  | k + 1 => by
    have ih := nmR_F T s k
    unfold nmF nmR
    rw [ih]
    omega
