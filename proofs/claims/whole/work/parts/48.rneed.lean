/-! ===== refusals of the reference ===== -/
section
variable {g : GE} {w : Mem} {M fed kept : Nat} {fp : Int32} {tp : Nat → Int32} {rf : Nat → Nat} {δ : DE} {τ : TE} {im : Nat → TE} {x : Nat → Int32}
def bI (b : Bool) : Int32 := if b = true then 1 else 0
theorem in_sp (hg : FU g) (v : Int32) {n : Nat} {y : Int32} (hy : nI n - 1 = y) (hn : n < 2 ^ 31) : fX11_in g [.int v, .int 0, .int y] w = some (.inl (some (.int (bI (rng v n).isSome))), w) := by
  obtain ⟨N, hN⟩ : ∃ N, g.1 = N + 3 := ⟨g.1 - 3, by omega⟩
  subst hy
  cases h : rng v n with
  | some j =>
    obtain ⟨hj, e⟩ := rng_some hn h
    subst e
    have e1 : ¬ nI j < 0 := nI_pos (by omega)
    have e2 : ¬ nI n - 1 < nI j := by
      obtain ⟨z, rfl⟩ : ∃ z, n = z + 1 := ⟨n - 1, by omega⟩
      rw [nI_pred]
      exact nI_nlt (by omega) (by omega)
    simp [fX11_in, kX11_in, ent, entp, jX11_in, bX11_in_0, bX11_in_1, bX11_in_2, i_icgt, i_iclt, i_iload, i_jmp, i_push, i_zreturn, msk, lset1, lset2, clr, Value.category, Option.toList, List.cons_append, List.nil_append, List.length_cons, List.length_nil, hN, e1, e2, bI]
  | none =>
    by_cases e1 : v < 0
    · simp [fX11_in, kX11_in, ent, entp, jX11_in, bX11_in_0, bX11_in_1, bX11_in_2, i_icgt, i_iclt, i_iload, i_jmp, i_push, i_zreturn, msk, lset1, lset2, clr, Value.category, Option.toList, List.cons_append, List.nil_append, List.length_cons, List.length_nil, hN, e1, bI]
    · have e2 : nI n - 1 < v := by
        cases n with
        | zero =>
          have : (0 : Int32) ≤ v := Int32.not_lt.mp e1
          exact Int32.lt_of_lt_of_le (by decide) this
        | succ z =>
          rw [nI_pred]
          rcases rng_none hn h with q | q
          · exact absurd q e1
          · exact Int32.lt_of_lt_of_le (nI_lt (by omega) (by omega)) q
      simp [fX11_in, kX11_in, ent, entp, jX11_in, bX11_in_0, bX11_in_1, bX11_in_2, i_icgt, i_iclt, i_iload, i_jmp, i_push, i_zreturn, msk, lset1, lset2, clr, Value.category, Option.toList, List.cons_append, List.nil_append, List.length_cons, List.length_nil, hN, e1, e2, bI]
theorem isThing_sp (hg : FU g) (hO : MO w M x) (hD : RD w M δ) (hs : δ.1 1 ≤ 5) (v : Int32) : fX11_isThing g [.ref M, .int v] w = some (.inl (some (.int (bI (rng v (δ.1 1)).isSome))), w) := by
  have e := in_sp (w := w) hg v (n := δ.1 1) rfl (by omega)
  have b : ∀ b, bI b = 0 ∨ bI b = 1 := by decide
  simp [fX11_isThing, kX11_isThing, ent, entp, bX11_isThing_0, i_aload, i_getf, i_iaload, i_iload, i_isub, i_push, i_zreturn, msk, lset1, lset2, clr, Value.category, Option.toList, List.cons_append, List.nil_append, List.length_cons, List.length_nil, gf_eq hO, mg_11, hD.1.rc 1 1 rfl (by decide) (by decide), csk_3 e, b]
theorem isHeir_sp (hg : FU g) (hO : MO w M x) (hD : RD w M δ) (hs : δ.1 0 ≤ 4) (v : Int32) : fX11_isHeir g [.ref M, .int v] w = some (.inl (some (.int (bI (rng v (δ.1 0)).isSome))), w) := by
  have e := in_sp (w := w) hg v (n := δ.1 0) rfl (by omega)
  have b : ∀ b, bI b = 0 ∨ bI b = 1 := by decide
  simp [fX11_isHeir, kX11_isHeir, ent, entp, bX11_isHeir_0, i_aload, i_getf, i_iaload, i_iload, i_isub, i_push, i_zreturn, msk, lset1, lset2, clr, Value.category, Option.toList, List.cons_append, List.nil_append, List.length_cons, List.length_nil, gf_eq hO, mg_11, hD.1.rc 0 0 rfl (by decide) (by decide), csk_3 e, b]
theorem isBlot_sp (hg : FU g) (hO : MO w M x) (hD : RD w M δ) (hs : δ.1 3 ≤ 8) (v : Int32) : fX11_isBlot g [.ref M, .int v] w = some (.inl (some (.int (bI (rng v (δ.1 3)).isSome))), w) := by
  have e := in_sp (w := w) hg v (n := δ.1 3) rfl (by omega)
  have b : ∀ b, bI b = 0 ∨ bI b = 1 := by decide
  simp [fX11_isBlot, kX11_isBlot, ent, entp, bX11_isBlot_0, i_aload, i_getf, i_iaload, i_iload, i_isub, i_push, i_zreturn, msk, lset1, lset2, clr, Value.category, Option.toList, List.cons_append, List.nil_append, List.length_cons, List.length_nil, gf_eq hO, mg_11, hD.1.rc 3 3 rfl (by decide) (by decide), csk_3 e, b]
theorem isReading_sp (hg : FU g) (hO : MO w M x) (hx : x 27 = nI (nR δ)) (hs : nR δ ≤ 20000) (v : Int32) : fX11_isReading g [.ref M, .int v] w = some (.inl (some (.int (bI (rng v (nR δ)).isSome))), w) := by
  have e := in_sp (w := w) hg v (n := nR δ) rfl (by omega)
  have b : ∀ b, bI b = 0 ∨ bI b = 1 := by decide
  simp [fX11_isReading, kX11_isReading, ent, entp, bX11_isReading_0, i_aload, i_getf, i_iload, i_isub, i_push, i_zreturn, msk, lset1, lset2, clr, Value.category, Option.toList, List.cons_append, List.nil_append, List.length_cons, List.length_nil, gf_eq hO, mg_27, hx, csk_3 e, b]
theorem bad0_sp (hg : FU g) (hO : MO w M x) (hx : x 0 = 0) (c r : Int32) : fX11_bad g [.ref M, .int 0, .int c, .int r] w = some (.inl (some (.int 0)), w) := by
  obtain ⟨N, hN⟩ : ∃ N, g.1 = N + 3 := ⟨g.1 - 3, by omega⟩
  simp [fX11_bad, kX11_bad, ent, entp, jX11_bad, bX11_bad_0, bX11_bad_1, bX11_bad_2, i_aload, i_dup2, i_getf, i_iadd, i_iaload, i_iastore, i_ifeq, i_ifne, i_iload, i_jmp, i_push, i_putf, i_zreturn, msk, lset1, lset2, clr, Value.category, Option.toList, List.cons_append, List.nil_append, List.length_cons, List.length_nil, hN, gf_eq hO, mg_0, hx]
theorem bad2_sp (hg : FU g) (hO : MO w M x) (hx : ¬ x 0 = 0) (is c r : Int32) : fX11_bad g [.ref M, .int is, .int c, .int r] w = some (.inl (some (.int 1)), w) := by
  obtain ⟨N, hN⟩ : ∃ N, g.1 = N + 3 := ⟨g.1 - 3, by omega⟩
  by_cases z : is = 0
  · simp [fX11_bad, kX11_bad, ent, entp, jX11_bad, bX11_bad_0, bX11_bad_1, bX11_bad_2, i_aload, i_dup2, i_getf, i_iadd, i_iaload, i_iastore, i_ifeq, i_ifne, i_iload, i_jmp, i_push, i_putf, i_zreturn, msk, lset1, lset2, clr, Value.category, Option.toList, List.cons_append, List.nil_append, List.length_cons, List.length_nil, hN, gf_eq hO, mg_0, hx, z]
  · simp [fX11_bad, kX11_bad, ent, entp, jX11_bad, bX11_bad_0, bX11_bad_1, bX11_bad_2, i_aload, i_dup2, i_getf, i_iadd, i_iaload, i_iastore, i_ifeq, i_ifne, i_iload, i_jmp, i_push, i_putf, i_zreturn, msk, lset1, lset2, clr, Value.category, Option.toList, List.cons_append, List.nil_append, List.length_cons, List.length_nil, hN, gf_eq hO, mg_0, hx, z]
theorem RI.obj (h : RI w M fed kept fp tp rf δ τ im x) {x' : Nat → Int32} (hx : XO x' fed kept fp δ τ) : RI (mset w M (.inr (10, mo M x'))) M fed kept fp tp rf δ τ im x' := by
  obtain ⟨h1, h2, h3, h4, h5⟩ := h
  have F : Fr (fun a => a = M) w (mset w M (.inr (10, mo M x'))) := Fr.ms w _ rfl
  exact ⟨ms_at _ _ _, hx, h3.fr F (fun i h1 h2 _ => by omega), h4.fr F (fun i h1 h2 => by omega), h5.fr F (by omega)⟩
theorem XO.up (h : XO x fed kept fp δ τ) {k : Nat} {v : Int32} (hk : k ≠ 1 ∧ k ≠ 3 ∧ k ≠ 27 ∧ k ≠ 32 ∧ k ≠ 33 ∧ k ≠ 34) : XO (va_up x k v) fed kept fp δ τ := by
  obtain ⟨h1, h2, h3, h4, h5, h6⟩ := h
  obtain ⟨k1, k2, k3, k4, k5, k6⟩ := hk
  exact ⟨by rw [va_up_ne _ _ (Ne.symm k1)]; exact h1, by rw [va_up_ne _ _ (Ne.symm k2)]; exact h2, by rw [va_up_ne _ _ (Ne.symm k3)]; exact h3, by rw [va_up_ne _ _ (Ne.symm k4)]; exact h4, by rw [va_up_ne _ _ (Ne.symm k5)]; exact h5, by rw [va_up_ne _ _ (Ne.symm k6)]; exact h6⟩
theorem bad1_sp (hg : FU g) (h : RI w M fed kept fp tp rf δ τ im x) (hx : x 0 = 0) {c r : Nat} {C R : Int32} (hC : nI c = C) (hR : nI r = R) (hc : 0 < c ∧ c < 9) (hr : r < 3) :
    ∃ w', fX11_bad g [.ref M, .int 1, .int C, .int R] w = some (.inl (some (.int 1)), w') ∧ RI w' M fed kept fp tp (va_up rf r (rf r + 1)) δ τ im (va_up x 0 (nI c)) ∧ Fr (fun a => a = M ∨ a = M + 2) w w' := by
  obtain ⟨N, hN⟩ : ∃ N, g.1 = N + 3 := ⟨g.1 - 3, by omega⟩
  subst hC
  subst hR
  have h' := h.obj (x' := va_up x 0 (nI c)) (h.2.1.up (by decide))
  obtain ⟨w1, hw1⟩ : ∃ z, mset w M (.inr (10, mo M (va_up x 0 (nI c)))) = z := ⟨_, rfl⟩
  rw [hw1] at h'
  obtain ⟨k1, k2, k3, k4, k5⟩ := id h'
  have k6 := k5.up r (nI (rf r + 1))
  obtain ⟨w2, hw2⟩ : ∃ z, wi w1 0 (M + 2) r (nI (rf r + 1)) = z := ⟨_, rfl⟩
  have F2 : Fr (fun a => a = M + 2) w1 w2 := hw2 ▸ Fr.wi _ _ _ _ rfl
  rw [hw2] at k6
  have k7 : MO w2 M (va_up x 0 (nI c)) := F2.at k1 (by omega)
  have n0 : ¬ nI c = 0 := nI_ne0 hc.1 (by omega)
  refine ⟨w2, ?_, ⟨k7, k2, k3.fr F2 (fun i h1 h2 h3 => by omega), k4.fr F2 (fun i h1 h2 => by omega), k6.cg fun i hi => ?_⟩, (hw1 ▸ Fr.ms w _ (Or.inl rfl)).tr (F2.mn fun a h => Or.inr h)⟩
  · simp [fX11_bad, kX11_bad, ent, entp, jX11_bad, bX11_bad_0, bX11_bad_1, bX11_bad_2, i_aload, i_dup2, i_getf, i_iadd, i_iaload, i_iastore, i_ifeq, i_ifne, i_iload, i_jmp, i_push, i_putf, i_zreturn, msk, lset1, lset2, clr, Value.category, Option.toList, List.cons_append, List.nil_append, List.length_cons, List.length_nil, hN, gf_eq h.1, mg_0, hx, st_0 h.1, hw1, gf_eq k1, mg_9, k5.rd hr (by decide), nI_1, k5.wr hr (by decide), hw2, gf_eq k7, va_up_self, n0]
  · unfold va_up
    split <;> rfl
end
