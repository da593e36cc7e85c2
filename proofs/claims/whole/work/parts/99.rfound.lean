/-! ===== the reference reads: new names ===== -/
theorem ex_ia {w : Mem} {a n A j : Nat} {x : Int32} (h : ∃ c, IA w a n c) : ∃ c, IA (wi w 0 A j x) a n c := by
  obtain ⟨c, h⟩ := h
  by_cases z : a = A
  · subst z
    exact ⟨_, h.up j x⟩
  · exact ⟨c, h.wi z⟩
theorem wi_la {w : Mem} {a n A j : Nat} {x : Int32} {c : Nat → Int64} (h : LA w a n c) : LA (wi w 0 A j x) a n c := by
  by_cases z : a = A
  · subst z
    obtain ⟨f, h1, h2⟩ := h
    have : wi w 0 a j x = w := by unfold wi; rw [h1]
    rw [this]
    exact ⟨f, h1, h2⟩
  · exact h.fr (Fr.wi (S := fun q => q = A) _ _ _ _ rfl) z
theorem wi_ra {w : Mem} {t a n A j : Nat} {x : Int32} {c : Nat → Nat} (h : RA t w a n c) : RA t (wi w 0 A j x) a n c := by
  by_cases z : a = A
  · subst z
    obtain ⟨f, h1, h2⟩ := h
    have : wi w 0 a j x = w := by unfold wi; rw [h1]
    rw [this]
    exact ⟨f, h1, h2⟩
  · exact h.fr (Fr.wi (S := fun q => q = A) _ _ _ _ rfl) z
theorem ex_grd {w : Mem} {a n m A j : Nat} {x : Int32} (h : ∃ c, GRD w a n m c) : ∃ c, GRD (wi w 0 A j x) a n m c := by
  obtain ⟨c, h⟩ := h
  by_cases z : a < A
  · obtain ⟨i, rfl⟩ : ∃ i, A = a + 1 + i := ⟨A - a - 1, by omega⟩
    exact ⟨_, h.up j x⟩
  · refine ⟨c, wi_ra h.1, fun i hi => (h.2 i hi).wi (by omega)⟩
theorem RP.wi {w : Mem} {M A j : Nat} {x : Int32} (h : RP w M) : RP (wi w 0 A j x) M := by
  obtain ⟨h1, h2, h3, h4, ⟨c5, h5⟩, h6, h7, h8, h9⟩ := h
  exact ⟨ex_ia h1, ex_ia h2, ex_ia h3, ex_ia h4, ⟨c5, wi_la h5⟩, ex_grd h6, ex_grd h7, ex_grd h8, ex_grd h9⟩
theorem RFt.wi {w : Mem} {M n A j : Nat} {x : Nat → Int32} {v : Int32} {e : Nat × Nat} (h : RFt w M x n e) (hA : M ≠ A) : RFt (wi w 0 A j v) M x n e := by
  obtain ⟨x', h1, h2, h3, h4, h5, h6, h7⟩ := h
  exact ⟨x', (Fr.wi (S := fun q => q = A) w 0 j v rfl).at h1 hA, h2, h3, h4, h5, h6.wi, h7⟩
theorem bat_cg {δ δ' : DE} {p : Nat} : ∀ {m}, (∀ j, j < m → δ'.2 12 j = δ.2 12 j) → bat δ' p m = bat δ p m
  | 0, _ => rfl
  | m + 1, h => by
    unfold bat
    rw [h m (by omega), bat_cg fun j hj => h j (by omega)]
theorem G7.cg {w : Mem} {M : Nat} {δ δ' : DE} (h : G7 w M δ) (h5 : δ'.1 5 = δ.1 5) (h3 : δ'.1 3 = δ.1 3) (h6 : ∀ p, p < δ.1 5 → δ'.2 6 p = δ.2 6 p ∧ δ'.2 7 p = δ.2 7 p) (h12 : ∀ b, b < δ.1 3 → δ'.2 12 b = δ.2 12 b) : G7 w M δ' := by
  obtain ⟨c, k1, k2⟩ := h
  refine ⟨c, k1, fun p hp => ?_⟩
  rw [h5] at hp
  rw [h3, bat_cg h12, (h6 p hp).1, (h6 p hp).2]
  exact k2 p hp
/-- the fault behind k comparisons -/
def ftF (m : Nat → Bool) (s : Nat) (φ : Option (Nat × Nat)) : Nat → Option (Nat × Nat)
  | 0 => φ
  | i + 1 => if ftF m s φ i = none ∧ m i = true then some (2, s) else ftF m s φ i
theorem ftF_some {m : Nat → Bool} {s : Nat} {e : Nat × Nat} : ∀ k, ftF m s (some e) k = some e
  | 0 => rfl
  | k + 1 => by
    unfold ftF
    rw [ftF_some k, if_neg (fun h => by cases h.1)]
theorem ftF_no {m : Nat → Bool} {s : Nat} : ∀ k, (∀ i, i < k → m i = false) → ftF m s none k = none
  | 0, _ => rfl
  | k + 1, h => by
    unfold ftF
    rw [ftF_no k fun i hi => h i (by omega), if_neg (fun q => by rw [h k (by omega)] at q; cases q.2)]
theorem ftF_hit {m : Nat → Bool} {s i : Nat} : ∀ k, i < k → m i = true → ftF m s none k = some (2, s)
  | 0, h, _ => by omega
  | k + 1, h, hm => by
    unfold ftF
    by_cases z : ftF m s none k = none
    · by_cases y : i = k
      · subst y
        rw [if_pos ⟨z, hm⟩]
      · rw [ftF_hit k (by omega) hm] at z
        cases z
    · rw [if_neg (fun q => z q.1)]
      by_cases y : ∃ j, j < k ∧ m j = true
      · obtain ⟨j, h1, h2⟩ := y
        exact ftF_hit k h1 h2
      · exact absurd (ftF_no k fun j hj => by
          cases hq : m j with
          | false => rfl
          | true => exact absurd ⟨j, hj, hq⟩ y) z
def xo (x : Nat → Int32) (φ : Option (Nat × Nat)) : Nat → Int32 := match φ with
  | none => x
  | some e => xF x e.1 e.2
theorem xo_4 (x : Nat → Int32) (φ : Option (Nat × Nat)) : xo x φ 4 = x 4 := by
  cases φ <;> rfl
def fo (φ : Option (Nat × Nat)) : Prop := ∀ e, φ = some e → 1 ≤ e.1 ∧ e.1 ≤ 4
theorem xo_5 {x : Nat → Int32} {e : Nat × Nat} (h : 1 ≤ e.1 ∧ e.1 ≤ 4) : ¬ xo x (some e) 5 = 0 := by
  show ¬ nI e.1 = 0
  exact nI_ne0 (by omega) (by omega)
theorem fo_ft {m : Nat → Bool} {s : Nat} {φ : Option (Nat × Nat)} (h : fo φ) : ∀ k, fo (ftF m s φ k)
  | 0 => h
  | k + 1 => by
    unfold ftF
    split
    · intro e he; cases he; exact ⟨by simp, by simp⟩
    · exact fo_ft h k
/-- one more comparison that holds -/
theorem wr_o {g : GE} (hg : FU g) {w : Mem} {M s : Nat} {x : Nat → Int32} {m : Nat → Bool} {φ : Option (Nat × Nat)} {i : Nat} (h5 : x 5 = 0) (hf : fo φ) (hO : MO w M (xo x (ftF m s φ i))) (hm : m i = true) :
    ∃ w', fX11_wrong g [.ref M, .int 2, .int (nI s)] w = some (.inl none, w') ∧ MO w' M (xo x (ftF m s φ (i + 1))) ∧ Fr (fun q => q = M) w w' := by
  cases hq : ftF m s φ i with
  | none =>
    rw [hq] at hO
    obtain ⟨w1, p1, p2, p3⟩ := wrong_sp hg hO h5 2 (nI s)
    refine ⟨w1, p1, ?_, p3⟩
    unfold ftF
    rw [if_pos ⟨hq, hm⟩]
    exact p2
  | some e =>
    have h9 := fo_ft (m := m) (s := s) hf i e hq
    rw [hq] at hO
    refine ⟨w, wrong_no hg hO (xo_5 h9) _ _, ?_, Fr.rf _ _⟩
    unfold ftF
    rw [if_neg (fun q => by rw [hq] at q; cases q.1), hq]
    exact hO
section
variable {g : GE} {w : Mem} {M s H Th : Nat} {x : Nat → Int32} {φ : Option (Nat × Nat)} {c : Nat → Int64} {c3 : Nat → Int32} {C : Int64} {K L2 : Int32}
theorem nm_h (hg : FU g) (hO : MO w M (xo x φ)) (h4 : x 4 = nI s) (h5 : x 5 = 0) (hf : fo φ) (hL : LA w (M + 11) 9 c) (h3 : IA w (M + 3) 7 c3) (e0 : c3 0 = nI H) (hH : H ≤ 4) (F : Nat) :
    ∃ f' w', F ≤ f' ∧ MO w' M (xo x (ftF (fun i => decide (c i = C)) s φ H)) ∧ Fr (fun q => q = M) w w' ∧ jX11_names g (F + 1 + 2 * H) 2 [] [some (.ref M), some (.int K), some (.int L2), some (.long C), none, some (.int (nI 0))] w = jX11_names g f' 4 [] [some (.ref M), some (.int K), some (.int L2), some (.long C), none, some (.int (nI 0))] w' := by
  have L := lpC (fun f (z : Lv × Mem) => jX11_names g f 2 [] z.1 z.2) (fun i z => z.1 = [some (.ref M), some (.int K), some (.int L2), some (.long C), none, some (.int (nI i))] ∧ MO z.2 M (xo x (ftF (fun i => decide (c i = C)) s φ i)) ∧ Fr (fun q => q = M) w z.2) 2 H
    (fun i z hi hI f => by
      obtain ⟨e1, e2, e3⟩ := hI
      have e4 := nI_ge hi (by omega)
      have rd := (hL.fr e3 (by omega)).rd (j := i) (by omega) (by decide)
      have r3 := (h3.fr e3 (by omega)).rc 0 0 rfl (by decide) (by decide)
      rw [e0] at r3
      have x4 := xo_4 x (ftF (fun i => decide (c i = C)) s φ i)
      rw [h4] at x4
      by_cases y : c i = C
      · obtain ⟨w1, p1, p2, p3⟩ := wr_o hg h5 hf e2 (decide_eq_true y)
        have e5 := cz_y y
        refine ⟨f, ([some (.ref M), some (.int K), some (.int L2), some (.long C), none, some (.int (nI (i + 1)))], w1), Nat.le_refl _, ⟨rfl, p2, e3.tr p3⟩, ?_⟩
        clear p2
        generalize xo x (ftF (fun i => decide (c i = C)) s φ i) = X at *
        simp [jX11_names, bX11_names_0, bX11_names_1, bX11_names_2, bX11_names_3, bX11_names_4, bX11_names_5, bX11_names_6, bX11_names_7, bX11_names_8, i_aload, i_dup, i_dup2, i_getf, i_iadd, i_iaload, i_iastore, i_icge, i_icle, i_icne, i_ifeq, i_ifne, i_iinc, i_iload, i_istore, i_jmp, i_laload, i_lastore, i_lcmp, i_lload, i_lstore, i_push, i_putf, i_return, msk, lset1, lset2, clr, Value.category, Option.toList, List.cons_append, List.nil_append, List.length_cons, List.length_nil, e1, gf_eq e2, mg_10, mg_18, mg_4, r3, e4, rd, e5, x4, cvk_2 e2 p1, nI_1]
      · have e5 := cz_n y
        have e6 : ftF (fun i => decide (c i = C)) s φ (i + 1) = ftF (fun i => decide (c i = C)) s φ i := by
          show (if _ then _ else _) = _
          exact if_neg (fun q => absurd q.2 (by simp [y]))
        refine ⟨f, ([some (.ref M), some (.int K), some (.int L2), some (.long C), none, some (.int (nI (i + 1)))], z.2), Nat.le_refl _, ⟨rfl, by rw [e6]; exact e2, e3⟩, ?_⟩
        clear e6
        generalize xo x (ftF (fun i => decide (c i = C)) s φ i) = X at *
        simp [jX11_names, bX11_names_0, bX11_names_1, bX11_names_2, bX11_names_3, bX11_names_4, bX11_names_5, bX11_names_6, bX11_names_7, bX11_names_8, i_aload, i_dup, i_dup2, i_getf, i_iadd, i_iaload, i_iastore, i_icge, i_icle, i_icne, i_ifeq, i_ifne, i_iinc, i_iload, i_istore, i_jmp, i_laload, i_lastore, i_lcmp, i_lload, i_lstore, i_push, i_putf, i_return, msk, lset1, lset2, clr, Value.category, Option.toList, List.cons_append, List.nil_append, List.length_cons, List.length_nil, e1, gf_eq e2, mg_10, mg_18, mg_4, r3, e4, rd, e5, nI_1])
  obtain ⟨f1, z1, k1, ⟨e1, e2, e3⟩, k3⟩ := L H 0 ([some (.ref M), some (.int K), some (.int L2), some (.long C), none, some (.int (nI 0))], w) (by omega) ⟨rfl, hO, Fr.rf _ _⟩ (F + 1)
  obtain ⟨f2, rfl⟩ : ∃ z, f1 = z + 1 := ⟨f1 - 1, by omega⟩
  refine ⟨f2, z1.2, by omega, e2, e3, ?_⟩
  have r3 := (h3.fr e3 (by omega)).rc 0 0 rfl (by decide) (by decide)
  rw [e0] at r3
  rw [show jX11_names g (F + 1 + 2 * H) 2 [] [some (.ref M), some (.int K), some (.int L2), some (.long C), none, some (.int (nI 0))] w = jX11_names g (f2 + 1) 2 [] z1.1 z1.2 from k3]
  clear k3 L
  generalize xo x (ftF (fun i => decide (c i = C)) s φ H) = X at *
  rw [nI_0]
  simp [jX11_names, bX11_names_0, bX11_names_1, bX11_names_2, bX11_names_3, bX11_names_4, bX11_names_5, bX11_names_6, bX11_names_7, bX11_names_8, i_aload, i_dup, i_dup2, i_getf, i_iadd, i_iaload, i_iastore, i_icge, i_icle, i_icne, i_ifeq, i_ifne, i_iinc, i_iload, i_istore, i_jmp, i_laload, i_lastore, i_lcmp, i_lload, i_lstore, i_push, i_putf, i_return, msk, lset1, lset2, clr, Value.category, Option.toList, List.cons_append, List.nil_append, List.length_cons, List.length_nil, e1, gf_eq e2, mg_10, r3]
theorem nm_t (hg : FU g) (hO : MO w M (xo x φ)) (h4 : x 4 = nI s) (h5 : x 5 = 0) (hf : fo φ) (hL : LA w (M + 11) 9 c) (h3 : IA w (M + 3) 7 c3) (e0 : c3 1 = nI Th) (hH : Th ≤ 5) (F : Nat) :
    ∃ f' w', F ≤ f' ∧ MO w' M (xo x (ftF (fun i => decide (c (4 + i) = C)) s φ Th)) ∧ Fr (fun q => q = M) w w' ∧ jX11_names g (F + 2 * Th) 4 [] [some (.ref M), some (.int K), some (.int L2), some (.long C), none, some (.int (nI 0))] w = jX11_names g f' 4 [] [some (.ref M), some (.int K), some (.int L2), some (.long C), none, some (.int (nI Th))] w' := by
  have L := lpC (fun f (z : Lv × Mem) => jX11_names g f 4 [] z.1 z.2) (fun i z => z.1 = [some (.ref M), some (.int K), some (.int L2), some (.long C), none, some (.int (nI i))] ∧ MO z.2 M (xo x (ftF (fun i => decide (c (4 + i) = C)) s φ i)) ∧ Fr (fun q => q = M) w z.2) 2 Th
    (fun i z hi hI f => by
      obtain ⟨e1, e2, e3⟩ := hI
      have e4 := nI_ge hi (by omega)
      have rd := (hL.fr e3 (by omega)).rd (j := 4 + i) (by omega) (by decide)
      have ei : 4 + nI i = nI (4 + i) := nI_add 4 i
      have r3 := (h3.fr e3 (by omega)).rc 1 1 rfl (by decide) (by decide)
      rw [e0] at r3
      have x4 := xo_4 x (ftF (fun i => decide (c (4 + i) = C)) s φ i)
      rw [h4] at x4
      by_cases y : c (4 + i) = C
      · obtain ⟨w1, p1, p2, p3⟩ := wr_o hg h5 hf e2 (decide_eq_true y)
        have e5 := cz_y y
        refine ⟨f, ([some (.ref M), some (.int K), some (.int L2), some (.long C), none, some (.int (nI (i + 1)))], w1), Nat.le_refl _, ⟨rfl, p2, e3.tr p3⟩, ?_⟩
        clear p2
        generalize xo x (ftF (fun i => decide (c (4 + i) = C)) s φ i) = X at *
        simp [jX11_names, bX11_names_0, bX11_names_1, bX11_names_2, bX11_names_3, bX11_names_4, bX11_names_5, bX11_names_6, bX11_names_7, bX11_names_8, i_aload, i_dup, i_dup2, i_getf, i_iadd, i_iaload, i_iastore, i_icge, i_icle, i_icne, i_ifeq, i_ifne, i_iinc, i_iload, i_istore, i_jmp, i_laload, i_lastore, i_lcmp, i_lload, i_lstore, i_push, i_putf, i_return, msk, lset1, lset2, clr, Value.category, Option.toList, List.cons_append, List.nil_append, List.length_cons, List.length_nil, e1, gf_eq e2, mg_10, mg_18, mg_4, r3, e4, ei, rd, e5, x4, cvk_2 e2 p1, nI_1]
      · have e5 := cz_n y
        have e6 : ftF (fun i => decide (c (4 + i) = C)) s φ (i + 1) = ftF (fun i => decide (c (4 + i) = C)) s φ i := by
          show (if _ then _ else _) = _
          exact if_neg (fun q => absurd q.2 (by simp [y]))
        refine ⟨f, ([some (.ref M), some (.int K), some (.int L2), some (.long C), none, some (.int (nI (i + 1)))], z.2), Nat.le_refl _, ⟨rfl, by rw [e6]; exact e2, e3⟩, ?_⟩
        clear e6
        generalize xo x (ftF (fun i => decide (c (4 + i) = C)) s φ i) = X at *
        simp [jX11_names, bX11_names_0, bX11_names_1, bX11_names_2, bX11_names_3, bX11_names_4, bX11_names_5, bX11_names_6, bX11_names_7, bX11_names_8, i_aload, i_dup, i_dup2, i_getf, i_iadd, i_iaload, i_iastore, i_icge, i_icle, i_icne, i_ifeq, i_ifne, i_iinc, i_iload, i_istore, i_jmp, i_laload, i_lastore, i_lcmp, i_lload, i_lstore, i_push, i_putf, i_return, msk, lset1, lset2, clr, Value.category, Option.toList, List.cons_append, List.nil_append, List.length_cons, List.length_nil, e1, gf_eq e2, mg_10, mg_18, mg_4, r3, e4, ei, rd, e5, nI_1])
  obtain ⟨f1, z1, k1, ⟨e1, e2, e3⟩, k3⟩ := L Th 0 ([some (.ref M), some (.int K), some (.int L2), some (.long C), none, some (.int (nI 0))], w) (by omega) ⟨rfl, hO, Fr.rf _ _⟩ F
  refine ⟨f1, z1.2, k1, e2, e3, ?_⟩
  rw [← e1]
  exact k3
end
