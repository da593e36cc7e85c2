/-! ===== the reference reads: an heir, a thing ===== -/
theorem nf_hit {f : Nat → Nat} {c N : Nat} : nfF f c N ≠ none ↔ ∃ i, i < N ∧ f i = c := by
  constructor
  · intro h
    cases hq : nfF f c N with
    | none => exact absurd hq h
    | some i => exact ⟨i, nf_some hq⟩
  · intro ⟨i, h1, h2⟩ h
    exact nf_none h i h1 h2
/-- what the comparisons of names find -/
theorem new_ft {T : Nat → Nat} {n s : Nat} {δ : DE} {c : Nat → Int64} (hs : s ≤ n) (c1 : ∀ h, h < δ.1 0 → c h = lN (δ.2 13 h)) (c2 : ∀ h, h < δ.1 1 → c (4 + h) = lN (δ.2 14 h)) (hQ : PQ δ) (φ : Option (Nat × Nat)) (hφ : φ = if le9 T n s = s then some (1, s) else if 9 < le9 T n s - s then some (2, s) else none) (hss : sb T n s = s) :
    newP T n δ s = match ftF (fun i => decide (c (4 + i) = (if 9 < le9 T n s - s then (-1 : Int64) else lN (cdF T s (le9 T n s - s))))) s (ftF (fun i => decide (c i = (if 9 < le9 T n s - s then (-1 : Int64) else lN (cdF T s (le9 T n s - s))))) s φ (δ.1 0)) (δ.1 1) with
      | some e => .inl e
      | none => .inr (s, le9 T n s) := by
  obtain ⟨⟨q0, q1, -⟩, -, -, -, q6, q7⟩ := id hQ
  unfold newP
  rw [hss]
  by_cases y : le9 T n s = s
  · rw [if_pos y] at hφ ⊢
    rw [hφ, ftF_some, ftF_some]
  · rw [if_neg y] at hφ ⊢
    by_cases h9 : 9 < le9 T n s - s
    · rw [if_pos h9] at hφ
      rw [hφ, ftF_some, ftF_some, if_pos (Or.inl h9)]
    · rw [if_neg h9] at hφ
      rw [hφ]
      simp only [if_neg h9]
      have cl : cdF T s (le9 T n s - s) < 2 ^ 43 := by
        have := code_lt (T := T) hs
        rwa [show min (le9 T n s - s) 9 = le9 T n s - s by omega] at this
      have m1 : ∀ i, i < δ.1 0 → (c i = lN (cdF T s (le9 T n s - s)) ↔ δ.2 13 i = cdF T s (le9 T n s - s)) := fun i hi => by
        have := (q6 i hi).2.2.2
        rw [c1 i hi]
        exact lN_inj9 (by omega) (by omega)
      have m2 : ∀ i, i < δ.1 1 → (c (4 + i) = lN (cdF T s (le9 T n s - s)) ↔ δ.2 14 i = cdF T s (le9 T n s - s)) := fun i hi => by
        have := (q7 i hi).2
        rw [c2 i hi]
        exact lN_inj9 (by omega) (by omega)
      generalize cdF T s (le9 T n s - s) = C at *
      by_cases u1 : nfF (δ.2 13) C (δ.1 0) ≠ none
      · obtain ⟨i, hi, e⟩ := nf_hit.mp u1
        rw [if_pos (Or.inr (Or.inl u1)), ftF_hit (i := i) (δ.1 0) hi (by simp [(m1 i hi).mpr e]), ftF_some]
      · have f1 : ftF (fun i => decide (c i = lN C)) s none (δ.1 0) = none := ftF_no _ fun i hi => decide_eq_false fun h => u1 (nf_hit.mpr ⟨i, hi, (m1 i hi).mp h⟩)
        rw [f1]
        by_cases u2 : nfF (δ.2 14) C (δ.1 1) ≠ none
        · obtain ⟨i, hi, e⟩ := nf_hit.mp u2
          rw [if_pos (Or.inr (Or.inr u2)), ftF_hit (i := i) (δ.1 1) hi (by simp [(m2 i hi).mpr e])]
        · have f2 : ftF (fun i => decide (c (4 + i) = lN C)) s none (δ.1 1) = none := ftF_no _ fun i hi => decide_eq_false fun h => u2 (nf_hit.mpr ⟨i, hi, (m2 i hi).mp h⟩)
          rw [f2, if_neg (fun h => by rcases h with z | z | z; exact h9 z; exact u1 z; exact u2 z)]
/-- up to the end of the comparisons -/
theorem names_a {g : GE} (hg : FU g) {w : Mem} {M n a pt q : Nat} {x : Nat → Int32} {T : Nat → Nat} {δ : DE} {K : Int32} (hO : MO w M x) (h2 : x 2 = nI n) (h4 : x 4 = nI a) (h5 : x 5 = 0) (hT : TXT w (M + 1) T) (ha : a ≤ n) (hn : n ≤ 600) (hG : RG w M δ pt q) (hQ : PQ δ) :
    ∃ F w' φ C, 100 ≤ F ∧ newP T n δ a = (match φ with | some e => .inl e | none => .inr (sb T n a, le9 T n (sb T n a))) ∧ fo φ ∧ (φ = none → C = lN (cdF T (sb T n a) (le9 T n (sb T n a) - sb T n a)) ∧ sb T n a < le9 T n (sb T n a)) ∧ MO w' M (xo (va_up x 4 (nI (sb T n a))) φ) ∧ Fr (fun q => q = M) w w' ∧ fX11_names g [.ref M, .int K] w = jX11_names g F 4 [] [some (.ref M), some (.int K), some (.int (nI (le9 T n (sb T n a) - sb T n a))), some (.long C), none, some (.int (nI (δ.1 1)))] w' := by
  obtain ⟨w1, r1, o1, F1⟩ := lettersHere_sp hg hO h2 h4 hT ha hn
  obtain ⟨⟨q0, q1, -⟩, -⟩ := id hQ
  have k2 : sb T n a ≤ n := ru_n ha
  have ss : sb T n (sb T n a) = sb T n a := ru_ru ha
  have en : newP T n δ a = newP T n δ (sb T n a) := by unfold newP; rw [ss]
  rw [en]
  have T1 := hT.fr F1 (by omega)
  have G1' := hG.fr F1 (fun i h1 h2 => by omega)
  obtain ⟨⟨c3, h3, e0, e1, -⟩, -, -, -, ⟨c, hL, c1, c2⟩, -⟩ := id G1'
  clear en
  generalize sb T n a = s at *
  have g2 : va_up x 4 (nI s) 2 = nI n := h2
  have g4 : va_up x 4 (nI s) 4 = nI s := va_up_self _ _ _
  have g5 : va_up x 4 (nI s) 5 = 0 := h5
  have r2 := wordHere_at hg o1 g2 g4 T1 k2 hn ss
  have k3 : s ≤ le9 T n s := ru_le k2
  have k4 : le9 T n s ≤ n := ru_n k2
  have nf := new_ft (T := T) (s := s) k2 c1 c2 hQ _ rfl ss
  obtain ⟨N, hN⟩ : ∃ N, g.1 = (N + 100 + 2 * δ.1 1) + 1 + 2 * δ.1 0 + 2 := ⟨g.1 - 103 - 2 * δ.1 1 - 2 * δ.1 0, by omega⟩
  -- the first test
  have tst : ∃ w2, MO w2 M (xo (va_up x 4 (nI s)) (if le9 T n s = s then some (1, s) else if 9 < le9 T n s - s then some (2, s) else none)) ∧ Fr (fun q => q = M) w1 w2 ∧ fX11_names g [.ref M, .int K] w = jX11_names g ((N + 100 + 2 * δ.1 1) + 1 + 2 * δ.1 0) 2 [] [some (.ref M), some (.int K), some (.int (nI (le9 T n s - s))), some (.long (if 9 < le9 T n s - s then (-1 : Int64) else lN (cdF T s (le9 T n s - s)))), none, some (.int (nI 0))] w2 := by
    clear nf
    rw [nI_0]
    generalize (N + 100 + 2 * δ.1 1) + 1 + 2 * δ.1 0 = FF at *
    by_cases y : le9 T n s = s
    · rw [if_pos y]
      obtain ⟨w2, p1, p2, p3⟩ := wrong_sp hg o1 g5 1 (nI s)
      refine ⟨w2, p2, p3, ?_⟩
      rw [y, Nat.sub_self] at r1 r2 ⊢
      rw [nI_0] at r1 ⊢
      generalize (if 9 < 0 then (-1 : Int64) else lN (cdF T s 0)) = C at *
      simp [fX11_names, kX11_names, ent, entp, jX11_names, bX11_names_0, bX11_names_1, bX11_names_2, bX11_names_3, bX11_names_4, bX11_names_5, bX11_names_6, bX11_names_7, bX11_names_8, i_aload, i_dup, i_dup2, i_getf, i_iadd, i_iaload, i_iastore, i_icge, i_icle, i_icne, i_ifeq, i_ifne, i_iinc, i_iload, i_istore, i_jmp, i_laload, i_lastore, i_lcmp, i_lload, i_lstore, i_push, i_putf, i_return, msk, lset1, lset2, clr, Value.category, Option.toList, List.cons_append, List.nil_append, List.length_cons, List.length_nil, hN, cvk_0 hO r1, cvk_0 o1 r2, gf_eq o1, mg_4, g4, cvk_2 o1 p1]
    · rw [if_neg y]
      have e3 : ¬ nI (le9 T n s - s) = 0 := nI_ne0 (by omega) (by omega)
      by_cases h9 : 9 < le9 T n s - s
      · have e4 : ¬ nI (le9 T n s - s) ≤ 9 := nI_ge (a := 9) h9 (by omega)
        rw [if_pos h9]
        obtain ⟨w2, p1, p2, p3⟩ := wrong_sp hg o1 g5 2 (nI s)
        refine ⟨w2, p2, p3, ?_⟩
        generalize (if 9 < le9 T n s - s then (-1 : Int64) else lN (cdF T s (le9 T n s - s))) = C at *
        generalize nI (le9 T n s - s) = L2 at *
        simp [fX11_names, kX11_names, ent, entp, jX11_names, bX11_names_0, bX11_names_1, bX11_names_2, bX11_names_3, bX11_names_4, bX11_names_5, bX11_names_6, bX11_names_7, bX11_names_8, i_aload, i_dup, i_dup2, i_getf, i_iadd, i_iaload, i_iastore, i_icge, i_icle, i_icne, i_ifeq, i_ifne, i_iinc, i_iload, i_istore, i_jmp, i_laload, i_lastore, i_lcmp, i_lload, i_lstore, i_push, i_putf, i_return, msk, lset1, lset2, clr, Value.category, Option.toList, List.cons_append, List.nil_append, List.length_cons, List.length_nil, hN, cvk_0 hO r1, cvk_0 o1 r2, e3, e4, gf_eq o1, mg_4, g4, cvk_2 o1 p1]
      · have e4 : nI (le9 T n s - s) ≤ 9 := nI_le (b := 9) (by omega) (by decide)
        rw [if_neg h9]
        refine ⟨w1, o1, Fr.rf _ _, ?_⟩
        generalize (if 9 < le9 T n s - s then (-1 : Int64) else lN (cdF T s (le9 T n s - s))) = C at *
        generalize nI (le9 T n s - s) = L2 at *
        simp [fX11_names, kX11_names, ent, entp, jX11_names, bX11_names_0, bX11_names_1, bX11_names_2, bX11_names_3, bX11_names_4, bX11_names_5, bX11_names_6, bX11_names_7, bX11_names_8, i_aload, i_dup, i_dup2, i_getf, i_iadd, i_iaload, i_iastore, i_icge, i_icle, i_icne, i_ifeq, i_ifne, i_iinc, i_iload, i_istore, i_jmp, i_laload, i_lastore, i_lcmp, i_lload, i_lstore, i_push, i_putf, i_return, msk, lset1, lset2, clr, Value.category, Option.toList, List.cons_append, List.nil_append, List.length_cons, List.length_nil, hN, cvk_0 hO r1, cvk_0 o1 r2, e3, e4]
  obtain ⟨w2, o2, F2, E2⟩ := tst
  have hf : fo (if le9 T n s = s then some (1, s) else if 9 < le9 T n s - s then some (2, s) else none) := by
    intro e he
    split at he
    · cases he; exact ⟨by simp, by simp⟩
    · split at he
      · cases he; exact ⟨by simp, by simp⟩
      · cases he
  have hf0 : (if le9 T n s = s then some (1, s) else if 9 < le9 T n s - s then some (2, s) else none) = none → ¬ le9 T n s = s ∧ ¬ 9 < le9 T n s - s := by
    intro he
    split at he
    · cases he
    · next y1 =>
      split at he
      · cases he
      · next y2 => exact ⟨y1, y2⟩
  generalize (if le9 T n s = s then some (1, s) else if 9 < le9 T n s - s then some (2, s) else none) = φ at *
  generalize hC : (if 9 < le9 T n s - s then (-1 : Int64) else lN (cdF T s (le9 T n s - s))) = C at *
  obtain ⟨f3, w3, k5, o3, F3, E3⟩ := nm_h (K := K) (L2 := nI (le9 T n s - s)) (C := C) hg o2 g4 g5 hf (hL.fr F2 (by omega)) (h3.fr F2 (by omega)) e0 q0 (N + 100 + 2 * δ.1 1)
  obtain ⟨z3, hz3⟩ : ∃ z, f3 = z + 100 + 2 * δ.1 1 := ⟨f3 - 100 - 2 * δ.1 1, by omega⟩
  have F23 := F2.tr F3
  obtain ⟨f4, w4, k6, o4, F4, E4⟩ := nm_t (K := K) (L2 := nI (le9 T n s - s)) (C := C) hg o3 g4 g5 (fo_ft hf _) (hL.fr F23 (by omega)) (h3.fr F23 (by omega)) e1 q1 (z3 + 100)
  refine ⟨f4, w4, _, C, by omega, nf, fo_ft (fo_ft hf _) _, fun hφ => ?_, o4, (F1.tr F23).tr F4, ?_⟩
  · have : φ = none := by
      cases hq : φ with
      | none => rfl
      | some e => rw [hq, ftF_some, ftF_some] at hφ; cases hφ
    have h0 := hf0 this
    rw [if_neg h0.2] at hC
    exact ⟨hC.symm, by omega⟩
  · rw [E2, E3, hz3, E4]
theorem names0_sp {g : GE} (hg : FU g) {w : Mem} {M n a pt q : Nat} {x : Nat → Int32} {T : Nat → Nat} {δ : DE} (hO : MO w M x) (h2 : x 2 = nI n) (h4 : x 4 = nI a) (h5 : x 5 = 0) (hT : TXT w (M + 1) T) (ha : a ≤ n) (hn : n ≤ 600) (hG : RG w M δ pt q) (hQ : PQ δ) (hl : δ.1 0 < 4) :
    ∃ w', fX11_names g [.ref M, .int 0] w = some (.inl none, w') ∧ RX w' M x n pt q (heirC T n (δ, a)) ∧ Fr (SR M) w w' := by
  obtain ⟨F, w1, φ, C, hF, en, hf, hC, o1, F1, E1⟩ := names_a (K := 0) hg hO h2 h4 h5 hT ha hn hG hQ
  obtain ⟨⟨q0, q1, q2, q3, q4, q5⟩, -⟩ := id hQ
  have G1' := hG.fr F1 (fun i h1 h2 => by omega)
  have T1 := hT.fr F1 (by omega)
  have k2 : sb T n a ≤ n := ru_n ha
  obtain ⟨⟨c3, h3, e0, e1, e2, e3, e4, e5⟩, ⟨cl, hLn, kLn⟩, ⟨cw, hWo, kWo⟩, ⟨ct, hLe, kLe⟩, ⟨c, hL, c1, c2⟩, g6, g7, g8, g9⟩ := id G1'
  have r3 := h3.rc 1 1 rfl (by decide) (by decide)
  rw [e1] at r3
  obtain ⟨N, hN⟩ : ∃ N, F = N + 4 := ⟨F - 4, by omega⟩
  subst hN
  rw [E1]
  clear E1
  generalize sb T n a = s at *
  have k3 : s ≤ le9 T n s := ru_le k2
  have k4 : le9 T n s ≤ n := ru_n k2
  cases φ with
  | some e =>
    have en' : newP T n δ a = .inl e := en
    have he := hf e rfl
    have x5 : ¬ xo (va_up x 4 (nI s)) (some e) 5 = 0 := xo_5 he
    refine ⟨w1, ?_, ?_, F1.mn (SR_M M)⟩
    · clear en hC
      generalize xo (va_up x 4 (nI s)) (some e) = X at *
      generalize nI (le9 T n s - s) = L2 at *
      simp [jX11_names, bX11_names_0, bX11_names_1, bX11_names_2, bX11_names_3, bX11_names_4, bX11_names_5, bX11_names_6, bX11_names_7, bX11_names_8, i_aload, i_dup, i_dup2, i_getf, i_iadd, i_iaload, i_iastore, i_icge, i_icle, i_icne, i_ifeq, i_ifne, i_iinc, i_iload, i_istore, i_jmp, i_laload, i_lastore, i_lcmp, i_lload, i_lstore, i_push, i_putf, i_return, msk, lset1, lset2, clr, Value.category, Option.toList, List.cons_append, List.nil_append, List.length_cons, List.length_nil, gf_eq o1, mg_10, r3, mg_5, x5]
    · unfold heirC
      rw [en']
      exact RFt.v o1 G1'.rp k2 he.1 he.2
  | none =>
    have en' : newP T n δ a = .inr (s, le9 T n s) := en
    obtain ⟨rfl, lt⟩ := hC rfl
    have o1' : MO w1 M (va_up x 4 (nI s)) := o1
    have g4 : va_up x 4 (nI s) 4 = nI s := va_up_self _ _ _
    have g5 : va_up x 4 (nI s) 5 = 0 := h5
    have ea : nI s + nI (le9 T n s - s) = nI (le9 T n s) := by rw [nI_add, show s + (le9 T n s - s) = le9 T n s by omega]
    clear o1
    have r0 := h3.rc 0 0 rfl (by decide) (by decide)
    rw [e0] at r0
    -- the name
    have L2 := hL.up (δ.1 0) (lN (cdF T s (le9 T n s - s)))
    have sv := hL.wr (j := δ.1 0) (by omega) (by decide) (lN (cdF T s (le9 T n s - s)))
    obtain ⟨w2, hw2⟩ : ∃ z, wl w1 (M + 11) (δ.1 0) (lN (cdF T s (le9 T n s - s))) = z := ⟨_, rfl⟩
    rw [hw2] at L2 sv
    have F2 : Fr (fun q => q = M + 11) w1 w2 := hw2 ▸ Fr.wl _ _ _ rfl
    have o2 : MO w2 M (va_up x 4 (nI s)) := F2.at o1' (by omega)
    -- its letters
    have N3 := (hLn.fr F2 (by omega)).up (δ.1 0) (nI (le9 T n s - s))
    have sn := (hLn.fr F2 (by omega)).wr (j := δ.1 0) (by omega) (by decide) (nI (le9 T n s - s))
    obtain ⟨w3, hw3⟩ : ∃ z, wi w2 0 (M + 5) (δ.1 0) (nI (le9 T n s - s)) = z := ⟨_, rfl⟩
    rw [hw3] at N3 sn
    have F3 : Fr (fun q => q = M + 5) w2 w3 := hw3 ▸ Fr.wi _ _ _ _ rfl
    have o3 : MO w3 M (va_up x 4 (nI s)) := F3.at o2 (by omega)
    have st := st_4 o3 (nI (le9 T n s))
    rw [va_up_up] at st
    obtain ⟨w4, hw4⟩ : ∃ z, mset w3 M (.inr (10, mo M (va_up x 4 (nI (le9 T n s))))) = z := ⟨_, rfl⟩
    rw [hw4] at st
    have o4 : MO w4 M (va_up x 4 (nI (le9 T n s))) := hw4 ▸ ms_at _ _ _
    have F4 : Fr (fun q => q = M) w3 w4 := hw4 ▸ Fr.ms _ _ rfl
    have F24 : Fr (fun q => q = M ∨ q = M + 5 ∨ q = M + 11) w1 w4 := ((F2.mn fun a h => Or.inr (Or.inr h)).tr (F3.mn fun a h => Or.inr (Or.inl h))).tr (F4.mn fun a h => Or.inl h)
    have H4 := h3.fr F24 (by omega)
    have r04 := H4.rc 0 0 rfl (by decide) (by decide)
    rw [e0] at r04
    -- the least
    have E5 := (hLe.fr F24 (by omega)).up (δ.1 0) 0
    have sl := (hLe.fr F24 (by omega)).wr (j := δ.1 0) (by omega) (by decide) 0
    obtain ⟨w5, hw5⟩ : ∃ z, wi w4 0 (M + 9) (δ.1 0) 0 = z := ⟨_, rfl⟩
    rw [hw5] at E5 sl
    have F5 : Fr (fun q => q = M + 9) w4 w5 := hw5 ▸ Fr.wi _ _ _ _ rfl
    have o5 : MO w5 M (va_up x 4 (nI (le9 T n s))) := F5.at o4 (by omega)
    have H5 := H4.fr F5 (by omega)
    have r05 := H5.rc 0 0 rfl (by decide) (by decide)
    rw [e0] at r05
    have sc := arwc H5 0 0 rfl (by decide) (by decide) (nI (δ.1 0 + 1))
    have H6 := H5.up 0 (nI (δ.1 0 + 1))
    obtain ⟨w6, hw6⟩ : ∃ z, wi w5 0 (M + 3) 0 (nI (δ.1 0 + 1)) = z := ⟨_, rfl⟩
    rw [hw6] at H6 sc
    have F6 : Fr (fun q => q = M + 3) w5 w6 := hw6 ▸ Fr.wi _ _ _ _ rfl
    have o6 : MO w6 M (va_up x 4 (nI (le9 T n s))) := F6.at o5 (by omega)
    have F56 : Fr (fun q => q = M + 3 ∨ q = M + 9) w4 w6 := (F5.mn fun a h => Or.inr h).tr (F6.mn fun a h => Or.inl h)
    have F26 : Fr (fun q => q = M ∨ q = M + 3 ∨ q = M + 5 ∨ q = M + 9 ∨ q = M + 11) w1 w6 := (F24.mn fun a h => by omega).tr (F56.mn fun a h => by omega)
    refine ⟨w6, ?_, ?_, (F1.mn (SR_M M)).tr (F26.mn fun a h => by unfold SR rg; omega)⟩
    · clear en en' lt hf
      generalize lN (cdF T s (le9 T n s - s)) = CC at *
      generalize nI (le9 T n s - s) = KK at *
      generalize le9 T n s = A at *
      simp [jX11_names, bX11_names_0, bX11_names_1, bX11_names_2, bX11_names_3, bX11_names_4, bX11_names_5, bX11_names_6, bX11_names_7, bX11_names_8, i_aload, i_dup, i_dup2, i_getf, i_iadd, i_iaload, i_iastore, i_icge, i_icle, i_icne, i_ifeq, i_ifne, i_iinc, i_iload, i_istore, i_jmp, i_laload, i_lastore, i_lcmp, i_lload, i_lstore, i_push, i_putf, i_return, msk, lset1, lset2, clr, Value.category, Option.toList, List.cons_append, List.nil_append, List.length_cons, List.length_nil, gf_eq o1', gf_eq o2, gf_eq o3, gf_eq o4, gf_eq o5, mg_10, mg_12, mg_16, mg_18, mg_4, mg_5, r3, r0, g5, g4, sv, sn, ea, st, r04, sl, r05, nI_1, sc]
    · unfold heirC
      rw [en']
      refine ⟨o6, ?_, ?_, ?_, ?_, ?_, ?_, ?_, ?_, ?_⟩
      · exact ⟨_, H6, rfl, e1, e2, e3, e4, e5⟩
      · refine ⟨_, ((N3.fr F4 (by omega)).fr F56 (by omega)), fun h hh => ?_⟩
        by_cases z : h = δ.1 0
        · subst z
          rw [va_up_self]
          show _ = nI (va_up _ (δ.1 0) (le9 T n s - s) (δ.1 0))
          rw [va_up_self]
        · have hh' : h < δ.1 0 := by have : h < δ.1 0 + 1 := hh; omega
          rw [va_ne z]
          show _ = nI (va_up _ (δ.1 0) (le9 T n s - s) h)
          rw [va_ne z]
          exact kLn h hh'
      · exact ⟨cw, hWo.fr F26 (by omega), kWo⟩
      · refine ⟨_, E5.fr F6 (by omega), fun h hh => ?_⟩
        by_cases z : h = δ.1 0
        · subst z
          rw [va_up_self]
          show _ = nI (va_up _ (δ.1 0) 0 (δ.1 0))
          rw [va_up_self]
          rfl
        · have hh' : h < δ.1 0 := by have : h < δ.1 0 + 1 := hh; omega
          rw [va_ne z]
          show _ = nI (va_up _ (δ.1 0) 0 h)
          rw [va_ne z]
          exact kLe h hh'
      · refine ⟨_, ((L2.fr F3 (by omega)).fr F4 (by omega)).fr F56 (by omega), fun h hh => ?_, fun h hh => ?_⟩
        · by_cases z : h = δ.1 0
          · subst z
            rw [va_up_self]
            show _ = lN (va_up _ (δ.1 0) (cdF T s (le9 T n s - s)) (δ.1 0))
            rw [va_up_self]
          · have hh' : h < δ.1 0 := by have : h < δ.1 0 + 1 := hh; omega
            rw [va_ne z]
            show _ = lN (va_up _ (δ.1 0) (cdF T s (le9 T n s - s)) h)
            rw [va_ne z]
            exact c1 h hh'
        · rw [va_ne (by omega)]
          exact c2 h hh
      · exact g6.fr F26 (fun i h1 h2 => by omega)
      · exact (g7.fr F26 (fun i h1 h2 => by omega)).cg rfl rfl (fun p hp => ⟨rfl, rfl⟩) fun b hb => rfl
      · exact g8.fr F26 (fun i h1 h2 => by omega)
      · obtain ⟨c9, h9, k9⟩ := g9.fr F26 (fun i h1 h2 => by omega)
        refine ⟨c9, h9, fun b hb i hi => ?_⟩
        rw [k9 b hb i hi]
        simp only [addHr, dC_2, dT_2, m20_13, m20_0, m20_1, if_false]
theorem names1_sp {g : GE} (hg : FU g) {w : Mem} {M n a pt q : Nat} {x : Nat → Int32} {T : Nat → Nat} {δ : DE} (hO : MO w M x) (h2 : x 2 = nI n) (h4 : x 4 = nI a) (h5 : x 5 = 0) (hT : TXT w (M + 1) T) (ha : a ≤ n) (hn : n ≤ 600) (hG : RG w M δ pt q) (hQ : PQ δ) (hl : δ.1 1 < 5) :
    ∃ w', fX11_names g [.ref M, .int 1] w = some (.inl none, w') ∧ RX w' M x n pt q (thingC T n (δ, a)) ∧ Fr (SR M) w w' := by
  obtain ⟨F, w1, φ, C, hF, en, hf, hC, o1, F1, E1⟩ := names_a (K := 1) hg hO h2 h4 h5 hT ha hn hG hQ
  obtain ⟨⟨q0, q1, q2, q3, q4, q5⟩, -⟩ := id hQ
  have G1' := hG.fr F1 (fun i h1 h2 => by omega)
  have T1 := hT.fr F1 (by omega)
  have k2 : sb T n a ≤ n := ru_n ha
  obtain ⟨⟨c3, h3, e0, e1, e2, e3, e4, e5⟩, ⟨cl, hLn, kLn⟩, ⟨cw, hWo, kWo⟩, ⟨ct, hLe, kLe⟩, ⟨c, hL, c1, c2⟩, g6, g7, g8, g9⟩ := id G1'
  have r3 := h3.rc 1 1 rfl (by decide) (by decide)
  rw [e1] at r3
  obtain ⟨N, hN⟩ : ∃ N, F = N + 4 := ⟨F - 4, by omega⟩
  subst hN
  rw [E1]
  clear E1
  generalize sb T n a = s at *
  have k3 : s ≤ le9 T n s := ru_le k2
  have k4 : le9 T n s ≤ n := ru_n k2
  cases φ with
  | some e =>
    have en' : newP T n δ a = .inl e := en
    have he := hf e rfl
    have x5 : ¬ xo (va_up x 4 (nI s)) (some e) 5 = 0 := xo_5 he
    refine ⟨w1, ?_, ?_, F1.mn (SR_M M)⟩
    · clear en hC
      generalize xo (va_up x 4 (nI s)) (some e) = X at *
      generalize nI (le9 T n s - s) = L2 at *
      simp [jX11_names, bX11_names_0, bX11_names_1, bX11_names_2, bX11_names_3, bX11_names_4, bX11_names_5, bX11_names_6, bX11_names_7, bX11_names_8, i_aload, i_dup, i_dup2, i_getf, i_iadd, i_iaload, i_iastore, i_icge, i_icle, i_icne, i_ifeq, i_ifne, i_iinc, i_iload, i_istore, i_jmp, i_laload, i_lastore, i_lcmp, i_lload, i_lstore, i_push, i_putf, i_return, msk, lset1, lset2, clr, Value.category, Option.toList, List.cons_append, List.nil_append, List.length_cons, List.length_nil, gf_eq o1, mg_10, r3, mg_5, x5]
    · unfold thingC
      rw [en']
      exact RFt.v o1 G1'.rp k2 he.1 he.2
  | none =>
    have en' : newP T n δ a = .inr (s, le9 T n s) := en
    obtain ⟨rfl, lt⟩ := hC rfl
    have o1' : MO w1 M (va_up x 4 (nI s)) := o1
    have g4 : va_up x 4 (nI s) 4 = nI s := va_up_self _ _ _
    have g5 : va_up x 4 (nI s) 5 = 0 := h5
    have ea : nI s + nI (le9 T n s - s) = nI (le9 T n s) := by rw [nI_add, show s + (le9 T n s - s) = le9 T n s by omega]
    clear o1
    have t4 : 4 + nI (δ.1 1) = nI (4 + δ.1 1) := nI_add 4 _
    -- the name
    have L2 := hL.up (4 + δ.1 1) (lN (cdF T s (le9 T n s - s)))
    have sv := hL.wr (j := 4 + δ.1 1) (by omega) (by decide) (lN (cdF T s (le9 T n s - s)))
    obtain ⟨w2, hw2⟩ : ∃ z, wl w1 (M + 11) (4 + δ.1 1) (lN (cdF T s (le9 T n s - s))) = z := ⟨_, rfl⟩
    rw [hw2] at L2 sv
    have F2 : Fr (fun q => q = M + 11) w1 w2 := hw2 ▸ Fr.wl _ _ _ rfl
    have o2 : MO w2 M (va_up x 4 (nI s)) := F2.at o1' (by omega)
    -- its letters
    have N3 := (hLn.fr F2 (by omega)).up (4 + δ.1 1) (nI (le9 T n s - s))
    have sn := (hLn.fr F2 (by omega)).wr (j := 4 + δ.1 1) (by omega) (by decide) (nI (le9 T n s - s))
    obtain ⟨w3, hw3⟩ : ∃ z, wi w2 0 (M + 5) (4 + δ.1 1) (nI (le9 T n s - s)) = z := ⟨_, rfl⟩
    rw [hw3] at N3 sn
    have F3 : Fr (fun q => q = M + 5) w2 w3 := hw3 ▸ Fr.wi _ _ _ _ rfl
    have o3 : MO w3 M (va_up x 4 (nI s)) := F3.at o2 (by omega)
    have st := st_4 o3 (nI (le9 T n s))
    rw [va_up_up] at st
    obtain ⟨w4, hw4⟩ : ∃ z, mset w3 M (.inr (10, mo M (va_up x 4 (nI (le9 T n s))))) = z := ⟨_, rfl⟩
    rw [hw4] at st
    have o4 : MO w4 M (va_up x 4 (nI (le9 T n s))) := hw4 ▸ ms_at _ _ _
    have F4 : Fr (fun q => q = M) w3 w4 := hw4 ▸ Fr.ms _ _ rfl
    have F24 : Fr (fun q => q = M ∨ q = M + 5 ∨ q = M + 11) w1 w4 := ((F2.mn fun a h => Or.inr (Or.inr h)).tr (F3.mn fun a h => Or.inr (Or.inl h))).tr (F4.mn fun a h => Or.inl h)
    have H4 := h3.fr F24 (by omega)
    have r14 := H4.rc 1 1 rfl (by decide) (by decide)
    rw [e1] at r14
    -- its worth
    obtain ⟨w5, r5, o5, F5⟩ := number_sp hg o4 h2 (va_up_self _ _ _) h5 (T1.fr F24 (by omega)) k4 hn (mx := 99) (by decide)
    have r5' : fX11_number g [.ref M, .int 0, .int 99] w4 = some (.inl (some (.int (pvD 0 (numP T n 99 (le9 T n s))))), w5) := by rw [show (99 : Int32) = nI 99 from rfl, r5]; cases numP T n 99 (le9 T n s) <;> rfl
    clear r5
    have F25 : Fr (fun q => q = M ∨ q = M + 5 ∨ q = M + 11) w1 w5 := F24.tr (F5.mn fun a h => Or.inl h)
    have W6 := (hWo.fr F25 (by omega)).up (δ.1 1) (pvD 0 (numP T n 99 (le9 T n s)))
    have sw := (hWo.fr F25 (by omega)).wr (j := δ.1 1) (by omega) (by decide) (pvD 0 (numP T n 99 (le9 T n s)))
    obtain ⟨w6, hw6⟩ : ∃ z, wi w5 0 (M + 7) (δ.1 1) (pvD 0 (numP T n 99 (le9 T n s))) = z := ⟨_, rfl⟩
    rw [hw6] at W6 sw
    have F6 : Fr (fun q => q = M + 7) w5 w6 := hw6 ▸ Fr.wi _ _ _ _ rfl
    have H6 := (h3.fr F25 (by omega)).fr F6 (by omega)
    have r16 := H6.rc 1 1 rfl (by decide) (by decide)
    rw [e1] at r16
    have sc := arwc H6 1 1 rfl (by decide) (by decide) (nI (δ.1 1 + 1))
    have H7 := H6.up 1 (nI (δ.1 1 + 1))
    obtain ⟨w7, hw7⟩ : ∃ z, wi w6 0 (M + 3) 1 (nI (δ.1 1 + 1)) = z := ⟨_, rfl⟩
    rw [hw7] at H7 sc
    have F7 : Fr (fun q => q = M + 3) w6 w7 := hw7 ▸ Fr.wi _ _ _ _ rfl
    have F67 : Fr (fun q => q = M + 3 ∨ q = M + 7) w5 w7 := (F6.mn fun a h => Or.inr h).tr (F7.mn fun a h => Or.inl h)
    have F27 : Fr (fun q => q = M ∨ q = M + 3 ∨ q = M + 5 ∨ q = M + 7 ∨ q = M + 11) w1 w7 := (F25.mn fun a h => by omega).tr (F67.mn fun a h => by omega)
    refine ⟨w7, ?_, ?_, (F1.mn (SR_M M)).tr (F27.mn fun a h => by unfold SR rg; omega)⟩
    · have o6 := F6.at o5 (by omega)
      clear en en' lt hf W6
      generalize pvD 0 (numP T n 99 (le9 T n s)) = V at *
      generalize xV (va_up x 4 (nI (le9 T n s))) (ru isD T n (sb T n (le9 T n s))) (numP T n 99 (le9 T n s)) = X at *
      generalize lN (cdF T s (le9 T n s - s)) = CC at *
      generalize nI (le9 T n s - s) = KK at *
      generalize le9 T n s = A at *
      simp [jX11_names, bX11_names_0, bX11_names_1, bX11_names_2, bX11_names_3, bX11_names_4, bX11_names_5, bX11_names_6, bX11_names_7, bX11_names_8, i_aload, i_dup, i_dup2, i_getf, i_iadd, i_iaload, i_iastore, i_icge, i_icle, i_icne, i_ifeq, i_ifne, i_iinc, i_iload, i_istore, i_jmp, i_laload, i_lastore, i_lcmp, i_lload, i_lstore, i_push, i_putf, i_return, msk, lset1, lset2, clr, Value.category, Option.toList, List.cons_append, List.nil_append, List.length_cons, List.length_nil, gf_eq o1', gf_eq o2, gf_eq o3, gf_eq o4, gf_eq o5, gf_eq o6, mg_10, mg_12, mg_14, mg_18, mg_4, mg_5, r3, g5, g4, t4, sv, sn, ea, st, r14, cvk_2 o4 r5', sw, r16, nI_1, sc]
    · unfold thingC
      rw [en']
      have hnb := numP_b T n 99 (le9 T n s)
      show RX w7 M x n pt q (bd (numP T n 99 (le9 T n s)) fun q => .inr (addTh δ (cdF T s (le9 T n s - s)) q.1, q.2))
      cases hr : numP T n 99 (le9 T n s) with
      | inl e =>
        rw [hr] at o5
        have k5 : ru isD T n (sb T n (le9 T n s)) ≤ n := ru_n (ru_n k4)
        have p2 : RP w2 M := by
          obtain ⟨z1, z2, z3, z4, -, z6, z7, z8, z9⟩ := G1'.rp
          have F2' : Fr (fun q => q = M + 11) w1 w2 := F2
          obtain ⟨d1, z1⟩ := z1
          obtain ⟨d2, z2⟩ := z2
          obtain ⟨d3, z3⟩ := z3
          obtain ⟨d4, z4⟩ := z4
          obtain ⟨d6, z6⟩ := z6
          obtain ⟨d7, z7⟩ := z7
          obtain ⟨d8, z8⟩ := z8
          obtain ⟨d9, z9⟩ := z9
          exact ⟨⟨d1, z1.fr F2' (by omega)⟩, ⟨d2, z2.fr F2' (by omega)⟩, ⟨d3, z3.fr F2' (by omega)⟩, ⟨d4, z4.fr F2' (by omega)⟩, ⟨_, L2⟩, ⟨d6, z6.fr F2' fun i hi => by omega⟩, ⟨d7, z7.fr F2' fun i hi => by omega⟩, ⟨d8, z8.fr F2' fun i hi => by omega⟩, ⟨d9, z9.fr F2' fun i hi => by omega⟩⟩
        have p3 : RP w3 M := hw3 ▸ p2.wi
        have p1 : RP w5 M := (p3.fr F4 fun i h1 h2 => by omega).fr F5 fun i h1 h2 => by omega
        have hb := hnb e hr
        have f5 : RFt w5 M (va_up x 4 (nI (le9 T n s))) n e := RFt.v o5 p1 k5 hb.1 hb.2
        have f6 := f5.wi (A := M + 7) (j := δ.1 1) (v := pvD 0 (numP T n 99 (le9 T n s))) (by omega)
        rw [hw6] at f6
        have f7 := f6.wi (A := M + 3) (j := 1) (v := nI (δ.1 1 + 1)) (by omega)
        rw [hw7] at f7
        exact f7.o4
      | inr y =>
        obtain ⟨v, e⟩ := y
        rw [hr] at o5 W6
        have o7 : MO w7 M (va_up (va_up x 4 (nI (le9 T n s))) 4 (nI e)) := F67.at o5 (by omega)
        rw [va_up_up] at o7
        have W6' : IA w6 (M + 7) 5 (va_up cw (δ.1 1) (nI v)) := W6
        refine ⟨o7, ?_, ?_, ?_, ?_, ?_, ?_, ?_, ?_, ?_⟩
        · exact ⟨_, H7, e0, rfl, e2, e3, e4, e5⟩
        · refine ⟨_, ((N3.fr F4 (by omega)).fr F5 (by omega)).fr F67 (by omega), fun h hh => ?_⟩
          have hh' : h < δ.1 0 := hh
          rw [va_ne (by omega)]
          exact kLn h hh
        · refine ⟨_, W6'.fr F7 (by omega), fun h hh => ?_⟩
          by_cases z : h = δ.1 1
          · subst z
            rw [va_up_self]
            show _ = nI (va_up _ (δ.1 1) v (δ.1 1))
            rw [va_up_self]
          · have hh' : h < δ.1 1 := by have : h < δ.1 1 + 1 := hh; omega
            rw [va_ne z]
            show _ = nI (va_up _ (δ.1 1) v h)
            rw [va_ne z]
            exact kWo h hh'
        · exact ⟨ct, hLe.fr F27 (by omega), kLe⟩
        · refine ⟨_, (((L2.fr F3 (by omega)).fr F4 (by omega)).fr F5 (by omega)).fr F67 (by omega), fun h hh => ?_, fun h hh => ?_⟩
          · have hh' : h < δ.1 0 := hh
            rw [va_ne (by omega)]
            exact c1 h hh
          · by_cases z : h = δ.1 1
            · subst z
              rw [va_up_self]
              show _ = lN (va_up _ (δ.1 1) (cdF T s (le9 T n s - s)) (δ.1 1))
              rw [va_up_self]
            · have hh' : h < δ.1 1 := by have : h < δ.1 1 + 1 := hh; omega
              rw [va_ne (by omega)]
              show _ = lN (va_up _ (δ.1 1) (cdF T s (le9 T n s - s)) h)
              rw [va_ne z]
              exact c2 h hh'
        · exact g6.fr F27 (fun i h1 h2 => by omega)
        · exact (g7.fr F27 (fun i h1 h2 => by omega)).cg rfl rfl (fun p hp => ⟨rfl, rfl⟩) fun b hb => rfl
        · exact g8.fr F27 (fun i h1 h2 => by omega)
        · obtain ⟨c9, h9, k9⟩ := g9.fr F27 (fun i h1 h2 => by omega)
          refine ⟨c9, h9, fun b hb i hi => ?_⟩
          rw [k9 b hb i hi]
          simp only [addTh, dC_2, dT_2, m20_14, m20_2, if_false]
