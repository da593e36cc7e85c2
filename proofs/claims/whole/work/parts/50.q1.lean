/-! ===== scans ===== -/
/-- the first among the first n that has p and the least (the most) of f -/
def amnP (p : Nat → Bool) (f : Nat → Nat) : Nat → Option Nat
  | 0 => none
  | n + 1 => if p n = true then (match amnP p f n with
    | none => some n
    | some j => if f n < f j then some n else some j) else amnP p f n
def amxP (p : Nat → Bool) (f : Nat → Nat) : Nat → Option Nat
  | 0 => none
  | n + 1 => if p n = true then (match amxP p f n with
    | none => some n
    | some j => if f j < f n then some n else some j) else amxP p f n
def oI : Option Nat → Int32
  | none => -1
  | some j => nI j
def oV (f : Nat → Nat) : Option Nat → Int32
  | none => -1
  | some j => nI (f j)
theorem amnP_lt {p : Nat → Bool} {f : Nat → Nat} : ∀ {n j : Nat}, amnP p f n = some j → j < n
  | 0, j, h => by cases h
  | n + 1, j, h => by
    unfold amnP at h
    split at h
    · split at h
      · cases h; omega
      · next k hk =>
        have := amnP_lt hk
        split at h
        · cases h; omega
        · cases h; omega
    · have := amnP_lt h; omega
theorem amxP_lt {p : Nat → Bool} {f : Nat → Nat} : ∀ {n j : Nat}, amxP p f n = some j → j < n
  | 0, j, h => by cases h
  | n + 1, j, h => by
    unfold amxP at h
    split at h
    · split at h
      · cases h; omega
      · next k hk =>
        have := amxP_lt hk
        split at h
        · cases h; omega
        · cases h; omega
    · have := amxP_lt h; omega
abbrev tru : Nat → Bool := fun _ => true
theorem amnP_n0 {f : Nat → Nat} {n : Nat} : amnP tru f (n + 1) ≠ none := by
  unfold amnP
  rw [if_pos rfl]
  split
  · exact fun h => by cases h
  · split <;> exact fun h => by cases h
theorem amxP_n0 {f : Nat → Nat} {n : Nat} : amxP tru f (n + 1) ≠ none := by
  unfold amxP
  rw [if_pos rfl]
  split
  · exact fun h => by cases h
  · split <;> exact fun h => by cases h
abbrev bstR (δ : DE) (h : Nat) : Option Nat := amxP tru (fun i => wtR δ i h) (nR δ)
abbrev wrsR (δ : DE) (h : Nat) : Option Nat := amnP tru (fun i => wtR δ i h) (nR δ)
def toldO (δ : DE) (x0 : Int32) : OUT := 
  match rng x0 (6 + 1) with
  | none => .inr (1, 2)
  | some n0 =>
    .inl (.int (nI (δ.1 n0)))
theorem told_c {g : GE} {w : Mem} {B E fed kept : Nat} {fp : Int32} {tp : Nat → Int32} {rf : Nat → Nat} {δ : DE} {τ : TE} {im : Nat → TE} {lev nG : Nat} (hg : GD g) (hE : B + 132 ≤ E) (hI : CI g w B E fed kept fp tp rf δ τ im lev nG) (x0 : Int32) : CQ g w B E fed kept fp tp rf δ τ im lev nG (fX10_told g [.ref B, .int x0] w) (toldO δ x0) := by
  have hg1 := hg.1
  obtain ⟨D, D', hCC, hCT, hCN, hCL, hCM⟩ := id hI
  obtain ⟨hDD, hB, hTp, hD, hD', hSc, hr, hd, hfd, hkp⟩ := id hCC
  obtain ⟨aM, aS, aG, n1', hG, hX⟩ := id hCT
  obtain ⟨b1, b2, b3, b4, b5, b6, b7, b8⟩ := id hd.1
  have hT := hG.tb
  have hn := nR_le hd
  obtain ⟨N, hN⟩ : ∃ N, g.1 = N + 12 := ⟨g.1 - 12, by omega⟩
  unfold toldO
  have q0 := needWhat_sp hg1 hB hr x0 (n := 6) (y := 6) rfl (by decide)
  cases h0 : rng x0 (6 + 1) with
  | none =>
    rw [h0] at q0
    simp only [tst, Option.isSome, Bool.false_eq_true, if_false] at q0
    refine CQ.no hE hI ?_
    simp [fX10_told, kX10_told, ent, entp, bX10_told_0, i_aload, i_getf, i_iload, i_ireturn, i_push, i_tsw, msk, lset1, lset2, clr, Value.category, Option.toList, List.cons_append, List.nil_append, List.length_cons, List.length_nil, hN, cxe_2 hB q0]
  | some n0 =>
    rw [h0] at q0
    simp only [tst, Option.isSome, if_true] at q0
    obtain ⟨l0, e0⟩ := rng_some (by omega) h0
    subst e0
    refine CQ.ok hI ?_
    have t7 : ∀ j, j < 7 → (nI j).toInt = (j : Int) := fun j hj => nI_toInt (by omega)
    have : n0 = 0 ∨ n0 = 1 ∨ n0 = 2 ∨ n0 = 3 ∨ n0 = 4 ∨ n0 = 5 ∨ n0 = 6 := by omega
    rcases this with z | z | z | z | z | z | z <;> subst z <;> simp [fX10_told, kX10_told, ent, entp, bX10_told_0, i_aload, i_getf, i_iload, i_ireturn, i_push, i_tsw, msk, lset1, lset2, clr, Value.category, Option.toList, List.cons_append, List.nil_append, List.length_cons, List.length_nil, hN, cxk_2 hB q0, gf_eq hB, gf_eq hD.1, t7]
theorem told_r {g : GE} {w : Mem} {M fed kept : Nat} {fp : Int32} {tp : Nat → Int32} {rf : Nat → Nat} {δ : DE} {τ : TE} {im : Nat → TE} {x : Nat → Int32} (hg : FU g) (hd : WF δ) (hI : RI w M fed kept fp tp rf δ τ im x) (x0 : Int32) : RQo w M fed kept fp tp rf δ τ im (fX11_told g [.ref M, .int x0] w) (toldO δ x0) := by
  obtain ⟨w0, hw0, I0, F0⟩ := hI.t0
  obtain ⟨b1, b2, b3, b4, b5, b6, b7, b8⟩ := id hd.1
  obtain ⟨hO, hXO, hRK, hRZ, hrf⟩ := id I0
  obtain ⟨x1', x3', x27, x32, x33, x34⟩ := id hXO
  obtain ⟨hTp, hD, hR, hCp, hHb, hKp, hRP⟩ := id hRK
  have hn := nR_le hd
  have x0' : (va_up x 0 0) 0 = 0 := va_up_self _ _ _
  obtain ⟨N, hN⟩ : ∃ N, g.1 = N + 16 := ⟨g.1 - 16, by omega⟩
  unfold toldO
  have q0 := in_sp (w := w0) hg x0 (n := 6 + 1) (y := 6) (by decide) (by decide)
  cases h0 : rng x0 (6 + 1) with
  | none =>
    rw [h0] at q0
    simp only [bI, Option.isSome, Bool.false_eq_true, if_false] at q0
    obtain ⟨w1, p1, p2, p3⟩ := bad1_sp hg I0 x0' (c := 1) (r := 2) (C := 1) (R := 2) rfl rfl (by decide) (by decide)
    refine RQo.no (v := .int 0) F0 p2 ?_ p3
    simp [fX11_told, kX11_told, ent, entp, jX11_told, bX11_told_0, bX11_told_1, i_aload, i_getf, i_iaload, i_ifeq, i_ifne, i_iload, i_ireturn, i_jmp, i_push, i_putf, msk, lset1, lset2, clr, Value.category, Option.toList, List.cons_append, List.nil_append, List.length_cons, List.length_nil, hN, st_0 hI.1, hw0, csk_3 q0, cvk_3 hO p1]
  | some n0 =>
    rw [h0] at q0
    simp only [bI, Option.isSome, if_true] at q0
    obtain ⟨l0, e0⟩ := rng_some (by omega) h0
    subst e0
    refine RQo.ok F0 I0 x0' ?_ (Fr.rf _ _)
    simp [fX11_told, kX11_told, ent, entp, jX11_told, bX11_told_0, bX11_told_1, i_aload, i_getf, i_iaload, i_ifeq, i_ifne, i_iload, i_ireturn, i_jmp, i_push, i_putf, msk, lset1, lset2, clr, Value.category, Option.toList, List.cons_append, List.nil_append, List.length_cons, List.length_nil, hN, st_0 hI.1, hw0, csk_3 q0, cvk_3 hO (bad0_sp hg hO x0' 1 2), gf_eq hO, mg_11, hD.1.rd (j := n0) (by omega) (by decide)]
def blotO (δ : DE) (x0 x1 : Int32) : OUT := 
  match rng x0 (δ.1 3) with
  | none => .inr (1, 1)
  | some n0 =>
    match rng x1 (3 + 1) with
    | none => .inr (2, 2)
    | some n1 =>
      .inl (.int (nI (δ.2 (8 + n1) n0)))
theorem blot_c {g : GE} {w : Mem} {B E fed kept : Nat} {fp : Int32} {tp : Nat → Int32} {rf : Nat → Nat} {δ : DE} {τ : TE} {im : Nat → TE} {lev nG : Nat} (hg : GD g) (hE : B + 132 ≤ E) (hI : CI g w B E fed kept fp tp rf δ τ im lev nG) (x0 x1 : Int32) : CQ g w B E fed kept fp tp rf δ τ im lev nG (fX10_blot g [.ref B, .int x0, .int x1] w) (blotO δ x0 x1) := by
  have hg1 := hg.1
  obtain ⟨D, D', hCC, hCT, hCN, hCL, hCM⟩ := id hI
  obtain ⟨hDD, hB, hTp, hD, hD', hSc, hr, hd, hfd, hkp⟩ := id hCC
  obtain ⟨aM, aS, aG, n1', hG, hX⟩ := id hCT
  obtain ⟨b1, b2, b3, b4, b5, b6, b7, b8⟩ := id hd.1
  have hT := hG.tb
  have hn := nR_le hd
  obtain ⟨N, hN⟩ : ∃ N, g.1 = N + 12 := ⟨g.1 - 12, by omega⟩
  unfold blotO
  have q0 := needBlot_sp hg1 hB hr hD b4 x0
  cases h0 : rng x0 (δ.1 3) with
  | none =>
    rw [h0] at q0
    simp only [tst, Option.isSome, Bool.false_eq_true, if_false] at q0
    refine CQ.no hE hI ?_
    simp [fX10_blot, kX10_blot, ent, entp, bX10_blot_0, i_aaload, i_aload, i_astore, i_getf, i_iload, i_ireturn, i_push, i_tsw, msk, lset1, lset2, clr, Value.category, Option.toList, List.cons_append, List.nil_append, List.length_cons, List.length_nil, hN, cxe_1 hB q0]
  | some n0 =>
    rw [h0] at q0
    simp only [tst, Option.isSome, if_true] at q0
    obtain ⟨l0, e0⟩ := rng_some (by omega) h0
    subst e0
    have q1 := needWhat_sp hg1 hB hr x1 (n := 3) (y := 3) rfl (by decide)
    cases h1 : rng x1 (3 + 1) with
    | none =>
      rw [h1] at q1
      simp only [tst, Option.isSome, Bool.false_eq_true, if_false] at q1
      refine CQ.no hE hI ?_
      simp [fX10_blot, kX10_blot, ent, entp, bX10_blot_0, i_aaload, i_aload, i_astore, i_getf, i_iload, i_ireturn, i_push, i_tsw, msk, lset1, lset2, clr, Value.category, Option.toList, List.cons_append, List.nil_append, List.length_cons, List.length_nil, hN, cxk_1 hB q0, cxe_2 hB q1]
    | some n1 =>
      rw [h1] at q1
      simp only [tst, Option.isSome, if_true] at q1
      obtain ⟨l1, e1⟩ := rng_some (by omega) h1
      subst e1
      refine CQ.ok hI ?_
      obtain ⟨d0, -, -, -, -, -, -, -, -, d9, -, dbl, -⟩ := id hD
      have e9 := dbl n0 (by omega)
      have t7 : ∀ j, j < 7 → (nI j).toInt = (j : Int) := fun j hj => nI_toInt (by omega)
      have : n1 = 0 ∨ n1 = 1 ∨ n1 = 2 ∨ n1 = 3 := by omega
      rcases this with z | z | z | z <;> subst z <;> simp [fX10_blot, kX10_blot, ent, entp, bX10_blot_0, i_aaload, i_aload, i_astore, i_getf, i_iload, i_ireturn, i_push, i_tsw, msk, lset1, lset2, clr, Value.category, Option.toList, List.cons_append, List.nil_append, List.length_cons, List.length_nil, hN, cxk_1 hB q0, cxk_2 hB q1, gf_eq hB, gf_eq d0, d9.rd (j := n0) (by omega) (by decide), va_rf, gf_eq e9, t7]
theorem blot_r {g : GE} {w : Mem} {M fed kept : Nat} {fp : Int32} {tp : Nat → Int32} {rf : Nat → Nat} {δ : DE} {τ : TE} {im : Nat → TE} {x : Nat → Int32} (hg : FU g) (hd : WF δ) (hI : RI w M fed kept fp tp rf δ τ im x) (x0 x1 : Int32) : RQo w M fed kept fp tp rf δ τ im (fX11_blot g [.ref M, .int x0, .int x1] w) (blotO δ x0 x1) := by
  obtain ⟨w0, hw0, I0, F0⟩ := hI.t0
  obtain ⟨b1, b2, b3, b4, b5, b6, b7, b8⟩ := id hd.1
  obtain ⟨hO, hXO, hRK, hRZ, hrf⟩ := id I0
  obtain ⟨x1', x3', x27, x32, x33, x34⟩ := id hXO
  obtain ⟨hTp, hD, hR, hCp, hHb, hKp, hRP⟩ := id hRK
  have hn := nR_le hd
  have x0' : (va_up x 0 0) 0 = 0 := va_up_self _ _ _
  obtain ⟨N, hN⟩ : ∃ N, g.1 = N + 16 := ⟨g.1 - 16, by omega⟩
  unfold blotO
  have q0 := isBlot_sp hg hO hD b4 x0
  cases h0 : rng x0 (δ.1 3) with
  | none =>
    rw [h0] at q0
    simp only [bI, Option.isSome, Bool.false_eq_true, if_false] at q0
    obtain ⟨w1, p1, p2, p3⟩ := bad1_sp hg I0 x0' (c := 1) (r := 1) (C := 1) (R := 1) rfl rfl (by decide) (by decide)
    refine RQo.no (v := .int 0) F0 p2 ?_ p3
    simp [fX11_blot, kX11_blot, ent, entp, jX11_blot, bX11_blot_0, bX11_blot_1, bX11_blot_2, bX11_blot_3, i_aaload, i_aload, i_getf, i_iaload, i_ifeq, i_ifne, i_iload, i_ireturn, i_jmp, i_push, i_putf, msk, lset1, lset2, clr, Value.category, Option.toList, List.cons_append, List.nil_append, List.length_cons, List.length_nil, hN, st_0 hI.1, hw0, cvk_1 hO q0, cvk_3 hO p1]
  | some n0 =>
    rw [h0] at q0
    simp only [bI, Option.isSome, if_true] at q0
    obtain ⟨l0, e0⟩ := rng_some (by omega) h0
    subst e0
    have q1 := in_sp (w := w0) hg x1 (n := 3 + 1) (y := 3) (by decide) (by decide)
    cases h1 : rng x1 (3 + 1) with
    | none =>
      rw [h1] at q1
      simp only [bI, Option.isSome, Bool.false_eq_true, if_false] at q1
      obtain ⟨w1, p1, p2, p3⟩ := bad1_sp hg I0 x0' (c := 2) (r := 2) (C := 2) (R := 2) rfl rfl (by decide) (by decide)
      refine RQo.no (v := .int 0) F0 p2 ?_ p3
      simp [fX11_blot, kX11_blot, ent, entp, jX11_blot, bX11_blot_0, bX11_blot_1, bX11_blot_2, bX11_blot_3, i_aaload, i_aload, i_getf, i_iaload, i_ifeq, i_ifne, i_iload, i_ireturn, i_jmp, i_push, i_putf, msk, lset1, lset2, clr, Value.category, Option.toList, List.cons_append, List.nil_append, List.length_cons, List.length_nil, hN, st_0 hI.1, hw0, cvk_1 hO q0, cvk_3 hO (bad0_sp hg hO x0' 1 1), csk_3 q1, cvk_3 hO p1]
    | some n1 =>
      rw [h1] at q1
      simp only [bI, Option.isSome, if_true] at q1
      obtain ⟨l1, e1⟩ := rng_some (by omega) h1
      subst e1
      refine RQo.ok F0 I0 x0' ?_ (Fr.rf _ _)
      obtain ⟨h0', -, -, -, -, -, ⟨c6, h6, k6⟩, -⟩ := id hD
      have kb := k6 n0 l0
      have hk : c6 n0 n1 = nI (δ.2 (8 + n1) n0) := by
        have : n1 = 0 ∨ n1 = 1 ∨ n1 = 2 ∨ n1 = 3 := by omega
        rcases this with z | z | z | z <;> subst z
        · exact kb.1
        · exact kb.2.1
        · exact kb.2.2.1
        · exact kb.2.2.2.1
      simp [fX11_blot, kX11_blot, ent, entp, jX11_blot, bX11_blot_0, bX11_blot_1, bX11_blot_2, bX11_blot_3, i_aaload, i_aload, i_getf, i_iaload, i_ifeq, i_ifne, i_iload, i_ireturn, i_jmp, i_push, i_putf, msk, lset1, lset2, clr, Value.category, Option.toList, List.cons_append, List.nil_append, List.length_cons, List.length_nil, hN, st_0 hI.1, hw0, cvk_1 hO q0, cvk_3 hO (bad0_sp hg hO x0' 1 1), csk_3 q1, cvk_3 hO (bad0_sp hg hO x0' 2 2), gf_eq hO, mg_24, h6.1.rd (j := n0) (by omega) (by decide), va_rf, (h6.2 n0 (by omega)).rd (j := n1) (by omega) (by decide), hk]
def candidateO (δ : DE) (x0 x1 : Int32) : OUT := 
  match rng x0 (δ.1 3) with
  | none => .inr (1, 1)
  | some n0 =>
    .inl (.int (match rng x1 (δ.2 10 n0) with | some n1 => nI (δ.2 (20 + n0) n1) | none => -1))
theorem candidate_c {g : GE} {w : Mem} {B E fed kept : Nat} {fp : Int32} {tp : Nat → Int32} {rf : Nat → Nat} {δ : DE} {τ : TE} {im : Nat → TE} {lev nG : Nat} (hg : GD g) (hE : B + 132 ≤ E) (hI : CI g w B E fed kept fp tp rf δ τ im lev nG) (x0 x1 : Int32) : CQ g w B E fed kept fp tp rf δ τ im lev nG (fX10_candidate g [.ref B, .int x0, .int x1] w) (candidateO δ x0 x1) := by
  have hg1 := hg.1
  obtain ⟨D, D', hCC, hCT, hCN, hCL, hCM⟩ := id hI
  obtain ⟨hDD, hB, hTp, hD, hD', hSc, hr, hd, hfd, hkp⟩ := id hCC
  obtain ⟨aM, aS, aG, n1', hG, hX⟩ := id hCT
  obtain ⟨b1, b2, b3, b4, b5, b6, b7, b8⟩ := id hd.1
  have hT := hG.tb
  have hn := nR_le hd
  obtain ⟨N, hN⟩ : ∃ N, g.1 = N + 12 := ⟨g.1 - 12, by omega⟩
  unfold candidateO
  have q0 := needBlot_sp hg1 hB hr hD b4 x0
  cases h0 : rng x0 (δ.1 3) with
  | none =>
    rw [h0] at q0
    simp only [tst, Option.isSome, Bool.false_eq_true, if_false] at q0
    refine CQ.no hE hI ?_
    simp [fX10_candidate, kX10_candidate, ent, entp, jX10_candidate, bX10_candidate_0, bX10_candidate_1, bX10_candidate_2, i_aaload, i_aload, i_astore, i_getf, i_iaload, i_icge, i_iflt, i_iload, i_ireturn, i_jmp, i_push, msk, lset1, lset2, clr, Value.category, Option.toList, List.cons_append, List.nil_append, List.length_cons, List.length_nil, hN, cxe_1 hB q0]
  | some n0 =>
    rw [h0] at q0
    simp only [tst, Option.isSome, if_true] at q0
    obtain ⟨l0, e0⟩ := rng_some (by omega) h0
    subst e0
    refine CQ.ok hI ?_
    obtain ⟨d0, -, -, -, -, -, -, -, -, d9, -, dbl, dvl⟩ := id hD
    have e9 := dbl n0 (by omega)
    have hb := hd.2.2.2.1 n0 l0
    cases h9 : rng x1 (δ.2 10 n0) with
    | none =>
      by_cases z : x1 < 0
      · simp [fX10_candidate, kX10_candidate, ent, entp, jX10_candidate, bX10_candidate_0, bX10_candidate_1, bX10_candidate_2, i_aaload, i_aload, i_astore, i_getf, i_iaload, i_icge, i_iflt, i_iload, i_ireturn, i_jmp, i_push, msk, lset1, lset2, clr, Value.category, Option.toList, List.cons_append, List.nil_append, List.length_cons, List.length_nil, hN, cxk_1 hB q0, gf_eq hB, gf_eq d0, d9.rd (j := n0) (by omega) (by decide), va_rf, gf_eq e9, z]
      · have z2 : nI (δ.2 10 n0) ≤ x1 := by
          rcases rng_none (by omega) h9 with q | q
          · exact absurd q z
          · exact q
        simp [fX10_candidate, kX10_candidate, ent, entp, jX10_candidate, bX10_candidate_0, bX10_candidate_1, bX10_candidate_2, i_aaload, i_aload, i_astore, i_getf, i_iaload, i_icge, i_iflt, i_iload, i_ireturn, i_jmp, i_push, msk, lset1, lset2, clr, Value.category, Option.toList, List.cons_append, List.nil_append, List.length_cons, List.length_nil, hN, cxk_1 hB q0, gf_eq hB, gf_eq d0, d9.rd (j := n0) (by omega) (by decide), va_rf, gf_eq e9, z, z2]
    | some n1 =>
      obtain ⟨l1, e1⟩ := rng_some (by omega) h9
      subst e1
      have z : ¬ nI n1 < 0 := nI_pos (by omega)
      have z2 := nI_ge l1 (by omega)
      simp [fX10_candidate, kX10_candidate, ent, entp, jX10_candidate, bX10_candidate_0, bX10_candidate_1, bX10_candidate_2, i_aaload, i_aload, i_astore, i_getf, i_iaload, i_icge, i_iflt, i_iload, i_ireturn, i_jmp, i_push, msk, lset1, lset2, clr, Value.category, Option.toList, List.cons_append, List.nil_append, List.length_cons, List.length_nil, hN, cxk_1 hB q0, gf_eq hB, gf_eq d0, d9.rd (j := n0) (by omega) (by decide), va_rf, gf_eq e9, z, z2, (dvl n0 (by omega)).rd (j := n1) (by omega) (by decide)]
theorem candidate_r {g : GE} {w : Mem} {M fed kept : Nat} {fp : Int32} {tp : Nat → Int32} {rf : Nat → Nat} {δ : DE} {τ : TE} {im : Nat → TE} {x : Nat → Int32} (hg : FU g) (hd : WF δ) (hI : RI w M fed kept fp tp rf δ τ im x) (x0 x1 : Int32) : RQo w M fed kept fp tp rf δ τ im (fX11_candidate g [.ref M, .int x0, .int x1] w) (candidateO δ x0 x1) := by
  obtain ⟨w0, hw0, I0, F0⟩ := hI.t0
  obtain ⟨b1, b2, b3, b4, b5, b6, b7, b8⟩ := id hd.1
  obtain ⟨hO, hXO, hRK, hRZ, hrf⟩ := id I0
  obtain ⟨x1', x3', x27, x32, x33, x34⟩ := id hXO
  obtain ⟨hTp, hD, hR, hCp, hHb, hKp, hRP⟩ := id hRK
  have hn := nR_le hd
  have x0' : (va_up x 0 0) 0 = 0 := va_up_self _ _ _
  obtain ⟨N, hN⟩ : ∃ N, g.1 = N + 16 := ⟨g.1 - 16, by omega⟩
  unfold candidateO
  have q0 := isBlot_sp hg hO hD b4 x0
  cases h0 : rng x0 (δ.1 3) with
  | none =>
    rw [h0] at q0
    simp only [bI, Option.isSome, Bool.false_eq_true, if_false] at q0
    obtain ⟨w1, p1, p2, p3⟩ := bad1_sp hg I0 x0' (c := 1) (r := 1) (C := 1) (R := 1) rfl rfl (by decide) (by decide)
    refine RQo.no (v := .int 0) F0 p2 ?_ p3
    simp [fX11_candidate, kX11_candidate, ent, entp, jX11_candidate, bX11_candidate_0, bX11_candidate_1, bX11_candidate_2, i_aaload, i_aload, i_getf, i_iaload, i_ifeq, i_ifne, i_iload, i_ireturn, i_isub, i_jmp, i_push, i_putf, msk, lset1, lset2, clr, Value.category, Option.toList, List.cons_append, List.nil_append, List.length_cons, List.length_nil, hN, st_0 hI.1, hw0, cvk_1 hO q0, cvk_3 hO p1]
  | some n0 =>
    rw [h0] at q0
    simp only [bI, Option.isSome, if_true] at q0
    obtain ⟨l0, e0⟩ := rng_some (by omega) h0
    subst e0
    refine RQo.ok F0 I0 x0' ?_ (Fr.rf _ _)
    obtain ⟨h0', -, -, -, -, -, ⟨c6, h6, k6⟩, ⟨c7, h7, k7⟩⟩ := id hD
    have hb := hd.2.2.2.1 n0 l0
    have q9 := in_sp (w := w0) hg x1 (n := δ.2 10 n0) rfl (by omega)
    cases h9 : rng x1 (δ.2 10 n0) with
    | none =>
      rw [h9] at q9
      simp only [bI, Option.isSome, Bool.false_eq_true, if_false] at q9
      simp [fX11_candidate, kX11_candidate, ent, entp, jX11_candidate, bX11_candidate_0, bX11_candidate_1, bX11_candidate_2, i_aaload, i_aload, i_getf, i_iaload, i_ifeq, i_ifne, i_iload, i_ireturn, i_isub, i_jmp, i_push, i_putf, msk, lset1, lset2, clr, Value.category, Option.toList, List.cons_append, List.nil_append, List.length_cons, List.length_nil, hN, st_0 hI.1, hw0, cvk_1 hO q0, cvk_3 hO (bad0_sp hg hO x0' 1 1), gf_eq hO, mg_24, h6.1.rd (j := n0) (by omega) (by decide), va_rf, (h6.2 n0 (by omega)).rc 2 2 rfl (by decide) (by decide), (k6 n0 l0).2.2.1, csk_3 q9]
    | some n1 =>
      rw [h9] at q9
      simp only [bI, Option.isSome, if_true] at q9
      obtain ⟨l1, e1⟩ := rng_some (by omega) h9
      subst e1
      simp [fX11_candidate, kX11_candidate, ent, entp, jX11_candidate, bX11_candidate_0, bX11_candidate_1, bX11_candidate_2, i_aaload, i_aload, i_getf, i_iaload, i_ifeq, i_ifne, i_iload, i_ireturn, i_isub, i_jmp, i_push, i_putf, msk, lset1, lset2, clr, Value.category, Option.toList, List.cons_append, List.nil_append, List.length_cons, List.length_nil, hN, st_0 hI.1, hw0, cvk_1 hO q0, cvk_3 hO (bad0_sp hg hO x0' 1 1), gf_eq hO, mg_24, mg_26, h6.1.rd (j := n0) (by omega) (by decide), h7.1.rd (j := n0) (by omega) (by decide), va_rf, (h6.2 n0 (by omega)).rc 2 2 rfl (by decide) (by decide), (k6 n0 l0).2.2.1, csk_3 q9, (h7.2 n0 (by omega)).rd (j := n1) (by omega) (by decide), k7 n0 l0 n1 l1]
def readingsO (δ : DE) : OUT := .inl (.int (nI (nR δ)))
theorem readings_c {g : GE} {w : Mem} {B E fed kept : Nat} {fp : Int32} {tp : Nat → Int32} {rf : Nat → Nat} {δ : DE} {τ : TE} {im : Nat → TE} {lev nG : Nat} (hg : GD g) (hE : B + 132 ≤ E) (hI : CI g w B E fed kept fp tp rf δ τ im lev nG) : CQ g w B E fed kept fp tp rf δ τ im lev nG (fX10_readings g [.ref B] w) (readingsO δ) := by
  have hg1 := hg.1
  obtain ⟨D, D', hCC, hCT, hCN, hCL, hCM⟩ := id hI
  obtain ⟨hDD, hB, hTp, hD, hD', hSc, hr, hd, hfd, hkp⟩ := id hCC
  obtain ⟨aM, aS, aG, n1', hG, hX⟩ := id hCT
  obtain ⟨b1, b2, b3, b4, b5, b6, b7, b8⟩ := id hd.1
  have hT := hG.tb
  have hn := nR_le hd
  obtain ⟨N, hN⟩ : ∃ N, g.1 = N + 12 := ⟨g.1 - 12, by omega⟩
  unfold readingsO
  refine CQ.ok hI ?_
  simp [fX10_readings, kX10_readings, ent, entp, bX10_readings_0, i_aload, i_getf, i_ireturn, msk, lset1, lset2, clr, Value.category, Option.toList, List.cons_append, List.nil_append, List.length_cons, List.length_nil, gf_eq hB, gf_eq hT]
theorem readings_r {g : GE} {w : Mem} {M fed kept : Nat} {fp : Int32} {tp : Nat → Int32} {rf : Nat → Nat} {δ : DE} {τ : TE} {im : Nat → TE} {x : Nat → Int32} (hg : FU g) (hd : WF δ) (hI : RI w M fed kept fp tp rf δ τ im x) : RQo w M fed kept fp tp rf δ τ im (fX11_readings g [.ref M] w) (readingsO δ) := by
  obtain ⟨w0, hw0, I0, F0⟩ := hI.t0
  obtain ⟨b1, b2, b3, b4, b5, b6, b7, b8⟩ := id hd.1
  obtain ⟨hO, hXO, hRK, hRZ, hrf⟩ := id I0
  obtain ⟨x1', x3', x27, x32, x33, x34⟩ := id hXO
  obtain ⟨hTp, hD, hR, hCp, hHb, hKp, hRP⟩ := id hRK
  have hn := nR_le hd
  have x0' : (va_up x 0 0) 0 = 0 := va_up_self _ _ _
  obtain ⟨N, hN⟩ : ∃ N, g.1 = N + 16 := ⟨g.1 - 16, by omega⟩
  unfold readingsO
  refine RQo.ok F0 I0 x0' ?_ (Fr.rf _ _)
  simp [fX11_readings, kX11_readings, ent, entp, bX11_readings_0, i_aload, i_getf, i_ireturn, i_push, i_putf, msk, lset1, lset2, clr, Value.category, Option.toList, List.cons_append, List.nil_append, List.length_cons, List.length_nil, hN, st_0 hI.1, hw0, gf_eq hO, mg_27, x27]
def faultO (fp : Int32) : OUT := .inl (.int fp)
theorem fault_c {g : GE} {w : Mem} {B E fed kept : Nat} {fp : Int32} {tp : Nat → Int32} {rf : Nat → Nat} {δ : DE} {τ : TE} {im : Nat → TE} {lev nG : Nat} (hg : GD g) (hE : B + 132 ≤ E) (hI : CI g w B E fed kept fp tp rf δ τ im lev nG) : CQ g w B E fed kept fp tp rf δ τ im lev nG (fX10_fault g [.ref B] w) (faultO fp) := by
  have hg1 := hg.1
  obtain ⟨D, D', hCC, hCT, hCN, hCL, hCM⟩ := id hI
  obtain ⟨hDD, hB, hTp, hD, hD', hSc, hr, hd, hfd, hkp⟩ := id hCC
  obtain ⟨aM, aS, aG, n1', hG, hX⟩ := id hCT
  obtain ⟨b1, b2, b3, b4, b5, b6, b7, b8⟩ := id hd.1
  have hT := hG.tb
  have hn := nR_le hd
  obtain ⟨N, hN⟩ : ∃ N, g.1 = N + 12 := ⟨g.1 - 12, by omega⟩
  unfold faultO
  refine CQ.ok hI ?_
  simp [fX10_fault, kX10_fault, ent, entp, bX10_fault_0, i_aload, i_getf, i_ireturn, msk, lset1, lset2, clr, Value.category, Option.toList, List.cons_append, List.nil_append, List.length_cons, List.length_nil, gf_eq hB]
theorem fault_r {g : GE} {w : Mem} {M fed kept : Nat} {fp : Int32} {tp : Nat → Int32} {rf : Nat → Nat} {δ : DE} {τ : TE} {im : Nat → TE} {x : Nat → Int32} (hg : FU g) (hd : WF δ) (hI : RI w M fed kept fp tp rf δ τ im x) : RQo w M fed kept fp tp rf δ τ im (fX11_fault g [.ref M] w) (faultO fp) := by
  obtain ⟨w0, hw0, I0, F0⟩ := hI.t0
  obtain ⟨b1, b2, b3, b4, b5, b6, b7, b8⟩ := id hd.1
  obtain ⟨hO, hXO, hRK, hRZ, hrf⟩ := id I0
  obtain ⟨x1', x3', x27, x32, x33, x34⟩ := id hXO
  obtain ⟨hTp, hD, hR, hCp, hHb, hKp, hRP⟩ := id hRK
  have hn := nR_le hd
  have x0' : (va_up x 0 0) 0 = 0 := va_up_self _ _ _
  obtain ⟨N, hN⟩ : ∃ N, g.1 = N + 16 := ⟨g.1 - 16, by omega⟩
  unfold faultO
  refine RQo.ok F0 I0 x0' ?_ (Fr.rf _ _)
  simp [fX11_fault, kX11_fault, ent, entp, bX11_fault_0, i_aload, i_getf, i_ireturn, i_push, i_putf, msk, lset1, lset2, clr, Value.category, Option.toList, List.cons_append, List.nil_append, List.length_cons, List.length_nil, hN, st_0 hI.1, hw0, gf_eq hO, mg_3, x3']
def readingO (δ : DE) (x0 x1 : Int32) : OUT := 
  match rng x0 (nR δ) with
  | none => .inr (1, 0)
  | some n0 =>
    match rng x1 (δ.1 3) with
    | none => .inr (2, 1)
    | some n1 =>
      .inl (.int (nI (δ.2 (20 + n1) (dgR δ n0 n1))))
theorem reading_c {g : GE} {w : Mem} {B E fed kept : Nat} {fp : Int32} {tp : Nat → Int32} {rf : Nat → Nat} {δ : DE} {τ : TE} {im : Nat → TE} {lev nG : Nat} (hg : GD g) (hE : B + 132 ≤ E) (hI : CI g w B E fed kept fp tp rf δ τ im lev nG) (x0 x1 : Int32) : CQ g w B E fed kept fp tp rf δ τ im lev nG (fX10_reading g [.ref B, .int x0, .int x1] w) (readingO δ x0 x1) := by
  have hg1 := hg.1
  obtain ⟨D, D', hCC, hCT, hCN, hCL, hCM⟩ := id hI
  obtain ⟨hDD, hB, hTp, hD, hD', hSc, hr, hd, hfd, hkp⟩ := id hCC
  obtain ⟨aM, aS, aG, n1', hG, hX⟩ := id hCT
  obtain ⟨b1, b2, b3, b4, b5, b6, b7, b8⟩ := id hd.1
  have hT := hG.tb
  have hn := nR_le hd
  obtain ⟨N, hN⟩ : ∃ N, g.1 = N + 12 := ⟨g.1 - 12, by omega⟩
  unfold readingO
  have q0 := needReading_sp hg1 hB hr hT (by omega) x0
  cases h0 : rng x0 (nR δ) with
  | none =>
    rw [h0] at q0
    simp only [tst, Option.isSome, Bool.false_eq_true, if_false] at q0
    refine CQ.no hE hI ?_
    simp [fX10_reading, kX10_reading, ent, entp, bX10_reading_0, i_aaload, i_aload, i_getf, i_iaload, i_iload, i_ireturn, msk, lset1, lset2, clr, Value.category, Option.toList, List.cons_append, List.nil_append, List.length_cons, List.length_nil, hN, cxe_1 hB q0]
  | some n0 =>
    rw [h0] at q0
    simp only [tst, Option.isSome, if_true] at q0
    obtain ⟨l0, e0⟩ := rng_some (by omega) h0
    subst e0
    have q1 := needBlot_sp hg1 hB hr hD b4 x1
    cases h1 : rng x1 (δ.1 3) with
    | none =>
      rw [h1] at q1
      simp only [tst, Option.isSome, Bool.false_eq_true, if_false] at q1
      refine CQ.no hE hI ?_
      simp [fX10_reading, kX10_reading, ent, entp, bX10_reading_0, i_aaload, i_aload, i_getf, i_iaload, i_iload, i_ireturn, msk, lset1, lset2, clr, Value.category, Option.toList, List.cons_append, List.nil_append, List.length_cons, List.length_nil, hN, cxk_1 hB q0, cxe_1 hB q1]
    | some n1 =>
      rw [h1] at q1
      simp only [tst, Option.isSome, if_true] at q1
      obtain ⟨l1, e1⟩ := rng_some (by omega) h1
      subst e1
      refine CQ.ok hI ?_
      obtain ⟨d0, -, -, -, -, -, -, -, -, d9, -, dbl, dvl⟩ := id hD
      have e9 := dbl n1 (by omega)
      have q9 := tdigit_sp hd hG l0 l1
      have ld := dgR_100 hd n0 l1
      simp [fX10_reading, kX10_reading, ent, entp, bX10_reading_0, i_aaload, i_aload, i_getf, i_iaload, i_iload, i_ireturn, msk, lset1, lset2, clr, Value.category, Option.toList, List.cons_append, List.nil_append, List.length_cons, List.length_nil, hN, cxk_1 hB q0, cxk_1 hB q1, gf_eq hB, gf_eq d0, d9.rd (j := n1) (by omega) (by decide), va_rf, gf_eq e9, cvk_2 hT q9, (dvl n1 (by omega)).rd (j := dgR δ n0 n1) (by omega) (by decide)]
theorem reading_r {g : GE} {w : Mem} {M fed kept : Nat} {fp : Int32} {tp : Nat → Int32} {rf : Nat → Nat} {δ : DE} {τ : TE} {im : Nat → TE} {x : Nat → Int32} (hg : FU g) (hd : WF δ) (hI : RI w M fed kept fp tp rf δ τ im x) (x0 x1 : Int32) : RQo w M fed kept fp tp rf δ τ im (fX11_reading g [.ref M, .int x0, .int x1] w) (readingO δ x0 x1) := by
  obtain ⟨w0, hw0, I0, F0⟩ := hI.t0
  obtain ⟨b1, b2, b3, b4, b5, b6, b7, b8⟩ := id hd.1
  obtain ⟨hO, hXO, hRK, hRZ, hrf⟩ := id I0
  obtain ⟨x1', x3', x27, x32, x33, x34⟩ := id hXO
  obtain ⟨hTp, hD, hR, hCp, hHb, hKp, hRP⟩ := id hRK
  have hn := nR_le hd
  have x0' : (va_up x 0 0) 0 = 0 := va_up_self _ _ _
  obtain ⟨N, hN⟩ : ∃ N, g.1 = N + 16 := ⟨g.1 - 16, by omega⟩
  unfold readingO
  have q0 := isReading_sp hg hO x27 hn x0
  cases h0 : rng x0 (nR δ) with
  | none =>
    rw [h0] at q0
    simp only [bI, Option.isSome, Bool.false_eq_true, if_false] at q0
    obtain ⟨w1, p1, p2, p3⟩ := bad1_sp hg I0 x0' (c := 1) (r := 0) (C := 1) (R := 0) rfl rfl (by decide) (by decide)
    refine RQo.no (v := .int 0) F0 p2 ?_ p3
    simp [fX11_reading, kX11_reading, ent, entp, jX11_reading, bX11_reading_0, bX11_reading_1, bX11_reading_2, bX11_reading_3, i_aload, i_ifeq, i_ifne, i_iload, i_ireturn, i_jmp, i_push, i_putf, msk, lset1, lset2, clr, Value.category, Option.toList, List.cons_append, List.nil_append, List.length_cons, List.length_nil, hN, st_0 hI.1, hw0, cvk_1 hO q0, cvk_3 hO p1]
  | some n0 =>
    rw [h0] at q0
    simp only [bI, Option.isSome, if_true] at q0
    obtain ⟨l0, e0⟩ := rng_some (by omega) h0
    subst e0
    have q1 := isBlot_sp hg hO hD b4 x1
    cases h1 : rng x1 (δ.1 3) with
    | none =>
      rw [h1] at q1
      simp only [bI, Option.isSome, Bool.false_eq_true, if_false] at q1
      obtain ⟨w1, p1, p2, p3⟩ := bad1_sp hg I0 x0' (c := 2) (r := 1) (C := 2) (R := 1) rfl rfl (by decide) (by decide)
      refine RQo.no (v := .int 0) F0 p2 ?_ p3
      simp [fX11_reading, kX11_reading, ent, entp, jX11_reading, bX11_reading_0, bX11_reading_1, bX11_reading_2, bX11_reading_3, i_aload, i_ifeq, i_ifne, i_iload, i_ireturn, i_jmp, i_push, i_putf, msk, lset1, lset2, clr, Value.category, Option.toList, List.cons_append, List.nil_append, List.length_cons, List.length_nil, hN, st_0 hI.1, hw0, cvk_1 hO q0, cvk_3 hO (bad0_sp hg hO x0' 1 0), cvk_1 hO q1, cvk_3 hO p1]
    | some n1 =>
      rw [h1] at q1
      simp only [bI, Option.isSome, if_true] at q1
      obtain ⟨l1, e1⟩ := rng_some (by omega) h1
      subst e1
      refine RQo.ok F0 I0 x0' ?_ (Fr.rf _ _)
      have q9 := rshows_sp hg hd hO hD hR l0 l1
      simp [fX11_reading, kX11_reading, ent, entp, jX11_reading, bX11_reading_0, bX11_reading_1, bX11_reading_2, bX11_reading_3, i_aload, i_ifeq, i_ifne, i_iload, i_ireturn, i_jmp, i_push, i_putf, msk, lset1, lset2, clr, Value.category, Option.toList, List.cons_append, List.nil_append, List.length_cons, List.length_nil, hN, st_0 hI.1, hw0, cvk_1 hO q0, cvk_3 hO (bad0_sp hg hO x0' 1 0), cvk_1 hO q1, cvk_3 hO (bad0_sp hg hO x0' 2 1), cvk_2 hO q9]
def getsO (δ : DE) (x0 x1 x2 : Int32) : OUT := 
  match rng x0 (nR δ) with
  | none => .inr (1, 0)
  | some n0 =>
    match rng x1 (δ.1 0) with
    | none => .inr (1, 0)
    | some n1 =>
      match rng x2 (1 + 1) with
      | none => .inr (2, 2)
      | some n2 =>
        .inl (.int (nI (if n2 = 0 then cnR δ n0 n1 else wtR δ n0 n1)))
theorem gets_c {g : GE} {w : Mem} {B E fed kept : Nat} {fp : Int32} {tp : Nat → Int32} {rf : Nat → Nat} {δ : DE} {τ : TE} {im : Nat → TE} {lev nG : Nat} (hg : GD g) (hE : B + 132 ≤ E) (hI : CI g w B E fed kept fp tp rf δ τ im lev nG) (x0 x1 x2 : Int32) : CQ g w B E fed kept fp tp rf δ τ im lev nG (fX10_gets g [.ref B, .int x0, .int x1, .int x2] w) (getsO δ x0 x1 x2) := by
  have hg1 := hg.1
  obtain ⟨D, D', hCC, hCT, hCN, hCL, hCM⟩ := id hI
  obtain ⟨hDD, hB, hTp, hD, hD', hSc, hr, hd, hfd, hkp⟩ := id hCC
  obtain ⟨aM, aS, aG, n1', hG, hX⟩ := id hCT
  obtain ⟨b1, b2, b3, b4, b5, b6, b7, b8⟩ := id hd.1
  have hT := hG.tb
  have hn := nR_le hd
  obtain ⟨N, hN⟩ : ∃ N, g.1 = N + 12 := ⟨g.1 - 12, by omega⟩
  unfold getsO
  have q0 := needReading_sp hg1 hB hr hT (by omega) x0
  cases h0 : rng x0 (nR δ) with
  | none =>
    rw [h0] at q0
    simp only [tst, Option.isSome, Bool.false_eq_true, if_false] at q0
    refine CQ.no hE hI ?_
    simp [fX10_gets, kX10_gets, ent, entp, jX10_gets, bX10_gets_0, bX10_gets_1, i_aload, i_getf, i_ifne, i_iload, i_ireturn, i_jmp, i_push, msk, lset1, lset2, clr, Value.category, Option.toList, List.cons_append, List.nil_append, List.length_cons, List.length_nil, hN, cxe_1 hB q0]
  | some n0 =>
    rw [h0] at q0
    simp only [tst, Option.isSome, if_true] at q0
    obtain ⟨l0, e0⟩ := rng_some (by omega) h0
    subst e0
    have q1 := needHeir_sp hg1 hB hr hD b1 x1
    cases h1 : rng x1 (δ.1 0) with
    | none =>
      rw [h1] at q1
      simp only [tst, Option.isSome, Bool.false_eq_true, if_false] at q1
      refine CQ.no hE hI ?_
      simp [fX10_gets, kX10_gets, ent, entp, jX10_gets, bX10_gets_0, bX10_gets_1, i_aload, i_getf, i_ifne, i_iload, i_ireturn, i_jmp, i_push, msk, lset1, lset2, clr, Value.category, Option.toList, List.cons_append, List.nil_append, List.length_cons, List.length_nil, hN, cxk_1 hB q0, cxe_1 hB q1]
    | some n1 =>
      rw [h1] at q1
      simp only [tst, Option.isSome, if_true] at q1
      obtain ⟨l1, e1⟩ := rng_some (by omega) h1
      subst e1
      have q2 := needWhat_sp hg1 hB hr x2 (n := 1) (y := 1) rfl (by decide)
      cases h2 : rng x2 (1 + 1) with
      | none =>
        rw [h2] at q2
        simp only [tst, Option.isSome, Bool.false_eq_true, if_false] at q2
        refine CQ.no hE hI ?_
        simp [fX10_gets, kX10_gets, ent, entp, jX10_gets, bX10_gets_0, bX10_gets_1, i_aload, i_getf, i_ifne, i_iload, i_ireturn, i_jmp, i_push, msk, lset1, lset2, clr, Value.category, Option.toList, List.cons_append, List.nil_append, List.length_cons, List.length_nil, hN, cxk_1 hB q0, cxk_1 hB q1, cxe_2 hB q2]
      | some n2 =>
        rw [h2] at q2
        simp only [tst, Option.isSome, if_true] at q2
        obtain ⟨l2, e2⟩ := rng_some (by omega) h2
        subst e2
        refine CQ.ok hI ?_
        have q8 := coinOf_sp hd hG l0 (h := n1) (by omega)
        have q9 := worthOf_sp hg1 hd hD hG l0 (h := n1) (by omega)
        have : n2 = 0 ∨ n2 = 1 := by omega
        rcases this with z | z <;> subst z
        · rw [nI_0] at q2
          simp [fX10_gets, kX10_gets, ent, entp, jX10_gets, bX10_gets_0, bX10_gets_1, i_aload, i_getf, i_ifne, i_iload, i_ireturn, i_jmp, i_push, msk, lset1, lset2, clr, Value.category, Option.toList, List.cons_append, List.nil_append, List.length_cons, List.length_nil, hN, cxk_1 hB q0, cxk_1 hB q1, cxk_2 hB q2, gf_eq hB, nI_0, cvk_2 hT q8]
        · simp [fX10_gets, kX10_gets, ent, entp, jX10_gets, bX10_gets_0, bX10_gets_1, i_aload, i_getf, i_ifne, i_iload, i_ireturn, i_jmp, i_push, msk, lset1, lset2, clr, Value.category, Option.toList, List.cons_append, List.nil_append, List.length_cons, List.length_nil, hN, cxk_1 hB q0, cxk_1 hB q1, cxk_2 hB q2, gf_eq hB, (show ¬ nI 1 = 0 from by decide), cvk_2 hT q9]
theorem gets_r {g : GE} {w : Mem} {M fed kept : Nat} {fp : Int32} {tp : Nat → Int32} {rf : Nat → Nat} {δ : DE} {τ : TE} {im : Nat → TE} {x : Nat → Int32} (hg : FU g) (hd : WF δ) (hI : RI w M fed kept fp tp rf δ τ im x) (x0 x1 x2 : Int32) : RQo w M fed kept fp tp rf δ τ im (fX11_gets g [.ref M, .int x0, .int x1, .int x2] w) (getsO δ x0 x1 x2) := by
  obtain ⟨w0, hw0, I0, F0⟩ := hI.t0
  obtain ⟨b1, b2, b3, b4, b5, b6, b7, b8⟩ := id hd.1
  obtain ⟨hO, hXO, hRK, hRZ, hrf⟩ := id I0
  obtain ⟨x1', x3', x27, x32, x33, x34⟩ := id hXO
  obtain ⟨hTp, hD, hR, hCp, hHb, hKp, hRP⟩ := id hRK
  have hn := nR_le hd
  have x0' : (va_up x 0 0) 0 = 0 := va_up_self _ _ _
  obtain ⟨N, hN⟩ : ∃ N, g.1 = N + 16 := ⟨g.1 - 16, by omega⟩
  unfold getsO
  have q0 := isReading_sp hg hO x27 hn x0
  cases h0 : rng x0 (nR δ) with
  | none =>
    rw [h0] at q0
    simp only [bI, Option.isSome, Bool.false_eq_true, if_false] at q0
    obtain ⟨w1, p1, p2, p3⟩ := bad1_sp hg I0 x0' (c := 1) (r := 0) (C := 1) (R := 0) rfl rfl (by decide) (by decide)
    refine RQo.no (v := .int 0) F0 p2 ?_ p3
    simp [fX11_gets, kX11_gets, ent, entp, jX11_gets, bX11_gets_0, bX11_gets_1, bX11_gets_2, bX11_gets_3, bX11_gets_4, bX11_gets_5, i_aload, i_ifeq, i_ifne, i_iload, i_ireturn, i_jmp, i_push, i_putf, msk, lset1, lset2, clr, Value.category, Option.toList, List.cons_append, List.nil_append, List.length_cons, List.length_nil, hN, st_0 hI.1, hw0, cvk_1 hO q0, cvk_3 hO p1]
  | some n0 =>
    rw [h0] at q0
    simp only [bI, Option.isSome, if_true] at q0
    obtain ⟨l0, e0⟩ := rng_some (by omega) h0
    subst e0
    have q1 := isHeir_sp hg hO hD b1 x1
    cases h1 : rng x1 (δ.1 0) with
    | none =>
      rw [h1] at q1
      simp only [bI, Option.isSome, Bool.false_eq_true, if_false] at q1
      obtain ⟨w1, p1, p2, p3⟩ := bad1_sp hg I0 x0' (c := 1) (r := 0) (C := 1) (R := 0) rfl rfl (by decide) (by decide)
      refine RQo.no (v := .int 0) F0 p2 ?_ p3
      simp [fX11_gets, kX11_gets, ent, entp, jX11_gets, bX11_gets_0, bX11_gets_1, bX11_gets_2, bX11_gets_3, bX11_gets_4, bX11_gets_5, i_aload, i_ifeq, i_ifne, i_iload, i_ireturn, i_jmp, i_push, i_putf, msk, lset1, lset2, clr, Value.category, Option.toList, List.cons_append, List.nil_append, List.length_cons, List.length_nil, hN, st_0 hI.1, hw0, cvk_1 hO q0, cvk_1 hO q1, cvk_3 hO p1]
    | some n1 =>
      rw [h1] at q1
      simp only [bI, Option.isSome, if_true] at q1
      obtain ⟨l1, e1⟩ := rng_some (by omega) h1
      subst e1
      have q2 := in_sp (w := w0) hg x2 (n := 1 + 1) (y := 1) (by decide) (by decide)
      cases h2 : rng x2 (1 + 1) with
      | none =>
        rw [h2] at q2
        simp only [bI, Option.isSome, Bool.false_eq_true, if_false] at q2
        obtain ⟨w1, p1, p2, p3⟩ := bad1_sp hg I0 x0' (c := 2) (r := 2) (C := 2) (R := 2) rfl rfl (by decide) (by decide)
        refine RQo.no (v := .int 0) F0 p2 ?_ p3
        simp [fX11_gets, kX11_gets, ent, entp, jX11_gets, bX11_gets_0, bX11_gets_1, bX11_gets_2, bX11_gets_3, bX11_gets_4, bX11_gets_5, i_aload, i_ifeq, i_ifne, i_iload, i_ireturn, i_jmp, i_push, i_putf, msk, lset1, lset2, clr, Value.category, Option.toList, List.cons_append, List.nil_append, List.length_cons, List.length_nil, hN, st_0 hI.1, hw0, cvk_1 hO q0, cvk_1 hO q1, cvk_3 hO (bad0_sp hg hO x0' 1 0), csk_3 q2, cvk_3 hO p1]
      | some n2 =>
        rw [h2] at q2
        simp only [bI, Option.isSome, if_true] at q2
        obtain ⟨l2, e2⟩ := rng_some (by omega) h2
        subst e2
        refine RQo.ok F0 I0 x0' ?_ (Fr.rf _ _)
        have q8 := rcoinBy_sp (g := g) hd hO hR l0 (h := n1) (by omega)
        have q9 := rworthBy_sp hg hd hO hD hR l0 (h := n1) (by omega)
        have : n2 = 0 ∨ n2 = 1 := by omega
        rcases this with z | z <;> subst z
        · rw [nI_0] at q2
          simp [fX11_gets, kX11_gets, ent, entp, jX11_gets, bX11_gets_0, bX11_gets_1, bX11_gets_2, bX11_gets_3, bX11_gets_4, bX11_gets_5, i_aload, i_ifeq, i_ifne, i_iload, i_ireturn, i_jmp, i_push, i_putf, msk, lset1, lset2, clr, Value.category, Option.toList, List.cons_append, List.nil_append, List.length_cons, List.length_nil, hN, st_0 hI.1, hw0, cvk_1 hO q0, cvk_1 hO q1, cvk_3 hO (bad0_sp hg hO x0' 1 0), csk_3 q2, cvk_3 hO (bad0_sp hg hO x0' 2 2), nI_0, cvk_2 hO q8]
        · simp [fX11_gets, kX11_gets, ent, entp, jX11_gets, bX11_gets_0, bX11_gets_1, bX11_gets_2, bX11_gets_3, bX11_gets_4, bX11_gets_5, i_aload, i_ifeq, i_ifne, i_iload, i_ireturn, i_jmp, i_push, i_putf, msk, lset1, lset2, clr, Value.category, Option.toList, List.cons_append, List.nil_append, List.length_cons, List.length_nil, hN, st_0 hI.1, hw0, cvk_1 hO q0, cvk_1 hO q1, cvk_3 hO (bad0_sp hg hO x0' 1 0), csk_3 q2, cvk_3 hO (bad0_sp hg hO x0' 2 2), (show ¬ nI 1 = 0 from by decide), cvk_2 hO q9]
def goesO (δ : DE) (x0 x1 : Int32) : OUT := 
  match rng x0 (nR δ) with
  | none => .inr (1, 0)
  | some n0 =>
    match rng x1 (δ.1 1) with
    | none => .inr (1, 0)
    | some n1 =>
      .inl (.int (nI (owR δ n0 n1) - 1))
theorem goes_c {g : GE} {w : Mem} {B E fed kept : Nat} {fp : Int32} {tp : Nat → Int32} {rf : Nat → Nat} {δ : DE} {τ : TE} {im : Nat → TE} {lev nG : Nat} (hg : GD g) (hE : B + 132 ≤ E) (hI : CI g w B E fed kept fp tp rf δ τ im lev nG) (x0 x1 : Int32) : CQ g w B E fed kept fp tp rf δ τ im lev nG (fX10_goes g [.ref B, .int x0, .int x1] w) (goesO δ x0 x1) := by
  have hg1 := hg.1
  obtain ⟨D, D', hCC, hCT, hCN, hCL, hCM⟩ := id hI
  obtain ⟨hDD, hB, hTp, hD, hD', hSc, hr, hd, hfd, hkp⟩ := id hCC
  obtain ⟨aM, aS, aG, n1', hG, hX⟩ := id hCT
  obtain ⟨b1, b2, b3, b4, b5, b6, b7, b8⟩ := id hd.1
  have hT := hG.tb
  have hn := nR_le hd
  obtain ⟨N, hN⟩ : ∃ N, g.1 = N + 12 := ⟨g.1 - 12, by omega⟩
  unfold goesO
  have q0 := needReading_sp hg1 hB hr hT (by omega) x0
  cases h0 : rng x0 (nR δ) with
  | none =>
    rw [h0] at q0
    simp only [tst, Option.isSome, Bool.false_eq_true, if_false] at q0
    refine CQ.no hE hI ?_
    simp [fX10_goes, kX10_goes, ent, entp, bX10_goes_0, i_aload, i_getf, i_iload, i_ireturn, msk, lset1, lset2, clr, Value.category, Option.toList, List.cons_append, List.nil_append, List.length_cons, List.length_nil, hN, cxe_1 hB q0]
  | some n0 =>
    rw [h0] at q0
    simp only [tst, Option.isSome, if_true] at q0
    obtain ⟨l0, e0⟩ := rng_some (by omega) h0
    subst e0
    have q1 := needThing_sp hg1 hB hr hD b2 x1
    cases h1 : rng x1 (δ.1 1) with
    | none =>
      rw [h1] at q1
      simp only [tst, Option.isSome, Bool.false_eq_true, if_false] at q1
      refine CQ.no hE hI ?_
      simp [fX10_goes, kX10_goes, ent, entp, bX10_goes_0, i_aload, i_getf, i_iload, i_ireturn, msk, lset1, lset2, clr, Value.category, Option.toList, List.cons_append, List.nil_append, List.length_cons, List.length_nil, hN, cxk_1 hB q0, cxe_1 hB q1]
    | some n1 =>
      rw [h1] at q1
      simp only [tst, Option.isSome, if_true] at q1
      obtain ⟨l1, e1⟩ := rng_some (by omega) h1
      subst e1
      refine CQ.ok hI ?_
      have q9 := ownerOf_sp hd hG l0 (t := n1) (by omega)
      simp [fX10_goes, kX10_goes, ent, entp, bX10_goes_0, i_aload, i_getf, i_iload, i_ireturn, msk, lset1, lset2, clr, Value.category, Option.toList, List.cons_append, List.nil_append, List.length_cons, List.length_nil, hN, cxk_1 hB q0, cxk_1 hB q1, gf_eq hB, cvk_2 hT q9]
theorem goes_r {g : GE} {w : Mem} {M fed kept : Nat} {fp : Int32} {tp : Nat → Int32} {rf : Nat → Nat} {δ : DE} {τ : TE} {im : Nat → TE} {x : Nat → Int32} (hg : FU g) (hd : WF δ) (hI : RI w M fed kept fp tp rf δ τ im x) (x0 x1 : Int32) : RQo w M fed kept fp tp rf δ τ im (fX11_goes g [.ref M, .int x0, .int x1] w) (goesO δ x0 x1) := by
  obtain ⟨w0, hw0, I0, F0⟩ := hI.t0
  obtain ⟨b1, b2, b3, b4, b5, b6, b7, b8⟩ := id hd.1
  obtain ⟨hO, hXO, hRK, hRZ, hrf⟩ := id I0
  obtain ⟨x1', x3', x27, x32, x33, x34⟩ := id hXO
  obtain ⟨hTp, hD, hR, hCp, hHb, hKp, hRP⟩ := id hRK
  have hn := nR_le hd
  have x0' : (va_up x 0 0) 0 = 0 := va_up_self _ _ _
  obtain ⟨N, hN⟩ : ∃ N, g.1 = N + 16 := ⟨g.1 - 16, by omega⟩
  unfold goesO
  have q0 := isReading_sp hg hO x27 hn x0
  cases h0 : rng x0 (nR δ) with
  | none =>
    rw [h0] at q0
    simp only [bI, Option.isSome, Bool.false_eq_true, if_false] at q0
    obtain ⟨w1, p1, p2, p3⟩ := bad1_sp hg I0 x0' (c := 1) (r := 0) (C := 1) (R := 0) rfl rfl (by decide) (by decide)
    refine RQo.no (v := .int 0) F0 p2 ?_ p3
    simp [fX11_goes, kX11_goes, ent, entp, jX11_goes, bX11_goes_0, bX11_goes_1, bX11_goes_2, i_aload, i_ifeq, i_ifne, i_iload, i_ireturn, i_jmp, i_push, i_putf, msk, lset1, lset2, clr, Value.category, Option.toList, List.cons_append, List.nil_append, List.length_cons, List.length_nil, hN, st_0 hI.1, hw0, cvk_1 hO q0, cvk_3 hO p1]
  | some n0 =>
    rw [h0] at q0
    simp only [bI, Option.isSome, if_true] at q0
    obtain ⟨l0, e0⟩ := rng_some (by omega) h0
    subst e0
    have q1 := isThing_sp hg hO hD b2 x1
    cases h1 : rng x1 (δ.1 1) with
    | none =>
      rw [h1] at q1
      simp only [bI, Option.isSome, Bool.false_eq_true, if_false] at q1
      obtain ⟨w1, p1, p2, p3⟩ := bad1_sp hg I0 x0' (c := 1) (r := 0) (C := 1) (R := 0) rfl rfl (by decide) (by decide)
      refine RQo.no (v := .int 0) F0 p2 ?_ p3
      simp [fX11_goes, kX11_goes, ent, entp, jX11_goes, bX11_goes_0, bX11_goes_1, bX11_goes_2, i_aload, i_ifeq, i_ifne, i_iload, i_ireturn, i_jmp, i_push, i_putf, msk, lset1, lset2, clr, Value.category, Option.toList, List.cons_append, List.nil_append, List.length_cons, List.length_nil, hN, st_0 hI.1, hw0, cvk_1 hO q0, cvk_1 hO q1, cvk_3 hO p1]
    | some n1 =>
      rw [h1] at q1
      simp only [bI, Option.isSome, if_true] at q1
      obtain ⟨l1, e1⟩ := rng_some (by omega) h1
      subst e1
      refine RQo.ok F0 I0 x0' ?_ (Fr.rf _ _)
      have q9 := rgoesBy_sp (g := g) hd hO hR l0 (t := n1) (by omega)
      simp [fX11_goes, kX11_goes, ent, entp, jX11_goes, bX11_goes_0, bX11_goes_1, bX11_goes_2, i_aload, i_ifeq, i_ifne, i_iload, i_ireturn, i_jmp, i_push, i_putf, msk, lset1, lset2, clr, Value.category, Option.toList, List.cons_append, List.nil_append, List.length_cons, List.length_nil, hN, st_0 hI.1, hw0, cvk_1 hO q0, cvk_1 hO q1, cvk_3 hO (bad0_sp hg hO x0' 1 0), cvk_2 hO q9]
def sureO (δ : DE) (x0 x1 : Int32) : OUT := 
  match rng x0 (δ.1 1) with
  | none => .inr (1, 0)
  | some n0 =>
    match rng x1 (δ.1 0) with
    | none => .inr (1, 0)
    | some n1 =>
      .inl (.int (bI (decide (0 < nR δ ∧ oftK δ n0 n1 = nR δ))))
theorem sure_c {g : GE} {w : Mem} {B E fed kept : Nat} {fp : Int32} {tp : Nat → Int32} {rf : Nat → Nat} {δ : DE} {τ : TE} {im : Nat → TE} {lev nG : Nat} (hg : GD g) (hE : B + 132 ≤ E) (hI : CI g w B E fed kept fp tp rf δ τ im lev nG) (x0 x1 : Int32) : CQ g w B E fed kept fp tp rf δ τ im lev nG (fX10_sure g [.ref B, .int x0, .int x1] w) (sureO δ x0 x1) := by
  have hg1 := hg.1
  obtain ⟨D, D', hCC, hCT, hCN, hCL, hCM⟩ := id hI
  obtain ⟨hDD, hB, hTp, hD, hD', hSc, hr, hd, hfd, hkp⟩ := id hCC
  obtain ⟨aM, aS, aG, n1', hG, hX⟩ := id hCT
  obtain ⟨b1, b2, b3, b4, b5, b6, b7, b8⟩ := id hd.1
  have hT := hG.tb
  have hn := nR_le hd
  obtain ⟨N, hN⟩ : ∃ N, g.1 = N + 12 := ⟨g.1 - 12, by omega⟩
  unfold sureO
  have q0 := needThing_sp hg1 hB hr hD b2 x0
  cases h0 : rng x0 (δ.1 1) with
  | none =>
    rw [h0] at q0
    simp only [tst, Option.isSome, Bool.false_eq_true, if_false] at q0
    refine CQ.no hE hI ?_
    simp [fX10_sure, kX10_sure, ent, entp, jX10_sure, bX10_sure_0, bX10_sure_1, bX10_sure_2, i_aload, i_getf, i_icne, i_ifle, i_iload, i_jmp, i_push, i_zreturn, msk, lset1, lset2, clr, Value.category, Option.toList, List.cons_append, List.nil_append, List.length_cons, List.length_nil, hN, cxe_1 hB q0]
  | some n0 =>
    rw [h0] at q0
    simp only [tst, Option.isSome, if_true] at q0
    obtain ⟨l0, e0⟩ := rng_some (by omega) h0
    subst e0
    have q1 := needHeir_sp hg1 hB hr hD b1 x1
    cases h1 : rng x1 (δ.1 0) with
    | none =>
      rw [h1] at q1
      simp only [tst, Option.isSome, Bool.false_eq_true, if_false] at q1
      refine CQ.no hE hI ?_
      simp [fX10_sure, kX10_sure, ent, entp, jX10_sure, bX10_sure_0, bX10_sure_1, bX10_sure_2, i_aload, i_getf, i_icne, i_ifle, i_iload, i_jmp, i_push, i_zreturn, msk, lset1, lset2, clr, Value.category, Option.toList, List.cons_append, List.nil_append, List.length_cons, List.length_nil, hN, cxk_1 hB q0, cxe_1 hB q1]
    | some n1 =>
      rw [h1] at q1
      simp only [tst, Option.isSome, if_true] at q1
      obtain ⟨l1, e1⟩ := rng_some (by omega) h1
      subst e1
      refine CQ.ok hI ?_
      have q9 := timesOwned_sp hg1 hd hG (t := n0) (h := n1) (by omega) (by omega)
      have lo : oftK δ n0 n1 ≤ nR δ := cntF_le _ _
      by_cases z : 0 < nR δ
      · have z1 := nI_nle z (by omega)
        have m := nI_eq (a := oftK δ n0 n1) (b := nR δ) (by omega) (by omega)
        by_cases y : oftK δ n0 n1 = nR δ
        · simp [fX10_sure, kX10_sure, ent, entp, jX10_sure, bX10_sure_0, bX10_sure_1, bX10_sure_2, i_aload, i_getf, i_icne, i_ifle, i_iload, i_jmp, i_push, i_zreturn, msk, lset1, lset2, clr, Value.category, Option.toList, List.cons_append, List.nil_append, List.length_cons, List.length_nil, hN, cxk_1 hB q0, cxk_1 hB q1, gf_eq hB, gf_eq hT, z1, cvk_2 hT q9, y, z, bI]
        · simp [fX10_sure, kX10_sure, ent, entp, jX10_sure, bX10_sure_0, bX10_sure_1, bX10_sure_2, i_aload, i_getf, i_icne, i_ifle, i_iload, i_jmp, i_push, i_zreturn, msk, lset1, lset2, clr, Value.category, Option.toList, List.cons_append, List.nil_append, List.length_cons, List.length_nil, hN, cxk_1 hB q0, cxk_1 hB q1, gf_eq hB, gf_eq hT, z1, cvk_2 hT q9, mt m.mp y, y, bI]
      · have z0 : nR δ = 0 := by omega
        rw [z0] at hT
        simp [fX10_sure, kX10_sure, ent, entp, jX10_sure, bX10_sure_0, bX10_sure_1, bX10_sure_2, i_aload, i_getf, i_icne, i_ifle, i_iload, i_jmp, i_push, i_zreturn, msk, lset1, lset2, clr, Value.category, Option.toList, List.cons_append, List.nil_append, List.length_cons, List.length_nil, hN, cxk_1 hB q0, cxk_1 hB q1, gf_eq hB, gf_eq hT, nI_0, z, bI]
theorem sure_r {g : GE} {w : Mem} {M fed kept : Nat} {fp : Int32} {tp : Nat → Int32} {rf : Nat → Nat} {δ : DE} {τ : TE} {im : Nat → TE} {x : Nat → Int32} (hg : FU g) (hd : WF δ) (hI : RI w M fed kept fp tp rf δ τ im x) (x0 x1 : Int32) : RQo w M fed kept fp tp rf δ τ im (fX11_sure g [.ref M, .int x0, .int x1] w) (sureO δ x0 x1) := by
  obtain ⟨w0, hw0, I0, F0⟩ := hI.t0
  obtain ⟨b1, b2, b3, b4, b5, b6, b7, b8⟩ := id hd.1
  obtain ⟨hO, hXO, hRK, hRZ, hrf⟩ := id I0
  obtain ⟨x1', x3', x27, x32, x33, x34⟩ := id hXO
  obtain ⟨hTp, hD, hR, hCp, hHb, hKp, hRP⟩ := id hRK
  have hn := nR_le hd
  have x0' : (va_up x 0 0) 0 = 0 := va_up_self _ _ _
  obtain ⟨N, hN⟩ : ∃ N, g.1 = N + 16 := ⟨g.1 - 16, by omega⟩
  unfold sureO
  have q0 := isThing_sp hg hO hD b2 x0
  cases h0 : rng x0 (δ.1 1) with
  | none =>
    rw [h0] at q0
    simp only [bI, Option.isSome, Bool.false_eq_true, if_false] at q0
    obtain ⟨w1, p1, p2, p3⟩ := bad1_sp hg I0 x0' (c := 1) (r := 0) (C := 1) (R := 0) rfl rfl (by decide) (by decide)
    refine RQo.no (v := .int 0) F0 p2 ?_ p3
    simp [fX11_sure, kX11_sure, ent, entp, jX11_sure, bX11_sure_0, bX11_sure_1, bX11_sure_2, bX11_sure_3, bX11_sure_4, i_aload, i_getf, i_icne, i_ifeq, i_ifle, i_ifne, i_iload, i_jmp, i_push, i_putf, i_zreturn, msk, lset1, lset2, clr, Value.category, Option.toList, List.cons_append, List.nil_append, List.length_cons, List.length_nil, hN, st_0 hI.1, hw0, cvk_1 hO q0, cvk_3 hO p1]
  | some n0 =>
    rw [h0] at q0
    simp only [bI, Option.isSome, if_true] at q0
    obtain ⟨l0, e0⟩ := rng_some (by omega) h0
    subst e0
    have q1 := isHeir_sp hg hO hD b1 x1
    cases h1 : rng x1 (δ.1 0) with
    | none =>
      rw [h1] at q1
      simp only [bI, Option.isSome, Bool.false_eq_true, if_false] at q1
      obtain ⟨w1, p1, p2, p3⟩ := bad1_sp hg I0 x0' (c := 1) (r := 0) (C := 1) (R := 0) rfl rfl (by decide) (by decide)
      refine RQo.no (v := .int 0) F0 p2 ?_ p3
      simp [fX11_sure, kX11_sure, ent, entp, jX11_sure, bX11_sure_0, bX11_sure_1, bX11_sure_2, bX11_sure_3, bX11_sure_4, i_aload, i_getf, i_icne, i_ifeq, i_ifle, i_ifne, i_iload, i_jmp, i_push, i_putf, i_zreturn, msk, lset1, lset2, clr, Value.category, Option.toList, List.cons_append, List.nil_append, List.length_cons, List.length_nil, hN, st_0 hI.1, hw0, cvk_1 hO q0, cvk_1 hO q1, cvk_3 hO p1]
    | some n1 =>
      rw [h1] at q1
      simp only [bI, Option.isSome, if_true] at q1
      obtain ⟨l1, e1⟩ := rng_some (by omega) h1
      subst e1
      refine RQo.ok F0 I0 x0' ?_ (Fr.rf _ _)
      have q9 := oftenBy_sp hg hd hO x27 hR (t := n0) (h := n1) (by omega) (by omega)
      have lo : oftK δ n0 n1 ≤ nR δ := cntF_le _ _
      by_cases z : 0 < nR δ
      · have z1 := nI_nle z (by omega)
        have m := nI_eq (a := oftK δ n0 n1) (b := nR δ) (by omega) (by omega)
        by_cases y : oftK δ n0 n1 = nR δ
        · simp [fX11_sure, kX11_sure, ent, entp, jX11_sure, bX11_sure_0, bX11_sure_1, bX11_sure_2, bX11_sure_3, bX11_sure_4, i_aload, i_getf, i_icne, i_ifeq, i_ifle, i_ifne, i_iload, i_jmp, i_push, i_putf, i_zreturn, msk, lset1, lset2, clr, Value.category, Option.toList, List.cons_append, List.nil_append, List.length_cons, List.length_nil, hN, st_0 hI.1, hw0, cvk_1 hO q0, cvk_1 hO q1, cvk_3 hO (bad0_sp hg hO x0' 1 0), gf_eq hO, mg_27, x27, z1, cvk_2 hO q9, y, z, bI]
        · simp [fX11_sure, kX11_sure, ent, entp, jX11_sure, bX11_sure_0, bX11_sure_1, bX11_sure_2, bX11_sure_3, bX11_sure_4, i_aload, i_getf, i_icne, i_ifeq, i_ifle, i_ifne, i_iload, i_jmp, i_push, i_putf, i_zreturn, msk, lset1, lset2, clr, Value.category, Option.toList, List.cons_append, List.nil_append, List.length_cons, List.length_nil, hN, st_0 hI.1, hw0, cvk_1 hO q0, cvk_1 hO q1, cvk_3 hO (bad0_sp hg hO x0' 1 0), gf_eq hO, mg_27, x27, z1, cvk_2 hO q9, mt m.mp y, y, bI]
      · have z0 : nI (nR δ) ≤ 0 := by rw [show nR δ = 0 by omega]; decide
        simp [fX11_sure, kX11_sure, ent, entp, jX11_sure, bX11_sure_0, bX11_sure_1, bX11_sure_2, bX11_sure_3, bX11_sure_4, i_aload, i_getf, i_icne, i_ifeq, i_ifle, i_ifne, i_iload, i_jmp, i_push, i_putf, i_zreturn, msk, lset1, lset2, clr, Value.category, Option.toList, List.cons_append, List.nil_append, List.length_cons, List.length_nil, hN, st_0 hI.1, hw0, cvk_1 hO q0, cvk_1 hO q1, cvk_3 hO (bad0_sp hg hO x0' 1 0), gf_eq hO, mg_27, x27, z0, z, bI]
