/-! ===== image, restore, feed ===== -/
def imageR (kept : Nat) (τ : TE) (im : Nat → TE) : OUT × Nat × (Nat → TE) := if kept = 3 then (.inl (.int (-1)), kept, im) else (.inl (.int (nI (kept + 1))), kept + 1, va_up im kept τ)
def restoreR (kept : Nat) (τ : TE) (im : Nat → TE) : OUT × Nat × TE := if kept = 0 then (.inl (.int (-1)), kept, τ) else (.inl (.int (nI (kept - 1))), kept - 1, im (kept - 1))
theorem image_c {g : GE} {w : Mem} {B E fed kept : Nat} {fp : Int32} {tp : Nat → Int32} {rf : Nat → Nat} {δ : DE} {τ : TE} {im : Nat → TE} {lev nG : Nat} (hg : GD g) (hE : B + 132 ≤ E) (hI : CI g w B E fed kept fp tp rf δ τ im lev nG) : CZ g w B E (fed, kept, fp, tp, rf, δ, τ, im) lev nG (fX10_image g [.ref B] w) (imageR kept τ im).1 (fed, (imageR kept τ im).2.1, fp, tp, rfb rf (imageR kept τ im).1, δ, τ, (imageR kept τ im).2.2) := by
  have hg1 := hg.1
  obtain ⟨D, D', hCC, hCT, hCN, hCL, hCM⟩ := id hI
  obtain ⟨hDD, hB, hTp, hD, hD', hSc, hr, hd, hfd, hkp⟩ := id hCC
  obtain ⟨b1, b2, b3, b4, b5, b6, b7, b8⟩ := id hd.1
  obtain ⟨hM1, hM2, hM3⟩ := id hCM
  unfold imageR
  by_cases z : kept = 3
  · simp only [z, if_true]
    have hB9 := hB
    rw [z] at hB9 hI
    refine CZ.of (CQ.ok hI ?_)
    simp [fX10_image, kX10_image, ent, entp, bX10_image_0, i_aaload, i_aload, i_dup, i_getf, i_iadd, i_iclt, i_ireturn, i_push, i_putf, msk, lset1, lset2, clr, Value.category, Option.toList, List.cons_append, List.nil_append, List.length_cons, List.length_nil, gf_eq hB9, (show ¬ nI 3 < 3 from by decide)]
  · simp only [z, if_false]
    have lk : kept < 3 := by omega
    have e3 : nI kept < 3 := nI_lt (b := 3) lk (by decide)
    obtain ⟨w', q1, q2, q3⟩ := takeFrom_sp (g := g) (hM3 kept lk) hM1 (by omega)
    have I1 := hI.te (im' := va_up im kept τ) hE (q3.mn fun a ha => by unfold rg at *; omega) ⟨hM1.fr q3 (fun j hj => by unfold rg; omega), hM2.fr q3 (by unfold rg; omega), fun i hi => by
      by_cases y : i = kept
      · subst y
        rw [va_up_self]
        exact q2
      · rw [va_up_ne _ _ y]
        exact (hM3 i hi).fr q3 (fun j hj => by unfold rg; omega)⟩
    have hB1 : BD w' B D D' fed kept fp := q3.at hB (by unfold rg; omega)
    obtain ⟨w2, hw2⟩ : ∃ q, mset w' B (.inr (9, [.ref (B + 1), .int (nI fed), .ref (B + 72), .ref D, .ref D', .ref (B + 73), .ref (B + 87), .ref (B + 95), .ref (B + 98), .ref (B + 106), .int (nI (kept + 1)), .int fp, .ref (B + 131)])) = q := ⟨_, rfl⟩
    have hB2 : BD w2 B D D' fed (kept + 1) fp := hw2 ▸ ms_at _ _ _
    have F2 : Fr (fun a => a = B) w' w2 := hw2 ▸ Fr.ms _ _ rfl
    have I2 := I1.bd (fed' := fed) (kept' := kept + 1) (fp' := fp) (tp' := tp) hE (F2.mn fun a ha => Or.inl ha) (fun D1 D1' h1 => by
      have e : _ = _ := Option.some.inj (h1.symm.trans hB1)
      simp only [Sum.inr.injEq, Prod.mk.injEq, List.cons.injEq, Value.ref.injEq, true_and, and_true] at e
      rw [e.1, e.2]
      exact hB2) ((hTp.fr q3 (by unfold rg; omega)).fr F2 (by omega)) hfd (by omega)
    refine CZ.okw I2 ?_ ((q3.mn fun a ha => CF.in (by unfold rg at ha; omega)).tr (F2.mn fun a ha => CF.in (by omega)))
    simp [fX10_image, kX10_image, ent, entp, bX10_image_0, i_aaload, i_aload, i_dup, i_getf, i_iadd, i_iclt, i_ireturn, i_push, i_putf, msk, lset1, lset2, clr, Value.category, Option.toList, List.cons_append, List.nil_append, List.length_cons, List.length_nil, gf_eq hB, e3, hM2.rd lk (by decide), va_rf, cvk_1 (hM3 kept lk).1 q1, gf_eq hB1, nI_1, sf_i hB1, hw2, gf_eq hB2]
theorem restore_c {g : GE} {w : Mem} {B E fed kept : Nat} {fp : Int32} {tp : Nat → Int32} {rf : Nat → Nat} {δ : DE} {τ : TE} {im : Nat → TE} {lev nG : Nat} (hg : GD g) (hE : B + 132 ≤ E) (hI : CI g w B E fed kept fp tp rf δ τ im lev nG) : CZ g w B E (fed, kept, fp, tp, rf, δ, τ, im) lev nG (fX10_restore g [.ref B] w) (restoreR kept τ im).1 (fed, (restoreR kept τ im).2.1, fp, tp, rfb rf (restoreR kept τ im).1, δ, (restoreR kept τ im).2.2, im) := by
  have hg1 := hg.1
  obtain ⟨D, D', hCC, hCT, hCN, hCL, hCM⟩ := id hI
  obtain ⟨hDD, hB, hTp, hD, hD', hSc, hr, hd, hfd, hkp⟩ := id hCC
  obtain ⟨b1, b2, b3, b4, b5, b6, b7, b8⟩ := id hd.1
  obtain ⟨hM1, hM2, hM3⟩ := id hCM
  unfold restoreR
  by_cases z : kept = 0
  · simp only [z, if_true]
    have hB9 := hB
    rw [z] at hB9 hI
    refine CZ.of (CQ.ok hI ?_)
    simp [fX10_restore, kX10_restore, ent, entp, bX10_restore_0, i_aaload, i_aload, i_dup, i_getf, i_ifgt, i_ireturn, i_isub, i_push, i_putf, msk, lset1, lset2, clr, Value.category, Option.toList, List.cons_append, List.nil_append, List.length_cons, List.length_nil, gf_eq hB9, (show ¬ 0 < nI 0 from by decide)]
  · simp only [z, if_false]
    obtain ⟨k, rfl⟩ : ∃ k, kept = k + 1 := ⟨kept - 1, by omega⟩
    have e3 : ¬ nI (k + 1) ≤ 0 := nI_nle (by omega) (by omega)
    have e3' : 0 < nI (k + 1) := Int32.not_le.mp e3
    have lk : k < 3 := by omega
    simp only [Nat.add_sub_cancel]
    obtain ⟨w2, hw2⟩ : ∃ q, mset w B (.inr (9, [.ref (B + 1), .int (nI fed), .ref (B + 72), .ref D, .ref D', .ref (B + 73), .ref (B + 87), .ref (B + 95), .ref (B + 98), .ref (B + 106), .int (nI k), .int fp, .ref (B + 131)])) = q := ⟨_, rfl⟩
    have hB2 : BD w2 B D D' fed k fp := hw2 ▸ ms_at _ _ _
    have F2 : Fr (fun a => a = B) w w2 := hw2 ▸ Fr.ms _ _ rfl
    have I2 := hI.bd (fed' := fed) (kept' := k) (fp' := fp) (tp' := tp) hE (F2.mn fun a ha => Or.inl ha) (fun D1 D1' h1 => by
      have e : _ = _ := Option.some.inj (h1.symm.trans hB)
      simp only [Sum.inr.injEq, Prod.mk.injEq, List.cons.injEq, Value.ref.injEq, true_and, and_true] at e
      rw [e.1, e.2]
      exact hB2) (hTp.fr F2 (by omega)) hfd (by omega)
    have m1 := hM1.fr F2 (fun j hj => by omega)
    have m2 := hM2.fr F2 (by omega)
    have m3 : ∀ i, i < 3 → TS w2 (B + 107 + 8 * i) (im i) := fun i hi => (hM3 i hi).fr F2 (fun j hj => by omega)
    obtain ⟨w', q1, q2, q3⟩ := takeFrom_sp (g := g) m1 (m3 k lk) (by omega)
    have I1 := I2.te (τ' := im k) (im' := im) hE (q3.mn fun a ha => by unfold rg at *; omega) ⟨q2, m2.fr q3 (by unfold rg; omega), fun i hi => (m3 i hi).fr q3 (fun j hj => by unfold rg; omega)⟩
    have hB3 : BD w' B D D' fed k fp := q3.at hB2 (by unfold rg; omega)
    refine CZ.okw I1 ?_ ((F2.mn fun a ha => CF.in (by omega)).tr (q3.mn fun a ha => CF.in (by unfold rg at ha; omega)))
    simp [fX10_restore, kX10_restore, ent, entp, bX10_restore_0, i_aaload, i_aload, i_dup, i_getf, i_ifgt, i_ireturn, i_isub, i_push, i_putf, msk, lset1, lset2, clr, Value.category, Option.toList, List.cons_append, List.nil_append, List.length_cons, List.length_nil, gf_eq hB, e3, e3', nI_pred, sf_i hB, hw2, gf_eq hB2, m2.rd lk (by decide), va_rf, cvk_1 m1.1 q1, gf_eq hB3]
def flt (σ : TE) (j : Nat) : Nat := if j = 0 then σ.1 0 else if j = 1 then σ.1 1 else if j < 38 then σ.2 ((j - 2) % 3) ((j - 2) / 3) else σ.2 (3 + (j - 38) % 4) ((j - 38) / 4)
theorem flt_c (σ : TE) {k i : Nat} (hk : k < 12) (hi : i < 3) : flt σ (2 + 3 * k + i) = σ.2 i k := by
  unfold flt
  rw [if_neg (by omega), if_neg (by omega), if_pos (by omega)]
  have e1 : (2 + 3 * k + i - 2) % 3 = i := by omega
  have e2 : (2 + 3 * k + i - 2) / 3 = k := by omega
  rw [e1, e2]
theorem flt_h (σ : TE) {k i : Nat} (hk : k < 8) (hi : i < 4) : flt σ (38 + 4 * k + i) = σ.2 (3 + i) k := by
  unfold flt
  rw [if_neg (by omega), if_neg (by omega), if_neg (by omega)]
  have e1 : (38 + 4 * k + i - 38) % 4 = i := by omega
  have e2 : (38 + 4 * k + i - 38) / 4 = k := by omega
  rw [e1, e2]
theorem KP.of {c : Nat → Int32} {σ : TE} (h : ∀ j, j < 70 → c j = nI (flt σ j)) : KP c σ :=
  ⟨h 0 (by decide), h 1 (by decide), fun k i hk hi => by rw [h _ (by omega), flt_c σ hk hi], fun k i hk hi => by rw [h _ (by omega), flt_h σ hk hi]⟩
theorem KP.to {c : Nat → Int32} {σ : TE} (h : KP c σ) : ∀ j, j < 70 → c j = nI (flt σ j) := by
  obtain ⟨h0, h1, h2, h3⟩ := h
  intro j hj
  by_cases z0 : j = 0
  · subst z0; exact h0
  · by_cases z1 : j = 1
    · subst z1; exact h1
    · by_cases z2 : j < 38
      · obtain ⟨k, i, e, hk, hi⟩ : ∃ k i, j = 2 + 3 * k + i ∧ k < 12 ∧ i < 3 := ⟨(j - 2) / 3, (j - 2) % 3, by omega, by omega, by omega⟩
        subst e
        rw [h2 k i hk hi, flt_c σ hk hi]
      · obtain ⟨k, i, e, hk, hi⟩ : ∃ k i, j = 38 + 4 * k + i ∧ k < 8 ∧ i < 4 := ⟨(j - 38) / 4, (j - 38) % 4, by omega, by omega, by omega⟩
        subst e
        rw [h3 k i hk hi, flt_h σ hk hi]
theorem moves_sp {g : GE} (hg : FU g) {w : Mem} {M a s bk : Nat} {x : Nat → Int32} {c : Nat → Int32} {v r : Int32} (hO : MO w M x) (hx : x 35 = nI s) (hs : s < 70) (hA : IA w a 70 c) (ha : a ≠ M) (hb : (bk = 0 ∧ v = r) ∨ (bk = 1 ∧ c s = r)) :
    ∃ w' c', fX11_moves g [.ref M, .ref a, .int v, .int (nI bk)] w = some (.inl (some (.int r)), w') ∧ MO w' M (va_up x 35 (nI (s + 1))) ∧ IA w' a 70 c' ∧ c' s = r ∧ (∀ j, j ≠ s → c' j = c j) ∧ Fr (fun q => q = M ∨ q = a) w w' := by
  obtain ⟨N, hN⟩ : ∃ N, g.1 = N + 2 := ⟨g.1 - 2, by omega⟩
  have fin : ∀ (w1 : Mem) (c1 : Nat → Int32), MO w1 M x → IA w1 a 70 c1 → c1 s = r → ∃ w', jX11_moves g (N + 1) 1 [] [some (.ref M), some (.ref a), none, none] w1 = some (.inl (some (.int r)), w') ∧ MO w' M (va_up x 35 (nI (s + 1))) ∧ IA w' a 70 c1 ∧ Fr (fun q => q = M) w1 w' := by
    intro w1 c1 o1 a1 e1
    obtain ⟨w2, hw2⟩ : ∃ q, mset w1 M (.inr (10, mo M (va_up x 35 (nI (s + 1))))) = q := ⟨_, rfl⟩
    have o2 : MO w2 M (va_up x 35 (nI (s + 1))) := hw2 ▸ ms_at _ _ _
    have F2 : Fr (fun q => q = M) w1 w2 := hw2 ▸ Fr.ms _ _ rfl
    have a2 := a1.fr F2 ha
    refine ⟨w2, ?_, o2, a2, F2⟩
    simp [jX11_moves, bX11_moves_0, bX11_moves_1, i_aload, i_dup, i_getf, i_iadd, i_iaload, i_iastore, i_ifne, i_iload, i_ireturn, i_isub, i_jmp, i_push, i_putf, msk, lset1, lset2, clr, Value.category, Option.toList, List.cons_append, List.nil_append, List.length_cons, List.length_nil, gf_eq o1, mg_35, hx, nI_1, st_35 o1, hw2, gf_eq o2, va_up_self, nI_pred, a2.rd hs (by decide), e1]
  rcases hb with ⟨q, e⟩ | ⟨q, e⟩ <;> subst q
  · subst e
    obtain ⟨w1, hw1⟩ : ∃ q, wi w 0 a s v = q := ⟨_, rfl⟩
    have F1 : Fr (fun q => q = a) w w1 := hw1 ▸ Fr.wi _ _ _ _ rfl
    have o1 := F1.at hO (fun z => ha z.symm)
    have a1 := hA.up s v
    rw [hw1] at a1
    obtain ⟨w', p1, p2, p3, p4⟩ := fin w1 _ o1 a1 (va_up_self _ _ _)
    refine ⟨w', _, ?_, p2, p3, va_up_self _ _ _, fun j hj => va_up_ne _ _ hj, (F1.mn fun q h => Or.inr h).tr (p4.mn fun q h => Or.inl h)⟩
    rw [← p1]
    simp [fX11_moves, kX11_moves, ent, entp, jX11_moves, bX11_moves_0, bX11_moves_1, i_aload, i_dup, i_getf, i_iadd, i_iaload, i_iastore, i_ifne, i_iload, i_ireturn, i_isub, i_jmp, i_push, i_putf, msk, lset1, lset2, clr, Value.category, Option.toList, List.cons_append, List.nil_append, List.length_cons, List.length_nil, hN, nI_0, gf_eq hO, mg_35, hx, hA.wr hs (by decide), hw1]
  · obtain ⟨w', p1, p2, p3, p4⟩ := fin w c hO hA e
    refine ⟨w', c, ?_, p2, p3, e, fun j hj => rfl, p4.mn fun q h => Or.inl h⟩
    rw [← p1]
    simp [fX11_moves, kX11_moves, ent, entp, jX11_moves, bX11_moves_0, bX11_moves_1, i_aload, i_dup, i_getf, i_iadd, i_iaload, i_iastore, i_ifne, i_iload, i_ireturn, i_isub, i_jmp, i_push, i_putf, msk, lset1, lset2, clr, Value.category, Option.toList, List.cons_append, List.nil_append, List.length_cons, List.length_nil, hN, (show ¬ nI 1 = 0 from by decide)]
/-- on the way: s of the 70 numbers are moved -/
def MI (w : Mem) (M a bk : Nat) (σ : TE) (x : Nat → Int32) (w' : Mem) (s : Nat) : Prop :=
  ∃ x' c cc hh, MO w' M x' ∧ x' 35 = nI s ∧ (∀ j, j ≠ 35 → j ≠ 32 → j ≠ 33 → x' j = x j) ∧ x' 32 = nI (σ.1 0) ∧ x' 33 = nI (σ.1 1) ∧ IA w' a 70 c ∧ (∀ j, j < s → c j = nI (flt σ j)) ∧ (bk = 1 → ∀ j, j < 70 → c j = nI (flt σ j))
    ∧ GRD w' (M + 146) 12 3 cc ∧ (∀ k i, k < 12 → i < 3 → 2 + 3 * k + i < s ∨ bk = 0 → cc k i = nI (σ.2 i k))
    ∧ GRD w' (M + 159) 8 4 hh ∧ (∀ k i, k < 8 → i < 4 → 38 + 4 * k + i < s ∨ bk = 0 → hh k i = nI (σ.2 (3 + i) k)) ∧ Fr (fun q => q = M ∨ q = a ∨ rg (M + 146) (M + 168) q) w w'
theorem mvC {g : GE} (hg : FU g) {w w1 : Mem} {M a bk : Nat} {σ : TE} {x : Nat → Int32} (hb : bk = 0 ∨ bk = 1) (ha : rg (M + 169) (M + 172) a) {k i f : Nat} (hk : k < 12) (hi : i < 3) (h : MI w M a bk σ x w1 (2 + 3 * k + i)) :
    ∃ w2, jX11_movesAll g (f + 1) 2 [] [some (.ref M), some (.ref a), some (.int (nI bk)), some (.int (nI k)), some (.int (nI i))] w1 = jX11_movesAll g f 2 [] [some (.ref M), some (.ref a), some (.int (nI bk)), some (.int (nI k)), some (.int (nI (i + 1)))] w2 ∧ MI w M a bk σ x w2 (2 + 3 * k + i + 1) := by
  obtain ⟨x1, c, cc, hh, h1, h2, h3, h4, h5, h6, h7, h8, h9, h10, h11, h12, h13⟩ := h
  have ha' : M + 169 ≤ a ∧ a < M + 172 := ha
  obtain ⟨w2, c2, q1, q2, q3, q4, q5, q6⟩ := moves_sp hg (bk := bk) (v := cc k i) (r := nI (flt σ (2 + 3 * k + i))) h1 h2 (by omega) h6 (by omega) (by
    rcases hb with q | q
    · exact Or.inl ⟨q, by rw [h10 k i hk hi (Or.inr q), flt_c σ hk hi]⟩
    · exact Or.inr ⟨q, h8 q _ (by omega)⟩)
  have g2 := h9.fr q6 (fun j hj => by omega)
  have e2 := h11.fr q6 (fun j hj => by omega)
  have g3 := g2.up (i := k) i (nI (flt σ (2 + 3 * k + i)))
  obtain ⟨w3, hw3⟩ : ∃ q, wi w2 0 (M + 146 + 1 + k) i (nI (flt σ (2 + 3 * k + i))) = q := ⟨_, rfl⟩
  rw [hw3] at g3
  have F3 : Fr (fun q => q = M + 146 + 1 + k) w2 w3 := hw3 ▸ Fr.wi _ _ _ _ rfl
  have ei : ¬ (3 : Int32) ≤ nI i := nI_ge hi (by decide)
  refine ⟨w3, ?_, va_up x1 35 (nI (2 + 3 * k + i + 1)), c2, _, _, F3.at q2 (by omega), va_up_self _ _ _, fun j z1 z2 z3 => by rw [va_up_ne _ _ z1]; exact h3 j z1 z2 z3, by rw [va_up_ne _ _ (by decide)]; exact h4, by rw [va_up_ne _ _ (by decide)]; exact h5, q3.fr F3 (by omega), fun j hj => ?_, fun z j hj => ?_, g3, fun k' i' hk' hi' hs => ?_, e2.fr F3 (fun j hj => by omega), fun k' i' hk' hi' hs => h12 k' i' hk' hi' (by omega), (h13.tr (q6.mn fun q hq => by omega)).tr (F3.mn fun q hq => by unfold rg; omega)⟩
  · simp [jX11_movesAll, bX11_movesAll_0, bX11_movesAll_1, bX11_movesAll_2, bX11_movesAll_3, bX11_movesAll_4, i_aaload, i_aload, i_getf, i_iaload, i_iastore, i_icge, i_iinc, i_iload, i_istore, i_jmp, i_push, i_putf, i_return, msk, lset1, lset2, clr, Value.category, Option.toList, List.cons_append, List.nil_append, List.length_cons, List.length_nil, gf_eq h1, mg_36, ei, h9.1.rd hk (by decide), va_rf, (h9.2 k hk).rd hi (by decide), cvk_3 h1 q1, (g2.2 k hk).wr hi (by decide), hw3, nI_1]
  · by_cases y : j = 2 + 3 * k + i
    · subst y; exact q4
    · rw [q5 j y]; exact h7 j (by omega)
  · by_cases y : j = 2 + 3 * k + i
    · subst y; exact q4
    · rw [q5 j y]; exact h8 z j hj
  · by_cases y : k' = k
    · subst y
      by_cases y2 : i' = i
      · subst y2
        simp only [if_true, va_up_self]
        rw [flt_c σ hk hi]
      · simp only [if_true]
        rw [va_up_ne _ _ y2]
        exact h10 _ _ hk' hi' (by omega)
    · simp only [y, if_false]
      exact h10 _ _ hk' hi' (by omega)
theorem mvH {g : GE} (hg : FU g) {w w1 : Mem} {M a bk : Nat} {σ : TE} {x : Nat → Int32} (hb : bk = 0 ∨ bk = 1) (ha : rg (M + 169) (M + 172) a) {k i f : Nat} (hk : k < 8) (hi : i < 4) (h : MI w M a bk σ x w1 (38 + 4 * k + i)) :
    ∃ w2, jX11_movesAll g (f + 1) 4 [] [some (.ref M), some (.ref a), some (.int (nI bk)), some (.int (nI k)), some (.int (nI i))] w1 = jX11_movesAll g f 4 [] [some (.ref M), some (.ref a), some (.int (nI bk)), some (.int (nI k)), some (.int (nI (i + 1)))] w2 ∧ MI w M a bk σ x w2 (38 + 4 * k + i + 1) := by
  obtain ⟨x1, c, cc, hh, h1, h2, h3, h4, h5, h6, h7, h8, h9, h10, h11, h12, h13⟩ := h
  have ha' : M + 169 ≤ a ∧ a < M + 172 := ha
  obtain ⟨w2, c2, q1, q2, q3, q4, q5, q6⟩ := moves_sp hg (bk := bk) (v := hh k i) (r := nI (flt σ (38 + 4 * k + i))) h1 h2 (by omega) h6 (by omega) (by
    rcases hb with q | q
    · exact Or.inl ⟨q, by rw [h12 k i hk hi (Or.inr q), flt_h σ hk hi]⟩
    · exact Or.inr ⟨q, h8 q _ (by omega)⟩)
  have g2 := h11.fr q6 (fun j hj => by omega)
  have e2 := h9.fr q6 (fun j hj => by omega)
  have g3 := g2.up (i := k) i (nI (flt σ (38 + 4 * k + i)))
  obtain ⟨w3, hw3⟩ : ∃ q, wi w2 0 (M + 159 + 1 + k) i (nI (flt σ (38 + 4 * k + i))) = q := ⟨_, rfl⟩
  rw [hw3] at g3
  have F3 : Fr (fun q => q = M + 159 + 1 + k) w2 w3 := hw3 ▸ Fr.wi _ _ _ _ rfl
  have ei : ¬ (4 : Int32) ≤ nI i := nI_ge hi (by decide)
  refine ⟨w3, ?_, va_up x1 35 (nI (38 + 4 * k + i + 1)), c2, _, _, F3.at q2 (by omega), va_up_self _ _ _, fun j z1 z2 z3 => by rw [va_up_ne _ _ z1]; exact h3 j z1 z2 z3, by rw [va_up_ne _ _ (by decide)]; exact h4, by rw [va_up_ne _ _ (by decide)]; exact h5, q3.fr F3 (by omega), fun j hj => ?_, fun z j hj => ?_, e2.fr F3 (fun j hj => by omega), fun k' i' hk' hi' hs => h10 k' i' hk' hi' (by omega), g3, fun k' i' hk' hi' hs => ?_, (h13.tr (q6.mn fun q hq => by omega)).tr (F3.mn fun q hq => by unfold rg; omega)⟩
  · simp [jX11_movesAll, bX11_movesAll_0, bX11_movesAll_1, bX11_movesAll_2, bX11_movesAll_3, bX11_movesAll_4, i_aaload, i_aload, i_getf, i_iaload, i_iastore, i_icge, i_iinc, i_iload, i_istore, i_jmp, i_push, i_putf, i_return, msk, lset1, lset2, clr, Value.category, Option.toList, List.cons_append, List.nil_append, List.length_cons, List.length_nil, gf_eq h1, mg_37, ei, h11.1.rd hk (by decide), va_rf, (h11.2 k hk).rd hi (by decide), cvk_3 h1 q1, (g2.2 k hk).wr hi (by decide), hw3, nI_1]
  · by_cases y : j = 38 + 4 * k + i
    · subst y; exact q4
    · rw [q5 j y]; exact h7 j (by omega)
  · by_cases y : j = 38 + 4 * k + i
    · subst y; exact q4
    · rw [q5 j y]; exact h8 z j hj
  · by_cases y : k' = k
    · subst y
      by_cases y2 : i' = i
      · subst y2
        simp only [if_true, va_up_self]
        rw [flt_h σ hk hi]
      · simp only [if_true]
        rw [va_up_ne _ _ y2]
        exact h12 _ _ hk' hi' (by omega)
    · simp only [y, if_false]
      exact h12 _ _ hk' hi' (by omega)
theorem MI.cg {w w1 : Mem} {M a bk s s' : Nat} {σ : TE} {x : Nat → Int32} (h : MI w M a bk σ x w1 s) (e : s = s') : MI w M a bk σ x w1 s' := e ▸ h
theorem movesAll_sp {g : GE} (hg : FU g) {w : Mem} {M a bk : Nat} {τ σ : TE} {x c : Nat → Int32} (hb : bk = 0 ∨ bk = 1) (ha : rg (M + 169) (M + 172) a) (hO : MO w M x) (hx2 : x 32 = nI (τ.1 0)) (hx3 : x 33 = nI (τ.1 1)) (hA : IA w a 70 c) (hC : GRD w (M + 146) 12 3 (fun k i => nI (τ.2 i k))) (hH : GRD w (M + 159) 8 4 (fun k i => nI (τ.2 (3 + i) k))) (h0 : bk = 0 → σ = τ) (h1 : bk = 1 → ∀ j, j < 70 → c j = nI (flt σ j)) :
    ∃ w', fX11_movesAll g [.ref M, .ref a, .int (nI bk)] w = some (.inl none, w') ∧ MI w M a bk σ x w' 70 := by
  have ha' : M + 169 ≤ a ∧ a < M + 172 := ha
  obtain ⟨N, hN⟩ : ∃ N, g.1 = (N + 60 + 50) + 1 := ⟨g.1 - 111, by omega⟩
  obtain ⟨w1, hw1⟩ : ∃ q, mset w M (.inr (10, mo M (va_up x 35 0))) = q := ⟨_, rfl⟩
  have o1 : MO w1 M (va_up x 35 0) := hw1 ▸ ms_at _ _ _
  have F1 : Fr (fun q => q = M) w w1 := hw1 ▸ Fr.ms _ _ rfl
  have a1 := hA.fr F1 (by omega)
  obtain ⟨w2, c2, q1, q2, q3, q4, q5, q6⟩ := moves_sp hg (bk := bk) (s := 0) (v := nI (τ.1 0)) (r := nI (σ.1 0)) o1 (by rw [va_up_self]; exact nI_0.symm) (by decide) a1 (by omega) (by
    rcases hb with q | q
    · exact Or.inl ⟨q, by rw [h0 q]⟩
    · exact Or.inr ⟨q, h1 q 0 (by decide)⟩)
  obtain ⟨w3, hw3⟩ : ∃ q, mset w2 M (.inr (10, mo M (va_up (va_up (va_up x 35 0) 35 (nI (0 + 1))) 32 (nI (σ.1 0))))) = q := ⟨_, rfl⟩
  have o3 : MO w3 M (va_up (va_up (va_up x 35 0) 35 (nI (0 + 1))) 32 (nI (σ.1 0))) := hw3 ▸ ms_at _ _ _
  have F3 : Fr (fun q => q = M) w2 w3 := hw3 ▸ Fr.ms _ _ rfl
  obtain ⟨w4, c4, p1, p2, p3, p4, p5, p6⟩ := moves_sp hg (bk := bk) (s := 1) (v := nI (τ.1 1)) (r := nI (σ.1 1)) o3 (by rw [va_up_ne _ _ (by decide), va_up_self]) (by decide) (q3.fr F3 (by omega)) (by omega) (by
    rcases hb with q | q
    · exact Or.inl ⟨q, by rw [h0 q]⟩
    · exact Or.inr ⟨q, by rw [q5 1 (by decide)]; exact h1 q 1 (by decide)⟩)
  obtain ⟨w5, hw5⟩ : ∃ q, mset w4 M (.inr (10, mo M (va_up (va_up (va_up (va_up (va_up x 35 0) 35 (nI (0 + 1))) 32 (nI (σ.1 0))) 35 (nI (1 + 1))) 33 (nI (σ.1 1))))) = q := ⟨_, rfl⟩
  have o5 : MO w5 M (va_up (va_up (va_up (va_up (va_up x 35 0) 35 (nI (0 + 1))) 32 (nI (σ.1 0))) 35 (nI (1 + 1))) 33 (nI (σ.1 1))) := hw5 ▸ ms_at _ _ _
  have F5 : Fr (fun q => q = M) w4 w5 := hw5 ▸ Fr.ms _ _ rfl
  have F : Fr (fun q => q = M ∨ q = a) w w5 := ((((F1.mn fun q h => Or.inl h).tr q6).tr (F3.mn fun q h => Or.inl h)).tr p6).tr (F5.mn fun q h => Or.inl h)
  have I2 : MI w M a bk σ x w5 2 := by
    refine ⟨_, c4, _, _, o5, ?_, ?_, ?_, ?_, p3.fr F5 (by omega), ?_, ?_, hC.fr F (fun j hj => by omega), ?_, hH.fr F (fun j hj => by omega), ?_, F.mn fun q h => by omega⟩
    · rw [va_up_ne _ _ (by decide), va_up_self]
    · intro j z1 z2 z3
      rw [va_up_ne _ _ z3, va_up_ne _ _ z1, va_up_ne _ _ z2, va_up_ne _ _ z1, va_up_ne _ _ z1]
    · rw [va_up_ne _ _ (by decide), va_up_ne _ _ (by decide), va_up_self]
    · rw [va_up_self]
    · intro j hj
      have : j = 0 ∨ j = 1 := by omega
      rcases this with q | q <;> subst q
      · rw [p5 0 (by decide), q4]; rfl
      · rw [p4]; rfl
    · intro z j hj
      by_cases y1 : j = 1
      · subst y1; rw [p4]; rfl
      · rw [p5 j y1]
        by_cases y0 : j = 0
        · subst y0; rw [q4]; rfl
        · rw [q5 j y0]; exact h1 z j hj
    · intro k i hk hi hs
      have : bk = 0 := by omega
      rw [h0 this]
    · intro k i hk hi hs
      have : bk = 0 := by omega
      rw [h0 this]
  have start : fX11_movesAll g [.ref M, .ref a, .int (nI bk)] w = jX11_movesAll g (N + 60 + 50) 1 [] [some (.ref M), some (.ref a), some (.int (nI bk)), some (.int 0), none] w5 := by
    have x2 : (va_up x 35 0) 32 = nI (τ.1 0) := by rw [va_up_ne _ _ (by decide)]; exact hx2
    have x3 : (va_up (va_up (va_up x 35 0) 35 (nI (0 + 1))) 32 (nI (σ.1 0))) 33 = nI (τ.1 1) := by rw [va_up_ne _ _ (by decide), va_up_ne _ _ (by decide), va_up_ne _ _ (by decide)]; exact hx3
    generalize N + 60 + 50 = F0 at hN ⊢
    simp [fX11_movesAll, kX11_movesAll, ent, entp, jX11_movesAll, bX11_movesAll_0, bX11_movesAll_1, bX11_movesAll_2, bX11_movesAll_3, bX11_movesAll_4, i_aaload, i_aload, i_getf, i_iaload, i_iastore, i_icge, i_iinc, i_iload, i_istore, i_jmp, i_push, i_putf, i_return, msk, lset1, lset2, clr, Value.category, Option.toList, List.cons_append, List.nil_append, List.length_cons, List.length_nil, hN, st_35 hO, hw1, gf_eq o1, mg_32, x2, cvk_3 o1 q1, st_32 q2, hw3, gf_eq o3, mg_33, x3, cvk_3 o3 p1, st_33 p2, hw5]
  have L1 := lpC (fun f (s : Lv × Mem) => jX11_movesAll g f 1 [] s.1 s.2) (fun k s => s.1 = [some (.ref M), some (.ref a), some (.int (nI bk)), some (.int (nI k)), none] ∧ MI w M a bk σ x s.2 (2 + 3 * k)) 5 12
    (fun k s hk hI f => by
      obtain ⟨e1, I⟩ := hI
      obtain ⟨u1, r1, J1⟩ := mvC hg hb ha (k := k) (i := 0) (f := f + 3) hk (by decide) I
      obtain ⟨u2, r2, J2⟩ := mvC hg hb ha (k := k) (i := 1) (f := f + 2) hk (by decide) J1
      obtain ⟨u3, r3, J3⟩ := mvC hg hb ha (k := k) (i := 2) (f := f + 1) hk (by decide) J2
      refine ⟨f, ([some (.ref M), some (.ref a), some (.int (nI bk)), some (.int (nI (k + 1))), none], u3), Nat.le_refl _, ⟨rfl, J3.cg (by omega)⟩, ?_⟩
      have ek : ¬ (12 : Int32) ≤ nI k := nI_ge hk (by decide)
      have a1 : jX11_movesAll g (f + 5) 1 [] s.1 s.2 = jX11_movesAll g (f + 3 + 1) 2 [] [some (.ref M), some (.ref a), some (.int (nI bk)), some (.int (nI k)), some (.int (nI 0))] s.2 := by
        rw [show f + 5 = (f + 3 + 1) + 1 from rfl]
        generalize f + 3 + 1 = F
        simp [jX11_movesAll, bX11_movesAll_0, bX11_movesAll_1, bX11_movesAll_2, bX11_movesAll_3, bX11_movesAll_4, i_aaload, i_aload, i_getf, i_iaload, i_iastore, i_icge, i_iinc, i_iload, i_istore, i_jmp, i_push, i_putf, i_return, msk, lset1, lset2, clr, Value.category, Option.toList, List.cons_append, List.nil_append, List.length_cons, List.length_nil, e1, ek, nI_0]
      have a2 : jX11_movesAll g (f + 1) 2 [] [some (.ref M), some (.ref a), some (.int (nI bk)), some (.int (nI k)), some (.int (nI (2 + 1)))] u3 = jX11_movesAll g f 1 [] [some (.ref M), some (.ref a), some (.int (nI bk)), some (.int (nI (k + 1))), none] u3 := by
        simp [jX11_movesAll, bX11_movesAll_0, bX11_movesAll_1, bX11_movesAll_2, bX11_movesAll_3, bX11_movesAll_4, i_aaload, i_aload, i_getf, i_iaload, i_iastore, i_icge, i_iinc, i_iload, i_istore, i_jmp, i_push, i_putf, i_return, msk, lset1, lset2, clr, Value.category, Option.toList, List.cons_append, List.nil_append, List.length_cons, List.length_nil, (show (3 : Int32) ≤ nI 3 from by decide), nI_1]
      show jX11_movesAll g (f + 5) 1 [] s.1 s.2 = jX11_movesAll g f 1 [] _ u3
      rw [a1, r1, r2, r3, a2])
  obtain ⟨f1, s1, l1, ⟨e1, I3⟩, r1⟩ := L1 12 0 ([some (.ref M), some (.ref a), some (.int (nI bk)), some (.int (nI 0)), none], w5) (by omega) ⟨rfl, I2⟩ (N + 50)
  obtain ⟨f2, rfl⟩ : ∃ z, f1 = (z + 1 + 48) + 1 := ⟨f1 - 50, by omega⟩
  have L2 := lpC (fun f (s : Lv × Mem) => jX11_movesAll g f 3 [] s.1 s.2) (fun k s => s.1 = [some (.ref M), some (.ref a), some (.int (nI bk)), some (.int (nI k)), none] ∧ MI w M a bk σ x s.2 (38 + 4 * k)) 6 8
    (fun k s hk hI f => by
      obtain ⟨e1, I⟩ := hI
      obtain ⟨u1, r1, J1⟩ := mvH hg hb ha (k := k) (i := 0) (f := f + 4) hk (by decide) I
      obtain ⟨u2, r2, J2⟩ := mvH hg hb ha (k := k) (i := 1) (f := f + 3) hk (by decide) J1
      obtain ⟨u3, r3, J3⟩ := mvH hg hb ha (k := k) (i := 2) (f := f + 2) hk (by decide) J2
      obtain ⟨u4, r4, J4⟩ := mvH hg hb ha (k := k) (i := 3) (f := f + 1) hk (by decide) J3
      refine ⟨f, ([some (.ref M), some (.ref a), some (.int (nI bk)), some (.int (nI (k + 1))), none], u4), Nat.le_refl _, ⟨rfl, J4.cg (by omega)⟩, ?_⟩
      have ek : ¬ (8 : Int32) ≤ nI k := nI_ge hk (by decide)
      have a1 : jX11_movesAll g (f + 6) 3 [] s.1 s.2 = jX11_movesAll g (f + 4 + 1) 4 [] [some (.ref M), some (.ref a), some (.int (nI bk)), some (.int (nI k)), some (.int (nI 0))] s.2 := by
        rw [show f + 6 = (f + 4 + 1) + 1 from rfl]
        generalize f + 4 + 1 = F
        simp [jX11_movesAll, bX11_movesAll_0, bX11_movesAll_1, bX11_movesAll_2, bX11_movesAll_3, bX11_movesAll_4, i_aaload, i_aload, i_getf, i_iaload, i_iastore, i_icge, i_iinc, i_iload, i_istore, i_jmp, i_push, i_putf, i_return, msk, lset1, lset2, clr, Value.category, Option.toList, List.cons_append, List.nil_append, List.length_cons, List.length_nil, e1, ek, nI_0]
      have a2 : jX11_movesAll g (f + 1) 4 [] [some (.ref M), some (.ref a), some (.int (nI bk)), some (.int (nI k)), some (.int (nI (3 + 1)))] u4 = jX11_movesAll g f 3 [] [some (.ref M), some (.ref a), some (.int (nI bk)), some (.int (nI (k + 1))), none] u4 := by
        simp [jX11_movesAll, bX11_movesAll_0, bX11_movesAll_1, bX11_movesAll_2, bX11_movesAll_3, bX11_movesAll_4, i_aaload, i_aload, i_getf, i_iaload, i_iastore, i_icge, i_iinc, i_iload, i_istore, i_jmp, i_push, i_putf, i_return, msk, lset1, lset2, clr, Value.category, Option.toList, List.cons_append, List.nil_append, List.length_cons, List.length_nil, (show (4 : Int32) ≤ nI 4 from by decide), nI_1]
      show jX11_movesAll g (f + 6) 3 [] s.1 s.2 = jX11_movesAll g f 3 [] _ u4
      rw [a1, r1, r2, r3, r4, a2])
  obtain ⟨f3, s3, l3, ⟨e3, I4⟩, r3⟩ := L2 8 0 ([some (.ref M), some (.ref a), some (.int (nI bk)), some (.int (nI 0)), none], s1.2) (by omega) ⟨rfl, I3⟩ (f2 + 1)
  obtain ⟨f4, rfl⟩ : ∃ z, f3 = z + 1 := ⟨f3 - 1, by omega⟩
  refine ⟨s3.2, ?_, I4⟩
  have r1' : jX11_movesAll g (N + 60 + 50) 1 [] [some (.ref M), some (.ref a), some (.int (nI bk)), some (.int 0), none] w5 = jX11_movesAll g (f2 + 1 + 48 + 1) 1 [] s1.1 s1.2 := by
    rw [← nI_0]
    have ef : N + 60 + 50 = N + 50 + 5 * 12 := by omega
    rw [ef]
    exact r1
  have m1 : jX11_movesAll g (f2 + 1 + 48 + 1) 1 [] s1.1 s1.2 = jX11_movesAll g (f2 + 1 + 48) 3 [] [some (.ref M), some (.ref a), some (.int (nI bk)), some (.int (nI 0)), none] s1.2 := by
    generalize f2 + 1 + 48 = F
    simp [jX11_movesAll, bX11_movesAll_0, bX11_movesAll_1, bX11_movesAll_2, bX11_movesAll_3, bX11_movesAll_4, i_aaload, i_aload, i_getf, i_iaload, i_iastore, i_icge, i_iinc, i_iload, i_istore, i_jmp, i_push, i_putf, i_return, msk, lset1, lset2, clr, Value.category, Option.toList, List.cons_append, List.nil_append, List.length_cons, List.length_nil, e1, (show (12 : Int32) ≤ nI 12 from by decide), nI_0]
  have r3' : jX11_movesAll g (f2 + 1 + 48) 3 [] [some (.ref M), some (.ref a), some (.int (nI bk)), some (.int (nI 0)), none] s1.2 = jX11_movesAll g (f4 + 1) 3 [] s3.1 s3.2 := r3
  rw [start, r1', m1, r3']
  simp [jX11_movesAll, bX11_movesAll_0, bX11_movesAll_1, bX11_movesAll_2, bX11_movesAll_3, bX11_movesAll_4, i_aaload, i_aload, i_getf, i_iaload, i_iastore, i_icge, i_iinc, i_iload, i_istore, i_jmp, i_push, i_putf, i_return, msk, lset1, lset2, clr, Value.category, Option.toList, List.cons_append, List.nil_append, List.length_cons, List.length_nil, e3, (show (8 : Int32) ≤ nI 8 from by decide)]
theorem image_r {g : GE} {w : Mem} {M fed kept : Nat} {fp : Int32} {tp : Nat → Int32} {rf : Nat → Nat} {δ : DE} {τ : TE} {im : Nat → TE} {x : Nat → Int32} (hg : FU g) (hd : WF δ) (hI : RI w M fed kept fp tp rf δ τ im x) (hk : kept ≤ 3) : RZo w M (fX11_image g [.ref M] w) (imageR kept τ im).1 (fed, (imageR kept τ im).2.1, fp, tp, rfb rf (imageR kept τ im).1, δ, τ, (imageR kept τ im).2.2) := by
  obtain ⟨w0, hw0, I0, F0⟩ := hI.t0
  obtain ⟨b1, b2, b3, b4, b5, b6, b7, b8⟩ := id hd.1
  obtain ⟨hO, hXO, hRK, hRZ, hrf⟩ := id I0
  obtain ⟨x1', x3', x27, x32, x33, x34⟩ := id hXO
  obtain ⟨hTp, hD, hR, hCp, hHb, hKp, hRP⟩ := id hRK
  have x0' : (va_up x 0 0) 0 = 0 := va_up_self _ _ _
  unfold imageR
  by_cases z : kept = 3
  · simp only [z, if_true]
    rw [z] at x34 I0
    refine RZo.ok F0 I0 x0' ?_ (Fr.rf _ _)
    simp [fX11_image, kX11_image, ent, entp, bX11_image_0, i_aaload, i_aload, i_dup, i_getf, i_iadd, i_icne, i_ireturn, i_push, i_putf, msk, lset1, lset2, clr, Value.category, Option.toList, List.cons_append, List.nil_append, List.length_cons, List.length_nil, st_0 hI.1, hw0, gf_eq hO, mg_34, x34, (show nI 3 = 3 from rfl)]
  · simp only [z, if_false]
    have lk : kept < 3 := by omega
    have zc : ¬ nI kept = 3 := fun q => z ((nI_eq (a := kept) (b := 3) (by omega) (by decide)).mp q)
    obtain ⟨c8, h8, k8⟩ := hKp
    obtain ⟨w1, q1, x1, c, cc, hh, h1, h2, h3, h4, h5, h6, h7, h8', h9, h10, h11, h12, h13⟩ := movesAll_sp hg (bk := 0) (a := M + 168 + 1 + kept) (σ := τ) (Or.inl rfl) (by unfold rg; omega) hO x32 x33 (h8.2 kept lk) hCp hHb (fun _ => rfl) (fun q => by omega)
    rw [nI_0] at q1
    have y34 : x1 34 = nI kept := by rw [h3 34 (by decide) (by decide) (by decide)]; exact x34
    obtain ⟨w2, hw2⟩ : ∃ q, mset w1 M (.inr (10, mo M (va_up x1 34 (nI (kept + 1))))) = q := ⟨_, rfl⟩
    have o2 : MO w2 M (va_up x1 34 (nI (kept + 1))) := hw2 ▸ ms_at _ _ _
    have F2 : Fr (fun q => q = M) w1 w2 := hw2 ▸ Fr.ms _ _ rfl
    have F : Fr (fun q => q = M ∨ q = M + 168 + 1 + kept ∨ rg (M + 146) (M + 168) q) w0 w2 := h13.tr (F2.mn fun q h => Or.inl h)
    refine RZo.ok F0 (I0.te (x' := va_up x1 34 (nI (kept + 1))) (F.mn fun q h => by unfold rg at *; omega) o2 ⟨?_, ?_, ?_, ?_, ?_, va_up_self _ _ _⟩ ⟨(h9.fr F2 fun i hi => by omega).1, fun k hk => ((h9.fr F2 fun i hi => by omega).2 k hk).cg fun i hi => h10 k i hk hi (Or.inr rfl)⟩ ⟨(h11.fr F2 fun i hi => by omega).1, fun k hk => ((h11.fr F2 fun i hi => by omega).2 k hk).cg fun i hi => h12 k i hk hi (Or.inr rfl)⟩ ⟨fun i => if i = kept then c else c8 i, ⟨h8.1.fr F (by unfold rg; omega), fun i hi => ?_⟩, fun i hi => ?_⟩) ?_ ?_ (F.mn fun q h => by unfold rg at *; omega)
    · rw [va_up_ne _ _ (by decide), h3 1 (by decide) (by decide) (by decide)]; exact x1'
    · rw [va_up_ne _ _ (by decide), h3 3 (by decide) (by decide) (by decide)]; exact x3'
    · rw [va_up_ne _ _ (by decide), h3 27 (by decide) (by decide) (by decide)]; exact x27
    · rw [va_up_ne _ _ (by decide)]; exact h4
    · rw [va_up_ne _ _ (by decide)]; exact h5
    · by_cases y : i = kept
      · subst y
        simp only [if_true]
        exact h6.fr F2 (by omega)
      · simp only [y, if_false]
        exact (h8.2 i hi).fr F (by unfold rg; omega)
    · by_cases y : i = kept
      · subst y
        simp only [if_true]
        rw [va_up_self]
        exact KP.of h7
      · simp only [y, if_false]
        rw [va_up_ne _ _ y]
        exact k8 i (by omega)
    · rw [va_up_ne _ _ (by decide), h3 0 (by decide) (by decide) (by decide)]; exact x0'
    · simp [fX11_image, kX11_image, ent, entp, bX11_image_0, i_aaload, i_aload, i_dup, i_getf, i_iadd, i_icne, i_ireturn, i_push, i_putf, msk, lset1, lset2, clr, Value.category, Option.toList, List.cons_append, List.nil_append, List.length_cons, List.length_nil, st_0 hI.1, hw0, gf_eq hO, mg_34, mg_38, x34, zc, h8.1.rd lk (by decide), va_rf, cvk_2 hO q1, gf_eq h1, y34, nI_1, st_34 h1, hw2, gf_eq o2, va_up_self]
theorem restore_r {g : GE} {w : Mem} {M fed kept : Nat} {fp : Int32} {tp : Nat → Int32} {rf : Nat → Nat} {δ : DE} {τ : TE} {im : Nat → TE} {x : Nat → Int32} (hg : FU g) (hd : WF δ) (hI : RI w M fed kept fp tp rf δ τ im x) (hk : kept ≤ 3) : RZo w M (fX11_restore g [.ref M] w) (restoreR kept τ im).1 (fed, (restoreR kept τ im).2.1, fp, tp, rfb rf (restoreR kept τ im).1, δ, (restoreR kept τ im).2.2, im) := by
  obtain ⟨w0, hw0, I0, F0⟩ := hI.t0
  obtain ⟨b1, b2, b3, b4, b5, b6, b7, b8⟩ := id hd.1
  obtain ⟨hO, hXO, hRK, hRZ, hrf⟩ := id I0
  obtain ⟨x1', x3', x27, x32, x33, x34⟩ := id hXO
  obtain ⟨hTp, hD, hR, hCp, hHb, hKp, hRP⟩ := id hRK
  have x0' : (va_up x 0 0) 0 = 0 := va_up_self _ _ _
  unfold restoreR
  by_cases z : kept = 0
  · simp only [z, if_true]
    rw [z] at x34 I0
    refine RZo.ok F0 I0 x0' ?_ (Fr.rf _ _)
    simp [fX11_restore, kX11_restore, ent, entp, bX11_restore_0, i_aaload, i_aload, i_dup, i_getf, i_ifne, i_ireturn, i_isub, i_push, i_putf, msk, lset1, lset2, clr, Value.category, Option.toList, List.cons_append, List.nil_append, List.length_cons, List.length_nil, st_0 hI.1, hw0, gf_eq hO, mg_34, x34, nI_0]
  · simp only [z, if_false]
    obtain ⟨k, rfl⟩ : ∃ k, kept = k + 1 := ⟨kept - 1, by omega⟩
    simp only [Nat.add_sub_cancel]
    have lk : k < 3 := by omega
    have zc : ¬ nI (k + 1) = 0 := nI_ne0 (by omega) (by omega)
    obtain ⟨c8, h8, k8⟩ := hKp
    obtain ⟨w2, hw2⟩ : ∃ q, mset w0 M (.inr (10, mo M (va_up (va_up x 0 0) 34 (nI k)))) = q := ⟨_, rfl⟩
    have o2 : MO w2 M (va_up (va_up x 0 0) 34 (nI k)) := hw2 ▸ ms_at _ _ _
    have F2 : Fr (fun q => q = M) w0 w2 := hw2 ▸ Fr.ms _ _ rfl
    have y32 : (va_up (va_up x 0 0) 34 (nI k)) 32 = nI (τ.1 0) := by rw [va_up_ne _ _ (by decide)]; exact x32
    have y33 : (va_up (va_up x 0 0) 34 (nI k)) 33 = nI (τ.1 1) := by rw [va_up_ne _ _ (by decide)]; exact x33
    have h82 := h8.fr F2 (fun i hi => by omega)
    obtain ⟨w1, q1, x1, c, cc, hh, h1, h2, h3, h4, h5, h6, h7, h8', h9, h10, h11, h12, h13⟩ := movesAll_sp hg (bk := 1) (a := M + 168 + 1 + k) (σ := im k) (Or.inr rfl) (by unfold rg; omega) o2 y32 y33 (h82.2 k lk) (hCp.fr F2 fun i hi => by omega) (hHb.fr F2 fun i hi => by omega) (fun q => by omega) (fun _ => (k8 k (by omega)).to)
    have q1' : fX11_movesAll g [.ref M, .ref (M + 168 + 1 + k), .int 1] w2 = some (.inl none, w1) := q1
    have y34 : x1 34 = nI k := by rw [h3 34 (by decide) (by decide) (by decide)]; exact va_up_self _ _ _
    have F : Fr (fun q => q = M ∨ q = M + 168 + 1 + k ∨ rg (M + 146) (M + 168) q) w0 w1 := (F2.mn fun q h => Or.inl h).tr h13
    refine RZo.ok F0 (I0.te (x' := x1) (kept' := k) (τ' := im k) (F.mn fun q h => by unfold rg at *; omega) h1 ⟨?_, ?_, ?_, h4, h5, y34⟩ ⟨h9.1, fun k' hk => (h9.2 k' hk).cg fun i hi => h10 k' i hk hi (Or.inl (by omega))⟩ ⟨h11.1, fun k' hk => (h11.2 k' hk).cg fun i hi => h12 k' i hk hi (Or.inl (by omega))⟩ ⟨fun i => if i = k then c else c8 i, ⟨h8.1.fr F (by unfold rg; omega), fun i hi => ?_⟩, fun i hi => ?_⟩) ?_ ?_ (F.mn fun q h => by unfold rg at *; omega)
    · rw [h3 1 (by decide) (by decide) (by decide), va_up_ne _ _ (by decide)]; exact x1'
    · rw [h3 3 (by decide) (by decide) (by decide), va_up_ne _ _ (by decide)]; exact x3'
    · rw [h3 27 (by decide) (by decide) (by decide), va_up_ne _ _ (by decide)]; exact x27
    · by_cases y : i = k
      · subst y
        simp only [if_true]
        exact h6
      · simp only [y, if_false]
        exact (h8.2 i hi).fr F (by unfold rg; omega)
    · have y : i ≠ k := by omega
      simp only [y, if_false]
      exact k8 i (by omega)
    · rw [h3 0 (by decide) (by decide) (by decide), va_up_ne _ _ (by decide)]; exact x0'
    · simp [fX11_restore, kX11_restore, ent, entp, bX11_restore_0, i_aaload, i_aload, i_dup, i_getf, i_ifne, i_ireturn, i_isub, i_push, i_putf, msk, lset1, lset2, clr, Value.category, Option.toList, List.cons_append, List.nil_append, List.length_cons, List.length_nil, st_0 hI.1, hw0, gf_eq hO, mg_34, x34, zc, nI_pred, st_34 hO, hw2, gf_eq o2, mg_38, va_up_self, h82.1.rd lk (by decide), va_rf, cvk_2 o2 q1', gf_eq h1, y34]
