/-! ===== sway of the reference ===== -/
theorem stride_sp {g : GE} (hg : FU g) {w : Mem} {M b : Nat} {x : Nat → Int32} {δ : DE} (hd : WF δ) (hO : MO w M x) (hD : RD w M δ) (hb : b < δ.1 3) : fX11_stride g [.ref M, .int (nI b)] w = some (.inl (some (.int (nI (spK δ (δ.1 3 - 1 - b))))), w) := by
  obtain ⟨b1, b2, b3, b4, b5, b6, b7, b8⟩ := id hd.1
  obtain ⟨h0, -, -, -, -, -, ⟨c6, h6, k6⟩, -⟩ := id hD
  obtain ⟨N, hN⟩ : ∃ N, g.1 = N + 1 := ⟨g.1 - 1, by omega⟩
  have L := lpF (fun f (s : Lv) => jX11_stride g f 1 [] s w) (fun k => [some (.ref M), some (.int (nI b)), some (.int (nI (spK δ k))), some (.int (nI (δ.1 3 - 1 - k)))]) (some (.inl (some (.int (nI (spK δ (δ.1 3 - 1 - b))))), w)) 1 1 (δ.1 3 - 1 - b)
    (fun k hk f => by
      refine ⟨f, Nat.le_refl _, ?_⟩
      have hc : δ.1 3 - 1 - k < δ.1 3 := by omega
      have c1 : ¬ nI (δ.1 3 - 1 - k) ≤ nI b := nI_ge (by omega) (by omega)
      have sz : gi w 0 (M + 115 + 1 + (δ.1 3 - 1 - k)) 2 = some (nI (δ.2 10 (δ.1 3 - 1 - k))) := by rw [(h6.2 _ (by omega)).rc 2 2 rfl (by decide) (by decide), (k6 _ hc).2.2.1]
      have rr1 := h6.1.rd (j := δ.1 3 - 1 - k) (by omega) (by decide)
      have e9 : spK δ (k + 1) = spK δ k * δ.2 10 (δ.1 3 - 1 - k) := rfl
      have pm := pk_mul (spK δ k) (δ.2 10 (δ.1 3 - 1 - k))
      have c4 : nI (δ.1 3 - 1 - k) + -1 = nI (δ.1 3 - 1 - (k + 1)) := by
        obtain ⟨z, hz⟩ : ∃ z, δ.1 3 - 1 - k = z + 1 := ⟨δ.1 3 - 1 - k - 1, by omega⟩
        have hz2 : δ.1 3 - 1 - (k + 1) = z := by omega
        rw [hz, hz2, pk_m1]
      rw [e9]
      generalize spK δ k = X at pm ⊢
      generalize nI (δ.1 3 - 1 - (k + 1)) = Y at c4 ⊢
      simp [jX11_stride, bX11_stride_0, bX11_stride_1, i_aaload, i_aload, i_getf, i_iaload, i_icle, i_iinc, i_iload, i_imul, i_ireturn, i_istore, i_isub, i_jmp, i_push, msk, lset1, lset2, clr, Value.category, Option.toList, List.cons_append, List.nil_append, List.length_cons, List.length_nil, c1, gf_eq hO, mg_24, rr1, va_rf, sz, pm, c4])
    (fun f => by
      have e1 : δ.1 3 - 1 - (δ.1 3 - 1 - b) = b := by omega
      rw [e1]
      generalize spK δ (δ.1 3 - 1 - b) = X
      simp [jX11_stride, bX11_stride_0, bX11_stride_1, i_aaload, i_aload, i_getf, i_iaload, i_icle, i_iinc, i_iload, i_imul, i_ireturn, i_istore, i_isub, i_jmp, i_push, msk, lset1, lset2, clr, Value.category, Option.toList, List.cons_append, List.nil_append, List.length_cons, List.length_nil])
  rw [← L N (by omega)]
  have em : nI (δ.1 3) - 1 = nI (δ.1 3 - 1) := by
    obtain ⟨z, hz⟩ : ∃ z, δ.1 3 = z + 1 := ⟨δ.1 3 - 1, by omega⟩
    rw [hz, nI_pred]; rfl
  simp [fX11_stride, kX11_stride, ent, entp, jX11_stride, bX11_stride_0, bX11_stride_1, i_aaload, i_aload, i_getf, i_iaload, i_icle, i_iinc, i_iload, i_imul, i_ireturn, i_istore, i_isub, i_jmp, i_push, msk, lset1, lset2, clr, Value.category, Option.toList, List.cons_append, List.nil_append, List.length_cons, List.length_nil, hN, gf_eq hO, mg_11, h0.rc 3 3 rfl (by decide) (by decide), em, spK, (show nI 1 = 1 from rfl)]
/-- the rows that are like a row but under blot b -/
abbrev rwA (δ : DE) (i b c : Nat) : Nat := vl δ (va_up (dgR δ i) b c) (δ.1 3)
theorem rwA_lt {δ : DE} (hd : WF δ) {i b c : Nat} (hc : c < δ.2 10 b) : rwA δ i b c < δ.1 6 := by
  rw [hd.1.2.2.2.2.2.2.1]
  exact vl_lt fun q hq => by
    by_cases y : q = b
    · subst y; rw [va_up_self]; exact hc
    · rw [va_up_ne _ _ y]; exact dgR_lt hd i hq
theorem rwA_eq {δ : DE} (hd : WF δ) {i b : Nat} (hi : i < nR δ) (hb : b < δ.1 3) (c : Nat) : dgR δ i b * spK δ (δ.1 3 - 1 - b) ≤ rr δ i ∧ rr δ i - dgR δ i b * spK δ (δ.1 3 - 1 - b) + c * spK δ (δ.1 3 - 1 - b) = rwA δ i b c := by
  have h1 := (vl_up (δ := δ) (dd := dgR δ i) (b := b) (c := c) (k := δ.1 3)).2 hb
  have h0 := (vl_up (δ := δ) (dd := dgR δ i) (b := b) (c := 0) (k := δ.1 3)).2 hb
  have hr := row_vl hd (m := rr δ i) (by rw [← hd.1.2.2.2.2.2.2.1]; exact (rr_lt hi).1)
  have hr' : rr δ i = vl δ (dgR δ i) (δ.1 3) := hr
  rw [st_eq hb] at h0 h1
  rw [← hr'] at h0 h1
  rw [Nat.zero_mul] at h0
  show _ ∧ _ = vl δ (va_up (dgR δ i) b c) (δ.1 3)
  generalize dgR δ i b * spK δ (δ.1 3 - 1 - b) = P at h0 h1 ⊢
  generalize c * spK δ (δ.1 3 - 1 - b) = Q at h1 ⊢
  omega
/-- a row like it, lawful, and a thing goes elsewhere by it -/
def saB (δ : DE) (t b i c : Nat) : Bool := decide (br δ (rwA δ i b c) = 0) && (owR δ (rl δ (rwA δ i b c)).length t != owR δ i t)
theorem sa_sw {δ : DE} (hd : WF δ) {t b i : Nat} (hi : i < nR δ) (hb : b < δ.1 3) : exF (saB δ t b i) (δ.2 10 b) = swB δ t b i := by
  have b4 := hd.1.2.2.2.1
  have tb : ∀ q, q < δ.1 3 → (otK δ b).testBit q = (q != b) := fun q hq => by
    have := ot_2 (δ.1 3) (by omega) b hb q (by omega)
    rw [this]
    simp [hq]
  have dq : ∀ c, c < δ.2 10 b → ∀ q, q < δ.1 3 → dg δ (rwA δ i b c) q = va_up (dgR δ i) b c q := fun c hc q hq => dg_of hd (fun p hp => by
    by_cases y : p = b
    · subst y; rw [va_up_self]; exact hc
    · rw [va_up_ne _ _ y]; exact dgR_lt hd i hp) hq
  rw [Bool.eq_iff_iff, exF_iff]
  unfold swB
  rw [exF_iff]
  constructor
  · rintro ⟨c, hc, h⟩
    unfold saB at h
    rw [Bool.and_eq_true, decide_eq_true_eq] at h
    obtain ⟨h1, h2⟩ := rr_of (rwA_lt hd hc) h.1
    refine ⟨_, h1, ?_⟩
    have e1 : sameD δ (otK δ b) i (rl δ (rwA δ i b c)).length = true := by
      unfold sameD
      rw [List.all_eq_true]
      intro q hq
      have hq' := List.mem_range.mp hq
      rw [tb q hq']
      by_cases y : q = b
      · subst y; simp
      · have e2 : dgR δ (rl δ (rwA δ i b c)).length q = dgR δ i q := by
          show dg δ (rr δ _) q = _
          rw [h2, dq c hc q hq', va_up_ne _ _ y]
        rw [e2]
        simp
    rw [e1, Bool.true_and]
    have := h.2
    rw [bne_iff_ne] at this ⊢
    exact fun q => this q.symm
  · rintro ⟨j, hj, h⟩
    rw [Bool.and_eq_true] at h
    have hs := h.1
    unfold sameD at hs
    rw [List.all_eq_true] at hs
    have hd2 : ∀ q, q < δ.1 3 → q ≠ b → dgR δ i q = dgR δ j q := fun q hq y => by
      have := hs q (List.mem_range.mpr hq)
      rw [tb q hq] at this
      have y' : (q != b) = true := by simp [y]
      rw [y'] at this
      simpa using this
    refine ⟨dgR δ j b, dgR_lt hd j hb, ?_⟩
    have e : rwA δ i b (dgR δ j b) = rr δ j := by
      have hr := row_vl hd (m := rr δ j) (by rw [← hd.1.2.2.2.2.2.2.1]; exact (rr_lt hj).1)
      rw [hr]
      exact vl_cg fun q hq => by
        by_cases y : q = b
        · subst y; rw [va_up_self]; rfl
        · rw [va_up_ne _ _ y]; exact hd2 q hq y
    unfold saB
    rw [e, ix_of hj, Bool.and_eq_true, decide_eq_true_eq]
    refine ⟨(rr_lt hj).2, ?_⟩
    have := h.2
    rw [bne_iff_ne] at this ⊢
    exact fun q => this q.symm
theorem isSwayed_sp {g : GE} (hg : FU g) {w : Mem} {M i t b : Nat} {x : Nat → Int32} {δ : DE} (hd : WF δ) (hO : MO w M x) (hD : RD w M δ) (hR : RT w M δ (δ.1 6)) (hi : i < nR δ) (ht : t < 5) (hb : b < δ.1 3) : fX11_isSwayed g [.ref M, .int (nI i), .int (nI t), .int (nI b)] w = some (.inl (some (.int (bI (swB δ t b i)))), w) := by
  obtain ⟨b1, b2, b3, b4, b5, b6, b7, b8⟩ := id hd.1
  obtain ⟨h0, -, -, -, -, -, ⟨c6, h6, k6⟩, -⟩ := id hD
  obtain ⟨-, ⟨cr, hr, kr⟩, -, -⟩ := id hR
  have hs := hd.2.2.2.1 b hb
  have q1 := stride_sp hg hd hO hD hb
  have lr := (rr_lt hi).1
  have rw1 := hR.row hd hi
  have p1 : fX11_digit g [.ref M, .int (nI (rr δ i)), .int (nI b)] w = some (.inl (some (.int (nI (dgR δ i b)))), w) := rdigit_sp hg hd hO hD (row := rr δ i) (b := b) (by omega) hb
  have sz : gi w 0 (M + 115 + 1 + b) 2 = some (nI (δ.2 10 b)) := by rw [(h6.2 _ (by omega)).rc 2 2 rfl (by decide) (by decide), (k6 _ hb).2.2.1]
  have rr1 := h6.1.rd (j := b) (by omega) (by decide)
  obtain ⟨N, hN⟩ : ∃ N, g.1 = N + 1 := ⟨g.1 - 1, by omega⟩
  have pm := pk_mul (dgR δ i b) (spK δ (δ.1 3 - 1 - b))
  have le0 := (rwA_eq hd hi hb 0).1
  have ps := pk_sub (a := rr δ i) (b := dgR δ i b * spK δ (δ.1 3 - 1 - b)) le0
  rw [← sa_sw hd hi hb]
  have o1 := rgoesBy_sp (g := g) hd hO hR hi ht
  have lo1 := owR_le hd i t
  have L := lpR (fun f (s : Lv) => jX11_isSwayed g f 1 [] s w) (fun k s => s = [some (.ref M), some (.int (nI i)), some (.int (nI t)), some (.int (nI b)), some (.int (nI (rr δ i - dgR δ i b * spK δ (δ.1 3 - 1 - b)))), some (.int (nI k)), none] ∧ ∀ m, m < k → saB δ t b i m = false)
    (fun z => z = some (.inl (some (.int (bI (exF (saB δ t b i) (δ.2 10 b))))), w)) 2 1 (δ.2 10 b)
    (fun k s hk hI f => by
      obtain ⟨e1, e2⟩ := hI
      subst e1
      have ea := (rwA_eq hd hi hb k).2
      have la := rwA_lt hd (i := i) hk
      have pk := pk_mul k (spK δ (δ.1 3 - 1 - b))
      have pa := nI_add (rr δ i - dgR δ i b * spK δ (δ.1 3 - 1 - b)) (k * spK δ (δ.1 3 - 1 - b))
      rw [ea] at pa
      have rd : gi w 0 (M + 143) (nI (rwA δ i b k)) = some (if br δ (rwA δ i b k) = 0 then nI (rl δ (rwA δ i b k)).length else -1) := by
        rw [hr.rd (by omega) (by decide), kr _ la]
      generalize hB : nI (rr δ i - dgR δ i b * spK δ (δ.1 3 - 1 - b)) = B0 at pa
      generalize hC : nI (k * spK δ (δ.1 3 - 1 - b)) = C0 at pk pa
      generalize hS : nI (spK δ (δ.1 3 - 1 - b)) = S0 at q1 pk
      by_cases z : br δ (rwA δ i b k) = 0
      · rw [if_pos z] at rd
        obtain ⟨h1, h2⟩ := rr_of la z
        have hn := nR_le hd
        have nn := nI_nn (y := (rl δ (rwA δ i b k)).length) (by omega)
        have o2 := rgoesBy_sp (g := g) hd hO hR h1 ht
        have lo2 := owR_le hd (rl δ (rwA δ i b k)).length t
        have mq := m1_q (a := owR δ (rl δ (rwA δ i b k)).length t) (b := owR δ i t) (by omega) (by omega)
        by_cases y : owR δ (rl δ (rwA δ i b k)).length t = owR δ i t
        · refine Or.inr ⟨f, _, Nat.le_refl _, ⟨rfl, fun m hm => ?_⟩, ?_⟩
          · by_cases y2 : m = k
            · subst y2; simp [saB, y]
            · exact e2 m (by omega)
          · rw [y] at o2
            generalize nI (rl δ (rwA δ i b k)).length = L0 at rd nn o2
            generalize nI (owR δ i t) - 1 = Y at o1 o2
            simp [jX11_isSwayed, bX11_isSwayed_0, bX11_isSwayed_1, bX11_isSwayed_2, i_aaload, i_aload, i_getf, i_iadd, i_iaload, i_iceq, i_icge, i_iinc, i_iload, i_imul, i_istore, i_isub, i_jmp, i_push, i_zreturn, msk, lset1, lset2, clr, Value.category, Option.toList, List.cons_append, List.nil_append, List.length_cons, List.length_nil, gf_eq hO, mg_24, mg_29, rr1, va_rf, sz, nI_ge hk (by omega), cvk_1 hO q1, pk, pa, rd, nn, cvk_2 hO o2, cvk_2 hO o1, nI_1]
        · left
          have e9 : exF (saB δ t b i) (δ.2 10 b) = true := exF_iff.mpr ⟨k, hk, by simp [saB, z, y]⟩
          rw [e9]
          have n2 := mt mq.mp y
          generalize nI (rl δ (rwA δ i b k)).length = L0 at rd nn o2
          generalize nI (owR δ i t) - 1 = Y at o1 n2
          generalize nI (owR δ (rl δ (rwA δ i b k)).length t) - 1 = Y2 at o2 n2
          simp [jX11_isSwayed, bX11_isSwayed_0, bX11_isSwayed_1, bX11_isSwayed_2, i_aaload, i_aload, i_getf, i_iadd, i_iaload, i_iceq, i_icge, i_iinc, i_iload, i_imul, i_istore, i_isub, i_jmp, i_push, i_zreturn, msk, lset1, lset2, clr, Value.category, Option.toList, List.cons_append, List.nil_append, List.length_cons, List.length_nil, gf_eq hO, mg_24, mg_29, rr1, va_rf, sz, nI_ge hk (by omega), cvk_1 hO q1, pk, pa, rd, nn, cvk_2 hO o2, cvk_2 hO o1, n2, bI]
      · rw [if_neg z] at rd
        refine Or.inr ⟨f, _, Nat.le_refl _, ⟨rfl, fun m hm => ?_⟩, ?_⟩
        · by_cases y2 : m = k
          · subst y2; simp [saB, z]
          · exact e2 m (by omega)
        · simp [jX11_isSwayed, bX11_isSwayed_0, bX11_isSwayed_1, bX11_isSwayed_2, i_aaload, i_aload, i_getf, i_iadd, i_iaload, i_iceq, i_icge, i_iinc, i_iload, i_imul, i_istore, i_isub, i_jmp, i_push, i_zreturn, msk, lset1, lset2, clr, Value.category, Option.toList, List.cons_append, List.nil_append, List.length_cons, List.length_nil, gf_eq hO, mg_24, mg_29, rr1, va_rf, sz, nI_ge hk (by omega), cvk_1 hO q1, pk, pa, rd, nI_1])
    (fun s hI f => by
      obtain ⟨e1, e2⟩ := hI
      subst e1
      rw [exF_none e2]
      generalize nI (rr δ i - dgR δ i b * spK δ (δ.1 3 - 1 - b)) = B0
      simp [jX11_isSwayed, bX11_isSwayed_0, bX11_isSwayed_1, bX11_isSwayed_2, i_aaload, i_aload, i_getf, i_iadd, i_iaload, i_iceq, i_icge, i_iinc, i_iload, i_imul, i_istore, i_isub, i_jmp, i_push, i_zreturn, msk, lset1, lset2, clr, Value.category, Option.toList, List.cons_append, List.nil_append, List.length_cons, List.length_nil, gf_eq hO, mg_24, rr1, va_rf, sz, bI])
  have L1 := L (δ.2 10 b) 0 [some (.ref M), some (.int (nI i)), some (.int (nI t)), some (.int (nI b)), some (.int (nI (rr δ i - dgR δ i b * spK δ (δ.1 3 - 1 - b)))), some (.int (nI 0)), none] (by omega) ⟨rfl, fun m hm => by omega⟩ N (by omega)
  simp only [nI_0] at L1
  rw [← L1]
  generalize nI (rr δ i - dgR δ i b * spK δ (δ.1 3 - 1 - b)) = B0 at ps ⊢
  generalize nI (dgR δ i b * spK δ (δ.1 3 - 1 - b)) = C0 at pm ps
  generalize nI (spK δ (δ.1 3 - 1 - b)) = S0 at q1 pm
  simp [fX11_isSwayed, kX11_isSwayed, ent, entp, jX11_isSwayed, bX11_isSwayed_0, bX11_isSwayed_1, bX11_isSwayed_2, i_aaload, i_aload, i_getf, i_iadd, i_iaload, i_iceq, i_icge, i_iinc, i_iload, i_imul, i_istore, i_isub, i_jmp, i_push, i_zreturn, msk, lset1, lset2, clr, Value.category, Option.toList, List.cons_append, List.nil_append, List.length_cons, List.length_nil, hN, gf_eq hO, mg_28, rw1, cvk_2 hO p1, cvk_1 hO q1, pm, ps]
theorem sway_r {g : GE} {w : Mem} {M fed kept : Nat} {fp : Int32} {tp : Nat → Int32} {rf : Nat → Nat} {δ : DE} {τ : TE} {im : Nat → TE} {x : Nat → Int32} (hg : FU g) (hd : WF δ) (hI : RI w M fed kept fp tp rf δ τ im x) (x0 x1 : Int32) : RQo w M fed kept fp tp rf δ τ im (fX11_sway g [.ref M, .int x0, .int x1] w) (swayO δ x0 x1) := by
  obtain ⟨w0, hw0, I0, F0⟩ := hI.t0
  obtain ⟨b1, b2, b3, b4, b5, b6, b7, b8⟩ := id hd.1
  obtain ⟨hO, hXO, hRK, hRZ, hrf⟩ := id I0
  obtain ⟨x1', x3', x27, x32, x33, x34⟩ := id hXO
  obtain ⟨hTp, hD, hR, hCp, hHb, hKp, hRP⟩ := id hRK
  have hn := nR_le hd
  have x0' : (va_up x 0 0) 0 = 0 := va_up_self _ _ _
  obtain ⟨N, hN⟩ : ∃ N, g.1 = N + 4 := ⟨g.1 - 4, by omega⟩
  unfold swayO
  have q0 := isThing_sp hg hO hD b2 x0
  cases h0 : rng x0 (δ.1 1) with
  | none =>
    rw [h0] at q0
    simp only [bI, Option.isSome, Bool.false_eq_true, if_false] at q0
    obtain ⟨w1, p1, p2, p3⟩ := bad1_sp hg I0 x0' (c := 1) (r := 0) (C := 1) (R := 0) rfl rfl (by decide) (by decide)
    refine RQo.no (v := .int 0) F0 p2 ?_ p3
    simp [fX11_sway, kX11_sway, ent, entp, jX11_sway, bX11_sway_0, bX11_sway_1, bX11_sway_2, bX11_sway_3, bX11_sway_4, bX11_sway_5, i_aload, i_getf, i_iadd, i_icge, i_ifeq, i_ifne, i_iinc, i_iload, i_ireturn, i_istore, i_jmp, i_push, i_putf, msk, lset1, lset2, clr, Value.category, Option.toList, List.cons_append, List.nil_append, List.length_cons, List.length_nil, hN, st_0 hI.1, hw0, cvk_1 hO q0, cvk_3 hO p1]
  | some n0 =>
    rw [h0] at q0
    simp only [bI, Option.isSome, if_true] at q0
    obtain ⟨l0, e0⟩ := rng_some (by omega) h0
    subst e0
    have q1 := isBlot_sp hg hO hD b4 x1
    cases h1 : rng x1 (δ.1 3) with
    | none =>
      rw [h1] at q1
      simp only [bI, Option.isSome, Bool.false_eq_true, if_false] at q1
      obtain ⟨w1, p1, p2, p3⟩ := bad1_sp hg I0 x0' (c := 2) (r := 1) (C := 2) (R := 1) rfl rfl (by decide) (by decide)
      refine RQo.no (v := .int 0) F0 p2 ?_ p3
      simp [fX11_sway, kX11_sway, ent, entp, jX11_sway, bX11_sway_0, bX11_sway_1, bX11_sway_2, bX11_sway_3, bX11_sway_4, bX11_sway_5, i_aload, i_getf, i_iadd, i_icge, i_ifeq, i_ifne, i_iinc, i_iload, i_ireturn, i_istore, i_jmp, i_push, i_putf, msk, lset1, lset2, clr, Value.category, Option.toList, List.cons_append, List.nil_append, List.length_cons, List.length_nil, hN, st_0 hI.1, hw0, cvk_1 hO q0, cvk_3 hO (bad0_sp hg hO x0' 1 0), cvk_1 hO q1, cvk_3 hO p1]
    | some n1 =>
      rw [h1] at q1
      simp only [bI, Option.isSome, if_true] at q1
      obtain ⟨l1, e1⟩ := rng_some (by omega) h1
      subst e1
      dsimp only
      refine RQo.ok F0 I0 x0' ?_ (Fr.rf _ _)
      obtain ⟨N2, hN2⟩ : ∃ N, g.1 = N + 3 := ⟨g.1 - 3, by omega⟩
      have L := lpF (fun f (s : Lv) => jX11_sway g f 4 [] s w0) (fun k => [some (.ref M), some (.int (nI n0)), some (.int (nI n1)), some (.int (nI (cntF (swB δ n0 n1) k))), some (.int (nI k))]) (some (.inl (some (.int (nI (swK δ n0 n1)))), w0)) 2 1 (nR δ)
        (fun k hk f => by
          refine ⟨f, Nat.le_refl _, ?_⟩
          have o := isSwayed_sp hg hd hO hD hR hk (t := n0) (by omega) l1
          cases hs : swB δ n0 n1 k with
          | true =>
            rw [hs] at o
            simp only [bI, if_true] at o
            have e9 : cntF (swB δ n0 n1) (k + 1) = cntF (swB δ n0 n1) k + 1 := by
              show _ + (if _ then 1 else 0) = _
              rw [if_pos hs]
            rw [e9]
            generalize cntF (swB δ n0 n1) k = X
            simp [jX11_sway, bX11_sway_0, bX11_sway_1, bX11_sway_2, bX11_sway_3, bX11_sway_4, bX11_sway_5, i_aload, i_getf, i_iadd, i_icge, i_ifeq, i_ifne, i_iinc, i_iload, i_ireturn, i_istore, i_jmp, i_push, i_putf, msk, lset1, lset2, clr, Value.category, Option.toList, List.cons_append, List.nil_append, List.length_cons, List.length_nil, gf_eq hO, mg_27, x27, nI_ge hk (by omega), cvk_3 hO o, nI_1]
          | false =>
            rw [hs] at o
            simp only [bI, Bool.false_eq_true, if_false] at o
            have e9 : cntF (swB δ n0 n1) (k + 1) = cntF (swB δ n0 n1) k := by
              show _ + (if _ then 1 else 0) = _
              rw [if_neg (by rw [hs]; exact Bool.false_ne_true)]
              rfl
            rw [e9]
            generalize cntF (swB δ n0 n1) k = X
            have z0 : nI X + 0 = nI X := by simp
            simp [jX11_sway, bX11_sway_0, bX11_sway_1, bX11_sway_2, bX11_sway_3, bX11_sway_4, bX11_sway_5, i_aload, i_getf, i_iadd, i_icge, i_ifeq, i_ifne, i_iinc, i_iload, i_ireturn, i_istore, i_jmp, i_push, i_putf, msk, lset1, lset2, clr, Value.category, Option.toList, List.cons_append, List.nil_append, List.length_cons, List.length_nil, gf_eq hO, mg_27, x27, nI_ge hk (by omega), cvk_3 hO o, z0, nI_1])
        (fun f => by
          have e9 : swK δ n0 n1 = cntF (swB δ n0 n1) (nR δ) := rfl
          rw [e9]
          generalize cntF (swB δ n0 n1) (nR δ) = X
          simp [jX11_sway, bX11_sway_0, bX11_sway_1, bX11_sway_2, bX11_sway_3, bX11_sway_4, bX11_sway_5, i_aload, i_getf, i_iadd, i_icge, i_ifeq, i_ifne, i_iinc, i_iload, i_ireturn, i_istore, i_jmp, i_push, i_putf, msk, lset1, lset2, clr, Value.category, Option.toList, List.cons_append, List.nil_append, List.length_cons, List.length_nil, gf_eq hO, mg_27, x27])
      rw [← L N2 (by omega)]
      simp [fX11_sway, kX11_sway, ent, entp, jX11_sway, bX11_sway_0, bX11_sway_1, bX11_sway_2, bX11_sway_3, bX11_sway_4, bX11_sway_5, i_aload, i_getf, i_iadd, i_icge, i_ifeq, i_ifne, i_iinc, i_iload, i_ireturn, i_istore, i_jmp, i_push, i_putf, msk, lset1, lset2, clr, Value.category, Option.toList, List.cons_append, List.nil_append, List.length_cons, List.length_nil, hN2, st_0 hI.1, hw0, cvk_1 hO q0, cvk_3 hO (bad0_sp hg hO x0' 1 0), cvk_1 hO q1, cvk_3 hO (bad0_sp hg hO x0' 2 1), nI_0, cntF]
