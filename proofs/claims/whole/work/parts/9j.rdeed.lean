/-! ===== deed: what it answers and leaves; the reference ===== -/
def deedS (s : SG) (T : Nat → Nat) (δ0 : DE) (x : Int32) : OUT × SG := match rng x (s.1 + 1) with
  | none => (.inr (1, 2), (s.1, s.2.1, s.2.2.1, s.2.2.2.1, rfb s.2.2.2.2.1 (.inr (1, 2)), s.2.2.2.2.2.1, s.2.2.2.2.2.2.1, s.2.2.2.2.2.2.2))
  | some n => match deedP T n δ0 with
    | .inl e => (.inl (.int (nI e.1 - 10)), (0, s.2.1, nI e.2, s.2.2.2.1, s.2.2.2.2.1, s.2.2.2.2.2.1, s.2.2.2.2.2.2.1, s.2.2.2.2.2.2.2))
    | .inr y => (.inl (.int (nI (y.1.1 3))), (0, 0, -1, s.2.2.2.1, s.2.2.2.2.1, y.1, (va_up (va_up s.2.2.2.2.2.2.1.1 0 0) 1 0, s.2.2.2.2.2.2.1.2), s.2.2.2.2.2.2.2))
abbrev SD (M : Nat) : Nat → Prop := fun z => SL M z ∨ z = M + 4 ∨ z = M + 6 ∨ z = M + 8 ∨ z = M + 10 ∨ rg (M + 22) (M + 32) z ∨ rg (M + 69) (M + 106) z ∨ rg (M + 115) (M + 124) z ∨ rg (M + 133) (M + 142) z
theorem stands_sp {g : GE} (hg : FU g) {w : Mem} {M P : Nat} {x : Nat → Int32} {δ δo : DE} (hO : MO w M x) (hG : RG w M δ (δ.1 2) (δ.1 2)) (h6 : gi w 0 (M + 3) 6 = some (nI P)) (hd : WF (dC δ 6 P)) (hD : RD w M δo) (hS : RSC w M) (hT : RT w M δo (δo.1 6)) :
    ∃ w' x', fX11_stands g [.ref M] w = some (.inl none, w') ∧ MO w' M x' ∧ (∀ j, j ≠ 27 → j ≠ 42 → j ≠ 32 → j ≠ 33 → j ≠ 34 → x' j = x j) ∧ x' 32 = 0 ∧ x' 33 = 0 ∧ x' 34 = 0 ∧ x' 27 = nI (nR (dC δ 6 P)) ∧ RD w' M (dC δ 6 P) ∧ RT w' M (dC δ 6 P) ((dC δ 6 P).1 6) ∧ RSC w' M ∧ Fr (SD M) w w' := by
  obtain ⟨b1, b2, b3, b4, b5, b6, -⟩ := id hd.1
  have b3 : δ.1 2 ≤ 9 := b3
  have b4 : δ.1 3 ≤ 8 := b4
  have b6 : δ.1 5 ≤ 36 := b6
  obtain ⟨⟨c3, h3, e0, e1, e2, e3, e4, e5⟩, ⟨cl, hl, kl⟩, ⟨cw, hw, kw⟩, ⟨ce, he, ke⟩, -, ⟨cp, hp, kp⟩, ⟨cs, hs, ks⟩, ⟨cb, hb, kb⟩, ⟨cc, hc, kc⟩⟩ := id hG
  obtain ⟨d4, ⟨d6, hd6, -⟩, ⟨d8, hd8, -⟩, ⟨d10, hd10, -⟩, ⟨d22, hd22, -⟩, ⟨d69, hd69, -⟩, ⟨d115, hd115, -⟩, ⟨d133, hd133, -⟩⟩ := id hD
  have e6 : c3 6 = nI P := by
    have := h3.rc 6 6 rfl (by decide) (by decide)
    rw [h6] at this
    exact (Option.some.inj this).symm
  obtain ⟨N, hN⟩ : ∃ N, g.1 = ((N + 2000) + 1 + 1 * 7) + 1 := ⟨g.1 - 2009, by omega⟩
  have E0 : fX11_stands g [.ref M] w = jX11_stands g ((N + 2000) + 1 + 1 * 7) 1 [] [some (.ref M), some (.int 0), none] w := by
    generalize (N + 2000) + 1 + 1 * 7 = FF at *
    simp [fX11_stands, kX11_stands, ent, entp, jX11_stands, bX11_stands_0, bX11_stands_1, bX11_stands_2, bX11_stands_3, bX11_stands_4, bX11_stands_5, bX11_stands_6, bX11_stands_7, bX11_stands_8, bX11_stands_9, bX11_stands_10, i_aaload, i_aload, i_getf, i_iaload, i_iastore, i_icge, i_iinc, i_iload, i_istore, i_jmp, i_push, i_putf, i_return, msk, lset1, lset2, clr, Value.category, Option.toList, List.cons_append, List.nil_append, List.length_cons, List.length_nil, hN]
  rw [E0]
  obtain ⟨f1, w1, l1, E1, A1, F1⟩ := sd_1 (g := g) hO h3 ⟨_, d4⟩ (N + 2000)
  obtain ⟨z1, y1⟩ : ∃ z, f1 = z + 1 + 1 * 4 := ⟨f1 - 5, by omega⟩
  subst y1
  have o1 := F1.at hO (by omega)
  obtain ⟨f2, w2, l2, E2, A2, B2, F2⟩ := sd_2 (g := g) o1 (hl.fr F1 (by omega)) ⟨_, hd6.fr F1 (by omega)⟩ (he.fr F1 (by omega)) ⟨_, hd10.fr F1 (by omega)⟩ z1
  obtain ⟨z2, y2⟩ : ∃ z, f2 = z + 1 + 1 * 5 := ⟨f2 - 6, by omega⟩
  subst y2
  have o2 := F2.at o1 (by omega)
  have F12 : Fr (fun q => q = M + 4 ∨ q = M + 6 ∨ q = M + 10) w w2 := (F1.mn fun a h => Or.inl h).tr (F2.mn fun a h => Or.inr h)
  obtain ⟨f3, w3, l3, E3, A3, F3⟩ := sd_3 (g := g) o2 (hw.fr F12 (by omega)) ⟨_, hd8.fr F12 (by omega)⟩ z2
  obtain ⟨z3, y3⟩ : ∃ z, f3 = z + 1 + 5 * δ.1 2 := ⟨f3 - 1 - 5 * δ.1 2, by omega⟩
  subst y3
  have o3 := F3.at o2 (by omega)
  have F13 : Fr (fun q => q = M + 4 ∨ q = M + 6 ∨ q = M + 10 ∨ q = M + 8) w w3 := (F12.mn fun a h => by omega).tr (F3.mn fun a h => by omega)
  have A13 := (A1.fr F2 (by omega)).fr F3 (by omega)
  obtain ⟨f4, w4, l4, E4, ⟨c4, A4, k4⟩, F4⟩ := sd_4 (g := g) o3 A13 e2 b3 (hp.fr F13 (fun i hi => by omega)) ⟨_, hd22.fr F13 (fun i hi => by omega)⟩ z3
  obtain ⟨z4, y4⟩ : ∃ z, f4 = z + 1 + 5 * δ.1 5 := ⟨f4 - 1 - 5 * δ.1 5, by omega⟩
  subst y4
  have o4 := F4.at o3 (by unfold rg; omega)
  have A14 := A13.fr F4 (by unfold rg; omega)
  obtain ⟨f5, w5, l5, E5, ⟨c5, A5, k5⟩, F5⟩ := sd_6 (g := g) o4 A14 e5 b6 ((hs.fr F13 (fun i hi => by omega)).fr F4 (fun i hi => by unfold rg; omega)) ⟨_, (hd69.fr F13 (fun i hi => by omega)).fr F4 (fun i hi => by unfold rg; omega)⟩ z4
  obtain ⟨z5, y5⟩ : ∃ z, f5 = z + 1 + 108 * δ.1 3 := ⟨f5 - 1 - 108 * δ.1 3, by omega⟩
  subst y5
  have o5 := F5.at o4 (by unfold rg; omega)
  have A15 := A14.fr F5 (by unfold rg; omega)
  have F45 : Fr (fun q => rg (M + 22) (M + 32) q ∨ rg (M + 69) (M + 106) q) w3 w5 := (F4.mn fun a h => by unfold rg at *; omega).tr (F5.mn fun a h => by unfold rg at *; omega)
  obtain ⟨f6, w6, l6, E6, ⟨c6, A6, k6⟩, ⟨c7, A7, k7⟩, F6⟩ := sd_8 (g := g) o5 A15 e3 b4 ((hb.fr F13 (fun i hi => by omega)).fr F45 (fun i hi => by unfold rg; omega)) ((hc.fr F13 (fun i hi => by omega)).fr F45 (fun i hi => by unfold rg; omega)) ⟨_, (hd115.fr F13 (fun i hi => by omega)).fr F45 (fun i hi => by unfold rg; omega)⟩ ⟨_, (hd133.fr F13 (fun i hi => by omega)).fr F45 (fun i hi => by unfold rg; omega)⟩ (z5 + 1)
  obtain ⟨z6, y6⟩ : ∃ z, f6 = z + 1 := ⟨f6 - 1, by omega⟩
  subst y6
  have o6 := F6.at o5 (by unfold rg; omega)
  have A16 := A15.fr F6 (by unfold rg; omega)
  have F46 : Fr (fun q => rg (M + 22) (M + 32) q ∨ rg (M + 69) (M + 106) q ∨ rg (M + 115) (M + 124) q ∨ rg (M + 133) (M + 142) q) w3 w6 := (F45.mn fun a h => by unfold rg at *; omega).tr (F6.mn fun a h => by unfold rg at *; omega)
  have F16 : Fr (SD M) w w6 := (F13.mn fun a h => by unfold SD SL rg; omega).tr (F46.mn fun a h => by unfold SD SL rg at *; omega)
  -- the deed stands
  have D6 : RD w6 M (dC δ 6 P) := by
    refine ⟨A16.cg fun i hi => ?_, ⟨cl, (A2.fr F3 (by omega)).fr F46 (by unfold rg; omega), kl⟩, ⟨cw, (A3.fr F46 (by unfold rg; omega)), kw⟩, ⟨ce, (B2.fr F3 (by omega)).fr F46 (by unfold rg; omega), ke⟩, ⟨c4, (A4.fr F5 (fun i hi => by unfold rg; omega)).fr F6 (fun i hi => by unfold rg; omega), fun k hk => ?_⟩, ⟨c5, A5.fr F6 (fun i hi => by unfold rg; omega), fun p hp => ?_⟩, ⟨c6, A6, fun b hb => ?_⟩, ⟨c7, A7, fun b hb i hi => ?_⟩⟩
    · have : i = 0 ∨ i = 1 ∨ i = 2 ∨ i = 3 ∨ i = 4 ∨ i = 5 ∨ i = 6 := by omega
      rcases this with z | z | z | z | z | z | z <;> subst z
      · exact e0
      · exact e1
      · exact e2
      · exact e3
      · exact e4
      · exact e5
      · exact e6
    · have hk' : k < δ.1 2 := hk
      obtain ⟨u1, u2, u3⟩ := kp k hk'
      rw [k4 k hk' 0 (by decide), k4 k hk' 1 (by decide), k4 k hk' 2 (by decide)]
      exact ⟨u1, fun h => u2 hk' h, u3⟩
    · have hp' : p < δ.1 5 := hp
      rw [k5 p hp' 0 (by decide), k5 p hp' 1 (by decide)]
      have eb : bat (dC δ 6 P) p ((dC δ 6 P).1 3) = bat δ p (δ.1 3) := bat_cg fun j hj => rfl
      rw [eb]
      exact ks p hp'
    · have hb' : b < δ.1 3 := hb
      rw [k6 b hb' 0 (by decide), k6 b hb' 1 (by decide), k6 b hb' 2 (by decide), k6 b hb' 3 (by decide), k6 b hb' 4 (by decide)]
      exact kb b hb'
    · have hb' : b < δ.1 3 := hb
      have hi' : i < δ.2 10 b := hi
      have := (hd.2.2.2.1 b hb).2.1
      have l100 : δ.2 10 b ≤ 100 := this
      rw [k7 b hb' i (by omega)]
      exact kc b hb' i hi'
  -- copies, habits, images
  have s1 := st_32 o6 0
  obtain ⟨w7, hw7⟩ : ∃ z, mset w6 M (.inr (10, mo M (va_up x 32 0))) = z := ⟨_, rfl⟩
  rw [hw7] at s1
  have o7 : MO w7 M (va_up x 32 0) := hw7 ▸ ms_at _ _ _
  have s2 := st_33 o7 0
  obtain ⟨w8, hw8⟩ : ∃ z, mset w7 M (.inr (10, mo M (va_up (va_up x 32 0) 33 0))) = z := ⟨_, rfl⟩
  rw [hw8] at s2
  have o8 : MO w8 M (va_up (va_up x 32 0) 33 0) := hw8 ▸ ms_at _ _ _
  have s3 := st_34 o8 0
  obtain ⟨w9, hw9⟩ : ∃ z, mset w8 M (.inr (10, mo M (va_up (va_up (va_up x 32 0) 33 0) 34 0))) = z := ⟨_, rfl⟩
  rw [hw9] at s3
  have o9 : MO w9 M (va_up (va_up (va_up x 32 0) 33 0) 34 0) := hw9 ▸ ms_at _ _ _
  have F79 : Fr (fun q => q = M) w6 w9 := ((hw7 ▸ Fr.ms _ _ rfl : Fr (fun q => q = M) w6 w7).tr (hw8 ▸ Fr.ms _ _ rfl : Fr (fun q => q = M) w7 w8)).tr (hw9 ▸ Fr.ms _ _ rfl : Fr (fun q => q = M) w8 w9)
  have F19 : Fr (SD M) w w9 := F16.tr (F79.mn fun a h => by unfold SD SL; omega)
  have F19' : Fr (fun a => a = M ∨ (M + 4 ≤ a ∧ a < M + 142)) w w9 := by
    refine (((F13.mn fun a h => ?_).tr (F46.mn fun a h => ?_)).tr (F79.mn fun a h => ?_))
    · omega
    · unfold rg at h; omega
    · omega
  have T9 : RT w9 M (dC δ 6 P) 0 := by
    obtain ⟨⟨t1, u1, -⟩, ⟨t2, u2, -⟩, ⟨t3, u3, -⟩, ⟨t4, u4, -⟩⟩ := hT
    exact ⟨⟨t1, u1.fr F19' (by omega), fun i hi => by cases hi⟩, ⟨t2, u2.fr F19' (by omega), fun i hi => by cases hi⟩, ⟨t3, u3.fr F19' (by omega), fun i hi => by cases hi⟩, ⟨t4, u4.fr F19' (by omega), fun i hi => by cases hi⟩⟩
  obtain ⟨wz, xz, r1, r2, r3, r4, r5, r6, r7⟩ := laysReadings_sp hg hd o9 (D6.fr F79 fun i h1 h2 => by omega) (hS.fr F19' fun i h1 h2 => by omega) T9
  have D9 := (D6.fr F79 fun i h1 h2 => by omega).fr r7 fun i h1 h2 => by unfold SL rg; omega
  refine ⟨wz, xz, ?_, r2, fun j j27 j42 j32 j33 j34 => ?_, ?_, ?_, ?_, r4, D9, r5, r6, F19.tr (r7.mn fun a h => Or.inl h)⟩
  · rw [E1, E2, E3, E4, E5, show z5 + 1 + 108 * δ.1 3 = (z5 + 1) + 108 * δ.1 3 from rfl, E6]
    clear E0 E1 E2 E3 E4 E5 E6
    have r43 := A16.rc 3 3 rfl (by decide) (by decide)
    rw [e3] at r43
    simp [jX11_stands, bX11_stands_0, bX11_stands_1, bX11_stands_2, bX11_stands_3, bX11_stands_4, bX11_stands_5, bX11_stands_6, bX11_stands_7, bX11_stands_8, bX11_stands_9, bX11_stands_10, i_aaload, i_aload, i_getf, i_iaload, i_iastore, i_icge, i_iinc, i_iload, i_istore, i_jmp, i_push, i_putf, i_return, msk, lset1, lset2, clr, Value.category, Option.toList, List.cons_append, List.nil_append, List.length_cons, List.length_nil, gf_eq o6, mg_11, r43, s1, s2, s3, cvk_0 o9 r1]
  · rw [r3 j j27 j42, va_ne j34, va_ne j33, va_ne j32]
  · rw [r3 32 (by decide) (by decide)]; rfl
  · rw [r3 33 (by decide) (by decide)]; rfl
  · rw [r3 34 (by decide) (by decide)]; rfl
theorem deed_r {g : GE} {w : Mem} {M fed kept : Nat} {fp : Int32} {tp : Nat → Int32} {rf : Nat → Nat} {δ : DE} {τ : TE} {im : Nat → TE} {x : Nat → Int32} (hg : FU g) (hd : WF δ) (hI : RI w M fed kept fp tp rf δ τ im x) (hf : fed ≤ 600) {T : Nat → Nat} (hT : TXT w (M + 1) T) (δ0 : DE) (x0 : Int32) : RZo w M (fX11_deed g [.ref M, .int x0] w) (deedS (fed, kept, fp, tp, rf, δ, τ, im) T δ0 x0).1 (deedS (fed, kept, fp, tp, rf, δ, τ, im) T δ0 x0).2 := by
  obtain ⟨w0, hw0, I0, F0⟩ := hI.t0
  obtain ⟨hO, hXO, hRK, hRZ, hrf⟩ := id I0
  obtain ⟨x1', x3', x27, x32, x33, x34⟩ := id hXO
  obtain ⟨hTp, hD, hR, hCp, hHb, hKp, hRP⟩ := id hRK
  have x0' : (va_up x 0 0) 0 = 0 := va_up_self _ _ _
  unfold deedS
  have q0 := in_sp (w := w0) hg x0 (n := fed + 1) (y := nI fed) (nI_pred fed) (by omega)
  simp only []
  cases h0 : rng x0 (fed + 1) with
  | none =>
    rw [h0] at q0
    simp only [bI, Option.isSome, Bool.false_eq_true, if_false] at q0
    obtain ⟨w1, p1, p2, p3⟩ := bad1_sp hg I0 x0' (c := 1) (r := 2) (C := 1) (R := 2) rfl rfl (by decide) (by decide)
    refine RZo.of (o := .inr (1, 2)) (RQo.no (v := .int 0) F0 p2 ?_ p3)
    obtain ⟨N, hN⟩ : ∃ N, g.1 = N + 2 := ⟨g.1 - 2, by omega⟩
    simp [fX11_deed, kX11_deed, ent, entp, jX11_deed, bX11_deed_0, bX11_deed_1, bX11_deed_2, bX11_deed_3, bX11_deed_4, bX11_deed_5, bX11_deed_6, bX11_deed_7, bX11_deed_8, i_aaload, i_aload, i_getf, i_iaload, i_iastore, i_icge, i_icle, i_ifeq, i_ifne, i_iinc, i_iload, i_imul, i_ireturn, i_istore, i_isub, i_jmp, i_push, i_putf, msk, lset1, lset2, clr, Value.category, Option.toList, List.cons_append, List.nil_append, List.length_cons, List.length_nil, hN, st_0 hI.1, hw0, gf_eq hO, mg_1, x1', csk_3 q0, cvk_3 hO p1]
  | some n =>
    rw [h0] at q0
    simp only [bI, Option.isSome, if_true] at q0
    obtain ⟨ln, en⟩ := rng_some (by omega) h0
    subst en
    simp only []
    have hn : n ≤ 600 := by omega
    -- the object is made ready
    have bd0 := bad0_sp hg hO x0' 1 2
    have s1 := st_1 hO 0
    obtain ⟨w1, hw1⟩ : ∃ z, mset w0 M (.inr (10, mo M (va_up (va_up x 0 0) 1 0))) = z := ⟨_, rfl⟩
    rw [hw1] at s1
    have o1 : MO w1 M (va_up (va_up x 0 0) 1 0) := hw1 ▸ ms_at _ _ _
    generalize hX1 : va_up (va_up x 0 0) 1 0 = X1 at *
    have s2 := st_2 o1 (nI n)
    obtain ⟨w2, hw2⟩ : ∃ z, mset w1 M (.inr (10, mo M (va_up X1 2 (nI n)))) = z := ⟨_, rfl⟩
    rw [hw2] at s2
    have o2 : MO w2 M (va_up X1 2 (nI n)) := hw2 ▸ ms_at _ _ _
    have s3 := st_4 o2 0
    obtain ⟨w3, hw3⟩ : ∃ z, mset w2 M (.inr (10, mo M (va_up (va_up X1 2 (nI n)) 4 0))) = z := ⟨_, rfl⟩
    rw [hw3] at s3
    have o3 : MO w3 M (va_up (va_up X1 2 (nI n)) 4 0) := hw3 ▸ ms_at _ _ _
    have s4 := st_5 o3 0
    obtain ⟨w4, hw4⟩ : ∃ z, mset w3 M (.inr (10, mo M (va_up (va_up (va_up X1 2 (nI n)) 4 0) 5 0))) = z := ⟨_, rfl⟩
    rw [hw4] at s4
    have o4 : MO w4 M (va_up (va_up (va_up X1 2 (nI n)) 4 0) 5 0) := hw4 ▸ ms_at _ _ _
    have s5 := st_6 o4 (-1)
    obtain ⟨w5, hw5⟩ : ∃ z, mset w4 M (.inr (10, mo M (va_up (va_up (va_up (va_up X1 2 (nI n)) 4 0) 5 0) 6 (-1)))) = z := ⟨_, rfl⟩
    rw [hw5] at s5
    have o5 : MO w5 M (va_up (va_up (va_up (va_up X1 2 (nI n)) 4 0) 5 0) 6 (-1)) := hw5 ▸ ms_at _ _ _
    have s6 := st_7 o5 0
    obtain ⟨w6, hw6⟩ : ∃ z, mset w5 M (.inr (10, mo M (va_up (va_up (va_up (va_up (va_up X1 2 (nI n)) 4 0) 5 0) 6 (-1)) 7 0))) = z := ⟨_, rfl⟩
    rw [hw6] at s6
    have o6 : MO w6 M (va_up (va_up (va_up (va_up (va_up X1 2 (nI n)) 4 0) 5 0) 6 (-1)) 7 0) := hw6 ▸ ms_at _ _ _
    have Fa : Fr (fun q => q = M) w0 w6 := (((((hw1 ▸ Fr.ms _ _ rfl : Fr (fun q => q = M) w0 w1).tr (hw2 ▸ Fr.ms _ _ rfl : Fr (fun q => q = M) w1 w2)).tr (hw3 ▸ Fr.ms _ _ rfl : Fr (fun q => q = M) w2 w3)).tr (hw4 ▸ Fr.ms _ _ rfl : Fr (fun q => q = M) w3 w4)).tr (hw5 ▸ Fr.ms _ _ rfl : Fr (fun q => q = M) w4 w5)).tr (hw6 ▸ Fr.ms _ _ rfl : Fr (fun q => q = M) w5 w6)
    generalize hX6 : va_up (va_up (va_up (va_up (va_up X1 2 (nI n)) 4 0) 5 0) 6 (-1)) 7 0 = X6 at *
    have y0 : X6 0 = 0 := by rw [← hX6, ← hX1]; rfl
    have y1 : X6 1 = 0 := by rw [← hX6, ← hX1]; rfl
    have y2 : X6 2 = nI n := by rw [← hX6]; rfl
    have y4 : X6 4 = 0 := by rw [← hX6]; rfl
    have y5 : X6 5 = 0 := by rw [← hX6]; rfl
    have y6 : X6 6 = -1 := by rw [← hX6]; rfl
    have y7 : X6 7 = 0 := by rw [← hX6]; rfl
    have yj : ∀ j, 8 ≤ j → X6 j = x j := fun j hj => by
      rw [← hX6, ← hX1, va_ne (by omega), va_ne (by omega), va_ne (by omega), va_ne (by omega), va_ne (by omega), va_ne (by omega), va_ne (by omega)]
    have z27 : x 27 = nI (nR δ) := x27
    have z32 : x 32 = nI (τ.1 0) := x32
    have z33 : x 33 = nI (τ.1 1) := x33
    have z34 : x 34 = nI kept := x34
    obtain ⟨N, hN⟩ : ∃ N, g.1 = ((N + 1000) + 1 + 1 * 7) + 2 := ⟨g.1 - 1010, by omega⟩
    have E0 : fX11_deed g [.ref M, .int (nI n)] w = jX11_deed g ((N + 1000) + 1 + 1 * 7) 2 [] [some (.ref M), none, some (.int 0)] w6 := by
      generalize (N + 1000) + 1 + 1 * 7 = FF at *
      simp [fX11_deed, kX11_deed, ent, entp, jX11_deed, bX11_deed_0, bX11_deed_1, bX11_deed_2, bX11_deed_3, bX11_deed_4, bX11_deed_5, bX11_deed_6, bX11_deed_7, bX11_deed_8, i_aaload, i_aload, i_getf, i_iaload, i_iastore, i_icge, i_icle, i_ifeq, i_ifne, i_iinc, i_iload, i_imul, i_ireturn, i_istore, i_isub, i_jmp, i_push, i_putf, msk, lset1, lset2, clr, Value.category, Option.toList, List.cons_append, List.nil_append, List.length_cons, List.length_nil, hN, st_0 hI.1, hw0, gf_eq hO, mg_1, x1', csk_3 q0, cvk_3 hO bd0, s1, s2, s3, s4, s5, s6]
    have T0 : TXT w6 (M + 1) T := (hT.fr F0 (by omega)).fr Fa (by omega)
    have P6 : RP w6 M := hRP.fr Fa fun i h1 h2 => by omega
    obtain ⟨f1, w7, l1, E1, o7, G7, F7⟩ := de_2 hg o6 y2 y4 T0 hn P6 δ0 (N + 1000)
    obtain ⟨z1, hz1⟩ : ∃ z, f1 = (z + 100) + 2 * (40 + 1) := ⟨f1 - 182, by omega⟩
    subst hz1
    have T7 := T0.fr F7 (by unfold SR rg; omega)
    obtain ⟨f2, w8, l2, E2, R8, F8⟩ := de_3 hg hn 40 0 w7 _ (clear δ0) 0 rfl o7 y2 (va_up_self _ _ _) y5 y7 T7 (Nat.zero_le _) G7 (clear_ok δ0) (z1 + 100)
    rw [E0, E1, E2]
    clear E0 E1 E2 s1 s2 s3 s4 s5 s6 bd0 q0
    have Fb : Fr (SR M) w0 w8 := ((Fa.mn (SR_M M)).tr F7).tr F8
    have hFS : ∀ {u v : Mem}, Fr (SR M) u v → Fr (rg M (M + 179)) u v := fun h => h.mn fun a k => by unfold SR rg at *; omega
    -- what reading leaves alone
    have kp : ∀ {u : Mem}, Fr (SR M) w0 u → RP u M → (∀ {x' : Nat → Int32} {fed' : Nat} {fp' : Int32}, MO u M x' → XO x' fed' kept fp' δ τ → RI u M fed' kept fp' tp rf δ τ im x') := fun {u} h hp {x'} {fed'} {fp'} ho hx => by
      refine ⟨ho, hx, ⟨hTp.fr h (by unfold SR rg; omega), ?_, hR.fr h (fun i h1 h2 => by unfold SR rg; omega), hCp.fr h (fun i hi => by unfold SR rg; omega), hHb.fr h (fun i hi => by unfold SR rg; omega), ?_, hp⟩, hRZ.fr h (fun i h1 h2 => by unfold SR rg; omega), hrf.fr h (by unfold SR rg; omega)⟩
      · obtain ⟨a1, ⟨c2, a2, k2⟩, ⟨c3, a3, k3⟩, ⟨c4, a4, k4⟩, ⟨c5, a5, k5⟩, ⟨c6, a6, k6⟩, ⟨c7, a7, k7⟩, ⟨c8, a8, k8⟩⟩ := hD
        exact ⟨a1.fr h (by unfold SR rg; omega), ⟨c2, a2.fr h (by unfold SR rg; omega), k2⟩, ⟨c3, a3.fr h (by unfold SR rg; omega), k3⟩, ⟨c4, a4.fr h (by unfold SR rg; omega), k4⟩, ⟨c5, a5.fr h (fun i hi => by unfold SR rg; omega), k5⟩, ⟨c6, a6.fr h (fun i hi => by unfold SR rg; omega), k6⟩, ⟨c7, a7.fr h (fun i hi => by unfold SR rg; omega), k7⟩, ⟨c8, a8.fr h (fun i hi => by unfold SR rg; omega), k8⟩⟩
      · obtain ⟨c, a1, k1⟩ := hKp
        exact ⟨c, a1.fr h (fun i hi => by unfold SR rg; omega), k1⟩
    unfold deedP
    cases hr : clsP T n 41 0 (clear δ0, 0) with
    | inl e =>
      rw [hr] at R8
      have R8' : RFt w8 M X6 n e := RFt.o4 R8
      obtain ⟨f3, hf3⟩ : ∃ z, f2 = z + 4 := ⟨f2 - 4, by omega⟩
      subst hf3
      obtain ⟨w9, x9, t1, t2, t3, t4, t5, t6⟩ := de_f (g := g) R8' f3
      have xo9 : XO x9 0 kept (nI e.2) δ τ := ⟨by rw [t4 1 (by decide) (by decide) (by decide) (by decide) (by decide), y1]; rfl, t3, by rw [t4 27 (by decide) (by decide) (by decide) (by decide) (by decide), yj 27 (by decide), z27], by rw [t4 32 (by decide) (by decide) (by decide) (by decide) (by decide), yj 32 (by decide), z32], by rw [t4 33 (by decide) (by decide) (by decide) (by decide) (by decide), yj 33 (by decide), z33], by rw [t4 34 (by decide) (by decide) (by decide) (by decide) (by decide), yj 34 (by decide), z34]⟩
      exact RZo.ok F0 (kp (Fb.tr t6) t5 t2 xo9) (by rw [t4 0 (by decide) (by decide) (by decide) (by decide) (by decide), y0]) t1 (hFS (Fb.tr t6))
    | inr y =>
      obtain ⟨δ1, a1⟩ := y
      rw [hr] at R8
      obtain ⟨x8, o8, k8, G8⟩ := R8
      have G8 : RG w8 M δ1 (δ1.1 2) (δ1.1 2) := G8
      have W8 : PW δ1 := clsP_ok hr (Nat.zero_le _) (clear_ok δ0)
      have Q8 := W8.1
      have x8j : ∀ j, j ≠ 4 → j ≠ 7 → x8 j = X6 j := fun j j4 j7 => by rw [k8 j j4 j7, va_ne j4]
      have m5 : x8 5 = 0 := by rw [x8j 5 (by decide) (by decide), y5]
      have m2 : x8 2 = nI n := by rw [x8j 2 (by decide) (by decide), y2]
      have m6 : x8 6 = -1 := by rw [x8j 6 (by decide) (by decide), y6]
      have b3 := Q8.1.2.2.2.1
      obtain ⟨f3, hf3⟩ : ∃ z, f2 = (z + 10) + 1 + 2 * δ1.1 3 + 1 := ⟨f2 - 12 - 2 * δ1.1 3, by omega⟩
      subst hf3
      obtain ⟨f4, w9, l4, E4, o9, G9, r6, F9⟩ := de_5 (g := g) o8 m5 G8 Q8 (f3 + 10)
      rw [E4]
      clear E4
      obtain ⟨c1, c2, c3⟩ := cpF_ok (δ := δ1) (B := δ1.1 3) fun b hb => ⟨(Q8.2.2.1 b hb).1, (Q8.2.2.1 b hb).2.1⟩
      have Fc : Fr (SR M) w0 w9 := Fb.tr F9
      obtain ⟨f5, hf5⟩ : ∃ z, f4 = z + 2 := ⟨f4 - 2, by omega⟩
      subst hf5
      simp only [bd]
      by_cases u : 20000 < prd δ1 (δ1.1 3)
      · rw [if_pos u]
        simp only []
        have u' : 20000 < cpF δ1 (δ1.1 3) := Nat.lt_of_not_le fun q => by rw [c2 q] at q; omega
        have e1 : ¬ nI (cpF δ1 (δ1.1 3)) ≤ 20000 := nI_ge (a := 20000) u' (by omega)
        obtain ⟨wa, p1, p2, p3⟩ := wrong_sp hg o9 m5 4 (nI n)
        have st := st_3 p2 (nI n)
        have Fd : Fr (fun q => q = M) wa (mset wa M (.inr (10, mo M (va_up (va_up (va_up x8 5 4) 6 (nI n)) 3 (nI n))))) := Fr.ms _ _ rfl
        have od : MO (mset wa M (.inr (10, mo M (va_up (va_up (va_up x8 5 4) 6 (nI n)) 3 (nI n))))) M (va_up (va_up (va_up x8 5 4) 6 (nI n)) 3 (nI n)) := ms_at _ _ _
        generalize mset wa M (.inr (10, mo M (va_up (va_up (va_up x8 5 4) 6 (nI n)) 3 (nI n)))) = wb at *
        have Fe : Fr (SR M) w0 wb := (Fc.tr (p3.mn (SR_M M))).tr (Fd.mn (SR_M M))
        have g6 : va_up (va_up x8 5 4) 6 (nI n) 6 = nI n := va_up_self _ _ _
        have g5 : va_up (va_up (va_up x8 5 4) 6 (nI n)) 3 (nI n) 5 = 4 := rfl
        have pb : RP wb M := ((G9.fr p3 fun i h1 h2 => by omega).fr Fd fun i h1 h2 => by omega).rp
        have xo9 : XO (va_up (va_up (va_up x8 5 4) 6 (nI n)) 3 (nI n)) 0 kept (nI n) δ τ := by
          refine ⟨?_, rfl, ?_, ?_, ?_, ?_⟩
          · show x8 1 = _
            rw [x8j 1 (by decide) (by decide), y1]; rfl
          · show x8 27 = _
            rw [x8j 27 (by decide) (by decide), yj 27 (by decide), z27]
          · show x8 32 = _
            rw [x8j 32 (by decide) (by decide), yj 32 (by decide), z32]
          · show x8 33 = _
            rw [x8j 33 (by decide) (by decide), yj 33 (by decide), z33]
          · show x8 34 = _
            rw [x8j 34 (by decide) (by decide), yj 34 (by decide), z34]
        refine RZo.ok F0 (kp Fe pb od xo9) ?_ ?_ (hFS Fe)
        · show x8 0 = 0
          rw [x8j 0 (by decide) (by decide), y0]
        · show _ = some (Sum.inl (some (Value.int (4 - 10))), wb)
          clear kp xo9
          generalize cpF δ1 (δ1.1 3) = C at *
          simp [jX11_deed, bX11_deed_0, bX11_deed_1, bX11_deed_2, bX11_deed_3, bX11_deed_4, bX11_deed_5, bX11_deed_6, bX11_deed_7, bX11_deed_8, i_aaload, i_aload, i_getf, i_iaload, i_iastore, i_icge, i_icle, i_ifeq, i_ifne, i_iinc, i_iload, i_imul, i_ireturn, i_istore, i_isub, i_jmp, i_push, i_putf, msk, lset1, lset2, clr, Value.category, Option.toList, List.cons_append, List.nil_append, List.length_cons, List.length_nil, gf_eq o9, mg_10, r6, e1, mg_2, m2, cvk_2 o9 p1, gf_eq p2, mg_6, g6, st, gf_eq od, mg_5, g5]
      · rw [if_neg u]
        simp only []
        have u' : cpF δ1 (δ1.1 3) ≤ 20000 := Nat.le_of_not_lt fun q => u (c3 q)
        have e1 : nI (cpF δ1 (δ1.1 3)) ≤ 20000 := nI_le (b := 20000) u' (by decide)
        have ec := c2 u'
        rw [ec] at r6 e1
        have wf : WF (dC δ1 6 (prd δ1 (δ1.1 3))) := deedP_ok (T := T) (n := n) (δ := δ0) (e := a1) (by unfold deedP; rw [hr]; simp only [bd]; rw [if_neg u])
        have st := st_3 o9 (-1)
        have Fd : Fr (fun q => q = M) w9 (mset w9 M (.inr (10, mo M (va_up x8 3 (-1))))) := Fr.ms _ _ rfl
        have od : MO (mset w9 M (.inr (10, mo M (va_up x8 3 (-1))))) M (va_up x8 3 (-1)) := ms_at _ _ _
        generalize mset w9 M (.inr (10, mo M (va_up x8 3 (-1)))) = wa at *
        have Fe : Fr (SR M) w0 wa := Fc.tr (Fd.mn (SR_M M))
        have Ga := G9.fr Fd fun i h1 h2 => by omega
        obtain ⟨c3', h3', q6⟩ : ∃ c, IA wa (M + 3) 7 c ∧ c 6 = nI (prd δ1 (δ1.1 3)) := by
          obtain ⟨⟨c, h, -⟩, -⟩ := G9
          have := h.rc 6 6 rfl (by decide) (by decide)
          rw [r6] at this
          exact ⟨c, h.fr Fd (by omega), (Option.some.inj this).symm⟩
        have r6' : gi wa 0 (M + 3) 6 = some (nI (prd δ1 (δ1.1 3))) := by rw [h3'.rc 6 6 rfl (by decide) (by decide), q6]
        have Ia := kp (x' := va_up x8 3 (-1)) (fed' := 0) (fp' := -1) Fe Ga.rp od (by
          refine ⟨?_, rfl, ?_, ?_, ?_, ?_⟩
          · show x8 1 = _
            rw [x8j 1 (by decide) (by decide), y1]; rfl
          · show x8 27 = _
            rw [x8j 27 (by decide) (by decide), yj 27 (by decide), z27]
          · show x8 32 = _
            rw [x8j 32 (by decide) (by decide), yj 32 (by decide), z32]
          · show x8 33 = _
            rw [x8j 33 (by decide) (by decide), yj 33 (by decide), z33]
          · show x8 34 = _
            rw [x8j 34 (by decide) (by decide), yj 34 (by decide), z34])
        obtain ⟨-, -, ⟨jTp, jD, jR, jCp, jHb, ⟨jc, jKp, -⟩, jRP⟩, ⟨jS, ⟨c1', j1⟩, ⟨c2', j2⟩, ⟨c4', j4⟩, ⟨c5', j5⟩⟩, jrf⟩ := Ia
        obtain ⟨wz, xz, t1, t2, t3, t4, t5, t6, t7, t8, t9, t10, t11⟩ := stands_sp hg od Ga r6' wf jD jS jR
        refine RZo.ok (w' := wz) F0 (fed' := 0) (kept' := 0) (fp := -1) (tp' := tp) (rf := rf) (δ := dC δ1 6 (prd δ1 (δ1.1 3))) (τ' := (va_up (va_up τ.1 0 0) 1 0, τ.2)) (im' := im) (x' := xz) ?_ ?_ ?_ ?_
        · refine ⟨t2, ⟨?_, ?_, t7, t4, t5, t6⟩, ⟨jTp.fr t11 (by unfold SD SL rg; omega), t8, t9, jCp.fr t11 (fun i hi => by unfold SD SL rg; omega), jHb.fr t11 (fun i hi => by unfold SD SL rg; omega), ⟨jc, jKp.fr t11 (fun i hi => by unfold SD SL rg; omega), fun i hi => by omega⟩, ?_⟩, ⟨t10, ⟨c1', j1.fr t11 (by unfold SD SL rg; omega)⟩, ⟨c2', j2.fr t11 (by unfold SD SL rg; omega)⟩, ⟨c4', j4.fr t11 (by unfold SD SL rg; omega)⟩, ⟨c5', j5.fr t11 (by unfold SD SL rg; omega)⟩⟩, jrf.fr t11 (by unfold SD SL rg; omega)⟩
          · rw [t3 1 (by decide) (by decide) (by decide) (by decide) (by decide)]
            show x8 1 = _
            rw [x8j 1 (by decide) (by decide), y1]; rfl
          · rw [t3 3 (by decide) (by decide) (by decide) (by decide) (by decide)]
            rfl
          · obtain ⟨⟨d1, z1⟩, ⟨d2, z2⟩, ⟨d3, z3⟩, ⟨d4, z4⟩, ⟨d5, z5⟩, ⟨d6, z6⟩, ⟨d7, z7⟩, ⟨d8, z8⟩, ⟨d9, z9⟩⟩ := jRP
            exact ⟨⟨d1, z1.fr t11 (by unfold SD SL rg; omega)⟩, ⟨d2, z2.fr t11 (by unfold SD SL rg; omega)⟩, ⟨d3, z3.fr t11 (by unfold SD SL rg; omega)⟩, ⟨d4, z4.fr t11 (by unfold SD SL rg; omega)⟩, ⟨d5, z5.fr t11 (by unfold SD SL rg; omega)⟩, ⟨d6, z6.fr t11 fun i hi => by unfold SD SL rg; omega⟩, ⟨d7, z7.fr t11 fun i hi => by unfold SD SL rg; omega⟩, ⟨d8, z8.fr t11 fun i hi => by unfold SD SL rg; omega⟩, ⟨d9, z9.fr t11 fun i hi => by unfold SD SL rg; omega⟩⟩
        · rw [t3 0 (by decide) (by decide) (by decide) (by decide) (by decide)]
          show x8 0 = 0
          rw [x8j 0 (by decide) (by decide), y0]
        · show _ = some (Sum.inl (some (Value.int (nI (δ1.1 3)))), wz)
          have r3 := t8.1.rc 3 3 rfl (by decide) (by decide)
          have r3' : gi wz 0 (M + 4) 3 = some (nI (δ1.1 3)) := r3
          have g5 : va_up x8 3 (-1) 5 = 0 := m5
          clear kp t8 r3 wf
          generalize prd δ1 (δ1.1 3) = C at *
          simp [jX11_deed, bX11_deed_0, bX11_deed_1, bX11_deed_2, bX11_deed_3, bX11_deed_4, bX11_deed_5, bX11_deed_6, bX11_deed_7, bX11_deed_8, i_aaload, i_aload, i_getf, i_iaload, i_iastore, i_icge, i_icle, i_ifeq, i_ifne, i_iinc, i_iload, i_imul, i_ireturn, i_istore, i_isub, i_jmp, i_push, i_putf, msk, lset1, lset2, clr, Value.category, Option.toList, List.cons_append, List.nil_append, List.length_cons, List.length_nil, gf_eq o9, mg_10, r6, e1, mg_6, m6, st, gf_eq od, mg_5, g5, cvk_0 od t1, gf_eq t2, mg_11, r3']
        · exact (hFS Fe).tr (t11.mn fun a h => by unfold SD SL rg at *; omega)
