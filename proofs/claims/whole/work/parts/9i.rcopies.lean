/-! ===== the reference: what was read stands ===== -/
section
variable {g : GE} {w : Mem} {M : Nat} {x : Nat → Int32}
theorem cp_up {w : Mem} {D n i : Nat} {c s : Nat → Int32} (h : IA w D n c) (hc : ∀ j, j < i → c j = s j) : IA (wi w 0 D i (s i)) D n (va_up c i (s i)) ∧ ∀ j, j < i + 1 → va_up c i (s i) j = s j :=
  ⟨h.up i (s i), fun j hj => by
    by_cases y : j = i
    · subst y; exact va_up_self _ _ _
    · rw [va_ne y]; exact hc j (by omega)⟩
theorem sd_1 (hO : MO w M x) {s0 : Nat → Int32} (a0 : IA w (M + 3) 7 s0) (b0 : ∃ c, IA w (M + 4) 7 c) (F : Nat) :
    ∃ f' w', F ≤ f' ∧ jX11_stands g (F + 1 + 1 * 7) 1 [] [some (.ref M), some (.int 0), none] w = jX11_stands g f' 2 [] [some (.ref M), some (.int 0), none] w' ∧ IA w' (M + 4) 7 s0 ∧ Fr (fun q => q = M + 4) w w' := by
  have L := lpC (fun f (z : Lv × Mem) => jX11_stands g f 1 [] z.1 z.2) (fun i z => z.1 = [some (.ref M), some (.int (nI i)), none] ∧ (∃ c, IA z.2 (M + 4) 7 c ∧ ∀ j, j < i → c j = s0 j) ∧ Fr (fun q => q = M + 4) w z.2) 1 7
    (fun i z hi hI f => by
      obtain ⟨k1, ⟨c0, p0, q0⟩, k6⟩ := hI
      have e7 : ¬ (7 : Int32) ≤ nI i := nI_ge (b := 7) hi (by decide)
      have o0 := k6.at hO (by omega)
      have r0 := (a0.fr k6 (by omega)).rd (j := i) (by omega) (by decide)
      have m0 := p0
      have w0' := m0.wr hi (by decide) (s0 i)
      obtain ⟨u0, v0⟩ := cp_up m0 q0
      obtain ⟨w1, hw1⟩ : ∃ q, wi z.2 0 (M + 4) i (s0 i) = q := ⟨_, rfl⟩
      rw [hw1] at w0' u0
      have F1 : Fr (fun q => q = M + 4) z.2 w1 := hw1 ▸ Fr.wi _ _ _ _ rfl
      have o1 := F1.at o0 (by omega)
      refine ⟨f, ([some (.ref M), some (.int (nI (i + 1))), none], w1), Nat.le_refl _, ⟨rfl, ⟨_, u0, v0⟩, (k6.tr (F1.mn fun a h => by omega))⟩, ?_⟩
      simp [jX11_stands, bX11_stands_0, bX11_stands_1, bX11_stands_2, bX11_stands_3, bX11_stands_4, bX11_stands_5, bX11_stands_6, bX11_stands_7, bX11_stands_8, bX11_stands_9, bX11_stands_10, i_aaload, i_aload, i_getf, i_iaload, i_iastore, i_icge, i_iinc, i_iload, i_istore, i_jmp, i_push, i_putf, i_return, msk, lset1, lset2, clr, Value.category, Option.toList, List.cons_append, List.nil_append, List.length_cons, List.length_nil, k1, e7, gf_eq o0, r0, w0', gf_eq o1, mg_10, mg_11, nI_1])
  obtain ⟨f1, z1, k1, ⟨i1, ⟨c0, p0, q0⟩, i6⟩, k3⟩ := L 7 0 ([some (.ref M), some (.int (nI 0)), none], w) (by omega) ⟨rfl, ⟨b0.choose, b0.choose_spec, fun j hj => by omega⟩, Fr.rf _ _⟩ (F + 1)
  obtain ⟨f2, rfl⟩ : ∃ z, f1 = z + 1 := ⟨f1 - 1, by omega⟩
  refine ⟨f2, z1.2, by omega, ?_, p0.cg q0, i6⟩
  rw [show jX11_stands g (F + 1 + 1 * 7) 1 [] [some (.ref M), some (.int 0), none] w = jX11_stands g (f2 + 1) 1 [] z1.1 z1.2 from k3]
  have e8 : (7 : Int32) ≤ nI 7 := by decide
  clear k3 L
  simp [jX11_stands, bX11_stands_0, bX11_stands_1, bX11_stands_2, bX11_stands_3, bX11_stands_4, bX11_stands_5, bX11_stands_6, bX11_stands_7, bX11_stands_8, bX11_stands_9, bX11_stands_10, i_aaload, i_aload, i_getf, i_iaload, i_iastore, i_icge, i_iinc, i_iload, i_istore, i_jmp, i_push, i_putf, i_return, msk, lset1, lset2, clr, Value.category, Option.toList, List.cons_append, List.nil_append, List.length_cons, List.length_nil, i1, e8]
theorem sd_2 (hO : MO w M x) {s0 : Nat → Int32} (a0 : IA w (M + 5) 9 s0) (b0 : ∃ c, IA w (M + 6) 4 c) {s1 : Nat → Int32} (a1 : IA w (M + 9) 4 s1) (b1 : ∃ c, IA w (M + 10) 4 c) (F : Nat) :
    ∃ f' w', F ≤ f' ∧ jX11_stands g (F + 1 + 1 * 4) 2 [] [some (.ref M), some (.int 0), none] w = jX11_stands g f' 3 [] [some (.ref M), some (.int 0), none] w' ∧ IA w' (M + 6) 4 s0 ∧ IA w' (M + 10) 4 s1 ∧ Fr (fun q => q = M + 6 ∨ q = M + 10) w w' := by
  have L := lpC (fun f (z : Lv × Mem) => jX11_stands g f 2 [] z.1 z.2) (fun i z => z.1 = [some (.ref M), some (.int (nI i)), none] ∧ (∃ c, IA z.2 (M + 6) 4 c ∧ ∀ j, j < i → c j = s0 j) ∧ (∃ c, IA z.2 (M + 10) 4 c ∧ ∀ j, j < i → c j = s1 j) ∧ Fr (fun q => q = M + 6 ∨ q = M + 10) w z.2) 1 4
    (fun i z hi hI f => by
      obtain ⟨k1, ⟨c0, p0, q0⟩, ⟨c1, p1, q1⟩, k6⟩ := hI
      have e7 : ¬ (4 : Int32) ≤ nI i := nI_ge (b := 4) hi (by decide)
      have o0 := k6.at hO (by omega)
      have r0 := (a0.fr k6 (by omega)).rd (j := i) (by omega) (by decide)
      have m0 := p0
      have w0' := m0.wr hi (by decide) (s0 i)
      obtain ⟨u0, v0⟩ := cp_up m0 q0
      obtain ⟨w1, hw1⟩ : ∃ q, wi z.2 0 (M + 6) i (s0 i) = q := ⟨_, rfl⟩
      rw [hw1] at w0' u0
      have F1 : Fr (fun q => q = M + 6) z.2 w1 := hw1 ▸ Fr.wi _ _ _ _ rfl
      have o1 := F1.at o0 (by omega)
      have r1 := ((a1.fr k6 (by omega)).fr F1 (by omega)).rd (j := i) (by omega) (by decide)
      have m1 := (p1.fr F1 (by omega))
      have w1' := m1.wr hi (by decide) (s1 i)
      obtain ⟨u1, v1⟩ := cp_up m1 q1
      obtain ⟨w2, hw2⟩ : ∃ q, wi w1 0 (M + 10) i (s1 i) = q := ⟨_, rfl⟩
      rw [hw2] at w1' u1
      have F2 : Fr (fun q => q = M + 10) w1 w2 := hw2 ▸ Fr.wi _ _ _ _ rfl
      have o2 := F2.at o1 (by omega)
      refine ⟨f, ([some (.ref M), some (.int (nI (i + 1))), none], w2), Nat.le_refl _, ⟨rfl, ⟨_, (u0.fr F2 (by omega)), v0⟩, ⟨_, u1, v1⟩, ((k6.tr (F1.mn fun a h => by omega)).tr (F2.mn fun a h => by omega))⟩, ?_⟩
      simp [jX11_stands, bX11_stands_0, bX11_stands_1, bX11_stands_2, bX11_stands_3, bX11_stands_4, bX11_stands_5, bX11_stands_6, bX11_stands_7, bX11_stands_8, bX11_stands_9, bX11_stands_10, i_aaload, i_aload, i_getf, i_iaload, i_iastore, i_icge, i_iinc, i_iload, i_istore, i_jmp, i_push, i_putf, i_return, msk, lset1, lset2, clr, Value.category, Option.toList, List.cons_append, List.nil_append, List.length_cons, List.length_nil, k1, e7, gf_eq o0, r0, w0', gf_eq o1, mg_12, mg_13, r1, w1', gf_eq o2, mg_16, mg_17, nI_1])
  obtain ⟨f1, z1, k1, ⟨i1, ⟨c0, p0, q0⟩, ⟨c1, p1, q1⟩, i6⟩, k3⟩ := L 4 0 ([some (.ref M), some (.int (nI 0)), none], w) (by omega) ⟨rfl, ⟨b0.choose, b0.choose_spec, fun j hj => by omega⟩, ⟨b1.choose, b1.choose_spec, fun j hj => by omega⟩, Fr.rf _ _⟩ (F + 1)
  obtain ⟨f2, rfl⟩ : ∃ z, f1 = z + 1 := ⟨f1 - 1, by omega⟩
  refine ⟨f2, z1.2, by omega, ?_, p0.cg q0, p1.cg q1, i6⟩
  rw [show jX11_stands g (F + 1 + 1 * 4) 2 [] [some (.ref M), some (.int 0), none] w = jX11_stands g (f2 + 1) 2 [] z1.1 z1.2 from k3]
  have e8 : (4 : Int32) ≤ nI 4 := by decide
  clear k3 L
  simp [jX11_stands, bX11_stands_0, bX11_stands_1, bX11_stands_2, bX11_stands_3, bX11_stands_4, bX11_stands_5, bX11_stands_6, bX11_stands_7, bX11_stands_8, bX11_stands_9, bX11_stands_10, i_aaload, i_aload, i_getf, i_iaload, i_iastore, i_icge, i_iinc, i_iload, i_istore, i_jmp, i_push, i_putf, i_return, msk, lset1, lset2, clr, Value.category, Option.toList, List.cons_append, List.nil_append, List.length_cons, List.length_nil, i1, e8]
theorem sd_3 (hO : MO w M x) {s0 : Nat → Int32} (a0 : IA w (M + 7) 5 s0) (b0 : ∃ c, IA w (M + 8) 5 c) (F : Nat) :
    ∃ f' w', F ≤ f' ∧ jX11_stands g (F + 1 + 1 * 5) 3 [] [some (.ref M), some (.int 0), none] w = jX11_stands g f' 4 [] [some (.ref M), some (.int 0), none] w' ∧ IA w' (M + 8) 5 s0 ∧ Fr (fun q => q = M + 8) w w' := by
  have L := lpC (fun f (z : Lv × Mem) => jX11_stands g f 3 [] z.1 z.2) (fun i z => z.1 = [some (.ref M), some (.int (nI i)), none] ∧ (∃ c, IA z.2 (M + 8) 5 c ∧ ∀ j, j < i → c j = s0 j) ∧ Fr (fun q => q = M + 8) w z.2) 1 5
    (fun i z hi hI f => by
      obtain ⟨k1, ⟨c0, p0, q0⟩, k6⟩ := hI
      have e7 : ¬ (5 : Int32) ≤ nI i := nI_ge (b := 5) hi (by decide)
      have o0 := k6.at hO (by omega)
      have r0 := (a0.fr k6 (by omega)).rd (j := i) (by omega) (by decide)
      have m0 := p0
      have w0' := m0.wr hi (by decide) (s0 i)
      obtain ⟨u0, v0⟩ := cp_up m0 q0
      obtain ⟨w1, hw1⟩ : ∃ q, wi z.2 0 (M + 8) i (s0 i) = q := ⟨_, rfl⟩
      rw [hw1] at w0' u0
      have F1 : Fr (fun q => q = M + 8) z.2 w1 := hw1 ▸ Fr.wi _ _ _ _ rfl
      have o1 := F1.at o0 (by omega)
      refine ⟨f, ([some (.ref M), some (.int (nI (i + 1))), none], w1), Nat.le_refl _, ⟨rfl, ⟨_, u0, v0⟩, (k6.tr (F1.mn fun a h => by omega))⟩, ?_⟩
      simp [jX11_stands, bX11_stands_0, bX11_stands_1, bX11_stands_2, bX11_stands_3, bX11_stands_4, bX11_stands_5, bX11_stands_6, bX11_stands_7, bX11_stands_8, bX11_stands_9, bX11_stands_10, i_aaload, i_aload, i_getf, i_iaload, i_iastore, i_icge, i_iinc, i_iload, i_istore, i_jmp, i_push, i_putf, i_return, msk, lset1, lset2, clr, Value.category, Option.toList, List.cons_append, List.nil_append, List.length_cons, List.length_nil, k1, e7, gf_eq o0, r0, w0', gf_eq o1, mg_14, mg_15, nI_1])
  obtain ⟨f1, z1, k1, ⟨i1, ⟨c0, p0, q0⟩, i6⟩, k3⟩ := L 5 0 ([some (.ref M), some (.int (nI 0)), none], w) (by omega) ⟨rfl, ⟨b0.choose, b0.choose_spec, fun j hj => by omega⟩, Fr.rf _ _⟩ (F + 1)
  obtain ⟨f2, rfl⟩ : ∃ z, f1 = z + 1 := ⟨f1 - 1, by omega⟩
  refine ⟨f2, z1.2, by omega, ?_, p0.cg q0, i6⟩
  rw [show jX11_stands g (F + 1 + 1 * 5) 3 [] [some (.ref M), some (.int 0), none] w = jX11_stands g (f2 + 1) 3 [] z1.1 z1.2 from k3]
  have e8 : (5 : Int32) ≤ nI 5 := by decide
  clear k3 L
  simp [jX11_stands, bX11_stands_0, bX11_stands_1, bX11_stands_2, bX11_stands_3, bX11_stands_4, bX11_stands_5, bX11_stands_6, bX11_stands_7, bX11_stands_8, bX11_stands_9, bX11_stands_10, i_aaload, i_aload, i_getf, i_iaload, i_iastore, i_icge, i_iinc, i_iload, i_istore, i_jmp, i_push, i_putf, i_return, msk, lset1, lset2, clr, Value.category, Option.toList, List.cons_append, List.nil_append, List.length_cons, List.length_nil, i1, e8]
theorem sd_5 (hO : MO w M x) {k : Nat} {s : Nat → Nat → Int32} (a0 : GRD w (M + 12) 9 3 s) (b0 : RA 4 w (M + 22) 9 (fun i => M + 22 + 1 + i)) (b1 : ∃ c, IA w (M + 22 + 1 + k) 3 c) (hk : k < 9) (F : Nat) :
    ∃ f' w', F ≤ f' ∧ jX11_stands g (F + 1 * 3) 5 [] [some (.ref M), some (.int (nI k)), some (.int 0)] w = jX11_stands g f' 5 [] [some (.ref M), some (.int (nI k)), some (.int (nI 3))] w' ∧ IA w' (M + 22 + 1 + k) 3 (s k) ∧ Fr (fun q => q = M + 22 + 1 + k) w w' := by
  have L := lpC (fun f (z : Lv × Mem) => jX11_stands g f 5 [] z.1 z.2) (fun i z => z.1 = [some (.ref M), some (.int (nI k)), some (.int (nI i))] ∧ (∃ c, IA z.2 (M + 22 + 1 + k) 3 c ∧ ∀ j, j < i → c j = s k j) ∧ Fr (fun q => q = M + 22 + 1 + k) w z.2) 1 3
    (fun i z hi hI f => by
      obtain ⟨k1, ⟨c, p0, q0⟩, k6⟩ := hI
      have e7 : ¬ (3 : Int32) ≤ nI i := nI_ge (b := 3) hi (by decide)
      have o0 := k6.at hO (by omega)
      have A := a0.fr k6 (fun i hi => by omega)
      have r1 := A.1.rd (j := k) hk (by decide)
      have r2 := (A.2 k hk).rd (j := i) hi (by decide)
      have r3 := (b0.fr k6 (by omega)).rd (j := k) hk (by decide)
      have r4 := p0.wr hi (by decide) (s k i)
      obtain ⟨u0, v0⟩ := cp_up (s := s k) p0 q0
      obtain ⟨w1, hw1⟩ : ∃ q, wi z.2 0 (M + 22 + 1 + k) i (s k i) = q := ⟨_, rfl⟩
      rw [hw1] at r4 u0
      have F1 : Fr (fun q => q = M + 22 + 1 + k) z.2 w1 := hw1 ▸ Fr.wi _ _ _ _ rfl
      refine ⟨f, ([some (.ref M), some (.int (nI k)), some (.int (nI (i + 1)))], w1), Nat.le_refl _, ⟨rfl, ⟨_, u0, v0⟩, k6.tr F1⟩, ?_⟩
      simp [jX11_stands, bX11_stands_0, bX11_stands_1, bX11_stands_2, bX11_stands_3, bX11_stands_4, bX11_stands_5, bX11_stands_6, bX11_stands_7, bX11_stands_8, bX11_stands_9, bX11_stands_10, i_aaload, i_aload, i_getf, i_iaload, i_iastore, i_icge, i_iinc, i_iload, i_istore, i_jmp, i_push, i_putf, i_return, msk, lset1, lset2, clr, Value.category, Option.toList, List.cons_append, List.nil_append, List.length_cons, List.length_nil, k1, e7, gf_eq o0, mg_19, mg_20, r1, r2, r3, va_rf, r4, nI_1])
  obtain ⟨c0, b1⟩ := b1
  obtain ⟨f1, z1, k1, ⟨i1, ⟨c, p0, q0⟩, i6⟩, k3⟩ := L 3 0 ([some (.ref M), some (.int (nI k)), some (.int (nI 0))], w) (by omega) ⟨rfl, ⟨c0, b1, fun j hj => by omega⟩, Fr.rf _ _⟩ F
  refine ⟨f1, z1.2, k1, ?_, p0.cg q0, i6⟩
  rw [← i1]
  exact k3
theorem sd_7 (hO : MO w M x) {k : Nat} {s : Nat → Nat → Int32} (a0 : GRD w (M + 32) 36 3 s) (b0 : RA 4 w (M + 69) 36 (fun i => M + 69 + 1 + i)) (b1 : ∃ c, IA w (M + 69 + 1 + k) 3 c) (hk : k < 36) (F : Nat) :
    ∃ f' w', F ≤ f' ∧ jX11_stands g (F + 1 * 3) 7 [] [some (.ref M), some (.int (nI k)), some (.int 0)] w = jX11_stands g f' 7 [] [some (.ref M), some (.int (nI k)), some (.int (nI 3))] w' ∧ IA w' (M + 69 + 1 + k) 3 (s k) ∧ Fr (fun q => q = M + 69 + 1 + k) w w' := by
  have L := lpC (fun f (z : Lv × Mem) => jX11_stands g f 7 [] z.1 z.2) (fun i z => z.1 = [some (.ref M), some (.int (nI k)), some (.int (nI i))] ∧ (∃ c, IA z.2 (M + 69 + 1 + k) 3 c ∧ ∀ j, j < i → c j = s k j) ∧ Fr (fun q => q = M + 69 + 1 + k) w z.2) 1 3
    (fun i z hi hI f => by
      obtain ⟨k1, ⟨c, p0, q0⟩, k6⟩ := hI
      have e7 : ¬ (3 : Int32) ≤ nI i := nI_ge (b := 3) hi (by decide)
      have o0 := k6.at hO (by omega)
      have A := a0.fr k6 (fun i hi => by omega)
      have r1 := A.1.rd (j := k) hk (by decide)
      have r2 := (A.2 k hk).rd (j := i) hi (by decide)
      have r3 := (b0.fr k6 (by omega)).rd (j := k) hk (by decide)
      have r4 := p0.wr hi (by decide) (s k i)
      obtain ⟨u0, v0⟩ := cp_up (s := s k) p0 q0
      obtain ⟨w1, hw1⟩ : ∃ q, wi z.2 0 (M + 69 + 1 + k) i (s k i) = q := ⟨_, rfl⟩
      rw [hw1] at r4 u0
      have F1 : Fr (fun q => q = M + 69 + 1 + k) z.2 w1 := hw1 ▸ Fr.wi _ _ _ _ rfl
      refine ⟨f, ([some (.ref M), some (.int (nI k)), some (.int (nI (i + 1)))], w1), Nat.le_refl _, ⟨rfl, ⟨_, u0, v0⟩, k6.tr F1⟩, ?_⟩
      simp [jX11_stands, bX11_stands_0, bX11_stands_1, bX11_stands_2, bX11_stands_3, bX11_stands_4, bX11_stands_5, bX11_stands_6, bX11_stands_7, bX11_stands_8, bX11_stands_9, bX11_stands_10, i_aaload, i_aload, i_getf, i_iaload, i_iastore, i_icge, i_iinc, i_iload, i_istore, i_jmp, i_push, i_putf, i_return, msk, lset1, lset2, clr, Value.category, Option.toList, List.cons_append, List.nil_append, List.length_cons, List.length_nil, k1, e7, gf_eq o0, mg_21, mg_22, r1, r2, r3, va_rf, r4, nI_1])
  obtain ⟨c0, b1⟩ := b1
  obtain ⟨f1, z1, k1, ⟨i1, ⟨c, p0, q0⟩, i6⟩, k3⟩ := L 3 0 ([some (.ref M), some (.int (nI k)), some (.int (nI 0))], w) (by omega) ⟨rfl, ⟨c0, b1, fun j hj => by omega⟩, Fr.rf _ _⟩ F
  refine ⟨f1, z1.2, k1, ?_, p0.cg q0, i6⟩
  rw [← i1]
  exact k3
theorem sd_9 (hO : MO w M x) {k : Nat} {s : Nat → Nat → Int32} (a0 : GRD w (M + 106) 8 5 s) (b0 : RA 4 w (M + 115) 8 (fun i => M + 115 + 1 + i)) (b1 : ∃ c, IA w (M + 115 + 1 + k) 5 c) (hk : k < 8) (F : Nat) :
    ∃ f' w', F ≤ f' ∧ jX11_stands g (F + 1 * 5) 9 [] [some (.ref M), some (.int (nI k)), some (.int 0)] w = jX11_stands g f' 9 [] [some (.ref M), some (.int (nI k)), some (.int (nI 5))] w' ∧ IA w' (M + 115 + 1 + k) 5 (s k) ∧ Fr (fun q => q = M + 115 + 1 + k) w w' := by
  have L := lpC (fun f (z : Lv × Mem) => jX11_stands g f 9 [] z.1 z.2) (fun i z => z.1 = [some (.ref M), some (.int (nI k)), some (.int (nI i))] ∧ (∃ c, IA z.2 (M + 115 + 1 + k) 5 c ∧ ∀ j, j < i → c j = s k j) ∧ Fr (fun q => q = M + 115 + 1 + k) w z.2) 1 5
    (fun i z hi hI f => by
      obtain ⟨k1, ⟨c, p0, q0⟩, k6⟩ := hI
      have e7 : ¬ (5 : Int32) ≤ nI i := nI_ge (b := 5) hi (by decide)
      have o0 := k6.at hO (by omega)
      have A := a0.fr k6 (fun i hi => by omega)
      have r1 := A.1.rd (j := k) hk (by decide)
      have r2 := (A.2 k hk).rd (j := i) hi (by decide)
      have r3 := (b0.fr k6 (by omega)).rd (j := k) hk (by decide)
      have r4 := p0.wr hi (by decide) (s k i)
      obtain ⟨u0, v0⟩ := cp_up (s := s k) p0 q0
      obtain ⟨w1, hw1⟩ : ∃ q, wi z.2 0 (M + 115 + 1 + k) i (s k i) = q := ⟨_, rfl⟩
      rw [hw1] at r4 u0
      have F1 : Fr (fun q => q = M + 115 + 1 + k) z.2 w1 := hw1 ▸ Fr.wi _ _ _ _ rfl
      refine ⟨f, ([some (.ref M), some (.int (nI k)), some (.int (nI (i + 1)))], w1), Nat.le_refl _, ⟨rfl, ⟨_, u0, v0⟩, k6.tr F1⟩, ?_⟩
      simp [jX11_stands, bX11_stands_0, bX11_stands_1, bX11_stands_2, bX11_stands_3, bX11_stands_4, bX11_stands_5, bX11_stands_6, bX11_stands_7, bX11_stands_8, bX11_stands_9, bX11_stands_10, i_aaload, i_aload, i_getf, i_iaload, i_iastore, i_icge, i_iinc, i_iload, i_istore, i_jmp, i_push, i_putf, i_return, msk, lset1, lset2, clr, Value.category, Option.toList, List.cons_append, List.nil_append, List.length_cons, List.length_nil, k1, e7, gf_eq o0, mg_23, mg_24, r1, r2, r3, va_rf, r4, nI_1])
  obtain ⟨c0, b1⟩ := b1
  obtain ⟨f1, z1, k1, ⟨i1, ⟨c, p0, q0⟩, i6⟩, k3⟩ := L 5 0 ([some (.ref M), some (.int (nI k)), some (.int (nI 0))], w) (by omega) ⟨rfl, ⟨c0, b1, fun j hj => by omega⟩, Fr.rf _ _⟩ F
  refine ⟨f1, z1.2, k1, ?_, p0.cg q0, i6⟩
  rw [← i1]
  exact k3
theorem sd_10 (hO : MO w M x) {k : Nat} {s : Nat → Nat → Int32} (a0 : GRD w (M + 124) 8 100 s) (b0 : RA 4 w (M + 133) 8 (fun i => M + 133 + 1 + i)) (b1 : ∃ c, IA w (M + 133 + 1 + k) 100 c) (hk : k < 8) (F : Nat) :
    ∃ f' w', F ≤ f' ∧ jX11_stands g (F + 1 * 100) 10 [] [some (.ref M), some (.int (nI k)), some (.int 0)] w = jX11_stands g f' 10 [] [some (.ref M), some (.int (nI k)), some (.int (nI 100))] w' ∧ IA w' (M + 133 + 1 + k) 100 (s k) ∧ Fr (fun q => q = M + 133 + 1 + k) w w' := by
  have L := lpC (fun f (z : Lv × Mem) => jX11_stands g f 10 [] z.1 z.2) (fun i z => z.1 = [some (.ref M), some (.int (nI k)), some (.int (nI i))] ∧ (∃ c, IA z.2 (M + 133 + 1 + k) 100 c ∧ ∀ j, j < i → c j = s k j) ∧ Fr (fun q => q = M + 133 + 1 + k) w z.2) 1 100
    (fun i z hi hI f => by
      obtain ⟨k1, ⟨c, p0, q0⟩, k6⟩ := hI
      have e7 : ¬ (100 : Int32) ≤ nI i := nI_ge (b := 100) hi (by decide)
      have o0 := k6.at hO (by omega)
      have A := a0.fr k6 (fun i hi => by omega)
      have r1 := A.1.rd (j := k) hk (by decide)
      have r2 := (A.2 k hk).rd (j := i) hi (by decide)
      have r3 := (b0.fr k6 (by omega)).rd (j := k) hk (by decide)
      have r4 := p0.wr hi (by decide) (s k i)
      obtain ⟨u0, v0⟩ := cp_up (s := s k) p0 q0
      obtain ⟨w1, hw1⟩ : ∃ q, wi z.2 0 (M + 133 + 1 + k) i (s k i) = q := ⟨_, rfl⟩
      rw [hw1] at r4 u0
      have F1 : Fr (fun q => q = M + 133 + 1 + k) z.2 w1 := hw1 ▸ Fr.wi _ _ _ _ rfl
      refine ⟨f, ([some (.ref M), some (.int (nI k)), some (.int (nI (i + 1)))], w1), Nat.le_refl _, ⟨rfl, ⟨_, u0, v0⟩, k6.tr F1⟩, ?_⟩
      simp [jX11_stands, bX11_stands_0, bX11_stands_1, bX11_stands_2, bX11_stands_3, bX11_stands_4, bX11_stands_5, bX11_stands_6, bX11_stands_7, bX11_stands_8, bX11_stands_9, bX11_stands_10, i_aaload, i_aload, i_getf, i_iaload, i_iastore, i_icge, i_iinc, i_iload, i_istore, i_jmp, i_push, i_putf, i_return, msk, lset1, lset2, clr, Value.category, Option.toList, List.cons_append, List.nil_append, List.length_cons, List.length_nil, k1, e7, gf_eq o0, mg_25, mg_26, r1, r2, r3, va_rf, r4, nI_1])
  obtain ⟨c0, b1⟩ := b1
  obtain ⟨f1, z1, k1, ⟨i1, ⟨c, p0, q0⟩, i6⟩, k3⟩ := L 100 0 ([some (.ref M), some (.int (nI k)), some (.int (nI 0))], w) (by omega) ⟨rfl, ⟨c0, b1, fun j hj => by omega⟩, Fr.rf _ _⟩ F
  refine ⟨f1, z1.2, k1, ?_, p0.cg q0, i6⟩
  rw [← i1]
  exact k3
theorem sd_4 (hO : MO w M x) {N : Nat} {c3 : Nat → Int32} {s : Nat → Nat → Int32} (h4 : IA w (M + 4) 7 c3) (hN : c3 2 = nI N) (hN2 : N ≤ 9) (a0 : GRD w (M + 12) 9 3 s) (b0 : ∃ c, GRD w (M + 22) 9 3 c) (F : Nat) :
    ∃ f' w', F ≤ f' ∧ jX11_stands g (F + 1 + 5 * N) 4 [] [some (.ref M), some (.int 0), none] w = jX11_stands g f' 6 [] [some (.ref M), some (.int 0), none] w' ∧ (∃ c, GRD w' (M + 22) 9 3 c ∧ ∀ k, k < N → ∀ i, i < 3 → c k i = s k i) ∧ Fr (rg (M + 22 + 1) (M + 22 + 1 + 9)) w w' := by
  obtain ⟨cb, b0⟩ := b0
  have L := lpC (fun f (z : Lv × Mem) => jX11_stands g f 4 [] z.1 z.2) (fun i z => z.1 = [some (.ref M), some (.int (nI i)), none] ∧ (∀ k, k < i → IA z.2 (M + 22 + 1 + k) 3 (s k)) ∧ Fr (rg (M + 22 + 1) (M + 22 + 1 + i)) w z.2) 5 N
    (fun i z hi hI f => by
      obtain ⟨k1, k2, k6⟩ := hI
      have e7 := nI_ge hi (by omega)
      have o0 := k6.at hO (by unfold rg; omega)
      have r4 := (h4.fr k6 (by unfold rg; omega)).rc 2 2 rfl (by decide) (by decide)
      rw [hN] at r4
      obtain ⟨f1, w1, t1, t2, t3, t4⟩ := sd_5 (g := g) (k := i) o0 (a0.fr k6 (fun j hj => by unfold rg; omega)) (b0.1.fr k6 (by unfold rg; omega)) ⟨_, (b0.2 i (by omega)).fr k6 (by unfold rg; omega)⟩ (by omega) (f + 1)
      obtain ⟨f2, rfl⟩ : ∃ z, f1 = z + 1 := ⟨f1 - 1, by omega⟩
      refine ⟨f2, ([some (.ref M), some (.int (nI (i + 1))), none], w1), by omega, ⟨rfl, fun k hk => ?_, (k6.mn fun a h => by unfold rg at *; omega).tr (t4.mn fun a h => by unfold rg; omega)⟩, ?_⟩
      · by_cases y : k = i
        · subst y; exact t3
        · exact (k2 k (by omega)).fr t4 (by omega)
      · have e1 : jX11_stands g (f + 5) 4 [] z.1 z.2 = jX11_stands g (f + 1 + 1 * 3) 5 [] [some (.ref M), some (.int (nI i)), some (.int 0)] z.2 := by
          rw [show f + 5 = f + 1 + 1 * 3 + 1 from rfl]
          generalize f + 1 + 1 * 3 = FF
          simp [jX11_stands, bX11_stands_0, bX11_stands_1, bX11_stands_2, bX11_stands_3, bX11_stands_4, bX11_stands_5, bX11_stands_6, bX11_stands_7, bX11_stands_8, bX11_stands_9, bX11_stands_10, i_aaload, i_aload, i_getf, i_iaload, i_iastore, i_icge, i_iinc, i_iload, i_istore, i_jmp, i_push, i_putf, i_return, msk, lset1, lset2, clr, Value.category, Option.toList, List.cons_append, List.nil_append, List.length_cons, List.length_nil, k1, gf_eq o0, mg_11, r4, e7]
        rw [e1, t2]
        clear e1 t2
        have e8 : (3 : Int32) ≤ nI 3 := by decide
        simp [jX11_stands, bX11_stands_0, bX11_stands_1, bX11_stands_2, bX11_stands_3, bX11_stands_4, bX11_stands_5, bX11_stands_6, bX11_stands_7, bX11_stands_8, bX11_stands_9, bX11_stands_10, i_aaload, i_aload, i_getf, i_iaload, i_iastore, i_icge, i_iinc, i_iload, i_istore, i_jmp, i_push, i_putf, i_return, msk, lset1, lset2, clr, Value.category, Option.toList, List.cons_append, List.nil_append, List.length_cons, List.length_nil, e8, nI_1])
  obtain ⟨f1, z1, k1, ⟨i1, i2, i6⟩, k3⟩ := L N 0 ([some (.ref M), some (.int (nI 0)), none], w) (by omega) ⟨rfl, fun k hk => by omega, Fr.rf _ _⟩ (F + 1)
  obtain ⟨f2, rfl⟩ : ∃ z, f1 = z + 1 := ⟨f1 - 1, by omega⟩
  have o0 := i6.at hO (by unfold rg; omega)
  have r4 := (h4.fr i6 (by unfold rg; omega)).rc 2 2 rfl (by decide) (by decide)
  rw [hN] at r4
  refine ⟨f2, z1.2, by omega, ?_, ⟨fun k => if k < N then s k else cb k, ⟨b0.1.fr i6 (by unfold rg; omega), fun k hk => ?_⟩, fun k hk i hi => by simp only [if_pos hk]⟩, i6.mn fun a h => by unfold rg at *; omega⟩
  · rw [show jX11_stands g (F + 1 + 5 * N) 4 [] [some (.ref M), some (.int 0), none] w = jX11_stands g (f2 + 1) 4 [] z1.1 z1.2 from k3]
    clear k3 L
    simp [jX11_stands, bX11_stands_0, bX11_stands_1, bX11_stands_2, bX11_stands_3, bX11_stands_4, bX11_stands_5, bX11_stands_6, bX11_stands_7, bX11_stands_8, bX11_stands_9, bX11_stands_10, i_aaload, i_aload, i_getf, i_iaload, i_iastore, i_icge, i_iinc, i_iload, i_istore, i_jmp, i_push, i_putf, i_return, msk, lset1, lset2, clr, Value.category, Option.toList, List.cons_append, List.nil_append, List.length_cons, List.length_nil, i1, gf_eq o0, mg_11, r4]
  · by_cases y : k < N
    · simp only [if_pos y]
      exact i2 k y
    · simp only [if_neg y]
      exact (b0.2 k hk).fr i6 (by unfold rg; omega)
theorem sd_6 (hO : MO w M x) {N : Nat} {c3 : Nat → Int32} {s : Nat → Nat → Int32} (h4 : IA w (M + 4) 7 c3) (hN : c3 5 = nI N) (hN2 : N ≤ 36) (a0 : GRD w (M + 32) 36 3 s) (b0 : ∃ c, GRD w (M + 69) 36 3 c) (F : Nat) :
    ∃ f' w', F ≤ f' ∧ jX11_stands g (F + 1 + 5 * N) 6 [] [some (.ref M), some (.int 0), none] w = jX11_stands g f' 8 [] [some (.ref M), some (.int 0), none] w' ∧ (∃ c, GRD w' (M + 69) 36 3 c ∧ ∀ k, k < N → ∀ i, i < 3 → c k i = s k i) ∧ Fr (rg (M + 69 + 1) (M + 69 + 1 + 36)) w w' := by
  obtain ⟨cb, b0⟩ := b0
  have L := lpC (fun f (z : Lv × Mem) => jX11_stands g f 6 [] z.1 z.2) (fun i z => z.1 = [some (.ref M), some (.int (nI i)), none] ∧ (∀ k, k < i → IA z.2 (M + 69 + 1 + k) 3 (s k)) ∧ Fr (rg (M + 69 + 1) (M + 69 + 1 + i)) w z.2) 5 N
    (fun i z hi hI f => by
      obtain ⟨k1, k2, k6⟩ := hI
      have e7 := nI_ge hi (by omega)
      have o0 := k6.at hO (by unfold rg; omega)
      have r4 := (h4.fr k6 (by unfold rg; omega)).rc 5 5 rfl (by decide) (by decide)
      rw [hN] at r4
      obtain ⟨f1, w1, t1, t2, t3, t4⟩ := sd_7 (g := g) (k := i) o0 (a0.fr k6 (fun j hj => by unfold rg; omega)) (b0.1.fr k6 (by unfold rg; omega)) ⟨_, (b0.2 i (by omega)).fr k6 (by unfold rg; omega)⟩ (by omega) (f + 1)
      obtain ⟨f2, rfl⟩ : ∃ z, f1 = z + 1 := ⟨f1 - 1, by omega⟩
      refine ⟨f2, ([some (.ref M), some (.int (nI (i + 1))), none], w1), by omega, ⟨rfl, fun k hk => ?_, (k6.mn fun a h => by unfold rg at *; omega).tr (t4.mn fun a h => by unfold rg; omega)⟩, ?_⟩
      · by_cases y : k = i
        · subst y; exact t3
        · exact (k2 k (by omega)).fr t4 (by omega)
      · have e1 : jX11_stands g (f + 5) 6 [] z.1 z.2 = jX11_stands g (f + 1 + 1 * 3) 7 [] [some (.ref M), some (.int (nI i)), some (.int 0)] z.2 := by
          rw [show f + 5 = f + 1 + 1 * 3 + 1 from rfl]
          generalize f + 1 + 1 * 3 = FF
          simp [jX11_stands, bX11_stands_0, bX11_stands_1, bX11_stands_2, bX11_stands_3, bX11_stands_4, bX11_stands_5, bX11_stands_6, bX11_stands_7, bX11_stands_8, bX11_stands_9, bX11_stands_10, i_aaload, i_aload, i_getf, i_iaload, i_iastore, i_icge, i_iinc, i_iload, i_istore, i_jmp, i_push, i_putf, i_return, msk, lset1, lset2, clr, Value.category, Option.toList, List.cons_append, List.nil_append, List.length_cons, List.length_nil, k1, gf_eq o0, mg_11, r4, e7]
        rw [e1, t2]
        clear e1 t2
        have e8 : (3 : Int32) ≤ nI 3 := by decide
        simp [jX11_stands, bX11_stands_0, bX11_stands_1, bX11_stands_2, bX11_stands_3, bX11_stands_4, bX11_stands_5, bX11_stands_6, bX11_stands_7, bX11_stands_8, bX11_stands_9, bX11_stands_10, i_aaload, i_aload, i_getf, i_iaload, i_iastore, i_icge, i_iinc, i_iload, i_istore, i_jmp, i_push, i_putf, i_return, msk, lset1, lset2, clr, Value.category, Option.toList, List.cons_append, List.nil_append, List.length_cons, List.length_nil, e8, nI_1])
  obtain ⟨f1, z1, k1, ⟨i1, i2, i6⟩, k3⟩ := L N 0 ([some (.ref M), some (.int (nI 0)), none], w) (by omega) ⟨rfl, fun k hk => by omega, Fr.rf _ _⟩ (F + 1)
  obtain ⟨f2, rfl⟩ : ∃ z, f1 = z + 1 := ⟨f1 - 1, by omega⟩
  have o0 := i6.at hO (by unfold rg; omega)
  have r4 := (h4.fr i6 (by unfold rg; omega)).rc 5 5 rfl (by decide) (by decide)
  rw [hN] at r4
  refine ⟨f2, z1.2, by omega, ?_, ⟨fun k => if k < N then s k else cb k, ⟨b0.1.fr i6 (by unfold rg; omega), fun k hk => ?_⟩, fun k hk i hi => by simp only [if_pos hk]⟩, i6.mn fun a h => by unfold rg at *; omega⟩
  · rw [show jX11_stands g (F + 1 + 5 * N) 6 [] [some (.ref M), some (.int 0), none] w = jX11_stands g (f2 + 1) 6 [] z1.1 z1.2 from k3]
    clear k3 L
    simp [jX11_stands, bX11_stands_0, bX11_stands_1, bX11_stands_2, bX11_stands_3, bX11_stands_4, bX11_stands_5, bX11_stands_6, bX11_stands_7, bX11_stands_8, bX11_stands_9, bX11_stands_10, i_aaload, i_aload, i_getf, i_iaload, i_iastore, i_icge, i_iinc, i_iload, i_istore, i_jmp, i_push, i_putf, i_return, msk, lset1, lset2, clr, Value.category, Option.toList, List.cons_append, List.nil_append, List.length_cons, List.length_nil, i1, gf_eq o0, mg_11, r4]
  · by_cases y : k < N
    · simp only [if_pos y]
      exact i2 k y
    · simp only [if_neg y]
      exact (b0.2 k hk).fr i6 (by unfold rg; omega)
theorem sd_8 (hO : MO w M x) {N : Nat} {c3 : Nat → Int32} {s u : Nat → Nat → Int32} (h4 : IA w (M + 4) 7 c3) (hN : c3 3 = nI N) (hN2 : N ≤ 8) (a0 : GRD w (M + 106) 8 5 s) (a1 : GRD w (M + 124) 8 100 u) (b0 : ∃ c, GRD w (M + 115) 8 5 c) (b1 : ∃ c, GRD w (M + 133) 8 100 c) (F : Nat) :
    ∃ f' w', F ≤ f' ∧ jX11_stands g (F + 108 * N) 8 [] [some (.ref M), some (.int 0), none] w = jX11_stands g f' 8 [] [some (.ref M), some (.int (nI N)), none] w' ∧ (∃ c, GRD w' (M + 115) 8 5 c ∧ ∀ k, k < N → ∀ i, i < 5 → c k i = s k i) ∧ (∃ c, GRD w' (M + 133) 8 100 c ∧ ∀ k, k < N → ∀ i, i < 100 → c k i = u k i) ∧ Fr (fun q => rg (M + 115 + 1) (M + 115 + 1 + 8) q ∨ rg (M + 133 + 1) (M + 133 + 1 + 8) q) w w' := by
  obtain ⟨cb, b0⟩ := b0
  obtain ⟨cd, b1⟩ := b1
  have L := lpC (fun f (z : Lv × Mem) => jX11_stands g f 8 [] z.1 z.2) (fun i z => z.1 = [some (.ref M), some (.int (nI i)), none] ∧ (∀ k, k < i → IA z.2 (M + 115 + 1 + k) 5 (s k) ∧ IA z.2 (M + 133 + 1 + k) 100 (u k)) ∧ Fr (fun q => rg (M + 115 + 1) (M + 115 + 1 + i) q ∨ rg (M + 133 + 1) (M + 133 + 1 + i) q) w z.2) 108 N
    (fun i z hi hI f => by
      obtain ⟨k1, k2, k6⟩ := hI
      have e7 := nI_ge hi (by omega)
      have o0 := k6.at hO (by unfold rg; omega)
      have r4 := (h4.fr k6 (by unfold rg; omega)).rc 3 3 rfl (by decide) (by decide)
      rw [hN] at r4
      obtain ⟨f1, w1, t1, t2, t3, t4⟩ := sd_9 (g := g) (k := i) o0 (a0.fr k6 (fun j hj => by unfold rg; omega)) (b0.1.fr k6 (by unfold rg; omega)) ⟨_, (b0.2 i (by omega)).fr k6 (by unfold rg; omega)⟩ (by omega) (f + 1 + 1 * 100 + 1)
      obtain ⟨f2, hf2⟩ : ∃ z, f1 = (z + 1 + 1 * 100) + 1 := ⟨f1 - 102, by omega⟩
      subst hf2
      have o1 := t4.at o0 (by omega)
      obtain ⟨f3, w2, v1, v2, v3, v4⟩ := sd_10 (g := g) (k := i) o1 ((a1.fr k6 (fun j hj => by unfold rg; omega)).fr t4 (fun j hj => by omega)) ((b1.1.fr k6 (by unfold rg; omega)).fr t4 (by omega)) ⟨_, ((b1.2 i (by omega)).fr k6 (by unfold rg; omega)).fr t4 (by omega)⟩ (by omega) (f2 + 1)
      obtain ⟨f4, rfl⟩ : ∃ z, f3 = z + 1 := ⟨f3 - 1, by omega⟩
      refine ⟨f4, ([some (.ref M), some (.int (nI (i + 1))), none], w2), by omega, ⟨rfl, fun k hk => ?_, ((k6.mn fun a h => by unfold rg at *; omega).tr (t4.mn fun a h => by unfold rg; omega)).tr (v4.mn fun a h => by unfold rg; omega)⟩, ?_⟩
      · by_cases y : k = i
        · subst y; exact ⟨t3.fr v4 (by omega), v3⟩
        · exact ⟨((k2 k (by omega)).1.fr t4 (by omega)).fr v4 (by omega), ((k2 k (by omega)).2.fr t4 (by omega)).fr v4 (by omega)⟩
      · have e1 : jX11_stands g (f + 108) 8 [] z.1 z.2 = jX11_stands g (f + 1 + 1 * 100 + 1 + 1 * 5) 9 [] [some (.ref M), some (.int (nI i)), some (.int 0)] z.2 := by
          rw [show f + 108 = f + 1 + 1 * 100 + 1 + 1 * 5 + 1 from rfl]
          generalize f + 1 + 1 * 100 + 1 + 1 * 5 = FF
          simp [jX11_stands, bX11_stands_0, bX11_stands_1, bX11_stands_2, bX11_stands_3, bX11_stands_4, bX11_stands_5, bX11_stands_6, bX11_stands_7, bX11_stands_8, bX11_stands_9, bX11_stands_10, i_aaload, i_aload, i_getf, i_iaload, i_iastore, i_icge, i_iinc, i_iload, i_istore, i_jmp, i_push, i_putf, i_return, msk, lset1, lset2, clr, Value.category, Option.toList, List.cons_append, List.nil_append, List.length_cons, List.length_nil, k1, gf_eq o0, mg_11, r4, e7]
        rw [e1, t2]
        clear e1 t2
        have e8 : (5 : Int32) ≤ nI 5 := by decide
        have e2 : jX11_stands g (f2 + 1 + 1 * 100 + 1) 9 [] [some (.ref M), some (.int (nI i)), some (.int (nI 5))] w1 = jX11_stands g (f2 + 1 + 1 * 100) 10 [] [some (.ref M), some (.int (nI i)), some (.int 0)] w1 := by
          generalize f2 + 1 + 1 * 100 = FF
          simp [jX11_stands, bX11_stands_0, bX11_stands_1, bX11_stands_2, bX11_stands_3, bX11_stands_4, bX11_stands_5, bX11_stands_6, bX11_stands_7, bX11_stands_8, bX11_stands_9, bX11_stands_10, i_aaload, i_aload, i_getf, i_iaload, i_iastore, i_icge, i_iinc, i_iload, i_istore, i_jmp, i_push, i_putf, i_return, msk, lset1, lset2, clr, Value.category, Option.toList, List.cons_append, List.nil_append, List.length_cons, List.length_nil, e8]
        rw [e2, v2]
        clear e2 v2
        have e9 : (100 : Int32) ≤ nI 100 := by decide
        simp [jX11_stands, bX11_stands_0, bX11_stands_1, bX11_stands_2, bX11_stands_3, bX11_stands_4, bX11_stands_5, bX11_stands_6, bX11_stands_7, bX11_stands_8, bX11_stands_9, bX11_stands_10, i_aaload, i_aload, i_getf, i_iaload, i_iastore, i_icge, i_iinc, i_iload, i_istore, i_jmp, i_push, i_putf, i_return, msk, lset1, lset2, clr, Value.category, Option.toList, List.cons_append, List.nil_append, List.length_cons, List.length_nil, e9, nI_1])
  obtain ⟨f1, z1, k1, ⟨i1, i2, i6⟩, k3⟩ := L N 0 ([some (.ref M), some (.int (nI 0)), none], w) (by omega) ⟨rfl, fun k hk => by omega, Fr.rf _ _⟩ F
  refine ⟨f1, z1.2, k1, ?_, ⟨fun k => if k < N then s k else cb k, ⟨b0.1.fr i6 (by unfold rg; omega), fun k hk => ?_⟩, fun k hk i hi => by simp only [if_pos hk]⟩, ⟨fun k => if k < N then u k else cd k, ⟨b1.1.fr i6 (by unfold rg; omega), fun k hk => ?_⟩, fun k hk i hi => by simp only [if_pos hk]⟩, i6.mn fun a h => by unfold rg at *; omega⟩
  · rw [← i1]
    exact k3
  · by_cases y : k < N
    · simp only [if_pos y]
      exact (i2 k y).1
    · simp only [if_neg y]
      exact (b0.2 k hk).fr i6 (by unfold rg; omega)
  · by_cases y : k < N
    · simp only [if_pos y]
      exact (i2 k y).2
    · simp only [if_neg y]
      exact (b1.2 k hk).fr i6 (by unfold rg; omega)
end
