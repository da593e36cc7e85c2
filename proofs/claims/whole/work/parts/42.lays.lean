/-! ===== the reference: coinTogether, broken, laysReadings ===== -/
theorem coinTogether_sp {g : GE} (hg : FU g) {w : Mem} {M : Nat} {x : Nat → Int32} {δ : DE} {s : Int32} {vv : Nat → Nat} (hd : WF δ) (hv : VD δ vv) (hO : MO w M x) (hD : RD w M δ) (hQ : RQ w M δ s vv) :
    fX11_coinTogether g [.ref M] w = some (.inl (some (.int (nI (sK δ s vv (δ.1 2))))), w) := by
  obtain ⟨b1, b2, b3, b4, b5, b6, b7, b8⟩ := id hd.1
  obtain ⟨h0, -⟩ := id hD
  have L := lpF (fun f (t : Lv × Mem) => jX11_coinTogether g f 1 [] t.1 t.2) (fun i => ([some (.ref M), some (.int (nI (sumH (cK δ s vv (δ.1 2)) i))), some (.int (nI i))], w)) (some (.inl (some (.int (nI (sK δ s vv (δ.1 2))))), w)) 1 1 (δ.1 0)
    (fun i hi f => by
      refine ⟨f, Nat.le_refl _, ?_⟩
      simp [jX11_coinTogether, bX11_coinTogether_0, bX11_coinTogether_1, i_aload, i_getf, i_iadd, i_iaload, i_icge, i_iinc, i_iload, i_ireturn, i_istore, i_jmp, i_push, msk, lset1, lset2, clr, Value.category, Option.toList, List.cons_append, List.nil_append, List.length_cons, List.length_nil, gf_eq hO, mg_11, mg_40, h0.rc 0 0 rfl (by decide) (by decide), nI_ge hi (by omega), hQ.1.rd (j := i) (by omega) (by decide), nI_add, nI_1, sumH])
    (fun f => by
      simp [jX11_coinTogether, bX11_coinTogether_0, bX11_coinTogether_1, i_aload, i_getf, i_iadd, i_iaload, i_icge, i_iinc, i_iload, i_ireturn, i_istore, i_jmp, i_push, msk, lset1, lset2, clr, Value.category, Option.toList, List.cons_append, List.nil_append, List.length_cons, List.length_nil, gf_eq hO, mg_11, h0.rc 0 0 rfl (by decide) (by decide), sumH_cK hd hv (δ.1 2) (Nat.le_refl _)])
  obtain ⟨N, hN⟩ : ∃ N, g.1 = N + 1 := ⟨g.1 - 1, by omega⟩
  have L1 := L N (by omega)
  rw [← L1]
  simp [fX11_coinTogether, kX11_coinTogether, ent, entp, jX11_coinTogether, bX11_coinTogether_0, bX11_coinTogether_1, i_aload, i_getf, i_iadd, i_iaload, i_icge, i_iinc, i_iload, i_ireturn, i_istore, i_jmp, i_push, msk, lset1, lset2, clr, Value.category, Option.toList, List.cons_append, List.nil_append, List.length_cons, List.length_nil, hN, nI_0, sumH]
theorem rbroken_sp {g : GE} (hg : FU g) {w : Mem} {M est : Nat} {x : Nat → Int32} {δ : DE} {s : Int32} {vv : Nat → Nat} (hd : WF δ) (hv : VD δ vv) (hO : MO w M x) (hx : x 42 = nI (twK δ s vv (δ.1 2))) (hD : RD w M δ) (hQ : RQ w M δ s vv) (he : est < 2 ^ 31) :
    fX11_broken g [.ref M, .int (nI est)] w = some (.inl (some (.int (nI (brK δ s est vv)))), w) := by
  obtain ⟨b1, b2, b3, b4, b5, b6, b7, b8⟩ := id hd.1
  obtain ⟨h0, -, -, ⟨c3, h3, k3⟩, -⟩ := id hD
  have ls := sK_le (s := s) hd hv (δ.1 2) (Nat.le_refl _)
  have hct := coinTogether_sp hg hd hv hO hD hQ
  generalize hb0 : (if sK δ s vv (δ.1 2) = est then 0 else 1) + (if twK δ s vv (δ.1 2) = 0 then 0 else 2) = b0
  have hb4 : b0 < 4 := by
    subst hb0
    split <;> split <;> omega
  have L := lpF (fun f (t : Lv × Mem) => jX11_broken g f 3 [] t.1 t.2) (fun i => ([some (.ref M), none, some (.int (nI (b0 + lsK δ (cK δ s vv (δ.1 2)) i))), some (.int (nI i))], w)) (some (.inl (some (.int (nI (brK δ s est vv)))), w)) 2 1 (δ.1 0)
    (fun i hi f => by
      have lc := cK_sK (δ := δ) (s := s) (v := vv) (δ.1 2) i
      have ll := (hd.2.2.2.2.2.1 i hi).2.2
      refine ⟨f, Nat.le_refl _, ?_⟩
      by_cases z : cK δ s vv (δ.1 2) i < δ.2 1 i
      · have z1 := nI_ge z (by omega)
        have e4 : nI (b0 + lsK δ (cK δ s vv (δ.1 2)) i) ||| 4 = nI (b0 + 4) := by
          have : b0 = 0 ∨ b0 = 1 ∨ b0 = 2 ∨ b0 = 3 := by omega
          rcases lsK_04 δ (cK δ s vv (δ.1 2)) i with q | q <;> rw [q] <;> rcases this with q | q | q | q <;> subst q <;> decide
        simp [jX11_broken, bX11_broken_0, bX11_broken_1, bX11_broken_2, bX11_broken_3, bX11_broken_4, i_aload, i_getf, i_iaload, i_icge, i_icne, i_ifeq, i_iinc, i_iload, i_ior, i_ireturn, i_istore, i_jmp, i_push, msk, lset1, lset2, clr, Value.category, Option.toList, List.cons_append, List.nil_append, List.length_cons, List.length_nil, gf_eq hO, mg_11, mg_40, mg_17, h0.rc 0 0 rfl (by decide) (by decide), nI_ge hi (by omega), hQ.1.rd (j := i) (by omega) (by decide), h3.rd (j := i) (by omega) (by decide), k3 i hi, z1, e4, nI_1, lsK, z]
      · have z1 := nI_le (Nat.le_of_not_lt z) (by omega)
        have e4 : nI (b0 + lsK δ (cK δ s vv (δ.1 2)) i) ||| 0 = nI (b0 + lsK δ (cK δ s vv (δ.1 2)) i) := Int32.or_zero
        simp [jX11_broken, bX11_broken_0, bX11_broken_1, bX11_broken_2, bX11_broken_3, bX11_broken_4, i_aload, i_getf, i_iaload, i_icge, i_icne, i_ifeq, i_iinc, i_iload, i_ior, i_ireturn, i_istore, i_jmp, i_push, msk, lset1, lset2, clr, Value.category, Option.toList, List.cons_append, List.nil_append, List.length_cons, List.length_nil, gf_eq hO, mg_11, mg_40, mg_17, h0.rc 0 0 rfl (by decide) (by decide), nI_ge hi (by omega), hQ.1.rd (j := i) (by omega) (by decide), h3.rd (j := i) (by omega) (by decide), k3 i hi, z1, e4, nI_1, lsK, z])
    (fun f => by
      simp [jX11_broken, bX11_broken_0, bX11_broken_1, bX11_broken_2, bX11_broken_3, bX11_broken_4, i_aload, i_getf, i_iaload, i_icge, i_icne, i_ifeq, i_iinc, i_iload, i_ior, i_ireturn, i_istore, i_jmp, i_push, msk, lset1, lset2, clr, Value.category, Option.toList, List.cons_append, List.nil_append, List.length_cons, List.length_nil, gf_eq hO, mg_11, h0.rc 0 0 rfl (by decide) (by decide), brK, hb0])
  obtain ⟨N, hN⟩ : ∃ N, g.1 = N + 3 := ⟨g.1 - 3, by omega⟩
  have L1 := L N (by omega)
  simp only [lsK, Nat.add_zero, nI_0] at L1
  have m1 : (nI (sK δ s vv (δ.1 2)) = nI est) ↔ sK δ s vv (δ.1 2) = est := nI_eq (by omega) (by omega)
  have m2 : (nI (twK δ s vv (δ.1 2)) = 0) ↔ twK δ s vv (δ.1 2) = 0 := by
    rw [← nI_0]; exact nI_eq (by rcases twK_01 (δ := δ) (s := s) (v := vv) (δ.1 2) with q | q <;> omega) (by decide)
  rw [← L1, ← hb0]
  by_cases z1 : sK δ s vv (δ.1 2) = est <;> by_cases z2 : twK δ s vv (δ.1 2) = 0
  · simp [fX11_broken, kX11_broken, ent, entp, jX11_broken, bX11_broken_0, bX11_broken_1, bX11_broken_2, bX11_broken_3, bX11_broken_4, i_aload, i_getf, i_iaload, i_icge, i_icne, i_ifeq, i_iinc, i_iload, i_ior, i_ireturn, i_istore, i_jmp, i_push, msk, lset1, lset2, clr, Value.category, Option.toList, List.cons_append, List.nil_append, List.length_cons, List.length_nil, hN, gf_eq hO, mg_42, hx, cvk_0 hO hct, m1.mpr z1, m2.mpr z2, z1, z2, nI_0]
  · simp [fX11_broken, kX11_broken, ent, entp, jX11_broken, bX11_broken_0, bX11_broken_1, bX11_broken_2, bX11_broken_3, bX11_broken_4, i_aload, i_getf, i_iaload, i_icge, i_icne, i_ifeq, i_iinc, i_iload, i_ior, i_ireturn, i_istore, i_jmp, i_push, msk, lset1, lset2, clr, Value.category, Option.toList, List.cons_append, List.nil_append, List.length_cons, List.length_nil, hN, gf_eq hO, mg_42, hx, cvk_0 hO hct, m1.mpr z1, mt m2.mp z2, z1, z2, nI_0]
    rfl
  · simp [fX11_broken, kX11_broken, ent, entp, jX11_broken, bX11_broken_0, bX11_broken_1, bX11_broken_2, bX11_broken_3, bX11_broken_4, i_aload, i_getf, i_iaload, i_icge, i_icne, i_ifeq, i_iinc, i_iload, i_ior, i_ireturn, i_istore, i_jmp, i_push, msk, lset1, lset2, clr, Value.category, Option.toList, List.cons_append, List.nil_append, List.length_cons, List.length_nil, hN, gf_eq hO, mg_42, hx, cvk_0 hO hct, mt m1.mp z1, m2.mpr z2, z1, z2, nI_0]
    rfl
  · simp [fX11_broken, kX11_broken, ent, entp, jX11_broken, bX11_broken_0, bX11_broken_1, bX11_broken_2, bX11_broken_3, bX11_broken_4, i_aload, i_getf, i_iaload, i_icge, i_icne, i_ifeq, i_iinc, i_iload, i_ior, i_ireturn, i_istore, i_jmp, i_push, msk, lset1, lset2, clr, Value.category, Option.toList, List.cons_append, List.nil_append, List.length_cons, List.length_nil, hN, gf_eq hO, mg_42, hx, cvk_0 hO hct, mt m1.mp z1, mt m2.mp z2, z1, z2, nI_0]
    rfl
/-- the reference's table, n rows laid -/
def RT (w : Mem) (M : Nat) (δ : DE) (n : Nat) : Prop := (∃ c, IA w (M + 142) 20000 c ∧ ∀ i, i < (rl δ n).length → c i = nI ((rl δ n).getD i 0))
  ∧ (∃ c, IA w (M + 143) 20000 c ∧ ∀ r, r < n → c r = if br δ r = 0 then nI (rl δ r).length else -1)
  ∧ (∃ c, IA w (M + 144) 20000 c ∧ ∀ i, i < (rl δ n).length → c i = nI (pkN (ownK δ (-1) (vr δ ((rl δ n).getD i 0)) (δ.1 2)) 3 5))
  ∧ (∃ c, LA w (M + 145) 20000 c ∧ ∀ i, i < (rl δ n).length → c i = lN (pkN (cK δ (-1) (vr δ ((rl δ n).getD i 0)) (δ.1 2)) 10 4))
theorem RT.fr {S : Nat → Prop} {w w1 : Mem} {M n : Nat} {δ : DE} (h : RT w M δ n) (k : Fr S w w1) (q : ∀ i, 142 ≤ i → i < 146 → ¬ S (M + i)) : RT w1 M δ n := by
  obtain ⟨⟨c1, h1, k1⟩, ⟨c2, h2, k2⟩, ⟨c3, h3, k3⟩, ⟨c4, h4, k4⟩⟩ := h
  exact ⟨⟨c1, h1.fr k (q 142 (by decide) (by decide)), k1⟩, ⟨c2, h2.fr k (q 143 (by decide) (by decide)), k2⟩, ⟨c3, h3.fr k (q 144 (by decide) (by decide)), k3⟩, ⟨c4, h4.fr k (q 145 (by decide) (by decide)), k4⟩⟩
theorem LA.rc {w : Mem} {a n : Nat} {c : Nat → Int64} (h : LA w a n c) (x : Int32) (j : Nat) (hx : nI j = x) (hj : j < n) (hn : n < 2 ^ 31) : gl w a x = some (c j) := hx ▸ h.rd hj hn
theorem LA.wi {u : Nat} {w : Mem} {a b n j : Nat} {x : Int32} {c : Nat → Int64} (h : LA w a n c) (q : a ≠ b) : LA (wi w u b j x) a n c := h.fr (Fr.wi (S := fun z => z = b) w u j x rfl) q
theorem LA.wl' {w : Mem} {a b n j : Nat} {x : Int64} {c : Nat → Int64} (h : LA w a n c) (q : a ≠ b) : LA (wl w b j x) a n c := h.fr (Fr.wl (S := fun z => z = b) w j x rfl) q
theorem AR.wl' {t : Nat} {w : Mem} {a b n j : Nat} {x : Int64} {c : Nat → Int32} (h : AR t w a n c) (q : a ≠ b) : AR t (wl w b j x) a n c := h.fr (Fr.wl (S := fun z => z = b) w j x rfl) q
theorem gs_step {P y i : Nat} (hP : P < 2 ^ (3 * i)) (hy : y < 8) (hi : i < 5) : nI P ||| (nI y <<< (nI (3 * i) &&& 31)) = nI (P + y * 2 ^ (3 * i)) := by
  have h2 : 2 ^ (3 * i) ≤ 2 ^ 12 := Nat.pow_le_pow_right (by decide) (by omega)
  have h1 : y * 2 ^ (3 * i) ≤ 7 * 2 ^ (3 * i) := Nat.mul_le_mul_right _ (by omega)
  have e : nI y <<< (nI (3 * i) &&& 31) = nI (y * 2 ^ (3 * i)) := by
    have hs : ∀ n, n < 32 → ((nI n &&& 31).toBitVec.smod 32).toNat = n := by decide +kernel
    exact pk_shlN _ (3 * i) (hs _ (by omega)) (by omega)
  rw [e]
  apply Int32.toBitVec_inj.1
  show BitVec.ofNat 32 P ||| BitVec.ofNat 32 (y * 2 ^ (3 * i)) = BitVec.ofNat 32 (P + y * 2 ^ (3 * i))
  apply BitVec.eq_of_toNat_eq
  rw [BitVec.toNat_or, BitVec.toNat_ofNat, BitVec.toNat_ofNat, BitVec.toNat_ofNat, Nat.mod_eq_of_lt (by omega), Nat.mod_eq_of_lt (by omega), Nat.mod_eq_of_lt (by omega)]
  have := Nat.two_pow_add_eq_or_of_lt hP y
  rw [Nat.mul_comm y, Nat.or_comm, ← this, Nat.add_comm]
