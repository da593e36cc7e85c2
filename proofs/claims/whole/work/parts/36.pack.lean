/-! ===== numbers packed into one ===== -/
def pkN (f : Nat → Nat) (wd : Nat) : Nat → Nat
  | 0 => 0
  | b + 1 => pkN f wd b + f b * 2 ^ (wd * b)
theorem pkN_0 (f : Nat → Nat) (wd : Nat) : pkN f wd 0 = 0 := rfl
theorem pkN_s (f : Nat → Nat) (wd n : Nat) : pkN f wd (n + 1) = pkN f wd n + f n * 2 ^ (wd * n) := rfl
theorem pkN_lt {f : Nat → Nat} {wd : Nat} : ∀ {n : Nat}, (∀ b, b < n → f b < 2 ^ wd) → pkN f wd n < 2 ^ (wd * n)
  | 0, _ => by simp [pkN]
  | n + 1, h => by
    have ih := pkN_lt (n := n) fun b hb => h b (by omega)
    have hn := h n (by omega)
    unfold pkN
    have e : 2 ^ (wd * (n + 1)) = 2 ^ wd * 2 ^ (wd * n) := by rw [Nat.mul_succ, Nat.pow_add, Nat.mul_comm]
    rw [e]
    have := Nat.mul_le_mul_right (2 ^ (wd * n)) (Nat.succ_le_of_lt hn)
    rw [Nat.succ_mul] at this
    omega
theorem mid_low {A X K j w : Nat} (h : j + w ≤ K) : (A + 2 ^ K * X) / 2 ^ j % 2 ^ w = A / 2 ^ j % 2 ^ w := by
  obtain ⟨d, rfl⟩ : ∃ d, K = j + w + d := ⟨K - (j + w), by omega⟩
  have e : 2 ^ (j + w + d) * X = 2 ^ j * (2 ^ w * (2 ^ d * X)) := by
    rw [Nat.pow_add, Nat.pow_add]
    simp only [Nat.mul_assoc]
  rw [e, Nat.add_mul_div_left _ _ (Nat.two_pow_pos j), Nat.add_mul_mod_self_left]
theorem mid_high {A X K j : Nat} (h : A < 2 ^ K) : (A + 2 ^ K * X) / 2 ^ (K + j) = X / 2 ^ j := by
  rw [Nat.pow_add, ← Nat.div_div_eq_div_mul, Nat.add_mul_div_left _ _ (Nat.two_pow_pos K), Nat.div_eq_of_lt h, Nat.zero_add]
theorem pkN_dig {f : Nat → Nat} {wd : Nat} : ∀ {n : Nat}, (∀ b, b < n → f b < 2 ^ wd) → ∀ b, b < n → pkN f wd n / 2 ^ (wd * b) % 2 ^ wd = f b
  | 0, _, b, hb => by omega
  | n + 1, h, b, hb => by
    have ih := pkN_dig (n := n) fun b hb => h b (by omega)
    have hl := pkN_lt (f := f) (wd := wd) (n := n) fun b hb => h b (by omega)
    have hc : f n * 2 ^ (wd * n) = 2 ^ (wd * n) * f n := Nat.mul_comm _ _
    unfold pkN
    rw [hc]
    by_cases z : b = n
    · subst z
      have := mid_high (X := f b) (j := 0) hl
      rw [Nat.add_zero, Nat.pow_zero, Nat.div_one] at this
      rw [this]
      exact Nat.mod_eq_of_lt (h b (by omega))
    · rw [mid_low, ih b (by omega)]
      have : wd * (b + 1) ≤ wd * n := Nat.mul_le_mul_left _ (by omega)
      rw [Nat.mul_succ] at this
      exact this
theorem nI_and (n : Nat) {m : Int32} (k : Nat) (hk : k ≤ 32) (hm : m.toBitVec.toNat = 2 ^ k - 1) : nI n &&& m = nI (n % 2 ^ k) := by
  rw [pk_and _ k hm]
  have e : (nI n).toBitVec.toNat = n % 2 ^ 32 := by
    show (BitVec.ofNat 32 n).toNat = _
    rw [BitVec.toNat_ofNat]
  rw [e, Nat.mod_mod_of_dvd _ (Nat.pow_dvd_pow 2 hk)]
theorem lN_or {k a b : Nat} (ha : a < 2 ^ k) (h : a + b * 2 ^ k < 2 ^ 64) : lN a ||| lN (b * 2 ^ k) = lN (a + b * 2 ^ k) := g_or' rfl ha h
theorem e8 (b : Nat) : (8 : Int32) * nI b = nI (8 * b) := pk_mul 8 b
theorem e10 (b : Nat) : (10 : Int32) * nI b = nI (10 * b) := pk_mul 10 b
theorem e3 (b : Nat) : (3 : Int32) * nI b = nI (3 * b) := pk_mul 3 b
theorem e40 (b : Nat) : (40 : Int32) + nI b = nI (40 + b) := nI_add 40 b
abbrev mkN (n : Nat) (dd : Nat → Nat) : Nat := pkN dd 8 n
def shN (c o : Nat → Nat) : Nat := pkN c 10 4 + 2 ^ 40 * pkN o 3 5
theorem mkN_lt {n : Nat} {dd : Nat → Nat} (hn : n ≤ 8) (h : ∀ b, b < n → dd b < 128) : mkN n dd < 2 ^ 64 := by
  have h1 := pkN_lt (f := dd) (wd := 8) (n := n) fun b hb => by have := h b hb; omega
  exact Nat.lt_of_lt_of_le h1 (Nat.pow_le_pow_right (by decide) (by omega))
theorem digitIn_sp {g : GE} {w : Mem} {n b : Nat} {dd : Nat → Nat} (hn : n ≤ 8) (h : ∀ b, b < n → dd b < 128) (hb : b < n) : fX4_digitIn g [.long (lN (mkN n dd)), .int (nI b)] w = some (.inl (some (.int (nI (dd b)))), w) := by
  have e : ((lN (mkN n dd)).toUInt64 >>> ((nI (8 * b)).toInt64.toUInt64 &&& Int64.toUInt64 63)).toInt64.toInt32 &&& 127 = nI (dd b) := by
    rw [wb_shr (mkN_lt hn h) (by omega), lN_i, nI_and _ 7 (by decide) (by decide)]
    have h1 := pkN_dig (f := dd) (wd := 8) (n := n) (fun b hb => by have := h b hb; omega) b hb
    have h2 : pkN dd 8 n / 2 ^ (8 * b) % 2 ^ 7 = pkN dd 8 n / 2 ^ (8 * b) % 2 ^ 8 % 2 ^ 7 := (Nat.mod_mod_of_dvd _ (Nat.pow_dvd_pow 2 (by decide))).symm
    rw [h2, h1, Nat.mod_eq_of_lt (by have := h b hb; omega)]
  simp [fX4_digitIn, kX4_digitIn, ent, entp, bX4_digitIn_0, i_iand, i_iload, i_imul, i_ireturn, i_l2i, i_lload, i_lushr, i_push, msk, lset1, lset2, clr, Value.category, Option.toList, List.cons_append, List.nil_append, List.length_cons, List.length_nil, e8, e]
theorem marks_sp {g : GE} (hg : FU g) {w : Mem} {r n : Nat} {v d c o : Nat → Int32} {su tw : Int32} {dd : Nat → Nat} (hR : ROW w r v d c o su tw) (hn : n ≤ 8) (hl : ∀ b, b < n → dd b < 128) (hd : ∀ b, b < n → d b = nI (dd b)) :
    fX4_marks g [.ref r, .int (nI n)] w = some (.inl (some (.long (lN (mkN n dd)))), w) := by
  obtain ⟨h0, h1, h2, h3, h4⟩ := id hR
  have L := lpF (fun f (s : Lv × Mem) => jX4_marks g f 1 [] s.1 s.2) (fun i => ([some (.ref r), some (.int (nI n)), some (.long (lN (mkN i dd))), none, some (.int (nI i))], w)) (some (.inl (some (.long (lN (mkN n dd)))), w)) 1 1 n
    (fun i hi f => by
      refine ⟨f, Nat.le_refl _, ?_⟩
      have e : lN (mkN i dd) ||| (lN (dd i) <<< ((nI (8 * i)).toInt64 &&& 63)) = lN (mkN (i + 1) dd) := by
        have h5 := pkN_lt (f := dd) (wd := 8) (n := i) fun b hb => by have := hl b (by omega); omega
        have h6 := mkN_lt (n := i + 1) (dd := dd) (by omega) fun b hb => hl b (by omega)
        rw [wb_shl _ (by omega), lN_or h5 h6, ← pkN_s]
      simp [jX4_marks, bX4_marks_0, bX4_marks_1, i_aload, i_getf, i_i2l, i_iaload, i_icge, i_iinc, i_iload, i_imul, i_istore, i_jmp, i_lload, i_lor, i_lreturn, i_lshl, i_lstore, i_push, msk, lset1, lset2, clr, Value.category, Option.toList, List.cons_append, List.nil_append, List.length_cons, List.length_nil, gf_eq h0, nI_ge hi (by omega), h2.rd (j := i) (by omega) (by decide), hd i hi, nI_l (n := dd i) (by have := hl i hi; omega), e8, e, nI_1])
    (fun f => by
      simp [jX4_marks, bX4_marks_0, bX4_marks_1, i_aload, i_getf, i_i2l, i_iaload, i_icge, i_iinc, i_iload, i_imul, i_istore, i_jmp, i_lload, i_lor, i_lreturn, i_lshl, i_lstore, i_push, msk, lset1, lset2, clr, Value.category, Option.toList, List.cons_append, List.nil_append, List.length_cons, List.length_nil, gf_eq h0])
  obtain ⟨N, hN⟩ : ∃ N, g.1 = N + 1 := ⟨g.1 - 1, by omega⟩
  have L1 := L N (by omega)
  rw [← L1]
  simp [fX4_marks, kX4_marks, ent, entp, jX4_marks, bX4_marks_0, bX4_marks_1, i_aload, i_getf, i_i2l, i_iaload, i_icge, i_iinc, i_iload, i_imul, i_istore, i_jmp, i_lload, i_lor, i_lreturn, i_lshl, i_lstore, i_push, msk, lset1, lset2, clr, Value.category, Option.toList, List.cons_append, List.nil_append, List.length_cons, List.length_nil, hN, nI_0, pkN_0, (show lN 0 = 0 from rfl)]
theorem sh_step {C P x i : Nat} (hC : C < 2 ^ 40) (hP : P < 2 ^ (3 * i)) (hx : x < 8) (hi : i < 5) : lN (C + 2 ^ 40 * P) ||| (lN x <<< ((nI (40 + 3 * i)).toInt64 &&& 63)) = lN (C + 2 ^ 40 * (P + x * 2 ^ (3 * i))) := by
  have h7 : C + 2 ^ 40 * P < 2 ^ (40 + 3 * i) := by
    rw [Nat.pow_add]
    have := Nat.mul_le_mul_left (2 ^ 40) (Nat.succ_le_of_lt hP)
    rw [Nat.mul_succ] at this
    omega
  have h8 : x * 2 ^ (40 + 3 * i) = 2 ^ 40 * (x * 2 ^ (3 * i)) := by
    rw [Nat.pow_add, Nat.mul_left_comm]
  have h9 : C + 2 ^ 40 * P + x * 2 ^ (40 + 3 * i) = C + 2 ^ 40 * (P + x * 2 ^ (3 * i)) := by
    rw [h8, Nat.mul_add, Nat.add_assoc]
  have hA : P + x * 2 ^ (3 * i) < 2 ^ 15 := by
    have h1 : x * 2 ^ (3 * i) ≤ 7 * 2 ^ (3 * i) := Nat.mul_le_mul_right _ (by omega)
    have h2 : 2 ^ (3 * i) ≤ 2 ^ 12 := Nat.pow_le_pow_right (by decide) (by omega)
    omega
  rw [wb_shl _ (by omega), lN_or h7 (by rw [h9]; omega), h9]
theorem shares_sp {g : GE} (hg : FU g) {w : Mem} {r : Nat} {v d c o : Nat → Int32} {su tw : Int32} {cc oo : Nat → Nat} (hR : ROW w r v d c o su tw) (hc : ∀ b, b < 4 → c b = nI (cc b) ∧ cc b < 1024) (ho : ∀ b, b < 5 → o b = nI (oo b) - 1 ∧ oo b < 8) :
    fX4_shares g [.ref r] w = some (.inl (some (.long (lN (shN cc oo)))), w) := by
  obtain ⟨h0, h1, h2, h3, h4⟩ := id hR
  have lc : pkN cc 10 4 < 2 ^ 40 := pkN_lt fun b hb => (hc b hb).2
  obtain ⟨R, hRe⟩ : ∃ R, shN cc oo = R := ⟨_, rfl⟩
  rw [hRe]
  unfold shN at hRe
  obtain ⟨C, hC⟩ : ∃ C, pkN cc 10 4 = C := ⟨_, rfl⟩
  rw [hC] at lc hRe
  have L2 := lpF (fun f (s : Lv × Mem) => jX4_shares g f 2 [] s.1 s.2) (fun i => ([some (.ref r), some (.long (lN (C + 2 ^ 40 * pkN oo 3 i))), none, some (.int (nI i))], w)) (some (.inl (some (.long (lN R))), w)) 1 1 5
    (fun i hi f => by
      refine ⟨f, Nat.le_refl _, ?_⟩
      have e := sh_step (C := C) (P := pkN oo 3 i) (x := oo i) (i := i) lc (pkN_lt fun b hb => (ho b (by omega)).2) (ho i hi).2 hi
      rw [← pkN_s] at e
      have em : nI (oo i) - 1 + 1 = nI (oo i) := Int32.sub_add_cancel (nI (oo i)) 1
      generalize C + 2 ^ 40 * pkN oo 3 i = X at e ⊢
      generalize C + 2 ^ 40 * pkN oo 3 (i + 1) = Y at e ⊢
      simp [jX4_shares, bX4_shares_0, bX4_shares_1, bX4_shares_2, i_aload, i_getf, i_i2l, i_iadd, i_iaload, i_icge, i_iinc, i_iload, i_imul, i_istore, i_jmp, i_lload, i_lor, i_lreturn, i_lshl, i_lstore, i_push, msk, lset1, lset2, clr, Value.category, Option.toList, List.cons_append, List.nil_append, List.length_cons, List.length_nil, gf_eq h0, (show ¬ (5 : Int32) ≤ nI i from nI_ge hi (by decide)), h4.rd hi (by decide), (ho i hi).1, em, nI_l (n := oo i) (by have := (ho i hi).2; omega), e3, e40, e, nI_1])
    (fun f => by
      simp only [hRe]
      simp [jX4_shares, bX4_shares_0, bX4_shares_1, bX4_shares_2, i_aload, i_getf, i_i2l, i_iadd, i_iaload, i_icge, i_iinc, i_iload, i_imul, i_istore, i_jmp, i_lload, i_lor, i_lreturn, i_lshl, i_lstore, i_push, msk, lset1, lset2, clr, Value.category, Option.toList, List.cons_append, List.nil_append, List.length_cons, List.length_nil, gf_eq h0, (show (5 : Int32) ≤ nI 5 from by decide)])
  have L1 := lpF (fun f (s : Lv × Mem) => jX4_shares g (f + 6) 1 [] s.1 s.2) (fun i => ([some (.ref r), some (.long (lN (pkN cc 10 i))), none, some (.int (nI i))], w)) (some (.inl (some (.long (lN R))), w)) 1 1 4
    (fun i hi f => by
      refine ⟨f, Nat.le_refl _, ?_⟩
      have e : lN (pkN cc 10 i) ||| (lN (cc i) <<< ((nI (10 * i)).toInt64 &&& 63)) = lN (pkN cc 10 (i + 1)) := by
        have h5 := pkN_lt (f := cc) (wd := 10) (n := i) fun b hb => (hc b (by omega)).2
        have h6 := pkN_lt (f := cc) (wd := 10) (n := i + 1) fun b hb => (hc b (by omega)).2
        have h7 : pkN cc 10 (i + 1) < 2 ^ 64 := Nat.lt_of_lt_of_le h6 (Nat.pow_le_pow_right (by decide) (by omega))
        rw [wb_shl _ (by omega), lN_or h5 h7, ← pkN_s]
      generalize pkN cc 10 i = X at e ⊢
      generalize pkN cc 10 (i + 1) = Y at e ⊢
      have ef : f + 1 + 6 = (f + 6) + 1 := rfl
      simp only [ef]
      generalize f + 6 = F
      simp [jX4_shares, bX4_shares_0, bX4_shares_1, bX4_shares_2, i_aload, i_getf, i_i2l, i_iadd, i_iaload, i_icge, i_iinc, i_iload, i_imul, i_istore, i_jmp, i_lload, i_lor, i_lreturn, i_lshl, i_lstore, i_push, msk, lset1, lset2, clr, Value.category, Option.toList, List.cons_append, List.nil_append, List.length_cons, List.length_nil, gf_eq h0, (show ¬ (4 : Int32) ≤ nI i from nI_ge hi (by decide)), h3.rd hi (by decide), (hc i hi).1, nI_l (n := cc i) (by have := (hc i hi).2; omega), e10, e, nI_1])
    (fun f => by
      have q := L2 (f + 6) (by omega)
      simp only [pkN_0, nI_0, Nat.mul_zero, Nat.add_zero] at q
      have ef : f + 1 + 6 = (f + 6) + 1 := rfl
      simp only [ef]
      generalize f + 6 = F at q ⊢
      rw [← q]
      simp only [hC]
      simp [jX4_shares, bX4_shares_0, bX4_shares_1, bX4_shares_2, i_aload, i_getf, i_i2l, i_iadd, i_iaload, i_icge, i_iinc, i_iload, i_imul, i_istore, i_jmp, i_lload, i_lor, i_lreturn, i_lshl, i_lstore, i_push, msk, lset1, lset2, clr, Value.category, Option.toList, List.cons_append, List.nil_append, List.length_cons, List.length_nil, (show (4 : Int32) ≤ nI 4 from by decide)])
  obtain ⟨N, hN⟩ : ∃ N, g.1 = (N + 6) + 1 := ⟨g.1 - 7, by omega⟩
  have L3 := L1 N (by omega)
  simp only at L3
  generalize N + 6 = F at L3 hN
  rw [← L3]
  simp [fX4_shares, kX4_shares, ent, entp, jX4_shares, bX4_shares_0, bX4_shares_1, bX4_shares_2, i_aload, i_getf, i_i2l, i_iadd, i_iaload, i_icge, i_iinc, i_iload, i_imul, i_istore, i_jmp, i_lload, i_lor, i_lreturn, i_lshl, i_lstore, i_push, msk, lset1, lset2, clr, Value.category, Option.toList, List.cons_append, List.nil_append, List.length_cons, List.length_nil, hN, nI_0, pkN_0, (show lN 0 = 0 from rfl)]
