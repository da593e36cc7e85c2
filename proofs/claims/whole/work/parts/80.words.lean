/-! ===== a word, a number ===== -/
theorem nI_mul (a b : Nat) : nI a * nI b = nI (a * b) := (Int32.ofNat_mul a b).symm
theorem cd_st {C t : Nat} (h1 : 97 ≤ t) (h2 : t ≤ 122) : lN C * 27 + (nI t - 97 + 1).toInt64 = lN (C * 27 + (t - 96)) := by
  have e1 : nI t - 97 = nI (t - 97) := nI_sub (s := 97) h1
  rw [e1, nI_1, nI_l (by omega), show t - 97 + 1 = t - 96 by omega, ← lN_add, ← lN_mul]
  rfl
theorem readWord_sp {g : GE} (hg : FU g) {w : Mem} {S tx n a D : Nat} {s0 k p : Int32} {c0 : Int64} {T : Nat → Nat} (hO : SO w S tx n a s0 c0 D k p) (hT : TXT w tx T) (hS : S ≠ tx) (ha : a ≤ n) (hn : n ≤ 600) :
    ∃ w', fX6_readWord g [.ref S] w = some (.inl (some (.int (if le9 T n (sb T n a) = sb T n a then 0 else 1))), w') ∧ (le9 T n (sb T n a) = sb T n a → SO w' S tx n (sb T n a) (nI (sb T n a)) 0 D 1 (nI (sb T n a))) ∧ (le9 T n (sb T n a) ≠ sb T n a → SO w' S tx n (le9 T n (sb T n a)) (nI (sb T n a)) (lN (cdF T (sb T n a) (min (le9 T n (sb T n a) - sb T n a) 9))) D k p) ∧ Fr (fun q => q = S) w w' := by
  obtain ⟨N, hN⟩ : ∃ N, g.1 = N + 1 := ⟨g.1 - 1, by omega⟩
  obtain ⟨w1, r1, o1, F1⟩ := skipBlanks_sp hg hO hT hS ha hn
  have h1 : a ≤ sb T n a := ru_le ha
  have h2 : sb T n a ≤ n := ru_n ha
  generalize sb T n a = s at *
  have h3 : s ≤ le9 T n s := ru_le h2
  have h4 : le9 T n s ≤ n := ru_n h2
  have hT1 := hT.fr F1 (fun q => hS q.symm)
  obtain ⟨w2, hw2⟩ : ∃ z, mset w1 S (.inr (6, [.ref tx, .int (nI n), .int (nI s), .int (nI s), .long c0, .ref D, .int k, .int p])) = z := ⟨_, rfl⟩
  have o2 : SO w2 S tx n s (nI s) c0 D k p := hw2 ▸ ms_at _ _ _
  have F2 : Fr (fun q => q = S) w1 w2 := hw2 ▸ Fr.ms _ _ rfl
  obtain ⟨w3, hw3⟩ : ∃ z, mset w2 S (.inr (6, [.ref tx, .int (nI n), .int (nI s), .int (nI s), .long 0, .ref D, .int k, .int p])) = z := ⟨_, rfl⟩
  have o3 : SO w3 S tx n s (nI s) 0 D k p := hw3 ▸ ms_at _ _ _
  have F3 : Fr (fun q => q = S) w2 w3 := hw3 ▸ Fr.ms _ _ rfl
  have FF := (F1.tr F2).tr F3
  have L := lpR (fun f (z : Lv × Mem) => jX6_readWord g f 1 [] z.1 z.2) (fun i z => z.1 = [some (.ref S)] ∧ SO z.2 S tx n (s + i) (nI s) (lN (cdF T s (min i 9))) D k p ∧ Fr (fun q => q = S) w z.2)
    (fun z => ∃ w', z = some (.inl (some (.int (if le9 T n s = s then 0 else 1))), w') ∧ (le9 T n s = s → SO w' S tx n s (nI s) 0 D 1 (nI s)) ∧ (le9 T n s ≠ s → SO w' S tx n (le9 T n s) (nI s) (lN (cdF T s (min (le9 T n s - s) 9))) D k p) ∧ Fr (fun q => q = S) w w') 2 4 (le9 T n s - s)
    (fun i z hi hI f => by
      obtain ⟨e1, e2, e3⟩ := hI
      have q1 : isL (T (s + i)) = true := ru_p h2 (Nat.le_add_right _ _) (show s + i < le9 T n s by omega)
      simp only [isL, decide_eq_true_eq] at q1
      have rd := (hT.fr e3 (fun q => hS q.symm)).rd (a := s + i) (by omega)
      have e4 := nI_ge (a := s + i) (b := n) (by omega) (by omega)
      have e5 : ¬ nI (T (s + i)) < 97 := nI_nlt (b := 97) (by omega) (by omega)
      have e6 : ¬ 122 < nI (T (s + i)) := nI_nlt (a := 122) (by omega) (by decide)
      have e7 : nI (s + i) - nI s = nI i := by rw [nI_sub (by omega), Nat.add_sub_cancel_left]
      by_cases y : i < 9
      · have e8 : ¬ 9 ≤ nI i := nI_ge (b := 9) y (by decide)
        have e9 : lN (cdF T s (min i 9)) * 27 + (nI (T (s + i)) - 97 + 1).toInt64 = lN (cdF T s (min (i + 1) 9)) := by
          rw [cd_st q1.1 q1.2, show min i 9 = i by omega, show min (i + 1) 9 = i + 1 by omega]
          rfl
        have ob : OB (mset z.2 S (.inr (6, [.ref tx, .int (nI n), .int (nI (s + i)), .int (nI s), .long (lN (cdF T s (min (i + 1) 9))), .ref D, .int k, .int p]))) S 6 [.ref tx, .int (nI n), .int (nI (s + i)), .int (nI s), .long (lN (cdF T s (min (i + 1) 9))), .ref D, .int k, .int p] := ms_at _ _ _
        refine Or.inr ⟨f, ([some (.ref S)], mset (mset z.2 S (.inr (6, [.ref tx, .int (nI n), .int (nI (s + i)), .int (nI s), .long (lN (cdF T s (min (i + 1) 9))), .ref D, .int k, .int p]))) S (.inr (6, [.ref tx, .int (nI n), .int (nI (s + i + 1)), .int (nI s), .long (lN (cdF T s (min (i + 1) 9))), .ref D, .int k, .int p]))), Nat.le_refl _, ⟨rfl, ms_at _ _ _, (e3.tr (Fr.ms _ _ rfl)).tr (Fr.ms _ _ rfl)⟩, ?_⟩
        generalize cdF T s (min (i + 1) 9) = C1 at *
        generalize cdF T s (min i 9) = C0 at *
        generalize T (s + i) = X at *
        generalize s + i = A at *
        simp [jX6_readWord, bX6_readWord_0, bX6_readWord_1, bX6_readWord_2, bX6_readWord_3, bX6_readWord_4, bX6_readWord_5, i_aload, i_dup, i_getf, i_i2l, i_iadd, i_iaload, i_icge, i_icgt, i_iclt, i_ifeq, i_isub, i_jmp, i_ladd, i_lmul, i_push, i_putf, i_zreturn, msk, lset1, lset2, clr, Value.category, Option.toList, List.cons_append, List.nil_append, List.length_cons, List.length_nil, e1, gf_eq e2, e4, rd, e5, e6, e7, e8, e9, sf_l e2, gf_eq ob, sf_i ob, nI_1]
      · have e8 : 9 ≤ nI i := nI_le (a := 9) (by omega) (by omega)
        refine Or.inr ⟨f, ([some (.ref S)], mset z.2 S (.inr (6, [.ref tx, .int (nI n), .int (nI (s + i + 1)), .int (nI s), .long (lN (cdF T s (min i 9))), .ref D, .int k, .int p]))), Nat.le_refl _, ⟨rfl, ?_, e3.tr (Fr.ms _ _ rfl)⟩, ?_⟩
        · have := ms_at z.2 S (.inr (6, [.ref tx, .int (nI n), .int (nI (s + i + 1)), .int (nI s), .long (lN (cdF T s (min i 9))), .ref D, .int k, .int p]))
          rw [show min (i + 1) 9 = min i 9 by omega]
          exact this
        · generalize cdF T s (min i 9) = C0 at *
          generalize T (s + i) = X at *
          generalize s + i = A at *
          simp [jX6_readWord, bX6_readWord_0, bX6_readWord_1, bX6_readWord_2, bX6_readWord_3, bX6_readWord_4, bX6_readWord_5, i_aload, i_dup, i_getf, i_i2l, i_iadd, i_iaload, i_icge, i_icgt, i_iclt, i_ifeq, i_isub, i_jmp, i_ladd, i_lmul, i_push, i_putf, i_zreturn, msk, lset1, lset2, clr, Value.category, Option.toList, List.cons_append, List.nil_append, List.length_cons, List.length_nil, e1, gf_eq e2, e4, rd, e5, e6, e7, e8, sf_i e2, nI_1])
    (fun z hI f => by
      obtain ⟨e1, e2, e3⟩ := hI
      rw [show s + (le9 T n s - s) = le9 T n s by omega] at e2
      have hx : ∀ F, jX6_readWord g (F + 1) 1 [] z.1 z.2 = jX6_readWord g F 3 [] z.1 z.2 := fun F => by
        by_cases y : le9 T n s < n
        · have q1 : ¬ isL (T (le9 T n s)) = true := ru_q h2 y
          simp only [isL, decide_eq_true_eq] at q1
          have rd := (hT.fr e3 (fun q => hS q.symm)).rd (a := le9 T n s) (by omega)
          have lt := hT.2 (le9 T n s) (by omega)
          have e4 := nI_ge (a := le9 T n s) (b := n) (by omega) (by omega)
          by_cases x : 97 ≤ T (le9 T n s)
          · have e5 : ¬ nI (T (le9 T n s)) < 97 := nI_nlt (b := 97) (by omega) (by omega)
            have e6 : 122 < nI (T (le9 T n s)) := nI_lt (a := 122) (by omega) (by omega)
            generalize T (le9 T n s) = X at *
            generalize cdF T s (min (le9 T n s - s) 9) = C0 at *
            generalize le9 T n s = A at *
            simp [jX6_readWord, bX6_readWord_0, bX6_readWord_1, bX6_readWord_2, bX6_readWord_3, bX6_readWord_4, bX6_readWord_5, i_aload, i_dup, i_getf, i_i2l, i_iadd, i_iaload, i_icge, i_icgt, i_iclt, i_ifeq, i_isub, i_jmp, i_ladd, i_lmul, i_push, i_putf, i_zreturn, msk, lset1, lset2, clr, Value.category, Option.toList, List.cons_append, List.nil_append, List.length_cons, List.length_nil, e1, gf_eq e2, e4, rd, e5, e6]
          · have e5 : nI (T (le9 T n s)) < 97 := nI_lt (b := 97) (by omega) (by decide)
            generalize T (le9 T n s) = X at *
            generalize cdF T s (min (le9 T n s - s) 9) = C0 at *
            generalize le9 T n s = A at *
            simp [jX6_readWord, bX6_readWord_0, bX6_readWord_1, bX6_readWord_2, bX6_readWord_3, bX6_readWord_4, bX6_readWord_5, i_aload, i_dup, i_getf, i_i2l, i_iadd, i_iaload, i_icge, i_icgt, i_iclt, i_ifeq, i_isub, i_jmp, i_ladd, i_lmul, i_push, i_putf, i_zreturn, msk, lset1, lset2, clr, Value.category, Option.toList, List.cons_append, List.nil_append, List.length_cons, List.length_nil, e1, gf_eq e2, e4, rd, e5]
        · have e4 := nI_le (a := n) (b := le9 T n s) (by omega) (by omega)
          generalize cdF T s (min (le9 T n s - s) 9) = C0 at *
          generalize le9 T n s = A at *
          simp [jX6_readWord, bX6_readWord_0, bX6_readWord_1, bX6_readWord_2, bX6_readWord_3, bX6_readWord_4, bX6_readWord_5, i_aload, i_dup, i_getf, i_i2l, i_iadd, i_iaload, i_icge, i_icgt, i_iclt, i_ifeq, i_isub, i_jmp, i_ladd, i_lmul, i_push, i_putf, i_zreturn, msk, lset1, lset2, clr, Value.category, Option.toList, List.cons_append, List.nil_append, List.length_cons, List.length_nil, e1, gf_eq e2, e4]
      show ∃ w', jX6_readWord g (f + 3 + 1) 1 [] z.1 z.2 = _ ∧ _
      rw [hx (f + 3)]
      by_cases y : le9 T n s = s
      · rw [if_pos y]
        have e9 : SO z.2 S tx n s (nI s) 0 D k p := by
          rw [y, Nat.sub_self] at e2
          exact e2
        obtain ⟨w5, p1, p2, p3⟩ := fail_sp (g := g) e9 1 (nI s)
        have e8 : ¬ nI s < nI s := nI_nlt (Nat.le_refl _) (by omega)
        refine ⟨w5, ?_, fun _ => p2, fun q => absurd y q, e3.tr p3⟩
        clear hx e2
        simp [jX6_readWord, bX6_readWord_0, bX6_readWord_1, bX6_readWord_2, bX6_readWord_3, bX6_readWord_4, bX6_readWord_5, i_aload, i_dup, i_getf, i_i2l, i_iadd, i_iaload, i_icge, i_icgt, i_iclt, i_ifeq, i_isub, i_jmp, i_ladd, i_lmul, i_push, i_putf, i_zreturn, msk, lset1, lset2, clr, Value.category, Option.toList, List.cons_append, List.nil_append, List.length_cons, List.length_nil, e1, gf_eq e9, e8, cvk_2 e9 p1]
      · rw [if_neg y]
        have e8 : nI s < nI (le9 T n s) := nI_lt (by omega) (by omega)
        refine ⟨z.2, ?_, fun q => absurd q y, fun _ => e2, e3⟩
        clear hx
        generalize cdF T s (min (le9 T n s - s) 9) = C0 at *
        generalize le9 T n s = A at *
        simp [jX6_readWord, bX6_readWord_0, bX6_readWord_1, bX6_readWord_2, bX6_readWord_3, bX6_readWord_4, bX6_readWord_5, i_aload, i_dup, i_getf, i_i2l, i_iadd, i_iaload, i_icge, i_icgt, i_iclt, i_ifeq, i_isub, i_jmp, i_ladd, i_lmul, i_push, i_putf, i_zreturn, msk, lset1, lset2, clr, Value.category, Option.toList, List.cons_append, List.nil_append, List.length_cons, List.length_nil, e1, gf_eq e2, e8])
  have L1 := L (le9 T n s - s) 0 ([some (.ref S)], w3) (by omega) ⟨rfl, o3, FF⟩ N (by omega)
  have e0 : fX6_readWord g [.ref S] w = jX6_readWord g N 1 [] [some (.ref S)] w3 := by
    clear L1 L
    simp [fX6_readWord, kX6_readWord, ent, entp, jX6_readWord, bX6_readWord_0, bX6_readWord_1, bX6_readWord_2, bX6_readWord_3, bX6_readWord_4, bX6_readWord_5, i_aload, i_dup, i_getf, i_i2l, i_iadd, i_iaload, i_icge, i_icgt, i_iclt, i_ifeq, i_isub, i_jmp, i_ladd, i_lmul, i_push, i_putf, i_zreturn, msk, lset1, lset2, clr, Value.category, Option.toList, List.cons_append, List.nil_append, List.length_cons, List.length_nil, hN, cvk_0 hO r1, gf_eq o1, sf_i o1, hw2, sf_l o2, hw3]
  rw [e0]
  exact L1
theorem nm_st {v t : Nat} (h1 : 48 ≤ t) (h2 : t ≤ 57) (hv : v ≤ 1000) : (if (1000 : Int32) < nI v * 10 + nI t - 48 then 1000 else nI v * 10 + nI t - 48) = nI (min (v * 10 + (t - 48)) 1000) := by
  have e1 : nI v * 10 = nI (v * 10) := nI_mul v 10
  have e2 : nI v * 10 + nI t - 48 = nI (v * 10 + (t - 48)) := by
    rw [e1, nI_add, show v * 10 + (t - 48) = v * 10 + t - 48 by omega]
    exact nI_sub (s := 48) (by omega)
  rw [e2]
  have e3 : (1000 : Int32) < nI (v * 10 + (t - 48)) ↔ 1000 < v * 10 + (t - 48) := nI_ltI (a := 1000) (by decide) (by omega)
  by_cases y : 1000 < v * 10 + (t - 48)
  · rw [if_pos (e3.mpr y), show min (v * 10 + (t - 48)) 1000 = 1000 by omega]
    rfl
  · rw [if_neg (mt e3.mp y), show min (v * 10 + (t - 48)) 1000 = v * 10 + (t - 48) by omega]
def pvI (r : PV) : Int32 := match r with
  | .inl _ => -1
  | .inr x => nI x.1
/-- how the scribe stands behind a value -/
def PVO (w' : Mem) (S tx n D : Nat) (k p : Int32) (r : PV) : Prop := match r with
  | .inl e => ∃ a s c, SO w' S tx n a s c D (nI e.1) (nI e.2)
  | .inr x => ∃ s c, SO w' S tx n x.2 s c D k p
theorem readNumber_sp {g : GE} (hg : FU g) {w : Mem} {S tx n a D mx : Nat} {s0 k p : Int32} {c0 : Int64} {T : Nat → Nat} (hO : SO w S tx n a s0 c0 D k p) (hT : TXT w tx T) (hS : S ≠ tx) (ha : a ≤ n) (hn : n ≤ 600) (hm : mx ≤ 999) :
    ∃ w', fX6_readNumber g [.ref S, .int (nI mx)] w = some (.inl (some (.int (pvI (numP T n mx a)))), w') ∧ (match numP T n mx a with | .inl e => SO w' S tx n (ru isD T n (sb T n a)) s0 c0 D (nI e.1) (nI e.2) | .inr x => SO w' S tx n x.2 s0 c0 D k p) ∧ Fr (fun q => q = S) w w' := by
  obtain ⟨N, hN⟩ : ∃ N, g.1 = N + 1 := ⟨g.1 - 1, by omega⟩
  obtain ⟨w1, r1, o1, F1⟩ := skipBlanks_sp hg hO hT hS ha hn
  have h1 : a ≤ sb T n a := ru_le ha
  have h2 : sb T n a ≤ n := ru_n ha
  unfold numP
  generalize sb T n a = s at *
  have h3 : s ≤ ru isD T n s := ru_le h2
  have h4 : ru isD T n s ≤ n := ru_n h2
  have L := lpR (fun f (z : Lv × Mem) => jX6_readNumber g f 1 [] z.1 z.2) (fun i z => z.1 = [some (.ref S), some (.int (nI mx)), some (.int (nI s)), some (.int (nI (nmF T s i)))] ∧ SO z.2 S tx n (s + i) s0 c0 D k p ∧ Fr (fun q => q = S) w z.2)
    (fun z => ∃ w', z = some (.inl (some (.int (pvI (if ru isD T n s = s then .inl (1, s) else if mx < nmF T s (ru isD T n s - s) then .inl (2, s) else .inr (nmF T s (ru isD T n s - s), ru isD T n s))))), w') ∧ (match (if ru isD T n s = s then .inl (1, s) else if mx < nmF T s (ru isD T n s - s) then .inl (2, s) else .inr (nmF T s (ru isD T n s - s), ru isD T n s) : PV) with | .inl e => SO w' S tx n (ru isD T n s) s0 c0 D (nI e.1) (nI e.2) | .inr x => SO w' S tx n x.2 s0 c0 D k p) ∧ Fr (fun q => q = S) w w') 1 2 (ru isD T n s - s)
    (fun i z hi hI f => by
      obtain ⟨e1, e2, e3⟩ := hI
      have q1 : isD (T (s + i)) = true := ru_p h2 (Nat.le_add_right _ _) (show s + i < ru isD T n s by omega)
      simp only [isD, decide_eq_true_eq] at q1
      have rd := (hT.fr e3 (fun q => hS q.symm)).rd (a := s + i) (by omega)
      have e4 := nI_ge (a := s + i) (b := n) (by omega) (by omega)
      have e5 : ¬ nI (T (s + i)) < 48 := nI_nlt (b := 48) (by omega) (by omega)
      have e6 : ¬ 57 < nI (T (s + i)) := nI_nlt (a := 57) (by omega) (by decide)
      have e7 := nm_st q1.1 q1.2 (nmF_le T s i)
      have e8 : min (nmF T s i * 10 + (T (s + i) - 48)) 1000 = nmF T s (i + 1) := rfl
      rw [e8] at e7
      refine Or.inr ⟨f, ([some (.ref S), some (.int (nI mx)), some (.int (nI s)), some (.int (nI (nmF T s (i + 1))))], mset z.2 S (.inr (6, [.ref tx, .int (nI n), .int (nI (s + i + 1)), .int s0, .long c0, .ref D, .int k, .int p]))), Nat.le_refl _, ⟨rfl, ms_at _ _ _, e3.tr (Fr.ms _ _ rfl)⟩, ?_⟩
      clear e8
      generalize nmF T s (i + 1) = C1 at *
      generalize nmF T s i = C0 at *
      generalize T (s + i) = X at *
      generalize s + i = A at *
      simp [jX6_readNumber, bX6_readNumber_0, bX6_readNumber_1, bX6_readNumber_2, i_aload, i_dup, i_getf, i_iadd, i_iaload, i_icge, i_icgt, i_icle, i_iclt, i_icne, i_iload, i_imul, i_ireturn, i_istore, i_isub, i_jmp, i_min, i_pop, i_push, i_putf, msk, lset1, lset2, clr, Value.category, Option.toList, List.cons_append, List.nil_append, List.length_cons, List.length_nil, e1, gf_eq e2, e4, rd, e5, e6, e7, sf_i e2, nI_1])
    (fun z hI f => by
      obtain ⟨e1, e2, e3⟩ := hI
      rw [show s + (ru isD T n s - s) = ru isD T n s by omega] at e2
      have hx : ∀ F, jX6_readNumber g (F + 1) 1 [] z.1 z.2 = jX6_readNumber g F 2 [] z.1 z.2 := fun F => by
        by_cases y : ru isD T n s < n
        · have q1 := ru_q h2 y
          simp only [isD, decide_eq_true_eq] at q1
          have rd := (hT.fr e3 (fun q => hS q.symm)).rd (a := ru isD T n s) (by omega)
          have lt := hT.2 (ru isD T n s) (by omega)
          have e4 := nI_ge (a := ru isD T n s) (b := n) (by omega) (by omega)
          by_cases x : 48 ≤ T (ru isD T n s)
          · have e5 : ¬ nI (T (ru isD T n s)) < 48 := nI_nlt (b := 48) (by omega) (by omega)
            have e6 : 57 < nI (T (ru isD T n s)) := nI_lt (a := 57) (by omega) (by omega)
            generalize T (ru isD T n s) = X at *
            generalize nmF T s (ru isD T n s - s) = C0 at *
            generalize ru isD T n s = A at *
            simp [jX6_readNumber, bX6_readNumber_0, bX6_readNumber_1, bX6_readNumber_2, i_aload, i_dup, i_getf, i_iadd, i_iaload, i_icge, i_icgt, i_icle, i_iclt, i_icne, i_iload, i_imul, i_ireturn, i_istore, i_isub, i_jmp, i_min, i_pop, i_push, i_putf, msk, lset1, lset2, clr, Value.category, Option.toList, List.cons_append, List.nil_append, List.length_cons, List.length_nil, e1, gf_eq e2, e4, rd, e5, e6]
          · have e5 : nI (T (ru isD T n s)) < 48 := nI_lt (b := 48) (by omega) (by decide)
            generalize T (ru isD T n s) = X at *
            generalize nmF T s (ru isD T n s - s) = C0 at *
            generalize ru isD T n s = A at *
            simp [jX6_readNumber, bX6_readNumber_0, bX6_readNumber_1, bX6_readNumber_2, i_aload, i_dup, i_getf, i_iadd, i_iaload, i_icge, i_icgt, i_icle, i_iclt, i_icne, i_iload, i_imul, i_ireturn, i_istore, i_isub, i_jmp, i_min, i_pop, i_push, i_putf, msk, lset1, lset2, clr, Value.category, Option.toList, List.cons_append, List.nil_append, List.length_cons, List.length_nil, e1, gf_eq e2, e4, rd, e5]
        · have e4 := nI_le (a := n) (b := ru isD T n s) (by omega) (by omega)
          generalize nmF T s (ru isD T n s - s) = C0 at *
          generalize ru isD T n s = A at *
          simp [jX6_readNumber, bX6_readNumber_0, bX6_readNumber_1, bX6_readNumber_2, i_aload, i_dup, i_getf, i_iadd, i_iaload, i_icge, i_icgt, i_icle, i_iclt, i_icne, i_iload, i_imul, i_ireturn, i_istore, i_isub, i_jmp, i_min, i_pop, i_push, i_putf, msk, lset1, lset2, clr, Value.category, Option.toList, List.cons_append, List.nil_append, List.length_cons, List.length_nil, e1, gf_eq e2, e4]
      show ∃ w', jX6_readNumber g (f + 1 + 1) 1 [] z.1 z.2 = _ ∧ _
      rw [hx (f + 1)]
      clear hx
      have hv := nmF_le T s (ru isD T n s - s)
      generalize nmF T s (ru isD T n s - s) = C0 at *
      by_cases y : ru isD T n s = s
      · rw [if_pos y]
        rw [y] at e2
        obtain ⟨w5, p1, p2, p3⟩ := fail_sp (g := g) e2 1 (nI s)
        refine ⟨w5, ?_, by rw [y]; exact p2, e3.tr p3⟩
        show jX6_readNumber g (f + 1) 2 [] z.1 z.2 = some (.inl (some (.int (-1))), w5)
        simp [jX6_readNumber, bX6_readNumber_0, bX6_readNumber_1, bX6_readNumber_2, i_aload, i_dup, i_getf, i_iadd, i_iaload, i_icge, i_icgt, i_icle, i_iclt, i_icne, i_iload, i_imul, i_ireturn, i_istore, i_isub, i_jmp, i_min, i_pop, i_push, i_putf, msk, lset1, lset2, clr, Value.category, Option.toList, List.cons_append, List.nil_append, List.length_cons, List.length_nil, e1, gf_eq e2, cvk_2 e2 p1]
      · rw [if_neg y]
        have e8 := mt (nI_eq (a := ru isD T n s) (b := s) (by omega) (by omega)).mp y
        by_cases x : mx < C0
        · rw [if_pos x]
          obtain ⟨w5, p1, p2, p3⟩ := fail_sp (g := g) e2 2 (nI s)
          have e9 := nI_ge x (by omega)
          refine ⟨w5, ?_, p2, e3.tr p3⟩
          show jX6_readNumber g (f + 1) 2 [] z.1 z.2 = some (.inl (some (.int (-1))), w5)
          generalize ru isD T n s = A at *
          simp [jX6_readNumber, bX6_readNumber_0, bX6_readNumber_1, bX6_readNumber_2, i_aload, i_dup, i_getf, i_iadd, i_iaload, i_icge, i_icgt, i_icle, i_iclt, i_icne, i_iload, i_imul, i_ireturn, i_istore, i_isub, i_jmp, i_min, i_pop, i_push, i_putf, msk, lset1, lset2, clr, Value.category, Option.toList, List.cons_append, List.nil_append, List.length_cons, List.length_nil, e1, gf_eq e2, e8, e9, cvk_2 e2 p1]
        · rw [if_neg x]
          have e9 := nI_le (a := C0) (b := mx) (by omega) (by omega)
          refine ⟨z.2, ?_, e2, e3⟩
          show jX6_readNumber g (f + 1) 2 [] z.1 z.2 = some (.inl (some (.int (nI C0))), z.2)
          generalize ru isD T n s = A at *
          simp [jX6_readNumber, bX6_readNumber_0, bX6_readNumber_1, bX6_readNumber_2, i_aload, i_dup, i_getf, i_iadd, i_iaload, i_icge, i_icgt, i_icle, i_iclt, i_icne, i_iload, i_imul, i_ireturn, i_istore, i_isub, i_jmp, i_min, i_pop, i_push, i_putf, msk, lset1, lset2, clr, Value.category, Option.toList, List.cons_append, List.nil_append, List.length_cons, List.length_nil, e1, gf_eq e2, e8, e9])
  have L1 := L (ru isD T n s - s) 0 ([some (.ref S), some (.int (nI mx)), some (.int (nI s)), some (.int (nI 0))], w1) (by omega) ⟨rfl, o1, F1⟩ N (by omega)
  have e0 : fX6_readNumber g [.ref S, .int (nI mx)] w = jX6_readNumber g N 1 [] [some (.ref S), some (.int (nI mx)), some (.int (nI s)), some (.int (nI 0))] w1 := by
    clear L1 L
    rw [nI_0]
    simp [fX6_readNumber, kX6_readNumber, ent, entp, jX6_readNumber, bX6_readNumber_0, bX6_readNumber_1, bX6_readNumber_2, i_aload, i_dup, i_getf, i_iadd, i_iaload, i_icge, i_icgt, i_icle, i_iclt, i_icne, i_iload, i_imul, i_ireturn, i_istore, i_isub, i_jmp, i_min, i_pop, i_push, i_putf, msk, lset1, lset2, clr, Value.category, Option.toList, List.cons_append, List.nil_append, List.length_cons, List.length_nil, hN, cvk_0 hO r1, gf_eq o1]
  rw [e0]
  exact L1
