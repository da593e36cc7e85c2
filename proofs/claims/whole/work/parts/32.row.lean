/-! ===== the class's Row ===== -/
def ROW (w : Mem) (r : Nat) (v d c o : Nat → Int32) (su tw : Int32) : Prop := OB w r 4 [.ref (r + 1), .ref (r + 2), .ref (r + 3), .ref (r + 4), .int su, .int tw] ∧ IA w (r + 1) 36 v ∧ IA w (r + 2) 8 d ∧ IA w (r + 3) 4 c ∧ IA w (r + 4) 5 o
def DEED (g : GE) (w : Mem) (D : Nat) (δ : DE) : Prop :=
  OB w D 2 [.ref (D + 1), .ref (D + 2), .ref (D + 3), .ref (D + 4), .ref (D + 5), .ref (D + 6), .ref (D + 7), .ref (D + 8), .ref (D + 9), .int (nI (δ.1 0)), .int (nI (δ.1 1)), .int (nI (δ.1 2)), .int (nI (δ.1 5)), .int (nI (δ.1 3)), .int (nI (δ.1 4)), .int (nI (δ.1 6))]
  ∧ LA w (D + 1) 4 (fun i => lN (δ.2 13 i)) ∧ IA w (D + 2) 4 (fun i => nI (δ.2 0 i)) ∧ IA w (D + 3) 4 (fun i => nI (δ.2 1 i))
  ∧ LA w (D + 4) 5 (fun i => lN (δ.2 14 i)) ∧ IA w (D + 5) 5 (fun i => nI (δ.2 2 i)) ∧ RA 5 w (D + 6) 9 (fun i => D + 10 + i)
  ∧ IA w (D + 7) 36 (fun i => nI (δ.2 6 i)) ∧ IA w (D + 8) 36 (fun i => nI (δ.2 7 i)) ∧ RA 6 w (D + 9) 8 (fun i => D + 19 + 2 * i)
  ∧ (∀ k, k < 9 → OB w (D + 10 + k) 3 [.ref (g.2.1 (4 + δ.2 3 k)), .int (nI (δ.2 4 k)), .int (nI (δ.2 5 k))])
  ∧ (∀ b, b < 8 → OB w (D + 19 + 2 * b) 1 [.ref (D + 20 + 2 * b), .int (nI (δ.2 10 b)), .int (nI (δ.2 8 b)), .int (nI (δ.2 9 b)), .int (nI (δ.2 11 b)), .int (nI (δ.2 12 b))])
  ∧ (∀ b, b < 8 → IA w (D + 20 + 2 * b) 100 (fun i => nI (δ.2 (20 + b) i)))
theorem ROW.fr {S : Nat → Prop} {w w1 : Mem} {r : Nat} {v d c o : Nat → Int32} {su tw : Int32} (h : ROW w r v d c o su tw) (k : Fr S w w1) (q : ∀ i, i < 5 → ¬ S (r + i)) : ROW w1 r v d c o su tw :=
  ⟨k.at h.1 (q 0 (by decide)), h.2.1.fr k (q 1 (by decide)), h.2.2.1.fr k (q 2 (by decide)), h.2.2.2.1.fr k (q 3 (by decide)), h.2.2.2.2.fr k (q 4 (by decide))⟩
theorem DEED.fr {g : GE} {S : Nat → Prop} {w w1 : Mem} {D : Nat} {δ : DE} (h : DEED g w D δ) (k : Fr S w w1) (q : ∀ i, i < 35 → ¬ S (D + i)) : DEED g w1 D δ := by
  obtain ⟨h0, h1, h2, h3, h4, h5, h6, h7, h8, h9, hp, hb, hv⟩ := h
  refine ⟨k.at h0 (q 0 (by decide)), h1.fr k (q 1 (by decide)), h2.fr k (q 2 (by decide)), h3.fr k (q 3 (by decide)), h4.fr k (q 4 (by decide)), h5.fr k (q 5 (by decide)), h6.fr k (q 6 (by decide)), h7.fr k (q 7 (by decide)), h8.fr k (q 8 (by decide)), h9.fr k (q 9 (by decide)), fun i hi => k.at (hp i hi) ?_, fun i hi => k.at (hb i hi) ?_, fun i hi => (hv i hi).fr k ?_⟩
  · have := q (10 + i) (by omega)
    rwa [← Nat.add_assoc] at this
  · have := q (19 + 2 * i) (by omega)
    rwa [← Nat.add_assoc] at this
  · have := q (20 + 2 * i) (by omega)
    rwa [← Nat.add_assoc] at this
theorem ROW.v' {w : Mem} {r : Nat} {v d c o : Nat → Int32} {su tw : Int32} (h : ROW w r v d c o su tw) (j : Nat) (x : Int32) : ROW (wi w 0 (r + 1) j x) r (va_up v j x) d c o su tw :=
  ⟨(wi_ne w 0 j x (by omega)).trans h.1, h.2.1.up j x, h.2.2.1.wi (by omega), h.2.2.2.1.wi (by omega), h.2.2.2.2.wi (by omega)⟩
theorem ROW.d' {w : Mem} {r : Nat} {v d c o : Nat → Int32} {su tw : Int32} (h : ROW w r v d c o su tw) (j : Nat) (x : Int32) : ROW (wi w 0 (r + 2) j x) r v (va_up d j x) c o su tw :=
  ⟨(wi_ne w 0 j x (by omega)).trans h.1, h.2.1.wi (by omega), h.2.2.1.up j x, h.2.2.2.1.wi (by omega), h.2.2.2.2.wi (by omega)⟩
theorem ROW.c' {w : Mem} {r : Nat} {v d c o : Nat → Int32} {su tw : Int32} (h : ROW w r v d c o su tw) (j : Nat) (x : Int32) : ROW (wi w 0 (r + 3) j x) r v d (va_up c j x) o su tw :=
  ⟨(wi_ne w 0 j x (by omega)).trans h.1, h.2.1.wi (by omega), h.2.2.1.wi (by omega), h.2.2.2.1.up j x, h.2.2.2.2.wi (by omega)⟩
theorem ROW.o' {w : Mem} {r : Nat} {v d c o : Nat → Int32} {su tw : Int32} (h : ROW w r v d c o su tw) (j : Nat) (x : Int32) : ROW (wi w 0 (r + 4) j x) r v d c (va_up o j x) su tw :=
  ⟨(wi_ne w 0 j x (by omega)).trans h.1, h.2.1.wi (by omega), h.2.2.1.wi (by omega), h.2.2.2.1.wi (by omega), h.2.2.2.2.up j x⟩
theorem ROW.b' {w : Mem} {r : Nat} {v d c o : Nat → Int32} {su tw : Int32} (h : ROW w r v d c o su tw) (su' tw' : Int32) : ROW (mset w r (.inr (4, [.ref (r + 1), .ref (r + 2), .ref (r + 3), .ref (r + 4), .int su', .int tw']))) r v d c o su' tw' :=
  ⟨ms_at _ _ _, h.2.1.ms (by omega), h.2.2.1.ms (by omega), h.2.2.2.1.ms (by omega), h.2.2.2.2.ms (by omega)⟩
theorem ROW.cg {w : Mem} {r : Nat} {v d c o v' d' c' o' : Nat → Int32} {su tw su' tw' : Int32} (h : ROW w r v d c o su tw) (hv : ∀ i, i < 36 → v i = v' i) (hd : ∀ i, i < 8 → d i = d' i) (hc : ∀ i, i < 4 → c i = c' i) (ho : ∀ i, i < 5 → o i = o' i) (hs : su = su') (ht : tw = tw') : ROW w r v' d' c' o' su' tw' := by
  subst hs; subst ht
  exact ⟨h.1, h.2.1.cg hv, h.2.2.1.cg hd, h.2.2.2.1.cg hc, h.2.2.2.2.cg ho⟩
theorem fill_sp {g : GE} (hg : FU g) {w : Mem} {a n : Nat} {c : Nat → Int32} (h : IA w a n c) (hn : n ≤ 900000) (x : Int32) : ∃ w', fJ7_fill_53178 g [.ref a, .int x] w = some (.inl none, w') ∧ IA w' a n (fun _ => x) ∧ Fr (fun q => q = a) w w' := by
  have L := lpR (fun f (s : Lv × Mem) => jJ7_fill_53178 g f 1 [] s.1 s.2) (fun i s => s.1 = [some (.ref a), some (.int x), some (.int (nI i)), some (.int (nI n))] ∧ IA s.2 a n (fun q => if q < i then x else c q) ∧ Fr (fun q => q = a) w s.2)
    (fun z => ∃ w', z = some (.inl none, w') ∧ IA w' a n (fun _ => x) ∧ Fr (fun q => q = a) w w') 1 1 n
    (fun i s hi hI f => by
      obtain ⟨e1, e2, e3⟩ := hI
      refine Or.inr ⟨f, ([some (.ref a), some (.int x), some (.int (nI (i + 1))), some (.int (nI n))], wi s.2 0 a i x), Nat.le_refl _, ⟨rfl, (e2.up i x).cg ?_, e3.tr (Fr.wi _ _ _ _ rfl)⟩, ?_⟩
      · intro q hq
        unfold va_up
        by_cases z : q = i
        · simp [z]
        · by_cases y : q < i
          · simp [z, y, Nat.lt_succ_of_lt y]
          · have : ¬ q < i + 1 := by omega
            simp [z, y, this]
      · simp [jJ7_fill_53178, bJ7_fill_53178_0, bJ7_fill_53178_1, i_alen, i_aload, i_iastore, i_icge, i_iinc, i_iload, i_istore, i_jmp, i_push, i_return, msk, lset1, lset2, clr, Value.category, Option.toList, List.cons_append, List.nil_append, List.length_cons, List.length_nil, e1, nI_ge hi (by omega), e2.wr hi (by omega), nI_1])
    (fun s hI f => by
      obtain ⟨e1, e2, e3⟩ := hI
      refine ⟨s.2, ?_, e2.cg fun i hi => by simp [hi], e3⟩
      simp [jJ7_fill_53178, bJ7_fill_53178_0, bJ7_fill_53178_1, i_alen, i_aload, i_iastore, i_icge, i_iinc, i_iload, i_istore, i_jmp, i_push, i_return, msk, lset1, lset2, clr, Value.category, Option.toList, List.cons_append, List.nil_append, List.length_cons, List.length_nil, e1])
  obtain ⟨f0, hf0, hf1⟩ := id h
  obtain ⟨N, hN⟩ : ∃ N, g.1 = N + 1 := ⟨g.1 - 1, by omega⟩
  have L1 := L n 0 ([some (.ref a), some (.int x), some (.int (nI 0)), some (.int (nI n))], w) (by omega) ⟨rfl, h.cg fun i _ => by simp, Fr.rf _ _⟩ N (by omega)
  have e : fJ7_fill_53178 g [.ref a, .int x] w = jJ7_fill_53178 g N 1 [] [some (.ref a), some (.int x), some (.int (nI 0)), some (.int (nI n))] w := by
    simp [fJ7_fill_53178, kJ7_fill_53178, ent, entp, jJ7_fill_53178, bJ7_fill_53178_0, bJ7_fill_53178_1, i_alen, i_aload, i_iastore, i_icge, i_iinc, i_iload, i_istore, i_jmp, i_push, i_return, msk, lset1, lset2, clr, Value.category, Option.toList, List.cons_append, List.nil_append, List.length_cons, List.length_nil, hN, hf0, nI]
  rw [e]
  exact L1
theorem will_sp {g : GE} (hg : FU g) {w : Mem} {r pa vb t p x y : Nat} {v d c o : Nat → Int32} {su tw : Int32} (hR : ROW w r v d c o su tw) (hP : OB w pa 3 [.ref vb, .int (nI t), .int (nI p)]) (ht : t < 5) (hp : p < 36) (hx : v p = nI x) (hy : o t = nI y - 1) (lx : x < 100) (ly : y < 100) :
    ∃ w', fX4_will g [.ref r, .ref pa] w = some (.inl none, w') ∧ ROW w' r v d c (fun q => if q = t ∧ y = 0 then nI (x + 1) - 1 else o q) su (if y ≠ 0 ∧ y ≠ x + 1 then 1 else tw) ∧ Fr (rg r (r + 5)) w w' := by
  obtain ⟨N, hN⟩ : ∃ N, g.1 = N + 2 := ⟨g.1 - 2, by omega⟩
  obtain ⟨h0, h1, h2, h3, h4⟩ := id hR
  by_cases q0 : y = 0
  · subst q0
    refine ⟨wi w 0 (r + 4) t (nI x), ?_, (hR.o' t (nI x)).cg (fun _ _ => rfl) (fun _ _ => rfl) (fun _ _ => rfl) ?_ rfl (by simp), Fr.wi _ _ _ _ (by unfold rg; omega)⟩
    · simp [fX4_will, kX4_will, ent, entp, jX4_will, bX4_will_0, bX4_will_1, i_aload, i_getf, i_iaload, i_iastore, i_iceq, i_icne, i_iload, i_istore, i_jmp, i_push, i_putf, i_return, msk, lset1, lset2, clr, Value.category, Option.toList, List.cons_append, List.nil_append, List.length_cons, List.length_nil, hN, gf_eq h0, gf_eq hP, h1.rd hp (by decide), h4.rd ht (by decide), h4.wr ht (by decide), hx, hy, nI_0]
    · intro i hi
      simp only [va_up, nI_pred, and_true]
  · have q1 : ¬ (nI y - 1 = -1) := fun z => q0 ((nI_m1 (by omega)).mp z)
    by_cases q2 : y = x + 1
    · refine ⟨w, ?_, hR.cg (fun _ _ => rfl) (fun _ _ => rfl) (fun _ _ => rfl) (fun i hi => by simp [q0]) rfl (by simp [q2]), Fr.rf _ _⟩
      simp [fX4_will, kX4_will, ent, entp, jX4_will, bX4_will_0, bX4_will_1, i_aload, i_getf, i_iaload, i_iastore, i_iceq, i_icne, i_iload, i_istore, i_jmp, i_push, i_putf, i_return, msk, lset1, lset2, clr, Value.category, Option.toList, List.cons_append, List.nil_append, List.length_cons, List.length_nil, hN, gf_eq h0, gf_eq hP, h1.rd hp (by decide), h4.rd ht (by decide), h4.wr ht (by decide), hx, hy, nI_nn (y := x) (by omega), (nI_m1e (y := y) (x := x) (by omega) (by omega)).mpr q2]
    · have q3 : ¬ (nI y - 1 = nI x) := fun z => q2 ((nI_m1e (by omega) (by omega)).mp z)
      refine ⟨_, ?_, (hR.b' su 1).cg (fun _ _ => rfl) (fun _ _ => rfl) (fun _ _ => rfl) (fun i hi => by simp [q0]) rfl (by simp [q0, q2]), Fr.ms _ _ (by unfold rg; omega)⟩
      simp [fX4_will, kX4_will, ent, entp, jX4_will, bX4_will_0, bX4_will_1, i_aload, i_getf, i_iaload, i_iastore, i_iceq, i_icne, i_iload, i_istore, i_jmp, i_push, i_putf, i_return, msk, lset1, lset2, clr, Value.category, Option.toList, List.cons_append, List.nil_append, List.length_cons, List.length_nil, hN, gf_eq h0, gf_eq hP, h1.rd hp (by decide), h4.rd ht (by decide), h4.wr ht (by decide), hx, hy, q1, q3, sf_1 h0]
