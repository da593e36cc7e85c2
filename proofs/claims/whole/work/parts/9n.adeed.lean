/-! ===== new objects: a deed, the scribe, the table, anew ===== -/
def dd0 : DE := (fun k => if k = 6 then 1 else 0, fun _ _ => 0)
theorem dd0_wf : WF dd0 := by
  refine ⟨⟨by decide, by decide, by decide, by decide, by decide, by decide, by decide, by decide⟩, fun k hk => ?_, fun p hp => ?_, fun b hb => ?_, fun b c hbc hc => ?_, fun h hh => ?_, fun h hh => ?_⟩
  · exact absurd hk (by show ¬ k < 0; omega)
  · exact absurd hp (by show ¬ p < 0; omega)
  · exact absurd hb (by show ¬ b < 0; omega)
  · exact absurd hc (by show ¬ c < 0; omega)
  · exact absurd hh (by show ¬ h < 0; omega)
  · exact absurd hh (by show ¬ h < 0; omega)
theorem X3_init_sp {g : GE} {w : Mem} {a : Nat} (o0 : OB w a 3 [.null, .int 0, .int 0]) : fX3_init g [.ref a] w = some (.inl none, mset w a (.inr (3, [.ref (g.2.1 4), .int 0, .int 0]))) := by
  have s1 := sf_o o0 0 "BlottedDeed$Verb" (g.2.1 4) (by decide)
  simp [fX3_init, kX3_init, ent, entp, bX3_init_0, i_aload, i_obj, i_push, i_putf, i_return, msk, lset1, lset2, clr, Value.category, Option.toList, List.cons_append, List.nil_append, List.length_cons, List.length_nil, s1]
theorem X6_init_sp {g : GE} {w0 : Mem} {a tx d : Nat} (o0 : OB w0 a 6 [.null, .int 0, .int 0, .int 0, .long 0, .null, .int 0, .int 0]) : ∃ w', fX6_init g [.ref a, .ref tx, .ref d] w0 = some (.inl none, w') ∧ OB w' a 6 [.ref tx, .int 0, .int 0, .int 0, .long 0, .ref d, .int 0, .int 0] ∧ Fr (fun q => q = a) w0 w' := by
  have s1 := sf_a o0 0 .int tx (by decide)
  obtain ⟨w1, hw1⟩ : ∃ z, mset w0 a (.inr (6, [.ref tx, .int 0, .int 0, .int 0, .long 0, .null, .int 0, .int 0])) = z := ⟨_, rfl⟩
  have s1' : sf w0 a 6 0 (.array .int) (.ref tx) = some w1 := by rw [s1, ← hw1]; rfl
  have o1 : OB w1 a 6 [.ref tx, .int 0, .int 0, .int 0, .long 0, .null, .int 0, .int 0] := hw1 ▸ ms_at _ _ _
  have s2 := sf_o o1 5 "BlottedDeed$Deed" d (by simp)
  obtain ⟨w2, hw2⟩ : ∃ z, mset w1 a (.inr (6, [.ref tx, .int 0, .int 0, .int 0, .long 0, .ref d, .int 0, .int 0])) = z := ⟨_, rfl⟩
  have s2' : sf w1 a 6 5 (.object "BlottedDeed$Deed") (.ref d) = some w2 := by rw [s2, ← hw2]; rfl
  refine ⟨w2, ?_, hw2 ▸ ms_at _ _ _, (hw1 ▸ Fr.ms _ _ rfl : Fr (fun q => q = a) w0 w1).tr (hw2 ▸ Fr.ms _ _ rfl : Fr (fun q => q = a) w1 w2)⟩
  clear s1 s2
  simp [fX6_init, kX6_init, ent, entp, bX6_init_0, i_aload, i_obj, i_putf, i_return, msk, lset1, lset2, clr, Value.category, Option.toList, List.cons_append, List.nil_append, List.length_cons, List.length_nil, s1', s2']
/-- an array of references, filled up to i -/
def RAp (t : Nat) (w : Mem) (a n i : Nat) (c : Nat → Nat) : Prop := ∃ f, w.1 a = some (.inl (t, n, .inr (.inr (.inr (.inr f))))) ∧ ∀ j, j < i → f j = some (c j)
theorem RAp.wr {t : Nat} {w : Mem} {a n i : Nat} {c : Nat → Nat} (h : RAp t w a n i c) (hi : i < n) (hn : n < 2 ^ 31) : ∃ w', sr w t a (nI i) (c i) = some w' ∧ RAp t w' a n (i + 1) c ∧ Fr (fun q => q = a) w w' := by
  obtain ⟨f, h1, h2⟩ := h
  refine ⟨mset w a (.inl (t, n, .inr (.inr (.inr (.inr (va_up f i (some (c i)))))))), ?_, ⟨_, ms_at _ _ _, fun j hj => ?_⟩, Fr.ms _ _ rfl⟩
  · unfold sr
    rw [h1]
    simp [ix_nI hi hn]
  · by_cases y : j = i
    · subst y; exact va_up_self _ _ _
    · rw [va_ne y]; exact h2 j (by omega)
theorem RAp.fa {t : Nat} {S : Nat → Prop} {w w1 : Mem} {a n i : Nat} {c : Nat → Nat} (h : RAp t w a n i c) (k : FA S w w1) (l : a < w.2.1) (q : ¬ S a) : RAp t w1 a n i c := by
  obtain ⟨f, h1, h2⟩ := h
  exact ⟨f, k.at h1 l q, h2⟩
theorem RAp.ra {t : Nat} {w : Mem} {a n : Nat} {c : Nat → Nat} (h : RAp t w a n n c) : RA t w a n c := h
theorem pt_lp {g : GE} {w : Mem} {a : Nat} {fs : List Value} (hO : OB w a 2 fs) (h5 : fs[5]? = some (.ref (a + 6))) (hR : RAp 5 w (a + 6) 9 0 (fun j => a + 10 + j)) (hn : w.2.1 = a + 10) (F : Nat) :
    ∃ f' w', F ≤ f' ∧ jX2_init g (F + 1 + 1 * 9) 1 [] [some (.ref a), some (.int 0)] w = jX2_init g f' 2 [] [some (.ref a), some (.int 0)] w' ∧ RA 5 w' (a + 6) 9 (fun j => a + 10 + j) ∧ (∀ k, k < 9 → OB w' (a + 10 + k) 3 [.ref (g.2.1 4), .int 0, .int 0]) ∧ w'.2.1 = a + 19 ∧ w'.2.2 = w.2.2 + 27 ∧ FA (fun q => q = a + 6) w w' := by
  have L := lpC (fun f (z : Lv × Mem) => jX2_init g f 1 [] z.1 z.2) (fun i z => z.1 = [some (.ref a), some (.int (nI i))] ∧ RAp 5 z.2 (a + 6) 9 i (fun j => a + 10 + j) ∧ (∀ k, k < i → OB z.2 (a + 10 + k) 3 [.ref (g.2.1 4), .int 0, .int 0]) ∧ z.2.2.1 = a + 10 + i ∧ z.2.2.2 = w.2.2 + 3 * i ∧ FA (fun q => q = a + 6) w z.2) 1 9
    (fun i z hi hI f => by
      obtain ⟨k1, k2, k3, k4, k5, k6⟩ := hI
      have e7 : ¬ (9 : Int32) ≤ nI i := nI_ge (b := 9) hi (by decide)
      have o0 := k6.at hO (by omega) (by omega)
      obtain ⟨w1, hw1⟩ : ∃ q, mnew z.2 (.inr (3, [.null, .int 0, .int 0])) 3 = q := ⟨_, rfl⟩
      have o1 : OB w1 (a + 10 + i) 3 [.null, .int 0, .int 0] := by rw [← hw1, ← k4]; exact mnw_at _ _ _
      have A1 : FA (fun _ => False) z.2 w1 := hw1 ▸ mn_fa _ _ _ _
      have m1 : w1.2.1 = a + 10 + i + 1 := by rw [← hw1]; show z.2.2.1 + 1 = _; omega
      have m2 : w1.2.2 = z.2.2.2 + 3 := by rw [← hw1]; rfl
      have x3 := X3_init_sp (g := g) o1
      obtain ⟨w2, hw2⟩ : ∃ q, mset w1 (a + 10 + i) (.inr (3, [.ref (g.2.1 4), .int 0, .int 0])) = q := ⟨_, rfl⟩
      rw [hw2] at x3
      have o2 : OB w2 (a + 10 + i) 3 [.ref (g.2.1 4), .int 0, .int 0] := hw2 ▸ ms_at _ _ _
      have F2 : Fr (fun q => q = a + 10 + i) w1 w2 := hw2 ▸ Fr.ms _ _ rfl
      have A2 : FA (fun _ => False) z.2 w2 := A1.tr F2.fa fun b hb h => by omega
      obtain ⟨w3, s3, R3, F3⟩ := (k2.fa A2 (by omega) (fun h => h)).wr hi (by decide)
      have A3 : FA (fun q => q = a + 6) z.2 w3 := (A2.tr' fun _ h => h.elim).t F3.fa
      refine ⟨f, ([some (.ref a), some (.int (nI (i + 1)))], w3), Nat.le_refl _, ⟨rfl, R3, fun k hk => ?_, by show w3.2.1 = _; rw [F3.2, F2.2, m1]; omega, by show w3.2.2 = _; rw [F3.2, F2.2, m2, k5]; omega, k6.t A3⟩, ?_⟩
      · by_cases y : k = i
        · subst y; exact F3.at o2 (by omega)
        · exact A3.at (k3 k (by omega)) (by omega) (by omega)
      · simp [jX2_init, bX2_init_0, bX2_init_1, bX2_init_2, i_aastore, i_aload, i_anew, i_dup, i_getf, i_icge, i_iinc, i_iload, i_istore, i_jmp, i_new, i_newarr, i_obj, i_push, i_putf, i_return, msk, lset1, lset2, clr, Value.category, Option.toList, List.cons_append, List.nil_append, List.length_cons, List.length_nil, k1, e7, gf_eq o0, h5, k4, hw1, cik_0 x3, o2, s3, nI_1])
  obtain ⟨f1, z1, k1, ⟨i1, i2, i3, i4, i5, i6⟩, k3⟩ := L 9 0 ([some (.ref a), some (.int (nI 0))], w) (by omega) ⟨rfl, hR, fun k hk => by omega, by rw [hn], rfl, FA.rf _ _⟩ (F + 1)
  obtain ⟨f2, rfl⟩ : ∃ z, f1 = z + 1 := ⟨f1 - 1, by omega⟩
  refine ⟨f2, z1.2, by omega, ?_, i2.ra, i3, by omega, by omega, i6⟩
  rw [show jX2_init g (F + 1 + 1 * 9) 1 [] [some (.ref a), some (.int 0)] w = jX2_init g (f2 + 1) 1 [] z1.1 z1.2 from k3]
  have e8 : (9 : Int32) ≤ nI 9 := by decide
  clear k3 L
  simp [jX2_init, bX2_init_0, bX2_init_1, bX2_init_2, i_aastore, i_aload, i_anew, i_dup, i_getf, i_icge, i_iinc, i_iload, i_istore, i_jmp, i_new, i_newarr, i_obj, i_push, i_putf, i_return, msk, lset1, lset2, clr, Value.category, Option.toList, List.cons_append, List.nil_append, List.length_cons, List.length_nil, i1, e8]
theorem bl_lp {g : GE} {w : Mem} {a : Nat} {fs : List Value} (hO : OB w a 2 fs) (h8 : fs[8]? = some (.ref (a + 9))) (hR : RAp 6 w (a + 9) 8 0 (fun j => a + 19 + 2 * j)) (hn : w.2.1 = a + 19) (F : Nat) :
    ∃ w', jX2_init g (F + 1 + 1 * 8) 2 [] [some (.ref a), some (.int 0)] w = some (.inl none, w') ∧ RA 6 w' (a + 9) 8 (fun j => a + 19 + 2 * j) ∧ (∀ b, b < 8 → OB w' (a + 19 + 2 * b) 1 [.ref (a + 20 + 2 * b), .int 0, .int 0, .int 0, .int 0, .int 0] ∧ IA w' (a + 20 + 2 * b) 100 (fun _ => 0)) ∧ w'.2.1 = a + 35 ∧ w'.2.2 = w.2.2 + 848 ∧ FA (fun q => q = a + 9) w w' := by
  have L := lpC (fun f (z : Lv × Mem) => jX2_init g f 2 [] z.1 z.2) (fun i z => z.1 = [some (.ref a), some (.int (nI i))] ∧ RAp 6 z.2 (a + 9) 8 i (fun j => a + 19 + 2 * j) ∧ (∀ b, b < i → OB z.2 (a + 19 + 2 * b) 1 [.ref (a + 20 + 2 * b), .int 0, .int 0, .int 0, .int 0, .int 0] ∧ IA z.2 (a + 20 + 2 * b) 100 (fun _ => 0)) ∧ z.2.2.1 = a + 19 + 2 * i ∧ z.2.2.2 = w.2.2 + 106 * i ∧ FA (fun q => q = a + 9) w z.2) 1 8
    (fun i z hi hI f => by
      obtain ⟨k1, k2, k3, k4, k5, k6⟩ := hI
      have e7 : ¬ (8 : Int32) ≤ nI i := nI_ge (b := 8) hi (by decide)
      have o0 := k6.at hO (by omega) (by omega)
      obtain ⟨w1, hw1⟩ : ∃ q, mnew z.2 (.inr (1, [.null, .int 0, .int 0, .int 0, .int 0, .int 0])) 6 = q := ⟨_, rfl⟩
      have o1 : OB w1 (a + 19 + 2 * i) 1 [.null, .int 0, .int 0, .int 0, .int 0, .int 0] := by rw [← hw1, ← k4]; exact mnw_at _ _ _
      have A1 : FA (fun _ => False) z.2 w1 := hw1 ▸ mn_fa _ _ _ _
      have m1 : w1.2.1 = a + 19 + 2 * i + 1 := by rw [← hw1]; show z.2.2.1 + 1 = _; omega
      have m2 : w1.2.2 = z.2.2.2 + 6 := by rw [← hw1]; rfl
      obtain ⟨w2, x3, o2, b2, u1, u2, B2⟩ := X1_init_sp (g := g) o1 m1
      have A2 : FA (fun _ => False) z.2 w2 := A1.tr B2 fun b hb h => by omega
      obtain ⟨w3, s3, R3, F3⟩ := (k2.fa A2 (by omega) (fun h => h)).wr hi (by decide)
      have A3 : FA (fun q => q = a + 9) z.2 w3 := (A2.tr' fun _ h => h.elim).t F3.fa
      have ea : a + 19 + 2 * i + 1 = a + 20 + 2 * i := by omega
      rw [ea] at o2 b2
      refine ⟨f, ([some (.ref a), some (.int (nI (i + 1)))], w3), Nat.le_refl _, ⟨rfl, R3, fun k hk => ?_, by show w3.2.1 = _; rw [F3.2, u1]; omega, by show w3.2.2 = _; rw [F3.2, u2, m2, k5]; omega, k6.t A3⟩, ?_⟩
      · by_cases y : k = i
        · subst y; exact ⟨F3.at o2 (by omega), b2.fr F3 (by omega)⟩
        · exact ⟨A3.at (k3 k (by omega)).1 (by omega) (by omega), (k3 k (by omega)).2.fa A3 (by omega) (by omega)⟩
      · clear b2
        simp [jX2_init, bX2_init_0, bX2_init_1, bX2_init_2, i_aastore, i_aload, i_anew, i_dup, i_getf, i_icge, i_iinc, i_iload, i_istore, i_jmp, i_new, i_newarr, i_obj, i_push, i_putf, i_return, msk, lset1, lset2, clr, Value.category, Option.toList, List.cons_append, List.nil_append, List.length_cons, List.length_nil, k1, e7, gf_eq o0, h8, k4, hw1, cik_0 x3, o2, s3, nI_1])
  obtain ⟨f1, z1, k1, ⟨i1, i2, i3, i4, i5, i6⟩, k3⟩ := L 8 0 ([some (.ref a), some (.int (nI 0))], w) (by omega) ⟨rfl, hR, fun k hk => by omega, by rw [hn], rfl, FA.rf _ _⟩ (F + 1)
  obtain ⟨f2, rfl⟩ : ∃ z, f1 = z + 1 := ⟨f1 - 1, by omega⟩
  refine ⟨z1.2, ?_, i2.ra, i3, by omega, by omega, i6⟩
  rw [show jX2_init g (F + 1 + 1 * 8) 2 [] [some (.ref a), some (.int 0)] w = jX2_init g (f2 + 1) 2 [] z1.1 z1.2 from k3]
  have e8 : (8 : Int32) ≤ nI 8 := by decide
  clear k3 L
  simp [jX2_init, bX2_init_0, bX2_init_1, bX2_init_2, i_aastore, i_aload, i_anew, i_dup, i_getf, i_icge, i_iinc, i_iload, i_istore, i_jmp, i_new, i_newarr, i_obj, i_push, i_putf, i_return, msk, lset1, lset2, clr, Value.category, Option.toList, List.cons_append, List.nil_append, List.length_cons, List.length_nil, i1, e8]
theorem X2_init_sp {g : GE} (hg : FU g) {w0 : Mem} {a : Nat} (o0 : OB w0 a 2 [.null, .null, .null, .null, .null, .null, .null, .null, .null, .int 0, .int 0, .int 0, .int 0, .int 0, .int 0, .int 0]) (n0 : w0.2.1 = a + 1) :
    ∃ w', fX2_init g [.ref a] w0 = some (.inl none, w') ∧ DEED g w' a dd0 ∧ w'.2.1 = a + 35 ∧ w'.2.2 = w0.2.2 + 986 ∧ FA (fun q => q = a) w0 w' := by
  obtain ⟨w1, E1, o1, c1, n1, m1, S1⟩ := mk_arr (t := 1) (n := 4) (N := 4) (k := 0) (ty := (.array .long)) (lv := [some (.ref a), none]) o0 (by omega) (by simp) rfl (by decide) (fun _ => rfl) rfl
  rw [n0] at o1 c1 n1
  replace n1 : w1.2.1 = a + 2 := n1
  obtain ⟨w2, E2, o2, c2, n2, m2, S2⟩ := mk_arr (t := 0) (n := 4) (N := 4) (k := 1) (ty := (.array .int)) (lv := [some (.ref a), none]) o1 (by omega) (by simp) rfl (by decide) (fun _ => rfl) rfl
  rw [n1] at o2 c2 n2
  replace n2 : w2.2.1 = a + 3 := n2
  obtain ⟨w3, E3, o3, c3, n3, m3, S3⟩ := mk_arr (t := 0) (n := 4) (N := 4) (k := 2) (ty := (.array .int)) (lv := [some (.ref a), none]) o2 (by omega) (by simp) rfl (by decide) (fun _ => rfl) rfl
  rw [n2] at o3 c3 n3
  replace n3 : w3.2.1 = a + 4 := n3
  obtain ⟨w4, E4, o4, c4, n4, m4, S4⟩ := mk_arr (t := 1) (n := 5) (N := 5) (k := 3) (ty := (.array .long)) (lv := [some (.ref a), none]) o3 (by omega) (by simp) rfl (by decide) (fun _ => rfl) rfl
  rw [n3] at o4 c4 n4
  replace n4 : w4.2.1 = a + 5 := n4
  obtain ⟨w5, E5, o5, c5, n5, m5, S5⟩ := mk_arr (t := 0) (n := 5) (N := 5) (k := 4) (ty := (.array .int)) (lv := [some (.ref a), none]) o4 (by omega) (by simp) rfl (by decide) (fun _ => rfl) rfl
  rw [n4] at o5 c5 n5
  replace n5 : w5.2.1 = a + 6 := n5
  obtain ⟨w6, E6, o6, c6, n6, m6, S6⟩ := mk_rar (t := 5) (n := 9) (N := 9) (k := 5) (ty := (.array (.object "BlottedDeed$Part"))) (lv := [some (.ref a), none]) o5 (by omega) (by simp) rfl (by decide) (fun _ => rfl) rfl
  rw [n5] at o6 c6 n6
  replace n6 : w6.2.1 = a + 7 := n6
  obtain ⟨w7, E7, o7, c7, n7, m7, S7⟩ := mk_arr (t := 0) (n := 36) (N := 36) (k := 6) (ty := (.array .int)) (lv := [some (.ref a), none]) o6 (by omega) (by simp) rfl (by decide) (fun _ => rfl) rfl
  rw [n6] at o7 c7 n7
  replace n7 : w7.2.1 = a + 8 := n7
  obtain ⟨w8, E8, o8, c8, n8, m8, S8⟩ := mk_arr (t := 0) (n := 36) (N := 36) (k := 7) (ty := (.array .int)) (lv := [some (.ref a), none]) o7 (by omega) (by simp) rfl (by decide) (fun _ => rfl) rfl
  rw [n7] at o8 c8 n8
  replace n8 : w8.2.1 = a + 9 := n8
  obtain ⟨w9, E9, o9, c9, n9, m9, S9⟩ := mk_rar (t := 6) (n := 8) (N := 8) (k := 8) (ty := (.array (.object "BlottedDeed$Blot"))) (lv := [some (.ref a), none]) o8 (by omega) (by simp) rfl (by decide) (fun _ => rfl) rfl
  rw [n8] at o9 c9 n9
  replace n9 : w9.2.1 = a + 10 := n9
  have G9 : FA (fun q => q = a) w9 w9 := FA.rf _ _
  have G8 := S9.t G9
  have G7 := S8.t G8
  have G6 := S7.t G7
  have G5 := S6.t G6
  have G4 := S5.t G5
  have G3 := S4.t G4
  have G2 := S3.t G3
  have G1 := S2.t G2
  have G0 := S1.t G1
  have o9' : OB w9 a 2 [.ref (a + 1), .ref (a + 2), .ref (a + 3), .ref (a + 4), .ref (a + 5), .ref (a + 6), .ref (a + 7), .ref (a + 8), .ref (a + 9), .int 0, .int 0, .int 0, .int 0, .int 0, .int 0, .int 0] := o9
  have s10 := sf_i o9' 15 1 (by simp)
  obtain ⟨w10, hw10⟩ : ∃ z, mset w9 a (.inr (2, [.ref (a + 1), .ref (a + 2), .ref (a + 3), .ref (a + 4), .ref (a + 5), .ref (a + 6), .ref (a + 7), .ref (a + 8), .ref (a + 9), .int 0, .int 0, .int 0, .int 0, .int 0, .int 0, .int 1])) = z := ⟨_, rfl⟩
  have s10' : sf w9 a 2 15 .int (.int 1) = some w10 := by rw [s10, ← hw10]; rfl
  have o10 : OB w10 a 2 [.ref (a + 1), .ref (a + 2), .ref (a + 3), .ref (a + 4), .ref (a + 5), .ref (a + 6), .ref (a + 7), .ref (a + 8), .ref (a + 9), .int 0, .int 0, .int 0, .int 0, .int 0, .int 0, .int 1] := hw10 ▸ ms_at _ _ _
  have F10 : Fr (fun q => q = a) w9 w10 := hw10 ▸ Fr.ms _ _ rfl
  have n10 : w10.2.1 = a + 10 := by rw [F10.2]; exact n9
  have r6 : RAp 5 w10 (a + 6) 9 0 (fun j => a + 10 + j) := ⟨_, (G6.t F10.fa).at c6 (by omega) (by omega), fun j hj => by omega⟩
  obtain ⟨N, hN⟩ : ∃ N, g.1 = ((N + 1 + 1 * 8) + 1 + 1 * 9) + 1 := ⟨g.1 - 20, by omega⟩
  obtain ⟨f1, w11, l1, E11, R11, P11, n11, m11, S11⟩ := pt_lp (g := g) o10 rfl r6 n10 (N + 1 + 1 * 8)
  obtain ⟨f2, rfl⟩ : ∃ z, f1 = z + 1 + 1 * 8 := ⟨f1 - 9, by omega⟩
  have o11 := S11.at o10 (by omega) (by omega)
  have r9 : RAp 6 w11 (a + 9) 8 0 (fun j => a + 19 + 2 * j) := ⟨_, S11.at (F10.at c9 (by omega)) (by omega) (by omega), fun j hj => by omega⟩
  obtain ⟨w12, E12, R12, B12, n12, m12, S12⟩ := bl_lp (g := g) o11 rfl r9 n11 f2
  have H : FA (fun q => q = a ∨ q = a + 6 ∨ q = a + 9) w9 w12 := ((F10.fa.tr' fun q h => Or.inl h).tr S11 fun q hq h => by omega).tr S12 fun q hq h => by omega
  have K : ∀ {i}, FA (fun q => q = a) i w9 → i.2.1 ≤ a + 10 → FA (fun q => q = a ∨ q = a + 6 ∨ q = a + 9) i w12 := fun h _ => (h.tr' fun q h => Or.inl h).tr H fun q hq h => h
  refine ⟨w12, ?_, ⟨S12.at o11 (by omega) (by omega), (la_of c1).fa (K G1 (by omega)) (by omega) (by omega), (ia_of c2).fa (K G2 (by omega)) (by omega) (by omega), (ia_of c3).fa (K G3 (by omega)) (by omega) (by omega), (la_of c4).fa (K G4 (by omega)) (by omega) (by omega), (ia_of c5).fa (K G5 (by omega)) (by omega) (by omega), ?_, (ia_of c7).fa (K G7 (by omega)) (by omega) (by omega), (ia_of c8).fa (K G8 (by omega)) (by omega) (by omega), R12, fun k hk => S12.at (P11 k hk) (by omega) (by omega), fun b hb => (B12 b hb).1, fun b hb => (B12 b hb).2⟩, n12, ?_, ⟨fun q hq hne => (K G0 (by omega)).1 q hq (by omega), (K G0 (by omega)).2⟩⟩
  · have e : fX2_init g [.ref a] w0 = jX2_init g g.1 0 [] [some (.ref a), none] w0 := rfl
    rw [e, hN]
    show bX2_init_0 g (jX2_init g (N + 1 + 1 * 8 + 1 + 1 * 9)) [] [some (.ref a), none] w0 = _
    rw [← E12, ← E11]
    generalize N + 1 + 1 * 8 + 1 + 1 * 9 = FF
    clear E11 E12
    unfold bX2_init_0
    show (i_aload 0 (i_push (.int 4) (i_newarr 1 (i_putf 2 0 (.array .long) (i_aload 0 (i_push (.int 4) (i_newarr 0 (i_putf 2 1 (.array .int) (i_aload 0 (i_push (.int 4) (i_newarr 0 (i_putf 2 2 (.array .int) (i_aload 0 (i_push (.int 5) (i_newarr 1 (i_putf 2 3 (.array .long) (i_aload 0 (i_push (.int 5) (i_newarr 0 (i_putf 2 4 (.array .int) (i_aload 0 (i_push (.int 9) (i_anew 5 (i_putf 2 5 (.array (.object "BlottedDeed$Part")) (i_aload 0 (i_push (.int 36) (i_newarr 0 (i_putf 2 6 (.array .int) (i_aload 0 (i_push (.int 36) (i_newarr 0 (i_putf 2 7 (.array .int) (i_aload 0 (i_push (.int 8) (i_anew 6 (i_putf 2 8 (.array (.object "BlottedDeed$Blot")) (i_aload 0 (i_push (.int 1) (i_putf 2 15 .int (i_push (.int 0) (i_istore 1 (i_jmp [true, true] (jX2_init g FF 1))))))))))))))))))))))))))))))))))))))))))) [] [some (.ref a), none] w0 = _
    rw [E1, E2, E3, E4, E5, E6, E7, E8, E9]
    simp [jX2_init, bX2_init_0, bX2_init_1, bX2_init_2, i_aastore, i_aload, i_anew, i_dup, i_getf, i_icge, i_iinc, i_iload, i_istore, i_jmp, i_new, i_newarr, i_obj, i_push, i_putf, i_return, msk, lset1, lset2, clr, Value.category, Option.toList, List.cons_append, List.nil_append, List.length_cons, List.length_nil, s10']
  · obtain ⟨f, h1, h2⟩ := R11
    exact ⟨f, S12.at h1 (by omega) (by omega), h2⟩
  · rw [m12, m11, F10.2]
    omega
