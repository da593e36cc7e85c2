/-! ===== new objects: the table, anew ===== -/
theorem X7_a {g : GE} {w0 : Mem} {a D : Nat} (o0 : OB w0 a 7 [.null, .null, .int 0, .null, .null, .null, .null, .int 0, .null, .null, .null, .null]) (n0 : w0.2.1 = a + 1) :
    ∃ w', (∀ w9, fX7_gather g [.ref a, .ref D] w' = some (.inl none, w9) → fX7_init g [.ref a, .ref D] w0 = some (.inl none, w9)) ∧ TB w' a (a + 1) (a + 2) (a + 13) D 0 0 ∧ LA w' (a + 1) 32 (fun _ => 0) ∧ LA w' (a + 2) 32 (fun _ => 0) ∧ IA w' (a + 3) 1000 (fun _ => 0) ∧ IA w' (a + 4) 8 (fun _ => 0) ∧ ROW w' (a + 5) (fun _ => 0) (fun _ => 0) (fun _ => 0) (fun _ => 0) 0 0 ∧ IA w' (a + 10) 100 (fun _ => 0) ∧ IA w' (a + 11) 9 (fun _ => 0) ∧ IA w' (a + 12) 5 (fun _ => 0) ∧ AR 2 w' (a + 13) 32 (fun _ => 0) ∧ w'.2.1 = a + 14 ∧ w'.2.2 = w0.2.2 + 1277 ∧ FA (fun q => q = a) w0 w' := by
  obtain ⟨w1, E1, o1, c1, n1, m1, S1⟩ := mk_arr (t := 1) (n := 32) (N := 32) (k := 0) (ty := (.array .long)) (lv := [some (.ref a), some (.ref D)]) o0 (by omega) (by simp) rfl (by decide) (fun _ => rfl) rfl
  rw [n0] at o1 c1 n1
  replace n1 : w1.2.1 = a + 2 := n1
  obtain ⟨w2, E2, o2, c2, n2, m2, S2⟩ := mk_arr (t := 1) (n := 32) (N := 32) (k := 1) (ty := (.array .long)) (lv := [some (.ref a), some (.ref D)]) o1 (by omega) (by simp) rfl (by decide) (fun _ => rfl) rfl
  rw [n1] at o2 c2 n2
  replace n2 : w2.2.1 = a + 3 := n2
  obtain ⟨w3, E3, o3, c3, n3, m3, S3⟩ := mk_arr (t := 0) (n := 1000) (N := 1000) (k := 3) (ty := (.array .int)) (lv := [some (.ref a), some (.ref D)]) o2 (by omega) (by simp) rfl (by decide) (fun _ => rfl) rfl
  rw [n2] at o3 c3 n3
  replace n3 : w3.2.1 = a + 4 := n3
  obtain ⟨w4, E4, o4, c4, n4, m4, S4⟩ := mk_arr (t := 0) (n := 8) (N := 8) (k := 4) (ty := (.array .int)) (lv := [some (.ref a), some (.ref D)]) o3 (by omega) (by simp) rfl (by decide) (fun _ => rfl) rfl
  rw [n3] at o4 c4 n4
  replace n4 : w4.2.1 = a + 5 := n4
  obtain ⟨u5, hu5, R5, nu5, mu5, Su5⟩ := X4_init_sp (g := g) (w0 := mnew w4 (.inr (4, [.null, .null, .null, .null, .int 0, .int 0])) 6) (a := a + 5) (by rw [← n4]; exact mnw_at _ _ _) (by show w4.2.1 + 1 = _; omega)
  rw [← n4] at hu5 Su5
  have su5 : (mnew w4 (.inr (4, [.null, .null, .null, .null, .int 0, .int 0])) 6).2.2 = w4.2.2 + 6 := rfl
  rw [su5] at mu5
  clear su5
  obtain ⟨w5, E5, o5, e5, S5, Fz5⟩ := mk_new (k := 6) (ty := (.object "BlottedDeed$Row")) (lv := [some (.ref a), some (.ref D)]) o4 (by omega) (by simp) (fun _ => rfl) rfl hu5 Su5
  rw [n4] at o5
  have n5 : w5.2.1 = a + 10 := by rw [e5]; exact nu5
  have m5 : w5.2.2 = u5.2.2 := by rw [e5]
  obtain ⟨w6, E6, o6, c6, n6, m6, S6⟩ := mk_arr (t := 0) (n := 100) (N := 100) (k := 8) (ty := (.array .int)) (lv := [some (.ref a), some (.ref D)]) o5 (by omega) (by simp) rfl (by decide) (fun _ => rfl) rfl
  rw [n5] at o6 c6 n6
  replace n6 : w6.2.1 = a + 11 := n6
  obtain ⟨w7, E7, o7, c7, n7, m7, S7⟩ := mk_arr (t := 0) (n := 9) (N := 9) (k := 9) (ty := (.array .int)) (lv := [some (.ref a), some (.ref D)]) o6 (by omega) (by simp) rfl (by decide) (fun _ => rfl) rfl
  rw [n6] at o7 c7 n7
  replace n7 : w7.2.1 = a + 12 := n7
  obtain ⟨w8, E8, o8, c8, n8, m8, S8⟩ := mk_arr (t := 0) (n := 5) (N := 5) (k := 10) (ty := (.array .int)) (lv := [some (.ref a), some (.ref D)]) o7 (by omega) (by simp) rfl (by decide) (fun _ => rfl) rfl
  rw [n7] at o8 c8 n8
  replace n8 : w8.2.1 = a + 13 := n8
  obtain ⟨w9, E9, o9, c9, n9, m9, S9⟩ := mk_arr (t := 2) (n := 32) (N := 32) (k := 11) (ty := (.array .byte)) (lv := [some (.ref a), some (.ref D)]) o8 (by omega) (by simp) rfl (by decide) (fun _ => rfl) rfl
  rw [n8] at o9 c9 n9
  replace n9 : w9.2.1 = a + 14 := n9
  have G9 : FA (fun q => q = a) w9 w9 := FA.rf _ _
  have G8 := S9.t G9
  have G7 := S8.t G8
  have G6 := S7.t G7
  have G5 := S6.t G6
  have G4 := S5.t G5
  have G3 := S4.t G4
  have G2 := S3.t G3
  have G1 := S2.t G2
  have G0 := S1.t G1
  have o9' : OB w9 a 7 [.ref (a + 1), .ref (a + 2), .int 0, .ref (a + 3), .ref (a + 4), .null, .ref (a + 5), .int 0, .ref (a + 10), .ref (a + 11), .ref (a + 12), .ref (a + 13)] := o9
  have s10 := sf_o o9' 5 "BlottedDeed$Deed" D (by simp)
  obtain ⟨w10, hw10⟩ : ∃ z, mset w9 a (.inr (7, [.ref (a + 1), .ref (a + 2), .int 0, .ref (a + 3), .ref (a + 4), .ref D, .ref (a + 5), .int 0, .ref (a + 10), .ref (a + 11), .ref (a + 12), .ref (a + 13)])) = z := ⟨_, rfl⟩
  have s10' : sf w9 a 7 5 (.object "BlottedDeed$Deed") (.ref D) = some w10 := by rw [s10, ← hw10]; rfl
  have o10 : TB w10 a (a + 1) (a + 2) (a + 13) D 0 0 := hw10 ▸ ms_at _ _ _
  have F10 : Fr (fun q => q = a) w9 w10 := hw10 ▸ Fr.ms _ _ rfl
  have n10 : w10.2.1 = a + 14 := by rw [F10.2]; exact n9
  have m10 : w10.2.2 = w0.2.2 + 1277 := by rw [F10.2]; omega
  have R10 : ROW w10 (a + 5) (fun _ => 0) (fun _ => 0) (fun _ => 0) (fun _ => 0) 0 0 := (((R5.fr Fz5 (fun i hi => by omega)).fa G5 (by omega) (fun i hi => by omega)).fr F10 (fun i hi => by omega))
  have A1 := ((la_of c1).fa G1 (by omega) (by omega)).fr F10 (by omega)
  have A2 := ((la_of c2).fa G2 (by omega) (by omega)).fr F10 (by omega)
  have A3 := ((ia_of c3).fa G3 (by omega) (by omega)).fr F10 (by omega)
  have A4 := ((ia_of c4).fa G4 (by omega) (by omega)).fr F10 (by omega)
  have A6 := ((ia_of c6).fa G6 (by omega) (by omega)).fr F10 (by omega)
  have A7 := ((ia_of c7).fa G7 (by omega) (by omega)).fr F10 (by omega)
  have A8 := ((ia_of c8).fa G8 (by omega) (by omega)).fr F10 (by omega)
  have A9 : AR 2 w10 (a + 13) 32 (fun _ => 0) := (ia_of c9).fr F10 (by omega)
  refine ⟨w10, fun w11 r1 => ?_, o10, A1, A2, A3, A4, R10, A6, A7, A8, A9, n10, m10, G0.t F10.fa⟩
  show bX7_init_0 g (fun _ _ _ _ => none) [] [some (.ref a), some (.ref D)] w0 = _
  unfold bX7_init_0
  show (i_aload 0 (i_push (.int 32) (i_newarr 1 (i_putf 7 0 (.array .long) (i_aload 0 (i_push (.int 32) (i_newarr 1 (i_putf 7 1 (.array .long) (i_aload 0 (i_push (.int 1000) (i_newarr 0 (i_putf 7 3 (.array .int) (i_aload 0 (i_push (.int 8) (i_newarr 0 (i_putf 7 4 (.array .int) (i_aload 0 (i_new 4 6 [.null, .null, .null, .null, .int 0, .int 0] (i_dup (i_ci fX4_init g 0 (i_putf 7 6 (.object "BlottedDeed$Row") (i_aload 0 (i_push (.int 100) (i_newarr 0 (i_putf 7 8 (.array .int) (i_aload 0 (i_push (.int 9) (i_newarr 0 (i_putf 7 9 (.array .int) (i_aload 0 (i_push (.int 5) (i_newarr 0 (i_putf 7 10 (.array .int) (i_aload 0 (i_push (.int 32) (i_newarr 2 (i_putf 7 11 (.array .byte) (i_aload 0 (i_aload 1 (i_putf 7 5 (.object "BlottedDeed$Deed") (i_aload 0 (i_aload 1 (i_cv fX7_gather g 1 7 (i_return)))))))))))))))))))))))))))))))))))))))))))) [] [some (.ref a), some (.ref D)] w0 = _
  rw [E1, E2, E3, E4, E5, E6, E7, E8, E9]
  clear s10
  simp [bX7_init_0, i_aload, i_dup, i_new, i_newarr, i_obj, i_push, i_putf, i_return, msk, lset1, lset2, clr, Value.category, Option.toList, List.cons_append, List.nil_append, List.length_cons, List.length_nil, s10', cvk_1 o10 r1]
theorem X7_init_sp {g : GE} (hg : GD g) {w0 : Mem} {a D : Nat} (o0 : OB w0 a 7 [.null, .null, .int 0, .null, .null, .null, .null, .int 0, .null, .null, .null, .null]) (n0 : w0.2.1 = a + 1) (hD : DEED g w0 D dd0) (hDa : D + 35 ≤ a) :
    ∃ w', fX7_init g [.ref a, .ref D] w0 = some (.inl none, w') ∧ GT g w' a (a + 14) D dd0 (dd0.1 6) (a + 1) (a + 2) (a + 13) 32 0 ∧ IA w' (a + 4) 8 (fun _ => 0) ∧ (∃ v d c o su tw, ROW w' (a + 5) v d c o su tw) ∧ IA w' (a + 10) 100 (fun _ => 0) ∧ IA w' (a + 11) 9 (fun _ => -1) ∧ IA w' (a + 12) 5 (fun _ => -1) ∧ AR 2 w' (a + 13) 32 (fun _ => 0) ∧ w'.2.1 = a + 14 ∧ w'.2.2 ≤ w0.2.2 + 1277 ∧ FA (fun q => q = a) w0 w' := by
  obtain ⟨w10, E10, o10, A1, A2, A3, A4, R10, A6, A7, A8, A9, n10, m10, G0⟩ := X7_a (g := g) (D := D) o0 n0
  have D10 : DEED g w10 D dd0 := hD.fa G0 (by omega) (fun i hi => by omega)
  have ta : TA w10 a (a + 14) (a + 1) (a + 2) (a + 13) := ⟨Or.inl rfl, Or.inl rfl, Or.inl rfl, by omega, by omega, by omega, by omega, by omega, by omega, by omega, by omega⟩
  obtain ⟨w11, aM', aS', n1', lev', r1, r2, r3, r4, r5, r6, r7, r8, r9, r10, r11, r12⟩ := gather_s2 hg dd0_wf o10 A1 A2 ta (show CAP 32 0 from Or.inl ⟨by decide, rfl⟩) A3 A7 A8 R10 D10 hDa
  obtain ⟨e1, e2⟩ := r12 (by decide)
  subst e1
  subst e2
  have n11 : w11.2.1 = a + 14 := by omega
  have m11 : w11.2.2 ≤ w0.2.2 + 1277 := by omega
  obtain ⟨fM, fS, g1, g2, g3, g4, -⟩ := id r2
  obtain ⟨t1, t2, t3, t4, t5, t6, t7, t8, t9, t10, t11⟩ := g4
  have eM : aM' = a + 1 := r10.resolve_right fun z => by
    rw [n10] at z
    rw [n11] at t7
    exact absurd t7 (Nat.not_lt.mpr z)
  have eS : aS' = a + 2 := r11.resolve_right fun z => by
    rw [n10] at z
    rw [n11] at t8
    exact absurd t8 (Nat.not_lt.mpr z)
  clear r10 r11 t1 t2 t3 ta
  subst eM
  subst eS
  have K : ∀ q, (q = a ∨ q = a + 3 ∨ rg (a + 5) (a + 10) q ∨ q = a + 11 ∨ q = a + 12 ∨ q = a + 1 ∨ q = a + 2) → a ≤ q ∧ q ≠ a + 4 ∧ q ≠ a + 10 ∧ q ≠ a + 13 := fun q h => by
    unfold rg at h
    omega
  have A11 : FA (fun q => q = a) w0 w11 := ⟨fun q hq hne => (r7.1 q (by omega) (fun h => by have := (K q h).1; exact hne (by omega))).trans (G0.1 q hq hne), by omega, by
    have := r7.2.2
    rw [m10] at this
    omega⟩
  refine ⟨w11, E10 w11 r1, r2, A4.fa r7 (by omega) (fun h => (K _ h).2.1 rfl), r6, A6.fa r7 (by omega) (fun h => (K _ h).2.2.1 rfl), r4, r5, A9.fa r7 (by omega) (fun h => (K _ h).2.2.2 rfl), n11, m11, A11⟩
theorem X0_init_sp {g : GE} {w0 : Mem} {a D : Nat} (o0 : OB w0 a 0 [.null, .null, .null]) (n0 : w0.2.1 = a + 1) :
    ∃ w', fX0_init g [.ref a, .ref D] w0 = some (.inl none, w') ∧ OB w' a 0 [.ref (a + 1), .ref (a + 6), .ref D] ∧ ROW w' (a + 1) (fun _ => 0) (fun _ => 0) (fun _ => 0) (fun _ => 0) 0 0 ∧ OB w' (a + 6) 1 [.ref (a + 7), .int 0, .int 0, .int 0, .int 0, .int 0] ∧ IA w' (a + 7) 100 (fun _ => 0) ∧ w'.2.1 = a + 8 ∧ w'.2.2 = w0.2.2 + 165 ∧ FA (fun q => q = a) w0 w' := by
  obtain ⟨u1, hu1, R1, nu1, mu1, Su1⟩ := X4_init_sp (g := g) (w0 := mnew w0 (.inr (4, [.null, .null, .null, .null, .int 0, .int 0])) 6) (a := a + 1) (by rw [← n0]; exact mnw_at _ _ _) (by show w0.2.1 + 1 = _; omega)
  rw [← n0] at hu1 Su1
  have su1 : (mnew w0 (.inr (4, [.null, .null, .null, .null, .int 0, .int 0])) 6).2.2 = w0.2.2 + 6 := rfl
  rw [su1] at mu1
  clear su1
  obtain ⟨w1, E1, o1, e1, S1, Fz1⟩ := mk_new (k := 0) (ty := (.object "BlottedDeed$Row")) (lv := [some (.ref a), some (.ref D)]) o0 (by omega) (by simp) (fun _ => rfl) rfl hu1 Su1
  rw [n0] at o1
  have n1 : w1.2.1 = a + 6 := by rw [e1]; exact nu1
  have m1 : w1.2.2 = u1.2.2 := by rw [e1]
  obtain ⟨u2, hu2, B2, C2, nu2, mu2, Su2⟩ := X1_init_sp (g := g) (w0 := mnew w1 (.inr (1, [.null, .int 0, .int 0, .int 0, .int 0, .int 0])) 6) (a := a + 6) (by rw [← n1]; exact mnw_at _ _ _) (by show w1.2.1 + 1 = _; omega)
  rw [← n1] at hu2 Su2
  have su2 : (mnew w1 (.inr (1, [.null, .int 0, .int 0, .int 0, .int 0, .int 0])) 6).2.2 = w1.2.2 + 6 := rfl
  rw [su2] at mu2
  clear su2
  obtain ⟨w2, E2, o2, e2, S2, Fz2⟩ := mk_new (k := 1) (ty := (.object "BlottedDeed$Blot")) (lv := [some (.ref a), some (.ref D)]) o1 (by omega) (by simp) (fun _ => rfl) rfl hu2 Su2
  rw [n1] at o2
  have n2 : w2.2.1 = a + 8 := by rw [e2]; exact nu2
  have m2 : w2.2.2 = u2.2.2 := by rw [e2]
  have o2' : OB w2 a 0 [.ref (a + 1), .ref (a + 6), .null] := o2
  have s3 := sf_o o2' 2 "BlottedDeed$Deed" D (by simp)
  obtain ⟨w3, hw3⟩ : ∃ z, mset w2 a (.inr (0, [.ref (a + 1), .ref (a + 6), .ref D])) = z := ⟨_, rfl⟩
  have s3' : sf w2 a 0 2 (.object "BlottedDeed$Deed") (.ref D) = some w3 := by rw [s3, ← hw3]; rfl
  have o3 : OB w3 a 0 [.ref (a + 1), .ref (a + 6), .ref D] := hw3 ▸ ms_at _ _ _
  have F3 : Fr (fun q => q = a) w2 w3 := hw3 ▸ Fr.ms _ _ rfl
  refine ⟨w3, ?_, o3, ((R1.fr Fz1 (fun i hi => by omega)).fa S2 (by omega) (fun i hi => by omega)).fr F3 (fun i hi => by omega), F3.at (Fz2.at B2 (by omega)) (by omega), (C2.fr Fz2 (by omega)).fr F3 (by omega), by rw [F3.2]; exact n2, by rw [F3.2]; omega, (S1.t S2).t F3.fa⟩
  show bX0_init_0 g (fun _ _ _ _ => none) [] [some (.ref a), some (.ref D)] w0 = _
  unfold bX0_init_0
  show (i_aload 0 (i_new 4 6 [.null, .null, .null, .null, .int 0, .int 0] (i_dup (i_ci fX4_init g 0 (i_putf 0 0 (.object "BlottedDeed$Row") (i_aload 0 (i_new 1 6 [.null, .int 0, .int 0, .int 0, .int 0, .int 0] (i_dup (i_ci fX1_init g 0 (i_putf 0 1 (.object "BlottedDeed$Blot") (i_aload 0 (i_aload 1 (i_putf 0 2 (.object "BlottedDeed$Deed") (i_return)))))))))))))) [] [some (.ref a), some (.ref D)] w0 = _
  rw [E1, E2]
  clear s3
  simp [bX0_init_0, i_aload, i_dup, i_new, i_obj, i_putf, i_return, msk, lset1, lset2, clr, Value.category, Option.toList, List.cons_append, List.nil_append, List.length_cons, List.length_nil, s3']
