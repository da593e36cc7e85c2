/-! ===== new objects: the class ===== -/
theorem mk_new1 {F : FT} {g : GE} {cj N k f : Nat} {fs' : List Value} {x : Nat} {ty : FieldType} {lv : Lv} {w w2 : Mem} {a ci : Nat} {fs : List Value} (hO : OB w a ci fs) (ha : a < w.2.1) (hk : k < fs.length) (hf : fs[f]? = some (.ref x)) (hv : ∀ x, vok ty (.ref x) = true) (hl : lv[0]? = some (some (.ref a))) (hF : F g [.ref w.2.1, .ref x] (mnew w (.inr (cj, fs')) N) = some (.inl none, w2)) (hA : FA (fun q => q = w.2.1) (mnew w (.inr (cj, fs')) N) w2) :
    ∃ w', (∀ K, i_aload 0 (i_new cj N fs' (i_dup (i_aload 0 (i_getf ci f (i_ci F g 1 (i_putf ci k ty K)))))) [] lv w = K [] lv w') ∧ OB w' a ci (fs.set k (.ref w.2.1)) ∧ w'.2 = w2.2 ∧ FA (fun q => q = a) w w' ∧ Fr (fun q => q = a) w2 w' := by
  have o1 : OB (mnew w (.inr (cj, fs')) N) a ci fs := (mn_fa w _ _ (fun _ => False)).at hO ha (fun h => h)
  have o2 : OB w2 a ci fs := hA.at o1 (by show a < w.2.1 + 1; omega) (by omega)
  have s1 := sf_eq o2 k ty (.ref w.2.1) hk (hv _)
  have F9 : Fr (fun q => q = a) w2 (mset w2 a (.inr (ci, fs.set k (.ref w.2.1)))) := Fr.ms _ _ rfl
  refine ⟨_, fun K => ?_, ms_at _ _ _, rfl, ?_, F9⟩
  · simp [i_aload, hl, i_new, i_dup, Value.category, i_getf, gf_eq o1, hf, cik_1 hF, i_putf, s1]
  · refine ⟨fun q hq hne => (F9.1 q hne).trans ((hA.1 q (by show q < w.2.1 + 1; omega) (by omega)).trans ((mn_fa w _ _ (fun _ => False)).1 q hq fun h => h)), ?_, ?_⟩
    · rw [F9.2]
      exact Nat.le_trans (Nat.le_succ _) hA.2.1
    · rw [F9.2]
      exact Nat.le_trans (Nat.le_add_right _ _) hA.2.2
theorem mk_new2 {F : FT} {g : GE} {cj N k f f2 : Nat} {fs' : List Value} {x y : Nat} {ty : FieldType} {lv : Lv} {w w2 : Mem} {a ci : Nat} {fs : List Value} (hO : OB w a ci fs) (ha : a < w.2.1) (hk : k < fs.length) (hf : fs[f]? = some (.ref x)) (hf2 : fs[f2]? = some (.ref y)) (hv : ∀ x, vok ty (.ref x) = true) (hl : lv[0]? = some (some (.ref a))) (hF : F g [.ref w.2.1, .ref x, .ref y] (mnew w (.inr (cj, fs')) N) = some (.inl none, w2)) (hA : FA (fun q => q = w.2.1) (mnew w (.inr (cj, fs')) N) w2) :
    ∃ w', (∀ K, i_aload 0 (i_new cj N fs' (i_dup (i_aload 0 (i_getf ci f (i_aload 0 (i_getf ci f2 (i_ci F g 2 (i_putf ci k ty K)))))))) [] lv w = K [] lv w') ∧ OB w' a ci (fs.set k (.ref w.2.1)) ∧ w'.2 = w2.2 ∧ FA (fun q => q = a) w w' ∧ Fr (fun q => q = a) w2 w' := by
  have o1 : OB (mnew w (.inr (cj, fs')) N) a ci fs := (mn_fa w _ _ (fun _ => False)).at hO ha (fun h => h)
  have o2 : OB w2 a ci fs := hA.at o1 (by show a < w.2.1 + 1; omega) (by omega)
  have s1 := sf_eq o2 k ty (.ref w.2.1) hk (hv _)
  have F9 : Fr (fun q => q = a) w2 (mset w2 a (.inr (ci, fs.set k (.ref w.2.1)))) := Fr.ms _ _ rfl
  refine ⟨_, fun K => ?_, ms_at _ _ _, rfl, ?_, F9⟩
  · simp [i_aload, hl, i_new, i_dup, Value.category, i_getf, gf_eq o1, hf, hf2, cik_2 hF, i_putf, s1]
  · refine ⟨fun q hq hne => (F9.1 q hne).trans ((hA.1 q (by show q < w.2.1 + 1; omega) (by omega)).trans ((mn_fa w _ _ (fun _ => False)).1 q hq fun h => h)), ?_, ?_⟩
    · rw [F9.2]
      exact Nat.le_trans (Nat.le_succ _) hA.2.1
    · rw [F9.2]
      exact Nat.le_trans (Nat.le_add_right _ _) hA.2.2
set_option maxHeartbeats 8000000 in
/-- up to the images -/
theorem X10_a {g : GE} (hg : GD g) {w0 : Mem} {B : Nat} (o0 : OB w0 B 9 [.null, .int 0, .null, .null, .null, .null, .null, .null, .null, .null, .int 0, .int 0, .null]) (n0 : w0.2.1 = B + 1) :
    ∃ w', (∀ J : Nat → KT, bX10_init_0 g J [] [some (.ref B), none] w0 = J 1 [] [some (.ref B), some (.int 0)] w') ∧ OB w' B 9 [.ref (B + 1), .int 0, .ref (B + 72), .ref (B + 2), .ref (B + 37), .ref (B + 73), .ref (B + 87), .ref (B + 95), .ref (B + 98), .ref (B + 106), .int 0, .int 0, .null] ∧ IA w' (B + 1) 600 (fun _ => 0) ∧ DEED g w' (B + 2) dd0 ∧ DEED g w' (B + 37) dd0 ∧ OB w' (B + 72) 6 [.ref (B + 1), .int 0, .int 0, .int 0, .long 0, .ref (B + 37), .int 0, .int 0]
      ∧ GT g w' (B + 73) (B + 87) (B + 2) dd0 (dd0.1 6) (B + 74) (B + 75) (B + 86) 32 0 ∧ IA w' (B + 77) 8 (fun _ => 0) ∧ (∃ v d c o su tw, ROW w' (B + 78) v d c o su tw) ∧ IA w' (B + 83) 100 (fun _ => 0) ∧ IA w' (B + 84) 9 (fun _ => -1) ∧ IA w' (B + 85) 5 (fun _ => -1) ∧ AR 2 w' (B + 86) 32 (fun _ => 0) ∧ CN w' B ∧ CL w' B ∧ TS w' (B + 98) (fun _ => 0, fun _ _ => 0) ∧ RAp 7 w' (B + 106) 3 0 (fun i => B + 107 + 8 * i) ∧ w'.2.1 = B + 107 ∧ w'.2.2 ≤ w0.2.2 + 6000 ∧ FA (fun q => q = B) w0 w' := by
  obtain ⟨w1, E1, o1, c1, n1, m1, S1⟩ := mk_arr (t := 0) (n := 600) (N := 600) (k := 0) (ty := (.array .int)) (lv := [some (.ref B), none]) o0 (by omega) (by simp) rfl (by decide) (fun _ => rfl) rfl
  rw [n0] at o1 c1 n1
  replace n1 : w1.2.1 = B + 2 := n1
  obtain ⟨u2, hu2, D2, nu2, mu2, Su2⟩ := X2_init_sp (g := g) hg.1 (w0 := mnew w1 (.inr (2, [.null, .null, .null, .null, .null, .null, .null, .null, .null, .int 0, .int 0, .int 0, .int 0, .int 0, .int 0, .int 0])) 16) (a := B + 2) (by rw [← n1]; exact mnw_at _ _ _) (by show w1.2.1 + 1 = _; omega)
  rw [← n1] at hu2 Su2
  have su2 : (mnew w1 (.inr (2, [.null, .null, .null, .null, .null, .null, .null, .null, .null, .int 0, .int 0, .int 0, .int 0, .int 0, .int 0, .int 0])) 16).2.2 = w1.2.2 + 16 := rfl
  rw [su2] at mu2
  clear su2
  obtain ⟨w2, E2, o2, e2, S2, Fz2⟩ := mk_new (k := 3) (ty := (.object "BlottedDeed$Deed")) (lv := [some (.ref B), none]) o1 (by omega) (by simp) (fun _ => rfl) rfl hu2 Su2
  rw [n1] at o2
  have n2 : w2.2.1 = B + 37 := by rw [e2]; exact nu2
  have m2 : w2.2.2 = u2.2.2 := by rw [e2]
  obtain ⟨u3, hu3, D3, nu3, mu3, Su3⟩ := X2_init_sp (g := g) hg.1 (w0 := mnew w2 (.inr (2, [.null, .null, .null, .null, .null, .null, .null, .null, .null, .int 0, .int 0, .int 0, .int 0, .int 0, .int 0, .int 0])) 16) (a := B + 37) (by rw [← n2]; exact mnw_at _ _ _) (by show w2.2.1 + 1 = _; omega)
  rw [← n2] at hu3 Su3
  have su3 : (mnew w2 (.inr (2, [.null, .null, .null, .null, .null, .null, .null, .null, .null, .int 0, .int 0, .int 0, .int 0, .int 0, .int 0, .int 0])) 16).2.2 = w2.2.2 + 16 := rfl
  rw [su3] at mu3
  clear su3
  obtain ⟨w3, E3, o3, e3, S3, Fz3⟩ := mk_new (k := 4) (ty := (.object "BlottedDeed$Deed")) (lv := [some (.ref B), none]) o2 (by omega) (by simp) (fun _ => rfl) rfl hu3 Su3
  rw [n2] at o3
  have n3 : w3.2.1 = B + 72 := by rw [e3]; exact nu3
  have m3 : w3.2.2 = u3.2.2 := by rw [e3]
  obtain ⟨u4, hu4, Q4, Fu4⟩ := X6_init_sp (g := g) (w0 := mnew w3 (.inr (6, [.null, .int 0, .int 0, .int 0, .long 0, .null, .int 0, .int 0])) 8) (a := B + 72) (tx := B + 1) (d := B + 37) (by rw [← n3]; exact mnw_at _ _ _)
  have nu4 : u4.2.1 = B + 73 := by rw [Fu4.2]; show w3.2.1 + 1 = _; omega
  have mu4 : u4.2.2 = w3.2.2 + 8 := by rw [Fu4.2]; rfl
  rw [← n3] at hu4 Fu4
  obtain ⟨w4, E4, o4, e4, S4, Fz4⟩ := mk_new2 (k := 2) (f := 0) (f2 := 4) (ty := (.object "BlottedDeed$Scribe")) (lv := [some (.ref B), none]) o3 (by omega) (by simp) rfl rfl (fun _ => rfl) rfl hu4 Fu4.fa
  rw [n3] at o4
  have n4 : w4.2.1 = B + 73 := by rw [e4]; exact nu4
  have m4 : w4.2.2 = u4.2.2 := by rw [e4]
  have D2' : DEED g w4 (B + 2) dd0 := (((D2.fr Fz2 (fun i hi => by omega)).fa S3 (by omega) (fun i hi => by omega)).fa S4 (by omega) (fun i hi => by omega))
  have A5 : FA (fun _ => False) w4 (mnew w4 (.inr (7, [.null, .null, .int 0, .null, .null, .null, .null, .int 0, .null, .null, .null, .null])) 12) := mn_fa _ _ _ _
  obtain ⟨u5, hu5, T5, a5, r5, b5, c5, d5, f5, nu5, mu5, Su5⟩ := X7_init_sp hg (w0 := mnew w4 (.inr (7, [.null, .null, .int 0, .null, .null, .null, .null, .int 0, .null, .null, .null, .null])) 12) (a := B + 73) (D := B + 2) (by rw [← n4]; exact mnw_at _ _ _) (by show w4.2.1 + 1 = _; omega) (D2'.fa A5 (by omega) (fun i hi h => h)) (by omega)
  rw [← n4] at hu5 Su5
  have su5 : (mnew w4 (.inr (7, [.null, .null, .int 0, .null, .null, .null, .null, .int 0, .null, .null, .null, .null])) 12).2.2 = w4.2.2 + 12 := rfl
  rw [su5] at mu5
  clear su5
  obtain ⟨w5, E5, o5, e5, S5, Fz5⟩ := mk_new1 (k := 5) (f := 3) (ty := (.object "BlottedDeed$Table")) (lv := [some (.ref B), none]) o4 (by omega) (by simp) rfl (fun _ => rfl) rfl hu5 Su5
  rw [n4] at o5
  have n5 : w5.2.1 = B + 87 := by rw [e5]; exact nu5
  have m5 : w5.2.2 = u5.2.2 := by rw [e5]
  obtain ⟨u6, hu6, a6, r6, b6, c6, nu6, mu6, Su6⟩ := X0_init_sp (g := g) (w0 := mnew w5 (.inr (0, [.null, .null, .null])) 3) (a := B + 87) (D := B + 2) (by rw [← n5]; exact mnw_at _ _ _) (by show w5.2.1 + 1 = _; omega)
  rw [← n5] at hu6 Su6
  have su6 : (mnew w5 (.inr (0, [.null, .null, .null])) 3).2.2 = w5.2.2 + 3 := rfl
  rw [su6] at mu6
  clear su6
  obtain ⟨w6, E6, o6, e6, S6, Fz6⟩ := mk_new1 (k := 6) (f := 3) (ty := (.object "BlottedDeed$Anew")) (lv := [some (.ref B), none]) o5 (by omega) (by simp) rfl (fun _ => rfl) rfl hu6 Su6
  rw [n5] at o6
  have n6 : w6.2.1 = B + 95 := by rw [e6]; exact nu6
  have m6 : w6.2.2 = u6.2.2 := by rw [e6]
  obtain ⟨u7, hu7, a7, b7, c7, nu7, mu7, Su7⟩ := X5_init_sp (g := g) (w0 := mnew w6 (.inr (5, [.null, .null, .int 0])) 3) (a := B + 95) (by rw [← n6]; exact mnw_at _ _ _) (by show w6.2.1 + 1 = _; omega)
  rw [← n6] at hu7 Su7
  have su7 : (mnew w6 (.inr (5, [.null, .null, .int 0])) 3).2.2 = w6.2.2 + 3 := rfl
  rw [su7] at mu7
  clear su7
  obtain ⟨w7, E7, o7, e7, S7, Fz7⟩ := mk_new (k := 7) (ty := (.object "BlottedDeed$Scales")) (lv := [some (.ref B), none]) o6 (by omega) (by simp) (fun _ => rfl) rfl hu7 Su7
  rw [n6] at o7
  have n7 : w7.2.1 = B + 98 := by rw [e7]; exact nu7
  have m7 : w7.2.2 = u7.2.2 := by rw [e7]
  obtain ⟨u8, hu8, a8, nu8, mu8, Su8⟩ := X8_init_sp (g := g) (w0 := mnew w7 (.inr (8, [.null, .null, .null, .null, .null, .null, .null, .int 0, .int 0])) 9) (a := B + 98) (by rw [← n7]; exact mnw_at _ _ _) (by show w7.2.1 + 1 = _; omega)
  rw [← n7] at hu8 Su8
  have su8 : (mnew w7 (.inr (8, [.null, .null, .null, .null, .null, .null, .null, .int 0, .int 0])) 9).2.2 = w7.2.2 + 9 := rfl
  rw [su8] at mu8
  clear su8
  obtain ⟨w8, E8, o8, e8, S8, Fz8⟩ := mk_new (k := 8) (ty := (.object "BlottedDeed$Testimony")) (lv := [some (.ref B), none]) o7 (by omega) (by simp) (fun _ => rfl) rfl hu8 Su8
  rw [n7] at o8
  have n8 : w8.2.1 = B + 106 := by rw [e8]; exact nu8
  have m8 : w8.2.2 = u8.2.2 := by rw [e8]
  obtain ⟨w9, E9, o9, c9, n9, m9, S9⟩ := mk_rar (t := 7) (n := 3) (N := 3) (k := 9) (ty := (.array (.object "BlottedDeed$Testimony"))) (lv := [some (.ref B), none]) o8 (by omega) (by simp) rfl (by decide) (fun _ => rfl) rfl
  rw [n8] at o9 c9 n9
  replace n9 : w9.2.1 = B + 107 := n9
  have G9 : FA (fun q => q = B) w9 w9 := FA.rf _ _
  have G8 := S9.t G9
  have G7 := S8.t G8
  have G6 := S7.t G7
  have G5 := S6.t G6
  have G4 := S5.t G5
  have G3 := S4.t G4
  have G2 := S3.t G3
  have G1 := S2.t G2
  have G0 := S1.t G1
  obtain ⟨v5, d5', cc5, oo5, su5', tw5, r5⟩ := r5
  have T9 : GT g w9 (B + 73) (B + 87) (B + 2) dd0 (dd0.1 6) (B + 74) (B + 75) (B + 86) 32 0 := by
    obtain ⟨fM, fS, t1, t2, t3, ⟨q1, q2, q3, q4, q5, q6, q7, q8, q9, q10, q11⟩, t5, t6, t7, t8⟩ := T5
    refine ⟨fM, fS, G5.at (Fz5.at t1 (by clear q1 q2 q3 t5 t6 t7; omega)) (by clear q1 q2 q3 t5 t6 t7; omega) (by clear q1 q2 q3 t5 t6 t7; omega), (t2.fr Fz5 (by clear q1 q2 q3 t5 t6 t7; omega)).fa G5 (by clear q1 q2 q3 t5 t6 t7; omega) (by clear q1 q2 q3 t5 t6 t7; omega), (t3.fr Fz5 (by clear q1 q2 q3 t5 t6 t7; omega)).fa G5 (by clear q1 q2 q3 t5 t6 t7; omega) (by clear q1 q2 q3 t5 t6 t7; omega), ⟨q1, q2, q3, q4, q5, q6, by rw [n9]; exact Nat.add_lt_add_left (by decide) _, by rw [n9]; exact Nat.add_lt_add_left (by decide) _, by rw [n9]; exact Nat.add_lt_add_left (by decide) _, q10, by rw [n9]; exact Nat.add_le_add_left (by decide) _⟩, t5, t6, t7, (t8.fr Fz5 (by clear q1 q2 q3 t5 t6 t7; omega)).fa G5 (by clear q1 q2 q3 t5 t6 t7; omega) (by clear q1 q2 q3 t5 t6 t7; omega)⟩
  clear T5
  refine ⟨w9, fun J => ?_, o9, (ia_of c1).fa G1 (by omega) (by omega), D2'.fa G4 (by omega) (fun i hi => by omega), (D3.fr Fz3 (fun i hi => by omega)).fa G3 (by omega) (fun i hi => by omega), G4.at (Fz4.at Q4 (by omega)) (by omega) (by omega), T9, (a5.fr Fz5 (by omega)).fa G5 (by omega) (by omega), ⟨v5, d5', cc5, oo5, su5', tw5, (r5.fr Fz5 (fun i hi => by omega)).fa G5 (by omega) (fun i hi => by omega)⟩, (b5.fr Fz5 (by omega)).fa G5 (by omega) (by omega), (c5.fr Fz5 (by omega)).fa G5 (by omega) (by omega), (d5.fr Fz5 (by omega)).fa G5 (by omega) (by omega), (f5.fr Fz5 (by omega)).fa G5 (by omega) (by omega), ?_, ?_, ?_, ⟨_, c9, fun j hj => by omega⟩, n9, by omega, G0⟩
  · unfold bX10_init_0
    show (i_aload 0 (i_push (.int 600) (i_newarr 0 (i_putf 9 0 (.array .int) (i_aload 0 (i_new 2 16 [.null, .null, .null, .null, .null, .null, .null, .null, .null, .int 0, .int 0, .int 0, .int 0, .int 0, .int 0, .int 0] (i_dup (i_ci fX2_init g 0 (i_putf 9 3 (.object "BlottedDeed$Deed") (i_aload 0 (i_new 2 16 [.null, .null, .null, .null, .null, .null, .null, .null, .null, .int 0, .int 0, .int 0, .int 0, .int 0, .int 0, .int 0] (i_dup (i_ci fX2_init g 0 (i_putf 9 4 (.object "BlottedDeed$Deed") (i_aload 0 (i_new 6 8 [.null, .int 0, .int 0, .int 0, .long 0, .null, .int 0, .int 0] (i_dup (i_aload 0 (i_getf 9 0 (i_aload 0 (i_getf 9 4 (i_ci fX6_init g 2 (i_putf 9 2 (.object "BlottedDeed$Scribe") (i_aload 0 (i_new 7 12 [.null, .null, .int 0, .null, .null, .null, .null, .int 0, .null, .null, .null, .null] (i_dup (i_aload 0 (i_getf 9 3 (i_ci fX7_init g 1 (i_putf 9 5 (.object "BlottedDeed$Table") (i_aload 0 (i_new 0 3 [.null, .null, .null] (i_dup (i_aload 0 (i_getf 9 3 (i_ci fX0_init g 1 (i_putf 9 6 (.object "BlottedDeed$Anew") (i_aload 0 (i_new 5 3 [.null, .null, .int 0] (i_dup (i_ci fX5_init g 0 (i_putf 9 7 (.object "BlottedDeed$Scales") (i_aload 0 (i_new 8 9 [.null, .null, .null, .null, .null, .null, .null, .int 0, .int 0] (i_dup (i_ci fX8_init g 0 (i_putf 9 8 (.object "BlottedDeed$Testimony") (i_aload 0 (i_push (.int 3) (i_anew 7 (i_putf 9 9 (.array (.object "BlottedDeed$Testimony")) (i_push (.int 0) (i_istore 1 (i_jmp [true, true] (J 1))))))))))))))))))))))))))))))))))))))))))))))))))))))) [] [some (.ref B), none] w0 = _
    rw [E1, E2, E3, E4, E5, E6, E7, E8, E9]
    rfl
  · exact ⟨⟨_, G6.at (Fz6.at a6 (by omega)) (by omega) (by omega)⟩, ⟨_, _, _, _, _, _, (r6.fr Fz6 (fun i hi => by omega)).fa G6 (by omega) (fun i hi => by omega)⟩, ⟨_, _, _, _, _, G6.at (Fz6.at b6 (by omega)) (by omega) (by omega)⟩, ⟨_, (c6.fr Fz6 (by omega)).fa G6 (by omega) (by omega)⟩⟩
  · exact ⟨⟨_, G7.at (Fz7.at a7 (by omega)) (by omega) (by omega)⟩, ⟨_, (b7.fr Fz7 (by omega)).fa G7 (by omega) (by omega)⟩, ⟨_, (c7.fr Fz7 (by omega)).fa G7 (by omega) (by omega)⟩⟩
  · have a8' : TS w8 (B + 98) (fun _ => 0, fun _ _ => 0) := a8.fr Fz8 (fun i hi => by omega)
    exact TS.fr (w := (w8.1, w9.2)) a8' S9.fr (fun i hi => by omega)
theorem im_lp {g : GE} {w : Mem} {B : Nat} {fs : List Value} (hO : OB w B 9 fs) (h9 : fs[9]? = some (.ref (B + 106))) (hR : RAp 7 w (B + 106) 3 0 (fun j => B + 107 + 8 * j)) (hn : w.2.1 = B + 107) (F : Nat) :
    ∃ f' w', F ≤ f' ∧ jX10_init g (F + 1 * 3) 1 [] [some (.ref B), some (.int 0)] w = jX10_init g f' 1 [] [some (.ref B), some (.int (nI 3))] w' ∧ RA 7 w' (B + 106) 3 (fun j => B + 107 + 8 * j) ∧ (∀ i, i < 3 → TS w' (B + 107 + 8 * i) (fun _ => 0, fun _ _ => 0)) ∧ w'.2.1 = B + 131 ∧ w'.2.2 = w.2.2 + 231 ∧ FA (fun q => q = B + 106) w w' := by
  have L := lpC (fun f (z : Lv × Mem) => jX10_init g f 1 [] z.1 z.2) (fun i z => z.1 = [some (.ref B), some (.int (nI i))] ∧ RAp 7 z.2 (B + 106) 3 i (fun j => B + 107 + 8 * j) ∧ (∀ k, k < i → TS z.2 (B + 107 + 8 * k) (fun _ => 0, fun _ _ => 0)) ∧ z.2.2.1 = B + 107 + 8 * i ∧ z.2.2.2 = w.2.2 + 77 * i ∧ FA (fun q => q = B + 106) w z.2) 1 3
    (fun i z hi hI f => by
      obtain ⟨k1, k2, k3, k4, k5, k6⟩ := hI
      have e7 : ¬ (3 : Int32) ≤ nI i := nI_ge (b := 3) hi (by decide)
      have o0 := k6.at hO (by omega) (by omega)
      obtain ⟨w1, hw1⟩ : ∃ q, mnew z.2 (.inr (8, [.null, .null, .null, .null, .null, .null, .null, .int 0, .int 0])) 9 = q := ⟨_, rfl⟩
      have o1 : OB w1 (B + 107 + 8 * i) 8 [.null, .null, .null, .null, .null, .null, .null, .int 0, .int 0] := by rw [← hw1, ← k4]; exact mnw_at _ _ _
      have A1 : FA (fun _ => False) z.2 w1 := hw1 ▸ mn_fa _ _ _ _
      have m1 : w1.2.1 = B + 107 + 8 * i + 1 := by rw [← hw1]; show z.2.2.1 + 1 = _; omega
      have m2 : w1.2.2 = z.2.2.2 + 9 := by rw [← hw1]; rfl
      obtain ⟨w2, x3, o2, u1, u2, B2⟩ := X8_init_sp (g := g) o1 m1
      have A2 : FA (fun _ => False) z.2 w2 := A1.tr B2 fun b hb h => by omega
      obtain ⟨w3, s3, R3, F3⟩ := (k2.fa A2 (by omega) (fun h => h)).wr hi (by decide)
      have A3 : FA (fun q => q = B + 106) z.2 w3 := (A2.tr' fun _ h => h.elim).t F3.fa
      refine ⟨f, ([some (.ref B), some (.int (nI (i + 1)))], w3), Nat.le_refl _, ⟨rfl, R3, fun k hk => ?_, by show w3.2.1 = _; rw [F3.2, u1]; omega, by show w3.2.2 = _; rw [F3.2, u2, m2, k5]; omega, k6.t A3⟩, ?_⟩
      · by_cases y : k = i
        · subst y; exact o2.fr F3 (fun j hj => by omega)
        · exact TS.fr (w := (z.2.1, w3.2)) (k3 k (by omega)) A3.fr (fun j hj => by omega)
      · have o2' := o2.1
        clear o2
        simp [jX10_init, bX10_init_0, bX10_init_1, i_aastore, i_aload, i_anew, i_dup, i_getf, i_icge, i_iinc, i_iload, i_istore, i_jmp, i_new, i_newarr, i_obj, i_push, i_putf, i_return, msk, lset1, lset2, clr, Value.category, Option.toList, List.cons_append, List.nil_append, List.length_cons, List.length_nil, k1, e7, gf_eq o0, h9, k4, hw1, cik_0 x3, o2', s3, nI_1])
  obtain ⟨f1, z1, k1, ⟨i1, i2, i3, i4, i5, i6⟩, k3⟩ := L 3 0 ([some (.ref B), some (.int (nI 0))], w) (by omega) ⟨rfl, hR, fun k hk => by omega, by rw [hn], rfl, FA.rf _ _⟩ F
  refine ⟨f1, z1.2, k1, ?_, i2.ra, i3, by omega, by omega, i6⟩
  rw [← i1]
  exact k3
def te0 : TE := (fun _ => 0, fun _ _ => 0)
/-- the class, new: but for the room beyond it -/
theorem X10_init_sp {g : GE} (hg : GD g) {w0 : Mem} {B : Nat} (o0 : OB w0 B 9 [.null, .int 0, .null, .null, .null, .null, .null, .null, .null, .null, .int 0, .int 0, .null]) (n0 : w0.2.1 = B + 1) :
    ∃ w', fX10_init g [.ref B] w0 = some (.inl none, w') ∧ CC g w' B (B + 2) (B + 37) 0 0 (-1) (fun _ => 0) (fun _ => 0) dd0 ∧ GT g w' (B + 73) (B + 87) (B + 2) dd0 (dd0.1 6) (B + 74) (B + 75) (B + 86) 32 0 ∧ TX w' B (B + 86) 32 dd0 ∧ CN w' B ∧ CL w' B ∧ CM w' B te0 (fun _ => te0) ∧ w'.2.1 = B + 132 ∧ w'.2.2 ≤ w0.2.2 + 6300 ∧ FA (fun q => q = B) w0 w' := by
  have hg1 := hg.1
  obtain ⟨w1, E1, o1, A1, D1, D2, Q1, T1, a1, r1, b1, c1, d1, f1, N1, L1, S1, R1, n1, m1, G1⟩ := X10_a hg o0 n0
  obtain ⟨N, hN⟩ : ∃ N, g.1 = (N + 1 + 1 * 3) + 1 := ⟨g.1 - 5, by omega⟩
  obtain ⟨f2, w2, l2, E2, R2, S2, n2, m2, G2⟩ := im_lp (g := g) o1 rfl R1 n1 (N + 1)
  obtain ⟨f3, rfl⟩ : ∃ z, f2 = z + 1 := ⟨f2 - 1, by omega⟩
  have o2 := G2.at o1 (by omega) (by omega)
  have s3 := sf_i o2 11 (-1) (by simp)
  obtain ⟨w3, hw3⟩ : ∃ z, mset w2 B (.inr (9, [.ref (B + 1), .int 0, .ref (B + 72), .ref (B + 2), .ref (B + 37), .ref (B + 73), .ref (B + 87), .ref (B + 95), .ref (B + 98), .ref (B + 106), .int 0, .int (-1), .null])) = z := ⟨_, rfl⟩
  have s3' : sf w2 B 9 11 .int (.int (-1)) = some w3 := by rw [s3, ← hw3]; rfl
  have o3 : OB w3 B 9 [.ref (B + 1), .int 0, .ref (B + 72), .ref (B + 2), .ref (B + 37), .ref (B + 73), .ref (B + 87), .ref (B + 95), .ref (B + 98), .ref (B + 106), .int 0, .int (-1), .null] := hw3 ▸ ms_at _ _ _
  have F3 : Fr (fun q => q = B) w2 w3 := hw3 ▸ Fr.ms _ _ rfl
  have n3 : w3.2.1 = B + 131 := by rw [F3.2]; exact n2
  obtain ⟨w4, E4, o4, c4, n4, m4, G4⟩ := mk_arr (t := 0) (n := 3) (N := 3) (k := 12) (ty := (.array .int)) (lv := [some (.ref B), some (.int (nI 3))]) o3 (by omega) (by simp) rfl (by decide) (fun _ => rfl) rfl
  rw [n3] at o4 c4 n4
  have H : FA (fun q => q = B ∨ q = B + 106) w1 w4 := ((G2.tr' fun q h => Or.inr h).tr (F3.fa) (fun q hq h => Or.inl h)).tr G4 fun q hq h => Or.inl h
  have K := H.fr
  have nK : ∀ i, 1 ≤ i → i < 106 → ¬ ((B + i = B ∨ B + i = B + 106) ∨ w1.2.1 ≤ B + i) := fun i h1 h2 => by omega
  have kD : ∀ D, (D = B + 2 ∨ D = B + 37) → ∀ i, i < 35 → ¬ ((D + i = B ∨ D + i = B + 106) ∨ w1.2.1 ≤ D + i) := fun D hD i hi => by omega
  have A4 : IA w4 (B + 1) 600 (fun _ => 0) := AR.fr (w := (w1.1, w4.2)) A1 K (nK 1 (by decide) (by decide))
  have m31 : w4.2.2 ≤ w0.2.2 + 6300 := by
    have : w3.2.2 = w2.2.2 := by rw [F3.2]
    omega
  refine ⟨w4, ?_, ⟨Or.inl ⟨rfl, rfl⟩, o4, A4, DEED.fr (w := (w1.1, w4.2)) D1 K (kD _ (Or.inl rfl)), ⟨_, DEED.fr (w := (w1.1, w4.2)) D2 K (kD _ (Or.inr rfl))⟩, ⟨_, _, _, _, _, _, _, K.at Q1 (nK 72 (by decide) (by decide))⟩, ia_of c4, dd0_wf, by decide, by decide⟩, ?_, ?_, CN.fr (w := (w1.1, w4.2)) N1 K (fun i h1 h2 => nK i (by omega) (by omega)), CL.fr (w := (w1.1, w4.2)) L1 K (fun i h1 h2 => nK i (by omega) (by omega)), ⟨TS.fr (w := (w1.1, w4.2)) S1 K (fun i hi => by omega), ?_, fun i hi => ?_⟩, by omega, m31, ?_⟩
  · have e : fX10_init g [.ref B] w0 = jX10_init g g.1 0 [] [some (.ref B), none] w0 := rfl
    rw [e, hN]
    show bX10_init_0 g (jX10_init g (N + 1 + 1 * 3)) [] [some (.ref B), none] w0 = _
    rw [E1, E2]
    have e8 : (3 : Int32) ≤ nI 3 := by decide
    have E4' := E4 i_return
    show bX10_init_1 g (jX10_init g f3) [] [some (.ref B), some (.int (nI 3))] w2 = _
    unfold bX10_init_1
    generalize i_aload 0 (i_push (.int 3) (i_newarr 0 (i_putf 9 12 (.array .int) i_return))) = KK at *
    clear E1 E2 E4 s3 K
    simp [i_iload, i_push, i_icge, e8, i_aload, i_putf, s3', E4', i_return]
  · obtain ⟨fM, fS, t1, t2, t3, ⟨q1, q2, q3, q4, q5, q6, q7, q8, q9, q10, q11⟩, t5, t6, t7, t8⟩ := T1
    exact ⟨fM, fS, K.at t1 (nK 73 (by decide) (by decide)), LA.fr (w := (w1.1, w4.2)) t2 K (nK 74 (by decide) (by decide)), LA.fr (w := (w1.1, w4.2)) t3 K (nK 75 (by decide) (by decide)), ⟨q1, q2, q3, q4, q5, q6, by clear q1 q2 q3 t5 t6 t7; omega, by clear q1 q2 q3 t5 t6 t7; omega, by clear q1 q2 q3 t5 t6 t7; omega, q10, by clear q1 q2 q3 t5 t6 t7; omega⟩, t5, t6, t7, AR.fr (w := (w1.1, w4.2)) t8 K (nK 76 (by decide) (by decide))⟩
  · obtain ⟨v, d, c, o, su, tw, r1⟩ := r1
    exact ⟨⟨_, AR.fr (w := (w1.1, w4.2)) a1 K (nK 77 (by decide) (by decide))⟩, ⟨v, d, c, o, su, tw, ROW.fr (w := (w1.1, w4.2)) r1 K (fun i hi => by omega)⟩, ⟨_, AR.fr (w := (w1.1, w4.2)) b1 K (nK 83 (by decide) (by decide))⟩, ⟨_, AR.fr (w := (w1.1, w4.2)) c1 K (nK 84 (by decide) (by decide)), fun k hk => Or.inl rfl⟩, ⟨_, AR.fr (w := (w1.1, w4.2)) d1 K (nK 85 (by decide) (by decide)), fun k hk => Or.inl rfl⟩, ⟨_, AR.fr (w := (w1.1, w4.2)) f1 K (nK 86 (by decide) (by decide))⟩, by decide⟩
  · obtain ⟨f, h1, h2⟩ := R2
    exact ⟨f, G4.at (F3.at h1 (by omega)) (by omega) (by omega), h2⟩
  · have a8' := (S2 i hi).fr F3 (fun j hj => by omega)
    exact TS.fr (w := (w3.1, w4.2)) a8' G4.fr (fun j hj => by omega)
  · exact ⟨fun q hq hne => (H.1 q (by omega) (by omega)).trans (G1.1 q hq hne), by omega, by
      have := H.2.2
      have := G1.2.2
      omega⟩
