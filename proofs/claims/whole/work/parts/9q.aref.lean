/-! ===== new objects: the reference ===== -/
theorem ne_off {M k : Nat} (h : 0 < k) : ¬ M + k = M := by omega
theorem lt_off {M j k : Nat} (h : j < k) : M + j < M + k := by omega
theorem ne_offs {M k n : Nat} (h : 0 < k) : ∀ i, i < n → ¬ M + k + i = M := fun i _ => by omega
theorem X11_s0 {w0 : Mem} {M : Nat} (o0 : OB w0 M 10 [.int 0, .int 0, .int 0, .int (-1), .int 0, .int 0, .int 0, .int 0, .null, .null, .null, .null, .null, .null, .null, .null, .null, .null, .null, .null, .null, .null, .null, .null, .null, .null, .null, .int 0, .null, .null, .null, .null, .int 0, .int 0, .int 0, .int 0, .null, .null, .null, .null, .null, .null, .int 0, .null, .null, .int 0, .int 0, .int 0, .null, .null]) (n0 : w0.2.1 = M + 1) :
    ∃ w', (∀ K : KT, (i_aload 0 (i_push (.int 600) (i_newarr 0 (i_putf 10 8 (.array .int) (i_aload 0 (i_push (.int 3) (i_newarr 0 (i_putf 10 9 (.array .int) (i_aload 0 (i_push (.int 7) (i_newarr 0 (i_putf 10 10 (.array .int) (i_aload 0 (i_push (.int 7) (i_newarr 0 (i_putf 10 11 (.array .int) (i_aload 0 (i_push (.int 9) (i_newarr 0 (i_putf 10 12 (.array .int) (i_aload 0 (i_push (.int 4) (i_newarr 0 (i_putf 10 13 (.array .int) (i_aload 0 (i_push (.int 5) (i_newarr 0 (i_putf 10 14 (.array .int) (i_aload 0 (i_push (.int 5) (i_newarr 0 (i_putf 10 15 (.array .int) (i_aload 0 (i_push (.int 4) (i_newarr 0 (i_putf 10 16 (.array .int) (K))))))))))))))))))))))))))))))))))))) [] [some (.ref M)] w0 = K [] [some (.ref M)] w') ∧ OB w' M 10 [.int 0, .int 0, .int 0, .int (-1), .int 0, .int 0, .int 0, .int 0, .ref (M + 1), .ref (M + 2), .ref (M + 3), .ref (M + 4), .ref (M + 5), .ref (M + 6), .ref (M + 7), .ref (M + 8), .ref (M + 9), .null, .null, .null, .null, .null, .null, .null, .null, .null, .null, .int 0, .null, .null, .null, .null, .int 0, .int 0, .int 0, .int 0, .null, .null, .null, .null, .null, .null, .int 0, .null, .null, .int 0, .int 0, .int 0, .null, .null] ∧ w'.2.1 = M + 10 ∧ w'.2.2 = w0.2.2 + 644 ∧ FA (fun q => q = M) w0 w' ∧ AR 0 w' (M + 1) 600 (fun _ => 0) ∧ AR 0 w' (M + 2) 3 (fun _ => 0) ∧ AR 0 w' (M + 3) 7 (fun _ => 0) ∧ AR 0 w' (M + 4) 7 (fun _ => 0) ∧ AR 0 w' (M + 5) 9 (fun _ => 0) ∧ AR 0 w' (M + 6) 4 (fun _ => 0) ∧ AR 0 w' (M + 7) 5 (fun _ => 0) ∧ AR 0 w' (M + 8) 5 (fun _ => 0) ∧ AR 0 w' (M + 9) 4 (fun _ => 0) := by
  obtain ⟨w1, E1, o1, c1, n1, m1, S1⟩ := mk_arr (t := 0) (n := 600) (N := 600) (k := 8) (ty := (.array .int)) (lv := [some (.ref M)]) o0 (by rw [n0]; exact Nat.lt_add_of_pos_right (by decide)) (show 8 < 50 by decide) rfl (by decide) (fun _ => rfl) rfl
  rw [n0] at o1 c1 n1
  replace o1 : OB w1 M 10 [.int 0, .int 0, .int 0, .int (-1), .int 0, .int 0, .int 0, .int 0, .ref (M + 1), .null, .null, .null, .null, .null, .null, .null, .null, .null, .null, .null, .null, .null, .null, .null, .null, .null, .null, .int 0, .null, .null, .null, .null, .int 0, .int 0, .int 0, .int 0, .null, .null, .null, .null, .null, .null, .int 0, .null, .null, .int 0, .int 0, .int 0, .null, .null] := o1
  replace n1 : w1.2.1 = M + 2 := n1
  replace m1 : w1.2.2 = w0.2.2 + 600 := m1
  obtain ⟨w2, E2, o2, c2, n2, m2, S2⟩ := mk_arr (t := 0) (n := 3) (N := 3) (k := 9) (ty := (.array .int)) (lv := [some (.ref M)]) o1 (by rw [n1]; exact Nat.lt_add_of_pos_right (by decide)) (show 9 < 50 by decide) rfl (by decide) (fun _ => rfl) rfl
  rw [n1] at o2 c2 n2
  replace o2 : OB w2 M 10 [.int 0, .int 0, .int 0, .int (-1), .int 0, .int 0, .int 0, .int 0, .ref (M + 1), .ref (M + 2), .null, .null, .null, .null, .null, .null, .null, .null, .null, .null, .null, .null, .null, .null, .null, .null, .null, .int 0, .null, .null, .null, .null, .int 0, .int 0, .int 0, .int 0, .null, .null, .null, .null, .null, .null, .int 0, .null, .null, .int 0, .int 0, .int 0, .null, .null] := o2
  replace n2 : w2.2.1 = M + 3 := n2
  replace m2 : w2.2.2 = w0.2.2 + 603 := by omega
  obtain ⟨w3, E3, o3, c3, n3, m3, S3⟩ := mk_arr (t := 0) (n := 7) (N := 7) (k := 10) (ty := (.array .int)) (lv := [some (.ref M)]) o2 (by rw [n2]; exact Nat.lt_add_of_pos_right (by decide)) (show 10 < 50 by decide) rfl (by decide) (fun _ => rfl) rfl
  rw [n2] at o3 c3 n3
  replace o3 : OB w3 M 10 [.int 0, .int 0, .int 0, .int (-1), .int 0, .int 0, .int 0, .int 0, .ref (M + 1), .ref (M + 2), .ref (M + 3), .null, .null, .null, .null, .null, .null, .null, .null, .null, .null, .null, .null, .null, .null, .null, .null, .int 0, .null, .null, .null, .null, .int 0, .int 0, .int 0, .int 0, .null, .null, .null, .null, .null, .null, .int 0, .null, .null, .int 0, .int 0, .int 0, .null, .null] := o3
  replace n3 : w3.2.1 = M + 4 := n3
  replace m3 : w3.2.2 = w0.2.2 + 610 := by omega
  obtain ⟨w4, E4, o4, c4, n4, m4, S4⟩ := mk_arr (t := 0) (n := 7) (N := 7) (k := 11) (ty := (.array .int)) (lv := [some (.ref M)]) o3 (by rw [n3]; exact Nat.lt_add_of_pos_right (by decide)) (show 11 < 50 by decide) rfl (by decide) (fun _ => rfl) rfl
  rw [n3] at o4 c4 n4
  replace o4 : OB w4 M 10 [.int 0, .int 0, .int 0, .int (-1), .int 0, .int 0, .int 0, .int 0, .ref (M + 1), .ref (M + 2), .ref (M + 3), .ref (M + 4), .null, .null, .null, .null, .null, .null, .null, .null, .null, .null, .null, .null, .null, .null, .null, .int 0, .null, .null, .null, .null, .int 0, .int 0, .int 0, .int 0, .null, .null, .null, .null, .null, .null, .int 0, .null, .null, .int 0, .int 0, .int 0, .null, .null] := o4
  replace n4 : w4.2.1 = M + 5 := n4
  replace m4 : w4.2.2 = w0.2.2 + 617 := by omega
  obtain ⟨w5, E5, o5, c5, n5, m5, S5⟩ := mk_arr (t := 0) (n := 9) (N := 9) (k := 12) (ty := (.array .int)) (lv := [some (.ref M)]) o4 (by rw [n4]; exact Nat.lt_add_of_pos_right (by decide)) (show 12 < 50 by decide) rfl (by decide) (fun _ => rfl) rfl
  rw [n4] at o5 c5 n5
  replace o5 : OB w5 M 10 [.int 0, .int 0, .int 0, .int (-1), .int 0, .int 0, .int 0, .int 0, .ref (M + 1), .ref (M + 2), .ref (M + 3), .ref (M + 4), .ref (M + 5), .null, .null, .null, .null, .null, .null, .null, .null, .null, .null, .null, .null, .null, .null, .int 0, .null, .null, .null, .null, .int 0, .int 0, .int 0, .int 0, .null, .null, .null, .null, .null, .null, .int 0, .null, .null, .int 0, .int 0, .int 0, .null, .null] := o5
  replace n5 : w5.2.1 = M + 6 := n5
  replace m5 : w5.2.2 = w0.2.2 + 626 := by omega
  obtain ⟨w6, E6, o6, c6, n6, m6, S6⟩ := mk_arr (t := 0) (n := 4) (N := 4) (k := 13) (ty := (.array .int)) (lv := [some (.ref M)]) o5 (by rw [n5]; exact Nat.lt_add_of_pos_right (by decide)) (show 13 < 50 by decide) rfl (by decide) (fun _ => rfl) rfl
  rw [n5] at o6 c6 n6
  replace o6 : OB w6 M 10 [.int 0, .int 0, .int 0, .int (-1), .int 0, .int 0, .int 0, .int 0, .ref (M + 1), .ref (M + 2), .ref (M + 3), .ref (M + 4), .ref (M + 5), .ref (M + 6), .null, .null, .null, .null, .null, .null, .null, .null, .null, .null, .null, .null, .null, .int 0, .null, .null, .null, .null, .int 0, .int 0, .int 0, .int 0, .null, .null, .null, .null, .null, .null, .int 0, .null, .null, .int 0, .int 0, .int 0, .null, .null] := o6
  replace n6 : w6.2.1 = M + 7 := n6
  replace m6 : w6.2.2 = w0.2.2 + 630 := by omega
  obtain ⟨w7, E7, o7, c7, n7, m7, S7⟩ := mk_arr (t := 0) (n := 5) (N := 5) (k := 14) (ty := (.array .int)) (lv := [some (.ref M)]) o6 (by rw [n6]; exact Nat.lt_add_of_pos_right (by decide)) (show 14 < 50 by decide) rfl (by decide) (fun _ => rfl) rfl
  rw [n6] at o7 c7 n7
  replace o7 : OB w7 M 10 [.int 0, .int 0, .int 0, .int (-1), .int 0, .int 0, .int 0, .int 0, .ref (M + 1), .ref (M + 2), .ref (M + 3), .ref (M + 4), .ref (M + 5), .ref (M + 6), .ref (M + 7), .null, .null, .null, .null, .null, .null, .null, .null, .null, .null, .null, .null, .int 0, .null, .null, .null, .null, .int 0, .int 0, .int 0, .int 0, .null, .null, .null, .null, .null, .null, .int 0, .null, .null, .int 0, .int 0, .int 0, .null, .null] := o7
  replace n7 : w7.2.1 = M + 8 := n7
  replace m7 : w7.2.2 = w0.2.2 + 635 := by omega
  obtain ⟨w8, E8, o8, c8, n8, m8, S8⟩ := mk_arr (t := 0) (n := 5) (N := 5) (k := 15) (ty := (.array .int)) (lv := [some (.ref M)]) o7 (by rw [n7]; exact Nat.lt_add_of_pos_right (by decide)) (show 15 < 50 by decide) rfl (by decide) (fun _ => rfl) rfl
  rw [n7] at o8 c8 n8
  replace o8 : OB w8 M 10 [.int 0, .int 0, .int 0, .int (-1), .int 0, .int 0, .int 0, .int 0, .ref (M + 1), .ref (M + 2), .ref (M + 3), .ref (M + 4), .ref (M + 5), .ref (M + 6), .ref (M + 7), .ref (M + 8), .null, .null, .null, .null, .null, .null, .null, .null, .null, .null, .null, .int 0, .null, .null, .null, .null, .int 0, .int 0, .int 0, .int 0, .null, .null, .null, .null, .null, .null, .int 0, .null, .null, .int 0, .int 0, .int 0, .null, .null] := o8
  replace n8 : w8.2.1 = M + 9 := n8
  replace m8 : w8.2.2 = w0.2.2 + 640 := by omega
  obtain ⟨w9, E9, o9, c9, n9, m9, S9⟩ := mk_arr (t := 0) (n := 4) (N := 4) (k := 16) (ty := (.array .int)) (lv := [some (.ref M)]) o8 (by rw [n8]; exact Nat.lt_add_of_pos_right (by decide)) (show 16 < 50 by decide) rfl (by decide) (fun _ => rfl) rfl
  rw [n8] at o9 c9 n9
  replace o9 : OB w9 M 10 [.int 0, .int 0, .int 0, .int (-1), .int 0, .int 0, .int 0, .int 0, .ref (M + 1), .ref (M + 2), .ref (M + 3), .ref (M + 4), .ref (M + 5), .ref (M + 6), .ref (M + 7), .ref (M + 8), .ref (M + 9), .null, .null, .null, .null, .null, .null, .null, .null, .null, .null, .int 0, .null, .null, .null, .null, .int 0, .int 0, .int 0, .int 0, .null, .null, .null, .null, .null, .null, .int 0, .null, .null, .int 0, .int 0, .int 0, .null, .null] := o9
  replace n9 : w9.2.1 = M + 10 := n9
  replace m9 : w9.2.2 = w0.2.2 + 644 := by omega
  have G9 : FA (fun q => q = M) w9 w9 := FA.rf _ _
  have G8 := S9.t G9
  have G7 := S8.t G8
  have G6 := S7.t G7
  have G5 := S6.t G6
  have G4 := S5.t G5
  have G3 := S4.t G4
  have G2 := S3.t G3
  have G1 := S2.t G2
  have G0 := S1.t G1
  exact ⟨w9, fun K => by rw [E1, E2, E3, E4, E5, E6, E7, E8, E9], o9, n9, m9, G0, (ia_of c1).fa G1 (by rw [n1]; exact lt_off (by decide)) (ne_off (by decide)), (ia_of c2).fa G2 (by rw [n2]; exact lt_off (by decide)) (ne_off (by decide)), (ia_of c3).fa G3 (by rw [n3]; exact lt_off (by decide)) (ne_off (by decide)), (ia_of c4).fa G4 (by rw [n4]; exact lt_off (by decide)) (ne_off (by decide)), (ia_of c5).fa G5 (by rw [n5]; exact lt_off (by decide)) (ne_off (by decide)), (ia_of c6).fa G6 (by rw [n6]; exact lt_off (by decide)) (ne_off (by decide)), (ia_of c7).fa G7 (by rw [n7]; exact lt_off (by decide)) (ne_off (by decide)), (ia_of c8).fa G8 (by rw [n8]; exact lt_off (by decide)) (ne_off (by decide)), (ia_of c9).fa G9 (by rw [n9]; exact lt_off (by decide)) (ne_off (by decide))⟩
theorem X11_s1 {w0 : Mem} {M : Nat} (o0 : OB w0 M 10 [.int 0, .int 0, .int 0, .int (-1), .int 0, .int 0, .int 0, .int 0, .ref (M + 1), .ref (M + 2), .ref (M + 3), .ref (M + 4), .ref (M + 5), .ref (M + 6), .ref (M + 7), .ref (M + 8), .ref (M + 9), .null, .null, .null, .null, .null, .null, .null, .null, .null, .null, .int 0, .null, .null, .null, .null, .int 0, .int 0, .int 0, .int 0, .null, .null, .null, .null, .null, .null, .int 0, .null, .null, .int 0, .int 0, .int 0, .null, .null]) (n0 : w0.2.1 = M + 10) :
    ∃ w', (∀ K : KT, (i_aload 0 (i_push (.int 4) (i_newarr 0 (i_putf 10 17 (.array .int) (i_aload 0 (i_push (.int 9) (i_newarr 1 (i_putf 10 18 (.array .long) (i_aload 0 (i_push (.int 9) (i_push (.int 3) (i_mnew (i_putf 10 19 (.array (.array .int)) (i_aload 0 (i_push (.int 9) (i_push (.int 3) (i_mnew (i_putf 10 20 (.array (.array .int)) (i_aload 0 (i_push (.int 36) (i_push (.int 3) (i_mnew (i_putf 10 21 (.array (.array .int)) (i_aload 0 (i_push (.int 36) (i_push (.int 3) (i_mnew (i_putf 10 22 (.array (.array .int)) (i_aload 0 (i_push (.int 8) (i_push (.int 5) (i_mnew (i_putf 10 23 (.array (.array .int)) (i_aload 0 (i_push (.int 8) (i_push (.int 5) (i_mnew (i_putf 10 24 (.array (.array .int)) (K))))))))))))))))))))))))))))))))))))))) [] [some (.ref M)] w0 = K [] [some (.ref M)] w') ∧ OB w' M 10 [.int 0, .int 0, .int 0, .int (-1), .int 0, .int 0, .int 0, .int 0, .ref (M + 1), .ref (M + 2), .ref (M + 3), .ref (M + 4), .ref (M + 5), .ref (M + 6), .ref (M + 7), .ref (M + 8), .ref (M + 9), .ref (M + 10), .ref (M + 11), .ref (M + 12), .ref (M + 22), .ref (M + 32), .ref (M + 69), .ref (M + 106), .ref (M + 115), .null, .null, .int 0, .null, .null, .null, .null, .int 0, .int 0, .int 0, .int 0, .null, .null, .null, .null, .null, .null, .int 0, .null, .null, .int 0, .int 0, .int 0, .null, .null] ∧ w'.2.1 = M + 124 ∧ w'.2.2 = w0.2.2 + 469 ∧ FA (fun q => q = M) w0 w' ∧ AR 0 w' (M + 10) 4 (fun _ => 0) ∧ LA w' (M + 11) 9 (fun _ => 0) ∧ GRD w' (M + 12) 9 3 (fun _ _ => 0) ∧ GRD w' (M + 22) 9 3 (fun _ _ => 0) ∧ GRD w' (M + 32) 36 3 (fun _ _ => 0) ∧ GRD w' (M + 69) 36 3 (fun _ _ => 0) ∧ GRD w' (M + 106) 8 5 (fun _ _ => 0) ∧ GRD w' (M + 115) 8 5 (fun _ _ => 0) := by
  obtain ⟨w1, E1, o1, c1, n1, m1, S1⟩ := mk_arr (t := 0) (n := 4) (N := 4) (k := 17) (ty := (.array .int)) (lv := [some (.ref M)]) o0 (by rw [n0]; exact Nat.lt_add_of_pos_right (by decide)) (show 17 < 50 by decide) rfl (by decide) (fun _ => rfl) rfl
  rw [n0] at o1 c1 n1
  replace o1 : OB w1 M 10 [.int 0, .int 0, .int 0, .int (-1), .int 0, .int 0, .int 0, .int 0, .ref (M + 1), .ref (M + 2), .ref (M + 3), .ref (M + 4), .ref (M + 5), .ref (M + 6), .ref (M + 7), .ref (M + 8), .ref (M + 9), .ref (M + 10), .null, .null, .null, .null, .null, .null, .null, .null, .null, .int 0, .null, .null, .null, .null, .int 0, .int 0, .int 0, .int 0, .null, .null, .null, .null, .null, .null, .int 0, .null, .null, .int 0, .int 0, .int 0, .null, .null] := o1
  replace n1 : w1.2.1 = M + 11 := n1
  replace m1 : w1.2.2 = w0.2.2 + 4 := m1
  obtain ⟨w2, E2, o2, c2, n2, m2, S2⟩ := mk_arr (t := 1) (n := 9) (N := 9) (k := 18) (ty := (.array .long)) (lv := [some (.ref M)]) o1 (by rw [n1]; exact Nat.lt_add_of_pos_right (by decide)) (show 18 < 50 by decide) rfl (by decide) (fun _ => rfl) rfl
  rw [n1] at o2 c2 n2
  replace o2 : OB w2 M 10 [.int 0, .int 0, .int 0, .int (-1), .int 0, .int 0, .int 0, .int 0, .ref (M + 1), .ref (M + 2), .ref (M + 3), .ref (M + 4), .ref (M + 5), .ref (M + 6), .ref (M + 7), .ref (M + 8), .ref (M + 9), .ref (M + 10), .ref (M + 11), .null, .null, .null, .null, .null, .null, .null, .null, .int 0, .null, .null, .null, .null, .int 0, .int 0, .int 0, .int 0, .null, .null, .null, .null, .null, .null, .int 0, .null, .null, .int 0, .int 0, .int 0, .null, .null] := o2
  replace n2 : w2.2.1 = M + 12 := n2
  replace m2 : w2.2.2 = w0.2.2 + 13 := by omega
  obtain ⟨w3, E3, o3, c3, n3, m3, S3⟩ := mk_grd (n := 9) (N := 9) (m := 3) (M9 := 3) (k := 19) (lv := [some (.ref M)]) o2 (by rw [n2]; exact Nat.lt_add_of_pos_right (by decide)) (show 19 < 50 by decide) rfl (by decide) rfl (by decide) rfl
  rw [n2] at o3 c3 n3
  replace o3 : OB w3 M 10 [.int 0, .int 0, .int 0, .int (-1), .int 0, .int 0, .int 0, .int 0, .ref (M + 1), .ref (M + 2), .ref (M + 3), .ref (M + 4), .ref (M + 5), .ref (M + 6), .ref (M + 7), .ref (M + 8), .ref (M + 9), .ref (M + 10), .ref (M + 11), .ref (M + 12), .null, .null, .null, .null, .null, .null, .null, .int 0, .null, .null, .null, .null, .int 0, .int 0, .int 0, .int 0, .null, .null, .null, .null, .null, .null, .int 0, .null, .null, .int 0, .int 0, .int 0, .null, .null] := o3
  replace n3 : w3.2.1 = M + 22 := n3
  replace m3 : w3.2.2 = w0.2.2 + 49 := by omega
  obtain ⟨w4, E4, o4, c4, n4, m4, S4⟩ := mk_grd (n := 9) (N := 9) (m := 3) (M9 := 3) (k := 20) (lv := [some (.ref M)]) o3 (by rw [n3]; exact Nat.lt_add_of_pos_right (by decide)) (show 20 < 50 by decide) rfl (by decide) rfl (by decide) rfl
  rw [n3] at o4 c4 n4
  replace o4 : OB w4 M 10 [.int 0, .int 0, .int 0, .int (-1), .int 0, .int 0, .int 0, .int 0, .ref (M + 1), .ref (M + 2), .ref (M + 3), .ref (M + 4), .ref (M + 5), .ref (M + 6), .ref (M + 7), .ref (M + 8), .ref (M + 9), .ref (M + 10), .ref (M + 11), .ref (M + 12), .ref (M + 22), .null, .null, .null, .null, .null, .null, .int 0, .null, .null, .null, .null, .int 0, .int 0, .int 0, .int 0, .null, .null, .null, .null, .null, .null, .int 0, .null, .null, .int 0, .int 0, .int 0, .null, .null] := o4
  replace n4 : w4.2.1 = M + 32 := n4
  replace m4 : w4.2.2 = w0.2.2 + 85 := by omega
  obtain ⟨w5, E5, o5, c5, n5, m5, S5⟩ := mk_grd (n := 36) (N := 36) (m := 3) (M9 := 3) (k := 21) (lv := [some (.ref M)]) o4 (by rw [n4]; exact Nat.lt_add_of_pos_right (by decide)) (show 21 < 50 by decide) rfl (by decide) rfl (by decide) rfl
  rw [n4] at o5 c5 n5
  replace o5 : OB w5 M 10 [.int 0, .int 0, .int 0, .int (-1), .int 0, .int 0, .int 0, .int 0, .ref (M + 1), .ref (M + 2), .ref (M + 3), .ref (M + 4), .ref (M + 5), .ref (M + 6), .ref (M + 7), .ref (M + 8), .ref (M + 9), .ref (M + 10), .ref (M + 11), .ref (M + 12), .ref (M + 22), .ref (M + 32), .null, .null, .null, .null, .null, .int 0, .null, .null, .null, .null, .int 0, .int 0, .int 0, .int 0, .null, .null, .null, .null, .null, .null, .int 0, .null, .null, .int 0, .int 0, .int 0, .null, .null] := o5
  replace n5 : w5.2.1 = M + 69 := n5
  replace m5 : w5.2.2 = w0.2.2 + 229 := by omega
  obtain ⟨w6, E6, o6, c6, n6, m6, S6⟩ := mk_grd (n := 36) (N := 36) (m := 3) (M9 := 3) (k := 22) (lv := [some (.ref M)]) o5 (by rw [n5]; exact Nat.lt_add_of_pos_right (by decide)) (show 22 < 50 by decide) rfl (by decide) rfl (by decide) rfl
  rw [n5] at o6 c6 n6
  replace o6 : OB w6 M 10 [.int 0, .int 0, .int 0, .int (-1), .int 0, .int 0, .int 0, .int 0, .ref (M + 1), .ref (M + 2), .ref (M + 3), .ref (M + 4), .ref (M + 5), .ref (M + 6), .ref (M + 7), .ref (M + 8), .ref (M + 9), .ref (M + 10), .ref (M + 11), .ref (M + 12), .ref (M + 22), .ref (M + 32), .ref (M + 69), .null, .null, .null, .null, .int 0, .null, .null, .null, .null, .int 0, .int 0, .int 0, .int 0, .null, .null, .null, .null, .null, .null, .int 0, .null, .null, .int 0, .int 0, .int 0, .null, .null] := o6
  replace n6 : w6.2.1 = M + 106 := n6
  replace m6 : w6.2.2 = w0.2.2 + 373 := by omega
  obtain ⟨w7, E7, o7, c7, n7, m7, S7⟩ := mk_grd (n := 8) (N := 8) (m := 5) (M9 := 5) (k := 23) (lv := [some (.ref M)]) o6 (by rw [n6]; exact Nat.lt_add_of_pos_right (by decide)) (show 23 < 50 by decide) rfl (by decide) rfl (by decide) rfl
  rw [n6] at o7 c7 n7
  replace o7 : OB w7 M 10 [.int 0, .int 0, .int 0, .int (-1), .int 0, .int 0, .int 0, .int 0, .ref (M + 1), .ref (M + 2), .ref (M + 3), .ref (M + 4), .ref (M + 5), .ref (M + 6), .ref (M + 7), .ref (M + 8), .ref (M + 9), .ref (M + 10), .ref (M + 11), .ref (M + 12), .ref (M + 22), .ref (M + 32), .ref (M + 69), .ref (M + 106), .null, .null, .null, .int 0, .null, .null, .null, .null, .int 0, .int 0, .int 0, .int 0, .null, .null, .null, .null, .null, .null, .int 0, .null, .null, .int 0, .int 0, .int 0, .null, .null] := o7
  replace n7 : w7.2.1 = M + 115 := n7
  replace m7 : w7.2.2 = w0.2.2 + 421 := by omega
  obtain ⟨w8, E8, o8, c8, n8, m8, S8⟩ := mk_grd (n := 8) (N := 8) (m := 5) (M9 := 5) (k := 24) (lv := [some (.ref M)]) o7 (by rw [n7]; exact Nat.lt_add_of_pos_right (by decide)) (show 24 < 50 by decide) rfl (by decide) rfl (by decide) rfl
  rw [n7] at o8 c8 n8
  replace o8 : OB w8 M 10 [.int 0, .int 0, .int 0, .int (-1), .int 0, .int 0, .int 0, .int 0, .ref (M + 1), .ref (M + 2), .ref (M + 3), .ref (M + 4), .ref (M + 5), .ref (M + 6), .ref (M + 7), .ref (M + 8), .ref (M + 9), .ref (M + 10), .ref (M + 11), .ref (M + 12), .ref (M + 22), .ref (M + 32), .ref (M + 69), .ref (M + 106), .ref (M + 115), .null, .null, .int 0, .null, .null, .null, .null, .int 0, .int 0, .int 0, .int 0, .null, .null, .null, .null, .null, .null, .int 0, .null, .null, .int 0, .int 0, .int 0, .null, .null] := o8
  replace n8 : w8.2.1 = M + 124 := n8
  replace m8 : w8.2.2 = w0.2.2 + 469 := by omega
  have G8 : FA (fun q => q = M) w8 w8 := FA.rf _ _
  have G7 := S8.t G8
  have G6 := S7.t G7
  have G5 := S6.t G6
  have G4 := S5.t G5
  have G3 := S4.t G4
  have G2 := S3.t G3
  have G1 := S2.t G2
  have G0 := S1.t G1
  exact ⟨w8, fun K => by rw [E1, E2, E3, E4, E5, E6, E7, E8], o8, n8, m8, G0, (ia_of c1).fa G1 (by rw [n1]; exact lt_off (by decide)) (ne_off (by decide)), (la_of c2).fa G2 (by rw [n2]; exact lt_off (by decide)) (ne_off (by decide)), GRD.fa c3 G3 (by rw [n3]; exact lt_off (by decide)) (ne_offs (by decide)), GRD.fa c4 G4 (by rw [n4]; exact lt_off (by decide)) (ne_offs (by decide)), GRD.fa c5 G5 (by rw [n5]; exact lt_off (by decide)) (ne_offs (by decide)), GRD.fa c6 G6 (by rw [n6]; exact lt_off (by decide)) (ne_offs (by decide)), GRD.fa c7 G7 (by rw [n7]; exact lt_off (by decide)) (ne_offs (by decide)), GRD.fa c8 G8 (by rw [n8]; exact lt_off (by decide)) (ne_offs (by decide))⟩
theorem X11_s2 {w0 : Mem} {M : Nat} (o0 : OB w0 M 10 [.int 0, .int 0, .int 0, .int (-1), .int 0, .int 0, .int 0, .int 0, .ref (M + 1), .ref (M + 2), .ref (M + 3), .ref (M + 4), .ref (M + 5), .ref (M + 6), .ref (M + 7), .ref (M + 8), .ref (M + 9), .ref (M + 10), .ref (M + 11), .ref (M + 12), .ref (M + 22), .ref (M + 32), .ref (M + 69), .ref (M + 106), .ref (M + 115), .null, .null, .int 0, .null, .null, .null, .null, .int 0, .int 0, .int 0, .int 0, .null, .null, .null, .null, .null, .null, .int 0, .null, .null, .int 0, .int 0, .int 0, .null, .null]) (n0 : w0.2.1 = M + 124) :
    ∃ w', (∀ K : KT, (i_aload 0 (i_push (.int 8) (i_push (.int 100) (i_mnew (i_putf 10 25 (.array (.array .int)) (i_aload 0 (i_push (.int 8) (i_push (.int 100) (i_mnew (i_putf 10 26 (.array (.array .int)) (i_aload 0 (i_push (.int 20000) (i_newarr 0 (i_putf 10 28 (.array .int) (i_aload 0 (i_push (.int 20000) (i_newarr 0 (i_putf 10 29 (.array .int) (i_aload 0 (i_push (.int 20000) (i_newarr 0 (i_putf 10 30 (.array .int) (i_aload 0 (i_push (.int 20000) (i_newarr 1 (i_putf 10 31 (.array .long) (i_aload 0 (i_push (.int 12) (i_push (.int 3) (i_mnew (i_putf 10 36 (.array (.array .int)) (K)))))))))))))))))))))))))))))))) [] [some (.ref M)] w0 = K [] [some (.ref M)] w') ∧ OB w' M 10 [.int 0, .int 0, .int 0, .int (-1), .int 0, .int 0, .int 0, .int 0, .ref (M + 1), .ref (M + 2), .ref (M + 3), .ref (M + 4), .ref (M + 5), .ref (M + 6), .ref (M + 7), .ref (M + 8), .ref (M + 9), .ref (M + 10), .ref (M + 11), .ref (M + 12), .ref (M + 22), .ref (M + 32), .ref (M + 69), .ref (M + 106), .ref (M + 115), .ref (M + 124), .ref (M + 133), .int 0, .ref (M + 142), .ref (M + 143), .ref (M + 144), .ref (M + 145), .int 0, .int 0, .int 0, .int 0, .ref (M + 146), .null, .null, .null, .null, .null, .int 0, .null, .null, .int 0, .int 0, .int 0, .null, .null] ∧ w'.2.1 = M + 159 ∧ w'.2.2 = w0.2.2 + 81664 ∧ FA (fun q => q = M) w0 w' ∧ GRD w' (M + 124) 8 100 (fun _ _ => 0) ∧ GRD w' (M + 133) 8 100 (fun _ _ => 0) ∧ AR 0 w' (M + 142) 20000 (fun _ => 0) ∧ AR 0 w' (M + 143) 20000 (fun _ => 0) ∧ AR 0 w' (M + 144) 20000 (fun _ => 0) ∧ LA w' (M + 145) 20000 (fun _ => 0) ∧ GRD w' (M + 146) 12 3 (fun _ _ => 0) := by
  obtain ⟨w1, E1, o1, c1, n1, m1, S1⟩ := mk_grd (n := 8) (N := 8) (m := 100) (M9 := 100) (k := 25) (lv := [some (.ref M)]) o0 (by rw [n0]; exact Nat.lt_add_of_pos_right (by decide)) (show 25 < 50 by decide) rfl (by decide) rfl (by decide) rfl
  rw [n0] at o1 c1 n1
  replace o1 : OB w1 M 10 [.int 0, .int 0, .int 0, .int (-1), .int 0, .int 0, .int 0, .int 0, .ref (M + 1), .ref (M + 2), .ref (M + 3), .ref (M + 4), .ref (M + 5), .ref (M + 6), .ref (M + 7), .ref (M + 8), .ref (M + 9), .ref (M + 10), .ref (M + 11), .ref (M + 12), .ref (M + 22), .ref (M + 32), .ref (M + 69), .ref (M + 106), .ref (M + 115), .ref (M + 124), .null, .int 0, .null, .null, .null, .null, .int 0, .int 0, .int 0, .int 0, .null, .null, .null, .null, .null, .null, .int 0, .null, .null, .int 0, .int 0, .int 0, .null, .null] := o1
  replace n1 : w1.2.1 = M + 133 := n1
  replace m1 : w1.2.2 = w0.2.2 + 808 := m1
  obtain ⟨w2, E2, o2, c2, n2, m2, S2⟩ := mk_grd (n := 8) (N := 8) (m := 100) (M9 := 100) (k := 26) (lv := [some (.ref M)]) o1 (by rw [n1]; exact Nat.lt_add_of_pos_right (by decide)) (show 26 < 50 by decide) rfl (by decide) rfl (by decide) rfl
  rw [n1] at o2 c2 n2
  replace o2 : OB w2 M 10 [.int 0, .int 0, .int 0, .int (-1), .int 0, .int 0, .int 0, .int 0, .ref (M + 1), .ref (M + 2), .ref (M + 3), .ref (M + 4), .ref (M + 5), .ref (M + 6), .ref (M + 7), .ref (M + 8), .ref (M + 9), .ref (M + 10), .ref (M + 11), .ref (M + 12), .ref (M + 22), .ref (M + 32), .ref (M + 69), .ref (M + 106), .ref (M + 115), .ref (M + 124), .ref (M + 133), .int 0, .null, .null, .null, .null, .int 0, .int 0, .int 0, .int 0, .null, .null, .null, .null, .null, .null, .int 0, .null, .null, .int 0, .int 0, .int 0, .null, .null] := o2
  replace n2 : w2.2.1 = M + 142 := n2
  replace m2 : w2.2.2 = w0.2.2 + 1616 := by omega
  obtain ⟨w3, E3, o3, c3, n3, m3, S3⟩ := mk_arr (t := 0) (n := 20000) (N := 20000) (k := 28) (ty := (.array .int)) (lv := [some (.ref M)]) o2 (by rw [n2]; exact Nat.lt_add_of_pos_right (by decide)) (show 28 < 50 by decide) rfl (by decide) (fun _ => rfl) rfl
  rw [n2] at o3 c3 n3
  replace o3 : OB w3 M 10 [.int 0, .int 0, .int 0, .int (-1), .int 0, .int 0, .int 0, .int 0, .ref (M + 1), .ref (M + 2), .ref (M + 3), .ref (M + 4), .ref (M + 5), .ref (M + 6), .ref (M + 7), .ref (M + 8), .ref (M + 9), .ref (M + 10), .ref (M + 11), .ref (M + 12), .ref (M + 22), .ref (M + 32), .ref (M + 69), .ref (M + 106), .ref (M + 115), .ref (M + 124), .ref (M + 133), .int 0, .ref (M + 142), .null, .null, .null, .int 0, .int 0, .int 0, .int 0, .null, .null, .null, .null, .null, .null, .int 0, .null, .null, .int 0, .int 0, .int 0, .null, .null] := o3
  replace n3 : w3.2.1 = M + 143 := n3
  replace m3 : w3.2.2 = w0.2.2 + 21616 := by omega
  obtain ⟨w4, E4, o4, c4, n4, m4, S4⟩ := mk_arr (t := 0) (n := 20000) (N := 20000) (k := 29) (ty := (.array .int)) (lv := [some (.ref M)]) o3 (by rw [n3]; exact Nat.lt_add_of_pos_right (by decide)) (show 29 < 50 by decide) rfl (by decide) (fun _ => rfl) rfl
  rw [n3] at o4 c4 n4
  replace o4 : OB w4 M 10 [.int 0, .int 0, .int 0, .int (-1), .int 0, .int 0, .int 0, .int 0, .ref (M + 1), .ref (M + 2), .ref (M + 3), .ref (M + 4), .ref (M + 5), .ref (M + 6), .ref (M + 7), .ref (M + 8), .ref (M + 9), .ref (M + 10), .ref (M + 11), .ref (M + 12), .ref (M + 22), .ref (M + 32), .ref (M + 69), .ref (M + 106), .ref (M + 115), .ref (M + 124), .ref (M + 133), .int 0, .ref (M + 142), .ref (M + 143), .null, .null, .int 0, .int 0, .int 0, .int 0, .null, .null, .null, .null, .null, .null, .int 0, .null, .null, .int 0, .int 0, .int 0, .null, .null] := o4
  replace n4 : w4.2.1 = M + 144 := n4
  replace m4 : w4.2.2 = w0.2.2 + 41616 := by omega
  obtain ⟨w5, E5, o5, c5, n5, m5, S5⟩ := mk_arr (t := 0) (n := 20000) (N := 20000) (k := 30) (ty := (.array .int)) (lv := [some (.ref M)]) o4 (by rw [n4]; exact Nat.lt_add_of_pos_right (by decide)) (show 30 < 50 by decide) rfl (by decide) (fun _ => rfl) rfl
  rw [n4] at o5 c5 n5
  replace o5 : OB w5 M 10 [.int 0, .int 0, .int 0, .int (-1), .int 0, .int 0, .int 0, .int 0, .ref (M + 1), .ref (M + 2), .ref (M + 3), .ref (M + 4), .ref (M + 5), .ref (M + 6), .ref (M + 7), .ref (M + 8), .ref (M + 9), .ref (M + 10), .ref (M + 11), .ref (M + 12), .ref (M + 22), .ref (M + 32), .ref (M + 69), .ref (M + 106), .ref (M + 115), .ref (M + 124), .ref (M + 133), .int 0, .ref (M + 142), .ref (M + 143), .ref (M + 144), .null, .int 0, .int 0, .int 0, .int 0, .null, .null, .null, .null, .null, .null, .int 0, .null, .null, .int 0, .int 0, .int 0, .null, .null] := o5
  replace n5 : w5.2.1 = M + 145 := n5
  replace m5 : w5.2.2 = w0.2.2 + 61616 := by omega
  obtain ⟨w6, E6, o6, c6, n6, m6, S6⟩ := mk_arr (t := 1) (n := 20000) (N := 20000) (k := 31) (ty := (.array .long)) (lv := [some (.ref M)]) o5 (by rw [n5]; exact Nat.lt_add_of_pos_right (by decide)) (show 31 < 50 by decide) rfl (by decide) (fun _ => rfl) rfl
  rw [n5] at o6 c6 n6
  replace o6 : OB w6 M 10 [.int 0, .int 0, .int 0, .int (-1), .int 0, .int 0, .int 0, .int 0, .ref (M + 1), .ref (M + 2), .ref (M + 3), .ref (M + 4), .ref (M + 5), .ref (M + 6), .ref (M + 7), .ref (M + 8), .ref (M + 9), .ref (M + 10), .ref (M + 11), .ref (M + 12), .ref (M + 22), .ref (M + 32), .ref (M + 69), .ref (M + 106), .ref (M + 115), .ref (M + 124), .ref (M + 133), .int 0, .ref (M + 142), .ref (M + 143), .ref (M + 144), .ref (M + 145), .int 0, .int 0, .int 0, .int 0, .null, .null, .null, .null, .null, .null, .int 0, .null, .null, .int 0, .int 0, .int 0, .null, .null] := o6
  replace n6 : w6.2.1 = M + 146 := n6
  replace m6 : w6.2.2 = w0.2.2 + 81616 := by omega
  obtain ⟨w7, E7, o7, c7, n7, m7, S7⟩ := mk_grd (n := 12) (N := 12) (m := 3) (M9 := 3) (k := 36) (lv := [some (.ref M)]) o6 (by rw [n6]; exact Nat.lt_add_of_pos_right (by decide)) (show 36 < 50 by decide) rfl (by decide) rfl (by decide) rfl
  rw [n6] at o7 c7 n7
  replace o7 : OB w7 M 10 [.int 0, .int 0, .int 0, .int (-1), .int 0, .int 0, .int 0, .int 0, .ref (M + 1), .ref (M + 2), .ref (M + 3), .ref (M + 4), .ref (M + 5), .ref (M + 6), .ref (M + 7), .ref (M + 8), .ref (M + 9), .ref (M + 10), .ref (M + 11), .ref (M + 12), .ref (M + 22), .ref (M + 32), .ref (M + 69), .ref (M + 106), .ref (M + 115), .ref (M + 124), .ref (M + 133), .int 0, .ref (M + 142), .ref (M + 143), .ref (M + 144), .ref (M + 145), .int 0, .int 0, .int 0, .int 0, .ref (M + 146), .null, .null, .null, .null, .null, .int 0, .null, .null, .int 0, .int 0, .int 0, .null, .null] := o7
  replace n7 : w7.2.1 = M + 159 := n7
  replace m7 : w7.2.2 = w0.2.2 + 81664 := by omega
  have G7 : FA (fun q => q = M) w7 w7 := FA.rf _ _
  have G6 := S7.t G7
  have G5 := S6.t G6
  have G4 := S5.t G5
  have G3 := S4.t G4
  have G2 := S3.t G3
  have G1 := S2.t G2
  have G0 := S1.t G1
  exact ⟨w7, fun K => by rw [E1, E2, E3, E4, E5, E6, E7], o7, n7, m7, G0, GRD.fa c1 G1 (by rw [n1]; exact lt_off (by decide)) (ne_offs (by decide)), GRD.fa c2 G2 (by rw [n2]; exact lt_off (by decide)) (ne_offs (by decide)), (ia_of c3).fa G3 (by rw [n3]; exact lt_off (by decide)) (ne_off (by decide)), (ia_of c4).fa G4 (by rw [n4]; exact lt_off (by decide)) (ne_off (by decide)), (ia_of c5).fa G5 (by rw [n5]; exact lt_off (by decide)) (ne_off (by decide)), (la_of c6).fa G6 (by rw [n6]; exact lt_off (by decide)) (ne_off (by decide)), GRD.fa c7 G7 (by rw [n7]; exact lt_off (by decide)) (ne_offs (by decide))⟩
theorem X11_s3 {w0 : Mem} {M : Nat} (o0 : OB w0 M 10 [.int 0, .int 0, .int 0, .int (-1), .int 0, .int 0, .int 0, .int 0, .ref (M + 1), .ref (M + 2), .ref (M + 3), .ref (M + 4), .ref (M + 5), .ref (M + 6), .ref (M + 7), .ref (M + 8), .ref (M + 9), .ref (M + 10), .ref (M + 11), .ref (M + 12), .ref (M + 22), .ref (M + 32), .ref (M + 69), .ref (M + 106), .ref (M + 115), .ref (M + 124), .ref (M + 133), .int 0, .ref (M + 142), .ref (M + 143), .ref (M + 144), .ref (M + 145), .int 0, .int 0, .int 0, .int 0, .ref (M + 146), .null, .null, .null, .null, .null, .int 0, .null, .null, .int 0, .int 0, .int 0, .null, .null]) (n0 : w0.2.1 = M + 159) :
    ∃ w', (∀ K : KT, (i_aload 0 (i_push (.int 8) (i_push (.int 4) (i_mnew (i_putf 10 37 (.array (.array .int)) (i_aload 0 (i_push (.int 3) (i_push (.int 70) (i_mnew (i_putf 10 38 (.array (.array .int)) (i_aload 0 (i_push (.int 36) (i_newarr 0 (i_putf 10 39 (.array .int) (i_aload 0 (i_push (.int 4) (i_newarr 0 (i_putf 10 40 (.array .int) (i_aload 0 (i_push (.int 5) (i_newarr 0 (i_putf 10 41 (.array .int) (i_aload 0 (i_push (.int 100) (i_newarr 0 (i_putf 10 43 (.array .int) (i_aload 0 (i_push (.int 20000) (i_newarr 0 (i_putf 10 44 (.array .int) (i_aload 0 (i_push (.int 20000) (i_newarr 3 (i_putf 10 48 (.array .boolean) (i_aload 0 (i_push (.int 8) (i_newarr 0 (i_putf 10 49 (.array .int) (K))))))))))))))))))))))))))))))))))))))) [] [some (.ref M)] w0 = K [] [some (.ref M)] w') ∧ OB w' M 10 [.int 0, .int 0, .int 0, .int (-1), .int 0, .int 0, .int 0, .int 0, .ref (M + 1), .ref (M + 2), .ref (M + 3), .ref (M + 4), .ref (M + 5), .ref (M + 6), .ref (M + 7), .ref (M + 8), .ref (M + 9), .ref (M + 10), .ref (M + 11), .ref (M + 12), .ref (M + 22), .ref (M + 32), .ref (M + 69), .ref (M + 106), .ref (M + 115), .ref (M + 124), .ref (M + 133), .int 0, .ref (M + 142), .ref (M + 143), .ref (M + 144), .ref (M + 145), .int 0, .int 0, .int 0, .int 0, .ref (M + 146), .ref (M + 159), .ref (M + 168), .ref (M + 172), .ref (M + 173), .ref (M + 174), .int 0, .ref (M + 175), .ref (M + 176), .int 0, .int 0, .int 0, .ref (M + 177), .ref (M + 178)] ∧ w'.2.1 = M + 179 ∧ w'.2.2 = w0.2.2 + 40406 ∧ FA (fun q => q = M) w0 w' ∧ GRD w' (M + 159) 8 4 (fun _ _ => 0) ∧ GRD w' (M + 168) 3 70 (fun _ _ => 0) ∧ AR 0 w' (M + 172) 36 (fun _ => 0) ∧ AR 0 w' (M + 173) 4 (fun _ => 0) ∧ AR 0 w' (M + 174) 5 (fun _ => 0) ∧ AR 0 w' (M + 175) 100 (fun _ => 0) ∧ AR 0 w' (M + 176) 20000 (fun _ => 0) ∧ AR 3 w' (M + 177) 20000 (fun _ => 0) ∧ AR 0 w' (M + 178) 8 (fun _ => 0) := by
  obtain ⟨w1, E1, o1, c1, n1, m1, S1⟩ := mk_grd (n := 8) (N := 8) (m := 4) (M9 := 4) (k := 37) (lv := [some (.ref M)]) o0 (by rw [n0]; exact Nat.lt_add_of_pos_right (by decide)) (show 37 < 50 by decide) rfl (by decide) rfl (by decide) rfl
  rw [n0] at o1 c1 n1
  replace o1 : OB w1 M 10 [.int 0, .int 0, .int 0, .int (-1), .int 0, .int 0, .int 0, .int 0, .ref (M + 1), .ref (M + 2), .ref (M + 3), .ref (M + 4), .ref (M + 5), .ref (M + 6), .ref (M + 7), .ref (M + 8), .ref (M + 9), .ref (M + 10), .ref (M + 11), .ref (M + 12), .ref (M + 22), .ref (M + 32), .ref (M + 69), .ref (M + 106), .ref (M + 115), .ref (M + 124), .ref (M + 133), .int 0, .ref (M + 142), .ref (M + 143), .ref (M + 144), .ref (M + 145), .int 0, .int 0, .int 0, .int 0, .ref (M + 146), .ref (M + 159), .null, .null, .null, .null, .int 0, .null, .null, .int 0, .int 0, .int 0, .null, .null] := o1
  replace n1 : w1.2.1 = M + 168 := n1
  replace m1 : w1.2.2 = w0.2.2 + 40 := m1
  obtain ⟨w2, E2, o2, c2, n2, m2, S2⟩ := mk_grd (n := 3) (N := 3) (m := 70) (M9 := 70) (k := 38) (lv := [some (.ref M)]) o1 (by rw [n1]; exact Nat.lt_add_of_pos_right (by decide)) (show 38 < 50 by decide) rfl (by decide) rfl (by decide) rfl
  rw [n1] at o2 c2 n2
  replace o2 : OB w2 M 10 [.int 0, .int 0, .int 0, .int (-1), .int 0, .int 0, .int 0, .int 0, .ref (M + 1), .ref (M + 2), .ref (M + 3), .ref (M + 4), .ref (M + 5), .ref (M + 6), .ref (M + 7), .ref (M + 8), .ref (M + 9), .ref (M + 10), .ref (M + 11), .ref (M + 12), .ref (M + 22), .ref (M + 32), .ref (M + 69), .ref (M + 106), .ref (M + 115), .ref (M + 124), .ref (M + 133), .int 0, .ref (M + 142), .ref (M + 143), .ref (M + 144), .ref (M + 145), .int 0, .int 0, .int 0, .int 0, .ref (M + 146), .ref (M + 159), .ref (M + 168), .null, .null, .null, .int 0, .null, .null, .int 0, .int 0, .int 0, .null, .null] := o2
  replace n2 : w2.2.1 = M + 172 := n2
  replace m2 : w2.2.2 = w0.2.2 + 253 := by omega
  obtain ⟨w3, E3, o3, c3, n3, m3, S3⟩ := mk_arr (t := 0) (n := 36) (N := 36) (k := 39) (ty := (.array .int)) (lv := [some (.ref M)]) o2 (by rw [n2]; exact Nat.lt_add_of_pos_right (by decide)) (show 39 < 50 by decide) rfl (by decide) (fun _ => rfl) rfl
  rw [n2] at o3 c3 n3
  replace o3 : OB w3 M 10 [.int 0, .int 0, .int 0, .int (-1), .int 0, .int 0, .int 0, .int 0, .ref (M + 1), .ref (M + 2), .ref (M + 3), .ref (M + 4), .ref (M + 5), .ref (M + 6), .ref (M + 7), .ref (M + 8), .ref (M + 9), .ref (M + 10), .ref (M + 11), .ref (M + 12), .ref (M + 22), .ref (M + 32), .ref (M + 69), .ref (M + 106), .ref (M + 115), .ref (M + 124), .ref (M + 133), .int 0, .ref (M + 142), .ref (M + 143), .ref (M + 144), .ref (M + 145), .int 0, .int 0, .int 0, .int 0, .ref (M + 146), .ref (M + 159), .ref (M + 168), .ref (M + 172), .null, .null, .int 0, .null, .null, .int 0, .int 0, .int 0, .null, .null] := o3
  replace n3 : w3.2.1 = M + 173 := n3
  replace m3 : w3.2.2 = w0.2.2 + 289 := by omega
  obtain ⟨w4, E4, o4, c4, n4, m4, S4⟩ := mk_arr (t := 0) (n := 4) (N := 4) (k := 40) (ty := (.array .int)) (lv := [some (.ref M)]) o3 (by rw [n3]; exact Nat.lt_add_of_pos_right (by decide)) (show 40 < 50 by decide) rfl (by decide) (fun _ => rfl) rfl
  rw [n3] at o4 c4 n4
  replace o4 : OB w4 M 10 [.int 0, .int 0, .int 0, .int (-1), .int 0, .int 0, .int 0, .int 0, .ref (M + 1), .ref (M + 2), .ref (M + 3), .ref (M + 4), .ref (M + 5), .ref (M + 6), .ref (M + 7), .ref (M + 8), .ref (M + 9), .ref (M + 10), .ref (M + 11), .ref (M + 12), .ref (M + 22), .ref (M + 32), .ref (M + 69), .ref (M + 106), .ref (M + 115), .ref (M + 124), .ref (M + 133), .int 0, .ref (M + 142), .ref (M + 143), .ref (M + 144), .ref (M + 145), .int 0, .int 0, .int 0, .int 0, .ref (M + 146), .ref (M + 159), .ref (M + 168), .ref (M + 172), .ref (M + 173), .null, .int 0, .null, .null, .int 0, .int 0, .int 0, .null, .null] := o4
  replace n4 : w4.2.1 = M + 174 := n4
  replace m4 : w4.2.2 = w0.2.2 + 293 := by omega
  obtain ⟨w5, E5, o5, c5, n5, m5, S5⟩ := mk_arr (t := 0) (n := 5) (N := 5) (k := 41) (ty := (.array .int)) (lv := [some (.ref M)]) o4 (by rw [n4]; exact Nat.lt_add_of_pos_right (by decide)) (show 41 < 50 by decide) rfl (by decide) (fun _ => rfl) rfl
  rw [n4] at o5 c5 n5
  replace o5 : OB w5 M 10 [.int 0, .int 0, .int 0, .int (-1), .int 0, .int 0, .int 0, .int 0, .ref (M + 1), .ref (M + 2), .ref (M + 3), .ref (M + 4), .ref (M + 5), .ref (M + 6), .ref (M + 7), .ref (M + 8), .ref (M + 9), .ref (M + 10), .ref (M + 11), .ref (M + 12), .ref (M + 22), .ref (M + 32), .ref (M + 69), .ref (M + 106), .ref (M + 115), .ref (M + 124), .ref (M + 133), .int 0, .ref (M + 142), .ref (M + 143), .ref (M + 144), .ref (M + 145), .int 0, .int 0, .int 0, .int 0, .ref (M + 146), .ref (M + 159), .ref (M + 168), .ref (M + 172), .ref (M + 173), .ref (M + 174), .int 0, .null, .null, .int 0, .int 0, .int 0, .null, .null] := o5
  replace n5 : w5.2.1 = M + 175 := n5
  replace m5 : w5.2.2 = w0.2.2 + 298 := by omega
  obtain ⟨w6, E6, o6, c6, n6, m6, S6⟩ := mk_arr (t := 0) (n := 100) (N := 100) (k := 43) (ty := (.array .int)) (lv := [some (.ref M)]) o5 (by rw [n5]; exact Nat.lt_add_of_pos_right (by decide)) (show 43 < 50 by decide) rfl (by decide) (fun _ => rfl) rfl
  rw [n5] at o6 c6 n6
  replace o6 : OB w6 M 10 [.int 0, .int 0, .int 0, .int (-1), .int 0, .int 0, .int 0, .int 0, .ref (M + 1), .ref (M + 2), .ref (M + 3), .ref (M + 4), .ref (M + 5), .ref (M + 6), .ref (M + 7), .ref (M + 8), .ref (M + 9), .ref (M + 10), .ref (M + 11), .ref (M + 12), .ref (M + 22), .ref (M + 32), .ref (M + 69), .ref (M + 106), .ref (M + 115), .ref (M + 124), .ref (M + 133), .int 0, .ref (M + 142), .ref (M + 143), .ref (M + 144), .ref (M + 145), .int 0, .int 0, .int 0, .int 0, .ref (M + 146), .ref (M + 159), .ref (M + 168), .ref (M + 172), .ref (M + 173), .ref (M + 174), .int 0, .ref (M + 175), .null, .int 0, .int 0, .int 0, .null, .null] := o6
  replace n6 : w6.2.1 = M + 176 := n6
  replace m6 : w6.2.2 = w0.2.2 + 398 := by omega
  obtain ⟨w7, E7, o7, c7, n7, m7, S7⟩ := mk_arr (t := 0) (n := 20000) (N := 20000) (k := 44) (ty := (.array .int)) (lv := [some (.ref M)]) o6 (by rw [n6]; exact Nat.lt_add_of_pos_right (by decide)) (show 44 < 50 by decide) rfl (by decide) (fun _ => rfl) rfl
  rw [n6] at o7 c7 n7
  replace o7 : OB w7 M 10 [.int 0, .int 0, .int 0, .int (-1), .int 0, .int 0, .int 0, .int 0, .ref (M + 1), .ref (M + 2), .ref (M + 3), .ref (M + 4), .ref (M + 5), .ref (M + 6), .ref (M + 7), .ref (M + 8), .ref (M + 9), .ref (M + 10), .ref (M + 11), .ref (M + 12), .ref (M + 22), .ref (M + 32), .ref (M + 69), .ref (M + 106), .ref (M + 115), .ref (M + 124), .ref (M + 133), .int 0, .ref (M + 142), .ref (M + 143), .ref (M + 144), .ref (M + 145), .int 0, .int 0, .int 0, .int 0, .ref (M + 146), .ref (M + 159), .ref (M + 168), .ref (M + 172), .ref (M + 173), .ref (M + 174), .int 0, .ref (M + 175), .ref (M + 176), .int 0, .int 0, .int 0, .null, .null] := o7
  replace n7 : w7.2.1 = M + 177 := n7
  replace m7 : w7.2.2 = w0.2.2 + 20398 := by omega
  obtain ⟨w8, E8, o8, c8, n8, m8, S8⟩ := mk_arr (t := 3) (n := 20000) (N := 20000) (k := 48) (ty := (.array .boolean)) (lv := [some (.ref M)]) o7 (by rw [n7]; exact Nat.lt_add_of_pos_right (by decide)) (show 48 < 50 by decide) rfl (by decide) (fun _ => rfl) rfl
  rw [n7] at o8 c8 n8
  replace o8 : OB w8 M 10 [.int 0, .int 0, .int 0, .int (-1), .int 0, .int 0, .int 0, .int 0, .ref (M + 1), .ref (M + 2), .ref (M + 3), .ref (M + 4), .ref (M + 5), .ref (M + 6), .ref (M + 7), .ref (M + 8), .ref (M + 9), .ref (M + 10), .ref (M + 11), .ref (M + 12), .ref (M + 22), .ref (M + 32), .ref (M + 69), .ref (M + 106), .ref (M + 115), .ref (M + 124), .ref (M + 133), .int 0, .ref (M + 142), .ref (M + 143), .ref (M + 144), .ref (M + 145), .int 0, .int 0, .int 0, .int 0, .ref (M + 146), .ref (M + 159), .ref (M + 168), .ref (M + 172), .ref (M + 173), .ref (M + 174), .int 0, .ref (M + 175), .ref (M + 176), .int 0, .int 0, .int 0, .ref (M + 177), .null] := o8
  replace n8 : w8.2.1 = M + 178 := n8
  replace m8 : w8.2.2 = w0.2.2 + 40398 := by omega
  obtain ⟨w9, E9, o9, c9, n9, m9, S9⟩ := mk_arr (t := 0) (n := 8) (N := 8) (k := 49) (ty := (.array .int)) (lv := [some (.ref M)]) o8 (by rw [n8]; exact Nat.lt_add_of_pos_right (by decide)) (show 49 < 50 by decide) rfl (by decide) (fun _ => rfl) rfl
  rw [n8] at o9 c9 n9
  replace o9 : OB w9 M 10 [.int 0, .int 0, .int 0, .int (-1), .int 0, .int 0, .int 0, .int 0, .ref (M + 1), .ref (M + 2), .ref (M + 3), .ref (M + 4), .ref (M + 5), .ref (M + 6), .ref (M + 7), .ref (M + 8), .ref (M + 9), .ref (M + 10), .ref (M + 11), .ref (M + 12), .ref (M + 22), .ref (M + 32), .ref (M + 69), .ref (M + 106), .ref (M + 115), .ref (M + 124), .ref (M + 133), .int 0, .ref (M + 142), .ref (M + 143), .ref (M + 144), .ref (M + 145), .int 0, .int 0, .int 0, .int 0, .ref (M + 146), .ref (M + 159), .ref (M + 168), .ref (M + 172), .ref (M + 173), .ref (M + 174), .int 0, .ref (M + 175), .ref (M + 176), .int 0, .int 0, .int 0, .ref (M + 177), .ref (M + 178)] := o9
  replace n9 : w9.2.1 = M + 179 := n9
  replace m9 : w9.2.2 = w0.2.2 + 40406 := by omega
  have G9 : FA (fun q => q = M) w9 w9 := FA.rf _ _
  have G8 := S9.t G9
  have G7 := S8.t G8
  have G6 := S7.t G7
  have G5 := S6.t G6
  have G4 := S5.t G5
  have G3 := S4.t G4
  have G2 := S3.t G3
  have G1 := S2.t G2
  have G0 := S1.t G1
  exact ⟨w9, fun K => by rw [E1, E2, E3, E4, E5, E6, E7, E8, E9], o9, n9, m9, G0, GRD.fa c1 G1 (by rw [n1]; exact lt_off (by decide)) (ne_offs (by decide)), GRD.fa c2 G2 (by rw [n2]; exact lt_off (by decide)) (ne_offs (by decide)), (ia_of c3).fa G3 (by rw [n3]; exact lt_off (by decide)) (ne_off (by decide)), (ia_of c4).fa G4 (by rw [n4]; exact lt_off (by decide)) (ne_off (by decide)), (ia_of c5).fa G5 (by rw [n5]; exact lt_off (by decide)) (ne_off (by decide)), (ia_of c6).fa G6 (by rw [n6]; exact lt_off (by decide)) (ne_off (by decide)), (ia_of c7).fa G7 (by rw [n7]; exact lt_off (by decide)) (ne_off (by decide)), (ia_of c8).fa G8 (by rw [n8]; exact lt_off (by decide)) (ne_off (by decide)), (ia_of c9).fa G9 (by rw [n9]; exact lt_off (by decide)) (ne_off (by decide))⟩
theorem X11_init_sp {g : GE} (hg : FU g) {w : Mem} {M : Nat} (o : OB w M 10 [.int 0, .int 0, .int 0, .int 0, .int 0, .int 0, .int 0, .int 0, .null, .null, .null, .null, .null, .null, .null, .null, .null, .null, .null, .null, .null, .null, .null, .null, .null, .null, .null, .int 0, .null, .null, .null, .null, .int 0, .int 0, .int 0, .int 0, .null, .null, .null, .null, .null, .null, .int 0, .null, .null, .int 0, .int 0, .int 0, .null, .null]) (n : w.2.1 = M + 1) :
    ∃ w' x', fX11_init g [.ref M] w = some (.inl none, w') ∧ RI w' M 0 0 (-1) (fun _ => 0) (fun _ => 0) dd0 te0 (fun _ => te0) x' ∧ w'.2.1 = M + 179 ∧ w'.2.2 = w.2.2 + 123183 ∧ FA (fun q => q = M) w w' := by
  have s0 := sf_i o 3 (-1) (by decide)
  obtain ⟨w0, hw0⟩ : ∃ z, mset w M (.inr (10, [.int 0, .int 0, .int 0, .int (-1), .int 0, .int 0, .int 0, .int 0, .null, .null, .null, .null, .null, .null, .null, .null, .null, .null, .null, .null, .null, .null, .null, .null, .null, .null, .null, .int 0, .null, .null, .null, .null, .int 0, .int 0, .int 0, .int 0, .null, .null, .null, .null, .null, .null, .int 0, .null, .null, .int 0, .int 0, .int 0, .null, .null])) = z := ⟨_, rfl⟩
  have s0' : sf w M 10 3 .int (.int (-1)) = some w0 := by rw [s0, ← hw0]; rfl
  have o0 : OB w0 M 10 [.int 0, .int 0, .int 0, .int (-1), .int 0, .int 0, .int 0, .int 0, .null, .null, .null, .null, .null, .null, .null, .null, .null, .null, .null, .null, .null, .null, .null, .null, .null, .null, .null, .int 0, .null, .null, .null, .null, .int 0, .int 0, .int 0, .int 0, .null, .null, .null, .null, .null, .null, .int 0, .null, .null, .int 0, .int 0, .int 0, .null, .null] := hw0 ▸ ms_at _ _ _
  have F0 : Fr (fun q => q = M) w w0 := hw0 ▸ Fr.ms _ _ rfl
  have n0 : w0.2.1 = M + 1 := by rw [F0.2]; exact n
  have m0 : w0.2.2 = w.2.2 := by rw [F0.2]
  clear s0
  obtain ⟨w1, E1, o1, n1, m1, S1, a1, a2, a3, a4, a5, a6, a7, a8, a9⟩ := X11_s0 o0 n0
  obtain ⟨w2, E2, o2, n2, m2, S2, a10, a11, a12, a22, a32, a69, a106, a115⟩ := X11_s1 o1 n1
  obtain ⟨w3, E3, o3, n3, m3, S3, a124, a133, a142, a143, a144, a145, a146⟩ := X11_s2 o2 n2
  obtain ⟨w4, E4, o4, n4, m4, S4, a159, a168, a172, a173, a174, a175, a176, a177, a178⟩ := X11_s3 o3 n3
  have G4 : FA (fun q => q = M) w4 w4 := FA.rf _ _
  have G3 := S4.t G4
  have G2 := S3.t G3
  have G1 := S2.t G2
  have G0 := S1.t G1
  replace a1 := a1.fa G1 (by rw [n1]; exact lt_off (by decide)) (ne_off (by decide))
  replace a2 := a2.fa G1 (by rw [n1]; exact lt_off (by decide)) (ne_off (by decide))
  replace a3 := a3.fa G1 (by rw [n1]; exact lt_off (by decide)) (ne_off (by decide))
  replace a4 := a4.fa G1 (by rw [n1]; exact lt_off (by decide)) (ne_off (by decide))
  replace a5 := a5.fa G1 (by rw [n1]; exact lt_off (by decide)) (ne_off (by decide))
  replace a6 := a6.fa G1 (by rw [n1]; exact lt_off (by decide)) (ne_off (by decide))
  replace a7 := a7.fa G1 (by rw [n1]; exact lt_off (by decide)) (ne_off (by decide))
  replace a8 := a8.fa G1 (by rw [n1]; exact lt_off (by decide)) (ne_off (by decide))
  replace a9 := a9.fa G1 (by rw [n1]; exact lt_off (by decide)) (ne_off (by decide))
  replace a10 := a10.fa G2 (by rw [n2]; exact lt_off (by decide)) (ne_off (by decide))
  replace a11 := a11.fa G2 (by rw [n2]; exact lt_off (by decide)) (ne_off (by decide))
  replace a12 := GRD.fa a12 G2 (by rw [n2]; exact lt_off (by decide)) (ne_offs (by decide))
  replace a22 := GRD.fa a22 G2 (by rw [n2]; exact lt_off (by decide)) (ne_offs (by decide))
  replace a32 := GRD.fa a32 G2 (by rw [n2]; exact lt_off (by decide)) (ne_offs (by decide))
  replace a69 := GRD.fa a69 G2 (by rw [n2]; exact lt_off (by decide)) (ne_offs (by decide))
  replace a106 := GRD.fa a106 G2 (by rw [n2]; exact lt_off (by decide)) (ne_offs (by decide))
  replace a115 := GRD.fa a115 G2 (by rw [n2]; exact lt_off (by decide)) (ne_offs (by decide))
  replace a124 := GRD.fa a124 G3 (by rw [n3]; exact lt_off (by decide)) (ne_offs (by decide))
  replace a133 := GRD.fa a133 G3 (by rw [n3]; exact lt_off (by decide)) (ne_offs (by decide))
  replace a142 := a142.fa G3 (by rw [n3]; exact lt_off (by decide)) (ne_off (by decide))
  replace a143 := a143.fa G3 (by rw [n3]; exact lt_off (by decide)) (ne_off (by decide))
  replace a144 := a144.fa G3 (by rw [n3]; exact lt_off (by decide)) (ne_off (by decide))
  replace a145 := a145.fa G3 (by rw [n3]; exact lt_off (by decide)) (ne_off (by decide))
  replace a146 := GRD.fa a146 G3 (by rw [n3]; exact lt_off (by decide)) (ne_offs (by decide))
  have O4 : MO w4 M (va_up (fun _ => 0) 3 (-1)) := o4
  -- one row
  have s5 := arwc a4 6 6 rfl (by decide) (by decide) 1
  have a4' := a4.up 6 1
  obtain ⟨w5, hw5⟩ : ∃ z, wi w4 0 (M + 4) 6 1 = z := ⟨_, rfl⟩
  rw [hw5] at s5 a4'
  have F5 : Fr (fun q => q = M + 4) w4 w5 := hw5 ▸ Fr.wi _ _ _ _ rfl
  have O5 := F5.at O4 (by omega)
  have D5 : RD w5 M dd0 := by
    refine ⟨a4'.cg fun i hi => ?_, ⟨_, a6.fr F5 (by omega), fun h hh => rfl⟩, ⟨_, a8.fr F5 (by omega), fun h hh => rfl⟩, ⟨_, a10.fr F5 (by omega), fun h hh => rfl⟩, ⟨_, a22.fr F5 (fun i hi => by omega), fun k hk => absurd hk (by show ¬ k < 0; omega)⟩, ⟨_, a69.fr F5 (fun i hi => by omega), fun k hk => absurd hk (by show ¬ k < 0; omega)⟩, ⟨_, a115.fr F5 (fun i hi => by omega), fun k hk => absurd hk (by show ¬ k < 0; omega)⟩, ⟨_, a133.fr F5 (fun i hi => by omega), fun k hk => absurd hk (by show ¬ k < 0; omega)⟩⟩
    have : i = 0 ∨ i = 1 ∨ i = 2 ∨ i = 3 ∨ i = 4 ∨ i = 5 ∨ i = 6 := by omega
    rcases this with z | z | z | z | z | z | z <;> subst z <;> rfl
  have S5 : RSC w5 M := ⟨⟨_, a172.fr F5 (by omega)⟩, ⟨_, a173.fr F5 (by omega)⟩, ⟨_, a174.fr F5 (by omega)⟩⟩
  have T5 : RT w5 M dd0 0 := ⟨⟨_, a142.fr F5 (by omega), fun i hi => by cases hi⟩, ⟨_, a143.fr F5 (by omega), fun i hi => by cases hi⟩, ⟨_, a144.fr F5 (by omega), fun i hi => by cases hi⟩, ⟨_, a145.fr F5 (by omega), fun i hi => by cases hi⟩⟩
  obtain ⟨w6, x6, r1, r2, r3, r4, r5, r6, r7⟩ := laysReadings_sp hg dd0_wf O5 D5 S5 T5
  have F56 : Fr (fun q => q = M ∨ q = M + 4 ∨ rg (M + 142) (M + 146) q ∨ rg (M + 172) (M + 175) q) w4 w6 := (F5.mn fun a h => Or.inr (Or.inl h)).tr (r7.mn fun a h => by unfold SL rg at *; omega)
  have hx : ∀ j, j ≠ 27 → j ≠ 42 → j ≠ 3 → x6 j = 0 := fun j h1 h2 h3 => by rw [r3 j h1 h2, va_ne h3]
  have P6 : RP w6 M := ⟨⟨_, a3.fr F56 (by unfold rg; omega)⟩, ⟨_, a5.fr F56 (by unfold rg; omega)⟩, ⟨_, a7.fr F56 (by unfold rg; omega)⟩, ⟨_, a9.fr F56 (by unfold rg; omega)⟩, ⟨_, a11.fr F56 (by unfold rg; omega)⟩, ⟨_, a12.fr F56 (fun i hi => by unfold rg; omega)⟩, ⟨_, a32.fr F56 (fun i hi => by unfold rg; omega)⟩, ⟨_, a106.fr F56 (fun i hi => by unfold rg; omega)⟩, ⟨_, a124.fr F56 (fun i hi => by unfold rg; omega)⟩⟩
  have e62 : w6.2 = w4.2 := F56.2
  refine ⟨w6, x6, ?_, ⟨r2, ⟨hx 1 (by decide) (by decide) (by decide), by rw [r3 3 (by decide) (by decide)]; rfl, r4, hx 32 (by decide) (by decide) (by decide), hx 33 (by decide) (by decide) (by decide), hx 34 (by decide) (by decide) (by decide)⟩, ⟨a1.fr F56 (by unfold rg; omega), D5.fr r7 (fun i h1 h2 => by unfold SL rg; omega), r5, a146.fr F56 (fun i hi => by unfold rg; omega), a159.fr F56 (fun i hi => by unfold rg; omega), ⟨_, a168.fr F56 (fun i hi => by unfold rg; omega), fun i hi => absurd hi (Nat.not_lt_zero _)⟩, P6⟩, ⟨r6, ⟨_, a175.fr F56 (by unfold rg; omega)⟩, ⟨_, a176.fr F56 (by unfold rg; omega)⟩, ⟨_, a177.fr F56 (by unfold rg; omega)⟩, ⟨_, a178.fr F56 (by unfold rg; omega)⟩⟩, a2.fr F56 (by unfold rg; omega)⟩, by rw [e62]; exact n4, by rw [e62]; omega, ?_⟩
  · show bX11_init_0 g (fun _ _ _ _ => none) [] [some (.ref M)] w = _
    have c0 : ∀ K : KT, i_aload 0 (i_obj (i_aload 0 (i_push (.int (-1)) (i_putf 10 3 .int K)))) [] [some (.ref M)] w = K [] [some (.ref M)] w0 := fun K => by
      simp [i_aload, i_obj, i_push, i_putf, s0']
    unfold bX11_init_0
    rw [c0, E1, E2, E3, E4]
    clear c0 E1 E2 E3 E4
    simp [i_aload, i_getf, gf_eq O4, mg_11, i_push, i_iastore, s5, cvk_0 O5 r1, i_return, Option.toList]
  · refine ⟨fun q hq hne => (F56.1 q ?_).trans ((G0.1 q (by omega) hne).trans (F0.1 q hne)), by rw [e62, n4]; omega, by rw [e62]; omega⟩
    unfold rg
    omega
