/-! ===== places ===== -/
def SS (g : GE) (w : Mem) (S tx D : Nat) (T : Nat → Nat) (n a : Nat) (δ : DE) : Prop := (∃ s c k p, SO w S tx n a s c D k p) ∧ TXT w tx T ∧ DEED g w D δ
def LY (S tx D : Nat) : Prop := S ≠ tx ∧ (∀ i, i < 35 → ¬ D + i = S) ∧ (∀ i, i < 35 → ¬ D + i = tx)
abbrev FS (S D : Nat) : Nat → Prop := fun q => q = S ∨ rg D (D + 35) q
def prI (r : PR) : Int32 := match r with
  | .inl _ => 0
  | .inr _ => 1
def SX (g : GE) (w : Mem) (S tx D : Nat) (T : Nat → Nat) (n : Nat) (r : PR) : Prop := match r with
  | .inl e => (∃ a s c, SO w S tx n a s c D (nI e.1) (nI e.2)) ∧ ∃ δ', DEED g w D δ'
  | .inr x => SS g w S tx D T n x.2 x.1
theorem LY.s {S tx D : Nat} (h : LY S tx D) : ¬ rg D (D + 35) S := fun ⟨q1, q2⟩ => h.2.1 (S - D) (by omega) (by omega)
theorem LY.t {S tx D : Nat} (h : LY S tx D) : ¬ rg D (D + 35) tx := fun ⟨q1, q2⟩ => h.2.2 (tx - D) (by omega) (by omega)
theorem readBlot_sp {g : GE} (hg : GD g) {w : Mem} {S tx n a D kd : Nat} {K : Int32} {T : Nat → Nat} {δ : DE} (hL : LY S tx D) (h : SS g w S tx D T n a δ) (ha : a < n) (hn : n ≤ 600) (hQ : PQ δ) (h5 : δ.1 5 < 36) (h1 : 1 ≤ δ.1 2) (hk : kd ≤ 2) (hK : nI kd = K) :
    ∃ w', fX6_readBlot g [.ref S, .int K] w = some (.inl (some (.int (prI (blotP T n kd δ a)))), w') ∧ SX g w' S tx D T n (blotP T n kd δ a) ∧ Fr (FS S D) w w' := by
  have hg1 := hg.1
  obtain ⟨⟨s0, c0, k, p, hO⟩, hT, hD⟩ := h
  have a0 := hD.1
  obtain ⟨N, hN⟩ : ∃ N, g.1 = N + 3 := ⟨g.1 - 3, by omega⟩
  obtain ⟨⟨q0, q1, q2, q3, q4, q5⟩, -, -, -, q6, -⟩ := id hQ
  unfold blotP
  by_cases y : 8 ≤ δ.1 3
  · rw [if_pos y]
    have e0 : ¬ nI (δ.1 3) < 8 := nI_nlt (b := 8) y (by omega)
    obtain ⟨w1, p1, p2, p3⟩ := fail_sp (g := g) hO 3 (nI a)
    refine ⟨w1, ?_, ⟨⟨_, _, _, p2⟩, δ, hD.fr p3 hL.2.1⟩, p3.mn fun q h => Or.inl h⟩
    show _ = some (Sum.inl (some (Value.int 0)), w1)
    simp [fX6_readBlot, kX6_readBlot, ent, entp, jX6_readBlot, bX6_readBlot_0, bX6_readBlot_1, bX6_readBlot_2, i_aaload, i_aload, i_dup, i_getf, i_iadd, i_iclt, i_icne, i_ifeq, i_ifne, i_iload, i_istore, i_jmp, i_push, i_putf, i_zreturn, msk, lset1, lset2, clr, Value.category, Option.toList, List.cons_append, List.nil_append, List.length_cons, List.length_nil, hN, gf_eq hO, gf_eq a0, e0, cvk_2 hO p1]
  · rw [if_neg y]
    have e0 : nI (δ.1 3) < 8 := nI_lt (b := 8) (by omega) (by decide)
    obtain ⟨w1, hw1⟩ : ∃ z, mset w S (.inr (6, [.ref tx, .int (nI n), .int (nI (a + 1)), .int s0, .long c0, .ref D, .int k, .int p])) = z := ⟨_, rfl⟩
    have o1 : SO w1 S tx n (a + 1) s0 c0 D k p := hw1 ▸ ms_at _ _ _
    have F1 : Fr (fun q => q = S) w w1 := hw1 ▸ Fr.ms _ _ rfl
    have T1 := hT.fr F1 (fun q => hL.1 q.symm)
    obtain ⟨w2, r2, o2, F2⟩ := skipBlanks_sp hg1 o1 T1 hL.1 (by omega) hn
    have T2 := T1.fr F2 (fun q => hL.1 q.symm)
    have h7 : sb T n (a + 1) ≤ n := ru_n (by omega)
    generalize sb T n (a + 1) = st at *
    obtain ⟨w3, r3, o3, F3⟩ := readNumber_sp hg1 o2 T2 hL.1 h7 hn (mx := 9) (by decide)
    have F13 := (F1.tr F2).tr F3
    have D3 := hD.fr F13 hL.2.1
    have a3 := D3.1
    cases hr : numP T n 9 st with
    | inl e =>
      rw [hr] at r3 o3
      have r3' : fX6_readNumber g [.ref S, .int 9] w2 = some (.inl (some (.int (-1))), w3) := r3
      refine ⟨w3, ?_, ⟨⟨_, _, _, o3⟩, δ, D3⟩, F13.mn fun q h => Or.inl h⟩
      show _ = some (Sum.inl (some (Value.int 0)), w3)
      clear o3
      simp [fX6_readBlot, kX6_readBlot, ent, entp, jX6_readBlot, bX6_readBlot_0, bX6_readBlot_1, bX6_readBlot_2, i_aaload, i_aload, i_dup, i_getf, i_iadd, i_iclt, i_icne, i_ifeq, i_ifne, i_iload, i_istore, i_jmp, i_push, i_putf, i_zreturn, msk, lset1, lset2, clr, Value.category, Option.toList, List.cons_append, List.nil_append, List.length_cons, List.length_nil, hN, gf_eq hO, gf_eq a0, e0, sf_i hO, nI_1, hw1, cvk_0 o1 r2, gf_eq o2, cvk_1 o2 r3']
    | inr x =>
      obtain ⟨wd, e⟩ := x
      rw [hr] at r3 o3
      have hx := numP_in hr h7
      have r3' : fX6_readNumber g [.ref S, .int 9] w2 = some (.inl (some (.int (nI wd))), w3) := r3
      have o3' : SO w3 S tx n e s0 c0 D k p := o3
      clear o3 r3
      have rd := D3.2.2.2.2.2.2.2.2.2.1.rd (j := δ.1 3) (by omega) (by decide)
      have ob := D3.2.2.2.2.2.2.2.2.2.2.2.1 (δ.1 3) (by omega)
      have ov := D3.2.2.2.2.2.2.2.2.2.2.2.2 (δ.1 3) (by omega)
      obtain ⟨w4, r4, B4, F4⟩ := fillX_fin hg1 (H := δ.1 0) (wf := δ.2 0) (kd := kd) (wd := wd) (K := K) (W := nI wd) a3 rfl rfl D3.2.2.1 (fun h hh => ⟨rfl, by have := (q6 h hh).2.1; omega⟩) q0 ob ov hk hx.1 (by omega) (by omega) (by omega) (by omega) (by omega) hK rfl
      rw [← hK] at B4
      have D4 := D3.fl (b := δ.1 3) (by omega) F4 B4
      have F4' : Fr (rg D (D + 35)) w3 w4 := F4.mn fun q h => by unfold rg; omega
      have O4 := F4'.at o3' hL.s
      show ∃ w', fX6_readBlot g [.ref S, .int K] w = some (.inl (some (.int (prI (if (flL (δ.1 0) (δ.2 0) kd wd).length = 0 then Sum.inl (2, st) else .inr (addBl δ kd wd (flL (δ.1 0) (δ.2 0) kd wd), e))))), w') ∧ SX g w' S tx D T n (if (flL (δ.1 0) (δ.2 0) kd wd).length = 0 then Sum.inl (2, st) else .inr (addBl δ kd wd (flL (δ.1 0) (δ.2 0) kd wd), e)) ∧ Fr (FS S D) w w'
      have ll := flL_le (δ.1 0) (δ.2 0) kd wd
      generalize flL (δ.1 0) (δ.2 0) kd wd = l at *
      obtain ⟨δ1, hδ1⟩ : ∃ z, dT (dT (dT (dV δ (δ.1 3) l) 8 (δ.1 3) kd) 9 (δ.1 3) wd) 10 (δ.1 3) l.length = z := ⟨_, rfl⟩
      rw [hδ1] at D4
      have c1 : δ1.1 = δ.1 := by rw [← hδ1]; rfl
      have c10 : δ1.2 10 (δ.1 3) = l.length := by rw [← hδ1, dT_2, if_pos rfl, if_pos rfl]
      have c8 : δ1.2 8 (δ.1 3) = kd := by rw [← hδ1, dT_2, if_neg (by decide), dT_2, if_neg (by decide), dT_2, if_pos rfl, if_pos rfl]
      obtain ⟨w5, r5, D5, F5⟩ := keepBlot_sp hg1 D4 (by rw [c1]; omega) (by rw [c1]; omega) (by rw [c1]; omega) (by rw [c1]; omega) (by rw [c1, c10]; exact ll)
      have a4 := D4.1
      rw [c1, c10] at r5 D5
      rw [c1] at a4
      have O5 := F5.at O4 hL.s
      have FF : Fr (FS S D) w w5 := ((F13.mn fun q h => Or.inl h).tr (F4'.mn fun q h => Or.inr h)).tr (F5.mn fun q h => Or.inr h)
      by_cases z : l.length = 0
      · rw [if_pos z] at r5 ⊢
        obtain ⟨w6, p1, p2, p3⟩ := fail_sp (g := g) O5 2 (nI st)
        refine ⟨w6, ?_, ⟨⟨_, _, _, p2⟩, _, D5.fr p3 hL.2.1⟩, FF.tr (p3.mn fun q h => Or.inl h)⟩
        show _ = some (Sum.inl (some (Value.int 0)), w6)
        clear D5 D4 B4 FF
        simp [fX6_readBlot, kX6_readBlot, ent, entp, jX6_readBlot, bX6_readBlot_0, bX6_readBlot_1, bX6_readBlot_2, i_aaload, i_aload, i_dup, i_getf, i_iadd, i_iclt, i_icne, i_ifeq, i_ifne, i_iload, i_istore, i_jmp, i_push, i_putf, i_zreturn, msk, lset1, lset2, clr, Value.category, Option.toList, List.cons_append, List.nil_append, List.length_cons, List.length_nil, hN, gf_eq hO, gf_eq a0, e0, sf_i hO, nI_1, hw1, cvk_0 o1 r2, gf_eq o2, cvk_1 o2 r3', nI_m1n (i := wd) (by omega), gf_eq o3', gf_eq a3, rd, va_rf, cvk_3 a3 r4, gf_eq O4, cvk_0 a4 r5, cvk_2 O5 p1]
      · rw [if_neg z] at r5 D5 ⊢
        have c20 : δ1.2 (20 + δ.1 3) 0 = l.getD 0 0 := by
          rw [← hδ1, dT_e (by omega), dT_e (by omega), dT_e (by omega), dV_2, if_pos rfl, if_pos (by omega)]
        rw [c8, c20, ← hδ1] at D5
        refine ⟨w5, ?_, ⟨⟨_, _, _, _, O5⟩, ?_, D5⟩, FF⟩
        · show _ = some (Sum.inl (some (Value.int 1)), w5)
          clear D5 D4 B4 FF
          simp [fX6_readBlot, kX6_readBlot, ent, entp, jX6_readBlot, bX6_readBlot_0, bX6_readBlot_1, bX6_readBlot_2, i_aaload, i_aload, i_dup, i_getf, i_iadd, i_iclt, i_icne, i_ifeq, i_ifne, i_iload, i_istore, i_jmp, i_push, i_putf, i_zreturn, msk, lset1, lset2, clr, Value.category, Option.toList, List.cons_append, List.nil_append, List.length_cons, List.length_nil, hN, gf_eq hO, gf_eq a0, e0, sf_i hO, nI_1, hw1, cvk_0 o1 r2, gf_eq o2, cvk_1 o2 r3', nI_m1n (i := wd) (by omega), gf_eq o3', gf_eq a3, rd, va_rf, cvk_3 a3 r4, gf_eq O4, cvk_0 a4 r5]
        · exact hT.fr FF (fun q => q.elim (fun z => hL.1 z.symm) hL.t)
