/-! ===== a clause's verb; the whole text ===== -/
def vrP (T : Nat → Nat) (n q : Nat) (δ : DE) (a : Nat) : (Nat × Nat) ⊕ Nat := match vbP (wdL T a (le9 T n a - a)) with
  | none => .inl (1, a)
  | some vb => if 40 ≤ q ∨ fullP δ vb = true then .inl (3, a) else .inr vb
theorem clause_vr (T : Nat → Nat) (n q : Nat) (δ : DE) (a : Nat) : clauseP T n q (δ, a) = bd (vrP T n q δ a) fun vb => bd (bodyP T n vb (δ, le9 T n a)) (endP T n) := by
  unfold clauseP vrP
  simp only []
  cases vbP (wdL T a (le9 T n a - a)) with
  | none => rfl
  | some vb =>
    simp only []
    split <;> rfl
theorem vbS_lt {l : List Nat} {v : Nat} : ∀ {k}, vbS l k = some v → v < 7
  | 0, h => by cases h
  | k + 1, h => by
    unfold vbS at h
    split at h
    · cases h; omega
    · exact vbS_lt h
theorem vrP_lt {T : Nat → Nat} {n q a v : Nat} {δ : DE} (h : vrP T n q δ a = .inr v) : v < 7 ∧ ¬ fullP δ v = true := by
  unfold vrP at h
  split at h
  · cases h
  · next vb hv =>
    split at h
    · cases h
    · next z =>
      cases h
      exact ⟨vbS_lt hv, fun q => z (Or.inr q)⟩
theorem readVerb_sp {g : GE} (hg : GD g) {w : Mem} {S tx n a D q : Nat} {T : Nat → Nat} {δ : DE} (hL : LY S tx D) (h : SS g w S tx D T n a δ) (ha : a < n) (hs : sb T n a = a) (hn : n ≤ 600) (hQ : PQ δ) (hq : q ≤ 40) :
    ∃ w', fX6_readVerb g [.ref S, .int (nI q)] w = some (.inl (some (match vrP T n q δ a with | .inl _ => Value.null | .inr v => .ref (g.2.1 v))), w') ∧ (match vrP T n q δ a with | .inl e => SX g w' S tx D T n (.inl e) | .inr _ => SS g w' S tx D T n (le9 T n a) δ) ∧ Fr (FS S D) w w' := by
  have hg1 := hg.1
  obtain ⟨⟨s0, c0, k, p, hO⟩, hT, hD⟩ := id h
  obtain ⟨N, hN⟩ : ∃ N, g.1 = N + 2 := ⟨g.1 - 2, by omega⟩
  obtain ⟨w1, r1, o1, o2, F1⟩ := readWord_sp hg.1 hO hT hL.1 (by omega) hn
  rw [hs] at r1 o1 o2
  have h3 : a ≤ le9 T n a := ru_le (by omega)
  have h4 : le9 T n a ≤ n := ru_n (by omega)
  have T1 := hT.fr F1 (fun q => hL.1 q.symm)
  have D1 := hD.fr F1 hL.2.1
  have FF1 : Fr (FS S D) w w1 := F1.mn fun q h => Or.inl h
  unfold vrP
  generalize le9 T n a = e at *
  by_cases y : e = a
  · subst y
    have ev : vbP (wdL T e (e - e)) = none := by rw [Nat.sub_self]; rfl
    rw [ev]
    rw [if_pos rfl] at r1
    refine ⟨w1, ?_, SX.no (k1 := 1) hL hD F1 (o1 rfl), FF1⟩
    simp [fX6_readVerb, kX6_readVerb, ent, entp, jX6_readVerb, bX6_readVerb_0, bX6_readVerb_1, i_aload, i_areturn, i_astore, i_getf, i_icge, i_ifeq, i_ifne, i_ifnonnull, i_iload, i_jmp, i_pop, i_push, msk, lset1, lset2, clr, Value.category, Option.toList, List.cons_append, List.nil_append, List.length_cons, List.length_nil, hN, cvk_0 hO r1]
  · rw [if_neg y] at r1
    have o3 := o2 y
    have r2 := verbRead_sp hg o3 T1 h3 (by omega)
    generalize cdF T a (min (e - a) 9) = C at *
    cases hv : vbP (wdL T a (e - a)) with
    | none =>
      rw [hv] at r2
      have r2' : fX6_verbRead g [.ref S] w1 = some (.inl (some .null), w1) := r2
      obtain ⟨w2, p1, p2, p3⟩ := fail_sp (g := g) o3 1 (nI a)
      refine ⟨w2, ?_, SX.no (k1 := 1) hL hD (F1.tr p3) p2, (F1.tr p3).mn fun q h => Or.inl h⟩
      simp [fX6_readVerb, kX6_readVerb, ent, entp, jX6_readVerb, bX6_readVerb_0, bX6_readVerb_1, i_aload, i_areturn, i_astore, i_getf, i_icge, i_ifeq, i_ifne, i_ifnonnull, i_iload, i_jmp, i_pop, i_push, msk, lset1, lset2, clr, Value.category, Option.toList, List.cons_append, List.nil_append, List.length_cons, List.length_nil, hN, cvk_0 hO r1, cvk_0 o3 r2', gf_eq o3, cvk_2 o3 p1]
    | some v =>
      dsimp only
      rw [hv] at r2
      have r2' : fX6_verbRead g [.ref S] w1 = some (.inl (some (.ref (g.2.1 v))), w1) := r2
      have lv := vbS_lt hv
      have r3 := isFull_sp hg D1 hQ lv
      obtain ⟨w2, p1, p2, p3⟩ := fail_sp (g := g) o3 3 (nI a)
      have a1 := D1.1
      by_cases z : 40 ≤ q
      · rw [if_pos (Or.inl z)]
        have e4 : (40 : Int32) ≤ nI q := nI_le (a := 40) z (by omega)
        refine ⟨w2, ?_, SX.no (k1 := 3) hL hD (F1.tr p3) p2, (F1.tr p3).mn fun q h => Or.inl h⟩
        simp [fX6_readVerb, kX6_readVerb, ent, entp, jX6_readVerb, bX6_readVerb_0, bX6_readVerb_1, i_aload, i_areturn, i_astore, i_getf, i_icge, i_ifeq, i_ifne, i_ifnonnull, i_iload, i_jmp, i_pop, i_push, msk, lset1, lset2, clr, Value.category, Option.toList, List.cons_append, List.nil_append, List.length_cons, List.length_nil, hN, cvk_0 hO r1, cvk_0 o3 r2', e4, gf_eq o3, cvk_2 o3 p1]
      · have e4 : ¬ (40 : Int32) ≤ nI q := nI_ge (b := 40) (by omega) (by decide)
        by_cases x : fullP δ v = true
        · rw [if_pos (Or.inr x)]
          rw [if_pos x] at r3
          refine ⟨w2, ?_, SX.no (k1 := 3) hL hD (F1.tr p3) p2, (F1.tr p3).mn fun q h => Or.inl h⟩
          simp [fX6_readVerb, kX6_readVerb, ent, entp, jX6_readVerb, bX6_readVerb_0, bX6_readVerb_1, i_aload, i_areturn, i_astore, i_getf, i_icge, i_ifeq, i_ifne, i_ifnonnull, i_iload, i_jmp, i_pop, i_push, msk, lset1, lset2, clr, Value.category, Option.toList, List.cons_append, List.nil_append, List.length_cons, List.length_nil, hN, cvk_0 hO r1, cvk_0 o3 r2', e4, gf_eq o3, cvk_1 a1 r3, cvk_2 o3 p1]
        · rw [if_neg (fun u => u.elim z x)]
          rw [if_neg x] at r3
          refine ⟨w1, ?_, ⟨⟨_, _, _, _, o3⟩, T1, D1⟩, FF1⟩
          simp [fX6_readVerb, kX6_readVerb, ent, entp, jX6_readVerb, bX6_readVerb_0, bX6_readVerb_1, i_aload, i_areturn, i_astore, i_getf, i_icge, i_ifeq, i_ifne, i_ifnonnull, i_iload, i_jmp, i_pop, i_push, msk, lset1, lset2, clr, Value.category, Option.toList, List.cons_append, List.nil_append, List.length_cons, List.length_nil, hN, cvk_0 hO r1, cvk_0 o3 r2', e4, gf_eq o3, cvk_1 a1 r3]
theorem copyOut3 {g : GE} (hg : GD g) {w0 w : Mem} {S tx n a D : Nat} {L1 L2 L3 L4 : Option Value} {T : Nat → Nat} {δ δ0 : DE} (hL : LY S tx D) (h : SS g w S tx D T n a δ) (hQ : PQ δ) (hc : clsP T n 41 0 (clear δ0, 0) = .inr (δ, a)) (F0 : Fr (FS S D) w0 w) (f : Nat) :
    ∃ w', jX6_copyOut g (f + 3) 3 [] [some (.ref S), L1, L2, L3, L4] w = some (.inl (some (.int (prI (deedP T n δ0)))), w') ∧ SX g w' S tx D T n (deedP T n δ0) ∧ Fr (FS S D) w0 w' := by
  have hg1 := hg.1
  obtain ⟨⟨s0, c0, k, p, hO⟩, hT, hD⟩ := id h
  obtain ⟨w1, r1, D1, F1⟩ := countRows_sp hg1 hD hQ
  have O1 := F1.at hO hL.s
  have FF := F0.tr (F1.mn (T := FS S D) fun q h => Or.inr h)
  have T1 := hT.fr F1 hL.t
  unfold deedP
  rw [hc]
  show ∃ w', _ = some (Sum.inl (some (Value.int (prI (if 20000 < prd δ (δ.1 3) then .inl (4, n) else .inr (dC δ 6 (prd δ (δ.1 3)), a))))), w') ∧ SX g w' S tx D T n (if 20000 < prd δ (δ.1 3) then .inl (4, n) else .inr (dC δ 6 (prd δ (δ.1 3)), a)) ∧ Fr (FS S D) w0 w'
  have a0 := hD.1
  by_cases y : 20000 < prd δ (δ.1 3)
  · rw [if_pos y] at r1 D1 ⊢
    obtain ⟨w2, p1, p2, p3⟩ := fail_sp (g := g) O1 4 (nI n)
    refine ⟨w2, ?_, ⟨⟨_, _, _, p2⟩, _, D1.fr p3 hL.2.1⟩, FF.tr (p3.mn fun q h => Or.inl h)⟩
    show _ = some (Sum.inl (some (Value.int 0)), w2)
    clear D1 hc
    simp [jX6_copyOut, bX6_copyOut_0, bX6_copyOut_1, bX6_copyOut_2, bX6_copyOut_3, bX6_copyOut_4, bX6_copyOut_5, i_aload, i_astore, i_getf, i_icgt, i_iclt, i_ifeq, i_ifne, i_ifnull, i_iinc, i_iload, i_istore, i_jmp, i_push, i_putf, i_zreturn, msk, lset1, lset2, clr, Value.category, Option.toList, List.cons_append, List.nil_append, List.length_cons, List.length_nil, gf_eq hO, cvk_0 a0 r1, gf_eq O1, cvk_2 O1 p1]
  · rw [if_neg y] at r1 D1 ⊢
    refine ⟨w1, ?_, ⟨⟨_, _, _, _, O1⟩, T1, D1⟩, FF⟩
    show _ = some (Sum.inl (some (Value.int 1)), w1)
    clear D1 hc
    simp [jX6_copyOut, bX6_copyOut_0, bX6_copyOut_1, bX6_copyOut_2, bX6_copyOut_3, bX6_copyOut_4, bX6_copyOut_5, i_aload, i_astore, i_getf, i_icgt, i_iclt, i_ifeq, i_ifne, i_ifnull, i_iinc, i_iload, i_istore, i_jmp, i_push, i_putf, i_zreturn, msk, lset1, lset2, clr, Value.category, Option.toList, List.cons_append, List.nil_append, List.length_cons, List.length_nil, gf_eq hO, cvk_0 a0 r1]
theorem deedP_in {T : Nat → Nat} {n : Nat} {δ0 : DE} {e : Nat × Nat} (h : clsP T n 41 0 (clear δ0, 0) = .inl e) : deedP T n δ0 = .inl e := by
  unfold deedP
  rw [h]
  rfl
theorem copyOut_sp {g : GE} (hg : GD g) {w : Mem} {S tx n D d0 : Nat} {l0 a0 s0 k0 p0 : Int32} {c0 : Int64} {T : Nat → Nat} {δ : DE} (hL : LY S tx D) (hO : OB w S 6 [.ref tx, .int l0, .int a0, .int s0, .long c0, .ref d0, .int k0, .int p0]) (hT : TXT w tx T) (hD : DEED g w D δ) (hn : n ≤ 600) :
    ∃ w', fX6_copyOut g [.ref S, .ref D, .int (nI n)] w = some (.inl (some (.int (prI (deedP T n δ)))), w') ∧ SX g w' S tx D T n (deedP T n δ) ∧ Fr (FS S D) w w' := by
  have hg1 := hg.1
  obtain ⟨N, hN⟩ : ∃ N, g.1 = N + 1 := ⟨g.1 - 1, by omega⟩
  obtain ⟨w1, hw1⟩ : ∃ z, mset w S (.inr (6, [.ref tx, .int l0, .int a0, .int s0, .long c0, .ref D, .int k0, .int p0])) = z := ⟨_, rfl⟩
  have o1 : OB w1 S 6 [.ref tx, .int l0, .int a0, .int s0, .long c0, .ref D, .int k0, .int p0] := hw1 ▸ ms_at _ _ _
  have F1 : Fr (fun q => q = S) w w1 := hw1 ▸ Fr.ms _ _ rfl
  have D1 := hD.fr F1 hL.2.1
  obtain ⟨w2, r2, D2, F2⟩ := clearD_sp D1
  have o2 := F2.at o1 hL.s
  obtain ⟨w3, hw3⟩ : ∃ z, mset w2 S (.inr (6, [.ref tx, .int (nI n), .int a0, .int s0, .long c0, .ref D, .int k0, .int p0])) = z := ⟨_, rfl⟩
  have o3 : OB w3 S 6 [.ref tx, .int (nI n), .int a0, .int s0, .long c0, .ref D, .int k0, .int p0] := hw3 ▸ ms_at _ _ _
  have F3 : Fr (fun q => q = S) w2 w3 := hw3 ▸ Fr.ms _ _ rfl
  obtain ⟨w4, hw4⟩ : ∃ z, mset w3 S (.inr (6, [.ref tx, .int (nI n), .int 0, .int s0, .long c0, .ref D, .int k0, .int p0])) = z := ⟨_, rfl⟩
  have o4 : SO w4 S tx n 0 s0 c0 D k0 p0 := hw4 ▸ ms_at _ _ _
  have F4 : Fr (fun q => q = S) w3 w4 := hw4 ▸ Fr.ms _ _ rfl
  have FF : Fr (FS S D) w w4 := (((F1.mn fun q h => Or.inl h).tr (F2.mn fun q h => Or.inr h)).tr (F3.mn fun q h => Or.inl h)).tr (F4.mn fun q h => Or.inl h)
  have D4 := (D2.fr F3 hL.2.1).fr F4 hL.2.1
  have S4 : SS g w4 S tx D T n 0 (clear δ) := ⟨⟨_, _, _, _, o4⟩, hT.fr FF (fun q => q.elim (fun z => hL.1 z.symm) hL.t), D4⟩
  have L := lpR (fun f (z : Lv × Mem) => jX6_copyOut g f 1 [] z.1 z.2) (fun q z => z.1 = [some (.ref S), none, none, some (.int (nI q)), none] ∧ ∃ δ1 a, SS g z.2 S tx D T n a δ1 ∧ PW δ1 ∧ a ≤ n ∧ Fr (FS S D) w z.2 ∧ clsP T n 41 0 (clear δ, 0) = clsP T n (41 - q) q (δ1, a))
    (fun z => ∃ w', z = some (.inl (some (.int (prI (deedP T n δ)))), w') ∧ SX g w' S tx D T n (deedP T n δ) ∧ Fr (FS S D) w w') 4 4 41
    (fun q z hq hI f => by
      obtain ⟨e1, δ1, a, s1, hW, ha, F5, hc⟩ := hI
      obtain ⟨⟨s5, c5, k5, p5, O5⟩, T5, D5⟩ := id s1
      have e2 : ¬ (40 : Int32) < nI q := nI_nlt (a := 40) (by omega) (by decide)
      obtain ⟨w6, r6, o6, F6⟩ := skipBlanks_sp hg1 O5 T5 hL.1 ha hn
      have F56 := F5.tr (F6.mn (T := FS S D) fun q h => Or.inl h)
      have S6 : SS g w6 S tx D T n (sb T n a) δ1 := ⟨⟨_, _, _, _, o6⟩, T5.fr F6 (fun q => hL.1 q.symm), D5.fr F6 hL.2.1⟩
      have h2 : sb T n a ≤ n := ru_n ha
      have hss : sb T n (sb T n a) = sb T n a := ru_ru ha
      rw [show 41 - q = (40 - q) + 1 by omega] at hc
      have hc : clsP T n 41 0 (clear δ, 0) = if n ≤ sb T n a then .inr (δ1, sb T n a) else bd (clauseP T n q (δ1, sb T n a)) (clsP T n (40 - q) (q + 1)) := hc
      generalize sb T n a = s at *
      by_cases y : n ≤ s
      · refine Or.inl ?_
        rw [if_pos y] at hc
        obtain ⟨w7, r7, x7, F7⟩ := copyOut3 hg (L1 := none) (L2 := none) (L3 := none) (L4 := none) hL S6 hW.1 hc F56 f
        refine ⟨w7, ?_, x7, F7⟩
        have e3 : ¬ nI s < nI n := nI_nlt y (by omega)
        rw [← r7, e1]
        show jX6_copyOut g ((f + 3) + 1) 1 [] _ z.2 = _
        clear r7 x7 F7 hc
        generalize f + 3 = M
        simp [jX6_copyOut, bX6_copyOut_0, bX6_copyOut_1, bX6_copyOut_2, bX6_copyOut_3, bX6_copyOut_4, bX6_copyOut_5, i_aload, i_astore, i_getf, i_icgt, i_iclt, i_ifeq, i_ifne, i_ifnull, i_iinc, i_iload, i_istore, i_jmp, i_push, i_putf, i_zreturn, msk, lset1, lset2, clr, Value.category, Option.toList, List.cons_append, List.nil_append, List.length_cons, List.length_nil, e2, cvk_0 O5 r6, gf_eq o6, e3]
      · rw [if_neg y, clause_vr] at hc
        have e3 : nI s < nI n := nI_lt (by omega) (by omega)
        obtain ⟨w7, r7, x7, F7⟩ := readVerb_sp hg hL S6 (by omega) hss hn hW.1 (show q ≤ 40 by omega)
        have G7 := F56.tr F7
        cases hr : vrP T n q δ1 s with
        | inl e =>
          rw [hr] at r7 x7 hc
          have r7' : fX6_readVerb g [.ref S, .int (nI q)] w6 = some (.inl (some .null), w7) := r7
          rw [deedP_in hc]
          refine Or.inl ⟨w7, ?_, x7, G7⟩
          show _ = some (Sum.inl (some (Value.int 0)), w7)
          clear r7 x7 hc
          simp [jX6_copyOut, bX6_copyOut_0, bX6_copyOut_1, bX6_copyOut_2, bX6_copyOut_3, bX6_copyOut_4, bX6_copyOut_5, i_aload, i_astore, i_getf, i_icgt, i_iclt, i_ifeq, i_ifne, i_ifnull, i_iinc, i_iload, i_istore, i_jmp, i_push, i_putf, i_zreturn, msk, lset1, lset2, clr, Value.category, Option.toList, List.cons_append, List.nil_append, List.length_cons, List.length_nil, e1, e2, cvk_0 O5 r6, gf_eq o6, e3, cvk_1 o6 r7']
        | inr v =>
          have hv := vrP_lt hr
          have hcl : clauseP T n q (δ1, s) = bd (bodyP T n v (δ1, le9 T n s)) (endP T n) := by rw [clause_vr, hr]; rfl
          rw [hr] at r7 x7 hc
          have r7' : fX6_readVerb g [.ref S, .int (nI q)] w6 = some (.inl (some (.ref (g.2.1 v))), w7) := r7
          have x7 : SS g w7 S tx D T n (le9 T n s) δ1 := x7
          obtain ⟨⟨y1, y2, y3, y4, o7⟩, -, -⟩ := id x7
          have h4 : le9 T n s ≤ n := ru_n h2
          obtain ⟨w8, r8, x8, F8⟩ := readBody_sp hg hL x7 h4 hn hW hv.1 hv.2
          have G8 := G7.tr F8
          have hc : clsP T n 41 0 (clear δ, 0) = bd (bd (bodyP T n v (δ1, le9 T n s)) (endP T n)) (clsP T n (40 - q) (q + 1)) := hc
          clear r7
          cases hr8 : bodyP T n v (δ1, le9 T n s) with
          | inl e =>
            rw [hr8] at r8 x8 hc
            have r8' : fX6_readBody g [.ref S, .ref (g.2.1 v)] w7 = some (.inl (some (.int 0)), w8) := r8
            rw [deedP_in hc]
            refine Or.inl ⟨w8, ?_, x8, G8⟩
            show _ = some (Sum.inl (some (Value.int 0)), w8)
            clear r8 x8 hc hcl
            simp [jX6_copyOut, bX6_copyOut_0, bX6_copyOut_1, bX6_copyOut_2, bX6_copyOut_3, bX6_copyOut_4, bX6_copyOut_5, i_aload, i_astore, i_getf, i_icgt, i_iclt, i_ifeq, i_ifne, i_ifnull, i_iinc, i_iload, i_istore, i_jmp, i_push, i_putf, i_zreturn, msk, lset1, lset2, clr, Value.category, Option.toList, List.cons_append, List.nil_append, List.length_cons, List.length_nil, e1, e2, cvk_0 O5 r6, gf_eq o6, e3, cvk_1 o6 r7', cvk_1 o7 r8']
          | inr u =>
            obtain ⟨δ2, e2'⟩ := u
            have hb8 := bodyP_ok hr8 h4 hW hv.2
            rw [hr8] at r8 x8 hc hcl
            have r8' : fX6_readBody g [.ref S, .ref (g.2.1 v)] w7 = some (.inl (some (.int 1)), w8) := r8
            have x8 : SS g w8 S tx D T n e2' δ2 := x8
            obtain ⟨⟨y1, y2, y3, y4, o8⟩, -, -⟩ := id x8
            obtain ⟨w9, r9, x9, F9⟩ := readEnd_sp hg hL x8 hb8.2.2 hn hb8.1.1
            have G9 := G8.tr F9
            have hc : clsP T n 41 0 (clear δ, 0) = bd (endP T n (δ2, e2')) (clsP T n (40 - q) (q + 1)) := hc
            have hcl : clauseP T n q (δ1, s) = endP T n (δ2, e2') := hcl
            clear r8
            cases hr9 : endP T n (δ2, e2') with
            | inl e =>
              rw [hr9] at r9 x9 hc
              have r9' : fX6_readEnd g [.ref S] w8 = some (.inl (some (.int 0)), w9) := r9
              rw [deedP_in hc]
              refine Or.inl ⟨w9, ?_, x9, G9⟩
              show _ = some (Sum.inl (some (Value.int 0)), w9)
              clear r9 x9 hc hcl
              simp [jX6_copyOut, bX6_copyOut_0, bX6_copyOut_1, bX6_copyOut_2, bX6_copyOut_3, bX6_copyOut_4, bX6_copyOut_5, i_aload, i_astore, i_getf, i_icgt, i_iclt, i_ifeq, i_ifne, i_ifnull, i_iinc, i_iload, i_istore, i_jmp, i_push, i_putf, i_zreturn, msk, lset1, lset2, clr, Value.category, Option.toList, List.cons_append, List.nil_append, List.length_cons, List.length_nil, e1, e2, cvk_0 O5 r6, gf_eq o6, e3, cvk_1 o6 r7', cvk_1 o7 r8', cvk_0 o8 r9']
            | inr u9 =>
              obtain ⟨δ3, e3'⟩ := u9
              rw [hr9] at r9 x9 hc hcl
              have r9' : fX6_readEnd g [.ref S] w8 = some (.inl (some (.int 1)), w9) := r9
              have ok := clauseP_ok hcl h2 hW
              refine Or.inr ⟨f + 3, ([some (.ref S), none, none, some (.int (nI (q + 1))), none], w9), by omega, ⟨rfl, δ3, e3', x9, ok.1, ok.2, G9, ?_⟩, ?_⟩
              · rw [hc, show 41 - (q + 1) = 40 - q by omega]
                rfl
              · show jX6_copyOut g ((f + 3) + 1) 1 [] z.1 z.2 = _
                clear r9 x9 hc hcl
                generalize f + 3 = M
                simp [jX6_copyOut, bX6_copyOut_0, bX6_copyOut_1, bX6_copyOut_2, bX6_copyOut_3, bX6_copyOut_4, bX6_copyOut_5, i_aload, i_astore, i_getf, i_icgt, i_iclt, i_ifeq, i_ifne, i_ifnull, i_iinc, i_iload, i_istore, i_jmp, i_push, i_putf, i_zreturn, msk, lset1, lset2, clr, Value.category, Option.toList, List.cons_append, List.nil_append, List.length_cons, List.length_nil, e1, e2, cvk_0 O5 r6, gf_eq o6, e3, cvk_1 o6 r7', cvk_1 o7 r8', cvk_0 o8 r9', nI_1])
    (fun z hI f => by
      obtain ⟨e1, δ1, a, s1, hW, ha, F5, hc⟩ := hI
      obtain ⟨w7, r7, x7, F7⟩ := copyOut3 hg (L1 := none) (L2 := none) (L3 := none) (L4 := none) hL s1 hW.1 hc F5 f
      refine ⟨w7, ?_, x7, F7⟩
      have e2 : (40 : Int32) < nI 41 := by decide
      rw [← r7, e1]
      show jX6_copyOut g ((f + 3) + 1) 1 [] _ z.2 = _
      clear r7 x7 F7 hc
      generalize f + 3 = M
      simp [jX6_copyOut, bX6_copyOut_0, bX6_copyOut_1, bX6_copyOut_2, bX6_copyOut_3, bX6_copyOut_4, bX6_copyOut_5, i_aload, i_astore, i_getf, i_icgt, i_iclt, i_ifeq, i_ifne, i_ifnull, i_iinc, i_iload, i_istore, i_jmp, i_push, i_putf, i_zreturn, msk, lset1, lset2, clr, Value.category, Option.toList, List.cons_append, List.nil_append, List.length_cons, List.length_nil, e2])
  have L1 := L 41 0 ([some (.ref S), none, none, some (.int (nI 0)), none], w4) (by omega) ⟨rfl, clear δ, 0, S4, clear_ok δ, by omega, FF, rfl⟩ N (by omega)
  have e0 : fX6_copyOut g [.ref S, .ref D, .int (nI n)] w = jX6_copyOut g N 1 [] [some (.ref S), none, none, some (.int (nI 0)), none] w4 := by
    clear L1 L
    rw [nI_0]
    simp [fX6_copyOut, kX6_copyOut, ent, entp, jX6_copyOut, bX6_copyOut_0, bX6_copyOut_1, bX6_copyOut_2, bX6_copyOut_3, bX6_copyOut_4, bX6_copyOut_5, i_aload, i_astore, i_getf, i_icgt, i_iclt, i_ifeq, i_ifne, i_ifnull, i_iinc, i_iload, i_istore, i_jmp, i_push, i_putf, i_zreturn, msk, lset1, lset2, clr, Value.category, Option.toList, List.cons_append, List.nil_append, List.length_cons, List.length_nil, hN, sf_o hO, hw1, gf_eq o1, cvk_0 D1.1 r2, sf_i o2, hw3, sf_i o3, hw4]
  rw [e0]
  exact L1
