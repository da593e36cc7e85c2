/-! ===== feed ===== -/
def byB (x : Int32) (k : Nat) : Int32 := x >>> (nI (24 - 8 * k) &&& 31) &&& 255
theorem byB_n (x : Int32) (k : Nat) : ∃ b : Nat, b < 256 ∧ byB x k = nI b := pk_andE _ 8 (by decide)
theorem bv255 : ∀ i, i < 32 → (255#32).getLsbD i = decide (i < 8) := by decide +kernel
theorem bvs (v : BitVec 32) (n : Nat) (hn : n ≤ 24) : (v >>> n) &&& 255#32 = v.sshiftRight n &&& 255#32 := by
  apply BitVec.eq_of_getLsbD_eq
  intro i hi
  rw [BitVec.getLsbD_and, BitVec.getLsbD_and, bv255 i hi]
  by_cases y : i < 8
  · rw [BitVec.getLsbD_ushiftRight, BitVec.getLsbD_sshiftRight]
    have h1 : ¬ 32 ≤ i := by omega
    have h2 : n + i < 32 := by omega
    simp [h1, h2, y]
  · simp [y]
def shI : Nat → Int32
  | 0 => 24
  | 1 => 16
  | 2 => 8
  | 3 => 0
  | _ => -8
theorem sh_p : ∀ k, k < 4 → ¬ shI k < 0 := by decide +kernel
theorem sh_n : ∀ k, k < 4 → shI k + (-8) = shI (k + 1) := by decide +kernel
theorem by_eq (x : Int32) {k : Nat} (hk : k < 4) : (x.toUInt32 >>> ((shI k).toUInt32 &&& Int32.toUInt32 31)).toInt32 &&& 255 = byB x k := by
  have : k = 0 ∨ k = 1 ∨ k = 2 ∨ k = 3 := by omega
  apply Int32.toBitVec_inj.1
  rcases this with z | z | z | z <;> subst z
  · exact bvs x.toBitVec 24 (by decide)
  · exact bvs x.toBitVec 16 (by decide)
  · exact bvs x.toBitVec 8 (by decide)
  · exact bvs x.toBitVec 0 (by decide)
/-- the tape with m bytes of a word behind c -/
def tpP (tp : Nat → Int32) (c : Nat) (x : Int32) (m : Nat) : Nat → Int32 := fun i => if c ≤ i ∧ i < c + m then byB x (i - c) else tp i
theorem pb_1 {g : GE} {w w1 w2 : Mem} {B D D' c kept k f : Nat} {fp x : Int32} (hB : BD w B D D' c kept fp) (hk : k < 4) (hc : c < 600) (hwr : si w 0 (B + 1) (nI c) (byB x k) = some w1) (hB1 : BD w1 B D D' c kept fp) (hw2 : mset w1 B (.inr (9, [.ref (B + 1), .int (nI (c + 1)), .ref (B + 72), .ref D, .ref D', .ref (B + 73), .ref (B + 87), .ref (B + 95), .ref (B + 98), .ref (B + 106), .int (nI kept), .int fp, .ref (B + 131)])) = w2) : jX10_putBytes g (f + 1) 1 [] [some (.ref B), some (.int x), some (.int (shI k))] w = jX10_putBytes g f 1 [] [some (.ref B), some (.int x), some (.int (shI (k + 1)))] w2 := by
  have e1 := sh_p k hk
  have e2 := sh_n k hk
  have e3 := by_eq x hk
  have e4 : ¬ (600 : Int32) ≤ nI c := nI_ge (b := 600) hc (by decide)
  generalize shI (k + 1) = S1 at e2 ⊢
  generalize shI k = S0 at e1 e2 e3 ⊢
  generalize byB x k = Y at e3 hwr
  simp [jX10_putBytes, bX10_putBytes_0, bX10_putBytes_1, bX10_putBytes_2, i_aload, i_dup, i_getf, i_iadd, i_iand, i_iastore, i_icge, i_iflt, i_iinc, i_iload, i_istore, i_iushr, i_jmp, i_push, i_putf, i_return, msk, lset1, lset2, clr, Value.category, Option.toList, List.cons_append, List.nil_append, List.length_cons, List.length_nil, e1, gf_eq hB, e4, e3, hwr, gf_eq hB1, nI_1, sf_i hB1, hw2, e2]
theorem putBytes_sp {g : GE} (hg : FU g) {w : Mem} {B D D' c kept : Nat} {fp x : Int32} {tp : Nat → Int32} (hB : BD w B D D' c kept fp) (hT : IA w (B + 1) 600 tp) (hc : c + 4 ≤ 600) :
    ∃ w', fX10_putBytes g [.ref B, .int x] w = some (.inl none, w') ∧ BD w' B D D' (c + 4) kept fp ∧ IA w' (B + 1) 600 (tpP tp c x 4) ∧ Fr (fun a => a = B ∨ a = B + 1) w w' := by
  have st : ∀ k, k < 4 → ∀ u, BD u B D D' (c + k) kept fp → IA u (B + 1) 600 (tpP tp c x k) → Fr (fun a => a = B ∨ a = B + 1) w u → ∃ u', BD u' B D D' (c + (k + 1)) kept fp ∧ IA u' (B + 1) 600 (tpP tp c x (k + 1)) ∧ Fr (fun a => a = B ∨ a = B + 1) w u' ∧ ∀ f, jX10_putBytes g (f + 1) 1 [] [some (.ref B), some (.int x), some (.int (shI k))] u = jX10_putBytes g f 1 [] [some (.ref B), some (.int x), some (.int (shI (k + 1)))] u' := fun k hk u hBu hTu hu => by
    obtain ⟨w1, hw1⟩ : ∃ q, wi u 0 (B + 1) (c + k) (byB x k) = q := ⟨_, rfl⟩
    have F1 : Fr (fun a => a = B + 1) u w1 := hw1 ▸ Fr.wi _ _ _ _ rfl
    have wr := hTu.wr (j := c + k) (by omega) (by decide) (byB x k)
    rw [hw1] at wr
    have t1 := hTu.up (c + k) (byB x k)
    rw [hw1] at t1
    have B1 := F1.at hBu (by omega)
    obtain ⟨w2, hw2⟩ : ∃ q, mset w1 B (.inr (9, [.ref (B + 1), .int (nI (c + k + 1)), .ref (B + 72), .ref D, .ref D', .ref (B + 73), .ref (B + 87), .ref (B + 95), .ref (B + 98), .ref (B + 106), .int (nI kept), .int fp, .ref (B + 131)])) = q := ⟨_, rfl⟩
    have F2 : Fr (fun a => a = B) w1 w2 := hw2 ▸ Fr.ms _ _ rfl
    refine ⟨w2, hw2 ▸ ms_at _ _ _, (t1.fr F2 (by omega)).cg fun i hi => ?_, (hu.tr (F1.mn fun a h => Or.inr h)).tr (F2.mn fun a h => Or.inl h), fun f => pb_1 hBu hk (by omega) wr B1 hw2⟩
    unfold tpP
    by_cases y : i = c + k
    · subst y
      rw [va_up_self, if_pos (by omega), Nat.add_sub_cancel_left]
    · rw [va_up_ne _ _ y]
      by_cases y2 : c ≤ i ∧ i < c + k
      · rw [if_pos y2, if_pos (by omega)]
      · rw [if_neg y2, if_neg (by omega)]
  obtain ⟨u1, a1, a2, a3, a4⟩ := st 0 (by decide) w hB (hT.cg fun i hi => by unfold tpP; rw [if_neg (by omega)]) (Fr.rf _ _)
  obtain ⟨u2, b1, b2, b3, b4⟩ := st 1 (by decide) u1 a1 a2 a3
  obtain ⟨u3, c1, c2, c3, c4⟩ := st 2 (by decide) u2 b1 b2 b3
  obtain ⟨u4, d1, d2, d3, d4⟩ := st 3 (by decide) u3 c1 c2 c3
  obtain ⟨N, hN⟩ : ∃ N, g.1 = (N + 6) + 1 := ⟨g.1 - 7, by omega⟩
  refine ⟨u4, ?_, d1, d2, d3⟩
  have e0 : fX10_putBytes g [.ref B, .int x] w = jX10_putBytes g (N + 6) 1 [] [some (.ref B), some (.int x), some (.int (shI 0))] w := by
    generalize N + 6 = F at hN ⊢
    simp [fX10_putBytes, kX10_putBytes, ent, entp, jX10_putBytes, bX10_putBytes_0, bX10_putBytes_1, bX10_putBytes_2, i_aload, i_dup, i_getf, i_iadd, i_iand, i_iastore, i_icge, i_iflt, i_iinc, i_iload, i_istore, i_iushr, i_jmp, i_push, i_putf, i_return, msk, lset1, lset2, clr, Value.category, Option.toList, List.cons_append, List.nil_append, List.length_cons, List.length_nil, hN, shI]
  rw [e0, show N + 6 = (N + 5) + 1 from rfl, a4, show N + 5 = (N + 4) + 1 from rfl, b4, show N + 4 = (N + 3) + 1 from rfl, c4, show N + 3 = (N + 2) + 1 from rfl, d4]
  simp [jX10_putBytes, bX10_putBytes_0, bX10_putBytes_1, bX10_putBytes_2, i_aload, i_dup, i_getf, i_iadd, i_iand, i_iastore, i_icge, i_iflt, i_iinc, i_iload, i_istore, i_iushr, i_jmp, i_push, i_putf, i_return, msk, lset1, lset2, clr, Value.category, Option.toList, List.cons_append, List.nil_append, List.length_cons, List.length_nil, shI]
/-- five words behind c -/
def wdF (a b c d e : Int32) (j : Nat) : Int32 := if j < 4 then a else if j < 8 then b else if j < 12 then c else if j < 16 then d else e
def tpF (tp : Nat → Int32) (n : Nat) (a b c d e : Int32) (m : Nat) : Nat → Int32 := fun i => if n ≤ i ∧ i < n + m then byB (wdF a b c d e (i - n)) ((i - n) % 4) else tp i
def feedR (fed : Nat) (tp : Nat → Int32) (a b c d e : Int32) : OUT × Nat × (Nat → Int32) := if 600 < fed + 20 then (.inl (.int (-1)), fed, tp) else (.inl (.int (nI (fed + 20))), fed + 20, tpF tp fed a b c d e 20)
theorem cvk_5 {F : FT} {g : GE} {ci : Nat} {k : KT} {a : Nat} {x y z u v0 : Value} {r : List Value} {lv : Lv} {w w1 : Mem} {fs : List Value} {v : Option Value} (ha : OB w a ci fs) (hF : F g [.ref a, x, y, z, u, v0] w = some (.inl v, w1)) (hr : r.length ≤ 4) : i_cv F g 5 ci k (v0 :: u :: z :: y :: x :: .ref a :: r) lv w = k (v.toList ++ r) lv w1 := by
  show (match w.1 a with | some (.inr o) => if o.1 = ci ∧ r.length ≤ 4 then (match F g [.ref a, x, y, z, u, v0] w with | some (.inl v, w1) => k (v.toList ++ r) lv w1 | _ => none) else none | _ => none) = _
  rw [ha]; simp only [hF, hr, and_self, if_true]
theorem feed_c {g : GE} {w : Mem} {B E fed kept : Nat} {fp : Int32} {tp : Nat → Int32} {rf : Nat → Nat} {δ : DE} {τ : TE} {im : Nat → TE} {lev nG : Nat} (hg : GD g) (hE : B + 132 ≤ E) (hI : CI g w B E fed kept fp tp rf δ τ im lev nG) (xa xb xc xd xe : Int32) : CZ g w B E (fed, kept, fp, tp, rf, δ, τ, im) lev nG (fX10_feed g [.ref B, .int xa, .int xb, .int xc, .int xd, .int xe] w) (feedR fed tp xa xb xc xd xe).1 ((feedR fed tp xa xb xc xd xe).2.1, kept, fp, (feedR fed tp xa xb xc xd xe).2.2, rfb rf (feedR fed tp xa xb xc xd xe).1, δ, τ, im) := by
  have hg1 := hg.1
  obtain ⟨D, D', hCC, hCT, hCN, hCL, hCM⟩ := id hI
  obtain ⟨hDD, hB, hTp, hD, hD', hSc, hr, hd, hfd, hkp⟩ := id hCC
  have e20 : nI fed + 20 = nI (fed + 20) := nI_add fed 20
  have m : (nI (fed + 20) ≤ 600) ↔ fed + 20 ≤ 600 := nI_leI (b := 600) (by omega) (by decide)
  unfold feedR
  by_cases z : 600 < fed + 20
  · simp only [z, if_true]
    refine CZ.of (CQ.ok hI ?_)
    have z1 := mt m.mp (by omega)
    simp [fX10_feed, kX10_feed, ent, entp, bX10_feed_0, i_aload, i_getf, i_iadd, i_icle, i_iload, i_ireturn, i_push, msk, lset1, lset2, clr, Value.category, Option.toList, List.cons_append, List.nil_append, List.length_cons, List.length_nil, gf_eq hB, e20, z1]
  · simp only [z, if_false]
    have z1 := m.mpr (by omega)
    obtain ⟨w1, p1, p2, p3, p4⟩ := putBytes_sp hg1 (x := xa) hB hTp (by omega)
    obtain ⟨w2, q1, q2, q3, q4⟩ := putBytes_sp hg1 (x := xb) p2 p3 (by omega)
    obtain ⟨w3, r1, r2, r3, r4⟩ := putBytes_sp hg1 (x := xc) q2 q3 (by omega)
    obtain ⟨w4, s1, s2, s3, s4⟩ := putBytes_sp hg1 (x := xd) r2 r3 (by omega)
    obtain ⟨w5, t1, t2, t3, t4⟩ := putBytes_sp hg1 (x := xe) s2 s3 (by omega)
    have F5 := (((p4.tr q4).tr r4).tr s4).tr t4
    have t3' : IA w5 (B + 1) 600 (tpF tp fed xa xb xc xd xe 20) := t3.cg fun i hi => by
      unfold tpP tpF wdF
      by_cases y : fed ≤ i ∧ i < fed + 20
      · obtain ⟨j, rfl⟩ : ∃ j, i = fed + j := ⟨i - fed, by omega⟩
        have lj : j < 20 := by omega
        rw [if_pos y, Nat.add_sub_cancel_left]
        by_cases y1 : j < 4
        · rw [if_neg (by omega), if_neg (by omega), if_neg (by omega), if_neg (by omega), if_pos (by omega), if_pos y1, Nat.mod_eq_of_lt y1]
        · by_cases y2 : j < 8
          · rw [if_neg (by omega), if_neg (by omega), if_neg (by omega), if_pos (by omega), if_neg y1, if_pos y2, show fed + j - (fed + 4) = j % 4 by omega]
          · by_cases y3 : j < 12
            · rw [if_neg (by omega), if_neg (by omega), if_pos (by omega), if_neg y1, if_neg y2, if_pos y3, show fed + j - (fed + 4 + 4) = j % 4 by omega]
            · by_cases y4 : j < 16
              · rw [if_neg (by omega), if_pos (by omega), if_neg y1, if_neg y2, if_neg y3, if_pos y4, show fed + j - (fed + 4 + 4 + 4) = j % 4 by omega]
              · rw [if_pos (by omega), if_neg y1, if_neg y2, if_neg y3, if_neg y4, show fed + j - (fed + 4 + 4 + 4 + 4) = j % 4 by omega]
      · rw [if_neg y, if_neg (by omega), if_neg (by omega), if_neg (by omega), if_neg (by omega), if_neg (by omega)]
    have I5 := hI.bd (fed' := fed + 20) (kept' := kept) (fp' := fp) (tp' := tpF tp fed xa xb xc xd xe 20) hE F5 (fun D1 D1' h1 => by
      have e : _ = _ := Option.some.inj (h1.symm.trans hB)
      simp only [Sum.inr.injEq, Prod.mk.injEq, List.cons.injEq, Value.ref.injEq, true_and, and_true] at e
      rw [e.1, e.2]
      exact t2) t3' (by omega) hkp
    refine CZ.okw I5 ?_ (F5.mn fun a ha => CF.in (by omega))
    have e5 : fed + 4 + 4 + 4 + 4 + 4 = fed + 20 := by omega
    rw [e5] at t2
    simp [fX10_feed, kX10_feed, ent, entp, bX10_feed_0, i_aload, i_getf, i_iadd, i_icle, i_iload, i_ireturn, i_push, msk, lset1, lset2, clr, Value.category, Option.toList, List.cons_append, List.nil_append, List.length_cons, List.length_nil, gf_eq hB, e20, z1, cvk_1 hB p1, cvk_1 p2 q1, cvk_1 q2 r1, cvk_1 r2 s1, cvk_1 s2 t1, gf_eq t2]
theorem feed_r {g : GE} {w : Mem} {M fed kept : Nat} {fp : Int32} {tp : Nat → Int32} {rf : Nat → Nat} {δ : DE} {τ : TE} {im : Nat → TE} {x : Nat → Int32} (hg : FU g) (hd : WF δ) (hI : RI w M fed kept fp tp rf δ τ im x) (hf : fed ≤ 600) (xa xb xc xd xe : Int32) : RZo w M (fX11_feed g [.ref M, .int xa, .int xb, .int xc, .int xd, .int xe] w) (feedR fed tp xa xb xc xd xe).1 ((feedR fed tp xa xb xc xd xe).2.1, kept, fp, (feedR fed tp xa xb xc xd xe).2.2, rfb rf (feedR fed tp xa xb xc xd xe).1, δ, τ, im) := by
  obtain ⟨w0, hw0, I0, F0⟩ := hI.t0
  obtain ⟨hO, hXO, hRK, hRZ, hrf⟩ := id I0
  obtain ⟨x1', x3', x27, x32, x33, x34⟩ := id hXO
  obtain ⟨hTp, hD, hR, hCp, hHb, hKp, hRP⟩ := id hRK
  have x0' : (va_up x 0 0) 0 = 0 := va_up_self _ _ _
  have e20 : nI fed + 20 = nI (fed + 20) := nI_add fed 20
  have m : (nI (fed + 20) ≤ 600) ↔ fed + 20 ≤ 600 := nI_leI (b := 600) (by omega) (by decide)
  obtain ⟨N, hN⟩ : ∃ N, g.1 = N + 1 := ⟨g.1 - 1, by omega⟩
  unfold feedR
  by_cases z : 600 < fed + 20
  · simp only [z, if_true]
    refine RZo.of (RQo.ok F0 I0 x0' ?_ (Fr.rf _ _))
    have z1 := mt m.mp (by omega)
    simp [fX11_feed, kX11_feed, ent, entp, jX11_feed, bX11_feed_0, bX11_feed_1, bX11_feed_2, i_aload, i_dup, i_getf, i_iadd, i_iand, i_iastore, i_icge, i_icle, i_iinc, i_iload, i_imul, i_irem, i_ireturn, i_ishr, i_istore, i_isub, i_jmp, i_push, i_putf, msk, lset1, lset2, clr, Value.category, Option.toList, List.cons_append, List.nil_append, List.length_cons, List.length_nil, hN, st_0 hI.1, hw0, gf_eq hO, mg_1, x1', e20, z1]
  · simp only [z, if_false]
    have z1 := m.mpr (by omega)
    have L := lpR (fun f (s : Lv × Mem) => jX11_feed g f 1 [] s.1 s.2) (fun k s => s.1 = [some (.ref M), some (.int xa), some (.int xb), some (.int xc), some (.int xd), some (.int xe), some (.int (nI k)), none] ∧ (∃ x', MO s.2 M x' ∧ (∀ j, j ≠ 1 → x' j = (va_up x 0 0) j) ∧ x' 1 = nI (fed + k)) ∧ IA s.2 (M + 1) 600 (tpF tp fed xa xb xc xd xe k) ∧ Fr (fun a => a = M ∨ a = M + 1) w0 s.2)
      (fun z => ∃ w' x', z = some (.inl (some (.int (nI (fed + 20)))), w') ∧ MO w' M x' ∧ (∀ j, j ≠ 1 → x' j = (va_up x 0 0) j) ∧ x' 1 = nI (fed + 20) ∧ IA w' (M + 1) 600 (tpF tp fed xa xb xc xd xe 20) ∧ Fr (fun a => a = M ∨ a = M + 1) w0 w') 2 1 20
      (fun k s hk hI f => by
        obtain ⟨e1, ⟨x2, o2, k2, y2⟩, e2, e3⟩ := hI
        have ek : ¬ (20 : Int32) ≤ nI k := nI_ge hk (by decide)
        have a0 : jX11_feed g (f + 1 + 1) 1 [] s.1 s.2 = jX11_feed g (f + 1) 2 [.int (wdF xa xb xc xd xe k)] [some (.ref M), some (.int xa), some (.int xb), some (.int xc), some (.int xd), some (.int xe), some (.int (nI k)), none] s.2 := by
          have m4 : (4 ≤ nI k) ↔ 4 ≤ k := nI_leI (a := 4) (by decide) (by omega)
          have m8 : (8 ≤ nI k) ↔ 8 ≤ k := nI_leI (a := 8) (by decide) (by omega)
          have m12 : (12 ≤ nI k) ↔ 12 ≤ k := nI_leI (a := 12) (by decide) (by omega)
          have m16 : (16 ≤ nI k) ↔ 16 ≤ k := nI_leI (a := 16) (by decide) (by omega)
          generalize f + 1 = F
          by_cases y1 : k < 4
          · have ew : wdF xa xb xc xd xe k = xa := by simp [wdF, y1]
            rw [ew]
            simp [jX11_feed, bX11_feed_0, bX11_feed_1, bX11_feed_2, i_aload, i_dup, i_getf, i_iadd, i_iand, i_iastore, i_icge, i_icle, i_iinc, i_iload, i_imul, i_irem, i_ireturn, i_ishr, i_istore, i_isub, i_jmp, i_push, i_putf, msk, lset1, lset2, clr, Value.category, Option.toList, List.cons_append, List.nil_append, List.length_cons, List.length_nil, e1, ek, mt m4.mp (by omega)]
          · by_cases y2 : k < 8
            · have ew : wdF xa xb xc xd xe k = xb := by simp [wdF, y1, y2]
              rw [ew]
              simp [jX11_feed, bX11_feed_0, bX11_feed_1, bX11_feed_2, i_aload, i_dup, i_getf, i_iadd, i_iand, i_iastore, i_icge, i_icle, i_iinc, i_iload, i_imul, i_irem, i_ireturn, i_ishr, i_istore, i_isub, i_jmp, i_push, i_putf, msk, lset1, lset2, clr, Value.category, Option.toList, List.cons_append, List.nil_append, List.length_cons, List.length_nil, e1, ek, m4.mpr (by omega), mt m8.mp (by omega)]
            · by_cases y3 : k < 12
              · have ew : wdF xa xb xc xd xe k = xc := by simp [wdF, y1, y2, y3]
                rw [ew]
                simp [jX11_feed, bX11_feed_0, bX11_feed_1, bX11_feed_2, i_aload, i_dup, i_getf, i_iadd, i_iand, i_iastore, i_icge, i_icle, i_iinc, i_iload, i_imul, i_irem, i_ireturn, i_ishr, i_istore, i_isub, i_jmp, i_push, i_putf, msk, lset1, lset2, clr, Value.category, Option.toList, List.cons_append, List.nil_append, List.length_cons, List.length_nil, e1, ek, m4.mpr (by omega), m8.mpr (by omega), mt m12.mp (by omega)]
              · by_cases y4 : k < 16
                · have ew : wdF xa xb xc xd xe k = xd := by simp [wdF, y1, y2, y3, y4]
                  rw [ew]
                  simp [jX11_feed, bX11_feed_0, bX11_feed_1, bX11_feed_2, i_aload, i_dup, i_getf, i_iadd, i_iand, i_iastore, i_icge, i_icle, i_iinc, i_iload, i_imul, i_irem, i_ireturn, i_ishr, i_istore, i_isub, i_jmp, i_push, i_putf, msk, lset1, lset2, clr, Value.category, Option.toList, List.cons_append, List.nil_append, List.length_cons, List.length_nil, e1, ek, m4.mpr (by omega), m8.mpr (by omega), m12.mpr (by omega), mt m16.mp (by omega)]
                · have ew : wdF xa xb xc xd xe k = xe := by simp [wdF, y1, y2, y3, y4]
                  rw [ew]
                  simp [jX11_feed, bX11_feed_0, bX11_feed_1, bX11_feed_2, i_aload, i_dup, i_getf, i_iadd, i_iand, i_iastore, i_icge, i_icle, i_iinc, i_iload, i_imul, i_irem, i_ireturn, i_ishr, i_istore, i_isub, i_jmp, i_push, i_putf, msk, lset1, lset2, clr, Value.category, Option.toList, List.cons_append, List.nil_append, List.length_cons, List.length_nil, e1, ek, m4.mpr (by omega), m8.mpr (by omega), m12.mpr (by omega), m16.mpr (by omega)]
        have er : nI k - nI k / 4 * 4 = nI (k % 4) := pk_rem (d := 4) (by omega) (by decide) (by decide)
        have em : (8 : Int32) * nI (k % 4) = nI (8 * (k % 4)) := e8 _
        have es : (24 : Int32) - nI (8 * (k % 4)) = nI (24 - 8 * (k % 4)) := pk_sub (a := 24) (by omega)
        have eb : wdF xa xb xc xd xe k >>> (nI (24 - 8 * (k % 4)) &&& 31) &&& 255 = byB (wdF xa xb xc xd xe k) (k % 4) := rfl
        obtain ⟨w1, hw1⟩ : ∃ q, wi s.2 0 (M + 1) (fed + k) (byB (wdF xa xb xc xd xe k) (k % 4)) = q := ⟨_, rfl⟩
        have F1 : Fr (fun a => a = M + 1) s.2 w1 := hw1 ▸ Fr.wi _ _ _ _ rfl
        have wr := e2.wr (j := fed + k) (by omega) (by decide) (byB (wdF xa xb xc xd xe k) (k % 4))
        rw [hw1] at wr
        have t1 := e2.up (fed + k) (byB (wdF xa xb xc xd xe k) (k % 4))
        rw [hw1] at t1
        have o1 := F1.at o2 (by omega)
        obtain ⟨X3, hX3⟩ : ∃ q, va_up x2 1 (nI (fed + k + 1)) = q := ⟨_, rfl⟩
        obtain ⟨w3, hw3⟩ : ∃ q, mset w1 M (.inr (10, mo M X3)) = q := ⟨_, rfl⟩
        have s1 := st_1 o1 (nI (fed + k + 1))
        rw [hX3, hw3] at s1
        have o3 : MO w3 M X3 := hw3 ▸ ms_at _ _ _
        have F3 : Fr (fun a => a = M) w1 w3 := hw3 ▸ Fr.ms _ _ rfl
        have ea := nI_1 (fed + k)
        refine Or.inr ⟨f, ([some (.ref M), some (.int xa), some (.int xb), some (.int xc), some (.int xd), some (.int xe), some (.int (nI (k + 1))), none], w3), Nat.le_refl _, ⟨rfl, ⟨X3, o3, fun j hj => by rw [← hX3, va_up_ne _ _ hj]; exact k2 j hj, by rw [← hX3, va_up_self]; rfl⟩, (t1.fr F3 (by omega)).cg fun i hi => ?_, (e3.tr (F1.mn fun a h => Or.inr h)).tr (F3.mn fun a h => Or.inl h)⟩, ?_⟩
        · unfold tpF
          by_cases y : i = fed + k
          · subst y
            rw [va_up_self, if_pos (by omega), Nat.add_sub_cancel_left]
          · rw [va_up_ne _ _ y]
            by_cases y2 : fed ≤ i ∧ i < fed + k
            · rw [if_pos y2, if_pos (by omega)]
            · rw [if_neg y2, if_neg (by omega)]
        · show jX11_feed g (f + 1 + 1) 1 [] s.1 s.2 = _
          rw [a0]
          generalize byB (wdF xa xb xc xd xe k) (k % 4) = Y at eb wr
          generalize wdF xa xb xc xd xe k = W at eb ⊢
          generalize nI (24 - 8 * (k % 4)) = S at es eb
          generalize nI (8 * (k % 4)) = S2 at em es
          generalize nI (k % 4) = S3 at er em
          simp [jX11_feed, bX11_feed_0, bX11_feed_1, bX11_feed_2, i_aload, i_dup, i_getf, i_iadd, i_iand, i_iastore, i_icge, i_icle, i_iinc, i_iload, i_imul, i_irem, i_ireturn, i_ishr, i_istore, i_isub, i_jmp, i_push, i_putf, msk, lset1, lset2, clr, Value.category, Option.toList, List.cons_append, List.nil_append, List.length_cons, List.length_nil, gf_eq o2, mg_8, mg_1, y2, er, em, es, eb, wr, gf_eq o1, ea, s1, nI_1])
      (fun s hI f => by
        obtain ⟨e1, ⟨x2, o2, k2, y2⟩, e2, e3⟩ := hI
        refine ⟨s.2, x2, ?_, o2, k2, y2, e2, e3⟩
        simp [jX11_feed, bX11_feed_0, bX11_feed_1, bX11_feed_2, i_aload, i_dup, i_getf, i_iadd, i_iand, i_iastore, i_icge, i_icle, i_iinc, i_iload, i_imul, i_irem, i_ireturn, i_ishr, i_istore, i_isub, i_jmp, i_push, i_putf, msk, lset1, lset2, clr, Value.category, Option.toList, List.cons_append, List.nil_append, List.length_cons, List.length_nil, e1, (show (20 : Int32) ≤ nI 20 from by decide), gf_eq o2, mg_1, y2])
    obtain ⟨w1, x2, p1, p2, p3, p4, p5, p6⟩ := L 20 0 ([some (.ref M), some (.int xa), some (.int xb), some (.int xc), some (.int xd), some (.int xe), some (.int (nI 0)), none], w0) (by omega) ⟨rfl, ⟨_, hO, fun j _ => rfl, x1'⟩, hTp.cg fun i hi => by unfold tpF; rw [if_neg (by omega)], Fr.rf _ _⟩ N (by omega)
    simp only [nI_0] at p1
    have XO2 : XO x2 (fed + 20) kept fp δ τ := ⟨p4, by rw [p3 _ (by decide)]; exact x3', by rw [p3 _ (by decide)]; exact x27, by rw [p3 _ (by decide)]; exact x32, by rw [p3 _ (by decide)]; exact x33, by rw [p3 _ (by decide)]; exact x34⟩
    have I2 : RI w1 M (fed + 20) kept fp (tpF tp fed xa xb xc xd xe 20) rf δ τ im x2 := by
      obtain ⟨ck, hk1, hk2⟩ := hKp
      exact ⟨p2, XO2, ⟨p5, hD.fr p6 (fun i h1 h2 => by omega), hR.fr p6 (fun i h1 h2 => by omega), hCp.fr p6 (fun i hi => by omega), hHb.fr p6 (fun i hi => by omega), ⟨ck, hk1.fr p6 (fun i hi => by omega), hk2⟩, hRP.fr p6 (fun i h1 h2 => by omega)⟩, hRZ.fr p6 (fun i h1 h2 => by omega), hrf.fr p6 (by omega)⟩
    refine RZo.ok F0 I2 (by rw [p3 _ (by decide)]; exact x0') ?_ (p6.mn fun a ha => by unfold rg; omega)
    rw [← p1]
    simp [fX11_feed, kX11_feed, ent, entp, jX11_feed, bX11_feed_0, bX11_feed_1, bX11_feed_2, i_aload, i_dup, i_getf, i_iadd, i_iand, i_iastore, i_icge, i_icle, i_iinc, i_iload, i_imul, i_irem, i_ireturn, i_ishr, i_istore, i_isub, i_jmp, i_push, i_putf, msk, lset1, lset2, clr, Value.category, Option.toList, List.cons_append, List.nil_append, List.length_cons, List.length_nil, hN, st_0 hI.1, hw0, gf_eq hO, mg_1, x1', e20, z1]
