/-! ===== what a call is to give, on either side ===== -/
abbrev CF (B E : Nat) : Nat → Prop := fun a => rg B (B + 132) a ∨ E ≤ a
/-- how often the groups' room may have grown, at most: it doubles, or comes to its end -/
def ge1 (nG _rows : Nat) : Nat := if 20000 ≤ nG then 16 else Nat.log2 (2 * nG)
theorem ge1_le (a b : Nat) : ge1 a b ≤ 16 := by
  unfold ge1
  split
  · exact Nat.le_refl _
  · by_cases z : a = 0
    · subst z; decide
    · exact Nat.le_of_lt ((Nat.log2_lt (by omega)).mpr (by show 2 * a < 65536; omega))
theorem ge1_up {a b r r' : Nat} (h1 : a < 20000) (h2 : a < b) (h3 : 2 * a ≤ b ∨ 20000 ≤ b) : ge1 a r + 1 ≤ ge1 b r' := by
  have l1 : Nat.log2 (2 * a) < 16 := by
    by_cases z : a = 0
    · subst z; decide
    · exact (Nat.log2_lt (by omega)).mpr (by show 2 * a < 65536; omega)
  unfold ge1
  rw [if_neg (by omega)]
  by_cases y : 20000 ≤ b
  · rw [if_pos y]
    omega
  · rw [if_neg y, Nat.log2_two_mul (n := b) (by omega)]
    refine Nat.succ_le_succ ?_
    by_cases z : a = 0
    · subst z; exact Nat.zero_le _
    · exact (Nat.le_log2 (by omega)).mpr (Nat.le_trans (Nat.log2_self_le (by omega)) (by omega))
def RM (w w' : Mem) (lev lev' e e' : Nat) : Prop := lev ≤ lev' ∧ w'.2.1 + e ≤ w.2.1 + 2 * (lev' - lev) + 2 + e' ∧ w'.2.2 + 20000 * e ≤ w.2.2 + 40000 * (lev' - lev) + 20000 * e' + 10006
theorem RM.rf {w w' : Mem} {lev e : Nat} (h : w'.2 = w.2) : RM w w' lev lev e e := ⟨Nat.le_refl _, by rw [h]; omega, by rw [h]; omega⟩
/-- the class answers a call that leaves what it keeps as it is -/
def CQ (g : GE) (w : Mem) (B E fed kept : Nat) (fp : Int32) (tp : Nat → Int32) (rf : Nat → Nat) (δ : DE) (τ : TE) (im : Nat → TE) (lev nG : Nat) (res : Option (Rs × Mem)) (o : OUT) : Prop :=
  ∃ w' lev' nG', res = some (rso o, w') ∧ CI g w' B E fed kept fp tp (rfb rf o) δ τ im lev' nG' ∧ FA (CF B E) w w' ∧ RM w w' lev lev' (ge1 nG (δ.1 6)) (ge1 nG' (δ.1 6))
/-- the reference does -/
def RQo (w : Mem) (M fed kept : Nat) (fp : Int32) (tp : Nat → Int32) (rf : Nat → Nat) (δ : DE) (τ : TE) (im : Nat → TE) (res : Option (Rs × Mem)) (o : OUT) : Prop :=
  ∃ w' v x', res = some (.inl (some v), w') ∧ RI w' M fed kept fp tp (rfb rf o) δ τ im x' ∧ x' 0 = cdo o ∧ (∀ u, o = .inl u → v = u) ∧ Fr (rg M (M + 179)) w w'
section
variable {g : GE} {w : Mem} {B E fed kept : Nat} {fp : Int32} {tp : Nat → Int32} {rf : Nat → Nat} {δ : DE} {τ : TE} {im : Nat → TE} {lev nG : Nat} {res : Option (Rs × Mem)}
theorem CQ.ok (hI : CI g w B E fed kept fp tp rf δ τ im lev nG) {v : Value} (h : res = some (.inl (some v), w)) : CQ g w B E fed kept fp tp rf δ τ im lev nG res (.inl v) :=
  ⟨w, lev, nG, h, hI, (Fr.rf _ _).fa, RM.rf rfl⟩
theorem CQ.okw {w' : Mem} (hI : CI g w' B E fed kept fp tp rf δ τ im lev nG) {v : Value} (h : res = some (.inl (some v), w')) (hF : Fr (CF B E) w w') : CQ g w B E fed kept fp tp rf δ τ im lev nG res (.inl v) :=
  ⟨w', lev, nG, h, hI, hF.fa, RM.rf hF.2⟩
theorem CQ.no (hE : B + 132 ≤ E) (hI : CI g w B E fed kept fp tp rf δ τ im lev nG) {c r : Nat} (h : res = some (.inr (exn r), thr w B r rf)) : CQ g w B E fed kept fp tp rf δ τ im lev nG res (.inr (c, r)) :=
  ⟨_, lev, nG, h, ci_thr hE hI, thr_fa.tr' (fun a h => by subst h; left; unfold rg; omega), Nat.le_refl _, by show w.2.1 + 1 + _ ≤ _; omega, by show w.2.2 + 6 + _ ≤ _; omega⟩
end
section
variable {g : GE} {w : Mem} {M fed kept : Nat} {fp : Int32} {tp : Nat → Int32} {rf : Nat → Nat} {δ : DE} {τ : TE} {im : Nat → TE} {x : Nat → Int32} {res : Option (Rs × Mem)}
/-- the object with nothing thrown -/
theorem RI.t0 (h : RI w M fed kept fp tp rf δ τ im x) : ∃ w0, mset w M (.inr (10, mo M (va_up x 0 0))) = w0 ∧ RI w0 M fed kept fp tp rf δ τ im (va_up x 0 0) ∧ Fr (fun a => a = M) w w0 :=
  ⟨_, rfl, h.obj (h.2.1.up (by decide)), Fr.ms w _ rfl⟩
theorem RQo.ok {w0 w' : Mem} (F0 : Fr (fun a => a = M) w w0) {x' : Nat → Int32} (hI : RI w' M fed kept fp tp rf δ τ im x') (hx : x' 0 = 0) {v : Value} (h : res = some (.inl (some v), w')) (hF : Fr (rg M (M + 179)) w0 w') : RQo w M fed kept fp tp rf δ τ im res (.inl v) :=
  ⟨w', v, x', h, hI, hx, fun u e => Sum.inl.inj e, (F0.mn fun a h => by subst h; unfold rg; omega).tr hF⟩
theorem RQo.no {w0 w' : Mem} (F0 : Fr (fun a => a = M) w w0) {x' : Nat → Int32} {c r : Nat} (hI : RI w' M fed kept fp tp (va_up rf r (rf r + 1)) δ τ im (va_up x' 0 (nI c))) {v : Value} (h : res = some (.inl (some v), w')) (hF : Fr (fun a => a = M ∨ a = M + 2) w0 w') : RQo w M fed kept fp tp rf δ τ im res (.inr (c, r)) :=
  ⟨w', v, _, h, hI, va_up_self _ _ _, fun u e => (by cases e), (F0.mn fun a h => by subst h; unfold rg; omega).tr (hF.mn fun a h => by unfold rg; omega)⟩
end
/-! often -/
def oftK (δ : DE) (t h : Nat) : Nat := cntF (fun i => owR δ i t == h + 1) (nR δ)
def oftenO (δ : DE) (a b : Int32) : OUT := match rng a (δ.1 1), rng b (δ.1 0) with
  | some t, some h => .inl (.int (nI (oftK δ t h)))
  | _, _ => .inr (1, 0)
theorem timesOwned_sp {g : GE} (hg : FU g) {w : Mem} {tb E D aM aS aG n1 lev : Nat} {δ : DE} (hd : WF δ) (hG : GT g w tb E D δ (δ.1 6) aM aS aG n1 lev) {t h : Nat} (ht : t < 5) (hh : h < 4) : fX7_timesOwned g [.ref tb, .int (nI t), .int (nI h)] w = some (.inl (some (.int (nI (oftK δ t h)))), w) := by
  have hT := hG.tb
  have hn := nR_le hd
  have L := lpF (fun f (s : Lv × Mem) => jX7_timesOwned g f 1 [] s.1 s.2) (fun k => ([some (.ref tb), some (.int (nI t)), some (.int (nI h)), some (.int (nI (cntF (fun i => owR δ i t == h + 1) k))), some (.int (nI k))], w)) (some (.inl (some (.int (nI (oftK δ t h)))), w)) 2 1 (nR δ)
    (fun k hk f => by
      refine ⟨f, Nat.le_refl _, ?_⟩
      have o := ownerOf_sp hd hG hk ht
      have lo := owR_le hd k t
      have b1 := hd.1.1
      have m : (nI (owR δ k t) - 1 = nI h) ↔ owR δ k t = h + 1 := nI_m1e (by omega) (by omega)
      by_cases z : owR δ k t = h + 1
      · simp [jX7_timesOwned, bX7_timesOwned_0, bX7_timesOwned_1, bX7_timesOwned_2, i_aload, i_getf, i_icge, i_icne, i_iinc, i_iload, i_ireturn, i_istore, i_jmp, i_push, msk, lset1, lset2, clr, Value.category, Option.toList, List.cons_append, List.nil_append, List.length_cons, List.length_nil, gf_eq hT, nI_ge hk (by omega), cvk_2 hT o, nI_pred, nI_1, cntF, z]
      · simp [jX7_timesOwned, bX7_timesOwned_0, bX7_timesOwned_1, bX7_timesOwned_2, i_aload, i_getf, i_icge, i_icne, i_iinc, i_iload, i_ireturn, i_istore, i_jmp, i_push, msk, lset1, lset2, clr, Value.category, Option.toList, List.cons_append, List.nil_append, List.length_cons, List.length_nil, gf_eq hT, nI_ge hk (by omega), cvk_2 hT o, mt m.mp z, nI_1, cntF, z])
    (fun f => by
      simp [jX7_timesOwned, bX7_timesOwned_0, bX7_timesOwned_1, bX7_timesOwned_2, i_aload, i_getf, i_icge, i_icne, i_iinc, i_iload, i_ireturn, i_istore, i_jmp, i_push, msk, lset1, lset2, clr, Value.category, Option.toList, List.cons_append, List.nil_append, List.length_cons, List.length_nil, gf_eq hT, oftK])
  obtain ⟨N, hN⟩ : ∃ N, g.1 = N + 1 := ⟨g.1 - 1, by omega⟩
  rw [← L N (by omega)]
  simp [fX7_timesOwned, kX7_timesOwned, ent, entp, jX7_timesOwned, bX7_timesOwned_0, bX7_timesOwned_1, bX7_timesOwned_2, i_aload, i_getf, i_icge, i_icne, i_iinc, i_iload, i_ireturn, i_istore, i_jmp, i_push, msk, lset1, lset2, clr, Value.category, Option.toList, List.cons_append, List.nil_append, List.length_cons, List.length_nil, hN, nI_0, cntF]
theorem often_c {g : GE} (hg : FU g) {w : Mem} {B E fed kept : Nat} {fp : Int32} {tp : Nat → Int32} {rf : Nat → Nat} {δ : DE} {τ : TE} {im : Nat → TE} {lev nG : Nat} (hE : B + 132 ≤ E) (hI : CI g w B E fed kept fp tp rf δ τ im lev nG) (a b : Int32) : CQ g w B E fed kept fp tp rf δ τ im lev nG (fX10_often g [.ref B, .int a, .int b] w) (oftenO δ a b) := by
  obtain ⟨D, D', ⟨-, hB, -, hD, -, -, hr, hd, -⟩, ⟨aM, aS, aG, n1, hG, -⟩, -⟩ := id hI
  obtain ⟨b1, b2, b3, b4, b5, b6, b7, b8⟩ := id hd.1
  have hT := hG.tb
  unfold oftenO
  have q1 := needThing_sp hg hB hr hD b2 a
  cases h1 : rng a (δ.1 1) with
  | none =>
    rw [h1] at q1
    simp only [tst, Option.isSome, Bool.false_eq_true, if_false] at q1
    refine CQ.no hE hI ?_
    simp [fX10_often, kX10_often, ent, entp, bX10_often_0, i_aload, i_getf, i_iload, i_ireturn, msk, lset1, lset2, clr, Value.category, Option.toList, List.cons_append, List.nil_append, List.length_cons, List.length_nil, cxe_1 hB q1]
  | some t =>
    rw [h1] at q1
    simp only [tst, Option.isSome, if_true] at q1
    obtain ⟨l1, e⟩ := rng_some (by omega) h1
    have q2 := needHeir_sp hg hB hr hD b1 b
    cases h2 : rng b (δ.1 0) with
    | none =>
      rw [h2] at q2
      simp only [tst, Option.isSome, Bool.false_eq_true, if_false] at q2
      refine CQ.no hE hI ?_
      simp [fX10_often, kX10_often, ent, entp, bX10_often_0, i_aload, i_getf, i_iload, i_ireturn, msk, lset1, lset2, clr, Value.category, Option.toList, List.cons_append, List.nil_append, List.length_cons, List.length_nil, cxk_1 hB q1, cxe_1 hB q2]
    | some h =>
      rw [h2] at q2
      simp only [tst, Option.isSome, if_true] at q2
      obtain ⟨l2, e'⟩ := rng_some (by omega) h2
      have q3 := timesOwned_sp hg hd hG (t := t) (h := h) (by omega) (by omega)
      rw [← e, ← e'] at q3
      refine CQ.ok hI ?_
      simp [fX10_often, kX10_often, ent, entp, bX10_often_0, i_aload, i_getf, i_iload, i_ireturn, msk, lset1, lset2, clr, Value.category, Option.toList, List.cons_append, List.nil_append, List.length_cons, List.length_nil, cxk_1 hB q1, cxk_1 hB q2, gf_eq hB, cvk_2 hT q3]
theorem oftenBy_sp {g : GE} (hg : FU g) {w : Mem} {M : Nat} {x : Nat → Int32} {δ : DE} (hd : WF δ) (hO : MO w M x) (hx : x 27 = nI (nR δ)) (hR : RT w M δ (δ.1 6)) {t h : Nat} (ht : t < 5) (hh : h < 4) : fX11_oftenBy g [.ref M, .int (nI t), .int (nI h)] w = some (.inl (some (.int (nI (oftK δ t h)))), w) := by
  have hn := nR_le hd
  have L := lpF (fun f (s : Lv × Mem) => jX11_oftenBy g f 1 [] s.1 s.2) (fun k => ([some (.ref M), some (.int (nI t)), some (.int (nI h)), some (.int (nI (cntF (fun i => owR δ i t == h + 1) k))), some (.int (nI k))], w)) (some (.inl (some (.int (nI (oftK δ t h)))), w)) 2 1 (nR δ)
    (fun k hk f => by
      refine ⟨f, Nat.le_refl _, ?_⟩
      have o := rgoesBy_sp (g := g) hd hO hR hk ht
      have lo := owR_le hd k t
      have b1 := hd.1.1
      have m : (nI (owR δ k t) - 1 = nI h) ↔ owR δ k t = h + 1 := nI_m1e (by omega) (by omega)
      by_cases z : owR δ k t = h + 1
      · simp [jX11_oftenBy, bX11_oftenBy_0, bX11_oftenBy_1, bX11_oftenBy_2, i_aload, i_getf, i_iadd, i_icge, i_icne, i_iinc, i_iload, i_ireturn, i_istore, i_jmp, i_push, msk, lset1, lset2, clr, Value.category, Option.toList, List.cons_append, List.nil_append, List.length_cons, List.length_nil, gf_eq hO, mg_27, hx, nI_ge hk (by omega), cvk_2 hO o, nI_pred, nI_1, cntF, z]
      · simp [jX11_oftenBy, bX11_oftenBy_0, bX11_oftenBy_1, bX11_oftenBy_2, i_aload, i_getf, i_iadd, i_icge, i_icne, i_iinc, i_iload, i_ireturn, i_istore, i_jmp, i_push, msk, lset1, lset2, clr, Value.category, Option.toList, List.cons_append, List.nil_append, List.length_cons, List.length_nil, gf_eq hO, mg_27, hx, nI_ge hk (by omega), cvk_2 hO o, mt m.mp z, nI_1, cntF, z])
    (fun f => by
      simp [jX11_oftenBy, bX11_oftenBy_0, bX11_oftenBy_1, bX11_oftenBy_2, i_aload, i_getf, i_iadd, i_icge, i_icne, i_iinc, i_iload, i_ireturn, i_istore, i_jmp, i_push, msk, lset1, lset2, clr, Value.category, Option.toList, List.cons_append, List.nil_append, List.length_cons, List.length_nil, gf_eq hO, mg_27, hx, oftK])
  obtain ⟨N, hN⟩ : ∃ N, g.1 = N + 1 := ⟨g.1 - 1, by omega⟩
  rw [← L N (by omega)]
  simp [fX11_oftenBy, kX11_oftenBy, ent, entp, jX11_oftenBy, bX11_oftenBy_0, bX11_oftenBy_1, bX11_oftenBy_2, i_aload, i_getf, i_iadd, i_icge, i_icne, i_iinc, i_iload, i_ireturn, i_istore, i_jmp, i_push, msk, lset1, lset2, clr, Value.category, Option.toList, List.cons_append, List.nil_append, List.length_cons, List.length_nil, hN, nI_0, cntF]
theorem often_r {g : GE} (hg : FU g) {w : Mem} {M fed kept : Nat} {fp : Int32} {tp : Nat → Int32} {rf : Nat → Nat} {δ : DE} {τ : TE} {im : Nat → TE} {x : Nat → Int32} (hd : WF δ) (hI : RI w M fed kept fp tp rf δ τ im x) (a b : Int32) : RQo w M fed kept fp tp rf δ τ im (fX11_often g [.ref M, .int a, .int b] w) (oftenO δ a b) := by
  obtain ⟨w0, hw0, I0, F0⟩ := hI.t0
  obtain ⟨b1, b2, b3, b4, b5, b6, b7, b8⟩ := id hd.1
  obtain ⟨hO, ⟨-, -, x27, -⟩, ⟨-, hD, hR, -⟩, -⟩ := id I0
  have x0 : (va_up x 0 0) 0 = 0 := va_up_self _ _ _
  obtain ⟨N, hN⟩ : ∃ N, g.1 = N + 4 := ⟨g.1 - 4, by omega⟩
  have q1 := isThing_sp hg hO hD b2 a
  have q2 := isHeir_sp hg hO hD b1 b
  unfold oftenO
  cases h1 : rng a (δ.1 1) with
  | none =>
    rw [h1] at q1
    simp only [bI, Option.isSome, Bool.false_eq_true, if_false] at q1
    obtain ⟨w1, p1, p2, p3⟩ := bad1_sp hg I0 x0 (c := 1) (r := 0) (C := 1) (R := 0) rfl rfl (by decide) (by decide)
    refine RQo.no (v := .int 0) F0 p2 ?_ p3
    simp [fX11_often, kX11_often, ent, entp, jX11_often, bX11_often_0, bX11_often_1, bX11_often_2, i_aload, i_ifeq, i_ifne, i_iload, i_ireturn, i_jmp, i_push, i_putf, msk, lset1, lset2, clr, Value.category, Option.toList, List.cons_append, List.nil_append, List.length_cons, List.length_nil, hN, st_0 hI.1, hw0, cvk_1 hO q1, cvk_3 hO p1]
  | some t =>
    rw [h1] at q1
    simp only [bI, Option.isSome, if_true] at q1
    obtain ⟨l1, e⟩ := rng_some (by omega) h1
    cases h2 : rng b (δ.1 0) with
    | none =>
      rw [h2] at q2
      simp only [bI, Option.isSome, Bool.false_eq_true, if_false] at q2
      obtain ⟨w1, p1, p2, p3⟩ := bad1_sp hg I0 x0 (c := 1) (r := 0) (C := 1) (R := 0) rfl rfl (by decide) (by decide)
      refine RQo.no (v := .int 0) F0 p2 ?_ p3
      simp [fX11_often, kX11_often, ent, entp, jX11_often, bX11_often_0, bX11_often_1, bX11_often_2, i_aload, i_ifeq, i_ifne, i_iload, i_ireturn, i_jmp, i_push, i_putf, msk, lset1, lset2, clr, Value.category, Option.toList, List.cons_append, List.nil_append, List.length_cons, List.length_nil, hN, st_0 hI.1, hw0, cvk_1 hO q1, cvk_1 hO q2, cvk_3 hO p1]
    | some h =>
      rw [h2] at q2
      simp only [bI, Option.isSome, if_true] at q2
      obtain ⟨l2, e'⟩ := rng_some (by omega) h2
      have q3 := oftenBy_sp hg hd hO x27 hR (t := t) (h := h) (by omega) (by omega)
      rw [← e, ← e'] at q3
      refine RQo.ok F0 I0 x0 ?_ (Fr.rf _ _)
      simp [fX11_often, kX11_often, ent, entp, jX11_often, bX11_often_0, bX11_often_1, bX11_often_2, i_aload, i_ifeq, i_ifne, i_iload, i_ireturn, i_jmp, i_push, i_putf, msk, lset1, lset2, clr, Value.category, Option.toList, List.cons_append, List.nil_append, List.length_cons, List.length_nil, hN, st_0 hI.1, hw0, cvk_1 hO q1, cvk_1 hO q2, cvk_3 hO (bad0_sp hg hO x0 1 0), cvk_2 hO q3]
