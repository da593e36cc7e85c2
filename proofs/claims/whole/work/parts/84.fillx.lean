/-! ===== a blot is filled: what stands behind its values stays ===== -/
def BLX (c9 : Nat → Int32) (w : Mem) (a av : Nat) (l : List Nat) (kd wd pt pl : Int32) : Prop := OB w a 1 [.ref av, .int (nI l.length), .int kd, .int wd, .int pt, .int pl] ∧ ∃ c, IA w av 100 c ∧ (∀ j, j < l.length → c j = nI (l.getD j 0)) ∧ ∀ j, l.length ≤ j → j < 100 → c j = c9 j
theorem BLX.add {c9 : Nat → Int32} {w : Mem} {a av v : Nat} {l : List Nat} {kd wd pt pl : Int32} (h : BLX c9 w a av l kd wd pt pl) (hav : a ≠ av) : BLX c9 (mset (wi w 0 av l.length (nI v)) a (.inr (1, [.ref av, .int (nI (l.length + 1)), .int kd, .int wd, .int pt, .int pl]))) a av (l ++ [v]) kd wd pt pl := by
  obtain ⟨h1, c, h2, h3, h4⟩ := h
  have e : (l ++ [v]).length = l.length + 1 := by simp
  refine ⟨?_, _, (h2.up l.length (nI v)).ms (fun z => hav z.symm), fun j hj => ?_, fun j hj hj2 => ?_⟩
  · rw [e]
    exact ms_at _ _ _
  · by_cases y : j = l.length
    · subst y
      rw [va_up_self, getD_last]
    · have hj' : j < l.length := by simp at hj; omega
      rw [va_up_ne _ _ y, h3 j hj', getD_app hj']
  · rw [va_up_ne _ _ (by omega), h4 j (by omega) hj2]
theorem addValuesX_sp {g : GE} (hg : FU g) {w : Mem} {a av f0 t0 : Nat} {l : List Nat} {kd wd pt pl : Int32} {c9 : Nat → Int32} (h : BLX c9 w a av l kd wd pt pl) (hav : a ≠ av) (h1 : f0 ≤ t0 + 1) (h2 : l.length + (t0 + 1 - f0) ≤ 100) (h3 : t0 < 1000) :
    ∃ w', fX1_addValues g [.ref a, .int (nI f0), .int (nI t0)] w = some (.inl none, w') ∧ BLX c9 w' a av (l ++ rL f0 (t0 + 1 - f0)) kd wd pt pl ∧ Fr (fun q => q = a ∨ q = av) w w' := by
  obtain ⟨N, hN⟩ : ∃ N, g.1 = N + 1 := ⟨g.1 - 1, by omega⟩
  have L := lpR (fun f (s : Lv × Mem) => jX1_addValues g f 1 [] s.1 s.2) (fun k s => s.1 = [some (.ref a), none, some (.int (nI t0)), some (.int (nI (f0 + k)))] ∧ BLX c9 s.2 a av (l ++ rL f0 k) kd wd pt pl ∧ Fr (fun q => q = a ∨ q = av) w s.2)
    (fun z => ∃ w', z = some (.inl none, w') ∧ BLX c9 w' a av (l ++ rL f0 (t0 + 1 - f0)) kd wd pt pl ∧ Fr (fun q => q = a ∨ q = av) w w') 1 2 (t0 + 1 - f0)
    (fun k s hk hI f => by
      obtain ⟨e1, e2, e3⟩ := hI
      have ll : (l ++ rL f0 k).length = l.length + k := by simp [rL_len]
      have ek := nI_nlt (a := t0) (b := f0 + k) (by omega) (by omega)
      have e2' := e2.add (v := f0 + k) hav
      obtain ⟨o1, c1, a1, k1⟩ := id e2
      obtain ⟨fc, hfc, -⟩ := id a1
      rw [ll] at o1
      have e4 : ¬ (100 : Int32) ≤ nI (l.length + k) := nI_ge (b := 100) (by omega) (by decide)
      have e4' : ¬ Int32.ofNat 100 ≤ nI (l.length + k) := e4
      rw [ll] at e2'
      obtain ⟨w1, hw1⟩ : ∃ q, wi s.2 0 av (l.length + k) (nI (f0 + k)) = q := ⟨_, rfl⟩
      rw [hw1] at e2'
      have F1 : Fr (fun q => q = av) s.2 w1 := hw1 ▸ Fr.wi _ _ _ _ rfl
      have o2 := F1.at o1 hav
      have wr := a1.wr (j := l.length + k) (by omega) (by decide) (nI (f0 + k))
      rw [hw1] at wr
      obtain ⟨w2, hw2⟩ : ∃ q, mset w1 a (.inr (1, [.ref av, .int (nI (l.length + k + 1)), .int kd, .int wd, .int pt, .int pl])) = q := ⟨_, rfl⟩
      rw [hw2] at e2'
      have F2 : Fr (fun q => q = a) w1 w2 := hw2 ▸ Fr.ms _ _ rfl
      have er : l ++ rL f0 k ++ [f0 + k] = l ++ rL f0 (k + 1) := by rw [List.append_assoc]; rfl
      rw [er] at e2'
      refine Or.inr ⟨f, ([some (.ref a), none, some (.int (nI t0)), some (.int (nI (f0 + (k + 1))))], w2), Nat.le_refl _, ⟨rfl, e2', (e3.tr (F1.mn fun q h => Or.inr h)).tr (F2.mn fun q h => Or.inl h)⟩, ?_⟩
      have ef : nI (f0 + k) + 1 = nI (f0 + (k + 1)) := nI_1 (f0 + k)
      simp [jX1_addValues, bX1_addValues_0, bX1_addValues_1, bX1_addValues_2, i_alen, i_aload, i_dup, i_getf, i_iadd, i_iastore, i_icge, i_icgt, i_iinc, i_iload, i_istore, i_jmp, i_push, i_putf, i_return, msk, lset1, lset2, clr, Value.category, Option.toList, List.cons_append, List.nil_append, List.length_cons, List.length_nil, e1, ek, gf_eq o1, hfc, e4, e4', wr, gf_eq o2, nI_1, sf_i o2, hw2, ef])
    (fun s hI f => by
      obtain ⟨e1, e2, e3⟩ := hI
      have ek := nI_lt (a := t0) (b := f0 + (t0 + 1 - f0)) (by omega) (by omega)
      refine ⟨s.2, ?_, e2, e3⟩
      simp [jX1_addValues, bX1_addValues_0, bX1_addValues_1, bX1_addValues_2, i_alen, i_aload, i_dup, i_getf, i_iadd, i_iastore, i_icge, i_icgt, i_iinc, i_iload, i_istore, i_jmp, i_push, i_putf, i_return, msk, lset1, lset2, clr, Value.category, Option.toList, List.cons_append, List.nil_append, List.length_cons, List.length_nil, e1, ek])
  have L1 := L (t0 + 1 - f0) 0 ([some (.ref a), none, some (.int (nI t0)), some (.int (nI (f0 + 0)))], w) (by omega) ⟨rfl, by simpa [rL] using h, Fr.rf _ _⟩ N (by omega)
  have e : fX1_addValues g [.ref a, .int (nI f0), .int (nI t0)] w = jX1_addValues g N 1 [] [some (.ref a), none, some (.int (nI t0)), some (.int (nI (f0 + 0)))] w := by
    rw [Nat.add_zero]
    simp [fX1_addValues, kX1_addValues, ent, entp, jX1_addValues, bX1_addValues_0, bX1_addValues_1, bX1_addValues_2, i_alen, i_aload, i_dup, i_getf, i_iadd, i_iastore, i_icge, i_icgt, i_iinc, i_iload, i_istore, i_jmp, i_push, i_putf, i_return, msk, lset1, lset2, clr, Value.category, Option.toList, List.cons_append, List.nil_append, List.length_cons, List.length_nil, hN]
  rw [e]
  exact L1
theorem fillX_0 {w : Mem} {a av : Nat} {s0 k0 w0 pt pl : Int32} (ho : OB w a 1 [.ref av, .int s0, .int k0, .int w0, .int pt, .int pl]) {c9 : Nat → Int32} (hv : IA w av 100 c9) (n5 : a ≠ av) (K W : Int32) : ∃ w1 w2 w3, sf w a 1 2 .int (.int K) = some w1 ∧ sf w1 a 1 3 .int (.int W) = some w2 ∧ sf w2 a 1 1 .int (.int 0) = some w3 ∧ BLX c9 w3 a av [] K W pt pl ∧ Fr (fun q => q = a) w w3 := by
  have o1 : OB (mset w a (.inr (1, [.ref av, .int s0, .int K, .int w0, .int pt, .int pl]))) a 1 [.ref av, .int s0, .int K, .int w0, .int pt, .int pl] := ms_at _ _ _
  have o2 : OB (mset (mset w a (.inr (1, [.ref av, .int s0, .int K, .int w0, .int pt, .int pl]))) a (.inr (1, [.ref av, .int s0, .int K, .int W, .int pt, .int pl]))) a 1 [.ref av, .int s0, .int K, .int W, .int pt, .int pl] := ms_at _ _ _
  refine ⟨_, _, _, sf_i ho 2 K (by simp), sf_i o1 3 W (by simp), sf_i o2 1 0 (by simp), ⟨ms_at _ _ _, c9, ?_, ⟨fun j hj => (by cases hj), fun j _ _ => rfl⟩⟩, ?_⟩
  · exact ((hv.ms fun z => n5 z.symm).ms fun z => n5 z.symm).ms fun z => n5 z.symm
  · exact ((Fr.ms (S := fun q => q = a) _ _ rfl).tr (Fr.ms _ _ rfl)).tr (Fr.ms _ _ rfl)
theorem fillX_fin {g : GE} (hg : FU g) {w : Mem} {D a av aw H kd wd : Nat} {fs : List Value} {wf : Nat → Nat} {cw : Nat → Int32} {s0 k0 w0 pt pl K W : Int32} (hD : OB w D 2 fs) (e9 : fs[9]? = some (.int (nI H))) (e1 : fs[1]? = some (.ref aw)) (hw : IA w aw 4 cw) (hcw : ∀ h, h < H → cw h = nI (wf h) ∧ wf h < 100) (hH : H ≤ 4) (ho : OB w a 1 [.ref av, .int s0, .int k0, .int w0, .int pt, .int pl]) {c9 : Nat → Int32} (hv : IA w av 100 c9) (hk : kd ≤ 2) (hwd : wd ≤ 9) (n1 : a ≠ D) (n2 : av ≠ D) (n3 : a ≠ aw) (n4 : av ≠ aw) (n5 : a ≠ av) (hK : nI kd = K) (hW : nI wd = W) :
    ∃ w', fX2_fill g [.ref D, .ref a, .int K, .int W] w = some (.inl none, w') ∧ BLX c9 w' a av (flL H wf kd wd) K W pt pl ∧ Fr (fun q => q = a ∨ q = av) w w' := by
  obtain ⟨w1, w2, w3, r1, r2, r3, B3, F3⟩ := fillX_0 ho hv n5 K W
  obtain ⟨N, hN⟩ : ∃ N, g.1 = N + 6 := ⟨g.1 - 6, by omega⟩
  have F3' : Fr (fun q => q = a ∨ q = av) w w3 := F3.mn fun q h => Or.inl h
  have : kd = 0 ∨ kd = 1 ∨ kd = 2 := by omega
  rcases this with z | z | z
  · subst z
    have eK : K = 0 := hK.symm
    subst eK
    have : wd = 0 ∨ wd = 1 ∨ wd = 2 ∨ 3 ≤ wd := by omega
    rcases this with y | y | y | y
    · subst y
      have eW : W = 0 := hW.symm
      subst eW
      obtain ⟨w4, q1, q2, q3⟩ := addValuesX_sp hg B3 n5 (f0 := 0) (t0 := 99) (by decide) (by decide) (by decide)
      have q1' : fX1_addValues g [.ref a, .int 0, .int 99] w3 = some (.inl none, w4) := q1
      refine ⟨w4, ?_, ?_, F3'.tr q3⟩
      · simp [fX2_fill, kX2_fill, ent, entp, jX2_fill, bX2_fill_0, bX2_fill_1, bX2_fill_2, bX2_fill_3, bX2_fill_4, bX2_fill_5, bX2_fill_6, bX2_fill_7, bX2_fill_8, bX2_fill_9, bX2_fill_10, i_aload, i_getf, i_iaload, i_iceq, i_icge, i_icgt, i_icne, i_ifeq, i_ifne, i_iinc, i_iload, i_istore, i_jmp, i_push, i_putf, i_return, msk, lset1, lset2, clr, Value.category, Option.toList, List.cons_append, List.nil_append, List.length_cons, List.length_nil, hN, r1, r2, r3, cvk_2 B3.1 q1']
      · have e : flL H wf 0 0 = [] ++ rL 0 (99 + 1 - 0) := by
          rw [List.nil_append, show 99 + 1 - 0 = 100 from rfl, ← fl_00]
          rfl
        rw [e]; exact q2
    · subst y
      have eW : W = 1 := hW.symm
      subst eW
      obtain ⟨w4, q1, q2, q3⟩ := addValuesX_sp hg B3 n5 (f0 := 0) (t0 := 9) (by decide) (by decide) (by decide)
      have q1' : fX1_addValues g [.ref a, .int 0, .int 9] w3 = some (.inl none, w4) := q1
      refine ⟨w4, ?_, ?_, F3'.tr q3⟩
      · simp [fX2_fill, kX2_fill, ent, entp, jX2_fill, bX2_fill_0, bX2_fill_1, bX2_fill_2, bX2_fill_3, bX2_fill_4, bX2_fill_5, bX2_fill_6, bX2_fill_7, bX2_fill_8, bX2_fill_9, bX2_fill_10, i_aload, i_getf, i_iaload, i_iceq, i_icge, i_icgt, i_icne, i_ifeq, i_ifne, i_iinc, i_iload, i_istore, i_jmp, i_push, i_putf, i_return, msk, lset1, lset2, clr, Value.category, Option.toList, List.cons_append, List.nil_append, List.length_cons, List.length_nil, hN, r1, r2, r3, cvk_2 B3.1 q1']
      · have e : flL H wf 0 1 = [] ++ rL 0 (9 + 1 - 0) := fl_01
        rw [e]; exact q2
    · subst y
      have eW : W = 2 := hW.symm
      subst eW
      obtain ⟨w4, q1, q2, q3⟩ := addValuesX_sp hg B3 n5 (f0 := 10) (t0 := 99) (by decide) (by decide) (by decide)
      have q1' : fX1_addValues g [.ref a, .int 10, .int 99] w3 = some (.inl none, w4) := q1
      refine ⟨w4, ?_, ?_, F3'.tr q3⟩
      · simp [fX2_fill, kX2_fill, ent, entp, jX2_fill, bX2_fill_0, bX2_fill_1, bX2_fill_2, bX2_fill_3, bX2_fill_4, bX2_fill_5, bX2_fill_6, bX2_fill_7, bX2_fill_8, bX2_fill_9, bX2_fill_10, i_aload, i_getf, i_iaload, i_iceq, i_icge, i_icgt, i_icne, i_ifeq, i_ifne, i_iinc, i_iload, i_istore, i_jmp, i_push, i_putf, i_return, msk, lset1, lset2, clr, Value.category, Option.toList, List.cons_append, List.nil_append, List.length_cons, List.length_nil, hN, r1, r2, r3, cvk_2 B3.1 q1']
      · have e : flL H wf 0 2 = [] ++ rL 10 (99 + 1 - 10) := fl_02
        rw [e]; exact q2
    · have gW : 2 < W := by rw [← hW]; exact nI_lt (a := 2) (by omega) (by omega)
      refine ⟨w3, ?_, ?_, F3'⟩
      · simp [fX2_fill, kX2_fill, ent, entp, jX2_fill, bX2_fill_0, bX2_fill_1, bX2_fill_2, bX2_fill_3, bX2_fill_4, bX2_fill_5, bX2_fill_6, bX2_fill_7, bX2_fill_8, bX2_fill_9, bX2_fill_10, i_aload, i_getf, i_iaload, i_iceq, i_icge, i_icgt, i_icne, i_ifeq, i_ifne, i_iinc, i_iload, i_istore, i_jmp, i_push, i_putf, i_return, msk, lset1, lset2, clr, Value.category, Option.toList, List.cons_append, List.nil_append, List.length_cons, List.length_nil, hN, r1, r2, r3, gW]
      · have e : flL H wf 0 wd = [] := fil_no (fun v => by show fl0 wd v = false; simp [fl0]; omega) 100
        rw [e]; exact B3
  · subst z
    have eK : K = 1 := hK.symm
    subst eK
    obtain ⟨N1, hN1⟩ : ∃ N, g.1 = N + 1 := ⟨g.1 - 1, by omega⟩
    have L := lpR (fun f (s : Lv × Mem) => jX2_fill g f 1 [] s.1 s.2) (fun k s => s.1 = [some (.ref D), some (.ref a), none, some (.int W), some (.int (nI k))] ∧ BLX c9 s.2 a av (fil (fl1 H wf wd) k) 1 W pt pl ∧ Fr (fun q => q = a ∨ q = av) w s.2)
      (fun z => ∃ w', z = some (.inl none, w') ∧ BLX c9 w' a av (fil (fl1 H wf wd) H) 1 W pt pl ∧ Fr (fun q => q = a ∨ q = av) w w') 3 2 H
      (fun k s hk' hI f => by
        obtain ⟨i1, i2, i3⟩ := hI
        have hD1 := i3.at hD (by omega)
        have hw1 := hw.fr i3 (by omega)
        obtain ⟨c1, c2⟩ := hcw k hk'
        have ek := nI_ge hk' (by omega)
        have lk : (fil (fl1 H wf wd) k).length ≤ k := by rw [fil_len]; exact cntF_le _ _
        have rdw : gi s.2 0 aw (nI k) = some (nI (wf k)) := by rw [hw1.rd (by omega) (by decide), c1]
        have mq : (W = nI (wf k)) ↔ wd = wf k := by rw [← hW]; exact nI_eq (by omega) (by omega)
        have m0 : (W = 0) ↔ wd = 0 := by rw [← hW]; exact nI_eq (b := 0) (by omega) (by decide)
        by_cases y : wd = 0 ∨ wf k = wd
        · have ep : fl1 H wf wd k = true := by simp [fl1, hk', y]
          have er : fil (fl1 H wf wd) (k + 1) = fil (fl1 H wf wd) k ++ rL k (k + 1 - k) := by
            show (if _ then _ else _) = _
            rw [if_pos ep, Nat.add_sub_cancel_left]
            rfl
          obtain ⟨w4, q1, q2, q3⟩ := addValuesX_sp hg i2 n5 (f0 := k) (t0 := k) (by omega) (by omega) (by omega)
          rw [← er] at q2
          refine Or.inr ⟨f, ([some (.ref D), some (.ref a), none, some (.int W), some (.int (nI (k + 1)))], w4), Nat.le_refl _, ⟨rfl, q2, i3.tr q3⟩, ?_⟩
          by_cases y0 : W = 0
          · simp [jX2_fill, bX2_fill_0, bX2_fill_1, bX2_fill_2, bX2_fill_3, bX2_fill_4, bX2_fill_5, bX2_fill_6, bX2_fill_7, bX2_fill_8, bX2_fill_9, bX2_fill_10, i_aload, i_getf, i_iaload, i_iceq, i_icge, i_icgt, i_icne, i_ifeq, i_ifne, i_iinc, i_iload, i_istore, i_jmp, i_push, i_putf, i_return, msk, lset1, lset2, clr, Value.category, Option.toList, List.cons_append, List.nil_append, List.length_cons, List.length_nil, i1, gf_eq hD1, e9, ek, eq_true y0, cvk_2 i2.1 q1, nI_1]
          · have y1 : W = nI (wf k) := mq.mpr (by
              rcases y with y | y
              · exact absurd (m0.mpr y) y0
              · exact y.symm)
            rw [← y1] at rdw
            simp [jX2_fill, bX2_fill_0, bX2_fill_1, bX2_fill_2, bX2_fill_3, bX2_fill_4, bX2_fill_5, bX2_fill_6, bX2_fill_7, bX2_fill_8, bX2_fill_9, bX2_fill_10, i_aload, i_getf, i_iaload, i_iceq, i_icge, i_icgt, i_icne, i_ifeq, i_ifne, i_iinc, i_iload, i_istore, i_jmp, i_push, i_putf, i_return, msk, lset1, lset2, clr, Value.category, Option.toList, List.cons_append, List.nil_append, List.length_cons, List.length_nil, i1, gf_eq hD1, e9, e1, ek, y0, rdw, cvk_2 i2.1 q1, nI_1]
        · have ep : fl1 H wf wd k = false := by simp [fl1, y]
          have er : fil (fl1 H wf wd) (k + 1) = fil (fl1 H wf wd) k := by
            show (if _ then _ else _) = _
            rw [if_neg (by rw [ep]; exact Bool.false_ne_true)]
          rw [← er] at i2
          have y0 : ¬ W = 0 := fun q => y (Or.inl (m0.mp q))
          have y1 : ¬ W = nI (wf k) := fun q => y (Or.inr (mq.mp q).symm)
          refine Or.inr ⟨f + 1, ([some (.ref D), some (.ref a), none, some (.int W), some (.int (nI (k + 1)))], s.2), by omega, ⟨rfl, i2, i3⟩, ?_⟩
          rw [show f + 3 = (f + 1) + 2 from rfl]
          generalize f + 1 = F
          simp [jX2_fill, bX2_fill_0, bX2_fill_1, bX2_fill_2, bX2_fill_3, bX2_fill_4, bX2_fill_5, bX2_fill_6, bX2_fill_7, bX2_fill_8, bX2_fill_9, bX2_fill_10, i_aload, i_getf, i_iaload, i_iceq, i_icge, i_icgt, i_icne, i_ifeq, i_ifne, i_iinc, i_iload, i_istore, i_jmp, i_push, i_putf, i_return, msk, lset1, lset2, clr, Value.category, Option.toList, List.cons_append, List.nil_append, List.length_cons, List.length_nil, i1, gf_eq hD1, e9, e1, ek, y0, rdw, y1, nI_1])
      (fun s hI f => by
        obtain ⟨i1, i2, i3⟩ := hI
        have hD1 := i3.at hD (by omega)
        refine ⟨s.2, ?_, i2, i3⟩
        simp [jX2_fill, bX2_fill_0, bX2_fill_1, bX2_fill_2, bX2_fill_3, bX2_fill_4, bX2_fill_5, bX2_fill_6, bX2_fill_7, bX2_fill_8, bX2_fill_9, bX2_fill_10, i_aload, i_getf, i_iaload, i_iceq, i_icge, i_icgt, i_icne, i_ifeq, i_ifne, i_iinc, i_iload, i_istore, i_jmp, i_push, i_putf, i_return, msk, lset1, lset2, clr, Value.category, Option.toList, List.cons_append, List.nil_append, List.length_cons, List.length_nil, i1, gf_eq hD1, e9])
    obtain ⟨w4, q1, q2, q3⟩ := L H 0 ([some (.ref D), some (.ref a), none, some (.int W), some (.int (nI 0))], w3) (by omega) ⟨rfl, B3, F3'⟩ N1 (by omega)
    simp only [nI_0] at q1
    refine ⟨w4, ?_, ?_, q3⟩
    · rw [← q1]
      simp [fX2_fill, kX2_fill, ent, entp, jX2_fill, bX2_fill_0, bX2_fill_1, bX2_fill_2, bX2_fill_3, bX2_fill_4, bX2_fill_5, bX2_fill_6, bX2_fill_7, bX2_fill_8, bX2_fill_9, bX2_fill_10, i_aload, i_getf, i_iaload, i_iceq, i_icge, i_icgt, i_icne, i_ifeq, i_ifne, i_iinc, i_iload, i_istore, i_jmp, i_push, i_putf, i_return, msk, lset1, lset2, clr, Value.category, Option.toList, List.cons_append, List.nil_append, List.length_cons, List.length_nil, hN1, r1, r2, r3]
    · have e : flL H wf 1 wd = fil (fl1 H wf wd) H := by
        have h1 := fil_ext (p := fl1 H wf wd) (n := H) (100 - H) (fun v hv => by simp [fl1, show ¬ v < H by omega])
        rw [show H + (100 - H) = 100 by omega] at h1
        exact h1
      rw [e]
      exact q2
  · subst z
    have eK : K = 2 := hK.symm
    subst eK
    have : wd = 0 ∨ wd = 2 ∨ wd = 3 ∨ (wd ≠ 0 ∧ wd ≠ 2 ∧ wd ≠ 3) := by omega
    rcases this with y | y | y | y
    · subst y
      have eW : W = 0 := hW.symm
      subst eW
      obtain ⟨w4, q1, q2, q3⟩ := addValuesX_sp hg B3 n5 (f0 := 0) (t0 := 1) (by decide) (by decide) (by decide)
      have q1' : fX1_addValues g [.ref a, .int 0, .int 1] w3 = some (.inl none, w4) := q1
      refine ⟨w4, ?_, ?_, F3'.tr q3⟩
      · simp [fX2_fill, kX2_fill, ent, entp, jX2_fill, bX2_fill_0, bX2_fill_1, bX2_fill_2, bX2_fill_3, bX2_fill_4, bX2_fill_5, bX2_fill_6, bX2_fill_7, bX2_fill_8, bX2_fill_9, bX2_fill_10, i_aload, i_getf, i_iaload, i_iceq, i_icge, i_icgt, i_icne, i_ifeq, i_ifne, i_iinc, i_iload, i_istore, i_jmp, i_push, i_putf, i_return, msk, lset1, lset2, clr, Value.category, Option.toList, List.cons_append, List.nil_append, List.length_cons, List.length_nil, hN, r1, r2, r3, cvk_2 B3.1 q1']
      · have e : flL H wf 2 0 = [] ++ rL 0 (1 + 1 - 0) := fl_20
        rw [e]; exact q2
    · subst y
      have eW : W = 2 := hW.symm
      subst eW
      obtain ⟨w4, q1, q2, q3⟩ := addValuesX_sp hg B3 n5 (f0 := 0) (t0 := 0) (by decide) (by decide) (by decide)
      have q1' : fX1_addValues g [.ref a, .int 0, .int 0] w3 = some (.inl none, w4) := q1
      refine ⟨w4, ?_, ?_, F3'.tr q3⟩
      · simp [fX2_fill, kX2_fill, ent, entp, jX2_fill, bX2_fill_0, bX2_fill_1, bX2_fill_2, bX2_fill_3, bX2_fill_4, bX2_fill_5, bX2_fill_6, bX2_fill_7, bX2_fill_8, bX2_fill_9, bX2_fill_10, i_aload, i_getf, i_iaload, i_iceq, i_icge, i_icgt, i_icne, i_ifeq, i_ifne, i_iinc, i_iload, i_istore, i_jmp, i_push, i_putf, i_return, msk, lset1, lset2, clr, Value.category, Option.toList, List.cons_append, List.nil_append, List.length_cons, List.length_nil, hN, r1, r2, r3, cvk_2 B3.1 q1']
      · have e : flL H wf 2 2 = [] ++ rL 0 (0 + 1 - 0) := fl_22
        rw [e]; exact q2
    · subst y
      have eW : W = 3 := hW.symm
      subst eW
      obtain ⟨w4, q1, q2, q3⟩ := addValuesX_sp hg B3 n5 (f0 := 1) (t0 := 1) (by decide) (by decide) (by decide)
      have q1' : fX1_addValues g [.ref a, .int 1, .int 1] w3 = some (.inl none, w4) := q1
      refine ⟨w4, ?_, ?_, F3'.tr q3⟩
      · simp [fX2_fill, kX2_fill, ent, entp, jX2_fill, bX2_fill_0, bX2_fill_1, bX2_fill_2, bX2_fill_3, bX2_fill_4, bX2_fill_5, bX2_fill_6, bX2_fill_7, bX2_fill_8, bX2_fill_9, bX2_fill_10, i_aload, i_getf, i_iaload, i_iceq, i_icge, i_icgt, i_icne, i_ifeq, i_ifne, i_iinc, i_iload, i_istore, i_jmp, i_push, i_putf, i_return, msk, lset1, lset2, clr, Value.category, Option.toList, List.cons_append, List.nil_append, List.length_cons, List.length_nil, hN, r1, r2, r3, cvk_2 B3.1 q1']
      · have e : flL H wf 2 3 = [] ++ rL 1 (1 + 1 - 1) := fl_23
        rw [e]; exact q2
    · have g0 : ¬ W = 0 := by rw [← hW]; exact mt (nI_eq (b := 0) (by omega) (by decide)).mp y.1
      have g2 : ¬ W = 2 := by rw [← hW]; exact mt (nI_eq (b := 2) (by omega) (by decide)).mp y.2.1
      have g3 : ¬ W = 3 := by rw [← hW]; exact mt (nI_eq (b := 3) (by omega) (by decide)).mp y.2.2
      refine ⟨w3, ?_, ?_, F3'⟩
      · simp [fX2_fill, kX2_fill, ent, entp, jX2_fill, bX2_fill_0, bX2_fill_1, bX2_fill_2, bX2_fill_3, bX2_fill_4, bX2_fill_5, bX2_fill_6, bX2_fill_7, bX2_fill_8, bX2_fill_9, bX2_fill_10, i_aload, i_getf, i_iaload, i_iceq, i_icge, i_icgt, i_icne, i_ifeq, i_ifne, i_iinc, i_iload, i_istore, i_jmp, i_push, i_putf, i_return, msk, lset1, lset2, clr, Value.category, Option.toList, List.cons_append, List.nil_append, List.length_cons, List.length_nil, hN, r1, r2, r3, g0, g2, g3]
      · have e : flL H wf 2 wd = [] := fil_no (fun v => by show fl2 wd v = false; simp [fl2, y]) 100
        rw [e]; exact B3
theorem dV_e {δ : DE} {b k' : Nat} {l : List Nat} (h : k' ≠ 20 + b) : (dV δ b l).2 k' = δ.2 k' := by
  funext m
  rw [dV_2, if_neg h]
/-- a deed whose blot b was filled -/
theorem DEED.fl {g : GE} {w w1 : Mem} {D b kd wd : Nat} {δ : DE} {l : List Nat} (h : DEED g w D δ) (hb : b < 8) (F : Fr (fun q => q = D + 19 + 2 * b ∨ q = D + 20 + 2 * b) w w1) (hB : BLX (fun i => nI (δ.2 (20 + b) i)) w1 (D + 19 + 2 * b) (D + 20 + 2 * b) l (nI kd) (nI wd) (nI (δ.2 11 b)) (nI (δ.2 12 b))) : DEED g w1 D (dT (dT (dT (dV δ b l) 8 b kd) 9 b wd) 10 b l.length) := by
  obtain ⟨h0, h1, h2, h3, h4, h5, h6, h7, h8, h9, hp, hbl, hv⟩ := h
  obtain ⟨o1, c, o2, o3, o4⟩ := hB
  have e : ∀ k', k' < 20 → k' ≠ 8 → k' ≠ 9 → k' ≠ 10 → (dT (dT (dT (dV δ b l) 8 b kd) 9 b wd) 10 b l.length).2 k' = δ.2 k' := fun k' q1 q2 q3 q4 => by rw [dT_e q4, dT_e q3, dT_e q2, dV_e (by omega)]
  have e20 : ∀ q, (dT (dT (dT (dV δ b l) 8 b kd) 9 b wd) 10 b l.length).2 (20 + q) = (dV δ b l).2 (20 + q) := fun q => by rw [dT_e (by omega), dT_e (by omega), dT_e (by omega)]
  refine ⟨F.at h0 (by omega), ?_, ?_, ?_, ?_, ?_, h6.fr F (by omega), ?_, ?_, h9.fr F (by omega), fun q hq => ?_, fun q hq => ?_, fun q hq => ?_⟩
  · rw [e 13 (by decide) (by decide) (by decide) (by decide)]; exact h1.fr F (by omega)
  · rw [e 0 (by decide) (by decide) (by decide) (by decide)]; exact h2.fr F (by omega)
  · rw [e 1 (by decide) (by decide) (by decide) (by decide)]; exact h3.fr F (by omega)
  · rw [e 14 (by decide) (by decide) (by decide) (by decide)]; exact h4.fr F (by omega)
  · rw [e 2 (by decide) (by decide) (by decide) (by decide)]; exact h5.fr F (by omega)
  · rw [e 6 (by decide) (by decide) (by decide) (by decide)]; exact h7.fr F (by omega)
  · rw [e 7 (by decide) (by decide) (by decide) (by decide)]; exact h8.fr F (by omega)
  · rw [e 3 (by decide) (by decide) (by decide) (by decide), e 4 (by decide) (by decide) (by decide) (by decide), e 5 (by decide) (by decide) (by decide) (by decide)]; exact F.at (hp q hq) (by omega)
  · rw [e 11 (by decide) (by decide) (by decide) (by decide), e 12 (by decide) (by decide) (by decide) (by decide)]
    by_cases z : q = b
    · subst z
      simp only [dT_2, if_true]
      simp
      exact o1
    · simp only [dT_2, if_true, z, if_false]
      have e8 : (dV δ b l).2 8 q = δ.2 8 q := by rw [dV_e (by omega)]
      have e9 : (dV δ b l).2 9 q = δ.2 9 q := by rw [dV_e (by omega)]
      have e10 : (dV δ b l).2 10 q = δ.2 10 q := by rw [dV_e (by omega)]
      simp
      rw [e8, e9, e10]
      exact F.at (hbl q hq) (by omega)
  · rw [e20]
    by_cases z : q = b
    · subst z
      refine o2.cg fun j hj => ?_
      rw [dV_2, if_pos rfl]
      by_cases y : j < l.length
      · rw [if_pos y]; exact o3 j y
      · rw [if_neg y]; exact o4 j (by omega) hj
    · rw [dV_e (by omega)]
      exact (hv q hq).fr F (by omega)
