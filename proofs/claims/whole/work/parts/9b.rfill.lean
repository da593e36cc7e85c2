/-! ===== the reference reads: what may stand under a blot ===== -/
def FLV (w : Mem) (av : Nat) (l : List Nat) : Prop := ∃ c, IA w av 100 c ∧ ∀ j, j < l.length → c j = nI (l.getD j 0)
theorem FLV.add {w : Mem} {av v : Nat} {l : List Nat} (h : FLV w av l) : FLV (wi w 0 av l.length (nI v)) av (l ++ [v]) := by
  obtain ⟨c, h1, h2⟩ := h
  refine ⟨_, h1.up l.length (nI v), fun j hj => ?_⟩
  by_cases y : j = l.length
  · subst y
    rw [va_up_self, getD_last]
  · have hj' : j < l.length := by simp at hj; omega
    rw [va_up_ne _ _ y, h2 j hj', getD_app hj']
theorem FLV.wr {w : Mem} {av v : Nat} {l : List Nat} (h : FLV w av l) (hl : l.length < 100) : si w 0 av (nI l.length) (nI v) = some (wi w 0 av l.length (nI v)) := by
  obtain ⟨c, h1, h2⟩ := h
  exact h1.wr hl (by decide) _
section
variable {g : GE} {w : Mem} {M P cv H wd : Nat} {x c3 c5 : Nat → Int32} {wf : Nat → Nat} {K hr W b : Int32}
/-- numbers -/
theorem fl_A (hw : FLV w cv []) (hlo : wd ≤ 2) (hW : nI wd = W) (F : Nat) :
    ∃ f' w', F ≤ f' ∧ FLV w' cv (flL H wf 0 wd) ∧ Fr (fun q => q = cv) w w' ∧ jX11_blots g (F + 2 + 2 * (if wd = 1 then 10 else if wd = 2 then 90 else 100)) 3 [] [some (.ref M), some (.int K), some (.ref P), some (.int hr), some (.int W), some (.int b), some (.int (nI 0)), some (.ref cv), some (.int (nI (if wd = 2 then 10 else 0)))] w = jX11_blots g f' 5 [] [some (.ref M), some (.int K), some (.ref P), some (.int hr), some (.int W), some (.int b), some (.int (nI (flL H wf 0 wd).length)), some (.ref cv), none] w' := by
  obtain ⟨lo, hlo'⟩ : ∃ z, z = (if wd = 2 then 10 else 0) := ⟨_, rfl⟩
  obtain ⟨ct, hct⟩ : ∃ z, z = (if wd = 1 then 10 else if wd = 2 then 90 else 100) := ⟨_, rfl⟩
  have el : flL H wf 0 wd = rL lo ct := by
    have : wd = 0 ∨ wd = 1 ∨ wd = 2 := by omega
    rcases this with z | z | z <;> subst z <;> simp only [hlo', hct] <;> unfold flL flP <;> simp [fl_00, fl_01, fl_02]
  have hb : lo + ct = if wd = 1 then 10 else 100 := by
    have : wd = 0 ∨ wd = 1 ∨ wd = 2 := by omega
    rcases this with z | z | z <;> subst z <;> simp [hlo', hct]
  have hcl : lo + ct ≤ 100 := by rw [hb]; split <;> omega
  rw [← hct, ← hlo', el]
  have e1 : (W = 1) ↔ wd = 1 := by rw [← hW]; exact nI_eq (b := 1) (by omega) (by decide)
  have L := lpC (fun f (z : Lv × Mem) => jX11_blots g f 3 [] z.1 z.2) (fun i z => z.1 = [some (.ref M), some (.int K), some (.ref P), some (.int hr), some (.int W), some (.int b), some (.int (nI i)), some (.ref cv), some (.int (nI (lo + i)))] ∧ FLV z.2 cv (rL lo i) ∧ Fr (fun q => q = cv) w z.2) 2 ct
    (fun i z hi hI f => by
      obtain ⟨k1, k2, k3⟩ := hI
      have ll := rL_len lo i
      have k4 := k2.add (v := lo + i)
      have k5 := k2.wr (v := lo + i) (by omega)
      rw [ll] at k4 k5
      obtain ⟨w1, hw1⟩ : ∃ q, wi z.2 0 cv i (nI (lo + i)) = q := ⟨_, rfl⟩
      rw [hw1] at k4 k5
      have F1 : Fr (fun q => q = cv) z.2 w1 := hw1 ▸ Fr.wi _ _ _ _ rfl
      refine ⟨f, ([some (.ref M), some (.int K), some (.ref P), some (.int hr), some (.int W), some (.int b), some (.int (nI (i + 1))), some (.ref cv), some (.int (nI (lo + (i + 1))))], w1), Nat.le_refl _, ⟨rfl, k4, k3.tr F1⟩, ?_⟩
      have ei : nI (lo + i) + 1 = nI (lo + (i + 1)) := nI_1 (lo + i)
      by_cases y : wd = 1
      · rw [if_pos y] at hb
        have e4 : ¬ (10 : Int32) ≤ nI (lo + i) := nI_ge (b := 10) (by omega) (by decide)
        simp [jX11_blots, bX11_blots_0, bX11_blots_1, bX11_blots_2, bX11_blots_3, bX11_blots_4, bX11_blots_5, bX11_blots_6, bX11_blots_7, bX11_blots_8, bX11_blots_9, bX11_blots_10, bX11_blots_11, bX11_blots_12, bX11_blots_13, bX11_blots_14, i_aaload, i_aload, i_astore, i_dup, i_dup2, i_getf, i_iadd, i_iaload, i_iastore, i_iceq, i_icge, i_icne, i_ifeq, i_ifne, i_iinc, i_iload, i_istore, i_jmp, i_push, i_putf, i_return, msk, lset1, lset2, clr, Value.category, Option.toList, List.cons_append, List.nil_append, List.length_cons, List.length_nil, k1, e1.mpr y, e4, k5, nI_1, ei]
      · rw [if_neg y] at hb
        have e4 : ¬ (100 : Int32) ≤ nI (lo + i) := nI_ge (b := 100) (by omega) (by decide)
        simp [jX11_blots, bX11_blots_0, bX11_blots_1, bX11_blots_2, bX11_blots_3, bX11_blots_4, bX11_blots_5, bX11_blots_6, bX11_blots_7, bX11_blots_8, bX11_blots_9, bX11_blots_10, bX11_blots_11, bX11_blots_12, bX11_blots_13, bX11_blots_14, i_aaload, i_aload, i_astore, i_dup, i_dup2, i_getf, i_iadd, i_iaload, i_iastore, i_iceq, i_icge, i_icne, i_ifeq, i_ifne, i_iinc, i_iload, i_istore, i_jmp, i_push, i_putf, i_return, msk, lset1, lset2, clr, Value.category, Option.toList, List.cons_append, List.nil_append, List.length_cons, List.length_nil, k1, mt e1.mp y, e4, k5, nI_1, ei])
  obtain ⟨f1, z1, k1, ⟨e2, e3, e4⟩, k3⟩ := L ct 0 ([some (.ref M), some (.int K), some (.ref P), some (.int hr), some (.int W), some (.int b), some (.int (nI 0)), some (.ref cv), some (.int (nI (lo + 0)))], w) (by omega) ⟨rfl, hw, Fr.rf _ _⟩ (F + 2)
  obtain ⟨f2, rfl⟩ : ∃ z, f1 = z + 2 := ⟨f1 - 2, by omega⟩
  refine ⟨f2, z1.2, by omega, e3, e4, ?_⟩
  rw [show jX11_blots g (F + 2 + 2 * ct) 3 [] [some (.ref M), some (.int K), some (.ref P), some (.int hr), some (.int W), some (.int b), some (.int (nI 0)), some (.ref cv), some (.int (nI lo))] w = jX11_blots g (f2 + 2) 3 [] z1.1 z1.2 from k3]
  clear k3 L
  rw [rL_len]
  by_cases y : wd = 1
  · rw [if_pos y] at hb
    have e6 : (10 : Int32) ≤ nI (lo + ct) := nI_le (a := 10) (by omega) (by omega)
    simp [jX11_blots, bX11_blots_0, bX11_blots_1, bX11_blots_2, bX11_blots_3, bX11_blots_4, bX11_blots_5, bX11_blots_6, bX11_blots_7, bX11_blots_8, bX11_blots_9, bX11_blots_10, bX11_blots_11, bX11_blots_12, bX11_blots_13, bX11_blots_14, i_aaload, i_aload, i_astore, i_dup, i_dup2, i_getf, i_iadd, i_iaload, i_iastore, i_iceq, i_icge, i_icne, i_ifeq, i_ifne, i_iinc, i_iload, i_istore, i_jmp, i_push, i_putf, i_return, msk, lset1, lset2, clr, Value.category, Option.toList, List.cons_append, List.nil_append, List.length_cons, List.length_nil, e2, e1.mpr y, e6]
  · rw [if_neg y] at hb
    have e6 : (100 : Int32) ≤ nI (lo + ct) := nI_le (a := 100) (by omega) (by omega)
    simp [jX11_blots, bX11_blots_0, bX11_blots_1, bX11_blots_2, bX11_blots_3, bX11_blots_4, bX11_blots_5, bX11_blots_6, bX11_blots_7, bX11_blots_8, bX11_blots_9, bX11_blots_10, bX11_blots_11, bX11_blots_12, bX11_blots_13, bX11_blots_14, i_aaload, i_aload, i_astore, i_dup, i_dup2, i_getf, i_iadd, i_iaload, i_iastore, i_iceq, i_icge, i_icne, i_ifeq, i_ifne, i_iinc, i_iload, i_istore, i_jmp, i_push, i_putf, i_return, msk, lset1, lset2, clr, Value.category, Option.toList, List.cons_append, List.nil_append, List.length_cons, List.length_nil, e2, mt e1.mp y, e6]
/-- from the heirs on, where the kind is another -/
theorem fl_0 (hO : MO w M x) (h3 : IA w (M + 3) 7 c3) (hK : K = 0) {nn : Int32} (F : Nat) : ∃ f', F ≤ f' ∧ jX11_blots g (F + 4) 5 [] [some (.ref M), some (.int K), some (.ref P), some (.int hr), some (.int W), some (.int b), some (.int nn), some (.ref cv), none] w = jX11_blots g f' 13 [] [some (.ref M), some (.int K), some (.ref P), some (.int hr), some (.int W), some (.int b), some (.int nn), none, none] w := by
  subst hK
  have r3 := h3.rc 0 0 rfl (by decide) (by decide)
  by_cases y : c3 0 ≤ 0
  · refine ⟨F, Nat.le_refl _, ?_⟩
    simp [jX11_blots, bX11_blots_0, bX11_blots_1, bX11_blots_2, bX11_blots_3, bX11_blots_4, bX11_blots_5, bX11_blots_6, bX11_blots_7, bX11_blots_8, bX11_blots_9, bX11_blots_10, bX11_blots_11, bX11_blots_12, bX11_blots_13, bX11_blots_14, i_aaload, i_aload, i_astore, i_dup, i_dup2, i_getf, i_iadd, i_iaload, i_iastore, i_iceq, i_icge, i_icne, i_ifeq, i_ifne, i_iinc, i_iload, i_istore, i_jmp, i_push, i_putf, i_return, msk, lset1, lset2, clr, Value.category, Option.toList, List.cons_append, List.nil_append, List.length_cons, List.length_nil, gf_eq hO, mg_10, r3, y]
  · refine ⟨F, Nat.le_refl _, ?_⟩
    simp [jX11_blots, bX11_blots_0, bX11_blots_1, bX11_blots_2, bX11_blots_3, bX11_blots_4, bX11_blots_5, bX11_blots_6, bX11_blots_7, bX11_blots_8, bX11_blots_9, bX11_blots_10, bX11_blots_11, bX11_blots_12, bX11_blots_13, bX11_blots_14, i_aaload, i_aload, i_astore, i_dup, i_dup2, i_getf, i_iadd, i_iaload, i_iastore, i_iceq, i_icge, i_icne, i_ifeq, i_ifne, i_iinc, i_iload, i_istore, i_jmp, i_push, i_putf, i_return, msk, lset1, lset2, clr, Value.category, Option.toList, List.cons_append, List.nil_append, List.length_cons, List.length_nil, gf_eq hO, mg_10, r3, y]
theorem fl_1 (hO : MO w M x) (h3 : IA w (M + 3) 7 c3) (e3 : c3 0 = nI H) (hH : H ≤ 4) (h5 : IA w (M + 5) 9 c5) (e5 : ∀ h, h < H → c5 h = nI (wf h) ∧ wf h < 100) (hc : M < cv ∧ cv ≠ M + 3 ∧ cv ≠ M + 5) (hK : K = 1) (hW : nI wd = W) (hwd : wd ≤ 9) (hw : FLV w cv []) (F : Nat) :
    ∃ f' w', F ≤ f' ∧ FLV w' cv (flL H wf 1 wd) ∧ Fr (fun q => q = cv) w w' ∧ jX11_blots g (F + 3 + 3 * H + 1) 5 [] [some (.ref M), some (.int K), some (.ref P), some (.int hr), some (.int W), some (.int b), some (.int 0), some (.ref cv), none] w = jX11_blots g f' 13 [] [some (.ref M), some (.int K), some (.ref P), some (.int hr), some (.int W), some (.int b), some (.int (nI (flL H wf 1 wd).length)), none, none] w' := by
  have e0 : (W = 0) ↔ wd = 0 := by rw [← hW]; exact nI_eq (b := 0) (by omega) (by decide)
  have el : flL H wf 1 wd = fil (fl1 H wf wd) H := by
    have := fil_ext (p := fl1 H wf wd) (n := H) (100 - H) fun v hv => decide_eq_false fun q => by omega
    rw [show H + (100 - H) = 100 by omega] at this
    exact this
  rw [el]
  have L := lpC (fun f (z : Lv × Mem) => jX11_blots g f 6 [] z.1 z.2) (fun i z => z.1 = [some (.ref M), some (.int K), some (.ref P), some (.int hr), some (.int W), some (.int b), some (.int (nI (fil (fl1 H wf wd) i).length)), some (.ref cv), some (.int (nI i))] ∧ FLV z.2 cv (fil (fl1 H wf wd) i) ∧ Fr (fun q => q = cv) w z.2) 3 H
    (fun i z hi hI f => by
      obtain ⟨k1, k2, k3⟩ := hI
      have o1 := k3.at hO (by omega)
      have r3 := (h3.fr k3 (by omega)).rc 0 0 rfl (by decide) (by decide)
      rw [e3] at r3
      have r5 := (h5.fr k3 (by omega)).rd (j := i) (by omega) (by decide)
      rw [(e5 i hi).1] at r5
      have e4 := nI_ge hi (by omega)
      have ll : (fil (fl1 H wf wd) i).length ≤ i := by rw [fil_len]; exact cntF_le _ _
      have e9 : (nI (wf i) = W) ↔ wf i = wd := by rw [← hW]; exact nI_eq (by have := (e5 i hi).2; omega) (by omega)
      by_cases y : fl1 H wf wd i = true
      · have y' := y
        simp only [fl1, decide_eq_true_eq] at y'
        have ef : fil (fl1 H wf wd) (i + 1) = fil (fl1 H wf wd) i ++ [i] := if_pos y
        have k4 := k2.add (v := i)
        have k5 := k2.wr (v := i) (by omega)
        rw [← ef] at k4
        obtain ⟨w1, hw1⟩ : ∃ q, wi z.2 0 cv (fil (fl1 H wf wd) i).length (nI i) = q := ⟨_, rfl⟩
        rw [hw1] at k4 k5
        have F1 : Fr (fun q => q = cv) z.2 w1 := hw1 ▸ Fr.wi _ _ _ _ rfl
        have len : (fil (fl1 H wf wd) (i + 1)).length = (fil (fl1 H wf wd) i).length + 1 := by rw [ef]; simp
        refine ⟨f, ([some (.ref M), some (.int K), some (.ref P), some (.int hr), some (.int W), some (.int b), some (.int (nI (fil (fl1 H wf wd) (i + 1)).length)), some (.ref cv), some (.int (nI (i + 1)))], w1), Nat.le_refl _, ⟨rfl, k4, k3.tr F1⟩, ?_⟩
        rw [len]
        clear len k4 k2 ef y
        generalize (fil (fl1 H wf wd) i).length = n0 at *
        by_cases u : wd = 0
        · simp [jX11_blots, bX11_blots_0, bX11_blots_1, bX11_blots_2, bX11_blots_3, bX11_blots_4, bX11_blots_5, bX11_blots_6, bX11_blots_7, bX11_blots_8, bX11_blots_9, bX11_blots_10, bX11_blots_11, bX11_blots_12, bX11_blots_13, bX11_blots_14, i_aaload, i_aload, i_astore, i_dup, i_dup2, i_getf, i_iadd, i_iaload, i_iastore, i_iceq, i_icge, i_icne, i_ifeq, i_ifne, i_iinc, i_iload, i_istore, i_jmp, i_push, i_putf, i_return, msk, lset1, lset2, clr, Value.category, Option.toList, List.cons_append, List.nil_append, List.length_cons, List.length_nil, hK, k1, gf_eq o1, mg_10, r3, e4, e0.mpr u, k5, nI_1]
        · have u2 := e9.mpr (by omega)
          simp [jX11_blots, bX11_blots_0, bX11_blots_1, bX11_blots_2, bX11_blots_3, bX11_blots_4, bX11_blots_5, bX11_blots_6, bX11_blots_7, bX11_blots_8, bX11_blots_9, bX11_blots_10, bX11_blots_11, bX11_blots_12, bX11_blots_13, bX11_blots_14, i_aaload, i_aload, i_astore, i_dup, i_dup2, i_getf, i_iadd, i_iaload, i_iastore, i_iceq, i_icge, i_icne, i_ifeq, i_ifne, i_iinc, i_iload, i_istore, i_jmp, i_push, i_putf, i_return, msk, lset1, lset2, clr, Value.category, Option.toList, List.cons_append, List.nil_append, List.length_cons, List.length_nil, hK, k1, gf_eq o1, mg_10, mg_12, r3, e4, mt e0.mp u, r5, u2, k5, nI_1]
      · have y' := y
        simp only [fl1, decide_eq_true_eq] at y'
        have ef : fil (fl1 H wf wd) (i + 1) = fil (fl1 H wf wd) i := if_neg y
        refine ⟨f + 1, ([some (.ref M), some (.int K), some (.ref P), some (.int hr), some (.int W), some (.int b), some (.int (nI (fil (fl1 H wf wd) (i + 1)).length)), some (.ref cv), some (.int (nI (i + 1)))], z.2), by omega, ⟨rfl, by rw [ef]; exact k2, k3⟩, ?_⟩
        rw [ef]
        have u : ¬ wd = 0 := by omega
        have u2 := mt e9.mp (by omega)
        clear k2 ef y
        generalize (fil (fl1 H wf wd) i).length = n0 at *
        rw [show f + 3 = (f + 1) + 2 from rfl]
        generalize f + 1 = ff
        simp [jX11_blots, bX11_blots_0, bX11_blots_1, bX11_blots_2, bX11_blots_3, bX11_blots_4, bX11_blots_5, bX11_blots_6, bX11_blots_7, bX11_blots_8, bX11_blots_9, bX11_blots_10, bX11_blots_11, bX11_blots_12, bX11_blots_13, bX11_blots_14, i_aaload, i_aload, i_astore, i_dup, i_dup2, i_getf, i_iadd, i_iaload, i_iastore, i_iceq, i_icge, i_icne, i_ifeq, i_ifne, i_iinc, i_iload, i_istore, i_jmp, i_push, i_putf, i_return, msk, lset1, lset2, clr, Value.category, Option.toList, List.cons_append, List.nil_append, List.length_cons, List.length_nil, hK, k1, gf_eq o1, mg_10, mg_12, r3, e4, mt e0.mp u, r5, u2, nI_1])
  obtain ⟨f1, z1, k1, ⟨e2, e6, e7⟩, k3⟩ := L H 0 ([some (.ref M), some (.int K), some (.ref P), some (.int hr), some (.int W), some (.int b), some (.int (nI (fil (fl1 H wf wd) 0).length)), some (.ref cv), some (.int (nI 0))], w) (by omega) ⟨rfl, hw, Fr.rf _ _⟩ (F + 3)
  obtain ⟨f2, rfl⟩ : ∃ z, f1 = z + 3 := ⟨f1 - 3, by omega⟩
  refine ⟨f2, z1.2, by omega, e6, e7, ?_⟩
  have o1 := e7.at hO (by omega)
  have r3 := (h3.fr e7 (by omega)).rc 0 0 rfl (by decide) (by decide)
  rw [e3] at r3
  have a0 : jX11_blots g (F + 3 + 3 * H + 1) 5 [] [some (.ref M), some (.int K), some (.ref P), some (.int hr), some (.int W), some (.int b), some (.int 0), some (.ref cv), none] w = jX11_blots g (F + 3 + 3 * H) 6 [] [some (.ref M), some (.int K), some (.ref P), some (.int hr), some (.int W), some (.int b), some (.int 0), some (.ref cv), some (.int 0)] w := by
    generalize F + 3 + 3 * H = ff
    simp [jX11_blots, bX11_blots_0, bX11_blots_1, bX11_blots_2, bX11_blots_3, bX11_blots_4, bX11_blots_5, bX11_blots_6, bX11_blots_7, bX11_blots_8, bX11_blots_9, bX11_blots_10, bX11_blots_11, bX11_blots_12, bX11_blots_13, bX11_blots_14, i_aaload, i_aload, i_astore, i_dup, i_dup2, i_getf, i_iadd, i_iaload, i_iastore, i_iceq, i_icge, i_icne, i_ifeq, i_ifne, i_iinc, i_iload, i_istore, i_jmp, i_push, i_putf, i_return, msk, lset1, lset2, clr, Value.category, Option.toList, List.cons_append, List.nil_append, List.length_cons, List.length_nil, hK]
  rw [a0, show jX11_blots g (F + 3 + 3 * H) 6 [] [some (.ref M), some (.int K), some (.ref P), some (.int hr), some (.int W), some (.int b), some (.int 0), some (.ref cv), some (.int 0)] w = jX11_blots g (f2 + 3) 6 [] z1.1 z1.2 from k3]
  clear k3 L a0 e6
  generalize (fil (fl1 H wf wd) H).length = n0 at *
  simp [jX11_blots, bX11_blots_0, bX11_blots_1, bX11_blots_2, bX11_blots_3, bX11_blots_4, bX11_blots_5, bX11_blots_6, bX11_blots_7, bX11_blots_8, bX11_blots_9, bX11_blots_10, bX11_blots_11, bX11_blots_12, bX11_blots_13, bX11_blots_14, i_aaload, i_aload, i_astore, i_dup, i_dup2, i_getf, i_iadd, i_iaload, i_iastore, i_iceq, i_icge, i_icne, i_ifeq, i_ifne, i_iinc, i_iload, i_istore, i_jmp, i_push, i_putf, i_return, msk, lset1, lset2, clr, Value.category, Option.toList, List.cons_append, List.nil_append, List.length_cons, List.length_nil, hK, e2, gf_eq o1, mg_10, r3]
theorem fl_2 (hO : MO w M x) (h3 : IA w (M + 3) 7 c3) (hc : M < cv ∧ cv ≠ M + 3) (hK : K = 2) (hW : nI wd = W) (hwd : wd ≤ 9) (hw : FLV w cv []) (F : Nat) :
    ∃ f' w', F ≤ f' ∧ FLV w' cv (flL H wf 2 wd) ∧ Fr (fun q => q = cv) w w' ∧ jX11_blots g (F + 1 + 3 * 2 + 3) 5 [] [some (.ref M), some (.int K), some (.ref P), some (.int hr), some (.int W), some (.int b), some (.int 0), some (.ref cv), none] w = jX11_blots g f' 13 [] [some (.ref M), some (.int K), some (.ref P), some (.int hr), some (.int W), some (.int b), some (.int (nI (flL H wf 2 wd).length)), none, none] w' := by
  have r3 := h3.rc 0 0 rfl (by decide) (by decide)
  have e0 : (W = 0) ↔ wd = 0 := by rw [← hW]; exact nI_eq (b := 0) (by omega) (by decide)
  have el : flL H wf 2 wd = fil (fl2 wd) 2 := by
    have := fil_ext (p := fl2 wd) (n := 2) 98 fun v hv => decide_eq_false fun q => by omega
    exact this
  rw [el]
  have L := lpC (fun f (z : Lv × Mem) => jX11_blots g f 10 [] z.1 z.2) (fun i z => z.1 = [some (.ref M), some (.int K), some (.ref P), some (.int hr), some (.int W), some (.int b), some (.int (nI (fil (fl2 wd) i).length)), some (.ref cv), some (.int (nI i))] ∧ FLV z.2 cv (fil (fl2 wd) i) ∧ Fr (fun q => q = cv) w z.2) 3 2
    (fun i z hi hI f => by
      obtain ⟨k1, k2, k3⟩ := hI
      have e4 : ¬ (2 : Int32) ≤ nI i := nI_ge (b := 2) hi (by omega)
      have ll : (fil (fl2 wd) i).length ≤ i := by rw [fil_len]; exact cntF_le _ _
      have ea : 2 + nI i = nI (2 + i) := nI_add 2 i
      have e9 : (W = nI (2 + i)) ↔ wd = 2 + i := by rw [← hW]; exact nI_eq (by omega) (by omega)
      by_cases y : fl2 wd i = true
      · have y' := y
        simp only [fl2, decide_eq_true_eq] at y'
        have ef : fil (fl2 wd) (i + 1) = fil (fl2 wd) i ++ [i] := if_pos y
        have k4 := k2.add (v := i)
        have k5 := k2.wr (v := i) (by omega)
        rw [← ef] at k4
        obtain ⟨w1, hw1⟩ : ∃ q, wi z.2 0 cv (fil (fl2 wd) i).length (nI i) = q := ⟨_, rfl⟩
        rw [hw1] at k4 k5
        have F1 : Fr (fun q => q = cv) z.2 w1 := hw1 ▸ Fr.wi _ _ _ _ rfl
        have len : (fil (fl2 wd) (i + 1)).length = (fil (fl2 wd) i).length + 1 := by rw [ef]; simp
        refine ⟨f, ([some (.ref M), some (.int K), some (.ref P), some (.int hr), some (.int W), some (.int b), some (.int (nI (fil (fl2 wd) (i + 1)).length)), some (.ref cv), some (.int (nI (i + 1)))], w1), Nat.le_refl _, ⟨rfl, k4, k3.tr F1⟩, ?_⟩
        rw [len]
        clear len k4 k2 ef y
        generalize (fil (fl2 wd) i).length = n0 at *
        by_cases u : wd = 0
        · simp [jX11_blots, bX11_blots_0, bX11_blots_1, bX11_blots_2, bX11_blots_3, bX11_blots_4, bX11_blots_5, bX11_blots_6, bX11_blots_7, bX11_blots_8, bX11_blots_9, bX11_blots_10, bX11_blots_11, bX11_blots_12, bX11_blots_13, bX11_blots_14, i_aaload, i_aload, i_astore, i_dup, i_dup2, i_getf, i_iadd, i_iaload, i_iastore, i_iceq, i_icge, i_icne, i_ifeq, i_ifne, i_iinc, i_iload, i_istore, i_jmp, i_push, i_putf, i_return, msk, lset1, lset2, clr, Value.category, Option.toList, List.cons_append, List.nil_append, List.length_cons, List.length_nil, hK, k1, e4, e0.mpr u, k5, nI_1]
        · have u2 := e9.mpr (by omega)
          simp [jX11_blots, bX11_blots_0, bX11_blots_1, bX11_blots_2, bX11_blots_3, bX11_blots_4, bX11_blots_5, bX11_blots_6, bX11_blots_7, bX11_blots_8, bX11_blots_9, bX11_blots_10, bX11_blots_11, bX11_blots_12, bX11_blots_13, bX11_blots_14, i_aaload, i_aload, i_astore, i_dup, i_dup2, i_getf, i_iadd, i_iaload, i_iastore, i_iceq, i_icge, i_icne, i_ifeq, i_ifne, i_iinc, i_iload, i_istore, i_jmp, i_push, i_putf, i_return, msk, lset1, lset2, clr, Value.category, Option.toList, List.cons_append, List.nil_append, List.length_cons, List.length_nil, hK, k1, e4, mt e0.mp u, ea, u2, k5, nI_1]
      · have y' := y
        simp only [fl2, decide_eq_true_eq] at y'
        have ef : fil (fl2 wd) (i + 1) = fil (fl2 wd) i := if_neg y
        refine ⟨f + 1, ([some (.ref M), some (.int K), some (.ref P), some (.int hr), some (.int W), some (.int b), some (.int (nI (fil (fl2 wd) (i + 1)).length)), some (.ref cv), some (.int (nI (i + 1)))], z.2), by omega, ⟨rfl, by rw [ef]; exact k2, k3⟩, ?_⟩
        rw [ef]
        have u : ¬ wd = 0 := by omega
        have u2 := mt e9.mp (by omega)
        clear k2 ef y
        generalize (fil (fl2 wd) i).length = n0 at *
        rw [show f + 3 = (f + 1) + 2 from rfl]
        generalize f + 1 = ff
        simp [jX11_blots, bX11_blots_0, bX11_blots_1, bX11_blots_2, bX11_blots_3, bX11_blots_4, bX11_blots_5, bX11_blots_6, bX11_blots_7, bX11_blots_8, bX11_blots_9, bX11_blots_10, bX11_blots_11, bX11_blots_12, bX11_blots_13, bX11_blots_14, i_aaload, i_aload, i_astore, i_dup, i_dup2, i_getf, i_iadd, i_iaload, i_iastore, i_iceq, i_icge, i_icne, i_ifeq, i_ifne, i_iinc, i_iload, i_istore, i_jmp, i_push, i_putf, i_return, msk, lset1, lset2, clr, Value.category, Option.toList, List.cons_append, List.nil_append, List.length_cons, List.length_nil, hK, k1, e4, mt e0.mp u, ea, u2, nI_1])
  obtain ⟨f1, z1, k1, ⟨e2, e6, e7⟩, k3⟩ := L 2 0 ([some (.ref M), some (.int K), some (.ref P), some (.int hr), some (.int W), some (.int b), some (.int (nI (fil (fl2 wd) 0).length)), some (.ref cv), some (.int (nI 0))], w) (by omega) ⟨rfl, hw, Fr.rf _ _⟩ (F + 1)
  obtain ⟨f2, rfl⟩ : ∃ z, f1 = z + 1 := ⟨f1 - 1, by omega⟩
  refine ⟨f2, z1.2, by omega, e6, e7, ?_⟩
  have a0 : jX11_blots g (F + 1 + 3 * 2 + 3) 5 [] [some (.ref M), some (.int K), some (.ref P), some (.int hr), some (.int W), some (.int b), some (.int 0), some (.ref cv), none] w = jX11_blots g (F + 1 + 3 * 2) 10 [] [some (.ref M), some (.int K), some (.ref P), some (.int hr), some (.int W), some (.int b), some (.int 0), some (.ref cv), some (.int 0)] w := by
    generalize F + 1 + 3 * 2 = ff
    by_cases y : c3 0 ≤ 0
    · simp [jX11_blots, bX11_blots_0, bX11_blots_1, bX11_blots_2, bX11_blots_3, bX11_blots_4, bX11_blots_5, bX11_blots_6, bX11_blots_7, bX11_blots_8, bX11_blots_9, bX11_blots_10, bX11_blots_11, bX11_blots_12, bX11_blots_13, bX11_blots_14, i_aaload, i_aload, i_astore, i_dup, i_dup2, i_getf, i_iadd, i_iaload, i_iastore, i_iceq, i_icge, i_icne, i_ifeq, i_ifne, i_iinc, i_iload, i_istore, i_jmp, i_push, i_putf, i_return, msk, lset1, lset2, clr, Value.category, Option.toList, List.cons_append, List.nil_append, List.length_cons, List.length_nil, hK, gf_eq hO, mg_10, r3, y]
    · simp [jX11_blots, bX11_blots_0, bX11_blots_1, bX11_blots_2, bX11_blots_3, bX11_blots_4, bX11_blots_5, bX11_blots_6, bX11_blots_7, bX11_blots_8, bX11_blots_9, bX11_blots_10, bX11_blots_11, bX11_blots_12, bX11_blots_13, bX11_blots_14, i_aaload, i_aload, i_astore, i_dup, i_dup2, i_getf, i_iadd, i_iaload, i_iastore, i_iceq, i_icge, i_icne, i_ifeq, i_ifne, i_iinc, i_iload, i_istore, i_jmp, i_push, i_putf, i_return, msk, lset1, lset2, clr, Value.category, Option.toList, List.cons_append, List.nil_append, List.length_cons, List.length_nil, hK, gf_eq hO, mg_10, r3, y]
  rw [a0, show jX11_blots g (F + 1 + 3 * 2) 10 [] [some (.ref M), some (.int K), some (.ref P), some (.int hr), some (.int W), some (.int b), some (.int 0), some (.ref cv), some (.int 0)] w = jX11_blots g (f2 + 1) 10 [] z1.1 z1.2 from k3]
  clear k3 L a0 e6
  generalize (fil (fl2 wd) 2).length = n0 at *
  have e8 : (2 : Int32) ≤ nI 2 := by decide
  simp [jX11_blots, bX11_blots_0, bX11_blots_1, bX11_blots_2, bX11_blots_3, bX11_blots_4, bX11_blots_5, bX11_blots_6, bX11_blots_7, bX11_blots_8, bX11_blots_9, bX11_blots_10, bX11_blots_11, bX11_blots_12, bX11_blots_13, bX11_blots_14, i_aaload, i_aload, i_astore, i_dup, i_dup2, i_getf, i_iadd, i_iaload, i_iastore, i_iceq, i_icge, i_icne, i_ifeq, i_ifne, i_iinc, i_iload, i_istore, i_jmp, i_push, i_putf, i_return, msk, lset1, lset2, clr, Value.category, Option.toList, List.cons_append, List.nil_append, List.length_cons, List.length_nil, hK, e2, e8]
end
