/-! ===== the reference: laysReadings ===== -/
theorem lpC {σ β : Type} (F : Nat → σ → β) (I : Nat → σ → Prop) (c n : Nat)
    (hs : ∀ i s, i < n → I i s → ∀ f, ∃ f' s', f ≤ f' ∧ I (i + 1) s' ∧ F (f + c) s = F f' s') : ∀ k i s, i + k = n → I i s → ∀ f, ∃ f' s', f ≤ f' ∧ I n s' ∧ F (f + c * k) s = F f' s' := by
  intro k
  induction k with
  | zero =>
    intro i s hi h f
    have e : i = n := by omega
    subst e
    exact ⟨f, s, Nat.le_refl _, h, rfl⟩
  | succ k ih =>
    intro i s hi h f
    obtain ⟨f1, s1, h1, h2, h3⟩ := hs i s (by omega) h (f + c * k)
    obtain ⟨d, rfl⟩ : ∃ d, f1 = f + d + c * k := ⟨f1 - f - c * k, by omega⟩
    obtain ⟨f2, s2, k1, k2, k3⟩ := ih (i + 1) s1 (by omega) h2 (f + d)
    refine ⟨f2, s2, by omega, k2, ?_⟩
    rw [Nat.mul_succ, ← Nat.add_assoc, h3, k3]
theorem layC_sp {g : GE} {u : Mem} {M ln row f0 : Nat} {x co : Nat → Int32} {c : Nat → Int64} {cc : Nat → Nat} (hO : MO u M x) (hx : x 27 = nI ln) (hl : ln < 20000) (hco : IA u (M + 173) 4 co) (hcc : ∀ h, h < 4 → co h = nI (cc h) ∧ cc h < 1024) (hL : LA u (M + 145) 20000 c) (h0 : c ln = 0) :
    ∃ f' w' c', f0 ≤ f' ∧ jX11_laysReadings g (f0 + 5) 2 [] [some (.ref M), some (.int (nI row)), some (.int 0)] u = jX11_laysReadings g f' 3 [] [some (.ref M), some (.int (nI row)), some (.int 0)] w' ∧ LA w' (M + 145) 20000 c' ∧ c' ln = lN (pkN cc 10 4) ∧ (∀ i, i ≠ ln → c' i = c i) ∧ Fr (fun a => a = M + 145) u w' := by
  have L := lpC (fun f (s : Lv × Mem) => jX11_laysReadings g f 2 [] s.1 s.2) (fun i s => s.1 = [some (.ref M), some (.int (nI row)), some (.int (nI i))] ∧ (∃ c', LA s.2 (M + 145) 20000 c' ∧ c' ln = lN (pkN cc 10 i) ∧ (∀ i, i ≠ ln → c' i = c i)) ∧ Fr (fun a => a = M + 145) u s.2) 1 4
    (fun i s hi hI f => by
      obtain ⟨e1, ⟨c', i1, i2, i3⟩, i4⟩ := hI
      have hOs : MO s.2 M x := i4.at hO (by omega)
      have hcs := hco.fr i4 (by omega)
      have e : lN (pkN cc 10 i) ||| (lN (cc i) <<< ((nI (10 * i)).toInt64 &&& 63)) = lN (pkN cc 10 (i + 1)) := by
        have h5 := pkN_lt (f := cc) (wd := 10) (n := i) fun b hb => (hcc b (by omega)).2
        have h6 := pkN_lt (f := cc) (wd := 10) (n := i + 1) fun b hb => (hcc b (by omega)).2
        have h7 : pkN cc 10 (i + 1) < 2 ^ 64 := Nat.lt_of_lt_of_le h6 (Nat.pow_le_pow_right (by decide) (by omega))
        rw [wb_shl _ (by omega), lN_or h5 h7, ← pkN_s]
      refine ⟨f, ([some (.ref M), some (.int (nI row)), some (.int (nI (i + 1)))], wl s.2 (M + 145) ln (lN (pkN cc 10 (i + 1)))), Nat.le_refl _, ⟨rfl, ⟨_, i1.up _ _, va_up_self _ _ _, fun j hj => by rw [va_up_ne _ _ hj]; exact i3 j hj⟩, i4.tr (Fr.wl _ _ _ rfl)⟩, ?_⟩
      generalize pkN cc 10 i = X at e i2
      generalize pkN cc 10 (i + 1) = Y at e ⊢
      simp [jX11_laysReadings, bX11_laysReadings_0, bX11_laysReadings_1, bX11_laysReadings_2, bX11_laysReadings_3, bX11_laysReadings_4, i_aload, i_dup, i_dup2, i_getf, i_i2l, i_iadd, i_iaload, i_iastore, i_icge, i_ifeq, i_iinc, i_iload, i_imul, i_ior, i_ishl, i_istore, i_jmp, i_laload, i_lastore, i_lor, i_lshl, i_push, i_putf, i_return, msk, lset1, lset2, clr, Value.category, Option.toList, List.cons_append, List.nil_append, List.length_cons, List.length_nil, e1, (show ¬ (4 : Int32) ≤ nI i from nI_ge hi (by decide)), gf_eq hOs, mg_31, mg_27, mg_40, hx, i1.rd hl (by decide), i2, hcs.rd hi (by decide), (hcc i hi).1, nI_l (n := cc i) (by have := (hcc i hi).2; omega), e10, e, i1.wr hl (by decide), nI_1])
  obtain ⟨f1, s1, h1, ⟨e1, ⟨c', i1, i2, i3⟩, i4⟩, h3⟩ := L 4 0 ([some (.ref M), some (.int (nI row)), some (.int (nI 0))], u) (by omega) ⟨rfl, ⟨c, hL, by rw [h0]; rfl, fun _ _ => rfl⟩, Fr.rf _ _⟩ (f0 + 1)
  obtain ⟨f2, rfl⟩ : ∃ z, f1 = z + 1 := ⟨f1 - 1, by omega⟩
  refine ⟨f2, s1.2, c', by omega, ?_, i1, i2, i3, i4⟩
  simp only [nI_0] at h3
  have ef : f0 + 5 = f0 + 1 + 1 * 4 := by omega
  rw [ef, h3]
  simp [jX11_laysReadings, bX11_laysReadings_0, bX11_laysReadings_1, bX11_laysReadings_2, bX11_laysReadings_3, bX11_laysReadings_4, i_aload, i_dup, i_dup2, i_getf, i_i2l, i_iadd, i_iaload, i_iastore, i_icge, i_ifeq, i_iinc, i_iload, i_imul, i_ior, i_ishl, i_istore, i_jmp, i_laload, i_lastore, i_lor, i_lshl, i_push, i_putf, i_return, msk, lset1, lset2, clr, Value.category, Option.toList, List.cons_append, List.nil_append, List.length_cons, List.length_nil, e1, (show (4 : Int32) ≤ nI 4 from by decide)]
theorem layO_sp {g : GE} {u : Mem} {M ln row f0 : Nat} {x to c : Nat → Int32} {oo : Nat → Nat} (hO : MO u M x) (hx : x 27 = nI ln) (hl : ln < 20000) (hto : IA u (M + 174) 5 to) (hoo : ∀ h, h < 5 → to h = nI (oo h) - 1 ∧ oo h < 8) (hL : IA u (M + 144) 20000 c) (h0 : c ln = 0) :
    ∃ f' w' c', f0 ≤ f' ∧ jX11_laysReadings g (f0 + 7) 3 [] [some (.ref M), some (.int (nI row)), some (.int 0)] u = jX11_laysReadings g f' 1 [] [some (.ref M), some (.int (nI (row + 1))), none] w' ∧ MO w' M (va_up x 27 (nI (ln + 1))) ∧ IA w' (M + 144) 20000 c' ∧ c' ln = nI (pkN oo 3 5) ∧ (∀ i, i ≠ ln → c' i = c i) ∧ Fr (fun a => a = M ∨ a = M + 144) u w' := by
  have L := lpC (fun f (s : Lv × Mem) => jX11_laysReadings g f 3 [] s.1 s.2) (fun i s => s.1 = [some (.ref M), some (.int (nI row)), some (.int (nI i))] ∧ (∃ c', IA s.2 (M + 144) 20000 c' ∧ c' ln = nI (pkN oo 3 i) ∧ (∀ i, i ≠ ln → c' i = c i)) ∧ Fr (fun a => a = M + 144) u s.2) 1 5
    (fun i s hi hI f => by
      obtain ⟨e1, ⟨c', i1, i2, i3⟩, i4⟩ := hI
      have hOs : MO s.2 M x := i4.at hO (by omega)
      have hcs := hto.fr i4 (by omega)
      have e := gs_step (P := pkN oo 3 i) (y := oo i) (i := i) (pkN_lt fun b hb => (hoo b (by omega)).2) (hoo i hi).2 hi
      rw [← pkN_s] at e
      have em : nI (oo i) - 1 + 1 = nI (oo i) := Int32.sub_add_cancel (nI (oo i)) 1
      refine ⟨f, ([some (.ref M), some (.int (nI row)), some (.int (nI (i + 1)))], wi s.2 0 (M + 144) ln (nI (pkN oo 3 (i + 1)))), Nat.le_refl _, ⟨rfl, ⟨_, i1.up _ _, va_up_self _ _ _, fun j hj => by rw [va_up_ne _ _ hj]; exact i3 j hj⟩, i4.tr (Fr.wi _ _ _ _ rfl)⟩, ?_⟩
      generalize pkN oo 3 i = X at e i2
      generalize pkN oo 3 (i + 1) = Y at e ⊢
      simp [jX11_laysReadings, bX11_laysReadings_0, bX11_laysReadings_1, bX11_laysReadings_2, bX11_laysReadings_3, bX11_laysReadings_4, i_aload, i_dup, i_dup2, i_getf, i_i2l, i_iadd, i_iaload, i_iastore, i_icge, i_ifeq, i_iinc, i_iload, i_imul, i_ior, i_ishl, i_istore, i_jmp, i_laload, i_lastore, i_lor, i_lshl, i_push, i_putf, i_return, msk, lset1, lset2, clr, Value.category, Option.toList, List.cons_append, List.nil_append, List.length_cons, List.length_nil, e1, (show ¬ (5 : Int32) ≤ nI i from nI_ge hi (by decide)), gf_eq hOs, mg_30, mg_27, mg_41, hx, i1.rd hl (by decide), i2, hcs.rd hi (by decide), (hoo i hi).1, em, e3, e, i1.wr hl (by decide), nI_1])
  obtain ⟨f1, s1, h1, ⟨e1, ⟨c', i1, i2, i3⟩, i4⟩, h3⟩ := L 5 0 ([some (.ref M), some (.int (nI row)), some (.int (nI 0))], u) (by omega) ⟨rfl, ⟨c, hL, by rw [h0]; rfl, fun _ _ => rfl⟩, Fr.rf _ _⟩ (f0 + 2)
  obtain ⟨f2, rfl⟩ : ∃ z, f1 = z + 2 := ⟨f1 - 2, by omega⟩
  have hO1 : MO s1.2 M x := i4.at hO (by omega)
  refine ⟨f2, mset s1.2 M (.inr (10, mo M (va_up x 27 (nI (ln + 1))))), c', by omega, ?_, ms_at _ _ _, i1.ms (by omega), i2, i3, (i4.mn fun a h => Or.inr h).tr (Fr.ms _ _ (Or.inl rfl))⟩
  simp only [nI_0] at h3
  have ef : f0 + 7 = f0 + 2 + 1 * 5 := by omega
  rw [ef, h3]
  simp [jX11_laysReadings, bX11_laysReadings_0, bX11_laysReadings_1, bX11_laysReadings_2, bX11_laysReadings_3, bX11_laysReadings_4, i_aload, i_dup, i_dup2, i_getf, i_i2l, i_iadd, i_iaload, i_iastore, i_icge, i_ifeq, i_iinc, i_iload, i_imul, i_ior, i_ishl, i_istore, i_jmp, i_laload, i_lastore, i_lor, i_lshl, i_push, i_putf, i_return, msk, lset1, lset2, clr, Value.category, Option.toList, List.cons_append, List.nil_append, List.length_cons, List.length_nil, e1, (show (5 : Int32) ≤ nI 5 from by decide), gf_eq hO1, mg_27, hx, nI_1, st_27 hO1]
