/-! ===== who has what by a row: the class ===== -/
def inj (f : Nat → Nat) (n : Nat) : Prop := ∀ i j, i < n → j < n → f i = f j → i = j
/-- what is asked of the statics and of the fuel -/
def GD (g : GE) : Prop := FU g ∧ inj g.2.1 8 ∧ inj g.2.2.1 12 ∧ inj g.2.2.2.1 12
theorem GD.v {g : GE} (h : GD g) {i j : Nat} (hi : i < 8) (hj : j < 8) : g.2.1 i = g.2.1 j ↔ i = j := ⟨h.2.1 i j hi hj, fun e => by rw [e]⟩
theorem paid_sp {g : GE} (hg : FU g) {w : Mem} {r pa p a b ss : Nat} {L1 L3 : Option Value} {v d o : Nat → Int32} {cc : Nat → Nat} {tw : Int32} (hR : ROW w r v d (fun h => nI (cc h)) o (nI ss) tw) (hp : p + 1 < 36) (ha : v p = nI a) (hb : v (p + 1) = nI b) (la : a < 4) :
    ∃ w', (∀ N, jX4_pay g (N + 1) 3 [] [some (.ref r), L1, some (.int (nI p)), L3] w = some (.inl none, w')) ∧ ROW w' r v d (fun h => nI (cc h + if a = h then b else 0)) o (nI (ss + b)) tw ∧ Fr (rg r (r + 5)) w w' := by
  obtain ⟨h0, h1, h2, h3, h4⟩ := id hR
  have hR1 := hR.c' a (nI (cc a) + nI b)
  obtain ⟨k0, k1, k2, k3, k4⟩ := id hR1
  refine ⟨_, fun N => ?_, (hR1.b' (nI ss + nI b) tw).cg (fun _ _ => rfl) (fun _ _ => rfl) ?_ (fun _ _ => rfl) (nI_add _ _) rfl, (Fr.wi w 0 (a := r + 3) a (nI (cc a) + nI b) (by unfold rg; omega)).tr (Fr.ms _ _ (by unfold rg; omega))⟩
  · simp [jX4_pay, bX4_pay_0, bX4_pay_1, bX4_pay_2, bX4_pay_3, i_acmpne, i_aload, i_dup, i_dup2, i_getf, i_iadd, i_iaload, i_iastore, i_iceq, i_icne, i_ifne, i_iinc, i_iload, i_istore, i_jmp, i_push, i_putf, i_return, msk, lset1, lset2, clr, Value.category, Option.toList, List.cons_append, List.nil_append, List.length_cons, List.length_nil, gf_eq h0, gf_eq k0, h1.rd (j := p) (by omega) (by decide), ha, h3.rd la (by decide), nI_1, h1.rd hp (by decide), hb, h3.wr la (by decide), k1.rd hp (by decide), sf_i k0]
  · intro i hi
    unfold va_up
    by_cases z : i = a
    · subst z; simp [nI_add]
    · have : ¬ a = i := fun e => z e.symm
      simp [z, this]
theorem pay_sp {g : GE} (hg : GD g) {w : Mem} {r pa vb t p y ss : Nat} {v d o : Nat → Int32} {cc vv : Nat → Nat} {tw : Int32} {py : Option (Nat × Nat)} (hR : ROW w r v d (fun h => nI (cc h)) o (nI ss) tw) (hP : OB w pa 3 [.ref (g.2.1 (4 + vb)), .int (nI t), .int (nI p)])
    (hy : o t = nI y - 1) (ly : y < 100) (hin : ∀ q, py = some q → q.1 < 4)
    (hc : (vb = 0 ∧ p + 1 < 36 ∧ v p = nI (vv p) ∧ v (p + 1) = nI (vv (p + 1)) ∧ py = some (vv p, vv (p + 1))) ∨ (vb = 2 ∧ t < 5 ∧ p + 3 < 36 ∧ (∀ i, i < 4 → v (p + i) = nI (vv (p + i)) ∧ vv (p + i) < 100) ∧ py = if (y = vv (p + 1) + 1) ↔ vv p = 0 then some (vv (p + 2), vv (p + 3)) else none)) :
    ∃ w', fX4_pay g [.ref r, .ref pa] w = some (.inl none, w') ∧ ROW w' r v d (fun h => nI (cc h + pC py h)) o (nI (ss + pS py)) tw ∧ Fr (rg r (r + 5)) w w' := by
  have hg1 := hg.1
  obtain ⟨h0, h1, h2, h3, h4⟩ := id hR
  rcases hc with ⟨c0, c1, c2, c3, c4⟩ | ⟨c0, c1, c2, c3, c4⟩
  · subst c0
    subst c4
    obtain ⟨N, hN⟩ : ∃ N, g.1 = N + 2 := ⟨g.1 - 2, by omega⟩
    obtain ⟨w', q1, q2, q3⟩ := paid_sp hg1 (L1 := none) (L3 := none) (pa := pa) hR c1 c2 c3 (hin _ rfl)
    refine ⟨w', ?_, q2, q3⟩
    have n6 : ¬ g.2.1 4 = g.2.1 6 := fun z => absurd ((hg.v (by decide) (by decide)).mp z) (by decide)
    rw [← q1 N]
    simp [fX4_pay, kX4_pay, ent, entp, jX4_pay, bX4_pay_0, bX4_pay_1, bX4_pay_2, bX4_pay_3, i_acmpne, i_aload, i_dup, i_dup2, i_getf, i_iadd, i_iaload, i_iastore, i_iceq, i_icne, i_ifne, i_iinc, i_iload, i_istore, i_jmp, i_push, i_putf, i_return, msk, lset1, lset2, clr, Value.category, Option.toList, List.cons_append, List.nil_append, List.length_cons, List.length_nil, hN, gf_eq hP, rfo, n6]
  · subst c0
    obtain ⟨N, hN⟩ : ∃ N, g.1 = N + 4 := ⟨g.1 - 4, by omega⟩
    have v0 := c3 0 (by decide)
    have v1 := c3 1 (by decide)
    have v2 := c3 2 (by decide)
    have v3 := c3 3 (by decide)
    rw [Nat.add_zero] at v0
    have m1 : (nI y - 1 = nI (vv (p + 1))) ↔ y = vv (p + 1) + 1 := nI_m1e (by omega) (by omega)
    have m0 : (nI (vv p) = 0) ↔ vv p = 0 := by rw [← nI_0]; exact nI_eq (by omega) (by decide)
    have e2 : nI p + 2 = nI (p + 2) := nI_add p 2
    by_cases z1 : y = vv (p + 1) + 1
    · by_cases z0 : vv p = 0
      · have cy : py = some (vv (p + 2), vv (p + 3)) := by rw [c4]; simp [z1, z0]
        subst cy
        obtain ⟨w', q1, q2, q3⟩ := paid_sp hg1 (L1 := none) (L3 := none) (pa := pa) hR (p := p + 2) (by omega) v2.1 v3.1 (hin _ rfl)
        refine ⟨w', ?_, q2, q3⟩
        rw [← q1 N]
        simp [fX4_pay, kX4_pay, ent, entp, jX4_pay, bX4_pay_0, bX4_pay_1, bX4_pay_2, bX4_pay_3, i_acmpne, i_aload, i_dup, i_dup2, i_getf, i_iadd, i_iaload, i_iastore, i_iceq, i_icne, i_ifne, i_iinc, i_iload, i_istore, i_jmp, i_push, i_putf, i_return, msk, lset1, lset2, clr, Value.category, Option.toList, List.cons_append, List.nil_append, List.length_cons, List.length_nil, hN, gf_eq hP, gf_eq h0, rfo, h4.rd c1 (by decide), h1.rd (j := p + 1) (by omega) (by decide), h1.rd (j := p) (by omega) (by decide), nI_1, hy, v0.1, v1.1, m1.mpr z1, m0.mpr z0, e2]
      · have cy : py = none := by rw [c4]; simp [z1, z0]
        subst cy
        refine ⟨w, ?_, hR.cg (fun _ _ => rfl) (fun _ _ => rfl) (fun _ _ => rfl) (fun _ _ => rfl) rfl rfl, Fr.rf _ _⟩
        simp [fX4_pay, kX4_pay, ent, entp, jX4_pay, bX4_pay_0, bX4_pay_1, bX4_pay_2, bX4_pay_3, i_acmpne, i_aload, i_dup, i_dup2, i_getf, i_iadd, i_iaload, i_iastore, i_iceq, i_icne, i_ifne, i_iinc, i_iload, i_istore, i_jmp, i_push, i_putf, i_return, msk, lset1, lset2, clr, Value.category, Option.toList, List.cons_append, List.nil_append, List.length_cons, List.length_nil, hN, gf_eq hP, gf_eq h0, rfo, h4.rd c1 (by decide), h1.rd (j := p + 1) (by omega) (by decide), h1.rd (j := p) (by omega) (by decide), nI_1, hy, v0.1, v1.1, m1.mpr z1, mt m0.mp z0, e2]
    · by_cases z0 : vv p = 0
      · have cy : py = none := by rw [c4]; simp [z1, z0]
        subst cy
        refine ⟨w, ?_, hR.cg (fun _ _ => rfl) (fun _ _ => rfl) (fun _ _ => rfl) (fun _ _ => rfl) rfl rfl, Fr.rf _ _⟩
        simp [fX4_pay, kX4_pay, ent, entp, jX4_pay, bX4_pay_0, bX4_pay_1, bX4_pay_2, bX4_pay_3, i_acmpne, i_aload, i_dup, i_dup2, i_getf, i_iadd, i_iaload, i_iastore, i_iceq, i_icne, i_ifne, i_iinc, i_iload, i_istore, i_jmp, i_push, i_putf, i_return, msk, lset1, lset2, clr, Value.category, Option.toList, List.cons_append, List.nil_append, List.length_cons, List.length_nil, hN, gf_eq hP, gf_eq h0, rfo, h4.rd c1 (by decide), h1.rd (j := p + 1) (by omega) (by decide), h1.rd (j := p) (by omega) (by decide), nI_1, hy, v0.1, v1.1, mt m1.mp z1, m0.mpr z0, e2]
      · have cy : py = some (vv (p + 2), vv (p + 3)) := by rw [c4]; simp [z1, z0]
        subst cy
        obtain ⟨w', q1, q2, q3⟩ := paid_sp hg1 (L1 := none) (L3 := none) (pa := pa) hR (p := p + 2) (by omega) v2.1 v3.1 (hin _ rfl)
        refine ⟨w', ?_, q2, q3⟩
        rw [← q1 N]
        simp [fX4_pay, kX4_pay, ent, entp, jX4_pay, bX4_pay_0, bX4_pay_1, bX4_pay_2, bX4_pay_3, i_acmpne, i_aload, i_dup, i_dup2, i_getf, i_iadd, i_iaload, i_iastore, i_iceq, i_icne, i_ifne, i_iinc, i_iload, i_istore, i_jmp, i_push, i_putf, i_return, msk, lset1, lset2, clr, Value.category, Option.toList, List.cons_append, List.nil_append, List.length_cons, List.length_nil, hN, gf_eq hP, gf_eq h0, rfo, h4.rd c1 (by decide), h1.rd (j := p + 1) (by omega) (by decide), h1.rd (j := p) (by omega) (by decide), nI_1, hy, v0.1, v1.1, mt m1.mp z1, mt m0.mp z0, e2]
/-- a row reckoned -/
abbrev RK (δ : DE) (st : Int32) (vv : Nat → Nat) (w : Mem) (r : Nat) (v d : Nat → Int32) : Prop := ROW w r v d (fun h => nI (cK δ st vv (δ.1 2) h)) (fun t => nI (ownK δ st vv (δ.1 2) t) - 1) (nI (sK δ st vv (δ.1 2))) (nI (twK δ st vv (δ.1 2)))
theorem reckon_sp {g : GE} (hg : GD g) {w : Mem} {r D : Nat} {δ : DE} {v d c o : Nat → Int32} {su tw : Int32} {vv : Nat → Nat} (hD : DEED g w D δ) (hR : ROW w r v d c o su tw) (hdis : D + 35 ≤ r ∨ r + 5 ≤ D) (hd : WF δ) (hv : VD δ vv) (e : ∀ p, p < δ.1 5 → v p = nI (vv p)) (st : Int32) :
    ∃ w', fX4_reckon g [.ref r, .ref D, .int st] w = some (.inl none, w') ∧ RK δ st vv w' r v d ∧ Fr (rg r (r + 5)) w w' := by
  have hg1 := hg.1
  obtain ⟨b1, b2, b3, b4, b5, b6, b7, b8⟩ := hd.1
  obtain ⟨h0, h1, h2, h3, h4⟩ := id hR
  have nd : ∀ i, i < 35 → ¬ rg r (r + 5) (D + i) := fun i hi => by unfold rg; omega
  -- the pays
  have LP := lpR (fun f (s : Lv × Mem) => jX4_reckon g f 3 [] s.1 s.2) (fun i s => s.1 = [some (.ref r), some (.ref D), some (.int st), some (.int (nI i))] ∧ ROW s.2 r v d (fun h => nI (cK δ st vv i h)) (fun t => nI (ownK δ st vv (δ.1 2) t) - 1) (nI (sK δ st vv i)) (nI (twK δ st vv (δ.1 2))) ∧ Fr (rg r (r + 5)) w s.2)
    (fun z => ∃ w', z = some (.inl none, w') ∧ RK δ st vv w' r v d ∧ Fr (rg r (r + 5)) w w') 2 1 (δ.1 2)
    (fun i s hi hI f => by
      obtain ⟨e1, e2, e3⟩ := hI
      have hDs := hD.fr e3 nd
      obtain ⟨d0, -, -, -, -, -, d6, -, -, -, dp, -, -⟩ := id hDs
      have hkd := hd.2.1 i hi
      have dpi := dp i (by omega)
      have lin : i < 9 := by omega
      by_cases z1 : nI i = st
      · have pn : payK δ st vv i = none := by unfold payK; simp [z1]
        refine Or.inr ⟨f, ([some (.ref r), some (.ref D), some (.int st), some (.int (nI (i + 1)))], s.2), Nat.le_refl _, ⟨rfl, e2.cg (fun _ _ => rfl) (fun _ _ => rfl) (fun h _ => by simp [cK, pn, pC]) (fun _ _ => rfl) (by simp [sK, pn, pS]) rfl, e3⟩, ?_⟩
        simp [jX4_reckon, bX4_reckon_0, bX4_reckon_1, bX4_reckon_2, bX4_reckon_3, bX4_reckon_4, i_aaload, i_acmpeq, i_acmpne, i_aload, i_getf, i_iceq, i_icge, i_iinc, i_iload, i_istore, i_jmp, i_push, i_putf, i_return, msk, lset1, lset2, clr, Value.category, Option.toList, List.cons_append, List.nil_append, List.length_cons, List.length_nil, e1, gf_eq d0, nI_ge hi (by omega), ← z1, nI_1]
      · by_cases z2 : δ.2 3 i = 1
        · have pn : payK δ st vv i = none := by unfold payK; simp [z2]
          rw [z2] at dpi
          refine Or.inr ⟨f, ([some (.ref r), some (.ref D), some (.int st), some (.int (nI (i + 1)))], s.2), Nat.le_refl _, ⟨rfl, e2.cg (fun _ _ => rfl) (fun _ _ => rfl) (fun h _ => by simp [cK, pn, pC]) (fun _ _ => rfl) (by simp [sK, pn, pS]) rfl, e3⟩, ?_⟩
          simp [jX4_reckon, bX4_reckon_0, bX4_reckon_1, bX4_reckon_2, bX4_reckon_3, bX4_reckon_4, i_aaload, i_acmpeq, i_acmpne, i_aload, i_getf, i_iceq, i_icge, i_iinc, i_iload, i_istore, i_jmp, i_push, i_putf, i_return, msk, lset1, lset2, clr, Value.category, Option.toList, List.cons_append, List.nil_append, List.length_cons, List.length_nil, e1, gf_eq d0, nI_ge hi (by omega), z1, d6.rd lin (by decide), va_rf, gf_eq dpi, rfo, nI_1]
        · have nv : ¬ g.2.1 (4 + δ.2 3 i) = g.2.1 5 := fun z => by
            have := (hg.v (by rcases hkd.1 with ⟨a, _⟩ | ⟨a, _⟩ | ⟨a, _⟩ <;> omega) (by decide)).mp z
            omega
          obtain ⟨w', q1, q2, q3⟩ := pay_sp hg (py := payK δ st vv i) (vv := vv) (y := ownK δ st vv (δ.1 2) (δ.2 4 i)) e2 dpi rfl (by have := ownK_le (s := st) hd hv (δ.1 2) (Nat.le_refl _) (δ.2 4 i); omega) (fun q hq => by have := (payK_in hd hv hi hq).1; omega) (by
            rcases hkd.1 with ⟨a, b, c, x⟩ | ⟨a, b, c⟩ | ⟨a, b, c, x, y, z⟩
            · left
              refine ⟨a, by omega, e _ (by omega), e _ (by omega), by unfold payK; simp [z1, a]⟩
            · exact absurd a z2
            · right
              refine ⟨a, by have := hkd.2 (by omega); omega, by omega, fun j hj => ⟨e _ (by omega), hv.l hd (by omega)⟩, by unfold payK; simp [z1, a]⟩)
          refine Or.inr ⟨f, ([some (.ref r), some (.ref D), some (.int st), some (.int (nI (i + 1)))], w'), Nat.le_refl _, ⟨rfl, q2.cg (fun _ _ => rfl) (fun _ _ => rfl) (fun h _ => rfl) (fun _ _ => rfl) rfl rfl, e3.tr q3⟩, ?_⟩
          simp [jX4_reckon, bX4_reckon_0, bX4_reckon_1, bX4_reckon_2, bX4_reckon_3, bX4_reckon_4, i_aaload, i_acmpeq, i_acmpne, i_aload, i_getf, i_iceq, i_icge, i_iinc, i_iload, i_istore, i_jmp, i_push, i_putf, i_return, msk, lset1, lset2, clr, Value.category, Option.toList, List.cons_append, List.nil_append, List.length_cons, List.length_nil, e1, gf_eq d0, nI_ge hi (by omega), z1, d6.rd lin (by decide), va_rf, gf_eq dpi, rfo, nv, nI_1, cvk_1 e2.1 q1])
    (fun s hI f => by
      obtain ⟨e1, e2, e3⟩ := hI
      have hDs := hD.fr e3 nd
      refine ⟨s.2, ?_, e2, e3⟩
      simp [jX4_reckon, bX4_reckon_0, bX4_reckon_1, bX4_reckon_2, bX4_reckon_3, bX4_reckon_4, i_aaload, i_acmpeq, i_acmpne, i_aload, i_getf, i_iceq, i_icge, i_iinc, i_iload, i_istore, i_jmp, i_push, i_putf, i_return, msk, lset1, lset2, clr, Value.category, Option.toList, List.cons_append, List.nil_append, List.length_cons, List.length_nil, e1, gf_eq hDs.1])
  -- the wills
  have LW := lpR (fun f (s : Lv × Mem) => jX4_reckon g (f + 2 * δ.1 2 + 1) 1 [] s.1 s.2) (fun i s => s.1 = [some (.ref r), some (.ref D), some (.int st), some (.int (nI i))] ∧ ROW s.2 r v d (fun h => nI (cK δ st vv 0 h)) (fun t => nI (ownK δ st vv i t) - 1) (nI (sK δ st vv 0)) (nI (twK δ st vv i)) ∧ Fr (rg r (r + 5)) w s.2)
    (fun z => ∃ w', z = some (.inl none, w') ∧ RK δ st vv w' r v d ∧ Fr (rg r (r + 5)) w w') 2 1 (δ.1 2)
    (fun i s hi hI f => by
      obtain ⟨e1, e2, e3⟩ := hI
      have hDs := hD.fr e3 nd
      obtain ⟨d0, -, -, -, -, -, d6, -, -, -, dp, -, -⟩ := id hDs
      have hkd := hd.2.1 i hi
      have dpi := dp i (by omega)
      have lin : i < 9 := by omega
      have ef : f + 2 + 2 * δ.1 2 + 1 = (f + 2 * δ.1 2 + 1) + 2 := by omega
      by_cases z1 : nI i = st
      · refine Or.inr ⟨f, ([some (.ref r), some (.ref D), some (.int st), some (.int (nI (i + 1)))], s.2), Nat.le_refl _, ⟨rfl, e2.cg (fun _ _ => rfl) (fun _ _ => rfl) (fun h _ => rfl) (fun t _ => by simp [ownK, z1]) rfl (by simp [twK, z1]), e3⟩, ?_⟩
        simp only [ef]
        generalize f + 2 * δ.1 2 + 1 = F
        simp [jX4_reckon, bX4_reckon_0, bX4_reckon_1, bX4_reckon_2, bX4_reckon_3, bX4_reckon_4, i_aaload, i_acmpeq, i_acmpne, i_aload, i_getf, i_iceq, i_icge, i_iinc, i_iload, i_istore, i_jmp, i_push, i_putf, i_return, msk, lset1, lset2, clr, Value.category, Option.toList, List.cons_append, List.nil_append, List.length_cons, List.length_nil, e1, gf_eq d0, nI_ge hi (by omega), ← z1, nI_1]
      · by_cases z2 : δ.2 3 i = 1
        · rw [z2] at dpi
          have hk1 : δ.2 6 (δ.2 5 i) = 1 ∧ δ.2 5 i + 1 ≤ δ.1 5 := by
            rcases hkd.1 with ⟨a, _⟩ | ⟨a, b, c⟩ | ⟨a, _⟩
            · omega
            · exact ⟨b, c⟩
            · omega
          have ht := hkd.2 (by omega)
          obtain ⟨w', q1, q2, q3⟩ := will_sp hg1 (x := vv (δ.2 5 i)) (y := ownK δ st vv i (δ.2 4 i)) e2 dpi (by omega) (by omega) (e _ (by omega)) rfl (hv.l hd (by omega)) (by have := ownK_le (s := st) hd hv i (by omega) (δ.2 4 i); omega)
          refine Or.inr ⟨f, ([some (.ref r), some (.ref D), some (.int st), some (.int (nI (i + 1)))], w'), Nat.le_refl _, ⟨rfl, q2.cg (fun _ _ => rfl) (fun _ _ => rfl) (fun h _ => rfl) (fun t _ => ?_) rfl ?_, e3.tr q3⟩, ?_⟩
          · simp only [ownK]
            by_cases z3 : t = δ.2 4 i
            · subst z3
              by_cases z4 : ownK δ st vv i (δ.2 4 i) = 0 <;> simp [z1, z2, z4]
            · have : ¬ δ.2 4 i = t := fun z => z3 z.symm
              simp [z3, this]
          · simp only [twK]
            by_cases z3 : ownK δ st vv i (δ.2 4 i) ≠ 0 ∧ ownK δ st vv i (δ.2 4 i) ≠ vv (δ.2 5 i) + 1
            · rw [if_pos z3, if_pos ⟨z1, z2, z3⟩]; rfl
            · rw [if_neg z3, if_neg fun q => z3 q.2.2]
          · simp only [ef]
            generalize f + 2 * δ.1 2 + 1 = F
            simp [jX4_reckon, bX4_reckon_0, bX4_reckon_1, bX4_reckon_2, bX4_reckon_3, bX4_reckon_4, i_aaload, i_acmpeq, i_acmpne, i_aload, i_getf, i_iceq, i_icge, i_iinc, i_iload, i_istore, i_jmp, i_push, i_putf, i_return, msk, lset1, lset2, clr, Value.category, Option.toList, List.cons_append, List.nil_append, List.length_cons, List.length_nil, e1, gf_eq d0, nI_ge hi (by omega), z1, d6.rd lin (by decide), va_rf, gf_eq dpi, rfo, nI_1, cvk_1 e2.1 q1]
        · have nv : ¬ g.2.1 (4 + δ.2 3 i) = g.2.1 5 := fun z => by
            have := (hg.v (by rcases hkd.1 with ⟨a, _⟩ | ⟨a, _⟩ | ⟨a, _⟩ <;> omega) (by decide)).mp z
            omega
          refine Or.inr ⟨f, ([some (.ref r), some (.ref D), some (.int st), some (.int (nI (i + 1)))], s.2), Nat.le_refl _, ⟨rfl, e2.cg (fun _ _ => rfl) (fun _ _ => rfl) (fun h _ => rfl) (fun t _ => by simp [ownK, z2]) rfl (by simp [twK, z2]), e3⟩, ?_⟩
          simp only [ef]
          generalize f + 2 * δ.1 2 + 1 = F
          simp [jX4_reckon, bX4_reckon_0, bX4_reckon_1, bX4_reckon_2, bX4_reckon_3, bX4_reckon_4, i_aaload, i_acmpeq, i_acmpne, i_aload, i_getf, i_iceq, i_icge, i_iinc, i_iload, i_istore, i_jmp, i_push, i_putf, i_return, msk, lset1, lset2, clr, Value.category, Option.toList, List.cons_append, List.nil_append, List.length_cons, List.length_nil, e1, gf_eq d0, nI_ge hi (by omega), z1, d6.rd lin (by decide), va_rf, gf_eq dpi, rfo, nv, nI_1])
    (fun s hI f => by
      obtain ⟨e1, e2, e3⟩ := hI
      have hDs := hD.fr e3 nd
      have q := LP (δ.1 2) 0 ([some (.ref r), some (.ref D), some (.int st), some (.int (nI 0))], s.2) (by omega) ⟨rfl, e2, e3⟩ (f + 2 * δ.1 2 + 1) (by omega)
      have ef : f + 1 + 2 * δ.1 2 + 1 = (f + 2 * δ.1 2 + 1) + 1 := by omega
      simp only [ef]
      generalize f + 2 * δ.1 2 + 1 = F at q ⊢
      simp only [nI_0] at q
      have e : jX4_reckon g (F + 1) 1 [] s.1 s.2 = jX4_reckon g F 3 [] [some (.ref r), some (.ref D), some (.int st), some (.int 0)] s.2 := by
        simp [jX4_reckon, bX4_reckon_0, bX4_reckon_1, bX4_reckon_2, bX4_reckon_3, bX4_reckon_4, i_aaload, i_acmpeq, i_acmpne, i_aload, i_getf, i_iceq, i_icge, i_iinc, i_iload, i_istore, i_jmp, i_push, i_putf, i_return, msk, lset1, lset2, clr, Value.category, Option.toList, List.cons_append, List.nil_append, List.length_cons, List.length_nil, e1, gf_eq hDs.1]
      rw [e]
      exact q)
  -- the beginning
  obtain ⟨w1, q1, q2, q3⟩ := fill_sp hg1 h3 (by decide) 0
  have hR1 : ROW w1 r v d (fun _ => 0) o su tw := ⟨q3.at h0 (by omega), h1.fr q3 (by omega), h2.fr q3 (by omega), q2, h4.fr q3 (by omega)⟩
  obtain ⟨w2, p1, p2, p3⟩ := fill_sp hg1 hR1.2.2.2.2 (by decide) (-1)
  have hR2 : ROW w2 r v d (fun _ => 0) (fun _ => -1) su tw := ⟨p3.at hR1.1 (by omega), hR1.2.1.fr p3 (by omega), hR1.2.2.1.fr p3 (by omega), hR1.2.2.2.1.fr p3 (by omega), p2⟩
  have hR3 := hR2.b' 0 tw
  have hR4 := hR3.b' 0 0
  have hF : Fr (rg r (r + 5)) w (mset (mset w2 r (.inr (4, [.ref (r + 1), .ref (r + 2), .ref (r + 3), .ref (r + 4), .int 0, .int tw]))) r (.inr (4, [.ref (r + 1), .ref (r + 2), .ref (r + 3), .ref (r + 4), .int 0, .int 0]))) :=
    (((q3.mn fun a h => by subst h; unfold rg; omega).tr (p3.mn fun a h => by subst h; unfold rg; omega)).tr (Fr.ms _ _ (by unfold rg; omega))).tr (Fr.ms _ _ (by unfold rg; omega))
  obtain ⟨w4, hw4⟩ : ∃ z, mset (mset w2 r (.inr (4, [.ref (r + 1), .ref (r + 2), .ref (r + 3), .ref (r + 4), .int 0, .int tw]))) r (.inr (4, [.ref (r + 1), .ref (r + 2), .ref (r + 3), .ref (r + 4), .int 0, .int 0])) = z := ⟨_, rfl⟩
  rw [hw4] at hR4 hF
  obtain ⟨N, hN⟩ : ∃ N, g.1 = N + 1 + 2 * δ.1 2 + 1 := ⟨g.1 - (2 + 2 * δ.1 2), by omega⟩
  have L := LW (δ.1 2) 0 ([some (.ref r), some (.ref D), some (.int st), some (.int (nI 0))], w4) (by omega) ⟨rfl, hR4.cg (fun _ _ => rfl) (fun _ _ => rfl) (fun h _ => by simp [cK, nI_0]) (fun t _ => by simp [ownK, nI_0]) (by simp [sK, nI_0]) (by simp [twK, nI_0]), hF⟩ N (by omega)
  have ef : N + 1 + 2 * δ.1 2 + 1 = (N + 2 * δ.1 2 + 1) + 1 := by omega
  rw [ef] at hN
  simp only at L
  generalize N + 2 * δ.1 2 + 1 = F at L hN
  simp only [nI_0] at L
  have e : fX4_reckon g [.ref r, .ref D, .int st] w = jX4_reckon g F 1 [] [some (.ref r), some (.ref D), some (.int st), some (.int 0)] w4 := by
    simp [fX4_reckon, kX4_reckon, ent, entp, jX4_reckon, bX4_reckon_0, bX4_reckon_1, bX4_reckon_2, bX4_reckon_3, bX4_reckon_4, i_aaload, i_acmpeq, i_acmpne, i_aload, i_getf, i_iceq, i_icge, i_iinc, i_iload, i_istore, i_jmp, i_push, i_putf, i_return, msk, lset1, lset2, clr, Value.category, Option.toList, List.cons_append, List.nil_append, List.length_cons, List.length_nil, hN, gf_eq h0, gf_eq hR1.1, csk_2 q1, csk_2 p1, sf_i hR2.1, sf_0 hR3.1, hw4]
  rw [e]
  exact L
theorem broken_sp {g : GE} (hg : FU g) {w : Mem} {r D : Nat} {δ : DE} {v d : Nat → Int32} {vv : Nat → Nat} {st : Int32} (hD : DEED g w D δ) (hR : RK δ st vv w r v d) (hd : WF δ) (hv : VD δ vv) :
    fX4_broken g [.ref r, .ref D] w = some (.inl (some (.int (nI (brK δ st (δ.1 4) vv)))), w) := by
  obtain ⟨b1, b2, b3, b4, b5, b6, b7, b8⟩ := hd.1
  obtain ⟨h0, h1, h2, h3, h4⟩ := id hR
  obtain ⟨d0, -, -, d3, -⟩ := id hD
  have ls := sK_le (s := st) hd hv (δ.1 2) (Nat.le_refl _)
  generalize hb0 : (if sK δ st vv (δ.1 2) = δ.1 4 then 0 else 1) + (if twK δ st vv (δ.1 2) = 0 then 0 else 2) = b0
  have hb4 : b0 < 4 := by
    subst hb0
    split <;> split <;> omega
  have L := lpF (fun f (s : Lv × Mem) => jX4_broken g f 3 [] s.1 s.2) (fun i => ([some (.ref r), some (.ref D), some (.int (nI (b0 + lsK δ (cK δ st vv (δ.1 2)) i))), some (.int (nI i))], w)) (some (.inl (some (.int (nI (brK δ st (δ.1 4) vv)))), w)) 2 1 (δ.1 0)
    (fun i hi f => by
      have lc := cK_sK (δ := δ) (s := st) (v := vv) (δ.1 2) i
      have ll := (hd.2.2.2.2.2.1 i hi).2.2
      refine ⟨f, Nat.le_refl _, ?_⟩
      by_cases z : cK δ st vv (δ.1 2) i < δ.2 1 i
      · have z1 := nI_ge z (by omega)
        have e4 : nI (b0 + lsK δ (cK δ st vv (δ.1 2)) i) ||| 4 = nI (b0 + 4) := by
          have : b0 = 0 ∨ b0 = 1 ∨ b0 = 2 ∨ b0 = 3 := by omega
          rcases lsK_04 δ (cK δ st vv (δ.1 2)) i with q | q <;> rw [q] <;> rcases this with q | q | q | q <;> subst q <;> decide
        simp [jX4_broken, bX4_broken_0, bX4_broken_1, bX4_broken_2, bX4_broken_3, bX4_broken_4, i_aload, i_getf, i_iaload, i_icge, i_icne, i_ifeq, i_iinc, i_iload, i_ior, i_ireturn, i_istore, i_jmp, i_push, msk, lset1, lset2, clr, Value.category, Option.toList, List.cons_append, List.nil_append, List.length_cons, List.length_nil, gf_eq h0, gf_eq d0, nI_ge hi (by omega), h3.rd (j := i) (by omega) (by decide), d3.rd (j := i) (by omega) (by decide), z1, e4, nI_1, lsK, z]
      · have z1 := nI_le (Nat.le_of_not_lt z) (by omega)
        simp [jX4_broken, bX4_broken_0, bX4_broken_1, bX4_broken_2, bX4_broken_3, bX4_broken_4, i_aload, i_getf, i_iaload, i_icge, i_icne, i_ifeq, i_iinc, i_iload, i_ior, i_ireturn, i_istore, i_jmp, i_push, msk, lset1, lset2, clr, Value.category, Option.toList, List.cons_append, List.nil_append, List.length_cons, List.length_nil, gf_eq h0, gf_eq d0, nI_ge hi (by omega), h3.rd (j := i) (by omega) (by decide), d3.rd (j := i) (by omega) (by decide), z1, nI_1, lsK, z])
    (fun f => by
      simp [jX4_broken, bX4_broken_0, bX4_broken_1, bX4_broken_2, bX4_broken_3, bX4_broken_4, i_aload, i_getf, i_iaload, i_icge, i_icne, i_ifeq, i_iinc, i_iload, i_ior, i_ireturn, i_istore, i_jmp, i_push, msk, lset1, lset2, clr, Value.category, Option.toList, List.cons_append, List.nil_append, List.length_cons, List.length_nil, gf_eq d0, brK, hb0])
  obtain ⟨N, hN⟩ : ∃ N, g.1 = N + 3 := ⟨g.1 - 3, by omega⟩
  have L1 := L N (by omega)
  simp only [lsK, Nat.add_zero, nI_0] at L1
  have m1 : (nI (sK δ st vv (δ.1 2)) = nI (δ.1 4)) ↔ sK δ st vv (δ.1 2) = δ.1 4 := nI_eq (by omega) (by omega)
  have m2 : (nI (twK δ st vv (δ.1 2)) = 0) ↔ twK δ st vv (δ.1 2) = 0 := by
    rw [← nI_0]; exact nI_eq (by rcases twK_01 (δ := δ) (s := st) (v := vv) (δ.1 2) with q | q <;> omega) (by decide)
  rw [← L1, ← hb0]
  by_cases z1 : sK δ st vv (δ.1 2) = δ.1 4 <;> by_cases z2 : twK δ st vv (δ.1 2) = 0
  · simp [fX4_broken, kX4_broken, ent, entp, jX4_broken, bX4_broken_0, bX4_broken_1, bX4_broken_2, bX4_broken_3, bX4_broken_4, i_aload, i_getf, i_iaload, i_icge, i_icne, i_ifeq, i_iinc, i_iload, i_ior, i_ireturn, i_istore, i_jmp, i_push, msk, lset1, lset2, clr, Value.category, Option.toList, List.cons_append, List.nil_append, List.length_cons, List.length_nil, hN, gf_eq h0, gf_eq d0, m1.mpr z1, m2.mpr z2, z1, z2, nI_0]
  · simp [fX4_broken, kX4_broken, ent, entp, jX4_broken, bX4_broken_0, bX4_broken_1, bX4_broken_2, bX4_broken_3, bX4_broken_4, i_aload, i_getf, i_iaload, i_icge, i_icne, i_ifeq, i_iinc, i_iload, i_ior, i_ireturn, i_istore, i_jmp, i_push, msk, lset1, lset2, clr, Value.category, Option.toList, List.cons_append, List.nil_append, List.length_cons, List.length_nil, hN, gf_eq h0, gf_eq d0, m1.mpr z1, mt m2.mp z2, z1, z2, nI_0]
    rfl
  · simp [fX4_broken, kX4_broken, ent, entp, jX4_broken, bX4_broken_0, bX4_broken_1, bX4_broken_2, bX4_broken_3, bX4_broken_4, i_aload, i_getf, i_iaload, i_icge, i_icne, i_ifeq, i_iinc, i_iload, i_ior, i_ireturn, i_istore, i_jmp, i_push, msk, lset1, lset2, clr, Value.category, Option.toList, List.cons_append, List.nil_append, List.length_cons, List.length_nil, hN, gf_eq h0, gf_eq d0, mt m1.mp z1, m2.mpr z2, z1, z2, nI_0]
    rfl
  · simp [fX4_broken, kX4_broken, ent, entp, jX4_broken, bX4_broken_0, bX4_broken_1, bX4_broken_2, bX4_broken_3, bX4_broken_4, i_aload, i_getf, i_iaload, i_icge, i_icne, i_ifeq, i_iinc, i_iload, i_ior, i_ireturn, i_istore, i_jmp, i_push, msk, lset1, lset2, clr, Value.category, Option.toList, List.cons_append, List.nil_append, List.length_cons, List.length_nil, hN, gf_eq h0, gf_eq d0, mt m1.mp z1, mt m2.mp z2, z1, z2, nI_0]
    rfl
