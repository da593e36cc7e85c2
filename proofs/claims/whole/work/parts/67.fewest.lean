/-! ===== fewest, sway: the class ===== -/
theorem GRW.tr {w w1 w2 : Mem} {a a1 a2 n n1 n2 rows : Nat} (h : GRW w w1 a a1 n n1 rows) (k : GRW w1 w2 a1 a2 n1 n2 rows) : GRW w w2 a a2 n n2 rows := by
  obtain ⟨h1, h2, h3, h4⟩ := h
  obtain ⟨k1, k2, k3, k4⟩ := k
  exact ⟨by omega, by omega, by omega, by omega⟩
theorem GRW.ag {w w1 : Mem} {a a1 n n1 rows : Nat} (h : GRW w w1 a a1 n n1 rows) : a1 = a ∨ w.2.1 ≤ a1 := h.1
theorem p2n : ∀ n, n < 9 → ((1 : Int32) <<< (nI n &&& 31)) - 1 = nI (2 ^ n - 1) := by decide +kernel
theorem p2l {n : Nat} (h : n ≤ 8) : 2 ^ n ≤ 256 := Nat.pow_le_pow_right (n := 2) (by decide) h
theorem fw_lt {δ : DE} (hd : WF δ) (t : Nat) : ∀ k, k ≤ 256 → fwF δ t k < 256
  | 0, _ => by
    have := p2l hd.1.2.2.2.1
    show 2 ^ _ - 1 < 256
    omega
  | k + 1, h => by
    have ih := fw_lt hd t k (by omega)
    unfold fwF
    split
    · omega
    · exact ih
theorem fwK_lt {δ : DE} (hd : WF δ) (t : Nat) : fwK δ t < 256 := fw_lt hd t _ (by have := p2l hd.1.2.2.2.1; omega)
theorem pc8_le (k : Nat) : pc8 k ≤ 8 := by unfold pc8; omega
/-! the fewest, by how many -/
theorem pc8_all : ∀ n, n < 9 → ∀ k, k < 2 ^ n - 1 → pc8 k < n := by decide +kernel
theorem pc8_top : ∀ n, n < 9 → pc8 (2 ^ n - 1) = n := by decide +kernel
theorem fw_inv {δ : DE} (hd : WF δ) (t : Nat) : ∀ s, s ≤ 2 ^ δ.1 3 - 1 → (fwF δ t s = 2 ^ δ.1 3 - 1 ∨ (fwF δ t s < s ∧ tlB δ (fwF δ t s) t = true)) ∧ ∀ k, k < s → tlB δ k t = true → pc8 (fwF δ t s) < pc8 k ∨ (pc8 (fwF δ t s) = pc8 k ∧ fwF δ t s ≤ k)
  | 0, _ => ⟨Or.inl rfl, fun k hk => absurd hk (Nat.not_lt_zero _)⟩
  | s + 1, hs => by
    obtain ⟨h1, h2⟩ := fw_inv hd t s (by omega)
    have b4 := hd.1.2.2.2.1
    have p1 := pc8_all (δ.1 3) (by omega) s (by omega)
    have p2 := pc8_top (δ.1 3) (by omega)
    have e : fwF δ t (s + 1) = if pc8 s < pc8 (fwF δ t s) ∧ tlB δ s t = true then s else fwF δ t s := rfl
    rw [e]
    generalize fwF δ t s = x at h1 h2 ⊢
    by_cases z : pc8 s < pc8 x ∧ tlB δ s t = true
    · rw [if_pos z]
      have z1 := z.1
      refine ⟨Or.inr ⟨by omega, z.2⟩, fun k hk ht => ?_⟩
      by_cases y : k = s
      · subst y
        exact Or.inr ⟨rfl, Nat.le_refl _⟩
      · have q := h2 k (by omega) ht
        exact Or.inl (by omega)
    · rw [if_neg z]
      refine ⟨h1.imp id fun h => ⟨Nat.lt_succ_of_lt h.1, h.2⟩, fun k hk ht => ?_⟩
      by_cases y : k = s
      · subst y
        have z1 : ¬ pc8 k < pc8 x := fun q => z ⟨q, ht⟩
        rcases h1 with h1 | ⟨h1, -⟩
        · rw [h1, p2] at z1
          exact absurd p1 z1
        · omega
      · exact h2 k (by omega) ht
theorem fw_found {δ : DE} (hd : WF δ) {t s : Nat} (hs : s < 2 ^ δ.1 3 - 1) (ht : tlB δ s t = true) (h1 : ∀ k, k < 2 ^ δ.1 3 - 1 → pc8 k < pc8 s → ¬ tlB δ k t = true) (h2 : ∀ k, k < s → pc8 k = pc8 s → ¬ tlB δ k t = true) : fwK δ t = s := by
  have b4 := hd.1.2.2.2.1
  obtain ⟨i1, i2⟩ := fw_inv hd t (2 ^ δ.1 3 - 1) (Nat.le_refl _)
  have p1 := pc8_all (δ.1 3) (by omega) s hs
  have p2 := pc8_top (δ.1 3) (by omega)
  have i3 := i2 s hs ht
  show fwF δ t (2 ^ δ.1 3 - 1) = s
  clear i2
  generalize fwF δ t (2 ^ δ.1 3 - 1) = x at i1 i3 ⊢
  rcases i1 with e | ⟨l, e⟩
  · rw [e, p2] at i3
    omega
  · rcases i3 with q | ⟨q, r⟩
    · exact absurd e (h1 x l q)
    · by_cases y : x = s
      · exact y
      · exact absurd e (h2 x (by omega) q)
theorem fw_none {δ : DE} (hd : WF δ) {t : Nat} (h : ∀ k, k < 2 ^ δ.1 3 - 1 → ¬ tlB δ k t = true) : fwK δ t = 2 ^ δ.1 3 - 1 := by
  rcases (fw_inv hd t (2 ^ δ.1 3 - 1) (Nat.le_refl _)).1 with e | ⟨l, e⟩
  · exact e
  · exact absurd e (h _ l)
/-- the memory, while the fewest are sought -/
def FWM (g : GE) (w u : Mem) (tb E D : Nat) (δ : DE) (aM aS aG n1 lev nG : Nat) : Prop := ∃ aG' nG', (∃ c, AR 2 u aG' nG' c) ∧ GT g u tb E D δ (δ.1 6) aM aS aG' n1 lev ∧ nG' ≤ 20000 ∧ GRW w u aG aG' nG nG' (δ.1 6) ∧ FA (fun a => a = tb ∨ a = aG) w u
def FWQ (g : GE) (w : Mem) (tb E D : Nat) (δ : DE) (aM aS aG n1 lev nG t : Nat) (z : Option (Rs × Mem)) : Prop := ∃ u, z = some (.inl (some (.int (nI (fwK δ t)))), u) ∧ FWM g w u tb E D δ aM aS aG n1 lev nG
theorem ff_in {g : GE} (hg : FU g) {w : Mem} {tb E D aM aS aG n1 lev : Nat} {δ : DE} {t nG : Nat} (hd : WF δ) (hD : DEED g w D δ) (hDa : D + 35 ≤ tb) (hG : GT g w tb E D δ (δ.1 6) aM aS aG n1 lev) (ht : t < 5) {m : Nat} (hm : m < δ.1 3) (ho : ∀ j, j < 2 ^ δ.1 3 - 1 → pc8 j < m → ¬ tlB δ j t = true) (f0 : Nat) :
    ∀ u, FWM g w u tb E D δ aM aS aG n1 lev nG → FWQ g w tb E D δ aM aS aG n1 lev nG t (jX7_findFewest g (599 + f0) 2 [] [some (.ref tb), some (.int (nI t)), some (.int (nI (2 ^ δ.1 3 - 1))), some (.int (nI m)), some (.int (nI 0))] u)
      ∨ ∃ f' u', f0 ≤ f' ∧ (∀ j, j < 2 ^ δ.1 3 - 1 → pc8 j < m + 1 → ¬ tlB δ j t = true) ∧ FWM g w u' tb E D δ aM aS aG n1 lev nG ∧ jX7_findFewest g (599 + f0) 2 [] [some (.ref tb), some (.int (nI t)), some (.int (nI (2 ^ δ.1 3 - 1))), some (.int (nI m)), some (.int (nI 0))] u = jX7_findFewest g f' 1 [] [some (.ref tb), some (.int (nI t)), some (.int (nI (2 ^ δ.1 3 - 1))), some (.int (nI (m + 1))), none] u' := by
  obtain ⟨b1, b2, b3, b4, b5, b6, b7, b8⟩ := id hd.1
  have lp := p2l b4
  obtain ⟨fM, fS, -, -, -, ⟨t1, t2, t3, t4, t5, t6, t7, t8, t9, t10, t11⟩, -⟩ := id hG
  have L := lpR (fun f (s : Lv × Mem) => jX7_findFewest g (f + f0) 2 [] s.1 s.2) (fun k s => s.1 = [some (.ref tb), some (.int (nI t)), some (.int (nI (2 ^ δ.1 3 - 1))), some (.int (nI m)), some (.int (nI k))] ∧ (∀ j, j < k → pc8 j = m → ¬ tlB δ j t = true) ∧ FWM g w s.2 tb E D δ aM aS aG n1 lev nG)
    (fun b => FWQ g w tb E D δ aM aS aG n1 lev nG t b ∨ ∃ f' u', f0 ≤ f' ∧ (∀ j, j < 2 ^ δ.1 3 - 1 → pc8 j < m + 1 → ¬ tlB δ j t = true) ∧ FWM g w u' tb E D δ aM aS aG n1 lev nG ∧ b = jX7_findFewest g f' 1 [] [some (.ref tb), some (.int (nI t)), some (.int (nI (2 ^ δ.1 3 - 1))), some (.int (nI (m + 1))), none] u') 2 1 (2 ^ δ.1 3 - 1)
    (fun k s hk hI f => by
      obtain ⟨e1, e0, aG1, nG1, ⟨c1, e2⟩, e3, e4, e5, e6⟩ := hI
      have hTs := e3.tb
      have q1 := bitCount_sp (g := g) (w := s.2) (k := k) (by omega)
      have l1 := pc8_le k
      have ek := nI_ge hk (by omega)
      by_cases z : pc8 k = m
      · have hDs := hD.fa e6 (by omega) (fun i hi => by omega)
        obtain ⟨w2, aG2, nG2, p1, ⟨-, c2, p2, -⟩, p3, p4, p5, p6⟩ := sortOwners_sp hg hd hDs hDa e3 (set := k) (by omega) ht e2 e4
        rw [mx_tl hd] at p1
        have g5 := e5.tr p5
        have F2 : FA (fun a => a = tb ∨ a = aG) w w2 := e6.tr p6 (fun a ha h => by
          rcases h with h | h
          · exact Or.inl h
          · rcases e5.ag with y | y
            · exact Or.inr (h.trans y)
            · omega)
        have M2 : FWM g w w2 tb E D δ aM aS aG n1 lev nG := ⟨aG2, nG2, ⟨c2, p2⟩, p3, p4, g5, F2⟩
        cases hm2 : tlB δ k t with
        | true =>
          rw [hm2] at p1
          simp only [Bool.not_true, bI, Bool.false_eq_true, if_false] at p1
          have ef : fwK δ t = k := fw_found hd hk hm2 (fun j h1 h2 => ho j h1 (by omega)) (fun j h1 h2 => e0 j h1 (by omega))
          refine Or.inl (Or.inl ⟨w2, ?_, M2⟩)
          rw [ef]
          show jX7_findFewest g (f + 2 + f0) 2 [] s.1 s.2 = _
          rw [show f + 2 + f0 = (f + f0) + 2 from by omega]
          generalize f + f0 = F
          rw [z] at q1
          generalize nI (2 ^ δ.1 3 - 1) = A at e1 ek
          simp [jX7_findFewest, bX7_findFewest_0, bX7_findFewest_1, bX7_findFewest_2, bX7_findFewest_3, i_aload, i_getf, i_icge, i_icne, i_ifne, i_iinc, i_iload, i_ireturn, i_ishl, i_istore, i_isub, i_jmp, i_push, msk, lset1, lset2, clr, Value.category, Option.toList, List.cons_append, List.nil_append, List.length_cons, List.length_nil, e1, ek, csk_1 q1, cvk_2 hTs p1]
        | false =>
          rw [hm2] at p1
          simp only [Bool.not_false, bI, if_true] at p1
          refine Or.inr ⟨f, ([some (.ref tb), some (.int (nI t)), some (.int (nI (2 ^ δ.1 3 - 1))), some (.int (nI m)), some (.int (nI (k + 1)))], w2), Nat.le_refl _, ⟨rfl, fun j h1 h2 => ?_, M2⟩, ?_⟩
          · by_cases y : j = k
            · subst y
              rw [hm2]
              exact Bool.false_ne_true
            · exact e0 j (by omega) h2
          show jX7_findFewest g (f + 2 + f0) 2 [] s.1 s.2 = jX7_findFewest g (f + f0) 2 [] _ _
          rw [show f + 2 + f0 = (f + f0) + 2 from by omega]
          generalize f + f0 = F
          rw [z] at q1
          generalize nI (2 ^ δ.1 3 - 1) = A at e1 ek ⊢
          simp [jX7_findFewest, bX7_findFewest_0, bX7_findFewest_1, bX7_findFewest_2, bX7_findFewest_3, i_aload, i_getf, i_icge, i_icne, i_ifne, i_iinc, i_iload, i_ireturn, i_ishl, i_istore, i_isub, i_jmp, i_push, msk, lset1, lset2, clr, Value.category, Option.toList, List.cons_append, List.nil_append, List.length_cons, List.length_nil, e1, ek, csk_1 q1, cvk_2 hTs p1, nI_1]
      · have z1 : ¬ nI (pc8 k) = nI m := mt (nI_eq (by omega) (by omega)).mp z
        refine Or.inr ⟨f, ([some (.ref tb), some (.int (nI t)), some (.int (nI (2 ^ δ.1 3 - 1))), some (.int (nI m)), some (.int (nI (k + 1)))], s.2), Nat.le_refl _, ⟨rfl, fun j h1 h2 => ?_, aG1, nG1, ⟨c1, e2⟩, e3, e4, e5, e6⟩, ?_⟩
        · by_cases y : j = k
          · subst y
            exact absurd h2 z
          · exact e0 j (by omega) h2
        show jX7_findFewest g (f + 2 + f0) 2 [] s.1 s.2 = jX7_findFewest g (f + f0) 2 [] _ _
        rw [show f + 2 + f0 = (f + f0) + 2 from by omega]
        generalize f + f0 = F
        generalize nI (2 ^ δ.1 3 - 1) = A at e1 ek ⊢
        generalize nI (pc8 k) = P at q1 z1
        simp [jX7_findFewest, bX7_findFewest_0, bX7_findFewest_1, bX7_findFewest_2, bX7_findFewest_3, i_aload, i_getf, i_icge, i_icne, i_ifne, i_iinc, i_iload, i_ireturn, i_ishl, i_istore, i_isub, i_jmp, i_push, msk, lset1, lset2, clr, Value.category, Option.toList, List.cons_append, List.nil_append, List.length_cons, List.length_nil, e1, ek, csk_1 q1, z1, nI_1])
    (fun s hI f => by
      obtain ⟨e1, e0, e2⟩ := hI
      refine Or.inr ⟨f + f0, s.2, by omega, fun j h1 h2 => ?_, e2, ?_⟩
      · by_cases y : pc8 j = m
        · exact e0 j h1 y
        · exact ho j h1 (by omega)
      show jX7_findFewest g (f + 1 + f0) 2 [] s.1 s.2 = _
      rw [show f + 1 + f0 = (f + f0) + 1 from by omega]
      generalize f + f0 = F
      generalize nI (2 ^ δ.1 3 - 1) = A at e1 ⊢
      simp [jX7_findFewest, bX7_findFewest_0, bX7_findFewest_1, bX7_findFewest_2, bX7_findFewest_3, i_aload, i_getf, i_icge, i_icne, i_ifne, i_iinc, i_iload, i_ireturn, i_ishl, i_istore, i_isub, i_jmp, i_push, msk, lset1, lset2, clr, Value.category, Option.toList, List.cons_append, List.nil_append, List.length_cons, List.length_nil, e1, nI_1])
  intro u hu
  exact L (2 ^ δ.1 3 - 1) 0 ([some (.ref tb), some (.int (nI t)), some (.int (nI (2 ^ δ.1 3 - 1))), some (.int (nI m)), some (.int (nI 0))], u) (by omega) ⟨rfl, fun j hj => absurd hj (Nat.not_lt_zero _), hu⟩ 599 (by omega)
theorem findFewest_sp {g : GE} (hg : FU g) {w : Mem} {tb E D aM aS aG n1 lev : Nat} {δ : DE} {t nG : Nat} {c : Nat → Int32} (hd : WF δ) (hD : DEED g w D δ) (hDa : D + 35 ≤ tb) (hG : GT g w tb E D δ (δ.1 6) aM aS aG n1 lev) (ht : t < 5) (hc : AR 2 w aG nG c) (hnG : nG ≤ 20000) :
    ∃ w' aG' nG', fX7_findFewest g [.ref tb, .int (nI t)] w = some (.inl (some (.int (nI (fwK δ t)))), w') ∧ (∃ c, AR 2 w' aG' nG' c) ∧ GT g w' tb E D δ (δ.1 6) aM aS aG' n1 lev ∧ nG' ≤ 20000 ∧ GRW w w' aG aG' nG nG' (δ.1 6) ∧ FA (fun a => a = tb ∨ a = aG) w w' := by
  obtain ⟨b1, b2, b3, b4, b5, b6, b7, b8⟩ := id hd.1
  have lp := p2l b4
  have hT := hG.tb
  obtain ⟨fM, fS, -, -, -, ⟨t1, t2, t3, t4, t5, t6, t7, t8, t9, t10, t11⟩, -⟩ := id hG
  obtain ⟨N, hN⟩ : ∃ N, g.1 = N + 1 := ⟨g.1 - 1, by omega⟩
  have L := lpR (fun f (s : Lv × Mem) => jX7_findFewest g f 1 [] s.1 s.2) (fun m s => s.1 = [some (.ref tb), some (.int (nI t)), some (.int (nI (2 ^ δ.1 3 - 1))), some (.int (nI m)), none] ∧ (∀ j, j < 2 ^ δ.1 3 - 1 → pc8 j < m → ¬ tlB δ j t = true) ∧ FWM g w s.2 tb E D δ aM aS aG n1 lev nG)
    (FWQ g w tb E D δ aM aS aG n1 lev nG t) 600 1 (δ.1 3)
    (fun m s hm hI f => by
      obtain ⟨e1, e0, e2⟩ := hI
      have st : jX7_findFewest g (f + 600) 1 [] s.1 s.2 = jX7_findFewest g (599 + f) 2 [] [some (.ref tb), some (.int (nI t)), some (.int (nI (2 ^ δ.1 3 - 1))), some (.int (nI m)), some (.int (nI 0))] s.2 := by
        obtain ⟨aG1, nG1, -, e3, -, -, e6⟩ := e2
        have hTs := e3.tb
        have hDs := (hD.fa e6 (by omega) (fun i hi => by omega)).1
        have ek := nI_ge hm (by omega)
        rw [show f + 600 = (599 + f) + 1 from by omega]
        generalize 599 + f = F
        generalize nI (2 ^ δ.1 3 - 1) = A at e1 ⊢
        simp [jX7_findFewest, bX7_findFewest_0, bX7_findFewest_1, bX7_findFewest_2, bX7_findFewest_3, i_aload, i_getf, i_icge, i_icne, i_ifne, i_iinc, i_iload, i_ireturn, i_ishl, i_istore, i_isub, i_jmp, i_push, msk, lset1, lset2, clr, Value.category, Option.toList, List.cons_append, List.nil_append, List.length_cons, List.length_nil, e1, gf_eq hTs, gf_eq hDs, ek, nI_0]
      rcases ff_in hg hd hD hDa hG ht hm e0 f s.2 e2 with q | ⟨f', u', q1, q2, q3, q4⟩
      · exact Or.inl (st ▸ q)
      · exact Or.inr ⟨f', ([some (.ref tb), some (.int (nI t)), some (.int (nI (2 ^ δ.1 3 - 1))), some (.int (nI (m + 1))), none], u'), q1, ⟨rfl, q2, q3⟩, st.trans q4⟩)
    (fun s hI f => by
      obtain ⟨e1, e0, e2⟩ := hI
      refine ⟨s.2, ?_, e2⟩
      rw [fw_none hd (t := t) fun k hk => e0 k hk (pc8_all _ (by omega) k hk)]
      obtain ⟨aG1, nG1, -, e3, -, -, e6⟩ := e2
      have hTs := e3.tb
      have hDs := (hD.fa e6 (by omega) (fun i hi => by omega)).1
      generalize nI (2 ^ δ.1 3 - 1) = A at e1 ⊢
      simp [jX7_findFewest, bX7_findFewest_0, bX7_findFewest_1, bX7_findFewest_2, bX7_findFewest_3, i_aload, i_getf, i_icge, i_icne, i_ifne, i_iinc, i_iload, i_ireturn, i_ishl, i_istore, i_isub, i_jmp, i_push, msk, lset1, lset2, clr, Value.category, Option.toList, List.cons_append, List.nil_append, List.length_cons, List.length_nil, e1, gf_eq hTs, gf_eq hDs])
  obtain ⟨w', q1, aG', nG', q2⟩ := L (δ.1 3) 0 ([some (.ref tb), some (.int (nI t)), some (.int (nI (2 ^ δ.1 3 - 1))), some (.int (nI 0)), none], w) (by omega) ⟨rfl, fun j _ hj => absurd hj (Nat.not_lt_zero _), aG, nG, ⟨c, hc⟩, hG, hnG, GRW.rf rfl, (Fr.rf _ _).fa⟩ N (by omega)
  refine ⟨w', aG', nG', ?_, q2⟩
  rw [← q1]
  have e3 := p2n (δ.1 3) (by omega)
  simp only [nI_0]
  generalize nI (2 ^ δ.1 3 - 1) = A at e3 ⊢
  simp [fX7_findFewest, kX7_findFewest, ent, entp, jX7_findFewest, bX7_findFewest_0, bX7_findFewest_1, bX7_findFewest_2, bX7_findFewest_3, i_aload, i_getf, i_icge, i_icne, i_ifne, i_iinc, i_iload, i_ireturn, i_ishl, i_istore, i_isub, i_jmp, i_push, msk, lset1, lset2, clr, Value.category, Option.toList, List.cons_append, List.nil_append, List.length_cons, List.length_nil, hN, gf_eq hT, gf_eq hD.1, e3]
theorem fewestToKnow_sp {g : GE} (hg : FU g) {w : Mem} {tb E D aM aS aG n1 lev : Nat} {δ : DE} {t nG : Nat} {c c5 : Nat → Int32} (hd : WF δ) (hD : DEED g w D δ) (hDa : D + 35 ≤ tb) (hG : GT g w tb E D δ (δ.1 6) aM aS aG n1 lev) (ht : t < δ.1 1) (hc : AR 2 w aG nG c) (hnG : nG ≤ 20000) (h5 : IA w (tb + 12) 5 c5) (k5 : ∀ t, t < δ.1 1 → c5 t = -1 ∨ c5 t = nI (fwK δ t)) :
    ∃ w' aG' nG', fX7_fewestToKnow g [.ref tb, .int (nI t)] w = some (.inl (some (.int (nI (fwK δ t)))), w') ∧ (∃ c, AR 2 w' aG' nG' c) ∧ GT g w' tb E D δ (δ.1 6) aM aS aG' n1 lev ∧ nG' ≤ 20000 ∧ GRW w w' aG aG' nG nG' (δ.1 6) ∧ FA (fun a => a = tb ∨ a = aG ∨ a = tb + 12) w w' ∧ (∃ c, IA w' (tb + 12) 5 c ∧ ∀ t, t < δ.1 1 → c t = -1 ∨ c t = nI (fwK δ t)) := by
  obtain ⟨b1, b2, b3, b4, b5, b6, b7, b8⟩ := id hd.1
  have hT := hG.tb
  obtain ⟨fM, fS, -, -, -, ⟨t1, t2, t3, t4, t5, t6, t7, t8, t9, t10, t11⟩, -⟩ := id hG
  obtain ⟨N, hN⟩ : ∃ N, g.1 = N + 2 := ⟨g.1 - 2, by omega⟩
  have lw := fwK_lt hd t
  have nn := nI_nn (y := fwK δ t) (by omega)
  rcases k5 t ht with z | z
  · obtain ⟨w1, aG1, nG1, p1, ⟨c1, p2⟩, p3, p4, p5, p6⟩ := findFewest_sp hg hd hD hDa hG (t := t) (by omega) hc hnG
    have h5' : IA w1 (tb + 12) 5 c5 := h5.fa p6 (by omega) (by omega)
    obtain ⟨w2, hw2⟩ : ∃ q, wi w1 0 (tb + 12) t (nI (fwK δ t)) = q := ⟨_, rfl⟩
    have F2 : Fr (fun a => a = tb + 12) w1 w2 := hw2 ▸ Fr.wi _ _ _ _ rfl
    have h52 := h5'.up t (nI (fwK δ t))
    rw [hw2] at h52
    have nk := p3.nk (k := 12) (by decide) (by decide)
    have hA1 : aG1 ≠ tb + 12 := by
      obtain ⟨fM, fS, -, -, -, ⟨u1, u2, u3, u4, u5, u6, u7, u8, u9, u10, u11⟩, -⟩ := id p3
      omega
    have g3 := p3.fr F2 (by omega) nk.1 nk.2 (by omega)
    have hT2 := g3.tb
    refine ⟨w2, aG1, nG1, ?_, ⟨c1, p2.fr F2 hA1⟩, g3, p4, ?_, (p6.tr' fun a h => by omega).tr F2.fa (fun a _ h => Or.inr (Or.inr h)), ⟨_, h52, fun j hj => ?_⟩⟩
    · generalize nI (fwK δ t) = X at p1 hw2 h52 ⊢
      simp [fX7_fewestToKnow, kX7_fewestToKnow, ent, entp, jX7_fewestToKnow, bX7_fewestToKnow_0, bX7_fewestToKnow_1, i_aload, i_getf, i_iaload, i_iastore, i_icne, i_iload, i_ireturn, i_jmp, i_push, msk, lset1, lset2, clr, Value.category, Option.toList, List.cons_append, List.nil_append, List.length_cons, List.length_nil, hN, gf_eq hT, h5.rd (j := t) (by omega) (by decide), z, cvk_1 hT p1, h5'.wr (j := t) (by omega) (by decide), hw2, gf_eq hT2, h52.rd (j := t) (by omega) (by decide), va_up_self]
    · exact p5.tr (GRW.rf F2.2)
    · by_cases y : j = t
      · subst y; exact Or.inr (va_up_self _ _ _)
      · rw [va_up_ne _ _ y]; exact k5 j hj
  · refine ⟨w, aG, nG, ?_, ⟨c, hc⟩, hG, hnG, GRW.rf rfl, (Fr.rf _ _).fa, ⟨c5, h5, k5⟩⟩
    simp [fX7_fewestToKnow, kX7_fewestToKnow, ent, entp, jX7_fewestToKnow, bX7_fewestToKnow_0, bX7_fewestToKnow_1, i_aload, i_getf, i_iaload, i_iastore, i_icne, i_iload, i_ireturn, i_jmp, i_push, msk, lset1, lset2, clr, Value.category, Option.toList, List.cons_append, List.nil_append, List.length_cons, List.length_nil, hN, gf_eq hT, h5.rd (j := t) (by omega) (by decide), z, nn]
theorem CF.fa {g : GE} {w w' : Mem} {B E lev D aM aS aG n1 : Nat} {δ : DE} (hE : B + 132 ≤ E) (hG : GT g w (B + 73) E D δ (δ.1 6) aM aS aG n1 lev) (k : FA (fun a => a = B + 73 ∨ a = aG ∨ a = B + 73 + 12) w w') : FA (CF B E) w w' := by
  obtain ⟨fM, fS, -, -, -, ⟨t1, t2, t3, t4, t5, t6, t7, t8, t9, t10, t11⟩, -⟩ := id hG
  refine k.tr' fun a h => ?_
  rcases h with h | h | h
  · exact CF.in (by omega)
  · rcases t3 with y | y
    · exact CF.in (by omega)
    · exact Or.inr (by omega)
  · exact CF.in (by omega)
def fewestO (δ : DE) (x0 x1 : Int32) : OUT := 
  match rng x0 (δ.1 1) with
  | none => .inr (1, 0)
  | some n0 =>
    match rng x1 (1 + 1) with
    | none => .inr (2, 2)
    | some n1 =>
      .inl (.int (nI (if n1 = 0 then pc8 (fwK δ n0) else fwK δ n0)))
theorem fewest_c {g : GE} {w : Mem} {B E fed kept : Nat} {fp : Int32} {tp : Nat → Int32} {rf : Nat → Nat} {δ : DE} {τ : TE} {im : Nat → TE} {lev nG : Nat} (hg : GD g) (hE : B + 132 ≤ E) (hI : CI g w B E fed kept fp tp rf δ τ im lev nG) (x0 x1 : Int32) : CQ g w B E fed kept fp tp rf δ τ im lev nG (fX10_fewest g [.ref B, .int x0, .int x1] w) (fewestO δ x0 x1) := by
  have hg1 := hg.1
  obtain ⟨D, D', hCC, hCT, hCN, hCL, hCM⟩ := id hI
  obtain ⟨hDD, hB, hTp, hD, hD', hSc, hr, hd, hfd, hkp⟩ := id hCC
  obtain ⟨aM, aS, aG, n1', hG, hX⟩ := id hCT
  obtain ⟨b1, b2, b3, b4, b5, b6, b7, b8⟩ := id hd.1
  have hT := hG.tb
  have hn := nR_le hd
  obtain ⟨N, hN⟩ : ∃ N, g.1 = N + 12 := ⟨g.1 - 12, by omega⟩
  unfold fewestO
  have q0 := needThing_sp hg1 hB hr hD b2 x0
  cases h0 : rng x0 (δ.1 1) with
  | none =>
    rw [h0] at q0
    simp only [tst, Option.isSome, Bool.false_eq_true, if_false] at q0
    refine CQ.no hE hI ?_
    simp [fX10_fewest, kX10_fewest, ent, entp, jX10_fewest, bX10_fewest_0, bX10_fewest_1, i_aload, i_getf, i_ifne, i_iload, i_ireturn, i_istore, i_jmp, i_push, msk, lset1, lset2, clr, Value.category, Option.toList, List.cons_append, List.nil_append, List.length_cons, List.length_nil, hN, cxe_1 hB q0]
  | some n0 =>
    rw [h0] at q0
    simp only [tst, Option.isSome, if_true] at q0
    obtain ⟨l0, e0⟩ := rng_some (by omega) h0
    subst e0
    have q1 := needWhat_sp hg1 hB hr x1 (n := 1) (y := 1) rfl (by decide)
    cases h1 : rng x1 (1 + 1) with
    | none =>
      rw [h1] at q1
      simp only [tst, Option.isSome, Bool.false_eq_true, if_false] at q1
      refine CQ.no hE hI ?_
      simp [fX10_fewest, kX10_fewest, ent, entp, jX10_fewest, bX10_fewest_0, bX10_fewest_1, i_aload, i_getf, i_ifne, i_iload, i_ireturn, i_istore, i_jmp, i_push, msk, lset1, lset2, clr, Value.category, Option.toList, List.cons_append, List.nil_append, List.length_cons, List.length_nil, hN, cxk_1 hB q0, cxe_2 hB q1]
    | some n1 =>
      rw [h1] at q1
      simp only [tst, Option.isSome, if_true] at q1
      obtain ⟨l1, e1⟩ := rng_some (by omega) h1
      subst e1
      dsimp only
      obtain ⟨-, -, -, -, ⟨c5, x5, k5⟩, ⟨c6, x6⟩, x7⟩ := id hX
      obtain ⟨w', aG1, nG1, p1, p2, p3, p4, p5, p6, p7⟩ := fewestToKnow_sp hg1 hd hD hCC.dt hG l0 x6 x7 x5 k5
      refine ⟨w', lev, nG1, ?_, CI.gr hE hCC hCN hCL hCM hG hX p6 p3 p2 p4 p7, CF.fa hE hG p6, p5.rm⟩
      have lw := fwK_lt hd n0
      have q9 := bitCount_sp (g := g) (w := w') lw
      by_cases z : n1 = 0
      · subst z
        simp only [nI_0] at q1
        simp only [if_true, rso]
        generalize pc8 (fwK δ n0) = Y at q9 ⊢
        generalize fwK δ n0 = X at p1 q9
        simp [fX10_fewest, kX10_fewest, ent, entp, jX10_fewest, bX10_fewest_0, bX10_fewest_1, i_aload, i_getf, i_ifne, i_iload, i_ireturn, i_istore, i_jmp, i_push, msk, lset1, lset2, clr, Value.category, Option.toList, List.cons_append, List.nil_append, List.length_cons, List.length_nil, hN, cxk_1 hB q0, cxk_2 hB q1, gf_eq hB, cvk_1 hT p1, csk_1 q9, nI_0]
      · have z1 := nI_ne0 (n := n1) (by omega) (by omega)
        simp only [z, if_false, rso]
        generalize fwK δ n0 = X at p1 q9 ⊢
        simp [fX10_fewest, kX10_fewest, ent, entp, jX10_fewest, bX10_fewest_0, bX10_fewest_1, i_aload, i_getf, i_ifne, i_iload, i_ireturn, i_istore, i_jmp, i_push, msk, lset1, lset2, clr, Value.category, Option.toList, List.cons_append, List.nil_append, List.length_cons, List.length_nil, hN, cxk_1 hB q0, cxk_2 hB q1, gf_eq hB, cvk_1 hT p1, z1]
/-! sway -/
theorem ot_lt {n b : Nat} (h : n ≤ 8) : 2 ^ n - 1 - 2 ^ b < 256 := Nat.lt_of_le_of_lt (Nat.sub_le _ _) (by have := p2l h; omega)
abbrev otK (δ : DE) (b : Nat) : Nat := 2 ^ δ.1 3 - 1 - 2 ^ b
theorem ot_1 : ∀ n, n < 9 → ∀ b, b < n → nI (2 ^ n - 1) &&& ~~~((1 : Int32) <<< (nI b &&& 31)) = nI (2 ^ n - 1 - 2 ^ b) := by decide +kernel
theorem ot_2 : ∀ n, n < 9 → ∀ b, b < n → ∀ c, c < 8 → (2 ^ n - 1 - 2 ^ b).testBit c = (decide (c < n) && (c != b)) := by decide +kernel
def swB (δ : DE) (t b i : Nat) : Bool := exF (fun j => sameD δ (otK δ b) i j && (owR δ i t != owR δ j t)) (nR δ)
def swK (δ : DE) (t b : Nat) : Nat := cntF (swB δ t b) (nR δ)
theorem sw_0 {δ : DE} (hd : WF δ) {t b : Nat} (h : tlB δ (otK δ b) t = true) : swK δ t b = 0 := by
  cases hz : swK δ t b with
  | zero => rfl
  | succ n =>
    obtain ⟨i, h1, h2⟩ := cntF_pos.mp (show 0 < cntF (swB δ t b) (nR δ) by unfold swK at hz; omega)
    obtain ⟨j, h3, h4⟩ := exF_iff.mp h2
    rw [Bool.and_eq_true] at h4
    have e := (tl_iff hd).mp h i j h1 h3 ((gp_same hd).mpr h4.1)
    have h5 := h4.2
    rw [e] at h5
    simp at h5
theorem swayedBy_sp {g : GE} (hg : FU g) {w : Mem} {tb E D aM aS aG n1 lev : Nat} {δ : DE} {t b nG : Nat} {c : Nat → Int32} (hd : WF δ) (hD : DEED g w D δ) (hDa : D + 35 ≤ tb) (hG : GT g w tb E D δ (δ.1 6) aM aS aG n1 lev) (ht : t < 5) (hb : b < δ.1 3) (hc : AR 2 w aG nG c) (hnG : nG ≤ 20000) :
    ∃ w' aG' nG', fX7_swayedBy g [.ref tb, .int (nI t), .int (nI b)] w = some (.inl (some (.int (nI (swK δ t b)))), w') ∧ (∃ c, AR 2 w' aG' nG' c) ∧ GT g w' tb E D δ (δ.1 6) aM aS aG' n1 lev ∧ nG' ≤ 20000 ∧ GRW w w' aG aG' nG nG' (δ.1 6) ∧ FA (fun a => a = tb ∨ a = aG) w w' := by
  obtain ⟨b1, b2, b3, b4, b5, b6, b7, b8⟩ := id hd.1
  have lp := p2l b4
  have hT := hG.tb
  have hn := nR_le hd
  obtain ⟨fM, fS, -, -, -, ⟨t1, t2, t3, t4, t5, t6, t7, t8, t9, t10, t11⟩, -⟩ := id hG
  obtain ⟨N, hN⟩ : ∃ N, g.1 = N + 1 := ⟨g.1 - 1, by omega⟩
  obtain ⟨w2, aG2, nG2, p1, ⟨hnG2, c2, p2, p2'⟩, p3, p4, p5, p6⟩ := sortOwners_sp hg hd hD hDa hG (set := otK δ b) (ot_lt b4) ht hc hnG
  have hD2 := hD.fa p6 (by omega) (fun i hi => by omega)
  have hT2 := p3.tb
  have a1 := p2n (δ.1 3) (by omega)
  have a2 := ot_1 (δ.1 3) (by omega) b hb
  have a2' : nI (2 ^ δ.1 3 - 1) &&& ~~~((1 : Int32) <<< (nI b &&& 31)) = nI (otK δ b) := a2
  rw [mx_tl hd] at p1
  refine ⟨w2, aG2, nG2, ?_, ⟨c2, p2⟩, p3, p4, p5, p6⟩
  cases hm : tlB δ (otK δ b) t with
  | true =>
    rw [hm] at p1
    simp only [Bool.not_true, bI, Bool.false_eq_true, if_false] at p1
    rw [sw_0 hd hm]
    generalize nI (otK δ b) = A at p1 a2'
    generalize nI (2 ^ δ.1 3 - 1) = C at a1 a2'
    simp [fX7_swayedBy, kX7_swayedBy, ent, entp, jX7_swayedBy, bX7_swayedBy_0, bX7_swayedBy_1, bX7_swayedBy_2, i_aload, i_baload, i_getf, i_iand, i_icge, i_icne, i_ifne, i_iinc, i_iload, i_ireturn, i_ishl, i_istore, i_isub, i_ixor, i_jmp, i_push, msk, lset1, lset2, clr, Value.category, Option.toList, List.cons_append, List.nil_append, List.length_cons, List.length_nil, hN, gf_eq hT, gf_eq hD.1, a1, a2', cvk_2 hT p1, nI_0]
  | false =>
    rw [hm] at p1
    simp only [Bool.not_false, bI, if_true] at p1
    have lo : otK δ b < 256 := ot_lt b4
    have lgs := gsR_le hd (otK δ b)
    have L := lpF (fun f (s : Lv) => jX7_swayedBy g f 1 [] s w2) (fun k => [some (.ref tb), none, none, some (.int (nI (otK δ b))), some (.int (nI (cntF (swB δ t b) k))), some (.int (nI k))]) (some (.inl (some (.int (nI (swK δ t b)))), w2)) 2 1 (nR δ)
      (fun k hk f => by
        refine ⟨f, Nat.le_refl _, ?_⟩
        have o1 := groupOf_sp hg hd hD2 p3 lo hk
        have lg := gpR_lt hd (otK δ b) k
        have lq := gr_le hd (otK δ b) t (nR δ) (gpR δ (otK δ b) k)
        have rd : gi w2 2 aG2 (nI (gpR δ (otK δ b) k)) = some (nI (grK δ (otK δ b) t (nR δ) (gpR δ (otK δ b) k))) := by
          rw [p2.rd (by omega) (by omega), p2' _ lg]
        have m7 := gr_7 hd (set := otK δ b) (t := t) hk
        have mq : (nI (grK δ (otK δ b) t (nR δ) (gpR δ (otK δ b) k)) = 7) ↔ grK δ (otK δ b) t (nR δ) (gpR δ (otK δ b) k) = 7 := nI_eq (b := 7) (by omega) (by decide)
        have ek := nI_ge hk (by omega)
        cases hs : swB δ t b k with
        | true =>
          have e9 : cntF (swB δ t b) (k + 1) = cntF (swB δ t b) k + 1 := by
            show _ + (if _ then 1 else 0) = _
            rw [if_pos hs]
          rw [e9]
          have y := mq.mpr (m7.mpr hs)
          generalize nI (grK δ (otK δ b) t (nR δ) (gpR δ (otK δ b) k)) = V at rd y
          generalize nI (gpR δ (otK δ b) k) = Z at o1 rd
          generalize nI (otK δ b) = A at o1 ⊢
          generalize cntF (swB δ t b) k = X
          simp [jX7_swayedBy, bX7_swayedBy_0, bX7_swayedBy_1, bX7_swayedBy_2, i_aload, i_baload, i_getf, i_iand, i_icge, i_icne, i_ifne, i_iinc, i_iload, i_ireturn, i_ishl, i_istore, i_isub, i_ixor, i_jmp, i_push, msk, lset1, lset2, clr, Value.category, Option.toList, List.cons_append, List.nil_append, List.length_cons, List.length_nil, gf_eq hT2, ek, cvk_2 hT2 o1, rd, y, nI_1]
        | false =>
          have e9 : cntF (swB δ t b) (k + 1) = cntF (swB δ t b) k := by
            show _ + (if _ then 1 else 0) = _
            rw [if_neg (by rw [hs]; exact Bool.false_ne_true)]
            rfl
          rw [e9]
          have y := mt mq.mp (mt m7.mp (by have hs' : exF (fun j => sameD δ (otK δ b) k j && (owR δ k t != owR δ j t)) (nR δ) = false := hs; rw [hs']; exact Bool.false_ne_true))
          generalize nI (grK δ (otK δ b) t (nR δ) (gpR δ (otK δ b) k)) = V at rd y
          generalize nI (gpR δ (otK δ b) k) = Z at o1 rd
          generalize nI (otK δ b) = A at o1 ⊢
          generalize cntF (swB δ t b) k = X
          simp [jX7_swayedBy, bX7_swayedBy_0, bX7_swayedBy_1, bX7_swayedBy_2, i_aload, i_baload, i_getf, i_iand, i_icge, i_icne, i_ifne, i_iinc, i_iload, i_ireturn, i_ishl, i_istore, i_isub, i_ixor, i_jmp, i_push, msk, lset1, lset2, clr, Value.category, Option.toList, List.cons_append, List.nil_append, List.length_cons, List.length_nil, gf_eq hT2, ek, cvk_2 hT2 o1, rd, y, nI_1])
      (fun f => by
        have e9 : swK δ t b = cntF (swB δ t b) (nR δ) := rfl
        rw [e9]
        generalize nI (otK δ b) = A
        generalize cntF (swB δ t b) (nR δ) = X
        simp [jX7_swayedBy, bX7_swayedBy_0, bX7_swayedBy_1, bX7_swayedBy_2, i_aload, i_baload, i_getf, i_iand, i_icge, i_icne, i_ifne, i_iinc, i_iload, i_ireturn, i_ishl, i_istore, i_isub, i_ixor, i_jmp, i_push, msk, lset1, lset2, clr, Value.category, Option.toList, List.cons_append, List.nil_append, List.length_cons, List.length_nil, gf_eq hT2])
    rw [← L N (by omega)]
    generalize nI (otK δ b) = A at p1 a2' ⊢
    generalize nI (2 ^ δ.1 3 - 1) = C at a1 a2'
    simp [fX7_swayedBy, kX7_swayedBy, ent, entp, jX7_swayedBy, bX7_swayedBy_0, bX7_swayedBy_1, bX7_swayedBy_2, i_aload, i_baload, i_getf, i_iand, i_icge, i_icne, i_ifne, i_iinc, i_iload, i_ireturn, i_ishl, i_istore, i_isub, i_ixor, i_jmp, i_push, msk, lset1, lset2, clr, Value.category, Option.toList, List.cons_append, List.nil_append, List.length_cons, List.length_nil, hN, gf_eq hT, gf_eq hD.1, a1, a2', cvk_2 hT p1, nI_0, cntF]
def swayO (δ : DE) (x0 x1 : Int32) : OUT := 
  match rng x0 (δ.1 1) with
  | none => .inr (1, 0)
  | some n0 =>
    match rng x1 (δ.1 3) with
    | none => .inr (2, 1)
    | some n1 =>
      .inl (.int (nI (swK δ n0 n1)))
theorem sway_c {g : GE} {w : Mem} {B E fed kept : Nat} {fp : Int32} {tp : Nat → Int32} {rf : Nat → Nat} {δ : DE} {τ : TE} {im : Nat → TE} {lev nG : Nat} (hg : GD g) (hE : B + 132 ≤ E) (hI : CI g w B E fed kept fp tp rf δ τ im lev nG) (x0 x1 : Int32) : CQ g w B E fed kept fp tp rf δ τ im lev nG (fX10_sway g [.ref B, .int x0, .int x1] w) (swayO δ x0 x1) := by
  have hg1 := hg.1
  obtain ⟨D, D', hCC, hCT, hCN, hCL, hCM⟩ := id hI
  obtain ⟨hDD, hB, hTp, hD, hD', hSc, hr, hd, hfd, hkp⟩ := id hCC
  obtain ⟨aM, aS, aG, n1', hG, hX⟩ := id hCT
  obtain ⟨b1, b2, b3, b4, b5, b6, b7, b8⟩ := id hd.1
  have hT := hG.tb
  have hn := nR_le hd
  obtain ⟨N, hN⟩ : ∃ N, g.1 = N + 12 := ⟨g.1 - 12, by omega⟩
  unfold swayO
  have q0 := needThing_sp hg1 hB hr hD b2 x0
  cases h0 : rng x0 (δ.1 1) with
  | none =>
    rw [h0] at q0
    simp only [tst, Option.isSome, Bool.false_eq_true, if_false] at q0
    refine CQ.no hE hI ?_
    simp [fX10_sway, kX10_sway, ent, entp, bX10_sway_0, i_aload, i_getf, i_iload, i_ireturn, msk, lset1, lset2, clr, Value.category, Option.toList, List.cons_append, List.nil_append, List.length_cons, List.length_nil, hN, cxe_1 hB q0]
  | some n0 =>
    rw [h0] at q0
    simp only [tst, Option.isSome, if_true] at q0
    obtain ⟨l0, e0⟩ := rng_some (by omega) h0
    subst e0
    have q1 := needBlot_sp hg1 hB hr hD b4 x1
    cases h1 : rng x1 (δ.1 3) with
    | none =>
      rw [h1] at q1
      simp only [tst, Option.isSome, Bool.false_eq_true, if_false] at q1
      refine CQ.no hE hI ?_
      simp [fX10_sway, kX10_sway, ent, entp, bX10_sway_0, i_aload, i_getf, i_iload, i_ireturn, msk, lset1, lset2, clr, Value.category, Option.toList, List.cons_append, List.nil_append, List.length_cons, List.length_nil, hN, cxk_1 hB q0, cxe_1 hB q1]
    | some n1 =>
      rw [h1] at q1
      simp only [tst, Option.isSome, if_true] at q1
      obtain ⟨l1, e1⟩ := rng_some (by omega) h1
      subst e1
      dsimp only
      obtain ⟨-, -, -, -, ⟨c5, x5, k5⟩, ⟨c6, x6⟩, x7⟩ := id hX
      obtain ⟨w', aG1, nG1, p1, p2, p3, p4, p5, p6⟩ := swayedBy_sp hg1 hd hD hCC.dt hG (t := n0) (by omega) l1 x6 x7
      have p6' : FA (fun a => a = B + 73 ∨ a = aG ∨ a = B + 73 + 12) w w' := p6.tr' fun a h => by omega
      have x5' : IA w' (B + 73 + 12) 5 c5 := by
        obtain ⟨fM, fS, -, -, -, ⟨t1, t2, t3, t4, t5, t6, t7, t8, t9, t10, t11⟩, -⟩ := id hG
        exact AR.fa (a := B + 73 + 12) x5 p6 (by omega) (by omega)
      refine ⟨w', lev, nG1, ?_, CI.gr hE hCC hCN hCL hCM hG hX p6' p3 p2 p4 ⟨c5, x5', k5⟩, CF.fa hE hG p6', p5.rm⟩
      simp only [rso]
      generalize swK δ n0 n1 = X at p1 ⊢
      simp [fX10_sway, kX10_sway, ent, entp, bX10_sway_0, i_aload, i_getf, i_iload, i_ireturn, msk, lset1, lset2, clr, Value.category, Option.toList, List.cons_append, List.nil_append, List.length_cons, List.length_nil, hN, cxk_1 hB q0, cxk_1 hB q1, gf_eq hB, cvk_2 hT p1]
