/-! ===== fewest, sway: the reference ===== -/
def pcN (m : Nat) : Nat → Nat
  | 0 => 0
  | k + 1 => pcN m k + m / 2 ^ k % 2
theorem pcN_8 (m : Nat) : pcN m 8 = pc8 m := by
  simp [pcN, pc8]
theorem on_b : ∀ m, m < 256 → ∀ k, k < 8 → (nI m >>> (nI k &&& 31)) &&& 1 = nI (m / 2 ^ k % 2) := by decide +kernel
theorem ones_sp {g : GE} (hg : FU g) {w : Mem} {m : Nat} (hm : m < 256) : fX11_ones g [.int (nI m)] w = some (.inl (some (.int (nI (pc8 m)))), w) := by
  obtain ⟨N, hN⟩ : ∃ N, g.1 = N + 1 := ⟨g.1 - 1, by omega⟩
  have L := lpF (fun f (s : Lv) => jX11_ones g f 1 [] s w) (fun k => [some (.int (nI m)), some (.int (nI (pcN m k))), some (.int (nI k))]) (some (.inl (some (.int (nI (pc8 m)))), w)) 1 1 8
    (fun k hk f => by
      refine ⟨f, Nat.le_refl _, ?_⟩
      have ek : ¬ (8 : Int32) ≤ nI k := nI_ge hk (by decide)
      have b := on_b m hm k hk
      have e9 : pcN m (k + 1) = pcN m k + m / 2 ^ k % 2 := rfl
      rw [e9]
      have a := nI_add (pcN m k) (m / 2 ^ k % 2)
      generalize m / 2 ^ k % 2 = Y at b a ⊢
      generalize pcN m k = X at a ⊢
      simp [jX11_ones, bX11_ones_0, bX11_ones_1, i_iadd, i_iand, i_icge, i_iinc, i_iload, i_ireturn, i_ishr, i_istore, i_jmp, i_push, msk, lset1, lset2, clr, Value.category, Option.toList, List.cons_append, List.nil_append, List.length_cons, List.length_nil, ek, b, a, nI_1])
    (fun f => by
      rw [pcN_8]
      simp [jX11_ones, bX11_ones_0, bX11_ones_1, i_iadd, i_iand, i_icge, i_iinc, i_iload, i_ireturn, i_ishr, i_istore, i_jmp, i_push, msk, lset1, lset2, clr, Value.category, Option.toList, List.cons_append, List.nil_append, List.length_cons, List.length_nil, (show (8 : Int32) ≤ nI 8 from by decide)])
  rw [← L N (by omega)]
  simp [fX11_ones, kX11_ones, ent, entp, jX11_ones, bX11_ones_0, bX11_ones_1, i_iadd, i_iand, i_icge, i_iinc, i_iload, i_ireturn, i_ishr, i_istore, i_jmp, i_push, msk, lset1, lset2, clr, Value.category, Option.toList, List.cons_append, List.nil_append, List.length_cons, List.length_nil, hN, nI_0, pcN]
theorem o1m : ∀ v, v < 8 → (1 : Int32) + (nI v - 1) = nI v := by decide +kernel
theorem tells_sp {g : GE} (hg : FU g) {w : Mem} {M set t : Nat} {x c : Nat → Int32} {δ : DE} (hd : WF δ) (hO : MO w M x) (hx : x 27 = nI (nR δ)) (hD : RD w M δ) (hR : RT w M δ (δ.1 6)) (hK : IA w (M + 176) 20000 c) (hs : set < 256) (ht : t < 5) :
    ∃ w' c', fX11_tells g [.ref M, .int (nI set), .int (nI t)] w = some (.inl (some (.int (bI (tlB δ set t)))), w') ∧ IA w' (M + 176) 20000 c' ∧ Fr (fun a => a = M + 176) w w' := by
  have hn := nR_le hd
  obtain ⟨b1, b2, b3, b4, b5, b6, b7, b8⟩ := id hd.1
  have lgs := gsR_le hd set
  have kp : ∀ u, Fr (fun a => a = M + 176) w u → MO u M x ∧ RD u M δ ∧ RT u M δ (δ.1 6) := fun u hu => ⟨hu.at hO (by omega), hD.fr hu (fun i h1 h2 => by omega), hR.fr hu (fun i h1 h2 => by omega)⟩
  -- the group of one reading
  have L5 : ∀ (u : Mem) (i : Nat), i < nR δ → Fr (fun a => a = M + 176) w u → ∀ f, ∃ f', f ≤ f' ∧ jX11_tells g (f + 1 + 2 * δ.1 3) 5 [] [some (.ref M), some (.int (nI set)), some (.int (nI t)), none, some (.int (nI i)), some (.int 0), some (.int 0)] u = jX11_tells g (f' + 1) 5 [] [some (.ref M), some (.int (nI set)), some (.int (nI t)), none, some (.int (nI i)), some (.int (nI (gpR δ set i))), some (.int (nI (δ.1 3)))] u := fun u i hi hu f => by
    obtain ⟨o1, d1, r1⟩ := kp u hu
    obtain ⟨h0, -, -, -, -, -, ⟨c6, h6, k6⟩, -⟩ := id d1
    have rw1 := r1.row hd hi
    have L := lpC (fun f (s : Lv) => jX11_tells g f 5 [] s u) (fun k s => s = [some (.ref M), some (.int (nI set)), some (.int (nI t)), none, some (.int (nI i)), some (.int (nI (gpK δ set (dgR δ i) k))), some (.int (nI k))]) 2 (δ.1 3)
      (fun k s hk hI f => by
        subst hI
        refine ⟨f, _, Nat.le_refl _, rfl, ?_⟩
        have m := sh_b set hs k (by omega)
        have sz : gi u 0 (M + 115 + 1 + k) 2 = some (nI (δ.2 10 k)) := by rw [(h6.2 k (by omega)).rc 2 2 rfl (by decide) (by decide), (k6 k hk).2.2.1]
        have p1 : fX11_digit g [.ref M, .int (nI (rr δ i)), .int (nI k)] u = some (.inl (some (.int (nI (dgR δ i k)))), u) := rdigit_sp hg hd o1 d1 (row := rr δ i) (b := k) (by have := (rr_lt hi).1; omega) hk
        have ek := nI_ge hk (by omega)
        have c3 := h0.rc 3 3 rfl (by decide) (by decide)
        by_cases z : set.testBit k = true
        · have a1 : gpK δ set (dgR δ i) (k + 1) = gpK δ set (dgR δ i) k * δ.2 10 k + dgR δ i k := by
            show (if _ then _ else _) = _
            rw [if_pos z]
          rw [a1]
          have m1 := m.mpr z
          have pm := pk_mul (gpK δ set (dgR δ i) k) (δ.2 10 k)
          have pa := nI_add (gpK δ set (dgR δ i) k * δ.2 10 k) (dgR δ i k)
          generalize gpK δ set (dgR δ i) k = X at pm pa ⊢
          simp [jX11_tells, bX11_tells_0, bX11_tells_1, bX11_tells_2, bX11_tells_3, bX11_tells_4, bX11_tells_5, bX11_tells_6, bX11_tells_7, i_aaload, i_aload, i_getf, i_iadd, i_iaload, i_iand, i_iastore, i_iceq, i_icge, i_icne, i_iinc, i_iload, i_imul, i_ishr, i_istore, i_jmp, i_push, i_zreturn, msk, lset1, lset2, clr, Value.category, Option.toList, List.cons_append, List.nil_append, List.length_cons, List.length_nil, gf_eq o1, mg_11, mg_24, mg_28, c3, ek, m1, h6.1.rd (j := k) (by omega) (by decide), va_rf, sz, pm, rw1, cvk_2 o1 p1, pa, nI_1]
        · have a1 : gpK δ set (dgR δ i) (k + 1) = gpK δ set (dgR δ i) k := by
            show (if _ then _ else _) = _
            rw [if_neg z]
          rw [a1]
          have m1 := mt m.mp z
          generalize gpK δ set (dgR δ i) k = X
          simp [jX11_tells, bX11_tells_0, bX11_tells_1, bX11_tells_2, bX11_tells_3, bX11_tells_4, bX11_tells_5, bX11_tells_6, bX11_tells_7, i_aaload, i_aload, i_getf, i_iadd, i_iaload, i_iand, i_iastore, i_iceq, i_icge, i_icne, i_iinc, i_iload, i_imul, i_ishr, i_istore, i_jmp, i_push, i_zreturn, msk, lset1, lset2, clr, Value.category, Option.toList, List.cons_append, List.nil_append, List.length_cons, List.length_nil, gf_eq o1, mg_11, c3, ek, m1, nI_1])
    obtain ⟨f1, s1, g1, g2, g3⟩ := L (δ.1 3) 0 [some (.ref M), some (.int (nI set)), some (.int (nI t)), none, some (.int (nI i)), some (.int (nI 0)), some (.int (nI 0))] (by omega) rfl (f + 1)
    obtain ⟨f2, rfl⟩ : ∃ z, f1 = z + 1 := ⟨f1 - 1, by omega⟩
    refine ⟨f2, by omega, ?_⟩
    simp only [nI_0] at g3
    rw [g3, g2]
  -- the readings
  have L4 : ∀ u, Fr (fun a => a = M + 176) w u → (∃ c, IA u (M + 176) 20000 c ∧ ∀ q, q < gsR δ set → c q = -1) → ∀ F, 20 * nR δ + 1 ≤ F → ∃ w' c', jX11_tells g F 4 [] [some (.ref M), some (.int (nI set)), some (.int (nI t)), none, some (.int 0), none, none] u = some (.inl (some (.int (bI (tlB δ set t)))), w') ∧ IA w' (M + 176) 20000 c' ∧ Fr (fun a => a = M + 176) w w' := fun u hu hcu F hF => by
    obtain ⟨c0, hc0, hk0⟩ := hcu
    have L := lpR (fun f (s : Lv × Mem) => jX11_tells g f 4 [] s.1 s.2) (fun k s => s.1 = [some (.ref M), some (.int (nI set)), some (.int (nI t)), none, some (.int (nI k)), none, none] ∧ (∃ c, IA s.2 (M + 176) 20000 c ∧ ∀ q, q < gsR δ set → (c q = -1 ∧ ∀ i, i < k → gpR δ set i ≠ q) ∨ (∃ i, i < k ∧ gpR δ set i = q ∧ c q = nI (owR δ i t))) ∧ (∀ i j, i < k → j < k → gpR δ set i = gpR δ set j → owR δ i t = owR δ j t) ∧ Fr (fun a => a = M + 176) w s.2)
      (fun z => ∃ w' c', z = some (.inl (some (.int (bI (tlB δ set t)))), w') ∧ IA w' (M + 176) 20000 c' ∧ Fr (fun a => a = M + 176) w w') 20 1 (nR δ)
      (fun k s hk hI f => by
        obtain ⟨e1, ⟨c1, e2, e4⟩, e5, e3⟩ := hI
        obtain ⟨o1, d1, r1⟩ := kp _ e3
        obtain ⟨h0, -⟩ := id d1
        have c3 := h0.rc 3 3 rfl (by decide) (by decide)
        have ek := nI_ge hk (by omega)
        obtain ⟨f5, g1, g2⟩ := L5 s.2 k hk e3 (f + 18 - 2 * δ.1 3)
        rw [show f + 18 - 2 * δ.1 3 + 1 + 2 * δ.1 3 = f + 19 from by omega] at g2
        have a0 : jX11_tells g (f + 20) 4 [] s.1 s.2 = jX11_tells g (f + 19) 5 [] [some (.ref M), some (.int (nI set)), some (.int (nI t)), none, some (.int (nI k)), some (.int 0), some (.int 0)] s.2 := by
          rw [show f + 20 = (f + 19) + 1 from rfl]
          generalize f + 19 = F
          simp [jX11_tells, bX11_tells_0, bX11_tells_1, bX11_tells_2, bX11_tells_3, bX11_tells_4, bX11_tells_5, bX11_tells_6, bX11_tells_7, i_aaload, i_aload, i_getf, i_iadd, i_iaload, i_iand, i_iastore, i_iceq, i_icge, i_icne, i_iinc, i_iload, i_imul, i_ishr, i_istore, i_jmp, i_push, i_zreturn, msk, lset1, lset2, clr, Value.category, Option.toList, List.cons_append, List.nil_append, List.length_cons, List.length_nil, e1, gf_eq o1, mg_27, hx, ek]
        have o2 := rgoesBy_sp (g := g) hd o1 r1 hk ht
        have lo := owR_le hd k t
        have om := o1m (owR δ k t) (by omega)
        have lg := gpR_lt hd set k
        obtain ⟨f6, rfl⟩ : ∃ q, f5 = q + 1 := ⟨f5 - 1, by omega⟩
        have wr := e2.wr (j := gpR δ set k) (by omega) (by decide) (nI (owR δ k t))
        have rd := e2.rd (j := gpR δ set k) (by omega) (by decide)
        have good : (∀ i, i < k → gpR δ set i = gpR δ set k → owR δ i t = owR δ k t) → (c1 (gpR δ set k) = -1 ∨ c1 (gpR δ set k) = nI (owR δ k t)) → jX11_tells g (f6 + 1 + 1) 5 [] [some (.ref M), some (.int (nI set)), some (.int (nI t)), none, some (.int (nI k)), some (.int (nI (gpR δ set k))), some (.int (nI (δ.1 3)))] s.2 = jX11_tells g f6 4 [] [some (.ref M), some (.int (nI set)), some (.int (nI t)), none, some (.int (nI (k + 1))), none, none] (wi s.2 0 (M + 176) (gpR δ set k) (nI (owR δ k t))) := fun _ hv => by
          have nn := nI_nn (y := owR δ k t) (by omega)
          generalize nI (gpR δ set k) = Z at rd wr ⊢
          rcases hv with hv | hv
          · rw [hv] at rd
            generalize nI (owR δ k t) - 1 = Y at o2 om
            simp [jX11_tells, bX11_tells_0, bX11_tells_1, bX11_tells_2, bX11_tells_3, bX11_tells_4, bX11_tells_5, bX11_tells_6, bX11_tells_7, i_aaload, i_aload, i_getf, i_iadd, i_iaload, i_iand, i_iastore, i_iceq, i_icge, i_icne, i_iinc, i_iload, i_imul, i_ishr, i_istore, i_jmp, i_push, i_zreturn, msk, lset1, lset2, clr, Value.category, Option.toList, List.cons_append, List.nil_append, List.length_cons, List.length_nil, gf_eq o1, mg_11, mg_44, c3, cvk_2 o1 o2, om, rd, wr, nI_1]
          · rw [hv] at rd
            generalize nI (owR δ k t) - 1 = Y at o2 om
            simp [jX11_tells, bX11_tells_0, bX11_tells_1, bX11_tells_2, bX11_tells_3, bX11_tells_4, bX11_tells_5, bX11_tells_6, bX11_tells_7, i_aaload, i_aload, i_getf, i_iadd, i_iaload, i_iand, i_iastore, i_iceq, i_icge, i_icne, i_iinc, i_iload, i_imul, i_ishr, i_istore, i_jmp, i_push, i_zreturn, msk, lset1, lset2, clr, Value.category, Option.toList, List.cons_append, List.nil_append, List.length_cons, List.length_nil, gf_eq o1, mg_11, mg_44, c3, cvk_2 o1 o2, om, rd, nn, wr, nI_1]
        have next : (∀ i, i < k → gpR δ set i = gpR δ set k → owR δ i t = owR δ k t) → (c1 (gpR δ set k) = -1 ∨ c1 (gpR δ set k) = nI (owR δ k t)) → ∃ (f' : Nat) (s' : Lv × Mem), f ≤ f' ∧ (s'.1 = [some (.ref M), some (.int (nI set)), some (.int (nI t)), none, some (.int (nI (k + 1))), none, none] ∧ (∃ c, IA s'.2 (M + 176) 20000 c ∧ ∀ q, q < gsR δ set → (c q = -1 ∧ ∀ i, i < k + 1 → gpR δ set i ≠ q) ∨ (∃ i, i < k + 1 ∧ gpR δ set i = q ∧ c q = nI (owR δ i t))) ∧ (∀ i j, i < k + 1 → j < k + 1 → gpR δ set i = gpR δ set j → owR δ i t = owR δ j t) ∧ Fr (fun a => a = M + 176) w s'.2) ∧ jX11_tells g (f + 20) 4 [] s.1 s.2 = jX11_tells g f' 4 [] s'.1 s'.2 := fun hall hv => by
          refine ⟨f6, ([some (.ref M), some (.int (nI set)), some (.int (nI t)), none, some (.int (nI (k + 1))), none, none], wi s.2 0 (M + 176) (gpR δ set k) (nI (owR δ k t))), by omega, ⟨rfl, ⟨_, e2.up _ _, fun q hq => ?_⟩, fun i j hi hj e => ?_, e3.tr (Fr.wi _ _ _ _ rfl)⟩, ?_⟩
          · by_cases y : q = gpR δ set k
            · subst y
              right
              exact ⟨k, by omega, rfl, va_up_self _ _ _⟩
            · rw [va_up_ne _ _ y]
              rcases e4 q hq with ⟨h1, h2⟩ | ⟨i, h1, h2, h3⟩
              · left
                refine ⟨h1, fun i hi => ?_⟩
                by_cases y2 : i = k
                · subst y2; exact fun z => y z.symm
                · exact h2 i (by omega)
              · right
                exact ⟨i, by omega, h2, h3⟩
          · by_cases y1 : i = k
            · by_cases y2 : j = k
              · rw [y1, y2]
              · rw [y1] at e ⊢
                exact (hall j (by omega) e.symm).symm
            · by_cases y2 : j = k
              · rw [y2] at e ⊢
                exact hall i (by omega) e
              · exact e5 i j (by omega) (by omega) e
          · rw [a0, g2, good hall hv]
        rcases e4 (gpR δ set k) lg with ⟨h1, h2⟩ | ⟨i, h1, h2, h3⟩
        · exact Or.inr (next (fun i hi e => absurd e (h2 i hi)) (Or.inl h1))
        · have li := owR_le hd i t
          by_cases y : owR δ i t = owR δ k t
          · refine Or.inr (next (fun j hj e => ?_) (Or.inr (by rw [h3, y])))
            rw [← y]
            exact e5 j i hj h1 (e.trans h2.symm)
          · left
            have e9 : tlB δ set t = false := by
              cases hx : tlB δ set t with
              | false => rfl
              | true => exact absurd ((tl_iff hd).mp hx i k (by omega) hk h2) y
            refine ⟨s.2, c1, ?_, e2, e3⟩
            rw [e9]
            show jX11_tells g (f + 20) 4 [] s.1 s.2 = _
            rw [a0, g2]
            rw [h3] at rd
            have n1 := nI_nn (y := owR δ i t) (by omega)
            have n2 := mt (nI_eq (a := owR δ i t) (b := owR δ k t) (by omega) (by omega)).mp y
            generalize nI (gpR δ set k) = Z at rd ⊢
            generalize nI (owR δ k t) - 1 = Y at o2 om
            simp [jX11_tells, bX11_tells_0, bX11_tells_1, bX11_tells_2, bX11_tells_3, bX11_tells_4, bX11_tells_5, bX11_tells_6, bX11_tells_7, i_aaload, i_aload, i_getf, i_iadd, i_iaload, i_iand, i_iastore, i_iceq, i_icge, i_icne, i_iinc, i_iload, i_imul, i_ishr, i_istore, i_jmp, i_push, i_zreturn, msk, lset1, lset2, clr, Value.category, Option.toList, List.cons_append, List.nil_append, List.length_cons, List.length_nil, gf_eq o1, mg_11, mg_44, c3, cvk_2 o1 o2, om, rd, n1, n2, bI])
      (fun s hI f => by
        obtain ⟨e1, ⟨c1, e2, e4⟩, e5, e3⟩ := hI
        obtain ⟨o1, d1, r1⟩ := kp _ e3
        have e9 : tlB δ set t = true := (tl_iff hd).mpr e5
        refine ⟨s.2, c1, ?_, e2, e3⟩
        rw [e9]
        simp [jX11_tells, bX11_tells_0, bX11_tells_1, bX11_tells_2, bX11_tells_3, bX11_tells_4, bX11_tells_5, bX11_tells_6, bX11_tells_7, i_aaload, i_aload, i_getf, i_iadd, i_iaload, i_iand, i_iastore, i_iceq, i_icge, i_icne, i_iinc, i_iload, i_imul, i_ishr, i_istore, i_jmp, i_push, i_zreturn, msk, lset1, lset2, clr, Value.category, Option.toList, List.cons_append, List.nil_append, List.length_cons, List.length_nil, e1, gf_eq o1, mg_27, hx, bI])
    have L1 := L (nR δ) 0 ([some (.ref M), some (.int (nI set)), some (.int (nI t)), none, some (.int (nI 0)), none, none], u) (by omega) ⟨rfl, ⟨c0, hc0, fun q hq => Or.inl ⟨hk0 q hq, fun i hi => by omega⟩⟩, fun i j hi => by omega, hu⟩ F hF
    simp only [nI_0] at L1
    exact L1
  -- nothing known
  have L3 : ∀ F, 21 * 20000 + 2 ≤ F → ∃ w' c', jX11_tells g F 3 [] [some (.ref M), some (.int (nI set)), some (.int (nI t)), some (.int (nI (gsR δ set))), some (.int 0), none, none] w = some (.inl (some (.int (bI (tlB δ set t)))), w') ∧ IA w' (M + 176) 20000 c' ∧ Fr (fun a => a = M + 176) w w' := fun F hF => by
    have L := lpR (fun f (s : Lv × Mem) => jX11_tells g (f + 400001) 3 [] s.1 s.2) (fun k s => s.1 = [some (.ref M), some (.int (nI set)), some (.int (nI t)), some (.int (nI (gsR δ set))), some (.int (nI k)), none, none] ∧ (∃ c, IA s.2 (M + 176) 20000 c ∧ ∀ q, q < k → c q = -1) ∧ Fr (fun a => a = M + 176) w s.2)
      (fun z => ∃ w' c', z = some (.inl (some (.int (bI (tlB δ set t)))), w') ∧ IA w' (M + 176) 20000 c' ∧ Fr (fun a => a = M + 176) w w') 1 1 (gsR δ set)
      (fun k s hk hI f => by
        obtain ⟨e1, ⟨c1, e2, e4⟩, e3⟩ := hI
        obtain ⟨o1, d1, r1⟩ := kp _ e3
        have ek := nI_ge hk (by omega)
        refine Or.inr ⟨f, ([some (.ref M), some (.int (nI set)), some (.int (nI t)), some (.int (nI (gsR δ set))), some (.int (nI (k + 1))), none, none], wi s.2 0 (M + 176) k (-1)), Nat.le_refl _, ⟨rfl, ⟨_, e2.up k (-1), fun q hq => ?_⟩, e3.tr (Fr.wi _ _ _ _ rfl)⟩, ?_⟩
        · by_cases y : q = k
          · subst y; exact va_up_self _ _ _
          · rw [va_up_ne _ _ y]; exact e4 q (by omega)
        · show jX11_tells g (f + 1 + 400001) 3 [] s.1 s.2 = _
          rw [show f + 1 + 400001 = (f + 400001) + 1 from by omega]
          generalize f + 400001 = F
          generalize nI (gsR δ set) = X at e1 ek ⊢
          simp [jX11_tells, bX11_tells_0, bX11_tells_1, bX11_tells_2, bX11_tells_3, bX11_tells_4, bX11_tells_5, bX11_tells_6, bX11_tells_7, i_aaload, i_aload, i_getf, i_iadd, i_iaload, i_iand, i_iastore, i_iceq, i_icge, i_icne, i_iinc, i_iload, i_imul, i_ishr, i_istore, i_jmp, i_push, i_zreturn, msk, lset1, lset2, clr, Value.category, Option.toList, List.cons_append, List.nil_append, List.length_cons, List.length_nil, e1, ek, gf_eq o1, mg_44, e2.wr (j := k) (by omega) (by decide), nI_1])
      (fun s hI f => by
        obtain ⟨e1, ⟨c1, e2, e4⟩, e3⟩ := hI
        obtain ⟨w', c', q1, q2, q3⟩ := L4 s.2 e3 ⟨c1, e2, e4⟩ (f + 400001) (by omega)
        refine ⟨w', c', ?_, q2, q3⟩
        rw [← q1]
        show jX11_tells g (f + 1 + 400001) 3 [] s.1 s.2 = _
        rw [show f + 1 + 400001 = (f + 400001) + 1 from by omega]
        generalize f + 400001 = F
        generalize nI (gsR δ set) = X at e1
        simp [jX11_tells, bX11_tells_0, bX11_tells_1, bX11_tells_2, bX11_tells_3, bX11_tells_4, bX11_tells_5, bX11_tells_6, bX11_tells_7, i_aaload, i_aload, i_getf, i_iadd, i_iaload, i_iand, i_iastore, i_iceq, i_icge, i_icne, i_iinc, i_iload, i_imul, i_ishr, i_istore, i_jmp, i_push, i_zreturn, msk, lset1, lset2, clr, Value.category, Option.toList, List.cons_append, List.nil_append, List.length_cons, List.length_nil, e1])
    obtain ⟨N3, rfl⟩ : ∃ N3, F = N3 + 400001 := ⟨F - 400001, by omega⟩
    have L1 := L (gsR δ set) 0 ([some (.ref M), some (.int (nI set)), some (.int (nI t)), some (.int (nI (gsR δ set))), some (.int (nI 0)), none, none], w) (by omega) ⟨rfl, ⟨c, hK, fun q hq => by omega⟩, Fr.rf _ _⟩ N3 (by omega)
    simp only [nI_0] at L1
    exact L1
  obtain ⟨h0, -, -, -, -, -, ⟨c6, h6, k6⟩, -⟩ := id hD
  have c3 := h0.rc 3 3 rfl (by decide) (by decide)
  have L1 := lpC (fun f (s : Lv) => jX11_tells g f 1 [] s w) (fun k s => s = [some (.ref M), some (.int (nI set)), some (.int (nI t)), some (.int (nI (gsK δ set k))), some (.int (nI k)), none, none]) 2 (δ.1 3)
    (fun k s hk hI f => by
      subst hI
      refine ⟨f, _, Nat.le_refl _, rfl, ?_⟩
      have m := sh_b set hs k (by omega)
      have sz : gi w 0 (M + 115 + 1 + k) 2 = some (nI (δ.2 10 k)) := by rw [(h6.2 k (by omega)).rc 2 2 rfl (by decide) (by decide), (k6 k hk).2.2.1]
      have ek := nI_ge hk (by omega)
      by_cases z : set.testBit k = true
      · have a1 : gsK δ set (k + 1) = gsK δ set k * δ.2 10 k := by
          show (if _ then _ else _) = _
          rw [if_pos z]
        rw [a1]
        have m1 := m.mpr z
        have pm := pk_mul (gsK δ set k) (δ.2 10 k)
        generalize gsK δ set k = X at pm ⊢
        simp [jX11_tells, bX11_tells_0, bX11_tells_1, bX11_tells_2, bX11_tells_3, bX11_tells_4, bX11_tells_5, bX11_tells_6, bX11_tells_7, i_aaload, i_aload, i_getf, i_iadd, i_iaload, i_iand, i_iastore, i_iceq, i_icge, i_icne, i_iinc, i_iload, i_imul, i_ishr, i_istore, i_jmp, i_push, i_zreturn, msk, lset1, lset2, clr, Value.category, Option.toList, List.cons_append, List.nil_append, List.length_cons, List.length_nil, gf_eq hO, mg_11, mg_24, c3, ek, m1, h6.1.rd (j := k) (by omega) (by decide), va_rf, sz, pm, nI_1]
      · have a1 : gsK δ set (k + 1) = gsK δ set k := by
          show (if _ then _ else _) = _
          rw [if_neg z]
        rw [a1]
        have m1 := mt m.mp z
        generalize gsK δ set k = X
        have mo : nI X * 1 = nI X := by simp
        simp [jX11_tells, bX11_tells_0, bX11_tells_1, bX11_tells_2, bX11_tells_3, bX11_tells_4, bX11_tells_5, bX11_tells_6, bX11_tells_7, i_aaload, i_aload, i_getf, i_iadd, i_iaload, i_iand, i_iastore, i_iceq, i_icge, i_icne, i_iinc, i_iload, i_imul, i_ishr, i_istore, i_jmp, i_push, i_zreturn, msk, lset1, lset2, clr, Value.category, Option.toList, List.cons_append, List.nil_append, List.length_cons, List.length_nil, gf_eq hO, mg_11, c3, ek, m1, mo, nI_1])
  obtain ⟨N, hN⟩ : ∃ N, g.1 = (N + 1 + 2 * δ.1 3) + 1 := ⟨g.1 - (2 * δ.1 3 + 2), by omega⟩
  obtain ⟨f1, s1, g1, g2, g3⟩ := L1 (δ.1 3) 0 [some (.ref M), some (.int (nI set)), some (.int (nI t)), some (.int (nI 1)), some (.int (nI 0)), none, none] (by omega) rfl (N + 1)
  obtain ⟨f2, rfl⟩ : ∃ z, f1 = z + 1 := ⟨f1 - 1, by omega⟩
  obtain ⟨w', c', q1, q2, q3⟩ := L3 f2 (by omega)
  refine ⟨w', c', ?_, q2, q3⟩
  rw [← q1]
  have e0 : fX11_tells g [.ref M, .int (nI set), .int (nI t)] w = jX11_tells g (N + 1 + 2 * δ.1 3) 1 [] [some (.ref M), some (.int (nI set)), some (.int (nI t)), some (.int (nI 1)), some (.int (nI 0)), none, none] w := by
    generalize N + 1 + 2 * δ.1 3 = F at hN ⊢
    simp [fX11_tells, kX11_tells, ent, entp, jX11_tells, bX11_tells_0, bX11_tells_1, bX11_tells_2, bX11_tells_3, bX11_tells_4, bX11_tells_5, bX11_tells_6, bX11_tells_7, i_aaload, i_aload, i_getf, i_iadd, i_iaload, i_iand, i_iastore, i_iceq, i_icge, i_icne, i_iinc, i_iload, i_imul, i_ishr, i_istore, i_jmp, i_push, i_zreturn, msk, lset1, lset2, clr, Value.category, Option.toList, List.cons_append, List.nil_append, List.length_cons, List.length_nil, hN, nI_0, (show nI 1 = 1 from rfl)]
  have e1 : gsK δ set (δ.1 3) = gsR δ set := rfl
  rw [e0, g3, g2, e1]
  generalize nI (gsR δ set) = X
  simp [jX11_tells, bX11_tells_0, bX11_tells_1, bX11_tells_2, bX11_tells_3, bX11_tells_4, bX11_tells_5, bX11_tells_6, bX11_tells_7, i_aaload, i_aload, i_getf, i_iadd, i_iaload, i_iand, i_iastore, i_iceq, i_icge, i_icne, i_iinc, i_iload, i_imul, i_ishr, i_istore, i_jmp, i_push, i_zreturn, msk, lset1, lset2, clr, Value.category, Option.toList, List.cons_append, List.nil_append, List.length_cons, List.length_nil, gf_eq hO, mg_11, c3]
theorem fw_or {δ : DE} (t : Nat) : ∀ k, fwF δ t k = 2 ^ δ.1 3 - 1 ∨ fwF δ t k < k
  | 0 => Or.inl rfl
  | k + 1 => by
    unfold fwF
    split
    · right; omega
    · rcases fw_or (δ := δ) t k with h | h
      · exact Or.inl h
      · right; omega
theorem pc_all : ∀ n, n < 9 → ∀ s, s < 2 ^ n - 1 → pc8 s < pc8 (2 ^ n - 1) := by decide +kernel
theorem pc_max : ∀ n, n < 9 → ∀ s, s < 2 ^ n → pc8 s ≤ pc8 (2 ^ n - 1) := by decide +kernel
theorem p2s : ∀ n, n < 9 → (1 : Int32) <<< (nI n &&& 31) = nI (2 ^ n) := by decide +kernel
theorem fewest_r {g : GE} {w : Mem} {M fed kept : Nat} {fp : Int32} {tp : Nat → Int32} {rf : Nat → Nat} {δ : DE} {τ : TE} {im : Nat → TE} {x : Nat → Int32} (hg : FU g) (hd : WF δ) (hI : RI w M fed kept fp tp rf δ τ im x) (x0 x1 : Int32) : RQo w M fed kept fp tp rf δ τ im (fX11_fewest g [.ref M, .int x0, .int x1] w) (fewestO δ x0 x1) := by
  obtain ⟨w0, hw0, I0, F0⟩ := hI.t0
  obtain ⟨b1, b2, b3, b4, b5, b6, b7, b8⟩ := id hd.1
  obtain ⟨hO, hXO, hRK, hRZ, hrf⟩ := id I0
  obtain ⟨x1', x3', x27, x32, x33, x34⟩ := id hXO
  obtain ⟨hTp, hD, hR, hCp, hHb, hKp, hRP⟩ := id hRK
  have hn := nR_le hd
  have x0' : (va_up x 0 0) 0 = 0 := va_up_self _ _ _
  obtain ⟨N, hN⟩ : ∃ N, g.1 = N + 4 := ⟨g.1 - 4, by omega⟩
  unfold fewestO
  have q0 := isThing_sp hg hO hD b2 x0
  cases h0 : rng x0 (δ.1 1) with
  | none =>
    rw [h0] at q0
    simp only [bI, Option.isSome, Bool.false_eq_true, if_false] at q0
    obtain ⟨w1, p1, p2, p3⟩ := bad1_sp hg I0 x0' (c := 1) (r := 0) (C := 1) (R := 0) rfl rfl (by decide) (by decide)
    refine RQo.no (v := .int 0) F0 p2 ?_ p3
    simp [fX11_fewest, kX11_fewest, ent, entp, jX11_fewest, bX11_fewest_0, bX11_fewest_1, bX11_fewest_2, bX11_fewest_3, bX11_fewest_4, bX11_fewest_5, bX11_fewest_6, bX11_fewest_7, i_aload, i_getf, i_iaload, i_icge, i_iclt, i_icne, i_ifeq, i_ifne, i_iinc, i_iload, i_ireturn, i_ishl, i_istore, i_isub, i_jmp, i_push, i_putf, msk, lset1, lset2, clr, Value.category, Option.toList, List.cons_append, List.nil_append, List.length_cons, List.length_nil, hN, st_0 hI.1, hw0, cvk_1 hO q0, cvk_3 hO p1]
  | some n0 =>
    rw [h0] at q0
    simp only [bI, Option.isSome, if_true] at q0
    obtain ⟨l0, e0⟩ := rng_some (by omega) h0
    subst e0
    have q1 := in_sp (w := w0) hg x1 (n := 1 + 1) (y := 1) (by decide) (by decide)
    cases h1 : rng x1 (1 + 1) with
    | none =>
      rw [h1] at q1
      simp only [bI, Option.isSome, Bool.false_eq_true, if_false] at q1
      obtain ⟨w1, p1, p2, p3⟩ := bad1_sp hg I0 x0' (c := 2) (r := 2) (C := 2) (R := 2) rfl rfl (by decide) (by decide)
      refine RQo.no (v := .int 0) F0 p2 ?_ p3
      simp [fX11_fewest, kX11_fewest, ent, entp, jX11_fewest, bX11_fewest_0, bX11_fewest_1, bX11_fewest_2, bX11_fewest_3, bX11_fewest_4, bX11_fewest_5, bX11_fewest_6, bX11_fewest_7, i_aload, i_getf, i_iaload, i_icge, i_iclt, i_icne, i_ifeq, i_ifne, i_iinc, i_iload, i_ireturn, i_ishl, i_istore, i_isub, i_jmp, i_push, i_putf, msk, lset1, lset2, clr, Value.category, Option.toList, List.cons_append, List.nil_append, List.length_cons, List.length_nil, hN, st_0 hI.1, hw0, cvk_1 hO q0, cvk_3 hO (bad0_sp hg hO x0' 1 0), csk_3 q1, cvk_3 hO p1]
    | some n1 =>
      rw [h1] at q1
      simp only [bI, Option.isSome, if_true] at q1
      obtain ⟨l1, e1⟩ := rng_some (by omega) h1
      subst e1
      dsimp only
      have lp := p2l b4
      have pp : 1 ≤ 2 ^ δ.1 3 := Nat.one_le_two_pow
      obtain ⟨hS0, hH, ⟨ck, hK⟩, hFt, hSt⟩ := id hRZ
      have kp : ∀ u, Fr (fun a => a = M + 176) w0 u → MO u M (va_up x 0 0) ∧ RD u M δ ∧ RT u M δ (δ.1 6) := fun u hu => ⟨hu.at hO (by omega), hD.fr hu (fun i h1 h2 => by omega), hR.fr hu (fun i h1 h2 => by omega)⟩
      have e2n := p2s (δ.1 3) (by omega)
      have L := lpR (fun f (s : Lv × Mem) => jX11_fewest g f 4 [] s.1 s.2) (fun k s => s.1 = [some (.ref M), some (.int (nI n0)), some (.int (nI n1)), some (.int (nI (fwF δ n0 k))), some (.int (nI k))] ∧ (∃ c, IA s.2 (M + 176) 20000 c) ∧ Fr (fun a => a = M + 176) w0 s.2)
        (fun z => ∃ w' c', z = some (.inl (some (.int (nI (if n1 = 0 then pc8 (fwK δ n0) else fwK δ n0)))), w') ∧ IA w' (M + 176) 20000 c' ∧ Fr (fun a => a = M + 176) w0 w') 3 6 (2 ^ δ.1 3 - 1)
        (fun k s hk hI f => by
          obtain ⟨e1, ⟨c1, e2⟩, e3⟩ := hI
          obtain ⟨o1, d1, r1⟩ := kp _ e3
          have c3 := d1.1.rc 3 3 rfl (by decide) (by decide)
          have lf := fw_lt hd n0 k (by omega)
          have q1 := ones_sp hg (w := s.2) (m := k) (by omega)
          have q2 := ones_sp hg (w := s.2) (m := fwF δ n0 k) lf
          have l1 := pc8_le k
          have l2 := pc8_le (fwF δ n0 k)
          have ek : ¬ nI (2 ^ δ.1 3) ≤ nI k := nI_ge (by omega) (by omega)
          have ef : fwF δ n0 (k + 1) = if pc8 k < pc8 (fwF δ n0 k) ∧ tlB δ k n0 = true then k else fwF δ n0 k := rfl
          by_cases z : pc8 k < pc8 (fwF δ n0 k)
          · have z1 := nI_lt z (by omega)
            obtain ⟨w2, c2, p1, p2, p3⟩ := tells_sp hg hd o1 x27 d1 r1 e2 (set := k) (t := n0) (by omega) (by omega)
            refine Or.inr ⟨f, ([some (.ref M), some (.int (nI n0)), some (.int (nI n1)), some (.int (nI (fwF δ n0 (k + 1)))), some (.int (nI (k + 1)))], w2), Nat.le_refl _, ⟨rfl, ⟨c2, p2⟩, e3.tr p3⟩, ?_⟩
            cases hm : tlB δ k n0 with
            | true =>
              rw [hm] at p1
              simp only [bI, if_true] at p1
              rw [ef, if_pos ⟨z, hm⟩]
              generalize pc8 k = P1 at q1 z1
              generalize pc8 (fwF δ n0 k) = P2 at q2 z1
              generalize fwF δ n0 k = X at e1 q2
              generalize nI (2 ^ δ.1 3) = A at e2n ek
              simp [jX11_fewest, bX11_fewest_0, bX11_fewest_1, bX11_fewest_2, bX11_fewest_3, bX11_fewest_4, bX11_fewest_5, bX11_fewest_6, bX11_fewest_7, i_aload, i_getf, i_iaload, i_icge, i_iclt, i_icne, i_ifeq, i_ifne, i_iinc, i_iload, i_ireturn, i_ishl, i_istore, i_isub, i_jmp, i_push, i_putf, msk, lset1, lset2, clr, Value.category, Option.toList, List.cons_append, List.nil_append, List.length_cons, List.length_nil, e1, gf_eq o1, mg_11, c3, e2n, ek, csk_1 q1, csk_1 q2, z1, cvk_2 o1 p1, nI_1]
            | false =>
              rw [hm] at p1
              simp only [bI, Bool.false_eq_true, if_false] at p1
              rw [ef, if_neg (fun q => by rw [hm] at q; exact Bool.false_ne_true q.2)]
              generalize pc8 k = P1 at q1 z1
              generalize pc8 (fwF δ n0 k) = P2 at q2 z1
              generalize fwF δ n0 k = X at e1 q2 ⊢
              generalize nI (2 ^ δ.1 3) = A at e2n ek
              simp [jX11_fewest, bX11_fewest_0, bX11_fewest_1, bX11_fewest_2, bX11_fewest_3, bX11_fewest_4, bX11_fewest_5, bX11_fewest_6, bX11_fewest_7, i_aload, i_getf, i_iaload, i_icge, i_iclt, i_icne, i_ifeq, i_ifne, i_iinc, i_iload, i_ireturn, i_ishl, i_istore, i_isub, i_jmp, i_push, i_putf, msk, lset1, lset2, clr, Value.category, Option.toList, List.cons_append, List.nil_append, List.length_cons, List.length_nil, e1, gf_eq o1, mg_11, c3, e2n, ek, csk_1 q1, csk_1 q2, z1, cvk_2 o1 p1, nI_1]
          · have z1 := nI_nlt (Nat.le_of_not_lt z) (by omega)
            refine Or.inr ⟨f + 1, ([some (.ref M), some (.int (nI n0)), some (.int (nI n1)), some (.int (nI (fwF δ n0 (k + 1)))), some (.int (nI (k + 1)))], s.2), by omega, ⟨rfl, ⟨c1, e2⟩, e3⟩, ?_⟩
            rw [ef, if_neg (fun q => z q.1)]
            rw [show f + 3 = (f + 1) + 2 from rfl]
            generalize f + 1 = F
            by_cases y : pc8 k = pc8 (fwF δ n0 k)
            · have le : nI (fwF δ n0 k) ≤ nI k := by
                rcases fw_or (δ := δ) n0 k with h | h
                · have := pc_all (δ.1 3) (by omega) k hk
                  rw [← h] at this
                  omega
                · exact nI_le (by omega) (by omega)
              rw [← y] at q2 z1
              generalize pc8 k = P1 at q1 q2 z1
              generalize fwF δ n0 k = X at e1 q2 le ⊢
              generalize nI (2 ^ δ.1 3) = A at e2n ek
              simp [jX11_fewest, bX11_fewest_0, bX11_fewest_1, bX11_fewest_2, bX11_fewest_3, bX11_fewest_4, bX11_fewest_5, bX11_fewest_6, bX11_fewest_7, i_aload, i_getf, i_iaload, i_icge, i_iclt, i_icne, i_ifeq, i_ifne, i_iinc, i_iload, i_ireturn, i_ishl, i_istore, i_isub, i_jmp, i_push, i_putf, msk, lset1, lset2, clr, Value.category, Option.toList, List.cons_append, List.nil_append, List.length_cons, List.length_nil, e1, gf_eq o1, mg_11, c3, e2n, ek, csk_1 q1, csk_1 q2, z1, le, nI_1]
            · have y1 := mt (nI_eq (a := pc8 k) (b := pc8 (fwF δ n0 k)) (by omega) (by omega)).mp y
              generalize pc8 k = P1 at q1 z1 y1
              generalize pc8 (fwF δ n0 k) = P2 at q2 z1 y1
              generalize fwF δ n0 k = X at e1 q2 ⊢
              generalize nI (2 ^ δ.1 3) = A at e2n ek
              simp [jX11_fewest, bX11_fewest_0, bX11_fewest_1, bX11_fewest_2, bX11_fewest_3, bX11_fewest_4, bX11_fewest_5, bX11_fewest_6, bX11_fewest_7, i_aload, i_getf, i_iaload, i_icge, i_iclt, i_icne, i_ifeq, i_ifne, i_iinc, i_iload, i_ireturn, i_ishl, i_istore, i_isub, i_jmp, i_push, i_putf, msk, lset1, lset2, clr, Value.category, Option.toList, List.cons_append, List.nil_append, List.length_cons, List.length_nil, e1, gf_eq o1, mg_11, c3, e2n, ek, csk_1 q1, csk_1 q2, z1, y1, nI_1])
        (fun s hI f => by
          obtain ⟨e1, ⟨c1, e2⟩, e3⟩ := hI
          obtain ⟨o1, d1, r1⟩ := kp _ e3
          have c3 := d1.1.rc 3 3 rfl (by decide) (by decide)
          have ew : fwF δ n0 (2 ^ δ.1 3 - 1) = fwK δ n0 := rfl
          rw [ew] at e1
          have lw := fwK_lt hd n0
          have q1 := ones_sp hg (w := s.2) (m := 2 ^ δ.1 3 - 1) (by omega)
          have q2 := ones_sp hg (w := s.2) (m := fwK δ n0) lw
          have l1 := pc8_le (2 ^ δ.1 3 - 1)
          have l2 := pc8_le (fwK δ n0)
          have lk : fwK δ n0 < 2 ^ δ.1 3 := by
            rcases fw_or (δ := δ) n0 (2 ^ δ.1 3 - 1) with h | h
            · rw [ew] at h; omega
            · rw [ew] at h; omega
          have lm := pc_max (δ.1 3) (by omega) (fwK δ n0) lk
          have z1 := nI_nlt (a := pc8 (2 ^ δ.1 3 - 1)) (b := pc8 (fwK δ n0)) lm (by omega)
          have ek : ¬ nI (2 ^ δ.1 3) ≤ nI (2 ^ δ.1 3 - 1) := nI_ge (by omega) (by omega)
          have es : 2 ^ δ.1 3 - 1 + 1 = 2 ^ δ.1 3 := by omega
          have a0 : jX11_fewest g (f + 6) 4 [] s.1 s.2 = jX11_fewest g (f + 4) 4 [] [some (.ref M), some (.int (nI n0)), some (.int (nI n1)), some (.int (nI (fwK δ n0))), some (.int (nI (2 ^ δ.1 3)))] s.2 := by
            have e5 := nI_1 (2 ^ δ.1 3 - 1)
            rw [es] at e5
            rw [show f + 6 = (f + 4) + 2 from rfl]
            generalize f + 4 = F
            by_cases y : pc8 (2 ^ δ.1 3 - 1) = pc8 (fwK δ n0)
            · have ha : fwK δ n0 = 2 ^ δ.1 3 - 1 := by
                by_cases h : fwK δ n0 = 2 ^ δ.1 3 - 1
                · exact h
                · have := pc_all (δ.1 3) (by omega) (fwK δ n0) (by omega)
                  omega
              rw [← ha] at e1 q1 ek e5 z1
              have le : nI (fwK δ n0) ≤ nI (fwK δ n0) := Int32.le_refl _
              generalize pc8 (fwK δ n0) = P1 at q1 q2 z1
              generalize nI (fwK δ n0) = X at e1 q1 q2 le ek e5 ⊢
              generalize nI (2 ^ δ.1 3) = A at e2n ek e5 ⊢
              simp [jX11_fewest, bX11_fewest_0, bX11_fewest_1, bX11_fewest_2, bX11_fewest_3, bX11_fewest_4, bX11_fewest_5, bX11_fewest_6, bX11_fewest_7, i_aload, i_getf, i_iaload, i_icge, i_iclt, i_icne, i_ifeq, i_ifne, i_iinc, i_iload, i_ireturn, i_ishl, i_istore, i_isub, i_jmp, i_push, i_putf, msk, lset1, lset2, clr, Value.category, Option.toList, List.cons_append, List.nil_append, List.length_cons, List.length_nil, e1, gf_eq o1, mg_11, c3, e2n, ek, csk_1 q1, csk_1 q2, z1, le, e5]
            · have y1 := mt (nI_eq (a := pc8 (2 ^ δ.1 3 - 1)) (b := pc8 (fwK δ n0)) (by omega) (by omega)).mp y
              generalize pc8 (2 ^ δ.1 3 - 1) = P1 at q1 z1 y1
              generalize pc8 (fwK δ n0) = P2 at q2 z1 y1
              generalize nI (fwK δ n0) = X at e1 q2 ⊢
              generalize nI (2 ^ δ.1 3 - 1) = Y at e1 q1 ek e5
              generalize nI (2 ^ δ.1 3) = A at e2n ek e5 ⊢
              simp [jX11_fewest, bX11_fewest_0, bX11_fewest_1, bX11_fewest_2, bX11_fewest_3, bX11_fewest_4, bX11_fewest_5, bX11_fewest_6, bX11_fewest_7, i_aload, i_getf, i_iaload, i_icge, i_iclt, i_icne, i_ifeq, i_ifne, i_iinc, i_iload, i_ireturn, i_ishl, i_istore, i_isub, i_jmp, i_push, i_putf, msk, lset1, lset2, clr, Value.category, Option.toList, List.cons_append, List.nil_append, List.length_cons, List.length_nil, e1, gf_eq o1, mg_11, c3, e2n, ek, csk_1 q1, csk_1 q2, z1, y1, e5]
          refine ⟨s.2, c1, ?_, e2, e3⟩
          show jX11_fewest g (f + 6) 4 [] s.1 s.2 = _
          rw [a0]
          generalize nI (2 ^ δ.1 3) = A at e2n ⊢
          by_cases z : n1 = 0
          · subst z
            simp only [if_true]
            generalize pc8 (fwK δ n0) = P2 at q2 ⊢
            generalize nI (fwK δ n0) = X at q2 ⊢
            simp [jX11_fewest, bX11_fewest_0, bX11_fewest_1, bX11_fewest_2, bX11_fewest_3, bX11_fewest_4, bX11_fewest_5, bX11_fewest_6, bX11_fewest_7, i_aload, i_getf, i_iaload, i_icge, i_iclt, i_icne, i_ifeq, i_ifne, i_iinc, i_iload, i_ireturn, i_ishl, i_istore, i_isub, i_jmp, i_push, i_putf, msk, lset1, lset2, clr, Value.category, Option.toList, List.cons_append, List.nil_append, List.length_cons, List.length_nil, gf_eq o1, mg_11, c3, e2n, nI_0, csk_1 q2]
          · have z1' := nI_ne0 (n := n1) (by omega) (by omega)
            simp only [z, if_false]
            generalize nI (fwK δ n0) = X at q2 ⊢
            simp [jX11_fewest, bX11_fewest_0, bX11_fewest_1, bX11_fewest_2, bX11_fewest_3, bX11_fewest_4, bX11_fewest_5, bX11_fewest_6, bX11_fewest_7, i_aload, i_getf, i_iaload, i_icge, i_iclt, i_icne, i_ifeq, i_ifne, i_iinc, i_iload, i_ireturn, i_ishl, i_istore, i_isub, i_jmp, i_push, i_putf, msk, lset1, lset2, clr, Value.category, Option.toList, List.cons_append, List.nil_append, List.length_cons, List.length_nil, gf_eq o1, mg_11, c3, e2n, z1'])
      obtain ⟨N2, hN2⟩ : ∃ N, g.1 = N + 3 := ⟨g.1 - 3, by omega⟩
      obtain ⟨w1, c', p1, p2, p3⟩ := L (2 ^ δ.1 3 - 1) 0 ([some (.ref M), some (.int (nI n0)), some (.int (nI n1)), some (.int (nI (fwF δ n0 0))), some (.int (nI 0))], w0) (by omega) ⟨rfl, ⟨ck, hK⟩, Fr.rf _ _⟩ N2 (by omega)
      have o1 := (kp _ p3).1
      refine RQo.ok F0 (I0.sc (p3.mn fun a ha => by unfold rg; omega) o1 hXO ?_) x0' ?_ (p3.mn fun a ha => by unfold rg; omega)
      · obtain ⟨ch, hH⟩ := hH
        obtain ⟨cf, hFt⟩ := hFt
        obtain ⟨cs, hSt⟩ := hSt
        exact ⟨hS0.fr p3 (fun i h1 h2 => by omega), ⟨ch, hH.fr p3 (by omega)⟩, ⟨c', p2⟩, ⟨cf, hFt.fr p3 (by omega)⟩, ⟨cs, hSt.fr p3 (by omega)⟩⟩
      · rw [← p1]
        have e0 : fwF δ n0 0 = 2 ^ δ.1 3 - 1 := rfl
        have e3 := p2n (δ.1 3) (by omega)
        rw [e0]
        simp only [nI_0]
        generalize nI (2 ^ δ.1 3 - 1) = A at e3 ⊢
        simp [fX11_fewest, kX11_fewest, ent, entp, jX11_fewest, bX11_fewest_0, bX11_fewest_1, bX11_fewest_2, bX11_fewest_3, bX11_fewest_4, bX11_fewest_5, bX11_fewest_6, bX11_fewest_7, i_aload, i_getf, i_iaload, i_icge, i_iclt, i_icne, i_ifeq, i_ifne, i_iinc, i_iload, i_ireturn, i_ishl, i_istore, i_isub, i_jmp, i_push, i_putf, msk, lset1, lset2, clr, Value.category, Option.toList, List.cons_append, List.nil_append, List.length_cons, List.length_nil, hN2, st_0 hI.1, hw0, cvk_1 hO q0, cvk_3 hO (bad0_sp hg hO x0' 1 0), csk_3 q1, cvk_3 hO (bad0_sp hg hO x0' 2 2), gf_eq hO, mg_11, hD.1.rc 3 3 rfl (by decide) (by decide), e3]
