theorem isN_ex {p q : Nat → Bool} {n u : Nat} (h : isN p n (some u)) : exF (fun v => p v && q v) u = exF (fun v => p v && q v) n := by
  obtain ⟨-, h2⟩ := h
  obtain ⟨h3, h4, h5⟩ := h2 u rfl
  rw [Bool.eq_iff_iff, exF_iff, exF_iff]
  constructor
  · rintro ⟨v, h6, h7⟩
    by_cases y : v < n
    · exact ⟨v, y, h7⟩
    · rw [h5 v (by omega) h6] at h7
      cases h7
  · rintro ⟨v, h6, h7⟩
    exact ⟨v, by omega, h7⟩
theorem isN_exe {p q : Nat → Bool} {n : Nat} (h : isN p n none) (hn : n ≤ 100) : exF (fun v => p v && q v) 100 = exF (fun v => p v && q v) n := by
  have h1 := h.1 rfl
  rw [Bool.eq_iff_iff, exF_iff, exF_iff]
  constructor
  · rintro ⟨v, h6, h7⟩
    by_cases y : v < n
    · exact ⟨v, y, h7⟩
    · rw [h1 v (by omega)] at h7
      cases h7
  · rintro ⟨v, h6, h7⟩
    exact ⟨v, by omega, h7⟩
/-- whom a thing goes to by the lawful candidates below n, as bits -/
def GO (δ : DE) (p : Nat) (T : Int32) (n : Nat) (b : Int32) : Prop := ∀ t, t < 5 → T = nI t → ∃ m, m < 32 ∧ b = nI m ∧ ∀ o, o < 5 → m.testBit o = exF (fun v => caP δ p v && (lwB δ p v && (owP δ p t v == o))) n
def BAN (w : Mem) (M : Nat) (δ : DE) (p : Nat) (T : Int32) (x : Nat → Int32) (n : Nat) (u : Mem) : Prop := ∃ x' fl co to, MO u M x' ∧ (∀ j, j ≠ 42 → j ≠ 45 → j ≠ 46 → j ≠ 47 → x' j = x j) ∧ x' 45 = nI (cntF (fun v => caP δ p v && tru v) n) ∧ x' 46 = nI (cntF (fun v => caP δ p v && lwB δ p v) n) ∧ GO δ p T n (x' 47) ∧ IA u (M + 172) 36 fl ∧ (∀ q, q < δ.1 5 → q ≠ p → fl q = nI (v0K δ q)) ∧ IA u (M + 173) 4 co ∧ IA u (M + 174) 5 to ∧ Fr (fun a => a = M ∨ rg (M + 172) (M + 175) a) w u
theorem BAN.to {w u : Mem} {M p n m : Nat} {δ : DE} {T : Int32} {x : Nat → Int32} (h : BAN w M δ p T x n u) (hm : isN (caP δ p) n (some m)) : BAN w M δ p T x m u := by
  obtain ⟨x', fl, co, to, h1, h2, h3, h4, h5, h6⟩ := h
  refine ⟨x', fl, co, to, h1, h2, by rw [isN_cnt hm]; exact h3, by rw [isN_cnt hm]; exact h4, fun t ht hT => ?_, h6⟩
  obtain ⟨b, b1, b2, b3⟩ := h5 t ht hT
  exact ⟨b, b1, b2, fun o ho => by rw [isN_ex hm]; exact b3 o ho⟩
theorem own_le {δ : DE} (hd : WF δ) {p t v : Nat} (hp : p < δ.1 5) (hv : caP δ p v = true) : owP δ p t v ≤ 4 := Nat.le_trans (ownK_le hd (ca_VD hd hp hv) _ (Nat.le_refl _) _) hd.1.1
theorem BAN.step {g : GE} (hg : FU g) {w u : Mem} {M p m : Nat} {δ : DE} {T : Int32} {x : Nat → Int32} (hd : WF δ) (hD : RD w M δ) (hT : T = -1 ∨ ∃ t, t < 5 ∧ T = nI t) (h : BAN w M δ p T x m u) (hp : p < δ.1 5) (hm : caP δ p m = true) (as : Int32) :
    ∃ u', BAN w M δ p T x (m + 1) u' ∧ ∀ f, ∃ f', f ≤ f' ∧ jX11_blotsAnew g (f + 3) 1 [] [some (.ref M), some (.int (nI p)), some (.int T), some (.int as), some (.int (nI m))] u = jX11_blotsAnew g (f' + 1) 3 [] [some (.ref M), some (.int (nI p)), some (.int T), some (.int as), some (.int (nI m))] u' := by
  obtain ⟨x1, fl, co, to, h1, h2, h3, h4, h5, h6, h7, h8, h9, h10⟩ := h
  obtain ⟨b1, b2, b3, b4, b5, b6, b7, b8⟩ := id hd.1
  have lm := ca_l hd hp hm
  have nn := nI_nn (y := m) (by omega)
  -- the place filled
  obtain ⟨w1, hw1⟩ : ∃ q, wi u 0 (M + 172) p (nI m) = q := ⟨_, rfl⟩
  have F1 : Fr (fun a => a = M + 172) u w1 := hw1 ▸ Fr.wi _ _ _ _ rfl
  have wr := h6.wr (j := p) (by omega) (by decide) (nI m)
  rw [hw1] at wr
  have f1 := h6.up p (nI m)
  rw [hw1] at f1
  have o1 := F1.at h1 (by omega)
  obtain ⟨X2, hX2⟩ : ∃ q, va_up x1 45 (nI (cntF (fun v => caP δ p v && tru v) m + 1)) = q := ⟨_, rfl⟩
  obtain ⟨w2, hw2⟩ : ∃ q, mset w1 M (.inr (10, mo M X2)) = q := ⟨_, rfl⟩
  have o2 : MO w2 M X2 := hw2 ▸ ms_at _ _ _
  have F2 : Fr (fun a => a = M) w1 w2 := hw2 ▸ Fr.ms _ _ rfl
  have F02 : Fr (fun a => a = M ∨ rg (M + 172) (M + 175) a) w w2 := (h10.tr (F1.mn fun a h => by unfold rg; omega)).tr (F2.mn fun a h => Or.inl h)
  have D2 := hD.fr F02 (fun i z1 z2 => by unfold rg; omega)
  have s45 := st_45 o1 (nI (cntF (fun v => caP δ p v && tru v) m + 1))
  rw [hX2, hw2] at s45
  have vd := ca_VD hd hp hm
  have ef : ∀ q, q < δ.1 5 → va_up fl p (nI m) q = nI (va_up (v0K δ) p m q) := fun q hq => by
    by_cases y : q = p
    · subst y; rw [va_up_self, va_up_self]
    · rw [va_up_ne _ _ y, va_up_ne _ _ y]; exact h7 q hq y
  obtain ⟨w3, p1, p2, p3, p4⟩ := asks_sp hg hd o2 D2 (f1.fr F2 (by omega)) ((h8.fr F1 (by omega)).fr F2 (by omega)) ((h9.fr F1 (by omega)).fr F2 (by omega)) vd ef (-1)
  have D3 := D2.fr p4 (fun i z1 z2 => by omega)
  have q1 := rbroken_sp hg (est := δ.1 4) hd vd p2 (va_up_self _ _ _) D3 p3 (by omega)
  have c4 := D3.1.rc 4 4 rfl (by decide) (by decide)
  have F03 : Fr (fun a => a = M ∨ rg (M + 172) (M + 175) a) w w3 := F02.tr (p4.mn fun a h => by unfold rg; omega)
  have lb : brK δ (-1) (δ.1 4) (va_up (v0K δ) p m) ≤ 7 := br_le _ _ _ _
  have f3 : IA w3 (M + 172) 36 (va_up fl p (nI m)) := (f1.fr F2 (by omega)).fr p4 (by omega)
  have k3 : ∀ q, q < δ.1 5 → q ≠ p → va_up fl p (nI m) q = nI (v0K δ q) := fun q hq y => by rw [va_up_ne _ _ y]; exact h7 q hq y
  obtain ⟨X3, hX3⟩ : ∃ q, va_up X2 42 (nI (twK δ (-1) (va_up (v0K δ) p m) (δ.1 2))) = q := ⟨_, rfl⟩
  rw [hX3] at p2
  have n45 : X3 45 = nI (cntF (fun v => caP δ p v && tru v) (m + 1)) := by
    rw [← hX3, va_up_ne _ _ (by decide), ← hX2, va_up_self]
    show _ = nI (cntF (fun v => caP δ p v && tru v) m + if (caP δ p m && tru m) = true then 1 else 0)
    rw [hm]
    rfl
  have nj : ∀ j, j ≠ 42 → j ≠ 45 → X3 j = x1 j := fun j z1 z2 => by rw [← hX3, va_up_ne _ _ z1, ← hX2, va_up_ne _ _ z2]
  have ea := nI_1 (cntF (fun v => caP δ p v && tru v) m)
  have e46 : cntF (fun v => caP δ p v && lwB δ p v) (m + 1) = cntF (fun v => caP δ p v && lwB δ p v) m + if lwB δ p m = true then 1 else 0 := by
    show _ + (if (caP δ p m && lwB δ p m) = true then 1 else 0) = _
    rw [hm, Bool.true_and]
  have ex47 : ∀ t o, exF (fun v => caP δ p v && (lwB δ p v && (owP δ p t v == o))) (m + 1) = (exF (fun v => caP δ p v && (lwB δ p v && (owP δ p t v == o))) m || (lwB δ p m && (owP δ p t m == o))) := fun t o => by
    show (_ || (caP δ p m && (lwB δ p m && (owP δ p t m == o)))) = _
    rw [hm, Bool.true_and]
  by_cases z : brK δ (-1) (δ.1 4) (va_up (v0K δ) p m) = 0
  · have el : lwB δ p m = true := by unfold lwB; simp [z]
    rw [el] at e46
    rw [z, nI_0] at q1
    obtain ⟨X4, hX4⟩ : ∃ q, va_up X3 46 (nI (cntF (fun v => caP δ p v && lwB δ p v) m + 1)) = q := ⟨_, rfl⟩
    obtain ⟨w4, hw4⟩ : ∃ q, mset w3 M (.inr (10, mo M X4)) = q := ⟨_, rfl⟩
    have o4 : MO w4 M X4 := hw4 ▸ ms_at _ _ _
    have F4 : Fr (fun a => a = M) w3 w4 := hw4 ▸ Fr.ms _ _ rfl
    have s46 := st_46 p2 (nI (cntF (fun v => caP δ p v && lwB δ p v) m + 1))
    rw [hX4, hw4] at s46
    have ea6 := nI_1 (cntF (fun v => caP δ p v && lwB δ p v) m)
    have x46 : X3 46 = nI (cntF (fun v => caP δ p v && lwB δ p v) m) := by rw [nj 46 (by decide) (by decide)]; exact h4
    have x47 : X4 47 = x1 47 := by rw [← hX4, va_up_ne _ _ (by decide)]; exact nj 47 (by decide) (by decide)
    -- what the bits become
    have fin : ∀ (ad b' : Int32), x1 47 ||| ad = b' → GO δ p T (m + 1) b' → (∀ F, jX11_blotsAnew g (F + 1) 1 [] [some (.ref M), some (.int (nI p)), some (.int T), some (.int as), some (.int (nI m))] u = jX11_blotsAnew g F 2 [.int ad, .int (x1 47), .ref M] [some (.ref M), some (.int (nI p)), some (.int T), some (.int as), some (.int (nI m))] w4) → ∃ u', BAN w M δ p T x (m + 1) u' ∧ ∀ f, ∃ f', f ≤ f' ∧ jX11_blotsAnew g (f + 3) 1 [] [some (.ref M), some (.int (nI p)), some (.int T), some (.int as), some (.int (nI m))] u = jX11_blotsAnew g (f' + 1) 3 [] [some (.ref M), some (.int (nI p)), some (.int T), some (.int as), some (.int (nI m))] u' := fun ad b' hb hgo hstep => by
      obtain ⟨X5, hX5⟩ : ∃ q, va_up X4 47 b' = q := ⟨_, rfl⟩
      obtain ⟨w5, hw5⟩ : ∃ q, mset w4 M (.inr (10, mo M X5)) = q := ⟨_, rfl⟩
      have o5 : MO w5 M X5 := hw5 ▸ ms_at _ _ _
      have F5 : Fr (fun a => a = M) w4 w5 := hw5 ▸ Fr.ms _ _ rfl
      have s47 := st_47 o4 b'
      rw [hX5, hw5] at s47
      have F35 : Fr (fun a => a = M) w3 w5 := F4.tr F5
      refine ⟨w5, ⟨X5, _, _, _, o5, fun j z1 z2 z3 z4 => ?_, ?_, ?_, ?_, f3.fr F35 (by omega), k3, p3.1.fr F35 (by omega), p3.2.fr F35 (by omega), F03.tr (F35.mn fun a h => Or.inl h)⟩, fun f => ⟨f, Nat.le_refl _, ?_⟩⟩
      · rw [← hX5, va_up_ne _ _ z4, ← hX4, va_up_ne _ _ z3, nj j z1 z2]
        exact h2 j z1 z2 z3 z4
      · rw [← hX5, va_up_ne _ _ (by decide), ← hX4, va_up_ne _ _ (by decide)]
        exact n45
      · rw [← hX5, va_up_ne _ _ (by decide), ← hX4, va_up_self, e46]
        rfl
      · rw [← hX5, va_up_self]
        exact hgo
      · rw [show f + 3 = (f + 2) + 1 from rfl, hstep (f + 2)]
        rw [show f + 2 = (f + 1) + 1 from rfl]
        generalize f + 1 = F
        simp [jX11_blotsAnew, bX11_blotsAnew_0, bX11_blotsAnew_1, bX11_blotsAnew_2, bX11_blotsAnew_3, bX11_blotsAnew_4, i_aaload, i_aload, i_dup, i_getf, i_iadd, i_iaload, i_iastore, i_iceq, i_icne, i_ifeq, i_iload, i_ior, i_ishl, i_istore, i_jmp, i_push, i_putf, i_return, msk, lset1, lset2, clr, Value.category, Option.toList, List.cons_append, List.nil_append, List.length_cons, List.length_nil, hb, s47]
    rcases hT with hT | ⟨t, lt, hT⟩
    · refine fin 0 (x1 47) (by simp) (fun t ht hq => ?_) (fun F => ?_)
      · exfalso
        rw [hT] at hq
        exact nI_nn (y := t) (by omega) hq.symm
      · subst hT
        generalize cntF (fun v => caP δ p v && tru v) m = C1 at ea h3 s45
        generalize cntF (fun v => caP δ p v && lwB δ p v) m = C2 at ea6 x46 s46
        simp [jX11_blotsAnew, bX11_blotsAnew_0, bX11_blotsAnew_1, bX11_blotsAnew_2, bX11_blotsAnew_3, bX11_blotsAnew_4, i_aaload, i_aload, i_dup, i_getf, i_iadd, i_iaload, i_iastore, i_iceq, i_icne, i_ifeq, i_iload, i_ior, i_ishl, i_istore, i_jmp, i_push, i_putf, i_return, msk, lset1, lset2, clr, Value.category, Option.toList, List.cons_append, List.nil_append, List.length_cons, List.length_nil, nn, gf_eq h1, mg_39, wr, gf_eq o1, mg_45, h3, ea, s45, cvk_1 o2 p1, gf_eq p2, mg_11, c4, cvk_1 p2 q1, mg_46, x46, ea6, s46, gf_eq o4, mg_47, x47]
    · have lo : owP δ p t m ≤ 4 := own_le hd hp hm
      obtain ⟨bm, bm1, bm2, bm3⟩ := h5 t lt hT
      have so := sh_o bm (by omega) (owP δ p t m) (by omega)
      have ro : gi w4 0 (M + 174) (nI t) = some (nI (owP δ p t m) - 1) := (p3.2.fr F4 (by omega)).rd (by omega) (by decide)
      have eo : nI (owP δ p t m) - 1 + 1 = nI (owP δ p t m) := Int32.sub_add_cancel _ _
      have nT := nI_nn (y := t) (by omega)
      refine fin ((1 : Int32) <<< (nI (owP δ p t m) &&& 31)) (nI (bm ||| 2 ^ owP δ p t m)) (by rw [bm2]; exact so) (fun t' ht' hq => ?_) (fun F => ?_)
      · have et : t = t' := (nI_eq (by omega) (by omega)).mp (hT.symm.trans hq)
        subst et
        refine ⟨_, Nat.or_lt_two_pow (n := 5) bm1 (by have := wb_lt2 (show owP δ p t m < 5 by omega); omega), rfl, fun o ho => ?_⟩
        rw [ex47, ← bm3 o ho, Nat.testBit_or, Nat.testBit_two_pow, el, Bool.true_and]
        congr 1
      · subst hT
        generalize nI (owP δ p t m) = OW at ro eo
        generalize OW - 1 = OX at ro eo
        generalize cntF (fun v => caP δ p v && tru v) m = C1 at ea h3 s45
        generalize cntF (fun v => caP δ p v && lwB δ p v) m = C2 at ea6 x46 s46
        simp [jX11_blotsAnew, bX11_blotsAnew_0, bX11_blotsAnew_1, bX11_blotsAnew_2, bX11_blotsAnew_3, bX11_blotsAnew_4, i_aaload, i_aload, i_dup, i_getf, i_iadd, i_iaload, i_iastore, i_iceq, i_icne, i_ifeq, i_iload, i_ior, i_ishl, i_istore, i_jmp, i_push, i_putf, i_return, msk, lset1, lset2, clr, Value.category, Option.toList, List.cons_append, List.nil_append, List.length_cons, List.length_nil, nn, gf_eq h1, mg_39, wr, gf_eq o1, mg_45, h3, ea, s45, cvk_1 o2 p1, gf_eq p2, mg_11, c4, cvk_1 p2 q1, mg_46, x46, ea6, s46, gf_eq o4, mg_47, x47, nT, mg_41, ro, eo]
  · have el : lwB δ p m = false := by unfold lwB; simp [z]
    rw [el] at e46
    have z1 := nI_ne0 (n := brK δ (-1) (δ.1 4) (va_up (v0K δ) p m)) (by omega) (by omega)
    refine ⟨w3, ⟨X3, _, _, _, p2, fun j z1 z2 z3 z4 => by rw [nj j z1 z2]; exact h2 j z1 z2 z3 z4, n45, by rw [nj 46 (by decide) (by decide), h4, e46]; rfl, fun t ht hq => ?_, f3, k3, p3.1, p3.2, F03⟩, fun f => ⟨f + 1, by omega, ?_⟩⟩
    · obtain ⟨bm, bm1, bm2, bm3⟩ := h5 t ht hq
      refine ⟨bm, bm1, by rw [nj 47 (by decide) (by decide)]; exact bm2, fun o ho => ?_⟩
      rw [ex47, el, Bool.false_and, Bool.or_false]
      exact bm3 o ho
    · generalize nI (brK δ (-1) (δ.1 4) (va_up (v0K δ) p m)) = Y at q1 z1
      generalize cntF (fun v => caP δ p v && tru v) m = C1 at ea h3 s45
      rw [show f + 3 = (f + 1 + 1) + 1 from rfl]
      generalize f + 1 + 1 = F
      simp [jX11_blotsAnew, bX11_blotsAnew_0, bX11_blotsAnew_1, bX11_blotsAnew_2, bX11_blotsAnew_3, bX11_blotsAnew_4, i_aaload, i_aload, i_dup, i_getf, i_iadd, i_iaload, i_iastore, i_iceq, i_icne, i_ifeq, i_iload, i_ior, i_ishl, i_istore, i_jmp, i_push, i_putf, i_return, msk, lset1, lset2, clr, Value.category, Option.toList, List.cons_append, List.nil_append, List.length_cons, List.length_nil, nn, gf_eq h1, mg_39, wr, gf_eq o1, mg_45, h3, ea, s45, cvk_1 o2 p1, gf_eq p2, mg_11, c4, cvk_1 p2 q1, z1]
theorem blotsAnew_sp {g : GE} (hg : FU g) {w : Mem} {M p : Nat} {δ : DE} {T : Int32} {x : Nat → Int32} (hd : WF δ) (hO : MO w M x) (hD : RD w M δ) (hR : RT w M δ (δ.1 6)) (hS : RSC w M) (h0 : 0 < nR δ) (hT : T = -1 ∨ ∃ t, t < 5 ∧ T = nI t) (hp : p < δ.1 5) :
    ∃ u, fX11_blotsAnew g [.ref M, .int (nI p), .int T] w = some (.inl none, u) ∧ BAN w M δ p T x 100 u := by
  obtain ⟨b1, b2, b3, b4, b5, b6, b7, b8⟩ := id hd.1
  have kd := kdP hd hp
  have l0 := (rr_lt h0).1
  -- the loop
  have L : ∀ k n o u, 100 - n ≤ k → n ≤ 100 → isN (caP δ p) n o → BAN w M δ p T x n u → ∀ f, 5 * k + 1 ≤ f → ∃ u', jX11_blotsAnew g f 1 [] [some (.ref M), some (.int (nI p)), some (.int T), some (.int (nI (v0K δ p))), some (.int (oI o))] u = some (.inl none, u') ∧ BAN w M δ p T x 100 u' := by
    intro k
    induction k with
    | zero =>
      intro n o u h1 h2 h3 h4 f hf
      obtain ⟨F, rfl⟩ : ∃ F, f = F + 1 := ⟨f - 1, by omega⟩
      have en : n = 100 := by omega
      subst en
      cases o with
      | none =>
        refine ⟨u, ?_, h4⟩
        generalize nI (v0K δ p) = V
        simp [jX11_blotsAnew, bX11_blotsAnew_0, bX11_blotsAnew_1, bX11_blotsAnew_2, bX11_blotsAnew_3, bX11_blotsAnew_4, i_aaload, i_aload, i_dup, i_getf, i_iadd, i_iaload, i_iastore, i_iceq, i_icne, i_ifeq, i_iload, i_ior, i_ishl, i_istore, i_jmp, i_push, i_putf, i_return, msk, lset1, lset2, clr, Value.category, Option.toList, List.cons_append, List.nil_append, List.length_cons, List.length_nil, oI]
      | some m =>
        obtain ⟨q1, q2, -⟩ := h3.2 m rfl
        have := ca_l hd hp q2
        omega
    | succ k ih =>
      intro n o u h1 h2 h3 h4 f hf
      cases o with
      | none =>
        obtain ⟨F, rfl⟩ : ∃ F, f = F + 1 := ⟨f - 1, by omega⟩
        refine ⟨u, ?_, ?_⟩
        · generalize nI (v0K δ p) = V
          simp [jX11_blotsAnew, bX11_blotsAnew_0, bX11_blotsAnew_1, bX11_blotsAnew_2, bX11_blotsAnew_3, bX11_blotsAnew_4, i_aaload, i_aload, i_dup, i_getf, i_iadd, i_iaload, i_iastore, i_iceq, i_icne, i_ifeq, i_iload, i_ior, i_ishl, i_istore, i_jmp, i_push, i_putf, i_return, msk, lset1, lset2, clr, Value.category, Option.toList, List.cons_append, List.nil_append, List.length_cons, List.length_nil, oI]
        · obtain ⟨x', fl, co, to, a1, a2, a3, a4, a5, a6⟩ := h4
          refine ⟨x', fl, co, to, a1, a2, by rw [isN_end h3 h2]; exact a3, by rw [isN_end h3 h2]; exact a4, fun t ht hq => ?_, a6⟩
          obtain ⟨b, b1, b2, b3⟩ := a5 t ht hq
          exact ⟨b, b1, b2, fun o ho => by rw [isN_exe h3 h2]; exact b3 o ho⟩
      | some m =>
        obtain ⟨q1, q2, q3⟩ := h3.2 m rfl
        have lm := ca_l hd hp q2
        obtain ⟨u1, B1, st⟩ := (h4.to h3).step hg hd hD hT hp q2 (nI (v0K δ p))
        obtain ⟨F, rfl⟩ : ∃ F, f = F + 3 := ⟨f - 3, by omega⟩
        obtain ⟨f1, g1, g2⟩ := st F
        obtain ⟨x', fl, co, to, a1, a2, a3, a4, a5, a6, a7, a8, a9, a10⟩ := id B1
        have D1 := hD.fr a10 (fun i z1 z2 => by unfold rg; omega)
        obtain ⟨-, -, -, -, -, ⟨c5, h5, k5⟩, -⟩ := id D1
        have rk : gi u1 0 (M + 69 + 1 + p) 0 = some (nI (δ.2 6 p)) := by rw [(h5.2 p (by omega)).rc 0 0 rfl (by decide) (by decide), (k5 p hp).1]
        have rr1 := h5.1.rd (j := p) (by omega) (by decide)
        obtain ⟨f2, rfl⟩ : ∃ q, f1 = q + 1 := ⟨f1 - 1, by omega⟩
        have m2 : (nI (δ.2 6 p) = 2) ↔ δ.2 6 p = 2 := nI_eq (b := 2) (by omega) (by decide)
        have nxt : ∃ o', isN (caP δ p) (m + 1) o' ∧ jX11_blotsAnew g (f2 + 1 + 1) 3 [] [some (.ref M), some (.int (nI p)), some (.int T), some (.int (nI (v0K δ p))), some (.int (nI m))] u1 = jX11_blotsAnew g f2 1 [] [some (.ref M), some (.int (nI p)), some (.int T), some (.int (nI (v0K δ p))), some (.int (oI o'))] u1 := by
          by_cases y : δ.2 6 p = 2
          · have ec : ∀ v, caP δ p v = fl2 (if v0K δ p = 0 then 2 else 3) v := fun v => by unfold caP flP; rw [y]; rfl
            have lv' : v0K δ p < 2 := (vr_VD hd (rr δ 0)).i hp y
            have ec' : ∀ v, caP δ p v = true ↔ v = v0K δ p := fun v => by
              rw [ec]
              simp only [fl2, decide_eq_true_eq]
              split <;> omega
            have em := (ec' m).mp q2
            refine ⟨none, ⟨fun _ v hv => ?_, fun v hv => (by cases hv)⟩, ?_⟩
            · cases hc : caP δ p v with
              | false => rfl
              | true => have := (ec' v).mp hc; omega
            · have y1 := m2.mpr y
              rw [y1] at rk
              generalize nI (v0K δ p) = V
              simp [jX11_blotsAnew, bX11_blotsAnew_0, bX11_blotsAnew_1, bX11_blotsAnew_2, bX11_blotsAnew_3, bX11_blotsAnew_4, i_aaload, i_aload, i_dup, i_getf, i_iadd, i_iaload, i_iastore, i_iceq, i_icne, i_ifeq, i_iload, i_ior, i_ishl, i_istore, i_jmp, i_push, i_putf, i_return, msk, lset1, lset2, clr, Value.category, Option.toList, List.cons_append, List.nil_append, List.length_cons, List.length_nil, gf_eq a1, mg_22, rr1, va_rf, rk, oI]
          · have y1 := mt m2.mp y
            obtain ⟨o', i1, i2⟩ := behind_sp hg hd a1 D1 hp (n := m + 1) (by omega) (fun q => absurd q y)
            rw [nI_pred] at i2
            refine ⟨o', i1, ?_⟩
            generalize nI (v0K δ p) = V at i2 ⊢
            generalize nI (δ.2 6 p) = K at rk i2 y1
            generalize oI o' = O at i2 ⊢
            simp [jX11_blotsAnew, bX11_blotsAnew_0, bX11_blotsAnew_1, bX11_blotsAnew_2, bX11_blotsAnew_3, bX11_blotsAnew_4, i_aaload, i_aload, i_dup, i_getf, i_iadd, i_iaload, i_iastore, i_iceq, i_icne, i_ifeq, i_iload, i_ior, i_ishl, i_istore, i_jmp, i_push, i_putf, i_return, msk, lset1, lset2, clr, Value.category, Option.toList, List.cons_append, List.nil_append, List.length_cons, List.length_nil, gf_eq a1, mg_22, rr1, va_rf, rk, y1, cvk_3 a1 i2]
        obtain ⟨o', n1, n2⟩ := nxt
        obtain ⟨u', r1, r2⟩ := ih (m + 1) o' u1 (by omega) (by omega) n1 B1 f2 (by omega)
        refine ⟨u', ?_, r2⟩
        have e9 : oI (some m) = nI m := rfl
        rw [e9, g2, n2, r1]
  -- the start
  obtain ⟨⟨f0, hf0⟩, ⟨co, hco⟩, ⟨to, hto⟩⟩ := hS
  obtain ⟨X1, hX1⟩ : ∃ q, va_up x 45 0 = q := ⟨_, rfl⟩
  obtain ⟨w1, hw1⟩ : ∃ q, mset w M (.inr (10, mo M X1)) = q := ⟨_, rfl⟩
  have o1 : MO w1 M X1 := hw1 ▸ ms_at _ _ _
  have s45 := st_45 hO 0
  rw [hX1, hw1] at s45
  obtain ⟨X2, hX2⟩ : ∃ q, va_up X1 46 0 = q := ⟨_, rfl⟩
  obtain ⟨w2, hw2⟩ : ∃ q, mset w1 M (.inr (10, mo M X2)) = q := ⟨_, rfl⟩
  have o2 : MO w2 M X2 := hw2 ▸ ms_at _ _ _
  have s46 := st_46 o1 0
  rw [hX2, hw2] at s46
  obtain ⟨X3, hX3⟩ : ∃ q, va_up X2 47 0 = q := ⟨_, rfl⟩
  obtain ⟨w3, hw3⟩ : ∃ q, mset w2 M (.inr (10, mo M X3)) = q := ⟨_, rfl⟩
  have o3 : MO w3 M X3 := hw3 ▸ ms_at _ _ _
  have s47 := st_47 o2 0
  rw [hX3, hw3] at s47
  have F31 : Fr (fun a => a = M) w w1 := hw1 ▸ Fr.ms _ _ rfl
  have F32 : Fr (fun a => a = M) w1 w2 := hw2 ▸ Fr.ms _ _ rfl
  have F33 : Fr (fun a => a = M) w2 w3 := hw3 ▸ Fr.ms _ _ rfl
  have F3 := (F31.tr F32).tr F33
  have D3 := hD.fr F3 (fun i z1 z2 => by omega)
  have rw1 := (hR.fr F3 (fun i z1 z2 => by omega)).row hd h0
  rw [nI_0] at rw1
  obtain ⟨w4, fl, q1, q2, q3, q4⟩ := fills_sp hg (row := rr δ 0) hd o3 D3 (hf0.fr F3 (by omega)) (by omega)
  have o4 := q4.at o3 (by omega)
  have D4 := D3.fr q4 (fun i z1 z2 => by omega)
  have F4 : Fr (fun a => a = M ∨ rg (M + 172) (M + 175) a) w w4 := (F3.mn fun a h => Or.inl h).tr (q4.mn fun a h => by unfold rg; omega)
  obtain ⟨o, i1, i2⟩ := behind_sp hg hd o4 D4 hp (n := 0) (by decide) (fun _ => rfl)
  have e0 : nI 0 - 1 = -1 := by decide
  rw [e0] at i2
  obtain ⟨-, -, -, -, -, ⟨c5, h5, k5⟩, -⟩ := id D4
  have rk : gi w4 0 (M + 69 + 1 + p) 0 = some (nI (δ.2 6 p)) := by rw [(h5.2 p (by omega)).rc 0 0 rfl (by decide) (by decide), (k5 p hp).1]
  have rr1 := h5.1.rd (j := p) (by omega) (by decide)
  have rv : gi w4 0 (M + 172) (nI p) = some (nI (v0K δ p)) := by rw [q2.rd (by omega) (by decide), q3 p hp]
  obtain ⟨N, hN⟩ : ∃ N, g.1 = N + 1 := ⟨g.1 - 1, by omega⟩
  have B0 : BAN w M δ p T x 0 w4 := ⟨X3, fl, co, to, o4, fun j z1 z2 z3 z4 => by rw [← hX3, va_up_ne _ _ z4, ← hX2, va_up_ne _ _ z3, ← hX1, va_up_ne _ _ z2], by rw [← hX3, va_up_ne _ _ (by decide), ← hX2, va_up_ne _ _ (by decide), ← hX1, va_up_self]; rfl, by rw [← hX3, va_up_ne _ _ (by decide), ← hX2, va_up_self]; rfl, fun t ht hq => ⟨0, by decide, by rw [← hX3, va_up_self]; rfl, fun o ho => by rw [Nat.zero_testBit]; rfl⟩, q2, fun q hq _ => q3 q hq, (hco.fr F3 (by omega)).fr q4 (by omega), (hto.fr F3 (by omega)).fr q4 (by omega), F4⟩
  obtain ⟨u', r1, r2⟩ := L 100 0 o w4 (by omega) (by omega) i1 B0 N (by omega)
  refine ⟨u', ?_, r2⟩
  rw [← r1]
  generalize nI (v0K δ p) = V at i2 rv ⊢
  generalize nI (δ.2 6 p) = K at rk i2
  generalize oI o = O at i2 ⊢
  simp [fX11_blotsAnew, kX11_blotsAnew, ent, entp, jX11_blotsAnew, bX11_blotsAnew_0, bX11_blotsAnew_1, bX11_blotsAnew_2, bX11_blotsAnew_3, bX11_blotsAnew_4, i_aaload, i_aload, i_dup, i_getf, i_iadd, i_iaload, i_iastore, i_iceq, i_icne, i_ifeq, i_iload, i_ior, i_ishl, i_istore, i_jmp, i_push, i_putf, i_return, msk, lset1, lset2, clr, Value.category, Option.toList, List.cons_append, List.nil_append, List.length_cons, List.length_nil, hN, s45, s46, s47, gf_eq o3, mg_28, rw1, cvk_1 o3 q1, gf_eq o4, mg_39, rv, mg_22, rr1, va_rf, rk, cvk_3 o4 i2]
theorem BAN.rw {w u : Mem} {M p n fed kept : Nat} {fp : Int32} {tp : Nat → Int32} {rf : Nat → Nat} {δ : DE} {τ : TE} {im : Nat → TE} {T : Int32} {x : Nat → Int32} (h : BAN w M δ p T x n u) (hI : RI w M fed kept fp tp rf δ τ im x) : ∃ x', RI u M fed kept fp tp rf δ τ im x' ∧ (∀ j, j ≠ 42 → j ≠ 45 → j ≠ 46 → j ≠ 47 → x' j = x j) ∧ x' 45 = nI (cntF (fun v => caP δ p v && tru v) n) ∧ x' 46 = nI (cntF (fun v => caP δ p v && lwB δ p v) n) ∧ GO δ p T n (x' 47) ∧ Fr (rg M (M + 179)) w u := by
  obtain ⟨x', fl, co, to, a1, a2, a3, a4, a5, a6, a7, a8, a9, a10⟩ := h
  obtain ⟨h1, ⟨y1, y2, y3, y4, y5, y6⟩, h3, ⟨z1, ⟨c1, z2⟩, ⟨c2, z3⟩, ⟨c3, z4⟩, ⟨c4, z5⟩⟩, h5⟩ := id hI
  refine ⟨x', hI.sc (a10.mn fun a ha => by unfold rg at *; omega) a1 ⟨by rw [a2 _ (by decide) (by decide) (by decide) (by decide)]; exact y1, by rw [a2 _ (by decide) (by decide) (by decide) (by decide)]; exact y2, by rw [a2 _ (by decide) (by decide) (by decide) (by decide)]; exact y3, by rw [a2 _ (by decide) (by decide) (by decide) (by decide)]; exact y4, by rw [a2 _ (by decide) (by decide) (by decide) (by decide)]; exact y5, by rw [a2 _ (by decide) (by decide) (by decide) (by decide)]; exact y6⟩ ⟨⟨⟨fl, a6⟩, ⟨co, a8⟩, ⟨to, a9⟩⟩, ⟨c1, z2.fr a10 (by unfold rg; omega)⟩, ⟨c2, z3.fr a10 (by unfold rg; omega)⟩, ⟨c3, z4.fr a10 (by unfold rg; omega)⟩, ⟨c4, z5.fr a10 (by unfold rg; omega)⟩⟩, a2, a3, a4, a5, a10.mn fun a ha => by unfold rg at *; omega⟩
