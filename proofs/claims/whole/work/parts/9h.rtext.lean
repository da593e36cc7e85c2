/-! ===== the reference reads: the whole text ===== -/
theorem rg_clear {w : Mem} {M : Nat} (h : RP w M) {c : Nat → Int32} (h3 : IA w (M + 3) 7 c) (hc : ∀ i, i < 7 → c i = 0) (δ : DE) : RG w M (clear δ) ((clear δ).1 2) ((clear δ).1 2) := by
  obtain ⟨-, ⟨c2, h2⟩, ⟨c3, h3'⟩, ⟨c4, h4⟩, ⟨c5, h5⟩, ⟨c6, h6⟩, ⟨c7, h7⟩, ⟨c8, h8⟩, ⟨c9, h9⟩⟩ := h
  have z : ∀ k i, k < 6 → ¬ i < (clear δ).1 k := fun k i hk h => by
    have : (clear δ).1 k = 0 := if_neg (by omega)
    omega
  exact ⟨⟨c, h3, hc 0 (by decide), hc 1 (by decide), hc 2 (by decide), hc 3 (by decide), hc 4 (by decide), hc 5 (by decide)⟩, ⟨c2, h2, fun h hh => absurd hh (z 0 h (by decide))⟩, ⟨c3, h3', fun h hh => absurd hh (z 1 h (by decide))⟩, ⟨c4, h4, fun h hh => absurd hh (z 0 h (by decide))⟩, ⟨c5, h5, fun h hh => absurd hh (z 0 h (by decide)), fun h hh => absurd hh (z 1 h (by decide))⟩, ⟨c6, h6, fun h hh => absurd hh (z 2 h (by decide))⟩, ⟨c7, h7, fun h hh => absurd hh (z 5 h (by decide))⟩, ⟨c8, h8, fun h hh => absurd hh (z 3 h (by decide))⟩, ⟨c9, h9, fun h hh => absurd hh (z 3 h (by decide))⟩⟩
/-- the text has been read -/
def RE (w : Mem) (M : Nat) (x : Nat → Int32) (n : Nat) (r : PR) : Prop := match r with
  | .inl e => RFt w M x n e
  | .inr y => ∃ x', MO w M x' ∧ (∀ j, j ≠ 4 → j ≠ 7 → x' j = x j) ∧ RG w M y.1 (y.1.1 2) (y.1.1 2)
theorem RE.cg {w : Mem} {M n : Nat} {x x0 : Nat → Int32} {r : PR} (h : RE w M x n r) (hx : ∀ j, j ≠ 4 → j ≠ 7 → x j = x0 j) : RE w M x0 n r := by
  cases r with
  | inl e =>
    obtain ⟨x', h1, h2, h3, h4, h5, h6⟩ := h
    exact ⟨x', h1, h2, h3, h4, fun j j4 j5 j6 j7 => by rw [h5 j j4 j5 j6 j7, hx j j4 j7], h6⟩
  | inr y =>
    obtain ⟨x', h1, h2, h3⟩ := h
    exact ⟨x', h1, fun j j4 j7 => by rw [h2 j j4 j7, hx j j4 j7], h3⟩
theorem cl40 {T : Nat → Nat} {n q : Nat} {z y : DE × Nat} (h : 40 ≤ q) : clauseP T n q z ≠ .inr y := by
  unfold clauseP
  intro hh
  split at hh
  · cases hh
  · rw [if_pos (Or.inl h)] at hh
    cases hh
/-- the loop over the clauses: k more may come -/
theorem de_3 {g : GE} (hg : FU g) {M n : Nat} {T : Nat → Nat} (hn : n ≤ 600) : ∀ (k q : Nat) (w : Mem) (x : Nat → Int32) (δ : DE) (a : Nat), q + k = 40 → MO w M x → x 2 = nI n → x 4 = nI (sb T n a) → x 5 = 0 → x 7 = nI q → TXT w (M + 1) T → a ≤ n → RG w M δ (δ.1 2) (δ.1 2) → PW δ → ∀ F,
    ∃ f' w', F ≤ f' ∧ jX11_deed g (F + 2 * (k + 1)) 3 [] [some (.ref M), none, none] w = jX11_deed g f' 4 [] [some (.ref M), none, none] w' ∧ RE w' M x n (clsP T n (k + 1) q (δ, a)) ∧ Fr (SR M) w w' := by
  intro k
  induction k with
  | zero =>
    intro q w x δ a hq hO h2 h4 h5 h7 hT ha hG hW F
    have k2 : sb T n a ≤ n := ru_n ha
    have ss : sb T n (sb T n a) = sb T n a := ru_ru ha
    unfold clsP
    simp only []
    generalize sb T n a = s at *
    by_cases y : n ≤ s
    · rw [if_pos y]
      have e1 : nI n ≤ nI s := nI_le y (by omega)
      refine ⟨F + 1, w, by omega, ?_, ⟨x, hO, fun j _ _ => rfl, hG⟩, Fr.rf _ _⟩
      show jX11_deed g (F + 1 + 1) 3 [] [some (.ref M), none, none] w = _
      generalize F + 1 = FF
      simp [jX11_deed, bX11_deed_0, bX11_deed_1, bX11_deed_2, bX11_deed_3, bX11_deed_4, bX11_deed_5, bX11_deed_6, bX11_deed_7, bX11_deed_8, i_aaload, i_aload, i_getf, i_iaload, i_iastore, i_icge, i_icle, i_ifeq, i_ifne, i_iinc, i_iload, i_imul, i_ireturn, i_istore, i_isub, i_jmp, i_push, i_putf, msk, lset1, lset2, clr, Value.category, Option.toList, List.cons_append, List.nil_append, List.length_cons, List.length_nil, gf_eq hO, mg_5, mg_4, mg_2, h5, h4, h2, e1]
    · rw [if_neg y]
      have e1 : ¬ nI n ≤ nI s := nI_ge (by omega) (by omega)
      obtain ⟨w1, p1, p2, p3⟩ := clauseR_sp (δ := δ) hg hO h2 h4 h5 h7 hT k2 ss hn hG hW (by omega)
      cases hr : clauseP T n q (δ, s) with
      | inr u => exact absurd hr (cl40 (by omega))
      | inl e =>
        rw [hr] at p2
        obtain ⟨x1, u1, u2, u3, ⟨a1, ha1, u4⟩, u5, u6, u7, u8⟩ := p2
        have x12 : x1 2 = nI n := by rw [u5 2 (by decide) (by decide) (by decide) (by decide)]; exact h2
        obtain ⟨w2, t1, t2, t3⟩ := blanks_sp hg u1 x12 u4 (hT.fr p3 (by unfold SR rg; omega)) ha1 hn
        have j5 : ¬ va_up x1 4 (nI (sb T n a1)) 5 = 0 := by
          show ¬ x1 5 = 0
          rw [u2]
          exact nI_ne0 (by omega) (by omega)
        refine ⟨F, w2, by omega, ?_, ⟨_, t2, u2, u3, ⟨_, ru_n ha1, va_up_self _ _ _⟩, fun j j4 j5 j6 j7 => ?_, u6.fr t3 (fun i h1 h2 => by omega), u7, u8⟩, p3.tr (t3.mn (SR_M M))⟩
        · show jX11_deed g (F + 2) 3 [] [some (.ref M), none, none] w = _
          simp [jX11_deed, bX11_deed_0, bX11_deed_1, bX11_deed_2, bX11_deed_3, bX11_deed_4, bX11_deed_5, bX11_deed_6, bX11_deed_7, bX11_deed_8, i_aaload, i_aload, i_getf, i_iaload, i_iastore, i_icge, i_icle, i_ifeq, i_ifne, i_iinc, i_iload, i_imul, i_ireturn, i_istore, i_isub, i_jmp, i_push, i_putf, msk, lset1, lset2, clr, Value.category, Option.toList, List.cons_append, List.nil_append, List.length_cons, List.length_nil, gf_eq hO, mg_5, mg_4, mg_2, h5, h4, h2, e1, cvk_0 hO p1, cvk_0 u1 t1, gf_eq t2, j5]
        · rw [va_ne j4, u5 j j4 j5 j6 j7, va_ne j7]
  | succ k ih =>
    intro q w x δ a hq hO h2 h4 h5 h7 hT ha hG hW F
    have k2 : sb T n a ≤ n := ru_n ha
    have ss : sb T n (sb T n a) = sb T n a := ru_ru ha
    rw [show clsP T n (k + 1 + 1) q (δ, a) = if n ≤ sb T n a then .inr (δ, sb T n a) else bd (clauseP T n q (δ, sb T n a)) (clsP T n (k + 1) (q + 1)) from rfl]
    generalize sb T n a = s at *
    by_cases y : n ≤ s
    · rw [if_pos y]
      have e1 : nI n ≤ nI s := nI_le y (by omega)
      refine ⟨F + 2 * (k + 1) + 1, w, by omega, ?_, ⟨x, hO, fun j _ _ => rfl, hG⟩, Fr.rf _ _⟩
      rw [show F + 2 * (k + 1 + 1) = F + 2 * (k + 1) + 1 + 1 by omega]
      generalize F + 2 * (k + 1) + 1 = FF
      simp [jX11_deed, bX11_deed_0, bX11_deed_1, bX11_deed_2, bX11_deed_3, bX11_deed_4, bX11_deed_5, bX11_deed_6, bX11_deed_7, bX11_deed_8, i_aaload, i_aload, i_getf, i_iaload, i_iastore, i_icge, i_icle, i_ifeq, i_ifne, i_iinc, i_iload, i_imul, i_ireturn, i_istore, i_isub, i_jmp, i_push, i_putf, msk, lset1, lset2, clr, Value.category, Option.toList, List.cons_append, List.nil_append, List.length_cons, List.length_nil, gf_eq hO, mg_5, mg_4, mg_2, h5, h4, h2, e1]
    · rw [if_neg y]
      have e1 : ¬ nI n ≤ nI s := nI_ge (by omega) (by omega)
      obtain ⟨w1, p1, p2, p3⟩ := clauseR_sp (δ := δ) hg hO h2 h4 h5 h7 hT k2 ss hn hG hW (by omega)
      cases hr : clauseP T n q (δ, s) with
      | inl e =>
        rw [hr] at p2
        obtain ⟨x1, u1, u2, u3, ⟨a1, ha1, u4⟩, u5, u6, u7, u8⟩ := p2
        have x12 : x1 2 = nI n := by rw [u5 2 (by decide) (by decide) (by decide) (by decide)]; exact h2
        obtain ⟨w2, t1, t2, t3⟩ := blanks_sp hg u1 x12 u4 (hT.fr p3 (by unfold SR rg; omega)) ha1 hn
        have j5 : ¬ va_up x1 4 (nI (sb T n a1)) 5 = 0 := by
          show ¬ x1 5 = 0
          rw [u2]
          exact nI_ne0 (by omega) (by omega)
        refine ⟨F + 2 * (k + 1), w2, by omega, ?_, ⟨_, t2, u2, u3, ⟨_, ru_n ha1, va_up_self _ _ _⟩, fun j j4 j5 j6 j7 => ?_, u6.fr t3 (fun i h1 h2 => by omega), u7, u8⟩, p3.tr (t3.mn (SR_M M))⟩
        · rw [show F + 2 * (k + 1 + 1) = F + 2 * (k + 1) + 2 by omega]
          generalize F + 2 * (k + 1) = FF
          simp [jX11_deed, bX11_deed_0, bX11_deed_1, bX11_deed_2, bX11_deed_3, bX11_deed_4, bX11_deed_5, bX11_deed_6, bX11_deed_7, bX11_deed_8, i_aaload, i_aload, i_getf, i_iaload, i_iastore, i_icge, i_icle, i_ifeq, i_ifne, i_iinc, i_iload, i_imul, i_ireturn, i_istore, i_isub, i_jmp, i_push, i_putf, msk, lset1, lset2, clr, Value.category, Option.toList, List.cons_append, List.nil_append, List.length_cons, List.length_nil, gf_eq hO, mg_5, mg_4, mg_2, h5, h4, h2, e1, cvk_0 hO p1, cvk_0 u1 t1, gf_eq t2, j5]
        · rw [va_ne j4, u5 j j4 j5 j6 j7, va_ne j7]
      | inr u =>
        obtain ⟨δ1, a1⟩ := u
        rw [hr] at p2
        have ok := clauseP_ok hr k2 hW
        obtain ⟨u1, u2⟩ := p2
        have u1 : MO w1 M (va_up (va_up x 7 (nI (q + 1))) 4 (nI a1)) := u1
        have T1 := hT.fr p3 (by unfold SR rg; omega)
        obtain ⟨w2, t1, t2, t3⟩ := blanks_sp hg u1 h2 (va_up_self _ _ _) T1 ok.2 hn
        rw [va_up_up] at t2
        obtain ⟨f', w', z1, z2, z3, z4⟩ := ih (q + 1) w2 _ δ1 a1 (by omega) t2 h2 (va_up_self _ _ _) h5 rfl (T1.fr t3 (by omega)) ok.2 (u2.fr t3 fun i h1 h2 => by omega) ok.1 (F + 1)
        refine ⟨f', w', by omega, ?_, RE.cg z3 (fun j j4 j7 => by rw [va_ne j4, va_ne j7]), (p3.tr (t3.mn (SR_M M))).tr z4⟩
        rw [← z2, show F + 2 * (k + 1 + 1) = F + 1 + 2 * (k + 1) + 1 by omega]
        clear z2 ih
        generalize F + 1 + 2 * (k + 1) = FF
        simp [jX11_deed, bX11_deed_0, bX11_deed_1, bX11_deed_2, bX11_deed_3, bX11_deed_4, bX11_deed_5, bX11_deed_6, bX11_deed_7, bX11_deed_8, i_aaload, i_aload, i_getf, i_iaload, i_iastore, i_icge, i_icle, i_ifeq, i_ifne, i_iinc, i_iload, i_imul, i_ireturn, i_istore, i_isub, i_jmp, i_push, i_putf, msk, lset1, lset2, clr, Value.category, Option.toList, List.cons_append, List.nil_append, List.length_cons, List.length_nil, gf_eq hO, mg_5, mg_4, mg_2, h5, h4, h2, e1, cvk_0 hO p1, cvk_0 u1 t1]
/-- the counts are laid to nothing -/
theorem de_2 {g : GE} (hg : FU g) {w : Mem} {M n : Nat} {x : Nat → Int32} {T : Nat → Nat} (hO : MO w M x) (h2 : x 2 = nI n) (h4 : x 4 = 0) (hT : TXT w (M + 1) T) (hn : n ≤ 600) (hP : RP w M) (δ : DE) (F : Nat) :
    ∃ f' w', F ≤ f' ∧ jX11_deed g (F + 1 + 1 * 7) 2 [] [some (.ref M), none, some (.int 0)] w = jX11_deed g f' 3 [] [some (.ref M), none, none] w' ∧ MO w' M (va_up x 4 (nI (sb T n 0))) ∧ RG w' M (clear δ) ((clear δ).1 2) ((clear δ).1 2) ∧ Fr (SR M) w w' := by
  have L := lpC (fun f (z : Lv × Mem) => jX11_deed g f 2 [] z.1 z.2) (fun i z => z.1 = [some (.ref M), none, some (.int (nI i))] ∧ MO z.2 M x ∧ RP z.2 M ∧ (∃ c, IA z.2 (M + 3) 7 c ∧ ∀ j, j < i → c j = 0) ∧ Fr (fun q => q = M + 3) w z.2) 1 7
    (fun i z hi hI f => by
      obtain ⟨e1, e2, e3, ⟨c, e4, e5⟩, e6⟩ := hI
      have e7 : ¬ (7 : Int32) ≤ nI i := nI_ge (b := 7) hi (by decide)
      have s1 := e4.wr hi (by decide) 0
      have u1 := e4.up i 0
      have p1 := e3.wi (A := M + 3) (j := i) (x := 0)
      obtain ⟨w1, hw1⟩ : ∃ q, wi z.2 0 (M + 3) i 0 = q := ⟨_, rfl⟩
      rw [hw1] at s1 u1 p1
      have F1 : Fr (fun q => q = M + 3) z.2 w1 := hw1 ▸ Fr.wi _ _ _ _ rfl
      refine ⟨f, ([some (.ref M), none, some (.int (nI (i + 1)))], w1), Nat.le_refl _, ⟨rfl, F1.at e2 (by omega), p1, ⟨_, u1, fun j hj => ?_⟩, e6.tr F1⟩, ?_⟩
      · by_cases y : j = i
        · subst y; exact va_up_self _ _ _
        · rw [va_ne y]; exact e5 j (by omega)
      · simp [jX11_deed, bX11_deed_0, bX11_deed_1, bX11_deed_2, bX11_deed_3, bX11_deed_4, bX11_deed_5, bX11_deed_6, bX11_deed_7, bX11_deed_8, i_aaload, i_aload, i_getf, i_iaload, i_iastore, i_icge, i_icle, i_ifeq, i_ifne, i_iinc, i_iload, i_imul, i_ireturn, i_istore, i_isub, i_jmp, i_push, i_putf, msk, lset1, lset2, clr, Value.category, Option.toList, List.cons_append, List.nil_append, List.length_cons, List.length_nil, e1, e7, gf_eq e2, mg_10, s1, nI_1])
  obtain ⟨⟨c0, h0⟩, -⟩ := id hP
  obtain ⟨f1, z1, k1, ⟨e1, e2, e3, ⟨c, e4, e5⟩, e6⟩, k3⟩ := L 7 0 ([some (.ref M), none, some (.int (nI 0))], w) (by omega) ⟨rfl, hO, hP, ⟨c0, h0, fun j hj => by omega⟩, Fr.rf _ _⟩ (F + 1)
  obtain ⟨f2, rfl⟩ : ∃ z, f1 = z + 1 := ⟨f1 - 1, by omega⟩
  have T1 := hT.fr e6 (by omega)
  obtain ⟨w2, t1, t2, t3⟩ := blanks_sp hg e2 h2 (a := 0) h4 T1 (Nat.zero_le _) hn
  refine ⟨f2, w2, by omega, ?_, t2, (rg_clear e3 e4 e5 δ).fr t3 (fun i h1 h2 => by omega), (e6.mn fun a h => by unfold SR rg; omega).tr (t3.mn (SR_M M))⟩
  rw [show jX11_deed g (F + 1 + 1 * 7) 2 [] [some (.ref M), none, some (.int 0)] w = jX11_deed g (f2 + 1) 2 [] z1.1 z1.2 from k3]
  have e8 : (7 : Int32) ≤ nI 7 := by decide
  clear k3 L
  simp [jX11_deed, bX11_deed_0, bX11_deed_1, bX11_deed_2, bX11_deed_3, bX11_deed_4, bX11_deed_5, bX11_deed_6, bX11_deed_7, bX11_deed_8, i_aaload, i_aload, i_getf, i_iaload, i_iastore, i_icge, i_icle, i_ifeq, i_ifne, i_iinc, i_iload, i_imul, i_ireturn, i_istore, i_isub, i_jmp, i_push, i_putf, msk, lset1, lset2, clr, Value.category, Option.toList, List.cons_append, List.nil_append, List.length_cons, List.length_nil, e1, e8, cvk_0 e2 t1]
/-- the rows, counted up to the limit -/
def cpF (δ : DE) : Nat → Nat
  | 0 => 1
  | b + 1 => if 20000 < cpF δ b then cpF δ b else cpF δ b * δ.2 10 b
theorem cpF_ok {δ : DE} : ∀ {B}, (∀ b, b < B → 1 ≤ δ.2 10 b ∧ δ.2 10 b ≤ 100) → cpF δ B ≤ 2000000 ∧ (cpF δ B ≤ 20000 → cpF δ B = prd δ B) ∧ (20000 < cpF δ B → 20000 < prd δ B)
  | 0, _ => by simp [cpF, prd]
  | B + 1, h => by
    obtain ⟨i1, i2, i3⟩ := cpF_ok (δ := δ) (B := B) fun b hb => h b (by omega)
    obtain ⟨l1, l2⟩ := h B (by omega)
    unfold cpF prd
    split
    · next y =>
      have := i3 y
      refine ⟨i1, fun q => by omega, fun _ => ?_⟩
      have : prd δ B * 1 ≤ prd δ B * δ.2 10 B := Nat.mul_le_mul_left _ l1
      omega
    · next y =>
      have e := i2 (by omega)
      rw [e] at y ⊢
      have : prd δ B * δ.2 10 B ≤ 20000 * 100 := Nat.mul_le_mul (by omega) l2
      exact ⟨by omega, fun _ => rfl, fun q => q⟩
theorem de_5 {g : GE} {w : Mem} {M : Nat} {x : Nat → Int32} {δ : DE} (hO : MO w M x) (h5 : x 5 = 0) (hG : RG w M δ (δ.1 2) (δ.1 2)) (hQ : PQ δ) (F : Nat) :
    ∃ f' w', F ≤ f' ∧ jX11_deed g (F + 1 + 2 * δ.1 3 + 1) 4 [] [some (.ref M), none, none] w = jX11_deed g f' 7 [] [some (.ref M), none, none] w' ∧ MO w' M x ∧ RG w' M δ (δ.1 2) (δ.1 2) ∧ gi w' 0 (M + 3) 6 = some (nI (cpF δ (δ.1 3))) ∧ Fr (SR M) w w' := by
  obtain ⟨⟨q0, q1, q2, q3, q4, q5⟩, -, q7, -⟩ := id hQ
  have cok : ∀ i, i ≤ δ.1 3 → cpF δ i ≤ 2000000 := fun i hi => (cpF_ok fun b hb => ⟨(q7 b (by omega)).1, (q7 b (by omega)).2.1⟩).1
  obtain ⟨⟨c3, h3, e0, e1, e2, e3, e4, e5⟩, g2, g3, g4, g5, g6, g7, ⟨c8, h8, k8⟩, g9⟩ := hG
  have s1 := arwc h3 6 6 rfl (by decide) (by decide) 1
  have u1 := h3.up 6 1
  obtain ⟨w1, hw1⟩ : ∃ q, wi w 0 (M + 3) 6 1 = q := ⟨_, rfl⟩
  rw [hw1] at s1 u1
  have F1 : Fr (fun q => q = M + 3) w w1 := hw1 ▸ Fr.wi _ _ _ _ rfl
  have a0 : jX11_deed g (F + 1 + 2 * δ.1 3 + 1) 4 [] [some (.ref M), none, none] w = jX11_deed g (F + 1 + 2 * δ.1 3) 5 [] [some (.ref M), none, some (.int 0)] w1 := by
    generalize F + 1 + 2 * δ.1 3 = FF
    simp [jX11_deed, bX11_deed_0, bX11_deed_1, bX11_deed_2, bX11_deed_3, bX11_deed_4, bX11_deed_5, bX11_deed_6, bX11_deed_7, bX11_deed_8, i_aaload, i_aload, i_getf, i_iaload, i_iastore, i_icge, i_icle, i_ifeq, i_ifne, i_iinc, i_iload, i_imul, i_ireturn, i_istore, i_isub, i_jmp, i_push, i_putf, msk, lset1, lset2, clr, Value.category, Option.toList, List.cons_append, List.nil_append, List.length_cons, List.length_nil, gf_eq hO, mg_10, s1]
  have L := lpC (fun f (z : Lv × Mem) => jX11_deed g f 5 [] z.1 z.2) (fun i z => z.1 = [some (.ref M), none, some (.int (nI i))] ∧ MO z.2 M x ∧ (∃ c, IA z.2 (M + 3) 7 c ∧ (∀ j, j < 6 → c j = c3 j) ∧ c 6 = nI (cpF δ i)) ∧ Fr (fun q => q = M + 3) w z.2) 2 (δ.1 3)
    (fun i z hi hI f => by
      obtain ⟨k1, k2, ⟨c, k3, k4, k5⟩, k6⟩ := hI
      have e9 := nI_ge hi (by omega)
      have ci := cok i (by omega)
      have r33 := k3.rc 3 3 rfl (by decide) (by decide)
      rw [k4 3 (by decide), e3] at r33
      have r36 := k3.rc 6 6 rfl (by decide) (by decide)
      rw [k5] at r36
      have B := h8.fr k6 (fun i hi => by omega)
      have r8 := B.1.rd (j := i) (by omega) (by decide)
      have r82 := (B.2 i (by omega)).rc 2 2 rfl (by decide) (by decide)
      rw [(k8 i hi).2.2.1] at r82
      have s2 := arwc k3 6 6 rfl (by decide) (by decide) (nI (cpF δ (i + 1)))
      have u2 := k3.up 6 (nI (cpF δ (i + 1)))
      obtain ⟨w2, hw2⟩ : ∃ q, wi z.2 0 (M + 3) 6 (nI (cpF δ (i + 1))) = q := ⟨_, rfl⟩
      rw [hw2] at s2 u2
      have F2 : Fr (fun q => q = M + 3) z.2 w2 := hw2 ▸ Fr.wi _ _ _ _ rfl
      refine ⟨f, ([some (.ref M), none, some (.int (nI (i + 1)))], w2), Nat.le_refl _, ⟨rfl, F2.at k2 (by omega), ⟨_, u2, fun j hj => by rw [va_ne (by omega)]; exact k4 j hj, va_up_self _ _ _⟩, k6.tr F2⟩, ?_⟩
      have ec : cpF δ (i + 1) = if 20000 < cpF δ i then cpF δ i else cpF δ i * δ.2 10 i := rfl
      clear u2 hw2 B
      by_cases y : 20000 < cpF δ i
      · rw [if_pos y] at ec
        rw [ec] at s2
        have e10 : ¬ nI (cpF δ i) ≤ 20000 := nI_ge (a := 20000) y (by omega)
        clear ec
        generalize cpF δ i = C at *
        simp [jX11_deed, bX11_deed_0, bX11_deed_1, bX11_deed_2, bX11_deed_3, bX11_deed_4, bX11_deed_5, bX11_deed_6, bX11_deed_7, bX11_deed_8, i_aaload, i_aload, i_getf, i_iaload, i_iastore, i_icge, i_icle, i_ifeq, i_ifne, i_iinc, i_iload, i_imul, i_ireturn, i_istore, i_isub, i_jmp, i_push, i_putf, msk, lset1, lset2, clr, Value.category, Option.toList, List.cons_append, List.nil_append, List.length_cons, List.length_nil, k1, gf_eq k2, mg_10, mg_5, r33, e9, h5, r36, e10, s2, nI_1]
      · rw [if_neg y] at ec
        rw [ec] at s2
        have e10 : nI (cpF δ i) ≤ 20000 := nI_le (b := 20000) (by omega) (by decide)
        have em := nI_mul (cpF δ i) (δ.2 10 i)
        clear ec
        generalize cpF δ i * δ.2 10 i = CC at *
        generalize cpF δ i = C at *
        simp [jX11_deed, bX11_deed_0, bX11_deed_1, bX11_deed_2, bX11_deed_3, bX11_deed_4, bX11_deed_5, bX11_deed_6, bX11_deed_7, bX11_deed_8, i_aaload, i_aload, i_getf, i_iaload, i_iastore, i_icge, i_icle, i_ifeq, i_ifne, i_iinc, i_iload, i_imul, i_ireturn, i_istore, i_isub, i_jmp, i_push, i_putf, msk, lset1, lset2, clr, Value.category, Option.toList, List.cons_append, List.nil_append, List.length_cons, List.length_nil, k1, gf_eq k2, mg_10, mg_5, mg_23, r33, e9, h5, r36, e10, r8, va_rf, r82, em, s2, nI_1])
  obtain ⟨f1, z1, k1, ⟨i1, i2, ⟨c, i3, i4, i5⟩, i6⟩, k3⟩ := L (δ.1 3) 0 ([some (.ref M), none, some (.int (nI 0))], w1) (by omega) ⟨rfl, F1.at hO (by omega), ⟨_, u1, fun j hj => va_ne (by omega), va_up_self _ _ _⟩, F1⟩ (F + 1)
  obtain ⟨f2, rfl⟩ : ∃ z, f1 = z + 1 := ⟨f1 - 1, by omega⟩
  have r33 := i3.rc 3 3 rfl (by decide) (by decide)
  rw [i4 3 (by decide), e3] at r33
  have r36 := i3.rc 6 6 rfl (by decide) (by decide)
  rw [i5] at r36
  refine ⟨f2, z1.2, by omega, ?_, i2, ⟨⟨c, i3, ?_, ?_, ?_, ?_, ?_, ?_⟩, g2.fr i6 (by omega), g3.fr i6 (by omega), g4.fr i6 (by omega), g5.fr i6 (by omega), g6.fr i6 (fun i h1 h2 => by omega), g7.fr i6 (fun i h1 h2 => by omega), ⟨c8, h8.fr i6 (fun i hi => by omega), k8⟩, g9.fr i6 (fun i h1 h2 => by omega)⟩, r36, i6.mn fun a h => by unfold SR rg; omega⟩
  · rw [a0, show jX11_deed g (F + 1 + 2 * δ.1 3) 5 [] [some (.ref M), none, some (.int 0)] w1 = jX11_deed g (f2 + 1) 5 [] z1.1 z1.2 from k3]
    clear k3 L a0
    simp [jX11_deed, bX11_deed_0, bX11_deed_1, bX11_deed_2, bX11_deed_3, bX11_deed_4, bX11_deed_5, bX11_deed_6, bX11_deed_7, bX11_deed_8, i_aaload, i_aload, i_getf, i_iaload, i_iastore, i_icge, i_icle, i_ifeq, i_ifne, i_iinc, i_iload, i_imul, i_ireturn, i_istore, i_isub, i_jmp, i_push, i_putf, msk, lset1, lset2, clr, Value.category, Option.toList, List.cons_append, List.nil_append, List.length_cons, List.length_nil, i1, gf_eq i2, mg_10, r33]
  · rw [i4 0 (by decide), e0]
  · rw [i4 1 (by decide), e1]
  · rw [i4 2 (by decide), e2]
  · rw [i4 3 (by decide), e3]
  · rw [i4 4 (by decide), e4]
  · rw [i4 5 (by decide), e5]
/-- a fault: the end -/
theorem de_f {g : GE} {w : Mem} {M n : Nat} {x : Nat → Int32} {e : Nat × Nat} (h : RFt w M x n e) (F : Nat) :
    ∃ w' x', jX11_deed g (F + 4) 4 [] [some (.ref M), none, none] w = some (.inl (some (.int (nI e.1 - 10))), w') ∧ MO w' M x' ∧ x' 3 = nI e.2 ∧ (∀ j, j ≠ 3 → j ≠ 4 → j ≠ 5 → j ≠ 6 → j ≠ 7 → x' j = x j) ∧ RP w' M ∧ Fr (SR M) w w' := by
  obtain ⟨x', hO, h2, h3, -, h5, hP, h7, h8⟩ := h
  obtain ⟨⟨c3, k3⟩, -⟩ := id hP
  have s1 := arwc k3 6 6 rfl (by decide) (by decide) 1
  have u1 := k3.up 6 1
  have p1 := hP.wi (A := M + 3) (j := 6) (x := 1)
  obtain ⟨w1, hw1⟩ : ∃ q, wi w 0 (M + 3) 6 1 = q := ⟨_, rfl⟩
  rw [hw1] at s1 u1 p1
  have F1 : Fr (fun q => q = M + 3) w w1 := hw1 ▸ Fr.wi _ _ _ _ rfl
  have o1 := F1.at hO (by omega)
  have r3 := u1.rc 3 3 rfl (by decide) (by decide)
  have r6 := u1.rc 6 6 rfl (by decide) (by decide)
  rw [va_up_self] at r6
  have j5 : ¬ x' 5 = 0 := by rw [h2]; exact nI_ne0 (by omega) (by omega)
  have st := st_3 o1 (nI e.2)
  have F2 : Fr (fun q => q = M) w1 (mset w1 M (.inr (10, mo M (va_up x' 3 (nI e.2))))) := Fr.ms _ _ rfl
  have o2 : MO (mset w1 M (.inr (10, mo M (va_up x' 3 (nI e.2))))) M (va_up x' 3 (nI e.2)) := ms_at _ _ _
  have j52 : va_up x' 3 (nI e.2) 5 = nI e.1 := h2
  have j53 : ¬ nI e.1 = 0 := nI_ne0 (by omega) (by omega)
  refine ⟨_, _, ?_, o2, va_up_self _ _ _, fun j j3 j4 j5 j6 j7 => by rw [va_ne j3, h5 j j4 j5 j6 j7], p1.fr F2 (fun i h1 h2 => by omega), (F1.mn fun a h => by unfold SR rg; omega).tr (F2.mn (SR_M M))⟩
  generalize mset w1 M (.inr (10, mo M (va_up x' 3 (nI e.2)))) = w2 at *
  by_cases y : va_up c3 6 1 3 ≤ 0
  · simp [jX11_deed, bX11_deed_0, bX11_deed_1, bX11_deed_2, bX11_deed_3, bX11_deed_4, bX11_deed_5, bX11_deed_6, bX11_deed_7, bX11_deed_8, i_aaload, i_aload, i_getf, i_iaload, i_iastore, i_icge, i_icle, i_ifeq, i_ifne, i_iinc, i_iload, i_imul, i_ireturn, i_istore, i_isub, i_jmp, i_push, i_putf, msk, lset1, lset2, clr, Value.category, Option.toList, List.cons_append, List.nil_append, List.length_cons, List.length_nil, gf_eq hO, mg_10, s1, gf_eq o1, r3, y, r6, mg_6, h3, st, gf_eq o2, mg_5, j52, j53]
  · simp [jX11_deed, bX11_deed_0, bX11_deed_1, bX11_deed_2, bX11_deed_3, bX11_deed_4, bX11_deed_5, bX11_deed_6, bX11_deed_7, bX11_deed_8, i_aaload, i_aload, i_getf, i_iaload, i_iastore, i_icge, i_icle, i_ifeq, i_ifne, i_iinc, i_iload, i_imul, i_ireturn, i_istore, i_isub, i_jmp, i_push, i_putf, msk, lset1, lset2, clr, Value.category, Option.toList, List.cons_append, List.nil_append, List.length_cons, List.length_nil, gf_eq hO, mg_10, s1, gf_eq o1, r3, y, mg_5, j5, r6, mg_6, h3, st, gf_eq o2, j52, j53]
