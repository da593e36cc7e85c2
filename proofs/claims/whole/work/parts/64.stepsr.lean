/-! ===== steps of the reference ===== -/
def tI (f : Nat → Nat) : Option Nat → Int32
  | none => -3
  | some j => nI (f j) - 1
def FT9 (w : Mem) (M : Nat) (δ : DE) (P : Nat → Bool) : Prop := ∃ c, AR 3 w (M + 177) 20000 c ∧ ∀ j, j < nR δ → c j = bI (P j)
theorem FT9.fr {S : Nat → Prop} {w w1 : Mem} {M : Nat} {δ : DE} {P : Nat → Bool} (h : FT9 w M δ P) (k : Fr S w w1) (q : ¬ S (M + 177)) : FT9 w1 M δ P := by
  obtain ⟨c, h1, h2⟩ := h
  exact ⟨c, h1.fr k q, h2⟩
theorem FT9.rd {w : Mem} {M : Nat} {δ : DE} {P : Nat → Bool} (h : FT9 w M δ P) (hd : WF δ) {j : Nat} (hj : j < nR δ) : gi w 3 (M + 177) (nI j) = some (bI (P j)) := by
  obtain ⟨c, h1, h2⟩ := h
  have hn := nR_le hd
  rw [h1.rd (by omega) (by decide), h2 j hj]
theorem m1_3 {a : Nat} (ha : a < 2 ^ 30) : ¬ nI a - 1 = -3 := fun h => by
  have h2 := congrArg Int32.toInt h
  rw [nI_m1t ha, show (-3 : Int32).toInt = -3 from by decide] at h2
  omega
theorem m1_q {a b : Nat} (ha : a < 2 ^ 30) (hb : b < 2 ^ 30) : (nI a - 1 = nI b - 1) ↔ a = b := by
  constructor
  · intro h
    have h2 := congrArg Int32.toInt h
    rw [nI_m1t ha, nI_m1t hb] at h2
    omega
  · intro h; rw [h]
theorem risKnown_sp {g : GE} (hg : FU g) {w : Mem} {M t : Nat} {x : Nat → Int32} {δ : DE} {P : Nat → Bool} (hd : WF δ) (hO : MO w M x) (hx : x 27 = nI (nR δ)) (hR : RT w M δ (δ.1 6)) (hF : FT9 w M δ P) (ht : t < 5) : fX11_isKnown g [.ref M, .int (nI t)] w = some (.inl (some (.int (bI (knB δ t P)))), w) := by
  have hn := nR_le hd
  obtain ⟨b1, b2, b3, b4, b5, b6, b7, b8⟩ := id hd.1
  obtain ⟨N, hN⟩ : ∃ N, g.1 = N + 1 := ⟨g.1 - 1, by omega⟩
  have L := lpR (fun f (s : Lv) => jX11_isKnown g f 1 [] s w) (fun k s => ∃ o : Option Nat, s = [some (.ref M), some (.int (nI t)), some (.int (tI (fun j => owR δ j t) o)), some (.int (nI k))] ∧ (o = none → ∀ j, j < k → P j = false) ∧ (∀ f, o = some f → f < k ∧ P f = true ∧ ∀ j, j < k → P j = true → owR δ j t = owR δ f t))
    (fun z => z = some (.inl (some (.int (bI (knB δ t P)))), w)) 3 1 (nR δ)
    (fun k s hk hI f => by
      obtain ⟨o, e1, e2, e3⟩ := hI
      subst e1
      have ek := nI_ge hk (by omega)
      have rf := hF.rd hd hk
      cases hp : P k with
      | false =>
        rw [hp] at rf
        simp only [bI, Bool.false_eq_true, if_false] at rf
        refine Or.inr ⟨f + 1, _, by omega, ⟨o, rfl, fun ho j hj => ?_, fun q hq => ?_⟩, ?_⟩
        · by_cases y : j = k
          · subst y; exact hp
          · exact e2 ho j (by omega)
        · obtain ⟨q1, q2, q3⟩ := e3 q hq
          refine ⟨by omega, q2, fun j hj pj => ?_⟩
          by_cases y : j = k
          · subst y; rw [hp] at pj; cases pj
          · exact q3 j (by omega) pj
        · generalize tI (fun j => owR δ j t) o = Y
          rw [show f + 3 = (f + 1) + 2 from rfl]
          generalize f + 1 = F
          simp [jX11_isKnown, bX11_isKnown_0, bX11_isKnown_1, bX11_isKnown_2, bX11_isKnown_3, i_aload, i_getf, i_iceq, i_icge, i_ifne, i_iinc, i_iload, i_istore, i_jmp, i_push, i_zaload, i_zreturn, msk, lset1, lset2, clr, Value.category, Option.toList, List.cons_append, List.nil_append, List.length_cons, List.length_nil, gf_eq hO, mg_27, mg_48, hx, ek, rf, nI_1]
      | true =>
        rw [hp] at rf
        simp only [bI, if_true] at rf
        have o1 := rgoesBy_sp (g := g) hd hO hR hk ht
        cases o with
        | none =>
          refine Or.inr ⟨f, _, Nat.le_refl _, ⟨some k, rfl, fun ho => (by cases ho), fun q hq => ?_⟩, ?_⟩
          · cases hq
            refine ⟨by omega, hp, fun j hj pj => ?_⟩
            by_cases y : j = k
            · subst y; rfl
            · rw [e2 rfl j (by omega)] at pj; cases pj
          · have e8 : tI (fun j => owR δ j t) (some k) = nI (owR δ k t) - 1 := rfl
            rw [e8]
            generalize nI (owR δ k t) - 1 = A at o1 ⊢
            simp [jX11_isKnown, bX11_isKnown_0, bX11_isKnown_1, bX11_isKnown_2, bX11_isKnown_3, i_aload, i_getf, i_iceq, i_icge, i_ifne, i_iinc, i_iload, i_istore, i_jmp, i_push, i_zaload, i_zreturn, msk, lset1, lset2, clr, Value.category, Option.toList, List.cons_append, List.nil_append, List.length_cons, List.length_nil, gf_eq hO, mg_27, mg_48, hx, ek, rf, cvk_2 hO o1, tI, nI_1]
        | some q =>
          obtain ⟨q1, q2, q3⟩ := e3 q rfl
          have l1 := owR_le hd k t
          have l2 := owR_le hd q t
          have mq := m1_q (a := owR δ k t) (b := owR δ q t) (by omega) (by omega)
          have n3 := m1_3 (a := owR δ q t) (by omega)
          have e8 : tI (fun j => owR δ j t) (some q) = nI (owR δ q t) - 1 := rfl
          by_cases z : owR δ k t = owR δ q t
          · refine Or.inr ⟨f, _, Nat.le_refl _, ⟨some q, rfl, fun ho => (by cases ho), fun q' hq => ?_⟩, ?_⟩
            · cases hq
              refine ⟨by omega, q2, fun j hj pj => ?_⟩
              by_cases y : j = k
              · subst y; exact z
              · exact q3 j (by omega) pj
            · rw [e8]
              rw [z] at o1
              generalize nI (owR δ q t) - 1 = A at o1 n3 ⊢
              simp [jX11_isKnown, bX11_isKnown_0, bX11_isKnown_1, bX11_isKnown_2, bX11_isKnown_3, i_aload, i_getf, i_iceq, i_icge, i_ifne, i_iinc, i_iload, i_istore, i_jmp, i_push, i_zaload, i_zreturn, msk, lset1, lset2, clr, Value.category, Option.toList, List.cons_append, List.nil_append, List.length_cons, List.length_nil, gf_eq hO, mg_27, mg_48, hx, ek, rf, cvk_2 hO o1, n3, nI_1]
          · left
            have e9 : knB δ t P = false := by
              cases hx : knB δ t P with
              | false => rfl
              | true => exact absurd (kn_iff.mp hx k q hk (by omega) hp q2) z
            rw [e9, e8]
            have z' := mt mq.mp z
            generalize nI (owR δ k t) - 1 = A at o1 z'
            generalize nI (owR δ q t) - 1 = C at n3 z' ⊢
            simp [jX11_isKnown, bX11_isKnown_0, bX11_isKnown_1, bX11_isKnown_2, bX11_isKnown_3, i_aload, i_getf, i_iceq, i_icge, i_ifne, i_iinc, i_iload, i_istore, i_jmp, i_push, i_zaload, i_zreturn, msk, lset1, lset2, clr, Value.category, Option.toList, List.cons_append, List.nil_append, List.length_cons, List.length_nil, gf_eq hO, mg_27, mg_48, hx, ek, rf, cvk_2 hO o1, n3, z', bI])
    (fun s hI f => by
      obtain ⟨o, e1, e2, e3⟩ := hI
      subst e1
      have e9 : knB δ t P = true := kn_iff.mpr fun j k hj hk pj pk => by
        cases o with
        | none => rw [e2 rfl j hj] at pj; cases pj
        | some q =>
          obtain ⟨q1, q2, q3⟩ := e3 q rfl
          rw [q3 j hj pj, q3 k hk pk]
      rw [e9]
      generalize tI (fun j => owR δ j t) o = Y
      simp [jX11_isKnown, bX11_isKnown_0, bX11_isKnown_1, bX11_isKnown_2, bX11_isKnown_3, i_aload, i_getf, i_iceq, i_icge, i_ifne, i_iinc, i_iload, i_istore, i_jmp, i_push, i_zaload, i_zreturn, msk, lset1, lset2, clr, Value.category, Option.toList, List.cons_append, List.nil_append, List.length_cons, List.length_nil, gf_eq hO, mg_27, hx, bI])
  have L1 := L (nR δ) 0 [some (.ref M), some (.int (nI t)), some (.int (tI (fun j => owR δ j t) none)), some (.int (nI 0))] (by omega) ⟨none, rfl, fun _ j hj => by omega, fun q hq => by cases hq⟩ N (by omega)
  simp only [nI_0] at L1
  rw [← L1]
  simp [fX11_isKnown, kX11_isKnown, ent, entp, jX11_isKnown, bX11_isKnown_0, bX11_isKnown_1, bX11_isKnown_2, bX11_isKnown_3, i_aload, i_getf, i_iceq, i_icge, i_ifne, i_iinc, i_iload, i_istore, i_jmp, i_push, i_zaload, i_zreturn, msk, lset1, lset2, clr, Value.category, Option.toList, List.cons_append, List.nil_append, List.length_cons, List.length_nil, hN, tI]
theorem rmostLeft_sp {g : GE} (hg : FU g) {w : Mem} {M b : Nat} {x c : Nat → Int32} {δ : DE} {P : Nat → Bool} (hd : WF δ) (hO : MO w M x) (hx : x 27 = nI (nR δ)) (hD : RD w M δ) (hR : RT w M δ (δ.1 6)) (hF : FT9 w M δ P) (hH : IA w (M + 175) 100 c) (hb : b < δ.1 3) :
    ∃ w' c', fX11_mostLeft g [.ref M, .int (nI b)] w = some (.inl (some (.int (nI (mlK δ P b)))), w') ∧ IA w' (M + 175) 100 c' ∧ Fr (fun a => a = M + 175) w w' := by
  have hn := nR_le hd
  have kp : ∀ u, Fr (fun a => a = M + 175) w u → MO u M x ∧ RD u M δ ∧ RT u M δ (δ.1 6) ∧ FT9 u M δ P := fun u hu => ⟨hu.at hO (by omega), hD.fr hu (fun i h1 h2 => by omega), hR.fr hu (fun i h1 h2 => by omega), hF.fr hu (by omega)⟩
  have L4 : ∀ u, Fr (fun a => a = M + 175) w u → IA u (M + 175) 100 (fun d => nI (tlK δ P b d (nR δ))) → ∀ F, 2 * 100 + 1 ≤ F → jX11_mostLeft g F 4 [] [some (.ref M), none, some (.int (nI 0)), some (.int (nI 0))] u = some (.inl (some (.int (nI (mlK δ P b)))), u) := fun u hu hc F hF => by
    obtain ⟨o1, -, -, -⟩ := kp u hu
    have L := lpF (fun f (s : Lv) => jX11_mostLeft g f 4 [] s u) (fun k => [some (.ref M), none, some (.int (nI (mxF (fun d => tlK δ P b d (nR δ)) k))), some (.int (nI k))]) (some (.inl (some (.int (nI (mlK δ P b)))), u)) 2 1 100
      (fun k hk f => by
        refine ⟨f, Nat.le_refl _, ?_⟩
        have l1 := tlK_le δ P b k (nR δ)
        have l2 := mxF_le (fun d => tlK_le δ P b d (nR δ)) k
        have ek : ¬ (100 : Int32) ≤ nI k := nI_ge hk (by decide)
        by_cases z : mxF (fun d => tlK δ P b d (nR δ)) k < tlK δ P b k (nR δ)
        · have m := nI_ge z (by omega)
          simp [jX11_mostLeft, bX11_mostLeft_0, bX11_mostLeft_1, bX11_mostLeft_2, bX11_mostLeft_3, bX11_mostLeft_4, bX11_mostLeft_5, i_aload, i_dup2, i_getf, i_iadd, i_iaload, i_iastore, i_icge, i_icle, i_ifeq, i_iinc, i_iload, i_ireturn, i_istore, i_jmp, i_push, i_zaload, msk, lset1, lset2, clr, Value.category, Option.toList, List.cons_append, List.nil_append, List.length_cons, List.length_nil, ek, gf_eq o1, mg_43, hc.rd hk (by decide), m, z, nI_1, mxF]
        · have m := nI_le (Nat.le_of_not_lt z) (by omega)
          simp [jX11_mostLeft, bX11_mostLeft_0, bX11_mostLeft_1, bX11_mostLeft_2, bX11_mostLeft_3, bX11_mostLeft_4, bX11_mostLeft_5, i_aload, i_dup2, i_getf, i_iadd, i_iaload, i_iastore, i_icge, i_icle, i_ifeq, i_iinc, i_iload, i_ireturn, i_istore, i_jmp, i_push, i_zaload, msk, lset1, lset2, clr, Value.category, Option.toList, List.cons_append, List.nil_append, List.length_cons, List.length_nil, ek, gf_eq o1, mg_43, hc.rd hk (by decide), m, z, nI_1, mxF])
      (fun f => by
        simp [jX11_mostLeft, bX11_mostLeft_0, bX11_mostLeft_1, bX11_mostLeft_2, bX11_mostLeft_3, bX11_mostLeft_4, bX11_mostLeft_5, i_aload, i_dup2, i_getf, i_iadd, i_iaload, i_iastore, i_icge, i_icle, i_ifeq, i_iinc, i_iload, i_ireturn, i_istore, i_jmp, i_push, i_zaload, msk, lset1, lset2, clr, Value.category, Option.toList, List.cons_append, List.nil_append, List.length_cons, List.length_nil, (show (100 : Int32) ≤ nI 100 from by decide), mlK])
    exact L F hF
  have L2 : ∀ u, Fr (fun a => a = M + 175) w u → IA u (M + 175) 100 (fun _ => 0) → ∀ F, 2 * nR δ + 202 ≤ F → ∃ w' c', jX11_mostLeft g F 2 [] [some (.ref M), some (.int (nI b)), some (.int (nI 0)), some (.int (nI 0))] u = some (.inl (some (.int (nI (mlK δ P b)))), w') ∧ IA w' (M + 175) 100 c' ∧ Fr (fun a => a = M + 175) w w' := fun u hu hc F hF => by
    have L := lpR (fun f (s : Lv × Mem) => jX11_mostLeft g f 2 [] s.1 s.2) (fun k s => s.1 = [some (.ref M), some (.int (nI b)), some (.int (nI 0)), some (.int (nI k))] ∧ IA s.2 (M + 175) 100 (fun d => nI (tlK δ P b d k)) ∧ Fr (fun a => a = M + 175) w s.2)
      (fun z => ∃ w' c', z = some (.inl (some (.int (nI (mlK δ P b)))), w') ∧ IA w' (M + 175) 100 c' ∧ Fr (fun a => a = M + 175) w w') 2 202 (nR δ)
      (fun k s hk hI f => by
        obtain ⟨e1, e2, e3⟩ := hI
        obtain ⟨o1, d1, r1, f1⟩ := kp _ e3
        have p1 : fX11_digit g [.ref M, .int (nI (rr δ k)), .int (nI b)] s.2 = some (.inl (some (.int (nI (dgR δ k b)))), s.2) := rdigit_sp hg hd o1 d1 (row := rr δ k) (b := b) (by have := (rr_lt hk).1; have := hd.1.2.2.2.2.2.2.2; omega) hb
        have rw1 := r1.row hd hk
        have ld := dgR_100 hd k hb
        have rf := f1.rd hd hk
        have rd : gi s.2 0 (M + 175) (nI (dgR δ k b)) = some (nI (tlK δ P b (dgR δ k b) k)) := e2.rd ld (by decide)
        cases hp : P k with
        | true =>
          rw [hp] at rf
          simp only [bI, if_true] at rf
          refine Or.inr ⟨f, ([some (.ref M), some (.int (nI b)), some (.int (nI 0)), some (.int (nI (k + 1)))], wi s.2 0 (M + 175) (dgR δ k b) (nI (tlK δ P b (dgR δ k b) k + 1))), Nat.le_refl _, ⟨rfl, (e2.up _ _).cg fun i hi => tlK_s hp i, e3.tr (Fr.wi _ _ _ _ rfl)⟩, ?_⟩
          simp [jX11_mostLeft, bX11_mostLeft_0, bX11_mostLeft_1, bX11_mostLeft_2, bX11_mostLeft_3, bX11_mostLeft_4, bX11_mostLeft_5, i_aload, i_dup2, i_getf, i_iadd, i_iaload, i_iastore, i_icge, i_icle, i_ifeq, i_iinc, i_iload, i_ireturn, i_istore, i_jmp, i_push, i_zaload, msk, lset1, lset2, clr, Value.category, Option.toList, List.cons_append, List.nil_append, List.length_cons, List.length_nil, e1, gf_eq o1, mg_27, mg_28, mg_43, mg_48, hx, nI_ge hk (by omega), rw1, cvk_2 o1 p1, rd, rf, nI_1, e2.wr ld (by decide)]
        | false =>
          rw [hp] at rf
          simp only [bI, Bool.false_eq_true, if_false] at rf
          refine Or.inr ⟨f, ([some (.ref M), some (.int (nI b)), some (.int (nI 0)), some (.int (nI (k + 1)))], wi s.2 0 (M + 175) (dgR δ k b) (nI (tlK δ P b (dgR δ k b) k))), Nat.le_refl _, ⟨rfl, (e2.up _ _).cg fun i hi => ?_, e3.tr (Fr.wi _ _ _ _ rfl)⟩, ?_⟩
          · rw [tlK_n hp]
            unfold va_up
            split
            · next y => rw [y]
            · rfl
          · have z0 : ∀ y : Int32, y + 0 = y := fun y => by simp
            simp [jX11_mostLeft, bX11_mostLeft_0, bX11_mostLeft_1, bX11_mostLeft_2, bX11_mostLeft_3, bX11_mostLeft_4, bX11_mostLeft_5, i_aload, i_dup2, i_getf, i_iadd, i_iaload, i_iastore, i_icge, i_icle, i_ifeq, i_iinc, i_iload, i_ireturn, i_istore, i_jmp, i_push, i_zaload, msk, lset1, lset2, clr, Value.category, Option.toList, List.cons_append, List.nil_append, List.length_cons, List.length_nil, e1, gf_eq o1, mg_27, mg_28, mg_43, mg_48, hx, nI_ge hk (by omega), rw1, cvk_2 o1 p1, rd, rf, z0, nI_1, e2.wr ld (by decide)])
      (fun s hI f => by
        obtain ⟨e1, e2, e3⟩ := hI
        obtain ⟨o1, d1, r1, f1⟩ := kp _ e3
        refine ⟨s.2, _, ?_, e2, e3⟩
        rw [← L4 s.2 e3 e2 (f + 201) (by omega)]
        rw [show f + 202 = (f + 201) + 1 from rfl]
        generalize f + 201 = F
        simp [jX11_mostLeft, bX11_mostLeft_0, bX11_mostLeft_1, bX11_mostLeft_2, bX11_mostLeft_3, bX11_mostLeft_4, bX11_mostLeft_5, i_aload, i_dup2, i_getf, i_iadd, i_iaload, i_iastore, i_icge, i_icle, i_ifeq, i_iinc, i_iload, i_ireturn, i_istore, i_jmp, i_push, i_zaload, msk, lset1, lset2, clr, Value.category, Option.toList, List.cons_append, List.nil_append, List.length_cons, List.length_nil, e1, gf_eq o1, mg_27, hx, nI_0])
    exact L (nR δ) 0 ([some (.ref M), some (.int (nI b)), some (.int (nI 0)), some (.int (nI 0))], u) (by omega) ⟨rfl, hc.cg fun i hi => by simp [tlK, cntF, nI_0], hu⟩ F hF
  obtain ⟨N, hN⟩ : ∃ N, g.1 = N + 1 := ⟨g.1 - 1, by omega⟩
  have L1 := lpR (fun f (s : Lv × Mem) => jX11_mostLeft g (f + 50000) 1 [] s.1 s.2) (fun k s => s.1 = [some (.ref M), some (.int (nI b)), some (.int (nI 0)), some (.int (nI k))] ∧ (∃ c, IA s.2 (M + 175) 100 c ∧ ∀ d, d < k → c d = 0) ∧ Fr (fun a => a = M + 175) w s.2)
    (fun z => ∃ w' c', z = some (.inl (some (.int (nI (mlK δ P b)))), w') ∧ IA w' (M + 175) 100 c' ∧ Fr (fun a => a = M + 175) w w') 1 1 100
    (fun k s hk hI f => by
      obtain ⟨e1, ⟨c1, e2, e4⟩, e3⟩ := hI
      obtain ⟨o1, d1, r1, f1⟩ := kp _ e3
      have ek : ¬ (100 : Int32) ≤ nI k := nI_ge hk (by decide)
      refine Or.inr ⟨f, ([some (.ref M), some (.int (nI b)), some (.int (nI 0)), some (.int (nI (k + 1)))], wi s.2 0 (M + 175) k 0), Nat.le_refl _, ⟨rfl, ⟨_, e2.up k 0, fun d hd' => ?_⟩, e3.tr (Fr.wi _ _ _ _ rfl)⟩, ?_⟩
      · by_cases y : d = k
        · subst y; exact va_up_self _ _ _
        · rw [va_up_ne _ _ y]; exact e4 d (by omega)
      · show jX11_mostLeft g (f + 1 + 50000) 1 [] s.1 s.2 = _
        rw [show f + 1 + 50000 = (f + 50000) + 1 from by omega]
        generalize f + 50000 = F
        simp [jX11_mostLeft, bX11_mostLeft_0, bX11_mostLeft_1, bX11_mostLeft_2, bX11_mostLeft_3, bX11_mostLeft_4, bX11_mostLeft_5, i_aload, i_dup2, i_getf, i_iadd, i_iaload, i_iastore, i_icge, i_icle, i_ifeq, i_iinc, i_iload, i_ireturn, i_istore, i_jmp, i_push, i_zaload, msk, lset1, lset2, clr, Value.category, Option.toList, List.cons_append, List.nil_append, List.length_cons, List.length_nil, e1, ek, gf_eq o1, mg_43, e2.wr hk (by decide), nI_1])
    (fun s hI f => by
      obtain ⟨e1, ⟨c1, e2, e4⟩, e3⟩ := hI
      obtain ⟨w', c', q1, q2, q3⟩ := L2 s.2 e3 (e2.cg fun d hd' => e4 d hd') (f + 50000) (by omega)
      refine ⟨w', c', ?_, q2, q3⟩
      rw [← q1]
      show jX11_mostLeft g (f + 1 + 50000) 1 [] s.1 s.2 = _
      rw [show f + 1 + 50000 = (f + 50000) + 1 from by omega]
      generalize f + 50000 = F
      simp [jX11_mostLeft, bX11_mostLeft_0, bX11_mostLeft_1, bX11_mostLeft_2, bX11_mostLeft_3, bX11_mostLeft_4, bX11_mostLeft_5, i_aload, i_dup2, i_getf, i_iadd, i_iaload, i_iastore, i_icge, i_icle, i_ifeq, i_iinc, i_iload, i_ireturn, i_istore, i_jmp, i_push, i_zaload, msk, lset1, lset2, clr, Value.category, Option.toList, List.cons_append, List.nil_append, List.length_cons, List.length_nil, e1, (show (100 : Int32) ≤ nI 100 from by decide), nI_0])
  obtain ⟨N3, hN3⟩ : ∃ N3, N = N3 + 50000 := ⟨N - 50000, by omega⟩
  obtain ⟨w', c', q1, q2, q3⟩ := L1 100 0 ([some (.ref M), some (.int (nI b)), some (.int (nI 0)), some (.int (nI 0))], w) (by omega) ⟨rfl, ⟨c, hH, fun d hd' => by omega⟩, Fr.rf _ _⟩ N3 (by omega)
  refine ⟨w', c', ?_, q2, q3⟩
  rw [← q1]
  rw [hN3] at hN
  generalize N3 + 50000 = F at hN ⊢
  simp [fX11_mostLeft, kX11_mostLeft, ent, entp, jX11_mostLeft, bX11_mostLeft_0, bX11_mostLeft_1, bX11_mostLeft_2, bX11_mostLeft_3, bX11_mostLeft_4, bX11_mostLeft_5, i_aload, i_dup2, i_getf, i_iadd, i_iaload, i_iastore, i_icge, i_icle, i_ifeq, i_iinc, i_iload, i_ireturn, i_istore, i_jmp, i_push, i_zaload, msk, lset1, lset2, clr, Value.category, Option.toList, List.cons_append, List.nil_append, List.length_cons, List.length_nil, hN, nI_0]
theorem sh_b : ∀ m, m < 256 → ∀ b, b < 8 → ((nI m >>> (nI b &&& 31) &&& 1 = 1) ↔ m.testBit b = true) := by decide +kernel
theorem sh_o : ∀ m, m < 256 → ∀ b, b < 8 → nI m ||| ((1 : Int32) <<< (nI b &&& 31)) = nI (m ||| 2 ^ b) := by decide +kernel
/-- the bits of the blots cleaned -/
def SB (m : Nat) (S : Nat → Bool) : Prop := m < 256 ∧ ∀ b, b < 8 → m.testBit b = S b
theorem SB.up {m b : Nat} {S : Nat → Bool} (h : SB m S) (hb : b < 8) : SB (m ||| 2 ^ b) (fun c => S c || c == b) := by
  refine ⟨Nat.or_lt_two_pow (n := 8) h.1 (by have := wb_lt2 (show b < 8 from hb); omega), fun c hc => ?_⟩
  rw [Nat.testBit_or, h.2 c hc, Nat.testBit_two_pow]
  congr 1
  rw [Bool.eq_iff_iff, decide_eq_true_eq, beq_iff_eq]
  exact ⟨fun q => q.symm, fun q => q.symm⟩
theorem PK_up {δ : DE} {i j b : Nat} {S : Nat → Bool} (hb : b < δ.1 3) : PK δ i (fun c => S c || c == b) j = (PK δ i S j && (dgR δ j b == dgR δ i b)) := by
  unfold PK
  rw [Bool.eq_iff_iff, Bool.and_eq_true, Bool.not_eq_true', Bool.not_eq_true', beq_iff_eq]
  constructor
  · intro h
    have h1 : ∀ c, c < δ.1 3 → (S c || c == b) = true → dgR δ j c = dgR δ i c := fun c hc hs => by
      by_cases z : dgR δ j c = dgR δ i c
      · exact z
      · have : exF (fun c => (S c || c == b) && (dgR δ j c != dgR δ i c)) (δ.1 3) = true := exF_iff.mpr ⟨c, hc, by rw [hs]; simp [z]⟩
        rw [this] at h
        cases h
    refine ⟨exF_none fun c hc => ?_, h1 b hb (by simp)⟩
    cases hs : S c with
    | false => rfl
    | true => simp [h1 c hc (by simp [hs])]
  · rintro ⟨h1, h2⟩
    refine exF_none fun c hc => ?_
    by_cases z : c = b
    · subst z; simp [h2]
    · have h3 : (S c && (dgR δ j c != dgR δ i c)) = false := by
        cases hx : (S c && (dgR δ j c != dgR δ i c)) with
        | false => rfl
        | true =>
          have : exF (fun b => S b && (dgR δ j b != dgR δ i b)) (δ.1 3) = true := exF_iff.mpr ⟨c, hc, hx⟩
          rw [this] at h1
          cases h1
      have z' : (c == b) = false := by simp [z]
      show ((S c || c == b) && (dgR δ j c != dgR δ i c)) = false
      rw [z', Bool.or_false]
      exact h3
theorem steps_r {g : GE} {w : Mem} {M fed kept : Nat} {fp : Int32} {tp : Nat → Int32} {rf : Nat → Nat} {δ : DE} {τ : TE} {im : Nat → TE} {x : Nat → Int32} (hg : FU g) (hd : WF δ) (hI : RI w M fed kept fp tp rf δ τ im x) (x0 x1 x2 : Int32) : RQo w M fed kept fp tp rf δ τ im (fX11_steps g [.ref M, .int x0, .int x1, .int x2] w) (stepsO δ x0 x1 x2) := by
  obtain ⟨w0, hw0, I0, F0⟩ := hI.t0
  obtain ⟨b1, b2, b3, b4, b5, b6, b7, b8⟩ := id hd.1
  obtain ⟨hO, hXO, hRK, hRZ, hrf⟩ := id I0
  obtain ⟨x1', x3', x27, x32, x33, x34⟩ := id hXO
  obtain ⟨hTp, hD, hR, hCp, hHb, hKp, hRP⟩ := id hRK
  have hn := nR_le hd
  have x0' : (va_up x 0 0) 0 = 0 := va_up_self _ _ _
  obtain ⟨N, hN⟩ : ∃ N, g.1 = N + 4 := ⟨g.1 - 4, by omega⟩
  unfold stepsO
  have q0 := isReading_sp hg hO x27 hn x0
  cases h0 : rng x0 (nR δ) with
  | none =>
    rw [h0] at q0
    simp only [bI, Option.isSome, Bool.false_eq_true, if_false] at q0
    obtain ⟨w1, p1, p2, p3⟩ := bad1_sp hg I0 x0' (c := 1) (r := 0) (C := 1) (R := 0) rfl rfl (by decide) (by decide)
    refine RQo.no (v := .int 0) F0 p2 ?_ p3
    simp [fX11_steps, kX11_steps, ent, entp, jX11_steps, bX11_steps_0, bX11_steps_1, bX11_steps_2, bX11_steps_3, bX11_steps_4, bX11_steps_5, bX11_steps_6, bX11_steps_7, bX11_steps_8, bX11_steps_9, bX11_steps_10, bX11_steps_11, bX11_steps_12, bX11_steps_13, i_aload, i_getf, i_iaload, i_iand, i_iastore, i_iceq, i_icge, i_icgt, i_iclt, i_icne, i_ifeq, i_ifne, i_iinc, i_iload, i_ior, i_ireturn, i_ishl, i_ishr, i_istore, i_isub, i_jmp, i_push, i_putf, i_zaload, i_zastore, msk, lset1, lset2, clr, Value.category, Option.toList, List.cons_append, List.nil_append, List.length_cons, List.length_nil, hN, st_0 hI.1, hw0, cvk_1 hO q0, cvk_3 hO p1]
  | some n0 =>
    rw [h0] at q0
    simp only [bI, Option.isSome, if_true] at q0
    obtain ⟨l0, e0⟩ := rng_some (by omega) h0
    subst e0
    have q1 := isThing_sp hg hO hD b2 x1
    cases h1 : rng x1 (δ.1 1) with
    | none =>
      rw [h1] at q1
      simp only [bI, Option.isSome, Bool.false_eq_true, if_false] at q1
      obtain ⟨w1, p1, p2, p3⟩ := bad1_sp hg I0 x0' (c := 1) (r := 0) (C := 1) (R := 0) rfl rfl (by decide) (by decide)
      refine RQo.no (v := .int 0) F0 p2 ?_ p3
      simp [fX11_steps, kX11_steps, ent, entp, jX11_steps, bX11_steps_0, bX11_steps_1, bX11_steps_2, bX11_steps_3, bX11_steps_4, bX11_steps_5, bX11_steps_6, bX11_steps_7, bX11_steps_8, bX11_steps_9, bX11_steps_10, bX11_steps_11, bX11_steps_12, bX11_steps_13, i_aload, i_getf, i_iaload, i_iand, i_iastore, i_iceq, i_icge, i_icgt, i_iclt, i_icne, i_ifeq, i_ifne, i_iinc, i_iload, i_ior, i_ireturn, i_ishl, i_ishr, i_istore, i_isub, i_jmp, i_push, i_putf, i_zaload, i_zastore, msk, lset1, lset2, clr, Value.category, Option.toList, List.cons_append, List.nil_append, List.length_cons, List.length_nil, hN, st_0 hI.1, hw0, cvk_1 hO q0, cvk_1 hO q1, cvk_3 hO p1]
    | some n1 =>
      rw [h1] at q1
      simp only [bI, Option.isSome, if_true] at q1
      obtain ⟨l1, e1⟩ := rng_some (by omega) h1
      subst e1
      have q2 := in_sp (w := w0) hg x2 (n := 8 + 1) (y := 8) (by decide) (by decide)
      cases h2 : rng x2 (8 + 1) with
      | none =>
        rw [h2] at q2
        simp only [bI, Option.isSome, Bool.false_eq_true, if_false] at q2
        obtain ⟨w1, p1, p2, p3⟩ := bad1_sp hg I0 x0' (c := 2) (r := 2) (C := 2) (R := 2) rfl rfl (by decide) (by decide)
        refine RQo.no (v := .int 0) F0 p2 ?_ p3
        simp [fX11_steps, kX11_steps, ent, entp, jX11_steps, bX11_steps_0, bX11_steps_1, bX11_steps_2, bX11_steps_3, bX11_steps_4, bX11_steps_5, bX11_steps_6, bX11_steps_7, bX11_steps_8, bX11_steps_9, bX11_steps_10, bX11_steps_11, bX11_steps_12, bX11_steps_13, i_aload, i_getf, i_iaload, i_iand, i_iastore, i_iceq, i_icge, i_icgt, i_iclt, i_icne, i_ifeq, i_ifne, i_iinc, i_iload, i_ior, i_ireturn, i_ishl, i_ishr, i_istore, i_isub, i_jmp, i_push, i_putf, i_zaload, i_zastore, msk, lset1, lset2, clr, Value.category, Option.toList, List.cons_append, List.nil_append, List.length_cons, List.length_nil, hN, st_0 hI.1, hw0, cvk_1 hO q0, cvk_1 hO q1, cvk_3 hO (bad0_sp hg hO x0' 1 0), csk_3 q2, cvk_3 hO p1]
      | some n2 =>
        rw [h2] at q2
        simp only [bI, Option.isSome, if_true] at q2
        obtain ⟨l2, e2⟩ := rng_some (by omega) h2
        subst e2
        dsimp only
        obtain ⟨hS0, ⟨ch, hH⟩, hK, ⟨cf, hFt⟩, ⟨cs, hSt⟩⟩ := id hRZ
        have kp : ∀ u, Fr (fun a => a = M + 175 ∨ a = M + 177 ∨ a = M + 178) w0 u → MO u M (va_up x 0 0) ∧ RD u M δ ∧ RT u M δ (δ.1 6) := fun u hu => ⟨hu.at hO (by omega), hD.fr hu (fun i h1 h2 => by omega), hR.fr hu (fun i h1 h2 => by omega)⟩
        -- which fit then
        have L10 : ∀ (u : Mem) (P : Nat → Bool) (k m b : Nat), b < δ.1 3 → FT9 u M δ P → Fr (fun a => a = M + 175 ∨ a = M + 177 ∨ a = M + 178) w0 u → ∀ (l : Option Value) f, ∃ f' u', f ≤ f' ∧ FT9 u' M δ (fun j => P j && (dgR δ j b == dgR δ n0 b)) ∧ Fr (fun a => a = M + 177) u u' ∧ jX11_steps g (f + 1 + 3 * nR δ) 10 [] [some (.ref M), some (.int (nI n0)), some (.int (nI n1)), some (.int (nI n2)), some (.int (nI k)), some (.int (nI m)), some (.int (nI b)), none, some (.int (nI (dgR δ n0 b))), some (.int 0)] u = jX11_steps g f' 6 [] [some (.ref M), some (.int (nI n0)), some (.int (nI n1)), some (.int (nI n2)), some (.int (nI k)), some (.int (nI m)), none, none, none, none] u' := fun u P k m b hb hu hFu l f => by
          obtain ⟨c0, hc0, hk0⟩ := hu
          have L := lpC (fun f (s : Lv × Mem) => jX11_steps g f 10 [] s.1 s.2) (fun j s => s.1 = [some (.ref M), some (.int (nI n0)), some (.int (nI n1)), some (.int (nI n2)), some (.int (nI k)), some (.int (nI m)), some (.int (nI b)), none, some (.int (nI (dgR δ n0 b))), some (.int (nI j))] ∧ (∃ c, AR 3 s.2 (M + 177) 20000 c ∧ ∀ q, q < nR δ → c q = if q < j then bI (P q && (dgR δ q b == dgR δ n0 b)) else bI (P q)) ∧ Fr (fun a => a = M + 177) u s.2) 3 (nR δ)
            (fun j s hj hI f => by
              obtain ⟨e1, ⟨c1, e2, e4⟩, e3⟩ := hI
              obtain ⟨o1, d1, r1⟩ := kp _ (hFu.tr (e3.mn fun a h => Or.inr (Or.inl h)))
              have p1 : fX11_digit g [.ref M, .int (nI (rr δ j)), .int (nI b)] s.2 = some (.inl (some (.int (nI (dgR δ j b)))), s.2) := rdigit_sp hg hd o1 d1 (row := rr δ j) (b := b) (by have := (rr_lt hj).1; omega) hb
              have rw1 := r1.row hd hj
              have rf : gi s.2 3 (M + 177) (nI j) = some (bI (P j)) := by
                rw [e2.rd (by omega) (by decide), e4 j hj, if_neg (by omega)]
              have l1 := dgR_100 hd j hb
              have l2 := dgR_100 hd n0 hb
              have mq := nI_eq (a := dgR δ j b) (b := dgR δ n0 b) (by omega) (by omega)
              have n1' : vp_nar .boolean 1 = 1 := by decide
              have n0' : vp_nar .boolean 0 = 0 := by decide
              have hz : ∀ v : Int32, v = bI (P j && (dgR δ j b == dgR δ n0 b)) → (∃ c, AR 3 (wi s.2 3 (M + 177) j v) (M + 177) 20000 c ∧ ∀ q, q < nR δ → c q = if q < j + 1 then bI (P q && (dgR δ q b == dgR δ n0 b)) else bI (P q)) := fun v hv => by
                refine ⟨_, e2.up j v, fun q hq => ?_⟩
                by_cases y : q = j
                · subst y; rw [va_up_self, if_pos (by omega), hv]
                · rw [va_up_ne _ _ y, e4 q hq]
                  by_cases y2 : q < j
                  · rw [if_pos y2, if_pos (by omega)]
                  · rw [if_neg y2, if_neg (by omega)]
              have wr := fun v => e2.wr (j := j) (by omega) (by decide) v
              cases hp : P j with
              | false =>
                rw [hp] at rf
                simp only [bI, Bool.false_eq_true, if_false] at rf
                refine ⟨f, ([some (.ref M), some (.int (nI n0)), some (.int (nI n1)), some (.int (nI n2)), some (.int (nI k)), some (.int (nI m)), some (.int (nI b)), none, some (.int (nI (dgR δ n0 b))), some (.int (nI (j + 1)))], wi s.2 3 (M + 177) j 0), Nat.le_refl _, ⟨rfl, hz 0 (by rw [hp]; rfl), e3.tr (Fr.wi _ _ _ _ rfl)⟩, ?_⟩
                simp [jX11_steps, bX11_steps_0, bX11_steps_1, bX11_steps_2, bX11_steps_3, bX11_steps_4, bX11_steps_5, bX11_steps_6, bX11_steps_7, bX11_steps_8, bX11_steps_9, bX11_steps_10, bX11_steps_11, bX11_steps_12, bX11_steps_13, i_aload, i_getf, i_iaload, i_iand, i_iastore, i_iceq, i_icge, i_icgt, i_iclt, i_icne, i_ifeq, i_ifne, i_iinc, i_iload, i_ior, i_ireturn, i_ishl, i_ishr, i_istore, i_isub, i_jmp, i_push, i_putf, i_zaload, i_zastore, msk, lset1, lset2, clr, Value.category, Option.toList, List.cons_append, List.nil_append, List.length_cons, List.length_nil, e1, gf_eq o1, mg_27, mg_48, x27, nI_ge hj (by omega), rf, n0', wr, nI_1]
              | true =>
                rw [hp] at rf
                simp only [bI, if_true] at rf
                by_cases z : dgR δ j b = dgR δ n0 b
                · refine ⟨f + 1, ([some (.ref M), some (.int (nI n0)), some (.int (nI n1)), some (.int (nI n2)), some (.int (nI k)), some (.int (nI m)), some (.int (nI b)), none, some (.int (nI (dgR δ n0 b))), some (.int (nI (j + 1)))], wi s.2 3 (M + 177) j 1), by omega, ⟨rfl, hz 1 (by rw [hp, z]; simp [bI]), e3.tr (Fr.wi _ _ _ _ rfl)⟩, ?_⟩
                  rw [z] at p1
                  rw [show f + 3 = (f + 1) + 2 from rfl]
                  generalize f + 1 = F
                  simp [jX11_steps, bX11_steps_0, bX11_steps_1, bX11_steps_2, bX11_steps_3, bX11_steps_4, bX11_steps_5, bX11_steps_6, bX11_steps_7, bX11_steps_8, bX11_steps_9, bX11_steps_10, bX11_steps_11, bX11_steps_12, bX11_steps_13, i_aload, i_getf, i_iaload, i_iand, i_iastore, i_iceq, i_icge, i_icgt, i_iclt, i_icne, i_ifeq, i_ifne, i_iinc, i_iload, i_ior, i_ireturn, i_ishl, i_ishr, i_istore, i_isub, i_jmp, i_push, i_putf, i_zaload, i_zastore, msk, lset1, lset2, clr, Value.category, Option.toList, List.cons_append, List.nil_append, List.length_cons, List.length_nil, e1, gf_eq o1, mg_27, mg_28, mg_48, x27, nI_ge hj (by omega), rf, rw1, cvk_2 o1 p1, n1', wr, nI_1]
                · refine ⟨f, ([some (.ref M), some (.int (nI n0)), some (.int (nI n1)), some (.int (nI n2)), some (.int (nI k)), some (.int (nI m)), some (.int (nI b)), none, some (.int (nI (dgR δ n0 b))), some (.int (nI (j + 1)))], wi s.2 3 (M + 177) j 0), Nat.le_refl _, ⟨rfl, hz 0 (by simp [bI, z]), e3.tr (Fr.wi _ _ _ _ rfl)⟩, ?_⟩
                  simp [jX11_steps, bX11_steps_0, bX11_steps_1, bX11_steps_2, bX11_steps_3, bX11_steps_4, bX11_steps_5, bX11_steps_6, bX11_steps_7, bX11_steps_8, bX11_steps_9, bX11_steps_10, bX11_steps_11, bX11_steps_12, bX11_steps_13, i_aload, i_getf, i_iaload, i_iand, i_iastore, i_iceq, i_icge, i_icgt, i_iclt, i_icne, i_ifeq, i_ifne, i_iinc, i_iload, i_ior, i_ireturn, i_ishl, i_ishr, i_istore, i_isub, i_jmp, i_push, i_putf, i_zaload, i_zastore, msk, lset1, lset2, clr, Value.category, Option.toList, List.cons_append, List.nil_append, List.length_cons, List.length_nil, e1, gf_eq o1, mg_27, mg_28, mg_48, x27, nI_ge hj (by omega), rf, rw1, cvk_2 o1 p1, mt mq.mp z, n0', wr, nI_1])
          obtain ⟨f1, s1, g1, ⟨e1, ⟨c1, e2, e4⟩, e3⟩, g3⟩ := L (nR δ) 0 ([some (.ref M), some (.int (nI n0)), some (.int (nI n1)), some (.int (nI n2)), some (.int (nI k)), some (.int (nI m)), some (.int (nI b)), none, some (.int (nI (dgR δ n0 b))), some (.int (nI 0))], u) (by omega) ⟨rfl, ⟨c0, hc0, fun q hq => by rw [if_neg (by omega)]; exact hk0 q hq⟩, Fr.rf _ _⟩ (f + 1)
          obtain ⟨f2, rfl⟩ : ∃ z, f1 = z + 1 := ⟨f1 - 1, by omega⟩
          obtain ⟨o1, d1, r1⟩ := kp _ (hFu.tr (e3.mn fun a h => Or.inr (Or.inl h)))
          refine ⟨f2, s1.2, by omega, ⟨c1, e2, fun q hq => by rw [e4 q hq, if_pos hq]⟩, e3, ?_⟩
          simp only [nI_0] at g3
          rw [g3]
          simp [jX11_steps, bX11_steps_0, bX11_steps_1, bX11_steps_2, bX11_steps_3, bX11_steps_4, bX11_steps_5, bX11_steps_6, bX11_steps_7, bX11_steps_8, bX11_steps_9, bX11_steps_10, bX11_steps_11, bX11_steps_12, bX11_steps_13, i_aload, i_getf, i_iaload, i_iand, i_iastore, i_iceq, i_icge, i_icgt, i_iclt, i_icne, i_ifeq, i_ifne, i_iinc, i_iload, i_ior, i_ireturn, i_ishl, i_ishr, i_istore, i_isub, i_jmp, i_push, i_putf, i_zaload, i_zastore, msk, lset1, lset2, clr, Value.category, Option.toList, List.cons_append, List.nil_append, List.length_cons, List.length_nil, e1, gf_eq o1, mg_27, x27]
        -- which blot is next
        have L7 : ∀ (u : Mem) (S P : Nat → Bool) (k m : Nat), SB m S → FT9 u M δ P → (∃ c, IA u (M + 175) 100 c) → Fr (fun a => a = M + 175 ∨ a = M + 177 ∨ a = M + 178) w0 u → ∀ f, ∃ f' u', f ≤ f' ∧ (∃ c, IA u' (M + 175) 100 c) ∧ Fr (fun a => a = M + 175) u u' ∧ jX11_steps g (f + 1 + 3 * δ.1 3) 7 [] [some (.ref M), some (.int (nI n0)), some (.int (nI n1)), some (.int (nI n2)), some (.int (nI k)), some (.int (nI m)), some (.int (-1)), some (.int 0), some (.int 0), none] u = jX11_steps g (f' + 1) 7 [] [some (.ref M), some (.int (nI n0)), some (.int (nI n1)), some (.int (nI n2)), some (.int (nI k)), some (.int (nI m)), some (.int (oI (amnP (fun b => !S b) (fun b => mlK δ P b) (δ.1 3)))), some (.int (zV (fun b => mlK δ P b) (amnP (fun b => !S b) (fun b => mlK δ P b) (δ.1 3)))), some (.int (nI (δ.1 3))), none] u' := fun u S P k m hS hP hH hFu f => by
          have L := lpC (fun f (s : Lv × Mem) => jX11_steps g f 7 [] s.1 s.2) (fun b s => s.1 = [some (.ref M), some (.int (nI n0)), some (.int (nI n1)), some (.int (nI n2)), some (.int (nI k)), some (.int (nI m)), some (.int (oI (amnP (fun b => !S b) (fun b => mlK δ P b) b))), some (.int (zV (fun b => mlK δ P b) (amnP (fun b => !S b) (fun b => mlK δ P b) b))), some (.int (nI b)), none] ∧ (∃ c, IA s.2 (M + 175) 100 c) ∧ Fr (fun a => a = M + 175) u s.2) 3 (δ.1 3)
            (fun b s hb hI f => by
              obtain ⟨e1, ⟨c1, e2⟩, e3⟩ := hI
              obtain ⟨o1, d1, r1⟩ := kp _ (hFu.tr (e3.mn fun a h => Or.inl h))
              have ek := nI_ge hb (by omega)
              have c3 := d1.1.rc 3 3 rfl (by decide) (by decide)
              have mb := sh_b m hS.1 b (by omega)
              rw [hS.2 b (by omega)] at mb
              cases hs : S b with
              | true =>
                have mb1 := mb.mpr hs
                refine ⟨f + 1, ([some (.ref M), some (.int (nI n0)), some (.int (nI n1)), some (.int (nI n2)), some (.int (nI k)), some (.int (nI m)), some (.int (oI (amnP (fun b => !S b) (fun b => mlK δ P b) (b + 1)))), some (.int (zV (fun b => mlK δ P b) (amnP (fun b => !S b) (fun b => mlK δ P b) (b + 1)))), some (.int (nI (b + 1))), none], s.2), by omega, ⟨rfl, ⟨c1, e2⟩, e3⟩, ?_⟩
                have e9 : amnP (fun b => !S b) (fun b => mlK δ P b) (b + 1) = amnP (fun b => !S b) (fun b => mlK δ P b) b := by
                  show (if (!S b) = true then _ else _) = _
                  rw [if_neg (by rw [hs]; decide)]
                rw [e9]
                generalize amnP (fun b => !S b) (fun b => mlK δ P b) b = X at e1 ⊢
                rw [show f + 3 = (f + 1) + 2 from rfl]
                generalize f + 1 = F
                simp [jX11_steps, bX11_steps_0, bX11_steps_1, bX11_steps_2, bX11_steps_3, bX11_steps_4, bX11_steps_5, bX11_steps_6, bX11_steps_7, bX11_steps_8, bX11_steps_9, bX11_steps_10, bX11_steps_11, bX11_steps_12, bX11_steps_13, i_aload, i_getf, i_iaload, i_iand, i_iastore, i_iceq, i_icge, i_icgt, i_iclt, i_icne, i_ifeq, i_ifne, i_iinc, i_iload, i_ior, i_ireturn, i_ishl, i_ishr, i_istore, i_isub, i_jmp, i_push, i_putf, i_zaload, i_zastore, msk, lset1, lset2, clr, Value.category, Option.toList, List.cons_append, List.nil_append, List.length_cons, List.length_nil, e1, gf_eq o1, mg_11, c3, ek, mb1, nI_1]
              | false =>
                have mb1 := mt mb.mp (by rw [hs]; exact Bool.false_ne_true)
                obtain ⟨w2, c2, q1, q2, q3⟩ := rmostLeft_sp hg hd o1 x27 d1 r1 (hP.fr e3 (by omega)) e2 hb
                have lk := mlK_le hd P b
                cases hA : amnP (fun b => !S b) (fun b => mlK δ P b) b with
                | none =>
                  refine ⟨f, ([some (.ref M), some (.int (nI n0)), some (.int (nI n1)), some (.int (nI n2)), some (.int (nI k)), some (.int (nI m)), some (.int (nI b)), some (.int (nI (mlK δ P b))), some (.int (nI (b + 1))), none], w2), Nat.le_refl _, ⟨by simp [amnP, hs, hA, oI, zV], ⟨c2, q2⟩, e3.tr q3⟩, ?_⟩
                  simp [jX11_steps, bX11_steps_0, bX11_steps_1, bX11_steps_2, bX11_steps_3, bX11_steps_4, bX11_steps_5, bX11_steps_6, bX11_steps_7, bX11_steps_8, bX11_steps_9, bX11_steps_10, bX11_steps_11, bX11_steps_12, bX11_steps_13, i_aload, i_getf, i_iaload, i_iand, i_iastore, i_iceq, i_icge, i_icgt, i_iclt, i_icne, i_ifeq, i_ifne, i_iinc, i_iload, i_ior, i_ireturn, i_ishl, i_ishr, i_istore, i_isub, i_jmp, i_push, i_putf, i_zaload, i_zastore, msk, lset1, lset2, clr, Value.category, Option.toList, List.cons_append, List.nil_append, List.length_cons, List.length_nil, e1, gf_eq o1, mg_11, c3, ek, mb1, cvk_1 o1 q1, hA, oI, zV, nI_1]
                | some j =>
                  have lj := mlK_le hd P j
                  have ljk := amnP_lt hA
                  have nn := nI_nn (y := j) (by omega)
                  by_cases z : mlK δ P b < mlK δ P j
                  · refine ⟨f, ([some (.ref M), some (.int (nI n0)), some (.int (nI n1)), some (.int (nI n2)), some (.int (nI k)), some (.int (nI m)), some (.int (nI b)), some (.int (nI (mlK δ P b))), some (.int (nI (b + 1))), none], w2), Nat.le_refl _, ⟨by simp [amnP, hs, hA, oI, zV, z], ⟨c2, q2⟩, e3.tr q3⟩, ?_⟩
                    simp [jX11_steps, bX11_steps_0, bX11_steps_1, bX11_steps_2, bX11_steps_3, bX11_steps_4, bX11_steps_5, bX11_steps_6, bX11_steps_7, bX11_steps_8, bX11_steps_9, bX11_steps_10, bX11_steps_11, bX11_steps_12, bX11_steps_13, i_aload, i_getf, i_iaload, i_iand, i_iastore, i_iceq, i_icge, i_icgt, i_iclt, i_icne, i_ifeq, i_ifne, i_iinc, i_iload, i_ior, i_ireturn, i_ishl, i_ishr, i_istore, i_isub, i_jmp, i_push, i_putf, i_zaload, i_zastore, msk, lset1, lset2, clr, Value.category, Option.toList, List.cons_append, List.nil_append, List.length_cons, List.length_nil, e1, gf_eq o1, mg_11, c3, ek, mb1, cvk_1 o1 q1, hA, oI, zV, nn, nI_lt z (by omega), nI_1]
                  · refine ⟨f + 1, ([some (.ref M), some (.int (nI n0)), some (.int (nI n1)), some (.int (nI n2)), some (.int (nI k)), some (.int (nI m)), some (.int (nI j)), some (.int (nI (mlK δ P j))), some (.int (nI (b + 1))), none], w2), by omega, ⟨by simp [amnP, hs, hA, oI, zV, z], ⟨c2, q2⟩, e3.tr q3⟩, ?_⟩
                    rw [show f + 3 = (f + 1) + 2 from rfl]
                    generalize f + 1 = F
                    simp [jX11_steps, bX11_steps_0, bX11_steps_1, bX11_steps_2, bX11_steps_3, bX11_steps_4, bX11_steps_5, bX11_steps_6, bX11_steps_7, bX11_steps_8, bX11_steps_9, bX11_steps_10, bX11_steps_11, bX11_steps_12, bX11_steps_13, i_aload, i_getf, i_iaload, i_iand, i_iastore, i_iceq, i_icge, i_icgt, i_iclt, i_icne, i_ifeq, i_ifne, i_iinc, i_iload, i_ior, i_ireturn, i_ishl, i_ishr, i_istore, i_isub, i_jmp, i_push, i_putf, i_zaload, i_zastore, msk, lset1, lset2, clr, Value.category, Option.toList, List.cons_append, List.nil_append, List.length_cons, List.length_nil, e1, gf_eq o1, mg_11, c3, ek, mb1, cvk_1 o1 q1, hA, oI, zV, nn, nI_nlt (Nat.le_of_not_lt z) (by omega), nI_1])
          obtain ⟨f1, s1, g1, ⟨e1, e2, e3⟩, g3⟩ := L (δ.1 3) 0 ([some (.ref M), some (.int (nI n0)), some (.int (nI n1)), some (.int (nI n2)), some (.int (nI k)), some (.int (nI m)), some (.int (-1)), some (.int 0), some (.int (nI 0)), none], u) (by omega) ⟨rfl, hH, Fr.rf _ _⟩ (f + 1)
          obtain ⟨f2, rfl⟩ : ∃ z, f1 = z + 1 := ⟨f1 - 1, by omega⟩
          refine ⟨f2, s1.2, by omega, e2, e3, ?_⟩
          simp only [nI_0] at g3
          rw [g3, e1]
        -- the walk
        have fin : ∀ (u : Mem) (m : Nat) (cp : Nat → Int32), Fr (fun a => a = M + 175 ∨ a = M + 177 ∨ a = M + 178) w0 u → (∃ c, IA u (M + 175) 100 c) → FT9 u M δ (PK δ n0 (wkS δ n0 (mnS δ n0 n1))) → IA u (M + 178) 8 cp → mnS δ n0 n1 ≤ δ.1 3 → (∀ q, q < mnS δ n0 n1 → cp q = oI (ntK δ n0 (wkS δ n0 q))) → knS δ n0 n1 (mnS δ n0 n1) = true → ∀ f, ∃ v x', jX11_steps g (f + 2) 6 [] [some (.ref M), some (.int (nI n0)), some (.int (nI n1)), some (.int (nI n2)), some (.int (nI (mnS δ n0 n1))), some (.int (nI m)), none, none, none, none] u = some (.inl (some (.int v)), u) ∧ v = (if n2 = 0 then nI (mnS δ n0 n1) else if n2 ≤ mnS δ n0 n1 then oI (ntK δ n0 (wkS δ n0 (n2 - 1))) else -1) ∧ RI u M fed kept fp tp rf δ τ im x' ∧ x' 0 = 0 ∧ Fr (rg M (M + 179)) w0 u := fun u m cp hFu hHu hPu hcp lm hq hkn f => by
          obtain ⟨o1, d1, r1⟩ := kp _ hFu
          have q1 := risKnown_sp hg hd o1 x27 r1 hPu (t := n1) (by omega)
          have hkn' : knB δ n1 (PK δ n0 (wkS δ n0 (mnS δ n0 n1))) = true := hkn
          rw [hkn'] at q1
          simp only [bI, if_true] at q1
          obtain ⟨ck, hK⟩ := hK
          obtain ⟨cf', hf', -⟩ := id hPu
          refine ⟨_, va_up x 0 0, ?_, rfl, I0.sc (hFu.mn fun a ha => by unfold rg; omega) o1 hXO ⟨hS0.fr hFu (fun i h1 h2 => by omega), hHu, ⟨ck, hK.fr hFu (by omega)⟩, ⟨cf', hf'⟩, ⟨cp, hcp⟩⟩, x0', hFu.mn fun a ha => by unfold rg; omega⟩
          generalize mnS δ n0 n1 = X at lm hq ⊢
          by_cases z : n2 = 0
          · subst z
            simp only [if_true]
            simp [jX11_steps, bX11_steps_0, bX11_steps_1, bX11_steps_2, bX11_steps_3, bX11_steps_4, bX11_steps_5, bX11_steps_6, bX11_steps_7, bX11_steps_8, bX11_steps_9, bX11_steps_10, bX11_steps_11, bX11_steps_12, bX11_steps_13, i_aload, i_getf, i_iaload, i_iand, i_iastore, i_iceq, i_icge, i_icgt, i_iclt, i_icne, i_ifeq, i_ifne, i_iinc, i_iload, i_ior, i_ireturn, i_ishl, i_ishr, i_istore, i_isub, i_jmp, i_push, i_putf, i_zaload, i_zastore, msk, lset1, lset2, clr, Value.category, Option.toList, List.cons_append, List.nil_append, List.length_cons, List.length_nil, gf_eq o1, cvk_1 o1 q1, nI_0]
          · have z1 := nI_ne0 (n := n2) (by omega) (by omega)
            rw [if_neg z]
            by_cases y : n2 ≤ X
            · rw [if_pos y]
              obtain ⟨k, rfl⟩ : ∃ k, n2 = k + 1 := ⟨n2 - 1, by omega⟩
              have y1 := nI_nlt (b := k + 1) (a := X) y (by omega)
              have rd := hcp.rd (j := k) (by omega) (by decide)
              rw [hq k (by omega)] at rd
              simp only [Nat.add_sub_cancel]
              generalize oI (ntK δ n0 (wkS δ n0 k)) = V at rd ⊢
              simp [jX11_steps, bX11_steps_0, bX11_steps_1, bX11_steps_2, bX11_steps_3, bX11_steps_4, bX11_steps_5, bX11_steps_6, bX11_steps_7, bX11_steps_8, bX11_steps_9, bX11_steps_10, bX11_steps_11, bX11_steps_12, bX11_steps_13, i_aload, i_getf, i_iaload, i_iand, i_iastore, i_iceq, i_icge, i_icgt, i_iclt, i_icne, i_ifeq, i_ifne, i_iinc, i_iload, i_ior, i_ireturn, i_ishl, i_ishr, i_istore, i_isub, i_jmp, i_push, i_putf, i_zaload, i_zastore, msk, lset1, lset2, clr, Value.category, Option.toList, List.cons_append, List.nil_append, List.length_cons, List.length_nil, gf_eq o1, mg_49, cvk_1 o1 q1, z1, y1, nI_pred, rd]
            · rw [if_neg y]
              have y1 := nI_lt (a := X) (b := n2) (by omega) (by omega)
              simp [jX11_steps, bX11_steps_0, bX11_steps_1, bX11_steps_2, bX11_steps_3, bX11_steps_4, bX11_steps_5, bX11_steps_6, bX11_steps_7, bX11_steps_8, bX11_steps_9, bX11_steps_10, bX11_steps_11, bX11_steps_12, bX11_steps_13, i_aload, i_getf, i_iaload, i_iand, i_iastore, i_iceq, i_icge, i_icgt, i_iclt, i_icne, i_ifeq, i_ifne, i_iinc, i_iload, i_ior, i_ireturn, i_ishl, i_ishr, i_istore, i_isub, i_jmp, i_push, i_putf, i_zaload, i_zastore, msk, lset1, lset2, clr, Value.category, Option.toList, List.cons_append, List.nil_append, List.length_cons, List.length_nil, gf_eq o1, cvk_1 o1 q1, z1, y1]
        have L6 := lpR (fun f (s : Lv × Mem) => jX11_steps g f 6 [] s.1 s.2) (fun k s => ∃ m, s.1 = [some (.ref M), some (.int (nI n0)), some (.int (nI n1)), some (.int (nI n2)), some (.int (nI k)), some (.int (nI m)), none, none, none, none] ∧ SB m (wkS δ n0 k) ∧ cntF (wkS δ n0 k) (δ.1 3) = k ∧ (∀ q, q < k → knS δ n0 n1 q = false) ∧ (∃ c, IA s.2 (M + 175) 100 c) ∧ FT9 s.2 M δ (PK δ n0 (wkS δ n0 k)) ∧ (∃ cp, IA s.2 (M + 178) 8 cp ∧ ∀ q, q < k → cp q = oI (ntK δ n0 (wkS δ n0 q))) ∧ Fr (fun a => a = M + 175 ∨ a = M + 177 ∨ a = M + 178) w0 s.2)
          (fun z => ∃ w' v x', z = some (.inl (some (.int v)), w') ∧ v = (if n2 = 0 then nI (mnS δ n0 n1) else if n2 ≤ mnS δ n0 n1 then oI (ntK δ n0 (wkS δ n0 (n2 - 1))) else -1) ∧ RI w' M fed kept fp tp rf δ τ im x' ∧ x' 0 = 0 ∧ Fr (rg M (M + 179)) w0 w') 60100 2 (δ.1 3)
          (fun k s hk hI f => by
            obtain ⟨m, e1, e2, e3, e4, e5, e6, ⟨cp, e7, e8⟩, e9⟩ := hI
            cases hkn : knS δ n0 n1 k with
            | true =>
              left
              have em := mn_at (by omega) hkn e4
              rw [← em] at e1 e6 e8 hkn
              obtain ⟨v, x', g1, g2, g3, g4, g5⟩ := fin s.2 m cp e9 e5 e6 e7 (by omega) e8 hkn (f + 60098)
              refine ⟨s.2, v, x', ?_, g2, g3, g4, g5⟩
              show jX11_steps g (f + 60100) 6 [] s.1 s.2 = _
              rw [← g1, e1]
            | false =>
              obtain ⟨b, n1', n2', n3, n4, n5⟩ := wk_step e3 hkn
              obtain ⟨o1, d1, r1⟩ := kp _ e9
              have q1 := risKnown_sp hg hd o1 x27 r1 e6 (t := n1) (by omega)
              have hkn' : knB δ n1 (PK δ n0 (wkS δ n0 k)) = false := hkn
              rw [hkn'] at q1
              simp only [bI, Bool.false_eq_true, if_false] at q1
              obtain ⟨f7, u7, h1, h2, h3, h4⟩ := L7 s.2 (wkS δ n0 k) (PK δ n0 (wkS δ n0 k)) k m e2 e6 e5 e9 (f + 60098 - 3 * δ.1 3)
              rw [show f + 60098 - 3 * δ.1 3 + 1 + 3 * δ.1 3 = f + 60099 from by omega] at h4
              have F7 := e9.tr (h3.mn fun a h => Or.inl h)
              obtain ⟨o7, d7, r7⟩ := kp _ F7
              have nt : amnP (fun b => !wkS δ n0 k b) (fun b => mlK δ (PK δ n0 (wkS δ n0 k)) b) (δ.1 3) = some b := n1'
              rw [nt] at h4
              simp only [oI, zV] at h4
              have e7' := e7.fr h3 (by omega)
              obtain ⟨u8, hu8⟩ : ∃ q, wi u7 0 (M + 178) k (nI b) = q := ⟨_, rfl⟩
              have F8 : Fr (fun a => a = M + 178) u7 u8 := hu8 ▸ Fr.wi _ _ _ _ rfl
              have e7'' := e7'.up k (nI b)
              rw [hu8] at e7''
              have wr := e7'.wr (j := k) (by omega) (by decide) (nI b)
              rw [hu8] at wr
              have F78 := F7.tr (F8.mn fun a h => Or.inr (Or.inr h))
              obtain ⟨o8, d8, r8⟩ := kp _ F78
              have p1 : fX11_digit g [.ref M, .int (nI (rr δ n0)), .int (nI b)] u8 = some (.inl (some (.int (nI (dgR δ n0 b)))), u8) := rdigit_sp hg hd o8 d8 (row := rr δ n0) (b := b) (by have := (rr_lt l0).1; omega) n2'
              have rw1 := r8.row hd l0
              have so := sh_o m e2.1 b (by omega)
              obtain ⟨f10, u10, k1, k2, k3, k4⟩ := L10 u8 (PK δ n0 (wkS δ n0 k)) (k + 1) (m ||| 2 ^ b) b n2' ((e6.fr h3 (by omega)).fr F8 (by omega)) F78 none (f7 - 1 - 3 * nR δ)
              rw [show f7 - 1 - 3 * nR δ + 1 + 3 * nR δ = f7 from by omega] at k4
              refine Or.inr ⟨f10, (_, u10), by omega, ⟨m ||| 2 ^ b, rfl, n4 ▸ e2.up (by omega), n5, fun q hq => ?_, ?_, ?_, ⟨_, e7''.fr k3 (by omega), fun q hq => ?_⟩, F78.tr (k3.mn fun a h => Or.inr (Or.inl h))⟩, ?_⟩
              · by_cases y : q = k
                · subst y; exact hkn
                · exact e4 q (by omega)
              · obtain ⟨c9, h9⟩ := h2
                exact ⟨c9, (h9.fr F8 (by omega)).fr k3 (by omega)⟩
              · obtain ⟨c9, h9, h10⟩ := k2
                refine ⟨c9, h9, fun j hj => ?_⟩
                rw [h10 j hj, n4, PK_up n2']
              · by_cases y : q = k
                · subst y; rw [va_up_self, n1']; rfl
                · rw [va_up_ne _ _ y]; exact e8 q (by omega)
              · show jX11_steps g (f + 60100) 6 [] s.1 s.2 = jX11_steps g f10 6 [] [some (.ref M), some (.int (nI n0)), some (.int (nI n1)), some (.int (nI n2)), some (.int (nI (k + 1))), some (.int (nI (m ||| 2 ^ b))), none, none, none, none] u10
                rw [← k4]
                have a1 : jX11_steps g (f + 60100) 6 [] s.1 s.2 = jX11_steps g (f + 60099) 7 [] [some (.ref M), some (.int (nI n0)), some (.int (nI n1)), some (.int (nI n2)), some (.int (nI k)), some (.int (nI m)), some (.int (-1)), some (.int 0), some (.int 0), none] s.2 := by
                  rw [show f + 60100 = (f + 60099) + 1 from rfl]
                  generalize f + 60099 = F
                  simp [jX11_steps, bX11_steps_0, bX11_steps_1, bX11_steps_2, bX11_steps_3, bX11_steps_4, bX11_steps_5, bX11_steps_6, bX11_steps_7, bX11_steps_8, bX11_steps_9, bX11_steps_10, bX11_steps_11, bX11_steps_12, bX11_steps_13, i_aload, i_getf, i_iaload, i_iand, i_iastore, i_iceq, i_icge, i_icgt, i_iclt, i_icne, i_ifeq, i_ifne, i_iinc, i_iload, i_ior, i_ireturn, i_ishl, i_ishr, i_istore, i_isub, i_jmp, i_push, i_putf, i_zaload, i_zastore, msk, lset1, lset2, clr, Value.category, Option.toList, List.cons_append, List.nil_append, List.length_cons, List.length_nil, e1, cvk_1 o1 q1]
                rw [a1, h4]
                simp [jX11_steps, bX11_steps_0, bX11_steps_1, bX11_steps_2, bX11_steps_3, bX11_steps_4, bX11_steps_5, bX11_steps_6, bX11_steps_7, bX11_steps_8, bX11_steps_9, bX11_steps_10, bX11_steps_11, bX11_steps_12, bX11_steps_13, i_aload, i_getf, i_iaload, i_iand, i_iastore, i_iceq, i_icge, i_icgt, i_iclt, i_icne, i_ifeq, i_ifne, i_iinc, i_iload, i_ior, i_ireturn, i_ishl, i_ishr, i_istore, i_isub, i_jmp, i_push, i_putf, i_zaload, i_zastore, msk, lset1, lset2, clr, Value.category, Option.toList, List.cons_append, List.nil_append, List.length_cons, List.length_nil, gf_eq o7, mg_11, mg_49, d7.1.rc 3 3 rfl (by decide) (by decide), so, wr, nI_1, gf_eq o8, mg_28, rw1, cvk_2 o8 p1])
          (fun s hI f => by
            obtain ⟨m, e1, e2, e3, e4, e5, e6, ⟨cp, e7, e8⟩, e9⟩ := hI
            have hkn : knS δ n0 n1 (δ.1 3) = true := kn_all fun b hb => cnt_all e3 b hb
            have em := mn_at (Nat.le_refl _) hkn e4
            rw [← em] at e1 e6 e8 hkn
            obtain ⟨v, x', g1, g2, g3, g4, g5⟩ := fin s.2 m cp e9 e5 e6 e7 (by omega) e8 hkn f
            refine ⟨s.2, v, x', ?_, g2, g3, g4, g5⟩
            rw [← g1, e1])
        have c0 : ∀ n, cntF (wkS δ n0 0) n = 0 := fun n => by
          induction n with
          | zero => rfl
          | succ n ih => show cntF (wkS δ n0 0) n + 0 = 0; rw [ih]
        have L5 := lpR (fun f (s : Lv × Mem) => jX11_steps g (f + 480810) 5 [] s.1 s.2) (fun j s => s.1 = [some (.ref M), some (.int (nI n0)), some (.int (nI n1)), some (.int (nI n2)), some (.int (nI 0)), some (.int (nI 0)), some (.int (nI j)), none, none, none] ∧ (∃ c, AR 3 s.2 (M + 177) 20000 c ∧ ∀ q, q < j → c q = 1) ∧ Fr (fun a => a = M + 177) w0 s.2)
          (fun z => ∃ w' v x', z = some (.inl (some (.int v)), w') ∧ v = (if n2 = 0 then nI (mnS δ n0 n1) else if n2 ≤ mnS δ n0 n1 then oI (ntK δ n0 (wkS δ n0 (n2 - 1))) else -1) ∧ RI w' M fed kept fp tp rf δ τ im x' ∧ x' 0 = 0 ∧ Fr (rg M (M + 179)) w0 w') 1 1 (nR δ)
          (fun j s hj hI f => by
            obtain ⟨e1, ⟨c1, e2, e4⟩, e3⟩ := hI
            obtain ⟨o1, d1, r1⟩ := kp _ (e3.mn fun a h => Or.inr (Or.inl h))
            have n1' : vp_nar .boolean 1 = 1 := by decide
            refine Or.inr ⟨f, ([some (.ref M), some (.int (nI n0)), some (.int (nI n1)), some (.int (nI n2)), some (.int (nI 0)), some (.int (nI 0)), some (.int (nI (j + 1))), none, none, none], wi s.2 3 (M + 177) j 1), Nat.le_refl _, ⟨rfl, ⟨_, e2.up j 1, fun q hq => ?_⟩, e3.tr (Fr.wi _ _ _ _ rfl)⟩, ?_⟩
            · by_cases y : q = j
              · subst y; exact va_up_self _ _ _
              · rw [va_up_ne _ _ y]; exact e4 q (by omega)
            · show jX11_steps g (f + 1 + 480810) 5 [] s.1 s.2 = _
              rw [show f + 1 + 480810 = (f + 480810) + 1 from by omega]
              generalize f + 480810 = F
              simp [jX11_steps, bX11_steps_0, bX11_steps_1, bX11_steps_2, bX11_steps_3, bX11_steps_4, bX11_steps_5, bX11_steps_6, bX11_steps_7, bX11_steps_8, bX11_steps_9, bX11_steps_10, bX11_steps_11, bX11_steps_12, bX11_steps_13, i_aload, i_getf, i_iaload, i_iand, i_iastore, i_iceq, i_icge, i_icgt, i_iclt, i_icne, i_ifeq, i_ifne, i_iinc, i_iload, i_ior, i_ireturn, i_ishl, i_ishr, i_istore, i_isub, i_jmp, i_push, i_putf, i_zaload, i_zastore, msk, lset1, lset2, clr, Value.category, Option.toList, List.cons_append, List.nil_append, List.length_cons, List.length_nil, e1, gf_eq o1, mg_27, mg_48, x27, nI_ge hj (by omega), n1', e2.wr (j := j) (by omega) (by decide), nI_1])
          (fun s hI f => by
            obtain ⟨e1, ⟨c1, e2, e4⟩, e3⟩ := hI
            have F5 : Fr (fun a => a = M + 175 ∨ a = M + 177 ∨ a = M + 178) w0 s.2 := e3.mn fun a h => Or.inr (Or.inl h)
            obtain ⟨o1, d1, r1⟩ := kp _ F5
            obtain ⟨w', v, x', q1, q2⟩ := L6 (δ.1 3) 0 ([some (.ref M), some (.int (nI n0)), some (.int (nI n1)), some (.int (nI n2)), some (.int (nI 0)), some (.int (nI 0)), none, none, none, none], s.2) (by omega) ⟨0, rfl, ⟨by decide, fun b hb => by rw [Nat.zero_testBit]; rfl⟩, c0 _, fun q hq => by omega, ⟨ch, hH.fr e3 (by omega)⟩, ⟨c1, e2, fun q hq => by
              rw [e4 q hq]
              have e : exF (fun b => wkS δ n0 0 b && (dgR δ q b != dgR δ n0 b)) (δ.1 3) = false := exF_none fun b _ => rfl
              unfold PK
              rw [e]
              rfl⟩, ⟨cs, hSt.fr e3 (by omega), fun q hq => by omega⟩, F5⟩ (f + 480810) (by omega)
            refine ⟨w', v, x', ?_, q2⟩
            rw [← q1]
            show jX11_steps g (f + 1 + 480810) 5 [] s.1 s.2 = _
            rw [show f + 1 + 480810 = (f + 480810) + 1 from by omega]
            generalize f + 480810 = F
            simp [jX11_steps, bX11_steps_0, bX11_steps_1, bX11_steps_2, bX11_steps_3, bX11_steps_4, bX11_steps_5, bX11_steps_6, bX11_steps_7, bX11_steps_8, bX11_steps_9, bX11_steps_10, bX11_steps_11, bX11_steps_12, bX11_steps_13, i_aload, i_getf, i_iaload, i_iand, i_iastore, i_iceq, i_icge, i_icgt, i_iclt, i_icne, i_ifeq, i_ifne, i_iinc, i_iload, i_ior, i_ireturn, i_ishl, i_ishr, i_istore, i_isub, i_jmp, i_push, i_putf, i_zaload, i_zastore, msk, lset1, lset2, clr, Value.category, Option.toList, List.cons_append, List.nil_append, List.length_cons, List.length_nil, e1, gf_eq o1, mg_27, x27])
        obtain ⟨N2, hN2⟩ : ∃ N, g.1 = (N + 480810) + 3 := ⟨g.1 - 480813, by omega⟩
        obtain ⟨w', v, x', p1, p2, p3, p4, p5⟩ := L5 (nR δ) 0 ([some (.ref M), some (.int (nI n0)), some (.int (nI n1)), some (.int (nI n2)), some (.int (nI 0)), some (.int (nI 0)), some (.int (nI 0)), none, none, none], w0) (by omega) ⟨rfl, ⟨cf, hFt, fun q hq => by omega⟩, Fr.rf _ _⟩ N2 (by omega)
        rw [← p2]
        refine RQo.ok F0 p3 p4 ?_ p5
        simp only [nI_0] at p1
        rw [← p1]
        generalize N2 + 480810 = F at hN2 ⊢
        simp [fX11_steps, kX11_steps, ent, entp, jX11_steps, bX11_steps_0, bX11_steps_1, bX11_steps_2, bX11_steps_3, bX11_steps_4, bX11_steps_5, bX11_steps_6, bX11_steps_7, bX11_steps_8, bX11_steps_9, bX11_steps_10, bX11_steps_11, bX11_steps_12, bX11_steps_13, i_aload, i_getf, i_iaload, i_iand, i_iastore, i_iceq, i_icge, i_icgt, i_iclt, i_icne, i_ifeq, i_ifne, i_iinc, i_iload, i_ior, i_ireturn, i_ishl, i_ishr, i_istore, i_isub, i_jmp, i_push, i_putf, i_zaload, i_zastore, msk, lset1, lset2, clr, Value.category, Option.toList, List.cons_append, List.nil_append, List.length_cons, List.length_nil, hN2, st_0 hI.1, hw0, cvk_1 hO q0, cvk_1 hO q1, cvk_3 hO (bad0_sp hg hO x0' 1 0), csk_3 q2, cvk_3 hO (bad0_sp hg hO x0' 2 2)]
