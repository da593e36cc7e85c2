/-! ===== bare, bars, rows, struck ===== -/
def exF (p : Nat → Bool) : Nat → Bool
  | 0 => false
  | n + 1 => exF p n || p n
theorem exF_iff {p : Nat → Bool} : ∀ {n : Nat}, exF p n = true ↔ ∃ m, m < n ∧ p m = true
  | 0 => by
    constructor
    · intro h; cases h
    · rintro ⟨m, h, _⟩; omega
  | n + 1 => by
    rw [exF, Bool.or_eq_true, exF_iff]
    constructor
    · rintro (⟨m, h1, h2⟩ | h)
      · exact ⟨m, by omega, h2⟩
      · exact ⟨n, by omega, h⟩
    · rintro ⟨m, h1, h2⟩
      by_cases z : m = n
      · subst z; exact Or.inr h2
      · exact Or.inl ⟨m, by omega, h2⟩
theorem cntF_pos {p : Nat → Bool} : ∀ {n : Nat}, 0 < cntF p n ↔ ∃ m, m < n ∧ p m = true
  | 0 => by
    constructor
    · intro h; cases h
    · rintro ⟨m, h, _⟩; omega
  | n + 1 => by
    have ih := cntF_pos (p := p) (n := n)
    unfold cntF
    by_cases z : p n = true
    · rw [if_pos z]
      constructor
      · intro _; exact ⟨n, by omega, z⟩
      · intro _; omega
    · rw [if_neg z, Nat.add_zero, ih]
      constructor
      · rintro ⟨m, h1, h2⟩; exact ⟨m, by omega, h2⟩
      · rintro ⟨m, h1, h2⟩
        have : m ≠ n := fun q => z (q ▸ h2)
        exact ⟨m, by omega, h2⟩
theorem cntF_cg {p q : Nat → Bool} : ∀ {n : Nat}, (∀ m, m < n → p m = q m) → cntF p n = cntF q n
  | 0, _ => rfl
  | n + 1, h => by
    unfold cntF
    rw [cntF_cg (n := n) fun m hm => h m (by omega), h n (by omega)]
theorem exF_swap (p : Nat → Nat → Bool) (m n : Nat) : exF (fun t => exF (fun i => p i t) m) n = exF (fun i => exF (fun t => p i t) n) m := by
  rw [Bool.eq_iff_iff, exF_iff, exF_iff]
  constructor
  · rintro ⟨t, h1, h2⟩
    obtain ⟨i, h3, h4⟩ := exF_iff.mp h2
    exact ⟨i, h3, exF_iff.mpr ⟨t, h1, h4⟩⟩
  · rintro ⟨t, h1, h2⟩
    obtain ⟨i, h3, h4⟩ := exF_iff.mp h2
    exact ⟨i, h3, exF_iff.mpr ⟨t, h1, h4⟩⟩
/-- a set of heirs as bits -/
def bsF (p : Nat → Bool) : Nat → Nat
  | 0 => 0
  | n + 1 => if p n = true then bsF p n + 2 ^ n else bsF p n
theorem bsF_cg {p q : Nat → Bool} : ∀ {n : Nat}, (∀ h, h < n → p h = q h) → bsF p n = bsF q n
  | 0, _ => rfl
  | n + 1, h => by
    unfold bsF
    rw [bsF_cg (n := n) fun m hm => h m (by omega), h n (by omega)]
theorem bsF_lt (p : Nat → Bool) : ∀ n, bsF p n < 2 ^ n
  | 0 => by show 0 < 2 ^ 0; decide
  | n + 1 => by
    have := bsF_lt p n
    unfold bsF
    rw [Nat.pow_succ]
    split <;> omega
def p4 (a b c d : Bool) : Nat → Bool
  | 0 => a
  | 1 => b
  | 2 => c
  | _ => d
theorem p4_eq (p : Nat → Bool) {h : Nat} (hh : h < 4) : p4 (p 0) (p 1) (p 2) (p 3) h = p h := by
  have : h = 0 ∨ h = 1 ∨ h = 2 ∨ h = 3 := by omega
  rcases this with q | q | q | q <;> subst q <;> rfl
theorem bs_or : ∀ h, h < 4 → ∀ b, b < 2 ^ h → nI b ||| ((1 : Int32) <<< (nI h &&& 31)) = nI (b + 2 ^ h) := by decide +kernel
theorem bs_or2 : ∀ h, h < 4 → ∀ b, b < 2 ^ h → nI (b + 2 ^ h) ||| ((1 : Int32) <<< (nI h &&& 31)) = nI (b + 2 ^ h) := by decide +kernel
theorem bs_all : ∀ n, n < 5 → ((1 : Int32) <<< (nI n &&& 31)) - 1 = nI (bsF (fun _ => true) n) := by decide +kernel
theorem bs_and0 : ∀ n, n < 5 → ∀ o, o < 4 → ∀ a b c d : Bool, nI (bsF (p4 a b c d) n) &&& (((1 : Int32) <<< (nI o &&& 31)) ^^^ -1) = nI (bsF (fun h => p4 a b c d h && !(h == o)) n) := by decide +kernel
theorem bs_and {p : Nat → Bool} {n o : Nat} (hn : n ≤ 4) (ho : o < 4) : nI (bsF p n) &&& (((1 : Int32) <<< (nI o &&& 31)) ^^^ -1) = nI (bsF (fun h => p h && !(h == o)) n) := by
  have e1 : bsF p n = bsF (p4 (p 0) (p 1) (p 2) (p 3)) n := bsF_cg fun h hh => (p4_eq p (by omega)).symm
  have e2 : bsF (fun h => p h && !(h == o)) n = bsF (fun h => p4 (p 0) (p 1) (p 2) (p 3) h && !(h == o)) n := bsF_cg fun h hh => by
    show _ = (p4 (p 0) (p 1) (p 2) (p 3) h && !(h == o))
    rw [p4_eq p (by omega)]
  rw [e1, e2]
  exact bs_and0 n (by omega) o ho _ _ _ _
theorem i_am1 (x : Int32) : x &&& -1 = x := by
  apply Int32.toBitVec_inj.1
  show x.toBitVec &&& (-1 : Int32).toBitVec = x.toBitVec
  rw [show (-1 : Int32).toBitVec = BitVec.allOnes 32 from by decide]
  exact BitVec.and_allOnes
def evK (δ : DE) (h : Nat) : Bool := exF (fun t => exF (fun i => owR δ i t == h + 1) (nR δ)) (δ.1 1)
theorem oft_ex (δ : DE) (t h : Nat) : 0 < oftK δ t h ↔ exF (fun i => owR δ i t == h + 1) (nR δ) = true := by
  unfold oftK
  rw [cntF_pos, exF_iff]
theorem everOwns_sp {g : GE} (hg : FU g) {w : Mem} {tb E D aM aS aG n1 lev : Nat} {δ : DE} (hd : WF δ) (hD : DEED g w D δ) (hG : GT g w tb E D δ (δ.1 6) aM aS aG n1 lev) {h : Nat} (hh : h < 4) : fX7_everOwns g [.ref tb, .int (nI h)] w = some (.inl (some (.int (bI (evK δ h)))), w) := by
  have hT := hG.tb
  have hn := nR_le hd
  obtain ⟨b1, b2, b3, b4, b5, b6, b7, b8⟩ := id hd.1
  obtain ⟨N, hN⟩ : ∃ N, g.1 = N + 1 := ⟨g.1 - 1, by omega⟩
  have L := lpR (fun f (s : Lv) => jX7_everOwns g f 1 [] s w) (fun k s => s = [some (.ref tb), some (.int (nI h)), some (.int (nI k))] ∧ exF (fun t => exF (fun i => owR δ i t == h + 1) (nR δ)) k = false)
    (fun z => z = some (.inl (some (.int (bI (evK δ h)))), w)) 1 1 (δ.1 1)
    (fun k s hk hI f => by
      obtain ⟨e1, e2⟩ := hI
      subst e1
      have o := timesOwned_sp hg hd hG (t := k) (h := h) (by omega) hh
      have lo : oftK δ k h ≤ nR δ := cntF_le _ _
      have m := oft_ex δ k h
      by_cases z : 0 < oftK δ k h
      · left
        have e9 : evK δ h = true := exF_iff.mpr ⟨k, hk, m.mp z⟩
        have z1 := nI_nle z (by omega)
        simp [jX7_everOwns, bX7_everOwns_0, bX7_everOwns_1, i_aload, i_getf, i_icge, i_ifle, i_iinc, i_iload, i_istore, i_jmp, i_push, i_zreturn, msk, lset1, lset2, clr, Value.category, Option.toList, List.cons_append, List.nil_append, List.length_cons, List.length_nil, gf_eq hT, gf_eq hD.1, nI_ge hk (by omega), cvk_2 hT o, z1, e9, bI]
      · have z1 : nI (oftK δ k h) ≤ 0 := by rw [show oftK δ k h = 0 by omega]; decide
        refine Or.inr ⟨f, _, Nat.le_refl _, ⟨rfl, ?_⟩, ?_⟩
        · rw [exF, e2, Bool.false_or]
          cases hx : exF (fun i => owR δ i k == h + 1) (nR δ) with
          | false => rfl
          | true => exact absurd (m.mpr hx) z
        · simp [jX7_everOwns, bX7_everOwns_0, bX7_everOwns_1, i_aload, i_getf, i_icge, i_ifle, i_iinc, i_iload, i_istore, i_jmp, i_push, i_zreturn, msk, lset1, lset2, clr, Value.category, Option.toList, List.cons_append, List.nil_append, List.length_cons, List.length_nil, gf_eq hT, gf_eq hD.1, nI_ge hk (by omega), cvk_2 hT o, z1, nI_1])
    (fun s hI f => by
      obtain ⟨e1, e2⟩ := hI
      subst e1
      have e9 : evK δ h = false := e2
      simp [jX7_everOwns, bX7_everOwns_0, bX7_everOwns_1, i_aload, i_getf, i_icge, i_ifle, i_iinc, i_iload, i_istore, i_jmp, i_push, i_zreturn, msk, lset1, lset2, clr, Value.category, Option.toList, List.cons_append, List.nil_append, List.length_cons, List.length_nil, gf_eq hT, gf_eq hD.1, e9, bI])
  have L1 := L (δ.1 1) 0 [some (.ref tb), some (.int (nI h)), some (.int (nI 0))] (by omega) ⟨rfl, rfl⟩ N (by omega)
  simp only [nI_0] at L1
  rw [← L1]
  simp [fX7_everOwns, kX7_everOwns, ent, entp, jX7_everOwns, bX7_everOwns_0, bX7_everOwns_1, i_aload, i_getf, i_icge, i_ifle, i_iinc, i_iload, i_istore, i_jmp, i_push, i_zreturn, msk, lset1, lset2, clr, Value.category, Option.toList, List.cons_append, List.nil_append, List.length_cons, List.length_nil, hN]
def bareO (δ : DE) : OUT := .inl (.int (nI (if nR δ = 0 then 0 else bsF (fun h => !evK δ h) (δ.1 0))))
theorem bare_c {g : GE} {w : Mem} {B E fed kept : Nat} {fp : Int32} {tp : Nat → Int32} {rf : Nat → Nat} {δ : DE} {τ : TE} {im : Nat → TE} {lev nG : Nat} (hg : GD g) (hE : B + 132 ≤ E) (hI : CI g w B E fed kept fp tp rf δ τ im lev nG) : CQ g w B E fed kept fp tp rf δ τ im lev nG (fX10_bare g [.ref B] w) (bareO δ) := by
  have hg1 := hg.1
  obtain ⟨D, D', hCC, hCT, hCN, hCL, hCM⟩ := id hI
  obtain ⟨hDD, hB, hTp, hD, hD', hSc, hr, hd, hfd, hkp⟩ := id hCC
  obtain ⟨aM, aS, aG, n1', hG, hX⟩ := id hCT
  obtain ⟨b1, b2, b3, b4, b5, b6, b7, b8⟩ := id hd.1
  have hT := hG.tb
  have hn := nR_le hd
  obtain ⟨N, hN⟩ : ∃ N, g.1 = N + 2 := ⟨g.1 - 2, by omega⟩
  unfold bareO
  by_cases z0 : nR δ = 0
  · rw [if_pos z0]
    refine CQ.ok hI ?_
    have z1 : nI (nR δ) = 0 := by rw [z0]; exact nI_0
    simp [fX10_bare, kX10_bare, ent, entp, jX10_bare, bX10_bare_0, bX10_bare_1, bX10_bare_2, i_aload, i_getf, i_icge, i_ifne, i_iinc, i_iload, i_ior, i_ireturn, i_ishl, i_istore, i_jmp, i_push, msk, lset1, lset2, clr, Value.category, Option.toList, List.cons_append, List.nil_append, List.length_cons, List.length_nil, hN, gf_eq hB, gf_eq hT, z1, nI_0]
  · rw [if_neg z0]
    refine CQ.ok hI ?_
    have z1 := nI_ne0 (n := nR δ) (by omega) (by omega)
    obtain ⟨N2, hN2⟩ : ∃ N, g.1 = N + 1 := ⟨g.1 - 1, by omega⟩
    have L := lpF (fun f (s : Lv × Mem) => jX10_bare g f 1 [] s.1 s.2) (fun k => ([some (.ref B), some (.int (nI (bsF (fun h => !evK δ h) k))), some (.int (nI k))], w)) (some (.inl (some (.int (nI (bsF (fun h => !evK δ h) (δ.1 0))))), w)) 2 1 (δ.1 0)
      (fun k hk f => by
        refine ⟨f, Nat.le_refl _, ?_⟩
        have o := everOwns_sp hg1 hd hD hG (h := k) (by omega)
        have lb := bsF_lt (fun h => !evK δ h) k
        have m := bs_or k (by omega) _ lb
        cases he : evK δ k with
        | true =>
          rw [he] at o
          simp only [bI, if_true] at o
          simp [jX10_bare, bX10_bare_0, bX10_bare_1, bX10_bare_2, i_aload, i_getf, i_icge, i_ifne, i_iinc, i_iload, i_ior, i_ireturn, i_ishl, i_istore, i_jmp, i_push, msk, lset1, lset2, clr, Value.category, Option.toList, List.cons_append, List.nil_append, List.length_cons, List.length_nil, gf_eq hB, gf_eq hD.1, nI_ge hk (by omega), cvk_1 hT o, nI_1, bsF, he]
        | false =>
          rw [he] at o
          simp only [bI, Bool.false_eq_true, if_false] at o
          have e9 : bsF (fun h => !evK δ h) (k + 1) = bsF (fun h => !evK δ h) k + 2 ^ k := by
            show (if (!evK δ k) = true then _ else _) = _
            rw [he]
            rfl
          rw [e9]
          generalize bsF (fun h => !evK δ h) k = X at m ⊢
          simp [jX10_bare, bX10_bare_0, bX10_bare_1, bX10_bare_2, i_aload, i_getf, i_icge, i_ifne, i_iinc, i_iload, i_ior, i_ireturn, i_ishl, i_istore, i_jmp, i_push, msk, lset1, lset2, clr, Value.category, Option.toList, List.cons_append, List.nil_append, List.length_cons, List.length_nil, gf_eq hB, gf_eq hD.1, nI_ge hk (by omega), cvk_1 hT o, nI_1, m])
      (fun f => by
        simp [jX10_bare, bX10_bare_0, bX10_bare_1, bX10_bare_2, i_aload, i_getf, i_icge, i_ifne, i_iinc, i_iload, i_ior, i_ireturn, i_ishl, i_istore, i_jmp, i_push, msk, lset1, lset2, clr, Value.category, Option.toList, List.cons_append, List.nil_append, List.length_cons, List.length_nil, gf_eq hB, gf_eq hD.1])
    rw [← L N2 (by omega)]
    simp [fX10_bare, kX10_bare, ent, entp, jX10_bare, bX10_bare_0, bX10_bare_1, bX10_bare_2, i_aload, i_getf, i_icge, i_ifne, i_iinc, i_iload, i_ior, i_ireturn, i_ishl, i_istore, i_jmp, i_push, msk, lset1, lset2, clr, Value.category, Option.toList, List.cons_append, List.nil_append, List.length_cons, List.length_nil, hN2, gf_eq hB, gf_eq hT, z1, nI_0, bsF]
theorem bare_r {g : GE} {w : Mem} {M fed kept : Nat} {fp : Int32} {tp : Nat → Int32} {rf : Nat → Nat} {δ : DE} {τ : TE} {im : Nat → TE} {x : Nat → Int32} (hg : FU g) (hd : WF δ) (hI : RI w M fed kept fp tp rf δ τ im x) : RQo w M fed kept fp tp rf δ τ im (fX11_bare g [.ref M] w) (bareO δ) := by
  obtain ⟨w0, hw0, I0, F0⟩ := hI.t0
  obtain ⟨b1, b2, b3, b4, b5, b6, b7, b8⟩ := id hd.1
  obtain ⟨hO, hXO, hRK, hRZ, hrf⟩ := id I0
  obtain ⟨x1', x3', x27, x32, x33, x34⟩ := id hXO
  obtain ⟨hTp, hD, hR, hCp, hHb, hKp, hRP⟩ := id hRK
  have hn := nR_le hd
  have x0' : (va_up x 0 0) 0 = 0 := va_up_self _ _ _
  obtain ⟨N, hN⟩ : ∃ N, g.1 = N + 3 := ⟨g.1 - 3, by omega⟩
  unfold bareO
  obtain ⟨Q, hQ⟩ : ∃ Q : Nat → Nat → Bool, Q = fun i h => exF (fun j => exF (fun t => owR δ j t == h + 1) (δ.1 1)) i := ⟨_, rfl⟩
  have c0 := hD.1.rc 0 0 rfl (by decide) (by decide)
  have c1 := hD.1.rc 1 1 rfl (by decide) (by decide)
  have fin : ∀ h, (!evK δ h) = !Q (nR δ) h := fun h => by
    rw [hQ]
    exact congrArg _ (exF_swap (fun i t => owR δ i t == h + 1) (nR δ) (δ.1 1))
  refine RQo.ok F0 I0 x0' ?_ (Fr.rf _ _)
  by_cases z0 : nR δ = 0
  · rw [if_pos z0]
    have z1 : nI (nR δ) = 0 := by rw [z0]; exact nI_0
    simp [fX11_bare, kX11_bare, ent, entp, jX11_bare, bX11_bare_0, bX11_bare_1, bX11_bare_2, bX11_bare_3, bX11_bare_4, i_aload, i_getf, i_iaload, i_iand, i_icge, i_icne, i_ifne, i_iinc, i_iload, i_ireturn, i_ishl, i_istore, i_isub, i_ixor, i_jmp, i_push, i_putf, msk, lset1, lset2, clr, Value.category, Option.toList, List.cons_append, List.nil_append, List.length_cons, List.length_nil, hN, st_0 hI.1, hw0, gf_eq hO, mg_27, x27, z1, nI_0]
  · rw [if_neg z0]
    have z1 := nI_ne0 (n := nR δ) (by omega) (by omega)
    obtain ⟨N2, hN2⟩ : ∃ N, g.1 = N + 2 := ⟨g.1 - 2, by omega⟩
    have L := lpF (fun f (s : Lv) => jX11_bare g f 2 [] s w0) (fun i => [some (.ref M), some (.int (nI (bsF (fun h => !Q i h) (δ.1 0)))), some (.int (nI i)), none]) (some (.inl (some (.int (nI (bsF (fun h => !Q (nR δ) h) (δ.1 0))))), w0)) 12 1 (nR δ)
      (fun i hi f => by
        have LI := lpC (fun f (s : Lv) => jX11_bare g f 3 [] s w0) (fun t s => s = [some (.ref M), some (.int (nI (bsF (fun h => !(Q i h || exF (fun t => owR δ i t == h + 1) t)) (δ.1 0)))), some (.int (nI i)), some (.int (nI t))]) 2 (δ.1 1)
          (fun t s ht hs f => by
            subst hs
            refine ⟨f, _, Nat.le_refl _, rfl, ?_⟩
            have o := rgoesBy_sp (g := g) hd hO hR hi (t := t) (by omega)
            have lo := owR_le hd i t
            cases ho : owR δ i t with
            | zero =>
              rw [ho] at o
              have e9 : bsF (fun h => !(Q i h || exF (fun t => owR δ i t == h + 1) (t + 1))) (δ.1 0) = bsF (fun h => !(Q i h || exF (fun t => owR δ i t == h + 1) t)) (δ.1 0) := bsF_cg fun h hh => by
                simp [exF, ho]
              rw [e9]
              generalize bsF (fun h => !(Q i h || exF (fun t => owR δ i t == h + 1) t)) (δ.1 0) = X
              have e8 : nI 0 - 1 = -1 := by decide
              rw [e8] at o
              simp [jX11_bare, bX11_bare_0, bX11_bare_1, bX11_bare_2, bX11_bare_3, bX11_bare_4, i_aload, i_getf, i_iaload, i_iand, i_icge, i_icne, i_ifne, i_iinc, i_iload, i_ireturn, i_ishl, i_istore, i_isub, i_ixor, i_jmp, i_push, i_putf, msk, lset1, lset2, clr, Value.category, Option.toList, List.cons_append, List.nil_append, List.length_cons, List.length_nil, gf_eq hO, mg_11, c1, nI_ge ht (by omega), cvk_2 hO o, i_am1, nI_1]
            | succ p =>
              rw [ho, nI_pred] at o
              have nn := nI_nn (y := p) (by omega)
              have m := bs_and (p := fun h => !(Q i h || exF (fun t => owR δ i t == h + 1) t)) (n := δ.1 0) (o := p) b1 (by omega)
              have e9 : bsF (fun h => !(Q i h || exF (fun t => owR δ i t == h + 1) (t + 1))) (δ.1 0) = bsF (fun h => !(Q i h || exF (fun t => owR δ i t == h + 1) t) && !(h == p)) (δ.1 0) := bsF_cg fun h hh => by
                have : (p + 1 == h + 1) = (h == p) := by
                  rw [Bool.eq_iff_iff, beq_iff_eq, beq_iff_eq]
                  omega
                simp only [exF, ho, this, Bool.not_or, Bool.and_assoc]
              rw [e9]
              rw [← m]
              generalize bsF (fun h => !(Q i h || exF (fun t => owR δ i t == h + 1) t)) (δ.1 0) = X
              simp [jX11_bare, bX11_bare_0, bX11_bare_1, bX11_bare_2, bX11_bare_3, bX11_bare_4, i_aload, i_getf, i_iaload, i_iand, i_icge, i_icne, i_ifne, i_iinc, i_iload, i_ireturn, i_ishl, i_istore, i_isub, i_ixor, i_jmp, i_push, i_putf, msk, lset1, lset2, clr, Value.category, Option.toList, List.cons_append, List.nil_append, List.length_cons, List.length_nil, gf_eq hO, mg_11, c1, nI_ge ht (by omega), cvk_2 hO o, nn, nI_1])
        obtain ⟨f1, s1, h1, h2, h3⟩ := LI (δ.1 1) 0 [some (.ref M), some (.int (nI (bsF (fun h => !Q i h) (δ.1 0)))), some (.int (nI i)), some (.int (nI 0))] (by omega) (by simp [exF]) (f + 11 - 2 * δ.1 1)
        obtain ⟨f2, rfl⟩ : ∃ z, f1 = z + 1 := ⟨f1 - 1, by omega⟩
        refine ⟨f2, by omega, ?_⟩
        simp only [nI_0] at h3
        have ef : f + 12 = (f + 11 - 2 * δ.1 1 + 2 * δ.1 1) + 1 := by omega
        have en : (fun h => !Q (i + 1) h) = fun h => !(Q i h || exF (fun t => owR δ i t == h + 1) (δ.1 1)) := by
          funext h
          rw [hQ]
          rfl
        show jX11_bare g (f + 12) 2 [] [some (.ref M), some (.int (nI (bsF (fun h => !Q i h) (δ.1 0)))), some (.int (nI i)), none] w0 = jX11_bare g f2 2 [] [some (.ref M), some (.int (nI (bsF (fun h => !Q (i + 1) h) (δ.1 0)))), some (.int (nI (i + 1))), none] w0
        rw [ef, en]
        generalize f + 11 - 2 * δ.1 1 + 2 * δ.1 1 = F at h3 ⊢
        have e1 : jX11_bare g (F + 1) 2 [] [some (.ref M), some (.int (nI (bsF (fun h => !Q i h) (δ.1 0)))), some (.int (nI i)), none] w0 = jX11_bare g F 3 [] [some (.ref M), some (.int (nI (bsF (fun h => !Q i h) (δ.1 0)))), some (.int (nI i)), some (.int 0)] w0 := by
          generalize bsF (fun h => !Q i h) (δ.1 0) = X
          simp [jX11_bare, bX11_bare_0, bX11_bare_1, bX11_bare_2, bX11_bare_3, bX11_bare_4, i_aload, i_getf, i_iaload, i_iand, i_icge, i_icne, i_ifne, i_iinc, i_iload, i_ireturn, i_ishl, i_istore, i_isub, i_ixor, i_jmp, i_push, i_putf, msk, lset1, lset2, clr, Value.category, Option.toList, List.cons_append, List.nil_append, List.length_cons, List.length_nil, gf_eq hO, mg_27, x27, nI_ge hi (by omega)]
        rw [e1, h3, h2]
        generalize bsF (fun h => !(Q i h || exF (fun t => owR δ i t == h + 1) (δ.1 1))) (δ.1 0) = X
        simp [jX11_bare, bX11_bare_0, bX11_bare_1, bX11_bare_2, bX11_bare_3, bX11_bare_4, i_aload, i_getf, i_iaload, i_iand, i_icge, i_icne, i_ifne, i_iinc, i_iload, i_ireturn, i_ishl, i_istore, i_isub, i_ixor, i_jmp, i_push, i_putf, msk, lset1, lset2, clr, Value.category, Option.toList, List.cons_append, List.nil_append, List.length_cons, List.length_nil, gf_eq hO, mg_11, c1, nI_1])
      (fun f => by
        generalize bsF (fun h => !Q (nR δ) h) (δ.1 0) = X
        simp [jX11_bare, bX11_bare_0, bX11_bare_1, bX11_bare_2, bX11_bare_3, bX11_bare_4, i_aload, i_getf, i_iaload, i_iand, i_icge, i_icne, i_ifne, i_iinc, i_iload, i_ireturn, i_ishl, i_istore, i_isub, i_ixor, i_jmp, i_push, i_putf, msk, lset1, lset2, clr, Value.category, Option.toList, List.cons_append, List.nil_append, List.length_cons, List.length_nil, gf_eq hO, mg_27, x27])
    have e7 : bsF (fun h => !evK δ h) (δ.1 0) = bsF (fun h => !Q (nR δ) h) (δ.1 0) := bsF_cg fun h _ => fin h
    rw [e7, ← L N2 (by omega)]
    have e6 : bsF (fun h => !Q 0 h) (δ.1 0) = bsF (fun _ => true) (δ.1 0) := bsF_cg fun h _ => by rw [hQ]; rfl
    have e5 := bs_all (δ.1 0) (by omega)
    rw [e6, ← e5]
    simp [fX11_bare, kX11_bare, ent, entp, jX11_bare, bX11_bare_0, bX11_bare_1, bX11_bare_2, bX11_bare_3, bX11_bare_4, i_aload, i_getf, i_iaload, i_iand, i_icge, i_icne, i_ifne, i_iinc, i_iload, i_ireturn, i_ishl, i_istore, i_isub, i_ixor, i_jmp, i_push, i_putf, msk, lset1, lset2, clr, Value.category, Option.toList, List.cons_append, List.nil_append, List.length_cons, List.length_nil, hN2, st_0 hI.1, hw0, gf_eq hO, mg_27, mg_11, x27, c0, z1, nI_0]
/-! bars -/
def lawK (m : Nat) : Int32 := oI (fsB (fun l => m / 2 ^ l % 2 == 1) 3)
theorem law_b : ∀ m, m < 8 → ∀ l, l < 3 → ((nI m >>> (nI l &&& 31) &&& 1 = 1) ↔ (m / 2 ^ l % 2 == 1) = true) := by decide +kernel
theorem barring_sp {g : GE} (hg : FU g) {w : Mem} {tb E D aM aS aG n1 lev : Nat} {δ : DE} (hd : WF δ) (hG : GT g w tb E D δ (δ.1 6) aM aS aG n1 lev) : fX7_barring g [.ref tb] w = some (.inl (some (.int (if nR δ = 0 then lawK (obK δ (δ.1 6)) else -1))), w) := by
  have hT := hG.tb
  have hn := nR_le hd
  have lo := obK_le δ (δ.1 6)
  obtain ⟨N, hN⟩ : ∃ N, g.1 = N + 1 := ⟨g.1 - 1, by omega⟩
  by_cases z0 : nR δ = 0
  · rw [if_pos z0]
    have z1 : nI (nR δ) ≤ 0 := by rw [z0]; decide
    have L := lpR (fun f (s : Lv) => jX7_barring g f 1 [] s w) (fun k s => s = [some (.ref tb), some (.int (nI k))] ∧ ∀ j, j < k → (obK δ (δ.1 6) / 2 ^ j % 2 == 1) = false)
      (fun z => z = some (.inl (some (.int (lawK (obK δ (δ.1 6))))), w)) 1 1 3
      (fun k s hk hI f => by
        obtain ⟨e1, e2⟩ := hI
        subst e1
        have m := law_b _ lo k hk
        have ek : ¬ (3 : Int32) ≤ nI k := nI_ge hk (by decide)
        cases hb : (obK δ (δ.1 6) / 2 ^ k % 2 == 1) with
        | true =>
          left
          have m1 := m.mpr hb
          unfold lawK
          rw [fsB_some (p := fun l => obK δ (δ.1 6) / 2 ^ l % 2 == 1) hk hb e2]
          simp [jX7_barring, bX7_barring_0, bX7_barring_1, i_aload, i_getf, i_iand, i_icge, i_icne, i_ifle, i_iinc, i_iload, i_ireturn, i_ishr, i_istore, i_jmp, i_push, msk, lset1, lset2, clr, Value.category, Option.toList, List.cons_append, List.nil_append, List.length_cons, List.length_nil, ek, gf_eq hT, m1, oI]
        | false =>
          have m1 := mt m.mp (by rw [hb]; exact Bool.false_ne_true)
          refine Or.inr ⟨f, _, Nat.le_refl _, ⟨rfl, fun j hj => ?_⟩, ?_⟩
          · by_cases y : j = k
            · subst y; exact hb
            · exact e2 j (by omega)
          · simp [jX7_barring, bX7_barring_0, bX7_barring_1, i_aload, i_getf, i_iand, i_icge, i_icne, i_ifle, i_iinc, i_iload, i_ireturn, i_ishr, i_istore, i_jmp, i_push, msk, lset1, lset2, clr, Value.category, Option.toList, List.cons_append, List.nil_append, List.length_cons, List.length_nil, ek, gf_eq hT, m1, nI_1])
      (fun s hI f => by
        obtain ⟨e1, e2⟩ := hI
        subst e1
        unfold lawK
        rw [fsB_none e2]
        simp [jX7_barring, bX7_barring_0, bX7_barring_1, i_aload, i_getf, i_iand, i_icge, i_icne, i_ifle, i_iinc, i_iload, i_ireturn, i_ishr, i_istore, i_jmp, i_push, msk, lset1, lset2, clr, Value.category, Option.toList, List.cons_append, List.nil_append, List.length_cons, List.length_nil, (show (3 : Int32) ≤ nI 3 from by decide), oI])
    have L1 := L 3 0 [some (.ref tb), some (.int (nI 0))] (by omega) ⟨rfl, fun j hj => by omega⟩ N (by omega)
    simp only [nI_0] at L1
    rw [← L1]
    simp [fX7_barring, kX7_barring, ent, entp, jX7_barring, bX7_barring_0, bX7_barring_1, i_aload, i_getf, i_iand, i_icge, i_icne, i_ifle, i_iinc, i_iload, i_ireturn, i_ishr, i_istore, i_jmp, i_push, msk, lset1, lset2, clr, Value.category, Option.toList, List.cons_append, List.nil_append, List.length_cons, List.length_nil, hN, gf_eq hT, z1]
  · rw [if_neg z0]
    have z1 := nI_nle (n := nR δ) (by omega) (by omega)
    simp [fX7_barring, kX7_barring, ent, entp, jX7_barring, bX7_barring_0, bX7_barring_1, i_aload, i_getf, i_iand, i_icge, i_icne, i_ifle, i_iinc, i_iload, i_ireturn, i_ishr, i_istore, i_jmp, i_push, msk, lset1, lset2, clr, Value.category, Option.toList, List.cons_append, List.nil_append, List.length_cons, List.length_nil, hN, gf_eq hT, z1]
def barsO (δ : DE) : OUT := .inl (.int (if nR δ = 0 then lawK (obK δ (δ.1 6)) else -1))
theorem bars_c {g : GE} {w : Mem} {B E fed kept : Nat} {fp : Int32} {tp : Nat → Int32} {rf : Nat → Nat} {δ : DE} {τ : TE} {im : Nat → TE} {lev nG : Nat} (hg : GD g) (hE : B + 132 ≤ E) (hI : CI g w B E fed kept fp tp rf δ τ im lev nG) : CQ g w B E fed kept fp tp rf δ τ im lev nG (fX10_bars g [.ref B] w) (barsO δ) := by
  have hg1 := hg.1
  obtain ⟨D, D', hCC, hCT, hCN, hCL, hCM⟩ := id hI
  obtain ⟨hDD, hB, hTp, hD, hD', hSc, hr, hd, hfd, hkp⟩ := id hCC
  obtain ⟨aM, aS, aG, n1', hG, hX⟩ := id hCT
  obtain ⟨b1, b2, b3, b4, b5, b6, b7, b8⟩ := id hd.1
  have hT := hG.tb
  have hn := nR_le hd
  obtain ⟨N, hN⟩ : ∃ N, g.1 = N + 12 := ⟨g.1 - 12, by omega⟩
  unfold barsO
  have q1 := barring_sp hg1 hd hG
  refine CQ.ok hI ?_
  simp [fX10_bars, kX10_bars, ent, entp, bX10_bars_0, i_aload, i_getf, i_ireturn, msk, lset1, lset2, clr, Value.category, Option.toList, List.cons_append, List.nil_append, List.length_cons, List.length_nil, hN, gf_eq hB, cvk_0 hT q1]
/-- the reference asks a row -/
theorem rrow_sp {g : GE} (hg : FU g) {w : Mem} {M row est : Nat} {x : Nat → Int32} {δ : DE} (hd : WF δ) (hO : MO w M x) (hD : RD w M δ) (hS : RSC w M) (hr : row < 2 ^ 31) (s : Int32) (he : est < 2 ^ 31) :
    ∃ w1 w2, fX11_fills g [.ref M, .int (nI row)] w = some (.inl none, w1) ∧ fX11_asks g [.ref M, .int s] w1 = some (.inl none, w2) ∧ fX11_broken g [.ref M, .int (nI est)] w2 = some (.inl (some (.int (nI (brK δ s est (vr δ row))))), w2) ∧ MO w1 M x ∧ MO w2 M (va_up x 42 (nI (twK δ s (vr δ row) (δ.1 2)))) ∧ RD w2 M δ ∧ RSC w2 M ∧ Fr (fun a => a = M ∨ rg (M + 172) (M + 175) a) w w2 := by
  obtain ⟨⟨f0, hf0⟩, ⟨co, hco⟩, ⟨to, hto⟩⟩ := id hS
  obtain ⟨w1, fl, q1, q2, q3, q4⟩ := fills_sp hg (row := row) hd hO hD hf0 hr
  have hO1 : MO w1 M x := q4.at hO (by omega)
  have hD1 := hD.fr q4 (fun j h1 h2 => by omega)
  obtain ⟨w2, p1, p2, p3, p4⟩ := asks_sp hg hd hO1 hD1 q2 (hco.fr q4 (by omega)) (hto.fr q4 (by omega)) (vr_VD hd row) q3 s
  have hD2 := hD1.fr p4 (fun j h1 h2 => by omega)
  have r1 := rbroken_sp hg (est := est) hd (vr_VD hd row) p2 (va_up_self _ _ _) hD2 p3 he
  exact ⟨w1, w2, q1, p1, r1, hO1, p2, hD2, ⟨⟨fl, q2.fr p4 (by omega)⟩, ⟨_, p3.1⟩, ⟨_, p3.2⟩⟩, (q4.mn fun a h => by unfold rg; omega).tr (p4.mn fun a h => by unfold rg; omega)⟩
/-- what stays of the reference while it asks rows -/
def RW (w : Mem) (M : Nat) (x : Nat → Int32) (u : Mem) : Prop := (∃ x', MO u M x' ∧ ∀ j, j ≠ 42 → x' j = x j) ∧ RSC u M ∧ Fr (fun a => a = M ∨ rg (M + 172) (M + 175) a) w u
theorem RI.rw {w u : Mem} {M fed kept : Nat} {fp : Int32} {tp : Nat → Int32} {rf : Nat → Nat} {δ : DE} {τ : TE} {im : Nat → TE} {x : Nat → Int32} (h : RI w M fed kept fp tp rf δ τ im x) (k : RW w M x u) : ∃ x', RI u M fed kept fp tp rf δ τ im x' ∧ (∀ j, j ≠ 42 → x' j = x j) := by
  obtain ⟨⟨x', k1, k2⟩, k3, k4⟩ := k
  obtain ⟨h1, ⟨y1, y2, y3, y4, y5, y6⟩, h3, ⟨z1, ⟨c1, z2⟩, ⟨c2, z3⟩, ⟨c3, z4⟩, ⟨c4, z5⟩⟩, h5⟩ := h
  refine ⟨x', ⟨k1, ⟨by rw [k2 _ (by decide)]; exact y1, by rw [k2 _ (by decide)]; exact y2, by rw [k2 _ (by decide)]; exact y3, by rw [k2 _ (by decide)]; exact y4, by rw [k2 _ (by decide)]; exact y5, by rw [k2 _ (by decide)]; exact y6⟩, h3.fr k4 (fun i a1 a2 a3 => by unfold rg; omega), ⟨k3, ⟨c1, z2.fr k4 (by unfold rg; omega)⟩, ⟨c2, z3.fr k4 (by unfold rg; omega)⟩, ⟨c3, z4.fr k4 (by unfold rg; omega)⟩, ⟨c4, z5.fr k4 (by unfold rg; omega)⟩⟩, h5.fr k4 (by unfold rg; omega)⟩, k2⟩
theorem RW.st {g : GE} (hg : FU g) {w u : Mem} {M row est : Nat} {x : Nat → Int32} {δ : DE} (hd : WF δ) (hD : RD w M δ) (h : RW w M x u) (hr : row < 2 ^ 31) (s : Int32) (he : est < 2 ^ 31) :
    ∃ x0 x1 w1 w2, MO u M x0 ∧ MO w1 M x0 ∧ MO w2 M x1 ∧ RD u M δ ∧ RD w2 M δ ∧ fX11_fills g [.ref M, .int (nI row)] u = some (.inl none, w1) ∧ fX11_asks g [.ref M, .int s] w1 = some (.inl none, w2) ∧ fX11_broken g [.ref M, .int (nI est)] w2 = some (.inl (some (.int (nI (brK δ s est (vr δ row))))), w2) ∧ RW w M x w2 := by
  obtain ⟨⟨x0, k1, k2⟩, k3, k4⟩ := h
  have hDu : RD u M δ := hD.fr k4 (fun j h1 h2 => by unfold rg; omega)
  obtain ⟨w1, w2, q1, q2, q3, q4, q5, q6, q7, q8⟩ := rrow_sp hg hd k1 hDu k3 hr s he
  exact ⟨x0, _, w1, w2, k1, q4, q5, hDu, q6, q1, q2, q3, ⟨_, q5, fun j hj => by rw [va_up_ne _ _ hj]; exact k2 j hj⟩, q7, k4.tr q8⟩
def mw (b m : Nat) : Nat → Nat
  | 0 => m
  | l + 1 => if b = 2 ^ l then mw b m l ||| 2 ^ l else mw b m l
theorem mw_lt : ∀ b, b < 8 → ∀ m, m < 8 → ∀ l, l < 4 → mw b m l < 8 := by decide +kernel
theorem mw_3 : ∀ b, b < 8 → b ≠ 0 → ∀ m, m < 8 → mw b m 3 = if pc8 b = 1 then m ||| b else m := by decide +kernel
theorem bm1 : ∀ b, b < 8 → b ≠ 0 → ∀ l, l < 3 → ((nI b &&& ~~~((1 : Int32) <<< (nI l &&& 31)) = 0) ↔ b = 2 ^ l) := by decide +kernel
theorem bm2 : ∀ m, m < 8 → ∀ l, l < 3 → nI m ||| ((1 : Int32) <<< (nI l &&& 31)) = nI (m ||| 2 ^ l) := by decide +kernel
theorem bm3 : ∀ m, m < 8 → nI m ||| 0 = nI m := by decide +kernel
theorem barsIn {g : GE} {w : Mem} {M b m row : Nat} (hb : b < 8) (h0 : b ≠ 0) (hm : m < 8) (f : Nat) : jX11_bars g (f + 7) 2 [] [some (.ref M), some (.int (nI m)), some (.int (nI row)), some (.int (nI b)), some (.int 0)] w = jX11_bars g f 1 [] [some (.ref M), some (.int (nI (if pc8 b = 1 then m ||| b else m))), some (.int (nI (row + 1))), none, none] w := by
  have st : ∀ l, l < 3 → ∀ f, jX11_bars g (f + 2) 2 [] [some (.ref M), some (.int (nI (mw b m l))), some (.int (nI row)), some (.int (nI b)), some (.int (nI l))] w = jX11_bars g f 2 [] [some (.ref M), some (.int (nI (mw b m (l + 1)))), some (.int (nI row)), some (.int (nI b)), some (.int (nI (l + 1)))] w := fun l hl f => by
    have ek : ¬ (3 : Int32) ≤ nI l := nI_ge hl (by decide)
    have lm := mw_lt b hb m hm l (by omega)
    have m1 := bm1 b hb h0 l hl
    have m2 := bm2 _ lm l hl
    have m3 := bm3 _ lm
    by_cases z : b = 2 ^ l
    · have e9 : mw b m (l + 1) = mw b m l ||| 2 ^ l := by show (if b = 2 ^ l then _ else _) = _; rw [if_pos z]
      rw [e9, ← m2]
      have z1 := m1.mpr z
      generalize mw b m l = X
      simp [jX11_bars, bX11_bars_0, bX11_bars_1, bX11_bars_2, bX11_bars_3, bX11_bars_4, i_aload, i_getf, i_iaload, i_iand, i_icge, i_icne, i_ifle, i_ifne, i_iinc, i_iload, i_ior, i_ireturn, i_ishl, i_ishr, i_istore, i_ixor, i_jmp, i_push, i_putf, msk, lset1, lset2, clr, Value.category, Option.toList, List.cons_append, List.nil_append, List.length_cons, List.length_nil, ek, z1, nI_1]
    · have e9 : mw b m (l + 1) = mw b m l := by show (if b = 2 ^ l then _ else _) = _; rw [if_neg z]
      rw [e9]
      have z1 := mt m1.mp z
      generalize mw b m l = X at m3 ⊢
      simp [jX11_bars, bX11_bars_0, bX11_bars_1, bX11_bars_2, bX11_bars_3, bX11_bars_4, i_aload, i_getf, i_iaload, i_iand, i_icge, i_icne, i_ifle, i_ifne, i_iinc, i_iload, i_ior, i_ireturn, i_ishl, i_ishr, i_istore, i_ixor, i_jmp, i_push, i_putf, msk, lset1, lset2, clr, Value.category, Option.toList, List.cons_append, List.nil_append, List.length_cons, List.length_nil, ek, z1, m3, nI_1]
  have s0 := st 0 (by decide) (f + 5)
  have s1 := st 1 (by decide) (f + 3)
  have s2 := st 2 (by decide) (f + 1)
  rw [nI_0] at s0
  have e : mw b m 0 = m := rfl
  rw [e] at s0
  rw [s0, s1, s2, ← mw_3 b hb h0 m hm]
  generalize mw b m (2 + 1) = X
  simp [jX11_bars, bX11_bars_0, bX11_bars_1, bX11_bars_2, bX11_bars_3, bX11_bars_4, i_aload, i_getf, i_iaload, i_iand, i_icge, i_icne, i_ifle, i_ifne, i_iinc, i_iload, i_ior, i_ireturn, i_ishl, i_ishr, i_istore, i_ixor, i_jmp, i_push, i_putf, msk, lset1, lset2, clr, Value.category, Option.toList, List.cons_append, List.nil_append, List.length_cons, List.length_nil, (show (3 : Int32) ≤ nI 3 from by decide), nI_1]
theorem rl_nil {δ : DE} : ∀ {n : Nat}, (rl δ n).length = 0 → ∀ m, m < n → br δ m ≠ 0
  | 0, _, m, h => by omega
  | n + 1, h, m, hm => by
    unfold rl at h
    split at h
    · simp at h
    · next z =>
      by_cases y : m = n
      · subst y; exact z
      · exact rl_nil h m (by omega)
theorem bars_r {g : GE} {w : Mem} {M fed kept : Nat} {fp : Int32} {tp : Nat → Int32} {rf : Nat → Nat} {δ : DE} {τ : TE} {im : Nat → TE} {x : Nat → Int32} (hg : FU g) (hd : WF δ) (hI : RI w M fed kept fp tp rf δ τ im x) : RQo w M fed kept fp tp rf δ τ im (fX11_bars g [.ref M] w) (barsO δ) := by
  obtain ⟨w0, hw0, I0, F0⟩ := hI.t0
  obtain ⟨b1, b2, b3, b4, b5, b6, b7, b8⟩ := id hd.1
  obtain ⟨hO, hXO, hRK, hRZ, hrf⟩ := id I0
  obtain ⟨x1', x3', x27, x32, x33, x34⟩ := id hXO
  obtain ⟨hTp, hD, hR, hCp, hHb, hKp, hRP⟩ := id hRK
  have hn := nR_le hd
  have x0' : (va_up x 0 0) 0 = 0 := va_up_self _ _ _
  obtain ⟨N, hN⟩ : ∃ N, g.1 = N + 2 := ⟨g.1 - 2, by omega⟩
  unfold barsO
  by_cases z0 : nR δ = 0
  · rw [if_pos z0]
    have z1 : nI (nR δ) ≤ 0 := by rw [z0]; decide
    have hnz : ∀ m, m < δ.1 6 → br δ m ≠ 0 := rl_nil z0
    obtain ⟨N2, hN2⟩ : ∃ N, g.1 = (N + 5 + 8 * δ.1 6) + 1 := ⟨g.1 - (8 * δ.1 6 + 6), by omega⟩
    have L := lpC (fun f (s : Lv × Mem) => jX11_bars g f 1 [] s.1 s.2) (fun i s => s.1 = [some (.ref M), some (.int (nI (obK δ i))), some (.int (nI i)), none, none] ∧ RW w0 M (va_up x 0 0) s.2) 8 (δ.1 6)
      (fun i s hi hI f => by
        obtain ⟨e1, k⟩ := hI
        obtain ⟨y0, y1, w1, w2, o0, o1, o2, d0, d2, q1, q2, q3, k2⟩ := k.st hg hd hD (row := i) (est := δ.1 4) (by omega) (-1) (by omega)
        have hb7 : br δ i ≤ 7 := br_le δ (-1) (δ.1 4) (vr δ i)
        have BI := barsIn (g := g) (w := w2) (M := M) (b := br δ i) (m := obK δ i) (row := i) (by omega) (hnz i hi) (obK_le δ i) f
        refine ⟨f, ([some (.ref M), some (.int (nI (obK δ (i + 1)))), some (.int (nI (i + 1))), none, none], w2), Nat.le_refl _, ⟨rfl, k2⟩, ?_⟩
        have e9 : obK δ (i + 1) = if pc8 (br δ i) = 1 then obK δ i ||| br δ i else obK δ i := rfl
        show jX11_bars g (f + 8) 1 [] s.1 s.2 = jX11_bars g f 1 [] [some (.ref M), some (.int (nI (obK δ (i + 1)))), some (.int (nI (i + 1))), none, none] w2
        rw [e9, ← BI]
        rw [show f + 8 = (f + 7) + 1 from rfl]
        generalize f + 7 = F
        generalize obK δ i = X at e1 ⊢
        simp [jX11_bars, bX11_bars_0, bX11_bars_1, bX11_bars_2, bX11_bars_3, bX11_bars_4, i_aload, i_getf, i_iaload, i_iand, i_icge, i_icne, i_ifle, i_ifne, i_iinc, i_iload, i_ior, i_ireturn, i_ishl, i_ishr, i_istore, i_ixor, i_jmp, i_push, i_putf, msk, lset1, lset2, clr, Value.category, Option.toList, List.cons_append, List.nil_append, List.length_cons, List.length_nil, e1, gf_eq o0, mg_11, d0.1.rc 6 6 rfl (by decide) (by decide), nI_ge hi (by omega), cvk_1 o0 q1, cvk_1 o1 q2, gf_eq o2, d2.1.rc 4 4 rfl (by decide) (by decide), cvk_1 o2 q3])
    obtain ⟨f1, s1, h1, ⟨e1, k1⟩, h3⟩ := L (δ.1 6) 0 ([some (.ref M), some (.int (nI (obK δ 0))), some (.int (nI 0)), none, none], w0) (by omega) ⟨rfl, ⟨_, hO, fun _ _ => rfl⟩, hRZ.1, Fr.rf _ _⟩ (N2 + 5)
    obtain ⟨f2, rfl⟩ : ∃ z, f1 = z + 5 := ⟨f1 - 5, by omega⟩
    obtain ⟨x9, I9, k9⟩ := I0.rw k1
    have c6 := (hD.fr k1.2.2 (fun j h1 h2 => by unfold rg; omega)).1.rc 6 6 rfl (by decide) (by decide)
    refine RQo.ok F0 I9 (by rw [k9 _ (by decide)]; exact x0') ?_ (k1.2.2.mn fun a ha => by unfold rg at *; omega)
    have lo := obK_le δ (δ.1 6)
    have L4 := lpR (fun f (s : Lv) => jX11_bars g f 4 [] s s1.2) (fun k s => s = [none, some (.int (nI (obK δ (δ.1 6)))), some (.int (nI k)), none, none] ∧ ∀ j, j < k → (obK δ (δ.1 6) / 2 ^ j % 2 == 1) = false)
      (fun z => z = some (.inl (some (.int (lawK (obK δ (δ.1 6))))), s1.2)) 1 1 3
      (fun k s hk hI f => by
        obtain ⟨e1, e2⟩ := hI
        subst e1
        have m := law_b _ lo k hk
        have ek : ¬ (3 : Int32) ≤ nI k := nI_ge hk (by decide)
        cases hb : (obK δ (δ.1 6) / 2 ^ k % 2 == 1) with
        | true =>
          left
          have m1 := m.mpr hb
          unfold lawK
          rw [fsB_some (p := fun l => obK δ (δ.1 6) / 2 ^ l % 2 == 1) hk hb e2]
          simp [jX11_bars, bX11_bars_0, bX11_bars_1, bX11_bars_2, bX11_bars_3, bX11_bars_4, i_aload, i_getf, i_iaload, i_iand, i_icge, i_icne, i_ifle, i_ifne, i_iinc, i_iload, i_ior, i_ireturn, i_ishl, i_ishr, i_istore, i_ixor, i_jmp, i_push, i_putf, msk, lset1, lset2, clr, Value.category, Option.toList, List.cons_append, List.nil_append, List.length_cons, List.length_nil, ek, m1, oI]
        | false =>
          have m1 := mt m.mp (by rw [hb]; exact Bool.false_ne_true)
          refine Or.inr ⟨f, _, Nat.le_refl _, ⟨rfl, fun j hj => ?_⟩, ?_⟩
          · by_cases y : j = k
            · subst y; exact hb
            · exact e2 j (by omega)
          · simp [jX11_bars, bX11_bars_0, bX11_bars_1, bX11_bars_2, bX11_bars_3, bX11_bars_4, i_aload, i_getf, i_iaload, i_iand, i_icge, i_icne, i_ifle, i_ifne, i_iinc, i_iload, i_ior, i_ireturn, i_ishl, i_ishr, i_istore, i_ixor, i_jmp, i_push, i_putf, msk, lset1, lset2, clr, Value.category, Option.toList, List.cons_append, List.nil_append, List.length_cons, List.length_nil, ek, m1, nI_1])
      (fun s hI f => by
        obtain ⟨e1, e2⟩ := hI
        subst e1
        unfold lawK
        rw [fsB_none e2]
        simp [jX11_bars, bX11_bars_0, bX11_bars_1, bX11_bars_2, bX11_bars_3, bX11_bars_4, i_aload, i_getf, i_iaload, i_iand, i_icge, i_icne, i_ifle, i_ifne, i_iinc, i_iload, i_ior, i_ireturn, i_ishl, i_ishr, i_istore, i_ixor, i_jmp, i_push, i_putf, msk, lset1, lset2, clr, Value.category, Option.toList, List.cons_append, List.nil_append, List.length_cons, List.length_nil, (show (3 : Int32) ≤ nI 3 from by decide), oI])
    have L5 := L4 3 0 [none, some (.int (nI (obK δ (δ.1 6)))), some (.int (nI 0)), none, none] (by omega) ⟨rfl, fun j hj => by omega⟩ (f2 + 4) (by omega)
    simp only [nI_0] at L5 h3
    rw [← L5]
    have e : fX11_bars g [.ref M] w = jX11_bars g (N2 + 5 + 8 * δ.1 6) 1 [] [some (.ref M), some (.int (nI (obK δ 0))), some (.int 0), none, none] w0 := by
      generalize N2 + 5 + 8 * δ.1 6 = F at hN2 ⊢
      simp [fX11_bars, kX11_bars, ent, entp, jX11_bars, bX11_bars_0, bX11_bars_1, bX11_bars_2, bX11_bars_3, bX11_bars_4, i_aload, i_getf, i_iaload, i_iand, i_icge, i_icne, i_ifle, i_ifne, i_iinc, i_iload, i_ior, i_ireturn, i_ishl, i_ishr, i_istore, i_ixor, i_jmp, i_push, i_putf, msk, lset1, lset2, clr, Value.category, Option.toList, List.cons_append, List.nil_append, List.length_cons, List.length_nil, hN2, st_0 hI.1, hw0, gf_eq hO, mg_27, x27, z1, obK, nI_0]
    rw [e, h3, e1]
    generalize obK δ (δ.1 6) = X
    rw [show f2 + 5 = (f2 + 4) + 1 from rfl]
    generalize f2 + 4 = F
    simp [jX11_bars, bX11_bars_0, bX11_bars_1, bX11_bars_2, bX11_bars_3, bX11_bars_4, i_aload, i_getf, i_iaload, i_iand, i_icge, i_icne, i_ifle, i_ifne, i_iinc, i_iload, i_ior, i_ireturn, i_ishl, i_ishr, i_istore, i_ixor, i_jmp, i_push, i_putf, msk, lset1, lset2, clr, Value.category, Option.toList, List.cons_append, List.nil_append, List.length_cons, List.length_nil, gf_eq I9.1, mg_11, c6]
  · rw [if_neg z0]
    have z1 := nI_nle (n := nR δ) (by omega) (by omega)
    refine RQo.ok F0 I0 x0' ?_ (Fr.rf _ _)
    simp [fX11_bars, kX11_bars, ent, entp, jX11_bars, bX11_bars_0, bX11_bars_1, bX11_bars_2, bX11_bars_3, bX11_bars_4, i_aload, i_getf, i_iaload, i_iand, i_icge, i_icne, i_ifle, i_ifne, i_iinc, i_iload, i_ior, i_ireturn, i_ishl, i_ishr, i_istore, i_ixor, i_jmp, i_push, i_putf, msk, lset1, lset2, clr, Value.category, Option.toList, List.cons_append, List.nil_append, List.length_cons, List.length_nil, hN, st_0 hI.1, hw0, gf_eq hO, mg_27, x27, z1]
/-! rows, struck -/
theorem rs_eq (δ : DE) (x : Nat) : ∀ n, rsK δ x n = cntF (fun m => brK δ (-1) x (vr δ m) == 0) n
  | 0 => rfl
  | n + 1 => by
    unfold rsK cntF
    rw [rs_eq δ x n]
    congr 1
    have h4 := lsK_04 δ (cK δ (-1) (vr δ n) (δ.1 2)) (δ.1 0)
    have e : (br δ n < 2 ∧ sK δ (-1) (vr δ n) (δ.1 2) = x) ↔ ((brK δ (-1) x (vr δ n) == 0) = true) := by
      rw [beq_iff_eq]
      unfold br brK
      generalize lsK δ (cK δ (-1) (vr δ n) (δ.1 2)) (δ.1 0) = A at h4 ⊢
      generalize sK δ (-1) (vr δ n) (δ.1 2) = S
      generalize twK δ (-1) (vr δ n) (δ.1 2) = T
      constructor
      · rintro ⟨q1, q2⟩
        rw [if_pos q2]
        split at q1 <;> split at q1 <;> rcases h4 with h4 | h4 <;> simp_all <;> omega
      · intro q
        split at q <;> split at q <;> rcases h4 with h4 | h4 <;> simp_all <;> split <;> omega
    by_cases z : br δ n < 2 ∧ sK δ (-1) (vr δ n) (δ.1 2) = x
    · rw [if_pos z, if_pos (e.mp z)]
    · rw [if_neg z, if_neg (mt e.mpr z)]
def rowsO (δ : DE) (x0 : Int32) : OUT := 
  match rng x0 (999 + 1) with
  | none => .inr (1, 2)
  | some n0 =>
    .inl (.int (nI (cntF (fun m => brK δ (-1) n0 (vr δ m) == 0) (δ.1 6))))
theorem rows_c {g : GE} {w : Mem} {B E fed kept : Nat} {fp : Int32} {tp : Nat → Int32} {rf : Nat → Nat} {δ : DE} {τ : TE} {im : Nat → TE} {lev nG : Nat} (hg : GD g) (hE : B + 132 ≤ E) (hI : CI g w B E fed kept fp tp rf δ τ im lev nG) (x0 : Int32) : CQ g w B E fed kept fp tp rf δ τ im lev nG (fX10_rows g [.ref B, .int x0] w) (rowsO δ x0) := by
  have hg1 := hg.1
  obtain ⟨D, D', hCC, hCT, hCN, hCL, hCM⟩ := id hI
  obtain ⟨hDD, hB, hTp, hD, hD', hSc, hr, hd, hfd, hkp⟩ := id hCC
  obtain ⟨aM, aS, aG, n1', hG, hX⟩ := id hCT
  have hT := hG.tb
  obtain ⟨N, hN⟩ : ∃ N, g.1 = N + 12 := ⟨g.1 - 12, by omega⟩
  unfold rowsO
  have q0 := needArgument_sp (g := g) hB hr (rng x0 (999 + 1)).isSome
  cases h0 : rng x0 (999 + 1) with
  | none =>
    rw [h0] at q0
    simp only [tst, Option.isSome, Bool.false_eq_true, if_false] at q0
    refine CQ.no hE hI ?_
    by_cases z : x0 < 0
    · simp [fX10_rows, kX10_rows, ent, entp, jX10_rows, bX10_rows_0, bX10_rows_1, bX10_rows_2, i_aload, i_getf, i_iaload, i_icge, i_iflt, i_iload, i_ireturn, i_jmp, i_push, msk, lset1, lset2, clr, Value.category, Option.toList, List.cons_append, List.nil_append, List.length_cons, List.length_nil, hN, z, cxe_1 hB q0]
    · have z2 : (1000 : Int32) ≤ x0 := by
        rcases rng_none (by decide) h0 with q | q
        · exact absurd q z
        · exact q
      simp [fX10_rows, kX10_rows, ent, entp, jX10_rows, bX10_rows_0, bX10_rows_1, bX10_rows_2, i_aload, i_getf, i_iaload, i_icge, i_iflt, i_iload, i_ireturn, i_jmp, i_push, msk, lset1, lset2, clr, Value.category, Option.toList, List.cons_append, List.nil_append, List.length_cons, List.length_nil, hN, z, z2, cxe_1 hB q0]
  | some n0 =>
    rw [h0] at q0
    simp only [tst, Option.isSome, if_true] at q0
    obtain ⟨l0, e0⟩ := rng_some (by omega) h0
    subst e0
    have z1 : ¬ nI n0 < 0 := nI_pos (by omega)
    have z2 : ¬ (1000 : Int32) ≤ nI n0 := nI_ge l0 (by decide)
    obtain ⟨fM, fS, -, -, -, -, -, -, -, hrs⟩ := id hG
    refine CQ.ok hI ?_
    have e := rs_eq δ n0 (δ.1 6)
    show fX10_rows g [.ref B, .int (nI n0)] w = some (.inl (some (.int (nI (cntF (fun m => brK δ (-1) n0 (vr δ m) == 0) (δ.1 6))))), w)
    rw [← e]
    simp [fX10_rows, kX10_rows, ent, entp, jX10_rows, bX10_rows_0, bX10_rows_1, bX10_rows_2, i_aload, i_getf, i_iaload, i_icge, i_iflt, i_iload, i_ireturn, i_jmp, i_push, msk, lset1, lset2, clr, Value.category, Option.toList, List.cons_append, List.nil_append, List.length_cons, List.length_nil, hN, z1, z2, cxk_1 hB q0, gf_eq hB, gf_eq hT, hrs.rd (j := n0) (by omega) (by decide)]
theorem rows_r {g : GE} {w : Mem} {M fed kept : Nat} {fp : Int32} {tp : Nat → Int32} {rf : Nat → Nat} {δ : DE} {τ : TE} {im : Nat → TE} {x : Nat → Int32} (hg : FU g) (hd : WF δ) (hI : RI w M fed kept fp tp rf δ τ im x) (x0 : Int32) : RQo w M fed kept fp tp rf δ τ im (fX11_rows g [.ref M, .int x0] w) (rowsO δ x0) := by
  obtain ⟨w0, hw0, I0, F0⟩ := hI.t0
  obtain ⟨b1, b2, b3, b4, b5, b6, b7, b8⟩ := id hd.1
  obtain ⟨hO, hXO, hRK, hRZ, hrf⟩ := id I0
  obtain ⟨x1', x3', x27, x32, x33, x34⟩ := id hXO
  obtain ⟨hTp, hD, hR, hCp, hHb, hKp, hRP⟩ := id hRK
  have hn := nR_le hd
  have x0' : (va_up x 0 0) 0 = 0 := va_up_self _ _ _
  obtain ⟨N, hN⟩ : ∃ N, g.1 = N + 2 := ⟨g.1 - 2, by omega⟩
  unfold rowsO
  have q0 := in_sp (w := w0) hg x0 (n := 999 + 1) (y := 999) (by decide) (by decide)
  cases h0 : rng x0 (999 + 1) with
  | none =>
    rw [h0] at q0
    simp only [bI, Option.isSome, Bool.false_eq_true, if_false] at q0
    obtain ⟨w1, p1, p2, p3⟩ := bad1_sp hg I0 x0' (c := 1) (r := 2) (C := 1) (R := 2) rfl rfl (by decide) (by decide)
    refine RQo.no (v := .int 0) F0 p2 ?_ p3
    simp [fX11_rows, kX11_rows, ent, entp, jX11_rows, bX11_rows_0, bX11_rows_1, bX11_rows_2, bX11_rows_3, i_aload, i_getf, i_iadd, i_iaload, i_icge, i_ifeq, i_ifne, i_iinc, i_iload, i_ireturn, i_istore, i_jmp, i_push, i_putf, msk, lset1, lset2, clr, Value.category, Option.toList, List.cons_append, List.nil_append, List.length_cons, List.length_nil, hN, st_0 hI.1, hw0, csk_3 q0, cvk_3 hO p1]
  | some n0 =>
    rw [h0] at q0
    simp only [bI, Option.isSome, if_true] at q0
    obtain ⟨l0, e0⟩ := rng_some (by omega) h0
    subst e0
    dsimp only
    obtain ⟨N2, hN2⟩ : ∃ N, g.1 = N + 3 := ⟨g.1 - 3, by omega⟩
    have L := lpR (fun f (s : Lv × Mem) => jX11_rows g f 2 [] s.1 s.2) (fun i s => s.1 = [some (.ref M), some (.int (nI n0)), some (.int (nI (cntF (fun m => brK δ (-1) n0 (vr δ m) == 0) i))), some (.int (nI i))] ∧ RW w0 M (va_up x 0 0) s.2)
      (fun z => ∃ w', z = some (.inl (some (.int (nI (cntF (fun m => brK δ (-1) n0 (vr δ m) == 0) (δ.1 6))))), w') ∧ RW w0 M (va_up x 0 0) w') 2 1 (δ.1 6)
      (fun i s hi hI f => by
        obtain ⟨e1, k⟩ := hI
        obtain ⟨y0, y1, w1, w2, o0, o1, o2, d0, d2, q1, q2, q3, k2⟩ := k.st hg hd hD (row := i) (est := n0) (by omega) (-1) (by omega)
        have lb : brK δ (-1) n0 (vr δ i) ≤ 7 := br_le _ _ _ _
        refine Or.inr ⟨f, ([some (.ref M), some (.int (nI n0)), some (.int (nI (cntF (fun m => brK δ (-1) n0 (vr δ m) == 0) (i + 1)))), some (.int (nI (i + 1)))], w2), Nat.le_refl _, ⟨rfl, k2⟩, ?_⟩
        by_cases z : brK δ (-1) n0 (vr δ i) = 0
        · have e9 : cntF (fun m => brK δ (-1) n0 (vr δ m) == 0) (i + 1) = cntF (fun m => brK δ (-1) n0 (vr δ m) == 0) i + 1 := by simp [cntF, z]
          rw [e9]
          have z1 : nI (brK δ (-1) n0 (vr δ i)) = 0 := by rw [z]; exact nI_0
          rw [z1] at q3
          generalize cntF (fun m => brK δ (-1) n0 (vr δ m) == 0) i = X at e1 ⊢
          simp [jX11_rows, bX11_rows_0, bX11_rows_1, bX11_rows_2, bX11_rows_3, i_aload, i_getf, i_iadd, i_iaload, i_icge, i_ifeq, i_ifne, i_iinc, i_iload, i_ireturn, i_istore, i_jmp, i_push, i_putf, msk, lset1, lset2, clr, Value.category, Option.toList, List.cons_append, List.nil_append, List.length_cons, List.length_nil, e1, gf_eq o0, mg_11, d0.1.rc 6 6 rfl (by decide) (by decide), nI_ge hi (by omega), cvk_1 o0 q1, cvk_1 o1 q2, cvk_1 o2 q3, nI_1]
        · have e9 : cntF (fun m => brK δ (-1) n0 (vr δ m) == 0) (i + 1) = cntF (fun m => brK δ (-1) n0 (vr δ m) == 0) i := by simp [cntF, z]
          rw [e9]
          have z1 := nI_ne0 (n := brK δ (-1) n0 (vr δ i)) (by omega) (by omega)
          generalize cntF (fun m => brK δ (-1) n0 (vr δ m) == 0) i = X at e1 ⊢
          generalize brK δ (-1) n0 (vr δ i) = Y at q3 z1
          simp [jX11_rows, bX11_rows_0, bX11_rows_1, bX11_rows_2, bX11_rows_3, i_aload, i_getf, i_iadd, i_iaload, i_icge, i_ifeq, i_ifne, i_iinc, i_iload, i_ireturn, i_istore, i_jmp, i_push, i_putf, msk, lset1, lset2, clr, Value.category, Option.toList, List.cons_append, List.nil_append, List.length_cons, List.length_nil, e1, gf_eq o0, mg_11, d0.1.rc 6 6 rfl (by decide) (by decide), nI_ge hi (by omega), cvk_1 o0 q1, cvk_1 o1 q2, cvk_1 o2 q3, z1, nI_1])
      (fun s hI f => by
        obtain ⟨e1, k⟩ := hI
        obtain ⟨⟨y0, o0, -⟩, -, F9⟩ := id k
        have d0 := hD.fr F9 (fun j h1 h2 => by unfold rg; omega)
        refine ⟨s.2, ?_, k⟩
        generalize cntF (fun m => brK δ (-1) n0 (vr δ m) == 0) (δ.1 6) = X at e1 ⊢
        simp [jX11_rows, bX11_rows_0, bX11_rows_1, bX11_rows_2, bX11_rows_3, i_aload, i_getf, i_iadd, i_iaload, i_icge, i_ifeq, i_ifne, i_iinc, i_iload, i_ireturn, i_istore, i_jmp, i_push, i_putf, msk, lset1, lset2, clr, Value.category, Option.toList, List.cons_append, List.nil_append, List.length_cons, List.length_nil, e1, gf_eq o0, mg_11, d0.1.rc 6 6 rfl (by decide) (by decide)])
    obtain ⟨w9, p1, p2⟩ := L (δ.1 6) 0 ([some (.ref M), some (.int (nI n0)), some (.int (nI 0)), some (.int (nI 0))], w0) (by omega) ⟨rfl, ⟨_, hO, fun _ _ => rfl⟩, hRZ.1, Fr.rf _ _⟩ (N2 + 1) (by omega)
    obtain ⟨x9, I9, k9⟩ := I0.rw p2
    refine RQo.ok F0 I9 (by rw [k9 _ (by decide)]; exact x0') ?_ (p2.2.2.mn fun a ha => by unfold rg at *; omega)
    simp only [nI_0] at p1
    rw [← p1]
    simp [fX11_rows, kX11_rows, ent, entp, jX11_rows, bX11_rows_0, bX11_rows_1, bX11_rows_2, bX11_rows_3, i_aload, i_getf, i_iadd, i_iaload, i_icge, i_ifeq, i_ifne, i_iinc, i_iload, i_ireturn, i_istore, i_jmp, i_push, i_putf, msk, lset1, lset2, clr, Value.category, Option.toList, List.cons_append, List.nil_append, List.length_cons, List.length_nil, hN2, st_0 hI.1, hw0, csk_3 q0, cvk_3 hO (bad0_sp hg hO x0' 1 2)]
theorem countWithout_sp {g : GE} (hg : GD g) {w : Mem} {tb E D aM aS aG n1 lev k : Nat} {δ : DE} {v d c o : Nat → Int32} {su tw : Int32} (hd : WF δ) (hD : DEED g w D δ) (hDt : D + 35 ≤ tb) (hG : GT g w tb E D δ (δ.1 6) aM aS aG n1 lev) (hR : ROW w (tb + 5) v d c o su tw) :
    ∃ w', fX7_countWithout g [.ref tb, .int (nI k)] w = some (.inl (some (.int (nI (skK δ k)))), w') ∧ (∃ v d c o su tw, ROW w' (tb + 5) v d c o su tw) ∧ Fr (rg (tb + 5) (tb + 10)) w w' := by
  have hg1 := hg.1
  obtain ⟨b1, b2, b3, b4, b5, b6, b7, b8⟩ := id hd.1
  have hT := hG.tb
  have ht : ∀ u, Fr (rg (tb + 5) (tb + 10)) w u → TB u tb aM aS aG D (nR δ) (obK δ (δ.1 6)) ∧ DEED g u D δ := fun u hu => ⟨hu.at hT (by unfold rg; omega), hD.fr hu (fun i hi => by unfold rg; omega)⟩
  obtain ⟨N, hN⟩ : ∃ N, g.1 = N + 1 := ⟨g.1 - 1, by omega⟩
  have L := lpR (fun f (s : Lv × Mem) => jX7_countWithout g f 1 [] s.1 s.2) (fun i s => s.1 = [some (.ref tb), some (.int (nI k)), some (.int (nI (cntF (fun m => brK δ (nI k) (δ.1 4) (vr δ m) == 0) i))), some (.int (nI i))] ∧ (∃ v d c o su tw, ROW s.2 (tb + 5) v d c o su tw ∧ RS δ (dg δ i) s.2 (tb + 5) v d) ∧ Fr (rg (tb + 5) (tb + 10)) w s.2)
    (fun z => ∃ w', z = some (.inl (some (.int (nI (skK δ k)))), w') ∧ (∃ v d c o su tw, ROW w' (tb + 5) v d c o su tw) ∧ Fr (rg (tb + 5) (tb + 10)) w w') 2 1 (δ.1 6)
    (fun i s hi hI f => by
      obtain ⟨e1, ⟨v1, d1, c1, o1, su1, tw1, r1, r2⟩, F1⟩ := hI
      obtain ⟨t1, D1⟩ := ht _ F1
      obtain ⟨w2, q1, q2, q3⟩ := reckon_sp hg D1 r1 (Or.inl (by omega)) hd (vr_VD hd i) r2.1 (nI k)
      have q3' : Fr (rg (tb + 5) (tb + 10)) s.2 w2 := q3
      obtain ⟨t2, D2⟩ := ht _ (F1.tr q3')
      have q4 := broken_sp hg1 D2 q2 hd (vr_VD hd i)
      have lb : brK δ (nI k) (δ.1 4) (vr δ i) ≤ 7 := br_le _ _ _ _
      obtain ⟨w3, v3, d3, p1, p2, p3, p4⟩ := showNext_sp hg1 D2 q2 (dd := dg δ i) ⟨r2.1, r2.2⟩ (fun b hb => dg_lt hd i hb) (Or.inl (by omega)) hd
      have p4' : Fr (rg (tb + 5) (tb + 10)) w2 w3 := p4
      refine Or.inr ⟨f, ([some (.ref tb), some (.int (nI k)), some (.int (nI (cntF (fun m => brK δ (nI k) (δ.1 4) (vr δ m) == 0) (i + 1)))), some (.int (nI (i + 1)))], w3), Nat.le_refl _, ⟨rfl, ⟨v3, d3, _, _, _, _, p2, RS.cg (w' := w3) p3 (fun b hb => nx_row hd i b hb)⟩, (F1.tr q3').tr p4'⟩, ?_⟩
      by_cases z : brK δ (nI k) (δ.1 4) (vr δ i) = 0
      · have e9 : cntF (fun m => brK δ (nI k) (δ.1 4) (vr δ m) == 0) (i + 1) = cntF (fun m => brK δ (nI k) (δ.1 4) (vr δ m) == 0) i + 1 := by simp [cntF, z]
        rw [e9]
        have z1 : nI (brK δ (nI k) (δ.1 4) (vr δ i)) = 0 := by rw [z]; exact nI_0
        rw [z1] at q4
        generalize cntF (fun m => brK δ (nI k) (δ.1 4) (vr δ m) == 0) i = X at e1 ⊢
        simp [jX7_countWithout, bX7_countWithout_0, bX7_countWithout_1, bX7_countWithout_2, i_aload, i_getf, i_icge, i_ifne, i_iinc, i_iload, i_ireturn, i_istore, i_jmp, i_push, msk, lset1, lset2, clr, Value.category, Option.toList, List.cons_append, List.nil_append, List.length_cons, List.length_nil, e1, gf_eq t1, gf_eq D1.1, nI_ge hi (by omega), cvk_2 r1.1 q1, gf_eq t2, cvk_1 q2.1 q4, cvk_1 q2.1 p1, nI_1]
      · have e9 : cntF (fun m => brK δ (nI k) (δ.1 4) (vr δ m) == 0) (i + 1) = cntF (fun m => brK δ (nI k) (δ.1 4) (vr δ m) == 0) i := by simp [cntF, z]
        rw [e9]
        have z1 := nI_ne0 (n := brK δ (nI k) (δ.1 4) (vr δ i)) (by omega) (by omega)
        generalize cntF (fun m => brK δ (nI k) (δ.1 4) (vr δ m) == 0) i = X at e1 ⊢
        generalize brK δ (nI k) (δ.1 4) (vr δ i) = Y at q4 z1
        simp [jX7_countWithout, bX7_countWithout_0, bX7_countWithout_1, bX7_countWithout_2, i_aload, i_getf, i_icge, i_ifne, i_iinc, i_iload, i_ireturn, i_istore, i_jmp, i_push, msk, lset1, lset2, clr, Value.category, Option.toList, List.cons_append, List.nil_append, List.length_cons, List.length_nil, e1, gf_eq t1, gf_eq D1.1, nI_ge hi (by omega), cvk_2 r1.1 q1, gf_eq t2, cvk_1 q2.1 q4, z1, cvk_1 q2.1 p1, nI_1])
    (fun s hI f => by
      obtain ⟨e1, ⟨v1, d1, c1, o1, su1, tw1, r1, r2⟩, F1⟩ := hI
      obtain ⟨t1, D1⟩ := ht _ F1
      refine ⟨s.2, ?_, ⟨v1, d1, c1, o1, su1, tw1, r1⟩, F1⟩
      have e9 : skK δ k = cntF (fun m => brK δ (nI k) (δ.1 4) (vr δ m) == 0) (δ.1 6) := rfl
      rw [e9]
      generalize cntF (fun m => brK δ (nI k) (δ.1 4) (vr δ m) == 0) (δ.1 6) = X at e1 ⊢
      simp [jX7_countWithout, bX7_countWithout_0, bX7_countWithout_1, bX7_countWithout_2, i_aload, i_getf, i_icge, i_ifne, i_iinc, i_iload, i_ireturn, i_istore, i_jmp, i_push, msk, lset1, lset2, clr, Value.category, Option.toList, List.cons_append, List.nil_append, List.length_cons, List.length_nil, e1, gf_eq t1, gf_eq D1.1])
  obtain ⟨w1, v1, d1, q1, q2, q3, q4⟩ := showFirst_sp hg1 hD hR (Or.inl (by omega)) hd
  have q4' : Fr (rg (tb + 5) (tb + 10)) w w1 := q4
  have L1 := L (δ.1 6) 0 ([some (.ref tb), some (.int (nI k)), some (.int (nI 0)), some (.int (nI 0))], w1) (by omega) ⟨rfl, ⟨v1, d1, _, _, _, _, q2, RS.cg (w' := w1) q3 (fun b _ => (dg_0 δ b).symm)⟩, q4'⟩ N (by omega)
  simp only [nI_0] at L1
  have e : fX7_countWithout g [.ref tb, .int (nI k)] w = jX7_countWithout g N 1 [] [some (.ref tb), some (.int (nI k)), some (.int 0), some (.int 0)] w1 := by
    simp [fX7_countWithout, kX7_countWithout, ent, entp, jX7_countWithout, bX7_countWithout_0, bX7_countWithout_1, bX7_countWithout_2, i_aload, i_getf, i_icge, i_ifne, i_iinc, i_iload, i_ireturn, i_istore, i_jmp, i_push, msk, lset1, lset2, clr, Value.category, Option.toList, List.cons_append, List.nil_append, List.length_cons, List.length_nil, hN, gf_eq hT, cvk_1 hR.1 q1]
  rw [e]
  exact L1
theorem lawfulWithout_sp {g : GE} (hg : GD g) {w : Mem} {tb E D aM aS aG n1 lev k : Nat} {δ : DE} {v d c o c4 : Nat → Int32} {su tw : Int32} (hd : WF δ) (hD : DEED g w D δ) (hDt : D + 35 ≤ tb) (hG : GT g w tb E D δ (δ.1 6) aM aS aG n1 lev) (hR : ROW w (tb + 5) v d c o su tw) (h4 : IA w (tb + 11) 9 c4) (k4 : ∀ k, k < δ.1 2 → c4 k = -1 ∨ c4 k = nI (skK δ k)) (hk : k < δ.1 2) :
    ∃ w' c', fX7_lawfulWithout g [.ref tb, .int (nI k)] w = some (.inl (some (.int (nI (skK δ k)))), w') ∧ (∃ v d c o su tw, ROW w' (tb + 5) v d c o su tw) ∧ IA w' (tb + 11) 9 c' ∧ (∀ k, k < δ.1 2 → c' k = -1 ∨ c' k = nI (skK δ k)) ∧ Fr (fun a => rg (tb + 5) (tb + 10) a ∨ a = tb + 11) w w' := by
  have hg1 := hg.1
  obtain ⟨b1, b2, b3, b4, b5, b6, b7, b8⟩ := id hd.1
  have hT := hG.tb
  have ls : skK δ k ≤ δ.1 6 := cntF_le _ _
  have nn := nI_nn (y := skK δ k) (by omega)
  obtain ⟨N, hN⟩ : ∃ N, g.1 = N + 2 := ⟨g.1 - 2, by omega⟩
  rcases k4 k hk with z | z
  · obtain ⟨w1, q1, q2, q3⟩ := countWithout_sp (k := k) hg hd hD hDt hG hR
    have h4' := h4.fr q3 (by unfold rg; omega)
    have t1 : TB w1 tb aM aS aG D (nR δ) (obK δ (δ.1 6)) := q3.at hT (by unfold rg; omega)
    obtain ⟨w2, hw2⟩ : ∃ q, wi w1 0 (tb + 11) k (nI (skK δ k)) = q := ⟨_, rfl⟩
    have F2 : Fr (fun a => a = tb + 11) w1 w2 := hw2 ▸ Fr.wi _ _ _ _ rfl
    have h42 := h4'.up k (nI (skK δ k))
    rw [hw2] at h42
    have t2 : TB w2 tb aM aS aG D (nR δ) (obK δ (δ.1 6)) := F2.at t1 (by omega)
    obtain ⟨v2, d2, c2, o2, su2, tw2, q2⟩ := q2
    refine ⟨w2, _, ?_, ⟨v2, d2, c2, o2, su2, tw2, q2.fr F2 (fun i hi => by omega)⟩, h42, fun j hj => ?_, (q3.mn fun a h => Or.inl h).tr (F2.mn fun a h => Or.inr h)⟩
    · simp [fX7_lawfulWithout, kX7_lawfulWithout, ent, entp, jX7_lawfulWithout, bX7_lawfulWithout_0, bX7_lawfulWithout_1, i_aload, i_getf, i_iaload, i_iastore, i_icne, i_iload, i_ireturn, i_jmp, i_push, msk, lset1, lset2, clr, Value.category, Option.toList, List.cons_append, List.nil_append, List.length_cons, List.length_nil, hN, gf_eq hT, h4.rd (j := k) (by omega) (by decide), z, cvk_1 hT q1, h4'.wr (j := k) (by omega) (by decide), hw2, gf_eq t2, h42.rd (j := k) (by omega) (by decide), va_up_self]
    · by_cases y : j = k
      · subst y; exact Or.inr (va_up_self _ _ _)
      · rw [va_up_ne _ _ y]; exact k4 j hj
  · refine ⟨w, c4, ?_, ⟨v, d, c, o, su, tw, hR⟩, h4, k4, Fr.rf _ _⟩
    simp [fX7_lawfulWithout, kX7_lawfulWithout, ent, entp, jX7_lawfulWithout, bX7_lawfulWithout_0, bX7_lawfulWithout_1, i_aload, i_getf, i_iaload, i_iastore, i_icne, i_iload, i_ireturn, i_jmp, i_push, msk, lset1, lset2, clr, Value.category, Option.toList, List.cons_append, List.nil_append, List.length_cons, List.length_nil, hN, gf_eq hT, h4.rd (j := k) (by omega) (by decide), z, nn]
theorem CI.sk {g : GE} {w w' : Mem} {B E fed kept : Nat} {fp : Int32} {tp : Nat → Int32} {rf : Nat → Nat} {δ : DE} {τ : TE} {im : Nat → TE} {lev nG : Nat} (hE : B + 132 ≤ E) (h : CI g w B E fed kept fp tp rf δ τ im lev nG) (k : Fr (fun a => rg (B + 73 + 5) (B + 73 + 10) a ∨ a = B + 73 + 11) w w') {c' : Nat → Int32} (hr : ∃ v d c o su tw, ROW w' (B + 73 + 5) v d c o su tw) (hc : IA w' (B + 73 + 11) 9 c') (hk : ∀ k, k < δ.1 2 → c' k = -1 ∨ c' k = nI (skK δ k)) : CI g w' B E fed kept fp tp rf δ τ im lev nG := by
  obtain ⟨D, D', h1, ⟨aM, aS, aG, n1, hG, hX⟩, h3, h4, h5⟩ := h
  have hA : aG ≠ B + 84 ∧ ¬ rg (B + 73 + 5) (B + 73 + 10) aG ∧ ¬ rg (B + 73 + 5) (B + 73 + 10) aM ∧ ¬ rg (B + 73 + 5) (B + 73 + 10) aS := by
    obtain ⟨fM, fS, hT, hM, hS, ⟨t1, t2, t3, t4, t5, t6, t7, t8, t9, t10, t11⟩, -⟩ := id hG
    unfold rg
    omega
  obtain ⟨a1, a2, a3, a4⟩ := hA
  have nk := hG.nk (k := 11) (by decide) (by decide)
  obtain ⟨⟨c1, x1⟩, -, ⟨c3, x3⟩, -, ⟨c5, x5, k5⟩, ⟨c6, x6⟩, x7⟩ := hX
  refine ⟨D, D', h1.fr k (fun i hi => by unfold rg; omega) (by unfold rg; omega), ⟨aM, aS, aG, n1, hG.fr k (by unfold rg; omega) (fun q => ?_) (fun q => ?_) (by unfold rg; omega), ⟨c1, x1.fr k (by unfold rg; omega)⟩, hr, ⟨c3, x3.fr k (by unfold rg; omega)⟩, ⟨c', hc, hk⟩, ⟨c5, x5.fr k (by unfold rg; omega), k5⟩, ⟨c6, x6.fr k (fun q => ?_)⟩, x7⟩, h3.fr k (fun i z1 z2 => by unfold rg; omega), h4.fr k (fun i z1 z2 => by unfold rg; omega), h5.fr k (fun i z1 z2 => by unfold rg; omega)⟩
  · rcases q with q | q
    · exact a3 q
    · exact nk.1 q
  · rcases q with q | q
    · exact a4 q
    · exact nk.2 q
  · rcases q with q | q
    · exact a2 q
    · exact a1 q
def struckO (δ : DE) (x0 : Int32) : OUT := 
  match rng x0 (δ.1 2) with
  | none => .inr (1, 0)
  | some n0 =>
    .inl (.int (nI (skK δ n0)))
theorem struck_c {g : GE} {w : Mem} {B E fed kept : Nat} {fp : Int32} {tp : Nat → Int32} {rf : Nat → Nat} {δ : DE} {τ : TE} {im : Nat → TE} {lev nG : Nat} (hg : GD g) (hE : B + 132 ≤ E) (hI : CI g w B E fed kept fp tp rf δ τ im lev nG) (x0 : Int32) : CQ g w B E fed kept fp tp rf δ τ im lev nG (fX10_struck g [.ref B, .int x0] w) (struckO δ x0) := by
  have hg1 := hg.1
  obtain ⟨D, D', hCC, hCT, hCN, hCL, hCM⟩ := id hI
  obtain ⟨hDD, hB, hTp, hD, hD', hSc, hr, hd, hfd, hkp⟩ := id hCC
  obtain ⟨aM, aS, aG, n1', hG, hX⟩ := id hCT
  obtain ⟨b1, b2, b3, b4, b5, b6, b7, b8⟩ := id hd.1
  have hT := hG.tb
  have hn := nR_le hd
  obtain ⟨N, hN⟩ : ∃ N, g.1 = N + 12 := ⟨g.1 - 12, by omega⟩
  unfold struckO
  have q0 := needIndex_sp hg1 hB hr x0 (n := δ.1 2) (by omega)
  cases h0 : rng x0 (δ.1 2) with
  | none =>
    rw [h0] at q0
    simp only [tst, Option.isSome, Bool.false_eq_true, if_false] at q0
    refine CQ.no hE hI ?_
    simp [fX10_struck, kX10_struck, ent, entp, bX10_struck_0, i_aload, i_getf, i_iload, i_ireturn, msk, lset1, lset2, clr, Value.category, Option.toList, List.cons_append, List.nil_append, List.length_cons, List.length_nil, hN, gf_eq hB, gf_eq hD.1, cxe_2 hB q0]
  | some n0 =>
    rw [h0] at q0
    simp only [tst, Option.isSome, if_true] at q0
    obtain ⟨l0, e0⟩ := rng_some (by omega) h0
    subst e0
    dsimp only
    obtain ⟨-, ⟨v, d, c, o, su, tw, hRw⟩, -, ⟨c4, x4, k4⟩, -⟩ := id hX
    obtain ⟨w', c', q1, q2, q3, q4, q5⟩ := lawfulWithout_sp (k := n0) hg hd hD hCC.dt hG hRw x4 k4 l0
    refine CQ.okw (hI.sk hE q5 q2 q3 q4) ?_ (q5.mn fun a ha => CF.in (by unfold rg at ha; omega))
    simp [fX10_struck, kX10_struck, ent, entp, bX10_struck_0, i_aload, i_getf, i_iload, i_ireturn, msk, lset1, lset2, clr, Value.category, Option.toList, List.cons_append, List.nil_append, List.length_cons, List.length_nil, hN, gf_eq hB, gf_eq hD.1, cxk_2 hB q0, cvk_1 hT q1]
theorem struck_r {g : GE} {w : Mem} {M fed kept : Nat} {fp : Int32} {tp : Nat → Int32} {rf : Nat → Nat} {δ : DE} {τ : TE} {im : Nat → TE} {x : Nat → Int32} (hg : FU g) (hd : WF δ) (hI : RI w M fed kept fp tp rf δ τ im x) (x0 : Int32) : RQo w M fed kept fp tp rf δ τ im (fX11_struck g [.ref M, .int x0] w) (struckO δ x0) := by
  obtain ⟨w0, hw0, I0, F0⟩ := hI.t0
  obtain ⟨b1, b2, b3, b4, b5, b6, b7, b8⟩ := id hd.1
  obtain ⟨hO, hXO, hRK, hRZ, hrf⟩ := id I0
  obtain ⟨x1', x3', x27, x32, x33, x34⟩ := id hXO
  obtain ⟨hTp, hD, hR, hCp, hHb, hKp, hRP⟩ := id hRK
  have hn := nR_le hd
  have x0' : (va_up x 0 0) 0 = 0 := va_up_self _ _ _
  obtain ⟨N, hN⟩ : ∃ N, g.1 = N + 2 := ⟨g.1 - 2, by omega⟩
  unfold struckO
  have q0 := in_sp (w := w0) hg x0 (n := δ.1 2) rfl (by omega)
  cases h0 : rng x0 (δ.1 2) with
  | none =>
    rw [h0] at q0
    simp only [bI, Option.isSome, Bool.false_eq_true, if_false] at q0
    obtain ⟨w1, p1, p2, p3⟩ := bad1_sp hg I0 x0' (c := 1) (r := 0) (C := 1) (R := 0) rfl rfl (by decide) (by decide)
    refine RQo.no (v := .int 0) F0 p2 ?_ p3
    simp [fX11_struck, kX11_struck, ent, entp, jX11_struck, bX11_struck_0, bX11_struck_1, bX11_struck_2, bX11_struck_3, i_aload, i_getf, i_iadd, i_iaload, i_icge, i_ifeq, i_ifne, i_iinc, i_iload, i_ireturn, i_istore, i_isub, i_jmp, i_push, i_putf, msk, lset1, lset2, clr, Value.category, Option.toList, List.cons_append, List.nil_append, List.length_cons, List.length_nil, hN, st_0 hI.1, hw0, gf_eq hO, mg_11, hD.1.rc 2 2 rfl (by decide) (by decide), csk_3 q0, cvk_3 hO p1]
  | some n0 =>
    rw [h0] at q0
    simp only [bI, Option.isSome, if_true] at q0
    obtain ⟨l0, e0⟩ := rng_some (by omega) h0
    subst e0
    dsimp only
    unfold skK
    obtain ⟨N2, hN2⟩ : ∃ N, g.1 = N + 3 := ⟨g.1 - 3, by omega⟩
    have L := lpR (fun f (s : Lv × Mem) => jX11_struck g f 2 [] s.1 s.2) (fun i s => s.1 = [some (.ref M), some (.int (nI n0)), some (.int (nI (cntF (fun m => brK δ (nI n0) (δ.1 4) (vr δ m) == 0) i))), some (.int (nI i))] ∧ RW w0 M (va_up x 0 0) s.2)
      (fun z => ∃ w', z = some (.inl (some (.int (nI (cntF (fun m => brK δ (nI n0) (δ.1 4) (vr δ m) == 0) (δ.1 6))))), w') ∧ RW w0 M (va_up x 0 0) w') 2 1 (δ.1 6)
      (fun i s hi hI f => by
        obtain ⟨e1, k⟩ := hI
        obtain ⟨y0, y1, w1, w2, o0, o1, o2, d0, d2, q1, q2, q3, k2⟩ := k.st hg hd hD (row := i) (est := (δ.1 4)) (by omega) (nI n0) (by omega)
        have lb : brK δ (nI n0) (δ.1 4) (vr δ i) ≤ 7 := br_le _ _ _ _
        refine Or.inr ⟨f, ([some (.ref M), some (.int (nI n0)), some (.int (nI (cntF (fun m => brK δ (nI n0) (δ.1 4) (vr δ m) == 0) (i + 1)))), some (.int (nI (i + 1)))], w2), Nat.le_refl _, ⟨rfl, k2⟩, ?_⟩
        by_cases z : brK δ (nI n0) (δ.1 4) (vr δ i) = 0
        · have e9 : cntF (fun m => brK δ (nI n0) (δ.1 4) (vr δ m) == 0) (i + 1) = cntF (fun m => brK δ (nI n0) (δ.1 4) (vr δ m) == 0) i + 1 := by simp [cntF, z]
          rw [e9]
          have z1 : nI (brK δ (nI n0) (δ.1 4) (vr δ i)) = 0 := by rw [z]; exact nI_0
          rw [z1] at q3
          generalize cntF (fun m => brK δ (nI n0) (δ.1 4) (vr δ m) == 0) i = X at e1 ⊢
          simp [jX11_struck, bX11_struck_0, bX11_struck_1, bX11_struck_2, bX11_struck_3, i_aload, i_getf, i_iadd, i_iaload, i_icge, i_ifeq, i_ifne, i_iinc, i_iload, i_ireturn, i_istore, i_isub, i_jmp, i_push, i_putf, msk, lset1, lset2, clr, Value.category, Option.toList, List.cons_append, List.nil_append, List.length_cons, List.length_nil, e1, gf_eq o0, mg_11, d0.1.rc 6 6 rfl (by decide) (by decide), nI_ge hi (by omega), cvk_1 o0 q1, cvk_1 o1 q2, gf_eq o2, d2.1.rc 4 4 rfl (by decide) (by decide), cvk_1 o2 q3, nI_1]
        · have e9 : cntF (fun m => brK δ (nI n0) (δ.1 4) (vr δ m) == 0) (i + 1) = cntF (fun m => brK δ (nI n0) (δ.1 4) (vr δ m) == 0) i := by simp [cntF, z]
          rw [e9]
          have z1 := nI_ne0 (n := brK δ (nI n0) (δ.1 4) (vr δ i)) (by omega) (by omega)
          generalize cntF (fun m => brK δ (nI n0) (δ.1 4) (vr δ m) == 0) i = X at e1 ⊢
          generalize brK δ (nI n0) (δ.1 4) (vr δ i) = Y at q3 z1
          simp [jX11_struck, bX11_struck_0, bX11_struck_1, bX11_struck_2, bX11_struck_3, i_aload, i_getf, i_iadd, i_iaload, i_icge, i_ifeq, i_ifne, i_iinc, i_iload, i_ireturn, i_istore, i_isub, i_jmp, i_push, i_putf, msk, lset1, lset2, clr, Value.category, Option.toList, List.cons_append, List.nil_append, List.length_cons, List.length_nil, e1, gf_eq o0, mg_11, d0.1.rc 6 6 rfl (by decide) (by decide), nI_ge hi (by omega), cvk_1 o0 q1, cvk_1 o1 q2, gf_eq o2, d2.1.rc 4 4 rfl (by decide) (by decide), cvk_1 o2 q3, z1, nI_1])
      (fun s hI f => by
        obtain ⟨e1, k⟩ := hI
        obtain ⟨⟨y0, o0, -⟩, -, F9⟩ := id k
        have d0 := hD.fr F9 (fun j h1 h2 => by unfold rg; omega)
        refine ⟨s.2, ?_, k⟩
        generalize cntF (fun m => brK δ (nI n0) (δ.1 4) (vr δ m) == 0) (δ.1 6) = X at e1 ⊢
        simp [jX11_struck, bX11_struck_0, bX11_struck_1, bX11_struck_2, bX11_struck_3, i_aload, i_getf, i_iadd, i_iaload, i_icge, i_ifeq, i_ifne, i_iinc, i_iload, i_ireturn, i_istore, i_isub, i_jmp, i_push, i_putf, msk, lset1, lset2, clr, Value.category, Option.toList, List.cons_append, List.nil_append, List.length_cons, List.length_nil, e1, gf_eq o0, mg_11, d0.1.rc 6 6 rfl (by decide) (by decide)])
    obtain ⟨w9, p1, p2⟩ := L (δ.1 6) 0 ([some (.ref M), some (.int (nI n0)), some (.int (nI 0)), some (.int (nI 0))], w0) (by omega) ⟨rfl, ⟨_, hO, fun _ _ => rfl⟩, hRZ.1, Fr.rf _ _⟩ (N2 + 1) (by omega)
    obtain ⟨x9, I9, k9⟩ := I0.rw p2
    refine RQo.ok F0 I9 (by rw [k9 _ (by decide)]; exact x0') ?_ (p2.2.2.mn fun a ha => by unfold rg at *; omega)
    simp only [nI_0] at p1
    rw [← p1]
    simp [fX11_struck, kX11_struck, ent, entp, jX11_struck, bX11_struck_0, bX11_struck_1, bX11_struck_2, bX11_struck_3, i_aload, i_getf, i_iadd, i_iaload, i_icge, i_ifeq, i_ifne, i_iinc, i_iload, i_ireturn, i_istore, i_isub, i_jmp, i_push, i_putf, msk, lset1, lset2, clr, Value.category, Option.toList, List.cons_append, List.nil_append, List.length_cons, List.length_nil, hN2, st_0 hI.1, hw0, gf_eq hO, mg_11, hD.1.rc 2 2 rfl (by decide) (by decide), csk_3 q0, cvk_3 hO (bad0_sp hg hO x0' 1 0)]
