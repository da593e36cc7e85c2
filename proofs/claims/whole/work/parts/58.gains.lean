/-! ===== gains ===== -/
/-- the best worth (and one more) of an heir by the first n readings that show digit d; 0 if none does -/
def gmK (δ : DE) (b h d : Nat) : Nat → Nat
  | 0 => 0
  | n + 1 => if dgR δ n b = d then (if gmK δ b h d n ≤ wtR δ n h then wtR δ n h + 1 else gmK δ b h d n) else gmK δ b h d n
theorem gmK_le {δ : DE} (hd : WF δ) (b h d : Nat) : ∀ n, gmK δ b h d n ≤ 1387
  | 0 => Nat.zero_le _
  | n + 1 => by
    have := gmK_le hd b h d n
    have := wtR_le hd n h
    unfold gmK
    split
    · split <;> omega
    · omega
theorem gmK_0 {δ : DE} (hd : WF δ) {b h d : Nat} (hb : b < δ.1 3) (h1 : δ.2 10 b ≤ d) : ∀ n, gmK δ b h d n = 0
  | 0 => rfl
  | n + 1 => by
    unfold gmK
    rw [if_neg (by have := dgR_lt hd n hb; omega)]
    exact gmK_0 hd hb h1 n
theorem nI_m1t {a : Nat} (ha : a < 2 ^ 30) : (nI a - 1).toInt = (a : Int) - 1 := pk_sub_toInt (a := a) (b := 1) ha (by decide)
theorem nI_m1lt {a w : Nat} (ha : a < 2 ^ 30) (hw : w < 2 ^ 30) : (nI a - 1 < nI w) ↔ a ≤ w := by
  rw [Int32.lt_iff_toInt_lt, nI_m1t ha, nI_toInt (by omega)]
  omega
theorem nI_m1le {a w : Nat} (ha : a < 2 ^ 30) (hw : w < 2 ^ 30) : (nI w ≤ nI a - 1) ↔ w < a := by
  rw [Int32.le_iff_toInt_le, nI_m1t ha, nI_toInt (by omega)]
  omega
/-- what the best is worth -/
def bwK (δ : DE) (h : Nat) : Nat := match bstR δ h with
  | none => 0
  | some j => wtR δ j h
def gtB (δ : DE) (b h d : Nat) : Bool := decide (gmK δ b h d (nR δ) ≠ 0 ∧ gmK δ b h d (nR δ) ≤ bwK δ h)
def gaB (δ : DE) (b h : Nat) : Bool := decide (nR δ ≠ 0) && exF (gtB δ b h) 100
theorem gmK_s {δ : DE} {b h k : Nat} (d : Nat) : (va_up (fun d => nI (gmK δ b h d k) - 1) (dgR δ k b) (if gmK δ b h (dgR δ k b) k ≤ wtR δ k h then nI (wtR δ k h) else nI (gmK δ b h (dgR δ k b) k) - 1)) d = nI (gmK δ b h d (k + 1)) - 1 := by
  unfold va_up
  by_cases z : d = dgR δ k b
  · subst z
    simp only [if_true, gmK]
    split
    · rw [nI_pred]
    · rfl
  · have z' : ¬ dgR δ k b = d := fun q => z q.symm
    simp only [z, if_false, gmK, z']
theorem exF_none {p : Nat → Bool} {n : Nat} (h : ∀ m, m < n → p m = false) : exF p n = false := by
  cases hx : exF p n with
  | false => rfl
  | true =>
    obtain ⟨m, h1, h2⟩ := exF_iff.mp hx
    rw [h m h1] at h2
    cases h2
theorem gainsBy_sp {g : GE} (hg : FU g) {w : Mem} {tb E D aM aS aG n1 lev : Nat} {δ : DE} (hd : WF δ) (hD : DEED g w D δ) (hDt : D + 35 ≤ tb) (hG : GT g w tb E D δ (δ.1 6) aM aS aG n1 lev) {c : Nat → Int32} (hT0 : IA w (tb + 10) 100 c) {b h : Nat} (hb : b < δ.1 3) (hh : h < 4) :
    ∃ w' c', fX7_gainsBy g [.ref tb, .int (nI b), .int (nI h)] w = some (.inl (some (.int (bI (gaB δ b h)))), w') ∧ IA w' (tb + 10) 100 c' ∧ Fr (fun a => a = tb + 10) w w' := by
  have hn := nR_le hd
  have hT := hG.tb
  have q0 := bestFor_sp hg hd hD hG hh
  obtain ⟨N, hN⟩ : ∃ N, g.1 = N + 1 := ⟨g.1 - 1, by omega⟩
  cases hA : bstR δ h with
  | none =>
    have z0 : nR δ = 0 := by
      cases hz : nR δ with
      | zero => rfl
      | succ n =>
        have : amxP tru (fun i => wtR δ i h) (n + 1) = none := hz ▸ hA
        exact absurd this amxP_n0
    rw [hA] at q0
    refine ⟨w, c, ?_, hT0, Fr.rf _ _⟩
    have e9 : gaB δ b h = false := by simp [gaB, z0]
    rw [e9]
    simp [fX7_gainsBy, kX7_gainsBy, ent, entp, jX7_gainsBy, bX7_gainsBy_0, bX7_gainsBy_1, bX7_gainsBy_2, bX7_gainsBy_3, i_aload, i_getf, i_iaload, i_iastore, i_iceq, i_icge, i_icne, i_iinc, i_iload, i_istore, i_jmp, i_max, i_push, i_zreturn, msk, lset1, lset2, clr, Value.category, Option.toList, List.cons_append, List.nil_append, List.length_cons, List.length_nil, hN, cvk_1 hT q0, oI, bI]
  | some j =>
    have lj : j < nR δ := amxP_lt hA
    have z0 : nR δ ≠ 0 := by omega
    have nn := nI_nn (y := j) (by omega)
    rw [hA] at q0
    obtain ⟨w1, q1, q2, q3⟩ := fill_sp hg hT0 (by decide) (-1)
    have ebw : bwK δ h = wtR δ j h := by unfold bwK; rw [hA]
    have lw := wtR_le hd j h
    have L2 : ∀ u : Mem, IA u (tb + 10) 100 (fun d => nI (gmK δ b h d (nR δ)) - 1) → TB u tb aM aS aG D (nR δ) (obK δ (δ.1 6)) → ∀ F, 2 * 100 + 1 ≤ F → jX7_gainsBy g F 2 [] [some (.ref tb), none, none, none, some (.int (nI (bwK δ h))), some (.int 0)] u = some (.inl (some (.int (bI (gaB δ b h)))), u) := fun u hu hTu F hF => by
      have L := lpR (fun f (s : Lv) => jX7_gainsBy g f 2 [] s u) (fun k s => s = [some (.ref tb), none, none, none, some (.int (nI (bwK δ h))), some (.int (nI k))] ∧ ∀ m, m < k → gtB δ b h m = false)
        (fun z => z = some (.inl (some (.int (bI (gaB δ b h)))), u)) 2 1 100
        (fun k s hk hI f => by
          obtain ⟨e1, e2⟩ := hI
          subst e1
          have ek : ¬ (100 : Int32) ≤ nI k := nI_ge hk (by decide)
          have lg := gmK_le hd b h k (nR δ)
          have m1 := nI_m1 (y := gmK δ b h k (nR δ)) (by omega)
          have m2 := nI_m1le (a := gmK δ b h k (nR δ)) (w := bwK δ h) (by omega) (by omega)
          have rd : gi u 0 (tb + 10) (nI k) = some (nI (gmK δ b h k (nR δ)) - 1) := hu.rd hk (by decide)
          generalize hX : nI (gmK δ b h k (nR δ)) - 1 = X at m1 m2 rd
          by_cases y1 : gmK δ b h k (nR δ) = 0
          · refine Or.inr ⟨f, _, Nat.le_refl _, ⟨rfl, fun m hm => ?_⟩, ?_⟩
            · by_cases y : m = k
              · subst y; simp [gtB, y1]
              · exact e2 m (by omega)
            · have y1' := m1.mpr y1
              subst y1'
              simp [jX7_gainsBy, bX7_gainsBy_0, bX7_gainsBy_1, bX7_gainsBy_2, bX7_gainsBy_3, i_aload, i_getf, i_iaload, i_iastore, i_iceq, i_icge, i_icne, i_iinc, i_iload, i_istore, i_jmp, i_max, i_push, i_zreturn, msk, lset1, lset2, clr, Value.category, Option.toList, List.cons_append, List.nil_append, List.length_cons, List.length_nil, ek, gf_eq hTu, rd, nI_1]
          · by_cases y2 : gmK δ b h k (nR δ) ≤ bwK δ h
            · left
              have e9 : gaB δ b h = true := by
                unfold gaB
                rw [exF_iff.mpr ⟨k, hk, by simp [gtB, y1, y2]⟩]
                simp [z0]
              rw [e9]
              simp [jX7_gainsBy, bX7_gainsBy_0, bX7_gainsBy_1, bX7_gainsBy_2, bX7_gainsBy_3, i_aload, i_getf, i_iaload, i_iastore, i_iceq, i_icge, i_icne, i_iinc, i_iload, i_istore, i_jmp, i_max, i_push, i_zreturn, msk, lset1, lset2, clr, Value.category, Option.toList, List.cons_append, List.nil_append, List.length_cons, List.length_nil, ek, gf_eq hTu, rd, mt m1.mp y1, mt m2.mp (by omega), bI]
            · refine Or.inr ⟨f, _, Nat.le_refl _, ⟨rfl, fun m hm => ?_⟩, ?_⟩
              · by_cases y : m = k
                · subst y; simp [gtB, y2]
                · exact e2 m (by omega)
              · simp [jX7_gainsBy, bX7_gainsBy_0, bX7_gainsBy_1, bX7_gainsBy_2, bX7_gainsBy_3, i_aload, i_getf, i_iaload, i_iastore, i_iceq, i_icge, i_icne, i_iinc, i_iload, i_istore, i_jmp, i_max, i_push, i_zreturn, msk, lset1, lset2, clr, Value.category, Option.toList, List.cons_append, List.nil_append, List.length_cons, List.length_nil, ek, gf_eq hTu, rd, mt m1.mp y1, m2.mpr (by omega), nI_1])
        (fun s hI f => by
          obtain ⟨e1, e2⟩ := hI
          subst e1
          have e9 : gaB δ b h = false := by
            unfold gaB
            rw [exF_none e2, Bool.and_false]
          rw [e9]
          simp [jX7_gainsBy, bX7_gainsBy_0, bX7_gainsBy_1, bX7_gainsBy_2, bX7_gainsBy_3, i_aload, i_getf, i_iaload, i_iastore, i_iceq, i_icge, i_icne, i_iinc, i_iload, i_istore, i_jmp, i_max, i_push, i_zreturn, msk, lset1, lset2, clr, Value.category, Option.toList, List.cons_append, List.nil_append, List.length_cons, List.length_nil, (show (100 : Int32) ≤ nI 100 from by decide), bI])
      have L1 := L 100 0 [some (.ref tb), none, none, none, some (.int (nI (bwK δ h))), some (.int (nI 0))] (by omega) ⟨rfl, fun m hm => by omega⟩ F hF
      simp only [nI_0] at L1
      exact L1
    have L := lpR (fun f (s : Lv × Mem) => jX7_gainsBy g (f + 202) 1 [] s.1 s.2) (fun k s => s.1 = [some (.ref tb), some (.int (nI b)), some (.int (nI h)), some (.int (nI j)), some (.int (nI k)), none] ∧ IA s.2 (tb + 10) 100 (fun d => nI (gmK δ b h d k) - 1) ∧ Fr (fun a => a = tb + 10) w s.2)
      (fun z => ∃ w' c', z = some (.inl (some (.int (bI (gaB δ b h)))), w') ∧ IA w' (tb + 10) 100 c' ∧ Fr (fun a => a = tb + 10) w w') 1 1 (nR δ)
      (fun k s hk hI f => by
        obtain ⟨e1, e2, e3⟩ := hI
        have hGs := hG.tl e3
        have hTs := hGs.tb
        have hDs := hD.fr e3 (fun i hi => by omega)
        have o1 := tdigit_sp hd hGs hk hb
        have o2 := worthOf_sp hg hd hDs hGs hk hh
        have ld := dgR_100 hd k hb
        have lg := gmK_le hd b h (dgR δ k b) k
        have lw' := wtR_le hd k h
        have m2 := nI_m1lt (a := gmK δ b h (dgR δ k b) k) (w := wtR δ k h) (by omega) (by omega)
        refine Or.inr ⟨f, ([some (.ref tb), some (.int (nI b)), some (.int (nI h)), some (.int (nI j)), some (.int (nI (k + 1))), none], wi s.2 0 (tb + 10) (dgR δ k b) (if gmK δ b h (dgR δ k b) k ≤ wtR δ k h then nI (wtR δ k h) else nI (gmK δ b h (dgR δ k b) k) - 1)), Nat.le_refl _, ⟨rfl, (e2.up _ _).cg fun i hi => gmK_s i, e3.tr (Fr.wi _ _ _ _ rfl)⟩, ?_⟩
        show jX7_gainsBy g (f + 1 + 202) 1 [] s.1 s.2 = _
        rw [show f + 1 + 202 = (f + 202) + 1 from by omega]
        generalize f + 202 = F
        have rd : gi s.2 0 (tb + 10) (nI (dgR δ k b)) = some (nI (gmK δ b h (dgR δ k b) k) - 1) := e2.rd ld (by decide)
        have wr := fun y => e2.wr ld (by decide) y
        by_cases z : gmK δ b h (dgR δ k b) k ≤ wtR δ k h
        · have m3 := m2.mpr z
          simp only [z, if_true]
          generalize nI (gmK δ b h (dgR δ k b) k) - 1 = X at rd m3
          simp [jX7_gainsBy, bX7_gainsBy_0, bX7_gainsBy_1, bX7_gainsBy_2, bX7_gainsBy_3, i_aload, i_getf, i_iaload, i_iastore, i_iceq, i_icge, i_icne, i_iinc, i_iload, i_istore, i_jmp, i_max, i_push, i_zreturn, msk, lset1, lset2, clr, Value.category, Option.toList, List.cons_append, List.nil_append, List.length_cons, List.length_nil, e1, gf_eq hTs, nI_ge hk (by omega), cvk_2 hTs o1, rd, cvk_2 hTs o2, m3, nI_1, wr]
        · have m3 := mt m2.mp z
          simp only [z, if_false]
          generalize nI (gmK δ b h (dgR δ k b) k) - 1 = X at rd m3
          simp [jX7_gainsBy, bX7_gainsBy_0, bX7_gainsBy_1, bX7_gainsBy_2, bX7_gainsBy_3, i_aload, i_getf, i_iaload, i_iastore, i_iceq, i_icge, i_icne, i_iinc, i_iload, i_istore, i_jmp, i_max, i_push, i_zreturn, msk, lset1, lset2, clr, Value.category, Option.toList, List.cons_append, List.nil_append, List.length_cons, List.length_nil, e1, gf_eq hTs, nI_ge hk (by omega), cvk_2 hTs o1, rd, cvk_2 hTs o2, m3, nI_1, wr])
      (fun s hI f => by
        obtain ⟨e1, e2, e3⟩ := hI
        have hGs := hG.tl e3
        have hTs := hGs.tb
        have hDs := hD.fr e3 (fun i hi => by omega)
        have o2 := worthOf_sp hg hd hDs hGs lj hh
        rw [← ebw] at o2
        refine ⟨s.2, _, ?_, e2, e3⟩
        rw [← L2 s.2 e2 hTs (f + 202) (by omega)]
        show jX7_gainsBy g (f + 1 + 202) 1 [] s.1 s.2 = _
        rw [show f + 1 + 202 = (f + 202) + 1 from by omega]
        generalize f + 202 = F
        simp [jX7_gainsBy, bX7_gainsBy_0, bX7_gainsBy_1, bX7_gainsBy_2, bX7_gainsBy_3, i_aload, i_getf, i_iaload, i_iastore, i_iceq, i_icge, i_icne, i_iinc, i_iload, i_istore, i_jmp, i_max, i_push, i_zreturn, msk, lset1, lset2, clr, Value.category, Option.toList, List.cons_append, List.nil_append, List.length_cons, List.length_nil, e1, gf_eq hTs, cvk_2 hTs o2])
    obtain ⟨M, hM⟩ : ∃ M, N = M + 202 := ⟨N - 202, by omega⟩
    have L1 := L (nR δ) 0 ([some (.ref tb), some (.int (nI b)), some (.int (nI h)), some (.int (nI j)), some (.int (nI 0)), none], w1) (by omega) ⟨rfl, q2.cg fun i hi => (show (-1 : Int32) = nI 0 - 1 from by decide), q3⟩ M (by omega)
    simp only [nI_0] at L1
    have e : fX7_gainsBy g [.ref tb, .int (nI b), .int (nI h)] w = jX7_gainsBy g (M + 202) 1 [] [some (.ref tb), some (.int (nI b)), some (.int (nI h)), some (.int (nI j)), some (.int 0), none] w1 := by
      rw [hM] at hN
      generalize M + 202 = F at hN ⊢
      simp [fX7_gainsBy, kX7_gainsBy, ent, entp, jX7_gainsBy, bX7_gainsBy_0, bX7_gainsBy_1, bX7_gainsBy_2, bX7_gainsBy_3, i_aload, i_getf, i_iaload, i_iastore, i_iceq, i_icge, i_icne, i_iinc, i_iload, i_istore, i_jmp, i_max, i_push, i_zreturn, msk, lset1, lset2, clr, Value.category, Option.toList, List.cons_append, List.nil_append, List.length_cons, List.length_nil, hN, cvk_1 hT q0, oI, nn, gf_eq hT, csk_2 q1]
    rw [e]
    exact L1
def gainsO (δ : DE) (x0 : Int32) : OUT := 
  match rng x0 (δ.1 3) with
  | none => .inr (1, 1)
  | some n0 =>
    .inl (.int (nI (bsF (gaB δ n0) (δ.1 0))))
theorem gains_c {g : GE} {w : Mem} {B E fed kept : Nat} {fp : Int32} {tp : Nat → Int32} {rf : Nat → Nat} {δ : DE} {τ : TE} {im : Nat → TE} {lev nG : Nat} (hg : GD g) (hE : B + 132 ≤ E) (hI : CI g w B E fed kept fp tp rf δ τ im lev nG) (x0 : Int32) : CQ g w B E fed kept fp tp rf δ τ im lev nG (fX10_gains g [.ref B, .int x0] w) (gainsO δ x0) := by
  have hg1 := hg.1
  obtain ⟨D, D', hCC, hCT, hCN, hCL, hCM⟩ := id hI
  obtain ⟨hDD, hB, hTp, hD, hD', hSc, hr, hd, hfd, hkp⟩ := id hCC
  obtain ⟨aM, aS, aG, n1', hG, hX⟩ := id hCT
  obtain ⟨b1, b2, b3, b4, b5, b6, b7, b8⟩ := id hd.1
  have hT := hG.tb
  have hn := nR_le hd
  obtain ⟨N, hN⟩ : ∃ N, g.1 = N + 1 := ⟨g.1 - 1, by omega⟩
  unfold gainsO
  have q0 := needBlot_sp hg1 hB hr hD b4 x0
  cases h0 : rng x0 (δ.1 3) with
  | none =>
    rw [h0] at q0
    simp only [tst, Option.isSome, Bool.false_eq_true, if_false] at q0
    refine CQ.no hE hI ?_
    simp [fX10_gains, kX10_gains, ent, entp, jX10_gains, bX10_gains_0, bX10_gains_1, bX10_gains_2, i_aload, i_getf, i_icge, i_ifeq, i_iinc, i_iload, i_ior, i_ireturn, i_ishl, i_istore, i_jmp, i_push, msk, lset1, lset2, clr, Value.category, Option.toList, List.cons_append, List.nil_append, List.length_cons, List.length_nil, hN, cxe_1 hB q0]
  | some n0 =>
    rw [h0] at q0
    simp only [tst, Option.isSome, if_true] at q0
    obtain ⟨l0, e0⟩ := rng_some (by omega) h0
    subst e0
    dsimp only
    obtain ⟨N2, hN2⟩ : ∃ N, g.1 = N + 1 := ⟨g.1 - 1, by omega⟩
    obtain ⟨-, -, ⟨c3, hX3⟩, -⟩ := id hX
    have hDt := hCC.dt
    have L := lpR (fun f (s : Lv × Mem) => jX10_gains g f 1 [] s.1 s.2) (fun k s => s.1 = [some (.ref B), some (.int (nI n0)), some (.int (nI (bsF (gaB δ n0) k))), some (.int (nI k))] ∧ (∃ c, IA s.2 (B + 73 + 10) 100 c) ∧ Fr (fun a => a = B + 73 + 10) w s.2)
      (fun z => ∃ w' c', z = some (.inl (some (.int (nI (bsF (gaB δ n0) (δ.1 0))))), w') ∧ IA w' (B + 73 + 10) 100 c' ∧ Fr (fun a => a = B + 73 + 10) w w') 2 1 (δ.1 0)
      (fun k s hk hI f => by
        obtain ⟨e1, ⟨c1, e2⟩, e3⟩ := hI
        have hGs := hG.tl e3
        have hTs := hGs.tb
        have hDs := hD.fr e3 (fun i hi => by omega)
        have hBs := e3.at hB (by omega)
        obtain ⟨w2, c2, q1, q2, q3⟩ := gainsBy_sp hg1 hd hDs hDt hGs e2 (b := n0) (h := k) l0 (by omega)
        have lb := bsF_lt (gaB δ n0) k
        have m := bs_or k (by omega) _ lb
        refine Or.inr ⟨f, ([some (.ref B), some (.int (nI n0)), some (.int (nI (bsF (gaB δ n0) (k + 1)))), some (.int (nI (k + 1)))], w2), Nat.le_refl _, ⟨rfl, ⟨c2, q2⟩, e3.tr q3⟩, ?_⟩
        cases he : gaB δ n0 k with
        | true =>
          rw [he] at q1
          simp only [bI, if_true] at q1
          have e9 : bsF (gaB δ n0) (k + 1) = bsF (gaB δ n0) k + 2 ^ k := by
            show (if gaB δ n0 k = true then _ else _) = _
            rw [if_pos he]
          rw [e9]
          generalize bsF (gaB δ n0) k = X at m e1 ⊢
          simp [jX10_gains, bX10_gains_0, bX10_gains_1, bX10_gains_2, i_aload, i_getf, i_icge, i_ifeq, i_iinc, i_iload, i_ior, i_ireturn, i_ishl, i_istore, i_jmp, i_push, msk, lset1, lset2, clr, Value.category, Option.toList, List.cons_append, List.nil_append, List.length_cons, List.length_nil, e1, gf_eq hBs, gf_eq hDs.1, nI_ge hk (by omega), cvk_2 hTs q1, nI_1, m]
        | false =>
          rw [he] at q1
          simp only [bI, Bool.false_eq_true, if_false] at q1
          have e9 : bsF (gaB δ n0) (k + 1) = bsF (gaB δ n0) k := by
            show (if gaB δ n0 k = true then _ else _) = _
            rw [if_neg (by rw [he]; exact Bool.false_ne_true)]
          rw [e9]
          generalize bsF (gaB δ n0) k = X at m e1 ⊢
          simp [jX10_gains, bX10_gains_0, bX10_gains_1, bX10_gains_2, i_aload, i_getf, i_icge, i_ifeq, i_iinc, i_iload, i_ior, i_ireturn, i_ishl, i_istore, i_jmp, i_push, msk, lset1, lset2, clr, Value.category, Option.toList, List.cons_append, List.nil_append, List.length_cons, List.length_nil, e1, gf_eq hBs, gf_eq hDs.1, nI_ge hk (by omega), cvk_2 hTs q1, nI_1])
      (fun s hI f => by
        obtain ⟨e1, ⟨c1, e2⟩, e3⟩ := hI
        have hDs := hD.fr e3 (fun i hi => by omega)
        have hBs := e3.at hB (by omega)
        refine ⟨s.2, c1, ?_, e2, e3⟩
        generalize bsF (gaB δ n0) (δ.1 0) = X at e1 ⊢
        simp [jX10_gains, bX10_gains_0, bX10_gains_1, bX10_gains_2, i_aload, i_getf, i_icge, i_ifeq, i_iinc, i_iload, i_ior, i_ireturn, i_ishl, i_istore, i_jmp, i_push, msk, lset1, lset2, clr, Value.category, Option.toList, List.cons_append, List.nil_append, List.length_cons, List.length_nil, e1, gf_eq hBs, gf_eq hDs.1])
    obtain ⟨w', c', p1, p2, p3⟩ := L (δ.1 0) 0 ([some (.ref B), some (.int (nI n0)), some (.int (nI 0)), some (.int (nI 0))], w) (by omega) ⟨rfl, ⟨c3, hX3⟩, Fr.rf _ _⟩ N2 (by omega)
    refine CQ.okw (hI.tl hE p3 p2) ?_ (p3.mn fun a ha => CF.in (by omega))
    simp only [nI_0] at p1
    rw [← p1]
    simp [fX10_gains, kX10_gains, ent, entp, jX10_gains, bX10_gains_0, bX10_gains_1, bX10_gains_2, i_aload, i_getf, i_icge, i_ifeq, i_iinc, i_iload, i_ior, i_ireturn, i_ishl, i_istore, i_jmp, i_push, msk, lset1, lset2, clr, Value.category, Option.toList, List.cons_append, List.nil_append, List.length_cons, List.length_nil, hN2, cxk_1 hB q0]
theorem gains_r {g : GE} {w : Mem} {M fed kept : Nat} {fp : Int32} {tp : Nat → Int32} {rf : Nat → Nat} {δ : DE} {τ : TE} {im : Nat → TE} {x : Nat → Int32} (hg : FU g) (hd : WF δ) (hI : RI w M fed kept fp tp rf δ τ im x) (x0 : Int32) : RQo w M fed kept fp tp rf δ τ im (fX11_gains g [.ref M, .int x0] w) (gainsO δ x0) := by
  obtain ⟨w0, hw0, I0, F0⟩ := hI.t0
  obtain ⟨b1, b2, b3, b4, b5, b6, b7, b8⟩ := id hd.1
  obtain ⟨hO, hXO, hRK, hRZ, hrf⟩ := id I0
  obtain ⟨x1', x3', x27, x32, x33, x34⟩ := id hXO
  obtain ⟨hTp, hD, hR, hCp, hHb, hKp, hRP⟩ := id hRK
  have hn := nR_le hd
  have x0' : (va_up x 0 0) 0 = 0 := va_up_self _ _ _
  obtain ⟨N, hN⟩ : ∃ N, g.1 = N + 2 := ⟨g.1 - 2, by omega⟩
  unfold gainsO
  have q0 := isBlot_sp hg hO hD b4 x0
  cases h0 : rng x0 (δ.1 3) with
  | none =>
    rw [h0] at q0
    simp only [bI, Option.isSome, Bool.false_eq_true, if_false] at q0
    obtain ⟨w1, p1, p2, p3⟩ := bad1_sp hg I0 x0' (c := 1) (r := 1) (C := 1) (R := 1) rfl rfl (by decide) (by decide)
    refine RQo.no (v := .int 0) F0 p2 ?_ p3
    simp [fX11_gains, kX11_gains, ent, entp, jX11_gains, bX11_gains_0, bX11_gains_1, bX11_gains_2, bX11_gains_3, bX11_gains_4, bX11_gains_5, bX11_gains_6, bX11_gains_7, bX11_gains_8, bX11_gains_9, i_aaload, i_aload, i_getf, i_iaload, i_iastore, i_iceq, i_icge, i_icle, i_ifeq, i_ifle, i_ifne, i_iinc, i_iload, i_ior, i_ireturn, i_ishl, i_istore, i_jmp, i_push, i_putf, msk, lset1, lset2, clr, Value.category, Option.toList, List.cons_append, List.nil_append, List.length_cons, List.length_nil, hN, st_0 hI.1, hw0, cvk_1 hO q0, cvk_3 hO p1]
  | some n0 =>
    rw [h0] at q0
    simp only [bI, Option.isSome, if_true] at q0
    obtain ⟨l0, e0⟩ := rng_some (by omega) h0
    subst e0
    dsimp only
    have hs := hd.2.2.2.1 n0 l0
    obtain ⟨-, ⟨c1, hH⟩, -⟩ := id hRZ
    have kp : ∀ u, Fr (fun a => a = M + 175) w0 u → MO u M (va_up x 0 0) ∧ RD u M δ ∧ RT u M δ (δ.1 6) := fun u hu => ⟨hu.at hO (by omega), hD.fr hu (fun i h1 h2 => by omega), hR.fr hu (fun i h1 h2 => by omega)⟩
    -- marks the heirs
    have L6 : ∀ (u : Mem) (h X : Nat), h < 4 → X < 2 ^ h → Fr (fun a => a = M + 175) w0 u → IA u (M + 175) 100 (fun d => nI (gmK δ n0 h d (nR δ)) - 1) → ∀ f, ∃ f', f ≤ f' ∧ jX11_gains g (f + 1 + 3 * δ.2 10 n0) 6 [] [some (.ref M), some (.int (nI n0)), some (.int (nI X)), some (.int (nI h)), some (.int (nI (bwK δ h))), some (.int 0), none, none] u = jX11_gains g f' 2 [] [some (.ref M), some (.int (nI n0)), some (.int (nI (if exF (gtB δ n0 h) (δ.2 10 n0) = true then X + 2 ^ h else X))), some (.int (nI (h + 1))), none, none, none, none] u := fun u h X hh hX F hu f => by
      obtain ⟨o1, d1, r1⟩ := kp u F
      obtain ⟨-, -, -, -, -, -, ⟨c6, h6, k6⟩, -⟩ := id d1
      have lbw : bwK δ h ≤ 1386 := by
        unfold bwK
        split
        · omega
        · exact wtR_le hd _ _
      have L := lpC (fun f (s : Lv) => jX11_gains g f 6 [] s u) (fun k s => s = [some (.ref M), some (.int (nI n0)), some (.int (nI (if exF (gtB δ n0 h) k = true then X + 2 ^ h else X))), some (.int (nI h)), some (.int (nI (bwK δ h))), some (.int (nI k)), none, none]) 3 (δ.2 10 n0)
        (fun k s hk hI f => by
          subst hI
          have lg := gmK_le hd n0 h k (nR δ)
          have m1 := nI_m1 (y := gmK δ n0 h k (nR δ)) (by omega)
          have m2 := nI_m1le (a := gmK δ n0 h k (nR δ)) (w := bwK δ h) (by omega) (by omega)
          have rd : gi u 0 (M + 175) (nI k) = some (nI (gmK δ n0 h k (nR δ)) - 1) := hu.rd (by omega) (by decide)
          have mo := bs_or h hh X hX
          have mo2 := bs_or2 h hh X hX
          have mz : ∀ y : Int32, y ||| 0 = y := fun y => by simp
          have sz : gi u 0 (M + 115 + 1 + n0) 2 = some (nI (δ.2 10 n0)) := by rw [(h6.2 n0 (by omega)).rc 2 2 rfl (by decide) (by decide), (k6 n0 l0).2.2.1]
          generalize hX : nI (gmK δ n0 h k (nR δ)) - 1 = Y at m1 m2 rd
          by_cases y1 : gmK δ n0 h k (nR δ) = 0
          · refine ⟨f, _, Nat.le_refl _, rfl, ?_⟩
            have e9 : exF (gtB δ n0 h) (k + 1) = exF (gtB δ n0 h) k := by
              show (exF (gtB δ n0 h) k || gtB δ n0 h k) = _
              rw [show gtB δ n0 h k = false by simp [gtB, y1], Bool.or_false]
            rw [e9]
            generalize (if exF (gtB δ n0 h) k = true then X + 2 ^ h else X) = Z
            have y1' := m1.mpr y1
            subst y1'
            simp [jX11_gains, bX11_gains_0, bX11_gains_1, bX11_gains_2, bX11_gains_3, bX11_gains_4, bX11_gains_5, bX11_gains_6, bX11_gains_7, bX11_gains_8, bX11_gains_9, i_aaload, i_aload, i_getf, i_iaload, i_iastore, i_iceq, i_icge, i_icle, i_ifeq, i_ifle, i_ifne, i_iinc, i_iload, i_ior, i_ireturn, i_ishl, i_istore, i_jmp, i_push, i_putf, msk, lset1, lset2, clr, Value.category, Option.toList, List.cons_append, List.nil_append, List.length_cons, List.length_nil, gf_eq o1, mg_24, mg_43, h6.1.rd (j := n0) (by omega) (by decide), va_rf, sz, nI_ge hk (by omega), rd, mz, nI_1]
          · by_cases y2 : gmK δ n0 h k (nR δ) ≤ bwK δ h
            · refine ⟨f + 1, _, by omega, rfl, ?_⟩
              have e9 : exF (gtB δ n0 h) (k + 1) = true := by
                show (exF (gtB δ n0 h) k || gtB δ n0 h k) = _
                rw [show gtB δ n0 h k = true by simp [gtB, y1, y2], Bool.or_true]
              rw [e9]
              simp only [if_true]
              have mm : nI (if exF (gtB δ n0 h) k = true then X + 2 ^ h else X) ||| ((1 : Int32) <<< (nI h &&& 31)) = nI (X + 2 ^ h) := by
                split
                · exact mo2
                · exact mo
              generalize (if exF (gtB δ n0 h) k = true then X + 2 ^ h else X) = Z at mm
              rw [show f + 3 = (f + 1) + 2 from rfl]
              generalize f + 1 = F
              simp [jX11_gains, bX11_gains_0, bX11_gains_1, bX11_gains_2, bX11_gains_3, bX11_gains_4, bX11_gains_5, bX11_gains_6, bX11_gains_7, bX11_gains_8, bX11_gains_9, i_aaload, i_aload, i_getf, i_iaload, i_iastore, i_iceq, i_icge, i_icle, i_ifeq, i_ifle, i_ifne, i_iinc, i_iload, i_ior, i_ireturn, i_ishl, i_istore, i_jmp, i_push, i_putf, msk, lset1, lset2, clr, Value.category, Option.toList, List.cons_append, List.nil_append, List.length_cons, List.length_nil, gf_eq o1, mg_24, mg_43, h6.1.rd (j := n0) (by omega) (by decide), va_rf, sz, nI_ge hk (by omega), rd, mt m1.mp y1, mt m2.mp (by omega), mm, nI_1]
            · refine ⟨f, _, Nat.le_refl _, rfl, ?_⟩
              have e9 : exF (gtB δ n0 h) (k + 1) = exF (gtB δ n0 h) k := by
                show (exF (gtB δ n0 h) k || gtB δ n0 h k) = _
                rw [show gtB δ n0 h k = false by simp [gtB, y2], Bool.or_false]
              rw [e9]
              generalize (if exF (gtB δ n0 h) k = true then X + 2 ^ h else X) = Z
              simp [jX11_gains, bX11_gains_0, bX11_gains_1, bX11_gains_2, bX11_gains_3, bX11_gains_4, bX11_gains_5, bX11_gains_6, bX11_gains_7, bX11_gains_8, bX11_gains_9, i_aaload, i_aload, i_getf, i_iaload, i_iastore, i_iceq, i_icge, i_icle, i_ifeq, i_ifle, i_ifne, i_iinc, i_iload, i_ior, i_ireturn, i_ishl, i_istore, i_jmp, i_push, i_putf, msk, lset1, lset2, clr, Value.category, Option.toList, List.cons_append, List.nil_append, List.length_cons, List.length_nil, gf_eq o1, mg_24, mg_43, h6.1.rd (j := n0) (by omega) (by decide), va_rf, sz, nI_ge hk (by omega), rd, mt m1.mp y1, m2.mpr (by omega), mz, nI_1])
      obtain ⟨f1, s1, h1, h2, h3⟩ := L (δ.2 10 n0) 0 [some (.ref M), some (.int (nI n0)), some (.int (nI X)), some (.int (nI h)), some (.int (nI (bwK δ h))), some (.int (nI 0)), none, none] (by omega) (by simp [exF]) (f + 1)
      obtain ⟨f2, rfl⟩ : ∃ z, f1 = z + 1 := ⟨f1 - 1, by omega⟩
      refine ⟨f2, by omega, ?_⟩
      simp only [nI_0] at h3
      rw [h3, h2]
      have sz : gi u 0 (M + 115 + 1 + n0) 2 = some (nI (δ.2 10 n0)) := by rw [(h6.2 n0 (by omega)).rc 2 2 rfl (by decide) (by decide), (k6 n0 l0).2.2.1]
      generalize (if exF (gtB δ n0 h) (δ.2 10 n0) = true then X + 2 ^ h else X) = Z
      simp [jX11_gains, bX11_gains_0, bX11_gains_1, bX11_gains_2, bX11_gains_3, bX11_gains_4, bX11_gains_5, bX11_gains_6, bX11_gains_7, bX11_gains_8, bX11_gains_9, i_aaload, i_aload, i_getf, i_iaload, i_iastore, i_iceq, i_icge, i_icle, i_ifeq, i_ifle, i_ifne, i_iinc, i_iload, i_ior, i_ireturn, i_ishl, i_istore, i_jmp, i_push, i_putf, msk, lset1, lset2, clr, Value.category, Option.toList, List.cons_append, List.nil_append, List.length_cons, List.length_nil, gf_eq o1, mg_24, h6.1.rd (j := n0) (by omega) (by decide), va_rf, sz, nI_1]
    -- the readings
    have L4 : ∀ (u : Mem) (h X : Nat), h < 4 → Fr (fun a => a = M + 175) w0 u → IA u (M + 175) 100 (fun _ => -1) → ∀ f, ∃ f' u', f ≤ f' ∧ Fr (fun a => a = M + 175) w0 u' ∧ IA u' (M + 175) 100 (fun d => nI (gmK δ n0 h d (nR δ)) - 1) ∧ jX11_gains g (f + 1 + 2 * nR δ) 4 [] [some (.ref M), some (.int (nI n0)), some (.int (nI X)), some (.int (nI h)), some (.int (nI (bwK δ h))), some (.int 0), none, none] u = jX11_gains g f' 6 [] [some (.ref M), some (.int (nI n0)), some (.int (nI X)), some (.int (nI h)), some (.int (nI (bwK δ h))), some (.int 0), none, none] u' := fun u h X hh F hu f => by
      have L := lpC (fun f (s : Lv × Mem) => jX11_gains g f 4 [] s.1 s.2) (fun k s => s.1 = [some (.ref M), some (.int (nI n0)), some (.int (nI X)), some (.int (nI h)), some (.int (nI (bwK δ h))), some (.int (nI k)), none, none] ∧ Fr (fun a => a = M + 175) w0 s.2 ∧ IA s.2 (M + 175) 100 (fun d => nI (gmK δ n0 h d k) - 1)) 2 (nR δ)
        (fun k s hk hI f => by
          obtain ⟨e1, e3, e2⟩ := hI
          obtain ⟨o1, d1, r1⟩ := kp _ e3
          have lr := rr_lt hk
          have p1 := rdigit_sp hg hd o1 d1 (row := rr δ k) (b := n0) (by omega) l0
          have p1' : fX11_digit g [.ref M, .int (nI (rr δ k)), .int (nI n0)] s.2 = some (.inl (some (.int (nI (dgR δ k n0)))), s.2) := p1
          have p2 := rworthBy_sp hg hd o1 d1 r1 hk hh
          have rw1 := r1.row hd hk
          have ld := dgR_100 hd k l0
          have lg := gmK_le hd n0 h (dgR δ k n0) k
          have lw' := wtR_le hd k h
          have m2 := nI_m1lt (a := gmK δ n0 h (dgR δ k n0) k) (w := wtR δ k h) (by omega) (by omega)
          have m3 := nI_m1le (a := gmK δ n0 h (dgR δ k n0) k) (w := wtR δ k h) (by omega) (by omega)
          refine ⟨f, ([some (.ref M), some (.int (nI n0)), some (.int (nI X)), some (.int (nI h)), some (.int (nI (bwK δ h))), some (.int (nI (k + 1))), none, none], wi s.2 0 (M + 175) (dgR δ k n0) (if gmK δ n0 h (dgR δ k n0) k ≤ wtR δ k h then nI (wtR δ k h) else nI (gmK δ n0 h (dgR δ k n0) k) - 1)), Nat.le_refl _, ⟨rfl, e3.tr (Fr.wi _ _ _ _ rfl), (e2.up _ _).cg fun i hi => gmK_s i⟩, ?_⟩
          have rd : gi s.2 0 (M + 175) (nI (dgR δ k n0)) = some (nI (gmK δ n0 h (dgR δ k n0) k) - 1) := e2.rd ld (by decide)
          have wr := fun y => e2.wr ld (by decide) y
          by_cases z : gmK δ n0 h (dgR δ k n0) k ≤ wtR δ k h
          · have m4 := mt m3.mp (by omega)
            simp only [z, if_true]
            generalize nI (gmK δ n0 h (dgR δ k n0) k) - 1 = Y at rd m4
            simp [jX11_gains, bX11_gains_0, bX11_gains_1, bX11_gains_2, bX11_gains_3, bX11_gains_4, bX11_gains_5, bX11_gains_6, bX11_gains_7, bX11_gains_8, bX11_gains_9, i_aaload, i_aload, i_getf, i_iaload, i_iastore, i_iceq, i_icge, i_icle, i_ifeq, i_ifle, i_ifne, i_iinc, i_iload, i_ior, i_ireturn, i_ishl, i_istore, i_jmp, i_push, i_putf, msk, lset1, lset2, clr, Value.category, Option.toList, List.cons_append, List.nil_append, List.length_cons, List.length_nil, e1, gf_eq o1, mg_27, mg_28, mg_43, x27, nI_ge hk (by omega), rw1, cvk_2 o1 p1', cvk_2 o1 p2, rd, m4, wr, nI_1]
          · have m4 := m3.mpr (by omega)
            simp only [z, if_false]
            generalize nI (gmK δ n0 h (dgR δ k n0) k) - 1 = Y at rd m4
            simp [jX11_gains, bX11_gains_0, bX11_gains_1, bX11_gains_2, bX11_gains_3, bX11_gains_4, bX11_gains_5, bX11_gains_6, bX11_gains_7, bX11_gains_8, bX11_gains_9, i_aaload, i_aload, i_getf, i_iaload, i_iastore, i_iceq, i_icge, i_icle, i_ifeq, i_ifle, i_ifne, i_iinc, i_iload, i_ior, i_ireturn, i_ishl, i_istore, i_jmp, i_push, i_putf, msk, lset1, lset2, clr, Value.category, Option.toList, List.cons_append, List.nil_append, List.length_cons, List.length_nil, e1, gf_eq o1, mg_27, mg_28, mg_43, x27, nI_ge hk (by omega), rw1, cvk_2 o1 p1', cvk_2 o1 p2, rd, m4, wr, nI_1])
      obtain ⟨f1, s1, h1, ⟨e1, e3, e2⟩, h3⟩ := L (nR δ) 0 ([some (.ref M), some (.int (nI n0)), some (.int (nI X)), some (.int (nI h)), some (.int (nI (bwK δ h))), some (.int (nI 0)), none, none], u) (by omega) ⟨rfl, F, hu.cg fun i hi => (show (-1 : Int32) = nI 0 - 1 from by decide)⟩ (f + 1)
      obtain ⟨f2, rfl⟩ : ∃ z, f1 = z + 1 := ⟨f1 - 1, by omega⟩
      obtain ⟨o1, d1, r1⟩ := kp _ e3
      refine ⟨f2, s1.2, by omega, e3, e2, ?_⟩
      simp only [nI_0] at h3
      rw [h3]
      simp [jX11_gains, bX11_gains_0, bX11_gains_1, bX11_gains_2, bX11_gains_3, bX11_gains_4, bX11_gains_5, bX11_gains_6, bX11_gains_7, bX11_gains_8, bX11_gains_9, i_aaload, i_aload, i_getf, i_iaload, i_iastore, i_iceq, i_icge, i_icle, i_ifeq, i_ifle, i_ifne, i_iinc, i_iload, i_ior, i_ireturn, i_ishl, i_istore, i_jmp, i_push, i_putf, msk, lset1, lset2, clr, Value.category, Option.toList, List.cons_append, List.nil_append, List.length_cons, List.length_nil, e1, gf_eq o1, mg_27, x27]
    -- nothing held
    have L3 : ∀ (u : Mem) (h X : Nat), Fr (fun a => a = M + 175) w0 u → (∃ c, IA u (M + 175) 100 c) → ∀ f, ∃ f' u', f ≤ f' ∧ Fr (fun a => a = M + 175) w0 u' ∧ IA u' (M + 175) 100 (fun _ => -1) ∧ jX11_gains g (f + 101) 3 [] [some (.ref M), some (.int (nI n0)), some (.int (nI X)), some (.int (nI h)), some (.int (nI (bwK δ h))), some (.int 0), none, none] u = jX11_gains g f' 4 [] [some (.ref M), some (.int (nI n0)), some (.int (nI X)), some (.int (nI h)), some (.int (nI (bwK δ h))), some (.int 0), none, none] u' := fun u h X F hu f => by
      obtain ⟨c0, hu⟩ := hu
      have L := lpC (fun f (s : Lv × Mem) => jX11_gains g f 3 [] s.1 s.2) (fun k s => s.1 = [some (.ref M), some (.int (nI n0)), some (.int (nI X)), some (.int (nI h)), some (.int (nI (bwK δ h))), some (.int (nI k)), none, none] ∧ Fr (fun a => a = M + 175) w0 s.2 ∧ ∃ c, IA s.2 (M + 175) 100 c ∧ ∀ i, i < k → c i = -1) 1 100
        (fun k s hk hI f => by
          obtain ⟨e1, e3, ⟨c, e2, e4⟩⟩ := hI
          obtain ⟨o1, d1, r1⟩ := kp _ e3
          have ek : ¬ (100 : Int32) ≤ nI k := nI_ge hk (by decide)
          refine ⟨f, ([some (.ref M), some (.int (nI n0)), some (.int (nI X)), some (.int (nI h)), some (.int (nI (bwK δ h))), some (.int (nI (k + 1))), none, none], wi s.2 0 (M + 175) k (-1)), Nat.le_refl _, ⟨rfl, e3.tr (Fr.wi _ _ _ _ rfl), ⟨_, e2.up k (-1), fun i hi => ?_⟩⟩, ?_⟩
          · by_cases y : i = k
            · subst y; exact va_up_self _ _ _
            · rw [va_up_ne _ _ y]; exact e4 i (by omega)
          · simp [jX11_gains, bX11_gains_0, bX11_gains_1, bX11_gains_2, bX11_gains_3, bX11_gains_4, bX11_gains_5, bX11_gains_6, bX11_gains_7, bX11_gains_8, bX11_gains_9, i_aaload, i_aload, i_getf, i_iaload, i_iastore, i_iceq, i_icge, i_icle, i_ifeq, i_ifle, i_ifne, i_iinc, i_iload, i_ior, i_ireturn, i_ishl, i_istore, i_jmp, i_push, i_putf, msk, lset1, lset2, clr, Value.category, Option.toList, List.cons_append, List.nil_append, List.length_cons, List.length_nil, e1, ek, gf_eq o1, mg_43, e2.wr hk (by decide), nI_1])
      obtain ⟨f1, s1, h1, ⟨e1, e3, ⟨c, e2, e4⟩⟩, h3⟩ := L 100 0 ([some (.ref M), some (.int (nI n0)), some (.int (nI X)), some (.int (nI h)), some (.int (nI (bwK δ h))), some (.int (nI 0)), none, none], u) (by omega) ⟨rfl, F, ⟨c0, hu, fun i hi => by omega⟩⟩ (f + 1)
      obtain ⟨f2, rfl⟩ : ∃ z, f1 = z + 1 := ⟨f1 - 1, by omega⟩
      refine ⟨f2, s1.2, by omega, e3, e2.cg fun i hi => e4 i hi, ?_⟩
      simp only [nI_0] at h3
      rw [show f + 101 = f + 1 + 1 * 100 from by omega, h3]
      simp [jX11_gains, bX11_gains_0, bX11_gains_1, bX11_gains_2, bX11_gains_3, bX11_gains_4, bX11_gains_5, bX11_gains_6, bX11_gains_7, bX11_gains_8, bX11_gains_9, i_aaload, i_aload, i_getf, i_iaload, i_iastore, i_iceq, i_icge, i_icle, i_ifeq, i_ifle, i_ifne, i_iinc, i_iload, i_ior, i_ireturn, i_ishl, i_istore, i_jmp, i_push, i_putf, msk, lset1, lset2, clr, Value.category, Option.toList, List.cons_append, List.nil_append, List.length_cons, List.length_nil, e1, (show (100 : Int32) ≤ nI 100 from by decide)]
    obtain ⟨N2, hN2⟩ : ∃ N, g.1 = N + 2 := ⟨g.1 - 2, by omega⟩
    have L2 := lpR (fun f (s : Lv × Mem) => jX11_gains g f 2 [] s.1 s.2) (fun k s => s.1 = [some (.ref M), some (.int (nI n0)), some (.int (nI (bsF (gaB δ n0) k))), some (.int (nI k)), none, none, none, none] ∧ (∃ c, IA s.2 (M + 175) 100 c) ∧ Fr (fun a => a = M + 175) w0 s.2)
      (fun z => ∃ w' c', z = some (.inl (some (.int (nI (bsF (gaB δ n0) (δ.1 0))))), w') ∧ IA w' (M + 175) 100 c' ∧ Fr (fun a => a = M + 175) w0 w') 50000 2 (δ.1 0)
      (fun k s hk hI f => by
        obtain ⟨e1, ⟨c1, e2⟩, e3⟩ := hI
        obtain ⟨o1, d1, r1⟩ := kp _ e3
        have cc0 := d1.1.rc 0 0 rfl (by decide) (by decide)
        by_cases z0 : nR δ = 0
        · left
          have e9 : ∀ n, bsF (gaB δ n0) n = 0 := fun n => by
            induction n with
            | zero => rfl
            | succ n ih =>
              show (if gaB δ n0 n = true then _ else _) = _
              rw [if_neg (by simp [gaB, z0]), ih]
          rw [e9] at e1
          refine ⟨s.2, c1, ?_, e2, e3⟩
          rw [e9]
          have z1 : nI (nR δ) ≤ 0 := by rw [z0]; decide
          rw [show f + 50000 = (f + 49998) + 2 from by omega]
          generalize f + 49998 = F
          simp [jX11_gains, bX11_gains_0, bX11_gains_1, bX11_gains_2, bX11_gains_3, bX11_gains_4, bX11_gains_5, bX11_gains_6, bX11_gains_7, bX11_gains_8, bX11_gains_9, i_aaload, i_aload, i_getf, i_iaload, i_iastore, i_iceq, i_icge, i_icle, i_ifeq, i_ifle, i_ifne, i_iinc, i_iload, i_ior, i_ireturn, i_ishl, i_istore, i_jmp, i_push, i_putf, msk, lset1, lset2, clr, Value.category, Option.toList, List.cons_append, List.nil_append, List.length_cons, List.length_nil, e1, gf_eq o1, mg_11, mg_27, x27, cc0, nI_ge hk (by omega), z1]
        · have z1 := nI_nle (n := nR δ) (by omega) (by omega)
          have p0 := worthAt_sp hg hd o1 x27 d1 r1 (h := k) (wh := 0) (by omega) (Or.inl rfl)
          simp only [nI_0, if_true] at p0
          obtain ⟨j, hA⟩ : ∃ j, bstR δ k = some j := by
            cases hz : bstR δ k with
            | some j => exact ⟨j, rfl⟩
            | none =>
              obtain ⟨n, hn'⟩ : ∃ n, nR δ = n + 1 := ⟨nR δ - 1, by omega⟩
              have : amxP tru (fun i => wtR δ i k) (n + 1) = none := hn' ▸ hz
              exact absurd this amxP_n0
          have lj : j < nR δ := amxP_lt hA
          rw [hA] at p0
          simp only [oI] at p0
          have p2 := rworthBy_sp hg hd o1 d1 r1 lj (h := k) (by omega)
          have ebw : bwK δ k = wtR δ j k := by unfold bwK; rw [hA]
          rw [← ebw] at p2
          have lb := bsF_lt (gaB δ n0) k
          obtain ⟨f3, u3, g1, g2, g3, g4⟩ := L3 s.2 k (bsF (gaB δ n0) k) e3 ⟨c1, e2⟩ (f + 49898)
          obtain ⟨f4, u4, g5, g6, g7, g8⟩ := L4 u3 k (bsF (gaB δ n0) k) (by omega) g2 g3 (f3 - 1 - 2 * nR δ)
          rw [show f3 - 1 - 2 * nR δ + 1 + 2 * nR δ = f3 from by omega] at g8
          obtain ⟨f6, g9, g10⟩ := L6 u4 k (bsF (gaB δ n0) k) (by omega) lb g6 g7 (f4 - 1 - 3 * δ.2 10 n0)
          rw [show f4 - 1 - 3 * δ.2 10 n0 + 1 + 3 * δ.2 10 n0 = f4 from by omega] at g10
          have e9 : (if exF (gtB δ n0 k) (δ.2 10 n0) = true then bsF (gaB δ n0) k + 2 ^ k else bsF (gaB δ n0) k) = bsF (gaB δ n0) (k + 1) := by
            show _ = (if gaB δ n0 k = true then _ else _)
            have e8 : exF (gtB δ n0 k) (δ.2 10 n0) = gaB δ n0 k := by
              unfold gaB
              rw [Bool.eq_iff_iff, exF_iff]
              simp only [Bool.and_eq_true, decide_eq_true_eq, exF_iff]
              constructor
              · rintro ⟨m, h1, h2⟩
                exact ⟨z0, m, by omega, h2⟩
              · rintro ⟨-, m, h1, h2⟩
                by_cases y : m < δ.2 10 n0
                · exact ⟨m, y, h2⟩
                · have := gmK_0 (h := k) hd l0 (Nat.le_of_not_lt y) (nR δ)
                  simp [gtB, this] at h2
            rw [e8]
          rw [e9] at g10
          refine Or.inr ⟨f6, (_, u4), by omega, ⟨rfl, ⟨_, g7⟩, g6⟩, ?_⟩
          show jX11_gains g (f + 50000) 2 [] s.1 s.2 = jX11_gains g f6 2 [] [some (.ref M), some (.int (nI n0)), some (.int (nI (bsF (gaB δ n0) (k + 1)))), some (.int (nI (k + 1))), none, none, none, none] u4
          rw [← g10, ← g8, ← g4]
          rw [show f + 50000 = (f + 49898 + 101) + 1 from by omega]
          generalize f + 49898 + 101 = F
          generalize bsF (gaB δ n0) k = X at e1 ⊢
          simp [jX11_gains, bX11_gains_0, bX11_gains_1, bX11_gains_2, bX11_gains_3, bX11_gains_4, bX11_gains_5, bX11_gains_6, bX11_gains_7, bX11_gains_8, bX11_gains_9, i_aaload, i_aload, i_getf, i_iaload, i_iastore, i_iceq, i_icge, i_icle, i_ifeq, i_ifle, i_ifne, i_iinc, i_iload, i_ior, i_ireturn, i_ishl, i_istore, i_jmp, i_push, i_putf, msk, lset1, lset2, clr, Value.category, Option.toList, List.cons_append, List.nil_append, List.length_cons, List.length_nil, e1, gf_eq o1, mg_11, mg_27, x27, cc0, nI_ge hk (by omega), z1, cvk_2 o1 p0, cvk_2 o1 p2])
      (fun s hI f => by
        obtain ⟨e1, ⟨c1, e2⟩, e3⟩ := hI
        obtain ⟨o1, d1, r1⟩ := kp _ e3
        refine ⟨s.2, c1, ?_, e2, e3⟩
        generalize bsF (gaB δ n0) (δ.1 0) = X at e1 ⊢
        simp [jX11_gains, bX11_gains_0, bX11_gains_1, bX11_gains_2, bX11_gains_3, bX11_gains_4, bX11_gains_5, bX11_gains_6, bX11_gains_7, bX11_gains_8, bX11_gains_9, i_aaload, i_aload, i_getf, i_iaload, i_iastore, i_iceq, i_icge, i_icle, i_ifeq, i_ifle, i_ifne, i_iinc, i_iload, i_ior, i_ireturn, i_ishl, i_istore, i_jmp, i_push, i_putf, msk, lset1, lset2, clr, Value.category, Option.toList, List.cons_append, List.nil_append, List.length_cons, List.length_nil, e1, gf_eq o1, mg_11, d1.1.rc 0 0 rfl (by decide) (by decide)])
    obtain ⟨w1, c', p1, p2, p3⟩ := L2 (δ.1 0) 0 ([some (.ref M), some (.int (nI n0)), some (.int (nI 0)), some (.int (nI 0)), none, none, none, none], w0) (by omega) ⟨rfl, ⟨c1, hH⟩, Fr.rf _ _⟩ N2 (by omega)
    simp only [nI_0] at p1
    refine RQo.ok F0 (I0.h p3 p2) x0' ?_ (p3.mn fun a ha => by unfold rg; omega)
    rw [← p1]
    simp [fX11_gains, kX11_gains, ent, entp, jX11_gains, bX11_gains_0, bX11_gains_1, bX11_gains_2, bX11_gains_3, bX11_gains_4, bX11_gains_5, bX11_gains_6, bX11_gains_7, bX11_gains_8, bX11_gains_9, i_aaload, i_aload, i_getf, i_iaload, i_iastore, i_iceq, i_icge, i_icle, i_ifeq, i_ifle, i_ifne, i_iinc, i_iload, i_ior, i_ireturn, i_ishl, i_istore, i_jmp, i_push, i_putf, msk, lset1, lset2, clr, Value.category, Option.toList, List.cons_append, List.nil_append, List.length_cons, List.length_nil, hN2, st_0 hI.1, hw0, cvk_1 hO q0, cvk_3 hO (bad0_sp hg hO x0' 1 1)]
