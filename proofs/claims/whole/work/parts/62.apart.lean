/-! ===== apart, middle ===== -/
theorem lN_xor9 (a b : Nat) : lN a ^^^ lN b = lN (a ^^^ b) := by
  apply wb_inj
  rw [Int64.toBitVec_xor, wb_tb, wb_tb, wb_tb]
  apply BitVec.eq_of_toNat_eq
  rw [BitVec.toNat_xor, BitVec.toNat_ofNat, BitVec.toNat_ofNat, BitVec.toNat_ofNat, Nat.xor_mod_two_pow]
theorem pkN_cg {f h : Nat → Nat} {wd : Nat} : ∀ {n : Nat}, (∀ b, b < n → f b = h b) → pkN f wd n = pkN h wd n
  | 0, _ => rfl
  | n + 1, e => by
    rw [pkN_s, pkN_s, pkN_cg (n := n) fun b hb => e b (by omega), e n (by omega)]
theorem pkN_xor {f h : Nat → Nat} {wd : Nat} : ∀ {n : Nat}, (∀ b, b < n → f b < 2 ^ wd) → (∀ b, b < n → h b < 2 ^ wd) → pkN f wd n ^^^ pkN h wd n = pkN (fun b => f b ^^^ h b) wd n
  | 0, _, _ => by rw [pkN_0, pkN_0, pkN_0]; rfl
  | n + 1, h1, h2 => by
    have ih := pkN_xor (n := n) (fun b hb => h1 b (by omega)) (fun b hb => h2 b (by omega))
    have l1 := pkN_lt (n := n) (fun b hb => h1 b (by omega))
    have l2 := pkN_lt (n := n) (fun b hb => h2 b (by omega))
    rw [pkN_s, pkN_s, pkN_s, ← ih]
    apply Nat.eq_of_testBit_eq
    intro j
    rw [Nat.testBit_xor, Nat.add_comm (pkN f wd n), Nat.mul_comm (f n), Nat.testBit_two_pow_mul_add _ l1, Nat.add_comm (pkN h wd n), Nat.mul_comm (h n), Nat.testBit_two_pow_mul_add _ l2, Nat.add_comm (pkN f wd n ^^^ pkN h wd n), Nat.mul_comm (f n ^^^ h n), Nat.testBit_two_pow_mul_add _ (Nat.xor_lt_two_pow l1 l2)]
    split
    · rw [Nat.testBit_xor]
    · rw [Nat.testBit_xor]
theorem pkN_and {f h : Nat → Nat} {wd : Nat} : ∀ {n : Nat}, (∀ b, b < n → f b < 2 ^ wd) → (∀ b, b < n → h b < 2 ^ wd) → pkN f wd n &&& pkN h wd n = pkN (fun b => f b &&& h b) wd n
  | 0, _, _ => by rw [pkN_0, pkN_0, pkN_0]; rfl
  | n + 1, h1, h2 => by
    have ih := pkN_and (n := n) (fun b hb => h1 b (by omega)) (fun b hb => h2 b (by omega))
    have l1 := pkN_lt (n := n) (fun b hb => h1 b (by omega))
    have l2 := pkN_lt (n := n) (fun b hb => h2 b (by omega))
    rw [pkN_s, pkN_s, pkN_s, ← ih]
    apply Nat.eq_of_testBit_eq
    intro j
    rw [Nat.testBit_and, Nat.add_comm (pkN f wd n), Nat.mul_comm (f n), Nat.testBit_two_pow_mul_add _ l1, Nat.add_comm (pkN h wd n), Nat.mul_comm (h n), Nat.testBit_two_pow_mul_add _ l2, Nat.add_comm (pkN f wd n &&& pkN h wd n), Nat.mul_comm (f n &&& h n), Nat.testBit_two_pow_mul_add _ (Nat.and_lt_two_pow _ l2)]
    split
    · rw [Nat.testBit_and]
    · rw [Nat.testBit_and]
theorem pkN_add {f h : Nat → Nat} {wd : Nat} : ∀ {n : Nat}, pkN f wd n + pkN h wd n = pkN (fun b => f b + h b) wd n
  | 0 => rfl
  | n + 1 => by
    have ih := pkN_add (f := f) (h := h) (wd := wd) (n := n)
    rw [pkN_s, pkN_s, pkN_s, ← ih, Nat.add_mul]
    omega
theorem pkN_ext {f : Nat → Nat} {wd n : Nat} : ∀ k, (∀ b, n ≤ b → f b = 0) → pkN f wd (n + k) = pkN f wd n
  | 0, _ => rfl
  | k + 1, h => by
    have ih := pkN_ext (f := f) (wd := wd) (n := n) k h
    rw [← Nat.add_assoc, pkN_s, ih, h (n + k) (by omega), Nat.zero_mul, Nat.add_zero]
theorem cntF_ext {p : Nat → Bool} {n : Nat} : ∀ k, (∀ b, n ≤ b → p b = false) → cntF p (n + k) = cntF p n
  | 0, _ => rfl
  | k + 1, h => by
    have ih := cntF_ext (p := p) (n := n) k h
    rw [← Nat.add_assoc, cntF, ih, h (n + k) (by omega)]
    rfl
def p8 (a b c d e f g h : Bool) : Nat → Bool
  | 0 => a
  | 1 => b
  | 2 => c
  | 3 => d
  | 4 => e
  | 5 => f
  | 6 => g
  | _ => h
theorem p8_eq (p : Nat → Bool) {h : Nat} (hh : h < 8) : p8 (p 0) (p 1) (p 2) (p 3) (p 4) (p 5) (p 6) (p 7) h = p h := by
  have : h = 0 ∨ h = 1 ∨ h = 2 ∨ h = 3 ∨ h = 4 ∨ h = 5 ∨ h = 6 ∨ h = 7 := by omega
  rcases this with q | q | q | q | q | q | q | q <;> subst q <;> rfl
theorem bc64 {g : GE} {w : Mem} (p : Nat → Bool) : fJ13_bitCount_95d88 g [.long (lN (pkN (fun b => if p b = true then 128 else 0) 8 8))] w = some (.inl (some (.int (nI (cntF p 8)))), w) := by
  have e : ∀ a b c d e f g h : Bool, (fJ13_bitCount_95d88 (0, fun _ => 0, fun _ => 0, fun _ => 0, none, 0, 0, fun _ => 0) [.long (lN (pkN (fun i => if p8 a b c d e f g h i = true then 128 else 0) 8 8))] (fun _ => none, 0, 0)).map (fun x => match x.1 with | .inl (some (.int z)) => z == nI (cntF (p8 a b c d e f g h) 8) | _ => false) = some true := by decide +kernel
  have e0 : pkN (fun b => if p b = true then 128 else 0) 8 8 = pkN (fun i => if p8 (p 0) (p 1) (p 2) (p 3) (p 4) (p 5) (p 6) (p 7) i = true then 128 else 0) 8 8 := pkN_cg fun b hb => by rw [p8_eq p hb]
  have e1 : cntF p 8 = cntF (p8 (p 0) (p 1) (p 2) (p 3) (p 4) (p 5) (p 6) (p 7)) 8 := cntF_cg fun b hb => (p8_eq p hb).symm
  have e3 := e (p 0) (p 1) (p 2) (p 3) (p 4) (p 5) (p 6) (p 7)
  rw [e0, e1]
  generalize pkN (fun i => if p8 (p 0) (p 1) (p 2) (p 3) (p 4) (p 5) (p 6) (p 7) i = true then 128 else 0) 8 8 = X at e3 ⊢
  generalize cntF (p8 (p 0) (p 1) (p 2) (p 3) (p 4) (p 5) (p 6) (p 7)) 8 = Y at e3 ⊢
  have e2 : ∃ z : Int32, fJ13_bitCount_95d88 g [.long (lN X)] w = some (.inl (some (.int z)), w) ∧ fJ13_bitCount_95d88 (0, fun _ => 0, fun _ => 0, fun _ => 0, none, 0, 0, fun _ => 0) [.long (lN X)] (fun _ => none, 0, 0) = some (.inl (some (.int z)), (fun _ => none, 0, 0)) := ⟨_, rfl, rfl⟩
  obtain ⟨z, h1, h2⟩ := e2
  rw [h2] at e3
  simp at e3
  rw [h1, e3]
theorem b128 : ∀ z, z < 128 → (z + 127) &&& 128 = if (z != 0) = true then 128 else 0 := by decide +kernel
theorem xor_ne (a b : Nat) : (a ^^^ b != 0) = (a != b) := by
  by_cases h : a = b
  · subst h
    simp
  · have h2 : a ^^^ b ≠ 0 := fun q => by
      have : a ^^^ b ^^^ b = 0 ^^^ b := by rw [q]
      rw [Nat.xor_assoc, Nat.xor_self, Nat.xor_zero, Nat.zero_xor] at this
      exact h this
    rw [bne_iff_ne.mpr h2, bne_iff_ne.mpr h]
def apK (δ : DE) (i j : Nat) : Nat := cntF (fun b => dgR δ i b != dgR δ j b) (δ.1 3)
theorem apK_le {δ : DE} (hd : WF δ) (i j : Nat) : apK δ i j ≤ 8 := Nat.le_trans (cntF_le _ _) hd.1.2.2.2.1
theorem ap_bits {n : Nat} {d e : Nat → Nat} (hn : n ≤ 8) (h1 : ∀ b, b < n → d b < 128) (h2 : ∀ b, b < n → e b < 128) : ((lN (mkN n d) ^^^ lN (mkN n e)) + 9187201950435737471) &&& (-9187201950435737472) = lN (pkN (fun b => if (decide (b < n) && (d b != e b)) = true then 128 else 0) 8 8) := by
  obtain ⟨d', hd'⟩ : ∃ d' : Nat → Nat, d' = fun b => if b < n then d b else 0 := ⟨_, rfl⟩
  obtain ⟨e', he'⟩ : ∃ e' : Nat → Nat, e' = fun b => if b < n then e b else 0 := ⟨_, rfl⟩
  have a1 : mkN n d = pkN d' 8 8 := by
    have := pkN_ext (f := d') (wd := 8) (n := n) (8 - n) (fun b hb => by rw [hd']; exact if_neg (by omega))
    rw [show n + (8 - n) = 8 by omega] at this
    rw [this]
    exact pkN_cg fun b hb => by rw [hd']; exact (if_pos hb).symm
  have a2 : mkN n e = pkN e' 8 8 := by
    have := pkN_ext (f := e') (wd := 8) (n := n) (8 - n) (fun b hb => by rw [he']; exact if_neg (by omega))
    rw [show n + (8 - n) = 8 by omega] at this
    rw [this]
    exact pkN_cg fun b hb => by rw [he']; exact (if_pos hb).symm
  have l1 : ∀ b, d' b < 2 ^ 7 := fun b => by
    rw [hd']
    dsimp only
    split
    · exact h1 b ‹_›
    · decide
  have l2 : ∀ b, e' b < 2 ^ 7 := fun b => by
    rw [he']
    dsimp only
    split
    · exact h2 b ‹_›
    · decide
  have l3 : ∀ b, d' b ^^^ e' b < 2 ^ 7 := fun b => Nat.xor_lt_two_pow (l1 b) (l2 b)
  have k1 : (9187201950435737471 : Int64) = lN (pkN (fun _ => 127) 8 8) := by decide +kernel
  have k2 : (-9187201950435737472 : Int64) = lN (pkN (fun _ => 128) 8 8) := by decide +kernel
  rw [a1, a2, k1, k2, lN_xor9, pkN_xor (fun b _ => by have := l1 b; omega) (fun b _ => by have := l2 b; omega), lN_add, pkN_add]
  have l4 : pkN (fun b => (d' b ^^^ e' b) + 127) 8 8 < 2 ^ 64 := pkN_lt (n := 8) (wd := 8) (fun b _ => by have := l3 b; show _ < 256; omega)
  have l5 : pkN (fun _ => 128) 8 8 < 2 ^ 64 := pkN_lt (n := 8) (wd := 8) (fun b _ => by decide)
  rw [wb_and l4 l5, pkN_and (fun b _ => by have := l3 b; show _ < 256; omega) (fun b _ => by decide)]
  congr 1
  apply pkN_cg
  intro b hb
  rw [b128 _ (l3 b), xor_ne]
  have : (d' b != e' b) = (decide (b < n) && (d b != e b)) := by
    rw [hd', he']
    by_cases z : b < n
    · simp [z]
    · simp [z]
  rw [this]
theorem distance_sp {g : GE} {w : Mem} {tb E D aM aS aG n1 lev : Nat} {δ : DE} (hd : WF δ) (hG : GT g w tb E D δ (δ.1 6) aM aS aG n1 lev) {i j : Nat} (hi : i < nR δ) (hj : j < nR δ) : fX7_distance g [.ref tb, .int (nI i), .int (nI j)] w = some (.inl (some (.int (nI (apK δ i j)))), w) := by
  obtain ⟨b1, b2, b3, b4, b5, b6, b7, b8⟩ := id hd.1
  have hT := hG.tb
  have m1 := hG.mk hi
  have m2 := hG.mk hj
  have e := ap_bits (n := δ.1 3) (d := dgR δ i) (e := dgR δ j) b4 (fun b hb => by have := dgR_100 hd i hb; omega) (fun b hb => by have := dgR_100 hd j hb; omega)
  have c := bc64 (g := g) (w := w) (fun b => decide (b < δ.1 3) && (dgR δ i b != dgR δ j b))
  have e2 : cntF (fun b => decide (b < δ.1 3) && (dgR δ i b != dgR δ j b)) 8 = apK δ i j := by
    have := cntF_ext (p := fun b => decide (b < δ.1 3) && (dgR δ i b != dgR δ j b)) (n := δ.1 3) (8 - δ.1 3) (fun b hb => by simp [show ¬ b < δ.1 3 by omega])
    rw [show δ.1 3 + (8 - δ.1 3) = 8 by omega] at this
    rw [this]
    exact cntF_cg fun b hb => by simp [hb]
  rw [e2] at c
  generalize lN (mkN (δ.1 3) (dgR δ i)) = X at m1 e
  generalize lN (mkN (δ.1 3) (dgR δ j)) = Y at m2 e
  generalize lN (pkN (fun b => if (decide (b < δ.1 3) && (dgR δ i b != dgR δ j b)) = true then 128 else 0) 8 8) = Z at c e
  simp [fX7_distance, kX7_distance, ent, entp, bX7_distance_0, i_aload, i_getf, i_iload, i_ireturn, i_ladd, i_laload, i_land, i_lload, i_lstore, i_lxor, i_push, msk, lset1, lset2, clr, Value.category, Option.toList, List.cons_append, List.nil_append, List.length_cons, List.length_nil, gf_eq hT, m1, m2, e, csk_1 c]
def apartO (δ : DE) (x0 x1 : Int32) : OUT := 
  match rng x0 (nR δ) with
  | none => .inr (1, 0)
  | some n0 =>
    match rng x1 (nR δ) with
    | none => .inr (1, 0)
    | some n1 =>
      .inl (.int (nI (apK δ n0 n1)))
theorem apart_c {g : GE} {w : Mem} {B E fed kept : Nat} {fp : Int32} {tp : Nat → Int32} {rf : Nat → Nat} {δ : DE} {τ : TE} {im : Nat → TE} {lev nG : Nat} (hg : GD g) (hE : B + 132 ≤ E) (hI : CI g w B E fed kept fp tp rf δ τ im lev nG) (x0 x1 : Int32) : CQ g w B E fed kept fp tp rf δ τ im lev nG (fX10_apart g [.ref B, .int x0, .int x1] w) (apartO δ x0 x1) := by
  have hg1 := hg.1
  obtain ⟨D, D', hCC, hCT, hCN, hCL, hCM⟩ := id hI
  obtain ⟨hDD, hB, hTp, hD, hD', hSc, hr, hd, hfd, hkp⟩ := id hCC
  obtain ⟨aM, aS, aG, n1', hG, hX⟩ := id hCT
  obtain ⟨b1, b2, b3, b4, b5, b6, b7, b8⟩ := id hd.1
  have hT := hG.tb
  have hn := nR_le hd
  obtain ⟨N, hN⟩ : ∃ N, g.1 = N + 12 := ⟨g.1 - 12, by omega⟩
  unfold apartO
  have q0 := needReading_sp hg1 hB hr hT (by omega) x0
  cases h0 : rng x0 (nR δ) with
  | none =>
    rw [h0] at q0
    simp only [tst, Option.isSome, Bool.false_eq_true, if_false] at q0
    refine CQ.no hE hI ?_
    simp [fX10_apart, kX10_apart, ent, entp, bX10_apart_0, i_aload, i_getf, i_iload, i_ireturn, msk, lset1, lset2, clr, Value.category, Option.toList, List.cons_append, List.nil_append, List.length_cons, List.length_nil, hN, cxe_1 hB q0]
  | some n0 =>
    rw [h0] at q0
    simp only [tst, Option.isSome, if_true] at q0
    obtain ⟨l0, e0⟩ := rng_some (by omega) h0
    subst e0
    have q1 := needReading_sp hg1 hB hr hT (by omega) x1
    cases h1 : rng x1 (nR δ) with
    | none =>
      rw [h1] at q1
      simp only [tst, Option.isSome, Bool.false_eq_true, if_false] at q1
      refine CQ.no hE hI ?_
      simp [fX10_apart, kX10_apart, ent, entp, bX10_apart_0, i_aload, i_getf, i_iload, i_ireturn, msk, lset1, lset2, clr, Value.category, Option.toList, List.cons_append, List.nil_append, List.length_cons, List.length_nil, hN, cxk_1 hB q0, cxe_1 hB q1]
    | some n1 =>
      rw [h1] at q1
      simp only [tst, Option.isSome, if_true] at q1
      obtain ⟨l1, e1⟩ := rng_some (by omega) h1
      subst e1
      dsimp only
      have o := distance_sp (g := g) hd hG l0 l1
      refine CQ.ok hI ?_
      simp [fX10_apart, kX10_apart, ent, entp, bX10_apart_0, i_aload, i_getf, i_iload, i_ireturn, msk, lset1, lset2, clr, Value.category, Option.toList, List.cons_append, List.nil_append, List.length_cons, List.length_nil, hN, cxk_1 hB q0, cxk_1 hB q1, gf_eq hB, cvk_2 hT o]
/-- counted from the end -/
def crF (p : Nat → Bool) (n : Nat) : Nat → Nat
  | 0 => 0
  | j + 1 => crF p n j + if p (n - 1 - j) = true then 1 else 0
theorem crF_eq {p : Nat → Bool} {n : Nat} : ∀ j, j ≤ n → crF p n j + cntF p (n - j) = cntF p n
  | 0, _ => by simp [crF]
  | j + 1, h => by
    have ih := crF_eq (p := p) (n := n) j (by omega)
    obtain ⟨z, hz⟩ : ∃ z, n - j = z + 1 := ⟨n - j - 1, by omega⟩
    rw [hz] at ih
    have e1 : n - (j + 1) = z := by omega
    have e2 : n - 1 - j = z := by omega
    have e3 : cntF p (z + 1) = cntF p z + if p z = true then 1 else 0 := rfl
    have e4 : crF p n (j + 1) = crF p n j + if p (n - 1 - j) = true then 1 else 0 := rfl
    rw [e3] at ih
    rw [e4, e1, e2]
    omega
theorem lf_le (δ : DE) (row : Nat) : ∀ j, lf δ row j ≤ row
  | 0 => Nat.le_refl _
  | j + 1 => Nat.le_trans (Nat.div_le_self _ _) (lf_le δ row j)
theorem apartBy_sp {g : GE} (hg : FU g) {w : Mem} {M i j : Nat} {x : Nat → Int32} {δ : DE} (hd : WF δ) (hO : MO w M x) (hD : RD w M δ) (hR : RT w M δ (δ.1 6)) (hi : i < nR δ) (hj : j < nR δ) : fX11_apartBy g [.ref M, .int (nI i), .int (nI j)] w = some (.inl (some (.int (nI (apK δ i j)))), w) := by
  obtain ⟨b1, b2, b3, b4, b5, b6, b7, b8⟩ := id hd.1
  obtain ⟨h0, -, -, -, -, -, ⟨c6, h6, k6⟩, -⟩ := id hD
  have r1 := hR.row hd hi
  have r2 := hR.row hd hj
  have l1 := (rr_lt hi).1
  have l2 := (rr_lt hj).1
  obtain ⟨N, hN⟩ : ∃ N, g.1 = N + 1 := ⟨g.1 - 1, by omega⟩
  have L := lpF (fun f (s : Lv) => jX11_apartBy g f 1 [] s w) (fun k => [some (.ref M), none, none, some (.int (nI (crF (fun b => dgR δ i b != dgR δ j b) (δ.1 3) k))), some (.int (nI (lf δ (rr δ i) k))), some (.int (nI (lf δ (rr δ j) k))), some (.int (nI (δ.1 3 - k) - 1))]) (some (.inl (some (.int (nI (apK δ i j)))), w)) 2 1 (δ.1 3)
    (fun k hk f => by
      refine ⟨f, Nat.le_refl _, ?_⟩
      obtain ⟨b, hb⟩ : ∃ b, δ.1 3 - k = b + 1 := ⟨δ.1 3 - k - 1, by omega⟩
      have hbn : b < δ.1 3 := by omega
      have hs := hd.2.2.2.1 b hbn
      have e1 : δ.1 3 - (k + 1) = b := by omega
      have e2 : δ.1 3 - 1 - k = b := by omega
      have e3 : δ.1 3 - 1 - b = k := by omega
      have z0 : ¬ nI b < 0 := nI_pos (by omega)
      have ll1 := lf_le δ (rr δ i) k
      have ll2 := lf_le δ (rr δ j) k
      have sz : gi w 0 (M + 115 + 1 + b) 2 = some (nI (δ.2 10 b)) := by rw [(h6.2 b (by omega)).rc 2 2 rfl (by decide) (by decide), (k6 b hbn).2.2.1]
      have c2 : ¬ (nI (δ.2 10 b) = 0) := nI_ne0 (by omega) (by omega)
      have m1 : nI (lf δ (rr δ i) k) - nI (lf δ (rr δ i) k) / nI (δ.2 10 b) * nI (δ.2 10 b) = nI (dgR δ i b) := by
        rw [pk_rem (by omega) (by omega) (by omega)]
        show _ = nI (lf δ (rr δ i) (δ.1 3 - 1 - b) % δ.2 10 b)
        rw [e3]
      have m2 : nI (lf δ (rr δ j) k) - nI (lf δ (rr δ j) k) / nI (δ.2 10 b) * nI (δ.2 10 b) = nI (dgR δ j b) := by
        rw [pk_rem (by omega) (by omega) (by omega)]
        show _ = nI (lf δ (rr δ j) (δ.1 3 - 1 - b) % δ.2 10 b)
        rw [e3]
      have v1 : nI (lf δ (rr δ i) k) / nI (δ.2 10 b) = nI (lf δ (rr δ i) (k + 1)) := by
        rw [pk_div (by omega) (by omega) (by omega)]
        show _ = nI (lf δ (rr δ i) k / δ.2 10 (δ.1 3 - 1 - k))
        rw [e2]
      have v2 : nI (lf δ (rr δ j) k) / nI (δ.2 10 b) = nI (lf δ (rr δ j) (k + 1)) := by
        rw [pk_div (by omega) (by omega) (by omega)]
        show _ = nI (lf δ (rr δ j) k / δ.2 10 (δ.1 3 - 1 - k))
        rw [e2]
      have ld1 := dgR_100 hd i hbn
      have ld2 := dgR_100 hd j hbn
      have mq := nI_eq (a := dgR δ i b) (b := dgR δ j b) (by omega) (by omega)
      have ep : nI b + (-1) = nI b - 1 := by
        cases b with
        | zero => decide
        | succ k => rw [nI_pred, pk_m1]
      have er : crF (fun b => dgR δ i b != dgR δ j b) (δ.1 3) (k + 1) = crF (fun b => dgR δ i b != dgR δ j b) (δ.1 3) k + if (dgR δ i b != dgR δ j b) = true then 1 else 0 := by
        show _ + (if (dgR δ i (δ.1 3 - 1 - k) != dgR δ j (δ.1 3 - 1 - k)) = true then 1 else 0) = _
        rw [e2]
      rw [e1, hb, nI_pred, er]
      generalize crF (fun b => dgR δ i b != dgR δ j b) (δ.1 3) k = X
      generalize nI (lf δ (rr δ i) (k + 1)) = A1 at v1 ⊢
      generalize nI (lf δ (rr δ j) (k + 1)) = A2 at v2 ⊢
      generalize nI (lf δ (rr δ i) k) = A3 at v1 m1 ⊢
      generalize nI (lf δ (rr δ j) k) = A4 at v2 m2 ⊢
      rw [v1] at m1
      rw [v2] at m2
      by_cases z : dgR δ i b = dgR δ j b
      · rw [z] at m1 ⊢
        simp only [bne_self_eq_false, Bool.false_eq_true, if_false, Nat.add_zero]
        simp [jX11_apartBy, bX11_apartBy_0, bX11_apartBy_1, bX11_apartBy_2, i_aaload, i_aload, i_getf, i_iadd, i_iaload, i_icne, i_idiv, i_iflt, i_iinc, i_iload, i_irem, i_ireturn, i_istore, i_isub, i_jmp, i_push, msk, lset1, lset2, clr, Value.category, Option.toList, List.cons_append, List.nil_append, List.length_cons, List.length_nil, z0, gf_eq hO, mg_24, h6.1.rd (j := b) (by omega) (by decide), va_rf, sz, c2, v1, v2, m1, m2, ep]
      · have z' : (dgR δ i b != dgR δ j b) = true := by simp [z]
        rw [if_pos z']
        simp [jX11_apartBy, bX11_apartBy_0, bX11_apartBy_1, bX11_apartBy_2, i_aaload, i_aload, i_getf, i_iadd, i_iaload, i_icne, i_idiv, i_iflt, i_iinc, i_iload, i_irem, i_ireturn, i_istore, i_isub, i_jmp, i_push, msk, lset1, lset2, clr, Value.category, Option.toList, List.cons_append, List.nil_append, List.length_cons, List.length_nil, z0, gf_eq hO, mg_24, h6.1.rd (j := b) (by omega) (by decide), va_rf, sz, c2, v1, v2, m1, m2, mt mq.mp z, ep, nI_1])
    (fun f => by
      have e9 := crF_eq (p := fun b => dgR δ i b != dgR δ j b) (n := δ.1 3) (δ.1 3) (Nat.le_refl _)
      rw [Nat.sub_self] at e9
      have e8 : crF (fun b => dgR δ i b != dgR δ j b) (δ.1 3) (δ.1 3) = apK δ i j := by
        have : cntF (fun b => dgR δ i b != dgR δ j b) 0 = 0 := rfl
        unfold apK
        omega
      rw [e8, Nat.sub_self]
      simp [jX11_apartBy, bX11_apartBy_0, bX11_apartBy_1, bX11_apartBy_2, i_aaload, i_aload, i_getf, i_iadd, i_iaload, i_icne, i_idiv, i_iflt, i_iinc, i_iload, i_irem, i_ireturn, i_istore, i_isub, i_jmp, i_push, msk, lset1, lset2, clr, Value.category, Option.toList, List.cons_append, List.nil_append, List.length_cons, List.length_nil, (show nI 0 - 1 < 0 from by decide)])
  rw [← L N (by omega)]
  have e0 : crF (fun b => dgR δ i b != dgR δ j b) (δ.1 3) 0 = 0 := rfl
  rw [e0]
  simp [fX11_apartBy, kX11_apartBy, ent, entp, jX11_apartBy, bX11_apartBy_0, bX11_apartBy_1, bX11_apartBy_2, i_aaload, i_aload, i_getf, i_iadd, i_iaload, i_icne, i_idiv, i_iflt, i_iinc, i_iload, i_irem, i_ireturn, i_istore, i_isub, i_jmp, i_push, msk, lset1, lset2, clr, Value.category, Option.toList, List.cons_append, List.nil_append, List.length_cons, List.length_nil, hN, gf_eq hO, mg_28, mg_11, r1, r2, h0.rc 3 3 rfl (by decide) (by decide), lf, nI_0]
theorem apart_r {g : GE} {w : Mem} {M fed kept : Nat} {fp : Int32} {tp : Nat → Int32} {rf : Nat → Nat} {δ : DE} {τ : TE} {im : Nat → TE} {x : Nat → Int32} (hg : FU g) (hd : WF δ) (hI : RI w M fed kept fp tp rf δ τ im x) (x0 x1 : Int32) : RQo w M fed kept fp tp rf δ τ im (fX11_apart g [.ref M, .int x0, .int x1] w) (apartO δ x0 x1) := by
  obtain ⟨w0, hw0, I0, F0⟩ := hI.t0
  obtain ⟨b1, b2, b3, b4, b5, b6, b7, b8⟩ := id hd.1
  obtain ⟨hO, hXO, hRK, hRZ, hrf⟩ := id I0
  obtain ⟨x1', x3', x27, x32, x33, x34⟩ := id hXO
  obtain ⟨hTp, hD, hR, hCp, hHb, hKp, hRP⟩ := id hRK
  have hn := nR_le hd
  have x0' : (va_up x 0 0) 0 = 0 := va_up_self _ _ _
  obtain ⟨N, hN⟩ : ∃ N, g.1 = N + 16 := ⟨g.1 - 16, by omega⟩
  unfold apartO
  have q0 := isReading_sp hg hO x27 hn x0
  cases h0 : rng x0 (nR δ) with
  | none =>
    rw [h0] at q0
    simp only [bI, Option.isSome, Bool.false_eq_true, if_false] at q0
    obtain ⟨w1, p1, p2, p3⟩ := bad1_sp hg I0 x0' (c := 1) (r := 0) (C := 1) (R := 0) rfl rfl (by decide) (by decide)
    refine RQo.no (v := .int 0) F0 p2 ?_ p3
    simp [fX11_apart, kX11_apart, ent, entp, jX11_apart, bX11_apart_0, bX11_apart_1, bX11_apart_2, i_aload, i_ifeq, i_ifne, i_iload, i_ireturn, i_jmp, i_push, i_putf, msk, lset1, lset2, clr, Value.category, Option.toList, List.cons_append, List.nil_append, List.length_cons, List.length_nil, hN, st_0 hI.1, hw0, cvk_1 hO q0, cvk_3 hO p1]
  | some n0 =>
    rw [h0] at q0
    simp only [bI, Option.isSome, if_true] at q0
    obtain ⟨l0, e0⟩ := rng_some (by omega) h0
    subst e0
    have q1 := isReading_sp hg hO x27 hn x1
    cases h1 : rng x1 (nR δ) with
    | none =>
      rw [h1] at q1
      simp only [bI, Option.isSome, Bool.false_eq_true, if_false] at q1
      obtain ⟨w1, p1, p2, p3⟩ := bad1_sp hg I0 x0' (c := 1) (r := 0) (C := 1) (R := 0) rfl rfl (by decide) (by decide)
      refine RQo.no (v := .int 0) F0 p2 ?_ p3
      simp [fX11_apart, kX11_apart, ent, entp, jX11_apart, bX11_apart_0, bX11_apart_1, bX11_apart_2, i_aload, i_ifeq, i_ifne, i_iload, i_ireturn, i_jmp, i_push, i_putf, msk, lset1, lset2, clr, Value.category, Option.toList, List.cons_append, List.nil_append, List.length_cons, List.length_nil, hN, st_0 hI.1, hw0, cvk_1 hO q0, cvk_1 hO q1, cvk_3 hO p1]
    | some n1 =>
      rw [h1] at q1
      simp only [bI, Option.isSome, if_true] at q1
      obtain ⟨l1, e1⟩ := rng_some (by omega) h1
      subst e1
      dsimp only
      have o := apartBy_sp hg hd hO hD hR l0 l1
      refine RQo.ok F0 I0 x0' ?_ (Fr.rf _ _)
      simp [fX11_apart, kX11_apart, ent, entp, jX11_apart, bX11_apart_0, bX11_apart_1, bX11_apart_2, i_aload, i_ifeq, i_ifne, i_iload, i_ireturn, i_jmp, i_push, i_putf, msk, lset1, lset2, clr, Value.category, Option.toList, List.cons_append, List.nil_append, List.length_cons, List.length_nil, hN, st_0 hI.1, hw0, cvk_1 hO q0, cvk_1 hO q1, cvk_3 hO (bad0_sp hg hO x0' 1 0), cvk_2 hO o]
/-! middle -/
def miK (δ : DE) : Nat := if nR δ < 400 then nR δ else 400
theorem miK_le (δ : DE) : miK δ ≤ 400 ∧ miK δ ≤ nR δ := by
  unfold miK
  split <;> omega
theorem miK_I {δ : DE} (hn : nR δ ≤ 20000) : (if 400 < nI (nR δ) then 400 else nI (nR δ)) = nI (miK δ) := by
  have m : (400 < nI (nR δ)) ↔ 400 < nR δ := nI_ltI (a := 400) (by decide) (by omega)
  unfold miK
  by_cases z : 400 < nR δ
  · rw [if_pos (m.mpr z), if_neg (by omega)]
    rfl
  · rw [if_neg (mt m.mp z)]
    split
    · rfl
    · rw [show nR δ = 400 by omega]
def farK (δ : DE) (i : Nat) : Nat := mxF (fun j => apK δ i j) (miK δ)
theorem farK_le {δ : DE} (hd : WF δ) (i : Nat) : farK δ i ≤ 8 := mxF_le (fun j => apK_le hd i j) _
abbrev mdK (δ : DE) (n : Nat) : Option Nat := amnP tru (farK δ) n
theorem farthestFrom_sp {g : GE} (hg : FU g) {w : Mem} {tb E D aM aS aG n1 lev : Nat} {δ : DE} (hd : WF δ) (hG : GT g w tb E D δ (δ.1 6) aM aS aG n1 lev) {i : Nat} (hi : i < nR δ) : fX7_farthestFrom g [.ref tb, .int (nI i)] w = some (.inl (some (.int (nI (farK δ i)))), w) := by
  have hT := hG.tb
  have hn := nR_le hd
  obtain ⟨k1, k2⟩ := miK_le δ
  obtain ⟨N, hN⟩ : ∃ N, g.1 = N + 1 := ⟨g.1 - 1, by omega⟩
  have L := lpF (fun f (s : Lv) => jX7_farthestFrom g f 1 [] s w) (fun k => [some (.ref tb), some (.int (nI i)), some (.int (nI (miK δ))), some (.int (nI (mxF (fun j => apK δ i j) k))), some (.int (nI k))]) (some (.inl (some (.int (nI (farK δ i)))), w)) 1 1 (miK δ)
    (fun k hk f => by
      refine ⟨f, Nat.le_refl _, ?_⟩
      have o := distance_sp (g := g) hd hG hi (j := k) (by omega)
      have l1 := apK_le hd i k
      have l2 : mxF (fun j => apK δ i j) k ≤ 8 := mxF_le (fun j => apK_le hd i j) k
      have m := nI_ltI (a := mxF (fun j => apK δ i j) k) (b := apK δ i k) (by omega) (by omega)
      by_cases z : mxF (fun j => apK δ i j) k < apK δ i k
      · simp [jX7_farthestFrom, bX7_farthestFrom_0, bX7_farthestFrom_1, i_aload, i_getf, i_icge, i_iinc, i_iload, i_ireturn, i_istore, i_jmp, i_max, i_min, i_push, msk, lset1, lset2, clr, Value.category, Option.toList, List.cons_append, List.nil_append, List.length_cons, List.length_nil, nI_ge hk (by omega), cvk_2 hT o, m, z, nI_1, mxF]
      · simp [jX7_farthestFrom, bX7_farthestFrom_0, bX7_farthestFrom_1, i_aload, i_getf, i_icge, i_iinc, i_iload, i_ireturn, i_istore, i_jmp, i_max, i_min, i_push, msk, lset1, lset2, clr, Value.category, Option.toList, List.cons_append, List.nil_append, List.length_cons, List.length_nil, nI_ge hk (by omega), cvk_2 hT o, m, z, nI_1, mxF])
    (fun f => by
      simp [jX7_farthestFrom, bX7_farthestFrom_0, bX7_farthestFrom_1, i_aload, i_getf, i_icge, i_iinc, i_iload, i_ireturn, i_istore, i_jmp, i_max, i_min, i_push, msk, lset1, lset2, clr, Value.category, Option.toList, List.cons_append, List.nil_append, List.length_cons, List.length_nil, farK])
  rw [← L N (by omega)]
  simp [fX7_farthestFrom, kX7_farthestFrom, ent, entp, jX7_farthestFrom, bX7_farthestFrom_0, bX7_farthestFrom_1, i_aload, i_getf, i_icge, i_iinc, i_iload, i_ireturn, i_istore, i_jmp, i_max, i_min, i_push, msk, lset1, lset2, clr, Value.category, Option.toList, List.cons_append, List.nil_append, List.length_cons, List.length_nil, hN, gf_eq hT, miK_I hn, nI_0, mxF]
theorem middleReading_sp {g : GE} (hg : FU g) {w : Mem} {tb E D aM aS aG n1 lev : Nat} {δ : DE} (hd : WF δ) (hG : GT g w tb E D δ (δ.1 6) aM aS aG n1 lev) : fX7_middleReading g [.ref tb] w = some (.inl (some (.int (oI (mdK δ (miK δ))))), w) := by
  have hT := hG.tb
  have hn := nR_le hd
  obtain ⟨k1, k2⟩ := miK_le δ
  obtain ⟨N, hN⟩ : ∃ N, g.1 = N + 1 := ⟨g.1 - 1, by omega⟩
  have L := lpF (fun f (s : Lv) => jX7_middleReading g f 1 [] s w) (fun k => [some (.ref tb), some (.int (nI (miK δ))), some (.int (oI (mdK δ k))), some (.int (zV (farK δ) (mdK δ k))), some (.int (nI k)), none]) (some (.inl (some (.int (oI (mdK δ (miK δ))))), w)) 3 1 (miK δ)
    (fun k hk f => by
      have o := farthestFrom_sp hg hd hG (i := k) (by omega)
      have l1 := farK_le hd k
      cases hA : mdK δ k with
      | none =>
        refine ⟨f, Nat.le_refl _, ?_⟩
        have e9 : mdK δ (k + 1) = some k := by simp [mdK, amnP, show amnP tru (farK δ) k = none from hA]
        rw [e9]
        simp [jX7_middleReading, bX7_middleReading_0, bX7_middleReading_1, bX7_middleReading_2, bX7_middleReading_3, i_aload, i_getf, i_iceq, i_icge, i_iinc, i_iload, i_ireturn, i_istore, i_jmp, i_min, i_push, msk, lset1, lset2, clr, Value.category, Option.toList, List.cons_append, List.nil_append, List.length_cons, List.length_nil, nI_ge hk (by omega), cvk_1 hT o, oI, zV, nI_1]
      | some j =>
        have ljk := amnP_lt hA
        have nn := nI_nn (y := j) (by omega)
        have lj := farK_le hd j
        by_cases z : farK δ k < farK δ j
        · refine ⟨f, Nat.le_refl _, ?_⟩
          have e9 : mdK δ (k + 1) = some k := by simp [mdK, amnP, show amnP tru (farK δ) k = some j from hA, z]
          rw [e9]
          simp [jX7_middleReading, bX7_middleReading_0, bX7_middleReading_1, bX7_middleReading_2, bX7_middleReading_3, i_aload, i_getf, i_iceq, i_icge, i_iinc, i_iload, i_ireturn, i_istore, i_jmp, i_min, i_push, msk, lset1, lset2, clr, Value.category, Option.toList, List.cons_append, List.nil_append, List.length_cons, List.length_nil, nI_ge hk (by omega), cvk_1 hT o, oI, zV, nn, nI_ge z (by omega), nI_1]
        · refine ⟨f + 1, by omega, ?_⟩
          have e9 : mdK δ (k + 1) = some j := by simp [mdK, amnP, show amnP tru (farK δ) k = some j from hA, z]
          rw [e9]
          rw [show f + 3 = (f + 1) + 2 from rfl]
          generalize f + 1 = F
          simp [jX7_middleReading, bX7_middleReading_0, bX7_middleReading_1, bX7_middleReading_2, bX7_middleReading_3, i_aload, i_getf, i_iceq, i_icge, i_iinc, i_iload, i_ireturn, i_istore, i_jmp, i_min, i_push, msk, lset1, lset2, clr, Value.category, Option.toList, List.cons_append, List.nil_append, List.length_cons, List.length_nil, nI_ge hk (by omega), cvk_1 hT o, oI, zV, nn, nI_le (Nat.le_of_not_lt z) (by omega), nI_1])
    (fun f => by
      generalize mdK δ (miK δ) = X
      simp [jX7_middleReading, bX7_middleReading_0, bX7_middleReading_1, bX7_middleReading_2, bX7_middleReading_3, i_aload, i_getf, i_iceq, i_icge, i_iinc, i_iload, i_ireturn, i_istore, i_jmp, i_min, i_push, msk, lset1, lset2, clr, Value.category, Option.toList, List.cons_append, List.nil_append, List.length_cons, List.length_nil])
  rw [← L N (by omega)]
  simp [fX7_middleReading, kX7_middleReading, ent, entp, jX7_middleReading, bX7_middleReading_0, bX7_middleReading_1, bX7_middleReading_2, bX7_middleReading_3, i_aload, i_getf, i_iceq, i_icge, i_iinc, i_iload, i_ireturn, i_istore, i_jmp, i_min, i_push, msk, lset1, lset2, clr, Value.category, Option.toList, List.cons_append, List.nil_append, List.length_cons, List.length_nil, hN, gf_eq hT, miK_I hn, nI_0, mdK, amnP, oI, zV]
def middleO (δ : DE) (x0 : Int32) : OUT := 
  match rng x0 (1 + 1) with
  | none => .inr (1, 2)
  | some n0 =>
    .inl (.int (if n0 = 0 then oI (mdK δ (miK δ)) else oV (farK δ) (mdK δ (miK δ))))
theorem middle_c {g : GE} {w : Mem} {B E fed kept : Nat} {fp : Int32} {tp : Nat → Int32} {rf : Nat → Nat} {δ : DE} {τ : TE} {im : Nat → TE} {lev nG : Nat} (hg : GD g) (hE : B + 132 ≤ E) (hI : CI g w B E fed kept fp tp rf δ τ im lev nG) (x0 : Int32) : CQ g w B E fed kept fp tp rf δ τ im lev nG (fX10_middle g [.ref B, .int x0] w) (middleO δ x0) := by
  have hg1 := hg.1
  obtain ⟨D, D', hCC, hCT, hCN, hCL, hCM⟩ := id hI
  obtain ⟨hDD, hB, hTp, hD, hD', hSc, hr, hd, hfd, hkp⟩ := id hCC
  obtain ⟨aM, aS, aG, n1', hG, hX⟩ := id hCT
  obtain ⟨b1, b2, b3, b4, b5, b6, b7, b8⟩ := id hd.1
  have hT := hG.tb
  have hn := nR_le hd
  obtain ⟨N, hN⟩ : ∃ N, g.1 = N + 12 := ⟨g.1 - 12, by omega⟩
  unfold middleO
  have q0 := needWhat_sp hg1 hB hr x0 (n := 1) (y := 1) rfl (by decide)
  cases h0 : rng x0 (1 + 1) with
  | none =>
    rw [h0] at q0
    simp only [tst, Option.isSome, Bool.false_eq_true, if_false] at q0
    refine CQ.no hE hI ?_
    simp [fX10_middle, kX10_middle, ent, entp, jX10_middle, bX10_middle_0, bX10_middle_1, bX10_middle_2, i_aload, i_getf, i_icne, i_ifeq, i_iload, i_ireturn, i_istore, i_jmp, i_push, msk, lset1, lset2, clr, Value.category, Option.toList, List.cons_append, List.nil_append, List.length_cons, List.length_nil, hN, cxe_2 hB q0]
  | some n0 =>
    rw [h0] at q0
    simp only [tst, Option.isSome, if_true] at q0
    obtain ⟨l0, e0⟩ := rng_some (by omega) h0
    subst e0
    dsimp only
    have o := middleReading_sp hg1 hd hG
    refine CQ.ok hI ?_
    have k2 := (miK_le δ).2
    by_cases z : n0 = 0
    · subst z
      simp only [nI_0] at q0
      simp only [if_true]
      generalize mdK δ (miK δ) = X at o ⊢
      simp [fX10_middle, kX10_middle, ent, entp, jX10_middle, bX10_middle_0, bX10_middle_1, bX10_middle_2, i_aload, i_getf, i_icne, i_ifeq, i_iload, i_ireturn, i_istore, i_jmp, i_push, msk, lset1, lset2, clr, Value.category, Option.toList, List.cons_append, List.nil_append, List.length_cons, List.length_nil, hN, cxk_2 hB q0, gf_eq hB, cvk_0 hT o, nI_0]
    · have z1 := nI_ne0 (n := n0) (by omega) (by omega)
      simp only [z, if_false]
      cases hA : mdK δ (miK δ) with
      | none =>
        rw [hA] at o
        simp [fX10_middle, kX10_middle, ent, entp, jX10_middle, bX10_middle_0, bX10_middle_1, bX10_middle_2, i_aload, i_getf, i_icne, i_ifeq, i_iload, i_ireturn, i_istore, i_jmp, i_push, msk, lset1, lset2, clr, Value.category, Option.toList, List.cons_append, List.nil_append, List.length_cons, List.length_nil, hN, cxk_2 hB q0, gf_eq hB, cvk_0 hT o, z1, oI, oV]
      | some j =>
        rw [hA] at o
        have lj := amnP_lt hA
        have nn := nI_nn (y := j) (by omega)
        have o2 := farthestFrom_sp hg1 hd hG (i := j) (by omega)
        simp [fX10_middle, kX10_middle, ent, entp, jX10_middle, bX10_middle_0, bX10_middle_1, bX10_middle_2, i_aload, i_getf, i_icne, i_ifeq, i_iload, i_ireturn, i_istore, i_jmp, i_push, msk, lset1, lset2, clr, Value.category, Option.toList, List.cons_append, List.nil_append, List.length_cons, List.length_nil, hN, cxk_2 hB q0, gf_eq hB, cvk_0 hT o, z1, oI, oV, nn, cvk_1 hT o2]
theorem middle_r {g : GE} {w : Mem} {M fed kept : Nat} {fp : Int32} {tp : Nat → Int32} {rf : Nat → Nat} {δ : DE} {τ : TE} {im : Nat → TE} {x : Nat → Int32} (hg : FU g) (hd : WF δ) (hI : RI w M fed kept fp tp rf δ τ im x) (x0 : Int32) : RQo w M fed kept fp tp rf δ τ im (fX11_middle g [.ref M, .int x0] w) (middleO δ x0) := by
  obtain ⟨w0, hw0, I0, F0⟩ := hI.t0
  obtain ⟨b1, b2, b3, b4, b5, b6, b7, b8⟩ := id hd.1
  obtain ⟨hO, hXO, hRK, hRZ, hrf⟩ := id I0
  obtain ⟨x1', x3', x27, x32, x33, x34⟩ := id hXO
  obtain ⟨hTp, hD, hR, hCp, hHb, hKp, hRP⟩ := id hRK
  have hn := nR_le hd
  have x0' : (va_up x 0 0) 0 = 0 := va_up_self _ _ _
  obtain ⟨N, hN⟩ : ∃ N, g.1 = N + 2 := ⟨g.1 - 2, by omega⟩
  unfold middleO
  have q0 := in_sp (w := w0) hg x0 (n := 1 + 1) (y := 1) (by decide) (by decide)
  cases h0 : rng x0 (1 + 1) with
  | none =>
    rw [h0] at q0
    simp only [bI, Option.isSome, Bool.false_eq_true, if_false] at q0
    obtain ⟨w1, p1, p2, p3⟩ := bad1_sp hg I0 x0' (c := 1) (r := 2) (C := 1) (R := 2) rfl rfl (by decide) (by decide)
    refine RQo.no (v := .int 0) F0 p2 ?_ p3
    simp [fX11_middle, kX11_middle, ent, entp, jX11_middle, bX11_middle_0, bX11_middle_1, bX11_middle_2, bX11_middle_3, bX11_middle_4, bX11_middle_5, bX11_middle_6, bX11_middle_7, bX11_middle_8, bX11_middle_9, i_aload, i_getf, i_iceq, i_icge, i_icle, i_iclt, i_ifeq, i_ifne, i_iinc, i_iload, i_ireturn, i_istore, i_jmp, i_push, i_putf, msk, lset1, lset2, clr, Value.category, Option.toList, List.cons_append, List.nil_append, List.length_cons, List.length_nil, hN, st_0 hI.1, hw0, csk_3 q0, cvk_3 hO p1]
  | some n0 =>
    rw [h0] at q0
    simp only [bI, Option.isSome, if_true] at q0
    obtain ⟨l0, e0⟩ := rng_some (by omega) h0
    subst e0
    dsimp only
    obtain ⟨k1, k2⟩ := miK_le δ
    have xc : ∀ i, i < miK δ → ∀ (X Y : Int32) (f : Nat), ∃ f', f ≤ f' ∧ jX11_middle g (f + 1 + 2 * miK δ) 4 [] [some (.ref M), some (.int (nI n0)), some (.int X), some (.int Y), some (.int (nI (miK δ))), some (.int (nI i)), some (.int 0), some (.int 0)] w0 = jX11_middle g (f' + 1) 4 [] [some (.ref M), some (.int (nI n0)), some (.int X), some (.int Y), some (.int (nI (miK δ))), some (.int (nI i)), some (.int (nI (farK δ i))), some (.int (nI (miK δ)))] w0 := fun i hi X Y f => by
      have L := lpC (fun f (s : Lv) => jX11_middle g f 4 [] s w0) (fun j s => s = [some (.ref M), some (.int (nI n0)), some (.int X), some (.int Y), some (.int (nI (miK δ))), some (.int (nI i)), some (.int (nI (mxF (fun j => apK δ i j) j))), some (.int (nI j))]) 2 (miK δ)
        (fun j s hj hI f => by
          subst hI
          refine ⟨f, _, Nat.le_refl _, rfl, ?_⟩
          have o := apartBy_sp hg hd hO hD hR (i := i) (j := j) (by omega) (by omega)
          have l1 := apK_le hd i j
          have l2 : mxF (fun j => apK δ i j) j ≤ 8 := mxF_le (fun j => apK_le hd i j) j
          by_cases z : mxF (fun j => apK δ i j) j < apK δ i j
          · have m := nI_ge z (by omega)
            simp [jX11_middle, bX11_middle_0, bX11_middle_1, bX11_middle_2, bX11_middle_3, bX11_middle_4, bX11_middle_5, bX11_middle_6, bX11_middle_7, bX11_middle_8, bX11_middle_9, i_aload, i_getf, i_iceq, i_icge, i_icle, i_iclt, i_ifeq, i_ifne, i_iinc, i_iload, i_ireturn, i_istore, i_jmp, i_push, i_putf, msk, lset1, lset2, clr, Value.category, Option.toList, List.cons_append, List.nil_append, List.length_cons, List.length_nil, nI_ge hj (by omega), cvk_2 hO o, m, z, nI_1, mxF]
          · have m := nI_le (Nat.le_of_not_lt z) (by omega)
            simp [jX11_middle, bX11_middle_0, bX11_middle_1, bX11_middle_2, bX11_middle_3, bX11_middle_4, bX11_middle_5, bX11_middle_6, bX11_middle_7, bX11_middle_8, bX11_middle_9, i_aload, i_getf, i_iceq, i_icge, i_icle, i_iclt, i_ifeq, i_ifne, i_iinc, i_iload, i_ireturn, i_istore, i_jmp, i_push, i_putf, msk, lset1, lset2, clr, Value.category, Option.toList, List.cons_append, List.nil_append, List.length_cons, List.length_nil, nI_ge hj (by omega), cvk_2 hO o, m, z, nI_1, mxF])
      obtain ⟨f1, s1, g1, g2, g3⟩ := L (miK δ) 0 [some (.ref M), some (.int (nI n0)), some (.int X), some (.int Y), some (.int (nI (miK δ))), some (.int (nI i)), some (.int (nI 0)), some (.int (nI 0))] (by omega) rfl (f + 1)
      obtain ⟨f2, rfl⟩ : ∃ z, f1 = z + 1 := ⟨f1 - 1, by omega⟩
      refine ⟨f2, by omega, ?_⟩
      simp only [nI_0] at g3
      rw [g3, g2]
      rfl
    refine RQo.ok F0 I0 x0' ?_ (Fr.rf _ _)
    obtain ⟨N2, hN2⟩ : ∃ N, g.1 = N + 3 := ⟨g.1 - 3, by omega⟩
    have L := lpF (fun f (s : Lv) => jX11_middle g f 3 [] s w0) (fun k => [some (.ref M), some (.int (nI n0)), some (.int (oI (mdK δ k))), some (.int (zV (farK δ) (mdK δ k))), some (.int (nI (miK δ))), some (.int (nI k)), none, none]) (some (.inl (some (.int (if n0 = 0 then oI (mdK δ (miK δ)) else oV (farK δ) (mdK δ (miK δ))))), w0)) 820 3 (miK δ)
      (fun k hk f => by
        have ls := farK_le hd k
        obtain ⟨f', g1, g2⟩ := xc k hk (oI (mdK δ k)) (zV (farK δ) (mdK δ k)) (f + 818 - 2 * miK δ)
        rw [show f + 818 - 2 * miK δ + 1 + 2 * miK δ = f + 819 from by omega] at g2
        have e0 : jX11_middle g (f + 820) 3 [] [some (.ref M), some (.int (nI n0)), some (.int (oI (mdK δ k))), some (.int (zV (farK δ) (mdK δ k))), some (.int (nI (miK δ))), some (.int (nI k)), none, none] w0 = jX11_middle g (f + 819) 4 [] [some (.ref M), some (.int (nI n0)), some (.int (oI (mdK δ k))), some (.int (zV (farK δ) (mdK δ k))), some (.int (nI (miK δ))), some (.int (nI k)), some (.int 0), some (.int 0)] w0 := by
          generalize mdK δ k = X
          rw [show f + 820 = (f + 819) + 1 from rfl]
          generalize f + 819 = F
          simp [jX11_middle, bX11_middle_0, bX11_middle_1, bX11_middle_2, bX11_middle_3, bX11_middle_4, bX11_middle_5, bX11_middle_6, bX11_middle_7, bX11_middle_8, bX11_middle_9, i_aload, i_getf, i_iceq, i_icge, i_icle, i_iclt, i_ifeq, i_ifne, i_iinc, i_iload, i_ireturn, i_istore, i_jmp, i_push, i_putf, msk, lset1, lset2, clr, Value.category, Option.toList, List.cons_append, List.nil_append, List.length_cons, List.length_nil, nI_ge hk (by omega)]
        have goal : ∀ (f' : Nat), f + 4 ≤ f' → ∃ f2, f ≤ f2 ∧ jX11_middle g (f' + 1) 4 [] [some (.ref M), some (.int (nI n0)), some (.int (oI (mdK δ k))), some (.int (zV (farK δ) (mdK δ k))), some (.int (nI (miK δ))), some (.int (nI k)), some (.int (nI (farK δ k))), some (.int (nI (miK δ)))] w0 = jX11_middle g f2 3 [] [some (.ref M), some (.int (nI n0)), some (.int (oI (mdK δ (k + 1)))), some (.int (zV (farK δ) (mdK δ (k + 1)))), some (.int (nI (miK δ))), some (.int (nI (k + 1))), none, none] w0 := fun f' hf => by
          obtain ⟨q, rfl⟩ : ∃ q, f' = q + 3 := ⟨f' - 3, by omega⟩
          cases hA : mdK δ k with
          | none =>
            refine ⟨q + 1, by omega, ?_⟩
            have e9 : mdK δ (k + 1) = some k := by simp [mdK, amnP, show amnP tru (farK δ) k = none from hA]
            rw [e9]
            rw [show q + 3 + 1 = (q + 1) + 3 from rfl]
            generalize q + 1 = F
            simp [jX11_middle, bX11_middle_0, bX11_middle_1, bX11_middle_2, bX11_middle_3, bX11_middle_4, bX11_middle_5, bX11_middle_6, bX11_middle_7, bX11_middle_8, bX11_middle_9, i_aload, i_getf, i_iceq, i_icge, i_icle, i_iclt, i_ifeq, i_ifne, i_iinc, i_iload, i_ireturn, i_istore, i_jmp, i_push, i_putf, msk, lset1, lset2, clr, Value.category, Option.toList, List.cons_append, List.nil_append, List.length_cons, List.length_nil, oI, zV, nI_1]
          | some j =>
            have ljk := amnP_lt hA
            have nn := nI_nn (y := j) (by omega)
            have lj := farK_le hd j
            by_cases z : farK δ k < farK δ j
            · refine ⟨q + 1, by omega, ?_⟩
              have e9 : mdK δ (k + 1) = some k := by simp [mdK, amnP, show amnP tru (farK δ) k = some j from hA, z]
              rw [e9]
              rw [show q + 3 + 1 = (q + 1) + 3 from rfl]
              generalize q + 1 = F
              simp [jX11_middle, bX11_middle_0, bX11_middle_1, bX11_middle_2, bX11_middle_3, bX11_middle_4, bX11_middle_5, bX11_middle_6, bX11_middle_7, bX11_middle_8, bX11_middle_9, i_aload, i_getf, i_iceq, i_icge, i_icle, i_iclt, i_ifeq, i_ifne, i_iinc, i_iload, i_ireturn, i_istore, i_jmp, i_push, i_putf, msk, lset1, lset2, clr, Value.category, Option.toList, List.cons_append, List.nil_append, List.length_cons, List.length_nil, oI, zV, nn, nI_lt z (by omega), nI_1]
            · refine ⟨q + 2, by omega, ?_⟩
              have e9 : mdK δ (k + 1) = some j := by simp [mdK, amnP, show amnP tru (farK δ) k = some j from hA, z]
              rw [e9]
              rw [show q + 3 + 1 = (q + 2) + 2 from rfl]
              generalize q + 2 = F
              simp [jX11_middle, bX11_middle_0, bX11_middle_1, bX11_middle_2, bX11_middle_3, bX11_middle_4, bX11_middle_5, bX11_middle_6, bX11_middle_7, bX11_middle_8, bX11_middle_9, i_aload, i_getf, i_iceq, i_icge, i_icle, i_iclt, i_ifeq, i_ifne, i_iinc, i_iload, i_ireturn, i_istore, i_jmp, i_push, i_putf, msk, lset1, lset2, clr, Value.category, Option.toList, List.cons_append, List.nil_append, List.length_cons, List.length_nil, oI, zV, nn, nI_nlt (Nat.le_of_not_lt z) (by omega), nI_1]
        obtain ⟨f2, k1, k2⟩ := goal f' (by omega)
        exact ⟨f2, k1, by show jX11_middle g (f + 820) 3 [] _ w0 = _; rw [e0, g2, k2]⟩)
      (fun f => by
        cases hA : mdK δ (miK δ) with
        | none =>
          have e9 : (if n0 = 0 then oI none else oV (farK δ) none) = -1 := by split <;> rfl
          rw [e9]
          simp [jX11_middle, bX11_middle_0, bX11_middle_1, bX11_middle_2, bX11_middle_3, bX11_middle_4, bX11_middle_5, bX11_middle_6, bX11_middle_7, bX11_middle_8, bX11_middle_9, i_aload, i_getf, i_iceq, i_icge, i_icle, i_iclt, i_ifeq, i_ifne, i_iinc, i_iload, i_ireturn, i_istore, i_jmp, i_push, i_putf, msk, lset1, lset2, clr, Value.category, Option.toList, List.cons_append, List.nil_append, List.length_cons, List.length_nil, oI]
        | some j =>
          have ljk := amnP_lt hA
          have nn := nI_nn (y := j) (by omega)
          by_cases z : n0 = 0
          · subst z
            simp [jX11_middle, bX11_middle_0, bX11_middle_1, bX11_middle_2, bX11_middle_3, bX11_middle_4, bX11_middle_5, bX11_middle_6, bX11_middle_7, bX11_middle_8, bX11_middle_9, i_aload, i_getf, i_iceq, i_icge, i_icle, i_iclt, i_ifeq, i_ifne, i_iinc, i_iload, i_ireturn, i_istore, i_jmp, i_push, i_putf, msk, lset1, lset2, clr, Value.category, Option.toList, List.cons_append, List.nil_append, List.length_cons, List.length_nil, oI, oV, zV, nn, nI_0]
          · have z1 := nI_ne0 (n := n0) (by omega) (by omega)
            simp [jX11_middle, bX11_middle_0, bX11_middle_1, bX11_middle_2, bX11_middle_3, bX11_middle_4, bX11_middle_5, bX11_middle_6, bX11_middle_7, bX11_middle_8, bX11_middle_9, i_aload, i_getf, i_iceq, i_icge, i_icle, i_iclt, i_ifeq, i_ifne, i_iinc, i_iload, i_ireturn, i_istore, i_jmp, i_push, i_putf, msk, lset1, lset2, clr, Value.category, Option.toList, List.cons_append, List.nil_append, List.length_cons, List.length_nil, oI, oV, zV, nn, z1, z])
    rw [← L N2 (by omega)]
    have m : (400 ≤ nI (nR δ)) ↔ 400 ≤ nR δ := nI_leI (a := 400) (by decide) (by omega)
    by_cases z : 400 ≤ nR δ
    · have z1 := m.mpr z
      have e4 : nI (miK δ) = 400 := by unfold miK; rw [if_neg (by omega)]; rfl
      rw [e4]
      simp [fX11_middle, kX11_middle, ent, entp, jX11_middle, bX11_middle_0, bX11_middle_1, bX11_middle_2, bX11_middle_3, bX11_middle_4, bX11_middle_5, bX11_middle_6, bX11_middle_7, bX11_middle_8, bX11_middle_9, i_aload, i_getf, i_iceq, i_icge, i_icle, i_iclt, i_ifeq, i_ifne, i_iinc, i_iload, i_ireturn, i_istore, i_jmp, i_push, i_putf, msk, lset1, lset2, clr, Value.category, Option.toList, List.cons_append, List.nil_append, List.length_cons, List.length_nil, hN2, st_0 hI.1, hw0, csk_3 q0, cvk_3 hO (bad0_sp hg hO x0' 1 2), gf_eq hO, mg_27, x27, z1, nI_0, mdK, amnP, oI, zV]
    · have z1 := mt m.mp z
      have e4 : miK δ = nR δ := by unfold miK; rw [if_pos (by omega)]
      rw [e4]
      simp [fX11_middle, kX11_middle, ent, entp, jX11_middle, bX11_middle_0, bX11_middle_1, bX11_middle_2, bX11_middle_3, bX11_middle_4, bX11_middle_5, bX11_middle_6, bX11_middle_7, bX11_middle_8, bX11_middle_9, i_aload, i_getf, i_iceq, i_icge, i_icle, i_iclt, i_ifeq, i_ifne, i_iinc, i_iload, i_ireturn, i_istore, i_jmp, i_push, i_putf, msk, lset1, lset2, clr, Value.category, Option.toList, List.cons_append, List.nil_append, List.length_cons, List.length_nil, hN2, st_0 hI.1, hw0, csk_3 q0, cvk_3 hO (bad0_sp hg hO x0' 1 2), gf_eq hO, mg_27, x27, z1, nI_0, mdK, amnP, oI, zV]
