/-! ===== lN to 2^62 under >> and >>> ===== -/
theorem pf_lI {a : Nat} (h : a < 2 ^ 63) : (lN a).toInt = (a : Int) := lg_ofNat_toInt h
theorem pf_shr {a d : Nat} {D : Int64} (hD : (D.toBitVec.smod 64).toNat = d) (h : a < 2 ^ 62) : lN a >>> D = lN (a / 2 ^ d) := by
  have hd : a / 2 ^ d ≤ a := Nat.div_le_self _ _
  apply Int64.toInt_inj.mp
  have e : (lN a >>> D).toInt = (lN a).toInt >>> d := by
    rw [← hD]
    exact BitVec.toInt_sshiftRight ..
  rw [e, Int.shiftRight_eq_div_pow, pf_lI (by omega), pf_lI (by omega)]
  rfl
/-! ===== one reading: its digits, coins, owners, worth; both sides ===== -/
def nR (δ : DE) : Nat := (rl δ (δ.1 6)).length
def rr (δ : DE) (i : Nat) : Nat := (rl δ (δ.1 6)).getD i 0
def dgR (δ : DE) (i b : Nat) : Nat := dg δ (rr δ i) b
def cnR (δ : DE) (i h : Nat) : Nat := cK δ (-1) (vr δ (rr δ i)) (δ.1 2) h
def owR (δ : DE) (i t : Nat) : Nat := ownK δ (-1) (vr δ (rr δ i)) (δ.1 2) t
def wtK (δ : DE) (i h : Nat) : Nat → Nat
  | 0 => cnR δ i h
  | t + 1 => wtK δ i h t + if owR δ i t = h + 1 then δ.2 2 t else 0
def wtR (δ : DE) (i h : Nat) : Nat := wtK δ i h (δ.1 1)
theorem rl_mem (δ : DE) : ∀ n m, m ∈ rl δ n → m < n ∧ br δ m = 0
  | 0, m, h => by cases h
  | n + 1, m, h => by
    unfold rl at h
    split at h
    · next q =>
      rcases List.mem_append.mp h with z | z
      · have := rl_mem δ n m z
        exact ⟨by omega, this.2⟩
      · have : m = n := by simpa using z
        subst this
        exact ⟨by omega, q⟩
    · have := rl_mem δ n m h
      exact ⟨by omega, this.2⟩
theorem rr_lt {δ : DE} {i : Nat} (h : i < nR δ) : rr δ i < δ.1 6 ∧ br δ (rr δ i) = 0 := by
  have : rr δ i ∈ rl δ (δ.1 6) := by
    unfold rr
    rw [List.getD_eq_getElem?_getD, List.getElem?_eq_getElem h]
    exact List.getElem_mem h
  exact rl_mem δ _ _ this
theorem nR_le {δ : DE} (hd : WF δ) : nR δ ≤ 20000 := Nat.le_trans (rl_le δ _) hd.1.2.2.2.2.2.2.2
theorem cnR_le {δ : DE} (hd : WF δ) (i h : Nat) : cnR δ i h ≤ 891 := by
  unfold cnR
  have h1 := cK_sK (δ := δ) (s := -1) (v := vr δ (rr δ i)) (δ.1 2) h
  have h2 := sK_le (s := -1) hd (vr_VD hd (rr δ i)) (δ.1 2) (Nat.le_refl _)
  have h3 := hd.1.2.2.1
  omega
theorem owR_le {δ : DE} (hd : WF δ) (i t : Nat) : owR δ i t ≤ δ.1 0 := ownK_le hd (vr_VD hd _) _ (Nat.le_refl _) _
theorem dgR_lt {δ : DE} (hd : WF δ) (i : Nat) {b : Nat} (hb : b < δ.1 3) : dgR δ i b < δ.2 10 b := dg_lt hd _ hb
theorem dgR_100 {δ : DE} (hd : WF δ) (i : Nat) {b : Nat} (hb : b < δ.1 3) : dgR δ i b < 100 := by
  have := dgR_lt hd i hb
  have := (hd.2.2.2.1 b hb).2.1
  omega
theorem wtK_le {δ : DE} (hd : WF δ) (i h : Nat) : ∀ t, t ≤ δ.1 1 → wtK δ i h t ≤ 891 + 99 * t
  | 0, _ => cnR_le hd i h
  | t + 1, ht => by
    have ih := wtK_le hd i h t (by omega)
    have := hd.2.2.2.2.2.2 t (by omega)
    unfold wtK
    split <;> omega
theorem wtR_le {δ : DE} (hd : WF δ) (i h : Nat) : wtR δ i h ≤ 1386 := by
  have h1 := wtK_le hd i h _ (Nat.le_refl _)
  have h2 := hd.1.2.1
  unfold wtR
  omega
theorem sh_coin {c o : Nat → Nat} (hc : ∀ b, b < 4 → c b < 2 ^ 10) (ho : ∀ b, b < 5 → o b < 2 ^ 3) {h : Nat} (hh : h < 4) : ((lN (shN c o)).toUInt64 >>> ((nI (10 * h)).toInt64.toUInt64 &&& Int64.toUInt64 63)).toInt64.toInt32 &&& 1023 = nI (c h) := by
  have l1 := pkN_lt (f := c) (wd := 10) (n := 4) hc
  have l2 := pkN_lt (f := o) (wd := 3) (n := 5) ho
  have l4 := pkN_dig (f := c) (wd := 10) (n := 4) hc h hh
  unfold shN
  generalize pkN c 10 4 = A at *
  generalize pkN o 3 5 = B at *
  have l3 : A + 2 ^ 40 * B < 2 ^ 64 := by omega
  rw [wb_shr l3 (by omega), lN_i, nI_and _ 10 (by decide) (by decide), mid_low (by omega), l4]
theorem sh_own {c o : Nat → Nat} (hc : ∀ b, b < 4 → c b < 2 ^ 10) (ho : ∀ b, b < 5 → o b < 2 ^ 3) {t : Nat} (ht : t < 5) : ((lN (shN c o)).toUInt64 >>> ((nI (40 + 3 * t)).toInt64.toUInt64 &&& Int64.toUInt64 63)).toInt64.toInt32 &&& 7 = nI (o t) := by
  have l1 := pkN_lt (f := c) (wd := 10) (n := 4) hc
  have l2 := pkN_lt (f := o) (wd := 3) (n := 5) ho
  have l4 := pkN_dig (f := o) (wd := 3) (n := 5) ho t ht
  unfold shN
  generalize pkN c 10 4 = A at *
  generalize pkN o 3 5 = B at *
  have l3 : A + 2 ^ 40 * B < 2 ^ 64 := by omega
  rw [wb_shr l3 (by omega), lN_i, nI_and _ 3 (by decide) (by decide), mid_high (by omega), l4]
theorem smod63 : ∀ k, k < 64 → (((nI k).toInt64 &&& 63).toBitVec.smod 64).toNat = k := by decide +kernel
theorem smod31 : ∀ n, n < 32 → ((nI n &&& 31).toBitVec.smod 32).toNat = n := by decide +kernel
theorem rc_coin {c : Nat → Nat} (hc : ∀ b, b < 4 → c b < 2 ^ 10) {h : Nat} (hh : h < 4) : (lN (pkN c 10 4) >>> ((nI (10 * h)).toInt64 &&& 63) &&& 1023).toInt32 = nI (c h) := by
  have l1 := pkN_lt (f := c) (wd := 10) (n := 4) hc
  have l4 := pkN_dig (f := c) (wd := 10) (n := 4) hc h hh
  generalize pkN c 10 4 = A at *
  rw [pf_shr (smod63 (10 * h) (by omega)) (by omega)]
  have e : (1023 : Int64) = lN (2 ^ 10 - 1) := rfl
  have l2 : A / 2 ^ (10 * h) ≤ A := Nat.div_le_self _ _
  rw [e, g_mask (s := 10) rfl (by decide) (by omega), lN_i, l4]
theorem rc_own {o : Nat → Nat} (ho : ∀ b, b < 5 → o b < 2 ^ 3) {t : Nat} (ht : t < 5) : nI (pkN o 3 5) >>> (nI (3 * t) &&& 31) &&& 7 = nI (o t) := by
  have l2 := pkN_lt (f := o) (wd := 3) (n := 5) ho
  have l4 := pkN_dig (f := o) (wd := 3) (n := 5) ho t ht
  generalize pkN o 3 5 = A at *
  rw [pk_shrN (by omega) _ (3 * t) (smod31 _ (by omega)), nI_and _ 3 (by decide) (by decide), l4]
/-- what the class's table says of its readings -/
theorem GT.rd {g : GE} {w : Mem} {tb E D aM aS aG n1 lev : Nat} {δ : DE} (h : GT g w tb E D δ (δ.1 6) aM aS aG n1 lev) : ∃ fM fS, TB w tb aM aS aG D (nR δ) (obK δ (δ.1 6)) ∧ LA w aM n1 fM ∧ LA w aS n1 fS ∧ nR δ ≤ n1 ∧ n1 ≤ 20000 ∧ ∀ i, i < nR δ → fM i = lN (mkN (δ.1 3) (dgR δ i)) ∧ fS i = lN (shN (cnR δ i) (owR δ i)) := by
  obtain ⟨fM, fS, hT, hM, hS, hA, hC, hl, hf, -⟩ := h
  exact ⟨fM, fS, hT, hM, hS, hl, hC.le.1, hf⟩
theorem GT.tb {g : GE} {w : Mem} {tb E D aM aS aG n1 lev : Nat} {δ : DE} (h : GT g w tb E D δ (δ.1 6) aM aS aG n1 lev) : TB w tb aM aS aG D (nR δ) (obK δ (δ.1 6)) := by
  obtain ⟨fM, fS, hT, -⟩ := h
  exact hT
theorem cnR_10 {δ : DE} (hd : WF δ) (i b : Nat) : cnR δ i b < 2 ^ 10 := by have := cnR_le hd i b; omega
theorem owR_3 {δ : DE} (hd : WF δ) (i b : Nat) : owR δ i b < 2 ^ 3 := by have := owR_le hd i b; have := hd.1.1; omega
section
variable {g : GE} {w : Mem} {tb E D aM aS aG n1 lev : Nat} {δ : DE}
theorem tdigit_sp (hd : WF δ) (hG : GT g w tb E D δ (δ.1 6) aM aS aG n1 lev) {i b : Nat} (hi : i < nR δ) (hb : b < δ.1 3) : fX7_digit g [.ref tb, .int (nI i), .int (nI b)] w = some (.inl (some (.int (nI (dgR δ i b)))), w) := by
  obtain ⟨fM, fS, hT, hM, hS, hl, hn1, hf⟩ := hG.rd
  have e := digitIn_sp (g := g) (w := w) (n := δ.1 3) (b := b) (dd := dgR δ i) hd.1.2.2.2.1 (fun b hb => by have := dgR_100 hd i hb; omega) hb
  have hfi := (hf i hi).1
  generalize mkN (δ.1 3) (dgR δ i) = X at e hfi
  simp [fX7_digit, kX7_digit, ent, entp, bX7_digit_0, i_aload, i_getf, i_iload, i_ireturn, i_laload, msk, lset1, lset2, clr, Value.category, Option.toList, List.cons_append, List.nil_append, List.length_cons, List.length_nil, gf_eq hT, hM.rd (j := i) (by omega) (by omega), hfi, csk_2 e]
theorem coinOf_sp (hd : WF δ) (hG : GT g w tb E D δ (δ.1 6) aM aS aG n1 lev) {i h : Nat} (hi : i < nR δ) (hh : h < 4) : fX7_coinOf g [.ref tb, .int (nI i), .int (nI h)] w = some (.inl (some (.int (nI (cnR δ i h)))), w) := by
  obtain ⟨fM, fS, hT, hM, hS, hl, hn1, hf⟩ := hG.rd
  have e := sh_coin (c := cnR δ i) (o := owR δ i) (fun b _ => cnR_10 hd i b) (fun b _ => owR_3 hd i b) hh
  have hfi := (hf i hi).2
  have raw : fX7_coinOf g [.ref tb, .int (nI i), .int (nI h)] w = some (.inl (some (.int (((fS i).toUInt64 >>> ((10 * nI h).toInt64.toUInt64 &&& Int64.toUInt64 63)).toInt64.toInt32 &&& 1023))), w) := by
    simp [fX7_coinOf, kX7_coinOf, ent, entp, bX7_coinOf_0, i_aload, i_getf, i_iand, i_iload, i_imul, i_ireturn, i_l2i, i_laload, i_lushr, i_push, msk, lset1, lset2, clr, Value.category, Option.toList, List.cons_append, List.nil_append, List.length_cons, List.length_nil, gf_eq hT, hS.rd (j := i) (by omega) (by omega)]
  rw [raw, hfi, e10, e]
theorem ownerOf_sp (hd : WF δ) (hG : GT g w tb E D δ (δ.1 6) aM aS aG n1 lev) {i t : Nat} (hi : i < nR δ) (ht : t < 5) : fX7_ownerOf g [.ref tb, .int (nI i), .int (nI t)] w = some (.inl (some (.int (nI (owR δ i t) - 1))), w) := by
  obtain ⟨fM, fS, hT, hM, hS, hl, hn1, hf⟩ := hG.rd
  have e := sh_own (c := cnR δ i) (o := owR δ i) (fun b _ => cnR_10 hd i b) (fun b _ => owR_3 hd i b) ht
  have hfi := (hf i hi).2
  have raw : fX7_ownerOf g [.ref tb, .int (nI i), .int (nI t)] w = some (.inl (some (.int ((((fS i).toUInt64 >>> ((40 + 3 * nI t).toInt64.toUInt64 &&& Int64.toUInt64 63)).toInt64.toInt32 &&& 7) - 1))), w) := by
    simp [fX7_ownerOf, kX7_ownerOf, ent, entp, bX7_ownerOf_0, i_aload, i_getf, i_iadd, i_iand, i_iload, i_imul, i_ireturn, i_isub, i_l2i, i_laload, i_lushr, i_push, msk, lset1, lset2, clr, Value.category, Option.toList, List.cons_append, List.nil_append, List.length_cons, List.length_nil, gf_eq hT, hS.rd (j := i) (by omega) (by omega)]
  rw [raw, hfi, e3, e40, e]
theorem worthOf_sp (hg : FU g) (hd : WF δ) (hD : DEED g w D δ) (hG : GT g w tb E D δ (δ.1 6) aM aS aG n1 lev) {i h : Nat} (hi : i < nR δ) (hh : h < 4) : fX7_worthOf g [.ref tb, .int (nI i), .int (nI h)] w = some (.inl (some (.int (nI (wtR δ i h)))), w) := by
  have hT := hG.tb
  obtain ⟨b1, b2, b3, b4, b5, b6, b7, b8⟩ := id hd.1
  obtain ⟨d0, -, -, -, -, d5, -⟩ := id hD
  have e := coinOf_sp hd hG hi hh
  have L := lpF (fun f (s : Lv × Mem) => jX7_worthOf g f 1 [] s.1 s.2) (fun k => ([some (.ref tb), some (.int (nI i)), some (.int (nI h)), some (.int (nI (wtK δ i h k))), some (.int (nI k))], w)) (some (.inl (some (.int (nI (wtR δ i h)))), w)) 2 1 (δ.1 1)
    (fun k hk f => by
      refine ⟨f, Nat.le_refl _, ?_⟩
      have o := ownerOf_sp hd hG hi (t := k) (by omega)
      have lo := owR_le hd i k
      have m : (nI (owR δ i k) - 1 = nI h) ↔ owR δ i k = h + 1 := nI_m1e (by omega) (by omega)
      by_cases z : owR δ i k = h + 1
      · simp [jX7_worthOf, bX7_worthOf_0, bX7_worthOf_1, bX7_worthOf_2, i_aload, i_getf, i_iadd, i_iaload, i_icge, i_icne, i_iinc, i_iload, i_ireturn, i_istore, i_jmp, i_push, msk, lset1, lset2, clr, Value.category, Option.toList, List.cons_append, List.nil_append, List.length_cons, List.length_nil, gf_eq hT, gf_eq d0, nI_ge hk (by omega), cvk_2 hT o, nI_pred, d5.rd (j := k) (by omega) (by decide), nI_add, nI_1, wtK, z]
      · simp [jX7_worthOf, bX7_worthOf_0, bX7_worthOf_1, bX7_worthOf_2, i_aload, i_getf, i_iadd, i_iaload, i_icge, i_icne, i_iinc, i_iload, i_ireturn, i_istore, i_jmp, i_push, msk, lset1, lset2, clr, Value.category, Option.toList, List.cons_append, List.nil_append, List.length_cons, List.length_nil, gf_eq hT, gf_eq d0, nI_ge hk (by omega), cvk_2 hT o, mt m.mp z, nI_1, wtK, z])
    (fun f => by
      simp [jX7_worthOf, bX7_worthOf_0, bX7_worthOf_1, bX7_worthOf_2, i_aload, i_getf, i_iadd, i_iaload, i_icge, i_icne, i_iinc, i_iload, i_ireturn, i_istore, i_jmp, i_push, msk, lset1, lset2, clr, Value.category, Option.toList, List.cons_append, List.nil_append, List.length_cons, List.length_nil, gf_eq hT, gf_eq d0, wtR])
  obtain ⟨N, hN⟩ : ∃ N, g.1 = N + 1 := ⟨g.1 - 1, by omega⟩
  rw [← L N (by omega)]
  simp [fX7_worthOf, kX7_worthOf, ent, entp, jX7_worthOf, bX7_worthOf_0, bX7_worthOf_1, bX7_worthOf_2, i_aload, i_getf, i_iadd, i_iaload, i_icge, i_icne, i_iinc, i_iload, i_ireturn, i_istore, i_jmp, i_push, msk, lset1, lset2, clr, Value.category, Option.toList, List.cons_append, List.nil_append, List.length_cons, List.length_nil, hN, nI_0, cvk_2 hT e, wtK]
end
section
variable {g : GE} {w : Mem} {M : Nat} {x : Nat → Int32} {δ : DE}
theorem rdigit_sp (hg : FU g) (hd : WF δ) (hO : MO w M x) (hD : RD w M δ) {row b : Nat} (hr : row < 2 ^ 31) (hb : b < δ.1 3) : fX11_digit g [.ref M, .int (nI row), .int (nI b)] w = some (.inl (some (.int (nI (dg δ row b)))), w) := by
  obtain ⟨b1, b2, b3, b4, b5, b6, b7, b8⟩ := id hd.1
  obtain ⟨h0, -, -, -, -, -, ⟨c6, h6, k6⟩, -⟩ := id hD
  have hl : ∀ j, lf δ row j ≤ row := fun j => by
    induction j with
    | zero => exact Nat.le_refl _
    | succ j ih => exact Nat.le_trans (Nat.div_le_self _ _) ih
  have L := lpF (fun f (s : Lv × Mem) => jX11_digit g f 1 [] s.1 s.2) (fun k => ([some (.ref M), none, some (.int (nI b)), some (.int (nI (lf δ row k))), some (.int (nI (δ.1 3 - 1 - k)))], w)) (some (.inl (some (.int (nI (dg δ row b)))), w)) 1 1 (δ.1 3 - 1 - b)
    (fun k hk f => by
      refine ⟨f, Nat.le_refl _, ?_⟩
      have hc : δ.1 3 - 1 - k < δ.1 3 := by omega
      have hs := hd.2.2.2.1 _ hc
      have hlk := hl k
      have c1 : ¬ nI (δ.1 3 - 1 - k) ≤ nI b := nI_ge (by omega) (by omega)
      have c2 : ¬ (nI (δ.2 10 (δ.1 3 - 1 - k)) = 0) := nI_ne0 (by omega) (by omega)
      have c3 : nI (lf δ row k) / nI (δ.2 10 (δ.1 3 - 1 - k)) = nI (lf δ row (k + 1)) := by rw [pk_div (by omega) (by omega) (by omega)]; rfl
      have c4 : nI (δ.1 3 - 1 - k) + -1 = nI (δ.1 3 - 1 - (k + 1)) := by
        obtain ⟨z, hz⟩ : ∃ z, δ.1 3 - 1 - k = z + 1 := ⟨δ.1 3 - 1 - k - 1, by omega⟩
        have hz2 : δ.1 3 - 1 - (k + 1) = z := by omega
        rw [hz, hz2, pk_m1]
      simp [jX11_digit, bX11_digit_0, bX11_digit_1, i_aaload, i_aload, i_getf, i_iaload, i_icle, i_idiv, i_iinc, i_iload, i_irem, i_ireturn, i_istore, i_isub, i_jmp, i_push, msk, lset1, lset2, clr, Value.category, Option.toList, List.cons_append, List.nil_append, List.length_cons, List.length_nil, c1, gf_eq hO, mg_24, h6.1.rd (j := δ.1 3 - 1 - k) (by omega) (by decide), va_rf, (h6.2 (δ.1 3 - 1 - k) (by omega)).rc 2 2 rfl (by decide) (by decide), (k6 _ hc).2.2.1, c2, c3, c4])
    (fun f => by
      have e1 : δ.1 3 - 1 - (δ.1 3 - 1 - b) = b := by omega
      have hs := hd.2.2.2.1 _ hb
      have hlk := hl (δ.1 3 - 1 - b)
      have c2 : ¬ (nI (δ.2 10 b) = 0) := nI_ne0 (by omega) (by omega)
      have c3 : nI (lf δ row (δ.1 3 - 1 - b)) - nI (lf δ row (δ.1 3 - 1 - b)) / nI (δ.2 10 b) * nI (δ.2 10 b) = nI (dg δ row b) := by rw [pk_rem (by omega) (by omega) (by omega)]; rfl
      simp [jX11_digit, bX11_digit_0, bX11_digit_1, i_aaload, i_aload, i_getf, i_iaload, i_icle, i_idiv, i_iinc, i_iload, i_irem, i_ireturn, i_istore, i_isub, i_jmp, i_push, msk, lset1, lset2, clr, Value.category, Option.toList, List.cons_append, List.nil_append, List.length_cons, List.length_nil, e1, gf_eq hO, mg_24, h6.1.rd (j := b) (by omega) (by decide), va_rf, (h6.2 b (by omega)).rc 2 2 rfl (by decide) (by decide), (k6 _ hb).2.2.1, c2, c3])
  obtain ⟨N, hN⟩ : ∃ N, g.1 = N + 1 := ⟨g.1 - 1, by omega⟩
  rw [← L N (by omega)]
  have em : nI (δ.1 3) - 1 = nI (δ.1 3 - 1) := by
    obtain ⟨z, hz⟩ : ∃ z, δ.1 3 = z + 1 := ⟨δ.1 3 - 1, by omega⟩
    rw [hz, nI_pred]; rfl
  simp [fX11_digit, kX11_digit, ent, entp, jX11_digit, bX11_digit_0, bX11_digit_1, i_aaload, i_aload, i_getf, i_iaload, i_icle, i_idiv, i_iinc, i_iload, i_irem, i_ireturn, i_istore, i_isub, i_jmp, i_push, msk, lset1, lset2, clr, Value.category, Option.toList, List.cons_append, List.nil_append, List.length_cons, List.length_nil, hN, gf_eq hO, mg_11, h0.rc 3 3 rfl (by decide) (by decide), em, lf]
theorem RT.rd (hT : RT w M δ (δ.1 6)) : (∃ c, IA w (M + 142) 20000 c ∧ ∀ i, i < nR δ → c i = nI (rr δ i)) ∧ (∃ c, IA w (M + 144) 20000 c ∧ ∀ i, i < nR δ → c i = nI (pkN (owR δ i) 3 5)) ∧ (∃ c, LA w (M + 145) 20000 c ∧ ∀ i, i < nR δ → c i = lN (pkN (cnR δ i) 10 4)) := ⟨hT.1, hT.2.2.1, hT.2.2.2⟩
theorem RT.row (hT : RT w M δ (δ.1 6)) (hd : WF δ) {i : Nat} (hi : i < nR δ) : gi w 0 (M + 142) (nI i) = some (nI (rr δ i)) := by
  obtain ⟨⟨c1, h1, k1⟩, -⟩ := hT.rd
  have := nR_le hd
  rw [h1.rd (j := i) (by omega) (by decide), k1 i hi]
theorem rshows_sp (hg : FU g) (hd : WF δ) (hO : MO w M x) (hD : RD w M δ) (hT : RT w M δ (δ.1 6)) {i b : Nat} (hi : i < nR δ) (hb : b < δ.1 3) : fX11_shows g [.ref M, .int (nI i), .int (nI b)] w = some (.inl (some (.int (nI (δ.2 (20 + b) (dgR δ i b))))), w) := by
  obtain ⟨b1, b2, b3, b4, b5, b6, b7, b8⟩ := id hd.1
  have hr := rr_lt hi
  obtain ⟨h0, -, -, -, -, -, -, ⟨c7, h7, k7⟩⟩ := id hD
  have e : fX11_digit g [.ref M, .int (nI (rr δ i)), .int (nI b)] w = some (.inl (some (.int (nI (dgR δ i b)))), w) := rdigit_sp hg hd hO hD (row := rr δ i) (b := b) (by omega) hb
  have l1 := dgR_lt hd i hb
  have l2 := dgR_100 hd i hb
  simp [fX11_shows, kX11_shows, ent, entp, bX11_shows_0, i_aaload, i_aload, i_getf, i_iaload, i_iload, i_ireturn, msk, lset1, lset2, clr, Value.category, Option.toList, List.cons_append, List.nil_append, List.length_cons, List.length_nil, gf_eq hO, mg_26, mg_28, h7.1.rd (j := b) (by omega) (by decide), va_rf, hT.row hd hi, cvk_2 hO e, (h7.2 b (by omega)).rd (j := dgR δ i b) l2 (by decide), k7 b hb _ l1]
theorem rcoinBy_sp (hd : WF δ) (hO : MO w M x) (hT : RT w M δ (δ.1 6)) {i h : Nat} (hi : i < nR δ) (hh : h < 4) : fX11_coinBy g [.ref M, .int (nI i), .int (nI h)] w = some (.inl (some (.int (nI (cnR δ i h)))), w) := by
  obtain ⟨-, -, ⟨c4, h4, k4⟩⟩ := hT.rd
  have := nR_le hd
  have e := rc_coin (c := cnR δ i) (fun b _ => cnR_10 hd i b) hh
  have hfi := k4 i hi
  have raw : fX11_coinBy g [.ref M, .int (nI i), .int (nI h)] w = some (.inl (some (.int (c4 i >>> ((10 * nI h).toInt64 &&& 63) &&& 1023).toInt32)), w) := by
    simp [fX11_coinBy, kX11_coinBy, ent, entp, bX11_coinBy_0, i_aload, i_getf, i_iload, i_imul, i_ireturn, i_l2i, i_laload, i_land, i_lshr, i_push, msk, lset1, lset2, clr, Value.category, Option.toList, List.cons_append, List.nil_append, List.length_cons, List.length_nil, gf_eq hO, mg_31, h4.rd (j := i) (by omega) (by decide)]
  rw [raw, hfi, e10, e]
theorem rgoesBy_sp (hd : WF δ) (hO : MO w M x) (hT : RT w M δ (δ.1 6)) {i t : Nat} (hi : i < nR δ) (ht : t < 5) : fX11_goesBy g [.ref M, .int (nI i), .int (nI t)] w = some (.inl (some (.int (nI (owR δ i t) - 1))), w) := by
  obtain ⟨-, ⟨c3, h3, k3⟩, -⟩ := hT.rd
  have := nR_le hd
  have e := rc_own (o := owR δ i) (fun b _ => owR_3 hd i b) ht
  have hfi := k3 i hi
  have raw : fX11_goesBy g [.ref M, .int (nI i), .int (nI t)] w = some (.inl (some (.int ((c3 i >>> (3 * nI t &&& 31) &&& 7) - 1))), w) := by
    simp [fX11_goesBy, kX11_goesBy, ent, entp, bX11_goesBy_0, i_aload, i_getf, i_iaload, i_iand, i_iload, i_imul, i_ireturn, i_ishr, i_isub, i_push, msk, lset1, lset2, clr, Value.category, Option.toList, List.cons_append, List.nil_append, List.length_cons, List.length_nil, gf_eq hO, mg_30, h3.rd (j := i) (by omega) (by decide)]
  rw [raw, hfi, e3, e]
theorem rworthBy_sp (hg : FU g) (hd : WF δ) (hO : MO w M x) (hD : RD w M δ) (hT : RT w M δ (δ.1 6)) {i h : Nat} (hi : i < nR δ) (hh : h < 4) : fX11_worthBy g [.ref M, .int (nI i), .int (nI h)] w = some (.inl (some (.int (nI (wtR δ i h)))), w) := by
  obtain ⟨b1, b2, b3, b4, b5, b6, b7, b8⟩ := id hd.1
  obtain ⟨h0, -, ⟨c2, h2, k2⟩, -⟩ := id hD
  have e := rcoinBy_sp (g := g) hd hO hT hi hh
  have L := lpF (fun f (s : Lv × Mem) => jX11_worthBy g f 1 [] s.1 s.2) (fun k => ([some (.ref M), some (.int (nI i)), some (.int (nI h)), some (.int (nI (wtK δ i h k))), some (.int (nI k))], w)) (some (.inl (some (.int (nI (wtR δ i h)))), w)) 2 1 (δ.1 1)
    (fun k hk f => by
      refine ⟨f, Nat.le_refl _, ?_⟩
      have o := rgoesBy_sp (g := g) hd hO hT hi (t := k) (by omega)
      have lo := owR_le hd i k
      have m : (nI (owR δ i k) - 1 = nI h) ↔ owR δ i k = h + 1 := nI_m1e (by omega) (by omega)
      have c1 := h0.rc 1 1 rfl (by decide) (by decide)
      by_cases z : owR δ i k = h + 1
      · simp [jX11_worthBy, bX11_worthBy_0, bX11_worthBy_1, bX11_worthBy_2, i_aload, i_getf, i_iadd, i_iaload, i_icge, i_icne, i_iinc, i_iload, i_ireturn, i_istore, i_jmp, i_push, msk, lset1, lset2, clr, Value.category, Option.toList, List.cons_append, List.nil_append, List.length_cons, List.length_nil, gf_eq hO, mg_11, mg_15, c1, nI_ge hk (by omega), cvk_2 hO o, nI_pred, h2.rd (j := k) (by omega) (by decide), k2 k hk, nI_add, nI_1, wtK, z]
      · simp [jX11_worthBy, bX11_worthBy_0, bX11_worthBy_1, bX11_worthBy_2, i_aload, i_getf, i_iadd, i_iaload, i_icge, i_icne, i_iinc, i_iload, i_ireturn, i_istore, i_jmp, i_push, msk, lset1, lset2, clr, Value.category, Option.toList, List.cons_append, List.nil_append, List.length_cons, List.length_nil, gf_eq hO, mg_11, c1, nI_ge hk (by omega), cvk_2 hO o, mt m.mp z, nI_1, wtK, z])
    (fun f => by
      have c1 := h0.rc 1 1 rfl (by decide) (by decide)
      simp [jX11_worthBy, bX11_worthBy_0, bX11_worthBy_1, bX11_worthBy_2, i_aload, i_getf, i_iadd, i_iaload, i_icge, i_icne, i_iinc, i_iload, i_ireturn, i_istore, i_jmp, i_push, msk, lset1, lset2, clr, Value.category, Option.toList, List.cons_append, List.nil_append, List.length_cons, List.length_nil, gf_eq hO, mg_11, c1, wtR])
  obtain ⟨N, hN⟩ : ∃ N, g.1 = N + 1 := ⟨g.1 - 1, by omega⟩
  rw [← L N (by omega)]
  simp [fX11_worthBy, kX11_worthBy, ent, entp, jX11_worthBy, bX11_worthBy_0, bX11_worthBy_1, bX11_worthBy_2, i_aload, i_getf, i_iadd, i_iaload, i_icge, i_icne, i_iinc, i_iload, i_ireturn, i_istore, i_jmp, i_push, msk, lset1, lset2, clr, Value.category, Option.toList, List.cons_append, List.nil_append, List.length_cons, List.length_nil, hN, nI_0, cvk_2 hO e, wtK]
end
