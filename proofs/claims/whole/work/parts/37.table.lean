/-! ===== the class's Table: keepRow, note, gather ===== -/
def FA (S : Nat → Prop) (w w' : Mem) : Prop := (∀ a, a < w.2.1 → ¬ S a → w'.1 a = w.1 a) ∧ w.2.1 ≤ w'.2.1 ∧ w.2.2 ≤ w'.2.2
theorem Fr.fa {S : Nat → Prop} {w w' : Mem} (h : Fr S w w') : FA S w w' := ⟨fun a _ q => h.1 a q, by rw [h.2]; exact Nat.le_refl _, by rw [h.2]; exact Nat.le_refl _⟩
theorem FA.tr {S T : Nat → Prop} {w w1 w2 : Mem} (h : FA S w w1) (k : FA T w1 w2) (q : ∀ a, a < w.2.1 → T a → S a) : FA S w w2 :=
  ⟨fun a ha n => (k.1 a (Nat.lt_of_lt_of_le ha h.2.1) fun t => n (q a ha t)).trans (h.1 a ha n), Nat.le_trans h.2.1 k.2.1, Nat.le_trans h.2.2 k.2.2⟩
theorem FA.tr' {S T : Nat → Prop} {w w1 : Mem} (h : FA S w w1) (q : ∀ a, S a → T a) : FA T w w1 := ⟨fun a ha n => h.1 a ha fun z => n (q a z), h.2⟩
theorem FA.at {S : Nat → Prop} {w w1 : Mem} (h : FA S w w1) {a : Nat} {x : Option Cl} (ha : w.1 a = x) (l : a < w.2.1) (n : ¬ S a) : w1.1 a = x := (h.1 a l n).trans ha
theorem FA.fr {S : Nat → Prop} {w w1 : Mem} (h : FA S w w1) : Fr (fun a => S a ∨ w.2.1 ≤ a) (w.1, w1.2) w1 := ⟨fun a q => h.1 a (by omega) fun z => q (Or.inl z), rfl⟩
theorem AR.m2 {t : Nat} {w w' : Mem} {a n : Nat} {c : Nat → Int32} (h : AR t w a n c) (e : w'.1 = w.1) : AR t w' a n c := by
  obtain ⟨f, h1, h2⟩ := h
  exact ⟨f, by rw [e]; exact h1, h2⟩
theorem AR.fa {t : Nat} {S : Nat → Prop} {w w1 : Mem} {a n : Nat} {c : Nat → Int32} (h : AR t w a n c) (k : FA S w w1) (l : a < w.2.1) (q : ¬ S a) : AR t w1 a n c := by
  obtain ⟨f, h1, h2⟩ := h
  exact ⟨f, k.at h1 l q, h2⟩
theorem LA.fa {S : Nat → Prop} {w w1 : Mem} {a n : Nat} {c : Nat → Int64} (h : LA w a n c) (k : FA S w w1) (l : a < w.2.1) (q : ¬ S a) : LA w1 a n c := by
  obtain ⟨f, h1, h2⟩ := h
  exact ⟨f, k.at h1 l q, h2⟩
theorem DEED.fa {g : GE} {S : Nat → Prop} {w w1 : Mem} {D : Nat} {δ : DE} (h : DEED g w D δ) (k : FA S w w1) (l : D + 35 ≤ w.2.1) (q : ∀ i, i < 35 → ¬ S (D + i)) : DEED g w1 D δ :=
  DEED.fr (w := (w.1, w1.2)) (show DEED g (w.1, w1.2) D δ from h) k.fr fun i hi z => by
    rcases z with z | z
    · exact q i hi z
    · omega
theorem ROW.fa {S : Nat → Prop} {w w1 : Mem} {r : Nat} {v d c o : Nat → Int32} {su tw : Int32} (h : ROW w r v d c o su tw) (k : FA S w w1) (l : r + 5 ≤ w.2.1) (q : ∀ i, i < 5 → ¬ S (r + i)) : ROW w1 r v d c o su tw :=
  ROW.fr (w := (w.1, w1.2)) (show ROW (w.1, w1.2) r v d c o su tw from h) k.fr fun i hi z => by
    rcases z with z | z
    · exact q i hi z
    · omega
/-! counting bits -/
def pc8 (k : Nat) : Nat := k % 2 + k / 2 % 2 + k / 4 % 2 + k / 8 % 2 + k / 16 % 2 + k / 32 % 2 + k / 64 % 2 + k / 128 % 2
theorem bitCount_sp {g : GE} {w : Mem} {k : Nat} (hk : k < 256) : fJ6_bitCount_0f7a4 g [.int (nI k)] w = some (.inl (some (.int (nI (pc8 k)))), w) := by
  have e : ∀ k, k < 256 → (fJ6_bitCount_0f7a4 (0, fun _ => 0, fun _ => 0, fun _ => 0, none, 0, 0, fun _ => 0) [.int (nI k)] (fun _ => none, 0, 0)).map (fun x => match x.1 with | .inl (some (.int z)) => z == nI (pc8 k) | _ => false) = some true := by decide +kernel
  have e1 := e k hk
  have e2 : ∃ z : Int32, fJ6_bitCount_0f7a4 g [.int (nI k)] w = some (.inl (some (.int z)), w) ∧ fJ6_bitCount_0f7a4 (0, fun _ => 0, fun _ => 0, fun _ => 0, none, 0, 0, fun _ => 0) [.int (nI k)] (fun _ => none, 0, 0) = some (.inl (some (.int z)), (fun _ => none, 0, 0)) := ⟨_, rfl, rfl⟩
  obtain ⟨z, h1, h2⟩ := e2
  rw [h2] at e1
  simp at e1
  rw [h1, e1]
/-! the lawful rows below n; the laws that alone bar one; rows by their sums -/
abbrev br (δ : DE) (m : Nat) : Nat := brK δ (-1) (δ.1 4) (vr δ m)
def rl (δ : DE) : Nat → List Nat
  | 0 => []
  | n + 1 => if br δ n = 0 then rl δ n ++ [n] else rl δ n
def obK (δ : DE) : Nat → Nat
  | 0 => 0
  | n + 1 => if pc8 (br δ n) = 1 then obK δ n ||| br δ n else obK δ n
def rsK (δ : DE) (x : Nat) : Nat → Nat
  | 0 => 0
  | n + 1 => rsK δ x n + if br δ n < 2 ∧ sK δ (-1) (vr δ n) (δ.1 2) = x then 1 else 0
theorem rl_le (δ : DE) : ∀ n, (rl δ n).length ≤ n
  | 0 => Nat.le_refl _
  | n + 1 => by
    have := rl_le δ n
    unfold rl
    split
    · simp; omega
    · omega
theorem rsK_le (δ : DE) (x : Nat) : ∀ n, rsK δ x n ≤ n
  | 0 => Nat.le_refl _
  | n + 1 => by
    have := rsK_le δ x n
    unfold rsK
    split <;> omega
theorem br_le (δ : DE) (s : Int32) (e : Nat) (v : Nat → Nat) : brK δ s e v ≤ 7 := by
  unfold brK
  rcases lsK_04 δ (cK δ s v (δ.1 2)) (δ.1 0) with h | h <;> rw [h] <;> split <;> split <;> omega
theorem obK_le (δ : DE) : ∀ n, obK δ n < 8
  | 0 => by show 0 < 8; decide
  | n + 1 => by
    have h1 := obK_le δ n
    have h2 : br δ n ≤ 7 := br_le δ (-1) (δ.1 4) (vr δ n)
    unfold obK
    split
    · exact Nat.or_lt_two_pow (n := 3) h1 (by omega)
    · exact h1
theorem or8 : ∀ a, a < 8 → ∀ b, b < 8 → nI a ||| nI b = nI (a ||| b) := by decide +kernel
/-- how far the marks' room has grown -/
def CAP (n1 lev : Nat) : Prop := (lev ≤ 9 ∧ n1 = 32 * 2 ^ lev) ∨ (lev = 10 ∧ n1 = 20000)
theorem CAP.le {n1 lev : Nat} (h : CAP n1 lev) : n1 ≤ 20000 ∧ 32 ≤ n1 ∧ lev ≤ 10 := by
  rcases h with ⟨h1, h2⟩ | ⟨h1, h2⟩
  · have : lev = 0 ∨ lev = 1 ∨ lev = 2 ∨ lev = 3 ∨ lev = 4 ∨ lev = 5 ∨ lev = 6 ∨ lev = 7 ∨ lev = 8 ∨ lev = 9 := by omega
    rcases this with q | q | q | q | q | q | q | q | q | q <;> subst q <;> subst h2 <;> decide
  · omega
theorem CAP.nx {n1 lev : Nat} (h : CAP n1 lev) (hn : n1 < 20000) : CAP (if 20000 < n1 * 2 then 20000 else n1 * 2) (lev + 1) := by
  rcases h with ⟨h1, h2⟩ | ⟨h1, h2⟩
  · have : lev = 0 ∨ lev = 1 ∨ lev = 2 ∨ lev = 3 ∨ lev = 4 ∨ lev = 5 ∨ lev = 6 ∨ lev = 7 ∨ lev = 8 ∨ lev = 9 := by omega
    rcases this with q | q | q | q | q | q | q | q | q | q <;> subst q <;> subst h2 <;> simp [CAP]
  · omega
abbrev TB (w : Mem) (tb aM aS aG D sz ob : Nat) : Prop := OB w tb 7 [.ref aM, .ref aS, .int (nI sz), .ref (tb + 3), .ref (tb + 4), .ref D, .ref (tb + 5), .int (nI ob), .ref (tb + 10), .ref (tb + 11), .ref (tb + 12), .ref aG]
/-- where the arrays that grow lie: at their first place, or from E on -/
def TA (w : Mem) (tb E aM aS aG : Nat) : Prop := (aM = tb + 1 ∨ E ≤ aM) ∧ (aS = tb + 2 ∨ E ≤ aS) ∧ (aG = tb + 13 ∨ E ≤ aG) ∧ aM ≠ aS ∧ aM ≠ aG ∧ aS ≠ aG ∧ aM < w.2.1 ∧ aS < w.2.1 ∧ aG < w.2.1 ∧ tb + 14 ≤ E ∧ E ≤ w.2.1
theorem keep1_sp {g : GE} (hg : FU g) {w : Mem} {tb aM aS aG D sz ob n1 N : Nat} {δ : DE} {L1 : Option Value} {fM fS : Nat → Int64} {v d c o : Nat → Int32} {su tw : Int32} {mk sh : Int64} (hT : TB w tb aM aS aG D sz ob) (hM : LA w aM n1 fM) (hS : LA w aS n1 fS) (hD : DEED g w D δ) (hR : ROW w (tb + 5) v d c o su tw)
    (a1 : aM ≠ aS) (a2 : aM ≠ tb) (a3 : aS ≠ tb) (a4 : ∀ i, i < 5 → aM ≠ tb + 5 + i) (hsz : sz < n1) (hn1 : n1 ≤ 20000) (hmk : fX4_marks g [.ref (tb + 5), .int (nI (δ.1 3))] w = some (.inl (some (.long mk)), w)) (hsh : ∀ w', ROW w' (tb + 5) v d c o su tw → fX4_shares g [.ref (tb + 5)] w' = some (.inl (some (.long sh)), w')) :
    ∃ w', jX7_keepRow g (N + 2) 1 [] [some (.ref tb), L1] w = some (.inl none, w') ∧ TB w' tb aM aS aG D (sz + 1) ob ∧ LA w' aM n1 (va_up fM sz mk) ∧ LA w' aS n1 (va_up fS sz sh) ∧ Fr (fun a => a = tb ∨ a = aM ∨ a = aS) w w' := by
  obtain ⟨w1, hw1⟩ : ∃ z, wl w aM sz mk = z := ⟨_, rfl⟩
  obtain ⟨w2, hw2⟩ : ∃ z, wl w1 aS sz sh = z := ⟨_, rfl⟩
  have F1 : Fr (fun a => a = aM) w w1 := hw1 ▸ Fr.wl w sz mk rfl
  have F2 : Fr (fun a => a = aS) w1 w2 := hw2 ▸ Fr.wl w1 sz sh rfl
  have hT1 : TB w1 tb aM aS aG D sz ob := F1.at hT (fun z => a2 z.symm)
  have hT2 : TB w2 tb aM aS aG D sz ob := F2.at hT1 (fun z => a3 z.symm)
  have hM1 : LA w1 aM n1 (va_up fM sz mk) := hw1 ▸ hM.up sz mk
  have hS1 : LA w1 aS n1 fS := hS.fr F1 (fun z => a1 z.symm)
  have hR1 : ROW w1 (tb + 5) v d c o su tw := hR.fr F1 (fun i hi z => a4 i hi z.symm)
  have hM2 : LA w2 aM n1 (va_up fM sz mk) := hM1.fr F2 a1
  have hS2 : LA w2 aS n1 (va_up fS sz sh) := hw2 ▸ hS1.up sz sh
  have hsh1 := hsh w1 hR1
  obtain ⟨f9, hM9, -⟩ := id hM
  refine ⟨mset w2 tb (.inr (7, [.ref aM, .ref aS, .int (nI (sz + 1)), .ref (tb + 3), .ref (tb + 4), .ref D, .ref (tb + 5), .int (nI ob), .ref (tb + 10), .ref (tb + 11), .ref (tb + 12), .ref aG])), ?_, ms_at _ _ _, hM2.ms a2, hS2.ms a3, ((F1.mn fun a h => Or.inr (Or.inl h)).tr (F2.mn fun a h => Or.inr (Or.inr h))).tr (Fr.ms _ _ (Or.inl rfl))⟩
  have el : ¬ Int32.ofNat n1 ≤ nI sz := nI_ge hsz (by omega)
  simp [jX7_keepRow, bX7_keepRow_0, bX7_keepRow_1, bX7_keepRow_2, i_alen, i_aload, i_dup, i_getf, i_iadd, i_icge, i_iclt, i_iload, i_imul, i_istore, i_jmp, i_lastore, i_min, i_push, i_putf, i_return, msk, lset1, lset2, clr, Value.category, Option.toList, List.cons_append, List.nil_append, List.length_cons, List.length_nil, gf_eq hT, hM9, el, gf_eq hD.1, cvk_1 hR.1 hmk, hM.wr hsz (by omega), hw1, gf_eq hT1, cvk_0 hR1.1 hsh1, hS1.wr hsz (by omega), hw2, gf_eq hT2, nI_1, sf_i hT2]
theorem copyOf_sp {g : GE} {w : Mem} {a n m : Nat} {f : Nat → Int64} (h : LA w a n f) (hn : n < m) (hm : m ≤ 20000) (ha : a ≠ w.2.1) : ∃ w', fJ7_copyOf_c38d5 g [.ref a, .int (nI m)] w = some (.inl (some (.ref w.2.1)), w') ∧ LA w' w.2.1 m (fun i => if i < n then f i else 0) ∧ (∀ q, q ≠ w.2.1 → w'.1 q = w.1 q) ∧ w'.2 = (w.2.1 + 1, w.2.2 + m) := by
  obtain ⟨f0, h1, h2⟩ := h
  obtain ⟨w1, hw1⟩ : ∃ z, mnew w (.inl (1, m, zc 1)) m = z := ⟨_, rfl⟩
  have e1 : (nI m).toNatClampNeg = m := nI_clamp (by omega)
  have e2 : ¬ (nI m < 0) := nI_pos (by omega)
  have e3 : ¬ (nI m = Int32.ofNat n) := fun z => by
    have := (nI_eq (a := m) (b := n) (by omega) (by omega)).mp z
    omega
  have e4 : (if nI m < Int32.ofNat n then nI m else Int32.ofNat n) = nI n := if_neg (nI_nlt (by omega) (by omega))
  have h3 : w1.1 a = some (.inl (1, n, .inr (.inl f0))) := by
    rw [← hw1]
    simp only [mnew, ha, if_false]
    exact h1
  have h4 : w1.1 w.2.1 = some (.inl (1, m, .inr (.inl (fun _ => 0)))) := by
    rw [← hw1]
    simp [mnew, zc]
  have e5 : cpi w1 a w.2.1 0 0 (nI n) = some (mset w1 w.2.1 (.inl (1, m, .inr (.inl (va_cpy f0 (fun _ => 0) 0 0 n))))) := by
    have e0 : (0 : Int32).toNatClampNeg = 0 := by decide
    have e6 : (nI n).toNatClampNeg = n := nI_clamp (by omega)
    have e7 : ¬ (nI n < 0) := nI_pos (by omega)
    have e8 : ¬ ((0 : Int32) < 0) := by decide
    unfold cpi
    rw [h3, h4]
    simp only [e0, e6, e7, e8, not_false_eq_true, Nat.zero_add, Nat.le_refl, Nat.le_of_lt hn, and_self, if_true]
  have e9 : ¬ 1000000 < m := by omega
  refine ⟨mset w1 w.2.1 (.inl (1, m, .inr (.inl (va_cpy f0 (fun _ => 0) 0 0 n)))), ?_, ⟨_, ms_at _ _ _, fun i hi => ?_⟩, fun q hq => ?_, ?_⟩
  · simp [fJ7_copyOf_c38d5, kJ7_copyOf_c38d5, ent, entp, bJ7_copyOf_c38d5_0, i_acopy, i_alen, i_aload, i_areturn, i_astore, i_icne, i_iload, i_min, i_newarr, i_push, msk, lset1, lset2, clr, Value.category, Option.toList, List.cons_append, List.nil_append, List.length_cons, List.length_nil, h1, e3, e2, e1, e9, hw1, h3, e4, e5]
  · by_cases z : i < n
    · rw [pk_cpy_in (by omega) (by omega)]
      simp only [z, if_true, Nat.sub_zero, Nat.zero_add]
      exact h2 i z
    · rw [pk_cpy_out (by omega)]
      simp [z]
  · rw [ms_ne _ _ hq, ← hw1]
    simp [mnew, hq]
  · show w1.2 = _
    rw [← hw1]
    rfl
