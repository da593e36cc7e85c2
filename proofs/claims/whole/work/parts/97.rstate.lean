/-! ===== the reference reads: what it has read so far ===== -/
def G1 (w : Mem) (M : Nat) (δ : DE) (pt : Nat) : Prop := ∃ c, IA w (M + 3) 7 c ∧ c 0 = nI (δ.1 0) ∧ c 1 = nI (δ.1 1) ∧ c 2 = nI pt ∧ c 3 = nI (δ.1 3) ∧ c 4 = nI (δ.1 4) ∧ c 5 = nI (δ.1 5)
def G2 (w : Mem) (M : Nat) (δ : DE) : Prop := ∃ c, IA w (M + 5) 9 c ∧ ∀ h, h < δ.1 0 → c h = nI (δ.2 0 h)
def G3 (w : Mem) (M : Nat) (δ : DE) : Prop := ∃ c, IA w (M + 7) 5 c ∧ ∀ h, h < δ.1 1 → c h = nI (δ.2 2 h)
def G4 (w : Mem) (M : Nat) (δ : DE) : Prop := ∃ c, IA w (M + 9) 4 c ∧ ∀ h, h < δ.1 0 → c h = nI (δ.2 1 h)
def G5 (w : Mem) (M : Nat) (δ : DE) : Prop := ∃ c, LA w (M + 11) 9 c ∧ (∀ h, h < δ.1 0 → c h = lN (δ.2 13 h)) ∧ ∀ h, h < δ.1 1 → c (4 + h) = lN (δ.2 14 h)
def G6 (w : Mem) (M : Nat) (δ : DE) (q : Nat) : Prop := ∃ c, GRD w (M + 12) 9 3 c ∧ ∀ k, k < δ.1 2 → c k 0 = nI (δ.2 3 k) ∧ (k < q → δ.2 3 k ≠ 0 → c k 1 = nI (δ.2 4 k)) ∧ c k 2 = nI (δ.2 5 k)
def G7 (w : Mem) (M : Nat) (δ : DE) : Prop := ∃ c, GRD w (M + 32) 36 3 c ∧ ∀ p, p < δ.1 5 → c p 0 = nI (δ.2 6 p) ∧ (bat δ p (δ.1 3) = none → c p 1 = nI (δ.2 7 p))
def G8 (w : Mem) (M : Nat) (δ : DE) : Prop := ∃ c, GRD w (M + 106) 8 5 c ∧ ∀ b, b < δ.1 3 → c b 0 = nI (δ.2 8 b) ∧ c b 1 = nI (δ.2 9 b) ∧ c b 2 = nI (δ.2 10 b) ∧ c b 3 = nI (δ.2 11 b) ∧ c b 4 = nI (δ.2 12 b)
def G9 (w : Mem) (M : Nat) (δ : DE) : Prop := ∃ c, GRD w (M + 124) 8 100 c ∧ ∀ b, b < δ.1 3 → ∀ i, i < δ.2 10 b → c b i = nI (δ.2 (20 + b) i)
def RG (w : Mem) (M : Nat) (δ : DE) (pt q : Nat) : Prop := G1 w M δ pt ∧ G2 w M δ ∧ G3 w M δ ∧ G4 w M δ ∧ G5 w M δ ∧ G6 w M δ q ∧ G7 w M δ ∧ G8 w M δ ∧ G9 w M δ
section
variable {S : Nat → Prop} {w w1 : Mem} {M : Nat} {δ : DE} {pt q : Nat}
theorem G1.fr (h : G1 w M δ pt) (k : Fr S w w1) (n : ¬ S (M + 3)) : G1 w1 M δ pt := by
  obtain ⟨c, h1, h2⟩ := h
  exact ⟨c, h1.fr k n, h2⟩
theorem G2.fr (h : G2 w M δ) (k : Fr S w w1) (n : ¬ S (M + 5)) : G2 w1 M δ := by
  obtain ⟨c, h1, h2⟩ := h
  exact ⟨c, h1.fr k n, h2⟩
theorem G3.fr (h : G3 w M δ) (k : Fr S w w1) (n : ¬ S (M + 7)) : G3 w1 M δ := by
  obtain ⟨c, h1, h2⟩ := h
  exact ⟨c, h1.fr k n, h2⟩
theorem G4.fr (h : G4 w M δ) (k : Fr S w w1) (n : ¬ S (M + 9)) : G4 w1 M δ := by
  obtain ⟨c, h1, h2⟩ := h
  exact ⟨c, h1.fr k n, h2⟩
theorem G5.fr (h : G5 w M δ) (k : Fr S w w1) (n : ¬ S (M + 11)) : G5 w1 M δ := by
  obtain ⟨c, h1, h2⟩ := h
  exact ⟨c, h1.fr k n, h2⟩
theorem G6.fr (h : G6 w M δ q) (k : Fr S w w1) (n : ∀ i, 12 ≤ i → i < 22 → ¬ S (M + i)) : G6 w1 M δ q := by
  obtain ⟨c, h1, h2⟩ := h
  exact ⟨c, h1.fr k fun i hi => by rw [Nat.add_assoc]; exact n _ (by omega) (by omega), h2⟩
theorem G7.fr (h : G7 w M δ) (k : Fr S w w1) (n : ∀ i, 32 ≤ i → i < 69 → ¬ S (M + i)) : G7 w1 M δ := by
  obtain ⟨c, h1, h2⟩ := h
  exact ⟨c, h1.fr k fun i hi => by rw [Nat.add_assoc]; exact n _ (by omega) (by omega), h2⟩
theorem G8.fr (h : G8 w M δ) (k : Fr S w w1) (n : ∀ i, 106 ≤ i → i < 115 → ¬ S (M + i)) : G8 w1 M δ := by
  obtain ⟨c, h1, h2⟩ := h
  exact ⟨c, h1.fr k fun i hi => by rw [Nat.add_assoc]; exact n _ (by omega) (by omega), h2⟩
theorem G9.fr (h : G9 w M δ) (k : Fr S w w1) (n : ∀ i, 124 ≤ i → i < 133 → ¬ S (M + i)) : G9 w1 M δ := by
  obtain ⟨c, h1, h2⟩ := h
  exact ⟨c, h1.fr k fun i hi => by rw [Nat.add_assoc]; exact n _ (by omega) (by omega), h2⟩
theorem RG.fr (h : RG w M δ pt q) (k : Fr S w w1) (n : ∀ i, 3 ≤ i → i < 133 → ¬ S (M + i)) : RG w1 M δ pt q := by
  obtain ⟨h1, h2, h3, h4, h5, h6, h7, h8, h9⟩ := h
  exact ⟨h1.fr k (n _ (by decide) (by decide)), h2.fr k (n _ (by decide) (by decide)), h3.fr k (n _ (by decide) (by decide)), h4.fr k (n _ (by decide) (by decide)), h5.fr k (n _ (by decide) (by decide)), h6.fr k fun i z1 z2 => n i (by omega) (by omega), h7.fr k fun i z1 z2 => n i (by omega) (by omega), h8.fr k fun i z1 z2 => n i (by omega) (by omega), h9.fr k fun i z1 z2 => n i (by omega) (by omega)⟩
theorem RG.rp (h : RG w M δ pt q) : RP w M := by
  obtain ⟨⟨c1, h1, -⟩, ⟨c2, h2, -⟩, ⟨c3, h3, -⟩, ⟨c4, h4, -⟩, ⟨c5, h5, -⟩, ⟨c6, h6, -⟩, ⟨c7, h7, -⟩, ⟨c8, h8, -⟩, ⟨c9, h9, -⟩⟩ := h
  exact ⟨⟨c1, h1⟩, ⟨c2, h2⟩, ⟨c3, h3⟩, ⟨c4, h4⟩, ⟨c5, h5⟩, ⟨c6, h6⟩, ⟨c7, h7⟩, ⟨c8, h8⟩, ⟨c9, h9⟩⟩
end
/-- what reading writes -/
abbrev SR (M : Nat) : Nat → Prop := fun z => z = M ∨ z = M + 3 ∨ z = M + 5 ∨ z = M + 7 ∨ z = M + 9 ∨ z = M + 11 ∨ rg (M + 12) (M + 22) z ∨ rg (M + 32) (M + 69) z ∨ rg (M + 106) (M + 115) z ∨ rg (M + 124) (M + 133) z
theorem SR_M (M : Nat) : ∀ a, a = M → SR M a := fun a h => Or.inl h
/-- a fault has been found -/
def RFt (w : Mem) (M : Nat) (x : Nat → Int32) (n : Nat) (e : Nat × Nat) : Prop := ∃ x', MO w M x' ∧ x' 5 = nI e.1 ∧ x' 6 = nI e.2 ∧ (∃ a, a ≤ n ∧ x' 4 = nI a) ∧ (∀ j, j ≠ 4 → j ≠ 5 → j ≠ 6 → j ≠ 7 → x' j = x j) ∧ RP w M ∧ 1 ≤ e.1 ∧ e.1 ≤ 4
def RX (w : Mem) (M : Nat) (x : Nat → Int32) (n pt q : Nat) (r : PR) : Prop := match r with
  | .inl e => RFt w M x n e
  | .inr y => MO w M (va_up x 4 (nI y.2)) ∧ RG w M y.1 pt q
theorem va_ne {α : Type} {x : Nat → α} {k j : Nat} {v : α} (h : j ≠ k) : va_up x k v j = x j := va_up_ne _ _ h
theorem RFt.o4 {w : Mem} {M n : Nat} {x : Nat → Int32} {v : Int32} {e : Nat × Nat} (h : RFt w M (va_up x 4 v) n e) : RFt w M x n e := by
  obtain ⟨x', h1, h2, h3, h4, h5, h6⟩ := h
  exact ⟨x', h1, h2, h3, h4, fun j j4 j5 j6 j7 => by rw [h5 j j4 j5 j6 j7, va_ne j4], h6⟩
theorem RX.o4 {w : Mem} {M n pt q : Nat} {x : Nat → Int32} {v : Int32} {r : PR} (h : RX w M (va_up x 4 v) n pt q r) : RX w M x n pt q r := by
  cases r with
  | inl e => exact RFt.o4 h
  | inr y =>
    refine ⟨?_, h.2⟩
    have := h.1
    rwa [va_up_up] at this
/-- a fault by a value's reading -/
theorem RFt.v {w : Mem} {M n a : Nat} {x : Nat → Int32} {e : Nat × Nat} (h : MO w M (xV x a (.inl e))) (hp : RP w M) (ha : a ≤ n) (h1 : 1 ≤ e.1) (h2 : e.1 ≤ 4) : RFt w M x n e :=
  ⟨_, h, rfl, rfl, ⟨a, ha, rfl⟩, fun j j4 j5 j6 j7 => by
    show va_up (va_up (va_up x 4 (nI a)) 5 (nI e.1)) 6 (nI e.2) j = _
    rw [va_ne j6, va_ne j5, va_ne j4], hp, h1, h2⟩
def pvD (d : Int32) (r : PV) : Int32 := match r with
  | .inl _ => d
  | .inr y => nI y.1
/-- faults of values are of sort 1 or 2 -/
def PVb (r : PV) : Prop := ∀ e, r = .inl e → 1 ≤ e.1 ∧ e.1 ≤ 4
theorem numP_b (T : Nat → Nat) (n mx a : Nat) : PVb (numP T n mx a) := fun e h => by
  unfold numP at h
  split at h
  · cases h; exact ⟨by simp, by simp⟩
  · split at h
    · cases h; exact ⟨by simp, by simp⟩
    · cases h
theorem namP_b (T : Nat → Nat) (n N : Nat) (f : Nat → Nat) (a : Nat) : PVb (namP T n N f a) := fun e h => by
  unfold namP at h
  split at h
  · cases h; exact ⟨by simp, by simp⟩
  · split at h
    · cases h; exact ⟨by simp, by simp⟩
    · split at h
      · cases h
      · cases h; exact ⟨by simp, by simp⟩
theorem isP_b (T : Nat → Nat) (n a : Nat) : PVb (isP T n a) := fun e h => by
  unfold isP at h
  split at h
  · cases h; exact ⟨by simp, by simp⟩
  · split at h
    · cases h
    · split at h
      · cases h
      · cases h; exact ⟨by simp, by simp⟩
theorem newP_b (T : Nat → Nat) (n : Nat) (δ : DE) (a : Nat) : PVb (newP T n δ a) := fun e h => by
  unfold newP at h
  split at h
  · cases h; exact ⟨by simp, by simp⟩
  · split at h
    · cases h; exact ⟨by simp, by simp⟩
    · cases h
/-! after a fault nothing is read -/
theorem number_no {g : GE} (hg : FU g) {w : Mem} {M : Nat} {x : Nat → Int32} (hO : MO w M x) (h5 : ¬ x 5 = 0) (lo hi : Int32) : fX11_number g [.ref M, .int lo, .int hi] w = some (.inl (some (.int 0)), w) := by
  obtain ⟨N, hN⟩ : ∃ N, g.1 = N + 1 := ⟨g.1 - 1, by omega⟩
  simp [fX11_number, kX11_number, ent, entp, jX11_number, bX11_number_0, bX11_number_1, bX11_number_2, bX11_number_3, bX11_number_4, i_aload, i_dup, i_getf, i_iadd, i_icle, i_ifeq, i_ifne, i_iload, i_imul, i_ireturn, i_istore, i_isub, i_jmp, i_push, i_putf, msk, lset1, lset2, clr, Value.category, Option.toList, List.cons_append, List.nil_append, List.length_cons, List.length_nil, hN, gf_eq hO, mg_5, h5]
theorem toldName_no {g : GE} (hg : FU g) {w : Mem} {M : Nat} {x : Nat → Int32} (hO : MO w M x) (h5 : ¬ x 5 = 0) (lo hi : Int32) : fX11_toldName g [.ref M, .int lo, .int hi] w = some (.inl (some (.int 0)), w) := by
  obtain ⟨N, hN⟩ : ∃ N, g.1 = N + 1 := ⟨g.1 - 1, by omega⟩
  simp [fX11_toldName, kX11_toldName, ent, entp, jX11_toldName, bX11_toldName_0, bX11_toldName_1, bX11_toldName_2, bX11_toldName_3, i_aload, i_dup, i_getf, i_iadd, i_icge, i_ifeq, i_ifne, i_iinc, i_iload, i_ireturn, i_istore, i_jmp, i_laload, i_lcmp, i_lload, i_lstore, i_push, i_putf, msk, lset1, lset2, clr, Value.category, Option.toList, List.cons_append, List.nil_append, List.length_cons, List.length_nil, hN, gf_eq hO, mg_5, h5]
theorem spotHere_no {g : GE} (hg : FU g) {w : Mem} {M : Nat} {x : Nat → Int32} (hO : MO w M x) (h5 : ¬ x 5 = 0) (k : Int32) : fX11_spotHere g [.ref M, .int k] w = some (.inl none, w) := by
  obtain ⟨N, hN⟩ : ∃ N, g.1 = N + 1 := ⟨g.1 - 1, by omega⟩
  simp [fX11_spotHere, kX11_spotHere, ent, entp, jX11_spotHere, bX11_spotHere_0, bX11_spotHere_1, bX11_spotHere_2, i_aaload, i_aload, i_astore, i_dup2, i_getf, i_iadd, i_iaload, i_iastore, i_icne, i_ifeq, i_ifne, i_iload, i_jmp, i_push, i_return, msk, lset1, lset2, clr, Value.category, Option.toList, List.cons_append, List.nil_append, List.length_cons, List.length_nil, hN, gf_eq hO, mg_5, h5]
theorem isFullR_sp {g : GE} (hg : FU g) {w : Mem} {M pt vb : Nat} {x : Nat → Int32} {δ : DE} (hO : MO w M x) (hG : G1 w M δ pt) (hpt : pt = δ.1 2) (hQ : PQ δ) (hv : vb < 7) : fX11_isFull g [.ref M, .int (nI vb)] w = some (.inl (some (.int (if fullP δ vb = true then 1 else 0))), w) := by
  obtain ⟨N, hN⟩ : ∃ N, g.1 = N + 3 := ⟨g.1 - 3, by omega⟩
  obtain ⟨c, h1, c0, c1, c2, -⟩ := hG
  obtain ⟨⟨q0, q1, q2, -⟩, -⟩ := hQ
  subst hpt
  have b0 := h1.rc 0 0 rfl (by decide) (by decide)
  have b1 := h1.rc 1 1 rfl (by decide) (by decide)
  have b2 := h1.rc 2 2 rfl (by decide) (by decide)
  rw [c0] at b0
  rw [c1] at b1
  rw [c2] at b2
  have e0 : (nI (δ.1 0) = 4) ↔ δ.1 0 = 4 := nI_eq (b := 4) (by omega) (by decide)
  have e1 : (nI (δ.1 1) = 5) ↔ δ.1 1 = 5 := nI_eq (b := 5) (by omega) (by decide)
  have e2 : (nI (δ.1 2) = 9) ↔ δ.1 2 = 9 := nI_eq (b := 9) (by omega) (by decide)
  unfold fullP
  simp only [decide_eq_true_eq]
  by_cases v0 : vb = 0
  · subst v0
    have v1 : nI 0 = 0 := rfl
    by_cases y : δ.1 0 = 4
    · rw [if_pos (Or.inl ⟨rfl, by omega⟩)]
      simp [fX11_isFull, kX11_isFull, ent, entp, jX11_isFull, bX11_isFull_0, bX11_isFull_1, bX11_isFull_2, i_aload, i_getf, i_iaload, i_icle, i_icne, i_ifne, i_iload, i_jmp, i_push, i_zreturn, msk, lset1, lset2, clr, Value.category, Option.toList, List.cons_append, List.nil_append, List.length_cons, List.length_nil, hN, gf_eq hO, mg_10, v1, b0, e0.mpr y]
    · rw [if_neg (by omega)]
      simp [fX11_isFull, kX11_isFull, ent, entp, jX11_isFull, bX11_isFull_0, bX11_isFull_1, bX11_isFull_2, i_aload, i_getf, i_iaload, i_icle, i_icne, i_ifne, i_iload, i_jmp, i_push, i_zreturn, msk, lset1, lset2, clr, Value.category, Option.toList, List.cons_append, List.nil_append, List.length_cons, List.length_nil, hN, gf_eq hO, mg_10, v1, b0, mt e0.mp y]
  · have n0 : ¬ nI vb = 0 := nI_ne0 (by omega) (by omega)
    by_cases v1 : vb = 1
    · subst v1
      have v1 : nI 1 = 1 := rfl
      by_cases y : δ.1 1 = 5
      · rw [if_pos (Or.inr (Or.inl ⟨rfl, by omega⟩))]
        simp [fX11_isFull, kX11_isFull, ent, entp, jX11_isFull, bX11_isFull_0, bX11_isFull_1, bX11_isFull_2, i_aload, i_getf, i_iaload, i_icle, i_icne, i_ifne, i_iload, i_jmp, i_push, i_zreturn, msk, lset1, lset2, clr, Value.category, Option.toList, List.cons_append, List.nil_append, List.length_cons, List.length_nil, hN, gf_eq hO, mg_10, v1, b1, e1.mpr y]
      · rw [if_neg (by omega)]
        simp [fX11_isFull, kX11_isFull, ent, entp, jX11_isFull, bX11_isFull_0, bX11_isFull_1, bX11_isFull_2, i_aload, i_getf, i_iaload, i_icle, i_icne, i_ifne, i_iload, i_jmp, i_push, i_zreturn, msk, lset1, lset2, clr, Value.category, Option.toList, List.cons_append, List.nil_append, List.length_cons, List.length_nil, hN, gf_eq hO, mg_10, v1, b1, mt e1.mp y]
    · have n1 : ¬ nI vb = 1 := mt (nI_eq (b := 1) (by omega) (by decide)).mp v1
      by_cases v3 : vb ≤ 3
      · have n3 : nI vb ≤ 3 := nI_le (b := 3) v3 (by decide)
        rw [if_neg (by omega)]
        simp [fX11_isFull, kX11_isFull, ent, entp, jX11_isFull, bX11_isFull_0, bX11_isFull_1, bX11_isFull_2, i_aload, i_getf, i_iaload, i_icle, i_icne, i_ifne, i_iload, i_jmp, i_push, i_zreturn, msk, lset1, lset2, clr, Value.category, Option.toList, List.cons_append, List.nil_append, List.length_cons, List.length_nil, hN, gf_eq hO, mg_10, n0, n1, n3]
      · have n3 : ¬ nI vb ≤ 3 := nI_ge (a := 3) (by omega) (by omega)
        by_cases y : δ.1 2 = 9
        · rw [if_pos (Or.inr (Or.inr ⟨by omega, by omega⟩))]
          simp [fX11_isFull, kX11_isFull, ent, entp, jX11_isFull, bX11_isFull_0, bX11_isFull_1, bX11_isFull_2, i_aload, i_getf, i_iaload, i_icle, i_icne, i_ifne, i_iload, i_jmp, i_push, i_zreturn, msk, lset1, lset2, clr, Value.category, Option.toList, List.cons_append, List.nil_append, List.length_cons, List.length_nil, hN, gf_eq hO, mg_10, n0, n1, n3, b2, e2.mpr y]
        · rw [if_neg (by omega)]
          simp [fX11_isFull, kX11_isFull, ent, entp, jX11_isFull, bX11_isFull_0, bX11_isFull_1, bX11_isFull_2, i_aload, i_getf, i_iaload, i_icle, i_icne, i_ifne, i_iload, i_jmp, i_push, i_zreturn, msk, lset1, lset2, clr, Value.category, Option.toList, List.cons_append, List.nil_append, List.length_cons, List.length_nil, hN, gf_eq hO, mg_10, n0, n1, n3, b2, mt e2.mp y]
