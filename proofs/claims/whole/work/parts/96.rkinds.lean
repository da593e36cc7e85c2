/-! ===== the reference reads: words ===== -/
theorem cvk_6 {F : FT} {g : GE} {ci : Nat} {k : KT} {a : Nat} {x y z u v0 v1 : Value} {r : List Value} {lv : Lv} {w w1 : Mem} {fs : List Value} {v : Option Value} (ha : OB w a ci fs) (hF : F g [.ref a, x, y, z, u, v0, v1] w = some (.inl v, w1)) (hr : r.length ≤ 4) : i_cv F g 6 ci k (v1 :: v0 :: u :: z :: y :: x :: .ref a :: r) lv w = k (v.toList ++ r) lv w1 := by
  show (match w.1 a with | some (.inr o) => if o.1 = ci ∧ r.length ≤ 4 then (match F g [.ref a, x, y, z, u, v0, v1] w with | some (.inl v, w1) => k (v.toList ++ r) lv w1 | _ => none) else none | _ => none) = _
  rw [ha]; simp only [hF, hr, and_self, if_true]
theorem csk_6 {F : FT} {g : GE} {k : KT} {x y z u v0 v1 : Value} {r : List Value} {lv : Lv} {w w1 : Mem} {v : Option Value} (hF : F g [x, y, z, u, v0, v1] w = some (.inl v, w1)) (hr : r.length ≤ 4) : i_cs F g 6 k (v1 :: v0 :: u :: z :: y :: x :: r) lv w = k (v.toList ++ r) lv w1 := by
  unfold i_cs
  simp [hF, hr]
theorem Fr.same {w w' : Mem} {M : Nat} {c : Option Cl} (F : Fr (fun q => q = M) w w') (h : w.1 M = c) (h' : w'.1 M = c) : w' = w := by
  refine Prod.ext (funext fun a => ?_) F.2
  by_cases z : a = M
  · rw [z, h, h']
  · exact F.1 a z
theorem six_h {g : GE} (hg : FU g) (w : Mem) : fX11_six g [.int 8, .int 5, .int 9, .int 18, .int 0, .int 0] w = some (.inl (some (.long (lN (cwL (vbW 0))))), w) := by
  obtain ⟨N, hN⟩ : ∃ N, g.1 = N + 5 := ⟨g.1 - 5, by omega⟩
  simp [fX11_six, kX11_six, ent, entp, jX11_six, bX11_six_0, bX11_six_1, bX11_six_2, bX11_six_3, bX11_six_4, i_i2l, i_ifne, i_iload, i_jmp, i_ladd, i_lload, i_lmul, i_lreturn, i_lstore, i_push, msk, lset1, lset2, clr, Value.category, Option.toList, List.cons_append, List.nil_append, List.length_cons, List.length_nil, hN]
  decide
theorem six_t {g : GE} (hg : FU g) (w : Mem) : fX11_six g [.int 20, .int 8, .int 9, .int 14, .int 7, .int 0] w = some (.inl (some (.long (lN (cwL (vbW 1))))), w) := by
  obtain ⟨N, hN⟩ : ∃ N, g.1 = N + 5 := ⟨g.1 - 5, by omega⟩
  simp [fX11_six, kX11_six, ent, entp, jX11_six, bX11_six_0, bX11_six_1, bX11_six_2, bX11_six_3, bX11_six_4, i_i2l, i_ifne, i_iload, i_jmp, i_ladd, i_lload, i_lmul, i_lreturn, i_lstore, i_push, msk, lset1, lset2, clr, Value.category, Option.toList, List.cons_append, List.nil_append, List.length_cons, List.length_nil, hN]
  decide
theorem six_l {g : GE} (hg : FU g) (w : Mem) : fX11_six g [.int 12, .int 5, .int 1, .int 19, .int 20, .int 0] w = some (.inl (some (.long (lN (cwL (vbW 3))))), w) := by
  obtain ⟨N, hN⟩ : ∃ N, g.1 = N + 5 := ⟨g.1 - 5, by omega⟩
  simp [fX11_six, kX11_six, ent, entp, jX11_six, bX11_six_0, bX11_six_1, bX11_six_2, bX11_six_3, bX11_six_4, i_i2l, i_ifne, i_iload, i_jmp, i_ladd, i_lload, i_lmul, i_lreturn, i_lstore, i_push, msk, lset1, lset2, clr, Value.category, Option.toList, List.cons_append, List.nil_append, List.length_cons, List.length_nil, hN]
  decide
theorem six_c {g : GE} (hg : FU g) (w : Mem) : fX11_six g [.int 3, .int 15, .int 9, .int 14, .int 0, .int 0] w = some (.inl (some (.long (lN (cwL (vbW 4))))), w) := by
  obtain ⟨N, hN⟩ : ∃ N, g.1 = N + 5 := ⟨g.1 - 5, by omega⟩
  simp [fX11_six, kX11_six, ent, entp, jX11_six, bX11_six_0, bX11_six_1, bX11_six_2, bX11_six_3, bX11_six_4, i_i2l, i_ifne, i_iload, i_jmp, i_ladd, i_lload, i_lmul, i_lreturn, i_lstore, i_push, msk, lset1, lset2, clr, Value.category, Option.toList, List.cons_append, List.nil_append, List.length_cons, List.length_nil, hN]
  decide
theorem six_w {g : GE} (hg : FU g) (w : Mem) : fX11_six g [.int 23, .int 9, .int 12, .int 12, .int 0, .int 0] w = some (.inl (some (.long (lN (cwL (vbW 5))))), w) := by
  obtain ⟨N, hN⟩ : ∃ N, g.1 = N + 5 := ⟨g.1 - 5, by omega⟩
  simp [fX11_six, kX11_six, ent, entp, jX11_six, bX11_six_0, bX11_six_1, bX11_six_2, bX11_six_3, bX11_six_4, i_i2l, i_ifne, i_iload, i_jmp, i_ladd, i_lload, i_lmul, i_lreturn, i_lstore, i_push, msk, lset1, lset2, clr, Value.category, Option.toList, List.cons_append, List.nil_append, List.length_cons, List.length_nil, hN]
  decide
theorem six_n {g : GE} (hg : FU g) (w : Mem) : fX11_six g [.int 23, .int 8, .int 5, .int 14, .int 0, .int 0] w = some (.inl (some (.long (lN (cwL (vbW 6))))), w) := by
  obtain ⟨N, hN⟩ : ∃ N, g.1 = N + 5 := ⟨g.1 - 5, by omega⟩
  simp [fX11_six, kX11_six, ent, entp, jX11_six, bX11_six_0, bX11_six_1, bX11_six_2, bX11_six_3, bX11_six_4, i_i2l, i_ifne, i_iload, i_jmp, i_ladd, i_lload, i_lmul, i_lreturn, i_lstore, i_push, msk, lset1, lset2, clr, Value.category, Option.toList, List.cons_append, List.nil_append, List.length_cons, List.length_nil, hN]
  decide
theorem six_i {g : GE} (hg : FU g) (w : Mem) : fX11_six g [.int 9, .int 19, .int 0, .int 0, .int 0, .int 0] w = some (.inl (some (.long (lN (cwL (wIs))))), w) := by
  obtain ⟨N, hN⟩ : ∃ N, g.1 = N + 5 := ⟨g.1 - 5, by omega⟩
  simp [fX11_six, kX11_six, ent, entp, jX11_six, bX11_six_0, bX11_six_1, bX11_six_2, bX11_six_3, bX11_six_4, i_i2l, i_ifne, i_iload, i_jmp, i_ladd, i_lload, i_lmul, i_lreturn, i_lstore, i_push, msk, lset1, lset2, clr, Value.category, Option.toList, List.cons_append, List.nil_append, List.length_cons, List.length_nil, hN]
  decide
theorem six_o {g : GE} (hg : FU g) (w : Mem) : fX11_six g [.int 14, .int 15, .int 20, .int 0, .int 0, .int 0] w = some (.inl (some (.long (lN (cwL (wNot))))), w) := by
  obtain ⟨N, hN⟩ : ∃ N, g.1 = N + 5 := ⟨g.1 - 5, by omega⟩
  simp [fX11_six, kX11_six, ent, entp, jX11_six, bX11_six_0, bX11_six_1, bX11_six_2, bX11_six_3, bX11_six_4, i_i2l, i_ifne, i_iload, i_jmp, i_ladd, i_lload, i_lmul, i_lreturn, i_lstore, i_push, msk, lset1, lset2, clr, Value.category, Option.toList, List.cons_append, List.nil_append, List.length_cons, List.length_nil, hN]
  decide
theorem six_e {g : GE} (hg : FU g) (w : Mem) : fX11_six g [.int 5, .int 19, .int 20, .int 1, .int 20, .int 0] w = some (.inl (some (.long (lN (cwL ([101, 115, 116, 97, 116]))))), w) := by
  obtain ⟨N, hN⟩ : ∃ N, g.1 = N + 5 := ⟨g.1 - 5, by omega⟩
  simp [fX11_six, kX11_six, ent, entp, jX11_six, bX11_six_0, bX11_six_1, bX11_six_2, bX11_six_3, bX11_six_4, i_i2l, i_ifne, i_iload, i_jmp, i_ladd, i_lload, i_lmul, i_lreturn, i_lstore, i_push, msk, lset1, lset2, clr, Value.category, Option.toList, List.cons_append, List.nil_append, List.length_cons, List.length_nil, hN]
  decide
theorem cd_eq {T : Nat → Nat} {n a : Nat} {W : List Nat} (ha : a ≤ n) (hW : ∀ c, c ∈ W → isL c = true) (hl : W.length ≤ 9) : ((if 9 < le9 T n a - a then (-1 : Int64) else lN (cdF T a (le9 T n a - a))) = lN (cwL W)) ↔ wdL T a (le9 T n a - a) = W := by
  have k3 : a ≤ le9 T n a := ru_le ha
  have hlt : cwL W < 2 ^ 43 := by
    have : ∀ (l : List Nat), (∀ c, c ∈ l → isL c = true) → cwL l < 27 ^ l.length := by
      intro l
      induction hn : l.length generalizing l with
      | zero => intro _; rw [List.length_eq_zero_iff.mp hn]; decide
      | succ m ih =>
        intro h
        rcases List.eq_nil_or_concat l with z | ⟨l', d, z⟩
        · subst z; cases hn
        · rw [List.concat_eq_append] at z
          subst z
          have d1 := h d (by simp)
          simp only [isL, decide_eq_true_eq] at d1
          have := ih l' (by simp at hn; exact hn) fun c hc => h c (by simp [hc])
          rw [cwL_app, Nat.pow_succ]
          omega
    have h1 := this W hW
    have h2 : 27 ^ W.length ≤ 27 ^ 9 := Nat.pow_le_pow_right (by decide) hl
    have h3 : (27 : Nat) ^ 9 < 2 ^ 43 := by decide
    omega
  by_cases y : 9 < le9 T n a - a
  · rw [if_pos y]
    constructor
    · intro h
      have : (-1 : Int64) = lN (2 ^ 64 - 1) := by decide
      rw [this, lN_inj9 (by decide) (by omega)] at h
      omega
    · intro h
      have := congrArg List.length h
      rw [wdL_len] at this
      omega
  · rw [if_neg y]
    have c1 : cdF T a (le9 T n a - a) < 2 ^ 43 := by
      have := code_lt (T := T) ha
      rwa [show min (le9 T n a - a) 9 = le9 T n a - a by omega] at this
    rw [lN_inj9 (by omega) (by omega), cdF_w]
    constructor
    · intro h
      exact cwL_inj _ _ _ rfl (wdL_L fun i hi => ru_p ha (Nat.le_add_right _ _) (show a + i < le9 T n a by omega)) hW h
    · intro h
      rw [h]
section
variable {g : GE} {w : Mem} {M n a : Nat} {x : Nat → Int32} {T : Nat → Nat}
theorem wordHere_at (hg : FU g) (hO : MO w M x) (h2 : x 2 = nI n) (h4 : x 4 = nI a) (hT : TXT w (M + 1) T) (ha : a ≤ n) (hn : n ≤ 600) (hs : sb T n a = a) : fX11_wordHere g [.ref M] w = some (.inl (some (.long (if 9 < le9 T n a - a then -1 else lN (cdF T a (le9 T n a - a))))), w) := by
  obtain ⟨w1, r1, o1, F1⟩ := wordHere_sp hg hO h2 h4 hT ha hn
  rw [hs] at r1 o1
  rw [va_same h4] at o1
  rw [r1, F1.same hO o1]
theorem lettersHere_at (hg : FU g) (hO : MO w M x) (h2 : x 2 = nI n) (h4 : x 4 = nI a) (hT : TXT w (M + 1) T) (ha : a ≤ n) (hn : n ≤ 600) (hs : sb T n a = a) : fX11_lettersHere g [.ref M] w = some (.inl (some (.int (nI (le9 T n a - a)))), w) := by
  obtain ⟨w1, r1, o1, F1⟩ := lettersHere_sp hg hO h2 h4 hT ha hn
  rw [hs] at r1 o1
  rw [va_same h4] at o1
  rw [r1, F1.same hO o1]
theorem blanks_at (hg : FU g) (hO : MO w M x) (h2 : x 2 = nI n) (h4 : x 4 = nI a) (hT : TXT w (M + 1) T) (ha : a ≤ n) (hn : n ≤ 600) (hs : sb T n a = a) : fX11_blanks g [.ref M] w = some (.inl none, w) := by
  obtain ⟨w1, r1, o1, F1⟩ := blanks_sp hg hO h2 h4 hT ha hn
  rw [hs] at o1
  rw [va_same h4] at o1
  rw [r1, F1.same hO o1]
theorem isWordR_sp (hg : FU g) (hO : MO w M x) (h2 : x 2 = nI n) (h4 : x 4 = nI a) (h5 : x 5 = 0) (hT : TXT w (M + 1) T) (ha : a ≤ n) (hn : n ≤ 600) (hs : sb T n a = a) {W : List Nat} {c1 c2 c3 c4 c5 c6 : Int32} (h6 : fX11_six g [.int c1, .int c2, .int c3, .int c4, .int c5, .int c6] w = some (.inl (some (.long (lN (cwL W)))), w)) (hW : ∀ c, c ∈ W → isL c = true) (hl : W.length ≤ 9) :
    fX11_isWord g [.ref M, .int c1, .int c2, .int c3, .int c4, .int c5, .int c6] w = some (.inl (some (.int (if wdL T a (le9 T n a - a) = W then 1 else 0))), w) := by
  obtain ⟨N, hN⟩ : ∃ N, g.1 = N + 3 := ⟨g.1 - 3, by omega⟩
  have r1 := wordHere_at hg hO h2 h4 hT ha hn hs
  have ce := cd_eq (T := T) (W := W) ha hW hl
  by_cases y : wdL T a (le9 T n a - a) = W
  · rw [if_pos y]
    have e5 := cz_y (ce.mpr y)
    clear ce
    generalize (if 9 < le9 T n a - a then (-1 : Int64) else lN (cdF T a (le9 T n a - a))) = C at *
    generalize lN (cwL W) = C2 at *
    simp [fX11_isWord, kX11_isWord, ent, entp, jX11_isWord, bX11_isWord_0, bX11_isWord_1, bX11_isWord_2, i_aload, i_getf, i_ifne, i_iload, i_jmp, i_lcmp, i_push, i_zreturn, msk, lset1, lset2, clr, Value.category, Option.toList, List.cons_append, List.nil_append, List.length_cons, List.length_nil, hN, gf_eq hO, mg_5, h5, cvk_0 hO r1, csk_6 h6, e5]
  · rw [if_neg y]
    have e5 := cz_n (mt ce.mp y)
    clear ce
    generalize (if 9 < le9 T n a - a then (-1 : Int64) else lN (cdF T a (le9 T n a - a))) = C at *
    generalize lN (cwL W) = C2 at *
    simp [fX11_isWord, kX11_isWord, ent, entp, jX11_isWord, bX11_isWord_0, bX11_isWord_1, bX11_isWord_2, i_aload, i_getf, i_ifne, i_iload, i_jmp, i_lcmp, i_push, i_zreturn, msk, lset1, lset2, clr, Value.category, Option.toList, List.cons_append, List.nil_append, List.length_cons, List.length_nil, hN, gf_eq hO, mg_5, h5, cvk_0 hO r1, csk_6 h6, e5]
def kdI (o : Option Nat) : Int32 := match o with
  | some v => nI v
  | none => -1
theorem kindHere_sp (hg : FU g) (hO : MO w M x) (h2 : x 2 = nI n) (h4 : x 4 = nI a) (h5 : x 5 = 0) (hT : TXT w (M + 1) T) (ha : a ≤ n) (hn : n ≤ 600) (hs : sb T n a = a) :
    fX11_kindHere g [.ref M] w = some (.inl (some (.int (kdI (vbP (wdL T a (le9 T n a - a)))))), w) := by
  obtain ⟨N, hN⟩ : ∃ N, g.1 = N + 3 := ⟨g.1 - 3, by omega⟩
  have r0 := isWordR_sp hg hO h2 h4 h5 hT ha hn hs (six_h hg w) (by decide) (by decide)
  have r1 := isWordR_sp hg hO h2 h4 h5 hT ha hn hs (six_t hg w) (by decide) (by decide)
  have r3 := isWordR_sp hg hO h2 h4 h5 hT ha hn hs (six_l hg w) (by decide) (by decide)
  have r4 := isWordR_sp hg hO h2 h4 h5 hT ha hn hs (six_c hg w) (by decide) (by decide)
  have r5 := isWordR_sp hg hO h2 h4 h5 hT ha hn hs (six_w hg w) (by decide) (by decide)
  have r6 := isWordR_sp hg hO h2 h4 h5 hT ha hn hs (six_n hg w) (by decide) (by decide)
  have rw1 := wordHere_at hg hO h2 h4 hT ha hn hs
  have ce := cd_eq (T := T) (W := vbW 2) ha (by decide) (by decide)
  have sx := six_e hg w
  have se : 27 * lN (cwL [101, 115, 116, 97, 116]) + 5 = lN (cwL (vbW 2)) := by decide
  clear hs
  generalize (if 9 < le9 T n a - a then (-1 : Int64) else lN (cdF T a (le9 T n a - a))) = C at *
  generalize lN (cwL (vbW 2)) = C2 at *
  generalize lN (cwL [101, 115, 116, 97, 116]) = C3 at *
  generalize wdL T a (le9 T n a - a) = l at *
  by_cases y0 : l = vbW 0
  · rw [vb_at (i := 0) (by decide) (fun m hm => by
      match m, hm with
      | m + 0, hm => omega) y0]
    rw [if_pos y0] at r0
    show _ = some (Sum.inl (some (Value.int (nI 0))), w)
    have en : nI 0 = 0 := rfl
    simp [fX11_kindHere, kX11_kindHere, ent, entp, jX11_kindHere, bX11_kindHere_0, bX11_kindHere_1, bX11_kindHere_2, i_aload, i_getf, i_ifeq, i_ifne, i_ireturn, i_jmp, i_ladd, i_lcmp, i_lmul, i_push, msk, lset1, lset2, clr, Value.category, Option.toList, List.cons_append, List.nil_append, List.length_cons, List.length_nil, hN, cvk_6 hO r0, en]
  by_cases y1 : l = vbW 1
  · rw [vb_at (i := 1) (by decide) (fun m hm => by
      match m, hm with
      | 0, _ => exact y0
      | m + 1, hm => omega) y1]
    rw [if_neg y0] at r0
    rw [if_pos y1] at r1
    show _ = some (Sum.inl (some (Value.int (nI 1))), w)
    have en : nI 1 = 1 := rfl
    simp [fX11_kindHere, kX11_kindHere, ent, entp, jX11_kindHere, bX11_kindHere_0, bX11_kindHere_1, bX11_kindHere_2, i_aload, i_getf, i_ifeq, i_ifne, i_ireturn, i_jmp, i_ladd, i_lcmp, i_lmul, i_push, msk, lset1, lset2, clr, Value.category, Option.toList, List.cons_append, List.nil_append, List.length_cons, List.length_nil, hN, cvk_6 hO r0, cvk_6 hO r1, en]
  by_cases y2 : l = vbW 2
  · rw [vb_at (i := 2) (by decide) (fun m hm => by
      match m, hm with
      | 0, _ => exact y0
      | 1, _ => exact y1
      | m + 2, hm => omega) y2]
    rw [if_neg y0] at r0
    rw [if_neg y1] at r1
    have ec := cz_y (ce.mpr y2)
    show _ = some (Sum.inl (some (Value.int (nI 2))), w)
    have en : nI 2 = 2 := rfl
    simp [fX11_kindHere, kX11_kindHere, ent, entp, jX11_kindHere, bX11_kindHere_0, bX11_kindHere_1, bX11_kindHere_2, i_aload, i_getf, i_ifeq, i_ifne, i_ireturn, i_jmp, i_ladd, i_lcmp, i_lmul, i_push, msk, lset1, lset2, clr, Value.category, Option.toList, List.cons_append, List.nil_append, List.length_cons, List.length_nil, hN, cvk_6 hO r0, cvk_6 hO r1, gf_eq hO, mg_5, h5, cvk_0 hO rw1, csk_6 sx, se, ec, en]
  by_cases y3 : l = vbW 3
  · rw [vb_at (i := 3) (by decide) (fun m hm => by
      match m, hm with
      | 0, _ => exact y0
      | 1, _ => exact y1
      | 2, _ => exact y2
      | m + 3, hm => omega) y3]
    rw [if_neg y0] at r0
    rw [if_neg y1] at r1
    rw [if_pos y3] at r3
    have ec := cz_n (mt ce.mp y2)
    show _ = some (Sum.inl (some (Value.int (nI 3))), w)
    have en : nI 3 = 3 := rfl
    simp [fX11_kindHere, kX11_kindHere, ent, entp, jX11_kindHere, bX11_kindHere_0, bX11_kindHere_1, bX11_kindHere_2, i_aload, i_getf, i_ifeq, i_ifne, i_ireturn, i_jmp, i_ladd, i_lcmp, i_lmul, i_push, msk, lset1, lset2, clr, Value.category, Option.toList, List.cons_append, List.nil_append, List.length_cons, List.length_nil, hN, cvk_6 hO r0, cvk_6 hO r1, gf_eq hO, mg_5, h5, cvk_0 hO rw1, csk_6 sx, se, ec, cvk_6 hO r3, en]
  by_cases y4 : l = vbW 4
  · rw [vb_at (i := 4) (by decide) (fun m hm => by
      match m, hm with
      | 0, _ => exact y0
      | 1, _ => exact y1
      | 2, _ => exact y2
      | 3, _ => exact y3
      | m + 4, hm => omega) y4]
    rw [if_neg y0] at r0
    rw [if_neg y1] at r1
    rw [if_neg y3] at r3
    rw [if_pos y4] at r4
    have ec := cz_n (mt ce.mp y2)
    show _ = some (Sum.inl (some (Value.int (nI 4))), w)
    have en : nI 4 = 4 := rfl
    simp [fX11_kindHere, kX11_kindHere, ent, entp, jX11_kindHere, bX11_kindHere_0, bX11_kindHere_1, bX11_kindHere_2, i_aload, i_getf, i_ifeq, i_ifne, i_ireturn, i_jmp, i_ladd, i_lcmp, i_lmul, i_push, msk, lset1, lset2, clr, Value.category, Option.toList, List.cons_append, List.nil_append, List.length_cons, List.length_nil, hN, cvk_6 hO r0, cvk_6 hO r1, gf_eq hO, mg_5, h5, cvk_0 hO rw1, csk_6 sx, se, ec, cvk_6 hO r3, cvk_6 hO r4, en]
  by_cases y5 : l = vbW 5
  · rw [vb_at (i := 5) (by decide) (fun m hm => by
      match m, hm with
      | 0, _ => exact y0
      | 1, _ => exact y1
      | 2, _ => exact y2
      | 3, _ => exact y3
      | 4, _ => exact y4
      | m + 5, hm => omega) y5]
    rw [if_neg y0] at r0
    rw [if_neg y1] at r1
    rw [if_neg y3] at r3
    rw [if_neg y4] at r4
    rw [if_pos y5] at r5
    have ec := cz_n (mt ce.mp y2)
    show _ = some (Sum.inl (some (Value.int (nI 5))), w)
    have en : nI 5 = 5 := rfl
    simp [fX11_kindHere, kX11_kindHere, ent, entp, jX11_kindHere, bX11_kindHere_0, bX11_kindHere_1, bX11_kindHere_2, i_aload, i_getf, i_ifeq, i_ifne, i_ireturn, i_jmp, i_ladd, i_lcmp, i_lmul, i_push, msk, lset1, lset2, clr, Value.category, Option.toList, List.cons_append, List.nil_append, List.length_cons, List.length_nil, hN, cvk_6 hO r0, cvk_6 hO r1, gf_eq hO, mg_5, h5, cvk_0 hO rw1, csk_6 sx, se, ec, cvk_6 hO r3, cvk_6 hO r4, cvk_6 hO r5, en]
  by_cases y6 : l = vbW 6
  · rw [vb_at (i := 6) (by decide) (fun m hm => by
      match m, hm with
      | 0, _ => exact y0
      | 1, _ => exact y1
      | 2, _ => exact y2
      | 3, _ => exact y3
      | 4, _ => exact y4
      | 5, _ => exact y5
      | m + 6, hm => omega) y6]
    rw [if_neg y0] at r0
    rw [if_neg y1] at r1
    rw [if_neg y3] at r3
    rw [if_neg y4] at r4
    rw [if_neg y5] at r5
    rw [if_pos y6] at r6
    have ec := cz_n (mt ce.mp y2)
    show _ = some (Sum.inl (some (Value.int (nI 6))), w)
    have en : nI 6 = 6 := rfl
    simp [fX11_kindHere, kX11_kindHere, ent, entp, jX11_kindHere, bX11_kindHere_0, bX11_kindHere_1, bX11_kindHere_2, i_aload, i_getf, i_ifeq, i_ifne, i_ireturn, i_jmp, i_ladd, i_lcmp, i_lmul, i_push, msk, lset1, lset2, clr, Value.category, Option.toList, List.cons_append, List.nil_append, List.length_cons, List.length_nil, hN, cvk_6 hO r0, cvk_6 hO r1, gf_eq hO, mg_5, h5, cvk_0 hO rw1, csk_6 sx, se, ec, cvk_6 hO r3, cvk_6 hO r4, cvk_6 hO r5, cvk_6 hO r6, en]
  rw [vb_no (fun m hm => by
    match m, hm with
    | 0, _ => exact y0
    | 1, _ => exact y1
    | 2, _ => exact y2
    | 3, _ => exact y3
    | 4, _ => exact y4
    | 5, _ => exact y5
    | 6, _ => exact y6
    | m + 7, hm => omega)]
  rw [if_neg y0] at r0
  rw [if_neg y1] at r1
  rw [if_neg y3] at r3
  rw [if_neg y4] at r4
  rw [if_neg y5] at r5
  rw [if_neg y6] at r6
  have ec := cz_n (mt ce.mp y2)
  show _ = some (Sum.inl (some (Value.int (-1))), w)
  simp [fX11_kindHere, kX11_kindHere, ent, entp, jX11_kindHere, bX11_kindHere_0, bX11_kindHere_1, bX11_kindHere_2, i_aload, i_getf, i_ifeq, i_ifne, i_ireturn, i_jmp, i_ladd, i_lcmp, i_lmul, i_push, msk, lset1, lset2, clr, Value.category, Option.toList, List.cons_append, List.nil_append, List.length_cons, List.length_nil, hN, cvk_6 hO r0, cvk_6 hO r1, gf_eq hO, mg_5, h5, cvk_0 hO rw1, csk_6 sx, se, ec, cvk_6 hO r3, cvk_6 hO r4, cvk_6 hO r5, cvk_6 hO r6]
end
