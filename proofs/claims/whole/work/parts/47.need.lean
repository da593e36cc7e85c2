/-! ===== refusals; what a call gives ===== -/
def rng (x : Int32) (n : Nat) : Option Nat := if 0 ≤ x.toInt ∧ x.toInt < (n : Int) then some x.toInt.toNat else none
theorem rng_some {x : Int32} {n j : Nat} (hn : n < 2 ^ 31) (h : rng x n = some j) : j < n ∧ x = nI j := by
  unfold rng at h
  split at h
  · next q =>
    have e : x.toInt.toNat = j := Option.some.inj h
    have e2 : (j : Int) = x.toInt := by omega
    exact ⟨by omega, Int32.toInt_inj.mp (by rw [nI_toInt (by omega), e2])⟩
  · cases h
theorem rng_none {x : Int32} {n : Nat} (hn : n < 2 ^ 31) (h : rng x n = none) : x < 0 ∨ nI n ≤ x := by
  unfold rng at h
  split at h
  · cases h
  · next q =>
    by_cases z : 0 ≤ x.toInt
    · right
      rw [Int32.le_iff_toInt_le, nI_toInt hn]
      omega
    · left
      rw [Int32.lt_iff_toInt_lt, Int32.toInt_zero]
      omega
theorem rng_nI {n j : Nat} (hn : n < 2 ^ 31) (hj : j < n) : rng (nI j) n = some j := by
  unfold rng
  rw [nI_toInt (by omega), if_pos (by omega)]
  simp
abbrev OUT : Type := Value ⊕ (Nat × Nat)
def exn (r : Nat) : String := if r = 0 then "java/lang/IndexOutOfBoundsException" else if r = 1 then "java/util/NoSuchElementException" else "java/lang/IllegalArgumentException"
def rso : OUT → Rs
  | .inl v => .inl (some v)
  | .inr p => .inr (exn p.2)
def cdo : OUT → Int32
  | .inl _ => 0
  | .inr p => nI p.1
def rfb (rf : Nat → Nat) : OUT → Nat → Nat
  | .inl _ => rf
  | .inr p => va_up rf p.2 (rf p.2 + 1)
def thr (w : Mem) (B r : Nat) (rf : Nat → Nat) : Mem := ((wi w 0 (B + 131) r (nI (rf r + 1))).1, w.2.1 + 1, w.2.2 + 6)
section
variable {g : GE} {w : Mem} {B E D D' fed kept : Nat} {fp : Int32} {tp : Nat → Int32} {rf : Nat → Nat} {δ : DE} {τ : TE} {im : Nat → TE} {lev nG : Nat}
theorem CI.up (h : CI g w B E fed kept fp tp rf δ τ im lev nG) {a b : Nat} (ha : w.2.1 ≤ a) : CI g (w.1, a, b) B E fed kept fp tp rf δ τ im lev nG := by
  obtain ⟨D, D', h1, ⟨aM, aS, aG, n1, ⟨fM, fS, k1, k2, k3, ⟨t1, t2, t3, t4, t5, t6, t7, t8, t9, t10, t11⟩, k4⟩, hX⟩, h3, h4, h5⟩ := h
  exact ⟨D, D', h1, ⟨aM, aS, aG, n1, ⟨fM, fS, k1, k2, k3, ⟨t1, t2, t3, t4, t5, t6, Nat.lt_of_lt_of_le t7 ha, Nat.lt_of_lt_of_le t8 ha, Nat.lt_of_lt_of_le t9 ha, t10, Nat.le_trans t11 ha⟩, k4⟩, hX⟩, h3, h4, h5⟩
theorem thr_fa {r : Nat} : FA (fun a => a = B + 131) w (thr w B r rf) := by
  refine ⟨fun a _ h => wi_ne w 0 r _ h, Nat.le_succ _, Nat.le_add_right _ _⟩
theorem ci_thr {r : Nat} (hE : B + 132 ≤ E) (h : CI g w B E fed kept fp tp rf δ τ im lev nG) : CI g (thr w B r rf) B E fed kept fp tp (va_up rf r (rf r + 1)) δ τ im lev nG := by
  have F : Fr (fun a => a = B + 131) w (wi w 0 (B + 131) r (nI (rf r + 1))) := Fr.wi _ _ _ _ rfl
  have h' : CI g (wi w 0 (B + 131) r (nI (rf r + 1))) B E fed kept fp tp (va_up rf r (rf r + 1)) δ τ im lev nG := by
    obtain ⟨D, D', ⟨h1, h2, h3, h4, ⟨δ', h5⟩, ⟨l, a, s, c, d, kk, p, h6⟩, h7, h8, h9, h10⟩, k2, k3, k4, k5⟩ := h
    refine ⟨D, D', ⟨h1, F.at h2 (by omega), h3.fr F (by omega), h4.fr F fun i hi => ?_, ⟨δ', h5.fr F fun i hi => ?_⟩, ⟨l, a, s, c, d, kk, p, F.at h6 (by omega)⟩, (h7.up r (nI (rf r + 1))).cg fun i hi => ?_, h8, h9, h10⟩, k2.fr F (fun i z1 z2 => by omega) (fun a z => by omega), k3.fr F (fun i z1 z2 => by omega), k4.fr F (fun i z1 z2 => by omega), k5.fr F (fun i z1 z2 => by omega)⟩
    · clear h10
      rcases h1 with ⟨e, -⟩ | ⟨e, -⟩ <;> omega
    · clear h10
      rcases h1 with ⟨-, e⟩ | ⟨-, e⟩ <;> omega
    · unfold va_up
      split <;> rfl
  have := h'.up (a := w.2.1 + 1) (b := w.2.2 + 6) (by rw [wi_2]; omega)
  exact this
/-! calls that may throw -/
theorem cxk_1 {F : FT} {ci : Nat} {k : KT} {a : Nat} {x : Value} {r : List Value} {lv : Lv} {w1 : Mem} {fs : List Value} {v : Option Value} (ha : OB w a ci fs) (hF : F g [.ref a, x] w = some (.inl v, w1)) (hr : r.length ≤ 4) : i_cvX F g 1 ci k (x :: .ref a :: r) lv w = k (v.toList ++ r) lv w1 := by
  show (match w.1 a with | some (.inr o) => if o.1 = ci ∧ r.length ≤ 4 then (match F g [.ref a, x] w with | some (.inl v, w1) => k (v.toList ++ r) lv w1 | some (.inr E, w1) => some (.inr E, w1) | none => none) else none | _ => none) = _
  rw [ha]; simp only [hF, hr, and_self, if_true]
theorem cxk_2 {F : FT} {ci : Nat} {k : KT} {a : Nat} {x y : Value} {r : List Value} {lv : Lv} {w1 : Mem} {fs : List Value} {v : Option Value} (ha : OB w a ci fs) (hF : F g [.ref a, x, y] w = some (.inl v, w1)) (hr : r.length ≤ 4) : i_cvX F g 2 ci k (y :: x :: .ref a :: r) lv w = k (v.toList ++ r) lv w1 := by
  show (match w.1 a with | some (.inr o) => if o.1 = ci ∧ r.length ≤ 4 then (match F g [.ref a, x, y] w with | some (.inl v, w1) => k (v.toList ++ r) lv w1 | some (.inr E, w1) => some (.inr E, w1) | none => none) else none | _ => none) = _
  rw [ha]; simp only [hF, hr, and_self, if_true]
theorem cxe_1 {F : FT} {ci : Nat} {k : KT} {a : Nat} {x : Value} {r : List Value} {lv : Lv} {w1 : Mem} {fs : List Value} {e : String} (ha : OB w a ci fs) (hF : F g [.ref a, x] w = some (.inr e, w1)) (hr : r.length ≤ 4) : i_cvX F g 1 ci k (x :: .ref a :: r) lv w = some (.inr e, w1) := by
  show (match w.1 a with | some (.inr o) => if o.1 = ci ∧ r.length ≤ 4 then (match F g [.ref a, x] w with | some (.inl v, w1) => k (v.toList ++ r) lv w1 | some (.inr E, w1) => some (.inr E, w1) | none => none) else none | _ => none) = _
  rw [ha]; simp only [hF, hr, and_self, if_true]
theorem cxe_2 {F : FT} {ci : Nat} {k : KT} {a : Nat} {x y : Value} {r : List Value} {lv : Lv} {w1 : Mem} {fs : List Value} {e : String} (ha : OB w a ci fs) (hF : F g [.ref a, x, y] w = some (.inr e, w1)) (hr : r.length ≤ 4) : i_cvX F g 2 ci k (y :: x :: .ref a :: r) lv w = some (.inr e, w1) := by
  show (match w.1 a with | some (.inr o) => if o.1 = ci ∧ r.length ≤ 4 then (match F g [.ref a, x, y] w with | some (.inl v, w1) => k (v.toList ++ r) lv w1 | some (.inr E, w1) => some (.inr E, w1) | none => none) else none | _ => none) = _
  rw [ha]; simp only [hF, hr, and_self, if_true]
theorem thr_eq {r : Nat} : ((wi w 0 (B + 131) r (nI (rf r + 1))).1, (wi w 0 (B + 131) r (nI (rf r + 1))).2.1 + 1, (wi w 0 (B + 131) r (nI (rf r + 1))).2.2 + 6) = thr w B r rf := by
  unfold thr
  rw [wi_2]
/-- a test passed or not -/
def tst (w : Mem) (B r : Nat) (rf : Nat → Nat) (ok : Bool) : Option (Rs × Mem) := if ok = true then some (.inl none, w) else some (.inr (exn r), thr w B r rf)
theorem needIndex_sp (hg : FU g) (hB : BD w B D D' fed kept fp) (hr : IA w (B + 131) 3 (fun i => nI (rf i))) (x : Int32) {n : Nat} (hn : n < 2 ^ 31) : fX10_needIndex g [.ref B, .int x, .int (nI n)] w = tst w B 0 rf (rng x n).isSome := by
  obtain ⟨N, hN⟩ : ∃ N, g.1 = N + 2 := ⟨g.1 - 2, by omega⟩
  cases h : rng x n with
  | some j =>
    obtain ⟨hj, e⟩ := rng_some hn h
    subst e
    have e1 : ¬ nI j < 0 := nI_pos (by omega)
    have e2 := nI_lt hj hn
    simp [fX10_needIndex, kX10_needIndex, ent, entp, jX10_needIndex, bX10_needIndex_0, bX10_needIndex_1, i_aload, i_dup2, i_getf, i_iadd, i_iaload, i_iastore, i_iclt, i_iflt, i_iload, i_jmp, i_push, i_return, i_throw, msk, lset1, lset2, clr, Value.category, Option.toList, List.cons_append, List.nil_append, List.length_cons, List.length_nil, hN, e1, e2, tst]
  | none =>
    have c0 := hr.rc 0 0 rfl (by decide) (by decide)
    have c1 := fun y => arwc hr 0 0 rfl (by decide) (by decide) y
    have ht := thr_eq (w := w) (B := B) (rf := rf) (r := 0)
    by_cases e1 : x < 0
    · simp [fX10_needIndex, kX10_needIndex, ent, entp, jX10_needIndex, bX10_needIndex_0, bX10_needIndex_1, i_aload, i_dup2, i_getf, i_iadd, i_iaload, i_iastore, i_iclt, i_iflt, i_iload, i_jmp, i_push, i_return, i_throw, msk, lset1, lset2, clr, Value.category, Option.toList, List.cons_append, List.nil_append, List.length_cons, List.length_nil, hN, e1, gf_eq hB, c0, nI_1, c1, tst, exn, ht]
    · have e2 : ¬ x < nI n := by
        rcases rng_none hn h with q | q
        · exact absurd q e1
        · exact Int32.not_lt.mpr q
      simp [fX10_needIndex, kX10_needIndex, ent, entp, jX10_needIndex, bX10_needIndex_0, bX10_needIndex_1, i_aload, i_dup2, i_getf, i_iadd, i_iaload, i_iastore, i_iclt, i_iflt, i_iload, i_jmp, i_push, i_return, i_throw, msk, lset1, lset2, clr, Value.category, Option.toList, List.cons_append, List.nil_append, List.length_cons, List.length_nil, hN, e1, e2, gf_eq hB, c0, nI_1, c1, tst, exn, ht]
theorem needReading_sp (hg : FU g) (hB : BD w B D D' fed kept fp) (hr : IA w (B + 131) 3 (fun i => nI (rf i))) {aM aS aG sz ob : Nat} (hT : TB w (B + 73) aM aS aG D sz ob) (hs : sz < 2 ^ 31) (x : Int32) : fX10_needReading g [.ref B, .int x] w = tst w B 0 rf (rng x sz).isSome := by
  have e := needIndex_sp (x := x) hg hB hr hs
  cases hq : (rng x sz).isSome with
  | true =>
    rw [hq] at e
    simp only [tst, if_true] at e
    simp [fX10_needReading, kX10_needReading, ent, entp, bX10_needReading_0, i_aload, i_getf, i_iload, i_return, msk, lset1, lset2, clr, Value.category, Option.toList, List.cons_append, List.nil_append, List.length_cons, List.length_nil, gf_eq hB, gf_eq hT, cxk_2 hB e, tst]
  | false =>
    rw [hq] at e
    simp only [tst, Bool.false_eq_true, if_false] at e
    simp [fX10_needReading, kX10_needReading, ent, entp, bX10_needReading_0, i_aload, i_getf, i_iload, i_return, msk, lset1, lset2, clr, Value.category, Option.toList, List.cons_append, List.nil_append, List.length_cons, List.length_nil, gf_eq hB, gf_eq hT, cxe_2 hB e, tst]
theorem needHeir_sp (hg : FU g) (hB : BD w B D D' fed kept fp) (hr : IA w (B + 131) 3 (fun i => nI (rf i))) (hD : DEED g w D δ) (hs : δ.1 0 ≤ 4) (x : Int32) : fX10_needHeir g [.ref B, .int x] w = tst w B 0 rf (rng x (δ.1 0)).isSome := by
  have e := needIndex_sp (x := x) (n := δ.1 0) hg hB hr (by omega)
  cases hq : (rng x (δ.1 0)).isSome with
  | true =>
    rw [hq] at e
    simp only [tst, if_true] at e
    simp [fX10_needHeir, kX10_needHeir, ent, entp, bX10_needHeir_0, i_aload, i_getf, i_iload, i_return, msk, lset1, lset2, clr, Value.category, Option.toList, List.cons_append, List.nil_append, List.length_cons, List.length_nil, gf_eq hB, gf_eq hD.1, cxk_2 hB e, tst]
  | false =>
    rw [hq] at e
    simp only [tst, Bool.false_eq_true, if_false] at e
    simp [fX10_needHeir, kX10_needHeir, ent, entp, bX10_needHeir_0, i_aload, i_getf, i_iload, i_return, msk, lset1, lset2, clr, Value.category, Option.toList, List.cons_append, List.nil_append, List.length_cons, List.length_nil, gf_eq hB, gf_eq hD.1, cxe_2 hB e, tst]
theorem needThing_sp (hg : FU g) (hB : BD w B D D' fed kept fp) (hr : IA w (B + 131) 3 (fun i => nI (rf i))) (hD : DEED g w D δ) (hs : δ.1 1 ≤ 5) (x : Int32) : fX10_needThing g [.ref B, .int x] w = tst w B 0 rf (rng x (δ.1 1)).isSome := by
  have e := needIndex_sp (x := x) (n := δ.1 1) hg hB hr (by omega)
  cases hq : (rng x (δ.1 1)).isSome with
  | true =>
    rw [hq] at e
    simp only [tst, if_true] at e
    simp [fX10_needThing, kX10_needThing, ent, entp, bX10_needThing_0, i_aload, i_getf, i_iload, i_return, msk, lset1, lset2, clr, Value.category, Option.toList, List.cons_append, List.nil_append, List.length_cons, List.length_nil, gf_eq hB, gf_eq hD.1, cxk_2 hB e, tst]
  | false =>
    rw [hq] at e
    simp only [tst, Bool.false_eq_true, if_false] at e
    simp [fX10_needThing, kX10_needThing, ent, entp, bX10_needThing_0, i_aload, i_getf, i_iload, i_return, msk, lset1, lset2, clr, Value.category, Option.toList, List.cons_append, List.nil_append, List.length_cons, List.length_nil, gf_eq hB, gf_eq hD.1, cxe_2 hB e, tst]
theorem needBlot_sp (hg : FU g) (hB : BD w B D D' fed kept fp) (hr : IA w (B + 131) 3 (fun i => nI (rf i))) (hD : DEED g w D δ) (hs : δ.1 3 ≤ 8) (x : Int32) : fX10_needBlot g [.ref B, .int x] w = tst w B 1 rf (rng x (δ.1 3)).isSome := by
  obtain ⟨N, hN⟩ : ∃ N, g.1 = N + 2 := ⟨g.1 - 2, by omega⟩
  have hn : δ.1 3 < 2 ^ 31 := by omega
  cases h : rng x (δ.1 3) with
  | some j =>
    obtain ⟨hj, e⟩ := rng_some hn h
    subst e
    have e1 : ¬ nI j < 0 := nI_pos (by omega)
    have e2 := nI_lt hj hn
    simp [fX10_needBlot, kX10_needBlot, ent, entp, jX10_needBlot, bX10_needBlot_0, bX10_needBlot_1, i_aload, i_dup2, i_getf, i_iadd, i_iaload, i_iastore, i_iclt, i_iflt, i_iload, i_jmp, i_push, i_return, i_throw, msk, lset1, lset2, clr, Value.category, Option.toList, List.cons_append, List.nil_append, List.length_cons, List.length_nil, hN, gf_eq hB, gf_eq hD.1, e1, e2, tst]
  | none =>
    have c0 := hr.rc 1 1 rfl (by decide) (by decide)
    have c1 := fun y => arwc hr 1 1 rfl (by decide) (by decide) y
    have ht := thr_eq (w := w) (B := B) (rf := rf) (r := 1)
    by_cases e1 : x < 0
    · simp [fX10_needBlot, kX10_needBlot, ent, entp, jX10_needBlot, bX10_needBlot_0, bX10_needBlot_1, i_aload, i_dup2, i_getf, i_iadd, i_iaload, i_iastore, i_iclt, i_iflt, i_iload, i_jmp, i_push, i_return, i_throw, msk, lset1, lset2, clr, Value.category, Option.toList, List.cons_append, List.nil_append, List.length_cons, List.length_nil, hN, e1, gf_eq hB, c0, nI_1, c1, tst, exn, ht]
    · have e2 : ¬ x < nI (δ.1 3) := by
        rcases rng_none hn h with q | q
        · exact absurd q e1
        · exact Int32.not_lt.mpr q
      simp [fX10_needBlot, kX10_needBlot, ent, entp, jX10_needBlot, bX10_needBlot_0, bX10_needBlot_1, i_aload, i_dup2, i_getf, i_iadd, i_iaload, i_iastore, i_iclt, i_iflt, i_iload, i_jmp, i_push, i_return, i_throw, msk, lset1, lset2, clr, Value.category, Option.toList, List.cons_append, List.nil_append, List.length_cons, List.length_nil, hN, e1, e2, gf_eq hB, gf_eq hD.1, c0, nI_1, c1, tst, exn, ht]
theorem needArgument_sp (hB : BD w B D D' fed kept fp) (hr : IA w (B + 131) 3 (fun i => nI (rf i))) (ok : Bool) : fX10_needArgument g [.ref B, .int (if ok = true then 1 else 0)] w = tst w B 2 rf ok := by
  have c0 := hr.rc 2 2 rfl (by decide) (by decide)
  have c1 := fun y => arwc hr 2 2 rfl (by decide) (by decide) y
  have ht := thr_eq (w := w) (B := B) (rf := rf) (r := 2)
  cases ok with
  | true => simp [fX10_needArgument, kX10_needArgument, ent, entp, bX10_needArgument_0, i_aload, i_dup2, i_getf, i_iadd, i_iaload, i_iastore, i_ifne, i_iload, i_push, i_return, i_throw, msk, lset1, lset2, clr, Value.category, Option.toList, List.cons_append, List.nil_append, List.length_cons, List.length_nil, tst]
  | false => simp [fX10_needArgument, kX10_needArgument, ent, entp, bX10_needArgument_0, i_aload, i_dup2, i_getf, i_iadd, i_iaload, i_iastore, i_ifne, i_iload, i_push, i_return, i_throw, msk, lset1, lset2, clr, Value.category, Option.toList, List.cons_append, List.nil_append, List.length_cons, List.length_nil, gf_eq hB, c0, nI_1, c1, tst, exn, ht]
theorem needWhat_sp (hg : FU g) (hB : BD w B D D' fed kept fp) (hr : IA w (B + 131) 3 (fun i => nI (rf i))) (x : Int32) {n : Nat} {y : Int32} (hy : nI n = y) (hn : n < 1000) : fX10_needWhat g [.ref B, .int x, .int y] w = tst w B 2 rf (rng x (n + 1)).isSome := by
  obtain ⟨N, hN⟩ : ∃ N, g.1 = N + 3 := ⟨g.1 - 3, by omega⟩
  subst hy
  have e9 := needArgument_sp (g := g) hB hr (rng x (n + 1)).isSome
  cases h : rng x (n + 1) with
  | some j =>
    rw [h] at e9
    simp only [Option.isSome, tst, if_true] at e9
    obtain ⟨hj, e⟩ := rng_some (by omega) h
    subst e
    have e1 : ¬ nI j < 0 := nI_pos (by omega)
    have e2 := nI_nlt (a := n) (b := j) (by omega) (by omega)
    simp [fX10_needWhat, kX10_needWhat, ent, entp, jX10_needWhat, bX10_needWhat_0, bX10_needWhat_1, bX10_needWhat_2, i_aload, i_icgt, i_iflt, i_iload, i_jmp, i_push, i_return, msk, lset1, lset2, clr, Value.category, Option.toList, List.cons_append, List.nil_append, List.length_cons, List.length_nil, hN, e1, e2, cxk_1 hB e9, tst]
  | none =>
    rw [h] at e9
    simp only [Option.isSome, tst, Bool.false_eq_true, if_false] at e9
    by_cases e1 : x < 0
    · simp [fX10_needWhat, kX10_needWhat, ent, entp, jX10_needWhat, bX10_needWhat_0, bX10_needWhat_1, bX10_needWhat_2, i_aload, i_icgt, i_iflt, i_iload, i_jmp, i_push, i_return, msk, lset1, lset2, clr, Value.category, Option.toList, List.cons_append, List.nil_append, List.length_cons, List.length_nil, hN, e1, cxe_1 hB e9, tst]
    · have e2 : nI n < x := by
        rcases rng_none (by omega) h with q | q
        · exact absurd q e1
        · exact Int32.lt_of_lt_of_le (nI_lt (by omega) (by omega)) q
      simp [fX10_needWhat, kX10_needWhat, ent, entp, jX10_needWhat, bX10_needWhat_0, bX10_needWhat_1, bX10_needWhat_2, i_aload, i_icgt, i_iflt, i_iload, i_jmp, i_push, i_return, msk, lset1, lset2, clr, Value.category, Option.toList, List.cons_append, List.nil_append, List.length_cons, List.length_nil, hN, e1, e2, cxe_1 hB e9, tst]
end
