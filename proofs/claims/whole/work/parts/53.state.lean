/-! ===== calls that change what is kept ===== -/
abbrev SG : Type := Nat × Nat × Int32 × (Nat → Int32) × (Nat → Nat) × DE × TE × (Nat → TE)
def CIS (g : GE) (w : Mem) (B E : Nat) (s : SG) (lev nG : Nat) : Prop := CI g w B E s.1 s.2.1 s.2.2.1 s.2.2.2.1 s.2.2.2.2.1 s.2.2.2.2.2.1 s.2.2.2.2.2.2.1 s.2.2.2.2.2.2.2 lev nG
def RIS (w : Mem) (M : Nat) (s : SG) (x : Nat → Int32) : Prop := RI w M s.1 s.2.1 s.2.2.1 s.2.2.2.1 s.2.2.2.2.1 s.2.2.2.2.2.1 s.2.2.2.2.2.2.1 s.2.2.2.2.2.2.2 x
def rwS (s : SG) : Nat := s.2.2.2.2.2.1.1 6
def CZ (g : GE) (w : Mem) (B E : Nat) (s : SG) (lev nG : Nat) (res : Option (Rs × Mem)) (o : OUT) (s' : SG) : Prop :=
  ∃ w' lev' nG', res = some (rso o, w') ∧ CIS g w' B E s' lev' nG' ∧ FA (CF B E) w w' ∧ RM w w' lev lev' (ge1 nG (rwS s)) (ge1 nG' (rwS s'))
def RZo (w : Mem) (M : Nat) (res : Option (Rs × Mem)) (o : OUT) (s' : SG) : Prop :=
  ∃ w' v x', res = some (.inl (some v), w') ∧ RIS w' M s' x' ∧ x' 0 = cdo o ∧ (∀ u, o = .inl u → v = u) ∧ Fr (rg M (M + 179)) w w'
/-- copies and habits in their bounds -/
def TV (δ : DE) (τ : TE) : Prop := τ.1 0 ≤ 12 ∧ τ.1 1 ≤ 8 ∧ (∀ k, k < τ.1 0 → τ.2 0 k < 4 ∧ τ.2 1 k < δ.1 3 ∧ τ.2 2 k < 100) ∧ (∀ k, k < τ.1 1 → τ.2 3 k < 4 ∧ τ.2 4 k < 100 ∧ τ.2 5 k < 100 ∧ 1 ≤ τ.2 6 k ∧ τ.2 6 k ≤ 15 ∧ τ.2 4 k ≠ τ.2 5 k)
def GI (s : SG) : Prop := TV s.2.2.2.2.2.1 s.2.2.2.2.2.2.1 ∧ ∀ i, i < s.2.1 → TV s.2.2.2.2.2.1 (s.2.2.2.2.2.2.2 i)
theorem cvk_4 {F : FT} {g : GE} {ci : Nat} {k : KT} {a : Nat} {x y z u : Value} {r : List Value} {lv : Lv} {w w1 : Mem} {fs : List Value} {v : Option Value} (ha : OB w a ci fs) (hF : F g [.ref a, x, y, z, u] w = some (.inl v, w1)) (hr : r.length ≤ 4) : i_cv F g 4 ci k (u :: z :: y :: x :: .ref a :: r) lv w = k (v.toList ++ r) lv w1 := by
  show (match w.1 a with | some (.inr o) => if o.1 = ci ∧ r.length ≤ 4 then (match F g [.ref a, x, y, z, u] w with | some (.inl v, w1) => k (v.toList ++ r) lv w1 | _ => none) else none | _ => none) = _
  rw [ha]; simp only [hF, hr, and_self, if_true]
section
variable {g : GE} {w w' : Mem} {B E fed kept fed' kept' : Nat} {fp fp' : Int32} {tp tp' : Nat → Int32} {rf : Nat → Nat} {δ : DE} {τ τ' : TE} {im im' : Nat → TE} {lev nG : Nat}
theorem CI.te (hE : B + 132 ≤ E) (h : CI g w B E fed kept fp tp rf δ τ im lev nG) (k : Fr (rg (B + 98) (B + 131)) w w') (hM : CM w' B τ' im') : CI g w' B E fed kept fp tp rf δ τ' im' lev nG := by
  obtain ⟨D, D', h1, h2, h3, h4, h5⟩ := h
  exact ⟨D, D', h1.fr k (fun i hi => by unfold rg; omega) (by unfold rg; omega), h2.fr k (fun i h1 h2 => by unfold rg; omega) (fun a ha => by unfold rg; omega), h3.fr k (fun i h1 h2 => by unfold rg; omega), h4.fr k (fun i h1 h2 => by unfold rg; omega), hM⟩
theorem CI.bd (hE : B + 132 ≤ E) (h : CI g w B E fed kept fp tp rf δ τ im lev nG) (k : Fr (fun a => a = B ∨ a = B + 1) w w') (hB : ∀ D D', BD w B D D' fed kept fp → BD w' B D D' fed' kept' fp') (hT : IA w' (B + 1) 600 tp') (hf : fed' ≤ 600) (hk : kept' ≤ 3) : CI g w' B E fed' kept' fp' tp' rf δ τ im lev nG := by
  obtain ⟨D, D', ⟨h1, h2, h3, h4, ⟨δ', h5⟩, ⟨l, a, s, c, d, kk, p, h6⟩, h7, h8, h9, h10⟩, k2, k3, k4, k5⟩ := h
  refine ⟨D, D', ⟨h1, hB _ _ h2, hT, h4.fr k fun i hi => ?_, ⟨δ', h5.fr k fun i hi => ?_⟩, ⟨l, a, s, c, d, kk, p, k.at h6 (by omega)⟩, h7.fr k (by omega), h8, hf, hk⟩, k2.fr k (fun i z1 z2 => by omega) (fun a z => by omega), k3.fr k (fun i z1 z2 => by omega), k4.fr k (fun i z1 z2 => by omega), k5.fr k (fun i z1 z2 => by omega)⟩
  · clear h10
    rcases h1 with ⟨e, -⟩ | ⟨e, -⟩ <;> omega
  · clear h10
    rcases h1 with ⟨-, e⟩ | ⟨-, e⟩ <;> omega
end
theorem TS.ob {w : Mem} {a : Nat} {τ : TE} (h : TS w a τ) (c d : Nat) : TS (mset w a (.inr (8, [.ref (a + 1), .ref (a + 2), .ref (a + 3), .ref (a + 4), .ref (a + 5), .ref (a + 6), .ref (a + 7), .int (nI c), .int (nI d)]))) a (va_up (va_up τ.1 0 c) 1 d, τ.2) :=
  ⟨ms_at _ _ _, fun k hk => (h.2.1 k hk).ms (by omega), fun k hk => (h.2.2 k hk).ms (by omega)⟩
def tcp (τ : TE) (h b t : Nat) : TE := (va_up τ.1 0 (τ.1 0 + 1), fun k i => if i = τ.1 0 then (if k = 0 then h else if k = 1 then b else if k = 2 then t else τ.2 k i) else τ.2 k i)
def thb (τ : TE) (h x y p : Nat) : TE := (va_up τ.1 1 (τ.1 1 + 1), fun k i => if i = τ.1 1 then (if k = 3 then h else if k = 4 then x else if k = 5 then y else if k = 6 then p else τ.2 k i) else τ.2 k i)
theorem clear_sp {g : GE} {w : Mem} {a : Nat} {τ : TE} (h : TS w a τ) : ∃ w', fX8_clear g [.ref a] w = some (.inl none, w') ∧ TS w' a (va_up (va_up τ.1 0 0) 1 0, τ.2) ∧ Fr (fun q => q = a) w w' := by
  have h1 := h.ob 0 (τ.1 1)
  obtain ⟨w1, hw1⟩ : ∃ z, mset w a (.inr (8, [.ref (a + 1), .ref (a + 2), .ref (a + 3), .ref (a + 4), .ref (a + 5), .ref (a + 6), .ref (a + 7), .int (nI 0), .int (nI (τ.1 1))])) = z := ⟨_, rfl⟩
  rw [hw1] at h1
  have h2 := h1.ob 0 0
  obtain ⟨w2, hw2⟩ : ∃ z, mset w1 a (.inr (8, [.ref (a + 1), .ref (a + 2), .ref (a + 3), .ref (a + 4), .ref (a + 5), .ref (a + 6), .ref (a + 7), .int (nI 0), .int (nI 0)])) = z := ⟨_, rfl⟩
  rw [hw2] at h2
  have e1 : va_up (va_up τ.1 0 0) 1 (τ.1 1) 1 = τ.1 1 := va_up_self _ _ _
  have o1 : OB w1 a 8 [.ref (a + 1), .ref (a + 2), .ref (a + 3), .ref (a + 4), .ref (a + 5), .ref (a + 6), .ref (a + 7), .int (nI 0), .int (nI (τ.1 1))] := hw1 ▸ ms_at _ _ _
  have F1 : Fr (fun q => q = a) w w1 := hw1 ▸ Fr.ms w _ rfl
  have F2 : Fr (fun q => q = a) w1 w2 := hw2 ▸ Fr.ms w1 _ rfl
  refine ⟨w2, ?_, ⟨hw2 ▸ ms_at _ _ _, h2.2.1, h2.2.2⟩, F1.tr F2⟩
  rw [nI_0] at hw1 o1 hw2
  simp [fX8_clear, kX8_clear, ent, entp, bX8_clear_0, i_aload, i_push, i_putf, i_return, msk, lset1, lset2, clr, Value.category, Option.toList, List.cons_append, List.nil_append, List.length_cons, List.length_nil, sf_i h.1, hw1, sf_i o1, hw2]
theorem addCopy_sp {g : GE} {w : Mem} {a : Nat} {τ : TE} (h : TS w a τ) (hc : τ.1 0 < 12) (ha b t : Nat) : ∃ w', fX8_addCopy g [.ref a, .int (nI ha), .int (nI b), .int (nI t)] w = some (.inl (some (.int (nI (τ.1 0 + 1)))), w') ∧ TS w' a (tcp τ ha b t) ∧ Fr (rg a (a + 8)) w w' := by
  obtain ⟨c, hcc⟩ : ∃ c, τ.1 0 = c := ⟨_, rfl⟩
  have o0 := h.1
  rw [hcc] at hc
  have a0 := h.2.1 0 (by decide)
  have a1 := h.2.1 1 (by decide)
  have a2 := h.2.1 2 (by decide)
  obtain ⟨w1, hw1⟩ : ∃ z, wi w 0 (a + 1 + 0) c (nI ha) = z := ⟨_, rfl⟩
  have F0 : Fr (fun q => q = a + 1 + 0) w w1 := hw1 ▸ Fr.wi _ _ _ _ rfl
  have o1 := F0.at o0 (by omega)
  have a0 := a0.up c (nI ha)
  rw [hw1] at a0
  have a1 := a1.fr F0 (by omega)
  have a2 := a2.fr F0 (by omega)
  obtain ⟨w2, hw2⟩ : ∃ z, wi w1 0 (a + 1 + 1) c (nI b) = z := ⟨_, rfl⟩
  have F1 : Fr (fun q => q = a + 1 + 1) w1 w2 := hw2 ▸ Fr.wi _ _ _ _ rfl
  have o2 := F1.at o1 (by omega)
  have a1 := a1.up c (nI b)
  rw [hw2] at a1
  have a2 := a2.fr F1 (by omega)
  have a0 := a0.fr F1 (by omega)
  obtain ⟨w3, hw3⟩ : ∃ z, wi w2 0 (a + 1 + 2) c (nI t) = z := ⟨_, rfl⟩
  have F2 : Fr (fun q => q = a + 1 + 2) w2 w3 := hw3 ▸ Fr.wi _ _ _ _ rfl
  have o3 := F2.at o2 (by omega)
  have a2 := a2.up c (nI t)
  rw [hw3] at a2
  have a0 := a0.fr F2 (by omega)
  have a1 := a1.fr F2 (by omega)
  obtain ⟨w9, hw9⟩ : ∃ z, mset w3 a (.inr (8, [.ref (a + 1), .ref (a + 2), .ref (a + 3), .ref (a + 4), .ref (a + 5), .ref (a + 6), .ref (a + 7), .int (nI (c + 1)), .int (nI (τ.1 1))])) = z := ⟨_, rfl⟩
  have F9 : Fr (fun q => q = a) w3 w9 := hw9 ▸ Fr.ms _ _ rfl
  have o9 : OB w9 a 8 [.ref (a + 1), .ref (a + 2), .ref (a + 3), .ref (a + 4), .ref (a + 5), .ref (a + 6), .ref (a + 7), .int (nI (c + 1)), .int (nI (τ.1 1))] := hw9 ▸ ms_at _ _ _
  have FF : Fr (rg a (a + 8)) w w9 := ((((F0.mn fun q hq => by subst hq; unfold rg; omega).tr (F1.mn fun q hq => by subst hq; unfold rg; omega)).tr (F2.mn fun q hq => by subst hq; unfold rg; omega)).tr (F9.mn fun q hq => by subst hq; unfold rg; omega))
  have FF2 : Fr (fun q => q = a ∨ q = a + 1 + 0 ∨ q = a + 1 + 1 ∨ q = a + 1 + 2) w w9 := ((((F0.mn fun q hq => by omega).tr (F1.mn fun q hq => by omega)).tr (F2.mn fun q hq => by omega)).tr (F9.mn fun q hq => by omega))
  refine ⟨w9, ?_, ⟨?_, fun k hk => ?_, fun k hk => ?_⟩, FF⟩
  · have b0 := h.2.1 0 (by decide)
    have b1 := (h.2.1 1 (by decide)).fr F0 (by omega)
    have b2 := ((h.2.1 2 (by decide)).fr F0 (by omega)).fr F1 (by omega)
    rw [hcc] at o0 o1 o2 o3
    simp [fX8_addCopy, kX8_addCopy, ent, entp, bX8_addCopy_0, i_aload, i_dup, i_getf, i_iadd, i_iastore, i_iclt, i_iload, i_ireturn, i_push, i_putf, msk, lset1, lset2, clr, Value.category, Option.toList, List.cons_append, List.nil_append, List.length_cons, List.length_nil, gf_eq o0, hcc, (show ¬ (12 : Int32) ≤ nI c from nI_ge hc (by decide)), (show nI c < 12 from nI_lt hc (by decide)), gf_eq o1, b0.wr hc (by decide), hw1, gf_eq o2, b1.wr hc (by decide), hw2, gf_eq o3, b2.wr hc (by decide), hw3, nI_1, sf_i o3, hw9, gf_eq o9]
  · rw [← hcc] at o9
    exact o9
  · have : k = 0 ∨ k = 1 ∨ k = 2 := by omega
    rcases this with q | q | q <;> subst q
    · refine (a0.fr F9 (by omega)).cg fun i hi => ?_
      simp only [tcp, hcc, va_up]
      by_cases q : i = c <;> simp [q]
    · refine (a1.fr F9 (by omega)).cg fun i hi => ?_
      simp only [tcp, hcc, va_up]
      by_cases q : i = c <;> simp [q]
    · refine (a2.fr F9 (by omega)).cg fun i hi => ?_
      simp only [tcp, hcc, va_up]
      by_cases q : i = c <;> simp [q]
  · refine ((h.2.2 k hk).fr FF2 (by omega)).cg fun i hi => ?_
    simp only [tcp]
    split
    · rw [if_neg (by omega), if_neg (by omega), if_neg (by omega)]
    · rfl
theorem addHabit_sp {g : GE} {w : Mem} {a : Nat} {τ : TE} (h : TS w a τ) (hc : τ.1 1 < 8) (ha x y p : Nat) : ∃ w', fX8_addHabit g [.ref a, .int (nI ha), .int (nI x), .int (nI y), .int (nI p)] w = some (.inl (some (.int (nI (τ.1 1 + 1)))), w') ∧ TS w' a (thb τ ha x y p) ∧ Fr (rg a (a + 8)) w w' := by
  obtain ⟨c, hcc⟩ : ∃ c, τ.1 1 = c := ⟨_, rfl⟩
  have o0 := h.1
  rw [hcc] at hc
  have a0 := h.2.2 0 (by decide)
  have a1 := h.2.2 1 (by decide)
  have a2 := h.2.2 2 (by decide)
  have a3 := h.2.2 3 (by decide)
  obtain ⟨w1, hw1⟩ : ∃ z, wi w 0 (a + 4 + 0) c (nI ha) = z := ⟨_, rfl⟩
  have F0 : Fr (fun q => q = a + 4 + 0) w w1 := hw1 ▸ Fr.wi _ _ _ _ rfl
  have o1 := F0.at o0 (by omega)
  have a0 := a0.up c (nI ha)
  rw [hw1] at a0
  have a1 := a1.fr F0 (by omega)
  have a2 := a2.fr F0 (by omega)
  have a3 := a3.fr F0 (by omega)
  obtain ⟨w2, hw2⟩ : ∃ z, wi w1 0 (a + 4 + 1) c (nI x) = z := ⟨_, rfl⟩
  have F1 : Fr (fun q => q = a + 4 + 1) w1 w2 := hw2 ▸ Fr.wi _ _ _ _ rfl
  have o2 := F1.at o1 (by omega)
  have a1 := a1.up c (nI x)
  rw [hw2] at a1
  have a2 := a2.fr F1 (by omega)
  have a3 := a3.fr F1 (by omega)
  have a0 := a0.fr F1 (by omega)
  obtain ⟨w3, hw3⟩ : ∃ z, wi w2 0 (a + 4 + 2) c (nI y) = z := ⟨_, rfl⟩
  have F2 : Fr (fun q => q = a + 4 + 2) w2 w3 := hw3 ▸ Fr.wi _ _ _ _ rfl
  have o3 := F2.at o2 (by omega)
  have a2 := a2.up c (nI y)
  rw [hw3] at a2
  have a3 := a3.fr F2 (by omega)
  have a0 := a0.fr F2 (by omega)
  have a1 := a1.fr F2 (by omega)
  obtain ⟨w4, hw4⟩ : ∃ z, wi w3 0 (a + 4 + 3) c (nI p) = z := ⟨_, rfl⟩
  have F3 : Fr (fun q => q = a + 4 + 3) w3 w4 := hw4 ▸ Fr.wi _ _ _ _ rfl
  have o4 := F3.at o3 (by omega)
  have a3 := a3.up c (nI p)
  rw [hw4] at a3
  have a0 := a0.fr F3 (by omega)
  have a1 := a1.fr F3 (by omega)
  have a2 := a2.fr F3 (by omega)
  obtain ⟨w9, hw9⟩ : ∃ z, mset w4 a (.inr (8, [.ref (a + 1), .ref (a + 2), .ref (a + 3), .ref (a + 4), .ref (a + 5), .ref (a + 6), .ref (a + 7), .int (nI (τ.1 0)), .int (nI (c + 1))])) = z := ⟨_, rfl⟩
  have F9 : Fr (fun q => q = a) w4 w9 := hw9 ▸ Fr.ms _ _ rfl
  have o9 : OB w9 a 8 [.ref (a + 1), .ref (a + 2), .ref (a + 3), .ref (a + 4), .ref (a + 5), .ref (a + 6), .ref (a + 7), .int (nI (τ.1 0)), .int (nI (c + 1))] := hw9 ▸ ms_at _ _ _
  have FF : Fr (rg a (a + 8)) w w9 := (((((F0.mn fun q hq => by subst hq; unfold rg; omega).tr (F1.mn fun q hq => by subst hq; unfold rg; omega)).tr (F2.mn fun q hq => by subst hq; unfold rg; omega)).tr (F3.mn fun q hq => by subst hq; unfold rg; omega)).tr (F9.mn fun q hq => by subst hq; unfold rg; omega))
  have FF2 : Fr (fun q => q = a ∨ q = a + 4 + 0 ∨ q = a + 4 + 1 ∨ q = a + 4 + 2 ∨ q = a + 4 + 3) w w9 := (((((F0.mn fun q hq => by omega).tr (F1.mn fun q hq => by omega)).tr (F2.mn fun q hq => by omega)).tr (F3.mn fun q hq => by omega)).tr (F9.mn fun q hq => by omega))
  refine ⟨w9, ?_, ⟨?_, fun k hk => ?_, fun k hk => ?_⟩, FF⟩
  · have b0 := h.2.2 0 (by decide)
    have b1 := (h.2.2 1 (by decide)).fr F0 (by omega)
    have b2 := ((h.2.2 2 (by decide)).fr F0 (by omega)).fr F1 (by omega)
    have b3 := (((h.2.2 3 (by decide)).fr F0 (by omega)).fr F1 (by omega)).fr F2 (by omega)
    rw [hcc] at o0 o1 o2 o3 o4
    simp [fX8_addHabit, kX8_addHabit, ent, entp, bX8_addHabit_0, i_aload, i_dup, i_getf, i_iadd, i_iastore, i_iclt, i_iload, i_ireturn, i_push, i_putf, msk, lset1, lset2, clr, Value.category, Option.toList, List.cons_append, List.nil_append, List.length_cons, List.length_nil, gf_eq o0, hcc, (show ¬ (8 : Int32) ≤ nI c from nI_ge hc (by decide)), (show nI c < 8 from nI_lt hc (by decide)), gf_eq o1, b0.wr hc (by decide), hw1, gf_eq o2, b1.wr hc (by decide), hw2, gf_eq o3, b2.wr hc (by decide), hw3, gf_eq o4, b3.wr hc (by decide), hw4, nI_1, sf_i o4, hw9, gf_eq o9]
  · rw [← hcc] at o9
    exact o9
  · refine ((h.2.1 k hk).fr FF2 (by omega)).cg fun i hi => ?_
    simp only [thb]
    split
    · rw [if_neg (by omega), if_neg (by omega), if_neg (by omega), if_neg (by omega)]
    · rfl
  · have : k = 0 ∨ k = 1 ∨ k = 2 ∨ k = 3 := by omega
    rcases this with q | q | q | q <;> subst q
    · refine (a0.fr F9 (by omega)).cg fun i hi => ?_
      simp only [thb, hcc, va_up]
      by_cases q : i = c <;> simp [q]
    · refine (a1.fr F9 (by omega)).cg fun i hi => ?_
      simp only [thb, hcc, va_up]
      by_cases q : i = c <;> simp [q]
    · refine (a2.fr F9 (by omega)).cg fun i hi => ?_
      simp only [thb, hcc, va_up]
      by_cases q : i = c <;> simp [q]
    · refine (a3.fr F9 (by omega)).cg fun i hi => ?_
      simp only [thb, hcc, va_up]
      by_cases q : i = c <;> simp [q]
theorem takeFrom_sp {g : GE} {w : Mem} {a b : Nat} {τ σ : TE} (h : TS w a τ) (k : TS w b σ) (hab : a + 8 ≤ b ∨ b + 8 ≤ a) : ∃ w', fX8_takeFrom g [.ref a, .ref b] w = some (.inl none, w') ∧ TS w' a σ ∧ Fr (rg a (a + 8)) w w' := by
  have nb : ∀ i, i < 8 → ¬ rg a (a + 8) (b + i) := fun i hi => by unfold rg; omega
  have h1 := h.ob (σ.1 0) (τ.1 1)
  obtain ⟨w1, hw1⟩ : ∃ z, mset w a (.inr (8, [.ref (a + 1), .ref (a + 2), .ref (a + 3), .ref (a + 4), .ref (a + 5), .ref (a + 6), .ref (a + 7), .int (nI (σ.1 0)), .int (nI (τ.1 1))])) = z := ⟨_, rfl⟩
  rw [hw1] at h1
  have G1 : Fr (rg a (a + 8)) w w1 := hw1 ▸ Fr.ms w _ (by unfold rg; omega)
  have k1 := k.fr G1 nb
  have h2 := h1.ob (σ.1 0) (σ.1 1)
  have o1 : OB w1 a 8 [.ref (a + 1), .ref (a + 2), .ref (a + 3), .ref (a + 4), .ref (a + 5), .ref (a + 6), .ref (a + 7), .int (nI (σ.1 0)), .int (nI (τ.1 1))] := hw1 ▸ ms_at _ _ _
  obtain ⟨w2, hw2⟩ : ∃ z, mset w1 a (.inr (8, [.ref (a + 1), .ref (a + 2), .ref (a + 3), .ref (a + 4), .ref (a + 5), .ref (a + 6), .ref (a + 7), .int (nI (σ.1 0)), .int (nI (σ.1 1))])) = z := ⟨_, rfl⟩
  rw [hw2] at h2
  have G2 : Fr (rg a (a + 8)) w1 w2 := hw2 ▸ Fr.ms w1 _ (by unfold rg; omega)
  have k2 := k1.fr G2 nb
  have o2 : OB w2 a 8 [.ref (a + 1), .ref (a + 2), .ref (a + 3), .ref (a + 4), .ref (a + 5), .ref (a + 6), .ref (a + 7), .int (nI (σ.1 0)), .int (nI (σ.1 1))] := hw2 ▸ ms_at _ _ _
  have c0 := h2.2.1 0 (by decide)
  have c1 := h2.2.1 1 (by decide)
  have c2 := h2.2.1 2 (by decide)
  have c3 := h2.2.2 0 (by decide)
  have c4 := h2.2.2 1 (by decide)
  have c5 := h2.2.2 2 (by decide)
  have c6 := h2.2.2 3 (by decide)
  have g0 := k2.2.1 0 (by decide)
  obtain ⟨w3, e0, u0, F0⟩ := cpi_sp (n := 12) g0 c0 (by decide) (by decide) (by decide)
  have G3 : Fr (rg a (a + 8)) w2 w3 := F0.mn fun z hz => by subst hz; unfold rg; omega
  have k3 := k2.fr G3 nb
  have o3 := F0.at o2 (by omega)
  have c1 := c1.fr F0 (by omega)
  have c2 := c2.fr F0 (by omega)
  have c3 := c3.fr F0 (by omega)
  have c4 := c4.fr F0 (by omega)
  have c5 := c5.fr F0 (by omega)
  have c6 := c6.fr F0 (by omega)
  have g1 := k3.2.1 1 (by decide)
  obtain ⟨w4, e1, u1, F1⟩ := cpi_sp (n := 12) g1 c1 (by decide) (by decide) (by decide)
  have G4 : Fr (rg a (a + 8)) w3 w4 := F1.mn fun z hz => by subst hz; unfold rg; omega
  have k4 := k3.fr G4 nb
  have o4 := F1.at o3 (by omega)
  have u0 := u0.fr F1 (by omega)
  have c2 := c2.fr F1 (by omega)
  have c3 := c3.fr F1 (by omega)
  have c4 := c4.fr F1 (by omega)
  have c5 := c5.fr F1 (by omega)
  have c6 := c6.fr F1 (by omega)
  have g2 := k4.2.1 2 (by decide)
  obtain ⟨w5, e2, u2, F2⟩ := cpi_sp (n := 12) g2 c2 (by decide) (by decide) (by decide)
  have G5 : Fr (rg a (a + 8)) w4 w5 := F2.mn fun z hz => by subst hz; unfold rg; omega
  have k5 := k4.fr G5 nb
  have o5 := F2.at o4 (by omega)
  have u0 := u0.fr F2 (by omega)
  have u1 := u1.fr F2 (by omega)
  have c3 := c3.fr F2 (by omega)
  have c4 := c4.fr F2 (by omega)
  have c5 := c5.fr F2 (by omega)
  have c6 := c6.fr F2 (by omega)
  have g3 := k5.2.2 0 (by decide)
  obtain ⟨w6, e3, u3, F3⟩ := cpi_sp (n := 8) g3 c3 (by decide) (by decide) (by decide)
  have G6 : Fr (rg a (a + 8)) w5 w6 := F3.mn fun z hz => by subst hz; unfold rg; omega
  have k6 := k5.fr G6 nb
  have o6 := F3.at o5 (by omega)
  have u0 := u0.fr F3 (by omega)
  have u1 := u1.fr F3 (by omega)
  have u2 := u2.fr F3 (by omega)
  have c4 := c4.fr F3 (by omega)
  have c5 := c5.fr F3 (by omega)
  have c6 := c6.fr F3 (by omega)
  have g4 := k6.2.2 1 (by decide)
  obtain ⟨w7, e4, u4, F4⟩ := cpi_sp (n := 8) g4 c4 (by decide) (by decide) (by decide)
  have G7 : Fr (rg a (a + 8)) w6 w7 := F4.mn fun z hz => by subst hz; unfold rg; omega
  have k7 := k6.fr G7 nb
  have o7 := F4.at o6 (by omega)
  have u0 := u0.fr F4 (by omega)
  have u1 := u1.fr F4 (by omega)
  have u2 := u2.fr F4 (by omega)
  have u3 := u3.fr F4 (by omega)
  have c5 := c5.fr F4 (by omega)
  have c6 := c6.fr F4 (by omega)
  have g5 := k7.2.2 2 (by decide)
  obtain ⟨w8, e5, u5, F5⟩ := cpi_sp (n := 8) g5 c5 (by decide) (by decide) (by decide)
  have G8 : Fr (rg a (a + 8)) w7 w8 := F5.mn fun z hz => by subst hz; unfold rg; omega
  have k8 := k7.fr G8 nb
  have o8 := F5.at o7 (by omega)
  have u0 := u0.fr F5 (by omega)
  have u1 := u1.fr F5 (by omega)
  have u2 := u2.fr F5 (by omega)
  have u3 := u3.fr F5 (by omega)
  have u4 := u4.fr F5 (by omega)
  have c6 := c6.fr F5 (by omega)
  have g6 := k8.2.2 3 (by decide)
  obtain ⟨w9, e6, u6, F6⟩ := cpi_sp (n := 8) g6 c6 (by decide) (by decide) (by decide)
  have G9 : Fr (rg a (a + 8)) w8 w9 := F6.mn fun z hz => by subst hz; unfold rg; omega
  have k9 := k8.fr G9 nb
  have o9 := F6.at o8 (by omega)
  have u0 := u0.fr F6 (by omega)
  have u1 := u1.fr F6 (by omega)
  have u2 := u2.fr F6 (by omega)
  have u3 := u3.fr F6 (by omega)
  have u4 := u4.fr F6 (by omega)
  have u5 := u5.fr F6 (by omega)
  have u0 := u0
  refine ⟨w9, ?_, ⟨o9, fun z hz => ?_, fun z hz => ?_⟩, ((((((((G1.tr G2).tr G3).tr G4).tr G5).tr G6).tr G7).tr G8).tr G9)⟩
  · have e0 : cpi w2 (b + 1) (a + 1) 0 0 12 = some w3 := e0
    have e1 : cpi w3 (b + 2) (a + 2) 0 0 12 = some w4 := e1
    have e2 : cpi w4 (b + 3) (a + 3) 0 0 12 = some w5 := e2
    have e3 : cpi w5 (b + 4) (a + 4) 0 0 8 = some w6 := e3
    have e4 : cpi w6 (b + 5) (a + 5) 0 0 8 = some w7 := e4
    have e5 : cpi w7 (b + 6) (a + 6) 0 0 8 = some w8 := e5
    have e6 : cpi w8 (b + 7) (a + 7) 0 0 8 = some w9 := e6
    simp [fX8_takeFrom, kX8_takeFrom, ent, entp, bX8_takeFrom_0, i_acopy, i_aload, i_getf, i_push, i_putf, i_return, msk, lset1, lset2, clr, Value.category, Option.toList, List.cons_append, List.nil_append, List.length_cons, List.length_nil, gf_eq k.1, sf_i h.1, hw1, gf_eq k1.1, sf_i o1, hw2, gf_eq k2.1, gf_eq o2, e0, gf_eq k3.1, gf_eq o3, e1, gf_eq k4.1, gf_eq o4, e2, gf_eq k5.1, gf_eq o5, e3, gf_eq k6.1, gf_eq o6, e4, gf_eq k7.1, gf_eq o7, e5, gf_eq k8.1, gf_eq o8, e6]
  · have : z = 0 ∨ z = 1 ∨ z = 2 := by omega
    rcases this with q | q | q <;> subst q
    · exact u0.cg fun i hi => by simp [hi]
    · exact u1.cg fun i hi => by simp [hi]
    · exact u2.cg fun i hi => by simp [hi]
  · have : z = 0 ∨ z = 1 ∨ z = 2 ∨ z = 3 := by omega
    rcases this with q | q | q | q <;> subst q
    · exact u3.cg fun i hi => by simp [hi]
    · exact u4.cg fun i hi => by simp [hi]
    · exact u5.cg fun i hi => by simp [hi]
    · exact u6.cg fun i hi => by simp [hi]
