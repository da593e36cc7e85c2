/-! ===== more, weak: the class ===== -/
def wdK (δ : DE) (kd v : Nat) : Nat := if kd = 0 then (if v < 10 then 1 else 2) else if kd = 1 then δ.2 0 v else (if v = 0 then 2 else 3)
abbrev v0K (δ : DE) : Nat → Nat := vr δ (rr δ 0)
abbrev caP (δ : DE) (p : Nat) : Nat → Bool := flP (δ.1 0) (δ.2 0) (δ.2 6 p) (wdK δ (δ.2 6 p) (v0K δ p))
def lwB (δ : DE) (p v : Nat) : Bool := brK δ (-1) (δ.1 4) (va_up (v0K δ) p v) == 0
abbrev owP (δ : DE) (p t v : Nat) : Nat := ownK δ (-1) (va_up (v0K δ) p v) (δ.1 2) t
abbrev clP (δ : DE) (p v : Nat) : Bool := caP δ p v && lwB δ p v
def wkB (δ : DE) (p t : Nat) : Bool := exF (fun v => clP δ p v && exF (fun u => clP δ p u && (owP δ p t v != owP δ p t u)) 100) 100
theorem kdP {δ : DE} (hd : WF δ) {p : Nat} (hp : p < δ.1 5) : δ.2 6 p ≤ 2 := by
  rcases hd.2.2.1 p hp with ⟨h, _⟩ | ⟨h, _⟩ | ⟨h, _⟩ <;> omega
theorem v0_dom {δ : DE} (hd : WF δ) {p : Nat} (hp : p < δ.1 5) : dom δ (δ.2 6 p) (v0K δ p) := vr_VD hd _ p hp
theorem v0_l {δ : DE} (hd : WF δ) {p : Nat} (hp : p < δ.1 5) : v0K δ p < 100 := (vr_VD hd _).l hd hp
theorem wd_le {δ : DE} (hd : WF δ) {p : Nat} (hp : p < δ.1 5) : wdK δ (δ.2 6 p) (v0K δ p) ≤ 9 := by
  unfold wdK
  split
  · split <;> omega
  · split
    · next h1 h2 =>
      have := (vr_VD hd (rr δ 0)).h hp h2
      exact (hd.2.2.2.2.2.1 _ this).2.1
    · split <;> omega
theorem ca_dom {δ : DE} (hd : WF δ) {p v : Nat} (hp : p < δ.1 5) (h : caP δ p v = true) : dom δ (δ.2 6 p) v := by
  have hk := kdP hd hp
  unfold caP flP at h
  split at h
  · next z =>
    simp [fl0] at h
    exact Or.inl ⟨z, by omega⟩
  · split at h
    · next z =>
      simp [fl1] at h
      exact Or.inr (Or.inl ⟨z, h.1⟩)
    · simp [fl2] at h
      exact Or.inr (Or.inr ⟨by omega, by omega⟩)
theorem ca_l {δ : DE} (hd : WF δ) {p v : Nat} (hp : p < δ.1 5) (h : caP δ p v = true) : v < 100 := by
  have := hd.1.1
  rcases ca_dom hd hp h with ⟨_, q⟩ | ⟨_, q⟩ | ⟨_, q⟩ <;> omega
theorem ca_VD {δ : DE} (hd : WF δ) {p v : Nat} (hp : p < δ.1 5) (h : caP δ p v = true) : VD δ (va_up (v0K δ) p v) := fun q hq => by
  by_cases y : q = p
  · subst y; rw [va_up_self]; exact ca_dom hd hp h
  · rw [va_up_ne _ _ y]; exact vr_VD hd _ q hq
theorem widthOf_sp {g : GE} (hg : FU g) {w : Mem} {D kd v : Nat} {δ : DE} (hd : WF δ) (hD : DEED g w D δ) (h : dom δ kd v) : fX2_widthOf g [.ref D, .int (nI kd), .int (nI v)] w = some (.inl (some (.int (nI (wdK δ kd v)))), w) := by
  obtain ⟨N, hN⟩ : ∃ N, g.1 = N + 4 := ⟨g.1 - 4, by omega⟩
  have b1 := hd.1.1
  obtain ⟨d0, -, d2, -⟩ := id hD
  rcases h with ⟨z, l⟩ | ⟨z, l⟩ | ⟨z, l⟩
  · subst z
    have m : (10 ≤ nI v) ↔ 10 ≤ v := nI_leI (a := 10) (by decide) (by omega)
    by_cases y : v < 10
    · have e : wdK δ 0 v = 1 := by simp [wdK, y]
      rw [e]
      simp [fX2_widthOf, kX2_widthOf, ent, entp, jX2_widthOf, bX2_widthOf_0, bX2_widthOf_1, bX2_widthOf_2, bX2_widthOf_3, bX2_widthOf_4, i_aload, i_getf, i_iaload, i_icge, i_icne, i_iflt, i_ifne, i_iload, i_ireturn, i_jmp, i_push, msk, lset1, lset2, clr, Value.category, Option.toList, List.cons_append, List.nil_append, List.length_cons, List.length_nil, hN, nI_0, mt m.mp (by omega), (show nI 1 = 1 from rfl)]
    · have e : wdK δ 0 v = 2 := by simp [wdK, y]
      rw [e]
      simp [fX2_widthOf, kX2_widthOf, ent, entp, jX2_widthOf, bX2_widthOf_0, bX2_widthOf_1, bX2_widthOf_2, bX2_widthOf_3, bX2_widthOf_4, i_aload, i_getf, i_iaload, i_icge, i_icne, i_iflt, i_ifne, i_iload, i_ireturn, i_jmp, i_push, msk, lset1, lset2, clr, Value.category, Option.toList, List.cons_append, List.nil_append, List.length_cons, List.length_nil, hN, nI_0, m.mpr (by omega), (show nI 2 = 2 from rfl)]
  · subst z
    have e : wdK δ 1 v = δ.2 0 v := by simp [wdK]
    rw [e]
    have rd : gi w 0 (D + 2) (nI v) = some (nI (δ.2 0 v)) := d2.rd (by omega) (by decide)
    simp [fX2_widthOf, kX2_widthOf, ent, entp, jX2_widthOf, bX2_widthOf_0, bX2_widthOf_1, bX2_widthOf_2, bX2_widthOf_3, bX2_widthOf_4, i_aload, i_getf, i_iaload, i_icge, i_icne, i_iflt, i_ifne, i_iload, i_ireturn, i_jmp, i_push, msk, lset1, lset2, clr, Value.category, Option.toList, List.cons_append, List.nil_append, List.length_cons, List.length_nil, hN, (show nI 1 = 1 from rfl), nI_pos (n := v) (by omega), gf_eq d0, nI_ge l (by omega), rd]
  · subst z
    by_cases y : v = 0
    · subst y
      simp [fX2_widthOf, kX2_widthOf, ent, entp, jX2_widthOf, bX2_widthOf_0, bX2_widthOf_1, bX2_widthOf_2, bX2_widthOf_3, bX2_widthOf_4, i_aload, i_getf, i_iaload, i_icge, i_icne, i_iflt, i_ifne, i_iload, i_ireturn, i_jmp, i_push, msk, lset1, lset2, clr, Value.category, Option.toList, List.cons_append, List.nil_append, List.length_cons, List.length_nil, hN, nI_0, (show nI 2 = 2 from rfl), wdK]
    · have e : wdK δ 2 v = 3 := by simp [wdK, y]
      rw [e]
      have y1 := nI_ne0 (n := v) (by omega) (by omega)
      simp [fX2_widthOf, kX2_widthOf, ent, entp, jX2_widthOf, bX2_widthOf_0, bX2_widthOf_1, bX2_widthOf_2, bX2_widthOf_3, bX2_widthOf_4, i_aload, i_getf, i_iaload, i_icge, i_icne, i_iflt, i_ifne, i_iload, i_ireturn, i_jmp, i_push, msk, lset1, lset2, clr, Value.category, Option.toList, List.cons_append, List.nil_append, List.length_cons, List.length_nil, hN, (show nI 2 = 2 from rfl), y1, (show nI 3 = 3 from rfl)]
/-- a place blotted anew: the object, the row but for place p, the blot -/
def ANW (w : Mem) (A D : Nat) (δ : DE) (p : Nat) (l : List Nat) : Prop := OB w A 0 [.ref (A + 1), .ref (A + 6), .ref D] ∧ (∃ v d c o su tw, ROW w (A + 1) v d c o su tw ∧ ∀ q, q < δ.1 5 → q ≠ p → v q = nI (v0K δ q)) ∧ (∃ k wd pt pl, BLT w (A + 6) (A + 7) l k wd pt pl)
theorem isLawful_sp {g : GE} (hg : GD g) {w : Mem} {A D p v : Nat} {δ : DE} {l : List Nat} (hd : WF δ) (hD : DEED g w D δ) (hDA : D + 35 ≤ A) (h : ANW w A D δ p l) (hp : p < δ.1 5) (hv : caP δ p v = true) :
    ∃ w', fX0_isLawful g [.ref A, .int (nI p), .int (nI v)] w = some (.inl (some (.int (bI (lwB δ p v)))), w') ∧ ANW w' A D δ p l ∧ (∃ c o d su tw, ROW w' (A + 1) c d o (fun t => nI (owP δ p t v) - 1) su tw) ∧ Fr (rg (A + 1) (A + 6)) w w' := by
  have hg1 := hg.1
  obtain ⟨h1, ⟨v1, d1, c1, o1, su1, tw1, r1, k1⟩, ⟨bk, bw, bp, bq, h3⟩⟩ := h
  have b6 := hd.1.2.2.2.2.2.1
  obtain ⟨N, hN⟩ : ∃ N, g.1 = N + 2 := ⟨g.1 - 2, by omega⟩
  have r2 := r1.v' p (nI v)
  obtain ⟨w1, hw1⟩ : ∃ q, wi w 0 (A + 1 + 1) p (nI v) = q := ⟨_, rfl⟩
  rw [hw1] at r2
  have F1 : Fr (fun a => a = A + 1 + 1) w w1 := hw1 ▸ Fr.wi _ _ _ _ rfl
  have D1 := hD.fr F1 (fun i hi => by omega)
  have O1 := F1.at h1 (by omega)
  have ev : ∀ q, q < δ.1 5 → va_up v1 p (nI v) q = nI (va_up (v0K δ) p v q) := fun q hq => by
    by_cases y : q = p
    · subst y; rw [va_up_self, va_up_self]
    · rw [va_up_ne _ _ y, va_up_ne _ _ y]; exact k1 q hq y
  obtain ⟨w2, q1, q2, q3⟩ := reckon_sp hg D1 r2 (Or.inl (by omega)) hd (ca_VD hd hp hv) ev (-1)
  have D2 := D1.fr q3 (fun i hi => by unfold rg; omega)
  have O2 := q3.at O1 (by unfold rg; omega)
  have q4 := broken_sp hg1 D2 q2 hd (ca_VD hd hp hv)
  have F2 : Fr (rg (A + 1) (A + 6)) w w2 := (F1.mn fun a h => by unfold rg; omega).tr q3
  have wr := r1.2.1.wr (j := p) (by omega) (by decide) (nI v)
  rw [hw1] at wr
  have lb : brK δ (-1) (δ.1 4) (va_up (v0K δ) p v) ≤ 7 := br_le _ _ _ _
  refine ⟨w2, ?_, ⟨O2, ⟨_, _, _, _, _, _, q2, fun q hq y => by rw [va_up_ne _ _ y]; exact k1 q hq y⟩, ⟨bk, bw, bp, bq, h3.fr F2 (by unfold rg; omega) (by unfold rg; omega)⟩⟩, ⟨_, _, _, _, _, q2⟩, F2⟩
  unfold lwB
  by_cases z : brK δ (-1) (δ.1 4) (va_up (v0K δ) p v) = 0
  · rw [z] at q4
    have e : (brK δ (-1) (δ.1 4) (va_up (v0K δ) p v) == 0) = true := by simp [z]
    rw [e]
    simp [fX0_isLawful, kX0_isLawful, ent, entp, jX0_isLawful, bX0_isLawful_0, bX0_isLawful_1, i_aload, i_getf, i_iastore, i_ifne, i_iload, i_jmp, i_push, i_zreturn, msk, lset1, lset2, clr, Value.category, Option.toList, List.cons_append, List.nil_append, List.length_cons, List.length_nil, hN, gf_eq h1, gf_eq r1.1, wr, gf_eq O1, cvk_2 r2.1 q1, gf_eq O2, cvk_1 q2.1 q4, nI_0, bI]
  · have e : (brK δ (-1) (δ.1 4) (va_up (v0K δ) p v) == 0) = false := by simp [z]
    rw [e]
    have z1 := nI_ne0 (n := brK δ (-1) (δ.1 4) (va_up (v0K δ) p v)) (by omega) (by omega)
    generalize nI (brK δ (-1) (δ.1 4) (va_up (v0K δ) p v)) = Y at q4 z1
    simp [fX0_isLawful, kX0_isLawful, ent, entp, jX0_isLawful, bX0_isLawful_0, bX0_isLawful_1, i_aload, i_getf, i_iastore, i_ifne, i_iload, i_jmp, i_push, i_zreturn, msk, lset1, lset2, clr, Value.category, Option.toList, List.cons_append, List.nil_append, List.length_cons, List.length_nil, hN, gf_eq h1, gf_eq r1.1, wr, gf_eq O1, cvk_2 r2.1 q1, gf_eq O2, cvk_1 q2.1 q4, z1, bI]
/-- the row shows the first reading -/
def AN0 (w : Mem) (A D : Nat) (δ : DE) : Prop := OB w A 0 [.ref (A + 1), .ref (A + 6), .ref D] ∧ (∃ v d c o su tw, ROW w (A + 1) v d c o su tw ∧ ∀ q, q < δ.1 5 → v q = nI (v0K δ q)) ∧ (∃ a b c d e, OB w (A + 6) 1 [.ref (A + 7), .int a, .int b, .int c, .int d, .int e]) ∧ (∃ c, IA w (A + 7) 100 c)
abbrev cdL (δ : DE) (p : Nat) : List Nat := fil (caP δ p) 100
theorem candidatesAt_sp {g : GE} (hg : FU g) {w : Mem} {A D p : Nat} {δ : DE} (hd : WF δ) (hD : DEED g w D δ) (hDA : D + 35 ≤ A) (h : AN0 w A D δ) (hp : p < δ.1 5) :
    ∃ w', fX0_candidatesAt g [.ref A, .int (nI p)] w = some (.inl (some (.int (nI (cdL δ p).length))), w') ∧ AN0 w' A D δ ∧ (∃ k wd pt pl, BLT w' (A + 6) (A + 7) (cdL δ p) k wd pt pl) ∧ Fr (rg (A + 6) (A + 8)) w w' := by
  obtain ⟨h1, ⟨v1, d1, c1, o1, su1, tw1, r1, k1⟩, ⟨ba, bb, bc, bd, be, h3⟩, h4⟩ := h
  obtain ⟨b1, b2, b3, b4, b5, b6, b7, b8⟩ := id hd.1
  obtain ⟨d0, -, d2, -, -, -, -, d7, -⟩ := id hD
  have q0 := widthOf_sp hg hd hD (v0_dom hd hp)
  obtain ⟨w', q1, q2, q3⟩ := fill_fin hg (D := D) (a := A + 6) (av := A + 7) (aw := D + 2) (H := δ.1 0) (kd := δ.2 6 p) (wd := wdK δ (δ.2 6 p) (v0K δ p)) (wf := δ.2 0) d0 rfl rfl d2 (fun h hh => ⟨rfl, by have := (hd.2.2.2.2.2.1 h hh).2.1; omega⟩) b1 h3 h4 (kdP hd hp) (wd_le hd hp) (by omega) (by omega) (by omega) (by omega) (by omega) rfl rfl
  have q2' : BLT w' (A + 6) (A + 7) (cdL δ p) (nI (δ.2 6 p)) (nI (wdK δ (δ.2 6 p) (v0K δ p))) bd be := q2
  have F : Fr (rg (A + 6) (A + 8)) w w' := q3.mn fun a h => by unfold rg; omega
  have O1 := F.at h1 (by unfold rg; omega)
  have rk : gi w 0 (D + 7) (nI p) = some (nI (δ.2 6 p)) := d7.rd (by omega) (by decide)
  have rv : gi w 0 (A + 1 + 1) (nI p) = some (nI (v0K δ p)) := by rw [r1.2.1.rd (by omega) (by decide), k1 p hp]
  refine ⟨w', ?_, ⟨O1, ⟨v1, d1, c1, o1, su1, tw1, r1.fr F (fun i hi => by unfold rg; omega), k1⟩, ⟨_, _, _, _, _, q2'.1⟩, by obtain ⟨c, hc, -⟩ := q2'.2; exact ⟨c, hc⟩⟩, ⟨_, _, _, _, q2'⟩, F⟩
  generalize nI (wdK δ (δ.2 6 p) (v0K δ p)) = W at q0 q1 q2'
  generalize nI (v0K δ p) = V at q0 rv
  generalize nI (δ.2 6 p) = K at q0 q1 rk q2'
  simp [fX0_candidatesAt, kX0_candidatesAt, ent, entp, bX0_candidatesAt_0, i_aload, i_getf, i_iaload, i_iload, i_ireturn, i_istore, msk, lset1, lset2, clr, Value.category, Option.toList, List.cons_append, List.nil_append, List.length_cons, List.length_nil, gf_eq h1, gf_eq d0, rk, gf_eq r1.1, rv, cvk_2 d0 q0, cvk_3 d0 q1, gf_eq O1, gf_eq q2'.1]
theorem AN0.an {w : Mem} {A D p : Nat} {δ : DE} {l : List Nat} (h : AN0 w A D δ) (hb : ∃ k wd pt pl, BLT w (A + 6) (A + 7) l k wd pt pl) : ANW w A D δ p l := by
  obtain ⟨h1, ⟨v1, d1, c1, o1, su1, tw1, r1, k1⟩, -, -⟩ := h
  exact ⟨h1, ⟨v1, d1, c1, o1, su1, tw1, r1, fun q hq _ => k1 q hq⟩, hb⟩
theorem ANW.end {w : Mem} {A D p : Nat} {δ : DE} {l : List Nat} (h : ANW w A D δ p l) : AN0 (wi w 0 (A + 1 + 1) p (nI (v0K δ p))) A D δ := by
  obtain ⟨h1, ⟨v1, d1, c1, o1, su1, tw1, r1, k1⟩, ⟨bk, bw, bp, bq, h3⟩⟩ := h
  have F1 : Fr (fun a => a = A + 1 + 1) w (wi w 0 (A + 1 + 1) p (nI (v0K δ p))) := Fr.wi _ _ _ _ rfl
  have h3' := h3.fr F1 (by omega) (by omega)
  refine ⟨F1.at h1 (by omega), ⟨_, _, _, _, _, _, r1.v' p (nI (v0K δ p)), fun q hq => ?_⟩, ⟨_, _, _, _, _, h3'.1⟩, by obtain ⟨c, hc, -⟩ := h3'.2; exact ⟨c, hc⟩⟩
  by_cases y : q = p
  · subst y; rw [va_up_self]
  · rw [va_up_ne _ _ y]; exact k1 q hq y
theorem readingsAt_sp {g : GE} (hg : GD g) {w : Mem} {A D p : Nat} {δ : DE} (hd : WF δ) (hD : DEED g w D δ) (hDA : D + 35 ≤ A) (h : AN0 w A D δ) (hp : p < δ.1 5) :
    ∃ w', fX0_readingsAt g [.ref A, .int (nI p)] w = some (.inl (some (.int (nI (cntF (clP δ p) 100)))), w') ∧ AN0 w' A D δ ∧ Fr (rg (A + 1) (A + 8)) w w' := by
  have hg1 := hg.1
  have b6 := hd.1.2.2.2.2.2.1
  obtain ⟨w1, q1, q2, q3, q4⟩ := candidatesAt_sp hg1 hd hD hDA h hp
  have F1 : Fr (rg (A + 1) (A + 8)) w w1 := q4.mn fun a h => by unfold rg at *; omega
  obtain ⟨O1, ⟨v1, d1, c1, o1, su1, tw1, r1, k1⟩, -, -⟩ := id q2
  have rv : gi w1 0 (A + 1 + 1) (nI p) = some (nI (v0K δ p)) := by rw [r1.2.1.rd (by omega) (by decide), k1 p hp]
  have ll : (cdL δ p).length ≤ 100 := by rw [fil_len]; exact cntF_le _ _
  obtain ⟨N, hN⟩ : ∃ N, g.1 = N + 1 := ⟨g.1 - 1, by omega⟩
  have L := lpR (fun f (s : Lv × Mem) => jX0_readingsAt g f 1 [] s.1 s.2) (fun k s => s.1 = [some (.ref A), some (.int (nI p)), some (.int (nI (cdL δ p).length)), some (.int (nI (v0K δ p))), some (.int (nI (cntF (fun i => lwB δ p ((cdL δ p).getD i 0)) k))), some (.int (nI k))] ∧ ANW s.2 A D δ p (cdL δ p) ∧ Fr (rg (A + 1) (A + 8)) w s.2)
    (fun z => ∃ w', z = some (.inl (some (.int (nI (cntF (clP δ p) 100)))), w') ∧ AN0 w' A D δ ∧ Fr (rg (A + 1) (A + 8)) w w') 2 1 (cdL δ p).length
    (fun k s hk hI f => by
      obtain ⟨e1, e2, e3⟩ := hI
      have Ds := hD.fr e3 (fun i hi => by unfold rg; omega)
      obtain ⟨pv1, pv2⟩ := fil_at hk
      obtain ⟨w2, p1, p2, -, p4⟩ := isLawful_sp hg hd Ds hDA e2 hp pv2
      obtain ⟨O2, -, ⟨bk, bw, bp, bq, B2⟩⟩ := id e2
      have ek := nI_ge hk (by omega)
      have rd : gi s.2 0 (A + 7) (nI k) = some (nI ((cdL δ p).getD k 0)) := by
        obtain ⟨c, hc, kc⟩ := B2.2
        rw [hc.rd (by omega) (by decide), kc k hk]
      refine Or.inr ⟨f, ([some (.ref A), some (.int (nI p)), some (.int (nI (cdL δ p).length)), some (.int (nI (v0K δ p))), some (.int (nI (cntF (fun i => lwB δ p ((cdL δ p).getD i 0)) (k + 1)))), some (.int (nI (k + 1)))], w2), Nat.le_refl _, ⟨rfl, p2, e3.tr (p4.mn fun a h => by unfold rg at *; omega)⟩, ?_⟩
      generalize nI (cdL δ p).length = Ln at e1 ek ⊢
      generalize nI (v0K δ p) = V at e1 ⊢
      have ec : cntF (fun i => lwB δ p ((cdL δ p).getD i 0)) (k + 1) = cntF (fun i => lwB δ p ((cdL δ p).getD i 0)) k + if lwB δ p ((cdL δ p).getD k 0) = true then 1 else 0 := rfl
      rw [ec]
      generalize cntF (fun i => lwB δ p ((cdL δ p).getD i 0)) k = X at e1 ⊢
      cases hl : lwB δ p ((cdL δ p).getD k 0) with
      | true =>
        rw [hl] at p1
        generalize nI ((cdL δ p).getD k 0) = U at rd p1
        simp [jX0_readingsAt, bX0_readingsAt_0, bX0_readingsAt_1, bX0_readingsAt_2, i_aload, i_getf, i_iaload, i_iastore, i_icge, i_ifeq, i_iinc, i_iload, i_ireturn, i_istore, i_jmp, i_push, msk, lset1, lset2, clr, Value.category, Option.toList, List.cons_append, List.nil_append, List.length_cons, List.length_nil, e1, ek, gf_eq O2, gf_eq B2.1, rd, cvk_2 O2 p1, bI, nI_1]
      | false =>
        rw [hl] at p1
        generalize nI ((cdL δ p).getD k 0) = U at rd p1
        simp [jX0_readingsAt, bX0_readingsAt_0, bX0_readingsAt_1, bX0_readingsAt_2, i_aload, i_getf, i_iaload, i_iastore, i_icge, i_ifeq, i_iinc, i_iload, i_ireturn, i_istore, i_jmp, i_push, msk, lset1, lset2, clr, Value.category, Option.toList, List.cons_append, List.nil_append, List.length_cons, List.length_nil, e1, ek, gf_eq O2, gf_eq B2.1, rd, cvk_2 O2 p1, bI, nI_1])
    (fun s hI f => by
      obtain ⟨e1, e2, e3⟩ := hI
      obtain ⟨O2, ⟨v2, d2, c2, o2, su2, tw2, r2, k2⟩, -⟩ := id e2
      have en := e2.end
      have wr := r2.2.1.wr (j := p) (by omega) (by decide) (nI (v0K δ p))
      refine ⟨_, ?_, en, e3.tr (Fr.wi _ _ _ _ (by unfold rg; omega))⟩
      have ec : cntF (fun i => lwB δ p ((cdL δ p).getD i 0)) (cdL δ p).length = cntF (clP δ p) 100 := fil_cnt
      rw [ec] at e1
      generalize cntF (clP δ p) 100 = X at e1 ⊢
      generalize nI (cdL δ p).length = Ln at e1
      generalize nI (v0K δ p) = V at e1 wr ⊢
      simp [jX0_readingsAt, bX0_readingsAt_0, bX0_readingsAt_1, bX0_readingsAt_2, i_aload, i_getf, i_iaload, i_iastore, i_icge, i_ifeq, i_iinc, i_iload, i_ireturn, i_istore, i_jmp, i_push, msk, lset1, lset2, clr, Value.category, Option.toList, List.cons_append, List.nil_append, List.length_cons, List.length_nil, e1, gf_eq O2, gf_eq r2.1, wr])
  obtain ⟨w', p1, p2, p3⟩ := L (cdL δ p).length 0 ([some (.ref A), some (.int (nI p)), some (.int (nI (cdL δ p).length)), some (.int (nI (v0K δ p))), some (.int (nI 0)), some (.int (nI 0))], w1) (by omega) ⟨rfl, q2.an q3, F1⟩ N (by omega)
  refine ⟨w', ?_, p2, p3⟩
  simp only [nI_0] at p1
  rw [← p1]
  obtain ⟨h1, -⟩ := id h
  generalize nI (cdL δ p).length = Ln at q1 ⊢
  generalize nI (v0K δ p) = V at rv ⊢
  simp [fX0_readingsAt, kX0_readingsAt, ent, entp, jX0_readingsAt, bX0_readingsAt_0, bX0_readingsAt_1, bX0_readingsAt_2, i_aload, i_getf, i_iaload, i_iastore, i_icge, i_ifeq, i_iinc, i_iload, i_ireturn, i_istore, i_jmp, i_push, msk, lset1, lset2, clr, Value.category, Option.toList, List.cons_append, List.nil_append, List.length_cons, List.length_nil, hN, cvk_1 h1 q1, gf_eq O1, gf_eq r1.1, rv]
/-- whether the lawful among the first k candidates are at odds -/
def wkC (δ : DE) (p t k : Nat) : Bool := exF (fun i => lwB δ p ((cdL δ p).getD i 0) && exF (fun j => lwB δ p ((cdL δ p).getD j 0) && (owP δ p t ((cdL δ p).getD i 0) != owP δ p t ((cdL δ p).getD j 0))) k) k
theorem wkC_iff {δ : DE} {p t k : Nat} : wkC δ p t k = true ↔ ∃ i j, i < k ∧ j < k ∧ lwB δ p ((cdL δ p).getD i 0) = true ∧ lwB δ p ((cdL δ p).getD j 0) = true ∧ owP δ p t ((cdL δ p).getD i 0) ≠ owP δ p t ((cdL δ p).getD j 0) := by
  unfold wkC
  rw [exF_iff]
  constructor
  · rintro ⟨i, h1, h2⟩
    rw [Bool.and_eq_true, exF_iff] at h2
    obtain ⟨h3, j, h4, h5⟩ := h2
    rw [Bool.and_eq_true] at h5
    exact ⟨i, j, h1, h4, h3, h5.1, by simpa using h5.2⟩
  · rintro ⟨i, j, h1, h2, h3, h4, h5⟩
    exact ⟨i, h1, by rw [h3, Bool.true_and]; exact exF_iff.mpr ⟨j, h2, by rw [h4, Bool.true_and]; exact bne_iff_ne.mpr h5⟩⟩
theorem wkC_B {δ : DE} {p t : Nat} : wkC δ p t (cdL δ p).length = wkB δ p t := by
  rw [Bool.eq_iff_iff, wkC_iff]
  unfold wkB
  rw [exF_iff]
  constructor
  · rintro ⟨i, j, h1, h2, h3, h4, h5⟩
    have a1 := fil_at h1
    have a2 := fil_at h2
    exact ⟨_, a1.1, by
      show (caP δ p _ && lwB δ p _ && _) = true
      rw [a1.2, h3, Bool.true_and, Bool.true_and]
      exact exF_iff.mpr ⟨_, a2.1, by show (caP δ p _ && lwB δ p _ && _) = true; rw [a2.2, h4, Bool.true_and, Bool.true_and]; exact bne_iff_ne.mpr h5⟩⟩
  · rintro ⟨v, h1, h2⟩
    rw [Bool.and_eq_true, exF_iff] at h2
    obtain ⟨h3, u, h4, h5⟩ := h2
    rw [Bool.and_eq_true] at h5
    have h3' : caP δ p v = true ∧ lwB δ p v = true := by
      have : (caP δ p v && lwB δ p v) = true := h3
      rwa [Bool.and_eq_true] at this
    have h5' : caP δ p u = true ∧ lwB δ p u = true := by
      have : (caP δ p u && lwB δ p u) = true := h5.1
      rwa [Bool.and_eq_true] at this
    obtain ⟨i, i1, i2⟩ := fil_of h1 h3'.1
    obtain ⟨j, j1, j2⟩ := fil_of h4 h5'.1
    exact ⟨i, j, i1, j1, by rw [i2]; exact h3'.2, by rw [j2]; exact h5'.2, by rw [i2, j2]; simpa using h5.2⟩
theorem isWeak_sp {g : GE} (hg : GD g) {w : Mem} {A D p t : Nat} {δ : DE} (hd : WF δ) (hD : DEED g w D δ) (hDA : D + 35 ≤ A) (h : AN0 w A D δ) (hp : p < δ.1 5) (ht : t < 5) :
    ∃ w', fX0_isWeak g [.ref A, .int (nI p), .int (nI t)] w = some (.inl (some (.int (bI (wkB δ p t)))), w') ∧ AN0 w' A D δ ∧ Fr (rg (A + 1) (A + 8)) w w' := by
  have hg1 := hg.1
  have b1 := hd.1.1
  have b6 := hd.1.2.2.2.2.2.1
  obtain ⟨w1, q1, q2, q3, q4⟩ := candidatesAt_sp hg1 hd hD hDA h hp
  have F1 : Fr (rg (A + 1) (A + 8)) w w1 := q4.mn fun a h => by unfold rg at *; omega
  obtain ⟨O1, ⟨v1, d1, c1, o1, su1, tw1, r1, k1⟩, -, -⟩ := id q2
  have rv : gi w1 0 (A + 1 + 1) (nI p) = some (nI (v0K δ p)) := by rw [r1.2.1.rd (by omega) (by decide), k1 p hp]
  have ll : (cdL δ p).length ≤ 100 := by rw [fil_len]; exact cntF_le _ _
  obtain ⟨N, hN⟩ : ∃ N, g.1 = N + 1 := ⟨g.1 - 1, by omega⟩
  have L := lpR (fun f (s : Lv × Mem) => jX0_isWeak g f 1 [] s.1 s.2) (fun k s => (∃ (any : Bool) (ow : Int32), s.1 = [some (.ref A), some (.int (nI p)), some (.int (nI t)), some (.int (nI (cdL δ p).length)), some (.int (nI (v0K δ p))), some (.int (bI any)), some (.int (bI (wkC δ p t k))), some (.int ow), some (.int (nI k))] ∧ (any = false → ∀ i, i < k → lwB δ p ((cdL δ p).getD i 0) = false) ∧ (any = true → ∃ i, i < k ∧ lwB δ p ((cdL δ p).getD i 0) = true ∧ ow = nI (owP δ p t ((cdL δ p).getD i 0)) - 1)) ∧ ANW s.2 A D δ p (cdL δ p) ∧ Fr (rg (A + 1) (A + 8)) w s.2)
    (fun z => ∃ w', z = some (.inl (some (.int (bI (wkB δ p t)))), w') ∧ AN0 w' A D δ ∧ Fr (rg (A + 1) (A + 8)) w w') 4 1 (cdL δ p).length
    (fun k s hk hI f => by
      obtain ⟨⟨any, ow, e1, a1, a2⟩, e2, e3⟩ := hI
      have Ds := hD.fr e3 (fun i hi => by unfold rg; omega)
      obtain ⟨pv1, pv2⟩ := fil_at hk
      obtain ⟨w2, p1, p2, ⟨v3, c3, d3, su3, tw3, r3⟩, p4⟩ := isLawful_sp hg hd Ds hDA e2 hp pv2
      obtain ⟨O2, -, ⟨bk, bw, bp, bq, B2⟩⟩ := id e2
      obtain ⟨O3, -⟩ := id p2
      have ek := nI_ge hk (by omega)
      have rd : gi s.2 0 (A + 7) (nI k) = some (nI ((cdL δ p).getD k 0)) := by
        obtain ⟨c, hc, kc⟩ := B2.2
        rw [hc.rd (by omega) (by decide), kc k hk]
      have ro : gi w2 0 (A + 1 + 4) (nI t) = some (nI (owP δ p t ((cdL δ p).getD k 0)) - 1) := r3.2.2.2.2.rd (by omega) (by decide)
      have lo : ∀ v, caP δ p v = true → owP δ p t v ≤ 4 := fun v hv => Nat.le_trans (ownK_le hd (ca_VD hd hp hv) _ (Nat.le_refl _) _) b1
      have F2 : Fr (rg (A + 1) (A + 8)) w w2 := e3.tr (p4.mn fun a h => by unfold rg at *; omega)
      have lk1 : owP δ p t ((cdL δ p).getD k 0) ≤ 4 := lo _ pv2
      generalize hLn : nI (cdL δ p).length = Ln at e1 ek
      generalize hV : nI (v0K δ p) = V at e1
      cases hl : lwB δ p ((cdL δ p).getD k 0) with
      | false =>
        rw [hl] at p1
        have ew : wkC δ p t (k + 1) = wkC δ p t k := by
          rw [Bool.eq_iff_iff, wkC_iff, wkC_iff]
          constructor
          · rintro ⟨i, j, h1, h2, h3, h4, h5⟩
            have n1 : i ≠ k := fun z => by subst z; rw [hl] at h3; cases h3
            have n2 : j ≠ k := fun z => by subst z; rw [hl] at h4; cases h4
            exact ⟨i, j, by omega, by omega, h3, h4, h5⟩
          · rintro ⟨i, j, h1, h2, h3⟩
            exact ⟨i, j, by omega, by omega, h3⟩
        refine Or.inr ⟨f + 2, (_, w2), by omega, ⟨⟨any, ow, rfl, fun h i hi => ?_, fun h => ?_⟩, p2, F2⟩, ?_⟩
        · by_cases y : i = k
          · subst y; exact hl
          · exact a1 h i (by omega)
        · obtain ⟨i, i1, i2⟩ := a2 h
          exact ⟨i, by omega, i2⟩
        · rw [ew]
          generalize bI (wkC δ p t k) = X at e1 ⊢
          generalize bI any = Y at e1 ⊢
          generalize nI ((cdL δ p).getD k 0) = U at rd p1
          rw [show f + 4 = (f + 2) + 2 from rfl]
          generalize f + 2 = F
          simp [jX0_isWeak, bX0_isWeak_0, bX0_isWeak_1, bX0_isWeak_2, bX0_isWeak_3, bX0_isWeak_4, bX0_isWeak_5, i_aload, i_getf, i_iaload, i_iastore, i_iceq, i_icge, i_ifeq, i_ifne, i_iinc, i_iload, i_istore, i_jmp, i_push, i_zreturn, msk, lset1, lset2, clr, Value.category, Option.toList, List.cons_append, List.nil_append, List.length_cons, List.length_nil, e1, ek, gf_eq O2, gf_eq B2.1, rd, cvk_2 O2 p1, bI, nI_1]
      | true =>
        rw [hl] at p1
        have wit : ∃ i, i < k + 1 ∧ lwB δ p ((cdL δ p).getD i 0) = true ∧ nI (owP δ p t ((cdL δ p).getD k 0)) - 1 = nI (owP δ p t ((cdL δ p).getD i 0)) - 1 := ⟨k, by omega, hl, rfl⟩
        cases hw : wkC δ p t k with
        | true =>
          have ew : wkC δ p t (k + 1) = true := by
            rw [wkC_iff] at hw ⊢
            obtain ⟨i, j, h1, h2, h3⟩ := hw
            exact ⟨i, j, by omega, by omega, h3⟩
          rw [hw] at e1
          refine Or.inr ⟨f, (_, w2), Nat.le_refl _, ⟨⟨true, _, rfl, fun h => (by cases h), fun _ => wit⟩, p2, F2⟩, ?_⟩
          rw [ew]
          generalize bI any = Y at e1
          generalize nI (owP δ p t ((cdL δ p).getD k 0)) - 1 = O at ro ⊢
          generalize nI ((cdL δ p).getD k 0) = U at rd p1
          simp [jX0_isWeak, bX0_isWeak_0, bX0_isWeak_1, bX0_isWeak_2, bX0_isWeak_3, bX0_isWeak_4, bX0_isWeak_5, i_aload, i_getf, i_iaload, i_iastore, i_iceq, i_icge, i_ifeq, i_ifne, i_iinc, i_iload, i_istore, i_jmp, i_push, i_zreturn, msk, lset1, lset2, clr, Value.category, Option.toList, List.cons_append, List.nil_append, List.length_cons, List.length_nil, e1, ek, gf_eq O2, gf_eq B2.1, rd, cvk_2 O2 p1, bI, gf_eq O3, gf_eq r3.1, ro, nI_1]
        | false =>
          rw [hw] at e1
          have same : ∀ i j, i < k → j < k → lwB δ p ((cdL δ p).getD i 0) = true → lwB δ p ((cdL δ p).getD j 0) = true → owP δ p t ((cdL δ p).getD i 0) = owP δ p t ((cdL δ p).getD j 0) := fun i j h1 h2 h3 h4 => by
            by_cases y : owP δ p t ((cdL δ p).getD i 0) = owP δ p t ((cdL δ p).getD j 0)
            · exact y
            · have := wkC_iff.mpr ⟨i, j, h1, h2, h3, h4, y⟩
              rw [hw] at this
              cases this
          cases any with
          | false =>
            have none' := a1 rfl
            have ew : wkC δ p t (k + 1) = false := by
              cases hx : wkC δ p t (k + 1) with
              | false => rfl
              | true =>
                obtain ⟨i, j, h1, h2, h3, h4, h5⟩ := wkC_iff.mp hx
                have n1 : i = k := by
                  by_cases y : i = k
                  · exact y
                  · rw [none' i (by omega)] at h3; cases h3
                have n2 : j = k := by
                  by_cases y : j = k
                  · exact y
                  · rw [none' j (by omega)] at h4; cases h4
                rw [n1, n2] at h5
                exact absurd rfl h5
            refine Or.inr ⟨f, (_, w2), Nat.le_refl _, ⟨⟨true, _, rfl, fun h => (by cases h), fun _ => wit⟩, p2, F2⟩, ?_⟩
            rw [ew]
            generalize nI (owP δ p t ((cdL δ p).getD k 0)) - 1 = O at ro ⊢
            generalize nI ((cdL δ p).getD k 0) = U at rd p1
            simp [jX0_isWeak, bX0_isWeak_0, bX0_isWeak_1, bX0_isWeak_2, bX0_isWeak_3, bX0_isWeak_4, bX0_isWeak_5, i_aload, i_getf, i_iaload, i_iastore, i_iceq, i_icge, i_ifeq, i_ifne, i_iinc, i_iload, i_istore, i_jmp, i_push, i_zreturn, msk, lset1, lset2, clr, Value.category, Option.toList, List.cons_append, List.nil_append, List.length_cons, List.length_nil, e1, ek, gf_eq O2, gf_eq B2.1, rd, cvk_2 O2 p1, bI, gf_eq O3, gf_eq r3.1, ro, nI_1]
          | true =>
            obtain ⟨i0, i1, i2, i3⟩ := a2 rfl
            have lk2 := lo ((cdL δ p).getD i0 0) (fil_at (p := caP δ p) (n := 100) (i := i0) (show i0 < (cdL δ p).length by omega)).2
            have mq := m1_q (a := owP δ p t ((cdL δ p).getD k 0)) (b := owP δ p t ((cdL δ p).getD i0 0)) (by omega) (by omega)
            by_cases y : owP δ p t ((cdL δ p).getD k 0) = owP δ p t ((cdL δ p).getD i0 0)
            · have ew : wkC δ p t (k + 1) = false := by
                cases hx : wkC δ p t (k + 1) with
                | false => rfl
                | true =>
                  obtain ⟨i, j, h1, h2, h3, h4, h5⟩ := wkC_iff.mp hx
                  have key : ∀ m, m < k + 1 → lwB δ p ((cdL δ p).getD m 0) = true → owP δ p t ((cdL δ p).getD m 0) = owP δ p t ((cdL δ p).getD i0 0) := fun m hm hlm => by
                    by_cases y2 : m = k
                    · subst y2; exact y
                    · exact same m i0 (by omega) i1 hlm i2
                  exact absurd ((key i h1 h3).trans (key j h2 h4).symm) h5
              refine Or.inr ⟨f, (_, w2), Nat.le_refl _, ⟨⟨true, _, rfl, fun h => (by cases h), fun _ => wit⟩, p2, F2⟩, ?_⟩
              rw [ew]
              rw [i3, ← y] at e1
              generalize nI (owP δ p t ((cdL δ p).getD k 0)) - 1 = O at ro e1 ⊢
              generalize nI ((cdL δ p).getD k 0) = U at rd p1
              simp [jX0_isWeak, bX0_isWeak_0, bX0_isWeak_1, bX0_isWeak_2, bX0_isWeak_3, bX0_isWeak_4, bX0_isWeak_5, i_aload, i_getf, i_iaload, i_iastore, i_iceq, i_icge, i_ifeq, i_ifne, i_iinc, i_iload, i_istore, i_jmp, i_push, i_zreturn, msk, lset1, lset2, clr, Value.category, Option.toList, List.cons_append, List.nil_append, List.length_cons, List.length_nil, e1, ek, gf_eq O2, gf_eq B2.1, rd, cvk_2 O2 p1, bI, gf_eq O3, gf_eq r3.1, ro, nI_1]
            · have ew : wkC δ p t (k + 1) = true := wkC_iff.mpr ⟨k, i0, by omega, by omega, hl, i2, y⟩
              refine Or.inr ⟨f, (_, w2), Nat.le_refl _, ⟨⟨true, _, rfl, fun h => (by cases h), fun _ => wit⟩, p2, F2⟩, ?_⟩
              rw [ew]
              have ne := mt mq.mp y
              rw [← i3] at ne
              generalize nI (owP δ p t ((cdL δ p).getD k 0)) - 1 = O at ro ne ⊢
              generalize nI ((cdL δ p).getD k 0) = U at rd p1
              simp [jX0_isWeak, bX0_isWeak_0, bX0_isWeak_1, bX0_isWeak_2, bX0_isWeak_3, bX0_isWeak_4, bX0_isWeak_5, i_aload, i_getf, i_iaload, i_iastore, i_iceq, i_icge, i_ifeq, i_ifne, i_iinc, i_iload, i_istore, i_jmp, i_push, i_zreturn, msk, lset1, lset2, clr, Value.category, Option.toList, List.cons_append, List.nil_append, List.length_cons, List.length_nil, e1, ek, gf_eq O2, gf_eq B2.1, rd, cvk_2 O2 p1, bI, gf_eq O3, gf_eq r3.1, ro, ne, nI_1])
    (fun s hI f => by
      obtain ⟨⟨any, ow, e1, a1, a2⟩, e2, e3⟩ := hI
      obtain ⟨O2, ⟨v2, d2, c2, o2, su2, tw2, r2, k2⟩, -⟩ := id e2
      have en := e2.end
      have wr := r2.2.1.wr (j := p) (by omega) (by decide) (nI (v0K δ p))
      refine ⟨_, ?_, en, e3.tr (Fr.wi _ _ _ _ (by unfold rg; omega))⟩
      rw [wkC_B] at e1
      generalize nI (cdL δ p).length = Ln at e1
      generalize nI (v0K δ p) = V at e1 wr ⊢
      generalize bI any = Y at e1
      have b01 : bI (wkB δ p t) = 0 ∨ bI (wkB δ p t) = 1 := by cases wkB δ p t <;> simp [bI]
      generalize bI (wkB δ p t) = X at e1 b01 ⊢
      simp [jX0_isWeak, bX0_isWeak_0, bX0_isWeak_1, bX0_isWeak_2, bX0_isWeak_3, bX0_isWeak_4, bX0_isWeak_5, i_aload, i_getf, i_iaload, i_iastore, i_iceq, i_icge, i_ifeq, i_ifne, i_iinc, i_iload, i_istore, i_jmp, i_push, i_zreturn, msk, lset1, lset2, clr, Value.category, Option.toList, List.cons_append, List.nil_append, List.length_cons, List.length_nil, e1, gf_eq O2, gf_eq r2.1, wr, b01])
  obtain ⟨w', p1, p2, p3⟩ := L (cdL δ p).length 0 (_, w1) (by omega) ⟨⟨false, -1, rfl, fun _ i hi => by omega, fun h => (by cases h)⟩, q2.an q3, F1⟩ N (by omega)
  refine ⟨w', ?_, p2, p3⟩
  have ew : wkC δ p t 0 = false := rfl
  simp only [nI_0, ew, bI, Bool.false_eq_true, if_false] at p1
  simp only [bI]
  rw [← p1]
  obtain ⟨h1, -⟩ := id h
  generalize nI (cdL δ p).length = Ln at q1 ⊢
  generalize nI (v0K δ p) = V at rv ⊢
  simp [fX0_isWeak, kX0_isWeak, ent, entp, jX0_isWeak, bX0_isWeak_0, bX0_isWeak_1, bX0_isWeak_2, bX0_isWeak_3, bX0_isWeak_4, bX0_isWeak_5, i_aload, i_getf, i_iaload, i_iastore, i_iceq, i_icge, i_ifeq, i_ifne, i_iinc, i_iload, i_istore, i_jmp, i_push, i_zreturn, msk, lset1, lset2, clr, Value.category, Option.toList, List.cons_append, List.nil_append, List.length_cons, List.length_nil, hN, cvk_1 h1 q1, gf_eq O1, gf_eq r1.1, rv]
