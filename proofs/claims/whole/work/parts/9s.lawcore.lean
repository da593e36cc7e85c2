/-! ===== the law: what holds between two calls ===== -/
def BYT (tp : Nat → Int32) : Prop := ∀ i, i < 600 → ∃ b, b < 256 ∧ tp i = nI b
def LWs (g : GE) (w : Mem) (B i c0 s0 : Nat) (s : SG) (lev nG : Nat) : Prop := CIS g w B (B + 312) s lev nG ∧ (∃ x, RIS w (B + 132) s x) ∧ (∃ c, LA w (B + 311) 1 c) ∧ GI s ∧ BYT s.2.2.2.1 ∧ w.2.1 ≤ c0 + ge1 nG (rwS s) + 2 * lev + 2 * i ∧ w.2.2 ≤ s0 + 20000 * ge1 nG (rwS s) + 40000 * lev + 10006 * i ∧ B + 312 ≤ w.2.1
def LWi (g : GE) (w : Mem) (B i c0 s0 : Nat) : Prop := ∃ s lev nG, LWs g w B i c0 s0 s lev nG
section
variable {g : GE} {w : Mem} {B i c0 s0 lev nG : Nat} {s s' : SG} {o : OUT}
theorem LWs.call (h : LWs g w B i c0 s0 s lev nG) {resC : Option (Rs × Mem)} (hC : CZ g w B (B + 312) s lev nG resC o s') (hgi : GI s') (hby : BYT s'.2.2.2.1) :
    ∃ w1, resC = some (rso o, w1) ∧ (∃ c, LA w1 (B + 311) 1 c) ∧ ∀ w1', Fr (fun q => q = B + 311) w1 w1' → (∃ c, LA w1' (B + 311) 1 c) → (∃ x, RIS w1' (B + 132) s x) ∧ ∀ w2 x2, RIS w2 (B + 132) s' x2 → Fr (rg (B + 132) (B + 132 + 179)) w1' w2 → LWi g w2 B (i + 1) c0 s0 := by
  obtain ⟨h1, ⟨x, h2⟩, ⟨c, h3⟩, -, -, h6, h7, h8⟩ := h
  obtain ⟨w1, lev', nG', e, hI, hA, r1, r2, r3⟩ := hC
  have K := hA.fr
  have n1 : ∀ j, j < 180 → ¬ (CF B (B + 312) (B + 132 + j) ∨ w.2.1 ≤ B + 132 + j) := fun j hj => by
    unfold CF rg
    omega
  have L1 : LA w1 (B + 311) 1 c := LA.fr (w := (w.1, w1.2)) h3 K (n1 179 (by decide))
  have R1 : RIS w1 (B + 132) s x := RI.fr (w := (w.1, w1.2)) h2 K fun j hj => n1 j (by omega)
  refine ⟨w1, e, ⟨c, L1⟩, fun w1' F1 hL1 => ⟨⟨x, RI.fr R1 F1 fun j hj => by omega⟩, fun w2 x2 hR2 F2 => ?_⟩⟩
  have C1 : CIS g w1' B (B + 312) s' lev' nG' := CI.fr hI F1 (fun j hj => by omega) (fun a ha => by omega)
  have C2 : CIS g w2 B (B + 312) s' lev' nG' := CI.fr C1 F2 (fun j hj => by unfold rg; omega) (fun a ha => by unfold rg; omega)
  obtain ⟨c1, hL1⟩ := hL1
  have e2 : w2.2 = w1.2 := F2.2.trans F1.2
  have a1 := hA.2.1
  refine ⟨s', lev', nG', C2, ⟨x2, hR2⟩, ⟨c1, hL1.fr F2 (by unfold rg; omega)⟩, hgi, hby, ?_, ?_, ?_⟩
  · rw [e2]; omega
  · rw [e2]; omega
  · rw [e2]; omega
/-- a call whose exceptions the law catches -/
theorem law_i (h : LWs g w B i c0 s0 s lev nG) {resC fl : Option (Rs × Mem)} {fr : Mem → Option (Rs × Mem)} (enc : Int32 → Int64) (hC : CZ g w B (B + 312) s lev nG resC o s') (hgi : GI s') (hby : BYT s'.2.2.2.1)
    (hR : ∀ w1 x, RIS w1 (B + 132) s x → RZo w1 (B + 132) (fr w1) o s') (hZ : ∀ w1 x p, RIS w1 (B + 132) s x → o = .inr p → ∃ w2, fr w1 = some (.inl (some (.int 0)), w2)) (sh : ∀ v, o = .inl v → ∃ y, v = .int y)
    (hret : ∀ v w1 w1', o = .inl (.int v) → resC = some (.inl (some (.int v)), w1) → sl w1 (B + 311) 0 (enc v) = some w1' → fl = some (.inl (some (.int 0)), w1')) (hthr : ∀ p w1, o = .inr p → resC = some (.inr (exn p.2), w1) → fl = some (.inl (some (.int (nI p.1))), w1) ∧ ¬ nI p.1 = 0) :
    ∃ k w1 x1 v w2 x2, fl = some (.inl (some (.int k)), w1) ∧ MO w1 (B + 132) x1 ∧ fr w1 = some (.inl (some (.int v)), w2) ∧ MO w2 (B + 132) x2 ∧ x2 0 = k ∧ (k = 0 → gl w2 (B + 311) 0 = some (enc v)) ∧ LWi g w2 B (i + 1) c0 s0 := by
  obtain ⟨w1, e1, ⟨c, L1⟩, H⟩ := h.call hC hgi hby
  cases ho : o with
  | inl v =>
    obtain ⟨y, rfl⟩ := sh v ho
    subst ho
    have s1 := L1.wr (j := 0) (by decide) (by decide) (enc y)
    have U := L1.up 0 (enc y)
    have F1 : Fr (fun q => q = B + 311) w1 (wl w1 (B + 311) 0 (enc y)) := Fr.wl _ _ _ rfl
    obtain ⟨⟨x, R1⟩, G⟩ := H _ F1 ⟨_, U⟩
    obtain ⟨w2, v2, x2, f1, f2, f3, f4, f5⟩ := hR _ x R1
    have := f4 _ rfl
    subst this
    have U2 := U.fr f5 (by unfold rg; omega)
    refine ⟨0, _, x, y, w2, x2, hret y w1 _ rfl e1 s1, R1.1, f1, f2.1, f3, fun _ => ?_, G w2 x2 f2 f5⟩
    rw [U2.rc 0 0 rfl (by decide) (by decide), va_up_self]
  | inr p =>
    subst ho
    obtain ⟨t1, t2⟩ := hthr p w1 rfl e1
    obtain ⟨⟨x, R1⟩, G⟩ := H w1 (Fr.rf _ _) ⟨c, L1⟩
    obtain ⟨w2, v2, x2, f1, f2, f3, f4, f5⟩ := hR _ x R1
    obtain ⟨w2', z1⟩ := hZ _ x p R1 rfl
    rw [f1] at z1
    cases z1
    exact ⟨_, w1, x, 0, w2, x2, t1, R1.1, f1, f2.1, f3, fun z => absurd z t2, G w2 x2 f2 f5⟩
/-- the same, of longs -/
theorem law_l (h : LWs g w B i c0 s0 s lev nG) {resC fl : Option (Rs × Mem)} {fr : Mem → Option (Rs × Mem)} (hC : CZ g w B (B + 312) s lev nG resC o s') (hgi : GI s') (hby : BYT s'.2.2.2.1)
    (hR : ∀ w1 x, RIS w1 (B + 132) s x → RZo w1 (B + 132) (fr w1) o s') (hZ : ∀ w1 x p, RIS w1 (B + 132) s x → o = .inr p → ∃ w2, fr w1 = some (.inl (some (.long 0)), w2)) (sh : ∀ v, o = .inl v → ∃ y, v = .long y)
    (hret : ∀ v w1 w1', o = .inl (.long v) → resC = some (.inl (some (.long v)), w1) → sl w1 (B + 311) 0 v = some w1' → fl = some (.inl (some (.int 0)), w1')) (hthr : ∀ p w1, o = .inr p → resC = some (.inr (exn p.2), w1) → fl = some (.inl (some (.int (nI p.1))), w1) ∧ ¬ nI p.1 = 0) :
    ∃ k w1 x1 v w2 x2, fl = some (.inl (some (.int k)), w1) ∧ MO w1 (B + 132) x1 ∧ fr w1 = some (.inl (some (.long v)), w2) ∧ MO w2 (B + 132) x2 ∧ x2 0 = k ∧ (k = 0 → gl w2 (B + 311) 0 = some v) ∧ LWi g w2 B (i + 1) c0 s0 := by
  obtain ⟨w1, e1, ⟨c, L1⟩, H⟩ := h.call hC hgi hby
  cases ho : o with
  | inl v =>
    obtain ⟨y, rfl⟩ := sh v ho
    subst ho
    have s1 := L1.wr (j := 0) (by decide) (by decide) y
    have U := L1.up 0 y
    have F1 : Fr (fun q => q = B + 311) w1 (wl w1 (B + 311) 0 y) := Fr.wl _ _ _ rfl
    obtain ⟨⟨x, R1⟩, G⟩ := H _ F1 ⟨_, U⟩
    obtain ⟨w2, v2, x2, f1, f2, f3, f4, f5⟩ := hR _ x R1
    have := f4 _ rfl
    subst this
    have U2 := U.fr f5 (by unfold rg; omega)
    refine ⟨0, _, x, y, w2, x2, hret y w1 _ rfl e1 s1, R1.1, f1, f2.1, f3, fun _ => ?_, G w2 x2 f2 f5⟩
    rw [U2.rc 0 0 rfl (by decide) (by decide), va_up_self]
  | inr p =>
    subst ho
    obtain ⟨t1, t2⟩ := hthr p w1 rfl e1
    obtain ⟨⟨x, R1⟩, G⟩ := H w1 (Fr.rf _ _) ⟨c, L1⟩
    obtain ⟨w2, v2, x2, f1, f2, f3, f4, f5⟩ := hR _ x R1
    obtain ⟨w2', z1⟩ := hZ _ x p R1 rfl
    rw [f1] at z1
    cases z1
    exact ⟨_, w1, x, 0, w2, x2, t1, R1.1, f1, f2.1, f3, fun z => absurd z t2, G w2 x2 f2 f5⟩
/-- a call that never throws -/
theorem law_d (h : LWs g w B i c0 s0 s lev nG) {resC : Option (Rs × Mem)} {fr : Mem → Option (Rs × Mem)} (hC : CZ g w B (B + 312) s lev nG resC o s') (hgi : GI s') (hby : BYT s'.2.2.2.1)
    (hR : ∀ w1 x, RIS w1 (B + 132) s x → RZo w1 (B + 132) (fr w1) o s') (sh : ∃ y, o = .inl (.int y)) :
    ∃ v w1 x1 w2, resC = some (.inl (some (.int v)), w1) ∧ MO w1 (B + 132) x1 ∧ fr w1 = some (.inl (some (.int v)), w2) ∧ LWi g w2 B (i + 1) c0 s0 := by
  obtain ⟨w1, e1, hL, H⟩ := h.call hC hgi hby
  obtain ⟨y, rfl⟩ := sh
  obtain ⟨⟨x, R1⟩, G⟩ := H w1 (Fr.rf _ _) hL
  obtain ⟨w2, v2, x2, f1, f2, f3, f4, f5⟩ := hR _ x R1
  have := f4 _ rfl
  subst this
  exact ⟨y, w1, x, w2, e1, R1.1, f1, G w2 x2 f2 f5⟩
theorem LWs.ob (h : LWs g w B i c0 s0 s lev nG) : ∃ fs, OB w B 9 fs := by
  obtain ⟨⟨D, D', hCC, -⟩, -⟩ := h
  exact ⟨_, hCC.2.1⟩
theorem LWs.wf (h : LWs g w B i c0 s0 s lev nG) : WF s.2.2.2.2.2.1 ∧ s.1 ≤ 600 ∧ s.2.1 ≤ 3 := by
  obtain ⟨⟨D, D', ⟨-, -, -, -, -, -, -, h8, h9, h10⟩, -⟩, -⟩ := h
  exact ⟨h8, h9, h10⟩
end
/-! what is kept stays in its bounds -/
theorem TV.z {δ : DE} {f : Nat → Nat → Nat} {c : Nat → Nat} (h0 : c 0 = 0) (h1 : c 1 = 0) : TV δ (c, f) := ⟨by show c 0 ≤ 12; omega, by show c 1 ≤ 8; omega, fun k hk => absurd hk (by show ¬ k < c 0; omega), fun k hk => absurd hk (by show ¬ k < c 1; omega)⟩
theorem TV.cp {δ : DE} {τ : TE} (hd : WF δ) (h : TV δ τ) (x0 x1 x2 : Int32) : TV δ (copyR δ τ x0 x1 x2).2 := by
  obtain ⟨h1, h2, h3, h4⟩ := id h
  have b3 := hd.1.2.2.2.1
  unfold copyR
  split
  · exact h
  · next b hb =>
    split
    · exact h
    · next hh hhh =>
      split
      · exact h
      · next tt ht =>
        split
        · exact h
        · next z =>
          have lb := (rng_some (by omega) hb).1
          have lh := (rng_some (by decide) hhh).1
          have l9 := tlb_le hd b
          have lt := (rng_some (by omega) ht).1
          have e : (tcp τ hh b tt).1 1 = τ.1 1 := rfl
          refine ⟨?_, ?_, fun k hk => ?_, fun k hk => ?_⟩
          · show τ.1 0 + 1 ≤ 12
            omega
          · show τ.1 1 ≤ 8
            omega
          · have hk' : k < τ.1 0 + 1 := hk
            by_cases y : k = τ.1 0
            · subst y
              simp [tcp, lh, lb]
              omega
            · simp [tcp, y]
              exact h3 k (by omega)
          · have hk' : k < τ.1 1 := hk
            have := h4 k hk'
            simp only [tcp]
            by_cases y : k = τ.1 0
            · simp only [y, if_true]
              rw [y] at this
              exact this
            · simp only [y, if_false]
              exact this
theorem TV.hb {δ : DE} {τ : TE} (h : TV δ τ) (x0 x1 x2 x3 : Int32) : TV δ (habitR τ x0 x1 x2 x3).2 := by
  obtain ⟨h1, h2, h3, h4⟩ := id h
  unfold habitR
  split
  · exact h
  · next a ha =>
    split
    · exact h
    · next b hb =>
      split
      · exact h
      · next c hc =>
        split
        · exact h
        · next z =>
          split
          · exact h
          · next p hp =>
            split
            · exact h
            · next y =>
              split
              · exact h
              · next u =>
                have la := (rng_some (by decide) ha).1
                have lb := (rng_some (by decide) hb).1
                have lc := (rng_some (by decide) hc).1
                have lp := (rng_some (by decide) hp).1
                refine ⟨?_, ?_, fun k hk => ?_, fun k hk => ?_⟩
                · show τ.1 0 ≤ 12
                  omega
                · show τ.1 1 + 1 ≤ 8
                  omega
                · have hk' : k < τ.1 0 := hk
                  have := h3 k hk'
                  simp only [thb]
                  by_cases v : k = τ.1 1
                  · simp only [v, if_true]
                    rw [v] at this
                    exact this
                  · simp only [v, if_false]
                    exact this
                · have hk' : k < τ.1 1 + 1 := hk
                  by_cases v : k = τ.1 1
                  · subst v
                    simp [thb, la, lb, lc, z]
                    omega
                  · simp [thb, v]
                    exact h4 k (by omega)
theorem BYT.fd {fed : Nat} {tp : Nat → Int32} (h : BYT tp) (a b c d e : Int32) : BYT (feedR fed tp a b c d e).2.2 := by
  unfold feedR
  split
  · exact h
  · intro i hi
    show ∃ q, q < 256 ∧ tpF tp fed a b c d e 20 i = nI q
    unfold tpF
    split
    · exact byB_n _ _
    · exact h i hi
def TTx (tp : Nat → Int32) : Nat → Nat := fun i => (tp i).toNatClampNeg
theorem BYT.tt {tp : Nat → Int32} (h : BYT tp) {i : Nat} (hi : i < 600) : nI (TTx tp i) = tp i ∧ TTx tp i < 256 := by
  obtain ⟨b, h1, h2⟩ := h i hi
  unfold TTx
  rw [h2, nI_clamp (by omega)]
  exact ⟨rfl, h1⟩
theorem BYT.txt {w : Mem} {a : Nat} {tp : Nat → Int32} (h : BYT tp) (hI : IA w a 600 tp) : TXT w a (TTx tp) := ⟨hI.cg fun i hi => (h.tt hi).1.symm, fun i hi => (h.tt hi).2⟩
