/-! ===== the states of both sides ===== -/
abbrev TE : Type := (Nat → Nat) × (Nat → Nat → Nat)
def cntF (p : Nat → Bool) : Nat → Nat
  | 0 => 0
  | n + 1 => cntF p n + if p n = true then 1 else 0
theorem cntF_le (p : Nat → Bool) : ∀ n, cntF p n ≤ n
  | 0 => Nat.le_refl _
  | n + 1 => by
    have := cntF_le p n
    unfold cntF
    split <;> omega
def skK (δ : DE) (k : Nat) : Nat := cntF (fun m => brK δ (nI k) (δ.1 4) (vr δ m) == 0) (δ.1 6)
def sameD (δ : DE) (set i j : Nat) : Bool := (List.range (δ.1 3)).all fun b => !(set.testBit b) || dgR δ i b == dgR δ j b
def tlB (δ : DE) (set t : Nat) : Bool := (List.range (nR δ)).all fun i => (List.range (nR δ)).all fun j => !(sameD δ set i j) || owR δ i t == owR δ j t
def fwF (δ : DE) (t : Nat) : Nat → Nat
  | 0 => 2 ^ (δ.1 3) - 1
  | s + 1 => if pc8 s < pc8 (fwF δ t s) ∧ tlB δ s t = true then s else fwF δ t s
def fwK (δ : DE) (t : Nat) : Nat := fwF δ t (2 ^ (δ.1 3) - 1)
def TS (w : Mem) (a : Nat) (τ : TE) : Prop := OB w a 8 [.ref (a + 1), .ref (a + 2), .ref (a + 3), .ref (a + 4), .ref (a + 5), .ref (a + 6), .ref (a + 7), .int (nI (τ.1 0)), .int (nI (τ.1 1))]
  ∧ (∀ k, k < 3 → IA w (a + 1 + k) 12 (fun i => nI (τ.2 k i))) ∧ (∀ k, k < 4 → IA w (a + 4 + k) 8 (fun i => nI (τ.2 (3 + k) i)))
theorem TS.fr {S : Nat → Prop} {w w1 : Mem} {a : Nat} {τ : TE} (h : TS w a τ) (k : Fr S w w1) (q : ∀ i, i < 8 → ¬ S (a + i)) : TS w1 a τ := by
  refine ⟨k.at h.1 (q 0 (by decide)), fun i hi => (h.2.1 i hi).fr k ?_, fun i hi => (h.2.2 i hi).fr k ?_⟩
  · have := q (1 + i) (by omega)
    rwa [← Nat.add_assoc] at this
  · have := q (4 + i) (by omega)
    rwa [← Nat.add_assoc] at this
def SCR (w : Mem) (B : Nat) : Prop := ∃ l a s c d k p, OB w (B + 72) 6 [.ref (B + 1), .int l, .int a, .int s, .long c, .ref d, .int k, .int p]
abbrev BD (w : Mem) (B D D' fed kept : Nat) (fp : Int32) : Prop := OB w B 9 [.ref (B + 1), .int (nI fed), .ref (B + 72), .ref D, .ref D', .ref (B + 73), .ref (B + 87), .ref (B + 95), .ref (B + 98), .ref (B + 106), .int (nI kept), .int fp, .ref (B + 131)]
def CC (g : GE) (w : Mem) (B D D' fed kept : Nat) (fp : Int32) (tp : Nat → Int32) (rf : Nat → Nat) (δ : DE) : Prop :=
  ((D = B + 2 ∧ D' = B + 37) ∨ (D = B + 37 ∧ D' = B + 2)) ∧ BD w B D D' fed kept fp ∧ IA w (B + 1) 600 tp ∧ DEED g w D δ ∧ (∃ δ', DEED g w D' δ') ∧ SCR w B ∧ IA w (B + 131) 3 (fun i => nI (rf i)) ∧ WF δ ∧ fed ≤ 600 ∧ kept ≤ 3
def TX (w : Mem) (B aG nG : Nat) (δ : DE) : Prop := (∃ c, IA w (B + 77) 8 c) ∧ (∃ v d c o su tw, ROW w (B + 78) v d c o su tw) ∧ (∃ c, IA w (B + 83) 100 c) ∧ (∃ c, IA w (B + 84) 9 c ∧ ∀ k, k < δ.1 2 → c k = -1 ∨ c k = nI (skK δ k)) ∧ (∃ c, IA w (B + 85) 5 c ∧ ∀ t, t < δ.1 1 → c t = -1 ∨ c t = nI (fwK δ t)) ∧ (∃ c, AR 2 w aG nG c) ∧ nG ≤ 20000
def CT (g : GE) (w : Mem) (B E D : Nat) (δ : DE) (lev nG : Nat) : Prop := ∃ aM aS aG n1, GT g w (B + 73) E D δ (δ.1 6) aM aS aG n1 lev ∧ TX w B aG nG δ
def CN (w : Mem) (B : Nat) : Prop := (∃ d, OB w (B + 87) 0 [.ref (B + 88), .ref (B + 93), .ref d]) ∧ (∃ v d c o su tw, ROW w (B + 88) v d c o su tw) ∧ (∃ a b c d e, OB w (B + 93) 1 [.ref (B + 94), .int a, .int b, .int c, .int d, .int e]) ∧ (∃ c, IA w (B + 94) 100 c)
def CL (w : Mem) (B : Nat) : Prop := (∃ b, OB w (B + 95) 5 [.ref (B + 96), .ref (B + 97), .int b]) ∧ (∃ c, LA w (B + 96) 800 c) ∧ (∃ c, IA w (B + 97) 800 c)
def CM (w : Mem) (B : Nat) (τ : TE) (im : Nat → TE) : Prop := TS w (B + 98) τ ∧ RA 7 w (B + 106) 3 (fun i => B + 107 + 8 * i) ∧ (∀ i, i < 3 → TS w (B + 107 + 8 * i) (im i))
theorem CC.fr {g : GE} {S : Nat → Prop} {w w1 : Mem} {B D D' fed kept : Nat} {fp : Int32} {tp : Nat → Int32} {rf : Nat → Nat} {δ : DE} (h : CC g w B D D' fed kept fp tp rf δ) (k : Fr S w w1) (q : ∀ i, i < 73 → ¬ S (B + i)) (q2 : ¬ S (B + 131)) : CC g w1 B D D' fed kept fp tp rf δ := by
  obtain ⟨h1, h2, h3, h4, ⟨δ', h5⟩, ⟨l, a, s, c, d, kk, p, h6⟩, h7, h8, h9, h10⟩ := h
  refine ⟨h1, k.at h2 (q 0 (by decide)), h3.fr k (q 1 (by decide)), h4.fr k fun i hi => ?_, ⟨δ', h5.fr k fun i hi => ?_⟩, ⟨l, a, s, c, d, kk, p, k.at h6 (q 72 (by decide))⟩, h7.fr k q2, h8, h9, h10⟩
  · rcases h1 with ⟨e, -⟩ | ⟨e, -⟩ <;> subst e <;> rw [Nat.add_assoc] <;> exact q _ (by omega)
  · rcases h1 with ⟨-, e⟩ | ⟨-, e⟩ <;> subst e <;> rw [Nat.add_assoc] <;> exact q _ (by omega)
theorem CN.fr {S : Nat → Prop} {w w1 : Mem} {B : Nat} (h : CN w B) (k : Fr S w w1) (q : ∀ i, 87 ≤ i → i < 95 → ¬ S (B + i)) : CN w1 B := by
  obtain ⟨⟨d1, h1⟩, ⟨v, d, c, o, su, tw, h2⟩, ⟨a, b, c', d', e, h3⟩, ⟨c4, h4⟩⟩ := h
  refine ⟨⟨d1, k.at h1 (q 87 (by decide) (by decide))⟩, ⟨v, d, c, o, su, tw, h2.fr k fun i hi => ?_⟩, ⟨a, b, c', d', e, k.at h3 (q 93 (by decide) (by decide))⟩, ⟨c4, h4.fr k (q 94 (by decide) (by decide))⟩⟩
  rw [Nat.add_assoc]
  exact q _ (by omega) (by omega)
theorem CL.fr {S : Nat → Prop} {w w1 : Mem} {B : Nat} (h : CL w B) (k : Fr S w w1) (q : ∀ i, 95 ≤ i → i < 98 → ¬ S (B + i)) : CL w1 B := by
  obtain ⟨⟨d1, h1⟩, ⟨c2, h2⟩, ⟨c3, h3⟩⟩ := h
  exact ⟨⟨d1, k.at h1 (q 95 (by decide) (by decide))⟩, ⟨c2, h2.fr k (q 96 (by decide) (by decide))⟩, ⟨c3, h3.fr k (q 97 (by decide) (by decide))⟩⟩
theorem CM.fr {S : Nat → Prop} {w w1 : Mem} {B : Nat} {τ : TE} {im : Nat → TE} (h : CM w B τ im) (k : Fr S w w1) (q : ∀ i, 98 ≤ i → i < 131 → ¬ S (B + i)) : CM w1 B τ im := by
  obtain ⟨h1, h2, h3⟩ := h
  refine ⟨h1.fr k fun i hi => ?_, h2.fr k (q 106 (by decide) (by decide)), fun j hj => (h3 j hj).fr k fun i hi => ?_⟩
  · rw [Nat.add_assoc]
    exact q _ (by omega) (by omega)
  · have := q (107 + 8 * j + i) (by omega) (by omega)
    rwa [← Nat.add_assoc, ← Nat.add_assoc] at this
theorem TX.fr {S : Nat → Prop} {w w1 : Mem} {B aG nG : Nat} {δ : DE} (h : TX w B aG nG δ) (k : Fr S w w1) (q : ∀ i, 77 ≤ i → i < 86 → ¬ S (B + i)) (q2 : ¬ S aG) : TX w1 B aG nG δ := by
  obtain ⟨⟨c1, h1⟩, ⟨v, d, c, o, su, tw, h2⟩, ⟨c3, h3⟩, ⟨c4, h4, k4⟩, ⟨c5, h5, k5⟩, ⟨c6, h6⟩, h7⟩ := h
  refine ⟨⟨c1, h1.fr k (q 77 (by decide) (by decide))⟩, ⟨v, d, c, o, su, tw, h2.fr k fun i hi => ?_⟩, ⟨c3, h3.fr k (q 83 (by decide) (by decide))⟩, ⟨c4, h4.fr k (q 84 (by decide) (by decide)), k4⟩, ⟨c5, h5.fr k (q 85 (by decide) (by decide)), k5⟩, ⟨c6, h6.fr k q2⟩, h7⟩
  rw [Nat.add_assoc]
  exact q _ (by omega) (by omega)
theorem TA.in {w : Mem} {tb E aM aS aG : Nat} (h : TA w tb E aM aS aG) : (rg tb (tb + 14) aM ∨ E ≤ aM) ∧ (rg tb (tb + 14) aS ∨ E ≤ aS) ∧ (rg tb (tb + 14) aG ∨ E ≤ aG) := by
  obtain ⟨h1, h2, h3, -⟩ := h
  unfold rg
  refine ⟨?_, ?_, ?_⟩ <;> omega
theorem CT.fr {g : GE} {S : Nat → Prop} {w w1 : Mem} {B E D : Nat} {δ : DE} {lev nG : Nat} (h : CT g w B E D δ lev nG) (k : Fr S w w1) (q : ∀ i, 73 ≤ i → i < 87 → ¬ S (B + i)) (q2 : ∀ a, E ≤ a → ¬ S a) : CT g w1 B E D δ lev nG := by
  obtain ⟨aM, aS, aG, n1, hG, hX⟩ := h
  obtain ⟨fM, fS, hT, hM, hSh, hA, -⟩ := id hG
  have q3 : ∀ a, rg (B + 73) (B + 73 + 14) a ∨ E ≤ a → ¬ S a := fun a ha => by
    rcases ha with ⟨z1, z2⟩ | z
    · obtain ⟨i, rfl⟩ : ∃ i, a = B + i := ⟨a - B, by omega⟩
      exact q i (by omega) (by omega)
    · exact q2 a z
  exact ⟨aM, aS, aG, n1, hG.fr k (q 73 (by decide) (by decide)) (q3 _ hA.in.1) (q3 _ hA.in.2.1) (q 76 (by decide) (by decide)), hX.fr k (fun i h1 h2 => q i (by omega) (by omega)) (q3 _ hA.in.2.2)⟩
/-- the class as it stands -/
def CI (g : GE) (w : Mem) (B E fed kept : Nat) (fp : Int32) (tp : Nat → Int32) (rf : Nat → Nat) (δ : DE) (τ : TE) (im : Nat → TE) (lev nG : Nat) : Prop :=
  ∃ D D', CC g w B D D' fed kept fp tp rf δ ∧ CT g w B E D δ lev nG ∧ CN w B ∧ CL w B ∧ CM w B τ im
theorem CI.fr {g : GE} {S : Nat → Prop} {w w1 : Mem} {B E fed kept : Nat} {fp : Int32} {tp : Nat → Int32} {rf : Nat → Nat} {δ : DE} {τ : TE} {im : Nat → TE} {lev nG : Nat} (h : CI g w B E fed kept fp tp rf δ τ im lev nG) (k : Fr S w w1) (q : ∀ i, i < 132 → ¬ S (B + i)) (q2 : ∀ a, E ≤ a → ¬ S a) : CI g w1 B E fed kept fp tp rf δ τ im lev nG := by
  obtain ⟨D, D', h1, h2, h3, h4, h5⟩ := h
  exact ⟨D, D', h1.fr k (fun i hi => q i (by omega)) (q 131 (by decide)), h2.fr k (fun i _ hi => q i (by omega)) q2, h3.fr k fun i _ hi => q i (by omega), h4.fr k fun i _ hi => q i (by omega), h5.fr k fun i _ hi => q i (by omega)⟩
/-! the reference's -/
def RP (w : Mem) (M : Nat) : Prop := (∃ c, IA w (M + 3) 7 c) ∧ (∃ c, IA w (M + 5) 9 c) ∧ (∃ c, IA w (M + 7) 5 c) ∧ (∃ c, IA w (M + 9) 4 c) ∧ (∃ c, LA w (M + 11) 9 c) ∧ (∃ c, GRD w (M + 12) 9 3 c) ∧ (∃ c, GRD w (M + 32) 36 3 c) ∧ (∃ c, GRD w (M + 106) 8 5 c) ∧ (∃ c, GRD w (M + 124) 8 100 c)
theorem RP.fr {S : Nat → Prop} {w w1 : Mem} {M : Nat} (h : RP w M) (k : Fr S w w1) (q : ∀ i, 3 ≤ i → i < 133 → ¬ S (M + i)) : RP w1 M := by
  obtain ⟨⟨c1, h1⟩, ⟨c2, h2⟩, ⟨c3, h3⟩, ⟨c4, h4⟩, ⟨c5, h5⟩, ⟨c6, h6⟩, ⟨c7, h7⟩, ⟨c8, h8⟩, ⟨c9, h9⟩⟩ := h
  refine ⟨⟨c1, h1.fr k (q 3 (by decide) (by decide))⟩, ⟨c2, h2.fr k (q 5 (by decide) (by decide))⟩, ⟨c3, h3.fr k (q 7 (by decide) (by decide))⟩, ⟨c4, h4.fr k (q 9 (by decide) (by decide))⟩, ⟨c5, h5.fr k (q 11 (by decide) (by decide))⟩, ⟨c6, h6.fr k fun i hi => ?_⟩, ⟨c7, h7.fr k fun i hi => ?_⟩, ⟨c8, h8.fr k fun i hi => ?_⟩, ⟨c9, h9.fr k fun i hi => ?_⟩⟩ <;> rw [Nat.add_assoc] <;> exact q _ (by omega) (by omega)
/-- an image as the reference keeps it -/
def KP (c : Nat → Int32) (τ : TE) : Prop := c 0 = nI (τ.1 0) ∧ c 1 = nI (τ.1 1) ∧ (∀ k i, k < 12 → i < 3 → c (2 + 3 * k + i) = nI (τ.2 i k)) ∧ (∀ k i, k < 8 → i < 4 → c (38 + 4 * k + i) = nI (τ.2 (3 + i) k))
/-- what queries of the reference write: its scratch -/
def RZ (w : Mem) (M : Nat) : Prop := RSC w M ∧ (∃ c, IA w (M + 175) 100 c) ∧ (∃ c, IA w (M + 176) 20000 c) ∧ (∃ c, AR 3 w (M + 177) 20000 c) ∧ (∃ c, IA w (M + 178) 8 c)
theorem RZ.fr {S : Nat → Prop} {w w1 : Mem} {M : Nat} (h : RZ w M) (k : Fr S w w1) (q : ∀ i, 172 ≤ i → i < 179 → ¬ S (M + i)) : RZ w1 M := by
  obtain ⟨h0, ⟨c1, h1⟩, ⟨c2, h2⟩, ⟨c3, h3⟩, ⟨c4, h4⟩⟩ := h
  exact ⟨h0.fr k fun i h1 h2 => q i h1 (by omega), ⟨c1, h1.fr k (q 175 (by decide) (by decide))⟩, ⟨c2, h2.fr k (q 176 (by decide) (by decide))⟩, ⟨c3, h3.fr k (q 177 (by decide) (by decide))⟩, ⟨c4, h4.fr k (q 178 (by decide) (by decide))⟩⟩
/-- what the reference keeps from call to call, but for its object, its scratch and its refusals -/
def RK' (w : Mem) (M kept : Nat) (tp : Nat → Int32) (δ : DE) (τ : TE) (im : Nat → TE) : Prop := IA w (M + 1) 600 tp ∧ RD w M δ ∧ RT w M δ (δ.1 6) ∧ GRD w (M + 146) 12 3 (fun k i => nI (τ.2 i k)) ∧ GRD w (M + 159) 8 4 (fun k i => nI (τ.2 (3 + i) k)) ∧ (∃ c, GRD w (M + 168) 3 70 c ∧ ∀ i, i < kept → KP (c i) (im i)) ∧ RP w M
theorem RK'.fr {S : Nat → Prop} {w w1 : Mem} {M kept : Nat} {tp : Nat → Int32} {δ : DE} {τ : TE} {im : Nat → TE} (h : RK' w M kept tp δ τ im) (k : Fr S w w1) (q : ∀ i, 1 ≤ i → i < 172 → i ≠ 2 → ¬ S (M + i)) : RK' w1 M kept tp δ τ im := by
  obtain ⟨h1, h2, h3, h4, h5, ⟨c, h6, k6⟩, h7⟩ := h
  refine ⟨h1.fr k (q 1 (by decide) (by decide) (by decide)), h2.fr k fun i h1 h2 => q i (by omega) (by omega) (by omega), h3.fr k fun i h1 h2 => q i (by omega) (by omega) (by omega), h4.fr k fun i hi => ?_, h5.fr k fun i hi => ?_, ⟨c, h6.fr k fun i hi => ?_, k6⟩, h7.fr k fun i h1 h2 => q i (by omega) (by omega) (by omega)⟩ <;> rw [Nat.add_assoc] <;> exact q _ (by omega) (by omega) (by omega)
def XO (x : Nat → Int32) (fed kept : Nat) (fp : Int32) (δ : DE) (τ : TE) : Prop := x 1 = nI fed ∧ x 3 = fp ∧ x 27 = nI (nR δ) ∧ x 32 = nI (τ.1 0) ∧ x 33 = nI (τ.1 1) ∧ x 34 = nI kept
def RI (w : Mem) (M fed kept : Nat) (fp : Int32) (tp : Nat → Int32) (rf : Nat → Nat) (δ : DE) (τ : TE) (im : Nat → TE) (x : Nat → Int32) : Prop :=
  MO w M x ∧ XO x fed kept fp δ τ ∧ RK' w M kept tp δ τ im ∧ RZ w M ∧ IA w (M + 2) 3 (fun i => nI (rf i))
theorem RI.fr {S : Nat → Prop} {w w1 : Mem} {M fed kept : Nat} {fp : Int32} {tp : Nat → Int32} {rf : Nat → Nat} {δ : DE} {τ : TE} {im : Nat → TE} {x : Nat → Int32} (h : RI w M fed kept fp tp rf δ τ im x) (k : Fr S w w1) (q : ∀ i, i < 179 → ¬ S (M + i)) : RI w1 M fed kept fp tp rf δ τ im x := by
  obtain ⟨h1, h2, h3, h4, h5⟩ := h
  exact ⟨k.at h1 (q 0 (by decide)), h2, h3.fr k (fun i _ hi _ => q i (by omega)), h4.fr k (fun i _ hi => q i (by omega)), h5.fr k (q 2 (by decide))⟩
