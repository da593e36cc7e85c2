/-! ===== what the scribe writes into a deed ===== -/
theorem dT_e {δ : DE} {k i v k' : Nat} (h : k' ≠ k) : (dT δ k i v).2 k' = δ.2 k' := by
  funext m
  rw [dT_2, if_neg h]
theorem DEED.cn {g : GE} {w : Mem} {D : Nat} {δ : DE} (h : DEED g w D δ) (c : Nat → Nat) : DEED g (mset w D (.inr (2, [.ref (D + 1), .ref (D + 2), .ref (D + 3), .ref (D + 4), .ref (D + 5), .ref (D + 6), .ref (D + 7), .ref (D + 8), .ref (D + 9), .int (nI (c 0)), .int (nI (c 1)), .int (nI (c 2)), .int (nI (c 5)), .int (nI (c 3)), .int (nI (c 4)), .int (nI (c 6))]))) D (c, δ.2) := by
  obtain ⟨h0, h1, h2, h3, h4, h5, h6, h7, h8, h9, hp, hb, hv⟩ := h
  have F : Fr (fun q => q = D) w (mset w D (.inr (2, [.ref (D + 1), .ref (D + 2), .ref (D + 3), .ref (D + 4), .ref (D + 5), .ref (D + 6), .ref (D + 7), .ref (D + 8), .ref (D + 9), .int (nI (c 0)), .int (nI (c 1)), .int (nI (c 2)), .int (nI (c 5)), .int (nI (c 3)), .int (nI (c 4)), .int (nI (c 6))]))) := Fr.ms _ _ rfl
  exact ⟨ms_at _ _ _, h1.fr F (by omega), h2.fr F (by omega), h3.fr F (by omega), h4.fr F (by omega), h5.fr F (by omega), h6.fr F (by omega), h7.fr F (by omega), h8.fr F (by omega), h9.fr F (by omega), fun k hk => F.at (hp k hk) (by omega), fun k hk => F.at (hb k hk) (by omega), fun k hk => (hv k hk).fr F (by omega)⟩
theorem DEED.t13 {g : GE} {w : Mem} {D : Nat} {δ : DE} (h : DEED g w D δ) (i v : Nat) : DEED g (wl w (D + 1) i (lN v)) D (dT δ 13 i v) := by
  obtain ⟨h0, h1, h2, h3, h4, h5, h6, h7, h8, h9, hp, hb, hv⟩ := h
  have F : Fr (fun q => q = D + 1) w (wl w (D + 1) i (lN v)) := Fr.wl _ _ _ rfl
  have e : ∀ k', k' ≠ 13 → (dT δ 13 i v).2 k' = δ.2 k' := fun k' hk => dT_e hk
  refine ⟨F.at h0 (by omega), ?_, ?_, ?_, ?_, ?_, ?_, ?_, ?_, ?_, fun q hq => ?_, fun q hq => ?_, fun q hq => ?_⟩
  · exact (h1.up i (lN v)).cg fun j hj => by
      rw [dT_2, if_pos rfl]
      unfold va_up
      split <;> rfl
  · rw [e 0 (by decide)]; exact h2.fr F (by omega)
  · rw [e 1 (by decide)]; exact h3.fr F (by omega)
  · rw [e 14 (by decide)]; exact h4.fr F (by omega)
  · rw [e 2 (by decide)]; exact h5.fr F (by omega)
  · exact h6.fr F (by omega)
  · rw [e 6 (by decide)]; exact h7.fr F (by omega)
  · rw [e 7 (by decide)]; exact h8.fr F (by omega)
  · exact h9.fr F (by omega)
  · rw [e 3 (by decide), e 4 (by decide), e 5 (by decide)]; exact F.at (hp q hq) (by omega)
  · rw [e 8 (by decide), e 9 (by decide), e 10 (by decide), e 11 (by decide), e 12 (by decide)]; exact F.at (hb q hq) (by omega)
  · rw [e (20 + q) (by omega)]; exact (hv q hq).fr F (by omega)
theorem DEED.t0 {g : GE} {w : Mem} {D : Nat} {δ : DE} (h : DEED g w D δ) (i v : Nat) : DEED g (wi w 0 (D + 2) i (nI v)) D (dT δ 0 i v) := by
  obtain ⟨h0, h1, h2, h3, h4, h5, h6, h7, h8, h9, hp, hb, hv⟩ := h
  have F : Fr (fun q => q = D + 2) w (wi w 0 (D + 2) i (nI v)) := Fr.wi _ _ _ _ rfl
  have e : ∀ k', k' ≠ 0 → (dT δ 0 i v).2 k' = δ.2 k' := fun k' hk => dT_e hk
  refine ⟨F.at h0 (by omega), ?_, ?_, ?_, ?_, ?_, ?_, ?_, ?_, ?_, fun q hq => ?_, fun q hq => ?_, fun q hq => ?_⟩
  · rw [e 13 (by decide)]; exact h1.fr F (by omega)
  · exact (h2.up i (nI v)).cg fun j hj => by
      rw [dT_2, if_pos rfl]
      unfold va_up
      split <;> rfl
  · rw [e 1 (by decide)]; exact h3.fr F (by omega)
  · rw [e 14 (by decide)]; exact h4.fr F (by omega)
  · rw [e 2 (by decide)]; exact h5.fr F (by omega)
  · exact h6.fr F (by omega)
  · rw [e 6 (by decide)]; exact h7.fr F (by omega)
  · rw [e 7 (by decide)]; exact h8.fr F (by omega)
  · exact h9.fr F (by omega)
  · rw [e 3 (by decide), e 4 (by decide), e 5 (by decide)]; exact F.at (hp q hq) (by omega)
  · rw [e 8 (by decide), e 9 (by decide), e 10 (by decide), e 11 (by decide), e 12 (by decide)]; exact F.at (hb q hq) (by omega)
  · rw [e (20 + q) (by omega)]; exact (hv q hq).fr F (by omega)
theorem DEED.t1 {g : GE} {w : Mem} {D : Nat} {δ : DE} (h : DEED g w D δ) (i v : Nat) : DEED g (wi w 0 (D + 3) i (nI v)) D (dT δ 1 i v) := by
  obtain ⟨h0, h1, h2, h3, h4, h5, h6, h7, h8, h9, hp, hb, hv⟩ := h
  have F : Fr (fun q => q = D + 3) w (wi w 0 (D + 3) i (nI v)) := Fr.wi _ _ _ _ rfl
  have e : ∀ k', k' ≠ 1 → (dT δ 1 i v).2 k' = δ.2 k' := fun k' hk => dT_e hk
  refine ⟨F.at h0 (by omega), ?_, ?_, ?_, ?_, ?_, ?_, ?_, ?_, ?_, fun q hq => ?_, fun q hq => ?_, fun q hq => ?_⟩
  · rw [e 13 (by decide)]; exact h1.fr F (by omega)
  · rw [e 0 (by decide)]; exact h2.fr F (by omega)
  · exact (h3.up i (nI v)).cg fun j hj => by
      rw [dT_2, if_pos rfl]
      unfold va_up
      split <;> rfl
  · rw [e 14 (by decide)]; exact h4.fr F (by omega)
  · rw [e 2 (by decide)]; exact h5.fr F (by omega)
  · exact h6.fr F (by omega)
  · rw [e 6 (by decide)]; exact h7.fr F (by omega)
  · rw [e 7 (by decide)]; exact h8.fr F (by omega)
  · exact h9.fr F (by omega)
  · rw [e 3 (by decide), e 4 (by decide), e 5 (by decide)]; exact F.at (hp q hq) (by omega)
  · rw [e 8 (by decide), e 9 (by decide), e 10 (by decide), e 11 (by decide), e 12 (by decide)]; exact F.at (hb q hq) (by omega)
  · rw [e (20 + q) (by omega)]; exact (hv q hq).fr F (by omega)
theorem DEED.t14 {g : GE} {w : Mem} {D : Nat} {δ : DE} (h : DEED g w D δ) (i v : Nat) : DEED g (wl w (D + 4) i (lN v)) D (dT δ 14 i v) := by
  obtain ⟨h0, h1, h2, h3, h4, h5, h6, h7, h8, h9, hp, hb, hv⟩ := h
  have F : Fr (fun q => q = D + 4) w (wl w (D + 4) i (lN v)) := Fr.wl _ _ _ rfl
  have e : ∀ k', k' ≠ 14 → (dT δ 14 i v).2 k' = δ.2 k' := fun k' hk => dT_e hk
  refine ⟨F.at h0 (by omega), ?_, ?_, ?_, ?_, ?_, ?_, ?_, ?_, ?_, fun q hq => ?_, fun q hq => ?_, fun q hq => ?_⟩
  · rw [e 13 (by decide)]; exact h1.fr F (by omega)
  · rw [e 0 (by decide)]; exact h2.fr F (by omega)
  · rw [e 1 (by decide)]; exact h3.fr F (by omega)
  · exact (h4.up i (lN v)).cg fun j hj => by
      rw [dT_2, if_pos rfl]
      unfold va_up
      split <;> rfl
  · rw [e 2 (by decide)]; exact h5.fr F (by omega)
  · exact h6.fr F (by omega)
  · rw [e 6 (by decide)]; exact h7.fr F (by omega)
  · rw [e 7 (by decide)]; exact h8.fr F (by omega)
  · exact h9.fr F (by omega)
  · rw [e 3 (by decide), e 4 (by decide), e 5 (by decide)]; exact F.at (hp q hq) (by omega)
  · rw [e 8 (by decide), e 9 (by decide), e 10 (by decide), e 11 (by decide), e 12 (by decide)]; exact F.at (hb q hq) (by omega)
  · rw [e (20 + q) (by omega)]; exact (hv q hq).fr F (by omega)
theorem DEED.t2 {g : GE} {w : Mem} {D : Nat} {δ : DE} (h : DEED g w D δ) (i v : Nat) : DEED g (wi w 0 (D + 5) i (nI v)) D (dT δ 2 i v) := by
  obtain ⟨h0, h1, h2, h3, h4, h5, h6, h7, h8, h9, hp, hb, hv⟩ := h
  have F : Fr (fun q => q = D + 5) w (wi w 0 (D + 5) i (nI v)) := Fr.wi _ _ _ _ rfl
  have e : ∀ k', k' ≠ 2 → (dT δ 2 i v).2 k' = δ.2 k' := fun k' hk => dT_e hk
  refine ⟨F.at h0 (by omega), ?_, ?_, ?_, ?_, ?_, ?_, ?_, ?_, ?_, fun q hq => ?_, fun q hq => ?_, fun q hq => ?_⟩
  · rw [e 13 (by decide)]; exact h1.fr F (by omega)
  · rw [e 0 (by decide)]; exact h2.fr F (by omega)
  · rw [e 1 (by decide)]; exact h3.fr F (by omega)
  · rw [e 14 (by decide)]; exact h4.fr F (by omega)
  · exact (h5.up i (nI v)).cg fun j hj => by
      rw [dT_2, if_pos rfl]
      unfold va_up
      split <;> rfl
  · exact h6.fr F (by omega)
  · rw [e 6 (by decide)]; exact h7.fr F (by omega)
  · rw [e 7 (by decide)]; exact h8.fr F (by omega)
  · exact h9.fr F (by omega)
  · rw [e 3 (by decide), e 4 (by decide), e 5 (by decide)]; exact F.at (hp q hq) (by omega)
  · rw [e 8 (by decide), e 9 (by decide), e 10 (by decide), e 11 (by decide), e 12 (by decide)]; exact F.at (hb q hq) (by omega)
  · rw [e (20 + q) (by omega)]; exact (hv q hq).fr F (by omega)
theorem DEED.t6 {g : GE} {w : Mem} {D : Nat} {δ : DE} (h : DEED g w D δ) (i v : Nat) : DEED g (wi w 0 (D + 7) i (nI v)) D (dT δ 6 i v) := by
  obtain ⟨h0, h1, h2, h3, h4, h5, h6, h7, h8, h9, hp, hb, hv⟩ := h
  have F : Fr (fun q => q = D + 7) w (wi w 0 (D + 7) i (nI v)) := Fr.wi _ _ _ _ rfl
  have e : ∀ k', k' ≠ 6 → (dT δ 6 i v).2 k' = δ.2 k' := fun k' hk => dT_e hk
  refine ⟨F.at h0 (by omega), ?_, ?_, ?_, ?_, ?_, ?_, ?_, ?_, ?_, fun q hq => ?_, fun q hq => ?_, fun q hq => ?_⟩
  · rw [e 13 (by decide)]; exact h1.fr F (by omega)
  · rw [e 0 (by decide)]; exact h2.fr F (by omega)
  · rw [e 1 (by decide)]; exact h3.fr F (by omega)
  · rw [e 14 (by decide)]; exact h4.fr F (by omega)
  · rw [e 2 (by decide)]; exact h5.fr F (by omega)
  · exact h6.fr F (by omega)
  · exact (h7.up i (nI v)).cg fun j hj => by
      rw [dT_2, if_pos rfl]
      unfold va_up
      split <;> rfl
  · rw [e 7 (by decide)]; exact h8.fr F (by omega)
  · exact h9.fr F (by omega)
  · rw [e 3 (by decide), e 4 (by decide), e 5 (by decide)]; exact F.at (hp q hq) (by omega)
  · rw [e 8 (by decide), e 9 (by decide), e 10 (by decide), e 11 (by decide), e 12 (by decide)]; exact F.at (hb q hq) (by omega)
  · rw [e (20 + q) (by omega)]; exact (hv q hq).fr F (by omega)
theorem DEED.t7 {g : GE} {w : Mem} {D : Nat} {δ : DE} (h : DEED g w D δ) (i v : Nat) : DEED g (wi w 0 (D + 8) i (nI v)) D (dT δ 7 i v) := by
  obtain ⟨h0, h1, h2, h3, h4, h5, h6, h7, h8, h9, hp, hb, hv⟩ := h
  have F : Fr (fun q => q = D + 8) w (wi w 0 (D + 8) i (nI v)) := Fr.wi _ _ _ _ rfl
  have e : ∀ k', k' ≠ 7 → (dT δ 7 i v).2 k' = δ.2 k' := fun k' hk => dT_e hk
  refine ⟨F.at h0 (by omega), ?_, ?_, ?_, ?_, ?_, ?_, ?_, ?_, ?_, fun q hq => ?_, fun q hq => ?_, fun q hq => ?_⟩
  · rw [e 13 (by decide)]; exact h1.fr F (by omega)
  · rw [e 0 (by decide)]; exact h2.fr F (by omega)
  · rw [e 1 (by decide)]; exact h3.fr F (by omega)
  · rw [e 14 (by decide)]; exact h4.fr F (by omega)
  · rw [e 2 (by decide)]; exact h5.fr F (by omega)
  · exact h6.fr F (by omega)
  · rw [e 6 (by decide)]; exact h7.fr F (by omega)
  · exact (h8.up i (nI v)).cg fun j hj => by
      rw [dT_2, if_pos rfl]
      unfold va_up
      split <;> rfl
  · exact h9.fr F (by omega)
  · rw [e 3 (by decide), e 4 (by decide), e 5 (by decide)]; exact F.at (hp q hq) (by omega)
  · rw [e 8 (by decide), e 9 (by decide), e 10 (by decide), e 11 (by decide), e 12 (by decide)]; exact F.at (hb q hq) (by omega)
  · rw [e (20 + q) (by omega)]; exact (hv q hq).fr F (by omega)
theorem DEED.t3 {g : GE} {w : Mem} {D : Nat} {δ : DE} (h : DEED g w D δ) {i : Nat} (hi : i < 9) (v : Nat) : DEED g (mset w (D + 10 + i) (.inr (3, [.ref (g.2.1 (4 + v)), .int (nI (δ.2 4 i)), .int (nI (δ.2 5 i))]))) D (dT δ 3 i v) := by
  obtain ⟨h0, h1, h2, h3, h4, h5, h6, h7, h8, h9, hp, hb, hv⟩ := h
  have F : Fr (fun q => q = D + 10 + i) w (mset w (D + 10 + i) (.inr (3, [.ref (g.2.1 (4 + v)), .int (nI (δ.2 4 i)), .int (nI (δ.2 5 i))]))) := Fr.ms _ _ rfl
  have e : ∀ k', k' ≠ 3 → (dT δ 3 i v).2 k' = δ.2 k' := fun k' hk => dT_e hk
  refine ⟨F.at h0 (by omega), ?_, ?_, ?_, ?_, ?_, ?_, ?_, ?_, ?_, fun q hq => ?_, fun q hq => ?_, fun q hq => ?_⟩
  · rw [e 13 (by decide)]; exact h1.fr F (by omega)
  · rw [e 0 (by decide)]; exact h2.fr F (by omega)
  · rw [e 1 (by decide)]; exact h3.fr F (by omega)
  · rw [e 14 (by decide)]; exact h4.fr F (by omega)
  · rw [e 2 (by decide)]; exact h5.fr F (by omega)
  · exact h6.fr F (by omega)
  · rw [e 6 (by decide)]; exact h7.fr F (by omega)
  · rw [e 7 (by decide)]; exact h8.fr F (by omega)
  · exact h9.fr F (by omega)
  · rw [e 4 (by decide), e 5 (by decide)]
    by_cases z : q = i
    · subst z
      rw [dT_2, if_pos rfl, if_pos rfl]
      exact ms_at _ _ _
    · rw [dT_2, if_pos rfl, if_neg z]
      exact F.at (hp q hq) (by omega)
  · rw [e 8 (by decide), e 9 (by decide), e 10 (by decide), e 11 (by decide), e 12 (by decide)]; exact F.at (hb q hq) (by omega)
  · rw [e (20 + q) (by omega)]; exact (hv q hq).fr F (by omega)
theorem DEED.t4 {g : GE} {w : Mem} {D : Nat} {δ : DE} (h : DEED g w D δ) {i : Nat} (hi : i < 9) (v : Nat) : DEED g (mset w (D + 10 + i) (.inr (3, [.ref (g.2.1 (4 + δ.2 3 i)), .int (nI v), .int (nI (δ.2 5 i))]))) D (dT δ 4 i v) := by
  obtain ⟨h0, h1, h2, h3, h4, h5, h6, h7, h8, h9, hp, hb, hv⟩ := h
  have F : Fr (fun q => q = D + 10 + i) w (mset w (D + 10 + i) (.inr (3, [.ref (g.2.1 (4 + δ.2 3 i)), .int (nI v), .int (nI (δ.2 5 i))]))) := Fr.ms _ _ rfl
  have e : ∀ k', k' ≠ 4 → (dT δ 4 i v).2 k' = δ.2 k' := fun k' hk => dT_e hk
  refine ⟨F.at h0 (by omega), ?_, ?_, ?_, ?_, ?_, ?_, ?_, ?_, ?_, fun q hq => ?_, fun q hq => ?_, fun q hq => ?_⟩
  · rw [e 13 (by decide)]; exact h1.fr F (by omega)
  · rw [e 0 (by decide)]; exact h2.fr F (by omega)
  · rw [e 1 (by decide)]; exact h3.fr F (by omega)
  · rw [e 14 (by decide)]; exact h4.fr F (by omega)
  · rw [e 2 (by decide)]; exact h5.fr F (by omega)
  · exact h6.fr F (by omega)
  · rw [e 6 (by decide)]; exact h7.fr F (by omega)
  · rw [e 7 (by decide)]; exact h8.fr F (by omega)
  · exact h9.fr F (by omega)
  · rw [e 3 (by decide), e 5 (by decide)]
    by_cases z : q = i
    · subst z
      rw [dT_2, if_pos rfl, if_pos rfl]
      exact ms_at _ _ _
    · rw [dT_2, if_pos rfl, if_neg z]
      exact F.at (hp q hq) (by omega)
  · rw [e 8 (by decide), e 9 (by decide), e 10 (by decide), e 11 (by decide), e 12 (by decide)]; exact F.at (hb q hq) (by omega)
  · rw [e (20 + q) (by omega)]; exact (hv q hq).fr F (by omega)
theorem DEED.t5 {g : GE} {w : Mem} {D : Nat} {δ : DE} (h : DEED g w D δ) {i : Nat} (hi : i < 9) (v : Nat) : DEED g (mset w (D + 10 + i) (.inr (3, [.ref (g.2.1 (4 + δ.2 3 i)), .int (nI (δ.2 4 i)), .int (nI v)]))) D (dT δ 5 i v) := by
  obtain ⟨h0, h1, h2, h3, h4, h5, h6, h7, h8, h9, hp, hb, hv⟩ := h
  have F : Fr (fun q => q = D + 10 + i) w (mset w (D + 10 + i) (.inr (3, [.ref (g.2.1 (4 + δ.2 3 i)), .int (nI (δ.2 4 i)), .int (nI v)]))) := Fr.ms _ _ rfl
  have e : ∀ k', k' ≠ 5 → (dT δ 5 i v).2 k' = δ.2 k' := fun k' hk => dT_e hk
  refine ⟨F.at h0 (by omega), ?_, ?_, ?_, ?_, ?_, ?_, ?_, ?_, ?_, fun q hq => ?_, fun q hq => ?_, fun q hq => ?_⟩
  · rw [e 13 (by decide)]; exact h1.fr F (by omega)
  · rw [e 0 (by decide)]; exact h2.fr F (by omega)
  · rw [e 1 (by decide)]; exact h3.fr F (by omega)
  · rw [e 14 (by decide)]; exact h4.fr F (by omega)
  · rw [e 2 (by decide)]; exact h5.fr F (by omega)
  · exact h6.fr F (by omega)
  · rw [e 6 (by decide)]; exact h7.fr F (by omega)
  · rw [e 7 (by decide)]; exact h8.fr F (by omega)
  · exact h9.fr F (by omega)
  · rw [e 3 (by decide), e 4 (by decide)]
    by_cases z : q = i
    · subst z
      rw [dT_2, if_pos rfl, if_pos rfl]
      exact ms_at _ _ _
    · rw [dT_2, if_pos rfl, if_neg z]
      exact F.at (hp q hq) (by omega)
  · rw [e 8 (by decide), e 9 (by decide), e 10 (by decide), e 11 (by decide), e 12 (by decide)]; exact F.at (hb q hq) (by omega)
  · rw [e (20 + q) (by omega)]; exact (hv q hq).fr F (by omega)
theorem DEED.t11 {g : GE} {w : Mem} {D : Nat} {δ : DE} (h : DEED g w D δ) {i : Nat} (hi : i < 8) (v : Nat) : DEED g (mset w (D + 19 + 2 * i) (.inr (1, [.ref (D + 20 + 2 * i), .int (nI (δ.2 10 i)), .int (nI (δ.2 8 i)), .int (nI (δ.2 9 i)), .int (nI (v)), .int (nI (δ.2 12 i))]))) D (dT δ 11 i v) := by
  obtain ⟨h0, h1, h2, h3, h4, h5, h6, h7, h8, h9, hp, hb, hv⟩ := h
  have F : Fr (fun q => q = D + 19 + 2 * i) w (mset w (D + 19 + 2 * i) (.inr (1, [.ref (D + 20 + 2 * i), .int (nI (δ.2 10 i)), .int (nI (δ.2 8 i)), .int (nI (δ.2 9 i)), .int (nI (v)), .int (nI (δ.2 12 i))]))) := Fr.ms _ _ rfl
  have e : ∀ k', k' ≠ 11 → (dT δ 11 i v).2 k' = δ.2 k' := fun k' hk => dT_e hk
  refine ⟨F.at h0 (by omega), ?_, ?_, ?_, ?_, ?_, ?_, ?_, ?_, ?_, fun q hq => ?_, fun q hq => ?_, fun q hq => ?_⟩
  · rw [e 13 (by decide)]; exact h1.fr F (by omega)
  · rw [e 0 (by decide)]; exact h2.fr F (by omega)
  · rw [e 1 (by decide)]; exact h3.fr F (by omega)
  · rw [e 14 (by decide)]; exact h4.fr F (by omega)
  · rw [e 2 (by decide)]; exact h5.fr F (by omega)
  · exact h6.fr F (by omega)
  · rw [e 6 (by decide)]; exact h7.fr F (by omega)
  · rw [e 7 (by decide)]; exact h8.fr F (by omega)
  · exact h9.fr F (by omega)
  · rw [e 3 (by decide), e 4 (by decide), e 5 (by decide)]; exact F.at (hp q hq) (by omega)
  · rw [e 8 (by decide), e 9 (by decide), e 10 (by decide), e 12 (by decide)]
    by_cases z : q = i
    · subst z
      rw [dT_2, if_pos rfl, if_pos rfl]
      exact ms_at _ _ _
    · rw [dT_2, if_pos rfl, if_neg z]
      exact F.at (hb q hq) (by omega)
  · rw [e (20 + q) (by omega)]; exact (hv q hq).fr F (by omega)
theorem DEED.t12 {g : GE} {w : Mem} {D : Nat} {δ : DE} (h : DEED g w D δ) {i : Nat} (hi : i < 8) (v : Nat) : DEED g (mset w (D + 19 + 2 * i) (.inr (1, [.ref (D + 20 + 2 * i), .int (nI (δ.2 10 i)), .int (nI (δ.2 8 i)), .int (nI (δ.2 9 i)), .int (nI (δ.2 11 i)), .int (nI (v))]))) D (dT δ 12 i v) := by
  obtain ⟨h0, h1, h2, h3, h4, h5, h6, h7, h8, h9, hp, hb, hv⟩ := h
  have F : Fr (fun q => q = D + 19 + 2 * i) w (mset w (D + 19 + 2 * i) (.inr (1, [.ref (D + 20 + 2 * i), .int (nI (δ.2 10 i)), .int (nI (δ.2 8 i)), .int (nI (δ.2 9 i)), .int (nI (δ.2 11 i)), .int (nI (v))]))) := Fr.ms _ _ rfl
  have e : ∀ k', k' ≠ 12 → (dT δ 12 i v).2 k' = δ.2 k' := fun k' hk => dT_e hk
  refine ⟨F.at h0 (by omega), ?_, ?_, ?_, ?_, ?_, ?_, ?_, ?_, ?_, fun q hq => ?_, fun q hq => ?_, fun q hq => ?_⟩
  · rw [e 13 (by decide)]; exact h1.fr F (by omega)
  · rw [e 0 (by decide)]; exact h2.fr F (by omega)
  · rw [e 1 (by decide)]; exact h3.fr F (by omega)
  · rw [e 14 (by decide)]; exact h4.fr F (by omega)
  · rw [e 2 (by decide)]; exact h5.fr F (by omega)
  · exact h6.fr F (by omega)
  · rw [e 6 (by decide)]; exact h7.fr F (by omega)
  · rw [e 7 (by decide)]; exact h8.fr F (by omega)
  · exact h9.fr F (by omega)
  · rw [e 3 (by decide), e 4 (by decide), e 5 (by decide)]; exact F.at (hp q hq) (by omega)
  · rw [e 8 (by decide), e 9 (by decide), e 10 (by decide), e 11 (by decide)]
    by_cases z : q = i
    · subst z
      rw [dT_2, if_pos rfl, if_pos rfl]
      exact ms_at _ _ _
    · rw [dT_2, if_pos rfl, if_neg z]
      exact F.at (hb q hq) (by omega)
  · rw [e (20 + q) (by omega)]; exact (hv q hq).fr F (by omega)
theorem LA.ln {w : Mem} {a n : Nat} {c : Nat → Int64} (h : LA w a n c) : ∃ f, w.1 a = some (.inl (1, n, f)) := by
  obtain ⟨f, h1, h2⟩ := h
  exact ⟨_, h1⟩
theorem addHeir_sp {g : GE} (hg : FU g) {w : Mem} {D C k : Nat} {δ : DE} (hD : DEED g w D δ) (hH : δ.1 0 < 4) :
    ∃ w', fX2_addHeir g [.ref D, .long (lN C), .int (nI k)] w = some (.inl none, w') ∧ DEED g w' D (addHr δ C k) ∧ Fr (rg D (D + 35)) w w' := by
  obtain ⟨N, hN⟩ : ∃ N, g.1 = N + 2 := ⟨g.1 - 2, by omega⟩
  have e0 : ¬ 4 ≤ nI (δ.1 0) := nI_ge (b := 4) hH (by decide)
  obtain ⟨w1, hw1⟩ : ∃ z, wl w (D + 1) (δ.1 0) (lN C) = z := ⟨_, rfl⟩
  have d1 : DEED g w1 D (dT δ 13 (δ.1 0) C) := hw1 ▸ hD.t13 (δ.1 0) C
  have F1 : Fr (rg D (D + 35)) w w1 := hw1 ▸ Fr.wl _ _ _ (by unfold rg; omega)
  obtain ⟨w2, hw2⟩ : ∃ z, wi w1 0 (D + 2) (δ.1 0) (nI k) = z := ⟨_, rfl⟩
  have d2 : DEED g w2 D (dT (dT δ 13 (δ.1 0) C) 0 (δ.1 0) k) := hw2 ▸ d1.t0 (δ.1 0) k
  have F2 : Fr (rg D (D + 35)) w1 w2 := hw2 ▸ Fr.wi _ _ _ _ (by unfold rg; omega)
  obtain ⟨w3, hw3⟩ : ∃ z, wi w2 0 (D + 3) (δ.1 0) (nI 0) = z := ⟨_, rfl⟩
  have d3 : DEED g w3 D (dT (dT (dT δ 13 (δ.1 0) C) 0 (δ.1 0) k) 1 (δ.1 0) 0) := hw3 ▸ d2.t1 (δ.1 0) 0
  have F3 : Fr (rg D (D + 35)) w2 w3 := hw3 ▸ Fr.wi _ _ _ _ (by unfold rg; omega)
  obtain ⟨w4, hw4⟩ : ∃ z, mset w3 D (.inr (2, [.ref (D + 1), .ref (D + 2), .ref (D + 3), .ref (D + 4), .ref (D + 5), .ref (D + 6), .ref (D + 7), .ref (D + 8), .ref (D + 9), .int (nI (δ.1 0 + 1)), .int (nI (δ.1 1)), .int (nI (δ.1 2)), .int (nI (δ.1 5)), .int (nI (δ.1 3)), .int (nI (δ.1 4)), .int (nI (δ.1 6))])) = z := ⟨_, rfl⟩
  have d4 : DEED g w4 D (addHr δ C k) := hw4 ▸ d3.cn (va_up δ.1 0 (δ.1 0 + 1))
  have F4 : Fr (rg D (D + 35)) w3 w4 := hw4 ▸ Fr.ms _ _ (by unfold rg; omega)
  refine ⟨w4, ?_, d4, ((F1.tr F2).tr F3).tr F4⟩
  have a0 := hD.1
  have a1 := d1.1
  have a2 := d2.1
  have a3 := d3.1
  have r1 := hD.2.1.wr (j := δ.1 0) (by omega) (by decide) (lN C)
  rw [hw1] at r1
  have r2 := d1.2.2.1.wr (j := δ.1 0) (by omega) (by decide) (nI k)
  rw [hw2] at r2
  have r3 := d2.2.2.2.1.wr (j := δ.1 0) (by omega) (by decide) (nI 0)
  rw [hw3, nI_0] at r3
  simp only [dT_1] at a1 a2 a3
  clear d1 d2 d3 d4 F1 F2 F3 F4
  simp [fX2_addHeir, kX2_addHeir, ent, entp, jX2_addHeir, bX2_addHeir_0, bX2_addHeir_1, i_aload, i_dup, i_getf, i_iadd, i_iastore, i_icge, i_iload, i_jmp, i_lastore, i_lload, i_push, i_putf, i_return, msk, lset1, lset2, clr, Value.category, Option.toList, List.cons_append, List.nil_append, List.length_cons, List.length_nil, hN, gf_eq a0, e0, r1, gf_eq a1, r2, gf_eq a2, r3, gf_eq a3, sf_i a3, nI_1, hw4]
