/-! ===== what is read is well formed ===== -/
theorem bd_r {α β : Type} {r : (Nat × Nat) ⊕ α} {f : α → (Nat × Nat) ⊕ β} {y : β} (h : bd r f = .inr y) : ∃ x, r = .inr x ∧ f x = .inr y := by
  cases r with
  | inl e => cases h
  | inr x => exact ⟨x, rfl, h⟩
theorem numP_in {T : Nat → Nat} {n mx a v e : Nat} (h : numP T n mx a = .inr (v, e)) (ha : a ≤ n) : v ≤ mx ∧ a ≤ e ∧ e ≤ n := by
  have h1 : a ≤ sb T n a := ru_le ha
  have h2 : sb T n a ≤ n := ru_n ha
  have h3 : sb T n a ≤ ru isD T n (sb T n a) := ru_le h2
  have h4 : ru isD T n (sb T n a) ≤ n := ru_n h2
  unfold numP at h
  split at h
  · cases h
  · split at h
    · cases h
    · next z =>
      injection h with h
      injection h with e1 e2
      subst e1
      subst e2
      exact ⟨by omega, by omega, h4⟩
theorem namP_in {T f : Nat → Nat} {n N a v e : Nat} (h : namP T n N f a = .inr (v, e)) (ha : a ≤ n) : v < N ∧ a ≤ e ∧ e ≤ n := by
  have h1 : a ≤ sb T n a := ru_le ha
  have h2 : sb T n a ≤ n := ru_n ha
  have h3 : sb T n a ≤ le9 T n (sb T n a) := ru_le h2
  have h4 : le9 T n (sb T n a) ≤ n := ru_n h2
  unfold namP at h
  split at h
  · cases h
  · split at h
    · cases h
    · split at h
      · next i hi =>
        injection h with h
        injection h with e1 e2
        subst e1
        subst e2
        exact ⟨(nf_some hi).1, by omega, h4⟩
      · cases h
theorem isP_in {T : Nat → Nat} {n a v e : Nat} (h : isP T n a = .inr (v, e)) (ha : a ≤ n) : v < 2 ∧ a ≤ e ∧ e ≤ n := by
  have h1 : a ≤ sb T n a := ru_le ha
  have h2 : sb T n a ≤ n := ru_n ha
  have h3 : sb T n a ≤ le9 T n (sb T n a) := ru_le h2
  have h4 : le9 T n (sb T n a) ≤ n := ru_n h2
  unfold isP at h
  split at h
  · cases h
  · split at h
    · injection h with h
      injection h with e1 e2
      subst e1
      subst e2
      exact ⟨by omega, by omega, h4⟩
    · split at h
      · injection h with h
        injection h with e1 e2
        subst e1
        subst e2
        exact ⟨by omega, by omega, h4⟩
      · cases h
theorem newP_in {T : Nat → Nat} {n a s e : Nat} {δ : DE} (h : newP T n δ a = .inr (s, e)) (ha : a ≤ n) : s = sb T n a ∧ e = le9 T n s ∧ s < e ∧ e - s ≤ 9 ∧ a ≤ e ∧ e ≤ n ∧ (∀ i, i < e - s → isL (T (s + i)) = true) := by
  have h1 : a ≤ sb T n a := ru_le ha
  have h2 : sb T n a ≤ n := ru_n ha
  have h3 : sb T n a ≤ le9 T n (sb T n a) := ru_le h2
  have h4 : le9 T n (sb T n a) ≤ n := ru_n h2
  unfold newP at h
  split at h
  · cases h
  · next z =>
    split at h
    · cases h
    · next y =>
      injection h with h
      injection h with e1 e2
      subst e1
      subst e2
      exact ⟨rfl, rfl, by omega, by omega, by omega, h4, fun i hi => ru_p h2 (Nat.le_add_right _ _) (show sb T n a + i < le9 T n (sb T n a) by omega)⟩
theorem flL_at {H : Nat} {wf : Nat → Nat} {kd wd i : Nat} (hk : kd ≤ 2) (h : i < (flL H wf kd wd).length) : (kd = 0 ∧ (flL H wf kd wd).getD i 0 < 100) ∨ (kd = 1 ∧ (flL H wf kd wd).getD i 0 < H) ∨ (kd = 2 ∧ (flL H wf kd wd).getD i 0 < 2) := by
  have h1 := (fil_at h).1
  have h2 := (fil_at h).2
  have : kd = 0 ∨ kd = 1 ∨ kd = 2 := by omega
  rcases this with z | z | z
  · exact Or.inl ⟨z, h1⟩
  · subst z
    refine Or.inr (Or.inl ⟨rfl, ?_⟩)
    have h3 : fl1 H wf wd ((flL H wf 1 wd).getD i 0) = true := h2
    simp only [fl1, decide_eq_true_eq] at h3
    exact h3.1
  · subst z
    refine Or.inr (Or.inr ⟨rfl, ?_⟩)
    have h3 : fl2 wd ((flL H wf 2 wd).getD i 0) = true := h2
    simp only [fl2, decide_eq_true_eq] at h3
    omega
/-- what holds of a deed while it is read, its parts aside -/
def PQ (δ : DE) : Prop := (δ.1 0 ≤ 4 ∧ δ.1 1 ≤ 5 ∧ δ.1 2 ≤ 9 ∧ δ.1 3 ≤ 8 ∧ δ.1 4 ≤ 999 ∧ δ.1 5 ≤ 36)
  ∧ (∀ p, p < δ.1 5 → dom δ (δ.2 6 p) (δ.2 7 p))
  ∧ (∀ b, b < δ.1 3 → 1 ≤ δ.2 10 b ∧ δ.2 10 b ≤ 100 ∧ δ.2 12 b < δ.1 5 ∧ δ.2 8 b = δ.2 6 (δ.2 12 b) ∧ (∀ i, i < δ.2 10 b → dom δ (δ.2 8 b) (δ.2 (20 + b) i)) ∧ δ.2 7 (δ.2 12 b) = δ.2 (20 + b) 0)
  ∧ (∀ b c, b < c → c < δ.1 3 → δ.2 12 b < δ.2 12 c)
  ∧ (∀ h, h < δ.1 0 → 1 ≤ δ.2 0 h ∧ δ.2 0 h ≤ 9 ∧ δ.2 1 h ≤ 999 ∧ δ.2 13 h < 2 ^ 43)
  ∧ (∀ t, t < δ.1 1 → δ.2 2 t ≤ 99 ∧ δ.2 14 t < 2 ^ 43)
def PKs (δ : DE) (m : Nat) : Prop := ∀ k, k < m → kinds δ (δ.2 3 k) (δ.2 5 k) ∧ (δ.2 3 k ≠ 0 → δ.2 4 k < δ.1 1)
/-- what a place adds -/
def PX (kd : Nat) (δ δ' : DE) : Prop := (δ'.1 0 = δ.1 0 ∧ δ'.1 1 = δ.1 1 ∧ δ'.1 2 = δ.1 2 ∧ δ'.1 4 = δ.1 4 ∧ δ'.1 5 = δ.1 5 + 1) ∧ δ'.2 6 (δ.1 5) = kd ∧ (∀ p, p < δ.1 5 → δ'.2 6 p = δ.2 6 p) ∧ (∀ k, δ'.2 3 k = δ.2 3 k ∧ δ'.2 4 k = δ.2 4 k ∧ δ'.2 5 k = δ.2 5 k) ∧ (∀ k, δ'.2 0 k = δ.2 0 k ∧ δ'.2 1 k = δ.2 1 k ∧ δ'.2 2 k = δ.2 2 k ∧ δ'.2 13 k = δ.2 13 k ∧ δ'.2 14 k = δ.2 14 k)
theorem n20_0 (b : Nat) : (0 = 20 + b) = False := by simp only [eq_iff_iff, iff_false]; omega
theorem m20_0 (b : Nat) : (20 + b = 0) = False := by simp only [eq_iff_iff, iff_false]; omega
theorem n20_1 (b : Nat) : (1 = 20 + b) = False := by simp only [eq_iff_iff, iff_false]; omega
theorem m20_1 (b : Nat) : (20 + b = 1) = False := by simp only [eq_iff_iff, iff_false]; omega
theorem n20_2 (b : Nat) : (2 = 20 + b) = False := by simp only [eq_iff_iff, iff_false]; omega
theorem m20_2 (b : Nat) : (20 + b = 2) = False := by simp only [eq_iff_iff, iff_false]; omega
theorem n20_3 (b : Nat) : (3 = 20 + b) = False := by simp only [eq_iff_iff, iff_false]; omega
theorem m20_3 (b : Nat) : (20 + b = 3) = False := by simp only [eq_iff_iff, iff_false]; omega
theorem n20_4 (b : Nat) : (4 = 20 + b) = False := by simp only [eq_iff_iff, iff_false]; omega
theorem m20_4 (b : Nat) : (20 + b = 4) = False := by simp only [eq_iff_iff, iff_false]; omega
theorem n20_5 (b : Nat) : (5 = 20 + b) = False := by simp only [eq_iff_iff, iff_false]; omega
theorem m20_5 (b : Nat) : (20 + b = 5) = False := by simp only [eq_iff_iff, iff_false]; omega
theorem n20_6 (b : Nat) : (6 = 20 + b) = False := by simp only [eq_iff_iff, iff_false]; omega
theorem m20_6 (b : Nat) : (20 + b = 6) = False := by simp only [eq_iff_iff, iff_false]; omega
theorem n20_7 (b : Nat) : (7 = 20 + b) = False := by simp only [eq_iff_iff, iff_false]; omega
theorem m20_7 (b : Nat) : (20 + b = 7) = False := by simp only [eq_iff_iff, iff_false]; omega
theorem n20_8 (b : Nat) : (8 = 20 + b) = False := by simp only [eq_iff_iff, iff_false]; omega
theorem m20_8 (b : Nat) : (20 + b = 8) = False := by simp only [eq_iff_iff, iff_false]; omega
theorem n20_9 (b : Nat) : (9 = 20 + b) = False := by simp only [eq_iff_iff, iff_false]; omega
theorem m20_9 (b : Nat) : (20 + b = 9) = False := by simp only [eq_iff_iff, iff_false]; omega
theorem n20_10 (b : Nat) : (10 = 20 + b) = False := by simp only [eq_iff_iff, iff_false]; omega
theorem m20_10 (b : Nat) : (20 + b = 10) = False := by simp only [eq_iff_iff, iff_false]; omega
theorem n20_11 (b : Nat) : (11 = 20 + b) = False := by simp only [eq_iff_iff, iff_false]; omega
theorem m20_11 (b : Nat) : (20 + b = 11) = False := by simp only [eq_iff_iff, iff_false]; omega
theorem n20_12 (b : Nat) : (12 = 20 + b) = False := by simp only [eq_iff_iff, iff_false]; omega
theorem m20_12 (b : Nat) : (20 + b = 12) = False := by simp only [eq_iff_iff, iff_false]; omega
theorem n20_13 (b : Nat) : (13 = 20 + b) = False := by simp only [eq_iff_iff, iff_false]; omega
theorem m20_13 (b : Nat) : (20 + b = 13) = False := by simp only [eq_iff_iff, iff_false]; omega
theorem n20_14 (b : Nat) : (14 = 20 + b) = False := by simp only [eq_iff_iff, iff_false]; omega
theorem m20_14 (b : Nat) : (20 + b = 14) = False := by simp only [eq_iff_iff, iff_false]; omega
theorem addPl_ok {δ : DE} {kd v : Nat} (hQ : PQ δ) (h5 : δ.1 5 < 36) (hv : dom δ kd v) : PQ (addPl δ kd v) ∧ PX kd δ (addPl δ kd v) := by
  obtain ⟨q1, q2, q3, q4, q5, q6⟩ := hQ
  refine ⟨⟨?_, fun p hp => ?_, fun b hb => ?_, fun b c h1 h2 => ?_, fun h hh => ?_, fun t ht => ?_⟩, ?_⟩
  · simp only [addPl, dC_1, dT_1]
    simp
    omega
  · simp only [addPl, dC_1, dC_2, dT_1, dT_2, dom] at hp ⊢
    simp at hp ⊢
    by_cases z : p = δ.1 5
    · subst z
      simpa [dom] using hv
    · have := q2 p (by omega)
      simpa [z, dom] using this
  · simp only [addPl, dC_1, dC_2, dT_1, dT_2, dom] at hb ⊢
    simp at hb ⊢
    have h := q3 b hb
    have z : ¬ δ.2 12 b = δ.1 5 := by omega
    have z2 : ¬ 20 + b = 6 := by omega
    have z3 : ¬ 20 + b = 7 := by omega
    simp only [z, if_false, z2, z3]
    exact ⟨h.1, h.2.1, by omega, h.2.2.2.1, fun i hi => by simpa [dom] using h.2.2.2.2.1 i hi, h.2.2.2.2.2⟩
  · simp only [addPl, dC_1, dC_2, dT_1, dT_2] at h2 ⊢
    simp at h2 ⊢
    exact q4 b c h1 h2
  · simp only [addPl, dC_1, dC_2, dT_1, dT_2] at hh ⊢
    simp at hh ⊢
    simpa using q5 h hh
  · simp only [addPl, dC_1, dC_2, dT_1, dT_2] at ht ⊢
    simp at ht ⊢
    simpa using q6 t ht
  · refine ⟨?_, ?_, fun p hp => ?_, fun k => ?_, fun k => ?_⟩
    · simp [addPl, dC_1, dT_1]
    · simp [addPl, dC_2, dT_2]
    · have z : ¬ p = δ.1 5 := by omega
      simp [addPl, dC_2, dT_2, z]
    · simp [addPl, dC_2, dT_2]
    · simp [addPl, dC_2, dT_2]
theorem addBl_ok {δ : DE} {kd wd : Nat} {l : List Nat} (hQ : PQ δ) (h5 : δ.1 5 < 36) (h3 : δ.1 3 < 8) (hl0 : 0 < l.length) (hl : l.length ≤ 100) (hv : ∀ i, i < l.length → dom δ kd (l.getD i 0)) : PQ (addBl δ kd wd l) ∧ PX kd δ (addBl δ kd wd l) := by
  obtain ⟨q1, q2, q3, q4, q5, q6⟩ := hQ
  refine ⟨⟨?_, fun p hp => ?_, fun b hb => ?_, fun b c h1 h2 => ?_, fun h hh => ?_, fun t ht => ?_⟩, ?_⟩
  · simp only [addBl, addPl, dC_1, dT_1, dV_1]
    simp
    omega
  · simp only [addBl, addPl, dC_1, dC_2, dT_1, dT_2, dV_1, dV_2, dom, n20_0, n20_1, n20_2, n20_3, n20_4, n20_5, n20_6, n20_7, n20_8, n20_9, n20_10, n20_11, n20_12, n20_13, n20_14] at hp ⊢
    simp at hp ⊢
    by_cases z : p = δ.1 5
    · subst z
      simpa [dom] using hv 0 hl0
    · have := q2 p (by omega)
      simpa [z, dom] using this
  · simp only [addBl, addPl, dC_1, dC_2, dT_1, dT_2, dV_1, dV_2, dom, n20_0, n20_1, n20_2, n20_3, n20_4, n20_5, n20_6, n20_7, n20_8, n20_9, n20_10, n20_11, n20_12, n20_13, n20_14, m20_0, m20_1, m20_2, m20_3, m20_4, m20_5, m20_6, m20_7, m20_8, m20_9, m20_10, m20_11, m20_12, m20_13, m20_14] at hb ⊢
    simp at hb ⊢
    by_cases y : b = δ.1 3
    · subst y
      simp [hl0]
      refine ⟨hl0, hl, fun i hi => ?_⟩
      simpa [hi, dom] using hv i hi
    · have h := q3 b (by omega)
      have z : ¬ δ.2 12 b = δ.1 5 := by omega
      simp only [y, z, if_false]
      exact ⟨h.1, h.2.1, by omega, h.2.2.2.1, fun i hi => by simpa [dom] using h.2.2.2.2.1 i hi, h.2.2.2.2.2⟩
  · simp only [addBl, addPl, dC_1, dC_2, dT_1, dT_2, dV_1, dV_2, n20_0, n20_1, n20_2, n20_3, n20_4, n20_5, n20_6, n20_7, n20_8, n20_9, n20_10, n20_11, n20_12, n20_13, n20_14] at h2 ⊢
    simp at h2 ⊢
    have y : ¬ b = δ.1 3 := by omega
    by_cases z : c = δ.1 3
    · subst z
      simp [y]
      exact (q3 b (by omega)).2.2.1
    · simp [y, z]
      exact q4 b c h1 (by omega)
  · simp only [addBl, addPl, dC_1, dC_2, dT_1, dT_2, dV_1, dV_2, n20_0, n20_1, n20_2, n20_3, n20_4, n20_5, n20_6, n20_7, n20_8, n20_9, n20_10, n20_11, n20_12, n20_13, n20_14] at hh ⊢
    simp at hh ⊢
    simpa using q5 h hh
  · simp only [addBl, addPl, dC_1, dC_2, dT_1, dT_2, dV_1, dV_2, n20_0, n20_1, n20_2, n20_3, n20_4, n20_5, n20_6, n20_7, n20_8, n20_9, n20_10, n20_11, n20_12, n20_13, n20_14] at ht ⊢
    simp at ht ⊢
    simpa using q6 t ht
  · refine ⟨?_, ?_, fun p hp => ?_, fun k => ?_, fun k => ?_⟩
    · simp [addBl, addPl, dC_1, dT_1, dV_1]
    · simp [addBl, addPl, dC_1, dT_1, dV_1, dC_2, dT_2]
    · have z : ¬ p = δ.1 5 := by omega
      simp [addBl, addPl, dC_1, dT_1, dV_1, dC_2, dT_2, dV_2, z, n20_0, n20_1, n20_2, n20_3, n20_4, n20_5, n20_6, n20_7, n20_8, n20_9, n20_10, n20_11, n20_12, n20_13, n20_14]
    · simp [addBl, addPl, dC_1, dT_1, dV_1, dC_2, dT_2, dV_2, n20_0, n20_1, n20_2, n20_3, n20_4, n20_5, n20_6, n20_7, n20_8, n20_9, n20_10, n20_11, n20_12, n20_13, n20_14]
    · simp [addBl, addPl, dC_1, dT_1, dV_1, dC_2, dT_2, dV_2, n20_0, n20_1, n20_2, n20_3, n20_4, n20_5, n20_6, n20_7, n20_8, n20_9, n20_10, n20_11, n20_12, n20_13, n20_14]
theorem valP_in {T : Nat → Nat} {n kd a v e : Nat} {δ : DE} (h : valP T n kd δ a = .inr (v, e)) (ha : a ≤ n) (hk : kd ≤ 2) : dom δ kd v ∧ a ≤ e ∧ e ≤ n := by
  unfold valP at h
  unfold dom
  split at h
  · next z =>
    have := numP_in h ha
    exact ⟨Or.inl ⟨z, by omega⟩, this.2⟩
  · split at h
    · next z =>
      have := namP_in h ha
      exact ⟨Or.inr (Or.inl ⟨z, this.1⟩), this.2⟩
    · have := isP_in h ha
      exact ⟨Or.inr (Or.inr ⟨by omega, this.1⟩), this.2⟩
theorem placeP_ok {T : Nat → Nat} {n kd a e : Nat} {δ δ' : DE} (h : placeP T n kd (δ, a) = .inr (δ', e)) (ha : a ≤ n) (hk : kd ≤ 2) (hQ : PQ δ) (h5 : δ.1 5 < 36) : PQ δ' ∧ PX kd δ δ' ∧ a ≤ e ∧ e ≤ n := by
  have h1 : a ≤ sb T n a := ru_le ha
  have h2 : sb T n a ≤ n := ru_n ha
  unfold placeP at h
  simp only [] at h
  split at h
  · next z =>
    unfold blotP at h
    split at h
    · cases h
    · next y =>
      obtain ⟨⟨wd, e1⟩, h3, h4⟩ := bd_r h
      have h6 : sb T n a + 1 ≤ sb T n (sb T n a + 1) := ru_le (by omega)
      have h7 : sb T n (sb T n a + 1) ≤ n := ru_n (by omega)
      have h8 := numP_in h3 h7
      simp only [] at h4
      split at h4
      · cases h4
      · next x =>
        injection h4 with h4
        injection h4 with e1 e2
        subst e1
        subst e2
        have := addBl_ok (wd := wd) hQ h5 (by omega) (Nat.pos_of_ne_zero x) (flL_le _ _ _ _) fun i hi => flL_at hk hi
        exact ⟨this.1, this.2, by omega, by omega⟩
  · obtain ⟨⟨v, e1⟩, h3, h4⟩ := bd_r h
    have h8 := valP_in h3 h2 hk
    injection h4 with h4
    injection h4 with e1 e2
    subst e1
    subst e2
    have := addPl_ok hQ h5 h8.1
    exact ⟨this.1, this.2, by omega, by omega⟩
/-! the parts -/
theorem PX.ks {kd m : Nat} {δ δ' : DE} (h : PX kd δ δ') (hK : PKs δ m) : PKs δ' m := fun k hk => by
  obtain ⟨h1, h2, h3, h4, -⟩ := h
  obtain ⟨q1, q2⟩ := hK k hk
  obtain ⟨e3, e4, e5⟩ := h4 k
  rw [e3, e4, e5, h1.2.1]
  refine ⟨?_, q2⟩
  unfold kinds at q1 ⊢
  rcases q1 with ⟨a, b, c, d⟩ | ⟨a, b, c⟩ | ⟨a, b, c, d, e, f⟩
  · exact Or.inl ⟨a, by rw [h3 _ (by omega)]; exact b, by rw [h3 _ (by omega)]; exact c, by omega⟩
  · exact Or.inr (Or.inl ⟨a, by rw [h3 _ (by omega)]; exact b, by omega⟩)
  · exact Or.inr (Or.inr ⟨a, by rw [h3 _ (by omega)]; exact b, by rw [h3 _ (by omega)]; exact c, by rw [h3 _ (by omega)]; exact d, by rw [h3 _ (by omega)]; exact e, by omega⟩)
theorem addPt_ok {δ : DE} {vb : Nat} (hQ : PQ δ) (h2 : δ.1 2 < 9) : PQ (addPt δ vb) := by
  obtain ⟨q1, q2, q3, q4, q5, q6⟩ := hQ
  refine ⟨?_, fun p hp => ?_, fun b hb => ?_, fun b c h1 h2 => ?_, fun h hh => ?_, fun t ht => ?_⟩
  · simp [addPt, dC_1, dT_1]
    omega
  · simp [addPt, dC_1, dC_2, dT_1, dT_2, dom] at hp ⊢
    exact q2 p hp
  · simp [addPt, dC_1, dC_2, dT_1, dT_2, dom, m20_3, m20_5] at hb ⊢
    exact q3 b hb
  · simp [addPt, dC_1, dC_2, dT_1, dT_2] at h2 ⊢
    exact q4 b c h1 h2
  · simp [addPt, dC_1, dC_2, dT_1, dT_2] at hh ⊢
    exact q5 h hh
  · simp [addPt, dC_1, dC_2, dT_1, dT_2] at ht ⊢
    exact q6 t ht
theorem addPt_ks {δ : DE} {vb : Nat} (hK : PKs δ (δ.1 2)) : PKs (addPt δ vb) (δ.1 2) := fun k hk => by
  have := hK k hk
  have z : ¬ k = δ.1 2 := by omega
  simpa [addPt, dC_1, dC_2, dT_1, dT_2, z, kinds] using this
theorem nameTh_ok {δ : DE} {i v : Nat} (hQ : PQ δ) : PQ (dT δ 4 i v) := by
  obtain ⟨q1, q2, q3, q4, q5, q6⟩ := hQ
  refine ⟨?_, fun p hp => ?_, fun b hb => ?_, fun b c h1 h2 => ?_, fun h hh => ?_, fun t ht => ?_⟩
  · exact q1
  · simp [dT_1, dT_2, dom] at hp ⊢
    exact q2 p hp
  · simp [dT_1, dT_2, dom, m20_4] at hb ⊢
    exact q3 b hb
  · simp [dT_1, dT_2] at h2 ⊢
    exact q4 b c h1 h2
  · simp [dT_1, dT_2] at hh ⊢
    exact q5 h hh
  · simp [dT_1, dT_2] at ht ⊢
    exact q6 t ht
theorem nameTh_ks {δ : DE} {i v m : Nat} (hK : PKs δ m) (hi : m ≤ i) : PKs (dT δ 4 i v) m := fun k hk => by
  have := hK k hk
  have z : ¬ k = i := by omega
  simpa [dT_1, dT_2, z, kinds] using this
/-- what holds between clauses -/
def PW (δ : DE) : Prop := PQ δ ∧ PKs δ (δ.1 2) ∧ δ.1 5 ≤ 4 * δ.1 2
theorem coinC_ok {T : Nat → Nat} {n a e : Nat} {δ δ' : DE} (h : coinC T n (δ, a) = .inr (δ', e)) (ha : a ≤ n) (hW : PW δ) (h2 : δ.1 2 < 9) : PW δ' ∧ a ≤ e ∧ e ≤ n := by
  obtain ⟨hQ, hK, h5⟩ := hW
  obtain ⟨⟨δ2, e2⟩, g1, g2⟩ := bd_r h
  have g1 : placeP T n 1 (addPt δ 0, a) = .inr (δ2, e2) := g1
  have c5 : (addPt δ 0).1 5 = δ.1 5 := rfl
  have c2 : (addPt δ 0).1 2 = δ.1 2 + 1 := rfl
  obtain ⟨p1, p2, p3, p4⟩ := placeP_ok g1 ha (by decide) (addPt_ok hQ h2) (by omega)
  have k1 := p2.ks (addPt_ks hK)
  obtain ⟨r1, r2, r3, r4⟩ := placeP_ok g2 p4 (by decide) p1 (by have := p2.1; omega)
  have k2 := r2.ks k1
  obtain ⟨⟨-, x1, x2, -, x5⟩, y1, y2, y3, -⟩ := p2
  obtain ⟨⟨-, z1, z2, -, z5⟩, u1, u2, u3, -⟩ := r2
  refine ⟨⟨r1, ?_, by omega⟩, by omega, r4⟩
  intro k hk
  by_cases q : k = δ.1 2
  · subst q
    have e3 : δ'.2 3 (δ.1 2) = 0 := by rw [(u3 _).1, (y3 _).1]; simp [addPt, dC_2, dT_2]
    have e5 : δ'.2 5 (δ.1 2) = δ.1 5 := by rw [(u3 _).2.2, (y3 _).2.2]; simp [addPt, dC_2, dT_2]
    rw [e3, e5]
    refine ⟨Or.inl ⟨rfl, ?_, ?_, by omega⟩, fun q => absurd rfl q⟩
    · rw [u2 _ (by omega), ← c5]; exact y1
    · rw [show δ.1 5 + 1 = δ2.1 5 by omega]; exact u1
  · exact k2 k (by omega)
theorem willC_ok {T : Nat → Nat} {n a e : Nat} {δ δ' : DE} (h : willC T n (δ, a) = .inr (δ', e)) (ha : a ≤ n) (hW : PW δ) (h2 : δ.1 2 < 9) : PW δ' ∧ a ≤ e ∧ e ≤ n := by
  obtain ⟨hQ, hK, h5⟩ := hW
  obtain ⟨⟨δ2, e2⟩, g1, g2⟩ := bd_r h
  obtain ⟨⟨t, e1⟩, g3, g4⟩ := bd_r g1
  injection g4 with g4
  injection g4 with i1 i2
  subst i1
  subst i2
  simp only [] at g2
  have ht := namP_in g3 ha
  obtain ⟨δ1, hδ1⟩ : ∃ z, dT (addPt δ 1) 4 ((addPt δ 1).1 2 - 1) t = z := ⟨_, rfl⟩
  have c5 : δ1.1 5 = δ.1 5 := by rw [← hδ1]; rfl
  have c2 : δ1.1 2 = δ.1 2 + 1 := by rw [← hδ1]; rfl
  have c1 : δ1.1 1 = δ.1 1 := by rw [← hδ1]; rfl
  have k1 : PKs δ1 (δ.1 2) := hδ1 ▸ nameTh_ks (addPt_ks hK) (by show δ.1 2 ≤ δ.1 2 + 1 - 1; omega)
  have q1 : PQ δ1 := hδ1 ▸ nameTh_ok (addPt_ok hQ h2)
  have d3 : δ1.2 3 (δ.1 2) = 1 := by rw [← hδ1]; simp [addPt, dC_2, dT_2]
  have d4 : δ1.2 4 (δ.1 2) = t := by rw [← hδ1]; simp [addPt, dC_2, dT_2, dC_1, dT_1]
  have d5 : δ1.2 5 (δ.1 2) = δ.1 5 := by rw [← hδ1]; simp [addPt, dC_2, dT_2]
  have ht1 : t < δ.1 1 := ht.1
  rw [hδ1] at g2
  clear g1 g3
  obtain ⟨r1, r2, r3, r4⟩ := placeP_ok g2 ht.2.2 (by decide) q1 (by omega)
  have k2 := r2.ks k1
  obtain ⟨⟨-, z1, z2, -, z5⟩, u1, u2, u3, -⟩ := r2
  refine ⟨⟨r1, ?_, by omega⟩, by omega, r4⟩
  intro k hk
  by_cases q : k = δ.1 2
  · subst q
    obtain ⟨v3, v4, v5⟩ := u3 (δ.1 2)
    rw [v3, v4, v5, d3, d4, d5]
    refine ⟨Or.inr (Or.inl ⟨rfl, ?_, by omega⟩), fun _ => by omega⟩
    rw [← c5]; exact u1
  · exact k2 k (by omega)
theorem whenC_ok {T : Nat → Nat} {n a e : Nat} {δ δ' : DE} (h : whenC T n (δ, a) = .inr (δ', e)) (ha : a ≤ n) (hW : PW δ) (h2 : δ.1 2 < 9) : PW δ' ∧ a ≤ e ∧ e ≤ n := by
  obtain ⟨hQ, hK, h5⟩ := hW
  obtain ⟨⟨δ2, e2⟩, g1, h⟩ := bd_r h
  obtain ⟨⟨δ3, e3⟩, g2, h⟩ := bd_r h
  obtain ⟨⟨δ4, e4⟩, g3, h⟩ := bd_r h
  obtain ⟨⟨δ5, e5⟩, g5, g6⟩ := bd_r h
  obtain ⟨⟨t, e1⟩, g7, g4⟩ := bd_r g3
  injection g4 with g4
  injection g4 with i1 i2
  simp only [] at i1 i2 g2 g7 g5 g6
  clear g3
  have g1 : placeP T n 2 (addPt δ 2, a) = .inr (δ2, e2) := g1
  subst i2
  have c5 : (addPt δ 2).1 5 = δ.1 5 := rfl
  have c2 : (addPt δ 2).1 2 = δ.1 2 + 1 := rfl
  have c1 : (addPt δ 2).1 1 = δ.1 1 := rfl
  obtain ⟨p1, p2, p3, p4⟩ := placeP_ok g1 ha (by decide) (addPt_ok hQ h2) (by omega)
  have k1 := p2.ks (addPt_ks hK)
  obtain ⟨⟨-, x1, x2, -, x5⟩, y1, y2, y3, -⟩ := p2
  obtain ⟨r1, r2, r3, r4⟩ := placeP_ok g2 p4 (by decide) p1 (by omega)
  have k2 := r2.ks k1
  obtain ⟨⟨-, z1, z2, -, z5⟩, u1, u2, u3, -⟩ := r2
  have ht := namP_in g7 r4
  have k3 : PKs δ4 (δ.1 2) := i1 ▸ nameTh_ks k2 (by omega)
  have q3 : PQ δ4 := i1 ▸ nameTh_ok r1
  have w5 : δ4.1 5 = δ3.1 5 := by rw [← i1]; rfl
  have w1 : δ4.1 1 = δ3.1 1 := by rw [← i1]; rfl
  have w2 : δ4.1 2 = δ3.1 2 := by rw [← i1]; rfl
  have w6 : ∀ p, δ4.2 6 p = δ3.2 6 p := fun p => by rw [← i1]; simp [dT_2]
  have w3 : ∀ p, δ4.2 3 p = δ3.2 3 p := fun p => by rw [← i1]; simp [dT_2]
  have w55 : ∀ p, δ4.2 5 p = δ3.2 5 p := fun p => by rw [← i1]; simp [dT_2]
  have w4 : δ4.2 4 (δ.1 2) = t := by
    rw [← i1, dT_2, if_pos rfl, if_pos (by omega)]
  obtain ⟨s1, s2, s3, s4⟩ := placeP_ok g5 ht.2.2 (by decide) q3 (by omega)
  have k4 := s2.ks k3
  obtain ⟨⟨-, a1, a2, -, a5⟩, b1, b2, b3, -⟩ := s2
  obtain ⟨o1, o2, o3, o4⟩ := placeP_ok g6 s4 (by decide) s1 (by omega)
  have k5 := o2.ks k4
  obtain ⟨⟨-, f1, f2, -, f5⟩, l1, l2, l3, -⟩ := o2
  refine ⟨⟨o1, ?_, by omega⟩, by omega, o4⟩
  intro k hk
  by_cases q : k = δ.1 2
  · subst q
    have v3 : δ'.2 3 (δ.1 2) = 2 := by rw [(l3 _).1, (b3 _).1, w3, (u3 _).1, (y3 _).1]; simp [addPt, dC_2, dT_2]
    have v5 : δ'.2 5 (δ.1 2) = δ.1 5 := by rw [(l3 _).2.2, (b3 _).2.2, w55, (u3 _).2.2, (y3 _).2.2]; simp [addPt, dC_2, dT_2]
    have v4 : δ'.2 4 (δ.1 2) = t := by rw [(l3 _).2.1, (b3 _).2.1, w4]
    rw [v3, v4, v5]
    have ht1 := ht.1
    refine ⟨Or.inr (Or.inr ⟨rfl, ?_, ?_, ?_, ?_, by omega⟩), fun _ => by omega⟩
    · rw [l2 _ (by omega), b2 _ (by omega), w6, u2 _ (by omega), ← c5]; exact y1
    · rw [l2 _ (by omega), b2 _ (by omega), w6, show δ.1 5 + 1 = δ2.1 5 by omega]; exact u1
    · rw [l2 _ (by omega), show δ.1 5 + 2 = δ4.1 5 by omega]; exact b1
    · rw [show δ.1 5 + 3 = δ5.1 5 by omega]; exact l1
  · exact k5 k (by omega)
theorem dom_mono {δ δ' : DE} (h : δ.1 0 ≤ δ'.1 0) {kd v : Nat} (hd : dom δ kd v) : dom δ' kd v := by
  unfold dom at hd ⊢
  omega
theorem heirC_ok {T : Nat → Nat} {n a e : Nat} {δ δ' : DE} (h : heirC T n (δ, a) = .inr (δ', e)) (ha : a ≤ n) (hW : PW δ) (h2 : δ.1 0 < 4) : PW δ' ∧ a ≤ e ∧ e ≤ n := by
  obtain ⟨⟨q1, q2, q3, q4, q5, q6⟩, hK, h5⟩ := hW
  obtain ⟨⟨s, e1⟩, g3, g4⟩ := bd_r h
  obtain ⟨j1, j2, j3, j4, j5, j6, j7⟩ := newP_in g3 ha
  have jc := cdF_lt T s (e1 - s) j7
  have jc2 : 27 ^ (e1 - s) ≤ 27 ^ 9 := Nat.pow_le_pow_right (by decide) j4
  have jc3 : (27 : Nat) ^ 9 < 2 ^ 43 := by decide
  injection g4 with g4
  injection g4 with i1 i2
  subst i1
  subst i2
  simp only [] at *
  generalize cdF T s (e1 - s) = C at jc
  refine ⟨⟨⟨?_, fun p hp => ?_, fun b hb => ?_, fun b c h1 h2 => ?_, fun h hh => ?_, fun t ht => ?_⟩, fun k hk => ?_, ?_⟩, j5, j6⟩
  · simp [addHr, dC_1, dT_1]
    omega
  · simp [addHr, dC_1, dC_2, dT_1, dT_2] at hp ⊢
    exact dom_mono (by simp [addHr, dC_1]) (q2 p hp)
  · simp [addHr, dC_1, dC_2, dT_1, dT_2, m20_0, m20_1, m20_13] at hb ⊢
    have := q3 b hb
    exact ⟨this.1, this.2.1, this.2.2.1, this.2.2.2.1, fun i hi => dom_mono (by simp [addHr, dC_1]) (this.2.2.2.2.1 i hi), this.2.2.2.2.2⟩
  · simp [addHr, dC_1, dC_2, dT_1, dT_2] at h2 ⊢
    exact q4 b c h1 h2
  · simp [addHr, dC_1, dC_2, dT_1, dT_2] at hh ⊢
    by_cases y : h = δ.1 0
    · subst y
      simp
      omega
    · simp [y]
      exact q5 h (by omega)
  · simp [addHr, dC_1, dC_2, dT_1, dT_2] at ht ⊢
    exact q6 t ht
  · have := hK k hk
    simpa [addHr, dC_1, dC_2, dT_1, dT_2, kinds] using this
  · exact h5
theorem thingC_ok {T : Nat → Nat} {n a e : Nat} {δ δ' : DE} (h : thingC T n (δ, a) = .inr (δ', e)) (ha : a ≤ n) (hW : PW δ) (h2 : δ.1 1 < 5) : PW δ' ∧ a ≤ e ∧ e ≤ n := by
  obtain ⟨⟨q1, q2, q3, q4, q5, q6⟩, hK, h5⟩ := hW
  obtain ⟨⟨s, e1⟩, g3, g5⟩ := bd_r h
  obtain ⟨⟨v, e2⟩, g6, g4⟩ := bd_r g5
  obtain ⟨j1, j2, j3, j4, j5, j6, j7⟩ := newP_in g3 ha
  have jv := numP_in g6 j6
  have jc := cdF_lt T s (e1 - s) j7
  have jc2 : 27 ^ (e1 - s) ≤ 27 ^ 9 := Nat.pow_le_pow_right (by decide) j4
  have jc3 : (27 : Nat) ^ 9 < 2 ^ 43 := by decide
  injection g4 with g4
  injection g4 with i1 i2
  subst i1
  subst i2
  simp only [] at *
  generalize cdF T s (e1 - s) = C at jc
  refine ⟨⟨⟨?_, fun p hp => ?_, fun b hb => ?_, fun b c h1 h2 => ?_, fun h hh => ?_, fun t ht => ?_⟩, fun k hk => ?_, ?_⟩, by omega, by omega⟩
  · simp [addTh, dC_1, dT_1]
    omega
  · simp [addTh, dC_1, dC_2, dT_1, dT_2, dom] at hp ⊢
    exact q2 p hp
  · simp [addTh, dC_1, dC_2, dT_1, dT_2, dom, m20_2, m20_14] at hb ⊢
    exact q3 b hb
  · simp [addTh, dC_1, dC_2, dT_1, dT_2] at h2 ⊢
    exact q4 b c h1 h2
  · simp [addTh, dC_1, dC_2, dT_1, dT_2] at hh ⊢
    exact q5 h hh
  · simp [addTh, dC_1, dC_2, dT_1, dT_2] at ht ⊢
    by_cases y : t = δ.1 1
    · subst y
      simp
      omega
    · simp [y]
      exact q6 t (by omega)
  · have := hK k hk
    have z : δ.1 1 ≤ δ.1 1 + 1 := by omega
    refine ⟨by simpa [addTh, dC_1, dC_2, dT_1, dT_2, kinds] using this.1, fun q => ?_⟩
    have := this.2 (by simpa [addTh, dC_1, dC_2, dT_1, dT_2] using q)
    simp [addTh, dC_1, dC_2, dT_1, dT_2]
    omega
  · exact h5
theorem estC_ok {T : Nat → Nat} {n a e : Nat} {δ δ' : DE} (h : estC T n (δ, a) = .inr (δ', e)) (ha : a ≤ n) (hW : PW δ) : PW δ' ∧ a ≤ e ∧ e ≤ n := by
  obtain ⟨⟨q1, q2, q3, q4, q5, q6⟩, hK, h5⟩ := hW
  obtain ⟨⟨v, e2⟩, g6, g4⟩ := bd_r h
  have jv := numP_in g6 ha
  injection g4 with g4
  injection g4 with i1 i2
  subst i1
  subst i2
  simp only [] at *
  refine ⟨⟨⟨?_, q2, q3, q4, q5, q6⟩, hK, h5⟩, by omega, by omega⟩
  simp [dC_1]
  omega
theorem leastC_ok {T : Nat → Nat} {n a e : Nat} {δ δ' : DE} (h : leastC T n (δ, a) = .inr (δ', e)) (ha : a ≤ n) (hW : PW δ) : PW δ' ∧ a ≤ e ∧ e ≤ n := by
  obtain ⟨⟨q1, q2, q3, q4, q5, q6⟩, hK, h5⟩ := hW
  obtain ⟨⟨s, e1⟩, g3, g5⟩ := bd_r h
  obtain ⟨⟨v, e2⟩, g6, g4⟩ := bd_r g5
  have jh := namP_in g3 ha
  have jv := numP_in g6 jh.2.2
  injection g4 with g4
  injection g4 with i1 i2
  subst i1
  subst i2
  simp only [] at *
  refine ⟨⟨⟨q1, fun p hp => ?_, fun b hb => ?_, fun b c h1 h2 => ?_, fun h hh => ?_, fun t ht => ?_⟩, fun k hk => ?_, h5⟩, by omega, by omega⟩
  · simp [dC_1, dC_2, dT_1, dT_2, dom] at hp ⊢
    exact q2 p hp
  · simp [dC_1, dC_2, dT_1, dT_2, dom, m20_1] at hb ⊢
    exact q3 b hb
  · simp [dC_1, dC_2, dT_1, dT_2] at h2 ⊢
    exact q4 b c h1 h2
  · simp [dC_1, dC_2, dT_1, dT_2] at hh ⊢
    have := q5 h hh
    by_cases y : h = s
    · subst y
      simp
      omega
    · simp [y]
      exact this
  · simp [dC_1, dC_2, dT_1, dT_2] at ht ⊢
    exact q6 t ht
  · have := hK k hk
    simpa [dC_1, dC_2, dT_1, dT_2, kinds] using this
theorem bodyP_ok {T : Nat → Nat} {n vb a e : Nat} {δ δ' : DE} (h : bodyP T n vb (δ, a) = .inr (δ', e)) (ha : a ≤ n) (hW : PW δ) (h2 : ¬ fullP δ vb = true) : PW δ' ∧ a ≤ e ∧ e ≤ n := by
  simp only [fullP, decide_eq_true_eq] at h2
  have h7 : vb = 0 ∨ vb = 1 ∨ vb = 2 ∨ vb = 3 ∨ 4 ≤ vb := by omega
  unfold bodyP at h
  split at h
  · exact heirC_ok h ha hW (by omega)
  · exact thingC_ok h ha hW (by omega)
  · exact estC_ok h ha hW
  · exact leastC_ok h ha hW
  · exact coinC_ok h ha hW (by omega)
  · exact willC_ok h ha hW (by omega)
  · next z0 z1 z2 z3 z4 z5 =>
    have : 4 ≤ vb := by
      rcases h7 with q | q | q | q | q
      · exact absurd q z0
      · exact absurd q z1
      · exact absurd q z2
      · exact absurd q z3
      · exact q
    exact whenC_ok h ha hW (by omega)
theorem clauseP_ok {T : Nat → Nat} {n q a e : Nat} {δ δ' : DE} (h : clauseP T n q (δ, a) = .inr (δ', e)) (ha : a ≤ n) (hW : PW δ) : PW δ' ∧ e ≤ n := by
  unfold clauseP at h
  split at h
  · cases h
  · split at h
    · cases h
    · next z =>
      obtain ⟨⟨δ1, e1⟩, g3, g4⟩ := bd_r h
      have h1 : le9 T n a ≤ n := ru_n ha
      obtain ⟨r1, r2, r3⟩ := bodyP_ok g3 h1 hW (fun q => z (Or.inr q))
      have h2 : sb T n e1 ≤ n := ru_n r3
      unfold endP at g4
      simp only [] at g4
      split at g4
      · next y =>
        injection g4 with g4
        injection g4 with i1 i2
        subst i1
        subst i2
        exact ⟨r1, by omega⟩
      · cases g4
theorem clsP_ok {T : Nat → Nat} {n : Nat} : ∀ {k q a e : Nat} {δ δ' : DE}, clsP T n k q (δ, a) = .inr (δ', e) → a ≤ n → PW δ → PW δ'
  | 0, q, a, e, δ, δ', h, ha, hW => by
    injection h with h
    injection h with i1 i2
    subst i1
    exact hW
  | k + 1, q, a, e, δ, δ', h, ha, hW => by
    have h1 : sb T n a ≤ n := ru_n ha
    unfold clsP at h
    simp only [] at h
    split at h
    · injection h with h
      injection h with i1 i2
      subst i1
      exact hW
    · obtain ⟨⟨δ1, e1⟩, g3, g4⟩ := bd_r h
      obtain ⟨r1, r2⟩ := clauseP_ok g3 h1 hW
      exact clsP_ok g4 r2 r1
theorem clear_ok (δ : DE) : PW (clear δ) := by
  refine ⟨⟨?_, fun p hp => ?_, fun b hb => ?_, fun b c h1 h2 => ?_, fun h hh => ?_, fun t ht => ?_⟩, fun k hk => ?_, ?_⟩
  · simp [clear]
  · simp [clear] at hp
  · simp [clear] at hb
  · simp [clear] at h2
  · simp [clear] at hh
  · simp [clear] at ht
  · simp [clear] at hk
  · simp [clear]
theorem prd_dC (δ : DE) (v : Nat) : ∀ b, prd (dC δ 6 v) b = prd δ b
  | 0 => rfl
  | b + 1 => by unfold prd; rw [prd_dC δ v b]; rfl
theorem deedP_ok {T : Nat → Nat} {n e : Nat} {δ δ' : DE} (h : deedP T n δ = .inr (δ', e)) : WF δ' := by
  obtain ⟨⟨δ1, e1⟩, g3, g4⟩ := bd_r h
  obtain ⟨⟨q1, q2, q3, q4, q5, q6⟩, hK, h5⟩ := clsP_ok g3 (Nat.zero_le _) (clear_ok δ)
  simp only [] at g4
  split at g4
  · cases g4
  · next z =>
    injection g4 with g4
    injection g4 with i1 i2
    subst i1
    refine ⟨⟨q1.1, q1.2.1, q1.2.2.1, q1.2.2.2.1, q1.2.2.2.2.1, q1.2.2.2.2.2, ?_, ?_⟩, hK, q2, q3, q4, fun h hh => ?_, fun t ht => (q6 t ht).1⟩
    · show _ = prd (dC δ1 6 _) (δ1.1 3)
      rw [prd_dC]
      rfl
    · show prd δ1 (δ1.1 3) ≤ 20000
      omega
    · have := q5 h hh
      exact ⟨this.1, this.2.1, this.2.2.1⟩
