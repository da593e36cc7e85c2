/-! ===== numbers by their digits; groups of readings ===== -/
def vl (δ : DE) (dd : Nat → Nat) : Nat → Nat
  | 0 => 0
  | k + 1 => vl δ dd k * δ.2 10 k + dd k
theorem lf_prd {δ : DE} (hd : WF δ) {m : Nat} (hm : m < prd δ (δ.1 3)) : ∀ j, j ≤ δ.1 3 → lf δ m j < prd δ (δ.1 3 - j)
  | 0, _ => hm
  | j + 1, h => by
    have ih := lf_prd hd hm j (by omega)
    obtain ⟨z, hz⟩ : ∃ z, δ.1 3 - j = z + 1 := ⟨δ.1 3 - j - 1, by omega⟩
    have e1 : δ.1 3 - (j + 1) = z := by omega
    have e2 : δ.1 3 - 1 - j = z := by omega
    rw [hz] at ih
    show lf δ m j / δ.2 10 (δ.1 3 - 1 - j) < _
    rw [e1, e2]
    exact Nat.div_lt_of_lt_mul (by rw [Nat.mul_comm]; exact ih)
theorem lf_vl {δ : DE} (hd : WF δ) {m : Nat} (hm : m < prd δ (δ.1 3)) : ∀ k, k ≤ δ.1 3 → lf δ m (δ.1 3 - k) = vl δ (dg δ m) k
  | 0, _ => by
    have := lf_prd hd hm (δ.1 3) (Nat.le_refl _)
    rw [Nat.sub_self] at this
    show lf δ m (δ.1 3) = 0
    have e : prd δ 0 = 1 := rfl
    omega
  | k + 1, h => by
    have ih := lf_vl hd hm k (by omega)
    obtain ⟨z, hz⟩ : ∃ z, δ.1 3 - k = z + 1 := ⟨δ.1 3 - k - 1, by omega⟩
    have e1 : δ.1 3 - (k + 1) = z := by omega
    have e2 : δ.1 3 - 1 - z = k := by omega
    have e3 : δ.1 3 - 1 - k = z := by omega
    rw [hz] at ih
    have ih' : lf δ m z / δ.2 10 (δ.1 3 - 1 - z) = vl δ (dg δ m) k := ih
    rw [e2] at ih'
    show _ = vl δ (dg δ m) k * δ.2 10 k + lf δ m (δ.1 3 - 1 - k) % δ.2 10 k
    rw [e1, e3, ← ih']
    exact (Nat.div_add_mod' _ _).symm
theorem row_vl {δ : DE} (hd : WF δ) {m : Nat} (hm : m < prd δ (δ.1 3)) : m = vl δ (dg δ m) (δ.1 3) := by
  have := lf_vl hd hm (δ.1 3) (Nat.le_refl _)
  rw [Nat.sub_self] at this
  exact this
theorem vl_lt {δ : DE} {dd : Nat → Nat} : ∀ {k : Nat}, (∀ b, b < k → dd b < δ.2 10 b) → vl δ dd k < prd δ k
  | 0, _ => by show 0 < 1; decide
  | k + 1, h => by
    have ih := vl_lt (k := k) fun b hb => h b (by omega)
    have h1 := h k (by omega)
    show vl δ dd k * δ.2 10 k + dd k < prd δ k * δ.2 10 k
    have : (vl δ dd k + 1) * δ.2 10 k ≤ prd δ k * δ.2 10 k := Nat.mul_le_mul_right _ ih
    rw [Nat.succ_mul] at this
    omega
theorem vl_cg {δ : DE} {dd ee : Nat → Nat} : ∀ {k : Nat}, (∀ b, b < k → dd b = ee b) → vl δ dd k = vl δ ee k
  | 0, _ => rfl
  | k + 1, h => by
    show vl δ dd k * _ + dd k = vl δ ee k * _ + ee k
    rw [vl_cg (k := k) fun b hb => h b (by omega), h k (by omega)]
theorem lf_of {δ : DE} (hd : WF δ) {dd : Nat → Nat} (h : ∀ b, b < δ.1 3 → dd b < δ.2 10 b) : ∀ j, j ≤ δ.1 3 → lf δ (vl δ dd (δ.1 3)) j = vl δ dd (δ.1 3 - j)
  | 0, _ => rfl
  | j + 1, hj => by
    have ih := lf_of hd h j (by omega)
    obtain ⟨z, hz⟩ : ∃ z, δ.1 3 - j = z + 1 := ⟨δ.1 3 - j - 1, by omega⟩
    have e1 : δ.1 3 - (j + 1) = z := by omega
    have e2 : δ.1 3 - 1 - j = z := by omega
    have hs := h z (by omega)
    show lf δ (vl δ dd (δ.1 3)) j / δ.2 10 (δ.1 3 - 1 - j) = _
    rw [ih, e1, e2, hz]
    show (vl δ dd z * δ.2 10 z + dd z) / δ.2 10 z = _
    rw [Nat.mul_comm, Nat.mul_add_div (by omega), Nat.div_eq_of_lt hs, Nat.add_zero]
theorem dg_of {δ : DE} (hd : WF δ) {dd : Nat → Nat} (h : ∀ b, b < δ.1 3 → dd b < δ.2 10 b) {b : Nat} (hb : b < δ.1 3) : dg δ (vl δ dd (δ.1 3)) b = dd b := by
  have h1 := lf_of hd h (δ.1 3 - 1 - b) (by omega)
  have e1 : δ.1 3 - (δ.1 3 - 1 - b) = b + 1 := by omega
  have hs := h b hb
  unfold dg
  rw [h1, e1]
  show (vl δ dd b * δ.2 10 b + dd b) % δ.2 10 b = _
  rw [Nat.mul_comm, Nat.mul_add_mod, Nat.mod_eq_of_lt hs]
/-- the product of the sizes of the blots between b and k -/
def pr2 (δ : DE) (b : Nat) : Nat → Nat
  | 0 => 1
  | k + 1 => if b < k then pr2 δ b k * δ.2 10 k else pr2 δ b k
theorem pr2_1 {δ : DE} {b : Nat} : ∀ k, k ≤ b + 1 → pr2 δ b k = 1
  | 0, _ => rfl
  | k + 1, h => by
    unfold pr2
    rw [if_neg (by omega), pr2_1 k (by omega)]
/-- the product of the last j sizes -/
def spK (δ : DE) : Nat → Nat
  | 0 => 1
  | j + 1 => spK δ j * δ.2 10 (δ.1 3 - 1 - j)
theorem pr2_sp {δ : DE} {b : Nat} : ∀ j, j ≤ δ.1 3 - 1 - b → b < δ.1 3 → pr2 δ b (δ.1 3) = pr2 δ b (δ.1 3 - j) * spK δ j
  | 0, _, _ => by show _ = _ * 1; rw [Nat.mul_one]; rfl
  | j + 1, h, hb => by
    rw [pr2_sp j (by omega) hb]
    obtain ⟨z, hz⟩ : ∃ z, δ.1 3 - j = z + 1 := ⟨δ.1 3 - j - 1, by omega⟩
    have e1 : δ.1 3 - (j + 1) = z := by omega
    have e2 : δ.1 3 - 1 - j = z := by omega
    have e3 : pr2 δ b (z + 1) = pr2 δ b z * δ.2 10 z := by
      show (if b < z then _ else _) = _
      rw [if_pos (by omega)]
    show _ = _ * (spK δ j * δ.2 10 (δ.1 3 - 1 - j))
    rw [hz, e1, e2, e3, Nat.mul_assoc, Nat.mul_comm (δ.2 10 z)]
theorem st_eq {δ : DE} {b : Nat} (hb : b < δ.1 3) : pr2 δ b (δ.1 3) = spK δ (δ.1 3 - 1 - b) := by
  rw [pr2_sp (δ.1 3 - 1 - b) (Nat.le_refl _) hb, pr2_1 _ (by omega), Nat.one_mul]
theorem vl_up {δ : DE} {dd : Nat → Nat} {b c : Nat} : ∀ {k : Nat}, (k ≤ b → vl δ (va_up dd b c) k = vl δ dd k) ∧ (b < k → vl δ (va_up dd b c) k + dd b * pr2 δ b k = vl δ dd k + c * pr2 δ b k)
  | 0 => ⟨fun _ => rfl, fun h => by omega⟩
  | k + 1 => by
    obtain ⟨h1, h2⟩ := vl_up (δ := δ) (dd := dd) (b := b) (c := c) (k := k)
    refine ⟨fun h => ?_, fun h => ?_⟩
    · show vl δ (va_up dd b c) k * _ + va_up dd b c k = vl δ dd k * _ + dd k
      rw [h1 (by omega), va_up_ne _ _ (by omega)]
    · by_cases z : k = b
      · subst z
        rw [pr2_1 _ (Nat.le_refl _), Nat.mul_one, Nat.mul_one]
        show vl δ (va_up dd k c) k * _ + va_up dd k c k + dd k = vl δ dd k * _ + dd k + c
        rw [h1 (Nat.le_refl _), va_up_self]
        omega
      · have h3 := h2 (by omega)
        have e3 : pr2 δ b (k + 1) = pr2 δ b k * δ.2 10 k := by
          show (if b < k then _ else _) = _
          rw [if_pos (by omega)]
        show vl δ (va_up dd b c) k * δ.2 10 k + va_up dd b c k + dd b * pr2 δ b (k + 1) = vl δ dd k * δ.2 10 k + dd k + c * pr2 δ b (k + 1)
        rw [e3, va_up_ne _ _ z, ← Nat.mul_assoc, ← Nat.mul_assoc]
        have h4 := congrArg (· * δ.2 10 k) h3
        simp only [Nat.add_mul] at h4
        omega
theorem prd_pos {δ : DE} (hd : WF δ) : ∀ k, k ≤ δ.1 3 → 1 ≤ prd δ k
  | 0, _ => Nat.le_refl _
  | k + 1, h => by
    have ih := prd_pos hd k (by omega)
    have := (hd.2.2.2.1 k (by omega)).1
    exact Nat.mul_le_mul ih this
/-- reading numbers and rows -/
theorem rl_at {δ : DE} : ∀ {n m : Nat}, m < n → br δ m = 0 → (rl δ m).length < (rl δ n).length ∧ (rl δ n).getD (rl δ m).length 0 = m
  | 0, m, h, _ => by omega
  | n + 1, m, h, hb => by
    have e : rl δ (n + 1) = if br δ n = 0 then rl δ n ++ [n] else rl δ n := rfl
    by_cases z : m = n
    · subst z
      rw [e, if_pos hb]
      exact ⟨by simp, getD_last⟩
    · obtain ⟨h1, h2⟩ := rl_at (n := n) (m := m) (by omega) hb
      rw [e]
      split
      · refine ⟨by simp; omega, ?_⟩
        rw [getD_app h1, h2]
      · exact ⟨h1, h2⟩
theorem rl_ix {δ : DE} : ∀ {n i : Nat}, i < (rl δ n).length → (rl δ ((rl δ n).getD i 0)).length = i
  | 0, i, h => by cases h
  | n + 1, i, h => by
    have e : rl δ (n + 1) = if br δ n = 0 then rl δ n ++ [n] else rl δ n := rfl
    rw [e] at h ⊢
    split at h
    · next z =>
      rw [if_pos z]
      by_cases y : i = (rl δ n).length
      · subst y
        rw [getD_last]
      · have hi : i < (rl δ n).length := by simp at h; omega
        rw [getD_app hi]
        exact rl_ix hi
    · next z =>
      rw [if_neg z]
      exact rl_ix h
theorem rr_of {δ : DE} {m : Nat} (hm : m < δ.1 6) (hb : br δ m = 0) : (rl δ m).length < nR δ ∧ rr δ (rl δ m).length = m := rl_at hm hb
theorem ix_of {δ : DE} {i : Nat} (hi : i < nR δ) : (rl δ (rr δ i)).length = i := rl_ix hi
/-! groups -/
def gpK (δ : DE) (set : Nat) (dd : Nat → Nat) : Nat → Nat
  | 0 => 0
  | b + 1 => if set.testBit b = true then gpK δ set dd b * δ.2 10 b + dd b else gpK δ set dd b
def gsK (δ : DE) (set : Nat) : Nat → Nat
  | 0 => 1
  | b + 1 => if set.testBit b = true then gsK δ set b * δ.2 10 b else gsK δ set b
theorem gs_le {δ : DE} (hd : WF δ) (set : Nat) : ∀ k, k ≤ δ.1 3 → gsK δ set k ≤ prd δ k
  | 0, _ => Nat.le_refl _
  | k + 1, h => by
    have ih := gs_le hd set k (by omega)
    have := (hd.2.2.2.1 k (by omega)).1
    unfold gsK
    show _ ≤ prd δ k * δ.2 10 k
    split
    · exact Nat.mul_le_mul_right _ ih
    · exact Nat.le_trans ih (Nat.le_mul_of_pos_right _ (by omega))
theorem gp_lt {δ : DE} {set : Nat} {dd : Nat → Nat} : ∀ {k : Nat}, (∀ b, b < k → dd b < δ.2 10 b) → gpK δ set dd k < gsK δ set k
  | 0, _ => by show 0 < 1; decide
  | k + 1, h => by
    have ih := gp_lt (set := set) (k := k) fun b hb => h b (by omega)
    have h1 := h k (by omega)
    unfold gpK gsK
    split
    · have : (gpK δ set dd k + 1) * δ.2 10 k ≤ gsK δ set k * δ.2 10 k := Nat.mul_le_mul_right _ ih
      rw [Nat.succ_mul] at this
      omega
    · exact ih
theorem gp_inj {δ : DE} {set : Nat} {dd ee : Nat → Nat} : ∀ {k : Nat}, (∀ b, b < k → dd b < δ.2 10 b) → (∀ b, b < k → ee b < δ.2 10 b) → (gpK δ set dd k = gpK δ set ee k ↔ ∀ b, b < k → set.testBit b = true → dd b = ee b)
  | 0, _, _ => ⟨fun _ b hb => by omega, fun _ => rfl⟩
  | k + 1, h1, h2 => by
    have ih := gp_inj (set := set) (k := k) (fun b hb => h1 b (by omega)) (fun b hb => h2 b (by omega))
    have l1 := h1 k (by omega)
    have l2 := h2 k (by omega)
    by_cases z : set.testBit k = true
    · have a1 : gpK δ set dd (k + 1) = gpK δ set dd k * δ.2 10 k + dd k := by
        show (if _ then _ else _) = _
        rw [if_pos z]
      have a2 : gpK δ set ee (k + 1) = gpK δ set ee k * δ.2 10 k + ee k := by
        show (if _ then _ else _) = _
        rw [if_pos z]
      rw [a1, a2]
      constructor
      · intro e
        have m1 : (gpK δ set dd k * δ.2 10 k + dd k) % δ.2 10 k = dd k := by rw [Nat.mul_comm, Nat.mul_add_mod, Nat.mod_eq_of_lt l1]
        have m2 : (gpK δ set ee k * δ.2 10 k + ee k) % δ.2 10 k = ee k := by rw [Nat.mul_comm, Nat.mul_add_mod, Nat.mod_eq_of_lt l2]
        have q : dd k = ee k := by rw [← m1, ← m2, e]
        have q2 : gpK δ set dd k = gpK δ set ee k := by
          have : gpK δ set dd k * δ.2 10 k = gpK δ set ee k * δ.2 10 k := by omega
          exact Nat.eq_of_mul_eq_mul_right (by omega) this
        intro b hb hs
        by_cases y : b = k
        · subst y; exact q
        · exact ih.mp q2 b (by omega) hs
      · intro h
        rw [ih.mpr fun b hb hs => h b (by omega) hs, h k (by omega) z]
    · have a1 : gpK δ set dd (k + 1) = gpK δ set dd k := by
        show (if _ then _ else _) = _
        rw [if_neg z]
      have a2 : gpK δ set ee (k + 1) = gpK δ set ee k := by
        show (if _ then _ else _) = _
        rw [if_neg z]
      rw [a1, a2, ih]
      constructor
      · intro h b hb hs
        by_cases y : b = k
        · subst y; exact absurd hs z
        · exact h b (by omega) hs
      · intro h b hb hs
        exact h b (by omega) hs
abbrev gpR (δ : DE) (set i : Nat) : Nat := gpK δ set (dgR δ i) (δ.1 3)
abbrev gsR (δ : DE) (set : Nat) : Nat := gsK δ set (δ.1 3)
theorem gp_same {δ : DE} (hd : WF δ) {set i j : Nat} : gpR δ set i = gpR δ set j ↔ sameD δ set i j = true := by
  rw [gp_inj (fun b hb => dgR_lt hd i hb) (fun b hb => dgR_lt hd j hb)]
  unfold sameD
  rw [List.all_eq_true]
  constructor
  · intro h b hb
    have hb' := List.mem_range.mp hb
    cases hs : set.testBit b with
    | false => rfl
    | true => simp [h b hb' hs]
  · intro h b hb hs
    have := h b (List.mem_range.mpr hb)
    rw [hs] at this
    simpa using this
theorem tl_iff {δ : DE} (hd : WF δ) {set t : Nat} : tlB δ set t = true ↔ ∀ i j, i < nR δ → j < nR δ → gpR δ set i = gpR δ set j → owR δ i t = owR δ j t := by
  unfold tlB
  rw [List.all_eq_true]
  constructor
  · intro h i j hi hj e
    have h1 := h i (List.mem_range.mpr hi)
    rw [List.all_eq_true] at h1
    have h2 := h1 j (List.mem_range.mpr hj)
    rw [(gp_same hd).mp e] at h2
    simpa using h2
  · intro h i hi
    rw [List.all_eq_true]
    intro j hj
    have hi' := List.mem_range.mp hi
    have hj' := List.mem_range.mp hj
    cases hs : sameD δ set i j with
    | false => rfl
    | true => simp [h i j hi' hj' ((gp_same hd).mpr hs)]
theorem gsR_le {δ : DE} (hd : WF δ) (set : Nat) : gsR δ set ≤ δ.1 6 := by
  have := gs_le hd set (δ.1 3) (Nat.le_refl _)
  rw [← hd.1.2.2.2.2.2.2.1] at this
  exact this
theorem gpR_lt {δ : DE} (hd : WF δ) (set i : Nat) : gpR δ set i < gsR δ set := gp_lt fun b hb => dgR_lt hd i hb
/-- what is known of a group by k readings: 0 nothing, 7 unlike ones, else whom (and one) -/
def grK (δ : DE) (set t : Nat) : Nat → Nat → Nat
  | 0, _ => 0
  | k + 1, q => if gpR δ set k = q then (if grK δ set t k q = 0 then owR δ k t + 1 else if grK δ set t k q = owR δ k t + 1 then grK δ set t k q else 7) else grK δ set t k q
def mxK (δ : DE) (set t : Nat) : Nat → Bool
  | 0 => false
  | k + 1 => mxK δ set t k || decide (grK δ set t k (gpR δ set k) ≠ 0 ∧ grK δ set t k (gpR δ set k) ≠ owR δ k t + 1)
theorem gr_3 {δ : DE} (hd : WF δ) {set t : Nat} : ∀ k q, (grK δ set t k q = 0 ∧ ∀ i, i < k → gpR δ set i ≠ q) ∨ (grK δ set t k q = 7 ∧ ∃ i j, i < k ∧ j < k ∧ gpR δ set i = q ∧ gpR δ set j = q ∧ owR δ i t ≠ owR δ j t) ∨ (∃ i, i < k ∧ gpR δ set i = q ∧ grK δ set t k q = owR δ i t + 1 ∧ ∀ j, j < k → gpR δ set j = q → owR δ j t = owR δ i t)
  | 0, q => Or.inl ⟨rfl, fun i hi => by omega⟩
  | k + 1, q => by
    have lo := owR_le hd k t
    have b1 := hd.1.1
    by_cases z : gpR δ set k = q
    · have e : grK δ set t (k + 1) q = if grK δ set t k q = 0 then owR δ k t + 1 else if grK δ set t k q = owR δ k t + 1 then grK δ set t k q else 7 := by
        show (if gpR δ set k = q then _ else _) = _
        rw [if_pos z]
      rcases gr_3 hd (set := set) (t := t) k q with ⟨h1, h2⟩ | ⟨h1, i, j, h2, h3, h4, h5, h6⟩ | ⟨i, h1, h2, h3, h4⟩
      · right; right
        rw [if_pos h1] at e
        refine ⟨k, by omega, z, e, fun j hj hq => ?_⟩
        by_cases y : j = k
        · subst y; rfl
        · exact absurd hq (h2 j (by omega))
      · right; left
        rw [h1, if_neg (by decide), if_neg (by omega)] at e
        exact ⟨e, i, j, by omega, by omega, h4, h5, h6⟩
      · rw [if_neg (by omega)] at e
        by_cases y : owR δ k t = owR δ i t
        · right; right
          rw [if_pos (by omega)] at e
          refine ⟨i, by omega, h2, by omega, fun j hj hq => ?_⟩
          by_cases y2 : j = k
          · subst y2; exact y
          · exact h4 j (by omega) hq
        · right; left
          rw [if_neg (by omega)] at e
          exact ⟨e, k, i, by omega, by omega, z, h2, y⟩
    · have e : grK δ set t (k + 1) q = grK δ set t k q := by
        show (if gpR δ set k = q then _ else _) = _
        rw [if_neg z]
      rw [e]
      rcases gr_3 hd (set := set) (t := t) k q with ⟨h1, h2⟩ | ⟨h1, i, j, h2, h3, h4, h5, h6⟩ | ⟨i, h1, h2, h3, h4⟩
      · left
        refine ⟨h1, fun i hi => ?_⟩
        by_cases y : i = k
        · subst y; exact z
        · exact h2 i (by omega)
      · right; left
        exact ⟨h1, i, j, by omega, by omega, h4, h5, h6⟩
      · right; right
        refine ⟨i, by omega, h2, h3, fun j hj hq => ?_⟩
        by_cases y : j = k
        · subst y; exact absurd hq z
        · exact h4 j (by omega) hq
theorem gr_le {δ : DE} (hd : WF δ) (set t k q : Nat) : grK δ set t k q ≤ 7 := by
  have b1 := hd.1.1
  rcases gr_3 hd (set := set) (t := t) k q with ⟨h1, h2⟩ | ⟨h1, _⟩ | ⟨i, h1, h2, h3, h4⟩
  · omega
  · omega
  · have := owR_le hd i t; omega
theorem mx_iff {δ : DE} (hd : WF δ) {set t : Nat} : ∀ k, mxK δ set t k = true ↔ ∃ i j, i < k ∧ j < k ∧ gpR δ set i = gpR δ set j ∧ owR δ i t ≠ owR δ j t
  | 0 => ⟨fun h => (by cases h), fun ⟨i, j, h, _⟩ => by omega⟩
  | k + 1 => by
    have ih := mx_iff hd (set := set) (t := t) k
    have b1 := hd.1.1
    have lo := owR_le hd k t
    show (mxK δ set t k || decide _) = true ↔ _
    rw [Bool.or_eq_true, ih, decide_eq_true_eq]
    constructor
    · rintro (⟨i, j, h1, h2, h3⟩ | ⟨h1, h2⟩)
      · exact ⟨i, j, by omega, by omega, h3⟩
      · rcases gr_3 hd (set := set) (t := t) k (gpR δ set k) with ⟨g1, g2⟩ | ⟨g1, i, j, g2, g3, g4, g5, g6⟩ | ⟨i, g1, g2, g3, g4⟩
        · exact absurd g1 h1
        · exact ⟨i, j, by omega, by omega, g4.trans g5.symm, g6⟩
        · exact ⟨i, k, by omega, by omega, g2, by omega⟩
    · rintro ⟨i, j, h1, h2, h3, h4⟩
      have key : ∀ a, a < k → gpR δ set a = gpR δ set k → owR δ a t ≠ owR δ k t → (∃ i j, i < k ∧ j < k ∧ gpR δ set i = gpR δ set j ∧ owR δ i t ≠ owR δ j t) ∨ (grK δ set t k (gpR δ set k) ≠ 0 ∧ grK δ set t k (gpR δ set k) ≠ owR δ k t + 1) := fun a ha e ne => by
        rcases gr_3 hd (set := set) (t := t) k (gpR δ set k) with ⟨g1, g2⟩ | ⟨g1, i, j, g2, g3, g4, g5, g6⟩ | ⟨i, g1, g2, g3, g4⟩
        · exact absurd e (g2 a ha)
        · exact Or.inl ⟨i, j, g2, g3, g4.trans g5.symm, g6⟩
        · right
          have := g4 a ha e
          omega
      by_cases y1 : i = k
      · subst y1
        by_cases y2 : j = i
        · subst y2; exact absurd rfl h4
        · exact key j (by omega) h3.symm (fun q => h4 q.symm)
      · by_cases y2 : j = k
        · subst y2
          exact key i (by omega) h3 h4
        · exact Or.inl ⟨i, j, by omega, by omega, h3, h4⟩
theorem mx_tl {δ : DE} (hd : WF δ) (set t : Nat) : mxK δ set t (nR δ) = !tlB δ set t := by
  rw [Bool.eq_iff_iff, mx_iff hd, Bool.not_eq_true']
  constructor
  · rintro ⟨i, j, h1, h2, h3, h4⟩
    cases hx : tlB δ set t with
    | false => rfl
    | true => exact absurd ((tl_iff hd).mp hx i j h1 h2 h3) h4
  · intro h
    apply Classical.byContradiction
    intro hn
    have : tlB δ set t = true := (tl_iff hd).mpr fun i j hi hj e => by
      apply Classical.byContradiction
      intro ne
      exact hn ⟨i, j, hi, hj, e, ne⟩
    rw [this] at h
    cases h
/-- unlike ones in the group of reading i -/
theorem gr_7 {δ : DE} (hd : WF δ) {set t i : Nat} (hi : i < nR δ) : grK δ set t (nR δ) (gpR δ set i) = 7 ↔ exF (fun j => sameD δ set i j && (owR δ i t != owR δ j t)) (nR δ) = true := by
  rw [exF_iff]
  have b1 := hd.1.1
  rcases gr_3 hd (set := set) (t := t) (nR δ) (gpR δ set i) with ⟨g1, g2⟩ | ⟨g1, a, b, g2, g3, g4, g5, g6⟩ | ⟨a, g1, g2, g3, g4⟩
  · exact absurd rfl (g2 i hi)
  · refine ⟨fun _ => ?_, fun _ => g1⟩
    by_cases y : owR δ i t = owR δ a t
    · exact ⟨b, g3, by rw [(gp_same hd).mp g5.symm]; simp [y, g6]⟩
    · exact ⟨a, g2, by rw [(gp_same hd).mp g4.symm]; simp [y]⟩
  · constructor
    · intro h
      have := owR_le hd a t
      omega
    · rintro ⟨j, hj, h⟩
      rw [Bool.and_eq_true] at h
      have e := (gp_same hd).mpr h.1
      have h1 := g4 j hj e.symm
      have h2 := g4 i hi rfl
      have h3 : owR δ i t ≠ owR δ j t := by simpa using h.2
      exact absurd (h2.trans h1.symm) h3
