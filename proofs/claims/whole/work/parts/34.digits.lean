/-! ===== the digits of a row, its values ===== -/
/-- what is left of a row's number behind j digits from the end -/
def lf (δ : DE) (m : Nat) : Nat → Nat
  | 0 => m
  | j + 1 => lf δ m j / δ.2 10 (δ.1 3 - 1 - j)
def dg (δ : DE) (m b : Nat) : Nat := lf δ m (δ.1 3 - 1 - b) % δ.2 10 b
/-- the next digits, of the first j blots -/
def nx (δ : DE) : Nat → (Nat → Nat) → Nat → Nat
  | 0, dd => dd
  | j + 1, dd => if dd j + 1 < δ.2 10 j then va_up dd j (dd j + 1) else nx δ j (va_up dd j 0)
theorem lf_eq {δ : DE} {m n : Nat} : ∀ {i : Nat}, lf δ m i = lf δ n i → ∀ k, lf δ m (i + k) = lf δ n (i + k)
  | _, h, 0 => h
  | i, h, k + 1 => by
    show lf δ m (i + k) / _ = lf δ n (i + k) / _
    rw [lf_eq h k]
theorem dg_lt {δ : DE} (hd : WF δ) (m : Nat) {b : Nat} (hb : b < δ.1 3) : dg δ m b < δ.2 10 b := Nat.mod_lt _ (hd.2.2.2.1 b hb).1
theorem nx_dg {δ : DE} (hd : WF δ) (m : Nat) : ∀ (j : Nat) (dd : Nat → Nat), j ≤ δ.1 3 → (∀ b, b < j → dd b = dg δ m b) → (∀ b, j ≤ b → b < δ.1 3 → dd b = dg δ (m + 1) b) → lf δ (m + 1) (δ.1 3 - j) = lf δ m (δ.1 3 - j) + 1 → ∀ b, b < δ.1 3 → nx δ j dd b = dg δ (m + 1) b
  | 0, dd, _, _, h2, _, b, hb => h2 b (Nat.zero_le _) hb
  | j + 1, dd, hj, h1, h2, h3, b, hb => by
    have hs := (hd.2.2.2.1 j (by omega)).1
    have ej : δ.1 3 - (j + 1) = δ.1 3 - 1 - j := by omega
    have ek : δ.1 3 - j = δ.1 3 - 1 - j + 1 := by omega
    rw [ej] at h3
    have hdj : dd j = lf δ m (δ.1 3 - 1 - j) % δ.2 10 j := h1 j (by omega)
    have hx : δ.1 3 - 1 - (δ.1 3 - 1 - j) = j := by omega
    have hm : lf δ m (δ.1 3 - j) = lf δ m (δ.1 3 - 1 - j) / δ.2 10 j := by rw [ek]; simp only [lf, hx]
    have hm1 : lf δ (m + 1) (δ.1 3 - j) = (lf δ m (δ.1 3 - 1 - j) + 1) / δ.2 10 j := by rw [ek]; simp only [lf, hx, h3]
    have hd1 : dg δ (m + 1) j = (lf δ m (δ.1 3 - 1 - j) + 1) % δ.2 10 j := by unfold dg; rw [h3]
    generalize hX : lf δ m (δ.1 3 - 1 - j) = X at hdj hm hm1 hd1
    generalize hS : δ.2 10 j = S at hdj hm hm1 hd1 hs
    have dv := Nat.div_add_mod X S
    have ml := Nat.mod_lt X hs
    unfold nx
    rw [hS]
    split
    · next q =>
      rw [hdj] at q
      have e1 : (X + 1) / S = X / S := by
        rw [Nat.div_eq_iff hs]
        have c : X / S * S = S * (X / S) := Nat.mul_comm _ _
        rw [c]
        omega
      have e2 : (X + 1) % S = X % S + 1 := by
        have dv1 := Nat.div_add_mod (X + 1) S
        rw [e1] at dv1
        omega
      by_cases z : b = j
      · subst z
        rw [va_up_self, hdj, hd1, e2]
      · rw [va_up_ne _ _ z]
        by_cases y : b < j
        · rw [h1 b (by omega)]
          have hl : lf δ m (δ.1 3 - j) = lf δ (m + 1) (δ.1 3 - j) := by rw [hm, hm1, e1]
          have := lf_eq hl (j - 1 - b)
          have ei : δ.1 3 - j + (j - 1 - b) = δ.1 3 - 1 - b := by omega
          rw [ei] at this
          unfold dg
          rw [this]
        · exact h2 b (by omega) hb
    · next q =>
      rw [hdj] at q
      have e1 : (X + 1) / S = X / S + 1 := by
        rw [Nat.div_eq_iff hs]
        have c : (X / S + 1) * S = S * (X / S) + S := by rw [Nat.add_mul, Nat.one_mul, Nat.mul_comm]
        rw [c]
        omega
      have e2 : (X + 1) % S = 0 := by
        have dv1 := Nat.div_add_mod (X + 1) S
        have c : S * (X / S + 1) = S * (X / S) + S := by rw [Nat.mul_add, Nat.mul_one]
        rw [e1, c] at dv1
        omega
      refine nx_dg hd m j _ (by omega) (fun c hc => ?_) (fun c hc hc' => ?_) (by rw [hm, hm1, e1]) b hb
      · rw [va_up_ne _ _ (by omega)]
        exact h1 c (by omega)
      · by_cases z : c = j
        · subst z
          rw [va_up_self, hd1, e2]
        · rw [va_up_ne _ _ z]
          exact h2 c (by omega) hc'
theorem nx_row {δ : DE} (hd : WF δ) (m b : Nat) (hb : b < δ.1 3) : nx δ (δ.1 3) (dg δ m) b = dg δ (m + 1) b :=
  nx_dg hd m (δ.1 3) (dg δ m) (Nat.le_refl _) (fun _ _ => rfl) (fun c h1 h2 => by omega) (by simp [lf]) b hb
theorem lf_0 (δ : DE) : ∀ j, lf δ 0 j = 0
  | 0 => rfl
  | j + 1 => by simp [lf, lf_0 δ j]
theorem dg_0 (δ : DE) (b : Nat) : dg δ 0 b = 0 := by simp [dg, lf_0]
/-- the blot among the first j at a place -/
def bat (δ : DE) (p : Nat) : Nat → Option Nat
  | 0 => none
  | j + 1 => if δ.2 12 j = p then some j else bat δ p j
/-- what stands at a place, by digits -/
def va (δ : DE) (dd : Nat → Nat) (p : Nat) : Nat := match bat δ p (δ.1 3) with
  | some b => δ.2 (20 + b) (dd b)
  | none => δ.2 7 p
theorem bat_some {δ : DE} {p b : Nat} : ∀ {j}, bat δ p j = some b → b < j ∧ δ.2 12 b = p
  | 0, h => by cases h
  | j + 1, h => by
    unfold bat at h
    split at h
    · cases h; next q => exact ⟨by omega, q⟩
    · have := bat_some h
      exact ⟨by omega, this.2⟩
theorem bat_none {δ : DE} {p : Nat} : ∀ {j}, bat δ p j = none → ∀ b, b < j → δ.2 12 b ≠ p
  | 0, _, b, hb => by omega
  | j + 1, h, b, hb => by
    unfold bat at h
    split at h
    · cases h
    · next q =>
      by_cases z : b = j
      · subst z; exact q
      · exact bat_none h b (by omega)
theorem WF.ne {δ : DE} (hd : WF δ) {b c : Nat} (hb : b < δ.1 3) (hc : c < δ.1 3) (h : δ.2 12 b = δ.2 12 c) : b = c := by
  rcases Nat.lt_trichotomy b c with z | z | z
  · have := hd.2.2.2.2.1 b c z hc; omega
  · exact z
  · have := hd.2.2.2.2.1 c b z hb; omega
theorem bat_at {δ : DE} (hd : WF δ) {b : Nat} (hb : b < δ.1 3) : bat δ (δ.2 12 b) (δ.1 3) = some b := by
  cases h : bat δ (δ.2 12 b) (δ.1 3) with
  | none => exact absurd rfl (bat_none h b hb)
  | some c =>
    have := bat_some h
    rw [hd.ne this.1 hb this.2]
theorem va_upd {δ : DE} (hd : WF δ) {b : Nat} (hb : b < δ.1 3) (dd : Nat → Nat) (x p : Nat) : va δ (va_up dd b x) p = va_up (va δ dd) (δ.2 12 b) (δ.2 (20 + b) x) p := by
  by_cases z : p = δ.2 12 b
  · subst z
    rw [va_up_self]
    unfold va
    rw [bat_at hd hb]
    simp [va_up_self]
  · rw [va_up_ne _ _ z]
    unfold va
    cases h : bat δ p (δ.1 3) with
    | none => rfl
    | some c =>
      have := bat_some h
      have hc : c ≠ b := fun e => z (by rw [← this.2, e])
      simp [va_up_ne _ _ hc]
theorem va_cg {δ : DE} {dd ee : Nat → Nat} (h : ∀ b, b < δ.1 3 → dd b = ee b) (p : Nat) : va δ dd p = va δ ee p := by
  unfold va
  cases hb : bat δ p (δ.1 3) with
  | none => rfl
  | some c => simp [h c (bat_some hb).1]
theorem va_VD {δ : DE} (hd : WF δ) {dd : Nat → Nat} (h : ∀ b, b < δ.1 3 → dd b < δ.2 10 b) : VD δ (va δ dd) := by
  intro p hp
  unfold va
  cases hb : bat δ p (δ.1 3) with
  | none => exact hd.2.2.1 p hp
  | some c =>
    have hc := bat_some hb
    have := (hd.2.2.2.1 c hc.1)
    rw [← hc.2, ← this.2.2.2.1]
    exact this.2.2.2.2.1 _ (h c hc.1)
theorem va_0 {δ : DE} (hd : WF δ) (p : Nat) : va δ (fun _ => 0) p = δ.2 7 p := by
  unfold va
  cases hb : bat δ p (δ.1 3) with
  | none => rfl
  | some c =>
    have hc := bat_some hb
    have := (hd.2.2.2.1 c hc.1).2.2.2.2.2
    rw [hc.2] at this
    exact this.symm
/-- the values of a row; the laws it breaks -/
abbrev vr (δ : DE) (m : Nat) : Nat → Nat := va δ (dg δ m)
theorem vr_VD {δ : DE} (hd : WF δ) (m : Nat) : VD δ (vr δ m) := va_VD hd fun _ hb => dg_lt hd m hb
theorem VD.cg {δ : DE} {v u : Nat → Nat} (h : VD δ v) (k : ∀ p, p < δ.1 5 → v p = u p) : VD δ u := fun p hp => k p hp ▸ h p hp
