/-! ===== the pure picture of a deed, and of a row of it ===== -/
/-- counts (0 heirs, 1 things, 2 parts, 3 blots, 4 estate, 5 places, 6 rows); tables (0 heir's width, 1 least, 2 worth, 3 verb, 4 thing, 5 place, 6 kind, 7 value, 8 blot's kind, 9 width, 10 size, 11 part, 12 place, 13 heir's name, 14 thing's name, 20 + b values of blot b) -/
abbrev DE : Type := (Nat → Nat) × (Nat → Nat → Nat)
theorem nI_m1 {y : Nat} (hy : y < 2 ^ 31) : (nI y - 1 = -1) ↔ y = 0 := by
  cases y with
  | zero => simp [nI_0]
  | succ n =>
    rw [nI_pred]
    constructor
    · intro h
      have := nI_pos (n := n) (by omega)
      rw [h] at this
      exact absurd (by decide) this
    · intro h; cases h
theorem nI_m1e {y x : Nat} (hy : y < 2 ^ 31) (hx : x < 2 ^ 31) : (nI y - 1 = nI x) ↔ y = x + 1 := by
  cases y with
  | zero =>
    constructor
    · intro h
      have := nI_pos hx
      rw [← h] at this
      exact absurd (by decide) this
    · intro h; omega
  | succ n => rw [nI_pred, nI_eq (by omega) hx]; omega
theorem nI_nn {y : Nat} (hy : y < 2 ^ 31) : nI y ≠ -1 := by
  intro h
  have := nI_pos hy
  rw [h] at this
  exact absurd (by decide) this
def ownK (δ : DE) (s : Int32) (v : Nat → Nat) : Nat → Nat → Nat
  | 0, _ => 0
  | k + 1, t => if nI k ≠ s ∧ δ.2 3 k = 1 ∧ δ.2 4 k = t ∧ ownK δ s v k t = 0 then v (δ.2 5 k) + 1 else ownK δ s v k t
def twK (δ : DE) (s : Int32) (v : Nat → Nat) : Nat → Nat
  | 0 => 0
  | k + 1 => if nI k ≠ s ∧ δ.2 3 k = 1 ∧ ownK δ s v k (δ.2 4 k) ≠ 0 ∧ ownK δ s v k (δ.2 4 k) ≠ v (δ.2 5 k) + 1 then 1 else twK δ s v k
/-- whom part k pays, and how much -/
def payK (δ : DE) (s : Int32) (v : Nat → Nat) (k : Nat) : Option (Nat × Nat) :=
  if nI k = s ∨ δ.2 3 k = 1 then none
  else if δ.2 3 k = 0 then some (v (δ.2 5 k), v (δ.2 5 k + 1))
  else if (ownK δ s v (δ.1 2) (δ.2 4 k) = v (δ.2 5 k + 1) + 1) ↔ v (δ.2 5 k) = 0 then some (v (δ.2 5 k + 2), v (δ.2 5 k + 3)) else none
def pC (py : Option (Nat × Nat)) (h : Nat) : Nat := match py with
  | some p => if p.1 = h then p.2 else 0
  | none => 0
def pS (py : Option (Nat × Nat)) : Nat := match py with
  | some p => p.2
  | none => 0
def cK (δ : DE) (s : Int32) (v : Nat → Nat) : Nat → Nat → Nat
  | 0, _ => 0
  | k + 1, h => cK δ s v k h + pC (payK δ s v k) h
def sK (δ : DE) (s : Int32) (v : Nat → Nat) : Nat → Nat
  | 0 => 0
  | k + 1 => sK δ s v k + pS (payK δ s v k)
/-- what may stand at a place of a kind -/
def dom (δ : DE) (kd x : Nat) : Prop := (kd = 0 ∧ x < 100) ∨ (kd = 1 ∧ x < δ.1 0) ∨ (kd = 2 ∧ x < 2)
/-- which kinds a part of a verb has, from its place on -/
def kinds (δ : DE) (vb p : Nat) : Prop := (vb = 0 ∧ δ.2 6 p = 1 ∧ δ.2 6 (p + 1) = 0 ∧ p + 2 ≤ δ.1 5) ∨ (vb = 1 ∧ δ.2 6 p = 1 ∧ p + 1 ≤ δ.1 5) ∨ (vb = 2 ∧ δ.2 6 p = 2 ∧ δ.2 6 (p + 1) = 1 ∧ δ.2 6 (p + 2) = 1 ∧ δ.2 6 (p + 3) = 0 ∧ p + 4 ≤ δ.1 5)
def prd (δ : DE) : Nat → Nat
  | 0 => 1
  | b + 1 => prd δ b * δ.2 10 b
/-- a deed as it stands -/
def WF (δ : DE) : Prop := (δ.1 0 ≤ 4 ∧ δ.1 1 ≤ 5 ∧ δ.1 2 ≤ 9 ∧ δ.1 3 ≤ 8 ∧ δ.1 4 ≤ 999 ∧ δ.1 5 ≤ 36 ∧ δ.1 6 = prd δ (δ.1 3) ∧ δ.1 6 ≤ 20000)
  ∧ (∀ k, k < δ.1 2 → kinds δ (δ.2 3 k) (δ.2 5 k) ∧ (δ.2 3 k ≠ 0 → δ.2 4 k < δ.1 1))
  ∧ (∀ p, p < δ.1 5 → dom δ (δ.2 6 p) (δ.2 7 p))
  ∧ (∀ b, b < δ.1 3 → 1 ≤ δ.2 10 b ∧ δ.2 10 b ≤ 100 ∧ δ.2 12 b < δ.1 5 ∧ δ.2 8 b = δ.2 6 (δ.2 12 b) ∧ (∀ i, i < δ.2 10 b → dom δ (δ.2 8 b) (δ.2 (20 + b) i)) ∧ δ.2 7 (δ.2 12 b) = δ.2 (20 + b) 0)
  ∧ (∀ b c, b < c → c < δ.1 3 → δ.2 12 b < δ.2 12 c)
  ∧ (∀ h, h < δ.1 0 → 1 ≤ δ.2 0 h ∧ δ.2 0 h ≤ 9 ∧ δ.2 1 h ≤ 999)
  ∧ (∀ t, t < δ.1 1 → δ.2 2 t ≤ 99)
/-- values at the places, each in its kind -/
def VD (δ : DE) (v : Nat → Nat) : Prop := ∀ p, p < δ.1 5 → dom δ (δ.2 6 p) (v p)
theorem VD.l {δ : DE} {v : Nat → Nat} (h : VD δ v) (hd : WF δ) {p : Nat} (hp : p < δ.1 5) : v p < 100 := by
  have h4 := hd.1.1
  rcases h p hp with ⟨_, q⟩ | ⟨_, q⟩ | ⟨_, q⟩ <;> omega
theorem VD.h {δ : DE} {v : Nat → Nat} (h : VD δ v) {p : Nat} (hp : p < δ.1 5) (k : δ.2 6 p = 1) : v p < δ.1 0 := by
  rcases h p hp with ⟨q1, q⟩ | ⟨q1, q⟩ | ⟨q1, q⟩
  · omega
  · exact q
  · omega
theorem VD.i {δ : DE} {v : Nat → Nat} (h : VD δ v) {p : Nat} (hp : p < δ.1 5) (k : δ.2 6 p = 2) : v p < 2 := by
  rcases h p hp with ⟨q1, q⟩ | ⟨q1, q⟩ | ⟨q1, q⟩
  · omega
  · omega
  · exact q
theorem payK_in {δ : DE} {s : Int32} {v : Nat → Nat} (hd : WF δ) (hv : VD δ v) {k : Nat} (hk : k < δ.1 2) {p : Nat × Nat} (h : payK δ s v k = some p) : p.1 < δ.1 0 ∧ p.2 < 100 := by
  have hkd := (hd.2.1 k hk).1
  unfold payK at h
  split at h
  · cases h
  · next q1 =>
    split at h
    · next q2 =>
      cases h
      rcases hkd with ⟨a, b, c, e⟩ | ⟨a, b, c⟩ | ⟨a, b, c, e, f, x⟩
      · exact ⟨hv.h (by omega) b, hv.l hd (by omega)⟩
      · omega
      · omega
    · next q2 =>
      split at h
      · cases h
        rcases hkd with ⟨a, b, c, e⟩ | ⟨a, b, c⟩ | ⟨a, b, c, e, f, x⟩
        · omega
        · exact absurd (Or.inr a) q1
        · exact ⟨hv.h (by omega) e, hv.l hd (by omega)⟩
      · cases h
theorem ownK_le {δ : DE} {s : Int32} {v : Nat → Nat} (hd : WF δ) (hv : VD δ v) : ∀ k, k ≤ δ.1 2 → ∀ t, ownK δ s v k t ≤ δ.1 0
  | 0, _, t => Nat.zero_le _
  | k + 1, hk, t => by
    have ih := ownK_le (s := s) hd hv k (by omega) t
    unfold ownK
    split
    · next q =>
      rcases (hd.2.1 k (by omega)).1 with ⟨a, _⟩ | ⟨a, b, c⟩ | ⟨a, _⟩
      · omega
      · have := hv.h (p := δ.2 5 k) (by omega) b
        omega
      · omega
    · exact ih
theorem sK_le {δ : DE} {s : Int32} {v : Nat → Nat} (hd : WF δ) (hv : VD δ v) : ∀ k, k ≤ δ.1 2 → sK δ s v k ≤ 99 * k
  | 0, _ => Nat.le_refl _
  | k + 1, hk => by
    have ih := sK_le (s := s) hd hv k (by omega)
    unfold sK
    cases hp : payK δ s v k with
    | none => simp only [pS]; omega
    | some p =>
      have := (payK_in hd hv (by omega) hp).2
      simp only [pS]
      omega
theorem cK_sK {δ : DE} {s : Int32} {v : Nat → Nat} : ∀ k h, cK δ s v k h ≤ sK δ s v k
  | 0, h => Nat.le_refl _
  | k + 1, h => by
    have ih := cK_sK (δ := δ) (s := s) (v := v) k h
    unfold cK sK
    cases payK δ s v k with
    | none => simpa [pC, pS] using ih
    | some p =>
      simp only [pC, pS]
      split <;> omega
/-- the sum over the heirs -/
def sumH (f : Nat → Nat) : Nat → Nat
  | 0 => 0
  | n + 1 => sumH f n + f n
theorem sumH_add (f g : Nat → Nat) : ∀ n, sumH (fun i => f i + g i) n = sumH f n + sumH g n
  | 0 => rfl
  | n + 1 => by
    simp only [sumH, sumH_add f g n]
    omega
theorem sumH_one (a x : Nat) : ∀ n, sumH (fun i => if a = i then x else 0) n = if a < n then x else 0
  | 0 => by simp [sumH]
  | n + 1 => by
    simp only [sumH, sumH_one a x n]
    by_cases h1 : a = n
    · subst h1; simp
    · by_cases h2 : a < n
      · simp [h1, h2, Nat.lt_succ_of_lt h2]
      · have : ¬ a < n + 1 := by omega
        simp [h1, h2, this]
theorem sumH_0 : ∀ n, sumH (fun _ => 0) n = 0
  | 0 => rfl
  | n + 1 => by simp [sumH, sumH_0 n]
theorem sumH_cK {δ : DE} {s : Int32} {v : Nat → Nat} (hd : WF δ) (hv : VD δ v) : ∀ k, k ≤ δ.1 2 → sumH (cK δ s v k) (δ.1 0) = sK δ s v k
  | 0, _ => sumH_0 _
  | k + 1, hk => by
    have ih := sumH_cK (s := s) hd hv k (by omega)
    have e : cK δ s v (k + 1) = fun h => cK δ s v k h + pC (payK δ s v k) h := by
      funext h; rfl
    have e2 : sK δ s v (k + 1) = sK δ s v k + pS (payK δ s v k) := rfl
    rw [e, sumH_add, ih, e2]
    cases hp : payK δ s v k with
    | none =>
      show _ + sumH (fun _ => 0) _ = _
      simp [sumH_0, pS]
    | some p =>
      show _ + sumH (fun h => if p.1 = h then p.2 else 0) _ = _
      simp [sumH_one, (payK_in hd hv (by omega) hp).1, pS]
def lsK (δ : DE) (c : Nat → Nat) : Nat → Nat
  | 0 => 0
  | h + 1 => if c h < δ.2 1 h then 4 else lsK δ c h
theorem lsK_04 (δ : DE) (c : Nat → Nat) : ∀ n, lsK δ c n = 0 ∨ lsK δ c n = 4
  | 0 => Or.inl rfl
  | h + 1 => by
    unfold lsK
    split
    · exact Or.inr rfl
    · exact lsK_04 δ c h
/-- the laws broken: the sum, one heir, the least, as bits -/
def brK (δ : DE) (s : Int32) (e : Nat) (v : Nat → Nat) : Nat := (if sK δ s v (δ.1 2) = e then 0 else 1) + (if twK δ s v (δ.1 2) = 0 then 0 else 2) + lsK δ (cK δ s v (δ.1 2)) (δ.1 0)
theorem twK_01 {δ : DE} {s : Int32} {v : Nat → Nat} : ∀ k, twK δ s v k = 0 ∨ twK δ s v k = 1
  | 0 => Or.inl rfl
  | k + 1 => by
    unfold twK
    split
    · exact Or.inr rfl
    · exact twK_01 k
