/-! ===== the reading of a text: the words alone ===== -/
def ruF (p : Nat → Bool) (T : Nat → Nat) : Nat → Nat → Nat
  | 0, a => a
  | k + 1, a => if p (T a) = true then ruF p T k (a + 1) else a
/-- the first place from a on at which p fails, or n -/
def ru (p : Nat → Bool) (T : Nat → Nat) (n a : Nat) : Nat := ruF p T (n - a) a
theorem ru_ge {p : Nat → Bool} {T : Nat → Nat} {n a : Nat} (h : n ≤ a) : ru p T n a = a := by
  unfold ru
  rw [show n - a = 0 by omega]
  rfl
theorem ru_st {p : Nat → Bool} {T : Nat → Nat} {n a : Nat} (h : a < n) (hp : p (T a) = true) : ru p T n a = ru p T n (a + 1) := by
  unfold ru
  obtain ⟨k, hk⟩ : ∃ k, n - a = k + 1 := ⟨n - a - 1, by omega⟩
  rw [hk, show n - (a + 1) = k by omega]
  show (if _ then _ else _) = _
  rw [if_pos hp]
theorem ru_no {p : Nat → Bool} {T : Nat → Nat} {n a : Nat} (hp : ¬ p (T a) = true) : ru p T n a = a := by
  unfold ru
  cases n - a with
  | zero => rfl
  | succ k =>
    show (if _ then _ else _) = _
    rw [if_neg hp]
theorem ru_in {p : Nat → Bool} {T : Nat → Nat} {n : Nat} : ∀ k a, n - a = k → a ≤ n → a ≤ ru p T n a ∧ ru p T n a ≤ n ∧ (∀ i, a ≤ i → i < ru p T n a → p (T i) = true) ∧ (ru p T n a < n → ¬ p (T (ru p T n a)) = true)
  | 0, a, h, ha => by
    rw [ru_ge (by omega)]
    exact ⟨Nat.le_refl _, ha, fun i h1 h2 => by omega, fun h1 => by omega⟩
  | k + 1, a, h, ha => by
    by_cases hp : p (T a) = true
    · rw [ru_st (by omega) hp]
      obtain ⟨h1, h2, h3, h4⟩ := ru_in (p := p) (T := T) (n := n) k (a + 1) (by omega) (by omega)
      refine ⟨by omega, h2, fun i q1 q2 => ?_, h4⟩
      by_cases z : i = a
      · rw [z]; exact hp
      · exact h3 i (by omega) q2
    · rw [ru_no hp]
      exact ⟨Nat.le_refl _, ha, fun i h1 h2 => by omega, fun _ => hp⟩
theorem ru_le {p : Nat → Bool} {T : Nat → Nat} {n a : Nat} (h : a ≤ n) : a ≤ ru p T n a := (ru_in _ a rfl h).1
theorem ru_n {p : Nat → Bool} {T : Nat → Nat} {n a : Nat} (h : a ≤ n) : ru p T n a ≤ n := (ru_in _ a rfl h).2.1
theorem ru_p {p : Nat → Bool} {T : Nat → Nat} {n a i : Nat} (h : a ≤ n) (h1 : a ≤ i) (h2 : i < ru p T n a) : p (T i) = true := (ru_in _ a rfl h).2.2.1 i h1 h2
theorem ru_q {p : Nat → Bool} {T : Nat → Nat} {n a : Nat} (h : a ≤ n) (h2 : ru p T n a < n) : ¬ p (T (ru p T n a)) = true := (ru_in _ a rfl h).2.2.2 h2
theorem ru_ru {p : Nat → Bool} {T : Nat → Nat} {n a : Nat} (h : a ≤ n) : ru p T n (ru p T n a) = ru p T n a := by
  by_cases z : ru p T n a < n
  · exact ru_no (ru_q h z)
  · exact ru_ge (by omega)
/-- the length of a run that is known -/
theorem ru_run {p : Nat → Bool} {T : Nat → Nat} {n a : Nat} : ∀ k, a + k ≤ n → (∀ i, i < k → p (T (a + i)) = true) → ru p T n a = ru p T n (a + k)
  | 0, _, _ => rfl
  | k + 1, h, hp => by
    rw [ru_run (p := p) (T := T) (n := n) (a := a) k (by omega) fun i hi => hp i (by omega), ru_st (by omega) (hp k (by omega))]
    rfl
def isB (c : Nat) : Bool := decide (c = 32)
def isL (c : Nat) : Bool := decide (97 ≤ c ∧ c ≤ 122)
def isD (c : Nat) : Bool := decide (48 ≤ c ∧ c ≤ 57)
abbrev sb (T : Nat → Nat) (n a : Nat) : Nat := ru isB T n a
abbrev le9 (T : Nat → Nat) (n a : Nat) : Nat := ru isL T n a
/-- the code of k letters from s on -/
def cdF (T : Nat → Nat) (s : Nat) : Nat → Nat
  | 0 => 0
  | k + 1 => cdF T s k * 27 + (T (s + k) - 96)
def nmF (T : Nat → Nat) (s : Nat) : Nat → Nat
  | 0 => 0
  | k + 1 => min (nmF T s k * 10 + (T (s + k) - 48)) 1000
theorem nmF_le (T : Nat → Nat) (s : Nat) : ∀ k, nmF T s k ≤ 1000
  | 0 => by simp [nmF]
  | k + 1 => by unfold nmF; omega
theorem cdF_lt (T : Nat → Nat) (s : Nat) : ∀ k, (∀ i, i < k → isL (T (s + i)) = true) → cdF T s k < 27 ^ k
  | 0, _ => by simp [cdF]
  | k + 1, h => by
    have ih := cdF_lt T s k fun i hi => h i (by omega)
    have h1 := h k (by omega)
    simp only [isL, decide_eq_true_eq] at h1
    unfold cdF
    rw [Nat.pow_succ]
    omega
def wdL (T : Nat → Nat) (s : Nat) : Nat → List Nat
  | 0 => []
  | k + 1 => wdL T s k ++ [T (s + k)]
theorem wdL_len (T : Nat → Nat) (s : Nat) : ∀ k, (wdL T s k).length = k
  | 0 => rfl
  | k + 1 => by unfold wdL; simp [wdL_len T s k]
theorem wdL_at (T : Nat → Nat) (s : Nat) : ∀ k i, i < k → (wdL T s k).getD i 0 = T (s + i)
  | 0, i, h => by omega
  | k + 1, i, h => by
    unfold wdL
    by_cases z : i = k
    · subst z
      have := getD_last (l := wdL T s i) (n := T (s + i))
      rwa [wdL_len] at this
    · rw [getD_app (by rw [wdL_len]; omega)]
      exact wdL_at T s k i (by omega)
def cwL (l : List Nat) : Nat := l.foldl (fun x c => x * 27 + (c - 96)) 0
theorem cwL_app (l : List Nat) (c : Nat) : cwL (l ++ [c]) = cwL l * 27 + (c - 96) := by
  unfold cwL
  rw [List.foldl_append]
  rfl
theorem cdF_w (T : Nat → Nat) (s : Nat) : ∀ k, cdF T s k = cwL (wdL T s k)
  | 0 => rfl
  | k + 1 => by
    unfold cdF wdL
    rw [cwL_app, cdF_w T s k]
theorem cwL_inj : ∀ (n : Nat) (l m : List Nat), l.length = n → (∀ c, c ∈ l → isL c = true) → (∀ c, c ∈ m → isL c = true) → cwL l = cwL m → l = m
  | 0, l, m, hn, _, hm, h => by
    have el : l = [] := List.length_eq_zero_iff.mp hn
    subst el
    rcases List.eq_nil_or_concat m with z | ⟨m', c, z⟩
    · exact z.symm
    · rw [List.concat_eq_append] at z
      subst z
      rw [cwL_app] at h
      have h1 := hm c (by simp)
      simp only [isL, decide_eq_true_eq] at h1
      have : cwL [] = 0 := rfl
      omega
  | n + 1, l, m, hn, hl, hm, h => by
    rcases List.eq_nil_or_concat l with z | ⟨l', d, z⟩
    · subst z; cases hn
    · rw [List.concat_eq_append] at z
      subst z
      have d1 := hl d (by simp)
      simp only [isL, decide_eq_true_eq] at d1
      rw [cwL_app] at h
      rcases List.eq_nil_or_concat m with z | ⟨m', c, z⟩
      · subst z
        have : cwL [] = 0 := rfl
        omega
      · rw [List.concat_eq_append] at z
        subst z
        have h1 := hm c (by simp)
        simp only [isL, decide_eq_true_eq] at h1
        rw [cwL_app] at h
        have e1 : d = c := by omega
        have e2 := cwL_inj n l' m' (by simp at hn; exact hn) (fun c hc => hl c (by simp [hc])) (fun c hc => hm c (by simp [hc])) (by omega)
        rw [e1, e2]
theorem wdL_L {T : Nat → Nat} {s : Nat} : ∀ {k}, (∀ i, i < k → isL (T (s + i)) = true) → ∀ c, c ∈ wdL T s k → isL c = true
  | 0, _, c, h => by cases h
  | k + 1, h, c, hc => by
    unfold wdL at hc
    rcases List.mem_append.mp hc with z | z
    · exact wdL_L (fun i hi => h i (by omega)) c z
    · rw [List.mem_singleton] at z
      rw [z]
      exact h k (by omega)
/-- the word by which a clause of a sort begins -/
def vbW : Nat → List Nat
  | 0 => [104, 101, 105, 114]
  | 1 => [116, 104, 105, 110, 103]
  | 2 => [101, 115, 116, 97, 116, 101]
  | 3 => [108, 101, 97, 115, 116]
  | 4 => [99, 111, 105, 110]
  | 5 => [119, 105, 108, 108]
  | _ => [119, 104, 101, 110]
def vbS (l : List Nat) : Nat → Option Nat
  | 0 => none
  | k + 1 => if l = vbW (6 - k) then some (6 - k) else vbS l k
def vbP (l : List Nat) : Option Nat := vbS l 7
def wIs : List Nat := [105, 115]
def wNot : List Nat := [110, 111, 116]
/-! ===== steps of the reading: a fault, or what is read and where one stands ===== -/
abbrev PV : Type := (Nat × Nat) ⊕ (Nat × Nat)
abbrev PR : Type := (Nat × Nat) ⊕ (DE × Nat)
def bd {α β : Type} (r : (Nat × Nat) ⊕ α) (f : α → (Nat × Nat) ⊕ β) : (Nat × Nat) ⊕ β := match r with
  | .inl e => .inl e
  | .inr x => f x
def dC (δ : DE) (k v : Nat) : DE := (va_up δ.1 k v, δ.2)
def dT (δ : DE) (k i v : Nat) : DE := (δ.1, va_up δ.2 k (va_up (δ.2 k) i v))
def dV (δ : DE) (b : Nat) (l : List Nat) : DE := (δ.1, va_up δ.2 (20 + b) fun i => if i < l.length then l.getD i 0 else δ.2 (20 + b) i)
theorem dC_1 (δ : DE) (k v j : Nat) : (dC δ k v).1 j = if j = k then v else δ.1 j := rfl
theorem dC_2 (δ : DE) (k v j i : Nat) : (dC δ k v).2 j i = δ.2 j i := rfl
theorem dT_1 (δ : DE) (k i v j : Nat) : (dT δ k i v).1 j = δ.1 j := rfl
theorem dT_2 (δ : DE) (k i v j m : Nat) : (dT δ k i v).2 j m = if j = k then (if m = i then v else δ.2 j m) else δ.2 j m := by
  unfold dT va_up
  by_cases z : j = k
  · subst z; simp
  · simp [z]
theorem dV_1 (δ : DE) (b : Nat) (l : List Nat) (j : Nat) : (dV δ b l).1 j = δ.1 j := rfl
theorem dV_2 (δ : DE) (b : Nat) (l : List Nat) (j m : Nat) : (dV δ b l).2 j m = if j = 20 + b then (if m < l.length then l.getD m 0 else δ.2 j m) else δ.2 j m := by
  unfold dV va_up
  by_cases z : j = 20 + b
  · subst z; simp
  · simp [z]
def nfF (f : Nat → Nat) (c : Nat) : Nat → Option Nat
  | 0 => none
  | k + 1 => match nfF f c k with
    | some i => some i
    | none => if f k = c then some k else none
theorem nf_some {f : Nat → Nat} {c i : Nat} : ∀ {n}, nfF f c n = some i → i < n ∧ f i = c
  | 0, h => by cases h
  | n + 1, h => by
    unfold nfF at h
    cases hq : nfF f c n with
    | some j =>
      rw [hq] at h
      cases h
      have := nf_some hq
      exact ⟨by omega, this.2⟩
    | none =>
      rw [hq] at h
      simp only [] at h
      split at h
      · next z => cases h; exact ⟨by omega, z⟩
      · cases h
theorem nf_none {f : Nat → Nat} {c : Nat} : ∀ {n}, nfF f c n = none → ∀ i, i < n → f i ≠ c
  | 0, _, i, hi => by omega
  | n + 1, h, i, hi => by
    unfold nfF at h
    cases hq : nfF f c n with
    | some j => rw [hq] at h; cases h
    | none =>
      rw [hq] at h
      simp only [] at h
      split at h
      · cases h
      · next z =>
        by_cases y : i = n
        · subst y; exact z
        · exact nf_none hq i (by omega)
/-- the first of that name -/
theorem nf_first {f : Nat → Nat} {c i : Nat} : ∀ {n}, i < n → f i = c → (∀ j, j < i → f j ≠ c) → nfF f c n = some i
  | 0, h, _, _ => by omega
  | n + 1, h, hi, hj => by
    unfold nfF
    by_cases y : i = n
    · subst y
      cases hq : nfF f c i with
      | some j => exact absurd (nf_some hq).2 (hj j (nf_some hq).1)
      | none => simp only []; rw [if_pos hi]
    · rw [nf_first (n := n) (by omega) hi hj]
def numP (T : Nat → Nat) (n mx a : Nat) : PV := if ru isD T n (sb T n a) = sb T n a then .inl (1, sb T n a) else if mx < nmF T (sb T n a) (ru isD T n (sb T n a) - sb T n a) then .inl (2, sb T n a) else .inr (nmF T (sb T n a) (ru isD T n (sb T n a) - sb T n a), ru isD T n (sb T n a))
/-- a name that was told: among N names f -/
def namP (T : Nat → Nat) (n N : Nat) (f : Nat → Nat) (a : Nat) : PV := if le9 T n (sb T n a) = sb T n a then .inl (1, sb T n a) else if 9 < le9 T n (sb T n a) - sb T n a then .inl (2, sb T n a) else match nfF f (cdF T (sb T n a) (le9 T n (sb T n a) - sb T n a)) N with
  | some i => .inr (i, le9 T n (sb T n a))
  | none => .inl (2, sb T n a)
def isP (T : Nat → Nat) (n a : Nat) : PV := if le9 T n (sb T n a) = sb T n a then .inl (1, sb T n a) else if wdL T (sb T n a) (le9 T n (sb T n a) - sb T n a) = wIs then .inr (0, le9 T n (sb T n a)) else if wdL T (sb T n a) (le9 T n (sb T n a) - sb T n a) = wNot then .inr (1, le9 T n (sb T n a)) else .inl (2, sb T n a)
/-- a new name: its code, its letters -/
def newP (T : Nat → Nat) (n : Nat) (δ : DE) (a : Nat) : PV := if le9 T n (sb T n a) = sb T n a then .inl (1, sb T n a) else if 9 < le9 T n (sb T n a) - sb T n a ∨ nfF (δ.2 13) (cdF T (sb T n a) (le9 T n (sb T n a) - sb T n a)) (δ.1 0) ≠ none ∨ nfF (δ.2 14) (cdF T (sb T n a) (le9 T n (sb T n a) - sb T n a)) (δ.1 1) ≠ none then .inl (2, sb T n a) else .inr (sb T n a, le9 T n (sb T n a))
def addPl (δ : DE) (kd v : Nat) : DE := dC (dT (dT δ 6 (δ.1 5) kd) 7 (δ.1 5) v) 5 (δ.1 5 + 1)
def addBl (δ : DE) (kd wd : Nat) (l : List Nat) : DE := addPl (dC (dT (dT (dT (dT (dT (dV δ (δ.1 3) l) 8 (δ.1 3) kd) 9 (δ.1 3) wd) 10 (δ.1 3) l.length) 11 (δ.1 3) (δ.1 2 - 1)) 12 (δ.1 3) (δ.1 5)) 3 (δ.1 3 + 1)) kd (l.getD 0 0)
def addPt (δ : DE) (vb : Nat) : DE := dC (dT (dT δ 3 (δ.1 2) vb) 5 (δ.1 2) (δ.1 5)) 2 (δ.1 2 + 1)
def addHr (δ : DE) (cd k : Nat) : DE := dC (dT (dT (dT δ 13 (δ.1 0) cd) 0 (δ.1 0) k) 1 (δ.1 0) 0) 0 (δ.1 0 + 1)
def addTh (δ : DE) (cd v : Nat) : DE := dC (dT (dT δ 14 (δ.1 1) cd) 2 (δ.1 1) v) 1 (δ.1 1 + 1)
def blotP (T : Nat → Nat) (n kd : Nat) (δ : DE) (s : Nat) : PR := if 8 ≤ δ.1 3 then .inl (3, s) else bd (numP T n 9 (sb T n (s + 1))) fun r => if (flL (δ.1 0) (δ.2 0) kd r.1).length = 0 then .inl (2, sb T n (s + 1)) else .inr (addBl δ kd r.1 (flL (δ.1 0) (δ.2 0) kd r.1), r.2)
def valP (T : Nat → Nat) (n kd : Nat) (δ : DE) (s : Nat) : PV := if kd = 0 then numP T n 99 s else if kd = 1 then namP T n (δ.1 0) (δ.2 13) s else isP T n s
def placeP (T : Nat → Nat) (n kd : Nat) (x : DE × Nat) : PR := if sb T n x.2 < n ∧ T (sb T n x.2) = 35 then blotP T n kd x.1 (sb T n x.2) else bd (valP T n kd x.1 (sb T n x.2)) fun r => .inr (addPl x.1 kd r.1, r.2)
def thingP (T : Nat → Nat) (n : Nat) (x : DE × Nat) : PR := bd (namP T n (x.1.1 1) (x.1.2 14) x.2) fun r => .inr (dT x.1 4 (x.1.1 2 - 1) r.1, r.2)
def heirC (T : Nat → Nat) (n : Nat) (x : DE × Nat) : PR := bd (newP T n x.1 x.2) fun r => .inr (addHr x.1 (cdF T r.1 (r.2 - r.1)) (r.2 - r.1), r.2)
def thingC (T : Nat → Nat) (n : Nat) (x : DE × Nat) : PR := bd (newP T n x.1 x.2) fun r => bd (numP T n 99 r.2) fun q => .inr (addTh x.1 (cdF T r.1 (r.2 - r.1)) q.1, q.2)
def estC (T : Nat → Nat) (n : Nat) (x : DE × Nat) : PR := bd (numP T n 999 x.2) fun r => .inr (dC x.1 4 r.1, r.2)
def leastC (T : Nat → Nat) (n : Nat) (x : DE × Nat) : PR := bd (namP T n (x.1.1 0) (x.1.2 13) x.2) fun r => bd (numP T n 999 r.2) fun q => .inr (dT x.1 1 r.1 q.1, q.2)
def coinC (T : Nat → Nat) (n : Nat) (x : DE × Nat) : PR := bd (placeP T n 1 (addPt x.1 0, x.2)) (placeP T n 0)
def willC (T : Nat → Nat) (n : Nat) (x : DE × Nat) : PR := bd (thingP T n (addPt x.1 1, x.2)) (placeP T n 1)
def whenC (T : Nat → Nat) (n : Nat) (x : DE × Nat) : PR := bd (placeP T n 2 (addPt x.1 2, x.2)) fun y => bd (placeP T n 1 y) fun z => bd (thingP T n z) fun u => bd (placeP T n 1 u) (placeP T n 0)
def bodyP (T : Nat → Nat) (n vb : Nat) (x : DE × Nat) : PR := match vb with
  | 0 => heirC T n x
  | 1 => thingC T n x
  | 2 => estC T n x
  | 3 => leastC T n x
  | 4 => coinC T n x
  | 5 => willC T n x
  | _ => whenC T n x
def endP (T : Nat → Nat) (n : Nat) (x : DE × Nat) : PR := if sb T n x.2 < n ∧ T (sb T n x.2) = 59 then .inr (x.1, sb T n x.2 + 1) else .inl (1, sb T n x.2)
/-- whether no more clauses of a sort may stand -/
def fullP (δ : DE) (vb : Nat) : Bool := decide ((vb = 0 ∧ 4 ≤ δ.1 0) ∨ (vb = 1 ∧ 5 ≤ δ.1 1) ∨ (4 ≤ vb ∧ 9 ≤ δ.1 2))
/-- a clause, at its word: q clauses stand ahead of it -/
def clauseP (T : Nat → Nat) (n q : Nat) (x : DE × Nat) : PR := match vbP (wdL T x.2 (le9 T n x.2 - x.2)) with
  | none => .inl (1, x.2)
  | some vb => if 40 ≤ q ∨ fullP x.1 vb = true then .inl (3, x.2) else bd (bodyP T n vb (x.1, le9 T n x.2)) (endP T n)
def clsP (T : Nat → Nat) (n : Nat) : Nat → Nat → DE × Nat → PR
  | 0, _, x => .inr x
  | k + 1, q, x => if n ≤ sb T n x.2 then .inr (x.1, sb T n x.2) else bd (clauseP T n q (x.1, sb T n x.2)) (clsP T n k (q + 1))
def clear (δ : DE) : DE := (fun k => if k = 6 then 1 else 0, δ.2)
/-- the whole text -/
def deedP (T : Nat → Nat) (n : Nat) (δ : DE) : PR := bd (clsP T n 41 0 (clear δ, 0)) fun x => if 20000 < prd x.1 (x.1.1 3) then .inl (4, n) else .inr (dC x.1 6 (prd x.1 (x.1.1 3)), x.2)
