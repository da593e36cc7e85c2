/-! ===== phase 2: the functions alone. Frames, cells, loops ===== -/
abbrev FU (g : GE) : Prop := 1000000 ≤ g.1
def Fr (S : Nat → Prop) (w w' : Mem) : Prop := (∀ a, ¬ S a → w'.1 a = w.1 a) ∧ w'.2 = w.2
theorem Fr.rf (S : Nat → Prop) (w : Mem) : Fr S w w := ⟨fun _ _ => rfl, rfl⟩
theorem Fr.tr {S : Nat → Prop} {w w1 w2 : Mem} (h : Fr S w w1) (k : Fr S w1 w2) : Fr S w w2 := ⟨fun a n => (k.1 a n).trans (h.1 a n), k.2.trans h.2⟩
theorem Fr.mn {S T : Nat → Prop} {w w1 : Mem} (h : Fr S w w1) (k : ∀ a, S a → T a) : Fr T w w1 := ⟨fun a n => h.1 a fun q => n (k a q), h.2⟩
theorem Fr.at {S : Nat → Prop} {w w1 : Mem} (h : Fr S w w1) {a : Nat} {x : Option Cl} (ha : w.1 a = x) (n : ¬ S a) : w1.1 a = x := (h.1 a n).trans ha
theorem Fr.ms {S : Nat → Prop} (w : Mem) {a : Nat} (e : Cl) (h : S a) : Fr S w (mset w a e) := ⟨fun q n => by
  have : q ≠ a := fun z => n (z ▸ h)
  simp [mset, this], rfl⟩
theorem ms_at (w : Mem) (a : Nat) (e : Cl) : (mset w a e).1 a = some e := by simp [mset]
theorem ms_ne (w : Mem) {a b : Nat} (e : Cl) (h : b ≠ a) : (mset w a e).1 b = w.1 b := by simp [mset, h]
abbrev rg (lo hi : Nat) : Nat → Prop := fun a => lo ≤ a ∧ a < hi
/-- an array of ints (of bytes, of booleans): tag t, length n, its elements below n -/
def AR (t : Nat) (w : Mem) (a n : Nat) (c : Nat → Int32) : Prop := ∃ f, w.1 a = some (.inl (t, n, .inl f)) ∧ ∀ i, i < n → f i = c i
abbrev IA := AR 0
def LA (w : Mem) (a n : Nat) (c : Nat → Int64) : Prop := ∃ f, w.1 a = some (.inl (1, n, .inr (.inl f))) ∧ ∀ i, i < n → f i = c i
def RA (t : Nat) (w : Mem) (a n : Nat) (c : Nat → Nat) : Prop := ∃ f, w.1 a = some (.inl (t, n, .inr (.inr (.inr (.inr f))))) ∧ ∀ i, i < n → f i = some (c i)
abbrev OB (w : Mem) (a ci : Nat) (fs : List Value) : Prop := w.1 a = some (.inr (ci, fs))
def wi (w : Mem) (t a j : Nat) (x : Int32) : Mem := match w.1 a with
  | some (.inl (_, n, .inl f)) => mset w a (.inl (t, n, .inl (va_up f j x)))
  | _ => w
def wl (w : Mem) (a j : Nat) (x : Int64) : Mem := match w.1 a with
  | some (.inl (_, n, .inr (.inl f))) => mset w a (.inl (1, n, .inr (.inl (va_up f j x))))
  | _ => w
theorem ix_nI {j n : Nat} (h : j < n) (hn : n < 2 ^ 31) : ix (nI j) n = some j := by
  unfold ix
  have h1 : ¬ (nI j < 0 ∨ n ≤ (nI j).toNatClampNeg) := nI_in h hn
  rw [if_neg h1, nI_clamp (Nat.lt_trans h hn)]
theorem gf_eq {w : Mem} {a ci : Nat} {fs : List Value} (h : OB w a ci fs) (k : Nat) : gf w a ci k = fs[k]? := by
  unfold gf; rw [h]; simp
theorem sf_eq {w : Mem} {a ci : Nat} {fs : List Value} (h : OB w a ci fs) (k : Nat) (ty : FieldType) (v : Value) (hk : k < fs.length) (hv : vok ty v = true) : sf w a ci k ty v = some (mset w a (.inr (ci, fs.set k v))) := by
  unfold sf; rw [h]; simp [hk, hv]
theorem AR.rd {t : Nat} {w : Mem} {a n : Nat} {c : Nat → Int32} (h : AR t w a n c) {j : Nat} (hj : j < n) (hn : n < 2 ^ 31) : gi w t a (nI j) = some (c j) := by
  obtain ⟨f, h1, h2⟩ := h
  unfold gi; rw [h1]; simp [ix_nI hj hn, h2 j hj]
theorem LA.rd {w : Mem} {a n : Nat} {c : Nat → Int64} (h : LA w a n c) {j : Nat} (hj : j < n) (hn : n < 2 ^ 31) : gl w a (nI j) = some (c j) := by
  obtain ⟨f, h1, h2⟩ := h
  unfold gl; rw [h1]; simp [ix_nI hj hn, h2 j hj]
theorem RA.rd {t : Nat} {w : Mem} {a n : Nat} {c : Nat → Nat} (h : RA t w a n c) {j : Nat} (hj : j < n) (hn : n < 2 ^ 31) : gr w t a (nI j) = some (some (c j)) := by
  obtain ⟨f, h1, h2⟩ := h
  unfold gr; rw [h1]; simp [ix_nI hj hn, h2 j hj]
theorem AR.wr {t : Nat} {w : Mem} {a n : Nat} {c : Nat → Int32} (h : AR t w a n c) {j : Nat} (hj : j < n) (hn : n < 2 ^ 31) (x : Int32) : si w t a (nI j) x = some (wi w t a j x) := by
  obtain ⟨f, h1, h2⟩ := h
  unfold si wi; rw [h1]; simp [ix_nI hj hn]
theorem LA.wr {w : Mem} {a n : Nat} {c : Nat → Int64} (h : LA w a n c) {j : Nat} (hj : j < n) (hn : n < 2 ^ 31) (x : Int64) : sl w a (nI j) x = some (wl w a j x) := by
  obtain ⟨f, h1, h2⟩ := h
  unfold sl wl; rw [h1]; simp [ix_nI hj hn]
theorem AR.up {t : Nat} {w : Mem} {a n : Nat} {c : Nat → Int32} (h : AR t w a n c) (j : Nat) (x : Int32) : AR t (wi w t a j x) a n (va_up c j x) := by
  obtain ⟨f, h1, h2⟩ := h
  refine ⟨va_up f j x, by unfold wi; rw [h1]; exact ms_at _ _ _, fun i hi => ?_⟩
  unfold va_up; split
  · rfl
  · exact h2 i hi
theorem LA.up {w : Mem} {a n : Nat} {c : Nat → Int64} (h : LA w a n c) (j : Nat) (x : Int64) : LA (wl w a j x) a n (va_up c j x) := by
  obtain ⟨f, h1, h2⟩ := h
  refine ⟨va_up f j x, by unfold wl; rw [h1]; exact ms_at _ _ _, fun i hi => ?_⟩
  unfold va_up; split
  · rfl
  · exact h2 i hi
theorem wi_ne (w : Mem) (t : Nat) {a b : Nat} (j : Nat) (x : Int32) (h : b ≠ a) : (wi w t a j x).1 b = w.1 b := by
  unfold wi; split
  · exact ms_ne _ _ h
  · rfl
theorem wl_ne (w : Mem) {a b : Nat} (j : Nat) (x : Int64) (h : b ≠ a) : (wl w a j x).1 b = w.1 b := by
  unfold wl; split
  · exact ms_ne _ _ h
  · rfl
theorem wi_2 (w : Mem) (t a j : Nat) (x : Int32) : (wi w t a j x).2 = w.2 := by
  unfold wi; split <;> rfl
theorem wl_2 (w : Mem) (a j : Nat) (x : Int64) : (wl w a j x).2 = w.2 := by
  unfold wl; split <;> rfl
theorem Fr.wi {S : Nat → Prop} (w : Mem) (t : Nat) {a : Nat} (j : Nat) (x : Int32) (h : S a) : Fr S w (wi w t a j x) := ⟨fun q n => wi_ne w t j x (fun z => n (z ▸ h)), wi_2 w t a j x⟩
theorem Fr.wl {S : Nat → Prop} (w : Mem) {a : Nat} (j : Nat) (x : Int64) (h : S a) : Fr S w (wl w a j x) := ⟨fun q n => wl_ne w j x (fun z => n (z ▸ h)), wl_2 w a j x⟩
theorem AR.fr {t : Nat} {S : Nat → Prop} {w w1 : Mem} {a n : Nat} {c : Nat → Int32} (h : AR t w a n c) (k : Fr S w w1) (q : ¬ S a) : AR t w1 a n c := by
  obtain ⟨f, h1, h2⟩ := h
  exact ⟨f, k.at h1 q, h2⟩
theorem LA.fr {S : Nat → Prop} {w w1 : Mem} {a n : Nat} {c : Nat → Int64} (h : LA w a n c) (k : Fr S w w1) (q : ¬ S a) : LA w1 a n c := by
  obtain ⟨f, h1, h2⟩ := h
  exact ⟨f, k.at h1 q, h2⟩
theorem RA.fr {t : Nat} {S : Nat → Prop} {w w1 : Mem} {a n : Nat} {c : Nat → Nat} (h : RA t w a n c) (k : Fr S w w1) (q : ¬ S a) : RA t w1 a n c := by
  obtain ⟨f, h1, h2⟩ := h
  exact ⟨f, k.at h1 q, h2⟩
theorem AR.cg {t : Nat} {w : Mem} {a n : Nat} {c d : Nat → Int32} (h : AR t w a n c) (k : ∀ i, i < n → c i = d i) : AR t w a n d := by
  obtain ⟨f, h1, h2⟩ := h
  exact ⟨f, h1, fun i hi => (h2 i hi).trans (k i hi)⟩
theorem LA.cg {w : Mem} {a n : Nat} {c d : Nat → Int64} (h : LA w a n c) (k : ∀ i, i < n → c i = d i) : LA w a n d := by
  obtain ⟨f, h1, h2⟩ := h
  exact ⟨f, h1, fun i hi => (h2 i hi).trans (k i hi)⟩
theorem AR.ms {t : Nat} {w : Mem} {a b n : Nat} {e : Cl} {c : Nat → Int32} (h : AR t w a n c) (q : a ≠ b) : AR t (mset w b e) a n c := h.fr (Fr.ms (S := fun z => z = b) w e rfl) q
theorem AR.wi {t u : Nat} {w : Mem} {a b n j : Nat} {x : Int32} {c : Nat → Int32} (h : AR t w a n c) (q : a ≠ b) : AR t (wi w u b j x) a n c := h.fr (Fr.wi (S := fun z => z = b) w u j x rfl) q
theorem LA.ms {w : Mem} {a b n : Nat} {e : Cl} {c : Nat → Int64} (h : LA w a n c) (q : a ≠ b) : LA (mset w b e) a n c := h.fr (Fr.ms (S := fun z => z = b) w e rfl) q
theorem AR.len {t : Nat} {w : Mem} {a n : Nat} {c : Nat → Int32} (h : AR t w a n c) : ∃ f, w.1 a = some (.inl (t, n, f)) := by
  obtain ⟨f, h1, h2⟩ := h
  exact ⟨_, h1⟩
/-! calls: a call that returns -/
theorem cvk_0 {F : FT} {g : GE} {ci : Nat} {k : KT} {a : Nat} {r : List Value} {lv : Lv} {w w1 : Mem} {fs : List Value} {v : Option Value} (ha : OB w a ci fs) (hF : F g [.ref a] w = some (.inl v, w1)) (hr : r.length ≤ 4) : i_cv F g 0 ci k (.ref a :: r) lv w = k (v.toList ++ r) lv w1 := by
  show (match w.1 a with | some (.inr o) => if o.1 = ci ∧ r.length ≤ 4 then (match F g [.ref a] w with | some (.inl v, w1) => k (v.toList ++ r) lv w1 | _ => none) else none | _ => none) = _
  rw [ha]; simp only [hF, hr, and_self, if_true]
theorem cvk_1 {F : FT} {g : GE} {ci : Nat} {k : KT} {a : Nat} {x : Value} {r : List Value} {lv : Lv} {w w1 : Mem} {fs : List Value} {v : Option Value} (ha : OB w a ci fs) (hF : F g [.ref a, x] w = some (.inl v, w1)) (hr : r.length ≤ 4) : i_cv F g 1 ci k (x :: .ref a :: r) lv w = k (v.toList ++ r) lv w1 := by
  show (match w.1 a with | some (.inr o) => if o.1 = ci ∧ r.length ≤ 4 then (match F g [.ref a, x] w with | some (.inl v, w1) => k (v.toList ++ r) lv w1 | _ => none) else none | _ => none) = _
  rw [ha]; simp only [hF, hr, and_self, if_true]
theorem cvk_2 {F : FT} {g : GE} {ci : Nat} {k : KT} {a : Nat} {x y : Value} {r : List Value} {lv : Lv} {w w1 : Mem} {fs : List Value} {v : Option Value} (ha : OB w a ci fs) (hF : F g [.ref a, x, y] w = some (.inl v, w1)) (hr : r.length ≤ 4) : i_cv F g 2 ci k (y :: x :: .ref a :: r) lv w = k (v.toList ++ r) lv w1 := by
  show (match w.1 a with | some (.inr o) => if o.1 = ci ∧ r.length ≤ 4 then (match F g [.ref a, x, y] w with | some (.inl v, w1) => k (v.toList ++ r) lv w1 | _ => none) else none | _ => none) = _
  rw [ha]; simp only [hF, hr, and_self, if_true]
theorem cvk_3 {F : FT} {g : GE} {ci : Nat} {k : KT} {a : Nat} {x y z : Value} {r : List Value} {lv : Lv} {w w1 : Mem} {fs : List Value} {v : Option Value} (ha : OB w a ci fs) (hF : F g [.ref a, x, y, z] w = some (.inl v, w1)) (hr : r.length ≤ 4) : i_cv F g 3 ci k (z :: y :: x :: .ref a :: r) lv w = k (v.toList ++ r) lv w1 := by
  show (match w.1 a with | some (.inr o) => if o.1 = ci ∧ r.length ≤ 4 then (match F g [.ref a, x, y, z] w with | some (.inl v, w1) => k (v.toList ++ r) lv w1 | _ => none) else none | _ => none) = _
  rw [ha]; simp only [hF, hr, and_self, if_true]
theorem csk_1 {F : FT} {g : GE} {k : KT} {x : Value} {r : List Value} {lv : Lv} {w w1 : Mem} {v : Option Value} (hF : F g [x] w = some (.inl v, w1)) (hr : r.length ≤ 4) : i_cs F g 1 k (x :: r) lv w = k (v.toList ++ r) lv w1 := by
  unfold i_cs
  simp [hF, hr]
theorem csk_2 {F : FT} {g : GE} {k : KT} {x y : Value} {r : List Value} {lv : Lv} {w w1 : Mem} {v : Option Value} (hF : F g [x, y] w = some (.inl v, w1)) (hr : r.length ≤ 4) : i_cs F g 2 k (y :: x :: r) lv w = k (v.toList ++ r) lv w1 := by
  unfold i_cs
  simp [hF, hr]
theorem csk_3 {F : FT} {g : GE} {k : KT} {x y z : Value} {r : List Value} {lv : Lv} {w w1 : Mem} {v : Option Value} (hF : F g [x, y, z] w = some (.inl v, w1)) (hr : r.length ≤ 4) : i_cs F g 3 k (z :: y :: x :: r) lv w = k (v.toList ++ r) lv w1 := by
  unfold i_cs
  simp [hF, hr]
/-! loops: I i holds at the head with i turns done; a turn needs at most c steps -/
theorem lpR {σ β : Type} (F : Nat → σ → β) (I : Nat → σ → Prop) (Q : β → Prop) (c d n : Nat)
    (hs : ∀ i s, i < n → I i s → ∀ f, Q (F (f + c) s) ∨ ∃ f' s', f ≤ f' ∧ I (i + 1) s' ∧ F (f + c) s = F f' s')
    (he : ∀ s, I n s → ∀ f, Q (F (f + d) s)) : ∀ k i s, i + k = n → I i s → ∀ f, c * k + d ≤ f → Q (F f s) := by
  intro k
  induction k with
  | zero =>
    intro i s hi h f hf
    have e : i = n := by omega
    subst e
    obtain ⟨z, rfl⟩ : ∃ z, f = z + d := ⟨f - d, by omega⟩
    exact he s h z
  | succ k ih =>
    intro i s hi h f hf
    rw [Nat.mul_succ] at hf
    obtain ⟨z, rfl⟩ : ∃ z, f = z + c := ⟨f - c, by omega⟩
    rcases hs i s (by omega) h z with q | ⟨f', s', h1, h2, h3⟩
    · exact q
    · rw [h3]
      exact ih (i + 1) s' (by omega) h2 f' (by omega)
/-- the same, a turn always goes on, and state and end are functions -/
theorem lpF {σ β : Type} (F : Nat → σ → β) (st : Nat → σ) (r : β) (c d n : Nat)
    (hs : ∀ i, i < n → ∀ f, ∃ f', f ≤ f' ∧ F (f + c) (st i) = F f' (st (i + 1)))
    (he : ∀ f, F (f + d) (st n) = r) : ∀ f, c * n + d ≤ f → F f (st 0) = r :=
  fun f hf => lpR F (fun i s => s = st i) (fun z => z = r) c d n (fun i s hi h f => by
    subst h
    obtain ⟨f', h1, h2⟩ := hs i hi f
    exact Or.inr ⟨f', _, h1, rfl, h2⟩) (fun s h f => by subst h; exact he f) n 0 _ (by omega) rfl f hf
