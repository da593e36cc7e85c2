/-! ===== the core: a small machine over pictures of cells (KT), and what it is to be sound for the bytecode (Snd) ===== -/
def gt : List Cond := lw_tbl.filter goodWord
abbrev DD : Type := (Nat → ClassId) × (Nat → Nat → Nat) × (Nat → ClassId)
/-- fuel; addresses of the static objects (0..6 the verbs, 7 their array); of the texts; of their bytes; a thing of the JDK's that is only passed on; the script: its cell, its length, its ints -/
abbrev GE : Type := Nat × (Nat → Nat) × (Nat → Nat) × (Nat → Nat) × Option Nat × Nat × Nat × (Nat → Int32)
abbrev Cl : Type := (Nat × vp_A) ⊕ (Nat × List Value)
/-- the own cells by address; the heap's size; the slots made -/
abbrev Mem : Type := (Nat → Option Cl) × Nat × Nat
abbrev Rs : Type := Option Value ⊕ String
abbrev Lv : Type := List (Option Value)
abbrev KT : Type := List Value → Lv → Mem → Option (Rs × Mem)
/-- code, own class, locals, frames, locals' room, type of the answer, name, table of handlers -/
abbrev MD : Type := ByteArray × String × Nat × Nat × Nat × Option FieldType × String × List (Nat × Nat × Nat × Nat)
def aty : Nat → FieldType := fun t => match t with
  | 0 => .int
  | 1 => .long
  | 2 => .byte
  | 3 => .boolean
  | 4 => .array .int
  | 5 => .object "BlottedDeed$Part"
  | 6 => .object "BlottedDeed$Blot"
  | _ => .object "BlottedDeed$Testimony"
def tys (D : DD) : List (ClassId × FieldType) := (List.range 8).map (fun t => (D.2.2 t, aty t))
abbrev vwCl : List vw_C := [(RX0, TX0, 3), (RX1, TX1, 6), (RX2, TX2, 16), (RX3, TX3, 3), (RX4, TX4, 6), (RX5, TX5, 3), (RX6, TX6, 8), (RX7, TX7, 12), (RX8, TX8, 9), (RX10, TX10, 13), (RX11, TX11, 50)]
def KK (D : DD) (U : State) : Prop := va_K (D.1, D.2.1) vwCl (tys D) U
def cv (D : DD) (e : Cl) : va_E := match e with
  | .inl a => .inl (D.2.2 a.1, a.2)
  | .inr o => .inr o
def hp (D : DD) (b0 : Nat) (w : Mem) (H : Heap) : Prop := H.size = w.2.1 ∧ ∀ (a : Nat) (e : Cl), w.1 a = some e → b0 ≤ a ∧ va_at (D.1, D.2.1) vwCl (a, cv D e) H
def mset (w : Mem) (a : Nat) (e : Cl) : Mem := (fun q => if q = a then some e else w.1 q, w.2)
def mnew (w : Mem) (e : Cl) (n : Nat) : Mem := (fun q => if q = w.2.1 then some e else w.1 q, w.2.1 + 1, w.2.2 + n)
theorem tys_at (D : DD) (t : Nat) (h : t < 8) : (tys D)[t]? = some (D.2.2 t, aty t) := by
  unfold tys
  rw [List.getElem?_map, List.getElem?_range h]
  rfl
theorem hp.lt {D : DD} {b0 : Nat} {w : Mem} {H : Heap} (h : hp D b0 w H) {a : Nat} {e : Cl} (ha : w.1 a = some e) : a < H.size := (h.2 a e ha).2.lt
theorem hp.set {D : DD} {b0 : Nat} {w : Mem} {H H1 : Heap} (h : hp D b0 w H) {a : Nat} {e0 e : Cl} (ha : w.1 a = some e0) (he : va_at (D.1, D.2.1) vwCl (a, cv D e) H1) (z : H1.size = H.size) (oq : ∀ q : Nat, q ≠ a → H1[q]? = H[q]?) : hp D b0 (mset w a e) H1 := by
  refine ⟨z.trans h.1, fun q x hq => ?_⟩
  by_cases hqa : q = a
  · subst hqa
    have : x = e := by simp [mset] at hq; exact hq.symm
    subst this
    exact ⟨(h.2 _ _ ha).1, he⟩
  · have hq' : w.1 q = some x := by simpa [mset, hqa] using hq
    exact ⟨(h.2 _ _ hq').1, (h.2 _ _ hq').2.kept (oq q hqa)⟩
theorem hp.new {D : DD} {b0 : Nat} {w : Mem} {H H1 : Heap} (h : hp D b0 w H) {e : Cl} {n : Nat} (hb : b0 ≤ H.size) (he : va_at (D.1, D.2.1) vwCl (H.size, cv D e) H1) (z : H1.size = H.size + 1) (oq : ∀ q : Nat, q < H.size → H1[q]? = H[q]?) : hp D b0 (mnew w e n) H1 := by
  refine ⟨by rw [z, h.1]; rfl, fun q x hq => ?_⟩
  by_cases hqa : q = w.2.1
  · subst hqa
    have : x = e := by simp [mnew] at hq; exact hq.symm
    subst this
    rw [← h.1]
    exact ⟨hb, he⟩
  · have hq' : w.1 q = some x := by simpa [mnew, hqa] using hq
    exact ⟨(h.2 _ _ hq').1, (h.2 _ _ hq').2.kept (oq q (h.lt hq'))⟩
/-! the locals by their numbers -/
def asc : Nat → Lv → List (Nat × Value)
  | _, [] => []
  | i, none :: r => asc (i + 1) r
  | i, some v :: r => (i, v) :: asc (i + 1) r
theorem asc_mem {v : Value} : ∀ (lv : Lv) (n i : Nat), (i, v) ∈ asc n lv ↔ ∃ j, i = n + j ∧ lv[j]? = some (some v)
  | [], n, i => by simp [asc]
  | none :: r, n, i => by
    rw [asc, asc_mem r (n + 1) i]
    constructor
    · rintro ⟨j, h1, h2⟩
      exact ⟨j + 1, by omega, by simpa using h2⟩
    · rintro ⟨j, h1, h2⟩
      cases j with
      | zero => simp at h2
      | succ j => exact ⟨j, by omega, by simpa using h2⟩
  | some u :: r, n, i => by
    rw [asc, List.mem_cons, asc_mem r (n + 1) i]
    constructor
    · rintro (h | ⟨j, h1, h2⟩)
      · injection h with h1 h2
        subst h1; subst h2
        exact ⟨0, rfl, rfl⟩
      · exact ⟨j + 1, by omega, by simpa using h2⟩
    · rintro ⟨j, h1, h2⟩
      cases j with
      | zero =>
        simp at h2
        subst h2
        left
        simp [h1]
      | succ j => exact Or.inr ⟨j, by omega, by simpa using h2⟩
def LV (ls : Array Slot) (nL : Nat) (lv : Lv) : Prop := lv_has ls nL (asc 0 lv)
theorem LV.get {ls : Array Slot} {nL : Nat} {lv : Lv} (h : LV ls nL lv) {i : Nat} {v : Value} (hi : lv[i]? = some (some v)) : ls[i]? = some (.val v) :=
  h.2.2 (i, v) ((asc_mem lv 0 i).mpr ⟨i, by omega, hi⟩)
theorem LV.of {ls : Array Slot} {nL : Nat} {L : List (Nat × Value)} {lv : Lv} (h : lv_has ls nL L) (hs : ∀ i v, lv[i]? = some (some v) → (i, v) ∈ L) : LV ls nL lv := by
  refine ⟨h.1, h.2.1, fun q hq => h.2.2 q ?_⟩
  obtain ⟨i, v⟩ := q
  obtain ⟨j, h1, h2⟩ := (asc_mem lv 0 i).mp hq
  have : i = j := by omega
  subst this
  exact hs _ _ h2
/-- what stands at the places that the mask keeps -/
def msk : List Bool → Lv → Lv
  | true :: m, x :: r => x :: msk m r
  | false :: m, _ :: r => none :: msk m r
  | _, _ => []
theorem msk_at : ∀ (m : List Bool) (lv : Lv) (i : Nat) (v : Value), (msk m lv)[i]? = some (some v) → lv[i]? = some (some v)
  | [], _, i, v, h => by simp [msk] at h
  | true :: m, [], i, v, h => by simp [msk] at h
  | false :: m, [], i, v, h => by simp [msk] at h
  | true :: m, x :: r, 0, v, h => by simpa [msk] using h
  | true :: m, x :: r, i + 1, v, h => by
    have h' : (msk m r)[i]? = some (some v) := by simpa [msk] using h
    simpa using msk_at m r i v h'
  | false :: m, x :: r, 0, v, h => by simp [msk] at h
  | false :: m, x :: r, i + 1, v, h => by
    have h' : (msk m r)[i]? = some (some v) := by simpa [msk] using h
    simpa using msk_at m r i v h'
theorem LV.msk {ls : Array Slot} {nL : Nat} {lv : Lv} (h : LV ls nL lv) (m : List Bool) : LV ls nL (msk m lv) :=
  LV.of h fun i v hi => (asc_mem lv 0 i).mpr ⟨i, by omega, msk_at m lv i v hi⟩
def clr (lv : Lv) (i : Nat) : Lv := match i with
  | 0 => lv
  | j + 1 => match lv[j]? with
    | some (some u) => if u.category == 2 then lv.set j none else lv
    | _ => lv
def lset1 (lv : Lv) (i : Nat) (v : Value) : Lv := (clr lv i).set i (some v)
def lset2 (lv : Lv) (i : Nat) (v : Value) : Lv := ((clr lv i).set i (some v)).set (i + 1) none
theorem clr_at (lv : Lv) (i j : Nat) (u : Value) (h : (clr lv i)[j]? = some (some u)) : lv[j]? = some (some u) ∧ ¬ (j + 1 = i ∧ u.category = 2) := by
  unfold clr at h
  split at h
  · exact ⟨h, fun q => by omega⟩
  · next k =>
    split at h
    · next x hx =>
      split at h
      · next hc =>
        by_cases hj : j = k
        · subst hj
          rw [List.getElem?_set] at h
          simp only [if_true] at h
          split at h <;> simp at h
        · rw [List.getElem?_set_ne (Ne.symm hj)] at h
          exact ⟨h, fun q => hj (by omega)⟩
      · next hc =>
        refine ⟨h, fun q => ?_⟩
        have e : j = k := by omega
        subst e
        rw [hx] at h
        simp at h
        subst h
        simp [q.2] at hc
    · next hx =>
      refine ⟨h, fun q => ?_⟩
      have e : j = k := by omega
      subst e
      exact hx u h
theorem LV.s1 {ls ls' : Array Slot} {nL i : Nat} {lv : Lv} {v : Value} (hl : lv_has ls' nL ((i, v) :: (asc 0 lv).filter (fun q => !(q.1 == i) && !(q.1 + 1 == i && q.2.category == 2)))) : LV ls' nL (lset1 lv i v) := by
  refine LV.of hl fun j u hj => ?_
  unfold lset1 at hj
  by_cases hji : j = i
  · subst hji
    rw [List.getElem?_set] at hj
    simp only [if_true] at hj
    split at hj
    · simp at hj
      subst hj
      exact List.mem_cons_self
    · simp at hj
  · rw [List.getElem?_set_ne (Ne.symm hji)] at hj
    obtain ⟨h1, h2⟩ := clr_at lv i j u hj
    refine List.mem_cons_of_mem _ (List.mem_filter.mpr ⟨(asc_mem lv 0 j).mpr ⟨j, by omega, h1⟩, ?_⟩)
    simp [hji]
    by_cases q : j + 1 = i
    · exact Or.inr fun z => h2 ⟨q, z⟩
    · exact Or.inl q
theorem LV.s2 {ls ls' : Array Slot} {nL i : Nat} {lv : Lv} {v : Value} (hl : lv_has ls' nL ((i, v) :: (asc 0 lv).filter (fun q => !(q.1 == i) && (!(q.1 == i + 1) && !(q.1 + 1 == i && q.2.category == 2))))) : LV ls' nL (lset2 lv i v) := by
  refine LV.of hl fun j u hj => ?_
  unfold lset2 at hj
  by_cases hj1 : j = i + 1
  · subst hj1
    rw [List.getElem?_set] at hj
    simp only [if_true] at hj
    split at hj <;> simp at hj
  · rw [List.getElem?_set_ne (Ne.symm hj1)] at hj
    by_cases hji : j = i
    · subst hji
      rw [List.getElem?_set] at hj
      simp only [if_true] at hj
      split at hj
      · simp at hj
        subst hj
        exact List.mem_cons_self
      · simp at hj
    · rw [List.getElem?_set_ne (Ne.symm hji)] at hj
      obtain ⟨h1, h2⟩ := clr_at lv i j u hj
      refine List.mem_cons_of_mem _ (List.mem_filter.mpr ⟨(asc_mem lv 0 j).mpr ⟨j, by omega, h1⟩, ?_⟩)
      simp [hji, hj1]
      by_cases q : j + 1 = i
      · exact Or.inr fun z => h2 ⟨q, z⟩
      · exact Or.inl q
