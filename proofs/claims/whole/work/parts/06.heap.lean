/-- a step that may change or make cells -/
def MS (d : MD) (g : GE) (pc : Nat) (st : List Value) (lv : Lv) (w : Mem) (pc' : Nat) (st' : List Value) (lv' : Lv) (w1 : Mem) : Prop :=
  ∀ (p : Program) (l : Launch) (e : Env) (R : Room) (s : State) (m : MethodId) (args : Array Value) (below : List Frame) (meth : Method) (c : Code) (D : DD) (b0 : Nat) (w0 : Mem) (H : Heap) (locs : List Loc) (ls : Array Slot) (Q : State → Prop), Cx d g p l e R s m args below meth c D b0 w0 → hp D b0 w H → va_S (fun q : Nat => b0 ≤ q) s.heap H locs → LV ls d.2.2.1 lv →
   w1.2.1 - w0.2.1 ≤ R.cells → w1.2.2 - w0.2.2 ≤ R.slots → w0.2.1 ≤ w.2.1 → w0.2.2 ≤ w.2.2 →
   (∀ (H1 : Heap) (locs1 : List Loc) (ls1 : Array Slot), hp D b0 w1 H1 → va_S (fun q : Nat => b0 ≤ q) s.heap H1 locs1 → LV ls1 d.2.2.1 lv' → W p l e R s m args below meth c H1 locs1 (w1.2.1 - w0.2.1) (w1.2.2 - w0.2.2) Q (F0 m pc' ls1 st')) →
   W p l e R s m args below meth c H locs (w.2.1 - w0.2.1) (w.2.2 - w0.2.2) Q (F0 m pc ls st)
theorem Snd.mem {d : MD} {g : GE} {pc pc' : Nat} {k k' : KT} (h : Snd d g pc' k') (hs : ∀ st lv w o w', k st lv w = some (o, w') → ∃ st' lv' w1, k' st' lv' w1 = some (o, w') ∧ w.2.1 ≤ w1.2.1 ∧ w.2.2 ≤ w1.2.2 ∧ MS d g pc st lv w pc' st' lv' w1) : Snd d g pc k := by
  refine ⟨fun st lv w o w' hk => ?_, ?_⟩
  · obtain ⟨st', lv', w1, h1, h2, h3, -⟩ := hs st lv w o w' hk
    obtain ⟨a1, a2⟩ := h.1 _ _ _ _ _ h1
    exact ⟨Nat.le_trans h2 a1, Nat.le_trans h3 a2⟩
  · intro p l e R s m args below meth c D b0 w0 C H locs ls st lv w o w' hH hS hl z1 z2 hk r1 r2
    obtain ⟨st', lv', w1, h1, h2, h3, h4⟩ := hs st lv w o w' hk
    obtain ⟨a1, a2⟩ := h.1 _ _ _ _ _ h1
    exact h4 p l e R s m args below meth c D b0 w0 H locs ls _ C hH hS hl (by omega) (by omega) z1 z2 (fun H1 locs1 ls1 hH1 hS1 hl1 => h.2 p l e R s m args below meth c D b0 w0 C H1 locs1 ls1 st' lv' w1 o w' hH1 hS1 hl1 (Nat.le_trans z1 h2) (Nat.le_trans z2 h3) h1 r1 r2)
theorem hp.P {D : DD} {b0 : Nat} {w : Mem} {H : Heap} (h : hp D b0 w H) {a : Nat} {e : Cl} (ha : w.1 a = some e) : va_P (D.1, D.2.1) vwCl [(a, cv D e)] H := by
  intro k q hq
  cases k with
  | zero => simp at hq; subst hq; exact (h.2 a e ha).2
  | succ k => simp at hq
/-! reading -/
def gf (w : Mem) (a ci k : Nat) : Option Value := match w.1 a with
  | some (.inr o) => if o.1 = ci then o.2[k]? else none
  | _ => none
theorem gf_some {w : Mem} {a ci k : Nat} {v : Value} (h : gf w a ci k = some v) : ∃ fs, w.1 a = some (.inr (ci, fs)) ∧ fs[k]? = some v := by
  unfold gf at h
  split at h
  · next o ho =>
    split at h
    · next e => exact ⟨o.2, by rw [ho, ← e], h⟩
    · cases h
  · cases h
def i_getf (ci f : Nat) (k : KT) : KT := fun st lv w => match st with
  | .ref a :: r => (match gf w a ci f with
    | some v => k (v :: r) lv w
    | none => none)
  | _ => none
theorem s_getf {d : MD} {g : GE} {pc : Nat} {k : KT} {C : String} {T : u_T} {N ci f idx : Nat} (h : Snd d g (pc + 3) k) (hin : ∀ w ∈ u_ws C T N, w ∈ gt) (hc : vwCl[ci]? = some (C, T, N)) (hf : f < N) (hw : Cond.fieldLink d.2.1 idx (T f).1 (T f).2.1 (T f).2.2.1 ∈ gt) (hd : decode d.1 pc = .ok (.getfield idx, 3)) : Snd d g pc (i_getf ci f k) := h.mem fun st lv w o w' hk => by
  simp only [i_getf] at hk
  split at hk
  · split at hk
    · next v hv =>
      obtain ⟨fs, h1, h2⟩ := gf_some hv
      refine ⟨_, _, w, hk, Nat.le_refl _, Nat.le_refl _, fun p l e R s m args below meth c D b0 w0 H locs ls Q C hH hS hl rc rs z1 z2 kk => by
      obtain ⟨hx, hb, hml, ho, ht, hK, hlk, hE, hst, hbs, hsz, hfr, hlo, hret, hnm, hex⟩ := C
      exact va_get (D := (D.1, D.2.1)) (ci := ci) (C := C) (T := T) (N := N) hx hb ht hin ho hK (hH.P h1) 0 rfl hc f hf (ht _ hw) (fun _ h9 => h9) h2 hd (kk _ _ _ hH hS hl)⟩
    · cases hk
  · cases hk
theorem s_getfN {d : MD} {g : GE} {pc : Nat} {k : KT} {C host : String} {T : u_T} {N ci f idx : Nat} (h : Snd d g (pc + 3) k) (hin : ∀ w ∈ u_ws C T N, w ∈ gt) (hc : vwCl[ci]? = some (C, T, N)) (hf : f < N) (hw : Cond.fieldLinkNest d.2.1 idx (T f).1 (T f).2.1 (T f).2.2.1 host ∈ owl) (hd : decode d.1 pc = .ok (.getfield idx, 3)) : Snd d g pc (i_getf ci f k) := h.mem fun st lv w o w' hk => by
  simp only [i_getf] at hk
  split at hk
  · split at hk
    · next v hv =>
      obtain ⟨fs, h1, h2⟩ := gf_some hv
      refine ⟨_, _, w, hk, Nat.le_refl _, Nat.le_refl _, fun p l e R s m args below meth c D b0 w0 H locs ls Q C hH hS hl rc rs z1 z2 kk => by
      obtain ⟨hx, hb, hml, ho, ht, hK, hlk, hE, hst, hbs, hsz, hfr, hlo, hret, hnm, hex⟩ := C
      exact va_getN (D := (D.1, D.2.1)) (ci := ci) (C := C) (T := T) (N := N) hx hb ht hin ho hK (hH.P h1) 0 rfl hc f hf (va_Nw.use rfl (hE.ow hw)) (fun _ h9 => h9) h2 hd (kk _ _ _ hH hS hl)⟩
    · cases hk
  · cases hk
/-! writing a field -/
def vok (ty : FieldType) (v : Value) : Bool := match ty, v with
  | .int, .int _ => true
  | .long, .long _ => true
  | .boolean, .int x => x == 0 || x == 1
  | .object _, .ref _ => true
  | .object _, .null => true
  | .array _, .ref _ => true
  | .array _, .null => true
  | _, _ => false
theorem vok_ok {ty : FieldType} {v : Value} (h : vok ty v = true) : narrow ty v = v ∧ fits ty v = true := by
  unfold vok at h
  split at h
  · exact ⟨rfl, rfl⟩
  · exact ⟨rfl, rfl⟩
  · next x =>
    simp only [Bool.or_eq_true, beq_iff_eq] at h
    rcases h with rfl | rfl
    · exact ⟨by decide, by decide⟩
    · exact ⟨by decide, by decide⟩
  · exact ⟨rfl, rfl⟩
  · exact ⟨rfl, rfl⟩
  · exact ⟨rfl, rfl⟩
  · exact ⟨rfl, rfl⟩
  · cases h
def sf (w : Mem) (a ci f : Nat) (ty : FieldType) (v : Value) : Option Mem := match w.1 a with
  | some (.inr o) => if o.1 = ci ∧ f < o.2.length ∧ vok ty v = true then some (mset w a (.inr (ci, o.2.set f v))) else none
  | _ => none
theorem sf_some {w w1 : Mem} {a ci f : Nat} {ty : FieldType} {v : Value} (h : sf w a ci f ty v = some w1) : ∃ fs, w.1 a = some (.inr (ci, fs)) ∧ f < fs.length ∧ vok ty v = true ∧ w1 = mset w a (.inr (ci, fs.set f v)) := by
  unfold sf at h
  split at h
  · next o ho =>
    split at h
    · next e => exact ⟨o.2, by rw [ho, ← e.1], e.2.1, e.2.2, (Option.some.inj h).symm⟩
    · cases h
  · cases h
def i_putf (ci f : Nat) (ty : FieldType) (k : KT) : KT := fun st lv w => match st with
  | v :: .ref a :: r => (match sf w a ci f ty v with
    | some w1 => k r lv w1
    | none => none)
  | _ => none
theorem mset_2 (w : Mem) (a : Nat) (e : Cl) : (mset w a e).2 = w.2 := rfl
theorem s_putf {d : MD} {g : GE} {pc : Nat} {k : KT} {C : String} {T : u_T} {N ci f idx : Nat} {ty : FieldType} {ty0 : Nat → FieldType} (h : Snd d g (pc + 3) k) (hin : ∀ w ∈ u_ws C T N, w ∈ gt) (hty : ∀ k, k < N → parseFieldDescriptor (T k).2.2.1 = some (ty0 k)) (hnm9 : ∀ a, a < N → ∀ b, b < N → a ≠ b → (T a).2.1 ≠ (T b).2.1) (hc : vwCl[ci]? = some (C, T, N)) (hf : f < N) (hfin : (T f).2.2.2 = false) (ht0 : ty0 f = ty) (hw : Cond.fieldLink d.2.1 idx (T f).1 (T f).2.1 (T f).2.2.1 ∈ gt) (hd : decode d.1 pc = .ok (.putfield idx, 3)) : Snd d g pc (i_putf ci f ty k) := h.mem fun st lv w o w' hk => by
  simp only [i_putf] at hk
  split at hk
  · next v a r =>
    split at hk
    · next w1 hv =>
      obtain ⟨fs, h1, h2, h3, rfl⟩ := sf_some hv
      refine ⟨_, _, _, hk, Nat.le_refl _, Nat.le_refl _, fun p l e R s m args below meth c D b0 w0 H locs ls Q C hH hS hl rc rs z1 z2 kk => by
      obtain ⟨hx, hb, hml, ho, ht, hK, hlk, hE, hst, hbs, hsz, hfr, hlo, hret, hnm, hex⟩ := C
      have hap := va_apart (D := (D.1, D.2.1)) (own := d.2.1) ht hin ty0 hty hnm9 hK hc
      obtain ⟨r9, q0, cell, q1, q2, q3, q4⟩ := (hH.2 a _ h1).2
      have hr : r9 = (C, T, N) := Option.some.inj (q0.symm.trans hc)
      subst hr
      obtain ⟨hS9, hfc, kC, hkC, hkind⟩ := hK.1 ci _ hc
      obtain ⟨cf, kf, fi, f9, hi, hsl⟩ := hS9 f hf
      have hlay := ht _ (hin _ (u_in_lay hf))
      unfold u_lay at hlay
      rw [if_neg (by rw [hfin]; decide)] at hlay
      have hst9 := (u_facts hfc hkC (u_lays ht hin hf) hi).1
      have h6 := u_store hfc hkC hkind hlay hi ((hty f hf).trans (by rw [ht0])) (vok_ok h3).1 (vok_ok h3).2
      refine W.putK hx hb (f := f9) ⟨ho, ht _ hw, ⟨_, _, _, hi⟩, hst9⟩ (by rw [q2]; exact h6) q1 q3 (by rw [hsl]; exact k2_hasslot (q4 f hf)) rfl rfl hd fun H' e1 e2 e3 => ?_
      rw [hsl] at e1 ⊢
      exact kk H' _ ls (hH.set h1 ⟨_, hc, t_OB.to (V := updV (vp_V fs) f v) ⟨_, e1, q2, q3, t_set q4 hap hf v⟩ (fun j _ => vp_updV_set h2 v j)⟩ e2 e3) (hS.put e2 e3 (hH.2 a _ h1).1) hl⟩
    · cases hk
  · cases hk
theorem s_putfF {d : MD} {g : GE} {pc : Nat} {k : KT} {C : String} {T : u_T} {N ci f idx : Nat} {ty : FieldType} {ty0 : Nat → FieldType} (h : Snd d g (pc + 3) k) (hin : ∀ w ∈ u_ws C T N, w ∈ gt) (hty : ∀ k, k < N → parseFieldDescriptor (T k).2.2.1 = some (ty0 k)) (hnm9 : ∀ a, a < N → ∀ b, b < N → a ≠ b → (T a).2.1 ≠ (T b).2.1) (hc : vwCl[ci]? = some (C, T, N)) (hf : f < N) (hfin : (T f).2.2.2 = true) (hinit : d.2.2.2.2.2.2.1 = "<init>") (hdecl : (T f).1 = d.2.1) (ht0 : ty0 f = ty) (hw : Cond.fieldLink d.2.1 idx (T f).1 (T f).2.1 (T f).2.2.1 ∈ gt) (hd : decode d.1 pc = .ok (.putfield idx, 3)) : Snd d g pc (i_putf ci f ty k) := h.mem fun st lv w o w' hk => by
  simp only [i_putf] at hk
  split at hk
  · next v a r =>
    split at hk
    · next w1 hv =>
      obtain ⟨fs, h1, h2, h3, rfl⟩ := sf_some hv
      refine ⟨_, _, _, hk, Nat.le_refl _, Nat.le_refl _, fun p l e R s m args below meth c D b0 w0 H locs ls Q C hH hS hl rc rs z1 z2 kk => by
      obtain ⟨hx, hb, hml, ho, ht, hK, hlk, hE, hst, hbs, hsz, hfr, hlo, hret, hnm, hex⟩ := C
      have hap := va_apart (D := (D.1, D.2.1)) (own := d.2.1) ht hin ty0 hty hnm9 hK hc
      obtain ⟨r9, q0, cell, q1, q2, q3, q4⟩ := (hH.2 a _ h1).2
      have hr : r9 = (C, T, N) := Option.some.inj (q0.symm.trans hc)
      subst hr
      obtain ⟨hS9, hfc, kC, hkC, hkind⟩ := hK.1 ci _ hc
      obtain ⟨cf, kf, fi, f9, hi, hsl⟩ := hS9 f hf
      have hlay := ht _ (hin _ (u_in_lay hf))
      unfold u_lay at hlay
      rw [if_pos hfin] at hlay
      have hst9 := (u_facts hfc hkC (u_lays ht hin hf) hi).1
      have hcf : m.cls = cf := by
        obtain ⟨_, _, c', _, _, _, -, -, hf', -, -, -, hown2, -⟩ := Cond.laysFinal_spec hlay
        have e1 : c' = cf := by have := hi.symm.trans hf'; simp at this; exact this.1.symm
        rw [hdecl] at hown2
        rw [← e1]; exact Option.some.inj (ho.symm.trans hown2)
      have h6 := u_fits hfc hkC hkind (Or.inr hlay) hi ((hty f hf).trans (by rw [ht0])) (vok_ok h3).1 (vok_ok h3).2
      refine W.putFinK hx hb ho (ht _ hw) hi hst9 hcf (hnm.trans hinit) (by rw [q2]; exact h6) q1 q3 (by rw [hsl]; exact k2_hasslot (q4 f hf)) rfl rfl hd fun H' e1 e2 e3 => ?_
      rw [hsl] at e1 ⊢
      exact kk H' _ ls (hH.set h1 ⟨_, hc, t_OB.to (V := updV (vp_V fs) f v) ⟨_, e1, q2, q3, t_set q4 hap hf v⟩ (fun j _ => vp_updV_set h2 v j)⟩ e2 e3) (hS.put e2 e3 (hH.2 a _ h1).1) hl⟩
    · cases hk
  · cases hk
/-! arrays -/
def ix (i : Int32) (n : Nat) : Option Nat := if i < 0 ∨ n ≤ i.toNatClampNeg then none else some i.toNatClampNeg
theorem ix_some {i : Int32} {n j : Nat} (h : ix i n = some j) : vp_in i n ∧ i.toNatClampNeg = j := by
  unfold ix at h
  split at h
  · cases h
  · next q => exact ⟨q, Option.some.inj h⟩
def gi (w : Mem) (t a : Nat) (i : Int32) : Option Int32 := match w.1 a with
  | some (.inl (t', n, .inl f)) => if t' = t then (ix i n).map f else none
  | _ => none
def gl (w : Mem) (a : Nat) (i : Int32) : Option Int64 := match w.1 a with
  | some (.inl (t', n, .inr (.inl f))) => if t' = 1 then (ix i n).map f else none
  | _ => none
def gr (w : Mem) (t a : Nat) (i : Int32) : Option (Option Nat) := match w.1 a with
  | some (.inl (t', n, .inr (.inr (.inr (.inr f))))) => if t' = t then (ix i n).map f else none
  | _ => none
def si (w : Mem) (t a : Nat) (i x : Int32) : Option Mem := match w.1 a with
  | some (.inl (t', n, .inl f)) => if t' = t then (ix i n).map (fun j => mset w a (.inl (t, n, .inl (va_up f j x)))) else none
  | _ => none
def sl (w : Mem) (a : Nat) (i : Int32) (x : Int64) : Option Mem := match w.1 a with
  | some (.inl (t', n, .inr (.inl f))) => if t' = 1 then (ix i n).map (fun j => mset w a (.inl (1, n, .inr (.inl (va_up f j x))))) else none
  | _ => none
def sr (w : Mem) (t a : Nat) (i : Int32) (v : Nat) : Option Mem := match w.1 a with
  | some (.inl (t', n, .inr (.inr (.inr (.inr f))))) => if t' = t then (ix i n).map (fun j => mset w a (.inl (t, n, .inr (.inr (.inr (.inr (va_up f j (some v)))))))) else none
  | _ => none
theorem gi_some {w : Mem} {t a : Nat} {i x : Int32} (h : gi w t a i = some x) : ∃ n f, w.1 a = some (.inl (t, n, .inl f)) ∧ vp_in i n ∧ x = f i.toNatClampNeg := by
  unfold gi at h
  split at h
  · next t' n f hw =>
    split at h
    · next e =>
      subst e
      obtain ⟨j, h1, h2⟩ := Option.map_eq_some_iff.mp h
      obtain ⟨h3, rfl⟩ := ix_some h1
      exact ⟨n, f, hw, h3, h2.symm⟩
    · cases h
  · cases h
theorem gl_some {w : Mem} {a : Nat} {i : Int32} {x : Int64} (h : gl w a i = some x) : ∃ n f, w.1 a = some (.inl (1, n, .inr (.inl f))) ∧ vp_in i n ∧ x = f i.toNatClampNeg := by
  unfold gl at h
  split at h
  · next t' n f hw =>
    split at h
    · next e =>
      subst e
      obtain ⟨j, h1, h2⟩ := Option.map_eq_some_iff.mp h
      obtain ⟨h3, rfl⟩ := ix_some h1
      exact ⟨n, f, hw, h3, h2.symm⟩
    · cases h
  · cases h
theorem gr_some {w : Mem} {t a : Nat} {i : Int32} {x : Option Nat} (h : gr w t a i = some x) : ∃ n f, w.1 a = some (.inl (t, n, .inr (.inr (.inr (.inr f))))) ∧ vp_in i n ∧ x = f i.toNatClampNeg := by
  unfold gr at h
  split at h
  · next t' n f hw =>
    split at h
    · next e =>
      subst e
      obtain ⟨j, h1, h2⟩ := Option.map_eq_some_iff.mp h
      obtain ⟨h3, rfl⟩ := ix_some h1
      exact ⟨n, f, hw, h3, h2.symm⟩
    · cases h
  · cases h
theorem si_some {w w1 : Mem} {t a : Nat} {i x : Int32} (h : si w t a i x = some w1) : ∃ n f, w.1 a = some (.inl (t, n, .inl f)) ∧ vp_in i n ∧ w1 = mset w a (.inl (t, n, .inl (va_up f i.toNatClampNeg x))) := by
  unfold si at h
  split at h
  · next t' n f hw =>
    split at h
    · next e =>
      subst e
      obtain ⟨j, h1, h2⟩ := Option.map_eq_some_iff.mp h
      obtain ⟨h3, rfl⟩ := ix_some h1
      exact ⟨n, f, hw, h3, h2.symm⟩
    · cases h
  · cases h
theorem sl_some {w w1 : Mem} {a : Nat} {i : Int32} {x : Int64} (h : sl w a i x = some w1) : ∃ n f, w.1 a = some (.inl (1, n, .inr (.inl f))) ∧ vp_in i n ∧ w1 = mset w a (.inl (1, n, .inr (.inl (va_up f i.toNatClampNeg x)))) := by
  unfold sl at h
  split at h
  · next t' n f hw =>
    split at h
    · next e =>
      subst e
      obtain ⟨j, h1, h2⟩ := Option.map_eq_some_iff.mp h
      obtain ⟨h3, rfl⟩ := ix_some h1
      exact ⟨n, f, hw, h3, h2.symm⟩
    · cases h
  · cases h
theorem sr_some {w w1 : Mem} {t a v : Nat} {i : Int32} (h : sr w t a i v = some w1) : ∃ n f, w.1 a = some (.inl (t, n, .inr (.inr (.inr (.inr f))))) ∧ vp_in i n ∧ w1 = mset w a (.inl (t, n, .inr (.inr (.inr (.inr (va_up f i.toNatClampNeg (some v))))))) := by
  unfold sr at h
  split at h
  · next t' n f hw =>
    split at h
    · next e =>
      subst e
      obtain ⟨j, h1, h2⟩ := Option.map_eq_some_iff.mp h
      obtain ⟨h3, rfl⟩ := ix_some h1
      exact ⟨n, f, hw, h3, h2.symm⟩
    · cases h
  · cases h
def i_iaload (k : KT) : KT := fun st lv w => match st with
  | .int i :: .ref a :: r => (match gi w 0 a i with
    | some x => k (.int x :: r) lv w
    | none => none)
  | _ => none
theorem s_iaload {d : MD} {g : GE} {pc : Nat} {k : KT} (h : Snd d g (pc + 1) k) (hd : decode d.1 pc = .ok (.iaload, 1)) : Snd d g pc (i_iaload k) := h.mem fun st lv w o w' hk => by
  simp only [i_iaload] at hk
  split at hk
  · split at hk
    · next v hv =>
      obtain ⟨n, f, h1, h2, rfl⟩ := gi_some hv
      refine ⟨_, _, w, hk, Nat.le_refl _, Nat.le_refl _, fun p l e R s m args below meth c D b0 w0 H locs ls Q C hH hS hl rc rs z1 z2 kk => by
      obtain ⟨hx, hb, hml, ho, ht, hK, hlk, hE, hst, hbs, hsz, hfr, hlo, hret, hnm, hex⟩ := C
      exact va_iald (D := (D.1, D.2.1)) hx hb hK (hH.P h1) 0 0 rfl (tys_at D 0 (by decide)) h2 hd (kk _ _ _ hH hS hl)⟩
    · cases hk
  · cases hk
def i_baload (k : KT) : KT := fun st lv w => match st with
  | .int i :: .ref a :: r => (match gi w 2 a i with
    | some x => k (.int x :: r) lv w
    | none => none)
  | _ => none
theorem s_baload {d : MD} {g : GE} {pc : Nat} {k : KT} (h : Snd d g (pc + 1) k) (hd : decode d.1 pc = .ok (.baload, 1)) : Snd d g pc (i_baload k) := h.mem fun st lv w o w' hk => by
  simp only [i_baload] at hk
  split at hk
  · split at hk
    · next v hv =>
      obtain ⟨n, f, h1, h2, rfl⟩ := gi_some hv
      refine ⟨_, _, w, hk, Nat.le_refl _, Nat.le_refl _, fun p l e R s m args below meth c D b0 w0 H locs ls Q C hH hS hl rc rs z1 z2 kk => by
      obtain ⟨hx, hb, hml, ho, ht, hK, hlk, hE, hst, hbs, hsz, hfr, hlo, hret, hnm, hex⟩ := C
      exact va_bald (D := (D.1, D.2.1)) hx hb hK (hH.P h1) 0 2 rfl (tys_at D 2 (by decide)) h2 hd (kk _ _ _ hH hS hl)⟩
    · cases hk
  · cases hk
def i_zaload (k : KT) : KT := fun st lv w => match st with
  | .int i :: .ref a :: r => (match gi w 3 a i with
    | some x => k (.int x :: r) lv w
    | none => none)
  | _ => none
theorem s_zaload {d : MD} {g : GE} {pc : Nat} {k : KT} (h : Snd d g (pc + 1) k) (hd : decode d.1 pc = .ok (.baload, 1)) : Snd d g pc (i_zaload k) := h.mem fun st lv w o w' hk => by
  simp only [i_zaload] at hk
  split at hk
  · split at hk
    · next v hv =>
      obtain ⟨n, f, h1, h2, rfl⟩ := gi_some hv
      refine ⟨_, _, w, hk, Nat.le_refl _, Nat.le_refl _, fun p l e R s m args below meth c D b0 w0 H locs ls Q C hH hS hl rc rs z1 z2 kk => by
      obtain ⟨hx, hb, hml, ho, ht, hK, hlk, hE, hst, hbs, hsz, hfr, hlo, hret, hnm, hex⟩ := C
      exact va_zald (D := (D.1, D.2.1)) hx hb hK (hH.P h1) 0 3 rfl (tys_at D 3 (by decide)) h2 hd (kk _ _ _ hH hS hl)⟩
    · cases hk
  · cases hk
def i_laload (k : KT) : KT := fun st lv w => match st with
  | .int i :: .ref a :: r => (match gl w a i with
    | some x => k (.long x :: r) lv w
    | none => none)
  | _ => none
theorem s_laload {d : MD} {g : GE} {pc : Nat} {k : KT} (h : Snd d g (pc + 1) k) (hd : decode d.1 pc = .ok (.laload, 1)) : Snd d g pc (i_laload k) := h.mem fun st lv w o w' hk => by
  simp only [i_laload] at hk
  split at hk
  · split at hk
    · next v hv =>
      obtain ⟨n, f, h1, h2, rfl⟩ := gl_some hv
      refine ⟨_, _, w, hk, Nat.le_refl _, Nat.le_refl _, fun p l e R s m args below meth c D b0 w0 H locs ls Q C hH hS hl rc rs z1 z2 kk => by
      obtain ⟨hx, hb, hml, ho, ht, hK, hlk, hE, hst, hbs, hsz, hfr, hlo, hret, hnm, hex⟩ := C
      exact va_lald (D := (D.1, D.2.1)) hx hb hK (hH.P h1) 0 1 rfl (tys_at D 1 (by decide)) h2 hd (kk _ _ _ hH hS hl)⟩
    · cases hk
  · cases hk
def i_aaload (t : Nat) (k : KT) : KT := fun st lv w => match st with
  | .int i :: .ref a :: r => (match gr w t a i with
    | some x => k (va_rf x :: r) lv w
    | none => none)
  | _ => none
theorem s_aaload {d : MD} {g : GE} {pc : Nat} {k : KT} {t : Nat} (h : Snd d g (pc + 1) k) (h8 : t < 8) (hr : (aty t).isReference = true) (hd : decode d.1 pc = .ok (.aaload, 1)) : Snd d g pc (i_aaload t k) := h.mem fun st lv w o w' hk => by
  simp only [i_aaload] at hk
  split at hk
  · next i a r =>
    split at hk
    · next v hv =>
      obtain ⟨n, f, h1, h2, rfl⟩ := gr_some hv
      refine ⟨_, _, w, hk, Nat.le_refl _, Nat.le_refl _, fun p l e R s m args below meth c D b0 w0 H locs ls Q C hH hS hl rc rs z1 z2 kk => by
      obtain ⟨hx, hb, hml, ho, ht, hK, hlk, hE, hst, hbs, hsz, hfr, hlo, hret, hnm, hex⟩ := C
      have hlt : i.toNatClampNeg < n := Nat.not_le.mp fun q => h2 (Or.inr q)
      exact W.aald (v := va_rf (f i.toNatClampNeg)) (ty := aty t) hx hb (hH.2 a _ h1).2 ((hK.2 t _ (tys_at D t h8)).1 n (fun j => va_rf (f j))) hr (fun q => by cases q) (by show ¬ (i < 0 ∨ (arrV _ _ _).slots.size ≤ _); rw [arrV_size]; exact h2) (by show (arrV _ _ _).slots[_]? = _; rw [arrV_read _ _ hlt]) rfl rfl hd (kk _ _ _ hH hS hl)⟩
    · cases hk
  · cases hk
def i_alen (t : Nat) (k : KT) : KT := fun st lv w => match st with
  | .ref a :: r => (match w.1 a with
    | some (.inl x) => if x.1 = t then k (.int (Int32.ofNat x.2.1) :: r) lv w else none
    | _ => none)
  | _ => none
theorem s_alen {d : MD} {g : GE} {pc : Nat} {k : KT} {t : Nat} (h : Snd d g (pc + 1) k) (h8 : t < 8) (hd : decode d.1 pc = .ok (.arraylength, 1)) : Snd d g pc (i_alen t k) := h.mem fun st lv w o w' hk => by
  simp only [i_alen] at hk
  split at hk
  · split at hk
    · next x h1 =>
      split at hk
      · next e =>
        subst e
        refine ⟨_, _, w, hk, Nat.le_refl _, Nat.le_refl _, fun p l e R s m args below meth c D b0 w0 H locs ls Q C hH hS hl rc rs z1 z2 kk => by
        obtain ⟨hx, hb, hml, ho, ht, hK, hlk, hE, hst, hbs, hsz, hfr, hlo, hret, hnm, hex⟩ := C
        exact va_alen (D := (D.1, D.2.1)) hx hb hK (hH.P h1) 0 x.1 rfl (tys_at D x.1 h8) rfl hd (kk _ _ _ hH hS hl)⟩
      · cases hk
    · cases hk
  · cases hk
def i_iastore (k : KT) : KT := fun st lv w => match st with
  | .int x :: .int i :: .ref a :: r => (match si w 0 a i x with
    | some w1 => k r lv w1
    | none => none)
  | _ => none
theorem s_iastore {d : MD} {g : GE} {pc : Nat} {k : KT} (h : Snd d g (pc + 1) k) (hd : decode d.1 pc = .ok (.iastore, 1)) : Snd d g pc (i_iastore k) := h.mem fun st lv w o w' hk => by
  simp only [i_iastore] at hk
  split at hk
  · next x i a r =>
    split at hk
    · next w1 hv =>
      obtain ⟨n, f, h1, h2, rfl⟩ := si_some hv
      refine ⟨_, _, _, hk, Nat.le_refl _, Nat.le_refl _, fun p l e R s m args below meth c D b0 w0 H locs ls Q C hH hS hl rc rs z1 z2 kk => by
      obtain ⟨hx, hb, hml, ho, ht, hK, hlk, hE, hst, hbs, hsz, hfr, hlo, hret, hnm, hex⟩ := C
      refine W.iast hx hb (hH.2 a _ h1).2 ((hK.2 0 _ (tys_at D 0 (by decide))).1 n (fun j => .int (f j))) (fun q => by cases q) (by show ¬ (i < 0 ∨ (arrV _ _ _).slots.size ≤ _); rw [arrV_size]; exact h2) rfl rfl hd fun H1 e z oq => ?_
      refine kk H1 _ ls (hH.set h1 ?_ z oq) (hS.put z oq (hH.2 a _ h1).1) hl
      show H1[a]? = some (vp_cell _ _)
      rw [e]
      simp only [cv]
      rw [vp_cell_i, vp_cell_i, arrV_store]
      congr 2
      funext q
      by_cases hq : q = i.toNatClampNeg
      · subst hq
        simp [updV, va_up, vp_nar]
        try rfl
      · simp [updV, va_up, hq]⟩
    · cases hk
  · cases hk
def i_bastore (k : KT) : KT := fun st lv w => match st with
  | .int x :: .int i :: .ref a :: r => (match si w 2 a i (vp_nar .byte x) with
    | some w1 => k r lv w1
    | none => none)
  | _ => none
theorem s_bastore {d : MD} {g : GE} {pc : Nat} {k : KT} (h : Snd d g (pc + 1) k) (hd : decode d.1 pc = .ok (.bastore, 1)) : Snd d g pc (i_bastore k) := h.mem fun st lv w o w' hk => by
  simp only [i_bastore] at hk
  split at hk
  · next x i a r =>
    split at hk
    · next w1 hv =>
      obtain ⟨n, f, h1, h2, rfl⟩ := si_some hv
      refine ⟨_, _, _, hk, Nat.le_refl _, Nat.le_refl _, fun p l e R s m args below meth c D b0 w0 H locs ls Q C hH hS hl rc rs z1 z2 kk => by
      obtain ⟨hx, hb, hml, ho, ht, hK, hlk, hE, hst, hbs, hsz, hfr, hlo, hret, hnm, hex⟩ := C
      refine W.bast hx hb (hH.2 a _ h1).2 ((hK.2 2 _ (tys_at D 2 (by decide))).1 n (fun j => .int (f j))) (fun q => by cases q) (by show ¬ (i < 0 ∨ (arrV _ _ _).slots.size ≤ _); rw [arrV_size]; exact h2) rfl rfl hd fun H1 e z oq => ?_
      refine kk H1 _ ls (hH.set h1 ?_ z oq) (hS.put z oq (hH.2 a _ h1).1) hl
      show H1[a]? = some (vp_cell _ _)
      rw [e]
      simp only [cv]
      rw [vp_cell_i, vp_cell_i, arrV_store]
      congr 2
      funext q
      by_cases hq : q = i.toNatClampNeg
      · subst hq
        simp [updV, va_up, vp_nar]
        try rfl
      · simp [updV, va_up, hq]⟩
    · cases hk
  · cases hk
def i_zastore (k : KT) : KT := fun st lv w => match st with
  | .int x :: .int i :: .ref a :: r => (match si w 3 a i (vp_nar .boolean x) with
    | some w1 => k r lv w1
    | none => none)
  | _ => none
theorem s_zastore {d : MD} {g : GE} {pc : Nat} {k : KT} (h : Snd d g (pc + 1) k) (hd : decode d.1 pc = .ok (.bastore, 1)) : Snd d g pc (i_zastore k) := h.mem fun st lv w o w' hk => by
  simp only [i_zastore] at hk
  split at hk
  · next x i a r =>
    split at hk
    · next w1 hv =>
      obtain ⟨n, f, h1, h2, rfl⟩ := si_some hv
      refine ⟨_, _, _, hk, Nat.le_refl _, Nat.le_refl _, fun p l e R s m args below meth c D b0 w0 H locs ls Q C hH hS hl rc rs z1 z2 kk => by
      obtain ⟨hx, hb, hml, ho, ht, hK, hlk, hE, hst, hbs, hsz, hfr, hlo, hret, hnm, hex⟩ := C
      refine W.zast hx hb (hH.2 a _ h1).2 ((hK.2 3 _ (tys_at D 3 (by decide))).1 n (fun j => .int (f j))) (fun q => by cases q) (by show ¬ (i < 0 ∨ (arrV _ _ _).slots.size ≤ _); rw [arrV_size]; exact h2) rfl rfl hd fun H1 e z oq => ?_
      refine kk H1 _ ls (hH.set h1 ?_ z oq) (hS.put z oq (hH.2 a _ h1).1) hl
      show H1[a]? = some (vp_cell _ _)
      rw [e]
      simp only [cv]
      rw [vp_cell_i, vp_cell_i, arrV_store]
      congr 2
      funext q
      by_cases hq : q = i.toNatClampNeg
      · subst hq
        simp [updV, va_up, vp_nar]
        try rfl
      · simp [updV, va_up, hq]⟩
    · cases hk
  · cases hk
def i_lastore (k : KT) : KT := fun st lv w => match st with
  | .long x :: .int i :: .ref a :: r => (match sl w a i x with
    | some w1 => k r lv w1
    | none => none)
  | _ => none
theorem s_lastore {d : MD} {g : GE} {pc : Nat} {k : KT} (h : Snd d g (pc + 1) k) (hd : decode d.1 pc = .ok (.lastore, 1)) : Snd d g pc (i_lastore k) := h.mem fun st lv w o w' hk => by
  simp only [i_lastore] at hk
  split at hk
  · next x i a r =>
    split at hk
    · next w1 hv =>
      obtain ⟨n, f, h1, h2, rfl⟩ := sl_some hv
      refine ⟨_, _, _, hk, Nat.le_refl _, Nat.le_refl _, fun p l e R s m args below meth c D b0 w0 H locs ls Q C hH hS hl rc rs z1 z2 kk => by
      obtain ⟨hx, hb, hml, ho, ht, hK, hlk, hE, hst, hbs, hsz, hfr, hlo, hret, hnm, hex⟩ := C
      refine W.last hx hb (hH.2 a _ h1).2 ((hK.2 1 _ (tys_at D 1 (by decide))).1 n (fun j => .long (f j))) (fun q => by cases q) (by show ¬ (i < 0 ∨ (arrV _ _ _).slots.size ≤ _); rw [arrV_size]; exact h2) rfl rfl hd fun H1 e z oq => ?_
      refine kk H1 _ ls (hH.set h1 ?_ z oq) (hS.put z oq (hH.2 a _ h1).1) hl
      show H1[a]? = some (vp_cell _ _)
      rw [e]
      simp only [cv]
      rw [vp_cell_l, vp_cell_l, arrV_store]
      congr 2
      funext q
      by_cases hq : q = i.toNatClampNeg
      · subst hq
        simp [updV, va_up]
      · simp [updV, va_up, hq]⟩
    · cases hk
  · cases hk
/-- a new cell of class ci stored into an array of such -/
def i_aastore (t ci : Nat) (k : KT) : KT := fun st lv w => match st with
  | .ref v :: .int i :: .ref a :: r => (match w.1 v with
    | some (.inr o) => if o.1 = ci then (match sr w t a i v with
      | some w1 => k r lv w1
      | none => none) else none
    | _ => none)
  | _ => none
theorem s_aastore {d : MD} {g : GE} {pc : Nat} {k : KT} {t ci : Nat} {q9 : vw_C} (h : Snd d g (pc + 1) k) (h8 : t < 8) (hc : vwCl[ci]? = some q9) (hty : aty t = .object q9.1) (hd : decode d.1 pc = .ok (.aastore, 1)) : Snd d g pc (i_aastore t ci k) := h.mem fun st lv w o w' hk => by
  simp only [i_aastore] at hk
  split at hk
  · next v i a r =>
    split at hk
    · next o9 h9 =>
      split at hk
      · next e9 =>
        split at hk
        · next w1 hv =>
          obtain ⟨n, f, h1, h2, rfl⟩ := sr_some hv
          refine ⟨_, _, _, hk, Nat.le_refl _, Nat.le_refl _, fun p l e R s m args below meth c D b0 w0 H locs ls Q C hH hS hl rc rs z1 z2 kk => by
          obtain ⟨hx, hb, hml, ho, ht, hK, hlk, hE, hst, hbs, hsz, hfr, hlo, hret, hnm, hex⟩ := C
          have hlt : i.toNatClampNeg < n := Nat.not_le.mp fun q => h2 (Or.inr q)
          have h0 : ¬ i < 0 := fun q => h2 (Or.inl q)
          obtain ⟨r', hr', cellV, g1, g2, g3, -⟩ := (hH.2 v _ h9).2
          simp only [cv, e9] at g2 hr'
          have hcls := (hK.1 ci q9 hc).2
          have hra := (hK.2 t _ (tys_at D t h8)).2
          simp only [hty] at hra
          obtain ⟨kA, comp, k1, k2, k3, -⟩ := hra
          have hcomp : comp = D.1 ci := Option.some.inj (k3.symm.trans hcls.1)
          subst hcomp
          obtain ⟨kC, hkC, -⟩ := hcls.2
          refine W.aast hx hb (hH.2 a _ h1).2 (fun q h => by cases h) (fun h => by cases h) k1 k2 rfl hkC ⟨h0, by show _ < (arrV _ _ _).slots.size; rw [arrV_size]; exact hlt⟩ g1 (fun q h => by rw [g3] at h; cases h) (by rw [g2]; exact hkC) (by rw [g2]; exact va_assign hcls) rfl rfl hd fun H1 e z oq => ?_
          refine kk H1 _ ls (hH.set h1 ?_ z oq) (hS.put z oq (hH.2 a _ h1).1) hl
          show H1[a]? = some (vp_cell _ _)
          rw [e]
          simp only [cv]
          rw [vp_cell_q, vp_cell_q, arrV_store]
          congr 2
          funext q
          by_cases hq : q = i.toNatClampNeg
          · subst hq
            simp [updV, va_up, va_rf]
          · simp [updV, va_up, hq]⟩
        · cases hk
      · cases hk
    · cases hk
  · cases hk
