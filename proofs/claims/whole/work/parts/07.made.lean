/-! references -/
def rfo (v : Value) : Option (Option Nat) := match v with
  | .ref a => some (some a)
  | .null => some none
  | _ => none
theorem rfo_some {v : Value} {x : Option Nat} (h : rfo v = some x) : v = va_rf x := by
  unfold rfo at h
  split at h <;> cases h <;> rfl
def i_acmpeq (kt kf : KT) : KT := fun st lv w => match st with
  | y :: x :: r => (match rfo x, rfo y with
    | some a, some b => if a = b then kt r lv w else kf r lv w
    | _, _ => none)
  | _ => none
theorem s_acmpeq {d : MD} {g : GE} {pc : Nat} {kt kf : KT} {off : Int} {tgt : Nat} (h1 : Snd d g tgt kt) (h2 : Snd d g (pc + 3) kf) (hd : decode d.1 pc = .ok (.if_acmp .eq off, 3)) (hto : (pc : Int) + off = (tgt : Int)) : Snd d g pc (i_acmpeq kt kf) := Snd.br h1 h2 fun st lv w o w' hk => by
  simp only [i_acmpeq] at hk
  split at hk
  · split at hk
    · next a b ha hb9 =>
      rw [rfo_some ha, rfo_some hb9]
      split at hk
      · next hc => exact Or.inl ⟨_, _, hk, fun p l e R s m args below meth c H locs cells slots Q ls hx hb ho ht hl kk => lv_acmp_eq hx hb hd hto (fun _ => kk _ hl) (fun q => absurd hc q)⟩
      · next hc => exact Or.inr ⟨_, _, hk, fun p l e R s m args below meth c H locs cells slots Q ls hx hb ho ht hl kk => lv_acmp_eq hx hb hd hto (fun q => absurd q hc) (fun _ => kk _ hl)⟩
    · cases hk
  · cases hk
def i_acmpne (kt kf : KT) : KT := fun st lv w => match st with
  | y :: x :: r => (match rfo x, rfo y with
    | some a, some b => if a = b then kf r lv w else kt r lv w
    | _, _ => none)
  | _ => none
theorem s_acmpne {d : MD} {g : GE} {pc : Nat} {kt kf : KT} {off : Int} {tgt : Nat} (h1 : Snd d g tgt kt) (h2 : Snd d g (pc + 3) kf) (hd : decode d.1 pc = .ok (.if_acmp .ne off, 3)) (hto : (pc : Int) + off = (tgt : Int)) : Snd d g pc (i_acmpne kt kf) := Snd.br h1 h2 fun st lv w o w' hk => by
  simp only [i_acmpne] at hk
  split at hk
  · split at hk
    · next a b ha hb9 =>
      rw [rfo_some ha, rfo_some hb9]
      split at hk
      · next hc => exact Or.inr ⟨_, _, hk, fun p l e R s m args below meth c H locs cells slots Q ls hx hb ho ht hl kk => lv_acmp_ne hx hb hd hto (fun q => absurd hc q) (fun _ => kk _ hl)⟩
      · next hc => exact Or.inl ⟨_, _, hk, fun p l e R s m args below meth c H locs cells slots Q ls hx hb ho ht hl kk => lv_acmp_ne hx hb hd hto (fun _ => kk _ hl) (fun q => absurd q hc)⟩
    · cases hk
  · cases hk
def i_ifnull (kt kf : KT) : KT := fun st lv w => match st with
  | .ref _ :: r => kf r lv w
  | .null :: r => kt r lv w
  | _ => none
theorem s_ifnull {d : MD} {g : GE} {pc : Nat} {kt kf : KT} {off : Int} {tgt : Nat} (h1 : Snd d g tgt kt) (h2 : Snd d g (pc + 3) kf) (hd : decode d.1 pc = .ok (.ifnull off, 3)) (hto : (pc : Int) + off = (tgt : Int)) : Snd d g pc (i_ifnull kt kf) := Snd.br h1 h2 fun st lv w o w' hk => by
  simp only [i_ifnull] at hk
  split at hk
  · exact Or.inr ⟨_, _, hk, fun p l e R s m args below meth c H locs cells slots Q ls hx hb ho ht hl kk => lv_ifnull hx hb hd (kk _ hl)⟩
  · exact Or.inl ⟨_, _, hk, fun p l e R s m args below meth c H locs cells slots Q ls hx hb ho ht hl kk => lv_ifnullN hx hb hd hto (kk _ hl)⟩
  · cases hk
def i_ifnonnull (kt kf : KT) : KT := fun st lv w => match st with
  | .ref _ :: r => kt r lv w
  | .null :: r => kf r lv w
  | _ => none
theorem s_ifnonnull {d : MD} {g : GE} {pc : Nat} {kt kf : KT} {off : Int} {tgt : Nat} (h1 : Snd d g tgt kt) (h2 : Snd d g (pc + 3) kf) (hd : decode d.1 pc = .ok (.ifnonnull off, 3)) (hto : (pc : Int) + off = (tgt : Int)) : Snd d g pc (i_ifnonnull kt kf) := Snd.br h1 h2 fun st lv w o w' hk => by
  simp only [i_ifnonnull] at hk
  split at hk
  · exact Or.inl ⟨_, _, hk, fun p l e R s m args below meth c H locs cells slots Q ls hx hb ho ht hl kk => lv_ifnonnull hx hb hd hto (kk _ hl)⟩
  · exact Or.inr ⟨_, _, hk, fun p l e R s m args below meth c H locs cells slots Q ls hx hb ho ht hl kk => lv_ifnonnullN hx hb hd (kk _ hl)⟩
  · cases hk
theorem s_null {d : MD} {g : GE} {pc : Nat} {k : KT} (h : Snd d g (pc + 1) k) (hd : decode d.1 pc = .ok (.aconst_null, 1)) : Snd d g pc (i_push .null k) :=
  h.pure fun st lv w o w' hk => ⟨_, _, hk, fun p l e R s m args below meth c H locs cells slots Q ls hx hb ho ht hl kk => lv_null hx hb hd (kk _ hl)⟩
theorem s_gets {d : MD} {g : GE} {pc : Nat} {k : KT} {i idx : Nat} (h : Snd d g (pc + 3) k) (hi : i < 8) (hw : Cond.fieldLink d.2.1 idx (stn i).1 (stn i).2.1 (stn i).2.2 ∈ gt) (hd : decode d.1 pc = .ok (.getstatic idx, 3)) : Snd d g pc (i_push (.ref (g.2.1 i)) k) := h.mem fun st lv w o w' hk => by
  refine ⟨_, _, w, hk, Nat.le_refl _, Nat.le_refl _, fun p l e R s m args below meth c D b0 w0 H locs ls Q C hH hS hl rc rs z1 z2 kk => by
  obtain ⟨hx, hb, hml, ho, ht, hK, hlk, hE, hst, hbs, hsz, hfr, hlo, hret, hnm, hex⟩ := C
  exact va_gets hx hb (hE.1 i hi) hS ho (ht _ hw) (fun _ h9 => h9) hd (kk _ _ _ hH hS hl)⟩
/-- the word of a verb -/
def i_word (g : GE) (k : KT) : KT := fun st lv w => match st with
  | .ref a :: r => (match (List.range 7).find? (fun i => g.2.1 i == a) with
    | some i => k (.ref (g.2.2.1 i) :: r) lv w
    | none => none)
  | _ => none
theorem s_word {d : MD} {g : GE} {pc : Nat} {k : KT} {idx : Nat} (h : Snd d g (pc + 3) k) (hw : Cond.fieldLink d.2.1 idx "BlottedDeed$Verb" "word" "Ljava/lang/String;" ∈ gt) (hd : decode d.1 pc = .ok (.getfield idx, 3)) : Snd d g pc (i_word g k) := h.mem fun st lv w o w' hk => by
  simp only [i_word] at hk
  split at hk
  · next a r =>
    split at hk
    · next i hi =>
      have h1 := List.find?_some hi
      have h2 := List.mem_range.mp (List.mem_of_find?_eq_some hi)
      simp only [beq_iff_eq] at h1
      subst h1
      refine ⟨_, _, w, hk, Nat.le_refl _, Nat.le_refl _, fun p l e R s m args below meth c D b0 w0 H locs ls Q C hH hS hl rc rs z1 z2 kk => by
      obtain ⟨hx, hb, hml, ho, ht, hK, hlk, hE, hst, hbs, hsz, hfr, hlo, hret, hnm, hex⟩ := C
      exact vk_getf hx hb (hE.2.1 i h2).2 hS ho (ht _ hw) (fun _ h9 => h9) hd (kk _ _ _ hH hS hl)⟩
    · cases hk
  · cases hk
/-- the array of the verbs -/
def i_vlen (g : GE) (k : KT) : KT := fun st lv w => match st with
  | .ref a :: r => if a = g.2.1 7 then k (.int 7 :: r) lv w else none
  | _ => none
theorem s_vlen {d : MD} {g : GE} {pc : Nat} {k : KT} (h : Snd d g (pc + 1) k) (hd : decode d.1 pc = .ok (.arraylength, 1)) : Snd d g pc (i_vlen g k) := h.mem fun st lv w o w' hk => by
  simp only [i_vlen] at hk
  split at hk
  · next a r =>
    split at hk
    · next e9 =>
      subst e9
      refine ⟨_, _, w, hk, Nat.le_refl _, Nat.le_refl _, fun p l e R s m args below meth c D b0 w0 H locs ls Q C hH hS hl rc rs z1 z2 kk => by
      obtain ⟨hx, hb, hml, ho, ht, hK, hlk, hE, hst, hbs, hsz, hfr, hlo, hret, hnm, hex⟩ := C
      obtain ⟨cell, g1, g2, g3, g4, g5, g6, g7⟩ := hE.2.2.1.kept hS.2.1
      exact W.alen (n := 7) hx hb g1 g2 g5 rfl rfl hd (kk _ _ _ hH hS hl)⟩
    · cases hk
  · cases hk
def i_vald (g : GE) (k : KT) : KT := fun st lv w => match st with
  | .int i :: .ref a :: r => if a = g.2.1 7 then (match ix i 7 with
    | some j => k (.ref (g.2.1 j) :: r) lv w
    | none => none) else none
  | _ => none
theorem s_vald {d : MD} {g : GE} {pc : Nat} {k : KT} (h : Snd d g (pc + 1) k) (hd : decode d.1 pc = .ok (.aaload, 1)) : Snd d g pc (i_vald g k) := h.mem fun st lv w o w' hk => by
  simp only [i_vald] at hk
  split at hk
  · next i a r =>
    split at hk
    · next e9 =>
      subst e9
      split at hk
      · next j hj =>
        obtain ⟨h3, rfl⟩ := ix_some hj
        refine ⟨_, _, w, hk, Nat.le_refl _, Nat.le_refl _, fun p l e R s m args below meth c D b0 w0 H locs ls Q C hH hS hl rc rs z1 z2 kk => by
        obtain ⟨hx, hb, hml, ho, ht, hK, hlk, hE, hst, hbs, hsz, hfr, hlo, hret, hnm, hex⟩ := C
        obtain ⟨cell, g1, g2, g3, g4, g5, g6, g7⟩ := hE.2.2.1.kept hS.2.1
        have hlt : i.toNatClampNeg < 7 := Nat.not_le.mp fun q => h3 (Or.inr q)
        have hsz9 : cell.slots.size = 7 ∨ 7 ≤ cell.slots.size := Or.inr g4
        exact W.aald (ty := .object "BlottedDeed$Verb") hx hb g1 g2 rfl g3 (fun q => h3 (q.elim Or.inl (fun z => Or.inr (Nat.le_trans g4 z)))) (g6 _ hlt) rfl rfl hd (kk _ _ _ hH hS hl)⟩
      · cases hk
    · cases hk
  · cases hk
/-! the ends -/
def i_ireturn : KT := fun st _ w => match st with
  | [.int v] => some (.inl (some (.int v)), w)
  | _ => none
def i_zreturn : KT := fun st _ w => match st with
  | [.int v] => if v = 0 ∨ v = 1 then some (.inl (some (.int v)), w) else none
  | _ => none
def i_lreturn : KT := fun st _ w => match st with
  | [.long v] => some (.inl (some (.long v)), w)
  | _ => none
def i_areturn : KT := fun st _ w => match st with
  | [.ref v] => some (.inl (some (.ref v)), w)
  | [.null] => some (.inl (some .null), w)
  | _ => none
def i_return : KT := fun st _ w => match st with
  | [] => some (.inl none, w)
  | _ => none
theorem s_ireturn {d : MD} {g : GE} {pc : Nat} (hr : d.2.2.2.2.2.1 = some .int) (hd : decode d.1 pc = .ok (.ireturn, 1)) : Snd d g pc i_ireturn := by
  refine ⟨fun st lv w o w' hk => ?_, ?_⟩
  · simp only [i_ireturn] at hk
    split at hk <;> cases hk
    exact ⟨Nat.le_refl _, Nat.le_refl _⟩
  · intro p l e R s m args below meth c D b0 w0 C H locs ls st lv w o w' hH hS hl z1 z2 hk r1 r2
    obtain ⟨hx, hb, hml, ho, ht, hK, hlk, hE, hst, hbs, hsz, hfr, hlo, hret, hnm, hex⟩ := C
    simp only [i_ireturn] at hk
    split at hk <;> cases hk
    exact vx_ret (W.iret hx hb (hret.trans hr) (fun t ht9 hW => ⟨⟨_, rfl, rfl⟩, by rw [ht9]; exact hH, hS.F ht9⟩) hS.2.2 hd)
theorem s_lreturn {d : MD} {g : GE} {pc : Nat} (hr : d.2.2.2.2.2.1 = some .long) (hd : decode d.1 pc = .ok (.lreturn, 1)) : Snd d g pc i_lreturn := by
  refine ⟨fun st lv w o w' hk => ?_, ?_⟩
  · simp only [i_lreturn] at hk
    split at hk <;> cases hk
    exact ⟨Nat.le_refl _, Nat.le_refl _⟩
  · intro p l e R s m args below meth c D b0 w0 C H locs ls st lv w o w' hH hS hl z1 z2 hk r1 r2
    obtain ⟨hx, hb, hml, ho, ht, hK, hlk, hE, hst, hbs, hsz, hfr, hlo, hret, hnm, hex⟩ := C
    simp only [i_lreturn] at hk
    split at hk <;> cases hk
    exact vx_ret (W.lret hx hb (hret.trans hr) (fun t ht9 hW => ⟨⟨_, rfl, rfl⟩, by rw [ht9]; exact hH, hS.F ht9⟩) hS.2.2 hd)
theorem s_return {d : MD} {g : GE} {pc : Nat} (hr : d.2.2.2.2.2.1 = none) (hd : decode d.1 pc = .ok (.return_, 1)) : Snd d g pc i_return := by
  refine ⟨fun st lv w o w' hk => ?_, ?_⟩
  · simp only [i_return] at hk
    split at hk <;> cases hk
    exact ⟨Nat.le_refl _, Nat.le_refl _⟩
  · intro p l e R s m args below meth c D b0 w0 C H locs ls st lv w o w' hH hS hl z1 z2 hk r1 r2
    obtain ⟨hx, hb, hml, ho, ht, hK, hlk, hE, hst, hbs, hsz, hfr, hlo, hret, hnm, hex⟩ := C
    simp only [i_return] at hk
    split at hk <;> cases hk
    exact vx_ret (W.vret hx hb (hret.trans hr) (fun t ht9 hW => ⟨⟨_, rfl, rfl⟩, by rw [ht9]; exact hH, hS.F ht9⟩) hS.2.2 hd)
theorem s_zreturn {d : MD} {g : GE} {pc : Nat} (hr : d.2.2.2.2.2.1 = some .boolean) (hd : decode d.1 pc = .ok (.ireturn, 1)) : Snd d g pc i_zreturn := by
  refine ⟨fun st lv w o w' hk => ?_, ?_⟩
  · simp only [i_zreturn] at hk
    split at hk
    · split at hk <;> cases hk
      exact ⟨Nat.le_refl _, Nat.le_refl _⟩
    · cases hk
  · intro p l e R s m args below meth c D b0 w0 C H locs ls st lv w o w' hH hS hl z1 z2 hk r1 r2
    obtain ⟨hx, hb, hml, ho, ht, hK, hlk, hE, hst, hbs, hsz, hfr, hlo, hret, hnm, hex⟩ := C
    simp only [i_zreturn] at hk
    split at hk
    · split at hk
      · next v h9 =>
        cases hk
        exact vx_ret (W.zret hx hb (hret.trans hr) (by rcases h9 with rfl | rfl <;> decide) (fun t ht9 hW => ⟨⟨_, rfl, rfl⟩, by rw [ht9]; exact hH, hS.F ht9⟩) hS.2.2 hd)
      · cases hk
    · cases hk
theorem s_areturn {d : MD} {g : GE} {pc : Nat} {rt : FieldType} (hr : d.2.2.2.2.2.1 = some rt) (hrt : (∃ n, rt = .object n) ∨ ∃ t, rt = .array t) (hd : decode d.1 pc = .ok (.areturn, 1)) : Snd d g pc i_areturn := by
  refine ⟨fun st lv w o w' hk => ?_, ?_⟩
  · simp only [i_areturn] at hk
    split at hk <;> cases hk <;> exact ⟨Nat.le_refl _, Nat.le_refl _⟩
  · intro p l e R s m args below meth c D b0 w0 C H locs ls st lv w o w' hH hS hl z1 z2 hk r1 r2
    obtain ⟨hx, hb, hml, ho, ht, hK, hlk, hE, hst, hbs, hsz, hfr, hlo, hret, hnm, hex⟩ := C
    simp only [i_areturn] at hk
    split at hk
    · cases hk
      exact vx_ret (W.aret hx hb (hret.trans hr) hrt (Or.inr ⟨_, rfl⟩) (fun t ht9 hW => ⟨⟨_, rfl, rfl⟩, by rw [ht9]; exact hH, hS.F ht9⟩) hS.2.2 hd)
    · cases hk
      exact vx_ret (W.aret hx hb (hret.trans hr) hrt (Or.inl rfl) (fun t ht9 hW => ⟨⟨_, rfl, rfl⟩, by rw [ht9]; exact hH, hS.F ht9⟩) hS.2.2 hd)
    · cases hk
/-! a switch over a table -/
def i_tsw (lo hi : Int) (ks : List KT) (kd : KT) : KT := fun st lv w => match st with
  | .int x :: r => if x.toInt < lo ∨ hi < x.toInt then kd r lv w else (match ks[(x.toInt - lo).toNat]? with
    | some k => k r lv w
    | none => none)
  | _ => none
theorem s_tsw {d : MD} {g : GE} {pc : Nat} {lo hi : Int} {ks : List KT} {kd : KT} {dflt : Int} {offs : Array Int} {len tgt : Nat} (hd : decode d.1 pc = .ok (.tableswitch dflt lo hi offs, len)) (hdf : Snd d g tgt kd) (hto : (pc : Int) + dflt = (tgt : Int))
    (hk9 : ∀ (j : Nat) (kj : KT), ks[j]? = some kj → ∃ (off : Int) (tj : Nat), offs[j]? = some off ∧ (pc : Int) + off = (tj : Int) ∧ Snd d g tj kj) : Snd d g pc (i_tsw lo hi ks kd) := by
  refine ⟨fun st lv w o w' hk => ?_, ?_⟩
  · simp only [i_tsw] at hk
    split at hk
    · split at hk
      · exact hdf.1 _ _ _ _ _ hk
      · split at hk
        · next kj hj =>
          obtain ⟨off, tj, -, -, h3⟩ := hk9 _ _ hj
          exact h3.1 _ _ _ _ _ hk
        · cases hk
    · cases hk
  · intro p l e R s m args below meth c D b0 w0 C H locs ls st lv w o w' hH hS hl z1 z2 hk r1 r2
    have C' := id C
    obtain ⟨hx, hb, -⟩ := C'
    simp only [i_tsw] at hk
    split at hk
    · split at hk
      · next h9 => exact lv_tableOut hx hb hd h9 hto (hdf.2 p l e R s m args below meth c D b0 w0 C H locs ls _ lv w o w' hH hS hl z1 z2 hk r1 r2)
      · next h9 =>
        split at hk
        · next kj hj =>
          obtain ⟨off, tj, g1, g2, h3⟩ := hk9 _ _ hj
          exact lv_tableIn hx hb hd (fun q => h9 (Or.inl q)) (fun q => h9 (Or.inr q)) g1 g2 (h3.2 p l e R s m args below meth c D b0 w0 C H locs ls _ lv w o w' hH hS hl z1 z2 hk r1 r2)
        · cases hk
    · cases hk
/-! what is made -/
def i_new (ci N : Nat) (fs : List Value) (k : KT) : KT := fun st lv w => k (.ref w.2.1 :: st) lv (mnew w (.inr (ci, fs)) N)
theorem s_new {d : MD} {g : GE} {pc : Nat} {k : KT} {C : String} {T : u_T} {N ci idx : Nat} {fs : List Value} {ty0 : Nat → FieldType} (h : Snd d g (pc + 3) k) (hin : ∀ w ∈ u_ws C T N, w ∈ gt) (hty : ∀ k, k < N → parseFieldDescriptor (T k).2.2.1 = some (ty0 k)) (hc : vwCl[ci]? = some (C, T, N)) (hcl : Cond.classLink d.2.1 idx C ∈ gt) (hinst : Cond.instantiable C N ∈ gt) (hini : Cond.initialized C ∈ gt) (hfs : ∀ j, j < N → defaultValue (ty0 j) = vp_V fs j) (hd : decode d.1 pc = .ok (.new idx, 3)) : Snd d g pc (i_new ci N fs k) := h.mem fun st lv w o w' hk => by
  refine ⟨_, _, _, hk, Nat.le_succ _, Nat.le_add_right _ _, fun p l e R s m args below meth c D b0 w0 H locs ls Q C hH hS hl rc rs z1 z2 kk => by
  obtain ⟨hx, hb, hml, ho, ht, hK, hlk, hE, hst, hbs, hsz, hfr, hlo, hret, hnm, hex⟩ := C
  have hKn := hK.1 ci _ hc
  have e1 : (mnew w (.inr (ci, fs)) N).2.1 = w.2.1 + 1 := rfl
  have e2 : (mnew w (.inr (ci, fs)) N).2.2 = w.2.2 + N := rfl
  rw [e1] at rc
  rw [e2] at rs
  refine W.newcK hx hb ho (ht _ hcl) (ht _ hinst) (ht _ hini) rfl hd (by omega) (by omega) hKn.2.1 hH.1 fun H1 kC hkC e9 z9 o9 => ?_
  refine W.cs (cells' := (mnew w (.inr (ci, fs)) N).2.1 - w0.2.1) (slots' := (mnew w (.inr (ci, fs)) N).2.2 - w0.2.2) (by rw [e1]; omega) (by rw [e2]; omega) (kk H1 _ ls (hH.new (Nat.le_trans hbs hS.1) ?_ (by rw [z9, hH.1]) (fun q hq => o9 q (by rw [← hH.1]; exact hq))) ⟨Nat.le_trans hS.1 (by rw [z9, ← hH.1]; omega), fun x h1 h2 => (o9 x (by rw [← hH.1]; exact Nat.lt_of_lt_of_le h1 hS.1)).trans (hS.2.1 x h1 h2), hS.2.2⟩ hl)
  rw [hH.1]
  exact ⟨_, hc, (u_born ty0 ht hin hKn hkC e9 hty).to hfs⟩⟩
def zc (t : Nat) : (Nat → Int32) ⊕ (Nat → Int64) ⊕ (Nat → UInt32) ⊕ (Nat → UInt64) ⊕ (Nat → Option Nat) := if t = 1 then .inr (.inl (fun _ => 0)) else .inl (fun _ => 0)
def i_newarr (t : Nat) (k : KT) : KT := fun st lv w => match st with
  | .int n :: r => if n < 0 ∨ 1000000 < n.toNatClampNeg then none else k (.ref w.2.1 :: r) lv (mnew w (.inl (t, n.toNatClampNeg, zc t)) n.toNatClampNeg)
  | _ => none
theorem s_newarr {d : MD} {g : GE} {pc : Nat} {k : KT} {t : Nat} {at9 : ArrayType} (h : Snd d g (pc + 2) k) (h8 : t < 4) (hat : newarray.typeOf at9 = aty t) (hw : Cond.arrayClass (aty t) ∈ gt) (hd : decode d.1 pc = .ok (.newarray at9, 2)) : Snd d g pc (i_newarr t k) := h.mem fun st lv w o w' hk => by
  simp only [i_newarr] at hk
  split at hk
  · next n r =>
    split at hk
    · cases hk
    · next hn9 =>
      refine ⟨_, _, _, hk, Nat.le_succ _, Nat.le_add_right _ _, fun p l e R s m args below meth c D b0 w0 H locs ls Q C hH hS hl rc rs z1 z2 kk => by
      obtain ⟨hx, hb, hml, ho, ht, hK, hlk, hE, hst, hbs, hsz, hfr, hlo, hret, hnm, hex⟩ := C
      have hn : ¬ n < 0 := fun q => hn9 (Or.inl q)
      have hn2 : n.toNatClampNeg ≤ 1000000 := Nat.not_lt.mp fun q => hn9 (Or.inr q)
      generalize hN : n.toNatClampNeg = N at *
      have e1 : (mnew w (.inl (t, N, zc t)) N).2.1 = w.2.1 + 1 := rfl
      have e2 : (mnew w (.inl (t, N, zc t)) N).2.2 = w.2.2 + N := rfl
      rw [e1] at rc
      rw [e2] at rs
      have hcb : componentBytes (aty t) ≤ 8 := by
        have : ∀ t, t < 4 → componentBytes (aty t) ≤ 8 := by decide
        exact this t h8
      have h88 : t < 8 := by omega
      have hra := (hK.2 t _ (tys_at D t h88)).2
      have hcls : s.vm.findClass ("[" ++ (aty t).toString) = some (D.2.2 t) := by
        have : t = 0 ∨ t = 1 ∨ t = 2 ∨ t = 3 := by omega
        rcases this with rfl | rfl | rfl | rfl <;> exact hra
      refine va_newaK hx hb (by rw [hat]; exact ht _ hw) rfl hd rfl hn hN (by rw [hat]; exact Nat.le_trans (Nat.mul_le_mul hn2 hcb) (by decide)) (by omega) (by omega) hH.1 fun H1 cA e9 z9 o9 hAr hNm => ?_
      rw [hat] at hNm e9
      have hcA : cA = D.2.2 t := Option.some.inj (hNm.symm.trans hcls)
      subst hcA
      refine W.cs (cells' := (mnew w (.inl (t, N, zc t)) N).2.1 - w0.2.1) (slots' := (mnew w (.inl (t, N, zc t)) N).2.2 - w0.2.2) (by rw [e1]; omega) (by rw [e2]; omega) (kk H1 _ ls (hH.new (Nat.le_trans hbs hS.1) ?_ (by rw [z9, hH.1]) (fun q hq => o9 q (by rw [← hH.1]; exact hq))) ⟨Nat.le_trans hS.1 (by rw [z9, ← hH.1]; omega), fun x h1 h2 => (o9 x (by rw [← hH.1]; exact Nat.lt_of_lt_of_le h1 hS.1)).trans (hS.2.1 x h1 h2), hS.2.2⟩ hl)
      rw [hH.1]
      show H1[w.2.1]? = some (vp_cell _ _)
      rw [e9]
      have : t = 0 ∨ t = 1 ∨ t = 2 ∨ t = 3 := by omega
      rcases this with rfl | rfl | rfl | rfl <;> rfl⟩
  · cases hk
def i_anew (t : Nat) (k : KT) : KT := fun st lv w => match st with
  | .int n :: r => if n < 0 ∨ 1000000 < n.toNatClampNeg then none else k (.ref w.2.1 :: r) lv (mnew w (.inl (t, n.toNatClampNeg, .inr (.inr (.inr (.inr (fun _ => none)))))) n.toNatClampNeg)
  | _ => none
theorem s_anew {d : MD} {g : GE} {pc : Nat} {k : KT} {t idx : Nat} {C : String} (h : Snd d g (pc + 3) k) (h8 : t < 8) (hat : aty t = .object C) (hcl : Cond.classLink d.2.1 idx C ∈ gt) (hov : Cond.arrayOver (.object C) ∈ owl) (hd : decode d.1 pc = .ok (.anewarray idx, 3)) : Snd d g pc (i_anew t k) := h.mem fun st lv w o w' hk => by
  simp only [i_anew] at hk
  split at hk
  · next n r =>
    split at hk
    · cases hk
    · next hn9 =>
      refine ⟨_, _, _, hk, Nat.le_succ _, Nat.le_add_right _ _, fun p l e R s m args below meth c D b0 w0 H locs ls Q C hH hS hl rc rs z1 z2 kk => by
      obtain ⟨hx, hb, hml, ho, ht, hK, hlk, hE, hst, hbs, hsz, hfr, hlo, hret, hnm, hex⟩ := C
      have hn : ¬ n < 0 := fun q => hn9 (Or.inl q)
      have hn2 : n.toNatClampNeg ≤ 1000000 := Nat.not_lt.mp fun q => hn9 (Or.inr q)
      have hra := (hK.2 t _ (tys_at D t h8)).2
      simp only [hat] at hra
      obtain ⟨kA9, comp9, -, -, -, hcls⟩ := hra
      have rc' : w.2.1 + 1 - w0.2.1 ≤ R.cells := rc
      have rs' : w.2.2 + n.toNatClampNeg - w0.2.2 ≤ R.slots := rs
      refine W.anew hx hb ho (ht _ hcl) (va_AO.use (hE.ow hov)) rfl hd rfl hn (by omega) (by omega) (by omega) fun cA kA comp f1 f2 f3 f4 => ?_
      have hcA : cA = D.2.2 t := Option.some.inj (f1.symm.trans hcls)
      subst hcA
      generalize hH1 : H.push ({ cls := D.2.2 t, slots := Array.replicate n.toNatClampNeg .null, vm := .none } : Cell) = H1
      have z9 : H1.size = H.size + 1 := by rw [← hH1, Array.size_push]
      have e9 : H1[H.size]? = some (arrV (D.2.2 t) n.toNatClampNeg (fun _ => .null)) := by rw [← hH1, Array.getElem?_push_size, ← arrV_new]
      have o9 : ∀ q : Nat, q < H.size → H1[q]? = H[q]? := fun q hq => by rw [← hH1, Array.getElem?_push, if_neg (Nat.ne_of_lt hq)]
      rw [hH.1]
      refine W.cs (cells' := w.2.1 + 1 - w0.2.1) (slots' := w.2.2 + n.toNatClampNeg - w0.2.2) (by omega) (by omega) (kk H1 _ ls (hH.new (Nat.le_trans hbs hS.1) e9 z9 o9) ⟨Nat.le_trans hS.1 (by omega), fun x h1 h2 => (o9 x (Nat.lt_of_lt_of_le h1 hS.1)).trans (hS.2.1 x h1 h2), hS.2.2⟩ hl)⟩
  · cases hk
def i_obj (k : KT) : KT := fun st lv w => match st with
  | .ref _ :: r => if r.length ≤ 4 then k r lv w else none
  | _ => none
theorem cat_le (v : Value) : v.category ≤ 2 := by rcases lv_cat v with h | h <;> omega
theorem cat_sum (r : List Value) : (r.map fun v => v.category).sum ≤ 2 * r.length := by
  induction r with
  | nil => simp
  | cons v r ih =>
    have := cat_le v
    simp only [List.map_cons, List.sum_cons, List.length_cons]
    omega
theorem s_obj {d : MD} {g : GE} {pc : Nat} {k : KT} {idx : Nat} (h : Snd d g (pc + 3) k) (h1 : Cond.methodLink d.2.1 idx objectInit ∈ gt) (h2 : Cond.instanceMethod objectInit ∈ gt) (h3 : Cond.code objectInit ⟨#[0xb1]⟩ 1 none ∈ gt) (hr : 1 ≤ d.2.2.2.1 ∧ 20 ≤ d.2.2.2.2.1) (hd : decode d.1 pc = .ok (.invokespecial idx, 3)) : Snd d g pc (i_obj k) := h.mem fun st lv w o w' hk => by
  simp only [i_obj] at hk
  split at hk
  · next a r =>
    split at hk
    · next h4 =>
      refine ⟨_, _, w, hk, Nat.le_refl _, Nat.le_refl _, fun p l e R s m args below meth c D b0 w0 H locs ls Q C hH hS hl rc rs z1 z2 kk => by
      obtain ⟨hx, hb, hml, ho, ht, hK, hlk, hE, hst, hbs, hsz, hfr, hlo, hret, hnm, hex⟩ := C
      have h5 := cat_sum r
      refine W.objInit hx hb ho (ht _ h1) (ht _ h2) (ht _ h3) rfl (hl.1.trans hml.symm) rfl hd (by rw [hfr]; exact hr.1) ?_ (kk _ _ _ hH hS hl)
      show 2 * 0 + _ + 12 ≤ _
      rw [hlo]
      omega⟩
    · cases hk
  · cases hk
