def i_max (k : KT) : KT := fun st lv w => match st with
  | .int y :: .int x :: r => if r.length ≤ 4 then k (.int (if x < y then y else x) :: r) lv w else none
  | _ => none
theorem s_max {d : MD} {g : GE} {pc : Nat} {k : KT} {idx : Nat} (h : Snd d g (pc + 3) k) (h1 : Cond.methodLink d.2.1 idx Lib.Math.max.name ∈ gt) (h2 : Cond.static Lib.Math.max.name ∈ gt) (h3 : Cond.initialized "java/lang/Math" ∈ gt) (h4 : Cond.code Lib.Math.max.name Lib.Math.max.code 2 (some .int) ∈ gt) (hr : 1 ≤ d.2.2.2.1 ∧ 21 ≤ d.2.2.2.2.1) (hd : decode d.1 pc = .ok (.invokestatic idx, 3)) : Snd d g pc (i_max k) := h.mem fun st lv w o w' hk => by
  simp only [i_max] at hk
  split at hk
  · next y x r =>
    split at hk
    · next h9 =>
      refine ⟨_, _, w, hk, Nat.le_refl _, Nat.le_refl _, fun p l e R s m args below meth c D b0 w0 H locs ls Q C hH hS hl rc rs z1 z2 kk => by
      obtain ⟨hx, hb, hml, ho, ht, hK, hlk, hE, hst, hbs, hsz, hfr, hlo, hret, hnm, hex⟩ := C
      have h6 := cat_sum r
      exact va_mmax hx hb (hml.trans hl.1.symm) ho (ht _ h1) (ht _ h2) (ht _ h3) (ht _ h4) (by rw [hfr]; exact hr.1) (by rw [hlo]; omega) rc rs hd (kk _ _ _ hH hS hl)⟩
    · cases hk
  · cases hk
def i_min (k : KT) : KT := fun st lv w => match st with
  | .int y :: .int x :: r => if r.length ≤ 4 then k (.int (if y < x then y else x) :: r) lv w else none
  | _ => none
theorem s_min {d : MD} {g : GE} {pc : Nat} {k : KT} {idx : Nat} (h : Snd d g (pc + 3) k) (h1 : Cond.methodLink d.2.1 idx Lib.Math.min.name ∈ gt) (h2 : Cond.static Lib.Math.min.name ∈ gt) (h3 : Cond.initialized "java/lang/Math" ∈ gt) (h4 : Cond.code Lib.Math.min.name Lib.Math.min.code 2 (some .int) ∈ gt) (hr : 1 ≤ d.2.2.2.1 ∧ 21 ≤ d.2.2.2.2.1) (hd : decode d.1 pc = .ok (.invokestatic idx, 3)) : Snd d g pc (i_min k) := h.mem fun st lv w o w' hk => by
  simp only [i_min] at hk
  split at hk
  · next y x r =>
    split at hk
    · next h9 =>
      refine ⟨_, _, w, hk, Nat.le_refl _, Nat.le_refl _, fun p l e R s m args below meth c D b0 w0 H locs ls Q C hH hS hl rc rs z1 z2 kk => by
      obtain ⟨hx, hb, hml, ho, ht, hK, hlk, hE, hst, hbs, hsz, hfr, hlo, hret, hnm, hex⟩ := C
      have h6 := cat_sum r
      exact va_mmin hx hb (hml.trans hl.1.symm) ho (ht _ h1) (ht _ h2) (ht _ h3) (ht _ h4) (by rw [hfr]; exact hr.1) (by rw [hlo]; omega) rc rs hd (kk _ _ _ hH hS hl)⟩
    · cases hk
  · cases hk
def cpi (w : Mem) (a0 a : Nat) (sp dp n : Int32) : Option Mem := match w.1 a0, w.1 a with
  | some (.inl (t0, n0, .inl f)), some (.inl (t1, n1, .inl f1)) => if t0 = 0 ∧ t1 = 0 ∧ ¬ sp < 0 ∧ ¬ dp < 0 ∧ ¬ n < 0 ∧ sp.toNatClampNeg + n.toNatClampNeg ≤ n0 ∧ dp.toNatClampNeg + n.toNatClampNeg ≤ n1 then some (mset w a (.inl (0, n1, .inl (va_cpy f f1 sp.toNatClampNeg dp.toNatClampNeg n.toNatClampNeg)))) else none
  | some (.inl (t0, n0, .inr (.inl f))), some (.inl (t1, n1, .inr (.inl f1))) => if t0 = 1 ∧ t1 = 1 ∧ ¬ sp < 0 ∧ ¬ dp < 0 ∧ ¬ n < 0 ∧ sp.toNatClampNeg + n.toNatClampNeg ≤ n0 ∧ dp.toNatClampNeg + n.toNatClampNeg ≤ n1 then some (mset w a (.inl (1, n1, .inr (.inl (va_cpy f f1 sp.toNatClampNeg dp.toNatClampNeg n.toNatClampNeg))))) else none
  | _, _ => none
def i_acopy (k : KT) : KT := fun st lv w => match st with
  | .int n :: .int dp :: .ref a :: .int sp :: .ref a0 :: r => if r.length ≤ 4 then (match cpi w a0 a sp dp n with
    | some w1 => k r lv w1
    | none => none) else none
  | _ => none
theorem nn_pos (z : Int32) (hz : ¬ z < 0) : z.toInt = (z.toNatClampNeg : Int) := by
  have hz0 : (0 : Int) ≤ z.toInt := by
    have := Int32.not_lt.mp hz
    simpa using Int32.le_iff_toInt_le.mp this
  show z.toInt = ((z.toInt.toNat : Nat) : Int)
  omega
theorem s_acopy {d : MD} {g : GE} {pc : Nat} {k : KT} {idx : Nat} (h : Snd d g (pc + 3) k) (h1 : Cond.methodLink d.2.1 idx arraycopyName ∈ gt) (h2 : Cond.native arraycopyName ∈ gt) (h3 : Cond.static arraycopyName ∈ gt) (h4 : Cond.initialized "java/lang/System" ∈ gt) (hr : 1 ≤ d.2.2.2.1 ∧ 8 + (nativeFrameWords "java/lang/System" "arraycopy" 5 + 11) ≤ d.2.2.2.2.1) (hd : decode d.1 pc = .ok (.invokestatic idx, 3)) : Snd d g pc (i_acopy k) := h.mem fun st lv w o w' hk => by
  simp only [i_acopy] at hk
  split at hk
  · next n dp a sp a0 r =>
    split at hk
    · next h9 =>
      split at hk
      · next w1 hw1 =>
        unfold cpi at hw1
        split at hw1
        · next t0 n0 f t1 n1 f1 ha0 ha1 =>
          split at hw1
          · next e9 =>
            obtain ⟨rfl, rfl, q1, q2, q3, q4, q5⟩ := e9
            cases hw1
            refine ⟨_, _, _, hk, Nat.le_refl _, Nat.le_refl _, fun p l e R s m args below meth c D b0 w0 H locs ls Q C hH hS hl rc rs z1 z2 kk => by
            obtain ⟨hx, hb, hml, ho, ht, hK, hlk, hE, hst, hbs, hsz, hfr, hlo, hret, hnm, hex⟩ := C
            intro T hT X
            have h6 := cat_sum r
            have hc0 : H[a0]? = some (vp_cell (D.2.2 0) (n0, .inl f)) := (hH.2 _ _ ha0).2
            have hc1 : H[a]? = some (vp_cell (D.2.2 0) (n1, .inl f1)) := (hH.2 _ _ ha1).2
            obtain ⟨-, k0, hk0, cm0, hkk0⟩ := (hK.2 0 _ (tys_at D 0 (by decide))).1 n0 (fun j => .int (f j))
            obtain ⟨-, k1, hk1, cm1, hkk1⟩ := (hK.2 0 _ (tys_at D 0 (by decide))).1 n1 (fun j => .int (f1 j))
            obtain ⟨vm', X', step⟩ := X.arraycopy hx ho (ht _ h1) (ht _ h2) (ht _ h3) (ht _ h4) (src := a0) (dst := a) (cs := vp_cell (D.2.2 0) (n0, .inl f)) (cd := vp_cell (D.2.2 0) (n1, .inl f1)) (srcPos := sp) (destPos := dp) (n := n) (by rw [hT]; exact hc0) (by rw [hT]; exact hc1)
              (fun _ h => by cases h) (fun _ h => by cases h) (fun h => by cases h) (fun h => by cases h) hk0 hk1 hkk0 hkk1 (by simp [refKind, aty]) q1 q2 q3
              (by rw [nn_pos sp q1, nn_pos n q3]; show ¬ _ > ((arrV _ n0 (fun j => .int (f j))).slots.size : Int); rw [arrV_size]; omega)
              (by rw [nn_pos dp q2, nn_pos n q3]; show ¬ _ > ((arrV _ n1 (fun j => .int (f1 j))).slots.size : Int); rw [arrV_size]; omega)
              (fun vm₁ _ i hi => by
                have e : (vp_cell (D.2.2 0) (n0, .inl f)).slots.getD (sp.toNatClampNeg + i) .null = .int (f (sp.toNatClampNeg + i)) := by
                  show (arrV _ n0 (fun j => .int (f j))).slots.getD _ _ = _
                  rw [Array.getD_eq_getD_getElem?, arrV_read _ _ (by omega)]
                  rfl
                refine ⟨?_, ?_⟩
                · rw [e]
                  rfl
                · rw [e]
                  exact trivial)
              (g := F0 m pc ls (.int n :: .int dp :: .ref a :: .int sp :: .ref a0 :: r)) rfl (hl.1.trans hml.symm) (rest := r) rfl (by rw [hb]; exact hd) (by rw [hfr]; exact hr.1) (by show 2 * 0 + _ + _ ≤ _; rw [hlo]; omega)
            have e1 : copied (vp_cell (D.2.2 0) (n0, .inl f)) (vp_cell (D.2.2 0) (n1, .inl f1)) sp dp n = vp_cell (D.2.2 0) (n1, .inl (va_cpy f f1 sp.toNatClampNeg dp.toNatClampNeg n.toNatClampNeg)) := va_copied (fun z => .int z) _ _ f f1 q4
            rw [e1] at X' step
            have hla : a < H.size := (Array.getElem?_eq_some_iff.mp hc1).1
            have hheap : ((T.setVm vm').setCell a (vp_cell (D.2.2 0) (n1, .inl (va_cpy f f1 sp.toNatClampNeg dp.toNatClampNeg n.toNatClampNeg)))).heap = H.setIfInBounds a (vp_cell (D.2.2 0) (n1, .inl (va_cpy f f1 sp.toNatClampNeg dp.toNatClampNeg n.toNatClampNeg))) := by rw [← hT]; rfl
            have oq : ∀ q : Nat, q ≠ a → (H.setIfInBounds a (vp_cell (D.2.2 0) (n1, .inl (va_cpy f f1 sp.toNatClampNeg dp.toNatClampNeg n.toNatClampNeg))))[q]? = H[q]? := fun q hq => by simp [Array.getElem?_setIfInBounds, Ne.symm hq]
            obtain ⟨t, a1, b1⟩ := kk _ _ ls (hH.set ha1 (show (H.setIfInBounds a _)[a]? = some _ by simp [Array.getElem?_setIfInBounds, hla]) (by simp) oq) ⟨by simp; exact hS.1, fun q g1 g2 => by
                rw [oq q (fun e => g2 (by rw [e]; exact (hH.2 _ _ ha1).1))]
                exact hS.2.1 q g1 g2, fun q hq => by
                rcases List.mem_append.mp hq with h | h
                · exact hS.2.2 q h
                · obtain ⟨z, -, hz⟩ := List.mem_map.mp h
                  rw [← hz]
                  exact (hH.2 _ _ ha1).1⟩ hl _ hheap X'
            exact ⟨t, step t a1, b1⟩⟩
          · cases hw1
        · next t0 n0 f t1 n1 f1 ha0 ha1 =>
          split at hw1
          · next e9 =>
            obtain ⟨rfl, rfl, q1, q2, q3, q4, q5⟩ := e9
            cases hw1
            refine ⟨_, _, _, hk, Nat.le_refl _, Nat.le_refl _, fun p l e R s m args below meth c D b0 w0 H locs ls Q C hH hS hl rc rs z1 z2 kk => by
            obtain ⟨hx, hb, hml, ho, ht, hK, hlk, hE, hst, hbs, hsz, hfr, hlo, hret, hnm, hex⟩ := C
            intro T hT X
            have h6 := cat_sum r
            have hc0 : H[a0]? = some (vp_cell (D.2.2 1) (n0, .inr (.inl f))) := (hH.2 _ _ ha0).2
            have hc1 : H[a]? = some (vp_cell (D.2.2 1) (n1, .inr (.inl f1))) := (hH.2 _ _ ha1).2
            obtain ⟨-, k0, hk0, cm0, hkk0⟩ := (hK.2 1 _ (tys_at D 1 (by decide))).1 n0 (fun j => .long (f j))
            obtain ⟨-, k1, hk1, cm1, hkk1⟩ := (hK.2 1 _ (tys_at D 1 (by decide))).1 n1 (fun j => .long (f1 j))
            obtain ⟨vm', X', step⟩ := X.arraycopy hx ho (ht _ h1) (ht _ h2) (ht _ h3) (ht _ h4) (src := a0) (dst := a) (cs := vp_cell (D.2.2 1) (n0, .inr (.inl f))) (cd := vp_cell (D.2.2 1) (n1, .inr (.inl f1))) (srcPos := sp) (destPos := dp) (n := n) (by rw [hT]; exact hc0) (by rw [hT]; exact hc1)
              (fun _ h => by cases h) (fun _ h => by cases h) (fun h => by cases h) (fun h => by cases h) hk0 hk1 hkk0 hkk1 (by simp [refKind, aty]) q1 q2 q3
              (by rw [nn_pos sp q1, nn_pos n q3]; show ¬ _ > ((arrV _ n0 (fun j => .long (f j))).slots.size : Int); rw [arrV_size]; omega)
              (by rw [nn_pos dp q2, nn_pos n q3]; show ¬ _ > ((arrV _ n1 (fun j => .long (f1 j))).slots.size : Int); rw [arrV_size]; omega)
              (fun vm₁ _ i hi => by
                have e : (vp_cell (D.2.2 1) (n0, .inr (.inl f))).slots.getD (sp.toNatClampNeg + i) .null = .long (f (sp.toNatClampNeg + i)) := by
                  show (arrV _ n0 (fun j => .long (f j))).slots.getD _ _ = _
                  rw [Array.getD_eq_getD_getElem?, arrV_read _ _ (by omega)]
                  rfl
                refine ⟨?_, ?_⟩
                · rw [e]
                  rfl
                · rw [e]
                  exact trivial)
              (g := F0 m pc ls (.int n :: .int dp :: .ref a :: .int sp :: .ref a0 :: r)) rfl (hl.1.trans hml.symm) (rest := r) rfl (by rw [hb]; exact hd) (by rw [hfr]; exact hr.1) (by show 2 * 0 + _ + _ ≤ _; rw [hlo]; omega)
            have e1 : copied (vp_cell (D.2.2 1) (n0, .inr (.inl f))) (vp_cell (D.2.2 1) (n1, .inr (.inl f1))) sp dp n = vp_cell (D.2.2 1) (n1, .inr (.inl (va_cpy f f1 sp.toNatClampNeg dp.toNatClampNeg n.toNatClampNeg))) := va_copied (fun z => .long z) _ _ f f1 q4
            rw [e1] at X' step
            have hla : a < H.size := (Array.getElem?_eq_some_iff.mp hc1).1
            have hheap : ((T.setVm vm').setCell a (vp_cell (D.2.2 1) (n1, .inr (.inl (va_cpy f f1 sp.toNatClampNeg dp.toNatClampNeg n.toNatClampNeg))))).heap = H.setIfInBounds a (vp_cell (D.2.2 1) (n1, .inr (.inl (va_cpy f f1 sp.toNatClampNeg dp.toNatClampNeg n.toNatClampNeg)))) := by rw [← hT]; rfl
            have oq : ∀ q : Nat, q ≠ a → (H.setIfInBounds a (vp_cell (D.2.2 1) (n1, .inr (.inl (va_cpy f f1 sp.toNatClampNeg dp.toNatClampNeg n.toNatClampNeg)))))[q]? = H[q]? := fun q hq => by simp [Array.getElem?_setIfInBounds, Ne.symm hq]
            obtain ⟨t, a1, b1⟩ := kk _ _ ls (hH.set ha1 (show (H.setIfInBounds a _)[a]? = some _ by simp [Array.getElem?_setIfInBounds, hla]) (by simp) oq) ⟨by simp; exact hS.1, fun q g1 g2 => by
                rw [oq q (fun e => g2 (by rw [e]; exact (hH.2 _ _ ha1).1))]
                exact hS.2.1 q g1 g2, fun q hq => by
                rcases List.mem_append.mp hq with h | h
                · exact hS.2.2 q h
                · obtain ⟨z, -, hz⟩ := List.mem_map.mp h
                  rw [← hz]
                  exact (hH.2 _ _ ha1).1⟩ hl _ hheap X'
            exact ⟨t, step t a1, b1⟩⟩
          · cases hw1
        · cases hw1
      · cases hk
    · cases hk
  · cases hk
/-! texts -/
def i_str (a : Nat) (k : KT) : KT := i_push (.ref a) k
theorem s_str {d : MD} {g : GE} {pc : Nat} {k : KT} {i idx : Nat} (h : Snd d g (pc + 2) k) (hi : i < 12) (hown : (sown i).1 = d.2.1) (his : (sown i).2.1 = idx) (hd : decode d.1 pc = .ok (.ldc idx, 2)) : Snd d g pc (i_push (.ref (g.2.2.1 i)) k) := h.mem fun st lv w o w' hk => by
  refine ⟨_, _, w, hk, Nat.le_refl _, Nat.le_refl _, fun p l e R s m args below meth c D b0 w0 H locs ls Q C hH hS hl rc rs z1 z2 kk => by
  obtain ⟨hx, hb, hml, ho, ht, hK, hlk, hE, hst, hbs, hsz, hfr, hlo, hret, hnm, hex⟩ := C
  have hstr := hE.2.2.2.2.1 i hi
  rw [hown, his] at hstr
  exact va_ldcS hx hb ho hstr hd (kk _ _ _ hH hS hl)⟩
def fnd (f : Nat → Nat) (n a : Nat) : Option Nat := (List.range n).find? (fun i => f i == a)
theorem fnd_some {f : Nat → Nat} {n a i : Nat} (h : fnd f n a = some i) : i < n ∧ f i = a := by
  unfold fnd at h
  have g1 := List.find?_some h
  have g2 := List.mem_range.mp (List.mem_of_find?_eq_some h)
  simp only [beq_iff_eq] at g1
  exact ⟨g2, g1⟩
def i_sval (g : GE) (k : KT) : KT := fun st lv w => match st with
  | .ref a :: r => (match fnd g.2.2.1 12 a with
    | some i => k (.ref (g.2.2.2.1 i) :: r) lv w
    | none => none)
  | _ => none
theorem s_sval {d : MD} {g : GE} {pc : Nat} {k : KT} {idx : Nat} (h : Snd d g (pc + 3) k) (hw : Cond.fieldLink d.2.1 idx "java/lang/String" "value" "[B" ∈ gt) (hd : decode d.1 pc = .ok (.getfield idx, 3)) : Snd d g pc (i_sval g k) := h.mem fun st lv w o w' hk => by
  simp only [i_sval] at hk
  split at hk
  · split at hk
    · next i hi =>
      obtain ⟨h2, rfl⟩ := fnd_some hi
      refine ⟨_, _, w, hk, Nat.le_refl _, Nat.le_refl _, fun p l e R s m args below meth c D b0 w0 H locs ls Q C hH hS hl rc rs z1 z2 kk => by
      obtain ⟨hx, hb, hml, ho, ht, hK, hlk, hE, hst, hbs, hsz, hfr, hlo, hret, hnm, hex⟩ := C
      exact vk_getf hx hb (hE.2.2.2.1.1 i h2).2.2.1 hS ho (ht _ hw) (fun _ h9 => h9) hd (kk _ _ _ hH hS hl)⟩
    · cases hk
  · cases hk
def i_scod (g : GE) (k : KT) : KT := fun st lv w => match st with
  | .ref a :: r => (match fnd g.2.2.1 12 a with
    | some _ => k (.int 0 :: r) lv w
    | none => none)
  | _ => none
theorem s_scod {d : MD} {g : GE} {pc : Nat} {k : KT} {idx : Nat} (h : Snd d g (pc + 3) k) (hw : Cond.fieldLink d.2.1 idx "java/lang/String" "coder" "B" ∈ gt) (hd : decode d.1 pc = .ok (.getfield idx, 3)) : Snd d g pc (i_scod g k) := h.mem fun st lv w o w' hk => by
  simp only [i_scod] at hk
  split at hk
  · split at hk
    · next i hi =>
      obtain ⟨h2, rfl⟩ := fnd_some hi
      refine ⟨_, _, w, hk, Nat.le_refl _, Nat.le_refl _, fun p l e R s m args below meth c D b0 w0 H locs ls Q C hH hS hl rc rs z1 z2 kk => by
      obtain ⟨hx, hb, hml, ho, ht, hK, hlk, hE, hst, hbs, hsz, hfr, hlo, hret, hnm, hex⟩ := C
      exact vk_getf hx hb (hE.2.2.2.1.1 i h2).2.1 hS ho (ht _ hw) (fun _ h9 => h9) hd (kk _ _ _ hH hS hl)⟩
    · cases hk
  · cases hk
theorem s_getsC {d : MD} {g : GE} {pc : Nat} {k : KT} {idx : Nat} (h : Snd d g (pc + 3) k) (hw : Cond.fieldLink d.2.1 idx "java/lang/String" "COMPACT_STRINGS" "Z" ∈ gt) (hd : decode d.1 pc = .ok (.getstatic idx, 3)) : Snd d g pc (i_push (.int 1) k) := h.mem fun st lv w o w' hk => by
  refine ⟨_, _, w, hk, Nat.le_refl _, Nat.le_refl _, fun p l e R s m args below meth c D b0 w0 H locs ls Q C hH hS hl rc rs z1 z2 kk => by
  obtain ⟨hx, hb, hml, ho, ht, hK, hlk, hE, hst, hbs, hsz, hfr, hlo, hret, hnm, hex⟩ := C
  exact va_gets hx hb hE.2.2.2.2.2.2.2.1 hS ho (ht _ hw) (fun _ h9 => h9) hd (kk _ _ _ hH hS hl)⟩
theorem s_getsF {d : MD} {g : GE} {pc : Nat} {k : KT} {idx : Nat} (h : Snd d g (pc + 3) k) (hw : Cond.fieldLink d.2.1 idx "jdk/internal/util/Preconditions" "SIOOBE_FORMATTER" "Ljava/util/function/BiFunction;" ∈ gt) (hd : decode d.1 pc = .ok (.getstatic idx, 3)) : Snd d g pc (i_push (va_rf g.2.2.2.2.1) k) := h.mem fun st lv w o w' hk => by
  refine ⟨_, _, w, hk, Nat.le_refl _, Nat.le_refl _, fun p l e R s m args below meth c D b0 w0 H locs ls Q C hH hS hl rc rs z1 z2 kk => by
  obtain ⟨hx, hb, hml, ho, ht, hK, hlk, hE, hst, hbs, hsz, hfr, hlo, hret, hnm, hex⟩ := C
  exact va_gets hx hb hE.2.2.2.2.2.2.2.2.2.1 hS ho (ht _ hw) (fun _ h9 => h9) hd (kk _ _ _ hH hS hl)⟩
def i_slen (g : GE) (k : KT) : KT := fun st lv w => match st with
  | .ref a :: r => (match fnd g.2.2.2.1 12 a with
    | some i => k (.int (Int32.ofNat (slen.getD i 0)) :: r) lv w
    | none => none)
  | _ => none
theorem s_slen {d : MD} {g : GE} {pc : Nat} {k : KT} (h : Snd d g (pc + 1) k) (hd : decode d.1 pc = .ok (.arraylength, 1)) : Snd d g pc (i_slen g k) := h.mem fun st lv w o w' hk => by
  simp only [i_slen] at hk
  split at hk
  · split at hk
    · next i hi =>
      obtain ⟨h2, rfl⟩ := fnd_some hi
      refine ⟨_, _, w, hk, Nat.le_refl _, Nat.le_refl _, fun p l e R s m args below meth c D b0 w0 H locs ls Q C hH hS hl rc rs z1 z2 kk => by
      obtain ⟨hx, hb, hml, ho, ht, hK, hlk, hE, hst, hbs, hsz, hfr, hlo, hret, hnm, hex⟩ := C
      obtain ⟨cell, g1, g2, g3, g4, g5, g6, g7⟩ := (hE.2.2.2.1.1 i h2).2.2.2.kept hS.2.1
      exact W.alen hx hb g1 g2 g5 rfl rfl hd (kk _ _ _ hH hS hl)⟩
    · cases hk
  · cases hk
def i_sald (g : GE) (k : KT) : KT := fun st lv w => match st with
  | .int i :: .ref a :: r => (match fnd g.2.2.2.1 12 a with
    | some q => (match ix i (slen.getD q 0) with
      | some j => k (.int ((sbyt.getD q []).getD j 0) :: r) lv w
      | none => none)
    | none => none)
  | _ => none
theorem s_sald {d : MD} {g : GE} {pc : Nat} {k : KT} (h : Snd d g (pc + 1) k) (hd : decode d.1 pc = .ok (.baload, 1)) : Snd d g pc (i_sald g k) := h.mem fun st lv w o w' hk => by
  simp only [i_sald] at hk
  split at hk
  · next i a r =>
    split at hk
    · next q hq =>
      obtain ⟨h2, rfl⟩ := fnd_some hq
      split at hk
      · next j hj =>
        obtain ⟨h3, rfl⟩ := ix_some hj
        refine ⟨_, _, w, hk, Nat.le_refl _, Nat.le_refl _, fun p l e R s m args below meth c D b0 w0 H locs ls Q C hH hS hl rc rs z1 z2 kk => by
        obtain ⟨hx, hb, hml, ho, ht, hK, hlk, hE, hst, hbs, hsz, hfr, hlo, hret, hnm, hex⟩ := C
        obtain ⟨cell, g1, g2, g3, g4, g5, g6, g7⟩ := (hE.2.2.2.1.1 q h2).2.2.2.kept hS.2.1
        have hlt : i.toNatClampNeg < slen.getD q 0 := Nat.not_le.mp fun z => h3 (Or.inr z)
        exact W.bald hx hb g1 g2 g3 (fun z => h3 (z.elim Or.inl (fun y => Or.inr (Nat.le_trans g4 y)))) (g6 _ hlt) rfl rfl hd (kk _ _ _ hH hS hl)⟩
      · cases hk
    · cases hk
  · cases hk
/-- a call of a text's method -/
def i_cvS (F : FT) (g : GE) (n : Nat) (k : KT) : KT := fun st lv w => match st.drop n with
  | .ref a :: r => (match fnd g.2.2.1 12 a with
    | some _ => if r.length ≤ 4 then (match F g (.ref a :: (st.take n).reverse) w with
      | some (.inl v, w1) => k (v.toList ++ r) lv w1
      | _ => none) else none
    | _ => none)
  | _ => none
theorem s_cvS {d : MD} {g : GE} {pc : Nat} {k : KT} {F : FT} {y : MethodName} {b : ByteArray} {nL fr lo n idx : Nat} {ret : Option FieldType} (h : Snd d g (pc + 3) k) (hM : Mt y b nL ret fr lo F) (hC : y.cls = "java/lang/String") (h1 : Cond.methodLink d.2.1 idx y ∈ gt) (h2 : Cond.instanceMethod y ∈ gt) (h3 : Cond.selects y.cls y y ∈ gt) (h4 : Cond.initialized y.cls ∈ gt) (h5 : Cond.code y b nL ret ∈ gt) (hR : CR d y nL fr lo n) (hd : decode d.1 pc = .ok (.invokevirtual idx, 3)) : Snd d g pc (i_cvS F g n k) := h.mem fun st lv w o w' hk => by
  simp only [i_cvS] at hk
  split at hk
  · next a r hdr =>
    split at hk
    · next i hi =>
      split at hk
      · next e9 =>
        split at hk
        · next v w1 hF =>
          obtain ⟨hst9, hlen⟩ := td hdr
          obtain ⟨mo1, mo2⟩ := hM.1 _ _ _ _ _ hF
          obtain ⟨g2, rfl⟩ := fnd_some hi
          refine ⟨_, _, w1, hk, mo1, mo2, fun p l e R s m args below meth c D b0 w0 H locs ls Q C hH hS hl rc rs z1 z2 kk => by
          obtain ⟨hx, hb, hml, ho, ht, hK, hlk, hE, hst, hbs, hsz, hfr, hlo, hret, hnm, hex⟩ := C
          have hMm := met_of (hM.2 l D b0 g _ w _ w1 hst (by rw [← hH.1]; exact Nat.le_trans hbs hS.1) hF)
          have h6 := cat_sum r
          refine run_go (mc := w1.2.1 - w.2.1) (ms := w1.2.2 - w.2.2) (rest := r) (va_runV (C := y.cls) (b := g.2.2.1 i) (As := (st.take n).reverse) (rest := r) ⟨hx, hb, hml, ho, ht⟩ hMm (cwV n ht (gt_V h1 h2 h3 h4 h5) rfl rfl rfl ⟨rfl, hR.1⟩ (by rw [hfr, hlo]; exact hR.2)) ⟨wd_blind, ?_, wd_pre hH hK hE hS⟩ rfl hlen hl.1 hst9 ?_ hd ⟨by omega, by omega⟩) hS (by omega) (by omega) (fun H1 locs1 hH1 hS1 => kk H1 locs1 ls hH1 hS1 hl)
          · rw [hC]
            obtain ⟨cell, q1, q2, q3, -⟩ := (hE.2.2.2.1.1 i g2).1.kept hS.2.1
            exact ⟨cell, q1, q2, q3⟩
          · show 2 * 0 + _ ≤ _
            omega⟩
        · cases hk
      · cases hk
    · cases hk
  · cases hk
def i_i2c (k : KT) : KT := fun st lv w => match st with
  | .int x :: r => k (.int (x.toUInt32 % 65536).toInt32 :: r) lv w
  | _ => none
theorem s_i2c {d : MD} {g : GE} {pc : Nat} {k : KT} (h : Snd d g (pc + 1) k) (hd : decode d.1 pc = .ok (.i2c, 1)) : Snd d g pc (i_i2c k) := h.pure fun st lv w o w' hk => by
  simp only [i_i2c] at hk
  split at hk
  · exact ⟨_, _, hk, fun p l e R s m args below meth c H locs cells slots Q ls hx hb ho ht hl kk => lv_i2c hx hb hd rfl (kk _ hl)⟩
  · cases hk
/-- an answer of a small type -/
def i_nret (t : Nat) : KT := fun st _ w => match st with
  | [.int v] => if (if t = 0 then (v.toUInt32 % 65536).toInt32 else v.toInt8.toInt32) = v then some (.inl (some (.int v)), w) else none
  | _ => none
theorem s_nret {d : MD} {g : GE} {pc t : Nat} (hr : d.2.2.2.2.2.1 = some (if t = 0 then .char else .byte)) (hd : decode d.1 pc = .ok (.ireturn, 1)) : Snd d g pc (i_nret t) := by
  refine ⟨fun st lv w o w' hk => ?_, ?_⟩
  · simp only [i_nret] at hk
    split at hk
    · by_cases h0 : t = 0
      · simp only [if_pos h0] at hk
        split at hk <;> cases hk
        exact ⟨Nat.le_refl _, Nat.le_refl _⟩
      · simp only [if_neg h0] at hk
        split at hk <;> cases hk
        exact ⟨Nat.le_refl _, Nat.le_refl _⟩
    · cases hk
  · intro p l e R s m args below meth c D b0 w0 C H locs ls st lv w o w' hH hS hl z1 z2 hk r1 r2
    obtain ⟨hx, hb, hml, ho, ht, hK, hlk, hE, hst, hbs, hsz, hfr, hlo, hret, hnm, hex⟩ := C
    simp only [i_nret] at hk
    split at hk
    · next v =>
      by_cases h0 : t = 0
      · subst h0
        simp only [if_true] at hk hr
        split at hk
        · next h9 =>
          cases hk
          refine vx_ret (W.zret hx hb (hret.trans hr) ?_ (fun t ht9 hW => ⟨⟨_, rfl, rfl⟩, by rw [ht9]; exact hH, hS.F ht9⟩) hS.2.2 hd)
          rw [← h9]
          exact pk_nc v
        · cases hk
      · simp only [if_neg h0] at hk hr
        split at hk
        · next h9 =>
          cases hk
          refine vx_ret (W.zret hx hb (hret.trans hr) ?_ (fun t ht9 hW => ⟨⟨_, rfl, rfl⟩, by rw [ht9]; exact hH, hS.F ht9⟩) hS.2.2 hd)
          rw [← h9]
          exact pk_nb v
        · cases hk
    · cases hk
