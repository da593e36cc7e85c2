/-! ===== methods that catch; the script ===== -/
def MtW (y : MethodName) (b : ByteArray) (nL : Nat) (ret : Option FieldType) (hh : List (Nat × Nat × Nat × Nat)) (fr lo : Nat) (F : FT) : Prop :=
  MonoF F ∧ ∀ (l : Launch) (D : DD) (b0 : Nat) (g : GE) (av : List Value) (w : Mem) (o : Rs) (w' : Mem), l.stackTraces = false → b0 ≤ w.2.1 → F g av w = some (o, w') →
    vx_Met l y (.codeWith y b nL ret hh :: gt) { frames := fr, cells := w'.2.1 - w.2.1, slots := w'.2.2 - w.2.2, locals := lo } (va_Pc av (WD D b0 g w)) (QR D b0 o w') (XR D b0 o w') (w'.2.1 - w.2.1) (w'.2.2 - w.2.2) (fun q : Nat => b0 ≤ q)
theorem MtW.of {y : MethodName} {b : ByteArray} {nL fr lo : Nat} {ret : Option FieldType} {hh : List (Nat × Nat × Nat × Nat)} {F : FT} {K : GE → KT} (hy : plainName y.cls = true) (hF : ∀ g av w, F g av w = if (ent av).length ≤ nL then K g [] (entp nL av) w else none)
    (hs : ∀ g, Snd (b, y.cls, nL, fr, lo, ret, y.name, hh) g 0 (K g)) : MtW y b nL ret hh fr lo F := by
  refine ⟨fun g av w o w' h => ?_, ?_⟩
  · rw [hF] at h
    split at h
    · exact (hs g).1 _ _ _ _ _ h
    · cases h
  · intro l D b0 g av w o w' hst hb0 hF9
    rw [hF] at hF9
    split at hF9
    · next hlen =>
      refine vx_ofWH (cc := b) (maxL := nL) (ret := ret) hy rfl ?_
      intro p e s m args below meth c s₁ B hml hv
      obtain ⟨rfl, hH, hK, hE⟩ := hv
      have hts := atoms_spec (ws := Cond.codeWith y b nL ret hh :: gt) B.pre
      have hown : s.vm.findClass y.cls = some m.cls := findClass_of_methodNamed B.named
      have hnm : meth.name = y.name := (name_of_methodNamed B.named B.method).1
      rw [lg_entry_eq]
      have hsz : s.heap.size = w.2.1 := hH.1
      have := (hs g).2 p l e (headSpec (Cond.codeWith y b nL ret hh :: gt) { frames := fr, cells := w'.2.1 - w.2.1, slots := w'.2.2 - w.2.2, locals := lo }).room s m av.toArray below meth c D b0 w ⟨B.exec, B.bytes, hml, hown, fun w9 h9 => hts w9 (List.mem_cons_of_mem _ h9), hK, B.notSynchronized, hE, hst, by rw [hsz]; exact hb0, hsz, rfl, rfl, B.returns, hnm, vx_table (x := y) B (hts _ List.mem_cons_self)⟩
        s.heap [] _ [] (entp nL av) w o w' hH va_S.rf (entp_LV hlen) (Nat.le_refl _) (Nat.le_refl _) hF9 (Nat.le_refl _) (Nat.le_refl _)
      rw [Nat.sub_self, Nat.sub_self] at this
      exact this
    · cases hF9
theorem gt_wsW {y : MethodName} {b : ByteArray} {nL : Nat} {ret : Option FieldType} {hh : List (Nat × Nat × Nat × Nat)} (h : Cond.codeWith y b nL ret hh ∈ gt) : GoodIn gt (.codeWith y b nL ret hh :: gt) := fun w hw => by
  rcases List.mem_cons.mp hw with rfl | hw
  · exact ⟨h, gt_good h⟩
  · exact ⟨hw, gt_good hw⟩
theorem gt_SW {own : String} {idx : Nat} {y : MethodName} {b : ByteArray} {nL : Nat} {ret : Option FieldType} {hh : List (Nat × Nat × Nat × Nat)} (h1 : Cond.methodLink own idx y ∈ gt) (h2 : Cond.static y ∈ gt) (h4 : Cond.initialized y.cls ∈ gt) (h5 : Cond.codeWith y b nL ret hh ∈ gt) : GoodIn gt (va_wsS own idx y (.codeWith y b nL ret hh :: gt)) := fun w hw => by
  unfold va_wsS at hw
  rcases List.mem_append.mp hw with hw | hw
  · simp only [List.mem_cons, List.not_mem_nil, or_false] at hw
    rcases hw with rfl | rfl | rfl
    · exact ⟨h1, gt_good h1⟩
    · exact ⟨h2, gt_good h2⟩
    · exact ⟨h4, gt_good h4⟩
  · exact gt_wsW h5 w hw
theorem s_csW {d : MD} {g : GE} {pc : Nat} {k : KT} {F : FT} {y : MethodName} {b : ByteArray} {nL fr lo n idx : Nat} {ret : Option FieldType} {hh : List (Nat × Nat × Nat × Nat)} (h : Snd d g (pc + 3) k) (hM : MtW y b nL ret hh fr lo F) (h1 : Cond.methodLink d.2.1 idx y ∈ gt) (h2 : Cond.static y ∈ gt) (h4 : Cond.initialized y.cls ∈ gt) (h5 : Cond.codeWith y b nL ret hh ∈ gt) (hR : CR d y nL fr lo n) (hd : decode d.1 pc = .ok (.invokestatic idx, 3)) : Snd d g pc (i_cs F g n k) := h.mem fun st lv w o w' hk => by
  simp only [i_cs] at hk
  split at hk
  · next e9 =>
    split at hk
    · next v w1 hF =>
      obtain ⟨mo1, mo2⟩ := hM.1 _ _ _ _ _ hF
      refine ⟨_, _, w1, hk, mo1, mo2, fun p l e R s m args below meth c D b0 w0 H locs ls Q C hH hS hl rc rs z1 z2 kk => by
      obtain ⟨hx, hb, hml, ho, ht, hK, hlk, hE, hst, hbs, hsz, hfr, hlo, hret, hnm, hex⟩ := C
      have hMm := met_of (hM.2 l D b0 g _ w _ w1 hst (by rw [← hH.1]; exact Nat.le_trans hbs hS.1) hF)
      have h6 := cat_sum (st.drop n)
      refine run_go (mc := w1.2.1 - w.2.1) (ms := w1.2.2 - w.2.2) (rest := st.drop n) (vx_runSW (As := (st.take n).reverse) (rest := st.drop n) ⟨hx, hb, hml, ho, ht⟩ hMm (vx_cwSW n ht (gt_SW h1 h2 h4 h5) rfl rfl rfl hR.1 (by rw [hfr, hlo]; exact hR.2)) ⟨wd_blind, wd_pre hH hK hE hS⟩ rfl (by simp; omega) hl.1 (by rw [List.reverse_reverse, List.take_append_drop]) ?_ hd ⟨by omega, by omega⟩) hS (by omega) (by omega) (fun H1 locs1 hH1 hS1 => kk H1 locs1 ls hH1 hS1 hl)
      show 2 * 0 + _ ≤ _
      omega⟩
    · cases hk
  · cases hk
/-! a call whose throws are caught here -/
def i_cvC (F : FT) (g : GE) (n ci : Nat) (hs : List (String × KT)) (k : KT) : KT := fun st lv w => match st.drop n with
  | .ref a :: r => (match w.1 a with
    | some (.inr o) => if o.1 = ci ∧ r.length ≤ 4 then (match F g (.ref a :: (st.take n).reverse) w with
      | some (.inl v, w1) => k (v.toList ++ r) lv w1
      | some (.inr E, w1) => (match hs.find? (fun q => q.1 == E) with
        | some q => q.2 [.ref 0] lv w1
        | none => none)
      | none => none) else none
    | _ => none)
  | _ => none
/-- the handler of a class: its row of the table, and the rows ahead that don't take it -/
def HC (d : MD) (g : GE) (pc : Nat) (q : String × KT) : Prop := ∃ (pre : List ExceptionTableEntry) (x : ExceptionTableEntry) (suf : List ExceptionTableEntry) (name : String), tableOf d.2.2.2.2.2.2.2 = pre ++ x :: suf ∧ (∀ z ∈ pre, z.catchType ≠ 0 ∧ ∃ nm : String, Cond.classLink d.2.1 z.catchType nm ∈ gt ∧ (q.1, nm) ∈ ncl) ∧ covers x pc = true ∧ x.catchType ≠ 0 ∧ Cond.classLink d.2.1 x.catchType name ∈ gt ∧ Cond.castable q.1 name ∈ owl ∧ Snd d g x.handlerPc q.2 ∧ ∀ z lv w, q.2 [.ref z] lv w = q.2 [.ref 0] lv w
theorem s_cvC {d : MD} {g : GE} {pc : Nat} {k : KT} {F : FT} {y : MethodName} {b : ByteArray} {nL fr lo n ci idx : Nat} {ret : Option FieldType} {q9 : vw_C} {hs : List (String × KT)} (h : Snd d g (pc + 3) k) (hhs : ∀ q ∈ hs, HC d g pc q) (hM : Mt y b nL ret fr lo F) (hc : vwCl[ci]? = some q9) (hC : y.cls = q9.1) (h1 : Cond.methodLink d.2.1 idx y ∈ gt) (h2 : Cond.instanceMethod y ∈ gt) (h3 : Cond.selects y.cls y y ∈ gt) (h4 : Cond.initialized y.cls ∈ gt) (h5 : Cond.code y b nL ret ∈ gt) (hR : CR d y nL fr lo n) (hd : decode d.1 pc = .ok (.invokevirtual idx, 3)) : Snd d g pc (i_cvC F g n ci hs k) := by
  have hcv := s_cv (n := n) (ci := ci) h hM hc hC h1 h2 h3 h4 h5 hR hd
  have key : ∀ st lv w o w', i_cvC F g n ci hs k st lv w = some (o, w') → i_cv F g n ci k st lv w = some (o, w') ∨ ∃ (a : Nat) (r : List Value) (o9 : Nat × List Value) (E : String) (w1 : Mem) (q : String × KT), st.drop n = .ref a :: r ∧ w.1 a = some (.inr o9) ∧ o9.1 = ci ∧ r.length ≤ 4 ∧ F g (.ref a :: (st.take n).reverse) w = some (.inr E, w1) ∧ q ∈ hs ∧ q.1 = E ∧ q.2 [.ref 0] lv w1 = some (o, w') := by
    intro st lv w o w' hk
    simp only [i_cvC] at hk
    split at hk
    · next a r hdr =>
      split at hk
      · next o9 ha =>
        split at hk
        · next e9 =>
          split at hk
          · next v w1 hF =>
            left
            simp only [i_cv, hdr, ha, e9, hF]
            simpa using hk
          · next E w1 hF =>
            split at hk
            · next q hq =>
              have g1 := List.find?_some hq
              have g2 := List.mem_of_find?_eq_some hq
              simp only [beq_iff_eq] at g1
              exact Or.inr ⟨a, r, o9, E, w1, q, hdr, ha, e9.1, e9.2, hF, g2, g1, hk⟩
            · cases hk
          · cases hk
        · cases hk
      · cases hk
    · cases hk
  refine ⟨fun st lv w o w' hk => ?_, ?_⟩
  · rcases key st lv w o w' hk with hk | ⟨a, r, o9, E, w1, q, -, -, -, -, hF, hq, -, hk⟩
    · exact hcv.1 _ _ _ _ _ hk
    · obtain ⟨pre, x, suf, name, -, -, -, -, -, -, hsnd, -⟩ := hhs q hq
      obtain ⟨a1, a2⟩ := hM.1 _ _ _ _ _ hF
      obtain ⟨b1, b2⟩ := hsnd.1 _ _ _ _ _ hk
      exact ⟨Nat.le_trans a1 b1, Nat.le_trans a2 b2⟩
  · intro p l e R s m args below meth c D b0 w0 C H locs ls st lv w o w' hH hS hl z1 z2 hk r1 r2
    rcases key st lv w o w' hk with hk | ⟨a, r, o9, E, w1, q, hdr, ha, e9, hrl, hF, hq, hqE, hk⟩
    · exact hcv.2 p l e R s m args below meth c D b0 w0 C H locs ls st lv w o w' hH hS hl z1 z2 hk r1 r2
    · obtain ⟨pre, x, suf, name, hsplit, hpass, hcov, h0c, hlk9, hcast, hsnd, hany⟩ := hhs q hq
      have C' := id C
      obtain ⟨hx, hb, hml, ho, ht, hK, hlk, hE, hst, hbs, hsz, hfr, hlo, hret, hnm, hex⟩ := C'
      obtain ⟨hst9, hlen⟩ := td hdr
      obtain ⟨mo1, mo2⟩ := hM.1 _ _ _ _ _ hF
      obtain ⟨mp1, mp2⟩ := hsnd.1 _ _ _ _ _ hk
      have hMm := hM.2 l D b0 g _ w _ w1 hst (by rw [← hH.1]; exact Nat.le_trans hbs hS.1) hF
      have h6 := cat_sum r
      have hrun := vx_runV (p := p) (e := e) (R := R) (s := s) (m := m) (args := args) (below := below) (meth := meth) (c := c) (H := H) (locs := locs) (cells := w.2.1 - w0.2.1) (slots := w.2.2 - w0.2.2) (g := F0 m pc ls st) (C := y.cls) (b := a) (As := (st.take n).reverse) (rest := r) ⟨hx, hb, hml, ho, ht⟩ hMm (cwV n ht (gt_V h1 h2 h3 h4 h5) rfl rfl rfl ⟨rfl, hR.1⟩ (by rw [hfr, hlo]; exact hR.2)) ⟨wd_blind, by rw [hC]; exact hH.recv hK ha e9 hc, wd_pre hH hK hE hS⟩ rfl hlen hl.1 hst9 (by show 2 * 0 + _ ≤ _; omega) hd ⟨by omega, by omega⟩
      intro T hT X
      rcases hrun T hT X with ⟨v9, st₀, t, T', L, h0, X', hL, e1, e2, ⟨⟨v8, hv8, hv⟩, -⟩, st9⟩ | ⟨z, st₀, t, T', L, E9, ce, h0, X', hL, e1, e2, ⟨hE9, hp1, hz, hk9⟩, hce, hcv9, hcl, st9⟩
      · cases hv8
      · cases hE9
        rw [h0] at hz hk9
        have hS' : va_S (fun q : Nat => b0 ≤ q) s.heap T'.heap (locs ++ L) := ⟨Nat.le_trans hS.1 (by rw [e1]; exact hz), fun q h1 h2 => by rw [e1, hk9 q (Nat.lt_of_lt_of_le h1 hS.1) h2]; exact hS.2.1 q h1 h2, fun q hq => by
          rcases List.mem_append.mp hq with h | h
          · exact hS.2.2 q h
          · exact hL q h⟩
        have hgo := hsnd.2 p l e R s m args below meth c D b0 w0 C T'.heap (locs ++ L) ls [.ref z] lv w1 o w' (by rw [e1]; exact hp1) hS' hl (by omega) (by omega) (by rw [hany]; exact hk) r1 r2
        have hgo := W.cs (cells := w.2.1 - w0.2.1 + (w1.2.1 - w.2.1)) (slots := w.2.2 - w0.2.2 + (w1.2.2 - w.2.2)) (by omega) (by omega) hgo
        obtain ⟨t2, a1, b1⟩ := vx_catch (pc := pc) (rest := r) (E := E) ho pre x suf (hex.trans hsplit) (fun z9 hz9 => by
          obtain ⟨n0, nm, q1, q2⟩ := hpass z9 hz9
          refine Or.inr ⟨n0, nm, ht _ q1, ?_⟩
          have := hE.2.2.2.2.2.2.2.2.2.2.2 _ q2
          rw [hqE] at this
          exact this) hcov h0c (ht _ hlk9) (by have := va_Nw.use (A := args) rfl (hE.ow hcast); rw [hqE] at this; exact this) (by rw [e1]; exact hce) hcv9 hcl hgo T' rfl X'
        exact ⟨t2, st9.trans a1, b1⟩
/-! the script -/
def i_sla (g : GE) (k : KT) : KT := fun st lv w => match st with
  | .ref a :: r => if a = g.2.2.2.2.2.1 then k (.int (Int32.ofNat g.2.2.2.2.2.2.1) :: r) lv w else none
  | _ => none
theorem s_sla {d : MD} {g : GE} {pc : Nat} {k : KT} (h : Snd d g (pc + 1) k) (hd : decode d.1 pc = .ok (.arraylength, 1)) : Snd d g pc (i_sla g k) := h.mem fun st lv w o w' hk => by
  simp only [i_sla] at hk
  split at hk
  · split at hk
    · next e9 =>
      subst e9
      refine ⟨_, _, w, hk, Nat.le_refl _, Nat.le_refl _, fun p l e R s m args below meth c D b0 w0 H locs ls Q C hH hS hl rc rs z1 z2 kk => by
      obtain ⟨hx, hb, hml, ho, ht, hK, hlk, hE, hst, hbs, hsz, hfr, hlo, hret, hnm, hex⟩ := C
      obtain ⟨hX, hlt, -⟩ := hE.2.2.2.2.2.2.2.2.2.2.1
      exact va_slen hx hb hX (Nat.lt_of_lt_of_le hlt hbs) (Nat.not_le.mpr hlt) hS hd (kk _ _ _ hH hS hl)⟩
    · cases hk
  · cases hk
def i_sli (g : GE) (k : KT) : KT := fun st lv w => match st with
  | .int i :: .ref a :: r => if a = g.2.2.2.2.2.1 then (match ix i g.2.2.2.2.2.2.1 with
    | some j => k (.int (g.2.2.2.2.2.2.2 j) :: r) lv w
    | none => none) else none
  | _ => none
theorem s_sli {d : MD} {g : GE} {pc : Nat} {k : KT} (h : Snd d g (pc + 1) k) (hd : decode d.1 pc = .ok (.iaload, 1)) : Snd d g pc (i_sli g k) := h.mem fun st lv w o w' hk => by
  simp only [i_sli] at hk
  split at hk
  · split at hk
    · next e9 =>
      subst e9
      split at hk
      · next j hj =>
        obtain ⟨h3, rfl⟩ := ix_some hj
        refine ⟨_, _, w, hk, Nat.le_refl _, Nat.le_refl _, fun p l e R s m args below meth c D b0 w0 H locs ls Q C hH hS hl rc rs z1 z2 kk => by
        obtain ⟨hx, hb, hml, ho, ht, hK, hlk, hE, hst, hbs, hsz, hfr, hlo, hret, hnm, hex⟩ := C
        obtain ⟨hX, hlt, -⟩ := hE.2.2.2.2.2.2.2.2.2.2.1
        exact va_sld hx hb hX (Nat.lt_of_lt_of_le hlt hbs) (Nat.not_le.mpr hlt) hS h3 hd (kk _ _ _ hH hS hl)⟩
      · cases hk
    · cases hk
  · cases hk

