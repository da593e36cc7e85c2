/-! ===== methods and calls ===== -/
abbrev FT : Type := GE → List Value → Mem → Option (Rs × Mem)
def MonoF (F : FT) : Prop := ∀ g av w o w', F g av w = some (o, w') → w.2.1 ≤ w'.2.1 ∧ w.2.2 ≤ w'.2.2
/-- the method y of this code does what F says -/
def Mt (y : MethodName) (b : ByteArray) (nL : Nat) (ret : Option FieldType) (fr lo : Nat) (F : FT) : Prop :=
  MonoF F ∧ ∀ (l : Launch) (D : DD) (b0 : Nat) (g : GE) (av : List Value) (w : Mem) (o : Rs) (w' : Mem), l.stackTraces = false → b0 ≤ w.2.1 → F g av w = some (o, w') →
    vx_Met l y (.code y b nL ret :: gt) { frames := fr, cells := w'.2.1 - w.2.1, slots := w'.2.2 - w.2.2, locals := lo } (va_Pc av (WD D b0 g w)) (QR D b0 o w') (XR D b0 o w') (w'.2.1 - w.2.1) (w'.2.2 - w.2.2) (fun q : Nat => b0 ≤ q)
/-- the locals at a method's entry -/
def ent : List Value → Lv
  | [] => []
  | v :: r => if v.category = 2 then some v :: none :: ent r else some v :: ent r
def entp (nL : Nat) (av : List Value) : Lv := ent av ++ List.replicate (nL - (ent av).length) none
theorem ent_at : ∀ (av : List Value) (n i : Nat) (v : Value), (ent av)[i]? = some (some v) → (n + i, v) ∈ lv_args n av
  | [], n, i, v, h => by simp [ent] at h
  | u :: r, n, i, v, h => by
    unfold ent at h
    by_cases hc : u.category = 2
    · rw [if_pos hc] at h
      rw [lv_args, if_pos hc]
      match i, h with
      | 0, h =>
        simp at h
        subst h
        exact List.mem_cons_self
      | 1, h => simp at h
      | i + 2, h =>
        have h' : (ent r)[i]? = some (some v) := by simpa using h
        have := ent_at r (n + 2) i v h'
        rw [show n + (i + 2) = n + 2 + i by omega]
        exact List.mem_cons_of_mem _ this
    · rw [if_neg hc] at h
      rw [lv_args, if_neg hc]
      match i, h with
      | 0, h =>
        simp at h
        subst h
        exact List.mem_cons_self
      | i + 1, h =>
        have h' : (ent r)[i]? = some (some v) := by simpa using h
        have := ent_at r (n + 1) i v h'
        rw [show n + (i + 1) = n + 1 + i by omega]
        exact List.mem_cons_of_mem _ this
theorem ent_len : ∀ av : List Value, (lg_sl av).length = (ent av).length
  | [] => rfl
  | v :: r => by
    have := ent_len r
    unfold lg_sl at this ⊢
    rw [List.flatMap_cons, ent]
    by_cases hc : v.category = 2
    · rw [if_pos hc, if_pos hc]; simp [this]
    · rw [if_neg hc, if_neg hc]; simp [this]
theorem entp_LV {nL : Nat} {av : List Value} (h : (ent av).length ≤ nL) : LV ((lg_sl av ++ List.replicate (nL - (lg_sl av).length) Slot.unset).toArray) nL (entp nL av) := by
  refine LV.of (lv_entry av (by rw [ent_len]; exact h)) fun i v hi => ?_
  have h2 : (ent av)[i]? = some (some v) := by
    unfold entp at hi
    by_cases hl : i < (ent av).length
    · rw [List.getElem?_append_left hl] at hi
      exact hi
    · rw [List.getElem?_append_right (by omega)] at hi
      rw [List.getElem?_replicate] at hi
      split at hi <;> simp at hi
  have := ent_at av 0 i v h2
  simpa using this
theorem Mt.of {y : MethodName} {b : ByteArray} {nL fr lo : Nat} {ret : Option FieldType} {F : FT} {K : GE → KT} (hy : plainName y.cls = true) (hF : ∀ g av w, F g av w = if (ent av).length ≤ nL then K g [] (entp nL av) w else none)
    (hs : ∀ g, Snd (b, y.cls, nL, fr, lo, ret, y.name, []) g 0 (K g)) : Mt y b nL ret fr lo F := by
  refine ⟨fun g av w o w' h => ?_, ?_⟩
  · rw [hF] at h
    split at h
    · exact (hs g).1 _ _ _ _ _ h
    · cases h
  · intro l D b0 g av w o w' hst hb0 hF9
    rw [hF] at hF9
    split at hF9
    · next hlen =>
      refine vx_ofW (cc := b) (maxL := nL) (ret := ret) hy rfl ?_
      intro p e s m args below meth c s₁ B hml hnox hv
      obtain ⟨rfl, hH, hK, hE⟩ := hv
      have hts := atoms_spec (ws := Cond.code y b nL ret :: gt) B.pre
      have hown : s.vm.findClass y.cls = some m.cls := findClass_of_methodNamed B.named
      have hnm : meth.name = y.name := (name_of_methodNamed B.named B.method).1
      rw [lg_entry_eq]
      have hsz : s.heap.size = w.2.1 := hH.1
      have := (hs g).2 p l e (headSpec (Cond.code y b nL ret :: gt) { frames := fr, cells := w'.2.1 - w.2.1, slots := w'.2.2 - w.2.2, locals := lo }).room s m av.toArray below meth c D b0 w ⟨B.exec, B.bytes, hml, hown, fun w9 h9 => hts w9 (List.mem_cons_of_mem _ h9), hK, B.notSynchronized, hE, hst, by rw [hsz]; exact hb0, hsz, rfl, rfl, B.returns, hnm, List.eq_nil_iff_forall_not_mem.mpr hnox⟩
        s.heap [] _ [] (entp nL av) w o w' hH va_S.rf (entp_LV hlen) (Nat.le_refl _) (Nat.le_refl _) hF9 (Nat.le_refl _) (Nat.le_refl _)
      rw [Nat.sub_self, Nat.sub_self] at this
      exact this
    · cases hF9
theorem met_of {l : Launch} {y : MethodName} {ws : List Cond} {rm : Room} {Pc : Array Value → State → Prop} {D : DD} {b0 mc ms : Nat} {v : Option Value} {w' : Mem} {free : Addr → Prop} (h : vx_Met l y ws rm Pc (QR D b0 (.inl v) w') (XR D b0 (.inl v) w') mc ms free) : Met l y ws rm Pc (QR D b0 (.inl v) w') mc ms free := by
  refine MetFree.mono h (fun _ _ h => h) (fun _ _ _ _ _ h => h) fun a s o s' hp hq => ?_
  rcases hq with hq | ⟨q, rfl, E, ce, L, hx, -⟩
  · exact hq
  · obtain ⟨h1, -⟩ := hx
    cases h1
theorem wd_blind {D : DD} {b0 : Nat} {g : GE} {w : Mem} {av : List Value} : FrameBlind (va_Pc av (WD D b0 g w)) := by
  intro a U f mk h
  obtain ⟨h1, h2, h3, h4⟩ := h
  exact ⟨h1, h2, va_K.moved (u := U) (U := U.calling f mk a) (Vm.Alike.refl U.vm) h3, SE.same h4 rfl rfl⟩
theorem wd_pre {D : DD} {b0 : Nat} {g : GE} {w : Mem} {s : State} {H : Heap} {locs : List Loc} {av : List Value} (hH : hp D b0 w H) (hK : KK D s) (hE : SE b0 g s s.heap) (hS : va_S (fun q : Nat => b0 ≤ q) s.heap H locs) : ∀ U : State, U.heap = H → s.WarmedH U.vm → va_Pc av (WD D b0 g w) av.toArray U :=
  fun U hU hW => ⟨rfl, by rw [hU]; exact hH, va_K.moved hW.alike hK, SE.go hE hS hU hW⟩
theorem hp.recv {D : DD} {b0 ci : Nat} {w : Mem} {s : State} {H : Heap} {a : Nat} {o9 : Nat × List Value} {q9 : vw_C} (hH : hp D b0 w H) (hK : KK D s) (ha : w.1 a = some (.inr o9)) (e9 : o9.1 = ci) (hc : vwCl[ci]? = some q9) : ∃ cell : Cell, H[a]? = some cell ∧ cell.vm.isStatics = false ∧ s.vm.findClass q9.1 = some cell.cls := by
  obtain ⟨c9, fs⟩ := o9
  subst e9
  exact va_recv (D := (D.1, D.2.1)) hK (hH.P ha) (ci := c9) (q0 := 0) hc rfl
/-- behind a call that has returned -/
theorem run_go {p : Program} {l : Launch} {e : Env} {R : Room} {s : State} {m : MethodId} {args : Array Value} {below : List Frame} {meth : Method} {c : Code} {H : Heap} {locs : List Loc} {cells slots mc ms cells' slots' pc : Nat} {Q : State → Prop} {D : DD} {b0 : Nat} {v : Option Value} {w1 : Mem} {a : Array Value} {ls : Array Slot} {st0 rest : List Value}
    (hr : va_Run p l e R s m args below meth c H locs cells slots mc ms (F0 m pc ls st0) rest (QR D b0 (.inl v) w1 a) (fun q : Nat => b0 ≤ q)) (hS : va_S (fun q : Nat => b0 ≤ q) s.heap H locs) (hc : cells + mc = cells') (hs : slots + ms = slots')
    (kk : ∀ (H1 : Heap) (locs1 : List Loc), hp D b0 w1 H1 → va_S (fun q : Nat => b0 ≤ q) s.heap H1 locs1 → W p l e R s m args below meth c H1 locs1 cells' slots' Q (F0 m (pc + 3) ls (v.toList ++ rest))) : W p l e R s m args below meth c H locs cells slots Q (F0 m pc ls st0) := by
  subst hc; subst hs
  intro T hT X
  obtain ⟨v9, st₀, t, T', L, h0, X', hL, e1, e2, ⟨⟨v8, hv8, hv⟩, hp1, hz, hk⟩, st⟩ := hr T hT X
  cases hv8
  cases hv
  rw [h0] at hz hk
  obtain ⟨t2, a1, b1⟩ := kk T'.heap (locs ++ L) (by rw [e1]; exact hp1) ⟨Nat.le_trans hS.1 (by rw [e1]; exact hz), fun q h1 h2 => by rw [e1, hk q (Nat.lt_of_lt_of_le h1 hS.1) h2]; exact hS.2.1 q h1 h2, fun q hq => by
      rcases List.mem_append.mp hq with h | h
      · exact hS.2.2 q h
      · exact hL q h⟩ T' rfl X'
  exact ⟨t2, st t2 a1, b1⟩
theorem gt_good {w : Cond} (h : w ∈ gt) : (w.onTables && w.keeps) = true ∨ ∃ ty, w = .arrayClass ty := good_of_word (List.mem_filter.mp h).2
theorem gt_ws {y : MethodName} {b : ByteArray} {nL : Nat} {ret : Option FieldType} (h : Cond.code y b nL ret ∈ gt) : GoodIn gt (.code y b nL ret :: gt) := fun w hw => by
  rcases List.mem_cons.mp hw with rfl | hw
  · exact ⟨h, gt_good h⟩
  · exact ⟨hw, gt_good hw⟩
theorem gt_V {own C : String} {idx : Nat} {y : MethodName} {b : ByteArray} {nL : Nat} {ret : Option FieldType} (h1 : Cond.methodLink own idx y ∈ gt) (h2 : Cond.instanceMethod y ∈ gt) (h3 : Cond.selects C y y ∈ gt) (h4 : Cond.initialized C ∈ gt) (h5 : Cond.code y b nL ret ∈ gt) : GoodIn gt (wsV own idx C y (.code y b nL ret :: gt)) := fun w hw => by
  unfold wsV at hw
  rcases List.mem_append.mp hw with hw | hw
  · simp only [List.mem_cons, List.not_mem_nil, or_false] at hw
    rcases hw with rfl | rfl | rfl | rfl
    · exact ⟨h1, gt_good h1⟩
    · exact ⟨h2, gt_good h2⟩
    · exact ⟨h3, gt_good h3⟩
    · exact ⟨h4, gt_good h4⟩
  · exact gt_ws h5 w hw
theorem gt_S {own : String} {idx : Nat} {y : MethodName} {b : ByteArray} {nL : Nat} {ret : Option FieldType} (h1 : Cond.methodLink own idx y ∈ gt) (h2 : Cond.static y ∈ gt) (h4 : Cond.initialized y.cls ∈ gt) (h5 : Cond.code y b nL ret ∈ gt) : GoodIn gt (va_wsS own idx y (.code y b nL ret :: gt)) := fun w hw => by
  unfold va_wsS at hw
  rcases List.mem_append.mp hw with hw | hw
  · simp only [List.mem_cons, List.not_mem_nil, or_false] at hw
    rcases hw with rfl | rfl | rfl
    · exact ⟨h1, gt_good h1⟩
    · exact ⟨h2, gt_good h2⟩
    · exact ⟨h4, gt_good h4⟩
  · exact gt_ws h5 w hw
/-- what a call needs of the room and the name -/
def CR (d : MD) (y : MethodName) (nL fr lo n : Nat) : Prop := (y.cls ≠ "java/lang/invoke/MethodHandle" ∧ y.cls ≠ "java/lang/invoke/VarHandle" ∧ (parseMethodDescriptor y.desc).map (fun d => d.parameters.length) = some n) ∧ fr + 1 ≤ d.2.2.2.1 ∧ 8 + (nL + 11) + lo ≤ d.2.2.2.2.1
/-! a call of an object's method -/
def i_cv (F : FT) (g : GE) (n ci : Nat) (k : KT) : KT := fun st lv w => match st.drop n with
  | .ref a :: r => (match w.1 a with
    | some (.inr o) => if o.1 = ci ∧ r.length ≤ 4 then (match F g (.ref a :: (st.take n).reverse) w with
      | some (.inl v, w1) => k (v.toList ++ r) lv w1
      | _ => none) else none
    | _ => none)
  | _ => none
theorem td {st : List Value} {n : Nat} {x : Value} {r : List Value} (h : st.drop n = x :: r) : st = (st.take n).reverse.reverse ++ x :: r ∧ (st.take n).reverse.length = n := by
  have h1 : n < st.length := by
    rcases Nat.lt_or_ge n st.length with q | q
    · exact q
    · rw [List.drop_eq_nil_of_le q] at h; cases h
  refine ⟨by rw [List.reverse_reverse, ← h, List.take_append_drop], by simp; omega⟩
theorem s_cv {d : MD} {g : GE} {pc : Nat} {k : KT} {F : FT} {y : MethodName} {b : ByteArray} {nL fr lo n ci idx : Nat} {ret : Option FieldType} {q9 : vw_C} (h : Snd d g (pc + 3) k) (hM : Mt y b nL ret fr lo F) (hc : vwCl[ci]? = some q9) (hC : y.cls = q9.1) (h1 : Cond.methodLink d.2.1 idx y ∈ gt) (h2 : Cond.instanceMethod y ∈ gt) (h3 : Cond.selects y.cls y y ∈ gt) (h4 : Cond.initialized y.cls ∈ gt) (h5 : Cond.code y b nL ret ∈ gt) (hR : CR d y nL fr lo n) (hd : decode d.1 pc = .ok (.invokevirtual idx, 3)) : Snd d g pc (i_cv F g n ci k) := h.mem fun st lv w o w' hk => by
  simp only [i_cv] at hk
  split at hk
  · next a r hdr =>
    split at hk
    · next o9 ha =>
      split at hk
      · next e9 =>
        split at hk
        · next v w1 hF =>
          obtain ⟨hst9, hlen⟩ := td hdr
          obtain ⟨mo1, mo2⟩ := hM.1 _ _ _ _ _ hF
          refine ⟨_, _, w1, hk, mo1, mo2, fun p l e R s m args below meth c D b0 w0 H locs ls Q C hH hS hl rc rs z1 z2 kk => by
          obtain ⟨hx, hb, hml, ho, ht, hK, hlk, hE, hst, hbs, hsz, hfr, hlo, hret, hnm, hex⟩ := C
          have hMm := met_of (hM.2 l D b0 g _ w _ w1 hst (by rw [← hH.1]; exact Nat.le_trans hbs hS.1) hF)
          have h6 := cat_sum r
          refine run_go (mc := w1.2.1 - w.2.1) (ms := w1.2.2 - w.2.2) (rest := r) (va_runV (C := y.cls) (b := a) (As := (st.take n).reverse) (rest := r) ⟨hx, hb, hml, ho, ht⟩ hMm (cwV n ht (gt_V h1 h2 h3 h4 h5) rfl rfl rfl ⟨rfl, hR.1⟩ (by rw [hfr, hlo]; exact hR.2)) ⟨wd_blind, ?_, wd_pre hH hK hE hS⟩ rfl hlen hl.1 hst9 ?_ hd ⟨by omega, by omega⟩) hS (by omega) (by omega) (fun H1 locs1 hH1 hS1 => kk H1 locs1 ls hH1 hS1 hl)
          · rw [hC]
            exact hH.recv hK ha e9.1 hc
          · show 2 * 0 + _ ≤ _
            omega⟩
        · cases hk
      · cases hk
    · cases hk
  · cases hk
/-- a call of a verb's method -/
def i_cvE (F : FT) (g : GE) (n : Nat) (k : KT) : KT := fun st lv w => match st.drop n with
  | .ref a :: r => (match (List.range 7).find? (fun i => g.2.1 i == a) with
    | some _ => if r.length ≤ 4 then (match F g (.ref a :: (st.take n).reverse) w with
      | some (.inl v, w1) => k (v.toList ++ r) lv w1
      | _ => none) else none
    | _ => none)
  | _ => none
theorem s_cvE {d : MD} {g : GE} {pc : Nat} {k : KT} {F : FT} {y : MethodName} {b : ByteArray} {nL fr lo n idx : Nat} {ret : Option FieldType} (h : Snd d g (pc + 3) k) (hM : Mt y b nL ret fr lo F) (hC : y.cls = "BlottedDeed$Verb") (h1 : Cond.methodLink d.2.1 idx y ∈ gt) (h2 : Cond.instanceMethod y ∈ gt) (h3 : Cond.selects y.cls y y ∈ gt) (h4 : Cond.initialized y.cls ∈ gt) (h5 : Cond.code y b nL ret ∈ gt) (hR : CR d y nL fr lo n) (hd : decode d.1 pc = .ok (.invokevirtual idx, 3)) : Snd d g pc (i_cvE F g n k) := h.mem fun st lv w o w' hk => by
  simp only [i_cvE] at hk
  split at hk
  · next a r hdr =>
    split at hk
    · next i hi =>
      split at hk
      · next e9 =>
        split at hk
        · next v w1 hF =>
          obtain ⟨hst9, hlen⟩ := td hdr
          obtain ⟨mo1, mo2⟩ := hM.1 _ _ _ _ _ hF
          have g1 := List.find?_some hi
          have g2 := List.mem_range.mp (List.mem_of_find?_eq_some hi)
          simp only [beq_iff_eq] at g1
          subst g1
          refine ⟨_, _, w1, hk, mo1, mo2, fun p l e R s m args below meth c D b0 w0 H locs ls Q C hH hS hl rc rs z1 z2 kk => by
          obtain ⟨hx, hb, hml, ho, ht, hK, hlk, hE, hst, hbs, hsz, hfr, hlo, hret, hnm, hex⟩ := C
          have hMm := met_of (hM.2 l D b0 g _ w _ w1 hst (by rw [← hH.1]; exact Nat.le_trans hbs hS.1) hF)
          have h6 := cat_sum r
          refine run_go (mc := w1.2.1 - w.2.1) (ms := w1.2.2 - w.2.2) (rest := r) (va_runV (C := y.cls) (b := g.2.1 i) (As := (st.take n).reverse) (rest := r) ⟨hx, hb, hml, ho, ht⟩ hMm (cwV n ht (gt_V h1 h2 h3 h4 h5) rfl rfl rfl ⟨rfl, hR.1⟩ (by rw [hfr, hlo]; exact hR.2)) ⟨wd_blind, ?_, wd_pre hH hK hE hS⟩ rfl hlen hl.1 hst9 ?_ hd ⟨by omega, by omega⟩) hS (by omega) (by omega) (fun H1 locs1 hH1 hS1 => kk H1 locs1 ls hH1 hS1 hl)
          · rw [hC]
            obtain ⟨cell, q1, q2, q3, -⟩ := (hE.2.1 i g2).1.kept hS.2.1
            exact ⟨cell, q1, q2, q3⟩
          · show 2 * 0 + _ ≤ _
            omega⟩
        · cases hk
      · cases hk
    · cases hk
  · cases hk
/-! a call of a static method -/
def i_cs (F : FT) (g : GE) (n : Nat) (k : KT) : KT := fun st lv w => if n ≤ st.length ∧ (st.drop n).length ≤ 4 then (match F g (st.take n).reverse w with
    | some (.inl v, w1) => k (v.toList ++ st.drop n) lv w1
    | _ => none) else none
theorem s_cs {d : MD} {g : GE} {pc : Nat} {k : KT} {F : FT} {y : MethodName} {b : ByteArray} {nL fr lo n idx : Nat} {ret : Option FieldType} (h : Snd d g (pc + 3) k) (hM : Mt y b nL ret fr lo F) (h1 : Cond.methodLink d.2.1 idx y ∈ gt) (h2 : Cond.static y ∈ gt) (h4 : Cond.initialized y.cls ∈ gt) (h5 : Cond.code y b nL ret ∈ gt) (hR : CR d y nL fr lo n) (hd : decode d.1 pc = .ok (.invokestatic idx, 3)) : Snd d g pc (i_cs F g n k) := h.mem fun st lv w o w' hk => by
  simp only [i_cs] at hk
  split at hk
  · next e9 =>
    split at hk
    · next v w1 hF =>
      obtain ⟨mo1, mo2⟩ := hM.1 _ _ _ _ _ hF
      refine ⟨_, _, w1, hk, mo1, mo2, fun p l e R s m args below meth c D b0 w0 H locs ls Q C hH hS hl rc rs z1 z2 kk => by
      obtain ⟨hx, hb, hml, ho, ht, hK, hlk, hE, hst, hbs, hsz, hfr, hlo, hret, hnm, hex⟩ := C
      have hMm := met_of (hM.2 l D b0 g _ w _ w1 hst (by rw [← hH.1]; exact Nat.le_trans hbs hS.1) hF)
      have h6 := cat_sum (st.drop n)
      refine run_go (mc := w1.2.1 - w.2.1) (ms := w1.2.2 - w.2.2) (rest := st.drop n) (va_runS (As := (st.take n).reverse) (rest := st.drop n) ⟨hx, hb, hml, ho, ht⟩ hMm (va_cwS n ht (gt_S h1 h2 h4 h5) rfl rfl rfl hR.1 (by rw [hfr, hlo]; exact hR.2)) ⟨wd_blind, wd_pre hH hK hE hS⟩ rfl (by simp; omega) hl.1 (by rw [List.reverse_reverse, List.take_append_drop]) ?_ hd ⟨by omega, by omega⟩) hS (by omega) (by omega) (fun H1 locs1 hH1 hS1 => kk H1 locs1 ls hH1 hS1 hl)
      show 2 * 0 + _ ≤ _
      omega⟩
    · cases hk
  · cases hk
/-! a call of a constructor -/
def i_ci (F : FT) (g : GE) (n : Nat) (k : KT) : KT := fun st lv w => match st.drop n with
  | .ref a :: r => if r.length ≤ 4 then (match F g (.ref a :: (st.take n).reverse) w with
      | some (.inl none, w1) => k r lv w1
      | _ => none) else none
  | _ => none
theorem s_ci {d : MD} {g : GE} {pc : Nat} {k : KT} {F : FT} {y : MethodName} {b : ByteArray} {nL fr lo n idx : Nat} (h : Snd d g (pc + 3) k) (hM : Mt y b nL none fr lo F) (hy1 : y.name = "<init>") (h1 : Cond.methodLink d.2.1 idx y ∈ gt) (h2 : Cond.instanceMethod y ∈ gt) (h4 : Cond.initialized y.cls ∈ gt) (h5 : Cond.code y b nL none ∈ gt) (hR : CR d y nL fr lo n) (hd : decode d.1 pc = .ok (.invokespecial idx, 3)) : Snd d g pc (i_ci F g n k) := h.mem fun st lv w o w' hk => by
  simp only [i_ci] at hk
  split at hk
  · next a r hdr =>
    split at hk
    · next e9 =>
      split at hk
      · next w1 hF =>
        obtain ⟨hst9, hlen⟩ := td hdr
        obtain ⟨mo1, mo2⟩ := hM.1 _ _ _ _ _ hF
        refine ⟨_, _, w1, hk, mo1, mo2, fun p l e R s m args below meth c D b0 w0 H locs ls Q C hH hS hl rc rs z1 z2 kk => by
        obtain ⟨hx, hb, hml, ho, ht, hK, hlk, hE, hst, hbs, hsz, hfr, hlo, hret, hnm, hex⟩ := C
        have hMm := met_of (hM.2 l D b0 g _ w _ w1 hst (by rw [← hH.1]; exact Nat.le_trans hbs hS.1) hF)
        have h6 := cat_sum r
        refine run_go (mc := w1.2.1 - w.2.1) (ms := w1.2.2 - w.2.2) (rest := r) (va_runI (b := a) (As := (st.take n).reverse) (rest := r) ⟨hx, hb, hml, ho, ht⟩ hMm (cwI n ht (gt_ws h5) rfl rfl rfl (ht _ h4) (ht _ h1) (ht _ h2) hy1 hR.1 (by rw [hfr, hlo]; exact hR.2)) ⟨wd_blind, wd_pre hH hK hE hS⟩ rfl hlen hl.1 hst9 ?_ hd ⟨by omega, by omega⟩) hS (by omega) (by omega) (fun H1 locs1 hH1 hS1 => kk H1 locs1 ls hH1 hS1 hl)
        show 2 * 0 + _ ≤ _
        omega⟩
      · cases hk
    · cases hk
  · cases hk
theorem s_ciN {d : MD} {g : GE} {pc : Nat} {k : KT} {F : FT} {y : MethodName} {b : ByteArray} {nL fr lo n idx : Nat} {host : String} (h : Snd d g (pc + 3) k) (hM : Mt y b nL none fr lo F) (hy1 : y.name = "<init>") (h1 : Cond.methodLinkNest d.2.1 idx y host ∈ owl) (h2 : Cond.instanceMethod y ∈ gt) (h4 : Cond.initialized y.cls ∈ gt) (h5 : Cond.code y b nL none ∈ gt) (hR : CR d y nL fr lo n) (hd : decode d.1 pc = .ok (.invokespecial idx, 3)) : Snd d g pc (i_ci F g n k) := h.mem fun st lv w o w' hk => by
  simp only [i_ci] at hk
  split at hk
  · next a r hdr =>
    split at hk
    · next e9 =>
      split at hk
      · next w1 hF =>
        obtain ⟨hst9, hlen⟩ := td hdr
        obtain ⟨mo1, mo2⟩ := hM.1 _ _ _ _ _ hF
        refine ⟨_, _, w1, hk, mo1, mo2, fun p l e R s m args below meth c D b0 w0 H locs ls Q C hH hS hl rc rs z1 z2 kk => by
        obtain ⟨hx, hb, hml, ho, ht, hK, hlk, hE, hst, hbs, hsz, hfr, hlo, hret, hnm, hex⟩ := C
        have hMm := met_of (hM.2 l D b0 g _ w _ w1 hst (by rw [← hH.1]; exact Nat.le_trans hbs hS.1) hF)
        have h6 := cat_sum r
        have hN : (Cond.methodLinkNest d.2.1 idx y host).before args s = true := va_Nw.use rfl (hE.ow h1)
        have hCN : va_CN R s args d.2.1 idx y host b nL none (.code y b nL none :: gt) { frames := fr, cells := w1.2.1 - w.2.1, slots := w1.2.2 - w.2.2, locals := lo } (w1.2.1 - w.2.1) (w1.2.2 - w.2.2) n :=
          ⟨⟨rfl, rfl, by rw [hfr]; exact hR.2.1, by rw [hlo]; exact hR.2.2, pay_in ht (gt_ws h5), List.mem_cons_self⟩, ht _ h5, ht _ h4, ⟨hR.1.1, hR.1.2.1⟩, fun sig h => (by have h2 := hR.1.2.2; rw [h] at h2; exact (Option.some.inj h2).symm), hN⟩
        refine run_go (mc := w1.2.1 - w.2.1) (ms := w1.2.2 - w.2.2) (rest := r) (va_runIN (b := a) (As := (st.take n).reverse) (rest := r) ⟨hx, hb, hml, ho, ht⟩ hMm ⟨hCN, hy1, ht _ h2⟩ ⟨wd_blind, wd_pre hH hK hE hS⟩ rfl hlen hl.1 hst9 ?_ hd ⟨by omega, by omega⟩) hS (by omega) (by omega) (fun H1 locs1 hH1 hS1 => kk H1 locs1 ls hH1 hS1 hl)
        show 2 * 0 + _ ≤ _
        omega⟩
      · cases hk
    · cases hk
  · cases hk
/-! a call that may throw -/
def i_cvX (F : FT) (g : GE) (n ci : Nat) (k : KT) : KT := fun st lv w => match st.drop n with
  | .ref a :: r => (match w.1 a with
    | some (.inr o) => if o.1 = ci ∧ r.length ≤ 4 then (match F g (.ref a :: (st.take n).reverse) w with
      | some (.inl v, w1) => k (v.toList ++ r) lv w1
      | some (.inr E, w1) => some (.inr E, w1)
      | none => none) else none
    | _ => none)
  | _ => none
theorem s_cvX {d : MD} {g : GE} {pc : Nat} {k : KT} {F : FT} {y : MethodName} {b : ByteArray} {nL fr lo n ci idx : Nat} {ret : Option FieldType} {q9 : vw_C} (h : Snd d g (pc + 3) k) (hM : Mt y b nL ret fr lo F) (hc : vwCl[ci]? = some q9) (hC : y.cls = q9.1) (h1 : Cond.methodLink d.2.1 idx y ∈ gt) (h2 : Cond.instanceMethod y ∈ gt) (h3 : Cond.selects y.cls y y ∈ gt) (h4 : Cond.initialized y.cls ∈ gt) (h5 : Cond.code y b nL ret ∈ gt) (hR : CR d y nL fr lo n) (hh0 : d.2.2.2.2.2.2.2 = []) (hd : decode d.1 pc = .ok (.invokevirtual idx, 3)) : Snd d g pc (i_cvX F g n ci k) := by
  have hcv := s_cv (n := n) (ci := ci) h hM hc hC h1 h2 h3 h4 h5 hR hd
  have key : ∀ st lv w o w', i_cvX F g n ci k st lv w = some (o, w') → i_cv F g n ci k st lv w = some (o, w') ∨ ∃ (a : Nat) (r : List Value) (o9 : Nat × List Value) (E : String), st.drop n = .ref a :: r ∧ w.1 a = some (.inr o9) ∧ o9.1 = ci ∧ r.length ≤ 4 ∧ F g (.ref a :: (st.take n).reverse) w = some (.inr E, w') ∧ o = .inr E := by
    intro st lv w o w' hk
    simp only [i_cvX] at hk
    split at hk
    · next a r hdr =>
      split at hk
      · next o9 ha =>
        split at hk
        · next e9 =>
          split at hk
          · next v w1 hF =>
            left
            simp only [i_cv, hdr, ha, e9, hF]
            simpa using hk
          · next E w1 hF =>
            cases hk
            exact Or.inr ⟨a, r, o9, E, hdr, ha, e9.1, e9.2, hF, rfl⟩
          · cases hk
        · cases hk
      · cases hk
    · cases hk
  refine ⟨fun st lv w o w' hk => ?_, ?_⟩
  · rcases key st lv w o w' hk with hk | ⟨a, r, o9, E, -, -, -, -, hF, -⟩
    · exact hcv.1 _ _ _ _ _ hk
    · exact hM.1 _ _ _ _ _ hF
  · intro p l e R s m args below meth c D b0 w0 C H locs ls st lv w o w' hH hS hl z1 z2 hk r1 r2
    rcases key st lv w o w' hk with hk | ⟨a, r, o9, E, hdr, ha, e9, hrl, hF, rfl⟩
    · exact hcv.2 p l e R s m args below meth c D b0 w0 C H locs ls st lv w o w' hH hS hl z1 z2 hk r1 r2
    · obtain ⟨hx, hb, hml, ho, ht, hK, hlk, hE, hst, hbs, hsz, hfr, hlo, hret, hnm, hex⟩ := C
      obtain ⟨hst9, hlen⟩ := td hdr
      obtain ⟨mo1, mo2⟩ := hM.1 _ _ _ _ _ hF
      have hMm := hM.2 l D b0 g _ w _ w' hst (by rw [← hH.1]; exact Nat.le_trans hbs hS.1) hF
      have h6 := cat_sum r
      have hrun := vx_runV (p := p) (e := e) (R := R) (s := s) (m := m) (args := args) (below := below) (meth := meth) (c := c) (H := H) (locs := locs) (cells := w.2.1 - w0.2.1) (slots := w.2.2 - w0.2.2) (g := F0 m pc ls st) (C := y.cls) (b := a) (As := (st.take n).reverse) (rest := r) ⟨hx, hb, hml, ho, ht⟩ hMm (cwV n ht (gt_V h1 h2 h3 h4 h5) rfl rfl rfl ⟨rfl, hR.1⟩ (by rw [hfr, hlo]; exact hR.2)) ⟨wd_blind, by rw [hC]; exact hH.recv hK ha e9 hc, wd_pre hH hK hE hS⟩ rfl hlen hl.1 hst9 (by show 2 * 0 + _ ≤ _; omega) hd ⟨by omega, by omega⟩
      intro T hT X
      rcases hrun T hT X with ⟨v9, st₀, t, T', L, h0, X', hL, e1, e2, ⟨⟨v8, hv8, hv⟩, -⟩, st⟩ | ⟨q, st₀, t, T', L, E9, ce, h0, X', hL, e1, e2, ⟨hE9, hp1, hz, hk9⟩, hce, hcv9, hcl, st⟩
      · cases hv8
      · cases hE9
        rw [h0] at hz hk9
        have hS' : va_S (fun q : Nat => b0 ≤ q) s.heap T'.heap (locs ++ L) := ⟨Nat.le_trans hS.1 (by rw [e1]; exact hz), fun q h1 h2 => by rw [e1, hk9 q (Nat.lt_of_lt_of_le h1 hS.1) h2]; exact hS.2.1 q h1 h2, fun q hq => by
          rcases List.mem_append.mp hq with h | h
          · exact hS.2.2 q h
          · exact hL q h⟩
        obtain ⟨t2, a1, b1⟩ := vx_out (Qc := QR D b0 (.inr E) w') (XC := XR D b0 (.inr E) w') (pc := pc) (ls := ls) (rest := r) (mc := w'.2.1 - w0.2.1) (ms := w'.2.2 - w0.2.2) (fun x hx9 => by rw [hex, hh0] at hx9; cases hx9) hlk (by rw [e1]; exact hce) hcv9 hcl (fun t9 ht9 _ => ⟨rfl, by rw [ht9, e1]; exact hp1, hS'.F ht9⟩) hS'.2.2 (by omega) (by omega) T' rfl X'
        exact ⟨t2, st.trans a1, b1⟩
