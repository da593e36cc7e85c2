section VXT
variable {p : Program} {l : Launch} {e : Env} {R : Room} {s : State} {m : MethodId} {args : Array Value} {below : List Frame} {meth : Method} {c : Code} {H : Heap} {locs : List Loc} {cells slots : Nat} {Q : State → Prop}
variable {mc ms : Nat} {free : Addr → Prop} {A0 A1 : Nat → Prop} {H0 : Heap} {a : Array Value} {ls : Array Slot} {st0 rest : List Value}
variable {Qc : Array Value → State → Outcome → State → Prop} {XC : String → State → State → Prop}
theorem ux_throwS {cc : ByteArray} {pc : Nat} (hexec : p.tables.exec = Jvm.exec) (hb : c.code = cc) (hl : l.stackTraces = false) {own cls text : String} {names : List String} {ik is ic mc ms sa : Nat} {A : Nat → Prop}
    (hown : s.vm.findClass own = some m.cls) (hcls : Bundle.fit cls = true) (hnames : ∀ n ∈ names, Bundle.fit n = true)
    (hk : (Cond.classLink own ik cls).before args s = true) (hini : (Cond.initialized cls).before args s = true) (hstr : vk_R own is text sa s) (hat : ∀ w ∈ vx_atS own ic cls names, w.before args s = true)
    (hgood : ∀ w ∈ Cond.classLink own ik cls :: Cond.initialized cls :: vx_atS own ic cls names, vx_ot w = true)
    (hU : vx_Zq Bundle.tN "UNASSIGNED_STACK" Bundle.steD A s s.heap) (hN : vx_Zq Bundle.tN "SUPPRESSED_SENTINEL" Bundle.listD A s s.heap) (hS : va_S A s.heap H locs) (hsize : ls.size = c.maxLocals)
    (d0 : decode cc pc = .ok (.new ik, 3)) (d3 : decode cc (pc + 3) = .ok (.dup, 1)) (d4 : decode cc (pc + 4) = .ok (.ldc_w is, 3)) (d7 : decode cc (pc + 7) = .ok (.invokespecial ic, 3)) (d10 : decode cc (pc + 10) = .ok (.athrow, 1))
    (hout : ∀ x ∈ c.exceptionTable.toList, covers x (pc + 10) = false)
    (hRframes : names.length + 3 < R.frames) (hRlocals : (rest.map fun v => v.category).sum + (13 * (names.length + 1) + 43) ≤ R.locals) (hRcells : cells + 1 ≤ R.cells) (hRslots : slots + 6 ≤ R.slots) (hlocks : meth.locks = false)
    (hx : ∀ t : State, s.vm.Alike t.vm → t.heap.size = H.size + 1 → (∀ q : Nat, q < H.size → t.heap[q]? = H[q]?) → XC cls s t)
    (hf : ∀ z ∈ locs, free z.base) (hc : cells + 1 ≤ mc) (hs : slots + 6 ≤ ms) :
    W p l e R s m args below meth c H locs cells slots (vx_MQ below Qc XC args s mc ms free) (F0 m pc ls rest) := by
  intro T hT X
  have htr : e.platform.stackTraces = false := (show e.platform.stackTraces = l.stackTraces by rw [X.admits.platform]).trans hl
  have Y := vx_rebase X (R' := { frames := R.frames, locals := R.locals, cells := 1, slots := 6 }) (Nat.le_refl _) (Nat.le_refl _) hRcells hRslots
  obtain ⟨s', hA⟩ : ∃ z, z = (T.setVm s.vm).setFrames (.invoking m args :: below) := ⟨_, rfl⟩
  rw [← hA] at Y
  have hvm : s'.vm = s.vm := by rw [hA]; rfl
  have hhp : s'.heap = H := by rw [hA]; exact hT
  have hW0 : s.WarmedH s'.vm := by rw [hvm]; exact State.WarmedH.refl s
  have hat' : ∀ w ∈ vx_atS own ic cls names, w.before args s' = true := fun w hw => vx_ot_at hW0 hvm.symm (hgood w (List.mem_cons_of_mem _ (List.mem_cons_of_mem _ hw))) (hat w hw)
  have hk' : (Cond.classLink own ik cls).before args s' = true := vx_ot_at hW0 hvm.symm (hgood _ List.mem_cons_self) hk
  have hini' : (Cond.initialized cls).before args s' = true := vx_ot_at hW0 hvm.symm (hgood _ (List.mem_cons_of_mem _ List.mem_cons_self)) hini
  have hU' : vx_Zq Bundle.tN "UNASSIGNED_STACK" Bundle.steD A s' s'.heap := by rw [hhp]; exact vx_Zq.moved hW0.alike (hU.kept hS.2.1)
  have hN' : vx_Zq Bundle.tN "SUPPRESSED_SENTINEL" Bundle.listD A s' s'.heap := by rw [hhp]; exact vx_Zq.moved hW0.alike (hN.kept hS.2.1)
  have h : ∀ w ∈ Bundle.ownAtoms own ic cls names, w.before args s' = true := vx_own hat' (vx_isRefq hU'.1) (vx_isRefq hN'.1) hU'.2.word hN'.2.word
  have hown' : s'.vm.findClass own = some m.cls := by rw [hvm]; exact hown
  have hins : (Cond.instantiable cls 6).before args s' = true := h _ (by simp [Bundle.ownAtoms])
  obtain ⟨vm₁, cX, kX, hfX, hkX, -, -, X₁, st1⟩ := Y.newCold hexec (own := own) (C := cls) (index := ik) (n := 6) hown' hk' hins hini'
    (g := F0 m pc ls rest) rfl (by rw [hb]; exact d0) (Nat.le_refl _) (Nat.le_refl _)
  generalize hT1 : (T.setVm vm₁).pushCell { cls := cX, slots := kX.instanceTypes.map defaultValue, vm := .none } = T1 at X₁ st1
  have hcat : (Value.ref T.heap.size).category = 1 := rfl
  have hcellA : T1.heap[T.heap.size]? = some (freshCell cX kX) := by rw [← hT1]; exact State.heap_pushCell_size _ _
  have d3' : decode c.code (pc + 3) = .ok (.dup, 1) := by rw [hb]; exact d3
  have d4' : decode c.code (pc + 4) = .ok (.ldc_w is, 3) := by rw [hb]; exact d4
  have hstr' : vk_R own is text sa s' := vk_R.warm hW0 hstr
  obtain ⟨U, hsteps, hrun, hend, hW, hsame, ce, hce, hO⟩ := X₁.ctorThrowS hexec htr (own := own) (cls := cls) (names := names) (ic := ic) hown' hcls hnames h (fun x hx => nomatch hx) hfX hkX hcellA (by rw [hhp, hT]; exact Nat.le_refl _) (msg := .ref sa) rfl
    (g := { method := m, pc := pc + 7, locals := ls, stack := .ref sa :: .ref T.heap.size :: .ref T.heap.size :: rest, locked := none }) rfl hsize rfl rfl (rest := rest) rfl
    (by rw [hb]; exact d7) (by rw [hb]; exact d10) hout hRframes (by simp only [List.map_cons, List.sum_cons, hcat]; omega) hlocks
  obtain ⟨f1, f2⟩ := vx_frame hsame
  rw [hhp] at f1 f2
  have hWs : s.WarmedH U.vm := State.WarmedH.trans hW0 hW
  have f9 : U.heap.size = H.size + 1 := by
    have g1 : U.heap.size ≤ s'.heap.size + (0 + 1) := hsame.2.2.1
    have g2 : T.heap.size < U.heap.size := (Array.getElem?_eq_some_iff.mp hce).1
    rw [hhp] at g1
    rw [hT] at g2
    omega
  have hcl : s.vm.findClass cls = some ce.cls := by
    have h9 := hO.cls
    rw [hvm] at h9
    exact h9
  have hall : s.sameButNew ({ U with vm := s.vm } : State) locs mc ms := by
    subst hA
    obtain ⟨e1, e2⟩ := hsame
    rw [State.setFrames_setFrames] at e1
    have h2 : (T.setVm s.vm).sameButNew ({ U with vm := s.vm } : State) [] (0 + 1) (0 + 6) := ⟨e1, e2⟩
    have h3 := X.same.trans h2
    rw [List.append_nil] at h3
    exact h3.mono hc hs
  refine ⟨U, ?_, .threw T.heap.size, hrun, hend, Or.inr ⟨T.heap.size, rfl, cls, ce, locs, hx U hWs.alike f9 (fun q hq => f2 q hq (fun z hz => nomatch hz)), hce, hO.vm, hcl, hWs, hall, hf⟩⟩
  refine st1 _ ?_
  show Steps p.tables e below (T1.setTop { method := m, pc := pc + 3, locals := ls, stack := .ref T.heap.size :: rest, locked := none }) _
  jvm_step X₁.here [X₁.here.top, hexec, d3', Value.category]
  exact X₁.ldcStringW hexec (own := own) (text := text) (index := is) (a := sa) hown' hstr'.1 hstr'.2
    (g := { method := m, pc := pc + 4, locals := ls, stack := .ref T.heap.size :: .ref T.heap.size :: rest, locked := none }) rfl d4' _ hsteps
end VXT
theorem atS_ok {own cls : String} {ic : Nat} {names : List String} {b0 : Nat} {g : GE} {s : State} {args : Array Value} {H : Heap} (h : (vx_atS own ic cls names).all (fun w => decide (w ∈ gt) || (w.onTables && decide (w ∈ owl))) = true) (ht : ∀ w ∈ gt, w.before args s = true) (hE : SE b0 g s H) : (∀ w ∈ vx_atS own ic cls names, w.before args s = true) ∧ ∀ w ∈ vx_atS own ic cls names, vx_ot w = true := by
  have key : ∀ w ∈ vx_atS own ic cls names, w ∈ gt ∨ (w.onTables = true ∧ w ∈ owl) := by
    intro w hw
    have := List.all_eq_true.mp h w hw
    simp only [Bool.or_eq_true, Bool.and_eq_true, decide_eq_true_eq] at this
    exact this
  refine ⟨fun w hw => ?_, fun w hw => ?_⟩
  · rcases key w hw with h1 | ⟨h1, h2⟩
    · exact ht w h1
    · exact va_Nw.use h1 (hE.ow h2)
  · unfold vx_ot
    rcases key w hw with h1 | ⟨h1, h2⟩
    · rw [(List.mem_filter.mp h1).2]; simp
    · rw [h1]; rfl
/-- new E("text") is thrown -/
def i_throw (E : String) : KT := fun st _ w => if st.length ≤ 4 then some (.inr E, (w.1, w.2.1 + 1, w.2.2 + 6)) else none
theorem s_throw {d : MD} {g : GE} {pc ik is ic i : Nat} {E : String} (hi : i < 12) (hown : (sown i).1 = d.2.1) (his : (sown i).2.1 = is) (hcls : Bundle.fit E = true) (hat : (vx_atS d.2.1 ic E ["java/lang/RuntimeException", "java/lang/Exception"]).all (fun w => decide (w ∈ gt) || (w.onTables && decide (w ∈ owl))) = true) (hk9 : Cond.classLink d.2.1 ik E ∈ gt) (hini : Cond.initialized E ∈ gt) (hr : 6 ≤ d.2.2.2.1 ∧ 100 ≤ d.2.2.2.2.1) (hh0 : d.2.2.2.2.2.2.2 = [])
    (d0 : decode d.1 pc = .ok (.new ik, 3)) (d3 : decode d.1 (pc + 3) = .ok (.dup, 1)) (d4 : decode d.1 (pc + 4) = .ok (.ldc_w is, 3)) (d6 : decode d.1 (pc + 7) = .ok (.invokespecial ic, 3)) (d9 : decode d.1 (pc + 10) = .ok (.athrow, 1)) : Snd d g pc (i_throw E) := by
  refine ⟨fun st lv w o w' hk => ?_, ?_⟩
  · simp only [i_throw] at hk
    split at hk
    · cases hk
      exact ⟨Nat.le_succ _, Nat.le_add_right _ _⟩
    · cases hk
  · intro p l e R s m args below meth c D b0 w0 C H locs ls st lv w o w' hH hS hl z1 z2 hk r1 r2
    obtain ⟨hx, hb, hml, ho, ht, hK, hlk, hE, hst, hbs, hsz, hfr, hlo, hret, hnm, hex⟩ := C
    simp only [i_throw] at hk
    split at hk
    · next h4 =>
      cases hk
      obtain ⟨a1, a2⟩ := atS_ok (own := d.2.1) (cls := E) hat ht hE
      have hstr := hE.2.2.2.2.1 i hi
      rw [hown, his] at hstr
      have h6 := cat_sum st
      have r1' : w.2.1 + 1 - w0.2.1 ≤ R.cells := r1
      have r2' : w.2.2 + 6 - w0.2.2 ≤ R.slots := r2
      refine ux_throwS (A := fun q : Nat => b0 ≤ q) (names := ["java/lang/RuntimeException", "java/lang/Exception"]) hx hb hst ho hcls (by decide) (ht _ hk9) (ht _ hini) hstr a1 ?_ hE.2.2.2.2.2.1 hE.2.2.2.2.2.2.1 hS (hl.1.trans hml.symm) d0 d3 d4 d6 d9 (fun x hx9 => by rw [hex, hh0] at hx9; cases hx9) ?_ ?_ (by omega) (by omega) hlk ?_ hS.2.2 ?_ ?_
      · intro w9 hw9
        rcases List.mem_cons.mp hw9 with rfl | hw9
        · unfold vx_ot; rw [(List.mem_filter.mp hk9).2]; simp
        · rcases List.mem_cons.mp hw9 with rfl | hw9
          · unfold vx_ot; rw [(List.mem_filter.mp hini).2]; simp
          · exact a2 _ hw9
      · rw [hfr]; show 2 + 3 < _; omega
      · rw [hlo]; show _ + (13 * (2 + 1) + 43) ≤ _; omega
      · intro t ht9 hz9 hq9
        have hh : hp D b0 (w.1, w.2.1 + 1, w.2.2 + 6) t.heap := ⟨by rw [hz9, hH.1], fun a e9 ha => ⟨(hH.2 a e9 ha).1, (hH.2 a e9 ha).2.kept (hq9 a (hH.lt ha))⟩⟩
        exact ⟨rfl, hh, by rw [hz9]; have := hS.1; omega, fun q h1 h2 => (hq9 q (Nat.lt_of_lt_of_le h1 hS.1)).trans (hS.2.1 q h1 h2)⟩
      · show _ ≤ w.2.1 + 1 - w0.2.1; omega
      · show _ ≤ w.2.2 + 6 - w0.2.2; omega
    · cases hk
