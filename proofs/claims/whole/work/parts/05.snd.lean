/-! ===== soundness: what a KT says of the bytecode from a place on ===== -/
def stn : Nat → String × String × String := fun i => match i with
  | 0 => ("BlottedDeed$Verb", "HEIR", "LBlottedDeed$Verb;")
  | 1 => ("BlottedDeed$Verb", "THING", "LBlottedDeed$Verb;")
  | 2 => ("BlottedDeed$Verb", "ESTATE", "LBlottedDeed$Verb;")
  | 3 => ("BlottedDeed$Verb", "LEAST", "LBlottedDeed$Verb;")
  | 4 => ("BlottedDeed$Verb", "COIN", "LBlottedDeed$Verb;")
  | 5 => ("BlottedDeed$Verb", "WILL", "LBlottedDeed$Verb;")
  | 6 => ("BlottedDeed$Verb", "WHEN", "LBlottedDeed$Verb;")
  | _ => ("BlottedDeed$Scribe", "VERBS", "[LBlottedDeed$Verb;")
def sown : Nat → String × Nat × String := fun i => match i with
  | 0 => ("BlottedDeed$Verb", 49, "heir")
  | 1 => ("BlottedDeed$Verb", 55, "thing")
  | 2 => ("BlottedDeed$Verb", 58, "estate")
  | 3 => ("BlottedDeed$Verb", 61, "least")
  | 4 => ("BlottedDeed$Verb", 64, "coin")
  | 5 => ("BlottedDeed$Verb", 67, "will")
  | 6 => ("BlottedDeed$Verb", 70, "when")
  | 7 => ("BlottedDeed$Scribe", 208, "is")
  | 8 => ("BlottedDeed$Scribe", 210, "not")
  | 9 => ("BlottedDeed", 321, "none such")
  | 10 => ("BlottedDeed", 328, "no such blot")
  | _ => ("BlottedDeed", 333, "not such an argument")
def sbyt : List (List Int32) := [[104, 101, 105, 114], [116, 104, 105, 110, 103], [101, 115, 116, 97, 116, 101], [108, 101, 97, 115, 116], [99, 111, 105, 110], [119, 105, 108, 108], [119, 104, 101, 110], [105, 115], [110, 111, 116], [110, 111, 110, 101, 32, 115, 117, 99, 104], [110, 111, 32, 115, 117, 99, 104, 32, 98, 108, 111, 116], [110, 111, 116, 32, 115, 117, 99, 104, 32, 97, 110, 32, 97, 114, 103, 117, 109, 101, 110, 116]]
def slen : List Nat := [4, 5, 6, 5, 4, 4, 4, 2, 3, 9, 12, 20]
def va_AOA9 (t : FieldType) (U : State) : Prop := (Cond.arrayOver (.array t)).before #[] U = true
theorem va_AOA9.moved {t : FieldType} {u U : State} (hvm : u.vm.Alike U.vm) (h : va_AOA9 t u) : va_AOA9 t U := by
  obtain ⟨comp, c, k, h1, h2, h3, h4, h5⟩ := arrayOverA_spec h
  obtain ⟨k', hk', he⟩ := hvm.2.2 _ _ h3
  have hi : (U.vm.classes.findIdx? fun (x : Class) => match x.kind with | .array component _ => component == comp | _ => false) = some c := by
    refine Eq.trans (va_idx_bare U.vm comp).symm ?_
    first | rw [hvm.bare_eq] | rw [← hvm.bare_eq]
    exact (va_idx_bare u.vm comp).trans h2
  have hkind : k'.kind = .array comp (.array t) := by rw [he]; exact h4
  have f1 : U.vm.findClass (FieldType.array t).toString = some comp := by rw [hvm.findClass]; exact h1
  have f2 : U.vm.findClass ("[" ++ (FieldType.array t).toString) = some c := by rw [hvm.findClass]; exact h5
  unfold va_AOA9 Cond.before Cond.holds
  simp only [Cond.value]
  rw [f1, Option.bind_some]
  refine (congrArg (fun o : Option Nat => (o.bind (fun c => (U.vm.classes[c]?).map fun (k : Class) => match k.kind with | .array _ ty => decide (ty = FieldType.array t) && decide (U.vm.findClass ("[" ++ (FieldType.array t).toString) = some c) | _ => false) == some true)) hi).trans ?_
  simp [hk', hkind, f2]
/-- words of the tables that are kept by laws of their own -/
def owl : List Cond := [.methodLinkNest "BlottedDeed" 50 ⟨"BlottedDeed$Scales", "<init>", "()V"⟩ "BlottedDeed", .methodLinkNest "BlottedDeed" 57 ⟨"BlottedDeed$Testimony", "<init>", "()V"⟩ "BlottedDeed", .methodLinkNest "BlottedDeed$Anew" 11 ⟨"BlottedDeed$Row", "<init>", "()V"⟩ "BlottedDeed", .methodLinkNest "BlottedDeed$Anew" 20 ⟨"BlottedDeed$Blot", "<init>", "()V"⟩ "BlottedDeed", .methodLinkNest "BlottedDeed$Deed" 50 ⟨"BlottedDeed$Part", "<init>", "()V"⟩ "BlottedDeed", .methodLinkNest "BlottedDeed$Deed" 51 ⟨"BlottedDeed$Blot", "<init>", "()V"⟩ "BlottedDeed", .methodLinkNest "BlottedDeed$Table" 27 ⟨"BlottedDeed$Row", "<init>", "()V"⟩ "BlottedDeed",
  .fieldLinkNest "BlottedDeed$Scales" 40 "BlottedDeed$Testimony" "copyBlot" "[I" "BlottedDeed", .fieldLinkNest "BlottedDeed$Scales" 62 "BlottedDeed$Testimony" "copyTells" "[I" "BlottedDeed",
  .castable "java/lang/IllegalArgumentException" "java/lang/IllegalArgumentException", .castable "java/util/NoSuchElementException" "java/util/NoSuchElementException", .castable "java/lang/IndexOutOfBoundsException" "java/lang/IndexOutOfBoundsException",
  .declares ⟨"java/lang/RuntimeException", "<init>", "(Ljava/lang/String;)V"⟩, .declares ⟨"java/lang/Exception", "<init>", "(Ljava/lang/String;)V"⟩, .declares ⟨"java/lang/Throwable", "<init>", "(Ljava/lang/String;)V"⟩,
  .arrayOver (.object "BlottedDeed$Blot"), .arrayOver (.object "BlottedDeed$Part"), .arrayOver (.object "BlottedDeed$Testimony"), .arrayOver (.array .int)]
theorem ow_warm {s U : State} (hW : s.WarmedH U.vm) : ∀ w ∈ owl, va_Nw w s → va_Nw w U := by
  intro w hw hz
  simp only [owl, List.mem_cons, List.not_mem_nil, or_false] at hw
  rcases hw with rfl | rfl | rfl | rfl | rfl | rfl | rfl | rfl | rfl | rfl | rfl | rfl | rfl | rfl | rfl | rfl | rfl | rfl | rfl
  all_goals first | exact va_Nw.warmM hW hz | exact va_Nw.warmF hW hz | exact va_Nw.warmC hW hz | exact va_Nw.warmD hW hz | exact va_AO.moved hW.alike hz | exact va_AOA9.moved hW.alike hz
/-- classes of which none is of the other's kind -/
def ncl : List (String × String) := [("java/lang/IllegalArgumentException", "java/lang/IndexOutOfBoundsException"), ("java/lang/IllegalArgumentException", "java/util/NoSuchElementException"), ("java/util/NoSuchElementException", "java/lang/IndexOutOfBoundsException")]
/-- the static objects and texts, as they stand from the start on -/
def SE (b0 : Nat) (g : GE) (U : State) (H : Heap) : Prop :=
  (∀ i, i < 8 → va_Z (stn i).1 (stn i).2.1 (stn i).2.2 (.ref (g.2.1 i)) (fun q : Nat => b0 ≤ q) U H) ∧
  (∀ i, i < 7 → va_O "BlottedDeed$Verb" (g.2.1 i) (fun q : Nat => b0 ≤ q) U H ∧ va_OF "BlottedDeed$Verb" "word" "Ljava/lang/String;" (.ref (g.2.2.1 i)) (g.2.1 i) (fun q : Nat => b0 ≤ q) U H) ∧
  va_T (.object "BlottedDeed$Verb") (g.2.1 7) 7 (fun j => .ref (g.2.1 j)) (fun q : Nat => b0 ≤ q) U H ∧
  vk_S 12 slen sbyt g.2.2.1 g.2.2.2.1 (fun q : Nat => b0 ≤ q) U H ∧
  (∀ i, i < 12 → vk_R (sown i).1 (sown i).2.1 (sown i).2.2 (g.2.2.1 i) U) ∧
  vx_Zq Bundle.tN "UNASSIGNED_STACK" Bundle.steD (fun q : Nat => b0 ≤ q) U H ∧ vx_Zq Bundle.tN "SUPPRESSED_SENTINEL" Bundle.listD (fun q : Nat => b0 ≤ q) U H ∧
  va_Z "java/lang/String" "COMPACT_STRINGS" "Z" (.int 1) (fun q : Nat => b0 ≤ q) U H ∧ (∀ w ∈ owl, va_Nw w U) ∧
  va_Z "jdk/internal/util/Preconditions" "SIOOBE_FORMATTER" "Ljava/util/function/BiFunction;" (va_rf g.2.2.2.2.1) (fun q : Nat => b0 ≤ q) U H ∧
  (va_X g.2.2.2.2.2.1 g.2.2.2.2.2.2.1 g.2.2.2.2.2.2.2 U H ∧ g.2.2.2.2.2.1 < b0 ∧ b0 ≤ H.size) ∧ (∀ q ∈ ncl, va_Nc q.1 q.2 U)
theorem SE.go {b0 : Nat} {g : GE} {s U : State} {H : Heap} {locs : List Loc} (h : SE b0 g s s.heap) (hS : va_S (fun q : Nat => b0 ≤ q) s.heap H locs) (hU : U.heap = H) (hW : s.WarmedH U.vm) : SE b0 g U U.heap := by
  subst hU
  have hq := hS.2.1
  have ha := hW.alike
  obtain ⟨h1, h2, h3, h4, h5, h6, h7, h8, h9, h10, ⟨h11, h12, h13⟩, h14⟩ := h
  exact ⟨fun i hi => (h1 i hi).moved ha |>.kept hq, fun i hi => ⟨((h2 i hi).1.moved ha).kept hq, ((h2 i hi).2.moved ha).kept hq⟩, (h3.moved ha).kept hq, (h4.moved ha).kept hq, fun i hi => vk_R.warm hW (h5 i hi), (h6.moved ha).kept hq, (h7.moved ha).kept hq, (h8.moved ha).kept hq, fun w hw => ow_warm hW w hw (h9 w hw), (h10.moved ha).kept hq, ⟨(h11.moved ha).kept (hq _ (Nat.lt_of_lt_of_le h12 h13) (Nat.not_le.mpr h12)), h12, Nat.le_trans h13 hS.1⟩, fun q hq9 => (h14 q hq9).moved ha⟩
theorem SE.ow {b0 : Nat} {g : GE} {s : State} {H : Heap} (h : SE b0 g s H) {w : Cond} (hw : w ∈ owl) : va_Nw w s := h.2.2.2.2.2.2.2.2.1 w hw
theorem SE.same {b0 : Nat} {g : GE} {s U : State} (h : SE b0 g s s.heap) (hv : U.vm = s.vm) (hh : U.heap = s.heap) : SE b0 g U U.heap :=
  SE.go (locs := []) h va_S.rf hh (by rw [hv]; exact State.WarmedH.refl s)
/-- a method's start -/
def WD (D : DD) (b0 : Nat) (g : GE) (w : Mem) (U : State) : Prop := hp D b0 w U.heap ∧ KK D U ∧ SE b0 g U U.heap
def QR (D : DD) (b0 : Nat) (o : Rs) (w' : Mem) : Array Value → State → Outcome → State → Prop := fun _ st oc t => (∃ v, o = .inl v ∧ oc = .returned v) ∧ hp D b0 w' t.heap ∧ va_F (fun q : Nat => b0 ≤ q) st t
def XR (D : DD) (b0 : Nat) (o : Rs) (w' : Mem) : String → State → State → Prop := fun E st t => o = .inr E ∧ hp D b0 w' t.heap ∧ va_F (fun q : Nat => b0 ≤ q) st t
def FQ (below : List Frame) (args : Array Value) (s : State) (D : DD) (b0 : Nat) (w0 : Mem) (o : Rs) (w' : Mem) : State → Prop :=
  vx_MQ below (QR D b0 o w') (XR D b0 o w') args s (w'.2.1 - w0.2.1) (w'.2.2 - w0.2.2) (fun q : Nat => b0 ≤ q)
def Cx (d : MD) (g : GE) (p : Program) (l : Launch) (e : Env) (R : Room) (s : State) (m : MethodId) (args : Array Value) (below : List Frame) (meth : Method) (c : Code) (D : DD) (b0 : Nat) (w0 : Mem) : Prop :=
  p.tables.exec = Jvm.exec ∧ c.code = d.1 ∧ c.maxLocals = d.2.2.1 ∧ s.vm.findClass d.2.1 = some m.cls ∧ (∀ w ∈ gt, w.before args s = true) ∧ KK D s ∧ meth.locks = false ∧ SE b0 g s s.heap ∧ l.stackTraces = false ∧
  b0 ≤ s.heap.size ∧ s.heap.size = w0.2.1 ∧ R.frames = d.2.2.2.1 ∧ R.locals = d.2.2.2.2.1 ∧ meth.sig.returnType = d.2.2.2.2.2.1 ∧ meth.name = d.2.2.2.2.2.2.1 ∧ c.exceptionTable.toList = tableOf d.2.2.2.2.2.2.2
def Mono (k : KT) : Prop := ∀ st lv w o w', k st lv w = some (o, w') → w.2.1 ≤ w'.2.1 ∧ w.2.2 ≤ w'.2.2
def Snd (d : MD) (g : GE) (pc : Nat) (k : KT) : Prop :=
  Mono k ∧ ∀ (p : Program) (l : Launch) (e : Env) (R : Room) (s : State) (m : MethodId) (args : Array Value) (below : List Frame) (meth : Method) (c : Code) (D : DD) (b0 : Nat) (w0 : Mem), Cx d g p l e R s m args below meth c D b0 w0 →
   ∀ (H : Heap) (locs : List Loc) (ls : Array Slot) (st : List Value) (lv : Lv) (w : Mem) (o : Rs) (w' : Mem),
    hp D b0 w H → va_S (fun q : Nat => b0 ≤ q) s.heap H locs → LV ls d.2.2.1 lv → w0.2.1 ≤ w.2.1 → w0.2.2 ≤ w.2.2 → k st lv w = some (o, w') → w'.2.1 - w0.2.1 ≤ R.cells → w'.2.2 - w0.2.2 ≤ R.slots →
    W p l e R s m args below meth c H locs (w.2.1 - w0.2.1) (w.2.2 - w0.2.2) (FQ below args s D b0 w0 o w') (F0 m pc ls st)
/-- a step that leaves the cells alone -/
def PS (d : MD) (pc : Nat) (st : List Value) (lv : Lv) (pc' : Nat) (st' : List Value) (lv' : Lv) : Prop :=
  ∀ (p : Program) (l : Launch) (e : Env) (R : Room) (s : State) (m : MethodId) (args : Array Value) (below : List Frame) (meth : Method) (c : Code) (H : Heap) (locs : List Loc) (cells slots : Nat) (Q : State → Prop) (ls : Array Slot), p.tables.exec = Jvm.exec → c.code = d.1 → s.vm.findClass d.2.1 = some m.cls → (∀ w ∈ gt, w.before args s = true) → LV ls d.2.2.1 lv →
   (∀ ls' : Array Slot, LV ls' d.2.2.1 lv' → W p l e R s m args below meth c H locs cells slots Q (F0 m pc' ls' st')) → W p l e R s m args below meth c H locs cells slots Q (F0 m pc ls st)
theorem Snd.pure {d : MD} {g : GE} {pc pc' : Nat} {k k' : KT} (h : Snd d g pc' k') (hs : ∀ st lv w o w', k st lv w = some (o, w') → ∃ st' lv', k' st' lv' w = some (o, w') ∧ PS d pc st lv pc' st' lv') : Snd d g pc k := by
  refine ⟨fun st lv w o w' hk => ?_, ?_⟩
  · obtain ⟨st', lv', h1, -⟩ := hs st lv w o w' hk
    exact h.1 _ _ _ _ _ h1
  · intro p l e R s m args below meth c D b0 w0 C H locs ls st lv w o w' hH hS hl z1 z2 hk r1 r2
    obtain ⟨st', lv', h1, h2⟩ := hs st lv w o w' hk
    have C' := id C
    obtain ⟨hx, hb, hml, ho, ht, -⟩ := C'
    exact h2 p l e R s m args below meth c H locs _ _ _ ls hx hb ho ht hl (fun ls' hl' => h.2 p l e R s m args below meth c D b0 w0 C H locs ls' st' lv' w o w' hH hS hl' z1 z2 h1 r1 r2)
theorem Snd.br {d : MD} {g : GE} {pc pt pf : Nat} {k kt kf : KT} (ht : Snd d g pt kt) (hf : Snd d g pf kf) (hs : ∀ st lv w o w', k st lv w = some (o, w') → (∃ st' lv', kt st' lv' w = some (o, w') ∧ PS d pc st lv pt st' lv') ∨ ∃ st' lv', kf st' lv' w = some (o, w') ∧ PS d pc st lv pf st' lv') : Snd d g pc k := by
  refine ⟨fun st lv w o w' hk => ?_, ?_⟩
  · rcases hs st lv w o w' hk with ⟨st', lv', h1, -⟩ | ⟨st', lv', h1, -⟩
    · exact ht.1 _ _ _ _ _ h1
    · exact hf.1 _ _ _ _ _ h1
  · intro p l e R s m args below meth c D b0 w0 C H locs ls st lv w o w' hH hS hl z1 z2 hk r1 r2
    have C' := id C
    obtain ⟨hx, hb, hml, ho, htt, -⟩ := C'
    rcases hs st lv w o w' hk with ⟨st', lv', h1, h2⟩ | ⟨st', lv', h1, h2⟩
    · exact h2 p l e R s m args below meth c H locs _ _ _ ls hx hb ho htt hl (fun ls' hl' => ht.2 p l e R s m args below meth c D b0 w0 C H locs ls' st' lv' w o w' hH hS hl' z1 z2 h1 r1 r2)
    · exact h2 p l e R s m args below meth c H locs _ _ _ ls hx hb ho htt hl (fun ls' hl' => hf.2 p l e R s m args below meth c D b0 w0 C H locs ls' st' lv' w o w' hH hS hl' z1 z2 h1 r1 r2)

def i_push (v : Value) (k : KT) : KT := fun st lv w => k (v :: st) lv w
theorem s_iconst {d : MD} {g : GE} {pc : Nat} {k : KT} {n : Int} {v : Int32} (h : Snd d g (pc + 1) k) (hd : decode d.1 pc = .ok (.iconst n, 1)) (hv : Int32.ofInt n = v) : Snd d g pc (i_push (.int v) k) :=
  h.pure fun st lv w o w' hk => ⟨_, _, hk, fun p l e R s m args below meth c H locs cells slots Q ls hx hb ho ht hl kk => lv_iconst hx hb hd hv (kk _ hl)⟩
theorem s_bipush {d : MD} {g : GE} {pc : Nat} {k : KT} {n : Int} {v : Int32} (h : Snd d g (pc + 2) k) (hd : decode d.1 pc = .ok (.bipush n, 2)) (hv : (Int8.ofInt n).toInt32 = v) : Snd d g pc (i_push (.int v) k) :=
  h.pure fun st lv w o w' hk => ⟨_, _, hk, fun p l e R s m args below meth c H locs cells slots Q ls hx hb ho ht hl kk => lv_bipush hx hb hd hv (kk _ hl)⟩
theorem s_sipush {d : MD} {g : GE} {pc : Nat} {k : KT} {n : Int} {v : Int32} (h : Snd d g (pc + 3) k) (hd : decode d.1 pc = .ok (.sipush n, 3)) (hv : (Int16.ofInt n).toInt32 = v) : Snd d g pc (i_push (.int v) k) :=
  h.pure fun st lv w o w' hk => ⟨_, _, hk, fun p l e R s m args below meth c H locs cells slots Q ls hx hb ho ht hl kk => lv_sipush hx hb hd hv (kk _ hl)⟩
theorem s_lconst {d : MD} {g : GE} {pc : Nat} {k : KT} {n : Fin 2} {v : Int64} (h : Snd d g (pc + 1) k) (hd : decode d.1 pc = .ok (.lconst n, 1)) (hv : Int64.ofNat (n : Nat) = v) : Snd d g pc (i_push (.long v) k) :=
  h.pure fun st lv w o w' hk => ⟨_, _, hk, fun p l e R s m args below meth c H locs cells slots Q ls hx hb ho ht hl kk => lv_lconst hx hb hd hv (kk _ hl)⟩
theorem s_ldc {d : MD} {g : GE} {pc : Nat} {k : KT} {i : Nat} {v : Int32} (h : Snd d g (pc + 2) k) (hw : Cond.constant d.2.1 i v ∈ gt) (hd : decode d.1 pc = .ok (.ldc i, 2)) : Snd d g pc (i_push (.int v) k) :=
  h.pure fun st lv w o w' hk => ⟨_, _, hk, fun p l e R s m args below meth c H locs cells slots Q ls hx hb ho ht hl kk => lv_ldc hx hb ho (ht _ hw) hd (kk _ hl)⟩
theorem s_ldcw {d : MD} {g : GE} {pc : Nat} {k : KT} {i : Nat} {v : Int32} (h : Snd d g (pc + 3) k) (hw : Cond.constant d.2.1 i v ∈ gt) (hd : decode d.1 pc = .ok (.ldc_w i, 3)) : Snd d g pc (i_push (.int v) k) :=
  h.pure fun st lv w o w' hk => ⟨_, _, hk, fun p l e R s m args below meth c H locs cells slots Q ls hx hb ho ht hl kk => lv_ldcw hx hb ho (ht _ hw) hd (kk _ hl)⟩
theorem s_ldc2 {d : MD} {g : GE} {pc : Nat} {k : KT} {i : Nat} {v : Int64} (h : Snd d g (pc + 3) k) (hw : Cond.constantLong d.2.1 i v ∈ gt) (hd : decode d.1 pc = .ok (.ldc2_w i, 3)) : Snd d g pc (i_push (.long v) k) :=
  h.pure fun st lv w o w' hk => ⟨_, _, hk, fun p l e R s m args below meth c H locs cells slots Q ls hx hb ho ht hl kk => lv_ldc2 hx hb ho (ht _ hw) hd (kk _ hl)⟩
def i_iload (i : Nat) (k : KT) : KT := fun st lv w => match lv[i]? with
  | some (some (.int x)) => k (.int x :: st) lv w
  | _ => none
theorem s_iload {d : MD} {g : GE} {pc : Nat} {k : KT} {i : Nat} (h : Snd d g (pc + 2) k) (hd : decode d.1 pc = .ok (.iload i, 2)) : Snd d g pc (i_iload i k) := h.pure fun st lv w o w' hk => by
  simp only [i_iload] at hk
  split at hk
  · next x hi => exact ⟨_, _, hk, fun p l e R s m args below meth c H locs cells slots Q ls hx hb ho ht hl kk => lv_iload hx hb hd (hl.get hi) (kk _ hl)⟩
  · cases hk
theorem s_iload_n {d : MD} {g : GE} {pc : Nat} {k : KT} {i : Nat} {f : Fin 4} (h : Snd d g (pc + 1) k) (hd : decode d.1 pc = .ok (.iload_n f, 1)) (hf : (f : Nat) = i) : Snd d g pc (i_iload i k) := h.pure fun st lv w o w' hk => by
  simp only [i_iload] at hk
  split at hk
  · next x hi => exact ⟨_, _, hk, fun p l e R s m args below meth c H locs cells slots Q ls hx hb ho ht hl kk => lv_iload_n hx hb hd hf (hl.get hi) (kk _ hl)⟩
  · cases hk
def i_lload (i : Nat) (k : KT) : KT := fun st lv w => match lv[i]? with
  | some (some (.long x)) => k (.long x :: st) lv w
  | _ => none
theorem s_lload {d : MD} {g : GE} {pc : Nat} {k : KT} {i : Nat} (h : Snd d g (pc + 2) k) (hd : decode d.1 pc = .ok (.lload i, 2)) : Snd d g pc (i_lload i k) := h.pure fun st lv w o w' hk => by
  simp only [i_lload] at hk
  split at hk
  · next x hi => exact ⟨_, _, hk, fun p l e R s m args below meth c H locs cells slots Q ls hx hb ho ht hl kk => lv_lload hx hb hd (hl.get hi) (kk _ hl)⟩
  · cases hk
theorem s_lload_n {d : MD} {g : GE} {pc : Nat} {k : KT} {i : Nat} {f : Fin 4} (h : Snd d g (pc + 1) k) (hd : decode d.1 pc = .ok (.lload_n f, 1)) (hf : (f : Nat) = i) : Snd d g pc (i_lload i k) := h.pure fun st lv w o w' hk => by
  simp only [i_lload] at hk
  split at hk
  · next x hi => exact ⟨_, _, hk, fun p l e R s m args below meth c H locs cells slots Q ls hx hb ho ht hl kk => lv_lload_n hx hb hd hf (hl.get hi) (kk _ hl)⟩
  · cases hk
def i_aload (i : Nat) (k : KT) : KT := fun st lv w => match lv[i]? with
  | some (some (.ref x)) => k (.ref x :: st) lv w
  | some (some .null) => k (.null :: st) lv w
  | _ => none
theorem s_aload {d : MD} {g : GE} {pc : Nat} {k : KT} {i : Nat} (h : Snd d g (pc + 2) k) (hd : decode d.1 pc = .ok (.aload i, 2)) : Snd d g pc (i_aload i k) := h.pure fun st lv w o w' hk => by
  simp only [i_aload] at hk
  split at hk
  · next x hi => exact ⟨_, _, hk, fun p l e R s m args below meth c H locs cells slots Q ls hx hb ho ht hl kk => lv_aload hx hb hd (hl.get hi) (kk _ hl)⟩
  · next hi => exact ⟨_, _, hk, fun p l e R s m args below meth c H locs cells slots Q ls hx hb ho ht hl kk => lv_aloadN hx hb hd (hl.get hi) (kk _ hl)⟩
  · cases hk
theorem s_aload_n {d : MD} {g : GE} {pc : Nat} {k : KT} {i : Nat} {f : Fin 4} (h : Snd d g (pc + 1) k) (hd : decode d.1 pc = .ok (.aload_n f, 1)) (hf : (f : Nat) = i) : Snd d g pc (i_aload i k) := h.pure fun st lv w o w' hk => by
  simp only [i_aload] at hk
  split at hk
  · next x hi => exact ⟨_, _, hk, fun p l e R s m args below meth c H locs cells slots Q ls hx hb ho ht hl kk => lv_aload_n hx hb hd hf (hl.get hi) (kk _ hl)⟩
  · next hi => exact ⟨_, _, hk, fun p l e R s m args below meth c H locs cells slots Q ls hx hb ho ht hl kk => lv_aload_nN hx hb hd hf (hl.get hi) (kk _ hl)⟩
  · cases hk
def i_istore (i : Nat) (k : KT) : KT := fun st lv w => match st with
  | .int x :: r => k r (lset1 lv i (.int x)) w
  | _ => none
theorem s_istore {d : MD} {g : GE} {pc : Nat} {k : KT} {i : Nat} (h : Snd d g (pc + 2) k) (hd : decode d.1 pc = .ok (.istore i, 2)) (hi : i < d.2.2.1) : Snd d g pc (i_istore i k) := h.pure fun st lv w o w' hk => by
  simp only [i_istore] at hk
  split at hk
  · exact ⟨_, _, hk, fun p l e R s m args below meth c H locs cells slots Q ls hx hb ho ht hl kk => lv_istore hx hb hd hl hi rfl fun ls' hl' => kk _ (LV.s1 (ls := ls) hl')⟩
  · cases hk
theorem s_istore_n {d : MD} {g : GE} {pc : Nat} {k : KT} {i : Nat} {f : Fin 4} (h : Snd d g (pc + 1) k) (hd : decode d.1 pc = .ok (.istore_n f, 1)) (hf : (f : Nat) = i) (hi : i < d.2.2.1) : Snd d g pc (i_istore i k) := h.pure fun st lv w o w' hk => by
  simp only [i_istore] at hk
  split at hk
  · exact ⟨_, _, hk, fun p l e R s m args below meth c H locs cells slots Q ls hx hb ho ht hl kk => lv_istore_n hx hb hd hf hl hi rfl fun ls' hl' => kk _ (LV.s1 (ls := ls) hl')⟩
  · cases hk
def i_lstore (i : Nat) (k : KT) : KT := fun st lv w => match st with
  | .long x :: r => k r (lset2 lv i (.long x)) w
  | _ => none
theorem s_lstore {d : MD} {g : GE} {pc : Nat} {k : KT} {i : Nat} (h : Snd d g (pc + 2) k) (hd : decode d.1 pc = .ok (.lstore i, 2)) (hi : i + 1 < d.2.2.1) : Snd d g pc (i_lstore i k) := h.pure fun st lv w o w' hk => by
  simp only [i_lstore] at hk
  split at hk
  · exact ⟨_, _, hk, fun p l e R s m args below meth c H locs cells slots Q ls hx hb ho ht hl kk => lv_lstore hx hb hd hl hi rfl fun ls' hl' => kk _ (LV.s2 (ls := ls) hl')⟩
  · cases hk
theorem s_lstore_n {d : MD} {g : GE} {pc : Nat} {k : KT} {i : Nat} {f : Fin 4} (h : Snd d g (pc + 1) k) (hd : decode d.1 pc = .ok (.lstore_n f, 1)) (hf : (f : Nat) = i) (hi : i + 1 < d.2.2.1) : Snd d g pc (i_lstore i k) := h.pure fun st lv w o w' hk => by
  simp only [i_lstore] at hk
  split at hk
  · exact ⟨_, _, hk, fun p l e R s m args below meth c H locs cells slots Q ls hx hb ho ht hl kk => lv_lstore_n hx hb hd hf hl hi rfl fun ls' hl' => kk _ (LV.s2 (ls := ls) hl')⟩
  · cases hk
def i_astore (i : Nat) (k : KT) : KT := fun st lv w => match st with
  | .ref x :: r => k r (lset1 lv i (.ref x)) w
  | .null :: r => k r (lset1 lv i .null) w
  | _ => none
theorem s_astore {d : MD} {g : GE} {pc : Nat} {k : KT} {i : Nat} (h : Snd d g (pc + 2) k) (hd : decode d.1 pc = .ok (.astore i, 2)) (hi : i < d.2.2.1) : Snd d g pc (i_astore i k) := h.pure fun st lv w o w' hk => by
  simp only [i_astore] at hk
  split at hk
  · exact ⟨_, _, hk, fun p l e R s m args below meth c H locs cells slots Q ls hx hb ho ht hl kk => lv_astore hx hb hd hl hi rfl fun ls' hl' => kk _ (LV.s1 (ls := ls) hl')⟩
  · exact ⟨_, _, hk, fun p l e R s m args below meth c H locs cells slots Q ls hx hb ho ht hl kk => lv_astoreN hx hb hd hl hi rfl fun ls' hl' => kk _ (LV.s1 (ls := ls) hl')⟩
  · cases hk
theorem s_astore_n {d : MD} {g : GE} {pc : Nat} {k : KT} {i : Nat} {f : Fin 4} (h : Snd d g (pc + 1) k) (hd : decode d.1 pc = .ok (.astore_n f, 1)) (hf : (f : Nat) = i) (hi : i < d.2.2.1) : Snd d g pc (i_astore i k) := h.pure fun st lv w o w' hk => by
  simp only [i_astore] at hk
  split at hk
  · exact ⟨_, _, hk, fun p l e R s m args below meth c H locs cells slots Q ls hx hb ho ht hl kk => lv_astore_n hx hb hd hf hl hi rfl fun ls' hl' => kk _ (LV.s1 (ls := ls) hl')⟩
  · exact ⟨_, _, hk, fun p l e R s m args below meth c H locs cells slots Q ls hx hb ho ht hl kk => lv_astore_nN hx hb hd hf hl hi rfl fun ls' hl' => kk _ (LV.s1 (ls := ls) hl')⟩
  · cases hk
def i_iinc (i : Nat) (n : Int32) (k : KT) : KT := fun st lv w => match lv[i]? with
  | some (some (.int x)) => k st (lset1 lv i (.int (x + n))) w
  | _ => none
theorem s_iinc {d : MD} {g : GE} {pc : Nat} {k : KT} {i : Nat} {n : Int} {v : Int32} (h : Snd d g (pc + 3) k) (hd : decode d.1 pc = .ok (.iinc i n, 3)) (hv : Int32.ofInt n = v) (hi : i < d.2.2.1) : Snd d g pc (i_iinc i v k) := h.pure fun st lv w o w' hk => by
  subst hv
  simp only [i_iinc] at hk
  split at hk
  · next x hx0 =>
    obtain ⟨j, hj⟩ := List.getElem?_of_mem ((asc_mem lv 0 i).mpr ⟨i, by omega, hx0⟩)
    exact ⟨_, _, hk, fun p l e R s m args below meth c H locs cells slots Q ls hx hb ho ht hl kk => lv_iinc hx hb hd hl hj rfl hi rfl fun ls' hl' => kk _ (LV.s1 (ls := ls) hl')⟩
  · cases hk
def i_iadd (k : KT) : KT := fun st lv w => match st with
  | .int y :: .int x :: r => k (.int (x + y) :: r) lv w
  | _ => none
theorem s_iadd {d : MD} {g : GE} {pc : Nat} {k : KT} (h : Snd d g (pc + 1) k) (hd : decode d.1 pc = .ok (.iadd, 1)) : Snd d g pc (i_iadd k) := h.pure fun st lv w o w' hk => by
  simp only [i_iadd] at hk
  split at hk
  · exact ⟨_, _, hk, fun p l e R s m args below meth c H locs cells slots Q ls hx hb ho ht hl kk => lv_iadd hx hb hd (kk _ hl)⟩
  · cases hk
def i_isub (k : KT) : KT := fun st lv w => match st with
  | .int y :: .int x :: r => k (.int (x - y) :: r) lv w
  | _ => none
theorem s_isub {d : MD} {g : GE} {pc : Nat} {k : KT} (h : Snd d g (pc + 1) k) (hd : decode d.1 pc = .ok (.isub, 1)) : Snd d g pc (i_isub k) := h.pure fun st lv w o w' hk => by
  simp only [i_isub] at hk
  split at hk
  · exact ⟨_, _, hk, fun p l e R s m args below meth c H locs cells slots Q ls hx hb ho ht hl kk => lv_isub hx hb hd (kk _ hl)⟩
  · cases hk
def i_imul (k : KT) : KT := fun st lv w => match st with
  | .int y :: .int x :: r => k (.int (x * y) :: r) lv w
  | _ => none
theorem s_imul {d : MD} {g : GE} {pc : Nat} {k : KT} (h : Snd d g (pc + 1) k) (hd : decode d.1 pc = .ok (.imul, 1)) : Snd d g pc (i_imul k) := h.pure fun st lv w o w' hk => by
  simp only [i_imul] at hk
  split at hk
  · exact ⟨_, _, hk, fun p l e R s m args below meth c H locs cells slots Q ls hx hb ho ht hl kk => lv_imul hx hb hd (kk _ hl)⟩
  · cases hk
def i_iand (k : KT) : KT := fun st lv w => match st with
  | .int y :: .int x :: r => k (.int (x &&& y) :: r) lv w
  | _ => none
theorem s_iand {d : MD} {g : GE} {pc : Nat} {k : KT} (h : Snd d g (pc + 1) k) (hd : decode d.1 pc = .ok (.iand, 1)) : Snd d g pc (i_iand k) := h.pure fun st lv w o w' hk => by
  simp only [i_iand] at hk
  split at hk
  · exact ⟨_, _, hk, fun p l e R s m args below meth c H locs cells slots Q ls hx hb ho ht hl kk => lv_iand hx hb hd (kk _ hl)⟩
  · cases hk
def i_ior (k : KT) : KT := fun st lv w => match st with
  | .int y :: .int x :: r => k (.int (x ||| y) :: r) lv w
  | _ => none
theorem s_ior {d : MD} {g : GE} {pc : Nat} {k : KT} (h : Snd d g (pc + 1) k) (hd : decode d.1 pc = .ok (.ior, 1)) : Snd d g pc (i_ior k) := h.pure fun st lv w o w' hk => by
  simp only [i_ior] at hk
  split at hk
  · exact ⟨_, _, hk, fun p l e R s m args below meth c H locs cells slots Q ls hx hb ho ht hl kk => lv_ior hx hb hd (kk _ hl)⟩
  · cases hk
def i_ixor (k : KT) : KT := fun st lv w => match st with
  | .int y :: .int x :: r => k (.int (x ^^^ y) :: r) lv w
  | _ => none
theorem s_ixor {d : MD} {g : GE} {pc : Nat} {k : KT} (h : Snd d g (pc + 1) k) (hd : decode d.1 pc = .ok (.ixor, 1)) : Snd d g pc (i_ixor k) := h.pure fun st lv w o w' hk => by
  simp only [i_ixor] at hk
  split at hk
  · exact ⟨_, _, hk, fun p l e R s m args below meth c H locs cells slots Q ls hx hb ho ht hl kk => lv_ixor hx hb hd (kk _ hl)⟩
  · cases hk
def i_ishl (k : KT) : KT := fun st lv w => match st with
  | .int y :: .int x :: r => k (.int (x <<< (y &&& 31)) :: r) lv w
  | _ => none
theorem s_ishl {d : MD} {g : GE} {pc : Nat} {k : KT} (h : Snd d g (pc + 1) k) (hd : decode d.1 pc = .ok (.ishl, 1)) : Snd d g pc (i_ishl k) := h.pure fun st lv w o w' hk => by
  simp only [i_ishl] at hk
  split at hk
  · exact ⟨_, _, hk, fun p l e R s m args below meth c H locs cells slots Q ls hx hb ho ht hl kk => lv_ishl hx hb hd (kk _ hl)⟩
  · cases hk
def i_ishr (k : KT) : KT := fun st lv w => match st with
  | .int y :: .int x :: r => k (.int (x >>> (y &&& 31)) :: r) lv w
  | _ => none
theorem s_ishr {d : MD} {g : GE} {pc : Nat} {k : KT} (h : Snd d g (pc + 1) k) (hd : decode d.1 pc = .ok (.ishr, 1)) : Snd d g pc (i_ishr k) := h.pure fun st lv w o w' hk => by
  simp only [i_ishr] at hk
  split at hk
  · exact ⟨_, _, hk, fun p l e R s m args below meth c H locs cells slots Q ls hx hb ho ht hl kk => lv_ishr hx hb hd (kk _ hl)⟩
  · cases hk
def i_iushr (k : KT) : KT := fun st lv w => match st with
  | .int y :: .int x :: r => k (.int (x.toUInt32 >>> (y.toUInt32 &&& Int32.toUInt32 31)).toInt32 :: r) lv w
  | _ => none
theorem s_iushr {d : MD} {g : GE} {pc : Nat} {k : KT} (h : Snd d g (pc + 1) k) (hd : decode d.1 pc = .ok (.iushr, 1)) : Snd d g pc (i_iushr k) := h.pure fun st lv w o w' hk => by
  simp only [i_iushr] at hk
  split at hk
  · exact ⟨_, _, hk, fun p l e R s m args below meth c H locs cells slots Q ls hx hb ho ht hl kk => lv_iushr hx hb hd rfl (kk _ hl)⟩
  · cases hk
def i_idiv (k : KT) : KT := fun st lv w => match st with
  | .int y :: .int x :: r => if y = 0 then none else k (.int (x / y) :: r) lv w
  | _ => none
theorem s_idiv {d : MD} {g : GE} {pc : Nat} {k : KT} (h : Snd d g (pc + 1) k) (hd : decode d.1 pc = .ok (.idiv, 1)) : Snd d g pc (i_idiv k) := h.pure fun st lv w o w' hk => by
  simp only [i_idiv] at hk
  split at hk
  · split at hk
    · cases hk
    · next hy => exact ⟨_, _, hk, fun p l e R s m args below meth c H locs cells slots Q ls hx hb ho ht hl kk => lv_idiv hx hb hd hy (kk _ hl)⟩
  · cases hk
def i_irem (k : KT) : KT := fun st lv w => match st with
  | .int y :: .int x :: r => if y = 0 then none else k (.int (x - x / y * y) :: r) lv w
  | _ => none
theorem s_irem {d : MD} {g : GE} {pc : Nat} {k : KT} (h : Snd d g (pc + 1) k) (hd : decode d.1 pc = .ok (.irem, 1)) : Snd d g pc (i_irem k) := h.pure fun st lv w o w' hk => by
  simp only [i_irem] at hk
  split at hk
  · split at hk
    · cases hk
    · next hy => exact ⟨_, _, hk, fun p l e R s m args below meth c H locs cells slots Q ls hx hb ho ht hl kk => lv_irem hx hb hd hy (kk _ hl)⟩
  · cases hk
def i_ldiv (k : KT) : KT := fun st lv w => match st with
  | .long y :: .long x :: r => if y = 0 then none else k (.long (x / y) :: r) lv w
  | _ => none
theorem s_ldiv {d : MD} {g : GE} {pc : Nat} {k : KT} (h : Snd d g (pc + 1) k) (hd : decode d.1 pc = .ok (.ldiv, 1)) : Snd d g pc (i_ldiv k) := h.pure fun st lv w o w' hk => by
  simp only [i_ldiv] at hk
  split at hk
  · split at hk
    · cases hk
    · next hy => exact ⟨_, _, hk, fun p l e R s m args below meth c H locs cells slots Q ls hx hb ho ht hl kk => lv_ldiv hx hb hd hy (kk _ hl)⟩
  · cases hk
def i_lrem (k : KT) : KT := fun st lv w => match st with
  | .long y :: .long x :: r => if y = 0 then none else k (.long (x - x / y * y) :: r) lv w
  | _ => none
theorem s_lrem {d : MD} {g : GE} {pc : Nat} {k : KT} (h : Snd d g (pc + 1) k) (hd : decode d.1 pc = .ok (.lrem, 1)) : Snd d g pc (i_lrem k) := h.pure fun st lv w o w' hk => by
  simp only [i_lrem] at hk
  split at hk
  · split at hk
    · cases hk
    · next hy => exact ⟨_, _, hk, fun p l e R s m args below meth c H locs cells slots Q ls hx hb ho ht hl kk => lv_lrem hx hb hd hy (kk _ hl)⟩
  · cases hk
def i_ladd (k : KT) : KT := fun st lv w => match st with
  | .long y :: .long x :: r => k (.long (x + y) :: r) lv w
  | _ => none
theorem s_ladd {d : MD} {g : GE} {pc : Nat} {k : KT} (h : Snd d g (pc + 1) k) (hd : decode d.1 pc = .ok (.ladd, 1)) : Snd d g pc (i_ladd k) := h.pure fun st lv w o w' hk => by
  simp only [i_ladd] at hk
  split at hk
  · exact ⟨_, _, hk, fun p l e R s m args below meth c H locs cells slots Q ls hx hb ho ht hl kk => lv_ladd hx hb hd (kk _ hl)⟩
  · cases hk
def i_lsub (k : KT) : KT := fun st lv w => match st with
  | .long y :: .long x :: r => k (.long (x - y) :: r) lv w
  | _ => none
theorem s_lsub {d : MD} {g : GE} {pc : Nat} {k : KT} (h : Snd d g (pc + 1) k) (hd : decode d.1 pc = .ok (.lsub, 1)) : Snd d g pc (i_lsub k) := h.pure fun st lv w o w' hk => by
  simp only [i_lsub] at hk
  split at hk
  · exact ⟨_, _, hk, fun p l e R s m args below meth c H locs cells slots Q ls hx hb ho ht hl kk => lv_lsub hx hb hd (kk _ hl)⟩
  · cases hk
def i_lmul (k : KT) : KT := fun st lv w => match st with
  | .long y :: .long x :: r => k (.long (x * y) :: r) lv w
  | _ => none
theorem s_lmul {d : MD} {g : GE} {pc : Nat} {k : KT} (h : Snd d g (pc + 1) k) (hd : decode d.1 pc = .ok (.lmul, 1)) : Snd d g pc (i_lmul k) := h.pure fun st lv w o w' hk => by
  simp only [i_lmul] at hk
  split at hk
  · exact ⟨_, _, hk, fun p l e R s m args below meth c H locs cells slots Q ls hx hb ho ht hl kk => lv_lmul hx hb hd (kk _ hl)⟩
  · cases hk
def i_land (k : KT) : KT := fun st lv w => match st with
  | .long y :: .long x :: r => k (.long (x &&& y) :: r) lv w
  | _ => none
theorem s_land {d : MD} {g : GE} {pc : Nat} {k : KT} (h : Snd d g (pc + 1) k) (hd : decode d.1 pc = .ok (.land, 1)) : Snd d g pc (i_land k) := h.pure fun st lv w o w' hk => by
  simp only [i_land] at hk
  split at hk
  · exact ⟨_, _, hk, fun p l e R s m args below meth c H locs cells slots Q ls hx hb ho ht hl kk => lv_land hx hb hd (kk _ hl)⟩
  · cases hk
def i_lor (k : KT) : KT := fun st lv w => match st with
  | .long y :: .long x :: r => k (.long (x ||| y) :: r) lv w
  | _ => none
theorem s_lor {d : MD} {g : GE} {pc : Nat} {k : KT} (h : Snd d g (pc + 1) k) (hd : decode d.1 pc = .ok (.lor, 1)) : Snd d g pc (i_lor k) := h.pure fun st lv w o w' hk => by
  simp only [i_lor] at hk
  split at hk
  · exact ⟨_, _, hk, fun p l e R s m args below meth c H locs cells slots Q ls hx hb ho ht hl kk => lv_lor hx hb hd (kk _ hl)⟩
  · cases hk
def i_lxor (k : KT) : KT := fun st lv w => match st with
  | .long y :: .long x :: r => k (.long (x ^^^ y) :: r) lv w
  | _ => none
theorem s_lxor {d : MD} {g : GE} {pc : Nat} {k : KT} (h : Snd d g (pc + 1) k) (hd : decode d.1 pc = .ok (.lxor, 1)) : Snd d g pc (i_lxor k) := h.pure fun st lv w o w' hk => by
  simp only [i_lxor] at hk
  split at hk
  · exact ⟨_, _, hk, fun p l e R s m args below meth c H locs cells slots Q ls hx hb ho ht hl kk => lv_lxor hx hb hd (kk _ hl)⟩
  · cases hk
def i_lushr (k : KT) : KT := fun st lv w => match st with
  | .int y :: .long x :: r => k (.long ((x.toUInt64 >>> (y.toInt64.toUInt64 &&& Int64.toUInt64 63)).toInt64) :: r) lv w
  | _ => none
theorem s_lushr {d : MD} {g : GE} {pc : Nat} {k : KT} (h : Snd d g (pc + 1) k) (hd : decode d.1 pc = .ok (.lushr, 1)) : Snd d g pc (i_lushr k) := h.pure fun st lv w o w' hk => by
  simp only [i_lushr] at hk
  split at hk
  · exact ⟨_, _, hk, fun p l e R s m args below meth c H locs cells slots Q ls hx hb ho ht hl kk => lv_lushr hx hb hd rfl (kk _ hl)⟩
  · cases hk
def i_lshl (k : KT) : KT := fun st lv w => match st with
  | .int y :: .long x :: r => k (.long (x <<< (y.toInt64 &&& 63)) :: r) lv w
  | _ => none
theorem s_lshl {d : MD} {g : GE} {pc : Nat} {k : KT} (h : Snd d g (pc + 1) k) (hd : decode d.1 pc = .ok (.lshl, 1)) : Snd d g pc (i_lshl k) := h.pure fun st lv w o w' hk => by
  simp only [i_lshl] at hk
  split at hk
  · exact ⟨_, _, hk, fun p l e R s m args below meth c H locs cells slots Q ls hx hb ho ht hl kk => lv_lshl hx hb hd rfl (kk _ hl)⟩
  · cases hk
def i_lshr (k : KT) : KT := fun st lv w => match st with
  | .int y :: .long x :: r => k (.long (x >>> (y.toInt64 &&& 63)) :: r) lv w
  | _ => none
theorem s_lshr {d : MD} {g : GE} {pc : Nat} {k : KT} (h : Snd d g (pc + 1) k) (hd : decode d.1 pc = .ok (.lshr, 1)) : Snd d g pc (i_lshr k) := h.pure fun st lv w o w' hk => by
  simp only [i_lshr] at hk
  split at hk
  · exact ⟨_, _, hk, fun p l e R s m args below meth c H locs cells slots Q ls hx hb ho ht hl kk => lv_lshr hx hb hd rfl (kk _ hl)⟩
  · cases hk
def i_i2l (k : KT) : KT := fun st lv w => match st with
  | .int x :: r => k (.long x.toInt64 :: r) lv w
  | _ => none
theorem s_i2l {d : MD} {g : GE} {pc : Nat} {k : KT} (h : Snd d g (pc + 1) k) (hd : decode d.1 pc = .ok (.i2l, 1)) : Snd d g pc (i_i2l k) := h.pure fun st lv w o w' hk => by
  simp only [i_i2l] at hk
  split at hk
  · exact ⟨_, _, hk, fun p l e R s m args below meth c H locs cells slots Q ls hx hb ho ht hl kk => lv_i2l hx hb hd rfl (kk _ hl)⟩
  · cases hk
def i_l2i (k : KT) : KT := fun st lv w => match st with
  | .long x :: r => k (.int x.toInt32 :: r) lv w
  | _ => none
theorem s_l2i {d : MD} {g : GE} {pc : Nat} {k : KT} (h : Snd d g (pc + 1) k) (hd : decode d.1 pc = .ok (.l2i, 1)) : Snd d g pc (i_l2i k) := h.pure fun st lv w o w' hk => by
  simp only [i_l2i] at hk
  split at hk
  · exact ⟨_, _, hk, fun p l e R s m args below meth c H locs cells slots Q ls hx hb ho ht hl kk => lv_l2i hx hb hd rfl (kk _ hl)⟩
  · cases hk
def i_i2b (k : KT) : KT := fun st lv w => match st with
  | .int x :: r => k (.int x.toInt8.toInt32 :: r) lv w
  | _ => none
theorem s_i2b {d : MD} {g : GE} {pc : Nat} {k : KT} (h : Snd d g (pc + 1) k) (hd : decode d.1 pc = .ok (.i2b, 1)) : Snd d g pc (i_i2b k) := h.pure fun st lv w o w' hk => by
  simp only [i_i2b] at hk
  split at hk
  · exact ⟨_, _, hk, fun p l e R s m args below meth c H locs cells slots Q ls hx hb ho ht hl kk => lv_i2b hx hb hd rfl (kk _ hl)⟩
  · cases hk
def i_lcmp (k : KT) : KT := fun st lv w => match st with
  | .long y :: .long x :: r => k (.int (lg_cmp x y) :: r) lv w
  | _ => none
theorem s_lcmp {d : MD} {g : GE} {pc : Nat} {k : KT} (h : Snd d g (pc + 1) k) (hd : decode d.1 pc = .ok (.lcmp, 1)) : Snd d g pc (i_lcmp k) := h.pure fun st lv w o w' hk => by
  simp only [i_lcmp] at hk
  split at hk
  · exact ⟨_, _, hk, fun p l e R s m args below meth c H locs cells slots Q ls hx hb ho ht hl kk => W.lcmp hx hb hd (kk _ hl)⟩
  · cases hk
def i_dup (k : KT) : KT := fun st lv w => match st with
  | v :: r => if v.category = 1 then k (v :: v :: r) lv w else none
  | _ => none
theorem s_dup {d : MD} {g : GE} {pc : Nat} {k : KT} (h : Snd d g (pc + 1) k) (hd : decode d.1 pc = .ok (.dup, 1)) : Snd d g pc (i_dup k) := h.pure fun st lv w o w' hk => by
  simp only [i_dup] at hk
  split at hk
  · split at hk
    · next hc => exact ⟨_, _, hk, fun p l e R s m args below meth c H locs cells slots Q ls hx hb ho ht hl kk => lv_dup hx hb hd hc (kk _ hl)⟩
    · cases hk
  · cases hk
def i_pop (k : KT) : KT := fun st lv w => match st with
  | v :: r => if v.category = 1 then k r lv w else none
  | _ => none
theorem s_pop {d : MD} {g : GE} {pc : Nat} {k : KT} (h : Snd d g (pc + 1) k) (hd : decode d.1 pc = .ok (.pop, 1)) : Snd d g pc (i_pop k) := h.pure fun st lv w o w' hk => by
  simp only [i_pop] at hk
  split at hk
  · split at hk
    · next hc => exact ⟨_, _, hk, fun p l e R s m args below meth c H locs cells slots Q ls hx hb ho ht hl kk => lv_pop hx hb hd hc (kk _ hl)⟩
    · cases hk
  · cases hk
def i_dup2 (k : KT) : KT := fun st lv w => match st with
  | u :: v :: r => if u.category = 1 ∧ v.category = 1 then k (u :: v :: u :: v :: r) lv w else none
  | _ => none
theorem s_dup2 {d : MD} {g : GE} {pc : Nat} {k : KT} (h : Snd d g (pc + 1) k) (hd : decode d.1 pc = .ok (.dup2, 1)) : Snd d g pc (i_dup2 k) := h.pure fun st lv w o w' hk => by
  simp only [i_dup2] at hk
  split at hk
  · split at hk
    · next hc => exact ⟨_, _, hk, fun p l e R s m args below meth c H locs cells slots Q ls hx hb ho ht hl kk => lv_dup2_11 hx hb hd hc.1 hc.2 (kk _ hl)⟩
    · cases hk
  · cases hk
def i_ifeq (kt kf : KT) : KT := fun st lv w => match st with
  | .int x :: r => if x = 0 then kt r lv w else kf r lv w
  | _ => none
theorem s_ifeq {d : MD} {g : GE} {pc : Nat} {kt kf : KT} {off : Int} {tgt : Nat} (h1 : Snd d g tgt kt) (h2 : Snd d g (pc + 3) kf) (hd : decode d.1 pc = .ok (.ifCond .eq off, 3)) (hto : (pc : Int) + off = (tgt : Int)) : Snd d g pc (i_ifeq kt kf) := Snd.br h1 h2 fun st lv w o w' hk => by
  simp only [i_ifeq] at hk
  split at hk
  · split at hk
    · next hc => exact Or.inl ⟨_, _, hk, fun p l e R s m args below meth c H locs cells slots Q ls hx hb ho ht hl kk => lv_if_eq hx hb hd hto (fun _ => kk _ hl) (fun q => absurd hc q)⟩
    · next hc => exact Or.inr ⟨_, _, hk, fun p l e R s m args below meth c H locs cells slots Q ls hx hb ho ht hl kk => lv_if_eq hx hb hd hto (fun q => absurd q hc) (fun _ => kk _ hl)⟩
  · cases hk
def i_iceq (kt kf : KT) : KT := fun st lv w => match st with
  | .int y :: .int x :: r => if x = y then kt r lv w else kf r lv w
  | _ => none
theorem s_iceq {d : MD} {g : GE} {pc : Nat} {kt kf : KT} {off : Int} {tgt : Nat} (h1 : Snd d g tgt kt) (h2 : Snd d g (pc + 3) kf) (hd : decode d.1 pc = .ok (.if_icmp .eq off, 3)) (hto : (pc : Int) + off = (tgt : Int)) : Snd d g pc (i_iceq kt kf) := Snd.br h1 h2 fun st lv w o w' hk => by
  simp only [i_iceq] at hk
  split at hk
  · split at hk
    · next hc => exact Or.inl ⟨_, _, hk, fun p l e R s m args below meth c H locs cells slots Q ls hx hb ho ht hl kk => lv_icmp_eq hx hb hd hto (fun _ => kk _ hl) (fun q => absurd hc q)⟩
    · next hc => exact Or.inr ⟨_, _, hk, fun p l e R s m args below meth c H locs cells slots Q ls hx hb ho ht hl kk => lv_icmp_eq hx hb hd hto (fun q => absurd q hc) (fun _ => kk _ hl)⟩
  · cases hk
def i_ifne (kt kf : KT) : KT := fun st lv w => match st with
  | .int x :: r => if ¬ x = 0 then kt r lv w else kf r lv w
  | _ => none
theorem s_ifne {d : MD} {g : GE} {pc : Nat} {kt kf : KT} {off : Int} {tgt : Nat} (h1 : Snd d g tgt kt) (h2 : Snd d g (pc + 3) kf) (hd : decode d.1 pc = .ok (.ifCond .ne off, 3)) (hto : (pc : Int) + off = (tgt : Int)) : Snd d g pc (i_ifne kt kf) := Snd.br h1 h2 fun st lv w o w' hk => by
  simp only [i_ifne] at hk
  split at hk
  · split at hk
    · next hc => exact Or.inl ⟨_, _, hk, fun p l e R s m args below meth c H locs cells slots Q ls hx hb ho ht hl kk => lv_if_ne hx hb hd hto (fun _ => kk _ hl) (fun q => absurd q hc)⟩
    · next hc => exact Or.inr ⟨_, _, hk, fun p l e R s m args below meth c H locs cells slots Q ls hx hb ho ht hl kk => lv_if_ne hx hb hd hto (fun q => absurd q hc) (fun _ => kk _ hl)⟩
  · cases hk
def i_icne (kt kf : KT) : KT := fun st lv w => match st with
  | .int y :: .int x :: r => if ¬ x = y then kt r lv w else kf r lv w
  | _ => none
theorem s_icne {d : MD} {g : GE} {pc : Nat} {kt kf : KT} {off : Int} {tgt : Nat} (h1 : Snd d g tgt kt) (h2 : Snd d g (pc + 3) kf) (hd : decode d.1 pc = .ok (.if_icmp .ne off, 3)) (hto : (pc : Int) + off = (tgt : Int)) : Snd d g pc (i_icne kt kf) := Snd.br h1 h2 fun st lv w o w' hk => by
  simp only [i_icne] at hk
  split at hk
  · split at hk
    · next hc => exact Or.inl ⟨_, _, hk, fun p l e R s m args below meth c H locs cells slots Q ls hx hb ho ht hl kk => lv_icmp_ne hx hb hd hto (fun _ => kk _ hl) (fun q => absurd q hc)⟩
    · next hc => exact Or.inr ⟨_, _, hk, fun p l e R s m args below meth c H locs cells slots Q ls hx hb ho ht hl kk => lv_icmp_ne hx hb hd hto (fun q => absurd q hc) (fun _ => kk _ hl)⟩
  · cases hk
def i_iflt (kt kf : KT) : KT := fun st lv w => match st with
  | .int x :: r => if x < 0 then kt r lv w else kf r lv w
  | _ => none
theorem s_iflt {d : MD} {g : GE} {pc : Nat} {kt kf : KT} {off : Int} {tgt : Nat} (h1 : Snd d g tgt kt) (h2 : Snd d g (pc + 3) kf) (hd : decode d.1 pc = .ok (.ifCond .lt off, 3)) (hto : (pc : Int) + off = (tgt : Int)) : Snd d g pc (i_iflt kt kf) := Snd.br h1 h2 fun st lv w o w' hk => by
  simp only [i_iflt] at hk
  split at hk
  · split at hk
    · next hc => exact Or.inl ⟨_, _, hk, fun p l e R s m args below meth c H locs cells slots Q ls hx hb ho ht hl kk => lv_if_lt hx hb hd hto (fun _ => kk _ hl) (fun q => absurd hc q)⟩
    · next hc => exact Or.inr ⟨_, _, hk, fun p l e R s m args below meth c H locs cells slots Q ls hx hb ho ht hl kk => lv_if_lt hx hb hd hto (fun q => absurd q hc) (fun _ => kk _ hl)⟩
  · cases hk
def i_iclt (kt kf : KT) : KT := fun st lv w => match st with
  | .int y :: .int x :: r => if x < y then kt r lv w else kf r lv w
  | _ => none
theorem s_iclt {d : MD} {g : GE} {pc : Nat} {kt kf : KT} {off : Int} {tgt : Nat} (h1 : Snd d g tgt kt) (h2 : Snd d g (pc + 3) kf) (hd : decode d.1 pc = .ok (.if_icmp .lt off, 3)) (hto : (pc : Int) + off = (tgt : Int)) : Snd d g pc (i_iclt kt kf) := Snd.br h1 h2 fun st lv w o w' hk => by
  simp only [i_iclt] at hk
  split at hk
  · split at hk
    · next hc => exact Or.inl ⟨_, _, hk, fun p l e R s m args below meth c H locs cells slots Q ls hx hb ho ht hl kk => lv_icmp_lt hx hb hd hto (fun _ => kk _ hl) (fun q => absurd hc q)⟩
    · next hc => exact Or.inr ⟨_, _, hk, fun p l e R s m args below meth c H locs cells slots Q ls hx hb ho ht hl kk => lv_icmp_lt hx hb hd hto (fun q => absurd q hc) (fun _ => kk _ hl)⟩
  · cases hk
def i_ifge (kt kf : KT) : KT := fun st lv w => match st with
  | .int x :: r => if 0 ≤ x then kt r lv w else kf r lv w
  | _ => none
theorem s_ifge {d : MD} {g : GE} {pc : Nat} {kt kf : KT} {off : Int} {tgt : Nat} (h1 : Snd d g tgt kt) (h2 : Snd d g (pc + 3) kf) (hd : decode d.1 pc = .ok (.ifCond .ge off, 3)) (hto : (pc : Int) + off = (tgt : Int)) : Snd d g pc (i_ifge kt kf) := Snd.br h1 h2 fun st lv w o w' hk => by
  simp only [i_ifge] at hk
  split at hk
  · split at hk
    · next hc => exact Or.inl ⟨_, _, hk, fun p l e R s m args below meth c H locs cells slots Q ls hx hb ho ht hl kk => lv_if_ge hx hb hd hto (fun _ => kk _ hl) (fun q => absurd hc q)⟩
    · next hc => exact Or.inr ⟨_, _, hk, fun p l e R s m args below meth c H locs cells slots Q ls hx hb ho ht hl kk => lv_if_ge hx hb hd hto (fun q => absurd q hc) (fun _ => kk _ hl)⟩
  · cases hk
def i_icge (kt kf : KT) : KT := fun st lv w => match st with
  | .int y :: .int x :: r => if y ≤ x then kt r lv w else kf r lv w
  | _ => none
theorem s_icge {d : MD} {g : GE} {pc : Nat} {kt kf : KT} {off : Int} {tgt : Nat} (h1 : Snd d g tgt kt) (h2 : Snd d g (pc + 3) kf) (hd : decode d.1 pc = .ok (.if_icmp .ge off, 3)) (hto : (pc : Int) + off = (tgt : Int)) : Snd d g pc (i_icge kt kf) := Snd.br h1 h2 fun st lv w o w' hk => by
  simp only [i_icge] at hk
  split at hk
  · split at hk
    · next hc => exact Or.inl ⟨_, _, hk, fun p l e R s m args below meth c H locs cells slots Q ls hx hb ho ht hl kk => lv_icmp_ge hx hb hd hto (fun _ => kk _ hl) (fun q => absurd hc q)⟩
    · next hc => exact Or.inr ⟨_, _, hk, fun p l e R s m args below meth c H locs cells slots Q ls hx hb ho ht hl kk => lv_icmp_ge hx hb hd hto (fun q => absurd q hc) (fun _ => kk _ hl)⟩
  · cases hk
def i_ifgt (kt kf : KT) : KT := fun st lv w => match st with
  | .int x :: r => if 0 < x then kt r lv w else kf r lv w
  | _ => none
theorem s_ifgt {d : MD} {g : GE} {pc : Nat} {kt kf : KT} {off : Int} {tgt : Nat} (h1 : Snd d g tgt kt) (h2 : Snd d g (pc + 3) kf) (hd : decode d.1 pc = .ok (.ifCond .gt off, 3)) (hto : (pc : Int) + off = (tgt : Int)) : Snd d g pc (i_ifgt kt kf) := Snd.br h1 h2 fun st lv w o w' hk => by
  simp only [i_ifgt] at hk
  split at hk
  · split at hk
    · next hc => exact Or.inl ⟨_, _, hk, fun p l e R s m args below meth c H locs cells slots Q ls hx hb ho ht hl kk => lv_if_gt hx hb hd hto (fun _ => kk _ hl) (fun q => absurd hc q)⟩
    · next hc => exact Or.inr ⟨_, _, hk, fun p l e R s m args below meth c H locs cells slots Q ls hx hb ho ht hl kk => lv_if_gt hx hb hd hto (fun q => absurd q hc) (fun _ => kk _ hl)⟩
  · cases hk
def i_icgt (kt kf : KT) : KT := fun st lv w => match st with
  | .int y :: .int x :: r => if y < x then kt r lv w else kf r lv w
  | _ => none
theorem s_icgt {d : MD} {g : GE} {pc : Nat} {kt kf : KT} {off : Int} {tgt : Nat} (h1 : Snd d g tgt kt) (h2 : Snd d g (pc + 3) kf) (hd : decode d.1 pc = .ok (.if_icmp .gt off, 3)) (hto : (pc : Int) + off = (tgt : Int)) : Snd d g pc (i_icgt kt kf) := Snd.br h1 h2 fun st lv w o w' hk => by
  simp only [i_icgt] at hk
  split at hk
  · split at hk
    · next hc => exact Or.inl ⟨_, _, hk, fun p l e R s m args below meth c H locs cells slots Q ls hx hb ho ht hl kk => lv_icmp_gt hx hb hd hto (fun _ => kk _ hl) (fun q => absurd hc q)⟩
    · next hc => exact Or.inr ⟨_, _, hk, fun p l e R s m args below meth c H locs cells slots Q ls hx hb ho ht hl kk => lv_icmp_gt hx hb hd hto (fun q => absurd q hc) (fun _ => kk _ hl)⟩
  · cases hk
def i_ifle (kt kf : KT) : KT := fun st lv w => match st with
  | .int x :: r => if x ≤ 0 then kt r lv w else kf r lv w
  | _ => none
theorem s_ifle {d : MD} {g : GE} {pc : Nat} {kt kf : KT} {off : Int} {tgt : Nat} (h1 : Snd d g tgt kt) (h2 : Snd d g (pc + 3) kf) (hd : decode d.1 pc = .ok (.ifCond .le off, 3)) (hto : (pc : Int) + off = (tgt : Int)) : Snd d g pc (i_ifle kt kf) := Snd.br h1 h2 fun st lv w o w' hk => by
  simp only [i_ifle] at hk
  split at hk
  · split at hk
    · next hc => exact Or.inl ⟨_, _, hk, fun p l e R s m args below meth c H locs cells slots Q ls hx hb ho ht hl kk => lv_if_le hx hb hd hto (fun _ => kk _ hl) (fun q => absurd hc q)⟩
    · next hc => exact Or.inr ⟨_, _, hk, fun p l e R s m args below meth c H locs cells slots Q ls hx hb ho ht hl kk => lv_if_le hx hb hd hto (fun q => absurd q hc) (fun _ => kk _ hl)⟩
  · cases hk
def i_icle (kt kf : KT) : KT := fun st lv w => match st with
  | .int y :: .int x :: r => if x ≤ y then kt r lv w else kf r lv w
  | _ => none
theorem s_icle {d : MD} {g : GE} {pc : Nat} {kt kf : KT} {off : Int} {tgt : Nat} (h1 : Snd d g tgt kt) (h2 : Snd d g (pc + 3) kf) (hd : decode d.1 pc = .ok (.if_icmp .le off, 3)) (hto : (pc : Int) + off = (tgt : Int)) : Snd d g pc (i_icle kt kf) := Snd.br h1 h2 fun st lv w o w' hk => by
  simp only [i_icle] at hk
  split at hk
  · split at hk
    · next hc => exact Or.inl ⟨_, _, hk, fun p l e R s m args below meth c H locs cells slots Q ls hx hb ho ht hl kk => lv_icmp_le hx hb hd hto (fun _ => kk _ hl) (fun q => absurd hc q)⟩
    · next hc => exact Or.inr ⟨_, _, hk, fun p l e R s m args below meth c H locs cells slots Q ls hx hb ho ht hl kk => lv_icmp_le hx hb hd hto (fun q => absurd q hc) (fun _ => kk _ hl)⟩
  · cases hk
/-- a jump to a place that others come to as well: only what lives there is kept -/
def i_jmp (mk : List Bool) (k : KT) : KT := fun st lv w => k st (msk mk lv) w
theorem s_goto {d : MD} {g : GE} {pc : Nat} {k : KT} {mk : List Bool} {off : Int} {tgt : Nat} (h : Snd d g tgt k) (hd : decode d.1 pc = .ok (.goto off, 3)) (hto : (pc : Int) + off = (tgt : Int)) : Snd d g pc (i_jmp mk k) := h.pure fun st lv w o w' hk =>
  ⟨_, _, hk, fun p l e R s m args below meth c H locs cells slots Q ls hx hb ho ht hl kk => lv_goto hx hb hd hto (kk _ (hl.msk mk))⟩
theorem s_fall {d : MD} {g : GE} {pc : Nat} {k : KT} {mk : List Bool} (h : Snd d g pc k) : Snd d g pc (i_jmp mk k) := h.pure fun st lv w o w' hk =>
  ⟨_, _, hk, fun p l e R s m args below meth c H locs cells slots Q ls hx hb ho ht hl kk => kk _ (hl.msk mk)⟩
theorem s_none {d : MD} {g : GE} {pc : Nat} : Snd d g pc (fun _ _ _ => none) := by
  refine ⟨fun st lv w o w' h => (by cases h), ?_⟩
  intro p l e R s m args below meth c D b0 w0 C H locs ls st lv w o w' hH hS hl z1 z2 hk
  cases hk
