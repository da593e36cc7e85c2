/-! ===== new objects: cells made in a constructor ===== -/
theorem mk_arr {t n k : Nat} {N : Int32} {ty : FieldType} {lv : Lv} {w : Mem} {a ci : Nat} {fs : List Value} (hO : OB w a ci fs) (ha : a < w.2.1) (hk : k < fs.length) (hN : nI n = N) (hn : n ≤ 1000000) (hv : ∀ x, vok ty (.ref x) = true) (hl : lv[0]? = some (some (.ref a))) :
    ∃ w', (∀ K, i_aload 0 (i_push (.int N) (i_newarr t (i_putf ci k ty K))) [] lv w = K [] lv w') ∧ OB w' a ci (fs.set k (.ref w.2.1)) ∧ w'.1 w.2.1 = some (.inl (t, n, zc t)) ∧ w'.2.1 = w.2.1 + 1 ∧ w'.2.2 = w.2.2 + n ∧ FA (fun q => q = a) w w' := by
  subst hN
  have e1 : ¬ nI n < 0 := nI_pos (by omega)
  have e2 : (nI n).toNatClampNeg = n := nI_clamp (by omega)
  have o1 : OB (mnew w (.inl (t, n, zc t)) n) a ci fs := by
    show (if a = w.2.1 then _ else w.1 a) = _
    rw [if_neg (by omega)]
    exact hO
  refine ⟨mset (mnew w (.inl (t, n, zc t)) n) a (.inr (ci, fs.set k (.ref w.2.1))), fun K => ?_, ms_at _ _ _, ?_, rfl, rfl, fun q hq hne => ?_, Nat.le_succ _, Nat.le_add_right _ _⟩
  · have s1 := sf_eq o1 k ty (.ref w.2.1) hk (hv _)
    simp [i_aload, hl, i_push, i_newarr, e1, e2, show ¬ 1000000 < n by omega, i_putf, s1]
  · rw [ms_ne _ _ (by omega)]
    show (if w.2.1 = w.2.1 then _ else _) = _
    rw [if_pos rfl]
  · rw [ms_ne _ _ hne]
    show (if q = w.2.1 then _ else w.1 q) = _
    rw [if_neg (by omega)]
theorem mk_rar {t n k : Nat} {N : Int32} {ty : FieldType} {lv : Lv} {w : Mem} {a ci : Nat} {fs : List Value} (hO : OB w a ci fs) (ha : a < w.2.1) (hk : k < fs.length) (hN : nI n = N) (hn : n ≤ 1000000) (hv : ∀ x, vok ty (.ref x) = true) (hl : lv[0]? = some (some (.ref a))) :
    ∃ w', (∀ K, i_aload 0 (i_push (.int N) (i_anew t (i_putf ci k ty K))) [] lv w = K [] lv w') ∧ OB w' a ci (fs.set k (.ref w.2.1)) ∧ w'.1 w.2.1 = some (.inl (t, n, .inr (.inr (.inr (.inr (fun _ => none)))))) ∧ w'.2.1 = w.2.1 + 1 ∧ w'.2.2 = w.2.2 + n ∧ FA (fun q => q = a) w w' := by
  subst hN
  have e1 : ¬ nI n < 0 := nI_pos (by omega)
  have e2 : (nI n).toNatClampNeg = n := nI_clamp (by omega)
  have o1 : OB (mnew w (.inl (t, n, .inr (.inr (.inr (.inr (fun _ => none)))))) n) a ci fs := by
    show (if a = w.2.1 then _ else w.1 a) = _
    rw [if_neg (by omega)]
    exact hO
  refine ⟨mset (mnew w (.inl (t, n, .inr (.inr (.inr (.inr (fun _ => none)))))) n) a (.inr (ci, fs.set k (.ref w.2.1))), fun K => ?_, ms_at _ _ _, ?_, rfl, rfl, fun q hq hne => ?_, Nat.le_succ _, Nat.le_add_right _ _⟩
  · have s1 := sf_eq o1 k ty (.ref w.2.1) hk (hv _)
    simp [i_aload, hl, i_push, i_anew, e1, e2, show ¬ 1000000 < n by omega, i_putf, s1]
  · rw [ms_ne _ _ (by omega)]
    show (if w.2.1 = w.2.1 then _ else _) = _
    rw [if_pos rfl]
  · rw [ms_ne _ _ hne]
    show (if q = w.2.1 then _ else w.1 q) = _
    rw [if_neg (by omega)]
theorem mk_grd {n m k : Nat} {N M9 : Int32} {lv : Lv} {w : Mem} {a ci : Nat} {fs : List Value} (hO : OB w a ci fs) (ha : a < w.2.1) (hk : k < fs.length) (hN : nI n = N) (hn : n ≤ 1000000) (hM : nI m = M9) (hm : m ≤ 1000000) (hl : lv[0]? = some (some (.ref a))) :
    ∃ w', (∀ K, i_aload 0 (i_push (.int N) (i_push (.int M9) (i_mnew (i_putf ci k (.array (.array .int)) K)))) [] lv w = K [] lv w') ∧ OB w' a ci (fs.set k (.ref w.2.1)) ∧ GRD w' w.2.1 n m (fun _ _ => 0) ∧ w'.2.1 = w.2.1 + 1 + n ∧ w'.2.2 = w.2.2 + n + n * m ∧ FA (fun q => q = a) w w' := by
  subst hN
  subst hM
  have e1 : ¬ nI n < 0 := nI_pos (by omega)
  have e2 : (nI n).toNatClampNeg = n := nI_clamp (by omega)
  have e3 : ¬ nI m < 0 := nI_pos (by omega)
  have e4 : (nI m).toNatClampNeg = m := nI_clamp (by omega)
  have o1 : OB (mgrid w n m) a ci fs := by
    show (if a = w.2.1 then _ else if _ then _ else w.1 a) = _
    rw [if_neg (by omega), if_neg (by omega)]
    exact hO
  refine ⟨mset (mgrid w n m) a (.inr (ci, fs.set k (.ref w.2.1))), fun K => ?_, ms_at _ _ _, ⟨⟨fun i => if i < n then some (w.2.1 + 1 + i) else none, ?_, fun i hi => if_pos hi⟩, fun i hi => ⟨fun _ => 0, ?_, fun j hj => rfl⟩⟩, rfl, rfl, fun q hq hne => ?_, ?_, ?_⟩
  · have s1 := sf_eq o1 k (.array (.array .int)) (.ref w.2.1) hk rfl
    simp [i_aload, hl, i_push, i_mnew, e1, e2, e3, e4, show ¬ 1000000 < n by omega, show ¬ 1000000 < m by omega, i_putf, s1]
  · rw [ms_ne _ _ (by omega)]
    show (if w.2.1 = w.2.1 then _ else _) = _
    rw [if_pos rfl]
  · rw [ms_ne _ _ (by omega)]
    show (if w.2.1 + 1 + i = w.2.1 then _ else if _ then _ else w.1 _) = _
    rw [if_neg (by omega), if_pos (by omega)]
  · rw [ms_ne _ _ hne]
    show (if q = w.2.1 then _ else if _ then _ else w.1 q) = _
    rw [if_neg (by omega), if_neg (by omega)]
  · show w.2.1 ≤ w.2.1 + 1 + n
    omega
  · show w.2.2 ≤ w.2.2 + n + n * m
    omega
theorem cik_0 {F : FT} {g : GE} {k : KT} {a : Nat} {r : List Value} {lv : Lv} {w w1 : Mem} (hF : F g [.ref a] w = some (.inl none, w1)) (hr : r.length ≤ 4) : i_ci F g 0 k (.ref a :: r) lv w = k r lv w1 := by
  unfold i_ci
  simp [hF, hr]
theorem cik_1 {F : FT} {g : GE} {k : KT} {a : Nat} {x : Value} {r : List Value} {lv : Lv} {w w1 : Mem} (hF : F g [.ref a, x] w = some (.inl none, w1)) (hr : r.length ≤ 4) : i_ci F g 1 k (x :: .ref a :: r) lv w = k r lv w1 := by
  unfold i_ci
  simp [hF, hr]
theorem cik_2 {F : FT} {g : GE} {k : KT} {a : Nat} {x y : Value} {r : List Value} {lv : Lv} {w w1 : Mem} (hF : F g [.ref a, x, y] w = some (.inl none, w1)) (hr : r.length ≤ 4) : i_ci F g 2 k (y :: x :: .ref a :: r) lv w = k r lv w1 := by
  unfold i_ci
  simp [hF, hr]
theorem mnw_at (w : Mem) (e : Cl) (n : Nat) : (mnew w e n).1 w.2.1 = some e := by
  show (if w.2.1 = w.2.1 then _ else _) = _
  rw [if_pos rfl]
theorem mn_fa (w : Mem) (e : Cl) (n : Nat) (S : Nat → Prop) : FA S w (mnew w e n) := ⟨fun q hq _ => by
  show (if q = w.2.1 then _ else w.1 q) = _
  rw [if_neg (by omega)], Nat.le_succ _, Nat.le_add_right _ _⟩
/-- an object, made and put into a field -/
theorem mk_new {F : FT} {g : GE} {cj N k : Nat} {fs' : List Value} {ty : FieldType} {lv : Lv} {w w2 : Mem} {a ci : Nat} {fs : List Value} (hO : OB w a ci fs) (ha : a < w.2.1) (hk : k < fs.length) (hv : ∀ x, vok ty (.ref x) = true) (hl : lv[0]? = some (some (.ref a))) (hF : F g [.ref w.2.1] (mnew w (.inr (cj, fs')) N) = some (.inl none, w2)) (hA : FA (fun q => q = w.2.1) (mnew w (.inr (cj, fs')) N) w2) :
    ∃ w', (∀ K, i_aload 0 (i_new cj N fs' (i_dup (i_ci F g 0 (i_putf ci k ty K)))) [] lv w = K [] lv w') ∧ OB w' a ci (fs.set k (.ref w.2.1)) ∧ w'.2 = w2.2 ∧ FA (fun q => q = a) w w' ∧ Fr (fun q => q = a) w2 w' := by
  have o1 : OB (mnew w (.inr (cj, fs')) N) a ci fs := (mn_fa w _ _ (fun _ => False)).at hO ha (fun h => h)
  have o2 : OB w2 a ci fs := hA.at o1 (by show a < w.2.1 + 1; omega) (by omega)
  have s1 := sf_eq o2 k ty (.ref w.2.1) hk (hv _)
  have F9 : Fr (fun q => q = a) w2 (mset w2 a (.inr (ci, fs.set k (.ref w.2.1)))) := Fr.ms _ _ rfl
  refine ⟨_, fun K => ?_, ms_at _ _ _, rfl, ?_, F9⟩
  · simp [i_aload, hl, i_new, i_dup, Value.category, cik_0 hF, i_putf, s1]
  · refine ⟨fun q hq hne => (F9.1 q hne).trans ((hA.1 q (by show q < w.2.1 + 1; omega) (by omega)).trans ((mn_fa w _ _ (fun _ => False)).1 q hq fun h => h)), ?_, ?_⟩
    · rw [F9.2]
      exact Nat.le_trans (Nat.le_succ _) hA.2.1
    · rw [F9.2]
      exact Nat.le_trans (Nat.le_add_right _ _) hA.2.2
theorem FA.rf (S : Nat → Prop) (w : Mem) : FA S w w := ⟨fun _ _ _ => rfl, Nat.le_refl _, Nat.le_refl _⟩
theorem FA.t {S : Nat → Prop} {w w1 w2 : Mem} (h : FA S w w1) (k : FA S w1 w2) : FA S w w2 := h.tr k fun _ _ z => z
theorem ia_of {w : Mem} {a t n : Nat} (h : w.1 a = some (.inl (t, n, .inl (fun _ => 0)))) : AR t w a n (fun _ => 0) := ⟨_, h, fun _ _ => rfl⟩
theorem la_of {w : Mem} {a n : Nat} (h : w.1 a = some (.inl (1, n, .inr (.inl (fun _ => 0))))) : LA w a n (fun _ => 0) := ⟨_, h, fun _ _ => rfl⟩
theorem GRD.fa {S : Nat → Prop} {w w1 : Mem} {a n m : Nat} {c : Nat → Nat → Int32} (h : GRD w a n m c) (k : FA S w w1) (l : a + n < w.2.1) (q : ∀ i, i < n + 1 → ¬ S (a + i)) : GRD w1 a n m c := by
  obtain ⟨⟨f, h1, h2⟩, h3⟩ := h
  exact ⟨⟨f, k.at h1 (by omega) (q 0 (by omega)), h2⟩, fun i hi => (h3 i hi).fa k (by omega) (by have := q (1 + i) (by omega); rwa [← Nat.add_assoc] at this)⟩
theorem X1_init_sp {g : GE} {w0 : Mem} {a : Nat} (o0 : OB w0 a 1 [.null, .int 0, .int 0, .int 0, .int 0, .int 0]) (n0 : w0.2.1 = a + 1) :
    ∃ w', fX1_init g [.ref a] w0 = some (.inl none, w') ∧ OB w' a 1 [.ref (a + 1), .int 0, .int 0, .int 0, .int 0, .int 0] ∧ IA w' (a + 1) 100 (fun _ => 0) ∧ w'.2.1 = a + 2 ∧ w'.2.2 = w0.2.2 + 100 ∧ FA (fun q => q = a) w0 w' := by
  obtain ⟨w1, E1, o1, c1, n1, m1, S1⟩ := mk_arr (t := 0) (n := 100) (N := 100) (k := 0) (ty := (.array .int)) (lv := [some (.ref a)]) o0 (by omega) (by simp) rfl (by decide) (fun _ => rfl) rfl
  rw [n0] at o1 c1 n1
  replace n1 : w1.2.1 = a + 2 := n1
  have G1 : FA (fun q => q = a) w1 w1 := FA.rf _ _
  have G0 := S1.t G1
  refine ⟨w1, ?_, o1, ia_of c1, n1, by omega, G0⟩
  show bX1_init_0 g (fun _ _ _ _ => none) [] [some (.ref a)] w0 = _
  unfold bX1_init_0
  show ((i_aload 0 (i_push (.int 100) (i_newarr 0 (i_putf 1 0 (.array .int) (i_return))))) [] [some (.ref a)] w0) = _
  rw [E1]
  rfl
theorem X4_init_sp {g : GE} {w0 : Mem} {a : Nat} (o0 : OB w0 a 4 [.null, .null, .null, .null, .int 0, .int 0]) (n0 : w0.2.1 = a + 1) :
    ∃ w', fX4_init g [.ref a] w0 = some (.inl none, w') ∧ ROW w' a (fun _ => 0) (fun _ => 0) (fun _ => 0) (fun _ => 0) 0 0 ∧ w'.2.1 = a + 5 ∧ w'.2.2 = w0.2.2 + 53 ∧ FA (fun q => q = a) w0 w' := by
  obtain ⟨w1, E1, o1, c1, n1, m1, S1⟩ := mk_arr (t := 0) (n := 36) (N := 36) (k := 0) (ty := (.array .int)) (lv := [some (.ref a)]) o0 (by omega) (by simp) rfl (by decide) (fun _ => rfl) rfl
  rw [n0] at o1 c1 n1
  replace n1 : w1.2.1 = a + 2 := n1
  obtain ⟨w2, E2, o2, c2, n2, m2, S2⟩ := mk_arr (t := 0) (n := 8) (N := 8) (k := 1) (ty := (.array .int)) (lv := [some (.ref a)]) o1 (by omega) (by simp) rfl (by decide) (fun _ => rfl) rfl
  rw [n1] at o2 c2 n2
  replace n2 : w2.2.1 = a + 3 := n2
  obtain ⟨w3, E3, o3, c3, n3, m3, S3⟩ := mk_arr (t := 0) (n := 4) (N := 4) (k := 2) (ty := (.array .int)) (lv := [some (.ref a)]) o2 (by omega) (by simp) rfl (by decide) (fun _ => rfl) rfl
  rw [n2] at o3 c3 n3
  replace n3 : w3.2.1 = a + 4 := n3
  obtain ⟨w4, E4, o4, c4, n4, m4, S4⟩ := mk_arr (t := 0) (n := 5) (N := 5) (k := 3) (ty := (.array .int)) (lv := [some (.ref a)]) o3 (by omega) (by simp) rfl (by decide) (fun _ => rfl) rfl
  rw [n3] at o4 c4 n4
  replace n4 : w4.2.1 = a + 5 := n4
  have G4 : FA (fun q => q = a) w4 w4 := FA.rf _ _
  have G3 := S4.t G4
  have G2 := S3.t G3
  have G1 := S2.t G2
  have G0 := S1.t G1
  refine ⟨w4, ?_, ⟨o4, (ia_of c1).fa G1 (by omega) (by omega), (ia_of c2).fa G2 (by omega) (by omega), (ia_of c3).fa G3 (by omega) (by omega), ia_of c4⟩, n4, by omega, G0⟩
  show bX4_init_0 g (fun _ _ _ _ => none) [] [some (.ref a)] w0 = _
  unfold bX4_init_0
  show ((i_aload 0 (i_push (.int 36) (i_newarr 0 (i_putf 4 0 (.array .int) (i_aload 0 (i_push (.int 8) (i_newarr 0 (i_putf 4 1 (.array .int) (i_aload 0 (i_push (.int 4) (i_newarr 0 (i_putf 4 2 (.array .int) (i_aload 0 (i_push (.int 5) (i_newarr 0 (i_putf 4 3 (.array .int) (i_return))))))))))))))))) [] [some (.ref a)] w0) = _
  rw [E1, E2, E3, E4]
  rfl
theorem X5_init_sp {g : GE} {w0 : Mem} {a : Nat} (o0 : OB w0 a 5 [.null, .null, .int 0]) (n0 : w0.2.1 = a + 1) :
    ∃ w', fX5_init g [.ref a] w0 = some (.inl none, w') ∧ OB w' a 5 [.ref (a + 1), .ref (a + 2), .int 0] ∧ LA w' (a + 1) 800 (fun _ => 0) ∧ IA w' (a + 2) 800 (fun _ => 0) ∧ w'.2.1 = a + 3 ∧ w'.2.2 = w0.2.2 + 1600 ∧ FA (fun q => q = a) w0 w' := by
  obtain ⟨w1, E1, o1, c1, n1, m1, S1⟩ := mk_arr (t := 1) (n := 800) (N := 800) (k := 0) (ty := (.array .long)) (lv := [some (.ref a)]) o0 (by omega) (by simp) rfl (by decide) (fun _ => rfl) rfl
  rw [n0] at o1 c1 n1
  replace n1 : w1.2.1 = a + 2 := n1
  obtain ⟨w2, E2, o2, c2, n2, m2, S2⟩ := mk_arr (t := 0) (n := 800) (N := 800) (k := 1) (ty := (.array .int)) (lv := [some (.ref a)]) o1 (by omega) (by simp) rfl (by decide) (fun _ => rfl) rfl
  rw [n1] at o2 c2 n2
  replace n2 : w2.2.1 = a + 3 := n2
  have G2 : FA (fun q => q = a) w2 w2 := FA.rf _ _
  have G1 := S2.t G2
  have G0 := S1.t G1
  refine ⟨w2, ?_, o2, (la_of c1).fa G1 (by omega) (by omega), ia_of c2, n2, by omega, G0⟩
  show bX5_init_0 g (fun _ _ _ _ => none) [] [some (.ref a)] w0 = _
  unfold bX5_init_0
  show ((i_aload 0 (i_push (.int 800) (i_newarr 1 (i_putf 5 0 (.array .long) (i_aload 0 (i_push (.int 800) (i_newarr 0 (i_putf 5 1 (.array .int) (i_return))))))))) [] [some (.ref a)] w0) = _
  rw [E1, E2]
  rfl
theorem X8_init_sp {g : GE} {w0 : Mem} {a : Nat} (o0 : OB w0 a 8 [.null, .null, .null, .null, .null, .null, .null, .int 0, .int 0]) (n0 : w0.2.1 = a + 1) :
    ∃ w', fX8_init g [.ref a] w0 = some (.inl none, w') ∧ TS w' a (fun _ => 0, fun _ _ => 0) ∧ w'.2.1 = a + 8 ∧ w'.2.2 = w0.2.2 + 68 ∧ FA (fun q => q = a) w0 w' := by
  obtain ⟨w1, E1, o1, c1, n1, m1, S1⟩ := mk_arr (t := 0) (n := 12) (N := 12) (k := 0) (ty := (.array .int)) (lv := [some (.ref a)]) o0 (by omega) (by simp) rfl (by decide) (fun _ => rfl) rfl
  rw [n0] at o1 c1 n1
  replace n1 : w1.2.1 = a + 2 := n1
  obtain ⟨w2, E2, o2, c2, n2, m2, S2⟩ := mk_arr (t := 0) (n := 12) (N := 12) (k := 1) (ty := (.array .int)) (lv := [some (.ref a)]) o1 (by omega) (by simp) rfl (by decide) (fun _ => rfl) rfl
  rw [n1] at o2 c2 n2
  replace n2 : w2.2.1 = a + 3 := n2
  obtain ⟨w3, E3, o3, c3, n3, m3, S3⟩ := mk_arr (t := 0) (n := 12) (N := 12) (k := 2) (ty := (.array .int)) (lv := [some (.ref a)]) o2 (by omega) (by simp) rfl (by decide) (fun _ => rfl) rfl
  rw [n2] at o3 c3 n3
  replace n3 : w3.2.1 = a + 4 := n3
  obtain ⟨w4, E4, o4, c4, n4, m4, S4⟩ := mk_arr (t := 0) (n := 8) (N := 8) (k := 3) (ty := (.array .int)) (lv := [some (.ref a)]) o3 (by omega) (by simp) rfl (by decide) (fun _ => rfl) rfl
  rw [n3] at o4 c4 n4
  replace n4 : w4.2.1 = a + 5 := n4
  obtain ⟨w5, E5, o5, c5, n5, m5, S5⟩ := mk_arr (t := 0) (n := 8) (N := 8) (k := 4) (ty := (.array .int)) (lv := [some (.ref a)]) o4 (by omega) (by simp) rfl (by decide) (fun _ => rfl) rfl
  rw [n4] at o5 c5 n5
  replace n5 : w5.2.1 = a + 6 := n5
  obtain ⟨w6, E6, o6, c6, n6, m6, S6⟩ := mk_arr (t := 0) (n := 8) (N := 8) (k := 5) (ty := (.array .int)) (lv := [some (.ref a)]) o5 (by omega) (by simp) rfl (by decide) (fun _ => rfl) rfl
  rw [n5] at o6 c6 n6
  replace n6 : w6.2.1 = a + 7 := n6
  obtain ⟨w7, E7, o7, c7, n7, m7, S7⟩ := mk_arr (t := 0) (n := 8) (N := 8) (k := 6) (ty := (.array .int)) (lv := [some (.ref a)]) o6 (by omega) (by simp) rfl (by decide) (fun _ => rfl) rfl
  rw [n6] at o7 c7 n7
  replace n7 : w7.2.1 = a + 8 := n7
  have G7 : FA (fun q => q = a) w7 w7 := FA.rf _ _
  have G6 := S7.t G7
  have G5 := S6.t G6
  have G4 := S5.t G5
  have G3 := S4.t G4
  have G2 := S3.t G3
  have G1 := S2.t G2
  have G0 := S1.t G1
  have ts8 : TS w7 a (fun _ => 0, fun _ _ => 0) := by
    refine ⟨o7, fun k hk => ?_, fun k hk => ?_⟩
    · have : k = 0 ∨ k = 1 ∨ k = 2 := by omega
      rcases this with z | z | z <;> subst z
      · exact (ia_of c1).fa G1 (by omega) (by omega)
      · exact (ia_of c2).fa G2 (by omega) (by omega)
      · exact (ia_of c3).fa G3 (by omega) (by omega)
    · have : k = 0 ∨ k = 1 ∨ k = 2 ∨ k = 3 := by omega
      rcases this with z | z | z | z <;> subst z
      · exact (ia_of c4).fa G4 (by omega) (by omega)
      · exact (ia_of c5).fa G5 (by omega) (by omega)
      · exact (ia_of c6).fa G6 (by omega) (by omega)
      · exact ia_of c7
  refine ⟨w7, ?_, ts8, n7, by omega, G0⟩
  show bX8_init_0 g (fun _ _ _ _ => none) [] [some (.ref a)] w0 = _
  unfold bX8_init_0
  show ((i_aload 0 (i_push (.int 12) (i_newarr 0 (i_putf 8 0 (.array .int) (i_aload 0 (i_push (.int 12) (i_newarr 0 (i_putf 8 1 (.array .int) (i_aload 0 (i_push (.int 12) (i_newarr 0 (i_putf 8 2 (.array .int) (i_aload 0 (i_push (.int 8) (i_newarr 0 (i_putf 8 3 (.array .int) (i_aload 0 (i_push (.int 8) (i_newarr 0 (i_putf 8 4 (.array .int) (i_aload 0 (i_push (.int 8) (i_newarr 0 (i_putf 8 5 (.array .int) (i_aload 0 (i_push (.int 8) (i_newarr 0 (i_putf 8 6 (.array .int) (i_return))))))))))))))))))))))))))))) [] [some (.ref a)] w0) = _
  rw [E1, E2, E3, E4, E5, E6, E7]
  rfl
