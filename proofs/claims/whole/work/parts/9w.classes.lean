/-! ===== the start: classes, arrays, constants ===== -/
theorem ty_p {args : Array Value} {s : State} {ty : FieldType} (h : (Cond.arrayClass ty).before args s = true) : ∃ cA : ClassId, ArrOfT s cA ty ∧ s.vm.findClass ("[" ++ ty.toString) = some cA := by
  obtain ⟨c, k, comp, h1, h2, h3⟩ := Cond.arrayClass_spec h
  exact ⟨c, fun n z => ⟨fun k h => (by cases h), k, h2, comp, h3⟩, h1⟩
theorem ty_o {args : Array Value} {s : State} {n : String} (h : (Cond.arrayOver (.object n)).before args s = true) : ∃ cA : ClassId, ArrOfT s cA (.object n) ∧ va_RA s cA (.object n) := by
  obtain ⟨comp, c, k, h1, -, h3, h4, h5⟩ := Cond.arrayOver_spec h
  exact ⟨c, fun n z => ⟨fun k h => (by cases h), k, h3, comp, h4⟩, k, comp, h3, h4, h1, h5⟩
theorem ty_a {args : Array Value} {s : State} {ty : FieldType} (h : (Cond.arrayOver (.array ty)).before args s = true) : ∃ cA : ClassId, ArrOfT s cA (.array ty) ∧ s.vm.findClass ("[" ++ (FieldType.array ty).toString) = some cA := by
  obtain ⟨comp, c, k, -, -, h3, h4, h5⟩ := arrayOverA_spec h
  exact ⟨c, fun n z => ⟨fun k h => (by cases h), k, h3, comp, h4⟩, h5⟩
theorem gt_tbl {w : Cond} (h : w ∈ gt) : w ∈ lw_tbl := (List.mem_filter.mp h).1
theorem owl_tbl : ∀ w ∈ owl, w ∈ lw_tbl := by decide +kernel
def nmV : List String := ["HEIR", "THING", "ESTATE", "LEAST", "COIN", "WILL", "WHEN"]
theorem cl_in : ∀ q ∈ [(RX0, 3), (RX1, 6), (RX2, 16), (RX3, 3), (RX4, 6), (RX5, 3), (RX6, 8), (RX7, 12), (RX8, 9), (RX10, 13), (RX11, 50)], Cond.instantiable q.1 q.2 ∈ lw_tbl := by decide +kernel
theorem ac_in : Cond.arrayClass .int ∈ lw_tbl ∧ Cond.arrayClass .long ∈ lw_tbl ∧ Cond.arrayClass .byte ∈ lw_tbl ∧ Cond.arrayClass .boolean ∈ lw_tbl := by decide +kernel
theorem kk_start {args : Array Value} {s : State} (hts : ∀ w ∈ lw_tbl, w.before args s = true) : ∃ D : DD, KK D s := by
  have hg : ∀ w ∈ gt, w.before args s = true := fun w hw => hts w (gt_tbl hw)
  have h1 : ∀ k : Nat, ∃ d : ClassId × (Nat → Nat), ∀ q : vw_C, vwCl[k]? = some q → u_Kn s q.1 q.2.1 q.2.2 d.1 d.2 := by
    intro k
    match k with
    | 0 =>
      obtain ⟨c, iS, h⟩ := u_known (C := RX0) (T := TX0) (N := 3) (n := 3) hg ginX0 (hts _ (cl_in (RX0, 3) (by simp)))
      exact ⟨(c, iS), fun q hq => by cases hq; exact h⟩
    | 1 =>
      obtain ⟨c, iS, h⟩ := u_known (C := RX1) (T := TX1) (N := 6) (n := 6) hg ginX1 (hts _ (cl_in (RX1, 6) (by simp)))
      exact ⟨(c, iS), fun q hq => by cases hq; exact h⟩
    | 2 =>
      obtain ⟨c, iS, h⟩ := u_known (C := RX2) (T := TX2) (N := 16) (n := 16) hg ginX2 (hts _ (cl_in (RX2, 16) (by simp)))
      exact ⟨(c, iS), fun q hq => by cases hq; exact h⟩
    | 3 =>
      obtain ⟨c, iS, h⟩ := u_known (C := RX3) (T := TX3) (N := 3) (n := 3) hg ginX3 (hts _ (cl_in (RX3, 3) (by simp)))
      exact ⟨(c, iS), fun q hq => by cases hq; exact h⟩
    | 4 =>
      obtain ⟨c, iS, h⟩ := u_known (C := RX4) (T := TX4) (N := 6) (n := 6) hg ginX4 (hts _ (cl_in (RX4, 6) (by simp)))
      exact ⟨(c, iS), fun q hq => by cases hq; exact h⟩
    | 5 =>
      obtain ⟨c, iS, h⟩ := u_known (C := RX5) (T := TX5) (N := 3) (n := 3) hg ginX5 (hts _ (cl_in (RX5, 3) (by simp)))
      exact ⟨(c, iS), fun q hq => by cases hq; exact h⟩
    | 6 =>
      obtain ⟨c, iS, h⟩ := u_known (C := RX6) (T := TX6) (N := 8) (n := 8) hg ginX6 (hts _ (cl_in (RX6, 8) (by simp)))
      exact ⟨(c, iS), fun q hq => by cases hq; exact h⟩
    | 7 =>
      obtain ⟨c, iS, h⟩ := u_known (C := RX7) (T := TX7) (N := 12) (n := 12) hg ginX7 (hts _ (cl_in (RX7, 12) (by simp)))
      exact ⟨(c, iS), fun q hq => by cases hq; exact h⟩
    | 8 =>
      obtain ⟨c, iS, h⟩ := u_known (C := RX8) (T := TX8) (N := 9) (n := 9) hg ginX8 (hts _ (cl_in (RX8, 9) (by simp)))
      exact ⟨(c, iS), fun q hq => by cases hq; exact h⟩
    | 9 =>
      obtain ⟨c, iS, h⟩ := u_known (C := RX10) (T := TX10) (N := 13) (n := 13) hg ginX10 (hts _ (cl_in (RX10, 13) (by simp)))
      exact ⟨(c, iS), fun q hq => by cases hq; exact h⟩
    | 10 =>
      obtain ⟨c, iS, h⟩ := u_known (C := RX11) (T := TX11) (N := 50) (n := 50) hg ginX11 (hts _ (cl_in (RX11, 50) (by simp)))
      exact ⟨(c, iS), fun q hq => by cases hq; exact h⟩
    | k + 11 => exact ⟨(0, fun _ => 0), fun q hq => by cases hq⟩
  have h2 : ∀ t : Nat, ∃ cA : ClassId, t < 8 → ArrOfT s cA (aty t) ∧ va_RA s cA (aty t) := by
    intro t
    match t with
    | 0 => obtain ⟨c, h3, h4⟩ := ty_p (hts _ ac_in.1); exact ⟨c, fun _ => ⟨h3, h4⟩⟩
    | 1 => obtain ⟨c, h3, h4⟩ := ty_p (hts _ ac_in.2.1); exact ⟨c, fun _ => ⟨h3, h4⟩⟩
    | 2 => obtain ⟨c, h3, h4⟩ := ty_p (hts _ ac_in.2.2.1); exact ⟨c, fun _ => ⟨h3, h4⟩⟩
    | 3 => obtain ⟨c, h3, h4⟩ := ty_p (hts _ ac_in.2.2.2); exact ⟨c, fun _ => ⟨h3, h4⟩⟩
    | 4 => obtain ⟨c, h3, h4⟩ := ty_a (hts _ (owl_tbl (.arrayOver (.array .int)) (by decide +kernel))); exact ⟨c, fun _ => ⟨h3, h4⟩⟩
    | 5 => obtain ⟨c, h3, h4⟩ := ty_o (hts _ (owl_tbl (.arrayOver (.object "BlottedDeed$Part")) (by decide +kernel))); exact ⟨c, fun _ => ⟨h3, h4⟩⟩
    | 6 => obtain ⟨c, h3, h4⟩ := ty_o (hts _ (owl_tbl (.arrayOver (.object "BlottedDeed$Blot")) (by decide +kernel))); exact ⟨c, fun _ => ⟨h3, h4⟩⟩
    | 7 => obtain ⟨c, h3, h4⟩ := ty_o (hts _ (owl_tbl (.arrayOver (.object "BlottedDeed$Testimony")) (by decide +kernel))); exact ⟨c, fun _ => ⟨h3, h4⟩⟩
    | t + 8 => exact ⟨0, fun h => absurd h (by omega)⟩
  obtain ⟨f, hf⟩ := Classical.axiomOfChoice h1
  obtain ⟨f2, hf2⟩ := Classical.axiomOfChoice h2
  refine ⟨(fun k => (f k).1, fun k => (f k).2, f2), fun k q hq => hf k q hq, fun k q hq => ?_⟩
  by_cases y : k < 8
  · rw [tys_at _ k y] at hq
    cases hq
    exact hf2 k y
  · have : (tys (fun k => (f k).1, fun k => (f k).2, f2))[k]? = none := by
      unfold tys
      rw [List.getElem?_map, List.getElem?_eq_none (by rw [List.length_range]; omega)]
      rfl
    rw [this] at hq
    cases hq
