/-! ===== the start: the constants ===== -/
theorem fc_name {vm : Vm} {n : String} {c : ClassId} (h : vm.findClass n = some c) : ∃ k, vm.classes[c]? = some k ∧ k.name = n := by
  obtain ⟨hlt, hp, -⟩ := Array.findIdx?_eq_some_iff_getElem.mp h
  refine ⟨vm.classes[c], by simp [hlt], ?_⟩
  simp only [Bool.and_eq_true, beq_iff_eq] at hp
  exact hp.1.1.1
theorem rf_of {args : Array Value} {s : State} {t : Term} (h : (Cond.isRef t).before args s = true) : ∃ o : Option Nat, t.eval args s none [] s = some (va_rf o) := by
  cases hv : t.eval args s none [] s with
  | none => simp [Cond.before, Cond.holds, Cond.value, hv] at h
  | some w =>
    simp only [Cond.before, Cond.holds, Cond.value, hv] at h
    cases w with
    | null => exact ⟨none, rfl⟩
    | ref t => exact ⟨some t, rfl⟩
    | _ => simp at h
/-- what the Statement gives, as a list -/
def nfl : List Cond := flatC (Jvm.Cond.and given_1 narrow_1)
abbrev stV (i : Nat) : Term := .static "BlottedDeed$Verb" (nmV.getD i "") "LBlottedDeed$Verb;"
abbrev stS (i : Nat) : Term := .string (sown i).1 (sown i).2.1
abbrev stA : Term := .static "BlottedDeed$Scribe" "VERBS" "[LBlottedDeed$Verb;"
def t1 (l : List Nat) (i : Nat) : Nat := l.getD i 0
def t2 (l : List (List Nat)) (i j : Nat) : Nat := (l.getD i []).getD j 0
theorem mix {c : Cond} {k : Nat} (h : nfl[k]? = some c) : c ∈ nfl := List.mem_of_getElem? h
theorem x_lay : ∀ i, i < 7 → Cond.laysStatic "BlottedDeed$Verb" (nmV.getD i "") "LBlottedDeed$Verb;" ∈ lw_tbl := by decide +kernel
theorem x_ini : Cond.initialized "BlottedDeed$Verb" ∈ lw_tbl ∧ Cond.initialized "BlottedDeed$Scribe" ∈ lw_tbl ∧ Cond.initialized "java/lang/String" ∈ lw_tbl ∧ Cond.initialized Bundle.tN ∈ lw_tbl ∧ Cond.initialized "jdk/internal/util/Preconditions" ∈ lw_tbl := by decide +kernel
theorem x_lays : Cond.laysStatic "BlottedDeed$Scribe" "VERBS" "[LBlottedDeed$Verb;" ∈ lw_tbl ∧ Cond.laysStatic "java/lang/String" "COMPACT_STRINGS" "Z" ∈ lw_tbl ∧ Cond.laysStatic Bundle.tN "UNASSIGNED_STACK" Bundle.steD ∈ lw_tbl ∧ Cond.laysStatic Bundle.tN "SUPPRESSED_SENTINEL" Bundle.listD ∈ lw_tbl ∧ Cond.laysStatic "jdk/internal/util/Preconditions" "SIOOBE_FORMATTER" "Ljava/util/function/BiFunction;" ∈ lw_tbl := by decide +kernel
theorem x_ex0 : ∀ i, i < 7 → nfl[t1 [35, 41, 48, 56, 4, 7, 11] i]? = some (Cond.exactly (stV i) "BlottedDeed$Verb") := by decide +kernel
theorem x_ex : ∀ i, i < 7 → Cond.exactly (stV i) "BlottedDeed$Verb" ∈ nfl := fun i hi => mix (x_ex0 i hi)
theorem x_ne0 : ∀ i, i < 7 → ∀ j, j < 7 → i ≠ j → (nfl[t2 [[0, 47, 54, 62, 38, 39, 40], [47, 0, 55, 63, 44, 45, 46], [54, 55, 0, 64, 51, 52, 53], [62, 63, 64, 0, 59, 60, 61], [38, 44, 51, 59, 0, 10, 14], [39, 45, 52, 60, 10, 0, 15], [40, 46, 53, 61, 14, 15, 0]] i j]? = some (Cond.not (.eq (stV i) (stV j))) ∨ nfl[t2 [[0, 47, 54, 62, 38, 39, 40], [47, 0, 55, 63, 44, 45, 46], [54, 55, 0, 64, 51, 52, 53], [62, 63, 64, 0, 59, 60, 61], [38, 44, 51, 59, 0, 10, 14], [39, 45, 52, 60, 10, 0, 15], [40, 46, 53, 61, 14, 15, 0]] i j]? = some (Cond.not (.eq (stV j) (stV i)))) := by decide +kernel
theorem x_ne : ∀ i, i < 7 → ∀ j, j < 7 → i ≠ j → (Cond.not (.eq (stV i) (stV j)) ∈ nfl ∨ Cond.not (.eq (stV j) (stV i)) ∈ nfl) := fun i hi j hj h => (x_ne0 i hi j hj h).imp mix mix
theorem x_wd0 : ∀ i, i < 7 → nfl[t1 [37, 43, 50, 58, 6, 9, 13] i]? = some (Cond.eq (.field (stV i) "BlottedDeed$Verb" "word" "Ljava/lang/String;") (stS i)) := by decide +kernel
theorem x_wd : ∀ i, i < 7 → Cond.eq (.field (stV i) "BlottedDeed$Verb" "word" "Ljava/lang/String;") (stS i) ∈ nfl := fun i hi => mix (x_wd0 i hi)
theorem x_arr : Cond.exactly stA "[LBlottedDeed$Verb;" ∈ nfl ∧ Cond.arrayOf stA (.object "BlottedDeed$Verb") ∈ nfl ∧ Cond.eq (.length stA) (.int 7) ∈ nfl := by decide +kernel
theorem x_el0 : ∀ i, i < 7 → nfl[t1 [23, 24, 25, 26, 27, 28, 29] i]? = some (Cond.eq (.elem stA (.int (Int32.ofNat i))) (stV i)) := by decide +kernel
theorem x_el : ∀ j, j < 7 → Cond.eq (.elem stA (.int (Int32.ofNat j))) (stV j) ∈ nfl := fun i hi => mix (x_el0 i hi)
theorem x_st : Cond.eq (.static "java/lang/String" "COMPACT_STRINGS" "Z") (.int 1) ∈ nfl ∧ Cond.isRef (.static Bundle.tN "UNASSIGNED_STACK" Bundle.steD) ∈ nfl ∧ Cond.isRef (.static Bundle.tN "SUPPRESSED_SENTINEL" Bundle.listD) ∈ nfl ∧ Cond.isRef (.static "jdk/internal/util/Preconditions" "SIOOBE_FORMATTER" "Ljava/util/function/BiFunction;") ∈ nfl := by decide +kernel
theorem x_sx0 : ∀ i, i < 12 → nfl[t2 [[273, 274, 275, 276], [289, 290, 291, 292], [307, 308, 309, 310], [327, 328, 329, 330], [231, 232, 233, 234], [244, 245, 246, 247], [258, 259, 260, 261], [179, 180, 181, 182], [186, 187, 188, 189], [214, 215, 216, 217], [195, 196, 197, 198], [155, 156, 157, 158]] i 0]? = some (Cond.exactly (stS i) "java/lang/String") ∧ nfl[t2 [[273, 274, 275, 276], [289, 290, 291, 292], [307, 308, 309, 310], [327, 328, 329, 330], [231, 232, 233, 234], [244, 245, 246, 247], [258, 259, 260, 261], [179, 180, 181, 182], [186, 187, 188, 189], [214, 215, 216, 217], [195, 196, 197, 198], [155, 156, 157, 158]] i 1]? = some (Cond.eq (.field (stS i) "java/lang/String" "coder" "B") (.int 0)) ∧ nfl[t2 [[273, 274, 275, 276], [289, 290, 291, 292], [307, 308, 309, 310], [327, 328, 329, 330], [231, 232, 233, 234], [244, 245, 246, 247], [258, 259, 260, 261], [179, 180, 181, 182], [186, 187, 188, 189], [214, 215, 216, 217], [195, 196, 197, 198], [155, 156, 157, 158]] i 2]? = some (Cond.arrayOf (.field (stS i) "java/lang/String" "value" "[B") .byte) ∧ nfl[t2 [[273, 274, 275, 276], [289, 290, 291, 292], [307, 308, 309, 310], [327, 328, 329, 330], [231, 232, 233, 234], [244, 245, 246, 247], [258, 259, 260, 261], [179, 180, 181, 182], [186, 187, 188, 189], [214, 215, 216, 217], [195, 196, 197, 198], [155, 156, 157, 158]] i 3]? = some (Cond.eq (.length (.field (stS i) "java/lang/String" "value" "[B")) (.int (Int32.ofNat (slen.getD i 0)))) := by decide +kernel
theorem x_sx : ∀ i, i < 12 → Cond.exactly (stS i) "java/lang/String" ∈ nfl ∧ Cond.eq (.field (stS i) "java/lang/String" "coder" "B") (.int 0) ∈ nfl ∧ Cond.arrayOf (.field (stS i) "java/lang/String" "value" "[B") .byte ∈ nfl ∧ Cond.eq (.length (.field (stS i) "java/lang/String" "value" "[B")) (.int (Int32.ofNat (slen.getD i 0))) ∈ nfl := fun i hi => ⟨mix (x_sx0 i hi).1, mix (x_sx0 i hi).2.1, mix (x_sx0 i hi).2.2.1, mix (x_sx0 i hi).2.2.2⟩
theorem x_sb0 : ∀ i, i < 12 → ∀ j, j < slen.getD i 0 → nfl[t2 [[277, 278, 279, 280], [293, 294, 295, 296, 297], [311, 312, 313, 314, 315, 316], [331, 332, 333, 334, 335], [235, 236, 237, 238], [248, 249, 250, 251], [262, 263, 264, 265], [183, 184], [190, 191, 192], [218, 219, 220, 221, 222, 223, 224, 225, 226], [199, 200, 201, 202, 203, 204, 205, 206, 207, 208, 209, 210], [159, 160, 161, 162, 163, 164, 165, 166, 167, 168, 169, 170, 171, 172, 173, 174, 175, 176, 177, 178]] i j]? = some (Cond.eq (.elem (.field (stS i) "java/lang/String" "value" "[B") (.int (Int32.ofNat j))) (.int ((sbyt.getD i []).getD j 0))) := by decide +kernel
theorem x_sb : ∀ i, i < 12 → ∀ j, j < slen.getD i 0 → Cond.eq (.elem (.field (stS i) "java/lang/String" "value" "[B") (.int (Int32.ofNat j))) (.int ((sbyt.getD i []).getD j 0)) ∈ nfl := fun i hi j hj => mix (x_sb0 i hi j hj)
theorem x_sn0 : ∀ i, i < 12 → ∀ j, j < 12 → i ≠ j → (nfl[t2 [[0, 306, 325, 344, 286, 287, 288, 282, 283, 285, 284, 281], [306, 0, 326, 345, 303, 304, 305, 299, 300, 302, 301, 298], [325, 326, 0, 346, 322, 323, 324, 318, 319, 321, 320, 317], [344, 345, 346, 0, 341, 342, 343, 337, 338, 340, 339, 336], [286, 303, 322, 341, 0, 257, 271, 240, 241, 243, 242, 239], [287, 304, 323, 342, 257, 0, 272, 253, 254, 256, 255, 252], [288, 305, 324, 343, 271, 272, 0, 267, 268, 270, 269, 266], [282, 299, 318, 337, 240, 253, 267, 0, 194, 228, 212, 185], [283, 300, 319, 338, 241, 254, 268, 194, 0, 229, 213, 193], [285, 302, 321, 340, 243, 256, 270, 228, 229, 0, 230, 227], [284, 301, 320, 339, 242, 255, 269, 212, 213, 230, 0, 211], [281, 298, 317, 336, 239, 252, 266, 185, 193, 227, 211, 0]] i j]? = some (Cond.not (Cond.eq (stS i) (stS j))) ∨ nfl[t2 [[0, 306, 325, 344, 286, 287, 288, 282, 283, 285, 284, 281], [306, 0, 326, 345, 303, 304, 305, 299, 300, 302, 301, 298], [325, 326, 0, 346, 322, 323, 324, 318, 319, 321, 320, 317], [344, 345, 346, 0, 341, 342, 343, 337, 338, 340, 339, 336], [286, 303, 322, 341, 0, 257, 271, 240, 241, 243, 242, 239], [287, 304, 323, 342, 257, 0, 272, 253, 254, 256, 255, 252], [288, 305, 324, 343, 271, 272, 0, 267, 268, 270, 269, 266], [282, 299, 318, 337, 240, 253, 267, 0, 194, 228, 212, 185], [283, 300, 319, 338, 241, 254, 268, 194, 0, 229, 213, 193], [285, 302, 321, 340, 243, 256, 270, 228, 229, 0, 230, 227], [284, 301, 320, 339, 242, 255, 269, 212, 213, 230, 0, 211], [281, 298, 317, 336, 239, 252, 266, 185, 193, 227, 211, 0]] i j]? = some (Cond.not (Cond.eq (stS j) (stS i)))) := by decide +kernel
theorem x_sn : ∀ i, i < 12 → ∀ j, j < 12 → i ≠ j → (Cond.not (Cond.eq (stS i) (stS j)) ∈ nfl ∨ Cond.not (Cond.eq (stS j) (stS i)) ∈ nfl) := fun i hi j hj h => (x_sn0 i hi j hj h).imp mix mix
theorem x_sr : ∀ i, i < 12 → Cond.stringRef (sown i).1 (sown i).2.1 (sown i).2.2 ∈ lw_tbl := by decide +kernel
theorem x_nc : ∀ q ∈ ncl, Cond.not (.castable q.1 q.2) ∈ nfl := by decide +kernel
theorem x_sl : ∀ i, i < 12 → slen.getD i 0 < 2 ^ 31 := by decide +kernel
theorem x_on {args : Array Value} {s : State} : ∀ w ∈ owl, w.before args s = true → va_Nw w s := by
  intro w hw h
  simp only [owl, List.mem_cons, List.not_mem_nil, or_false] at hw
  rcases hw with rfl | rfl | rfl | rfl | rfl | rfl | rfl | rfl | rfl | rfl | rfl | rfl | rfl | rfl | rfl | rfl | rfl | rfl | rfl
  all_goals exact h
theorem x_sd : ((List.range 12).all fun i => (List.range 12).all fun j => i == j || slen.getD i 0 != slen.getD j 0 || (List.range (slen.getD i 0)).any fun k => (sbyt.getD i []).getD k 0 != (sbyt.getD j []).getD k 0) = true := by decide +kernel
theorem se_start {args : Array Value} {s : State} {b L : Nat} {xs : Nat → Int32} (hts : ∀ w ∈ lw_tbl, w.before args s = true) (hs : ∀ w ∈ nfl, w.before args s = true) (hX : va_X b L xs s s.heap) (hbl : b < s.heap.size) :
    ∃ g : GE, GD g ∧ SE s.heap.size g s s.heap ∧ g.2.2.2.2.2.1 = b ∧ g.2.2.2.2.2.2.1 = L := by
  have hA : ∀ a : Nat, a < s.heap.size → ¬ (fun q : Nat => s.heap.size ≤ q) a := fun a h => Nat.not_le.mpr h
  obtain ⟨ad, hEn, hEv⟩ := va_Enof2 (args := args) (s := s) (E := "BlottedDeed$Verb") (d := "LBlottedDeed$Verb;") (nm := nmV) (F := []) (A := fun q : Nat => s.heap.size ≤ q) (fun i hi => hts _ (x_lay i hi)) (hts _ x_ini.1) (fun i hi => hs _ (x_ex i hi)) (fun q hq => by cases hq) (fun i j hi hj hne => (x_ne i hi j hj hne).imp (hs _) (hs _)) hA
  obtain ⟨aK, aV, hSt, hSe⟩ := vk_Sof (args := args) (s := s) (N := 12) (tm := stS) (len := slen) (byt := sbyt) (A := fun q : Nat => s.heap.size ≤ q) x_sl (fun i hi => hs _ (x_sx i hi).1) (fun i hi => hs _ (x_sx i hi).2.1) (fun i hi => hs _ (x_sx i hi).2.2.1) (fun i hi => hs _ (x_sx i hi).2.2.2) (fun i hi j hj => hs _ (x_sb i hi j hj)) (fun i j hi hj hne => (x_sn i hi j hj hne).imp (hs _) (hs _)) hA
  obtain ⟨t7, hT7, hTa⟩ := va_Tof (args := args) (s := s) (tm := stA) (ty := .object "BlottedDeed$Verb") (N := 7) (f := fun j => .ref (ad j)) (A := fun q : Nat => s.heap.size ≤ q) (by decide) (hs _ x_arr.2.1) (va_eqt (hs _ x_arr.2.2)) (fun j hj => va_eqv (hs _ (x_el j hj)) (hEv j hj)) hA
  obtain ⟨sf, hSf⟩ := rf_of (hs _ x_st.2.2.2)
  -- the array is none of the verbs
  have n7 : ∀ i, i < 7 → ad i ≠ t7 := fun i hi e => by
    obtain ⟨a1, c1, cell1, k1, p1, p2, p3, p4, p5, p6, -⟩ := Cond.exactly_spec (args := args) (first := s) (o := none) (s := s) (idx := []) (t := stA) (cls := "[LBlottedDeed$Verb;") (hs _ x_arr.1)
    obtain ⟨a2, c2, cell2, k2, q1, q2, q3, q4, q5, q6, -⟩ := Cond.exactly_spec (args := args) (first := s) (o := none) (s := s) (idx := []) (t := stV i) (cls := "BlottedDeed$Verb") (hs _ (x_ex i hi))
    rw [hT7] at p1
    cases p1
    have hq := hEv i hi
    rw [show Term.eval args s none [] s (stV i) = some (.ref a2) from q1] at hq
    have e2 : a2 = ad i := by cases hq; rfl
    rw [e2, e, p3] at q3
    cases q3
    rw [← p6] at p2
    rw [← q6] at q2
    obtain ⟨k3, r1, r2⟩ := fc_name p2
    obtain ⟨k4, r3, r4⟩ := fc_name q2
    rw [r1] at r3
    cases r3
    rw [r2] at r4
    exact absurd r4 (by decide)
  -- the bytes of two texts are two arrays
  have nV : ∀ i j, i < 12 → j < 12 → aV i = aV j → i = j := fun i j hi hj e => by
    by_cases y : i = j
    · exact y
    · exfalso
      have hd := x_sd
      rw [List.all_eq_true] at hd
      have hd := hd i (List.mem_range.mpr hi)
      rw [List.all_eq_true] at hd
      have hd := hd j (List.mem_range.mpr hj)
      obtain ⟨c1, t1, -, -, t4, t5, t6, -⟩ := (hSt.1 i hi).2.2.2
      obtain ⟨c2, u1, -, -, u4, u5, u6, -⟩ := (hSt.1 j hj).2.2.2
      rw [e, u1] at t1
      cases t1
      rw [t5] at u5
      have el : slen.getD i 0 = slen.getD j 0 := (nI_eq (x_sl i hi) (x_sl j hj)).mp u5
      simp only [Bool.or_eq_true, beq_iff_eq, bne_iff_ne, ne_eq, List.any_eq_true, List.mem_range] at hd
      rcases hd with (hd | hd) | ⟨k, hk, hd⟩
      · exact y hd
      · exact hd el
      · have v1 := t6 k hk
        have v2 := u6 k (by omega)
        rw [v1] at v2
        injection v2 with v2
        injection v2 with v2
        exact hd v2
  have hwd : ∀ i, i < 7 → va_OF "BlottedDeed$Verb" "word" "Ljava/lang/String;" (.ref (aK i)) (ad i) (fun q : Nat => s.heap.size ≤ q) s s.heap := fun i hi => vk_OFof (hEv i hi) (va_eqv (hs _ (x_wd i hi)) (hSe i (by omega))) hA
  refine ⟨(1000000, fun i => if i < 7 then ad i else t7, aK, aV, sf, b, L, xs), ⟨Nat.le_refl _, fun i j hi hj e => ?_, hSt.2, nV⟩, ⟨fun i hi => ?_, fun i hi => ?_, ?_, hSt, fun i hi => vk_R.of (hts _ (x_sr i hi)) (hSe i hi), vx_Zqof (hts _ x_lays.2.2.1) (hts _ x_ini.2.2.2.1) (hs _ x_st.2.1) hA, vx_Zqof (hts _ x_lays.2.2.2.1) (hts _ x_ini.2.2.2.1) (hs _ x_st.2.2.1) hA, va_Zof (hts _ x_lays.2.1) (hts _ x_ini.2.2.1) (va_eqi (hs _ x_st.1)) hA, fun w hw => x_on w hw (hts _ (owl_tbl w hw)), va_Zof (hts _ x_lays.2.2.2.2) (hts _ x_ini.2.2.2.2) hSf hA, ⟨hX, hbl, Nat.le_refl _⟩, fun q hq => va_Nc.of (hs _ (x_nc q hq))⟩, rfl, rfl⟩
  · simp only [] at e
    by_cases y1 : i < 7
    · by_cases y2 : j < 7
      · rw [if_pos y1, if_pos y2] at e
        exact hEn.2 i j y1 y2 e
      · rw [if_pos y1, if_neg y2] at e
        exact absurd e (n7 i y1)
    · by_cases y2 : j < 7
      · rw [if_neg y1, if_pos y2] at e
        exact absurd e.symm (n7 j y2)
      · omega
  · by_cases y : i < 7
    · have h9 := (hEn.1 i y).1
      have : i = 0 ∨ i = 1 ∨ i = 2 ∨ i = 3 ∨ i = 4 ∨ i = 5 ∨ i = 6 := by omega
      rcases this with z | z | z | z | z | z | z <;> subst z <;> exact h9
    · have : i = 7 := by omega
      subst this
      exact va_Zref (hts _ x_lays.1) (hts _ x_ini.2.1) hT7 hA
  · simp only [if_pos hi]
    exact ⟨(hEn.1 i hi).2.1, hwd i hi⟩
  · obtain ⟨cell, c1, c2, c3, c4, c5, c6, c7⟩ := hTa
    refine ⟨cell, c1, c2, c3, c4, c5, fun j hj => ?_, c7⟩
    rw [c6 j hj]
    simp only [if_pos hj]
