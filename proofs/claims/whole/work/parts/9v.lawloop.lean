/-! ===== the law: its loop ===== -/
def tg (b : Nat) : Nat := [2, 3, 5, 6, 8, 10, 12, 13, 15, 17, 18, 20, 22, 24, 27, 29, 31, 33, 34, 36, 38, 40, 42, 44, 46, 47, 49, 51, 52, 54, 56, 58, 60, 62, 64, 66, 68, 70, 72, 74, 75, 76, 77, 78].getD b 79
theorem tsw_law (J : Nat → KT) {b : Nat} (hb : b < 64) (lv : Lv) (w : Mem) : i_tsw 0 43 [i_jmp [true, true, true, true, true, false, false, false] (J 2), i_jmp [true, true, true, true, true, false, false, false] (J 3), i_jmp [true, true, true, true, true, false, false, false] (J 5), i_jmp [true, true, true, true, true, false, false, false] (J 6), i_jmp [true, true, true, true, true, false, false, false] (J 8), i_jmp [true, true, true, true, true, false, false, false] (J 10), i_jmp [true, true, true, true, true, false, false, false] (J 12), i_jmp [true, true, true, true, true, false, false, false] (J 13), i_jmp [true, true, true, true, true, false, false, false] (J 15), i_jmp [true, true, true, true, true, false, false, false] (J 17), i_jmp [true, true, true, true, true, false, false, false] (J 18), i_jmp [true, true, true, true, true, false, false, false] (J 20), i_jmp [true, true, true, true, true, false, false, false] (J 22), i_jmp [true, true, true, true, true, false, false, false] (J 24), i_jmp [true, true, true, true, true, false, false, false] (J 27), i_jmp [true, true, true, true, true, false, false, false] (J 29), i_jmp [true, true, true, true, true, false, false, false] (J 31), i_jmp [true, true, true, true, true, false, false, false] (J 33), i_jmp [true, true, true, true, true, false, false, false] (J 34), i_jmp [true, true, true, true, true, false, false, false] (J 36), i_jmp [true, true, true, true, true, false, false, false] (J 38), i_jmp [true, true, true, true, true, false, false, false] (J 40), i_jmp [true, true, true, true, true, false, false, false] (J 42), i_jmp [true, true, true, true, true, false, false, false] (J 44), i_jmp [true, true, true, true, true, false, false, false] (J 46), i_jmp [true, true, true, true, true, false, false, false] (J 47), i_jmp [true, true, true, true, true, false, false, false] (J 49), i_jmp [true, true, true, true, true, false, false, false] (J 51), i_jmp [true, true, true, true, true, false, false, false] (J 52), i_jmp [true, true, true, true, true, false, false, false] (J 54), i_jmp [true, true, true, true, true, false, false, false] (J 56), i_jmp [true, true, true, true, true, false, false, false] (J 58), i_jmp [true, true, true, true, true, false, false, false] (J 60), i_jmp [true, true, true, true, true, false, false, false] (J 62), i_jmp [true, true, true, true, true, false, false, false] (J 64), i_jmp [true, true, true, true, true, false, false, false] (J 66), i_jmp [true, true, true, true, true, false, false, false] (J 68), i_jmp [true, true, true, true, true, false, false, false] (J 70), i_jmp [true, true, true, true, true, false, false, false] (J 72), i_jmp [true, true, true, true, true, false, false, false] (J 74), i_jmp [true, true, true, true, true, false, false, false] (J 75), i_jmp [true, true, true, true, true, false, false, false] (J 76), i_jmp [true, true, true, true, true, false, false, false] (J 77), i_jmp [true, true, true, true, true, false, false, false] (J 78)] (i_jmp [true, true, true, true, true, false, false, false] (J 79)) [.int (nI b)] lv w = J (tg b) [] (msk [true, true, true, true, true, false, false, false] lv) w := by
  by_cases y : 43 < b
  · have e1 : (nI b).toInt = b := nI_toInt (by omega)
    have e2 : (nI b).toInt < 0 ∨ 43 < (nI b).toInt := by rw [e1]; omega
    have e3 : tg b = 79 := by
      unfold tg
      rw [List.getD_eq_getElem?_getD, List.getElem?_eq_none (by show 44 ≤ b; omega)]
      rfl
    unfold i_tsw
    simp only []
    rw [if_pos e2, e3]
    rfl
  · match b, y with
    | 0, _ => rfl
    | 1, _ => rfl
    | 2, _ => rfl
    | 3, _ => rfl
    | 4, _ => rfl
    | 5, _ => rfl
    | 6, _ => rfl
    | 7, _ => rfl
    | 8, _ => rfl
    | 9, _ => rfl
    | 10, _ => rfl
    | 11, _ => rfl
    | 12, _ => rfl
    | 13, _ => rfl
    | 14, _ => rfl
    | 15, _ => rfl
    | 16, _ => rfl
    | 17, _ => rfl
    | 18, _ => rfl
    | 19, _ => rfl
    | 20, _ => rfl
    | 21, _ => rfl
    | 22, _ => rfl
    | 23, _ => rfl
    | 24, _ => rfl
    | 25, _ => rfl
    | 26, _ => rfl
    | 27, _ => rfl
    | 28, _ => rfl
    | 29, _ => rfl
    | 30, _ => rfl
    | 31, _ => rfl
    | 32, _ => rfl
    | 33, _ => rfl
    | 34, _ => rfl
    | 35, _ => rfl
    | 36, _ => rfl
    | 37, _ => rfl
    | 38, _ => rfl
    | 39, _ => rfl
    | 40, _ => rfl
    | 41, _ => rfl
    | 42, _ => rfl
    | 43, _ => rfl
    | b + 44, y => exact absurd (by omega) y
theorem LWi.nx {g : GE} {w : Mem} {B i c0 s0 : Nat} (h : LWi g w B i c0 s0) : LWi g w B (i + 1) c0 s0 := by
  obtain ⟨s, lev, nG, h1, h2, h3, h4, h5, h6, h7, h8⟩ := h
  exact ⟨s, lev, nG, h1, h2, h3, h4, h5, by omega, by omega, h8⟩
theorem law_turn {g : GE} {w : Mem} {B i c0 s0 : Nat} (hg : GD g) (hL : g.2.2.2.2.2.2.1 ≤ 3072) (hi : 6 * i + 6 ≤ g.2.2.2.2.2.2.1) (h : LWi g w B i c0 s0) (F : Nat) : ∃ f' w', F ≤ f' ∧ LWi g w' B (i + 1) c0 s0 ∧ jL_law g (F + 5) 1 [] (LVs g B i) w = jL_law g f' 1 [] (LVs g B (i + 1)) w' := by
  have hS : SCx g i := fun k hk => ix_nI (by omega) (by omega)
  obtain ⟨b, hb, eb⟩ : ∃ b : Nat, b < 64 ∧ g.2.2.2.2.2.2.2 (6 * i) &&& 63 = nI b := pk_andE _ 6 (by decide)
  have e0 : Int32.ofNat g.2.2.2.2.2.2.1 - 6 = nI (g.2.2.2.2.2.2.1 - 6) := nI_sub (s := 6) (by omega)
  have e1 : ¬ nI (g.2.2.2.2.2.2.1 - 6) < nI (6 * i) := nI_nlt (by omega) (by omega)
  have z0 := hS 0 (by decide)
  rw [Nat.add_zero] at z0
  have hd : jL_law g (F + 5) 1 [] (LVs g B i) w = jL_law g (F + 4) (tg b) [] (LVs g B i) w := by
    show bL_law_1 g (jL_law g (F + 4)) [] (LVs g B i) w = _
    have et := tsw_law (jL_law g (F + 4)) hb (LVs g B i) w
    have em : msk [true, true, true, true, true, false, false, false] (LVs g B i) = LVs g B i := rfl
    rw [em] at et
    rw [← et]
    clear et em
    generalize jL_law g (F + 4) = J
    unfold bL_law_1
    generalize i_tsw 0 43 [i_jmp [true, true, true, true, true, false, false, false] (J 2), i_jmp [true, true, true, true, true, false, false, false] (J 3), i_jmp [true, true, true, true, true, false, false, false] (J 5), i_jmp [true, true, true, true, true, false, false, false] (J 6), i_jmp [true, true, true, true, true, false, false, false] (J 8), i_jmp [true, true, true, true, true, false, false, false] (J 10), i_jmp [true, true, true, true, true, false, false, false] (J 12), i_jmp [true, true, true, true, true, false, false, false] (J 13), i_jmp [true, true, true, true, true, false, false, false] (J 15), i_jmp [true, true, true, true, true, false, false, false] (J 17), i_jmp [true, true, true, true, true, false, false, false] (J 18), i_jmp [true, true, true, true, true, false, false, false] (J 20), i_jmp [true, true, true, true, true, false, false, false] (J 22), i_jmp [true, true, true, true, true, false, false, false] (J 24), i_jmp [true, true, true, true, true, false, false, false] (J 27), i_jmp [true, true, true, true, true, false, false, false] (J 29), i_jmp [true, true, true, true, true, false, false, false] (J 31), i_jmp [true, true, true, true, true, false, false, false] (J 33), i_jmp [true, true, true, true, true, false, false, false] (J 34), i_jmp [true, true, true, true, true, false, false, false] (J 36), i_jmp [true, true, true, true, true, false, false, false] (J 38), i_jmp [true, true, true, true, true, false, false, false] (J 40), i_jmp [true, true, true, true, true, false, false, false] (J 42), i_jmp [true, true, true, true, true, false, false, false] (J 44), i_jmp [true, true, true, true, true, false, false, false] (J 46), i_jmp [true, true, true, true, true, false, false, false] (J 47), i_jmp [true, true, true, true, true, false, false, false] (J 49), i_jmp [true, true, true, true, true, false, false, false] (J 51), i_jmp [true, true, true, true, true, false, false, false] (J 52), i_jmp [true, true, true, true, true, false, false, false] (J 54), i_jmp [true, true, true, true, true, false, false, false] (J 56), i_jmp [true, true, true, true, true, false, false, false] (J 58), i_jmp [true, true, true, true, true, false, false, false] (J 60), i_jmp [true, true, true, true, true, false, false, false] (J 62), i_jmp [true, true, true, true, true, false, false, false] (J 64), i_jmp [true, true, true, true, true, false, false, false] (J 66), i_jmp [true, true, true, true, true, false, false, false] (J 68), i_jmp [true, true, true, true, true, false, false, false] (J 70), i_jmp [true, true, true, true, true, false, false, false] (J 72), i_jmp [true, true, true, true, true, false, false, false] (J 74), i_jmp [true, true, true, true, true, false, false, false] (J 75), i_jmp [true, true, true, true, true, false, false, false] (J 76), i_jmp [true, true, true, true, true, false, false, false] (J 77), i_jmp [true, true, true, true, true, false, false, false] (J 78)] (i_jmp [true, true, true, true, true, false, false, false] (J 79)) = T9
    simp [LVs, i_iload, i_aload, i_sla, i_push, i_isub, i_icgt, i_sli, i_iand, e0, e1, z0, eb]
  rw [hd]
  clear hd e0 e1 z0 eb
  by_cases y : 43 < b
  · have e3 : tg b = 79 := by
      unfold tg
      rw [List.getD_eq_getElem?_getD, List.getElem?_eq_none (by show 44 ≤ b; omega)]
      rfl
    have a6 : nI (6 * i) + 6 = nI (6 * (i + 1)) := nI_add (6 * i) 6
    refine ⟨F + 3, w, by omega, h.nx, ?_⟩
    rw [e3]
    show bL_law_79 g (jL_law g (F + 3)) [] (LVs g B i) w = _
    generalize F + 3 = FF
    simp [LVs, bL_law_79, i_iinc, i_jmp, msk, lset1, clr, Value.category, a6]
  · match b, y with
    | 0, _ => exact lb_feed hg hS h F
    | 1, _ => exact lb_deed hg hS h F
    | 2, _ => exact lb_fault hg hS h F
    | 3, _ => exact lb_told hg hS h F
    | 4, _ => exact lb_blot hg hS h F
    | 5, _ => exact lb_candidate hg hS h F
    | 6, _ => exact lb_readings hg hS h F
    | 7, _ => exact lb_reading hg hS h F
    | 8, _ => exact lb_alive hg hS h F
    | 9, _ => exact lb_bars hg hS h F
    | 10, _ => exact lb_gets hg hS h F
    | 11, _ => exact lb_goes hg hS h F
    | 12, _ => exact lb_often hg hS h F
    | 13, _ => exact lb_sure hg hS h F
    | 14, _ => exact lb_coin hg hS h F
    | 15, _ => exact lb_worth hg hS h F
    | 16, _ => exact lb_cleaned hg hS h F
    | 17, _ => exact lb_settles hg hS h F
    | 18, _ => exact lb_fewest hg hS h F
    | 19, _ => exact lb_sway hg hS h F
    | 20, _ => exact lb_gains hg hS h F
    | 21, _ => exact lb_settlement hg hS h F
    | 22, _ => exact lb_copy hg hS h F
    | 23, _ => exact lb_habit hg hS h F
    | 24, _ => exact lb_forget hg hS h F
    | 25, _ => exact lb_odds hg hS h F
    | 26, _ => exact lb_likely hg hS h F
    | 27, _ => exact lb_likeliest hg hS h F
    | 28, _ => exact lb_slips hg hS h F
    | 29, _ => exact lb_more hg hS h F
    | 30, _ => exact lb_weak hg hS h F
    | 31, _ => exact lb_holding hg hS h F
    | 32, _ => exact lb_struck hg hS h F
    | 33, _ => exact lb_apart hg hS h F
    | 34, _ => exact lb_middle hg hS h F
    | 35, _ => exact lb_when hg hS h F
    | 36, _ => exact lb_steps hg hS h F
    | 37, _ => exact lb_pairs hg hS h F
    | 38, _ => exact lb_rows hg hS h F
    | 39, _ => exact lb_bare hg hS h F
    | 40, _ => exact lb_image hg hS h F
    | 41, _ => exact lb_restore hg hS h F
    | 42, _ => exact lb_status hg hS h F
    | 43, _ => exact lb_count hg hS h F
    | b + 44, y => exact absurd (by omega) y
theorem law_run {g : GE} {w : Mem} {B c0 s0 : Nat} (hg : GD g) (hL : g.2.2.2.2.2.2.1 ≤ 3072) (h : LWi g w B 0 c0 s0) (F : Nat) : ∃ w', jL_law g (F + 1 + 5 * (g.2.2.2.2.2.2.1 / 6)) 1 [] (LVs g B 0) w = some (.inl (some (.int 1)), w') ∧ LWi g w' B (g.2.2.2.2.2.2.1 / 6) c0 s0 := by
  obtain ⟨n, hn⟩ : ∃ n, n = g.2.2.2.2.2.2.1 / 6 := ⟨_, rfl⟩
  rw [← hn]
  have n1 : 6 * n ≤ g.2.2.2.2.2.2.1 ∧ g.2.2.2.2.2.2.1 < 6 * n + 6 := by omega
  have L := lpC (fun f (z : Lv × Mem) => jL_law g f 1 [] z.1 z.2) (fun i z => z.1 = LVs g B i ∧ LWi g z.2 B i c0 s0) 5 n
    (fun i z hi hI f => by
      obtain ⟨e1, e2⟩ := hI
      obtain ⟨f', w', h1, h2, h3⟩ := law_turn hg hL (by omega) e2 f
      exact ⟨f', (LVs g B (i + 1), w'), h1, ⟨rfl, h2⟩, by show jL_law g (f + 5) 1 [] z.1 z.2 = _; rw [e1, h3]⟩)
  obtain ⟨f1, z1, k1, ⟨i1, i2⟩, k3⟩ := L n 0 (LVs g B 0, w) (by omega) ⟨rfl, h⟩ (F + 1)
  obtain ⟨f2, rfl⟩ : ∃ z, f1 = z + 1 := ⟨f1 - 1, by omega⟩
  refine ⟨z1.2, ?_, i2⟩
  rw [show jL_law g (F + 1 + 5 * n) 1 [] (LVs g B 0) w = jL_law g (f2 + 1) 1 [] z1.1 z1.2 from k3, i1]
  clear k3 L i2
  have e1 : Int32.ofNat g.2.2.2.2.2.2.1 - 6 < nI (6 * n) := by
    by_cases y : 6 ≤ g.2.2.2.2.2.2.1
    · have e0 : Int32.ofNat g.2.2.2.2.2.2.1 - 6 = nI (g.2.2.2.2.2.2.1 - 6) := nI_sub (s := 6) y
      rw [e0]
      exact nI_lt (by omega) (by omega)
    · have e0 : n = 0 := by omega
      rw [e0]
      have : ∀ q, q < 6 → Int32.ofNat q - 6 < nI (6 * 0) := by decide
      exact this _ (by omega)
  show bL_law_1 g (jL_law g f2) [] (LVs g B n) z1.2 = _
  generalize jL_law g f2 = J
  unfold bL_law_1
  generalize i_tsw 0 43 [i_jmp [true, true, true, true, true, false, false, false] (J 2), i_jmp [true, true, true, true, true, false, false, false] (J 3), i_jmp [true, true, true, true, true, false, false, false] (J 5), i_jmp [true, true, true, true, true, false, false, false] (J 6), i_jmp [true, true, true, true, true, false, false, false] (J 8), i_jmp [true, true, true, true, true, false, false, false] (J 10), i_jmp [true, true, true, true, true, false, false, false] (J 12), i_jmp [true, true, true, true, true, false, false, false] (J 13), i_jmp [true, true, true, true, true, false, false, false] (J 15), i_jmp [true, true, true, true, true, false, false, false] (J 17), i_jmp [true, true, true, true, true, false, false, false] (J 18), i_jmp [true, true, true, true, true, false, false, false] (J 20), i_jmp [true, true, true, true, true, false, false, false] (J 22), i_jmp [true, true, true, true, true, false, false, false] (J 24), i_jmp [true, true, true, true, true, false, false, false] (J 27), i_jmp [true, true, true, true, true, false, false, false] (J 29), i_jmp [true, true, true, true, true, false, false, false] (J 31), i_jmp [true, true, true, true, true, false, false, false] (J 33), i_jmp [true, true, true, true, true, false, false, false] (J 34), i_jmp [true, true, true, true, true, false, false, false] (J 36), i_jmp [true, true, true, true, true, false, false, false] (J 38), i_jmp [true, true, true, true, true, false, false, false] (J 40), i_jmp [true, true, true, true, true, false, false, false] (J 42), i_jmp [true, true, true, true, true, false, false, false] (J 44), i_jmp [true, true, true, true, true, false, false, false] (J 46), i_jmp [true, true, true, true, true, false, false, false] (J 47), i_jmp [true, true, true, true, true, false, false, false] (J 49), i_jmp [true, true, true, true, true, false, false, false] (J 51), i_jmp [true, true, true, true, true, false, false, false] (J 52), i_jmp [true, true, true, true, true, false, false, false] (J 54), i_jmp [true, true, true, true, true, false, false, false] (J 56), i_jmp [true, true, true, true, true, false, false, false] (J 58), i_jmp [true, true, true, true, true, false, false, false] (J 60), i_jmp [true, true, true, true, true, false, false, false] (J 62), i_jmp [true, true, true, true, true, false, false, false] (J 64), i_jmp [true, true, true, true, true, false, false, false] (J 66), i_jmp [true, true, true, true, true, false, false, false] (J 68), i_jmp [true, true, true, true, true, false, false, false] (J 70), i_jmp [true, true, true, true, true, false, false, false] (J 72), i_jmp [true, true, true, true, true, false, false, false] (J 74), i_jmp [true, true, true, true, true, false, false, false] (J 75), i_jmp [true, true, true, true, true, false, false, false] (J 76), i_jmp [true, true, true, true, true, false, false, false] (J 77), i_jmp [true, true, true, true, true, false, false, false] (J 78)] (i_jmp [true, true, true, true, true, false, false, false] (J 79)) = T9
  simp [LVs, i_iload, i_aload, i_sla, i_push, i_isub, i_icgt, i_zreturn, e1]
/-- the whole law, from nothing made -/
theorem law_all {g : GE} {w0 : Mem} (hg : GD g) (hL : g.2.2.2.2.2.2.1 ≤ 3072) (hz : w0.2.2 = 0) : ∃ w', kL_law g [] [some (.ref g.2.2.2.2.2.1), none, none, none, none, none, none, none] w0 = some (.inl (some (.int 1)), w') ∧ w'.2.1 ≤ w0.2.1 + 601024 ∧ w'.2.2 ≤ 7293034 := by
  have hg1 := hg.1
  obtain ⟨B, hB⟩ : ∃ B, w0.2.1 = B := ⟨_, rfl⟩
  -- the class
  obtain ⟨u1, hu1⟩ : ∃ z, mnew w0 (.inr (9, [.null, .int 0, .null, .null, .null, .null, .null, .null, .null, .null, .int 0, .int 0, .null])) 13 = z := ⟨_, rfl⟩
  have o1 : OB u1 B 9 [.null, .int 0, .null, .null, .null, .null, .null, .null, .null, .null, .int 0, .int 0, .null] := by rw [← hu1, ← hB]; exact mnw_at _ _ _
  have n1 : u1.2.1 = B + 1 := by rw [← hu1]; show w0.2.1 + 1 = _; omega
  have m1 : u1.2.2 = 13 := by rw [← hu1]; show w0.2.2 + 13 = _; omega
  obtain ⟨w1, r1, C1, T1, X1, N1, L1, M1, n2, m2, A1⟩ := X10_init_sp hg o1 n1
  -- the reference
  obtain ⟨u2, hu2⟩ : ∃ z, mnew w1 (.inr (10, [.int 0, .int 0, .int 0, .int 0, .int 0, .int 0, .int 0, .int 0, .null, .null, .null, .null, .null, .null, .null, .null, .null, .null, .null, .null, .null, .null, .null, .null, .null, .null, .null, .int 0, .null, .null, .null, .null, .int 0, .int 0, .int 0, .int 0, .null, .null, .null, .null, .null, .null, .int 0, .null, .null, .int 0, .int 0, .int 0, .null, .null])) 50 = z := ⟨_, rfl⟩
  have o2 : OB u2 (B + 132) 10 [.int 0, .int 0, .int 0, .int 0, .int 0, .int 0, .int 0, .int 0, .null, .null, .null, .null, .null, .null, .null, .null, .null, .null, .null, .null, .null, .null, .null, .null, .null, .null, .null, .int 0, .null, .null, .null, .null, .int 0, .int 0, .int 0, .int 0, .null, .null, .null, .null, .null, .null, .int 0, .null, .null, .int 0, .int 0, .int 0, .null, .null] := by rw [← hu2, ← n2]; exact mnw_at _ _ _
  have n3 : u2.2.1 = B + 132 + 1 := by rw [← hu2]; show w1.2.1 + 1 = _; omega
  have m3 : u2.2.2 = w1.2.2 + 50 := by rw [← hu2]; rfl
  have A2 : FA (fun _ => False) w1 u2 := hu2 ▸ mn_fa _ _ _ _
  obtain ⟨w2, x2, r2, R2, n4, m4, A3⟩ := X11_init_sp hg1 o2 n3
  -- the long
  obtain ⟨w3, hw3⟩ : ∃ z, mnew w2 (.inl (1, 1, zc 1)) 1 = z := ⟨_, rfl⟩
  have o3 : LA w3 (B + 311) 1 (fun _ => 0) := by
    refine la_of ?_
    rw [← hw3, show B + 311 = w2.2.1 by omega]
    exact mnw_at _ _ _
  have n5 : w3.2.1 = B + 312 := by rw [← hw3]; show w2.2.1 + 1 = _; omega
  have m5 : w3.2.2 = w2.2.2 + 1 := by rw [← hw3]; rfl
  have A4 : FA (fun _ => False) w2 w3 := hw3 ▸ mn_fa _ _ _ _
  have H : FA (fun q => q = B + 132) w1 w3 := ((A2.tr' fun _ h => h.elim).t A3).tr A4 fun _ _ h => h.elim
  have K := H.fr
  have nK : ∀ q, q < B + 132 → ¬ (q = B + 132 ∨ w1.2.1 ≤ q) := fun q hq => by omega
  have R3 : RI w3 (B + 132) 0 0 (-1) (fun _ => 0) (fun _ => 0) dd0 te0 (fun _ => te0) x2 := RI.fr (w := (w2.1, w3.2)) R2 A4.fr (fun i hi h => by rcases h with h | h; exact h; omega)
  have T3 : CT g w3 B (B + 312) (B + 2) dd0 0 32 := by
    obtain ⟨fM, fS, t1, t2, t3, ⟨q1, q2, q3, q4, q5, q6, q7, q8, q9, q10, q11⟩, t5, t6, t7, t8⟩ := T1
    refine ⟨B + 74, B + 75, B + 86, 32, ⟨fM, fS, K.at t1 (nK _ (lt_off (by decide))), LA.fr (w := (w1.1, w3.2)) t2 K (nK _ (lt_off (by decide))), LA.fr (w := (w1.1, w3.2)) t3 K (nK _ (lt_off (by decide))), ⟨Or.inl rfl, Or.inl rfl, Or.inl rfl, q4, q5, q6, by rw [n5]; exact lt_off (by decide), by rw [n5]; exact lt_off (by decide), by rw [n5]; exact lt_off (by decide), ?_, by rw [n5]; exact Nat.le_refl _⟩, t5, t6, t7, AR.fr (w := (w1.1, w3.2)) t8 K (nK _ (lt_off (by decide)))⟩, TX.fr (w := (w1.1, w3.2)) X1 K (fun i h1 h2 => nK _ (by clear t5 t6 t7 q1 q2 q3; omega)) (nK _ (lt_off (by decide)))⟩
    clear t5 t6 t7 q1 q2 q3
    omega
  have I3 : LWi g w3 B 0 (B + 312) w3.2.2 := by
    refine ⟨(0, 0, -1, fun _ => 0, fun _ => 0, dd0, te0, fun _ => te0), 0, 32, ⟨B + 2, B + 37, CC.fr (w := (w1.1, w3.2)) C1 K (fun i hi => nK _ (by omega)) (nK _ (by omega)), T3, CN.fr (w := (w1.1, w3.2)) N1 K (fun i h1 h2 => nK _ (by omega)), CL.fr (w := (w1.1, w3.2)) L1 K (fun i h1 h2 => nK _ (by omega)), CM.fr (w := (w1.1, w3.2)) M1 K (fun i h1 h2 => nK _ (by omega))⟩, ⟨x2, R3⟩, ⟨_, o3⟩, ⟨TV.z rfl rfl, fun i hi => absurd hi (Nat.not_lt_zero _)⟩, fun i hi => ⟨0, by decide, rfl⟩, by omega, by omega, by omega⟩
  obtain ⟨N, hN⟩ : ∃ N, g.1 = (N + 1 + 5 * (g.2.2.2.2.2.2.1 / 6)) + 1 := ⟨g.1 - (1 + 5 * (g.2.2.2.2.2.2.1 / 6) + 1), by omega⟩
  obtain ⟨w', r3, s, lev, nG, h1, h2, h3, h4, h5, h6, h7, h8⟩ := law_run hg hL I3 N
  have hlev : lev ≤ 10 := by
    obtain ⟨D, D', -, ⟨aM, aS, aG, n9, ⟨fM, fS, -, -, -, -, hC, -⟩, -⟩, -⟩ := h1
    exact hC.le.2.2
  have he := ge1_le nG (rwS s)
  refine ⟨w', ?_, ?_, ?_⟩
  · rw [← r3]
    show jL_law g g.1 0 [] _ w0 = _
    rw [hN]
    show bL_law_0 g (jL_law g (N + 1 + 5 * (g.2.2.2.2.2.2.1 / 6))) [] _ w0 = _
    generalize jL_law g (N + 1 + 5 * (g.2.2.2.2.2.2.1 / 6)) = J
    clear r3 h1 h2 h3 h4 h5 I3 T3 R3
    have c1 : (Int32.toNatClampNeg 1) = 1 := by decide
    simp [bL_law_0, i_new, hu1, i_dup, Value.category, cik_0 r1, i_astore, lset1, clr, hu2, n2, cik_0 r2, i_push, i_newarr, c1, hw3, n4, i_istore, i_jmp, msk, LVs, hB, nI_0]
  · omega
  · have : g.2.2.2.2.2.2.1 / 6 ≤ 512 := by omega
    omega
