/-! ===== when, pairs, settlement ===== -/
def whK (δ : DE) (t h o wh : Nat) : Int32 := if wh = 0 then oV (fun i => cnR δ i o) (amnP (fun i => owR δ i t == h + 1) (fun i => cnR δ i o) (nR δ)) else oV (fun i => cnR δ i o) (amxP (fun i => owR δ i t == h + 1) (fun i => cnR δ i o) (nR δ))
theorem when_lpc {g : GE} (hg : FU g) {w : Mem} {B E D D' fed kept aM aS aG n1 lev : Nat} {fp : Int32} {δ : DE} (hB : BD w B D D' fed kept fp) (hd : WF δ) (hG : GT g w (B + 73) E D δ (δ.1 6) aM aS aG n1 lev) {t h o wh : Nat} (ht : t < 5) (hh : h < 4) (ho : o < 4) (hw : wh = 0 ∨ wh = 1) : ∀ F, 3 * nR δ + 1 ≤ F → jX10_when g F 1 [] [some (.ref B), some (.int (nI t)), some (.int (nI h)), some (.int (nI o)), some (.int (nI wh)), some (.int (-1)), some (.int 0), none] w = some (.inl (some (.int (whK δ t h o wh))), w) := by
  have hT := hG.tb
  have hn := nR_le hd
  rcases hw with q | q <;> subst q
  · have L := lpF (fun f (s : Lv × Mem) => jX10_when g f 1 [] s.1 s.2) (fun k => ([some (.ref B), some (.int (nI t)), some (.int (nI h)), some (.int (nI o)), some (.int (nI 0)), some (.int (oV (fun i => cnR δ i o) (amnP (fun i => owR δ i t == h + 1) (fun i => cnR δ i o) k))), some (.int (nI k)), none], w)) (some (.inl (some (.int (oV (fun i => cnR δ i o) (amnP (fun i => owR δ i t == h + 1) (fun i => cnR δ i o) (nR δ))))), w)) 3 1 (nR δ)
      (fun k hk f => by
        have o1 := ownerOf_sp hd hG hk ht
        have o2 := coinOf_sp hd hG hk ho
        have lo := owR_le hd k t
        have b1 := hd.1.1
        have m : (nI (owR δ k t) - 1 = nI h) ↔ owR δ k t = h + 1 := nI_m1e (by omega) (by omega)
        by_cases y : owR δ k t = h + 1
        · cases hA : amnP (fun i => owR δ i t == h + 1) (fun i => cnR δ i o) k with
          | none =>
            refine ⟨f, Nat.le_refl _, ?_⟩
            simp [jX10_when, bX10_when_0, bX10_when_1, bX10_when_2, bX10_when_3, i_aload, i_getf, i_iceq, i_icge, i_icle, i_icne, i_ifne, i_iinc, i_iload, i_ireturn, i_istore, i_jmp, i_push, msk, lset1, lset2, clr, Value.category, Option.toList, List.cons_append, List.nil_append, List.length_cons, List.length_nil, gf_eq hB, gf_eq hT, nI_ge hk (by omega), cvk_2 hT o1, cvk_2 hT o2, hA, oV, amnP, y, nI_pred, nI_1]
          | some j =>
            have lj := cnR_le hd j o
            have lk := cnR_le hd k o
            have nn := nI_nn (y := cnR δ j o) (by omega)
            by_cases z : cnR δ k o < cnR δ j o
            · have m := nI_ge z (by omega)
              refine ⟨f, Nat.le_refl _, ?_⟩
              simp [jX10_when, bX10_when_0, bX10_when_1, bX10_when_2, bX10_when_3, i_aload, i_getf, i_iceq, i_icge, i_icle, i_icne, i_ifne, i_iinc, i_iload, i_ireturn, i_istore, i_jmp, i_push, msk, lset1, lset2, clr, Value.category, Option.toList, List.cons_append, List.nil_append, List.length_cons, List.length_nil, gf_eq hB, gf_eq hT, nI_ge hk (by omega), cvk_2 hT o1, cvk_2 hT o2, hA, oV, amnP, y, nI_pred, nn, (show nI 0 = 0 from nI_0), m, z, nI_1]
            · have m := nI_le (Nat.le_of_not_lt z) (by omega)
              refine ⟨f + 1, by omega, ?_⟩; rw [show f + 3 = (f + 1) + 2 from rfl]; generalize f + 1 = F
              simp [jX10_when, bX10_when_0, bX10_when_1, bX10_when_2, bX10_when_3, i_aload, i_getf, i_iceq, i_icge, i_icle, i_icne, i_ifne, i_iinc, i_iload, i_ireturn, i_istore, i_jmp, i_push, msk, lset1, lset2, clr, Value.category, Option.toList, List.cons_append, List.nil_append, List.length_cons, List.length_nil, gf_eq hB, gf_eq hT, nI_ge hk (by omega), cvk_2 hT o1, cvk_2 hT o2, hA, oV, amnP, y, nI_pred, nn, (show nI 0 = 0 from nI_0), m, z, nI_1]
        · refine ⟨f + 1, by omega, ?_⟩; rw [show f + 3 = (f + 1) + 2 from rfl]; generalize f + 1 = F
          simp [jX10_when, bX10_when_0, bX10_when_1, bX10_when_2, bX10_when_3, i_aload, i_getf, i_iceq, i_icge, i_icle, i_icne, i_ifne, i_iinc, i_iload, i_ireturn, i_istore, i_jmp, i_push, msk, lset1, lset2, clr, Value.category, Option.toList, List.cons_append, List.nil_append, List.length_cons, List.length_nil, gf_eq hB, gf_eq hT, nI_ge hk (by omega), cvk_2 hT o1, mt m.mp y, amnP, y, nI_1])
      (fun f => by
        simp [jX10_when, bX10_when_0, bX10_when_1, bX10_when_2, bX10_when_3, i_aload, i_getf, i_iceq, i_icge, i_icle, i_icne, i_ifne, i_iinc, i_iload, i_ireturn, i_istore, i_jmp, i_push, msk, lset1, lset2, clr, Value.category, Option.toList, List.cons_append, List.nil_append, List.length_cons, List.length_nil, gf_eq hB, gf_eq hT])
    intro F hF
    have L1 := L F hF
    simp only [amnP, oV, nI_0] at L1
    simp only [whK, if_true]
    exact L1
  · have L := lpF (fun f (s : Lv × Mem) => jX10_when g f 1 [] s.1 s.2) (fun k => ([some (.ref B), some (.int (nI t)), some (.int (nI h)), some (.int (nI o)), some (.int (nI 1)), some (.int (oV (fun i => cnR δ i o) (amxP (fun i => owR δ i t == h + 1) (fun i => cnR δ i o) k))), some (.int (nI k)), none], w)) (some (.inl (some (.int (oV (fun i => cnR δ i o) (amxP (fun i => owR δ i t == h + 1) (fun i => cnR δ i o) (nR δ))))), w)) 3 1 (nR δ)
      (fun k hk f => by
        have o1 := ownerOf_sp hd hG hk ht
        have o2 := coinOf_sp hd hG hk ho
        have lo := owR_le hd k t
        have b1 := hd.1.1
        have m : (nI (owR δ k t) - 1 = nI h) ↔ owR δ k t = h + 1 := nI_m1e (by omega) (by omega)
        by_cases y : owR δ k t = h + 1
        · cases hA : amxP (fun i => owR δ i t == h + 1) (fun i => cnR δ i o) k with
          | none =>
            refine ⟨f, Nat.le_refl _, ?_⟩
            simp [jX10_when, bX10_when_0, bX10_when_1, bX10_when_2, bX10_when_3, i_aload, i_getf, i_iceq, i_icge, i_icle, i_icne, i_ifne, i_iinc, i_iload, i_ireturn, i_istore, i_jmp, i_push, msk, lset1, lset2, clr, Value.category, Option.toList, List.cons_append, List.nil_append, List.length_cons, List.length_nil, gf_eq hB, gf_eq hT, nI_ge hk (by omega), cvk_2 hT o1, cvk_2 hT o2, hA, oV, amxP, y, nI_pred, nI_1]
          | some j =>
            have lj := cnR_le hd j o
            have lk := cnR_le hd k o
            have nn := nI_nn (y := cnR δ j o) (by omega)
            by_cases z : cnR δ j o < cnR δ k o
            · have m := nI_ge z (by omega)
              refine ⟨f, Nat.le_refl _, ?_⟩
              simp [jX10_when, bX10_when_0, bX10_when_1, bX10_when_2, bX10_when_3, i_aload, i_getf, i_iceq, i_icge, i_icle, i_icne, i_ifne, i_iinc, i_iload, i_ireturn, i_istore, i_jmp, i_push, msk, lset1, lset2, clr, Value.category, Option.toList, List.cons_append, List.nil_append, List.length_cons, List.length_nil, gf_eq hB, gf_eq hT, nI_ge hk (by omega), cvk_2 hT o1, cvk_2 hT o2, hA, oV, amxP, y, nI_pred, nn, (show ¬ nI 1 = 0 from by decide), m, z, nI_1]
            · have m := nI_le (Nat.le_of_not_lt z) (by omega)
              refine ⟨f + 1, by omega, ?_⟩; rw [show f + 3 = (f + 1) + 2 from rfl]; generalize f + 1 = F
              simp [jX10_when, bX10_when_0, bX10_when_1, bX10_when_2, bX10_when_3, i_aload, i_getf, i_iceq, i_icge, i_icle, i_icne, i_ifne, i_iinc, i_iload, i_ireturn, i_istore, i_jmp, i_push, msk, lset1, lset2, clr, Value.category, Option.toList, List.cons_append, List.nil_append, List.length_cons, List.length_nil, gf_eq hB, gf_eq hT, nI_ge hk (by omega), cvk_2 hT o1, cvk_2 hT o2, hA, oV, amxP, y, nI_pred, nn, (show ¬ nI 1 = 0 from by decide), m, z, nI_1]
        · refine ⟨f + 1, by omega, ?_⟩; rw [show f + 3 = (f + 1) + 2 from rfl]; generalize f + 1 = F
          simp [jX10_when, bX10_when_0, bX10_when_1, bX10_when_2, bX10_when_3, i_aload, i_getf, i_iceq, i_icge, i_icle, i_icne, i_ifne, i_iinc, i_iload, i_ireturn, i_istore, i_jmp, i_push, msk, lset1, lset2, clr, Value.category, Option.toList, List.cons_append, List.nil_append, List.length_cons, List.length_nil, gf_eq hB, gf_eq hT, nI_ge hk (by omega), cvk_2 hT o1, mt m.mp y, amxP, y, nI_1])
      (fun f => by
        simp [jX10_when, bX10_when_0, bX10_when_1, bX10_when_2, bX10_when_3, i_aload, i_getf, i_iceq, i_icge, i_icle, i_icne, i_ifne, i_iinc, i_iload, i_ireturn, i_istore, i_jmp, i_push, msk, lset1, lset2, clr, Value.category, Option.toList, List.cons_append, List.nil_append, List.length_cons, List.length_nil, gf_eq hB, gf_eq hT])
    intro F hF
    have L1 := L F hF
    simp only [amxP, oV, nI_0] at L1
    simp only [whK, Nat.one_ne_zero, if_false]
    exact L1
theorem when_lpr {g : GE} (hg : FU g) {w : Mem} {M : Nat} {x : Nat → Int32} {δ : DE} (hd : WF δ) (hO : MO w M x) (hx : x 27 = nI (nR δ)) (hR : RT w M δ (δ.1 6)) {t h o wh : Nat} (ht : t < 5) (hh : h < 4) (ho : o < 4) (hw : wh = 0 ∨ wh = 1) : ∀ F, 4 * nR δ + 1 ≤ F → jX11_when g F 5 [] [some (.ref M), some (.int (nI t)), some (.int (nI h)), some (.int (nI o)), some (.int (nI wh)), some (.int (-1)), some (.int 0), none] w = some (.inl (some (.int (whK δ t h o wh))), w) := by
  have hn := nR_le hd
  rcases hw with q | q <;> subst q
  · have L := lpF (fun f (s : Lv × Mem) => jX11_when g f 5 [] s.1 s.2) (fun k => ([some (.ref M), some (.int (nI t)), some (.int (nI h)), some (.int (nI o)), some (.int (nI 0)), some (.int (oV (fun i => cnR δ i o) (amnP (fun i => owR δ i t == h + 1) (fun i => cnR δ i o) k))), some (.int (nI k)), none], w)) (some (.inl (some (.int (oV (fun i => cnR δ i o) (amnP (fun i => owR δ i t == h + 1) (fun i => cnR δ i o) (nR δ))))), w)) 4 1 (nR δ)
      (fun k hk f => by
        have o1 := rgoesBy_sp (g := g) hd hO hR hk ht
        have o2 := rcoinBy_sp (g := g) hd hO hR hk ho
        have lo := owR_le hd k t
        have b1 := hd.1.1
        have m : (nI (owR δ k t) - 1 = nI h) ↔ owR δ k t = h + 1 := nI_m1e (by omega) (by omega)
        by_cases y : owR δ k t = h + 1
        · cases hA : amnP (fun i => owR δ i t == h + 1) (fun i => cnR δ i o) k with
          | none =>
            refine ⟨f, Nat.le_refl _, ?_⟩
            simp [jX11_when, bX11_when_0, bX11_when_1, bX11_when_2, bX11_when_3, bX11_when_4, bX11_when_5, bX11_when_6, bX11_when_7, bX11_when_8, bX11_when_9, i_aload, i_getf, i_iceq, i_icge, i_icle, i_ifeq, i_ifne, i_iinc, i_iload, i_ireturn, i_istore, i_jmp, i_push, i_putf, msk, lset1, lset2, clr, Value.category, Option.toList, List.cons_append, List.nil_append, List.length_cons, List.length_nil, gf_eq hO, mg_27, hx, nI_ge hk (by omega), cvk_2 hO o1, cvk_2 hO o2, hA, oV, amnP, y, nI_pred, nI_1]
          | some j =>
            have lj := cnR_le hd j o
            have lk := cnR_le hd k o
            have nn := nI_nn (y := cnR δ j o) (by omega)
            by_cases z : cnR δ k o < cnR δ j o
            · have m := nI_ge z (by omega)
              refine ⟨f, Nat.le_refl _, ?_⟩
              simp [jX11_when, bX11_when_0, bX11_when_1, bX11_when_2, bX11_when_3, bX11_when_4, bX11_when_5, bX11_when_6, bX11_when_7, bX11_when_8, bX11_when_9, i_aload, i_getf, i_iceq, i_icge, i_icle, i_ifeq, i_ifne, i_iinc, i_iload, i_ireturn, i_istore, i_jmp, i_push, i_putf, msk, lset1, lset2, clr, Value.category, Option.toList, List.cons_append, List.nil_append, List.length_cons, List.length_nil, gf_eq hO, mg_27, hx, nI_ge hk (by omega), cvk_2 hO o1, cvk_2 hO o2, hA, oV, amnP, y, nI_pred, nn, (show nI 0 = 0 from nI_0), m, z, nI_1]
            · have m := nI_le (Nat.le_of_not_lt z) (by omega)
              refine ⟨f, Nat.le_refl _, ?_⟩
              simp [jX11_when, bX11_when_0, bX11_when_1, bX11_when_2, bX11_when_3, bX11_when_4, bX11_when_5, bX11_when_6, bX11_when_7, bX11_when_8, bX11_when_9, i_aload, i_getf, i_iceq, i_icge, i_icle, i_ifeq, i_ifne, i_iinc, i_iload, i_ireturn, i_istore, i_jmp, i_push, i_putf, msk, lset1, lset2, clr, Value.category, Option.toList, List.cons_append, List.nil_append, List.length_cons, List.length_nil, gf_eq hO, mg_27, hx, nI_ge hk (by omega), cvk_2 hO o1, cvk_2 hO o2, hA, oV, amnP, y, nI_pred, nn, (show nI 0 = 0 from nI_0), m, z, nI_1]
        · refine ⟨f + 2, by omega, ?_⟩; rw [show f + 4 = (f + 2) + 2 from rfl]; generalize f + 2 = F
          simp [jX11_when, bX11_when_0, bX11_when_1, bX11_when_2, bX11_when_3, bX11_when_4, bX11_when_5, bX11_when_6, bX11_when_7, bX11_when_8, bX11_when_9, i_aload, i_getf, i_iceq, i_icge, i_icle, i_ifeq, i_ifne, i_iinc, i_iload, i_ireturn, i_istore, i_jmp, i_push, i_putf, msk, lset1, lset2, clr, Value.category, Option.toList, List.cons_append, List.nil_append, List.length_cons, List.length_nil, gf_eq hO, mg_27, hx, nI_ge hk (by omega), cvk_2 hO o1, mt m.mp y, amnP, y, nI_1])
      (fun f => by
        simp [jX11_when, bX11_when_0, bX11_when_1, bX11_when_2, bX11_when_3, bX11_when_4, bX11_when_5, bX11_when_6, bX11_when_7, bX11_when_8, bX11_when_9, i_aload, i_getf, i_iceq, i_icge, i_icle, i_ifeq, i_ifne, i_iinc, i_iload, i_ireturn, i_istore, i_jmp, i_push, i_putf, msk, lset1, lset2, clr, Value.category, Option.toList, List.cons_append, List.nil_append, List.length_cons, List.length_nil, gf_eq hO, mg_27, hx])
    intro F hF
    have L1 := L F hF
    simp only [amnP, oV, nI_0] at L1
    simp only [whK, if_true]
    exact L1
  · have L := lpF (fun f (s : Lv × Mem) => jX11_when g f 5 [] s.1 s.2) (fun k => ([some (.ref M), some (.int (nI t)), some (.int (nI h)), some (.int (nI o)), some (.int (nI 1)), some (.int (oV (fun i => cnR δ i o) (amxP (fun i => owR δ i t == h + 1) (fun i => cnR δ i o) k))), some (.int (nI k)), none], w)) (some (.inl (some (.int (oV (fun i => cnR δ i o) (amxP (fun i => owR δ i t == h + 1) (fun i => cnR δ i o) (nR δ))))), w)) 4 1 (nR δ)
      (fun k hk f => by
        have o1 := rgoesBy_sp (g := g) hd hO hR hk ht
        have o2 := rcoinBy_sp (g := g) hd hO hR hk ho
        have lo := owR_le hd k t
        have b1 := hd.1.1
        have m : (nI (owR δ k t) - 1 = nI h) ↔ owR δ k t = h + 1 := nI_m1e (by omega) (by omega)
        by_cases y : owR δ k t = h + 1
        · cases hA : amxP (fun i => owR δ i t == h + 1) (fun i => cnR δ i o) k with
          | none =>
            refine ⟨f, Nat.le_refl _, ?_⟩
            simp [jX11_when, bX11_when_0, bX11_when_1, bX11_when_2, bX11_when_3, bX11_when_4, bX11_when_5, bX11_when_6, bX11_when_7, bX11_when_8, bX11_when_9, i_aload, i_getf, i_iceq, i_icge, i_icle, i_ifeq, i_ifne, i_iinc, i_iload, i_ireturn, i_istore, i_jmp, i_push, i_putf, msk, lset1, lset2, clr, Value.category, Option.toList, List.cons_append, List.nil_append, List.length_cons, List.length_nil, gf_eq hO, mg_27, hx, nI_ge hk (by omega), cvk_2 hO o1, cvk_2 hO o2, hA, oV, amxP, y, nI_pred, nI_1]
          | some j =>
            have lj := cnR_le hd j o
            have lk := cnR_le hd k o
            have nn := nI_nn (y := cnR δ j o) (by omega)
            by_cases z : cnR δ j o < cnR δ k o
            · have m := nI_ge z (by omega)
              refine ⟨f, Nat.le_refl _, ?_⟩
              simp [jX11_when, bX11_when_0, bX11_when_1, bX11_when_2, bX11_when_3, bX11_when_4, bX11_when_5, bX11_when_6, bX11_when_7, bX11_when_8, bX11_when_9, i_aload, i_getf, i_iceq, i_icge, i_icle, i_ifeq, i_ifne, i_iinc, i_iload, i_ireturn, i_istore, i_jmp, i_push, i_putf, msk, lset1, lset2, clr, Value.category, Option.toList, List.cons_append, List.nil_append, List.length_cons, List.length_nil, gf_eq hO, mg_27, hx, nI_ge hk (by omega), cvk_2 hO o1, cvk_2 hO o2, hA, oV, amxP, y, nI_pred, nn, (show ¬ nI 1 = 0 from by decide), m, z, nI_1]
            · have m := nI_le (Nat.le_of_not_lt z) (by omega)
              refine ⟨f, Nat.le_refl _, ?_⟩
              simp [jX11_when, bX11_when_0, bX11_when_1, bX11_when_2, bX11_when_3, bX11_when_4, bX11_when_5, bX11_when_6, bX11_when_7, bX11_when_8, bX11_when_9, i_aload, i_getf, i_iceq, i_icge, i_icle, i_ifeq, i_ifne, i_iinc, i_iload, i_ireturn, i_istore, i_jmp, i_push, i_putf, msk, lset1, lset2, clr, Value.category, Option.toList, List.cons_append, List.nil_append, List.length_cons, List.length_nil, gf_eq hO, mg_27, hx, nI_ge hk (by omega), cvk_2 hO o1, cvk_2 hO o2, hA, oV, amxP, y, nI_pred, nn, (show ¬ nI 1 = 0 from by decide), m, z, nI_1]
        · refine ⟨f + 2, by omega, ?_⟩; rw [show f + 4 = (f + 2) + 2 from rfl]; generalize f + 2 = F
          simp [jX11_when, bX11_when_0, bX11_when_1, bX11_when_2, bX11_when_3, bX11_when_4, bX11_when_5, bX11_when_6, bX11_when_7, bX11_when_8, bX11_when_9, i_aload, i_getf, i_iceq, i_icge, i_icle, i_ifeq, i_ifne, i_iinc, i_iload, i_ireturn, i_istore, i_jmp, i_push, i_putf, msk, lset1, lset2, clr, Value.category, Option.toList, List.cons_append, List.nil_append, List.length_cons, List.length_nil, gf_eq hO, mg_27, hx, nI_ge hk (by omega), cvk_2 hO o1, mt m.mp y, amxP, y, nI_1])
      (fun f => by
        simp [jX11_when, bX11_when_0, bX11_when_1, bX11_when_2, bX11_when_3, bX11_when_4, bX11_when_5, bX11_when_6, bX11_when_7, bX11_when_8, bX11_when_9, i_aload, i_getf, i_iceq, i_icge, i_icle, i_ifeq, i_ifne, i_iinc, i_iload, i_ireturn, i_istore, i_jmp, i_push, i_putf, msk, lset1, lset2, clr, Value.category, Option.toList, List.cons_append, List.nil_append, List.length_cons, List.length_nil, gf_eq hO, mg_27, hx])
    intro F hF
    have L1 := L F hF
    simp only [amxP, oV, nI_0] at L1
    simp only [whK, Nat.one_ne_zero, if_false]
    exact L1
def whenO (δ : DE) (x0 x1 x2 x3 : Int32) : OUT := 
  match rng x0 (δ.1 1) with
  | none => .inr (1, 0)
  | some n0 =>
    match rng x1 (δ.1 0) with
    | none => .inr (1, 0)
    | some n1 =>
      match rng x2 (δ.1 0) with
      | none => .inr (1, 0)
      | some n2 =>
        match rng x3 (1 + 1) with
        | none => .inr (2, 2)
        | some n3 =>
          .inl (.int (whK δ n0 n1 n2 n3))
theorem when_c {g : GE} {w : Mem} {B E fed kept : Nat} {fp : Int32} {tp : Nat → Int32} {rf : Nat → Nat} {δ : DE} {τ : TE} {im : Nat → TE} {lev nG : Nat} (hg : GD g) (hE : B + 132 ≤ E) (hI : CI g w B E fed kept fp tp rf δ τ im lev nG) (x0 x1 x2 x3 : Int32) : CQ g w B E fed kept fp tp rf δ τ im lev nG (fX10_when g [.ref B, .int x0, .int x1, .int x2, .int x3] w) (whenO δ x0 x1 x2 x3) := by
  have hg1 := hg.1
  obtain ⟨D, D', hCC, hCT, hCN, hCL, hCM⟩ := id hI
  obtain ⟨hDD, hB, hTp, hD, hD', hSc, hr, hd, hfd, hkp⟩ := id hCC
  obtain ⟨aM, aS, aG, n1', hG, hX⟩ := id hCT
  obtain ⟨b1, b2, b3, b4, b5, b6, b7, b8⟩ := id hd.1
  have hT := hG.tb
  have hn := nR_le hd
  obtain ⟨N, hN⟩ : ∃ N, g.1 = N + 12 := ⟨g.1 - 12, by omega⟩
  unfold whenO
  have q0 := needThing_sp hg1 hB hr hD b2 x0
  cases h0 : rng x0 (δ.1 1) with
  | none =>
    rw [h0] at q0
    simp only [tst, Option.isSome, Bool.false_eq_true, if_false] at q0
    refine CQ.no hE hI ?_
    simp [fX10_when, kX10_when, ent, entp, jX10_when, bX10_when_0, bX10_when_1, bX10_when_2, bX10_when_3, i_aload, i_getf, i_iceq, i_icge, i_icle, i_icne, i_ifne, i_iinc, i_iload, i_ireturn, i_istore, i_jmp, i_push, msk, lset1, lset2, clr, Value.category, Option.toList, List.cons_append, List.nil_append, List.length_cons, List.length_nil, hN, cxe_1 hB q0]
  | some n0 =>
    rw [h0] at q0
    simp only [tst, Option.isSome, if_true] at q0
    obtain ⟨l0, e0⟩ := rng_some (by omega) h0
    subst e0
    have q1 := needHeir_sp hg1 hB hr hD b1 x1
    cases h1 : rng x1 (δ.1 0) with
    | none =>
      rw [h1] at q1
      simp only [tst, Option.isSome, Bool.false_eq_true, if_false] at q1
      refine CQ.no hE hI ?_
      simp [fX10_when, kX10_when, ent, entp, jX10_when, bX10_when_0, bX10_when_1, bX10_when_2, bX10_when_3, i_aload, i_getf, i_iceq, i_icge, i_icle, i_icne, i_ifne, i_iinc, i_iload, i_ireturn, i_istore, i_jmp, i_push, msk, lset1, lset2, clr, Value.category, Option.toList, List.cons_append, List.nil_append, List.length_cons, List.length_nil, hN, cxk_1 hB q0, cxe_1 hB q1]
    | some n1 =>
      rw [h1] at q1
      simp only [tst, Option.isSome, if_true] at q1
      obtain ⟨l1, e1⟩ := rng_some (by omega) h1
      subst e1
      have q2 := needHeir_sp hg1 hB hr hD b1 x2
      cases h2 : rng x2 (δ.1 0) with
      | none =>
        rw [h2] at q2
        simp only [tst, Option.isSome, Bool.false_eq_true, if_false] at q2
        refine CQ.no hE hI ?_
        simp [fX10_when, kX10_when, ent, entp, jX10_when, bX10_when_0, bX10_when_1, bX10_when_2, bX10_when_3, i_aload, i_getf, i_iceq, i_icge, i_icle, i_icne, i_ifne, i_iinc, i_iload, i_ireturn, i_istore, i_jmp, i_push, msk, lset1, lset2, clr, Value.category, Option.toList, List.cons_append, List.nil_append, List.length_cons, List.length_nil, hN, cxk_1 hB q0, cxk_1 hB q1, cxe_1 hB q2]
      | some n2 =>
        rw [h2] at q2
        simp only [tst, Option.isSome, if_true] at q2
        obtain ⟨l2, e2⟩ := rng_some (by omega) h2
        subst e2
        have q3 := needWhat_sp hg1 hB hr x3 (n := 1) (y := 1) rfl (by decide)
        cases h3 : rng x3 (1 + 1) with
        | none =>
          rw [h3] at q3
          simp only [tst, Option.isSome, Bool.false_eq_true, if_false] at q3
          refine CQ.no hE hI ?_
          simp [fX10_when, kX10_when, ent, entp, jX10_when, bX10_when_0, bX10_when_1, bX10_when_2, bX10_when_3, i_aload, i_getf, i_iceq, i_icge, i_icle, i_icne, i_ifne, i_iinc, i_iload, i_ireturn, i_istore, i_jmp, i_push, msk, lset1, lset2, clr, Value.category, Option.toList, List.cons_append, List.nil_append, List.length_cons, List.length_nil, hN, cxk_1 hB q0, cxk_1 hB q1, cxk_1 hB q2, cxe_2 hB q3]
        | some n3 =>
          rw [h3] at q3
          simp only [tst, Option.isSome, if_true] at q3
          obtain ⟨l3, e3⟩ := rng_some (by omega) h3
          subst e3
          obtain ⟨N2, hN2⟩ : ∃ N, g.1 = N + 1 := ⟨g.1 - 1, by omega⟩
          refine CQ.ok hI ?_
          have q9 := when_lpc hg1 hB hd hG (t := n0) (h := n1) (o := n2) (wh := n3) (by omega) (by omega) (by omega) (by omega) N2 (by omega)
          rw [← q9]
          simp [fX10_when, kX10_when, ent, entp, jX10_when, bX10_when_0, bX10_when_1, bX10_when_2, bX10_when_3, i_aload, i_getf, i_iceq, i_icge, i_icle, i_icne, i_ifne, i_iinc, i_iload, i_ireturn, i_istore, i_jmp, i_push, msk, lset1, lset2, clr, Value.category, Option.toList, List.cons_append, List.nil_append, List.length_cons, List.length_nil, hN2, cxk_1 hB q0, cxk_1 hB q1, cxk_1 hB q2, cxk_2 hB q3]
theorem when_r {g : GE} {w : Mem} {M fed kept : Nat} {fp : Int32} {tp : Nat → Int32} {rf : Nat → Nat} {δ : DE} {τ : TE} {im : Nat → TE} {x : Nat → Int32} (hg : FU g) (hd : WF δ) (hI : RI w M fed kept fp tp rf δ τ im x) (x0 x1 x2 x3 : Int32) : RQo w M fed kept fp tp rf δ τ im (fX11_when g [.ref M, .int x0, .int x1, .int x2, .int x3] w) (whenO δ x0 x1 x2 x3) := by
  obtain ⟨w0, hw0, I0, F0⟩ := hI.t0
  obtain ⟨b1, b2, b3, b4, b5, b6, b7, b8⟩ := id hd.1
  obtain ⟨hO, hXO, hRK, hRZ, hrf⟩ := id I0
  obtain ⟨x1', x3', x27, x32, x33, x34⟩ := id hXO
  obtain ⟨hTp, hD, hR, hCp, hHb, hKp, hRP⟩ := id hRK
  have hn := nR_le hd
  have x0' : (va_up x 0 0) 0 = 0 := va_up_self _ _ _
  obtain ⟨N, hN⟩ : ∃ N, g.1 = N + 16 := ⟨g.1 - 16, by omega⟩
  unfold whenO
  have q0 := isThing_sp hg hO hD b2 x0
  cases h0 : rng x0 (δ.1 1) with
  | none =>
    rw [h0] at q0
    simp only [bI, Option.isSome, Bool.false_eq_true, if_false] at q0
    obtain ⟨w1, p1, p2, p3⟩ := bad1_sp hg I0 x0' (c := 1) (r := 0) (C := 1) (R := 0) rfl rfl (by decide) (by decide)
    refine RQo.no (v := .int 0) F0 p2 ?_ p3
    simp [fX11_when, kX11_when, ent, entp, jX11_when, bX11_when_0, bX11_when_1, bX11_when_2, bX11_when_3, bX11_when_4, bX11_when_5, bX11_when_6, bX11_when_7, bX11_when_8, bX11_when_9, i_aload, i_getf, i_iceq, i_icge, i_icle, i_ifeq, i_ifne, i_iinc, i_iload, i_ireturn, i_istore, i_jmp, i_push, i_putf, msk, lset1, lset2, clr, Value.category, Option.toList, List.cons_append, List.nil_append, List.length_cons, List.length_nil, hN, st_0 hI.1, hw0, cvk_1 hO q0, cvk_3 hO p1]
  | some n0 =>
    rw [h0] at q0
    simp only [bI, Option.isSome, if_true] at q0
    obtain ⟨l0, e0⟩ := rng_some (by omega) h0
    subst e0
    have q1 := isHeir_sp hg hO hD b1 x1
    cases h1 : rng x1 (δ.1 0) with
    | none =>
      rw [h1] at q1
      simp only [bI, Option.isSome, Bool.false_eq_true, if_false] at q1
      obtain ⟨w1, p1, p2, p3⟩ := bad1_sp hg I0 x0' (c := 1) (r := 0) (C := 1) (R := 0) rfl rfl (by decide) (by decide)
      refine RQo.no (v := .int 0) F0 p2 ?_ p3
      simp [fX11_when, kX11_when, ent, entp, jX11_when, bX11_when_0, bX11_when_1, bX11_when_2, bX11_when_3, bX11_when_4, bX11_when_5, bX11_when_6, bX11_when_7, bX11_when_8, bX11_when_9, i_aload, i_getf, i_iceq, i_icge, i_icle, i_ifeq, i_ifne, i_iinc, i_iload, i_ireturn, i_istore, i_jmp, i_push, i_putf, msk, lset1, lset2, clr, Value.category, Option.toList, List.cons_append, List.nil_append, List.length_cons, List.length_nil, hN, st_0 hI.1, hw0, cvk_1 hO q0, cvk_1 hO q1, cvk_3 hO p1]
    | some n1 =>
      rw [h1] at q1
      simp only [bI, Option.isSome, if_true] at q1
      obtain ⟨l1, e1⟩ := rng_some (by omega) h1
      subst e1
      have q2 := isHeir_sp hg hO hD b1 x2
      cases h2 : rng x2 (δ.1 0) with
      | none =>
        rw [h2] at q2
        simp only [bI, Option.isSome, Bool.false_eq_true, if_false] at q2
        obtain ⟨w1, p1, p2, p3⟩ := bad1_sp hg I0 x0' (c := 1) (r := 0) (C := 1) (R := 0) rfl rfl (by decide) (by decide)
        refine RQo.no (v := .int 0) F0 p2 ?_ p3
        simp [fX11_when, kX11_when, ent, entp, jX11_when, bX11_when_0, bX11_when_1, bX11_when_2, bX11_when_3, bX11_when_4, bX11_when_5, bX11_when_6, bX11_when_7, bX11_when_8, bX11_when_9, i_aload, i_getf, i_iceq, i_icge, i_icle, i_ifeq, i_ifne, i_iinc, i_iload, i_ireturn, i_istore, i_jmp, i_push, i_putf, msk, lset1, lset2, clr, Value.category, Option.toList, List.cons_append, List.nil_append, List.length_cons, List.length_nil, hN, st_0 hI.1, hw0, cvk_1 hO q0, cvk_1 hO q1, cvk_1 hO q2, cvk_3 hO p1]
      | some n2 =>
        rw [h2] at q2
        simp only [bI, Option.isSome, if_true] at q2
        obtain ⟨l2, e2⟩ := rng_some (by omega) h2
        subst e2
        have q3 := in_sp (w := w0) hg x3 (n := 1 + 1) (y := 1) (by decide) (by decide)
        cases h3 : rng x3 (1 + 1) with
        | none =>
          rw [h3] at q3
          simp only [bI, Option.isSome, Bool.false_eq_true, if_false] at q3
          obtain ⟨w1, p1, p2, p3⟩ := bad1_sp hg I0 x0' (c := 2) (r := 2) (C := 2) (R := 2) rfl rfl (by decide) (by decide)
          refine RQo.no (v := .int 0) F0 p2 ?_ p3
          simp [fX11_when, kX11_when, ent, entp, jX11_when, bX11_when_0, bX11_when_1, bX11_when_2, bX11_when_3, bX11_when_4, bX11_when_5, bX11_when_6, bX11_when_7, bX11_when_8, bX11_when_9, i_aload, i_getf, i_iceq, i_icge, i_icle, i_ifeq, i_ifne, i_iinc, i_iload, i_ireturn, i_istore, i_jmp, i_push, i_putf, msk, lset1, lset2, clr, Value.category, Option.toList, List.cons_append, List.nil_append, List.length_cons, List.length_nil, hN, st_0 hI.1, hw0, cvk_1 hO q0, cvk_1 hO q1, cvk_1 hO q2, cvk_3 hO (bad0_sp hg hO x0' 1 0), csk_3 q3, cvk_3 hO p1]
        | some n3 =>
          rw [h3] at q3
          simp only [bI, Option.isSome, if_true] at q3
          obtain ⟨l3, e3⟩ := rng_some (by omega) h3
          subst e3
          obtain ⟨N2, hN2⟩ : ∃ N, g.1 = N + 3 := ⟨g.1 - 3, by omega⟩
          refine RQo.ok F0 I0 x0' ?_ (Fr.rf _ _)
          have q9 := when_lpr hg hd hO x27 hR (t := n0) (h := n1) (o := n2) (wh := n3) (by omega) (by omega) (by omega) (by omega) N2 (by omega)
          rw [← q9]
          simp [fX11_when, kX11_when, ent, entp, jX11_when, bX11_when_0, bX11_when_1, bX11_when_2, bX11_when_3, bX11_when_4, bX11_when_5, bX11_when_6, bX11_when_7, bX11_when_8, bX11_when_9, i_aload, i_getf, i_iceq, i_icge, i_icle, i_ifeq, i_ifne, i_iinc, i_iload, i_ireturn, i_istore, i_jmp, i_push, i_putf, msk, lset1, lset2, clr, Value.category, Option.toList, List.cons_append, List.nil_append, List.length_cons, List.length_nil, hN2, st_0 hI.1, hw0, cvk_1 hO q0, cvk_1 hO q1, cvk_1 hO q2, cvk_3 hO (bad0_sp hg hO x0' 1 0), csk_3 q3, cvk_3 hO (bad0_sp hg hO x0' 2 2)]
def prB (δ : DE) (a b i : Nat) : Bool := owR δ i a != 0 && owR δ i a == owR δ i b
theorem pairs_lpc {g : GE} (hg : FU g) {w : Mem} {B E D D' fed kept aM aS aG n1 lev : Nat} {fp : Int32} {δ : DE} (hB : BD w B D D' fed kept fp) (hd : WF δ) (hG : GT g w (B + 73) E D δ (δ.1 6) aM aS aG n1 lev) {a b : Nat} (ha : a < 5) (hb : b < 5) : ∀ F, 2 * nR δ + 1 ≤ F → jX10_pairs g F 2 [] [some (.ref B), some (.int (nI a)), some (.int (nI b)), some (.int 0), some (.int 0), none] w = some (.inl (some (.int (nI (cntF (prB δ a b) (nR δ))))), w) := by
  have hT := hG.tb
  have hn := nR_le hd
  have L := lpF (fun f (s : Lv × Mem) => jX10_pairs g f 2 [] s.1 s.2) (fun k => ([some (.ref B), some (.int (nI a)), some (.int (nI b)), some (.int (nI (cntF (prB δ a b) k))), some (.int (nI k)), none], w)) (some (.inl (some (.int (nI (cntF (prB δ a b) (nR δ))))), w)) 2 1 (nR δ)
    (fun k hk f => by
      refine ⟨f, Nat.le_refl _, ?_⟩
      have o1 := ownerOf_sp hd hG hk ha
      have o2 := ownerOf_sp hd hG hk hb
      have l1 := owR_le hd k a
      have l2 := owR_le hd k b
      have b1 := hd.1.1
      have m := nI_m1 (y := owR δ k a) (by omega)
      by_cases y : owR δ k a = 0
      · simp [jX10_pairs, bX10_pairs_0, bX10_pairs_1, bX10_pairs_2, bX10_pairs_3, i_aload, i_getf, i_iceq, i_icge, i_icne, i_iinc, i_iload, i_ireturn, i_istore, i_jmp, i_push, msk, lset1, lset2, clr, Value.category, Option.toList, List.cons_append, List.nil_append, List.length_cons, List.length_nil, gf_eq hB, gf_eq hT, nI_ge hk (by omega), cvk_2 hT o1, m.mpr y, cntF, (show prB δ a b k = false from by simp [prB, y]), nI_1]
      · have m2 : (nI (owR δ k a) - 1 = nI (owR δ k b) - 1) ↔ owR δ k a = owR δ k b := by
          obtain ⟨z, hz⟩ : ∃ z, owR δ k a = z + 1 := ⟨owR δ k a - 1, by omega⟩
          rw [hz, nI_pred, eq_comm, nI_m1e (by omega) (by omega), eq_comm]
        by_cases z : owR δ k a = owR δ k b
        · have m3 := m2.mpr z
          simp [jX10_pairs, bX10_pairs_0, bX10_pairs_1, bX10_pairs_2, bX10_pairs_3, i_aload, i_getf, i_iceq, i_icge, i_icne, i_iinc, i_iload, i_ireturn, i_istore, i_jmp, i_push, msk, lset1, lset2, clr, Value.category, Option.toList, List.cons_append, List.nil_append, List.length_cons, List.length_nil, gf_eq hB, gf_eq hT, nI_ge hk (by omega), cvk_2 hT o1, cvk_2 hT o2, mt m.mp y, ← m3, cntF, (show prB δ a b k = true from by simp [prB, y, ← z]), nI_1]
        · have m3 := mt m2.mp z
          simp [jX10_pairs, bX10_pairs_0, bX10_pairs_1, bX10_pairs_2, bX10_pairs_3, i_aload, i_getf, i_iceq, i_icge, i_icne, i_iinc, i_iload, i_ireturn, i_istore, i_jmp, i_push, msk, lset1, lset2, clr, Value.category, Option.toList, List.cons_append, List.nil_append, List.length_cons, List.length_nil, gf_eq hB, gf_eq hT, nI_ge hk (by omega), cvk_2 hT o1, cvk_2 hT o2, mt m.mp y, m3, cntF, (show prB δ a b k = false from by simp [prB, y, z]), nI_1])
    (fun f => by
      simp [jX10_pairs, bX10_pairs_0, bX10_pairs_1, bX10_pairs_2, bX10_pairs_3, i_aload, i_getf, i_iceq, i_icge, i_icne, i_iinc, i_iload, i_ireturn, i_istore, i_jmp, i_push, msk, lset1, lset2, clr, Value.category, Option.toList, List.cons_append, List.nil_append, List.length_cons, List.length_nil, gf_eq hB, gf_eq hT])
  intro F hF
  have L1 := L F hF
  simp only [cntF, nI_0] at L1
  exact L1
theorem pairs_lpr {g : GE} (hg : FU g) {w : Mem} {M : Nat} {x : Nat → Int32} {δ : DE} (hd : WF δ) (hO : MO w M x) (hx : x 27 = nI (nR δ)) (hR : RT w M δ (δ.1 6)) {a b : Nat} (ha : a < 5) (hb : b < 5) : ∀ F, 3 * nR δ + 1 ≤ F → jX11_pairs g F 5 [] [some (.ref M), some (.int (nI a)), some (.int (nI b)), some (.int 0), some (.int 0)] w = some (.inl (some (.int (nI (cntF (prB δ a b) (nR δ))))), w) := by
  have hn := nR_le hd
  have L := lpF (fun f (s : Lv × Mem) => jX11_pairs g f 5 [] s.1 s.2) (fun k => ([some (.ref M), some (.int (nI a)), some (.int (nI b)), some (.int (nI (cntF (prB δ a b) k))), some (.int (nI k))], w)) (some (.inl (some (.int (nI (cntF (prB δ a b) (nR δ))))), w)) 3 1 (nR δ)
    (fun k hk f => by
      have o1 := rgoesBy_sp (g := g) hd hO hR hk ha
      have o2 := rgoesBy_sp (g := g) hd hO hR hk hb
      have l1 := owR_le hd k a
      have l2 := owR_le hd k b
      have b1 := hd.1.1
      have m := nI_m1 (y := owR δ k a) (by omega)
      by_cases y : owR δ k a = 0
      · refine ⟨f, Nat.le_refl _, ?_⟩
        simp [jX11_pairs, bX11_pairs_0, bX11_pairs_1, bX11_pairs_2, bX11_pairs_3, bX11_pairs_4, bX11_pairs_5, bX11_pairs_6, bX11_pairs_7, i_aload, i_getf, i_iadd, i_iceq, i_icge, i_icne, i_ifeq, i_ifne, i_iinc, i_iload, i_ireturn, i_istore, i_jmp, i_push, i_putf, msk, lset1, lset2, clr, Value.category, Option.toList, List.cons_append, List.nil_append, List.length_cons, List.length_nil, gf_eq hO, mg_27, hx, nI_ge hk (by omega), cvk_2 hO o1, m.mpr y, cntF, (show prB δ a b k = false from by simp [prB, y]), nI_1]
      · have m2 : (nI (owR δ k a) - 1 = nI (owR δ k b) - 1) ↔ owR δ k a = owR δ k b := by
          obtain ⟨z, hz⟩ : ∃ z, owR δ k a = z + 1 := ⟨owR δ k a - 1, by omega⟩
          rw [hz, nI_pred, eq_comm, nI_m1e (by omega) (by omega), eq_comm]
        by_cases z : owR δ k a = owR δ k b
        · have m3 := m2.mpr z
          refine ⟨f + 1, by omega, ?_⟩; rw [show f + 3 = (f + 1) + 2 from rfl]; generalize f + 1 = F
          simp [jX11_pairs, bX11_pairs_0, bX11_pairs_1, bX11_pairs_2, bX11_pairs_3, bX11_pairs_4, bX11_pairs_5, bX11_pairs_6, bX11_pairs_7, i_aload, i_getf, i_iadd, i_iceq, i_icge, i_icne, i_ifeq, i_ifne, i_iinc, i_iload, i_ireturn, i_istore, i_jmp, i_push, i_putf, msk, lset1, lset2, clr, Value.category, Option.toList, List.cons_append, List.nil_append, List.length_cons, List.length_nil, gf_eq hO, mg_27, hx, nI_ge hk (by omega), cvk_2 hO o1, cvk_2 hO o2, mt m.mp y, ← m3, cntF, (show prB δ a b k = true from by simp [prB, y, ← z]), nI_1]
        · have m3 := mt m2.mp z
          refine ⟨f, Nat.le_refl _, ?_⟩
          simp [jX11_pairs, bX11_pairs_0, bX11_pairs_1, bX11_pairs_2, bX11_pairs_3, bX11_pairs_4, bX11_pairs_5, bX11_pairs_6, bX11_pairs_7, i_aload, i_getf, i_iadd, i_iceq, i_icge, i_icne, i_ifeq, i_ifne, i_iinc, i_iload, i_ireturn, i_istore, i_jmp, i_push, i_putf, msk, lset1, lset2, clr, Value.category, Option.toList, List.cons_append, List.nil_append, List.length_cons, List.length_nil, gf_eq hO, mg_27, hx, nI_ge hk (by omega), cvk_2 hO o1, cvk_2 hO o2, mt m.mp y, m3, cntF, (show prB δ a b k = false from by simp [prB, y, z]), nI_1])
    (fun f => by
      simp [jX11_pairs, bX11_pairs_0, bX11_pairs_1, bX11_pairs_2, bX11_pairs_3, bX11_pairs_4, bX11_pairs_5, bX11_pairs_6, bX11_pairs_7, i_aload, i_getf, i_iadd, i_iceq, i_icge, i_icne, i_ifeq, i_ifne, i_iinc, i_iload, i_ireturn, i_istore, i_jmp, i_push, i_putf, msk, lset1, lset2, clr, Value.category, Option.toList, List.cons_append, List.nil_append, List.length_cons, List.length_nil, gf_eq hO, mg_27, hx])
  intro F hF
  have L1 := L F hF
  simp only [cntF, nI_0] at L1
  exact L1
def pairsO (δ : DE) (x0 x1 : Int32) : OUT := 
  match rng x0 (δ.1 1) with
  | none => .inr (1, 0)
  | some n0 =>
    match rng x1 (δ.1 1) with
    | none => .inr (1, 0)
    | some n1 =>
      (if n0 = n1 then .inr (2, 2) else .inl (.int (nI (cntF (prB δ n0 n1) (nR δ)))))
theorem pairs_c {g : GE} {w : Mem} {B E fed kept : Nat} {fp : Int32} {tp : Nat → Int32} {rf : Nat → Nat} {δ : DE} {τ : TE} {im : Nat → TE} {lev nG : Nat} (hg : GD g) (hE : B + 132 ≤ E) (hI : CI g w B E fed kept fp tp rf δ τ im lev nG) (x0 x1 : Int32) : CQ g w B E fed kept fp tp rf δ τ im lev nG (fX10_pairs g [.ref B, .int x0, .int x1] w) (pairsO δ x0 x1) := by
  have hg1 := hg.1
  obtain ⟨D, D', hCC, hCT, hCN, hCL, hCM⟩ := id hI
  obtain ⟨hDD, hB, hTp, hD, hD', hSc, hr, hd, hfd, hkp⟩ := id hCC
  obtain ⟨aM, aS, aG, n1', hG, hX⟩ := id hCT
  obtain ⟨b1, b2, b3, b4, b5, b6, b7, b8⟩ := id hd.1
  have hT := hG.tb
  have hn := nR_le hd
  obtain ⟨N, hN⟩ : ∃ N, g.1 = N + 12 := ⟨g.1 - 12, by omega⟩
  unfold pairsO
  have q0 := needThing_sp hg1 hB hr hD b2 x0
  cases h0 : rng x0 (δ.1 1) with
  | none =>
    rw [h0] at q0
    simp only [tst, Option.isSome, Bool.false_eq_true, if_false] at q0
    refine CQ.no hE hI ?_
    simp [fX10_pairs, kX10_pairs, ent, entp, jX10_pairs, bX10_pairs_0, bX10_pairs_1, bX10_pairs_2, bX10_pairs_3, i_aload, i_getf, i_iceq, i_icge, i_icne, i_iinc, i_iload, i_ireturn, i_istore, i_jmp, i_push, msk, lset1, lset2, clr, Value.category, Option.toList, List.cons_append, List.nil_append, List.length_cons, List.length_nil, hN, cxe_1 hB q0]
  | some n0 =>
    rw [h0] at q0
    simp only [tst, Option.isSome, if_true] at q0
    obtain ⟨l0, e0⟩ := rng_some (by omega) h0
    subst e0
    have q1 := needThing_sp hg1 hB hr hD b2 x1
    cases h1 : rng x1 (δ.1 1) with
    | none =>
      rw [h1] at q1
      simp only [tst, Option.isSome, Bool.false_eq_true, if_false] at q1
      refine CQ.no hE hI ?_
      simp [fX10_pairs, kX10_pairs, ent, entp, jX10_pairs, bX10_pairs_0, bX10_pairs_1, bX10_pairs_2, bX10_pairs_3, i_aload, i_getf, i_iceq, i_icge, i_icne, i_iinc, i_iload, i_ireturn, i_istore, i_jmp, i_push, msk, lset1, lset2, clr, Value.category, Option.toList, List.cons_append, List.nil_append, List.length_cons, List.length_nil, hN, cxk_1 hB q0, cxe_1 hB q1]
    | some n1 =>
      rw [h1] at q1
      simp only [tst, Option.isSome, if_true] at q1
      obtain ⟨l1, e1⟩ := rng_some (by omega) h1
      subst e1
      obtain ⟨N2, hN2⟩ : ∃ N, g.1 = N + 2 := ⟨g.1 - 2, by omega⟩
      by_cases z : n0 = n1
      · have e9 := needArgument_sp (g := g) hB hr false
        simp only [tst, Bool.false_eq_true, if_false] at e9
        subst z
        simp only [if_true]
        refine CQ.no hE hI ?_
        simp [fX10_pairs, kX10_pairs, ent, entp, jX10_pairs, bX10_pairs_0, bX10_pairs_1, bX10_pairs_2, bX10_pairs_3, i_aload, i_getf, i_iceq, i_icge, i_icne, i_iinc, i_iload, i_ireturn, i_istore, i_jmp, i_push, msk, lset1, lset2, clr, Value.category, Option.toList, List.cons_append, List.nil_append, List.length_cons, List.length_nil, hN2, cxk_1 hB q0, cxk_1 hB q1, cxe_1 hB e9]
      · have e9 := needArgument_sp (g := g) hB hr true
        simp only [tst, if_true] at e9
        simp only [z, if_false]
        have m : ¬ nI n0 = nI n1 := mt (nI_eq (by omega) (by omega)).mp z
        refine CQ.ok hI ?_
        have q9 := pairs_lpc hg1 hB hd hG (a := n0) (b := n1) (by omega) (by omega) N2 (by omega)
        rw [← q9]
        simp [fX10_pairs, kX10_pairs, ent, entp, jX10_pairs, bX10_pairs_0, bX10_pairs_1, bX10_pairs_2, bX10_pairs_3, i_aload, i_getf, i_iceq, i_icge, i_icne, i_iinc, i_iload, i_ireturn, i_istore, i_jmp, i_push, msk, lset1, lset2, clr, Value.category, Option.toList, List.cons_append, List.nil_append, List.length_cons, List.length_nil, hN2, cxk_1 hB q0, cxk_1 hB q1, m, cxk_1 hB e9]
theorem pairs_r {g : GE} {w : Mem} {M fed kept : Nat} {fp : Int32} {tp : Nat → Int32} {rf : Nat → Nat} {δ : DE} {τ : TE} {im : Nat → TE} {x : Nat → Int32} (hg : FU g) (hd : WF δ) (hI : RI w M fed kept fp tp rf δ τ im x) (x0 x1 : Int32) : RQo w M fed kept fp tp rf δ τ im (fX11_pairs g [.ref M, .int x0, .int x1] w) (pairsO δ x0 x1) := by
  obtain ⟨w0, hw0, I0, F0⟩ := hI.t0
  obtain ⟨b1, b2, b3, b4, b5, b6, b7, b8⟩ := id hd.1
  obtain ⟨hO, hXO, hRK, hRZ, hrf⟩ := id I0
  obtain ⟨x1', x3', x27, x32, x33, x34⟩ := id hXO
  obtain ⟨hTp, hD, hR, hCp, hHb, hKp, hRP⟩ := id hRK
  have hn := nR_le hd
  have x0' : (va_up x 0 0) 0 = 0 := va_up_self _ _ _
  obtain ⟨N, hN⟩ : ∃ N, g.1 = N + 16 := ⟨g.1 - 16, by omega⟩
  unfold pairsO
  have q0 := isThing_sp hg hO hD b2 x0
  cases h0 : rng x0 (δ.1 1) with
  | none =>
    rw [h0] at q0
    simp only [bI, Option.isSome, Bool.false_eq_true, if_false] at q0
    obtain ⟨w1, p1, p2, p3⟩ := bad1_sp hg I0 x0' (c := 1) (r := 0) (C := 1) (R := 0) rfl rfl (by decide) (by decide)
    refine RQo.no (v := .int 0) F0 p2 ?_ p3
    simp [fX11_pairs, kX11_pairs, ent, entp, jX11_pairs, bX11_pairs_0, bX11_pairs_1, bX11_pairs_2, bX11_pairs_3, bX11_pairs_4, bX11_pairs_5, bX11_pairs_6, bX11_pairs_7, i_aload, i_getf, i_iadd, i_iceq, i_icge, i_icne, i_ifeq, i_ifne, i_iinc, i_iload, i_ireturn, i_istore, i_jmp, i_push, i_putf, msk, lset1, lset2, clr, Value.category, Option.toList, List.cons_append, List.nil_append, List.length_cons, List.length_nil, hN, st_0 hI.1, hw0, cvk_1 hO q0, cvk_3 hO p1]
  | some n0 =>
    rw [h0] at q0
    simp only [bI, Option.isSome, if_true] at q0
    obtain ⟨l0, e0⟩ := rng_some (by omega) h0
    subst e0
    have q1 := isThing_sp hg hO hD b2 x1
    cases h1 : rng x1 (δ.1 1) with
    | none =>
      rw [h1] at q1
      simp only [bI, Option.isSome, Bool.false_eq_true, if_false] at q1
      obtain ⟨w1, p1, p2, p3⟩ := bad1_sp hg I0 x0' (c := 1) (r := 0) (C := 1) (R := 0) rfl rfl (by decide) (by decide)
      refine RQo.no (v := .int 0) F0 p2 ?_ p3
      simp [fX11_pairs, kX11_pairs, ent, entp, jX11_pairs, bX11_pairs_0, bX11_pairs_1, bX11_pairs_2, bX11_pairs_3, bX11_pairs_4, bX11_pairs_5, bX11_pairs_6, bX11_pairs_7, i_aload, i_getf, i_iadd, i_iceq, i_icge, i_icne, i_ifeq, i_ifne, i_iinc, i_iload, i_ireturn, i_istore, i_jmp, i_push, i_putf, msk, lset1, lset2, clr, Value.category, Option.toList, List.cons_append, List.nil_append, List.length_cons, List.length_nil, hN, st_0 hI.1, hw0, cvk_1 hO q0, cvk_1 hO q1, cvk_3 hO p1]
    | some n1 =>
      rw [h1] at q1
      simp only [bI, Option.isSome, if_true] at q1
      obtain ⟨l1, e1⟩ := rng_some (by omega) h1
      subst e1
      obtain ⟨N2, hN2⟩ : ∃ N, g.1 = N + 3 := ⟨g.1 - 3, by omega⟩
      by_cases z : n0 = n1
      · subst z
        simp only [if_true]
        obtain ⟨w1, p1, p2, p3⟩ := bad1_sp hg I0 x0' (c := 2) (r := 2) (C := 2) (R := 2) rfl rfl (by decide) (by decide)
        refine RQo.no (v := .int 0) F0 p2 ?_ p3
        simp [fX11_pairs, kX11_pairs, ent, entp, jX11_pairs, bX11_pairs_0, bX11_pairs_1, bX11_pairs_2, bX11_pairs_3, bX11_pairs_4, bX11_pairs_5, bX11_pairs_6, bX11_pairs_7, i_aload, i_getf, i_iadd, i_iceq, i_icge, i_icne, i_ifeq, i_ifne, i_iinc, i_iload, i_ireturn, i_istore, i_jmp, i_push, i_putf, msk, lset1, lset2, clr, Value.category, Option.toList, List.cons_append, List.nil_append, List.length_cons, List.length_nil, hN, st_0 hI.1, hw0, cvk_1 hO q0, cvk_3 hO (bad0_sp hg hO x0' 1 0), cvk_3 hO p1]
      · simp only [z, if_false]
        have m : ¬ nI n0 = nI n1 := mt (nI_eq (by omega) (by omega)).mp z
        refine RQo.ok F0 I0 x0' ?_ (Fr.rf _ _)
        have q9 := pairs_lpr hg hd hO x27 hR (a := n0) (b := n1) (by omega) (by omega) N2 (by omega)
        rw [← q9]
        simp [fX11_pairs, kX11_pairs, ent, entp, jX11_pairs, bX11_pairs_0, bX11_pairs_1, bX11_pairs_2, bX11_pairs_3, bX11_pairs_4, bX11_pairs_5, bX11_pairs_6, bX11_pairs_7, i_aload, i_getf, i_iadd, i_iceq, i_icge, i_icne, i_ifeq, i_ifne, i_iinc, i_iload, i_ireturn, i_istore, i_jmp, i_push, i_putf, msk, lset1, lset2, clr, Value.category, Option.toList, List.cons_append, List.nil_append, List.length_cons, List.length_nil, hN2, st_0 hI.1, hw0, cvk_1 hO q0, cvk_1 hO q1, cvk_3 hO (bad0_sp hg hO x0' 1 0), m, cvk_3 hO (bad0_sp hg hO x0' 2 2)]
def wrx (δ : DE) (h : Nat) : Nat := match wrsR δ h with
  | none => 0
  | some j => j
theorem wrx_eq {δ : DE} {h : Nat} (h0 : 0 < nR δ) : wrsR δ h = some (wrx δ h) ∧ wrx δ h < nR δ := by
  unfold wrx
  cases q : wrsR δ h with
  | none =>
    obtain ⟨z, hz⟩ : ∃ z, nR δ = z + 1 := ⟨nR δ - 1, by omega⟩
    unfold wrsR at q
    rw [hz] at q
    exact absurd q amnP_n0
  | some j => exact ⟨rfl, amnP_lt q⟩
def wsK (δ : DE) : Nat → Nat
  | 0 => 0
  | h + 1 => wsK δ h + wtR δ (wrx δ h) h
theorem wsK_le {δ : DE} (hd : WF δ) : ∀ h, wsK δ h ≤ 1386 * h
  | 0 => Nat.le_refl _
  | h + 1 => by
    have ih := wsK_le hd h
    have := wtR_le hd (wrx δ h) h
    unfold wsK
    omega
def stK (δ : DE) (h : Nat) : Int32 := if nR δ = 0 then -1 else if atK δ (δ.1 1) < wsK δ (δ.1 0) then -1 else nI (wtR δ (wrx δ h) h + (atK δ (δ.1 1) - wsK δ (δ.1 0)) / δ.1 0 + if h < (atK δ (δ.1 1) - wsK δ (δ.1 0)) % δ.1 0 then 1 else 0)
def settlementO (δ : DE) (x0 : Int32) : OUT := 
  match rng x0 (δ.1 0) with
  | none => .inr (1, 0)
  | some n0 =>
    .inl (.int (stK δ n0))
theorem settlement_c {g : GE} {w : Mem} {B E fed kept : Nat} {fp : Int32} {tp : Nat → Int32} {rf : Nat → Nat} {δ : DE} {τ : TE} {im : Nat → TE} {lev nG : Nat} (hg : GD g) (hE : B + 132 ≤ E) (hI : CI g w B E fed kept fp tp rf δ τ im lev nG) (x0 : Int32) : CQ g w B E fed kept fp tp rf δ τ im lev nG (fX10_settlement g [.ref B, .int x0] w) (settlementO δ x0) := by
  have hg1 := hg.1
  obtain ⟨D, D', hCC, hCT, hCN, hCL, hCM⟩ := id hI
  obtain ⟨hDD, hB, hTp, hD, hD', hSc, hr, hd, hfd, hkp⟩ := id hCC
  obtain ⟨aM, aS, aG, n1', hG, hX⟩ := id hCT
  obtain ⟨b1, b2, b3, b4, b5, b6, b7, b8⟩ := id hd.1
  have hT := hG.tb
  have hn := nR_le hd
  obtain ⟨N, hN⟩ : ∃ N, g.1 = N + 12 := ⟨g.1 - 12, by omega⟩
  unfold settlementO
  have q0 := needHeir_sp hg1 hB hr hD b1 x0
  cases h0 : rng x0 (δ.1 0) with
  | none =>
    rw [h0] at q0
    simp only [tst, Option.isSome, Bool.false_eq_true, if_false] at q0
    refine CQ.no hE hI ?_
    simp [fX10_settlement, kX10_settlement, ent, entp, jX10_settlement, bX10_settlement_0, bX10_settlement_1, bX10_settlement_2, bX10_settlement_3, i_aload, i_getf, i_iadd, i_icge, i_idiv, i_ifeq, i_ifge, i_ifne, i_iinc, i_iload, i_irem, i_ireturn, i_istore, i_isub, i_jmp, i_push, msk, lset1, lset2, clr, Value.category, Option.toList, List.cons_append, List.nil_append, List.length_cons, List.length_nil, hN, cxe_1 hB q0]
  | some n0 =>
    rw [h0] at q0
    simp only [tst, Option.isSome, if_true] at q0
    obtain ⟨l0, e0⟩ := rng_some (by omega) h0
    subst e0
    obtain ⟨N2, hN2⟩ : ∃ N, g.1 = N + 1 := ⟨g.1 - 1, by omega⟩
    refine CQ.ok hI ?_
    unfold stK
    by_cases h0 : nR δ = 0
    · obtain ⟨N3, rfl⟩ : ∃ N3, N2 = N3 + 1 := ⟨N2 - 1, by omega⟩
      simp [fX10_settlement, kX10_settlement, ent, entp, jX10_settlement, bX10_settlement_0, bX10_settlement_1, bX10_settlement_2, bX10_settlement_3, i_aload, i_getf, i_iadd, i_icge, i_idiv, i_ifeq, i_ifge, i_ifne, i_iinc, i_iload, i_irem, i_ireturn, i_istore, i_isub, i_jmp, i_push, msk, lset1, lset2, clr, Value.category, Option.toList, List.cons_append, List.nil_append, List.length_cons, List.length_nil, hN2, cxk_1 hB q0, gf_eq hB, gf_eq hT, h0, nI_0]
    · rw [if_neg h0]
      have z0 : ¬ nI (nR δ) = 0 := nI_ne0 (by omega) (by omega)
      have h0 : 0 < nR δ := by omega
      have la := atK_le hd (δ.1 1) (Nat.le_refl _)
      have lw := wsK_le hd (δ.1 0)
      have hs0 : ¬ nI (δ.1 0) = 0 := nI_ne0 (by omega) (by omega)
      have L := lpF (fun f (s : Lv × Mem) => jX10_settlement g f 2 [] s.1 s.2) (fun k => ([some (.ref B), some (.int (nI n0)), some (.int (nI (atK δ (δ.1 1)) - nI (wsK δ k))), some (.int (nI k))], w)) (some (.inl (some (.int (if atK δ (δ.1 1) < wsK δ (δ.1 0) then -1 else nI (wtR δ (wrx δ n0) n0 + (atK δ (δ.1 1) - wsK δ (δ.1 0)) / δ.1 0 + if n0 < (atK δ (δ.1 1) - wsK δ (δ.1 0)) % δ.1 0 then 1 else 0)))), w)) 1 2 (δ.1 0)
        (fun k hk f => by
          refine ⟨f, Nat.le_refl _, ?_⟩
          have o1 := worstFor_sp hg1 hd hD hG (h := k) (by omega)
          rw [(wrx_eq h0).1] at o1
          simp only [oI] at o1
          have o2 := worthOf_sp hg1 hd hD hG (i := wrx δ k) (h := k) (wrx_eq h0).2 (by omega)
          simp [jX10_settlement, bX10_settlement_0, bX10_settlement_1, bX10_settlement_2, bX10_settlement_3, i_aload, i_getf, i_iadd, i_icge, i_idiv, i_ifeq, i_ifge, i_ifne, i_iinc, i_iload, i_irem, i_ireturn, i_istore, i_isub, i_jmp, i_push, msk, lset1, lset2, clr, Value.category, Option.toList, List.cons_append, List.nil_append, List.length_cons, List.length_nil, gf_eq hB, gf_eq hD.1, nI_ge hk (by omega), cvk_1 hT o1, cvk_2 hT o2, nI_ss, wsK, nI_1])
        (fun f => by
          have o1 := worstFor_sp hg1 hd hD hG (h := n0) (by omega)
          rw [(wrx_eq h0).1] at o1
          simp only [oI] at o1
          have o2 := worthOf_sp hg1 hd hD hG (i := wrx δ n0) (h := n0) (wrx_eq h0).2 (by omega)
          by_cases z : atK δ (δ.1 1) < wsK δ (δ.1 0)
          · have z1 := Int32.not_le.mpr (pk_sneg (a := atK δ (δ.1 1)) (b := wsK δ (δ.1 0)) (by omega) z)
            simp [jX10_settlement, bX10_settlement_0, bX10_settlement_1, bX10_settlement_2, bX10_settlement_3, i_aload, i_getf, i_iadd, i_icge, i_idiv, i_ifeq, i_ifge, i_ifne, i_iinc, i_iload, i_irem, i_ireturn, i_istore, i_isub, i_jmp, i_push, msk, lset1, lset2, clr, Value.category, Option.toList, List.cons_append, List.nil_append, List.length_cons, List.length_nil, gf_eq hB, gf_eq hD.1, z1, z]
          · have e1 := pk_sub (a := atK δ (δ.1 1)) (b := wsK δ (δ.1 0)) (by omega)
            obtain ⟨X, hX⟩ : ∃ X, atK δ (δ.1 1) - wsK δ (δ.1 0) = X := ⟨_, rfl⟩
            rw [hX] at e1
            have lX : X < 2 ^ 31 := by omega
            have z1 : 0 ≤ nI X := nI_pos' lX
            have e2 := pk_div (a := X) (d := δ.1 0) lX (by omega) (by omega)
            have e3' := pk_rem (a := X) (d := δ.1 0) lX (by omega) (by omega)
            rw [e2] at e3'
            have lr := Nat.mod_lt X (y := δ.1 0) (by omega)
            by_cases y : n0 < X % δ.1 0
            · have y1 := nI_ge y (by omega)
              simp [jX10_settlement, bX10_settlement_0, bX10_settlement_1, bX10_settlement_2, bX10_settlement_3, i_aload, i_getf, i_iadd, i_icge, i_idiv, i_ifeq, i_ifge, i_ifne, i_iinc, i_iload, i_irem, i_ireturn, i_istore, i_isub, i_jmp, i_push, msk, lset1, lset2, clr, Value.category, Option.toList, List.cons_append, List.nil_append, List.length_cons, List.length_nil, gf_eq hB, gf_eq hD.1, e1, hX, z1, z, hs0, e2, e3', y1, y, nI_1, cvk_1 hT o1, cvk_2 hT o2, nI_add, Nat.add_assoc]
            · have y1 := nI_le (Nat.le_of_not_lt y) (by omega)
              simp [jX10_settlement, bX10_settlement_0, bX10_settlement_1, bX10_settlement_2, bX10_settlement_3, i_aload, i_getf, i_iadd, i_icge, i_idiv, i_ifeq, i_ifge, i_ifne, i_iinc, i_iload, i_irem, i_ireturn, i_istore, i_isub, i_jmp, i_push, msk, lset1, lset2, clr, Value.category, Option.toList, List.cons_append, List.nil_append, List.length_cons, List.length_nil, gf_eq hB, gf_eq hD.1, e1, hX, z1, z, hs0, e2, e3', y1, y, cvk_1 hT o1, cvk_2 hT o2, nI_add, Nat.add_assoc])

      have q8 := allThereIs_sp hg1 hd hD hG h0
      have L1 := L N2 (by omega)
      simp only [wsK, nI_0, Int32.sub_zero] at L1
      have e1 : fX10_settlement g [.ref B, .int (nI n0)] w = jX10_settlement g N2 2 [] [some (.ref B), some (.int (nI n0)), some (.int (nI (atK δ (δ.1 1)))), some (.int 0)] w := by
        clear L1 L
        simp [fX10_settlement, kX10_settlement, ent, entp, jX10_settlement, bX10_settlement_0, bX10_settlement_1, bX10_settlement_2, bX10_settlement_3, i_aload, i_getf, i_iadd, i_icge, i_idiv, i_ifeq, i_ifge, i_ifne, i_iinc, i_iload, i_irem, i_ireturn, i_istore, i_isub, i_jmp, i_push, msk, lset1, lset2, clr, Value.category, Option.toList, List.cons_append, List.nil_append, List.length_cons, List.length_nil, hN2, cxk_1 hB q0, gf_eq hB, gf_eq hT, z0, gf_eq hD.1, hs0, cvk_0 hT q8]
      rw [e1]
      exact L1
theorem settlement_r {g : GE} {w : Mem} {M fed kept : Nat} {fp : Int32} {tp : Nat → Int32} {rf : Nat → Nat} {δ : DE} {τ : TE} {im : Nat → TE} {x : Nat → Int32} (hg : FU g) (hd : WF δ) (hI : RI w M fed kept fp tp rf δ τ im x) (x0 : Int32) : RQo w M fed kept fp tp rf δ τ im (fX11_settlement g [.ref M, .int x0] w) (settlementO δ x0) := by
  obtain ⟨w0, hw0, I0, F0⟩ := hI.t0
  obtain ⟨b1, b2, b3, b4, b5, b6, b7, b8⟩ := id hd.1
  obtain ⟨hO, hXO, hRK, hRZ, hrf⟩ := id I0
  obtain ⟨x1', x3', x27, x32, x33, x34⟩ := id hXO
  obtain ⟨hTp, hD, hR, hCp, hHb, hKp, hRP⟩ := id hRK
  have hn := nR_le hd
  have x0' : (va_up x 0 0) 0 = 0 := va_up_self _ _ _
  obtain ⟨N, hN⟩ : ∃ N, g.1 = N + 2 := ⟨g.1 - 2, by omega⟩
  unfold settlementO
  have q0 := isHeir_sp hg hO hD b1 x0
  cases h0 : rng x0 (δ.1 0) with
  | none =>
    rw [h0] at q0
    simp only [bI, Option.isSome, Bool.false_eq_true, if_false] at q0
    obtain ⟨w1, p1, p2, p3⟩ := bad1_sp hg I0 x0' (c := 1) (r := 0) (C := 1) (R := 0) rfl rfl (by decide) (by decide)
    refine RQo.no (v := .int 0) F0 p2 ?_ p3
    simp [fX11_settlement, kX11_settlement, ent, entp, jX11_settlement, bX11_settlement_0, bX11_settlement_1, bX11_settlement_2, bX11_settlement_3, bX11_settlement_4, bX11_settlement_5, i_aload, i_getf, i_iadd, i_iaload, i_icge, i_icne, i_idiv, i_ifeq, i_ifge, i_ifne, i_iinc, i_iload, i_irem, i_ireturn, i_istore, i_isub, i_jmp, i_push, i_putf, msk, lset1, lset2, clr, Value.category, Option.toList, List.cons_append, List.nil_append, List.length_cons, List.length_nil, hN, st_0 hI.1, hw0, cvk_1 hO q0, cvk_3 hO p1]
  | some n0 =>
    rw [h0] at q0
    simp only [bI, Option.isSome, if_true] at q0
    obtain ⟨l0, e0⟩ := rng_some (by omega) h0
    subst e0
    obtain ⟨N2, hN2⟩ : ∃ N, g.1 = N + 2 := ⟨g.1 - 2, by omega⟩
    refine RQo.ok F0 I0 x0' ?_ (Fr.rf _ _)
    unfold stK
    by_cases h0 : nR δ = 0
    · have z0 : nI (nR δ) = 0 := by rw [h0]; exact nI_0
      simp [fX11_settlement, kX11_settlement, ent, entp, jX11_settlement, bX11_settlement_0, bX11_settlement_1, bX11_settlement_2, bX11_settlement_3, bX11_settlement_4, bX11_settlement_5, i_aload, i_getf, i_iadd, i_iaload, i_icge, i_icne, i_idiv, i_ifeq, i_ifge, i_ifne, i_iinc, i_iload, i_irem, i_ireturn, i_istore, i_isub, i_jmp, i_push, i_putf, msk, lset1, lset2, clr, Value.category, Option.toList, List.cons_append, List.nil_append, List.length_cons, List.length_nil, hN2, st_0 hI.1, hw0, cvk_1 hO q0, cvk_3 hO (bad0_sp hg hO x0' 1 0), gf_eq hO, mg_27, x27, h0, nI_0]
    · rw [if_neg h0]
      have z0 : ¬ nI (nR δ) = 0 := nI_ne0 (by omega) (by omega)
      have h0 : 0 < nR δ := by omega
      have la := atK_le hd (δ.1 1) (Nat.le_refl _)
      have lw := wsK_le hd (δ.1 0)
      have hs0 : ¬ nI (δ.1 0) = 0 := nI_ne0 (by omega) (by omega)
      have L := lpF (fun f (s : Lv × Mem) => jX11_settlement g f 4 [] s.1 s.2) (fun k => ([some (.ref M), some (.int (nI n0)), some (.int (nI (atK δ (δ.1 1)) - nI (wsK δ k))), some (.int (nI k))], w0)) (some (.inl (some (.int (if atK δ (δ.1 1) < wsK δ (δ.1 0) then -1 else nI (wtR δ (wrx δ n0) n0 + (atK δ (δ.1 1) - wsK δ (δ.1 0)) / δ.1 0 + if n0 < (atK δ (δ.1 1) - wsK δ (δ.1 0)) % δ.1 0 then 1 else 0)))), w0)) 1 2 (δ.1 0)
        (fun k hk f => by
          refine ⟨f, Nat.le_refl _, ?_⟩
          have o1 := worthAt_sp hg hd hO x27 hD hR (h := k) (wh := 1) (by omega) (Or.inr rfl)
          simp only [Nat.one_ne_zero, if_false, (show nI 1 = 1 from rfl)] at o1
          rw [(wrx_eq h0).1] at o1
          simp only [oI] at o1
          have o2 := rworthBy_sp hg hd hO hD hR (i := wrx δ k) (h := k) (wrx_eq h0).2 (by omega)
          simp [jX11_settlement, bX11_settlement_0, bX11_settlement_1, bX11_settlement_2, bX11_settlement_3, bX11_settlement_4, bX11_settlement_5, i_aload, i_getf, i_iadd, i_iaload, i_icge, i_icne, i_idiv, i_ifeq, i_ifge, i_ifne, i_iinc, i_iload, i_irem, i_ireturn, i_istore, i_isub, i_jmp, i_push, i_putf, msk, lset1, lset2, clr, Value.category, Option.toList, List.cons_append, List.nil_append, List.length_cons, List.length_nil, gf_eq hO, mg_11, hD.1.rc 0 0 rfl (by decide) (by decide), nI_ge hk (by omega), cvk_2 hO o1, cvk_2 hO o2, nI_ss, wsK, nI_1])
        (fun f => by
          have o1 := worthAt_sp hg hd hO x27 hD hR (h := n0) (wh := 1) (by omega) (Or.inr rfl)
          simp only [Nat.one_ne_zero, if_false, (show nI 1 = 1 from rfl)] at o1
          rw [(wrx_eq h0).1] at o1
          simp only [oI] at o1
          have o2 := rworthBy_sp hg hd hO hD hR (i := wrx δ n0) (h := n0) (wrx_eq h0).2 (by omega)
          by_cases z : atK δ (δ.1 1) < wsK δ (δ.1 0)
          · have z1 := Int32.not_le.mpr (pk_sneg (a := atK δ (δ.1 1)) (b := wsK δ (δ.1 0)) (by omega) z)
            simp [jX11_settlement, bX11_settlement_0, bX11_settlement_1, bX11_settlement_2, bX11_settlement_3, bX11_settlement_4, bX11_settlement_5, i_aload, i_getf, i_iadd, i_iaload, i_icge, i_icne, i_idiv, i_ifeq, i_ifge, i_ifne, i_iinc, i_iload, i_irem, i_ireturn, i_istore, i_isub, i_jmp, i_push, i_putf, msk, lset1, lset2, clr, Value.category, Option.toList, List.cons_append, List.nil_append, List.length_cons, List.length_nil, gf_eq hO, mg_11, hD.1.rc 0 0 rfl (by decide) (by decide), z1, z]
          · have e1 := pk_sub (a := atK δ (δ.1 1)) (b := wsK δ (δ.1 0)) (by omega)
            obtain ⟨X, hX⟩ : ∃ X, atK δ (δ.1 1) - wsK δ (δ.1 0) = X := ⟨_, rfl⟩
            rw [hX] at e1
            have lX : X < 2 ^ 31 := by omega
            have z1 : 0 ≤ nI X := nI_pos' lX
            have e2 := pk_div (a := X) (d := δ.1 0) lX (by omega) (by omega)
            have e3' := pk_rem (a := X) (d := δ.1 0) lX (by omega) (by omega)
            rw [e2] at e3'
            have lr := Nat.mod_lt X (y := δ.1 0) (by omega)
            by_cases y : n0 < X % δ.1 0
            · have y1 := nI_ge y (by omega)
              simp [jX11_settlement, bX11_settlement_0, bX11_settlement_1, bX11_settlement_2, bX11_settlement_3, bX11_settlement_4, bX11_settlement_5, i_aload, i_getf, i_iadd, i_iaload, i_icge, i_icne, i_idiv, i_ifeq, i_ifge, i_ifne, i_iinc, i_iload, i_irem, i_ireturn, i_istore, i_isub, i_jmp, i_push, i_putf, msk, lset1, lset2, clr, Value.category, Option.toList, List.cons_append, List.nil_append, List.length_cons, List.length_nil, gf_eq hO, mg_11, hD.1.rc 0 0 rfl (by decide) (by decide), e1, hX, z1, z, hs0, e2, e3', y1, y, nI_1, cvk_2 hO o1, cvk_2 hO o2, nI_add, Nat.add_assoc]
            · have y1 := nI_le (Nat.le_of_not_lt y) (by omega)
              simp [jX11_settlement, bX11_settlement_0, bX11_settlement_1, bX11_settlement_2, bX11_settlement_3, bX11_settlement_4, bX11_settlement_5, i_aload, i_getf, i_iadd, i_iaload, i_icge, i_icne, i_idiv, i_ifeq, i_ifge, i_ifne, i_iinc, i_iload, i_irem, i_ireturn, i_istore, i_isub, i_jmp, i_push, i_putf, msk, lset1, lset2, clr, Value.category, Option.toList, List.cons_append, List.nil_append, List.length_cons, List.length_nil, gf_eq hO, mg_11, hD.1.rc 0 0 rfl (by decide) (by decide), e1, hX, z1, z, hs0, e2, e3', y1, y, cvk_2 hO o1, cvk_2 hO o2, nI_add, Nat.add_assoc])

      obtain ⟨h0', -, ⟨c2, h2, k2⟩, -⟩ := id hD
      have L2 := lpF (fun f (s : Lv × Mem) => jX11_settlement g (f + 8) 2 [] s.1 s.2) (fun k => ([some (.ref M), some (.int (nI n0)), some (.int (nI (atK δ k))), some (.int (nI k))], w0)) (some (.inl (some (.int (if atK δ (δ.1 1) < wsK δ (δ.1 0) then -1 else nI (wtR δ (wrx δ n0) n0 + (atK δ (δ.1 1) - wsK δ (δ.1 0)) / δ.1 0 + if n0 < (atK δ (δ.1 1) - wsK δ (δ.1 0)) % δ.1 0 then 1 else 0)))), w0)) 2 1 (δ.1 1)
        (fun k hk f => by
          refine ⟨f, Nat.le_refl _, ?_⟩
          have o := rgoesBy_sp (g := g) hd hO hR (i := 0) h0 (t := k) (by omega)
          rw [nI_0] at o
          have lo := owR_le hd 0 k
          have m := nI_m1 (y := owR δ 0 k) (by omega)
          rw [show f + 2 + 8 = (f + 8) + 2 from rfl]
          generalize f + 8 = F
          by_cases z : owR δ 0 k = 0
          · simp [jX11_settlement, bX11_settlement_0, bX11_settlement_1, bX11_settlement_2, bX11_settlement_3, bX11_settlement_4, bX11_settlement_5, i_aload, i_getf, i_iadd, i_iaload, i_icge, i_icne, i_idiv, i_ifeq, i_ifge, i_ifne, i_iinc, i_iload, i_irem, i_ireturn, i_istore, i_isub, i_jmp, i_push, i_putf, msk, lset1, lset2, clr, Value.category, Option.toList, List.cons_append, List.nil_append, List.length_cons, List.length_nil, gf_eq hO, mg_11, h0'.rc 1 1 rfl (by decide) (by decide), nI_ge hk (by omega), cvk_2 hO o, m.mpr z, atK, z, nI_1, nI_0]
          · simp [jX11_settlement, bX11_settlement_0, bX11_settlement_1, bX11_settlement_2, bX11_settlement_3, bX11_settlement_4, bX11_settlement_5, i_aload, i_getf, i_iadd, i_iaload, i_icge, i_icne, i_idiv, i_ifeq, i_ifge, i_ifne, i_iinc, i_iload, i_irem, i_ireturn, i_istore, i_isub, i_jmp, i_push, i_putf, msk, lset1, lset2, clr, Value.category, Option.toList, List.cons_append, List.nil_append, List.length_cons, List.length_nil, gf_eq hO, mg_11, mg_15, h0'.rc 1 1 rfl (by decide) (by decide), nI_ge hk (by omega), cvk_2 hO o, mt m.mp z, atK, z, h2.rd (j := k) (by omega) (by decide), k2 k hk, nI_add, nI_1])
        (fun f => by
          have L1 := L (f + 8) (by omega)
          simp only [wsK, nI_0, Int32.sub_zero] at L1
          rw [show f + 1 + 8 = (f + 8) + 1 from rfl]
          generalize f + 8 = F at L1 ⊢
          rw [← L1]
          simp [jX11_settlement, bX11_settlement_0, bX11_settlement_1, bX11_settlement_2, bX11_settlement_3, bX11_settlement_4, bX11_settlement_5, i_aload, i_getf, i_iadd, i_iaload, i_icge, i_icne, i_idiv, i_ifeq, i_ifge, i_ifne, i_iinc, i_iload, i_irem, i_ireturn, i_istore, i_isub, i_jmp, i_push, i_putf, msk, lset1, lset2, clr, Value.category, Option.toList, List.cons_append, List.nil_append, List.length_cons, List.length_nil, gf_eq hO, mg_11, h0'.rc 1 1 rfl (by decide) (by decide)])
      obtain ⟨N3, hN3⟩ : ∃ N3, N2 = N3 + 8 := ⟨N2 - 8, by omega⟩
      have L3 := L2 N3 (by omega)
      simp only at L3
      rw [← hN3] at L3
      simp only [atK, nI_0] at L3
      rw [← L3]
      simp [fX11_settlement, kX11_settlement, ent, entp, jX11_settlement, bX11_settlement_0, bX11_settlement_1, bX11_settlement_2, bX11_settlement_3, bX11_settlement_4, bX11_settlement_5, i_aload, i_getf, i_iadd, i_iaload, i_icge, i_icne, i_idiv, i_ifeq, i_ifge, i_ifne, i_iinc, i_iload, i_irem, i_ireturn, i_istore, i_isub, i_jmp, i_push, i_putf, msk, lset1, lset2, clr, Value.category, Option.toList, List.cons_append, List.nil_append, List.length_cons, List.length_nil, hN2, st_0 hI.1, hw0, cvk_1 hO q0, cvk_3 hO (bad0_sp hg hO x0' 1 0), gf_eq hO, mg_27, x27, z0, mg_11, h0'.rc 4 4 rfl (by decide) (by decide)]
