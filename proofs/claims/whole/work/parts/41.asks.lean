/-! ===== who has what by a row: the reference ===== -/
theorem asks6_sp {g : GE} {w : Mem} {M k h t own F : Nat} {s y : Int32} {x : Nat → Int32} {to : Nat → Int32} (hO : MO w M x) (hT : IA w (M + 174) 5 to) (ht : t < 5) (ho : to t = nI own - 1) (lo : own < 100) (hy : y = 0 ∨ y = 1) :
    ∃ w', jX11_asks g (F + 3) 6 [.int y, .ref M] [some (.ref M), some (.int s), some (.int (nI k)), some (.int (nI h)), some (.int (nI t))] w = jX11_asks g F 3 [] [some (.ref M), some (.int s), some (.int (nI (k + 1))), none, none] w'
      ∧ MO w' M (va_up x 42 y) ∧ IA w' (M + 174) 5 (va_up to t (nI (if own = 0 then h + 1 else own) - 1)) ∧ Fr (fun a => a = M ∨ a = M + 174) w w' := by
  obtain ⟨w1, hw1⟩ : ∃ z, mset w M (.inr (10, mo M (va_up x 42 y))) = z := ⟨_, rfl⟩
  have hO1 : MO w1 M (va_up x 42 y) := hw1 ▸ ms_at _ _ _
  have F1 : Fr (fun a => a = M) w w1 := hw1 ▸ Fr.ms w _ rfl
  have hT1 := hT.fr F1 (by omega)
  have es : sf w M 10 42 .boolean (.int y) = some w1 := by
    rcases hy with q | q <;> subst q
    · rw [sf_0 hO 42 (by rw [mo_len]; decide), mt_42, hw1]
    · rw [sf_1 hO 42 (by rw [mo_len]; decide), mt_42, hw1]
  refine ⟨wi w1 0 (M + 174) t (nI (if own = 0 then h + 1 else own) - 1), ?_, (wi_ne w1 0 t _ (by omega)).trans hO1, hT1.up t _, (F1.mn fun a h => Or.inl h).tr (Fr.wi _ _ _ _ (Or.inr rfl))⟩
  by_cases z : own = 0
  · subst z
    have e0 : nI (0 + 1) = nI 1 := rfl
    simp [jX11_asks, bX11_asks_0, bX11_asks_1, bX11_asks_2, bX11_asks_3, bX11_asks_4, bX11_asks_5, bX11_asks_6, bX11_asks_7, bX11_asks_8, bX11_asks_9, bX11_asks_10, bX11_asks_11, bX11_asks_12, bX11_asks_13, i_aaload, i_aload, i_dup2, i_getf, i_iadd, i_iaload, i_iastore, i_iceq, i_icge, i_icne, i_ifne, i_iinc, i_iload, i_istore, i_jmp, i_push, i_putf, i_return, msk, lset1, lset2, clr, Value.category, Option.toList, List.cons_append, List.nil_append, List.length_cons, List.length_nil, es, gf_eq hO1, mg_41, hT1.rd ht (by decide), ho, nI_0, hT1.wr ht (by decide), nI_pred, nI_1]
  · have q1 : ¬ (nI own - 1 = -1) := fun q => z ((nI_m1 (by omega)).mp q)
    simp [jX11_asks, bX11_asks_0, bX11_asks_1, bX11_asks_2, bX11_asks_3, bX11_asks_4, bX11_asks_5, bX11_asks_6, bX11_asks_7, bX11_asks_8, bX11_asks_9, bX11_asks_10, bX11_asks_11, bX11_asks_12, bX11_asks_13, i_aaload, i_aload, i_dup2, i_getf, i_iadd, i_iaload, i_iastore, i_iceq, i_icge, i_icne, i_ifne, i_iinc, i_iload, i_istore, i_jmp, i_push, i_putf, i_return, msk, lset1, lset2, clr, Value.category, Option.toList, List.cons_append, List.nil_append, List.length_cons, List.length_nil, es, gf_eq hO1, mg_41, hT1.rd ht (by decide), ho, q1, hT1.wr ht (by decide), z, nI_1]
/-- the reference's row asked -/
def RQ (w : Mem) (M : Nat) (δ : DE) (s : Int32) (vv : Nat → Nat) : Prop := IA w (M + 173) 4 (fun h => nI (cK δ s vv (δ.1 2) h)) ∧ IA w (M + 174) 5 (fun t => nI (ownK δ s vv (δ.1 2) t) - 1)
theorem asks_sp {g : GE} (hg : FU g) {w : Mem} {M : Nat} {x : Nat → Int32} {δ : DE} {fl co to : Nat → Int32} {vv : Nat → Nat} (hd : WF δ) (hO : MO w M x) (hD : RD w M δ) (hF : IA w (M + 172) 36 fl) (hco : IA w (M + 173) 4 co) (hto : IA w (M + 174) 5 to) (hv : VD δ vv) (e : ∀ p, p < δ.1 5 → fl p = nI (vv p)) (s : Int32) :
    ∃ w', fX11_asks g [.ref M, .int s] w = some (.inl none, w') ∧ MO w' M (va_up x 42 (nI (twK δ s vv (δ.1 2)))) ∧ RQ w' M δ s vv ∧ Fr (fun a => a = M ∨ a = M + 173 ∨ a = M + 174) w w' := by
  obtain ⟨b1, b2, b3, b4, b5, b6, b7, b8⟩ := id hd.1
  have kp : ∀ w1, Fr (fun a => a = M ∨ a = M + 173 ∨ a = M + 174) w w1 → RD w1 M δ ∧ IA w1 (M + 172) 36 fl := fun w1 h1 => ⟨hD.fr h1 (fun i h1 h2 => by omega), hF.fr h1 (by omega)⟩
  -- the pays
  have LP := lpR (fun f (t : Lv × Mem) => jX11_asks g f 9 [] t.1 t.2) (fun i t => t.1 = [some (.ref M), some (.int s), some (.int (nI i)), none, none] ∧ MO t.2 M (va_up x 42 (nI (twK δ s vv (δ.1 2)))) ∧ IA t.2 (M + 173) 4 (fun h => nI (cK δ s vv i h)) ∧ IA t.2 (M + 174) 5 (fun q => nI (ownK δ s vv (δ.1 2) q) - 1) ∧ Fr (fun a => a = M ∨ a = M + 173 ∨ a = M + 174) w t.2)
    (fun z => ∃ w', z = some (.inl none, w') ∧ MO w' M (va_up x 42 (nI (twK δ s vv (δ.1 2)))) ∧ RQ w' M δ s vv ∧ Fr (fun a => a = M ∨ a = M + 173 ∨ a = M + 174) w w') 5 1 (δ.1 2)
    (fun i t hi hI f => by
      obtain ⟨e1, i1, i2, i3, i4⟩ := hI
      obtain ⟨⟨h0, -, -, -, ⟨c4, h4, k4⟩, -⟩, hFl⟩ := kp _ i4
      have hkd := hd.2.1 i hi
      have ki := k4 i hi
      have g4 := h4.2 i (by omega)
      by_cases z1 : nI i = s
      · have pn : payK δ s vv i = none := by unfold payK; simp [z1]
        refine Or.inr ⟨f + 3, ([some (.ref M), some (.int s), some (.int (nI (i + 1))), none, none], t.2), by omega, ⟨rfl, i1, i2.cg fun h _ => by simp [cK, pn, pC], i3, i4⟩, ?_⟩
        simp [jX11_asks, bX11_asks_0, bX11_asks_1, bX11_asks_2, bX11_asks_3, bX11_asks_4, bX11_asks_5, bX11_asks_6, bX11_asks_7, bX11_asks_8, bX11_asks_9, bX11_asks_10, bX11_asks_11, bX11_asks_12, bX11_asks_13, i_aaload, i_aload, i_dup2, i_getf, i_iadd, i_iaload, i_iastore, i_iceq, i_icge, i_icne, i_ifne, i_iinc, i_iload, i_istore, i_jmp, i_push, i_putf, i_return, msk, lset1, lset2, clr, Value.category, Option.toList, List.cons_append, List.nil_append, List.length_cons, List.length_nil, e1, gf_eq i1, mg_11, mg_20, h0.rc 2 2 rfl (by decide) (by decide), nI_ge hi (by omega), h4.1.rd (j := i) (by omega) (by decide), va_rf, g4.rc 2 2 rfl (by decide) (by decide), ← z1, nI_1]
      · rcases hkd.1 with ⟨a, b, c, y⟩ | ⟨a, b, c⟩ | ⟨a, b, c, y, y2, y3⟩
        · have pn : payK δ s vv i = some (vv (δ.2 5 i), vv (δ.2 5 i + 1)) := by unfold payK; simp [z1, a]
          have la := hv.h (by omega) b
          have z9 : nI (δ.2 3 i) = 0 := by rw [a]; exact nI_0
          refine Or.inr ⟨f + 2, ([some (.ref M), some (.int s), some (.int (nI (i + 1))), none, none], wi t.2 0 (M + 173) (vv (δ.2 5 i)) (nI (cK δ s vv i (vv (δ.2 5 i))) + nI (vv (δ.2 5 i + 1)))), by omega, ⟨rfl, (wi_ne _ _ _ _ (by omega)).trans i1, (i2.up _ _).cg fun h _ => ?_, i3.wi (by omega), i4.tr (Fr.wi _ _ _ _ (by omega))⟩, ?_⟩
          · unfold va_up
            simp only [cK, pn, pC]
            by_cases z : h = vv (δ.2 5 i)
            · subst z; simp [nI_add]
            · have : ¬ vv (δ.2 5 i) = h := fun q => z q.symm
              simp [z, this]
          · have hO2 : MO (wi t.2 0 (M + 173) (vv (δ.2 5 i)) (nI (cK δ s vv i (vv (δ.2 5 i))) + nI (vv (δ.2 5 i + 1)))) M (va_up x 42 (nI (twK δ s vv (δ.1 2)))) := (wi_ne _ _ _ _ (by omega)).trans i1
            have h42 := h4.fr (Fr.wi (S := fun a => a = M + 173) t.2 0 (vv (δ.2 5 i)) (nI (cK δ s vv i (vv (δ.2 5 i))) + nI (vv (δ.2 5 i + 1))) rfl) (fun j hj => by omega)
            simp [jX11_asks, bX11_asks_0, bX11_asks_1, bX11_asks_2, bX11_asks_3, bX11_asks_4, bX11_asks_5, bX11_asks_6, bX11_asks_7, bX11_asks_8, bX11_asks_9, bX11_asks_10, bX11_asks_11, bX11_asks_12, bX11_asks_13, i_aaload, i_aload, i_dup2, i_getf, i_iadd, i_iaload, i_iastore, i_iceq, i_icge, i_icne, i_ifne, i_iinc, i_iload, i_istore, i_jmp, i_push, i_putf, i_return, msk, lset1, lset2, clr, Value.category, Option.toList, List.cons_append, List.nil_append, List.length_cons, List.length_nil, e1, gf_eq i1, mg_11, mg_20, mg_39, mg_40, h0.rc 2 2 rfl (by decide) (by decide), nI_ge hi (by omega), h4.1.rd (j := i) (by omega) (by decide), va_rf, g4.rc 2 2 rfl (by decide) (by decide), g4.rc 0 0 rfl (by decide) (by decide), ki.1, ki.2.2, z9, z1, hFl.rd (j := δ.2 5 i) (by omega) (by decide), hFl.rd (j := δ.2 5 i + 1) (by omega) (by decide), e (δ.2 5 i) (by omega), e (δ.2 5 i + 1) (by omega), nI_1, i2.rd (j := vv (δ.2 5 i)) (by omega) (by decide), i2.wr (j := vv (δ.2 5 i)) (by omega) (by decide), gf_eq hO2, h42.1.rd (j := i) (by omega) (by decide), (h42.2 i (by omega)).rc 0 0 rfl (by decide) (by decide)]
        · have pn : payK δ s vv i = none := by unfold payK; simp [a]
          have z9 : nI (δ.2 3 i) = 1 := by rw [a]; rfl
          refine Or.inr ⟨f + 2, ([some (.ref M), some (.int s), some (.int (nI (i + 1))), none, none], t.2), by omega, ⟨rfl, i1, i2.cg fun h _ => by simp [cK, pn, pC], i3, i4⟩, ?_⟩
          simp [jX11_asks, bX11_asks_0, bX11_asks_1, bX11_asks_2, bX11_asks_3, bX11_asks_4, bX11_asks_5, bX11_asks_6, bX11_asks_7, bX11_asks_8, bX11_asks_9, bX11_asks_10, bX11_asks_11, bX11_asks_12, bX11_asks_13, i_aaload, i_aload, i_dup2, i_getf, i_iadd, i_iaload, i_iastore, i_iceq, i_icge, i_icne, i_ifne, i_iinc, i_iload, i_istore, i_jmp, i_push, i_putf, i_return, msk, lset1, lset2, clr, Value.category, Option.toList, List.cons_append, List.nil_append, List.length_cons, List.length_nil, e1, gf_eq i1, mg_11, mg_20, h0.rc 2 2 rfl (by decide) (by decide), nI_ge hi (by omega), h4.1.rd (j := i) (by omega) (by decide), va_rf, g4.rc 2 2 rfl (by decide) (by decide), g4.rc 0 0 rfl (by decide) (by decide), ki.1, z9, z1, nI_1]
        · have z9 : nI (δ.2 3 i) = 2 := by rw [a]; rfl
          have ht := hkd.2 (by omega)
          have ow := ownK_le (s := s) hd hv (δ.1 2) (Nat.le_refl _) (δ.2 4 i)
          have l1 := hv.l hd (p := δ.2 5 i + 1) (by omega)
          have l0 := hv.l hd (p := δ.2 5 i) (by omega)
          have la := hv.h (p := δ.2 5 i + 2) (by omega) y
          have m1 : (nI (ownK δ s vv (δ.1 2) (δ.2 4 i)) - 1 = nI (vv (δ.2 5 i + 1))) ↔ ownK δ s vv (δ.1 2) (δ.2 4 i) = vv (δ.2 5 i + 1) + 1 := nI_m1e (by omega) (by omega)
          have m0 : (nI (vv (δ.2 5 i)) = 0) ↔ vv (δ.2 5 i) = 0 := by rw [← nI_0]; exact nI_eq (by omega) (by decide)
          have e2 : nI (δ.2 5 i) + 2 = nI (δ.2 5 i + 2) := nI_add _ 2
          have e3 : nI (δ.2 5 i) + 3 = nI (δ.2 5 i + 3) := nI_add _ 3
          have kt := ki.2.1 (by omega)
          by_cases zc : (ownK δ s vv (δ.1 2) (δ.2 4 i) = vv (δ.2 5 i + 1) + 1) ↔ vv (δ.2 5 i) = 0
          · have pn : payK δ s vv i = some (vv (δ.2 5 i + 2), vv (δ.2 5 i + 3)) := by unfold payK; simp [z1, a, zc]
            refine Or.inr ⟨f, ([some (.ref M), some (.int s), some (.int (nI (i + 1))), none, none], wi t.2 0 (M + 173) (vv (δ.2 5 i + 2)) (nI (cK δ s vv i (vv (δ.2 5 i + 2))) + nI (vv (δ.2 5 i + 3)))), by omega, ⟨rfl, (wi_ne _ _ _ _ (by omega)).trans i1, (i2.up _ _).cg fun h _ => ?_, i3.wi (by omega), i4.tr (Fr.wi _ _ _ _ (by omega))⟩, ?_⟩
            · unfold va_up
              simp only [cK, pn, pC]
              by_cases z : h = vv (δ.2 5 i + 2)
              · subst z; simp [nI_add]
              · have : ¬ vv (δ.2 5 i + 2) = h := fun q => z q.symm
                simp [z, this]
            · by_cases z0 : vv (δ.2 5 i) = 0
              · simp [jX11_asks, bX11_asks_0, bX11_asks_1, bX11_asks_2, bX11_asks_3, bX11_asks_4, bX11_asks_5, bX11_asks_6, bX11_asks_7, bX11_asks_8, bX11_asks_9, bX11_asks_10, bX11_asks_11, bX11_asks_12, bX11_asks_13, i_aaload, i_aload, i_dup2, i_getf, i_iadd, i_iaload, i_iastore, i_iceq, i_icge, i_icne, i_ifne, i_iinc, i_iload, i_istore, i_jmp, i_push, i_putf, i_return, msk, lset1, lset2, clr, Value.category, Option.toList, List.cons_append, List.nil_append, List.length_cons, List.length_nil, e1, gf_eq i1, mg_11, mg_20, mg_39, mg_40, mg_41, h0.rc 2 2 rfl (by decide) (by decide), nI_ge hi (by omega), h4.1.rd (j := i) (by omega) (by decide), va_rf, g4.rc 2 2 rfl (by decide) (by decide), g4.rc 1 1 rfl (by decide) (by decide), g4.rc 0 0 rfl (by decide) (by decide), ki.1, kt, ki.2.2, z9, z1, i3.rd (j := δ.2 4 i) (by omega) (by decide), m1.mpr (zc.mpr z0), m0.mpr z0, hFl.rd (j := δ.2 5 i) (by omega) (by decide), hFl.rd (j := δ.2 5 i + 1) (by omega) (by decide), hFl.rd (j := δ.2 5 i + 2) (by omega) (by decide), hFl.rd (j := δ.2 5 i + 3) (by omega) (by decide), e (δ.2 5 i) (by omega), e (δ.2 5 i + 1) (by omega), e (δ.2 5 i + 2) (by omega), e (δ.2 5 i + 3) (by omega), e2, e3, nI_1, i2.rd (j := vv (δ.2 5 i + 2)) (by omega) (by decide), i2.wr (j := vv (δ.2 5 i + 2)) (by omega) (by decide)]
              · simp [jX11_asks, bX11_asks_0, bX11_asks_1, bX11_asks_2, bX11_asks_3, bX11_asks_4, bX11_asks_5, bX11_asks_6, bX11_asks_7, bX11_asks_8, bX11_asks_9, bX11_asks_10, bX11_asks_11, bX11_asks_12, bX11_asks_13, i_aaload, i_aload, i_dup2, i_getf, i_iadd, i_iaload, i_iastore, i_iceq, i_icge, i_icne, i_ifne, i_iinc, i_iload, i_istore, i_jmp, i_push, i_putf, i_return, msk, lset1, lset2, clr, Value.category, Option.toList, List.cons_append, List.nil_append, List.length_cons, List.length_nil, e1, gf_eq i1, mg_11, mg_20, mg_39, mg_40, mg_41, h0.rc 2 2 rfl (by decide) (by decide), nI_ge hi (by omega), h4.1.rd (j := i) (by omega) (by decide), va_rf, g4.rc 2 2 rfl (by decide) (by decide), g4.rc 1 1 rfl (by decide) (by decide), g4.rc 0 0 rfl (by decide) (by decide), ki.1, kt, ki.2.2, z9, z1, i3.rd (j := δ.2 4 i) (by omega) (by decide), mt m1.mp (mt zc.mp z0), mt m0.mp z0, hFl.rd (j := δ.2 5 i) (by omega) (by decide), hFl.rd (j := δ.2 5 i + 1) (by omega) (by decide), hFl.rd (j := δ.2 5 i + 2) (by omega) (by decide), hFl.rd (j := δ.2 5 i + 3) (by omega) (by decide), e (δ.2 5 i) (by omega), e (δ.2 5 i + 1) (by omega), e (δ.2 5 i + 2) (by omega), e (δ.2 5 i + 3) (by omega), e2, e3, nI_1, i2.rd (j := vv (δ.2 5 i + 2)) (by omega) (by decide), i2.wr (j := vv (δ.2 5 i + 2)) (by omega) (by decide)]
          · have pn : payK δ s vv i = none := by unfold payK; simp [z1, a, zc]
            refine Or.inr ⟨f, ([some (.ref M), some (.int s), some (.int (nI (i + 1))), none, none], t.2), by omega, ⟨rfl, i1, i2.cg fun h _ => by simp [cK, pn, pC], i3, i4⟩, ?_⟩
            by_cases z0 : vv (δ.2 5 i) = 0
            · have zo : ¬ (ownK δ s vv (δ.1 2) (δ.2 4 i) = vv (δ.2 5 i + 1) + 1) := fun q => zc ⟨fun _ => z0, fun _ => q⟩
              simp [jX11_asks, bX11_asks_0, bX11_asks_1, bX11_asks_2, bX11_asks_3, bX11_asks_4, bX11_asks_5, bX11_asks_6, bX11_asks_7, bX11_asks_8, bX11_asks_9, bX11_asks_10, bX11_asks_11, bX11_asks_12, bX11_asks_13, i_aaload, i_aload, i_dup2, i_getf, i_iadd, i_iaload, i_iastore, i_iceq, i_icge, i_icne, i_ifne, i_iinc, i_iload, i_istore, i_jmp, i_push, i_putf, i_return, msk, lset1, lset2, clr, Value.category, Option.toList, List.cons_append, List.nil_append, List.length_cons, List.length_nil, e1, gf_eq i1, mg_11, mg_20, mg_39, mg_40, mg_41, h0.rc 2 2 rfl (by decide) (by decide), nI_ge hi (by omega), h4.1.rd (j := i) (by omega) (by decide), va_rf, g4.rc 2 2 rfl (by decide) (by decide), g4.rc 1 1 rfl (by decide) (by decide), g4.rc 0 0 rfl (by decide) (by decide), ki.1, kt, ki.2.2, z9, z1, i3.rd (j := δ.2 4 i) (by omega) (by decide), mt m1.mp zo, m0.mpr z0, hFl.rd (j := δ.2 5 i) (by omega) (by decide), hFl.rd (j := δ.2 5 i + 1) (by omega) (by decide), e (δ.2 5 i) (by omega), e (δ.2 5 i + 1) (by omega), nI_1]
            · have zo : ownK δ s vv (δ.1 2) (δ.2 4 i) = vv (δ.2 5 i + 1) + 1 := Classical.byContradiction fun q => zc ⟨fun r => absurd r q, fun r => absurd r z0⟩
              simp [jX11_asks, bX11_asks_0, bX11_asks_1, bX11_asks_2, bX11_asks_3, bX11_asks_4, bX11_asks_5, bX11_asks_6, bX11_asks_7, bX11_asks_8, bX11_asks_9, bX11_asks_10, bX11_asks_11, bX11_asks_12, bX11_asks_13, i_aaload, i_aload, i_dup2, i_getf, i_iadd, i_iaload, i_iastore, i_iceq, i_icge, i_icne, i_ifne, i_iinc, i_iload, i_istore, i_jmp, i_push, i_putf, i_return, msk, lset1, lset2, clr, Value.category, Option.toList, List.cons_append, List.nil_append, List.length_cons, List.length_nil, e1, gf_eq i1, mg_11, mg_20, mg_39, mg_40, mg_41, h0.rc 2 2 rfl (by decide) (by decide), nI_ge hi (by omega), h4.1.rd (j := i) (by omega) (by decide), va_rf, g4.rc 2 2 rfl (by decide) (by decide), g4.rc 1 1 rfl (by decide) (by decide), g4.rc 0 0 rfl (by decide) (by decide), ki.1, kt, ki.2.2, z9, z1, i3.rd (j := δ.2 4 i) (by omega) (by decide), m1.mpr zo, mt m0.mp z0, hFl.rd (j := δ.2 5 i) (by omega) (by decide), hFl.rd (j := δ.2 5 i + 1) (by omega) (by decide), e (δ.2 5 i) (by omega), e (δ.2 5 i + 1) (by omega), nI_1])
    (fun t hI f => by
      obtain ⟨e1, i1, i2, i3, i4⟩ := hI
      obtain ⟨⟨h0, -⟩, hFl⟩ := kp _ i4
      refine ⟨t.2, ?_, i1, ⟨i2, i3⟩, i4⟩
      simp [jX11_asks, bX11_asks_0, bX11_asks_1, bX11_asks_2, bX11_asks_3, bX11_asks_4, bX11_asks_5, bX11_asks_6, bX11_asks_7, bX11_asks_8, bX11_asks_9, bX11_asks_10, bX11_asks_11, bX11_asks_12, bX11_asks_13, i_aaload, i_aload, i_dup2, i_getf, i_iadd, i_iaload, i_iastore, i_iceq, i_icge, i_icne, i_ifne, i_iinc, i_iload, i_istore, i_jmp, i_push, i_putf, i_return, msk, lset1, lset2, clr, Value.category, Option.toList, List.cons_append, List.nil_append, List.length_cons, List.length_nil, e1, gf_eq i1, mg_11, h0.rc 2 2 rfl (by decide) (by decide)])
  -- the wills
  have LW := lpR (fun f (t : Lv × Mem) => jX11_asks g (f + 5 * δ.1 2 + 1) 3 [] t.1 t.2) (fun i t => t.1 = [some (.ref M), some (.int s), some (.int (nI i)), none, none] ∧ MO t.2 M (va_up x 42 (nI (twK δ s vv i))) ∧ IA t.2 (M + 173) 4 (fun h => nI (cK δ s vv 0 h)) ∧ IA t.2 (M + 174) 5 (fun q => nI (ownK δ s vv i q) - 1) ∧ Fr (fun a => a = M ∨ a = M + 173 ∨ a = M + 174) w t.2)
    (fun z => ∃ w', z = some (.inl none, w') ∧ MO w' M (va_up x 42 (nI (twK δ s vv (δ.1 2)))) ∧ RQ w' M δ s vv ∧ Fr (fun a => a = M ∨ a = M + 173 ∨ a = M + 174) w w') 5 1 (δ.1 2)
    (fun i t hi hI f => by
      obtain ⟨e1, i1, i2, i3, i4⟩ := hI
      obtain ⟨⟨h0, -, -, -, ⟨c4, h4, k4⟩, -⟩, hFl⟩ := kp _ i4
      have hkd := hd.2.1 i hi
      have ki := k4 i hi
      have g4 := h4.2 i (by omega)
      have ef : f + 5 + 5 * δ.1 2 + 1 = (f + 5 * δ.1 2 + 1) + 5 := by omega
      by_cases z1 : nI i = s
      · refine Or.inr ⟨f + 3, ([some (.ref M), some (.int s), some (.int (nI (i + 1))), none, none], t.2), by omega, ⟨rfl, by simpa [twK, z1] using i1, i2, i3.cg fun q _ => by simp [ownK, z1], i4⟩, ?_⟩
        have ef2 : f + 3 + 5 * δ.1 2 + 1 = (f + 5 * δ.1 2 + 1) + 3 := by omega
        simp only [ef, ef2]
        generalize f + 5 * δ.1 2 + 1 = F
        simp [jX11_asks, bX11_asks_0, bX11_asks_1, bX11_asks_2, bX11_asks_3, bX11_asks_4, bX11_asks_5, bX11_asks_6, bX11_asks_7, bX11_asks_8, bX11_asks_9, bX11_asks_10, bX11_asks_11, bX11_asks_12, bX11_asks_13, i_aaload, i_aload, i_dup2, i_getf, i_iadd, i_iaload, i_iastore, i_iceq, i_icge, i_icne, i_ifne, i_iinc, i_iload, i_istore, i_jmp, i_push, i_putf, i_return, msk, lset1, lset2, clr, Value.category, Option.toList, List.cons_append, List.nil_append, List.length_cons, List.length_nil, e1, gf_eq i1, mg_11, mg_20, h0.rc 2 2 rfl (by decide) (by decide), nI_ge hi (by omega), ← z1, nI_1]
      · by_cases z2 : δ.2 3 i = 1
        · have hk1 : δ.2 6 (δ.2 5 i) = 1 ∧ δ.2 5 i + 1 ≤ δ.1 5 := by
            rcases hkd.1 with ⟨a, _⟩ | ⟨a, b, c⟩ | ⟨a, _⟩
            · omega
            · exact ⟨b, c⟩
            · omega
          have ht := hkd.2 (by omega)
          have kt := ki.2.1 (by omega)
          have z9 : nI (δ.2 3 i) = 1 := by rw [z2]; rfl
          have ow := ownK_le (s := s) hd hv i (by omega) (δ.2 4 i)
          have lv := hv.l hd (p := δ.2 5 i) (by omega)
          have t01 := twK_01 (δ := δ) (s := s) (v := vv) i
          have x42 : (va_up x 42 (nI (twK δ s vv i))) 42 = nI (twK δ s vv i) := va_up_self _ _ _
          obtain ⟨y, hy⟩ : ∃ y, twK δ s vv (i + 1) = y := ⟨_, rfl⟩
          have hy2 : y = if ownK δ s vv i (δ.2 4 i) ≠ 0 ∧ ownK δ s vv i (δ.2 4 i) ≠ vv (δ.2 5 i) + 1 then 1 else twK δ s vv i := by
            rw [← hy]
            simp [twK, z1, z2]
          have y01 : nI y = 0 ∨ nI y = 1 := by
            rcases twK_01 (δ := δ) (s := s) (v := vv) (i + 1) with q | q
            · left; rw [← hy, q]; rfl
            · right; rw [← hy, q]; rfl
          obtain ⟨w1, q1, q2, q3, q4⟩ := asks6_sp (g := g) (s := s) (k := i) (h := vv (δ.2 5 i)) (own := ownK δ s vv i (δ.2 4 i)) (F := f + 5 * δ.1 2 + 1) i1 i3 (t := δ.2 4 i) (by omega) rfl (by omega) y01
          rw [va_up_up] at q2
          refine Or.inr ⟨f, ([some (.ref M), some (.int s), some (.int (nI (i + 1))), none, none], w1), Nat.le_refl _, ⟨rfl, by rw [hy]; exact q2, i2.fr q4 (by omega), q3.cg fun q _ => ?_, i4.tr (q4.mn fun a h => by omega)⟩, ?_⟩
          · unfold va_up
            simp only [ownK]
            by_cases z3 : q = δ.2 4 i
            · subst z3
              by_cases z4 : ownK δ s vv i (δ.2 4 i) = 0 <;> simp [z1, z2, z4]
            · have : ¬ δ.2 4 i = q := fun z => z3 z.symm
              simp [z3, this]
          · simp only [ef]
            rw [← q1]
            have ef3 : f + 5 * δ.1 2 + 1 + 5 = (f + 5 * δ.1 2 + 1 + 3) + 2 := by omega
            rw [ef3]
            generalize f + 5 * δ.1 2 + 1 + 3 = F
            have c1 := h0.rc 2 2 rfl (by decide) (by decide)
            have c2 := h4.1.rd (j := i) (by omega) (by decide)
            have c3 := g4.rc 0 0 rfl (by decide) (by decide)
            have c4' := g4.rc 1 1 rfl (by decide) (by decide)
            have c5 := g4.rc 2 2 rfl (by decide) (by decide)
            have c6 := hFl.rd (j := δ.2 5 i) (by omega) (by decide)
            have c7 := i3.rd (j := δ.2 4 i) (by omega) (by decide)
            have c8 := nI_ge hi (by omega)
            rcases t01 with q | q
            · have qn : nI (twK δ s vv i) = 0 := by rw [q]; rfl
              by_cases z3 : ownK δ s vv i (δ.2 4 i) = 0
              · have y0 : nI y = 0 := by rw [hy2]; simp [z3, q]; rfl
                have o0 : nI (ownK δ s vv i (δ.2 4 i)) - 1 = -1 := (nI_m1 (by omega)).mpr z3
                simp [jX11_asks, bX11_asks_0, bX11_asks_1, bX11_asks_2, bX11_asks_3, bX11_asks_4, bX11_asks_5, bX11_asks_6, bX11_asks_7, bX11_asks_8, bX11_asks_9, bX11_asks_10, bX11_asks_11, bX11_asks_12, bX11_asks_13, i_aaload, i_aload, i_dup2, i_getf, i_iadd, i_iaload, i_iastore, i_iceq, i_icge, i_icne, i_ifne, i_iinc, i_iload, i_istore, i_jmp, i_push, i_putf, i_return, msk, lset1, lset2, clr, Value.category, Option.toList, List.cons_append, List.nil_append, List.length_cons, List.length_nil, e1, gf_eq i1, mg_11, mg_20, mg_39, mg_41, mg_42, c1, c8, z1, c2, va_rf, c3, c4', c5, ki.1, z9, ki.2.2, kt, c6, e (δ.2 5 i) (by omega), va_up_self, qn, c7, o0, y0]
              · have o0 : ¬ (nI (ownK δ s vv i (δ.2 4 i)) - 1 = -1) := mt (nI_m1 (by omega)).mp z3
                by_cases z4 : ownK δ s vv i (δ.2 4 i) = vv (δ.2 5 i) + 1
                · have y0 : nI y = 0 := by rw [hy2]; simp [z4, q]; rfl
                  have o1 : nI (ownK δ s vv i (δ.2 4 i)) - 1 = nI (vv (δ.2 5 i)) := (nI_m1e (by omega) (by omega)).mpr z4
                  have o2 := nI_nn (y := vv (δ.2 5 i)) (by omega)
                  simp [jX11_asks, bX11_asks_0, bX11_asks_1, bX11_asks_2, bX11_asks_3, bX11_asks_4, bX11_asks_5, bX11_asks_6, bX11_asks_7, bX11_asks_8, bX11_asks_9, bX11_asks_10, bX11_asks_11, bX11_asks_12, bX11_asks_13, i_aaload, i_aload, i_dup2, i_getf, i_iadd, i_iaload, i_iastore, i_iceq, i_icge, i_icne, i_ifne, i_iinc, i_iload, i_istore, i_jmp, i_push, i_putf, i_return, msk, lset1, lset2, clr, Value.category, Option.toList, List.cons_append, List.nil_append, List.length_cons, List.length_nil, e1, gf_eq i1, mg_11, mg_20, mg_39, mg_41, mg_42, c1, c8, z1, c2, va_rf, c3, c4', c5, ki.1, z9, ki.2.2, kt, c6, e (δ.2 5 i) (by omega), va_up_self, qn, c7, o1, o2, y0]
                · have y0 : nI y = 1 := by rw [hy2]; simp [z3, z4]; rfl
                  have o1 : ¬ (nI (ownK δ s vv i (δ.2 4 i)) - 1 = nI (vv (δ.2 5 i))) := mt (nI_m1e (by omega) (by omega)).mp z4
                  simp [jX11_asks, bX11_asks_0, bX11_asks_1, bX11_asks_2, bX11_asks_3, bX11_asks_4, bX11_asks_5, bX11_asks_6, bX11_asks_7, bX11_asks_8, bX11_asks_9, bX11_asks_10, bX11_asks_11, bX11_asks_12, bX11_asks_13, i_aaload, i_aload, i_dup2, i_getf, i_iadd, i_iaload, i_iastore, i_iceq, i_icge, i_icne, i_ifne, i_iinc, i_iload, i_istore, i_jmp, i_push, i_putf, i_return, msk, lset1, lset2, clr, Value.category, Option.toList, List.cons_append, List.nil_append, List.length_cons, List.length_nil, e1, gf_eq i1, mg_11, mg_20, mg_39, mg_41, mg_42, c1, c8, z1, c2, va_rf, c3, c4', c5, ki.1, z9, ki.2.2, kt, c6, e (δ.2 5 i) (by omega), va_up_self, qn, c7, o0, o1, y0]
            · have qn : nI (twK δ s vv i) = 1 := by rw [q]; rfl
              have y0 : nI y = 1 := by
                rw [hy2]
                split
                · rfl
                · rw [q]; rfl
              simp [jX11_asks, bX11_asks_0, bX11_asks_1, bX11_asks_2, bX11_asks_3, bX11_asks_4, bX11_asks_5, bX11_asks_6, bX11_asks_7, bX11_asks_8, bX11_asks_9, bX11_asks_10, bX11_asks_11, bX11_asks_12, bX11_asks_13, i_aaload, i_aload, i_dup2, i_getf, i_iadd, i_iaload, i_iastore, i_iceq, i_icge, i_icne, i_ifne, i_iinc, i_iload, i_istore, i_jmp, i_push, i_putf, i_return, msk, lset1, lset2, clr, Value.category, Option.toList, List.cons_append, List.nil_append, List.length_cons, List.length_nil, e1, gf_eq i1, mg_11, mg_20, mg_39, mg_41, mg_42, c1, c8, z1, c2, va_rf, c3, c4', c5, ki.1, z9, ki.2.2, kt, c6, e (δ.2 5 i) (by omega), va_up_self, qn, y0]
        · have z9 : ¬ (nI (δ.2 3 i) = 1) := fun q => z2 ((nI_eq (b := 1) (by rcases hkd.1 with ⟨a, _⟩ | ⟨a, _⟩ | ⟨a, _⟩ <;> omega) (by decide)).mp q)
          refine Or.inr ⟨f + 3, ([some (.ref M), some (.int s), some (.int (nI (i + 1))), none, none], t.2), by omega, ⟨rfl, by simpa [twK, z2] using i1, i2, i3.cg fun q _ => by simp [ownK, z2], i4⟩, ?_⟩
          have ef2 : f + 3 + 5 * δ.1 2 + 1 = (f + 5 * δ.1 2 + 1) + 3 := by omega
          simp only [ef, ef2]
          generalize f + 5 * δ.1 2 + 1 = F
          simp [jX11_asks, bX11_asks_0, bX11_asks_1, bX11_asks_2, bX11_asks_3, bX11_asks_4, bX11_asks_5, bX11_asks_6, bX11_asks_7, bX11_asks_8, bX11_asks_9, bX11_asks_10, bX11_asks_11, bX11_asks_12, bX11_asks_13, i_aaload, i_aload, i_dup2, i_getf, i_iadd, i_iaload, i_iastore, i_iceq, i_icge, i_icne, i_ifne, i_iinc, i_iload, i_istore, i_jmp, i_push, i_putf, i_return, msk, lset1, lset2, clr, Value.category, Option.toList, List.cons_append, List.nil_append, List.length_cons, List.length_nil, e1, gf_eq i1, mg_11, mg_20, h0.rc 2 2 rfl (by decide) (by decide), nI_ge hi (by omega), z1, h4.1.rd (j := i) (by omega) (by decide), va_rf, g4.rc 0 0 rfl (by decide) (by decide), ki.1, z9, nI_1])
    (fun t hI f => by
      obtain ⟨e1, i1, i2, i3, i4⟩ := hI
      obtain ⟨⟨h0, -⟩, hFl⟩ := kp _ i4
      have q := LP (δ.1 2) 0 ([some (.ref M), some (.int s), some (.int (nI 0)), none, none], t.2) (by omega) ⟨rfl, i1, i2, i3, i4⟩ (f + 5 * δ.1 2 + 1) (by omega)
      have ef : f + 1 + 5 * δ.1 2 + 1 = (f + 5 * δ.1 2 + 1) + 1 := by omega
      simp only [ef]
      simp only [nI_0] at q
      generalize f + 5 * δ.1 2 + 1 = F at q ⊢
      have e : jX11_asks g (F + 1) 3 [] t.1 t.2 = jX11_asks g F 9 [] [some (.ref M), some (.int s), some (.int 0), none, none] t.2 := by
        simp [jX11_asks, bX11_asks_0, bX11_asks_1, bX11_asks_2, bX11_asks_3, bX11_asks_4, bX11_asks_5, bX11_asks_6, bX11_asks_7, bX11_asks_8, bX11_asks_9, bX11_asks_10, bX11_asks_11, bX11_asks_12, bX11_asks_13, i_aaload, i_aload, i_dup2, i_getf, i_iadd, i_iaload, i_iastore, i_iceq, i_icge, i_icne, i_ifne, i_iinc, i_iload, i_istore, i_jmp, i_push, i_putf, i_return, msk, lset1, lset2, clr, Value.category, Option.toList, List.cons_append, List.nil_append, List.length_cons, List.length_nil, e1, gf_eq i1, mg_11, h0.rc 2 2 rfl (by decide) (by decide)]
      rw [e]
      exact q)
  -- nobody has anything
  have LT := lpR (fun f (t : Lv × Mem) => jX11_asks g (f + 10 * δ.1 2 + 2) 2 [] t.1 t.2) (fun i t => t.1 = [some (.ref M), some (.int s), some (.int (nI i)), none, none] ∧ MO t.2 M (va_up x 42 0) ∧ IA t.2 (M + 173) 4 (fun _ => 0) ∧ IA t.2 (M + 174) 5 (fun q => if q < i then -1 else to q) ∧ Fr (fun a => a = M ∨ a = M + 173 ∨ a = M + 174) w t.2)
    (fun z => ∃ w', z = some (.inl none, w') ∧ MO w' M (va_up x 42 (nI (twK δ s vv (δ.1 2)))) ∧ RQ w' M δ s vv ∧ Fr (fun a => a = M ∨ a = M + 173 ∨ a = M + 174) w w') 1 1 5
    (fun i t hi hI f => by
      obtain ⟨e1, i1, i2, i3, i4⟩ := hI
      refine Or.inr ⟨f, ([some (.ref M), some (.int s), some (.int (nI (i + 1))), none, none], wi t.2 0 (M + 174) i (-1)), Nat.le_refl _, ⟨rfl, (wi_ne _ _ _ _ (by omega)).trans i1, i2.wi (by omega), (i3.up i (-1)).cg fun q _ => ?_, i4.tr (Fr.wi _ _ _ _ (by omega))⟩, ?_⟩
      · unfold va_up
        by_cases z : q = i
        · simp [z]
        · by_cases y : q < i
          · simp [z, y, Nat.lt_succ_of_lt y]
          · have : ¬ q < i + 1 := by omega
            simp [z, y, this]
      · have ef : f + 1 + 10 * δ.1 2 + 2 = (f + 10 * δ.1 2 + 2) + 1 := by omega
        simp only [ef]
        generalize f + 10 * δ.1 2 + 2 = F
        simp [jX11_asks, bX11_asks_0, bX11_asks_1, bX11_asks_2, bX11_asks_3, bX11_asks_4, bX11_asks_5, bX11_asks_6, bX11_asks_7, bX11_asks_8, bX11_asks_9, bX11_asks_10, bX11_asks_11, bX11_asks_12, bX11_asks_13, i_aaload, i_aload, i_dup2, i_getf, i_iadd, i_iaload, i_iastore, i_iceq, i_icge, i_icne, i_ifne, i_iinc, i_iload, i_istore, i_jmp, i_push, i_putf, i_return, msk, lset1, lset2, clr, Value.category, Option.toList, List.cons_append, List.nil_append, List.length_cons, List.length_nil, e1, (show ¬ (5 : Int32) ≤ nI i from nI_ge hi (by decide)), gf_eq i1, mg_41, i3.wr hi (by decide), nI_1])
    (fun t hI f => by
      obtain ⟨e1, i1, i2, i3, i4⟩ := hI
      have q := LW (δ.1 2) 0 ([some (.ref M), some (.int s), some (.int (nI 0)), none, none], t.2) (by omega) ⟨rfl, by simpa [twK, nI_0] using i1, i2.cg fun h _ => by simp [cK, nI_0], i3.cg fun q hq => by simp [ownK, hq]; rfl, i4⟩ (f + 5 * δ.1 2 + 1) (by omega)
      have ef : f + 1 + 10 * δ.1 2 + 2 = (f + 5 * δ.1 2 + 1 + 5 * δ.1 2 + 1) + 1 := by omega
      simp only [ef]
      simp only [nI_0] at q
      generalize f + 5 * δ.1 2 + 1 + 5 * δ.1 2 + 1 = F at q ⊢
      have e : jX11_asks g (F + 1) 2 [] t.1 t.2 = jX11_asks g F 3 [] [some (.ref M), some (.int s), some (.int 0), none, none] t.2 := by
        simp [jX11_asks, bX11_asks_0, bX11_asks_1, bX11_asks_2, bX11_asks_3, bX11_asks_4, bX11_asks_5, bX11_asks_6, bX11_asks_7, bX11_asks_8, bX11_asks_9, bX11_asks_10, bX11_asks_11, bX11_asks_12, bX11_asks_13, i_aaload, i_aload, i_dup2, i_getf, i_iadd, i_iaload, i_iastore, i_iceq, i_icge, i_icne, i_ifne, i_iinc, i_iload, i_istore, i_jmp, i_push, i_putf, i_return, msk, lset1, lset2, clr, Value.category, Option.toList, List.cons_append, List.nil_append, List.length_cons, List.length_nil, e1, (show (5 : Int32) ≤ nI 5 from by decide)]
      rw [e]
      exact q)
  have LC := lpR (fun f (t : Lv × Mem) => jX11_asks g (f + 10 * δ.1 2 + 8) 1 [] t.1 t.2) (fun i t => t.1 = [some (.ref M), some (.int s), some (.int (nI i)), none, none] ∧ MO t.2 M (va_up x 42 0) ∧ IA t.2 (M + 173) 4 (fun q => if q < i then 0 else co q) ∧ IA t.2 (M + 174) 5 to ∧ Fr (fun a => a = M ∨ a = M + 173 ∨ a = M + 174) w t.2)
    (fun z => ∃ w', z = some (.inl none, w') ∧ MO w' M (va_up x 42 (nI (twK δ s vv (δ.1 2)))) ∧ RQ w' M δ s vv ∧ Fr (fun a => a = M ∨ a = M + 173 ∨ a = M + 174) w w') 1 1 4
    (fun i t hi hI f => by
      obtain ⟨e1, i1, i2, i3, i4⟩ := hI
      refine Or.inr ⟨f, ([some (.ref M), some (.int s), some (.int (nI (i + 1))), none, none], wi t.2 0 (M + 173) i 0), Nat.le_refl _, ⟨rfl, (wi_ne _ _ _ _ (by omega)).trans i1, (i2.up i 0).cg fun q _ => ?_, i3.wi (by omega), i4.tr (Fr.wi _ _ _ _ (by omega))⟩, ?_⟩
      · unfold va_up
        by_cases z : q = i
        · simp [z]
        · by_cases y : q < i
          · simp [z, y, Nat.lt_succ_of_lt y]
          · have : ¬ q < i + 1 := by omega
            simp [z, y, this]
      · have ef : f + 1 + 10 * δ.1 2 + 8 = (f + 10 * δ.1 2 + 8) + 1 := by omega
        simp only [ef]
        generalize f + 10 * δ.1 2 + 8 = F
        simp [jX11_asks, bX11_asks_0, bX11_asks_1, bX11_asks_2, bX11_asks_3, bX11_asks_4, bX11_asks_5, bX11_asks_6, bX11_asks_7, bX11_asks_8, bX11_asks_9, bX11_asks_10, bX11_asks_11, bX11_asks_12, bX11_asks_13, i_aaload, i_aload, i_dup2, i_getf, i_iadd, i_iaload, i_iastore, i_iceq, i_icge, i_icne, i_ifne, i_iinc, i_iload, i_istore, i_jmp, i_push, i_putf, i_return, msk, lset1, lset2, clr, Value.category, Option.toList, List.cons_append, List.nil_append, List.length_cons, List.length_nil, e1, (show ¬ (4 : Int32) ≤ nI i from nI_ge hi (by decide)), gf_eq i1, mg_40, i2.wr hi (by decide), nI_1])
    (fun t hI f => by
      obtain ⟨e1, i1, i2, i3, i4⟩ := hI
      have q := LT 5 0 ([some (.ref M), some (.int s), some (.int (nI 0)), none, none], t.2) (by omega) ⟨rfl, i1, i2.cg fun h hh => by simp [hh], i3.cg fun q hq => by simp, i4⟩ (f + 6) (by omega)
      have ef : f + 1 + 10 * δ.1 2 + 8 = (f + 6 + 10 * δ.1 2 + 2) + 1 := by omega
      simp only [ef]
      simp only [nI_0] at q
      generalize f + 6 + 10 * δ.1 2 + 2 = F at q ⊢
      have e : jX11_asks g (F + 1) 1 [] t.1 t.2 = jX11_asks g F 2 [] [some (.ref M), some (.int s), some (.int 0), none, none] t.2 := by
        simp [jX11_asks, bX11_asks_0, bX11_asks_1, bX11_asks_2, bX11_asks_3, bX11_asks_4, bX11_asks_5, bX11_asks_6, bX11_asks_7, bX11_asks_8, bX11_asks_9, bX11_asks_10, bX11_asks_11, bX11_asks_12, bX11_asks_13, i_aaload, i_aload, i_dup2, i_getf, i_iadd, i_iaload, i_iastore, i_iceq, i_icge, i_icne, i_ifne, i_iinc, i_iload, i_istore, i_jmp, i_push, i_putf, i_return, msk, lset1, lset2, clr, Value.category, Option.toList, List.cons_append, List.nil_append, List.length_cons, List.length_nil, e1, (show (4 : Int32) ≤ nI 4 from by decide)]
      rw [e]
      exact q)
  obtain ⟨w1, hw1⟩ : ∃ z, mset w M (.inr (10, mo M (va_up x 42 0))) = z := ⟨_, rfl⟩
  have hO1 : MO w1 M (va_up x 42 0) := hw1 ▸ ms_at _ _ _
  have F1 : Fr (fun a => a = M ∨ a = M + 173 ∨ a = M + 174) w w1 := hw1 ▸ Fr.ms w _ (Or.inl rfl)
  obtain ⟨N, hN⟩ : ∃ N, g.1 = (N + 10 * δ.1 2 + 8) + 1 := ⟨g.1 - (10 * δ.1 2 + 9), by omega⟩
  have L := LC 4 0 ([some (.ref M), some (.int s), some (.int (nI 0)), none, none], w1) (by omega) ⟨rfl, hO1, (hco.fr (hw1 ▸ Fr.ms (S := fun a => a = M) w _ rfl) (by omega)).cg fun q hq => by simp, hto.fr (hw1 ▸ Fr.ms (S := fun a => a = M) w _ rfl) (by omega), F1⟩ N (by omega)
  simp only [nI_0] at L
  generalize N + 10 * δ.1 2 + 8 = F at L hN
  have e : fX11_asks g [.ref M, .int s] w = jX11_asks g F 1 [] [some (.ref M), some (.int s), some (.int 0), none, none] w1 := by
    simp [fX11_asks, kX11_asks, ent, entp, jX11_asks, bX11_asks_0, bX11_asks_1, bX11_asks_2, bX11_asks_3, bX11_asks_4, bX11_asks_5, bX11_asks_6, bX11_asks_7, bX11_asks_8, bX11_asks_9, bX11_asks_10, bX11_asks_11, bX11_asks_12, bX11_asks_13, i_aaload, i_aload, i_dup2, i_getf, i_iadd, i_iaload, i_iastore, i_iceq, i_icge, i_icne, i_ifne, i_iinc, i_iload, i_istore, i_jmp, i_push, i_putf, i_return, msk, lset1, lset2, clr, Value.category, Option.toList, List.cons_append, List.nil_append, List.length_cons, List.length_nil, hN, st_42a hO, hw1]
  rw [e]
  exact L
