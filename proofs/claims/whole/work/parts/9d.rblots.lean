/-! ===== the reference reads: a blot, whole ===== -/
def BX (w : Mem) (M : Nat) (x : Nat → Int32) (n pt q kd : Nat) (δ : DE) (k0 : Int32) (r : PR) : Prop := match r with
  | .inl e => RFt w M x n e
  | .inr y => MO w M (va_up x 4 (nI y.2)) ∧ ∃ δ1 v, y.1 = addPl δ1 kd v ∧ δ1.1 5 = δ.1 5 ∧ bat δ1 (δ.1 5) (δ1.1 3) ≠ none ∧ RG w M δ1 pt q ∧ ∃ c', IA w (M + 32 + 1 + δ.1 5) 3 c' ∧ c' 0 = k0
theorem RFt.w {w : Mem} {M n a : Nat} {x : Nat → Int32} {k p : Nat} (h : MO w M (va_up (va_up x 5 (nI k)) 6 (nI p))) (hp : RP w M) (ha : a ≤ n) (h4 : x 4 = nI a) (h1 : 1 ≤ k) (h2 : k ≤ 4) : RFt w M x n (k, p) :=
  ⟨_, h, rfl, rfl, ⟨a, ha, h4⟩, fun j j4 j5 j6 j7 => by rw [va_ne j6, va_ne j5], hp, h1, h2⟩
theorem fl0_no {H wd : Nat} {wf : Nat → Nat} (h : 3 ≤ wd) : flL H wf 0 wd = [] := fil_no (fun v => decide_eq_false fun q => by omega) 100
/-- from the number under the blot to the end of the filling -/
theorem bl_fill {g : GE} (hg : FU g) {w w3 : Mem} {M pt q kd wd st e : Nat} {x : Nat → Int32} {δ : DE} {K : Int32} (hQ : PQ δ) (hb8 : δ.1 3 < 8) (hk : kd ≤ 2) (hwd : wd ≤ 9) (hK : nI kd = K) (o3 : MO w3 M (va_up x 4 (nI e))) (G3' : RG w3 M δ pt q)
    (E0 : kd = 0 ∧ wd < 3 → ∀ N, g.1 = N + 3 → fX11_blots g [.ref M, .int K, .ref (M + 32 + 1 + δ.1 5)] w = jX11_blots g N 3 [] [some (.ref M), some (.int K), some (.ref (M + 32 + 1 + δ.1 5)), some (.int (nI st)), some (.int (nI wd)), some (.int (nI (δ.1 3))), some (.int (nI 0)), some (.ref (M + 124 + 1 + δ.1 3)), some (.int (nI (if wd = 2 then 10 else 0)))] w3)
    (E1 : ¬ (kd = 0 ∧ wd < 3) → ∀ N, g.1 = N + 2 → fX11_blots g [.ref M, .int K, .ref (M + 32 + 1 + δ.1 5)] w = jX11_blots g N 5 [] [some (.ref M), some (.int K), some (.ref (M + 32 + 1 + δ.1 5)), some (.int (nI st)), some (.int (nI wd)), some (.int (nI (δ.1 3))), some (.int 0), some (.ref (M + 124 + 1 + δ.1 3)), none] w3) :
    ∃ f' w4, 3 ≤ f' ∧ FLV w4 (M + 124 + 1 + δ.1 3) (flL (δ.1 0) (δ.2 0) kd wd) ∧ Fr (fun q => q = M + 124 + 1 + δ.1 3) w3 w4 ∧ fX11_blots g [.ref M, .int K, .ref (M + 32 + 1 + δ.1 5)] w = jX11_blots g f' 13 [] [some (.ref M), some (.int K), some (.ref (M + 32 + 1 + δ.1 5)), some (.int (nI st)), some (.int (nI wd)), some (.int (nI (δ.1 3))), some (.int (nI (flL (δ.1 0) (δ.2 0) kd wd).length)), none, none] w4 := by
  subst hK
  obtain ⟨⟨q0, q1, q2, q3, q4, q5⟩, -, -, -, q6, -⟩ := id hQ
  obtain ⟨⟨c3, h3, e0, -⟩, ⟨c5, h5, k5⟩, -, -, -, -, -, -, ⟨c9, h9, k9⟩⟩ := G3'
  have hF0 : FLV w3 (M + 124 + 1 + δ.1 3) [] := ⟨_, h9.2 _ hb8, fun j hj => by cases hj⟩
  have : kd = 0 ∨ kd = 1 ∨ kd = 2 := by omega
  rcases this with z | z | z
  · subst z
    by_cases y : wd < 3
    · obtain ⟨N, hN⟩ : ∃ N, g.1 = N + 20 + 2 + 2 * (if wd = 1 then 10 else if wd = 2 then 90 else 100) + 3 := ⟨g.1 - (20 + 2 + 2 * (if wd = 1 then 10 else if wd = 2 then 90 else 100) + 3), by
        have : (if wd = 1 then 10 else if wd = 2 then 90 else 100) ≤ 100 := by split <;> (try split) <;> omega
        omega⟩
      rw [E0 ⟨rfl, y⟩ _ hN]
      obtain ⟨f1, w4, k1, k2, k3, k4⟩ := fl_A (g := g) (M := M) (P := M + 32 + 1 + δ.1 5) (H := δ.1 0) (wf := δ.2 0) (K := nI 0) (hr := nI st) (W := nI wd) (b := nI (δ.1 3)) hF0 (by omega) rfl (N + 20)
      rw [k4]
      obtain ⟨f2, rfl⟩ : ∃ z, f1 = z + 10 + 4 := ⟨f1 - 14, by omega⟩
      obtain ⟨f3, k5, k6⟩ := fl_0 (g := g) (P := M + 32 + 1 + δ.1 5) (cv := M + 124 + 1 + δ.1 3) (K := nI 0) (hr := nI st) (W := nI wd) (b := nI (δ.1 3)) (nn := nI (flL (δ.1 0) (δ.2 0) 0 wd).length) (k3.at o3 (by omega)) (h3.fr k3 (by omega)) rfl (f2 + 10)
      exact ⟨f3, w4, by omega, k2, k3, k6⟩
    · obtain ⟨N, hN⟩ : ∃ N, g.1 = (N + 10 + 4) + 2 := ⟨g.1 - 16, by omega⟩
      rw [E1 (fun h => y h.2) _ hN]
      obtain ⟨f3, k5, k6⟩ := fl_0 (g := g) (P := M + 32 + 1 + δ.1 5) (cv := M + 124 + 1 + δ.1 3) (K := nI 0) (hr := nI st) (W := nI wd) (b := nI (δ.1 3)) (nn := 0) o3 h3 rfl (N + 10)
      rw [fl0_no (by omega)]
      exact ⟨f3, w3, by omega, hF0, Fr.rf _ _, k6⟩
  · subst z
    obtain ⟨N, hN⟩ : ∃ N, g.1 = (N + 10 + 3 + 3 * δ.1 0 + 1) + 2 := ⟨g.1 - (10 + 3 + 3 * δ.1 0 + 1 + 2), by omega⟩
    rw [E1 (fun h => by omega) _ hN]
    obtain ⟨f1, w4, k1, k2, k3, k4⟩ := fl_1 (g := g) (P := M + 32 + 1 + δ.1 5) (wf := δ.2 0) (K := nI 1) (hr := nI st) (W := nI wd) (b := nI (δ.1 3)) o3 h3 e0 q0 h5 (fun h hh => ⟨k5 h hh, by have := (q6 h hh).2.1; omega⟩) (cv := M + 124 + 1 + δ.1 3) ⟨by omega, by omega, by omega⟩ rfl rfl hwd hF0 (N + 10)
    exact ⟨f1, w4, by omega, k2, k3, k4⟩
  · subst z
    obtain ⟨N, hN⟩ : ∃ N, g.1 = (N + 10 + 1 + 3 * 2 + 3) + 2 := ⟨g.1 - 22, by omega⟩
    rw [E1 (fun h => by omega) _ hN]
    obtain ⟨f1, w4, k1, k2, k3, k4⟩ := fl_2 (g := g) (P := M + 32 + 1 + δ.1 5) (H := δ.1 0) (wf := δ.2 0) (K := nI 2) (hr := nI st) (W := nI wd) (b := nI (δ.1 3)) o3 h3 (cv := M + 124 + 1 + δ.1 3) ⟨by omega, by omega⟩ rfl rfl hwd hF0 (N + 10)
    exact ⟨f1, w4, by omega, k2, k3, k4⟩
theorem blots_sp {g : GE} (hg : FU g) {w : Mem} {M n a pt q kd : Nat} {x : Nat → Int32} {T : Nat → Nat} {δ : DE} {cP : Nat → Int32} {K : Int32} (hO : MO w M x) (h2 : x 2 = nI n) (h4 : x 4 = nI a) (h5 : x 5 = 0) (hT : TXT w (M + 1) T) (ha : a < n) (hn : n ≤ 600) (hG : RG w M δ pt q) (hQ : PQ δ) (hp36 : δ.1 5 < 36) (hpt : pt = δ.1 2 - 1) (hk : kd ≤ 2) (hK : nI kd = K) (hP : IA w (M + 32 + 1 + δ.1 5) 3 cP) :
    ∃ w', fX11_blots g [.ref M, .int K, .ref (M + 32 + 1 + δ.1 5)] w = some (.inl none, w') ∧ BX w' M x n pt q kd δ (cP 0) (blotP T n kd δ a) ∧ Fr (SR M) w w' := by
  obtain ⟨⟨q0, q1, q2, q3, q4, q5⟩, -, -, -, q6, -⟩ := id hQ
  obtain ⟨⟨c3, h3, e0, e1, e2, e3, e4, e5⟩, -⟩ := id hG
  have r33 := h3.rc 3 3 rfl (by decide) (by decide)
  rw [e3] at r33
  have e8 : (nI (δ.1 3) = 8) ↔ δ.1 3 = 8 := nI_eq (b := 8) (by omega) (by decide)
  unfold blotP
  by_cases y : 8 ≤ δ.1 3
  · rw [if_pos y]
    obtain ⟨N, hN⟩ : ∃ N, g.1 = N + 2 := ⟨g.1 - 2, by omega⟩
    obtain ⟨w1, p1, p2, p3⟩ := wrong_sp hg hO h5 3 (nI a)
    have j5 : ¬ va_up (va_up x 5 3) 6 (nI a) 5 = 0 := by show ¬ (3 : Int32) = 0; decide
    refine ⟨w1, ?_, RFt.w (k := 3) p2 (hG.fr p3 fun i h1 h2 => by omega).rp (Nat.le_of_lt ha) h4 (by decide) (by decide), p3.mn (SR_M M)⟩
    simp [fX11_blots, kX11_blots, ent, entp, jX11_blots, bX11_blots_0, bX11_blots_1, bX11_blots_2, bX11_blots_3, bX11_blots_4, bX11_blots_5, bX11_blots_6, bX11_blots_7, bX11_blots_8, bX11_blots_9, bX11_blots_10, bX11_blots_11, bX11_blots_12, bX11_blots_13, bX11_blots_14, i_aaload, i_aload, i_astore, i_dup, i_dup2, i_getf, i_iadd, i_iaload, i_iastore, i_iceq, i_icge, i_icne, i_ifeq, i_ifne, i_iinc, i_iload, i_istore, i_jmp, i_push, i_putf, i_return, msk, lset1, lset2, clr, Value.category, Option.toList, List.cons_append, List.nil_append, List.length_cons, List.length_nil, hN, gf_eq hO, mg_10, mg_4, r33, e8.mpr (by omega), h4, cvk_2 hO p1, gf_eq p2, mg_5, j5]
  · rw [if_neg y]
    have n8 := mt e8.mp (by omega : ¬ δ.1 3 = 8)
    have st4 := st_4 hO (nI (a + 1))
    obtain ⟨w1, hw1⟩ : ∃ z, mset w M (.inr (10, mo M (va_up x 4 (nI (a + 1))))) = z := ⟨_, rfl⟩
    rw [hw1] at st4
    have o1 : MO w1 M (va_up x 4 (nI (a + 1))) := hw1 ▸ ms_at _ _ _
    have F1 : Fr (fun q => q = M) w w1 := hw1 ▸ Fr.ms _ _ rfl
    obtain ⟨w2, r2, o2, F2⟩ := blanks_sp hg o1 h2 (va_up_self _ _ _) (hT.fr F1 (by omega)) (show a + 1 ≤ n by omega) hn
    rw [va_up_up] at o2
    have k7 : sb T n (a + 1) ≤ n := ru_n (by omega)
    generalize sb T n (a + 1) = st at *
    have F12 := F1.tr F2
    obtain ⟨w3, r3, o3, F3⟩ := number_sp hg o2 h2 (va_up_self _ _ _) h5 (hT.fr F12 (by omega)) k7 hn (mx := 9) (by decide)
    have r3' : fX11_number g [.ref M, .int 0, .int 9] w2 = some (.inl (some (.int (pvD 0 (numP T n 9 st)))), w3) := by rw [show (9 : Int32) = nI 9 from rfl, r3]; cases numP T n 9 st <;> rfl
    clear r3
    have F13 := F12.tr F3
    have G3' := hG.fr F13 (fun i h1 h2 => by omega)
    have r333 := (h3.fr F13 (by omega)).rc 3 3 rfl (by decide) (by decide)
    rw [e3] at r333
    have hnb := numP_b T n 9 st
    have g4 : va_up x 4 (nI st) 4 = nI st := va_up_self _ _ _
    cases hr : numP T n 9 st with
    | inl e =>
      rw [hr] at r3' o3
      have hb := hnb e hr
      have f3 : RFt w3 M x n e := (RFt.v o3 G3'.rp (ru_n (ru_n k7)) hb.1 hb.2).o4
      refine ⟨w3, ?_, f3, F13.mn (SR_M M)⟩
      obtain ⟨N, hN⟩ : ∃ N, g.1 = N + 2 := ⟨g.1 - 2, by omega⟩
      have r3'' : fX11_number g [.ref M, .int 0, .int 9] w2 = some (.inl (some (.int 0)), w3) := r3'
      obtain ⟨x', f1, f2, -, -, -, -, f7, f8⟩ := f3
      have j5 : ¬ x' 5 = 0 := by rw [f2]; exact nI_ne0 (by omega) (by omega)
      clear o3 r3'
      simp [fX11_blots, kX11_blots, ent, entp, jX11_blots, bX11_blots_0, bX11_blots_1, bX11_blots_2, bX11_blots_3, bX11_blots_4, bX11_blots_5, bX11_blots_6, bX11_blots_7, bX11_blots_8, bX11_blots_9, bX11_blots_10, bX11_blots_11, bX11_blots_12, bX11_blots_13, bX11_blots_14, i_aaload, i_aload, i_astore, i_dup, i_dup2, i_getf, i_iadd, i_iaload, i_iastore, i_iceq, i_icge, i_icne, i_ifeq, i_ifne, i_iinc, i_iload, i_istore, i_jmp, i_push, i_putf, i_return, msk, lset1, lset2, clr, Value.category, Option.toList, List.cons_append, List.nil_append, List.length_cons, List.length_nil, hN, gf_eq hO, mg_10, mg_4, r33, n8, mg_5, h5, h4, nI_1, st4, cvk_0 o1 r2, gf_eq o2, g4, cvk_2 o2 r3'', gf_eq f1, r333, j5]
    | inr u =>
      obtain ⟨wd, e⟩ := u
      rw [hr] at r3' o3
      have hx := numP_in hr k7
      have r3'' : fX11_number g [.ref M, .int 0, .int 9] w2 = some (.inl (some (.int (nI wd))), w3) := r3'
      have o3' : MO w3 M (va_up (va_up x 4 (nI st)) 4 (nI e)) := o3
      rw [va_up_up] at o3'
      clear o3 r3'
      have j5 : va_up x 4 (nI e) 5 = 0 := h5
      obtain ⟨-, -, -, -, -, -, -, -, ⟨c9, h9, k9⟩⟩ := id G3'
      have r9 := h9.1.rd (j := δ.1 3) (by omega) (by decide)
      have kk : (K = 0) ↔ kd = 0 := by rw [← hK]; exact nI_eq (b := 0) (by omega) (by decide)
      have w2' : (nI wd = 2) ↔ wd = 2 := nI_eq (b := 2) (by omega) (by decide)
      have fin := bl_fill (w := w) (w3 := w3) (st := st) (wd := wd) (kd := kd) (K := K) hg hQ (by omega) hk hx.1 hK o3' G3'
        (fun hh N hN => by
          have w3' : ¬ (3 : Int32) ≤ nI wd := nI_ge (b := 3) hh.2 (by decide)
          by_cases u : wd = 2
          · have e10 : nI (if wd = 2 then 10 else 0) = 10 := by rw [if_pos u]; rfl
            rw [e10, nI_0]
            simp [fX11_blots, kX11_blots, ent, entp, jX11_blots, bX11_blots_0, bX11_blots_1, bX11_blots_2, bX11_blots_3, bX11_blots_4, bX11_blots_5, bX11_blots_6, bX11_blots_7, bX11_blots_8, bX11_blots_9, bX11_blots_10, bX11_blots_11, bX11_blots_12, bX11_blots_13, bX11_blots_14, i_aaload, i_aload, i_astore, i_dup, i_dup2, i_getf, i_iadd, i_iaload, i_iastore, i_iceq, i_icge, i_icne, i_ifeq, i_ifne, i_iinc, i_iload, i_istore, i_jmp, i_push, i_putf, i_return, msk, lset1, lset2, clr, Value.category, Option.toList, List.cons_append, List.nil_append, List.length_cons, List.length_nil, hN, gf_eq hO, mg_10, mg_4, mg_25, r33, n8, mg_5, h5, h4, nI_1, st4, cvk_0 o1 r2, gf_eq o2, g4, cvk_2 o2 r3'', gf_eq o3', r333, j5, r9, va_rf, kk.mpr hh.1, w3', w2'.mpr u]
          · have e10 : nI (if wd = 2 then 10 else 0) = 0 := by rw [if_neg u]; rfl
            rw [e10, nI_0]
            simp [fX11_blots, kX11_blots, ent, entp, jX11_blots, bX11_blots_0, bX11_blots_1, bX11_blots_2, bX11_blots_3, bX11_blots_4, bX11_blots_5, bX11_blots_6, bX11_blots_7, bX11_blots_8, bX11_blots_9, bX11_blots_10, bX11_blots_11, bX11_blots_12, bX11_blots_13, bX11_blots_14, i_aaload, i_aload, i_astore, i_dup, i_dup2, i_getf, i_iadd, i_iaload, i_iastore, i_iceq, i_icge, i_icne, i_ifeq, i_ifne, i_iinc, i_iload, i_istore, i_jmp, i_push, i_putf, i_return, msk, lset1, lset2, clr, Value.category, Option.toList, List.cons_append, List.nil_append, List.length_cons, List.length_nil, hN, gf_eq hO, mg_10, mg_4, mg_25, r33, n8, mg_5, h5, h4, nI_1, st4, cvk_0 o1 r2, gf_eq o2, g4, cvk_2 o2 r3'', gf_eq o3', r333, j5, r9, va_rf, kk.mpr hh.1, w3', mt w2'.mp u])
        (fun hh N hN => by
          by_cases u : kd = 0
          · have w3' : (3 : Int32) ≤ nI wd := nI_le (a := 3) (by omega) (by omega)
            simp [fX11_blots, kX11_blots, ent, entp, jX11_blots, bX11_blots_0, bX11_blots_1, bX11_blots_2, bX11_blots_3, bX11_blots_4, bX11_blots_5, bX11_blots_6, bX11_blots_7, bX11_blots_8, bX11_blots_9, bX11_blots_10, bX11_blots_11, bX11_blots_12, bX11_blots_13, bX11_blots_14, i_aaload, i_aload, i_astore, i_dup, i_dup2, i_getf, i_iadd, i_iaload, i_iastore, i_iceq, i_icge, i_icne, i_ifeq, i_ifne, i_iinc, i_iload, i_istore, i_jmp, i_push, i_putf, i_return, msk, lset1, lset2, clr, Value.category, Option.toList, List.cons_append, List.nil_append, List.length_cons, List.length_nil, hN, gf_eq hO, mg_10, mg_4, mg_25, r33, n8, mg_5, h5, h4, nI_1, st4, cvk_0 o1 r2, gf_eq o2, g4, cvk_2 o2 r3'', gf_eq o3', r333, j5, r9, va_rf, kk.mpr u, w3']
          · simp [fX11_blots, kX11_blots, ent, entp, jX11_blots, bX11_blots_0, bX11_blots_1, bX11_blots_2, bX11_blots_3, bX11_blots_4, bX11_blots_5, bX11_blots_6, bX11_blots_7, bX11_blots_8, bX11_blots_9, bX11_blots_10, bX11_blots_11, bX11_blots_12, bX11_blots_13, bX11_blots_14, i_aaload, i_aload, i_astore, i_dup, i_dup2, i_getf, i_iadd, i_iaload, i_iastore, i_iceq, i_icge, i_icne, i_ifeq, i_ifne, i_iinc, i_iload, i_istore, i_jmp, i_push, i_putf, i_return, msk, lset1, lset2, clr, Value.category, Option.toList, List.cons_append, List.nil_append, List.length_cons, List.length_nil, hN, gf_eq hO, mg_10, mg_4, mg_25, r33, n8, mg_5, h5, h4, nI_1, st4, cvk_0 o1 r2, gf_eq o2, g4, cvk_2 o2 r3'', gf_eq o3', r333, j5, r9, va_rf, mt kk.mp u])
      obtain ⟨f', w4, hf', hF4, F4, E4⟩ := fin
      rw [E4]
      clear E4 r3'' r2 st4
      have o4 := F4.at o3' (by omega)
      have hle := flL_le (δ.1 0) (δ.2 0) kd wd
      show ∃ w', _ ∧ BX w' M x n pt q kd δ (cP 0) (if (flL (δ.1 0) (δ.2 0) kd wd).length = 0 then .inl (2, st) else .inr (addBl δ kd wd (flL (δ.1 0) (δ.2 0) kd wd), e)) ∧ _
      generalize flL (δ.1 0) (δ.2 0) kd wd = l at *
      obtain ⟨g1', g2', g3', g4', g5', g6', g7', g8', g9'⟩ := id G3'
      have F14 : Fr (SR M) w w4 := (F13.mn (SR_M M)).tr (F4.mn fun a h => by unfold SR rg; omega)
      have hcF := hF4
      obtain ⟨cF, h9F, k9F⟩ := hcF
      have g94 : ∃ c, GRD w4 (M + 124) 8 100 c ∧ (∀ k, k < δ.1 3 → ∀ i, i < δ.2 10 k → c k i = nI (δ.2 (20 + k) i)) ∧ ∀ i, i < l.length → c (δ.1 3) i = nI (l.getD i 0) := by
        refine ⟨fun k => if k = δ.1 3 then cF else c9 k, ⟨h9.1.fr F4 (by omega), fun i hi => ?_⟩, fun k hk i hi => ?_, fun i hi => ?_⟩
        · by_cases z : i = δ.1 3
          · subst z
            simp only [if_true]
            exact h9F
          · simp only [if_neg z]
            exact (h9.2 i hi).fr F4 (by omega)
        · simp only [if_neg (show ¬ k = δ.1 3 by omega)]
          exact k9 k hk i hi
        · simp only [if_true]
          exact k9F i hi
      obtain ⟨f2, rfl⟩ : ∃ z, f' = z + 2 := ⟨f' - 2, by omega⟩
      by_cases z : l.length = 0
      · rw [if_pos z, z, nI_0]
        obtain ⟨w5, p1, p2, p3⟩ := wrong_sp hg o4 j5 2 (nI st)
        have j6 : ¬ va_up (va_up (va_up x 4 (nI e)) 5 2) 6 (nI st) 5 = 0 := by show ¬ (2 : Int32) = 0; decide
        have rp4 : RP w4 M := by
          obtain ⟨cg, hcg, -⟩ := g94
          obtain ⟨z1, z2, z3, z4, z5, z6, z7, z8, -⟩ := G3'.rp
          obtain ⟨d1, z1⟩ := z1
          obtain ⟨d2, z2⟩ := z2
          obtain ⟨d3, z3⟩ := z3
          obtain ⟨d4, z4⟩ := z4
          obtain ⟨d5, z5⟩ := z5
          obtain ⟨d6, z6⟩ := z6
          obtain ⟨d7, z7⟩ := z7
          obtain ⟨d8, z8⟩ := z8
          exact ⟨⟨d1, z1.fr F4 (by omega)⟩, ⟨d2, z2.fr F4 (by omega)⟩, ⟨d3, z3.fr F4 (by omega)⟩, ⟨d4, z4.fr F4 (by omega)⟩, ⟨d5, z5.fr F4 (by omega)⟩, ⟨d6, z6.fr F4 fun i hi => by omega⟩, ⟨d7, z7.fr F4 fun i hi => by omega⟩, ⟨d8, z8.fr F4 fun i hi => by omega⟩, ⟨cg, hcg⟩⟩
        refine ⟨w5, ?_, (RFt.w (k := 2) p2 (rp4.fr p3 fun i h1 h2 => by omega) hx.2.2 (va_up_self _ _ _) (by decide) (by decide)).o4, F14.tr (p3.mn (SR_M M))⟩
        clear hF4 h9F k9F g94 F14
        simp [jX11_blots, bX11_blots_0, bX11_blots_1, bX11_blots_2, bX11_blots_3, bX11_blots_4, bX11_blots_5, bX11_blots_6, bX11_blots_7, bX11_blots_8, bX11_blots_9, bX11_blots_10, bX11_blots_11, bX11_blots_12, bX11_blots_13, bX11_blots_14, i_aaload, i_aload, i_astore, i_dup, i_dup2, i_getf, i_iadd, i_iaload, i_iastore, i_iceq, i_icge, i_icne, i_ifeq, i_ifne, i_iinc, i_iload, i_istore, i_jmp, i_push, i_putf, i_return, msk, lset1, lset2, clr, Value.category, Option.toList, List.cons_append, List.nil_append, List.length_cons, List.length_nil, cvk_2 o4 p1, gf_eq p2, mg_5, j6]
      · rw [if_neg z]
        have nl : ¬ nI l.length = 0 := nI_ne0 (by omega) (by omega)
        have e13 : jX11_blots g (f2 + 2) 13 [] [some (.ref M), some (.int K), some (.ref (M + 32 + 1 + δ.1 5)), some (.int (nI st)), some (.int (nI wd)), some (.int (nI (δ.1 3))), some (.int (nI l.length)), none, none] w4 = jX11_blots g (f2 + 1) 14 [] [some (.ref M), some (.int K), some (.ref (M + 32 + 1 + δ.1 5)), none, some (.int (nI wd)), some (.int (nI (δ.1 3))), some (.int (nI l.length)), none, none] w4 := by
          generalize nI l.length = LL at *
          simp [jX11_blots, bX11_blots_0, bX11_blots_1, bX11_blots_2, bX11_blots_3, bX11_blots_4, bX11_blots_5, bX11_blots_6, bX11_blots_7, bX11_blots_8, bX11_blots_9, bX11_blots_10, bX11_blots_11, bX11_blots_12, bX11_blots_13, bX11_blots_14, i_aaload, i_aload, i_astore, i_dup, i_dup2, i_getf, i_iadd, i_iaload, i_iastore, i_iceq, i_icge, i_icne, i_ifeq, i_ifne, i_iinc, i_iload, i_istore, i_jmp, i_push, i_putf, i_return, msk, lset1, lset2, clr, Value.category, Option.toList, List.cons_append, List.nil_append, List.length_cons, List.length_nil, nl]
        rw [e13]
        obtain ⟨w5, p1, p2, p3, p4, p5⟩ := bl_14 (g := g) (pt := pt) (q := q) (kd := kd) (wd := wd) (l := l) (hr := none) (K := K) rfl rfl o4 j5 hQ (by omega) hp36 hpt (g1'.fr F4 (by omega)) (g2'.fr F4 (by omega)) (g3'.fr F4 (by omega)) (g4'.fr F4 (by omega)) (g5'.fr F4 (by omega)) (g6'.fr F4 fun i h1 h2 => by omega) (g7'.fr F4 fun i h1 h2 => by omega) (g8'.fr F4 fun i h1 h2 => by omega) g94 ((hP.fr F13 (by omega)).fr F4 (by omega)) hK f2
        refine ⟨w5, p1, ⟨p2, addB0 δ kd wd l, l.getD 0 0, addBl_0 _ _ _ _, rfl, ?_, p3, p4⟩, F14.tr p5⟩
        have e13 : (addB0 δ kd wd l).1 3 = δ.1 3 + 1 := rfl
        have e12 : (addB0 δ kd wd l).2 12 (δ.1 3) = δ.1 5 := by simp [addB0, dC_2, dT_2]
        rw [e13]
        unfold bat
        rw [e12, if_pos rfl]
        exact fun h => by cases h
