/-! ===== the reference reads: a clause ===== -/
def RY (w : Mem) (M : Nat) (x : Nat → Int32) (n : Nat) (r : PR) : Prop := match r with
  | .inl e => RFt w M x n e
  | .inr y => MO w M (va_up x 4 (nI y.2)) ∧ RG w M y.1 (y.1.1 2) (y.1.1 2)
theorem RX.y {w : Mem} {M n pt : Nat} {x : Nat → Int32} {r : PR} (h : RX w M x n pt pt r) (hp : ∀ y, r = .inr y → y.1.1 2 = pt) : RY w M x n r := by
  cases r with
  | inl e => exact h
  | inr y =>
    have := hp y rfl
    refine ⟨h.1, ?_⟩
    rw [this]
    exact h.2
theorem RY.o4 {w : Mem} {M n : Nat} {x : Nat → Int32} {v : Int32} {r : PR} (h : RY w M (va_up x 4 v) n r) : RY w M x n r := by
  cases r with
  | inl e => exact RFt.o4 h
  | inr y =>
    refine ⟨?_, h.2⟩
    have := h.1
    rwa [va_up_up] at this
theorem va_sw {α : Type} (x : Nat → α) {i j : Nat} (u v : α) (h : i ≠ j) : va_up (va_up x i u) j v = va_up (va_up x j v) i u := by
  funext k
  unfold va_up
  by_cases z : k = j
  · subst z
    rw [if_pos rfl, if_neg (Ne.symm h), if_pos rfl]
  · rw [if_neg z]
    by_cases y : k = i
    · rw [if_pos y, if_pos y]
    · rw [if_neg y, if_neg y, if_neg z]
theorem RFt.o7 {w : Mem} {M n : Nat} {x : Nat → Int32} {v : Int32} {e : Nat × Nat} (h : RFt w M x n e) : RFt w M (va_up x 7 v) n e := by
  obtain ⟨x', h1, h2, h3, h4, h5, h6⟩ := h
  exact ⟨x', h1, h2, h3, h4, fun j j4 j5 j6 j7 => by rw [h5 j j4 j5 j6 j7, va_ne j7], h6⟩
section
variable {g : GE} {w : Mem} {M n : Nat} {x : Nat → Int32} {T : Nat → Nat} {r : PR}
theorem RY.o {w : Mem} {M n : Nat} {x : Nat → Int32} {r : PR} (h : RY w M x n r) : ∃ x', MO w M x' := by
  cases r with
  | inl e => exact ⟨_, h.choose_spec.1⟩
  | inr y => exact ⟨_, h.1⟩
/-- the end of a clause -/
theorem cl_4 (hg : FU g) (h : RY w M x n r) (h2 : x 2 = nI n) (h5 : x 5 = 0) (hT : TXT w (M + 1) T) (hn : n ≤ 600) (hc : ∀ y, r = .inr y → y.2 ≤ n) (f : Nat) :
    ∃ w', jX11_clause g (f + 2) 4 [] [some (.ref M), none, none, none] w = some (.inl none, w') ∧ RY w' M x n (bd r (endP T n)) ∧ Fr (SR M) w w' := by
  cases r with
  | inl e =>
    obtain ⟨x', h1, h6⟩ := RFt.n0 h
    refine ⟨w, ?_, h, Fr.rf _ _⟩
    simp [jX11_clause, bX11_clause_0, bX11_clause_1, bX11_clause_2, bX11_clause_3, bX11_clause_4, bX11_clause_5, i_aload, i_dup, i_getf, i_iadd, i_iaload, i_iastore, i_iceq, i_icge, i_icne, i_ifeq, i_ifne, i_iload, i_istore, i_isub, i_jmp, i_push, i_putf, i_return, msk, lset1, lset2, clr, Value.category, Option.toList, List.cons_append, List.nil_append, List.length_cons, List.length_nil, gf_eq h1, mg_5, h6]
  | inr y =>
    obtain ⟨y1, y2⟩ := y
    have k1 : y2 ≤ n := hc _ rfl
    obtain ⟨hO, hG⟩ := h
    have hO : MO w M (va_up x 4 (nI y2)) := hO
    obtain ⟨w1, r1, o1, F1⟩ := blanks_sp hg hO h2 (va_up_self _ _ _) hT k1 hn
    rw [va_up_up] at o1
    have k2 : sb T n y2 ≤ n := ru_n k1
    show ∃ w', _ ∧ RY w' M x n (endP T n (y1, y2)) ∧ _
    unfold endP
    simp only []
    have T1 := hT.fr F1 (by omega)
    generalize sb T n y2 = s at *
    have by1 := byteAt_sp hg (i := s) o1 h2 T1 hn (by omega)
    have g4 : va_up x 4 (nI s) 4 = nI s := va_up_self _ _ _
    have g5 : va_up x 4 (nI s) 5 = 0 := h5
    have g5' : va_up x 4 (nI y2) 5 = 0 := h5
    have G1' := hG.fr F1 (fun i h1 h2 => by omega)
    by_cases y : s < n ∧ T s = 59
    · rw [if_pos y]
      rw [if_pos y.1, y.2] at by1
      have by2 : fX11_byteAt g [.ref M, .int (nI s)] w1 = some (.inl (some (.int 59)), w1) := by1
      have st := st_4 o1 (nI (s + 1))
      rw [va_up_up] at st
      have F2 : Fr (fun q => q = M) w1 (mset w1 M (.inr (10, mo M (va_up x 4 (nI (s + 1)))))) := Fr.ms _ _ rfl
      refine ⟨_, ?_, ⟨ms_at _ _ _, G1'.fr F2 fun i h1 h2 => by omega⟩, (F1.tr F2).mn (SR_M M)⟩
      simp [jX11_clause, bX11_clause_0, bX11_clause_1, bX11_clause_2, bX11_clause_3, bX11_clause_4, bX11_clause_5, i_aload, i_dup, i_getf, i_iadd, i_iaload, i_iastore, i_iceq, i_icge, i_icne, i_ifeq, i_ifne, i_iload, i_istore, i_isub, i_jmp, i_push, i_putf, i_return, msk, lset1, lset2, clr, Value.category, Option.toList, List.cons_append, List.nil_append, List.length_cons, List.length_nil, gf_eq hO, mg_5, g5', cvk_0 hO r1, gf_eq o1, mg_4, g4, cvk_1 o1 by2, nI_1, st]
    · rw [if_neg y]
      have nb : ¬ (if s < n then nI (T s) else -1) = 59 := by
        split
        · next y1 =>
          have lt := hT.2 s (by omega)
          exact mt (nI_eq (b := 59) (by omega) (by decide)).mp fun h => y ⟨y1, h⟩
        · decide
      generalize (if s < n then nI (T s) else -1) = Y at *
      obtain ⟨w2, p1, p2, p3⟩ := wrong_sp hg o1 g5 1 (nI s)
      refine ⟨w2, ?_, (RFt.w (k := 1) p2 (G1'.fr p3 fun i h1 h2 => by omega).rp k2 g4 (by decide) (by decide)).o4, (F1.tr p3).mn (SR_M M)⟩
      simp [jX11_clause, bX11_clause_0, bX11_clause_1, bX11_clause_2, bX11_clause_3, bX11_clause_4, bX11_clause_5, i_aload, i_dup, i_getf, i_iadd, i_iaload, i_iastore, i_iceq, i_icge, i_icne, i_ifeq, i_ifne, i_iload, i_istore, i_isub, i_jmp, i_push, i_putf, i_return, msk, lset1, lset2, clr, Value.category, Option.toList, List.cons_append, List.nil_append, List.length_cons, List.length_nil, gf_eq hO, mg_5, g5', cvk_0 hO r1, gf_eq o1, mg_4, g4, cvk_1 o1 by1, nb, cvk_2 o1 p1]
end
theorem r2_0 {T : Nat → Nat} {n a : Nat} {δ : DE} : ∀ y, heirC T n (δ, a) = .inr y → y.1.1 2 = δ.1 2 := fun y h => by
  obtain ⟨u, -, h2⟩ := bd_r h
  cases h2
  rfl
theorem r2_1 {T : Nat → Nat} {n a : Nat} {δ : DE} : ∀ y, thingC T n (δ, a) = .inr y → y.1.1 2 = δ.1 2 := fun y h => by
  obtain ⟨u, -, h2⟩ := bd_r h
  obtain ⟨v, -, h3⟩ := bd_r h2
  cases h3
  rfl
theorem CHr.c {n a k p0 vb m : Nat} {r : PR} (h : CHr n k p0 vb m r) : ∀ y, r = .inr y → y.1.1 2 = k + 1 := fun y hy => (h y hy).2.2.2.1
theorem r2_4 {T : Nat → Nat} {n a : Nat} {δ : DE} (ha : a ≤ n) (hW : PW δ) (h9 : δ.1 2 < 9) : ∀ y, coinC T n (δ, a) = .inr y → y.1.1 2 = δ.1 2 + 1 := by
  obtain ⟨hQ, -, h54⟩ := id hW
  exact (((CHr.i (vb := 0) ha hQ h9).pl (T := T) (kd := 1) (by decide) (by omega)).pl (T := T) (kd := 0) (by decide) (by omega)).c (a := a)
theorem r2_5 {T : Nat → Nat} {n a : Nat} {δ : DE} (ha : a ≤ n) (hW : PW δ) (h9 : δ.1 2 < 9) : ∀ y, willC T n (δ, a) = .inr y → y.1.1 2 = δ.1 2 + 1 := by
  obtain ⟨hQ, -, h54⟩ := id hW
  exact (((CHr.i (vb := 1) ha hQ h9).th (T := T)).pl (T := T) (kd := 1) (by decide) (by omega)).c (a := a)
theorem r2_6 {T : Nat → Nat} {n a : Nat} {δ : DE} (ha : a ≤ n) (hW : PW δ) (h9 : δ.1 2 < 9) : ∀ y, whenC T n (δ, a) = .inr y → y.1.1 2 = δ.1 2 + 1 := by
  obtain ⟨hQ, -, h54⟩ := id hW
  have := (((((CHr.i (vb := 2) ha hQ h9).pl (T := T) (kd := 2) (by decide) (by omega)).pl (T := T) (kd := 1) (by decide) (by omega)).th (T := T)).pl (T := T) (kd := 1) (by decide) (by omega)).pl (T := T) (kd := 0) (by decide) (by omega)
  have e : whenC T n (δ, a) = bd (bd (bd (bd (bd (.inr (addPt δ 2, a)) (placeP T n 2)) (placeP T n 1)) (thingP T n)) (placeP T n 1)) (placeP T n 0) := by
    simp only [bd_as]
    rfl
  rw [e]
  exact this.c (a := a)
section
variable {g : GE} {w : Mem} {M n a : Nat} {x : Nat → Int32} {T : Nat → Nat} {δ : DE}
/-- the estate's number -/
theorem est_r (hg : FU g) (hO : MO w M x) (h2 : x 2 = nI n) (h4 : x 4 = nI a) (h5 : x 5 = 0) (hT : TXT w (M + 1) T) (ha : a ≤ n) (hn : n ≤ 600) (hG : RG w M δ (δ.1 2) (δ.1 2)) :
    ∃ w' V w'', fX11_number g [.ref M, .int 0, .int 999] w = some (.inl (some (.int V)), w') ∧ si w' 0 (M + 3) 4 V = some w'' ∧ RY w'' M x n (estC T n (δ, a)) ∧ Fr (SR M) w w'' := by
  obtain ⟨w1, r1, o1, F1⟩ := number_sp hg hO h2 h4 h5 hT ha hn (mx := 999) (by decide)
  have r1' : fX11_number g [.ref M, .int 0, .int 999] w = some (.inl (some (.int (pvD 0 (numP T n 999 a)))), w1) := by rw [show (999 : Int32) = nI 999 from rfl, r1]; cases numP T n 999 a <;> rfl
  have G1' := hG.fr F1 (fun i h1 h2 => by omega)
  obtain ⟨⟨c3, h3, e0, e1, e2, e3, e4, e5⟩, g2, g3, g4, g5, g6, g7, g8, g9⟩ := id G1'
  have s1 := arwc h3 4 4 rfl (by decide) (by decide) (pvD 0 (numP T n 999 a))
  refine ⟨w1, _, _, r1', s1, ?_, (F1.mn (SR_M M)).tr (Fr.wi _ _ _ _ (by unfold SR rg; omega))⟩
  have hb := numP_b T n 999 a
  unfold estC
  simp only []
  cases hr : numP T n 999 a with
  | inl e =>
    rw [hr] at o1
    have hbe := hb e hr
    exact (RFt.v o1 G1'.rp (ru_n (ru_n ha)) hbe.1 hbe.2).wi (by omega)
  | inr u =>
    rw [hr] at o1
    have o1' : MO w1 M (va_up x 4 (nI u.2)) := o1
    have F2 : Fr (fun q => q = M + 3) w1 (wi w1 0 (M + 3) 4 (nI u.1)) := Fr.wi _ _ _ _ rfl
    exact ⟨F2.at o1' (by omega), ⟨_, h3.up 4 (nI u.1), e0, e1, e2, e3, rfl, e5⟩, g2.fr F2 (by omega), g3.fr F2 (by omega), g4.fr F2 (by omega), g5.fr F2 (by omega), g6.fr F2 (fun i h1 h2 => by omega), (g7.fr F2 fun i h1 h2 => by omega).cg rfl rfl (fun p hp => ⟨rfl, rfl⟩) (fun b hb => rfl), g8.fr F2 (fun i h1 h2 => by omega), g9.fr F2 (fun i h1 h2 => by omega)⟩
/-- an heir's least -/
theorem least_r (hg : FU g) (hO : MO w M x) (h2 : x 2 = nI n) (h4 : x 4 = nI a) (h5 : x 5 = 0) (hT : TXT w (M + 1) T) (ha : a ≤ n) (hn : n ≤ 600) (hG : RG w M δ (δ.1 2) (δ.1 2)) (hQ : PQ δ) :
    ∃ w1 x1 w2 x2 V1 V2, gi w 0 (M + 3) 0 = some (nI (δ.1 0)) ∧ fX11_toldName g [.ref M, .int 0, .int (nI (δ.1 0))] w = some (.inl (some (.int V1)), w1) ∧ MO w1 M x1 ∧ fX11_number g [.ref M, .int 0, .int 999] w1 = some (.inl (some (.int V2)), w2) ∧ MO w2 M x2 ∧ Fr (SR M) w w2 ∧
      ((¬ x2 5 = 0 ∧ RY w2 M x n (leastC T n (δ, a))) ∨ (x2 5 = 0 ∧ ∃ w3, si w2 0 (M + 9) V1 V2 = some w3 ∧ RY w3 M x n (leastC T n (δ, a)) ∧ Fr (SR M) w2 w3)) := by
  obtain ⟨⟨q0, q1, -⟩, -, -, -, q6, q7⟩ := id hQ
  obtain ⟨⟨c3, h3, e0, -⟩, -, -, -, ⟨cn, hL, cn1, cn2⟩, -⟩ := id hG
  have r30 := h3.rc 0 0 rfl (by decide) (by decide)
  rw [e0] at r30
  obtain ⟨w1, r1, o1, F1⟩ := toldName_sp hg hO h2 h4 h5 hT ha hn (fr := 0) (N := δ.1 0) (f := δ.2 13) hL (fun i hi => by rw [Nat.zero_add]; exact cn1 i hi) (fun i hi => (q6 i hi).2.2.2) (by omega)
  have r1' : fX11_toldName g [.ref M, .int 0, .int (nI (δ.1 0))] w = some (.inl (some (.int (pvD 0 (namP T n (δ.1 0) (δ.2 13) a)))), w1) := r1
  have G1' := hG.fr F1 (fun i h1 h2 => by omega)
  have T1 := hT.fr F1 (by omega)
  have hb := namP_b T n (δ.1 0) (δ.2 13) a
  unfold leastC
  simp only []
  cases hr : namP T n (δ.1 0) (δ.2 13) a with
  | inl e =>
    rw [hr] at o1 r1'
    have hbe := hb e hr
    have f1 := RFt.v o1 G1'.rp (ru_n ha) hbe.1 hbe.2
    have j5 : ¬ xV x (sb T n a) (.inl e) 5 = 0 := by
      show ¬ nI e.1 = 0
      exact nI_ne0 (by omega) (by omega)
    exact ⟨w1, _, w1, _, _, _, r30, r1', o1, number_no hg o1 j5 0 999, o1, F1.mn (SR_M M), Or.inl ⟨j5, f1⟩⟩
  | inr u =>
    obtain ⟨i, e⟩ := u
    rw [hr] at o1 r1'
    have hi := namP_in hr ha
    have o1' : MO w1 M (va_up x 4 (nI e)) := o1
    obtain ⟨w2, r2, o2, F2⟩ := number_sp hg o1' h2 (va_up_self _ _ _) h5 T1 hi.2.2 hn (mx := 999) (by decide)
    have r2' : fX11_number g [.ref M, .int 0, .int 999] w1 = some (.inl (some (.int (pvD 0 (numP T n 999 e)))), w2) := by rw [show (999 : Int32) = nI 999 from rfl, r2]; cases numP T n 999 e <;> rfl
    have F12 := F1.tr F2
    have G2' := hG.fr F12 (fun i h1 h2 => by omega)
    have hb2 := numP_b T n 999 e
    show ∃ w1 x1 w2 x2 V1 V2, _ ∧ _ ∧ _ ∧ _ ∧ _ ∧ _ ∧ ((_ ∧ RY _ M x n (bd (numP T n 999 e) fun q => .inr (dT δ 1 i q.1, q.2))) ∨ (_ ∧ ∃ w3, _ ∧ RY w3 M x n (bd (numP T n 999 e) fun q => .inr (dT δ 1 i q.1, q.2)) ∧ _))
    cases hr2 : numP T n 999 e with
    | inl e' =>
      rw [hr2] at o2 r2'
      have hbe := hb2 e' hr2
      have f2 := (RFt.v o2 G2'.rp (ru_n (ru_n hi.2.2)) hbe.1 hbe.2).o4
      have j5 : ¬ xV (va_up x 4 (nI e)) (ru isD T n (sb T n e)) (.inl e') 5 = 0 := by
        show ¬ nI e'.1 = 0
        exact nI_ne0 (by omega) (by omega)
      exact ⟨w1, _, w2, _, _, _, r30, r1', o1, r2', o2, F12.mn (SR_M M), Or.inl ⟨j5, f2⟩⟩
    | inr u =>
      rw [hr2] at o2 r2'
      have o2' : MO w2 M (va_up (va_up x 4 (nI e)) 4 (nI u.2)) := o2
      rw [va_up_up] at o2'
      obtain ⟨g1, g2, g3, ⟨c4, h4', k4⟩, g5, g6, g7, g8, ⟨c9, h9, k9⟩⟩ := id G2'
      have s1 := h4'.wr (j := i) (by omega) (by decide) (nI u.1)
      have F3 : Fr (fun q => q = M + 9) w2 (wi w2 0 (M + 9) i (nI u.1)) := Fr.wi _ _ _ _ rfl
      refine ⟨w1, _, w2, _, _, _, r30, r1', o1, r2', o2', F12.mn (SR_M M), Or.inr ⟨h5, _, s1, ⟨F3.at o2' (by omega), g1.fr F3 (by omega), g2.fr F3 (by omega), g3.fr F3 (by omega), ⟨_, h4'.up i (nI u.1), fun h hh => ?_⟩, g5.fr F3 (by omega), g6.fr F3 (fun i h1 h2 => by omega), (g7.fr F3 fun i h1 h2 => by omega).cg rfl rfl (fun p hp => ⟨rfl, rfl⟩) (fun b hb => rfl), g8.fr F3 (fun i h1 h2 => by omega), ⟨c9, h9.fr F3 (fun i hi => by omega), fun b hb i hi => by rw [k9 b hb i hi]; simp only [dT_2, m20_1, if_false]⟩⟩, F3.mn fun a h => by unfold SR rg; omega⟩⟩
      show va_up c4 i (nI u.1) h = nI ((dT δ 1 i u.1).2 1 h)
      rw [dT_2]
      by_cases z : h = i
      · subst z
        rw [va_up_self]
        simp
      · rw [va_ne z]
        simp only [z, if_true, if_false]
        exact k4 h hh
/-- from the kind of a clause to the end of its body -/
theorem cl_b (hg : FU g) {q vb : Nat} (hO : MO w M x) (h2 : x 2 = nI n) (h4 : x 4 = nI a) (h5 : x 5 = 0) (h7 : x 7 = nI q) (hT : TXT w (M + 1) T) (ha : a ≤ n) (hs : sb T n a = a) (hn : n ≤ 600) (hG : RG w M δ (δ.1 2) (δ.1 2)) (hW : PW δ) (hq : q < 40) (hv : vb < 7) (hf : ¬ fullP δ vb = true) (hk : vbP (wdL T a (le9 T n a - a)) = some vb) :
    ∃ f w', fX11_clause g [.ref M] w = jX11_clause g (f + 2) 4 [] [some (.ref M), none, none, none] w' ∧ RY w' M (va_up x 7 (nI (q + 1))) n (bodyP T n vb (δ, le9 T n a)) ∧ Fr (SR M) w w' := by
  have hQ := hW.1
  have r0 := kindHere_sp hg hO h2 h4 h5 hT ha hn hs
  rw [hk] at r0
  have r0' : fX11_kindHere g [.ref M] w = some (.inl (some (.int (nI vb))), w) := r0
  have r1 := isFullR_sp hg hO hG.1 rfl hQ hv
  rw [if_neg hf] at r1
  have r2 := lettersHere_at hg hO h2 h4 hT ha hn hs
  have k3 : a ≤ le9 T n a := ru_le ha
  have k4 : le9 T n a ≤ n := ru_n ha
  have ea : nI a + nI (le9 T n a - a) = nI (le9 T n a) := by rw [nI_add, show a + (le9 T n a - a) = le9 T n a by omega]
  have nq : ¬ nI q = 40 := mt (nI_eq (b := 40) (by omega) (by decide)).mp (by omega)
  have nv : ¬ nI vb = -1 := nI_nn (by omega)
  clear r0 hk hs
  simp only [fullP, decide_eq_true_eq] at hf
  generalize nI (le9 T n a - a) = LN at *
  generalize le9 T n a = b at *
  have st := st_4 hO (nI b)
  obtain ⟨w1, hw1⟩ : ∃ z, mset w M (.inr (10, mo M (va_up x 4 (nI b)))) = z := ⟨_, rfl⟩
  rw [hw1] at st
  have o1 : MO w1 M (va_up x 4 (nI b)) := hw1 ▸ ms_at _ _ _
  have F1 : Fr (fun q => q = M) w w1 := hw1 ▸ Fr.ms _ _ rfl
  have j7 : va_up x 4 (nI b) 7 = nI q := h7
  have st7 := st_7 o1 (nI (q + 1))
  obtain ⟨w2, hw2⟩ : ∃ z, mset w1 M (.inr (10, mo M (va_up (va_up x 4 (nI b)) 7 (nI (q + 1))))) = z := ⟨_, rfl⟩
  rw [hw2] at st7
  have o2 : MO w2 M (va_up (va_up x 4 (nI b)) 7 (nI (q + 1))) := hw2 ▸ ms_at _ _ _
  have F2 : Fr (fun q => q = M) w1 w2 := hw2 ▸ Fr.ms _ _ rfl
  rw [va_sw x _ _ (by decide)] at o2
  have F12 := F1.tr F2
  have T2 := hT.fr F12 (by omega)
  have G2' := hG.fr F12 (fun i h1 h2 => by omega)
  have b2 : va_up (va_up x 7 (nI (q + 1))) 4 (nI b) 2 = nI n := h2
  have b4 : va_up (va_up x 7 (nI (q + 1))) 4 (nI b) 4 = nI b := va_up_self _ _ _
  have b5 : va_up (va_up x 7 (nI (q + 1))) 4 (nI b) 5 = 0 := h5
  obtain ⟨N, hN⟩ : ∃ N, g.1 = (N + 2) + 3 := ⟨g.1 - 5, by omega⟩
  have hs0 : vb = 0 ∨ vb = 1 ∨ vb = 2 ∨ vb = 3 ∨ vb = 4 ∨ vb = 5 ∨ vb = 6 := by omega
  obtain ⟨X2, hX2⟩ : ∃ z, va_up (va_up x 7 (nI (q + 1))) 4 (nI b) = z := ⟨_, rfl⟩
  rw [hX2] at o2 b2 b4 b5
  have y4 : ∀ {w' r}, RY w' M X2 n r → RY w' M (va_up x 7 (nI (q + 1))) n r := fun h => RY.o4 (hX2 ▸ h)
  rcases hs0 with z | z | z | z | z | z | z
  · subst z
    rw [show nI 0 = 0 from rfl] at r0' r1 nv
    obtain ⟨w3, p1, p2, p3⟩ := names0_sp hg o2 b2 b4 b5 T2 k4 hn G2' hQ (by omega)
    refine ⟨N + 1, w3, ?_, y4 (p2.y r2_0), (F12.mn (SR_M M)).tr p3⟩
    clear p2 y4 hX2
    rw [show N + 1 + 2 = N + 2 + 1 from rfl]
    rw [show N + 2 + 3 = N + 2 + 1 + 2 from rfl] at hN
    generalize N + 2 + 1 = NN at *
    simp [fX11_clause, kX11_clause, ent, entp, jX11_clause, bX11_clause_0, bX11_clause_1, bX11_clause_2, bX11_clause_3, bX11_clause_4, bX11_clause_5, i_aload, i_dup, i_getf, i_iadd, i_iaload, i_iastore, i_iceq, i_icge, i_icne, i_ifeq, i_ifne, i_iload, i_istore, i_isub, i_jmp, i_push, i_putf, i_return, msk, lset1, lset2, clr, Value.category, Option.toList, List.cons_append, List.nil_append, List.length_cons, List.length_nil, hN, cvk_0 hO r0', gf_eq hO, gf_eq o1, mg_7, mg_5, mg_4, h7, nq, nv, cvk_1 hO r1, h5, h4, cvk_0 hO r2, ea, st, j7, nI_1, st7, cvk_1 o2 p1]
  · subst z
    rw [show nI 1 = 1 from rfl] at r0' r1 nv
    obtain ⟨w3, p1, p2, p3⟩ := names1_sp hg o2 b2 b4 b5 T2 k4 hn G2' hQ (by omega)
    refine ⟨N + 1, w3, ?_, y4 (p2.y r2_1), (F12.mn (SR_M M)).tr p3⟩
    clear p2 y4 hX2
    rw [show N + 1 + 2 = N + 2 + 1 from rfl]
    rw [show N + 2 + 3 = N + 2 + 1 + 2 from rfl] at hN
    generalize N + 2 + 1 = NN at *
    simp [fX11_clause, kX11_clause, ent, entp, jX11_clause, bX11_clause_0, bX11_clause_1, bX11_clause_2, bX11_clause_3, bX11_clause_4, bX11_clause_5, i_aload, i_dup, i_getf, i_iadd, i_iaload, i_iastore, i_iceq, i_icge, i_icne, i_ifeq, i_ifne, i_iload, i_istore, i_isub, i_jmp, i_push, i_putf, i_return, msk, lset1, lset2, clr, Value.category, Option.toList, List.cons_append, List.nil_append, List.length_cons, List.length_nil, hN, cvk_0 hO r0', gf_eq hO, gf_eq o1, mg_7, mg_5, mg_4, h7, nq, nv, cvk_1 hO r1, h5, h4, cvk_0 hO r2, ea, st, j7, nI_1, st7, cvk_1 o2 p1]
  · subst z
    rw [show nI 2 = 2 from rfl] at r0' r1 nv
    obtain ⟨w3, V, w4, p1, p2, p3, p4⟩ := est_r hg o2 b2 b4 b5 T2 k4 hn G2'
    refine ⟨N + 1, w4, ?_, y4 p3, (F12.mn (SR_M M)).tr p4⟩
    clear p3 y4 hX2
    rw [show N + 1 + 2 = N + 2 + 1 from rfl]
    rw [show N + 2 + 3 = N + 2 + 1 + 2 from rfl] at hN
    generalize N + 2 + 1 = NN at *
    simp [fX11_clause, kX11_clause, ent, entp, jX11_clause, bX11_clause_0, bX11_clause_1, bX11_clause_2, bX11_clause_3, bX11_clause_4, bX11_clause_5, i_aload, i_dup, i_getf, i_iadd, i_iaload, i_iastore, i_iceq, i_icge, i_icne, i_ifeq, i_ifne, i_iload, i_istore, i_isub, i_jmp, i_push, i_putf, i_return, msk, lset1, lset2, clr, Value.category, Option.toList, List.cons_append, List.nil_append, List.length_cons, List.length_nil, hN, cvk_0 hO r0', gf_eq hO, gf_eq o1, mg_7, mg_5, mg_4, h7, nq, nv, cvk_1 hO r1, h5, h4, cvk_0 hO r2, ea, st, j7, nI_1, st7, gf_eq o2, mg_10, cvk_2 o2 p1, p2]
  · subst z
    rw [show nI 3 = 3 from rfl] at r0' r1 nv
    obtain ⟨w3, x3, w4, x4, V1, V2, p1, p2, p3, p4, p5, p6, p7⟩ := least_r hg o2 b2 b4 b5 T2 k4 hn G2' hQ
    rcases p7 with ⟨u1, u2⟩ | ⟨u1, w5, u2, u3, u4⟩
    · refine ⟨N, w4, ?_, y4 u2, (F12.mn (SR_M M)).tr p6⟩
      clear u2 y4 hX2
      generalize N + 2 = NN at *
      simp [fX11_clause, kX11_clause, ent, entp, jX11_clause, bX11_clause_0, bX11_clause_1, bX11_clause_2, bX11_clause_3, bX11_clause_4, bX11_clause_5, i_aload, i_dup, i_getf, i_iadd, i_iaload, i_iastore, i_iceq, i_icge, i_icne, i_ifeq, i_ifne, i_iload, i_istore, i_isub, i_jmp, i_push, i_putf, i_return, msk, lset1, lset2, clr, Value.category, Option.toList, List.cons_append, List.nil_append, List.length_cons, List.length_nil, hN, cvk_0 hO r0', gf_eq hO, gf_eq o1, mg_7, mg_5, mg_4, h7, nq, nv, cvk_1 hO r1, h5, h4, cvk_0 hO r2, ea, st, j7, nI_1, st7, gf_eq o2, mg_10, p1, cvk_2 o2 p2, cvk_2 p3 p4, gf_eq p5, u1]
    · refine ⟨N, w5, ?_, y4 u3, ((F12.mn (SR_M M)).tr p6).tr u4⟩
      clear u3 y4 hX2
      generalize N + 2 = NN at *
      simp [fX11_clause, kX11_clause, ent, entp, jX11_clause, bX11_clause_0, bX11_clause_1, bX11_clause_2, bX11_clause_3, bX11_clause_4, bX11_clause_5, i_aload, i_dup, i_getf, i_iadd, i_iaload, i_iastore, i_iceq, i_icge, i_icne, i_ifeq, i_ifne, i_iload, i_istore, i_isub, i_jmp, i_push, i_putf, i_return, msk, lset1, lset2, clr, Value.category, Option.toList, List.cons_append, List.nil_append, List.length_cons, List.length_nil, hN, cvk_0 hO r0', gf_eq hO, gf_eq o1, mg_7, mg_5, mg_4, h7, nq, nv, cvk_1 hO r1, h5, h4, cvk_0 hO r2, ea, st, j7, nI_1, st7, gf_eq o2, mg_10, mg_16, p1, cvk_2 o2 p2, cvk_2 p3 p4, gf_eq p5, u1, u2]
  · subst z
    rw [show nI 4 = 4 from rfl] at r0' r1 nv
    obtain ⟨w3, p1, p2, p3⟩ := reads0_sp hg o2 b2 b4 b5 T2 k4 hn G2' hW (by omega)
    refine ⟨N + 1, w3, ?_, y4 (p2.y (r2_4 k4 hW (by omega))), (F12.mn (SR_M M)).tr p3⟩
    clear p2 y4 hX2
    rw [show N + 1 + 2 = N + 2 + 1 from rfl]
    rw [show N + 2 + 3 = N + 2 + 1 + 2 from rfl] at hN
    generalize N + 2 + 1 = NN at *
    simp [fX11_clause, kX11_clause, ent, entp, jX11_clause, bX11_clause_0, bX11_clause_1, bX11_clause_2, bX11_clause_3, bX11_clause_4, bX11_clause_5, i_aload, i_dup, i_getf, i_iadd, i_iaload, i_iastore, i_iceq, i_icge, i_icne, i_ifeq, i_ifne, i_iload, i_istore, i_isub, i_jmp, i_push, i_putf, i_return, msk, lset1, lset2, clr, Value.category, Option.toList, List.cons_append, List.nil_append, List.length_cons, List.length_nil, hN, cvk_0 hO r0', gf_eq hO, gf_eq o1, mg_7, mg_5, mg_4, h7, nq, nv, cvk_1 hO r1, h5, h4, cvk_0 hO r2, ea, st, j7, nI_1, st7, cvk_1 o2 p1]
  · subst z
    rw [show nI 5 = 5 from rfl] at r0' r1 nv
    obtain ⟨w3, p1, p2, p3⟩ := reads1_sp hg o2 b2 b4 b5 T2 k4 hn G2' hW (by omega)
    refine ⟨N + 1, w3, ?_, y4 (p2.y (r2_5 k4 hW (by omega))), (F12.mn (SR_M M)).tr p3⟩
    clear p2 y4 hX2
    rw [show N + 1 + 2 = N + 2 + 1 from rfl]
    rw [show N + 2 + 3 = N + 2 + 1 + 2 from rfl] at hN
    generalize N + 2 + 1 = NN at *
    simp [fX11_clause, kX11_clause, ent, entp, jX11_clause, bX11_clause_0, bX11_clause_1, bX11_clause_2, bX11_clause_3, bX11_clause_4, bX11_clause_5, i_aload, i_dup, i_getf, i_iadd, i_iaload, i_iastore, i_iceq, i_icge, i_icne, i_ifeq, i_ifne, i_iload, i_istore, i_isub, i_jmp, i_push, i_putf, i_return, msk, lset1, lset2, clr, Value.category, Option.toList, List.cons_append, List.nil_append, List.length_cons, List.length_nil, hN, cvk_0 hO r0', gf_eq hO, gf_eq o1, mg_7, mg_5, mg_4, h7, nq, nv, cvk_1 hO r1, h5, h4, cvk_0 hO r2, ea, st, j7, nI_1, st7, cvk_1 o2 p1]
  · subst z
    rw [show nI 6 = 6 from rfl] at r0' r1 nv
    obtain ⟨w3, p1, p2, p3⟩ := reads2_sp hg o2 b2 b4 b5 T2 k4 hn G2' hW (by omega)
    refine ⟨N + 1, w3, ?_, y4 (p2.y (r2_6 k4 hW (by omega))), (F12.mn (SR_M M)).tr p3⟩
    clear p2 y4 hX2
    rw [show N + 1 + 2 = N + 2 + 1 from rfl]
    rw [show N + 2 + 3 = N + 2 + 1 + 2 from rfl] at hN
    generalize N + 2 + 1 = NN at *
    simp [fX11_clause, kX11_clause, ent, entp, jX11_clause, bX11_clause_0, bX11_clause_1, bX11_clause_2, bX11_clause_3, bX11_clause_4, bX11_clause_5, i_aload, i_dup, i_getf, i_iadd, i_iaload, i_iastore, i_iceq, i_icge, i_icne, i_ifeq, i_ifne, i_iload, i_istore, i_isub, i_jmp, i_push, i_putf, i_return, msk, lset1, lset2, clr, Value.category, Option.toList, List.cons_append, List.nil_append, List.length_cons, List.length_nil, hN, cvk_0 hO r0', gf_eq hO, gf_eq o1, mg_7, mg_5, mg_4, h7, nq, nv, cvk_1 hO r1, h5, h4, cvk_0 hO r2, ea, st, j7, nI_1, st7, cvk_1 o2 p1]
theorem clauseR_sp (hg : FU g) {q : Nat} (hO : MO w M x) (h2 : x 2 = nI n) (h4 : x 4 = nI a) (h5 : x 5 = 0) (h7 : x 7 = nI q) (hT : TXT w (M + 1) T) (ha : a ≤ n) (hs : sb T n a = a) (hn : n ≤ 600) (hG : RG w M δ (δ.1 2) (δ.1 2)) (hW : PW δ) (hq : q ≤ 40) :
    ∃ w', fX11_clause g [.ref M] w = some (.inl none, w') ∧ RY w' M (va_up x 7 (nI (q + 1))) n (clauseP T n q (δ, a)) ∧ Fr (SR M) w w' := by
  have hQ := hW.1
  rw [clause_vr]
  unfold vrP
  cases hk : vbP (wdL T a (le9 T n a - a)) with
  | none =>
    have r0 := kindHere_sp hg hO h2 h4 h5 hT ha hn hs
    rw [hk] at r0
    have r0' : fX11_kindHere g [.ref M] w = some (.inl (some (.int (-1))), w) := r0
    obtain ⟨w1, p1, p2, p3⟩ := wrong_sp hg hO h5 1 (nI a)
    have j5 : ¬ va_up (va_up x 5 1) 6 (nI a) 5 = 0 := by show ¬ (1 : Int32) = 0; decide
    obtain ⟨N, hN⟩ : ∃ N, g.1 = N + 3 := ⟨g.1 - 3, by omega⟩
    refine ⟨w1, ?_, (RFt.w (k := 1) p2 (hG.fr p3 fun i h1 h2 => by omega).rp ha h4 (by decide) (by decide)).o7, p3.mn (SR_M M)⟩
    clear r0
    simp [fX11_clause, kX11_clause, ent, entp, jX11_clause, bX11_clause_0, bX11_clause_1, bX11_clause_2, bX11_clause_3, bX11_clause_4, bX11_clause_5, i_aload, i_dup, i_getf, i_iadd, i_iaload, i_iastore, i_iceq, i_icge, i_icne, i_ifeq, i_ifne, i_iload, i_istore, i_isub, i_jmp, i_push, i_putf, i_return, msk, lset1, lset2, clr, Value.category, Option.toList, List.cons_append, List.nil_append, List.length_cons, List.length_nil, hN, cvk_0 hO r0', gf_eq hO, mg_4, mg_5, h4, cvk_2 hO p1, gf_eq p2, j5]
  | some vb =>
    have hv : vb < 7 := vbS_lt hk
    simp only []
    by_cases y : 40 ≤ q ∨ fullP δ vb = true
    · rw [if_pos y]
      have r0 := kindHere_sp hg hO h2 h4 h5 hT ha hn hs
      rw [hk] at r0
      have r0' : fX11_kindHere g [.ref M] w = some (.inl (some (.int (nI vb))), w) := r0
      have r1 := isFullR_sp hg hO hG.1 rfl hQ hv
      have nv : ¬ nI vb = -1 := nI_nn (by omega)
      obtain ⟨w1, p1, p2, p3⟩ := wrong_sp hg hO h5 3 (nI a)
      have j5 : ¬ va_up (va_up x 5 3) 6 (nI a) 5 = 0 := by show ¬ (3 : Int32) = 0; decide
      obtain ⟨N, hN⟩ : ∃ N, g.1 = N + 3 := ⟨g.1 - 3, by omega⟩
      refine ⟨w1, ?_, (RFt.w (k := 3) p2 (hG.fr p3 fun i h1 h2 => by omega).rp ha h4 (by decide) (by decide)).o7, p3.mn (SR_M M)⟩
      clear r0
      by_cases u : q = 40
      · have nq : nI q = 40 := by rw [u]; rfl
        simp [fX11_clause, kX11_clause, ent, entp, jX11_clause, bX11_clause_0, bX11_clause_1, bX11_clause_2, bX11_clause_3, bX11_clause_4, bX11_clause_5, i_aload, i_dup, i_getf, i_iadd, i_iaload, i_iastore, i_iceq, i_icge, i_icne, i_ifeq, i_ifne, i_iload, i_istore, i_isub, i_jmp, i_push, i_putf, i_return, msk, lset1, lset2, clr, Value.category, Option.toList, List.cons_append, List.nil_append, List.length_cons, List.length_nil, hN, cvk_0 hO r0', nv, gf_eq hO, mg_4, mg_5, mg_7, h7, nq, h4, cvk_2 hO p1, gf_eq p2, j5]
      · have nq : ¬ nI q = 40 := mt (nI_eq (b := 40) (by omega) (by decide)).mp u
        rw [if_pos (by rcases y with y | y; omega; exact y)] at r1
        simp [fX11_clause, kX11_clause, ent, entp, jX11_clause, bX11_clause_0, bX11_clause_1, bX11_clause_2, bX11_clause_3, bX11_clause_4, bX11_clause_5, i_aload, i_dup, i_getf, i_iadd, i_iaload, i_iastore, i_iceq, i_icge, i_icne, i_ifeq, i_ifne, i_iload, i_istore, i_isub, i_jmp, i_push, i_putf, i_return, msk, lset1, lset2, clr, Value.category, Option.toList, List.cons_append, List.nil_append, List.length_cons, List.length_nil, hN, cvk_0 hO r0', nv, gf_eq hO, mg_4, mg_5, mg_7, h7, nq, cvk_1 hO r1, h4, cvk_2 hO p1, gf_eq p2, j5]
    · rw [if_neg y]
      obtain ⟨f, w1, E1, Y1, F1⟩ := cl_b hg hO h2 h4 h5 h7 hT ha hs hn hG hW (by omega) hv (fun h => y (Or.inr h)) hk
      rw [E1]
      obtain ⟨w2, t1, t2, t3⟩ := cl_4 (g := g) hg Y1 h2 h5 (hT.fr F1 (by unfold SR rg; omega)) hn (fun u hu => by
        obtain ⟨u1, u2⟩ := u
        exact (bodyP_ok hu (ru_n ha) hW (fun h => y (Or.inr h))).2.2) f
      exact ⟨w2, t1, t2, F1.tr t3⟩
end
