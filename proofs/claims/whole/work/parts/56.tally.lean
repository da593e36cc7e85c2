/-! ===== tallies: alive, holding, cleaned, settles ===== -/
def tlK (δ : DE) (P : Nat → Bool) (b d n : Nat) : Nat := cntF (fun i => P i && dgR δ i b == d) n
def mxF (f : Nat → Nat) : Nat → Nat
  | 0 => 0
  | n + 1 => if mxF f n < f n then f n else mxF f n
theorem mxF_le {f : Nat → Nat} {B : Nat} (h : ∀ d, f d ≤ B) : ∀ n, mxF f n ≤ B
  | 0 => Nat.zero_le _
  | n + 1 => by
    unfold mxF
    split
    · exact h n
    · exact mxF_le h n
def mlK (δ : DE) (P : Nat → Bool) (b : Nat) : Nat := mxF (fun d => tlK δ P b d (nR δ)) 100
theorem tlK_le (δ : DE) (P : Nat → Bool) (b d n : Nat) : tlK δ P b d n ≤ n := cntF_le _ _
theorem mlK_le {δ : DE} (hd : WF δ) (P : Nat → Bool) (b : Nat) : mlK δ P b ≤ 20000 := Nat.le_trans (mxF_le (fun d => tlK_le δ P b d (nR δ)) 100) (nR_le hd)
theorem tlK_s {δ : DE} {P : Nat → Bool} {b k : Nat} (h : P k = true) (d : Nat) : (va_up (fun d => nI (tlK δ P b d k)) (dgR δ k b) (nI (tlK δ P b (dgR δ k b) k + 1))) d = nI (tlK δ P b d (k + 1)) := by
  unfold va_up
  by_cases z : d = dgR δ k b
  · subst z
    simp [tlK, cntF, h]
  · have z' : ¬ dgR δ k b = d := fun q => z q.symm
    simp [tlK, cntF, z, z']
theorem tlK_n {δ : DE} {P : Nat → Bool} {b k : Nat} (h : P k = false) (d : Nat) : tlK δ P b d (k + 1) = tlK δ P b d k := by
  simp [tlK, cntF, h]
theorem cz_y {x y : Int64} (h : x = y) : lg_cmp x y = 0 := (lg_cmp_eq x y).mpr h
theorem cz_n {x y : Int64} (h : ¬ x = y) : ¬ lg_cmp x y = 0 := mt (lg_cmp_eq x y).mp h
theorem GT.nk {g : GE} {w : Mem} {tb E D n aM aS aG n1 lev : Nat} {δ : DE} (h : GT g w tb E D δ n aM aS aG n1 lev) {k : Nat} (h1 : 3 ≤ k) (h2 : k < 14) : aM ≠ tb + k ∧ aS ≠ tb + k := by
  obtain ⟨fM, fS, hT, hM, hS, ⟨t1, t2, t3, t4, t5, t6, t7, t8, t9, t10, t11⟩, -⟩ := h
  constructor <;> omega
theorem GT.mk {g : GE} {w : Mem} {tb E D aM aS aG n1 lev : Nat} {δ : DE} (h : GT g w tb E D δ (δ.1 6) aM aS aG n1 lev) {i : Nat} (hi : i < nR δ) : gl w aM (nI i) = some (lN (mkN (δ.1 3) (dgR δ i))) := by
  obtain ⟨fM, fS, hT, hM, hS, hl, hn1, hf⟩ := h.rd
  rw [hM.rd (j := i) (by omega) (by omega), (hf i hi).1]
/-- what the tally's cell is apart from -/
theorem GT.tl {g : GE} {w w' : Mem} {tb E D aM aS aG n1 lev : Nat} {δ : DE} (h : GT g w tb E D δ (δ.1 6) aM aS aG n1 lev) (k : Fr (fun a => a = tb + 10) w w') : GT g w' tb E D δ (δ.1 6) aM aS aG n1 lev :=
  h.fr k (by omega) (h.nk (by decide) (by decide)).1 (h.nk (by decide) (by decide)).2 (by omega)
theorem tallyUp_sp {g : GE} (hg : FU g) {w : Mem} {tb E D aM aS aG n1 lev : Nat} {δ : DE} (hd : WF δ) (hG : GT g w tb E D δ (δ.1 6) aM aS aG n1 lev) {c : Nat → Int32} (hT0 : IA w (tb + 10) 100 c) {b : Nat} (hb : b < δ.1 3) {mk sh : Int64} {P : Nat → Bool} (hP : ∀ i, i < nR δ → ((lN (mkN (δ.1 3) (dgR δ i)) &&& mk = sh) ↔ P i = true)) :
    ∃ w', fX7_tallyUp g [.ref tb, .int (nI b), .long mk, .long sh] w = some (.inl none, w') ∧ IA w' (tb + 10) 100 (fun d => nI (tlK δ P b d (nR δ))) ∧ Fr (fun a => a = tb + 10) w w' := by
  have hn := nR_le hd
  have hT := hG.tb
  obtain ⟨w1, q1, q2, q3⟩ := fill_sp hg hT0 (by decide) 0
  obtain ⟨N, hN⟩ : ∃ N, g.1 = N + 1 := ⟨g.1 - 1, by omega⟩
  have L := lpR (fun f (s : Lv × Mem) => jX7_tallyUp g f 1 [] s.1 s.2) (fun k s => s.1 = [some (.ref tb), some (.int (nI b)), some (.long mk), none, some (.long sh), none, some (.int (nI k))] ∧ IA s.2 (tb + 10) 100 (fun d => nI (tlK δ P b d k)) ∧ Fr (fun a => a = tb + 10) w s.2)
    (fun z => ∃ w', z = some (.inl none, w') ∧ IA w' (tb + 10) 100 (fun d => nI (tlK δ P b d (nR δ))) ∧ Fr (fun a => a = tb + 10) w w') 2 1 (nR δ)
    (fun k s hk hI f => by
      obtain ⟨e1, e2, e3⟩ := hI
      have hGs := hG.tl e3
      have hTs := hGs.tb
      have o1 := tdigit_sp hd hGs hk hb
      have m1 := hGs.mk hk
      have p1 := hP k hk
      have ld := dgR_100 hd k hb
      generalize lN (mkN (δ.1 3) (dgR δ k)) = X at m1 p1
      cases hp : P k with
      | true =>
        have c1 := cz_y (p1.mpr hp)
        refine Or.inr ⟨f, ([some (.ref tb), some (.int (nI b)), some (.long mk), none, some (.long sh), none, some (.int (nI (k + 1)))], wi s.2 0 (tb + 10) (dgR δ k b) (nI (tlK δ P b (dgR δ k b) k + 1))), Nat.le_refl _, ⟨rfl, (e2.up _ _).cg fun i hi => tlK_s hp i, e3.tr (Fr.wi _ _ _ _ rfl)⟩, ?_⟩
        simp [jX7_tallyUp, bX7_tallyUp_0, bX7_tallyUp_1, bX7_tallyUp_2, i_aload, i_dup2, i_getf, i_iadd, i_iaload, i_iastore, i_icge, i_ifne, i_iinc, i_iload, i_istore, i_jmp, i_laload, i_land, i_lcmp, i_lload, i_push, i_return, msk, lset1, lset2, clr, Value.category, Option.toList, List.cons_append, List.nil_append, List.length_cons, List.length_nil, e1, gf_eq hTs, nI_ge hk (by omega), m1, c1, cvk_2 hTs o1, e2.rd ld (by decide), nI_1, e2.wr ld (by decide)]
      | false =>
        have c1 := cz_n (mt p1.mp (by rw [hp]; exact Bool.false_ne_true))
        refine Or.inr ⟨f, ([some (.ref tb), some (.int (nI b)), some (.long mk), none, some (.long sh), none, some (.int (nI (k + 1)))], s.2), Nat.le_refl _, ⟨rfl, e2.cg fun i hi => by rw [tlK_n hp], e3⟩, ?_⟩
        simp [jX7_tallyUp, bX7_tallyUp_0, bX7_tallyUp_1, bX7_tallyUp_2, i_aload, i_dup2, i_getf, i_iadd, i_iaload, i_iastore, i_icge, i_ifne, i_iinc, i_iload, i_istore, i_jmp, i_laload, i_land, i_lcmp, i_lload, i_push, i_return, msk, lset1, lset2, clr, Value.category, Option.toList, List.cons_append, List.nil_append, List.length_cons, List.length_nil, e1, gf_eq hTs, nI_ge hk (by omega), m1, c1, nI_1])
    (fun s hI f => by
      obtain ⟨e1, e2, e3⟩ := hI
      have hTs := (hG.tl e3).tb
      refine ⟨s.2, ?_, e2, e3⟩
      simp [jX7_tallyUp, bX7_tallyUp_0, bX7_tallyUp_1, bX7_tallyUp_2, i_aload, i_dup2, i_getf, i_iadd, i_iaload, i_iastore, i_icge, i_ifne, i_iinc, i_iload, i_istore, i_jmp, i_laload, i_land, i_lcmp, i_lload, i_push, i_return, msk, lset1, lset2, clr, Value.category, Option.toList, List.cons_append, List.nil_append, List.length_cons, List.length_nil, e1, gf_eq hTs])
  have L1 := L (nR δ) 0 ([some (.ref tb), some (.int (nI b)), some (.long mk), none, some (.long sh), none, some (.int (nI 0))], w1) (by omega) ⟨rfl, q2.cg fun i hi => by simp [tlK, cntF, nI_0], q3⟩ N (by omega)
  simp only [nI_0] at L1
  have e : fX7_tallyUp g [.ref tb, .int (nI b), .long mk, .long sh] w = jX7_tallyUp g N 1 [] [some (.ref tb), some (.int (nI b)), some (.long mk), none, some (.long sh), none, some (.int 0)] w1 := by
    simp [fX7_tallyUp, kX7_tallyUp, ent, entp, jX7_tallyUp, bX7_tallyUp_0, bX7_tallyUp_1, bX7_tallyUp_2, i_aload, i_dup2, i_getf, i_iadd, i_iaload, i_iastore, i_icge, i_ifne, i_iinc, i_iload, i_istore, i_jmp, i_laload, i_land, i_lcmp, i_lload, i_push, i_return, msk, lset1, lset2, clr, Value.category, Option.toList, List.cons_append, List.nil_append, List.length_cons, List.length_nil, hN, gf_eq hT, csk_2 q1]
  rw [e]
  exact L1
def alK (δ : DE) (b : Nat) : Nat := cntF (fun d => decide (0 < tlK δ tru b d (nR δ))) 100
theorem m00 (x : Int64) : (x &&& 0 = 0) ↔ tru 0 = true := by simp
theorem aliveUnder_sp {g : GE} (hg : FU g) {w : Mem} {tb E D aM aS aG n1 lev : Nat} {δ : DE} (hd : WF δ) (hG : GT g w tb E D δ (δ.1 6) aM aS aG n1 lev) {c : Nat → Int32} (hT0 : IA w (tb + 10) 100 c) {b : Nat} (hb : b < δ.1 3) :
    ∃ w' c', fX7_aliveUnder g [.ref tb, .int (nI b)] w = some (.inl (some (.int (nI (alK δ b)))), w') ∧ IA w' (tb + 10) 100 c' ∧ Fr (fun a => a = tb + 10) w w' := by
  have hn := nR_le hd
  have hT := hG.tb
  obtain ⟨w1, q1, q2, q3⟩ := tallyUp_sp hg hd hG hT0 hb (mk := 0) (sh := 0) (P := tru) (fun i _ => m00 _)
  have hT1 := (hG.tl q3).tb
  obtain ⟨N, hN⟩ : ∃ N, g.1 = N + 1 := ⟨g.1 - 1, by omega⟩
  have L := lpF (fun f (s : Lv × Mem) => jX7_aliveUnder g f 1 [] s.1 s.2) (fun k => ([some (.ref tb), none, some (.int (nI (cntF (fun d => decide (0 < tlK δ tru b d (nR δ))) k))), some (.int (nI k))], w1)) (some (.inl (some (.int (nI (alK δ b)))), w1)) 2 1 100
    (fun k hk f => by
      refine ⟨f, Nat.le_refl _, ?_⟩
      have l1 := tlK_le δ tru b k (nR δ)
      have ek : ¬ (100 : Int32) ≤ nI k := nI_ge hk (by decide)
      by_cases z : 0 < tlK δ tru b k (nR δ)
      · have z1 := nI_nle z (by omega)
        simp [jX7_aliveUnder, bX7_aliveUnder_0, bX7_aliveUnder_1, bX7_aliveUnder_2, i_aload, i_getf, i_iaload, i_icge, i_ifle, i_iinc, i_iload, i_ireturn, i_istore, i_jmp, i_push, msk, lset1, lset2, clr, Value.category, Option.toList, List.cons_append, List.nil_append, List.length_cons, List.length_nil, ek, gf_eq hT1, q2.rd hk (by decide), z1, nI_1, cntF, z]
      · have z1 : nI (tlK δ tru b k (nR δ)) ≤ 0 := by rw [show tlK δ tru b k (nR δ) = 0 by omega]; decide
        simp [jX7_aliveUnder, bX7_aliveUnder_0, bX7_aliveUnder_1, bX7_aliveUnder_2, i_aload, i_getf, i_iaload, i_icge, i_ifle, i_iinc, i_iload, i_ireturn, i_istore, i_jmp, i_push, msk, lset1, lset2, clr, Value.category, Option.toList, List.cons_append, List.nil_append, List.length_cons, List.length_nil, ek, gf_eq hT1, q2.rd hk (by decide), z1, nI_1, cntF, z])
    (fun f => by
      simp [jX7_aliveUnder, bX7_aliveUnder_0, bX7_aliveUnder_1, bX7_aliveUnder_2, i_aload, i_getf, i_iaload, i_icge, i_ifle, i_iinc, i_iload, i_ireturn, i_istore, i_jmp, i_push, msk, lset1, lset2, clr, Value.category, Option.toList, List.cons_append, List.nil_append, List.length_cons, List.length_nil, (show (100 : Int32) ≤ nI 100 from by decide), alK])
  refine ⟨w1, _, ?_, q2, q3⟩
  rw [← L N (by omega)]
  simp [fX7_aliveUnder, kX7_aliveUnder, ent, entp, jX7_aliveUnder, bX7_aliveUnder_0, bX7_aliveUnder_1, bX7_aliveUnder_2, i_aload, i_getf, i_iaload, i_icge, i_ifle, i_iinc, i_iload, i_ireturn, i_istore, i_jmp, i_push, msk, lset1, lset2, clr, Value.category, Option.toList, List.cons_append, List.nil_append, List.length_cons, List.length_nil, hN, cvk_3 hT q1, nI_0, cntF]
theorem mostLeft_sp {g : GE} (hg : FU g) {w : Mem} {tb E D aM aS aG n1 lev : Nat} {δ : DE} (hd : WF δ) (hG : GT g w tb E D δ (δ.1 6) aM aS aG n1 lev) {c : Nat → Int32} (hT0 : IA w (tb + 10) 100 c) {b : Nat} (hb : b < δ.1 3) {mk sh : Int64} {P : Nat → Bool} (hP : ∀ i, i < nR δ → ((lN (mkN (δ.1 3) (dgR δ i)) &&& mk = sh) ↔ P i = true)) :
    ∃ w' c', fX7_mostLeft g [.ref tb, .int (nI b), .long mk, .long sh] w = some (.inl (some (.int (nI (mlK δ P b)))), w') ∧ IA w' (tb + 10) 100 c' ∧ Fr (fun a => a = tb + 10) w w' := by
  have hn := nR_le hd
  have hT := hG.tb
  obtain ⟨w1, q1, q2, q3⟩ := tallyUp_sp hg hd hG hT0 hb hP
  have hT1 := (hG.tl q3).tb
  obtain ⟨N, hN⟩ : ∃ N, g.1 = N + 1 := ⟨g.1 - 1, by omega⟩
  have L := lpF (fun f (s : Lv × Mem) => jX7_mostLeft g f 1 [] s.1 s.2) (fun k => ([some (.ref tb), none, none, none, none, none, some (.int (nI (mxF (fun d => tlK δ P b d (nR δ)) k))), some (.int (nI k))], w1)) (some (.inl (some (.int (nI (mlK δ P b)))), w1)) 1 1 100
    (fun k hk f => by
      refine ⟨f, Nat.le_refl _, ?_⟩
      have l1 := tlK_le δ P b k (nR δ)
      have l2 := mxF_le (fun d => tlK_le δ P b d (nR δ)) k
      have ek : ¬ (100 : Int32) ≤ nI k := nI_ge hk (by decide)
      have m := nI_ltI (a := mxF (fun d => tlK δ P b d (nR δ)) k) (b := tlK δ P b k (nR δ)) (by omega) (by omega)
      by_cases z : mxF (fun d => tlK δ P b d (nR δ)) k < tlK δ P b k (nR δ)
      · simp [jX7_mostLeft, bX7_mostLeft_0, bX7_mostLeft_1, i_aload, i_getf, i_iaload, i_icge, i_iinc, i_iload, i_ireturn, i_istore, i_jmp, i_lload, i_max, i_push, msk, lset1, lset2, clr, Value.category, Option.toList, List.cons_append, List.nil_append, List.length_cons, List.length_nil, ek, gf_eq hT1, q2.rd hk (by decide), m, z, nI_1, mxF]
      · simp [jX7_mostLeft, bX7_mostLeft_0, bX7_mostLeft_1, i_aload, i_getf, i_iaload, i_icge, i_iinc, i_iload, i_ireturn, i_istore, i_jmp, i_lload, i_max, i_push, msk, lset1, lset2, clr, Value.category, Option.toList, List.cons_append, List.nil_append, List.length_cons, List.length_nil, ek, gf_eq hT1, q2.rd hk (by decide), m, z, nI_1, mxF])
    (fun f => by
      simp [jX7_mostLeft, bX7_mostLeft_0, bX7_mostLeft_1, i_aload, i_getf, i_iaload, i_icge, i_iinc, i_iload, i_ireturn, i_istore, i_jmp, i_lload, i_max, i_push, msk, lset1, lset2, clr, Value.category, Option.toList, List.cons_append, List.nil_append, List.length_cons, List.length_nil, (show (100 : Int32) ≤ nI 100 from by decide), mlK])
  refine ⟨w1, _, ?_, q2, q3⟩
  rw [← L N (by omega)]
  simp [fX7_mostLeft, kX7_mostLeft, ent, entp, jX7_mostLeft, bX7_mostLeft_0, bX7_mostLeft_1, i_aload, i_getf, i_iaload, i_icge, i_iinc, i_iload, i_ireturn, i_istore, i_jmp, i_lload, i_max, i_push, msk, lset1, lset2, clr, Value.category, Option.toList, List.cons_append, List.nil_append, List.length_cons, List.length_nil, hN, cvk_3 hT q1, nI_0, mxF]
theorem maskOf_sp {g : GE} {w : Mem} {b : Nat} (hb : b < 8) : fX7_maskOf g [.int (nI b)] w = some (.inl (some (.long (lN (255 * 2 ^ (8 * b))))), w) := by
  have e := wb_shl 255 (k := 8 * b) (by omega)
  have e' : (255 : Int64) <<< ((nI (8 * b)).toInt64 &&& 63) = lN (255 * 2 ^ (8 * b)) := e
  have raw : fX7_maskOf g [.int (nI b)] w = some (.inl (some (.long ((255 : Int64) <<< ((8 * nI b).toInt64 &&& 63)))), w) := by
    simp [fX7_maskOf, kX7_maskOf, ent, entp, bX7_maskOf_0, i_iload, i_imul, i_lreturn, i_lshl, i_push, msk, lset1, lset2, clr, Value.category, Option.toList, List.cons_append, List.nil_append, List.length_cons, List.length_nil]
  rw [raw, e8, e']
theorem cleanNext_sp {g : GE} (hg : FU g) {w : Mem} {tb E D aM aS aG n1 lev : Nat} {δ : DE} (hd : WF δ) (hD : DEED g w D δ) (hDt : D + 35 ≤ tb) (hG : GT g w tb E D δ (δ.1 6) aM aS aG n1 lev) {c : Nat → Int32} (hT0 : IA w (tb + 10) 100 c) {mk sh : Int64} {P S : Nat → Bool} (hP : ∀ i, i < nR δ → ((lN (mkN (δ.1 3) (dgR δ i)) &&& mk = sh) ↔ P i = true)) (hS : ∀ b, b < δ.1 3 → ((mk &&& lN (255 * 2 ^ (8 * b)) = 0) ↔ S b = false)) :
    ∃ w' c', fX7_cleanNext g [.ref tb, .long mk, .long sh] w = some (.inl (some (.int (oI (amnP (fun b => !S b) (fun b => mlK δ P b) (δ.1 3))))), w') ∧ IA w' (tb + 10) 100 c' ∧ Fr (fun a => a = tb + 10) w w' := by
  have hn := nR_le hd
  obtain ⟨b1, b2, b3, b4, b5, b6, b7, b8⟩ := id hd.1
  obtain ⟨N, hN⟩ : ∃ N, g.1 = N + 1 := ⟨g.1 - 1, by omega⟩
  have L := lpR (fun f (s : Lv × Mem) => jX7_cleanNext g f 1 [] s.1 s.2) (fun k s => s.1 = [some (.ref tb), some (.long mk), none, some (.long sh), none, some (.int (oI (amnP (fun b => !S b) (fun b => mlK δ P b) k))), some (.int (zV (fun b => mlK δ P b) (amnP (fun b => !S b) (fun b => mlK δ P b) k))), some (.int (nI k)), none] ∧ (∃ c, IA s.2 (tb + 10) 100 c) ∧ Fr (fun a => a = tb + 10) w s.2)
    (fun z => ∃ w' c', z = some (.inl (some (.int (oI (amnP (fun b => !S b) (fun b => mlK δ P b) (δ.1 3))))), w') ∧ IA w' (tb + 10) 100 c' ∧ Fr (fun a => a = tb + 10) w w') 3 1 (δ.1 3)
    (fun k s hk hI f => by
      obtain ⟨e1, ⟨c1, e2⟩, e3⟩ := hI
      have hGs := hG.tl e3
      have hTs := hGs.tb
      have hDs := hD.fr e3 (fun i hi => by omega)
      have o1 := maskOf_sp (g := g) (w := s.2) (b := k) (by omega)
      have p1 := hS k hk
      have ek := nI_ge hk (by omega)
      generalize lN (255 * 2 ^ (8 * k)) = X at o1 p1
      cases hs : S k with
      | true =>
        have c1' := cz_n (mt p1.mp (by rw [hs]; decide))
        refine Or.inr ⟨f + 1, ([some (.ref tb), some (.long mk), none, some (.long sh), none, some (.int (oI (amnP (fun b => !S b) (fun b => mlK δ P b) (k + 1)))), some (.int (zV (fun b => mlK δ P b) (amnP (fun b => !S b) (fun b => mlK δ P b) (k + 1)))), some (.int (nI (k + 1))), none], s.2), by omega, ⟨rfl, ⟨c1, e2⟩, e3⟩, ?_⟩
        rw [show f + 3 = (f + 1) + 2 from rfl]
        generalize f + 1 = F
        simp [jX7_cleanNext, bX7_cleanNext_0, bX7_cleanNext_1, bX7_cleanNext_2, bX7_cleanNext_3, i_aload, i_getf, i_iceq, i_icge, i_ifne, i_iinc, i_iload, i_ireturn, i_istore, i_jmp, i_land, i_lcmp, i_lload, i_push, msk, lset1, lset2, clr, Value.category, Option.toList, List.cons_append, List.nil_append, List.length_cons, List.length_nil, e1, gf_eq hTs, gf_eq hDs.1, ek, csk_1 o1, c1', amnP, hs, nI_1]
      | false =>
        have c1' := cz_y (p1.mpr hs)
        obtain ⟨w2, c2, q1, q2, q3⟩ := mostLeft_sp hg hd hGs e2 hk hP
        have lk := mlK_le hd P k
        cases hA : amnP (fun b => !S b) (fun b => mlK δ P b) k with
        | none =>
          refine Or.inr ⟨f, ([some (.ref tb), some (.long mk), none, some (.long sh), none, some (.int (nI k)), some (.int (nI (mlK δ P k))), some (.int (nI (k + 1))), none], w2), Nat.le_refl _, ⟨by simp [amnP, hs, hA, oI, zV], ⟨c2, q2⟩, e3.tr q3⟩, ?_⟩
          simp [jX7_cleanNext, bX7_cleanNext_0, bX7_cleanNext_1, bX7_cleanNext_2, bX7_cleanNext_3, i_aload, i_getf, i_iceq, i_icge, i_ifne, i_iinc, i_iload, i_ireturn, i_istore, i_jmp, i_land, i_lcmp, i_lload, i_push, msk, lset1, lset2, clr, Value.category, Option.toList, List.cons_append, List.nil_append, List.length_cons, List.length_nil, e1, gf_eq hTs, gf_eq hDs.1, ek, csk_1 o1, c1', cvk_3 hTs q1, hA, oI, zV, nI_1]
        | some j =>
          have lj := mlK_le hd P j
          have ljk := amnP_lt hA
          have nn := nI_nn (y := j) (by omega)
          by_cases z : mlK δ P k < mlK δ P j
          · have m := nI_ge z (by omega)
            refine Or.inr ⟨f, ([some (.ref tb), some (.long mk), none, some (.long sh), none, some (.int (nI k)), some (.int (nI (mlK δ P k))), some (.int (nI (k + 1))), none], w2), Nat.le_refl _, ⟨by simp [amnP, hs, hA, oI, zV, z], ⟨c2, q2⟩, e3.tr q3⟩, ?_⟩
            simp [jX7_cleanNext, bX7_cleanNext_0, bX7_cleanNext_1, bX7_cleanNext_2, bX7_cleanNext_3, i_aload, i_getf, i_iceq, i_icge, i_ifne, i_iinc, i_iload, i_ireturn, i_istore, i_jmp, i_land, i_lcmp, i_lload, i_push, msk, lset1, lset2, clr, Value.category, Option.toList, List.cons_append, List.nil_append, List.length_cons, List.length_nil, e1, gf_eq hTs, gf_eq hDs.1, ek, csk_1 o1, c1', cvk_3 hTs q1, hA, oI, zV, nn, m, nI_1]
          · have m := nI_le (Nat.le_of_not_lt z) (by omega)
            refine Or.inr ⟨f + 1, ([some (.ref tb), some (.long mk), none, some (.long sh), none, some (.int (nI j)), some (.int (nI (mlK δ P j))), some (.int (nI (k + 1))), none], w2), by omega, ⟨by simp [amnP, hs, hA, oI, zV, z], ⟨c2, q2⟩, e3.tr q3⟩, ?_⟩
            rw [show f + 3 = (f + 1) + 2 from rfl]
            generalize f + 1 = F
            simp [jX7_cleanNext, bX7_cleanNext_0, bX7_cleanNext_1, bX7_cleanNext_2, bX7_cleanNext_3, i_aload, i_getf, i_iceq, i_icge, i_ifne, i_iinc, i_iload, i_ireturn, i_istore, i_jmp, i_land, i_lcmp, i_lload, i_push, msk, lset1, lset2, clr, Value.category, Option.toList, List.cons_append, List.nil_append, List.length_cons, List.length_nil, e1, gf_eq hTs, gf_eq hDs.1, ek, csk_1 o1, c1', cvk_3 hTs q1, hA, oI, zV, nn, m, nI_1])
    (fun s hI f => by
      obtain ⟨e1, ⟨c1, e2⟩, e3⟩ := hI
      have hTs := (hG.tl e3).tb
      have hDs := hD.fr e3 (fun i hi => by omega)
      refine ⟨s.2, c1, ?_, e2, e3⟩
      simp [jX7_cleanNext, bX7_cleanNext_0, bX7_cleanNext_1, bX7_cleanNext_2, bX7_cleanNext_3, i_aload, i_getf, i_iceq, i_icge, i_ifne, i_iinc, i_iload, i_ireturn, i_istore, i_jmp, i_land, i_lcmp, i_lload, i_push, msk, lset1, lset2, clr, Value.category, Option.toList, List.cons_append, List.nil_append, List.length_cons, List.length_nil, e1, gf_eq hTs, gf_eq hDs.1])
  have L1 := L (δ.1 3) 0 ([some (.ref tb), some (.long mk), none, some (.long sh), none, some (.int (-1)), some (.int 0), some (.int (nI 0)), none], w) (by omega) ⟨by simp [amnP, oI, zV], ⟨c, hT0⟩, Fr.rf _ _⟩ N (by omega)
  simp only [nI_0] at L1
  have e : fX7_cleanNext g [.ref tb, .long mk, .long sh] w = jX7_cleanNext g N 1 [] [some (.ref tb), some (.long mk), none, some (.long sh), none, some (.int (-1)), some (.int 0), some (.int 0), none] w := by
    simp [fX7_cleanNext, kX7_cleanNext, ent, entp, jX7_cleanNext, bX7_cleanNext_0, bX7_cleanNext_1, bX7_cleanNext_2, bX7_cleanNext_3, i_aload, i_getf, i_iceq, i_icge, i_ifne, i_iinc, i_iload, i_ireturn, i_istore, i_jmp, i_land, i_lcmp, i_lload, i_push, msk, lset1, lset2, clr, Value.category, Option.toList, List.cons_append, List.nil_append, List.length_cons, List.length_nil, hN]
  rw [e]
  exact L1
/-- the first below n that has p -/
def fsB (p : Nat → Bool) : Nat → Option Nat
  | 0 => none
  | n + 1 => match fsB p n with
    | some j => some j
    | none => if p n = true then some n else none
theorem fsB_none {p : Nat → Bool} : ∀ {n : Nat}, (∀ m, m < n → p m = false) → fsB p n = none
  | 0, _ => rfl
  | n + 1, h => by
    unfold fsB
    rw [fsB_none (n := n) fun m hm => h m (by omega)]
    simp [h n (by omega)]
theorem fsB_some {p : Nat → Bool} : ∀ {n j : Nat}, j < n → p j = true → (∀ m, m < j → p m = false) → fsB p n = some j
  | 0, j, h, _, _ => by omega
  | n + 1, j, h, h1, h2 => by
    unfold fsB
    by_cases z : j = n
    · subst z
      rw [fsB_none h2]
      simp [h1]
    · rw [fsB_some (n := n) (by omega) h1 h2]
theorem CI.tl {g : GE} {w w' : Mem} {B E fed kept : Nat} {fp : Int32} {tp : Nat → Int32} {rf : Nat → Nat} {δ : DE} {τ : TE} {im : Nat → TE} {lev nG : Nat} (hE : B + 132 ≤ E) (h : CI g w B E fed kept fp tp rf δ τ im lev nG) (k : Fr (fun a => a = B + 73 + 10) w w') {c : Nat → Int32} (hc : IA w' (B + 73 + 10) 100 c) : CI g w' B E fed kept fp tp rf δ τ im lev nG := by
  obtain ⟨D, D', h1, ⟨aM, aS, aG, n1, hG, hX⟩, h3, h4, h5⟩ := h
  have hA : aG ≠ B + 83 := by
    obtain ⟨fM, fS, hT, hM, hS, ⟨t1, t2, t3, t4, t5, t6, t7, t8, t9, t10, t11⟩, -⟩ := id hG
    omega
  obtain ⟨⟨c1, x1⟩, ⟨v, d, c', o, su, tw, x2⟩, -, ⟨c4, x4, k4⟩, ⟨c5, x5, k5⟩, ⟨c6, x6⟩, x7⟩ := hX
  refine ⟨D, D', h1.fr k (fun i hi => by omega) (by omega), ⟨aM, aS, aG, n1, hG.tl k, ⟨c1, x1.fr k (by omega)⟩, ⟨v, d, c', o, su, tw, x2.fr k fun i hi => by omega⟩, ⟨c, hc⟩, ⟨c4, x4.fr k (by omega), k4⟩, ⟨c5, x5.fr k (by omega), k5⟩, ⟨c6, x6.fr k (by omega)⟩, x7⟩, h3.fr k (fun i z1 z2 => by omega), h4.fr k (fun i z1 z2 => by omega), h5.fr k (fun i z1 z2 => by omega)⟩
theorem CC.dt {g : GE} {w : Mem} {B D D' fed kept : Nat} {fp : Int32} {tp : Nat → Int32} {rf : Nat → Nat} {δ : DE} (h : CC g w B D D' fed kept fp tp rf δ) : D + 35 ≤ B + 73 := by
  rcases h.1 with ⟨e, -⟩ | ⟨e, -⟩ <;> omega
def aliveO (δ : DE) (x0 : Int32) : OUT := 
  match rng x0 (δ.1 3) with
  | none => .inr (1, 1)
  | some n0 =>
    .inl (.int (nI (alK δ n0)))
theorem alive_c {g : GE} {w : Mem} {B E fed kept : Nat} {fp : Int32} {tp : Nat → Int32} {rf : Nat → Nat} {δ : DE} {τ : TE} {im : Nat → TE} {lev nG : Nat} (hg : GD g) (hE : B + 132 ≤ E) (hI : CI g w B E fed kept fp tp rf δ τ im lev nG) (x0 : Int32) : CQ g w B E fed kept fp tp rf δ τ im lev nG (fX10_alive g [.ref B, .int x0] w) (aliveO δ x0) := by
  have hg1 := hg.1
  obtain ⟨D, D', hCC, hCT, hCN, hCL, hCM⟩ := id hI
  obtain ⟨hDD, hB, hTp, hD, hD', hSc, hr, hd, hfd, hkp⟩ := id hCC
  obtain ⟨aM, aS, aG, n1', hG, hX⟩ := id hCT
  obtain ⟨b1, b2, b3, b4, b5, b6, b7, b8⟩ := id hd.1
  have hT := hG.tb
  have hn := nR_le hd
  obtain ⟨N, hN⟩ : ∃ N, g.1 = N + 12 := ⟨g.1 - 12, by omega⟩
  unfold aliveO
  have q0 := needBlot_sp hg1 hB hr hD b4 x0
  cases h0 : rng x0 (δ.1 3) with
  | none =>
    rw [h0] at q0
    simp only [tst, Option.isSome, Bool.false_eq_true, if_false] at q0
    refine CQ.no hE hI ?_
    simp [fX10_alive, kX10_alive, ent, entp, bX10_alive_0, i_aload, i_getf, i_iload, i_ireturn, msk, lset1, lset2, clr, Value.category, Option.toList, List.cons_append, List.nil_append, List.length_cons, List.length_nil, hN, cxe_1 hB q0]
  | some n0 =>
    rw [h0] at q0
    simp only [tst, Option.isSome, if_true] at q0
    obtain ⟨l0, e0⟩ := rng_some (by omega) h0
    subst e0
    dsimp only
    obtain ⟨-, -, ⟨c3, hX3⟩, -⟩ := id hX
    obtain ⟨w', c', q1, q2, q3⟩ := aliveUnder_sp hg1 hd hG hX3 l0
    refine CQ.okw (hI.tl hE q3 q2) ?_ (q3.mn fun a ha => CF.in (by omega))
    simp [fX10_alive, kX10_alive, ent, entp, bX10_alive_0, i_aload, i_getf, i_iload, i_ireturn, msk, lset1, lset2, clr, Value.category, Option.toList, List.cons_append, List.nil_append, List.length_cons, List.length_nil, hN, cxk_1 hB q0, gf_eq hB, cvk_1 hT q1]
theorem RI.sc {w w' : Mem} {M fed kept : Nat} {fp : Int32} {tp : Nat → Int32} {rf : Nat → Nat} {δ : DE} {τ : TE} {im : Nat → TE} {x x' : Nat → Int32} (h : RI w M fed kept fp tp rf δ τ im x) (k : Fr (fun a => a = M ∨ rg (M + 172) (M + 179) a) w w') (h1 : MO w' M x') (h2 : XO x' fed kept fp δ τ) (h4 : RZ w' M) : RI w' M fed kept fp tp rf δ τ im x' :=
  ⟨h1, h2, h.2.2.1.fr k (fun i z1 z2 z3 => by unfold rg; omega), h4, h.2.2.2.2.fr k (by unfold rg; omega)⟩
theorem laysHeld_sp {g : GE} (hg : FU g) {w : Mem} {M : Nat} {x c : Nat → Int32} {δ : DE} (hd : WF δ) (hO : MO w M x) (hx : x 27 = nI (nR δ)) (hD : RD w M δ) (hR : RT w M δ (δ.1 6)) (hH : IA w (M + 175) 100 c) {b : Nat} (hb : b < δ.1 3) :
    ∃ w', fX11_laysHeld g [.ref M, .int (nI b)] w = some (.inl none, w') ∧ IA w' (M + 175) 100 (fun d => nI (tlK δ tru b d (nR δ))) ∧ Fr (fun a => a = M + 175) w w' := by
  have hn := nR_le hd
  have L2 := lpR (fun f (s : Lv × Mem) => jX11_laysHeld g f 2 [] s.1 s.2) (fun k s => s.1 = [some (.ref M), some (.int (nI b)), some (.int (nI k))] ∧ IA s.2 (M + 175) 100 (fun d => nI (tlK δ tru b d k)) ∧ Fr (fun a => a = M + 175) w s.2)
    (fun z => ∃ w', z = some (.inl none, w') ∧ IA w' (M + 175) 100 (fun d => nI (tlK δ tru b d (nR δ))) ∧ Fr (fun a => a = M + 175) w w') 1 1 (nR δ)
    (fun k s hk hI f => by
      obtain ⟨e1, e2, e3⟩ := hI
      have hOs := e3.at hO (by omega)
      have hDs := hD.fr e3 (fun i h1 h2 => by omega)
      have hRs := hR.fr e3 (fun i h1 h2 => by omega)
      have o1 : fX11_digit g [.ref M, .int (nI (rr δ k)), .int (nI b)] s.2 = some (.inl (some (.int (nI (dgR δ k b)))), s.2) := rdigit_sp hg hd hOs hDs (row := rr δ k) (by have := rr_lt hk; have := hd.1.2.2.2.2.2.2.2; omega) hb
      have ld := dgR_100 hd k hb
      refine Or.inr ⟨f, ([some (.ref M), some (.int (nI b)), some (.int (nI (k + 1)))], wi s.2 0 (M + 175) (dgR δ k b) (nI (tlK δ tru b (dgR δ k b) k + 1))), Nat.le_refl _, ⟨rfl, (e2.up _ _).cg fun i hi => tlK_s rfl i, e3.tr (Fr.wi _ _ _ _ rfl)⟩, ?_⟩
      simp [jX11_laysHeld, bX11_laysHeld_0, bX11_laysHeld_1, bX11_laysHeld_2, i_aload, i_dup2, i_getf, i_iadd, i_iaload, i_iastore, i_icge, i_iinc, i_iload, i_istore, i_jmp, i_push, i_return, msk, lset1, lset2, clr, Value.category, Option.toList, List.cons_append, List.nil_append, List.length_cons, List.length_nil, e1, gf_eq hOs, mg_27, mg_28, mg_43, hx, nI_ge hk (by omega), hRs.row hd hk, cvk_2 hOs o1, e2.rd ld (by decide), nI_1, e2.wr ld (by decide)])
    (fun s hI f => by
      obtain ⟨e1, e2, e3⟩ := hI
      have hOs := e3.at hO (by omega)
      refine ⟨s.2, ?_, e2, e3⟩
      simp [jX11_laysHeld, bX11_laysHeld_0, bX11_laysHeld_1, bX11_laysHeld_2, i_aload, i_dup2, i_getf, i_iadd, i_iaload, i_iastore, i_icge, i_iinc, i_iload, i_istore, i_jmp, i_push, i_return, msk, lset1, lset2, clr, Value.category, Option.toList, List.cons_append, List.nil_append, List.length_cons, List.length_nil, e1, gf_eq hOs, mg_27, hx])
  have L1 := lpR (fun f (s : Lv × Mem) => jX11_laysHeld g (f + nR δ + 1) 1 [] s.1 s.2) (fun k s => s.1 = [some (.ref M), some (.int (nI b)), some (.int (nI k))] ∧ (∃ c, IA s.2 (M + 175) 100 c ∧ ∀ j, j < k → c j = 0) ∧ Fr (fun a => a = M + 175) w s.2)
    (fun z => ∃ w', z = some (.inl none, w') ∧ IA w' (M + 175) 100 (fun d => nI (tlK δ tru b d (nR δ))) ∧ Fr (fun a => a = M + 175) w w') 1 1 100
    (fun k s hk hI f => by
      obtain ⟨e1, ⟨c1, e2, e4⟩, e3⟩ := hI
      have hOs := e3.at hO (by omega)
      have ek : ¬ (100 : Int32) ≤ nI k := nI_ge hk (by decide)
      refine Or.inr ⟨f, ([some (.ref M), some (.int (nI b)), some (.int (nI (k + 1)))], wi s.2 0 (M + 175) k 0), Nat.le_refl _, ⟨rfl, ⟨_, e2.up _ _, fun j hj => ?_⟩, e3.tr (Fr.wi _ _ _ _ rfl)⟩, ?_⟩
      · unfold va_up
        split
        · rfl
        · exact e4 j (by omega)
      · have ef : f + 1 + nR δ + 1 = (f + nR δ + 1) + 1 := by omega
        simp only [ef]
        generalize f + nR δ + 1 = F
        simp [jX11_laysHeld, bX11_laysHeld_0, bX11_laysHeld_1, bX11_laysHeld_2, i_aload, i_dup2, i_getf, i_iadd, i_iaload, i_iastore, i_icge, i_iinc, i_iload, i_istore, i_jmp, i_push, i_return, msk, lset1, lset2, clr, Value.category, Option.toList, List.cons_append, List.nil_append, List.length_cons, List.length_nil, e1, ek, gf_eq hOs, mg_43, nI_1, e2.wr hk (by decide)])
    (fun s hI f => by
      obtain ⟨e1, ⟨c1, e2, e4⟩, e3⟩ := hI
      have q := L2 (nR δ) 0 ([some (.ref M), some (.int (nI b)), some (.int (nI 0))], s.2) (by omega) ⟨rfl, e2.cg fun i hi => by rw [e4 i hi]; simp [tlK, cntF, nI_0], e3⟩ (f + nR δ + 1) (by omega)
      have ef : f + 1 + nR δ + 1 = (f + nR δ + 1) + 1 := by omega
      simp only [ef]
      simp only [nI_0] at q
      generalize f + nR δ + 1 = F at q ⊢
      have e : jX11_laysHeld g (F + 1) 1 [] s.1 s.2 = jX11_laysHeld g F 2 [] [some (.ref M), some (.int (nI b)), some (.int 0)] s.2 := by
        simp [jX11_laysHeld, bX11_laysHeld_0, bX11_laysHeld_1, bX11_laysHeld_2, i_aload, i_dup2, i_getf, i_iadd, i_iaload, i_iastore, i_icge, i_iinc, i_iload, i_istore, i_jmp, i_push, i_return, msk, lset1, lset2, clr, Value.category, Option.toList, List.cons_append, List.nil_append, List.length_cons, List.length_nil, e1, (show (100 : Int32) ≤ nI 100 from by decide)]
      rw [e]
      exact q)
  obtain ⟨N, hN⟩ : ∃ N, g.1 = (N + nR δ + 1) + 1 := ⟨g.1 - (nR δ + 2), by omega⟩
  have L := L1 100 0 ([some (.ref M), some (.int (nI b)), some (.int (nI 0))], w) (by omega) ⟨rfl, ⟨c, hH, fun j hj => by omega⟩, Fr.rf _ _⟩ N (by omega)
  simp only [nI_0] at L
  generalize N + nR δ + 1 = F at L hN
  have e : fX11_laysHeld g [.ref M, .int (nI b)] w = jX11_laysHeld g F 1 [] [some (.ref M), some (.int (nI b)), some (.int 0)] w := by
    simp [fX11_laysHeld, kX11_laysHeld, ent, entp, jX11_laysHeld, bX11_laysHeld_0, bX11_laysHeld_1, bX11_laysHeld_2, i_aload, i_dup2, i_getf, i_iadd, i_iaload, i_iastore, i_icge, i_iinc, i_iload, i_istore, i_jmp, i_push, i_return, msk, lset1, lset2, clr, Value.category, Option.toList, List.cons_append, List.nil_append, List.length_cons, List.length_nil, hN]
  rw [e]
  exact L
theorem RZ.h {w w' : Mem} {M : Nat} (h : RZ w M) (k : Fr (fun a => a = M + 175) w w') {c : Nat → Int32} (hc : IA w' (M + 175) 100 c) : RZ w' M := by
  obtain ⟨h0, -, ⟨c2, h2⟩, ⟨c3, h3⟩, ⟨c4, h4⟩⟩ := h
  exact ⟨h0.fr k fun i h1 h2 => by omega, ⟨c, hc⟩, ⟨c2, h2.fr k (by omega)⟩, ⟨c3, h3.fr k (by omega)⟩, ⟨c4, h4.fr k (by omega)⟩⟩
theorem RI.h {w w' : Mem} {M fed kept : Nat} {fp : Int32} {tp : Nat → Int32} {rf : Nat → Nat} {δ : DE} {τ : TE} {im : Nat → TE} {x : Nat → Int32} (h : RI w M fed kept fp tp rf δ τ im x) (k : Fr (fun a => a = M + 175) w w') {c : Nat → Int32} (hc : IA w' (M + 175) 100 c) : RI w' M fed kept fp tp rf δ τ im x :=
  h.sc (k.mn fun a ha => by unfold rg; omega) (k.at h.1 (by omega)) h.2.1 (h.2.2.2.1.h k hc)
theorem alive_r {g : GE} {w : Mem} {M fed kept : Nat} {fp : Int32} {tp : Nat → Int32} {rf : Nat → Nat} {δ : DE} {τ : TE} {im : Nat → TE} {x : Nat → Int32} (hg : FU g) (hd : WF δ) (hI : RI w M fed kept fp tp rf δ τ im x) (x0 : Int32) : RQo w M fed kept fp tp rf δ τ im (fX11_alive g [.ref M, .int x0] w) (aliveO δ x0) := by
  obtain ⟨w0, hw0, I0, F0⟩ := hI.t0
  obtain ⟨b1, b2, b3, b4, b5, b6, b7, b8⟩ := id hd.1
  obtain ⟨hO, hXO, hRK, hRZ, hrf⟩ := id I0
  obtain ⟨x1', x3', x27, x32, x33, x34⟩ := id hXO
  obtain ⟨hTp, hD, hR, hCp, hHb, hKp, hRP⟩ := id hRK
  have hn := nR_le hd
  have x0' : (va_up x 0 0) 0 = 0 := va_up_self _ _ _
  obtain ⟨N, hN⟩ : ∃ N, g.1 = N + 2 := ⟨g.1 - 2, by omega⟩
  unfold aliveO
  have q0 := isBlot_sp hg hO hD b4 x0
  cases h0 : rng x0 (δ.1 3) with
  | none =>
    rw [h0] at q0
    simp only [bI, Option.isSome, Bool.false_eq_true, if_false] at q0
    obtain ⟨w1, p1, p2, p3⟩ := bad1_sp hg I0 x0' (c := 1) (r := 1) (C := 1) (R := 1) rfl rfl (by decide) (by decide)
    refine RQo.no (v := .int 0) F0 p2 ?_ p3
    simp [fX11_alive, kX11_alive, ent, entp, jX11_alive, bX11_alive_0, bX11_alive_1, bX11_alive_2, bX11_alive_3, i_aload, i_getf, i_iadd, i_iaload, i_icge, i_ifeq, i_ifle, i_ifne, i_iinc, i_iload, i_ireturn, i_istore, i_jmp, i_push, i_putf, msk, lset1, lset2, clr, Value.category, Option.toList, List.cons_append, List.nil_append, List.length_cons, List.length_nil, hN, st_0 hI.1, hw0, cvk_1 hO q0, cvk_3 hO p1]
  | some n0 =>
    rw [h0] at q0
    simp only [bI, Option.isSome, if_true] at q0
    obtain ⟨l0, e0⟩ := rng_some (by omega) h0
    subst e0
    obtain ⟨N2, hN2⟩ : ∃ N, g.1 = N + 2 := ⟨g.1 - 2, by omega⟩
    dsimp only
    obtain ⟨-, ⟨c1, hH⟩, -⟩ := id hRZ
    obtain ⟨w1, p1, p2, p3⟩ := laysHeld_sp hg hd hO x27 hD hR hH l0
    have hO1 := p3.at hO (by omega)
    refine RQo.ok F0 (I0.h p3 p2) x0' ?_ (p3.mn fun a ha => by unfold rg; omega)
    have L := lpF (fun f (s : Lv × Mem) => jX11_alive g f 2 [] s.1 s.2) (fun k => ([some (.ref M), none, some (.int (nI (cntF (fun d => decide (0 < tlK δ tru n0 d (nR δ))) k))), some (.int (nI k))], w1)) (some (.inl (some (.int (nI (alK δ n0)))), w1)) 2 1 100
      (fun k hk f => by
        refine ⟨f, Nat.le_refl _, ?_⟩
        have l1 := tlK_le δ tru n0 k (nR δ)
        have ek : ¬ (100 : Int32) ≤ nI k := nI_ge hk (by decide)
        by_cases z : 0 < tlK δ tru n0 k (nR δ)
        · have z1 := nI_nle z (by omega)
          simp [jX11_alive, bX11_alive_0, bX11_alive_1, bX11_alive_2, bX11_alive_3, i_aload, i_getf, i_iadd, i_iaload, i_icge, i_ifeq, i_ifle, i_ifne, i_iinc, i_iload, i_ireturn, i_istore, i_jmp, i_push, i_putf, msk, lset1, lset2, clr, Value.category, Option.toList, List.cons_append, List.nil_append, List.length_cons, List.length_nil, ek, gf_eq hO1, mg_43, p2.rd hk (by decide), z1, nI_1, cntF, z]
        · have z1 : nI (tlK δ tru n0 k (nR δ)) ≤ 0 := by rw [show tlK δ tru n0 k (nR δ) = 0 by omega]; decide
          simp [jX11_alive, bX11_alive_0, bX11_alive_1, bX11_alive_2, bX11_alive_3, i_aload, i_getf, i_iadd, i_iaload, i_icge, i_ifeq, i_ifle, i_ifne, i_iinc, i_iload, i_ireturn, i_istore, i_jmp, i_push, i_putf, msk, lset1, lset2, clr, Value.category, Option.toList, List.cons_append, List.nil_append, List.length_cons, List.length_nil, ek, gf_eq hO1, mg_43, p2.rd hk (by decide), z1, nI_1, cntF, z])
      (fun f => by
        simp [jX11_alive, bX11_alive_0, bX11_alive_1, bX11_alive_2, bX11_alive_3, i_aload, i_getf, i_iadd, i_iaload, i_icge, i_ifeq, i_ifle, i_ifne, i_iinc, i_iload, i_ireturn, i_istore, i_jmp, i_push, i_putf, msk, lset1, lset2, clr, Value.category, Option.toList, List.cons_append, List.nil_append, List.length_cons, List.length_nil, (show (100 : Int32) ≤ nI 100 from by decide), alK])
    rw [← L N2 (by omega)]
    simp [fX11_alive, kX11_alive, ent, entp, jX11_alive, bX11_alive_0, bX11_alive_1, bX11_alive_2, bX11_alive_3, i_aload, i_getf, i_iadd, i_iaload, i_icge, i_ifeq, i_ifle, i_ifne, i_iinc, i_iload, i_ireturn, i_istore, i_jmp, i_push, i_putf, msk, lset1, lset2, clr, Value.category, Option.toList, List.cons_append, List.nil_append, List.length_cons, List.length_nil, hN2, st_0 hI.1, hw0, cvk_1 hO q0, cvk_3 hO (bad0_sp hg hO x0' 1 1), cvk_1 hO p1, nI_0, cntF]
def hoK (δ : DE) (b : Nat) (v : Int32) : Int32 := match fsB (fun d => nI (δ.2 (20 + b) d) == v) (δ.2 10 b) with
  | some d => nI (tlK δ tru b d (nR δ))
  | none => -1
theorem digitOf_sp {g : GE} (hg : FU g) {w : Mem} {D : Nat} {δ : DE} (hd : WF δ) (hD : DEED g w D δ) {b : Nat} (hb : b < δ.1 3) (v : Int32) : fX1_digitOf g [.ref (D + 19 + 2 * b), .int v] w = some (.inl (some (.int (oI (fsB (fun d => nI (δ.2 (20 + b) d) == v) (δ.2 10 b))))), w) := by
  obtain ⟨b1, b2, b3, b4, b5, b6, b7, b8⟩ := id hd.1
  obtain ⟨d0, -, -, -, -, -, -, -, -, d9, -, dbl, dvl⟩ := id hD
  have e9 := dbl b (by omega)
  have v9 := dvl b (by omega)
  have hs := hd.2.2.2.1 b hb
  obtain ⟨N, hN⟩ : ∃ N, g.1 = N + 1 := ⟨g.1 - 1, by omega⟩
  have L := lpR (fun f (s : Lv) => jX1_digitOf g f 1 [] s w) (fun k s => s = [some (.ref (D + 19 + 2 * b)), some (.int v), some (.int (nI k))] ∧ ∀ m, m < k → (nI (δ.2 (20 + b) m) == v) = false)
    (fun z => z = some (.inl (some (.int (oI (fsB (fun d => nI (δ.2 (20 + b) d) == v) (δ.2 10 b))))), w)) 1 1 (δ.2 10 b)
    (fun k s hk hI f => by
      obtain ⟨e1, e2⟩ := hI
      subst e1
      by_cases z : nI (δ.2 (20 + b) k) = v
      · left
        rw [fsB_some (p := fun d => nI (δ.2 (20 + b) d) == v) hk (by simp [z]) e2]
        simp [jX1_digitOf, bX1_digitOf_0, bX1_digitOf_1, i_aload, i_getf, i_iaload, i_icge, i_icne, i_iinc, i_iload, i_ireturn, i_istore, i_jmp, i_push, msk, lset1, lset2, clr, Value.category, Option.toList, List.cons_append, List.nil_append, List.length_cons, List.length_nil, gf_eq e9, nI_ge hk (by omega), v9.rd (j := k) (by omega) (by decide), z, oI]
      · refine Or.inr ⟨f, _, Nat.le_refl _, ⟨rfl, fun m hm => ?_⟩, ?_⟩
        · by_cases y : m = k
          · subst y; simp [z]
          · exact e2 m (by omega)
        · simp [jX1_digitOf, bX1_digitOf_0, bX1_digitOf_1, i_aload, i_getf, i_iaload, i_icge, i_icne, i_iinc, i_iload, i_ireturn, i_istore, i_jmp, i_push, msk, lset1, lset2, clr, Value.category, Option.toList, List.cons_append, List.nil_append, List.length_cons, List.length_nil, gf_eq e9, nI_ge hk (by omega), v9.rd (j := k) (by omega) (by decide), z, nI_1])
    (fun s hI f => by
      obtain ⟨e1, e2⟩ := hI
      subst e1
      rw [fsB_none e2]
      simp [jX1_digitOf, bX1_digitOf_0, bX1_digitOf_1, i_aload, i_getf, i_iaload, i_icge, i_icne, i_iinc, i_iload, i_ireturn, i_istore, i_jmp, i_push, msk, lset1, lset2, clr, Value.category, Option.toList, List.cons_append, List.nil_append, List.length_cons, List.length_nil, gf_eq e9, oI])
  have L1 := L (δ.2 10 b) 0 [some (.ref (D + 19 + 2 * b)), some (.int v), some (.int (nI 0))] (by omega) ⟨rfl, fun m hm => by omega⟩ N (by omega)
  simp only [nI_0] at L1
  rw [← L1]
  simp [fX1_digitOf, kX1_digitOf, ent, entp, jX1_digitOf, bX1_digitOf_0, bX1_digitOf_1, i_aload, i_getf, i_iaload, i_icge, i_icne, i_iinc, i_iload, i_ireturn, i_istore, i_jmp, i_push, msk, lset1, lset2, clr, Value.category, Option.toList, List.cons_append, List.nil_append, List.length_cons, List.length_nil, hN]
theorem fsB_lt {p : Nat → Bool} : ∀ {n j : Nat}, fsB p n = some j → j < n
  | 0, j, h => by cases h
  | n + 1, j, h => by
    unfold fsB at h
    split at h
    · next q =>
      have := fsB_lt q
      cases h
      omega
    · split at h
      · cases h; omega
      · cases h
theorem hoK_n {δ : DE} {b : Nat} {v : Int32} (h : fsB (fun d => nI (δ.2 (20 + b) d) == v) (δ.2 10 b) = none) : hoK δ b v = -1 := by
  unfold hoK
  simp only [h]
theorem hoK_s {δ : DE} {b d : Nat} {v : Int32} (h : fsB (fun d => nI (δ.2 (20 + b) d) == v) (δ.2 10 b) = some d) : hoK δ b v = nI (tlK δ tru b d (nR δ)) := by
  unfold hoK
  simp only [h]
def holdingO (δ : DE) (x0 x1 : Int32) : OUT := 
  match rng x0 (δ.1 3) with
  | none => .inr (1, 1)
  | some n0 =>
    .inl (.int (hoK δ n0 x1))
theorem holding_c {g : GE} {w : Mem} {B E fed kept : Nat} {fp : Int32} {tp : Nat → Int32} {rf : Nat → Nat} {δ : DE} {τ : TE} {im : Nat → TE} {lev nG : Nat} (hg : GD g) (hE : B + 132 ≤ E) (hI : CI g w B E fed kept fp tp rf δ τ im lev nG) (x0 x1 : Int32) : CQ g w B E fed kept fp tp rf δ τ im lev nG (fX10_holding g [.ref B, .int x0, .int x1] w) (holdingO δ x0 x1) := by
  have hg1 := hg.1
  obtain ⟨D, D', hCC, hCT, hCN, hCL, hCM⟩ := id hI
  obtain ⟨hDD, hB, hTp, hD, hD', hSc, hr, hd, hfd, hkp⟩ := id hCC
  obtain ⟨aM, aS, aG, n1', hG, hX⟩ := id hCT
  obtain ⟨b1, b2, b3, b4, b5, b6, b7, b8⟩ := id hd.1
  have hT := hG.tb
  have hn := nR_le hd
  obtain ⟨N, hN⟩ : ∃ N, g.1 = N + 12 := ⟨g.1 - 12, by omega⟩
  unfold holdingO
  have q0 := needBlot_sp hg1 hB hr hD b4 x0
  cases h0 : rng x0 (δ.1 3) with
  | none =>
    rw [h0] at q0
    simp only [tst, Option.isSome, Bool.false_eq_true, if_false] at q0
    refine CQ.no hE hI ?_
    simp [fX10_holding, kX10_holding, ent, entp, jX10_holding, bX10_holding_0, bX10_holding_1, i_aaload, i_aload, i_getf, i_icne, i_iload, i_ireturn, i_istore, i_jmp, i_push, msk, lset1, lset2, clr, Value.category, Option.toList, List.cons_append, List.nil_append, List.length_cons, List.length_nil, hN, cxe_1 hB q0]
  | some n0 =>
    rw [h0] at q0
    simp only [tst, Option.isSome, if_true] at q0
    obtain ⟨l0, e0⟩ := rng_some (by omega) h0
    subst e0
    dsimp only
    obtain ⟨-, -, ⟨c3, hX3⟩, -⟩ := id hX
    obtain ⟨d0, -, -, -, -, -, -, -, -, d9, -, dbl, dvl⟩ := id hD
    have e9 := dbl n0 (by omega)
    have q8 := digitOf_sp hg1 hd hD l0 x1
    cases hf : fsB (fun d => nI (δ.2 (20 + n0) d) == x1) (δ.2 10 n0) with
    | none =>
      rw [hf] at q8
      rw [hoK_n hf]
      refine CQ.ok hI ?_
      simp [fX10_holding, kX10_holding, ent, entp, jX10_holding, bX10_holding_0, bX10_holding_1, i_aaload, i_aload, i_getf, i_icne, i_iload, i_ireturn, i_istore, i_jmp, i_push, msk, lset1, lset2, clr, Value.category, Option.toList, List.cons_append, List.nil_append, List.length_cons, List.length_nil, hN, cxk_1 hB q0, gf_eq hB, gf_eq d0, d9.rd (j := n0) (by omega) (by decide), va_rf, cvk_1 e9 q8, oI]
    | some d =>
      rw [hf] at q8
      rw [hoK_s hf]
      have ld := fsB_lt hf
      have hs := hd.2.2.2.1 n0 l0
      have nn := nI_nn (y := d) (by omega)
      obtain ⟨w', q1, q2, q3⟩ := tallyUp_sp hg1 hd hG hX3 l0 (mk := 0) (sh := 0) (P := tru) (fun i _ => m00 _)
      have hT1 := (hG.tl q3).tb
      have q4 : fX7_holdingDigit g [.ref (B + 73), .int (nI n0), .int (nI d)] w = some (.inl (some (.int (nI (tlK δ tru n0 d (nR δ))))), w') := by
        simp [fX7_holdingDigit, kX7_holdingDigit, ent, entp, bX7_holdingDigit_0, i_aload, i_getf, i_iaload, i_iload, i_ireturn, i_push, msk, lset1, lset2, clr, Value.category, Option.toList, List.cons_append, List.nil_append, List.length_cons, List.length_nil, cvk_3 hT q1, gf_eq hT1, q2.rd (j := d) (by omega) (by decide)]
      refine CQ.okw (hI.tl hE q3 q2) ?_ (q3.mn fun a ha => CF.in (by omega))
      simp [fX10_holding, kX10_holding, ent, entp, jX10_holding, bX10_holding_0, bX10_holding_1, i_aaload, i_aload, i_getf, i_icne, i_iload, i_ireturn, i_istore, i_jmp, i_push, msk, lset1, lset2, clr, Value.category, Option.toList, List.cons_append, List.nil_append, List.length_cons, List.length_nil, hN, cxk_1 hB q0, gf_eq hB, gf_eq d0, d9.rd (j := n0) (by omega) (by decide), va_rf, cvk_1 e9 q8, oI, nn, cvk_2 hT q4]
theorem holding_r {g : GE} {w : Mem} {M fed kept : Nat} {fp : Int32} {tp : Nat → Int32} {rf : Nat → Nat} {δ : DE} {τ : TE} {im : Nat → TE} {x : Nat → Int32} (hg : FU g) (hd : WF δ) (hI : RI w M fed kept fp tp rf δ τ im x) (x0 x1 : Int32) : RQo w M fed kept fp tp rf δ τ im (fX11_holding g [.ref M, .int x0, .int x1] w) (holdingO δ x0 x1) := by
  obtain ⟨w0, hw0, I0, F0⟩ := hI.t0
  obtain ⟨b1, b2, b3, b4, b5, b6, b7, b8⟩ := id hd.1
  obtain ⟨hO, hXO, hRK, hRZ, hrf⟩ := id I0
  obtain ⟨x1', x3', x27, x32, x33, x34⟩ := id hXO
  obtain ⟨hTp, hD, hR, hCp, hHb, hKp, hRP⟩ := id hRK
  have hn := nR_le hd
  have x0' : (va_up x 0 0) 0 = 0 := va_up_self _ _ _
  obtain ⟨N, hN⟩ : ∃ N, g.1 = N + 2 := ⟨g.1 - 2, by omega⟩
  unfold holdingO
  have q0 := isBlot_sp hg hO hD b4 x0
  cases h0 : rng x0 (δ.1 3) with
  | none =>
    rw [h0] at q0
    simp only [bI, Option.isSome, Bool.false_eq_true, if_false] at q0
    obtain ⟨w1, p1, p2, p3⟩ := bad1_sp hg I0 x0' (c := 1) (r := 1) (C := 1) (R := 1) rfl rfl (by decide) (by decide)
    refine RQo.no (v := .int 0) F0 p2 ?_ p3
    simp [fX11_holding, kX11_holding, ent, entp, jX11_holding, bX11_holding_0, bX11_holding_1, bX11_holding_2, i_aaload, i_aload, i_getf, i_iaload, i_icge, i_icne, i_ifeq, i_ifne, i_iinc, i_iload, i_ireturn, i_istore, i_jmp, i_push, i_putf, msk, lset1, lset2, clr, Value.category, Option.toList, List.cons_append, List.nil_append, List.length_cons, List.length_nil, hN, st_0 hI.1, hw0, cvk_1 hO q0, cvk_3 hO p1]
  | some n0 =>
    rw [h0] at q0
    simp only [bI, Option.isSome, if_true] at q0
    obtain ⟨l0, e0⟩ := rng_some (by omega) h0
    subst e0
    obtain ⟨N2, hN2⟩ : ∃ N, g.1 = N + 2 := ⟨g.1 - 2, by omega⟩
    dsimp only
    obtain ⟨-, ⟨c1, hH⟩, -⟩ := id hRZ
    obtain ⟨w1, p1, p2, p3⟩ := laysHeld_sp hg hd hO x27 hD hR hH l0
    have hO1 := p3.at hO (by omega)
    have hD1 := hD.fr p3 (fun i h1 h2 => by omega)
    obtain ⟨h0', -, -, -, -, -, ⟨c6, h6, k6⟩, ⟨c7, h7, k7⟩⟩ := id hD1
    have hs := hd.2.2.2.1 n0 l0
    refine RQo.ok F0 (I0.h p3 p2) x0' ?_ (p3.mn fun a ha => by unfold rg; omega)
    have L := lpR (fun f (s : Lv) => jX11_holding g f 2 [] s w1) (fun k s => s = [some (.ref M), some (.int (nI n0)), some (.int x1), some (.int (nI k))] ∧ ∀ m, m < k → (nI (δ.2 (20 + n0) m) == x1) = false)
      (fun z => z = some (.inl (some (.int (hoK δ n0 x1))), w1)) 1 1 (δ.2 10 n0)
      (fun k s hk hI f => by
        obtain ⟨e1, e2⟩ := hI
        subst e1
        by_cases z : nI (δ.2 (20 + n0) k) = x1
        · left
          unfold hoK
          rw [fsB_some (p := fun d => nI (δ.2 (20 + n0) d) == x1) hk (by simp [z]) e2]
          simp [jX11_holding, bX11_holding_0, bX11_holding_1, bX11_holding_2, i_aaload, i_aload, i_getf, i_iaload, i_icge, i_icne, i_ifeq, i_ifne, i_iinc, i_iload, i_ireturn, i_istore, i_jmp, i_push, i_putf, msk, lset1, lset2, clr, Value.category, Option.toList, List.cons_append, List.nil_append, List.length_cons, List.length_nil, gf_eq hO1, mg_24, mg_26, mg_43, h6.1.rd (j := n0) (by omega) (by decide), h7.1.rd (j := n0) (by omega) (by decide), va_rf, (h6.2 n0 (by omega)).rc 2 2 rfl (by decide) (by decide), (k6 n0 l0).2.2.1, nI_ge hk (by omega), (h7.2 n0 (by omega)).rd (j := k) (by omega) (by decide), k7 n0 l0 k hk, z, p2.rd (j := k) (by omega) (by decide)]
        · refine Or.inr ⟨f, _, Nat.le_refl _, ⟨rfl, fun m hm => ?_⟩, ?_⟩
          · by_cases y : m = k
            · subst y; simp [z]
            · exact e2 m (by omega)
          · simp [jX11_holding, bX11_holding_0, bX11_holding_1, bX11_holding_2, i_aaload, i_aload, i_getf, i_iaload, i_icge, i_icne, i_ifeq, i_ifne, i_iinc, i_iload, i_ireturn, i_istore, i_jmp, i_push, i_putf, msk, lset1, lset2, clr, Value.category, Option.toList, List.cons_append, List.nil_append, List.length_cons, List.length_nil, gf_eq hO1, mg_24, mg_26, mg_43, h6.1.rd (j := n0) (by omega) (by decide), h7.1.rd (j := n0) (by omega) (by decide), va_rf, (h6.2 n0 (by omega)).rc 2 2 rfl (by decide) (by decide), (k6 n0 l0).2.2.1, nI_ge hk (by omega), (h7.2 n0 (by omega)).rd (j := k) (by omega) (by decide), k7 n0 l0 k hk, z, nI_1])
      (fun s hI f => by
        obtain ⟨e1, e2⟩ := hI
        subst e1
        unfold hoK
        rw [fsB_none e2]
        simp [jX11_holding, bX11_holding_0, bX11_holding_1, bX11_holding_2, i_aaload, i_aload, i_getf, i_iaload, i_icge, i_icne, i_ifeq, i_ifne, i_iinc, i_iload, i_ireturn, i_istore, i_jmp, i_push, i_putf, msk, lset1, lset2, clr, Value.category, Option.toList, List.cons_append, List.nil_append, List.length_cons, List.length_nil, gf_eq hO1, mg_24, h6.1.rd (j := n0) (by omega) (by decide), va_rf, (h6.2 n0 (by omega)).rc 2 2 rfl (by decide) (by decide), (k6 n0 l0).2.2.1])
    have L1 := L (δ.2 10 n0) 0 [some (.ref M), some (.int (nI n0)), some (.int x1), some (.int (nI 0))] (by omega) ⟨rfl, fun m hm => by omega⟩ N2 (by omega)
    simp only [nI_0] at L1
    rw [← L1]
    simp [fX11_holding, kX11_holding, ent, entp, jX11_holding, bX11_holding_0, bX11_holding_1, bX11_holding_2, i_aaload, i_aload, i_getf, i_iaload, i_icge, i_icne, i_ifeq, i_ifne, i_iinc, i_iload, i_ireturn, i_istore, i_jmp, i_push, i_putf, msk, lset1, lset2, clr, Value.category, Option.toList, List.cons_append, List.nil_append, List.length_cons, List.length_nil, hN2, st_0 hI.1, hw0, cvk_1 hO q0, cvk_3 hO (bad0_sp hg hO x0' 1 1), cvk_1 hO p1]
def cleanedO (δ : DE) (x0 : Int32) : OUT := 
  match rng x0 (δ.1 3) with
  | none => .inr (1, 1)
  | some n0 =>
    .inl (.int (nI (mlK δ tru n0)))
theorem cleaned_c {g : GE} {w : Mem} {B E fed kept : Nat} {fp : Int32} {tp : Nat → Int32} {rf : Nat → Nat} {δ : DE} {τ : TE} {im : Nat → TE} {lev nG : Nat} (hg : GD g) (hE : B + 132 ≤ E) (hI : CI g w B E fed kept fp tp rf δ τ im lev nG) (x0 : Int32) : CQ g w B E fed kept fp tp rf δ τ im lev nG (fX10_cleaned g [.ref B, .int x0] w) (cleanedO δ x0) := by
  have hg1 := hg.1
  obtain ⟨D, D', hCC, hCT, hCN, hCL, hCM⟩ := id hI
  obtain ⟨hDD, hB, hTp, hD, hD', hSc, hr, hd, hfd, hkp⟩ := id hCC
  obtain ⟨aM, aS, aG, n1', hG, hX⟩ := id hCT
  obtain ⟨b1, b2, b3, b4, b5, b6, b7, b8⟩ := id hd.1
  have hT := hG.tb
  have hn := nR_le hd
  obtain ⟨N, hN⟩ : ∃ N, g.1 = N + 12 := ⟨g.1 - 12, by omega⟩
  unfold cleanedO
  have q0 := needBlot_sp hg1 hB hr hD b4 x0
  cases h0 : rng x0 (δ.1 3) with
  | none =>
    rw [h0] at q0
    simp only [tst, Option.isSome, Bool.false_eq_true, if_false] at q0
    refine CQ.no hE hI ?_
    simp [fX10_cleaned, kX10_cleaned, ent, entp, bX10_cleaned_0, i_aload, i_getf, i_iload, i_ireturn, i_push, msk, lset1, lset2, clr, Value.category, Option.toList, List.cons_append, List.nil_append, List.length_cons, List.length_nil, hN, cxe_1 hB q0]
  | some n0 =>
    rw [h0] at q0
    simp only [tst, Option.isSome, if_true] at q0
    obtain ⟨l0, e0⟩ := rng_some (by omega) h0
    subst e0
    dsimp only
    obtain ⟨-, -, ⟨c3, hX3⟩, -⟩ := id hX
    obtain ⟨w', c', q1, q2, q3⟩ := mostLeft_sp hg1 hd hG hX3 l0 (mk := 0) (sh := 0) (P := tru) (fun i _ => m00 _)
    refine CQ.okw (hI.tl hE q3 q2) ?_ (q3.mn fun a ha => CF.in (by omega))
    simp [fX10_cleaned, kX10_cleaned, ent, entp, bX10_cleaned_0, i_aload, i_getf, i_iload, i_ireturn, i_push, msk, lset1, lset2, clr, Value.category, Option.toList, List.cons_append, List.nil_append, List.length_cons, List.length_nil, hN, cxk_1 hB q0, gf_eq hB, cvk_3 hT q1]
theorem cleanedBy_sp {g : GE} (hg : FU g) {w : Mem} {M : Nat} {x c : Nat → Int32} {δ : DE} (hd : WF δ) (hO : MO w M x) (hx : x 27 = nI (nR δ)) (hD : RD w M δ) (hR : RT w M δ (δ.1 6)) (hH : IA w (M + 175) 100 c) {b : Nat} (hb : b < δ.1 3) :
    ∃ w' c', fX11_cleanedBy g [.ref M, .int (nI b)] w = some (.inl (some (.int (nI (mlK δ tru b)))), w') ∧ IA w' (M + 175) 100 c' ∧ Fr (fun a => a = M + 175) w w' := by
  have hn := nR_le hd
  obtain ⟨w1, p1, p2, p3⟩ := laysHeld_sp hg hd hO hx hD hR hH hb
  have hO1 := p3.at hO (by omega)
  obtain ⟨N, hN⟩ : ∃ N, g.1 = N + 1 := ⟨g.1 - 1, by omega⟩
  have L := lpF (fun f (s : Lv × Mem) => jX11_cleanedBy g f 1 [] s.1 s.2) (fun k => ([some (.ref M), none, some (.int (nI (mxF (fun d => tlK δ tru b d (nR δ)) k))), some (.int (nI k))], w1)) (some (.inl (some (.int (nI (mlK δ tru b)))), w1)) 2 1 100
    (fun k hk f => by
      refine ⟨f, Nat.le_refl _, ?_⟩
      have l1 := tlK_le δ tru b k (nR δ)
      have l2 := mxF_le (fun d => tlK_le δ tru b d (nR δ)) k
      have ek : ¬ (100 : Int32) ≤ nI k := nI_ge hk (by decide)
      by_cases z : mxF (fun d => tlK δ tru b d (nR δ)) k < tlK δ tru b k (nR δ)
      · have m := nI_ge z (by omega)
        simp [jX11_cleanedBy, bX11_cleanedBy_0, bX11_cleanedBy_1, bX11_cleanedBy_2, i_aload, i_getf, i_iaload, i_icge, i_icle, i_iinc, i_iload, i_ireturn, i_istore, i_jmp, i_push, msk, lset1, lset2, clr, Value.category, Option.toList, List.cons_append, List.nil_append, List.length_cons, List.length_nil, ek, gf_eq hO1, mg_43, p2.rd hk (by decide), m, z, nI_1, mxF]
      · have m := nI_le (Nat.le_of_not_lt z) (by omega)
        simp [jX11_cleanedBy, bX11_cleanedBy_0, bX11_cleanedBy_1, bX11_cleanedBy_2, i_aload, i_getf, i_iaload, i_icge, i_icle, i_iinc, i_iload, i_ireturn, i_istore, i_jmp, i_push, msk, lset1, lset2, clr, Value.category, Option.toList, List.cons_append, List.nil_append, List.length_cons, List.length_nil, ek, gf_eq hO1, mg_43, p2.rd hk (by decide), m, z, nI_1, mxF])
    (fun f => by
      simp [jX11_cleanedBy, bX11_cleanedBy_0, bX11_cleanedBy_1, bX11_cleanedBy_2, i_aload, i_getf, i_iaload, i_icge, i_icle, i_iinc, i_iload, i_ireturn, i_istore, i_jmp, i_push, msk, lset1, lset2, clr, Value.category, Option.toList, List.cons_append, List.nil_append, List.length_cons, List.length_nil, (show (100 : Int32) ≤ nI 100 from by decide), mlK])
  refine ⟨w1, _, ?_, p2, p3⟩
  rw [← L N (by omega)]
  simp [fX11_cleanedBy, kX11_cleanedBy, ent, entp, jX11_cleanedBy, bX11_cleanedBy_0, bX11_cleanedBy_1, bX11_cleanedBy_2, i_aload, i_getf, i_iaload, i_icge, i_icle, i_iinc, i_iload, i_ireturn, i_istore, i_jmp, i_push, msk, lset1, lset2, clr, Value.category, Option.toList, List.cons_append, List.nil_append, List.length_cons, List.length_nil, hN, cvk_1 hO p1, nI_0, mxF]
theorem cleaned_r {g : GE} {w : Mem} {M fed kept : Nat} {fp : Int32} {tp : Nat → Int32} {rf : Nat → Nat} {δ : DE} {τ : TE} {im : Nat → TE} {x : Nat → Int32} (hg : FU g) (hd : WF δ) (hI : RI w M fed kept fp tp rf δ τ im x) (x0 : Int32) : RQo w M fed kept fp tp rf δ τ im (fX11_cleaned g [.ref M, .int x0] w) (cleanedO δ x0) := by
  obtain ⟨w0, hw0, I0, F0⟩ := hI.t0
  obtain ⟨b1, b2, b3, b4, b5, b6, b7, b8⟩ := id hd.1
  obtain ⟨hO, hXO, hRK, hRZ, hrf⟩ := id I0
  obtain ⟨x1', x3', x27, x32, x33, x34⟩ := id hXO
  obtain ⟨hTp, hD, hR, hCp, hHb, hKp, hRP⟩ := id hRK
  have hn := nR_le hd
  have x0' : (va_up x 0 0) 0 = 0 := va_up_self _ _ _
  obtain ⟨N, hN⟩ : ∃ N, g.1 = N + 16 := ⟨g.1 - 16, by omega⟩
  unfold cleanedO
  have q0 := isBlot_sp hg hO hD b4 x0
  cases h0 : rng x0 (δ.1 3) with
  | none =>
    rw [h0] at q0
    simp only [bI, Option.isSome, Bool.false_eq_true, if_false] at q0
    obtain ⟨w1, p1, p2, p3⟩ := bad1_sp hg I0 x0' (c := 1) (r := 1) (C := 1) (R := 1) rfl rfl (by decide) (by decide)
    refine RQo.no (v := .int 0) F0 p2 ?_ p3
    simp [fX11_cleaned, kX11_cleaned, ent, entp, jX11_cleaned, bX11_cleaned_0, bX11_cleaned_1, i_aload, i_ifeq, i_ifne, i_iload, i_ireturn, i_jmp, i_push, i_putf, msk, lset1, lset2, clr, Value.category, Option.toList, List.cons_append, List.nil_append, List.length_cons, List.length_nil, hN, st_0 hI.1, hw0, cvk_1 hO q0, cvk_3 hO p1]
  | some n0 =>
    rw [h0] at q0
    simp only [bI, Option.isSome, if_true] at q0
    obtain ⟨l0, e0⟩ := rng_some (by omega) h0
    subst e0
    dsimp only
    obtain ⟨-, ⟨c1, hH⟩, -⟩ := id hRZ
    obtain ⟨w1, c', p1, p2, p3⟩ := cleanedBy_sp hg hd hO x27 hD hR hH l0
    refine RQo.ok F0 (I0.h p3 p2) x0' ?_ (p3.mn fun a ha => by unfold rg; omega)
    simp [fX11_cleaned, kX11_cleaned, ent, entp, jX11_cleaned, bX11_cleaned_0, bX11_cleaned_1, i_aload, i_ifeq, i_ifne, i_iload, i_ireturn, i_jmp, i_push, i_putf, msk, lset1, lset2, clr, Value.category, Option.toList, List.cons_append, List.nil_append, List.length_cons, List.length_nil, hN, st_0 hI.1, hw0, cvk_1 hO q0, cvk_3 hO (bad0_sp hg hO x0' 1 1), cvk_1 hO p1]
def settlesO (δ : DE) : OUT := .inl (.int (oI (amnP tru (fun b => mlK δ tru b) (δ.1 3))))
theorem settles_c {g : GE} {w : Mem} {B E fed kept : Nat} {fp : Int32} {tp : Nat → Int32} {rf : Nat → Nat} {δ : DE} {τ : TE} {im : Nat → TE} {lev nG : Nat} (hg : GD g) (hE : B + 132 ≤ E) (hI : CI g w B E fed kept fp tp rf δ τ im lev nG) : CQ g w B E fed kept fp tp rf δ τ im lev nG (fX10_settles g [.ref B] w) (settlesO δ) := by
  have hg1 := hg.1
  obtain ⟨D, D', hCC, hCT, hCN, hCL, hCM⟩ := id hI
  obtain ⟨hDD, hB, hTp, hD, hD', hSc, hr, hd, hfd, hkp⟩ := id hCC
  obtain ⟨aM, aS, aG, n1', hG, hX⟩ := id hCT
  obtain ⟨b1, b2, b3, b4, b5, b6, b7, b8⟩ := id hd.1
  have hT := hG.tb
  have hn := nR_le hd
  obtain ⟨N, hN⟩ : ∃ N, g.1 = N + 12 := ⟨g.1 - 12, by omega⟩
  unfold settlesO
  obtain ⟨-, -, ⟨c3, hX3⟩, -⟩ := id hX
  obtain ⟨w', c', q1, q2, q3⟩ := cleanNext_sp hg1 hd hD hCC.dt hG hX3 (mk := 0) (sh := 0) (P := tru) (S := fun _ => false) (fun i _ => m00 _) (fun b _ => by simp)
  refine CQ.okw (hI.tl hE q3 q2) ?_ (q3.mn fun a ha => CF.in (by omega))
  simp only [Bool.not_false] at q1
  simp [fX10_settles, kX10_settles, ent, entp, bX10_settles_0, i_aload, i_getf, i_ireturn, i_push, msk, lset1, lset2, clr, Value.category, Option.toList, List.cons_append, List.nil_append, List.length_cons, List.length_nil, hN, gf_eq hB, cvk_2 hT q1]
theorem settles_r {g : GE} {w : Mem} {M fed kept : Nat} {fp : Int32} {tp : Nat → Int32} {rf : Nat → Nat} {δ : DE} {τ : TE} {im : Nat → TE} {x : Nat → Int32} (hg : FU g) (hd : WF δ) (hI : RI w M fed kept fp tp rf δ τ im x) : RQo w M fed kept fp tp rf δ τ im (fX11_settles g [.ref M] w) (settlesO δ) := by
  obtain ⟨w0, hw0, I0, F0⟩ := hI.t0
  obtain ⟨b1, b2, b3, b4, b5, b6, b7, b8⟩ := id hd.1
  obtain ⟨hO, hXO, hRK, hRZ, hrf⟩ := id I0
  obtain ⟨x1', x3', x27, x32, x33, x34⟩ := id hXO
  obtain ⟨hTp, hD, hR, hCp, hHb, hKp, hRP⟩ := id hRK
  have hn := nR_le hd
  have x0' : (va_up x 0 0) 0 = 0 := va_up_self _ _ _
  obtain ⟨N, hN⟩ : ∃ N, g.1 = N + 16 := ⟨g.1 - 16, by omega⟩
  unfold settlesO
  obtain ⟨N2, hN2⟩ : ∃ N, g.1 = N + 1 := ⟨g.1 - 1, by omega⟩
  obtain ⟨-, ⟨c1, hH⟩, -⟩ := id hRZ
  have L := lpR (fun f (s : Lv × Mem) => jX11_settles g f 1 [] s.1 s.2) (fun k s => s.1 = [some (.ref M), some (.int (oI (amnP tru (fun b => mlK δ tru b) k))), some (.int (zV (fun b => mlK δ tru b) (amnP tru (fun b => mlK δ tru b) k))), some (.int (nI k)), none] ∧ (∃ c, IA s.2 (M + 175) 100 c) ∧ Fr (fun a => a = M + 175) w0 s.2)
    (fun z => ∃ w' c', z = some (.inl (some (.int (oI (amnP tru (fun b => mlK δ tru b) (δ.1 3))))), w') ∧ IA w' (M + 175) 100 c' ∧ Fr (fun a => a = M + 175) w0 w') 3 1 (δ.1 3)
    (fun k s hk hI f => by
      obtain ⟨e1, ⟨c1, e2⟩, e3⟩ := hI
      have hOs := e3.at hO (by omega)
      have hDs := hD.fr e3 (fun i h1 h2 => by omega)
      have hRs := hR.fr e3 (fun i h1 h2 => by omega)
      have ek := nI_ge hk (by omega)
      obtain ⟨w2, c2, q1, q2, q3⟩ := cleanedBy_sp hg hd hOs x27 hDs hRs e2 hk
      have lk := mlK_le hd tru k
      cases hA : amnP tru (fun b => mlK δ tru b) k with
      | none =>
        refine Or.inr ⟨f, ([some (.ref M), some (.int (nI k)), some (.int (nI (mlK δ tru k))), some (.int (nI (k + 1))), none], w2), Nat.le_refl _, ⟨by simp [amnP, hA, oI, zV], ⟨c2, q2⟩, e3.tr q3⟩, ?_⟩
        simp [jX11_settles, bX11_settles_0, bX11_settles_1, bX11_settles_2, bX11_settles_3, i_aload, i_getf, i_iaload, i_iceq, i_icge, i_iclt, i_iinc, i_iload, i_ireturn, i_istore, i_jmp, i_push, i_putf, msk, lset1, lset2, clr, Value.category, Option.toList, List.cons_append, List.nil_append, List.length_cons, List.length_nil, e1, gf_eq hOs, mg_11, hDs.1.rc 3 3 rfl (by decide) (by decide), ek, cvk_1 hOs q1, hA, oI, zV, nI_1]
      | some j =>
        have lj := mlK_le hd tru j
        have ljk := amnP_lt hA
        have nn := nI_nn (y := j) (by omega)
        by_cases z : mlK δ tru k < mlK δ tru j
        · have m := nI_lt z (by omega)
          refine Or.inr ⟨f, ([some (.ref M), some (.int (nI k)), some (.int (nI (mlK δ tru k))), some (.int (nI (k + 1))), none], w2), Nat.le_refl _, ⟨by simp [amnP, hA, oI, zV, z], ⟨c2, q2⟩, e3.tr q3⟩, ?_⟩
          simp [jX11_settles, bX11_settles_0, bX11_settles_1, bX11_settles_2, bX11_settles_3, i_aload, i_getf, i_iaload, i_iceq, i_icge, i_iclt, i_iinc, i_iload, i_ireturn, i_istore, i_jmp, i_push, i_putf, msk, lset1, lset2, clr, Value.category, Option.toList, List.cons_append, List.nil_append, List.length_cons, List.length_nil, e1, gf_eq hOs, mg_11, hDs.1.rc 3 3 rfl (by decide) (by decide), ek, cvk_1 hOs q1, hA, oI, zV, nn, m, nI_1]
        · have m := nI_nlt (Nat.le_of_not_lt z) (by omega)
          refine Or.inr ⟨f + 1, ([some (.ref M), some (.int (nI j)), some (.int (nI (mlK δ tru j))), some (.int (nI (k + 1))), none], w2), by omega, ⟨by simp [amnP, hA, oI, zV, z], ⟨c2, q2⟩, e3.tr q3⟩, ?_⟩
          rw [show f + 3 = (f + 1) + 2 from rfl]
          generalize f + 1 = F
          simp [jX11_settles, bX11_settles_0, bX11_settles_1, bX11_settles_2, bX11_settles_3, i_aload, i_getf, i_iaload, i_iceq, i_icge, i_iclt, i_iinc, i_iload, i_ireturn, i_istore, i_jmp, i_push, i_putf, msk, lset1, lset2, clr, Value.category, Option.toList, List.cons_append, List.nil_append, List.length_cons, List.length_nil, e1, gf_eq hOs, mg_11, hDs.1.rc 3 3 rfl (by decide) (by decide), ek, cvk_1 hOs q1, hA, oI, zV, nn, m, nI_1])
    (fun s hI f => by
      obtain ⟨e1, ⟨c1, e2⟩, e3⟩ := hI
      have hOs := e3.at hO (by omega)
      have hDs := hD.fr e3 (fun i h1 h2 => by omega)
      refine ⟨s.2, c1, ?_, e2, e3⟩
      simp [jX11_settles, bX11_settles_0, bX11_settles_1, bX11_settles_2, bX11_settles_3, i_aload, i_getf, i_iaload, i_iceq, i_icge, i_iclt, i_iinc, i_iload, i_ireturn, i_istore, i_jmp, i_push, i_putf, msk, lset1, lset2, clr, Value.category, Option.toList, List.cons_append, List.nil_append, List.length_cons, List.length_nil, e1, gf_eq hOs, mg_11, hDs.1.rc 3 3 rfl (by decide) (by decide)])
  obtain ⟨w1, c', p1, p2, p3⟩ := L (δ.1 3) 0 ([some (.ref M), some (.int (-1)), some (.int 0), some (.int (nI 0)), none], w0) (by omega) ⟨by simp [amnP, oI, zV], ⟨c1, hH⟩, Fr.rf _ _⟩ N2 (by omega)
  simp only [nI_0] at p1
  refine RQo.ok F0 (I0.h p3 p2) x0' ?_ (p3.mn fun a ha => by unfold rg; omega)
  rw [← p1]
  simp [fX11_settles, kX11_settles, ent, entp, jX11_settles, bX11_settles_0, bX11_settles_1, bX11_settles_2, bX11_settles_3, i_aload, i_getf, i_iaload, i_iceq, i_icge, i_iclt, i_iinc, i_iload, i_ireturn, i_istore, i_jmp, i_push, i_putf, msk, lset1, lset2, clr, Value.category, Option.toList, List.cons_append, List.nil_append, List.length_cons, List.length_nil, hN2, st_0 hI.1, hw0]
