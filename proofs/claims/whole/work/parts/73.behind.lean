/-! ===== more, weak: the reference ===== -/
theorem bh_0a {g : GE} {w : Mem} {M N : Nat} {V X Y : Int32} (hN : g.1 = N + 1) (en : X + 1 = Y) (y : ¬ 10 ≤ V) : fX11_behind g [.ref M, .int 0, .int V, .int X] w = jX11_behind g N 1 [.int 0, .int Y] [none, none, some (.int V), none, some (.int Y)] w := by
  simp [fX11_behind, kX11_behind, ent, entp, jX11_behind, bX11_behind_0, bX11_behind_1, bX11_behind_2, bX11_behind_3, bX11_behind_4, bX11_behind_5, bX11_behind_6, bX11_behind_7, i_aload, i_getf, i_iadd, i_iaload, i_iceq, i_icge, i_icne, i_ifne, i_iinc, i_iload, i_ireturn, i_istore, i_jmp, i_push, msk, lset1, lset2, clr, Value.category, Option.toList, List.cons_append, List.nil_append, List.length_cons, List.length_nil, hN, en, y]
theorem bh_0b {g : GE} {w : Mem} {M N : Nat} {V X Y : Int32} (hN : g.1 = N + 1) (en : X + 1 = Y) (y : 10 ≤ V) : fX11_behind g [.ref M, .int 0, .int V, .int X] w = jX11_behind g N 1 [.int 10, .int Y] [none, none, some (.int V), none, some (.int Y)] w := by
  simp [fX11_behind, kX11_behind, ent, entp, jX11_behind, bX11_behind_0, bX11_behind_1, bX11_behind_2, bX11_behind_3, bX11_behind_4, bX11_behind_5, bX11_behind_6, bX11_behind_7, i_aload, i_getf, i_iadd, i_iaload, i_iceq, i_icge, i_icne, i_ifne, i_iinc, i_iload, i_ireturn, i_istore, i_jmp, i_push, msk, lset1, lset2, clr, Value.category, Option.toList, List.cons_append, List.nil_append, List.length_cons, List.length_nil, hN, en, y]
theorem bh_1a {g : GE} {w : Mem} {N : Nat} {V Y l : Int32} (h : ¬ l ≤ Y) (y : 10 ≤ V) : jX11_behind g (N + 1) 1 [.int l, .int Y] [none, none, some (.int V), none, some (.int Y)] w = jX11_behind g N 3 [.int 10] [none, none, none, none, none] w := by
  simp [jX11_behind, bX11_behind_0, bX11_behind_1, bX11_behind_2, bX11_behind_3, bX11_behind_4, bX11_behind_5, bX11_behind_6, bX11_behind_7, i_aload, i_getf, i_iadd, i_iaload, i_iceq, i_icge, i_icne, i_ifne, i_iinc, i_iload, i_ireturn, i_istore, i_jmp, i_push, msk, lset1, lset2, clr, Value.category, Option.toList, List.cons_append, List.nil_append, List.length_cons, List.length_nil, h, y]
theorem bh_1b {g : GE} {w : Mem} {N : Nat} {V Y l : Int32} (h : l ≤ Y) (y : ¬ 10 ≤ V) : jX11_behind g (N + 1) 1 [.int l, .int Y] [none, none, some (.int V), none, some (.int Y)] w = jX11_behind g N 2 [.int 10, .int Y] [none, none, none, none, some (.int Y)] w := by
  simp [jX11_behind, bX11_behind_0, bX11_behind_1, bX11_behind_2, bX11_behind_3, bX11_behind_4, bX11_behind_5, bX11_behind_6, bX11_behind_7, i_aload, i_getf, i_iadd, i_iaload, i_iceq, i_icge, i_icne, i_ifne, i_iinc, i_iload, i_ireturn, i_istore, i_jmp, i_push, msk, lset1, lset2, clr, Value.category, Option.toList, List.cons_append, List.nil_append, List.length_cons, List.length_nil, h, y]
theorem bh_1c {g : GE} {w : Mem} {N : Nat} {V Y l : Int32} (h : l ≤ Y) (y : 10 ≤ V) : jX11_behind g (N + 1) 1 [.int l, .int Y] [none, none, some (.int V), none, some (.int Y)] w = jX11_behind g N 2 [.int 100, .int Y] [none, none, none, none, some (.int Y)] w := by
  simp [jX11_behind, bX11_behind_0, bX11_behind_1, bX11_behind_2, bX11_behind_3, bX11_behind_4, bX11_behind_5, bX11_behind_6, bX11_behind_7, i_aload, i_getf, i_iadd, i_iaload, i_iceq, i_icge, i_icne, i_ifne, i_iinc, i_iload, i_ireturn, i_istore, i_jmp, i_push, msk, lset1, lset2, clr, Value.category, Option.toList, List.cons_append, List.nil_append, List.length_cons, List.length_nil, h, y]
theorem bh_2a {g : GE} {w : Mem} {N : Nat} {Y h : Int32} (y : ¬ h ≤ Y) : jX11_behind g (N + 1) 2 [.int h, .int Y] [none, none, none, none, some (.int Y)] w = jX11_behind g N 3 [.int Y] [none, none, none, none, none] w := by
  simp [jX11_behind, bX11_behind_0, bX11_behind_1, bX11_behind_2, bX11_behind_3, bX11_behind_4, bX11_behind_5, bX11_behind_6, bX11_behind_7, i_aload, i_getf, i_iadd, i_iaload, i_iceq, i_icge, i_icne, i_ifne, i_iinc, i_iload, i_ireturn, i_istore, i_jmp, i_push, msk, lset1, lset2, clr, Value.category, Option.toList, List.cons_append, List.nil_append, List.length_cons, List.length_nil, y]
theorem bh_2b {g : GE} {w : Mem} {N : Nat} {Y h : Int32} (y : h ≤ Y) : jX11_behind g (N + 1) 2 [.int h, .int Y] [none, none, none, none, some (.int Y)] w = jX11_behind g N 3 [.int (-1)] [none, none, none, none, none] w := by
  simp [jX11_behind, bX11_behind_0, bX11_behind_1, bX11_behind_2, bX11_behind_3, bX11_behind_4, bX11_behind_5, bX11_behind_6, bX11_behind_7, i_aload, i_getf, i_iadd, i_iaload, i_iceq, i_icge, i_icne, i_ifne, i_iinc, i_iload, i_ireturn, i_istore, i_jmp, i_push, msk, lset1, lset2, clr, Value.category, Option.toList, List.cons_append, List.nil_append, List.length_cons, List.length_nil, y]
theorem bh_3 {g : GE} {w : Mem} {N : Nat} {v : Int32} : jX11_behind g (N + 1) 3 [.int v] [none, none, none, none, none] w = some (.inl (some (.int v)), w) := by
  simp [jX11_behind, bX11_behind_0, bX11_behind_1, bX11_behind_2, bX11_behind_3, bX11_behind_4, bX11_behind_5, bX11_behind_6, bX11_behind_7, i_aload, i_getf, i_iadd, i_iaload, i_iceq, i_icge, i_icne, i_ifne, i_iinc, i_iload, i_ireturn, i_istore, i_jmp, i_push, msk, lset1, lset2, clr, Value.category, Option.toList, List.cons_append, List.nil_append, List.length_cons, List.length_nil]
theorem behind0_sp {g : GE} (hg : FU g) {w : Mem} {M p n : Nat} {x : Nat → Int32} {δ : DE} (hd : WF δ) (hO : MO w M x) (hD : RD w M δ) (hp : p < δ.1 5) (hn : n ≤ 100) (h2 : δ.2 6 p = 2 → n = 0) (z : δ.2 6 p = 0) : ∃ o, isN (caP δ p) n o ∧ fX11_behind g [.ref M, .int (nI (δ.2 6 p)), .int (nI (v0K δ p)), .int (nI n - 1)] w = some (.inl (some (.int (oI o))), w) := by
  obtain ⟨b1, b2, b3, b4, b5, b6, b7, b8⟩ := id hd.1
  obtain ⟨h0, ⟨c6, h6, k6⟩, -⟩ := id hD
  have kd := kdP hd hp
  have dm := v0_dom hd hp
  have en : nI n - 1 + 1 = nI n := by
    rw [Int32.sub_add_cancel]
  obtain ⟨N, hN⟩ : ∃ N, g.1 = (N + 3) + 1 := ⟨g.1 - 4, by omega⟩
  have ec : ∀ v, caP δ p v = fl0 (wdK δ 0 (v0K δ p)) v := fun v => by unfold caP flP; rw [z]; rfl
  have l1 : v0K δ p < 100 := v0_l hd hp
  have m10 : (10 ≤ nI (v0K δ p)) ↔ 10 ≤ v0K δ p := nI_leI (a := 10) (by decide) (by omega)
  rw [z, nI_0]
  by_cases y : v0K δ p < 10
  · have ew : wdK δ 0 (v0K δ p) = 1 := by simp [wdK, y]
    have ec' : ∀ v, caP δ p v = decide (v ≤ 9) := fun v => by rw [ec, ew]; simp [fl0]; omega
    have y1 := mt m10.mp (by omega)
    have y2 : (0 : Int32) ≤ nI n := nI_pos' (by omega)
    have m2 : (10 ≤ nI n) ↔ 10 ≤ n := nI_leI (a := 10) (by decide) (by omega)
    by_cases y3 : n < 10
    · refine ⟨some n, ⟨fun h => (by cases h), fun u hu => ?_⟩, ?_⟩
      · cases hu
        exact ⟨Nat.le_refl _, by rw [ec']; simp; omega, fun x h1 h2 => by omega⟩
      · rw [bh_0a hN en y1, bh_1b y2 y1, bh_2a (mt m2.mp (by omega)), bh_3]; rfl
    · refine ⟨none, ⟨fun _ u hu => by rw [ec']; simp; omega, fun u hu => (by cases hu)⟩, ?_⟩
      rw [bh_0a hN en y1, bh_1b y2 y1, bh_2b (m2.mpr (by omega)), bh_3]; rfl
  · have ew : wdK δ 0 (v0K δ p) = 2 := by simp [wdK, y]
    have ec' : ∀ v, caP δ p v = decide (10 ≤ v ∧ v ≤ 99) := fun v => by rw [ec, ew]; simp [fl0]
    have y1 := m10.mpr (by omega)
    have m2 : (10 ≤ nI n) ↔ 10 ≤ n := nI_leI (a := 10) (by decide) (by omega)
    have m3 : (100 ≤ nI n) ↔ 100 ≤ n := nI_leI (a := 100) (by decide) (by omega)
    by_cases y2 : n < 10
    · refine ⟨some 10, ⟨fun h => (by cases h), fun u hu => ?_⟩, ?_⟩
      · cases hu
        exact ⟨by omega, by rw [ec']; decide, fun x h1 h2 => by rw [ec']; simp; omega⟩
      · rw [bh_0b hN en y1, bh_1a (mt m2.mp (by omega)) y1, bh_3]; rfl
    · by_cases y3 : n < 100
      · refine ⟨some n, ⟨fun h => (by cases h), fun u hu => ?_⟩, ?_⟩
        · cases hu
          exact ⟨Nat.le_refl _, by rw [ec']; simp; omega, fun x h1 h2 => by omega⟩
        · rw [bh_0b hN en y1, bh_1c (m2.mpr (by omega)) y1, bh_2a (mt m3.mp (by omega)), bh_3]; rfl
      · refine ⟨none, ⟨fun _ u hu => by rw [ec']; simp; omega, fun u hu => (by cases hu)⟩, ?_⟩
        rw [bh_0b hN en y1, bh_1c (m2.mpr (by omega)) y1, bh_2b (m3.mpr (by omega)), bh_3]; rfl
theorem behind1_sp {g : GE} (hg : FU g) {w : Mem} {M p n : Nat} {x : Nat → Int32} {δ : DE} (hd : WF δ) (hO : MO w M x) (hD : RD w M δ) (hp : p < δ.1 5) (hn : n ≤ 100) (h2 : δ.2 6 p = 2 → n = 0) (z : δ.2 6 p = 1) : ∃ o, isN (caP δ p) n o ∧ fX11_behind g [.ref M, .int (nI (δ.2 6 p)), .int (nI (v0K δ p)), .int (nI n - 1)] w = some (.inl (some (.int (oI o))), w) := by
  obtain ⟨b1, b2, b3, b4, b5, b6, b7, b8⟩ := id hd.1
  obtain ⟨h0, ⟨c6, h6, k6⟩, -⟩ := id hD
  have kd := kdP hd hp
  have dm := v0_dom hd hp
  have en : nI n - 1 + 1 = nI n := by
    rw [Int32.sub_add_cancel]
  obtain ⟨N, hN⟩ : ∃ N, g.1 = (N + 3) + 1 := ⟨g.1 - 4, by omega⟩
  have lv := (vr_VD hd (rr δ 0)).h hp z
  have lv' : v0K δ p < δ.1 0 := lv
  have ec : ∀ v, caP δ p v = fl1 (δ.1 0) (δ.2 0) (δ.2 0 (v0K δ p)) v := fun v => by unfold caP flP; rw [z]; rfl
  have wv := hd.2.2.2.2.2.1 _ lv'
  have ec' : ∀ v, caP δ p v = true ↔ (v < δ.1 0 ∧ δ.2 0 v = δ.2 0 (v0K δ p)) := fun v => by
    rw [ec]
    simp only [fl1, decide_eq_true_eq]
    constructor
    · rintro ⟨h1, h2 | h2⟩
      · omega
      · exact ⟨h1, h2⟩
    · rintro ⟨h1, h2⟩
      exact ⟨h1, Or.inr h2⟩
  have c0 := h0.rc 0 0 rfl (by decide) (by decide)
  have ra : gi w 0 (M + 6) (nI (v0K δ p)) = some (nI (δ.2 0 (v0K δ p))) := by rw [h6.rd (by omega) (by decide), k6 _ lv']
  rw [z]
  have L : ∀ k m, δ.1 0 - m ≤ k → n ≤ m → m ≤ 100 → (∀ u, n ≤ u → u < m → caP δ p u = false) → ∀ f, k + 3 ≤ f → ∃ o, isN (caP δ p) n o ∧ jX11_behind g f 5 [] [some (.ref M), none, some (.int (nI (v0K δ p))), none, some (.int (nI m))] w = some (.inl (some (.int (oI o))), w) := by
    intro k
    induction k with
    | zero =>
      intro m h1 h2 h3 h4 f hf
      obtain ⟨F, rfl⟩ : ∃ F, f = F + 3 := ⟨f - 3, by omega⟩
      have ge := nI_le (a := δ.1 0) (b := m) (by omega) (by omega)
      refine ⟨none, ⟨fun _ u hu => ?_, fun u hu => (by cases hu)⟩, ?_⟩
      · by_cases y : u < m
        · exact h4 u hu y
        · cases hc : caP δ p u with
          | false => rfl
          | true => have := ((ec' u).mp hc).1; omega
      · generalize nI (v0K δ p) = V
        simp [jX11_behind, bX11_behind_0, bX11_behind_1, bX11_behind_2, bX11_behind_3, bX11_behind_4, bX11_behind_5, bX11_behind_6, bX11_behind_7, i_aload, i_getf, i_iadd, i_iaload, i_iceq, i_icge, i_icne, i_ifne, i_iinc, i_iload, i_ireturn, i_istore, i_jmp, i_push, msk, lset1, lset2, clr, Value.category, Option.toList, List.cons_append, List.nil_append, List.length_cons, List.length_nil, gf_eq hO, mg_11, c0, ge, oI]
    | succ k ih =>
      intro m h1 h2 h3 h4 f hf
      by_cases y : m < δ.1 0
      · have ge := nI_ge y (by omega)
        have rb : gi w 0 (M + 6) (nI m) = some (nI (δ.2 0 m)) := by rw [h6.rd (by omega) (by decide), k6 _ y]
        have wm := hd.2.2.2.2.2.1 _ y
        have mq := nI_eq (a := δ.2 0 m) (b := δ.2 0 (v0K δ p)) (by omega) (by omega)
        by_cases y2 : δ.2 0 m = δ.2 0 (v0K δ p)
        · obtain ⟨F, rfl⟩ : ∃ F, f = F + 3 := ⟨f - 3, by omega⟩
          refine ⟨some m, ⟨fun h => (by cases h), fun u hu => ?_⟩, ?_⟩
          · cases hu
            exact ⟨h2, (ec' m).mpr ⟨y, y2⟩, h4⟩
          · rw [y2] at rb
            generalize nI (δ.2 0 (v0K δ p)) = W at ra rb
            generalize nI (v0K δ p) = V at ra ⊢
            simp [jX11_behind, bX11_behind_0, bX11_behind_1, bX11_behind_2, bX11_behind_3, bX11_behind_4, bX11_behind_5, bX11_behind_6, bX11_behind_7, i_aload, i_getf, i_iadd, i_iaload, i_iceq, i_icge, i_icne, i_ifne, i_iinc, i_iload, i_ireturn, i_istore, i_jmp, i_push, msk, lset1, lset2, clr, Value.category, Option.toList, List.cons_append, List.nil_append, List.length_cons, List.length_nil, gf_eq hO, mg_11, mg_13, c0, ge, rb, ra, oI]
        · obtain ⟨o, i1, i2⟩ := ih (m + 1) (by omega) (by omega) (by omega) (fun u hu hu2 => by
            by_cases y3 : u = m
            · subst y3
              cases hc : caP δ p u with
              | false => rfl
              | true => exact absurd ((ec' u).mp hc).2 y2
            · exact h4 u hu (by omega)) (f - 1) (by omega)
          refine ⟨o, i1, ?_⟩
          rw [← i2]
          obtain ⟨F, rfl⟩ : ∃ F, f = F + 1 := ⟨f - 1, by omega⟩
          rw [Nat.add_sub_cancel]
          have ne := mt mq.mp y2
          generalize nI (δ.2 0 (v0K δ p)) = W at ra ne
          generalize nI (v0K δ p) = V at ra ⊢
          simp [jX11_behind, bX11_behind_0, bX11_behind_1, bX11_behind_2, bX11_behind_3, bX11_behind_4, bX11_behind_5, bX11_behind_6, bX11_behind_7, i_aload, i_getf, i_iadd, i_iaload, i_iceq, i_icge, i_icne, i_ifne, i_iinc, i_iload, i_ireturn, i_istore, i_jmp, i_push, msk, lset1, lset2, clr, Value.category, Option.toList, List.cons_append, List.nil_append, List.length_cons, List.length_nil, gf_eq hO, mg_11, mg_13, c0, ge, rb, ra, ne, nI_1]
      · obtain ⟨F, rfl⟩ : ∃ F, f = F + 3 := ⟨f - 3, by omega⟩
        have ge := nI_le (a := δ.1 0) (b := m) (by omega) (by omega)
        refine ⟨none, ⟨fun _ u hu => ?_, fun u hu => (by cases hu)⟩, ?_⟩
        · by_cases y2 : u < m
          · exact h4 u hu y2
          · cases hc : caP δ p u with
            | false => rfl
            | true => have := ((ec' u).mp hc).1; omega
        · generalize nI (v0K δ p) = V
          simp [jX11_behind, bX11_behind_0, bX11_behind_1, bX11_behind_2, bX11_behind_3, bX11_behind_4, bX11_behind_5, bX11_behind_6, bX11_behind_7, i_aload, i_getf, i_iadd, i_iaload, i_iceq, i_icge, i_icne, i_ifne, i_iinc, i_iload, i_ireturn, i_istore, i_jmp, i_push, msk, lset1, lset2, clr, Value.category, Option.toList, List.cons_append, List.nil_append, List.length_cons, List.length_nil, gf_eq hO, mg_11, c0, ge, oI]
  obtain ⟨N1, hN1⟩ : ∃ N, g.1 = N + 1 := ⟨g.1 - 1, by omega⟩
  obtain ⟨o, i1, i2⟩ := L 4 n (by omega) (Nat.le_refl _) hn (fun u h1 h2 => by omega) N1 (by omega)
  refine ⟨o, i1, ?_⟩
  rw [← i2]
  generalize nI (v0K δ p) = V
  simp [fX11_behind, kX11_behind, ent, entp, jX11_behind, bX11_behind_0, bX11_behind_1, bX11_behind_2, bX11_behind_3, bX11_behind_4, bX11_behind_5, bX11_behind_6, bX11_behind_7, i_aload, i_getf, i_iadd, i_iaload, i_iceq, i_icge, i_icne, i_ifne, i_iinc, i_iload, i_ireturn, i_istore, i_jmp, i_push, msk, lset1, lset2, clr, Value.category, Option.toList, List.cons_append, List.nil_append, List.length_cons, List.length_nil, hN1, en, (show nI 1 = 1 from rfl)]
theorem behind2_sp {g : GE} (hg : FU g) {w : Mem} {M p n : Nat} {x : Nat → Int32} {δ : DE} (hd : WF δ) (hO : MO w M x) (hD : RD w M δ) (hp : p < δ.1 5) (hn : n ≤ 100) (h2 : δ.2 6 p = 2 → n = 0) (z : δ.2 6 p = 2) : ∃ o, isN (caP δ p) n o ∧ fX11_behind g [.ref M, .int (nI (δ.2 6 p)), .int (nI (v0K δ p)), .int (nI n - 1)] w = some (.inl (some (.int (oI o))), w) := by
  obtain ⟨b1, b2, b3, b4, b5, b6, b7, b8⟩ := id hd.1
  obtain ⟨h0, ⟨c6, h6, k6⟩, -⟩ := id hD
  have kd := kdP hd hp
  have dm := v0_dom hd hp
  have en : nI n - 1 + 1 = nI n := by
    rw [Int32.sub_add_cancel]
  obtain ⟨N, hN⟩ : ∃ N, g.1 = (N + 3) + 1 := ⟨g.1 - 4, by omega⟩
  have n0 := h2 z
  subst n0
  have lv := (vr_VD hd (rr δ 0)).i hp z
  have lv' : v0K δ p < 2 := lv
  have ec : ∀ v, caP δ p v = fl2 (if v0K δ p = 0 then 2 else 3) v := fun v => by unfold caP flP; rw [z]; rfl
  have ec' : ∀ v, caP δ p v = true ↔ v = v0K δ p := fun v => by
    rw [ec]
    simp only [fl2, decide_eq_true_eq]
    split <;> omega
  refine ⟨some (v0K δ p), ⟨fun h => (by cases h), fun u hu => ?_⟩, ?_⟩
  · cases hu
    refine ⟨Nat.zero_le _, (ec' _).mpr rfl, fun x _ hx => ?_⟩
    cases hc : caP δ p x with
    | false => rfl
    | true => have := (ec' x).mp hc; omega
  · rw [z]
    have e0 : nI 0 - 1 = -1 := by decide
    rw [e0]
    generalize hV : nI (v0K δ p) = V
    simp [fX11_behind, kX11_behind, ent, entp, jX11_behind, bX11_behind_0, bX11_behind_1, bX11_behind_2, bX11_behind_3, bX11_behind_4, bX11_behind_5, bX11_behind_6, bX11_behind_7, i_aload, i_getf, i_iadd, i_iaload, i_iceq, i_icge, i_icne, i_ifne, i_iinc, i_iload, i_ireturn, i_istore, i_jmp, i_push, msk, lset1, lset2, clr, Value.category, Option.toList, List.cons_append, List.nil_append, List.length_cons, List.length_nil, hN, (show nI 2 = 2 from rfl), oI, hV]
theorem behind_sp {g : GE} (hg : FU g) {w : Mem} {M p n : Nat} {x : Nat → Int32} {δ : DE} (hd : WF δ) (hO : MO w M x) (hD : RD w M δ) (hp : p < δ.1 5) (hn : n ≤ 100) (h2 : δ.2 6 p = 2 → n = 0) : ∃ o, isN (caP δ p) n o ∧ fX11_behind g [.ref M, .int (nI (δ.2 6 p)), .int (nI (v0K δ p)), .int (nI n - 1)] w = some (.inl (some (.int (oI o))), w) := by
  have kd := kdP hd hp
  have : δ.2 6 p = 0 ∨ δ.2 6 p = 1 ∨ δ.2 6 p = 2 := by omega
  rcases this with z | z | z
  · exact behind0_sp hg hd hO hD hp hn h2 z
  · exact behind1_sp hg hd hO hD hp hn h2 z
  · exact behind2_sp hg hd hO hD hp hn h2 z
