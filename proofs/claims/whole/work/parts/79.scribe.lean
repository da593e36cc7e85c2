/-! ===== the texts of the class, and its scribe's smallest steps ===== -/
theorem fnd_at {f : Nat → Nat} {n i : Nat} (h : inj f n) (hi : i < n) : fnd f n (f i) = some i := by
  cases hq : fnd f n (f i) with
  | none =>
    unfold fnd at hq
    have := List.find?_eq_none.mp hq i (List.mem_range.mpr hi)
    simp at this
  | some j =>
    have h1 := fnd_some hq
    rw [h j i h1.1 hi h1.2]
def sW : Nat → List Nat
  | 7 => wIs
  | 8 => wNot
  | k => vbW k
theorem sW_len : ∀ i, i < 9 → slen.getD i 0 = (sW i).length := by decide +kernel
theorem sW_at : ∀ i, i < 9 → ∀ j, j < (sW i).length → (sbyt.getD i []).getD j 0 = nI ((sW i).getD j 0) := by decide +kernel
theorem sW_c : ∀ i, i < 9 → ∀ j, j < (sW i).length → ((nI ((sW i).getD j 0) &&& 255).toUInt32 % 65536).toInt32 = nI ((sW i).getD j 0) ∧ ((nI ((sW i).getD j 0)).toUInt32 % 65536).toInt32 = nI ((sW i).getD j 0) := by decide +kernel
theorem sW_d : ∀ i, i < 9 → ∀ j, j < (sW i).length → (((nI ((sW i).getD j 0)).toUInt32 &&& Int32.toUInt32 255) % 65536 % 65536).toInt32 = (((nI ((sW i).getD j 0)).toUInt32 &&& Int32.toUInt32 255) % 65536).toInt32 ∧ (((nI ((sW i).getD j 0)).toUInt32 &&& Int32.toUInt32 255) % 65536).toInt32 = nI ((sW i).getD j 0) := by decide +kernel
theorem sW_6 : ∀ i, i < 9 → (sW i).length ≤ 6 := by decide +kernel
theorem str_cod {g : GE} (hg : GD g) {i : Nat} (hi : i < 9) (w : Mem) : fJ0_coder_7d493 g [.ref (g.2.2.1 i)] w = some (.inl (some (.int 0)), w) := by
  have h1 := fnd_at hg.2.2.1 (i := i) (by omega)
  obtain ⟨N, hN⟩ : ∃ N, g.1 = N + 2 := ⟨g.1 - 2, by have := hg.1; omega⟩
  generalize g.2.2.1 i = A at h1 ⊢
  simp [fJ0_coder_7d493, kJ0_coder_7d493, ent, entp, jJ0_coder_7d493, bJ0_coder_7d493_0, bJ0_coder_7d493_1, i_aload, i_ifeq, i_jmp, i_nret, i_push, i_scod, msk, lset1, lset2, clr, Value.category, Option.toList, List.cons_append, List.nil_append, List.length_cons, List.length_nil, hN, h1]
theorem str_l1 {g : GE} (hg : GD g) {i : Nat} (hi : i < 9) (w : Mem) : fJ0_isLatin1_aae02 g [.ref (g.2.2.1 i)] w = some (.inl (some (.int 1)), w) := by
  have h1 := fnd_at hg.2.2.1 (i := i) (by omega)
  obtain ⟨N, hN⟩ : ∃ N, g.1 = N + 2 := ⟨g.1 - 2, by have := hg.1; omega⟩
  generalize g.2.2.1 i = A at h1 ⊢
  simp [fJ0_isLatin1_aae02, kJ0_isLatin1_aae02, ent, entp, jJ0_isLatin1_aae02, bJ0_isLatin1_aae02_0, bJ0_isLatin1_aae02_1, bJ0_isLatin1_aae02_2, i_aload, i_ifeq, i_ifne, i_jmp, i_push, i_scod, i_zreturn, msk, lset1, lset2, clr, Value.category, Option.toList, List.cons_append, List.nil_append, List.length_cons, List.length_nil, hN, h1]
theorem cvSk_0 {F : FT} {g : GE} {k : KT} {a i : Nat} {r : List Value} {lv : Lv} {w w1 : Mem} {v : Option Value} (ha : fnd g.2.2.1 12 a = some i) (hF : F g [.ref a] w = some (.inl v, w1)) (hr : r.length ≤ 4) : i_cvS F g 0 k (.ref a :: r) lv w = k (v.toList ++ r) lv w1 := by
  unfold i_cvS
  simp only [List.drop, ha, hr, if_true, List.take, List.reverse_nil, hF]
theorem cvSk_1 {F : FT} {g : GE} {k : KT} {a i : Nat} {x : Value} {r : List Value} {lv : Lv} {w w1 : Mem} {v : Option Value} (ha : fnd g.2.2.1 12 a = some i) (hF : F g [.ref a, x] w = some (.inl v, w1)) (hr : r.length ≤ 4) : i_cvS F g 1 k (x :: .ref a :: r) lv w = k (v.toList ++ r) lv w1 := by
  unfold i_cvS
  simp only [List.drop, ha, hr, if_true, List.take, List.reverse_cons, List.reverse_nil, List.nil_append, hF]
theorem str_len {g : GE} (hg : GD g) {i : Nat} (hi : i < 9) (w : Mem) : fJ0_length_8abf5 g [.ref (g.2.2.1 i)] w = some (.inl (some (.int (nI (sW i).length))), w) := by
  have h1 := fnd_at hg.2.2.1 (i := i) (by omega)
  have h2 := fnd_at hg.2.2.2 (i := i) (by omega)
  have h3 := str_cod hg hi w
  have h4 : Int32.ofNat (slen[i]?.getD 0) = nI (sW i).length := by rw [← List.getD_eq_getElem?_getD, sW_len i hi]; rfl
  generalize g.2.2.1 i = A at h1 h3 ⊢
  simp [fJ0_length_8abf5, kJ0_length_8abf5, ent, entp, bJ0_length_8abf5_0, i_aload, i_ireturn, i_ishr, i_slen, i_sval, msk, lset1, lset2, clr, Value.category, Option.toList, List.cons_append, List.nil_append, List.length_cons, List.length_nil, h1, h2, h4, cvSk_0 h1 h3]
theorem str_ck {g : GE} (hg : GD g) {j m : Nat} (hj : j < m) (hm : m < 100) (w : Mem) : fJ0_checkIndex_df160 g [.int (nI j), .int (nI m)] w = some (.inl none, w) := by
  obtain ⟨N, hN⟩ : ∃ N, g.1 = N + 2 := ⟨g.1 - 2, by have := hg.1; omega⟩
  have h1 := nI_pos (n := j) (by omega)
  have h2 := nI_lt (a := j) (b := m) hj (by omega)
  have h3 : ∀ o : Option Nat, fJ3_checkIndex_8e157 g [.int (nI j), .int (nI m), va_rf o] w = some (.inl (some (.int (nI j))), w) := fun o => by
    cases o with
    | none =>
      show fJ3_checkIndex_8e157 g [.int (nI j), .int (nI m), .null] w = _
      simp [fJ3_checkIndex_8e157, kJ3_checkIndex_8e157, ent, entp, jJ3_checkIndex_8e157, bJ3_checkIndex_8e157_0, bJ3_checkIndex_8e157_1, i_aload, i_iclt, i_iflt, i_iload, i_ireturn, i_jmp, msk, lset1, lset2, clr, Value.category, Option.toList, List.cons_append, List.nil_append, List.length_cons, List.length_nil, hN, h1, h2]
    | some r =>
      show fJ3_checkIndex_8e157 g [.int (nI j), .int (nI m), .ref r] w = _
      simp [fJ3_checkIndex_8e157, kJ3_checkIndex_8e157, ent, entp, jJ3_checkIndex_8e157, bJ3_checkIndex_8e157_0, bJ3_checkIndex_8e157_1, i_aload, i_iclt, i_iflt, i_iload, i_ireturn, i_jmp, msk, lset1, lset2, clr, Value.category, Option.toList, List.cons_append, List.nil_append, List.length_cons, List.length_nil, hN, h1, h2]
  simp [fJ0_checkIndex_df160, kJ0_checkIndex_df160, ent, entp, bJ0_checkIndex_df160_0, i_iload, i_pop, i_push, i_return, msk, lset1, lset2, clr, Value.category, Option.toList, List.cons_append, List.nil_append, List.length_cons, List.length_nil, csk_3 (h3 _)]
theorem str_ch {g : GE} (hg : GD g) {i j : Nat} (hi : i < 9) (hj : j < (sW i).length) (w : Mem) : fJ1_charAt_3b067 g [.ref (g.2.2.2.1 i), .int (nI j)] w = some (.inl (some (.int (nI ((sW i).getD j 0)))), w) := by
  have h2 := fnd_at hg.2.2.2 (i := i) (by omega)
  have h6 := sW_6 i hi
  have h4 : Int32.ofNat (slen[i]?.getD 0) = nI (sW i).length := by rw [← List.getD_eq_getElem?_getD, sW_len i hi]; rfl
  have h5 : ix (nI j) (slen[i]?.getD 0) = some j := by rw [← List.getD_eq_getElem?_getD, sW_len i hi]; exact ix_nI hj (by omega)
  have h7 : (sbyt[i]?.getD [])[j]?.getD 0 = nI ((sW i).getD j 0) := by rw [← List.getD_eq_getElem?_getD, ← List.getD_eq_getElem?_getD]; exact sW_at i hi j hj
  have h8 := sW_d i hi j hj
  have h3 := str_ck hg hj (by omega) w
  generalize g.2.2.2.1 i = V at h2 ⊢
  generalize nI (sW i).length = K2 at h4 h3
  generalize nI ((sW i).getD j 0) = Y at h7 h8 ⊢
  simp [fJ1_charAt_3b067, kJ1_charAt_3b067, ent, entp, bJ1_charAt_3b067_0, i_aload, i_i2c, i_iand, i_iload, i_nret, i_push, i_sald, i_slen, msk, lset1, lset2, clr, Value.category, Option.toList, List.cons_append, List.nil_append, List.length_cons, List.length_nil, h2, h4, csk_2 h3, h5, h7]
  exact h8
theorem str_at {g : GE} (hg : GD g) {i j : Nat} (hi : i < 9) (hj : j < (sW i).length) (w : Mem) : fJ0_charAt_5068e g [.ref (g.2.2.1 i), .int (nI j)] w = some (.inl (some (.int (nI ((sW i).getD j 0)))), w) := by
  have h1 := fnd_at hg.2.2.1 (i := i) (by omega)
  have h2 := str_l1 hg hi w
  have h3 := str_ch hg hi hj w
  have h9 := (sW_c i hi j hj).2
  generalize nI ((sW i).getD j 0) = Y at h3 h9 ⊢
  generalize g.2.2.1 i = A at h1 h2 ⊢
  simp [fJ0_charAt_5068e, kJ0_charAt_5068e, ent, entp, bJ0_charAt_5068e_0, i_aload, i_ifeq, i_iload, i_nret, i_sval, msk, lset1, lset2, clr, Value.category, Option.toList, List.cons_append, List.nil_append, List.length_cons, List.length_nil, h1, cvSk_0 h1 h2, csk_2 h3, h9]
abbrev SO (w : Mem) (S tx n a : Nat) (s : Int32) (c : Int64) (D : Nat) (k p : Int32) : Prop := OB w S 6 [.ref tx, .int (nI n), .int (nI a), .int s, .long c, .ref D, .int k, .int p]
/-- the text -/
def TXT (w : Mem) (tx : Nat) (T : Nat → Nat) : Prop := IA w tx 600 (fun i => nI (T i)) ∧ ∀ i, i < 600 → T i < 256
theorem TXT.fr {S : Nat → Prop} {w w1 : Mem} {tx : Nat} {T : Nat → Nat} (h : TXT w tx T) (k : Fr S w w1) (q : ¬ S tx) : TXT w1 tx T := ⟨h.1.fr k q, h.2⟩
theorem TXT.rd {w : Mem} {tx a : Nat} {T : Nat → Nat} (h : TXT w tx T) (ha : a < 600) : gi w 0 tx (nI a) = some (nI (T a)) := h.1.rd ha (by decide)
theorem skipBlanks_sp {g : GE} (hg : FU g) {w : Mem} {S tx n a D : Nat} {s k p : Int32} {c : Int64} {T : Nat → Nat} (hO : SO w S tx n a s c D k p) (hT : TXT w tx T) (hS : S ≠ tx) (ha : a ≤ n) (hn : n ≤ 600) :
    ∃ w', fX6_skipBlanks g [.ref S] w = some (.inl none, w') ∧ SO w' S tx n (sb T n a) s c D k p ∧ Fr (fun q => q = S) w w' := by
  obtain ⟨N, hN⟩ : ∃ N, g.1 = N + 1 := ⟨g.1 - 1, by omega⟩
  have h1 : a ≤ sb T n a := ru_le ha
  have h2 : sb T n a ≤ n := ru_n ha
  have L := lpR (fun f (s : Lv × Mem) => jX6_skipBlanks g f 0 [] s.1 s.2) (fun i z => z.1 = [some (.ref S)] ∧ SO z.2 S tx n (a + i) s c D k p ∧ Fr (fun q => q = S) w z.2)
    (fun z => ∃ w', z = some (.inl none, w') ∧ SO w' S tx n (sb T n a) s c D k p ∧ Fr (fun q => q = S) w w') 1 2 (sb T n a - a)
    (fun i z hi hI f => by
      obtain ⟨e1, e2, e3⟩ := hI
      have q1 : isB (T (a + i)) = true := ru_p ha (Nat.le_add_right _ _) (show a + i < sb T n a by omega)
      simp only [isB, decide_eq_true_eq] at q1
      have rd := (hT.fr e3 (fun q => hS q.symm)).rd (a := a + i) (by omega)
      rw [q1] at rd
      have rd' : gi z.2 0 tx (nI (a + i)) = some 32 := rd
      have e4 := nI_ge (a := a + i) (b := n) (by omega) (by omega)
      refine Or.inr ⟨f, ([some (.ref S)], mset z.2 S (.inr (6, [.ref tx, .int (nI n), .int (nI (a + i + 1)), .int s, .long c, .ref D, .int k, .int p]))), Nat.le_refl _, ⟨rfl, ms_at _ _ _, e3.tr (Fr.ms _ _ rfl)⟩, ?_⟩
      simp [jX6_skipBlanks, bX6_skipBlanks_0, bX6_skipBlanks_1, i_aload, i_dup, i_getf, i_iadd, i_iaload, i_icge, i_icne, i_jmp, i_push, i_putf, i_return, msk, lset1, lset2, clr, Value.category, Option.toList, List.cons_append, List.nil_append, List.length_cons, List.length_nil, e1, gf_eq e2, e4, rd', sf_i e2, nI_1])
    (fun z hI f => by
      obtain ⟨e1, e2, e3⟩ := hI
      rw [show a + (sb T n a - a) = sb T n a by omega] at e2
      refine ⟨z.2, ?_, e2, e3⟩
      by_cases y : sb T n a < n
      · have q1 := ru_q ha y
        simp only [isB, decide_eq_true_eq] at q1
        have rd := (hT.fr e3 (fun q => hS q.symm)).rd (a := sb T n a) (by omega)
        have e4 := nI_ge (a := sb T n a) (b := n) (by omega) (by omega)
        have e5 : ¬ nI (T (sb T n a)) = 32 := mt (nI_eq (b := 32) (by have := hT.2 (sb T n a) (by omega); omega) (by decide)).mp q1
        generalize sb T n a = A at *
        simp [jX6_skipBlanks, bX6_skipBlanks_0, bX6_skipBlanks_1, i_aload, i_dup, i_getf, i_iadd, i_iaload, i_icge, i_icne, i_jmp, i_push, i_putf, i_return, msk, lset1, lset2, clr, Value.category, Option.toList, List.cons_append, List.nil_append, List.length_cons, List.length_nil, e1, gf_eq e2, e4, rd, e5]
      · have e4 := nI_le (a := n) (b := sb T n a) (by omega) (by omega)
        generalize sb T n a = A at *
        simp [jX6_skipBlanks, bX6_skipBlanks_0, bX6_skipBlanks_1, i_aload, i_dup, i_getf, i_iadd, i_iaload, i_icge, i_icne, i_jmp, i_push, i_putf, i_return, msk, lset1, lset2, clr, Value.category, Option.toList, List.cons_append, List.nil_append, List.length_cons, List.length_nil, e1, gf_eq e2, e4])
  obtain ⟨w', q1, q2, q3⟩ := L (sb T n a - a) 0 ([some (.ref S)], w) (by omega) ⟨rfl, hO, Fr.rf _ _⟩ (N + 1) (by omega)
  refine ⟨w', ?_, q2, q3⟩
  rw [← q1, ← hN]
  rfl
theorem standsHere_sp {g : GE} (hg : FU g) {w : Mem} {S tx n a D c0 : Nat} {s k p : Int32} {c : Int64} {T : Nat → Nat} (hO : SO w S tx n a s c D k p) (hT : TXT w tx T) (hn : n ≤ 600) (ha : a ≤ n) (hc : c0 < 256) :
    fX6_standsHere g [.ref S, .int (nI c0)] w = some (.inl (some (.int (if a < n ∧ T a = c0 then 1 else 0))), w) := by
  obtain ⟨N, hN⟩ : ∃ N, g.1 = N + 3 := ⟨g.1 - 3, by omega⟩
  by_cases y : a < n
  · have rd := hT.rd (a := a) (by omega)
    have e4 := nI_ge (a := a) (b := n) (by omega) (by omega)
    have e5 := nI_eq (a := T a) (b := c0) (by have := hT.2 a (by omega); omega) (by omega)
    by_cases z : T a = c0
    · rw [if_pos ⟨y, z⟩]
      rw [z] at rd
      simp [fX6_standsHere, kX6_standsHere, ent, entp, jX6_standsHere, bX6_standsHere_0, bX6_standsHere_1, bX6_standsHere_2, i_aload, i_getf, i_iaload, i_icge, i_icne, i_iload, i_jmp, i_push, i_zreturn, msk, lset1, lset2, clr, Value.category, Option.toList, List.cons_append, List.nil_append, List.length_cons, List.length_nil, hN, gf_eq hO, e4, rd]
    · rw [if_neg (fun q => z q.2)]
      have e6 := mt e5.mp z
      simp [fX6_standsHere, kX6_standsHere, ent, entp, jX6_standsHere, bX6_standsHere_0, bX6_standsHere_1, bX6_standsHere_2, i_aload, i_getf, i_iaload, i_icge, i_icne, i_iload, i_jmp, i_push, i_zreturn, msk, lset1, lset2, clr, Value.category, Option.toList, List.cons_append, List.nil_append, List.length_cons, List.length_nil, hN, gf_eq hO, e4, rd, e6]
  · rw [if_neg (fun q => y q.1)]
    have e4 := nI_le (a := n) (b := a) (by omega) (by omega)
    simp [fX6_standsHere, kX6_standsHere, ent, entp, jX6_standsHere, bX6_standsHere_0, bX6_standsHere_1, bX6_standsHere_2, i_aload, i_getf, i_iaload, i_icge, i_icne, i_iload, i_jmp, i_push, i_zreturn, msk, lset1, lset2, clr, Value.category, Option.toList, List.cons_append, List.nil_append, List.length_cons, List.length_nil, hN, gf_eq hO, e4]
theorem fail_sp {g : GE} {w : Mem} {S tx n a D : Nat} {s k p : Int32} {c : Int64} (hO : SO w S tx n a s c D k p) (k1 p1 : Int32) :
    ∃ w', fX6_fail g [.ref S, .int k1, .int p1] w = some (.inl (some (.int 0)), w') ∧ SO w' S tx n a s c D k1 p1 ∧ Fr (fun q => q = S) w w' := by
  have o1 : OB (mset w S (.inr (6, [.ref tx, .int (nI n), .int (nI a), .int s, .long c, .ref D, .int k1, .int p]))) S 6 [.ref tx, .int (nI n), .int (nI a), .int s, .long c, .ref D, .int k1, .int p] := ms_at _ _ _
  refine ⟨mset (mset w S (.inr (6, [.ref tx, .int (nI n), .int (nI a), .int s, .long c, .ref D, .int k1, .int p]))) S (.inr (6, [.ref tx, .int (nI n), .int (nI a), .int s, .long c, .ref D, .int k1, .int p1])), ?_, ms_at _ _ _, (Fr.ms (S := fun q => q = S) _ _ rfl).tr (Fr.ms _ _ rfl)⟩
  simp [fX6_fail, kX6_fail, ent, entp, bX6_fail_0, i_aload, i_iload, i_push, i_putf, i_zreturn, msk, lset1, lset2, clr, Value.category, Option.toList, List.cons_append, List.nil_append, List.length_cons, List.length_nil, sf_i hO, sf_i o1]
theorem isTooLong_sp {g : GE} (hg : FU g) {w : Mem} {S tx n a D s : Nat} {k p : Int32} {c : Int64} (hO : SO w S tx n a (nI s) c D k p) (hs : s ≤ a) (ha : a ≤ 600) :
    fX6_isTooLong g [.ref S] w = some (.inl (some (.int (if 9 < a - s then 1 else 0))), w) := by
  obtain ⟨N, hN⟩ : ∃ N, g.1 = N + 2 := ⟨g.1 - 2, by omega⟩
  have e1 : nI a - nI s = nI (a - s) := by
    rw [show a = (a - s) + s by omega, ← nI_add]
    simp
  by_cases y : 9 < a - s
  · rw [if_pos y]
    have e2 : ¬ nI (a - s) ≤ 9 := nI_ge (b := a - s) (a := 9) y (by omega)
    simp [fX6_isTooLong, kX6_isTooLong, ent, entp, jX6_isTooLong, bX6_isTooLong_0, bX6_isTooLong_1, i_aload, i_getf, i_icle, i_isub, i_jmp, i_push, i_zreturn, msk, lset1, lset2, clr, Value.category, Option.toList, List.cons_append, List.nil_append, List.length_cons, List.length_nil, hN, gf_eq hO, e1, e2]
  · rw [if_neg y]
    have e2 : nI (a - s) ≤ 9 := nI_le (b := 9) (by omega) (by decide)
    simp [fX6_isTooLong, kX6_isTooLong, ent, entp, jX6_isTooLong, bX6_isTooLong_0, bX6_isTooLong_1, i_aload, i_getf, i_icle, i_isub, i_jmp, i_push, i_zreturn, msk, lset1, lset2, clr, Value.category, Option.toList, List.cons_append, List.nil_append, List.length_cons, List.length_nil, hN, gf_eq hO, e1, e2]
theorem nI_sub {a s : Nat} (h : s ≤ a) : nI a - nI s = nI (a - s) := by
  rw [show a = (a - s) + s by omega, ← nI_add]
  simp
/-- whether the word read is that text -/
theorem isWord_sp {g : GE} (hg : GD g) {w : Mem} {S tx n a D s i : Nat} {k p : Int32} {c : Int64} {T : Nat → Nat} (hO : SO w S tx n a (nI s) c D k p) (hT : TXT w tx T) (hs : s ≤ a) (ha : a ≤ 600) (hi : i < 9) :
    fX6_isWord g [.ref S, .ref (g.2.2.1 i)] w = some (.inl (some (.int (if wdL T s (a - s) = sW i then 1 else 0))), w) := by
  have hg1 := hg.1
  have h1 := fnd_at hg.2.2.1 (i := i) (by omega)
  have h2 := fun w => str_len hg hi w
  have h6 := sW_6 i hi
  have e1 := nI_sub hs
  obtain ⟨N, hN⟩ : ∃ N, g.1 = N + 1 := ⟨g.1 - 1, by omega⟩
  by_cases y : a - s = (sW i).length
  · have ch := fun (j : Nat) (hj : j < (sW i).length) => str_at hg hi hj w
    have L := lpR (fun f (z : Lv) => jX6_isWord g f 1 [] z w) (fun j z => z = [some (.ref S), some (.ref (g.2.2.1 i)), some (.int (nI j))] ∧ ∀ m, m < j → T (s + m) = (sW i).getD m 0)
      (fun z => z = some (.inl (some (.int (if wdL T s (a - s) = sW i then 1 else 0))), w)) 1 1 (sW i).length
      (fun j z hj hI f => by
        obtain ⟨e3, e4⟩ := hI
        have rd := hT.rd (a := s + j) (by omega)
        have lt := hT.2 (s + j) (by omega)
        have e5 := nI_ge hj (by omega)
        have e7 := ch j hj
        have h2' := h2 w
        have es := nI_add s j
        have e8 : (sW i).getD j 0 < 256 := by
          have : ∀ i, i < 9 → ∀ j, j < (sW i).length → (sW i).getD j 0 < 256 := by decide +kernel
          exact this i hi j hj
        by_cases q : T (s + j) = (sW i).getD j 0
        · refine Or.inr ⟨f, [some (.ref S), some (.ref (g.2.2.1 i)), some (.int (nI (j + 1)))], Nat.le_refl _, ⟨rfl, fun m hm => ?_⟩, ?_⟩
          · by_cases r : m = j
            · rw [r]; exact q
            · exact e4 m (by omega)
          · rw [q] at rd
            generalize (sW i).getD j 0 = Y at *
            generalize g.2.2.1 i = A at *
            simp [jX6_isWord, bX6_isWord_0, bX6_isWord_1, i_aload, i_getf, i_iadd, i_iaload, i_iceq, i_icge, i_iinc, i_iload, i_istore, i_isub, i_jmp, i_push, i_zreturn, msk, lset1, lset2, clr, Value.category, Option.toList, List.cons_append, List.nil_append, List.length_cons, List.length_nil, e3, cvSk_0 h1 h2', e5, gf_eq hO, es, rd, cvSk_1 h1 e7, nI_1]
        · refine Or.inl ?_
          have q2 : ¬ wdL T s (a - s) = sW i := fun r => q (by rw [← r, wdL_at T s _ j (by omega)])
          rw [if_neg q2]
          have q3 := mt (nI_eq (a := T (s + j)) (b := (sW i).getD j 0) (by omega) (by omega)).mp q
          generalize (sW i).getD j 0 = Y at *
          generalize g.2.2.1 i = A at *
          simp [jX6_isWord, bX6_isWord_0, bX6_isWord_1, i_aload, i_getf, i_iadd, i_iaload, i_iceq, i_icge, i_iinc, i_iload, i_istore, i_isub, i_jmp, i_push, i_zreturn, msk, lset1, lset2, clr, Value.category, Option.toList, List.cons_append, List.nil_append, List.length_cons, List.length_nil, e3, cvSk_0 h1 h2', e5, gf_eq hO, es, rd, cvSk_1 h1 e7, q3])
      (fun z hI f => by
        obtain ⟨e3, e4⟩ := hI
        have h2' := h2 w
        have q2 : wdL T s (a - s) = sW i := by
          apply List.ext_getElem
          · rw [wdL_len, y]
          · intro j h3 h4
            have h5 := wdL_at T s (a - s) j (by rw [wdL_len] at h3; exact h3)
            rw [e4 j h4] at h5
            rw [List.getD_eq_getElem?_getD, List.getD_eq_getElem?_getD, List.getElem?_eq_getElem h3, List.getElem?_eq_getElem h4] at h5
            exact h5
        rw [if_pos q2]
        generalize g.2.2.1 i = A at *
        simp [jX6_isWord, bX6_isWord_0, bX6_isWord_1, i_aload, i_getf, i_iadd, i_iaload, i_iceq, i_icge, i_iinc, i_iload, i_istore, i_isub, i_jmp, i_push, i_zreturn, msk, lset1, lset2, clr, Value.category, Option.toList, List.cons_append, List.nil_append, List.length_cons, List.length_nil, e3, cvSk_0 h1 h2'])
    have L1 := L (sW i).length 0 [some (.ref S), some (.ref (g.2.2.1 i)), some (.int (nI 0))] (by omega) ⟨rfl, fun m hm => by omega⟩ N (by omega)
    simp only [nI_0] at L1
    rw [← L1]
    have h2' := h2 w
    rw [y] at e1
    generalize g.2.2.1 i = A at *
    simp [fX6_isWord, kX6_isWord, ent, entp, jX6_isWord, bX6_isWord_0, bX6_isWord_1, i_aload, i_getf, i_iadd, i_iaload, i_iceq, i_icge, i_iinc, i_iload, i_istore, i_isub, i_jmp, i_push, i_zreturn, msk, lset1, lset2, clr, Value.category, Option.toList, List.cons_append, List.nil_append, List.length_cons, List.length_nil, hN, gf_eq hO, e1, cvSk_0 h1 h2']
  · have q2 : ¬ wdL T s (a - s) = sW i := fun r => y (by rw [← r, wdL_len])
    rw [if_neg q2]
    have h2' := h2 w
    have e3 := mt (nI_eq (a := a - s) (b := (sW i).length) (by omega) (by omega)).mp y
    generalize g.2.2.1 i = A at *
    simp [fX6_isWord, kX6_isWord, ent, entp, jX6_isWord, bX6_isWord_0, bX6_isWord_1, i_aload, i_getf, i_iadd, i_iaload, i_iceq, i_icge, i_iinc, i_iload, i_istore, i_isub, i_jmp, i_push, i_zreturn, msk, lset1, lset2, clr, Value.category, Option.toList, List.cons_append, List.nil_append, List.length_cons, List.length_nil, hN, gf_eq hO, e1, cvSk_0 h1 h2', e3]
