/-! ===== odds, likeliest, slips, likely ===== -/
/-- the last habit of a hand for a value meant, among the first n -/
def lhK (τ : TE) (h v : Nat) : Nat → Option Nat
  | 0 => none
  | n + 1 => if τ.2 3 n = h ∧ τ.2 5 n = v then some n else lhK τ h v n
theorem lhK_lt {τ : TE} {h v : Nat} : ∀ {n j : Nat}, lhK τ h v n = some j → j < n
  | 0, j, e => by cases e
  | n + 1, j, e => by
    unfold lhK at e
    split at e
    · cases e; omega
    · have := lhK_lt e; omega
def hbK (δ : DE) (τ : TE) (c v : Nat) : Option Nat := if δ.2 8 (τ.2 1 c) = 0 then lhK τ (τ.2 0 c) v (τ.1 1) else none
/-- in how many of 16 copy c would tell what it tells, if v stood there -/
def ocK (δ : DE) (τ : TE) (c v : Nat) : Nat := match hbK δ τ c v with
  | none => if τ.2 2 c = v then 16 else 0
  | some j => if τ.2 2 c = v then 16 - τ.2 6 j else if τ.2 2 c = τ.2 4 j then τ.2 6 j else 0
theorem ocK_le {δ : DE} {τ : TE} (hV : TV δ τ) (c v : Nat) : ocK δ τ c v ≤ 16 := by
  unfold ocK
  split
  · split <;> omega
  · next j hj =>
    have : j < τ.1 1 := by
      unfold hbK at hj
      split at hj
      · exact lhK_lt hj
      · cases hj
    have := (hV.2.2.2 j this).2.2.2.2.1
    split
    · omega
    · split <;> omega
theorem lh_1 {g : GE} {w : Mem} {a f : Nat} {h v y X c d : Int32} (z0 : ¬ y < 0) (hO : OB w a 8 [.ref (a + 1), .ref (a + 2), .ref (a + 3), .ref (a + 4), .ref (a + 5), .ref (a + 6), .ref (a + 7), .int c, .int d]) (rd0 : gi w 0 (a + 4) y = some X) (hne : ¬ X = h) : jX8_lastHabit g (f + 2) 1 [] [some (.ref a), some (.int h), some (.int v), some (.int y)] w = jX8_lastHabit g f 1 [] [some (.ref a), some (.int h), some (.int v), some (.int (y + (-1)))] w := by
  simp only [jX8_lastHabit, bX8_lastHabit_0, bX8_lastHabit_1, bX8_lastHabit_2, i_aload, i_getf, i_iaload, i_icne, i_iflt, i_iinc, i_iload, i_ireturn, i_istore, i_isub, i_jmp, i_push, msk, lset1, lset2, clr, Value.category, Option.toList, List.cons_append, List.nil_append, List.length_cons, List.length_nil, z0, gf_eq hO, rd0, hne, List.getElem?_cons_zero, List.getElem?_cons_succ, if_false, List.set_cons_zero, List.set_cons_succ, ne_eq, not_false_eq_true, if_true]
  rfl
theorem lh_2 {g : GE} {w : Mem} {a f : Nat} {h v y X c d : Int32} (z0 : ¬ y < 0) (hO : OB w a 8 [.ref (a + 1), .ref (a + 2), .ref (a + 3), .ref (a + 4), .ref (a + 5), .ref (a + 6), .ref (a + 7), .int c, .int d]) (rd0 : gi w 0 (a + 4) y = some h) (rd2 : gi w 0 (a + 6) y = some X) (hne : ¬ X = v) : jX8_lastHabit g (f + 2) 1 [] [some (.ref a), some (.int h), some (.int v), some (.int y)] w = jX8_lastHabit g f 1 [] [some (.ref a), some (.int h), some (.int v), some (.int (y + (-1)))] w := by
  simp only [jX8_lastHabit, bX8_lastHabit_0, bX8_lastHabit_1, bX8_lastHabit_2, i_aload, i_getf, i_iaload, i_icne, i_iflt, i_iinc, i_iload, i_ireturn, i_istore, i_isub, i_jmp, i_push, msk, lset1, lset2, clr, Value.category, Option.toList, List.cons_append, List.nil_append, List.length_cons, List.length_nil, z0, gf_eq hO, rd0, rd2, hne, List.getElem?_cons_zero, List.getElem?_cons_succ, if_false, List.set_cons_zero, List.set_cons_succ, ne_eq, not_false_eq_true, if_true, not_true_eq_false]
  rfl
theorem lastHabit_sp {g : GE} (hg : FU g) {w : Mem} {a h v : Nat} {τ : TE} (hT : TS w a τ) (hn : τ.1 1 ≤ 8) (hv : ∀ k, k < τ.1 1 → τ.2 3 k < 2 ^ 31 ∧ τ.2 5 k < 2 ^ 31) (lh : h < 2 ^ 31) (lv : v < 2 ^ 31) : fX8_lastHabit g [.ref a, .int (nI h), .int (nI v)] w = some (.inl (some (.int (oI (lhK τ h v (τ.1 1))))), w) := by
  obtain ⟨N, hN⟩ : ∃ N, g.1 = N + 1 := ⟨g.1 - 1, by omega⟩
  have a0 := hT.2.2 0 (by decide)
  have a2 := hT.2.2 2 (by decide)
  have L := lpR (fun f (s : Lv) => jX8_lastHabit g f 1 [] s w) (fun k s => s = [some (.ref a), some (.int (nI h)), some (.int (nI v)), some (.int (nI (τ.1 1 - k) - 1))] ∧ lhK τ h v (τ.1 1) = lhK τ h v (τ.1 1 - k))
    (fun z => z = some (.inl (some (.int (oI (lhK τ h v (τ.1 1))))), w)) 2 1 (τ.1 1)
    (fun k s hk hI f => by
      obtain ⟨e1, e2⟩ := hI
      obtain ⟨m, hm⟩ : ∃ m, τ.1 1 - k = m + 1 := ⟨τ.1 1 - k - 1, by omega⟩
      rw [hm] at e1 e2
      rw [nI_pred] at e1
      subst e1
      have em : τ.1 1 - (k + 1) = m := by omega
      have z0 : ¬ nI m < 0 := nI_pos (by omega)
      have hv1 := hv m (by omega)
      have m1 := nI_eq hv1.1 lh
      have m2 := nI_eq hv1.2 lv
      have ep : nI m + (-1) = nI m - 1 := by
        cases m with
        | zero => decide
        | succ k => rw [nI_pred, pk_m1]
      have rd0 : gi w 0 (a + 4) (nI m) = some (nI (τ.2 3 m)) := a0.rd (by omega) (by decide)
      have rd2 : gi w 0 (a + 6) (nI m) = some (nI (τ.2 5 m)) := a2.rd (by omega) (by decide)
      by_cases y1 : τ.2 3 m = h
      · by_cases y2 : τ.2 5 m = v
        · left
          have e9 : lhK τ h v (m + 1) = some m := by
            show (if _ then _ else _) = _
            rw [if_pos ⟨y1, y2⟩]
          rw [e2, e9]
          simp [jX8_lastHabit, bX8_lastHabit_0, bX8_lastHabit_1, bX8_lastHabit_2, i_aload, i_getf, i_iaload, i_icne, i_iflt, i_iinc, i_iload, i_ireturn, i_istore, i_isub, i_jmp, i_push, msk, lset1, lset2, clr, Value.category, Option.toList, List.cons_append, List.nil_append, List.length_cons, List.length_nil, z0, gf_eq hT.1, rd0, rd2, y1, y2, oI]
        · refine Or.inr ⟨f, [some (.ref a), some (.int (nI h)), some (.int (nI v)), some (.int (nI m + (-1)))], Nat.le_refl _, ⟨by rw [em, ep], ?_⟩, ?_⟩
          · rw [e2, em]
            show (if _ then _ else _) = _
            rw [if_neg (fun q => y2 q.2)]
          · rw [y1] at rd0
            exact lh_2 z0 hT.1 rd0 rd2 (mt m2.mp y2)
      · refine Or.inr ⟨f, [some (.ref a), some (.int (nI h)), some (.int (nI v)), some (.int (nI m + (-1)))], Nat.le_refl _, ⟨by rw [em, ep], ?_⟩, ?_⟩
        · rw [e2, em]
          show (if _ then _ else _) = _
          rw [if_neg (fun q => y1 q.1)]
        · exact lh_1 z0 hT.1 rd0 (mt m1.mp y1))
    (fun s hI f => by
      obtain ⟨e1, e2⟩ := hI
      rw [Nat.sub_self] at e1 e2
      subst e1
      rw [e2]
      simp [jX8_lastHabit, bX8_lastHabit_0, bX8_lastHabit_1, bX8_lastHabit_2, i_aload, i_getf, i_iaload, i_icne, i_iflt, i_iinc, i_iload, i_ireturn, i_istore, i_isub, i_jmp, i_push, msk, lset1, lset2, clr, Value.category, Option.toList, List.cons_append, List.nil_append, List.length_cons, List.length_nil, (show nI 0 - 1 < 0 from by decide), lhK, oI])
  have L1 := L (τ.1 1) 0 [some (.ref a), some (.int (nI h)), some (.int (nI v)), some (.int (nI (τ.1 1 - 0) - 1))] (by omega) ⟨rfl, rfl⟩ N (by omega)
  simp only [Nat.sub_zero] at L1
  rw [← L1]
  simp [fX8_lastHabit, kX8_lastHabit, ent, entp, jX8_lastHabit, bX8_lastHabit_0, bX8_lastHabit_1, bX8_lastHabit_2, i_aload, i_getf, i_iaload, i_icne, i_iflt, i_iinc, i_iload, i_ireturn, i_istore, i_isub, i_jmp, i_push, msk, lset1, lset2, clr, Value.category, Option.toList, List.cons_append, List.nil_append, List.length_cons, List.length_nil, hN, gf_eq hT.1]
theorem oddsOfCopy_sp {g : GE} (hg : FU g) {w : Mem} {a c v : Nat} {τ : TE} {δ : DE} (hd : WF δ) (hT : TS w a τ) (hV : TV δ τ) (hc : c < τ.1 0) (lv : v < 100) : fX8_oddsOfCopy g [.ref a, .int (nI c), .int (nI (δ.2 8 (τ.2 1 c))), .int (nI v)] w = some (.inl (some (.int (nI (ocK δ τ c v)))), w) := by
  obtain ⟨N, hN⟩ : ∃ N, g.1 = N + 4 := ⟨g.1 - 4, by omega⟩
  obtain ⟨v1, v2, v3, v4⟩ := id hV
  obtain ⟨c1, c2, c3⟩ := v3 c hc
  have a0 := hT.2.1 0 (by decide)
  have a2 := hT.2.1 2 (by decide)
  have a4 := hT.2.2 1 (by decide)
  have a6 := hT.2.2 3 (by decide)
  have kd := kd3 hd c2
  have q := lastHabit_sp hg (h := τ.2 0 c) (v := v) hT v2 (fun k hk => by have := v4 k hk; omega) (by omega) (by omega)
  have rd0 : gi w 0 (a + 1) (nI c) = some (nI (τ.2 0 c)) := a0.rd (by omega) (by decide)
  have rd2 : gi w 0 (a + 3) (nI c) = some (nI (τ.2 2 c)) := a2.rd (by omega) (by decide)
  have m1 := nI_eq (a := τ.2 2 c) (b := v) (by omega) (by omega)
  have fin : ∀ o : Option Nat, (∀ j, o = some j → j < τ.1 1) → ∀ F, jX8_oddsOfCopy g (F + 2) 1 [.int (oI o)] [some (.ref a), none, none, some (.int (nI v)), some (.int (nI (τ.2 2 c))), none] w = some (.inl (some (.int (nI (match o with
    | none => if τ.2 2 c = v then 16 else 0
    | some j => if τ.2 2 c = v then 16 - τ.2 6 j else if τ.2 2 c = τ.2 4 j then τ.2 6 j else 0)))), w) := fun o ho F => by
    cases o with
    | none =>
      by_cases y : τ.2 2 c = v
      · simp only [y, if_true]
        simp [jX8_oddsOfCopy, bX8_oddsOfCopy_0, bX8_oddsOfCopy_1, bX8_oddsOfCopy_2, bX8_oddsOfCopy_3, i_aload, i_getf, i_iaload, i_icne, i_ifne, i_iload, i_ireturn, i_istore, i_isub, i_jmp, i_push, msk, lset1, lset2, clr, Value.category, Option.toList, List.cons_append, List.nil_append, List.length_cons, List.length_nil, oI, (show nI 16 = 16 from rfl)]
      · simp only [y, if_false]
        simp [jX8_oddsOfCopy, bX8_oddsOfCopy_0, bX8_oddsOfCopy_1, bX8_oddsOfCopy_2, bX8_oddsOfCopy_3, i_aload, i_getf, i_iaload, i_icne, i_ifne, i_iload, i_ireturn, i_istore, i_isub, i_jmp, i_push, msk, lset1, lset2, clr, Value.category, Option.toList, List.cons_append, List.nil_append, List.length_cons, List.length_nil, oI, mt m1.mp y, nI_0]
    | some j =>
      have lj := ho j rfl
      obtain ⟨j1, j2, j3, j4, j5, j6⟩ := v4 j lj
      have nn := nI_nn (y := j) (by omega)
      have rd4 : gi w 0 (a + 5) (nI j) = some (nI (τ.2 4 j)) := a4.rd (by omega) (by decide)
      have rd6 : gi w 0 (a + 7) (nI j) = some (nI (τ.2 6 j)) := a6.rd (by omega) (by decide)
      have m3 := nI_eq (a := τ.2 2 c) (b := τ.2 4 j) (by omega) (by omega)
      by_cases y : τ.2 2 c = v
      · have e16 : (16 : Int32) - nI (τ.2 6 j) = nI (16 - τ.2 6 j) := pk_sub (a := 16) (b := τ.2 6 j) (by omega)
        simp only [y, if_true]
        simp [jX8_oddsOfCopy, bX8_oddsOfCopy_0, bX8_oddsOfCopy_1, bX8_oddsOfCopy_2, bX8_oddsOfCopy_3, i_aload, i_getf, i_iaload, i_icne, i_ifne, i_iload, i_ireturn, i_istore, i_isub, i_jmp, i_push, msk, lset1, lset2, clr, Value.category, Option.toList, List.cons_append, List.nil_append, List.length_cons, List.length_nil, oI, nn, gf_eq hT.1, rd6, e16]
      · simp only [y, if_false]
        by_cases y2 : τ.2 2 c = τ.2 4 j
        · simp only [y2, if_true]
          have y' : ¬ nI (τ.2 4 j) = nI v := by rw [← y2]; exact mt m1.mp y
          simp [jX8_oddsOfCopy, bX8_oddsOfCopy_0, bX8_oddsOfCopy_1, bX8_oddsOfCopy_2, bX8_oddsOfCopy_3, i_aload, i_getf, i_iaload, i_icne, i_ifne, i_iload, i_ireturn, i_istore, i_isub, i_jmp, i_push, msk, lset1, lset2, clr, Value.category, Option.toList, List.cons_append, List.nil_append, List.length_cons, List.length_nil, oI, nn, gf_eq hT.1, rd4, rd6, y']
        · simp only [y2, if_false]
          simp [jX8_oddsOfCopy, bX8_oddsOfCopy_0, bX8_oddsOfCopy_1, bX8_oddsOfCopy_2, bX8_oddsOfCopy_3, i_aload, i_getf, i_iaload, i_icne, i_ifne, i_iload, i_ireturn, i_istore, i_isub, i_jmp, i_push, msk, lset1, lset2, clr, Value.category, Option.toList, List.cons_append, List.nil_append, List.length_cons, List.length_nil, oI, nn, gf_eq hT.1, rd4, rd6, mt m1.mp y, mt m3.mp y2, nI_0]
  unfold ocK hbK
  by_cases z : δ.2 8 (τ.2 1 c) = 0
  · rw [if_pos z]
    have z1 : nI (δ.2 8 (τ.2 1 c)) = 0 := by rw [z]; exact nI_0
    rw [← fin _ (fun j hj => lhK_lt hj) (N + 1)]
    simp [fX8_oddsOfCopy, kX8_oddsOfCopy, ent, entp, jX8_oddsOfCopy, bX8_oddsOfCopy_0, bX8_oddsOfCopy_1, bX8_oddsOfCopy_2, bX8_oddsOfCopy_3, i_aload, i_getf, i_iaload, i_icne, i_ifne, i_iload, i_ireturn, i_istore, i_isub, i_jmp, i_push, msk, lset1, lset2, clr, Value.category, Option.toList, List.cons_append, List.nil_append, List.length_cons, List.length_nil, hN, gf_eq hT.1, rd2, rd0, z1, cvk_2 hT.1 q]
  · rw [if_neg z]
    have z1 := nI_ne0 (n := δ.2 8 (τ.2 1 c)) (by omega) (by omega)
    rw [← fin none (fun j hj => by cases hj) (N + 1)]
    simp [fX8_oddsOfCopy, kX8_oddsOfCopy, ent, entp, jX8_oddsOfCopy, bX8_oddsOfCopy_0, bX8_oddsOfCopy_1, bX8_oddsOfCopy_2, bX8_oddsOfCopy_3, i_aload, i_getf, i_iaload, i_icne, i_ifne, i_iload, i_ireturn, i_istore, i_isub, i_jmp, i_push, msk, lset1, lset2, clr, Value.category, Option.toList, List.cons_append, List.nil_append, List.length_cons, List.length_nil, hN, gf_eq hT.1, rd2, z1, oI]
/-- what the first n copies say together to digit d of blot b -/
def wgK (δ : DE) (τ : TE) (b d : Nat) : Nat → Nat
  | 0 => 1
  | n + 1 => if τ.2 1 n = b then wgK δ τ b d n * ocK δ τ n (δ.2 (20 + b) d) else wgK δ τ b d n
def wpK (δ : DE) (τ : TE) (b d : Nat) : Nat → Nat
  | 0 => 0
  | n + 1 => if τ.2 1 n = b ∧ τ.2 2 n ≠ δ.2 (20 + b) d then wpK δ τ b d n + 1 else wpK δ τ b d n
theorem wpK_le (δ : DE) (τ : TE) (b d : Nat) : ∀ n, wpK δ τ b d n ≤ n
  | 0 => Nat.le_refl _
  | n + 1 => by
    have := wpK_le δ τ b d n
    unfold wpK
    split <;> omega
def prQ (f : Nat → Nat) : Nat → Nat
  | 0 => 1
  | n + 1 => prQ f n * f n
theorem prQ_cg {f h : Nat → Nat} : ∀ {n : Nat}, (∀ i, i < n → f i = h i) → prQ f n = prQ h n
  | 0, _ => rfl
  | n + 1, e => by
    unfold prQ
    rw [prQ_cg (n := n) fun i hi => e i (by omega), e n (by omega)]
theorem prQ_up {f : Nat → Nat} {b x : Nat} : ∀ {n : Nat}, b < n → prQ (fun i => if b = i then f i * x else f i) n = prQ f n * x
  | 0, h => by omega
  | n + 1, h => by
    unfold prQ
    by_cases z : b = n
    · subst z
      rw [prQ_cg (h := f) fun i hi => if_neg (by omega), if_pos rfl, Nat.mul_assoc]
    · rw [prQ_up (n := n) (by omega), if_neg z, Nat.mul_assoc, Nat.mul_comm x, ← Nat.mul_assoc]
theorem prQ_1 : ∀ n, prQ (fun _ => 1) n = 1
  | 0 => rfl
  | n + 1 => by unfold prQ; rw [prQ_1 n]
theorem prQ_le {f : Nat → Nat} (h : ∀ i, f i ≤ 16) : ∀ n, prQ f n ≤ 16 ^ n
  | 0 => Nat.le_refl _
  | n + 1 => by
    unfold prQ
    rw [Nat.pow_succ]
    exact Nat.mul_le_mul (prQ_le h n) (h n)
/-- how likely reading i is -/
def odK (δ : DE) (τ : TE) (i : Nat) : Nat := prQ (fun c => ocK δ τ c (δ.2 (20 + τ.2 1 c) (dgR δ i (τ.2 1 c)))) (τ.1 0)
theorem odK_le {δ : DE} {τ : TE} (hV : TV δ τ) (i : Nat) : odK δ τ i ≤ 2 ^ 48 := by
  have h := prQ_le (f := fun c => ocK δ τ c (δ.2 (20 + τ.2 1 c) (dgR δ i (τ.2 1 c)))) (fun c => ocK_le hV _ _) (τ.1 0)
  have h2 : 16 ^ τ.1 0 ≤ 16 ^ 12 := Nat.pow_le_pow_right (by decide) hV.1
  have h3 : (16 : Nat) ^ 12 = 2 ^ 48 := by decide
  unfold odK
  omega
theorem wg_od {δ : DE} {τ : TE} (hV : TV δ τ) (i : Nat) : ∀ n, n ≤ τ.1 0 → prQ (fun b => wgK δ τ b (dgR δ i b) n) (δ.1 3) = prQ (fun c => ocK δ τ c (δ.2 (20 + τ.2 1 c) (dgR δ i (τ.2 1 c)))) n
  | 0, _ => prQ_1 _
  | n + 1, h => by
    have c2 := (hV.2.2.1 n (by omega)).2.1
    have ih := wg_od hV i n (by omega)
    have e : prQ (fun b => wgK δ τ b (dgR δ i b) (n + 1)) (δ.1 3) = prQ (fun b => if τ.2 1 n = b then wgK δ τ b (dgR δ i b) n * ocK δ τ n (δ.2 (20 + τ.2 1 n) (dgR δ i (τ.2 1 n))) else wgK δ τ b (dgR δ i b) n) (δ.1 3) := prQ_cg fun b hb => by
      show (if τ.2 1 n = b then _ else _) = _
      by_cases z : τ.2 1 n = b
      · subst z; rw [if_pos rfl]
      · rw [if_neg z, if_neg z]
    rw [e, prQ_up c2, ih]
    rfl
/-- how many copies slip by reading i -/
def slK (δ : DE) (τ : TE) (i : Nat) : Nat := cntF (fun c => decide (τ.2 2 c ≠ δ.2 (20 + τ.2 1 c) (dgR δ i (τ.2 1 c)))) (τ.1 0)
theorem sumH_cg {f h : Nat → Nat} : ∀ {n : Nat}, (∀ i, i < n → f i = h i) → sumH f n = sumH h n
  | 0, _ => rfl
  | n + 1, e => by
    unfold sumH
    rw [sumH_cg (n := n) fun i hi => e i (by omega), e n (by omega)]
theorem ws_sl {δ : DE} {τ : TE} (hV : TV δ τ) (i : Nat) : ∀ n, n ≤ τ.1 0 → sumH (fun b => wpK δ τ b (dgR δ i b) n) (δ.1 3) = cntF (fun c => decide (τ.2 2 c ≠ δ.2 (20 + τ.2 1 c) (dgR δ i (τ.2 1 c)))) n
  | 0, _ => sumH_0 _
  | n + 1, h => by
    have c2 := (hV.2.2.1 n (by omega)).2.1
    have ih := ws_sl hV i n (by omega)
    have e : sumH (fun b => wpK δ τ b (dgR δ i b) (n + 1)) (δ.1 3) = sumH (fun b => wpK δ τ b (dgR δ i b) n + (if τ.2 1 n = b then (if τ.2 2 n ≠ δ.2 (20 + τ.2 1 n) (dgR δ i (τ.2 1 n)) then 1 else 0) else 0)) (δ.1 3) := sumH_cg fun b hb => by
      show (if τ.2 1 n = b ∧ _ then _ else _) = _
      by_cases z : τ.2 1 n = b
      · subst z
        simp only [true_and, if_true]
        split <;> rfl
      · rw [if_neg (fun q => z q.1), if_neg z]
        rfl
    rw [e, sumH_add, ih, sumH_one, if_pos c2]
    simp only [cntF, decide_eq_true_eq]
/-- the class's scales -/
def SCL (w : Mem) (S n : Nat) (δ : DE) (τ : TE) (m : Nat) : Prop := OB w S 5 [.ref (S + 1), .ref (S + 2), .int (nI n)] ∧ (∃ c, LA w (S + 1) 800 c ∧ ∀ b d, b < δ.1 3 → d < δ.2 10 b → c (b * 100 + d) = lN (wgK δ τ b d m)) ∧ (∃ c, IA w (S + 2) 800 c ∧ ∀ b d, b < δ.1 3 → d < δ.2 10 b → c (b * 100 + d) = nI (wpK δ τ b d m))
theorem SCL.fr {S' : Nat → Prop} {w w1 : Mem} {S n m : Nat} {δ : DE} {τ : TE} (h : SCL w S n δ τ m) (k : Fr S' w w1) (q : ∀ i, i < 3 → ¬ S' (S + i)) : SCL w1 S n δ τ m := by
  obtain ⟨h1, ⟨c1, h2, k2⟩, ⟨c2, h3, k3⟩⟩ := h
  exact ⟨k.at h1 (q 0 (by decide)), ⟨c1, h2.fr k (q 1 (by decide)), k2⟩, ⟨c2, h3.fr k (q 2 (by decide)), k3⟩⟩
theorem fillL_sp {g : GE} (hg : FU g) {w : Mem} {a n : Nat} {c : Nat → Int64} (h : LA w a n c) (hn : n ≤ 900000) (x : Int64) : ∃ w', fJ7_fill_d0a16 g [.ref a, .long x] w = some (.inl none, w') ∧ LA w' a n (fun _ => x) ∧ Fr (fun q => q = a) w w' := by
  obtain ⟨N, hN⟩ : ∃ N, g.1 = N + 1 := ⟨g.1 - 1, by omega⟩
  have L := lpR (fun f (s : Lv × Mem) => jJ7_fill_d0a16 g f 1 [] s.1 s.2) (fun i s => s.1 = [some (.ref a), some (.long x), none, some (.int (nI i)), some (.int (nI n))] ∧ (∃ c', LA s.2 a n c' ∧ ∀ j, j < i → c' j = x) ∧ Fr (fun q => q = a) w s.2)
    (fun z => ∃ w', z = some (.inl none, w') ∧ LA w' a n (fun _ => x) ∧ Fr (fun q => q = a) w w') 1 1 n
    (fun i s hi hI f => by
      obtain ⟨e1, ⟨c', e2, e3⟩, e4⟩ := hI
      refine Or.inr ⟨f, ([some (.ref a), some (.long x), none, some (.int (nI (i + 1))), some (.int (nI n))], wl s.2 a i x), Nat.le_refl _, ⟨rfl, ⟨_, e2.up i x, fun j hj => ?_⟩, e4.tr (Fr.wl _ _ _ rfl)⟩, ?_⟩
      · by_cases y : j = i
        · subst y; exact va_up_self _ _ _
        · rw [va_up_ne _ _ y]; exact e3 j (by omega)
      · simp [jJ7_fill_d0a16, bJ7_fill_d0a16_0, bJ7_fill_d0a16_1, i_alen, i_aload, i_icge, i_iinc, i_iload, i_istore, i_jmp, i_lastore, i_lload, i_push, i_return, msk, lset1, lset2, clr, Value.category, Option.toList, List.cons_append, List.nil_append, List.length_cons, List.length_nil, e1, nI_ge hi (by omega), e2.wr hi (by omega), nI_1])
    (fun s hI f => by
      obtain ⟨e1, ⟨c', e2, e3⟩, e4⟩ := hI
      refine ⟨s.2, ?_, e2.cg fun j hj => e3 j hj, e4⟩
      simp [jJ7_fill_d0a16, bJ7_fill_d0a16_0, bJ7_fill_d0a16_1, i_alen, i_aload, i_icge, i_iinc, i_iload, i_istore, i_jmp, i_lastore, i_lload, i_push, i_return, msk, lset1, lset2, clr, Value.category, Option.toList, List.cons_append, List.nil_append, List.length_cons, List.length_nil, e1])
  have L1 := L n 0 ([some (.ref a), some (.long x), none, some (.int (nI 0)), some (.int (nI n))], w) (by omega) ⟨rfl, ⟨c, h, fun j hj => by omega⟩, Fr.rf _ _⟩ N (by omega)
  simp only [nI_0] at L1
  have e : fJ7_fill_d0a16 g [.ref a, .long x] w = jJ7_fill_d0a16 g N 1 [] [some (.ref a), some (.long x), none, some (.int 0), some (.int (nI n))] w := by
    obtain ⟨f0, h1, -⟩ := id h
    simp [fJ7_fill_d0a16, kJ7_fill_d0a16, ent, entp, jJ7_fill_d0a16, bJ7_fill_d0a16_0, bJ7_fill_d0a16_1, i_alen, i_aload, i_icge, i_iinc, i_iload, i_istore, i_jmp, i_lastore, i_lload, i_push, i_return, msk, lset1, lset2, clr, Value.category, Option.toList, List.cons_append, List.nil_append, List.length_cons, List.length_nil, hN, h1]
    rfl
  rw [e]
  exact L1
theorem i100 (b d : Nat) : nI b * 100 + nI d = nI (b * 100 + d) := by
  have e : nI b * 100 = nI (b * 100) := pk_mul b 100
  rw [e, nI_add]
theorem ix100 {b d b' d' : Nat} (hd : d < 100) (hd' : d' < 100) (h : b * 100 + d = b' * 100 + d') : b = b' ∧ d = d' := by omega
