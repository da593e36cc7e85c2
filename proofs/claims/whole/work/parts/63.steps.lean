/-! ===== steps ===== -/
theorem pkN_or {f h : Nat → Nat} {wd : Nat} : ∀ {n : Nat}, (∀ b, b < n → f b < 2 ^ wd) → (∀ b, b < n → h b < 2 ^ wd) → pkN f wd n ||| pkN h wd n = pkN (fun b => f b ||| h b) wd n
  | 0, _, _ => by rw [pkN_0, pkN_0, pkN_0]; rfl
  | n + 1, h1, h2 => by
    have ih := pkN_or (n := n) (fun b hb => h1 b (by omega)) (fun b hb => h2 b (by omega))
    have l1 := pkN_lt (n := n) (fun b hb => h1 b (by omega))
    have l2 := pkN_lt (n := n) (fun b hb => h2 b (by omega))
    rw [pkN_s, pkN_s, pkN_s, ← ih]
    apply Nat.eq_of_testBit_eq
    intro j
    rw [Nat.testBit_or, Nat.add_comm (pkN f wd n), Nat.mul_comm (f n), Nat.testBit_two_pow_mul_add _ l1, Nat.add_comm (pkN h wd n), Nat.mul_comm (h n), Nat.testBit_two_pow_mul_add _ l2, Nat.add_comm (pkN f wd n ||| pkN h wd n), Nat.mul_comm (f n ||| h n), Nat.testBit_two_pow_mul_add _ (Nat.or_lt_two_pow l1 l2)]
    split
    · rw [Nat.testBit_or]
    · rw [Nat.testBit_or]
theorem pkN_inj {f h : Nat → Nat} {wd n : Nat} (hf : ∀ b, b < n → f b < 2 ^ wd) (hh : ∀ b, b < n → h b < 2 ^ wd) (e : pkN f wd n = pkN h wd n) : ∀ b, b < n → f b = h b := fun b hb => by
  rw [← pkN_dig hf b hb, ← pkN_dig hh b hb, e]
theorem pkN_one {wd b x : Nat} : ∀ n, pkN (fun c => if c = b then x else 0) wd n = if b < n then x * 2 ^ (wd * b) else 0
  | 0 => by simp [pkN_0]
  | n + 1 => by
    rw [pkN_s, pkN_one n]
    by_cases h1 : n = b
    · subst h1; simp
    · by_cases h2 : b < n
      · simp [h1, h2, Nat.lt_succ_of_lt h2]
      · simp [h1, h2, show ¬ b < n + 1 by omega]
def mkS (n : Nat) (S : Nat → Bool) : Nat := pkN (fun b => if S b = true then 255 else 0) 8 n
theorem l255 (c : Prop) [Decidable c] : (if c then 255 else 0) < 2 ^ 8 := by split <;> decide
theorem pk64 {f : Nat → Nat} {n : Nat} (hn : n ≤ 8) (h : ∀ b, b < n → f b < 2 ^ 8) : pkN f 8 n < 2 ^ 64 := Nat.lt_of_lt_of_le (pkN_lt h) (Nat.pow_le_pow_right (by decide) (by omega))
theorem lN_inj9 {a b : Nat} (ha : a < 2 ^ 64) (hb : b < 2 ^ 64) : lN a = lN b ↔ a = b := ⟨fun h => by rw [← wb_tn ha, ← wb_tn hb, h], fun h => by rw [h]⟩
theorem a255 : ∀ z, z < 128 → z &&& 255 = z := by decide +kernel
theorem mk_and {n : Nat} {d : Nat → Nat} {S : Nat → Bool} (hn : n ≤ 8) (hd : ∀ b, b < n → d b < 128) : lN (mkN n d) &&& lN (mkS n S) = lN (pkN (fun b => if S b = true then d b else 0) 8 n) := by
  have h1 : ∀ b, b < n → d b < 2 ^ 8 := fun b hb => by have := hd b hb; omega
  unfold mkS
  rw [wb_and (pk64 hn h1) (pk64 hn fun b _ => l255 _), pkN_and h1 (fun b _ => l255 _)]
  congr 1
  apply pkN_cg
  intro b hb
  show d b &&& (if S b = true then 255 else 0) = _
  split
  · exact a255 _ (hd b hb)
  · exact Nat.and_zero _
theorem mk_eq {n : Nat} {d e : Nat → Nat} {S : Nat → Bool} (hn : n ≤ 8) (hd : ∀ b, b < n → d b < 128) (he : ∀ b, b < n → e b < 128) : (lN (mkN n d) &&& lN (mkS n S) = lN (mkN n e) &&& lN (mkS n S)) ↔ (!exF (fun b => S b && (d b != e b)) n) = true := by
  have h1 : ∀ b, b < n → (if S b = true then d b else 0) < 2 ^ 8 := fun b hb => by
    split
    · have := hd b hb; omega
    · decide
  have h2 : ∀ b, b < n → (if S b = true then e b else 0) < 2 ^ 8 := fun b hb => by
    split
    · have := he b hb; omega
    · decide
  rw [mk_and hn hd, mk_and hn he, lN_inj9 (pk64 hn h1) (pk64 hn h2)]
  constructor
  · intro q
    have q1 := pkN_inj h1 h2 q
    have : exF (fun b => S b && (d b != e b)) n = false := exF_none fun b hb => by
      have := q1 b hb
      cases hs : S b with
      | false => rfl
      | true =>
        simp only [hs, if_true] at this
        simp [this]
    rw [this]
    rfl
  · intro q
    apply pkN_cg
    intro b hb
    cases hs : S b with
    | false => rfl
    | true =>
      simp only [if_true]
      by_cases z : d b = e b
      · exact z
      · have : exF (fun b => S b && (d b != e b)) n = true := exF_iff.mpr ⟨b, hb, by simp [hs, z]⟩
        rw [this] at q
        cases q
theorem mk_1 {n b : Nat} (hb : b < n) : 255 * 2 ^ (8 * b) = pkN (fun c => if c = b then 255 else 0) 8 n := by
  rw [pkN_one, if_pos hb]
theorem mk_no {n b : Nat} {S : Nat → Bool} (hn : n ≤ 8) (hb : b < n) : (lN (mkS n S) &&& lN (255 * 2 ^ (8 * b)) = 0) ↔ S b = false := by
  have e0 : (0 : Int64) = lN (pkN (fun _ => 0) 8 n) := by
    have := pkN_ext (f := fun _ => 0) (wd := 8) (n := 0) n (fun _ _ => rfl)
    rw [Nat.zero_add] at this
    rw [this, pkN_0]
    rfl
  rw [mk_1 hb, e0]
  unfold mkS
  rw [wb_and (pk64 hn fun b _ => l255 _) (pk64 hn fun b _ => l255 _), pkN_and (fun b _ => l255 _) (fun b _ => l255 _), lN_inj9 (pk64 hn fun b _ => Nat.and_lt_two_pow _ (l255 _)) (pk64 hn fun b _ => by decide)]
  constructor
  · intro q
    have := pkN_inj (fun b _ => Nat.and_lt_two_pow _ (l255 _)) (fun b _ => by decide) q b hb
    cases hs : S b with
    | false => rfl
    | true =>
      simp [hs] at this
  · intro q
    apply pkN_cg
    intro c hc
    show (if S c = true then 255 else 0) &&& (if c = b then 255 else 0) = 0
    by_cases z : c = b
    · subst z
      rw [q]
      simp
    · rw [if_neg z]
      exact Nat.and_zero _
theorem mk_or {n b : Nat} {S : Nat → Bool} (hn : n ≤ 8) (hb : b < n) : lN (mkS n S) ||| lN (255 * 2 ^ (8 * b)) = lN (mkS n (fun c => S c || c == b)) := by
  rw [mk_1 hb]
  unfold mkS
  rw [wb_or (pk64 hn fun b _ => l255 _) (pk64 hn fun b _ => l255 _), pkN_or (fun b _ => l255 _) (fun b _ => l255 _)]
  congr 1
  apply pkN_cg
  intro c hc
  show (if S c = true then 255 else 0) ||| (if c = b then 255 else 0) = if (S c || c == b) = true then 255 else 0
  by_cases z : c = b
  · subst z
    cases S c <;> simp
  · cases S c <;> simp [z]
/-- readings that are like reading i under the blots of S -/
def PK (δ : DE) (i : Nat) (S : Nat → Bool) (j : Nat) : Bool := !exF (fun b => S b && (dgR δ j b != dgR δ i b)) (δ.1 3)
def knB (δ : DE) (t : Nat) (P : Nat → Bool) : Bool := !exF (fun j => P j && exF (fun k => P k && (owR δ j t != owR δ k t)) (nR δ)) (nR δ)
theorem kn_iff {δ : DE} {t : Nat} {P : Nat → Bool} : knB δ t P = true ↔ ∀ j k, j < nR δ → k < nR δ → P j = true → P k = true → owR δ j t = owR δ k t := by
  unfold knB
  constructor
  · intro h j k hj hk pj pk
    by_cases z : owR δ j t = owR δ k t
    · exact z
    · have : exF (fun j => P j && exF (fun k => P k && (owR δ j t != owR δ k t)) (nR δ)) (nR δ) = true := exF_iff.mpr ⟨j, hj, by rw [pj, Bool.true_and]; exact exF_iff.mpr ⟨k, hk, by simp [pk, z]⟩⟩
      rw [this] at h
      cases h
  · intro h
    have : exF (fun j => P j && exF (fun k => P k && (owR δ j t != owR δ k t)) (nR δ)) (nR δ) = false := exF_none fun j hj => by
      cases pj : P j with
      | false => rfl
      | true =>
        rw [Bool.true_and]
        exact exF_none fun k hk => by
          cases pk : P k with
          | false => rfl
          | true => simp [h j k hj hk pj pk]
    rw [this]
    rfl
abbrev ntK (δ : DE) (i : Nat) (S : Nat → Bool) : Option Nat := amnP (fun b => !S b) (fun b => mlK δ (PK δ i S) b) (δ.1 3)
/-- the blots cleaned in k steps -/
def wkS (δ : DE) (i : Nat) : Nat → Nat → Bool
  | 0 => fun _ => false
  | k + 1 => match ntK δ i (wkS δ i k) with
    | none => wkS δ i k
    | some b => fun c => wkS δ i k c || c == b
def knS (δ : DE) (i t k : Nat) : Bool := knB δ t (PK δ i (wkS δ i k))
def mnS (δ : DE) (i t : Nat) : Nat := match fsB (knS δ i t) (δ.1 3 + 1) with
  | some k => k
  | none => 0
theorem mn_at {δ : DE} {i t k : Nat} (hk : k ≤ δ.1 3) (h1 : knS δ i t k = true) (h2 : ∀ m, m < k → knS δ i t m = false) : mnS δ i t = k := by
  unfold mnS
  rw [fsB_some (p := knS δ i t) (by omega) h1 h2]
theorem amnP_p {p : Nat → Bool} {f : Nat → Nat} : ∀ {n j : Nat}, amnP p f n = some j → p j = true
  | 0, j, h => by cases h
  | n + 1, j, h => by
    unfold amnP at h
    split at h
    · next z =>
      split at h
      · cases h; exact z
      · next k hk =>
        split at h
        · cases h; exact z
        · cases h; exact amnP_p hk
    · exact amnP_p h
theorem amnP_none {p : Nat → Bool} {f : Nat → Nat} : ∀ {n : Nat}, amnP p f n = none → ∀ m, m < n → p m = false
  | 0, _, m, hm => by omega
  | n + 1, h, m, hm => by
    unfold amnP at h
    split at h
    · next z =>
      split at h
      · cases h
      · split at h <;> cases h
    · next z =>
      by_cases y : m = n
      · subst y
        cases hp : p m with
        | false => rfl
        | true => exact absurd hp z
      · exact amnP_none h m (by omega)
theorem cnt_all {p : Nat → Bool} : ∀ {n : Nat}, cntF p n = n → ∀ m, m < n → p m = true
  | 0, _, m, h => by omega
  | n + 1, h, m, hm => by
    have l := cntF_le p n
    unfold cntF at h
    have hp : p n = true := by
      cases hp : p n with
      | true => rfl
      | false => rw [hp] at h; simp at h; omega
    rw [if_pos hp] at h
    by_cases y : m = n
    · subst y; exact hp
    · exact cnt_all (n := n) (by omega) m (by omega)
theorem cnt_up {p : Nat → Bool} {b : Nat} (hb : p b = false) : ∀ {n : Nat}, cntF (fun c => p c || c == b) n = cntF p n + if b < n then 1 else 0
  | 0 => rfl
  | n + 1 => by
    have ih := cnt_up (p := p) hb (n := n)
    unfold cntF
    rw [ih]
    by_cases z : n = b
    · subst z
      simp [hb]
    · by_cases y : b < n
      · have y2 : b < n + 1 := by omega
        simp [z, y, y2]
        omega
      · have y2 : ¬ b < n + 1 := by omega
        simp [z, y, y2]
/-- all blots cleaned: known -/
theorem kn_all {δ : DE} {i t : Nat} {S : Nat → Bool} (h : ∀ b, b < δ.1 3 → S b = true) : knB δ t (PK δ i S) = true := by
  have key : ∀ j, PK δ i S j = true → owR δ j t = owR δ i t := fun j pj => by
    have hd : ∀ b, b < δ.1 3 → dgR δ j b = dgR δ i b := fun b hb => by
      by_cases z : dgR δ j b = dgR δ i b
      · exact z
      · have : exF (fun b => S b && (dgR δ j b != dgR δ i b)) (δ.1 3) = true := exF_iff.mpr ⟨b, hb, by simp [h b hb, z]⟩
        unfold PK at pj
        rw [this] at pj
        cases pj
    have e : vr δ (rr δ j) = vr δ (rr δ i) := funext fun p => va_cg hd p
    unfold owR
    rw [e]
  exact kn_iff.mpr fun j k hj hk pj pk => (key j pj).trans (key k pk).symm
theorem wk_step {δ : DE} {i t k : Nat} (hc : cntF (wkS δ i k) (δ.1 3) = k) (hk : knS δ i t k = false) : ∃ b, ntK δ i (wkS δ i k) = some b ∧ b < δ.1 3 ∧ wkS δ i k b = false ∧ wkS δ i (k + 1) = (fun c => wkS δ i k c || c == b) ∧ cntF (wkS δ i (k + 1)) (δ.1 3) = k + 1 := by
  cases hA : ntK δ i (wkS δ i k) with
  | none =>
    have h1 := amnP_none hA
    have := kn_all (δ := δ) (i := i) (t := t) (S := wkS δ i k) fun b hb => by
      have := h1 b hb
      simpa using this
    unfold knS at hk
    rw [this] at hk
    cases hk
  | some b =>
    have l := amnP_lt hA
    have p := amnP_p hA
    have p' : wkS δ i k b = false := by simpa using p
    have e : wkS δ i (k + 1) = (fun c => wkS δ i k c || c == b) := by
      show (match ntK δ i (wkS δ i k) with | none => wkS δ i k | some b => fun c => wkS δ i k c || c == b) = _
      rw [hA]
    refine ⟨b, rfl, l, p', e, ?_⟩
    rw [e, cnt_up p', hc, if_pos l]
theorem isKnown_sp {g : GE} (hg : FU g) {w : Mem} {tb E D aM aS aG n1 lev : Nat} {δ : DE} (hd : WF δ) (hG : GT g w tb E D δ (δ.1 6) aM aS aG n1 lev) {t : Nat} (ht : t < 5) {mk sh : Int64} {P : Nat → Bool} (hP : ∀ i, i < nR δ → ((lN (mkN (δ.1 3) (dgR δ i)) &&& mk = sh) ↔ P i = true)) : fX7_isKnown g [.ref tb, .int (nI t), .long mk, .long sh] w = some (.inl (some (.int (bI (knB δ t P)))), w) := by
  have hT := hG.tb
  have hn := nR_le hd
  obtain ⟨b1, b2, b3, b4, b5, b6, b7, b8⟩ := id hd.1
  obtain ⟨N, hN⟩ : ∃ N, g.1 = N + 1 := ⟨g.1 - 1, by omega⟩
  have L := lpR (fun f (s : Lv) => jX7_isKnown g f 1 [] s w) (fun k s => ∃ o : Option Nat, s = [some (.ref tb), some (.int (nI t)), some (.long mk), none, some (.long sh), none, some (.int (oI o)), some (.int (nI k))] ∧ (o = none → ∀ j, j < k → P j = false) ∧ (∀ f, o = some f → f < k ∧ P f = true ∧ ∀ j, j < k → P j = true → owR δ j t = owR δ f t))
    (fun z => z = some (.inl (some (.int (bI (knB δ t P)))), w)) 2 1 (nR δ)
    (fun k s hk hI f => by
      obtain ⟨o, e1, e2, e3⟩ := hI
      subst e1
      have m1 := hG.mk hk
      have p1 := hP k hk
      have ek := nI_ge hk (by omega)
      generalize lN (mkN (δ.1 3) (dgR δ k)) = X at m1 p1
      cases hp : P k with
      | false =>
        have c1 := cz_n (mt p1.mp (by rw [hp]; exact Bool.false_ne_true))
        refine Or.inr ⟨f, _, Nat.le_refl _, ⟨o, rfl, fun ho j hj => ?_, fun q hq => ?_⟩, ?_⟩
        · by_cases y : j = k
          · subst y; exact hp
          · exact e2 ho j (by omega)
        · obtain ⟨q1, q2, q3⟩ := e3 q hq
          refine ⟨by omega, q2, fun j hj pj => ?_⟩
          by_cases y : j = k
          · subst y; rw [hp] at pj; cases pj
          · exact q3 j (by omega) pj
        · generalize oI o = Y
          simp [jX7_isKnown, bX7_isKnown_0, bX7_isKnown_1, bX7_isKnown_2, i_aload, i_getf, i_iceq, i_icge, i_icne, i_ifne, i_iinc, i_iload, i_istore, i_jmp, i_laload, i_land, i_lcmp, i_lload, i_push, i_zreturn, msk, lset1, lset2, clr, Value.category, Option.toList, List.cons_append, List.nil_append, List.length_cons, List.length_nil, gf_eq hT, ek, m1, c1, nI_1]
      | true =>
        have c1 := cz_y (p1.mpr hp)
        cases o with
        | none =>
          refine Or.inr ⟨f, _, Nat.le_refl _, ⟨some k, rfl, fun ho => (by cases ho), fun q hq => ?_⟩, ?_⟩
          · cases hq
            refine ⟨by omega, hp, fun j hj pj => ?_⟩
            by_cases y : j = k
            · subst y; rfl
            · rw [e2 rfl j (by omega)] at pj; cases pj
          · simp [jX7_isKnown, bX7_isKnown_0, bX7_isKnown_1, bX7_isKnown_2, i_aload, i_getf, i_iceq, i_icge, i_icne, i_ifne, i_iinc, i_iload, i_istore, i_jmp, i_laload, i_land, i_lcmp, i_lload, i_push, i_zreturn, msk, lset1, lset2, clr, Value.category, Option.toList, List.cons_append, List.nil_append, List.length_cons, List.length_nil, gf_eq hT, ek, m1, c1, oI, nI_1]
        | some q =>
          obtain ⟨q1, q2, q3⟩ := e3 q rfl
          have nn := nI_nn (y := q) (by omega)
          have o1 := ownerOf_sp hd hG hk ht
          have o2 := ownerOf_sp hd hG (i := q) (by omega) ht
          have l1 := owR_le hd k t
          have l2 := owR_le hd q t
          have mq : (nI (owR δ k t) - 1 = nI (owR δ q t) - 1) ↔ owR δ k t = owR δ q t := by
            constructor
            · intro h
              have h2 := congrArg Int32.toInt h
              rw [nI_m1t (by omega), nI_m1t (by omega)] at h2
              omega
            · intro h; rw [h]
          by_cases z : owR δ k t = owR δ q t
          · refine Or.inr ⟨f, _, Nat.le_refl _, ⟨some q, rfl, fun ho => (by cases ho), fun q' hq => ?_⟩, ?_⟩
            · cases hq
              refine ⟨by omega, q2, fun j hj pj => ?_⟩
              by_cases y : j = k
              · subst y; exact z
              · exact q3 j (by omega) pj
            · have z' := mq.mpr z
              generalize nI (owR δ k t) - 1 = A at o1 z'
              generalize nI (owR δ q t) - 1 = C at o2 z'
              subst z'
              simp [jX7_isKnown, bX7_isKnown_0, bX7_isKnown_1, bX7_isKnown_2, i_aload, i_getf, i_iceq, i_icge, i_icne, i_ifne, i_iinc, i_iload, i_istore, i_jmp, i_laload, i_land, i_lcmp, i_lload, i_push, i_zreturn, msk, lset1, lset2, clr, Value.category, Option.toList, List.cons_append, List.nil_append, List.length_cons, List.length_nil, gf_eq hT, ek, m1, c1, oI, nn, cvk_2 hT o1, cvk_2 hT o2, nI_1]
          · left
            have e9 : knB δ t P = false := by
              cases hx : knB δ t P with
              | false => rfl
              | true => exact absurd (kn_iff.mp hx k q hk (by omega) hp q2) z
            rw [e9]
            have z' := mt mq.mp z
            generalize nI (owR δ k t) - 1 = A at o1 z'
            generalize nI (owR δ q t) - 1 = C at o2 z'
            simp [jX7_isKnown, bX7_isKnown_0, bX7_isKnown_1, bX7_isKnown_2, i_aload, i_getf, i_iceq, i_icge, i_icne, i_ifne, i_iinc, i_iload, i_istore, i_jmp, i_laload, i_land, i_lcmp, i_lload, i_push, i_zreturn, msk, lset1, lset2, clr, Value.category, Option.toList, List.cons_append, List.nil_append, List.length_cons, List.length_nil, gf_eq hT, ek, m1, c1, oI, nn, cvk_2 hT o1, cvk_2 hT o2, z', bI])
    (fun s hI f => by
      obtain ⟨o, e1, e2, e3⟩ := hI
      subst e1
      have e9 : knB δ t P = true := kn_iff.mpr fun j k hj hk pj pk => by
        cases o with
        | none => rw [e2 rfl j hj] at pj; cases pj
        | some q =>
          obtain ⟨q1, q2, q3⟩ := e3 q rfl
          rw [q3 j hj pj, q3 k hk pk]
      rw [e9]
      generalize oI o = Y
      simp [jX7_isKnown, bX7_isKnown_0, bX7_isKnown_1, bX7_isKnown_2, i_aload, i_getf, i_iceq, i_icge, i_icne, i_ifne, i_iinc, i_iload, i_istore, i_jmp, i_laload, i_land, i_lcmp, i_lload, i_push, i_zreturn, msk, lset1, lset2, clr, Value.category, Option.toList, List.cons_append, List.nil_append, List.length_cons, List.length_nil, gf_eq hT, bI])
  have L1 := L (nR δ) 0 [some (.ref tb), some (.int (nI t)), some (.long mk), none, some (.long sh), none, some (.int (oI none)), some (.int (nI 0))] (by omega) ⟨none, rfl, fun _ j hj => by omega, fun q hq => by cases hq⟩ N (by omega)
  simp only [nI_0] at L1
  rw [← L1]
  simp [fX7_isKnown, kX7_isKnown, ent, entp, jX7_isKnown, bX7_isKnown_0, bX7_isKnown_1, bX7_isKnown_2, i_aload, i_getf, i_iceq, i_icge, i_icne, i_ifne, i_iinc, i_iload, i_istore, i_jmp, i_laload, i_land, i_lcmp, i_lload, i_push, i_zreturn, msk, lset1, lset2, clr, Value.category, Option.toList, List.cons_append, List.nil_append, List.length_cons, List.length_nil, hN, oI]
theorem walk_sp {g : GE} (hg : FU g) {w : Mem} {tb E D aM aS aG n1 lev : Nat} {δ : DE} (hd : WF δ) (hD : DEED g w D δ) (hDt : D + 35 ≤ tb) (hG : GT g w tb E D δ (δ.1 6) aM aS aG n1 lev) {c cp : Nat → Int32} (hT0 : IA w (tb + 10) 100 c) (hPa : IA w (tb + 4) 8 cp) {i t : Nat} (hi : i < nR δ) (ht : t < 5) :
    ∃ w' c' cp', fX7_walk g [.ref tb, .int (nI i), .int (nI t)] w = some (.inl (some (.int (nI (mnS δ i t)))), w') ∧ mnS δ i t ≤ δ.1 3 ∧ IA w' (tb + 10) 100 c' ∧ IA w' (tb + 4) 8 cp' ∧ (∀ m, m < mnS δ i t → cp' m = oI (ntK δ i (wkS δ i m))) ∧ Fr (fun a => a = tb + 10 ∨ a = tb + 4) w w' := by
  have hn := nR_le hd
  obtain ⟨b1, b2, b3, b4, b5, b6, b7, b8⟩ := id hd.1
  have l128 : ∀ j b, b < δ.1 3 → dgR δ j b < 128 := fun j b hb => by have := dgR_100 hd j hb; omega
  have kp : ∀ u, Fr (fun a => a = tb + 10 ∨ a = tb + 4) w u → GT g u tb E D δ (δ.1 6) aM aS aG n1 lev ∧ DEED g u D δ := fun u hu => ⟨hG.fr hu (by omega) (by have := hG.nk (k := 10) (by decide) (by decide); have := hG.nk (k := 4) (by decide) (by decide); omega) (by have := hG.nk (k := 10) (by decide) (by decide); have := hG.nk (k := 4) (by decide) (by decide); omega) (by omega), hD.fr hu (fun i hi => by omega)⟩
  obtain ⟨N, hN⟩ : ∃ N, g.1 = N + 1 := ⟨g.1 - 1, by omega⟩
  have L := lpR (fun f (s : Lv × Mem) => jX7_walk g f 1 [] s.1 s.2) (fun k s => s.1 = [some (.ref tb), some (.int (nI i)), some (.int (nI t)), some (.long (lN (mkS (δ.1 3) (wkS δ i k)))), none, some (.int (nI k)), none] ∧ cntF (wkS δ i k) (δ.1 3) = k ∧ (∀ m, m < k → knS δ i t m = false) ∧ (∃ c, IA s.2 (tb + 10) 100 c) ∧ (∃ cp, IA s.2 (tb + 4) 8 cp ∧ ∀ m, m < k → cp m = oI (ntK δ i (wkS δ i m))) ∧ Fr (fun a => a = tb + 10 ∨ a = tb + 4) w s.2)
    (fun z => ∃ w' c' cp', z = some (.inl (some (.int (nI (mnS δ i t)))), w') ∧ mnS δ i t ≤ δ.1 3 ∧ IA w' (tb + 10) 100 c' ∧ IA w' (tb + 4) 8 cp' ∧ (∀ m, m < mnS δ i t → cp' m = oI (ntK δ i (wkS δ i m))) ∧ Fr (fun a => a = tb + 10 ∨ a = tb + 4) w w') 2 2 (δ.1 3)
    (fun k s hk hI f => by
      obtain ⟨e1, e2, e3, ⟨c1, e4⟩, ⟨cp1, e5, e6⟩, e7⟩ := hI
      obtain ⟨hGs, hDs⟩ := kp _ e7
      have hTs := hGs.tb
      have m1 := hGs.mk hi
      have hP : ∀ j, j < nR δ → ((lN (mkN (δ.1 3) (dgR δ j)) &&& lN (mkS (δ.1 3) (wkS δ i k)) = lN (mkN (δ.1 3) (dgR δ i)) &&& lN (mkS (δ.1 3) (wkS δ i k))) ↔ PK δ i (wkS δ i k) j = true) := fun j _ => mk_eq b4 (l128 j) (l128 i)
      have q1 := isKnown_sp hg hd hGs ht hP
      have z1 : ¬ (8 : Int32) ≤ nI k := nI_ge (b := 8) (a := k) (by omega) (by decide)
      obtain ⟨f5, h5, -⟩ := id e5
      have al : ¬ Int32.ofNat 8 ≤ nI k := z1
      cases hkn : knS δ i t k with
      | true =>
        left
        have em := mn_at (by omega) hkn e3
        have hkn' : knB δ t (PK δ i (wkS δ i k)) = true := hkn
        rw [hkn'] at q1
        refine ⟨s.2, c1, cp1, ?_, by omega, e4, e5, fun m hm => e6 m (by omega), e7⟩
        rw [em]
        generalize lN (mkS (δ.1 3) (wkS δ i k)) = A at e1 q1
        generalize lN (mkN (δ.1 3) (dgR δ i)) = C at m1 q1
        simp [jX7_walk, bX7_walk_0, bX7_walk_1, bX7_walk_2, i_alen, i_aload, i_getf, i_iastore, i_icge, i_icne, i_ifne, i_iinc, i_iload, i_ireturn, i_istore, i_jmp, i_laload, i_land, i_lload, i_lor, i_lstore, i_push, msk, lset1, lset2, clr, Value.category, Option.toList, List.cons_append, List.nil_append, List.length_cons, List.length_nil, e1, gf_eq hTs, gf_eq hDs.1, nI_ge hk (by omega), h5, al, z1, m1, cvk_3 hTs q1, bI]
      | false =>
        obtain ⟨b, n1', n2, n3, n4, n5⟩ := wk_step e2 hkn
        have hkn' : knB δ t (PK δ i (wkS δ i k)) = false := hkn
        rw [hkn'] at q1
        obtain ⟨w2, c2, p1, p2, p3⟩ := cleanNext_sp hg hd hDs hDt hGs e4 (P := PK δ i (wkS δ i k)) (S := wkS δ i k) hP (fun b hb => mk_no b4 hb)
        have p1' : fX7_cleanNext g [.ref tb, .long (lN (mkS (δ.1 3) (wkS δ i k))), .long (lN (mkN (δ.1 3) (dgR δ i)) &&& lN (mkS (δ.1 3) (wkS δ i k)))] s.2 = some (.inl (some (.int (oI (ntK δ i (wkS δ i k))))), w2) := p1
        rw [n1'] at p1'
        have nn := nI_nn (y := b) (by omega)
        have F2 : Fr (fun a => a = tb + 10 ∨ a = tb + 4) s.2 w2 := p3.mn fun a h => Or.inl h
        have hG2 := hGs.tl p3
        have hT2 := hG2.tb
        have e5' := e5.fr p3 (by omega)
        obtain ⟨w3, hw3⟩ : ∃ q, wi w2 0 (tb + 4) k (nI b) = q := ⟨_, rfl⟩
        have F3 : Fr (fun a => a = tb + 4) w2 w3 := hw3 ▸ Fr.wi _ _ _ _ rfl
        have e5'' := e5'.up k (nI b)
        rw [hw3] at e5''
        have wr := e5'.wr (j := k) (by omega) (by decide) (nI b)
        rw [hw3] at wr
        have mo := maskOf_sp (g := g) (w := w3) (b := b) (by omega)
        have or1 := mk_or (S := wkS δ i k) b4 n2
        rw [← n4] at or1
        refine Or.inr ⟨f + 1, ([some (.ref tb), some (.int (nI i)), some (.int (nI t)), some (.long (lN (mkS (δ.1 3) (wkS δ i (k + 1))))), none, some (.int (nI (k + 1))), none], w3), by omega, ⟨rfl, n5, fun m hm => ?_, ⟨c2, p2.fr F3 (by omega)⟩, ⟨_, e5'', fun m hm => ?_⟩, (e7.tr F2).tr (F3.mn fun a h => Or.inr h)⟩, ?_⟩
        · by_cases y : m = k
          · subst y; exact hkn
          · exact e3 m (by omega)
        · by_cases y : m = k
          · subst y; rw [va_up_self, n1']; rfl
          · rw [va_up_ne _ _ y]; exact e6 m (by omega)
        · rw [show f + 2 = (f + 1) + 1 from rfl]
          generalize f + 1 = F
          generalize lN (mkS (δ.1 3) (wkS δ i (k + 1))) = A1 at or1 ⊢
          generalize lN (mkS (δ.1 3) (wkS δ i k)) = A at e1 q1 p1' or1
          generalize lN (mkN (δ.1 3) (dgR δ i)) = C at m1 q1 p1'
          generalize lN (255 * 2 ^ (8 * b)) = A2 at mo or1
          simp [jX7_walk, bX7_walk_0, bX7_walk_1, bX7_walk_2, i_alen, i_aload, i_getf, i_iastore, i_icge, i_icne, i_ifne, i_iinc, i_iload, i_ireturn, i_istore, i_jmp, i_laload, i_land, i_lload, i_lor, i_lstore, i_push, msk, lset1, lset2, clr, Value.category, Option.toList, List.cons_append, List.nil_append, List.length_cons, List.length_nil, e1, gf_eq hTs, gf_eq hDs.1, nI_ge hk (by omega), h5, al, z1, m1, cvk_3 hTs q1, bI, cvk_2 hTs p1', oI, nn, gf_eq hT2, wr, csk_1 mo, or1, nI_1])
    (fun s hI f => by
      obtain ⟨e1, e2, e3, ⟨c1, e4⟩, ⟨cp1, e5, e6⟩, e7⟩ := hI
      obtain ⟨hGs, hDs⟩ := kp _ e7
      have hTs := hGs.tb
      have hkn : knS δ i t (δ.1 3) = true := kn_all fun b hb => cnt_all e2 b hb
      have em := mn_at (Nat.le_refl _) hkn e3
      refine ⟨s.2, c1, cp1, ?_, by omega, e4, e5, fun m hm => e6 m (by omega), e7⟩
      rw [em]
      generalize lN (mkS (δ.1 3) (wkS δ i (δ.1 3))) = A at e1
      simp [jX7_walk, bX7_walk_0, bX7_walk_1, bX7_walk_2, i_alen, i_aload, i_getf, i_iastore, i_icge, i_icne, i_ifne, i_iinc, i_iload, i_ireturn, i_istore, i_jmp, i_laload, i_land, i_lload, i_lor, i_lstore, i_push, msk, lset1, lset2, clr, Value.category, Option.toList, List.cons_append, List.nil_append, List.length_cons, List.length_nil, e1, gf_eq hTs, gf_eq hDs.1])
  have e0 : lN (mkS (δ.1 3) (wkS δ i 0)) = 0 := by
    have := pkN_ext (f := fun _ => 0) (wd := 8) (n := 0) (δ.1 3) (fun _ _ => rfl)
    rw [Nat.zero_add] at this
    have e : mkS (δ.1 3) (wkS δ i 0) = pkN (fun _ => 0) 8 (δ.1 3) := rfl
    rw [e, this, pkN_0]
    rfl
  have c0 : ∀ n, cntF (wkS δ i 0) n = 0 := fun n => by
    induction n with
    | zero => rfl
    | succ n ih => show cntF (wkS δ i 0) n + 0 = 0; rw [ih]
  have L1 := L (δ.1 3) 0 ([some (.ref tb), some (.int (nI i)), some (.int (nI t)), some (.long (lN (mkS (δ.1 3) (wkS δ i 0)))), none, some (.int (nI 0)), none], w) (by omega) ⟨rfl, c0 _, fun m hm => by omega, ⟨c, hT0⟩, ⟨cp, hPa, fun m hm => by omega⟩, Fr.rf _ _⟩ N (by omega)
  simp only [nI_0, e0] at L1
  have e : fX7_walk g [.ref tb, .int (nI i), .int (nI t)] w = jX7_walk g N 1 [] [some (.ref tb), some (.int (nI i)), some (.int (nI t)), some (.long 0), none, some (.int 0), none] w := by
    simp [fX7_walk, kX7_walk, ent, entp, jX7_walk, bX7_walk_0, bX7_walk_1, bX7_walk_2, i_alen, i_aload, i_getf, i_iastore, i_icge, i_icne, i_ifne, i_iinc, i_iload, i_ireturn, i_istore, i_jmp, i_laload, i_land, i_lload, i_lor, i_lstore, i_push, msk, lset1, lset2, clr, Value.category, Option.toList, List.cons_append, List.nil_append, List.length_cons, List.length_nil, hN]
  rw [e]
  exact L1
theorem CI.wk {g : GE} {w w' : Mem} {B E fed kept : Nat} {fp : Int32} {tp : Nat → Int32} {rf : Nat → Nat} {δ : DE} {τ : TE} {im : Nat → TE} {lev nG : Nat} (hE : B + 132 ≤ E) (h : CI g w B E fed kept fp tp rf δ τ im lev nG) (k : Fr (fun a => a = B + 73 + 10 ∨ a = B + 73 + 4) w w') {c c' : Nat → Int32} (hc : IA w' (B + 73 + 10) 100 c) (hc' : IA w' (B + 73 + 4) 8 c') : CI g w' B E fed kept fp tp rf δ τ im lev nG := by
  obtain ⟨D, D', h1, ⟨aM, aS, aG, n1, hG, hX⟩, h3, h4, h5⟩ := h
  have hA : aG ≠ B + 83 ∧ aG ≠ B + 77 := by
    obtain ⟨fM, fS, hT, hM, hS, ⟨t1, t2, t3, t4, t5, t6, t7, t8, t9, t10, t11⟩, -⟩ := id hG
    omega
  have n1' := hG.nk (k := 10) (by decide) (by decide)
  have n2 := hG.nk (k := 4) (by decide) (by decide)
  obtain ⟨-, ⟨v, d, c', o, su, tw, x2⟩, -, ⟨c4, x4, k4⟩, ⟨c5, x5, k5⟩, ⟨c6, x6⟩, x7⟩ := hX
  refine ⟨D, D', h1.fr k (fun i hi => by omega) (by omega), ⟨aM, aS, aG, n1, hG.fr k (by omega) (by omega) (by omega) (by omega), ⟨_, hc'⟩, ⟨v, d, c', o, su, tw, x2.fr k fun i hi => by omega⟩, ⟨c, hc⟩, ⟨c4, x4.fr k (by omega), k4⟩, ⟨c5, x5.fr k (by omega), k5⟩, ⟨c6, x6.fr k (by omega)⟩, x7⟩, h3.fr k (fun i z1 z2 => by omega), h4.fr k (fun i z1 z2 => by omega), h5.fr k (fun i z1 z2 => by omega)⟩
def stepsO (δ : DE) (x0 x1 x2 : Int32) : OUT := 
  match rng x0 (nR δ) with
  | none => .inr (1, 0)
  | some n0 =>
    match rng x1 (δ.1 1) with
    | none => .inr (1, 0)
    | some n1 =>
      match rng x2 (8 + 1) with
      | none => .inr (2, 2)
      | some n2 =>
        .inl (.int (if n2 = 0 then nI (mnS δ n0 n1) else if n2 ≤ mnS δ n0 n1 then oI (ntK δ n0 (wkS δ n0 (n2 - 1))) else -1))
theorem steps_c {g : GE} {w : Mem} {B E fed kept : Nat} {fp : Int32} {tp : Nat → Int32} {rf : Nat → Nat} {δ : DE} {τ : TE} {im : Nat → TE} {lev nG : Nat} (hg : GD g) (hE : B + 132 ≤ E) (hI : CI g w B E fed kept fp tp rf δ τ im lev nG) (x0 x1 x2 : Int32) : CQ g w B E fed kept fp tp rf δ τ im lev nG (fX10_steps g [.ref B, .int x0, .int x1, .int x2] w) (stepsO δ x0 x1 x2) := by
  have hg1 := hg.1
  obtain ⟨D, D', hCC, hCT, hCN, hCL, hCM⟩ := id hI
  obtain ⟨hDD, hB, hTp, hD, hD', hSc, hr, hd, hfd, hkp⟩ := id hCC
  obtain ⟨aM, aS, aG, n1', hG, hX⟩ := id hCT
  obtain ⟨b1, b2, b3, b4, b5, b6, b7, b8⟩ := id hd.1
  have hT := hG.tb
  have hn := nR_le hd
  obtain ⟨N, hN⟩ : ∃ N, g.1 = N + 12 := ⟨g.1 - 12, by omega⟩
  unfold stepsO
  have q0 := needReading_sp hg1 hB hr hT (by omega) x0
  cases h0 : rng x0 (nR δ) with
  | none =>
    rw [h0] at q0
    simp only [tst, Option.isSome, Bool.false_eq_true, if_false] at q0
    refine CQ.no hE hI ?_
    simp [fX10_steps, kX10_steps, ent, entp, jX10_steps, bX10_steps_0, bX10_steps_1, i_aload, i_getf, i_iaload, i_icgt, i_ifne, i_iload, i_ireturn, i_istore, i_isub, i_jmp, i_push, msk, lset1, lset2, clr, Value.category, Option.toList, List.cons_append, List.nil_append, List.length_cons, List.length_nil, hN, cxe_1 hB q0]
  | some n0 =>
    rw [h0] at q0
    simp only [tst, Option.isSome, if_true] at q0
    obtain ⟨l0, e0⟩ := rng_some (by omega) h0
    subst e0
    have q1 := needThing_sp hg1 hB hr hD b2 x1
    cases h1 : rng x1 (δ.1 1) with
    | none =>
      rw [h1] at q1
      simp only [tst, Option.isSome, Bool.false_eq_true, if_false] at q1
      refine CQ.no hE hI ?_
      simp [fX10_steps, kX10_steps, ent, entp, jX10_steps, bX10_steps_0, bX10_steps_1, i_aload, i_getf, i_iaload, i_icgt, i_ifne, i_iload, i_ireturn, i_istore, i_isub, i_jmp, i_push, msk, lset1, lset2, clr, Value.category, Option.toList, List.cons_append, List.nil_append, List.length_cons, List.length_nil, hN, cxk_1 hB q0, cxe_1 hB q1]
    | some n1 =>
      rw [h1] at q1
      simp only [tst, Option.isSome, if_true] at q1
      obtain ⟨l1, e1⟩ := rng_some (by omega) h1
      subst e1
      have q2 := needWhat_sp hg1 hB hr x2 (n := 8) (y := 8) rfl (by decide)
      cases h2 : rng x2 (8 + 1) with
      | none =>
        rw [h2] at q2
        simp only [tst, Option.isSome, Bool.false_eq_true, if_false] at q2
        refine CQ.no hE hI ?_
        simp [fX10_steps, kX10_steps, ent, entp, jX10_steps, bX10_steps_0, bX10_steps_1, i_aload, i_getf, i_iaload, i_icgt, i_ifne, i_iload, i_ireturn, i_istore, i_isub, i_jmp, i_push, msk, lset1, lset2, clr, Value.category, Option.toList, List.cons_append, List.nil_append, List.length_cons, List.length_nil, hN, cxk_1 hB q0, cxk_1 hB q1, cxe_2 hB q2]
      | some n2 =>
        rw [h2] at q2
        simp only [tst, Option.isSome, if_true] at q2
        obtain ⟨l2, e2⟩ := rng_some (by omega) h2
        subst e2
        dsimp only
        obtain ⟨⟨cp, hPa⟩, -, ⟨c3, hX3⟩, -⟩ := id hX
        obtain ⟨w', c', cp', p1, p2, p3, p4, p5, p6⟩ := walk_sp hg1 hd hD hCC.dt hG hX3 hPa l0 (t := n1) (by omega)
        have hT1 : TB w' (B + 73) aM aS aG D (nR δ) (obK δ (δ.1 6)) := p6.at hT (by omega)
        have hB1 : BD w' B D D' fed kept fp := p6.at hB (by omega)
        refine CQ.okw (hI.wk hE p6 p3 p4) ?_ (p6.mn fun a ha => CF.in (by omega))
        by_cases z : n2 = 0
        · subst z
          simp only [nI_0] at q2
          simp only [if_true]
          generalize mnS δ n0 n1 = X at p1 ⊢
          simp [fX10_steps, kX10_steps, ent, entp, jX10_steps, bX10_steps_0, bX10_steps_1, i_aload, i_getf, i_iaload, i_icgt, i_ifne, i_iload, i_ireturn, i_istore, i_isub, i_jmp, i_push, msk, lset1, lset2, clr, Value.category, Option.toList, List.cons_append, List.nil_append, List.length_cons, List.length_nil, hN, cxk_1 hB q0, cxk_1 hB q1, cxk_2 hB q2, gf_eq hB, cvk_2 hT p1, nI_0]
        · have z1 := nI_ne0 (n := n2) (by omega) (by omega)
          rw [if_neg z]
          by_cases y : n2 ≤ mnS δ n0 n1
          · rw [if_pos y]
            obtain ⟨k, rfl⟩ : ∃ k, n2 = k + 1 := ⟨n2 - 1, by omega⟩
            have y1 := nI_nlt (b := k + 1) (a := mnS δ n0 n1) y (by omega)
            have rd := p4.rd (j := k) (by omega) (by decide)
            rw [p5 k (by omega)] at rd
            simp only [Nat.add_sub_cancel]
            generalize oI (ntK δ n0 (wkS δ n0 k)) = V at rd ⊢
            generalize mnS δ n0 n1 = X at p1 y1
            simp [fX10_steps, kX10_steps, ent, entp, jX10_steps, bX10_steps_0, bX10_steps_1, i_aload, i_getf, i_iaload, i_icgt, i_ifne, i_iload, i_ireturn, i_istore, i_isub, i_jmp, i_push, msk, lset1, lset2, clr, Value.category, Option.toList, List.cons_append, List.nil_append, List.length_cons, List.length_nil, hN, cxk_1 hB q0, cxk_1 hB q1, cxk_2 hB q2, gf_eq hB, cvk_2 hT p1, z1, y1, gf_eq hB1, gf_eq hT1, nI_pred, rd]
          · rw [if_neg y]
            have y1 := nI_lt (a := mnS δ n0 n1) (b := n2) (by omega) (by omega)
            generalize mnS δ n0 n1 = X at p1 y1
            simp [fX10_steps, kX10_steps, ent, entp, jX10_steps, bX10_steps_0, bX10_steps_1, i_aload, i_getf, i_iaload, i_icgt, i_ifne, i_iload, i_ireturn, i_istore, i_isub, i_jmp, i_push, msk, lset1, lset2, clr, Value.category, Option.toList, List.cons_append, List.nil_append, List.length_cons, List.length_nil, hN, cxk_1 hB q0, cxk_1 hB q1, cxk_2 hB q2, gf_eq hB, cvk_2 hT p1, z1, y1]
