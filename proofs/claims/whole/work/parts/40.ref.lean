/-! ===== the reference's object: 50 fields, its arrays behind it ===== -/
def mo (M : Nat) (x : Nat → Int32) : List Value := [.int (x 0), .int (x 1), .int (x 2), .int (x 3), .int (x 4), .int (x 5), .int (x 6), .int (x 7), .ref (M + 1), .ref (M + 2), .ref (M + 3), .ref (M + 4), .ref (M + 5), .ref (M + 6), .ref (M + 7), .ref (M + 8), .ref (M + 9), .ref (M + 10), .ref (M + 11), .ref (M + 12), .ref (M + 22), .ref (M + 32), .ref (M + 69), .ref (M + 106), .ref (M + 115), .ref (M + 124), .ref (M + 133), .int (x 27), .ref (M + 142), .ref (M + 143), .ref (M + 144), .ref (M + 145), .int (x 32), .int (x 33), .int (x 34), .int (x 35), .ref (M + 146), .ref (M + 159), .ref (M + 168), .ref (M + 172), .ref (M + 173), .ref (M + 174), .int (x 42), .ref (M + 175), .ref (M + 176), .int (x 45), .int (x 46), .int (x 47), .ref (M + 177), .ref (M + 178)]
abbrev MO (w : Mem) (M : Nat) (x : Nat → Int32) : Prop := OB w M 10 (mo M x)
theorem mo_len (M : Nat) (x : Nat → Int32) : (mo M x).length = 50 := rfl
theorem mg_0 (M : Nat) (x : Nat → Int32) : (mo M x)[0]? = some (.int (x 0)) := rfl
theorem mg_1 (M : Nat) (x : Nat → Int32) : (mo M x)[1]? = some (.int (x 1)) := rfl
theorem mg_2 (M : Nat) (x : Nat → Int32) : (mo M x)[2]? = some (.int (x 2)) := rfl
theorem mg_3 (M : Nat) (x : Nat → Int32) : (mo M x)[3]? = some (.int (x 3)) := rfl
theorem mg_4 (M : Nat) (x : Nat → Int32) : (mo M x)[4]? = some (.int (x 4)) := rfl
theorem mg_5 (M : Nat) (x : Nat → Int32) : (mo M x)[5]? = some (.int (x 5)) := rfl
theorem mg_6 (M : Nat) (x : Nat → Int32) : (mo M x)[6]? = some (.int (x 6)) := rfl
theorem mg_7 (M : Nat) (x : Nat → Int32) : (mo M x)[7]? = some (.int (x 7)) := rfl
theorem mg_8 (M : Nat) (x : Nat → Int32) : (mo M x)[8]? = some (.ref (M + 1)) := rfl
theorem mg_9 (M : Nat) (x : Nat → Int32) : (mo M x)[9]? = some (.ref (M + 2)) := rfl
theorem mg_10 (M : Nat) (x : Nat → Int32) : (mo M x)[10]? = some (.ref (M + 3)) := rfl
theorem mg_11 (M : Nat) (x : Nat → Int32) : (mo M x)[11]? = some (.ref (M + 4)) := rfl
theorem mg_12 (M : Nat) (x : Nat → Int32) : (mo M x)[12]? = some (.ref (M + 5)) := rfl
theorem mg_13 (M : Nat) (x : Nat → Int32) : (mo M x)[13]? = some (.ref (M + 6)) := rfl
theorem mg_14 (M : Nat) (x : Nat → Int32) : (mo M x)[14]? = some (.ref (M + 7)) := rfl
theorem mg_15 (M : Nat) (x : Nat → Int32) : (mo M x)[15]? = some (.ref (M + 8)) := rfl
theorem mg_16 (M : Nat) (x : Nat → Int32) : (mo M x)[16]? = some (.ref (M + 9)) := rfl
theorem mg_17 (M : Nat) (x : Nat → Int32) : (mo M x)[17]? = some (.ref (M + 10)) := rfl
theorem mg_18 (M : Nat) (x : Nat → Int32) : (mo M x)[18]? = some (.ref (M + 11)) := rfl
theorem mg_19 (M : Nat) (x : Nat → Int32) : (mo M x)[19]? = some (.ref (M + 12)) := rfl
theorem mg_20 (M : Nat) (x : Nat → Int32) : (mo M x)[20]? = some (.ref (M + 22)) := rfl
theorem mg_21 (M : Nat) (x : Nat → Int32) : (mo M x)[21]? = some (.ref (M + 32)) := rfl
theorem mg_22 (M : Nat) (x : Nat → Int32) : (mo M x)[22]? = some (.ref (M + 69)) := rfl
theorem mg_23 (M : Nat) (x : Nat → Int32) : (mo M x)[23]? = some (.ref (M + 106)) := rfl
theorem mg_24 (M : Nat) (x : Nat → Int32) : (mo M x)[24]? = some (.ref (M + 115)) := rfl
theorem mg_25 (M : Nat) (x : Nat → Int32) : (mo M x)[25]? = some (.ref (M + 124)) := rfl
theorem mg_26 (M : Nat) (x : Nat → Int32) : (mo M x)[26]? = some (.ref (M + 133)) := rfl
theorem mg_27 (M : Nat) (x : Nat → Int32) : (mo M x)[27]? = some (.int (x 27)) := rfl
theorem mg_28 (M : Nat) (x : Nat → Int32) : (mo M x)[28]? = some (.ref (M + 142)) := rfl
theorem mg_29 (M : Nat) (x : Nat → Int32) : (mo M x)[29]? = some (.ref (M + 143)) := rfl
theorem mg_30 (M : Nat) (x : Nat → Int32) : (mo M x)[30]? = some (.ref (M + 144)) := rfl
theorem mg_31 (M : Nat) (x : Nat → Int32) : (mo M x)[31]? = some (.ref (M + 145)) := rfl
theorem mg_32 (M : Nat) (x : Nat → Int32) : (mo M x)[32]? = some (.int (x 32)) := rfl
theorem mg_33 (M : Nat) (x : Nat → Int32) : (mo M x)[33]? = some (.int (x 33)) := rfl
theorem mg_34 (M : Nat) (x : Nat → Int32) : (mo M x)[34]? = some (.int (x 34)) := rfl
theorem mg_35 (M : Nat) (x : Nat → Int32) : (mo M x)[35]? = some (.int (x 35)) := rfl
theorem mg_36 (M : Nat) (x : Nat → Int32) : (mo M x)[36]? = some (.ref (M + 146)) := rfl
theorem mg_37 (M : Nat) (x : Nat → Int32) : (mo M x)[37]? = some (.ref (M + 159)) := rfl
theorem mg_38 (M : Nat) (x : Nat → Int32) : (mo M x)[38]? = some (.ref (M + 168)) := rfl
theorem mg_39 (M : Nat) (x : Nat → Int32) : (mo M x)[39]? = some (.ref (M + 172)) := rfl
theorem mg_40 (M : Nat) (x : Nat → Int32) : (mo M x)[40]? = some (.ref (M + 173)) := rfl
theorem mg_41 (M : Nat) (x : Nat → Int32) : (mo M x)[41]? = some (.ref (M + 174)) := rfl
theorem mg_42 (M : Nat) (x : Nat → Int32) : (mo M x)[42]? = some (.int (x 42)) := rfl
theorem mg_43 (M : Nat) (x : Nat → Int32) : (mo M x)[43]? = some (.ref (M + 175)) := rfl
theorem mg_44 (M : Nat) (x : Nat → Int32) : (mo M x)[44]? = some (.ref (M + 176)) := rfl
theorem mg_45 (M : Nat) (x : Nat → Int32) : (mo M x)[45]? = some (.int (x 45)) := rfl
theorem mg_46 (M : Nat) (x : Nat → Int32) : (mo M x)[46]? = some (.int (x 46)) := rfl
theorem mg_47 (M : Nat) (x : Nat → Int32) : (mo M x)[47]? = some (.int (x 47)) := rfl
theorem mg_48 (M : Nat) (x : Nat → Int32) : (mo M x)[48]? = some (.ref (M + 177)) := rfl
theorem mg_49 (M : Nat) (x : Nat → Int32) : (mo M x)[49]? = some (.ref (M + 178)) := rfl
theorem mt_0 (M : Nat) (x : Nat → Int32) (v : Int32) : (mo M x).set 0 (.int v) = mo M (va_up x 0 v) := rfl
theorem mt_1 (M : Nat) (x : Nat → Int32) (v : Int32) : (mo M x).set 1 (.int v) = mo M (va_up x 1 v) := rfl
theorem mt_2 (M : Nat) (x : Nat → Int32) (v : Int32) : (mo M x).set 2 (.int v) = mo M (va_up x 2 v) := rfl
theorem mt_3 (M : Nat) (x : Nat → Int32) (v : Int32) : (mo M x).set 3 (.int v) = mo M (va_up x 3 v) := rfl
theorem mt_4 (M : Nat) (x : Nat → Int32) (v : Int32) : (mo M x).set 4 (.int v) = mo M (va_up x 4 v) := rfl
theorem mt_5 (M : Nat) (x : Nat → Int32) (v : Int32) : (mo M x).set 5 (.int v) = mo M (va_up x 5 v) := rfl
theorem mt_6 (M : Nat) (x : Nat → Int32) (v : Int32) : (mo M x).set 6 (.int v) = mo M (va_up x 6 v) := rfl
theorem mt_7 (M : Nat) (x : Nat → Int32) (v : Int32) : (mo M x).set 7 (.int v) = mo M (va_up x 7 v) := rfl
theorem mt_27 (M : Nat) (x : Nat → Int32) (v : Int32) : (mo M x).set 27 (.int v) = mo M (va_up x 27 v) := rfl
theorem mt_32 (M : Nat) (x : Nat → Int32) (v : Int32) : (mo M x).set 32 (.int v) = mo M (va_up x 32 v) := rfl
theorem mt_33 (M : Nat) (x : Nat → Int32) (v : Int32) : (mo M x).set 33 (.int v) = mo M (va_up x 33 v) := rfl
theorem mt_34 (M : Nat) (x : Nat → Int32) (v : Int32) : (mo M x).set 34 (.int v) = mo M (va_up x 34 v) := rfl
theorem mt_35 (M : Nat) (x : Nat → Int32) (v : Int32) : (mo M x).set 35 (.int v) = mo M (va_up x 35 v) := rfl
theorem mt_42 (M : Nat) (x : Nat → Int32) (v : Int32) : (mo M x).set 42 (.int v) = mo M (va_up x 42 v) := rfl
theorem mt_45 (M : Nat) (x : Nat → Int32) (v : Int32) : (mo M x).set 45 (.int v) = mo M (va_up x 45 v) := rfl
theorem mt_46 (M : Nat) (x : Nat → Int32) (v : Int32) : (mo M x).set 46 (.int v) = mo M (va_up x 46 v) := rfl
theorem mt_47 (M : Nat) (x : Nat → Int32) (v : Int32) : (mo M x).set 47 (.int v) = mo M (va_up x 47 v) := rfl
theorem st_0 {w : Mem} {M : Nat} {x : Nat → Int32} (h : MO w M x) (v : Int32) : sf w M 10 0 .int (.int v) = some (mset w M (.inr (10, mo M (va_up x 0 v)))) := sf_i h 0 v (by rw [mo_len]; decide)
theorem st_1 {w : Mem} {M : Nat} {x : Nat → Int32} (h : MO w M x) (v : Int32) : sf w M 10 1 .int (.int v) = some (mset w M (.inr (10, mo M (va_up x 1 v)))) := sf_i h 1 v (by rw [mo_len]; decide)
theorem st_2 {w : Mem} {M : Nat} {x : Nat → Int32} (h : MO w M x) (v : Int32) : sf w M 10 2 .int (.int v) = some (mset w M (.inr (10, mo M (va_up x 2 v)))) := sf_i h 2 v (by rw [mo_len]; decide)
theorem st_3 {w : Mem} {M : Nat} {x : Nat → Int32} (h : MO w M x) (v : Int32) : sf w M 10 3 .int (.int v) = some (mset w M (.inr (10, mo M (va_up x 3 v)))) := sf_i h 3 v (by rw [mo_len]; decide)
theorem st_4 {w : Mem} {M : Nat} {x : Nat → Int32} (h : MO w M x) (v : Int32) : sf w M 10 4 .int (.int v) = some (mset w M (.inr (10, mo M (va_up x 4 v)))) := sf_i h 4 v (by rw [mo_len]; decide)
theorem st_5 {w : Mem} {M : Nat} {x : Nat → Int32} (h : MO w M x) (v : Int32) : sf w M 10 5 .int (.int v) = some (mset w M (.inr (10, mo M (va_up x 5 v)))) := sf_i h 5 v (by rw [mo_len]; decide)
theorem st_6 {w : Mem} {M : Nat} {x : Nat → Int32} (h : MO w M x) (v : Int32) : sf w M 10 6 .int (.int v) = some (mset w M (.inr (10, mo M (va_up x 6 v)))) := sf_i h 6 v (by rw [mo_len]; decide)
theorem st_7 {w : Mem} {M : Nat} {x : Nat → Int32} (h : MO w M x) (v : Int32) : sf w M 10 7 .int (.int v) = some (mset w M (.inr (10, mo M (va_up x 7 v)))) := sf_i h 7 v (by rw [mo_len]; decide)
theorem st_27 {w : Mem} {M : Nat} {x : Nat → Int32} (h : MO w M x) (v : Int32) : sf w M 10 27 .int (.int v) = some (mset w M (.inr (10, mo M (va_up x 27 v)))) := sf_i h 27 v (by rw [mo_len]; decide)
theorem st_32 {w : Mem} {M : Nat} {x : Nat → Int32} (h : MO w M x) (v : Int32) : sf w M 10 32 .int (.int v) = some (mset w M (.inr (10, mo M (va_up x 32 v)))) := sf_i h 32 v (by rw [mo_len]; decide)
theorem st_33 {w : Mem} {M : Nat} {x : Nat → Int32} (h : MO w M x) (v : Int32) : sf w M 10 33 .int (.int v) = some (mset w M (.inr (10, mo M (va_up x 33 v)))) := sf_i h 33 v (by rw [mo_len]; decide)
theorem st_34 {w : Mem} {M : Nat} {x : Nat → Int32} (h : MO w M x) (v : Int32) : sf w M 10 34 .int (.int v) = some (mset w M (.inr (10, mo M (va_up x 34 v)))) := sf_i h 34 v (by rw [mo_len]; decide)
theorem st_35 {w : Mem} {M : Nat} {x : Nat → Int32} (h : MO w M x) (v : Int32) : sf w M 10 35 .int (.int v) = some (mset w M (.inr (10, mo M (va_up x 35 v)))) := sf_i h 35 v (by rw [mo_len]; decide)
theorem st_42a {w : Mem} {M : Nat} {x : Nat → Int32} (h : MO w M x) : sf w M 10 42 .boolean (.int 0) = some (mset w M (.inr (10, mo M (va_up x 42 0)))) := sf_0 h 42 (by rw [mo_len]; decide)
theorem st_42b {w : Mem} {M : Nat} {x : Nat → Int32} (h : MO w M x) : sf w M 10 42 .boolean (.int 1) = some (mset w M (.inr (10, mo M (va_up x 42 1)))) := sf_1 h 42 (by rw [mo_len]; decide)
theorem st_45 {w : Mem} {M : Nat} {x : Nat → Int32} (h : MO w M x) (v : Int32) : sf w M 10 45 .int (.int v) = some (mset w M (.inr (10, mo M (va_up x 45 v)))) := sf_i h 45 v (by rw [mo_len]; decide)
theorem st_46 {w : Mem} {M : Nat} {x : Nat → Int32} (h : MO w M x) (v : Int32) : sf w M 10 46 .int (.int v) = some (mset w M (.inr (10, mo M (va_up x 46 v)))) := sf_i h 46 v (by rw [mo_len]; decide)
theorem st_47 {w : Mem} {M : Nat} {x : Nat → Int32} (h : MO w M x) (v : Int32) : sf w M 10 47 .int (.int v) = some (mset w M (.inr (10, mo M (va_up x 47 v)))) := sf_i h 47 v (by rw [mo_len]; decide)
theorem va_up_up {α : Type} (f : Nat → α) (k : Nat) (u v : α) : va_up (va_up f k u) k v = va_up f k v := by
  funext j
  unfold va_up
  split <;> rfl
theorem AR.rc {t : Nat} {w : Mem} {a n : Nat} {c : Nat → Int32} (h : AR t w a n c) (x : Int32) (j : Nat) (hx : nI j = x) (hj : j < n) (hn : n < 2 ^ 31) : gi w t a x = some (c j) := hx ▸ h.rd hj hn
theorem arwc {t : Nat} {w : Mem} {a n : Nat} {c : Nat → Int32} (h : AR t w a n c) (x : Int32) (j : Nat) (hx : nI j = x) (hj : j < n) (hn : n < 2 ^ 31) (y : Int32) : si w t a x y = some (wi w t a j y) := hx ▸ h.wr hj hn y
/-- an array of arrays -/
def GRD (w : Mem) (a n m : Nat) (c : Nat → Nat → Int32) : Prop := RA 4 w a n (fun i => a + 1 + i) ∧ ∀ i, i < n → IA w (a + 1 + i) m (c i)
theorem GRD.fr {S : Nat → Prop} {w w1 : Mem} {a n m : Nat} {c : Nat → Nat → Int32} (h : GRD w a n m c) (k : Fr S w w1) (q : ∀ i, i < n + 1 → ¬ S (a + i)) : GRD w1 a n m c :=
  ⟨h.1.fr k (q 0 (by omega)), fun i hi => (h.2 i hi).fr k (by have := q (1 + i) (by omega); rwa [← Nat.add_assoc] at this)⟩
/-- the deed as the reference has it -/
def RD (w : Mem) (M : Nat) (δ : DE) : Prop := IA w (M + 4) 7 (fun k => nI (δ.1 k))
  ∧ (∃ c, IA w (M + 6) 4 c ∧ ∀ h, h < δ.1 0 → c h = nI (δ.2 0 h))
  ∧ (∃ c, IA w (M + 8) 5 c ∧ ∀ h, h < δ.1 1 → c h = nI (δ.2 2 h))
  ∧ (∃ c, IA w (M + 10) 4 c ∧ ∀ h, h < δ.1 0 → c h = nI (δ.2 1 h))
  ∧ (∃ c, GRD w (M + 22) 9 3 c ∧ ∀ k, k < δ.1 2 → c k 0 = nI (δ.2 3 k) ∧ (δ.2 3 k ≠ 0 → c k 1 = nI (δ.2 4 k)) ∧ c k 2 = nI (δ.2 5 k))
  ∧ (∃ c, GRD w (M + 69) 36 3 c ∧ ∀ p, p < δ.1 5 → c p 0 = nI (δ.2 6 p) ∧ (bat δ p (δ.1 3) = none → c p 1 = nI (δ.2 7 p)))
  ∧ (∃ c, GRD w (M + 115) 8 5 c ∧ ∀ b, b < δ.1 3 → c b 0 = nI (δ.2 8 b) ∧ c b 1 = nI (δ.2 9 b) ∧ c b 2 = nI (δ.2 10 b) ∧ c b 3 = nI (δ.2 11 b) ∧ c b 4 = nI (δ.2 12 b))
  ∧ (∃ c, GRD w (M + 133) 8 100 c ∧ ∀ b, b < δ.1 3 → ∀ i, i < δ.2 10 b → c b i = nI (δ.2 (20 + b) i))
theorem RD.fr {S : Nat → Prop} {w w1 : Mem} {M : Nat} {δ : DE} (h : RD w M δ) (k : Fr S w w1) (q : ∀ i, 4 ≤ i → i < 142 → ¬ S (M + i)) : RD w1 M δ := by
  obtain ⟨h0, ⟨c1, h1, k1⟩, ⟨c2, h2, k2⟩, ⟨c3, h3, k3⟩, ⟨c4, h4, k4⟩, ⟨c5, h5, k5⟩, ⟨c6, h6, k6⟩, ⟨c7, h7, k7⟩⟩ := h
  refine ⟨h0.fr k (q 4 (by decide) (by decide)), ⟨c1, h1.fr k (q 6 (by decide) (by decide)), k1⟩, ⟨c2, h2.fr k (q 8 (by decide) (by decide)), k2⟩, ⟨c3, h3.fr k (q 10 (by decide) (by decide)), k3⟩, ⟨c4, h4.fr k fun i hi => ?_, k4⟩, ⟨c5, h5.fr k fun i hi => ?_, k5⟩, ⟨c6, h6.fr k fun i hi => ?_, k6⟩, ⟨c7, h7.fr k fun i hi => ?_, k7⟩⟩
  · have := q (22 + i) (by omega) (by omega)
    rwa [← Nat.add_assoc] at this
  · have := q (69 + i) (by omega) (by omega)
    rwa [← Nat.add_assoc] at this
  · have := q (115 + i) (by omega) (by omega)
    rwa [← Nat.add_assoc] at this
  · have := q (133 + i) (by omega) (by omega)
    rwa [← Nat.add_assoc] at this
theorem fills_sp {g : GE} (hg : FU g) {w : Mem} {M row : Nat} {x : Nat → Int32} {δ : DE} {fl : Nat → Int32} (hd : WF δ) (hO : MO w M x) (hD : RD w M δ) (hF : IA w (M + 172) 36 fl) (hr : row < 2 ^ 31) :
    ∃ w' fl', fX11_fills g [.ref M, .int (nI row)] w = some (.inl none, w') ∧ IA w' (M + 172) 36 fl' ∧ (∀ p, p < δ.1 5 → fl' p = nI (vr δ row p)) ∧ Fr (fun a => a = M + 172) w w' := by
  obtain ⟨b1, b2, b3, b4, b5, b6, b7, b8⟩ := id hd.1
  have L2 := lpR (fun f (s : Lv × Mem) => jX11_fills g f 2 [] s.1 s.2) (fun j s => s.1 = [some (.ref M), none, some (.int (nI (lf δ row j))), some (.int (nI (δ.1 3 - j) - 1))] ∧ (∃ f1, IA s.2 (M + 172) 36 f1 ∧ (∀ p, p < δ.1 5 → bat δ p (δ.1 3) = none → f1 p = nI (δ.2 7 p)) ∧ (∀ b, δ.1 3 - j ≤ b → b < δ.1 3 → f1 (δ.2 12 b) = nI (δ.2 (20 + b) (dg δ row b)))) ∧ Fr (fun a => a = M + 172) w s.2)
    (fun z => ∃ w' fl', z = some (.inl none, w') ∧ IA w' (M + 172) 36 fl' ∧ (∀ p, p < δ.1 5 → fl' p = nI (vr δ row p)) ∧ Fr (fun a => a = M + 172) w w') 1 1 (δ.1 3)
    (fun j s hj hI f => by
      obtain ⟨e1, ⟨f1, i1, i2, i3⟩, i4⟩ := hI
      have hOs : MO s.2 M x := i4.at hO (by omega)
      obtain ⟨h0, -, -, -, -, -, ⟨c6, h6, k6⟩, ⟨c7, h7, k7⟩⟩ := hD.fr i4 (fun i h1 h2 => by omega)
      obtain ⟨b, hb⟩ : ∃ b, δ.1 3 - j = b + 1 := ⟨δ.1 3 - j - 1, by omega⟩
      have hbn : b < δ.1 3 := by omega
      have hbl := hd.2.2.2.1 b hbn
      have kb := k6 b hbn
      have hl : lf δ row j ≤ row := by
        clear hb hbl kb e1 i2 i3
        induction j with
        | zero => exact Nat.le_refl _
        | succ j ih => exact Nat.le_trans (Nat.div_le_self _ _) (ih (by omega))
      have ej : j = δ.1 3 - 1 - b := by omega
      have ed : dg δ row b = lf δ row j % δ.2 10 b := by unfold dg; rw [ej]
      have ld := dg_lt hd row hbn
      have en : lf δ row (j + 1) = lf δ row j / δ.2 10 b := by
        show lf δ row j / δ.2 10 (δ.1 3 - 1 - j) = _
        have : δ.1 3 - 1 - j = b := by omega
        rw [this]
      have e0 : ¬ (nI b < 0) := nI_pos (by omega)
      have es : ¬ (nI (δ.2 10 b) = 0) := nI_ne0 (by omega) (by omega)
      have eq : nI (lf δ row j) / nI (δ.2 10 b) = nI (lf δ row (j + 1)) := by rw [pk_div (by omega) (by omega) (by omega), en]
      have er : nI (lf δ row j) - nI (lf δ row (j + 1)) * nI (δ.2 10 b) = nI (dg δ row b) := by rw [← eq, pk_rem (by omega) (by omega) (by omega), ed]
      have em : nI b + -1 = nI (δ.1 3 - (j + 1)) - 1 := by
        have : δ.1 3 - (j + 1) = b := by omega
        rw [this]
        cases b with
        | zero => decide
        | succ k => rw [nI_pred, pk_m1]
      obtain ⟨w1, hw1⟩ : ∃ z, wi s.2 0 (M + 172) (δ.2 12 b) (nI (δ.2 (20 + b) (dg δ row b))) = z := ⟨_, rfl⟩
      have F1 : Fr (fun a => a = M + 172) s.2 w1 := hw1 ▸ Fr.wi _ _ _ _ rfl
      have i1' := i1.up (δ.2 12 b) (nI (δ.2 (20 + b) (dg δ row b)))
      rw [hw1] at i1'
      have hO1 : MO w1 M x := F1.at hOs (by omega)
      have g6 := h6.fr F1 (fun i hi => by omega)
      refine Or.inr ⟨f, ([some (.ref M), none, some (.int (nI (lf δ row (j + 1)))), some (.int (nI (δ.1 3 - (j + 1)) - 1))], w1), Nat.le_refl _, ⟨rfl, ⟨_, i1', fun p hp hn => ?_, fun c h1 h2 => ?_⟩, i4.tr F1⟩, ?_⟩
      · have : p ≠ δ.2 12 b := fun z => bat_none hn b hbn z.symm
        rw [va_up_ne _ _ this]
        exact i2 p hp hn
      · by_cases z : c = b
        · subst z
          rw [va_up_self]
        · have : δ.2 12 c ≠ δ.2 12 b := fun q => z (hd.ne h2 hbn q)
          rw [va_up_ne _ _ this]
          exact i3 c (by omega) h2
      · simp [jX11_fills, bX11_fills_0, bX11_fills_1, bX11_fills_2, i_aaload, i_aload, i_getf, i_iaload, i_iastore, i_icge, i_idiv, i_iflt, i_iinc, i_iload, i_irem, i_istore, i_isub, i_jmp, i_push, i_return, msk, lset1, lset2, clr, Value.category, Option.toList, List.cons_append, List.nil_append, List.length_cons, List.length_nil, e1, hb, nI_pred, e0, gf_eq hOs, mg_39, mg_24, mg_26, h6.1.rd (j := b) (by omega) (by decide), va_rf, (h6.2 b (by omega)).rc 4 4 rfl (by decide) (by decide), (h6.2 b (by omega)).rc 2 2 rfl (by decide) (by decide), kb.2.2.1, kb.2.2.2.2, h7.1.rd (j := b) (by omega) (by decide), es, er, (h7.2 b (by omega)).rd (j := dg δ row b) (by omega) (by decide), k7 b hbn _ ld, i1.wr (j := δ.2 12 b) (by omega) (by decide), hw1, gf_eq hO1, g6.1.rd (j := b) (by omega) (by decide), (g6.2 b (by omega)).rc 2 2 rfl (by decide) (by decide), eq, em])
    (fun s hI f => by
      obtain ⟨e1, ⟨f1, i1, i2, i3⟩, i4⟩ := hI
      refine ⟨s.2, f1, ?_, i1, fun p hp => ?_, i4⟩
      · have e0 : nI 0 - 1 < 0 := by decide
        simp [jX11_fills, bX11_fills_0, bX11_fills_1, bX11_fills_2, i_aaload, i_aload, i_getf, i_iaload, i_iastore, i_icge, i_idiv, i_iflt, i_iinc, i_iload, i_irem, i_istore, i_isub, i_jmp, i_push, i_return, msk, lset1, lset2, clr, Value.category, Option.toList, List.cons_append, List.nil_append, List.length_cons, List.length_nil, e1, e0]
      · unfold vr va
        cases hb : bat δ p (δ.1 3) with
        | none => exact i2 p hp hb
        | some b =>
          have := bat_some hb
          rw [← this.2]
          exact i3 b (by omega) this.1)
  have L1 := lpR (fun f (s : Lv × Mem) => jX11_fills g (f + δ.1 3 + 1) 1 [] s.1 s.2) (fun j s => s.1 = [some (.ref M), none, some (.int (nI row)), some (.int (nI j))] ∧ (∃ f1, IA s.2 (M + 172) 36 f1 ∧ (∀ p, p < j → bat δ p (δ.1 3) = none → f1 p = nI (δ.2 7 p))) ∧ Fr (fun a => a = M + 172) w s.2)
    (fun z => ∃ w' fl', z = some (.inl none, w') ∧ IA w' (M + 172) 36 fl' ∧ (∀ p, p < δ.1 5 → fl' p = nI (vr δ row p)) ∧ Fr (fun a => a = M + 172) w w') 1 1 (δ.1 5)
    (fun j s hj hI f => by
      obtain ⟨e1, ⟨f1, i1, i2⟩, i4⟩ := hI
      have hOs : MO s.2 M x := i4.at hO (by omega)
      obtain ⟨h0, -, -, -, -, ⟨c5, h5, k5⟩, -⟩ := hD.fr i4 (fun i h1 h2 => by omega)
      have ef : f + 1 + δ.1 3 + 1 = (f + δ.1 3 + 1) + 1 := by omega
      refine Or.inr ⟨f, ([some (.ref M), none, some (.int (nI row)), some (.int (nI (j + 1)))], wi s.2 0 (M + 172) j (c5 j 1)), Nat.le_refl _, ⟨rfl, ⟨_, i1.up j (c5 j 1), fun p hp hn => ?_⟩, i4.tr (Fr.wi _ _ _ _ rfl)⟩, ?_⟩
      · by_cases z : p = j
        · subst z
          rw [va_up_self]
          exact (k5 p hj).2 hn
        · rw [va_up_ne _ _ z]
          exact i2 p (by omega) hn
      · simp only [ef]
        generalize f + δ.1 3 + 1 = F
        simp [jX11_fills, bX11_fills_0, bX11_fills_1, bX11_fills_2, i_aaload, i_aload, i_getf, i_iaload, i_iastore, i_icge, i_idiv, i_iflt, i_iinc, i_iload, i_irem, i_istore, i_isub, i_jmp, i_push, i_return, msk, lset1, lset2, clr, Value.category, Option.toList, List.cons_append, List.nil_append, List.length_cons, List.length_nil, e1, gf_eq hOs, mg_11, mg_39, mg_22, h0.rc 5 5 rfl (by decide) (by decide), nI_ge hj (by omega), h5.1.rd (j := j) (by omega) (by decide), va_rf, (h5.2 j (by omega)).rc 1 1 rfl (by decide) (by decide), i1.wr (j := j) (by omega) (by decide), nI_1])
    (fun s hI f => by
      obtain ⟨e1, ⟨f1, i1, i2⟩, i4⟩ := hI
      have hOs : MO s.2 M x := i4.at hO (by omega)
      obtain ⟨h0, -⟩ := hD.fr i4 (fun i h1 h2 => by omega)
      have q := L2 (δ.1 3) 0 ([some (.ref M), none, some (.int (nI row)), some (.int (nI (δ.1 3) - 1))], s.2) (by omega) ⟨rfl, ⟨f1, i1, fun p hp hn => i2 p hp hn, fun b h1 h2 => by omega⟩, i4⟩ (f + δ.1 3 + 1) (by omega)
      have ef : f + 1 + δ.1 3 + 1 = (f + δ.1 3 + 1) + 1 := by omega
      simp only [ef]
      simp only at q
      generalize f + δ.1 3 + 1 = F at q ⊢
      have e : jX11_fills g (F + 1) 1 [] s.1 s.2 = jX11_fills g F 2 [] [some (.ref M), none, some (.int (nI row)), some (.int (nI (δ.1 3) - 1))] s.2 := by
        simp [jX11_fills, bX11_fills_0, bX11_fills_1, bX11_fills_2, i_aaload, i_aload, i_getf, i_iaload, i_iastore, i_icge, i_idiv, i_iflt, i_iinc, i_iload, i_irem, i_istore, i_isub, i_jmp, i_push, i_return, msk, lset1, lset2, clr, Value.category, Option.toList, List.cons_append, List.nil_append, List.length_cons, List.length_nil, e1, gf_eq hOs, mg_11, h0.rc 5 5 rfl (by decide) (by decide), h0.rc 3 3 rfl (by decide) (by decide)]
      rw [e]
      exact q)
  obtain ⟨N, hN⟩ : ∃ N, g.1 = (N + δ.1 3 + 1) + 1 := ⟨g.1 - (δ.1 3 + 2), by omega⟩
  have L := L1 (δ.1 5) 0 ([some (.ref M), none, some (.int (nI row)), some (.int (nI 0))], w) (by omega) ⟨rfl, ⟨fl, hF, fun p hp _ => by omega⟩, Fr.rf _ _⟩ N (by omega)
  simp only [nI_0] at L
  generalize N + δ.1 3 + 1 = F at L hN
  have e : fX11_fills g [.ref M, .int (nI row)] w = jX11_fills g F 1 [] [some (.ref M), none, some (.int (nI row)), some (.int 0)] w := by
    simp [fX11_fills, kX11_fills, ent, entp, jX11_fills, bX11_fills_0, bX11_fills_1, bX11_fills_2, i_aaload, i_aload, i_getf, i_iaload, i_iastore, i_icge, i_idiv, i_iflt, i_iinc, i_iload, i_irem, i_istore, i_isub, i_jmp, i_push, i_return, msk, lset1, lset2, clr, Value.category, Option.toList, List.cons_append, List.nil_append, List.length_cons, List.length_nil, hN]
  rw [e]
  exact L
