/-! ===== the reference reads: a part ===== -/
theorem bd_as {α β γ : Type} (r : (Nat × Nat) ⊕ α) (f : α → (Nat × Nat) ⊕ β) (h : β → (Nat × Nat) ⊕ γ) : bd (bd r f) h = bd r fun x => bd (f x) h := by
  cases r <;> rfl
def CH (n k p0 vb m : Nat) (y : DE × Nat) : Prop := y.2 ≤ n ∧ PQ y.1 ∧ y.1.1 5 = p0 + m ∧ y.1.1 2 = k + 1 ∧ y.1.2 3 k = vb
def CHr (n k p0 vb m : Nat) (r : PR) : Prop := ∀ y, r = .inr y → CH n k p0 vb m y
section
variable {n k p0 vb m : Nat} {T : Nat → Nat} {r : PR}
theorem CHr.pl {kd : Nat} (h : CHr n k p0 vb m r) (hk : kd ≤ 2) (hm : p0 + m < 36) : CHr n k p0 vb (m + 1) (bd r (placeP T n kd)) := by
  intro y hy
  obtain ⟨x, h1, h2⟩ := bd_r hy
  obtain ⟨k1, k2, k3, k4, k5⟩ := h x h1
  obtain ⟨x1, x2⟩ := x
  obtain ⟨y1, y2⟩ := y
  have := placeP_ok h2 k1 hk k2 (by simp only [] at k3; omega)
  obtain ⟨p1, ⟨⟨-, -, p3, -, p5⟩, -, -, p6, -⟩, -, p8⟩ := this
  refine ⟨p8, p1, ?_, ?_, ?_⟩
  · show y1.1 5 = _
    rw [p5, show x1.1 5 = _ from k3]
    omega
  · show y1.1 2 = _
    rw [p3]; exact k4
  · show y1.2 3 k = _
    rw [(p6 k).1]; exact k5
theorem CHr.th (h : CHr n k p0 vb m r) : CHr n k p0 vb m (bd r (thingP T n)) := by
  intro y hy
  obtain ⟨x, h1, h2⟩ := bd_r hy
  obtain ⟨k1, k2, k3, k4, k5⟩ := h x h1
  unfold thingP at h2
  obtain ⟨u, h3, h4⟩ := bd_r h2
  obtain ⟨v, e⟩ := u
  have := namP_in h3 k1
  cases h4
  exact ⟨this.2.2, nameTh_ok k2, k3, k4, k5⟩
end
theorem RX.o {w : Mem} {M n pt q : Nat} {x : Nat → Int32} {r : PR} (h : RX w M x n pt q r) : ∃ x', MO w M x' := by
  cases r with
  | inl e => exact ⟨_, h.choose_spec.1⟩
  | inr y => exact ⟨_, h.1⟩
theorem RX.rp {w : Mem} {M n pt q : Nat} {x : Nat → Int32} {r : PR} (h : RX w M x n pt q r) : RP w M := by
  cases r with
  | inl e =>
    obtain ⟨x', -, -, -, -, -, h6, -⟩ := h
    exact h6
  | inr y => exact h.2.rp
section
variable {g : GE} {w : Mem} {M n pt q k p0 vb m : Nat} {x : Nat → Int32} {T : Nat → Nat} {r : PR}
theorem RFt.n0 {e : Nat × Nat} (h : RFt w M x n e) : ∃ x', MO w M x' ∧ ¬ x' 5 = 0 := by
  obtain ⟨x', h1, h2, -, -, -, -, h7, h8⟩ := h
  exact ⟨x', h1, by rw [h2]; exact nI_ne0 (by omega) (by omega)⟩
theorem sp_next (hg : FU g) {kd : Nat} {K : Int32} (h : RX w M x n k q r) (h2 : x 2 = nI n) (h5 : x 5 = 0) (hT : TXT w (M + 1) T) (hn : n ≤ 600) (hc : CHr n k p0 vb m r) (hm : p0 + m < 36) (hk : kd ≤ 2) (hK : nI kd = K) :
    ∃ w', fX11_spotHere g [.ref M, .int K] w = some (.inl none, w') ∧ RX w' M x n k q (bd r (placeP T n kd)) ∧ Fr (SR M) w w' := by
  cases r with
  | inl e =>
    obtain ⟨x', h1, h6⟩ := RFt.n0 h
    exact ⟨w, spotHere_no hg h1 h6 K, h, Fr.rf _ _⟩
  | inr y =>
    obtain ⟨k1, k2, k3, k4, k5⟩ := hc y rfl
    obtain ⟨w', r1, r2, r3⟩ := spotHere_sp hg h.1 h2 (va_up_self _ _ _) h5 hT k1 hn h.2 k2 (by omega) (by omega) hk hK
    exact ⟨w', r1, r2.o4, r3⟩
theorem th_next (hg : FU g) (h : RX w M x n k k r) (h2 : x 2 = nI n) (h5 : x 5 = 0) (hT : TXT w (M + 1) T) (hn : n ≤ 600) (hc : CHr n k p0 vb m r) (hk9 : k < 9) :
    ∃ N w' V w'', gi w 0 (M + 3) 1 = some N ∧ fX11_toldName g [.ref M, .int 4, .int N] w = some (.inl (some (.int V)), w') ∧ si w' 0 (M + 12 + 1 + k) 1 V = some w'' ∧ RX w'' M x n k (k + 1) (bd r (thingP T n)) ∧ Fr (SR M) w w'' := by
  cases r with
  | inl e =>
    obtain ⟨x', h1, h6⟩ := RFt.n0 h
    obtain ⟨⟨c3, h3⟩, -, -, -, -, ⟨c6, h6'⟩, -⟩ := h.rp
    have hF : RFt w M x n e := h
    have A := h6'.2 k hk9
    refine ⟨c3 1, w, 0, _, h3.rc 1 1 rfl (by decide) (by decide), toldName_no hg h1 h6 _ _, arwc A 1 1 rfl (by decide) (by decide) 0, hF.wi (by omega), Fr.wi _ _ _ _ (by unfold SR rg; omega)⟩
  | inr y =>
    obtain ⟨k1, k2, k3, k4, k5⟩ := hc y rfl
    obtain ⟨y1, y2⟩ := y
    obtain ⟨hO, hG⟩ := h
    obtain ⟨⟨q0, q1, -⟩, -, -, -, -, q7⟩ := id k2
    obtain ⟨⟨c3, h3, e0, e1, e2, e3, e4, e5⟩, g2, g3, g4, ⟨cn, hL, cn1, cn2⟩, ⟨c6, h6, k6⟩, g7, g8, ⟨c9, h9, k9⟩⟩ := id hG
    have r31 := h3.rc 1 1 rfl (by decide) (by decide)
    rw [e1] at r31
    obtain ⟨w1, r1, o1, F1⟩ := toldName_sp hg hO h2 (va_up_self _ _ _) h5 hT k1 hn (fr := 4) (N := y1.1 1) (f := y1.2 14) hL cn2 (fun i hi => (q7 i hi).2) (by simp only [] at q1; omega)
    have A := (h6.2 k hk9).fr F1 (by omega)
    have s1 := arwc A 1 1 rfl (by decide) (by decide) (pvD 0 (namP T n (y1.1 1) (y1.2 14) y2))
    have G1' := hG.fr F1 (fun i h1 h2 => by omega)
    refine ⟨_, w1, _, _, r31, r1, s1, ?_, (F1.mn (SR_M M)).tr (Fr.wi _ _ _ _ (by unfold SR rg; omega))⟩
    show RX _ M x n k (k + 1) (bd (namP T n (y1.1 1) (y1.2 14) y2) fun r => .inr (dT y1 4 (y1.1 2 - 1) r.1, r.2))
    have hb := namP_b T n (y1.1 1) (y1.2 14) y2
    cases hr : namP T n (y1.1 1) (y1.2 14) y2 with
    | inl e =>
      rw [hr] at o1
      have hbe := hb e hr
      exact (RFt.v o1 G1'.rp (ru_n k1) hbe.1 hbe.2).o4.wi (by omega)
    | inr u =>
      rw [hr] at o1
      have o1' : MO w1 M (va_up (va_up x 4 (nI y2)) 4 (nI u.2)) := o1
      rw [va_up_up] at o1'
      have F2 : Fr (fun q => q = M + 12 + 1 + k) w1 (wi w1 0 (M + 12 + 1 + k) 1 (nI u.1)) := Fr.wi _ _ _ _ rfl
      have F12 : Fr (fun q => q = M ∨ q = M + 12 + 1 + k) w (wi w1 0 (M + 12 + 1 + k) 1 (nI u.1)) := (F1.mn fun a h => Or.inl h).tr (F2.mn fun a h => Or.inr h)
      refine ⟨F2.at o1' (by omega), ⟨c3, h3.fr F12 (by omega), e0, e1, e2, e3, e4, e5⟩, g2.fr F12 (by omega), g3.fr F12 (by omega), g4.fr F12 (by omega), ⟨cn, hL.fr F12 (by omega), cn1, cn2⟩, ⟨_, (h6.fr F1 fun i hi => by omega).up (i := k) 1 (nI u.1), fun kk hkk => ?_⟩, (g7.fr F12 fun i h1 h2 => by omega).cg rfl rfl (fun p hp => ⟨rfl, rfl⟩) (fun b hb => rfl), g8.fr F12 (fun i h1 h2 => by omega), ⟨c9, h9.fr F12 (fun i hi => by omega), fun b hb i hi => by rw [k9 b hb i hi]; simp only [dT_2, m20_4, if_false]⟩⟩
      have hkk' : kk < y1.1 2 := hkk
      have k4' : y1.1 2 = k + 1 := k4
      obtain ⟨z0, z1, z2⟩ := k6 kk hkk'
      have e4 : y1.1 2 - 1 = k := by omega
      rw [e4]
      by_cases z : kk = k
      · subst z
        simp only [if_true]
        refine ⟨z0, fun _ _ => ?_, z2⟩
        show nI u.1 = nI ((dT y1 4 kk u.1).2 4 kk)
        rw [dT_2]
        simp
      · simp only [z, if_false]
        refine ⟨z0, fun _ hh => ?_, z2⟩
        have : (dT y1 4 k u.1).2 4 kk = y1.2 4 kk := by rw [dT_2]; simp [z]
        rw [this]
        exact z1 (by omega) hh
/-- the part counts -/
theorem re_1 (h : RX w M x n k q r) (hk9 : k < 9) (f : Nat) :
    ∃ w', jX11_reads g (f + 1) 1 [] [some (.ref M), none, none] w = some (.inl none, w') ∧ RX w' M x n (k + 1) q r ∧ Fr (SR M) w w' := by
  cases r with
  | inl e =>
    obtain ⟨x', hO⟩ := h.o
    obtain ⟨⟨c3, h3⟩, -⟩ := h.rp
    have hF : RFt w M x n e := h
    have r32 := h3.rc 2 2 rfl (by decide) (by decide)
    have s7 := arwc h3 2 2 rfl (by decide) (by decide) (c3 2 + 1)
    refine ⟨_, ?_, hF.wi (A := M + 3) (j := 2) (v := c3 2 + 1) (by omega), Fr.wi _ _ _ _ (by unfold SR rg; omega)⟩
    simp [jX11_reads, bX11_reads_0, bX11_reads_1, i_aaload, i_aload, i_astore, i_dup2, i_getf, i_iadd, i_iaload, i_iastore, i_icne, i_ifne, i_iload, i_jmp, i_push, i_return, msk, lset1, lset2, clr, Value.category, Option.toList, List.cons_append, List.nil_append, List.length_cons, List.length_nil, gf_eq hO, mg_10, r32, s7]
  | inr y =>
    obtain ⟨hO, ⟨c3, h3, e0, e1, e2, e3, e4, e5⟩, g2, g3, g4, g5, g6, g7, g8, g9⟩ := h
    have r32 := h3.rc 2 2 rfl (by decide) (by decide)
    rw [e2] at r32
    have s7 := arwc h3 2 2 rfl (by decide) (by decide) (nI (k + 1))
    have H7 := h3.up 2 (nI (k + 1))
    obtain ⟨w1, hw1⟩ : ∃ z, wi w 0 (M + 3) 2 (nI (k + 1)) = z := ⟨_, rfl⟩
    rw [hw1] at H7 s7
    have F1 : Fr (fun q => q = M + 3) w w1 := hw1 ▸ Fr.wi _ _ _ _ rfl
    refine ⟨w1, ?_, ⟨F1.at hO (by omega), ⟨_, H7, e0, e1, rfl, e3, e4, e5⟩, g2.fr F1 (by omega), g3.fr F1 (by omega), g4.fr F1 (by omega), g5.fr F1 (by omega), g6.fr F1 (fun i h1 h2 => by omega), g7.fr F1 (fun i h1 h2 => by omega), g8.fr F1 (fun i h1 h2 => by omega), g9.fr F1 (fun i h1 h2 => by omega)⟩, F1.mn fun a h => by unfold SR rg; omega⟩
    simp [jX11_reads, bX11_reads_0, bX11_reads_1, i_aaload, i_aload, i_astore, i_dup2, i_getf, i_iadd, i_iaload, i_iastore, i_icne, i_ifne, i_iload, i_jmp, i_push, i_return, msk, lset1, lset2, clr, Value.category, Option.toList, List.cons_append, List.nil_append, List.length_cons, List.length_nil, gf_eq hO, mg_10, r32, nI_1, s7]
theorem RX.q1 (h : RX w M x n pt k r) (hc : CHr n k p0 0 m r) : RX w M x n pt (k + 1) r := by
  cases r with
  | inl e => exact h
  | inr y =>
    obtain ⟨hO, g1, g2, g3, g4, g5, ⟨c6, h6, k6⟩, g7⟩ := h
    refine ⟨hO, g1, g2, g3, g4, g5, ⟨c6, h6, fun kk hkk => ?_⟩, g7⟩
    obtain ⟨z0, z1, z2⟩ := k6 kk hkk
    refine ⟨z0, fun hh hn => ?_, z2⟩
    by_cases z : kk = k
    · subst z
      exact absurd (hc y rfl).2.2.2.2 hn
    · exact z1 (by omega) hn
end
/-- the part's first entries -/
theorem re_0 {w : Mem} {M a n vb : Nat} {x : Nat → Int32} {δ : DE} {K : Int32} (hO : MO w M x) (h4 : x 4 = nI a) (hG : RG w M δ (δ.1 2) (δ.1 2)) (h9 : δ.1 2 < 9) (hK : nI vb = K) :
    ∃ w1 w2, gi w 0 (M + 3) 2 = some (nI (δ.1 2)) ∧ gr w 4 (M + 12) (nI (δ.1 2)) = some (some (M + 12 + 1 + δ.1 2)) ∧ si w 0 (M + 12 + 1 + δ.1 2) 0 K = some w1 ∧ gi w1 0 (M + 3) 5 = some (nI (δ.1 5)) ∧ MO w1 M x ∧ si w1 0 (M + 12 + 1 + δ.1 2) 2 (nI (δ.1 5)) = some w2 ∧ MO w2 M x ∧ RX w2 M x n (δ.1 2) (δ.1 2) (.inr (addPt δ vb, a)) ∧ Fr (SR M) w w2 := by
  obtain ⟨⟨c3, h3, e0, e1, e2, e3, e4, e5⟩, g2, g3, g4, g5, ⟨c6, h6, k6⟩, g7, g8, ⟨c9, h9', k9⟩⟩ := id hG
  have A := h6.2 _ h9
  have F1 : Fr (fun q => q = M + 12 + 1 + δ.1 2) w (wi w 0 (M + 12 + 1 + δ.1 2) 0 K) := Fr.wi _ _ _ _ rfl
  have B := h6.up (i := δ.1 2) 0 K
  have C := B.up (i := δ.1 2) 2 (nI (δ.1 5))
  have s1 := arwc A 0 0 rfl (by decide) (by decide) K
  have s2 := arwc (A.up 0 K) 2 2 rfl (by decide) (by decide) (nI (δ.1 5))
  have r2 := h3.rc 2 2 rfl (by decide) (by decide)
  rw [e2] at r2
  have r5 := (h3.fr F1 (by omega)).rc 5 5 rfl (by decide) (by decide)
  rw [e5] at r5
  have F2 : Fr (fun q => q = M + 12 + 1 + δ.1 2) (wi w 0 (M + 12 + 1 + δ.1 2) 0 K) (wi (wi w 0 (M + 12 + 1 + δ.1 2) 0 K) 0 (M + 12 + 1 + δ.1 2) 2 (nI (δ.1 5))) := Fr.wi _ _ _ _ rfl
  have F12 := F1.tr F2
  have o2 := F12.at hO (by omega)
  refine ⟨_, _, r2, h6.1.rd h9 (by decide), s1, r5, F1.at hO (by omega), s2, o2, ⟨?_, ⟨c3, h3.fr F12 (by omega), e0, e1, e2, e3, e4, e5⟩, g2.fr F12 (by omega), g3.fr F12 (by omega), g4.fr F12 (by omega), g5.fr F12 (by omega), ⟨_, C, fun k hk => ?_⟩, (g7.fr F12 fun i h1 h2 => by omega).cg rfl rfl (fun p hp => ⟨rfl, rfl⟩) (fun b hb => rfl), g8.fr F12 (fun i h1 h2 => by omega), ⟨c9, h9'.fr F12 (fun i hi => by omega), fun b hb i hi => by rw [k9 b hb i hi]; simp only [addPt, dC_2, dT_2, m20_3, m20_5, if_false]⟩⟩, F12.mn fun a h => by unfold SR rg; omega⟩
  · rw [va_same h4]; exact o2
  · have hk' : k < δ.1 2 + 1 := hk
    by_cases z : k = δ.1 2
    · subst z
      simp only [if_true]
      refine ⟨?_, fun h => absurd h (Nat.lt_irrefl _), ?_⟩
      · show K = nI ((addPt δ vb).2 3 (δ.1 2))
        simp [addPt, dC_2, dT_2, hK]
      · show nI (δ.1 5) = nI ((addPt δ vb).2 5 (δ.1 2))
        simp [addPt, dC_2, dT_2]
    · simp only [z, if_false]
      simpa [addPt, dC_2, dT_2, z] using k6 k (by omega)
theorem CHr.i {n a vb : Nat} {δ : DE} (ha : a ≤ n) (hQ : PQ δ) (h9 : δ.1 2 < 9) : CHr n (δ.1 2) (δ.1 5) vb 0 (.inr (addPt δ vb, a)) := by
  intro y hy
  cases hy
  exact ⟨ha, addPt_ok hQ h9, rfl, rfl, by simp [addPt, dC_2, dT_2]⟩
section
variable {g : GE} {w : Mem} {M n a : Nat} {x : Nat → Int32} {T : Nat → Nat} {δ : DE}
theorem reads0_sp (hg : FU g) (hO : MO w M x) (h2 : x 2 = nI n) (h4 : x 4 = nI a) (h5 : x 5 = 0) (hT : TXT w (M + 1) T) (ha : a ≤ n) (hn : n ≤ 600) (hG : RG w M δ (δ.1 2) (δ.1 2)) (hW : PW δ) (h9 : δ.1 2 < 9) :
    ∃ w', fX11_reads g [.ref M, .int 0] w = some (.inl none, w') ∧ RX w' M x n (δ.1 2 + 1) (δ.1 2 + 1) (coinC T n (δ, a)) ∧ Fr (SR M) w w' := by
  obtain ⟨hQ, -, h54⟩ := id hW
  obtain ⟨wa, w0, t1, t2, t3, t4, t5, t6, o0, X0, F0⟩ := re_0 (n := n) (vb := 0) (K := 0) hO h4 hG h9 rfl
  have C0 := CHr.i (vb := 0) ha hQ h9
  generalize hr0 : (.inr (addPt δ 0, a) : PR) = r0 at *
  have T0 := hT.fr F0 (by unfold SR rg; omega)
  obtain ⟨x0, o0'⟩ := X0.o
  obtain ⟨w1, a1, X1, G1⟩ := sp_next hg (kd := 1) (K := 1) X0 h2 h5 T0 hn C0 (by omega) (by decide) rfl
  have C1 := C0.pl (T := T) (kd := 1) (by decide) (by omega)
  generalize hr1 : bd r0 (placeP T n 1) = r1 at *
  have F1 := F0.tr G1
  have T1 := hT.fr F1 (by unfold SR rg; omega)
  obtain ⟨x1, o1'⟩ := X1.o
  obtain ⟨w2, a2, X2, G2⟩ := sp_next hg (kd := 0) (K := 0) X1 h2 h5 T1 hn C1 (by omega) (by decide) rfl
  have C2 := C1.pl (T := T) (kd := 0) (by decide) (by omega)
  generalize hr2 : bd r1 (placeP T n 0) = r2 at *
  have F2 := F1.tr G2
  have X2 := X2.q1 C2
  obtain ⟨N, hN⟩ : ∃ N, g.1 = (N + 1) + 1 := ⟨g.1 - 2, by omega⟩
  obtain ⟨wz, az, Xz, Gz⟩ := re_1 (g := g) X2 h9 N
  have er : coinC T n (δ, a) = r2 := by
    rw [← hr2, ← hr1, ← hr0]
    simp only [bd_as]
    rfl
  rw [er]
  refine ⟨wz, ?_, Xz, F2.tr Gz⟩
  rw [← az]
  clear az Xz er
  generalize N + 1 = NN at *
  simp [fX11_reads, kX11_reads, ent, entp, jX11_reads, bX11_reads_0, bX11_reads_1, i_aaload, i_aload, i_astore, i_dup2, i_getf, i_iadd, i_iaload, i_iastore, i_icne, i_ifne, i_iload, i_jmp, i_push, i_return, msk, lset1, lset2, clr, Value.category, Option.toList, List.cons_append, List.nil_append, List.length_cons, List.length_nil, hN, gf_eq hO, gf_eq t5, mg_10, mg_19, t1, t2, va_rf, t3, t4, t6, cvk_1 o0' a1, cvk_1 o1' a2]
theorem reads1_sp (hg : FU g) (hO : MO w M x) (h2 : x 2 = nI n) (h4 : x 4 = nI a) (h5 : x 5 = 0) (hT : TXT w (M + 1) T) (ha : a ≤ n) (hn : n ≤ 600) (hG : RG w M δ (δ.1 2) (δ.1 2)) (hW : PW δ) (h9 : δ.1 2 < 9) :
    ∃ w', fX11_reads g [.ref M, .int 1] w = some (.inl none, w') ∧ RX w' M x n (δ.1 2 + 1) (δ.1 2 + 1) (willC T n (δ, a)) ∧ Fr (SR M) w w' := by
  obtain ⟨hQ, -, h54⟩ := id hW
  obtain ⟨wa, w0, t1, t2, t3, t4, t5, t6, o0, X0, F0⟩ := re_0 (n := n) (vb := 1) (K := 1) hO h4 hG h9 rfl
  have C0 := CHr.i (vb := 1) ha hQ h9
  generalize hr0 : (.inr (addPt δ 1, a) : PR) = r0 at *
  have T0 := hT.fr F0 (by unfold SR rg; omega)
  obtain ⟨x0, o0'⟩ := X0.o
  obtain ⟨N1, v1, V1, w1, u1, a1, b1, X1, G1⟩ := th_next hg X0 h2 h5 T0 hn C0 h9
  have C1 := C0.th (T := T)
  generalize hr1 : bd r0 (thingP T n) = r1 at *
  have F1 := F0.tr G1
  have T1 := hT.fr F1 (by unfold SR rg; omega)
  obtain ⟨x1, o1'⟩ := X1.o
  obtain ⟨w2, a2, X2, G2⟩ := sp_next hg (kd := 1) (K := 1) X1 h2 h5 T1 hn C1 (by omega) (by decide) rfl
  have C2 := C1.pl (T := T) (kd := 1) (by decide) (by omega)
  generalize hr2 : bd r1 (placeP T n 1) = r2 at *
  have F2 := F1.tr G2
  obtain ⟨N, hN⟩ : ∃ N, g.1 = (N + 1) + 1 := ⟨g.1 - 2, by omega⟩
  obtain ⟨wz, az, Xz, Gz⟩ := re_1 (g := g) X2 h9 N
  have er : willC T n (δ, a) = r2 := by
    rw [← hr2, ← hr1, ← hr0]
    simp only [bd_as]
    rfl
  rw [er]
  refine ⟨wz, ?_, Xz, F2.tr Gz⟩
  rw [← az]
  clear az Xz er
  generalize N + 1 = NN at *
  simp [fX11_reads, kX11_reads, ent, entp, jX11_reads, bX11_reads_0, bX11_reads_1, i_aaload, i_aload, i_astore, i_dup2, i_getf, i_iadd, i_iaload, i_iastore, i_icne, i_ifne, i_iload, i_jmp, i_push, i_return, msk, lset1, lset2, clr, Value.category, Option.toList, List.cons_append, List.nil_append, List.length_cons, List.length_nil, hN, gf_eq hO, gf_eq t5, mg_10, mg_19, t1, t2, va_rf, t3, t4, t6, gf_eq o0', u1, cvk_2 o0' a1, b1, cvk_1 o1' a2]
theorem reads2_sp (hg : FU g) (hO : MO w M x) (h2 : x 2 = nI n) (h4 : x 4 = nI a) (h5 : x 5 = 0) (hT : TXT w (M + 1) T) (ha : a ≤ n) (hn : n ≤ 600) (hG : RG w M δ (δ.1 2) (δ.1 2)) (hW : PW δ) (h9 : δ.1 2 < 9) :
    ∃ w', fX11_reads g [.ref M, .int 2] w = some (.inl none, w') ∧ RX w' M x n (δ.1 2 + 1) (δ.1 2 + 1) (whenC T n (δ, a)) ∧ Fr (SR M) w w' := by
  obtain ⟨hQ, -, h54⟩ := id hW
  obtain ⟨wa, w0, t1, t2, t3, t4, t5, t6, o0, X0, F0⟩ := re_0 (n := n) (vb := 2) (K := 2) hO h4 hG h9 rfl
  have C0 := CHr.i (vb := 2) ha hQ h9
  generalize hr0 : (.inr (addPt δ 2, a) : PR) = r0 at *
  have T0 := hT.fr F0 (by unfold SR rg; omega)
  obtain ⟨x0, o0'⟩ := X0.o
  obtain ⟨w1, a1, X1, G1⟩ := sp_next hg (kd := 2) (K := 2) X0 h2 h5 T0 hn C0 (by omega) (by decide) rfl
  have C1 := C0.pl (T := T) (kd := 2) (by decide) (by omega)
  generalize hr1 : bd r0 (placeP T n 2) = r1 at *
  have F1 := F0.tr G1
  have T1 := hT.fr F1 (by unfold SR rg; omega)
  obtain ⟨x1, o1'⟩ := X1.o
  obtain ⟨w2, a2, X2, G2⟩ := sp_next hg (kd := 1) (K := 1) X1 h2 h5 T1 hn C1 (by omega) (by decide) rfl
  have C2 := C1.pl (T := T) (kd := 1) (by decide) (by omega)
  generalize hr2 : bd r1 (placeP T n 1) = r2 at *
  have F2 := F1.tr G2
  have T2 := hT.fr F2 (by unfold SR rg; omega)
  obtain ⟨x2, o2'⟩ := X2.o
  obtain ⟨N3, v3, V3, w3, u3, a3, b3, X3, G3⟩ := th_next hg X2 h2 h5 T2 hn C2 h9
  have C3 := C2.th (T := T)
  generalize hr3 : bd r2 (thingP T n) = r3 at *
  have F3 := F2.tr G3
  have T3 := hT.fr F3 (by unfold SR rg; omega)
  obtain ⟨x3, o3'⟩ := X3.o
  obtain ⟨w4, a4, X4, G4⟩ := sp_next hg (kd := 1) (K := 1) X3 h2 h5 T3 hn C3 (by omega) (by decide) rfl
  have C4 := C3.pl (T := T) (kd := 1) (by decide) (by omega)
  generalize hr4 : bd r3 (placeP T n 1) = r4 at *
  have F4 := F3.tr G4
  have T4 := hT.fr F4 (by unfold SR rg; omega)
  obtain ⟨x4, o4'⟩ := X4.o
  obtain ⟨w5, a5, X5, G5⟩ := sp_next hg (kd := 0) (K := 0) X4 h2 h5 T4 hn C4 (by omega) (by decide) rfl
  have C5 := C4.pl (T := T) (kd := 0) (by decide) (by omega)
  generalize hr5 : bd r4 (placeP T n 0) = r5 at *
  have F5 := F4.tr G5
  obtain ⟨N, hN⟩ : ∃ N, g.1 = (N + 1) + 1 := ⟨g.1 - 2, by omega⟩
  obtain ⟨wz, az, Xz, Gz⟩ := re_1 (g := g) X5 h9 N
  have er : whenC T n (δ, a) = r5 := by
    rw [← hr5, ← hr4, ← hr3, ← hr2, ← hr1, ← hr0]
    simp only [bd_as]
    rfl
  rw [er]
  refine ⟨wz, ?_, Xz, F5.tr Gz⟩
  rw [← az]
  clear az Xz er
  generalize N + 1 = NN at *
  simp [fX11_reads, kX11_reads, ent, entp, jX11_reads, bX11_reads_0, bX11_reads_1, i_aaload, i_aload, i_astore, i_dup2, i_getf, i_iadd, i_iaload, i_iastore, i_icne, i_ifne, i_iload, i_jmp, i_push, i_return, msk, lset1, lset2, clr, Value.category, Option.toList, List.cons_append, List.nil_append, List.length_cons, List.length_nil, hN, gf_eq hO, gf_eq t5, mg_10, mg_19, t1, t2, va_rf, t3, t4, t6, cvk_1 o0' a1, cvk_1 o1' a2, gf_eq o2', u3, cvk_2 o2' a3, b3, cvk_1 o3' a4, cvk_1 o4' a5]
end
