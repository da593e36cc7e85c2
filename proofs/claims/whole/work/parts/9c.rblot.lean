/-! ===== the reference reads: a blot ===== -/
def addB0 (δ : DE) (kd wd : Nat) (l : List Nat) : DE := dC (dT (dT (dT (dT (dT (dV δ (δ.1 3) l) 8 (δ.1 3) kd) 9 (δ.1 3) wd) 10 (δ.1 3) l.length) 11 (δ.1 3) (δ.1 2 - 1)) 12 (δ.1 3) (δ.1 5)) 3 (δ.1 3 + 1)
theorem addBl_0 (δ : DE) (kd wd : Nat) (l : List Nat) : addBl δ kd wd l = addPl (addB0 δ kd wd l) kd (l.getD 0 0) := rfl
theorem m20_ne (a b : Nat) : (20 + a = 20 + b) = (a = b) := by simp
/-- the last steps: what is written of the blot -/
theorem bl_14 {g : GE} {w : Mem} {M pt q kd wd b p : Nat} {x : Nat → Int32} {δ : DE} {l : List Nat} {cP : Nat → Int32} {hr : Option Value} {K : Int32} (hb : δ.1 3 = b) (hp : δ.1 5 = p) (hO : MO w M x) (h5 : x 5 = 0) (hQ : PQ δ) (hb8 : b < 8) (hp36 : p < 36) (hpt : pt = δ.1 2 - 1)
    (g1 : G1 w M δ pt) (g2 : G2 w M δ) (g3 : G3 w M δ) (g4 : G4 w M δ) (g5 : G5 w M δ) (g6 : G6 w M δ q) (g7 : G7 w M δ) (g8 : G8 w M δ) (g9 : ∃ c, GRD w (M + 124) 8 100 c ∧ (∀ k, k < b → ∀ i, i < δ.2 10 k → c k i = nI (δ.2 (20 + k) i)) ∧ ∀ i, i < l.length → c b i = nI (l.getD i 0))
    (hP : IA w (M + 32 + 1 + p) 3 cP) (hK : nI kd = K) (f : Nat) :
    ∃ w', jX11_blots g (f + 1) 14 [] [some (.ref M), some (.int K), some (.ref (M + 32 + 1 + p)), hr, some (.int (nI wd)), some (.int (nI b)), some (.int (nI l.length)), none, none] w = some (.inl none, w') ∧ MO w' M x ∧ RG w' M (addB0 δ kd wd l) pt q ∧ (∃ c', IA w' (M + 32 + 1 + p) 3 c' ∧ c' 0 = cP 0) ∧ Fr (SR M) w w' := by
  subst hK
  obtain ⟨⟨q0, q1, q2, q3, q4, q5⟩, -, q7, -⟩ := id hQ
  obtain ⟨c3, h3, e0, e1, e2, e3, e4, e5⟩ := g1
  obtain ⟨c7, h7, k7⟩ := g7
  obtain ⟨c8, h8, k8⟩ := g8
  obtain ⟨c9, h9, k9, k9'⟩ := g9
  -- the place's blot
  have P1 := hP.up 2 (nI b)
  have s1 := arwc hP 2 2 rfl (by decide) (by decide) (nI b)
  have G71 := h7.up (i := p) 2 (nI b)
  obtain ⟨w1, hw1⟩ : ∃ z, wi w 0 (M + 32 + 1 + p) 2 (nI b) = z := ⟨_, rfl⟩
  rw [hw1] at P1 s1 G71
  have F1 : Fr (fun q => q = M + 32 + 1 + p) w w1 := hw1 ▸ Fr.wi _ _ _ _ rfl
  have o1 := F1.at hO (by omega)
  have H1 := h3.fr F1 (by omega)
  have B1 := h8.fr F1 (fun i hi => by omega)
  have A1 := B1.2 b hb8
  have r1 := B1.1.rd (j := b) hb8 (by decide)
  have s2 := arwc A1 0 0 rfl (by decide) (by decide) (nI kd)
  have B2 := B1.up (i := b) 0 (nI kd)
  obtain ⟨w2, hw2⟩ : ∃ z, wi w1 0 (M + 106 + 1 + b) 0 (nI kd) = z := ⟨_, rfl⟩
  rw [hw2] at B2 s2
  have F2 : Fr (fun q => q = M + 106 + 1 + b) w1 w2 := hw2 ▸ Fr.wi _ _ _ _ rfl
  have o2 := F2.at o1 (by omega)
  have H2 := H1.fr F2 (by omega)
  have A2 := B2.2 b hb8
  have r2 := B2.1.rd (j := b) hb8 (by decide)
  have s3 := arwc A2 1 1 rfl (by decide) (by decide) (nI wd)
  have B3 := B2.up (i := b) 1 (nI wd)
  obtain ⟨w3, hw3⟩ : ∃ z, wi w2 0 (M + 106 + 1 + b) 1 (nI wd) = z := ⟨_, rfl⟩
  rw [hw3] at B3 s3
  have F3 : Fr (fun q => q = M + 106 + 1 + b) w2 w3 := hw3 ▸ Fr.wi _ _ _ _ rfl
  have o3 := F3.at o2 (by omega)
  have H3 := H2.fr F3 (by omega)
  have A3 := B3.2 b hb8
  have r3 := B3.1.rd (j := b) hb8 (by decide)
  have s4 := arwc A3 2 2 rfl (by decide) (by decide) (nI l.length)
  have B4 := B3.up (i := b) 2 (nI l.length)
  obtain ⟨w4, hw4⟩ : ∃ z, wi w3 0 (M + 106 + 1 + b) 2 (nI l.length) = z := ⟨_, rfl⟩
  rw [hw4] at B4 s4
  have F4 : Fr (fun q => q = M + 106 + 1 + b) w3 w4 := hw4 ▸ Fr.wi _ _ _ _ rfl
  have o4 := F4.at o3 (by omega)
  have H4 := H3.fr F4 (by omega)
  have A4 := B4.2 b hb8
  have r4 := B4.1.rd (j := b) hb8 (by decide)
  have s5 := arwc A4 3 3 rfl (by decide) (by decide) (nI pt)
  have B5 := B4.up (i := b) 3 (nI pt)
  obtain ⟨w5, hw5⟩ : ∃ z, wi w4 0 (M + 106 + 1 + b) 3 (nI pt) = z := ⟨_, rfl⟩
  rw [hw5] at B5 s5
  have F5 : Fr (fun q => q = M + 106 + 1 + b) w4 w5 := hw5 ▸ Fr.wi _ _ _ _ rfl
  have o5 := F5.at o4 (by omega)
  have H5 := H4.fr F5 (by omega)
  have A5 := B5.2 b hb8
  have r5 := B5.1.rd (j := b) hb8 (by decide)
  have s6 := arwc A5 4 4 rfl (by decide) (by decide) (nI p)
  have B6 := B5.up (i := b) 4 (nI p)
  obtain ⟨w6, hw6⟩ : ∃ z, wi w5 0 (M + 106 + 1 + b) 4 (nI p) = z := ⟨_, rfl⟩
  rw [hw6] at B6 s6
  have F6 : Fr (fun q => q = M + 106 + 1 + b) w5 w6 := hw6 ▸ Fr.wi _ _ _ _ rfl
  have o6 := F6.at o5 (by omega)
  have H6 := H5.fr F6 (by omega)
  have r32 := H4.rc 2 2 rfl (by decide) (by decide)
  rw [e2] at r32
  have r35 := H5.rc 5 5 rfl (by decide) (by decide)
  rw [e5, hp] at r35
  have r33 := H6.rc 3 3 rfl (by decide) (by decide)
  rw [e3, hb] at r33
  have s7 := arwc H6 3 3 rfl (by decide) (by decide) (nI (b + 1))
  have H7 := H6.up 3 (nI (b + 1))
  obtain ⟨w7, hw7⟩ : ∃ z, wi w6 0 (M + 3) 3 (nI (b + 1)) = z := ⟨_, rfl⟩
  rw [hw7] at H7 s7
  have F7 : Fr (fun q => q = M + 3) w6 w7 := hw7 ▸ Fr.wi _ _ _ _ rfl
  have F26 : Fr (fun q => q = M + 106 + 1 + b) w1 w6 := ((((F2.tr F3).tr F4).tr F5).tr F6)
  have F27 : Fr (fun q => q = M + 106 + 1 + b ∨ q = M + 3) w1 w7 := (F26.mn fun a h => Or.inl h).tr (F7.mn fun a h => Or.inr h)
  have F17 : Fr (fun q => q = M + 32 + 1 + p ∨ q = M + 106 + 1 + b ∨ q = M + 3) w w7 := (F1.mn fun a h => Or.inl h).tr (F27.mn fun a h => Or.inr h)
  refine ⟨w7, ?_, F7.at o6 (by omega), ⟨?_, ?_, ?_, ?_, ?_, ?_, ?_, ?_, ?_⟩, ⟨_, P1.fr F27 (by omega), rfl⟩, F17.mn fun a h => by unfold SR rg; omega⟩
  · clear k7 k8 k9 k9' q7 B2 B3 B4 B5 B6 G71 P1 H7
    generalize nI l.length = LL at *
    simp [jX11_blots, bX11_blots_0, bX11_blots_1, bX11_blots_2, bX11_blots_3, bX11_blots_4, bX11_blots_5, bX11_blots_6, bX11_blots_7, bX11_blots_8, bX11_blots_9, bX11_blots_10, bX11_blots_11, bX11_blots_12, bX11_blots_13, bX11_blots_14, i_aaload, i_aload, i_astore, i_dup, i_dup2, i_getf, i_iadd, i_iaload, i_iastore, i_iceq, i_icge, i_icne, i_ifeq, i_ifne, i_iinc, i_iload, i_istore, i_jmp, i_push, i_putf, i_return, msk, lset1, lset2, clr, Value.category, Option.toList, List.cons_append, List.nil_append, List.length_cons, List.length_nil, gf_eq hO, gf_eq o1, gf_eq o2, gf_eq o3, gf_eq o4, gf_eq o5, gf_eq o6, mg_5, mg_10, mg_23, h5, s1, r1, r2, r3, r4, r5, va_rf, s2, s3, s4, s5, s6, r32, r35, r33, nI_1, s7]
  · exact ⟨_, H7, e0, e1, e2, by show nI (b + 1) = nI (δ.1 3 + 1); rw [hb], e4, e5⟩
  · obtain ⟨c, k1, k2⟩ := g2
    exact ⟨c, k1.fr F17 (by omega), fun h hh => by simp only [addB0, dC_2, dT_2, dV_2, n20_0, if_false]; exact k2 h hh⟩
  · obtain ⟨c, k1, k2⟩ := g3
    exact ⟨c, k1.fr F17 (by omega), fun h hh => by simp only [addB0, dC_2, dT_2, dV_2, n20_2, if_false]; exact k2 h hh⟩
  · obtain ⟨c, k1, k2⟩ := g4
    exact ⟨c, k1.fr F17 (by omega), fun h hh => by simp only [addB0, dC_2, dT_2, dV_2, n20_1, if_false]; exact k2 h hh⟩
  · obtain ⟨c, k1, k2, k3⟩ := g5
    exact ⟨c, k1.fr F17 (by omega), fun h hh => by simp only [addB0, dC_2, dT_2, dV_2, n20_13, if_false]; exact k2 h hh, fun h hh => by simp only [addB0, dC_2, dT_2, dV_2, n20_14, if_false]; exact k3 h hh⟩
  · obtain ⟨c, k1, k2⟩ := g6
    exact ⟨c, k1.fr F17 (fun i hi => by omega), fun h hh => by simp only [addB0, dC_2, dT_2, dV_2, n20_3, n20_4, n20_5, if_false]; exact k2 h hh⟩
  · refine ⟨_, G71.fr F27 (fun i hi => by omega), fun pp hh => ?_⟩
    have hh' : pp < δ.1 5 := hh
    have ne : pp ≠ p := by omega
    have eb : bat (addB0 δ kd wd l) pp ((addB0 δ kd wd l).1 3) = bat δ pp (δ.1 3) := by
      have e13 : (addB0 δ kd wd l).1 3 = δ.1 3 + 1 := rfl
      rw [e13]
      have e12 : (addB0 δ kd wd l).2 12 (δ.1 3) = δ.1 5 := by simp [addB0, dC_2, dT_2]
      show (if (addB0 δ kd wd l).2 12 (δ.1 3) = pp then some (δ.1 3) else bat (addB0 δ kd wd l) pp (δ.1 3)) = _
      rw [e12, if_neg (by omega)]
      refine bat_cg fun j hj => ?_
      have : ¬ j = δ.1 3 := by omega
      simp [addB0, dC_2, dT_2, dV_2, n20_12, this]
    rw [eb]
    simpa [addB0, dC_2, dT_2, dV_2, n20_6, n20_7, ne] using k7 pp hh'
  · refine ⟨_, B6.fr F7 (fun i hi => by omega), fun k hk => ?_⟩
    have hk' : k < δ.1 3 + 1 := hk
    by_cases z : k = b
    · subst z
      simp [addB0, dC_2, dT_2, dV_2, hb, hp, va_up, hpt]
    · have : ¬ k = δ.1 3 := by omega
      have k8' := k8 k (by omega)
      simp [addB0, dC_2, dT_2, dV_2, n20_8, n20_9, n20_10, n20_11, n20_12, z, this]
      exact k8'
  · refine ⟨c9, h9.fr F17 (fun i hi => by omega), fun k hk i hi => ?_⟩
    have hk' : k < δ.1 3 + 1 := hk
    by_cases z : k = b
    · subst z
      have hi' : i < l.length := by
        simp only [addB0, dC_2, dT_2, hb] at hi
        simpa using hi
      rw [k9' i hi']
      simp [addB0, dC_2, dT_2, dV_2, hb, m20_8, m20_9, m20_10, m20_11, m20_12, hi']
    · have this : ¬ k = δ.1 3 := by omega
      have hi' : i < δ.2 10 k := by
        simp only [addB0, dC_2, dT_2, dV_2, n20_10, this] at hi
        simpa using hi
      rw [k9 k (by omega) i hi']
      simp [addB0, dC_2, dT_2, dV_2, m20_8, m20_9, m20_10, m20_11, m20_12, this]
