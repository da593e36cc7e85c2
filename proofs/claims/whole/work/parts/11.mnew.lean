/-! new int[n][k] -/
def mgrid (w : Mem) (N K : Nat) : Mem := (fun q => if q = w.2.1 then some (.inl (4, N, .inr (.inr (.inr (.inr (fun i => if i < N then some (w.2.1 + 1 + i) else none)))))) else if w.2.1 < q ∧ q < w.2.1 + 1 + N then some (.inl (0, K, .inl (fun _ => 0))) else w.1 q, w.2.1 + 1 + N, w.2.2 + N + N * K)
def i_mnew (k : KT) : KT := fun st lv w => match st with
  | .int m :: .int n :: r => if n < 0 ∨ 1000000 < n.toNatClampNeg ∨ m < 0 ∨ 1000000 < m.toNatClampNeg then none else k (.ref w.2.1 :: r) lv (mgrid w n.toNatClampNeg m.toNatClampNeg)
  | _ => none
theorem s_mnew {d : MD} {g : GE} {pc : Nat} {k : KT} {idx : Nat} (h : Snd d g (pc + 4) k) (hcl : Cond.classLink d.2.1 idx ("[" ++ (FieldType.array .int).toString) ∈ gt) (hov : Cond.arrayOver (.array .int) ∈ owl) (hac : Cond.arrayClass .int ∈ gt) (hd : decode d.1 pc = .ok (.multianewarray idx 2, 4)) : Snd d g pc (i_mnew k) := h.mem fun st lv w o w' hk => by
  simp only [i_mnew] at hk
  split at hk
  · next m9 n r =>
    split at hk
    · cases hk
    · next hn9 =>
      refine ⟨_, _, _, hk, ?_, ?_, fun p l e R s m args below meth c D b0 w0 H locs ls Q C hH hS hl rc rs z1 z2 kk => by
      obtain ⟨hx, hb, hml, ho, ht, hK, hlk, hE, hst, hbs, hsz, hfr, hlo, hret, hnm, hex⟩ := C
      have hn : ¬ n < 0 := fun q => hn9 (Or.inl q)
      have hn2 : n.toNatClampNeg ≤ 1000000 := Nat.not_lt.mp fun q => hn9 (Or.inr (Or.inl q))
      have hk1 : ¬ m9 < 0 := fun q => hn9 (Or.inr (Or.inr (Or.inl q)))
      have hk2 : m9.toNatClampNeg ≤ 1000000 := Nat.not_lt.mp fun q => hn9 (Or.inr (Or.inr (Or.inr q)))
      have rc' : w.2.1 + 1 + n.toNatClampNeg - w0.2.1 ≤ R.cells := rc
      have rs' : w.2.2 + n.toNatClampNeg + n.toNatClampNeg * m9.toNatClampNeg - w0.2.2 ≤ R.slots := rs
      have hc4 : s.vm.findClass ("[" ++ (FieldType.array .int).toString) = some (D.2.2 4) := (hK.2 4 _ (tys_at D 4 (by decide))).2
      have hc0 : s.vm.findClass ("[" ++ (FieldType.int).toString) = some (D.2.2 0) := (hK.2 0 _ (tys_at D 0 (by decide))).2
      intro T hT Xs
      obtain ⟨vm₁, cA, comp, -, fA, fC, hO, -, X', step⟩ := Xs.multianewarray2F hx ho (ht _ hcl) (hE.ow hov) (ht _ hac) (g := F0 m pc ls (.int m9 :: .int n :: r)) rfl (by rw [hb]; exact hd) rfl hn hk1 (by omega) (by show _ * 4 ≤ _; omega) (by omega) rfl rfl (by omega) (by omega)
      have ecA : cA = D.2.2 4 := Option.some.inj (fA.symm.trans hc4)
      have ecC : comp = D.2.2 0 := Option.some.inj (fC.symm.trans hc0)
      subst ecA; subst ecC
      generalize hF : Jvm.Free.Multi.fill (T.setVm vm₁) (D.2.2 4) (D.2.2 0) n.toNatClampNeg m9.toNatClampNeg (defaultValue .int) n.toNatClampNeg = F9 at X' step
      have hTh : (T.setVm vm₁).heap = H := hT
      obtain ⟨f1, f2, -, -⟩ := Jvm.Free.Multi.fill_facts (T.setVm vm₁) (D.2.2 4) (D.2.2 0) n.toNatClampNeg m9.toNatClampNeg (defaultValue .int) n.toNatClampNeg
      rw [hF, hTh] at f1 f2
      have hold : ∀ x : Nat, x < H.size → F9.heap[x]? = H[x]? := fun x hx => by
        have := Jvm.Free.Multi.fill_old (T.setVm vm₁) (D.2.2 4) (D.2.2 0) n.toNatClampNeg m9.toNatClampNeg (defaultValue .int) (a := x) (by rw [hTh]; exact hx) n.toNatClampNeg
        rw [hF, hTh] at this
        exact this
      have hrow : ∀ j : Nat, j < n.toNatClampNeg → F9.heap[H.size + 1 + j]? = some (vp_cell (D.2.2 0) (m9.toNatClampNeg, .inl (fun _ => 0))) := fun j hj => by
        have := Jvm.Free.Multi.fill_inner (T.setVm vm₁) (D.2.2 4) (D.2.2 0) n.toNatClampNeg m9.toNatClampNeg (defaultValue .int) n.toNatClampNeg j hj
        rw [hF, hTh] at this
        rw [this]
        exact congrArg some (arrV_new _ _ _)
      rw [vr_outer] at f2
      have hH1 : hp D b0 (mgrid w n.toNatClampNeg m9.toNatClampNeg) F9.heap := by
        refine ⟨by rw [f1, hH.1]; rfl, fun a e9 ha => ?_⟩
        have hsz9 := hH.1
        have hb9 : b0 ≤ H.size := Nat.le_trans hbs hS.1
        simp only [mgrid] at ha
        split at ha
        · next q =>
          cases ha
          rw [q, ← hsz9]
          exact ⟨hb9, f2⟩
        · split at ha
          · next q1 q2 =>
            cases ha
            have hj := hrow (a - (H.size + 1)) (by omega)
            rw [show H.size + 1 + (a - (H.size + 1)) = a by omega] at hj
            exact ⟨by omega, hj⟩
          · exact ⟨(hH.2 a e9 ha).1, (hH.2 a e9 ha).2.kept (hold a (hH.lt ha))⟩
      have := W.cs (cells := w.2.1 - w0.2.1 + 1 + n.toNatClampNeg) (slots := w.2.2 - w0.2.2 + n.toNatClampNeg + n.toNatClampNeg * m9.toNatClampNeg) (by show _ = w.2.1 + 1 + n.toNatClampNeg - w0.2.1; omega) (by show _ = w.2.2 + n.toNatClampNeg + n.toNatClampNeg * m9.toNatClampNeg - w0.2.2; omega) (kk F9.heap locs ls hH1 ⟨by rw [f1]; have := hS.1; omega, fun x h1 h2 => (hold x (Nat.lt_of_lt_of_le h1 hS.1)).trans (hS.2.1 x h1 h2), hS.2.2⟩ hl)
      obtain ⟨t, a1, b1⟩ := this F9 rfl X'
      refine ⟨t, step t ?_, b1⟩
      have e : T.heap.size = w.2.1 := by rw [hT, hH.1]
      rw [e]
      exact a1⟩
      · show w.2.1 ≤ w.2.1 + 1 + n.toNatClampNeg
        omega
      · show w.2.2 ≤ w.2.2 + n.toNatClampNeg + n.toNatClampNeg * m9.toNatClampNeg
        rw [Nat.add_assoc]
        exact Nat.le_add_right _ _
  · cases hk

