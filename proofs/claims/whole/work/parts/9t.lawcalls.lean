/-! ===== the law: one call after the other ===== -/
theorem deed_s1 {s : SG} {T : Nat → Nat} {δ0 : DE} (x0 : Int32) {v : Value} (h : (deedS s T δ0 x0).1 = .inl v) : ∃ y, v = .int y := by
  unfold deedS at h
  (repeat' (split at h)) <;> first | (cases h; done) | (cases h; exact ⟨_, rfl⟩)
theorem deed_s2 {s : SG} {T : Nat → Nat} {δ0 : DE} (x0 : Int32) {p : Nat × Nat} (h : (deedS s T δ0 x0).1 = .inr p) : p = (1, 2) := by
  unfold deedS at h
  (repeat' (split at h)) <;> first | (cases h; done) | (cases h; simp)
theorem deed_gi {s : SG} {T : Nat → Nat} {δ0 : DE} (x0 : Int32) (h : GI s) (hb : BYT s.2.2.2.1) : GI (deedS s T δ0 x0).2 ∧ BYT (deedS s T δ0 x0).2.2.2.2.1 := by
  unfold deedS
  split
  · exact ⟨h, hb⟩
  · split
    · exact ⟨h, hb⟩
    · exact ⟨⟨TV.z rfl rfl, fun i hi => absurd hi (Nat.not_lt_zero _)⟩, hb⟩
theorem ly_deed {g : GE} {w : Mem} {B i c0 s0 lev nG : Nat} {s : SG} (hg : GD g) (h : LWs g w B i c0 s0 s lev nG) (x0 : Int32) : ∃ k w1 y1 v w2 y2, fL_deed g [.ref B, .int x0, .ref (B + 311)] w = some (.inl (some (.int k)), w1) ∧ MO w1 (B + 132) y1 ∧ fX11_deed g [.ref (B + 132), .int x0] w1 = some (.inl (some (.int v)), w2) ∧ MO w2 (B + 132) y2 ∧ y2 0 = k ∧ (k = 0 → gl w2 (B + 311) 0 = some v.toInt64) ∧ LWi g w2 B (i + 1) c0 s0 := by
  obtain ⟨fs, hO⟩ := h.ob
  obtain ⟨wf, hf, hk⟩ := h.wf
  obtain ⟨fed, kept, fp, tp, rf, δ, τ, im⟩ := s
  have h' := h
  obtain ⟨hI, -, -, hGI, hBY, -⟩ := h'
  have hTp : IA w (B + 1) 600 tp := by
    obtain ⟨D, D', ⟨-, -, q, -⟩, -⟩ := hI
    exact q
  obtain ⟨δ0, hC⟩ := deed_c hg (by omega) hI (hBY.txt hTp) x0
  refine law_i h Int32.toInt64 (fr := fun w1 => fX11_deed g [.ref (B + 132), .int x0] w1) hC (deed_gi x0 hGI hBY).1 (deed_gi x0 hGI hBY).2 (fun w1 x hR => deed_r hg.1 wf hR hf (hBY.txt hR.2.2.1.1) δ0 x0) (fun w1 x p hR ho => deed_z hg.1 wf hR hf (hBY.txt hR.2.2.1.1) δ0 x0 ho) (fun v hv => deed_s1 x0 hv) (fun v w1 w1' ho e1 e2 => ?_) (fun p w1 ho e1 => ?_)
  · have e1' : fX10_deed g [.ref B, .int x0] w = some (.inl (some (.int v)), w1) := e1
    simp [fL_deed, kL_deed, ent, entp, bL_deed_0, i_aload, i_astore, i_i2l, i_iload, i_ireturn, i_jmp, i_lastore, i_push, msk, lset1, lset2, clr, Value.category, Option.toList, List.cons_append, List.nil_append, List.length_cons, List.length_nil, i_cvC, hO, e1', e2]
  · have hp := deed_s2 x0 ho
    subst hp
    have e2 : fX10_deed g [.ref B, .int x0] w = some (.inr "java/lang/IllegalArgumentException", w1) := e1
    refine ⟨?_, by decide⟩
    simp [fL_deed, kL_deed, ent, entp, bL_deed_0, i_aload, i_astore, i_i2l, i_iload, i_ireturn, i_jmp, i_lastore, i_push, msk, lset1, lset2, clr, Value.category, Option.toList, List.cons_append, List.nil_append, List.length_cons, List.length_nil, i_cvC, hO, e2]
    decide
theorem told_s1 {δ : DE} (x0 : Int32) {v : Value} (h : toldO δ x0 = .inl v) : ∃ y, v = .int y := by
  unfold toldO at h
  (repeat' (split at h)) <;> first | (cases h; done) | (cases h; exact ⟨_, rfl⟩)
theorem told_s2 {δ : DE} (x0 : Int32) {p : Nat × Nat} (h : toldO δ x0 = .inr p) : p = (1, 2) := by
  unfold toldO at h
  (repeat' (split at h)) <;> first | (cases h; done) | (cases h; simp)
theorem ly_told {g : GE} {w : Mem} {B i c0 s0 lev nG : Nat} {s : SG} (hg : GD g) (h : LWs g w B i c0 s0 s lev nG) (x0 : Int32) : ∃ k w1 y1 v w2 y2, fL_told g [.ref B, .int x0, .ref (B + 311)] w = some (.inl (some (.int k)), w1) ∧ MO w1 (B + 132) y1 ∧ fX11_told g [.ref (B + 132), .int x0] w1 = some (.inl (some (.int v)), w2) ∧ MO w2 (B + 132) y2 ∧ y2 0 = k ∧ (k = 0 → gl w2 (B + 311) 0 = some v.toInt64) ∧ LWi g w2 B (i + 1) c0 s0 := by
  obtain ⟨fs, hO⟩ := h.ob
  obtain ⟨wf, hf, hk⟩ := h.wf
  obtain ⟨fed, kept, fp, tp, rf, δ, τ, im⟩ := s
  have h' := h
  obtain ⟨hI, -, -, hGI, hBY, -⟩ := h'
  refine law_i h Int32.toInt64 (fr := fun w1 => fX11_told g [.ref (B + 132), .int x0] w1) (CZ.of (told_c hg (by omega) hI x0)) hGI hBY (fun w1 x hR => RZo.of (told_r hg.1 wf hR x0)) (fun w1 x p hR ho => told_z hg.1 wf hR x0 ho) (fun v hv => told_s1 x0 hv) (fun v w1 w1' ho e1 e2 => ?_) (fun p w1 ho e1 => ?_)
  · have e1' : fX10_told g [.ref B, .int x0] w = some (.inl (some (.int v)), w1) := e1
    simp [fL_told, kL_told, ent, entp, bL_told_0, i_aload, i_astore, i_i2l, i_iload, i_ireturn, i_jmp, i_lastore, i_push, msk, lset1, lset2, clr, Value.category, Option.toList, List.cons_append, List.nil_append, List.length_cons, List.length_nil, i_cvC, hO, e1', e2]
  · have hp := told_s2 x0 ho
    subst hp
    have e2 : fX10_told g [.ref B, .int x0] w = some (.inr "java/lang/IllegalArgumentException", w1) := e1
    refine ⟨?_, by decide⟩
    simp [fL_told, kL_told, ent, entp, bL_told_0, i_aload, i_astore, i_i2l, i_iload, i_ireturn, i_jmp, i_lastore, i_push, msk, lset1, lset2, clr, Value.category, Option.toList, List.cons_append, List.nil_append, List.length_cons, List.length_nil, i_cvC, hO, e2]
    decide
theorem blot_s1 {δ : DE} (x0 x1 : Int32) {v : Value} (h : blotO δ x0 x1 = .inl v) : ∃ y, v = .int y := by
  unfold blotO at h
  (repeat' (split at h)) <;> first | (cases h; done) | (cases h; exact ⟨_, rfl⟩)
theorem blot_s2 {δ : DE} (x0 x1 : Int32) {p : Nat × Nat} (h : blotO δ x0 x1 = .inr p) : p = (1, 1) ∨ p = (2, 2) := by
  unfold blotO at h
  (repeat' (split at h)) <;> first | (cases h; done) | (cases h; simp)
theorem ly_blot {g : GE} {w : Mem} {B i c0 s0 lev nG : Nat} {s : SG} (hg : GD g) (h : LWs g w B i c0 s0 s lev nG) (x0 x1 : Int32) : ∃ k w1 y1 v w2 y2, fL_blot g [.ref B, .int x0, .int x1, .ref (B + 311)] w = some (.inl (some (.int k)), w1) ∧ MO w1 (B + 132) y1 ∧ fX11_blot g [.ref (B + 132), .int x0, .int x1] w1 = some (.inl (some (.int v)), w2) ∧ MO w2 (B + 132) y2 ∧ y2 0 = k ∧ (k = 0 → gl w2 (B + 311) 0 = some v.toInt64) ∧ LWi g w2 B (i + 1) c0 s0 := by
  obtain ⟨fs, hO⟩ := h.ob
  obtain ⟨wf, hf, hk⟩ := h.wf
  obtain ⟨fed, kept, fp, tp, rf, δ, τ, im⟩ := s
  have h' := h
  obtain ⟨hI, -, -, hGI, hBY, -⟩ := h'
  refine law_i h Int32.toInt64 (fr := fun w1 => fX11_blot g [.ref (B + 132), .int x0, .int x1] w1) (CZ.of (blot_c hg (by omega) hI x0 x1)) hGI hBY (fun w1 x hR => RZo.of (blot_r hg.1 wf hR x0 x1)) (fun w1 x p hR ho => blot_z hg.1 wf hR x0 x1 ho) (fun v hv => blot_s1 x0 x1 hv) (fun v w1 w1' ho e1 e2 => ?_) (fun p w1 ho e1 => ?_)
  · have e1' : fX10_blot g [.ref B, .int x0, .int x1] w = some (.inl (some (.int v)), w1) := e1
    simp [fL_blot, kL_blot, ent, entp, bL_blot_0, i_aload, i_astore, i_i2l, i_iload, i_ireturn, i_jmp, i_lastore, i_push, msk, lset1, lset2, clr, Value.category, Option.toList, List.cons_append, List.nil_append, List.length_cons, List.length_nil, i_cvC, hO, e1', e2]
  · rcases blot_s2 x0 x1 ho with hp | hp
    · subst hp
      have e2 : fX10_blot g [.ref B, .int x0, .int x1] w = some (.inr "java/util/NoSuchElementException", w1) := e1
      refine ⟨?_, by decide⟩
      simp [fL_blot, kL_blot, ent, entp, bL_blot_0, i_aload, i_astore, i_i2l, i_iload, i_ireturn, i_jmp, i_lastore, i_push, msk, lset1, lset2, clr, Value.category, Option.toList, List.cons_append, List.nil_append, List.length_cons, List.length_nil, i_cvC, hO, e2]
      decide
    · subst hp
      have e2 : fX10_blot g [.ref B, .int x0, .int x1] w = some (.inr "java/lang/IllegalArgumentException", w1) := e1
      refine ⟨?_, by decide⟩
      simp [fL_blot, kL_blot, ent, entp, bL_blot_0, i_aload, i_astore, i_i2l, i_iload, i_ireturn, i_jmp, i_lastore, i_push, msk, lset1, lset2, clr, Value.category, Option.toList, List.cons_append, List.nil_append, List.length_cons, List.length_nil, i_cvC, hO, e2]
      decide
theorem candidate_s1 {δ : DE} (x0 x1 : Int32) {v : Value} (h : candidateO δ x0 x1 = .inl v) : ∃ y, v = .int y := by
  unfold candidateO at h
  (repeat' (split at h)) <;> first | (cases h; done) | (cases h; exact ⟨_, rfl⟩)
theorem candidate_s2 {δ : DE} (x0 x1 : Int32) {p : Nat × Nat} (h : candidateO δ x0 x1 = .inr p) : p = (1, 1) := by
  unfold candidateO at h
  (repeat' (split at h)) <;> first | (cases h; done) | (cases h; simp)
theorem ly_candidate {g : GE} {w : Mem} {B i c0 s0 lev nG : Nat} {s : SG} (hg : GD g) (h : LWs g w B i c0 s0 s lev nG) (x0 x1 : Int32) : ∃ k w1 y1 v w2 y2, fL_candidate g [.ref B, .int x0, .int x1, .ref (B + 311)] w = some (.inl (some (.int k)), w1) ∧ MO w1 (B + 132) y1 ∧ fX11_candidate g [.ref (B + 132), .int x0, .int x1] w1 = some (.inl (some (.int v)), w2) ∧ MO w2 (B + 132) y2 ∧ y2 0 = k ∧ (k = 0 → gl w2 (B + 311) 0 = some v.toInt64) ∧ LWi g w2 B (i + 1) c0 s0 := by
  obtain ⟨fs, hO⟩ := h.ob
  obtain ⟨wf, hf, hk⟩ := h.wf
  obtain ⟨fed, kept, fp, tp, rf, δ, τ, im⟩ := s
  have h' := h
  obtain ⟨hI, -, -, hGI, hBY, -⟩ := h'
  refine law_i h Int32.toInt64 (fr := fun w1 => fX11_candidate g [.ref (B + 132), .int x0, .int x1] w1) (CZ.of (candidate_c hg (by omega) hI x0 x1)) hGI hBY (fun w1 x hR => RZo.of (candidate_r hg.1 wf hR x0 x1)) (fun w1 x p hR ho => candidate_z hg.1 wf hR x0 x1 ho) (fun v hv => candidate_s1 x0 x1 hv) (fun v w1 w1' ho e1 e2 => ?_) (fun p w1 ho e1 => ?_)
  · have e1' : fX10_candidate g [.ref B, .int x0, .int x1] w = some (.inl (some (.int v)), w1) := e1
    simp [fL_candidate, kL_candidate, ent, entp, bL_candidate_0, i_aload, i_astore, i_i2l, i_iload, i_ireturn, i_jmp, i_lastore, i_push, msk, lset1, lset2, clr, Value.category, Option.toList, List.cons_append, List.nil_append, List.length_cons, List.length_nil, i_cvC, hO, e1', e2]
  · have hp := candidate_s2 x0 x1 ho
    subst hp
    have e2 : fX10_candidate g [.ref B, .int x0, .int x1] w = some (.inr "java/util/NoSuchElementException", w1) := e1
    refine ⟨?_, by decide⟩
    simp [fL_candidate, kL_candidate, ent, entp, bL_candidate_0, i_aload, i_astore, i_i2l, i_iload, i_ireturn, i_jmp, i_lastore, i_push, msk, lset1, lset2, clr, Value.category, Option.toList, List.cons_append, List.nil_append, List.length_cons, List.length_nil, i_cvC, hO, e2]
    decide
theorem reading_s1 {δ : DE} (x0 x1 : Int32) {v : Value} (h : readingO δ x0 x1 = .inl v) : ∃ y, v = .int y := by
  unfold readingO at h
  (repeat' (split at h)) <;> first | (cases h; done) | (cases h; exact ⟨_, rfl⟩)
theorem reading_s2 {δ : DE} (x0 x1 : Int32) {p : Nat × Nat} (h : readingO δ x0 x1 = .inr p) : p = (1, 0) ∨ p = (2, 1) := by
  unfold readingO at h
  (repeat' (split at h)) <;> first | (cases h; done) | (cases h; simp)
theorem ly_reading {g : GE} {w : Mem} {B i c0 s0 lev nG : Nat} {s : SG} (hg : GD g) (h : LWs g w B i c0 s0 s lev nG) (x0 x1 : Int32) : ∃ k w1 y1 v w2 y2, fL_reading g [.ref B, .int x0, .int x1, .ref (B + 311)] w = some (.inl (some (.int k)), w1) ∧ MO w1 (B + 132) y1 ∧ fX11_reading g [.ref (B + 132), .int x0, .int x1] w1 = some (.inl (some (.int v)), w2) ∧ MO w2 (B + 132) y2 ∧ y2 0 = k ∧ (k = 0 → gl w2 (B + 311) 0 = some v.toInt64) ∧ LWi g w2 B (i + 1) c0 s0 := by
  obtain ⟨fs, hO⟩ := h.ob
  obtain ⟨wf, hf, hk⟩ := h.wf
  obtain ⟨fed, kept, fp, tp, rf, δ, τ, im⟩ := s
  have h' := h
  obtain ⟨hI, -, -, hGI, hBY, -⟩ := h'
  refine law_i h Int32.toInt64 (fr := fun w1 => fX11_reading g [.ref (B + 132), .int x0, .int x1] w1) (CZ.of (reading_c hg (by omega) hI x0 x1)) hGI hBY (fun w1 x hR => RZo.of (reading_r hg.1 wf hR x0 x1)) (fun w1 x p hR ho => reading_z hg.1 wf hR x0 x1 ho) (fun v hv => reading_s1 x0 x1 hv) (fun v w1 w1' ho e1 e2 => ?_) (fun p w1 ho e1 => ?_)
  · have e1' : fX10_reading g [.ref B, .int x0, .int x1] w = some (.inl (some (.int v)), w1) := e1
    simp [fL_reading, kL_reading, ent, entp, bL_reading_0, i_aload, i_astore, i_i2l, i_iload, i_ireturn, i_jmp, i_lastore, i_push, msk, lset1, lset2, clr, Value.category, Option.toList, List.cons_append, List.nil_append, List.length_cons, List.length_nil, i_cvC, hO, e1', e2]
  · rcases reading_s2 x0 x1 ho with hp | hp
    · subst hp
      have e2 : fX10_reading g [.ref B, .int x0, .int x1] w = some (.inr "java/lang/IndexOutOfBoundsException", w1) := e1
      refine ⟨?_, by decide⟩
      simp [fL_reading, kL_reading, ent, entp, bL_reading_0, i_aload, i_astore, i_i2l, i_iload, i_ireturn, i_jmp, i_lastore, i_push, msk, lset1, lset2, clr, Value.category, Option.toList, List.cons_append, List.nil_append, List.length_cons, List.length_nil, i_cvC, hO, e2]
      decide
    · subst hp
      have e2 : fX10_reading g [.ref B, .int x0, .int x1] w = some (.inr "java/util/NoSuchElementException", w1) := e1
      refine ⟨?_, by decide⟩
      simp [fL_reading, kL_reading, ent, entp, bL_reading_0, i_aload, i_astore, i_i2l, i_iload, i_ireturn, i_jmp, i_lastore, i_push, msk, lset1, lset2, clr, Value.category, Option.toList, List.cons_append, List.nil_append, List.length_cons, List.length_nil, i_cvC, hO, e2]
      decide
theorem alive_s1 {δ : DE} (x0 : Int32) {v : Value} (h : aliveO δ x0 = .inl v) : ∃ y, v = .int y := by
  unfold aliveO at h
  (repeat' (split at h)) <;> first | (cases h; done) | (cases h; exact ⟨_, rfl⟩)
theorem alive_s2 {δ : DE} (x0 : Int32) {p : Nat × Nat} (h : aliveO δ x0 = .inr p) : p = (1, 1) := by
  unfold aliveO at h
  (repeat' (split at h)) <;> first | (cases h; done) | (cases h; simp)
theorem ly_alive {g : GE} {w : Mem} {B i c0 s0 lev nG : Nat} {s : SG} (hg : GD g) (h : LWs g w B i c0 s0 s lev nG) (x0 : Int32) : ∃ k w1 y1 v w2 y2, fL_alive g [.ref B, .int x0, .ref (B + 311)] w = some (.inl (some (.int k)), w1) ∧ MO w1 (B + 132) y1 ∧ fX11_alive g [.ref (B + 132), .int x0] w1 = some (.inl (some (.int v)), w2) ∧ MO w2 (B + 132) y2 ∧ y2 0 = k ∧ (k = 0 → gl w2 (B + 311) 0 = some v.toInt64) ∧ LWi g w2 B (i + 1) c0 s0 := by
  obtain ⟨fs, hO⟩ := h.ob
  obtain ⟨wf, hf, hk⟩ := h.wf
  obtain ⟨fed, kept, fp, tp, rf, δ, τ, im⟩ := s
  have h' := h
  obtain ⟨hI, -, -, hGI, hBY, -⟩ := h'
  refine law_i h Int32.toInt64 (fr := fun w1 => fX11_alive g [.ref (B + 132), .int x0] w1) (CZ.of (alive_c hg (by omega) hI x0)) hGI hBY (fun w1 x hR => RZo.of (alive_r hg.1 wf hR x0)) (fun w1 x p hR ho => alive_z hg.1 wf hR x0 ho) (fun v hv => alive_s1 x0 hv) (fun v w1 w1' ho e1 e2 => ?_) (fun p w1 ho e1 => ?_)
  · have e1' : fX10_alive g [.ref B, .int x0] w = some (.inl (some (.int v)), w1) := e1
    simp [fL_alive, kL_alive, ent, entp, bL_alive_0, i_aload, i_astore, i_i2l, i_iload, i_ireturn, i_jmp, i_lastore, i_push, msk, lset1, lset2, clr, Value.category, Option.toList, List.cons_append, List.nil_append, List.length_cons, List.length_nil, i_cvC, hO, e1', e2]
  · have hp := alive_s2 x0 ho
    subst hp
    have e2 : fX10_alive g [.ref B, .int x0] w = some (.inr "java/util/NoSuchElementException", w1) := e1
    refine ⟨?_, by decide⟩
    simp [fL_alive, kL_alive, ent, entp, bL_alive_0, i_aload, i_astore, i_i2l, i_iload, i_ireturn, i_jmp, i_lastore, i_push, msk, lset1, lset2, clr, Value.category, Option.toList, List.cons_append, List.nil_append, List.length_cons, List.length_nil, i_cvC, hO, e2]
    decide
theorem gets_s1 {δ : DE} (x0 x1 x2 : Int32) {v : Value} (h : getsO δ x0 x1 x2 = .inl v) : ∃ y, v = .int y := by
  unfold getsO at h
  (repeat' (split at h)) <;> first | (cases h; done) | (cases h; exact ⟨_, rfl⟩)
theorem gets_s2 {δ : DE} (x0 x1 x2 : Int32) {p : Nat × Nat} (h : getsO δ x0 x1 x2 = .inr p) : p = (1, 0) ∨ p = (2, 2) := by
  unfold getsO at h
  (repeat' (split at h)) <;> first | (cases h; done) | (cases h; simp)
theorem ly_gets {g : GE} {w : Mem} {B i c0 s0 lev nG : Nat} {s : SG} (hg : GD g) (h : LWs g w B i c0 s0 s lev nG) (x0 x1 x2 : Int32) : ∃ k w1 y1 v w2 y2, fL_gets g [.ref B, .int x0, .int x1, .int x2, .ref (B + 311)] w = some (.inl (some (.int k)), w1) ∧ MO w1 (B + 132) y1 ∧ fX11_gets g [.ref (B + 132), .int x0, .int x1, .int x2] w1 = some (.inl (some (.int v)), w2) ∧ MO w2 (B + 132) y2 ∧ y2 0 = k ∧ (k = 0 → gl w2 (B + 311) 0 = some v.toInt64) ∧ LWi g w2 B (i + 1) c0 s0 := by
  obtain ⟨fs, hO⟩ := h.ob
  obtain ⟨wf, hf, hk⟩ := h.wf
  obtain ⟨fed, kept, fp, tp, rf, δ, τ, im⟩ := s
  have h' := h
  obtain ⟨hI, -, -, hGI, hBY, -⟩ := h'
  refine law_i h Int32.toInt64 (fr := fun w1 => fX11_gets g [.ref (B + 132), .int x0, .int x1, .int x2] w1) (CZ.of (gets_c hg (by omega) hI x0 x1 x2)) hGI hBY (fun w1 x hR => RZo.of (gets_r hg.1 wf hR x0 x1 x2)) (fun w1 x p hR ho => gets_z hg.1 wf hR x0 x1 x2 ho) (fun v hv => gets_s1 x0 x1 x2 hv) (fun v w1 w1' ho e1 e2 => ?_) (fun p w1 ho e1 => ?_)
  · have e1' : fX10_gets g [.ref B, .int x0, .int x1, .int x2] w = some (.inl (some (.int v)), w1) := e1
    simp [fL_gets, kL_gets, ent, entp, bL_gets_0, i_aload, i_astore, i_i2l, i_iload, i_ireturn, i_jmp, i_lastore, i_push, msk, lset1, lset2, clr, Value.category, Option.toList, List.cons_append, List.nil_append, List.length_cons, List.length_nil, i_cvC, hO, e1', e2]
  · rcases gets_s2 x0 x1 x2 ho with hp | hp
    · subst hp
      have e2 : fX10_gets g [.ref B, .int x0, .int x1, .int x2] w = some (.inr "java/lang/IndexOutOfBoundsException", w1) := e1
      refine ⟨?_, by decide⟩
      simp [fL_gets, kL_gets, ent, entp, bL_gets_0, i_aload, i_astore, i_i2l, i_iload, i_ireturn, i_jmp, i_lastore, i_push, msk, lset1, lset2, clr, Value.category, Option.toList, List.cons_append, List.nil_append, List.length_cons, List.length_nil, i_cvC, hO, e2]
      decide
    · subst hp
      have e2 : fX10_gets g [.ref B, .int x0, .int x1, .int x2] w = some (.inr "java/lang/IllegalArgumentException", w1) := e1
      refine ⟨?_, by decide⟩
      simp [fL_gets, kL_gets, ent, entp, bL_gets_0, i_aload, i_astore, i_i2l, i_iload, i_ireturn, i_jmp, i_lastore, i_push, msk, lset1, lset2, clr, Value.category, Option.toList, List.cons_append, List.nil_append, List.length_cons, List.length_nil, i_cvC, hO, e2]
      decide
theorem goes_s1 {δ : DE} (x0 x1 : Int32) {v : Value} (h : goesO δ x0 x1 = .inl v) : ∃ y, v = .int y := by
  unfold goesO at h
  (repeat' (split at h)) <;> first | (cases h; done) | (cases h; exact ⟨_, rfl⟩)
theorem goes_s2 {δ : DE} (x0 x1 : Int32) {p : Nat × Nat} (h : goesO δ x0 x1 = .inr p) : p = (1, 0) := by
  unfold goesO at h
  (repeat' (split at h)) <;> first | (cases h; done) | (cases h; simp)
theorem ly_goes {g : GE} {w : Mem} {B i c0 s0 lev nG : Nat} {s : SG} (hg : GD g) (h : LWs g w B i c0 s0 s lev nG) (x0 x1 : Int32) : ∃ k w1 y1 v w2 y2, fL_goes g [.ref B, .int x0, .int x1, .ref (B + 311)] w = some (.inl (some (.int k)), w1) ∧ MO w1 (B + 132) y1 ∧ fX11_goes g [.ref (B + 132), .int x0, .int x1] w1 = some (.inl (some (.int v)), w2) ∧ MO w2 (B + 132) y2 ∧ y2 0 = k ∧ (k = 0 → gl w2 (B + 311) 0 = some v.toInt64) ∧ LWi g w2 B (i + 1) c0 s0 := by
  obtain ⟨fs, hO⟩ := h.ob
  obtain ⟨wf, hf, hk⟩ := h.wf
  obtain ⟨fed, kept, fp, tp, rf, δ, τ, im⟩ := s
  have h' := h
  obtain ⟨hI, -, -, hGI, hBY, -⟩ := h'
  refine law_i h Int32.toInt64 (fr := fun w1 => fX11_goes g [.ref (B + 132), .int x0, .int x1] w1) (CZ.of (goes_c hg (by omega) hI x0 x1)) hGI hBY (fun w1 x hR => RZo.of (goes_r hg.1 wf hR x0 x1)) (fun w1 x p hR ho => goes_z hg.1 wf hR x0 x1 ho) (fun v hv => goes_s1 x0 x1 hv) (fun v w1 w1' ho e1 e2 => ?_) (fun p w1 ho e1 => ?_)
  · have e1' : fX10_goes g [.ref B, .int x0, .int x1] w = some (.inl (some (.int v)), w1) := e1
    simp [fL_goes, kL_goes, ent, entp, bL_goes_0, i_aload, i_astore, i_i2l, i_iload, i_ireturn, i_jmp, i_lastore, i_push, msk, lset1, lset2, clr, Value.category, Option.toList, List.cons_append, List.nil_append, List.length_cons, List.length_nil, i_cvC, hO, e1', e2]
  · have hp := goes_s2 x0 x1 ho
    subst hp
    have e2 : fX10_goes g [.ref B, .int x0, .int x1] w = some (.inr "java/lang/IndexOutOfBoundsException", w1) := e1
    refine ⟨?_, by decide⟩
    simp [fL_goes, kL_goes, ent, entp, bL_goes_0, i_aload, i_astore, i_i2l, i_iload, i_ireturn, i_jmp, i_lastore, i_push, msk, lset1, lset2, clr, Value.category, Option.toList, List.cons_append, List.nil_append, List.length_cons, List.length_nil, i_cvC, hO, e2]
    decide
theorem often_s1 {δ : DE} (x0 x1 : Int32) {v : Value} (h : oftenO δ x0 x1 = .inl v) : ∃ y, v = .int y := by
  unfold oftenO at h
  (repeat' (split at h)) <;> first | (cases h; done) | (cases h; exact ⟨_, rfl⟩)
theorem often_s2 {δ : DE} (x0 x1 : Int32) {p : Nat × Nat} (h : oftenO δ x0 x1 = .inr p) : p = (1, 0) := by
  unfold oftenO at h
  (repeat' (split at h)) <;> first | (cases h; done) | (cases h; simp)
theorem ly_often {g : GE} {w : Mem} {B i c0 s0 lev nG : Nat} {s : SG} (hg : GD g) (h : LWs g w B i c0 s0 s lev nG) (x0 x1 : Int32) : ∃ k w1 y1 v w2 y2, fL_often g [.ref B, .int x0, .int x1, .ref (B + 311)] w = some (.inl (some (.int k)), w1) ∧ MO w1 (B + 132) y1 ∧ fX11_often g [.ref (B + 132), .int x0, .int x1] w1 = some (.inl (some (.int v)), w2) ∧ MO w2 (B + 132) y2 ∧ y2 0 = k ∧ (k = 0 → gl w2 (B + 311) 0 = some v.toInt64) ∧ LWi g w2 B (i + 1) c0 s0 := by
  obtain ⟨fs, hO⟩ := h.ob
  obtain ⟨wf, hf, hk⟩ := h.wf
  obtain ⟨fed, kept, fp, tp, rf, δ, τ, im⟩ := s
  have h' := h
  obtain ⟨hI, -, -, hGI, hBY, -⟩ := h'
  refine law_i h Int32.toInt64 (fr := fun w1 => fX11_often g [.ref (B + 132), .int x0, .int x1] w1) (CZ.of (often_c hg.1 (by omega) hI x0 x1)) hGI hBY (fun w1 x hR => RZo.of (often_r hg.1 wf hR x0 x1)) (fun w1 x p hR ho => often_z hg.1 wf hR x0 x1 ho) (fun v hv => often_s1 x0 x1 hv) (fun v w1 w1' ho e1 e2 => ?_) (fun p w1 ho e1 => ?_)
  · have e1' : fX10_often g [.ref B, .int x0, .int x1] w = some (.inl (some (.int v)), w1) := e1
    simp [fL_often, kL_often, ent, entp, bL_often_0, i_aload, i_astore, i_i2l, i_iload, i_ireturn, i_jmp, i_lastore, i_push, msk, lset1, lset2, clr, Value.category, Option.toList, List.cons_append, List.nil_append, List.length_cons, List.length_nil, i_cvC, hO, e1', e2]
  · have hp := often_s2 x0 x1 ho
    subst hp
    have e2 : fX10_often g [.ref B, .int x0, .int x1] w = some (.inr "java/lang/IndexOutOfBoundsException", w1) := e1
    refine ⟨?_, by decide⟩
    simp [fL_often, kL_often, ent, entp, bL_often_0, i_aload, i_astore, i_i2l, i_iload, i_ireturn, i_jmp, i_lastore, i_push, msk, lset1, lset2, clr, Value.category, Option.toList, List.cons_append, List.nil_append, List.length_cons, List.length_nil, i_cvC, hO, e2]
    decide
theorem sure_s1 {δ : DE} (x0 x1 : Int32) {v : Value} (h : sureO δ x0 x1 = .inl v) : ∃ y, v = .int y := by
  unfold sureO at h
  (repeat' (split at h)) <;> first | (cases h; done) | (cases h; exact ⟨_, rfl⟩)
theorem sure_s2 {δ : DE} (x0 x1 : Int32) {p : Nat × Nat} (h : sureO δ x0 x1 = .inr p) : p = (1, 0) := by
  unfold sureO at h
  (repeat' (split at h)) <;> first | (cases h; done) | (cases h; simp)
theorem ly_sure {g : GE} {w : Mem} {B i c0 s0 lev nG : Nat} {s : SG} (hg : GD g) (h : LWs g w B i c0 s0 s lev nG) (x0 x1 : Int32) : ∃ k w1 y1 v w2 y2, fL_sure g [.ref B, .int x0, .int x1, .ref (B + 311)] w = some (.inl (some (.int k)), w1) ∧ MO w1 (B + 132) y1 ∧ fX11_sure g [.ref (B + 132), .int x0, .int x1] w1 = some (.inl (some (.int v)), w2) ∧ MO w2 (B + 132) y2 ∧ y2 0 = k ∧ (k = 0 → gl w2 (B + 311) 0 = some (if v = 0 then 0 else 1)) ∧ LWi g w2 B (i + 1) c0 s0 := by
  obtain ⟨fs, hO⟩ := h.ob
  obtain ⟨wf, hf, hk⟩ := h.wf
  obtain ⟨fed, kept, fp, tp, rf, δ, τ, im⟩ := s
  have h' := h
  obtain ⟨hI, -, -, hGI, hBY, -⟩ := h'
  refine law_i h (fun v => if v = 0 then 0 else 1) (fr := fun w1 => fX11_sure g [.ref (B + 132), .int x0, .int x1] w1) (CZ.of (sure_c hg (by omega) hI x0 x1)) hGI hBY (fun w1 x hR => RZo.of (sure_r hg.1 wf hR x0 x1)) (fun w1 x p hR ho => sure_z hg.1 wf hR x0 x1 ho) (fun v hv => sure_s1 x0 x1 hv) (fun v w1 w1' ho e1 e2 => ?_) (fun p w1 ho e1 => ?_)
  · have e1' : fX10_sure g [.ref B, .int x0, .int x1] w = some (.inl (some (.int v)), w1) := e1
    by_cases y : v = 0
    · rw [if_pos y] at e2
      obtain ⟨N, hN⟩ : ∃ N, g.1 = N + 2 := ⟨g.1 - 2, by have := hg.1; omega⟩
      simp [fL_sure, kL_sure, ent, entp, jL_sure, bL_sure_0, bL_sure_1, i_aload, i_astore, i_ifeq, i_iload, i_ireturn, i_jmp, i_lastore, i_push, msk, lset1, lset2, clr, Value.category, Option.toList, List.cons_append, List.nil_append, List.length_cons, List.length_nil, hN, i_cvC, hO, e1', y, e2]
    · rw [if_neg y] at e2
      obtain ⟨N, hN⟩ : ∃ N, g.1 = N + 2 := ⟨g.1 - 2, by have := hg.1; omega⟩
      simp [fL_sure, kL_sure, ent, entp, jL_sure, bL_sure_0, bL_sure_1, i_aload, i_astore, i_ifeq, i_iload, i_ireturn, i_jmp, i_lastore, i_push, msk, lset1, lset2, clr, Value.category, Option.toList, List.cons_append, List.nil_append, List.length_cons, List.length_nil, hN, i_cvC, hO, e1', y, e2]
  · obtain ⟨N, hN⟩ : ∃ N, g.1 = N + 2 := ⟨g.1 - 2, by have := hg.1; omega⟩
    have hp := sure_s2 x0 x1 ho
    subst hp
    have e2 : fX10_sure g [.ref B, .int x0, .int x1] w = some (.inr "java/lang/IndexOutOfBoundsException", w1) := e1
    refine ⟨?_, by decide⟩
    simp [fL_sure, kL_sure, ent, entp, jL_sure, bL_sure_0, bL_sure_1, i_aload, i_astore, i_ifeq, i_iload, i_ireturn, i_jmp, i_lastore, i_push, msk, lset1, lset2, clr, Value.category, Option.toList, List.cons_append, List.nil_append, List.length_cons, List.length_nil, hN, i_cvC, hO, e2]
    decide
theorem coin_s1 {δ : DE} (x0 x1 : Int32) {v : Value} (h : coinO δ x0 x1 = .inl v) : ∃ y, v = .int y := by
  unfold coinO at h
  (repeat' (split at h)) <;> first | (cases h; done) | (cases h; exact ⟨_, rfl⟩)
theorem coin_s2 {δ : DE} (x0 x1 : Int32) {p : Nat × Nat} (h : coinO δ x0 x1 = .inr p) : p = (1, 0) ∨ p = (2, 2) := by
  unfold coinO at h
  (repeat' (split at h)) <;> first | (cases h; done) | (cases h; simp)
theorem ly_coin {g : GE} {w : Mem} {B i c0 s0 lev nG : Nat} {s : SG} (hg : GD g) (h : LWs g w B i c0 s0 s lev nG) (x0 x1 : Int32) : ∃ k w1 y1 v w2 y2, fL_coin g [.ref B, .int x0, .int x1, .ref (B + 311)] w = some (.inl (some (.int k)), w1) ∧ MO w1 (B + 132) y1 ∧ fX11_coin g [.ref (B + 132), .int x0, .int x1] w1 = some (.inl (some (.int v)), w2) ∧ MO w2 (B + 132) y2 ∧ y2 0 = k ∧ (k = 0 → gl w2 (B + 311) 0 = some v.toInt64) ∧ LWi g w2 B (i + 1) c0 s0 := by
  obtain ⟨fs, hO⟩ := h.ob
  obtain ⟨wf, hf, hk⟩ := h.wf
  obtain ⟨fed, kept, fp, tp, rf, δ, τ, im⟩ := s
  have h' := h
  obtain ⟨hI, -, -, hGI, hBY, -⟩ := h'
  refine law_i h Int32.toInt64 (fr := fun w1 => fX11_coin g [.ref (B + 132), .int x0, .int x1] w1) (CZ.of (coin_c hg (by omega) hI x0 x1)) hGI hBY (fun w1 x hR => RZo.of (coin_r hg.1 wf hR x0 x1)) (fun w1 x p hR ho => coin_z hg.1 wf hR x0 x1 ho) (fun v hv => coin_s1 x0 x1 hv) (fun v w1 w1' ho e1 e2 => ?_) (fun p w1 ho e1 => ?_)
  · have e1' : fX10_coin g [.ref B, .int x0, .int x1] w = some (.inl (some (.int v)), w1) := e1
    simp [fL_coin, kL_coin, ent, entp, bL_coin_0, i_aload, i_astore, i_i2l, i_iload, i_ireturn, i_jmp, i_lastore, i_push, msk, lset1, lset2, clr, Value.category, Option.toList, List.cons_append, List.nil_append, List.length_cons, List.length_nil, i_cvC, hO, e1', e2]
  · rcases coin_s2 x0 x1 ho with hp | hp
    · subst hp
      have e2 : fX10_coin g [.ref B, .int x0, .int x1] w = some (.inr "java/lang/IndexOutOfBoundsException", w1) := e1
      refine ⟨?_, by decide⟩
      simp [fL_coin, kL_coin, ent, entp, bL_coin_0, i_aload, i_astore, i_i2l, i_iload, i_ireturn, i_jmp, i_lastore, i_push, msk, lset1, lset2, clr, Value.category, Option.toList, List.cons_append, List.nil_append, List.length_cons, List.length_nil, i_cvC, hO, e2]
      decide
    · subst hp
      have e2 : fX10_coin g [.ref B, .int x0, .int x1] w = some (.inr "java/lang/IllegalArgumentException", w1) := e1
      refine ⟨?_, by decide⟩
      simp [fL_coin, kL_coin, ent, entp, bL_coin_0, i_aload, i_astore, i_i2l, i_iload, i_ireturn, i_jmp, i_lastore, i_push, msk, lset1, lset2, clr, Value.category, Option.toList, List.cons_append, List.nil_append, List.length_cons, List.length_nil, i_cvC, hO, e2]
      decide
theorem worth_s1 {δ : DE} (x0 x1 : Int32) {v : Value} (h : worthO δ x0 x1 = .inl v) : ∃ y, v = .int y := by
  unfold worthO at h
  (repeat' (split at h)) <;> first | (cases h; done) | (cases h; exact ⟨_, rfl⟩)
theorem worth_s2 {δ : DE} (x0 x1 : Int32) {p : Nat × Nat} (h : worthO δ x0 x1 = .inr p) : p = (1, 0) ∨ p = (2, 2) := by
  unfold worthO at h
  (repeat' (split at h)) <;> first | (cases h; done) | (cases h; simp)
theorem ly_worth {g : GE} {w : Mem} {B i c0 s0 lev nG : Nat} {s : SG} (hg : GD g) (h : LWs g w B i c0 s0 s lev nG) (x0 x1 : Int32) : ∃ k w1 y1 v w2 y2, fL_worth g [.ref B, .int x0, .int x1, .ref (B + 311)] w = some (.inl (some (.int k)), w1) ∧ MO w1 (B + 132) y1 ∧ fX11_worth g [.ref (B + 132), .int x0, .int x1] w1 = some (.inl (some (.int v)), w2) ∧ MO w2 (B + 132) y2 ∧ y2 0 = k ∧ (k = 0 → gl w2 (B + 311) 0 = some v.toInt64) ∧ LWi g w2 B (i + 1) c0 s0 := by
  obtain ⟨fs, hO⟩ := h.ob
  obtain ⟨wf, hf, hk⟩ := h.wf
  obtain ⟨fed, kept, fp, tp, rf, δ, τ, im⟩ := s
  have h' := h
  obtain ⟨hI, -, -, hGI, hBY, -⟩ := h'
  refine law_i h Int32.toInt64 (fr := fun w1 => fX11_worth g [.ref (B + 132), .int x0, .int x1] w1) (CZ.of (worth_c hg (by omega) hI x0 x1)) hGI hBY (fun w1 x hR => RZo.of (worth_r hg.1 wf hR x0 x1)) (fun w1 x p hR ho => worth_z hg.1 wf hR x0 x1 ho) (fun v hv => worth_s1 x0 x1 hv) (fun v w1 w1' ho e1 e2 => ?_) (fun p w1 ho e1 => ?_)
  · have e1' : fX10_worth g [.ref B, .int x0, .int x1] w = some (.inl (some (.int v)), w1) := e1
    simp [fL_worth, kL_worth, ent, entp, bL_worth_0, i_aload, i_astore, i_i2l, i_iload, i_ireturn, i_jmp, i_lastore, i_push, msk, lset1, lset2, clr, Value.category, Option.toList, List.cons_append, List.nil_append, List.length_cons, List.length_nil, i_cvC, hO, e1', e2]
  · rcases worth_s2 x0 x1 ho with hp | hp
    · subst hp
      have e2 : fX10_worth g [.ref B, .int x0, .int x1] w = some (.inr "java/lang/IndexOutOfBoundsException", w1) := e1
      refine ⟨?_, by decide⟩
      simp [fL_worth, kL_worth, ent, entp, bL_worth_0, i_aload, i_astore, i_i2l, i_iload, i_ireturn, i_jmp, i_lastore, i_push, msk, lset1, lset2, clr, Value.category, Option.toList, List.cons_append, List.nil_append, List.length_cons, List.length_nil, i_cvC, hO, e2]
      decide
    · subst hp
      have e2 : fX10_worth g [.ref B, .int x0, .int x1] w = some (.inr "java/lang/IllegalArgumentException", w1) := e1
      refine ⟨?_, by decide⟩
      simp [fL_worth, kL_worth, ent, entp, bL_worth_0, i_aload, i_astore, i_i2l, i_iload, i_ireturn, i_jmp, i_lastore, i_push, msk, lset1, lset2, clr, Value.category, Option.toList, List.cons_append, List.nil_append, List.length_cons, List.length_nil, i_cvC, hO, e2]
      decide
theorem cleaned_s1 {δ : DE} (x0 : Int32) {v : Value} (h : cleanedO δ x0 = .inl v) : ∃ y, v = .int y := by
  unfold cleanedO at h
  (repeat' (split at h)) <;> first | (cases h; done) | (cases h; exact ⟨_, rfl⟩)
theorem cleaned_s2 {δ : DE} (x0 : Int32) {p : Nat × Nat} (h : cleanedO δ x0 = .inr p) : p = (1, 1) := by
  unfold cleanedO at h
  (repeat' (split at h)) <;> first | (cases h; done) | (cases h; simp)
theorem ly_cleaned {g : GE} {w : Mem} {B i c0 s0 lev nG : Nat} {s : SG} (hg : GD g) (h : LWs g w B i c0 s0 s lev nG) (x0 : Int32) : ∃ k w1 y1 v w2 y2, fL_cleaned g [.ref B, .int x0, .ref (B + 311)] w = some (.inl (some (.int k)), w1) ∧ MO w1 (B + 132) y1 ∧ fX11_cleaned g [.ref (B + 132), .int x0] w1 = some (.inl (some (.int v)), w2) ∧ MO w2 (B + 132) y2 ∧ y2 0 = k ∧ (k = 0 → gl w2 (B + 311) 0 = some v.toInt64) ∧ LWi g w2 B (i + 1) c0 s0 := by
  obtain ⟨fs, hO⟩ := h.ob
  obtain ⟨wf, hf, hk⟩ := h.wf
  obtain ⟨fed, kept, fp, tp, rf, δ, τ, im⟩ := s
  have h' := h
  obtain ⟨hI, -, -, hGI, hBY, -⟩ := h'
  refine law_i h Int32.toInt64 (fr := fun w1 => fX11_cleaned g [.ref (B + 132), .int x0] w1) (CZ.of (cleaned_c hg (by omega) hI x0)) hGI hBY (fun w1 x hR => RZo.of (cleaned_r hg.1 wf hR x0)) (fun w1 x p hR ho => cleaned_z hg.1 wf hR x0 ho) (fun v hv => cleaned_s1 x0 hv) (fun v w1 w1' ho e1 e2 => ?_) (fun p w1 ho e1 => ?_)
  · have e1' : fX10_cleaned g [.ref B, .int x0] w = some (.inl (some (.int v)), w1) := e1
    simp [fL_cleaned, kL_cleaned, ent, entp, bL_cleaned_0, i_aload, i_astore, i_i2l, i_iload, i_ireturn, i_jmp, i_lastore, i_push, msk, lset1, lset2, clr, Value.category, Option.toList, List.cons_append, List.nil_append, List.length_cons, List.length_nil, i_cvC, hO, e1', e2]
  · have hp := cleaned_s2 x0 ho
    subst hp
    have e2 : fX10_cleaned g [.ref B, .int x0] w = some (.inr "java/util/NoSuchElementException", w1) := e1
    refine ⟨?_, by decide⟩
    simp [fL_cleaned, kL_cleaned, ent, entp, bL_cleaned_0, i_aload, i_astore, i_i2l, i_iload, i_ireturn, i_jmp, i_lastore, i_push, msk, lset1, lset2, clr, Value.category, Option.toList, List.cons_append, List.nil_append, List.length_cons, List.length_nil, i_cvC, hO, e2]
    decide
theorem fewest_s1 {δ : DE} (x0 x1 : Int32) {v : Value} (h : fewestO δ x0 x1 = .inl v) : ∃ y, v = .int y := by
  unfold fewestO at h
  (repeat' (split at h)) <;> first | (cases h; done) | (cases h; exact ⟨_, rfl⟩)
theorem fewest_s2 {δ : DE} (x0 x1 : Int32) {p : Nat × Nat} (h : fewestO δ x0 x1 = .inr p) : p = (1, 0) ∨ p = (2, 2) := by
  unfold fewestO at h
  (repeat' (split at h)) <;> first | (cases h; done) | (cases h; simp)
theorem ly_fewest {g : GE} {w : Mem} {B i c0 s0 lev nG : Nat} {s : SG} (hg : GD g) (h : LWs g w B i c0 s0 s lev nG) (x0 x1 : Int32) : ∃ k w1 y1 v w2 y2, fL_fewest g [.ref B, .int x0, .int x1, .ref (B + 311)] w = some (.inl (some (.int k)), w1) ∧ MO w1 (B + 132) y1 ∧ fX11_fewest g [.ref (B + 132), .int x0, .int x1] w1 = some (.inl (some (.int v)), w2) ∧ MO w2 (B + 132) y2 ∧ y2 0 = k ∧ (k = 0 → gl w2 (B + 311) 0 = some v.toInt64) ∧ LWi g w2 B (i + 1) c0 s0 := by
  obtain ⟨fs, hO⟩ := h.ob
  obtain ⟨wf, hf, hk⟩ := h.wf
  obtain ⟨fed, kept, fp, tp, rf, δ, τ, im⟩ := s
  have h' := h
  obtain ⟨hI, -, -, hGI, hBY, -⟩ := h'
  refine law_i h Int32.toInt64 (fr := fun w1 => fX11_fewest g [.ref (B + 132), .int x0, .int x1] w1) (CZ.of (fewest_c hg (by omega) hI x0 x1)) hGI hBY (fun w1 x hR => RZo.of (fewest_r hg.1 wf hR x0 x1)) (fun w1 x p hR ho => fewest_z hg.1 wf hR x0 x1 ho) (fun v hv => fewest_s1 x0 x1 hv) (fun v w1 w1' ho e1 e2 => ?_) (fun p w1 ho e1 => ?_)
  · have e1' : fX10_fewest g [.ref B, .int x0, .int x1] w = some (.inl (some (.int v)), w1) := e1
    simp [fL_fewest, kL_fewest, ent, entp, bL_fewest_0, i_aload, i_astore, i_i2l, i_iload, i_ireturn, i_jmp, i_lastore, i_push, msk, lset1, lset2, clr, Value.category, Option.toList, List.cons_append, List.nil_append, List.length_cons, List.length_nil, i_cvC, hO, e1', e2]
  · rcases fewest_s2 x0 x1 ho with hp | hp
    · subst hp
      have e2 : fX10_fewest g [.ref B, .int x0, .int x1] w = some (.inr "java/lang/IndexOutOfBoundsException", w1) := e1
      refine ⟨?_, by decide⟩
      simp [fL_fewest, kL_fewest, ent, entp, bL_fewest_0, i_aload, i_astore, i_i2l, i_iload, i_ireturn, i_jmp, i_lastore, i_push, msk, lset1, lset2, clr, Value.category, Option.toList, List.cons_append, List.nil_append, List.length_cons, List.length_nil, i_cvC, hO, e2]
      decide
    · subst hp
      have e2 : fX10_fewest g [.ref B, .int x0, .int x1] w = some (.inr "java/lang/IllegalArgumentException", w1) := e1
      refine ⟨?_, by decide⟩
      simp [fL_fewest, kL_fewest, ent, entp, bL_fewest_0, i_aload, i_astore, i_i2l, i_iload, i_ireturn, i_jmp, i_lastore, i_push, msk, lset1, lset2, clr, Value.category, Option.toList, List.cons_append, List.nil_append, List.length_cons, List.length_nil, i_cvC, hO, e2]
      decide
theorem sway_s1 {δ : DE} (x0 x1 : Int32) {v : Value} (h : swayO δ x0 x1 = .inl v) : ∃ y, v = .int y := by
  unfold swayO at h
  (repeat' (split at h)) <;> first | (cases h; done) | (cases h; exact ⟨_, rfl⟩)
theorem sway_s2 {δ : DE} (x0 x1 : Int32) {p : Nat × Nat} (h : swayO δ x0 x1 = .inr p) : p = (1, 0) ∨ p = (2, 1) := by
  unfold swayO at h
  (repeat' (split at h)) <;> first | (cases h; done) | (cases h; simp)
theorem ly_sway {g : GE} {w : Mem} {B i c0 s0 lev nG : Nat} {s : SG} (hg : GD g) (h : LWs g w B i c0 s0 s lev nG) (x0 x1 : Int32) : ∃ k w1 y1 v w2 y2, fL_sway g [.ref B, .int x0, .int x1, .ref (B + 311)] w = some (.inl (some (.int k)), w1) ∧ MO w1 (B + 132) y1 ∧ fX11_sway g [.ref (B + 132), .int x0, .int x1] w1 = some (.inl (some (.int v)), w2) ∧ MO w2 (B + 132) y2 ∧ y2 0 = k ∧ (k = 0 → gl w2 (B + 311) 0 = some v.toInt64) ∧ LWi g w2 B (i + 1) c0 s0 := by
  obtain ⟨fs, hO⟩ := h.ob
  obtain ⟨wf, hf, hk⟩ := h.wf
  obtain ⟨fed, kept, fp, tp, rf, δ, τ, im⟩ := s
  have h' := h
  obtain ⟨hI, -, -, hGI, hBY, -⟩ := h'
  refine law_i h Int32.toInt64 (fr := fun w1 => fX11_sway g [.ref (B + 132), .int x0, .int x1] w1) (CZ.of (sway_c hg (by omega) hI x0 x1)) hGI hBY (fun w1 x hR => RZo.of (sway_r hg.1 wf hR x0 x1)) (fun w1 x p hR ho => sway_z hg.1 wf hR x0 x1 ho) (fun v hv => sway_s1 x0 x1 hv) (fun v w1 w1' ho e1 e2 => ?_) (fun p w1 ho e1 => ?_)
  · have e1' : fX10_sway g [.ref B, .int x0, .int x1] w = some (.inl (some (.int v)), w1) := e1
    simp [fL_sway, kL_sway, ent, entp, bL_sway_0, i_aload, i_astore, i_i2l, i_iload, i_ireturn, i_jmp, i_lastore, i_push, msk, lset1, lset2, clr, Value.category, Option.toList, List.cons_append, List.nil_append, List.length_cons, List.length_nil, i_cvC, hO, e1', e2]
  · rcases sway_s2 x0 x1 ho with hp | hp
    · subst hp
      have e2 : fX10_sway g [.ref B, .int x0, .int x1] w = some (.inr "java/lang/IndexOutOfBoundsException", w1) := e1
      refine ⟨?_, by decide⟩
      simp [fL_sway, kL_sway, ent, entp, bL_sway_0, i_aload, i_astore, i_i2l, i_iload, i_ireturn, i_jmp, i_lastore, i_push, msk, lset1, lset2, clr, Value.category, Option.toList, List.cons_append, List.nil_append, List.length_cons, List.length_nil, i_cvC, hO, e2]
      decide
    · subst hp
      have e2 : fX10_sway g [.ref B, .int x0, .int x1] w = some (.inr "java/util/NoSuchElementException", w1) := e1
      refine ⟨?_, by decide⟩
      simp [fL_sway, kL_sway, ent, entp, bL_sway_0, i_aload, i_astore, i_i2l, i_iload, i_ireturn, i_jmp, i_lastore, i_push, msk, lset1, lset2, clr, Value.category, Option.toList, List.cons_append, List.nil_append, List.length_cons, List.length_nil, i_cvC, hO, e2]
      decide
theorem gains_s1 {δ : DE} (x0 : Int32) {v : Value} (h : gainsO δ x0 = .inl v) : ∃ y, v = .int y := by
  unfold gainsO at h
  (repeat' (split at h)) <;> first | (cases h; done) | (cases h; exact ⟨_, rfl⟩)
theorem gains_s2 {δ : DE} (x0 : Int32) {p : Nat × Nat} (h : gainsO δ x0 = .inr p) : p = (1, 1) := by
  unfold gainsO at h
  (repeat' (split at h)) <;> first | (cases h; done) | (cases h; simp)
theorem ly_gains {g : GE} {w : Mem} {B i c0 s0 lev nG : Nat} {s : SG} (hg : GD g) (h : LWs g w B i c0 s0 s lev nG) (x0 : Int32) : ∃ k w1 y1 v w2 y2, fL_gains g [.ref B, .int x0, .ref (B + 311)] w = some (.inl (some (.int k)), w1) ∧ MO w1 (B + 132) y1 ∧ fX11_gains g [.ref (B + 132), .int x0] w1 = some (.inl (some (.int v)), w2) ∧ MO w2 (B + 132) y2 ∧ y2 0 = k ∧ (k = 0 → gl w2 (B + 311) 0 = some v.toInt64) ∧ LWi g w2 B (i + 1) c0 s0 := by
  obtain ⟨fs, hO⟩ := h.ob
  obtain ⟨wf, hf, hk⟩ := h.wf
  obtain ⟨fed, kept, fp, tp, rf, δ, τ, im⟩ := s
  have h' := h
  obtain ⟨hI, -, -, hGI, hBY, -⟩ := h'
  refine law_i h Int32.toInt64 (fr := fun w1 => fX11_gains g [.ref (B + 132), .int x0] w1) (CZ.of (gains_c hg (by omega) hI x0)) hGI hBY (fun w1 x hR => RZo.of (gains_r hg.1 wf hR x0)) (fun w1 x p hR ho => gains_z hg.1 wf hR x0 ho) (fun v hv => gains_s1 x0 hv) (fun v w1 w1' ho e1 e2 => ?_) (fun p w1 ho e1 => ?_)
  · have e1' : fX10_gains g [.ref B, .int x0] w = some (.inl (some (.int v)), w1) := e1
    simp [fL_gains, kL_gains, ent, entp, bL_gains_0, i_aload, i_astore, i_i2l, i_iload, i_ireturn, i_jmp, i_lastore, i_push, msk, lset1, lset2, clr, Value.category, Option.toList, List.cons_append, List.nil_append, List.length_cons, List.length_nil, i_cvC, hO, e1', e2]
  · have hp := gains_s2 x0 ho
    subst hp
    have e2 : fX10_gains g [.ref B, .int x0] w = some (.inr "java/util/NoSuchElementException", w1) := e1
    refine ⟨?_, by decide⟩
    simp [fL_gains, kL_gains, ent, entp, bL_gains_0, i_aload, i_astore, i_i2l, i_iload, i_ireturn, i_jmp, i_lastore, i_push, msk, lset1, lset2, clr, Value.category, Option.toList, List.cons_append, List.nil_append, List.length_cons, List.length_nil, i_cvC, hO, e2]
    decide
theorem settlement_s1 {δ : DE} (x0 : Int32) {v : Value} (h : settlementO δ x0 = .inl v) : ∃ y, v = .int y := by
  unfold settlementO at h
  (repeat' (split at h)) <;> first | (cases h; done) | (cases h; exact ⟨_, rfl⟩)
theorem settlement_s2 {δ : DE} (x0 : Int32) {p : Nat × Nat} (h : settlementO δ x0 = .inr p) : p = (1, 0) := by
  unfold settlementO at h
  (repeat' (split at h)) <;> first | (cases h; done) | (cases h; simp)
theorem ly_settlement {g : GE} {w : Mem} {B i c0 s0 lev nG : Nat} {s : SG} (hg : GD g) (h : LWs g w B i c0 s0 s lev nG) (x0 : Int32) : ∃ k w1 y1 v w2 y2, fL_settlement g [.ref B, .int x0, .ref (B + 311)] w = some (.inl (some (.int k)), w1) ∧ MO w1 (B + 132) y1 ∧ fX11_settlement g [.ref (B + 132), .int x0] w1 = some (.inl (some (.int v)), w2) ∧ MO w2 (B + 132) y2 ∧ y2 0 = k ∧ (k = 0 → gl w2 (B + 311) 0 = some v.toInt64) ∧ LWi g w2 B (i + 1) c0 s0 := by
  obtain ⟨fs, hO⟩ := h.ob
  obtain ⟨wf, hf, hk⟩ := h.wf
  obtain ⟨fed, kept, fp, tp, rf, δ, τ, im⟩ := s
  have h' := h
  obtain ⟨hI, -, -, hGI, hBY, -⟩ := h'
  refine law_i h Int32.toInt64 (fr := fun w1 => fX11_settlement g [.ref (B + 132), .int x0] w1) (CZ.of (settlement_c hg (by omega) hI x0)) hGI hBY (fun w1 x hR => RZo.of (settlement_r hg.1 wf hR x0)) (fun w1 x p hR ho => settlement_z hg.1 wf hR x0 ho) (fun v hv => settlement_s1 x0 hv) (fun v w1 w1' ho e1 e2 => ?_) (fun p w1 ho e1 => ?_)
  · have e1' : fX10_settlement g [.ref B, .int x0] w = some (.inl (some (.int v)), w1) := e1
    simp [fL_settlement, kL_settlement, ent, entp, bL_settlement_0, i_aload, i_astore, i_i2l, i_iload, i_ireturn, i_jmp, i_lastore, i_push, msk, lset1, lset2, clr, Value.category, Option.toList, List.cons_append, List.nil_append, List.length_cons, List.length_nil, i_cvC, hO, e1', e2]
  · have hp := settlement_s2 x0 ho
    subst hp
    have e2 : fX10_settlement g [.ref B, .int x0] w = some (.inr "java/lang/IndexOutOfBoundsException", w1) := e1
    refine ⟨?_, by decide⟩
    simp [fL_settlement, kL_settlement, ent, entp, bL_settlement_0, i_aload, i_astore, i_i2l, i_iload, i_ireturn, i_jmp, i_lastore, i_push, msk, lset1, lset2, clr, Value.category, Option.toList, List.cons_append, List.nil_append, List.length_cons, List.length_nil, i_cvC, hO, e2]
    decide
theorem copy_s1 {δ : DE} {τ : TE} (x0 x1 x2 : Int32) {v : Value} (h : (copyR δ τ x0 x1 x2).1 = .inl v) : ∃ y, v = .int y := by
  unfold copyR at h
  (repeat' (split at h)) <;> first | (cases h; done) | (cases h; exact ⟨_, rfl⟩)
theorem copy_s2 {δ : DE} {τ : TE} (x0 x1 x2 : Int32) {p : Nat × Nat} (h : (copyR δ τ x0 x1 x2).1 = .inr p) : p = (1, 1) ∨ p = (2, 2) := by
  unfold copyR at h
  (repeat' (split at h)) <;> first | (cases h; done) | (cases h; simp)
theorem ly_copy {g : GE} {w : Mem} {B i c0 s0 lev nG : Nat} {s : SG} (hg : GD g) (h : LWs g w B i c0 s0 s lev nG) (x0 x1 x2 : Int32) : ∃ k w1 y1 v w2 y2, fL_copy g [.ref B, .int x0, .int x1, .int x2, .ref (B + 311)] w = some (.inl (some (.int k)), w1) ∧ MO w1 (B + 132) y1 ∧ fX11_copy g [.ref (B + 132), .int x0, .int x1, .int x2] w1 = some (.inl (some (.int v)), w2) ∧ MO w2 (B + 132) y2 ∧ y2 0 = k ∧ (k = 0 → gl w2 (B + 311) 0 = some v.toInt64) ∧ LWi g w2 B (i + 1) c0 s0 := by
  obtain ⟨fs, hO⟩ := h.ob
  obtain ⟨wf, hf, hk⟩ := h.wf
  obtain ⟨fed, kept, fp, tp, rf, δ, τ, im⟩ := s
  have h' := h
  obtain ⟨hI, -, -, hGI, hBY, -⟩ := h'
  refine law_i h Int32.toInt64 (fr := fun w1 => fX11_copy g [.ref (B + 132), .int x0, .int x1, .int x2] w1) (copy_c hg (by omega) hI hGI.1.1 x0 x1 x2) ⟨TV.cp wf hGI.1 x0 x1 x2, hGI.2⟩ hBY (fun w1 x hR => copy_r hg.1 wf hR hGI.1.1 x0 x1 x2) (fun w1 x p hR ho => copy_z hg.1 wf hR hGI.1.1 x0 x1 x2 ho) (fun v hv => copy_s1 x0 x1 x2 hv) (fun v w1 w1' ho e1 e2 => ?_) (fun p w1 ho e1 => ?_)
  · have e1' : fX10_copy g [.ref B, .int x0, .int x1, .int x2] w = some (.inl (some (.int v)), w1) := e1
    simp [fL_copy, kL_copy, ent, entp, bL_copy_0, i_aload, i_astore, i_i2l, i_iload, i_ireturn, i_jmp, i_lastore, i_push, msk, lset1, lset2, clr, Value.category, Option.toList, List.cons_append, List.nil_append, List.length_cons, List.length_nil, i_cvC, hO, e1', e2]
  · rcases copy_s2 x0 x1 x2 ho with hp | hp
    · subst hp
      have e2 : fX10_copy g [.ref B, .int x0, .int x1, .int x2] w = some (.inr "java/util/NoSuchElementException", w1) := e1
      refine ⟨?_, by decide⟩
      simp [fL_copy, kL_copy, ent, entp, bL_copy_0, i_aload, i_astore, i_i2l, i_iload, i_ireturn, i_jmp, i_lastore, i_push, msk, lset1, lset2, clr, Value.category, Option.toList, List.cons_append, List.nil_append, List.length_cons, List.length_nil, i_cvC, hO, e2]
      decide
    · subst hp
      have e2 : fX10_copy g [.ref B, .int x0, .int x1, .int x2] w = some (.inr "java/lang/IllegalArgumentException", w1) := e1
      refine ⟨?_, by decide⟩
      simp [fL_copy, kL_copy, ent, entp, bL_copy_0, i_aload, i_astore, i_i2l, i_iload, i_ireturn, i_jmp, i_lastore, i_push, msk, lset1, lset2, clr, Value.category, Option.toList, List.cons_append, List.nil_append, List.length_cons, List.length_nil, i_cvC, hO, e2]
      decide
theorem habit_s1 {τ : TE} (x0 x1 x2 x3 : Int32) {v : Value} (h : (habitR τ x0 x1 x2 x3).1 = .inl v) : ∃ y, v = .int y := by
  unfold habitR at h
  (repeat' (split at h)) <;> first | (cases h; done) | (cases h; exact ⟨_, rfl⟩)
theorem habit_s2 {τ : TE} (x0 x1 x2 x3 : Int32) {p : Nat × Nat} (h : (habitR τ x0 x1 x2 x3).1 = .inr p) : p = (1, 2) := by
  unfold habitR at h
  (repeat' (split at h)) <;> first | (cases h; done) | (cases h; simp)
theorem ly_habit {g : GE} {w : Mem} {B i c0 s0 lev nG : Nat} {s : SG} (hg : GD g) (h : LWs g w B i c0 s0 s lev nG) (x0 x1 x2 x3 : Int32) : ∃ k w1 y1 v w2 y2, fL_habit g [.ref B, .int x0, .int x1, .int x2, .int x3, .ref (B + 311)] w = some (.inl (some (.int k)), w1) ∧ MO w1 (B + 132) y1 ∧ fX11_habit g [.ref (B + 132), .int x0, .int x1, .int x2, .int x3] w1 = some (.inl (some (.int v)), w2) ∧ MO w2 (B + 132) y2 ∧ y2 0 = k ∧ (k = 0 → gl w2 (B + 311) 0 = some v.toInt64) ∧ LWi g w2 B (i + 1) c0 s0 := by
  obtain ⟨fs, hO⟩ := h.ob
  obtain ⟨wf, hf, hk⟩ := h.wf
  obtain ⟨fed, kept, fp, tp, rf, δ, τ, im⟩ := s
  have h' := h
  obtain ⟨hI, -, -, hGI, hBY, -⟩ := h'
  refine law_i h Int32.toInt64 (fr := fun w1 => fX11_habit g [.ref (B + 132), .int x0, .int x1, .int x2, .int x3] w1) (habit_c hg (by omega) hI hGI.1.2.1 x0 x1 x2 x3) ⟨TV.hb hGI.1 x0 x1 x2 x3, hGI.2⟩ hBY (fun w1 x hR => habit_r hg.1 wf hR hGI.1.2.1 x0 x1 x2 x3) (fun w1 x p hR ho => habit_z hg.1 wf hR hGI.1.2.1 x0 x1 x2 x3 ho) (fun v hv => habit_s1 x0 x1 x2 x3 hv) (fun v w1 w1' ho e1 e2 => ?_) (fun p w1 ho e1 => ?_)
  · have e1' : fX10_habit g [.ref B, .int x0, .int x1, .int x2, .int x3] w = some (.inl (some (.int v)), w1) := e1
    simp [fL_habit, kL_habit, ent, entp, bL_habit_0, i_aload, i_astore, i_i2l, i_iload, i_ireturn, i_jmp, i_lastore, i_push, msk, lset1, lset2, clr, Value.category, Option.toList, List.cons_append, List.nil_append, List.length_cons, List.length_nil, i_cvC, hO, e1', e2]
  · have hp := habit_s2 x0 x1 x2 x3 ho
    subst hp
    have e2 : fX10_habit g [.ref B, .int x0, .int x1, .int x2, .int x3] w = some (.inr "java/lang/IllegalArgumentException", w1) := e1
    refine ⟨?_, by decide⟩
    simp [fL_habit, kL_habit, ent, entp, bL_habit_0, i_aload, i_astore, i_i2l, i_iload, i_ireturn, i_jmp, i_lastore, i_push, msk, lset1, lset2, clr, Value.category, Option.toList, List.cons_append, List.nil_append, List.length_cons, List.length_nil, i_cvC, hO, e2]
    decide
theorem odds_s1 {δ : DE} {τ : TE} (x0 : Int32) {v : Value} (h : oddsO δ τ x0 = .inl v) : ∃ y, v = .long y := by
  unfold oddsO at h
  (repeat' (split at h)) <;> first | (cases h; done) | (cases h; exact ⟨_, rfl⟩)
theorem odds_s2 {δ : DE} {τ : TE} (x0 : Int32) {p : Nat × Nat} (h : oddsO δ τ x0 = .inr p) : p = (1, 0) := by
  unfold oddsO at h
  (repeat' (split at h)) <;> first | (cases h; done) | (cases h; simp)
theorem ly_odds {g : GE} {w : Mem} {B i c0 s0 lev nG : Nat} {s : SG} (hg : GD g) (h : LWs g w B i c0 s0 s lev nG) (x0 : Int32) : ∃ k w1 y1 v w2 y2, fL_odds g [.ref B, .int x0, .ref (B + 311)] w = some (.inl (some (.int k)), w1) ∧ MO w1 (B + 132) y1 ∧ fX11_odds g [.ref (B + 132), .int x0] w1 = some (.inl (some (.long v)), w2) ∧ MO w2 (B + 132) y2 ∧ y2 0 = k ∧ (k = 0 → gl w2 (B + 311) 0 = some v) ∧ LWi g w2 B (i + 1) c0 s0 := by
  obtain ⟨fs, hO⟩ := h.ob
  obtain ⟨wf, hf, hk⟩ := h.wf
  obtain ⟨fed, kept, fp, tp, rf, δ, τ, im⟩ := s
  have h' := h
  obtain ⟨hI, -, -, hGI, hBY, -⟩ := h'
  refine law_l h (fr := fun w1 => fX11_odds g [.ref (B + 132), .int x0] w1) (CZ.of (odds_c hGI.1 hg (by omega) hI x0)) hGI hBY (fun w1 x hR => RZo.of (odds_r hGI.1 hg.1 wf hR x0)) (fun w1 x p hR ho => odds_z hg.1 wf hR x0 ho) (fun v hv => odds_s1 x0 hv) (fun v w1 w1' ho e1 e2 => ?_) (fun p w1 ho e1 => ?_)
  · have e1' : fX10_odds g [.ref B, .int x0] w = some (.inl (some (.long v)), w1) := e1
    simp [fL_odds, kL_odds, ent, entp, bL_odds_0, i_aload, i_astore, i_iload, i_ireturn, i_jmp, i_lastore, i_push, msk, lset1, lset2, clr, Value.category, Option.toList, List.cons_append, List.nil_append, List.length_cons, List.length_nil, i_cvC, hO, e1', e2]
  · have hp := odds_s2 x0 ho
    subst hp
    have e2 : fX10_odds g [.ref B, .int x0] w = some (.inr "java/lang/IndexOutOfBoundsException", w1) := e1
    refine ⟨?_, by decide⟩
    simp [fL_odds, kL_odds, ent, entp, bL_odds_0, i_aload, i_astore, i_iload, i_ireturn, i_jmp, i_lastore, i_push, msk, lset1, lset2, clr, Value.category, Option.toList, List.cons_append, List.nil_append, List.length_cons, List.length_nil, i_cvC, hO, e2]
    decide
theorem likely_s1 {δ : DE} {τ : TE} (x0 x1 x2 : Int32) {v : Value} (h : likelyO δ τ x0 x1 x2 = .inl v) : ∃ y, v = .long y := by
  unfold likelyO at h
  (repeat' (split at h)) <;> first | (cases h; done) | (cases h; exact ⟨_, rfl⟩)
theorem likely_s2 {δ : DE} {τ : TE} (x0 x1 x2 : Int32) {p : Nat × Nat} (h : likelyO δ τ x0 x1 x2 = .inr p) : p = (1, 0) ∨ p = (2, 2) := by
  unfold likelyO at h
  (repeat' (split at h)) <;> first | (cases h; done) | (cases h; simp)
theorem ly_likely {g : GE} {w : Mem} {B i c0 s0 lev nG : Nat} {s : SG} (hg : GD g) (h : LWs g w B i c0 s0 s lev nG) (x0 x1 x2 : Int32) : ∃ k w1 y1 v w2 y2, fL_likely g [.ref B, .int x0, .int x1, .int x2, .ref (B + 311)] w = some (.inl (some (.int k)), w1) ∧ MO w1 (B + 132) y1 ∧ fX11_likely g [.ref (B + 132), .int x0, .int x1, .int x2] w1 = some (.inl (some (.long v)), w2) ∧ MO w2 (B + 132) y2 ∧ y2 0 = k ∧ (k = 0 → gl w2 (B + 311) 0 = some v) ∧ LWi g w2 B (i + 1) c0 s0 := by
  obtain ⟨fs, hO⟩ := h.ob
  obtain ⟨wf, hf, hk⟩ := h.wf
  obtain ⟨fed, kept, fp, tp, rf, δ, τ, im⟩ := s
  have h' := h
  obtain ⟨hI, -, -, hGI, hBY, -⟩ := h'
  refine law_l h (fr := fun w1 => fX11_likely g [.ref (B + 132), .int x0, .int x1, .int x2] w1) (CZ.of (likely_c hGI.1 hg (by omega) hI x0 x1 x2)) hGI hBY (fun w1 x hR => RZo.of (likely_r hGI.1 hg.1 wf hR x0 x1 x2)) (fun w1 x p hR ho => likely_z hg.1 wf hR x0 x1 x2 ho) (fun v hv => likely_s1 x0 x1 x2 hv) (fun v w1 w1' ho e1 e2 => ?_) (fun p w1 ho e1 => ?_)
  · have e1' : fX10_likely g [.ref B, .int x0, .int x1, .int x2] w = some (.inl (some (.long v)), w1) := e1
    simp [fL_likely, kL_likely, ent, entp, bL_likely_0, i_aload, i_astore, i_iload, i_ireturn, i_jmp, i_lastore, i_push, msk, lset1, lset2, clr, Value.category, Option.toList, List.cons_append, List.nil_append, List.length_cons, List.length_nil, i_cvC, hO, e1', e2]
  · rcases likely_s2 x0 x1 x2 ho with hp | hp
    · subst hp
      have e2 : fX10_likely g [.ref B, .int x0, .int x1, .int x2] w = some (.inr "java/lang/IndexOutOfBoundsException", w1) := e1
      refine ⟨?_, by decide⟩
      simp [fL_likely, kL_likely, ent, entp, bL_likely_0, i_aload, i_astore, i_iload, i_ireturn, i_jmp, i_lastore, i_push, msk, lset1, lset2, clr, Value.category, Option.toList, List.cons_append, List.nil_append, List.length_cons, List.length_nil, i_cvC, hO, e2]
      decide
    · subst hp
      have e2 : fX10_likely g [.ref B, .int x0, .int x1, .int x2] w = some (.inr "java/lang/IllegalArgumentException", w1) := e1
      refine ⟨?_, by decide⟩
      simp [fL_likely, kL_likely, ent, entp, bL_likely_0, i_aload, i_astore, i_iload, i_ireturn, i_jmp, i_lastore, i_push, msk, lset1, lset2, clr, Value.category, Option.toList, List.cons_append, List.nil_append, List.length_cons, List.length_nil, i_cvC, hO, e2]
      decide
theorem slips_s1 {δ : DE} {τ : TE} (x0 : Int32) {v : Value} (h : slipsO δ τ x0 = .inl v) : ∃ y, v = .int y := by
  unfold slipsO at h
  (repeat' (split at h)) <;> first | (cases h; done) | (cases h; exact ⟨_, rfl⟩)
theorem slips_s2 {δ : DE} {τ : TE} (x0 : Int32) {p : Nat × Nat} (h : slipsO δ τ x0 = .inr p) : p = (1, 2) := by
  unfold slipsO at h
  (repeat' (split at h)) <;> first | (cases h; done) | (cases h; simp)
theorem ly_slips {g : GE} {w : Mem} {B i c0 s0 lev nG : Nat} {s : SG} (hg : GD g) (h : LWs g w B i c0 s0 s lev nG) (x0 : Int32) : ∃ k w1 y1 v w2 y2, fL_slips g [.ref B, .int x0, .ref (B + 311)] w = some (.inl (some (.int k)), w1) ∧ MO w1 (B + 132) y1 ∧ fX11_slips g [.ref (B + 132), .int x0] w1 = some (.inl (some (.int v)), w2) ∧ MO w2 (B + 132) y2 ∧ y2 0 = k ∧ (k = 0 → gl w2 (B + 311) 0 = some v.toInt64) ∧ LWi g w2 B (i + 1) c0 s0 := by
  obtain ⟨fs, hO⟩ := h.ob
  obtain ⟨wf, hf, hk⟩ := h.wf
  obtain ⟨fed, kept, fp, tp, rf, δ, τ, im⟩ := s
  have h' := h
  obtain ⟨hI, -, -, hGI, hBY, -⟩ := h'
  refine law_i h Int32.toInt64 (fr := fun w1 => fX11_slips g [.ref (B + 132), .int x0] w1) (CZ.of (slips_c hGI.1 hg (by omega) hI x0)) hGI hBY (fun w1 x hR => RZo.of (slips_r hGI.1 hg.1 wf hR x0)) (fun w1 x p hR ho => slips_z hg.1 wf hR x0 ho) (fun v hv => slips_s1 x0 hv) (fun v w1 w1' ho e1 e2 => ?_) (fun p w1 ho e1 => ?_)
  · have e1' : fX10_slips g [.ref B, .int x0] w = some (.inl (some (.int v)), w1) := e1
    simp [fL_slips, kL_slips, ent, entp, bL_slips_0, i_aload, i_astore, i_i2l, i_iload, i_ireturn, i_jmp, i_lastore, i_push, msk, lset1, lset2, clr, Value.category, Option.toList, List.cons_append, List.nil_append, List.length_cons, List.length_nil, i_cvC, hO, e1', e2]
  · have hp := slips_s2 x0 ho
    subst hp
    have e2 : fX10_slips g [.ref B, .int x0] w = some (.inr "java/lang/IllegalArgumentException", w1) := e1
    refine ⟨?_, by decide⟩
    simp [fL_slips, kL_slips, ent, entp, bL_slips_0, i_aload, i_astore, i_i2l, i_iload, i_ireturn, i_jmp, i_lastore, i_push, msk, lset1, lset2, clr, Value.category, Option.toList, List.cons_append, List.nil_append, List.length_cons, List.length_nil, i_cvC, hO, e2]
    decide
theorem more_s1 {δ : DE} (x0 x1 : Int32) {v : Value} (h : moreO δ x0 x1 = .inl v) : ∃ y, v = .int y := by
  unfold moreO at h
  (repeat' (split at h)) <;> first | (cases h; done) | (cases h; exact ⟨_, rfl⟩)
theorem more_s2 {δ : DE} (x0 x1 : Int32) {p : Nat × Nat} (h : moreO δ x0 x1 = .inr p) : p = (1, 0) ∨ p = (2, 2) := by
  unfold moreO at h
  (repeat' (split at h)) <;> first | (cases h; done) | (cases h; simp)
theorem ly_more {g : GE} {w : Mem} {B i c0 s0 lev nG : Nat} {s : SG} (hg : GD g) (h : LWs g w B i c0 s0 s lev nG) (x0 x1 : Int32) : ∃ k w1 y1 v w2 y2, fL_more g [.ref B, .int x0, .int x1, .ref (B + 311)] w = some (.inl (some (.int k)), w1) ∧ MO w1 (B + 132) y1 ∧ fX11_more g [.ref (B + 132), .int x0, .int x1] w1 = some (.inl (some (.int v)), w2) ∧ MO w2 (B + 132) y2 ∧ y2 0 = k ∧ (k = 0 → gl w2 (B + 311) 0 = some v.toInt64) ∧ LWi g w2 B (i + 1) c0 s0 := by
  obtain ⟨fs, hO⟩ := h.ob
  obtain ⟨wf, hf, hk⟩ := h.wf
  obtain ⟨fed, kept, fp, tp, rf, δ, τ, im⟩ := s
  have h' := h
  obtain ⟨hI, -, -, hGI, hBY, -⟩ := h'
  refine law_i h Int32.toInt64 (fr := fun w1 => fX11_more g [.ref (B + 132), .int x0, .int x1] w1) (CZ.of (more_c hg (by omega) hI x0 x1)) hGI hBY (fun w1 x hR => RZo.of (more_r hg.1 wf hR x0 x1)) (fun w1 x p hR ho => more_z hg.1 wf hR x0 x1 ho) (fun v hv => more_s1 x0 x1 hv) (fun v w1 w1' ho e1 e2 => ?_) (fun p w1 ho e1 => ?_)
  · have e1' : fX10_more g [.ref B, .int x0, .int x1] w = some (.inl (some (.int v)), w1) := e1
    simp [fL_more, kL_more, ent, entp, bL_more_0, i_aload, i_astore, i_i2l, i_iload, i_ireturn, i_jmp, i_lastore, i_push, msk, lset1, lset2, clr, Value.category, Option.toList, List.cons_append, List.nil_append, List.length_cons, List.length_nil, i_cvC, hO, e1', e2]
  · rcases more_s2 x0 x1 ho with hp | hp
    · subst hp
      have e2 : fX10_more g [.ref B, .int x0, .int x1] w = some (.inr "java/lang/IndexOutOfBoundsException", w1) := e1
      refine ⟨?_, by decide⟩
      simp [fL_more, kL_more, ent, entp, bL_more_0, i_aload, i_astore, i_i2l, i_iload, i_ireturn, i_jmp, i_lastore, i_push, msk, lset1, lset2, clr, Value.category, Option.toList, List.cons_append, List.nil_append, List.length_cons, List.length_nil, i_cvC, hO, e2]
      decide
    · subst hp
      have e2 : fX10_more g [.ref B, .int x0, .int x1] w = some (.inr "java/lang/IllegalArgumentException", w1) := e1
      refine ⟨?_, by decide⟩
      simp [fL_more, kL_more, ent, entp, bL_more_0, i_aload, i_astore, i_i2l, i_iload, i_ireturn, i_jmp, i_lastore, i_push, msk, lset1, lset2, clr, Value.category, Option.toList, List.cons_append, List.nil_append, List.length_cons, List.length_nil, i_cvC, hO, e2]
      decide
theorem weak_s1 {δ : DE} (x0 : Int32) {v : Value} (h : weakO δ x0 = .inl v) : ∃ y, v = .int y := by
  unfold weakO at h
  (repeat' (split at h)) <;> first | (cases h; done) | (cases h; exact ⟨_, rfl⟩)
theorem weak_s2 {δ : DE} (x0 : Int32) {p : Nat × Nat} (h : weakO δ x0 = .inr p) : p = (1, 0) := by
  unfold weakO at h
  (repeat' (split at h)) <;> first | (cases h; done) | (cases h; simp)
theorem ly_weak {g : GE} {w : Mem} {B i c0 s0 lev nG : Nat} {s : SG} (hg : GD g) (h : LWs g w B i c0 s0 s lev nG) (x0 : Int32) : ∃ k w1 y1 v w2 y2, fL_weak g [.ref B, .int x0, .ref (B + 311)] w = some (.inl (some (.int k)), w1) ∧ MO w1 (B + 132) y1 ∧ fX11_weak g [.ref (B + 132), .int x0] w1 = some (.inl (some (.int v)), w2) ∧ MO w2 (B + 132) y2 ∧ y2 0 = k ∧ (k = 0 → gl w2 (B + 311) 0 = some v.toInt64) ∧ LWi g w2 B (i + 1) c0 s0 := by
  obtain ⟨fs, hO⟩ := h.ob
  obtain ⟨wf, hf, hk⟩ := h.wf
  obtain ⟨fed, kept, fp, tp, rf, δ, τ, im⟩ := s
  have h' := h
  obtain ⟨hI, -, -, hGI, hBY, -⟩ := h'
  refine law_i h Int32.toInt64 (fr := fun w1 => fX11_weak g [.ref (B + 132), .int x0] w1) (CZ.of (weak_c hg (by omega) hI x0)) hGI hBY (fun w1 x hR => RZo.of (weak_r hg.1 wf hR x0)) (fun w1 x p hR ho => weak_z hg.1 wf hR x0 ho) (fun v hv => weak_s1 x0 hv) (fun v w1 w1' ho e1 e2 => ?_) (fun p w1 ho e1 => ?_)
  · have e1' : fX10_weak g [.ref B, .int x0] w = some (.inl (some (.int v)), w1) := e1
    simp [fL_weak, kL_weak, ent, entp, bL_weak_0, i_aload, i_astore, i_i2l, i_iload, i_ireturn, i_jmp, i_lastore, i_push, msk, lset1, lset2, clr, Value.category, Option.toList, List.cons_append, List.nil_append, List.length_cons, List.length_nil, i_cvC, hO, e1', e2]
  · have hp := weak_s2 x0 ho
    subst hp
    have e2 : fX10_weak g [.ref B, .int x0] w = some (.inr "java/lang/IndexOutOfBoundsException", w1) := e1
    refine ⟨?_, by decide⟩
    simp [fL_weak, kL_weak, ent, entp, bL_weak_0, i_aload, i_astore, i_i2l, i_iload, i_ireturn, i_jmp, i_lastore, i_push, msk, lset1, lset2, clr, Value.category, Option.toList, List.cons_append, List.nil_append, List.length_cons, List.length_nil, i_cvC, hO, e2]
    decide
theorem holding_s1 {δ : DE} (x0 x1 : Int32) {v : Value} (h : holdingO δ x0 x1 = .inl v) : ∃ y, v = .int y := by
  unfold holdingO at h
  (repeat' (split at h)) <;> first | (cases h; done) | (cases h; exact ⟨_, rfl⟩)
theorem holding_s2 {δ : DE} (x0 x1 : Int32) {p : Nat × Nat} (h : holdingO δ x0 x1 = .inr p) : p = (1, 1) := by
  unfold holdingO at h
  (repeat' (split at h)) <;> first | (cases h; done) | (cases h; simp)
theorem ly_holding {g : GE} {w : Mem} {B i c0 s0 lev nG : Nat} {s : SG} (hg : GD g) (h : LWs g w B i c0 s0 s lev nG) (x0 x1 : Int32) : ∃ k w1 y1 v w2 y2, fL_holding g [.ref B, .int x0, .int x1, .ref (B + 311)] w = some (.inl (some (.int k)), w1) ∧ MO w1 (B + 132) y1 ∧ fX11_holding g [.ref (B + 132), .int x0, .int x1] w1 = some (.inl (some (.int v)), w2) ∧ MO w2 (B + 132) y2 ∧ y2 0 = k ∧ (k = 0 → gl w2 (B + 311) 0 = some v.toInt64) ∧ LWi g w2 B (i + 1) c0 s0 := by
  obtain ⟨fs, hO⟩ := h.ob
  obtain ⟨wf, hf, hk⟩ := h.wf
  obtain ⟨fed, kept, fp, tp, rf, δ, τ, im⟩ := s
  have h' := h
  obtain ⟨hI, -, -, hGI, hBY, -⟩ := h'
  refine law_i h Int32.toInt64 (fr := fun w1 => fX11_holding g [.ref (B + 132), .int x0, .int x1] w1) (CZ.of (holding_c hg (by omega) hI x0 x1)) hGI hBY (fun w1 x hR => RZo.of (holding_r hg.1 wf hR x0 x1)) (fun w1 x p hR ho => holding_z hg.1 wf hR x0 x1 ho) (fun v hv => holding_s1 x0 x1 hv) (fun v w1 w1' ho e1 e2 => ?_) (fun p w1 ho e1 => ?_)
  · have e1' : fX10_holding g [.ref B, .int x0, .int x1] w = some (.inl (some (.int v)), w1) := e1
    simp [fL_holding, kL_holding, ent, entp, bL_holding_0, i_aload, i_astore, i_i2l, i_iload, i_ireturn, i_jmp, i_lastore, i_push, msk, lset1, lset2, clr, Value.category, Option.toList, List.cons_append, List.nil_append, List.length_cons, List.length_nil, i_cvC, hO, e1', e2]
  · have hp := holding_s2 x0 x1 ho
    subst hp
    have e2 : fX10_holding g [.ref B, .int x0, .int x1] w = some (.inr "java/util/NoSuchElementException", w1) := e1
    refine ⟨?_, by decide⟩
    simp [fL_holding, kL_holding, ent, entp, bL_holding_0, i_aload, i_astore, i_i2l, i_iload, i_ireturn, i_jmp, i_lastore, i_push, msk, lset1, lset2, clr, Value.category, Option.toList, List.cons_append, List.nil_append, List.length_cons, List.length_nil, i_cvC, hO, e2]
    decide
theorem struck_s1 {δ : DE} (x0 : Int32) {v : Value} (h : struckO δ x0 = .inl v) : ∃ y, v = .int y := by
  unfold struckO at h
  (repeat' (split at h)) <;> first | (cases h; done) | (cases h; exact ⟨_, rfl⟩)
theorem struck_s2 {δ : DE} (x0 : Int32) {p : Nat × Nat} (h : struckO δ x0 = .inr p) : p = (1, 0) := by
  unfold struckO at h
  (repeat' (split at h)) <;> first | (cases h; done) | (cases h; simp)
theorem ly_struck {g : GE} {w : Mem} {B i c0 s0 lev nG : Nat} {s : SG} (hg : GD g) (h : LWs g w B i c0 s0 s lev nG) (x0 : Int32) : ∃ k w1 y1 v w2 y2, fL_struck g [.ref B, .int x0, .ref (B + 311)] w = some (.inl (some (.int k)), w1) ∧ MO w1 (B + 132) y1 ∧ fX11_struck g [.ref (B + 132), .int x0] w1 = some (.inl (some (.int v)), w2) ∧ MO w2 (B + 132) y2 ∧ y2 0 = k ∧ (k = 0 → gl w2 (B + 311) 0 = some v.toInt64) ∧ LWi g w2 B (i + 1) c0 s0 := by
  obtain ⟨fs, hO⟩ := h.ob
  obtain ⟨wf, hf, hk⟩ := h.wf
  obtain ⟨fed, kept, fp, tp, rf, δ, τ, im⟩ := s
  have h' := h
  obtain ⟨hI, -, -, hGI, hBY, -⟩ := h'
  refine law_i h Int32.toInt64 (fr := fun w1 => fX11_struck g [.ref (B + 132), .int x0] w1) (CZ.of (struck_c hg (by omega) hI x0)) hGI hBY (fun w1 x hR => RZo.of (struck_r hg.1 wf hR x0)) (fun w1 x p hR ho => struck_z hg.1 wf hR x0 ho) (fun v hv => struck_s1 x0 hv) (fun v w1 w1' ho e1 e2 => ?_) (fun p w1 ho e1 => ?_)
  · have e1' : fX10_struck g [.ref B, .int x0] w = some (.inl (some (.int v)), w1) := e1
    simp [fL_struck, kL_struck, ent, entp, bL_struck_0, i_aload, i_astore, i_i2l, i_iload, i_ireturn, i_jmp, i_lastore, i_push, msk, lset1, lset2, clr, Value.category, Option.toList, List.cons_append, List.nil_append, List.length_cons, List.length_nil, i_cvC, hO, e1', e2]
  · have hp := struck_s2 x0 ho
    subst hp
    have e2 : fX10_struck g [.ref B, .int x0] w = some (.inr "java/lang/IndexOutOfBoundsException", w1) := e1
    refine ⟨?_, by decide⟩
    simp [fL_struck, kL_struck, ent, entp, bL_struck_0, i_aload, i_astore, i_i2l, i_iload, i_ireturn, i_jmp, i_lastore, i_push, msk, lset1, lset2, clr, Value.category, Option.toList, List.cons_append, List.nil_append, List.length_cons, List.length_nil, i_cvC, hO, e2]
    decide
theorem apart_s1 {δ : DE} (x0 x1 : Int32) {v : Value} (h : apartO δ x0 x1 = .inl v) : ∃ y, v = .int y := by
  unfold apartO at h
  (repeat' (split at h)) <;> first | (cases h; done) | (cases h; exact ⟨_, rfl⟩)
theorem apart_s2 {δ : DE} (x0 x1 : Int32) {p : Nat × Nat} (h : apartO δ x0 x1 = .inr p) : p = (1, 0) := by
  unfold apartO at h
  (repeat' (split at h)) <;> first | (cases h; done) | (cases h; simp)
theorem ly_apart {g : GE} {w : Mem} {B i c0 s0 lev nG : Nat} {s : SG} (hg : GD g) (h : LWs g w B i c0 s0 s lev nG) (x0 x1 : Int32) : ∃ k w1 y1 v w2 y2, fL_apart g [.ref B, .int x0, .int x1, .ref (B + 311)] w = some (.inl (some (.int k)), w1) ∧ MO w1 (B + 132) y1 ∧ fX11_apart g [.ref (B + 132), .int x0, .int x1] w1 = some (.inl (some (.int v)), w2) ∧ MO w2 (B + 132) y2 ∧ y2 0 = k ∧ (k = 0 → gl w2 (B + 311) 0 = some v.toInt64) ∧ LWi g w2 B (i + 1) c0 s0 := by
  obtain ⟨fs, hO⟩ := h.ob
  obtain ⟨wf, hf, hk⟩ := h.wf
  obtain ⟨fed, kept, fp, tp, rf, δ, τ, im⟩ := s
  have h' := h
  obtain ⟨hI, -, -, hGI, hBY, -⟩ := h'
  refine law_i h Int32.toInt64 (fr := fun w1 => fX11_apart g [.ref (B + 132), .int x0, .int x1] w1) (CZ.of (apart_c hg (by omega) hI x0 x1)) hGI hBY (fun w1 x hR => RZo.of (apart_r hg.1 wf hR x0 x1)) (fun w1 x p hR ho => apart_z hg.1 wf hR x0 x1 ho) (fun v hv => apart_s1 x0 x1 hv) (fun v w1 w1' ho e1 e2 => ?_) (fun p w1 ho e1 => ?_)
  · have e1' : fX10_apart g [.ref B, .int x0, .int x1] w = some (.inl (some (.int v)), w1) := e1
    simp [fL_apart, kL_apart, ent, entp, bL_apart_0, i_aload, i_astore, i_i2l, i_iload, i_ireturn, i_jmp, i_lastore, i_push, msk, lset1, lset2, clr, Value.category, Option.toList, List.cons_append, List.nil_append, List.length_cons, List.length_nil, i_cvC, hO, e1', e2]
  · have hp := apart_s2 x0 x1 ho
    subst hp
    have e2 : fX10_apart g [.ref B, .int x0, .int x1] w = some (.inr "java/lang/IndexOutOfBoundsException", w1) := e1
    refine ⟨?_, by decide⟩
    simp [fL_apart, kL_apart, ent, entp, bL_apart_0, i_aload, i_astore, i_i2l, i_iload, i_ireturn, i_jmp, i_lastore, i_push, msk, lset1, lset2, clr, Value.category, Option.toList, List.cons_append, List.nil_append, List.length_cons, List.length_nil, i_cvC, hO, e2]
    decide
theorem middle_s1 {δ : DE} (x0 : Int32) {v : Value} (h : middleO δ x0 = .inl v) : ∃ y, v = .int y := by
  unfold middleO at h
  (repeat' (split at h)) <;> first | (cases h; done) | (cases h; exact ⟨_, rfl⟩)
theorem middle_s2 {δ : DE} (x0 : Int32) {p : Nat × Nat} (h : middleO δ x0 = .inr p) : p = (1, 2) := by
  unfold middleO at h
  (repeat' (split at h)) <;> first | (cases h; done) | (cases h; simp)
theorem ly_middle {g : GE} {w : Mem} {B i c0 s0 lev nG : Nat} {s : SG} (hg : GD g) (h : LWs g w B i c0 s0 s lev nG) (x0 : Int32) : ∃ k w1 y1 v w2 y2, fL_middle g [.ref B, .int x0, .ref (B + 311)] w = some (.inl (some (.int k)), w1) ∧ MO w1 (B + 132) y1 ∧ fX11_middle g [.ref (B + 132), .int x0] w1 = some (.inl (some (.int v)), w2) ∧ MO w2 (B + 132) y2 ∧ y2 0 = k ∧ (k = 0 → gl w2 (B + 311) 0 = some v.toInt64) ∧ LWi g w2 B (i + 1) c0 s0 := by
  obtain ⟨fs, hO⟩ := h.ob
  obtain ⟨wf, hf, hk⟩ := h.wf
  obtain ⟨fed, kept, fp, tp, rf, δ, τ, im⟩ := s
  have h' := h
  obtain ⟨hI, -, -, hGI, hBY, -⟩ := h'
  refine law_i h Int32.toInt64 (fr := fun w1 => fX11_middle g [.ref (B + 132), .int x0] w1) (CZ.of (middle_c hg (by omega) hI x0)) hGI hBY (fun w1 x hR => RZo.of (middle_r hg.1 wf hR x0)) (fun w1 x p hR ho => middle_z hg.1 wf hR x0 ho) (fun v hv => middle_s1 x0 hv) (fun v w1 w1' ho e1 e2 => ?_) (fun p w1 ho e1 => ?_)
  · have e1' : fX10_middle g [.ref B, .int x0] w = some (.inl (some (.int v)), w1) := e1
    simp [fL_middle, kL_middle, ent, entp, bL_middle_0, i_aload, i_astore, i_i2l, i_iload, i_ireturn, i_jmp, i_lastore, i_push, msk, lset1, lset2, clr, Value.category, Option.toList, List.cons_append, List.nil_append, List.length_cons, List.length_nil, i_cvC, hO, e1', e2]
  · have hp := middle_s2 x0 ho
    subst hp
    have e2 : fX10_middle g [.ref B, .int x0] w = some (.inr "java/lang/IllegalArgumentException", w1) := e1
    refine ⟨?_, by decide⟩
    simp [fL_middle, kL_middle, ent, entp, bL_middle_0, i_aload, i_astore, i_i2l, i_iload, i_ireturn, i_jmp, i_lastore, i_push, msk, lset1, lset2, clr, Value.category, Option.toList, List.cons_append, List.nil_append, List.length_cons, List.length_nil, i_cvC, hO, e2]
    decide
theorem when_s1 {δ : DE} (x0 x1 x2 x3 : Int32) {v : Value} (h : whenO δ x0 x1 x2 x3 = .inl v) : ∃ y, v = .int y := by
  unfold whenO at h
  (repeat' (split at h)) <;> first | (cases h; done) | (cases h; exact ⟨_, rfl⟩)
theorem when_s2 {δ : DE} (x0 x1 x2 x3 : Int32) {p : Nat × Nat} (h : whenO δ x0 x1 x2 x3 = .inr p) : p = (1, 0) ∨ p = (2, 2) := by
  unfold whenO at h
  (repeat' (split at h)) <;> first | (cases h; done) | (cases h; simp)
theorem ly_when {g : GE} {w : Mem} {B i c0 s0 lev nG : Nat} {s : SG} (hg : GD g) (h : LWs g w B i c0 s0 s lev nG) (x0 x1 x2 x3 : Int32) : ∃ k w1 y1 v w2 y2, fL_when g [.ref B, .int x0, .int x1, .int x2, .int x3, .ref (B + 311)] w = some (.inl (some (.int k)), w1) ∧ MO w1 (B + 132) y1 ∧ fX11_when g [.ref (B + 132), .int x0, .int x1, .int x2, .int x3] w1 = some (.inl (some (.int v)), w2) ∧ MO w2 (B + 132) y2 ∧ y2 0 = k ∧ (k = 0 → gl w2 (B + 311) 0 = some v.toInt64) ∧ LWi g w2 B (i + 1) c0 s0 := by
  obtain ⟨fs, hO⟩ := h.ob
  obtain ⟨wf, hf, hk⟩ := h.wf
  obtain ⟨fed, kept, fp, tp, rf, δ, τ, im⟩ := s
  have h' := h
  obtain ⟨hI, -, -, hGI, hBY, -⟩ := h'
  refine law_i h Int32.toInt64 (fr := fun w1 => fX11_when g [.ref (B + 132), .int x0, .int x1, .int x2, .int x3] w1) (CZ.of (when_c hg (by omega) hI x0 x1 x2 x3)) hGI hBY (fun w1 x hR => RZo.of (when_r hg.1 wf hR x0 x1 x2 x3)) (fun w1 x p hR ho => when_z hg.1 wf hR x0 x1 x2 x3 ho) (fun v hv => when_s1 x0 x1 x2 x3 hv) (fun v w1 w1' ho e1 e2 => ?_) (fun p w1 ho e1 => ?_)
  · have e1' : fX10_when g [.ref B, .int x0, .int x1, .int x2, .int x3] w = some (.inl (some (.int v)), w1) := e1
    simp [fL_when, kL_when, ent, entp, bL_when_0, i_aload, i_astore, i_i2l, i_iload, i_ireturn, i_jmp, i_lastore, i_push, msk, lset1, lset2, clr, Value.category, Option.toList, List.cons_append, List.nil_append, List.length_cons, List.length_nil, i_cvC, hO, e1', e2]
  · rcases when_s2 x0 x1 x2 x3 ho with hp | hp
    · subst hp
      have e2 : fX10_when g [.ref B, .int x0, .int x1, .int x2, .int x3] w = some (.inr "java/lang/IndexOutOfBoundsException", w1) := e1
      refine ⟨?_, by decide⟩
      simp [fL_when, kL_when, ent, entp, bL_when_0, i_aload, i_astore, i_i2l, i_iload, i_ireturn, i_jmp, i_lastore, i_push, msk, lset1, lset2, clr, Value.category, Option.toList, List.cons_append, List.nil_append, List.length_cons, List.length_nil, i_cvC, hO, e2]
      decide
    · subst hp
      have e2 : fX10_when g [.ref B, .int x0, .int x1, .int x2, .int x3] w = some (.inr "java/lang/IllegalArgumentException", w1) := e1
      refine ⟨?_, by decide⟩
      simp [fL_when, kL_when, ent, entp, bL_when_0, i_aload, i_astore, i_i2l, i_iload, i_ireturn, i_jmp, i_lastore, i_push, msk, lset1, lset2, clr, Value.category, Option.toList, List.cons_append, List.nil_append, List.length_cons, List.length_nil, i_cvC, hO, e2]
      decide
theorem steps_s1 {δ : DE} (x0 x1 x2 : Int32) {v : Value} (h : stepsO δ x0 x1 x2 = .inl v) : ∃ y, v = .int y := by
  unfold stepsO at h
  (repeat' (split at h)) <;> first | (cases h; done) | (cases h; exact ⟨_, rfl⟩)
theorem steps_s2 {δ : DE} (x0 x1 x2 : Int32) {p : Nat × Nat} (h : stepsO δ x0 x1 x2 = .inr p) : p = (1, 0) ∨ p = (2, 2) := by
  unfold stepsO at h
  (repeat' (split at h)) <;> first | (cases h; done) | (cases h; simp)
theorem ly_steps {g : GE} {w : Mem} {B i c0 s0 lev nG : Nat} {s : SG} (hg : GD g) (h : LWs g w B i c0 s0 s lev nG) (x0 x1 x2 : Int32) : ∃ k w1 y1 v w2 y2, fL_steps g [.ref B, .int x0, .int x1, .int x2, .ref (B + 311)] w = some (.inl (some (.int k)), w1) ∧ MO w1 (B + 132) y1 ∧ fX11_steps g [.ref (B + 132), .int x0, .int x1, .int x2] w1 = some (.inl (some (.int v)), w2) ∧ MO w2 (B + 132) y2 ∧ y2 0 = k ∧ (k = 0 → gl w2 (B + 311) 0 = some v.toInt64) ∧ LWi g w2 B (i + 1) c0 s0 := by
  obtain ⟨fs, hO⟩ := h.ob
  obtain ⟨wf, hf, hk⟩ := h.wf
  obtain ⟨fed, kept, fp, tp, rf, δ, τ, im⟩ := s
  have h' := h
  obtain ⟨hI, -, -, hGI, hBY, -⟩ := h'
  refine law_i h Int32.toInt64 (fr := fun w1 => fX11_steps g [.ref (B + 132), .int x0, .int x1, .int x2] w1) (CZ.of (steps_c hg (by omega) hI x0 x1 x2)) hGI hBY (fun w1 x hR => RZo.of (steps_r hg.1 wf hR x0 x1 x2)) (fun w1 x p hR ho => steps_z hg.1 wf hR x0 x1 x2 ho) (fun v hv => steps_s1 x0 x1 x2 hv) (fun v w1 w1' ho e1 e2 => ?_) (fun p w1 ho e1 => ?_)
  · have e1' : fX10_steps g [.ref B, .int x0, .int x1, .int x2] w = some (.inl (some (.int v)), w1) := e1
    simp [fL_steps, kL_steps, ent, entp, bL_steps_0, i_aload, i_astore, i_i2l, i_iload, i_ireturn, i_jmp, i_lastore, i_push, msk, lset1, lset2, clr, Value.category, Option.toList, List.cons_append, List.nil_append, List.length_cons, List.length_nil, i_cvC, hO, e1', e2]
  · rcases steps_s2 x0 x1 x2 ho with hp | hp
    · subst hp
      have e2 : fX10_steps g [.ref B, .int x0, .int x1, .int x2] w = some (.inr "java/lang/IndexOutOfBoundsException", w1) := e1
      refine ⟨?_, by decide⟩
      simp [fL_steps, kL_steps, ent, entp, bL_steps_0, i_aload, i_astore, i_i2l, i_iload, i_ireturn, i_jmp, i_lastore, i_push, msk, lset1, lset2, clr, Value.category, Option.toList, List.cons_append, List.nil_append, List.length_cons, List.length_nil, i_cvC, hO, e2]
      decide
    · subst hp
      have e2 : fX10_steps g [.ref B, .int x0, .int x1, .int x2] w = some (.inr "java/lang/IllegalArgumentException", w1) := e1
      refine ⟨?_, by decide⟩
      simp [fL_steps, kL_steps, ent, entp, bL_steps_0, i_aload, i_astore, i_i2l, i_iload, i_ireturn, i_jmp, i_lastore, i_push, msk, lset1, lset2, clr, Value.category, Option.toList, List.cons_append, List.nil_append, List.length_cons, List.length_nil, i_cvC, hO, e2]
      decide
theorem pairs_s1 {δ : DE} (x0 x1 : Int32) {v : Value} (h : pairsO δ x0 x1 = .inl v) : ∃ y, v = .int y := by
  unfold pairsO at h
  (repeat' (split at h)) <;> first | (cases h; done) | (cases h; exact ⟨_, rfl⟩)
theorem pairs_s2 {δ : DE} (x0 x1 : Int32) {p : Nat × Nat} (h : pairsO δ x0 x1 = .inr p) : p = (1, 0) ∨ p = (2, 2) := by
  unfold pairsO at h
  (repeat' (split at h)) <;> first | (cases h; done) | (cases h; simp)
theorem ly_pairs {g : GE} {w : Mem} {B i c0 s0 lev nG : Nat} {s : SG} (hg : GD g) (h : LWs g w B i c0 s0 s lev nG) (x0 x1 : Int32) : ∃ k w1 y1 v w2 y2, fL_pairs g [.ref B, .int x0, .int x1, .ref (B + 311)] w = some (.inl (some (.int k)), w1) ∧ MO w1 (B + 132) y1 ∧ fX11_pairs g [.ref (B + 132), .int x0, .int x1] w1 = some (.inl (some (.int v)), w2) ∧ MO w2 (B + 132) y2 ∧ y2 0 = k ∧ (k = 0 → gl w2 (B + 311) 0 = some v.toInt64) ∧ LWi g w2 B (i + 1) c0 s0 := by
  obtain ⟨fs, hO⟩ := h.ob
  obtain ⟨wf, hf, hk⟩ := h.wf
  obtain ⟨fed, kept, fp, tp, rf, δ, τ, im⟩ := s
  have h' := h
  obtain ⟨hI, -, -, hGI, hBY, -⟩ := h'
  refine law_i h Int32.toInt64 (fr := fun w1 => fX11_pairs g [.ref (B + 132), .int x0, .int x1] w1) (CZ.of (pairs_c hg (by omega) hI x0 x1)) hGI hBY (fun w1 x hR => RZo.of (pairs_r hg.1 wf hR x0 x1)) (fun w1 x p hR ho => pairs_z hg.1 wf hR x0 x1 ho) (fun v hv => pairs_s1 x0 x1 hv) (fun v w1 w1' ho e1 e2 => ?_) (fun p w1 ho e1 => ?_)
  · have e1' : fX10_pairs g [.ref B, .int x0, .int x1] w = some (.inl (some (.int v)), w1) := e1
    simp [fL_pairs, kL_pairs, ent, entp, bL_pairs_0, i_aload, i_astore, i_i2l, i_iload, i_ireturn, i_jmp, i_lastore, i_push, msk, lset1, lset2, clr, Value.category, Option.toList, List.cons_append, List.nil_append, List.length_cons, List.length_nil, i_cvC, hO, e1', e2]
  · rcases pairs_s2 x0 x1 ho with hp | hp
    · subst hp
      have e2 : fX10_pairs g [.ref B, .int x0, .int x1] w = some (.inr "java/lang/IndexOutOfBoundsException", w1) := e1
      refine ⟨?_, by decide⟩
      simp [fL_pairs, kL_pairs, ent, entp, bL_pairs_0, i_aload, i_astore, i_i2l, i_iload, i_ireturn, i_jmp, i_lastore, i_push, msk, lset1, lset2, clr, Value.category, Option.toList, List.cons_append, List.nil_append, List.length_cons, List.length_nil, i_cvC, hO, e2]
      decide
    · subst hp
      have e2 : fX10_pairs g [.ref B, .int x0, .int x1] w = some (.inr "java/lang/IllegalArgumentException", w1) := e1
      refine ⟨?_, by decide⟩
      simp [fL_pairs, kL_pairs, ent, entp, bL_pairs_0, i_aload, i_astore, i_i2l, i_iload, i_ireturn, i_jmp, i_lastore, i_push, msk, lset1, lset2, clr, Value.category, Option.toList, List.cons_append, List.nil_append, List.length_cons, List.length_nil, i_cvC, hO, e2]
      decide
theorem rows_s1 {δ : DE} (x0 : Int32) {v : Value} (h : rowsO δ x0 = .inl v) : ∃ y, v = .int y := by
  unfold rowsO at h
  (repeat' (split at h)) <;> first | (cases h; done) | (cases h; exact ⟨_, rfl⟩)
theorem rows_s2 {δ : DE} (x0 : Int32) {p : Nat × Nat} (h : rowsO δ x0 = .inr p) : p = (1, 2) := by
  unfold rowsO at h
  (repeat' (split at h)) <;> first | (cases h; done) | (cases h; simp)
theorem ly_rows {g : GE} {w : Mem} {B i c0 s0 lev nG : Nat} {s : SG} (hg : GD g) (h : LWs g w B i c0 s0 s lev nG) (x0 : Int32) : ∃ k w1 y1 v w2 y2, fL_rows g [.ref B, .int x0, .ref (B + 311)] w = some (.inl (some (.int k)), w1) ∧ MO w1 (B + 132) y1 ∧ fX11_rows g [.ref (B + 132), .int x0] w1 = some (.inl (some (.int v)), w2) ∧ MO w2 (B + 132) y2 ∧ y2 0 = k ∧ (k = 0 → gl w2 (B + 311) 0 = some v.toInt64) ∧ LWi g w2 B (i + 1) c0 s0 := by
  obtain ⟨fs, hO⟩ := h.ob
  obtain ⟨wf, hf, hk⟩ := h.wf
  obtain ⟨fed, kept, fp, tp, rf, δ, τ, im⟩ := s
  have h' := h
  obtain ⟨hI, -, -, hGI, hBY, -⟩ := h'
  refine law_i h Int32.toInt64 (fr := fun w1 => fX11_rows g [.ref (B + 132), .int x0] w1) (CZ.of (rows_c hg (by omega) hI x0)) hGI hBY (fun w1 x hR => RZo.of (rows_r hg.1 wf hR x0)) (fun w1 x p hR ho => rows_z hg.1 wf hR x0 ho) (fun v hv => rows_s1 x0 hv) (fun v w1 w1' ho e1 e2 => ?_) (fun p w1 ho e1 => ?_)
  · have e1' : fX10_rows g [.ref B, .int x0] w = some (.inl (some (.int v)), w1) := e1
    simp [fL_rows, kL_rows, ent, entp, bL_rows_0, i_aload, i_astore, i_i2l, i_iload, i_ireturn, i_jmp, i_lastore, i_push, msk, lset1, lset2, clr, Value.category, Option.toList, List.cons_append, List.nil_append, List.length_cons, List.length_nil, i_cvC, hO, e1', e2]
  · have hp := rows_s2 x0 ho
    subst hp
    have e2 : fX10_rows g [.ref B, .int x0] w = some (.inr "java/lang/IllegalArgumentException", w1) := e1
    refine ⟨?_, by decide⟩
    simp [fL_rows, kL_rows, ent, entp, bL_rows_0, i_aload, i_astore, i_i2l, i_iload, i_ireturn, i_jmp, i_lastore, i_push, msk, lset1, lset2, clr, Value.category, Option.toList, List.cons_append, List.nil_append, List.length_cons, List.length_nil, i_cvC, hO, e2]
    decide
theorem ly_feed {g : GE} {w : Mem} {B i c0 s0 lev nG : Nat} {s : SG} (hg : GD g) (h : LWs g w B i c0 s0 s lev nG) (x0 x1 x2 x3 x4 : Int32) : ∃ v w1 y1 w2, fX10_feed g [.ref B, .int x0, .int x1, .int x2, .int x3, .int x4] w = some (.inl (some (.int v)), w1) ∧ MO w1 (B + 132) y1 ∧ fX11_feed g [.ref (B + 132), .int x0, .int x1, .int x2, .int x3, .int x4] w1 = some (.inl (some (.int v)), w2) ∧ LWi g w2 B (i + 1) c0 s0 := by
  obtain ⟨wf, hf, hk⟩ := h.wf
  obtain ⟨fed, kept, fp, tp, rf, δ, τ, im⟩ := s
  have h' := h
  obtain ⟨hI, -, -, hGI, hBY, -⟩ := h'
  refine law_d h (fr := fun w1 => fX11_feed g [.ref (B + 132), .int x0, .int x1, .int x2, .int x3, .int x4] w1) (feed_c hg (by omega) hI x0 x1 x2 x3 x4) hGI (BYT.fd hBY x0 x1 x2 x3 x4) (fun w1 x hR => feed_r hg.1 wf hR hf x0 x1 x2 x3 x4) ?_
  unfold feedR
  split <;> exact ⟨_, rfl⟩
theorem ly_fault {g : GE} {w : Mem} {B i c0 s0 lev nG : Nat} {s : SG} (hg : GD g) (h : LWs g w B i c0 s0 s lev nG) : ∃ v w1 y1 w2, fX10_fault g [.ref B] w = some (.inl (some (.int v)), w1) ∧ MO w1 (B + 132) y1 ∧ fX11_fault g [.ref (B + 132)] w1 = some (.inl (some (.int v)), w2) ∧ LWi g w2 B (i + 1) c0 s0 := by
  obtain ⟨wf, hf, hk⟩ := h.wf
  obtain ⟨fed, kept, fp, tp, rf, δ, τ, im⟩ := s
  have h' := h
  obtain ⟨hI, -, -, hGI, hBY, -⟩ := h'
  exact law_d h (fr := fun w1 => fX11_fault g [.ref (B + 132)] w1) (CZ.of (fault_c hg (by omega) hI)) hGI hBY (fun w1 x hR => RZo.of (fault_r hg.1 wf hR)) ⟨_, rfl⟩
theorem ly_readings {g : GE} {w : Mem} {B i c0 s0 lev nG : Nat} {s : SG} (hg : GD g) (h : LWs g w B i c0 s0 s lev nG) : ∃ v w1 y1 w2, fX10_readings g [.ref B] w = some (.inl (some (.int v)), w1) ∧ MO w1 (B + 132) y1 ∧ fX11_readings g [.ref (B + 132)] w1 = some (.inl (some (.int v)), w2) ∧ LWi g w2 B (i + 1) c0 s0 := by
  obtain ⟨wf, hf, hk⟩ := h.wf
  obtain ⟨fed, kept, fp, tp, rf, δ, τ, im⟩ := s
  have h' := h
  obtain ⟨hI, -, -, hGI, hBY, -⟩ := h'
  exact law_d h (fr := fun w1 => fX11_readings g [.ref (B + 132)] w1) (CZ.of (readings_c hg (by omega) hI)) hGI hBY (fun w1 x hR => RZo.of (readings_r hg.1 wf hR)) ⟨_, rfl⟩
theorem ly_bars {g : GE} {w : Mem} {B i c0 s0 lev nG : Nat} {s : SG} (hg : GD g) (h : LWs g w B i c0 s0 s lev nG) : ∃ v w1 y1 w2, fX10_bars g [.ref B] w = some (.inl (some (.int v)), w1) ∧ MO w1 (B + 132) y1 ∧ fX11_bars g [.ref (B + 132)] w1 = some (.inl (some (.int v)), w2) ∧ LWi g w2 B (i + 1) c0 s0 := by
  obtain ⟨wf, hf, hk⟩ := h.wf
  obtain ⟨fed, kept, fp, tp, rf, δ, τ, im⟩ := s
  have h' := h
  obtain ⟨hI, -, -, hGI, hBY, -⟩ := h'
  exact law_d h (fr := fun w1 => fX11_bars g [.ref (B + 132)] w1) (CZ.of (bars_c hg (by omega) hI)) hGI hBY (fun w1 x hR => RZo.of (bars_r hg.1 wf hR)) ⟨_, rfl⟩
theorem ly_settles {g : GE} {w : Mem} {B i c0 s0 lev nG : Nat} {s : SG} (hg : GD g) (h : LWs g w B i c0 s0 s lev nG) : ∃ v w1 y1 w2, fX10_settles g [.ref B] w = some (.inl (some (.int v)), w1) ∧ MO w1 (B + 132) y1 ∧ fX11_settles g [.ref (B + 132)] w1 = some (.inl (some (.int v)), w2) ∧ LWi g w2 B (i + 1) c0 s0 := by
  obtain ⟨wf, hf, hk⟩ := h.wf
  obtain ⟨fed, kept, fp, tp, rf, δ, τ, im⟩ := s
  have h' := h
  obtain ⟨hI, -, -, hGI, hBY, -⟩ := h'
  exact law_d h (fr := fun w1 => fX11_settles g [.ref (B + 132)] w1) (CZ.of (settles_c hg (by omega) hI)) hGI hBY (fun w1 x hR => RZo.of (settles_r hg.1 wf hR)) ⟨_, rfl⟩
theorem ly_forget {g : GE} {w : Mem} {B i c0 s0 lev nG : Nat} {s : SG} (hg : GD g) (h : LWs g w B i c0 s0 s lev nG) : ∃ v w1 y1 w2, fX10_forget g [.ref B] w = some (.inl (some (.int v)), w1) ∧ MO w1 (B + 132) y1 ∧ fX11_forget g [.ref (B + 132)] w1 = some (.inl (some (.int v)), w2) ∧ LWi g w2 B (i + 1) c0 s0 := by
  obtain ⟨wf, hf, hk⟩ := h.wf
  obtain ⟨fed, kept, fp, tp, rf, δ, τ, im⟩ := s
  have h' := h
  obtain ⟨hI, -, -, hGI, hBY, -⟩ := h'
  exact law_d h (fr := fun w1 => fX11_forget g [.ref (B + 132)] w1) (forget_c hg (by omega) hI) ⟨TV.z rfl rfl, hGI.2⟩ hBY (fun w1 x hR => forget_r hg.1 wf hR) ⟨_, rfl⟩
theorem ly_likeliest {g : GE} {w : Mem} {B i c0 s0 lev nG : Nat} {s : SG} (hg : GD g) (h : LWs g w B i c0 s0 s lev nG) : ∃ v w1 y1 w2, fX10_likeliest g [.ref B] w = some (.inl (some (.int v)), w1) ∧ MO w1 (B + 132) y1 ∧ fX11_likeliest g [.ref (B + 132)] w1 = some (.inl (some (.int v)), w2) ∧ LWi g w2 B (i + 1) c0 s0 := by
  obtain ⟨wf, hf, hk⟩ := h.wf
  obtain ⟨fed, kept, fp, tp, rf, δ, τ, im⟩ := s
  have h' := h
  obtain ⟨hI, -, -, hGI, hBY, -⟩ := h'
  exact law_d h (fr := fun w1 => fX11_likeliest g [.ref (B + 132)] w1) (CZ.of (likeliest_c hGI.1 hg (by omega) hI)) hGI hBY (fun w1 x hR => RZo.of (likeliest_r hGI.1 hg.1 wf hR)) ⟨_, rfl⟩
theorem ly_bare {g : GE} {w : Mem} {B i c0 s0 lev nG : Nat} {s : SG} (hg : GD g) (h : LWs g w B i c0 s0 s lev nG) : ∃ v w1 y1 w2, fX10_bare g [.ref B] w = some (.inl (some (.int v)), w1) ∧ MO w1 (B + 132) y1 ∧ fX11_bare g [.ref (B + 132)] w1 = some (.inl (some (.int v)), w2) ∧ LWi g w2 B (i + 1) c0 s0 := by
  obtain ⟨wf, hf, hk⟩ := h.wf
  obtain ⟨fed, kept, fp, tp, rf, δ, τ, im⟩ := s
  have h' := h
  obtain ⟨hI, -, -, hGI, hBY, -⟩ := h'
  exact law_d h (fr := fun w1 => fX11_bare g [.ref (B + 132)] w1) (CZ.of (bare_c hg (by omega) hI)) hGI hBY (fun w1 x hR => RZo.of (bare_r hg.1 wf hR)) ⟨_, rfl⟩
theorem ly_image {g : GE} {w : Mem} {B i c0 s0 lev nG : Nat} {s : SG} (hg : GD g) (h : LWs g w B i c0 s0 s lev nG) : ∃ v w1 y1 w2, fX10_image g [.ref B] w = some (.inl (some (.int v)), w1) ∧ MO w1 (B + 132) y1 ∧ fX11_image g [.ref (B + 132)] w1 = some (.inl (some (.int v)), w2) ∧ LWi g w2 B (i + 1) c0 s0 := by
  obtain ⟨wf, hf, hk⟩ := h.wf
  obtain ⟨fed, kept, fp, tp, rf, δ, τ, im⟩ := s
  have h' := h
  obtain ⟨hI, -, -, hGI, hBY, -⟩ := h'
  have gi : GI (fed, (imageR kept τ im).2.1, fp, tp, rfb rf (imageR kept τ im).1, δ, τ, (imageR kept τ im).2.2) := by
    unfold imageR
    split
    · exact hGI
    · refine ⟨hGI.1, fun j hj => ?_⟩
      have hj' : j < kept + 1 := hj
      show TV δ (va_up im kept τ j)
      by_cases y : j = kept
      · rw [y, va_up_self]
        exact hGI.1
      · rw [va_ne y]
        exact hGI.2 j (by show j < kept; omega)
  refine law_d h (fr := fun w1 => fX11_image g [.ref (B + 132)] w1) (image_c hg (by omega) hI) gi hBY (fun w1 x hR => image_r hg.1 wf hR hk) ?_
  unfold imageR
  split <;> exact ⟨_, rfl⟩
theorem ly_restore {g : GE} {w : Mem} {B i c0 s0 lev nG : Nat} {s : SG} (hg : GD g) (h : LWs g w B i c0 s0 s lev nG) : ∃ v w1 y1 w2, fX10_restore g [.ref B] w = some (.inl (some (.int v)), w1) ∧ MO w1 (B + 132) y1 ∧ fX11_restore g [.ref (B + 132)] w1 = some (.inl (some (.int v)), w2) ∧ LWi g w2 B (i + 1) c0 s0 := by
  obtain ⟨wf, hf, hk⟩ := h.wf
  obtain ⟨fed, kept, fp, tp, rf, δ, τ, im⟩ := s
  have h' := h
  obtain ⟨hI, -, -, hGI, hBY, -⟩ := h'
  have gi : GI (fed, (restoreR kept τ im).2.1, fp, tp, rfb rf (restoreR kept τ im).1, δ, (restoreR kept τ im).2.2, im) := by
    unfold restoreR
    split
    · exact hGI
    · next y => exact ⟨hGI.2 (kept - 1) (by show kept - 1 < kept; omega), fun j hj => hGI.2 j (by have hj' : j < kept - 1 := hj; show j < kept; omega)⟩
  refine law_d h (fr := fun w1 => fX11_restore g [.ref (B + 132)] w1) (restore_c hg (by omega) hI) gi hBY (fun w1 x hR => restore_r hg.1 wf hR hk) ?_
  unfold restoreR
  split <;> exact ⟨_, rfl⟩
theorem ly_status {g : GE} {w : Mem} {B i c0 s0 lev nG : Nat} {s : SG} (hg : GD g) (h : LWs g w B i c0 s0 s lev nG) (x0 : Int32) : ∃ v w1 y1 w2, fX10_status g [.ref B, .int x0] w = some (.inl (some (.int v)), w1) ∧ MO w1 (B + 132) y1 ∧ fX11_status g [.ref (B + 132), .int x0] w1 = some (.inl (some (.int v)), w2) ∧ LWi g w2 B (i + 1) c0 s0 := by
  obtain ⟨wf, hf, hk⟩ := h.wf
  obtain ⟨fed, kept, fp, tp, rf, δ, τ, im⟩ := s
  have h' := h
  obtain ⟨hI, -, -, hGI, hBY, -⟩ := h'
  exact law_d h (fr := fun w1 => fX11_status g [.ref (B + 132), .int x0] w1) (CZ.of (status_c hg (by omega) hI x0)) hGI hBY (fun w1 x hR => RZo.of (status_r hg.1 wf hR x0)) ⟨_, rfl⟩
theorem ly_count {g : GE} {w : Mem} {B i c0 s0 lev nG : Nat} {s : SG} (hg : GD g) (h : LWs g w B i c0 s0 s lev nG) (x0 : Int32) : ∃ v w1 y1 w2, fX10_count g [.ref B, .int x0] w = some (.inl (some (.int v)), w1) ∧ MO w1 (B + 132) y1 ∧ fX11_count g [.ref (B + 132), .int x0] w1 = some (.inl (some (.int v)), w2) ∧ LWi g w2 B (i + 1) c0 s0 := by
  obtain ⟨wf, hf, hk⟩ := h.wf
  obtain ⟨fed, kept, fp, tp, rf, δ, τ, im⟩ := s
  have h' := h
  obtain ⟨hI, -, -, hGI, hBY, -⟩ := h'
  exact law_d h (fr := fun w1 => fX11_count g [.ref (B + 132), .int x0] w1) (CZ.of (count_c hg (by omega) hI x0)) hGI hBY (fun w1 x hR => RZo.of (count_r hg.1 wf hR x0)) ⟨_, rfl⟩
