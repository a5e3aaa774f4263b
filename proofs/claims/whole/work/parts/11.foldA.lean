/-! ===== Fold: what is asked of one map ===== -/
theorem o_hasCorner (E : zE) {w : zWd} {f g n : Nat} {ld : Nat → Nat} (h : zFo w f g n ld) (i : Int32) : zOk E mX0_hasCorner 0 [.ref f, .int i] w (zR0 w (.int (zq (0 ≤ i.toInt ∧ i.toInt ≤ n)))) := by
  obtain ⟨led, hf, hg, hl, h1, h5, hb⟩ := h
  have hn : (nI n).toInt = (n : Int) := nI_toInt (by omega)
  refine zOk.of (by decide +kernel) (Nat.le_of_ble_eq_true rfl) ?_
  refine zV.run kX0_hasCorner 1 rfl ?_
  refine zV.if2 kX0_hasCorner rfl (fun c => ?_) (fun c => ?_)
  · skip
    have c := i32_lt.mp c
    refine zV.run kX0_hasCorner 1 rfl ?_
    exact zV.zret kX0_hasCorner rfl rfl (Or.inl rfl) (⟨by rw [zq_f]; intro q; exact absurd q.1 (by simpa using c), rfl⟩)
  · skip
    have c := i32_le.mp (Int32.not_lt.mp c)
    refine zV.run kX0_hasCorner 2 rfl ?_
    refine zV.gf kX0_hasCorner rfl fX0_9 (hf) rfl ?_
    refine zV.ic2 kX0_hasCorner rfl (fun c2 => ?_) (fun c2 => ?_)
    · skip
      have c2 := i32_lt.mp c2
      rw [hn] at c2
      refine zV.run kX0_hasCorner 1 rfl ?_
      exact zV.zret kX0_hasCorner rfl rfl (Or.inl rfl) (⟨by rw [zq_f]; intro q; omega, rfl⟩)
    · skip
      have c2 := i32_le.mp (Int32.not_lt.mp c2)
      rw [hn] at c2
      refine zV.run kX0_hasCorner 2 rfl ?_
      exact zV.zret kX0_hasCorner rfl rfl (Or.inr rfl) (⟨by rw [zq_t]; exact ⟨by simpa using c, c2⟩, rfl⟩)
theorem o_hasSpan (E : zE) {w : zWd} {f g n : Nat} {ld : Nat → Nat} (h : zFo w f g n ld) (i : Int32) : zOk E mX0_hasSpan 0 [.ref f, .int i] w (zR0 w (.int (zq (0 ≤ i.toInt ∧ i.toInt < n)))) := by
  obtain ⟨led, hf, hg, hl, h1, h5, hb⟩ := h
  have hn : (nI n).toInt = (n : Int) := nI_toInt (by omega)
  refine zOk.of (by decide +kernel) (Nat.le_of_ble_eq_true rfl) ?_
  refine zV.run kX0_hasSpan 1 rfl ?_
  refine zV.if2 kX0_hasSpan rfl (fun c => ?_) (fun c => ?_)
  · skip
    have c := i32_lt.mp c
    refine zV.run kX0_hasSpan 1 rfl ?_
    exact zV.zret kX0_hasSpan rfl rfl (Or.inl rfl) (⟨by rw [zq_f]; intro q; exact absurd q.1 (by simpa using c), rfl⟩)
  · skip
    have c := i32_le.mp (Int32.not_lt.mp c)
    refine zV.run kX0_hasSpan 2 rfl ?_
    refine zV.gf kX0_hasSpan rfl fX0_9 (hf) rfl ?_
    refine zV.ic2 kX0_hasSpan rfl (fun c2 => ?_) (fun c2 => ?_)
    · skip
      have c2 := i32_le.mp c2
      rw [hn] at c2
      refine zV.run kX0_hasSpan 1 rfl ?_
      exact zV.zret kX0_hasSpan rfl rfl (Or.inl rfl) (⟨by rw [zq_f]; intro q; omega, rfl⟩)
    · skip
      have c2 := i32_lt.mp (Int32.not_le.mp c2)
      rw [hn] at c2
      refine zV.run kX0_hasSpan 2 rfl ?_
      exact zV.zret kX0_hasSpan rfl rfl (Or.inr rfl) (⟨by rw [zq_t]; exact ⟨by simpa using c, c2⟩, rfl⟩)
theorem o_slopeOf (E : zE) {w : zWd} {f g n : Nat} {ld : Nat → Nat} (h : zFo w f g n ld) {i : Nat} (hi : i < n) : zOk E mX0_slopeOf 0 [.ref f, .int (nI i)] w (zR0 w (.int (iI (sl ld i)))) := by
  obtain ⟨led, hf, hg, hl, h1, h5, hb⟩ := h
  refine zOk.of (by decide +kernel) (Nat.le_of_ble_eq_true rfl) ?_
  refine zV.run kX0_slopeOf 1 rfl ?_
  refine zV.gf kX0_slopeOf rfl fX0_15 (hf) rfl ?_
  refine zV.run kX0_slopeOf 3 rfl ?_
  refine zV.ial kX0_slopeOf rfl (hg) (i + 1) (nI_1 i) (by omega) (by decide) ?_
  refine zV.run kX0_slopeOf 1 rfl ?_
  refine zV.gf kX0_slopeOf rfl fX0_15 (hf) rfl ?_
  refine zV.run kX0_slopeOf 1 rfl ?_
  refine zV.ial kX0_slopeOf rfl (hg) (i) (rfl) (by omega) (by decide) ?_
  refine zV.run kX0_slopeOf 1 rfl ?_
  exact zV.iret kX0_slopeOf rfl rfl (⟨by rw [hl i (by omega), hl (i + 1) (by omega), nI_iI, nI_iI, iI_sub]; rfl, rfl⟩)
