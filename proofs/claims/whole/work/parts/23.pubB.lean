/-! ===== SpanMaps: points, tables ===== -/
abbrev okP (n : Nat) (a b : Int64) : Prop := 1 ≤ b.toInt ∧ b.toInt ≤ 100000 ∧ 0 ≤ a.toInt ∧ a.toInt ≤ n * b.toInt
/-- a fraction's parts in lowest terms -/
def low (a b : Nat) (what : Int32) : Nat := (if what = 0 then a else b) / Nat.gcd a b
theorem bnd5 {n : Nat} {b x : Int} (hn : n ≤ 5) (h1 : 1 ≤ b) (h2 : b ≤ 100000) (hx : x ≤ n * b) : x ≤ 500000 := by
  have := Int.mul_le_mul_of_nonneg_right (show (n : Int) ≤ 5 by omega) (show 0 ≤ b by omega)
  omega
theorem p_far (E : zE) {w : zWd} {σ : zSt} (h : zSys w σ) (m : Int32) (a b : Int64) (k what : Int32) : zOk E mX3_far 4 [.ref 0, .int m, .long a, .long b, .int k, .int what] w (zR0 w (.long (if okM m ∧ okP (σ.1 m.toInt.toNat) a b ∧ (0 ≤ k.toInt ∧ k.toInt ≤ 1000) ∧ (what = 0 ∨ what = 1) then lN (low (fol (σ.1 m.toInt.toNat) (σ.2 m.toInt.toNat) b.toInt a.toInt k.toInt.toNat).toNat b.toInt.toNat what) else -2))) := by
  obtain ⟨x0, ⟨F, x1, x1f⟩, x2, -, -, -⟩ := id h
  refine zOk.of (by decide +kernel) (Nat.le_of_ble_eq_true rfl) ?_
  refine zV.run kX3_far 1 rfl ?_
  refine zV.cs kX3_far rfl lX3_30 (o_isMap E w m) (by decide) rfl rfl (Nat.le_of_ble_eq_true rfl) ?_
  rintro _ _ ⟨rfl, rfl⟩
  refine zV.if2 kX3_far rfl (fun c => ?_) (fun c => ?_)
  · skip
    have c := zq_eq0.mp c
    rw [if_neg (fun q => c q.1)]
    refine zV.ldc2 kX3_far rfl qX3_73 ?_
    exact zV.lret kX3_far rfl rfl (⟨rfl, rfl⟩)
  · skip
    have c := Decidable.not_not.mp (mt zq_eq0.mpr c)
    obtain ⟨mm, emm⟩ : ∃ mm, mm = m.toInt.toNat := ⟨_, rfl⟩
    have em : m = nI mm := by rw [emm]; exact i32_nI c.1
    have hm : mm < 8 := by omega
    rw [← emm]
    obtain ⟨led, hf, hg, hl, h1, h5, hb⟩ := id (x2 mm hm)
    refine zV.run kX3_far 1 rfl ?_
    refine zV.gf kX3_far rfl fX3_11 (x0) rfl ?_
    refine zV.run kX3_far 1 rfl ?_
    refine zV.aalF kX3_far rfl (x1) mm (em) (hm) (by decide) (x1f mm hm) ?_
    refine zV.run kX3_far 2 rfl ?_
    refine zV.cv kX3_far rfl lX3_63 (o_hasPoint E (x2 mm hm) a b) (by decide) rfl (hf) rfl rfl rfl (Nat.le_of_ble_eq_true rfl) ?_
    rintro _ _ ⟨rfl, rfl⟩
    refine zV.if2 kX3_far rfl (fun c2 => ?_) (fun c2 => ?_)
    · skip
      have c2 := zq_eq0.mp c2
      rw [if_neg (fun q => c2 q.2.1)]
      refine zV.ldc2 kX3_far rfl qX3_73 ?_
      exact zV.lret kX3_far rfl rfl (⟨rfl, rfl⟩)
    · skip
      have c2 := Decidable.not_not.mp (mt zq_eq0.mpr c2)
      refine zV.run kX3_far 1 rfl ?_
      refine zV.cs kX3_far rfl lX3_67 (o_isStepCount E w k) (by decide) rfl rfl (Nat.le_of_ble_eq_true rfl) ?_
      rintro _ _ ⟨rfl, rfl⟩
      refine zV.if2 kX3_far rfl (fun c3 => ?_) (fun c3 => ?_)
      · skip
        have c3 := zq_eq0.mp c3
        rw [if_neg (fun q => c3 q.2.2.1)]
        refine zV.ldc2 kX3_far rfl qX3_73 ?_
        exact zV.lret kX3_far rfl rfl (⟨rfl, rfl⟩)
      · skip
        have c3 := Decidable.not_not.mp (mt zq_eq0.mpr c3)
        refine zV.run kX3_far 1 rfl ?_
        refine zV.cs kX3_far rfl lX3_70 (o_isTerm E w what) (by decide) rfl rfl (Nat.le_of_ble_eq_true rfl) ?_
        rintro _ _ ⟨rfl, rfl⟩
        refine zV.if2 kX3_far rfl (fun c4 => ?_) (fun c4 => ?_)
        · skip
          have c4 := Decidable.not_not.mp (mt zq_eq0.mpr c4)
          rw [if_pos ⟨c, c2, c3, c4⟩]
          obtain ⟨kk, ekk⟩ : ∃ kk, kk = k.toInt.toNat := ⟨_, rfl⟩
          have ek : k = nI kk := by rw [ekk]; exact i32_nI c3.1
          obtain ⟨A, eA⟩ : ∃ A, A = a.toInt := ⟨_, rfl⟩
          obtain ⟨B, eB⟩ : ∃ B, B = b.toInt := ⟨_, rfl⟩
          have ea : a = lI A := by rw [eA]; exact i64_lI a
          have eb : b = lI B := by rw [eB]; exact i64_lI b
          rw [← ekk, ← eA, ← eB]
          rw [← eA, ← eB] at c2
          have rg := fol_rg h1 hb (show 0 < B by omega) c2.2.2.1 c2.2.2.2 kk
          have r5 := bnd5 h5 c2.1 c2.2.1 rg.2
          rw [ea, eb, ek]
          refine zV.run kX3_far 1 rfl ?_
          refine zV.gf kX3_far rfl fX3_11 (x0) rfl ?_
          refine zV.run kX3_far 1 rfl ?_
          refine zV.aalF kX3_far rfl (x1) mm (em) (hm) (by decide) (x1f mm hm) ?_
          refine zV.run kX3_far 3 rfl ?_
          refine zV.cv kX3_far rfl lX3_75 (o_follow E (x2 mm hm) (by omega) c2.2.1 c2.2.2.1 c2.2.2.2 (k := kk) (by omega)) (by decide) rfl (hf) rfl rfl rfl (Nat.le_of_ble_eq_true rfl) ?_
          rintro _ _ ⟨rfl, rfl⟩
          refine zV.run kX3_far 2 rfl ?_
          rw [lI_nat rg.1, lI_nat (z := B) (by omega)]
          refine zV.cs kX3_far rfl lX3_79 (o_lowestTerm E w (by omega) (by omega) (by omega) what) (by decide) rfl rfl (Nat.le_of_ble_eq_true rfl) ?_
          rintro _ _ ⟨rfl, rfl⟩
          exact zV.lret kX3_far rfl rfl (⟨rfl, rfl⟩)
        · skip
          have c4 := zq_eq0.mp (Decidable.not_not.mp c4)
          rw [if_neg (fun q => c4 q.2.2.2)]
          refine zV.ldc2 kX3_far rfl qX3_73 ?_
          exact zV.lret kX3_far rfl rfl (⟨rfl, rfl⟩)
theorem p_word (E : zE) {w : zWd} {σ : zSt} (h : zSys w σ) (m : Int32) (a b : Int64) (k : Int32) : zOk E mX3_word 4 [.ref 0, .int m, .long a, .long b, .int k] w (zR0 w (.int (if okM m ∧ okP (σ.1 m.toInt.toNat) a b ∧ (0 ≤ k.toInt ∧ k.toInt ≤ 1000) then nI (spn (σ.1 m.toInt.toNat) (fol (σ.1 m.toInt.toNat) (σ.2 m.toInt.toNat) b.toInt a.toInt k.toInt.toNat) b.toInt) else -2))) := by
  obtain ⟨x0, ⟨F, x1, x1f⟩, x2, -, -, -⟩ := id h
  refine zOk.of (by decide +kernel) (Nat.le_of_ble_eq_true rfl) ?_
  refine zV.run kX3_word 1 rfl ?_
  refine zV.cs kX3_word rfl lX3_30 (o_isMap E w m) (by decide) rfl rfl (Nat.le_of_ble_eq_true rfl) ?_
  rintro _ _ ⟨rfl, rfl⟩
  refine zV.if2 kX3_word rfl (fun c => ?_) (fun c => ?_)
  · skip
    have c := zq_eq0.mp c
    refine zV.run kX3_word 1 rfl ?_
    exact zV.iret kX3_word rfl rfl (⟨by rw [if_neg (fun q => c q.1)], rfl⟩)
  · skip
    have c := Decidable.not_not.mp (mt zq_eq0.mpr c)
    obtain ⟨mm, emm⟩ : ∃ mm, mm = m.toInt.toNat := ⟨_, rfl⟩
    have em : m = nI mm := by rw [emm]; exact i32_nI c.1
    have hm : mm < 8 := by omega
    rw [← emm]
    obtain ⟨led, hf, hg, hl, h1, h5, hb⟩ := id (x2 mm hm)
    refine zV.run kX3_word 1 rfl ?_
    refine zV.gf kX3_word rfl fX3_11 (x0) rfl ?_
    refine zV.run kX3_word 1 rfl ?_
    refine zV.aalF kX3_word rfl (x1) mm (em) (hm) (by decide) (x1f mm hm) ?_
    refine zV.run kX3_word 2 rfl ?_
    refine zV.cv kX3_word rfl lX3_63 (o_hasPoint E (x2 mm hm) a b) (by decide) rfl (hf) rfl rfl rfl (Nat.le_of_ble_eq_true rfl) ?_
    rintro _ _ ⟨rfl, rfl⟩
    refine zV.if2 kX3_word rfl (fun c2 => ?_) (fun c2 => ?_)
    · skip
      have c2 := zq_eq0.mp c2
      refine zV.run kX3_word 1 rfl ?_
      exact zV.iret kX3_word rfl rfl (⟨by rw [if_neg (fun q => c2 q.2.1)], rfl⟩)
    · skip
      have c2 := Decidable.not_not.mp (mt zq_eq0.mpr c2)
      refine zV.run kX3_word 1 rfl ?_
      refine zV.cs kX3_word rfl lX3_67 (o_isStepCount E w k) (by decide) rfl rfl (Nat.le_of_ble_eq_true rfl) ?_
      rintro _ _ ⟨rfl, rfl⟩
      refine zV.if2 kX3_word rfl (fun c3 => ?_) (fun c3 => ?_)
      · skip
        have c3 := Decidable.not_not.mp (mt zq_eq0.mpr c3)
        rw [if_pos ⟨c, c2, c3⟩]
        obtain ⟨kk, ekk⟩ : ∃ kk, kk = k.toInt.toNat := ⟨_, rfl⟩
        have ek : k = nI kk := by rw [ekk]; exact i32_nI c3.1
        obtain ⟨A, eA⟩ : ∃ A, A = a.toInt := ⟨_, rfl⟩
        obtain ⟨B, eB⟩ : ∃ B, B = b.toInt := ⟨_, rfl⟩
        have ea : a = lI A := by rw [eA]; exact i64_lI a
        have eb : b = lI B := by rw [eB]; exact i64_lI b
        rw [← ekk, ← eA, ← eB]
        rw [← eA, ← eB] at c2
        have rg := fol_rg h1 hb (show 0 < B by omega) c2.2.2.1 c2.2.2.2 kk
        rw [ea, eb, ek]
        refine zV.run kX3_word 1 rfl ?_
        refine zV.gf kX3_word rfl fX3_11 (x0) rfl ?_
        refine zV.run kX3_word 1 rfl ?_
        refine zV.aalF kX3_word rfl (x1) mm (em) (hm) (by decide) (x1f mm hm) ?_
        refine zV.run kX3_word 1 rfl ?_
        refine zV.gf kX3_word rfl fX3_11 (x0) rfl ?_
        refine zV.run kX3_word 1 rfl ?_
        refine zV.aalF kX3_word rfl (x1) mm (em) (hm) (by decide) (x1f mm hm) ?_
        refine zV.run kX3_word 3 rfl ?_
        refine zV.cv kX3_word rfl lX3_75 (o_follow E (x2 mm hm) (by omega) c2.2.1 c2.2.2.1 c2.2.2.2 (k := kk) (by omega)) (by decide) rfl (hf) rfl rfl rfl (Nat.le_of_ble_eq_true rfl) ?_
        rintro _ _ ⟨rfl, rfl⟩
        refine zV.run kX3_word 1 rfl ?_
        refine zV.cv kX3_word rfl lX3_82 (o_spanOf E (x2 mm hm) (by omega) c2.2.1 rg.1 rg.2) (by decide) rfl (hf) rfl rfl rfl (Nat.le_of_ble_eq_true rfl) ?_
        rintro _ _ ⟨rfl, rfl⟩
        exact zV.iret kX3_word rfl rfl (⟨rfl, rfl⟩)
      · skip
        have c3 := zq_eq0.mp (Decidable.not_not.mp c3)
        refine zV.run kX3_word 1 rfl ?_
        exact zV.iret kX3_word rfl rfl (⟨by rw [if_neg (fun q => c3 q.2.2)], rfl⟩)
theorem p_order (E : zE) {w : zWd} {σ : zSt} (h : zSys w σ) (m : Int32) (a b a2 b2 : Int64) (k : Int32) : zOk E mX3_order 4 [.ref 0, .int m, .long a, .long b, .long a2, .long b2, .int k] w (zR0 w (.int (if okM m ∧ okP (σ.1 m.toInt.toNat) a b ∧ okP (σ.1 m.toInt.toNat) a2 b2 ∧ (0 ≤ k.toInt ∧ k.toInt ≤ 1000) then iI (two (σ.1 m.toInt.toNat) (σ.2 m.toInt.toNat) b.toInt b2.toInt k.toInt.toNat false a.toInt a2.toInt) else -2))) := by
  obtain ⟨x0, ⟨F, x1, x1f⟩, x2, -, -, -⟩ := id h
  refine zOk.of (by decide +kernel) (Nat.le_of_ble_eq_true rfl) ?_
  refine zV.run kX3_order 1 rfl ?_
  refine zV.cs kX3_order rfl lX3_30 (o_isMap E w m) (by decide) rfl rfl (Nat.le_of_ble_eq_true rfl) ?_
  rintro _ _ ⟨rfl, rfl⟩
  refine zV.if2 kX3_order rfl (fun c => ?_) (fun c => ?_)
  · skip
    have c := zq_eq0.mp c
    refine zV.run kX3_order 1 rfl ?_
    exact zV.iret kX3_order rfl rfl (⟨by rw [if_neg (fun q => c q.1)], rfl⟩)
  · skip
    have c := Decidable.not_not.mp (mt zq_eq0.mpr c)
    obtain ⟨mm, emm⟩ : ∃ mm, mm = m.toInt.toNat := ⟨_, rfl⟩
    have em : m = nI mm := by rw [emm]; exact i32_nI c.1
    have hm : mm < 8 := by omega
    rw [← emm]
    obtain ⟨led, hf, hg, hl, h1, h5, hb⟩ := id (x2 mm hm)
    refine zV.run kX3_order 1 rfl ?_
    refine zV.gf kX3_order rfl fX3_11 (x0) rfl ?_
    refine zV.run kX3_order 1 rfl ?_
    refine zV.aalF kX3_order rfl (x1) mm (em) (hm) (by decide) (x1f mm hm) ?_
    refine zV.run kX3_order 2 rfl ?_
    refine zV.cv kX3_order rfl lX3_63 (o_hasPoint E (x2 mm hm) a b) (by decide) rfl (hf) rfl rfl rfl (Nat.le_of_ble_eq_true rfl) ?_
    rintro _ _ ⟨rfl, rfl⟩
    refine zV.if2 kX3_order rfl (fun c2 => ?_) (fun c2 => ?_)
    · skip
      have c2 := zq_eq0.mp c2
      refine zV.run kX3_order 1 rfl ?_
      exact zV.iret kX3_order rfl rfl (⟨by rw [if_neg (fun q => c2 q.2.1)], rfl⟩)
    · skip
      have c2 := Decidable.not_not.mp (mt zq_eq0.mpr c2)
      refine zV.run kX3_order 1 rfl ?_
      refine zV.gf kX3_order rfl fX3_11 (x0) rfl ?_
      refine zV.run kX3_order 1 rfl ?_
      refine zV.aalF kX3_order rfl (x1) mm (em) (hm) (by decide) (x1f mm hm) ?_
      refine zV.run kX3_order 2 rfl ?_
      refine zV.cv kX3_order rfl lX3_63 (o_hasPoint E (x2 mm hm) a2 b2) (by decide) rfl (hf) rfl rfl rfl (Nat.le_of_ble_eq_true rfl) ?_
      rintro _ _ ⟨rfl, rfl⟩
      refine zV.if2 kX3_order rfl (fun c3 => ?_) (fun c3 => ?_)
      · skip
        have c3 := zq_eq0.mp c3
        refine zV.run kX3_order 1 rfl ?_
        exact zV.iret kX3_order rfl rfl (⟨by rw [if_neg (fun q => c3 q.2.2.1)], rfl⟩)
      · skip
        have c3 := Decidable.not_not.mp (mt zq_eq0.mpr c3)
        refine zV.run kX3_order 1 rfl ?_
        refine zV.cs kX3_order rfl lX3_67 (o_isStepCount E w k) (by decide) rfl rfl (Nat.le_of_ble_eq_true rfl) ?_
        rintro _ _ ⟨rfl, rfl⟩
        refine zV.if2 kX3_order rfl (fun c4 => ?_) (fun c4 => ?_)
        · skip
          have c4 := Decidable.not_not.mp (mt zq_eq0.mpr c4)
          rw [if_pos ⟨c, c2, c3, c4⟩]
          obtain ⟨kk, ekk⟩ : ∃ kk, kk = k.toInt.toNat := ⟨_, rfl⟩
          have ek : k = nI kk := by rw [ekk]; exact i32_nI c4.1
          obtain ⟨A, eA⟩ : ∃ A, A = a.toInt := ⟨_, rfl⟩
          obtain ⟨B, eB⟩ : ∃ B, B = b.toInt := ⟨_, rfl⟩
          obtain ⟨A2, eA2⟩ : ∃ A, A = a2.toInt := ⟨_, rfl⟩
          obtain ⟨B2, eB2⟩ : ∃ B, B = b2.toInt := ⟨_, rfl⟩
          have ea : a = lI A := by rw [eA]; exact i64_lI a
          have eb : b = lI B := by rw [eB]; exact i64_lI b
          have ea2 : a2 = lI A2 := by rw [eA2]; exact i64_lI a2
          have eb2 : b2 = lI B2 := by rw [eB2]; exact i64_lI b2
          rw [← ekk, ← eA, ← eB, ← eA2, ← eB2]
          rw [← eA, ← eB] at c2
          rw [← eA2, ← eB2] at c3
          rw [ea, eb, ea2, eb2, ek]
          refine zV.run kX3_order 1 rfl ?_
          refine zV.gf kX3_order rfl fX3_11 (x0) rfl ?_
          refine zV.run kX3_order 1 rfl ?_
          refine zV.aalF kX3_order rfl (x1) mm (em) (hm) (by decide) (x1f mm hm) ?_
          refine zV.run kX3_order 5 rfl ?_
          refine zV.cv kX3_order rfl lX3_86 (o_twisted E (x2 mm hm) (by omega) c2.2.1 (by omega) c3.2.1 (k := kk) (by omega) c2.2.2.1 c2.2.2.2 c3.2.2.1 c3.2.2.2) (by decide) rfl (hf) rfl rfl rfl (Nat.le_of_ble_eq_true rfl) ?_
          rintro _ _ ⟨rfl, rfl⟩
          exact zV.iret kX3_order rfl rfl (⟨rfl, rfl⟩)
        · skip
          have c4 := zq_eq0.mp (Decidable.not_not.mp c4)
          refine zV.run kX3_order 1 rfl ?_
          exact zV.iret kX3_order rfl rfl (⟨by rw [if_neg (fun q => c4 q.2.2.2)], rfl⟩)
theorem p_join (E : zE) {w : zWd} {σ : zSt} (h : zSys w σ) (m t : Int32) (a b : Int64) (what : Int32) : zOk E mX3_join 4 [.ref 0, .int m, .int t, .long a, .long b, .int what] w (zR0 w (.long (if okM m ∧ okM t ∧ okP (σ.1 m.toInt.toNat) a b ∧ (what = 0 ∨ what = 1) then (if σ.1 m.toInt.toNat = σ.1 t.toInt.toNat then lN (low (stp (σ.1 t.toInt.toNat) (σ.2 t.toInt.toNat) b.toInt (stp (σ.1 m.toInt.toNat) (σ.2 m.toInt.toNat) b.toInt a.toInt)).toNat b.toInt.toNat what) else -3) else -2))) := by
  obtain ⟨x0, ⟨F, x1, x1f⟩, x2, -, -, -⟩ := id h
  refine zOk.of (by decide +kernel) (Nat.le_of_ble_eq_true rfl) ?_
  refine zV.run kX3_join 1 rfl ?_
  refine zV.cs kX3_join rfl lX3_30 (o_isMap E w m) (by decide) rfl rfl (Nat.le_of_ble_eq_true rfl) ?_
  rintro _ _ ⟨rfl, rfl⟩
  refine zV.if2 kX3_join rfl (fun c => ?_) (fun c => ?_)
  · skip
    have c := zq_eq0.mp c
    rw [if_neg (fun q => c q.1)]
    refine zV.ldc2 kX3_join rfl qX3_73 ?_
    exact zV.lret kX3_join rfl rfl (⟨rfl, rfl⟩)
  · skip
    have c := Decidable.not_not.mp (mt zq_eq0.mpr c)
    refine zV.run kX3_join 1 rfl ?_
    refine zV.cs kX3_join rfl lX3_30 (o_isMap E w t) (by decide) rfl rfl (Nat.le_of_ble_eq_true rfl) ?_
    rintro _ _ ⟨rfl, rfl⟩
    refine zV.if2 kX3_join rfl (fun c0 => ?_) (fun c0 => ?_)
    · skip
      have c0 := zq_eq0.mp c0
      rw [if_neg (fun q => c0 q.2.1)]
      refine zV.ldc2 kX3_join rfl qX3_73 ?_
      exact zV.lret kX3_join rfl rfl (⟨rfl, rfl⟩)
    · skip
      have c0 := Decidable.not_not.mp (mt zq_eq0.mpr c0)
      obtain ⟨mm, emm⟩ : ∃ mm, mm = m.toInt.toNat := ⟨_, rfl⟩
      have em : m = nI mm := by rw [emm]; exact i32_nI c.1
      have hm : mm < 8 := by omega
      obtain ⟨mmt, emmt⟩ : ∃ mm, mm = t.toInt.toNat := ⟨_, rfl⟩
      have emt : t = nI mmt := by rw [emmt]; exact i32_nI c0.1
      have hmt : mmt < 8 := by omega
      rw [← emm, ← emmt]
      obtain ⟨led, hf, hg, hl, h1, h5, hb⟩ := id (x2 mm hm)
      obtain ⟨ledt, hft, hgt, hlt, h1t, h5t, hbt⟩ := id (x2 mmt hmt)
      refine zV.run kX3_join 1 rfl ?_
      refine zV.gf kX3_join rfl fX3_11 (x0) rfl ?_
      refine zV.run kX3_join 1 rfl ?_
      refine zV.aalF kX3_join rfl (x1) mm (em) (hm) (by decide) (x1f mm hm) ?_
      refine zV.run kX3_join 2 rfl ?_
      refine zV.cv kX3_join rfl lX3_63 (o_hasPoint E (x2 mm hm) a b) (by decide) rfl (hf) rfl rfl rfl (Nat.le_of_ble_eq_true rfl) ?_
      rintro _ _ ⟨rfl, rfl⟩
      refine zV.if2 kX3_join rfl (fun c2 => ?_) (fun c2 => ?_)
      · skip
        have c2 := zq_eq0.mp c2
        rw [if_neg (fun q => c2 q.2.2.1)]
        refine zV.ldc2 kX3_join rfl qX3_73 ?_
        exact zV.lret kX3_join rfl rfl (⟨rfl, rfl⟩)
      · skip
        have c2 := Decidable.not_not.mp (mt zq_eq0.mpr c2)
        refine zV.run kX3_join 1 rfl ?_
        refine zV.cs kX3_join rfl lX3_70 (o_isTerm E w what) (by decide) rfl rfl (Nat.le_of_ble_eq_true rfl) ?_
        rintro _ _ ⟨rfl, rfl⟩
        refine zV.if2 kX3_join rfl (fun c3 => ?_) (fun c3 => ?_)
        · skip
          have c3 := Decidable.not_not.mp (mt zq_eq0.mpr c3)
          rw [if_pos ⟨c, c0, c2, c3⟩]
          refine zV.run kX3_join 1 rfl ?_
          refine zV.gf kX3_join rfl fX3_11 (x0) rfl ?_
          refine zV.run kX3_join 1 rfl ?_
          refine zV.aalF kX3_join rfl (x1) mm (em) (hm) (by decide) (x1f mm hm) ?_
          refine zV.gf kX3_join rfl fX3_49 (hf) rfl ?_
          refine zV.run kX3_join 1 rfl ?_
          refine zV.gf kX3_join rfl fX3_11 (x0) rfl ?_
          refine zV.run kX3_join 1 rfl ?_
          refine zV.aalF kX3_join rfl (x1) mmt (emt) (hmt) (by decide) (x1f mmt hmt) ?_
          refine zV.gf kX3_join rfl fX3_49 (hft) rfl ?_
          refine zV.ic2 kX3_join rfl (fun c4 => ?_) (fun c4 => ?_)
          · skip
            have c4 := (nI_eq (by omega) (by omega)).mp c4
            rw [if_pos c4]
            obtain ⟨A, eA⟩ : ∃ A, A = a.toInt := ⟨_, rfl⟩
            obtain ⟨B, eB⟩ : ∃ B, B = b.toInt := ⟨_, rfl⟩
            have ea : a = lI A := by rw [eA]; exact i64_lI a
            have eb : b = lI B := by rw [eB]; exact i64_lI b
            rw [← eA, ← eB]
            rw [← eA, ← eB] at c2
            have rg := stp_rg h1 hb (show 0 < B by omega) c2.2.2.1 c2.2.2.2
            have rg1 : stp (σ.1 mm) (σ.2 mm) B A ≤ (σ.1 mmt : Int) * B := by rw [← c4]; exact rg.2
            have rg2 := stp_rg h1t hbt (show 0 < B by omega) rg.1 rg1
            have r5 := bnd5 h5t c2.1 c2.2.1 rg2.2
            rw [ea, eb]
            refine zV.run kX3_join 1 rfl ?_
            refine zV.gf kX3_join rfl fX3_11 (x0) rfl ?_
            refine zV.run kX3_join 1 rfl ?_
            refine zV.aalF kX3_join rfl (x1) mmt (emt) (hmt) (by decide) (x1f mmt hmt) ?_
            refine zV.run kX3_join 1 rfl ?_
            refine zV.gf kX3_join rfl fX3_11 (x0) rfl ?_
            refine zV.run kX3_join 1 rfl ?_
            refine zV.aalF kX3_join rfl (x1) mm (em) (hm) (by decide) (x1f mm hm) ?_
            refine zV.run kX3_join 2 rfl ?_
            refine zV.cv kX3_join rfl lX3_92 (o_step E (x2 mm hm) (by omega) c2.2.1 c2.2.2.1 c2.2.2.2) (by decide) rfl (hf) rfl rfl rfl (Nat.le_of_ble_eq_true rfl) ?_
            rintro _ _ ⟨rfl, rfl⟩
            refine zV.run kX3_join 1 rfl ?_
            refine zV.cv kX3_join rfl lX3_92 (o_step E (x2 mmt hmt) (by omega) c2.2.1 rg.1 rg1) (by decide) rfl (hft) rfl rfl rfl (Nat.le_of_ble_eq_true rfl) ?_
            rintro _ _ ⟨rfl, rfl⟩
            refine zV.run kX3_join 2 rfl ?_
            rw [lI_nat rg2.1, lI_nat (z := B) (by omega)]
            refine zV.cs kX3_join rfl lX3_79 (o_lowestTerm E w (by omega) (by omega) (by omega) what) (by decide) rfl rfl (Nat.le_of_ble_eq_true rfl) ?_
            rintro _ _ ⟨rfl, rfl⟩
            exact zV.lret kX3_join rfl rfl (⟨rfl, rfl⟩)
          · skip
            have c4 := mt (nI_eq (a := σ.1 mm) (b := σ.1 mmt) (by omega) (by omega)).mpr c4
            rw [if_neg c4]
            refine zV.ldc2 kX3_join rfl qX3_90 ?_
            exact zV.lret kX3_join rfl rfl (⟨rfl, rfl⟩)
        · skip
          have c3 := zq_eq0.mp (Decidable.not_not.mp c3)
          rw [if_neg (fun q => c3 q.2.2.2)]
          refine zV.ldc2 kX3_join rfl qX3_73 ?_
          exact zV.lret kX3_join rfl rfl (⟨rfl, rfl⟩)
theorem p_table (E : zE) {w : zWd} {σ : zSt} (h : zSys w σ) (m i j : Int32) : zOk E mX3_table 2 [.ref 0, .int m, .int i, .int j] w (zR0 w (.int (if okM m ∧ (0 ≤ i.toInt ∧ i.toInt < σ.1 m.toInt.toNat) ∧ (0 ≤ j.toInt ∧ j.toInt < σ.1 m.toInt.toNat) then zq (cov (σ.2 m.toInt.toNat) i.toInt.toNat j.toInt.toNat = true) else -2))) := by
  obtain ⟨x0, ⟨F, x1, x1f⟩, x2, -, -, -⟩ := id h
  refine zOk.of (by decide +kernel) (Nat.le_of_ble_eq_true rfl) ?_
  refine zV.run kX3_table 1 rfl ?_
  refine zV.cs kX3_table rfl lX3_30 (o_isMap E w m) (by decide) rfl rfl (Nat.le_of_ble_eq_true rfl) ?_
  rintro _ _ ⟨rfl, rfl⟩
  refine zV.if2 kX3_table rfl (fun c => ?_) (fun c => ?_)
  · skip
    have c := zq_eq0.mp c
    refine zV.run kX3_table 1 rfl ?_
    exact zV.iret kX3_table rfl rfl (⟨by rw [if_neg (fun q => c q.1)], rfl⟩)
  · skip
    have c := Decidable.not_not.mp (mt zq_eq0.mpr c)
    obtain ⟨mm, emm⟩ : ∃ mm, mm = m.toInt.toNat := ⟨_, rfl⟩
    have em : m = nI mm := by rw [emm]; exact i32_nI c.1
    have hm : mm < 8 := by omega
    rw [← emm]
    obtain ⟨led, hf, hg, hl, h1, h5, hb⟩ := id (x2 mm hm)
    refine zV.run kX3_table 1 rfl ?_
    refine zV.gf kX3_table rfl fX3_11 (x0) rfl ?_
    refine zV.run kX3_table 1 rfl ?_
    refine zV.aalF kX3_table rfl (x1) mm (em) (hm) (by decide) (x1f mm hm) ?_
    refine zV.run kX3_table 1 rfl ?_
    refine zV.cv kX3_table rfl lX3_56 (o_hasSpan E (x2 mm hm) i) (by decide) rfl (hf) rfl rfl rfl (Nat.le_of_ble_eq_true rfl) ?_
    rintro _ _ ⟨rfl, rfl⟩
    refine zV.if2 kX3_table rfl (fun c2 => ?_) (fun c2 => ?_)
    · skip
      have c2 := zq_eq0.mp c2
      refine zV.run kX3_table 1 rfl ?_
      exact zV.iret kX3_table rfl rfl (⟨by rw [if_neg (fun q => c2 q.2.1)], rfl⟩)
    · skip
      have c2 := Decidable.not_not.mp (mt zq_eq0.mpr c2)
      refine zV.run kX3_table 1 rfl ?_
      refine zV.gf kX3_table rfl fX3_11 (x0) rfl ?_
      refine zV.run kX3_table 1 rfl ?_
      refine zV.aalF kX3_table rfl (x1) mm (em) (hm) (by decide) (x1f mm hm) ?_
      refine zV.run kX3_table 1 rfl ?_
      refine zV.cv kX3_table rfl lX3_56 (o_hasSpan E (x2 mm hm) j) (by decide) rfl (hf) rfl rfl rfl (Nat.le_of_ble_eq_true rfl) ?_
      rintro _ _ ⟨rfl, rfl⟩
      refine zV.if2 kX3_table rfl (fun c3 => ?_) (fun c3 => ?_)
      · skip
        have c3 := Decidable.not_not.mp (mt zq_eq0.mpr c3)
        rw [if_pos ⟨c, c2, c3⟩]
        obtain ⟨ii, eii⟩ : ∃ ii, ii = i.toInt.toNat := ⟨_, rfl⟩
        have ei : i = nI ii := by rw [eii]; exact i32_nI c2.1
        obtain ⟨jj, ejj⟩ : ∃ ii, ii = j.toInt.toNat := ⟨_, rfl⟩
        have ej : j = nI jj := by rw [ejj]; exact i32_nI c3.1
        rw [← eii, ← ejj, ei, ej]
        refine zV.run kX3_table 1 rfl ?_
        refine zV.gf kX3_table rfl fX3_11 (x0) rfl ?_
        refine zV.run kX3_table 1 rfl ?_
        refine zV.aalF kX3_table rfl (x1) mm (em) (hm) (by decide) (x1f mm hm) ?_
        refine zV.run kX3_table 2 rfl ?_
        refine zV.cv kX3_table rfl lX3_96 (o_leadsOver E (x2 mm hm) (i := ii) (j := jj) (by omega) (by omega)) (by decide) rfl (hf) rfl rfl rfl (Nat.le_of_ble_eq_true rfl) ?_
        rintro _ _ ⟨rfl, rfl⟩
        refine zV.if2 kX3_table rfl (fun c4 => ?_) (fun c4 => ?_)
        · skip
          have c4 := zq_eq0.mp c4
          refine zV.run kX3_table 1 rfl ?_
          exact zV.iret kX3_table rfl rfl (⟨by rw [zq_f c4], rfl⟩)
        · skip
          have c4 := Decidable.not_not.mp (mt zq_eq0.mpr c4)
          refine zV.run kX3_table 2 rfl ?_
          exact zV.iret kX3_table rfl rfl (⟨by rw [zq_t c4], rfl⟩)
      · skip
        have c3 := zq_eq0.mp (Decidable.not_not.mp c3)
        refine zV.run kX3_table 1 rfl ?_
        exact zV.iret kX3_table rfl rfl (⟨by rw [if_neg (fun q => c3 q.2.2)], rfl⟩)
theorem p_ways (E : zE) {w : zWd} {σ : zSt} (h : zSys w σ) (m i j k : Int32) : zOk E mX3_ways 4 [.ref 0, .int m, .int i, .int j, .int k] w (zPo w (.long (if okM m ∧ (0 ≤ i.toInt ∧ i.toInt < σ.1 m.toInt.toNat) ∧ (0 ≤ j.toInt ∧ j.toInt < σ.1 m.toInt.toNat) ∧ (0 ≤ k.toInt ∧ k.toInt ≤ 10) then lN (tp (σ.1 m.toInt.toNat) (σ.2 m.toInt.toNat) k.toInt.toNat i.toInt.toNat j.toInt.toNat) else -2)) σ) := by
  obtain ⟨x0, ⟨F, x1, x1f⟩, x2, ⟨s3, rw3, x3⟩, -, -⟩ := id h
  refine zOk.of (by decide +kernel) (Nat.le_of_ble_eq_true rfl) ?_
  refine zV.run kX3_ways 1 rfl ?_
  refine zV.cs kX3_ways rfl lX3_30 (o_isMap E w m) (by decide) rfl rfl (Nat.le_of_ble_eq_true rfl) ?_
  rintro _ _ ⟨rfl, rfl⟩
  refine zV.if2 kX3_ways rfl (fun c => ?_) (fun c => ?_)
  · skip
    have c := zq_eq0.mp c
    rw [if_neg (fun q => c q.1)]
    refine zV.ldc2 kX3_ways rfl qX3_73 ?_
    exact zV.lret kX3_ways rfl rfl (⟨rfl, h, fun _ _ => rfl⟩)
  · skip
    have c := Decidable.not_not.mp (mt zq_eq0.mpr c)
    obtain ⟨mm, emm⟩ : ∃ mm, mm = m.toInt.toNat := ⟨_, rfl⟩
    have em : m = nI mm := by rw [emm]; exact i32_nI c.1
    have hm : mm < 8 := by omega
    rw [← emm]
    obtain ⟨led, hf, hg, hl, h1, h5, hb⟩ := id (x2 mm hm)
    refine zV.run kX3_ways 1 rfl ?_
    refine zV.gf kX3_ways rfl fX3_11 (x0) rfl ?_
    refine zV.run kX3_ways 1 rfl ?_
    refine zV.aalF kX3_ways rfl (x1) mm (em) (hm) (by decide) (x1f mm hm) ?_
    refine zV.run kX3_ways 1 rfl ?_
    refine zV.cv kX3_ways rfl lX3_56 (o_hasSpan E (x2 mm hm) i) (by decide) rfl (hf) rfl rfl rfl (Nat.le_of_ble_eq_true rfl) ?_
    rintro _ _ ⟨rfl, rfl⟩
    refine zV.if2 kX3_ways rfl (fun c2 => ?_) (fun c2 => ?_)
    · skip
      have c2 := zq_eq0.mp c2
      rw [if_neg (fun q => c2 q.2.1)]
      refine zV.ldc2 kX3_ways rfl qX3_73 ?_
      exact zV.lret kX3_ways rfl rfl (⟨rfl, h, fun _ _ => rfl⟩)
    · skip
      have c2 := Decidable.not_not.mp (mt zq_eq0.mpr c2)
      refine zV.run kX3_ways 1 rfl ?_
      refine zV.gf kX3_ways rfl fX3_11 (x0) rfl ?_
      refine zV.run kX3_ways 1 rfl ?_
      refine zV.aalF kX3_ways rfl (x1) mm (em) (hm) (by decide) (x1f mm hm) ?_
      refine zV.run kX3_ways 1 rfl ?_
      refine zV.cv kX3_ways rfl lX3_56 (o_hasSpan E (x2 mm hm) j) (by decide) rfl (hf) rfl rfl rfl (Nat.le_of_ble_eq_true rfl) ?_
      rintro _ _ ⟨rfl, rfl⟩
      refine zV.if2 kX3_ways rfl (fun c3 => ?_) (fun c3 => ?_)
      · skip
        have c3 := zq_eq0.mp c3
        rw [if_neg (fun q => c3 q.2.2.1)]
        refine zV.ldc2 kX3_ways rfl qX3_73 ?_
        exact zV.lret kX3_ways rfl rfl (⟨rfl, h, fun _ _ => rfl⟩)
      · skip
        have c3 := Decidable.not_not.mp (mt zq_eq0.mpr c3)
        refine zV.run kX3_ways 1 rfl ?_
        refine zV.cs kX3_ways rfl lX3_100 (o_isWayLength E w k) (by decide) rfl rfl (Nat.le_of_ble_eq_true rfl) ?_
        rintro _ _ ⟨rfl, rfl⟩
        refine zV.if2 kX3_ways rfl (fun c4 => ?_) (fun c4 => ?_)
        · skip
          have c4 := Decidable.not_not.mp (mt zq_eq0.mpr c4)
          rw [if_pos ⟨c, c2, c3, c4⟩]
          obtain ⟨ii, eii⟩ : ∃ ii, ii = i.toInt.toNat := ⟨_, rfl⟩
          have ei : i = nI ii := by rw [eii]; exact i32_nI c2.1
          obtain ⟨jj, ejj⟩ : ∃ ii, ii = j.toInt.toNat := ⟨_, rfl⟩
          have ej : j = nI jj := by rw [ejj]; exact i32_nI c3.1
          obtain ⟨kk, ekk⟩ : ∃ ii, ii = k.toInt.toNat := ⟨_, rfl⟩
          have ek : k = nI kk := by rw [ekk]; exact i32_nI c4.1
          rw [← eii, ← ejj, ← ekk, ei, ej, ek]
          refine zV.run kX3_ways 1 rfl ?_
          refine zV.gf kX3_ways rfl fX3_19 (x0) rfl ?_
          refine zV.run kX3_ways 1 rfl ?_
          refine zV.gf kX3_ways rfl fX3_11 (x0) rfl ?_
          refine zV.run kX3_ways 1 rfl ?_
          refine zV.aalF kX3_ways rfl (x1) mm (em) (hm) (by decide) (x1f mm hm) ?_
          refine zV.run kX3_ways 1 rfl ?_
          refine zV.cv kX3_ways rfl lX3_103 (o_raise E (x2 mm hm) x3 (mo := kk) (by omega) (by omega) (by omega)) (by decide) rfl (x3.1) rfl rfl rfl (Nat.le_of_ble_eq_true rfl) ?_
          rintro _ w9 ⟨rfl, hw9, rw9, hP9, hr9⟩
          refine zV.run kX3_ways 1 rfl ?_
          refine zV.gf kX3_ways rfl fX3_19 (x0.k (hw9 0 (by omega))) rfl ?_
          refine zV.run kX3_ways 3 rfl ?_
          refine zV.cv kX3_ways rfl lX3_107 (o_between E hP9 (i := ii) (j := jj) (k := kk) (by omega) (by omega) (by omega)) (by decide) rfl (hP9.1) rfl rfl rfl (Nat.le_of_ble_eq_true rfl) ?_
          rintro _ _ ⟨rfl, rfl⟩
          exact zV.lret kX3_ways rfl rfl (⟨by rw [hr9 kk ii jj (by omega) (by omega) (by omega)], h.pow hP9 hw9, fun a ha => hw9 a (by omega)⟩)
        · skip
          have c4 := zq_eq0.mp (Decidable.not_not.mp c4)
          rw [if_neg (fun q => c4 q.2.2.2)]
          refine zV.ldc2 kX3_ways rfl qX3_73 ?_
          exact zV.lret kX3_ways rfl rfl (⟨rfl, h, fun _ _ => rfl⟩)
theorem p_pieces (E : zE) {w : zWd} {σ : zSt} (h : zSys w σ) (m k : Int32) : zOk E mX3_pieces 4 [.ref 0, .int m, .int k] w (zPo w (.long (if okM m ∧ (0 ≤ k.toInt ∧ k.toInt ≤ 10) then lN (sumN (σ.1 m.toInt.toNat) (fun i => sumN (σ.1 m.toInt.toNat) (tp (σ.1 m.toInt.toNat) (σ.2 m.toInt.toNat) k.toInt.toNat i))) else -2)) σ) := by
  obtain ⟨x0, ⟨F, x1, x1f⟩, x2, ⟨s3, rw3, x3⟩, -, -⟩ := id h
  refine zOk.of (by decide +kernel) (Nat.le_of_ble_eq_true rfl) ?_
  refine zV.run kX3_pieces 1 rfl ?_
  refine zV.cs kX3_pieces rfl lX3_30 (o_isMap E w m) (by decide) rfl rfl (Nat.le_of_ble_eq_true rfl) ?_
  rintro _ _ ⟨rfl, rfl⟩
  refine zV.if2 kX3_pieces rfl (fun c => ?_) (fun c => ?_)
  · skip
    have c := zq_eq0.mp c
    rw [if_neg (fun q => c q.1)]
    refine zV.ldc2 kX3_pieces rfl qX3_73 ?_
    exact zV.lret kX3_pieces rfl rfl (⟨rfl, h, fun _ _ => rfl⟩)
  · skip
    have c := Decidable.not_not.mp (mt zq_eq0.mpr c)
    obtain ⟨mm, emm⟩ : ∃ mm, mm = m.toInt.toNat := ⟨_, rfl⟩
    have em : m = nI mm := by rw [emm]; exact i32_nI c.1
    have hm : mm < 8 := by omega
    rw [← emm]
    obtain ⟨led, hf, hg, hl, h1, h5, hb⟩ := id (x2 mm hm)
    refine zV.run kX3_pieces 1 rfl ?_
    refine zV.cs kX3_pieces rfl lX3_100 (o_isWayLength E w k) (by decide) rfl rfl (Nat.le_of_ble_eq_true rfl) ?_
    rintro _ _ ⟨rfl, rfl⟩
    refine zV.if2 kX3_pieces rfl (fun c4 => ?_) (fun c4 => ?_)
    · skip
      have c4 := Decidable.not_not.mp (mt zq_eq0.mpr c4)
      rw [if_pos ⟨c, c4⟩]
      obtain ⟨kk, ekk⟩ : ∃ ii, ii = k.toInt.toNat := ⟨_, rfl⟩
      have ek : k = nI kk := by rw [ekk]; exact i32_nI c4.1
      rw [← ekk, ek]
      refine zV.run kX3_pieces 1 rfl ?_
      refine zV.gf kX3_pieces rfl fX3_19 (x0) rfl ?_
      refine zV.run kX3_pieces 1 rfl ?_
      refine zV.gf kX3_pieces rfl fX3_11 (x0) rfl ?_
      refine zV.run kX3_pieces 1 rfl ?_
      refine zV.aalF kX3_pieces rfl (x1) mm (em) (hm) (by decide) (x1f mm hm) ?_
      refine zV.run kX3_pieces 1 rfl ?_
      refine zV.cv kX3_pieces rfl lX3_103 (o_raise E (x2 mm hm) x3 (mo := kk) (by omega) (by omega) (by omega)) (by decide) rfl (x3.1) rfl rfl rfl (Nat.le_of_ble_eq_true rfl) ?_
      rintro _ w9 ⟨rfl, hw9, rw9, hP9, hr9⟩
      refine zV.run kX3_pieces 1 rfl ?_
      refine zV.gf kX3_pieces rfl fX3_19 (x0.k (hw9 0 (by omega))) rfl ?_
      refine zV.run kX3_pieces 1 rfl ?_
      refine zV.cv kX3_pieces rfl lX3_111 (o_sum E hP9 h5 (k := kk) (by omega) (fun a b => hr9 kk a b (by omega))) (by decide) rfl (hP9.1) rfl rfl rfl (Nat.le_of_ble_eq_true rfl) ?_
      rintro _ _ ⟨rfl, rfl⟩
      exact zV.lret kX3_pieces rfl rfl (⟨rfl, h.pow hP9 hw9, fun a ha => hw9 a (by omega)⟩)
    · skip
      have c4 := zq_eq0.mp (Decidable.not_not.mp c4)
      rw [if_neg (fun q => c4 q.2)]
      refine zV.ldc2 kX3_pieces rfl qX3_73 ?_
      exact zV.lret kX3_pieces rfl rfl (⟨rfl, h, fun _ _ => rfl⟩)
theorem p_part (E : zE) {w : zWd} {σ : zSt} (h : zSys w σ) (m i : Int32) : zOk E mX3_part 4 [.ref 0, .int m, .int i] w (zR0 w (.int (if okM m ∧ (0 ≤ i.toInt ∧ i.toInt < σ.1 m.toInt.toNat) then nI (lpf (σ.1 m.toInt.toNat) (σ.2 m.toInt.toNat) i.toInt.toNat i.toInt.toNat 0) else -2))) := by
  obtain ⟨x0, ⟨F, x1, x1f⟩, x2, -, -, -⟩ := id h
  refine zOk.of (by decide +kernel) (Nat.le_of_ble_eq_true rfl) ?_
  refine zV.run kX3_part 1 rfl ?_
  refine zV.cs kX3_part rfl lX3_30 (o_isMap E w m) (by decide) rfl rfl (Nat.le_of_ble_eq_true rfl) ?_
  rintro _ _ ⟨rfl, rfl⟩
  refine zV.if2 kX3_part rfl (fun c => ?_) (fun c => ?_)
  · skip
    have c := zq_eq0.mp c
    refine zV.run kX3_part 1 rfl ?_
    exact zV.iret kX3_part rfl rfl (⟨by rw [if_neg (fun q => c q.1)], rfl⟩)
  · skip
    have c := Decidable.not_not.mp (mt zq_eq0.mpr c)
    obtain ⟨mm, emm⟩ : ∃ mm, mm = m.toInt.toNat := ⟨_, rfl⟩
    have em : m = nI mm := by rw [emm]; exact i32_nI c.1
    have hm : mm < 8 := by omega
    rw [← emm]
    obtain ⟨led, hf, hg, hl, h1, h5, hb⟩ := id (x2 mm hm)
    refine zV.run kX3_part 1 rfl ?_
    refine zV.gf kX3_part rfl fX3_11 (x0) rfl ?_
    refine zV.run kX3_part 1 rfl ?_
    refine zV.aalF kX3_part rfl (x1) mm (em) (hm) (by decide) (x1f mm hm) ?_
    refine zV.run kX3_part 1 rfl ?_
    refine zV.cv kX3_part rfl lX3_56 (o_hasSpan E (x2 mm hm) i) (by decide) rfl (hf) rfl rfl rfl (Nat.le_of_ble_eq_true rfl) ?_
    rintro _ _ ⟨rfl, rfl⟩
    refine zV.if2 kX3_part rfl (fun c2 => ?_) (fun c2 => ?_)
    · skip
      have c2 := Decidable.not_not.mp (mt zq_eq0.mpr c2)
      rw [if_pos ⟨c, c2⟩]
      obtain ⟨ii, eii⟩ : ∃ ii, ii = i.toInt.toNat := ⟨_, rfl⟩
      have ei : i = nI ii := by rw [eii]; exact i32_nI c2.1
      rw [← eii, ei]
      refine zV.run kX3_part 1 rfl ?_
      refine zV.gf kX3_part rfl fX3_11 (x0) rfl ?_
      refine zV.run kX3_part 1 rfl ?_
      refine zV.aalF kX3_part rfl (x1) mm (em) (hm) (by decide) (x1f mm hm) ?_
      refine zV.run kX3_part 1 rfl ?_
      refine zV.cv kX3_part rfl lX3_115 (o_leastOfPart E (x2 mm hm) (i := ii) (by omega)) (by decide) rfl (hf) rfl rfl rfl (Nat.le_of_ble_eq_true rfl) ?_
      rintro _ _ ⟨rfl, rfl⟩
      exact zV.iret kX3_part rfl rfl (⟨rfl, rfl⟩)
    · skip
      have c2 := zq_eq0.mp (Decidable.not_not.mp c2)
      refine zV.run kX3_part 1 rfl ?_
      exact zV.iret kX3_part rfl rfl (⟨by rw [if_neg (fun q => c2 q.2)], rfl⟩)
theorem p_mixes (E : zE) {w : zWd} {σ : zSt} (h : zSys w σ) (m : Int32) : zOk E mX3_mixes 4 [.ref 0, .int m] w (zR0 w (.int (if okM m then iI (stm (σ.1 m.toInt.toNat) (σ.2 m.toInt.toNat) (σ.1 m.toInt.toNat) 0 0) else -2))) := by
  obtain ⟨x0, ⟨F, x1, x1f⟩, x2, -, -, -⟩ := id h
  refine zOk.of (by decide +kernel) (Nat.le_of_ble_eq_true rfl) ?_
  refine zV.run kX3_mixes 1 rfl ?_
  refine zV.cs kX3_mixes rfl lX3_30 (o_isMap E w m) (by decide) rfl rfl (Nat.le_of_ble_eq_true rfl) ?_
  rintro _ _ ⟨rfl, rfl⟩
  refine zV.if2 kX3_mixes rfl (fun c => ?_) (fun c => ?_)
  · skip
    have c := Decidable.not_not.mp (mt zq_eq0.mpr c)
    obtain ⟨mm, emm⟩ : ∃ mm, mm = m.toInt.toNat := ⟨_, rfl⟩
    have em : m = nI mm := by rw [emm]; exact i32_nI c.1
    have hm : mm < 8 := by omega
    rw [← emm]
    obtain ⟨led, hf, hg, hl, h1, h5, hb⟩ := id (x2 mm hm)
    refine zV.run kX3_mixes 1 rfl ?_
    refine zV.gf kX3_mixes rfl fX3_11 (x0) rfl ?_
    refine zV.run kX3_mixes 1 rfl ?_
    refine zV.aalF kX3_mixes rfl (x1) mm (em) (hm) (by decide) (x1f mm hm) ?_
    refine zV.cv kX3_mixes rfl lX3_118 (o_stepsToMix E (x2 mm hm)) (by decide) rfl (hf) rfl rfl rfl (Nat.le_of_ble_eq_true rfl) ?_
    rintro _ _ ⟨rfl, rfl⟩
    exact zV.iret kX3_mixes rfl rfl (⟨by rw [if_pos c], rfl⟩)
  · skip
    have c := zq_eq0.mp (Decidable.not_not.mp c)
    refine zV.run kX3_mixes 1 rfl ?_
    exact zV.iret kX3_mixes rfl rfl (⟨by rw [if_neg c], rfl⟩)
