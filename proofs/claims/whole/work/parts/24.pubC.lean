/-! ===== SpanMaps: rounds, tops, the digest ===== -/
def mof (n : Nat) (ld : Nat → Nat) : Nat → Nat → Nat → Nat
  | 0, _, f => f
  | r + 1, k, f => mof n ld r (k + 1) (if hnw n ld k = true ∧ cah k f = true then k else f)
def dgi (ld : Nat → Nat) (h : Int64) : Nat → Int64
  | 0 => h
  | i + 1 => 31 * dgi ld h i + lN (ld i)
def dgo (σ : zSt) : Nat → Int64
  | 0 => 167
  | m + 1 => dgi (σ.2 m) (31 * dgo σ m + lN (σ.1 m)) (σ.1 m + 1)
abbrev okR (k : Int32) : Prop := 1 ≤ k.toInt ∧ k.toInt ≤ 6
theorem p_rounds (E : zE) {w : zWd} {σ : zSt} (h : zSys w σ) (m k : Int32) : zOk E mX3_rounds 5 [.ref 0, .int m, .int k] w (zPo w (.int (if okM m ∧ okR k then (if edf (σ.2 m.toInt.toNat) k.toInt.toNat (2 * σ.1 m.toInt.toNat) 0 = true then -1 else iI (cal (σ.1 m.toInt.toNat) (σ.2 m.toInt.toNat) k.toInt.toNat (k.toInt.toNat + 1))) else -2)) σ) := by
  obtain ⟨x0, ⟨F, x1, x1f⟩, x2, -, ⟨s4, tq, fa, fb, cp, ep, es, nw, x4⟩, ⟨s5, rw5, x5⟩⟩ := id h
  refine zOk.of (by decide +kernel) (Nat.le_of_ble_eq_true rfl) ?_
  refine zV.run kX3_rounds 1 rfl ?_
  refine zV.cs kX3_rounds rfl lX3_30 (o_isMap E w m) (by decide) rfl rfl (Nat.le_of_ble_eq_true rfl) ?_
  rintro _ _ ⟨rfl, rfl⟩
  refine zV.if2 kX3_rounds rfl (fun c => ?_) (fun c => ?_)
  · skip
    have c := zq_eq0.mp c
    rw [if_neg (fun q => c q.1)]
    refine zV.run kX3_rounds 1 rfl ?_
    exact zV.iret kX3_rounds rfl rfl (⟨rfl, h, fun _ _ => rfl⟩)
  · skip
    have c := Decidable.not_not.mp (mt zq_eq0.mpr c)
    obtain ⟨mm, emm⟩ : ∃ mm, mm = m.toInt.toNat := ⟨_, rfl⟩
    have em : m = nI mm := by rw [emm]; exact i32_nI c.1
    have hm : mm < 8 := by omega
    rw [← emm]
    obtain ⟨led, hf, hg, hl, h1, h5, hb⟩ := id (x2 mm hm)
    refine zV.run kX3_rounds 1 rfl ?_
    refine zV.cs kX3_rounds rfl lX3_122 (o_isRoundLength E w k) (by decide) rfl rfl (Nat.le_of_ble_eq_true rfl) ?_
    rintro _ _ ⟨rfl, rfl⟩
    refine zV.if2 kX3_rounds rfl (fun c4 => ?_) (fun c4 => ?_)
    · skip
      have c4 := Decidable.not_not.mp (mt zq_eq0.mpr c4)
      rw [if_pos ⟨c, c4⟩]
      obtain ⟨kk, ekk⟩ : ∃ ii, ii = k.toInt.toNat := ⟨_, rfl⟩
      have ek : k = nI kk := by rw [ekk]; exact i32_nI (by omega)
      rw [← ekk, ek]
      refine zV.run kX3_rounds 1 rfl ?_
      refine zV.gf kX3_rounds rfl fX3_26 (x0) rfl ?_
      refine zV.run kX3_rounds 1 rfl ?_
      refine zV.gf kX3_rounds rfl fX3_11 (x0) rfl ?_
      refine zV.run kX3_rounds 1 rfl ?_
      refine zV.aalF kX3_rounds rfl (x1) mm (em) (hm) (by decide) (x1f mm hm) ?_
      refine zV.cv kX3_rounds rfl lX3_125 (o_study E (x2 mm hm) (by omega) (by omega) x4 x5) (by decide) rfl (x4.1) rfl rfl rfl (Nat.le_of_ble_eq_true rfl) ?_
      rintro _ w9 ⟨rfl, hS, hw9⟩
      have hs31 := hS.choose_spec.choose_spec.choose_spec.choose_spec.choose_spec.choose_spec.choose_spec.choose_spec.1.1
      have hsys := h.ret hS hw9
      refine zV.run kX3_rounds 1 rfl ?_
      refine zV.gf kX3_rounds rfl fX3_26 (x0.k (hw9 0 (by omega))) rfl ?_
      refine zV.run kX3_rounds 1 rfl ?_
      refine zV.cv kX3_rounds rfl lX3_128 (o_isEndless E hS h5 (k := kk) (by omega)) (by decide) rfl (hs31) rfl rfl rfl (Nat.le_of_ble_eq_true rfl) ?_
      rintro _ _ ⟨rfl, rfl⟩
      refine zV.if2 kX3_rounds rfl (fun c5 => ?_) (fun c5 => ?_)
      · skip
        have c5 := zq_eq0.mp c5
        refine zV.run kX3_rounds 1 rfl ?_
        refine zV.gf kX3_rounds rfl fX3_26 (x0.k (hw9 0 (by omega))) rfl ?_
        refine zV.run kX3_rounds 1 rfl ?_
        refine zV.cv kX3_rounds rfl lX3_131 (o_countAll E hS h5 (k := kk) (by omega)) (by decide) rfl (hs31) rfl rfl rfl (Nat.le_of_ble_eq_true rfl) ?_
        rintro _ _ ⟨rfl, rfl⟩
        refine zV.run kX3_rounds 1 rfl ?_
        exact zV.iret kX3_rounds rfl rfl (⟨by rw [if_neg c5, lI_i], hsys, fun a ha => hw9 a (by omega)⟩)
      · skip
        have c5 := Decidable.not_not.mp (mt zq_eq0.mpr c5)
        refine zV.run kX3_rounds 2 rfl ?_
        exact zV.iret kX3_rounds rfl rfl (⟨by rw [if_pos c5], hsys, fun a ha => hw9 a (by omega)⟩)
    · skip
      have c4 := zq_eq0.mp (Decidable.not_not.mp c4)
      rw [if_neg (fun q => c4 q.2)]
      refine zV.run kX3_rounds 1 rfl ?_
      exact zV.iret kX3_rounds rfl rfl (⟨rfl, h, fun _ _ => rfl⟩)
theorem p_period (E : zE) {w : zWd} {σ : zSt} (h : zSys w σ) (m k : Int32) : zOk E mX3_period 5 [.ref 0, .int m, .int k] w (zPo w (.int (if okM m ∧ okR k then (if edf (σ.2 m.toInt.toNat) k.toInt.toNat (2 * σ.1 m.toInt.toNat) 0 = true then -1 else iI (cnw (σ.1 m.toInt.toNat) (σ.2 m.toInt.toNat) k.toInt.toNat)) else -2)) σ) := by
  obtain ⟨x0, ⟨F, x1, x1f⟩, x2, -, ⟨s4, tq, fa, fb, cp, ep, es, nw, x4⟩, ⟨s5, rw5, x5⟩⟩ := id h
  refine zOk.of (by decide +kernel) (Nat.le_of_ble_eq_true rfl) ?_
  refine zV.run kX3_period 1 rfl ?_
  refine zV.cs kX3_period rfl lX3_30 (o_isMap E w m) (by decide) rfl rfl (Nat.le_of_ble_eq_true rfl) ?_
  rintro _ _ ⟨rfl, rfl⟩
  refine zV.if2 kX3_period rfl (fun c => ?_) (fun c => ?_)
  · skip
    have c := zq_eq0.mp c
    rw [if_neg (fun q => c q.1)]
    refine zV.run kX3_period 1 rfl ?_
    exact zV.iret kX3_period rfl rfl (⟨rfl, h, fun _ _ => rfl⟩)
  · skip
    have c := Decidable.not_not.mp (mt zq_eq0.mpr c)
    obtain ⟨mm, emm⟩ : ∃ mm, mm = m.toInt.toNat := ⟨_, rfl⟩
    have em : m = nI mm := by rw [emm]; exact i32_nI c.1
    have hm : mm < 8 := by omega
    rw [← emm]
    obtain ⟨led, hf, hg, hl, h1, h5, hb⟩ := id (x2 mm hm)
    refine zV.run kX3_period 1 rfl ?_
    refine zV.cs kX3_period rfl lX3_122 (o_isRoundLength E w k) (by decide) rfl rfl (Nat.le_of_ble_eq_true rfl) ?_
    rintro _ _ ⟨rfl, rfl⟩
    refine zV.if2 kX3_period rfl (fun c4 => ?_) (fun c4 => ?_)
    · skip
      have c4 := Decidable.not_not.mp (mt zq_eq0.mpr c4)
      rw [if_pos ⟨c, c4⟩]
      obtain ⟨kk, ekk⟩ : ∃ ii, ii = k.toInt.toNat := ⟨_, rfl⟩
      have ek : k = nI kk := by rw [ekk]; exact i32_nI (by omega)
      rw [← ekk, ek]
      refine zV.run kX3_period 1 rfl ?_
      refine zV.gf kX3_period rfl fX3_26 (x0) rfl ?_
      refine zV.run kX3_period 1 rfl ?_
      refine zV.gf kX3_period rfl fX3_11 (x0) rfl ?_
      refine zV.run kX3_period 1 rfl ?_
      refine zV.aalF kX3_period rfl (x1) mm (em) (hm) (by decide) (x1f mm hm) ?_
      refine zV.cv kX3_period rfl lX3_125 (o_study E (x2 mm hm) (by omega) (by omega) x4 x5) (by decide) rfl (x4.1) rfl rfl rfl (Nat.le_of_ble_eq_true rfl) ?_
      rintro _ w9 ⟨rfl, hS, hw9⟩
      have hs31 := hS.choose_spec.choose_spec.choose_spec.choose_spec.choose_spec.choose_spec.choose_spec.choose_spec.1.1
      have hsys := h.ret hS hw9
      refine zV.run kX3_period 1 rfl ?_
      refine zV.gf kX3_period rfl fX3_26 (x0.k (hw9 0 (by omega))) rfl ?_
      refine zV.run kX3_period 1 rfl ?_
      refine zV.cv kX3_period rfl lX3_128 (o_isEndless E hS h5 (k := kk) (by omega)) (by decide) rfl (hs31) rfl rfl rfl (Nat.le_of_ble_eq_true rfl) ?_
      rintro _ _ ⟨rfl, rfl⟩
      refine zV.if2 kX3_period rfl (fun c5 => ?_) (fun c5 => ?_)
      · skip
        have c5 := zq_eq0.mp c5
        refine zV.run kX3_period 1 rfl ?_
        refine zV.gf kX3_period rfl fX3_26 (x0.k (hw9 0 (by omega))) rfl ?_
        refine zV.run kX3_period 1 rfl ?_
        refine zV.cv kX3_period rfl lX3_147 (o_countNew E hS h5 (k := kk) (by omega) (by omega)) (by decide) rfl (hs31) rfl rfl rfl (Nat.le_of_ble_eq_true rfl) ?_
        rintro _ _ ⟨rfl, rfl⟩
        refine zV.run kX3_period 1 rfl ?_
        exact zV.iret kX3_period rfl rfl (⟨by rw [if_neg c5, lI_i], hsys, fun a ha => hw9 a (by omega)⟩)
      · skip
        have c5 := Decidable.not_not.mp (mt zq_eq0.mpr c5)
        refine zV.run kX3_period 2 rfl ?_
        exact zV.iret kX3_period rfl rfl (⟨by rw [if_pos c5], hsys, fun a ha => hw9 a (by omega)⟩)
    · skip
      have c4 := zq_eq0.mp (Decidable.not_not.mp c4)
      rw [if_neg (fun q => c4 q.2)]
      refine zV.run kX3_period 1 rfl ?_
      exact zV.iret kX3_period rfl rfl (⟨rfl, h, fun _ _ => rfl⟩)
theorem p_has (E : zE) {w : zWd} {σ : zSt} (h : zSys w σ) (m k : Int32) : zOk E mX3_has 5 [.ref 0, .int m, .int k] w (zPo w (.int (if okM m ∧ okR k then zq (hnw (σ.1 m.toInt.toNat) (σ.2 m.toInt.toNat) k.toInt.toNat = true) else -2)) σ) := by
  obtain ⟨x0, ⟨F, x1, x1f⟩, x2, -, ⟨s4, tq, fa, fb, cp, ep, es, nw, x4⟩, ⟨s5, rw5, x5⟩⟩ := id h
  refine zOk.of (by decide +kernel) (Nat.le_of_ble_eq_true rfl) ?_
  refine zV.run kX3_has 1 rfl ?_
  refine zV.cs kX3_has rfl lX3_30 (o_isMap E w m) (by decide) rfl rfl (Nat.le_of_ble_eq_true rfl) ?_
  rintro _ _ ⟨rfl, rfl⟩
  refine zV.if2 kX3_has rfl (fun c => ?_) (fun c => ?_)
  · skip
    have c := zq_eq0.mp c
    rw [if_neg (fun q => c q.1)]
    refine zV.run kX3_has 1 rfl ?_
    exact zV.iret kX3_has rfl rfl (⟨rfl, h, fun _ _ => rfl⟩)
  · skip
    have c := Decidable.not_not.mp (mt zq_eq0.mpr c)
    obtain ⟨mm, emm⟩ : ∃ mm, mm = m.toInt.toNat := ⟨_, rfl⟩
    have em : m = nI mm := by rw [emm]; exact i32_nI c.1
    have hm : mm < 8 := by omega
    rw [← emm]
    obtain ⟨led, hf, hg, hl, h1, h5, hb⟩ := id (x2 mm hm)
    refine zV.run kX3_has 1 rfl ?_
    refine zV.cs kX3_has rfl lX3_122 (o_isRoundLength E w k) (by decide) rfl rfl (Nat.le_of_ble_eq_true rfl) ?_
    rintro _ _ ⟨rfl, rfl⟩
    refine zV.if2 kX3_has rfl (fun c4 => ?_) (fun c4 => ?_)
    · skip
      have c4 := Decidable.not_not.mp (mt zq_eq0.mpr c4)
      rw [if_pos ⟨c, c4⟩]
      obtain ⟨kk, ekk⟩ : ∃ ii, ii = k.toInt.toNat := ⟨_, rfl⟩
      have ek : k = nI kk := by rw [ekk]; exact i32_nI (by omega)
      rw [← ekk, ek]
      refine zV.run kX3_has 1 rfl ?_
      refine zV.gf kX3_has rfl fX3_26 (x0) rfl ?_
      refine zV.run kX3_has 1 rfl ?_
      refine zV.gf kX3_has rfl fX3_11 (x0) rfl ?_
      refine zV.run kX3_has 1 rfl ?_
      refine zV.aalF kX3_has rfl (x1) mm (em) (hm) (by decide) (x1f mm hm) ?_
      refine zV.cv kX3_has rfl lX3_125 (o_study E (x2 mm hm) (by omega) (by omega) x4 x5) (by decide) rfl (x4.1) rfl rfl rfl (Nat.le_of_ble_eq_true rfl) ?_
      rintro _ w9 ⟨rfl, hS, hw9⟩
      have hs31 := hS.choose_spec.choose_spec.choose_spec.choose_spec.choose_spec.choose_spec.choose_spec.choose_spec.1.1
      have hsys := h.ret hS hw9
      refine zV.run kX3_has 1 rfl ?_
      refine zV.gf kX3_has rfl fX3_26 (x0.k (hw9 0 (by omega))) rfl ?_
      refine zV.run kX3_has 1 rfl ?_
      refine zV.cv kX3_has rfl lX3_150 (o_hasNew E hS h5 (k := kk) (by omega) (by omega)) (by decide) rfl (hs31) rfl rfl rfl (Nat.le_of_ble_eq_true rfl) ?_
      rintro _ _ ⟨rfl, rfl⟩
      refine zV.if2 kX3_has rfl (fun c5 => ?_) (fun c5 => ?_)
      · skip
        have c5 := zq_eq0.mp c5
        refine zV.run kX3_has 1 rfl ?_
        exact zV.iret kX3_has rfl rfl (⟨by rw [zq_f c5], hsys, fun a ha => hw9 a (by omega)⟩)
      · skip
        have c5 := Decidable.not_not.mp (mt zq_eq0.mpr c5)
        refine zV.run kX3_has 2 rfl ?_
        exact zV.iret kX3_has rfl rfl (⟨by rw [zq_t c5], hsys, fun a ha => hw9 a (by omega)⟩)
    · skip
      have c4 := zq_eq0.mp (Decidable.not_not.mp c4)
      rw [if_neg (fun q => c4 q.2)]
      refine zV.run kX3_has 1 rfl ?_
      exact zV.iret kX3_has rfl rfl (⟨rfl, h, fun _ _ => rfl⟩)
/-- what round answers, out of what find finds -/
def rnd (o : Option (Int × Int)) (what : Int32) : Int64 := match o with
  | none => -1
  | some p => lN (low p.1.toNat p.2.toNat what)
/-- what was found is a fraction that lowestTerm can be asked of -/
def okF (o : Option (Int × Int)) : Prop := ∀ p, o = some p → 0 ≤ p.1 ∧ p.1 < 2 ^ 40 ∧ 0 < p.2 ∧ p.2 < 2 ^ 40
theorem p_round (E : zE) {w : zWd} {σ : zSt} (h : zSys w σ) (m k i what : Int32) (hok : ∀ ix : Nat, edf (σ.2 m.toInt.toNat) k.toInt.toNat (2 * σ.1 m.toInt.toNat) 0 = false → okF (fdf (σ.1 m.toInt.toNat) (σ.2 m.toInt.toNat) k.toInt.toNat (σ.1 m.toInt.toNat + 1) 0 ix)) : zOk E mX3_round 5 [.ref 0, .int m, .int k, .int i, .int what] w (zPo w (.long (if okM m ∧ okR k ∧ 0 ≤ i.toInt ∧ (what = 0 ∨ what = 1) then (if edf (σ.2 m.toInt.toNat) k.toInt.toNat (2 * σ.1 m.toInt.toNat) 0 = true then -1 else rnd (fdf (σ.1 m.toInt.toNat) (σ.2 m.toInt.toNat) k.toInt.toNat (σ.1 m.toInt.toNat + 1) 0 i.toInt) what) else -2)) σ) := by
  obtain ⟨x0, ⟨F, x1, x1f⟩, x2, -, ⟨s4, tq, fa, fb, cp, ep, es, nw, x4⟩, ⟨s5, rw5, x5⟩⟩ := id h
  refine zOk.of (by decide +kernel) (Nat.le_of_ble_eq_true rfl) ?_
  refine zV.run kX3_round 1 rfl ?_
  refine zV.cs kX3_round rfl lX3_30 (o_isMap E w m) (by decide) rfl rfl (Nat.le_of_ble_eq_true rfl) ?_
  rintro _ _ ⟨rfl, rfl⟩
  refine zV.if2 kX3_round rfl (fun c => ?_) (fun c => ?_)
  · skip
    have c := zq_eq0.mp c
    rw [if_neg (fun q => c q.1)]
    refine zV.ldc2 kX3_round rfl qX3_73 ?_
    exact zV.lret kX3_round rfl rfl (⟨rfl, h, fun _ _ => rfl⟩)
  · skip
    have c := Decidable.not_not.mp (mt zq_eq0.mpr c)
    obtain ⟨mm, emm⟩ : ∃ mm, mm = m.toInt.toNat := ⟨_, rfl⟩
    have em : m = nI mm := by rw [emm]; exact i32_nI c.1
    have hm : mm < 8 := by omega
    rw [← emm] at hok ⊢
    obtain ⟨led, hf, hg, hl, h1, h5, hb⟩ := id (x2 mm hm)
    refine zV.run kX3_round 1 rfl ?_
    refine zV.cs kX3_round rfl lX3_122 (o_isRoundLength E w k) (by decide) rfl rfl (Nat.le_of_ble_eq_true rfl) ?_
    rintro _ _ ⟨rfl, rfl⟩
    refine zV.if2 kX3_round rfl (fun c4 => ?_) (fun c4 => ?_)
    · skip
      have c4 := zq_eq0.mp c4
      rw [if_neg (fun q => c4 q.2.1)]
      refine zV.ldc2 kX3_round rfl qX3_73 ?_
      exact zV.lret kX3_round rfl rfl (⟨rfl, h, fun _ _ => rfl⟩)
    · skip
      have c4 := Decidable.not_not.mp (mt zq_eq0.mpr c4)
      refine zV.run kX3_round 1 rfl ?_
      refine zV.if2 kX3_round rfl (fun c2 => ?_) (fun c2 => ?_)
      · skip
        have c2 : i.toInt < 0 := i32_lt.mp c2
        rw [if_neg (fun q => absurd q.2.2.1 (by omega))]
        refine zV.ldc2 kX3_round rfl qX3_73 ?_
        exact zV.lret kX3_round rfl rfl (⟨rfl, h, fun _ _ => rfl⟩)
      · skip
        have c2 : 0 ≤ i.toInt := i32_le.mp (Int32.not_lt.mp c2)
        refine zV.run kX3_round 1 rfl ?_
        refine zV.cs kX3_round rfl lX3_70 (o_isTerm E w what) (by decide) rfl rfl (Nat.le_of_ble_eq_true rfl) ?_
        rintro _ _ ⟨rfl, rfl⟩
        refine zV.if2 kX3_round rfl (fun c3 => ?_) (fun c3 => ?_)
        · skip
          have c3 := Decidable.not_not.mp (mt zq_eq0.mpr c3)
          rw [if_pos ⟨c, c4, c2, c3⟩]
          obtain ⟨kk, ekk⟩ : ∃ ii, ii = k.toInt.toNat := ⟨_, rfl⟩
          have ek : k = nI kk := by rw [ekk]; exact i32_nI (by omega)
          obtain ⟨ix, eix⟩ : ∃ ii, ii = i.toInt.toNat := ⟨_, rfl⟩
          have ei : i = nI ix := by rw [eix]; exact i32_nI c2
          have ei2 : i.toInt = (ix : Int) := by omega
          have hix : ix < 2 ^ 31 := by have := (iI_rg i).2; omega
          rw [← ekk] at hok ⊢
          rw [ei2, ek, ei]
          refine zV.run kX3_round 1 rfl ?_
          refine zV.gf kX3_round rfl fX3_26 (x0) rfl ?_
          refine zV.run kX3_round 1 rfl ?_
          refine zV.gf kX3_round rfl fX3_11 (x0) rfl ?_
          refine zV.run kX3_round 1 rfl ?_
          refine zV.aalF kX3_round rfl (x1) mm (em) (hm) (by decide) (x1f mm hm) ?_
          refine zV.cv kX3_round rfl lX3_125 (o_study E (x2 mm hm) (by omega) (by omega) x4 x5) (by decide) rfl (x4.1) rfl rfl rfl (Nat.le_of_ble_eq_true rfl) ?_
          rintro _ w9 ⟨rfl, hS, hw9⟩
          have hs31 := hS.choose_spec.choose_spec.choose_spec.choose_spec.choose_spec.choose_spec.choose_spec.choose_spec.1.1
          have hsys := h.ret hS hw9
          have hF9 := hsys.2.2.1 mm hm
          refine zV.run kX3_round 1 rfl ?_
          refine zV.gf kX3_round rfl fX3_26 (x0.k (hw9 0 (by omega))) rfl ?_
          refine zV.run kX3_round 1 rfl ?_
          refine zV.cv kX3_round rfl lX3_128 (o_isEndless E hS h5 (k := kk) (by omega)) (by decide) rfl (hs31) rfl rfl rfl (Nat.le_of_ble_eq_true rfl) ?_
          rintro _ _ ⟨rfl, rfl⟩
          refine zV.if2 kX3_round rfl (fun c5 => ?_) (fun c5 => ?_)
          · skip
            have c5 := Decidable.not_not.mp (mt zq_eq0.mpr c5)
            rw [if_pos c5]
            refine zV.ldc2 kX3_round rfl qX3_138 ?_
            exact zV.lret kX3_round rfl rfl (⟨rfl, hsys, fun a ha => hw9 a (by omega)⟩)
          · skip
            have c5 := zq_eq0.mp (Decidable.not_not.mp c5)
            rw [if_neg c5]
            have hokx := hok ix (by simpa using c5)
            refine zV.run kX3_round 1 rfl ?_
            refine zV.gf kX3_round rfl fX3_26 (x0.k (hw9 0 (by omega))) rfl ?_
            refine zV.run kX3_round 1 rfl ?_
            refine zV.gf kX3_round rfl fX3_11 (x0.k (hw9 0 (by omega))) rfl ?_
            refine zV.run kX3_round 1 rfl ?_
            refine zV.aalF kX3_round rfl (x1.k (hw9 1 (by omega))) mm (em) (hm) (by decide) (x1f mm hm) ?_
            refine zV.run kX3_round 2 rfl ?_
            refine zV.cv kX3_round rfl lX3_134 (o_find E hS hF9 (by omega) (by omega) (k := kk) (by omega) hix) (by decide) rfl (hs31) rfl rfl rfl (Nat.le_of_ble_eq_true rfl) ?_
            rintro _ w8 ⟨rfl, hfd⟩
            have hsys8 := h.ret (hS.fd hfd) (fun a ha => by rw [hfd.1 a (by omega)]; exact hw9 a ha)
            obtain ⟨k8, tq8, fa8, fb8, y1, y2⟩ := id hfd
            refine zV.if2 kX3_round rfl (fun c6 => ?_) (fun c6 => ?_)
            · skip
              have c6 := Decidable.not_not.mp (mt zq_eq0.mpr c6)
              obtain ⟨p, hp⟩ := Option.isSome_iff_exists.mp c6
              obtain ⟨z1, z2⟩ := y2 p hp
              obtain ⟨q1, q2, q3, q4⟩ := hokx p hp
              have er : rnd (fdf (σ.1 mm) (σ.2 mm) kk (σ.1 mm + 1) 0 (ix : Int)) what = lN (low p.1.toNat p.2.toNat what) := by rw [hp]; rfl
              rw [er]
              have g0 := hsys8.1
              refine zV.run kX3_round 1 rfl ?_
              refine zV.gf kX3_round rfl fX3_26 (g0) rfl ?_
              refine zV.gf kX3_round rfl fX3_140 (y1) rfl ?_
              refine zV.run kX3_round 1 rfl ?_
              refine zV.gf kX3_round rfl fX3_26 (g0) rfl ?_
              refine zV.gf kX3_round rfl fX3_144 (y1) rfl ?_
              rw [z1, z2, lI_nat q1, lI_nat (z := p.2) (by omega)]
              refine zV.run kX3_round 1 rfl ?_
              refine zV.cs kX3_round rfl lX3_79 (o_lowestTerm E w8 (by omega) (by omega) (by omega) what) (by decide) rfl rfl (Nat.le_of_ble_eq_true rfl) ?_
              rintro _ _ ⟨rfl, rfl⟩
              exact zV.lret kX3_round rfl rfl (⟨rfl, hsys8, fun a ha => by rw [hfd.1 a (by omega)]; exact hw9 a (by omega)⟩)
            · skip
              have c6 := zq_eq0.mp (Decidable.not_not.mp c6)
              have hnone : fdf (σ.1 mm) (σ.2 mm) kk (σ.1 mm + 1) 0 (ix : Int) = none := by
                cases hq : fdf (σ.1 mm) (σ.2 mm) kk (σ.1 mm + 1) 0 (ix : Int) with
                | none => rfl
                | some p => rw [hq] at c6; exact absurd rfl c6
              rw [hnone]
              refine zV.ldc2 kX3_round rfl qX3_138 ?_
              exact zV.lret kX3_round rfl rfl (⟨rfl, hsys8, fun a ha => by rw [hfd.1 a (by omega)]; exact hw9 a (by omega)⟩)
        · skip
          have c3 := zq_eq0.mp (Decidable.not_not.mp c3)
          rw [if_neg (fun q => c3 q.2.2.2)]
          refine zV.ldc2 kX3_round rfl qX3_73 ?_
          exact zV.lret kX3_round rfl rfl (⟨rfl, h, fun _ _ => rfl⟩)
theorem p_forces (E : zE) (w : zWd) (p q : Int32) : zOk E mX3_forces 2 [.ref 0, .int p, .int q] w (zR0 w (.int (if (1 ≤ p.toInt ∧ p.toInt ≤ 64) ∧ (1 ≤ q.toInt ∧ q.toInt ≤ 64) then zq (p.toInt.toNat = q.toInt.toNat ∨ cah p.toInt.toNat q.toInt.toNat = true) else -2))) := by
  refine zOk.of (by decide +kernel) (Nat.le_of_ble_eq_true rfl) ?_
  refine zV.run kX3_forces 1 rfl ?_
  refine zV.cs kX3_forces rfl lX3_153 (o_isForcing E w p) (by decide) rfl rfl (Nat.le_of_ble_eq_true rfl) ?_
  rintro _ _ ⟨rfl, rfl⟩
  refine zV.if2 kX3_forces rfl (fun c => ?_) (fun c => ?_)
  · skip
    have c := zq_eq0.mp c
    refine zV.run kX3_forces 1 rfl ?_
    exact zV.iret kX3_forces rfl rfl (⟨by rw [if_neg (fun q => c q.1)], rfl⟩)
  · skip
    have c := Decidable.not_not.mp (mt zq_eq0.mpr c)
    refine zV.run kX3_forces 1 rfl ?_
    refine zV.cs kX3_forces rfl lX3_153 (o_isForcing E w q) (by decide) rfl rfl (Nat.le_of_ble_eq_true rfl) ?_
    rintro _ _ ⟨rfl, rfl⟩
    refine zV.if2 kX3_forces rfl (fun c2 => ?_) (fun c2 => ?_)
    · skip
      have c2 := Decidable.not_not.mp (mt zq_eq0.mpr c2)
      rw [if_pos ⟨c, c2⟩]
      obtain ⟨pp, epp⟩ : ∃ ii, ii = p.toInt.toNat := ⟨_, rfl⟩
      have ep : p = nI pp := by rw [epp]; exact i32_nI (by omega)
      obtain ⟨qq, eqq⟩ : ∃ ii, ii = q.toInt.toNat := ⟨_, rfl⟩
      have eq : q = nI qq := by rw [eqq]; exact i32_nI (by omega)
      rw [← epp, ← eqq, ep, eq]
      refine zV.run kX3_forces 2 rfl ?_
      refine zV.ic2 kX3_forces rfl (fun c3 => ?_) (fun c3 => ?_)
      · skip
        have c3 := (nI_eq (by omega) (by omega)).mp c3
        refine zV.run kX3_forces 2 rfl ?_
        exact zV.iret kX3_forces rfl rfl (⟨by rw [zq_t (Or.inl c3)], rfl⟩)
      · skip
        have c3 := mt (nI_eq (a := pp) (b := qq) (by omega) (by omega)).mpr c3
        refine zV.run kX3_forces 2 rfl ?_
        refine zV.cs kX3_forces rfl lX3_156 (o_comesAhead E w (p := pp) (q := qq) (by omega) (by omega) (by omega) (by omega)) (by decide) rfl rfl (Nat.le_of_ble_eq_true rfl) ?_
        rintro _ _ ⟨rfl, rfl⟩
        refine zV.if2 kX3_forces rfl (fun c4 => ?_) (fun c4 => ?_)
        · skip
          have c4 := zq_eq0.mp c4
          refine zV.run kX3_forces 1 rfl ?_
          exact zV.iret kX3_forces rfl rfl (⟨by rw [zq_f (fun z => z.elim c3 c4)], rfl⟩)
        · skip
          have c4 := Decidable.not_not.mp (mt zq_eq0.mpr c4)
          refine zV.run kX3_forces 2 rfl ?_
          exact zV.iret kX3_forces rfl rfl (⟨by rw [zq_t (Or.inr c4)], rfl⟩)
    · skip
      have c2 := zq_eq0.mp (Decidable.not_not.mp c2)
      refine zV.run kX3_forces 1 rfl ?_
      exact zV.iret kX3_forces rfl rfl (⟨by rw [if_neg (fun q => c2 q.2)], rfl⟩)
theorem mof_l (E : zE) {w w0 : zWd} {σ : zSt} {n : Nat} {ld : Nat → Nat} (m : Int32) (hsys : zSys w σ) (hS : zSd w n ld) (hn : n ≤ 5) (hw : zFc w0 w) : ∀ (r k f : Nat), k + r = 7 → 2 ≤ k → 1 ≤ f → f ≤ 6 → zV E mX3_most 5 (zPo w0 (.int (nI (mof n ld r k f))) σ) 27 [.ref 0, .int m, .int (nI f), .int (nI k)] [] w := by
  have hs31 := hS.choose_spec.choose_spec.choose_spec.choose_spec.choose_spec.choose_spec.choose_spec.choose_spec.1.1
  intro r
  induction r with
  | zero =>
    intro k f hk h2 hf1 hf6
    have e : k = 7 := by omega
    subst e
    refine zV.run kX3_most 2 rfl ?_
    refine zV.ict kX3_most (cd := .gt) rfl (show (6 : Int32) < nI 7 by decide) ?_
    refine zV.run kX3_most 1 rfl ?_
    exact zV.iret kX3_most rfl rfl (⟨rfl, hsys, hw⟩)
  | succ r ih =>
    intro k f hk h2 hf1 hf6
    refine zV.run kX3_most 2 rfl ?_
    refine zV.icf kX3_most (cd := .gt) rfl (fun q => absurd ((nI_ltI (a := 6) (b := k) (by omega) (by omega)).mp q) (by omega)) ?_
    refine zV.run kX3_most 1 rfl ?_
    refine zV.gf kX3_most rfl fX3_26 (hsys.1) rfl ?_
    refine zV.run kX3_most 1 rfl ?_
    refine zV.cv kX3_most rfl lX3_150 (o_hasNew E hS hn (k := k) (by omega) (by omega)) (by decide) rfl (hs31) rfl rfl rfl (Nat.le_of_ble_eq_true rfl) ?_
    rintro _ _ ⟨rfl, rfl⟩
    refine zV.if2 kX3_most rfl (fun c => ?_) (fun c => ?_)
    · skip
      have c := zq_eq0.mp c
      have e : mof n ld (r + 1) k f = mof n ld r (k + 1) f := by show mof n ld r (k + 1) (if _ then _ else _) = _; rw [if_neg (fun q => c q.1)]
      rw [e]
      refine zV.run kX3_most 2 rfl ?_
      rw [nI_1]
      exact ih (k + 1) f (by omega) (by omega) hf1 hf6
    · skip
      have c := Decidable.not_not.mp (mt zq_eq0.mpr c)
      refine zV.run kX3_most 2 rfl ?_
      refine zV.cs kX3_most rfl lX3_156 (o_comesAhead E w (p := k) (q := f) (by omega) (by omega) (by omega) (by omega)) (by decide) rfl rfl (Nat.le_of_ble_eq_true rfl) ?_
      rintro _ _ ⟨rfl, rfl⟩
      refine zV.if2 kX3_most rfl (fun c2 => ?_) (fun c2 => ?_)
      · skip
        have c2 := zq_eq0.mp c2
        have e : mof n ld (r + 1) k f = mof n ld r (k + 1) f := by show mof n ld r (k + 1) (if _ then _ else _) = _; rw [if_neg (fun q => c2 q.2)]
        rw [e]
        refine zV.run kX3_most 2 rfl ?_
        rw [nI_1]
        exact ih (k + 1) f (by omega) (by omega) hf1 hf6
      · skip
        have c2 := Decidable.not_not.mp (mt zq_eq0.mpr c2)
        have e : mof n ld (r + 1) k f = mof n ld r (k + 1) k := by show mof n ld r (k + 1) (if _ then _ else _) = _; rw [if_pos ⟨c, c2⟩]
        rw [e]
        refine zV.run kX3_most 4 rfl ?_
        rw [nI_1]
        exact ih (k + 1) k (by omega) (by omega) (by omega) (by omega)
theorem p_most (E : zE) {w : zWd} {σ : zSt} (h : zSys w σ) (m : Int32) : zOk E mX3_most 5 [.ref 0, .int m] w (zPo w (.int (if okM m then nI (mof (σ.1 m.toInt.toNat) (σ.2 m.toInt.toNat) 5 2 1) else -2)) σ) := by
  obtain ⟨x0, ⟨F, x1, x1f⟩, x2, -, ⟨s4, tq, fa, fb, cp, ep, es, nw, x4⟩, ⟨s5, rw5, x5⟩⟩ := id h
  refine zOk.of (by decide +kernel) (Nat.le_of_ble_eq_true rfl) ?_
  refine zV.run kX3_most 1 rfl ?_
  refine zV.cs kX3_most rfl lX3_30 (o_isMap E w m) (by decide) rfl rfl (Nat.le_of_ble_eq_true rfl) ?_
  rintro _ _ ⟨rfl, rfl⟩
  refine zV.if2 kX3_most rfl (fun c => ?_) (fun c => ?_)
  · skip
    have c := Decidable.not_not.mp (mt zq_eq0.mpr c)
    obtain ⟨mm, emm⟩ : ∃ mm, mm = m.toInt.toNat := ⟨_, rfl⟩
    have em : m = nI mm := by rw [emm]; exact i32_nI c.1
    have hm : mm < 8 := by omega
    rw [if_pos c, ← emm]
    obtain ⟨led, hf, hg, hl, h1, h5, hb⟩ := id (x2 mm hm)
    refine zV.run kX3_most 1 rfl ?_
    refine zV.gf kX3_most rfl fX3_26 (x0) rfl ?_
    refine zV.run kX3_most 1 rfl ?_
    refine zV.gf kX3_most rfl fX3_11 (x0) rfl ?_
    refine zV.run kX3_most 1 rfl ?_
    refine zV.aalF kX3_most rfl (x1) mm (em) (hm) (by decide) (x1f mm hm) ?_
    refine zV.cv kX3_most rfl lX3_125 (o_study E (x2 mm hm) (by omega) (by omega) x4 x5) (by decide) rfl (x4.1) rfl rfl rfl (Nat.le_of_ble_eq_true rfl) ?_
    rintro _ w9 ⟨rfl, hS, hw9⟩
    refine zV.run kX3_most 4 rfl ?_
    exact mof_l E m (h.ret hS hw9) hS h5 (fun a ha => hw9 a (by omega)) 5 2 1 (by omega) (by omega) (by omega) (by omega)
  · skip
    have c := zq_eq0.mp (Decidable.not_not.mp c)
    rw [if_neg c]
    refine zV.run kX3_most 1 rfl ?_
    exact zV.iret kX3_most rfl rfl (⟨rfl, h, fun _ _ => rfl⟩)
theorem ftp_rg (n : Nat) (ld : Nat → Nat) : ftp n ld = -1 ∨ (0 < ftp n ld ∧ ftp n ld < n) := by
  unfold ftp
  split
  · right; omega
  · left; rfl
theorem p_top (E : zE) {w : zWd} {σ : zSt} (h : zSys w σ) (m : Int32) : zOk E mX3_top 2 [.ref 0, .int m] w (zR0 w (.int (if okM m then iI (ftp (σ.1 m.toInt.toNat) (σ.2 m.toInt.toNat)) else -2))) := by
  obtain ⟨x0, ⟨F, x1, x1f⟩, x2, -, -, -⟩ := id h
  refine zOk.of (by decide +kernel) (Nat.le_of_ble_eq_true rfl) ?_
  refine zV.run kX3_top 1 rfl ?_
  refine zV.cs kX3_top rfl lX3_30 (o_isMap E w m) (by decide) rfl rfl (Nat.le_of_ble_eq_true rfl) ?_
  rintro _ _ ⟨rfl, rfl⟩
  refine zV.if2 kX3_top rfl (fun c => ?_) (fun c => ?_)
  · skip
    have c := Decidable.not_not.mp (mt zq_eq0.mpr c)
    obtain ⟨mm, emm⟩ : ∃ mm, mm = m.toInt.toNat := ⟨_, rfl⟩
    have em : m = nI mm := by rw [emm]; exact i32_nI c.1
    have hm : mm < 8 := by omega
    rw [← emm]
    obtain ⟨led, hf, hg, hl, h1, h5, hb⟩ := id (x2 mm hm)
    refine zV.run kX3_top 1 rfl ?_
    refine zV.gf kX3_top rfl fX3_11 (x0) rfl ?_
    refine zV.run kX3_top 1 rfl ?_
    refine zV.aalF kX3_top rfl (x1) mm (em) (hm) (by decide) (x1f mm hm) ?_
    refine zV.cv kX3_top rfl lX3_159 (o_findTop E (x2 mm hm)) (by decide) rfl (hf) rfl rfl rfl (Nat.le_of_ble_eq_true rfl) ?_
    rintro _ _ ⟨rfl, rfl⟩
    exact zV.iret kX3_top rfl rfl (⟨by rw [if_pos c], rfl⟩)
  · skip
    have c := zq_eq0.mp (Decidable.not_not.mp c)
    refine zV.run kX3_top 1 rfl ?_
    exact zV.iret kX3_top rfl rfl (⟨by rw [if_neg c], rfl⟩)
def twd (n : Nat) (ld : Nat → Nat) (i : Nat) : Int32 := if ftp n ld = -1 then -3 else if orb ld (ftp n ld).toNat i = (ftp n ld).toNat then 1 else if orb ld (ftp n ld).toNat i < (ftp n ld).toNat then 0 else 2
theorem p_topWord (E : zE) {w : zWd} {σ : zSt} (h : zSys w σ) (m i : Int32) : zOk E mX3_topWord 2 [.ref 0, .int m, .int i] w (zR0 w (.int (if okM m ∧ (1 ≤ i.toInt ∧ i.toInt ≤ 1000) then twd (σ.1 m.toInt.toNat) (σ.2 m.toInt.toNat) i.toInt.toNat else -2))) := by
  obtain ⟨x0, ⟨F, x1, x1f⟩, x2, -, -, -⟩ := id h
  refine zOk.of (by decide +kernel) (Nat.le_of_ble_eq_true rfl) ?_
  refine zV.run kX3_topWord 1 rfl ?_
  refine zV.cs kX3_topWord rfl lX3_30 (o_isMap E w m) (by decide) rfl rfl (Nat.le_of_ble_eq_true rfl) ?_
  rintro _ _ ⟨rfl, rfl⟩
  refine zV.if2 kX3_topWord rfl (fun c => ?_) (fun c => ?_)
  · skip
    have c := zq_eq0.mp c
    refine zV.run kX3_topWord 1 rfl ?_
    exact zV.iret kX3_topWord rfl rfl (⟨by rw [if_neg (fun q => c q.1)], rfl⟩)
  · skip
    have c := Decidable.not_not.mp (mt zq_eq0.mpr c)
    obtain ⟨mm, emm⟩ : ∃ mm, mm = m.toInt.toNat := ⟨_, rfl⟩
    have em : m = nI mm := by rw [emm]; exact i32_nI c.1
    have hm : mm < 8 := by omega
    rw [← emm]
    obtain ⟨led, hf, hg, hl, h1, h5, hb⟩ := id (x2 mm hm)
    refine zV.run kX3_topWord 2 rfl ?_
    refine zV.ic2 kX3_topWord rfl (fun c2 => ?_) (fun c2 => ?_)
    · skip
      have c2 : i.toInt < 1 := i32_lt.mp c2
      refine zV.run kX3_topWord 1 rfl ?_
      exact zV.iret kX3_topWord rfl rfl (⟨by rw [if_neg (fun q => absurd q.2.1 (by omega))], rfl⟩)
    · skip
      have c2 : 1 ≤ i.toInt := i32_le.mp (Int32.not_lt.mp c2)
      refine zV.run kX3_topWord 2 rfl ?_
      refine zV.ic2 kX3_topWord rfl (fun c3 => ?_) (fun c3 => ?_)
      · skip
        have c3 : i.toInt ≤ 1000 := i32_le.mp c3
        rw [if_pos ⟨c, c2, c3⟩]
        obtain ⟨ii, eii⟩ : ∃ ii, ii = i.toInt.toNat := ⟨_, rfl⟩
        have ei : i = nI ii := by rw [eii]; exact i32_nI (by omega)
        rw [← eii, ei]
        have hr := ftp_rg (σ.1 mm) (σ.2 mm)
        refine zV.run kX3_topWord 1 rfl ?_
        refine zV.gf kX3_topWord rfl fX3_11 (x0) rfl ?_
        refine zV.run kX3_topWord 1 rfl ?_
        refine zV.aalF kX3_topWord rfl (x1) mm (em) (hm) (by decide) (x1f mm hm) ?_
        refine zV.cv kX3_topWord rfl lX3_159 (o_findTop E (x2 mm hm)) (by decide) rfl (hf) rfl rfl rfl (Nat.le_of_ble_eq_true rfl) ?_
        rintro _ _ ⟨rfl, rfl⟩
        refine zV.run kX3_topWord 3 rfl ?_
        refine zV.ic2 kX3_topWord rfl (fun c4 => ?_) (fun c4 => ?_)
        · skip
          have c4 : ¬ ftp (σ.1 mm) (σ.2 mm) = -1 := fun q => c4 (by rw [q]; rfl)
          obtain ⟨tc, etc⟩ : ∃ tc : Nat, tc = (ftp (σ.1 mm) (σ.2 mm)).toNat := ⟨_, rfl⟩
          have etc2 : iI (ftp (σ.1 mm) (σ.2 mm)) = nI tc := by rw [nI_iI, etc, Int.toNat_of_nonneg (by omega)]
          have htc : tc < σ.1 mm := by omega
          have ho := orb_le hb (i := tc) (by omega) ii
          have ew : twd (σ.1 mm) (σ.2 mm) ii = if orb (σ.2 mm) tc ii = tc then 1 else if orb (σ.2 mm) tc ii < tc then 0 else 2 := by
            unfold twd
            rw [if_neg c4, ← etc]
          rw [etc2, ew]
          refine zV.run kX3_topWord 1 rfl ?_
          refine zV.gf kX3_topWord rfl fX3_11 (x0) rfl ?_
          refine zV.run kX3_topWord 1 rfl ?_
          refine zV.aalF kX3_topWord rfl (x1) mm (em) (hm) (by decide) (x1f mm hm) ?_
          refine zV.run kX3_topWord 2 rfl ?_
          refine zV.cv kX3_topWord rfl lX3_162 (o_cornerAfter E (x2 mm hm) (i := tc) (by omega) (k := ii) (by omega)) (by decide) rfl (hf) rfl rfl rfl (Nat.le_of_ble_eq_true rfl) ?_
          rintro _ _ ⟨rfl, rfl⟩
          refine zV.run kX3_topWord 3 rfl ?_
          refine zV.ic2 kX3_topWord rfl (fun c5 => ?_) (fun c5 => ?_)
          · skip
            have c5 := mt (nI_eq (a := orb (σ.2 mm) tc ii) (b := tc) (by omega) (by omega)).mpr c5
            rw [if_neg c5]
            refine zV.run kX3_topWord 2 rfl ?_
            refine zV.ic2 kX3_topWord rfl (fun c6 => ?_) (fun c6 => ?_)
            · skip
              have c6 := (nI_leI (by omega) (by omega)).mp c6
              refine zV.run kX3_topWord 1 rfl ?_
              exact zV.iret kX3_topWord rfl rfl (⟨by rw [if_neg (by omega)], rfl⟩)
            · skip
              have c6 := mt (nI_leI (a := tc) (b := orb (σ.2 mm) tc ii) (by omega) (by omega)).mpr c6
              refine zV.run kX3_topWord 2 rfl ?_
              exact zV.iret kX3_topWord rfl rfl (⟨by rw [if_pos (by omega)], rfl⟩)
          · skip
            have c5 := (nI_eq (by omega) (by omega)).mp (Decidable.not_not.mp c5)
            refine zV.run kX3_topWord 1 rfl ?_
            exact zV.iret kX3_topWord rfl rfl (⟨by rw [if_pos c5], rfl⟩)
        · skip
          have c4 : ftp (σ.1 mm) (σ.2 mm) = -1 := (iI_eq (by omega) (by omega) (by omega) (by omega)).mp (show iI _ = iI (-1) from Decidable.not_not.mp c4)
          refine zV.run kX3_topWord 1 rfl ?_
          exact zV.iret kX3_topWord rfl rfl (⟨by unfold twd; rw [if_pos c4], rfl⟩)
      · skip
        have c3 : 1000 < i.toInt := i32_lt.mp (Int32.not_le.mp c3)
        refine zV.run kX3_topWord 1 rfl ?_
        exact zV.iret kX3_topWord rfl rfl (⟨by rw [if_neg (fun q => absurd q.2.2 (by omega))], rfl⟩)
def trd (n : Nat) (ld : Nat → Nat) (what : Int32) : Int32 := if ftp n ld = -1 then -3 else if what = 0 then nI (sah n ld (n + 1) (ftp n ld).toNat) else nI (sor n ld (orb ld (ftp n ld).toNat (sah n ld (n + 1) (ftp n ld).toNat)))
theorem sah_le (n : Nat) (ld : Nat → Nat) : ∀ r x, sah n ld r x ≤ r
  | 0, x => Nat.le_refl _
  | r + 1, x => by
    have := sah_le n ld r (ld x)
    unfold sah
    split <;> omega
theorem p_topRound (E : zE) {w : zWd} {σ : zSt} (h : zSys w σ) (m what : Int32) : zOk E mX3_topRound 2 [.ref 0, .int m, .int what] w (zR0 w (.int (if okM m ∧ (what = 0 ∨ what = 1) then trd (σ.1 m.toInt.toNat) (σ.2 m.toInt.toNat) what else -2))) := by
  obtain ⟨x0, ⟨F, x1, x1f⟩, x2, -, -, -⟩ := id h
  refine zOk.of (by decide +kernel) (Nat.le_of_ble_eq_true rfl) ?_
  refine zV.run kX3_topRound 1 rfl ?_
  refine zV.cs kX3_topRound rfl lX3_30 (o_isMap E w m) (by decide) rfl rfl (Nat.le_of_ble_eq_true rfl) ?_
  rintro _ _ ⟨rfl, rfl⟩
  refine zV.if2 kX3_topRound rfl (fun c => ?_) (fun c => ?_)
  · skip
    have c := zq_eq0.mp c
    refine zV.run kX3_topRound 1 rfl ?_
    exact zV.iret kX3_topRound rfl rfl (⟨by rw [if_neg (fun q => c q.1)], rfl⟩)
  · skip
    have c := Decidable.not_not.mp (mt zq_eq0.mpr c)
    obtain ⟨mm, emm⟩ : ∃ mm, mm = m.toInt.toNat := ⟨_, rfl⟩
    have em : m = nI mm := by rw [emm]; exact i32_nI c.1
    have hm : mm < 8 := by omega
    rw [← emm]
    obtain ⟨led, hf, hg, hl, h1, h5, hb⟩ := id (x2 mm hm)
    refine zV.run kX3_topRound 1 rfl ?_
    refine zV.cs kX3_topRound rfl lX3_70 (o_isTerm E w what) (by decide) rfl rfl (Nat.le_of_ble_eq_true rfl) ?_
    rintro _ _ ⟨rfl, rfl⟩
    refine zV.if2 kX3_topRound rfl (fun c2 => ?_) (fun c2 => ?_)
    · skip
      have c2 := Decidable.not_not.mp (mt zq_eq0.mpr c2)
      rw [if_pos ⟨c, c2⟩]
      have hr := ftp_rg (σ.1 mm) (σ.2 mm)
      refine zV.run kX3_topRound 1 rfl ?_
      refine zV.gf kX3_topRound rfl fX3_11 (x0) rfl ?_
      refine zV.run kX3_topRound 1 rfl ?_
      refine zV.aalF kX3_topRound rfl (x1) mm (em) (hm) (by decide) (x1f mm hm) ?_
      refine zV.cv kX3_topRound rfl lX3_159 (o_findTop E (x2 mm hm)) (by decide) rfl (hf) rfl rfl rfl (Nat.le_of_ble_eq_true rfl) ?_
      rintro _ _ ⟨rfl, rfl⟩
      refine zV.run kX3_topRound 3 rfl ?_
      refine zV.ic2 kX3_topRound rfl (fun c4 => ?_) (fun c4 => ?_)
      · skip
        have c4 : ¬ ftp (σ.1 mm) (σ.2 mm) = -1 := fun q => c4 (by rw [q]; rfl)
        obtain ⟨tc, etc⟩ : ∃ tc : Nat, tc = (ftp (σ.1 mm) (σ.2 mm)).toNat := ⟨_, rfl⟩
        have etc2 : iI (ftp (σ.1 mm) (σ.2 mm)) = nI tc := by rw [nI_iI, etc, Int.toNat_of_nonneg (by omega)]
        have htc : tc < σ.1 mm := by omega
        have hsa := sah_le (σ.1 mm) (σ.2 mm) (σ.1 mm + 1) tc
        have ho := orb_le hb (i := tc) (by omega) (sah (σ.1 mm) (σ.2 mm) (σ.1 mm + 1) tc)
        have ew : trd (σ.1 mm) (σ.2 mm) what = if what = 0 then nI (sah (σ.1 mm) (σ.2 mm) (σ.1 mm + 1) tc) else nI (sor (σ.1 mm) (σ.2 mm) (orb (σ.2 mm) tc (sah (σ.1 mm) (σ.2 mm) (σ.1 mm + 1) tc))) := by
          unfold trd
          rw [if_neg c4, ← etc]
        rw [etc2, ew]
        refine zV.run kX3_topRound 1 rfl ?_
        refine zV.gf kX3_topRound rfl fX3_11 (x0) rfl ?_
        refine zV.run kX3_topRound 1 rfl ?_
        refine zV.aalF kX3_topRound rfl (x1) mm (em) (hm) (by decide) (x1f mm hm) ?_
        refine zV.run kX3_topRound 1 rfl ?_
        refine zV.cv kX3_topRound rfl lX3_166 (o_stepsAhead E (x2 mm hm) (i := tc) (by omega)) (by decide) rfl (hf) rfl rfl rfl (Nat.le_of_ble_eq_true rfl) ?_
        rintro _ _ ⟨rfl, rfl⟩
        refine zV.run kX3_topRound 2 rfl ?_
        refine zV.if2 kX3_topRound rfl (fun c5 => ?_) (fun c5 => ?_)
        · skip
          have c5 : ¬ what = 0 := c5
          rw [if_neg c5]
          refine zV.run kX3_topRound 1 rfl ?_
          refine zV.gf kX3_topRound rfl fX3_11 (x0) rfl ?_
          refine zV.run kX3_topRound 1 rfl ?_
          refine zV.aalF kX3_topRound rfl (x1) mm (em) (hm) (by decide) (x1f mm hm) ?_
          refine zV.run kX3_topRound 1 rfl ?_
          refine zV.gf kX3_topRound rfl fX3_11 (x0) rfl ?_
          refine zV.run kX3_topRound 1 rfl ?_
          refine zV.aalF kX3_topRound rfl (x1) mm (em) (hm) (by decide) (x1f mm hm) ?_
          refine zV.run kX3_topRound 2 rfl ?_
          refine zV.cv kX3_topRound rfl lX3_162 (o_cornerAfter E (x2 mm hm) (i := tc) (by omega) (k := sah (σ.1 mm) (σ.2 mm) (σ.1 mm + 1) tc) (by omega)) (by decide) rfl (hf) rfl rfl rfl (Nat.le_of_ble_eq_true rfl) ?_
          rintro _ _ ⟨rfl, rfl⟩
          refine zV.cv kX3_topRound rfl lX3_169 (o_stepsOfRound E (x2 mm hm) ho) (by decide) rfl (hf) rfl rfl rfl (Nat.le_of_ble_eq_true rfl) ?_
          rintro _ _ ⟨rfl, rfl⟩
          exact zV.iret kX3_topRound rfl rfl (⟨rfl, rfl⟩)
        · skip
          have c5 : what = 0 := Decidable.not_not.mp c5
          refine zV.run kX3_topRound 2 rfl ?_
          exact zV.iret kX3_topRound rfl rfl (⟨by rw [if_pos c5], rfl⟩)
      · skip
        have c4 : ftp (σ.1 mm) (σ.2 mm) = -1 := (iI_eq (by omega) (by omega) (by omega) (by omega)).mp (show iI _ = iI (-1) from Decidable.not_not.mp c4)
        refine zV.run kX3_topRound 1 rfl ?_
        exact zV.iret kX3_topRound rfl rfl (⟨by unfold trd; rw [if_pos c4], rfl⟩)
    · skip
      have c2 := zq_eq0.mp (Decidable.not_not.mp c2)
      refine zV.run kX3_topRound 1 rfl ?_
      exact zV.iret kX3_topRound rfl rfl (⟨by rw [if_neg (fun q => c2 q.2)], rfl⟩)
theorem p_digest_2 (E : zE) {w : zWd} {σ : zSt} {Post : Option Value → zWd → Prop} {m : Nat} (hm : m < 8) (hF : zFo w (2 + m) (10 + m) (σ.1 m) (σ.2 m)) (h0 : Int64)
    (kk : ∀ z5 : Value, zV E mX3_digest 0 Post 68 [.ref 0, .long (dgi (σ.2 m) h0 (σ.1 m + 1)), zU, .int (nI m), .ref (2 + m), z5] [] w) :
    ∀ (r i : Nat), i + r = σ.1 m + 1 → zV E mX3_digest 0 Post 36 [.ref 0, .long (dgi (σ.2 m) h0 i), zU, .int (nI m), .ref (2 + m), .int (nI i)] [] w := by
  obtain ⟨led, hf, hg, hl, h1, h5, hb⟩ := id hF
  intro r
  induction r with
  | zero =>
    intro i hi
    have e : i = σ.1 m + 1 := by omega
    subst e
    refine zV.run kX3_digest 2 rfl ?_
    refine zV.gf kX3_digest rfl fX3_49 (hf) rfl ?_
    refine zV.ict kX3_digest (cd := .gt) rfl (nI_lt (by omega) (by omega)) ?_
    exact kk _
  | succ r ih =>
    intro i hi
    have li := hb i (by omega)
    refine zV.run kX3_digest 2 rfl ?_
    refine zV.gf kX3_digest rfl fX3_49 (hf) rfl ?_
    refine zV.icf kX3_digest (cd := .gt) rfl (nI_nlt (by omega) (by omega)) ?_
    refine zV.ldc2 kX3_digest rfl qX3_174 ?_
    refine zV.run kX3_digest 3 rfl ?_
    refine zV.gf kX3_digest rfl fX3_41 (hf) rfl ?_
    refine zV.run kX3_digest 1 rfl ?_
    refine zV.ial kX3_digest rfl (hg) (i) (rfl) (by omega) (by decide) ?_
    rw [hl i (by omega)]
    refine zV.run kX3_digest 5 rfl ?_
    rw [nI_1, nI_l (by omega)]
    exact ih (i + 1) (by omega)
theorem p_digest_1 (E : zE) {w : zWd} {σ : zSt} (h : zSys w σ) : ∀ (r m : Nat) (z4 z5 : Value), m + r = 8 → zV E mX3_digest 0 (zR0 w (.long (dgo σ 8))) 6 [.ref 0, .long (dgo σ m), zU, .int (nI m), z4, z5] [] w := by
  obtain ⟨x0, ⟨F, x1, x1f⟩, x2, -, -, -⟩ := id h
  intro r
  induction r with
  | zero =>
    intro m z4 z5 hm
    have e : m = 8 := by omega
    subst e
    refine zV.run kX3_digest 2 rfl ?_
    refine zV.ict kX3_digest (cd := .ge) rfl (Int32.le_refl _) ?_
    refine zV.run kX3_digest 1 rfl ?_
    exact zV.lret kX3_digest rfl rfl (⟨rfl, rfl⟩)
  | succ r ih =>
    intro m z4 z5 hr
    have hm : m < 8 := by omega
    obtain ⟨led, hf, hg, hl, h1, h5, hb⟩ := id (x2 m hm)
    refine zV.run kX3_digest 2 rfl ?_
    refine zV.icf kX3_digest (cd := .ge) rfl (fun q => absurd ((nI_leI (a := 8) (b := m) (by omega) (by omega)).mp q) (by omega)) ?_
    refine zV.run kX3_digest 1 rfl ?_
    refine zV.gf kX3_digest rfl fX3_11 (x0) rfl ?_
    refine zV.run kX3_digest 1 rfl ?_
    refine zV.aalF kX3_digest rfl (x1) (m) (rfl) (hm) (by decide) (x1f m hm) ?_
    refine zV.run kX3_digest 1 rfl ?_
    refine zV.ldc2 kX3_digest rfl qX3_174 ?_
    refine zV.run kX3_digest 3 rfl ?_
    refine zV.gf kX3_digest rfl fX3_49 (hf) rfl ?_
    refine zV.run kX3_digest 5 rfl ?_
    rw [nI_l (by omega)]
    refine p_digest_2 E hm (x2 m hm) (31 * dgo σ m + lN (σ.1 m)) (fun y5 => ?_) (σ.1 m + 1) 0 (by omega)
    refine zV.run kX3_digest 2 rfl ?_
    rw [nI_1]
    exact ih (m + 1) _ _ (by omega)
theorem p_digest (E : zE) {w : zWd} {σ : zSt} (h : zSys w σ) : zOk E mX3_digest 0 [.ref 0] w (zR0 w (.long (dgo σ 8))) := by
  refine zOk.of (by decide +kernel) (Nat.le_of_ble_eq_true rfl) ?_
  refine zV.ldc2 kX3_digest rfl qX3_172 ?_
  refine zV.run kX3_digest 3 rfl ?_
  exact p_digest_1 E h 8 0 _ _ (by omega)
