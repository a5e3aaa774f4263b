/-! ===== SpanMaps: what is static ===== -/
theorem o_isMap (E : zE) (w : zWd) (m : Int32) : zOk E mX3_isMap 0 [.int m] w (zR0 w (.int (zq (0 ≤ m.toInt ∧ m.toInt < 8)))) := by
  refine zOk.of (by decide +kernel) (Nat.le_of_ble_eq_true rfl) ?_
  refine zV.run kX3_isMap 1 rfl ?_
  refine zV.if2 kX3_isMap rfl (fun c => ?_) (fun c => ?_)
  · skip
    have c : m.toInt < 0 := i32_lt.mp c
    refine zV.run kX3_isMap 1 rfl ?_
    exact zV.zret kX3_isMap rfl rfl (Or.inl rfl) (⟨by rw [zq_f]; omega, rfl⟩)
  · skip
    have c : 0 ≤ m.toInt := i32_le.mp (Int32.not_lt.mp c)
    refine zV.run kX3_isMap 2 rfl ?_
    refine zV.ic2 kX3_isMap rfl (fun c2 => ?_) (fun c2 => ?_)
    · skip
      have c2 : 8 ≤ m.toInt := i32_le.mp c2
      refine zV.run kX3_isMap 1 rfl ?_
      exact zV.zret kX3_isMap rfl rfl (Or.inl rfl) (⟨by rw [zq_f]; omega, rfl⟩)
    · skip
      have c2 : m.toInt < 8 := i32_lt.mp (Int32.not_le.mp c2)
      refine zV.run kX3_isMap 2 rfl ?_
      exact zV.zret kX3_isMap rfl rfl (Or.inr rfl) (⟨by rw [zq_t]; omega, rfl⟩)
theorem o_isTerm (E : zE) (w : zWd) (m : Int32) : zOk E mX3_isTerm 0 [.int m] w (zR0 w (.int (zq (m = 0 ∨ m = 1)))) := by
  refine zOk.of (by decide +kernel) (Nat.le_of_ble_eq_true rfl) ?_
  refine zV.run kX3_isTerm 1 rfl ?_
  refine zV.if2 kX3_isTerm rfl (fun c => ?_) (fun c => ?_)
  · skip
    have c : m = 0 := c
    refine zV.run kX3_isTerm 2 rfl ?_
    exact zV.zret kX3_isTerm rfl rfl (Or.inr rfl) (⟨by rw [zq_t (Or.inl c)], rfl⟩)
  · skip
    have c : ¬ m = 0 := c
    refine zV.run kX3_isTerm 2 rfl ?_
    refine zV.ic2 kX3_isTerm rfl (fun c2 => ?_) (fun c2 => ?_)
    · skip
      have c2 : ¬ m = 1 := c2
      refine zV.run kX3_isTerm 1 rfl ?_
      exact zV.zret kX3_isTerm rfl rfl (Or.inl rfl) (⟨by rw [zq_f (fun q => q.elim c c2)], rfl⟩)
    · skip
      have c2 : m = 1 := Decidable.not_not.mp c2
      refine zV.run kX3_isTerm 2 rfl ?_
      exact zV.zret kX3_isTerm rfl rfl (Or.inr rfl) (⟨by rw [zq_t (Or.inr c2)], rfl⟩)
theorem o_isStepCount (E : zE) (w : zWd) (m : Int32) : zOk E mX3_isStepCount 0 [.int m] w (zR0 w (.int (zq (0 ≤ m.toInt ∧ m.toInt ≤ 1000)))) := by
  refine zOk.of (by decide +kernel) (Nat.le_of_ble_eq_true rfl) ?_
  refine zV.run kX3_isStepCount 1 rfl ?_
  refine zV.if2 kX3_isStepCount rfl (fun c => ?_) (fun c => ?_)
  · skip
    have c : m.toInt < 0 := i32_lt.mp c
    refine zV.run kX3_isStepCount 1 rfl ?_
    exact zV.zret kX3_isStepCount rfl rfl (Or.inl rfl) (⟨by rw [zq_f]; omega, rfl⟩)
  · skip
    have c : 0 ≤ m.toInt := i32_le.mp (Int32.not_lt.mp c)
    refine zV.run kX3_isStepCount 2 rfl ?_
    refine zV.ic2 kX3_isStepCount rfl (fun c2 => ?_) (fun c2 => ?_)
    · skip
      have c2 : 1000 < m.toInt := i32_lt.mp c2
      refine zV.run kX3_isStepCount 1 rfl ?_
      exact zV.zret kX3_isStepCount rfl rfl (Or.inl rfl) (⟨by rw [zq_f]; omega, rfl⟩)
    · skip
      have c2 : m.toInt ≤ 1000 := i32_le.mp (Int32.not_lt.mp c2)
      refine zV.run kX3_isStepCount 2 rfl ?_
      exact zV.zret kX3_isStepCount rfl rfl (Or.inr rfl) (⟨by rw [zq_t]; omega, rfl⟩)
theorem o_isWayLength (E : zE) (w : zWd) (m : Int32) : zOk E mX3_isWayLength 0 [.int m] w (zR0 w (.int (zq (0 ≤ m.toInt ∧ m.toInt ≤ 10)))) := by
  refine zOk.of (by decide +kernel) (Nat.le_of_ble_eq_true rfl) ?_
  refine zV.run kX3_isWayLength 1 rfl ?_
  refine zV.if2 kX3_isWayLength rfl (fun c => ?_) (fun c => ?_)
  · skip
    have c : m.toInt < 0 := i32_lt.mp c
    refine zV.run kX3_isWayLength 1 rfl ?_
    exact zV.zret kX3_isWayLength rfl rfl (Or.inl rfl) (⟨by rw [zq_f]; omega, rfl⟩)
  · skip
    have c : 0 ≤ m.toInt := i32_le.mp (Int32.not_lt.mp c)
    refine zV.run kX3_isWayLength 2 rfl ?_
    refine zV.ic2 kX3_isWayLength rfl (fun c2 => ?_) (fun c2 => ?_)
    · skip
      have c2 : 10 < m.toInt := i32_lt.mp c2
      refine zV.run kX3_isWayLength 1 rfl ?_
      exact zV.zret kX3_isWayLength rfl rfl (Or.inl rfl) (⟨by rw [zq_f]; omega, rfl⟩)
    · skip
      have c2 : m.toInt ≤ 10 := i32_le.mp (Int32.not_lt.mp c2)
      refine zV.run kX3_isWayLength 2 rfl ?_
      exact zV.zret kX3_isWayLength rfl rfl (Or.inr rfl) (⟨by rw [zq_t]; omega, rfl⟩)
theorem o_isRoundLength (E : zE) (w : zWd) (m : Int32) : zOk E mX3_isRoundLength 0 [.int m] w (zR0 w (.int (zq (1 ≤ m.toInt ∧ m.toInt ≤ 6)))) := by
  refine zOk.of (by decide +kernel) (Nat.le_of_ble_eq_true rfl) ?_
  refine zV.run kX3_isRoundLength 2 rfl ?_
  refine zV.ic2 kX3_isRoundLength rfl (fun c => ?_) (fun c => ?_)
  · skip
    have c : m.toInt < 1 := i32_lt.mp c
    refine zV.run kX3_isRoundLength 1 rfl ?_
    exact zV.zret kX3_isRoundLength rfl rfl (Or.inl rfl) (⟨by rw [zq_f]; omega, rfl⟩)
  · skip
    have c : 1 ≤ m.toInt := i32_le.mp (Int32.not_lt.mp c)
    refine zV.run kX3_isRoundLength 2 rfl ?_
    refine zV.ic2 kX3_isRoundLength rfl (fun c2 => ?_) (fun c2 => ?_)
    · skip
      have c2 : 6 < m.toInt := i32_lt.mp c2
      refine zV.run kX3_isRoundLength 1 rfl ?_
      exact zV.zret kX3_isRoundLength rfl rfl (Or.inl rfl) (⟨by rw [zq_f]; omega, rfl⟩)
    · skip
      have c2 : m.toInt ≤ 6 := i32_le.mp (Int32.not_lt.mp c2)
      refine zV.run kX3_isRoundLength 2 rfl ?_
      exact zV.zret kX3_isRoundLength rfl rfl (Or.inr rfl) (⟨by rw [zq_t]; omega, rfl⟩)
theorem o_isForcing (E : zE) (w : zWd) (m : Int32) : zOk E mX3_isForcing 0 [.int m] w (zR0 w (.int (zq (1 ≤ m.toInt ∧ m.toInt ≤ 64)))) := by
  refine zOk.of (by decide +kernel) (Nat.le_of_ble_eq_true rfl) ?_
  refine zV.run kX3_isForcing 2 rfl ?_
  refine zV.ic2 kX3_isForcing rfl (fun c => ?_) (fun c => ?_)
  · skip
    have c : m.toInt < 1 := i32_lt.mp c
    refine zV.run kX3_isForcing 1 rfl ?_
    exact zV.zret kX3_isForcing rfl rfl (Or.inl rfl) (⟨by rw [zq_f]; omega, rfl⟩)
  · skip
    have c : 1 ≤ m.toInt := i32_le.mp (Int32.not_lt.mp c)
    refine zV.run kX3_isForcing 2 rfl ?_
    refine zV.ic2 kX3_isForcing rfl (fun c2 => ?_) (fun c2 => ?_)
    · skip
      have c2 : 64 < m.toInt := i32_lt.mp c2
      refine zV.run kX3_isForcing 1 rfl ?_
      exact zV.zret kX3_isForcing rfl rfl (Or.inl rfl) (⟨by rw [zq_f]; omega, rfl⟩)
    · skip
      have c2 : m.toInt ≤ 64 := i32_le.mp (Int32.not_lt.mp c2)
      refine zV.run kX3_isForcing 2 rfl ?_
      exact zV.zret kX3_isForcing rfl rfl (Or.inr rfl) (⟨by rw [zq_t]; omega, rfl⟩)
theorem o_divides (E : zE) (w : zWd) {d k : Nat} (hd : d < 1000) (hk : k < 1000) : zOk E mX3_divides 0 [.int (nI d), .int (nI k)] w (zR0 w (.int (zq (0 < d ∧ k % d = 0)))) := by
  refine zOk.of (by decide +kernel) (Nat.le_of_ble_eq_true rfl) ?_
  refine zV.run kX3_divides 1 rfl ?_
  refine zV.if2 kX3_divides rfl (fun c => ?_) (fun c => ?_)
  · skip
    have c := (nI_leI (a := d) (b := 0) (by omega) (by omega)).mp c
    refine zV.run kX3_divides 1 rfl ?_
    exact zV.zret kX3_divides rfl rfl (Or.inl rfl) (⟨by rw [zq_f]; omega, rfl⟩)
  · skip
    have c := mt (nI_leI (a := d) (b := 0) (by omega) (by omega)).mpr c
    refine zV.run kX3_divides 2 rfl ?_
    refine zV.irem kX3_divides rfl (nI_ne0 (by omega) (by omega)) ?_
    rw [pk_rem (by omega) (by omega) (by omega)]
    have hm : k % d < d := Nat.mod_lt _ (by omega)
    refine zV.if2 kX3_divides rfl (fun c2 => ?_) (fun c2 => ?_)
    · skip
      have c2 : ¬ k % d = 0 := fun q => c2 (by rw [q]; rfl)
      refine zV.run kX3_divides 1 rfl ?_
      exact zV.zret kX3_divides rfl rfl (Or.inl rfl) (⟨by rw [zq_f (fun q => c2 q.2)], rfl⟩)
    · skip
      have c2 := (nI_eq (a := k % d) (b := 0) (by omega) (by omega)).mp (Decidable.not_not.mp c2)
      refine zV.run kX3_divides 2 rfl ?_
      exact zV.zret kX3_divides rfl rfl (Or.inr rfl) (⟨by rw [zq_t ⟨by omega, c2⟩], rfl⟩)
-- Euclid
def euc : Nat → Nat → Nat → Nat
  | 0, x, _ => x
  | f + 1, x, y => if y = 0 then x else euc f y (x % y)
theorem euc_gcd : ∀ (m f x y : Nat), y < 2 ^ m → 2 * m ≤ f → euc f x y = Nat.gcd x y
  | 0, f, x, y, hy, hf => by
    have e : y = 0 := by omega
    subst e
    cases f with
    | zero => simp [euc]
    | succ f => simp [euc]
  | m + 1, f, x, y, hy, hf => by
    obtain ⟨f2, rfl⟩ : ∃ f2, f = f2 + 2 := ⟨f - 2, by omega⟩
    by_cases h0 : y = 0
    · subst h0; simp [euc]
    · have g1 : Nat.gcd x y = Nat.gcd y (x % y) := by
        rw [Nat.gcd_comm x y, Nat.gcd_rec y x, Nat.gcd_comm]
      have r1 : x % y < y := Nat.mod_lt _ (by omega)
      show (if y = 0 then x else euc (f2 + 1) y (x % y)) = _
      rw [if_neg h0, g1]
      by_cases h1 : x % y = 0
      · rw [h1]; simp [euc]
      · have g2 : Nat.gcd y (x % y) = Nat.gcd (x % y) (y % (x % y)) := by
          rw [Nat.gcd_comm y, Nat.gcd_rec (x % y) y, Nat.gcd_comm]
        show (if x % y = 0 then y else euc f2 (x % y) (y % (x % y))) = _
        rw [if_neg h1, g2]
        refine euc_gcd m f2 _ _ ?_ (by omega)
        generalize x % y = r at *
        have r2 : y % r < r := Nat.mod_lt _ (by omega)
        have r3 : y % r + r ≤ y := by
          have e9 := Nat.div_add_mod y r
          have d1 : 1 ≤ y / r := (Nat.le_div_iff_mul_le (by omega)).mpr (by omega)
          have := Nat.mul_le_mul_left r d1
          omega
        rw [Nat.pow_succ] at hy
        omega
theorem o_commonDivisor_l (E : zE) (w : zWd) (a b : Int64) : ∀ (r i x y : Nat), i + r = 100 → x < 2 ^ 48 → y < 2 ^ 48 → ∀ v u, (v = zU ∨ ∃ z, v = .long z) → u = zU → zV E mX3_commonDivisor 0 (zR0 w (.long (lN (euc r x y)))) 9 [.long a, zU, .long b, zU, .long (lN x), zU, .long (lN y), zU, .int (nI i), v, u] [] w := by
  intro r
  induction r with
  | zero =>
    intro i x y hi hx hy v u hv hu
    subst hu
    have e : i = 100 := by omega
    subst e
    refine zV.run kX3_commonDivisor 2 rfl ?_
    refine zV.ict kX3_commonDivisor (cd := .ge) rfl (Int32.le_refl _) ?_
    refine zV.run kX3_commonDivisor 1 rfl ?_
    exact zV.lret kX3_commonDivisor rfl rfl (⟨rfl, rfl⟩)
  | succ r ih =>
    intro i x y hi hx hy v u hv hu
    subst hu
    refine zV.run kX3_commonDivisor 2 rfl ?_
    refine zV.icf kX3_commonDivisor (cd := .ge) rfl (fun q => absurd ((nI_leI (a := 100) (b := i) (by omega) (by omega)).mp q) (by omega)) ?_
    refine zV.run kX3_commonDivisor 2 rfl ?_
    refine zV.il2 kX3_commonDivisor rfl rfl (fun c => ?_) (fun c => ?_)
    · skip
      have c := (pk_lEQ (a := y) (b := 0) (by omega) (by omega)).mp c
      refine zV.run kX3_commonDivisor 1 rfl ?_
      exact zV.lret kX3_commonDivisor rfl rfl (⟨by show _ = some (Value.long (lN (if y = 0 then x else _))); rw [if_pos c], rfl⟩)
    · skip
      have c : ¬ y = 0 := fun q => c (by rw [q]; rfl)
      refine zV.run kX3_commonDivisor 2 rfl ?_
      refine zV.lrem kX3_commonDivisor rfl (fun q => c ((pk_lEQ (a := y) (b := 0) (by omega) (by omega)).mp q)) ?_
      rw [pk_lRem (by omega) (by omega) (by omega)]
      refine zV.run kX3_commonDivisor 7 rfl ?_
      rw [nI_1]
      have hm : x % y < y := Nat.mod_lt _ (by omega)
      have e : euc (r + 1) x y = euc r y (x % y) := if_neg c
      rw [e]
      exact ih (i + 1) y (x % y) (by omega) hy (by omega) _ _ (Or.inr ⟨_, rfl⟩) rfl
theorem o_commonDivisor (E : zE) (w : zWd) {a b : Nat} (ha : a < 2 ^ 48) (hb : b < 2 ^ 48) : zOk E mX3_commonDivisor 0 [.long (lN a), .long (lN b)] w (zR0 w (.long (lN (Nat.gcd a b)))) := by
  refine zOk.of (by decide +kernel) (Nat.le_of_ble_eq_true rfl) ?_
  refine zV.run kX3_commonDivisor 6 rfl ?_
  have K := o_commonDivisor_l E w (lN a) (lN b) 100 0 a b (by omega) ha hb zU zU (Or.inl rfl) rfl
  rw [euc_gcd 48 100 a b hb (by omega)] at K
  exact K
theorem o_lowestTerm (E : zE) (w : zWd) {a b : Nat} (ha : a < 2 ^ 48) (hb : b < 2 ^ 48) (hb0 : 0 < b) (what : Int32) : zOk E mX3_lowestTerm 1 [.long (lN a), .long (lN b), .int what] w (zR0 w (.long (lN ((if what = 0 then a else b) / Nat.gcd a b)))) := by
  have hg0 : 0 < Nat.gcd a b := Nat.gcd_pos_of_pos_right _ hb0
  have hgb : Nat.gcd a b ≤ b := Nat.gcd_le_right _ hb0
  have hne : ¬ lN (Nat.gcd a b) = 0 := fun q => absurd ((pk_lEQ (a := Nat.gcd a b) (b := 0) (by omega) (by omega)).mp q) (by omega)
  refine zOk.of (by decide +kernel) (Nat.le_of_ble_eq_true rfl) ?_
  refine zV.run kX3_lowestTerm 2 rfl ?_
  refine zV.cs kX3_lowestTerm rfl lX3_176 (o_commonDivisor E w ha hb) (by decide) rfl rfl (Nat.le_of_ble_eq_true rfl) ?_
  rintro _ _ ⟨rfl, rfl⟩
  refine zV.run kX3_lowestTerm 3 rfl ?_
  refine zV.ilt kX3_lowestTerm (cd := .ne) rfl rfl (hne) ?_
  refine zV.run kX3_lowestTerm 1 rfl ?_
  refine zV.if2 kX3_lowestTerm rfl (fun c => ?_) (fun c => ?_)
  · skip
    have c : ¬ what = 0 := c
    refine zV.run kX3_lowestTerm 2 rfl ?_
    refine zV.ldiv kX3_lowestTerm rfl (hne) ?_
    rw [pk_lDiv (by omega) hg0 (by omega)]
    exact zV.lret kX3_lowestTerm rfl rfl (⟨by rw [if_neg c], rfl⟩)
  · skip
    have c : what = 0 := Decidable.not_not.mp c
    refine zV.run kX3_lowestTerm 3 rfl ?_
    refine zV.ldiv kX3_lowestTerm rfl (hne) ?_
    rw [pk_lDiv (by omega) hg0 (by omega)]
    exact zV.lret kX3_lowestTerm rfl rfl (⟨by rw [if_pos c], rfl⟩)
-- the order of forcing
def oddf : Nat → Nat → Nat
  | 0, o => o
  | f + 1, o => if o % 2 = 0 then oddf f (o / 2) else o
def cah (p q : Nat) : Bool :=
  if oddf 64 p = 1 ∧ oddf 64 q = 1 then decide (q < p)
  else if oddf 64 p = 1 ∨ oddf 64 q = 1 then decide (oddf 64 q = 1)
  else if p / oddf 64 p = q / oddf 64 q then decide (oddf 64 p < oddf 64 q) else decide (p / oddf 64 p < q / oddf 64 q)
theorem oddf_le : ∀ f o, oddf f o ≤ o
  | 0, o => Nat.le_refl _
  | f + 1, o => by
    unfold oddf
    split
    · have := oddf_le f (o / 2); omega
    · omega
theorem bt_two : ∀ p, p < 65 → 0 < p → nI p &&& -nI p = nI (p / oddf 64 p) := by decide +kernel
theorem o_oddPart_l (E : zE) (w : zWd) (p : Int32) : ∀ (r i o : Nat), i + r = 64 → o < 1000 → zV E mX3_oddPart 0 (zR0 w (.int (nI (oddf r o)))) 4 [.int p, .int (nI o), .int (nI i)] [] w := by
  intro r
  induction r with
  | zero =>
    intro i o hi ho
    have e : i = 64 := by omega
    subst e
    refine zV.run kX3_oddPart 2 rfl ?_
    refine zV.ict kX3_oddPart (cd := .ge) rfl (Int32.le_refl _) ?_
    refine zV.run kX3_oddPart 1 rfl ?_
    exact zV.iret kX3_oddPart rfl rfl (⟨rfl, rfl⟩)
  | succ r ih =>
    intro i o hi ho
    have e2 : nI o / 2 = nI (o / 2) := pk_div (d := 2) (by omega) (by decide) (by decide)
    have e3 : nI o - nI o / 2 * 2 = nI (o % 2) := pk_rem (d := 2) (by omega) (by decide) (by decide)
    refine zV.run kX3_oddPart 2 rfl ?_
    refine zV.icf kX3_oddPart (cd := .ge) rfl (fun q => absurd ((nI_leI (a := 64) (b := i) (by omega) (by omega)).mp q) (by omega)) ?_
    refine zV.run kX3_oddPart 2 rfl ?_
    refine zV.irem kX3_oddPart rfl (by decide) ?_
    rw [e3]
    refine zV.if2 kX3_oddPart rfl (fun c => ?_) (fun c => ?_)
    · skip
      have c : ¬ o % 2 = 0 := fun q => c (by rw [q]; rfl)
      have e : oddf (r + 1) o = o := if_neg c
      refine zV.run kX3_oddPart 1 rfl ?_
      exact zV.iret kX3_oddPart rfl rfl (⟨by rw [e], rfl⟩)
    · skip
      have c := (nI_eq (a := o % 2) (b := 0) (by omega) (by omega)).mp (Decidable.not_not.mp c)
      have e : oddf (r + 1) o = oddf r (o / 2) := if_pos c
      refine zV.run kX3_oddPart 2 rfl ?_
      refine zV.idiv kX3_oddPart rfl (by decide) ?_
      rw [e2]
      refine zV.run kX3_oddPart 3 rfl ?_
      rw [nI_1, e]
      exact ih (i + 1) (o / 2) (by omega) (by omega)
theorem o_oddPart (E : zE) (w : zWd) {p : Nat} (hp : p < 1000) : zOk E mX3_oddPart 0 [.int (nI p)] w (zR0 w (.int (nI (oddf 64 p)))) := by
  refine zOk.of (by decide +kernel) (Nat.le_of_ble_eq_true rfl) ?_
  refine zV.run kX3_oddPart 4 rfl ?_
  exact o_oddPart_l E w (nI p) 64 0 p (by omega) hp
theorem o_comesAhead (E : zE) (w : zWd) {p q : Nat} (hp : p < 65) (hp0 : 0 < p) (hq : q < 65) (hq0 : 0 < q) : zOk E mX3_comesAhead 1 [.int (nI p), .int (nI q)] w (zR0 w (.int (zq (cah p q = true)))) := by
  have o1 := oddf_le 64 p
  have o2 := oddf_le 64 q
  have t1 := bt_two p hp hp0
  have t2 := bt_two q hq hq0
  have d1 : p / oddf 64 p ≤ p := Nat.div_le_self _ _
  have d2 : q / oddf 64 q ≤ q := Nat.div_le_self _ _
  have n1 : ∀ x, x < 65 → (nI x = 1 ↔ x = 1) := fun x hx => nI_eq (a := x) (b := 1) (by omega) (by omega)
  refine zOk.of (by decide +kernel) (Nat.le_of_ble_eq_true rfl) ?_
  refine zV.run kX3_comesAhead 1 rfl ?_
  refine zV.cs kX3_comesAhead rfl lX3_179 (o_oddPart E w (by omega)) (by decide) rfl rfl (Nat.le_of_ble_eq_true rfl) ?_
  rintro _ _ ⟨rfl, rfl⟩
  refine zV.run kX3_comesAhead 2 rfl ?_
  refine zV.cs kX3_comesAhead rfl lX3_179 (o_oddPart E w (by omega)) (by decide) rfl rfl (Nat.le_of_ble_eq_true rfl) ?_
  rintro _ _ ⟨rfl, rfl⟩
  have part2 : ¬ (oddf 64 p = 1 ∧ oddf 64 q = 1) → zV E mX3_comesAhead 1 (zR0 w (.int (zq (cah p q = true)))) 31 [.int (nI p), .int (nI q), .int (nI (oddf 64 p)), .int (nI (oddf 64 q)), zU, zU] [] w := by
    intro hn
    have part3 : (oddf 64 p = 1 ∨ oddf 64 q = 1) → zV E mX3_comesAhead 1 (zR0 w (.int (zq (cah p q = true)))) 41 [.int (nI p), .int (nI q), .int (nI (oddf 64 p)), .int (nI (oddf 64 q)), zU, zU] [] w := by
      intro hy
      have e : cah p q = decide (oddf 64 q = 1) := by unfold cah; rw [if_neg hn, if_pos hy]
      rw [e]
      refine zV.run kX3_comesAhead 2 rfl ?_
      refine zV.ic2 kX3_comesAhead rfl (fun c => ?_) (fun c => ?_)
      · skip
        have c := mt (n1 (oddf 64 q) (by omega)).mpr c
        refine zV.run kX3_comesAhead 1 rfl ?_
        exact zV.zret kX3_comesAhead rfl rfl (Or.inl rfl) (⟨by rw [zq_f]; simpa using c, rfl⟩)
      · skip
        have c := (n1 (oddf 64 q) (by omega)).mp (Decidable.not_not.mp c)
        refine zV.run kX3_comesAhead 2 rfl ?_
        exact zV.zret kX3_comesAhead rfl rfl (Or.inr rfl) (⟨by rw [zq_t]; simpa using c, rfl⟩)
    refine zV.run kX3_comesAhead 2 rfl ?_
    refine zV.ic2 kX3_comesAhead rfl (fun c => ?_) (fun c => ?_)
    · skip
      have c := (n1 (oddf 64 p) (by omega)).mp c
      exact part3 (Or.inl c)
    · skip
      have c := mt (n1 (oddf 64 p) (by omega)).mpr c
      refine zV.run kX3_comesAhead 2 rfl ?_
      refine zV.ic2 kX3_comesAhead rfl (fun c2 => ?_) (fun c2 => ?_)
      · skip
        have c2 := mt (n1 (oddf 64 q) (by omega)).mpr c2
        have e : cah p q = if p / oddf 64 p = q / oddf 64 q then decide (oddf 64 p < oddf 64 q) else decide (p / oddf 64 p < q / oddf 64 q) := by unfold cah; rw [if_neg hn, if_neg (fun z => z.elim c c2)]
        rw [e]
        refine zV.run kX3_comesAhead 12 rfl ?_
        rw [t1, t2]
        refine zV.ic2 kX3_comesAhead rfl (fun c3 => ?_) (fun c3 => ?_)
        · skip
          have c3 := mt (nI_eq (a := p / oddf 64 p) (b := q / oddf 64 q) (by omega) (by omega)).mpr c3
          rw [if_neg c3]
          refine zV.run kX3_comesAhead 2 rfl ?_
          refine zV.ic2 kX3_comesAhead rfl (fun c4 => ?_) (fun c4 => ?_)
          · skip
            have c4 := (nI_leI (by omega) (by omega)).mp c4
            refine zV.run kX3_comesAhead 1 rfl ?_
            exact zV.zret kX3_comesAhead rfl rfl (Or.inl rfl) (⟨by rw [zq_f]; simp; omega, rfl⟩)
          · skip
            have c4 := mt (nI_leI (a := q / oddf 64 q) (b := p / oddf 64 p) (by omega) (by omega)).mpr c4
            refine zV.run kX3_comesAhead 2 rfl ?_
            exact zV.zret kX3_comesAhead rfl rfl (Or.inr rfl) (⟨by rw [zq_t]; simp; omega, rfl⟩)
        · skip
          have c3 := (nI_eq (by omega) (by omega)).mp (Decidable.not_not.mp c3)
          rw [if_pos c3]
          refine zV.run kX3_comesAhead 2 rfl ?_
          refine zV.ic2 kX3_comesAhead rfl (fun c4 => ?_) (fun c4 => ?_)
          · skip
            have c4 := (nI_leI (by omega) (by omega)).mp c4
            refine zV.run kX3_comesAhead 2 rfl ?_
            exact zV.zret kX3_comesAhead rfl rfl (Or.inl rfl) (⟨by rw [zq_f]; simp; omega, rfl⟩)
          · skip
            have c4 := mt (nI_leI (a := oddf 64 q) (b := oddf 64 p) (by omega) (by omega)).mpr c4
            refine zV.run kX3_comesAhead 2 rfl ?_
            exact zV.zret kX3_comesAhead rfl rfl (Or.inr rfl) (⟨by rw [zq_t]; simp; omega, rfl⟩)
      · skip
        have c2 := (n1 (oddf 64 q) (by omega)).mp (Decidable.not_not.mp c2)
        exact part3 (Or.inr c2)
  refine zV.run kX3_comesAhead 3 rfl ?_
  refine zV.ic2 kX3_comesAhead rfl (fun c => ?_) (fun c => ?_)
  · skip
    have c := mt (n1 (oddf 64 p) (by omega)).mpr c
    exact part2 (fun z => c z.1)
  · skip
    have c := (n1 (oddf 64 p) (by omega)).mp (Decidable.not_not.mp c)
    refine zV.run kX3_comesAhead 2 rfl ?_
    refine zV.ic2 kX3_comesAhead rfl (fun c2 => ?_) (fun c2 => ?_)
    · skip
      have c2 := mt (n1 (oddf 64 q) (by omega)).mpr c2
      exact part2 (fun z => c2 z.2)
    · skip
      have c2 := (n1 (oddf 64 q) (by omega)).mp (Decidable.not_not.mp c2)
      have e : cah p q = decide (q < p) := by unfold cah; rw [if_pos ⟨c, c2⟩]
      rw [e]
      refine zV.run kX3_comesAhead 2 rfl ?_
      refine zV.ic2 kX3_comesAhead rfl (fun c3 => ?_) (fun c3 => ?_)
      · skip
        have c3 := (nI_leI (by omega) (by omega)).mp c3
        refine zV.run kX3_comesAhead 1 rfl ?_
        exact zV.zret kX3_comesAhead rfl rfl (Or.inl rfl) (⟨by rw [zq_f]; simp; omega, rfl⟩)
      · skip
        have c3 := mt (nI_leI (a := p) (b := q) (by omega) (by omega)).mpr c3
        refine zV.run kX3_comesAhead 2 rfl ?_
        exact zV.zret kX3_comesAhead rfl rfl (Or.inr rfl) (⟨by rw [zq_t]; simp; omega, rfl⟩)
