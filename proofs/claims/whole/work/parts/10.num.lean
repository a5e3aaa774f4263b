/-! ===== numbers: Int32 and Int64 as wrapped integers ===== -/
def iI (z : Int) : Int32 := Int32.ofInt z
def lI (z : Int) : Int64 := Int64.ofInt z
theorem iI_add (a b : Int) : iI a + iI b = iI (a + b) := (Int32.ofInt_add a b).symm
theorem iI_sub (a b : Int) : iI a - iI b = iI (a - b) := (Int32.ofInt_sub a b).symm
theorem iI_mul (a b : Int) : iI a * iI b = iI (a * b) := (Int32.ofInt_mul a b).symm
theorem iI_neg (a : Int) : -iI a = iI (-a) := (Int32.ofInt_neg a).symm
theorem lI_add (a b : Int) : lI a + lI b = lI (a + b) := (Int64.ofInt_add a b).symm
theorem lI_sub (a b : Int) : lI a - lI b = lI (a - b) := (Int64.ofInt_sub a b).symm
theorem lI_mul (a b : Int) : lI a * lI b = lI (a * b) := (Int64.ofInt_mul a b).symm
theorem lI_neg (a : Int) : -lI a = lI (-a) := (Int64.ofInt_neg a).symm
theorem iI_t {z : Int} (h1 : -2147483648 ≤ z) (h2 : z < 2147483648) : (iI z).toInt = z := Int32.toInt_ofInt_of_le (by omega) (by omega)
theorem lI_t {z : Int} (h1 : -9223372036854775808 ≤ z) (h2 : z < 9223372036854775808) : (lI z).toInt = z := Int64.toInt_ofInt_of_le (by omega) (by omega)
theorem nI_iI (n : Nat) : nI n = iI (n : Int) := (Int32.ofInt_eq_ofNat).symm
theorem lN_lI (n : Nat) : lN n = lI (n : Int) := (Int64.ofInt_eq_ofNat).symm
theorem iI_lt {a b : Int} (h1 : -2147483648 ≤ a) (h2 : a < 2147483648) (h3 : -2147483648 ≤ b) (h4 : b < 2147483648) : iI a < iI b ↔ a < b := by
  rw [Int32.lt_iff_toInt_lt, iI_t h1 h2, iI_t h3 h4]
theorem iI_le {a b : Int} (h1 : -2147483648 ≤ a) (h2 : a < 2147483648) (h3 : -2147483648 ≤ b) (h4 : b < 2147483648) : iI a ≤ iI b ↔ a ≤ b := by
  rw [Int32.le_iff_toInt_le, iI_t h1 h2, iI_t h3 h4]
theorem iI_eq {a b : Int} (h1 : -2147483648 ≤ a) (h2 : a < 2147483648) (h3 : -2147483648 ≤ b) (h4 : b < 2147483648) : iI a = iI b ↔ a = b := by
  rw [← Int32.toInt_inj, iI_t h1 h2, iI_t h3 h4]
theorem lI_lt {a b : Int} (h1 : -9223372036854775808 ≤ a) (h2 : a < 9223372036854775808) (h3 : -9223372036854775808 ≤ b) (h4 : b < 9223372036854775808) : lI a < lI b ↔ a < b := by
  rw [Int64.lt_iff_toInt_lt, lI_t h1 h2, lI_t h3 h4]
theorem lI_le {a b : Int} (h1 : -9223372036854775808 ≤ a) (h2 : a < 9223372036854775808) (h3 : -9223372036854775808 ≤ b) (h4 : b < 9223372036854775808) : lI a ≤ lI b ↔ a ≤ b := by
  rw [Int64.le_iff_toInt_le, lI_t h1 h2, lI_t h3 h4]
theorem lI_eq {a b : Int} (h1 : -9223372036854775808 ≤ a) (h2 : a < 9223372036854775808) (h3 : -9223372036854775808 ≤ b) (h4 : b < 9223372036854775808) : lI a = lI b ↔ a = b := by
  rw [← Int64.toInt_inj, lI_t h1 h2, lI_t h3 h4]
theorem iI_l {z : Int} (h1 : -2147483648 ≤ z) (h2 : z < 2147483648) : (iI z).toInt64 = lI z := by
  rw [← Int64.toInt_inj, Int32.toInt_toInt64, iI_t h1 h2, lI_t (by omega) (by omega)]
theorem lI_i (z : Int) : (lI z).toInt32 = iI z := Int64.toInt32_ofInt
theorem iI_of (x : Int32) : x = iI x.toInt := (Int32.ofInt_toInt x).symm
theorem lI_of (x : Int64) : x = lI x.toInt := (Int64.ofInt_toInt x).symm
theorem iI_rg (x : Int32) : -2147483648 ≤ x.toInt ∧ x.toInt < 2147483648 := ⟨Int32.le_toInt x, Int32.toInt_lt x⟩
theorem lI_rg (x : Int64) : -9223372036854775808 ≤ x.toInt ∧ x.toInt < 9223372036854775808 := ⟨Int64.le_toInt x, Int64.toInt_lt x⟩
theorem lI_div {a b : Int} (h1 : 0 ≤ a) (h2 : a < 9223372036854775808) (h3 : 0 < b) (h4 : b < 9223372036854775808) : lI a / lI b = lI (a / b) := by
  have h := Int64.ofInt_tdiv (a := a) (b := b) (by have : Int64.minValue.toInt = -9223372036854775808 := by decide
                                                   omega) (by have : Int64.maxValue.toInt = 9223372036854775807 := by decide
                                                              omega) (by have : Int64.minValue.toInt = -9223372036854775808 := by decide
                                                                         omega) (by have : Int64.maxValue.toInt = 9223372036854775807 := by decide
                                                                                    omega)
  rw [Int.tdiv_eq_ediv_of_nonneg h1] at h
  exact h.symm
theorem lI_rem {a b : Int} (h1 : 0 ≤ a) (h2 : a < 9223372036854775808) (h3 : 0 < b) (h4 : b < 9223372036854775808) : lI a - lI a / lI b * lI b = lI (a % b) := by
  rw [lI_div h1 h2 h3 h4, lI_mul, lI_sub, Int.emod_def, Int.mul_comm b]
theorem iI_div {a b : Int} (h1 : 0 ≤ a) (h2 : a < 2147483648) (h3 : 0 < b) (h4 : b < 2147483648) : iI a / iI b = iI (a / b) := by
  have h := Int32.ofInt_tdiv (a := a) (b := b) (by have : Int32.minValue.toInt = -2147483648 := by decide
                                                   omega) (by have : Int32.maxValue.toInt = 2147483647 := by decide
                                                              omega) (by have : Int32.minValue.toInt = -2147483648 := by decide
                                                                         omega) (by have : Int32.maxValue.toInt = 2147483647 := by decide
                                                                                    omega)
  rw [Int.tdiv_eq_ediv_of_nonneg h1] at h
  exact h.symm
theorem iI_rem {a b : Int} (h1 : 0 ≤ a) (h2 : a < 2147483648) (h3 : 0 < b) (h4 : b < 2147483648) : iI a - iI a / iI b * iI b = iI (a % b) := by
  rw [iI_div h1 h2 h3 h4, iI_mul, iI_sub, Int.emod_def, Int.mul_comm b]
-- comparisons by what the two sides are
theorem zlt {x y : Int32} (a b : Int) (hx : x = iI a) (hy : y = iI b) (h1 : -2147483648 ≤ a) (h2 : a < 2147483648) (h3 : -2147483648 ≤ b) (h4 : b < 2147483648) : x < y ↔ a < b := by
  rw [hx, hy]; exact iI_lt h1 h2 h3 h4
theorem zle {x y : Int32} (a b : Int) (hx : x = iI a) (hy : y = iI b) (h1 : -2147483648 ≤ a) (h2 : a < 2147483648) (h3 : -2147483648 ≤ b) (h4 : b < 2147483648) : x ≤ y ↔ a ≤ b := by
  rw [hx, hy]; exact iI_le h1 h2 h3 h4
theorem zeq {x y : Int32} (a b : Int) (hx : x = iI a) (hy : y = iI b) (h1 : -2147483648 ≤ a) (h2 : a < 2147483648) (h3 : -2147483648 ≤ b) (h4 : b < 2147483648) : x = y ↔ a = b := by
  rw [hx, hy]; exact iI_eq h1 h2 h3 h4
theorem i32_lt {x y : Int32} : x < y ↔ x.toInt < y.toInt := Int32.lt_iff_toInt_lt
theorem i32_le {x y : Int32} : x ≤ y ↔ x.toInt ≤ y.toInt := Int32.le_iff_toInt_le
theorem i64_lt {x y : Int64} : x < y ↔ x.toInt < y.toInt := Int64.lt_iff_toInt_lt
theorem i64_le {x y : Int64} : x ≤ y ↔ x.toInt ≤ y.toInt := Int64.le_iff_toInt_le
-- truth values
def zq (p : Prop) [Decidable p] : Int32 := if p then 1 else 0
theorem zq_t {p : Prop} [Decidable p] (h : p) : zq p = 1 := if_pos h
theorem zq_f {p : Prop} [Decidable p] (h : ¬ p) : zq p = 0 := if_neg h
theorem zq01 (p : Prop) [Decidable p] : zq p = 0 ∨ zq p = 1 := by
  by_cases h : p
  · right; exact zq_t h
  · left; exact zq_f h
theorem zq_eq0 {p : Prop} [Decidable p] : zq p = 0 ↔ ¬ p := by
  by_cases h : p
  · rw [zq_t h]; exact ⟨fun e => absurd e (by decide), fun e => absurd h e⟩
  · rw [zq_f h]; exact ⟨fun _ => h, fun _ => rfl⟩
theorem zq_c {p q : Prop} [Decidable p] [Decidable q] (h : p ↔ q) : zq p = zq q := by
  by_cases hp : p
  · rw [zq_t hp, zq_t (h.mp hp)]
  · rw [zq_f hp, zq_f (fun x => hp (h.mpr x))]
abbrev zR0 (w : zWd) (v : Value) : Option Value → zWd → Prop := fun r w' => r = some v ∧ w = w'
-- one map's cells
def zFo (w : zWd) (f g n : Nat) (ld : Nat → Nat) : Prop := ∃ led : Nat → Int32, zIs w f (zOb 0 [.int (nI n), .ref g]) ∧ zIs w g (zIA 6 led) ∧ (∀ i, i ≤ n → led i = nI (ld i)) ∧ 1 ≤ n ∧ n ≤ 5 ∧ (∀ i, i ≤ n → ld i ≤ n)
def sl (ld : Nat → Nat) (i : Nat) : Int := (ld (i + 1) : Int) - (ld i : Int)
