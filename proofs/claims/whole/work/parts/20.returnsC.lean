/-! ===== Returns: the i-th point ===== -/
def dv (d k : Nat) : Bool := decide (0 < d ∧ k % d = 0)
def stl (a b : Int) : Option (Int × Int) := if b = 0 then none else some (if b < 0 then -a else a, if 0 < b then b else -b)
def fst1 (ld : Nat → Nat) (k i : Nat) : Int := if dv (eps ld (2 * i)).1 k = true then 1 else 0
def lst1 (ld : Nat → Nat) (k i : Nat) : Int := if dv (eps ld (2 * i + 1)).1 k = true then 1 else 0
def ins (n : Nat) (ld : Nat → Nat) (k i : Nat) : Int := (tp n ld k i i : Int) - fst1 ld k i - lst1 ld k i
def nsf (n : Nat) (ld : Nat → Nat) (c home rest : Nat) (up : Bool) : Nat → Nat → Int → Int × Int
  | 0, _, t => (-1, t)
  | r + 1, q, t => if t < (if cov ld c (if up = true then q else n - 1 - q) = true then (tp n ld rest (if up = true then q else n - 1 - q) home : Int) else 0) then (((if up = true then q else n - 1 - q : Nat) : Int), t) else nsf n ld c home rest up r (q + 1) (t - (if cov ld c (if up = true then q else n - 1 - q) = true then (tp n ld rest (if up = true then q else n - 1 - q) home : Int) else 0))
def wkf (n : Nat) (ld : Nat → Nat) (home : Nat) : Nat → Nat → Int → Int → Int → Option (Int × Int)
  | 0, _, S, F, _ => stl F (1 - S)
  | r + 1, c, S, F, t => if (nsf n ld c home r (decide (0 < S * sl ld c)) n 0 t).1 = -1 then none else wkf n ld home r (nsf n ld c home r (decide (0 < S * sl ld c)) n 0 t).1.toNat (S * sl ld c) (sl ld c * F + ld c - sl ld c * c) (nsf n ld c home r (decide (0 < S * sl ld c)) n 0 t).2
def fdf (n : Nat) (ld : Nat → Nat) (k : Nat) : Nat → Nat → Int → Option (Int × Int)
  | 0, _, _ => none
  | r + 1, i, t => if dv (sor n ld i) k = true ∧ t = 0 then stl i 1
    else if i < n ∧ t - (if dv (sor n ld i) k = true then 1 else 0) < ins n ld k i then wkf n ld i k i 1 0 (t - (if dv (sor n ld i) k = true then 1 else 0) + fst1 ld k i)
    else fdf n ld k r (i + 1) (if i < n then t - (if dv (sor n ld i) k = true then 1 else 0) - ins n ld k i else t - (if dv (sor n ld i) k = true then 1 else 0))
theorem mul5 {S s B : Int} (h1 : -5 ≤ s) (h2 : s ≤ 5) (h3 : -B ≤ S) (h4 : S ≤ B) : -(5 * B) ≤ S * s ∧ S * s ≤ 5 * B := by
  have h : s = -5 ∨ s = -4 ∨ s = -3 ∨ s = -2 ∨ s = -1 ∨ s = 0 ∨ s = 1 ∨ s = 2 ∨ s = 3 ∨ s = 4 ∨ s = 5 := by omega
  rcases h with rfl | rfl | rfl | rfl | rfl | rfl | rfl | rfl | rfl | rfl | rfl <;> omega
/-- the cells of Returns with what was found -/
def zFd (w0 w' : zWd) (n : Nat) (ld : Nat → Nat) (o : Option (Int × Int)) : Prop := (∀ a, a ≠ 31 → w' a = w0 a) ∧ ∃ tq fa fb : Int64, zIs w' 31 (zOb 2 [.ref 32, .ref 45, .ref 46, .ref 47, .ref 48, .int (nI n), .long tq, .long fa, .long fb]) ∧ ∀ p, o = some p → fa = lI p.1 ∧ fb = lI p.2
def zR1 (w : zWd) (n : Nat) (tq fa fb : Int64) : Prop := zIs w 31 (zOb 2 [.ref 32, .ref 45, .ref 46, .ref 47, .ref 48, .int (nI n), .long tq, .long fa, .long fb])
theorem o_settle (E : zE) {w : zWd} {n : Nat} {tq fa fb : Int64} {ld : Nat → Nat} (hR : zR1 w n tq fa fb) {a b : Int} (ha : -1000000000000 ≤ a) (ha2 : a ≤ 1000000000000) (hb : -1000000000000 ≤ b) (hb2 : b ≤ 1000000000000) : zOk E mX2_settle 1 [.ref 31, .long (lI a), .long (lI b)] w (fun r w' => r = some (.int (zq ((stl a b).isSome = true))) ∧ zFd w w' n ld (stl a b)) := by
  have hR : zIs w 31 (zOb 2 [.ref 32, .ref 45, .ref 46, .ref 47, .ref 48, .int (nI n), .long tq, .long fa, .long fb]) := hR
  refine zOk.of (by decide +kernel) (Nat.le_of_ble_eq_true rfl) ?_
  refine zV.run kX2_settle 2 rfl ?_
  refine zV.il2 kX2_settle rfl rfl (fun c => ?_) (fun c => ?_)
  · skip
    have c : ¬ b = 0 := fun q => c (by rw [q]; rfl)
    have ab : (if (0 : Int64) < lI b then lI b else -lI b) = lI (if 0 < b then b else -b) := by
      rw [show (0 : Int64) = lI 0 from rfl]
      by_cases q : 0 < b
      · rw [if_pos ((lI_lt (by omega) (by omega) (by omega) (by omega)).mpr q), if_pos q]
      · rw [if_neg (fun z => q ((lI_lt (by omega) (by omega) (by omega) (by omega)).mp z)), if_neg q, lI_neg]
    have es : stl a b = some (if b < 0 then -a else a, if 0 < b then b else -b) := if_neg c
    refine zV.run kX2_settle 3 rfl ?_
    refine zV.il2 kX2_settle rfl rfl (fun c2 => ?_) (fun c2 => ?_)
    · skip
      have c2 := (lI_le (a := 0) (b := b) (by omega) (by omega) (by omega) (by omega)).mp c2
      refine zV.run kX2_settle 1 rfl ?_
      refine zV.pfl kX2_settle rfl pX2_107 (hR) (Nat.le_of_ble_eq_true rfl) ?_
      refine zV.run kX2_settle 2 rfl ?_
      refine zV.abL kX2_settle rfl lX2_110 (by decide) (Nat.le_of_ble_eq_true rfl) ?_
      refine zV.pfl kX2_settle rfl pX2_37 (zIs.s hR.1) (Nat.le_of_ble_eq_true rfl) ?_
      rw [ab]
      rw [es]
      refine zV.run kX2_settle 1 rfl ?_
      exact zV.zret kX2_settle rfl rfl (Or.inr rfl) (⟨rfl, fun x hx => by rw [zup_ne hx, zup_ne hx], _, _, _, zIs.s hR.1, fun p hp => by cases hp; rw [if_neg (show ¬ b < 0 by omega)]; exact ⟨rfl, rfl⟩⟩)
    · skip
      have c2 := mt (lI_le (a := 0) (b := b) (by omega) (by omega) (by omega) (by omega)).mpr c2
      refine zV.run kX2_settle 3 rfl ?_
      refine zV.pfl kX2_settle rfl pX2_107 (hR) (Nat.le_of_ble_eq_true rfl) ?_
      refine zV.run kX2_settle 2 rfl ?_
      refine zV.abL kX2_settle rfl lX2_110 (by decide) (Nat.le_of_ble_eq_true rfl) ?_
      refine zV.pfl kX2_settle rfl pX2_37 (zIs.s hR.1) (Nat.le_of_ble_eq_true rfl) ?_
      rw [ab, lI_neg]
      rw [es]
      refine zV.run kX2_settle 1 rfl ?_
      exact zV.zret kX2_settle rfl rfl (Or.inr rfl) (⟨rfl, fun x hx => by rw [zup_ne hx, zup_ne hx], _, _, _, zIs.s hR.1, fun p hp => by cases hp; rw [if_pos (show b < 0 by omega)]; exact ⟨rfl, rfl⟩⟩)
  · skip
    have c := (lI_eq (a := b) (b := 0) (by omega) (by omega) (by omega) (by omega)).mp (Decidable.not_not.mp c)
    have es : stl a b = none := if_pos c
    rw [es]
    refine zV.run kX2_settle 1 rfl ?_
    exact zV.zret kX2_settle rfl rfl (Or.inl rfl) (⟨rfl, fun _ _ => rfl, _, _, _, hR, fun p hp => by cases hp⟩)
theorem o_isInside (E : zE) {w : zWd} {n : Nat} {ld : Nat → Nat} {t : Int} {fa fb : Int64} {cp ep es : Nat → Int32} {nw : Nat → Int64} {rw : Nat → Nat → Int64} (hR : zRt w n (lI t) fa fb cp ep es nw) (hP : zPw w 32 n rw) (hr : ∀ q a b, q ≤ 6 → a < n → b < n → rw q (5 * a + b) = lN (tp n ld q a b)) (hep : ∀ e, e < 2 * n → ep e = nI (eps ld e).1) (hn : n ≤ 5) {i k : Nat} (hi : i < n) (hk : k ≤ 6) (ht : -1000000000000 ≤ t) (ht2 : t ≤ 1000000000000) : zOk E mX2_isInside 1 [.ref 31, .int (nI i), .int (nI k)] w (fun r w' => r = some (.int (zq (t < ins n ld k i))) ∧ w' = va_up w 31 (zOb 2 [.ref 32, .ref 45, .ref 46, .ref 47, .ref 48, .int (nI n), .long (lI (if t < ins n ld k i then t + fst1 ld k i else t - ins n ld k i)), .long fa, .long fb])) := by
  obtain ⟨r1, r2, r3, r4, r5⟩ := id hR
  have x1 := hep (2 * i) (by omega)
  have x2 := hep (2 * i + 1) (by omega)
  have h71 := eps_le ld (2 * i)
  have h72 := eps_le ld (2 * i + 1)
  have htp := tp_le6 hn ld hk i i
  have i2 : (2 : Int32) * nI i = nI (2 * i) := pk_mul 2 i
  have tail : ∀ (a b : Int), a = fst1 ld k i → b = lst1 ld k i → 0 ≤ a → a ≤ 1 → 0 ≤ b → b ≤ 1 → zV E mX2_isInside 1 (fun r w' => r = some (.int (zq (t < ins n ld k i))) ∧ w' = va_up w 31 (zOb 2 [.ref 32, .ref 45, .ref 46, .ref 47, .ref 48, .int (nI n), .long (lI (if t < ins n ld k i then t + fst1 ld k i else t - ins n ld k i)), .long fa, .long fb])) 45 [.ref 31, .int (nI i), .int (nI k), .long (lI a), zU, .long (lI b), zU, zU, zU] [] w := by
    intro a b ha hb a0 a1 b0 b1
    have hin : ins n ld k i = (tp n ld k i i : Int) - a - b := by unfold ins; rw [ha, hb]
    refine zV.run kX2_isInside 1 rfl ?_
    refine zV.gf kX2_isInside rfl fX2_12 (r1) rfl ?_
    refine zV.run kX2_isInside 3 rfl ?_
    refine zV.cv kX2_isInside rfl lX2_93 (o_between E hP (i := i) (j := i) (k := k) (by omega) (by omega) (by omega)) (by decide) rfl (hP.1) rfl rfl rfl (Nat.le_of_ble_eq_true rfl) ?_
    rintro _ _ ⟨rfl, rfl⟩
    refine zV.run kX2_isInside 6 rfl ?_
    rw [hr k i i hk hi hi, lN_lI, lI_sub, lI_sub, ← hin]
    refine zV.gf kX2_isInside rfl fX2_79 (r1) rfl ?_
    refine zV.run kX2_isInside 1 rfl ?_
    refine zV.il2 kX2_isInside rfl rfl (fun c => ?_) (fun c => ?_)
    · skip
      have c := (lI_le (a := ins n ld k i) (b := t) (by omega) (by omega) (by omega) (by omega)).mp c
      refine zV.run kX2_isInside 2 rfl ?_
      refine zV.gf kX2_isInside rfl fX2_79 (r1) rfl ?_
      refine zV.run kX2_isInside 2 rfl ?_
      refine zV.pfl kX2_isInside rfl pX2_79 (r1) (Nat.le_of_ble_eq_true rfl) ?_
      rw [lI_sub]
      refine zV.run kX2_isInside 1 rfl ?_
      exact zV.zret kX2_isInside rfl rfl (Or.inl rfl) (⟨by rw [zq_f (by omega)], by rw [if_neg (by omega)]; rfl⟩)
    · skip
      have c := mt (lI_le (a := ins n ld k i) (b := t) (by omega) (by omega) (by omega) (by omega)).mpr c
      refine zV.run kX2_isInside 2 rfl ?_
      refine zV.gf kX2_isInside rfl fX2_79 (r1) rfl ?_
      refine zV.run kX2_isInside 2 rfl ?_
      refine zV.pfl kX2_isInside rfl pX2_79 (r1) (Nat.le_of_ble_eq_true rfl) ?_
      rw [lI_add]
      refine zV.run kX2_isInside 1 rfl ?_
      exact zV.zret kX2_isInside rfl rfl (Or.inr rfl) (⟨by rw [zq_t (by omega)], by rw [if_pos (by omega), ← ha]; rfl⟩)
  have mid : ∀ a : Int, a = fst1 ld k i → 0 ≤ a → a ≤ 1 → zV E mX2_isInside 1 (fun r w' => r = some (.int (zq (t < ins n ld k i))) ∧ w' = va_up w 31 (zOb 2 [.ref 32, .ref 45, .ref 46, .ref 47, .ref 48, .int (nI n), .long (lI (if t < ins n ld k i then t + fst1 ld k i else t - ins n ld k i)), .long fa, .long fb])) 21 [.ref 31, .int (nI i), .int (nI k), .long (lI a), zU, zU, zU, zU, zU] [] w := by
    intro a ha a0 a1
    refine zV.run kX2_isInside 1 rfl ?_
    refine zV.gf kX2_isInside rfl fX2_22 (r1) rfl ?_
    refine zV.run kX2_isInside 5 rfl ?_
    refine zV.ial kX2_isInside rfl (r3) (2 * i + 1) (by rw [i2, nI_1]) (by omega) (by decide) ?_
    rw [x2]
    refine zV.run kX2_isInside 1 rfl ?_
    refine zV.cn kX2_isInside rfl lX2_61 rfl (o_divides E w (d := (eps ld (2 * i + 1)).1) (k := k) (by omega) (by omega)) (by decide) rfl rfl (Nat.le_of_ble_eq_true rfl) ?_
    rintro _ _ ⟨rfl, rfl⟩
    refine zV.if2 kX2_isInside rfl (fun c => ?_) (fun c => ?_)
    · skip
      have c := zq_eq0.mp c
      refine zV.run kX2_isInside 2 rfl ?_
      exact tail a 0 ha (by unfold lst1 dv; simp [c]) a0 a1 (by omega) (by omega)
    · skip
      have c := Decidable.not_not.mp (mt zq_eq0.mpr c)
      refine zV.run kX2_isInside 3 rfl ?_
      exact tail a 1 ha (by unfold lst1 dv; simp [c]) a0 a1 (by omega) (by omega)
  refine zOk.of (by decide +kernel) (Nat.le_of_ble_eq_true rfl) ?_
  refine zV.run kX2_isInside 1 rfl ?_
  refine zV.gf kX2_isInside rfl fX2_22 (r1) rfl ?_
  refine zV.run kX2_isInside 3 rfl ?_
  refine zV.ial kX2_isInside rfl (r3) (2 * i) (i2) (by omega) (by decide) ?_
  rw [x1]
  refine zV.run kX2_isInside 1 rfl ?_
  refine zV.cn kX2_isInside rfl lX2_61 rfl (o_divides E w (d := (eps ld (2 * i)).1) (k := k) (by omega) (by omega)) (by decide) rfl rfl (Nat.le_of_ble_eq_true rfl) ?_
  rintro _ _ ⟨rfl, rfl⟩
  refine zV.if2 kX2_isInside rfl (fun c => ?_) (fun c => ?_)
  · skip
    have c := zq_eq0.mp c
    refine zV.run kX2_isInside 2 rfl ?_
    exact mid 0 (by unfold fst1 dv; simp [c]) (by omega) (by omega)
  · skip
    have c := Decidable.not_not.mp (mt zq_eq0.mpr c)
    refine zV.run kX2_isInside 3 rfl ?_
    exact mid 1 (by unfold fst1 dv; simp [c]) (by omega) (by omega)
