/-! ===== the model: sets of spans ===== -/
def spj (ld : Nat → Nat) (S i acc : Nat) : Nat → Nat
  | 0 => acc
  | j + 1 => spj ld S i acc j ||| (if S.testBit i = true ∧ cov ld i j = true then 2 ^ j else 0)
def spi (n : Nat) (ld : Nat → Nat) (S : Nat) : Nat → Nat
  | 0 => 0
  | i + 1 => spj ld S i (spi n ld S i) n
theorem tb_sub {m M : Nat} (h : m ≤ M) (q : Nat) : (2 ^ M - 2 ^ m).testBit q = (decide (m ≤ q) && decide (q < M)) := by
  have e : 2 ^ M - 2 ^ m = (2 ^ (M - m) - 1) <<< m := by
    rw [Nat.shiftLeft_eq, Nat.sub_mul, Nat.one_mul, ← Nat.pow_add, Nat.sub_add_cancel h]
  rw [e, Nat.testBit_shiftLeft, Nat.testBit_two_pow_sub_one]
  by_cases h1 : m ≤ q
  · simp only [h1, decide_true, Bool.true_and]
    congr 1
    apply propext
    omega
  · simp [h1]
theorem spj_tb (ld : Nat → Nat) (S i acc q : Nat) : ∀ J, (spj ld S i acc J).testBit q = (acc.testBit q || (decide (q < J) && (S.testBit i && cov ld i q)))
  | 0 => by simp [spj]
  | J + 1 => by
    show (spj ld S i acc J ||| _).testBit q = _
    rw [Nat.testBit_or, spj_tb ld S i acc q J]
    by_cases e : q = J
    · subst e
      by_cases c : S.testBit i = true ∧ cov ld i q = true
      · simp [c.1, c.2]
      · rw [if_neg c, Nat.zero_testBit]
        have : (S.testBit i && cov ld i q) = false := by
          cases h1 : S.testBit i <;> cases h2 : cov ld i q <;> simp_all
        simp [this]
    · have e2 : (if S.testBit i = true ∧ cov ld i J = true then 2 ^ J else 0).testBit q = false := by
        split
        · rw [Nat.testBit_two_pow]; simp; omega
        · exact Nat.zero_testBit q
      rw [e2, Bool.or_false]
      congr 2
      apply decide_eq_decide.mpr
      omega
theorem spj_eq {n : Nat} {ld : Nat → Nat} (hl : ∀ i, i ≤ n → ld i ≤ n) (S acc : Nat) {i : Nat} (hi : i < n) : spj ld S i acc n = if S.testBit i = true then acc ||| (2 ^ max (ld i) (ld (i + 1)) - 2 ^ min (ld i) (ld (i + 1))) else acc := by
  apply Nat.eq_of_testBit_eq
  intro q
  rw [spj_tb]
  have l1 := hl i (by omega)
  have l2 := hl (i + 1) (by omega)
  by_cases c : S.testBit i = true
  · rw [if_pos c, Nat.testBit_or, tb_sub (by omega), c, Bool.true_and]
    congr 1
    unfold cov
    by_cases hq : q < n
    · simp [hq]
    · have h1 : ¬ q < max (ld i) (ld (i + 1)) := by omega
      simp [hq, h1]
  · simp only [Bool.not_eq_true] at c
    simp [c]
theorem spi_eq {n : Nat} {ld : Nat → Nat} (hl : ∀ i, i ≤ n → ld i ≤ n) (S : Nat) : ∀ i, i ≤ n → spi n ld S i = sAf ld S i
  | 0, _ => rfl
  | i + 1, h => by
    show spj ld S i (spi n ld S i) n = _
    rw [spi_eq hl S i (by omega), spj_eq hl S _ (by omega)]
    rfl
theorem spj_lt {n : Nat} (ld : Nat → Nat) (S i : Nat) {acc : Nat} (ha : acc < 2 ^ n) : ∀ J, J ≤ n → spj ld S i acc J < 2 ^ n
  | 0, _ => ha
  | J + 1, h => by
    refine Nat.or_lt_two_pow (spj_lt ld S i ha J (by omega)) ?_
    split
    · exact Nat.pow_lt_pow_right (by decide) (by omega)
    · exact Nat.two_pow_pos n
theorem n_spread_2 (E : zE) {w : zWd} {σ : zSt} {ab be : Int64} {rm en ej : Int32} {Post : Option Value → zWd → Prop} (h0 : zIs w 49 (zMo ab be rm en ej)) (hc : zMc w σ) {m i S acc : Nat} (hm : m < 8) (hi : i < σ.1 m) (hS : S < 64) (ha : acc < 2 ^ σ.1 m)
    (kk : ∀ z5 : Value, zV E mX4_spread 1 Post 70 [.ref 49, .int (nI m), .int (nI S), .int (nI (spj (σ.2 m) S i acc (σ.1 m))), .int (nI i), z5] [] w) :
    ∀ (r j : Nat), j + r = σ.1 m → zV E mX4_spread 1 Post 19 [.ref 49, .int (nI m), .int (nI S), .int (nI (spj (σ.2 m) S i acc j)), .int (nI i), .int (nI j)] [] w := by
  obtain ⟨⟨sz, a1, a2⟩, -, hv⟩ := id hc
  obtain ⟨v1, v5, vl⟩ := hv m hm
  have p5 := p2le v5
  intro r
  induction r with
  | zero =>
    intro j hj
    have e : j = σ.1 m := by omega
    subst e
    refine zV.run kX4_spread 2 rfl ?_
    refine zV.gf kX4_spread rfl fX4_7 (h0) rfl ?_
    refine zV.run kX4_spread 1 rfl ?_
    refine zV.ial kX4_spread rfl (a1) (m) (rfl) (hm) (by decide) ?_
    rw [a2 m hm]
    refine zV.ict kX4_spread (cd := .ge) rfl (Int32.le_refl _) ?_
    exact kk _
  | succ r ih =>
    intro j hj
    have b1 := spj_lt (σ.2 m) S i ha j (by omega)
    have pj := p2le (n := j) (by omega)
    have nx0 : ¬ (S.testBit i = true ∧ cov (σ.2 m) i j = true) → zV E mX4_spread 1 Post 61 [.ref 49, .int (nI m), .int (nI S), .int (nI (spj (σ.2 m) S i acc j)), .int (nI i), .int (nI j)] [.int (nI (spj (σ.2 m) S i acc j))] w := by
      intro hn
      have e : spj (σ.2 m) S i acc (j + 1) = spj (σ.2 m) S i acc j ||| 0 := by
        show _ ||| (if _ then _ else _) = _; rw [if_neg hn]
      refine zV.run kX4_spread 5 rfl ?_
      rw [show (0 : Int32) = nI 0 from rfl, bt_or _ (by omega) _ (by omega), ← e, nI_1]
      exact ih (j + 1) (by omega)
    refine zV.run kX4_spread 2 rfl ?_
    refine zV.gf kX4_spread rfl fX4_7 (h0) rfl ?_
    refine zV.run kX4_spread 1 rfl ?_
    refine zV.ial kX4_spread rfl (a1) (m) (rfl) (hm) (by decide) ?_
    rw [a2 m hm]
    refine zV.icf kX4_spread (cd := .ge) rfl (nI_ge (by omega) (by omega)) ?_
    refine zV.run kX4_spread 7 rfl ?_
    refine zV.ic2 kX4_spread rfl (fun c => ?_) (fun c => ?_)
    · skip
      have c := mt (bt_at S hS i (by omega)).mpr c
      exact nx0 (fun q => c q.1)
    · skip
      have c := (bt_at S hS i (by omega)).mp (Decidable.not_not.mp c)
      refine zV.run kX4_spread 4 rfl ?_
      refine zV.cv kX4_spread rfl lX4_104 (n_covers E h0 hc hm hi (j := j) (by omega)) (by decide) rfl (h0) rfl rfl rfl (Nat.le_of_ble_eq_true rfl) ?_
      rintro _ _ ⟨rfl, rfl⟩
      refine zV.run kX4_spread 1 rfl ?_
      refine zV.ic2 kX4_spread rfl (fun c2 => ?_) (fun c2 => ?_)
      · skip
        have c2 : ¬ cov (σ.2 m) i j = true := fun q => c2 (zq_t q)
        exact nx0 (fun q => c2 q.2)
      · skip
        have c2 : cov (σ.2 m) i j = true := by
          rcases zq01 (cov (σ.2 m) i j = true) with q | q
          · exact absurd (show zq (cov (σ.2 m) i j = true) = 1 from Decidable.not_not.mp c2) (by rw [q]; decide)
          · exact Decidable.not_not.mp (mt zq_eq0.mpr (by rw [q]; decide))
        have e : spj (σ.2 m) S i acc (j + 1) = spj (σ.2 m) S i acc j ||| 2 ^ j := by
          show _ ||| (if _ then _ else _) = _; rw [if_pos ⟨c, c2⟩]
        refine zV.run kX4_spread 8 rfl ?_
        rw [bt_sh j (by omega), bt_or _ (by omega) _ (by omega), ← e, nI_1]
        exact ih (j + 1) (by omega)
theorem spi_lt {n : Nat} {ld : Nat → Nat} (S : Nat) : ∀ i, spi n ld S i < 2 ^ n
  | 0 => Nat.two_pow_pos n
  | i + 1 => spj_lt ld S i (spi_lt S i) n (Nat.le_refl n)
theorem n_spread_1 (E : zE) {w : zWd} {σ : zSt} {ab be : Int64} {rm en ej : Int32} (h0 : zIs w 49 (zMo ab be rm en ej)) (hc : zMc w σ) {m S : Nat} (hm : m < 8) (hS : S < 64) : ∀ (r i : Nat) (z5 : Value), i + r = σ.1 m → zV E mX4_spread 1 (zR0 w (.int (nI (spi (σ.1 m) (σ.2 m) S (σ.1 m))))) 5 [.ref 49, .int (nI m), .int (nI S), .int (nI (spi (σ.1 m) (σ.2 m) S i)), .int (nI i), z5] [] w := by
  obtain ⟨⟨sz, a1, a2⟩, -, hv⟩ := id hc
  obtain ⟨v1, v5, vl⟩ := hv m hm
  intro r
  induction r with
  | zero =>
    intro i z5 hi
    have e : i = σ.1 m := by omega
    subst e
    refine zV.run kX4_spread 2 rfl ?_
    refine zV.gf kX4_spread rfl fX4_7 (h0) rfl ?_
    refine zV.run kX4_spread 1 rfl ?_
    refine zV.ial kX4_spread rfl (a1) (m) (rfl) (hm) (by decide) ?_
    rw [a2 m hm]
    refine zV.ict kX4_spread (cd := .ge) rfl (Int32.le_refl _) ?_
    refine zV.run kX4_spread 1 rfl ?_
    exact zV.iret kX4_spread rfl rfl (⟨rfl, rfl⟩)
  | succ r ih =>
    intro i z5 hi
    refine zV.run kX4_spread 2 rfl ?_
    refine zV.gf kX4_spread rfl fX4_7 (h0) rfl ?_
    refine zV.run kX4_spread 1 rfl ?_
    refine zV.ial kX4_spread rfl (a1) (m) (rfl) (hm) (by decide) ?_
    rw [a2 m hm]
    refine zV.icf kX4_spread (cd := .ge) rfl (nI_ge (by omega) (by omega)) ?_
    refine zV.run kX4_spread 2 rfl ?_
    refine n_spread_2 E h0 hc hm (i := i) (by omega) hS (spi_lt S i) (fun y5 => ?_) (σ.1 m) 0 (by omega)
    refine zV.run kX4_spread 2 rfl ?_
    rw [nI_1]
    exact ih (i + 1) _ (by omega)
theorem n_spread (E : zE) {w : zWd} {σ : zSt} {ab be : Int64} {rm en ej : Int32} (h0 : zIs w 49 (zMo ab be rm en ej)) (hc : zMc w σ) {m S : Nat} (hm : m < 8) (hS : S < 64) : zOk E mX4_spread 1 [.ref 49, .int (nI m), .int (nI S)] w (zR0 w (.int (nI (sA (σ.1 m) (σ.2 m) S)))) := by
  have e : sA (σ.1 m) (σ.2 m) S = spi (σ.1 m) (σ.2 m) S (σ.1 m) := (spi_eq (hc.2.2 m hm).2.2 S _ (Nat.le_refl _)).symm
  rw [e]
  refine zOk.of (by decide +kernel) (Nat.le_of_ble_eq_true rfl) ?_
  refine zV.run kX4_spread 4 rfl ?_
  exact n_spread_1 E h0 hc hm hS (σ.1 m) 0 _ (by omega)
theorem n_reach_l (E : zE) {w : zWd} {σ : zSt} {ab be : Int64} {rm en ej : Int32} (h0 : zIs w 49 (zMo ab be rm en ej)) (hc : zMc w σ) {m i : Nat} (hm : m < 8) (hi : i < σ.1 m) : ∀ (r k : Nat), k + r = σ.1 m → zV E mX4_reach 2 (zR0 w (.int (nI (rch (σ.1 m) (σ.2 m) (2 ^ i) (σ.1 m))))) 7 [.ref 49, .int (nI m), .int (nI i), .int (nI (rch (σ.1 m) (σ.2 m) (2 ^ i) k)), .int (nI k)] [] w := by
  obtain ⟨⟨sz, a1, a2⟩, -, hv⟩ := id hc
  obtain ⟨v1, v5, vl⟩ := hv m hm
  have p5 := p2le v5
  have hi2 : 2 ^ i < 2 ^ σ.1 m := Nat.pow_lt_pow_right (by decide) hi
  intro r
  induction r with
  | zero =>
    intro k hk
    have e : k = σ.1 m := by omega
    subst e
    refine zV.run kX4_reach 2 rfl ?_
    refine zV.gf kX4_reach rfl fX4_7 (h0) rfl ?_
    refine zV.run kX4_reach 1 rfl ?_
    refine zV.ial kX4_reach rfl (a1) (m) (rfl) (hm) (by decide) ?_
    rw [a2 m hm]
    refine zV.ict kX4_reach (cd := .ge) rfl (Int32.le_refl _) ?_
    refine zV.run kX4_reach 1 rfl ?_
    exact zV.iret kX4_reach rfl rfl (⟨rfl, rfl⟩)
  | succ r ih =>
    intro k hk
    have b1 := rch_lt vl hi2 k
    have b2 := sA_lt vl (rch (σ.1 m) (σ.2 m) (2 ^ i) k)
    refine zV.run kX4_reach 2 rfl ?_
    refine zV.gf kX4_reach rfl fX4_7 (h0) rfl ?_
    refine zV.run kX4_reach 1 rfl ?_
    refine zV.ial kX4_reach rfl (a1) (m) (rfl) (hm) (by decide) ?_
    rw [a2 m hm]
    refine zV.icf kX4_reach (cd := .ge) rfl (nI_ge (by omega) (by omega)) ?_
    refine zV.run kX4_reach 4 rfl ?_
    refine zV.cv kX4_reach rfl lX4_114 (n_spread E h0 hc hm (S := rch (σ.1 m) (σ.2 m) (2 ^ i) k) (by omega)) (by decide) rfl (h0) rfl rfl rfl (Nat.le_of_ble_eq_true rfl) ?_
    rintro _ _ ⟨rfl, rfl⟩
    refine zV.run kX4_reach 4 rfl ?_
    rw [bt_or _ (by omega) _ (by omega), nI_1]
    exact ih (k + 1) (by omega)
theorem n_reach (E : zE) {w : zWd} {σ : zSt} {ab be : Int64} {rm en ej : Int32} (h0 : zIs w 49 (zMo ab be rm en ej)) (hc : zMc w σ) {m i : Nat} (hm : m < 8) (hi : i < σ.1 m) : zOk E mX4_reach 2 [.ref 49, .int (nI m), .int (nI i)] w (zR0 w (.int (nI (rch (σ.1 m) (σ.2 m) (2 ^ i) (σ.1 m))))) := by
  have v5 := (hc.2.2 m hm).2.1
  refine zOk.of (by decide +kernel) (Nat.le_of_ble_eq_true rfl) ?_
  refine zV.run kX4_reach 6 rfl ?_
  rw [bt_sh i (by omega)]
  exact n_reach_l E h0 hc hm hi (σ.1 m) 0 (by omega)
abbrev bothW (n : Nat) (ld : Nat → Nat) (i j : Nat) : Prop := (rch n ld (2 ^ i) n).testBit j = true ∧ (rch n ld (2 ^ j) n).testBit i = true
def lpd (n : Nat) (ld : Nat → Nat) (i : Nat) : Nat → Nat → Nat
  | 0, l => l
  | j + 1, l => lpd n ld i j (if bothW n ld i j then j else l)
theorem lpd_lpf (n : Nat) (ld : Nat → Nat) (i : Nat) : ∀ j l, j ≤ i → l = lpf n ld i (i - j) j → lpd n ld i j l = lpf n ld i i 0
  | 0, l, h, e => by rw [show i - 0 = i by omega] at e; exact e
  | j + 1, l, h, e => by
    refine lpd_lpf n ld i j _ (by omega) ?_
    rw [show i - j = (i - (j + 1)) + 1 by omega]
    show _ = (if _ then j else _)
    by_cases c : bothW n ld i j
    · rw [if_pos c, if_pos c]
    · rw [if_neg c, if_neg c, e]
theorem n_part_l (E : zE) {w : zWd} {σ : zSt} {ab be : Int64} {rm en ej : Int32} (h0 : zIs w 49 (zMo ab be rm en ej)) (hc : zMc w σ) {m i : Nat} (hm : m < 8) (hi : i < σ.1 m) : ∀ (j l : Nat), j ≤ i → zV E mX4_part 3 (zR0 w (.int (nI (lpd (σ.1 m) (σ.2 m) i j l)))) 19 [.ref 49, .int (nI m), .int (nI i), .int (nI l), .int (iI ((j : Int) - 1))] [] w := by
  obtain ⟨v1, v5, vl⟩ := hc.2.2 m hm
  have p5 := p2le v5
  have hi2 : 2 ^ i < 2 ^ σ.1 m := Nat.pow_lt_pow_right (by decide) hi
  intro j
  induction j with
  | zero =>
    intro l hj
    refine zV.run kX4_part 1 rfl ?_
    refine zV.ift kX4_part (cd := .lt) rfl (show iI (((0 : Nat) : Int) - 1) < 0 by decide) ?_
    refine zV.run kX4_part 1 rfl ?_
    exact zV.iret kX4_part rfl rfl (⟨rfl, rfl⟩)
  | succ j ih =>
    intro l hj
    have ej : iI (((j + 1 : Nat) : Int) - 1) = nI j := by rw [nI_iI]; congr 1; omega
    have hj2 : 2 ^ j < 2 ^ σ.1 m := Nat.pow_lt_pow_right (by decide) (by omega)
    have b1 := rch_lt vl hi2 (σ.1 m)
    have b2 := rch_lt vl hj2 (σ.1 m)
    have nxt : ∀ l', l' = (if bothW (σ.1 m) (σ.2 m) i j then j else l) → zV E mX4_part 3 (zR0 w (.int (nI (lpd (σ.1 m) (σ.2 m) i (j + 1) l)))) 60 [.ref 49, .int (nI m), .int (nI i), .int (nI l), .int (nI j)] [.int (nI l')] w := by
      intro l' hl'
      have e : lpd (σ.1 m) (σ.2 m) i (j + 1) l = lpd (σ.1 m) (σ.2 m) i j l' := by rw [hl']; rfl
      rw [e]
      refine zV.run kX4_part 3 rfl ?_
      rw [show nI j + (-1) = iI ((j : Int) - 1) by rw [nI_iI, show (-1 : Int32) = iI (-1) from rfl, iI_add]; congr 1]
      exact ih l' (by omega)
    rw [ej]
    refine zV.run kX4_part 1 rfl ?_
    refine zV.iff kX4_part (cd := .lt) rfl (nI_pos (by omega)) ?_
    refine zV.run kX4_part 3 rfl ?_
    refine zV.cv kX4_part rfl lX4_117 (n_reach E h0 hc hm hi) (by decide) rfl (h0) rfl rfl rfl (Nat.le_of_ble_eq_true rfl) ?_
    rintro _ _ ⟨rfl, rfl⟩
    refine zV.run kX4_part 5 rfl ?_
    refine zV.ic2 kX4_part rfl (fun c => ?_) (fun c => ?_)
    · skip
      have c := mt (bt_at _ (by omega) j (by omega)).mpr c
      refine zV.run kX4_part 1 rfl ?_
      exact nxt l (by rw [if_neg (fun q => c q.1)])
    · skip
      have c := (bt_at _ (by omega) j (by omega)).mp (Decidable.not_not.mp c)
      refine zV.run kX4_part 3 rfl ?_
      refine zV.cv kX4_part rfl lX4_117 (n_reach E h0 hc hm (i := j) (by omega)) (by decide) rfl (h0) rfl rfl rfl (Nat.le_of_ble_eq_true rfl) ?_
      rintro _ _ ⟨rfl, rfl⟩
      refine zV.run kX4_part 5 rfl ?_
      refine zV.ic2 kX4_part rfl (fun c2 => ?_) (fun c2 => ?_)
      · skip
        have c2 := mt (bt_at _ (by omega) i (by omega)).mpr c2
        refine zV.run kX4_part 1 rfl ?_
        exact nxt l (by rw [if_neg (fun q => c2 q.2)])
      · skip
        have c2 := (bt_at _ (by omega) i (by omega)).mp (Decidable.not_not.mp c2)
        refine zV.run kX4_part 2 rfl ?_
        exact nxt j (by rw [if_pos ⟨c, c2⟩])
theorem n_part (E : zE) {w : zWd} {σ : zSt} (h : zMs w σ) (m i : Int32) : zOk E mX4_part 3 [.ref 49, .int m, .int i] w (zR0 w (.int (if okM m ∧ (0 ≤ i.toInt ∧ i.toInt < σ.1 m.toInt.toNat) then nI (lpf (σ.1 m.toInt.toNat) (σ.2 m.toInt.toNat) i.toInt.toNat i.toInt.toNat 0) else -2))) := by
  obtain ⟨⟨ab, be, rm, en, ej, h0⟩, hc, hx⟩ := id h
  refine zOk.of (by decide +kernel) (Nat.le_of_ble_eq_true rfl) ?_
  refine zV.run kX4_part 3 rfl ?_
  refine zV.cv kX4_part rfl lX4_100 (n_isSpan E h0 hc m i) (by decide) rfl (h0) rfl rfl rfl (Nat.le_of_ble_eq_true rfl) ?_
  rintro _ _ ⟨rfl, rfl⟩
  refine zV.if2 kX4_part rfl (fun c => ?_) (fun c => ?_)
  · skip
    have c := Decidable.not_not.mp (mt zq_eq0.mpr c)
    rw [if_pos c]
    obtain ⟨mm, emm⟩ : ∃ mm, mm = m.toInt.toNat := ⟨_, rfl⟩
    have em : m = nI mm := by rw [emm]; exact i32_nI c.1.1
    have hm : mm < 8 := by omega
    obtain ⟨ii, eii⟩ : ∃ ii, ii = i.toInt.toNat := ⟨_, rfl⟩
    have ei : i = nI ii := by rw [eii]; exact i32_nI c.2.1
    rw [← emm] at c
    rw [← emm, ← eii, em, ei]
    refine zV.run kX4_part 6 rfl ?_
    rw [show nI ii - 1 = iI ((ii : Int) - 1) by rw [nI_iI, show (1 : Int32) = iI 1 from rfl, iI_sub]]
    have K := n_part_l E h0 hc hm (i := ii) (by omega) ii ii (Nat.le_refl _)
    rw [lpd_lpf _ _ _ ii ii (Nat.le_refl _) (by rw [Nat.sub_self]; rfl)] at K
    exact K
  · skip
    have c := zq_eq0.mp (Decidable.not_not.mp c)
    refine zV.run kX4_part 1 rfl ?_
    exact zV.iret kX4_part rfl rfl (⟨by rw [if_neg c], rfl⟩)
/-! ===== the model: mixing ===== -/
def so (n : Nat) (ld : Nat → Nat) (i : Nat) : Nat → Nat
  | 0 => 2 ^ i
  | k + 1 => sA n ld (so n ld i k)
def alf (n : Nat) (ld : Nat → Nat) (k : Nat) : Nat → Bool
  | 0 => true
  | i + 1 => alf n ld k i && decide (so n ld i k = 2 ^ n - 1)
def mxf (n : Nat) (ld : Nat → Nat) : Nat → Nat → Int
  | 0, _ => -1
  | r + 1, k => if alf n ld k n = true then (k : Int) else mxf n ld r (k + 1)
theorem so_lt {n : Nat} {ld : Nat → Nat} (hl : ∀ i, i ≤ n → ld i ≤ n) {i : Nat} (hi : i < n) : ∀ k, so n ld i k < 2 ^ n
  | 0 => Nat.pow_lt_pow_right (by decide) hi
  | k + 1 => sA_lt hl _
theorem zMs.dr {w w' : zWd} {σ : zSt} (h : zMs w σ) (hw : ∀ a, a ≠ 52 → w' a = w a) (h7 : ∃ f, zIs w' 52 (zIA 7 f)) : zMs w' σ := by
  obtain ⟨⟨ab, be, rm, en, ej, h0⟩, hc, ⟨-, ⟨f3, x3⟩, ⟨f4, x4⟩, ⟨f5, x5⟩, ⟨f6, x6⟩, ⟨f7, x7⟩, ⟨f8, x8⟩, ⟨f9, x9⟩, ⟨f0, x0⟩⟩⟩ := h
  exact ⟨⟨ab, be, rm, en, ej, h0.k (hw _ (by decide))⟩, hc.k (hw _ (by decide)) (hw _ (by decide)), h7, ⟨f3, x3.k (hw _ (by decide))⟩, ⟨f4, x4.k (hw _ (by decide))⟩, ⟨f5, x5.k (hw _ (by decide))⟩, ⟨f6, x6.k (hw _ (by decide))⟩, ⟨f7, x7.k (hw _ (by decide))⟩, ⟨f8, x8.k (hw _ (by decide))⟩, ⟨f9, x9.k (hw _ (by decide))⟩, ⟨f0, x0.k (hw _ (by decide))⟩⟩
theorem n_mixes_3 (E : zE) {w0 : zWd} {σ : zSt} (h : zMs w0 σ) {Post : Option Value → zWd → Prop} {m k : Nat} (hm : m < 8)
    (kk : ∀ (w : zWd) (dr : Nat → Int32) (z5 : Value), zIs w 52 (zIA 7 dr) → (∀ i, i < σ.1 m → dr i = nI (so (σ.1 m) (σ.2 m) i (k + 1))) → (∀ a, a ≠ 52 → w a = w0 a) → zV E mX4_mixes 2 Post 111 [.ref 49, .int (nI m), .int (nI (σ.1 m)), .int (nI (k + 1)), .int (zq (alf (σ.1 m) (σ.2 m) (k + 1) (σ.1 m) = true)), z5] [] w) :
    ∀ (r i : Nat) (w : zWd) (dr : Nat → Int32), i + r = σ.1 m → zIs w 52 (zIA 7 dr) → (∀ q, q < i → dr q = nI (so (σ.1 m) (σ.2 m) q (k + 1))) → (∀ q, i ≤ q → q < σ.1 m → dr q = nI (so (σ.1 m) (σ.2 m) q k)) → (∀ a, a ≠ 52 → w a = w0 a) → zV E mX4_mixes 2 Post 53 [.ref 49, .int (nI m), .int (nI (σ.1 m)), .int (nI (k + 1)), .int (zq (alf (σ.1 m) (σ.2 m) (k + 1) i = true)), .int (nI i)] [] w := by
  obtain ⟨⟨ab, be, rm, en, ej, h00⟩, hc0, hx0⟩ := id h
  obtain ⟨v1, v5, vl⟩ := hc0.2.2 m hm
  have p5 := p2le v5
  intro r
  induction r with
  | zero =>
    intro i w dr hi hd d1 d2 hw
    have e : i = σ.1 m := by omega
    subst e
    refine zV.run kX4_mixes 2 rfl ?_
    refine zV.ict kX4_mixes (cd := .ge) rfl (Int32.le_refl _) ?_
    exact kk w dr _ hd d1 hw
  | succ r ih =>
    intro i w dr hi hd d1 d2 hw
    have h0 := h00.k (hw 49 (by decide))
    have hc := hc0.k (hw 50 (by decide)) (hw 51 (by decide))
    have b1 := so_lt vl (i := i) (by omega) k
    have b2 := so_lt vl (i := i) (by omega) (k + 1)
    have nxt : ∀ v : Bool, v = alf (σ.1 m) (σ.2 m) (k + 1) (i + 1) → zV E mX4_mixes 2 Post 103 [.ref 49, .int (nI m), .int (nI (σ.1 m)), .int (nI (k + 1)), .int (zq (alf (σ.1 m) (σ.2 m) (k + 1) i = true)), .int (nI i)] [.int (zq (v = true))] (va_up w 52 (zIA 7 (upd dr i (nI (so (σ.1 m) (σ.2 m) i (k + 1)))))) := by
      intro v hv
      subst hv
      refine zV.run kX4_mixes 3 rfl ?_
      rw [nI_1]
      refine ih (i + 1) _ _ (by omega) (zIs.s hd.1) (fun q hq => ?_) (fun q h1 h2 => ?_) (fun a ha => by rw [zup_ne ha]; exact hw a ha)
      · by_cases e : q = i
        · rw [e, pk_us]
        · rw [pk_un e]; exact d1 q (by omega)
      · rw [pk_un (by omega)]; exact d2 q (by omega) h2
    have ea : alf (σ.1 m) (σ.2 m) (k + 1) (i + 1) = (alf (σ.1 m) (σ.2 m) (k + 1) i && decide (so (σ.1 m) (σ.2 m) i (k + 1) = 2 ^ σ.1 m - 1)) := rfl
    refine zV.run kX4_mixes 2 rfl ?_
    refine zV.icf kX4_mixes (cd := .ge) rfl (nI_ge (by omega) (by omega)) ?_
    refine zV.run kX4_mixes 1 rfl ?_
    refine zV.gf kX4_mixes rfl fX4_16 (h0) rfl ?_
    refine zV.run kX4_mixes 4 rfl ?_
    refine zV.gf kX4_mixes rfl fX4_16 (h0) rfl ?_
    refine zV.run kX4_mixes 1 rfl ?_
    refine zV.ial kX4_mixes rfl (hd) (i) (rfl) (by omega) (by decide) ?_
    rw [d2 i (Nat.le_refl _) (by omega)]
    refine zV.cv kX4_mixes rfl lX4_114 (n_spread E h0 hc hm (S := so (σ.1 m) (σ.2 m) i k) (by omega)) (by decide) rfl (h0) rfl rfl rfl (Nat.le_of_ble_eq_true rfl) ?_
    rintro _ _ ⟨rfl, rfl⟩
    refine zV.ias kX4_mixes rfl (hd) (i) (rfl) (by omega) (by decide) ?_
    refine zV.run kX4_mixes 1 rfl ?_
    refine zV.if2 kX4_mixes rfl (fun c => ?_) (fun c => ?_)
    · skip
      have c := zq_eq0.mp c
      refine zV.run kX4_mixes 1 rfl ?_
      exact nxt false (by rw [ea]; simp [c])
    · skip
      have c := Decidable.not_not.mp (mt zq_eq0.mpr c)
      refine zV.run kX4_mixes 1 rfl ?_
      refine zV.gf kX4_mixes rfl fX4_16 (h0.n (by decide)) rfl ?_
      refine zV.run kX4_mixes 1 rfl ?_
      refine zV.ial kX4_mixes rfl (zIs.s hd.1) (i) (rfl) (by omega) (by decide) ?_
      rw [pk_us]
      refine zV.run kX4_mixes 5 rfl ?_
      rw [bt_sh (σ.1 m) (by omega), show (1 : Int32) = nI 1 from rfl, pk_sub (Nat.two_pow_pos _)]
      refine zV.ic2 kX4_mixes rfl (fun c2 => ?_) (fun c2 => ?_)
      · skip
        have c2 := mt (nI_eq (a := so (σ.1 m) (σ.2 m) i (k + 1)) (b := 2 ^ σ.1 m - 1) (by omega) (by omega)).mpr c2
        refine zV.run kX4_mixes 1 rfl ?_
        exact nxt false (by rw [ea]; simp [c2])
      · skip
        have c2 := (nI_eq (a := so (σ.1 m) (σ.2 m) i (k + 1)) (b := 2 ^ σ.1 m - 1) (by omega) (by omega)).mp (Decidable.not_not.mp c2)
        refine zV.run kX4_mixes 2 rfl ?_
        exact nxt true (by rw [ea]; simp [c, c2])
theorem n_mixes_2 (E : zE) {w0 : zWd} {σ : zSt} (h : zMs w0 σ) {m : Nat} (hm : m < 8) : ∀ (r k : Nat) (w : zWd) (dr : Nat → Int32) (z4 z5 : Value), k + r = 30 → zIs w 52 (zIA 7 dr) → (∀ q, q < σ.1 m → dr q = nI (so (σ.1 m) (σ.2 m) q k)) → (∀ a, a ≠ 52 → w a = w0 a) → zV E mX4_mixes 2 (zPm w0 (.int (iI (mxf (σ.1 m) (σ.2 m) r (k + 1)))) σ) 41 [.ref 49, .int (nI m), .int (nI (σ.1 m)), .int (nI (k + 1)), z4, z5] [] w := by
  intro r
  induction r with
  | zero =>
    intro k w dr z4 z5 hk hd d1 hw
    have e : k = 30 := by omega
    subst e
    refine zV.run kX4_mixes 2 rfl ?_
    refine zV.ict kX4_mixes (cd := .gt) rfl (show (30 : Int32) < nI 31 by decide) ?_
    refine zV.run kX4_mixes 1 rfl ?_
    exact zV.iret kX4_mixes rfl rfl (⟨rfl, h.dr hw ⟨dr, hd⟩, fun a ha => hw a (by omega)⟩)
  | succ r ih =>
    intro k w dr z4 z5 hk hd d1 hw
    refine zV.run kX4_mixes 2 rfl ?_
    refine zV.icf kX4_mixes (cd := .gt) rfl (fun q => absurd ((nI_ltI (a := 30) (b := k + 1) (by omega) (by omega)).mp q) (by omega)) ?_
    refine zV.run kX4_mixes 4 rfl ?_
    refine n_mixes_3 E h hm (k := k) (fun w2 dr2 y5 q1 q2 q3 => ?_) (σ.1 m) 0 w dr (by omega) hd (fun q hq => by omega) (fun q _ hq => d1 q hq) hw
    refine zV.run kX4_mixes 1 rfl ?_
    refine zV.if2 kX4_mixes rfl (fun c => ?_) (fun c => ?_)
    · skip
      have c := zq_eq0.mp c
      have e : mxf (σ.1 m) (σ.2 m) (r + 1) (k + 1) = mxf (σ.1 m) (σ.2 m) r (k + 1 + 1) := if_neg c
      rw [e]
      refine zV.run kX4_mixes 2 rfl ?_
      rw [nI_1]
      exact ih (k + 1) w2 dr2 _ _ (by omega) q1 q2 q3
    · skip
      have c := Decidable.not_not.mp (mt zq_eq0.mpr c)
      have e : mxf (σ.1 m) (σ.2 m) (r + 1) (k + 1) = ((k + 1 : Nat) : Int) := if_pos c
      rw [e]
      refine zV.run kX4_mixes 1 rfl ?_
      exact zV.iret kX4_mixes rfl rfl (⟨by rw [nI_iI], h.dr q3 ⟨dr2, q1⟩, fun a ha => q3 a (by omega)⟩)
theorem n_mixes_1 (E : zE) {w0 : zWd} {σ : zSt} (h : zMs w0 σ) {m : Nat} (hm : m < 8) : ∀ (r i : Nat) (w : zWd) (dr : Nat → Int32), i + r = σ.1 m → zIs w 52 (zIA 7 dr) → (∀ q, q < i → dr q = nI (2 ^ q)) → (∀ a, a ≠ 52 → w a = w0 a) → zV E mX4_mixes 2 (zPm w0 (.int (iI (mxf (σ.1 m) (σ.2 m) 30 1))) σ) 19 [.ref 49, .int (nI m), .int (nI (σ.1 m)), .int (nI i), zU, zU] [] w := by
  obtain ⟨⟨ab, be, rm, en, ej, h00⟩, hc0, hx0⟩ := id h
  obtain ⟨v1, v5, vl⟩ := hc0.2.2 m hm
  intro r
  induction r with
  | zero =>
    intro i w dr hi hd d1 hw
    have e : i = σ.1 m := by omega
    subst e
    refine zV.run kX4_mixes 2 rfl ?_
    refine zV.ict kX4_mixes (cd := .ge) rfl (Int32.le_refl _) ?_
    refine zV.run kX4_mixes 2 rfl ?_
    exact n_mixes_2 E h hm 30 0 w dr _ _ (by omega) hd d1 hw
  | succ r ih =>
    intro i w dr hi hd d1 hw
    have h0 := h00.k (hw 49 (by decide))
    refine zV.run kX4_mixes 2 rfl ?_
    refine zV.icf kX4_mixes (cd := .ge) rfl (nI_ge (by omega) (by omega)) ?_
    refine zV.run kX4_mixes 1 rfl ?_
    refine zV.gf kX4_mixes rfl fX4_16 (h0) rfl ?_
    refine zV.run kX4_mixes 4 rfl ?_
    rw [bt_sh i (by omega)]
    refine zV.ias kX4_mixes rfl (hd) (i) (rfl) (by omega) (by decide) ?_
    refine zV.run kX4_mixes 2 rfl ?_
    rw [nI_1]
    refine ih (i + 1) _ _ (by omega) (zIs.s hd.1) (fun q hq => ?_) (fun a ha => by rw [zup_ne ha]; exact hw a ha)
    by_cases e : q = i
    · rw [e, pk_us]
    · rw [pk_un e]; exact d1 q (by omega)
theorem n_mixes (E : zE) {w : zWd} {σ : zSt} (h : zMs w σ) (m : Int32) : zOk E mX4_mixes 2 [.ref 49, .int m] w (zPm w (.int (if okM m then iI (mxf (σ.1 m.toInt.toNat) (σ.2 m.toInt.toNat) 30 1) else -2)) σ) := by
  obtain ⟨⟨ab, be, rm, en, ej, h0⟩, hc, hx⟩ := id h
  obtain ⟨⟨sz, a1, a2⟩, -, hv⟩ := id hc
  refine zOk.of (by decide +kernel) (Nat.le_of_ble_eq_true rfl) ?_
  refine zV.run kX4_mixes 1 rfl ?_
  refine zV.cs kX4_mixes rfl lX4_51 (n_isMap E w m) (by decide) rfl rfl (Nat.le_of_ble_eq_true rfl) ?_
  rintro _ _ ⟨rfl, rfl⟩
  refine zV.if2 kX4_mixes rfl (fun c => ?_) (fun c => ?_)
  · skip
    have c := Decidable.not_not.mp (mt zq_eq0.mpr c)
    obtain ⟨mm, emm⟩ : ∃ mm, mm = m.toInt.toNat := ⟨_, rfl⟩
    have em : m = nI mm := by rw [emm]; exact i32_nI c.1
    have hm : mm < 8 := by omega
    rw [if_pos c, ← emm]
    refine zV.run kX4_mixes 1 rfl ?_
    refine zV.gf kX4_mixes rfl fX4_7 (h0) rfl ?_
    refine zV.run kX4_mixes 1 rfl ?_
    refine zV.ial kX4_mixes rfl (a1) (mm) (em) (hm) (by decide) ?_
    rw [a2 mm hm, em]
    refine zV.run kX4_mixes 3 rfl ?_
    obtain ⟨dr, hd⟩ := hx.1
    exact n_mixes_1 E h hm (σ.1 mm) 0 w dr (by omega) hd (fun q hq => by omega) (fun _ _ => rfl)
  · skip
    have c := zq_eq0.mp (Decidable.not_not.mp c)
    rw [if_neg c]
    refine zV.run kX4_mixes 1 rfl ?_
    exact zV.iret kX4_mixes rfl rfl (⟨rfl, h, fun _ _ => rfl⟩)
