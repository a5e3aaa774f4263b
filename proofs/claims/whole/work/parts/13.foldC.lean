/-! ===== Fold: sets of spans ===== -/
theorem bt_sh : ∀ i, i < 6 → (1 : Int32) <<< (nI i &&& 31) = nI (2 ^ i) := by decide +kernel
theorem bt_or : ∀ a, a < 64 → ∀ b, b < 64 → nI a ||| nI b = nI (a ||| b) := by decide +kernel
theorem bt_at : ∀ s, s < 64 → ∀ i, i < 6 → ((nI s >>> (nI i &&& 31)) &&& 1 = 1 ↔ s.testBit i = true) := by decide +kernel
def cov (ld : Nat → Nat) (i j : Nat) : Bool := decide (min (ld i) (ld (i + 1)) ≤ j) && decide (j < max (ld i) (ld (i + 1)))
def sAf (ld : Nat → Nat) (S : Nat) : Nat → Nat
  | 0 => 0
  | i + 1 => if S.testBit i = true then sAf ld S i ||| (2 ^ max (ld i) (ld (i + 1)) - 2 ^ min (ld i) (ld (i + 1))) else sAf ld S i
def sA (n : Nat) (ld : Nat → Nat) (S : Nat) : Nat := sAf ld S n
def rch (n : Nat) (ld : Nat → Nat) (S : Nat) : Nat → Nat
  | 0 => S
  | k + 1 => rch n ld S k ||| sA n ld (rch n ld S k)
def lpf (n : Nat) (ld : Nat → Nat) (i : Nat) : Nat → Nat → Nat
  | 0, _ => i
  | f + 1, j => if (rch n ld (2 ^ i) n).testBit j = true ∧ (rch n ld (2 ^ j) n).testBit i = true then j else lpf n ld i f (j + 1)
def staf (n : Nat) (ld : Nat → Nat) : Nat → Nat → Nat → Int
  | 0, _, _ => -1
  | f + 1, S, k => if sA n ld S = 2 ^ n - 1 then (k : Int) else staf n ld f (sA n ld S) (k + 1)
def sta (n : Nat) (ld : Nat → Nat) (i : Nat) : Int := staf n ld 64 (2 ^ i) 1
def stm (n : Nat) (ld : Nat → Nat) : Nat → Nat → Int → Int
  | 0, _, s => s
  | r + 1, i, s => if sta n ld i = -1 then -1 else stm n ld r (i + 1) (max s (sta n ld i))
theorem p2le {n : Nat} (h : n ≤ 5) : 2 ^ n ≤ 32 := Nat.pow_le_pow_right (by decide) h
theorem sAf_lt {n : Nat} {ld : Nat → Nat} (hl : ∀ i, i ≤ n → ld i ≤ n) (S : Nat) : ∀ k, k ≤ n → sAf ld S k < 2 ^ n
  | 0, _ => Nat.two_pow_pos n
  | k + 1, hk => by
    have ih := sAf_lt hl S k (by omega)
    unfold sAf
    split
    · refine Nat.or_lt_two_pow ih ?_
      have h1 : 2 ^ max (ld k) (ld (k + 1)) ≤ 2 ^ n := Nat.pow_le_pow_right (by decide) (by have := hl k (by omega); have := hl (k + 1) hk; omega)
      have h2 := Nat.two_pow_pos (min (ld k) (ld (k + 1)))
      have h3 := Nat.two_pow_pos n
      omega
    · exact ih
theorem sA_lt {n : Nat} {ld : Nat → Nat} (hl : ∀ i, i ≤ n → ld i ≤ n) (S : Nat) : sA n ld S < 2 ^ n := sAf_lt hl S n (Nat.le_refl n)
theorem rch_lt {n : Nat} {ld : Nat → Nat} (hl : ∀ i, i ≤ n → ld i ≤ n) {S : Nat} (hS : S < 2 ^ n) : ∀ k, rch n ld S k < 2 ^ n
  | 0 => hS
  | k + 1 => Nat.or_lt_two_pow (rch_lt hl hS k) (sA_lt hl _)
theorem zmin (a b : Nat) (ha : a < 100) (hb : b < 100) : (if nI b < nI a then nI b else nI a) = nI (min a b) := by
  by_cases h : b < a
  · rw [if_pos (nI_lt h (by omega))]; congr 1; omega
  · rw [if_neg (nI_nlt (by omega) (by omega))]; congr 1; omega
theorem zmax (a b : Nat) (ha : a < 100) (hb : b < 100) : (if nI a < nI b then nI b else nI a) = nI (max a b) := by
  by_cases h : a < b
  · rw [if_pos (nI_lt h (by omega))]; congr 1; omega
  · rw [if_neg (nI_nlt (by omega) (by omega))]; congr 1; omega
theorem o_leadsOver (E : zE) {w : zWd} {f g n : Nat} {ld : Nat → Nat} (h : zFo w f g n ld) {i j : Nat} (hi : i < n) (hj : j < n) : zOk E mX0_leadsOver 1 [.ref f, .int (nI i), .int (nI j)] w (zR0 w (.int (zq (cov ld i j = true)))) := by
  obtain ⟨led, hf, hg, hl, h1, h5, hb⟩ := h
  have l1 := hb i (by omega)
  have l2 := hb (i + 1) (by omega)
  have e1 := hl i (by omega)
  have e2 := hl (i + 1) (by omega)
  refine zOk.of (by decide +kernel) (Nat.le_of_ble_eq_true rfl) ?_
  refine zV.run kX0_leadsOver 1 rfl ?_
  refine zV.gf kX0_leadsOver rfl fX0_15 (hf) rfl ?_
  refine zV.run kX0_leadsOver 1 rfl ?_
  refine zV.ial kX0_leadsOver rfl (hg) (i) (rfl) (by omega) (by decide) ?_
  refine zV.run kX0_leadsOver 1 rfl ?_
  refine zV.gf kX0_leadsOver rfl fX0_15 (hf) rfl ?_
  refine zV.run kX0_leadsOver 3 rfl ?_
  refine zV.ial kX0_leadsOver rfl (hg) (i + 1) (nI_1 i) (by omega) (by decide) ?_
  refine zV.mnI kX0_leadsOver rfl lX0_41 (by decide) (Nat.le_of_ble_eq_true rfl) ?_
  rw [e1, e2, zmin _ _ (by omega) (by omega)]
  refine zV.run kX0_leadsOver 1 rfl ?_
  refine zV.ic2 kX0_leadsOver rfl (fun c => ?_) (fun c => ?_)
  · skip
    have c := (nI_ltI (by omega) (by omega)).mp c
    refine zV.run kX0_leadsOver 1 rfl ?_
    exact zV.zret kX0_leadsOver rfl rfl (Or.inl rfl) (⟨by rw [zq_f]; unfold cov; simp; omega, rfl⟩)
  · skip
    have c := mt (nI_ltI (a := j) (b := min (ld i) (ld (i + 1))) (by omega) (by omega)).mpr c
    refine zV.run kX0_leadsOver 2 rfl ?_
    refine zV.gf kX0_leadsOver rfl fX0_15 (hf) rfl ?_
    refine zV.run kX0_leadsOver 1 rfl ?_
    refine zV.ial kX0_leadsOver rfl (hg) (i) (rfl) (by omega) (by decide) ?_
    refine zV.run kX0_leadsOver 1 rfl ?_
    refine zV.gf kX0_leadsOver rfl fX0_15 (hf) rfl ?_
    refine zV.run kX0_leadsOver 3 rfl ?_
    refine zV.ial kX0_leadsOver rfl (hg) (i + 1) (nI_1 i) (by omega) (by decide) ?_
    refine zV.mxI kX0_leadsOver rfl lX0_44 (by decide) (Nat.le_of_ble_eq_true rfl) ?_
    rw [e1, e2, zmax _ _ (by omega) (by omega)]
    refine zV.ic2 kX0_leadsOver rfl (fun c2 => ?_) (fun c2 => ?_)
    · skip
      have c2 := (nI_leI (by omega) (by omega)).mp c2
      refine zV.run kX0_leadsOver 1 rfl ?_
      exact zV.zret kX0_leadsOver rfl rfl (Or.inl rfl) (⟨by rw [zq_f]; unfold cov; simp; omega, rfl⟩)
    · skip
      have c2 := mt (nI_leI (a := max (ld i) (ld (i + 1))) (b := j) (by omega) (by omega)).mpr c2
      refine zV.run kX0_leadsOver 2 rfl ?_
      exact zV.zret kX0_leadsOver rfl rfl (Or.inr rfl) (⟨by rw [zq_t]; unfold cov; simp; omega, rfl⟩)
theorem o_allSpans (E : zE) {w : zWd} {f g n : Nat} {ld : Nat → Nat} (h : zFo w f g n ld) : zOk E mX0_allSpans 0 [.ref f] w (zR0 w (.int (nI (2 ^ n - 1)))) := by
  obtain ⟨led, hf, hg, hl, h1, h5, hb⟩ := h
  refine zOk.of (by decide +kernel) (Nat.le_of_ble_eq_true rfl) ?_
  refine zV.run kX0_allSpans 2 rfl ?_
  refine zV.gf kX0_allSpans rfl fX0_9 (hf) rfl ?_
  refine zV.run kX0_allSpans 3 rfl ?_
  rw [bt_sh n (by omega), show (1 : Int32) = nI 1 from rfl, pk_sub (Nat.two_pow_pos n)]
  exact zV.iret kX0_allSpans rfl rfl (⟨rfl, rfl⟩)
theorem o_spansAfter_l (E : zE) {w : zWd} {f g n : Nat} {ld : Nat → Nat} (h : zFo w f g n ld) {S : Nat} (hS : S < 64) : ∀ (j i : Nat), i + j = n → zV E mX0_spansAfter 1 (zR0 w (.int (nI (sA n ld S)))) 4 [.ref f, .int (nI S), .int (nI (sAf ld S i)), .int (nI i)] [] w := by
  obtain ⟨led, hf, hg, hl, h1, h5, hb⟩ := id h
  intro j
  induction j with
  | zero =>
    intro i hi
    have e : i = n := by omega
    subst e
    refine zV.run kX0_spansAfter 2 rfl ?_
    refine zV.gf kX0_spansAfter rfl fX0_9 (hf) rfl ?_
    refine zV.ict kX0_spansAfter (cd := .ge) rfl (Int32.le_refl _) ?_
    refine zV.run kX0_spansAfter 1 rfl ?_
    exact zV.iret kX0_spansAfter rfl rfl (⟨rfl, rfl⟩)
  | succ j ih =>
    intro i hi
    have l1 := hb i (by omega)
    have l2 := hb (i + 1) (by omega)
    have e1 := hl i (by omega)
    have e2 := hl (i + 1) (by omega)
    have b1 := sAf_lt hb S i (by omega)
    have b2 := sAf_lt hb S (i + 1) (by omega)
    have p5 := p2le h5
    refine zV.run kX0_spansAfter 2 rfl ?_
    refine zV.gf kX0_spansAfter rfl fX0_9 (hf) rfl ?_
    refine zV.icf kX0_spansAfter (cd := .ge) rfl (nI_ge (by omega) (by omega)) ?_
    refine zV.run kX0_spansAfter 6 rfl ?_
    refine zV.ic2 kX0_spansAfter rfl (fun c => ?_) (fun c => ?_)
    · skip
      have c := mt (bt_at S hS i (by omega)).mpr c
      refine zV.run kX0_spansAfter 2 rfl ?_
      rw [nI_1]
      have e : sAf ld S (i + 1) = sAf ld S i := if_neg c
      rw [← e]
      exact ih (i + 1) (by omega)
    · skip
      have c := (bt_at S hS i (by omega)).mp (Decidable.not_not.mp c)
      refine zV.run kX0_spansAfter 3 rfl ?_
      refine zV.gf kX0_spansAfter rfl fX0_15 (hf) rfl ?_
      refine zV.run kX0_spansAfter 1 rfl ?_
      refine zV.ial kX0_spansAfter rfl (hg) (i) (rfl) (by omega) (by decide) ?_
      refine zV.run kX0_spansAfter 1 rfl ?_
      refine zV.gf kX0_spansAfter rfl fX0_15 (hf) rfl ?_
      refine zV.run kX0_spansAfter 3 rfl ?_
      refine zV.ial kX0_spansAfter rfl (hg) (i + 1) (nI_1 i) (by omega) (by decide) ?_
      refine zV.mxI kX0_spansAfter rfl lX0_44 (by decide) (Nat.le_of_ble_eq_true rfl) ?_
      refine zV.run kX0_spansAfter 3 rfl ?_
      refine zV.gf kX0_spansAfter rfl fX0_15 (hf) rfl ?_
      refine zV.run kX0_spansAfter 1 rfl ?_
      refine zV.ial kX0_spansAfter rfl (hg) (i) (rfl) (by omega) (by decide) ?_
      refine zV.run kX0_spansAfter 1 rfl ?_
      refine zV.gf kX0_spansAfter rfl fX0_15 (hf) rfl ?_
      refine zV.run kX0_spansAfter 3 rfl ?_
      refine zV.ial kX0_spansAfter rfl (hg) (i + 1) (nI_1 i) (by omega) (by decide) ?_
      refine zV.mnI kX0_spansAfter rfl lX0_41 (by decide) (Nat.le_of_ble_eq_true rfl) ?_
      refine zV.run kX0_spansAfter 6 rfl ?_
      have e : sAf ld S (i + 1) = sAf ld S i ||| (2 ^ max (ld i) (ld (i + 1)) - 2 ^ min (ld i) (ld (i + 1))) := if_pos c
      have h6 : 2 ^ min (ld i) (ld (i + 1)) ≤ 2 ^ max (ld i) (ld (i + 1)) := Nat.pow_le_pow_right (by decide) (by omega)
      have h7 : 2 ^ max (ld i) (ld (i + 1)) ≤ 32 := p2le (by omega)
      rw [e1, e2, zmax _ _ (by omega) (by omega), zmin _ _ (by omega) (by omega), bt_sh _ (by omega), bt_sh _ (by omega), pk_sub h6, bt_or _ (by omega) _ (Nat.lt_of_le_of_lt (Nat.sub_le _ _) (by omega)), ← e, nI_1]
      exact ih (i + 1) (by omega)
theorem o_spansAfter (E : zE) {w : zWd} {f g n : Nat} {ld : Nat → Nat} (h : zFo w f g n ld) {S : Nat} (hS : S < 64) : zOk E mX0_spansAfter 1 [.ref f, .int (nI S)] w (zR0 w (.int (nI (sA n ld S)))) := by
  refine zOk.of (by decide +kernel) (Nat.le_of_ble_eq_true rfl) ?_
  refine zV.run kX0_spansAfter 4 rfl ?_
  exact o_spansAfter_l E h hS n 0 (by omega)
theorem o_wayLeads_l (E : zE) {w : zWd} {f g n : Nat} {ld : Nat → Nat} (h : zFo w f g n ld) {i j : Nat} (hi : i < n) (hj : j < n) : ∀ (r k : Nat), k + r = n → zV E mX0_wayLeads 2 (zR0 w (.int (zq ((rch n ld (2 ^ i) n).testBit j = true)))) 7 [.ref f, .int (nI i), .int (nI j), .int (nI (rch n ld (2 ^ i) k)), .int (nI k)] [] w := by
  obtain ⟨led, hf, hg, hl, h1, h5, hb⟩ := id h
  have p5 := p2le h5
  have hi2 : 2 ^ i < 2 ^ n := Nat.pow_lt_pow_right (by decide) hi
  intro r
  induction r with
  | zero =>
    intro k hk
    have e : k = n := by omega
    subst e
    have b1 := rch_lt hb hi2 k
    refine zV.run kX0_wayLeads 2 rfl ?_
    refine zV.gf kX0_wayLeads rfl fX0_9 (hf) rfl ?_
    refine zV.ict kX0_wayLeads (cd := .ge) rfl (Int32.le_refl _) ?_
    refine zV.run kX0_wayLeads 6 rfl ?_
    refine zV.ic2 kX0_wayLeads rfl (fun c => ?_) (fun c => ?_)
    · skip
      have c := mt (bt_at (rch k ld (2 ^ i) k) (by omega) j (by omega)).mpr c
      refine zV.run kX0_wayLeads 1 rfl ?_
      exact zV.zret kX0_wayLeads rfl rfl (Or.inl rfl) (⟨by rw [zq_f c], rfl⟩)
    · skip
      have c := (bt_at (rch k ld (2 ^ i) k) (by omega) j (by omega)).mp (Decidable.not_not.mp c)
      refine zV.run kX0_wayLeads 2 rfl ?_
      exact zV.zret kX0_wayLeads rfl rfl (Or.inr rfl) (⟨by rw [zq_t c], rfl⟩)
  | succ r ih =>
    intro k hk
    have b1 := rch_lt hb hi2 k
    have b2 := sA_lt hb (rch n ld (2 ^ i) k)
    refine zV.run kX0_wayLeads 2 rfl ?_
    refine zV.gf kX0_wayLeads rfl fX0_9 (hf) rfl ?_
    refine zV.icf kX0_wayLeads (cd := .ge) rfl (nI_ge (by omega) (by omega)) ?_
    refine zV.run kX0_wayLeads 3 rfl ?_
    refine zV.cv kX0_wayLeads rfl lX0_46 (o_spansAfter E h (S := rch n ld (2 ^ i) k) (by omega)) (by decide) rfl (hf) rfl rfl rfl (Nat.le_of_ble_eq_true rfl) ?_
    rintro _ _ ⟨rfl, rfl⟩
    refine zV.run kX0_wayLeads 4 rfl ?_
    rw [bt_or _ (by omega) _ (by omega), nI_1]
    exact ih (k + 1) (by omega)
theorem o_wayLeads (E : zE) {w : zWd} {f g n : Nat} {ld : Nat → Nat} (h : zFo w f g n ld) {i j : Nat} (hi : i < n) (hj : j < n) : zOk E mX0_wayLeads 2 [.ref f, .int (nI i), .int (nI j)] w (zR0 w (.int (zq ((rch n ld (2 ^ i) n).testBit j = true)))) := by
  obtain ⟨led, hf, hg, hl, h1, h5, hb⟩ := id h
  refine zOk.of (by decide +kernel) (Nat.le_of_ble_eq_true rfl) ?_
  refine zV.run kX0_wayLeads 6 rfl ?_
  rw [bt_sh i (by omega)]
  exact o_wayLeads_l E h hi hj n 0 (by omega)
theorem o_leastOfPart_l (E : zE) {w : zWd} {f g n : Nat} {ld : Nat → Nat} (h : zFo w f g n ld) {i : Nat} (hi : i < n) : ∀ (r j : Nat), j + r = i → zV E mX0_leastOfPart 3 (zR0 w (.int (nI (lpf n ld i r j)))) 2 [.ref f, .int (nI i), .int (nI j)] [] w := by
  obtain ⟨led, hf, hg, hl, h1, h5, hb⟩ := id h
  intro r
  induction r with
  | zero =>
    intro j hj
    have e : j = i := by omega
    subst e
    refine zV.run kX0_leastOfPart 2 rfl ?_
    refine zV.ict kX0_leastOfPart (cd := .ge) rfl (Int32.le_refl _) ?_
    refine zV.run kX0_leastOfPart 1 rfl ?_
    exact zV.iret kX0_leastOfPart rfl rfl (⟨rfl, rfl⟩)
  | succ r ih =>
    intro j hj
    refine zV.run kX0_leastOfPart 2 rfl ?_
    refine zV.icf kX0_leastOfPart (cd := .ge) rfl (nI_ge (by omega) (by omega)) ?_
    refine zV.run kX0_leastOfPart 3 rfl ?_
    refine zV.cv kX0_leastOfPart rfl lX0_49 (o_wayLeads E h hi (j := j) (by omega)) (by decide) rfl (hf) rfl rfl rfl (Nat.le_of_ble_eq_true rfl) ?_
    rintro _ _ ⟨rfl, rfl⟩
    refine zV.if2 kX0_leastOfPart rfl (fun c => ?_) (fun c => ?_)
    · skip
      have c := zq_eq0.mp c
      have e : lpf n ld i (r + 1) j = lpf n ld i r (j + 1) := if_neg (fun q => c q.1)
      refine zV.run kX0_leastOfPart 2 rfl ?_
      rw [nI_1, e]
      exact ih (j + 1) (by omega)
    · skip
      have c := Decidable.not_not.mp (mt zq_eq0.mpr c)
      refine zV.run kX0_leastOfPart 3 rfl ?_
      refine zV.cv kX0_leastOfPart rfl lX0_49 (o_wayLeads E h (i := j) (by omega) hi) (by decide) rfl (hf) rfl rfl rfl (Nat.le_of_ble_eq_true rfl) ?_
      rintro _ _ ⟨rfl, rfl⟩
      refine zV.if2 kX0_leastOfPart rfl (fun c2 => ?_) (fun c2 => ?_)
      · skip
        have c2 := zq_eq0.mp c2
        have e : lpf n ld i (r + 1) j = lpf n ld i r (j + 1) := if_neg (fun q => c2 q.2)
        refine zV.run kX0_leastOfPart 2 rfl ?_
        rw [nI_1, e]
        exact ih (j + 1) (by omega)
      · skip
        have c2 := Decidable.not_not.mp (mt zq_eq0.mpr c2)
        have e : lpf n ld i (r + 1) j = j := if_pos ⟨c, c2⟩
        refine zV.run kX0_leastOfPart 1 rfl ?_
        exact zV.iret kX0_leastOfPart rfl rfl (⟨by rw [e], rfl⟩)
theorem o_leastOfPart (E : zE) {w : zWd} {f g n : Nat} {ld : Nat → Nat} (h : zFo w f g n ld) {i : Nat} (hi : i < n) : zOk E mX0_leastOfPart 3 [.ref f, .int (nI i)] w (zR0 w (.int (nI (lpf n ld i i 0)))) := by
  refine zOk.of (by decide +kernel) (Nat.le_of_ble_eq_true rfl) ?_
  refine zV.run kX0_leastOfPart 2 rfl ?_
  exact o_leastOfPart_l E h hi i 0 (by omega)
theorem o_stepsToAll_l (E : zE) {w : zWd} {f g n : Nat} {ld : Nat → Nat} (h : zFo w f g n ld) (i : Int32) : ∀ (r k S : Nat), k + r = 65 → S < 64 → zV E mX0_stepsToAll 2 (zR0 w (.int (iI (staf n ld r S k)))) 6 [.ref f, .int i, .int (nI S), .int (nI k)] [] w := by
  obtain ⟨led, hf, hg, hl, h1, h5, hb⟩ := id h
  have p5 := p2le h5
  intro r
  induction r with
  | zero =>
    intro k S hk hS
    have e : k = 65 := by omega
    subst e
    refine zV.run kX0_stepsToAll 2 rfl ?_
    refine zV.ict kX0_stepsToAll (cd := .gt) rfl (show (64 : Int32) < nI 65 by decide) ?_
    refine zV.run kX0_stepsToAll 1 rfl ?_
    exact zV.iret kX0_stepsToAll rfl rfl (⟨rfl, rfl⟩)
  | succ r ih =>
    intro k S hk hS
    have b1 := sA_lt hb S
    refine zV.run kX0_stepsToAll 2 rfl ?_
    refine zV.icf kX0_stepsToAll (cd := .gt) rfl (fun q => absurd ((nI_ltI (a := 64) (b := k) (by omega) (by omega)).mp q) (by omega)) ?_
    refine zV.run kX0_stepsToAll 2 rfl ?_
    refine zV.cv kX0_stepsToAll rfl lX0_46 (o_spansAfter E h hS) (by decide) rfl (hf) rfl rfl rfl (Nat.le_of_ble_eq_true rfl) ?_
    rintro _ _ ⟨rfl, rfl⟩
    refine zV.run kX0_stepsToAll 3 rfl ?_
    refine zV.cv kX0_stepsToAll rfl lX0_56 (o_allSpans E h) (by decide) rfl (hf) rfl rfl rfl (Nat.le_of_ble_eq_true rfl) ?_
    rintro _ _ ⟨rfl, rfl⟩
    refine zV.ic2 kX0_stepsToAll rfl (fun c => ?_) (fun c => ?_)
    · skip
      have c := mt (nI_eq (a := sA n ld S) (b := 2 ^ n - 1) (by omega) (by omega)).mpr c
      have e : staf n ld (r + 1) S k = staf n ld r (sA n ld S) (k + 1) := if_neg c
      refine zV.run kX0_stepsToAll 2 rfl ?_
      rw [nI_1, e]
      exact ih (k + 1) (sA n ld S) (by omega) (by omega)
    · skip
      have c := (nI_eq (by omega) (by omega)).mp (Decidable.not_not.mp c)
      have e : staf n ld (r + 1) S k = (k : Int) := if_pos c
      refine zV.run kX0_stepsToAll 1 rfl ?_
      exact zV.iret kX0_stepsToAll rfl rfl (⟨by rw [e, nI_iI], rfl⟩)
theorem o_stepsToAll (E : zE) {w : zWd} {f g n : Nat} {ld : Nat → Nat} (h : zFo w f g n ld) {i : Nat} (hi : i < n) : zOk E mX0_stepsToAll 2 [.ref f, .int (nI i)] w (zR0 w (.int (iI (sta n ld i)))) := by
  obtain ⟨led, hf, hg, hl, h1, h5, hb⟩ := id h
  have hi2 : 2 ^ i < 2 ^ n := Nat.pow_lt_pow_right (by decide) hi
  have p5 := p2le h5
  refine zOk.of (by decide +kernel) (Nat.le_of_ble_eq_true rfl) ?_
  refine zV.run kX0_stepsToAll 6 rfl ?_
  rw [bt_sh i (by omega)]
  exact o_stepsToAll_l E h (nI i) 64 1 (2 ^ i) (by omega) (by omega)
theorem staf_rg (n : Nat) (ld : Nat → Nat) : ∀ (r k S : Nat), staf n ld r S k = -1 ∨ ((k : Int) ≤ staf n ld r S k ∧ staf n ld r S k < k + r)
  | 0, k, S => Or.inl rfl
  | r + 1, k, S => by
    unfold staf
    split
    · right; omega
    · rcases staf_rg n ld r (k + 1) (sA n ld S) with h | h
      · left; exact h
      · right; omega
theorem o_stepsToMix_l (E : zE) {w : zWd} {f g n : Nat} {ld : Nat → Nat} (h : zFo w f g n ld) : ∀ (r i : Nat) (s : Int) (z : Value), i + r = n → 0 ≤ s → s ≤ 64 → zV E mX0_stepsToMix 3 (zR0 w (.int (iI (stm n ld r i s)))) 4 [.ref f, .int (iI s), .int (nI i), z] [] w := by
  obtain ⟨led, hf, hg, hl, h1, h5, hb⟩ := id h
  intro r
  induction r with
  | zero =>
    intro i s z hi h0 h64
    have e : i = n := by omega
    subst e
    refine zV.run kX0_stepsToMix 2 rfl ?_
    refine zV.gf kX0_stepsToMix rfl fX0_9 (hf) rfl ?_
    refine zV.ict kX0_stepsToMix (cd := .ge) rfl (Int32.le_refl _) ?_
    refine zV.run kX0_stepsToMix 1 rfl ?_
    exact zV.iret kX0_stepsToMix rfl rfl (⟨rfl, rfl⟩)
  | succ r ih =>
    intro i s z hi h0 h64
    have hs : sta n ld i = -1 ∨ (1 ≤ sta n ld i ∧ sta n ld i < 1 + 64) := staf_rg n ld 64 1 (2 ^ i)
    refine zV.run kX0_stepsToMix 2 rfl ?_
    refine zV.gf kX0_stepsToMix rfl fX0_9 (hf) rfl ?_
    refine zV.icf kX0_stepsToMix (cd := .ge) rfl (nI_ge (by omega) (by omega)) ?_
    refine zV.run kX0_stepsToMix 2 rfl ?_
    refine zV.cv kX0_stepsToMix rfl lX0_53 (o_stepsToAll E h (i := i) (by omega)) (by decide) rfl (hf) rfl rfl rfl (Nat.le_of_ble_eq_true rfl) ?_
    rintro _ _ ⟨rfl, rfl⟩
    refine zV.run kX0_stepsToMix 3 rfl ?_
    refine zV.ic2 kX0_stepsToMix rfl (fun c => ?_) (fun c => ?_)
    · skip
      have c : ¬ sta n ld i = -1 := fun q => c (by rw [q]; rfl)
      refine zV.run kX0_stepsToMix 2 rfl ?_
      refine zV.mxI kX0_stepsToMix rfl lX0_44 (by decide) (Nat.le_of_ble_eq_true rfl) ?_
      refine zV.run kX0_stepsToMix 3 rfl ?_
      have e : stm n ld (r + 1) i s = stm n ld r (i + 1) (max s (sta n ld i)) := if_neg c
      have e2 : (if iI s < iI (sta n ld i) then iI (sta n ld i) else iI s) = iI (max s (sta n ld i)) := by
        by_cases q : s < sta n ld i
        · rw [if_pos ((iI_lt (by omega) (by omega) (by omega) (by omega)).mpr q)]; congr 1; omega
        · rw [if_neg (fun z => q ((iI_lt (by omega) (by omega) (by omega) (by omega)).mp z))]; congr 1; omega
      rw [nI_1, e, e2]
      exact ih (i + 1) (max s (sta n ld i)) _ (by omega) (by omega) (by omega)
    · skip
      have c : sta n ld i = -1 := (iI_eq (by omega) (by omega) (by omega) (by omega)).mp (show iI (sta n ld i) = iI (-1) from Decidable.not_not.mp c)
      have e : stm n ld (r + 1) i s = -1 := if_pos c
      refine zV.run kX0_stepsToMix 1 rfl ?_
      exact zV.iret kX0_stepsToMix rfl rfl (⟨by rw [e]; rfl, rfl⟩)
theorem o_stepsToMix (E : zE) {w : zWd} {f g n : Nat} {ld : Nat → Nat} (h : zFo w f g n ld) : zOk E mX0_stepsToMix 3 [.ref f] w (zR0 w (.int (iI (stm n ld n 0 0)))) := by
  refine zOk.of (by decide +kernel) (Nat.le_of_ble_eq_true rfl) ?_
  refine zV.run kX0_stepsToMix 4 rfl ?_
  exact o_stepsToMix_l E h n 0 0 _ (by omega) (by omega) (by omega)
