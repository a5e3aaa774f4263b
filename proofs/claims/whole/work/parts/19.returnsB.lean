/-! ===== Returns: what is counted ===== -/
theorem sumN_le {M : Nat} {f : Nat → Nat} : ∀ n, (∀ i, i < n → f i ≤ M) → sumN n f ≤ n * M
  | 0, _ => Nat.zero_le _
  | n + 1, h => by
    have h1 := sumN_le n (fun i hi => h i (by omega))
    have h2 := h n (by omega)
    show sumN n f + f n ≤ _
    rw [Nat.add_mul, Nat.one_mul]
    omega
theorem tp_le {n : Nat} (hn : n ≤ 5) (ld : Nat → Nat) : ∀ k i j, tp n ld k i j ≤ 5 ^ k
  | 0, i, j => by unfold tp; split <;> omega
  | k + 1, i, j => by
    have h := sumN_le (M := 5 ^ k) (f := fun b => if cov ld i b = true then tp n ld k b j else 0) n (fun b hb => by
      show (if cov ld i b = true then tp n ld k b j else 0) ≤ 5 ^ k
      split
      · exact tp_le hn ld k b j
      · exact Nat.zero_le _)
    have h2 := Nat.mul_le_mul_right (5 ^ k) hn
    show sumN n _ ≤ _
    rw [Nat.pow_succ]
    omega
theorem tp_le6 {n : Nat} (hn : n ≤ 5) (ld : Nat → Nat) {k : Nat} (hk : k ≤ 6) (i j : Nat) : tp n ld k i j ≤ 15625 :=
  Nat.le_trans (tp_le hn ld k i j) (Nat.pow_le_pow_right (by decide) hk)
theorem trc_le {n : Nat} (hn : n ≤ 5) (ld : Nat → Nat) {k : Nat} (hk : k ≤ 6) : trc n ld k ≤ 78125 := by
  have h := sumN_le (M := 15625) (f := fun i => tp n ld k i i) n (fun i _ => tp_le6 hn ld hk i i)
  unfold trc
  omega
theorem nwy_rg {n : Nat} (hn : n ≤ 5) (ld : Nat → Nat) (k : Nat) : -200000 ≤ nwy n ld k ∧ nwy n ld k ≤ 200000 := by
  have t1 := trc_le hn ld (k := 1) (by omega)
  have t2 := trc_le hn ld (k := 2) (by omega)
  have t3 := trc_le hn ld (k := 3) (by omega)
  have t4 := trc_le hn ld (k := 4) (by omega)
  have t5 := trc_le hn ld (k := 5) (by omega)
  have t6 := trc_le hn ld (k := 6) (by omega)
  unfold nwy
  split <;> omega
def edf (ld : Nat → Nat) (k : Nat) : Nat → Nat → Bool
  | 0, _ => false
  | r + 1, e => if (eps ld e).2 = true ∧ 0 < (eps ld e).1 ∧ k % (eps ld e).1 = 0 then true else edf ld k r (e + 1)
def cntC (n : Nat) (ld : Nat → Nat) (k : Nat) : Nat → Int
  | 0 => 0
  | i + 1 => cntC n ld k i + (if sor n ld i = k then 1 else 0)
def cntE (ld : Nat → Nat) (k : Nat) : Nat → Int
  | 0 => 0
  | e + 1 => cntE ld k e + (if (eps ld e).1 = k then 1 else 0)
def cnw (n : Nat) (ld : Nat → Nat) (k : Nat) : Int := nwy n ld k + cntC n ld k (n + 1) - cntE ld k (2 * n)
def cal (n : Nat) (ld : Nat → Nat) (k : Nat) : Nat → Int
  | 0 => 0
  | d + 1 => cal n ld k d + (if 0 < d ∧ k % d = 0 then cnw n ld d else 0)
def hsf (ld : Nat → Nat) (k : Nat) : Nat → Nat → Bool
  | 0, _ => false
  | r + 1, e => if (eps ld e).2 = true ∧ (eps ld e).1 = k then true else hsf ld k r (e + 1)
def hnw (n : Nat) (ld : Nat → Nat) (k : Nat) : Bool := hsf ld k (2 * n) 0 || decide (0 < cnw n ld k)
theorem cntC_rg (n : Nat) (ld : Nat → Nat) (k : Nat) : ∀ i, 0 ≤ cntC n ld k i ∧ cntC n ld k i ≤ i
  | 0 => ⟨Int.le_refl _, Int.le_refl _⟩
  | i + 1 => by have := cntC_rg n ld k i; unfold cntC; split <;> omega
theorem cntE_rg (ld : Nat → Nat) (k : Nat) : ∀ i, 0 ≤ cntE ld k i ∧ cntE ld k i ≤ i
  | 0 => ⟨Int.le_refl _, Int.le_refl _⟩
  | i + 1 => by have := cntE_rg ld k i; unfold cntE; split <;> omega
theorem cnw_rg {n : Nat} (hn : n ≤ 5) (ld : Nat → Nat) (k : Nat) : -300000 ≤ cnw n ld k ∧ cnw n ld k ≤ 300000 := by
  have h1 := nwy_rg hn ld k
  have h2 := cntC_rg n ld k (n + 1)
  have h3 := cntE_rg ld k (2 * n)
  unfold cnw
  omega
theorem epf_le (ld : Nat → Nat) (e : Nat) : ∀ r a k s, (epf ld e r a k s).1 ≤ k + r
  | 0, a, k, s => Nat.zero_le _
  | r + 1, a, k, s => by
    unfold epf
    split
    · exact Nat.zero_le _
    · split
      · show k ≤ _; omega
      · have := epf_le ld e r (nxe ld a) (k + 1) (s && decide (sl ld (a / 2) = 1 ∨ sl ld (a / 2) = -1)); omega
theorem eps_le (ld : Nat → Nat) (e : Nat) : (eps ld e).1 ≤ 7 := epf_le ld e 6 e 1 true
theorem sor_le (n : Nat) (ld : Nat → Nat) (i : Nat) : sor n ld i ≤ n + 2 := by
  have := sorf_le ld i (n + 1) i 1
  unfold sor
  omega
theorem o_isEndless_l (E : zE) {w : zWd} {n : Nat} {ld : Nat → Nat} (hS : zSd w n ld) (hn : n ≤ 5) {k : Nat} (hk : k ≤ 6) : ∀ (r e : Nat), e + r = 2 * n → zV E mX2_isEndless 1 (zR0 w (.int (zq (edf ld k r e = true)))) 2 [.ref 31, .int (nI k), .int (nI e)] [] w := by
  obtain ⟨tq, fa, fb, cp, ep, es, nw, rw, ⟨r1, r2, r3, r4, r5⟩, hP, hr, hcp, hep, hnw⟩ := id hS
  have e2 : (2 : Int32) * nI n = nI (2 * n) := pk_mul 2 n
  intro r
  induction r with
  | zero =>
    intro e he
    have ee : e = 2 * n := by omega
    subst ee
    refine zV.run kX2_isEndless 3 rfl ?_
    refine zV.gf kX2_isEndless rfl fX2_33 (r1) rfl ?_
    refine zV.run kX2_isEndless 1 rfl ?_
    rw [e2]
    refine zV.ict kX2_isEndless (cd := .ge) rfl (Int32.le_refl _) ?_
    refine zV.run kX2_isEndless 1 rfl ?_
    exact zV.zret kX2_isEndless rfl rfl (Or.inl rfl) (⟨rfl, rfl⟩)
  | succ r ih =>
    intro e he
    have h7 := eps_le ld e
    have hx := hep e (by omega)
    refine zV.run kX2_isEndless 3 rfl ?_
    refine zV.gf kX2_isEndless rfl fX2_33 (r1) rfl ?_
    refine zV.run kX2_isEndless 1 rfl ?_
    rw [e2]
    refine zV.icf kX2_isEndless (cd := .ge) rfl (nI_ge (by omega) (by omega)) ?_
    refine zV.run kX2_isEndless 1 rfl ?_
    refine zV.gf kX2_isEndless rfl fX2_25 (r1) rfl ?_
    refine zV.run kX2_isEndless 1 rfl ?_
    refine zV.zal kX2_isEndless rfl (r4) (e) (rfl) (by omega) (by decide) ?_
    rw [hx.2]
    refine zV.if2 kX2_isEndless rfl (fun c => ?_) (fun c => ?_)
    · skip
      have c := zq_eq0.mp c
      have ee : edf ld k (r + 1) e = edf ld k r (e + 1) := if_neg (fun q => c q.1)
      rw [ee]
      refine zV.run kX2_isEndless 2 rfl ?_
      rw [nI_1]
      exact ih (e + 1) (by omega)
    · skip
      have c := Decidable.not_not.mp (mt zq_eq0.mpr c)
      refine zV.run kX2_isEndless 1 rfl ?_
      refine zV.gf kX2_isEndless rfl fX2_22 (r1) rfl ?_
      refine zV.run kX2_isEndless 1 rfl ?_
      refine zV.ial kX2_isEndless rfl (r3) (e) (rfl) (by omega) (by decide) ?_
      rw [hx.1]
      refine zV.run kX2_isEndless 1 rfl ?_
      refine zV.cn kX2_isEndless rfl lX2_61 rfl (o_divides E w (d := (eps ld e).1) (k := k) (by omega) (by omega)) (by decide) rfl rfl (Nat.le_of_ble_eq_true rfl) ?_
      rintro _ _ ⟨rfl, rfl⟩
      refine zV.if2 kX2_isEndless rfl (fun c2 => ?_) (fun c2 => ?_)
      · skip
        have c2 := zq_eq0.mp c2
        have ee : edf ld k (r + 1) e = edf ld k r (e + 1) := if_neg (fun q => c2 q.2)
        rw [ee]
        refine zV.run kX2_isEndless 2 rfl ?_
        rw [nI_1]
        exact ih (e + 1) (by omega)
      · skip
        have c2 := Decidable.not_not.mp (mt zq_eq0.mpr c2)
        have ee : edf ld k (r + 1) e = true := if_pos ⟨c, c2⟩
        rw [ee]
        refine zV.run kX2_isEndless 1 rfl ?_
        exact zV.zret kX2_isEndless rfl rfl (Or.inr rfl) (⟨rfl, rfl⟩)
theorem o_isEndless (E : zE) {w : zWd} {n : Nat} {ld : Nat → Nat} (hS : zSd w n ld) (hn : n ≤ 5) {k : Nat} (hk : k ≤ 6) : zOk E mX2_isEndless 1 [.ref 31, .int (nI k)] w (zR0 w (.int (zq (edf ld k (2 * n) 0 = true)))) := by
  refine zOk.of (by decide +kernel) (Nat.le_of_ble_eq_true rfl) ?_
  refine zV.run kX2_isEndless 2 rfl ?_
  exact o_isEndless_l E hS hn hk (2 * n) 0 (by omega)
theorem o_countNew_2 (E : zE) {w : zWd} {n : Nat} {ld : Nat → Nat} (hS : zSd w n ld) (hn : n ≤ 5) {k : Nat} (hk : k ≤ 6) (c0 : Int) : ∀ (r e : Nat), e + r = 2 * n → zV E mX2_countNew 0 (zR0 w (.long (lI (c0 - cntE ld k (2 * n))))) 47 [.ref 31, .int (nI k), .long (lI (c0 - cntE ld k e)), zU, .int (nI e)] [] w := by
  obtain ⟨tq, fa, fb, cp, ep, es, nw, rw, ⟨r1, r2, r3, r4, r5⟩, hP, hr, hcp, hep, hnw⟩ := id hS
  have e2 : (2 : Int32) * nI n = nI (2 * n) := pk_mul 2 n
  intro r
  induction r with
  | zero =>
    intro e he
    have ee : e = 2 * n := by omega
    subst ee
    refine zV.run kX2_countNew 3 rfl ?_
    refine zV.gf kX2_countNew rfl fX2_33 (r1) rfl ?_
    refine zV.run kX2_countNew 1 rfl ?_
    rw [e2]
    refine zV.ict kX2_countNew (cd := .ge) rfl (Int32.le_refl _) ?_
    refine zV.run kX2_countNew 1 rfl ?_
    exact zV.lret kX2_countNew rfl rfl (⟨rfl, rfl⟩)
  | succ r ih =>
    intro e he
    have h7 := eps_le ld e
    have hx := hep e (by omega)
    refine zV.run kX2_countNew 3 rfl ?_
    refine zV.gf kX2_countNew rfl fX2_33 (r1) rfl ?_
    refine zV.run kX2_countNew 1 rfl ?_
    rw [e2]
    refine zV.icf kX2_countNew (cd := .ge) rfl (nI_ge (by omega) (by omega)) ?_
    refine zV.run kX2_countNew 2 rfl ?_
    refine zV.gf kX2_countNew rfl fX2_22 (r1) rfl ?_
    refine zV.run kX2_countNew 1 rfl ?_
    refine zV.ial kX2_countNew rfl (r3) (e) (rfl) (by omega) (by decide) ?_
    rw [hx.1]
    refine zV.run kX2_countNew 1 rfl ?_
    refine zV.ic2 kX2_countNew rfl (fun c => ?_) (fun c => ?_)
    · skip
      have c := mt (nI_eq (a := (eps ld e).1) (b := k) (by omega) (by omega)).mpr c
      have ee : cntE ld k (e + 1) = cntE ld k e + 0 := by show _ + (if _ then _ else _) = _; rw [if_neg c]
      refine zV.run kX2_countNew 5 rfl ?_
      rw [nI_1, show (0 : Int64) = lI 0 from rfl, lI_sub, show c0 - cntE ld k e - 0 = c0 - cntE ld k (e + 1) by omega]
      exact ih (e + 1) (by omega)
    · skip
      have c := (nI_eq (by omega) (by omega)).mp (Decidable.not_not.mp c)
      have ee : cntE ld k (e + 1) = cntE ld k e + 1 := by show _ + (if _ then _ else _) = _; rw [if_pos c]
      refine zV.run kX2_countNew 6 rfl ?_
      rw [nI_1, show (1 : Int64) = lI 1 from rfl, lI_sub, show c0 - cntE ld k e - 1 = c0 - cntE ld k (e + 1) by omega]
      exact ih (e + 1) (by omega)
theorem o_countNew_1 (E : zE) {w : zWd} {n : Nat} {ld : Nat → Nat} (hS : zSd w n ld) (hn : n ≤ 5) {k : Nat} (hk : k ≤ 6) : ∀ (r i : Nat), i + r = n + 1 → zV E mX2_countNew 0 (zR0 w (.long (lI (cnw n ld k)))) 10 [.ref 31, .int (nI k), .long (lI (nwy n ld k + cntC n ld k i)), zU, .int (nI i)] [] w := by
  obtain ⟨tq, fa, fb, cp, ep, es, nw, rw, ⟨r1, r2, r3, r4, r5⟩, hP, hr, hcp, hep, hnw⟩ := id hS
  intro r
  induction r with
  | zero =>
    intro i hi
    have ee : i = n + 1 := by omega
    subst ee
    refine zV.run kX2_countNew 2 rfl ?_
    refine zV.gf kX2_countNew rfl fX2_33 (r1) rfl ?_
    refine zV.ict kX2_countNew (cd := .gt) rfl (nI_lt (by omega) (by omega)) ?_
    refine zV.run kX2_countNew 2 rfl ?_
    have K := o_countNew_2 E hS hn hk (nwy n ld k + cntC n ld k (n + 1)) (2 * n) 0 (by omega)
    rw [show nwy n ld k + cntC n ld k (n + 1) - cntE ld k 0 = nwy n ld k + cntC n ld k (n + 1) by simp [cntE]] at K
    exact K
  | succ r ih =>
    intro i hi
    have h7 := sor_le n ld i
    have hx := hcp i (by omega)
    refine zV.run kX2_countNew 2 rfl ?_
    refine zV.gf kX2_countNew rfl fX2_33 (r1) rfl ?_
    refine zV.icf kX2_countNew (cd := .gt) rfl (nI_nlt (by omega) (by omega)) ?_
    refine zV.run kX2_countNew 2 rfl ?_
    refine zV.gf kX2_countNew rfl fX2_18 (r1) rfl ?_
    refine zV.run kX2_countNew 1 rfl ?_
    refine zV.ial kX2_countNew rfl (r2) (i) (rfl) (by omega) (by decide) ?_
    rw [hx]
    refine zV.run kX2_countNew 1 rfl ?_
    refine zV.ic2 kX2_countNew rfl (fun c => ?_) (fun c => ?_)
    · skip
      have c := mt (nI_eq (a := sor n ld i) (b := k) (by omega) (by omega)).mpr c
      have ee : cntC n ld k (i + 1) = cntC n ld k i + 0 := by show _ + (if _ then _ else _) = _; rw [if_neg c]
      refine zV.run kX2_countNew 5 rfl ?_
      rw [nI_1, show (0 : Int64) = lI 0 from rfl, lI_add, show nwy n ld k + cntC n ld k i + 0 = nwy n ld k + cntC n ld k (i + 1) by omega]
      exact ih (i + 1) (by omega)
    · skip
      have c := (nI_eq (by omega) (by omega)).mp (Decidable.not_not.mp c)
      have ee : cntC n ld k (i + 1) = cntC n ld k i + 1 := by show _ + (if _ then _ else _) = _; rw [if_pos c]
      refine zV.run kX2_countNew 6 rfl ?_
      rw [nI_1, show (1 : Int64) = lI 1 from rfl, lI_add, show nwy n ld k + cntC n ld k i + 1 = nwy n ld k + cntC n ld k (i + 1) by omega]
      exact ih (i + 1) (by omega)
theorem o_countNew (E : zE) {w : zWd} {n : Nat} {ld : Nat → Nat} (hS : zSd w n ld) (hn : n ≤ 5) {k : Nat} (h1k : 1 ≤ k) (hk : k ≤ 6) : zOk E mX2_countNew 0 [.ref 31, .int (nI k)] w (zR0 w (.long (lI (cnw n ld k)))) := by
  obtain ⟨tq, fa, fb, cp, ep, es, nw, rw, ⟨r1, r2, r3, r4, r5⟩, hP, hr, hcp, hep, hnw⟩ := id hS
  refine zOk.of (by decide +kernel) (Nat.le_of_ble_eq_true rfl) ?_
  refine zV.run kX2_countNew 1 rfl ?_
  refine zV.gf kX2_countNew rfl fX2_29 (r1) rfl ?_
  refine zV.run kX2_countNew 1 rfl ?_
  refine zV.lal kX2_countNew rfl (r5) (k) (rfl) (by omega) (by decide) ?_
  rw [hnw k h1k hk]
  refine zV.run kX2_countNew 3 rfl ?_
  have K := o_countNew_1 E hS hn hk (n + 1) 0 (by omega)
  rw [show nwy n ld k + cntC n ld k 0 = nwy n ld k by simp [cntC]] at K
  exact K
theorem o_countAll_l (E : zE) {w : zWd} {n : Nat} {ld : Nat → Nat} (hS : zSd w n ld) (hn : n ≤ 5) {k : Nat} (hk : k ≤ 6) : ∀ (r d : Nat), d + r = k + 1 → 1 ≤ d → zV E mX2_countAll 1 (zR0 w (.long (lI (cal n ld k (k + 1))))) 5 [.ref 31, .int (nI k), .long (lI (cal n ld k d)), zU, .int (nI d)] [] w := by
  obtain ⟨tq, fa, fb, cp, ep, es, nw, rw, ⟨r1, r2, r3, r4, r5⟩, hP, hr, hcp, hep, hnw⟩ := id hS
  intro r
  induction r with
  | zero =>
    intro d hd h1
    have ee : d = k + 1 := by omega
    subst ee
    refine zV.run kX2_countAll 2 rfl ?_
    refine zV.ict kX2_countAll (cd := .gt) rfl (nI_lt (by omega) (by omega)) ?_
    refine zV.run kX2_countAll 1 rfl ?_
    exact zV.lret kX2_countAll rfl rfl (⟨rfl, rfl⟩)
  | succ r ih =>
    intro d hd h1
    refine zV.run kX2_countAll 2 rfl ?_
    refine zV.icf kX2_countAll (cd := .gt) rfl (nI_nlt (by omega) (by omega)) ?_
    refine zV.run kX2_countAll 3 rfl ?_
    refine zV.cn kX2_countAll rfl lX2_61 rfl (o_divides E w (d := d) (k := k) (by omega) (by omega)) (by decide) rfl rfl (Nat.le_of_ble_eq_true rfl) ?_
    rintro _ _ ⟨rfl, rfl⟩
    refine zV.if2 kX2_countAll rfl (fun c => ?_) (fun c => ?_)
    · skip
      have c := zq_eq0.mp c
      have ee : cal n ld k (d + 1) = cal n ld k d + 0 := by show _ + (if _ then _ else _) = _; rw [if_neg c]
      refine zV.run kX2_countAll 5 rfl ?_
      rw [nI_1, show (0 : Int64) = lI 0 from rfl, lI_add, ← ee]
      exact ih (d + 1) (by omega) (by omega)
    · skip
      have c := Decidable.not_not.mp (mt zq_eq0.mpr c)
      have ee : cal n ld k (d + 1) = cal n ld k d + cnw n ld d := by show _ + (if _ then _ else _) = _; rw [if_pos c]
      refine zV.run kX2_countAll 2 rfl ?_
      refine zV.cv kX2_countAll rfl lX2_76 (o_countNew E hS hn (k := d) (by omega) (by omega)) (by decide) rfl (r1) rfl rfl rfl (Nat.le_of_ble_eq_true rfl) ?_
      rintro _ _ ⟨rfl, rfl⟩
      refine zV.run kX2_countAll 5 rfl ?_
      rw [nI_1, lI_add, ← ee]
      exact ih (d + 1) (by omega) (by omega)
theorem o_countAll (E : zE) {w : zWd} {n : Nat} {ld : Nat → Nat} (hS : zSd w n ld) (hn : n ≤ 5) {k : Nat} (hk : k ≤ 6) : zOk E mX2_countAll 1 [.ref 31, .int (nI k)] w (zR0 w (.long (lI (cal n ld k (k + 1))))) := by
  refine zOk.of (by decide +kernel) (Nat.le_of_ble_eq_true rfl) ?_
  refine zV.run kX2_countAll 4 rfl ?_
  have K := o_countAll_l E hS hn hk k 1 (by omega) (by omega)
  rw [show cal n ld k 1 = 0 by simp [cal]] at K
  exact K
theorem o_hasNew_l (E : zE) {w : zWd} {n : Nat} {ld : Nat → Nat} (hS : zSd w n ld) (hn : n ≤ 5) {k : Nat} (h1k : 1 ≤ k) (hk : k ≤ 6) : ∀ (r e : Nat), e + r = 2 * n → zV E mX2_hasNew 1 (zR0 w (.int (zq ((hsf ld k r e || decide (0 < cnw n ld k)) = true)))) 2 [.ref 31, .int (nI k), .int (nI e)] [] w := by
  obtain ⟨tq, fa, fb, cp, ep, es, nw, rw, ⟨r1, r2, r3, r4, r5⟩, hP, hr, hcp, hep, hnw⟩ := id hS
  have e2 : (2 : Int32) * nI n = nI (2 * n) := pk_mul 2 n
  have hg := cnw_rg hn ld k
  intro r
  induction r with
  | zero =>
    intro e he
    have ee : e = 2 * n := by omega
    subst ee
    refine zV.run kX2_hasNew 3 rfl ?_
    refine zV.gf kX2_hasNew rfl fX2_33 (r1) rfl ?_
    refine zV.run kX2_hasNew 1 rfl ?_
    rw [e2]
    refine zV.ict kX2_hasNew (cd := .ge) rfl (Int32.le_refl _) ?_
    refine zV.run kX2_hasNew 2 rfl ?_
    refine zV.cv kX2_hasNew rfl lX2_76 (o_countNew E hS hn h1k hk) (by decide) rfl (r1) rfl rfl rfl (Nat.le_of_ble_eq_true rfl) ?_
    rintro _ _ ⟨rfl, rfl⟩
    refine zV.run kX2_hasNew 1 rfl ?_
    refine zV.il2 kX2_hasNew rfl rfl (fun c => ?_) (fun c => ?_)
    · skip
      have c := (lI_le (a := cnw n ld k) (b := 0) (by omega) (by omega) (by omega) (by omega)).mp c
      refine zV.run kX2_hasNew 1 rfl ?_
      exact zV.zret kX2_hasNew rfl rfl (Or.inl rfl) (⟨by rw [zq_f]; simp [hsf]; omega, rfl⟩)
    · skip
      have c := mt (lI_le (a := cnw n ld k) (b := 0) (by omega) (by omega) (by omega) (by omega)).mpr c
      refine zV.run kX2_hasNew 2 rfl ?_
      exact zV.zret kX2_hasNew rfl rfl (Or.inr rfl) (⟨by rw [zq_t]; simp [hsf]; omega, rfl⟩)
  | succ r ih =>
    intro e he
    have h7 := eps_le ld e
    have hx := hep e (by omega)
    refine zV.run kX2_hasNew 3 rfl ?_
    refine zV.gf kX2_hasNew rfl fX2_33 (r1) rfl ?_
    refine zV.run kX2_hasNew 1 rfl ?_
    rw [e2]
    refine zV.icf kX2_hasNew (cd := .ge) rfl (nI_ge (by omega) (by omega)) ?_
    refine zV.run kX2_hasNew 1 rfl ?_
    refine zV.gf kX2_hasNew rfl fX2_25 (r1) rfl ?_
    refine zV.run kX2_hasNew 1 rfl ?_
    refine zV.zal kX2_hasNew rfl (r4) (e) (rfl) (by omega) (by decide) ?_
    rw [hx.2]
    refine zV.if2 kX2_hasNew rfl (fun c => ?_) (fun c => ?_)
    · skip
      have c := zq_eq0.mp c
      have ee : hsf ld k (r + 1) e = hsf ld k r (e + 1) := if_neg (fun q => c q.1)
      rw [ee]
      refine zV.run kX2_hasNew 2 rfl ?_
      rw [nI_1]
      exact ih (e + 1) (by omega)
    · skip
      have c := Decidable.not_not.mp (mt zq_eq0.mpr c)
      refine zV.run kX2_hasNew 1 rfl ?_
      refine zV.gf kX2_hasNew rfl fX2_22 (r1) rfl ?_
      refine zV.run kX2_hasNew 1 rfl ?_
      refine zV.ial kX2_hasNew rfl (r3) (e) (rfl) (by omega) (by decide) ?_
      rw [hx.1]
      refine zV.run kX2_hasNew 1 rfl ?_
      refine zV.ic2 kX2_hasNew rfl (fun c2 => ?_) (fun c2 => ?_)
      · skip
        have c2 := mt (nI_eq (a := (eps ld e).1) (b := k) (by omega) (by omega)).mpr c2
        have ee : hsf ld k (r + 1) e = hsf ld k r (e + 1) := if_neg (fun q => c2 q.2)
        rw [ee]
        refine zV.run kX2_hasNew 2 rfl ?_
        rw [nI_1]
        exact ih (e + 1) (by omega)
      · skip
        have c2 := (nI_eq (by omega) (by omega)).mp (Decidable.not_not.mp c2)
        have ee : hsf ld k (r + 1) e = true := if_pos ⟨c, c2⟩
        rw [ee]
        refine zV.run kX2_hasNew 1 rfl ?_
        exact zV.zret kX2_hasNew rfl rfl (Or.inr rfl) (⟨rfl, rfl⟩)
theorem o_hasNew (E : zE) {w : zWd} {n : Nat} {ld : Nat → Nat} (hS : zSd w n ld) (hn : n ≤ 5) {k : Nat} (h1k : 1 ≤ k) (hk : k ≤ 6) : zOk E mX2_hasNew 1 [.ref 31, .int (nI k)] w (zR0 w (.int (zq (hnw n ld k = true)))) := by
  refine zOk.of (by decide +kernel) (Nat.le_of_ble_eq_true rfl) ?_
  refine zV.run kX2_hasNew 2 rfl ?_
  exact o_hasNew_l E hS hn h1k hk (2 * n) 0 (by omega)
