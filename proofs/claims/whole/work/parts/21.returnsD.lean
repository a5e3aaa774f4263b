/-! ===== Returns: nextSpan, walk, find ===== -/
abbrev zRo (n : Nat) (tq fa fb : Int64) : va_E := zOb 2 [.ref 32, .ref 45, .ref 46, .ref 47, .ref 48, .int (nI n), .long tq, .long fa, .long fb]
theorem nsf_rg (n : Nat) (ld : Nat → Nat) (c home rest : Nat) (up : Bool) (hn : n ≤ 5) (hr6 : rest ≤ 6) : ∀ (r q : Nat) (t : Int), q + r = n → ((nsf n ld c home rest up r q t).1 = -1 ∨ (0 ≤ (nsf n ld c home rest up r q t).1 ∧ (nsf n ld c home rest up r q t).1 < n)) ∧ t - 15625 * r ≤ (nsf n ld c home rest up r q t).2 ∧ (nsf n ld c home rest up r q t).2 ≤ t
  | 0, q, t, h => ⟨Or.inl rfl, by show t - 15625 * (0 : Nat) ≤ t; omega, by show t ≤ t; omega⟩
  | r + 1, q, t, h => by
    obtain ⟨NX, TH, p1, p2, p3, p4⟩ : ∃ (NX : Nat) (TH : Int), NX < n ∧ 0 ≤ TH ∧ TH ≤ 15625 ∧ nsf n ld c home rest up (r + 1) q t = if t < TH then ((NX : Int), t) else nsf n ld c home rest up r (q + 1) (t - TH) := by
      refine ⟨if up = true then q else n - 1 - q, if cov ld c (if up = true then q else n - 1 - q) = true then (tp n ld rest (if up = true then q else n - 1 - q) home : Int) else 0, by split <;> omega, ?_, ?_, rfl⟩
      · split <;> omega
      · have h1 := tp_le6 hn ld hr6 (if up = true then q else n - 1 - q) home
        generalize (if up = true then q else n - 1 - q) = z at *
        split <;> omega
    have h2 := nsf_rg n ld c home rest up hn hr6 r (q + 1) (t - TH) (by omega)
    rw [p4]
    by_cases hc : t < TH
    · rw [if_pos hc]
      exact ⟨Or.inr ⟨by show (0 : Int) ≤ (NX : Int); omega, by show (NX : Int) < n; omega⟩, by show t - 15625 * ((r + 1 : Nat) : Int) ≤ t; omega, by show t ≤ t; omega⟩
    · rw [if_neg hc]
      exact ⟨h2.1, by omega, by omega⟩
theorem o_nextSpan_l (E : zE) {w0 : zWd} {f g n : Nat} {ld : Nat → Nat} {fa fb : Int64} {rw : Nat → Nat → Int64} (hF0 : zFo w0 f g n ld) (hf31 : f < 31) (hg31 : g < 31) (hP0 : zPw w0 32 n rw) (hrr : ∀ q a b, q ≤ 6 → a < n → b < n → rw q (5 * a + b) = lN (tp n ld q a b)) {c home rest : Nat} (hc : c < n) (hh : home < n) (hrest : rest ≤ 6) (up : Bool) :
    ∀ (r q : Nat) (t : Int) (w : zWd) (z7 z8 z9 : Value), q + r = n → zIs w 31 (zRo n (lI t) fa fb) → (∀ a, a ≠ 31 → w a = w0 a) → -1000000000000 + 15625 * r ≤ t → t ≤ 1000000000000 → zV E mX2_nextSpan 2 (fun r' w' => r' = some (.int (iI (nsf n ld c home rest up r q t).1)) ∧ zIs w' 31 (zRo n (lI (nsf n ld c home rest up r q t).2) fa fb) ∧ ∀ a, a ≠ 31 → w' a = w0 a) 3 [.ref 31, .ref f, .int (nI c), .int (nI home), .int (nI rest), .int (zq (up = true)), .int (nI q), z7, z8, z9] [] w := by
  obtain ⟨led, hf0, -, -, h1, h5, hb⟩ := id hF0
  intro r
  induction r with
  | zero =>
    intro q t w z7 z8 z9 hq r1 hw ht ht2
    have e : q = n := by omega
    subst e
    refine zV.run kX2_nextSpan 2 rfl ?_
    refine zV.gf kX2_nextSpan rfl fX2_33 (r1) rfl ?_
    refine zV.ict kX2_nextSpan (cd := .ge) rfl (Int32.le_refl _) ?_
    refine zV.run kX2_nextSpan 1 rfl ?_
    exact zV.iret kX2_nextSpan rfl rfl (⟨rfl, r1, hw⟩)
  | succ r ih =>
    intro q t w z7 z8 z9 hq r1 hw ht ht2
    have hF : zFo w f g n ld := hF0.k (hw f (by omega)) (hw g (by omega))
    have hf : zIs w f (zOb 0 [.int (nI n), .ref g]) := hf0.k (hw f (by omega))
    have hP : zPw w 32 n rw := ⟨hP0.1.k (hw _ (by omega)), ⟨hP0.2.1.choose, hP0.2.1.choose_spec.1.k (hw _ (by omega)), hP0.2.1.choose_spec.2⟩, fun j hj => (hP0.2.2 j hj).k (hw _ (by omega))⟩
    have main : ∀ (nx : Nat) (y8 y9 : Value), nx = (if up = true then q else n - 1 - q) → zV E mX2_nextSpan 2 (fun r' w' => r' = some (.int (iI (nsf n ld c home rest up (r + 1) q t).1)) ∧ zIs w' 31 (zRo n (lI (nsf n ld c home rest up (r + 1) q t).2) fa fb) ∧ ∀ a, a ≠ 31 → w' a = w0 a) 33 [.ref 31, .ref f, .int (nI c), .int (nI home), .int (nI rest), .int (zq (up = true)), .int (nI q), .int (nI nx), y8, y9] [] w := by
      intro nx y8 y9 hnx
      have hnn : nx < n := by rw [hnx]; split <;> omega
      have htp := tp_le6 h5 ld hrest nx home
      have tail : ∀ th : Nat, (th : Int) = (if cov ld c nx = true then (tp n ld rest nx home : Int) else 0) → th ≤ 15625 → zV E mX2_nextSpan 2 (fun r' w' => r' = some (.int (iI (nsf n ld c home rest up (r + 1) q t).1)) ∧ zIs w' 31 (zRo n (lI (nsf n ld c home rest up (r + 1) q t).2) fa fb) ∧ ∀ a, a ≠ 31 → w' a = w0 a) 61 [.ref 31, .ref f, .int (nI c), .int (nI home), .int (nI rest), .int (zq (up = true)), .int (nI q), .int (nI nx), .long (lN th), zU] [] w := by
        intro th hth hth2
        have eq1 : nsf n ld c home rest up (r + 1) q t = if t < (th : Int) then ((nx : Int), t) else nsf n ld c home rest up r (q + 1) (t - (th : Int)) := by
          rw [hth, hnx]; rfl
        rw [eq1]
        refine zV.run kX2_nextSpan 1 rfl ?_
        refine zV.gf kX2_nextSpan rfl fX2_79 (r1) rfl ?_
        rw [lN_lI]
        refine zV.run kX2_nextSpan 1 rfl ?_
        refine zV.il2 kX2_nextSpan rfl rfl (fun cc => ?_) (fun cc => ?_)
        · skip
          have cc := (lI_le (a := (th : Int)) (b := t) (by omega) (by omega) (by omega) (by omega)).mp cc
          rw [if_neg (by omega)]
          refine zV.run kX2_nextSpan 2 rfl ?_
          refine zV.gf kX2_nextSpan rfl fX2_79 (r1) rfl ?_
          refine zV.run kX2_nextSpan 2 rfl ?_
          refine zV.pfl kX2_nextSpan rfl pX2_79 (r1) (Nat.le_of_ble_eq_true rfl) ?_
          refine zV.run kX2_nextSpan 2 rfl ?_
          rw [nI_1, lI_sub]
          exact ih (q + 1) (t - (th : Int)) _ _ _ _ (by omega) (zIs.s r1.1) (fun a ha => by rw [zup_ne ha]; exact hw a ha) (by omega) (by omega)
        · skip
          have cc := mt (lI_le (a := (th : Int)) (b := t) (by omega) (by omega) (by omega) (by omega)).mpr cc
          rw [if_pos (by omega)]
          refine zV.run kX2_nextSpan 1 rfl ?_
          exact zV.iret kX2_nextSpan rfl rfl (⟨by rw [nI_iI], r1, hw⟩)
      refine zV.run kX2_nextSpan 3 rfl ?_
      refine zV.cv kX2_nextSpan rfl lX2_104 (o_leadsOver E hF hc hnn) (by decide) rfl (hf) rfl rfl rfl (Nat.le_of_ble_eq_true rfl) ?_
      rintro _ _ ⟨rfl, rfl⟩
      refine zV.if2 kX2_nextSpan rfl (fun c2 => ?_) (fun c2 => ?_)
      · skip
        have c2 := zq_eq0.mp c2
        refine zV.run kX2_nextSpan 2 rfl ?_
        exact tail 0 (by rw [if_neg c2]; rfl) (by omega)
      · skip
        have c2 := Decidable.not_not.mp (mt zq_eq0.mpr c2)
        refine zV.run kX2_nextSpan 1 rfl ?_
        refine zV.gf kX2_nextSpan rfl fX2_12 (r1) rfl ?_
        refine zV.run kX2_nextSpan 3 rfl ?_
        refine zV.cv kX2_nextSpan rfl lX2_93 (o_between E hP (i := nx) (j := home) (k := rest) (by omega) (by omega) (by omega)) (by decide) rfl (hP.1) rfl rfl rfl (Nat.le_of_ble_eq_true rfl) ?_
        rintro _ _ ⟨rfl, rfl⟩
        refine zV.run kX2_nextSpan 2 rfl ?_
        rw [hrr rest nx home hrest hnn hh]
        exact tail _ (by rw [if_pos c2]) htp
    refine zV.run kX2_nextSpan 2 rfl ?_
    refine zV.gf kX2_nextSpan rfl fX2_33 (r1) rfl ?_
    refine zV.icf kX2_nextSpan (cd := .ge) rfl (nI_ge (by omega) (by omega)) ?_
    refine zV.run kX2_nextSpan 1 rfl ?_
    refine zV.if2 kX2_nextSpan rfl (fun c1 => ?_) (fun c1 => ?_)
    · skip
      have c1 := zq_eq0.mp c1
      refine zV.run kX2_nextSpan 1 rfl ?_
      refine zV.gf kX2_nextSpan rfl fX2_33 (r1) rfl ?_
      refine zV.run kX2_nextSpan 5 rfl ?_
      rw [show (1 : Int32) = nI 1 from rfl, pk_sub h1, pk_sub (by omega)]
      exact main _ _ _ (by rw [if_neg c1])
    · skip
      have c1 := Decidable.not_not.mp (mt zq_eq0.mpr c1)
      refine zV.run kX2_nextSpan 3 rfl ?_
      exact main _ _ _ (by rw [if_pos c1])
theorem o_nextSpan (E : zE) {w : zWd} {f g n : Nat} {ld : Nat → Nat} {fa fb : Int64} {rw : Nat → Nat → Int64} (hF : zFo w f g n ld) (hf31 : f < 31) (hg31 : g < 31) (hP : zPw w 32 n rw) (hrr : ∀ q a b, q ≤ 6 → a < n → b < n → rw q (5 * a + b) = lN (tp n ld q a b)) {c home rest : Nat} (hc : c < n) (hh : home < n) (hrest : rest ≤ 6) (up : Bool) {t : Int} (r1 : zIs w 31 (zRo n (lI t) fa fb)) (ht : -1000000000000 + 15625 * n ≤ t) (ht2 : t ≤ 1000000000000) : zOk E mX2_nextSpan 2 [.ref 31, .ref f, .int (nI c), .int (nI home), .int (nI rest), .int (zq (up = true))] w (fun r' w' => r' = some (.int (iI (nsf n ld c home rest up n 0 t).1)) ∧ zIs w' 31 (zRo n (lI (nsf n ld c home rest up n 0 t).2) fa fb) ∧ ∀ a, a ≠ 31 → w' a = w a) := by
  refine zOk.of (by decide +kernel) (Nat.le_of_ble_eq_true rfl) ?_
  refine zV.run kX2_nextSpan 2 rfl ?_
  exact o_nextSpan_l E hF hf31 hg31 hP hrr hc hh hrest up n 0 t w _ _ _ (by omega) r1 (fun _ _ => rfl) ht ht2
theorem o_walk_l (E : zE) {w0 : zWd} {f g n k : Nat} {ld : Nat → Nat} {fa fb : Int64} {rw : Nat → Nat → Int64} (hF0 : zFo w0 f g n ld) (hf31 : f < 31) (hg31 : g < 31) (hP0 : zPw w0 32 n rw) (hrr : ∀ q a b, q ≤ 6 → a < n → b < n → rw q (5 * a + b) = lN (tp n ld q a b)) {home : Nat} (hh : home < n) :
    ∀ (r c : Nat) (S F t B : Int) (w : zWd) (z10 : Value), r ≤ 6 → c < n → -B ≤ S → S ≤ B → 1 ≤ B → B * 5 ^ r ≤ 15625 → -(100 * B - 50) ≤ F → F ≤ 100 * B - 50 → zIs w 31 (zRo n (lI t) fa fb) → (∀ a, a ≠ 31 → w a = w0 a) → -900000000000 + 100000 * r ≤ t → t ≤ 1000000000000 → zV E mX2_walk 3 (fun r' w' => r' = some (.int (zq ((wkf n ld home r c S F t).isSome = true))) ∧ zFd w0 w' n ld (wkf n ld home r c S F t)) 14 [.ref 31, .ref f, .int (nI k), .int (nI home), .long (lI S), zU, .long (lI F), zU, .int (nI c), .int (iI ((r : Int) - 1)), z10] [] w := by
  obtain ⟨led, hf0, hg0, hl, h1, h5, hb⟩ := id hF0
  intro r
  induction r with
  | zero =>
    intro c S F t B w z10 hr hc hS1 hS2 hB1 hB hF1 hF2 r1 hw ht ht2
    have hB2 : B ≤ 15625 := by simpa using hB
    refine zV.run kX2_walk 1 rfl ?_
    refine zV.ift kX2_walk (cd := .lt) rfl (show iI (((0 : Nat) : Int) - 1) < 0 by decide) ?_
    refine zV.run kX2_walk 5 rfl ?_
    rw [show (1 : Int64) = lI 1 from rfl, lI_sub]
    refine zV.cv kX2_walk rfl lX2_82 (o_settle E (ld := ld) r1 (a := F) (b := 1 - S) (by omega) (by omega) (by omega) (by omega)) (by decide) rfl (r1) rfl rfl rfl (Nat.le_of_ble_eq_true rfl) ?_
    rintro _ w9 ⟨rfl, q1, q2⟩
    exact zV.zret kX2_walk rfl rfl (zq01 _) (⟨rfl, fun a ha => (q1 a ha).trans (hw a ha), q2⟩)
  | succ r ih =>
    intro c S F t B w z10 hr hc hS1 hS2 hB1 hB hF1 hF2 r1 hw ht ht2
    have hF : zFo w f g n ld := hF0.k (hw f (by omega)) (hw g (by omega))
    have hf : zIs w f (zOb 0 [.int (nI n), .ref g]) := hf0.k (hw f (by omega))
    have hg : zIs w g (zIA 6 led) := hg0.k (hw g (by omega))
    have hP : zPw w 32 n rw := ⟨hP0.1.k (hw _ (by omega)), ⟨hP0.2.1.choose, hP0.2.1.choose_spec.1.k (hw _ (by omega)), hP0.2.1.choose_spec.2⟩, fun j hj => (hP0.2.2 j hj).k (hw _ (by omega))⟩
    have b1 := sl_rg h5 hb hc
    have lc := hb c (by omega)
    have m1 := mul5 b1.1 b1.2 hS1 hS2
    have m2 := mul5 b1.1 b1.2 hF1 hF2
    have m3 : -25 ≤ sl ld c * c ∧ sl ld c * c ≤ 25 := by
      have := mul5 (S := (c : Int)) (B := 5) b1.1 b1.2 (by omega) (by omega)
      rw [Int.mul_comm]
      omega
    have hB3 : (5 * B) * 5 ^ r ≤ 15625 := by rw [Int.pow_succ] at hB; rw [Int.mul_comm 5 B, Int.mul_assoc, Int.mul_comm 5]; exact hB
    have hB4 : 5 * B ≤ 15625 := by
      have p0 : (1 : Int) ≤ 5 ^ r := by
        have := Nat.pow_le_pow_right (show 0 < 5 by decide) (Nat.zero_le r)
        have h9 : ((5 ^ r : Nat) : Int) = (5 : Int) ^ r := by simp
        omega
      have := Int.mul_le_mul_of_nonneg_left p0 (show 0 ≤ 5 * B by omega)
      rw [Int.mul_one] at this
      omega
    have hb5 : B ≤ 3125 := by omega
    have rest1 : iI (((r + 1 : Nat) : Int) - 1) = nI r := by rw [nI_iI]; congr 1; omega
    refine zV.run kX2_walk 1 rfl ?_
    refine zV.iff kX2_walk (cd := .lt) rfl (by rw [rest1]; exact nI_pos (by omega)) ?_
    refine zV.run kX2_walk 2 rfl ?_
    refine zV.cv kX2_walk rfl lX2_65 (o_slopeOf E hF hc) (by decide) rfl (hf) rfl rfl rfl (Nat.le_of_ble_eq_true rfl) ?_
    rintro _ _ ⟨rfl, rfl⟩
    refine zV.run kX2_walk 11 rfl ?_
    refine zV.gf kX2_walk rfl fX2_97 (hf) rfl ?_
    refine zV.run kX2_walk 1 rfl ?_
    refine zV.ial kX2_walk rfl (hg) (c) (rfl) (by omega) (by decide) ?_
    refine zV.run kX2_walk 7 rfl ?_
    have eS : lI S * (iI (sl ld c)).toInt64 = lI (S * sl ld c) := by rw [iI_l (by omega) (by omega), lI_mul]
    have eF : (iI (sl ld c)).toInt64 * lI F + (led c).toInt64 - (iI (sl ld c) * nI c).toInt64 = lI (sl ld c * F + ld c - sl ld c * c) := by
      rw [hl c (by omega), nI_iI, nI_iI, iI_mul, iI_l (by omega) (by omega), iI_l (by omega) (by omega), iI_l (by omega) (by omega), lI_mul, lI_add, lI_sub]
    rw [eS, eF]
    have rg := nsf_rg n ld c home r (decide (0 < S * sl ld c)) h5 (by omega) n 0 t (by omega)
    have after : ∀ (w9 : zWd), zIs w9 31 (zRo n (lI (nsf n ld c home r (decide (0 < S * sl ld c)) n 0 t).2) fa fb) → (∀ a, a ≠ 31 → w9 a = w a) → zV E mX2_walk 3 (fun r' w' => r' = some (.int (zq ((wkf n ld home (r + 1) c S F t).isSome = true))) ∧ zFd w0 w' n ld (wkf n ld home (r + 1) c S F t)) 81 [.ref 31, .ref f, .int (nI k), .int (nI home), .long (lI (S * sl ld c)), zU, .long (lI (sl ld c * F + ld c - sl ld c * c)), zU, .int (nI c), .int (iI (((r + 1 : Nat) : Int) - 1)), .int (iI (sl ld c))] [.int (iI (nsf n ld c home r (decide (0 < S * sl ld c)) n 0 t).1)] w9 := by
      intro w9 r19 hw9
      refine zV.run kX2_walk 3 rfl ?_
      refine zV.ic2 kX2_walk rfl (fun c2 => ?_) (fun c2 => ?_)
      · skip
        have c2 : ¬ (nsf n ld c home r (decide (0 < S * sl ld c)) n 0 t).1 = -1 := fun q => c2 (by rw [q]; rfl)
        have hrg : 0 ≤ (nsf n ld c home r (decide (0 < S * sl ld c)) n 0 t).1 ∧ (nsf n ld c home r (decide (0 < S * sl ld c)) n 0 t).1 < n := rg.1.resolve_left c2
        have ew : wkf n ld home (r + 1) c S F t = wkf n ld home r (nsf n ld c home r (decide (0 < S * sl ld c)) n 0 t).1.toNat (S * sl ld c) (sl ld c * F + ld c - sl ld c * c) (nsf n ld c home r (decide (0 < S * sl ld c)) n 0 t).2 := if_neg c2
        rw [ew]
        refine zV.run kX2_walk 2 rfl ?_
        rw [show iI (((r + 1 : Nat) : Int) - 1) + (-1) = iI ((r : Int) - 1) by rw [show (-1 : Int32) = iI (-1) from rfl, iI_add]; congr 1; omega]
        rw [show iI (nsf n ld c home r (decide (0 < S * sl ld c)) n 0 t).1 = nI (nsf n ld c home r (decide (0 < S * sl ld c)) n 0 t).1.toNat by rw [nI_iI, Int.toNat_of_nonneg hrg.1]]
        have m2' : -(5 * (100 * B - 50)) ≤ sl ld c * F ∧ sl ld c * F ≤ 5 * (100 * B - 50) := by rw [Int.mul_comm (sl ld c) F]; exact m2
        exact ih _ _ _ _ (5 * B) w9 _ (by omega) (by omega) m1.1 m1.2 (by omega) hB3 (by omega) (by omega) r19 (fun a ha => (hw9 a ha).trans (hw a ha)) (by omega) (by omega)
      · skip
        have c2 : (nsf n ld c home r (decide (0 < S * sl ld c)) n 0 t).1 = -1 := (iI_eq (by omega) (by omega) (by omega) (by omega)).mp (show iI _ = iI (-1) from Decidable.not_not.mp c2)
        have ew : wkf n ld home (r + 1) c S F t = none := if_pos c2
        rw [ew]
        refine zV.run kX2_walk 1 rfl ?_
        exact zV.zret kX2_walk rfl rfl (Or.inl rfl) (⟨rfl, fun a ha => (hw9 a ha).trans (hw a ha), _, _, _, r19, fun p hp => by cases hp⟩)
    refine zV.run kX2_walk 8 rfl ?_
    refine zV.il2 kX2_walk rfl rfl (fun c1 => ?_) (fun c1 => ?_)
    · skip
      have c1 := (lI_le (a := S * sl ld c) (b := 0) (by omega) (by omega) (by omega) (by omega)).mp c1
      have eb : decide (0 < S * sl ld c) = false := decide_eq_false (by omega)
      refine zV.run kX2_walk 1 rfl ?_
      rw [show ((0 : Int32)) = zq (decide (0 < S * sl ld c) = true) by rw [eb]; rfl, rest1]
      refine zV.cv kX2_walk rfl lX2_100 (o_nextSpan E hF hf31 hg31 hP hrr hc hh (rest := r) (by omega) (decide (0 < S * sl ld c)) r1 (by omega) ht2) (by decide) rfl (r1) rfl rfl rfl (Nat.le_of_ble_eq_true rfl) ?_
      rintro _ w9 ⟨rfl, q1, q2⟩
      have K := after w9 q1 q2
      rw [rest1] at K
      exact K
    · skip
      have c1 := mt (lI_le (a := S * sl ld c) (b := 0) (by omega) (by omega) (by omega) (by omega)).mpr c1
      have eb : decide (0 < S * sl ld c) = true := decide_eq_true (by omega)
      refine zV.run kX2_walk 2 rfl ?_
      rw [show ((1 : Int32)) = zq (decide (0 < S * sl ld c) = true) by rw [eb]; rfl, rest1]
      refine zV.cv kX2_walk rfl lX2_100 (o_nextSpan E hF hf31 hg31 hP hrr hc hh (rest := r) (by omega) (decide (0 < S * sl ld c)) r1 (by omega) ht2) (by decide) rfl (r1) rfl rfl rfl (Nat.le_of_ble_eq_true rfl) ?_
      rintro _ w9 ⟨rfl, q1, q2⟩
      have K := after w9 q1 q2
      rw [rest1] at K
      exact K
theorem o_walk (E : zE) {w : zWd} {f g n k : Nat} {ld : Nat → Nat} {fa fb : Int64} {rw : Nat → Nat → Int64} (hF : zFo w f g n ld) (hf31 : f < 31) (hg31 : g < 31) (hP : zPw w 32 n rw) (hrr : ∀ q a b, q ≤ 6 → a < n → b < n → rw q (5 * a + b) = lN (tp n ld q a b)) {home : Nat} (hh : home < n) (hk : k ≤ 6) {t : Int} (r1 : zIs w 31 (zRo n (lI t) fa fb)) (ht : -800000000000 ≤ t) (ht2 : t ≤ 1000000000000) : zOk E mX2_walk 3 [.ref 31, .ref f, .int (nI k), .int (nI home)] w (fun r' w' => r' = some (.int (zq ((wkf n ld home k home 1 0 t).isSome = true))) ∧ zFd w w' n ld (wkf n ld home k home 1 0 t)) := by
  have hp : (1 : Int) * 5 ^ k ≤ 15625 := by
    have := Nat.pow_le_pow_right (show 0 < 5 by decide) hk
    have h9 : ((5 ^ k : Nat) : Int) = (5 : Int) ^ k := by simp
    omega
  refine zOk.of (by decide +kernel) (Nat.le_of_ble_eq_true rfl) ?_
  refine zV.run kX2_walk 10 rfl ?_
  rw [show nI k - 1 = iI ((k : Int) - 1) by rw [nI_iI, show (1 : Int32) = iI 1 from rfl, iI_sub]]
  exact o_walk_l E hF hf31 hg31 hP hrr hh k home 1 0 t 1 w _ hk hh (by omega) (by omega) (by omega) hp (by omega) (by omega) r1 (fun _ _ => rfl) (by omega) ht2
theorem o_find_l (E : zE) {w0 : zWd} {f g n k : Nat} {ld : Nat → Nat} {fa fb : Int64} {cp ep es : Nat → Int32} {nw : Nat → Int64} {rw : Nat → Nat → Int64} (hF0 : zFo w0 f g n ld) (hf31 : f < 31) (hg31 : g < 31) (hP0 : zPw w0 32 n rw) (hrr : ∀ q a b, q ≤ 6 → a < n → b < n → rw q (5 * a + b) = lN (tp n ld q a b)) (r2 : zIs w0 45 (zIA 6 cp)) (r3 : zIs w0 46 (zIA 10 ep)) (r4 : zIs w0 47 (zZA 10 es)) (r5 : zIs w0 48 (zLA 7 nw)) (hcp : ∀ i, i ≤ n → cp i = nI (sor n ld i)) (hep : ∀ e, e < 2 * n → ep e = nI (eps ld e).1) (hk : k ≤ 6) (ix : Int32) :
    ∀ (r i : Nat) (t : Int) (w : zWd), i + r = n + 1 → zIs w 31 (zRo n (lI t) fa fb) → (∀ a, a ≠ 31 → w a = w0 a) → -700000000000 + 20000 * r ≤ t → t ≤ 900000000000 - 20000 * r → zV E mX2_find 4 (fun r' w' => r' = some (.int (zq ((fdf n ld k r i t).isSome = true))) ∧ zFd w0 w' n ld (fdf n ld k r i t)) 9 [.ref 31, .ref f, .int (nI k), .int ix, .int (nI i)] [] w := by
  obtain ⟨led, hf0, hg0, hl, h1, h5, hb⟩ := id hF0
  intro r
  induction r with
  | zero =>
    intro i t w hi r1 hw ht ht2
    have e : i = n + 1 := by omega
    subst e
    refine zV.run kX2_find 2 rfl ?_
    refine zV.gf kX2_find rfl fX2_33 (r1) rfl ?_
    refine zV.ict kX2_find (cd := .gt) rfl (nI_lt (by omega) (by omega)) ?_
    refine zV.run kX2_find 1 rfl ?_
    exact zV.zret kX2_find rfl rfl (Or.inl rfl) (⟨rfl, hw, _, _, _, r1, fun p hp => by cases hp⟩)
  | succ r ih =>
    intro i t w hi r1 hw ht ht2
    have hF : zFo w f g n ld := hF0.k (hw f (by omega)) (hw g (by omega))
    have hP : zPw w 32 n rw := ⟨hP0.1.k (hw _ (by omega)), ⟨hP0.2.1.choose, hP0.2.1.choose_spec.1.k (hw _ (by omega)), hP0.2.1.choose_spec.2⟩, fun j hj => (hP0.2.2 j hj).k (hw _ (by omega))⟩
    have hx := hcp i (by omega)
    have h7 := sor_le n ld i
    have part2 : ∀ (t1 : Int) (w1 : zWd), t1 = t - (if dv (sor n ld i) k = true then 1 else 0) → ¬ (dv (sor n ld i) k = true ∧ t = 0) → zIs w1 31 (zRo n (lI t1) fa fb) → (∀ a, a ≠ 31 → w1 a = w0 a) → t - 1 ≤ t1 → t1 ≤ t → zV E mX2_find 4 (fun r' w' => r' = some (.int (zq ((fdf n ld k (r + 1) i t).isSome = true))) ∧ zFd w0 w' n ld (fdf n ld k (r + 1) i t)) 60 [.ref 31, .ref f, .int (nI k), .int ix, .int (nI i)] [] w1 := by
      intro t1 w1 et1 hne q1 hw1 l1 l2
      have hF1 : zFo w1 f g n ld := hF0.k (hw1 f (by omega)) (hw1 g (by omega))
      have hP1 : zPw w1 32 n rw := ⟨hP0.1.k (hw1 _ (by omega)), ⟨hP0.2.1.choose, hP0.2.1.choose_spec.1.k (hw1 _ (by omega)), hP0.2.1.choose_spec.2⟩, fun j hj => (hP0.2.2 j hj).k (hw1 _ (by omega))⟩
      have ef : fdf n ld k (r + 1) i t = if i < n ∧ t1 < ins n ld k i then wkf n ld i k i 1 0 (t1 + fst1 ld k i) else fdf n ld k r (i + 1) (if i < n then t1 - ins n ld k i else t1) := by
        show (if dv (sor n ld i) k = true ∧ t = 0 then _ else _) = _
        rw [if_neg hne, ← et1]
      rw [ef]
      refine zV.run kX2_find 2 rfl ?_
      refine zV.gf kX2_find rfl fX2_33 (q1) rfl ?_
      refine zV.ic2 kX2_find rfl (fun c => ?_) (fun c => ?_)
      · skip
        have c := (nI_leI (by omega) (by omega)).mp c
        rw [if_neg (fun z => absurd z.1 (by omega)), if_neg (show ¬ i < n by omega)]
        refine zV.run kX2_find 2 rfl ?_
        rw [nI_1]
        exact ih (i + 1) t1 w1 (by omega) q1 hw1 (by omega) (by omega)
      · skip
        have c := mt (nI_leI (a := n) (b := i) (by omega) (by omega)).mpr c
        have hin : i < n := by omega
        have hR1 : zRt w1 n (lI t1) fa fb cp ep es nw := ⟨q1, r2.k (hw1 45 (by decide)), r3.k (hw1 46 (by decide)), r4.k (hw1 47 (by decide)), r5.k (hw1 48 (by decide))⟩
        have htp := tp_le6 h5 ld hk i i
        have f01 : 0 ≤ fst1 ld k i ∧ fst1 ld k i ≤ 1 := by unfold fst1; split <;> omega
        have l01 : 0 ≤ lst1 ld k i ∧ lst1 ld k i ≤ 1 := by unfold lst1; split <;> omega
        have hir : -2 ≤ ins n ld k i ∧ ins n ld k i ≤ 15625 := by unfold ins; omega
        refine zV.run kX2_find 3 rfl ?_
        refine zV.cv kX2_find rfl lX2_86 (o_isInside E hR1 hP1 hrr hep h5 hin hk (by omega) (by omega)) (by decide) rfl (q1) rfl rfl rfl (Nat.le_of_ble_eq_true rfl) ?_
        rintro _ w2 ⟨rfl, e2⟩
        have g2 : zIs w2 31 (zRo n (lI (if t1 < ins n ld k i then t1 + fst1 ld k i else t1 - ins n ld k i)) fa fb) := by rw [e2]; exact zIs.s q1.1
        have hw2 : ∀ a, a ≠ 31 → w2 a = w0 a := fun a ha => by rw [e2, zup_ne ha]; exact hw1 a ha
        refine zV.if2 kX2_find rfl (fun c2 => ?_) (fun c2 => ?_)
        · skip
          have c2 := zq_eq0.mp c2
          rw [if_neg (fun z => c2 z.2), if_pos hin]
          rw [if_neg c2] at g2
          refine zV.run kX2_find 2 rfl ?_
          rw [nI_1]
          exact ih (i + 1) _ w2 (by omega) g2 hw2 (by omega) (by omega)
        · skip
          have c2 := Decidable.not_not.mp (mt zq_eq0.mpr c2)
          rw [if_pos ⟨hin, c2⟩]
          rw [if_pos c2] at g2
          have hF2 : zFo w2 f g n ld := hF0.k (hw2 f (by omega)) (hw2 g (by omega))
          have hP2 : zPw w2 32 n rw := ⟨hP0.1.k (hw2 _ (by omega)), ⟨hP0.2.1.choose, hP0.2.1.choose_spec.1.k (hw2 _ (by omega)), hP0.2.1.choose_spec.2⟩, fun j hj => (hP0.2.2 j hj).k (hw2 _ (by omega))⟩
          refine zV.run kX2_find 4 rfl ?_
          refine zV.cv kX2_find rfl lX2_89 (o_walk E hF2 hf31 hg31 hP2 hrr hin hk g2 (by omega) (by omega)) (by decide) rfl (g2) rfl rfl rfl (Nat.le_of_ble_eq_true rfl) ?_
          rintro _ w3 ⟨rfl, q3, q4⟩
          exact zV.zret kX2_find rfl rfl (zq01 _) (⟨rfl, fun a ha => (q3 a ha).trans (hw2 a ha), q4⟩)
    refine zV.run kX2_find 2 rfl ?_
    refine zV.gf kX2_find rfl fX2_33 (r1) rfl ?_
    refine zV.icf kX2_find (cd := .gt) rfl (nI_nlt (by omega) (by omega)) ?_
    refine zV.run kX2_find 1 rfl ?_
    refine zV.gf kX2_find rfl fX2_18 (r1) rfl ?_
    refine zV.run kX2_find 1 rfl ?_
    refine zV.ial kX2_find rfl (r2.k (hw 45 (by decide))) (i) (rfl) (by omega) (by decide) ?_
    rw [hx]
    refine zV.run kX2_find 1 rfl ?_
    refine zV.cn kX2_find rfl lX2_61 rfl (o_divides E w (d := sor n ld i) (k := k) (by omega) (by omega)) (by decide) rfl rfl (Nat.le_of_ble_eq_true rfl) ?_
    rintro _ _ ⟨rfl, rfl⟩
    refine zV.if2 kX2_find rfl (fun c => ?_) (fun c => ?_)
    · skip
      have c := zq_eq0.mp c
      have hd : ¬ dv (sor n ld i) k = true := by unfold dv; simpa using c
      exact part2 t w (by rw [if_neg hd]; omega) (fun z => hd z.1) r1 hw (by omega) (by omega)
    · skip
      have c := Decidable.not_not.mp (mt zq_eq0.mpr c)
      have hd : dv (sor n ld i) k = true := by unfold dv; simpa using c
      refine zV.run kX2_find 1 rfl ?_
      refine zV.gf kX2_find rfl fX2_79 (r1) rfl ?_
      refine zV.run kX2_find 1 rfl ?_
      refine zV.il2 kX2_find rfl rfl (fun c2 => ?_) (fun c2 => ?_)
      · skip
        have c2 : ¬ t = 0 := fun q => c2 (by rw [q]; rfl)
        refine zV.run kX2_find 2 rfl ?_
        refine zV.gf kX2_find rfl fX2_79 (r1) rfl ?_
        refine zV.run kX2_find 2 rfl ?_
        refine zV.pfl kX2_find rfl pX2_79 (r1) (Nat.le_of_ble_eq_true rfl) ?_
        rw [show (1 : Int64) = lI 1 from rfl, lI_sub]
        exact part2 (t - 1) _ (by rw [if_pos hd]) (fun z => c2 z.2) (zIs.s r1.1) (fun a ha => by rw [zup_ne ha]; exact hw a ha) (by omega) (by omega)
      · skip
        have c2 : t = 0 := (lI_eq (a := t) (b := 0) (by omega) (by omega) (by omega) (by omega)).mp (Decidable.not_not.mp c2)
        have ef : fdf n ld k (r + 1) i t = stl i 1 := if_pos ⟨hd, c2⟩
        rw [ef]
        refine zV.run kX2_find 4 rfl ?_
        rw [nI_iI i, iI_l (by omega) (by omega), show (1 : Int64) = lI 1 from rfl]
        refine zV.cv kX2_find rfl lX2_82 (o_settle E (ld := ld) r1 (a := (i : Int)) (b := 1) (by omega) (by omega) (by omega) (by omega)) (by decide) rfl (r1) rfl rfl rfl (Nat.le_of_ble_eq_true rfl) ?_
        rintro _ w3 ⟨rfl, q3, q4⟩
        exact zV.zret kX2_find rfl rfl (zq01 _) (⟨rfl, fun a ha => (q3 a ha).trans (hw a ha), q4⟩)
theorem o_find (E : zE) {w : zWd} {f g n k : Nat} {ld : Nat → Nat} (hS : zSd w n ld) (hF : zFo w f g n ld) (hf31 : f < 31) (hg31 : g < 31) (hk : k ≤ 6) {ix : Nat} (hix : ix < 2 ^ 31) : zOk E mX2_find 4 [.ref 31, .ref f, .int (nI k), .int (nI ix)] w (fun r' w' => r' = some (.int (zq ((fdf n ld k (n + 1) 0 ix).isSome = true))) ∧ zFd w w' n ld (fdf n ld k (n + 1) 0 ix)) := by
  obtain ⟨tq, fa, fb, cp, ep, es, nw, rw, ⟨r1, r2, r3, r4, r5⟩, hP, hr, hcp, hep, hnw⟩ := id hS
  obtain ⟨led, hf0, hg0, hl, h1, h5, hb⟩ := id hF
  refine zOk.of (by decide +kernel) (Nat.le_of_ble_eq_true rfl) ?_
  refine zV.run kX2_find 3 rfl ?_
  refine zV.pfl kX2_find rfl pX2_79 (r1) (Nat.le_of_ble_eq_true rfl) ?_
  refine zV.run kX2_find 2 rfl ?_
  rw [nI_iI ix, iI_l (by omega) (by omega)]
  refine zV.mono (fun r' w' hp => ⟨hp.1, fun a ha => ?_, hp.2.2⟩) (o_find_l E (hF.n (a := 31) (by omega) (by omega)) hf31 hg31 ⟨hP.1.n (by decide), ⟨hP.2.1.choose, hP.2.1.choose_spec.1.n (by decide), hP.2.1.choose_spec.2⟩, fun j hj => (hP.2.2 j hj).n (by omega)⟩ hr (r2.n (by decide)) (r3.n (by decide)) (r4.n (by decide)) (r5.n (by decide)) hcp (fun e he => (hep e he).1) hk (nI ix) (n + 1) 0 (ix : Int) _ (by omega) (zIs.s r1.1) (fun _ _ => rfl) (by omega) (by omega))
  rw [hp.2.1 a ha, zup_ne ha]
