/-! ===== points: where one step leads ===== -/
def spn (n : Nat) (a b : Int) : Nat := min (a / b).toNat (n - 1)
def stp (n : Nat) (ld : Nat → Nat) (b a : Int) : Int := (ld (spn n a b) : Int) * b + sl ld (spn n a b) * (a - (spn n a b : Int) * b)
def fol (n : Nat) (ld : Nat → Nat) (b a : Int) : Nat → Int
  | 0 => a
  | k + 1 => stp n ld b (fol n ld b a k)
theorem spn_lt {n : Nat} (h : 1 ≤ n) (a b : Int) : spn n a b < n := by unfold spn; omega
theorem spn_rg {n : Nat} {a b : Int} (hn : 1 ≤ n) (hb : 0 < b) (h0 : 0 ≤ a) (h1 : a ≤ n * b) : (spn n a b : Int) * b ≤ a ∧ a ≤ (spn n a b : Int) * b + b := by
  have hd : 0 ≤ a / b := Int.ediv_nonneg h0 (by omega)
  have hm := Int.emod_nonneg a (show b ≠ 0 by omega)
  have hm2 := Int.emod_lt_of_pos a hb
  have he := Int.mul_ediv_add_emod a b
  by_cases h : (a / b).toNat ≤ n - 1
  · have e : spn n a b = (a / b).toNat := by unfold spn; omega
    rw [e, Int.toNat_of_nonneg hd, Int.mul_comm]
    omega
  · have e : spn n a b = n - 1 := by unfold spn; omega
    have e2 : ((n - 1 : Nat) : Int) * b = n * b - b := by
      rw [show ((n - 1 : Nat) : Int) = (n : Int) - 1 by omega, Int.sub_mul, Int.one_mul]
    rw [e, e2]
    refine ⟨?_, by omega⟩
    have h3 : (n : Int) - 1 ≤ a / b := by omega
    have h4 := Int.mul_le_mul_of_nonneg_right h3 (show 0 ≤ b by omega)
    rw [Int.sub_mul, Int.one_mul] at h4
    have h5 : a / b * b ≤ a := by rw [Int.mul_comm]; omega
    omega
theorem stp_eq (n : Nat) (ld : Nat → Nat) (b a : Int) : stp n ld b a = (ld (spn n a b) : Int) * ((spn n a b : Int) * b + b - a) + (ld (spn n a b + 1) : Int) * (a - (spn n a b : Int) * b) := by
  unfold stp sl
  generalize spn n a b = i
  simp only [Int.mul_sub, Int.mul_add, Int.sub_mul]
  omega
theorem stp_rg {n : Nat} {ld : Nat → Nat} {a b : Int} (hn : 1 ≤ n) (hl : ∀ i, i ≤ n → ld i ≤ n) (hb : 0 < b) (h0 : 0 ≤ a) (h1 : a ≤ n * b) : 0 ≤ stp n ld b a ∧ stp n ld b a ≤ n * b := by
  obtain ⟨g1, g2⟩ := spn_rg hn hb h0 h1
  have gl := spn_lt hn a b
  rw [stp_eq]
  have l1 := hl (spn n a b) (by omega)
  have l2 := hl (spn n a b + 1) (by omega)
  generalize spn n a b = i at *
  generalize ld i = u at *
  generalize ld (i + 1) = v at *
  have p0 : (0 : Int) ≤ (u : Int) * ((i : Int) * b + b - a) := Int.mul_nonneg (by omega) (by omega)
  have p1 : (0 : Int) ≤ (v : Int) * (a - (i : Int) * b) := Int.mul_nonneg (by omega) (by omega)
  have p2 : (u : Int) * ((i : Int) * b + b - a) ≤ n * ((i : Int) * b + b - a) := Int.mul_le_mul_of_nonneg_right (by omega) (by omega)
  have p3 : (v : Int) * (a - (i : Int) * b) ≤ n * (a - (i : Int) * b) := Int.mul_le_mul_of_nonneg_right (by omega) (by omega)
  have p4 : (n : Int) * ((i : Int) * b + b - a) + n * (a - (i : Int) * b) = n * b := by
    rw [← Int.mul_add]
    congr 1
    omega
  omega
theorem fol_rg {n : Nat} {ld : Nat → Nat} {a b : Int} (hn : 1 ≤ n) (hl : ∀ i, i ≤ n → ld i ≤ n) (hb : 0 < b) (h0 : 0 ≤ a) (h1 : a ≤ n * b) : ∀ k, 0 ≤ fol n ld b a k ∧ fol n ld b a k ≤ n * b
  | 0 => ⟨h0, h1⟩
  | k + 1 => stp_rg hn hl hb (fol_rg hn hl hb h0 h1 k).1 (fol_rg hn hl hb h0 h1 k).2
theorem o_spanOf (E : zE) {w : zWd} {f g n : Nat} {ld : Nat → Nat} (h : zFo w f g n ld) {a b : Int} (hb : 0 < b) (hb2 : b ≤ 100000) (h0 : 0 ≤ a) (ha : a ≤ n * b) : zOk E mX0_spanOf 1 [.ref f, .long (lI a), .long (lI b)] w (zR0 w (.int (nI (spn n a b)))) := by
  obtain ⟨led, hf, hg, hl, h1, h5, hlb⟩ := h
  have hab : a ≤ 500000 := by
    have := Int.mul_le_mul_of_nonneg_right (show (n : Int) ≤ 5 by omega) (show 0 ≤ b by omega)
    omega
  have hd0 : 0 ≤ a / b := Int.ediv_nonneg h0 (by omega)
  have hd1 : a / b ≤ a := Int.ediv_le_self b h0
  have e2 : (nI n).toInt64 - 1 = lI ((n : Int) - 1) := by
    rw [nI_iI, iI_l (by omega) (by omega), show (1 : Int64) = lI 1 from rfl, lI_sub]
  have e1 : lI a / lI b = lI (a / b) := lI_div h0 (by omega) hb (by omega)
  have c0 : (0 : Int64) < lI b := by rw [show (0 : Int64) = lI 0 from rfl, lI_lt (by omega) (by omega) (by omega) (by omega)]; exact hb
  refine zOk.of (by decide +kernel) (Nat.le_of_ble_eq_true rfl) ?_
  refine zV.run kX0_spanOf 2 rfl ?_
  refine zV.ilt kX0_spanOf (cd := .gt) rfl rfl (c0) ?_
  refine zV.run kX0_spanOf 3 rfl ?_
  refine zV.ldiv kX0_spanOf rfl (fun e => by rw [e] at c0; exact absurd c0 (by decide)) ?_
  refine zV.run kX0_spanOf 1 rfl ?_
  refine zV.gf kX0_spanOf rfl fX0_9 (hf) rfl ?_
  refine zV.run kX0_spanOf 3 rfl ?_
  refine zV.mnL kX0_spanOf rfl lX0_21 (by decide) (Nat.le_of_ble_eq_true rfl) ?_
  refine zV.mxL kX0_spanOf rfl lX0_27 (by decide) (Nat.le_of_ble_eq_true rfl) ?_
  have e3 : (if (if (nI n).toInt64 - 1 < lI a / lI b then (nI n).toInt64 - 1 else lI a / lI b) < 0 then 0 else (if (nI n).toInt64 - 1 < lI a / lI b then (nI n).toInt64 - 1 else lI a / lI b)) = lI (spn n a b : Int) := by
    rw [e1, e2, show (0 : Int64) = lI 0 from rfl]
    by_cases q : (n : Int) - 1 < a / b
    · rw [if_pos ((lI_lt (by omega) (by omega) (by omega) (by omega)).mpr q), if_neg (fun z => absurd ((lI_lt (by omega) (by omega) (by omega) (by omega)).mp z) (by omega))]
      congr 1
      unfold spn
      omega
    · rw [if_neg (fun z => q ((lI_lt (by omega) (by omega) (by omega) (by omega)).mp z)), if_neg (fun z => absurd ((lI_lt (by omega) (by omega) (by omega) (by omega)).mp z) (by omega))]
      congr 1
      unfold spn
      omega
  refine zV.run kX0_spanOf 1 rfl ?_
  rw [e3, lI_i, ← nI_iI]
  exact zV.iret kX0_spanOf rfl rfl (⟨rfl, rfl⟩)
theorem o_step (E : zE) {w : zWd} {f g n : Nat} {ld : Nat → Nat} (h : zFo w f g n ld) {a b : Int} (hb : 0 < b) (hb2 : b ≤ 100000) (h0 : 0 ≤ a) (ha : a ≤ n * b) : zOk E mX0_step 2 [.ref f, .long (lI a), .long (lI b)] w (zR0 w (.long (lI (stp n ld b a)))) := by
  obtain ⟨led, hf, hg, hl, h1, h5, hlb⟩ := id h
  have hi := spn_lt h1 a b
  have hli := hlb (spn n a b) (by omega)
  have hli2 := hlb (spn n a b + 1) (by omega)
  refine zOk.of (by decide +kernel) (Nat.le_of_ble_eq_true rfl) ?_
  refine zV.run kX0_step 3 rfl ?_
  refine zV.cv kX0_step rfl lX0_30 (o_spanOf E h hb hb2 h0 ha) (by decide) rfl (hf) rfl rfl rfl (Nat.le_of_ble_eq_true rfl) ?_
  rintro _ _ ⟨rfl, rfl⟩
  refine zV.run kX0_step 2 rfl ?_
  refine zV.gf kX0_step rfl fX0_15 (hf) rfl ?_
  refine zV.run kX0_step 1 rfl ?_
  refine zV.ial kX0_step rfl (hg) (spn n a b) (rfl) (by omega) (by decide) ?_
  refine zV.run kX0_step 5 rfl ?_
  refine zV.cv kX0_step rfl lX0_34 (o_slopeOf E h hi) (by decide) rfl (hf) rfl rfl rfl (Nat.le_of_ble_eq_true rfl) ?_
  rintro _ _ ⟨rfl, rfl⟩
  refine zV.run kX0_step 9 rfl ?_
  rw [hl _ (by omega), nI_iI, nI_iI, iI_l (by omega) (by omega), iI_l (by unfold sl; omega) (by unfold sl; omega), iI_l (by omega) (by omega), lI_mul, lI_mul, lI_sub, lI_mul, lI_add]
  exact zV.lret kX0_step rfl rfl (⟨rfl, rfl⟩)
theorem o_follow_l (E : zE) {w : zWd} {f g n : Nat} {ld : Nat → Nat} (h : zFo w f g n ld) {a b : Int} (hb : 0 < b) (hb2 : b ≤ 100000) (h0 : 0 ≤ a) (ha : a ≤ n * b) {k : Nat} (hk : k ≤ 1000) : ∀ (j i : Nat), i + j = k → zV E mX0_follow 3 (zR0 w (.long (lI (fol n ld b a k)))) 6 [.ref f, .long (lI a), zU, .long (lI b), zU, .int (nI k), .long (lI (fol n ld b a i)), zU, .int (nI i)] [] w := by
  obtain ⟨led, hf, hg, hl, h1, h5, hlb⟩ := id h
  intro j
  induction j with
  | zero =>
    intro i hi
    have e : i = k := by omega
    subst e
    refine zV.run kX0_follow 2 rfl ?_
    refine zV.ict kX0_follow (cd := .ge) rfl (Int32.le_refl _) ?_
    refine zV.run kX0_follow 1 rfl ?_
    exact zV.lret kX0_follow rfl rfl (⟨rfl, rfl⟩)
  | succ j ih =>
    intro i hi
    have r := fol_rg h1 hlb hb h0 ha i
    refine zV.run kX0_follow 2 rfl ?_
    refine zV.icf kX0_follow (cd := .ge) rfl (nI_ge (by omega) (by omega)) ?_
    refine zV.run kX0_follow 3 rfl ?_
    refine zV.cv kX0_follow rfl lX0_38 (o_step E h hb hb2 r.1 r.2) (by decide) rfl (hf) rfl rfl rfl (Nat.le_of_ble_eq_true rfl) ?_
    rintro _ _ ⟨rfl, rfl⟩
    refine zV.run kX0_follow 3 rfl ?_
    rw [nI_1]
    exact ih (i + 1) (by omega)
theorem o_follow (E : zE) {w : zWd} {f g n : Nat} {ld : Nat → Nat} (h : zFo w f g n ld) {a b : Int} (hb : 0 < b) (hb2 : b ≤ 100000) (h0 : 0 ≤ a) (ha : a ≤ n * b) {k : Nat} (hk : k ≤ 1000) : zOk E mX0_follow 3 [.ref f, .long (lI a), .long (lI b), .int (nI k)] w (zR0 w (.long (lI (fol n ld b a k)))) := by
  refine zOk.of (by decide +kernel) (Nat.le_of_ble_eq_true rfl) ?_
  refine zV.run kX0_follow 4 rfl ?_
  exact o_follow_l E h hb hb2 h0 ha hk k 0 (by omega)
