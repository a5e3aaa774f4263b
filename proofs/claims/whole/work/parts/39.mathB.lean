/-! ===== mathematics of rounds: points ===== -/
def wV (ld : Nat → Nat) (sp : Nat → Nat) (a b : Int) (q : Nat) : Int := wS ld sp q * a + wT ld sp q * b
def onq (ld : Nat → Nat) (sp : Nat → Nat) (a b : Int) (q : Nat) : Prop := (sp q : Int) * b ≤ wV ld sp a b q ∧ wV ld sp a b q ≤ ((sp q : Int) + 1) * b
theorem wV_0 {ld sp : Nat → Nat} {a b : Int} : wV ld sp a b 0 = a := by
  show 1 * a + 0 * b = a
  omega
theorem wV_s {ld sp : Nat → Nat} {a b : Int} (q : Nat) : wV ld sp a b (q + 1) = sl ld (sp q) * (wV ld sp a b q - (sp q : Int) * b) + (ld (sp q) : Int) * b := by
  show sl ld (sp q) * wS ld sp q * a + (sl ld (sp q) * wT ld sp q + (ld (sp q) : Int) - sl ld (sp q) * (sp q : Int)) * b = sl ld (sp q) * (wS ld sp q * a + wT ld sp q * b - (sp q : Int) * b) + (ld (sp q) : Int) * b
  grind
theorem ionf_iff {ld sp : Nat → Nat} {a b : Int} : ∀ (r d : Nat), ionf sp (wS ld sp) (wT ld sp) a b r d = true ↔ ∀ q, d ≤ q → q < d + r → onq ld sp a b q
  | 0, d => ⟨fun _ q h1 h2 => absurd h2 (by omega), fun _ => rfl⟩
  | r + 1, d => by
    unfold ionf
    by_cases c : wS ld sp d * a + wT ld sp d * b < (sp d : Int) * b ∨ ((sp d : Int) + 1) * b < wS ld sp d * a + wT ld sp d * b
    · rw [if_pos c]
      refine ⟨(fun q => absurd q (by decide)), (fun h => ?_)⟩
      have := h d (Nat.le_refl _) (by omega)
      unfold onq wV at this
      omega
    · rw [if_neg c, ionf_iff r (d + 1)]
      refine ⟨fun h q h1 h2 => ?_, fun h q h1 h2 => h q (by omega) (by omega)⟩
      by_cases e : q = d
      · rw [e]
        unfold onq wV
        omega
      · exact h q (by omega) (by omega)
/-- a line over a span: forth -/
theorem seg_f {p q u b : Int} (h1 : 0 ≤ u) (h2 : u ≤ b) : min p q * b ≤ (q - p) * u + p * b ∧ (q - p) * u + p * b ≤ max p q * b := by
  by_cases c : p ≤ q
  · rw [Int.min_eq_left c, Int.max_eq_right c]
    have a1 : 0 ≤ (q - p) * u := Int.mul_nonneg (by omega) h1
    have a2 : (q - p) * u ≤ (q - p) * b := Int.mul_le_mul_of_nonneg_left h2 (by omega)
    have e : (q - p) * b = q * b - p * b := Int.sub_mul _ _ _
    omega
  · rw [Int.min_eq_right (by omega), Int.max_eq_left (by omega)]
    have a1 : 0 ≤ (p - q) * u := Int.mul_nonneg (by omega) h1
    have a2 : (p - q) * u ≤ (p - q) * b := Int.mul_le_mul_of_nonneg_left h2 (by omega)
    have e : (p - q) * b = p * b - q * b := Int.sub_mul _ _ _
    have e2 : (q - p) * u = -((p - q) * u) := by rw [← Int.neg_mul, Int.neg_sub]
    omega
/-- a line over a span: back -/
theorem seg_b {p q u b : Int} (hb : 0 < b) (hne : p ≠ q) (h1 : min p q * b ≤ (q - p) * u + p * b) (h2 : (q - p) * u + p * b ≤ max p q * b) : 0 ≤ u ∧ u ≤ b := by
  by_cases c : p ≤ q
  · rw [Int.min_eq_left c] at h1
    rw [Int.max_eq_right c] at h2
    have e : (q - p) * b = q * b - p * b := Int.sub_mul _ _ _
    have hp : 0 < q - p := by omega
    refine ⟨?_, ?_⟩
    · refine Int.le_of_mul_le_mul_left (a := q - p) ?_ hp
      rw [Int.mul_zero]; omega
    · refine Int.le_of_mul_le_mul_left (a := q - p) ?_ hp
      omega
  · rw [Int.min_eq_right (by omega)] at h1
    rw [Int.max_eq_left (by omega)] at h2
    have e : (p - q) * b = p * b - q * b := Int.sub_mul _ _ _
    have e2 : (q - p) * u = -((p - q) * u) := by rw [← Int.neg_mul, Int.neg_sub]
    have hp : 0 < p - q := by omega
    refine ⟨?_, ?_⟩
    · refine Int.le_of_mul_le_mul_left (a := p - q) ?_ hp
      rw [Int.mul_zero]; omega
    · refine Int.le_of_mul_le_mul_left (a := p - q) ?_ hp
      omega
theorem cov_iff {ld : Nat → Nat} {i j : Nat} : cov ld i j = true ↔ min (ld i) (ld (i + 1)) ≤ j ∧ j < max (ld i) (ld (i + 1)) := by
  unfold cov
  simp
theorem cov_ne {ld : Nat → Nat} {i j : Nat} (h : cov ld i j = true) : (ld i : Int) ≠ (ld (i + 1) : Int) := by
  have := cov_iff.mp h
  omega
theorem stp_on {n : Nat} {ld : Nat → Nat} {b x : Int} {j : Nat} (hb : 0 < b) (hj : j < n) (h1 : (j : Int) * b ≤ x) (h2 : x ≤ ((j : Int) + 1) * b) : stp n ld b x = sl ld j * (x - (j : Int) * b) + (ld j : Int) * b := by
  have e1 : ((j : Int) + 1) * b = (j : Int) * b + b := by rw [Int.add_mul, Int.one_mul]
  by_cases c : x < ((j : Int) + 1) * b
  · have ed : x / b = (j : Int) := by
      refine Int.le_antisymm (Int.lt_add_one_iff.mp (Int.ediv_lt_of_lt_mul hb c)) (Int.le_ediv_of_mul_le hb h1)
    have es : spn n x b = j := by unfold spn; rw [ed]; omega
    unfold stp
    rw [es]
    omega
  · have ex : x = ((j : Int) + 1) * b := by omega
    have ed : x / b = (j : Int) + 1 := by rw [ex]; exact Int.mul_ediv_cancel _ (by omega)
    have eR : sl ld j * (x - (j : Int) * b) + (ld j : Int) * b = (ld (j + 1) : Int) * b := by
      rw [ex, e1, show (j : Int) * b + b - (j : Int) * b = b by omega]
      unfold sl
      rw [Int.sub_mul]
      omega
    rw [eR]
    by_cases c2 : j + 1 < n
    · have es : spn n x b = j + 1 := by unfold spn; rw [ed]; omega
      unfold stp
      rw [es, ex, show (((j + 1 : Nat) : Int)) = (j : Int) + 1 by omega, Int.sub_self, Int.mul_zero, Int.add_zero]
    · have es : spn n x b = j := by unfold spn; rw [ed]; omega
      unfold stp
      rw [es, ← eR]
      omega
theorem fol_on {n : Nat} {ld sp : Nat → Nat} {a b : Int} (hb : 0 < b) : ∀ m, (∀ q, q < m → sp q < n ∧ onq ld sp a b q) → fol n ld b a m = wV ld sp a b m
  | 0, _ => wV_0.symm
  | m + 1, h => by
    show stp n ld b (fol n ld b a m) = _
    rw [fol_on hb m (fun q hq => h q (by omega)), wV_s]
    exact stp_on hb (h m (by omega)).1 (h m (by omega)).2.1 (h m (by omega)).2.2
theorem wS_ne {ld sp : Nat → Nat} {m : Nat} (h : wS ld sp m ≠ 0) : ∀ q, q ≤ m → wS ld sp q ≠ 0 := by
  induction m with
  | zero => intro q hq; rw [show q = 0 by omega]; exact h
  | succ m ih =>
    intro q hq
    by_cases e : q = m + 1
    · rw [e]; exact h
    · refine ih (fun z => h ?_) q (by omega)
      show sl ld (sp m) * wS ld sp m = 0
      rw [z, Int.mul_zero]
/-- on the last span: on all -/
theorem on_down {n : Nat} {ld sp : Nat → Nat} {a b : Int} (hb : 0 < b) : ∀ (m : Nat), (∀ q, q < m → cov ld (sp q) (sp (q + 1)) = true) → onq ld sp a b m → ∀ q, q ≤ m → onq ld sp a b q
  | 0, _, h, q, hq => by rw [show q = 0 by omega]; exact h
  | m + 1, hc, h, q, hq => by
    by_cases e : q = m + 1
    · rw [e]; exact h
    · refine on_down (n := n) hb m (fun x hx => hc x (by omega)) ?_ q (by omega)
      obtain ⟨h1, h2⟩ := h
      rw [wV_s] at h1 h2
      have hcv := hc m (by omega)
      obtain ⟨c1, c2⟩ := cov_iff.mp hcv
      have k1 : min (ld (sp m) : Int) (ld (sp m + 1) : Int) * b ≤ (sp (m + 1) : Int) * b := Int.mul_le_mul_of_nonneg_right (by omega) (by omega)
      have k2 : ((sp (m + 1) : Int) + 1) * b ≤ max (ld (sp m) : Int) (ld (sp m + 1) : Int) * b := Int.mul_le_mul_of_nonneg_right (by omega) (by omega)
      have := seg_b (p := (ld (sp m) : Int)) (q := (ld (sp m + 1) : Int)) (u := wV ld sp a b m - (sp m : Int) * b) hb (cov_ne hcv) (Int.le_trans k1 h1) (Int.le_trans h2 k2)
      unfold onq
      rw [Int.add_mul, Int.one_mul]
      omega
/-- a closed way: it comes back over the span that it began with -/
def clo (ld : Nat → Nat) (k : Nat) (g : Nat → Nat) : Prop := wS ld g (k - 1) ≠ 0 ∧ cov ld (g (k - 1)) (g 0) = true
theorem clo_cov {n : Nat} {ld g : Nat → Nat} {k : Nat} (hp : pok n ld g (k - 1)) (hc : clo ld k g) : ∀ q, q < k - 1 → cov ld (g q) (g (q + 1)) = true := fun q hq => hp.2.2.1 q hq (wS_ne hc.1 _ (by omega))
theorem clo_S {ld g : Nat → Nat} {k : Nat} (hk : 1 ≤ k) (hc : clo ld k g) : wS ld g k ≠ 0 := by
  obtain ⟨m, rfl⟩ : ∃ m, k = m + 1 := ⟨k - 1, by omega⟩
  intro h
  have h : sl ld (g m) * wS ld g m = 0 := h
  rcases Int.mul_eq_zero.mp h with e | e
  · have := cov_ne hc.2
    unfold sl at e
    have e2 : m + 1 - 1 = m := by omega
    rw [e2] at this
    omega
  · exact hc.1 e
/-- what is led to the first span lies on the way -/
theorem clo_in {n : Nat} {ld g : Nat → Nat} {k : Nat} (hk : 1 ≤ k) (hp : pok n ld g (k - 1)) (hc : clo ld k g) {a b : Int} (hb : 0 < b) (h1 : (g 0 : Int) * b ≤ wV ld g a b k) (h2 : wV ld g a b k ≤ ((g 0 : Int) + 1) * b) : ∀ q, q < k → onq ld g a b q := by
  obtain ⟨m, rfl⟩ : ∃ m, k = m + 1 := ⟨k - 1, by omega⟩
  have e2 : m + 1 - 1 = m := by omega
  rw [e2] at hp
  have hcc := hc.2
  rw [e2] at hcc
  intro q hq
  refine on_down (n := n) hb m (fun x hx => clo_cov (k := m + 1) (by rw [e2]; exact hp) hc x (by omega)) ?_ q (by omega)
  rw [wV_s] at h1 h2
  obtain ⟨c1, c2⟩ := cov_iff.mp hcc
  have k1 : min (ld (g m) : Int) (ld (g m + 1) : Int) * b ≤ (g 0 : Int) * b := Int.mul_le_mul_of_nonneg_right (by omega) (by omega)
  have k2 : ((g 0 : Int) + 1) * b ≤ max (ld (g m) : Int) (ld (g m + 1) : Int) * b := Int.mul_le_mul_of_nonneg_right (by omega) (by omega)
  have := seg_b (p := (ld (g m) : Int)) (q := (ld (g m + 1) : Int)) (u := wV ld g a b m - (g m : Int) * b) hb (cov_ne hcc) (Int.le_trans k1 h1) (Int.le_trans h2 k2)
  unfold onq
  rw [Int.add_mul, Int.one_mul]
  omega
theorem clo_st {n : Nat} {ld g : Nat → Nat} {k : Nat} (hk : 1 ≤ k) (hp : pok n ld g (k - 1)) (hc : clo ld k g) {s t i : Int} (es : s = wS ld g k) (et : t = wT ld g k) (ei : i = (g 0 : Int)) : (0 < s → i * s ≤ i - t ∧ i + 1 - t ≤ (i + 1) * s) ∧ (s < 0 → i + 1 - t ≤ i * s ∧ (i + 1) * s ≤ i - t) := by
  have key : ∀ a b : Int, 0 < b → i * b ≤ s * a + t * b → s * a + t * b ≤ (i + 1) * b → i * b ≤ a ∧ a ≤ (i + 1) * b := by
    intro a b hb h1 h2
    have := clo_in hk hp hc hb (a := a) (by unfold wV; rw [← es, ← et, ← ei]; exact h1) (by unfold wV; rw [← es, ← et, ← ei]; exact h2) 0 (by omega)
    unfold onq at this
    rw [wV_0, ← ei] at this
    exact this
  refine ⟨fun hs => ?_, fun hs => ?_⟩
  · have e0 : s * (i - t) + t * s = i * s := by grind
    have e1 : s * (i + 1 - t) + t * s = (i + 1) * s := by grind
    have e2 : (i + 1) * s = i * s + s := by grind
    exact ⟨(key (i - t) s hs (by omega) (by omega)).1, (key (i + 1 - t) s hs (by omega) (by omega)).2⟩
  · have e0 : s * (-(i - t)) + t * (-s) = i * (-s) := by grind
    have e1 : s * (-(i + 1 - t)) + t * (-s) = (i + 1) * (-s) := by grind
    have e2 : (i + 1) * (-s) = i * (-s) + -s := by grind
    have e3 : i * (-s) = -(i * s) := by grind
    have e4 : (i + 1) * (-s) = -((i + 1) * s) := by grind
    have a1 := (key (-(i + 1 - t)) (-s) (by omega) (by omega) (by omega)).1
    have a2 := (key (-(i - t)) (-s) (by omega) (by omega) (by omega)).2
    omega
theorem clo_1 {n : Nat} {ld g : Nat → Nat} {k : Nat} (hk : 1 ≤ k) (hp : pok n ld g (k - 1)) (hc : clo ld k g) (hs : wS ld g k = 1) : wT ld g k = 0 := by
  have := (clo_st hk hp hc rfl rfl rfl).1 (by omega)
  rw [hs] at this
  omega
/-- the point that a way leaves in place -/
def pA (ld : Nat → Nat) (k : Nat) (g : Nat → Nat) : Int := if wS ld g k < 1 then wT ld g k else -(wT ld g k)
def pB (ld : Nat → Nat) (k : Nat) (g : Nat → Nat) : Int := if wS ld g k < 1 then 1 - wS ld g k else wS ld g k - 1
theorem pB_pos {ld g : Nat → Nat} {k : Nat} (h : wS ld g k ≠ 1) : 0 < pB ld k g := by unfold pB; split <;> omega
theorem pAB {ld g : Nat → Nat} {k : Nat} : wV ld g (pA ld k g) (pB ld k g) k = pA ld k g := by
  unfold wV pA pB
  split <;> grind
theorem clo_on {n : Nat} {ld g : Nat → Nat} {k : Nat} (hk : 1 ≤ k) (hp : pok n ld g (k - 1)) (hc : clo ld k g) (hs : wS ld g k ≠ 1) : ∀ q, q < k → onq ld g (pA ld k g) (pB ld k g) q := by
  have st := clo_st hk hp hc rfl rfl rfl
  have h0 := clo_S hk hc
  have key : (g 0 : Int) * pB ld k g ≤ pA ld k g ∧ pA ld k g ≤ ((g 0 : Int) + 1) * pB ld k g := by
    unfold pA pB
    generalize wS ld g k = s at *
    generalize wT ld g k = t at *
    generalize (g 0 : Int) = i at *
    by_cases c : 0 < s
    · have a := st.1 c
      have e1 : (i + 1) * s = i * s + s := by grind
      have e2 : i * (s - 1) = i * s - i := by grind
      have e3 : (i + 1) * (s - 1) = i * s + s - i - 1 := by grind
      rw [if_neg (by omega), if_neg (by omega)]
      omega
    · have a := st.2 (by omega)
      have e1 : (i + 1) * s = i * s + s := by grind
      have e2 : i * (1 - s) = i - i * s := by grind
      have e3 : (i + 1) * (1 - s) = i + 1 - i * s - s := by grind
      rw [if_pos (by omega), if_pos (by omega)]
      omega
  exact clo_in hk hp hc (pB_pos hs) (by rw [pAB]; exact key.1) (by rw [pAB]; exact key.2)
theorem on_clo {n : Nat} {ld g : Nat → Nat} {k : Nat} (hk : 1 ≤ k) {a b : Int} (hb : 0 < b) (hon : ∀ q, q < k → onq ld g a b q) (hV : wV ld g a b k = a) (h1 : (g 0 : Int) * b < a) (h2 : a < ((g 0 : Int) + 1) * b) : clo ld k g := by
  obtain ⟨m, rfl⟩ : ∃ m, k = m + 1 := ⟨k - 1, by omega⟩
  unfold clo
  rw [show m + 1 - 1 = m by omega]
  refine ⟨fun z => ?_, ?_⟩
  · have e0 : wS ld g (m + 1) = 0 := by
      show sl ld (g m) * wS ld g m = 0
      rw [z, Int.mul_zero]
    unfold wV at hV
    rw [e0, Int.zero_mul, Int.zero_add] at hV
    rw [← hV] at h1 h2
    have l1 := Int.lt_of_mul_lt_mul_right h1 (by omega)
    have l2 := Int.lt_of_mul_lt_mul_right h2 (by omega)
    omega
  · have o := hon m (by omega)
    rw [wV_s] at hV
    have s := seg_f (p := (ld (g m) : Int)) (q := (ld (g m + 1) : Int)) (u := wV ld g a b m - (g m : Int) * b) (b := b) (by have := o.1; omega) (by have := o.2; rw [Int.add_mul, Int.one_mul] at this; omega)
    have hV : ((ld (g m + 1) : Int) - (ld (g m) : Int)) * (wV ld g a b m - (g m : Int) * b) + (ld (g m) : Int) * b = a := hV
    rw [hV] at s
    have l1 := Int.lt_of_mul_lt_mul_right (Int.lt_of_lt_of_le h1 s.2) (by omega)
    have l2 := Int.lt_of_mul_lt_mul_right (Int.lt_of_le_of_lt s.1 h2) (by omega)
    rw [cov_iff]
    omega
