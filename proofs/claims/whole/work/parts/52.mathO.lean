/-! ===== spans that mix ===== -/
theorem sAf_tb {ld : Nat → Nat} {S q : Nat} : ∀ k, (sAf ld S k).testBit q = true ↔ ∃ i, i < k ∧ S.testBit i = true ∧ cov ld i q = true
  | 0 => ⟨fun h => absurd (show (0 : Nat).testBit q = true from h) (by rw [Nat.zero_testBit]; decide), fun ⟨i, a, _⟩ => by omega⟩
  | k + 1 => by
    unfold sAf
    by_cases c : S.testBit k = true
    · rw [if_pos c, Nat.testBit_or, Bool.or_eq_true, sAf_tb k, tb_sub (Nat.le_trans (Nat.min_le_left _ _) (Nat.le_max_left _ _))]
      refine ⟨fun h => ?_, fun ⟨i, a, b, d⟩ => ?_⟩
      · rcases h with ⟨i, a, b⟩ | h
        · exact ⟨i, by omega, b⟩
        · exact ⟨k, by omega, c, h⟩
      · by_cases z : i = k
        · rw [z] at d; exact Or.inr d
        · exact Or.inl ⟨i, by omega, b, d⟩
    · rw [if_neg c, sAf_tb k]
      refine ⟨fun ⟨i, a, b⟩ => ⟨i, by omega, b⟩, fun ⟨i, a, b, d⟩ => ?_⟩
      by_cases z : i = k
      · rw [z] at b; exact absurd b c
      · exact ⟨i, by omega, b, d⟩
theorem sA_full {n : Nat} {ld : Nat → Nat} (hbd : ∀ i, i ≤ n → ld i ≤ n) {S : Nat} (h : sA n ld S = 2 ^ n - 1) : sA n ld (2 ^ n - 1) = 2 ^ n - 1 := by
  refine Nat.eq_of_testBit_eq (fun q => ?_)
  by_cases c : q < n
  · have f : (2 ^ n - 1).testBit q = true := by rw [Nat.testBit_two_pow_sub_one]; exact decide_eq_true c
    rw [f]
    have := f
    rw [← h] at this
    obtain ⟨i, a, b, d⟩ := (sAf_tb n).mp this
    exact (sAf_tb n).mpr ⟨i, a, by rw [Nat.testBit_two_pow_sub_one]; exact decide_eq_true a, d⟩
  · have l := sA_lt (n := n) hbd (2 ^ n - 1)
    have e1 : (sA n ld (2 ^ n - 1)).testBit q = false := Nat.testBit_lt_two_pow (Nat.lt_of_lt_of_le l (Nat.pow_le_pow_right (by omega) (by omega)))
    have e2 : (2 ^ n - 1).testBit q = false := by rw [Nat.testBit_two_pow_sub_one]; exact decide_eq_false c
    rw [e1, e2]
theorem so_full {n : Nat} {ld : Nat → Nat} (hbd : ∀ i, i ≤ n → ld i ≤ n) {i k : Nat} (hk : 1 ≤ k) (h : so n ld i k = 2 ^ n - 1) : ∀ r, so n ld i (k + r) = 2 ^ n - 1
  | 0 => h
  | r + 1 => by
    have e : sA n ld (2 ^ n - 1) = 2 ^ n - 1 := sA_full hbd (S := so n ld i (k - 1)) (by rw [← h, show k = k - 1 + 1 by omega]; rfl)
    show sA n ld (so n ld i (k + r)) = _
    rw [so_full hbd hk h r, e]
theorem staf_sp (n : Nat) (ld : Nat → Nat) (i : Nat) : ∀ f k S, 1 ≤ k → S = so n ld i (k - 1) → (staf n ld f S k = -1 ∧ ∀ q, k ≤ q → q < k + f → so n ld i q ≠ 2 ^ n - 1) ∨ ∃ K : Nat, k ≤ K ∧ K < k + f ∧ staf n ld f S k = (K : Int) ∧ so n ld i K = 2 ^ n - 1 ∧ ∀ q, k ≤ q → q < K → so n ld i q ≠ 2 ^ n - 1
  | 0, k, S, h1, hS => Or.inl ⟨rfl, fun q a b => by omega⟩
  | f + 1, k, S, h1, hS => by
    have e : sA n ld S = so n ld i k := by rw [hS]; show so n ld i (k - 1 + 1) = _; rw [Nat.sub_add_cancel h1]
    unfold staf
    by_cases c : sA n ld S = 2 ^ n - 1
    · rw [if_pos c]
      exact Or.inr ⟨k, Nat.le_refl _, by omega, rfl, by rw [← e]; exact c, fun q a b => by omega⟩
    · rw [if_neg c]
      have ck : so n ld i k ≠ 2 ^ n - 1 := by rw [← e]; exact c
      rcases staf_sp n ld i f (k + 1) (sA n ld S) (by omega) e with ⟨g1, g2⟩ | ⟨K, g1, g2, g3, g4, g5⟩
      · refine Or.inl ⟨g1, fun q a b => ?_⟩
        by_cases z : q = k
        · rw [z]; exact ck
        · exact g2 q (by omega) (by omega)
      · refine Or.inr ⟨K, by omega, by omega, g3, g4, fun q a b => ?_⟩
        by_cases z : q = k
        · rw [z]; exact ck
        · exact g5 q (by omega) b
theorem so_add (n : Nat) (ld : Nat → Nat) (i : Nat) {a b : Nat} (h : so n ld i a = so n ld i b) : ∀ r, so n ld i (a + r) = so n ld i (b + r)
  | 0 => h
  | r + 1 => by
    show sA n ld (so n ld i (a + r)) = sA n ld (so n ld i (b + r))
    rw [so_add n ld i h r]
theorem so_bd {n : Nat} {ld : Nat → Nat} (h1 : 1 ≤ n) (hn5 : n ≤ 5) (hbd : ∀ i, i ≤ n → ld i ≤ n) {i : Nat} (hi : i < n) {K : Nat} (hK : 1 ≤ K) (h : so n ld i K = 2 ^ n - 1) (hl : ∀ q, 1 ≤ q → q < K → so n ld i q ≠ 2 ^ n - 1) : K ≤ 30 := by
  have p1 : 2 ≤ 2 ^ n := by
    have : 2 ^ 1 ≤ 2 ^ n := Nat.pow_le_pow_right (by omega) h1
    omega
  have z0 : sA n ld 0 = 0 := by
    refine Nat.eq_of_testBit_eq (fun q => ?_)
    rw [Nat.zero_testBit]
    cases hh : (sA n ld 0).testBit q with
    | false => rfl
    | true =>
      obtain ⟨i, -, b, -⟩ := (sAf_tb n).mp hh
      rw [Nat.zero_testBit] at b
      cases b
  have nz : ∀ q, q ≤ K → so n ld i q ≠ 0 := by
    intro q hq z
    have : ∀ r, so n ld i (q + r) = 0 := by
      intro r
      induction r with
      | zero => exact z
      | succ r ih => show sA n ld (so n ld i (q + r)) = 0; rw [ih, z0]
    have e := this (K - q)
    rw [show q + (K - q) = K by omega, h] at e
    omega
  have df : ∀ a b, a < b → b < K → so n ld i a ≠ so n ld i b := by
    intro a b hab hb e
    have := so_add n ld i e (K - b)
    rw [show b + (K - b) = K by omega, h] at this
    exact hl (a + (K - b)) (by omega) (by omega) this
  have lt : ∀ q, so n ld i q < 2 ^ n := so_lt hbd hi
  by_cases c : n = 1
  · subst c
    have := pigeon 1 K (fun q => so 1 ld i q - 1) (fun q hq => by have := lt q; have := nz q (by omega); show so 1 ld i q - 1 < 1; omega) (fun a b hab hb e => df a b hab hb (by have := nz a (by omega); have := nz b (by omega); have e : so 1 ld i a - 1 = so 1 ld i b - 1 := e; omega))
    omega
  · have p2 : 2 ^ n = 2 * 2 ^ (n - 1) := by rw [← Nat.pow_succ']; congr 1; omega
    have p3 : 2 ≤ 2 ^ (n - 1) := by
      have : 2 ^ 1 ≤ 2 ^ (n - 1) := Nat.pow_le_pow_right (by omega) (by omega)
      omega
    have p4 : 2 ^ i ≤ 2 ^ (n - 1) := Nat.pow_le_pow_right (by omega) (by omega)
    have p5 : 2 ^ n ≤ 2 ^ 5 := Nat.pow_le_pow_right (by omega) hn5
    have nf : ∀ q, q < K → so n ld i q ≠ 2 ^ n - 1 := by
      intro q hq
      by_cases z : q = 0
      · rw [z]; show 2 ^ i ≠ 2 ^ n - 1; omega
      · exact hl q (by omega) hq
    have := pigeon (2 ^ n - 2) K (fun q => so n ld i q - 1) (fun q hq => by have := lt q; have := nz q (by omega); have := nf q hq; show so n ld i q - 1 < 2 ^ n - 2; omega) (fun a b hab hb e => df a b hab hb (by have := nz a (by omega); have := nz b (by omega); have e : so n ld i a - 1 = so n ld i b - 1 := e; omega))
    omega
theorem alf_iff {n : Nat} {ld : Nat → Nat} {k : Nat} : ∀ m, alf n ld k m = true ↔ ∀ i, i < m → so n ld i k = 2 ^ n - 1
  | 0 => ⟨fun _ i hi => by omega, fun _ => rfl⟩
  | m + 1 => by
    unfold alf
    rw [Bool.and_eq_true, alf_iff m, decide_eq_true_iff]
    refine ⟨fun h i hi => ?_, fun h => ⟨fun i hi => h i (by omega), h m (by omega)⟩⟩
    by_cases z : i = m
    · rw [z]; exact h.2
    · exact h.1 i (by omega)
theorem mxf_at {n : Nat} {ld : Nat → Nat} {M : Nat} (h : alf n ld M n = true) (hl : ∀ q, 1 ≤ q → q < M → alf n ld q n = false) : ∀ r k, 1 ≤ k → k ≤ M → M < k + r → mxf n ld r k = (M : Int)
  | 0, k, _, h2, h3 => by omega
  | r + 1, k, h1, h2, h3 => by
    unfold mxf
    by_cases z : k = M
    · rw [z, if_pos h]
    · rw [if_neg (by rw [hl k h1 (by omega)]; decide)]
      exact mxf_at h hl r (k + 1) (by omega) (by omega) (by omega)
theorem mxf_no {n : Nat} {ld : Nat → Nat} : ∀ r k, (∀ q, k ≤ q → q < k + r → alf n ld q n = false) → mxf n ld r k = -1
  | 0, k, _ => rfl
  | r + 1, k, h => by
    unfold mxf
    rw [if_neg (by rw [h k (by omega) (by omega)]; decide)]
    exact mxf_no r (k + 1) (fun q a b => h q (by omega) (by omega))
theorem stm_no {n : Nat} {ld : Nat → Nat} {j : Nat} (hj : sta n ld j = -1) : ∀ r i s, i ≤ j → j < i + r → stm n ld r i s = -1
  | 0, i, s, h1, h2 => by omega
  | r + 1, i, s, h1, h2 => by
    unfold stm
    by_cases c : sta n ld i = -1
    · rw [if_pos c]
    · rw [if_neg c]
      have : i ≠ j := fun e => c (by rw [e]; exact hj)
      exact stm_no hj r (i + 1) _ (by omega) (by omega)
theorem stm_sp {n : Nat} {ld : Nat → Nat} : ∀ r i s, (∀ j, i ≤ j → j < i + r → sta n ld j ≠ -1) → s ≤ stm n ld r i s ∧ (∀ j, i ≤ j → j < i + r → sta n ld j ≤ stm n ld r i s) ∧ (stm n ld r i s = s ∨ ∃ j, i ≤ j ∧ j < i + r ∧ stm n ld r i s = sta n ld j)
  | 0, i, s, h => ⟨Int.le_refl _, fun j a b => by omega, Or.inl rfl⟩
  | r + 1, i, s, h => by
    unfold stm
    rw [if_neg (h i (by omega) (by omega))]
    obtain ⟨a, b, c⟩ := stm_sp r (i + 1) (max s (sta n ld i)) (fun j x y => h j (by omega) (by omega))
    refine ⟨by omega, fun j x y => ?_, ?_⟩
    · by_cases z : j = i
      · rw [z]; omega
      · exact b j (by omega) (by omega)
    · rcases c with c | ⟨j, x, y, z⟩
      · by_cases w : sta n ld i ≤ s
        · left; omega
        · right; exact ⟨i, by omega, by omega, by omega⟩
      · exact Or.inr ⟨j, by omega, by omega, z⟩
theorem mix_eq {n : Nat} {ld : Nat → Nat} (h1 : 1 ≤ n) (hn5 : n ≤ 5) (hbd : ∀ i, i ≤ n → ld i ≤ n) : mxf n ld 30 1 = stm n ld n 0 0 := by
  have sp := fun i => staf_sp n ld i 64 1 (2 ^ i) (Nat.le_refl _) rfl
  by_cases c : ∃ j, j < n ∧ sta n ld j = -1
  · obtain ⟨j, hj, ej⟩ := c
    rw [stm_no ej n 0 0 (by omega) (by omega)]
    refine mxf_no 30 1 (fun q a b => ?_)
    cases hh : alf n ld q n with
    | false => rfl
    | true =>
      have f := (alf_iff n).mp hh j hj
      rcases sp j with ⟨g1, g2⟩ | ⟨K, g1, g2, g3, -⟩
      · exact absurd f (g2 q a (by omega))
      · have g3 : sta n ld j = (K : Int) := g3
        omega
  · have all : ∀ j, j < n → ∃ K : Nat, 1 ≤ K ∧ K ≤ 30 ∧ sta n ld j = (K : Int) ∧ so n ld j K = 2 ^ n - 1 ∧ ∀ q, 1 ≤ q → q < K → so n ld j q ≠ 2 ^ n - 1 := by
      intro j hj
      rcases sp j with ⟨g1, g2⟩ | ⟨K, g1, g2, g3, g4, g5⟩
      · exact absurd ⟨j, hj, g1⟩ c
      · exact ⟨K, g1, so_bd h1 hn5 hbd hj g1 g4 g5, g3, g4, g5⟩
    obtain ⟨s1, s2, s3⟩ := stm_sp (n := n) (ld := ld) n 0 0 (fun j _ b e => c ⟨j, by omega, e⟩)
    obtain ⟨K0, k1, k2, k3, -⟩ := all 0 (by omega)
    have s20 := s2 0 (by omega) (by omega)
    have s3 : ∃ j, 0 ≤ j ∧ j < 0 + n ∧ stm n ld n 0 0 = sta n ld j := by
      rcases s3 with z | z
      · omega
      · exact z
    obtain ⟨j, -, hj, ej⟩ := s3
    obtain ⟨M, m1, m2, m3, m4, m5⟩ := all j (by omega)
    rw [ej, m3]
    refine mxf_at ?_ ?_ 30 1 (Nat.le_refl _) m1 (by omega)
    · rw [alf_iff]
      intro i hi
      obtain ⟨K, b1, b2, b3, b4, -⟩ := all i hi
      have := s2 i (by omega) (by omega)
      have e := so_full hbd b1 b4 (M - K)
      rw [show K + (M - K) = M by omega] at e
      exact e
    · intro q a b
      cases hh : alf n ld q n with
      | false => rfl
      | true => exact absurd ((alf_iff n).mp hh j (by omega)) (m5 q a b)
