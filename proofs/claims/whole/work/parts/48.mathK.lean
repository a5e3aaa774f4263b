/-! ===== mathematics of rounds: how many ===== -/
def cdv (f : Nat → Nat) (k : Nat) : Nat → Int
  | 0 => 0
  | m + 1 => cdv f k m + (if dv (f m) k = true then 1 else 0)
def ceq (f : Nat → Nat) (k : Nat) : Nat → Int
  | 0 => 0
  | m + 1 => ceq f k m + (if f m = k then 1 else 0)
theorem cntC_q (n : Nat) (ld : Nat → Nat) (k : Nat) : ∀ m, cntC n ld k m = ceq (sor n ld) k m
  | 0 => rfl
  | m + 1 => by unfold cntC ceq; rw [cntC_q n ld k m]
theorem cntE_q (ld : Nat → Nat) (k : Nat) : ∀ m, cntE ld k m = ceq (fun e => (eps ld e).1) k m
  | 0 => rfl
  | m + 1 => by unfold cntE ceq; rw [cntE_q ld k m]
theorem dv_big {s k : Nat} (hk : 1 ≤ k) (h : k < s) : dv s k = false := by
  unfold dv
  refine decide_eq_false (fun q => ?_)
  rw [Nat.mod_eq_of_lt h] at q
  omega
theorem dv_s1 : ∀ s : Nat, (if dv s 1 = true then (1 : Int) else 0) = (if s = 1 then 1 else 0)
  | 0 => rfl
  | 1 => rfl
  | 2 => rfl
  | 3 => rfl
  | 4 => rfl
  | 5 => rfl
  | 6 => rfl
  | s + 7 => by rw [dv_big (by omega) (by omega), if_neg (show ¬ (false = true) by decide), if_neg (show ¬ s + 7 = 1 by omega)]
theorem cdv_1 (f : Nat → Nat) : ∀ m, cdv f 1 m = ceq f 1 m
  | 0 => rfl
  | m + 1 => by
    show cdv f 1 m + (if dv (f m) 1 = true then 1 else 0) = (ceq f 1 m + (if f m = 1 then 1 else 0))
    rw [cdv_1 f m, dv_s1]
theorem dv_s2 : ∀ s : Nat, (if dv s 2 = true then (1 : Int) else 0) = (if s = 1 then 1 else 0) + (if s = 2 then 1 else 0)
  | 0 => rfl
  | 1 => rfl
  | 2 => rfl
  | 3 => rfl
  | 4 => rfl
  | 5 => rfl
  | 6 => rfl
  | s + 7 => by rw [dv_big (by omega) (by omega), if_neg (show ¬ (false = true) by decide), if_neg (show ¬ s + 7 = 1 by omega), if_neg (show ¬ s + 7 = 2 by omega)]; rfl
theorem cdv_2 (f : Nat → Nat) : ∀ m, cdv f 2 m = ceq f 1 m + ceq f 2 m
  | 0 => rfl
  | m + 1 => by
    show cdv f 2 m + (if dv (f m) 2 = true then 1 else 0) = (ceq f 1 m + (if f m = 1 then 1 else 0)) + (ceq f 2 m + (if f m = 2 then 1 else 0))
    rw [cdv_2 f m, dv_s2]
    omega
theorem dv_s3 : ∀ s : Nat, (if dv s 3 = true then (1 : Int) else 0) = (if s = 1 then 1 else 0) + (if s = 3 then 1 else 0)
  | 0 => rfl
  | 1 => rfl
  | 2 => rfl
  | 3 => rfl
  | 4 => rfl
  | 5 => rfl
  | 6 => rfl
  | s + 7 => by rw [dv_big (by omega) (by omega), if_neg (show ¬ (false = true) by decide), if_neg (show ¬ s + 7 = 1 by omega), if_neg (show ¬ s + 7 = 3 by omega)]; rfl
theorem cdv_3 (f : Nat → Nat) : ∀ m, cdv f 3 m = ceq f 1 m + ceq f 3 m
  | 0 => rfl
  | m + 1 => by
    show cdv f 3 m + (if dv (f m) 3 = true then 1 else 0) = (ceq f 1 m + (if f m = 1 then 1 else 0)) + (ceq f 3 m + (if f m = 3 then 1 else 0))
    rw [cdv_3 f m, dv_s3]
    omega
theorem dv_s4 : ∀ s : Nat, (if dv s 4 = true then (1 : Int) else 0) = (if s = 1 then 1 else 0) + (if s = 2 then 1 else 0) + (if s = 4 then 1 else 0)
  | 0 => rfl
  | 1 => rfl
  | 2 => rfl
  | 3 => rfl
  | 4 => rfl
  | 5 => rfl
  | 6 => rfl
  | s + 7 => by rw [dv_big (by omega) (by omega), if_neg (show ¬ (false = true) by decide), if_neg (show ¬ s + 7 = 1 by omega), if_neg (show ¬ s + 7 = 2 by omega), if_neg (show ¬ s + 7 = 4 by omega)]; rfl
theorem cdv_4 (f : Nat → Nat) : ∀ m, cdv f 4 m = ceq f 1 m + ceq f 2 m + ceq f 4 m
  | 0 => rfl
  | m + 1 => by
    show cdv f 4 m + (if dv (f m) 4 = true then 1 else 0) = (ceq f 1 m + (if f m = 1 then 1 else 0)) + (ceq f 2 m + (if f m = 2 then 1 else 0)) + (ceq f 4 m + (if f m = 4 then 1 else 0))
    rw [cdv_4 f m, dv_s4]
    omega
theorem dv_s5 : ∀ s : Nat, (if dv s 5 = true then (1 : Int) else 0) = (if s = 1 then 1 else 0) + (if s = 5 then 1 else 0)
  | 0 => rfl
  | 1 => rfl
  | 2 => rfl
  | 3 => rfl
  | 4 => rfl
  | 5 => rfl
  | 6 => rfl
  | s + 7 => by rw [dv_big (by omega) (by omega), if_neg (show ¬ (false = true) by decide), if_neg (show ¬ s + 7 = 1 by omega), if_neg (show ¬ s + 7 = 5 by omega)]; rfl
theorem cdv_5 (f : Nat → Nat) : ∀ m, cdv f 5 m = ceq f 1 m + ceq f 5 m
  | 0 => rfl
  | m + 1 => by
    show cdv f 5 m + (if dv (f m) 5 = true then 1 else 0) = (ceq f 1 m + (if f m = 1 then 1 else 0)) + (ceq f 5 m + (if f m = 5 then 1 else 0))
    rw [cdv_5 f m, dv_s5]
    omega
theorem dv_s6 : ∀ s : Nat, (if dv s 6 = true then (1 : Int) else 0) = (if s = 1 then 1 else 0) + (if s = 2 then 1 else 0) + (if s = 3 then 1 else 0) + (if s = 6 then 1 else 0)
  | 0 => rfl
  | 1 => rfl
  | 2 => rfl
  | 3 => rfl
  | 4 => rfl
  | 5 => rfl
  | 6 => rfl
  | s + 7 => by rw [dv_big (by omega) (by omega), if_neg (show ¬ (false = true) by decide), if_neg (show ¬ s + 7 = 1 by omega), if_neg (show ¬ s + 7 = 2 by omega), if_neg (show ¬ s + 7 = 3 by omega), if_neg (show ¬ s + 7 = 6 by omega)]; rfl
theorem cdv_6 (f : Nat → Nat) : ∀ m, cdv f 6 m = ceq f 1 m + ceq f 2 m + ceq f 3 m + ceq f 6 m
  | 0 => rfl
  | m + 1 => by
    show cdv f 6 m + (if dv (f m) 6 = true then 1 else 0) = (ceq f 1 m + (if f m = 1 then 1 else 0)) + (ceq f 2 m + (if f m = 2 then 1 else 0)) + (ceq f 3 m + (if f m = 3 then 1 else 0)) + (ceq f 6 m + (if f m = 6 then 1 else 0))
    rw [cdv_6 f m, dv_s6]
    omega
theorem cal_eq (n : Nat) (ld : Nat → Nat) {k : Nat} (hk : 1 ≤ k) (hk6 : k ≤ 6) : cal n ld k (k + 1) = (trc n ld k : Int) + cdv (sor n ld) k (n + 1) - cdv (fun e => (eps ld e).1) k (2 * n) := by
  have h : k = 1 ∨ k = 2 ∨ k = 3 ∨ k = 4 ∨ k = 5 ∨ k = 6 := by omega
  rcases h with rfl | rfl | rfl | rfl | rfl | rfl
  · show 0 + (if 0 < 0 ∧ 1 % 0 = 0 then cnw n ld 0 else 0) + (if 0 < 1 ∧ 1 % 1 = 0 then cnw n ld 1 else 0) = _
    rw [if_neg (show ¬ (0 < 0 ∧ 1 % 0 = 0) by decide), if_pos (show (0 < 1 ∧ 1 % 1 = 0) by decide)]
    rw [cdv_1, cdv_1]
    unfold cnw nwy
    simp only [cntC_q, cntE_q]
    omega
  · show 0 + (if 0 < 0 ∧ 2 % 0 = 0 then cnw n ld 0 else 0) + (if 0 < 1 ∧ 2 % 1 = 0 then cnw n ld 1 else 0) + (if 0 < 2 ∧ 2 % 2 = 0 then cnw n ld 2 else 0) = _
    rw [if_neg (show ¬ (0 < 0 ∧ 2 % 0 = 0) by decide), if_pos (show (0 < 1 ∧ 2 % 1 = 0) by decide), if_pos (show (0 < 2 ∧ 2 % 2 = 0) by decide)]
    rw [cdv_2, cdv_2]
    unfold cnw nwy
    simp only [cntC_q, cntE_q]
    omega
  · show 0 + (if 0 < 0 ∧ 3 % 0 = 0 then cnw n ld 0 else 0) + (if 0 < 1 ∧ 3 % 1 = 0 then cnw n ld 1 else 0) + (if 0 < 2 ∧ 3 % 2 = 0 then cnw n ld 2 else 0) + (if 0 < 3 ∧ 3 % 3 = 0 then cnw n ld 3 else 0) = _
    rw [if_neg (show ¬ (0 < 0 ∧ 3 % 0 = 0) by decide), if_pos (show (0 < 1 ∧ 3 % 1 = 0) by decide), if_neg (show ¬ (0 < 2 ∧ 3 % 2 = 0) by decide), if_pos (show (0 < 3 ∧ 3 % 3 = 0) by decide)]
    rw [cdv_3, cdv_3]
    unfold cnw nwy
    simp only [cntC_q, cntE_q]
    omega
  · show 0 + (if 0 < 0 ∧ 4 % 0 = 0 then cnw n ld 0 else 0) + (if 0 < 1 ∧ 4 % 1 = 0 then cnw n ld 1 else 0) + (if 0 < 2 ∧ 4 % 2 = 0 then cnw n ld 2 else 0) + (if 0 < 3 ∧ 4 % 3 = 0 then cnw n ld 3 else 0) + (if 0 < 4 ∧ 4 % 4 = 0 then cnw n ld 4 else 0) = _
    rw [if_neg (show ¬ (0 < 0 ∧ 4 % 0 = 0) by decide), if_pos (show (0 < 1 ∧ 4 % 1 = 0) by decide), if_pos (show (0 < 2 ∧ 4 % 2 = 0) by decide), if_neg (show ¬ (0 < 3 ∧ 4 % 3 = 0) by decide), if_pos (show (0 < 4 ∧ 4 % 4 = 0) by decide)]
    rw [cdv_4, cdv_4]
    unfold cnw nwy
    simp only [cntC_q, cntE_q]
    omega
  · show 0 + (if 0 < 0 ∧ 5 % 0 = 0 then cnw n ld 0 else 0) + (if 0 < 1 ∧ 5 % 1 = 0 then cnw n ld 1 else 0) + (if 0 < 2 ∧ 5 % 2 = 0 then cnw n ld 2 else 0) + (if 0 < 3 ∧ 5 % 3 = 0 then cnw n ld 3 else 0) + (if 0 < 4 ∧ 5 % 4 = 0 then cnw n ld 4 else 0) + (if 0 < 5 ∧ 5 % 5 = 0 then cnw n ld 5 else 0) = _
    rw [if_neg (show ¬ (0 < 0 ∧ 5 % 0 = 0) by decide), if_pos (show (0 < 1 ∧ 5 % 1 = 0) by decide), if_neg (show ¬ (0 < 2 ∧ 5 % 2 = 0) by decide), if_neg (show ¬ (0 < 3 ∧ 5 % 3 = 0) by decide), if_neg (show ¬ (0 < 4 ∧ 5 % 4 = 0) by decide), if_pos (show (0 < 5 ∧ 5 % 5 = 0) by decide)]
    rw [cdv_5, cdv_5]
    unfold cnw nwy
    simp only [cntC_q, cntE_q]
    omega
  · show 0 + (if 0 < 0 ∧ 6 % 0 = 0 then cnw n ld 0 else 0) + (if 0 < 1 ∧ 6 % 1 = 0 then cnw n ld 1 else 0) + (if 0 < 2 ∧ 6 % 2 = 0 then cnw n ld 2 else 0) + (if 0 < 3 ∧ 6 % 3 = 0 then cnw n ld 3 else 0) + (if 0 < 4 ∧ 6 % 4 = 0 then cnw n ld 4 else 0) + (if 0 < 5 ∧ 6 % 5 = 0 then cnw n ld 5 else 0) + (if 0 < 6 ∧ 6 % 6 = 0 then cnw n ld 6 else 0) = _
    rw [if_neg (show ¬ (0 < 0 ∧ 6 % 0 = 0) by decide), if_pos (show (0 < 1 ∧ 6 % 1 = 0) by decide), if_pos (show (0 < 2 ∧ 6 % 2 = 0) by decide), if_pos (show (0 < 3 ∧ 6 % 3 = 0) by decide), if_neg (show ¬ (0 < 4 ∧ 6 % 4 = 0) by decide), if_neg (show ¬ (0 < 5 ∧ 6 % 5 = 0) by decide), if_pos (show (0 < 6 ∧ 6 % 6 = 0) by decide)]
    rw [cdv_6, cdv_6]
    unfold cnw nwy
    simp only [cntC_q, cntE_q]
    omega
def pfx (n : Nat) (ld : Nat → Nat) (k m : Nat) : List (Nat × Nat) := (List.range m).flatMap (fun c => crl ld k c ++ inr n ld k c)
theorem rls_P {n : Nat} {ld : Nat → Nat} {k : Nat} : rls n ld k (n + 1) 0 = pfx n ld k n ++ crl ld k n := by
  have A : ∀ m, m ≤ n → pfx n ld k m ++ rls n ld k (n + 1 - m) m = rls n ld k (n + 1) 0 := by
    intro m
    induction m with
    | zero => intro _; rfl
    | succ m ih =>
      intro hm
      unfold pfx at ih ⊢
      rw [← ih (by omega), List.range_succ, List.flatMap_append, List.flatMap_cons, List.flatMap_nil, List.append_nil, show n + 1 - m = (n + 1 - (m + 1)) + 1 by omega]
      conv => rhs; unfold rls
      rw [if_pos (show m < n by omega), List.append_assoc, List.append_assoc]
  rw [← A n (Nat.le_refl _), show n + 1 - n = 0 + 1 by omega]
  congr 1
  show crl ld k n ++ ((if n < n then inr n ld k n else []) ++ []) = _
  rw [if_neg (by omega), List.append_nil, List.append_nil]
theorem crl_len {n : Nat} {ld : Nat → Nat} (hbd : ∀ i, i ≤ n → ld i ≤ n) {k : Nat} (hk : 1 ≤ k) {c : Nat} (hc : c ≤ n) : ((crl ld k c).length : Int) = if dv (sor n ld c) k = true then 1 else 0 := by
  have := sor_dv hbd hc hk
  unfold crl
  by_cases u : orb ld c k = c
  · rw [if_pos u, if_pos (this.mpr u)]; rfl
  · rw [if_neg u, if_neg (fun q => u (this.mp q))]; rfl
theorem pfx_len {n : Nat} {ld : Nat → Nat} (hbd : ∀ i, i ≤ n → ld i ≤ n) {k : Nat} (hk : 1 ≤ k) (hk6 : k ≤ 6) (hE : edf ld k (2 * n) 0 = false) : ∀ m, m ≤ n → ((pfx n ld k m).length : Int) = cdv (sor n ld) k m + (sumN m (fun i => tp n ld k i i) : Int) - cdv (fun e => (eps ld e).1) k (2 * m)
  | 0, _ => rfl
  | m + 1, hm => by
    have ih := pfx_len hbd hk hk6 hE m (by omega)
    have e1 : pfx n ld k (m + 1) = pfx n ld k m ++ (crl ld k m ++ inr n ld k m) := by
      unfold pfx
      rw [List.range_succ, List.flatMap_append, List.flatMap_cons, List.flatMap_nil, List.append_nil]
    have e2 : cdv (fun e => (eps ld e).1) k (2 * (m + 1)) = cdv (fun e => (eps ld e).1) k (2 * m) + fst1 ld k m + lst1 ld k m := rfl
    have e3 : sumN (m + 1) (fun i => tp n ld k i i) = sumN m (fun i => tp n ld k i i) + tp n ld k m m := rfl
    have e4 : cdv (sor n ld) k (m + 1) = cdv (sor n ld) k m + (if dv (sor n ld m) k = true then 1 else 0) := rfl
    have i1 := ins_eq hbd hk hk6 hE (show m < n by omega)
    have c1 := crl_len hbd hk (show m ≤ n by omega)
    unfold ins at i1
    rw [e1, e2, e3, e4, List.length_append, List.length_append]
    omega
/-- how many there are -/
theorem count_eq {n : Nat} {ld : Nat → Nat} (h1 : 1 ≤ n) (hbd : ∀ i, i ≤ n → ld i ≤ n) {k : Nat} (hk : 1 ≤ k) (hk6 : k ≤ 6) (hE : edf ld k (2 * n) 0 = false) : cal n ld k (k + 1) = ((fnd n ld k n).1.length : Int) := by
  rw [fnd_L hk, rls_eq h1 hbd hk hk6 hE, rls_P, List.length_append, cal_eq n ld hk hk6]
  have a := pfx_len hbd hk hk6 hE n (Nat.le_refl _)
  have b := crl_len hbd hk (Nat.le_refl n)
  have e4 : cdv (sor n ld) k (n + 1) = cdv (sor n ld) k n + (if dv (sor n ld n) k = true then 1 else 0) := rfl
  have e5 : trc n ld k = sumN n (fun i => tp n ld k i i) := rfl
  rw [e4, e5]
  omega
