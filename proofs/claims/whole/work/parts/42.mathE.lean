/-! ===== mathematics of rounds: corners and edges ===== -/
theorem least (P : Nat → Prop) : ∀ (f k : Nat), k < f → 1 ≤ k → P k → ∃ p, 1 ≤ p ∧ p ≤ k ∧ P p ∧ ∀ q, 1 ≤ q → q < p → ¬ P q
  | 0, k, hf, _, _ => by omega
  | f + 1, k, hf, h1, hP => by
    by_cases c : ∃ q, 1 ≤ q ∧ q < k ∧ P q
    · obtain ⟨q, a, b, d⟩ := c
      obtain ⟨p, e1, e2, e3, e4⟩ := least P f q (by omega) a d
      exact ⟨p, e1, by omega, e3, e4⟩
    · exact ⟨k, h1, Nat.le_refl _, hP, fun q a b d => c ⟨q, a, b, d⟩⟩
theorem ret_md {h : Nat → Nat} {x p : Nat} (h1 : 1 ≤ p) (h2 : orb h x p = x) (k : Nat) : orb h x k = orb h x (k % p) := by
  have := orb_per (ld := h) (c := x) (j := 0) (p := p) (by omega) (by rw [Nat.zero_add]; exact h2) (k + 1) k (by omega)
  rw [Nat.zero_add, Nat.zero_add] at this
  exact this
theorem ret_dv {h : Nat → Nat} {x p : Nat} (h1 : 1 ≤ p) (h2 : orb h x p = x) (h3 : ∀ q, 1 ≤ q → q < p → orb h x q ≠ x) (k : Nat) : orb h x k = x ↔ k % p = 0 := by
  rw [ret_md h1 h2 k]
  have := Nat.mod_lt k (show 0 < p by omega)
  by_cases c : k % p = 0
  · rw [c]; exact ⟨fun _ => rfl, fun _ => rfl⟩
  · exact ⟨fun q => absurd q (h3 _ (by omega) this), fun q => absurd q c⟩
theorem dv_iff {d k : Nat} : dv d k = true ↔ 0 < d ∧ k % d = 0 := decide_eq_true_iff
theorem ret_pig {n : Nat} {ld : Nat → Nat} (hbd : ∀ i, i ≤ n → ld i ≤ n) {c : Nat} (hc : c ≤ n) {p : Nat} (h1 : 1 ≤ p) (h2 : orb ld c p = c) (h3 : ∀ q, 1 ≤ q → q < p → orb ld c q ≠ c) : p ≤ n + 1 := by
  refine pigeon (n + 1) p (orb ld c) (fun i _ => by have := orb_le hbd hc i; omega) (fun i j hij hj e => ?_)
  refine h3 (p - (j - i)) (by omega) (by omega) ?_
  have e1 : orb ld c (p - (j - i)) = orb ld (orb ld c i) (p - j) := by rw [orb_add]; congr 1; omega
  rw [e1, e, orb_add, show j + (p - j) = p by omega]
  exact h2
theorem sor_k {n : Nat} {ld : Nat → Nat} (hbd : ∀ i, i ≤ n → ld i ≤ n) {c : Nat} (hc : c ≤ n) {k : Nat} (hk : 1 ≤ k) : sor n ld c = k ↔ orb ld c k = c ∧ ∀ q, 1 ≤ q → q < k → orb ld c q ≠ c := by
  refine ⟨fun h => ?_, fun h => sor_eq hk (ret_pig hbd hc hk h.1 h.2) h.1 h.2⟩
  rcases sor_sp n ld c with ⟨g1, g2⟩ | ⟨K, g1, g2, g3, g4, g5⟩
  · omega
  · have e : K = k := by omega
    rw [← e]; exact ⟨g4, g5⟩
theorem sor_dv {n : Nat} {ld : Nat → Nat} (hbd : ∀ i, i ≤ n → ld i ≤ n) {c : Nat} (hc : c ≤ n) {k : Nat} (hk : 1 ≤ k) : dv (sor n ld c) k = true ↔ orb ld c k = c := by
  rw [dv_iff]
  rcases sor_sp n ld c with ⟨g1, g2⟩ | ⟨K, g1, g2, g3, g4, g5⟩
  · refine ⟨fun q => by omega, fun q => ?_⟩
    obtain ⟨p, a1, a2, a3, a4⟩ := least (fun q => orb ld c q = c) (k + 1) k (by omega) hk q
    exact absurd a3 (g2 p a1 (ret_pig hbd hc a1 a3 a4))
  · rw [g3, ret_dv g1 g4 g5]
    exact ⟨fun q => q.2, fun q => ⟨by omega, q⟩⟩
theorem epf_sp (ld : Nat → Nat) (e : Nat) : ∀ (r a k : Nat) (s : Bool), 1 ≤ k → a = orb (nxe ld) e (k - 1) → (∀ q, q < k - 1 → sl ld (orb (nxe ld) e q / 2) ≠ 0) → (s = true ↔ ∀ q, q < k - 1 → sl ld (orb (nxe ld) e q / 2) = 1 ∨ sl ld (orb (nxe ld) e q / 2) = -1) → (∀ q, 1 ≤ q → q < k → orb (nxe ld) e q ≠ e) →
    ((epf ld e r a k s).1 = 0 ∧ ∀ K, k ≤ K → K < k + r → (∀ q, q < K → sl ld (orb (nxe ld) e q / 2) ≠ 0) → orb (nxe ld) e K ≠ e) ∨
    ∃ K, k ≤ K ∧ K < k + r ∧ (epf ld e r a k s).1 = K ∧ (∀ q, q < K → sl ld (orb (nxe ld) e q / 2) ≠ 0) ∧ orb (nxe ld) e K = e ∧ (∀ q, 1 ≤ q → q < K → orb (nxe ld) e q ≠ e) ∧ ((epf ld e r a k s).2 = true ↔ ∀ q, q < K → sl ld (orb (nxe ld) e q / 2) = 1 ∨ sl ld (orb (nxe ld) e q / 2) = -1)
  | 0, a, k, s, h1, ha, hs, hb, hr => Or.inl ⟨rfl, fun K x y => by omega⟩
  | r + 1, a, k, s, h1, ha, hs, hb, hr => by
    have en : nxe ld a = orb (nxe ld) e k := by rw [ha]; show orb (nxe ld) e (k - 1 + 1) = _; rw [Nat.sub_add_cancel h1]
    unfold epf
    by_cases c1 : sl ld (a / 2) = 0
    · rw [if_pos c1]
      refine Or.inl ⟨rfl, fun K x y z => absurd c1 ?_⟩
      rw [ha]
      exact z (k - 1) (by omega)
    · rw [if_neg c1]
      have hs' : ∀ q, q < k → sl ld (orb (nxe ld) e q / 2) ≠ 0 := fun q hq => by
        by_cases z : q = k - 1
        · rw [z, ← ha]; exact c1
        · exact hs q (by omega)
      have hb' : (s && decide (sl ld (a / 2) = 1 ∨ sl ld (a / 2) = -1)) = true ↔ ∀ q, q < k → sl ld (orb (nxe ld) e q / 2) = 1 ∨ sl ld (orb (nxe ld) e q / 2) = -1 := by
        rw [Bool.and_eq_true, hb, decide_eq_true_iff]
        refine ⟨fun z q hq => ?_, fun z => ⟨fun q hq => z q (by omega), ?_⟩⟩
        · by_cases y : q = k - 1
          · rw [y, ← ha]; exact z.2
          · exact z.1 q (by omega)
        · rw [ha]; exact z (k - 1) (by omega)
      by_cases c2 : nxe ld a = e
      · rw [if_pos c2]
        exact Or.inr ⟨k, Nat.le_refl _, by omega, rfl, hs', by rw [← en]; exact c2, hr, hb'⟩
      · rw [if_neg c2]
        have hr' : ∀ q, 1 ≤ q → q < k + 1 → orb (nxe ld) e q ≠ e := fun q x y => by
          by_cases z : q = k
          · rw [z, ← en]; exact c2
          · exact hr q x (by omega)
        rcases epf_sp ld e r (nxe ld a) (k + 1) _ (by omega) en hs' hb' hr' with ⟨g1, g2⟩ | ⟨K, g1, g2, g3⟩
        · refine Or.inl ⟨g1, fun K x y z => ?_⟩
          by_cases y : K = k
          · rw [y]; exact hr' k h1 (by omega)
          · exact g2 K (by omega) (by omega) z
        · exact Or.inr ⟨K, by omega, by omega, g3⟩
theorem eps_sp (ld : Nat → Nat) (e : Nat) : ((eps ld e).1 = 0 ∧ ∀ K, 1 ≤ K → K ≤ 6 → (∀ q, q < K → sl ld (orb (nxe ld) e q / 2) ≠ 0) → orb (nxe ld) e K ≠ e) ∨
    ∃ K, 1 ≤ K ∧ K ≤ 6 ∧ (eps ld e).1 = K ∧ (∀ q, q < K → sl ld (orb (nxe ld) e q / 2) ≠ 0) ∧ orb (nxe ld) e K = e ∧ (∀ q, 1 ≤ q → q < K → orb (nxe ld) e q ≠ e) ∧ ((eps ld e).2 = true ↔ ∀ q, q < K → sl ld (orb (nxe ld) e q / 2) = 1 ∨ sl ld (orb (nxe ld) e q / 2) = -1) := by
  rcases epf_sp ld e 6 e 1 true (Nat.le_refl _) rfl (fun q hq => by omega) ⟨fun _ q hq => by omega, fun _ => rfl⟩ (fun q a b => by omega) with ⟨g1, g2⟩ | ⟨K, g1, g2, g3⟩
  · exact Or.inl ⟨g1, fun K a b => g2 K a (by omega)⟩
  · exact Or.inr ⟨K, g1, by omega, g3⟩
theorem eps_dv {ld : Nat → Nat} {e k : Nat} (hk : 1 ≤ k) (hk6 : k ≤ 6) : dv (eps ld e).1 k = true ↔ (∀ q, q < k → sl ld (orb (nxe ld) e q / 2) ≠ 0) ∧ orb (nxe ld) e k = e := by
  rw [dv_iff]
  rcases eps_sp ld e with ⟨g1, g2⟩ | ⟨K, g1, g2, g3, g4, g5, g6, g7⟩
  · refine ⟨fun q => by omega, fun q => ?_⟩
    exact absurd q.2 (g2 k hk hk6 q.1)
  · rw [g3, ret_dv g1 g5 g6]
    refine ⟨fun q => ⟨fun x hx => ?_, q.2⟩, fun q => ⟨by omega, q.2⟩⟩
    rw [ret_md g1 g5 x]
    exact g4 _ (Nat.mod_lt _ (by omega))
theorem eps_st {ld : Nat → Nat} {e k : Nat} (hk : 1 ≤ k) (hk6 : k ≤ 6) : ((eps ld e).2 = true ∧ dv (eps ld e).1 k = true) ↔ (∀ q, q < k → sl ld (orb (nxe ld) e q / 2) = 1 ∨ sl ld (orb (nxe ld) e q / 2) = -1) ∧ orb (nxe ld) e k = e := by
  rw [dv_iff]
  rcases eps_sp ld e with ⟨g1, g2⟩ | ⟨K, g1, g2, g3, g4, g5, g6, g7⟩
  · refine ⟨fun q => by omega, fun q => ?_⟩
    exact absurd q.2 (g2 k hk hk6 (fun x hx => by have := q.1 x hx; omega))
  · rw [g3, ret_dv g1 g5 g6, g7]
    refine ⟨fun q => ⟨fun x hx => ?_, q.2.2⟩, fun q => ⟨fun x hx => ?_, by omega, q.2⟩⟩
    · rw [ret_md g1 g5 x]
      exact q.1 _ (Nat.mod_lt _ (by omega))
    · have : K ≤ k := Nat.le_of_dvd (by omega) (Nat.dvd_of_mod_eq_zero q.2)
      exact q.1 x (by omega)
theorem eps_k {ld : Nat → Nat} {e k : Nat} (hk : 1 ≤ k) (hk6 : k ≤ 6) : (eps ld e).1 = k ↔ dv (eps ld e).1 k = true ∧ ∀ q, 1 ≤ q → q < k → orb (nxe ld) e q ≠ e := by
  rw [dv_iff]
  rcases eps_sp ld e with ⟨g1, g2⟩ | ⟨K, g1, g2, g3, g4, g5, g6, g7⟩
  · exact ⟨fun q => by omega, fun q => by omega⟩
  · rw [g3]
    refine ⟨fun q => ?_, fun q => ?_⟩
    · subst q
      exact ⟨⟨by omega, Nat.mod_self _⟩, g6⟩
    · have : K ≤ k := Nat.le_of_dvd (by omega) (Nat.dvd_of_mod_eq_zero q.1.2)
      by_cases z : K < k
      · exact absurd g5 (q.2 K g1 z)
      · omega
theorem nxe_eq {ld : Nat → Nat} {g t : Nat} (ht : t ≤ 1) (h : sl ld g ≠ 0) : nxe ld (2 * g + t) = 2 * ld (g + t) - (if 0 < sl ld g then t else 1 - t) := by
  have z : t = 0 ∨ t = 1 := by omega
  unfold nxe
  rcases z with rfl | rfl
  · rw [if_pos (by omega), show (2 * g + 0) / 2 = g by omega, Nat.add_zero]
    split <;> rfl
  · rw [if_neg (by omega), show (2 * g + 1) / 2 = g by omega]
    split <;> rfl
theorem tau_m {σ : Nat} (hσ : σ ≤ 1) {s S : Int} (h1 : s ≠ 0) (h2 : S ≠ 0) : tau σ (s * S) = if 0 < s then tau σ S else 1 - tau σ S := by
  unfold tau
  by_cases a : 0 < s
  · by_cases b : 0 < S
    · rw [if_pos (Int.mul_pos a b), if_pos a, if_pos b]
    · have := Int.mul_neg_of_pos_of_neg a (show S < 0 by omega)
      rw [if_neg (by omega), if_pos a, if_neg b]
  · by_cases b : 0 < S
    · have := Int.mul_neg_of_neg_of_pos (show s < 0 by omega) b
      rw [if_neg (by omega), if_neg a, if_pos b]
    · rw [if_pos (Int.mul_pos_of_neg_of_neg (by omega) (by omega)), if_neg a, if_neg b]
      omega
theorem wS_s {ld g : Nat → Nat} {q : Nat} : wS ld g (q + 1) = sl ld (g q) * wS ld g q := rfl
/-- a corner on a way is led along the way -/
theorem on_orb {ld g : Nat → Nat} {c k : Nat} (hon : ∀ q, q < k → onq ld g (c : Int) 1 q) : ∀ q, q ≤ k → wV ld g (c : Int) 1 q = (orb ld c q : Int)
  | 0, _ => wV_0
  | q + 1, hq => by
    have ih := on_orb hon q (by omega)
    have o := hon q (by omega)
    unfold onq at o
    rw [ih] at o
    obtain ⟨x, hx, ex⟩ : ∃ x : Nat, x ≤ 1 ∧ orb ld c q = g q + x := ⟨orb ld c q - g q, by omega, by omega⟩
    rw [cor_s (x := x) hx (by rw [ih, ex]; omega), ← ex]
    rfl
theorem edge_way {n : Nat} {ld g : Nat → Nat} {k σ c : Nat} (hσ : σ ≤ 1) (hp : pok n ld g (k - 1)) (hc : c = g 0 + σ) (hon : ∀ q, q < k → onq ld g (c : Int) 1 q) : ∀ q, q ≤ k → wS ld g q ≠ 0 → orb (nxe ld) (2 * g 0 + σ) q + tau σ (wS ld g q) = 2 * orb ld c q ∧ (q < k → orb ld c q = g q + tau σ (wS ld g q))
  | 0, _, _ => by
    have : tau σ (wS ld g 0) = σ := if_pos (by show (0 : Int) < 1; decide)
    rw [this]
    refine ⟨?_, fun _ => hc⟩
    show 2 * g 0 + σ + σ = 2 * c
    omega
  | q + 1, hq, hS => by
    have h0 : wS ld g q ≠ 0 := wS_ne hS q (by omega)
    obtain ⟨i1, i2⟩ := edge_way hσ hp hc hon q (by omega) h0
    have i2 := i2 (by omega)
    have hs : sl ld (g q) ≠ 0 := fun z => hS (by rw [wS_s, z, Int.zero_mul])
    have tl : tau σ (wS ld g q) ≤ 1 := tau_le hσ
    have tl' : tau σ (wS ld g (q + 1)) ≤ 1 := tau_le hσ
    have ts := tau_s (sp := g) (d := q) hσ hS
    have eo : orb ld c (q + 1) = ld (g q + tau σ (wS ld g q)) := by rw [← i2]; rfl
    have ee : orb (nxe ld) (2 * g 0 + σ) q = 2 * g q + tau σ (wS ld g q) := by omega
    have tm : tau σ (wS ld g (q + 1)) = if 0 < sl ld (g q) then tau σ (wS ld g q) else 1 - tau σ (wS ld g q) := by rw [wS_s]; exact tau_m hσ hs h0
    have en : orb (nxe ld) (2 * g 0 + σ) (q + 1) = 2 * orb ld c (q + 1) - tau σ (wS ld g (q + 1)) := by
      show nxe ld (orb (nxe ld) (2 * g 0 + σ) q) = _
      rw [ee, nxe_eq tl hs, tm, eo]
    rw [← eo] at ts
    have hne : ld (g q) ≠ ld (g q + 1) := by intro z; apply hs; unfold sl; omega
    refine ⟨?_, fun hq2 => ?_⟩
    · rw [en]
      split at ts <;> omega
    · have o := hon (q + 1) hq2
      unfold onq at o
      rw [on_orb hon (q + 1) hq] at o
      have cv := cov_iff.mp (hp.2.2.1 q (by omega) hS)
      split at ts <;> omega
theorem tau_pos {σ : Nat} {S : Int} (hσ : σ ≤ 1) : tau σ S = σ ↔ 0 < S := by
  unfold tau
  split <;> omega
theorem edge_sl {n : Nat} {ld g : Nat → Nat} {k σ c : Nat} (hσ : σ ≤ 1) (hp : pok n ld g (k - 1)) (hc : c = g 0 + σ) (hon : ∀ q, q < k → onq ld g (c : Int) 1 q) {q : Nat} (hq : q < k) (hS : wS ld g q ≠ 0) : orb (nxe ld) (2 * g 0 + σ) q / 2 = g q := by
  have := edge_way hσ hp hc hon q (by omega) hS
  have h2 := this.2 hq
  have tl : tau σ (wS ld g q) ≤ 1 := tau_le hσ
  omega
/-- an edge comes back: its way goes up and its corner comes back -/
theorem edge_dv {n : Nat} {ld g : Nat → Nat} {k σ c : Nat} (hk : 1 ≤ k) (hk6 : k ≤ 6) (hσ : σ ≤ 1) (hp : pok n ld g (k - 1)) (hc : c = g 0 + σ) (hon : ∀ q, q < k → onq ld g (c : Int) 1 q) : dv (eps ld (2 * g 0 + σ)).1 k = true ↔ 0 < wS ld g k ∧ orb ld c k = c := by
  rw [eps_dv hk hk6]
  refine ⟨fun h => ?_, fun h => ?_⟩
  · have hS : ∀ q, q ≤ k → wS ld g q ≠ 0 := by
      intro q
      induction q with
      | zero => intro _; show ¬ (1 : Int) = 0; decide
      | succ q ih =>
        intro hq
        have := h.1 q (by omega)
        rw [edge_sl hσ hp hc hon (by omega) (ih (by omega))] at this
        rw [wS_s]
        exact Int.mul_ne_zero this (ih (by omega))
    have w := (edge_way hσ hp hc hon k (Nat.le_refl _) (hS k (Nat.le_refl _))).1
    rw [h.2] at w
    have tl : tau σ (wS ld g k) ≤ 1 := tau_le hσ
    exact ⟨(tau_pos hσ).mp (by omega), by omega⟩
  · have hS : ∀ q, q ≤ k → wS ld g q ≠ 0 := wS_ne (by omega)
    refine ⟨fun q hq => ?_, ?_⟩
    · rw [edge_sl hσ hp hc hon hq (hS q (by omega))]
      intro z
      exact hS (q + 1) (by omega) (by rw [wS_s, z, Int.zero_mul])
    · have w := (edge_way hσ hp hc hon k (Nat.le_refl _) (hS k (Nat.le_refl _))).1
      rw [(tau_pos hσ).mpr h.1, h.2] at w
      omega
theorem mul_1 {a b : Nat} (h : a * b = 1) : a = 1 ∧ b = 1 := ⟨Nat.dvd_one.mp ⟨b, h.symm⟩, Nat.dvd_one.mp ⟨a, by rw [Nat.mul_comm]; exact h.symm⟩⟩
theorem wS_1 {ld g : Nat → Nat} {k : Nat} (h : wS ld g k = 1 ∨ wS ld g k = -1) : ∀ q, q ≤ k → wS ld g q = 1 ∨ wS ld g q = -1 := by
  induction k with
  | zero => intro q hq; rw [show q = 0 by omega]; exact h
  | succ k ih =>
    have e : (sl ld (g k)).natAbs * (wS ld g k).natAbs = 1 := by
      rw [← Int.natAbs_mul, ← wS_s]
      omega
    have e2 := (mul_1 e).2
    intro q hq
    by_cases c : q = k + 1
    · rw [c]; exact h
    · exact ih (by omega) q (by omega)
theorem sl_1 {ld g : Nat → Nat} {k : Nat} (h : wS ld g k = 1 ∨ wS ld g k = -1) {q : Nat} (hq : q < k) : sl ld (g q) = 1 ∨ sl ld (g q) = -1 := by
  have h1 := wS_1 h (q + 1) (by omega)
  have e : (sl ld (g q)).natAbs * (wS ld g q).natAbs = 1 := by
    rw [← Int.natAbs_mul, ← wS_s]
    omega
  have e2 := (mul_1 e).1
  omega
theorem one_wS {ld g : Nat → Nat} {k : Nat} (h : ∀ q, q < k → sl ld (g q) = 1 ∨ sl ld (g q) = -1) : wS ld g k = 1 ∨ wS ld g k = -1 := by
  induction k with
  | zero => left; rfl
  | succ k ih =>
    rw [wS_s]
    rcases h k (by omega) with a | a <;> rcases ih (fun q hq => h q (by omega)) with b | b <;> rw [a, b] <;> decide
theorem edge_st {n : Nat} {ld g : Nat → Nat} {k σ c : Nat} (hk : 1 ≤ k) (hk6 : k ≤ 6) (hσ : σ ≤ 1) (hp : pok n ld g (k - 1)) (hc : c = g 0 + σ) (hon : ∀ q, q < k → onq ld g (c : Int) 1 q) : ((eps ld (2 * g 0 + σ)).2 = true ∧ dv (eps ld (2 * g 0 + σ)).1 k = true) ↔ wS ld g k = 1 ∧ wT ld g k = 0 := by
  have eV := on_orb hon k (Nat.le_refl _)
  unfold wV at eV
  refine ⟨fun h => ?_, fun h => ?_⟩
  · have d := (edge_dv hk hk6 hσ hp hc hon).mp h.2
    have s := (eps_st hk hk6).mp h
    have hS : ∀ q, q ≤ k → wS ld g q ≠ 0 := wS_ne (by omega)
    have o := one_wS (ld := ld) (g := g) (k := k) (fun q hq => by
      have := s.1 q hq
      rw [edge_sl hσ hp hc hon hq (hS q (by omega))] at this
      exact this)
    have e1 : wS ld g k = 1 := by omega
    rw [e1, d.2] at eV
    exact ⟨e1, by omega⟩
  · rw [h.1, h.2] at eV
    have d := (edge_dv hk hk6 hσ hp hc hon).mpr ⟨by omega, by omega⟩
    rw [eps_st hk hk6]
    refine ⟨fun q hq => ?_, ((eps_dv hk hk6).mp d).2⟩
    rw [edge_sl hσ hp hc hon hq (wS_ne (m := k) (by omega) q (by omega))]
    exact sl_1 (Or.inl h.1) hq
/-- a way of slopes 1 and -1 has both corners -/
theorem still_on {n : Nat} {ld g : Nat → Nat} {k σ c : Nat} (hσ : σ ≤ 1) (hp : pok n ld g (k - 1)) (hc : c = g 0 + σ) (h : wS ld g k = 1 ∨ wS ld g k = -1) : ∀ q, q < k → onq ld g (c : Int) 1 q := by
  have key : ∀ q, q < k → wV ld g (c : Int) 1 q = (g q : Int) + tau σ (wS ld g q) := by
    intro q
    induction q with
    | zero =>
      intro _
      have : tau σ (wS ld g 0) = σ := if_pos (by show (0 : Int) < 1; decide)
      rw [this, wV_0, hc]
      omega
    | succ q ih =>
      intro hq
      have tl : tau σ (wS ld g q) ≤ 1 := tau_le hσ
      have tl' : tau σ (wS ld g (q + 1)) ≤ 1 := tau_le hσ
      have hS : wS ld g (q + 1) ≠ 0 := by have := wS_1 h (q + 1) (by omega); omega
      rw [cor_s tl (ih (by omega)), tau_s hσ hS]
      have cv := cov_iff.mp (hp.2.2.1 q (by omega) hS)
      have s1 := sl_1 h (q := q) (by omega)
      unfold sl at s1
      split <;> omega
  intro q hq
  have tl : tau σ (wS ld g q) ≤ 1 := tau_le hσ
  unfold onq
  rw [key q hq]
  omega
/-- the corner of a closed way -/
theorem clo_edge {n : Nat} {ld g : Nat → Nat} {k σ c : Nat} (hk : 1 ≤ k) (hσ : σ ≤ 1) (hp : pok n ld g (k - 1)) (hc : c = g 0 + σ) (hon : ∀ q, q < k → onq ld g (c : Int) 1 q) (ho : orb ld c k = c) : clo ld k g ↔ 0 < wS ld g k := by
  obtain ⟨m, rfl⟩ : ∃ m, k = m + 1 := ⟨k - 1, by omega⟩
  have em : m + 1 - 1 = m := by omega
  have aux : wS ld g (m + 1) ≠ 0 → (cov ld (g m) (g 0) = true ↔ tau σ (wS ld g (m + 1)) = σ) := by
    intro hS
    have ts := tau_s (sp := g) (d := m) hσ hS
    have tl' : tau σ (wS ld g (m + 1)) ≤ 1 := tau_le hσ
    have w := (edge_way hσ hp hc hon m (by omega) (wS_ne hS m (by omega))).2 (by omega)
    have eo : orb ld c (m + 1) = ld (g m + tau σ (wS ld g m)) := by rw [← w]; rfl
    rw [← eo, ho] at ts
    have hs : sl ld (g m) ≠ 0 := fun z => hS (by rw [wS_s, z, Int.zero_mul])
    have hne : ld (g m) ≠ ld (g m + 1) := by intro z; apply hs; unfold sl; omega
    rw [cov_iff]
    split at ts <;> omega
  refine ⟨fun h => ?_, fun h => ?_⟩
  · have hS := clo_S hk h
    have h2 := h.2
    rw [em] at h2
    exact (tau_pos hσ).mp ((aux hS).mp h2)
  · refine ⟨?_, ?_⟩
    · rw [em]; exact wS_ne (m := m + 1) (by omega) m (by omega)
    · rw [em]; exact (aux (by omega)).mpr ((tau_pos hσ).mpr h)
