/-! ===== mathematics of rounds: rounds that are new ===== -/
theorem per_sh {ld g : Nat → Nat} {d k : Nat} (h : ∀ q, q + d < k → g (q + d) = g q) : ∀ q, q + d ≤ k → wS ld g (q + d) = wS ld g q * wS ld g d ∧ wT ld g (q + d) = wS ld g q * wT ld g d + wT ld g q
  | 0, _ => by
    rw [Nat.zero_add]
    have e1 : wS ld g 0 = 1 := rfl
    have e2 : wT ld g 0 = 0 := rfl
    rw [e1, e2]
    omega
  | q + 1, hq => by
    obtain ⟨i1, i2⟩ := per_sh (ld := ld) h q (by omega)
    rw [show q + 1 + d = q + d + 1 by omega]
    have e1 : wS ld g (q + d + 1) = sl ld (g (q + d)) * wS ld g (q + d) := rfl
    have e2 : wT ld g (q + d + 1) = sl ld (g (q + d)) * wT ld g (q + d) + (ld (g (q + d)) : Int) - sl ld (g (q + d)) * (g (q + d) : Int) := rfl
    have e3 : wS ld g (q + 1) = sl ld (g q) * wS ld g q := rfl
    have e4 : wT ld g (q + 1) = sl ld (g q) * wT ld g q + (ld (g q) : Int) - sl ld (g q) * (g q : Int) := rfl
    rw [e1, e2, e3, e4, h q (by omega), i1, i2]
    refine ⟨?_, ?_⟩ <;> grind
theorem per_id {ld g : Nat → Nat} {d k : Nat} (h : ∀ q, q + d < k → g (q + d) = g q) : ∀ j, j * d ≤ k → wS ld g (j * d) * wT ld g d + wT ld g (j * d) = wS ld g d * wT ld g (j * d) + wT ld g d
  | 0, _ => by
    rw [Nat.zero_mul]
    have e1 : wS ld g 0 = 1 := rfl
    have e2 : wT ld g 0 = 0 := rfl
    rw [e1, e2]
    omega
  | j + 1, hj => by
    rw [Nat.add_mul, Nat.one_mul] at hj ⊢
    have ih := per_id (ld := ld) h j (by omega)
    obtain ⟨s1, s2⟩ := per_sh (ld := ld) h (j * d) hj
    rw [s1, s2]
    grind
theorem per_pt {ld g : Nat → Nat} {d k : Nat} (hm : k % d = 0) (h : per d k g = true) {a b : Int} (hS : wS ld g k ≠ 1) (hv : wV ld g a b k = a) : wV ld g a b d = a := by
  have e := per_id (ld := ld) (per_iff.mp h) (k / d) (Nat.div_mul_le_self k d)
  rw [Nat.div_mul_cancel (Nat.dvd_of_mod_eq_zero hm)] at e
  unfold wV at hv ⊢
  have : (wS ld g k - 1) * (wS ld g d * a + wT ld g d * b - a) = 0 := by grind
  rcases Int.mul_eq_zero.mp this with z | z
  · omega
  · omega
theorem lsj_iff {n : Nat} {ld : Nat → Nat} {p : Nat × Nat} : ∀ r d l, lsj n ld p r d l = true ↔ l = true ∨ ∃ x, d ≤ x ∧ x < d + r ∧ rdp (fol n ld p.2 p.1 x).toNat p.2 = p
  | 0, d, l => ⟨fun h => Or.inl h, fun h => h.elim id (fun ⟨x, a, b, _⟩ => by omega)⟩
  | r + 1, d, l => by
    unfold lsj
    rw [lsj_iff r (d + 1), Bool.or_eq_true, decide_eq_true_iff]
    refine ⟨fun h => ?_, fun h => ?_⟩
    · rcases h with (h | h) | ⟨x, a, b, c⟩
      · exact Or.inl h
      · exact Or.inr ⟨d, Nat.le_refl _, by omega, h⟩
      · exact Or.inr ⟨x, by omega, by omega, c⟩
    · rcases h with h | ⟨x, a, b, c⟩
      · exact Or.inl (Or.inl h)
      · by_cases z : x = d
        · rw [z] at c; exact Or.inl (Or.inr c)
        · exact Or.inr ⟨x, by omega, by omega, c⟩
theorem isj_iff {n : Nat} {ld g : Nat → Nat} {k : Nat} (hk : 1 ≤ k) (hp : pok n ld g (k - 1)) {p : Nat × Nat} (h : pnt ld k g = some p) : isj n ld k p = true ↔ ∀ d, 1 ≤ d → d < k → wV ld g (p.1 : Int) (p.2 : Int) d ≠ (p.1 : Int) := by
  obtain ⟨a, b⟩ := p
  obtain ⟨h1, h2, h3, h4, h5⟩ := (pnt_iff hk).mp h
  have key : ∀ d, d < k → (rdp (fol n ld ((b : Nat) : Int) ((a : Nat) : Int) d).toNat b = (a, b) ↔ wV ld g (a : Int) (b : Int) d = (a : Int)) := by
    intro d hd
    rw [fol_on (sp := g) (by omega) d (fun q hq => ⟨hp.1 q (by omega), h4 q (by omega)⟩)]
    have o := (h4 d hd).1
    have z0 := Int.mul_nonneg (show (0 : Int) ≤ (g d : Int) by omega) (show (0 : Int) ≤ (b : Int) by omega)
    generalize wV ld g (a : Int) (b : Int) d = v at *
    refine ⟨fun e => ?_, fun e => ?_⟩
    · have e1 : v.toNat / Nat.gcd v.toNat b = a := congrArg Prod.fst e
      have e2 : b / Nat.gcd v.toNat b = b := congrArg Prod.snd e
      have hG : 0 < Nat.gcd v.toNat b := Nat.gcd_pos_of_pos_right _ h2
      have hb' : b = Nat.gcd v.toNat b * b := by
        have := Nat.mul_div_cancel' (Nat.gcd_dvd_right v.toNat b)
        rw [e2] at this
        exact this.symm
      have g1 : Nat.gcd v.toNat b = 1 := by
        have : 1 * b = Nat.gcd v.toNat b * b := by rw [Nat.one_mul]; exact hb'
        exact (Nat.eq_of_mul_eq_mul_right h2 this).symm
      rw [g1, Nat.div_one] at e1
      omega
    · rw [e, Int.toNat_natCast]
      unfold rdp
      rw [h3, Nat.div_one, Nat.div_one]
  unfold isj
  rw [Bool.not_eq_true', Bool.eq_false_iff]
  refine ⟨fun hh d hd1 hd2 e => hh ((lsj_iff _ _ _).mpr (Or.inr ⟨d, hd1, by omega, (key d hd2).mpr e⟩)), fun hh q => ?_⟩
  rcases (lsj_iff _ _ _).mp q with z | ⟨x, x1, x2, x3⟩
  · exact absurd z (by decide)
  · exact hh x x1 (by omega) ((key x (by omega)).mp x3)
/-- an edge that comes back sooner -/
theorem edge_lt {n : Nat} {ld g : Nat → Nat} {k σ c : Nat} (hk : 1 ≤ k) (hk6 : k ≤ 6) (hσ : σ ≤ 1) (hp : pok n ld g (k - 1)) (hc : c = g 0 + σ) (hon : ∀ q, q < k → onq ld g (c : Int) 1 q) (hS : 0 < wS ld g k) (ho : orb ld c k = c) (hne : (eps ld (2 * g 0 + σ)).1 ≠ k) : ∃ K, 1 ≤ K ∧ K < k ∧ k % K = 0 ∧ per K k g = true ∧ orb ld c K = c := by
  have d := (edge_dv hk hk6 hσ hp hc hon).mpr ⟨hS, ho⟩
  have d2 := dv_iff.mp d
  have le : (eps ld (2 * g 0 + σ)).1 ≤ k := Nat.le_of_dvd (by omega) (Nat.dvd_of_mod_eq_zero d2.2)
  obtain ⟨K, eK⟩ : ∃ K, K = (eps ld (2 * g 0 + σ)).1 := ⟨_, rfl⟩
  rw [← eK] at d2 le hne
  have hnz : ∀ q, q ≤ k → wS ld g q ≠ 0 := wS_ne (by omega)
  have ret := ((eps_dv (ld := ld) (e := 2 * g 0 + σ) (k := K) (by omega) (by omega)).mp (by rw [← eK]; exact dv_iff.mpr ⟨d2.1, Nat.mod_self _⟩)).2
  refine ⟨K, by omega, by omega, d2.2, per_iff.mpr (fun q hq => ?_), ?_⟩
  · rw [← edge_sl hσ hp hc hon hq (hnz _ (by omega)), ← edge_sl hσ hp hc hon (show q < k by omega) (hnz _ (by omega)), Nat.add_comm q K, ← orb_add, ret]
  · have w := (edge_way hσ hp hc hon K (by omega) (hnz _ (by omega))).1
    rw [ret] at w
    have tl : tau σ (wS ld g K) ≤ 1 := tau_le hσ
    omega
theorem no_still {n : Nat} {ld : Nat → Nat} {k : Nat} (hS : hsf ld k (2 * n) 0 = false) {e : Nat} (he : e < 2 * n) (h : (eps ld e).2 = true) : (eps ld e).1 ≠ k := by
  intro q
  have := (hsf_iff (ld := ld) (k := k) (2 * n) 0).mpr ⟨e, by omega, by omega, h, q⟩
  rw [hS] at this
  cases this
theorem nw_S {n : Nat} {ld g : Nat → Nat} {k : Nat} (hk : 1 ≤ k) (hk6 : k ≤ 6) (hS : hsf ld k (2 * n) 0 = false) (hg : cyc n ld k g) (hn : nwP k g = true) : wS ld g k ≠ 1 := by
  intro h1
  obtain ⟨hp, hc⟩ := cyc_pok hk hg
  have h0 := hg.1 0 (by omega)
  have hon := still_on (σ := 0) (by omega) hp rfl (Or.inl h1)
  have st := (edge_st (σ := 0) hk hk6 (by omega) hp rfl hon).mpr ⟨h1, clo_1 hk hp hc h1⟩
  obtain ⟨K, a1, a2, a3, a4, -⟩ := edge_lt (σ := 0) hk hk6 (by omega) hp rfl hon (by omega) ((edge_dv (σ := 0) hk hk6 (by omega) hp rfl hon).mp st.2).2 (no_still hS (by omega) st.1)
  exact nwP_no hk6 hn a1 a2 a3 a4
theorem not_mul {ld g : Nat → Nat} {k i : Nat} {a b : Int} (hb : 0 < b) (h1 : (i : Int) * b < a) (h2 : a < ((i : Int) + 1) * b) (hv : wV ld g a b k = a) : ∀ r q, q + r = k → ∀ x, wV ld g a b q ≠ x * b
  | 0, q, hq, x, hx => by
    rw [show q = k by omega, hv] at hx
    rw [hx] at h1 h2
    have l1 := Int.lt_of_mul_lt_mul_right h1 (by omega)
    have l2 := Int.lt_of_mul_lt_mul_right h2 (by omega)
    omega
  | r + 1, q, hq, x, hx => not_mul hb h1 h2 hv r (q + 1) (by omega) (sl ld (g q) * (x - g q) + ld (g q)) (by rw [wV_s, hx]; grind)
theorem pt_orb {n : Nat} {ld g : Nat → Nat} {k : Nat} (hp : pok n ld g (k - 1)) {a b : Nat} (hb : 0 < b) (hon : ∀ q, q < k → onq ld g (a : Int) (b : Int) q) (hv : wV ld g (a : Int) (b : Int) k = (a : Int)) : ∀ q, q ≤ k → (orb (fun x => (stp n ld (b : Int) (x : Int)).toNat) a q : Int) = wV ld g (a : Int) (b : Int) q
  | 0, _ => wV_0.symm
  | q + 1, hq => by
    show (((stp n ld (b : Int) (orb (fun x => (stp n ld (b : Int) (x : Int)).toNat) a q : Int)).toNat : Nat) : Int) = _
    rw [pt_orb hp hb hon hv q (by omega), stp_on (n := n) (by omega) (hp.1 q (by omega)) (hon q (by omega)).1 (hon q (by omega)).2, ← wV_s]
    refine Int.toNat_of_nonneg ?_
    by_cases c : q + 1 = k
    · rw [c, hv]; omega
    · exact Int.le_trans (Int.mul_nonneg (by omega) (by omega)) (hon (q + 1) (by omega)).1
/-- between corners: as long as its way -/
theorem in_new {n : Nat} {ld g : Nat → Nat} {k : Nat} (hk : 1 ≤ k) (hk6 : k ≤ 6) (hp : pok n ld g (k - 1)) {p : Nat × Nat} (h : pnt ld k g = some p) (hc : p.2 ≠ 1) (hn : nwP k g = true) : isj n ld k p = true := by
  obtain ⟨a, b⟩ := p
  obtain ⟨h1, h2, h3, h4, h5⟩ := (pnt_iff hk).mp h
  rw [isj_iff hk hp h]
  intro d d1 d2 e
  have o := h4 0 (by omega)
  unfold onq at o
  rw [wV_0] at o
  have i1 : (g 0 : Int) * (b : Int) < (a : Int) := by
    rcases Int.lt_or_eq_of_le o.1 with q | q
    · exact q
    · have : a = g 0 * b := by
        have : ((g 0 * b : Nat) : Int) = (a : Int) := by rw [Int.natCast_mul]; exact q
        omega
      exact absurd (congrArg Prod.snd (cor_eq h3 this)) hc
  have i2 : (a : Int) < ((g 0 : Int) + 1) * (b : Int) := by
    rcases Int.lt_or_eq_of_le o.2 with q | q
    · exact q
    · have : a = (g 0 + 1) * b := by
        have : (((g 0 + 1) * b : Nat) : Int) = (a : Int) := by rw [Int.natCast_mul]; exact q.symm
        omega
      exact absurd (congrArg Prod.snd (cor_eq h3 this)) hc
  have po := pt_orb hp h2 h4 h5
  obtain ⟨P, a1, a2, a3, a4⟩ := least (fun q => orb (fun x => (stp n ld (b : Int) (x : Int)).toNat) a q = a) (d + 1) d (by omega) d1 (by have := po d (by omega); have e : wV ld g (a : Int) (b : Int) d = (a : Int) := e; omega)
  have hm : k % P = 0 := (ret_dv a1 a3 a4 k).mp (by have := po k (Nat.le_refl _); omega)
  refine nwP_no hk6 hn a1 (by omega) hm (per_iff.mpr (fun q hq => ?_))
  have e1 : wV ld g (a : Int) (b : Int) (q + P) = wV ld g (a : Int) (b : Int) q := by
    rw [← po (q + P) (by omega), ← po q (by omega), Nat.add_comm q P, ← orb_add, a3]
  have s1 := h4 q (by omega)
  have s2 := h4 (q + P) hq
  unfold onq at s1 s2
  rw [e1] at s2
  have nm := not_mul (i := g 0) (by omega) i1 i2 h5 (k - q) q (by omega)
  have z1 := nm (g q : Int)
  have z2 := nm (g (q + P) : Int)
  have b1 : (g q : Int) * (b : Int) < ((g (q + P) : Int) + 1) * (b : Int) := by omega
  have b2 : (g (q + P) : Int) * (b : Int) < ((g q : Int) + 1) * (b : Int) := by omega
  have l1 := Int.lt_of_mul_lt_mul_right b1 (by omega)
  have l2 := Int.lt_of_mul_lt_mul_right b2 (by omega)
  omega
theorem ceq_len (f : Nat → Nat) (k : Nat) : ∀ m, ceq f k m = (((List.range m).filter (fun x => decide (f x = k))).length : Int)
  | 0 => rfl
  | m + 1 => by
    unfold ceq
    rw [ceq_len f k m, List.range_succ, List.filter_append, List.length_append, List.filter_cons]
    by_cases c : f m = k
    · rw [if_pos c, if_pos (decide_eq_true c)]; rfl
    · rw [if_neg c, if_neg (by rw [decide_eq_false c]; decide)]; rfl
