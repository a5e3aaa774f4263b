/-! ===== the model: one step of the walk down ===== -/
theorem p5_le {q : Nat} (h : q ≤ 6) : 5 ^ q ≤ 15625 := by
  have e : q = 0 ∨ q = 1 ∨ q = 2 ∨ q = 3 ∨ q = 4 ∨ q = 5 ∨ q = 6 := by omega
  rcases e with rfl | rfl | rfl | rfl | rfl | rfl | rfl <;> decide
theorem p5_s (q : Nat) : 5 ^ (q + 1) = 5 * 5 ^ q := by rw [Nat.pow_succ, Nat.mul_comm]
theorem p5_1 (q : Nat) : 1 ≤ 5 ^ q := Nat.pos_of_ne_zero (by simp)
/-- bounds of what comes next -/
theorem nST_b {n : Nat} {ld : Nat → Nat} (h5 : n ≤ 5) (hb : ∀ i, i ≤ n → ld i ≤ n) {j : Nat} (hj : j < n) {s t : Int} {q : Nat} (s1 : -(5 ^ q : Nat) ≤ s) (s2 : s ≤ (5 ^ q : Nat)) (t1 : -(7 * 5 ^ q - 7 : Nat) ≤ t) (t2 : t ≤ (7 * 5 ^ q - 7 : Nat)) : -(5 ^ (q + 1) : Nat) ≤ nS ld j s ∧ nS ld j s ≤ (5 ^ (q + 1) : Nat) ∧ -(7 * 5 ^ (q + 1) - 7 : Nat) ≤ nT ld j t ∧ nT ld j t ≤ (7 * 5 ^ (q + 1) - 7 : Nat) := by
  have b := sl_rg h5 hb hj
  have m1 := mulb b.1 b.2 s1 s2
  have m2 := mulb b.1 b.2 t1 t2
  have m3 := mulb (y := (j : Int)) (Y := 4) b.1 b.2 (by omega) (by omega)
  have l1 := hb j (by omega)
  have p1 := p5_1 q
  rw [p5_s]
  unfold nS nT
  generalize 5 ^ q = P at *
  have e : ((7 * (5 * P) - 7 : Nat) : Int) = 35 * (P : Int) - 7 := by omega
  have e2 : ((7 * P - 7 : Nat) : Int) = 7 * (P : Int) - 7 := by omega
  rw [e2] at m2
  rw [e]
  generalize sl ld j * s = x1 at *
  generalize sl ld j * t = x2 at *
  generalize sl ld j * (j : Int) = x3 at *
  omega
theorem nT_flat {n : Nat} {ld : Nat → Nat} (h1 : 1 ≤ n) (hb : ∀ i, i ≤ n → ld i ≤ n) {j : Nat} (hj : j < n) {s t : Int} (hf : s = 0 → 0 ≤ t ∧ t ≤ (n : Int) ∧ j = min t.toNat (n - 1)) (h0 : nS ld j s = 0) : 0 ≤ nT ld j t ∧ nT ld j t ≤ (n : Int) := by
  have l1 := hb j (by omega)
  have l2 := hb (j + 1) (by omega)
  unfold nS at h0
  unfold nT
  rcases Int.mul_eq_zero.mp h0 with e | e
  · rw [e, Int.zero_mul, Int.zero_mul]
    omega
  · obtain ⟨f1, f2, f3⟩ := hf e
    have c : t = (j : Int) ∨ t = (j : Int) + 1 := by omega
    rcases c with c | c
    · rw [c]; omega
    · rw [c, Int.mul_add, Int.mul_one]
      unfold sl
      omega
theorem n_goOn (E : zE) {w : zWd} {σ : zSt} {m : Nat} (hm : m < 8) (hc : zMc w σ) {sp : Nat → Nat} {ps pt : Nat → Int} {tr : Nat → Int32} {R : RS} {k d : Nat} (hR : zRn w sp ps pt tr (d + 1) (d + 1) R) (hdk : d < k) (hk : k ≤ 6) (hp : pbd (σ.1 m) sp ps pt d) (hok : rok (σ.1 m) R 30000) {c : Nat} (hct : tr d = nI c) (hcn : c ≤ σ.1 m) : zOk E mX4_goOn 3 [.ref 49, .int (nI m), .int (nI d), .int (nI k)] w (goP (σ.1 m) (σ.2 m) k sp ps pt tr d R w (nS (σ.2 m) (sp d) (ps d)) (nT (σ.2 m) (sp d) (pt d))) := by
  obtain ⟨⟨ab, be, h0⟩, ⟨fa, g3, e3⟩, ⟨fb, g4, e4⟩, ⟨pS, g5, e5⟩, ⟨pT, g6, e6⟩, ⟨sS, g9, e9⟩, ⟨tS, g10, e10⟩⟩ := id hR
  obtain ⟨⟨sz, h50, ez⟩, ⟨ldm, h51, el⟩, hv⟩ := id hc
  obtain ⟨v1, v2, v3⟩ := hv m hm
  obtain ⟨p0, p0t, pq, pf⟩ := hp
  obtain ⟨hsp, s1, s2, t1, t2⟩ := pq d (Nat.le_refl _)
  obtain ⟨S1, S2, T1, T2⟩ := nST_b v2 v3 hsp s1 s2 t1 t2
  have hfl := nT_flat (s := ps d) v1 v3 hsp pf
  have P6 := p5_le (q := d + 1) (by omega)
  have b1 := sl_rg v2 v3 hsp
  obtain ⟨s, es⟩ : ∃ s, s = nS (σ.2 m) (sp d) (ps d) := ⟨_, rfl⟩
  obtain ⟨t, et⟩ : ∃ t, t = nT (σ.2 m) (sp d) (pt d) := ⟨_, rfl⟩
  rw [← es] at S1 S2
  rw [← et] at T1 T2
  rw [← es, ← et] at hfl ⊢
  have ls : lI (sl (σ.2 m) (sp d)) * lI (ps d) = lI s := by rw [es, lI_mul]; rfl
  have lt : lI (sl (σ.2 m) (sp d)) * lI (pt d) + lI ((σ.2 m (sp d) : Nat) : Int) - lI (sl (σ.2 m) (sp d)) * lI (sp d) = lI t := by rw [et, lI_mul, lI_mul, lI_add, lI_sub]; rfl
  refine zOk.of (by decide +kernel) (Nat.le_of_ble_eq_true rfl) ?_
  refine zV.run kX4_goOn 1 rfl ?_
  refine zV.gf kX4_goOn rfl fX4_39 (h0) rfl ?_
  refine zV.run kX4_goOn 1 rfl ?_
  refine zV.ial kX4_goOn rfl (g9) (d) (rfl) (by omega) (by decide) ?_
  rw [e9 d (by omega)]
  refine zV.run kX4_goOn 4 rfl ?_
  refine zV.cv kX4_goOn rfl lX4_57 (n_slopeOf E h0 hc hm hsp) (by decide) rfl (h0) rfl rfl rfl (Nat.le_of_ble_eq_true rfl) ?_
  rintro _ _ ⟨rfl, rfl⟩
  refine zV.run kX4_goOn 4 rfl ?_
  rw [iI_l (by omega) (by omega)]
  refine zV.gf kX4_goOn rfl fX4_27 (h0) rfl ?_
  refine zV.run kX4_goOn 1 rfl ?_
  refine zV.lal kX4_goOn rfl (g5) (d) (rfl) (by omega) (by decide) ?_
  rw [e5 d (by omega)]
  refine zV.run kX4_goOn 4 rfl ?_
  rw [ls]
  refine zV.gf kX4_goOn rfl fX4_30 (h0) rfl ?_
  refine zV.run kX4_goOn 1 rfl ?_
  refine zV.lal kX4_goOn rfl (g6) (d) (rfl) (by omega) (by decide) ?_
  rw [e6 d (by omega)]
  refine zV.run kX4_goOn 2 rfl ?_
  refine zV.gf kX4_goOn rfl fX4_13 (h0) rfl ?_
  refine zV.run kX4_goOn 5 rfl ?_
  refine zV.ial kX4_goOn rfl (h51) (7 * m + sp d) (ix7) (by omega) (by decide) ?_
  rw [el m (sp d) hm (by omega)]
  refine zV.run kX4_goOn 12 rfl ?_
  rw [nI_iI (σ.2 m (sp d)), iI_l (by have := v3 (sp d) (by omega); omega) (by have := v3 (sp d) (by omega); omega), nI_iI (sp d), iI_l (by omega) (by omega), lt]
  refine zV.ic2 kX4_goOn rfl (fun c1 => ?_) (fun c1 => ?_)
  · skip
    have c1 : ¬ d + 1 = k := fun q => c1 (by rw [nI_1, q])
    refine zV.run kX4_goOn 2 rfl ?_
    refine zV.il2 kX4_goOn rfl rfl (fun c2 => ?_) (fun c2 => ?_)
    · skip
      have c2 : ¬ s = 0 := fun q => c2 (by rw [q]; rfl)
      exact n_goOn_l E hm (by omega) hk c2 (by omega) (by omega) hsp _ (σ.1 m - c) c w tr _ _ (by omega) hc hR hct
    · skip
      have c2 := (lI_eq (a := s) (b := 0) (by omega) (by omega) (by omega) (by omega)).mp (Decidable.not_not.mp c2)
      have F := hfl c2
      refine zV.run kX4_goOn 1 rfl ?_
      refine zV.gf kX4_goOn rfl fX4_42 (h0) rfl ?_
      refine zV.run kX4_goOn 1 rfl ?_
      refine zV.ial kX4_goOn rfl (g10) (d) (rfl) (by omega) (by decide) ?_
      refine zV.if2 kX4_goOn rfl (fun c3 => ?_) (fun c3 => ?_)
      · skip
        rw [e10 d (by omega)] at c3
        refine zV.run kX4_goOn 3 rfl ?_
        rw [nI_m1]
        refine zV.iret kX4_goOn rfl rfl ⟨fun _ _ => rfl, Or.inr (Or.inr (Or.inl ⟨by omega, c2, c3, rfl, hR⟩))⟩
      · skip
        rw [e10 d (by omega)] at c3
        have c3 := Decidable.not_not.mp c3
        refine zV.run kX4_goOn 1 rfl ?_
        refine zV.gf kX4_goOn rfl fX4_42 (h0) rfl ?_
        refine zV.run kX4_goOn 2 rfl ?_
        refine zV.ias kX4_goOn rfl (g10) (d) (rfl) (by omega) (by decide) ?_
        have hR2 := hR.tr g10 e10 1
        obtain ⟨w2, ew⟩ : ∃ w2, w2 = va_up w 60 (zIA 7 (upd tS d 1)) := ⟨_, rfl⟩
        rw [← ew] at hR2 ⊢
        have hf2 : zFo2 w w2 := fun a ha => by rw [ew]; exact zup_ne (by omega)
        have hc2 := hf2.mc hc
        have h02 : zIs w2 49 (zMo ab be (nI R.1.length) (zq (R.2.1 = true)) (zq (R.2.2 = true))) := by rw [ew]; exact h0.n (by decide)
        have h502 : zIs w2 50 (zIA 8 sz) := h50.k (hf2 50 (by omega))
        have key : zV E mX4_goOn 3 (goP (σ.1 m) (σ.2 m) k sp ps pt tr d R w s t) 151 [.ref 49, .int (nI m), .int (nI d), .int (nI k), .int (iI (sp d)), .long (lI (sl (σ.2 m) (sp d))), zU, .long (lI s), zU, .long (lI t), zU, zU, zU] [.int (nI (min t.toNat (σ.1 m - 1))), .int (nI (d + 1)), .ref 49] w2 := by
          refine zV.run kX4_goOn 2 rfl ?_
          refine zV.cv kX4_goOn rfl lX4_134 (n_enters E hR2 (by omega) (min t.toNat (σ.1 m - 1)) 0 t) (by decide) rfl (h02) rfl rfl rfl (Nat.le_of_ble_eq_true rfl) ?_
          rintro _ w3 ⟨rfl, hR3, hf3⟩
          refine zV.run kX4_goOn 3 rfl ?_
          rw [nI_1]
          refine zV.iret kX4_goOn rfl rfl ⟨hf2.t hf3, Or.inr (Or.inl ⟨by omega, c2, c3, rfl, hR3⟩)⟩
        refine zV.run kX4_goOn 6 rfl ?_
        refine zV.gf kX4_goOn rfl fX4_7 (h02) rfl ?_
        refine zV.run kX4_goOn 1 rfl ?_
        refine zV.ial kX4_goOn rfl (h502) (m) (rfl) (hm) (by decide) ?_
        rw [ez m hm]
        refine zV.run kX4_goOn 1 rfl ?_
        rw [nI_1, nI_iI (σ.1 m), iI_l (by omega) (by omega)]
        refine zV.il2 kX4_goOn rfl rfl (fun c4 => ?_) (fun c4 => ?_)
        · skip
          have c4 := (lI_le (by omega) (by omega) (by omega) (by omega)).mp c4
          refine zV.run kX4_goOn 1 rfl ?_
          refine zV.gf kX4_goOn rfl fX4_7 (h02) rfl ?_
          refine zV.run kX4_goOn 1 rfl ?_
          refine zV.ial kX4_goOn rfl (h502) (m) (rfl) (hm) (by decide) ?_
          rw [ez m hm]
          refine zV.run kX4_goOn 2 rfl ?_
          rw [show (1 : Int32) = nI 1 from rfl, pk_sub (by omega), show σ.1 m - 1 = min t.toNat (σ.1 m - 1) by omega]
          exact key
        · skip
          have c4 := mt (lI_le (b := t) (by omega) (by omega) (by omega) (by omega)).mpr c4
          refine zV.run kX4_goOn 3 rfl ?_
          rw [lI_i, show iI t = nI (min t.toNat (σ.1 m - 1)) by rw [nI_iI]; congr 1; omega]
          exact key
  · skip
    have c1 := (nI_eq (a := d + 1) (b := k) (by omega) (by omega)).mp (by rw [← nI_1]; exact Decidable.not_not.mp c1)
    subst c1
    refine zV.run kX4_goOn 1 rfl ?_
    refine zV.gf kX4_goOn rfl fX4_27 (h0) rfl ?_
    refine zV.run kX4_goOn 2 rfl ?_
    refine zV.las kX4_goOn rfl (g5) ((d + 1)) (rfl) (by omega) (by decide) ?_
    refine zV.run kX4_goOn 1 rfl ?_
    refine zV.gf kX4_goOn rfl fX4_30 (h0.n (by decide)) rfl ?_
    refine zV.run kX4_goOn 2 rfl ?_
    refine zV.las kX4_goOn rfl (g6.n (by decide)) ((d + 1)) (rfl) (by omega) (by decide) ?_
    obtain ⟨w2, ew⟩ : ∃ w2, w2 = va_up (va_up w 55 (zLA 7 (vp_updL pS (d + 1) (lI s)))) 56 (zLA 7 (vp_updL pT (d + 1) (lI t))) := ⟨_, rfl⟩
    rw [← ew]
    have k2 : ∀ q, q ≠ 55 → q ≠ 56 → w2 q = w q := fun q q1 q2 => by rw [ew, zup_ne q2, zup_ne q1]
    have h02 := h0.k (k2 49 (by decide) (by decide))
    have hf2 : zFo2 w w2 := fun a ha => k2 a (by omega) (by omega)
    have hR2 : zRn w2 sp (pst ps (d + 1) s) (pst pt (d + 1) t) tr (d + 1) (d + 1 + 1) R := by
      refine ⟨⟨ab, be, h02⟩, ⟨fa, g3.k (k2 _ (by decide) (by decide)), e3⟩, ⟨fb, g4.k (k2 _ (by decide) (by decide)), e4⟩, ⟨_, by rw [ew]; exact (zIs.s g5.1).n (by decide), fun q hq => ?_⟩, ⟨_, by rw [ew]; exact zIs.s g6.1, fun q hq => ?_⟩, ⟨sS, g9.k (k2 _ (by decide) (by decide)), e9⟩, ⟨tS, g10.k (k2 _ (by decide) (by decide)), e10⟩⟩
      · by_cases e : q = d + 1
        · rw [e, pk_uLs, pst_s]
        · rw [pk_uLn e, pst_n e, e5 q (by omega)]
      · by_cases e : q = d + 1
        · rw [e, pk_uLs, pst_s]
        · rw [pk_uLn e, pst_n e, e6 q (by omega)]
    have B : ∀ q, q ≤ d + 1 → bdd (pst ps (d + 1) s q) ∧ bdd (pst pt (d + 1) t q) := by
      intro q hq
      have P7 := p5_le (q := q) (by omega)
      by_cases e : q = d + 1
      · rw [e, pst_s, pst_s]
        exact ⟨⟨by omega, by omega⟩, ⟨by omega, by omega⟩⟩
      · rw [pst_n e, pst_n e]
        obtain ⟨-, a1, a2, a3, a4⟩ := pq q (by omega)
        exact ⟨⟨by omega, by omega⟩, ⟨by omega, by omega⟩⟩
    have OK := n_comesBack E hR2 (by omega) hk (by rw [pst_n (by omega)]; exact p0) (by rw [pst_n (by omega)]; exact p0t) (fun q hq => (B q hq).1) (fun q hq => (B q hq).2) (fun q hq => by have := (pq q (by omega)).1; omega) (by rw [pst_s]; omega) (by have := hok.1; omega) (hok.b v2)
    rw [pst_s, pst_s] at OK
    refine zV.run kX4_goOn 4 rfl ?_
    refine zV.cv kX4_goOn rfl lX4_141 (OK) (by decide) rfl (h02) rfl rfl rfl (Nat.le_of_ble_eq_true rfl) ?_
    rintro _ w3 ⟨rfl, hR3, hf3⟩
    refine zV.run kX4_goOn 3 rfl ?_
    rw [nI_m1]
    refine zV.iret kX4_goOn rfl rfl ⟨hf2.t hf3, Or.inl ⟨rfl, rfl, hR3.c (Nat.le_refl _) (by omega) (fun _ _ => rfl) (fun q hq => pst_n (by omega)) (fun q hq => pst_n (by omega)) (fun _ _ => rfl)⟩⟩
