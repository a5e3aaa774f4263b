/-! ===== the model: the twisted order ===== -/
/-- two fractions of one point -/
def sameP (a b x y : Nat) : Prop := a / Nat.gcd a b = x / Nat.gcd x y ∧ b / Nat.gcd a b = y / Nat.gcd x y
theorem sameP_rd {x b : Nat} (hb : 0 < b) : sameP (x / Nat.gcd x b) (b / Nat.gcd x b) x b := by
  obtain ⟨g, hg, eg, ex, eb, hb0⟩ := rd_of (a := x) hb
  have h := rd_scale (a := x / Nat.gcd x b) (b := b / Nat.gcd x b) hg
  rw [← ex, ← eb] at h
  exact ⟨h.1.symm, h.2.symm⟩
theorem n_order_l (E : zE) {w0 : zWd} {σ : zSt} {rm en ej : Int32} (h : zMs w0 σ) {m : Nat} (hm : m < 8) {b d : Nat} (hb : 0 < b) (hb2 : b ≤ 100000) (hd : 0 < d) (hd2 : d ≤ 100000) (va vb vc vd : Int64) {k : Nat} (hk : k ≤ 1000) : ∀ (r i : Nat) (w : zWd) (t : Bool) (X Y x y u v : Nat) (z1 z2 : Value), i + r = k → (X : Int) ≤ σ.1 m * b → (Y : Int) ≤ σ.1 m * d → sameP x y X b → sameP u v Y d → 0 < y → y ≤ 100000 → x ≤ 500000 → 0 < v → v ≤ 100000 → u ≤ 500000 → (∃ ab be, zIs w 49 (zMo ab be rm en ej)) → (∀ q, q ≠ 49 → w q = w0 q) → zV E mX4_order 3 (zPm w0 (.int (iI (two (σ.1 m) (σ.2 m) b d r t X Y))) σ) 60 [.ref 49, .int (nI m), .long va, zU, .long vb, zU, .long vc, zU, .long vd, zU, .int (nI k), .long (lN x), zU, .long (lN y), zU, .long (lN u), zU, .long (lN v), zU, .int (zq (t = true)), .int (nI i), z1, z2] [] w := by
  obtain ⟨v1, v5, vl⟩ := h.2.1.2.2 m hm
  intro r
  induction r with
  | zero =>
    intro i w t X Y x y u v z1 z2 hi hX hY s1 s2 hy hy2 hx2 hv hv2 hu2 h0 hw
    obtain ⟨ab, be, h0⟩ := h0
    have e : i = k := by omega
    subst e
    refine zV.run kX4_order 2 rfl ?_
    refine zV.ict kX4_order (cd := .ge) rfl (Int32.le_refl _) ?_
    refine zV.run kX4_order 1 rfl ?_
    exact zV.iret kX4_order rfl rfl (⟨rfl, h.at49 h0 hw, fun a ha => hw a (by omega)⟩)
  | succ r ih =>
    intro i w t X Y x y u v z1 z2 hi hX hY s1 s2 hy hy2 hx2 hv hv2 hu2 h0 hw
    obtain ⟨ab, be, h0⟩ := h0
    have sp1 := spn_lt v1 (X : Int) (b : Int)
    have sp2 := spn_lt v1 (Y : Int) (d : Int)
    have sb := sl_rg v5 vl sp1
    have rX := stp_rg v1 vl (show (0 : Int) < b by omega) (show (0 : Int) ≤ X by omega) hX
    have rY := stp_rg v1 vl (show (0 : Int) < d by omega) (show (0 : Int) ≤ Y by omega) hY
    have tX : ((stp (σ.1 m) (σ.2 m) b X).toNat : Int) = stp (σ.1 m) (σ.2 m) b X := Int.toNat_of_nonneg rX.1
    have tY : ((stp (σ.1 m) (σ.2 m) d Y).toNat : Int) = stp (σ.1 m) (σ.2 m) d Y := Int.toNat_of_nonneg rY.1
    have X5 := bnd5 v5 (show (1 : Int) ≤ b by omega) (by omega) rX.2
    have Y5 := bnd5 v5 (show (1 : Int) ≤ d by omega) (by omega) rY.2
    have nx : ∀ (w : zWd) (t' : Bool) (z1 z2 : Value), (∃ ab be, zIs w 49 (zMo ab be rm en ej)) → (∀ q, q ≠ 49 → w q = w0 q) → zV E mX4_order 3 (zPm w0 (.int (iI (two (σ.1 m) (σ.2 m) b d r t' (stp (σ.1 m) (σ.2 m) b X) (stp (σ.1 m) (σ.2 m) d Y)))) σ) 60 [.ref 49, .int (nI m), .long va, zU, .long vb, zU, .long vc, zU, .long vd, zU, .int (nI k), .long (lN ((stp (σ.1 m) (σ.2 m) b X).toNat / Nat.gcd (stp (σ.1 m) (σ.2 m) b X).toNat b)), zU, .long (lN (b / Nat.gcd (stp (σ.1 m) (σ.2 m) b X).toNat b)), zU, .long (lN ((stp (σ.1 m) (σ.2 m) d Y).toNat / Nat.gcd (stp (σ.1 m) (σ.2 m) d Y).toNat d)), zU, .long (lN (d / Nat.gcd (stp (σ.1 m) (σ.2 m) d Y).toNat d)), zU, .int (zq (t' = true)), .int (nI (i + 1)), z1, z2] [] w := by
      intro w t' z1 z2 h0 hw
      have K := ih (i + 1) w t' (stp (σ.1 m) (σ.2 m) b X).toNat (stp (σ.1 m) (σ.2 m) d Y).toNat _ _ _ _ z1 z2 (by omega) (by rw [tX]; exact rX.2) (by rw [tY]; exact rY.2) (sameP_rd hb) (sameP_rd hd) (Nat.div_pos (Nat.gcd_le_right _ hb) (Nat.gcd_pos_of_pos_right _ hb)) (Nat.le_trans (Nat.div_le_self _ _) hb2) (Nat.le_trans (Nat.div_le_self _ _) (by omega)) (Nat.div_pos (Nat.gcd_le_right _ hd) (Nat.gcd_pos_of_pos_right _ hd)) (Nat.le_trans (Nat.div_le_self _ _) hd2) (Nat.le_trans (Nat.div_le_self _ _) (by omega)) h0 hw
      rw [tX, tY] at K
      exact K
    refine zV.run kX4_order 2 rfl ?_
    refine zV.icf kX4_order (cd := .ge) rfl (nI_ge (by omega) (by omega)) ?_
    refine zV.run kX4_order 3 rfl ?_
    refine zV.cv kX4_order rfl lX4_78 (n_at E h0 (a := x) (b := y) (by omega) (by omega) hy) (by decide) rfl (h0) rfl rfl rfl (Nat.le_of_ble_eq_true rfl) ?_
    rintro _ w1 ⟨rfl, e1⟩
    have g1 : zAt w1 X b rm en ej := by
      rw [e1, s1.1, s1.2]; exact zIs.s h0.1
    have g1' : zIs w1 49 (zMo _ _ rm en ej) := g1
    have k1 : ∀ q, q ≠ 49 → w1 q = w0 q := fun q hq => by rw [e1, zup_ne hq]; exact hw q hq
    refine zV.run kX4_order 2 rfl ?_
    refine zV.cv kX4_order rfl lX4_74 (n_span E (h.2.1.k (k1 _ (by decide)) (k1 _ (by decide))) g1 hm hb hb2 hX) (by decide) rfl (g1') rfl rfl rfl (Nat.le_of_ble_eq_true rfl) ?_
    rintro _ _ ⟨rfl, rfl⟩
    refine zV.run kX4_order 3 rfl ?_
    refine zV.cv kX4_order rfl lX4_90 (n_step E (h.2.1.k (k1 _ (by decide)) (k1 _ (by decide))) g1 hm hb hb2 hX) (by decide) rfl (g1') rfl rfl rfl (Nat.le_of_ble_eq_true rfl) ?_
    rintro _ w2 ⟨rfl, e2⟩
    have g2 := zIs.s (w := w1) (a := 49) (c := zMo (lN ((stp (σ.1 m) (σ.2 m) b X).toNat / Nat.gcd (stp (σ.1 m) (σ.2 m) b X).toNat b)) (lN (b / Nat.gcd (stp (σ.1 m) (σ.2 m) b X).toNat b)) rm en ej) (by decide)
    rw [← e2] at g2
    have k2 : ∀ q, q ≠ 49 → w2 q = w0 q := fun q hq => by rw [e2, zup_ne hq]; exact k1 q hq
    refine zV.run kX4_order 1 rfl ?_
    refine zV.gf kX4_order rfl fX4_67 (g2) rfl ?_
    refine zV.run kX4_order 2 rfl ?_
    refine zV.gf kX4_order rfl fX4_71 (g2) rfl ?_
    refine zV.run kX4_order 4 rfl ?_
    refine zV.cv kX4_order rfl lX4_78 (n_at E g2 (a := u) (b := v) (by omega) (by omega) hv) (by decide) rfl (g2) rfl rfl rfl (Nat.le_of_ble_eq_true rfl) ?_
    rintro _ w3 ⟨rfl, e3⟩
    have g3 : zAt w3 Y d rm en ej := by
      rw [e3, s2.1, s2.2]; exact zIs.s h0.1
    have g3' : zIs w3 49 (zMo _ _ rm en ej) := g3
    have k3 : ∀ q, q ≠ 49 → w3 q = w0 q := fun q hq => by rw [e3, zup_ne hq]; exact k2 q hq
    refine zV.run kX4_order 2 rfl ?_
    refine zV.cv kX4_order rfl lX4_74 (n_span E (h.2.1.k (k3 _ (by decide)) (k3 _ (by decide))) g3 hm hd hd2 hY) (by decide) rfl (g3') rfl rfl rfl (Nat.le_of_ble_eq_true rfl) ?_
    rintro _ _ ⟨rfl, rfl⟩
    refine zV.run kX4_order 3 rfl ?_
    refine zV.cv kX4_order rfl lX4_90 (n_step E (h.2.1.k (k3 _ (by decide)) (k3 _ (by decide))) g3 hm hd hd2 hY) (by decide) rfl (g3') rfl rfl rfl (Nat.le_of_ble_eq_true rfl) ?_
    rintro _ w4 ⟨rfl, e4⟩
    have g4 := zIs.s (w := w3) (a := 49) (c := zMo (lN ((stp (σ.1 m) (σ.2 m) d Y).toNat / Nat.gcd (stp (σ.1 m) (σ.2 m) d Y).toNat d)) (lN (d / Nat.gcd (stp (σ.1 m) (σ.2 m) d Y).toNat d)) rm en ej) (by decide)
    rw [← e4] at g4
    have k4 : ∀ q, q ≠ 49 → w4 q = w0 q := fun q hq => by rw [e4, zup_ne hq]; exact k3 q hq
    have hc4 := h.2.1.k (k4 50 (by decide)) (k4 51 (by decide))
    refine zV.run kX4_order 1 rfl ?_
    refine zV.gf kX4_order rfl fX4_67 (g4) rfl ?_
    refine zV.run kX4_order 2 rfl ?_
    refine zV.gf kX4_order rfl fX4_71 (g4) rfl ?_
    refine zV.run kX4_order 3 rfl ?_
    refine zV.ic2 kX4_order rfl (fun c1 => ?_) (fun c1 => ?_)
    · skip
      have c1 := (nI_eq (by omega) (by omega)).mp c1
      refine zV.run kX4_order 3 rfl ?_
      refine zV.cv kX4_order rfl lX4_57 (n_slopeOf E g4 hc4 hm sp1) (by decide) rfl (g4) rfl rfl rfl (Nat.le_of_ble_eq_true rfl) ?_
      rintro _ _ ⟨rfl, rfl⟩
      refine zV.if2 kX4_order rfl (fun c2 => ?_) (fun c2 => ?_)
      · skip
        have c2 : ¬ sl (σ.2 m) (spn (σ.1 m) X b) = 0 := fun q => c2 (by rw [q]; rfl)
        have e : two (σ.1 m) (σ.2 m) b d (r + 1) t X Y = two (σ.1 m) (σ.2 m) b d r (if sl (σ.2 m) (spn (σ.1 m) X b) < 0 then !t else t) (stp (σ.1 m) (σ.2 m) b X) (stp (σ.1 m) (σ.2 m) d Y) := by
          show (if spn (σ.1 m) X b = spn (σ.1 m) Y d then _ else _) = _
          rw [if_pos c1, if_neg c2]
        rw [e]
        refine zV.run kX4_order 3 rfl ?_
        refine zV.cv kX4_order rfl lX4_57 (n_slopeOf E g4 hc4 hm sp1) (by decide) rfl (g4) rfl rfl rfl (Nat.le_of_ble_eq_true rfl) ?_
        rintro _ _ ⟨rfl, rfl⟩
        refine zV.if2 kX4_order rfl (fun c3 => ?_) (fun c3 => ?_)
        · skip
          have c3 := (iI_le (a := 0) (b := sl (σ.2 m) (spn (σ.1 m) X b)) (by omega) (by omega) (by omega) (by omega)).mp c3
          rw [if_neg (show ¬ sl (σ.2 m) (spn (σ.1 m) X b) < 0 by omega)]
          cases t with
          | false =>
            refine zV.run kX4_order 2 rfl ?_
            refine zV.ict kX4_order (cd := .eq) rfl (rfl) ?_
            refine zV.run kX4_order 4 rfl ?_
            rw [nI_1]
            exact nx w4 false _ _ ⟨_, _, g4⟩ k4
          | true =>
            refine zV.run kX4_order 2 rfl ?_
            refine zV.icf kX4_order (cd := .eq) rfl (show ¬ (0 : Int32) = zq (true = true) by decide) ?_
            refine zV.run kX4_order 5 rfl ?_
            rw [nI_1]
            exact nx w4 true _ _ ⟨_, _, g4⟩ k4
        · skip
          have c3 := mt (iI_le (a := 0) (b := sl (σ.2 m) (spn (σ.1 m) X b)) (by omega) (by omega) (by omega) (by omega)).mpr c3
          rw [if_pos (show sl (σ.2 m) (spn (σ.1 m) X b) < 0 by omega)]
          cases t with
          | false =>
            refine zV.run kX4_order 3 rfl ?_
            refine zV.icf kX4_order (cd := .eq) rfl (show ¬ (1 : Int32) = zq (false = true) by decide) ?_
            refine zV.run kX4_order 5 rfl ?_
            rw [nI_1]
            exact nx w4 true _ _ ⟨_, _, g4⟩ k4
          | true =>
            refine zV.run kX4_order 3 rfl ?_
            refine zV.ict kX4_order (cd := .eq) rfl (rfl) ?_
            refine zV.run kX4_order 4 rfl ?_
            rw [nI_1]
            exact nx w4 false _ _ ⟨_, _, g4⟩ k4
      · skip
        have c2 := (iI_eq (a := sl (σ.2 m) (spn (σ.1 m) X b)) (b := 0) (by omega) (by omega) (by omega) (by omega)).mp (Decidable.not_not.mp c2)
        have e : two (σ.1 m) (σ.2 m) b d (r + 1) t X Y = 0 := by
          show (if spn (σ.1 m) X b = spn (σ.1 m) Y d then _ else _) = _
          rw [if_pos c1, if_pos c2]
        rw [e]
        refine zV.run kX4_order 1 rfl ?_
        exact zV.iret kX4_order rfl rfl (⟨rfl, h.at49 g4 k4, fun a ha => k4 a (by omega)⟩)
    · skip
      have c1 := mt (nI_eq (a := spn (σ.1 m) X b) (b := spn (σ.1 m) Y d) (by omega) (by omega)).mpr c1
      have e : two (σ.1 m) (σ.2 m) b d (r + 1) t X Y = if decide (spn (σ.1 m) X b < spn (σ.1 m) Y d) = t then 1 else -1 := by
        show (if spn (σ.1 m) X b = spn (σ.1 m) Y d then _ else _) = _
        rw [if_neg c1]
      rw [e]
      refine zV.run kX4_order 2 rfl ?_
      refine zV.ic2 kX4_order rfl (fun c2 => ?_) (fun c2 => ?_)
      · skip
        have c2 := (nI_leI (by omega) (by omega)).mp c2
        have e2 : decide (spn (σ.1 m) X b < spn (σ.1 m) Y d) = false := decide_eq_false (by omega)
        rw [e2]
        cases t with
        | false =>
          refine zV.run kX4_order 2 rfl ?_
          refine zV.ict kX4_order (cd := .eq) rfl (rfl) ?_
          refine zV.run kX4_order 1 rfl ?_
          exact zV.iret kX4_order rfl rfl (⟨rfl, h.at49 g4 k4, fun a ha => k4 a (by omega)⟩)
        | true =>
          refine zV.run kX4_order 2 rfl ?_
          refine zV.icf kX4_order (cd := .eq) rfl (show ¬ (0 : Int32) = zq (true = true) by decide) ?_
          refine zV.run kX4_order 2 rfl ?_
          exact zV.iret kX4_order rfl rfl (⟨rfl, h.at49 g4 k4, fun a ha => k4 a (by omega)⟩)
      · skip
        have c2 := mt (nI_leI (a := spn (σ.1 m) Y d) (b := spn (σ.1 m) X b) (by omega) (by omega)).mpr c2
        have e2 : decide (spn (σ.1 m) X b < spn (σ.1 m) Y d) = true := decide_eq_true (by omega)
        rw [e2]
        cases t with
        | false =>
          refine zV.run kX4_order 3 rfl ?_
          refine zV.icf kX4_order (cd := .eq) rfl (show ¬ (1 : Int32) = zq (false = true) by decide) ?_
          refine zV.run kX4_order 2 rfl ?_
          exact zV.iret kX4_order rfl rfl (⟨rfl, h.at49 g4 k4, fun a ha => k4 a (by omega)⟩)
        | true =>
          refine zV.run kX4_order 3 rfl ?_
          refine zV.ict kX4_order (cd := .eq) rfl (rfl) ?_
          refine zV.run kX4_order 1 rfl ?_
          exact zV.iret kX4_order rfl rfl (⟨rfl, h.at49 g4 k4, fun a ha => k4 a (by omega)⟩)
theorem n_order (E : zE) {w : zWd} {σ : zSt} (h : zMs w σ) (m : Int32) (a b a2 b2 : Int64) (k : Int32) : zOk E mX4_order 3 [.ref 49, .int m, .long a, .long b, .long a2, .long b2, .int k] w (zPm w (.int (if okM m ∧ okP (σ.1 m.toInt.toNat) a b ∧ okP (σ.1 m.toInt.toNat) a2 b2 ∧ (0 ≤ k.toInt ∧ k.toInt ≤ 1000) then iI (two (σ.1 m.toInt.toNat) (σ.2 m.toInt.toNat) b.toInt b2.toInt k.toInt.toNat false a.toInt a2.toInt) else -2)) σ) := by
  obtain ⟨⟨ab, be, rm, en, ej, h0⟩, hc, hx⟩ := id h
  refine zOk.of (by decide +kernel) (Nat.le_of_ble_eq_true rfl) ?_
  refine zV.run kX4_order 4 rfl ?_
  refine zV.cv kX4_order rfl lX4_82 (n_isPoint E h0 hc m a b) (by decide) rfl (h0) rfl rfl rfl (Nat.le_of_ble_eq_true rfl) ?_
  rintro _ _ ⟨rfl, rfl⟩
  refine zV.if2 kX4_order rfl (fun c => ?_) (fun c => ?_)
  · skip
    have c := zq_eq0.mp c
    rw [if_neg (fun q => c ⟨q.1, q.2.1⟩)]
    refine zV.run kX4_order 1 rfl ?_
    exact zV.iret kX4_order rfl rfl (⟨rfl, h, fun _ _ => rfl⟩)
  · skip
    have c := Decidable.not_not.mp (mt zq_eq0.mpr c)
    refine zV.run kX4_order 4 rfl ?_
    refine zV.cv kX4_order rfl lX4_82 (n_isPoint E h0 hc m a2 b2) (by decide) rfl (h0) rfl rfl rfl (Nat.le_of_ble_eq_true rfl) ?_
    rintro _ _ ⟨rfl, rfl⟩
    refine zV.if2 kX4_order rfl (fun c0 => ?_) (fun c0 => ?_)
    · skip
      have c0 := zq_eq0.mp c0
      rw [if_neg (fun q => c0 ⟨q.1, q.2.2.1⟩)]
      refine zV.run kX4_order 1 rfl ?_
      exact zV.iret kX4_order rfl rfl (⟨rfl, h, fun _ _ => rfl⟩)
    · skip
      have c0 := Decidable.not_not.mp (mt zq_eq0.mpr c0)
      refine zV.run kX4_order 3 rfl ?_
      refine zV.ldc2 kX4_order rfl qX4_86 ?_
      refine zV.cs kX4_order rfl lX4_47 (n_in E w k.toInt64 0 1000) (by decide) rfl rfl (Nat.le_of_ble_eq_true rfl) ?_
      rintro _ _ ⟨rfl, rfl⟩
      rw [zq_c inK]
      refine zV.if2 kX4_order rfl (fun c2 => ?_) (fun c2 => ?_)
      · skip
        have c2 : 0 ≤ k.toInt ∧ k.toInt ≤ 1000 := Decidable.not_not.mp (mt zq_eq0.mpr c2)
        rw [if_pos ⟨c.1, c.2, c0.2, c2⟩]
        obtain ⟨mm, emm⟩ : ∃ mm, mm = m.toInt.toNat := ⟨_, rfl⟩
        have em : m = nI mm := by rw [emm]; exact i32_nI c.1.1
        have hm : mm < 8 := by omega
        obtain ⟨kk, ekk⟩ : ∃ kk, kk = k.toInt.toNat := ⟨_, rfl⟩
        have ek : k = nI kk := by rw [ekk]; exact i32_nI c2.1
        rw [← emm] at c c0 ⊢
        have v5 := (hc.2.2 mm hm).2.1
        obtain ⟨A, eA⟩ : ∃ A : Nat, A = a.toInt.toNat := ⟨_, rfl⟩
        obtain ⟨B, eB⟩ : ∃ B : Nat, B = b.toInt.toNat := ⟨_, rfl⟩
        have eA2 : a.toInt = (A : Int) := by omega
        have eB2 : b.toInt = (B : Int) := by omega
        have ea : a = lN A := by rw [lN_lI, ← eA2]; exact i64_lI a
        have eb : b = lN B := by rw [lN_lI, ← eB2]; exact i64_lI b
        obtain ⟨C, eC⟩ : ∃ A : Nat, A = a2.toInt.toNat := ⟨_, rfl⟩
        obtain ⟨D, eD⟩ : ∃ B : Nat, B = b2.toInt.toNat := ⟨_, rfl⟩
        have eC2 : a2.toInt = (C : Int) := by omega
        have eD2 : b2.toInt = (D : Int) := by omega
        have ec : a2 = lN C := by rw [lN_lI, ← eC2]; exact i64_lI a2
        have ed : b2 = lN D := by rw [lN_lI, ← eD2]; exact i64_lI b2
        obtain ⟨c1, cp1, cp2, cp3, cp4⟩ := c
        obtain ⟨c01, cq1, cq2, cq3, cq4⟩ := c0
        rw [eA2, eB2] at cp4
        rw [eC2, eD2] at cq4
        have x5 := bnd5 v5 (show (1 : Int) ≤ B by omega) (by omega) cp4
        have y5 := bnd5 v5 (show (1 : Int) ≤ D by omega) (by omega) cq4
        rw [← ekk, eA2, eB2, eC2, eD2, ea, eb, ec, ed, ek, em]
        refine zV.run kX4_order 12 rfl ?_
        exact n_order_l E h hm (by omega) (by omega) (by omega) (by omega) (lN A) (lN B) (lN C) (lN D) (k := kk) (by omega) kk 0 w false A C A B C D _ _ (by omega) cp4 cq4 ⟨rfl, rfl⟩ ⟨rfl, rfl⟩ (by omega) (by omega) (by omega) (by omega) (by omega) (by omega) ⟨_, _, h0⟩ (fun _ _ => rfl)
      · skip
        have c2 : ¬ (0 ≤ k.toInt ∧ k.toInt ≤ 1000) := zq_eq0.mp (Decidable.not_not.mp c2)
        rw [if_neg (fun q => c2 q.2.2.2)]
        refine zV.run kX4_order 1 rfl ?_
        exact zV.iret kX4_order rfl rfl (⟨rfl, h, fun _ _ => rfl⟩)
