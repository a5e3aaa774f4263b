/-! ===== the model: its cells; maps and points ===== -/
abbrev zMo (ab be : Int64) (rm en ej : Int32) : va_E := zOb 4 [.ref 50, .ref 51, .ref 52, .long ab, .long be, .ref 53, .ref 54, .int rm, .int en, .int ej, .ref 55, .ref 56, .ref 57, .ref 58, .ref 59, .ref 60]
def vld (σ : zSt) : Prop := ∀ m, m < 8 → 1 ≤ σ.1 m ∧ σ.1 m ≤ 5 ∧ ∀ i, i ≤ σ.1 m → σ.2 m i ≤ σ.1 m
def zMc (w : zWd) (σ : zSt) : Prop := (∃ sz, zIs w 50 (zIA 8 sz) ∧ ∀ m, m < 8 → sz m = nI (σ.1 m)) ∧ (∃ ld, zIs w 51 (zIA 56 ld) ∧ ∀ m i, m < 8 → i ≤ σ.1 m → ld (7 * m + i) = nI (σ.2 m i)) ∧ vld σ
def zMx (w : zWd) : Prop := (∃ f, zIs w 52 (zIA 7 f)) ∧ (∃ f, zIs w 53 (zLA 47000 f)) ∧ (∃ f, zIs w 54 (zLA 47000 f)) ∧ (∃ f, zIs w 55 (zLA 7 f)) ∧ (∃ f, zIs w 56 (zLA 7 f)) ∧ (∃ f, zIs w 57 (zLA 6 f)) ∧ (∃ f, zIs w 58 (zLA 6 f)) ∧ (∃ f, zIs w 59 (zIA 7 f)) ∧ (∃ f, zIs w 60 (zIA 7 f))
def zMs (w : zWd) (σ : zSt) : Prop := (∃ ab be rm en ej, zIs w 49 (zMo ab be rm en ej)) ∧ zMc w σ ∧ zMx w
def zFm (w w' : zWd) : Prop := ∀ a, a < 49 → w' a = w a
theorem zMc.k {w w' : zWd} {σ : zSt} (h : zMc w σ) (h0 : w' 50 = w 50) (h1 : w' 51 = w 51) : zMc w' σ := by
  obtain ⟨⟨sz, a1, a2⟩, ⟨ld, b1, b2⟩, c⟩ := h
  exact ⟨⟨sz, a1.k h0, a2⟩, ⟨ld, b1.k h1, b2⟩, c⟩
theorem zMx.k {w w' : zWd} (h : zMx w) (hw : ∀ a, 52 ≤ a → a < 61 → w' a = w a) : zMx w' := by
  obtain ⟨⟨f2, h2⟩, ⟨f3, h3⟩, ⟨f4, h4⟩, ⟨f5, h5⟩, ⟨f6, h6⟩, ⟨f7, h7⟩, ⟨f8, h8⟩, ⟨f9, h9⟩, ⟨f0, h0⟩⟩ := h
  exact ⟨⟨f2, h2.k (hw _ (by omega) (by omega))⟩, ⟨f3, h3.k (hw _ (by omega) (by omega))⟩, ⟨f4, h4.k (hw _ (by omega) (by omega))⟩, ⟨f5, h5.k (hw _ (by omega) (by omega))⟩, ⟨f6, h6.k (hw _ (by omega) (by omega))⟩, ⟨f7, h7.k (hw _ (by omega) (by omega))⟩, ⟨f8, h8.k (hw _ (by omega) (by omega))⟩, ⟨f9, h9.k (hw _ (by omega) (by omega))⟩, ⟨f0, h0.k (hw _ (by omega) (by omega))⟩⟩
abbrev zPm (w : zWd) (v : Value) (σ : zSt) : Option Value → zWd → Prop := fun r w' => r = some v ∧ zMs w' σ ∧ zFm w w'
theorem ix7 {m i : Nat} : (7 : Int32) * nI m + nI i = nI (7 * m + i) := by
  rw [show (7 : Int32) = nI 7 from rfl, pk_mul, nI_add]
theorem n_in (E : zE) (w : zWd) (v a b : Int64) : zOk E mX4_in 0 [.long v, .long a, .long b] w (zR0 w (.int (zq (a.toInt ≤ v.toInt ∧ v.toInt ≤ b.toInt)))) := by
  refine zOk.of (by decide +kernel) (Nat.le_of_ble_eq_true rfl) ?_
  refine zV.run kX4_in 2 rfl ?_
  refine zV.il2 kX4_in rfl rfl (fun c => ?_) (fun c => ?_)
  · skip
    have c := i64_lt.mp c
    refine zV.run kX4_in 1 rfl ?_
    exact zV.zret kX4_in rfl rfl (Or.inl rfl) (⟨by rw [zq_f]; omega, rfl⟩)
  · skip
    have c := i64_le.mp (Int64.not_lt.mp c)
    refine zV.run kX4_in 2 rfl ?_
    refine zV.il2 kX4_in rfl rfl (fun c2 => ?_) (fun c2 => ?_)
    · skip
      have c2 := i64_lt.mp c2
      refine zV.run kX4_in 1 rfl ?_
      exact zV.zret kX4_in rfl rfl (Or.inl rfl) (⟨by rw [zq_f]; omega, rfl⟩)
    · skip
      have c2 := i64_le.mp (Int64.not_lt.mp c2)
      refine zV.run kX4_in 2 rfl ?_
      exact zV.zret kX4_in rfl rfl (Or.inr rfl) (⟨by rw [zq_t]; omega, rfl⟩)
theorem n_isMap (E : zE) (w : zWd) (m : Int32) : zOk E mX4_isMap 1 [.int m] w (zR0 w (.int (zq (okM m)))) := by
  refine zOk.of (by decide +kernel) (Nat.le_of_ble_eq_true rfl) ?_
  refine zV.run kX4_isMap 3 rfl ?_
  refine zV.ldc2 kX4_isMap rfl qX4_45 ?_
  refine zV.cs kX4_isMap rfl lX4_47 (n_in E w m.toInt64 0 7) (by decide) rfl rfl (Nat.le_of_ble_eq_true rfl) ?_
  rintro _ _ ⟨rfl, rfl⟩
  exact zV.zret kX4_isMap rfl rfl (zq01 _) (⟨by congr 2; apply zq_c; rw [Int32.toInt_toInt64, show (0 : Int64).toInt = 0 from rfl, show (7 : Int64).toInt = 7 from rfl]; omega, rfl⟩)
theorem n_slopeOf (E : zE) {w : zWd} {σ : zSt} {ab be : Int64} {rm en ej : Int32} (h0 : zIs w 49 (zMo ab be rm en ej)) (hc : zMc w σ) {m i : Nat} (hm : m < 8) (hi : i < σ.1 m) : zOk E mX4_slopeOf 0 [.ref 49, .int (nI m), .int (nI i)] w (zR0 w (.int (iI (sl (σ.2 m) i)))) := by
  obtain ⟨-, ⟨ld, b1, b2⟩, hv⟩ := hc
  have v5 := (hv m hm).2.1
  refine zOk.of (by decide +kernel) (Nat.le_of_ble_eq_true rfl) ?_
  refine zV.run kX4_slopeOf 1 rfl ?_
  refine zV.gf kX4_slopeOf rfl fX4_13 (h0) rfl ?_
  refine zV.run kX4_slopeOf 7 rfl ?_
  refine zV.ial kX4_slopeOf rfl (b1) (7 * m + (i + 1)) (by rw [ix7, nI_1]; rfl) (by omega) (by decide) ?_
  refine zV.run kX4_slopeOf 1 rfl ?_
  refine zV.gf kX4_slopeOf rfl fX4_13 (h0) rfl ?_
  refine zV.run kX4_slopeOf 5 rfl ?_
  refine zV.ial kX4_slopeOf rfl (b1) (7 * m + i) (ix7) (by omega) (by decide) ?_
  refine zV.run kX4_slopeOf 1 rfl ?_
  exact zV.iret kX4_slopeOf rfl rfl (⟨by rw [b2 m i hm (by omega), b2 m (i + 1) hm (by omega), nI_iI, nI_iI, iI_sub]; rfl, rfl⟩)
theorem n_divisor_l (E : zE) (w : zWd) (a b : Int64) : ∀ (f x y : Nat), y < f → x < 2 ^ 48 → y < 2 ^ 48 → ∀ v u, (v = zU ∨ ∃ z, v = .long z) → u = zU → zV E mX4_divisor 0 (zR0 w (.long (lN (Nat.gcd x y)))) 6 [.long a, zU, .long b, zU, .long (lN x), zU, .long (lN y), zU, v, u] [] w := by
  intro f
  induction f with
  | zero => intro x y h; omega
  | succ f ih =>
    intro x y hf hx hy v u hv hu
    subst hu
    by_cases c : y = 0
    · subst c
      refine zV.run kX4_divisor 2 rfl ?_
      refine zV.ilt kX4_divisor (cd := .eq) rfl rfl (rfl) ?_
      refine zV.run kX4_divisor 1 rfl ?_
      exact zV.lret kX4_divisor rfl rfl (⟨by rw [Nat.gcd_zero_right], rfl⟩)
    · have hne : ¬ lN y = 0 := fun q => c ((pk_lEQ (a := y) (b := 0) (by omega) (by omega)).mp q)
      have hm : x % y < y := Nat.mod_lt _ (by omega)
      have g1 : Nat.gcd x y = Nat.gcd y (x % y) := by
        rw [Nat.gcd_comm x y, Nat.gcd_rec y x, Nat.gcd_comm]
      refine zV.run kX4_divisor 2 rfl ?_
      refine zV.ilf kX4_divisor (cd := .eq) rfl rfl (hne) ?_
      refine zV.run kX4_divisor 2 rfl ?_
      refine zV.lrem kX4_divisor rfl (hne) ?_
      rw [pk_lRem (by omega) (by omega) (by omega), g1]
      refine zV.run kX4_divisor 6 rfl ?_
      exact ih y (x % y) (by omega) hy (by omega) _ _ (Or.inr ⟨_, rfl⟩) rfl
theorem n_divisor (E : zE) (w : zWd) {a b : Nat} (ha : a < 2 ^ 48) (hb : b < 2 ^ 48) : zOk E mX4_divisor 0 [.long (lN a), .long (lN b)] w (zR0 w (.long (lN (Nat.gcd a b)))) := by
  refine zOk.of (by decide +kernel) (Nat.le_of_ble_eq_true rfl) ?_
  refine zV.run kX4_divisor 4 rfl ?_
  exact n_divisor_l E w (lN a) (lN b) (b + 1) a b (by omega) ha hb zU zU (Or.inl rfl) rfl
theorem n_at (E : zE) {w : zWd} {ab be : Int64} {rm en ej : Int32} (h0 : zIs w 49 (zMo ab be rm en ej)) {a b : Nat} (ha : a < 2 ^ 48) (hb : b < 2 ^ 48) (hb0 : 0 < b) : zOk E mX4_at 1 [.ref 49, .long (lN a), .long (lN b)] w (fun r w' => r = none ∧ w' = va_up w 49 (zMo (lN (a / Nat.gcd a b)) (lN (b / Nat.gcd a b)) rm en ej)) := by
  have hg0 : 0 < Nat.gcd b a := Nat.gcd_pos_of_pos_left _ hb0
  have hgb : Nat.gcd b a ≤ b := Nat.gcd_le_left _ hb0
  have hne : ¬ lN (Nat.gcd b a) = 0 := fun q => absurd ((pk_lEQ (a := Nat.gcd b a) (b := 0) (by omega) (by omega)).mp q) (by omega)
  refine zOk.of (by decide +kernel) (Nat.le_of_ble_eq_true rfl) ?_
  refine zV.run kX4_at 2 rfl ?_
  refine zV.cs kX4_at rfl lX4_63 (n_divisor E w hb ha) (by decide) rfl rfl (Nat.le_of_ble_eq_true rfl) ?_
  rintro _ _ ⟨rfl, rfl⟩
  refine zV.run kX4_at 4 rfl ?_
  refine zV.ldiv kX4_at rfl (hne) ?_
  rw [pk_lDiv (by omega) hg0 (by omega)]
  refine zV.pfl kX4_at rfl pX4_67 (h0) (Nat.le_of_ble_eq_true rfl) ?_
  refine zV.run kX4_at 3 rfl ?_
  refine zV.ldiv kX4_at rfl (hne) ?_
  rw [pk_lDiv (by omega) hg0 (by omega)]
  refine zV.pfl kX4_at rfl pX4_71 (zIs.s h0.1) (Nat.le_of_ble_eq_true rfl) ?_
  exact zV.vret kX4_at rfl rfl (⟨rfl, by rw [bx_uu, Nat.gcd_comm a b]; rfl⟩)
-- a point in lowest terms
theorem spn_scale {n : Nat} {a b g : Int} (hg : 0 < g) : spn n (g * a) (g * b) = spn n a b := by
  unfold spn
  rw [Int.mul_ediv_mul_of_pos _ _ hg]
theorem stp_scale {n : Nat} {ld : Nat → Nat} {a b g : Int} (hg : 0 < g) : stp n ld (g * b) (g * a) = g * stp n ld b a := by
  unfold stp
  rw [spn_scale hg]
  generalize spn n a b = i
  rw [Int.mul_left_comm (i : Int) g b, ← Int.mul_sub, Int.mul_add, Int.mul_left_comm (ld i : Int) g b, Int.mul_left_comm (sl ld i) g]
theorem rd_of {a b : Nat} (hb : 0 < b) : ∃ g : Nat, 0 < g ∧ g = Nat.gcd a b ∧ a = g * (a / Nat.gcd a b) ∧ b = g * (b / Nat.gcd a b) ∧ 0 < b / Nat.gcd a b := by
  have hg : 0 < Nat.gcd a b := Nat.gcd_pos_of_pos_right _ hb
  refine ⟨Nat.gcd a b, hg, rfl, ?_, ?_, ?_⟩
  · exact (Nat.mul_div_cancel' (Nat.gcd_dvd_left a b)).symm
  · exact (Nat.mul_div_cancel' (Nat.gcd_dvd_right a b)).symm
  · exact Nat.div_pos (Nat.gcd_le_right _ hb) hg
theorem rd_scale {a b g : Nat} (hg : 0 < g) : (g * a) / Nat.gcd (g * a) (g * b) = a / Nat.gcd a b ∧ (g * b) / Nat.gcd (g * a) (g * b) = b / Nat.gcd a b := by
  rw [Nat.gcd_mul_left]
  exact ⟨Nat.mul_div_mul_left _ _ hg, Nat.mul_div_mul_left _ _ hg⟩
/-- the model stands at the point x by b -/
def zAt (w : zWd) (x b : Nat) (rm en ej : Int32) : Prop := zIs w 49 (zMo (lN (x / Nat.gcd x b)) (lN (b / Nat.gcd x b)) rm en ej)
theorem n_span (E : zE) {w : zWd} {σ : zSt} {rm en ej : Int32} (hc : zMc w σ) {m x b : Nat} (h0 : zAt w x b rm en ej) (hm : m < 8) (hb : 0 < b) (hb2 : b ≤ 100000) (hx : (x : Int) ≤ σ.1 m * b) : zOk E mX4_span 0 [.ref 49, .int (nI m)] w (zR0 w (.int (nI (spn (σ.1 m) x b)))) := by
  have h0 : zIs w 49 (zMo (lN (x / Nat.gcd x b)) (lN (b / Nat.gcd x b)) rm en ej) := h0
  obtain ⟨⟨sz, a1, a2⟩, -, hv⟩ := hc
  obtain ⟨v1, v5, -⟩ := hv m hm
  obtain ⟨g, hg, eg, ex, eb, hb0⟩ := rd_of (a := x) hb
  have x5 := bnd5 v5 (show (1 : Int) ≤ b by omega) (by omega) hx
  have xle : x / Nat.gcd x b ≤ x := Nat.div_le_self _ _
  have ble : b / Nat.gcd x b ≤ b := Nat.div_le_self _ _
  have es : spn (σ.1 m) x b = spn (σ.1 m) ((x / Nat.gcd x b : Nat) : Int) ((b / Nat.gcd x b : Nat) : Int) := by
    have := spn_scale (n := σ.1 m) (a := ((x / Nat.gcd x b : Nat) : Int)) (b := ((b / Nat.gcd x b : Nat) : Int)) (g := (g : Int)) (by omega)
    rw [← this]
    congr 1
    · conv => lhs; rw [ex]
      simp
    · conv => lhs; rw [eb]
      simp
  rw [es]
  generalize x / Nat.gcd x b = X at *
  generalize b / Nat.gcd x b = B at *
  have hd : X / B ≤ X := Nat.div_le_self _ _
  refine zOk.of (by decide +kernel) (Nat.le_of_ble_eq_true rfl) ?_
  refine zV.run kX4_span 1 rfl ?_
  refine zV.gf kX4_span rfl fX4_67 (h0) rfl ?_
  refine zV.run kX4_span 1 rfl ?_
  refine zV.gf kX4_span rfl fX4_71 (h0) rfl ?_
  refine zV.ldiv kX4_span rfl (fun q => absurd ((pk_lEQ (a := B) (b := 0) (by omega) (by omega)).mp q) (by omega)) ?_
  rw [pk_lDiv (by omega) hb0 (by omega)]
  refine zV.run kX4_span 4 rfl ?_
  rw [lN_i]
  refine zV.gf kX4_span rfl fX4_7 (h0) rfl ?_
  refine zV.run kX4_span 1 rfl ?_
  refine zV.ial kX4_span rfl (a1) (m) (rfl) (hm) (by decide) ?_
  rw [a2 m hm]
  have ed : ((X : Int) / (B : Int)).toNat = X / B := rfl
  refine zV.ic2 kX4_span rfl (fun c => ?_) (fun c => ?_)
  · skip
    have c := (nI_leI (by omega) (by omega)).mp c
    refine zV.run kX4_span 1 rfl ?_
    refine zV.gf kX4_span rfl fX4_7 (h0) rfl ?_
    refine zV.run kX4_span 1 rfl ?_
    refine zV.ial kX4_span rfl (a1) (m) (rfl) (hm) (by decide) ?_
    rw [a2 m hm]
    refine zV.run kX4_span 2 rfl ?_
    rw [show (1 : Int32) = nI 1 from rfl, pk_sub v1]
    exact zV.iret kX4_span rfl rfl (⟨by congr 2; congr 1; unfold spn; rw [ed]; omega, rfl⟩)
  · skip
    have c := mt (nI_leI (a := σ.1 m) (b := X / B) (by omega) (by omega)).mpr c
    refine zV.run kX4_span 2 rfl ?_
    exact zV.iret kX4_span rfl rfl (⟨by congr 2; congr 1; unfold spn; rw [ed]; omega, rfl⟩)
theorem n_step (E : zE) {w : zWd} {σ : zSt} {rm en ej : Int32} (hc : zMc w σ) {m x b : Nat} (h0 : zAt w x b rm en ej) (hm : m < 8) (hb : 0 < b) (hb2 : b ≤ 100000) (hx : (x : Int) ≤ σ.1 m * b) : zOk E mX4_step 2 [.ref 49, .int (nI m)] w (fun r w' => r = none ∧ w' = va_up w 49 (zMo (lN ((stp (σ.1 m) (σ.2 m) b x).toNat / Nat.gcd (stp (σ.1 m) (σ.2 m) b x).toNat b)) (lN (b / Nat.gcd (stp (σ.1 m) (σ.2 m) b x).toNat b)) rm en ej)) := by
  have h9 := h0
  have h0 : zIs w 49 (zMo (lN (x / Nat.gcd x b)) (lN (b / Nat.gcd x b)) rm en ej) := h0
  obtain ⟨⟨sz, a1, a2⟩, ⟨ld, b1, b2⟩, hv⟩ := id hc
  obtain ⟨v1, v5, vl⟩ := hv m hm
  obtain ⟨g, hg, eg, ex, eb, hb0⟩ := rd_of (a := x) hb
  have x5 := bnd5 v5 (show (1 : Int) ≤ b by omega) (by omega) hx
  have xle : x / Nat.gcd x b ≤ x := Nat.div_le_self _ _
  have ble : b / Nat.gcd x b ≤ b := Nat.div_le_self _ _
  have hi := spn_lt v1 (x : Int) (b : Int)
  have sr := stp_rg v1 vl (show (0 : Int) < b by omega) (show (0 : Int) ≤ x by omega) hx
  have s5 := bnd5 v5 (show (1 : Int) ≤ b by omega) (by omega) sr.2
  have exz : (x : Int) = (g : Int) * ((x / Nat.gcd x b : Nat) : Int) := by rw [← Int.natCast_mul, ← ex]
  have ebz : (b : Int) = (g : Int) * ((b / Nat.gcd x b : Nat) : Int) := by rw [← Int.natCast_mul, ← eb]
  have es : spn (σ.1 m) x b = spn (σ.1 m) ((x / Nat.gcd x b : Nat) : Int) ((b / Nat.gcd x b : Nat) : Int) := by
    have := spn_scale (n := σ.1 m) (a := ((x / Nat.gcd x b : Nat) : Int)) (b := ((b / Nat.gcd x b : Nat) : Int)) (g := (g : Int)) (by omega)
    rw [← this, ← exz, ← ebz]
  have et : stp (σ.1 m) (σ.2 m) b x = (g : Int) * stp (σ.1 m) (σ.2 m) ((b / Nat.gcd x b : Nat) : Int) ((x / Nat.gcd x b : Nat) : Int) := by
    have := stp_scale (n := σ.1 m) (ld := σ.2 m) (a := ((x / Nat.gcd x b : Nat) : Int)) (b := ((b / Nat.gcd x b : Nat) : Int)) (g := (g : Int)) (by omega)
    rw [← this, ← exz, ← ebz]
  have gle : g ≤ b := by rw [eg]; exact Nat.gcd_le_right _ hb
  have X5 : ((x / Nat.gcd x b : Nat) : Int) ≤ σ.1 m * ((b / Nat.gcd x b : Nat) : Int) := by
    have h1 : (g : Int) * ((x / Nat.gcd x b : Nat) : Int) ≤ (g : Int) * (σ.1 m * ((b / Nat.gcd x b : Nat) : Int)) := by
      rw [← exz, Int.mul_left_comm, ← ebz]; exact hx
    exact Int.le_of_mul_le_mul_left h1 (by omega)
  have Sr := stp_rg v1 vl (show (0 : Int) < ((b / Nat.gcd x b : Nat) : Int) by omega) (Int.natCast_nonneg _) X5
  have S5 := bnd5 v5 (show (1 : Int) ≤ ((b / Nat.gcd x b : Nat) : Int) by omega) (by omega) Sr.2
  have fin : (stp (σ.1 m) (σ.2 m) b x).toNat / Nat.gcd (stp (σ.1 m) (σ.2 m) b x).toNat b = (stp (σ.1 m) (σ.2 m) ((b / Nat.gcd x b : Nat) : Int) ((x / Nat.gcd x b : Nat) : Int)).toNat / Nat.gcd (stp (σ.1 m) (σ.2 m) ((b / Nat.gcd x b : Nat) : Int) ((x / Nat.gcd x b : Nat) : Int)).toNat (b / Nat.gcd x b) ∧ b / Nat.gcd (stp (σ.1 m) (σ.2 m) b x).toNat b = (b / Nat.gcd x b) / Nat.gcd (stp (σ.1 m) (σ.2 m) ((b / Nat.gcd x b : Nat) : Int) ((x / Nat.gcd x b : Nat) : Int)).toNat (b / Nat.gcd x b) := by
    have e1 : (stp (σ.1 m) (σ.2 m) b x).toNat = g * (stp (σ.1 m) (σ.2 m) ((b / Nat.gcd x b : Nat) : Int) ((x / Nat.gcd x b : Nat) : Int)).toNat := by
      rw [et]
      apply Int.ofNat_inj.mp
      rw [Int.toNat_of_nonneg (Int.mul_nonneg (by omega) Sr.1)]
      rw [Int.natCast_mul, Int.toNat_of_nonneg Sr.1]
    rw [e1]
    have := rd_scale (a := (stp (σ.1 m) (σ.2 m) ((b / Nat.gcd x b : Nat) : Int) ((x / Nat.gcd x b : Nat) : Int)).toNat) (b := b / Nat.gcd x b) hg
    rw [← eb] at this
    exact this
  rw [fin.1, fin.2]
  have hli := vl (spn (σ.1 m) x b) (by omega)
  have b1r := sl_rg v5 vl hi
  have key : stp (σ.1 m) (σ.2 m) ((b / Nat.gcd x b : Nat) : Int) ((x / Nat.gcd x b : Nat) : Int) = (σ.2 m (spn (σ.1 m) x b) : Int) * ((b / Nat.gcd x b : Nat) : Int) + (((x / Nat.gcd x b : Nat) : Int) - (spn (σ.1 m) x b : Int) * ((b / Nat.gcd x b : Nat) : Int)) * sl (σ.2 m) (spn (σ.1 m) x b) := by
    unfold stp
    rw [← es, Int.mul_comm (sl (σ.2 m) (spn (σ.1 m) x b))]
  generalize x / Nat.gcd x b = X at *
  generalize b / Nat.gcd x b = B at *
  generalize stp (σ.1 m) (σ.2 m) (B : Int) (X : Int) = S at *
  refine zOk.of (by decide +kernel) (Nat.le_of_ble_eq_true rfl) ?_
  refine zV.run kX4_step 2 rfl ?_
  refine zV.cv kX4_step rfl lX4_74 (n_span E hc h9 hm hb hb2 hx) (by decide) rfl (h0) rfl rfl rfl (Nat.le_of_ble_eq_true rfl) ?_
  rintro _ _ ⟨rfl, rfl⟩
  refine zV.run kX4_step 3 rfl ?_
  refine zV.gf kX4_step rfl fX4_13 (h0) rfl ?_
  refine zV.run kX4_step 5 rfl ?_
  refine zV.ial kX4_step rfl (b1) (7 * m + spn (σ.1 m) x b) (ix7) (by omega) (by decide) ?_
  rw [b2 m _ hm (by omega)]
  refine zV.run kX4_step 2 rfl ?_
  refine zV.gf kX4_step rfl fX4_71 (h0) rfl ?_
  refine zV.run kX4_step 2 rfl ?_
  refine zV.gf kX4_step rfl fX4_67 (h0) rfl ?_
  refine zV.run kX4_step 3 rfl ?_
  refine zV.gf kX4_step rfl fX4_71 (h0) rfl ?_
  refine zV.run kX4_step 5 rfl ?_
  refine zV.cv kX4_step rfl lX4_57 (n_slopeOf E h0 hc hm hi) (by decide) rfl (h0) rfl rfl rfl (Nat.le_of_ble_eq_true rfl) ?_
  rintro _ _ ⟨rfl, rfl⟩
  refine zV.run kX4_step 4 rfl ?_
  refine zV.gf kX4_step rfl fX4_71 (h0) rfl ?_
  have ev : (nI (σ.2 m (spn (σ.1 m) x b))).toInt64 * lN B + (lN X - (nI (spn (σ.1 m) x b)).toInt64 * lN B) * (iI (sl (σ.2 m) (spn (σ.1 m) x b))).toInt64 = lN S.toNat := by
    rw [nI_iI, nI_iI, iI_l (by omega) (by omega), iI_l (by omega) (by omega), iI_l (by omega) (by omega), lN_lI, lN_lI, lI_mul, lI_mul, lI_sub, lI_mul, lI_add, ← key, lI_nat Sr.1]
  rw [ev]
  refine zV.cv kX4_step rfl lX4_78 (n_at E h0 (a := S.toNat) (b := B) (by omega) (by omega) hb0) (by decide) rfl (h0) rfl rfl rfl (Nat.le_of_ble_eq_true rfl) ?_
  rintro _ w9 ⟨rfl, e9⟩
  exact zV.vret kX4_step rfl rfl (⟨rfl, e9⟩)
theorem n_told (E : zE) {w : zWd} {ab be : Int64} {rm en ej : Int32} (h0 : zIs w 49 (zMo ab be rm en ej)) (what : Int32) : zOk E mX4_told 0 [.ref 49, .int what] w (zR0 w (.long (if what = 0 then ab else be))) := by
  refine zOk.of (by decide +kernel) (Nat.le_of_ble_eq_true rfl) ?_
  refine zV.run kX4_told 1 rfl ?_
  refine zV.if2 kX4_told rfl (fun c => ?_) (fun c => ?_)
  · skip
    have c : ¬ what = 0 := c
    refine zV.run kX4_told 1 rfl ?_
    refine zV.gf kX4_told rfl fX4_71 (h0) rfl ?_
    exact zV.lret kX4_told rfl rfl (⟨by rw [if_neg c], rfl⟩)
  · skip
    have c : what = 0 := Decidable.not_not.mp c
    refine zV.run kX4_told 1 rfl ?_
    refine zV.gf kX4_told rfl fX4_67 (h0) rfl ?_
    refine zV.run kX4_told 1 rfl ?_
    exact zV.lret kX4_told rfl rfl (⟨by rw [if_pos c], rfl⟩)
theorem n_isPoint (E : zE) {w : zWd} {σ : zSt} {ab be : Int64} {rm en ej : Int32} (h0 : zIs w 49 (zMo ab be rm en ej)) (hc : zMc w σ) (m : Int32) (a b : Int64) : zOk E mX4_isPoint 2 [.ref 49, .int m, .long a, .long b] w (zR0 w (.int (zq (okM m ∧ okP (σ.1 m.toInt.toNat) a b)))) := by
  obtain ⟨⟨sz, a1, a2⟩, -, hv⟩ := id hc
  refine zOk.of (by decide +kernel) (Nat.le_of_ble_eq_true rfl) ?_
  refine zV.run kX4_isPoint 1 rfl ?_
  refine zV.cs kX4_isPoint rfl lX4_51 (n_isMap E w m) (by decide) rfl rfl (Nat.le_of_ble_eq_true rfl) ?_
  rintro _ _ ⟨rfl, rfl⟩
  refine zV.if2 kX4_isPoint rfl (fun c => ?_) (fun c => ?_)
  · skip
    have c := zq_eq0.mp c
    refine zV.run kX4_isPoint 1 rfl ?_
    exact zV.zret kX4_isPoint rfl rfl (Or.inl rfl) (⟨by rw [zq_f (fun q => c q.1)], rfl⟩)
  · skip
    have c := Decidable.not_not.mp (mt zq_eq0.mpr c)
    obtain ⟨mm, emm⟩ : ∃ mm, mm = m.toInt.toNat := ⟨_, rfl⟩
    have em : m = nI mm := by rw [emm]; exact i32_nI c.1
    have hm : mm < 8 := by omega
    rw [← emm]
    obtain ⟨v1, v5, vl⟩ := hv mm hm
    refine zV.run kX4_isPoint 2 rfl ?_
    refine zV.ldc2 kX4_isPoint rfl qX4_61 ?_
    refine zV.cs kX4_isPoint rfl lX4_47 (n_in E w b 1 100000) (by decide) rfl rfl (Nat.le_of_ble_eq_true rfl) ?_
    rintro _ _ ⟨rfl, rfl⟩
    refine zV.if2 kX4_isPoint rfl (fun c2 => ?_) (fun c2 => ?_)
    · skip
      have c2 : ¬ (1 ≤ b.toInt ∧ b.toInt ≤ 100000) := zq_eq0.mp c2
      refine zV.run kX4_isPoint 1 rfl ?_
      exact zV.zret kX4_isPoint rfl rfl (Or.inl rfl) (⟨by rw [zq_f (fun q => c2 ⟨q.2.1, q.2.2.1⟩)], rfl⟩)
    · skip
      have c2 : 1 ≤ b.toInt ∧ b.toInt ≤ 100000 := Decidable.not_not.mp (mt zq_eq0.mpr c2)
      refine zV.run kX4_isPoint 3 rfl ?_
      refine zV.gf kX4_isPoint rfl fX4_7 (h0) rfl ?_
      refine zV.run kX4_isPoint 1 rfl ?_
      refine zV.ial kX4_isPoint rfl (a1) (mm) (em) (hm) (by decide) ?_
      rw [a2 mm hm]
      have hmm : ((σ.1 mm : Nat) : Int) * b.toInt ≤ 5 * b.toInt := Int.mul_le_mul_of_nonneg_right (by omega) (by omega)
      have hm0 : 0 ≤ ((σ.1 mm : Nat) : Int) * b.toInt := Int.mul_nonneg (by omega) (by omega)
      have e : ((nI (σ.1 mm)).toInt64 * b).toInt = σ.1 mm * b.toInt := by
        rw [nI_iI, iI_l (by omega) (by omega)]
        have eb : b = lI b.toInt := lI_of b
        rw [show lI ((σ.1 mm : Nat) : Int) * b = lI ((σ.1 mm : Nat) : Int) * lI b.toInt by rw [← eb], lI_mul, lI_t (by omega) (by omega)]
      refine zV.run kX4_isPoint 3 rfl ?_
      refine zV.cs kX4_isPoint rfl lX4_47 (n_in E w a 0 ((nI (σ.1 mm)).toInt64 * b)) (by decide) rfl rfl (Nat.le_of_ble_eq_true rfl) ?_
      rintro _ _ ⟨rfl, rfl⟩
      rw [e]
      refine zV.if2 kX4_isPoint rfl (fun c3 => ?_) (fun c3 => ?_)
      · skip
        have c3 : ¬ (0 ≤ a.toInt ∧ a.toInt ≤ σ.1 mm * b.toInt) := zq_eq0.mp c3
        refine zV.run kX4_isPoint 1 rfl ?_
        exact zV.zret kX4_isPoint rfl rfl (Or.inl rfl) (⟨by rw [zq_f (fun q => c3 q.2.2.2)], rfl⟩)
      · skip
        have c3 : 0 ≤ a.toInt ∧ a.toInt ≤ σ.1 mm * b.toInt := Decidable.not_not.mp (mt zq_eq0.mpr c3)
        refine zV.run kX4_isPoint 2 rfl ?_
        exact zV.zret kX4_isPoint rfl rfl (Or.inr rfl) (⟨by rw [zq_t ⟨c, c2.1, c2.2, c3⟩], rfl⟩)
