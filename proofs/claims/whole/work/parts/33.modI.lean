/-! ===== the model: rounds ===== -/
abbrev RS : Type := List (Nat × Nat) × Bool × Bool
def ionf (sp : Nat → Nat) (ps pt : Nat → Int) (a b : Int) : Nat → Nat → Bool
  | 0, _ => true
  | r + 1, d => if ps d * a + pt d * b < (sp d : Int) * b ∨ ((sp d : Int) + 1) * b < ps d * a + pt d * b then false else ionf sp ps pt a b r (d + 1)
def lesf (ps pt : Nat → Int) (k : Nat) : Nat → Nat → Bool → Bool
  | 0, _, l => l
  | r + 1, d, l => lesf ps pt k r (d + 1) (l || decide (k % d = 0 ∧ ps d = 1 ∧ pt d = 0))
def apd (L : List (Nat × Nat)) (p : Nat × Nat) : List (Nat × Nat) := if L.getLast? = some p then L else L ++ [p]
def rdp (a b : Nat) : Nat × Nat := (a / Nat.gcd a b, b / Nat.gcd a b)
def cmb (k : Nat) (sp : Nat → Nat) (ps pt : Nat → Int) (s t : Int) (R : RS) : RS :=
  if s = 1 then (if t = 0 then (R.1, true, R.2.2 || !(lesf ps pt k (k - 1) 1 false)) else R)
  else if ionf sp ps pt (if s < 1 then t else -t) (if s < 1 then 1 - s else s - 1) k 0 = true then (apd R.1 (rdp (if s < 1 then t else -t).toNat (if s < 1 then 1 - s else s - 1).toNat), R.2)
  else R
/-- the cells of the model while rounds are sought: the path's levels up to d, what was found -/
def zRn (w : zWd) (sp : Nat → Nat) (ps pt : Nat → Int) (tr : Nat → Int32) (d e : Nat) (R : RS) : Prop :=
  (∃ ab be, zIs w 49 (zMo ab be (nI R.1.length) (zq (R.2.1 = true)) (zq (R.2.2 = true)))) ∧
  (∃ f, zIs w 53 (zLA 47000 f) ∧ ∀ i p, R.1[i]? = some p → f i = lN p.1) ∧ (∃ f, zIs w 54 (zLA 47000 f) ∧ ∀ i p, R.1[i]? = some p → f i = lN p.2) ∧
  (∃ f, zIs w 55 (zLA 7 f) ∧ ∀ q, q < e → f q = lI (ps q)) ∧ (∃ f, zIs w 56 (zLA 7 f) ∧ ∀ q, q < e → f q = lI (pt q)) ∧
  (∃ f, zIs w 59 (zIA 7 f) ∧ ∀ q, q < d → f q = nI (sp q)) ∧ (∃ f, zIs w 60 (zIA 7 f) ∧ ∀ q, q < d → f q = tr q)
def zFo2 (w w' : zWd) : Prop := ∀ a, (a < 49 ∨ a = 50 ∨ a = 51 ∨ a = 52 ∨ a = 57 ∨ a = 58) → w' a = w a
def bdd (z : Int) : Prop := -1000000 ≤ z ∧ z ≤ 1000000
theorem mulb {x y X Y : Int} (h1 : -X ≤ x) (h2 : x ≤ X) (h3 : -Y ≤ y) (h4 : y ≤ Y) : -(X * Y) ≤ x * y ∧ x * y ≤ X * Y := by
  have hX : 0 ≤ X := by omega
  have hY : 0 ≤ Y := by omega
  have a1 : (x.natAbs : Int) ≤ X := by omega
  have a2 : (y.natAbs : Int) ≤ Y := by omega
  have a3 : ((x * y).natAbs : Int) ≤ X * Y := by
    rw [Int.natAbs_mul, Int.natCast_mul]
    exact Int.mul_le_mul a1 a2 (by omega) hX
  omega
theorem n_isOn_l (E : zE) {w : zWd} {sp : Nat → Nat} {ps pt : Nat → Int} {pS pT : Nat → Int64} {sS : Nat → Int32} {ab be : Int64} {rm en ej : Int32} (h0 : zIs w 49 (zMo ab be rm en ej)) (h5 : zIs w 55 (zLA 7 pS)) (h6 : zIs w 56 (zLA 7 pT)) (h9 : zIs w 59 (zIA 7 sS)) {k : Nat} (hk : k ≤ 6) (e5 : ∀ q, q < k → pS q = lI (ps q)) (e6 : ∀ q, q < k → pT q = lI (pt q)) (e9 : ∀ q, q < k → sS q = nI (sp q)) (b5 : ∀ q, q < k → bdd (ps q)) (b6 : ∀ q, q < k → bdd (pt q)) (b9 : ∀ q, q < k → sp q < 100) {a b : Int} (ha : bdd a) (hb : bdd b) :
    ∀ (r d : Nat) (z7 z8 : Value), d + r = k → zV E mX4_isOn 0 (zR0 w (.int (zq (ionf sp ps pt a b r d = true)))) 3 [.ref 49, .int (nI k), .long (lI a), zU, .long (lI b), zU, .int (nI d), z7, z8] [] w := by
  obtain ⟨ha1, ha2⟩ := ha
  obtain ⟨hb1, hb2⟩ := hb
  intro r
  induction r with
  | zero =>
    intro d z7 z8 hd
    have e : d = k := by omega
    subst e
    refine zV.run kX4_isOn 2 rfl ?_
    refine zV.ict kX4_isOn (cd := .ge) rfl (Int32.le_refl _) ?_
    refine zV.run kX4_isOn 1 rfl ?_
    exact zV.zret kX4_isOn rfl rfl (Or.inr rfl) (⟨rfl, rfl⟩)
  | succ r ih =>
    intro d z7 z8 hd
    obtain ⟨p1, p2⟩ := b5 d (by omega)
    obtain ⟨t1, t2⟩ := b6 d (by omega)
    have s9 := b9 d (by omega)
    have m1 := mulb p1 p2 ha1 ha2
    have m2 := mulb t1 t2 hb1 hb2
    have m3 := mulb (x := (sp d : Int)) (X := 100) (by omega) (by omega) hb1 hb2
    have m4 := mulb (x := (sp d : Int) + 1) (X := 100) (by omega) (by omega) hb1 hb2
    have ev : pS d * lI a + pT d * lI b = lI (ps d * a + pt d * b) := by rw [e5 d (by omega), e6 d (by omega), lI_mul, lI_mul, lI_add]
    have es : (sS d).toInt64 * lI b = lI ((sp d : Int) * b) := by rw [e9 d (by omega), nI_iI, iI_l (by omega) (by omega), lI_mul]
    have es2 : (sS d + 1).toInt64 * lI b = lI (((sp d : Int) + 1) * b) := by rw [e9 d (by omega), nI_iI, show (1 : Int32) = iI 1 from rfl, iI_add, iI_l (by omega) (by omega), lI_mul]
    refine zV.run kX4_isOn 2 rfl ?_
    refine zV.icf kX4_isOn (cd := .ge) rfl (nI_ge (by omega) (by omega)) ?_
    refine zV.run kX4_isOn 1 rfl ?_
    refine zV.gf kX4_isOn rfl fX4_27 (h0) rfl ?_
    refine zV.run kX4_isOn 1 rfl ?_
    refine zV.lal kX4_isOn rfl (h5) (d) (rfl) (by omega) (by decide) ?_
    refine zV.run kX4_isOn 3 rfl ?_
    refine zV.gf kX4_isOn rfl fX4_30 (h0) rfl ?_
    refine zV.run kX4_isOn 1 rfl ?_
    refine zV.lal kX4_isOn rfl (h6) (d) (rfl) (by omega) (by decide) ?_
    refine zV.run kX4_isOn 6 rfl ?_
    refine zV.gf kX4_isOn rfl fX4_39 (h0) rfl ?_
    refine zV.run kX4_isOn 1 rfl ?_
    refine zV.ial kX4_isOn rfl (h9) (d) (rfl) (by omega) (by decide) ?_
    rw [ev]
    refine zV.run kX4_isOn 3 rfl ?_
    rw [es]
    refine zV.il2 kX4_isOn rfl rfl (fun c => ?_) (fun c => ?_)
    · skip
      have c := (lI_lt (by omega) (by omega) (by omega) (by omega)).mp c
      have e : ionf sp ps pt a b (r + 1) d = false := if_pos (Or.inl c)
      refine zV.run kX4_isOn 1 rfl ?_
      exact zV.zret kX4_isOn rfl rfl (Or.inl rfl) (⟨by rw [e]; rfl, rfl⟩)
    · skip
      have c := mt (lI_lt (a := ps d * a + pt d * b) (b := (sp d : Int) * b) (by omega) (by omega) (by omega) (by omega)).mpr c
      refine zV.run kX4_isOn 2 rfl ?_
      refine zV.gf kX4_isOn rfl fX4_39 (h0) rfl ?_
      refine zV.run kX4_isOn 1 rfl ?_
      refine zV.ial kX4_isOn rfl (h9) (d) (rfl) (by omega) (by decide) ?_
      refine zV.run kX4_isOn 5 rfl ?_
      rw [es2]
      refine zV.il2 kX4_isOn rfl rfl (fun c2 => ?_) (fun c2 => ?_)
      · skip
        have c2 := (lI_le (by omega) (by omega) (by omega) (by omega)).mp c2
        have e : ionf sp ps pt a b (r + 1) d = ionf sp ps pt a b r (d + 1) := if_neg (by omega)
        rw [e]
        refine zV.run kX4_isOn 2 rfl ?_
        rw [nI_1]
        exact ih (d + 1) _ _ (by omega)
      · skip
        have c2 := mt (lI_le (a := ps d * a + pt d * b) (b := ((sp d : Int) + 1) * b) (by omega) (by omega) (by omega) (by omega)).mpr c2
        have e : ionf sp ps pt a b (r + 1) d = false := if_pos (Or.inr (by omega))
        refine zV.run kX4_isOn 1 rfl ?_
        exact zV.zret kX4_isOn rfl rfl (Or.inl rfl) (⟨by rw [e]; rfl, rfl⟩)
theorem n_isOn (E : zE) {w : zWd} {sp : Nat → Nat} {ps pt : Nat → Int} {pS pT : Nat → Int64} {sS : Nat → Int32} {ab be : Int64} {rm en ej : Int32} (h0 : zIs w 49 (zMo ab be rm en ej)) (h5 : zIs w 55 (zLA 7 pS)) (h6 : zIs w 56 (zLA 7 pT)) (h9 : zIs w 59 (zIA 7 sS)) {k : Nat} (hk : k ≤ 6) (e5 : ∀ q, q < k → pS q = lI (ps q)) (e6 : ∀ q, q < k → pT q = lI (pt q)) (e9 : ∀ q, q < k → sS q = nI (sp q)) (b5 : ∀ q, q < k → bdd (ps q)) (b6 : ∀ q, q < k → bdd (pt q)) (b9 : ∀ q, q < k → sp q < 100) {a b : Int} (ha : bdd a) (hb : bdd b) : zOk E mX4_isOn 0 [.ref 49, .int (nI k), .long (lI a), .long (lI b)] w (zR0 w (.int (zq (ionf sp ps pt a b k 0 = true)))) := by
  refine zOk.of (by decide +kernel) (Nat.le_of_ble_eq_true rfl) ?_
  refine zV.run kX4_isOn 2 rfl ?_
  exact n_isOn_l E h0 h5 h6 h9 hk e5 e6 e9 b5 b6 b9 ha hb k 0 _ _ (by omega)
theorem lI_n {n : Nat} : lI (n : Int) = lN n := (lN_lI n).symm
theorem n_comesBack_1 (E : zE) {w : zWd} {ps pt : Nat → Int} {pS pT : Nat → Int64} {ab be : Int64} {rm en ej : Int32} {Post : Option Value → zWd → Prop} (h0 : zIs w 49 (zMo ab be rm en ej)) (h5 : zIs w 55 (zLA 7 pS)) (h6 : zIs w 56 (zLA 7 pT)) {k : Nat} (hk : k ≤ 6) (e5 : ∀ q, q ≤ k → pS q = lI (ps q)) (e6 : ∀ q, q ≤ k → pT q = lI (pt q)) (b5 : ∀ q, q ≤ k → bdd (ps q)) (b6 : ∀ q, q ≤ k → bdd (pt q)) (s t : Int64) (l0 : Bool)
    (kk : ∀ z7 z8 z9 : Value, zV E mX4_comesBack 2 Post 79 [.ref 49, .int (nI k), .long s, zU, .long t, zU, .int (zq (l0 = true)), z7, z8, z9] [] w) :
    ∀ (r d : Nat) (l : Bool) (z8 z9 : Value), d + r = k → 1 ≤ d → lesf ps pt k r d l = l0 → zV E mX4_comesBack 2 Post 24 [.ref 49, .int (nI k), .long s, zU, .long t, zU, .int (zq (l = true)), .int (nI d), z8, z9] [] w := by
  intro r
  induction r with
  | zero =>
    intro d l z8 z9 hd h1 hl
    have e : d = k := by omega
    subst e
    have hl : l = l0 := hl
    subst hl
    refine zV.run kX4_comesBack 2 rfl ?_
    refine zV.ict kX4_comesBack (cd := .ge) rfl (Int32.le_refl _) ?_
    exact kk _ _ _
  | succ r ih =>
    intro d l z8 z9 hd h1 hl
    have hl : lesf ps pt k r (d + 1) (l || decide (k % d = 0 ∧ ps d = 1 ∧ pt d = 0)) = l0 := hl
    obtain ⟨p1, p2⟩ := b5 d (by omega)
    obtain ⟨t1, t2⟩ := b6 d (by omega)
    have hm : k % d < d := Nat.mod_lt _ (by omega)
    have nxt : ∀ v : Bool, v = (l || decide (k % d = 0 ∧ ps d = 1 ∧ pt d = 0)) → zV E mX4_comesBack 2 Post 71 [.ref 49, .int (nI k), .long s, zU, .long t, zU, .int (zq (l = true)), .int (nI d), z8, z9] [.int (zq (v = true))] w := by
      intro v hv
      refine zV.run kX4_comesBack 3 rfl ?_
      rw [nI_1]
      exact ih (d + 1) v _ _ (by omega) (by omega) (by rw [hv]; exact hl)
    refine zV.run kX4_comesBack 2 rfl ?_
    refine zV.icf kX4_comesBack (cd := .ge) rfl (nI_ge (by omega) (by omega)) ?_
    refine zV.run kX4_comesBack 1 rfl ?_
    refine zV.if2 kX4_comesBack rfl (fun c => ?_) (fun c => ?_)
    · skip
      have c : ¬ ¬ l = true := mt zq_eq0.mpr c
      refine zV.run kX4_comesBack 2 rfl ?_
      exact nxt true (by simp [Decidable.not_not.mp c])
    · skip
      have c := zq_eq0.mp (Decidable.not_not.mp c)
      have hlf : l = false := by simpa using c
      refine zV.run kX4_comesBack 2 rfl ?_
      refine zV.irem kX4_comesBack rfl (nI_ne0 (by omega) (by omega)) ?_
      rw [pk_rem (by omega) (by omega) (by omega)]
      refine zV.if2 kX4_comesBack rfl (fun c2 => ?_) (fun c2 => ?_)
      · skip
        have c2 : ¬ k % d = 0 := fun q => c2 (by rw [q]; rfl)
        refine zV.run kX4_comesBack 1 rfl ?_
        exact nxt false (by simp [hlf, c2])
      · skip
        have c2 := (nI_eq (a := k % d) (b := 0) (by omega) (by omega)).mp (Decidable.not_not.mp c2)
        refine zV.run kX4_comesBack 1 rfl ?_
        refine zV.gf kX4_comesBack rfl fX4_27 (h0) rfl ?_
        refine zV.run kX4_comesBack 1 rfl ?_
        refine zV.lal kX4_comesBack rfl (h5) (d) (rfl) (by omega) (by decide) ?_
        rw [e5 d (by omega)]
        refine zV.run kX4_comesBack 1 rfl ?_
        refine zV.il2 kX4_comesBack rfl rfl (fun c3 => ?_) (fun c3 => ?_)
        · skip
          have c3 : ¬ ps d = 1 := fun q => c3 (by rw [q]; rfl)
          refine zV.run kX4_comesBack 1 rfl ?_
          exact nxt false (by simp [hlf, c3])
        · skip
          have c3 := (lI_eq (a := ps d) (b := 1) (by omega) (by omega) (by omega) (by omega)).mp (Decidable.not_not.mp c3)
          refine zV.run kX4_comesBack 1 rfl ?_
          refine zV.gf kX4_comesBack rfl fX4_30 (h0) rfl ?_
          refine zV.run kX4_comesBack 1 rfl ?_
          refine zV.lal kX4_comesBack rfl (h6) (d) (rfl) (by omega) (by decide) ?_
          rw [e6 d (by omega)]
          refine zV.run kX4_comesBack 1 rfl ?_
          refine zV.il2 kX4_comesBack rfl rfl (fun c4 => ?_) (fun c4 => ?_)
          · skip
            have c4 : ¬ pt d = 0 := fun q => c4 (by rw [q]; rfl)
            refine zV.run kX4_comesBack 1 rfl ?_
            exact nxt false (by simp [hlf, c4])
          · skip
            have c4 := (lI_eq (a := pt d) (b := 0) (by omega) (by omega) (by omega) (by omega)).mp (Decidable.not_not.mp c4)
            refine zV.run kX4_comesBack 2 rfl ?_
            exact nxt true (by simp [c2, c3, c4])
theorem ionf_0 {sp : Nat → Nat} {ps pt : Nat → Int} {a b : Int} {k : Nat} (h1 : 1 ≤ k) (hs : ps 0 = 1) (ht : pt 0 = 0) (hb : 0 ≤ b) (h : ionf sp ps pt a b k 0 = true) : 0 ≤ a := by
  obtain ⟨r, rfl⟩ : ∃ r, k = r + 1 := ⟨k - 1, by omega⟩
  unfold ionf at h
  split at h
  next => cases h
  next c =>
    rw [hs, ht, Int.one_mul, Int.zero_mul, Int.add_zero] at c
    have : 0 ≤ (sp 0 : Int) * b := Int.mul_nonneg (by omega) hb
    omega
theorem n_comesBack (E : zE) {w : zWd} {sp : Nat → Nat} {ps pt : Nat → Int} {tr : Nat → Int32} {R : RS} {k : Nat} (hR : zRn w sp ps pt tr k (k + 1) R) (h1 : 1 ≤ k) (hk : k ≤ 6) (hs0 : ps 0 = 1) (ht0 : pt 0 = 0) (b5 : ∀ q, q ≤ k → bdd (ps q)) (b6 : ∀ q, q ≤ k → bdd (pt q)) (b9 : ∀ q, q < k → sp q < 100) (hsk : -100000 ≤ ps k ∧ ps k ≤ 100000) (hL : R.1.length < 40000) (hBd : ∀ p ∈ R.1, p.1 < 2 ^ 40 ∧ p.2 < 2 ^ 40) : zOk E mX4_comesBack 2 [.ref 49, .int (nI k), .long (lI (ps k)), .long (lI (pt k))] w (fun r w' => r = none ∧ zRn w' sp ps pt tr k (k + 1) (cmb k sp ps pt (ps k) (pt k) R) ∧ zFo2 w w') := by
  obtain ⟨⟨ab, be, h0⟩, ⟨fa, g3, e3⟩, ⟨fb, g4, e4⟩, ⟨pS, g5, e5⟩, ⟨pT, g6, e6⟩, ⟨sS, g9, e9⟩, ⟨tS, g10, e10⟩⟩ := id hR
  obtain ⟨bs1, bs2⟩ := b5 k (Nat.le_refl _)
  obtain ⟨bt1, bt2⟩ := b6 k (Nat.le_refl _)
  refine zOk.of (by decide +kernel) (Nat.le_of_ble_eq_true rfl) ?_
  refine zV.run kX4_comesBack 2 rfl ?_
  refine zV.il2 kX4_comesBack rfl rfl (fun c => ?_) (fun c => ?_)
  · skip
    have c : ¬ ps k = 1 := fun q => c (by rw [q]; rfl)
    have mid : ∀ (a b : Int), a = (if ps k < 1 then pt k else -(pt k)) → b = (if ps k < 1 then 1 - ps k else ps k - 1) → zV E mX4_comesBack 2 (fun r w' => r = none ∧ zRn w' sp ps pt tr k (k + 1) (cmb k sp ps pt (ps k) (pt k) R) ∧ zFo2 w w') 134 [.ref 49, .int (nI k), .long (lI (ps k)), zU, .long (lI (pt k)), zU, .long (lI a), zU, .long (lI b), zU] [] w := by
      intro a b ea eb
      have hb0 : 0 < b := by rw [eb]; split <;> omega
      have hbb : bdd b := ⟨by omega, by rw [eb]; split <;> omega⟩
      have hab : bdd a := by rw [ea]; split <;> exact ⟨by omega, by omega⟩
      have ec : cmb k sp ps pt (ps k) (pt k) R = if ionf sp ps pt a b k 0 = true then (apd R.1 (rdp a.toNat b.toNat), R.2) else R := by
        unfold cmb
        rw [if_neg c, ← ea, ← eb]
      rw [ec]
      refine zV.run kX4_comesBack 4 rfl ?_
      refine zV.cv kX4_comesBack rfl lX4_127 (n_isOn E h0 g5 g6 g9 hk (fun q hq => e5 q (by omega)) (fun q hq => e6 q (by omega)) (fun q hq => e9 q (by omega)) (fun q hq => b5 q (by omega)) (fun q hq => b6 q (by omega)) b9 hab hbb) (by decide) rfl (h0) rfl rfl rfl (Nat.le_of_ble_eq_true rfl) ?_
      rintro _ _ ⟨rfl, rfl⟩
      refine zV.if2 kX4_comesBack rfl (fun c2 => ?_) (fun c2 => ?_)
      · skip
        have c2 := zq_eq0.mp c2
        rw [if_neg c2]
        exact zV.vret kX4_comesBack rfl rfl (⟨rfl, hR, fun _ _ => rfl⟩)
      · skip
        have c2 := Decidable.not_not.mp (mt zq_eq0.mpr c2)
        have ha0 := ionf_0 h1 hs0 ht0 (by omega) c2
        rw [if_pos c2]
        obtain ⟨hab1, hab2⟩ := hab
        obtain ⟨hbb1, hbb2⟩ := hbb
        obtain ⟨A, eA⟩ : ∃ A : Nat, A = a.toNat := ⟨_, rfl⟩
        obtain ⟨B, eB⟩ : ∃ B : Nat, B = b.toNat := ⟨_, rfl⟩
        have eA2 : lI a = lN A := by rw [eA]; exact lI_nat ha0
        have eB2 : lI b = lN B := by rw [eB]; exact lI_nat (by omega)
        rw [← eA, ← eB, eA2, eB2]
        have hA2 : A / Nat.gcd A B ≤ A := Nat.div_le_self _ _
        have hB2 : B / Nat.gcd A B ≤ B := Nat.div_le_self _ _
        refine zV.run kX4_comesBack 3 rfl ?_
        refine zV.cv kX4_comesBack rfl lX4_78 (n_at E h0 (a := A) (b := B) (by omega) (by omega) (by omega)) (by decide) rfl (h0) rfl rfl rfl (Nat.le_of_ble_eq_true rfl) ?_
        rintro _ w9 ⟨rfl, ew⟩
        have k9 : ∀ q, q ≠ 49 → w9 q = w q := fun q hq => by rw [ew, zup_ne hq]
        have f0 : zIs w9 49 (zMo (lN (rdp A B).1) (lN (rdp A B).2) (nI R.1.length) (zq (R.2.1 = true)) (zq (R.2.2 = true))) := by rw [ew]; exact zIs.s h0.1
        have f3 := g3.k (k9 53 (by decide))
        have f4 := g4.k (k9 54 (by decide))
        have app : R.1.getLast? ≠ some (rdp A B) → zV E mX4_comesBack 2 (fun r w' => r = none ∧ zRn w' sp ps pt tr k (k + 1) (apd R.1 (rdp A B), R.2) ∧ zFo2 w w') 199 [.ref 49, .int (nI k), .long (lI (ps k)), zU, .long (lI (pt k)), zU, .long (lN A), zU, .long (lN B), zU] [] w9 := by
          intro hne
          have ea2 : apd R.1 (rdp A B) = R.1 ++ [rdp A B] := if_neg hne
          rw [ea2]
          refine zV.run kX4_comesBack 1 rfl ?_
          refine zV.gf kX4_comesBack rfl fX4_20 (f0) rfl ?_
          refine zV.run kX4_comesBack 1 rfl ?_
          refine zV.gf kX4_comesBack rfl fX4_130 (f0) rfl ?_
          refine zV.run kX4_comesBack 1 rfl ?_
          refine zV.gf kX4_comesBack rfl fX4_67 (f0) rfl ?_
          refine zV.las kX4_comesBack rfl (f3) (R.1.length) (rfl) (by omega) (by decide) ?_
          refine zV.run kX4_comesBack 1 rfl ?_
          refine zV.gf kX4_comesBack rfl fX4_24 (f0.n (by decide)) rfl ?_
          refine zV.run kX4_comesBack 1 rfl ?_
          refine zV.gf kX4_comesBack rfl fX4_130 (f0.n (by decide)) rfl ?_
          refine zV.run kX4_comesBack 1 rfl ?_
          refine zV.gf kX4_comesBack rfl fX4_71 (f0.n (by decide)) rfl ?_
          refine zV.las kX4_comesBack rfl (f4.n (by decide)) (R.1.length) (rfl) (by omega) (by decide) ?_
          refine zV.run kX4_comesBack 2 rfl ?_
          refine zV.gf kX4_comesBack rfl fX4_130 ((f0.n (by decide)).n (by decide)) rfl ?_
          refine zV.run kX4_comesBack 2 rfl ?_
          refine zV.pfi kX4_comesBack rfl pX4_130 ((f0.n (by decide)).n (by decide)) (Nat.le_of_ble_eq_true rfl) ?_
          rw [nI_1]
          have kk9 : ∀ (c1 c2 c3 : va_E) (q : Nat), q ≠ 49 → q ≠ 53 → q ≠ 54 → va_up (va_up (va_up w9 53 c1) 54 c2) 49 c3 q = w q := fun c1 c2 c3 q q1 q2 q3 => by rw [zup_ne q1, zup_ne q3, zup_ne q2]; exact k9 q q1
          refine zV.vret kX4_comesBack rfl rfl ⟨rfl, ⟨⟨lN (rdp A B).1, lN (rdp A B).2, ?_⟩, ⟨_, ((zIs.s f3.1).n (by decide)).n (by decide), fun i p hp => ?_⟩, ⟨_, (zIs.s f4.1).n (by decide), fun i p hp => ?_⟩, ⟨pS, g5.k (kk9 _ _ _ _ (by decide) (by decide) (by decide)), e5⟩, ⟨pT, g6.k (kk9 _ _ _ _ (by decide) (by decide) (by decide)), e6⟩, ⟨sS, g9.k (kk9 _ _ _ _ (by decide) (by decide) (by decide)), e9⟩, ⟨tS, g10.k (kk9 _ _ _ _ (by decide) (by decide) (by decide)), e10⟩⟩, fun q hq => kk9 _ _ _ q (by omega) (by omega) (by omega)⟩
          · show zIs _ 49 (zMo _ _ (nI (R.1 ++ [rdp A B]).length) _ _)
            rw [List.length_append]
            exact zIs.s h0.1
          · by_cases q : i = R.1.length
            · subst q
              rw [pk_uLs]
              rw [List.getElem?_append_right (Nat.le_refl _), Nat.sub_self] at hp
              cases hp
              rfl
            · have hi : i < R.1.length := by
                have := (List.getElem?_eq_some_iff.mp hp).1
                rw [List.length_append] at this
                simp at this
                omega
              rw [pk_uLn q]
              rw [List.getElem?_append_left hi] at hp
              exact e3 i p hp
          · by_cases q : i = R.1.length
            · subst q
              rw [pk_uLs]
              rw [List.getElem?_append_right (Nat.le_refl _), Nat.sub_self] at hp
              cases hp
              rfl
            · have hi : i < R.1.length := by
                have := (List.getElem?_eq_some_iff.mp hp).1
                rw [List.length_append] at this
                simp at this
                omega
              rw [pk_uLn q]
              rw [List.getElem?_append_left hi] at hp
              exact e4 i p hp
        have stay : R.1.getLast? = some (rdp A B) → zV E mX4_comesBack 2 (fun r w' => r = none ∧ zRn w' sp ps pt tr k (k + 1) (apd R.1 (rdp A B), R.2) ∧ zFo2 w w') 235 [.ref 49, .int (nI k), .long (lI (ps k)), zU, .long (lI (pt k)), zU, .long (lN A), zU, .long (lN B), zU] [] w9 := by
          intro he
          have ea2 : apd R.1 (rdp A B) = R.1 := if_pos he
          rw [ea2]
          exact zV.vret kX4_comesBack rfl rfl (⟨rfl, ⟨⟨_, _, f0⟩, ⟨fa, f3, e3⟩, ⟨fb, f4, e4⟩, ⟨pS, g5.k (k9 _ (by decide)), e5⟩, ⟨pT, g6.k (k9 _ (by decide)), e6⟩, ⟨sS, g9.k (k9 _ (by decide)), e9⟩, ⟨tS, g10.k (k9 _ (by decide)), e10⟩⟩, fun q hq => k9 q (by omega)⟩)
        refine zV.run kX4_comesBack 1 rfl ?_
        refine zV.gf kX4_comesBack rfl fX4_130 (f0) rfl ?_
        refine zV.if2 kX4_comesBack rfl (fun c3 => ?_) (fun c3 => ?_)
        · skip
          have c3 := (nI_eq (a := R.1.length) (b := 0) (by omega) (by omega)).mp c3
          refine app (fun q => ?_)
          rw [List.eq_nil_of_length_eq_zero c3] at q
          cases q
        · skip
          have c3 := mt (nI_eq (a := R.1.length) (b := 0) (by omega) (by omega)).mpr c3
          have hll : R.1.length - 1 < R.1.length := by omega
          obtain ⟨p, hp⟩ : ∃ p, R.1[R.1.length - 1]? = some p := ⟨_, List.getElem?_eq_getElem hll⟩
          have hlast : R.1.getLast? = some p := by rw [List.getLast?_eq_getElem?]; exact hp
          have ei : nI R.1.length - 1 = nI (R.1.length - 1) := by rw [show (1 : Int32) = nI 1 from rfl, pk_sub (by omega)]
          have ep := hBd p (List.mem_of_getElem? hp)
          have hr1 : (rdp A B).1 ≤ A := hA2
          have hr2 : (rdp A B).2 ≤ B := hB2
          refine zV.run kX4_comesBack 1 rfl ?_
          refine zV.gf kX4_comesBack rfl fX4_20 (f0) rfl ?_
          refine zV.run kX4_comesBack 1 rfl ?_
          refine zV.gf kX4_comesBack rfl fX4_130 (f0) rfl ?_
          refine zV.run kX4_comesBack 2 rfl ?_
          rw [ei]
          refine zV.lal kX4_comesBack rfl (f3) ((R.1.length - 1)) (rfl) (by omega) (by decide) ?_
          refine zV.run kX4_comesBack 1 rfl ?_
          refine zV.gf kX4_comesBack rfl fX4_67 (f0) rfl ?_
          rw [e3 _ _ hp]
          refine zV.il2 kX4_comesBack rfl rfl (fun c4 => ?_) (fun c4 => ?_)
          · skip
            refine app (fun q => ?_)
            rw [hlast] at q
            injection q with q
            exact c4 (by rw [q])
          · skip
            have c4 := Decidable.not_not.mp c4
            rw [lN_lI, lN_lI] at c4
            have c4 := (lI_eq (by omega) (by omega) (by omega) (by omega)).mp c4
            refine zV.run kX4_comesBack 1 rfl ?_
            refine zV.gf kX4_comesBack rfl fX4_24 (f0) rfl ?_
            refine zV.run kX4_comesBack 1 rfl ?_
            refine zV.gf kX4_comesBack rfl fX4_130 (f0) rfl ?_
            refine zV.run kX4_comesBack 2 rfl ?_
            rw [ei]
            refine zV.lal kX4_comesBack rfl (f4) ((R.1.length - 1)) (rfl) (by omega) (by decide) ?_
            refine zV.run kX4_comesBack 1 rfl ?_
            refine zV.gf kX4_comesBack rfl fX4_71 (f0) rfl ?_
            rw [e4 _ _ hp]
            refine zV.il2 kX4_comesBack rfl rfl (fun c5 => ?_) (fun c5 => ?_)
            · skip
              rw [lN_lI, lN_lI] at c5
              have c5 := (lI_eq (by omega) (by omega) (by omega) (by omega)).mp c5
              exact stay (by rw [hlast]; exact congrArg some (Prod.ext (by omega) (by omega)))
            · skip
              refine app (fun q => ?_)
              rw [hlast] at q
              injection q with q
              exact c5 (by rw [q]; rfl)
    refine zV.run kX4_comesBack 2 rfl ?_
    refine zV.il2 kX4_comesBack rfl rfl (fun c1 => ?_) (fun c1 => ?_)
    · skip
      have c1 := (lI_le (a := 1) (b := ps k) (by omega) (by omega) (by omega) (by omega)).mp c1
      refine zV.run kX4_comesBack 5 rfl ?_
      refine zV.il2 kX4_comesBack rfl rfl (fun c2 => ?_) (fun c2 => ?_)
      · skip
        refine zV.run kX4_comesBack 4 rfl ?_
        rw [lI_neg, show (1 : Int64) = lI 1 from rfl, lI_sub]
        exact mid _ _ (by rw [if_neg (by omega)]) (by rw [if_neg (by omega)])
      · skip
        exact absurd ((lI_le (a := 1) (b := ps k) (by omega) (by omega) (by omega) (by omega)).mpr c1) c2
    · skip
      have c1' := mt (lI_le (a := 1) (b := ps k) (by omega) (by omega) (by omega) (by omega)).mpr c1
      refine zV.run kX4_comesBack 5 rfl ?_
      refine zV.il2 kX4_comesBack rfl rfl (fun c2 => ?_) (fun c2 => ?_)
      · skip
        exact absurd c2 c1
      · skip
        refine zV.run kX4_comesBack 5 rfl ?_
        rw [show (1 : Int64) = lI 1 from rfl, lI_sub]
        exact mid _ _ (by rw [if_pos (by omega)]) (by rw [if_pos (by omega)])
  · skip
    have c := (lI_eq (a := ps k) (b := 1) (by omega) (by omega) (by omega) (by omega)).mp (Decidable.not_not.mp c)
    refine zV.run kX4_comesBack 2 rfl ?_
    refine zV.il2 kX4_comesBack rfl rfl (fun c1 => ?_) (fun c1 => ?_)
    · skip
      have c1 : ¬ pt k = 0 := fun q => c1 (by rw [q]; rfl)
      have ec : cmb k sp ps pt (ps k) (pt k) R = R := by unfold cmb; rw [if_pos c, if_neg c1]
      rw [ec]
      exact zV.vret kX4_comesBack rfl rfl (⟨rfl, hR, fun _ _ => rfl⟩)
    · skip
      have c1 := (lI_eq (a := pt k) (b := 0) (by omega) (by omega) (by omega) (by omega)).mp (Decidable.not_not.mp c1)
      obtain ⟨l0, el0⟩ : ∃ l0, l0 = lesf ps pt k (k - 1) 1 false := ⟨_, rfl⟩
      have ec : cmb k sp ps pt (ps k) (pt k) R = (R.1, true, R.2.2 || !l0) := by unfold cmb; rw [if_pos c, if_pos c1, el0]
      rw [ec]
      refine zV.run kX4_comesBack 2 rfl ?_
      refine zV.pfz kX4_comesBack rfl pX4_120 (Or.inr rfl) (h0) (Nat.le_of_ble_eq_true rfl) ?_
      have f0 : zIs (va_up w 49 (zMo ab be (nI R.1.length) 1 (zq (R.2.2 = true)))) 49 (zMo ab be (nI R.1.length) 1 (zq (R.2.2 = true))) := zIs.s h0.1
      have kq : ∀ (c1 c2 : va_E) (q : Nat), q ≠ 49 → va_up (va_up w 49 c1) 49 c2 q = w q := fun c1 c2 q q1 => by rw [zup_ne q1, zup_ne q1]
      have fin : ∀ (v : Bool) (z7 z8 z9 : Value), v = (R.2.2 || !l0) → zV E mX4_comesBack 2 (fun r w' => r = none ∧ zRn w' sp ps pt tr k (k + 1) (R.1, true, R.2.2 || !l0) ∧ zFo2 w w') 97 [.ref 49, .int (nI k), .long (lI (ps k)), zU, .long (lI (pt k)), zU, .int (zq (l0 = true)), z7, z8, z9] [.int (zq (v = true)), .ref 49] (va_up w 49 (zMo ab be (nI R.1.length) 1 (zq (R.2.2 = true)))) := by
        intro v z7 z8 z9 hv
        subst hv
        refine zV.pfz kX4_comesBack rfl pX4_124 (zq01 _) (f0) (Nat.le_of_ble_eq_true rfl) ?_
        exact zV.vret kX4_comesBack rfl rfl (⟨rfl, ⟨⟨ab, be, zIs.s f0.1⟩, ⟨fa, g3.k (kq _ _ _ (by decide)), e3⟩, ⟨fb, g4.k (kq _ _ _ (by decide)), e4⟩, ⟨pS, g5.k (kq _ _ _ (by decide)), e5⟩, ⟨pT, g6.k (kq _ _ _ (by decide)), e6⟩, ⟨sS, g9.k (kq _ _ _ (by decide)), e9⟩, ⟨tS, g10.k (kq _ _ _ (by decide)), e10⟩⟩, fun q hq => kq _ _ q (by omega)⟩)
      refine zV.run kX4_comesBack 4 rfl ?_
      refine n_comesBack_1 E f0 (g5.n (by decide)) (g6.n (by decide)) hk (fun q hq => e5 q (by omega)) (fun q hq => e6 q (by omega)) b5 b6 _ _ l0 (fun z7 z8 z9 => ?_) (k - 1) 1 false _ _ (by omega) (by omega) el0.symm
      refine zV.run kX4_comesBack 2 rfl ?_
      refine zV.gf kX4_comesBack rfl fX4_124 (f0) rfl ?_
      refine zV.if2 kX4_comesBack rfl (fun c2 => ?_) (fun c2 => ?_)
      · skip
        have c2 := Decidable.not_not.mp (mt zq_eq0.mpr c2)
        refine zV.run kX4_comesBack 2 rfl ?_
        exact fin true _ _ _ (by rw [c2]; rfl)
      · skip
        have c2 := zq_eq0.mp (Decidable.not_not.mp c2)
        have c2 : R.2.2 = false := by simpa using c2
        refine zV.run kX4_comesBack 1 rfl ?_
        refine zV.if2 kX4_comesBack rfl (fun c3 => ?_) (fun c3 => ?_)
        · skip
          have c3 := Decidable.not_not.mp (mt zq_eq0.mpr c3)
          refine zV.run kX4_comesBack 1 rfl ?_
          exact fin false _ _ _ (by rw [c2, c3]; rfl)
        · skip
          have c3 := zq_eq0.mp (Decidable.not_not.mp c3)
          have c3 : l0 = false := by simpa using c3
          refine zV.run kX4_comesBack 2 rfl ?_
          exact fin true _ _ _ (by rw [c2, c3]; rfl)
