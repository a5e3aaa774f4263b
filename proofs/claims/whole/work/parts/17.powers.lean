/-! ===== Powers ===== -/
theorem zV.mono {E : zE} {M : zM} {d : Nat} {P Q : Option Value → zWd → Prop} {pc : Nat} {L st : List Value} {w : zWd} (h : ∀ r w, P r w → Q r w) (k : zV E M d P pc L st w) : zV E M d Q pc L st w := by
  intro hI p e s m args below meth c H locs ls X hP hS hL T hT Y
  obtain ⟨t, a, o, b1, b2, ⟨⟨r, w', c1, c2, c3⟩, c4⟩, b4⟩ := k hI p e s m args below meth c H locs ls X hP hS hL T hT Y
  exact ⟨t, a, o, b1, b2, ⟨⟨r, w', c1, h r w' c2, c3⟩, c4⟩, b4⟩
def sumN (n : Nat) (f : Nat → Nat) : Nat := match n with
  | 0 => 0
  | n + 1 => sumN n f + f n
def tp (n : Nat) (ld : Nat → Nat) : Nat → Nat → Nat → Nat
  | 0, i, j => if i = j then 1 else 0
  | k + 1, i, j => sumN n (fun b => if cov ld i b = true then tp n ld k b j else 0)
def zPw (w : zWd) (P s : Nat) (rw : Nat → Nat → Int64) : Prop := zIs w P (zOb 1 [.ref (P + 1), .int (nI s)]) ∧ (∃ f, zIs w (P + 1) (zRA 4 11 f) ∧ ∀ j, j < 11 → f j = some (P + 2 + j)) ∧ ∀ j, j < 11 → zIs w (P + 2 + j) (zLA 25 (rw j))
theorem zPw.row {w : zWd} {P s k : Nat} {rw : Nat → Nat → Int64} {g : Nat → Int64} (h : zPw w P s rw) (hk : k < 11) : zPw (va_up w (P + 2 + k) (zLA 25 g)) P s (fun j => if j = k then g else rw j) := by
  obtain ⟨h1, ⟨f, h2, h3⟩, h4⟩ := h
  refine ⟨h1.n (by omega), ⟨f, h2.n (by omega), h3⟩, fun j hj => ?_⟩
  by_cases e : j = k
  · subst e
    simp only [if_true]
    exact zIs.s (h4 j hj).1
  · simp only [e, if_false]
    exact (h4 j hj).n (by omega)
theorem zFo.n {w : zWd} {f g n a : Nat} {ld : Nat → Nat} {c : va_E} (h : zFo w f g n ld) (hf : f ≠ a) (hg : g ≠ a) : zFo (va_up w a c) f g n ld := by
  obtain ⟨led, q1, q2, q3⟩ := h
  exact ⟨led, q1.n hf, q2.n hg, q3⟩
theorem zFo.k {w w' : zWd} {f g n : Nat} {ld : Nat → Nat} (h : zFo w f g n ld) (hf : w' f = w f) (hg : w' g = w g) : zFo w' f g n ld := by
  obtain ⟨led, q1, q2, q3⟩ := h
  exact ⟨led, ⟨q1.1, hf.trans q1.2⟩, ⟨q2.1, hg.trans q2.2⟩, q3⟩
theorem zIs.k {w w' : zWd} {a : Nat} {c : va_E} (h : zIs w a c) (hf : w' a = w a) : zIs w' a c := ⟨h.1, hf.trans h.2⟩
theorem updL_s {f : Nat → Int64} {k : Nat} {x : Int64} : vp_updL f k x k = x := pk_uLs
theorem ix5 {i j : Nat} : nI i * 5 + nI j = nI (5 * i + j) := by
  rw [show (5 : Int32) = nI 5 from rfl, pk_mul, nI_add, Nat.mul_comm]
theorem o_between (E : zE) {w : zWd} {P s : Nat} {rw : Nat → Nat → Int64} (h : zPw w P s rw) {i j k : Nat} (hi : i < 5) (hj : j < 5) (hk : k < 11) : zOk E mX1_between 0 [.ref P, .int (nI i), .int (nI j), .int (nI k)] w (zR0 w (.long (rw k (5 * i + j)))) := by
  obtain ⟨h1, ⟨f, h2, h3⟩, h4⟩ := h
  refine zOk.of (by decide +kernel) (Nat.le_of_ble_eq_true rfl) ?_
  refine zV.run kX1_between 1 rfl ?_
  refine zV.gf kX1_between rfl fX1_11 (h1) rfl ?_
  refine zV.run kX1_between 1 rfl ?_
  refine zV.aalL kX1_between rfl (h2) (k) (rfl) (hk) (by decide) (h3 k hk) ?_
  refine zV.run kX1_between 5 rfl ?_
  refine zV.lal kX1_between rfl (h4 k hk) (5 * i + j) (ix5) (by omega) (by decide) ?_
  exact zV.lret kX1_between rfl rfl (⟨rfl, rfl⟩)
theorem o_multiply_3 (E : zE) {w : zWd} {P f g n k i j : Nat} {ld : Nat → Nat} {rw : Nat → Nat → Int64} {Post : Option Value → zWd → Prop} (hF : zFo w f g n ld) (hW : zPw w P n rw) (hi : i < n) (hj : j < n) (hk : k < 10) (hr : ∀ b, b < n → rw k (5 * b + j) = lN (tp n ld k b j))
    (kk : zV E mX1_multiply 2 Post 73 [.ref P, .ref f, .int (nI (k + 1)), .int (nI i), .int (nI j), .long (lN (tp n ld (k + 1) i j)), zU, .int (nI n)] [] w) :
    ∀ (r b : Nat), b + r = n → zV E mX1_multiply 2 Post 28 [.ref P, .ref f, .int (nI (k + 1)), .int (nI i), .int (nI j), .long (lN (sumN b (fun b => if cov ld i b = true then tp n ld k b j else 0))), zU, .int (nI b)] [] w := by
  obtain ⟨led, hf, hg, hl, h1, h5, hb⟩ := id hF
  obtain ⟨w1, ⟨F, w2, w3⟩, w4⟩ := id hW
  intro r
  induction r with
  | zero =>
    intro b hb2
    have e : b = n := by omega
    subst e
    refine zV.run kX1_multiply 2 rfl ?_
    refine zV.gf kX1_multiply rfl fX1_16 (w1) rfl ?_
    refine zV.ict kX1_multiply (cd := .ge) rfl (Int32.le_refl _) ?_
    exact kk
  | succ r ih =>
    intro b hb2
    refine zV.run kX1_multiply 2 rfl ?_
    refine zV.gf kX1_multiply rfl fX1_16 (w1) rfl ?_
    refine zV.icf kX1_multiply (cd := .ge) rfl (nI_ge (by omega) (by omega)) ?_
    refine zV.run kX1_multiply 4 rfl ?_
    refine zV.cv kX1_multiply rfl lX1_29 (o_leadsOver E hF hi (j := b) (by omega)) (by decide) rfl (hf) rfl rfl rfl (Nat.le_of_ble_eq_true rfl) ?_
    rintro _ _ ⟨rfl, rfl⟩
    refine zV.if2 kX1_multiply rfl (fun c => ?_) (fun c => ?_)
    · skip
      have c := zq_eq0.mp c
      refine zV.run kX1_multiply 5 rfl ?_
      rw [show (0 : Int64) = lN 0 from rfl, lN_add, nI_1]
      have e : sumN (b + 1) (fun b => if cov ld i b = true then tp n ld k b j else 0) = sumN b (fun b => if cov ld i b = true then tp n ld k b j else 0) + 0 := by
        show _ + (if cov ld i b = true then tp n ld k b j else 0) = _
        rw [if_neg c]
      rw [← e]
      exact ih (b + 1) (by omega)
    · skip
      have c := Decidable.not_not.mp (mt zq_eq0.mpr c)
      refine zV.run kX1_multiply 6 rfl ?_
      rw [show nI (k + 1) - 1 = nI k from nI_pred k]
      refine zV.cv kX1_multiply rfl lX1_33 (o_between E hW (i := b) (j := j) (k := k) (by omega) (by omega) (by omega)) (by decide) rfl (w1) rfl rfl rfl (Nat.le_of_ble_eq_true rfl) ?_
      rintro _ _ ⟨rfl, rfl⟩
      refine zV.run kX1_multiply 5 rfl ?_
      rw [hr b (by omega), lN_add, nI_1]
      have e : sumN (b + 1) (fun b => if cov ld i b = true then tp n ld k b j else 0) = sumN b (fun b => if cov ld i b = true then tp n ld k b j else 0) + tp n ld k b j := by
        show _ + (if cov ld i b = true then tp n ld k b j else 0) = _
        rw [if_pos c]
      rw [← e]
      exact ih (b + 1) (by omega)
theorem o_multiply_2 (E : zE) {w0 : zWd} {P f g n k i : Nat} {ld : Nat → Nat} {rw : Nat → Nat → Int64} {Post : Option Value → zWd → Prop} (hF : zFo w0 f g n ld) (hW : zPw w0 P n rw) (hfP : f < P) (hgP : g < P) (hi : i < n) (hk : k < 10) (hr : ∀ a b, a < n → b < n → rw k (5 * a + b) = lN (tp n ld k a b))
    (kk : ∀ (G : Nat → Int64), (∀ a b, a < i + 1 → b < n → G (5 * a + b) = lN (tp n ld (k + 1) a b)) → ∀ z4 z5 z6 z7 : Value, zV E mX1_multiply 2 Post 94 [.ref P, .ref f, .int (nI (k + 1)), .int (nI i), z4, z5, z6, z7] [] (va_up w0 (P + 2 + (k + 1)) (zLA 25 G))) :
    ∀ (r j : Nat) (G : Nat → Int64) (z5 z6 z7 : Value), j + r = n → (∀ a b, (a < i ∨ (a = i ∧ b < j)) → b < n → G (5 * a + b) = lN (tp n ld (k + 1) a b)) → zV E mX1_multiply 2 Post 13 [.ref P, .ref f, .int (nI (k + 1)), .int (nI i), .int (nI j), z5, z6, z7] [] (va_up w0 (P + 2 + (k + 1)) (zLA 25 G)) := by
  obtain ⟨led, hf, hg, hl, h1, h5, hb⟩ := id hF
  intro r
  induction r with
  | zero =>
    intro j G z5 z6 z7 hj hG
    obtain ⟨w1, ⟨F, w2, w3⟩, w4⟩ := id (hW.row (k := k + 1) (g := G) (by omega))
    have e : j = n := by omega
    subst e
    refine zV.run kX1_multiply 2 rfl ?_
    refine zV.gf kX1_multiply rfl fX1_16 (w1) rfl ?_
    refine zV.ict kX1_multiply (cd := .ge) rfl (Int32.le_refl _) ?_
    exact kk G (fun a b ha hb2 => hG a b (by omega) hb2) _ _ _ _
  | succ r ih =>
    intro j G z5 z6 z7 hj hG
    have hW2 := hW.row (k := k + 1) (g := G) (by omega)
    have hF2 : zFo (va_up w0 (P + 2 + (k + 1)) (zLA 25 G)) f g n ld := hF.n (by omega) (by omega)
    obtain ⟨w1, ⟨F, w2, w3⟩, w4⟩ := id hW2
    refine zV.run kX1_multiply 2 rfl ?_
    refine zV.gf kX1_multiply rfl fX1_16 (w1) rfl ?_
    refine zV.icf kX1_multiply (cd := .ge) rfl (nI_ge (by omega) (by omega)) ?_
    refine zV.run kX1_multiply 4 rfl ?_
    refine o_multiply_3 E hF2 hW2 hi (j := j) (by omega) hk (fun b hb2 => ?_) ?_ n 0 (by omega)
    · simp only [show ¬ k = k + 1 by omega, if_false]
      exact hr b j hb2 (by omega)
    · have w4k := w4 (k + 1) (by omega)
      simp only [if_true] at w4k
      refine zV.run kX1_multiply 1 rfl ?_
      refine zV.gf kX1_multiply rfl fX1_11 (w1) rfl ?_
      refine zV.run kX1_multiply 1 rfl ?_
      refine zV.aalL kX1_multiply rfl (w2) (k + 1) (rfl) (by omega) (by decide) (w3 _ (by omega)) ?_
      refine zV.run kX1_multiply 6 rfl ?_
      refine zV.las kX1_multiply rfl (w4k) (5 * i + j) (ix5) (by omega) (by decide) ?_
      refine zV.run kX1_multiply 2 rfl ?_
      rw [nI_1, bx_uu]
      refine ih (j + 1) (vp_updL G (5 * i + j) (lN (tp n ld (k + 1) i j))) _ _ _ (by omega) (fun a b hab hb2 => ?_)
      by_cases e : 5 * a + b = 5 * i + j
      · have ea : a = i := by omega
        have eb : b = j := by omega
        rw [ea, eb, pk_uLs]
      · rw [pk_uLn e]
        exact hG a b (by omega) hb2
theorem o_multiply_1 (E : zE) {w0 : zWd} {P f g n k : Nat} {ld : Nat → Nat} {rw : Nat → Nat → Int64} (hF : zFo w0 f g n ld) (hW : zPw w0 P n rw) (hfP : f < P) (hgP : g < P) (hk : k < 10) (hr : ∀ a b, a < n → b < n → rw k (5 * a + b) = lN (tp n ld k a b)) :
    ∀ (r i : Nat) (G : Nat → Int64) (z4 z5 z6 z7 : Value), i + r = n → (∀ a b, a < i → b < n → G (5 * a + b) = lN (tp n ld (k + 1) a b)) → zV E mX1_multiply 2 (fun r w' => r = none ∧ ∃ G, w' = va_up w0 (P + 2 + (k + 1)) (zLA 25 G) ∧ ∀ a b, a < n → b < n → G (5 * a + b) = lN (tp n ld (k + 1) a b)) 2 [.ref P, .ref f, .int (nI (k + 1)), .int (nI i), z4, z5, z6, z7] [] (va_up w0 (P + 2 + (k + 1)) (zLA 25 G)) := by
  obtain ⟨led, hf, hg, hl, h1, h5, hb⟩ := id hF
  intro r
  induction r with
  | zero =>
    intro i G z4 z5 z6 z7 hi hG
    obtain ⟨w1, -, -⟩ := id (hW.row (k := k + 1) (g := G) (by omega))
    have e : i = n := by omega
    subst e
    refine zV.run kX1_multiply 2 rfl ?_
    refine zV.gf kX1_multiply rfl fX1_16 (w1) rfl ?_
    refine zV.ict kX1_multiply (cd := .ge) rfl (Int32.le_refl _) ?_
    exact zV.vret kX1_multiply rfl rfl (⟨rfl, G, rfl, hG⟩)
  | succ r ih =>
    intro i G z4 z5 z6 z7 hi hG
    obtain ⟨w1, -, -⟩ := id (hW.row (k := k + 1) (g := G) (by omega))
    refine zV.run kX1_multiply 2 rfl ?_
    refine zV.gf kX1_multiply rfl fX1_16 (w1) rfl ?_
    refine zV.icf kX1_multiply (cd := .ge) rfl (nI_ge (by omega) (by omega)) ?_
    refine zV.run kX1_multiply 2 rfl ?_
    refine o_multiply_2 E hF hW hfP hgP (i := i) (by omega) hk hr (fun G2 hG2 y4 y5 y6 y7 => ?_) n 0 G _ _ _ (by omega) (fun a b hab hb2 => hG a b (by omega) hb2)
    refine zV.run kX1_multiply 2 rfl ?_
    rw [nI_1]
    exact ih (i + 1) G2 _ _ _ _ (by omega) hG2
theorem o_multiply (E : zE) {w : zWd} {P f g n k : Nat} {ld : Nat → Nat} {rw : Nat → Nat → Int64} (hF : zFo w f g n ld) (hW : zPw w P n rw) (hfP : f < P) (hgP : g < P) (hk : k < 10) (hr : ∀ a b, a < n → b < n → rw k (5 * a + b) = lN (tp n ld k a b)) : zOk E mX1_multiply 2 [.ref P, .ref f, .int (nI (k + 1))] w (fun r w' => r = none ∧ ∃ G, w' = va_up w (P + 2 + (k + 1)) (zLA 25 G) ∧ ∀ a b, a < n → b < n → G (5 * a + b) = lN (tp n ld (k + 1) a b)) := by
  have e : va_up w (P + 2 + (k + 1)) (zLA 25 (rw (k + 1))) = w := by
    funext a
    by_cases q : a = P + 2 + (k + 1)
    · rw [q]; simp [va_up, (hW.2.2 (k + 1) (by omega)).2]
    · exact zup_ne q
  refine zOk.of (by decide +kernel) (Nat.le_of_ble_eq_true rfl) ?_
  refine zV.run kX1_multiply 2 rfl ?_
  have K := o_multiply_1 E hF hW hfP hgP hk hr n 0 (rw (k + 1)) zU zU zU zU (by omega) (fun a b ha => by omega)
  rw [e] at K
  exact K
theorem zsame {w : zWd} {a : Nat} {c : va_E} (h : zIs w a c) : va_up w a c = w := by
  funext b
  by_cases q : b = a
  · rw [q]; simp [va_up, h.2]
  · exact zup_ne q
theorem o_raise_3 (E : zE) {w0 : zWd} {P f g n mo : Nat} {ld : Nat → Nat} (hF0 : zFo w0 f g n ld) (hfP : f < P) (hgP : g < P) (hmo : mo ≤ 10) :
    ∀ (r k : Nat) (w : zWd) (rw : Nat → Nat → Int64) (z4 : Value), k + r = mo → zPw w P n rw → (∀ a, (a < P ∨ P + 13 ≤ a) → w a = w0 a) → (∀ q a b, q ≤ k → a < n → b < n → rw q (5 * a + b) = lN (tp n ld q a b)) → zV E mX1_raise 3 (fun r w' => r = none ∧ (∀ a, (a < P ∨ P + 13 ≤ a) → w' a = w0 a) ∧ ∃ rw, zPw w' P n rw ∧ ∀ q a b, q ≤ mo → a < n → b < n → rw q (5 * a + b) = lN (tp n ld q a b)) 68 [.ref P, .ref f, .int (nI mo), .int (nI (k + 1)), z4] [] w := by
  intro r
  induction r with
  | zero =>
    intro k w rw z4 hk hW hw hr
    have e : k = mo := by omega
    subst e
    refine zV.run kX1_raise 2 rfl ?_
    refine zV.ict kX1_raise (cd := .gt) rfl (nI_lt (by omega) (by omega)) ?_
    exact zV.vret kX1_raise rfl rfl (⟨rfl, hw, rw, hW, hr⟩)
  | succ r ih =>
    intro k w rw z4 hk hW hw hr
    have hF : zFo w f g n ld := hF0.k (hw f (by omega)) (hw g (by omega))
    refine zV.run kX1_raise 2 rfl ?_
    refine zV.icf kX1_raise (cd := .gt) rfl (nI_nlt (by omega) (by omega)) ?_
    refine zV.run kX1_raise 2 rfl ?_
    refine zV.icf kX1_raise (cd := .gt) rfl (fun q => absurd ((nI_ltI (a := 10) (b := k + 1) (by omega) (by omega)).mp q) (by omega)) ?_
    refine zV.run kX1_raise 3 rfl ?_
    refine zV.cv kX1_raise rfl lX1_25 (o_multiply E hF hW hfP hgP (k := k) (by omega) (fun a b => hr k a b (Nat.le_refl k))) (by decide) rfl (hW.1) rfl rfl rfl (Nat.le_of_ble_eq_true rfl) ?_
    rintro _ w9 ⟨rfl, G, e9, hG⟩
    refine zV.run kX1_raise 2 rfl ?_
    rw [nI_1]
    refine ih (k + 1) w9 (fun j => if j = k + 1 then G else rw j) _ (by omega) (by rw [e9]; exact hW.row (by omega)) (fun a ha => by rw [e9, zup_ne (by omega)]; exact hw a ha) (fun q a b hq ha hb => ?_)
    by_cases e : q = k + 1
    · simp only [e, if_true]; exact hG a b ha hb
    · simp only [e, if_false]; exact hr q a b (by omega) ha hb
theorem o_raise_2 (E : zE) {w0 : zWd} {P n i : Nat} {mo : Nat} {f : Nat} {rw : Nat → Nat → Int64} {Post : Option Value → zWd → Prop} (hW : zPw w0 P n rw) (hi : i < n) (hn : n ≤ 5)
    (kk : ∀ (G : Nat → Int64), (∀ a b, a < i + 1 → b < n → G (5 * a + b) = lN (if a = b then 1 else 0)) → ∀ z4 : Value, zV E mX1_raise 3 Post 60 [.ref P, .ref f, .int (nI mo), .int (nI i), z4] [] (va_up w0 (P + 2 + 0) (zLA 25 G))) :
    ∀ (r j : Nat) (G : Nat → Int64), j + r = n → (∀ a b, (a < i ∨ (a = i ∧ b < j)) → b < n → G (5 * a + b) = lN (if a = b then 1 else 0)) → zV E mX1_raise 3 Post 21 [.ref P, .ref f, .int (nI mo), .int (nI i), .int (nI j)] [] (va_up w0 (P + 2 + 0) (zLA 25 G)) := by
  intro r
  induction r with
  | zero =>
    intro j G hj hG
    obtain ⟨w1, ⟨F, w2, w3⟩, w4⟩ := id (hW.row (k := 0) (g := G) (by omega))
    have e : j = n := by omega
    subst e
    refine zV.run kX1_raise 2 rfl ?_
    refine zV.gf kX1_raise rfl fX1_16 (w1) rfl ?_
    refine zV.ict kX1_raise (cd := .ge) rfl (Int32.le_refl _) ?_
    exact kk G (fun a b ha hb2 => hG a b (by omega) hb2) _
  | succ r ih =>
    intro j G hj hG
    obtain ⟨w1, ⟨F, w2, w3⟩, w4⟩ := id (hW.row (k := 0) (g := G) (by omega))
    have w4k := w4 0 (by omega)
    simp only [if_true] at w4k
    refine zV.run kX1_raise 2 rfl ?_
    refine zV.gf kX1_raise rfl fX1_16 (w1) rfl ?_
    refine zV.icf kX1_raise (cd := .ge) rfl (nI_ge (by omega) (by omega)) ?_
    refine zV.run kX1_raise 1 rfl ?_
    refine zV.gf kX1_raise rfl fX1_11 (w1) rfl ?_
    refine zV.run kX1_raise 1 rfl ?_
    refine zV.aalL kX1_raise rfl (w2) (0) (rfl) (by omega) (by decide) (w3 _ (by omega)) ?_
    have hx : ∀ x : Int64, x = lN (if i = j then 1 else 0) → zV E mX1_raise 3 Post 21 [.ref P, .ref f, .int (nI mo), .int (nI i), .int (nI (j + 1))] [] (va_up w0 (P + 2 + 0) (zLA 25 (vp_updL G (5 * i + j) x))) := by
      intro x ex
      refine ih (j + 1) _ (by omega) (fun a b hab hb2 => ?_)
      by_cases e : 5 * a + b = 5 * i + j
      · have ea : a = i := by omega
        have eb : b = j := by omega
        rw [ea, eb, pk_uLs, ex]
      · rw [pk_uLn e]
        exact hG a b (by omega) hb2
    refine zV.run kX1_raise 7 rfl ?_
    refine zV.ic2 kX1_raise rfl (fun c => ?_) (fun c => ?_)
    · skip
      have c := mt (nI_eq (a := i) (b := j) (by omega) (by omega)).mpr c
      refine zV.run kX1_raise 1 rfl ?_
      refine zV.las kX1_raise rfl (w4k) (5 * i + j) (ix5) (by omega) (by decide) ?_
      refine zV.run kX1_raise 2 rfl ?_
      rw [nI_1, bx_uu]
      exact hx 0 (by rw [if_neg c]; rfl)
    · skip
      have c := (nI_eq (by omega) (by omega)).mp (Decidable.not_not.mp c)
      refine zV.run kX1_raise 2 rfl ?_
      refine zV.las kX1_raise rfl (w4k) (5 * i + j) (ix5) (by omega) (by decide) ?_
      refine zV.run kX1_raise 2 rfl ?_
      rw [nI_1, bx_uu]
      exact hx 1 (by rw [if_pos c]; rfl)
theorem o_raise_1 (E : zE) {w0 : zWd} {P f g n mo : Nat} {ld : Nat → Nat} {rw : Nat → Nat → Int64} (hF : zFo w0 f g n ld) (hW : zPw w0 P n rw) (hfP : f < P) (hgP : g < P) (hmo : mo ≤ 10) :
    ∀ (r i : Nat) (G : Nat → Int64) (z4 : Value), i + r = n → (∀ a b, a < i → b < n → G (5 * a + b) = lN (if a = b then 1 else 0)) → zV E mX1_raise 3 (fun r w' => r = none ∧ (∀ a, (a < P ∨ P + 13 ≤ a) → w' a = w0 a) ∧ ∃ rw, zPw w' P n rw ∧ ∀ q a b, q ≤ mo → a < n → b < n → rw q (5 * a + b) = lN (tp n ld q a b)) 10 [.ref P, .ref f, .int (nI mo), .int (nI i), z4] [] (va_up w0 (P + 2 + 0) (zLA 25 G)) := by
  obtain ⟨led, hf, hg, hl, h1, h5, hb⟩ := id hF
  intro r
  induction r with
  | zero =>
    intro i G z4 hi hG
    have hW2 := hW.row (k := 0) (g := G) (by omega)
    have e : i = n := by omega
    subst e
    refine zV.run kX1_raise 2 rfl ?_
    refine zV.gf kX1_raise rfl fX1_16 (hW2.1) rfl ?_
    refine zV.ict kX1_raise (cd := .ge) rfl (Int32.le_refl _) ?_
    refine zV.run kX1_raise 2 rfl ?_
    refine o_raise_3 E hF hfP hgP hmo mo 0 _ _ _ (by omega) hW2 (fun a ha => zup_ne (by omega)) (fun q a b hq ha hb2 => ?_)
    have e : q = 0 := by omega
    subst e
    simp only [if_true]
    exact hG a b ha hb2
  | succ r ih =>
    intro i G z4 hi hG
    have hW2 := hW.row (k := 0) (g := G) (by omega)
    refine zV.run kX1_raise 2 rfl ?_
    refine zV.gf kX1_raise rfl fX1_16 (hW2.1) rfl ?_
    refine zV.icf kX1_raise (cd := .ge) rfl (nI_ge (by omega) (by omega)) ?_
    refine zV.run kX1_raise 2 rfl ?_
    refine o_raise_2 E hW (i := i) (by omega) h5 (fun G2 hG2 y4 => ?_) n 0 G (by omega) (fun a b hab hb2 => hG a b (by omega) hb2)
    refine zV.run kX1_raise 2 rfl ?_
    rw [nI_1]
    exact ih (i + 1) G2 _ (by omega) hG2
theorem o_raise (E : zE) {w : zWd} {P f g n mo s : Nat} {ld : Nat → Nat} {rw : Nat → Nat → Int64} (hF : zFo w f g n ld) (hW : zPw w P s rw) (hfP : f < P) (hgP : g < P) (hmo : mo ≤ 10) : zOk E mX1_raise 3 [.ref P, .ref f, .int (nI mo)] w (fun r w' => r = none ∧ (∀ a, (a < P ∨ P + 13 ≤ a) → w' a = w a) ∧ ∃ rw, zPw w' P n rw ∧ ∀ q a b, q ≤ mo → a < n → b < n → rw q (5 * a + b) = lN (tp n ld q a b)) := by
  obtain ⟨led, hf, hg, hl, h1, h5, hb⟩ := id hF
  obtain ⟨w1, ⟨F, w2, w3⟩, w4⟩ := id hW
  refine zOk.of (by decide +kernel) (Nat.le_of_ble_eq_true rfl) ?_
  refine zV.run kX1_raise 2 rfl ?_
  refine zV.gf kX1_raise rfl fX1_20 (hf) rfl ?_
  refine zV.pfi kX1_raise rfl pX1_16 (w1) (Nat.le_of_ble_eq_true rfl) ?_
  refine zV.run kX1_raise 2 rfl ?_
  have hW2 : zPw (va_up w P (zOb 1 [.ref (P + 1), .int (nI n)])) P n rw := ⟨zIs.s w1.1, ⟨F, w2.n (by omega), w3⟩, fun j hj => (w4 j hj).n (by omega)⟩
  have K := o_raise_1 E (hF.n (a := P) (c := zOb 1 [.ref (P + 1), .int (nI n)]) (by omega) (by omega)) hW2 hfP hgP hmo n 0 (rw 0) zU (by omega) (fun a b ha => by omega)
  rw [zsame (hW2.2.2 0 (by omega))] at K
  refine zV.mono (fun r w' hp => ⟨hp.1, fun a ha => ?_, hp.2.2⟩) K
  rw [hp.2.1 a ha, zup_ne (by omega)]
theorem o_sumJ (E : zE) {w : zWd} {P n k i : Nat} {rw : Nat → Nat → Int64} {t : Nat → Nat → Nat} {Post : Option Value → zWd → Prop} (hW : zPw w P n rw) (hn : n ≤ 5) (hk : k < 11) (hi : i < n) (hr : ∀ a b, a < n → b < n → rw k (5 * a + b) = lN (t a b)) (s : Nat)
    (kk : zV E mX1_sum 1 Post 44 [.ref P, .int (nI k), .long (lN (s + sumN n (t i))), zU, .int (nI i), .int (nI n)] [] w) :
    ∀ (r j : Nat), j + r = n → zV E mX1_sum 1 Post 17 [.ref P, .int (nI k), .long (lN (s + sumN j (t i))), zU, .int (nI i), .int (nI j)] [] w := by
  intro r
  induction r with
  | zero =>
    intro j hj
    have e : j = n := by omega
    subst e
    refine zV.run kX1_sum 2 rfl ?_
    refine zV.gf kX1_sum rfl fX1_16 (hW.1) rfl ?_
    refine zV.ict kX1_sum (cd := .ge) rfl (Int32.le_refl _) ?_
    exact kk
  | succ r ih =>
    intro j hj
    refine zV.run kX1_sum 2 rfl ?_
    refine zV.gf kX1_sum rfl fX1_16 (hW.1) rfl ?_
    refine zV.icf kX1_sum (cd := .ge) rfl (nI_ge (by omega) (by omega)) ?_
    refine zV.run kX1_sum 5 rfl ?_
    refine zV.cv kX1_sum rfl lX1_33 (o_between E hW (i := i) (j := j) (k := k) (by omega) (by omega) hk) (by decide) rfl (hW.1) rfl rfl rfl (Nat.le_of_ble_eq_true rfl) ?_
    rintro _ _ ⟨rfl, rfl⟩
    refine zV.run kX1_sum 4 rfl ?_
    rw [hr i j hi (by omega), lN_add, nI_1, Nat.add_assoc]
    exact ih (j + 1) (by omega)
theorem o_sumI (E : zE) {w : zWd} {P n k : Nat} {rw : Nat → Nat → Int64} {t : Nat → Nat → Nat} (hW : zPw w P n rw) (hn : n ≤ 5) (hk : k < 11) (hr : ∀ a b, a < n → b < n → rw k (5 * a + b) = lN (t a b)) :
    ∀ (r i : Nat) (z5 : Value), i + r = n → zV E mX1_sum 1 (zR0 w (.long (lN (sumN n (fun i => sumN n (t i)))))) 5 [.ref P, .int (nI k), .long (lN (sumN i (fun i => sumN n (t i)))), zU, .int (nI i), z5] [] w := by
  intro r
  induction r with
  | zero =>
    intro i z5 hi
    have e : i = n := by omega
    subst e
    refine zV.run kX1_sum 2 rfl ?_
    refine zV.gf kX1_sum rfl fX1_16 (hW.1) rfl ?_
    refine zV.ict kX1_sum (cd := .ge) rfl (Int32.le_refl _) ?_
    refine zV.run kX1_sum 1 rfl ?_
    exact zV.lret kX1_sum rfl rfl (⟨rfl, rfl⟩)
  | succ r ih =>
    intro i z5 hi
    refine zV.run kX1_sum 2 rfl ?_
    refine zV.gf kX1_sum rfl fX1_16 (hW.1) rfl ?_
    refine zV.icf kX1_sum (cd := .ge) rfl (nI_ge (by omega) (by omega)) ?_
    refine zV.run kX1_sum 2 rfl ?_
    refine o_sumJ E hW hn hk (i := i) (by omega) hr (sumN i (fun i => sumN n (t i))) ?_ n 0 (by omega)
    refine zV.run kX1_sum 2 rfl ?_
    rw [nI_1]
    exact ih (i + 1) _ (by omega)
theorem o_sum (E : zE) {w : zWd} {P n k : Nat} {rw : Nat → Nat → Int64} {t : Nat → Nat → Nat} (hW : zPw w P n rw) (hn : n ≤ 5) (hk : k < 11) (hr : ∀ a b, a < n → b < n → rw k (5 * a + b) = lN (t a b)) : zOk E mX1_sum 1 [.ref P, .int (nI k)] w (zR0 w (.long (lN (sumN n (fun i => sumN n (t i)))))) := by
  refine zOk.of (by decide +kernel) (Nat.le_of_ble_eq_true rfl) ?_
  refine zV.run kX1_sum 4 rfl ?_
  exact o_sumI E hW hn hk hr n 0 _ (by omega)
theorem o_closed_l (E : zE) {w : zWd} {P n k : Nat} {rw : Nat → Nat → Int64} {t : Nat → Nat → Nat} (hW : zPw w P n rw) (hn : n ≤ 5) (hk : k < 11) (hr : ∀ a b, a < n → b < n → rw k (5 * a + b) = lN (t a b)) :
    ∀ (r i : Nat), i + r = n → zV E mX1_closed 1 (zR0 w (.long (lN (sumN n (fun i => t i i))))) 5 [.ref P, .int (nI k), .long (lN (sumN i (fun i => t i i))), zU, .int (nI i)] [] w := by
  intro r
  induction r with
  | zero =>
    intro i hi
    have e : i = n := by omega
    subst e
    refine zV.run kX1_closed 2 rfl ?_
    refine zV.gf kX1_closed rfl fX1_16 (hW.1) rfl ?_
    refine zV.ict kX1_closed (cd := .ge) rfl (Int32.le_refl _) ?_
    refine zV.run kX1_closed 1 rfl ?_
    exact zV.lret kX1_closed rfl rfl (⟨rfl, rfl⟩)
  | succ r ih =>
    intro i hi
    refine zV.run kX1_closed 2 rfl ?_
    refine zV.gf kX1_closed rfl fX1_16 (hW.1) rfl ?_
    refine zV.icf kX1_closed (cd := .ge) rfl (nI_ge (by omega) (by omega)) ?_
    refine zV.run kX1_closed 5 rfl ?_
    refine zV.cv kX1_closed rfl lX1_33 (o_between E hW (i := i) (j := i) (k := k) (by omega) (by omega) hk) (by decide) rfl (hW.1) rfl rfl rfl (Nat.le_of_ble_eq_true rfl) ?_
    rintro _ _ ⟨rfl, rfl⟩
    refine zV.run kX1_closed 4 rfl ?_
    rw [hr i i (by omega) (by omega), lN_add, nI_1]
    exact ih (i + 1) (by omega)
theorem o_closed (E : zE) {w : zWd} {P n k : Nat} {rw : Nat → Nat → Int64} {t : Nat → Nat → Nat} (hW : zPw w P n rw) (hn : n ≤ 5) (hk : k < 11) (hr : ∀ a b, a < n → b < n → rw k (5 * a + b) = lN (t a b)) : zOk E mX1_closed 1 [.ref P, .int (nI k)] w (zR0 w (.long (lN (sumN n (fun i => t i i))))) := by
  refine zOk.of (by decide +kernel) (Nat.le_of_ble_eq_true rfl) ?_
  refine zV.run kX1_closed 4 rfl ?_
  exact o_closed_l E hW hn hk hr n 0 (by omega)
