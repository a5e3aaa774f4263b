/-! ===== Fold: what changes a map ===== -/
theorem zIs.s {w : zWd} {a : Nat} {c : va_E} (h : a < 61) : zIs (va_up w a c) a c := ⟨h, by simp [va_up]⟩
theorem zIs.n {w : zWd} {a b : Nat} {c c' : va_E} (h : zIs w b c) (hn : b ≠ a) : zIs (va_up w a c') b c := ⟨h.1, by simp [va_up, hn, h.2]⟩
theorem zup_ne {w : zWd} {a b : Nat} {c : va_E} (hn : b ≠ a) : va_up w a c b = w b := by simp [va_up, hn]
theorem zIs.u {w : zWd} {a : Nat} {c c' : va_E} (h : zIs w a c) (h' : zIs w a c') : c = c' := h.2.symm.trans h'.2
theorem upd_s {f : Nat → Int32} {k : Nat} {x : Int32} : upd f k x k = x := pk_us
theorem o_flatten_l (E : zE) {w0 : zWd} {f g n : Nat} (hn1 : 1 ≤ n) (hn5 : n ≤ 5) (hfg : f ≠ g) : ∀ (r j : Nat) (w : zWd) (led : Nat → Int32), j + r = 6 → zIs w f (zOb 0 [.int (nI n), .ref g]) → zIs w g (zIA 6 led) → (∀ i, i < j → led i = 0) → (∀ a, a ≠ f → a ≠ g → w a = w0 a) → zV E mX0_flatten 0 (fun r w' => r = none ∧ zFo w' f g n (fun _ => 0) ∧ ∀ a, a ≠ f → a ≠ g → w' a = w0 a) 7 [.ref f, .int (nI n), .int (nI j)] [] w := by
  intro r
  induction r with
  | zero =>
    intro j w led hj hf hg hl hw
    have e : j = 6 := by omega
    subst e
    refine zV.run kX0_flatten 2 rfl ?_
    refine zV.ict kX0_flatten (cd := .gt) rfl (show (5 : Int32) < nI 6 by decide) ?_
    exact zV.vret kX0_flatten rfl rfl (⟨rfl, ⟨led, hf, hg, fun i hi => hl i (by omega), hn1, hn5, fun _ _ => Nat.zero_le _⟩, hw⟩)
  | succ r ih =>
    intro j w led hj hf hg hl hw
    refine zV.run kX0_flatten 2 rfl ?_
    refine zV.icf kX0_flatten (cd := .gt) rfl (fun q => absurd ((nI_ltI (a := 5) (b := j) (by omega) (by omega)).mp q) (by omega)) ?_
    refine zV.run kX0_flatten 1 rfl ?_
    refine zV.gf kX0_flatten rfl fX0_15 (hf) rfl ?_
    refine zV.run kX0_flatten 2 rfl ?_
    refine zV.ias kX0_flatten rfl (hg) (j) (rfl) (by omega) (by decide) ?_
    refine zV.run kX0_flatten 2 rfl ?_
    rw [nI_1]
    refine ih (j + 1) _ (upd led j 0) (by omega) (hf.n hfg) (zIs.s hg.1) (fun i hi => ?_) (fun a h1 h2 => by rw [zup_ne h2]; exact hw a h1 h2)
    by_cases e : i = j
    · rw [e]; exact pk_us
    · rw [pk_un e]; exact hl i (by omega)
theorem o_flatten (E : zE) {w : zWd} {f g n n0 : Nat} {ld : Nat → Nat} (h : zFo w f g n0 ld) (hfg : f ≠ g) (hn1 : 1 ≤ n) (hn5 : n ≤ 5) : zOk E mX0_flatten 0 [.ref f, .int (nI n)] w (fun r w' => r = none ∧ zFo w' f g n (fun _ => 0) ∧ ∀ a, a ≠ f → a ≠ g → w' a = w a) := by
  obtain ⟨led, hf, hg, hl, h1, h5, hb⟩ := h
  refine zOk.of (by decide +kernel) (Nat.le_of_ble_eq_true rfl) ?_
  refine zV.run kX0_flatten 2 rfl ?_
  refine zV.pfi kX0_flatten rfl pX0_9 (hf) (Nat.le_of_ble_eq_true rfl) ?_
  refine zV.run kX0_flatten 2 rfl ?_
  exact o_flatten_l E hn1 hn5 hfg 6 0 _ led (by omega) (zIs.s hf.1) (hg.n (Ne.symm hfg)) (fun i hi => by omega) (fun a h1 h2 => zup_ne h1)
theorem o_become_l (E : zE) {w0 : zWd} {f g f' g' n : Nat} {ledo : Nat → Int32} (Post : Option Value → zWd → Prop) (hfg : f ≠ g) (hfg2 : f' ≠ g) (hf2 : zIs w0 f' (zOb 0 [.int (nI n), .ref g'])) (hP : ∀ w led, zIs w f (zOb 0 [.int (nI n), .ref g]) → zIs w g (zIA 6 led) → (∀ i, i < 6 → led i = ledo i) → (∀ a, a ≠ f → a ≠ g → w a = w0 a) → Post none w) : ∀ (r j : Nat) (w : zWd) (led ledx : Nat → Int32), j + r = 6 → zIs w f (zOb 0 [.int (nI n), .ref g]) → (∃ z, zIs w f' (zOb 0 [z, .ref g'])) → zIs w g (zIA 6 led) → zIs w g' (zIA 6 ledx) → (∀ i, i < j → led i = ledo i) → (∀ i, j ≤ i → ledx i = ledo i) → (∀ a, a ≠ f → a ≠ g → w a = w0 a) → zV E mX0_become 0 Post 10 [.ref f, .ref f', .int (nI j)] [] w := by
  intro r
  induction r with
  | zero =>
    intro j w led ledx hj hf hf' hg hg' hl hlx hw
    have e : j = 6 := by omega
    subst e
    refine zV.run kX0_become 2 rfl ?_
    refine zV.ict kX0_become (cd := .gt) rfl (show (5 : Int32) < nI 6 by decide) ?_
    exact zV.vret kX0_become rfl rfl (hP w led hf hg hl hw)
  | succ r ih =>
    intro j w led ledx hj hf hf' hg hg' hl hlx hw
    obtain ⟨z, hf'⟩ := hf'
    refine zV.run kX0_become 2 rfl ?_
    refine zV.icf kX0_become (cd := .gt) rfl (fun q => absurd ((nI_ltI (a := 5) (b := j) (by omega) (by omega)).mp q) (by omega)) ?_
    refine zV.run kX0_become 1 rfl ?_
    refine zV.gf kX0_become rfl fX0_15 (hf) rfl ?_
    refine zV.run kX0_become 2 rfl ?_
    refine zV.gf kX0_become rfl fX0_15 (hf') rfl ?_
    refine zV.run kX0_become 1 rfl ?_
    refine zV.ial kX0_become rfl (hg') (j) (rfl) (by omega) (by decide) ?_
    refine zV.ias kX0_become rfl (hg) (j) (rfl) (by omega) (by decide) ?_
    refine zV.run kX0_become 2 rfl ?_
    rw [nI_1, hlx j (Nat.le_refl _)]
    have hl2 : ∀ i, i < j + 1 → upd led j (ledo j) i = ledo i := fun i hi => by
      by_cases e : i = j
      · rw [e]; exact pk_us
      · rw [pk_un e]; exact hl i (by omega)
    by_cases e : g' = g
    · subst e
      have e2 : led = ledx := by have := hg.u hg'; simpa using this
      subst e2
      exact ih (j + 1) _ (upd led j (ledo j)) (upd led j (ledo j)) (by omega) (hf.n hfg) ⟨z, hf'.n hfg2⟩ (zIs.s hg.1) (zIs.s hg.1) hl2 (fun i hi => by rw [pk_un (by omega)]; exact hlx i (by omega)) (fun a h1 h2 => by rw [zup_ne h2]; exact hw a h1 h2)
    · exact ih (j + 1) _ (upd led j (ledo j)) ledx (by omega) (hf.n hfg) ⟨z, hf'.n hfg2⟩ (zIs.s hg.1) (hg'.n e) hl2 (fun i hi => hlx i (by omega)) (fun a h1 h2 => by rw [zup_ne h2]; exact hw a h1 h2)
theorem o_become (E : zE) {w : zWd} {f g n0 f' g' n : Nat} {ld0 ld : Nat → Nat} (h0 : zFo w f g n0 ld0) (h : zFo w f' g' n ld) (hfg : f ≠ g) (hfg2 : f' ≠ g) (hfg3 : f ≠ g') : zOk E mX0_become 0 [.ref f, .ref f'] w (fun r w' => r = none ∧ zFo w' f g n ld ∧ ∀ a, a ≠ f → a ≠ g → w' a = w a) := by
  obtain ⟨led0, hf0, hg0, -, -, -, -⟩ := h0
  obtain ⟨led, hf, hg, hl, h1, h5, hb⟩ := h
  refine zOk.of (by decide +kernel) (Nat.le_of_ble_eq_true rfl) ?_
  refine zV.run kX0_become 2 rfl ?_
  refine zV.gf kX0_become rfl fX0_9 (hf) rfl ?_
  refine zV.pfi kX0_become rfl pX0_9 (hf0) (Nat.le_of_ble_eq_true rfl) ?_
  refine zV.run kX0_become 2 rfl ?_
  refine o_become_l E (ledo := led) _ hfg hfg2 hf (fun w led1 q1 q2 q3 q4 => ⟨rfl, ⟨led1, q1, q2, fun i hi => by rw [q3 i (by omega)]; exact hl i hi, h1, h5, hb⟩, q4⟩) 6 0 _ led0 led (by omega) (zIs.s hf0.1) ?_ (hg0.n (Ne.symm hfg)) (hg.n (Ne.symm hfg3)) (fun i hi => by omega) (fun i _ => rfl) (fun a q1 q2 => zup_ne q1)
  by_cases e : f' = f
  · subst e
    have e3 := hf0.u hf
    simp at e3
    rw [← e3.2]
    exact ⟨_, zIs.s hf0.1⟩
  · exact ⟨_, hf.n e⟩
theorem o_turned_l (E : zE) {w0 : zWd} {f g f' g' n : Nat} {ld : Nat → Nat} (h1 : 1 ≤ n) (h5 : n ≤ 5) (hb : ∀ i, i ≤ n → ld i ≤ n) (hfg : f ≠ g) (hfg2 : f' ≠ g) : ∀ (r j : Nat) (w : zWd) (led ledx : Nat → Int32) (z4 z5 z6 : Int32), j + r = n + 1 → (∃ z, zIs w f (zOb 0 [z, .ref g])) → (∃ z, zIs w f' (zOb 0 [z, .ref g'])) → zIs w g (zIA 6 led) → zIs w g' (zIA 6 ledx) → (∀ i, i ≤ n → (i < j ∨ n < i + j) → led i = nI (n - ld (n - i))) → (∀ i, j ≤ i → i + j ≤ n → ledx i = nI (ld i)) → (∀ a, a ≠ f → a ≠ g → w a = w0 a) → ∀ L, (L = [.ref f, .ref f', .int (nI n), .int (nI j), .int z4, .int z5, .int z6] ∨ (j = 0 ∧ L = [.ref f, .ref f', .int (nI n), .int (nI j), zU, zU, zU])) → zV E mX0_becomeTurned 0 (fun r w' => r = none ∧ zFo w' f g n (fun i => n - ld (n - i)) ∧ ∀ a, a ≠ f → a ≠ g → w' a = w0 a) 7 L [] w := by
  intro r
  induction r with
  | zero =>
    intro j w led ledx z4 z5 z6 hj hf hf' hg hg' hl hlx hw L hL
    obtain ⟨z, hf⟩ := hf
    rcases hL with rfl | ⟨q, -⟩
    · skip
      refine zV.run kX0_becomeTurned 4 rfl ?_
      have c9 : zIc .gt (nI j) (nI n - nI j) := by
        show nI n - nI j < nI j
        rw [nI_iI, nI_iI, iI_sub, iI_lt (by omega) (by omega) (by omega) (by omega)]
        omega
      refine zV.ict kX0_becomeTurned (cd := .gt) rfl (c9) ?_
      refine zV.run kX0_becomeTurned 2 rfl ?_
      refine zV.pfi kX0_becomeTurned rfl pX0_9 (hf) (Nat.le_of_ble_eq_true rfl) ?_
      exact zV.vret kX0_becomeTurned rfl rfl (⟨rfl, ⟨led, zIs.s hf.1, hg.n (Ne.symm hfg), fun i hi => hl i hi (by omega), h1, h5, fun i hi => Nat.sub_le _ _⟩, fun a q1 q2 => by rw [zup_ne q1]; exact hw a q1 q2⟩)
    · omega
  | succ r ih =>
    intro j w led ledx z4 z5 z6 hj hf hf' hg hg' hl hlx hw L hL
    have hfe := hf
    have hfe' := hf'
    obtain ⟨z, hf⟩ := hf
    obtain ⟨z', hf'⟩ := hf'
    by_cases hjn : j ≤ n - j
    · have c9 : ¬ zIc .gt (nI j) (nI n - nI j) := by
        show ¬ nI n - nI j < nI j
        rw [nI_iI, nI_iI, iI_sub, iI_lt (by omega) (by omega) (by omega) (by omega)]
        omega
      have e9 : nI n - nI j = nI (n - j) := pk_sub (by omega)
      have x1 := hlx (n - j) (by omega) (by omega)
      have x2 := hlx j (by omega) (by omega)
      have y1 : nI n - nI (ld (n - j)) = nI (n - ld (n - j)) := pk_sub (hb _ (by omega))
      have y2 : nI n - nI (ld j) = nI (n - ld j) := pk_sub (hb _ (by omega))
      have key : zV E mX0_becomeTurned 0 (fun r w' => r = none ∧ zFo w' f g n (fun i => n - ld (n - i)) ∧ ∀ a, a ≠ f → a ≠ g → w' a = w0 a) 7 [.ref f, .ref f', .int (nI n), .int (nI (j + 1)), .int (nI (n - j)), .int (nI (n - ld (n - j))), .int (nI (n - ld j))] [] (va_up (va_up w g (zIA 6 (upd led j (nI (n - ld (n - j)))))) g (zIA 6 (upd (upd led j (nI (n - ld (n - j)))) (n - j) (nI (n - ld j))))) := by
        have hl2 : ∀ i, i ≤ n → (i < j + 1 ∨ n < i + (j + 1)) → upd (upd led j (nI (n - ld (n - j)))) (n - j) (nI (n - ld j)) i = nI (n - ld (n - i)) := fun i hi hc => by
          by_cases q1 : i = n - j
          · rw [q1, pk_us, show n - (n - j) = j by omega]
          · rw [pk_un q1]
            by_cases q2 : i = j
            · rw [q2, pk_us]
            · rw [pk_un q2]; exact hl i hi (by omega)
        have hw2 : ∀ a, a ≠ f → a ≠ g → va_up (va_up w g (zIA 6 (upd led j (nI (n - ld (n - j)))))) g (zIA 6 (upd (upd led j (nI (n - ld (n - j)))) (n - j) (nI (n - ld j)))) a = w0 a := fun a q1 q2 => by rw [zup_ne q2, zup_ne q2]; exact hw a q1 q2
        by_cases e : g' = g
        · subst e
          have e2 : led = ledx := by have := hg.u hg'; simpa using this
          subst e2
          refine ih (j + 1) _ _ _ _ _ _ (by omega) ⟨z, (hf.n hfg).n hfg⟩ ⟨z', (hf'.n hfg2).n hfg2⟩ (zIs.s hg.1) (zIs.s hg.1) hl2 (fun i q1 q2 => ?_) hw2 _ (Or.inl rfl)
          rw [pk_un (by omega), pk_un (by omega)]
          exact hlx i (by omega) (by omega)
        · exact ih (j + 1) _ _ ledx _ _ _ (by omega) ⟨z, (hf.n hfg).n hfg⟩ ⟨z', (hf'.n hfg2).n hfg2⟩ (zIs.s hg.1) ((hg'.n e).n e) hl2 (fun i q1 q2 => hlx i (by omega) (by omega)) hw2 _ (Or.inl rfl)
      have hg1 : ∀ x, zIs (va_up w g (zIA 6 (upd led j x))) g (zIA 6 (upd led j x)) := fun x => zIs.s hg.1
      have hf1 : ∀ x, zIs (va_up w g (zIA 6 (upd led j x))) f (zOb 0 [z, .ref g]) := fun x => hf.n hfg
      rcases hL with rfl | ⟨q, rfl⟩
      · skip
        refine zV.run kX0_becomeTurned 4 rfl ?_
        refine zV.icf kX0_becomeTurned (cd := .gt) rfl (c9) ?_
        refine zV.run kX0_becomeTurned 6 rfl ?_
        refine zV.gf kX0_becomeTurned rfl fX0_15 (hf') rfl ?_
        refine zV.run kX0_becomeTurned 1 rfl ?_
        refine zV.ial kX0_becomeTurned rfl (hg') (n - j) (e9) (by omega) (by decide) ?_
        refine zV.run kX0_becomeTurned 4 rfl ?_
        refine zV.gf kX0_becomeTurned rfl fX0_15 (hf') rfl ?_
        refine zV.run kX0_becomeTurned 1 rfl ?_
        refine zV.ial kX0_becomeTurned rfl (hg') (j) (rfl) (by omega) (by decide) ?_
        refine zV.run kX0_becomeTurned 3 rfl ?_
        refine zV.gf kX0_becomeTurned rfl fX0_15 (hf) rfl ?_
        refine zV.run kX0_becomeTurned 2 rfl ?_
        refine zV.ias kX0_becomeTurned rfl (hg) (j) (rfl) (by omega) (by decide) ?_
        refine zV.run kX0_becomeTurned 1 rfl ?_
        refine zV.gf kX0_becomeTurned rfl fX0_15 (hf1 _) rfl ?_
        refine zV.run kX0_becomeTurned 2 rfl ?_
        refine zV.ias kX0_becomeTurned rfl (hg1 _) (n - j) (e9) (by omega) (by decide) ?_
        refine zV.run kX0_becomeTurned 2 rfl ?_
        rw [x1, x2, y1, y2, e9, nI_1]
        exact key
      · skip
        refine zV.run kX0_becomeTurned 4 rfl ?_
        refine zV.icf kX0_becomeTurned (cd := .gt) rfl (c9) ?_
        refine zV.run kX0_becomeTurned 6 rfl ?_
        refine zV.gf kX0_becomeTurned rfl fX0_15 (hf') rfl ?_
        refine zV.run kX0_becomeTurned 1 rfl ?_
        refine zV.ial kX0_becomeTurned rfl (hg') (n - j) (e9) (by omega) (by decide) ?_
        refine zV.run kX0_becomeTurned 4 rfl ?_
        refine zV.gf kX0_becomeTurned rfl fX0_15 (hf') rfl ?_
        refine zV.run kX0_becomeTurned 1 rfl ?_
        refine zV.ial kX0_becomeTurned rfl (hg') (j) (rfl) (by omega) (by decide) ?_
        refine zV.run kX0_becomeTurned 3 rfl ?_
        refine zV.gf kX0_becomeTurned rfl fX0_15 (hf) rfl ?_
        refine zV.run kX0_becomeTurned 2 rfl ?_
        refine zV.ias kX0_becomeTurned rfl (hg) (j) (rfl) (by omega) (by decide) ?_
        refine zV.run kX0_becomeTurned 1 rfl ?_
        refine zV.gf kX0_becomeTurned rfl fX0_15 (hf1 _) rfl ?_
        refine zV.run kX0_becomeTurned 2 rfl ?_
        refine zV.ias kX0_becomeTurned rfl (hg1 _) (n - j) (e9) (by omega) (by decide) ?_
        refine zV.run kX0_becomeTurned 2 rfl ?_
        rw [x1, x2, y1, y2, e9, nI_1]
        exact key
    · have c9 : zIc .gt (nI j) (nI n - nI j) := by
        show nI n - nI j < nI j
        rw [nI_iI, nI_iI, iI_sub, iI_lt (by omega) (by omega) (by omega) (by omega)]
        omega
      have fin : zFo (va_up w f (zOb 0 [.int (nI n), .ref g])) f g n (fun i => n - ld (n - i)) ∧ ∀ a, a ≠ f → a ≠ g → va_up w f (zOb 0 [.int (nI n), .ref g]) a = w0 a := ⟨⟨led, zIs.s hf.1, hg.n (Ne.symm hfg), fun i hi => hl i hi (by omega), h1, h5, fun i hi => Nat.sub_le _ _⟩, fun a q1 q2 => by rw [zup_ne q1]; exact hw a q1 q2⟩
      rcases hL with rfl | ⟨q, rfl⟩
      · skip
        refine zV.run kX0_becomeTurned 4 rfl ?_
        refine zV.ict kX0_becomeTurned (cd := .gt) rfl (c9) ?_
        refine zV.run kX0_becomeTurned 2 rfl ?_
        refine zV.pfi kX0_becomeTurned rfl pX0_9 (hf) (Nat.le_of_ble_eq_true rfl) ?_
        exact zV.vret kX0_becomeTurned rfl rfl (⟨rfl, fin⟩)
      · omega
theorem o_becomeTurned (E : zE) {w : zWd} {f g n0 f' g' n : Nat} {ld0 ld : Nat → Nat} (h0 : zFo w f g n0 ld0) (h : zFo w f' g' n ld) (hfg : f ≠ g) (hfg2 : f' ≠ g) : zOk E mX0_becomeTurned 0 [.ref f, .ref f'] w (fun r w' => r = none ∧ zFo w' f g n (fun i => n - ld (n - i)) ∧ ∀ a, a ≠ f → a ≠ g → w' a = w a) := by
  obtain ⟨led0, hf0, hg0, -, -, -, -⟩ := h0
  obtain ⟨led, hf, hg, hl, h1, h5, hb⟩ := h
  refine zOk.of (by decide +kernel) (Nat.le_of_ble_eq_true rfl) ?_
  refine zV.run kX0_becomeTurned 1 rfl ?_
  refine zV.gf kX0_becomeTurned rfl fX0_9 (hf) rfl ?_
  refine zV.run kX0_becomeTurned 3 rfl ?_
  exact o_turned_l E h1 h5 hb hfg hfg2 (n + 1) 0 w led0 led 0 0 0 (by omega) ⟨_, hf0⟩ ⟨_, hf⟩ hg0 hg (fun i hi q => by omega) (fun i _ q => hl i (by omega)) (fun _ _ _ => rfl) _ (Or.inr ⟨rfl, rfl⟩)
/-! ===== Fold: the twisted order ===== -/
def two (n : Nat) (ld : Nat → Nat) (b dd : Int) : Nat → Bool → Int → Int → Int
  | 0, _, _, _ => 0
  | k + 1, t, x, y => if spn n x b = spn n y dd then (if sl ld (spn n x b) = 0 then 0 else two n ld b dd k (if sl ld (spn n x b) < 0 then !t else t) (stp n ld b x) (stp n ld dd y)) else if decide (spn n x b < spn n y dd) = t then 1 else -1
def tws (t : Bool) : Int32 := if t = true then 1 else -1
theorem o_twisted_l (E : zE) {w : zWd} {f g n : Nat} {ld : Nat → Nat} (h : zFo w f g n ld) {b dd : Int} (hb : 0 < b) (hb2 : b ≤ 100000) (hd : 0 < dd) (hd2 : dd ≤ 100000) (a c : Int64) {k : Nat} (hk : k ≤ 1000) : ∀ (r i : Nat) (t : Bool) (x y : Int) (z1 z2 z3 : Int32), i + r = k → 0 ≤ x → x ≤ n * b → 0 ≤ y → y ≤ n * dd → ∀ L, (L = [.ref f, .long a, zU, .long (lI b), zU, .long c, zU, .long (lI dd), zU, .int (nI k), .int (tws t), .long (lI x), zU, .long (lI y), zU, .int (nI i), zU, zU, zU] ∨ L = [.ref f, .long a, zU, .long (lI b), zU, .long c, zU, .long (lI dd), zU, .int (nI k), .int (tws t), .long (lI x), zU, .long (lI y), zU, .int (nI i), .int z1, .int z2, .int z3]) → zV E mX0_twistedOrder 3 (zR0 w (.int (iI (two n ld b dd r t x y)))) 13 L [] w := by
  obtain ⟨led, hf, hg, hl, h1, h5, hlb⟩ := id h
  intro r
  induction r with
  | zero =>
    intro i t x y z1 z2 z3 hi hx hx2 hy hy2 L hL
    have e : i = k := by omega
    subst e
    rcases hL with rfl | rfl
    · skip
      refine zV.run kX0_twistedOrder 2 rfl ?_
      refine zV.ict kX0_twistedOrder (cd := .ge) rfl (Int32.le_refl _) ?_
      refine zV.run kX0_twistedOrder 1 rfl ?_
      exact zV.iret kX0_twistedOrder rfl rfl (⟨rfl, rfl⟩)
    · skip
      refine zV.run kX0_twistedOrder 2 rfl ?_
      refine zV.ict kX0_twistedOrder (cd := .ge) rfl (Int32.le_refl _) ?_
      refine zV.run kX0_twistedOrder 1 rfl ?_
      exact zV.iret kX0_twistedOrder rfl rfl (⟨rfl, rfl⟩)
  | succ r ih =>
    intro i t x y z1 z2 z3 hi hx hx2 hy hy2 L hL
    have s1 := spn_lt h1 x b
    have s2 := spn_lt h1 y dd
    have b1 := sl_rg h5 hlb s1
    have r1 := stp_rg h1 hlb hb hx hx2
    have r2 := stp_rg h1 hlb hd hy hy2
    have key : zV E mX0_twistedOrder 3 (zR0 w (.int (iI (two n ld b dd (r + 1) t x y)))) 39 [.ref f, .long a, zU, .long (lI b), zU, .long c, zU, .long (lI dd), zU, .int (nI k), .int (tws t), .long (lI x), zU, .long (lI y), zU, .int (nI i), .int (nI (spn n x b)), .int (nI (spn n y dd)), zU] [] w ∧ ∀ z3 : Int32, zV E mX0_twistedOrder 3 (zR0 w (.int (iI (two n ld b dd (r + 1) t x y)))) 39 [.ref f, .long a, zU, .long (lI b), zU, .long c, zU, .long (lI dd), zU, .int (nI k), .int (tws t), .long (lI x), zU, .long (lI y), zU, .int (nI i), .int (nI (spn n x b)), .int (nI (spn n y dd)), .int z3] [] w := by
      have k0 : ∀ v : Value, (v = zU ∨ ∃ z3, v = .int z3) → zV E mX0_twistedOrder 3 (zR0 w (.int (iI (two n ld b dd (r + 1) t x y)))) 39 [.ref f, .long a, zU, .long (lI b), zU, .long c, zU, .long (lI dd), zU, .int (nI k), .int (tws t), .long (lI x), zU, .long (lI y), zU, .int (nI i), .int (nI (spn n x b)), .int (nI (spn n y dd)), v] [] w := by
        intro v hv
        refine zV.run kX0_twistedOrder 2 rfl ?_
        refine zV.ic2 kX0_twistedOrder rfl (fun c1 => ?_) (fun c1 => ?_)
        · skip
          have c1 := (nI_eq (by omega) (by omega)).mp c1
          refine zV.run kX0_twistedOrder 2 rfl ?_
          refine zV.cv kX0_twistedOrder rfl lX0_34 (o_slopeOf E h s1) (by decide) rfl (hf) rfl rfl rfl (Nat.le_of_ble_eq_true rfl) ?_
          rintro _ _ ⟨rfl, rfl⟩
          refine zV.run kX0_twistedOrder 2 rfl ?_
          refine zV.if2 kX0_twistedOrder rfl (fun c2 => ?_) (fun c2 => ?_)
          · skip
            have c2 : ¬ sl ld (spn n x b) = 0 := fun q => c2 (by rw [q]; rfl)
            have e : two n ld b dd (r + 1) t x y = two n ld b dd r (if sl ld (spn n x b) < 0 then !t else t) (stp n ld b x) (stp n ld dd y) := by
              show (if spn n x b = spn n y dd then _ else _) = _
              rw [if_pos c1, if_neg c2]
            rw [e]
            refine zV.run kX0_twistedOrder 1 rfl ?_
            refine zV.if2 kX0_twistedOrder rfl (fun c3 => ?_) (fun c3 => ?_)
            · skip
              have c3 := (iI_le (a := 0) (b := sl ld (spn n x b)) (by omega) (by omega) (by omega) (by omega)).mp c3
              rw [if_neg (by omega)]
              refine zV.run kX0_twistedOrder 5 rfl ?_
              refine zV.cv kX0_twistedOrder rfl lX0_38 (o_step E h hb hb2 hx hx2) (by decide) rfl (hf) rfl rfl rfl (Nat.le_of_ble_eq_true rfl) ?_
              rintro _ _ ⟨rfl, rfl⟩
              refine zV.run kX0_twistedOrder 4 rfl ?_
              refine zV.cv kX0_twistedOrder rfl lX0_38 (o_step E h hd hd2 hy hy2) (by decide) rfl (hf) rfl rfl rfl (Nat.le_of_ble_eq_true rfl) ?_
              rintro _ _ ⟨rfl, rfl⟩
              refine zV.run kX0_twistedOrder 3 rfl ?_
              rw [nI_1]
              exact ih (i + 1) t _ _ _ _ _ (by omega) r1.1 r1.2 r2.1 r2.2 _ (Or.inr rfl)
            · skip
              have c3 := mt (iI_le (a := 0) (b := sl ld (spn n x b)) (by omega) (by omega) (by omega) (by omega)).mpr c3
              rw [if_pos (by omega)]
              refine zV.run kX0_twistedOrder 7 rfl ?_
              refine zV.cv kX0_twistedOrder rfl lX0_38 (o_step E h hb hb2 hx hx2) (by decide) rfl (hf) rfl rfl rfl (Nat.le_of_ble_eq_true rfl) ?_
              rintro _ _ ⟨rfl, rfl⟩
              refine zV.run kX0_twistedOrder 4 rfl ?_
              refine zV.cv kX0_twistedOrder rfl lX0_38 (o_step E h hd hd2 hy hy2) (by decide) rfl (hf) rfl rfl rfl (Nat.le_of_ble_eq_true rfl) ?_
              rintro _ _ ⟨rfl, rfl⟩
              refine zV.run kX0_twistedOrder 3 rfl ?_
              rw [nI_1, show -tws t = tws (!t) by cases t <;> decide]
              exact ih (i + 1) (!t) _ _ _ _ _ (by omega) r1.1 r1.2 r2.1 r2.2 _ (Or.inr rfl)
          · skip
            have c2 := (iI_eq (a := sl ld (spn n x b)) (b := 0) (by omega) (by omega) (by omega) (by omega)).mp (Decidable.not_not.mp c2)
            have e : two n ld b dd (r + 1) t x y = 0 := by
              show (if spn n x b = spn n y dd then _ else _) = _
              rw [if_pos c1, if_pos c2]
            refine zV.run kX0_twistedOrder 1 rfl ?_
            exact zV.iret kX0_twistedOrder rfl rfl (⟨by rw [e]; rfl, rfl⟩)
        · skip
          have c1 := mt (nI_eq (a := spn n x b) (b := spn n y dd) (by omega) (by omega)).mpr c1
          have e : two n ld b dd (r + 1) t x y = if decide (spn n x b < spn n y dd) = t then 1 else -1 := by
            show (if spn n x b = spn n y dd then _ else _) = _
            rw [if_neg c1]
          rw [e]
          refine zV.run kX0_twistedOrder 2 rfl ?_
          refine zV.ic2 kX0_twistedOrder rfl (fun c2 => ?_) (fun c2 => ?_)
          · skip
            have c2 := (nI_leI (by omega) (by omega)).mp c2
            have e2 : decide (spn n x b < spn n y dd) = false := decide_eq_false (by omega)
            rw [e2]
            refine zV.run kX0_twistedOrder 2 rfl ?_
            exact zV.iret kX0_twistedOrder rfl rfl (⟨by cases t <;> rfl, rfl⟩)
          · skip
            have c2 := mt (nI_leI (a := spn n y dd) (b := spn n x b) (by omega) (by omega)).mpr c2
            have e2 : decide (spn n x b < spn n y dd) = true := decide_eq_true (by omega)
            rw [e2]
            refine zV.run kX0_twistedOrder 2 rfl ?_
            exact zV.iret kX0_twistedOrder rfl rfl (⟨by cases t <;> rfl, rfl⟩)
      exact ⟨k0 zU (Or.inl rfl), fun z => k0 _ (Or.inr ⟨z, rfl⟩)⟩
    rcases hL with rfl | rfl
    · skip
      refine zV.run kX0_twistedOrder 2 rfl ?_
      refine zV.icf kX0_twistedOrder (cd := .ge) rfl (nI_ge (by omega) (by omega)) ?_
      refine zV.run kX0_twistedOrder 3 rfl ?_
      refine zV.cv kX0_twistedOrder rfl lX0_30 (o_spanOf E h hb hb2 hx hx2) (by decide) rfl (hf) rfl rfl rfl (Nat.le_of_ble_eq_true rfl) ?_
      rintro _ _ ⟨rfl, rfl⟩
      refine zV.run kX0_twistedOrder 4 rfl ?_
      refine zV.cv kX0_twistedOrder rfl lX0_30 (o_spanOf E h hd hd2 hy hy2) (by decide) rfl (hf) rfl rfl rfl (Nat.le_of_ble_eq_true rfl) ?_
      rintro _ _ ⟨rfl, rfl⟩
      refine zV.run kX0_twistedOrder 1 rfl ?_
      exact key.1
    · skip
      refine zV.run kX0_twistedOrder 2 rfl ?_
      refine zV.icf kX0_twistedOrder (cd := .ge) rfl (nI_ge (by omega) (by omega)) ?_
      refine zV.run kX0_twistedOrder 3 rfl ?_
      refine zV.cv kX0_twistedOrder rfl lX0_30 (o_spanOf E h hb hb2 hx hx2) (by decide) rfl (hf) rfl rfl rfl (Nat.le_of_ble_eq_true rfl) ?_
      rintro _ _ ⟨rfl, rfl⟩
      refine zV.run kX0_twistedOrder 4 rfl ?_
      refine zV.cv kX0_twistedOrder rfl lX0_30 (o_spanOf E h hd hd2 hy hy2) (by decide) rfl (hf) rfl rfl rfl (Nat.le_of_ble_eq_true rfl) ?_
      rintro _ _ ⟨rfl, rfl⟩
      refine zV.run kX0_twistedOrder 1 rfl ?_
      exact key.2 z3
theorem o_twisted (E : zE) {w : zWd} {f g n : Nat} {ld : Nat → Nat} (h : zFo w f g n ld) {a b c dd : Int} (hb : 0 < b) (hb2 : b ≤ 100000) (hd : 0 < dd) (hd2 : dd ≤ 100000) {k : Nat} (hk : k ≤ 1000) (ha : 0 ≤ a) (ha2 : a ≤ n * b) (hc : 0 ≤ c) (hc2 : c ≤ n * dd) : zOk E mX0_twistedOrder 3 [.ref f, .long (lI a), .long (lI b), .long (lI c), .long (lI dd), .int (nI k)] w (zR0 w (.int (iI (two n ld b dd k false a c)))) := by
  refine zOk.of (by decide +kernel) (Nat.le_of_ble_eq_true rfl) ?_
  refine zV.run kX0_twistedOrder 8 rfl ?_
  exact o_twisted_l E h hb hb2 hd hd2 (lI a) (lI c) hk k 0 false a c 0 0 0 (by omega) ha ha2 hc hc2 _ (Or.inl rfl)
