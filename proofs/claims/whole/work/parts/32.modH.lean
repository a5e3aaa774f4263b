/-! ===== the round that a corner comes to ===== -/
theorem pigeon : ∀ (n k : Nat) (f : Nat → Nat), (∀ i, i < k → f i < n) → (∀ i j, i < j → j < k → f i ≠ f j) → k ≤ n
  | 0, k, f, h, _ => by
    cases k with
    | zero => exact Nat.le_refl _
    | succ k => exact absurd (h 0 (by omega)) (by omega)
  | n + 1, k, f, h, hd => by
    by_cases hx : ∃ i, i < k ∧ f i = n
    · obtain ⟨i0, hi0, e0⟩ := hx
      have := pigeon n (k - 1) (fun i => if i < i0 then f i else f (i + 1)) (fun i hi => by
        show (if i < i0 then f i else f (i + 1)) < n
        split
        next q =>
          have a := h i (by omega)
          have b := hd i i0 q hi0
          omega
        next q =>
          have a := h (i + 1) (by omega)
          have b := hd i0 (i + 1) (by omega) (by omega)
          omega) (fun i j hij hj => by
        show (if i < i0 then f i else f (i + 1)) ≠ (if j < i0 then f j else f (j + 1))
        split
        next q =>
          split
          next q2 => exact hd i j hij (by omega)
          next q2 => exact hd i (j + 1) (by omega) (by omega)
        next q =>
          rw [if_neg (by omega)]
          exact hd (i + 1) (j + 1) (by omega) (by omega))
      omega
    · have := pigeon n k f (fun i hi => by
        have a := h i hi
        have b : f i ≠ n := fun q => hx ⟨i, hi, q⟩
        omega) hd
      omega
theorem orb_add (ld : Nat → Nat) (c a : Nat) : ∀ b, orb ld (orb ld c a) b = orb ld c (a + b)
  | 0 => rfl
  | b + 1 => by show ld (orb ld (orb ld c a) b) = ld (orb ld c (a + b)); rw [orb_add ld c a b]
theorem sorf_sp (ld : Nat → Nat) (i : Nat) : ∀ r k x, 1 ≤ k → x = orb ld i (k - 1) → (sorf ld i r x k = 0 ∧ ∀ K, k ≤ K → K < k + r → orb ld i K ≠ i) ∨ ∃ K, k ≤ K ∧ K < k + r ∧ sorf ld i r x k = K ∧ orb ld i K = i ∧ ∀ q, k ≤ q → q < K → orb ld i q ≠ i
  | 0, k, x, h1, hx => Or.inl ⟨rfl, fun K a b => by omega⟩
  | r + 1, k, x, h1, hx => by
    have ek : ld x = orb ld i k := by
      rw [hx]; show orb ld i (k - 1 + 1) = _; rw [Nat.sub_add_cancel h1]
    unfold sorf
    split
    next c => right; exact ⟨k, Nat.le_refl _, by omega, rfl, by rw [← ek]; exact c, fun q a b => by omega⟩
    next c =>
      rcases sorf_sp ld i r (k + 1) (ld x) (by omega) (by rw [ek]; rfl) with ⟨g1, g2⟩ | ⟨K, g1, g2, g3, g4, g5⟩
      · left
        refine ⟨g1, fun K a b => ?_⟩
        by_cases e : K = k
        · rw [e, ← ek]; exact c
        · exact g2 K (by omega) (by omega)
      · right
        refine ⟨K, by omega, by omega, g3, g4, fun q a b => ?_⟩
        by_cases e : q = k
        · rw [e, ← ek]; exact c
        · exact g5 q (by omega) b
/-- the least number of steps that bring a corner back, 0 if none of 1 .. n + 1 does -/
theorem sor_sp (n : Nat) (ld : Nat → Nat) (i : Nat) : (sor n ld i = 0 ∧ ∀ K, 1 ≤ K → K ≤ n + 1 → orb ld i K ≠ i) ∨ ∃ K, 1 ≤ K ∧ K ≤ n + 1 ∧ sor n ld i = K ∧ orb ld i K = i ∧ ∀ q, 1 ≤ q → q < K → orb ld i q ≠ i := by
  rcases sorf_sp ld i (n + 1) 1 i (Nat.le_refl _) rfl with ⟨g1, g2⟩ | ⟨K, g1, g2, g3, g4, g5⟩
  · left; exact ⟨g1, fun K a b => g2 K a (by omega)⟩
  · right; exact ⟨K, g1, by omega, g3, g4, g5⟩
theorem sor_eq {n : Nat} {ld : Nat → Nat} {i p : Nat} (h1 : 1 ≤ p) (h2 : p ≤ n + 1) (h3 : orb ld i p = i) (h4 : ∀ q, 1 ≤ q → q < p → orb ld i q ≠ i) : sor n ld i = p := by
  rcases sor_sp n ld i with ⟨g1, g2⟩ | ⟨K, g1, g2, g3, g4, g5⟩
  · exact absurd h3 (g2 p h1 h2)
  · rw [g3]
    rcases Nat.lt_trichotomy K p with q | q | q
    · exact absurd g4 (h4 K g1 q)
    · exact q
    · exact absurd h3 (g5 p h1 q)
theorem sah_eq (n : Nat) (ld : Nat → Nat) : ∀ r x j, j < r → (∀ s, s < j → sor n ld (orb ld x s) = 0) → sor n ld (orb ld x j) ≠ 0 → sah n ld r x = j
  | 0, x, j, h, _, _ => by omega
  | r + 1, x, j, h, h1, h2 => by
    unfold sah
    cases j with
    | zero => exact if_neg h2
    | succ j =>
      have g1 : ∀ s, s < j → sor n ld (orb ld (ld x) s) = 0 := fun s hs => by
        have := h1 (s + 1) (by omega)
        rw [show s + 1 = 1 + s by omega, ← orb_add] at this
        exact this
      have g2 : sor n ld (orb ld (ld x) j) ≠ 0 := by
        rw [show j + 1 = 1 + j by omega, ← orb_add] at h2
        exact h2
      rw [if_pos (show sor n ld x = 0 from h1 0 (by omega)), sah_eq n ld r (ld x) j (by omega) g1 g2]
theorem orb_per {ld : Nat → Nat} {c j p : Nat} (hp : 0 < p) (h : orb ld c (j + p) = orb ld c j) : ∀ f t, t < f → orb ld c (j + t) = orb ld c (j + t % p)
  | 0, t, ht => by omega
  | f + 1, t, ht => by
    by_cases q : t < p
    · rw [Nat.mod_eq_of_lt q]
    · have e1 : orb ld c (j + t) = orb ld c (j + (t - p)) := by
        rw [show j + t = (j + p) + (t - p) by omega, ← orb_add, h, orb_add]
      rw [e1, orb_per hp h f (t - p) (by omega), ← Nat.mod_eq_sub_mod (by omega)]
theorem tr_math {n : Nat} {ld : Nat → Nat} {c j k : Nat} (hk : k ≤ n + 1) (hj : j < k) (he : orb ld c k = orb ld c j) (hd : ∀ a b, a < b → b < k → orb ld c a ≠ orb ld c b) : sah n ld (n + 1) c = j ∧ sor n ld (orb ld c j) = k - j := by
  have hs : sor n ld (orb ld c j) = k - j := by
    refine sor_eq (by omega) (by omega) ?_ (fun q h1 h2 => ?_)
    · rw [orb_add, show j + (k - j) = k by omega]; exact he
    · rw [orb_add]; exact (hd j (j + q) (by omega) (by omega)).symm
  refine ⟨sah_eq n ld (n + 1) c j (by omega) (fun s hsj => ?_) (by rw [hs]; omega), hs⟩
  rcases sor_sp n ld (orb ld c s) with ⟨g1, g2⟩ | ⟨K, g1, g2, g3, g4, g5⟩
  · exact g1
  · exfalso
    rw [orb_add] at g4
    by_cases q : s + K < k
    · exact hd s (s + K) (by omega) q g4.symm
    · have e := orb_per (ld := ld) (c := c) (j := j) (p := k - j) (by omega) (by rw [show j + (k - j) = k by omega]; exact he) (s + K - j + 1) (s + K - j) (by omega)
      rw [show j + (s + K - j) = s + K by omega, g4] at e
      have hm : (s + K - j) % (k - j) < k - j := Nat.mod_lt _ (by omega)
      exact hd s (j + (s + K - j) % (k - j)) (by omega) (by omega) e
theorem n_topRound_2 (E : zE) {w0 : zWd} {σ : zSt} (h : zMs w0 σ) {m c : Nat} (hm : m < 8) (hcn : c ≤ σ.1 m) (what : Int32) : ∀ (r k : Nat) (w : zWd) (dr : Nat → Int32), k + r = σ.1 m + 2 → zIs w 52 (zIA 7 dr) → (∀ a b, a < b → b < k → orb (σ.2 m) c a ≠ orb (σ.2 m) c b) → (∀ j, j < k → dr (orb (σ.2 m) c j) = nI j) → (∀ q, q ≤ σ.1 m → (∀ j, j < k → orb (σ.2 m) c j ≠ q) → dr q = -1) → (∀ a, a ≠ 52 → w a = w0 a) → zV E mX4_topRound 2 (zPm w0 (.int (if what = 0 then nI (sah (σ.1 m) (σ.2 m) (σ.1 m + 1) c) else nI (sor (σ.1 m) (σ.2 m) (orb (σ.2 m) c (sah (σ.1 m) (σ.2 m) (σ.1 m + 1) c))))) σ) 64 [.ref 49, .int (nI m), .int what, .int (nI c), .int (nI (orb (σ.2 m) c k)), .int (nI k)] [] w := by
  obtain ⟨⟨ab, be, rm, en, ej, h00⟩, hc0, hx0⟩ := id h
  obtain ⟨-, ⟨ld, b1, b2⟩, hv⟩ := id hc0
  obtain ⟨v1, v5, vl⟩ := hv m hm
  intro r
  induction r with
  | zero =>
    intro k w dr hk hd d1 d2 d3 hw
    exfalso
    have := pigeon (σ.1 m + 1) k (orb (σ.2 m) c) (fun i _ => by have := orb_le vl hcn i; omega) d1
    omega
  | succ r ih =>
    intro k w dr hk hd d1 d2 d3 hw
    have h0 := h00.k (hw 49 (by decide))
    have ho := orb_le vl hcn k
    refine zV.run kX4_topRound 1 rfl ?_
    refine zV.gf kX4_topRound rfl fX4_16 (h0) rfl ?_
    refine zV.run kX4_topRound 1 rfl ?_
    refine zV.ial kX4_topRound rfl (hd) (orb (σ.2 m) c k) (rfl) (by omega) (by decide) ?_
    by_cases hin : ∃ j, j < k ∧ orb (σ.2 m) c j = orb (σ.2 m) c k
    · obtain ⟨j, hj, ej9⟩ := hin
      have hkn : k ≤ σ.1 m + 1 := by omega
      obtain ⟨t1, t2⟩ := tr_math hkn hj ej9.symm d1
      have edr : dr (orb (σ.2 m) c k) = nI j := by rw [← ej9]; exact d2 j hj
      rw [t1, t2, edr]
      refine zV.run kX4_topRound 1 rfl ?_
      refine zV.ict kX4_topRound (cd := .ne) rfl (fun q => absurd (show nI j = -1 from q) (fun z => by have := congrArg Int32.toInt z; rw [nI_toInt (by omega)] at this; simp at this)) ?_
      refine zV.run kX4_topRound 1 rfl ?_
      refine zV.if2 kX4_topRound rfl (fun c2 => ?_) (fun c2 => ?_)
      · skip
        have c2 : ¬ what = 0 := c2
        refine zV.run kX4_topRound 2 rfl ?_
        refine zV.gf kX4_topRound rfl fX4_16 (h0) rfl ?_
        refine zV.run kX4_topRound 1 rfl ?_
        refine zV.ial kX4_topRound rfl (hd) (orb (σ.2 m) c k) (rfl) (by omega) (by decide) ?_
        rw [edr]
        refine zV.run kX4_topRound 1 rfl ?_
        rw [pk_sub (by omega)]
        exact zV.iret kX4_topRound rfl rfl (⟨by rw [if_neg c2], h.dr hw ⟨dr, hd⟩, fun a ha => hw a (by omega)⟩)
      · skip
        have c2 : what = 0 := Decidable.not_not.mp c2
        refine zV.run kX4_topRound 1 rfl ?_
        refine zV.gf kX4_topRound rfl fX4_16 (h0) rfl ?_
        refine zV.run kX4_topRound 1 rfl ?_
        refine zV.ial kX4_topRound rfl (hd) (orb (σ.2 m) c k) (rfl) (by omega) (by decide) ?_
        rw [edr]
        refine zV.run kX4_topRound 1 rfl ?_
        exact zV.iret kX4_topRound rfl rfl (⟨by rw [if_pos c2], h.dr hw ⟨dr, hd⟩, fun a ha => hw a (by omega)⟩)
    · have edr : dr (orb (σ.2 m) c k) = -1 := d3 _ ho (fun j hj q => hin ⟨j, hj, q⟩)
      rw [edr]
      refine zV.run kX4_topRound 1 rfl ?_
      refine zV.icf kX4_topRound (cd := .ne) rfl (fun q => q rfl) ?_
      refine zV.run kX4_topRound 1 rfl ?_
      refine zV.gf kX4_topRound rfl fX4_16 (h0) rfl ?_
      refine zV.run kX4_topRound 2 rfl ?_
      refine zV.ias kX4_topRound rfl (hd) (orb (σ.2 m) c k) (rfl) (by omega) (by decide) ?_
      refine zV.run kX4_topRound 1 rfl ?_
      refine zV.gf kX4_topRound rfl fX4_13 (h0.n (by decide)) rfl ?_
      refine zV.run kX4_topRound 5 rfl ?_
      refine zV.ial kX4_topRound rfl ((b1.k (hw 51 (by decide))).n (by decide)) (7 * m + orb (σ.2 m) c k) (ix7) (by omega) (by decide) ?_
      rw [b2 m _ hm ho]
      refine zV.run kX4_topRound 3 rfl ?_
      rw [nI_1]
      refine ih (k + 1) _ _ (by omega) (zIs.s hd.1) (fun a b hab hb2 => ?_) (fun j hj => ?_) (fun q hq hn => ?_) (fun a ha => by rw [zup_ne ha]; exact hw a ha)
      · by_cases e : b = k
        · rw [e]; exact fun z => hin ⟨a, by omega, z⟩
        · exact d1 a b hab (by omega)
      · by_cases e : j = k
        · rw [e, pk_us]
        · rw [pk_un (fun z => hin ⟨j, by omega, z⟩)]; exact d2 j (by omega)
      · rw [pk_un (fun z => hn k (by omega) z.symm)]
        exact d3 q hq (fun j hj => hn j (by omega))
theorem n_topRound_1 (E : zE) {w0 : zWd} {σ : zSt} (h : zMs w0 σ) {m c : Nat} (hm : m < 8) (hcn : c ≤ σ.1 m) (what : Int32) : ∀ (r i : Nat) (w : zWd) (dr : Nat → Int32), i + r = 7 → zIs w 52 (zIA 7 dr) → (∀ q, q < i → dr q = -1) → (∀ a, a ≠ 52 → w a = w0 a) → zV E mX4_topRound 2 (zPm w0 (.int (if what = 0 then nI (sah (σ.1 m) (σ.2 m) (σ.1 m + 1) c) else nI (sor (σ.1 m) (σ.2 m) (orb (σ.2 m) c (sah (σ.1 m) (σ.2 m) (σ.1 m + 1) c))))) σ) 37 [.ref 49, .int (nI m), .int what, .int (nI c), .int (nI i), zU] [] w := by
  obtain ⟨⟨ab, be, rm, en, ej, h00⟩, hc0, hx0⟩ := id h
  obtain ⟨v1, v5, vl⟩ := hc0.2.2 m hm
  intro r
  induction r with
  | zero =>
    intro i w dr hi hd d1 hw
    have e : i = 7 := by omega
    subst e
    refine zV.run kX4_topRound 2 rfl ?_
    refine zV.ict kX4_topRound (cd := .ge) rfl (Int32.le_refl _) ?_
    refine zV.run kX4_topRound 4 rfl ?_
    exact n_topRound_2 E h hm hcn what (σ.1 m + 2) 0 w dr (by omega) hd (fun a b _ hb => by omega) (fun j hj => by omega) (fun q hq _ => d1 q (by omega)) hw
  | succ r ih =>
    intro i w dr hi hd d1 hw
    have h0 := h00.k (hw 49 (by decide))
    refine zV.run kX4_topRound 2 rfl ?_
    refine zV.icf kX4_topRound (cd := .ge) rfl (fun q => absurd ((nI_leI (a := 7) (b := i) (by omega) (by omega)).mp q) (by omega)) ?_
    refine zV.run kX4_topRound 1 rfl ?_
    refine zV.gf kX4_topRound rfl fX4_16 (h0) rfl ?_
    refine zV.run kX4_topRound 2 rfl ?_
    refine zV.ias kX4_topRound rfl (hd) (i) (rfl) (by omega) (by decide) ?_
    refine zV.run kX4_topRound 2 rfl ?_
    rw [nI_1]
    refine ih (i + 1) _ _ (by omega) (zIs.s hd.1) (fun q hq => ?_) (fun a ha => by rw [zup_ne ha]; exact hw a ha)
    by_cases e : q = i
    · rw [e, pk_us]
    · rw [pk_un e]; exact d1 q (by omega)
theorem n_topRound (E : zE) {w : zWd} {σ : zSt} (h : zMs w σ) (m what : Int32) : zOk E mX4_topRound 2 [.ref 49, .int m, .int what] w (zPm w (.int (if okM m ∧ (what = 0 ∨ what = 1) then trd (σ.1 m.toInt.toNat) (σ.2 m.toInt.toNat) what else -2)) σ) := by
  obtain ⟨⟨ab, be, rm, en, ej, h0⟩, hc, hx⟩ := id h
  refine zOk.of (by decide +kernel) (Nat.le_of_ble_eq_true rfl) ?_
  refine zV.run kX4_topRound 1 rfl ?_
  refine zV.cs kX4_topRound rfl lX4_51 (n_isMap E w m) (by decide) rfl rfl (Nat.le_of_ble_eq_true rfl) ?_
  rintro _ _ ⟨rfl, rfl⟩
  refine zV.if2 kX4_topRound rfl (fun c => ?_) (fun c => ?_)
  · skip
    have c := zq_eq0.mp c
    rw [if_neg (fun q => c q.1)]
    refine zV.run kX4_topRound 1 rfl ?_
    exact zV.iret kX4_topRound rfl rfl (⟨rfl, h, fun _ _ => rfl⟩)
  · skip
    have c := Decidable.not_not.mp (mt zq_eq0.mpr c)
    refine zV.run kX4_topRound 4 rfl ?_
    refine zV.cs kX4_topRound rfl lX4_47 (n_in E w what.toInt64 0 1) (by decide) rfl rfl (Nat.le_of_ble_eq_true rfl) ?_
    rintro _ _ ⟨rfl, rfl⟩
    rw [zq_c in01]
    refine zV.if2 kX4_topRound rfl (fun c2 => ?_) (fun c2 => ?_)
    · skip
      have c2 := Decidable.not_not.mp (mt zq_eq0.mpr c2)
      rw [if_pos ⟨c, c2⟩]
      obtain ⟨mm, emm⟩ : ∃ mm, mm = m.toInt.toNat := ⟨_, rfl⟩
      have em : m = nI mm := by rw [emm]; exact i32_nI c.1
      have hm : mm < 8 := by omega
      have v5 := (hc.2.2 mm hm).2.1
      rw [← emm, em]
      have hr := ftp_rg (σ.1 mm) (σ.2 mm)
      refine zV.run kX4_topRound 2 rfl ?_
      refine zV.cv kX4_topRound rfl lX4_164 (n_topOf E h0 hc hm) (by decide) rfl (h0) rfl rfl rfl (Nat.le_of_ble_eq_true rfl) ?_
      rintro _ _ ⟨rfl, rfl⟩
      refine zV.run kX4_topRound 3 rfl ?_
      refine zV.ic2 kX4_topRound rfl (fun c4 => ?_) (fun c4 => ?_)
      · skip
        have c4 : ¬ ftp (σ.1 mm) (σ.2 mm) = -1 := fun q => c4 (by rw [q]; rfl)
        obtain ⟨tc, etc⟩ : ∃ tc : Nat, tc = (ftp (σ.1 mm) (σ.2 mm)).toNat := ⟨_, rfl⟩
        have etc2 : iI (ftp (σ.1 mm) (σ.2 mm)) = nI tc := by rw [nI_iI, etc, Int.toNat_of_nonneg (by omega)]
        have ew : trd (σ.1 mm) (σ.2 mm) what = if what = 0 then nI (sah (σ.1 mm) (σ.2 mm) (σ.1 mm + 1) tc) else nI (sor (σ.1 mm) (σ.2 mm) (orb (σ.2 mm) tc (sah (σ.1 mm) (σ.2 mm) (σ.1 mm + 1) tc))) := by
          unfold trd
          rw [if_neg c4, ← etc]
        rw [etc2, ew]
        refine zV.run kX4_topRound 2 rfl ?_
        obtain ⟨dr, hd⟩ := hx.1
        exact n_topRound_1 E h hm (c := tc) (by omega) what 7 0 w dr (by omega) hd (fun q hq => by omega) (fun _ _ => rfl)
      · skip
        have c4 : ftp (σ.1 mm) (σ.2 mm) = -1 := (iI_eq (by omega) (by omega) (by omega) (by omega)).mp (show iI _ = iI (-1) from Decidable.not_not.mp c4)
        have ew : trd (σ.1 mm) (σ.2 mm) what = -3 := if_pos c4
        rw [ew]
        refine zV.run kX4_topRound 1 rfl ?_
        exact zV.iret kX4_topRound rfl rfl (⟨rfl, h, fun _ _ => rfl⟩)
    · skip
      have c2 := zq_eq0.mp (Decidable.not_not.mp c2)
      rw [if_neg (fun q => c2 q.2)]
      refine zV.run kX4_topRound 1 rfl ?_
      exact zV.iret kX4_topRound rfl rfl (⟨rfl, h, fun _ _ => rfl⟩)
/-! ===== mixing: what the class and the model count ===== -/
theorem so_step (n : Nat) (ld : Nat → Nat) (S : Nat) (i k : Nat) (h : so n ld i k = S) : so n ld i (k + 1) = sA n ld S := by rw [← h]; rfl
