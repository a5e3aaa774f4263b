/-! ===== Fold: corners ===== -/
def orb (ld : Nat → Nat) (i : Nat) : Nat → Nat
  | 0 => i
  | k + 1 => ld (orb ld i k)
def sorf (ld : Nat → Nat) (i : Nat) : Nat → Nat → Nat → Nat
  | 0, _, _ => 0
  | r + 1, x, k => if ld x = i then k else sorf ld i r (ld x) (k + 1)
def sor (n : Nat) (ld : Nat → Nat) (i : Nat) : Nat := sorf ld i (n + 1) i 1
def sah (n : Nat) (ld : Nat → Nat) : Nat → Nat → Nat
  | 0, _ => 0
  | r + 1, x => if sor n ld x = 0 then sah n ld r (ld x) + 1 else 0
def ft1 (n : Nat) (ld : Nat → Nat) : Nat → Nat → Nat
  | 0, c => c
  | r + 1, c => if 0 < sl ld c then ft1 n ld r (c + 1) else c
def ft2 (n : Nat) (ld : Nat → Nat) : Nat → Nat → Bool
  | 0, _ => true
  | r + 1, i => if sl ld i < 0 then ft2 n ld r (i + 1) else false
def ftp (n : Nat) (ld : Nat → Nat) : Int := if ft2 n ld (n - ft1 n ld n 0) (ft1 n ld n 0) = true ∧ 0 < ft1 n ld n 0 ∧ ft1 n ld n 0 < n then (ft1 n ld n 0 : Int) else -1
def nxe (ld : Nat → Nat) (e : Nat) : Nat := if e % 2 = 0 then (if 0 < sl ld (e / 2) then 2 * ld (e / 2) else 2 * ld (e / 2) - 1) else (if 0 < sl ld (e / 2) then 2 * ld (e / 2 + 1) - 1 else 2 * ld (e / 2 + 1))
theorem orb_le {n : Nat} {ld : Nat → Nat} (hl : ∀ i, i ≤ n → ld i ≤ n) {i : Nat} (hi : i ≤ n) : ∀ k, orb ld i k ≤ n
  | 0 => hi
  | k + 1 => hl _ (orb_le hl hi k)
theorem o_cornerAfter_l (E : zE) {w : zWd} {f g n : Nat} {ld : Nat → Nat} (h : zFo w f g n ld) {i : Nat} (hi : i ≤ n) {k : Nat} (hk : k ≤ 1000) : ∀ (r j : Nat), j + r = k → zV E mX0_cornerAfter 0 (zR0 w (.int (nI (orb ld i k)))) 5 [.ref f, .int (nI i), .int (nI k), .int (nI (orb ld i j)), .int (nI j)] [] w := by
  obtain ⟨led, hf, hg, hl, h1, h5, hb⟩ := id h
  intro r
  induction r with
  | zero =>
    intro j hj
    have e : j = k := by omega
    subst e
    refine zV.run kX0_cornerAfter 2 rfl ?_
    refine zV.ict kX0_cornerAfter (cd := .ge) rfl (Int32.le_refl _) ?_
    refine zV.run kX0_cornerAfter 1 rfl ?_
    exact zV.iret kX0_cornerAfter rfl rfl (⟨rfl, rfl⟩)
  | succ r ih =>
    intro j hj
    have b1 := orb_le hb hi j
    refine zV.run kX0_cornerAfter 2 rfl ?_
    refine zV.icf kX0_cornerAfter (cd := .ge) rfl (nI_ge (by omega) (by omega)) ?_
    refine zV.run kX0_cornerAfter 1 rfl ?_
    refine zV.gf kX0_cornerAfter rfl fX0_15 (hf) rfl ?_
    refine zV.run kX0_cornerAfter 1 rfl ?_
    refine zV.ial kX0_cornerAfter rfl (hg) (orb ld i j) (rfl) (by omega) (by decide) ?_
    refine zV.run kX0_cornerAfter 3 rfl ?_
    rw [nI_1, hl _ b1]
    exact ih (j + 1) (by omega)
theorem o_cornerAfter (E : zE) {w : zWd} {f g n : Nat} {ld : Nat → Nat} (h : zFo w f g n ld) {i : Nat} (hi : i ≤ n) {k : Nat} (hk : k ≤ 1000) : zOk E mX0_cornerAfter 0 [.ref f, .int (nI i), .int (nI k)] w (zR0 w (.int (nI (orb ld i k)))) := by
  refine zOk.of (by decide +kernel) (Nat.le_of_ble_eq_true rfl) ?_
  refine zV.run kX0_cornerAfter 4 rfl ?_
  exact o_cornerAfter_l E h hi hk k 0 (by omega)
theorem o_stepsOfRound_l (E : zE) {w : zWd} {f g n : Nat} {ld : Nat → Nat} (h : zFo w f g n ld) {i : Nat} (hi : i ≤ n) : ∀ (r x k : Nat), k + r = n + 2 → x ≤ n → zV E mX0_stepsOfRound 0 (zR0 w (.int (nI (sorf ld i r x k)))) 4 [.ref f, .int (nI i), .int (nI x), .int (nI k)] [] w := by
  obtain ⟨led, hf, hg, hl, h1, h5, hb⟩ := id h
  intro r
  induction r with
  | zero =>
    intro x k hk hx
    refine zV.run kX0_stepsOfRound 2 rfl ?_
    refine zV.gf kX0_stepsOfRound rfl fX0_9 (hf) rfl ?_
    refine zV.run kX0_stepsOfRound 2 rfl ?_
    rw [nI_1]
    refine zV.ict kX0_stepsOfRound (cd := .gt) rfl (nI_lt (by omega) (by omega)) ?_
    refine zV.run kX0_stepsOfRound 1 rfl ?_
    exact zV.iret kX0_stepsOfRound rfl rfl (⟨rfl, rfl⟩)
  | succ r ih =>
    intro x k hk hx
    have b1 := hb x hx
    refine zV.run kX0_stepsOfRound 2 rfl ?_
    refine zV.gf kX0_stepsOfRound rfl fX0_9 (hf) rfl ?_
    refine zV.run kX0_stepsOfRound 2 rfl ?_
    rw [nI_1]
    refine zV.icf kX0_stepsOfRound (cd := .gt) rfl (nI_nlt (by omega) (by omega)) ?_
    refine zV.run kX0_stepsOfRound 1 rfl ?_
    refine zV.gf kX0_stepsOfRound rfl fX0_15 (hf) rfl ?_
    refine zV.run kX0_stepsOfRound 1 rfl ?_
    refine zV.ial kX0_stepsOfRound rfl (hg) (x) (rfl) (by omega) (by decide) ?_
    refine zV.run kX0_stepsOfRound 3 rfl ?_
    rw [hl x hx]
    refine zV.ic2 kX0_stepsOfRound rfl (fun c => ?_) (fun c => ?_)
    · skip
      have c := mt (nI_eq (a := ld x) (b := i) (by omega) (by omega)).mpr c
      have e : sorf ld i (r + 1) x k = sorf ld i r (ld x) (k + 1) := if_neg c
      refine zV.run kX0_stepsOfRound 2 rfl ?_
      rw [nI_1, e]
      exact ih (ld x) (k + 1) (by omega) b1
    · skip
      have c := (nI_eq (a := ld x) (b := i) (by omega) (by omega)).mp (Decidable.not_not.mp c)
      have e : sorf ld i (r + 1) x k = k := if_pos c
      refine zV.run kX0_stepsOfRound 1 rfl ?_
      exact zV.iret kX0_stepsOfRound rfl rfl (⟨by rw [e], rfl⟩)
theorem o_stepsOfRound (E : zE) {w : zWd} {f g n : Nat} {ld : Nat → Nat} (h : zFo w f g n ld) {i : Nat} (hi : i ≤ n) : zOk E mX0_stepsOfRound 0 [.ref f, .int (nI i)] w (zR0 w (.int (nI (sor n ld i)))) := by
  refine zOk.of (by decide +kernel) (Nat.le_of_ble_eq_true rfl) ?_
  refine zV.run kX0_stepsOfRound 4 rfl ?_
  exact o_stepsOfRound_l E h hi (n + 1) i 1 (by omega) hi
theorem sorf_le (ld : Nat → Nat) (i : Nat) : ∀ r x k, sorf ld i r x k ≤ k + r
  | 0, x, k => Nat.zero_le _
  | r + 1, x, k => by
    unfold sorf
    split
    · omega
    · have := sorf_le ld i r (ld x) (k + 1); omega
theorem o_stepsAhead_l (E : zE) {w : zWd} {f g n : Nat} {ld : Nat → Nat} (h : zFo w f g n ld) (i : Int32) : ∀ (r x k : Nat), k + r = n + 1 → x ≤ n → zV E mX0_stepsAheadOfRound 1 (zR0 w (.int (nI (k + sah n ld r x)))) 4 [.ref f, .int i, .int (nI x), .int (nI k)] [] w := by
  obtain ⟨led, hf, hg, hl, h1, h5, hb⟩ := id h
  intro r
  induction r with
  | zero =>
    intro x k hk hx
    refine zV.run kX0_stepsAheadOfRound 2 rfl ?_
    refine zV.gf kX0_stepsAheadOfRound rfl fX0_9 (hf) rfl ?_
    refine zV.ict kX0_stepsAheadOfRound (cd := .gt) rfl (nI_lt (by omega) (by omega)) ?_
    refine zV.run kX0_stepsAheadOfRound 1 rfl ?_
    exact zV.iret kX0_stepsAheadOfRound rfl rfl (⟨rfl, rfl⟩)
  | succ r ih =>
    intro x k hk hx
    have b1 := hb x hx
    have b2 := sorf_le ld x (n + 1) x 1
    have b3 : sor n ld x ≤ 7 := by unfold sor; omega
    refine zV.run kX0_stepsAheadOfRound 2 rfl ?_
    refine zV.gf kX0_stepsAheadOfRound rfl fX0_9 (hf) rfl ?_
    refine zV.icf kX0_stepsAheadOfRound (cd := .gt) rfl (nI_nlt (by omega) (by omega)) ?_
    refine zV.run kX0_stepsAheadOfRound 2 rfl ?_
    refine zV.cv kX0_stepsAheadOfRound rfl lX0_60 (o_stepsOfRound E h hx) (by decide) rfl (hf) rfl rfl rfl (Nat.le_of_ble_eq_true rfl) ?_
    rintro _ _ ⟨rfl, rfl⟩
    refine zV.if2 kX0_stepsAheadOfRound rfl (fun c => ?_) (fun c => ?_)
    · skip
      have c : ¬ sor n ld x = 0 := fun q => c (by rw [q]; rfl)
      have e : sah n ld (r + 1) x = 0 := if_neg c
      refine zV.run kX0_stepsAheadOfRound 1 rfl ?_
      exact zV.iret kX0_stepsAheadOfRound rfl rfl (⟨by rw [e]; rfl, rfl⟩)
    · skip
      have c := (nI_eq (a := sor n ld x) (b := 0) (by omega) (by omega)).mp (Decidable.not_not.mp c)
      have e : sah n ld (r + 1) x = sah n ld r (ld x) + 1 := if_pos c
      refine zV.run kX0_stepsAheadOfRound 1 rfl ?_
      refine zV.gf kX0_stepsAheadOfRound rfl fX0_15 (hf) rfl ?_
      refine zV.run kX0_stepsAheadOfRound 1 rfl ?_
      refine zV.ial kX0_stepsAheadOfRound rfl (hg) (x) (rfl) (by omega) (by decide) ?_
      refine zV.run kX0_stepsAheadOfRound 3 rfl ?_
      rw [hl x hx, nI_1, e, show k + (sah n ld r (ld x) + 1) = k + 1 + sah n ld r (ld x) by omega]
      exact ih (ld x) (k + 1) (by omega) b1
theorem o_stepsAhead (E : zE) {w : zWd} {f g n : Nat} {ld : Nat → Nat} (h : zFo w f g n ld) {i : Nat} (hi : i ≤ n) : zOk E mX0_stepsAheadOfRound 1 [.ref f, .int (nI i)] w (zR0 w (.int (nI (sah n ld (n + 1) i)))) := by
  refine zOk.of (by decide +kernel) (Nat.le_of_ble_eq_true rfl) ?_
  refine zV.run kX0_stepsAheadOfRound 4 rfl ?_
  have := o_stepsAhead_l E h (nI i) (n + 1) i 0 (by omega) hi
  rw [Nat.zero_add] at this
  exact this
theorem ft1_rg (n : Nat) (ld : Nat → Nat) : ∀ r c, c ≤ ft1 n ld r c ∧ ft1 n ld r c ≤ c + r
  | 0, c => ⟨Nat.le_refl _, Nat.le_refl _⟩
  | r + 1, c => by
    unfold ft1
    split
    · have := ft1_rg n ld r (c + 1); omega
    · omega
theorem sl_rg {n : Nat} {ld : Nat → Nat} (hn : n ≤ 5) (hb : ∀ i, i ≤ n → ld i ≤ n) {i : Nat} (hi : i < n) : -5 ≤ sl ld i ∧ sl ld i ≤ 5 := by
  have := hb i (by omega)
  have := hb (i + 1) (by omega)
  unfold sl
  omega
theorem o_findTop_2 (E : zE) {w : zWd} {f g n : Nat} {ld : Nat → Nat} (h : zFo w f g n ld) {c : Nat} (hc : c ≤ n) : ∀ (r i : Nat), i + r = n → zV E mX0_findTop 1 (zR0 w (.int (iI (if ft2 n ld r i = true ∧ 0 < c ∧ c < n then (c : Int) else -1)))) 26 [.ref f, .int (nI c), .int (nI i)] [] w := by
  obtain ⟨led, hf, hg, hl, h1, h5, hb⟩ := id h
  intro r
  induction r with
  | zero =>
    intro i hi
    have e : i = n := by omega
    subst e
    refine zV.run kX0_findTop 2 rfl ?_
    refine zV.gf kX0_findTop rfl fX0_9 (hf) rfl ?_
    refine zV.ict kX0_findTop (cd := .ge) rfl (Int32.le_refl _) ?_
    refine zV.run kX0_findTop 1 rfl ?_
    refine zV.if2 kX0_findTop rfl (fun c1 => ?_) (fun c1 => ?_)
    · skip
      have c1 := (nI_leI (a := c) (b := 0) (by omega) (by omega)).mp c1
      refine zV.run kX0_findTop 1 rfl ?_
      exact zV.iret kX0_findTop rfl rfl (⟨by rw [if_neg (fun q => absurd q.2.1 (by omega))]; rfl, rfl⟩)
    · skip
      have c1 := mt (nI_leI (a := c) (b := 0) (by omega) (by omega)).mpr c1
      refine zV.run kX0_findTop 2 rfl ?_
      refine zV.gf kX0_findTop rfl fX0_9 (hf) rfl ?_
      refine zV.ic2 kX0_findTop rfl (fun c2 => ?_) (fun c2 => ?_)
      · skip
        have c2 := (nI_leI (by omega) (by omega)).mp c2
        refine zV.run kX0_findTop 1 rfl ?_
        exact zV.iret kX0_findTop rfl rfl (⟨by rw [if_neg (fun q => absurd q.2.2 (by omega))]; rfl, rfl⟩)
      · skip
        have c2 := mt (nI_leI (a := i) (b := c) (by omega) (by omega)).mpr c2
        refine zV.run kX0_findTop 2 rfl ?_
        exact zV.iret kX0_findTop rfl rfl (⟨by rw [if_pos ⟨rfl, by omega, by omega⟩, nI_iI], rfl⟩)
  | succ r ih =>
    intro i hi
    have b1 := sl_rg h5 hb (i := i) (by omega)
    refine zV.run kX0_findTop 2 rfl ?_
    refine zV.gf kX0_findTop rfl fX0_9 (hf) rfl ?_
    refine zV.icf kX0_findTop (cd := .ge) rfl (nI_ge (by omega) (by omega)) ?_
    refine zV.run kX0_findTop 2 rfl ?_
    refine zV.cv kX0_findTop rfl lX0_34 (o_slopeOf E h (i := i) (by omega)) (by decide) rfl (hf) rfl rfl rfl (Nat.le_of_ble_eq_true rfl) ?_
    rintro _ _ ⟨rfl, rfl⟩
    refine zV.if2 kX0_findTop rfl (fun c1 => ?_) (fun c1 => ?_)
    · skip
      have c1 := (iI_lt (a := sl ld i) (b := 0) (by omega) (by omega) (by omega) (by omega)).mp c1
      have e : ft2 n ld (r + 1) i = ft2 n ld r (i + 1) := if_pos c1
      refine zV.run kX0_findTop 2 rfl ?_
      rw [nI_1, e]
      exact ih (i + 1) (by omega)
    · skip
      have c1 := mt (iI_lt (a := sl ld i) (b := 0) (by omega) (by omega) (by omega) (by omega)).mpr c1
      have e : ft2 n ld (r + 1) i = false := if_neg c1
      refine zV.run kX0_findTop 1 rfl ?_
      exact zV.iret kX0_findTop rfl rfl (⟨by rw [e, if_neg (fun q => by cases q.1)]; rfl, rfl⟩)
theorem o_findTop_1 (E : zE) {w : zWd} {f g n : Nat} {ld : Nat → Nat} (h : zFo w f g n ld) : ∀ (r c : Nat), c + r = n → ft1 n ld r c = ft1 n ld n 0 → zV E mX0_findTop 1 (zR0 w (.int (iI (ftp n ld)))) 2 [.ref f, .int (nI c), zU] [] w := by
  obtain ⟨led, hf, hg, hl, h1, h5, hb⟩ := id h
  intro r
  induction r with
  | zero =>
    intro c hc he
    have he : c = ft1 n ld n 0 := he
    have e : c = n := by omega
    refine zV.run kX0_findTop 2 rfl ?_
    refine zV.gf kX0_findTop rfl fX0_9 (hf) rfl ?_
    refine zV.ict kX0_findTop (cd := .ge) rfl (by rw [e]; exact Int32.le_refl _) ?_
    refine zV.run kX0_findTop 2 rfl ?_
    have K := o_findTop_2 E h (c := c) (by omega) (n - c) c (by omega)
    unfold ftp
    rw [← he]
    exact K
  | succ r ih =>
    intro c hc he
    have b1 := sl_rg h5 hb (i := c) (by omega)
    refine zV.run kX0_findTop 2 rfl ?_
    refine zV.gf kX0_findTop rfl fX0_9 (hf) rfl ?_
    refine zV.icf kX0_findTop (cd := .ge) rfl (nI_ge (by omega) (by omega)) ?_
    refine zV.run kX0_findTop 2 rfl ?_
    refine zV.cv kX0_findTop rfl lX0_34 (o_slopeOf E h (i := c) (by omega)) (by decide) rfl (hf) rfl rfl rfl (Nat.le_of_ble_eq_true rfl) ?_
    rintro _ _ ⟨rfl, rfl⟩
    refine zV.if2 kX0_findTop rfl (fun c1 => ?_) (fun c1 => ?_)
    · skip
      have c1 := (iI_le (a := sl ld c) (b := 0) (by omega) (by omega) (by omega) (by omega)).mp c1
      have e : ft1 n ld (r + 1) c = c := if_neg (by omega)
      have he : c = ft1 n ld n 0 := by rw [← he, e]
      refine zV.run kX0_findTop 2 rfl ?_
      have K := o_findTop_2 E h (c := c) (by omega) (n - c) c (by omega)
      unfold ftp
      rw [← he]
      exact K
    · skip
      have c1 := mt (iI_le (a := sl ld c) (b := 0) (by omega) (by omega) (by omega) (by omega)).mpr c1
      have e : ft1 n ld (r + 1) c = ft1 n ld r (c + 1) := if_pos (by omega)
      refine zV.run kX0_findTop 2 rfl ?_
      rw [nI_1]
      exact ih (c + 1) (by omega) (by rw [← e, he])
theorem o_findTop (E : zE) {w : zWd} {f g n : Nat} {ld : Nat → Nat} (h : zFo w f g n ld) : zOk E mX0_findTop 1 [.ref f] w (zR0 w (.int (iI (ftp n ld)))) := by
  refine zOk.of (by decide +kernel) (Nat.le_of_ble_eq_true rfl) ?_
  refine zV.run kX0_findTop 2 rfl ?_
  exact o_findTop_1 E h n 0 (by omega) rfl
theorem o_nextEdge (E : zE) {w : zWd} {f g n : Nat} {ld : Nat → Nat} (h : zFo w f g n ld) {e : Nat} (he : e < 2 * n) (hs : sl ld (e / 2) ≠ 0) : zOk E mX0_nextEdge 1 [.ref f, .int (nI e)] w (zR0 w (.int (nI (nxe ld e)))) := by
  obtain ⟨led, hf, hg, hl, h1, h5, hb⟩ := id h
  have hi : e / 2 < n := by omega
  have b1 := sl_rg h5 hb hi
  have l1 := hb (e / 2) (by omega)
  have l2 := hb (e / 2 + 1) (by omega)
  have e2 : nI e / 2 = nI (e / 2) := pk_div (d := 2) (by omega) (by decide) (by decide)
  have e3 : nI e - nI e / 2 * 2 = nI (e % 2) := pk_rem (d := 2) (by omega) (by decide) (by decide)
  have em : ∀ v : Nat, v ≤ 5 → (2 : Int32) * nI v = nI (2 * v) := fun v _ => pk_mul 2 v
  have hsl : sl ld (e / 2) = (ld (e / 2 + 1) : Int) - (ld (e / 2) : Int) := rfl
  refine zOk.of (by decide +kernel) (Nat.le_of_ble_eq_true rfl) ?_
  refine zV.run kX0_nextEdge 2 rfl ?_
  refine zV.idiv kX0_nextEdge rfl (by decide) ?_
  refine zV.run kX0_nextEdge 3 rfl ?_
  refine zV.irem kX0_nextEdge rfl (by decide) ?_
  rw [e3, e2]
  refine zV.if2 kX0_nextEdge rfl (fun c => ?_) (fun c => ?_)
  · skip
    have c : ¬ e % 2 = 0 := fun q => c (by rw [q]; rfl)
    refine zV.run kX0_nextEdge 3 rfl ?_
    refine zV.ift kX0_nextEdge (cd := .eq) rfl (rfl) ?_
    refine zV.run kX0_nextEdge 1 rfl ?_
    refine zV.gf kX0_nextEdge rfl fX0_15 (hf) rfl ?_
    refine zV.run kX0_nextEdge 3 rfl ?_
    refine zV.ial kX0_nextEdge rfl (hg) (e / 2 + 1) (nI_1 _) (by omega) (by decide) ?_
    refine zV.run kX0_nextEdge 3 rfl ?_
    refine zV.cv kX0_nextEdge rfl lX0_34 (o_slopeOf E h hi) (by decide) rfl (hf) rfl rfl rfl (Nat.le_of_ble_eq_true rfl) ?_
    rintro _ _ ⟨rfl, rfl⟩
    refine zV.if2 kX0_nextEdge rfl (fun c1 => ?_) (fun c1 => ?_)
    · skip
      have c1 := (iI_le (a := sl ld (e / 2)) (b := 0) (by omega) (by omega) (by omega) (by omega)).mp c1
      refine zV.run kX0_nextEdge 4 rfl ?_
      refine zV.icf kX0_nextEdge (cd := .ne) rfl (fun q => q rfl) ?_
      refine zV.run kX0_nextEdge 4 rfl ?_
      rw [hl _ (by omega), em _ (by omega)]
      exact zV.iret kX0_nextEdge rfl rfl (⟨by unfold nxe; rw [if_neg c, if_neg (by omega)], rfl⟩)
    · skip
      have c1 := mt (iI_le (a := sl ld (e / 2)) (b := 0) (by omega) (by omega) (by omega) (by omega)).mpr c1
      refine zV.run kX0_nextEdge 5 rfl ?_
      refine zV.ict kX0_nextEdge (cd := .ne) rfl (by show ¬ (0 : Int32) = 1; decide) ?_
      refine zV.run kX0_nextEdge 5 rfl ?_
      rw [hl _ (by omega), em _ (by omega), show (1 : Int32) = nI 1 from rfl, pk_sub (by omega)]
      exact zV.iret kX0_nextEdge rfl rfl (⟨by unfold nxe; rw [if_neg c, if_pos (by omega)], rfl⟩)
  · skip
    have c := (nI_eq (a := e % 2) (b := 0) (by omega) (by omega)).mp (Decidable.not_not.mp c)
    refine zV.run kX0_nextEdge 4 rfl ?_
    refine zV.iff kX0_nextEdge (cd := .eq) rfl (by show ¬ (1 : Int32) = 0; decide) ?_
    refine zV.run kX0_nextEdge 1 rfl ?_
    refine zV.gf kX0_nextEdge rfl fX0_15 (hf) rfl ?_
    refine zV.run kX0_nextEdge 1 rfl ?_
    refine zV.ial kX0_nextEdge rfl (hg) (e / 2) (rfl) (by omega) (by decide) ?_
    refine zV.run kX0_nextEdge 4 rfl ?_
    refine zV.cv kX0_nextEdge rfl lX0_34 (o_slopeOf E h hi) (by decide) rfl (hf) rfl rfl rfl (Nat.le_of_ble_eq_true rfl) ?_
    rintro _ _ ⟨rfl, rfl⟩
    refine zV.if2 kX0_nextEdge rfl (fun c1 => ?_) (fun c1 => ?_)
    · skip
      have c1 := (iI_le (a := sl ld (e / 2)) (b := 0) (by omega) (by omega) (by omega) (by omega)).mp c1
      refine zV.run kX0_nextEdge 4 rfl ?_
      refine zV.ict kX0_nextEdge (cd := .ne) rfl (by show ¬ (1 : Int32) = 0; decide) ?_
      refine zV.run kX0_nextEdge 5 rfl ?_
      rw [hl _ (by omega), em _ (by omega), show (1 : Int32) = nI 1 from rfl, pk_sub (by omega)]
      exact zV.iret kX0_nextEdge rfl rfl (⟨by unfold nxe; rw [if_pos c, if_neg (by omega)], rfl⟩)
    · skip
      have c1 := mt (iI_le (a := sl ld (e / 2)) (b := 0) (by omega) (by omega) (by omega) (by omega)).mpr c1
      refine zV.run kX0_nextEdge 5 rfl ?_
      refine zV.icf kX0_nextEdge (cd := .ne) rfl (fun q => q rfl) ?_
      refine zV.run kX0_nextEdge 4 rfl ?_
      rw [hl _ (by omega), em _ (by omega)]
      exact zV.iret kX0_nextEdge rfl rfl (⟨by unfold nxe; rw [if_pos c, if_pos (by omega)], rfl⟩)
theorem o_hasPoint (E : zE) {w : zWd} {f g n : Nat} {ld : Nat → Nat} (h : zFo w f g n ld) (a b : Int64) : zOk E mX0_hasPoint 0 [.ref f, .long a, .long b] w (zR0 w (.int (zq (1 ≤ b.toInt ∧ b.toInt ≤ 100000 ∧ 0 ≤ a.toInt ∧ a.toInt ≤ n * b.toInt)))) := by
  obtain ⟨led, hf, hg, hl, h1, h5, hb⟩ := id h
  refine zOk.of (by decide +kernel) (Nat.le_of_ble_eq_true rfl) ?_
  refine zV.run kX0_hasPoint 2 rfl ?_
  refine zV.il2 kX0_hasPoint rfl rfl (fun c => ?_) (fun c => ?_)
  · skip
    have c : b.toInt < 1 := i64_lt.mp c
    refine zV.run kX0_hasPoint 1 rfl ?_
    exact zV.zret kX0_hasPoint rfl rfl (Or.inl rfl) (⟨by rw [zq_f]; intro q; omega, rfl⟩)
  · skip
    have c : 1 ≤ b.toInt := i64_le.mp (Int64.not_lt.mp c)
    refine zV.run kX0_hasPoint 1 rfl ?_
    refine zV.ldc2 kX0_hasPoint rfl qX0_19 ?_
    refine zV.il2 kX0_hasPoint rfl rfl (fun c2 => ?_) (fun c2 => ?_)
    · skip
      have c2 : 100000 < b.toInt := i64_lt.mp c2
      refine zV.run kX0_hasPoint 1 rfl ?_
      exact zV.zret kX0_hasPoint rfl rfl (Or.inl rfl) (⟨by rw [zq_f]; intro q; omega, rfl⟩)
    · skip
      have c2 : b.toInt ≤ 100000 := i64_le.mp (Int64.not_lt.mp c2)
      refine zV.run kX0_hasPoint 2 rfl ?_
      refine zV.il2 kX0_hasPoint rfl rfl (fun c3 => ?_) (fun c3 => ?_)
      · skip
        have c3 : a.toInt < 0 := i64_lt.mp c3
        refine zV.run kX0_hasPoint 1 rfl ?_
        exact zV.zret kX0_hasPoint rfl rfl (Or.inl rfl) (⟨by rw [zq_f]; intro q; omega, rfl⟩)
      · skip
        have c3 : 0 ≤ a.toInt := i64_le.mp (Int64.not_lt.mp c3)
        have hm : (n : Int) * b.toInt ≤ 5 * b.toInt := Int.mul_le_mul_of_nonneg_right (by omega) (by omega)
        have hm0 : 0 ≤ (n : Int) * b.toInt := Int.mul_nonneg (by omega) (by omega)
        have e : ((nI n).toInt64 * b).toInt = n * b.toInt := by
          rw [nI_iI, iI_l (by omega) (by omega)]
          have eb : b = lI b.toInt := lI_of b
          rw [show lI (n : Int) * b = lI (n : Int) * lI b.toInt by rw [← eb], lI_mul, lI_t (by omega) (by omega)]
        refine zV.run kX0_hasPoint 2 rfl ?_
        refine zV.gf kX0_hasPoint rfl fX0_9 (hf) rfl ?_
        refine zV.run kX0_hasPoint 3 rfl ?_
        refine zV.il2 kX0_hasPoint rfl rfl (fun c4 => ?_) (fun c4 => ?_)
        · skip
          have c4 := i64_lt.mp c4
          rw [e] at c4
          refine zV.run kX0_hasPoint 1 rfl ?_
          exact zV.zret kX0_hasPoint rfl rfl (Or.inl rfl) (⟨by rw [zq_f]; intro q; omega, rfl⟩)
        · skip
          have c4 := i64_le.mp (Int64.not_lt.mp c4)
          rw [e] at c4
          refine zV.run kX0_hasPoint 2 rfl ?_
          exact zV.zret kX0_hasPoint rfl rfl (Or.inr rfl) (⟨by rw [zq_t]; exact ⟨c, c2, c3, c4⟩, rfl⟩)
