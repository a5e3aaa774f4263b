/-! ===== the model: ways ===== -/
def wy (n : Nat) (ld : Nat → Nat) (fr : Nat) : Nat → Nat → Nat
  | 0, j => if j = fr then 1 else 0
  | s + 1, j => sumN n (fun i => wy n ld fr s i * (if cov ld i j = true then 1 else 0))
theorem sumN_c {f g : Nat → Nat} : ∀ n, (∀ i, i < n → f i = g i) → sumN n f = sumN n g
  | 0, _ => rfl
  | n + 1, h => by
    show sumN n f + f n = sumN n g + g n
    rw [sumN_c n (fun i hi => h i (by omega)), h n (by omega)]
theorem sumN_add {f g : Nat → Nat} : ∀ n, sumN n (fun i => f i + g i) = sumN n f + sumN n g
  | 0 => rfl
  | n + 1 => by
    show sumN n _ + (f n + g n) = (sumN n f + f n) + (sumN n g + g n)
    rw [sumN_add n]; omega
theorem sumN_mul {f : Nat → Nat} (c : Nat) : ∀ n, sumN n (fun i => f i * c) = sumN n f * c
  | 0 => by show 0 = 0 * c; rw [Nat.zero_mul]
  | n + 1 => by
    show sumN n _ + f n * c = (sumN n f + f n) * c
    rw [sumN_mul c n, Nat.add_mul]
theorem sumN_zero : ∀ n, sumN n (fun _ => 0) = 0
  | 0 => rfl
  | n + 1 => by show sumN n _ + 0 = 0; rw [sumN_zero n]
theorem sumN_swap {f : Nat → Nat → Nat} (m : Nat) : ∀ n, sumN n (fun i => sumN m (fun j => f i j)) = sumN m (fun j => sumN n (fun i => f i j))
  | 0 => by show 0 = _; rw [show (fun j => sumN 0 (fun i => f i j)) = (fun _ => 0) from rfl, sumN_zero]
  | n + 1 => by
    show sumN n _ + sumN m (fun j => f n j) = sumN m (fun j => sumN n (fun i => f i j) + f n j)
    rw [sumN_swap m n, sumN_add]
theorem sumN_one {c : Nat} {f : Nat → Nat} : ∀ n, c < n → sumN n (fun i => if i = c then f i else 0) = f c
  | 0, h => by omega
  | n + 1, h => by
    show sumN n _ + (if n = c then f n else 0) = f c
    by_cases e : n = c
    · subst e
      rw [if_pos rfl, sumN_c (g := fun _ => 0) n (fun i hi => if_neg (by omega)), sumN_zero]
      omega
    · rw [if_neg e, sumN_one n (by omega)]
      omega
/-- the power's other recursion -/
theorem tp_r (n : Nat) (ld : Nat → Nat) : ∀ (k i j : Nat), i < n → j < n → tp n ld (k + 1) i j = sumN n (fun b => tp n ld k i b * (if cov ld b j = true then 1 else 0))
  | 0, i, j, hi, hj => by
    have h1 : tp n ld 1 i j = if cov ld i j = true then 1 else 0 := by
      show sumN n (fun b => if cov ld i b = true then (if b = j then 1 else 0) else 0) = _
      rw [sumN_c (g := fun b => if b = j then (if cov ld i b = true then 1 else 0) else 0) n (fun b _ => by
          by_cases e1 : b = j <;> by_cases e2 : cov ld i b = true <;> simp [e1, e2]), sumN_one n hj]
    have h2 : sumN n (fun b => tp n ld 0 i b * (if cov ld b j = true then 1 else 0)) = if cov ld i j = true then 1 else 0 := by
      rw [sumN_c (g := fun b => if b = i then (if cov ld b j = true then 1 else 0) else 0) n (fun b _ => by
        show (if i = b then 1 else 0) * _ = _
        by_cases e : b = i
        · rw [if_pos e.symm, if_pos e, Nat.one_mul]
        · rw [if_neg (fun q => e q.symm), if_neg e, Nat.zero_mul]), sumN_one n hi]
    rw [h1, h2]
  | k + 1, i, j, hi, hj => by
    show sumN n (fun b => if cov ld i b = true then tp n ld (k + 1) b j else 0) = _
    rw [sumN_c (g := fun b => sumN n (fun c => (if cov ld i b = true then tp n ld k b c else 0) * (if cov ld c j = true then 1 else 0))) n (fun b hb => by
      show (if cov ld i b = true then tp n ld (k + 1) b j else 0) = sumN n (fun c => (if cov ld i b = true then tp n ld k b c else 0) * (if cov ld c j = true then 1 else 0))
      by_cases e : cov ld i b = true
      · rw [if_pos e, tp_r n ld k b j hb hj]
        exact sumN_c n (fun c _ => by rw [if_pos e])
      · rw [if_neg e, sumN_c (g := fun _ => 0) n (fun c _ => by rw [if_neg e, Nat.zero_mul]), sumN_zero]), sumN_swap]
    exact sumN_c n (fun c _ => by
      show sumN n (fun b => (if cov ld i b = true then tp n ld k b c else 0) * (if cov ld c j = true then 1 else 0)) = _
      rw [sumN_mul]
      rfl)
theorem wy_tp (n : Nat) (ld : Nat → Nat) {fr : Nat} (hf : fr < n) : ∀ (k j : Nat), j < n → wy n ld fr k j = tp n ld k fr j
  | 0, j, hj => by
    show (if j = fr then 1 else 0) = (if fr = j then 1 else 0)
    by_cases e : j = fr
    · rw [if_pos e, if_pos e.symm]
    · rw [if_neg e, if_neg (fun q => e q.symm)]
  | k + 1, j, hj => by
    rw [tp_r n ld k fr j hf hj]
    exact sumN_c n (fun i hi => by rw [wy_tp n ld hf k i hi])
theorem zq_l {p : Prop} [Decidable p] : (zq p).toInt64 = lN (if p then 1 else 0) := by
  by_cases h : p
  · rw [zq_t h, if_pos h]; rfl
  · rw [zq_f h, if_neg h]; rfl
/-- of the model's cells only 57, 58 change -/
def zFw (w w' : zWd) : Prop := ∀ a, a ≠ 57 → a ≠ 58 → w' a = w a
theorem n_fw_3 (E : zE) {w0 : zWd} {σ : zSt} {ab be : Int64} {rm en ej : Int32} {Post : Option Value → zWd → Prop} (h00 : zIs w0 49 (zMo ab be rm en ej)) (hc0 : zMc w0 σ) {m j : Nat} (hm : m < 8) (hj : j < σ.1 m) (M : Nat → Nat) (vk : Int32) {s fr : Nat} {nx0 : Nat → Int64}
    (kk : ∀ (w : zWd) (mn nx : Nat → Int64) (z6 : Value), zIs w 57 (zLA 6 mn) → zIs w 58 (zLA 6 nx) → (∀ i, i < σ.1 m → mn i = lN (M i)) → nx j = lN (sumN (σ.1 m) (fun i => M i * (if cov (σ.2 m) i j = true then 1 else 0))) → (∀ i, i ≠ j → nx i = nx0 i) → zFw w0 w → zV E mX4_findWays 1 Post 113 [.ref 49, .int (nI m), .int (nI fr), .int vk, .int (nI s), .int (nI j), z6] [] w) :
    ∀ (r i : Nat) (w : zWd) (mn nx : Nat → Int64), i + r = σ.1 m → zIs w 57 (zLA 6 mn) → zIs w 58 (zLA 6 nx) → (∀ i, i < σ.1 m → mn i = lN (M i)) → nx j = lN (sumN i (fun i => M i * (if cov (σ.2 m) i j = true then 1 else 0))) → (∀ i, i ≠ j → nx i = nx0 i) → zFw w0 w → zV E mX4_findWays 1 Post 68 [.ref 49, .int (nI m), .int (nI fr), .int vk, .int (nI s), .int (nI j), .int (nI i)] [] w := by
  obtain ⟨⟨sz, a1, a2⟩, -, hv⟩ := id hc0
  obtain ⟨v1, v5, vl⟩ := hv m hm
  intro r
  induction r with
  | zero =>
    intro i w mn nx hi hmn hnx e1 e2 e3 hw
    have h0 := h00.k (hw 49 (by decide) (by decide))
    have e : i = σ.1 m := by omega
    subst e
    refine zV.run kX4_findWays 2 rfl ?_
    refine zV.gf kX4_findWays rfl fX4_7 (h0) rfl ?_
    refine zV.run kX4_findWays 1 rfl ?_
    refine zV.ial kX4_findWays rfl (a1.k (hw 50 (by decide) (by decide))) (m) (rfl) (hm) (by decide) ?_
    rw [a2 m hm]
    refine zV.ict kX4_findWays (cd := .ge) rfl (Int32.le_refl _) ?_
    exact kk w mn nx _ hmn hnx e1 e2 e3 hw
  | succ r ih =>
    intro i w mn nx hi hmn hnx e1 e2 e3 hw
    have h0 := h00.k (hw 49 (by decide) (by decide))
    have hc := hc0.k (hw 50 (by decide) (by decide)) (hw 51 (by decide) (by decide))
    refine zV.run kX4_findWays 2 rfl ?_
    refine zV.gf kX4_findWays rfl fX4_7 (h0) rfl ?_
    refine zV.run kX4_findWays 1 rfl ?_
    refine zV.ial kX4_findWays rfl (a1.k (hw 50 (by decide) (by decide))) (m) (rfl) (hm) (by decide) ?_
    rw [a2 m hm]
    refine zV.icf kX4_findWays (cd := .ge) rfl (nI_ge (by omega) (by omega)) ?_
    refine zV.run kX4_findWays 1 rfl ?_
    refine zV.gf kX4_findWays rfl fX4_36 (h0) rfl ?_
    refine zV.run kX4_findWays 2 rfl ?_
    refine zV.lal kX4_findWays rfl (hnx) (j) (rfl) (by omega) (by decide) ?_
    refine zV.run kX4_findWays 1 rfl ?_
    refine zV.gf kX4_findWays rfl fX4_33 (h0) rfl ?_
    refine zV.run kX4_findWays 1 rfl ?_
    refine zV.lal kX4_findWays rfl (hmn) (i) (rfl) (by omega) (by decide) ?_
    refine zV.run kX4_findWays 4 rfl ?_
    refine zV.cv kX4_findWays rfl lX4_104 (n_covers E h0 hc hm (i := i) (j := j) (by omega) (by omega)) (by decide) rfl (h0) rfl rfl rfl (Nat.le_of_ble_eq_true rfl) ?_
    rintro _ _ ⟨rfl, rfl⟩
    refine zV.run kX4_findWays 3 rfl ?_
    rw [e2, e1 i (by omega), zq_l, lN_mul, lN_add]
    refine zV.las kX4_findWays rfl (hnx) (j) (rfl) (by omega) (by decide) ?_
    refine zV.run kX4_findWays 2 rfl ?_
    rw [nI_1]
    exact ih (i + 1) _ mn _ (by omega) (hmn.n (by decide)) (zIs.s hnx.1) e1 (by rw [pk_uLs]; rfl) (fun q hq => by rw [pk_uLn hq]; exact e3 q hq) (fun a q1 q2 => by rw [zup_ne q2]; exact hw a q1 q2)
theorem n_fw_2 (E : zE) {w0 : zWd} {σ : zSt} {ab be : Int64} {rm en ej : Int32} {Post : Option Value → zWd → Prop} (h00 : zIs w0 49 (zMo ab be rm en ej)) (hc0 : zMc w0 σ) {m : Nat} (hm : m < 8) (M : Nat → Nat) (vk : Int32) {s fr : Nat}
    (kk : ∀ (w : zWd) (mn nx : Nat → Int64) (z5 z6 : Value), zIs w 57 (zLA 6 mn) → zIs w 58 (zLA 6 nx) → (∀ i, i < σ.1 m → nx i = lN (sumN (σ.1 m) (fun q => M q * (if cov (σ.2 m) q i = true then 1 else 0)))) → zFw w0 w → zV E mX4_findWays 1 Post 119 [.ref 49, .int (nI m), .int (nI fr), .int vk, .int (nI s), z5, z6] [] w) :
    ∀ (r j : Nat) (w : zWd) (mn nx : Nat → Int64) (z6 : Value), j + r = σ.1 m → zIs w 57 (zLA 6 mn) → zIs w 58 (zLA 6 nx) → (∀ i, i < σ.1 m → mn i = lN (M i)) → (∀ i, i < j → nx i = lN (sumN (σ.1 m) (fun q => M q * (if cov (σ.2 m) q i = true then 1 else 0)))) → zFw w0 w → zV E mX4_findWays 1 Post 46 [.ref 49, .int (nI m), .int (nI fr), .int vk, .int (nI s), .int (nI j), z6] [] w := by
  obtain ⟨⟨sz, a1, a2⟩, -, hv⟩ := id hc0
  obtain ⟨v1, v5, vl⟩ := hv m hm
  intro r
  induction r with
  | zero =>
    intro j w mn nx z6 hj hmn hnx e1 e2 hw
    have h0 := h00.k (hw 49 (by decide) (by decide))
    have e : j = σ.1 m := by omega
    subst e
    refine zV.run kX4_findWays 2 rfl ?_
    refine zV.gf kX4_findWays rfl fX4_7 (h0) rfl ?_
    refine zV.run kX4_findWays 1 rfl ?_
    refine zV.ial kX4_findWays rfl (a1.k (hw 50 (by decide) (by decide))) (m) (rfl) (hm) (by decide) ?_
    rw [a2 m hm]
    refine zV.ict kX4_findWays (cd := .ge) rfl (Int32.le_refl _) ?_
    exact kk w mn nx _ _ hmn hnx e2 hw
  | succ r ih =>
    intro j w mn nx z6 hj hmn hnx e1 e2 hw
    have h0 := h00.k (hw 49 (by decide) (by decide))
    refine zV.run kX4_findWays 2 rfl ?_
    refine zV.gf kX4_findWays rfl fX4_7 (h0) rfl ?_
    refine zV.run kX4_findWays 1 rfl ?_
    refine zV.ial kX4_findWays rfl (a1.k (hw 50 (by decide) (by decide))) (m) (rfl) (hm) (by decide) ?_
    rw [a2 m hm]
    refine zV.icf kX4_findWays (cd := .ge) rfl (nI_ge (by omega) (by omega)) ?_
    refine zV.run kX4_findWays 1 rfl ?_
    refine zV.gf kX4_findWays rfl fX4_36 (h0) rfl ?_
    refine zV.run kX4_findWays 2 rfl ?_
    refine zV.las kX4_findWays rfl (hnx) (j) (rfl) (by omega) (by decide) ?_
    refine zV.run kX4_findWays 2 rfl ?_
    refine n_fw_3 E h00 hc0 hm (j := j) (by omega) M vk (nx0 := nx) (fun w2 mn2 nx2 y6 q1 q2 q3 q4 q5 q6 => ?_) (σ.1 m) 0 _ mn _ (by omega) (hmn.n (by decide)) (zIs.s hnx.1) e1 (by rw [pk_uLs]; rfl) (fun q hq => pk_uLn hq) (fun a q1 q2 => by rw [zup_ne q2]; exact hw a q1 q2)
    refine zV.run kX4_findWays 2 rfl ?_
    rw [nI_1]
    refine ih (j + 1) w2 mn2 nx2 _ (by omega) q1 q2 q3 (fun i hi => ?_) q6
    by_cases e : i = j
    · rw [e]; exact q4
    · rw [q5 i e]; exact e2 i (by omega)
theorem n_fw_2b (E : zE) {w0 : zWd} {σ : zSt} {ab be : Int64} {rm en ej : Int32} {Post : Option Value → zWd → Prop} (h00 : zIs w0 49 (zMo ab be rm en ej)) (hc0 : zMc w0 σ) {m : Nat} (hm : m < 8) (M : Nat → Nat) (vk : Int32) {s fr : Nat}
    (kk : ∀ (w : zWd) (mn nx : Nat → Int64) (z5 z6 : Value), zIs w 57 (zLA 6 mn) → zIs w 58 (zLA 6 nx) → (∀ i, i < σ.1 m → mn i = lN (M i)) → zFw w0 w → zV E mX4_findWays 1 Post 153 [.ref 49, .int (nI m), .int (nI fr), .int vk, .int (nI s), z5, z6] [] w) :
    ∀ (r j : Nat) (w : zWd) (mn nx : Nat → Int64) (z6 : Value), j + r = σ.1 m → zIs w 57 (zLA 6 mn) → zIs w 58 (zLA 6 nx) → (∀ i, i < σ.1 m → nx i = lN (M i)) → (∀ i, i < j → mn i = lN (M i)) → zFw w0 w → zV E mX4_findWays 1 Post 122 [.ref 49, .int (nI m), .int (nI fr), .int vk, .int (nI s), .int (nI j), z6] [] w := by
  obtain ⟨⟨sz, a1, a2⟩, -, hv⟩ := id hc0
  obtain ⟨v1, v5, vl⟩ := hv m hm
  intro r
  induction r with
  | zero =>
    intro j w mn nx z6 hj hmn hnx e1 e2 hw
    have h0 := h00.k (hw 49 (by decide) (by decide))
    have e : j = σ.1 m := by omega
    subst e
    refine zV.run kX4_findWays 2 rfl ?_
    refine zV.gf kX4_findWays rfl fX4_7 (h0) rfl ?_
    refine zV.run kX4_findWays 1 rfl ?_
    refine zV.ial kX4_findWays rfl (a1.k (hw 50 (by decide) (by decide))) (m) (rfl) (hm) (by decide) ?_
    rw [a2 m hm]
    refine zV.ict kX4_findWays (cd := .ge) rfl (Int32.le_refl _) ?_
    exact kk w mn nx _ _ hmn hnx e2 hw
  | succ r ih =>
    intro j w mn nx z6 hj hmn hnx e1 e2 hw
    have h0 := h00.k (hw 49 (by decide) (by decide))
    refine zV.run kX4_findWays 2 rfl ?_
    refine zV.gf kX4_findWays rfl fX4_7 (h0) rfl ?_
    refine zV.run kX4_findWays 1 rfl ?_
    refine zV.ial kX4_findWays rfl (a1.k (hw 50 (by decide) (by decide))) (m) (rfl) (hm) (by decide) ?_
    rw [a2 m hm]
    refine zV.icf kX4_findWays (cd := .ge) rfl (nI_ge (by omega) (by omega)) ?_
    refine zV.run kX4_findWays 1 rfl ?_
    refine zV.gf kX4_findWays rfl fX4_33 (h0) rfl ?_
    refine zV.run kX4_findWays 2 rfl ?_
    refine zV.gf kX4_findWays rfl fX4_36 (h0) rfl ?_
    refine zV.run kX4_findWays 1 rfl ?_
    refine zV.lal kX4_findWays rfl (hnx) (j) (rfl) (by omega) (by decide) ?_
    refine zV.las kX4_findWays rfl (hmn) (j) (rfl) (by omega) (by decide) ?_
    refine zV.run kX4_findWays 2 rfl ?_
    rw [nI_1]
    refine ih (j + 1) _ _ nx _ (by omega) (zIs.s hmn.1) (hnx.n (by decide)) e1 (fun i hi => ?_) (fun a q1 q2 => by rw [zup_ne q1]; exact hw a q1 q2)
    by_cases e : i = j
    · rw [e, pk_uLs]; exact e1 j (by omega)
    · rw [pk_uLn e]; exact e2 i (by omega)
theorem n_fw_1 (E : zE) {w0 : zWd} {σ : zSt} {ab be : Int64} {rm en ej : Int32} (h00 : zIs w0 49 (zMo ab be rm en ej)) (hc0 : zMc w0 σ) {m fr k : Nat} (hm : m < 8) (hk : k ≤ 10) :
    ∀ (r s : Nat) (w : zWd) (mn nx : Nat → Int64) (z5 z6 : Value), s + r = k → zIs w 57 (zLA 6 mn) → zIs w 58 (zLA 6 nx) → (∀ i, i < σ.1 m → mn i = lN (wy (σ.1 m) (σ.2 m) fr s i)) → zFw w0 w → zV E mX4_findWays 1 (fun r' w' => r' = none ∧ zFw w0 w' ∧ (∃ nx, zIs w' 58 (zLA 6 nx)) ∧ ∃ mn, zIs w' 57 (zLA 6 mn) ∧ ∀ i, i < σ.1 m → mn i = lN (wy (σ.1 m) (σ.2 m) fr k i)) 37 [.ref 49, .int (nI m), .int (nI fr), .int (nI k), .int (nI s), z5, z6] [] w := by
  intro r
  induction r with
  | zero =>
    intro s w mn nx z5 z6 hs hmn hnx e1 hw
    have e : s = k := by omega
    subst e
    refine zV.run kX4_findWays 2 rfl ?_
    refine zV.ict kX4_findWays (cd := .ge) rfl (Int32.le_refl _) ?_
    exact zV.vret kX4_findWays rfl rfl (⟨rfl, hw, ⟨nx, hnx⟩, mn, hmn, e1⟩)
  | succ r ih =>
    intro s w mn nx z5 z6 hs hmn hnx e1 hw
    refine zV.run kX4_findWays 2 rfl ?_
    refine zV.icf kX4_findWays (cd := .ge) rfl (nI_ge (by omega) (by omega)) ?_
    refine zV.run kX4_findWays 2 rfl ?_
    refine n_fw_2 E h00 hc0 hm (wy (σ.1 m) (σ.2 m) fr s) (nI k) (fun w2 mn2 nx2 y5 y6 q1 q2 q3 q4 => ?_) (σ.1 m) 0 w mn nx _ (by omega) hmn hnx e1 (fun i hi => by omega) hw
    refine zV.run kX4_findWays 2 rfl ?_
    refine n_fw_2b E h00 hc0 hm (wy (σ.1 m) (σ.2 m) fr (s + 1)) (nI k) (fun w3 mn3 nx3 y5 y6 p1 p2 p3 p4 => ?_) (σ.1 m) 0 w2 mn2 nx2 _ (by omega) q1 q2 q3 (fun i hi => by omega) q4
    refine zV.run kX4_findWays 2 rfl ?_
    rw [nI_1]
    exact ih (s + 1) w3 mn3 nx3 _ _ (by omega) p1 p2 p3 p4
theorem n_fw_0 (E : zE) {w0 : zWd} {σ : zSt} {ab be : Int64} {rm en ej : Int32} (h00 : zIs w0 49 (zMo ab be rm en ej)) (hc0 : zMc w0 σ) {m fr k : Nat} (hm : m < 8) (hk : k ≤ 10) (hfr : fr < 100) {nx : Nat → Int64} (hnx0 : zIs w0 58 (zLA 6 nx)) :
    ∀ (r j : Nat) (w : zWd) (mn : Nat → Int64), j + r = 6 → zIs w 57 (zLA 6 mn) → (∀ i, i < j → mn i = lN (if i = fr then 1 else 0)) → (∀ a, a ≠ 57 → w a = w0 a) → zV E mX4_findWays 1 (fun r' w' => r' = none ∧ zFw w0 w' ∧ (∃ nx, zIs w' 58 (zLA 6 nx)) ∧ ∃ mn, zIs w' 57 (zLA 6 mn) ∧ ∀ i, i < σ.1 m → mn i = lN (wy (σ.1 m) (σ.2 m) fr k i)) 3 [.ref 49, .int (nI m), .int (nI fr), .int (nI k), .int (nI j), zU, zU] [] w := by
  obtain ⟨v1, v5, vl⟩ := hc0.2.2 m hm
  intro r
  induction r with
  | zero =>
    intro j w mn hj hmn e1 hw
    have e : j = 6 := by omega
    subst e
    refine zV.run kX4_findWays 2 rfl ?_
    refine zV.ict kX4_findWays (cd := .ge) rfl (Int32.le_refl _) ?_
    refine zV.run kX4_findWays 2 rfl ?_
    exact n_fw_1 E h00 hc0 hm hk k 0 w mn nx _ _ (by omega) hmn (hnx0.k (hw 58 (by decide))) (fun i hi => e1 i (by omega)) (fun a q1 _ => hw a q1)
  | succ r ih =>
    intro j w mn hj hmn e1 hw
    have h0 := h00.k (hw 49 (by decide))
    have nxt : ∀ x : Int64, x = lN (if j = fr then 1 else 0) → zV E mX4_findWays 1 (fun r' w' => r' = none ∧ zFw w0 w' ∧ (∃ nx, zIs w' 58 (zLA 6 nx)) ∧ ∃ mn, zIs w' 57 (zLA 6 mn) ∧ ∀ i, i < σ.1 m → mn i = lN (wy (σ.1 m) (σ.2 m) fr k i)) 3 [.ref 49, .int (nI m), .int (nI fr), .int (nI k), .int (nI (j + 1)), zU, zU] [] (va_up w 57 (zLA 6 (vp_updL mn j x))) := by
      intro x hx
      refine ih (j + 1) _ _ (by omega) (zIs.s hmn.1) (fun i hi => ?_) (fun a q1 => by rw [zup_ne q1]; exact hw a q1)
      by_cases e : i = j
      · rw [e, pk_uLs, hx]
      · rw [pk_uLn e]; exact e1 i (by omega)
    refine zV.run kX4_findWays 2 rfl ?_
    refine zV.icf kX4_findWays (cd := .ge) rfl (fun q => absurd ((nI_leI (a := 6) (b := j) (by omega) (by omega)).mp q) (by omega)) ?_
    refine zV.run kX4_findWays 1 rfl ?_
    refine zV.gf kX4_findWays rfl fX4_33 (h0) rfl ?_
    refine zV.run kX4_findWays 3 rfl ?_
    refine zV.ic2 kX4_findWays rfl (fun c => ?_) (fun c => ?_)
    · skip
      have c := mt (nI_eq (a := j) (b := fr) (by omega) (by omega)).mpr c
      refine zV.run kX4_findWays 1 rfl ?_
      refine zV.las kX4_findWays rfl (hmn) (j) (rfl) (by omega) (by decide) ?_
      refine zV.run kX4_findWays 2 rfl ?_
      rw [nI_1]
      exact nxt 0 (by rw [if_neg c]; rfl)
    · skip
      have c := (nI_eq (by omega) (by omega)).mp (Decidable.not_not.mp c)
      refine zV.run kX4_findWays 2 rfl ?_
      refine zV.las kX4_findWays rfl (hmn) (j) (rfl) (by omega) (by decide) ?_
      refine zV.run kX4_findWays 2 rfl ?_
      rw [nI_1]
      exact nxt 1 (by rw [if_pos c]; rfl)
theorem n_findWays (E : zE) {w : zWd} {σ : zSt} {ab be : Int64} {rm en ej : Int32} (h0 : zIs w 49 (zMo ab be rm en ej)) (hc : zMc w σ) (hx : zMx w) {m fr k : Nat} (hm : m < 8) (hk : k ≤ 10) (hfr : fr < 100) : zOk E mX4_findWays 1 [.ref 49, .int (nI m), .int (nI fr), .int (nI k)] w (fun r' w' => r' = none ∧ zFw w w' ∧ (∃ nx, zIs w' 58 (zLA 6 nx)) ∧ ∃ mn, zIs w' 57 (zLA 6 mn) ∧ ∀ i, i < σ.1 m → mn i = lN (wy (σ.1 m) (σ.2 m) fr k i)) := by
  obtain ⟨mn, hmn⟩ := hx.2.2.2.2.2.1
  obtain ⟨nx, hnx⟩ := hx.2.2.2.2.2.2.1
  refine zOk.of (by decide +kernel) (Nat.le_of_ble_eq_true rfl) ?_
  refine zV.run kX4_findWays 2 rfl ?_
  exact n_fw_0 E h0 hc hm hk hfr hnx 6 0 w mn (by omega) hmn (fun i hi => by omega) (fun _ _ => rfl)
theorem zMs.fw {w w' : zWd} {σ : zSt} (h : zMs w σ) (hw : zFw w w') (h7 : ∃ f, zIs w' 57 (zLA 6 f)) (h8 : ∃ f, zIs w' 58 (zLA 6 f)) : zMs w' σ := by
  obtain ⟨⟨ab, be, rm, en, ej, h0⟩, hc, ⟨⟨f2, x2⟩, ⟨f3, x3⟩, ⟨f4, x4⟩, ⟨f5, x5⟩, ⟨f6, x6⟩, -, -, ⟨f9, x9⟩, ⟨f0, x0⟩⟩⟩ := h
  exact ⟨⟨ab, be, rm, en, ej, h0.k (hw _ (by decide) (by decide))⟩, hc.k (hw _ (by decide) (by decide)) (hw _ (by decide) (by decide)), ⟨f2, x2.k (hw _ (by decide) (by decide))⟩, ⟨f3, x3.k (hw _ (by decide) (by decide))⟩, ⟨f4, x4.k (hw _ (by decide) (by decide))⟩, ⟨f5, x5.k (hw _ (by decide) (by decide))⟩, ⟨f6, x6.k (hw _ (by decide) (by decide))⟩, h7, h8, ⟨f9, x9.k (hw _ (by decide) (by decide))⟩, ⟨f0, x0.k (hw _ (by decide) (by decide))⟩⟩
theorem n_ways (E : zE) {w : zWd} {σ : zSt} (h : zMs w σ) (m i j k : Int32) : zOk E mX4_ways 3 [.ref 49, .int m, .int i, .int j, .int k] w (zPm w (.long (if okM m ∧ (0 ≤ i.toInt ∧ i.toInt < σ.1 m.toInt.toNat) ∧ (0 ≤ j.toInt ∧ j.toInt < σ.1 m.toInt.toNat) ∧ (0 ≤ k.toInt ∧ k.toInt ≤ 10) then lN (tp (σ.1 m.toInt.toNat) (σ.2 m.toInt.toNat) k.toInt.toNat i.toInt.toNat j.toInt.toNat) else -2)) σ) := by
  obtain ⟨⟨ab, be, rm, en, ej, h0⟩, hc, hx⟩ := id h
  refine zOk.of (by decide +kernel) (Nat.le_of_ble_eq_true rfl) ?_
  refine zV.run kX4_ways 3 rfl ?_
  refine zV.cv kX4_ways rfl lX4_100 (n_isSpan E h0 hc m i) (by decide) rfl (h0) rfl rfl rfl (Nat.le_of_ble_eq_true rfl) ?_
  rintro _ _ ⟨rfl, rfl⟩
  refine zV.if2 kX4_ways rfl (fun c => ?_) (fun c => ?_)
  · skip
    have c := zq_eq0.mp c
    rw [if_neg (fun q => c ⟨q.1, q.2.1⟩)]
    refine zV.ldc2 kX4_ways rfl qX4_88 ?_
    exact zV.lret kX4_ways rfl rfl (⟨rfl, h, fun _ _ => rfl⟩)
  · skip
    have c := Decidable.not_not.mp (mt zq_eq0.mpr c)
    refine zV.run kX4_ways 3 rfl ?_
    refine zV.cv kX4_ways rfl lX4_100 (n_isSpan E h0 hc m j) (by decide) rfl (h0) rfl rfl rfl (Nat.le_of_ble_eq_true rfl) ?_
    rintro _ _ ⟨rfl, rfl⟩
    refine zV.if2 kX4_ways rfl (fun c2 => ?_) (fun c2 => ?_)
    · skip
      have c2 := zq_eq0.mp c2
      rw [if_neg (fun q => c2 ⟨q.1, q.2.2.1⟩)]
      refine zV.ldc2 kX4_ways rfl qX4_88 ?_
      exact zV.lret kX4_ways rfl rfl (⟨rfl, h, fun _ _ => rfl⟩)
    · skip
      have c2 := Decidable.not_not.mp (mt zq_eq0.mpr c2)
      refine zV.run kX4_ways 3 rfl ?_
      refine zV.ldc2 kX4_ways rfl qX4_108 ?_
      refine zV.cs kX4_ways rfl lX4_47 (n_in E w k.toInt64 0 10) (by decide) rfl rfl (Nat.le_of_ble_eq_true rfl) ?_
      rintro _ _ ⟨rfl, rfl⟩
      rw [zq_c inK]
      refine zV.if2 kX4_ways rfl (fun c3 => ?_) (fun c3 => ?_)
      · skip
        have c3 : 0 ≤ k.toInt ∧ k.toInt ≤ 10 := Decidable.not_not.mp (mt zq_eq0.mpr c3)
        rw [if_pos ⟨c.1, c.2, c2.2, c3⟩]
        obtain ⟨mm, emm⟩ : ∃ mm, mm = m.toInt.toNat := ⟨_, rfl⟩
        have em : m = nI mm := by rw [emm]; exact i32_nI c.1.1
        have hm : mm < 8 := by omega
        have v5 := (hc.2.2 mm hm).2.1
        obtain ⟨ii, eii⟩ : ∃ ii, ii = i.toInt.toNat := ⟨_, rfl⟩
        have ei : i = nI ii := by rw [eii]; exact i32_nI c.2.1
        obtain ⟨jj, ejj⟩ : ∃ ii, ii = j.toInt.toNat := ⟨_, rfl⟩
        have ej2 : j = nI jj := by rw [ejj]; exact i32_nI c2.2.1
        obtain ⟨kk, ekk⟩ : ∃ ii, ii = k.toInt.toNat := ⟨_, rfl⟩
        have ek : k = nI kk := by rw [ekk]; exact i32_nI c3.1
        rw [← emm] at c c2
        rw [← emm, ← eii, ← ejj, ← ekk, em, ei, ej2, ek]
        refine zV.run kX4_ways 4 rfl ?_
        refine zV.cv kX4_ways rfl lX4_110 (n_findWays E h0 hc hx hm (fr := ii) (k := kk) (by omega) (by omega)) (by decide) rfl (h0) rfl rfl rfl (Nat.le_of_ble_eq_true rfl) ?_
        rintro _ w9 ⟨rfl, hw9, h8, mn, hmn, e1⟩
        refine zV.run kX4_ways 1 rfl ?_
        refine zV.gf kX4_ways rfl fX4_33 (h0.k (hw9 49 (by decide) (by decide))) rfl ?_
        refine zV.run kX4_ways 1 rfl ?_
        refine zV.lal kX4_ways rfl (hmn) (jj) (rfl) (by omega) (by decide) ?_
        rw [e1 jj (by omega), wy_tp _ _ (by omega) _ _ (by omega)]
        exact zV.lret kX4_ways rfl rfl (⟨rfl, h.fw hw9 ⟨mn, hmn⟩ h8, fun a ha => hw9 a (by omega) (by omega)⟩)
      · skip
        have c3 : ¬ (0 ≤ k.toInt ∧ k.toInt ≤ 10) := zq_eq0.mp (Decidable.not_not.mp c3)
        rw [if_neg (fun q => c3 q.2.2.2)]
        refine zV.ldc2 kX4_ways rfl qX4_88 ?_
        exact zV.lret kX4_ways rfl rfl (⟨rfl, h, fun _ _ => rfl⟩)
theorem n_pieces_2 (E : zE) {w : zWd} {σ : zSt} {ab be : Int64} {rm en ej : Int32} {Post : Option Value → zWd → Prop} (h0 : zIs w 49 (zMo ab be rm en ej)) (hc : zMc w σ) {m i : Nat} (hm : m < 8) {mn : Nat → Int64} (hmn : zIs w 57 (zLA 6 mn)) (M : Nat → Nat) (e1 : ∀ i, i < σ.1 m → mn i = lN (M i)) (vk : Int32) (s : Nat)
    (kk : ∀ z6 : Value, zV E mX4_pieces 2 Post 77 [.ref 49, .int (nI m), .int vk, .long (lN (s + sumN (σ.1 m) M)), zU, .int (nI i), z6] [] w) :
    ∀ (r j : Nat), j + r = σ.1 m → zV E mX4_pieces 2 Post 50 [.ref 49, .int (nI m), .int vk, .long (lN (s + sumN j M)), zU, .int (nI i), .int (nI j)] [] w := by
  obtain ⟨⟨sz, a1, a2⟩, -, hv⟩ := id hc
  obtain ⟨v1, v5, vl⟩ := hv m hm
  intro r
  induction r with
  | zero =>
    intro j hj
    have e : j = σ.1 m := by omega
    subst e
    refine zV.run kX4_pieces 2 rfl ?_
    refine zV.gf kX4_pieces rfl fX4_7 (h0) rfl ?_
    refine zV.run kX4_pieces 1 rfl ?_
    refine zV.ial kX4_pieces rfl (a1) (m) (rfl) (hm) (by decide) ?_
    rw [a2 m hm]
    refine zV.ict kX4_pieces (cd := .ge) rfl (Int32.le_refl _) ?_
    exact kk _
  | succ r ih =>
    intro j hj
    refine zV.run kX4_pieces 2 rfl ?_
    refine zV.gf kX4_pieces rfl fX4_7 (h0) rfl ?_
    refine zV.run kX4_pieces 1 rfl ?_
    refine zV.ial kX4_pieces rfl (a1) (m) (rfl) (hm) (by decide) ?_
    rw [a2 m hm]
    refine zV.icf kX4_pieces (cd := .ge) rfl (nI_ge (by omega) (by omega)) ?_
    refine zV.run kX4_pieces 2 rfl ?_
    refine zV.gf kX4_pieces rfl fX4_33 (h0) rfl ?_
    refine zV.run kX4_pieces 1 rfl ?_
    refine zV.lal kX4_pieces rfl (hmn) (j) (rfl) (by omega) (by decide) ?_
    rw [e1 j (by omega)]
    refine zV.run kX4_pieces 4 rfl ?_
    rw [lN_add, nI_1, Nat.add_assoc]
    exact ih (j + 1) (by omega)
theorem n_pieces_1 (E : zE) {w0 : zWd} {σ : zSt} (h : zMs w0 σ) {m k : Nat} (hm : m < 8) (hk : k ≤ 10) : ∀ (r i : Nat) (w : zWd) (z6 : Value), i + r = σ.1 m → zMs w σ → zFw w0 w → zV E mX4_pieces 2 (zPm w0 (.long (lN (sumN (σ.1 m) (fun i => sumN (σ.1 m) (tp (σ.1 m) (σ.2 m) k i))))) σ) 28 [.ref 49, .int (nI m), .int (nI k), .long (lN (sumN i (fun i => sumN (σ.1 m) (tp (σ.1 m) (σ.2 m) k i)))), zU, .int (nI i), z6] [] w := by
  intro r
  induction r with
  | zero =>
    intro i w z6 hi hs hw
    obtain ⟨⟨ab, be, rm, en, ej, h0⟩, hc, hx⟩ := id hs
    obtain ⟨⟨sz, a1, a2⟩, -, hv⟩ := id hc
    have e : i = σ.1 m := by omega
    subst e
    refine zV.run kX4_pieces 2 rfl ?_
    refine zV.gf kX4_pieces rfl fX4_7 (h0) rfl ?_
    refine zV.run kX4_pieces 1 rfl ?_
    refine zV.ial kX4_pieces rfl (a1) (m) (rfl) (hm) (by decide) ?_
    rw [a2 m hm]
    refine zV.ict kX4_pieces (cd := .ge) rfl (Int32.le_refl _) ?_
    refine zV.run kX4_pieces 1 rfl ?_
    exact zV.lret kX4_pieces rfl rfl (⟨rfl, hs, fun a ha => hw a (by omega) (by omega)⟩)
  | succ r ih =>
    intro i w z6 hi hs hw
    obtain ⟨⟨ab, be, rm, en, ej, h0⟩, hc, hx⟩ := id hs
    obtain ⟨⟨sz, a1, a2⟩, -, hv⟩ := id hc
    have v5 := (hv m hm).2.1
    refine zV.run kX4_pieces 2 rfl ?_
    refine zV.gf kX4_pieces rfl fX4_7 (h0) rfl ?_
    refine zV.run kX4_pieces 1 rfl ?_
    refine zV.ial kX4_pieces rfl (a1) (m) (rfl) (hm) (by decide) ?_
    rw [a2 m hm]
    refine zV.icf kX4_pieces (cd := .ge) rfl (nI_ge (by omega) (by omega)) ?_
    refine zV.run kX4_pieces 4 rfl ?_
    refine zV.cv kX4_pieces rfl lX4_110 (n_findWays E h0 hc hx hm (fr := i) (k := k) hk (by omega)) (by decide) rfl (h0) rfl rfl rfl (Nat.le_of_ble_eq_true rfl) ?_
    rintro _ w9 ⟨rfl, hw9, h8, mn, hmn, e1⟩
    have hs9 := hs.fw hw9 ⟨mn, hmn⟩ h8
    refine zV.run kX4_pieces 2 rfl ?_
    refine n_pieces_2 E (h0.k (hw9 49 (by decide) (by decide))) hs9.2.1 hm hmn (tp (σ.1 m) (σ.2 m) k i) (fun j hj => by rw [e1 j hj, wy_tp _ _ (by omega) _ _ hj]) (nI k) _ (fun y6 => ?_) (σ.1 m) 0 (by omega)
    refine zV.run kX4_pieces 2 rfl ?_
    rw [nI_1]
    exact ih (i + 1) w9 _ (by omega) hs9 (fun a q1 q2 => (hw9 a q1 q2).trans (hw a q1 q2))
theorem n_pieces (E : zE) {w : zWd} {σ : zSt} (h : zMs w σ) (m k : Int32) : zOk E mX4_pieces 2 [.ref 49, .int m, .int k] w (zPm w (.long (if okM m ∧ (0 ≤ k.toInt ∧ k.toInt ≤ 10) then lN (sumN (σ.1 m.toInt.toNat) (fun i => sumN (σ.1 m.toInt.toNat) (tp (σ.1 m.toInt.toNat) (σ.2 m.toInt.toNat) k.toInt.toNat i))) else -2)) σ) := by
  refine zOk.of (by decide +kernel) (Nat.le_of_ble_eq_true rfl) ?_
  refine zV.run kX4_pieces 1 rfl ?_
  refine zV.cs kX4_pieces rfl lX4_51 (n_isMap E w m) (by decide) rfl rfl (Nat.le_of_ble_eq_true rfl) ?_
  rintro _ _ ⟨rfl, rfl⟩
  refine zV.if2 kX4_pieces rfl (fun c => ?_) (fun c => ?_)
  · skip
    have c := zq_eq0.mp c
    rw [if_neg (fun q => c q.1)]
    refine zV.ldc2 kX4_pieces rfl qX4_88 ?_
    exact zV.lret kX4_pieces rfl rfl (⟨rfl, h, fun _ _ => rfl⟩)
  · skip
    have c := Decidable.not_not.mp (mt zq_eq0.mpr c)
    refine zV.run kX4_pieces 3 rfl ?_
    refine zV.ldc2 kX4_pieces rfl qX4_108 ?_
    refine zV.cs kX4_pieces rfl lX4_47 (n_in E w k.toInt64 0 10) (by decide) rfl rfl (Nat.le_of_ble_eq_true rfl) ?_
    rintro _ _ ⟨rfl, rfl⟩
    rw [zq_c inK]
    refine zV.if2 kX4_pieces rfl (fun c3 => ?_) (fun c3 => ?_)
    · skip
      have c3 : 0 ≤ k.toInt ∧ k.toInt ≤ 10 := Decidable.not_not.mp (mt zq_eq0.mpr c3)
      rw [if_pos ⟨c, c3⟩]
      obtain ⟨mm, emm⟩ : ∃ mm, mm = m.toInt.toNat := ⟨_, rfl⟩
      have em : m = nI mm := by rw [emm]; exact i32_nI c.1
      have hm : mm < 8 := by omega
      obtain ⟨kk, ekk⟩ : ∃ ii, ii = k.toInt.toNat := ⟨_, rfl⟩
      have ek : k = nI kk := by rw [ekk]; exact i32_nI c3.1
      rw [← emm, ← ekk, em, ek]
      refine zV.run kX4_pieces 4 rfl ?_
      exact n_pieces_1 E h hm (k := kk) (by omega) (σ.1 mm) 0 w _ (by omega) h (fun _ _ _ => rfl)
    · skip
      have c3 : ¬ (0 ≤ k.toInt ∧ k.toInt ≤ 10) := zq_eq0.mp (Decidable.not_not.mp c3)
      rw [if_neg (fun q => c3 q.2)]
      refine zV.ldc2 kX4_pieces rfl qX4_88 ?_
      exact zV.lret kX4_pieces rfl rfl (⟨rfl, h, fun _ _ => rfl⟩)
