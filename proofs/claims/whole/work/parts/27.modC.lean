/-! ===== the model: points followed, the table ===== -/
theorem zMs.at49 {w w' : zWd} {σ : zSt} {ab be : Int64} {rm en ej : Int32} (h : zMs w σ) (h0 : zIs w' 49 (zMo ab be rm en ej)) (hw : ∀ a, a ≠ 49 → w' a = w a) : zMs w' σ :=
  ⟨⟨_, _, _, _, _, h0⟩, h.2.1.k (hw _ (by decide)) (hw _ (by decide)), h.2.2.k (fun a _ _ => hw a (by omega))⟩
theorem inK {k : Int32} {a b : Int64} : (a.toInt ≤ k.toInt64.toInt ∧ k.toInt64.toInt ≤ b.toInt) ↔ (a.toInt ≤ k.toInt ∧ k.toInt ≤ b.toInt) := by rw [Int32.toInt_toInt64]
theorem in01 {k : Int32} : ((0 : Int64).toInt ≤ k.toInt64.toInt ∧ k.toInt64.toInt ≤ (1 : Int64).toInt) ↔ (k = 0 ∨ k = 1) := by
  rw [Int32.toInt_toInt64, show (0 : Int64).toInt = 0 from rfl, show (1 : Int64).toInt = 1 from rfl]
  constructor
  · intro h
    have e : k.toInt = 0 ∨ k.toInt = 1 := by omega
    rcases e with e | e
    · left; exact Int32.toInt_inj.mp e
    · right; exact Int32.toInt_inj.mp e
  · intro h
    rcases h with rfl | rfl
    · decide
    · decide
theorem n_far_l (E : zE) {w0 : zWd} {σ : zSt} {rm en ej : Int32} (h : zMs w0 σ) {m : Nat} (hm : m < 8) {a b : Nat} (hb : 0 < b) (hb2 : b ≤ 100000) (ha : (a : Int) ≤ σ.1 m * b) (va vb : Int64) {k : Nat} (hk : k ≤ 1000) (what : Int32) : ∀ (r i : Nat) (w : zWd), i + r = k → zAt w (fol (σ.1 m) (σ.2 m) b a i).toNat b rm en ej → (∀ q, q ≠ 49 → w q = w0 q) → zV E mX4_far 3 (zPm w0 (.long (lN (low (fol (σ.1 m) (σ.2 m) b a k).toNat b what))) σ) 49 [.ref 49, .int (nI m), .long va, zU, .long vb, zU, .int (nI k), .int what, .int (nI i)] [] w := by
  obtain ⟨v1, v5, vl⟩ := h.2.1.2.2 m hm
  intro r
  induction r with
  | zero =>
    intro i w hi h0 hw
    have e : i = k := by omega
    subst e
    have h1 : zIs w 49 (zMo _ _ rm en ej) := h0
    refine zV.run kX4_far 2 rfl ?_
    refine zV.ict kX4_far (cd := .ge) rfl (Int32.le_refl _) ?_
    refine zV.run kX4_far 2 rfl ?_
    refine zV.cv kX4_far rfl lX4_94 (n_told E h1 what) (by decide) rfl (h1) rfl rfl rfl (Nat.le_of_ble_eq_true rfl) ?_
    rintro _ _ ⟨rfl, rfl⟩
    exact zV.lret kX4_far rfl rfl (⟨by unfold low; by_cases q : what = 0 <;> simp [q], h.at49 h1 hw, fun a ha => hw a (by omega)⟩)
  | succ r ih =>
    intro i w hi h0 hw
    have h1 : zIs w 49 (zMo _ _ rm en ej) := h0
    have rg := fol_rg v1 vl (show (0 : Int) < b by omega) (show (0 : Int) ≤ a by omega) ha i
    have ex : ((fol (σ.1 m) (σ.2 m) b a i).toNat : Int) = fol (σ.1 m) (σ.2 m) b a i := Int.toNat_of_nonneg rg.1
    refine zV.run kX4_far 2 rfl ?_
    refine zV.icf kX4_far (cd := .ge) rfl (nI_ge (by omega) (by omega)) ?_
    refine zV.run kX4_far 2 rfl ?_
    refine zV.cv kX4_far rfl lX4_90 (n_step E (h.2.1.k (hw _ (by decide)) (hw _ (by decide))) h0 hm hb hb2 (by rw [ex]; exact rg.2)) (by decide) rfl (h1) rfl rfl rfl (Nat.le_of_ble_eq_true rfl) ?_
    rintro _ w9 ⟨rfl, e9⟩
    rw [ex] at e9
    refine zV.run kX4_far 2 rfl ?_
    rw [nI_1]
    exact ih (i + 1) w9 (by omega) (by rw [e9]; exact zIs.s h1.1) (fun q hq => by rw [e9, zup_ne hq]; exact hw q hq)
theorem n_far (E : zE) {w : zWd} {σ : zSt} (h : zMs w σ) (m : Int32) (a b : Int64) (k what : Int32) : zOk E mX4_far 3 [.ref 49, .int m, .long a, .long b, .int k, .int what] w (zPm w (.long (if okM m ∧ okP (σ.1 m.toInt.toNat) a b ∧ (0 ≤ k.toInt ∧ k.toInt ≤ 1000) ∧ (what = 0 ∨ what = 1) then lN (low (fol (σ.1 m.toInt.toNat) (σ.2 m.toInt.toNat) b.toInt a.toInt k.toInt.toNat).toNat b.toInt.toNat what) else -2)) σ) := by
  obtain ⟨⟨ab, be, rm, en, ej, h0⟩, hc, hx⟩ := id h
  refine zOk.of (by decide +kernel) (Nat.le_of_ble_eq_true rfl) ?_
  refine zV.run kX4_far 4 rfl ?_
  refine zV.cv kX4_far rfl lX4_82 (n_isPoint E h0 hc m a b) (by decide) rfl (h0) rfl rfl rfl (Nat.le_of_ble_eq_true rfl) ?_
  rintro _ _ ⟨rfl, rfl⟩
  refine zV.if2 kX4_far rfl (fun c => ?_) (fun c => ?_)
  · skip
    have c := zq_eq0.mp c
    rw [if_neg (fun q => c ⟨q.1, q.2.1⟩)]
    refine zV.ldc2 kX4_far rfl qX4_88 ?_
    exact zV.lret kX4_far rfl rfl (⟨rfl, h, fun _ _ => rfl⟩)
  · skip
    have c := Decidable.not_not.mp (mt zq_eq0.mpr c)
    refine zV.run kX4_far 3 rfl ?_
    refine zV.ldc2 kX4_far rfl qX4_86 ?_
    refine zV.cs kX4_far rfl lX4_47 (n_in E w k.toInt64 0 1000) (by decide) rfl rfl (Nat.le_of_ble_eq_true rfl) ?_
    rintro _ _ ⟨rfl, rfl⟩
    rw [zq_c inK]
    refine zV.if2 kX4_far rfl (fun c2 => ?_) (fun c2 => ?_)
    · skip
      have c2 : ¬ (0 ≤ k.toInt ∧ k.toInt ≤ 1000) := zq_eq0.mp c2
      rw [if_neg (fun q => c2 q.2.2.1)]
      refine zV.ldc2 kX4_far rfl qX4_88 ?_
      exact zV.lret kX4_far rfl rfl (⟨rfl, h, fun _ _ => rfl⟩)
    · skip
      have c2 : 0 ≤ k.toInt ∧ k.toInt ≤ 1000 := Decidable.not_not.mp (mt zq_eq0.mpr c2)
      refine zV.run kX4_far 4 rfl ?_
      refine zV.cs kX4_far rfl lX4_47 (n_in E w what.toInt64 0 1) (by decide) rfl rfl (Nat.le_of_ble_eq_true rfl) ?_
      rintro _ _ ⟨rfl, rfl⟩
      rw [zq_c in01]
      refine zV.if2 kX4_far rfl (fun c3 => ?_) (fun c3 => ?_)
      · skip
        have c3 := Decidable.not_not.mp (mt zq_eq0.mpr c3)
        rw [if_pos ⟨c.1, c.2, c2, c3⟩]
        obtain ⟨mm, emm⟩ : ∃ mm, mm = m.toInt.toNat := ⟨_, rfl⟩
        have em : m = nI mm := by rw [emm]; exact i32_nI c.1.1
        have hm : mm < 8 := by omega
        obtain ⟨kk, ekk⟩ : ∃ kk, kk = k.toInt.toNat := ⟨_, rfl⟩
        have ek : k = nI kk := by rw [ekk]; exact i32_nI c2.1
        rw [← emm] at c ⊢
        obtain ⟨A, eA⟩ : ∃ A : Nat, A = a.toInt.toNat := ⟨_, rfl⟩
        obtain ⟨B, eB⟩ : ∃ B : Nat, B = b.toInt.toNat := ⟨_, rfl⟩
        have eA2 : a.toInt = (A : Int) := by omega
        have eB2 : b.toInt = (B : Int) := by omega
        have ea : a = lN A := by rw [lN_lI, ← eA2]; exact i64_lI a
        have eb : b = lN B := by rw [lN_lI, ← eB2]; exact i64_lI b
        obtain ⟨c1, cp1, cp2, cp3, cp4⟩ := c
        rw [eA2, eB2] at cp4
        have x5 := bnd5 (hc.2.2 mm hm).2.1 (show (1 : Int) ≤ B by omega) (by omega) cp4
        rw [← ekk, eA2, eB2, show ((B : Int)).toNat = B from rfl, ea, eb, ek, em]
        refine zV.run kX4_far 3 rfl ?_
        refine zV.cv kX4_far rfl lX4_78 (n_at E h0 (a := A) (b := B) (by omega) (by omega) (by omega)) (by decide) rfl (h0) rfl rfl rfl (Nat.le_of_ble_eq_true rfl) ?_
        rintro _ w9 ⟨rfl, e9⟩
        refine zV.run kX4_far 2 rfl ?_
        exact n_far_l E h hm (by omega) (by omega) cp4 (lN A) (lN B) (k := kk) (by omega) what kk 0 w9 (by omega) (by rw [e9]; exact zIs.s h0.1) (fun q hq => by rw [e9, zup_ne hq])
      · skip
        have c3 := zq_eq0.mp (Decidable.not_not.mp c3)
        rw [if_neg (fun q => c3 q.2.2.2)]
        refine zV.ldc2 kX4_far rfl qX4_88 ?_
        exact zV.lret kX4_far rfl rfl (⟨rfl, h, fun _ _ => rfl⟩)
theorem n_word_l (E : zE) {w0 : zWd} {σ : zSt} {rm en ej : Int32} (h : zMs w0 σ) {m : Nat} (hm : m < 8) {a b : Nat} (hb : 0 < b) (hb2 : b ≤ 100000) (ha : (a : Int) ≤ σ.1 m * b) (va vb : Int64) {k : Nat} (hk : k ≤ 1000) : ∀ (r i : Nat) (w : zWd), i + r = k → zAt w (fol (σ.1 m) (σ.2 m) b a i).toNat b rm en ej → (∀ q, q ≠ 49 → w q = w0 q) → zV E mX4_word 3 (zPm w0 (.int (nI (spn (σ.1 m) (fol (σ.1 m) (σ.2 m) b a k) b))) σ) 37 [.ref 49, .int (nI m), .long va, zU, .long vb, zU, .int (nI k), .int (nI i)] [] w := by
  obtain ⟨v1, v5, vl⟩ := h.2.1.2.2 m hm
  intro r
  induction r with
  | zero =>
    intro i w hi h0 hw
    have e : i = k := by omega
    subst e
    have h1 : zIs w 49 (zMo _ _ rm en ej) := h0
    have rg := fol_rg v1 vl (show (0 : Int) < b by omega) (show (0 : Int) ≤ a by omega) ha i
    have ex : ((fol (σ.1 m) (σ.2 m) b a i).toNat : Int) = fol (σ.1 m) (σ.2 m) b a i := Int.toNat_of_nonneg rg.1
    refine zV.run kX4_word 2 rfl ?_
    refine zV.ict kX4_word (cd := .ge) rfl (Int32.le_refl _) ?_
    refine zV.run kX4_word 2 rfl ?_
    refine zV.cv kX4_word rfl lX4_74 (n_span E (h.2.1.k (hw _ (by decide)) (hw _ (by decide))) h0 hm hb hb2 (by rw [ex]; exact rg.2)) (by decide) rfl (h1) rfl rfl rfl (Nat.le_of_ble_eq_true rfl) ?_
    rintro _ _ ⟨rfl, rfl⟩
    rw [ex]
    exact zV.iret kX4_word rfl rfl (⟨rfl, h.at49 h1 hw, fun a ha => hw a (by omega)⟩)
  | succ r ih =>
    intro i w hi h0 hw
    have h1 : zIs w 49 (zMo _ _ rm en ej) := h0
    have rg := fol_rg v1 vl (show (0 : Int) < b by omega) (show (0 : Int) ≤ a by omega) ha i
    have ex : ((fol (σ.1 m) (σ.2 m) b a i).toNat : Int) = fol (σ.1 m) (σ.2 m) b a i := Int.toNat_of_nonneg rg.1
    refine zV.run kX4_word 2 rfl ?_
    refine zV.icf kX4_word (cd := .ge) rfl (nI_ge (by omega) (by omega)) ?_
    refine zV.run kX4_word 2 rfl ?_
    refine zV.cv kX4_word rfl lX4_90 (n_step E (h.2.1.k (hw _ (by decide)) (hw _ (by decide))) h0 hm hb hb2 (by rw [ex]; exact rg.2)) (by decide) rfl (h1) rfl rfl rfl (Nat.le_of_ble_eq_true rfl) ?_
    rintro _ w9 ⟨rfl, e9⟩
    rw [ex] at e9
    refine zV.run kX4_word 2 rfl ?_
    rw [nI_1]
    exact ih (i + 1) w9 (by omega) (by rw [e9]; exact zIs.s h1.1) (fun q hq => by rw [e9, zup_ne hq]; exact hw q hq)
theorem n_word (E : zE) {w : zWd} {σ : zSt} (h : zMs w σ) (m : Int32) (a b : Int64) (k : Int32) : zOk E mX4_word 3 [.ref 49, .int m, .long a, .long b, .int k] w (zPm w (.int (if okM m ∧ okP (σ.1 m.toInt.toNat) a b ∧ (0 ≤ k.toInt ∧ k.toInt ≤ 1000) then nI (spn (σ.1 m.toInt.toNat) (fol (σ.1 m.toInt.toNat) (σ.2 m.toInt.toNat) b.toInt a.toInt k.toInt.toNat) b.toInt) else -2)) σ) := by
  obtain ⟨⟨ab, be, rm, en, ej, h0⟩, hc, hx⟩ := id h
  refine zOk.of (by decide +kernel) (Nat.le_of_ble_eq_true rfl) ?_
  refine zV.run kX4_word 4 rfl ?_
  refine zV.cv kX4_word rfl lX4_82 (n_isPoint E h0 hc m a b) (by decide) rfl (h0) rfl rfl rfl (Nat.le_of_ble_eq_true rfl) ?_
  rintro _ _ ⟨rfl, rfl⟩
  refine zV.if2 kX4_word rfl (fun c => ?_) (fun c => ?_)
  · skip
    have c := zq_eq0.mp c
    rw [if_neg (fun q => c ⟨q.1, q.2.1⟩)]
    refine zV.run kX4_word 1 rfl ?_
    exact zV.iret kX4_word rfl rfl (⟨rfl, h, fun _ _ => rfl⟩)
  · skip
    have c := Decidable.not_not.mp (mt zq_eq0.mpr c)
    refine zV.run kX4_word 3 rfl ?_
    refine zV.ldc2 kX4_word rfl qX4_86 ?_
    refine zV.cs kX4_word rfl lX4_47 (n_in E w k.toInt64 0 1000) (by decide) rfl rfl (Nat.le_of_ble_eq_true rfl) ?_
    rintro _ _ ⟨rfl, rfl⟩
    rw [zq_c inK]
    refine zV.if2 kX4_word rfl (fun c2 => ?_) (fun c2 => ?_)
    · skip
      have c2 : 0 ≤ k.toInt ∧ k.toInt ≤ 1000 := Decidable.not_not.mp (mt zq_eq0.mpr c2)
      rw [if_pos ⟨c.1, c.2, c2⟩]
      obtain ⟨mm, emm⟩ : ∃ mm, mm = m.toInt.toNat := ⟨_, rfl⟩
      have em : m = nI mm := by rw [emm]; exact i32_nI c.1.1
      have hm : mm < 8 := by omega
      obtain ⟨kk, ekk⟩ : ∃ kk, kk = k.toInt.toNat := ⟨_, rfl⟩
      have ek : k = nI kk := by rw [ekk]; exact i32_nI c2.1
      rw [← emm] at c ⊢
      obtain ⟨A, eA⟩ : ∃ A : Nat, A = a.toInt.toNat := ⟨_, rfl⟩
      obtain ⟨B, eB⟩ : ∃ B : Nat, B = b.toInt.toNat := ⟨_, rfl⟩
      have eA2 : a.toInt = (A : Int) := by omega
      have eB2 : b.toInt = (B : Int) := by omega
      have ea : a = lN A := by rw [lN_lI, ← eA2]; exact i64_lI a
      have eb : b = lN B := by rw [lN_lI, ← eB2]; exact i64_lI b
      obtain ⟨c1, cp1, cp2, cp3, cp4⟩ := c
      rw [eA2, eB2] at cp4
      have x5 := bnd5 (hc.2.2 mm hm).2.1 (show (1 : Int) ≤ B by omega) (by omega) cp4
      rw [← ekk, eA2, eB2, ea, eb, ek, em]
      refine zV.run kX4_word 3 rfl ?_
      refine zV.cv kX4_word rfl lX4_78 (n_at E h0 (a := A) (b := B) (by omega) (by omega) (by omega)) (by decide) rfl (h0) rfl rfl rfl (Nat.le_of_ble_eq_true rfl) ?_
      rintro _ w9 ⟨rfl, e9⟩
      refine zV.run kX4_word 2 rfl ?_
      exact n_word_l E h hm (by omega) (by omega) cp4 (lN A) (lN B) (k := kk) (by omega) kk 0 w9 (by omega) (by rw [e9]; exact zIs.s h0.1) (fun q hq => by rw [e9, zup_ne hq])
    · skip
      have c2 : ¬ (0 ≤ k.toInt ∧ k.toInt ≤ 1000) := zq_eq0.mp (Decidable.not_not.mp c2)
      rw [if_neg (fun q => c2 q.2.2)]
      refine zV.run kX4_word 1 rfl ?_
      exact zV.iret kX4_word rfl rfl (⟨rfl, h, fun _ _ => rfl⟩)
theorem n_join (E : zE) {w : zWd} {σ : zSt} (h : zMs w σ) (m t : Int32) (a b : Int64) (what : Int32) : zOk E mX4_join 3 [.ref 49, .int m, .int t, .long a, .long b, .int what] w (zPm w (.long (if okM m ∧ okM t ∧ okP (σ.1 m.toInt.toNat) a b ∧ (what = 0 ∨ what = 1) then (if σ.1 m.toInt.toNat = σ.1 t.toInt.toNat then lN (low (stp (σ.1 t.toInt.toNat) (σ.2 t.toInt.toNat) b.toInt (stp (σ.1 m.toInt.toNat) (σ.2 m.toInt.toNat) b.toInt a.toInt)).toNat b.toInt.toNat what) else -3) else -2)) σ) := by
  obtain ⟨⟨ab, be, rm, en, ej, h0⟩, hc, hx⟩ := id h
  obtain ⟨⟨sz, a1, a2⟩, -, hv⟩ := id hc
  refine zOk.of (by decide +kernel) (Nat.le_of_ble_eq_true rfl) ?_
  refine zV.run kX4_join 4 rfl ?_
  refine zV.cv kX4_join rfl lX4_82 (n_isPoint E h0 hc m a b) (by decide) rfl (h0) rfl rfl rfl (Nat.le_of_ble_eq_true rfl) ?_
  rintro _ _ ⟨rfl, rfl⟩
  refine zV.if2 kX4_join rfl (fun c => ?_) (fun c => ?_)
  · skip
    have c := zq_eq0.mp c
    rw [if_neg (fun q => c ⟨q.1, q.2.2.1⟩)]
    refine zV.ldc2 kX4_join rfl qX4_88 ?_
    exact zV.lret kX4_join rfl rfl (⟨rfl, h, fun _ _ => rfl⟩)
  · skip
    have c := Decidable.not_not.mp (mt zq_eq0.mpr c)
    refine zV.run kX4_join 1 rfl ?_
    refine zV.cs kX4_join rfl lX4_51 (n_isMap E w t) (by decide) rfl rfl (Nat.le_of_ble_eq_true rfl) ?_
    rintro _ _ ⟨rfl, rfl⟩
    refine zV.if2 kX4_join rfl (fun c2 => ?_) (fun c2 => ?_)
    · skip
      have c2 := zq_eq0.mp c2
      rw [if_neg (fun q => c2 q.2.1)]
      refine zV.ldc2 kX4_join rfl qX4_88 ?_
      exact zV.lret kX4_join rfl rfl (⟨rfl, h, fun _ _ => rfl⟩)
    · skip
      have c2 := Decidable.not_not.mp (mt zq_eq0.mpr c2)
      refine zV.run kX4_join 4 rfl ?_
      refine zV.cs kX4_join rfl lX4_47 (n_in E w what.toInt64 0 1) (by decide) rfl rfl (Nat.le_of_ble_eq_true rfl) ?_
      rintro _ _ ⟨rfl, rfl⟩
      rw [zq_c in01]
      refine zV.if2 kX4_join rfl (fun c3 => ?_) (fun c3 => ?_)
      · skip
        have c3 := Decidable.not_not.mp (mt zq_eq0.mpr c3)
        rw [if_pos ⟨c.1, c2, c.2, c3⟩]
        obtain ⟨mm, emm⟩ : ∃ mm, mm = m.toInt.toNat := ⟨_, rfl⟩
        have em : m = nI mm := by rw [emm]; exact i32_nI c.1.1
        have hm : mm < 8 := by omega
        obtain ⟨mt, emt⟩ : ∃ mm, mm = t.toInt.toNat := ⟨_, rfl⟩
        have et : t = nI mt := by rw [emt]; exact i32_nI c2.1
        have ht : mt < 8 := by omega
        rw [← emm] at c ⊢
        rw [← emt]
        obtain ⟨v1, v5, vl⟩ := hv mm hm
        obtain ⟨u1, u5, ul⟩ := hv mt ht
        refine zV.run kX4_join 1 rfl ?_
        refine zV.gf kX4_join rfl fX4_7 (h0) rfl ?_
        refine zV.run kX4_join 1 rfl ?_
        refine zV.ial kX4_join rfl (a1) (mm) (em) (hm) (by decide) ?_
        refine zV.run kX4_join 1 rfl ?_
        refine zV.gf kX4_join rfl fX4_7 (h0) rfl ?_
        refine zV.run kX4_join 1 rfl ?_
        refine zV.ial kX4_join rfl (a1) (mt) (et) (ht) (by decide) ?_
        rw [a2 mm hm, a2 mt ht]
        refine zV.ic2 kX4_join rfl (fun c4 => ?_) (fun c4 => ?_)
        · skip
          have c4 := (nI_eq (by omega) (by omega)).mp c4
          rw [if_pos c4]
          obtain ⟨A, eA⟩ : ∃ A : Nat, A = a.toInt.toNat := ⟨_, rfl⟩
          obtain ⟨B, eB⟩ : ∃ B : Nat, B = b.toInt.toNat := ⟨_, rfl⟩
          have eA2 : a.toInt = (A : Int) := by omega
          have eB2 : b.toInt = (B : Int) := by omega
          have ea : a = lN A := by rw [lN_lI, ← eA2]; exact i64_lI a
          have eb : b = lN B := by rw [lN_lI, ← eB2]; exact i64_lI b
          obtain ⟨c1, cp1, cp2, cp3, cp4⟩ := c
          rw [eA2, eB2] at cp4
          have x5 := bnd5 v5 (show (1 : Int) ≤ B by omega) (by omega) cp4
          have rg := stp_rg v1 vl (show (0 : Int) < B by omega) (show (0 : Int) ≤ A by omega) cp4
          have ex : ((stp (σ.1 mm) (σ.2 mm) B A).toNat : Int) = stp (σ.1 mm) (σ.2 mm) B A := Int.toNat_of_nonneg rg.1
          have rg1 : stp (σ.1 mm) (σ.2 mm) B A ≤ (σ.1 mt : Int) * B := by rw [← c4]; exact rg.2
          rw [eA2, eB2, show ((B : Int)).toNat = B from rfl, ea, eb, em, et]
          refine zV.run kX4_join 3 rfl ?_
          refine zV.cv kX4_join rfl lX4_78 (n_at E h0 (a := A) (b := B) (by omega) (by omega) (by omega)) (by decide) rfl (h0) rfl rfl rfl (Nat.le_of_ble_eq_true rfl) ?_
          rintro _ w9 ⟨rfl, e9⟩
          have g9 : zAt w9 A B rm en ej := by rw [e9]; exact zIs.s h0.1
          have g9' : zIs w9 49 (zMo _ _ rm en ej) := g9
          have k9 : ∀ q, q ≠ 49 → w9 q = w q := fun q hq => by rw [e9, zup_ne hq]
          refine zV.run kX4_join 2 rfl ?_
          refine zV.cv kX4_join rfl lX4_90 (n_step E (hc.k (k9 _ (by decide)) (k9 _ (by decide))) g9 hm (by omega) (by omega) cp4) (by decide) rfl (g9') rfl rfl rfl (Nat.le_of_ble_eq_true rfl) ?_
          rintro _ w8 ⟨rfl, e8⟩
          have g8 : zAt w8 (stp (σ.1 mm) (σ.2 mm) B A).toNat B rm en ej := by rw [e8]; exact zIs.s h0.1
          have g8' : zIs w8 49 (zMo _ _ rm en ej) := g8
          have k8 : ∀ q, q ≠ 49 → w8 q = w q := fun q hq => by rw [e8, zup_ne hq]; exact k9 q hq
          refine zV.run kX4_join 2 rfl ?_
          refine zV.cv kX4_join rfl lX4_90 (n_step E (hc.k (k8 _ (by decide)) (k8 _ (by decide))) g8 ht (by omega) (by omega) (by rw [ex]; exact rg1)) (by decide) rfl (g8') rfl rfl rfl (Nat.le_of_ble_eq_true rfl) ?_
          rintro _ w7 ⟨rfl, e7⟩
          rw [ex] at e7
          have g7 := zIs.s (w := w8) (a := 49) (c := zMo (lN ((stp (σ.1 mt) (σ.2 mt) B (stp (σ.1 mm) (σ.2 mm) B A)).toNat / Nat.gcd (stp (σ.1 mt) (σ.2 mt) B (stp (σ.1 mm) (σ.2 mm) B A)).toNat B)) (lN (B / Nat.gcd (stp (σ.1 mt) (σ.2 mt) B (stp (σ.1 mm) (σ.2 mm) B A)).toNat B)) rm en ej) (by decide)
          rw [← e7] at g7
          refine zV.run kX4_join 2 rfl ?_
          refine zV.cv kX4_join rfl lX4_94 (n_told E g7 what) (by decide) rfl (g7) rfl rfl rfl (Nat.le_of_ble_eq_true rfl) ?_
          rintro _ _ ⟨rfl, rfl⟩
          exact zV.lret kX4_join rfl rfl (⟨by unfold low; by_cases q : what = 0 <;> simp [q], h.at49 g7 (fun q hq => by rw [e7, zup_ne hq]; exact k8 q hq), fun q hq => by rw [e7, zup_ne (by omega)]; exact k8 q (by omega)⟩)
        · skip
          have c4 : ¬ σ.1 mm = σ.1 mt := fun q => c4 ((nI_eq (a := σ.1 mm) (b := σ.1 mt) (by omega) (by omega)).mpr q)
          rw [if_neg c4]
          refine zV.ldc2 kX4_join rfl qX4_98 ?_
          exact zV.lret kX4_join rfl rfl (⟨rfl, h, fun _ _ => rfl⟩)
      · skip
        have c3 := zq_eq0.mp (Decidable.not_not.mp c3)
        rw [if_neg (fun q => c3 q.2.2.2)]
        refine zV.ldc2 kX4_join rfl qX4_88 ?_
        exact zV.lret kX4_join rfl rfl (⟨rfl, h, fun _ _ => rfl⟩)
theorem n_covers (E : zE) {w : zWd} {σ : zSt} {ab be : Int64} {rm en ej : Int32} (h0 : zIs w 49 (zMo ab be rm en ej)) (hc : zMc w σ) {m i j : Nat} (hm : m < 8) (hi : i < σ.1 m) (hj : j < 100) : zOk E mX4_covers 0 [.ref 49, .int (nI m), .int (nI i), .int (nI j)] w (zR0 w (.int (zq (cov (σ.2 m) i j = true)))) := by
  obtain ⟨-, ⟨ld, b1, b2⟩, hv⟩ := hc
  obtain ⟨v1, v5, vl⟩ := hv m hm
  have l1 := vl i (by omega)
  have l2 := vl (i + 1) (by omega)
  have e1 := b2 m i hm (by omega)
  have e2 := b2 m (i + 1) hm (by omega)
  refine zOk.of (by decide +kernel) (Nat.le_of_ble_eq_true rfl) ?_
  refine zV.run kX4_covers 1 rfl ?_
  refine zV.gf kX4_covers rfl fX4_13 (h0) rfl ?_
  refine zV.run kX4_covers 5 rfl ?_
  refine zV.ial kX4_covers rfl (b1) (7 * m + i) (ix7) (by omega) (by decide) ?_
  refine zV.run kX4_covers 2 rfl ?_
  refine zV.gf kX4_covers rfl fX4_13 (h0) rfl ?_
  refine zV.run kX4_covers 7 rfl ?_
  refine zV.ial kX4_covers rfl (b1) (7 * m + (i + 1)) (by rw [ix7, nI_1]; rfl) (by omega) (by decide) ?_
  rw [e1, e2]
  have nle : ∀ x y : Nat, x < 100 → y < 100 → (nI x ≤ nI y ↔ x ≤ y) := fun x y hx hy => nI_leI (by omega) (by omega)
  have nlt : ∀ x y : Nat, x < 100 → y < 100 → (nI x < nI y ↔ x < y) := fun x y hx hy => nI_ltI (by omega) (by omega)
  have tail : ¬ (σ.2 m i ≤ j ∧ j < σ.2 m (i + 1)) → zV E mX4_covers 0 (zR0 w (.int (zq (cov (σ.2 m) i j = true)))) 40 [.ref 49, .int (nI m), .int (nI i), .int (nI j), .int (nI (σ.2 m i)), .int (nI (σ.2 m (i + 1)))] [] w := by
    intro hn
    refine zV.run kX4_covers 2 rfl ?_
    refine zV.ic2 kX4_covers rfl (fun c => ?_) (fun c => ?_)
    · skip
      have c := (nlt j (σ.2 m (i + 1)) (by omega) (by omega)).mp c
      refine zV.run kX4_covers 1 rfl ?_
      exact zV.iret kX4_covers rfl rfl (⟨by rw [zq_f]; unfold cov; simp; omega, rfl⟩)
    · skip
      have c := mt (nlt j (σ.2 m (i + 1)) (by omega) (by omega)).mpr c
      refine zV.run kX4_covers 2 rfl ?_
      refine zV.ic2 kX4_covers rfl (fun c2 => ?_) (fun c2 => ?_)
      · skip
        have c2 := (nle (σ.2 m i) j (by omega) (by omega)).mp c2
        refine zV.run kX4_covers 1 rfl ?_
        exact zV.iret kX4_covers rfl rfl (⟨by rw [zq_f]; unfold cov; simp; omega, rfl⟩)
      · skip
        have c2 := mt (nle (σ.2 m i) j (by omega) (by omega)).mpr c2
        refine zV.run kX4_covers 2 rfl ?_
        exact zV.iret kX4_covers rfl rfl (⟨by rw [zq_t]; unfold cov; simp; omega, rfl⟩)
  refine zV.run kX4_covers 3 rfl ?_
  refine zV.ic2 kX4_covers rfl (fun c => ?_) (fun c => ?_)
  · skip
    have c := (nlt j (σ.2 m i) (by omega) (by omega)).mp c
    exact tail (by omega)
  · skip
    have c := mt (nlt j (σ.2 m i) (by omega) (by omega)).mpr c
    refine zV.run kX4_covers 2 rfl ?_
    refine zV.ic2 kX4_covers rfl (fun c2 => ?_) (fun c2 => ?_)
    · skip
      have c2 := (nlt j (σ.2 m (i + 1)) (by omega) (by omega)).mp c2
      refine zV.run kX4_covers 2 rfl ?_
      exact zV.iret kX4_covers rfl rfl (⟨by rw [zq_t]; unfold cov; simp; omega, rfl⟩)
    · skip
      have c2 := mt (nlt j (σ.2 m (i + 1)) (by omega) (by omega)).mpr c2
      exact tail (by omega)
theorem n_isSpan (E : zE) {w : zWd} {σ : zSt} {ab be : Int64} {rm en ej : Int32} (h0 : zIs w 49 (zMo ab be rm en ej)) (hc : zMc w σ) (m i : Int32) : zOk E mX4_isSpan 2 [.ref 49, .int m, .int i] w (zR0 w (.int (zq (okM m ∧ (0 ≤ i.toInt ∧ i.toInt < σ.1 m.toInt.toNat))))) := by
  obtain ⟨⟨sz, a1, a2⟩, -, hv⟩ := id hc
  refine zOk.of (by decide +kernel) (Nat.le_of_ble_eq_true rfl) ?_
  refine zV.run kX4_isSpan 1 rfl ?_
  refine zV.cs kX4_isSpan rfl lX4_51 (n_isMap E w m) (by decide) rfl rfl (Nat.le_of_ble_eq_true rfl) ?_
  rintro _ _ ⟨rfl, rfl⟩
  refine zV.if2 kX4_isSpan rfl (fun c => ?_) (fun c => ?_)
  · skip
    have c := zq_eq0.mp c
    refine zV.run kX4_isSpan 1 rfl ?_
    exact zV.zret kX4_isSpan rfl rfl (Or.inl rfl) (⟨by rw [zq_f (fun q => c q.1)], rfl⟩)
  · skip
    have c := Decidable.not_not.mp (mt zq_eq0.mpr c)
    obtain ⟨mm, emm⟩ : ∃ mm, mm = m.toInt.toNat := ⟨_, rfl⟩
    have em : m = nI mm := by rw [emm]; exact i32_nI c.1
    have hm : mm < 8 := by omega
    obtain ⟨v1, v5, vl⟩ := hv mm hm
    rw [← emm]
    refine zV.run kX4_isSpan 4 rfl ?_
    refine zV.gf kX4_isSpan rfl fX4_7 (h0) rfl ?_
    refine zV.run kX4_isSpan 1 rfl ?_
    refine zV.ial kX4_isSpan rfl (a1) (mm) (em) (hm) (by decide) ?_
    rw [a2 mm hm]
    refine zV.run kX4_isSpan 3 rfl ?_
    refine zV.cs kX4_isSpan rfl lX4_47 (n_in E w i.toInt64 0 (nI (σ.1 mm) - 1).toInt64) (by decide) rfl rfl (Nat.le_of_ble_eq_true rfl) ?_
    rintro _ _ ⟨rfl, rfl⟩
    rw [zq_c (inI1 v1 v5)]
    refine zV.if2 kX4_isSpan rfl (fun c2 => ?_) (fun c2 => ?_)
    · skip
      have c2 := zq_eq0.mp c2
      refine zV.run kX4_isSpan 1 rfl ?_
      exact zV.zret kX4_isSpan rfl rfl (Or.inl rfl) (⟨by rw [zq_f (fun q => c2 q.2)], rfl⟩)
    · skip
      have c2 := Decidable.not_not.mp (mt zq_eq0.mpr c2)
      refine zV.run kX4_isSpan 2 rfl ?_
      exact zV.zret kX4_isSpan rfl rfl (Or.inr rfl) (⟨by rw [zq_t ⟨c, c2⟩], rfl⟩)
theorem n_table (E : zE) {w : zWd} {σ : zSt} (h : zMs w σ) (m i j : Int32) : zOk E mX4_table 3 [.ref 49, .int m, .int i, .int j] w (zR0 w (.int (if okM m ∧ (0 ≤ i.toInt ∧ i.toInt < σ.1 m.toInt.toNat) ∧ (0 ≤ j.toInt ∧ j.toInt < σ.1 m.toInt.toNat) then zq (cov (σ.2 m.toInt.toNat) i.toInt.toNat j.toInt.toNat = true) else -2))) := by
  obtain ⟨⟨ab, be, rm, en, ej, h0⟩, hc, hx⟩ := id h
  refine zOk.of (by decide +kernel) (Nat.le_of_ble_eq_true rfl) ?_
  refine zV.run kX4_table 3 rfl ?_
  refine zV.cv kX4_table rfl lX4_100 (n_isSpan E h0 hc m i) (by decide) rfl (h0) rfl rfl rfl (Nat.le_of_ble_eq_true rfl) ?_
  rintro _ _ ⟨rfl, rfl⟩
  refine zV.if2 kX4_table rfl (fun c => ?_) (fun c => ?_)
  · skip
    have c := zq_eq0.mp c
    refine zV.run kX4_table 1 rfl ?_
    exact zV.iret kX4_table rfl rfl (⟨by rw [if_neg (fun q => c ⟨q.1, q.2.1⟩)], rfl⟩)
  · skip
    have c := Decidable.not_not.mp (mt zq_eq0.mpr c)
    refine zV.run kX4_table 3 rfl ?_
    refine zV.cv kX4_table rfl lX4_100 (n_isSpan E h0 hc m j) (by decide) rfl (h0) rfl rfl rfl (Nat.le_of_ble_eq_true rfl) ?_
    rintro _ _ ⟨rfl, rfl⟩
    refine zV.if2 kX4_table rfl (fun c2 => ?_) (fun c2 => ?_)
    · skip
      have c2 := zq_eq0.mp c2
      refine zV.run kX4_table 1 rfl ?_
      exact zV.iret kX4_table rfl rfl (⟨by rw [if_neg (fun q => c2 ⟨q.1, q.2.2⟩)], rfl⟩)
    · skip
      have c2 := Decidable.not_not.mp (mt zq_eq0.mpr c2)
      rw [if_pos ⟨c.1, c.2, c2.2⟩]
      obtain ⟨mm, emm⟩ : ∃ mm, mm = m.toInt.toNat := ⟨_, rfl⟩
      have em : m = nI mm := by rw [emm]; exact i32_nI c.1.1
      have hm : mm < 8 := by omega
      have v5 := (hc.2.2 mm hm).2.1
      obtain ⟨ii, eii⟩ : ∃ ii, ii = i.toInt.toNat := ⟨_, rfl⟩
      have ei : i = nI ii := by rw [eii]; exact i32_nI c.2.1
      obtain ⟨jj, ejj⟩ : ∃ ii, ii = j.toInt.toNat := ⟨_, rfl⟩
      have ej2 : j = nI jj := by rw [ejj]; exact i32_nI c2.2.1
      rw [← emm] at c c2
      rw [← emm, ← eii, ← ejj, em, ei, ej2]
      refine zV.run kX4_table 4 rfl ?_
      refine zV.cv kX4_table rfl lX4_104 (n_covers E h0 hc hm (i := ii) (j := jj) (by omega) (by omega)) (by decide) rfl (h0) rfl rfl rfl (Nat.le_of_ble_eq_true rfl) ?_
      rintro _ _ ⟨rfl, rfl⟩
      refine zV.run kX4_table 1 rfl ?_
      exact zV.iret kX4_table rfl rfl (⟨rfl, rfl⟩)
