/-! ===== the model: rounds, round, period, has, most ===== -/
def lsj (n : Nat) (ld : Nat → Nat) (p : Nat × Nat) : Nat → Nat → Bool → Bool
  | 0, _, l => l
  | r + 1, d, l => lsj n ld p r (d + 1) (l || decide (rdp (fol n ld p.2 p.1 d).toNat p.2 = p))
def isj (n : Nat) (ld : Nat → Nat) (k : Nat) (p : Nat × Nat) : Bool := !(lsj n ld p (k - 1) 1 false)
def jst (n : Nat) (ld : Nat → Nat) (k : Nat) (L : List (Nat × Nat)) : Nat := (L.filter (isj n ld k)).length
theorem n_just_1 (E : zE) {w0 : zWd} {σ : zSt} (hc : zMc w0 σ) {m : Nat} (hm : m < 8) {rm en ej : Int32} {fa fb : Nat → Int64} (g3 : zIs w0 53 (zLA 47000 fa)) (g4 : zIs w0 54 (zLA 47000 fb)) {k : Nat} (hk : k ≤ 6) {r : Nat} (hr : r < 30000) {p : Nat × Nat} (ea : fa r = lN p.1) (eb : fb r = lN p.2) (h1 : 0 < p.2) (h2 : p.2 ≤ 100000) (h3 : p.1 ≤ σ.1 m * p.2) {Post : Option Value → zWd → Prop} (c : Int32) (l0 : Bool)
    (kk : ∀ (w : zWd) (x : Nat) (z6 : Value), zAt w x p.2 rm en ej → (∀ a, a ≠ 49 → w a = w0 a) → zV E mX4_just 3 Post 97 [.ref 49, .int (nI m), .int (nI k), .int c, .int (nI r), .int (zq (l0 = true)), z6] [] w) :
    ∀ (f d : Nat) (l : Bool) (w : zWd), d + 1 + f = k → lsj (σ.1 m) (σ.2 m) p f (d + 1) l = l0 → zAt w (fol (σ.1 m) (σ.2 m) p.2 p.1 d).toNat p.2 rm en ej → (∀ a, a ≠ 49 → w a = w0 a) → zV E mX4_just 3 Post 38 [.ref 49, .int (nI m), .int (nI k), .int c, .int (nI r), .int (zq (l = true)), .int (nI (d + 1))] [] w := by
  obtain ⟨v1, v5, vl⟩ := hc.2.2 m hm
  intro f
  induction f with
  | zero =>
    intro d l w hd hl hA hw
    have e : d + 1 = k := by omega
    subst e
    have hl : l = l0 := hl
    subst hl
    refine zV.run kX4_just 2 rfl ?_
    refine zV.ict kX4_just (cd := .ge) rfl (Int32.le_refl _) ?_
    exact kk w _ _ hA hw
  | succ f ih =>
    intro d l w hd hl hA hw
    have hl : lsj (σ.1 m) (σ.2 m) p f (d + 1 + 1) (l || decide (rdp (fol (σ.1 m) (σ.2 m) p.2 p.1 (d + 1)).toNat p.2 = p)) = l0 := hl
    have ha : (p.1 : Int) ≤ σ.1 m * p.2 := by rw [← Int.natCast_mul]; omega
    have rg := fol_rg v1 vl (show (0 : Int) < p.2 by omega) (show (0 : Int) ≤ p.1 by omega) ha d
    have rg1 := fol_rg v1 vl (show (0 : Int) < p.2 by omega) (show (0 : Int) ≤ p.1 by omega) ha (d + 1)
    have ex : ((fol (σ.1 m) (σ.2 m) p.2 p.1 d).toNat : Int) = fol (σ.1 m) (σ.2 m) p.2 p.1 d := Int.toNat_of_nonneg rg.1
    have hA1 : zIs w 49 (zMo _ _ rm en ej) := hA
    refine zV.run kX4_just 2 rfl ?_
    refine zV.icf kX4_just (cd := .ge) rfl (nI_ge (by omega) (by omega)) ?_
    refine zV.run kX4_just 2 rfl ?_
    refine zV.cv kX4_just rfl lX4_90 (n_step E (hc.k (hw _ (by decide)) (hw _ (by decide))) hA hm h1 h2 (by rw [ex]; exact rg.2)) (by decide) rfl (hA1) rfl rfl rfl (Nat.le_of_ble_eq_true rfl) ?_
    rintro _ w9 ⟨rfl, e9⟩
    rw [ex] at e9
    have hw9 : ∀ a, a ≠ 49 → w9 a = w0 a := fun a q => by rw [e9, zup_ne q]; exact hw a q
    obtain ⟨y, ey⟩ : ∃ y, y = (fol (σ.1 m) (σ.2 m) p.2 p.1 (d + 1)).toNat := ⟨_, rfl⟩
    have hy : y ≤ σ.1 m * p.2 := by
      have := rg1.2
      rw [← Int.natCast_mul] at this
      omega
    have hA9 : zIs w9 49 (zMo (lN (rdp y p.2).1) (lN (rdp y p.2).2) rm en ej) := by rw [e9, ey]; exact zIs.s hA1.1
    rw [← ey] at hl
    have nxt : ∀ v : Bool, v = (l || decide (rdp y p.2 = p)) → zV E mX4_just 3 Post 89 [.ref 49, .int (nI m), .int (nI k), .int c, .int (nI r), .int (zq (l = true)), .int (nI (d + 1))] [.int (zq (v = true))] w9 := by
      intro v hv
      refine zV.run kX4_just 3 rfl ?_
      rw [nI_1]
      exact ih (d + 1) v w9 (by omega) (by rw [hv]; exact hl) (by rw [← ey]; exact hA9) hw9
    have b5 : σ.1 m * p.2 ≤ 5 * p.2 := Nat.mul_le_mul_right _ v5
    have b1 : (rdp y p.2).1 ≤ y := Nat.div_le_self _ _
    have b2 : (rdp y p.2).2 ≤ p.2 := Nat.div_le_self _ _
    refine zV.run kX4_just 1 rfl ?_
    refine zV.if2 kX4_just rfl (fun c1 => ?_) (fun c1 => ?_)
    · skip
      have c1 := Decidable.not_not.mp (mt zq_eq0.mpr c1)
      refine zV.run kX4_just 2 rfl ?_
      exact nxt true (by rw [c1]; rfl)
    · skip
      have c1 := zq_eq0.mp (Decidable.not_not.mp c1)
      have c1 : l = false := by simpa using c1
      refine zV.run kX4_just 1 rfl ?_
      refine zV.gf kX4_just rfl fX4_67 (hA9) rfl ?_
      refine zV.run kX4_just 1 rfl ?_
      refine zV.gf kX4_just rfl fX4_20 (hA9) rfl ?_
      refine zV.run kX4_just 1 rfl ?_
      refine zV.lal kX4_just rfl (g3.k (hw9 _ (by decide))) (r) (rfl) (by omega) (by decide) ?_
      rw [ea]
      refine zV.il2 kX4_just rfl rfl (fun c2 => ?_) (fun c2 => ?_)
      · skip
        have c2 : ¬ rdp y p.2 = p := fun q => c2 (by rw [q])
        refine zV.run kX4_just 1 rfl ?_
        exact nxt false (by rw [c1, decide_eq_false c2]; rfl)
      · skip
        have c2 := Decidable.not_not.mp c2
        rw [lN_lI, lN_lI] at c2
        have c2 := (lI_eq (by omega) (by omega) (by omega) (by omega)).mp c2
        refine zV.run kX4_just 1 rfl ?_
        refine zV.gf kX4_just rfl fX4_71 (hA9) rfl ?_
        refine zV.run kX4_just 1 rfl ?_
        refine zV.gf kX4_just rfl fX4_24 (hA9) rfl ?_
        refine zV.run kX4_just 1 rfl ?_
        refine zV.lal kX4_just rfl (g4.k (hw9 _ (by decide))) (r) (rfl) (by omega) (by decide) ?_
        rw [eb]
        refine zV.il2 kX4_just rfl rfl (fun c3 => ?_) (fun c3 => ?_)
        · skip
          have c3 : ¬ rdp y p.2 = p := fun q => c3 (by rw [q])
          refine zV.run kX4_just 1 rfl ?_
          exact nxt false (by rw [c1, decide_eq_false c3]; rfl)
        · skip
          have c3 := Decidable.not_not.mp c3
          rw [lN_lI, lN_lI] at c3
          have c3 := (lI_eq (by omega) (by omega) (by omega) (by omega)).mp c3
          refine zV.run kX4_just 2 rfl ?_
          exact nxt true (by rw [c1, decide_eq_true (Prod.ext (by omega) (by omega))]; rfl)
theorem n_just_l (E : zE) {w0 : zWd} {σ : zSt} (hc : zMc w0 σ) {m : Nat} (hm : m < 8) {en ej : Int32} {L : List (Nat × Nat)} {fa fb : Nat → Int64} (g3 : zIs w0 53 (zLA 47000 fa)) (g4 : zIs w0 54 (zLA 47000 fb)) (e3 : ∀ i p, L[i]? = some p → fa i = lN p.1) (e4 : ∀ i p, L[i]? = some p → fb i = lN p.2) {k : Nat} (hk1 : 1 ≤ k) (hk : k ≤ 6) (hL : L.length ≤ 20000) (hp : ∀ p ∈ L, 0 < p.2 ∧ p.2 ≤ 100000 ∧ p.1 ≤ σ.1 m * p.2) :
    ∀ (f r : Nat) (w : zWd) (ab be : Int64) (z5 z6 : Value), r + f = L.length → zIs w 49 (zMo ab be (nI L.length) en ej) → (∀ a, a ≠ 49 → w a = w0 a) → zV E mX4_just 3 (fun q w' => q = some (.int (nI (jst (σ.1 m) (σ.2 m) k L))) ∧ (∃ ab be, zIs w' 49 (zMo ab be (nI L.length) en ej)) ∧ ∀ a, a ≠ 49 → w' a = w0 a) 5 [.ref 49, .int (nI m), .int (nI k), .int (nI (jst (σ.1 m) (σ.2 m) k (L.take r))), .int (nI r), z5, z6] [] w := by
  obtain ⟨v1, v5, vl⟩ := hc.2.2 m hm
  intro f
  induction f with
  | zero =>
    intro r w ab be z5 z6 hr h0 hw
    have e : r = L.length := by omega
    subst e
    refine zV.run kX4_just 2 rfl ?_
    refine zV.gf kX4_just rfl fX4_130 (h0) rfl ?_
    refine zV.ict kX4_just (cd := .ge) rfl (Int32.le_refl _) ?_
    refine zV.run kX4_just 1 rfl ?_
    refine zV.iret kX4_just rfl rfl ⟨?_, ⟨ab, be, h0⟩, hw⟩
    rw [List.take_length]
  | succ f ih =>
    intro r w ab be z5 z6 hr h0 hw
    have hr2 : r < L.length := by omega
    obtain ⟨p, hpr⟩ : ∃ p, L[r]? = some p := ⟨_, List.getElem?_eq_getElem hr2⟩
    obtain ⟨p1, p2, p3⟩ := hp p (List.mem_of_getElem? hpr)
    have b5 : σ.1 m * p.2 ≤ 5 * p.2 := Nat.mul_le_mul_right _ v5
    have hjl : jst (σ.1 m) (σ.2 m) k (L.take r) ≤ r := by
      unfold jst
      refine Nat.le_trans (List.length_filter_le _ _) ?_
      rw [List.length_take]; omega
    have ejs : jst (σ.1 m) (σ.2 m) k (L.take (r + 1)) = jst (σ.1 m) (σ.2 m) k (L.take r) + (if isj (σ.1 m) (σ.2 m) k p = true then 1 else 0) := by
      unfold jst
      rw [List.take_add_one, hpr, List.filter_append, List.length_append]
      congr 1
      by_cases q : isj (σ.1 m) (σ.2 m) k p = true <;> simp [q]
    refine zV.run kX4_just 2 rfl ?_
    refine zV.gf kX4_just rfl fX4_130 (h0) rfl ?_
    refine zV.icf kX4_just (cd := .ge) rfl (nI_ge (by omega) (by omega)) ?_
    refine zV.run kX4_just 2 rfl ?_
    refine zV.gf kX4_just rfl fX4_20 (h0) rfl ?_
    refine zV.run kX4_just 1 rfl ?_
    refine zV.lal kX4_just rfl (g3.k (hw _ (by decide))) (r) (rfl) (by omega) (by decide) ?_
    refine zV.run kX4_just 1 rfl ?_
    refine zV.gf kX4_just rfl fX4_24 (h0) rfl ?_
    refine zV.run kX4_just 1 rfl ?_
    refine zV.lal kX4_just rfl (g4.k (hw _ (by decide))) (r) (rfl) (by omega) (by decide) ?_
    rw [e3 r p hpr, e4 r p hpr]
    refine zV.cv kX4_just rfl lX4_78 (n_at E h0 (a := p.1) (b := p.2) (by omega) (by omega) p1) (by decide) rfl (h0) rfl rfl rfl (Nat.le_of_ble_eq_true rfl) ?_
    rintro _ w9 ⟨rfl, e9⟩
    have hw9 : ∀ a, a ≠ 49 → w9 a = w0 a := fun a q => by rw [e9, zup_ne q]; exact hw a q
    refine zV.run kX4_just 4 rfl ?_
    refine n_just_1 E hc hm (rm := nI L.length) (en := en) (ej := ej) g3 g4 hk (r := r) (by omega) (e3 r p hpr) (e4 r p hpr) p1 p2 p3 _ (lsj (σ.1 m) (σ.2 m) p (k - 1) 1 false) (fun w2 x z6 hA2 hw2 => ?_) (k - 1) 0 false w9 (by omega) rfl (by rw [e9]; exact zIs.s h0.1) hw9
    have hA3 : zIs w2 49 (zMo _ _ (nI L.length) en ej) := hA2
    refine zV.run kX4_just 2 rfl ?_
    refine zV.if2 kX4_just rfl (fun c => ?_) (fun c => ?_)
    · skip
      have c := zq_eq0.mp c
      have ei : isj (σ.1 m) (σ.2 m) k p = true := by unfold isj; simpa using c
      rw [if_pos ei] at ejs
      refine zV.run kX4_just 5 rfl ?_
      rw [nI_1, nI_1, ← ejs]
      exact ih (r + 1) w2 _ _ _ _ (by omega) hA3 hw2
    · skip
      have c := Decidable.not_not.mp (mt zq_eq0.mpr c)
      have ei : ¬ isj (σ.1 m) (σ.2 m) k p = true := by unfold isj; simpa using c
      have ejs : jst (σ.1 m) (σ.2 m) k (L.take (r + 1)) = jst (σ.1 m) (σ.2 m) k (L.take r) := by rw [ejs, if_neg ei]; rfl
      refine zV.run kX4_just 6 rfl ?_
      rw [nI_1, Int32.add_zero, ← ejs]
      exact ih (r + 1) w2 _ _ _ _ (by omega) hA3 hw2
theorem zFd2.at {w w' : zWd} {R : RS} (h : zFd2 w R) {ab be : Int64} (h0 : zIs w' 49 (zMo ab be (nI R.1.length) (zq (R.2.1 = true)) (zq (R.2.2 = true)))) (hw : ∀ a, a ≠ 49 → w' a = w a) : zFd2 w' R := by
  obtain ⟨-, ⟨fa, g3, e3⟩, ⟨fb, g4, e4⟩, ⟨pS, g5, e5⟩, ⟨pT, g6, e6⟩, ⟨sS, g9, e9⟩, ⟨tS, g10, e10⟩⟩ := h
  exact ⟨⟨ab, be, h0⟩, ⟨fa, g3.k (hw _ (by decide)), e3⟩, ⟨fb, g4.k (hw _ (by decide)), e4⟩, ⟨pS, g5.k (hw _ (by decide)), e5⟩, ⟨pT, g6.k (hw _ (by decide)), e6⟩, ⟨sS, g9.k (hw _ (by decide)), e9⟩, ⟨tS, g10.k (hw _ (by decide)), e10⟩⟩
theorem n_just (E : zE) {w : zWd} {σ : zSt} (hc : zMc w σ) {m : Nat} (hm : m < 8) {R : RS} (h : zFd2 w R) (hok : rok (σ.1 m) R 20000) {k : Nat} (hk1 : 1 ≤ k) (hk : k ≤ 6) : zOk E mX4_just 3 [.ref 49, .int (nI m), .int (nI k)] w (fun q w' => q = some (.int (nI (jst (σ.1 m) (σ.2 m) k R.1))) ∧ zFd2 w' R ∧ zFo2 w w') := by
  obtain ⟨⟨ab, be, h0⟩, ⟨fa, g3, e3⟩, ⟨fb, g4, e4⟩, -⟩ := id h
  refine zOk.of (by decide +kernel) (Nat.le_of_ble_eq_true rfl) ?_
  refine zV.run kX4_just 4 rfl ?_
  refine zV.mono (fun q w' hq => ?_) (n_just_l E hc hm g3 g4 e3 e4 hk1 hk hok.1 hok.2 R.1.length 0 w ab be _ _ (by omega) h0 (fun _ _ => rfl))
  obtain ⟨q1, ⟨ab', be', q2⟩, q3⟩ := hq
  exact ⟨q1, h.at q2 q3, fun a ha => q3 a (by omega)⟩
theorem n_rounds (E : zE) {w : zWd} {σ : zSt} (h : zMs w σ) (m k : Int32) : zOk E mX4_rounds 5 [.ref 49, .int m, .int k] w (zPm w (.int (if okM m ∧ okR k then (if (fnd (σ.1 m.toInt.toNat) (σ.2 m.toInt.toNat) k.toInt.toNat (σ.1 m.toInt.toNat)).2.1 = true then -1 else nI (fnd (σ.1 m.toInt.toNat) (σ.2 m.toInt.toNat) k.toInt.toNat (σ.1 m.toInt.toNat)).1.length) else -2)) σ) := by
  obtain ⟨⟨ab, be, rm, en, ej, h0⟩, hc, hx⟩ := id h
  refine zOk.of (by decide +kernel) (Nat.le_of_ble_eq_true rfl) ?_
  refine zV.run kX4_rounds 1 rfl ?_
  refine zV.cs kX4_rounds rfl lX4_51 (n_isMap E w m) (by decide) rfl rfl (Nat.le_of_ble_eq_true rfl) ?_
  rintro _ _ ⟨rfl, rfl⟩
  refine zV.if2 kX4_rounds rfl (fun c => ?_) (fun c => ?_)
  · skip
    have c := zq_eq0.mp c
    rw [if_neg (fun q => c q.1)]
    refine zV.run kX4_rounds 1 rfl ?_
    exact zV.iret kX4_rounds rfl rfl (⟨rfl, h, fun _ _ => rfl⟩)
  · skip
    have c := Decidable.not_not.mp (mt zq_eq0.mpr c)
    refine zV.run kX4_rounds 3 rfl ?_
    refine zV.ldc2 kX4_rounds rfl qX4_145 ?_
    refine zV.cs kX4_rounds rfl lX4_47 (n_in E w k.toInt64 1 6) (by decide) rfl rfl (Nat.le_of_ble_eq_true rfl) ?_
    rintro _ _ ⟨rfl, rfl⟩
    rw [zq_c inK]
    refine zV.if2 kX4_rounds rfl (fun c2 => ?_) (fun c2 => ?_)
    · skip
      have c2 : okR k := Decidable.not_not.mp (mt zq_eq0.mpr c2)
      rw [if_pos ⟨c, c2⟩]
      obtain ⟨mm, emm⟩ : ∃ mm, mm = m.toInt.toNat := ⟨_, rfl⟩
      have em : m = nI mm := by rw [emm]; exact i32_nI c.1
      have hm : mm < 8 := by omega
      obtain ⟨kk, ekk⟩ : ∃ kk, kk = k.toInt.toNat := ⟨_, rfl⟩
      have ek : k = nI kk := by rw [ekk]; exact i32_nI (by omega)
      rw [← emm, ← ekk, em, ek]
      refine zV.run kX4_rounds 3 rfl ?_
      refine zV.cv kX4_rounds rfl lX4_147 (n_findRounds E hm h (k := kk) (by omega) (by omega)) (by decide) rfl (h0) rfl rfl rfl (Nat.le_of_ble_eq_true rfl) ?_
      rintro _ w2 ⟨rfl, hf2, hR, hok⟩
      obtain ⟨hs2, hfm⟩ := hR.ms hf2 h
      obtain ⟨⟨ab2, be2, h02⟩, -⟩ := id hR
      refine zV.run kX4_rounds 1 rfl ?_
      refine zV.gf kX4_rounds rfl fX4_120 (h02) rfl ?_
      refine zV.if2 kX4_rounds rfl (fun c3 => ?_) (fun c3 => ?_)
      · skip
        have c3 := zq_eq0.mp c3
        rw [if_neg c3]
        refine zV.run kX4_rounds 1 rfl ?_
        refine zV.gf kX4_rounds rfl fX4_130 (h02) rfl ?_
        exact zV.iret kX4_rounds rfl rfl (⟨rfl, hs2, hfm⟩)
      · skip
        have c3 := Decidable.not_not.mp (mt zq_eq0.mpr c3)
        rw [if_pos c3]
        refine zV.run kX4_rounds 2 rfl ?_
        exact zV.iret kX4_rounds rfl rfl (⟨rfl, hs2, hfm⟩)
    · skip
      have c2 : ¬ okR k := zq_eq0.mp (Decidable.not_not.mp c2)
      rw [if_neg (fun q => c2 q.2)]
      refine zV.run kX4_rounds 1 rfl ?_
      exact zV.iret kX4_rounds rfl rfl (⟨rfl, h, fun _ _ => rfl⟩)
theorem n_period (E : zE) {w : zWd} {σ : zSt} (h : zMs w σ) (m k : Int32) : zOk E mX4_period 5 [.ref 49, .int m, .int k] w (zPm w (.int (if okM m ∧ okR k then (if (fnd (σ.1 m.toInt.toNat) (σ.2 m.toInt.toNat) k.toInt.toNat (σ.1 m.toInt.toNat)).2.1 = true then -1 else nI (jst (σ.1 m.toInt.toNat) (σ.2 m.toInt.toNat) k.toInt.toNat (fnd (σ.1 m.toInt.toNat) (σ.2 m.toInt.toNat) k.toInt.toNat (σ.1 m.toInt.toNat)).1)) else -2)) σ) := by
  obtain ⟨⟨ab, be, rm, en, ej, h0⟩, hc, hx⟩ := id h
  refine zOk.of (by decide +kernel) (Nat.le_of_ble_eq_true rfl) ?_
  refine zV.run kX4_period 1 rfl ?_
  refine zV.cs kX4_period rfl lX4_51 (n_isMap E w m) (by decide) rfl rfl (Nat.le_of_ble_eq_true rfl) ?_
  rintro _ _ ⟨rfl, rfl⟩
  refine zV.if2 kX4_period rfl (fun c => ?_) (fun c => ?_)
  · skip
    have c := zq_eq0.mp c
    rw [if_neg (fun q => c q.1)]
    refine zV.run kX4_period 1 rfl ?_
    exact zV.iret kX4_period rfl rfl (⟨rfl, h, fun _ _ => rfl⟩)
  · skip
    have c := Decidable.not_not.mp (mt zq_eq0.mpr c)
    refine zV.run kX4_period 3 rfl ?_
    refine zV.ldc2 kX4_period rfl qX4_145 ?_
    refine zV.cs kX4_period rfl lX4_47 (n_in E w k.toInt64 1 6) (by decide) rfl rfl (Nat.le_of_ble_eq_true rfl) ?_
    rintro _ _ ⟨rfl, rfl⟩
    rw [zq_c inK]
    refine zV.if2 kX4_period rfl (fun c2 => ?_) (fun c2 => ?_)
    · skip
      have c2 : okR k := Decidable.not_not.mp (mt zq_eq0.mpr c2)
      rw [if_pos ⟨c, c2⟩]
      obtain ⟨mm, emm⟩ : ∃ mm, mm = m.toInt.toNat := ⟨_, rfl⟩
      have em : m = nI mm := by rw [emm]; exact i32_nI c.1
      have hm : mm < 8 := by omega
      obtain ⟨kk, ekk⟩ : ∃ kk, kk = k.toInt.toNat := ⟨_, rfl⟩
      have ek : k = nI kk := by rw [ekk]; exact i32_nI (by omega)
      rw [← emm, ← ekk, em, ek]
      refine zV.run kX4_period 3 rfl ?_
      refine zV.cv kX4_period rfl lX4_147 (n_findRounds E hm h (k := kk) (by omega) (by omega)) (by decide) rfl (h0) rfl rfl rfl (Nat.le_of_ble_eq_true rfl) ?_
      rintro _ w2 ⟨rfl, hf2, hR, hok⟩
      obtain ⟨hs2, hfm⟩ := hR.ms hf2 h
      obtain ⟨⟨ab2, be2, h02⟩, -⟩ := id hR
      refine zV.run kX4_period 1 rfl ?_
      refine zV.gf kX4_period rfl fX4_120 (h02) rfl ?_
      refine zV.if2 kX4_period rfl (fun c3 => ?_) (fun c3 => ?_)
      · skip
        have c3 := zq_eq0.mp c3
        rw [if_neg c3]
        refine zV.run kX4_period 3 rfl ?_
        refine zV.cv kX4_period rfl lX4_153 (n_just E hs2.2.1 hm hR hok (k := kk) (by omega) (by omega)) (by decide) rfl (h02) rfl rfl rfl (Nat.le_of_ble_eq_true rfl) ?_
        rintro _ w3 ⟨rfl, hR3, hf3⟩
        obtain ⟨hs3, hfm3⟩ := hR3.ms hf3 hs2
        exact zV.iret kX4_period rfl rfl (⟨rfl, hs3, fun a ha => (hfm3 a ha).trans (hfm a ha)⟩)
      · skip
        have c3 := Decidable.not_not.mp (mt zq_eq0.mpr c3)
        rw [if_pos c3]
        refine zV.run kX4_period 2 rfl ?_
        exact zV.iret kX4_period rfl rfl (⟨rfl, hs2, hfm⟩)
    · skip
      have c2 : ¬ okR k := zq_eq0.mp (Decidable.not_not.mp c2)
      rw [if_neg (fun q => c2 q.2)]
      refine zV.run kX4_period 1 rfl ?_
      exact zV.iret kX4_period rfl rfl (⟨rfl, h, fun _ _ => rfl⟩)
/-- has a point of the period k, as the model sees it -/
def hsp (n : Nat) (ld : Nat → Nat) (k : Nat) : Bool := (fnd n ld k n).2.2 || decide (0 < jst n ld k (fnd n ld k n).1)
theorem n_hasPeriod (E : zE) {w : zWd} {σ : zSt} (h : zMs w σ) {m k : Nat} (hm : m < 8) (hk1 : 1 ≤ k) (hk : k ≤ 6) : zOk E mX4_hasPeriod 5 [.ref 49, .int (nI m), .int (nI k)] w (zPm w (.int (zq (hsp (σ.1 m) (σ.2 m) k = true))) σ) := by
  obtain ⟨⟨ab, be, rm, en, ej, h0⟩, hc, hx⟩ := id h
  refine zOk.of (by decide +kernel) (Nat.le_of_ble_eq_true rfl) ?_
  refine zV.run kX4_hasPeriod 3 rfl ?_
  refine zV.cv kX4_hasPeriod rfl lX4_147 (n_findRounds E hm h hk1 hk) (by decide) rfl (h0) rfl rfl rfl (Nat.le_of_ble_eq_true rfl) ?_
  rintro _ w2 ⟨rfl, hf2, hR, hok⟩
  obtain ⟨hs2, hfm⟩ := hR.ms hf2 h
  obtain ⟨⟨ab2, be2, h02⟩, -⟩ := id hR
  refine zV.run kX4_hasPeriod 1 rfl ?_
  refine zV.gf kX4_hasPeriod rfl fX4_124 (h02) rfl ?_
  refine zV.if2 kX4_hasPeriod rfl (fun c => ?_) (fun c => ?_)
  · skip
    have c := Decidable.not_not.mp (mt zq_eq0.mpr c)
    have e : hsp (σ.1 m) (σ.2 m) k = true := by unfold hsp; rw [c]; rfl
    refine zV.run kX4_hasPeriod 2 rfl ?_
    exact zV.zret kX4_hasPeriod rfl rfl (Or.inr rfl) ⟨by rw [e]; rfl, hs2, hfm⟩
  · skip
    have c := zq_eq0.mp (Decidable.not_not.mp c)
    have c : (fnd (σ.1 m) (σ.2 m) k (σ.1 m)).2.2 = false := by simpa using c
    refine zV.run kX4_hasPeriod 3 rfl ?_
    refine zV.cv kX4_hasPeriod rfl lX4_153 (n_just E hs2.2.1 hm hR hok hk1 hk) (by decide) rfl (h02) rfl rfl rfl (Nat.le_of_ble_eq_true rfl) ?_
    rintro _ w3 ⟨rfl, hR3, hf3⟩
    obtain ⟨hs3, hfm3⟩ := hR3.ms hf3 hs2
    have hj : jst (σ.1 m) (σ.2 m) k (fnd (σ.1 m) (σ.2 m) k (σ.1 m)).1 ≤ 20000 := Nat.le_trans (List.length_filter_le _ _) hok.1
    refine zV.if2 kX4_hasPeriod rfl (fun c2 => ?_) (fun c2 => ?_)
    · skip
      have c2 := (zle _ _ (nI_iI _) (show (0 : Int32) = iI 0 from rfl) (by omega) (by omega) (by omega) (by omega)).mp c2
      have e : hsp (σ.1 m) (σ.2 m) k = false := by unfold hsp; rw [c, decide_eq_false (by omega)]; rfl
      refine zV.run kX4_hasPeriod 1 rfl ?_
      exact zV.zret kX4_hasPeriod rfl rfl (Or.inl rfl) ⟨by rw [e]; rfl, hs3, fun a ha => (hfm3 a ha).trans (hfm a ha)⟩
    · skip
      have c2 := mt (zle _ _ (nI_iI _) (show (0 : Int32) = iI 0 from rfl) (by omega) (by omega) (by omega) (by omega)).mpr c2
      have e : hsp (σ.1 m) (σ.2 m) k = true := by unfold hsp; rw [c, decide_eq_true (by omega)]; rfl
      refine zV.run kX4_hasPeriod 2 rfl ?_
      exact zV.zret kX4_hasPeriod rfl rfl (Or.inr rfl) ⟨by rw [e]; rfl, hs3, fun a ha => (hfm3 a ha).trans (hfm a ha)⟩
theorem n_has (E : zE) {w : zWd} {σ : zSt} (h : zMs w σ) (m k : Int32) : zOk E mX4_has 6 [.ref 49, .int m, .int k] w (zPm w (.int (if okM m ∧ okR k then zq (hsp (σ.1 m.toInt.toNat) (σ.2 m.toInt.toNat) k.toInt.toNat = true) else -2)) σ) := by
  obtain ⟨⟨ab, be, rm, en, ej, h0⟩, hc, hx⟩ := id h
  refine zOk.of (by decide +kernel) (Nat.le_of_ble_eq_true rfl) ?_
  refine zV.run kX4_has 1 rfl ?_
  refine zV.cs kX4_has rfl lX4_51 (n_isMap E w m) (by decide) rfl rfl (Nat.le_of_ble_eq_true rfl) ?_
  rintro _ _ ⟨rfl, rfl⟩
  refine zV.if2 kX4_has rfl (fun c => ?_) (fun c => ?_)
  · skip
    have c := zq_eq0.mp c
    rw [if_neg (fun q => c q.1)]
    refine zV.run kX4_has 2 rfl ?_
    exact zV.iret kX4_has rfl rfl (⟨rfl, h, fun _ _ => rfl⟩)
  · skip
    have c := Decidable.not_not.mp (mt zq_eq0.mpr c)
    refine zV.run kX4_has 3 rfl ?_
    refine zV.ldc2 kX4_has rfl qX4_145 ?_
    refine zV.cs kX4_has rfl lX4_47 (n_in E w k.toInt64 1 6) (by decide) rfl rfl (Nat.le_of_ble_eq_true rfl) ?_
    rintro _ _ ⟨rfl, rfl⟩
    rw [zq_c inK]
    refine zV.if2 kX4_has rfl (fun c2 => ?_) (fun c2 => ?_)
    · skip
      have c2 : okR k := Decidable.not_not.mp (mt zq_eq0.mpr c2)
      rw [if_pos ⟨c, c2⟩]
      obtain ⟨mm, emm⟩ : ∃ mm, mm = m.toInt.toNat := ⟨_, rfl⟩
      have em : m = nI mm := by rw [emm]; exact i32_nI c.1
      have hm : mm < 8 := by omega
      obtain ⟨kk, ekk⟩ : ∃ kk, kk = k.toInt.toNat := ⟨_, rfl⟩
      have ek : k = nI kk := by rw [ekk]; exact i32_nI (by omega)
      rw [← emm, ← ekk, em, ek]
      refine zV.run kX4_has 3 rfl ?_
      refine zV.cv kX4_has rfl lX4_156 (n_hasPeriod E h hm (k := kk) (by omega) (by omega)) (by decide) rfl (h0) rfl rfl rfl (Nat.le_of_ble_eq_true rfl) ?_
      rintro _ w2 ⟨rfl, hs2, hfm⟩
      refine zV.if2 kX4_has rfl (fun c3 => ?_) (fun c3 => ?_)
      · skip
        have c3 := zq_eq0.mp c3
        refine zV.run kX4_has 1 rfl ?_
        exact zV.iret kX4_has rfl rfl (⟨by rw [zq_f c3], hs2, hfm⟩)
      · skip
        have c3 := Decidable.not_not.mp (mt zq_eq0.mpr c3)
        refine zV.run kX4_has 2 rfl ?_
        exact zV.iret kX4_has rfl rfl (⟨by rw [zq_t c3], hs2, hfm⟩)
    · skip
      have c2 : ¬ okR k := zq_eq0.mp (Decidable.not_not.mp c2)
      rw [if_neg (fun q => c2 q.2)]
      refine zV.run kX4_has 2 rfl ?_
      exact zV.iret kX4_has rfl rfl (⟨rfl, h, fun _ _ => rfl⟩)
/-- what the model's round answers -/
def rnm (R : RS) (i : Nat) (what : Int32) : Int64 := if R.2.1 = true then -1 else match R.1[i]? with
  | none => -1
  | some p => lN (if what = 0 then p.1 else p.2)
theorem n_round (E : zE) {w : zWd} {σ : zSt} (h : zMs w σ) (m k i what : Int32) : zOk E mX4_round 5 [.ref 49, .int m, .int k, .int i, .int what] w (zPm w (.long (if okM m ∧ okR k ∧ 0 ≤ i.toInt ∧ (what = 0 ∨ what = 1) then rnm (fnd (σ.1 m.toInt.toNat) (σ.2 m.toInt.toNat) k.toInt.toNat (σ.1 m.toInt.toNat)) i.toInt.toNat what else -2)) σ) := by
  obtain ⟨⟨ab, be, rm, en, ej, h0⟩, hc, hx⟩ := id h
  refine zOk.of (by decide +kernel) (Nat.le_of_ble_eq_true rfl) ?_
  refine zV.run kX4_round 1 rfl ?_
  refine zV.cs kX4_round rfl lX4_51 (n_isMap E w m) (by decide) rfl rfl (Nat.le_of_ble_eq_true rfl) ?_
  rintro _ _ ⟨rfl, rfl⟩
  refine zV.if2 kX4_round rfl (fun c => ?_) (fun c => ?_)
  · skip
    have c := zq_eq0.mp c
    rw [if_neg (fun q => c q.1)]
    refine zV.ldc2 kX4_round rfl qX4_88 ?_
    exact zV.lret kX4_round rfl rfl (⟨rfl, h, fun _ _ => rfl⟩)
  · skip
    have c := Decidable.not_not.mp (mt zq_eq0.mpr c)
    refine zV.run kX4_round 3 rfl ?_
    refine zV.ldc2 kX4_round rfl qX4_145 ?_
    refine zV.cs kX4_round rfl lX4_47 (n_in E w k.toInt64 1 6) (by decide) rfl rfl (Nat.le_of_ble_eq_true rfl) ?_
    rintro _ _ ⟨rfl, rfl⟩
    rw [zq_c inK]
    refine zV.if2 kX4_round rfl (fun c2 => ?_) (fun c2 => ?_)
    · skip
      have c2 : ¬ okR k := zq_eq0.mp c2
      rw [if_neg (fun q => c2 q.2.1)]
      refine zV.ldc2 kX4_round rfl qX4_88 ?_
      exact zV.lret kX4_round rfl rfl (⟨rfl, h, fun _ _ => rfl⟩)
    · skip
      have c2 : okR k := Decidable.not_not.mp (mt zq_eq0.mpr c2)
      refine zV.run kX4_round 1 rfl ?_
      refine zV.if2 kX4_round rfl (fun c3 => ?_) (fun c3 => ?_)
      · skip
        have c3 : ¬ 0 ≤ i.toInt := by have := i32_lt.mp c3; have e0 : (0 : Int32).toInt = 0 := rfl; omega
        rw [if_neg (fun q => c3 q.2.2.1)]
        refine zV.ldc2 kX4_round rfl qX4_88 ?_
        exact zV.lret kX4_round rfl rfl (⟨rfl, h, fun _ _ => rfl⟩)
      · skip
        have c3 : 0 ≤ i.toInt := by have := mt i32_lt.mpr c3; have e0 : (0 : Int32).toInt = 0 := rfl; omega
        refine zV.run kX4_round 4 rfl ?_
        refine zV.cs kX4_round rfl lX4_47 (n_in E w what.toInt64 0 1) (by decide) rfl rfl (Nat.le_of_ble_eq_true rfl) ?_
        rintro _ _ ⟨rfl, rfl⟩
        rw [zq_c in01]
        refine zV.if2 kX4_round rfl (fun c4 => ?_) (fun c4 => ?_)
        · skip
          have c4 := Decidable.not_not.mp (mt zq_eq0.mpr c4)
          rw [if_pos ⟨c, c2, c3, c4⟩]
          obtain ⟨mm, emm⟩ : ∃ mm, mm = m.toInt.toNat := ⟨_, rfl⟩
          have em : m = nI mm := by rw [emm]; exact i32_nI c.1
          have hm : mm < 8 := by omega
          obtain ⟨kk, ekk⟩ : ∃ kk, kk = k.toInt.toNat := ⟨_, rfl⟩
          have ek : k = nI kk := by rw [ekk]; exact i32_nI (by omega)
          obtain ⟨ii, eii⟩ : ∃ kk, kk = i.toInt.toNat := ⟨_, rfl⟩
          have ei : i = nI ii := by rw [eii]; exact i32_nI c3
          have hi : ii < 2147483648 := by have := iI_rg i; omega
          rw [← emm, ← ekk, ← eii, em, ek, ei]
          refine zV.run kX4_round 3 rfl ?_
          refine zV.cv kX4_round rfl lX4_147 (n_findRounds E hm h (k := kk) (by omega) (by omega)) (by decide) rfl (h0) rfl rfl rfl (Nat.le_of_ble_eq_true rfl) ?_
          rintro _ w2 ⟨rfl, hf2, hR, hok⟩
          obtain ⟨R, eR⟩ : ∃ R, R = fnd (σ.1 mm) (σ.2 mm) kk (σ.1 mm) := ⟨_, rfl⟩
          rw [← eR] at hR hok ⊢
          obtain ⟨hs2, hfm⟩ := hR.ms hf2 h
          obtain ⟨⟨ab2, be2, h02⟩, ⟨fa, g3, e3⟩, ⟨fb, g4, e4⟩, -⟩ := id hR
          have hl := hok.1
          refine zV.run kX4_round 1 rfl ?_
          refine zV.gf kX4_round rfl fX4_120 (h02) rfl ?_
          refine zV.if2 kX4_round rfl (fun c5 => ?_) (fun c5 => ?_)
          · skip
            have c5 := Decidable.not_not.mp (mt zq_eq0.mpr c5)
            have e : rnm R ii what = -1 := if_pos c5
            rw [e]
            refine zV.ldc2 kX4_round rfl qX4_151 ?_
            refine zV.run kX4_round 1 rfl ?_
            exact zV.lret kX4_round rfl rfl (⟨rfl, hs2, hfm⟩)
          · skip
            have c5 := zq_eq0.mp (Decidable.not_not.mp c5)
            refine zV.run kX4_round 2 rfl ?_
            refine zV.gf kX4_round rfl fX4_130 (h02) rfl ?_
            refine zV.ic2 kX4_round rfl (fun c6 => ?_) (fun c6 => ?_)
            · skip
              have c6 := (zlt _ _ (nI_iI ii) (nI_iI R.1.length) (by omega) (by omega) (by omega) (by omega)).mp c6
              obtain ⟨p, hp⟩ : ∃ p, R.1[ii]? = some p := ⟨_, List.getElem?_eq_getElem (by omega)⟩
              have e : rnm R ii what = lN (if what = 0 then p.1 else p.2) := by unfold rnm; rw [if_neg c5, hp]
              rw [e]
              refine zV.run kX4_round 1 rfl ?_
              refine zV.if2 kX4_round rfl (fun c7 => ?_) (fun c7 => ?_)
              · skip
                have c7 : ¬ what = 0 := c7
                rw [if_neg c7]
                refine zV.run kX4_round 1 rfl ?_
                refine zV.gf kX4_round rfl fX4_24 (h02) rfl ?_
                refine zV.run kX4_round 1 rfl ?_
                refine zV.lal kX4_round rfl (g4) (ii) (rfl) (by omega) (by decide) ?_
                rw [e4 ii p hp]
                exact zV.lret kX4_round rfl rfl (⟨rfl, hs2, hfm⟩)
              · skip
                have c7 : what = 0 := Decidable.not_not.mp c7
                rw [if_pos c7]
                refine zV.run kX4_round 1 rfl ?_
                refine zV.gf kX4_round rfl fX4_20 (h02) rfl ?_
                refine zV.run kX4_round 1 rfl ?_
                refine zV.lal kX4_round rfl (g3) (ii) (rfl) (by omega) (by decide) ?_
                rw [e3 ii p hp]
                refine zV.run kX4_round 1 rfl ?_
                exact zV.lret kX4_round rfl rfl (⟨rfl, hs2, hfm⟩)
            · skip
              have c6 := mt (zlt _ _ (nI_iI ii) (nI_iI R.1.length) (by omega) (by omega) (by omega) (by omega)).mpr c6
              have e : rnm R ii what = -1 := by unfold rnm; rw [if_neg c5, List.getElem?_eq_none (by omega)]
              rw [e]
              refine zV.ldc2 kX4_round rfl qX4_151 ?_
              refine zV.run kX4_round 1 rfl ?_
              exact zV.lret kX4_round rfl rfl (⟨rfl, hs2, hfm⟩)
        · skip
          have c4 := zq_eq0.mp (Decidable.not_not.mp c4)
          rw [if_neg (fun q => c4 q.2.2.2)]
          refine zV.ldc2 kX4_round rfl qX4_88 ?_
          exact zV.lret kX4_round rfl rfl (⟨rfl, h, fun _ _ => rfl⟩)
def mom (n : Nat) (ld : Nat → Nat) : Nat → Nat → Nat → Nat
  | 0, _, f => f
  | r + 1, k, f => mom n ld r (k + 1) (if cah k f = true ∧ hsp n ld k = true then k else f)
theorem n_most_l (E : zE) {w0 : zWd} {σ : zSt} {m : Nat} (hm : m < 8) : ∀ (r k f : Nat) (w : zWd), k + r = 7 → 2 ≤ k → 0 < f → f < 7 → zMs w σ → zFm w0 w → zV E mX4_most 6 (zPm w0 (.int (nI (mom (σ.1 m) (σ.2 m) r k f))) σ) 14 [.ref 49, .int (nI m), .int (nI f), .int (nI k)] [] w := by
  intro r
  induction r with
  | zero =>
    intro k f w hk hk2 h0 h7 hs hf
    have e : k = 7 := by omega
    subst e
    refine zV.run kX4_most 2 rfl ?_
    refine zV.ict kX4_most (cd := .gt) rfl (show (6 : Int32) < nI 7 by decide) ?_
    refine zV.run kX4_most 1 rfl ?_
    exact zV.iret kX4_most rfl rfl (⟨rfl, hs, hf⟩)
  | succ r ih =>
    intro k f w hk hk2 h0 h7 hs hf
    have e : mom (σ.1 m) (σ.2 m) (r + 1) k f = mom (σ.1 m) (σ.2 m) r (k + 1) (if cah k f = true ∧ hsp (σ.1 m) (σ.2 m) k = true then k else f) := rfl
    rw [e]
    obtain ⟨⟨ab, be, rm, en, ej, h00⟩, hc, hx⟩ := id hs
    refine zV.run kX4_most 2 rfl ?_
    refine zV.icf kX4_most (cd := .gt) rfl (fun q => absurd ((nI_ltI (a := 6) (b := k) (by omega) (by omega)).mp q) (by omega)) ?_
    refine zV.run kX4_most 2 rfl ?_
    refine zV.cs kX4_most rfl lX4_161 (n_isAhead E w (p := k) (q := f) (by omega) (by omega) (by omega) h0) (by decide) rfl rfl (Nat.le_of_ble_eq_true rfl) ?_
    rintro _ _ ⟨rfl, rfl⟩
    refine zV.if2 kX4_most rfl (fun c => ?_) (fun c => ?_)
    · skip
      have c := zq_eq0.mp c
      rw [if_neg (fun q => c q.1)]
      refine zV.run kX4_most 4 rfl ?_
      rw [nI_1]
      exact ih (k + 1) f w (by omega) (by omega) h0 h7 hs hf
    · skip
      have c := Decidable.not_not.mp (mt zq_eq0.mpr c)
      refine zV.run kX4_most 3 rfl ?_
      refine zV.cv kX4_most rfl lX4_156 (n_hasPeriod E hs hm (k := k) (by omega) (by omega)) (by decide) rfl (h00) rfl rfl rfl (Nat.le_of_ble_eq_true rfl) ?_
      rintro _ w2 ⟨rfl, hs2, hfm⟩
      refine zV.if2 kX4_most rfl (fun c2 => ?_) (fun c2 => ?_)
      · skip
        have c2 := zq_eq0.mp c2
        rw [if_neg (fun q => c2 q.2)]
        refine zV.run kX4_most 4 rfl ?_
        rw [nI_1]
        exact ih (k + 1) f w2 (by omega) (by omega) h0 h7 hs2 (fun a ha => (hfm a ha).trans (hf a ha))
      · skip
        have c2 := Decidable.not_not.mp (mt zq_eq0.mpr c2)
        rw [if_pos ⟨c, c2⟩]
        refine zV.run kX4_most 5 rfl ?_
        rw [nI_1]
        exact ih (k + 1) k w2 (by omega) (by omega) (by omega) (by omega) hs2 (fun a ha => (hfm a ha).trans (hf a ha))
theorem n_most (E : zE) {w : zWd} {σ : zSt} (h : zMs w σ) (m : Int32) : zOk E mX4_most 6 [.ref 49, .int m] w (zPm w (.int (if okM m then nI (mom (σ.1 m.toInt.toNat) (σ.2 m.toInt.toNat) 5 2 1) else -2)) σ) := by
  refine zOk.of (by decide +kernel) (Nat.le_of_ble_eq_true rfl) ?_
  refine zV.run kX4_most 1 rfl ?_
  refine zV.cs kX4_most rfl lX4_51 (n_isMap E w m) (by decide) rfl rfl (Nat.le_of_ble_eq_true rfl) ?_
  rintro _ _ ⟨rfl, rfl⟩
  refine zV.if2 kX4_most rfl (fun c => ?_) (fun c => ?_)
  · skip
    have c := Decidable.not_not.mp (mt zq_eq0.mpr c)
    obtain ⟨mm, emm⟩ : ∃ mm, mm = m.toInt.toNat := ⟨_, rfl⟩
    have em : m = nI mm := by rw [emm]; exact i32_nI c.1
    have hm : mm < 8 := by omega
    rw [if_pos c, ← emm, em]
    refine zV.run kX4_most 4 rfl ?_
    exact n_most_l E hm 5 2 1 w (by omega) (by omega) (by omega) (by omega) h (fun _ _ => rfl)
  · skip
    have c := zq_eq0.mp (Decidable.not_not.mp c)
    rw [if_neg c]
    refine zV.run kX4_most 1 rfl ?_
    exact zV.iret kX4_most rfl rfl (⟨rfl, h, fun _ _ => rfl⟩)
