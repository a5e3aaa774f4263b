/-! ===== the model: the public methods on maps ===== -/
theorem sset_vld {σ : zSt} {t n : Nat} {ld : Nat → Nat} (h : vld σ) (h1 : 1 ≤ n) (h5 : n ≤ 5) (hl : ∀ i, i ≤ n → ld i ≤ n) : vld (sset σ t n ld) := by
  intro m hm
  by_cases e : m = t
  · simp only [sset, e, if_true]; exact ⟨h1, h5, hl⟩
  · simp only [sset, e, if_false]; exact h m hm
theorem n_map_l (E : zE) {w0 : zWd} {σ : zSt} {ab be : Int64} {rm en ej : Int32} (hv : vld σ) {m n : Nat} (hm : m < 8) (h1 : 1 ≤ n) (h5 : n ≤ 5) (hx0 : zMx w0) : ∀ (r j : Nat) (w : zWd) (ld : Nat → Int32), j + r = 7 → zIs w 49 (zMo ab be rm en ej) → (∃ sz, zIs w 50 (zIA 8 sz) ∧ ∀ q, q < 8 → sz q = nI ((sset σ m n (fun _ => 0)).1 q)) → zIs w 51 (zIA 56 ld) → (∀ q i, q < 8 → q ≠ m → i ≤ σ.1 q → ld (7 * q + i) = nI (σ.2 q i)) → (∀ i, i < j → ld (7 * m + i) = 0) → (∀ a, a ≠ 50 → a ≠ 51 → w a = w0 a) → zV E mX4_map 2 (zPm w0 (.int 1) (sset σ m n (fun _ => 0))) 31 [.ref 49, .int (nI m), .int (nI n), .int (nI j)] [] w := by
  intro r
  induction r with
  | zero =>
    intro j w ld hj h0 hs hl ho hz hw
    have e : j = 7 := by omega
    subst e
    refine zV.run kX4_map 2 rfl ?_
    refine zV.ict kX4_map (cd := .ge) rfl (Int32.le_refl _) ?_
    have q1 : zMc w (sset σ m n (fun _ => 0)) := by
      refine ⟨hs, ⟨ld, hl, fun q i hq hi => ?_⟩, sset_vld hv h1 h5 (fun _ _ => Nat.zero_le _)⟩
      by_cases e : q = m
      · simp only [sset, e, if_true] at hi ⊢; exact hz i (by omega)
      · simp only [sset, e, if_false] at hi ⊢; exact ho q i hq e hi
    refine zV.run kX4_map 1 rfl ?_
    exact zV.iret kX4_map rfl rfl (⟨rfl, ⟨⟨_, _, _, _, _, h0⟩, q1, hx0.k (fun a _ _ => hw a (by omega) (by omega))⟩, fun a ha => hw a (by omega) (by omega)⟩)
  | succ r ih =>
    intro j w ld hj h0 hs hl ho hz hw
    refine zV.run kX4_map 2 rfl ?_
    refine zV.icf kX4_map (cd := .ge) rfl (fun q => absurd ((nI_leI (a := 7) (b := j) (by omega) (by omega)).mp q) (by omega)) ?_
    refine zV.run kX4_map 1 rfl ?_
    refine zV.gf kX4_map rfl fX4_13 (h0) rfl ?_
    refine zV.run kX4_map 6 rfl ?_
    refine zV.ias kX4_map rfl (hl) (7 * m + j) (ix7) (by omega) (by decide) ?_
    refine zV.run kX4_map 2 rfl ?_
    rw [nI_1]
    obtain ⟨sz, s1, s2⟩ := hs
    refine ih (j + 1) _ (upd ld (7 * m + j) 0) (by omega) (h0.n (by decide)) ⟨sz, s1.n (by decide), s2⟩ (zIs.s hl.1) (fun q i hq hne hi => ?_) (fun i hi => ?_) (fun a q1 q2 => by rw [zup_ne q2]; exact hw a q1 q2)
    · have := (hv q hq).2.1
      rw [pk_un (by omega)]; exact ho q i hq hne hi
    · by_cases e : i = j
      · rw [e]; exact pk_us
      · rw [pk_un (by omega)]; exact hz i (by omega)
theorem n_map (E : zE) {w : zWd} {σ : zSt} (h : zMs w σ) (m n : Int32) : zOk E mX4_map 2 [.ref 49, .int m, .int n] w (zPm w (.int (if okM m ∧ 1 ≤ n.toInt ∧ n.toInt ≤ 5 then 1 else -2)) (if okM m ∧ 1 ≤ n.toInt ∧ n.toInt ≤ 5 then sset σ m.toInt.toNat n.toInt.toNat (fun _ => 0) else σ)) := by
  obtain ⟨⟨ab, be, rm, en, ej, h0⟩, hc, hx⟩ := id h
  obtain ⟨⟨sz, a1, a2⟩, ⟨ld, b1, b2⟩, hv⟩ := id hc
  refine zOk.of (by decide +kernel) (Nat.le_of_ble_eq_true rfl) ?_
  refine zV.run kX4_map 1 rfl ?_
  refine zV.cs kX4_map rfl lX4_51 (n_isMap E w m) (by decide) rfl rfl (Nat.le_of_ble_eq_true rfl) ?_
  rintro _ _ ⟨rfl, rfl⟩
  refine zV.if2 kX4_map rfl (fun c => ?_) (fun c => ?_)
  · skip
    have c := zq_eq0.mp c
    rw [if_neg (fun q => c q.1), if_neg (fun q => c q.1)]
    refine zV.run kX4_map 1 rfl ?_
    exact zV.iret kX4_map rfl rfl (⟨rfl, h, fun _ _ => rfl⟩)
  · skip
    have c := Decidable.not_not.mp (mt zq_eq0.mpr c)
    refine zV.run kX4_map 3 rfl ?_
    refine zV.ldc2 kX4_map rfl qX4_55 ?_
    refine zV.cs kX4_map rfl lX4_47 (n_in E w n.toInt64 1 5) (by decide) rfl rfl (Nat.le_of_ble_eq_true rfl) ?_
    rintro _ _ ⟨rfl, rfl⟩
    rw [Int32.toInt_toInt64, show (1 : Int64).toInt = 1 from rfl, show (5 : Int64).toInt = 5 from rfl]
    refine zV.if2 kX4_map rfl (fun c2 => ?_) (fun c2 => ?_)
    · skip
      have c2 := Decidable.not_not.mp (mt zq_eq0.mpr c2)
      obtain ⟨mm, emm⟩ : ∃ mm, mm = m.toInt.toNat := ⟨_, rfl⟩
      have em : m = nI mm := by rw [emm]; exact i32_nI c.1
      have hm : mm < 8 := by omega
      obtain ⟨nn, enn⟩ : ∃ nn, nn = n.toInt.toNat := ⟨_, rfl⟩
      have en9 : n = nI nn := by rw [enn]; exact i32_nI (by omega)
      rw [if_pos ⟨c, c2⟩, if_pos ⟨c, c2⟩, ← emm, ← enn]
      refine zV.run kX4_map 1 rfl ?_
      refine zV.gf kX4_map rfl fX4_7 (h0) rfl ?_
      refine zV.run kX4_map 2 rfl ?_
      refine zV.ias kX4_map rfl (a1) (mm) (em) (hm) (by decide) ?_
      refine zV.run kX4_map 2 rfl ?_
      rw [em, en9]
      refine n_map_l E hv hm (by omega) (by omega) hx 7 0 _ ld (by omega) (h0.n (by decide)) ⟨_, zIs.s a1.1, fun q hq => ?_⟩ (b1.n (by decide)) (fun q i hq _ hi => b2 q i hq hi) (fun i hi => by omega) (fun a q1 _ => zup_ne q1)
      by_cases e : q = mm
      · rw [e, pk_us]; simp only [sset, if_true]
      · rw [pk_un e, a2 q hq]; simp only [sset, e, if_false]
    · skip
      have c2 := zq_eq0.mp (Decidable.not_not.mp c2)
      rw [if_neg (fun q => c2 q.2), if_neg (fun q => c2 q.2)]
      refine zV.run kX4_map 1 rfl ?_
      exact zV.iret kX4_map rfl rfl (⟨rfl, h, fun _ _ => rfl⟩)
theorem inI {i : Int32} {n : Nat} (hn : n ≤ 5) : ((0 : Int64).toInt ≤ i.toInt64.toInt ∧ i.toInt64.toInt ≤ (nI n).toInt64.toInt) ↔ (0 ≤ i.toInt ∧ i.toInt ≤ n) := by
  rw [Int32.toInt_toInt64, Int32.toInt_toInt64, nI_toInt (by omega), show (0 : Int64).toInt = 0 from rfl]
theorem inI1 {i : Int32} {n : Nat} (h1 : 1 ≤ n) (hn : n ≤ 5) : ((0 : Int64).toInt ≤ i.toInt64.toInt ∧ i.toInt64.toInt ≤ (nI n - 1).toInt64.toInt) ↔ (0 ≤ i.toInt ∧ i.toInt < n) := by
  rw [Int32.toInt_toInt64, Int32.toInt_toInt64, show (1 : Int32) = nI 1 from rfl, pk_sub h1, nI_toInt (by omega), show (0 : Int64).toInt = 0 from rfl]
  omega
theorem n_corner (E : zE) {w : zWd} {σ : zSt} (h : zMs w σ) (m i v : Int32) : zOk E mX4_corner 2 [.ref 49, .int m, .int i, .int v] w (zPm w (.int (if okM m ∧ (0 ≤ i.toInt ∧ i.toInt ≤ σ.1 m.toInt.toNat) ∧ (0 ≤ v.toInt ∧ v.toInt ≤ σ.1 m.toInt.toNat) then nI (σ.2 m.toInt.toNat i.toInt.toNat) else -2)) (if okM m ∧ (0 ≤ i.toInt ∧ i.toInt ≤ σ.1 m.toInt.toNat) ∧ (0 ≤ v.toInt ∧ v.toInt ≤ σ.1 m.toInt.toNat) then sset σ m.toInt.toNat (σ.1 m.toInt.toNat) (fun j => if j = i.toInt.toNat then v.toInt.toNat else σ.2 m.toInt.toNat j) else σ)) := by
  obtain ⟨⟨ab, be, rm, en, ej, h0⟩, hc, hx⟩ := id h
  obtain ⟨⟨sz, a1, a2⟩, ⟨ld, b1, b2⟩, hv⟩ := id hc
  refine zOk.of (by decide +kernel) (Nat.le_of_ble_eq_true rfl) ?_
  refine zV.run kX4_corner 1 rfl ?_
  refine zV.cs kX4_corner rfl lX4_51 (n_isMap E w m) (by decide) rfl rfl (Nat.le_of_ble_eq_true rfl) ?_
  rintro _ _ ⟨rfl, rfl⟩
  refine zV.if2 kX4_corner rfl (fun c => ?_) (fun c => ?_)
  · skip
    have c := zq_eq0.mp c
    rw [if_neg (fun q => c q.1), if_neg (fun q => c q.1)]
    refine zV.run kX4_corner 1 rfl ?_
    exact zV.iret kX4_corner rfl rfl (⟨rfl, h, fun _ _ => rfl⟩)
  · skip
    have c := Decidable.not_not.mp (mt zq_eq0.mpr c)
    obtain ⟨mm, emm⟩ : ∃ mm, mm = m.toInt.toNat := ⟨_, rfl⟩
    have em : m = nI mm := by rw [emm]; exact i32_nI c.1
    have hm : mm < 8 := by omega
    obtain ⟨v1, v5, vl⟩ := hv mm hm
    rw [← emm]
    refine zV.run kX4_corner 4 rfl ?_
    refine zV.gf kX4_corner rfl fX4_7 (h0) rfl ?_
    refine zV.run kX4_corner 1 rfl ?_
    refine zV.ial kX4_corner rfl (a1) (mm) (em) (hm) (by decide) ?_
    rw [a2 mm hm]
    refine zV.run kX4_corner 1 rfl ?_
    refine zV.cs kX4_corner rfl lX4_47 (n_in E w i.toInt64 0 (nI (σ.1 mm)).toInt64) (by decide) rfl rfl (Nat.le_of_ble_eq_true rfl) ?_
    rintro _ _ ⟨rfl, rfl⟩
    rw [zq_c (inI v5)]
    refine zV.if2 kX4_corner rfl (fun c2 => ?_) (fun c2 => ?_)
    · skip
      have c2 := zq_eq0.mp c2
      rw [if_neg (fun q => c2 q.2.1), if_neg (fun q => c2 q.2.1)]
      refine zV.run kX4_corner 1 rfl ?_
      exact zV.iret kX4_corner rfl rfl (⟨rfl, h, fun _ _ => rfl⟩)
    · skip
      have c2 := Decidable.not_not.mp (mt zq_eq0.mpr c2)
      refine zV.run kX4_corner 4 rfl ?_
      refine zV.gf kX4_corner rfl fX4_7 (h0) rfl ?_
      refine zV.run kX4_corner 1 rfl ?_
      refine zV.ial kX4_corner rfl (a1) (mm) (em) (hm) (by decide) ?_
      rw [a2 mm hm]
      refine zV.run kX4_corner 1 rfl ?_
      refine zV.cs kX4_corner rfl lX4_47 (n_in E w v.toInt64 0 (nI (σ.1 mm)).toInt64) (by decide) rfl rfl (Nat.le_of_ble_eq_true rfl) ?_
      rintro _ _ ⟨rfl, rfl⟩
      rw [zq_c (inI v5)]
      refine zV.if2 kX4_corner rfl (fun c3 => ?_) (fun c3 => ?_)
      · skip
        have c3 := Decidable.not_not.mp (mt zq_eq0.mpr c3)
        rw [if_pos ⟨c, c2, c3⟩, if_pos ⟨c, c2, c3⟩]
        obtain ⟨ii, eii⟩ : ∃ ii, ii = i.toInt.toNat := ⟨_, rfl⟩
        have ei : i = nI ii := by rw [eii]; exact i32_nI c2.1
        have hii : ii ≤ σ.1 mm := by omega
        have ev : v = nI v.toInt.toNat := i32_nI c3.1
        rw [← eii]
        have eix : (7 : Int32) * m + i = nI (7 * mm + ii) := by rw [em, ei, ix7]
        refine zV.run kX4_corner 1 rfl ?_
        refine zV.gf kX4_corner rfl fX4_13 (h0) rfl ?_
        refine zV.run kX4_corner 5 rfl ?_
        refine zV.ial kX4_corner rfl (b1) (7 * mm + ii) (eix) (by omega) (by decide) ?_
        refine zV.run kX4_corner 2 rfl ?_
        refine zV.gf kX4_corner rfl fX4_13 (h0) rfl ?_
        refine zV.run kX4_corner 6 rfl ?_
        refine zV.ias kX4_corner rfl (b1) (7 * mm + ii) (eix) (by omega) (by decide) ?_
        rw [b2 mm ii hm hii]
        have q1 : zMc (va_up w 51 (zIA 56 (upd ld (7 * mm + ii) v))) (sset σ mm (σ.1 mm) (fun j => if j = ii then v.toInt.toNat else σ.2 mm j)) := by
          refine ⟨⟨sz, a1.n (by decide), fun q hq => ?_⟩, ⟨_, zIs.s b1.1, fun q j hq hj => ?_⟩, sset_vld hv v1 v5 (fun j hj => ?_)⟩
          · by_cases e : q = mm
            · simp only [sset, e, if_true]; exact a2 mm hm
            · simp only [sset, e, if_false]; exact a2 q hq
          · by_cases e : q = mm
            · simp only [sset, e, if_true] at hj ⊢
              by_cases e2 : j = ii
              · simp only [e2, if_true]; rw [pk_us]; exact ev
              · simp only [e2, if_false]; rw [pk_un (by omega)]; exact b2 mm j hm hj
            · simp only [sset, e, if_false] at hj ⊢
              have := (hv q hq).2.1
              rw [pk_un (by omega)]; exact b2 q j hq hj
          · by_cases e2 : j = ii
            · simp only [e2, if_true]; omega
            · simp only [e2, if_false]; exact vl j hj
        refine zV.run kX4_corner 1 rfl ?_
        exact zV.iret kX4_corner rfl rfl (⟨rfl, ⟨⟨_, _, _, _, _, h0.n (by decide)⟩, q1, hx.k (fun a _ _ => zup_ne (by omega))⟩, fun a ha => zup_ne (by omega)⟩)
      · skip
        have c3 := zq_eq0.mp (Decidable.not_not.mp c3)
        rw [if_neg (fun q => c3 q.2.2), if_neg (fun q => c3 q.2.2)]
        refine zV.run kX4_corner 1 rfl ?_
        exact zV.iret kX4_corner rfl rfl (⟨rfl, h, fun _ _ => rfl⟩)
theorem n_cornerAt (E : zE) {w : zWd} {σ : zSt} (h : zMs w σ) (m i : Int32) : zOk E mX4_cornerAt 2 [.ref 49, .int m, .int i] w (zR0 w (.int (if okM m ∧ (0 ≤ i.toInt ∧ i.toInt ≤ σ.1 m.toInt.toNat) then nI (σ.2 m.toInt.toNat i.toInt.toNat) else -2))) := by
  obtain ⟨⟨ab, be, rm, en, ej, h0⟩, hc, hx⟩ := id h
  obtain ⟨⟨sz, a1, a2⟩, ⟨ld, b1, b2⟩, hv⟩ := id hc
  refine zOk.of (by decide +kernel) (Nat.le_of_ble_eq_true rfl) ?_
  refine zV.run kX4_cornerAt 1 rfl ?_
  refine zV.cs kX4_cornerAt rfl lX4_51 (n_isMap E w m) (by decide) rfl rfl (Nat.le_of_ble_eq_true rfl) ?_
  rintro _ _ ⟨rfl, rfl⟩
  refine zV.if2 kX4_cornerAt rfl (fun c => ?_) (fun c => ?_)
  · skip
    have c := zq_eq0.mp c
    refine zV.run kX4_cornerAt 1 rfl ?_
    exact zV.iret kX4_cornerAt rfl rfl (⟨by rw [if_neg (fun q => c q.1)], rfl⟩)
  · skip
    have c := Decidable.not_not.mp (mt zq_eq0.mpr c)
    obtain ⟨mm, emm⟩ : ∃ mm, mm = m.toInt.toNat := ⟨_, rfl⟩
    have em : m = nI mm := by rw [emm]; exact i32_nI c.1
    have hm : mm < 8 := by omega
    obtain ⟨v1, v5, vl⟩ := hv mm hm
    rw [← emm]
    refine zV.run kX4_cornerAt 4 rfl ?_
    refine zV.gf kX4_cornerAt rfl fX4_7 (h0) rfl ?_
    refine zV.run kX4_cornerAt 1 rfl ?_
    refine zV.ial kX4_cornerAt rfl (a1) (mm) (em) (hm) (by decide) ?_
    rw [a2 mm hm]
    refine zV.run kX4_cornerAt 1 rfl ?_
    refine zV.cs kX4_cornerAt rfl lX4_47 (n_in E w i.toInt64 0 (nI (σ.1 mm)).toInt64) (by decide) rfl rfl (Nat.le_of_ble_eq_true rfl) ?_
    rintro _ _ ⟨rfl, rfl⟩
    rw [zq_c (inI v5)]
    refine zV.if2 kX4_cornerAt rfl (fun c2 => ?_) (fun c2 => ?_)
    · skip
      have c2 := zq_eq0.mp c2
      refine zV.run kX4_cornerAt 1 rfl ?_
      exact zV.iret kX4_cornerAt rfl rfl (⟨by rw [if_neg (fun q => c2 q.2)], rfl⟩)
    · skip
      have c2 := Decidable.not_not.mp (mt zq_eq0.mpr c2)
      obtain ⟨ii, eii⟩ : ∃ ii, ii = i.toInt.toNat := ⟨_, rfl⟩
      have ei : i = nI ii := by rw [eii]; exact i32_nI c2.1
      have hii : ii ≤ σ.1 mm := by omega
      rw [if_pos ⟨c, c2⟩, ← eii]
      have eix : (7 : Int32) * m + i = nI (7 * mm + ii) := by rw [em, ei, ix7]
      refine zV.run kX4_cornerAt 1 rfl ?_
      refine zV.gf kX4_cornerAt rfl fX4_13 (h0) rfl ?_
      refine zV.run kX4_cornerAt 5 rfl ?_
      refine zV.ial kX4_cornerAt rfl (b1) (7 * mm + ii) (eix) (by omega) (by decide) ?_
      refine zV.run kX4_cornerAt 1 rfl ?_
      exact zV.iret kX4_cornerAt rfl rfl (⟨by rw [b2 mm ii hm hii], rfl⟩)
theorem n_slope (E : zE) {w : zWd} {σ : zSt} (h : zMs w σ) (m i : Int32) : zOk E mX4_slope 2 [.ref 49, .int m, .int i] w (zR0 w (.int (if okM m ∧ (0 ≤ i.toInt ∧ i.toInt < σ.1 m.toInt.toNat) then iI (sl (σ.2 m.toInt.toNat) i.toInt.toNat) else -100))) := by
  obtain ⟨⟨ab, be, rm, en, ej, h0⟩, hc, hx⟩ := id h
  obtain ⟨⟨sz, a1, a2⟩, ⟨ld, b1, b2⟩, hv⟩ := id hc
  refine zOk.of (by decide +kernel) (Nat.le_of_ble_eq_true rfl) ?_
  refine zV.run kX4_slope 1 rfl ?_
  refine zV.cs kX4_slope rfl lX4_51 (n_isMap E w m) (by decide) rfl rfl (Nat.le_of_ble_eq_true rfl) ?_
  rintro _ _ ⟨rfl, rfl⟩
  refine zV.if2 kX4_slope rfl (fun c => ?_) (fun c => ?_)
  · skip
    have c := zq_eq0.mp c
    refine zV.run kX4_slope 1 rfl ?_
    exact zV.iret kX4_slope rfl rfl (⟨by rw [if_neg (fun q => c q.1)], rfl⟩)
  · skip
    have c := Decidable.not_not.mp (mt zq_eq0.mpr c)
    obtain ⟨mm, emm⟩ : ∃ mm, mm = m.toInt.toNat := ⟨_, rfl⟩
    have em : m = nI mm := by rw [emm]; exact i32_nI c.1
    have hm : mm < 8 := by omega
    obtain ⟨v1, v5, vl⟩ := hv mm hm
    rw [← emm]
    refine zV.run kX4_slope 4 rfl ?_
    refine zV.gf kX4_slope rfl fX4_7 (h0) rfl ?_
    refine zV.run kX4_slope 1 rfl ?_
    refine zV.ial kX4_slope rfl (a1) (mm) (em) (hm) (by decide) ?_
    rw [a2 mm hm]
    refine zV.run kX4_slope 3 rfl ?_
    refine zV.cs kX4_slope rfl lX4_47 (n_in E w i.toInt64 0 (nI (σ.1 mm) - 1).toInt64) (by decide) rfl rfl (Nat.le_of_ble_eq_true rfl) ?_
    rintro _ _ ⟨rfl, rfl⟩
    rw [zq_c (inI1 v1 v5)]
    refine zV.if2 kX4_slope rfl (fun c2 => ?_) (fun c2 => ?_)
    · skip
      have c2 := zq_eq0.mp c2
      refine zV.run kX4_slope 1 rfl ?_
      exact zV.iret kX4_slope rfl rfl (⟨by rw [if_neg (fun q => c2 q.2)], rfl⟩)
    · skip
      have c2 := Decidable.not_not.mp (mt zq_eq0.mpr c2)
      obtain ⟨ii, eii⟩ : ∃ ii, ii = i.toInt.toNat := ⟨_, rfl⟩
      have ei : i = nI ii := by rw [eii]; exact i32_nI c2.1
      rw [if_pos ⟨c, c2⟩, ← eii, em, ei]
      refine zV.run kX4_slope 3 rfl ?_
      refine zV.cv kX4_slope rfl lX4_57 (n_slopeOf E h0 hc hm (i := ii) (by omega)) (by decide) rfl (h0) rfl rfl rfl (Nat.le_of_ble_eq_true rfl) ?_
      rintro _ _ ⟨rfl, rfl⟩
      refine zV.run kX4_slope 1 rfl ?_
      exact zV.iret kX4_slope rfl rfl (⟨rfl, rfl⟩)
theorem n_copy_l (E : zE) {w0 : zWd} {σ : zSt} {ab be : Int64} {rm en ej : Int32} (hv : vld σ) {m t : Nat} (hm : m < 8) (ht : t < 8) (hx0 : zMx w0) : ∀ (r j : Nat) (w : zWd) (ld : Nat → Int32), j + r = 7 → zIs w 49 (zMo ab be rm en ej) → (∃ sz, zIs w 50 (zIA 8 sz) ∧ ∀ q, q < 8 → sz q = nI ((sset σ t (σ.1 m) (σ.2 m)).1 q)) → zIs w 51 (zIA 56 ld) → (∀ q i, q < 8 → q ≠ t → i ≤ σ.1 q → ld (7 * q + i) = nI (σ.2 q i)) → (∀ i, i < j → i ≤ σ.1 m → ld (7 * t + i) = nI (σ.2 m i)) → (∀ i, j ≤ i → i ≤ σ.1 m → ld (7 * m + i) = nI (σ.2 m i)) → (∀ a, a ≠ 50 → a ≠ 51 → w a = w0 a) → zV E mX4_copy 2 (zPm w0 (.int (nI (σ.1 m))) (sset σ t (σ.1 m) (σ.2 m))) 31 [.ref 49, .int (nI m), .int (nI t), .int (nI j)] [] w := by
  obtain ⟨v1, v5, vl⟩ := hv m hm
  intro r
  induction r with
  | zero =>
    intro j w ld hj h0 hs hl ho hz hz2 hw
    have e : j = 7 := by omega
    subst e
    obtain ⟨sz, s1, s2⟩ := id hs
    refine zV.run kX4_copy 2 rfl ?_
    refine zV.ict kX4_copy (cd := .ge) rfl (Int32.le_refl _) ?_
    refine zV.run kX4_copy 1 rfl ?_
    refine zV.gf kX4_copy rfl fX4_7 (h0) rfl ?_
    refine zV.run kX4_copy 1 rfl ?_
    refine zV.ial kX4_copy rfl (s1) (t) (rfl) (ht) (by decide) ?_
    have q1 : zMc w (sset σ t (σ.1 m) (σ.2 m)) := by
      refine ⟨hs, ⟨ld, hl, fun q i hq hi => ?_⟩, sset_vld hv v1 v5 vl⟩
      by_cases e : q = t
      · simp only [sset, e, if_true] at hi ⊢; exact hz i (by omega) hi
      · simp only [sset, e, if_false] at hi ⊢; exact ho q i hq e hi
    exact zV.iret kX4_copy rfl rfl (⟨by rw [s2 t ht]; simp only [sset, if_true], ⟨⟨_, _, _, _, _, h0⟩, q1, hx0.k (fun a _ _ => hw a (by omega) (by omega))⟩, fun a ha => hw a (by omega) (by omega)⟩)
  | succ r ih =>
    intro j w ld hj h0 hs hl ho hz hz2 hw
    refine zV.run kX4_copy 2 rfl ?_
    refine zV.icf kX4_copy (cd := .ge) rfl (fun q => absurd ((nI_leI (a := 7) (b := j) (by omega) (by omega)).mp q) (by omega)) ?_
    refine zV.run kX4_copy 1 rfl ?_
    refine zV.gf kX4_copy rfl fX4_13 (h0) rfl ?_
    refine zV.run kX4_copy 6 rfl ?_
    refine zV.gf kX4_copy rfl fX4_13 (h0) rfl ?_
    refine zV.run kX4_copy 5 rfl ?_
    refine zV.ial kX4_copy rfl (hl) (7 * m + j) (ix7) (by omega) (by decide) ?_
    refine zV.ias kX4_copy rfl (hl) (7 * t + j) (ix7) (by omega) (by decide) ?_
    refine zV.run kX4_copy 2 rfl ?_
    rw [nI_1]
    obtain ⟨sz, s1, s2⟩ := hs
    refine ih (j + 1) _ (upd ld (7 * t + j) (ld (7 * m + j))) (by omega) (h0.n (by decide)) ⟨sz, s1.n (by decide), s2⟩ (zIs.s hl.1) (fun q i hq hne hi => ?_) (fun i hi hi2 => ?_) (fun i hi hi2 => ?_) (fun a q1 q2 => by rw [zup_ne q2]; exact hw a q1 q2)
    · have := (hv q hq).2.1
      rw [pk_un (by omega)]; exact ho q i hq hne hi
    · by_cases e : i = j
      · rw [e, pk_us]; exact hz2 j (Nat.le_refl _) (by omega)
      · rw [pk_un (by omega)]; exact hz i (by omega) hi2
    · rw [pk_un (by omega)]; exact hz2 i (by omega) hi2
theorem n_copy (E : zE) {w : zWd} {σ : zSt} (h : zMs w σ) (m t : Int32) : zOk E mX4_copy 2 [.ref 49, .int m, .int t] w (zPm w (.int (if okM m ∧ okM t then nI (σ.1 m.toInt.toNat) else -2)) (if okM m ∧ okM t then sset σ t.toInt.toNat (σ.1 m.toInt.toNat) (σ.2 m.toInt.toNat) else σ)) := by
  obtain ⟨⟨ab, be, rm, en, ej, h0⟩, hc, hx⟩ := id h
  obtain ⟨⟨sz, a1, a2⟩, ⟨ld, b1, b2⟩, hv⟩ := id hc
  refine zOk.of (by decide +kernel) (Nat.le_of_ble_eq_true rfl) ?_
  refine zV.run kX4_copy 1 rfl ?_
  refine zV.cs kX4_copy rfl lX4_51 (n_isMap E w m) (by decide) rfl rfl (Nat.le_of_ble_eq_true rfl) ?_
  rintro _ _ ⟨rfl, rfl⟩
  refine zV.if2 kX4_copy rfl (fun c => ?_) (fun c => ?_)
  · skip
    have c := zq_eq0.mp c
    rw [if_neg (fun q => c q.1), if_neg (fun q => c q.1)]
    refine zV.run kX4_copy 1 rfl ?_
    exact zV.iret kX4_copy rfl rfl (⟨rfl, h, fun _ _ => rfl⟩)
  · skip
    have c := Decidable.not_not.mp (mt zq_eq0.mpr c)
    refine zV.run kX4_copy 1 rfl ?_
    refine zV.cs kX4_copy rfl lX4_51 (n_isMap E w t) (by decide) rfl rfl (Nat.le_of_ble_eq_true rfl) ?_
    rintro _ _ ⟨rfl, rfl⟩
    refine zV.if2 kX4_copy rfl (fun c2 => ?_) (fun c2 => ?_)
    · skip
      have c2 := Decidable.not_not.mp (mt zq_eq0.mpr c2)
      obtain ⟨mm, emm⟩ : ∃ mm, mm = m.toInt.toNat := ⟨_, rfl⟩
      have em : m = nI mm := by rw [emm]; exact i32_nI c.1
      have hm : mm < 8 := by omega
      obtain ⟨mt, emt⟩ : ∃ mm, mm = t.toInt.toNat := ⟨_, rfl⟩
      have et : t = nI mt := by rw [emt]; exact i32_nI c2.1
      have ht : mt < 8 := by omega
      rw [if_pos ⟨c, c2⟩, if_pos ⟨c, c2⟩, ← emm, ← emt]
      refine zV.run kX4_copy 1 rfl ?_
      refine zV.gf kX4_copy rfl fX4_7 (h0) rfl ?_
      refine zV.run kX4_copy 2 rfl ?_
      refine zV.gf kX4_copy rfl fX4_7 (h0) rfl ?_
      refine zV.run kX4_copy 1 rfl ?_
      refine zV.ial kX4_copy rfl (a1) (mm) (em) (hm) (by decide) ?_
      refine zV.ias kX4_copy rfl (a1) (mt) (et) (ht) (by decide) ?_
      refine zV.run kX4_copy 2 rfl ?_
      rw [em, et, a2 mm hm]
      refine n_copy_l E hv hm ht hx 7 0 _ ld (by omega) (h0.n (by decide)) ⟨_, zIs.s a1.1, fun q hq => ?_⟩ (b1.n (by decide)) (fun q i hq _ hi => b2 q i hq hi) (fun i hi => by omega) (fun i _ hi => b2 mm i hm hi) (fun a q1 _ => zup_ne q1)
      by_cases e : q = mt
      · rw [e, pk_us]; simp only [sset, if_true]
      · rw [pk_un e, a2 q hq]; simp only [sset, e, if_false]
    · skip
      have c2 := zq_eq0.mp (Decidable.not_not.mp c2)
      rw [if_neg (fun q => c2 q.2), if_neg (fun q => c2 q.2)]
      refine zV.run kX4_copy 1 rfl ?_
      exact zV.iret kX4_copy rfl rfl (⟨rfl, h, fun _ _ => rfl⟩)
theorem n_turn_2 (E : zE) {w0 : zWd} {σ : zSt} {ab be : Int64} {rm en ej : Int32} (hv : vld σ) {m t : Nat} (hm : m < 8) (ht : t < 8) (hx0 : zMx w0) : ∀ (r j : Nat) (w : zWd) (ld dr : Nat → Int32), j + r = σ.1 m + 1 → zIs w 49 (zMo ab be rm en ej) → (∃ sz, zIs w 50 (zIA 8 sz) ∧ ∀ q, q < 8 → sz q = nI ((sset σ t (σ.1 m) (σ.2 m)).1 q)) → zIs w 51 (zIA 56 ld) → zIs w 52 (zIA 7 dr) → (∀ i, i ≤ σ.1 m → dr i = nI (σ.1 m - σ.2 m (σ.1 m - i))) → (∀ q i, q < 8 → q ≠ t → i ≤ σ.1 q → ld (7 * q + i) = nI (σ.2 q i)) → (∀ i, i < j → ld (7 * t + i) = nI (σ.1 m - σ.2 m (σ.1 m - i))) → (∀ a, a ≠ 50 → a ≠ 51 → a ≠ 52 → w a = w0 a) → zV E mX4_turn 2 (zPm w0 (.int (nI (σ.1 m))) (sset σ t (σ.1 m) (fun i => σ.1 m - σ.2 m (σ.1 m - i)))) 72 [.ref 49, .int (nI m), .int (nI t), .int (nI (σ.1 m)), .int (nI j)] [] w := by
  obtain ⟨v1, v5, vl⟩ := hv m hm
  intro r
  induction r with
  | zero =>
    intro j w ld dr hj h0 hs hl hd hdr ho hz hw
    obtain ⟨sz, s1, s2⟩ := id hs
    refine zV.run kX4_turn 2 rfl ?_
    refine zV.ict kX4_turn (cd := .gt) rfl (nI_lt (by omega) (by omega)) ?_
    have q1 : zMc w (sset σ t (σ.1 m) (fun i => σ.1 m - σ.2 m (σ.1 m - i))) := by
      refine ⟨⟨sz, s1, fun q hq => by rw [s2 q hq]; rfl⟩, ⟨ld, hl, fun q i hq hi => ?_⟩, sset_vld hv v1 v5 (fun i hi => Nat.sub_le _ _)⟩
      by_cases e : q = t
      · simp only [sset, e, if_true] at hi ⊢; exact hz i (by omega)
      · simp only [sset, e, if_false] at hi ⊢; exact ho q i hq e hi
    have q2 : zMx w := by
      obtain ⟨-, h3, h4, h5, h6, h7, h8, h9, h10⟩ := hx0
      exact ⟨⟨dr, hd⟩, ⟨h3.choose, h3.choose_spec.k (hw _ (by decide) (by decide) (by decide))⟩, ⟨h4.choose, h4.choose_spec.k (hw _ (by decide) (by decide) (by decide))⟩, ⟨h5.choose, h5.choose_spec.k (hw _ (by decide) (by decide) (by decide))⟩, ⟨h6.choose, h6.choose_spec.k (hw _ (by decide) (by decide) (by decide))⟩, ⟨h7.choose, h7.choose_spec.k (hw _ (by decide) (by decide) (by decide))⟩, ⟨h8.choose, h8.choose_spec.k (hw _ (by decide) (by decide) (by decide))⟩, ⟨h9.choose, h9.choose_spec.k (hw _ (by decide) (by decide) (by decide))⟩, ⟨h10.choose, h10.choose_spec.k (hw _ (by decide) (by decide) (by decide))⟩⟩
    refine zV.run kX4_turn 1 rfl ?_
    exact zV.iret kX4_turn rfl rfl (⟨rfl, ⟨⟨_, _, _, _, _, h0⟩, q1, q2⟩, fun a ha => hw a (by omega) (by omega) (by omega)⟩)
  | succ r ih =>
    intro j w ld dr hj h0 hs hl hd hdr ho hz hw
    refine zV.run kX4_turn 2 rfl ?_
    refine zV.icf kX4_turn (cd := .gt) rfl (nI_nlt (by omega) (by omega)) ?_
    refine zV.run kX4_turn 1 rfl ?_
    refine zV.gf kX4_turn rfl fX4_13 (h0) rfl ?_
    refine zV.run kX4_turn 6 rfl ?_
    refine zV.gf kX4_turn rfl fX4_16 (h0) rfl ?_
    refine zV.run kX4_turn 1 rfl ?_
    refine zV.ial kX4_turn rfl (hd) (j) (rfl) (by omega) (by decide) ?_
    rw [hdr j (by omega)]
    refine zV.ias kX4_turn rfl (hl) (7 * t + j) (ix7) (by omega) (by decide) ?_
    refine zV.run kX4_turn 2 rfl ?_
    rw [nI_1]
    obtain ⟨sz, s1, s2⟩ := hs
    refine ih (j + 1) _ (upd ld (7 * t + j) _) dr (by omega) (h0.n (by decide)) ⟨sz, s1.n (by decide), s2⟩ (zIs.s hl.1) (hd.n (by decide)) hdr (fun q i hq hne hi => ?_) (fun i hi => ?_) (fun a q1 q2 q3 => by rw [zup_ne q2]; exact hw a q1 q2 q3)
    · have := (hv q hq).2.1
      rw [pk_un (by omega)]; exact ho q i hq hne hi
    · by_cases e : i = j
      · rw [e, pk_us]
      · rw [pk_un (by omega)]; exact hz i (by omega)
theorem n_turn_1 (E : zE) {w0 : zWd} {σ : zSt} {ab be : Int64} {rm en ej : Int32} (hc : zMc w0 σ) {m t : Nat} (hm : m < 8) (ht : t < 8) (hx0 : zMx w0) (h00 : zIs w0 49 (zMo ab be rm en ej)) : ∀ (r j : Nat) (w : zWd) (dr : Nat → Int32), j + r = σ.1 m + 1 → zIs w 52 (zIA 7 dr) → (∀ i, i < j → dr i = nI (σ.1 m - σ.2 m (σ.1 m - i))) → (∀ a, a ≠ 52 → w a = w0 a) → zV E mX4_turn 2 (zPm w0 (.int (nI (σ.1 m))) (sset σ t (σ.1 m) (fun i => σ.1 m - σ.2 m (σ.1 m - i)))) 27 [.ref 49, .int (nI m), .int (nI t), .int (nI (σ.1 m)), .int (nI j)] [] w := by
  obtain ⟨⟨sz, a1, a2⟩, ⟨ld, b1, b2⟩, hv⟩ := id hc
  obtain ⟨v1, v5, vl⟩ := hv m hm
  intro r
  induction r with
  | zero =>
    intro j w dr hj hd hdr hw
    have h0 := h00.k (hw 49 (by decide))
    refine zV.run kX4_turn 2 rfl ?_
    refine zV.ict kX4_turn (cd := .gt) rfl (nI_lt (by omega) (by omega)) ?_
    refine zV.run kX4_turn 1 rfl ?_
    refine zV.gf kX4_turn rfl fX4_7 (h0) rfl ?_
    refine zV.run kX4_turn 2 rfl ?_
    refine zV.ias kX4_turn rfl (a1.k (hw 50 (by decide))) (t) (rfl) (ht) (by decide) ?_
    refine zV.run kX4_turn 2 rfl ?_
    refine n_turn_2 E hv hm ht hx0 (σ.1 m + 1) 0 _ ld dr (by omega) (h0.n (by decide)) ⟨_, zIs.s a1.1, fun q hq => ?_⟩ ((b1.k (hw 51 (by decide))).n (by decide)) (hd.n (by decide)) (fun i hi => hdr i (by omega)) (fun q i hq _ hi => b2 q i hq hi) (fun i hi => by omega) (fun a q1 q2 q3 => by rw [zup_ne q1]; exact hw a q3)
    by_cases e : q = t
    · rw [e, pk_us]; simp only [sset, if_true]
    · rw [pk_un e, a2 q hq]; simp only [sset, e, if_false]
  | succ r ih =>
    intro j w dr hj hd hdr hw
    have h0 := h00.k (hw 49 (by decide))
    have lj := vl (σ.1 m - j) (by omega)
    have eix : (7 : Int32) * nI m + nI (σ.1 m) - nI j = nI (7 * m + (σ.1 m - j)) := by
      rw [ix7, pk_sub (by omega)]; congr 1; omega
    refine zV.run kX4_turn 2 rfl ?_
    refine zV.icf kX4_turn (cd := .gt) rfl (nI_nlt (by omega) (by omega)) ?_
    refine zV.run kX4_turn 1 rfl ?_
    refine zV.gf kX4_turn rfl fX4_16 (h0) rfl ?_
    refine zV.run kX4_turn 3 rfl ?_
    refine zV.gf kX4_turn rfl fX4_13 (h0) rfl ?_
    refine zV.run kX4_turn 7 rfl ?_
    refine zV.ial kX4_turn rfl (b1.k (hw 51 (by decide))) (7 * m + (σ.1 m - j)) (eix) (by omega) (by decide) ?_
    rw [b2 m _ hm (by omega)]
    refine zV.run kX4_turn 1 rfl ?_
    refine zV.ias kX4_turn rfl (hd) (j) (rfl) (by omega) (by decide) ?_
    refine zV.run kX4_turn 2 rfl ?_
    rw [nI_1, pk_sub lj]
    refine ih (j + 1) _ (upd dr j _) (by omega) (zIs.s hd.1) (fun i hi => ?_) (fun a ha => by rw [zup_ne ha]; exact hw a ha)
    by_cases e : i = j
    · rw [e, pk_us]
    · rw [pk_un (by omega)]; exact hdr i (by omega)
theorem n_turn (E : zE) {w : zWd} {σ : zSt} (h : zMs w σ) (m t : Int32) : zOk E mX4_turn 2 [.ref 49, .int m, .int t] w (zPm w (.int (if okM m ∧ okM t then nI (σ.1 m.toInt.toNat) else -2)) (if okM m ∧ okM t then sset σ t.toInt.toNat (σ.1 m.toInt.toNat) (fun i => σ.1 m.toInt.toNat - σ.2 m.toInt.toNat (σ.1 m.toInt.toNat - i)) else σ)) := by
  obtain ⟨⟨ab, be, rm, en, ej, h0⟩, hc, hx⟩ := id h
  obtain ⟨⟨sz, a1, a2⟩, ⟨ld, b1, b2⟩, hv⟩ := id hc
  refine zOk.of (by decide +kernel) (Nat.le_of_ble_eq_true rfl) ?_
  refine zV.run kX4_turn 1 rfl ?_
  refine zV.cs kX4_turn rfl lX4_51 (n_isMap E w m) (by decide) rfl rfl (Nat.le_of_ble_eq_true rfl) ?_
  rintro _ _ ⟨rfl, rfl⟩
  refine zV.if2 kX4_turn rfl (fun c => ?_) (fun c => ?_)
  · skip
    have c := zq_eq0.mp c
    rw [if_neg (fun q => c q.1), if_neg (fun q => c q.1)]
    refine zV.run kX4_turn 1 rfl ?_
    exact zV.iret kX4_turn rfl rfl (⟨rfl, h, fun _ _ => rfl⟩)
  · skip
    have c := Decidable.not_not.mp (mt zq_eq0.mpr c)
    refine zV.run kX4_turn 1 rfl ?_
    refine zV.cs kX4_turn rfl lX4_51 (n_isMap E w t) (by decide) rfl rfl (Nat.le_of_ble_eq_true rfl) ?_
    rintro _ _ ⟨rfl, rfl⟩
    refine zV.if2 kX4_turn rfl (fun c2 => ?_) (fun c2 => ?_)
    · skip
      have c2 := Decidable.not_not.mp (mt zq_eq0.mpr c2)
      obtain ⟨mm, emm⟩ : ∃ mm, mm = m.toInt.toNat := ⟨_, rfl⟩
      have em : m = nI mm := by rw [emm]; exact i32_nI c.1
      have hm : mm < 8 := by omega
      obtain ⟨mt, emt⟩ : ∃ mm, mm = t.toInt.toNat := ⟨_, rfl⟩
      have et : t = nI mt := by rw [emt]; exact i32_nI c2.1
      have ht : mt < 8 := by omega
      rw [if_pos ⟨c, c2⟩, if_pos ⟨c, c2⟩, ← emm, ← emt]
      refine zV.run kX4_turn 1 rfl ?_
      refine zV.gf kX4_turn rfl fX4_7 (h0) rfl ?_
      refine zV.run kX4_turn 1 rfl ?_
      refine zV.ial kX4_turn rfl (a1) (mm) (em) (hm) (by decide) ?_
      refine zV.run kX4_turn 3 rfl ?_
      rw [em, et, a2 mm hm]
      obtain ⟨dr, hd⟩ := hx.1
      exact n_turn_1 E hc hm ht hx h0 (σ.1 mm + 1) 0 w dr (by omega) hd (fun i hi => by omega) (fun _ _ => rfl)
    · skip
      have c2 := zq_eq0.mp (Decidable.not_not.mp c2)
      rw [if_neg (fun q => c2 q.2), if_neg (fun q => c2 q.2)]
      refine zV.run kX4_turn 1 rfl ?_
      exact zV.iret kX4_turn rfl rfl (⟨rfl, h, fun _ _ => rfl⟩)
