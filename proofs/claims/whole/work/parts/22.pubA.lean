/-! ===== SpanMaps: the public methods ===== -/
abbrev zSt : Type := (Nat → Nat) × (Nat → Nat → Nat)
def zSys (w : zWd) (σ : zSt) : Prop := zIs w 0 (zOb 3 [.ref 1, .ref 18, .ref 31]) ∧ (∃ F, zIs w 1 (zRA 3 8 F) ∧ ∀ j, j < 8 → F j = some (2 + j)) ∧ (∀ m, m < 8 → zFo w (2 + m) (10 + m) (σ.1 m) (σ.2 m)) ∧ (∃ s rw, zPw w 18 s rw) ∧ (∃ s tq fa fb cp ep es nw, zRt w s tq fa fb cp ep es nw) ∧ (∃ s rw, zPw w 32 s rw)
def zFc (w w' : zWd) : Prop := ∀ a, 49 ≤ a → w' a = w a
def sset (σ : zSt) (t n : Nat) (ld : Nat → Nat) : zSt := (fun j => if j = t then n else σ.1 j, fun j => if j = t then ld else σ.2 j)
theorem zPw.k {w w' : zWd} {P s : Nat} {rw : Nat → Nat → Int64} (h : zPw w P s rw) (hw : ∀ a, P ≤ a → a < P + 13 → w' a = w a) : zPw w' P s rw :=
  ⟨h.1.k (hw _ (by omega) (by omega)), ⟨h.2.1.choose, h.2.1.choose_spec.1.k (hw _ (by omega) (by omega)), h.2.1.choose_spec.2⟩, fun j hj => (h.2.2 j hj).k (hw _ (by omega) (by omega))⟩
theorem zRt.k {w w' : zWd} {s : Nat} {tq fa fb : Int64} {cp ep es : Nat → Int32} {nw : Nat → Int64} (h : zRt w s tq fa fb cp ep es nw) (hw : ∀ a, 31 ≤ a → a < 49 → w' a = w a) : zRt w' s tq fa fb cp ep es nw :=
  ⟨h.1.k (hw _ (by omega) (by omega)), h.2.1.k (hw _ (by omega) (by omega)), h.2.2.1.k (hw _ (by omega) (by omega)), h.2.2.2.1.k (hw _ (by omega) (by omega)), h.2.2.2.2.k (hw _ (by omega) (by omega))⟩
theorem zSys.fold {w w' : zWd} {σ : zSt} {t n : Nat} {ld : Nat → Nat} (h : zSys w σ) (ht : t < 8) (hF : zFo w' (2 + t) (10 + t) n ld) (hw : ∀ a, a ≠ 2 + t → a ≠ 10 + t → w' a = w a) : zSys w' (sset σ t n ld) := by
  obtain ⟨h0, ⟨F, h1, h1f⟩, h2, ⟨s, rw, h3⟩, ⟨s4, tq, fa, fb, cp, ep, es, nw, h4⟩, ⟨s5, rw5, h5⟩⟩ := h
  refine ⟨h0.k (hw _ (by omega) (by omega)), ⟨F, h1.k (hw _ (by omega) (by omega)), h1f⟩, fun m hm => ?_, ⟨s, rw, h3.k (fun a _ _ => hw a (by omega) (by omega))⟩, ⟨s4, tq, fa, fb, cp, ep, es, nw, h4.k (fun a _ _ => hw a (by omega) (by omega))⟩, ⟨s5, rw5, h5.k (fun a _ _ => hw a (by omega) (by omega))⟩⟩
  by_cases e : m = t
  · subst e
    simp only [sset, if_true]
    exact hF
  · simp only [sset, e, if_false]
    exact (h2 m hm).k (hw _ (by omega) (by omega)) (hw _ (by omega) (by omega))
theorem zSys.pow {w w' : zWd} {σ : zSt} {s : Nat} {rw : Nat → Nat → Int64} (h : zSys w σ) (hP : zPw w' 18 s rw) (hw : ∀ a, (a < 18 ∨ 18 + 13 ≤ a) → w' a = w a) : zSys w' σ := by
  obtain ⟨h0, ⟨F, h1, h1f⟩, h2, -, ⟨s4, tq, fa, fb, cp, ep, es, nw, h4⟩, ⟨s5, rw5, h5⟩⟩ := h
  exact ⟨h0.k (hw _ (by omega)), ⟨F, h1.k (hw _ (by omega)), h1f⟩, fun m hm => (h2 m hm).k (hw _ (by omega)) (hw _ (by omega)), ⟨s, rw, hP⟩, ⟨s4, tq, fa, fb, cp, ep, es, nw, h4.k (fun a _ _ => hw a (by omega))⟩, ⟨s5, rw5, h5.k (fun a _ _ => hw a (by omega))⟩⟩
theorem zSys.ret {w w' : zWd} {σ : zSt} {n : Nat} {ld : Nat → Nat} (h : zSys w σ) (hS : zSd w' n ld) (hw : zFr w w') : zSys w' σ := by
  obtain ⟨h0, ⟨F, h1, h1f⟩, h2, ⟨s, rw, h3⟩, -, -⟩ := h
  obtain ⟨tq, fa, fb, cp, ep, es, nw, rw2, h4, h5, -⟩ := hS
  exact ⟨h0.k (hw _ (by omega)), ⟨F, h1.k (hw _ (by omega)), h1f⟩, fun m hm => (h2 m hm).k (hw _ (by omega)) (hw _ (by omega)), ⟨s, rw, h3.k (fun a _ _ => hw a (by omega))⟩, ⟨n, tq, fa, fb, cp, ep, es, nw, h4⟩, ⟨n, rw2, h5⟩⟩
theorem zSd.fd {w w' : zWd} {n : Nat} {ld : Nat → Nat} {o : Option (Int × Int)} (h : zSd w n ld) (hf : zFd w w' n ld o) : zSd w' n ld := by
  obtain ⟨tq, fa, fb, cp, ep, es, nw, rw, ⟨r1, r2, r3, r4, r5⟩, h5, h6⟩ := h
  obtain ⟨hw, tq2, fa2, fb2, q, -⟩ := hf
  exact ⟨tq2, fa2, fb2, cp, ep, es, nw, rw, ⟨q, r2.k (hw _ (by decide)), r3.k (hw _ (by decide)), r4.k (hw _ (by decide)), r5.k (hw _ (by decide))⟩, h5.k (fun a _ _ => hw a (by omega)), h6⟩
theorem i32_nI {x : Int32} (h : 0 ≤ x.toInt) : x = nI x.toInt.toNat := by
  rw [nI_iI, Int.toNat_of_nonneg h]
  exact iI_of x
theorem i64_lI (x : Int64) : x = lI x.toInt := lI_of x
theorem lI_nat {z : Int} (h : 0 ≤ z) : lI z = lN z.toNat := by rw [lN_lI, Int.toNat_of_nonneg h]
abbrev okM (m : Int32) : Prop := 0 ≤ m.toInt ∧ m.toInt < 8
abbrev zPo (w : zWd) (v : Value) (σ : zSt) : Option Value → zWd → Prop := fun r w' => r = some v ∧ zSys w' σ ∧ zFc w w'
theorem p_map (E : zE) {w : zWd} {σ : zSt} (h : zSys w σ) (m n : Int32) : zOk E mX3_map 1 [.ref 0, .int m, .int n] w (zPo w (.int (if okM m ∧ 1 ≤ n.toInt ∧ n.toInt ≤ 5 then 1 else -2)) (if okM m ∧ 1 ≤ n.toInt ∧ n.toInt ≤ 5 then sset σ m.toInt.toNat n.toInt.toNat (fun _ => 0) else σ)) := by
  obtain ⟨x0, ⟨F, x1, x1f⟩, x2, -, -, -⟩ := id h
  refine zOk.of (by decide +kernel) (Nat.le_of_ble_eq_true rfl) ?_
  refine zV.run kX3_map 1 rfl ?_
  refine zV.cs kX3_map rfl lX3_30 (o_isMap E w m) (by decide) rfl rfl (Nat.le_of_ble_eq_true rfl) ?_
  rintro _ _ ⟨rfl, rfl⟩
  refine zV.if2 kX3_map rfl (fun c => ?_) (fun c => ?_)
  · skip
    have c := zq_eq0.mp c
    rw [if_neg (fun q => c q.1), if_neg (fun q => c q.1)]
    refine zV.run kX3_map 1 rfl ?_
    exact zV.iret kX3_map rfl rfl (⟨rfl, h, fun _ _ => rfl⟩)
  · skip
    have c := Decidable.not_not.mp (mt zq_eq0.mpr c)
    refine zV.run kX3_map 2 rfl ?_
    refine zV.ic2 kX3_map rfl (fun c2 => ?_) (fun c2 => ?_)
    · skip
      have c2 : n.toInt < 1 := i32_lt.mp c2
      rw [if_neg (fun q => absurd q.2.1 (by omega)), if_neg (fun q => absurd q.2.1 (by omega))]
      refine zV.run kX3_map 1 rfl ?_
      exact zV.iret kX3_map rfl rfl (⟨rfl, h, fun _ _ => rfl⟩)
    · skip
      have c2 : 1 ≤ n.toInt := i32_le.mp (Int32.not_lt.mp c2)
      refine zV.run kX3_map 2 rfl ?_
      refine zV.ic2 kX3_map rfl (fun c3 => ?_) (fun c3 => ?_)
      · skip
        have c3 : n.toInt ≤ 5 := i32_le.mp c3
        obtain ⟨mm, emm⟩ : ∃ mm, mm = m.toInt.toNat := ⟨_, rfl⟩
        have em : m = nI mm := by rw [emm]; exact i32_nI c.1
        have hm : mm < 8 := by omega
        obtain ⟨nn, enn⟩ : ∃ nn, nn = n.toInt.toNat := ⟨_, rfl⟩
        have en : n = nI nn := by rw [enn]; exact i32_nI (by omega)
        rw [if_pos ⟨c, c2, c3⟩, if_pos ⟨c, c2, c3⟩, ← emm, ← enn]
        obtain ⟨led, hf, hg, -⟩ := id (x2 mm hm)
        refine zV.run kX3_map 1 rfl ?_
        refine zV.gf kX3_map rfl fX3_11 (x0) rfl ?_
        refine zV.run kX3_map 1 rfl ?_
        refine zV.aalF kX3_map rfl (x1) mm (em) (hm) (by decide) (x1f mm hm) ?_
        rw [en]
        refine zV.run kX3_map 1 rfl ?_
        refine zV.cv kX3_map rfl lX3_34 (o_flatten E (x2 mm hm) (n := nn) (by omega) (by omega) (by omega)) (by decide) rfl (hf) rfl rfl rfl (Nat.le_of_ble_eq_true rfl) ?_
        rintro _ w9 ⟨rfl, q1, q2⟩
        refine zV.run kX3_map 1 rfl ?_
        exact zV.iret kX3_map rfl rfl (⟨rfl, h.fold hm q1 q2, fun a ha => q2 a (by omega) (by omega)⟩)
      · skip
        have c3 : 5 < n.toInt := i32_lt.mp (Int32.not_le.mp c3)
        rw [if_neg (fun q => absurd q.2.2 (by omega)), if_neg (fun q => absurd q.2.2 (by omega))]
        refine zV.run kX3_map 1 rfl ?_
        exact zV.iret kX3_map rfl rfl (⟨rfl, h, fun _ _ => rfl⟩)
theorem p_corner (E : zE) {w : zWd} {σ : zSt} (h : zSys w σ) (m i v : Int32) : zOk E mX3_corner 1 [.ref 0, .int m, .int i, .int v] w (zPo w (.int (if okM m ∧ (0 ≤ i.toInt ∧ i.toInt ≤ σ.1 m.toInt.toNat) ∧ (0 ≤ v.toInt ∧ v.toInt ≤ σ.1 m.toInt.toNat) then nI (σ.2 m.toInt.toNat i.toInt.toNat) else -2)) (if okM m ∧ (0 ≤ i.toInt ∧ i.toInt ≤ σ.1 m.toInt.toNat) ∧ (0 ≤ v.toInt ∧ v.toInt ≤ σ.1 m.toInt.toNat) then sset σ m.toInt.toNat (σ.1 m.toInt.toNat) (fun j => if j = i.toInt.toNat then v.toInt.toNat else σ.2 m.toInt.toNat j) else σ)) := by
  obtain ⟨x0, ⟨F, x1, x1f⟩, x2, -, -, -⟩ := id h
  refine zOk.of (by decide +kernel) (Nat.le_of_ble_eq_true rfl) ?_
  refine zV.run kX3_corner 1 rfl ?_
  refine zV.cs kX3_corner rfl lX3_30 (o_isMap E w m) (by decide) rfl rfl (Nat.le_of_ble_eq_true rfl) ?_
  rintro _ _ ⟨rfl, rfl⟩
  refine zV.if2 kX3_corner rfl (fun c => ?_) (fun c => ?_)
  · skip
    have c := zq_eq0.mp c
    rw [if_neg (fun q => c q.1), if_neg (fun q => c q.1)]
    refine zV.run kX3_corner 1 rfl ?_
    exact zV.iret kX3_corner rfl rfl (⟨rfl, h, fun _ _ => rfl⟩)
  · skip
    have c := Decidable.not_not.mp (mt zq_eq0.mpr c)
    obtain ⟨mm, emm⟩ : ∃ mm, mm = m.toInt.toNat := ⟨_, rfl⟩
    have em : m = nI mm := by rw [emm]; exact i32_nI c.1
    have hm : mm < 8 := by omega
    rw [← emm]
    obtain ⟨led, hf, hg, hl, h1, h5, hb⟩ := id (x2 mm hm)
    refine zV.run kX3_corner 1 rfl ?_
    refine zV.gf kX3_corner rfl fX3_11 (x0) rfl ?_
    refine zV.run kX3_corner 1 rfl ?_
    refine zV.aalF kX3_corner rfl (x1) mm (em) (hm) (by decide) (x1f mm hm) ?_
    refine zV.run kX3_corner 1 rfl ?_
    refine zV.cv kX3_corner rfl lX3_38 (o_hasCorner E (x2 mm hm) i) (by decide) rfl (hf) rfl rfl rfl (Nat.le_of_ble_eq_true rfl) ?_
    rintro _ _ ⟨rfl, rfl⟩
    refine zV.if2 kX3_corner rfl (fun c2 => ?_) (fun c2 => ?_)
    · skip
      have c2 := zq_eq0.mp c2
      rw [if_neg (fun q => c2 q.2.1), if_neg (fun q => c2 q.2.1)]
      refine zV.run kX3_corner 1 rfl ?_
      exact zV.iret kX3_corner rfl rfl (⟨rfl, h, fun _ _ => rfl⟩)
    · skip
      have c2 := Decidable.not_not.mp (mt zq_eq0.mpr c2)
      refine zV.run kX3_corner 1 rfl ?_
      refine zV.gf kX3_corner rfl fX3_11 (x0) rfl ?_
      refine zV.run kX3_corner 1 rfl ?_
      refine zV.aalF kX3_corner rfl (x1) mm (em) (hm) (by decide) (x1f mm hm) ?_
      refine zV.run kX3_corner 1 rfl ?_
      refine zV.cv kX3_corner rfl lX3_38 (o_hasCorner E (x2 mm hm) v) (by decide) rfl (hf) rfl rfl rfl (Nat.le_of_ble_eq_true rfl) ?_
      rintro _ _ ⟨rfl, rfl⟩
      refine zV.if2 kX3_corner rfl (fun c3 => ?_) (fun c3 => ?_)
      · skip
        have c3 := Decidable.not_not.mp (mt zq_eq0.mpr c3)
        rw [if_pos ⟨c, c2, c3⟩, if_pos ⟨c, c2, c3⟩]
        obtain ⟨ii, eii⟩ : ∃ ii, ii = i.toInt.toNat := ⟨_, rfl⟩
        have ei : i = nI ii := by rw [eii]; exact i32_nI c2.1
        have hii : ii ≤ σ.1 mm := by omega
        have ev : v = nI v.toInt.toNat := i32_nI c3.1
        rw [← eii]
        refine zV.run kX3_corner 1 rfl ?_
        refine zV.gf kX3_corner rfl fX3_11 (x0) rfl ?_
        refine zV.run kX3_corner 1 rfl ?_
        refine zV.aalF kX3_corner rfl (x1) mm (em) (hm) (by decide) (x1f mm hm) ?_
        refine zV.gf kX3_corner rfl fX3_41 (hf) rfl ?_
        refine zV.run kX3_corner 1 rfl ?_
        refine zV.ial kX3_corner rfl (hg) (ii) (ei) (by omega) (by decide) ?_
        refine zV.run kX3_corner 2 rfl ?_
        refine zV.gf kX3_corner rfl fX3_11 (x0) rfl ?_
        refine zV.run kX3_corner 1 rfl ?_
        refine zV.aalF kX3_corner rfl (x1) mm (em) (hm) (by decide) (x1f mm hm) ?_
        refine zV.gf kX3_corner rfl fX3_41 (hf) rfl ?_
        refine zV.run kX3_corner 2 rfl ?_
        refine zV.ias kX3_corner rfl (hg) (ii) (ei) (by omega) (by decide) ?_
        rw [hl ii hii]
        have q1 : zFo (va_up w (10 + mm) (zIA 6 (upd led ii v))) (2 + mm) (10 + mm) (σ.1 mm) (fun j => if j = ii then v.toInt.toNat else σ.2 mm j) := by
          refine ⟨_, hf.n (by omega), zIs.s hg.1, fun j hj => ?_, h1, h5, fun j hj => ?_⟩
          · by_cases q : j = ii
            · simp only [q, if_true]; rw [pk_us]; exact ev
            · simp only [q, if_false]; rw [pk_un q]; exact hl j hj
          · by_cases q : j = ii
            · simp only [q, if_true]; omega
            · simp only [q, if_false]; exact hb j hj
        refine zV.run kX3_corner 1 rfl ?_
        exact zV.iret kX3_corner rfl rfl (⟨rfl, h.fold hm q1 (fun a _ qb => zup_ne qb), fun a ha => zup_ne (by omega)⟩)
      · skip
        have c3 := zq_eq0.mp (Decidable.not_not.mp c3)
        rw [if_neg (fun q => c3 q.2.2), if_neg (fun q => c3 q.2.2)]
        refine zV.run kX3_corner 1 rfl ?_
        exact zV.iret kX3_corner rfl rfl (⟨rfl, h, fun _ _ => rfl⟩)
theorem p_cornerAt (E : zE) {w : zWd} {σ : zSt} (h : zSys w σ) (m i : Int32) : zOk E mX3_cornerAt 1 [.ref 0, .int m, .int i] w (zR0 w (.int (if okM m ∧ (0 ≤ i.toInt ∧ i.toInt ≤ σ.1 m.toInt.toNat) then nI (σ.2 m.toInt.toNat i.toInt.toNat) else -2))) := by
  obtain ⟨x0, ⟨F, x1, x1f⟩, x2, -, -, -⟩ := id h
  refine zOk.of (by decide +kernel) (Nat.le_of_ble_eq_true rfl) ?_
  refine zV.run kX3_cornerAt 1 rfl ?_
  refine zV.cs kX3_cornerAt rfl lX3_30 (o_isMap E w m) (by decide) rfl rfl (Nat.le_of_ble_eq_true rfl) ?_
  rintro _ _ ⟨rfl, rfl⟩
  refine zV.if2 kX3_cornerAt rfl (fun c => ?_) (fun c => ?_)
  · skip
    have c := zq_eq0.mp c
    refine zV.run kX3_cornerAt 1 rfl ?_
    exact zV.iret kX3_cornerAt rfl rfl (⟨by rw [if_neg (fun q => c q.1)], rfl⟩)
  · skip
    have c := Decidable.not_not.mp (mt zq_eq0.mpr c)
    obtain ⟨mm, emm⟩ : ∃ mm, mm = m.toInt.toNat := ⟨_, rfl⟩
    have em : m = nI mm := by rw [emm]; exact i32_nI c.1
    have hm : mm < 8 := by omega
    rw [← emm]
    obtain ⟨led, hf, hg, hl, h1, h5, hb⟩ := id (x2 mm hm)
    refine zV.run kX3_cornerAt 1 rfl ?_
    refine zV.gf kX3_cornerAt rfl fX3_11 (x0) rfl ?_
    refine zV.run kX3_cornerAt 1 rfl ?_
    refine zV.aalF kX3_cornerAt rfl (x1) mm (em) (hm) (by decide) (x1f mm hm) ?_
    refine zV.run kX3_cornerAt 1 rfl ?_
    refine zV.cv kX3_cornerAt rfl lX3_38 (o_hasCorner E (x2 mm hm) i) (by decide) rfl (hf) rfl rfl rfl (Nat.le_of_ble_eq_true rfl) ?_
    rintro _ _ ⟨rfl, rfl⟩
    refine zV.if2 kX3_cornerAt rfl (fun c2 => ?_) (fun c2 => ?_)
    · skip
      have c2 := Decidable.not_not.mp (mt zq_eq0.mpr c2)
      obtain ⟨ii, eii⟩ : ∃ ii, ii = i.toInt.toNat := ⟨_, rfl⟩
      have ei : i = nI ii := by rw [eii]; exact i32_nI c2.1
      have hii : ii ≤ σ.1 mm := by omega
      rw [if_pos ⟨c, c2⟩, ← eii]
      refine zV.run kX3_cornerAt 1 rfl ?_
      refine zV.gf kX3_cornerAt rfl fX3_11 (x0) rfl ?_
      refine zV.run kX3_cornerAt 1 rfl ?_
      refine zV.aalF kX3_cornerAt rfl (x1) mm (em) (hm) (by decide) (x1f mm hm) ?_
      refine zV.gf kX3_cornerAt rfl fX3_41 (hf) rfl ?_
      refine zV.run kX3_cornerAt 1 rfl ?_
      refine zV.ial kX3_cornerAt rfl (hg) (ii) (ei) (by omega) (by decide) ?_
      exact zV.iret kX3_cornerAt rfl rfl (⟨by rw [hl ii hii], rfl⟩)
    · skip
      have c2 := zq_eq0.mp (Decidable.not_not.mp c2)
      refine zV.run kX3_cornerAt 1 rfl ?_
      exact zV.iret kX3_cornerAt rfl rfl (⟨by rw [if_neg (fun q => c2 q.2)], rfl⟩)
theorem p_copy (E : zE) {w : zWd} {σ : zSt} (h : zSys w σ) (m t : Int32) : zOk E mX3_copy 1 [.ref 0, .int m, .int t] w (zPo w (.int (if okM m ∧ okM t then nI (σ.1 m.toInt.toNat) else -2)) (if okM m ∧ okM t then sset σ t.toInt.toNat (σ.1 m.toInt.toNat) (σ.2 m.toInt.toNat) else σ)) := by
  obtain ⟨x0, ⟨F, x1, x1f⟩, x2, -, -, -⟩ := id h
  refine zOk.of (by decide +kernel) (Nat.le_of_ble_eq_true rfl) ?_
  refine zV.run kX3_copy 1 rfl ?_
  refine zV.cs kX3_copy rfl lX3_30 (o_isMap E w m) (by decide) rfl rfl (Nat.le_of_ble_eq_true rfl) ?_
  rintro _ _ ⟨rfl, rfl⟩
  refine zV.if2 kX3_copy rfl (fun c => ?_) (fun c => ?_)
  · skip
    have c := zq_eq0.mp c
    rw [if_neg (fun q => c q.1), if_neg (fun q => c q.1)]
    refine zV.run kX3_copy 1 rfl ?_
    exact zV.iret kX3_copy rfl rfl (⟨rfl, h, fun _ _ => rfl⟩)
  · skip
    have c := Decidable.not_not.mp (mt zq_eq0.mpr c)
    refine zV.run kX3_copy 1 rfl ?_
    refine zV.cs kX3_copy rfl lX3_30 (o_isMap E w t) (by decide) rfl rfl (Nat.le_of_ble_eq_true rfl) ?_
    rintro _ _ ⟨rfl, rfl⟩
    refine zV.if2 kX3_copy rfl (fun c2 => ?_) (fun c2 => ?_)
    · skip
      have c2 := Decidable.not_not.mp (mt zq_eq0.mpr c2)
      obtain ⟨mm, emm⟩ : ∃ mm, mm = m.toInt.toNat := ⟨_, rfl⟩
      have em : m = nI mm := by rw [emm]; exact i32_nI c.1
      have hm : mm < 8 := by omega
      obtain ⟨mmt, emmt⟩ : ∃ mm, mm = t.toInt.toNat := ⟨_, rfl⟩
      have emt : t = nI mmt := by rw [emmt]; exact i32_nI c2.1
      have hmt : mmt < 8 := by omega
      rw [if_pos ⟨c, c2⟩, if_pos ⟨c, c2⟩, ← emm, ← emmt]
      obtain ⟨led, hf, hg, -⟩ := id (x2 mmt hmt)
      refine zV.run kX3_copy 1 rfl ?_
      refine zV.gf kX3_copy rfl fX3_11 (x0) rfl ?_
      refine zV.run kX3_copy 1 rfl ?_
      refine zV.aalF kX3_copy rfl (x1) mmt (emt) (hmt) (by decide) (x1f mmt hmt) ?_
      refine zV.run kX3_copy 1 rfl ?_
      refine zV.gf kX3_copy rfl fX3_11 (x0) rfl ?_
      refine zV.run kX3_copy 1 rfl ?_
      refine zV.aalF kX3_copy rfl (x1) mm (em) (hm) (by decide) (x1f mm hm) ?_
      refine zV.cv kX3_copy rfl lX3_45 (o_become E (x2 mmt hmt) (x2 mm hm) (by omega) (by omega) (by omega)) (by decide) rfl (hf) rfl rfl rfl (Nat.le_of_ble_eq_true rfl) ?_
      rintro _ w9 ⟨rfl, q1, q2⟩
      obtain ⟨led9, hf9, -⟩ := id q1
      refine zV.run kX3_copy 1 rfl ?_
      refine zV.gf kX3_copy rfl fX3_11 (x0.k (q2 0 (by omega) (by omega))) rfl ?_
      refine zV.run kX3_copy 1 rfl ?_
      refine zV.aalF kX3_copy rfl (x1.k (q2 1 (by omega) (by omega))) mmt (emt) (hmt) (by decide) (x1f mmt hmt) ?_
      refine zV.gf kX3_copy rfl fX3_49 (hf9) rfl ?_
      exact zV.iret kX3_copy rfl rfl (⟨rfl, h.fold hmt q1 q2, fun a ha => q2 a (by omega) (by omega)⟩)
    · skip
      have c2 := zq_eq0.mp (Decidable.not_not.mp c2)
      rw [if_neg (fun q => c2 q.2), if_neg (fun q => c2 q.2)]
      refine zV.run kX3_copy 1 rfl ?_
      exact zV.iret kX3_copy rfl rfl (⟨rfl, h, fun _ _ => rfl⟩)
theorem p_turn (E : zE) {w : zWd} {σ : zSt} (h : zSys w σ) (m t : Int32) : zOk E mX3_turn 1 [.ref 0, .int m, .int t] w (zPo w (.int (if okM m ∧ okM t then nI (σ.1 m.toInt.toNat) else -2)) (if okM m ∧ okM t then sset σ t.toInt.toNat (σ.1 m.toInt.toNat) (fun i => σ.1 m.toInt.toNat - σ.2 m.toInt.toNat (σ.1 m.toInt.toNat - i)) else σ)) := by
  obtain ⟨x0, ⟨F, x1, x1f⟩, x2, -, -, -⟩ := id h
  refine zOk.of (by decide +kernel) (Nat.le_of_ble_eq_true rfl) ?_
  refine zV.run kX3_turn 1 rfl ?_
  refine zV.cs kX3_turn rfl lX3_30 (o_isMap E w m) (by decide) rfl rfl (Nat.le_of_ble_eq_true rfl) ?_
  rintro _ _ ⟨rfl, rfl⟩
  refine zV.if2 kX3_turn rfl (fun c => ?_) (fun c => ?_)
  · skip
    have c := zq_eq0.mp c
    rw [if_neg (fun q => c q.1), if_neg (fun q => c q.1)]
    refine zV.run kX3_turn 1 rfl ?_
    exact zV.iret kX3_turn rfl rfl (⟨rfl, h, fun _ _ => rfl⟩)
  · skip
    have c := Decidable.not_not.mp (mt zq_eq0.mpr c)
    refine zV.run kX3_turn 1 rfl ?_
    refine zV.cs kX3_turn rfl lX3_30 (o_isMap E w t) (by decide) rfl rfl (Nat.le_of_ble_eq_true rfl) ?_
    rintro _ _ ⟨rfl, rfl⟩
    refine zV.if2 kX3_turn rfl (fun c2 => ?_) (fun c2 => ?_)
    · skip
      have c2 := Decidable.not_not.mp (mt zq_eq0.mpr c2)
      obtain ⟨mm, emm⟩ : ∃ mm, mm = m.toInt.toNat := ⟨_, rfl⟩
      have em : m = nI mm := by rw [emm]; exact i32_nI c.1
      have hm : mm < 8 := by omega
      obtain ⟨mmt, emmt⟩ : ∃ mm, mm = t.toInt.toNat := ⟨_, rfl⟩
      have emt : t = nI mmt := by rw [emmt]; exact i32_nI c2.1
      have hmt : mmt < 8 := by omega
      rw [if_pos ⟨c, c2⟩, if_pos ⟨c, c2⟩, ← emm, ← emmt]
      obtain ⟨led, hf, hg, -⟩ := id (x2 mmt hmt)
      refine zV.run kX3_turn 1 rfl ?_
      refine zV.gf kX3_turn rfl fX3_11 (x0) rfl ?_
      refine zV.run kX3_turn 1 rfl ?_
      refine zV.aalF kX3_turn rfl (x1) mmt (emt) (hmt) (by decide) (x1f mmt hmt) ?_
      refine zV.run kX3_turn 1 rfl ?_
      refine zV.gf kX3_turn rfl fX3_11 (x0) rfl ?_
      refine zV.run kX3_turn 1 rfl ?_
      refine zV.aalF kX3_turn rfl (x1) mm (em) (hm) (by decide) (x1f mm hm) ?_
      refine zV.cv kX3_turn rfl lX3_53 (o_becomeTurned E (x2 mmt hmt) (x2 mm hm) (by omega) (by omega)) (by decide) rfl (hf) rfl rfl rfl (Nat.le_of_ble_eq_true rfl) ?_
      rintro _ w9 ⟨rfl, q1, q2⟩
      obtain ⟨led9, hf9, -⟩ := id q1
      refine zV.run kX3_turn 1 rfl ?_
      refine zV.gf kX3_turn rfl fX3_11 (x0.k (q2 0 (by omega) (by omega))) rfl ?_
      refine zV.run kX3_turn 1 rfl ?_
      refine zV.aalF kX3_turn rfl (x1.k (q2 1 (by omega) (by omega))) mmt (emt) (hmt) (by decide) (x1f mmt hmt) ?_
      refine zV.gf kX3_turn rfl fX3_49 (hf9) rfl ?_
      exact zV.iret kX3_turn rfl rfl (⟨rfl, h.fold hmt q1 q2, fun a ha => q2 a (by omega) (by omega)⟩)
    · skip
      have c2 := zq_eq0.mp (Decidable.not_not.mp c2)
      rw [if_neg (fun q => c2 q.2), if_neg (fun q => c2 q.2)]
      refine zV.run kX3_turn 1 rfl ?_
      exact zV.iret kX3_turn rfl rfl (⟨rfl, h, fun _ _ => rfl⟩)
theorem p_slope (E : zE) {w : zWd} {σ : zSt} (h : zSys w σ) (m i : Int32) : zOk E mX3_slope 1 [.ref 0, .int m, .int i] w (zR0 w (.int (if okM m ∧ (0 ≤ i.toInt ∧ i.toInt < σ.1 m.toInt.toNat) then iI (sl (σ.2 m.toInt.toNat) i.toInt.toNat) else -100))) := by
  obtain ⟨x0, ⟨F, x1, x1f⟩, x2, -, -, -⟩ := id h
  refine zOk.of (by decide +kernel) (Nat.le_of_ble_eq_true rfl) ?_
  refine zV.run kX3_slope 1 rfl ?_
  refine zV.cs kX3_slope rfl lX3_30 (o_isMap E w m) (by decide) rfl rfl (Nat.le_of_ble_eq_true rfl) ?_
  rintro _ _ ⟨rfl, rfl⟩
  refine zV.if2 kX3_slope rfl (fun c => ?_) (fun c => ?_)
  · skip
    have c := zq_eq0.mp c
    refine zV.run kX3_slope 1 rfl ?_
    exact zV.iret kX3_slope rfl rfl (⟨by rw [if_neg (fun q => c q.1)], rfl⟩)
  · skip
    have c := Decidable.not_not.mp (mt zq_eq0.mpr c)
    obtain ⟨mm, emm⟩ : ∃ mm, mm = m.toInt.toNat := ⟨_, rfl⟩
    have em : m = nI mm := by rw [emm]; exact i32_nI c.1
    have hm : mm < 8 := by omega
    rw [← emm]
    obtain ⟨led, hf, hg, hl, h1, h5, hb⟩ := id (x2 mm hm)
    refine zV.run kX3_slope 1 rfl ?_
    refine zV.gf kX3_slope rfl fX3_11 (x0) rfl ?_
    refine zV.run kX3_slope 1 rfl ?_
    refine zV.aalF kX3_slope rfl (x1) mm (em) (hm) (by decide) (x1f mm hm) ?_
    refine zV.run kX3_slope 1 rfl ?_
    refine zV.cv kX3_slope rfl lX3_56 (o_hasSpan E (x2 mm hm) i) (by decide) rfl (hf) rfl rfl rfl (Nat.le_of_ble_eq_true rfl) ?_
    rintro _ _ ⟨rfl, rfl⟩
    refine zV.if2 kX3_slope rfl (fun c2 => ?_) (fun c2 => ?_)
    · skip
      have c2 := Decidable.not_not.mp (mt zq_eq0.mpr c2)
      rw [if_pos ⟨c, c2⟩]
      refine zV.run kX3_slope 1 rfl ?_
      refine zV.gf kX3_slope rfl fX3_11 (x0) rfl ?_
      refine zV.run kX3_slope 1 rfl ?_
      refine zV.aalF kX3_slope rfl (x1) mm (em) (hm) (by decide) (x1f mm hm) ?_
      refine zV.run kX3_slope 1 rfl ?_
      rw [i32_nI (x := i) c2.1]
      refine zV.cv kX3_slope rfl lX3_59 (o_slopeOf E (x2 mm hm) (i := i.toInt.toNat) (by omega)) (by decide) rfl (hf) rfl rfl rfl (Nat.le_of_ble_eq_true rfl) ?_
      rintro _ _ ⟨rfl, rfl⟩
      rw [← i32_nI (x := i) c2.1]
      exact zV.iret kX3_slope rfl rfl (⟨rfl, rfl⟩)
    · skip
      have c2 := zq_eq0.mp (Decidable.not_not.mp c2)
      refine zV.run kX3_slope 1 rfl ?_
      exact zV.iret kX3_slope rfl rfl (⟨by rw [if_neg (fun q => c2 q.2)], rfl⟩)
