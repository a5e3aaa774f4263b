/-! ===== the law: its cases ===== -/
theorem nI_p (k j : Nat) : nI k + nI j = nI (k + j) := (Int32.ofNat_add k j).symm
theorem zMs_k {w w' : zWd} {σ : zSt} (h : zMs w σ) (hf : zFc w w') : zMs w' σ := by
  obtain ⟨⟨ab, be, rm, en, ej, h49⟩, hc, hx⟩ := h
  exact ⟨⟨ab, be, rm, en, ej, h49.k (hf 49 (by decide))⟩, hc.k (hf 50 (by decide)) (hf 51 (by decide)), hx.k (fun a h1 _ => hf a (by omega))⟩
theorem zSys_k {w w' : zWd} {σ : zSt} (h : zSys w σ) (hf : zFm w w') : zSys w' σ := by
  obtain ⟨h0, ⟨F, hF, hFj⟩, hfo, ⟨s1, rw1, hp1⟩, ⟨s2, tq, fa, fb, cp, ep, es, nw, hr⟩, ⟨s3, rw3, hp3⟩⟩ := h
  exact ⟨h0.k (hf 0 (by decide)), ⟨F, hF.k (hf 1 (by decide)), hFj⟩, fun m hm => (hfo m hm).k (hf _ (by omega)) (hf _ (by omega)), ⟨s1, rw1, hp1.k (fun a h1 h2 => hf a (by omega))⟩, ⟨s2, tq, fa, fb, cp, ep, es, nw, hr.k (fun a h1 h2 => hf a (by omega))⟩, ⟨s3, rw3, hp3.k (fun a h1 h2 => hf a (by omega))⟩⟩
theorem okM_lt {m : Int32} (h : okM m) : m.toInt.toNat < 8 := by have := h.1; have := h.2; omega
theorem br_mixes {σ : zSt} (v : vld σ) (m : Int32) : (if okM m then iI (mxf (σ.1 m.toInt.toNat) (σ.2 m.toInt.toNat) 30 1) else -2) = (if okM m then iI (stm (σ.1 m.toInt.toNat) (σ.2 m.toInt.toNat) (σ.1 m.toInt.toNat) 0 0) else -2) := by
  by_cases h : okM m
  · obtain ⟨v1, v2, v3⟩ := v _ (okM_lt h)
    rw [if_pos h, if_pos h, mix_eq v1 v2 v3]
  · rw [if_neg h, if_neg h]
theorem br_rounds {σ : zSt} (v : vld σ) (m k : Int32) : (if okM m ∧ okR k then (if (fnd (σ.1 m.toInt.toNat) (σ.2 m.toInt.toNat) k.toInt.toNat (σ.1 m.toInt.toNat)).2.1 = true then -1 else nI (fnd (σ.1 m.toInt.toNat) (σ.2 m.toInt.toNat) k.toInt.toNat (σ.1 m.toInt.toNat)).1.length) else -2) = (if okM m ∧ okR k then (if edf (σ.2 m.toInt.toNat) k.toInt.toNat (2 * σ.1 m.toInt.toNat) 0 = true then -1 else iI (cal (σ.1 m.toInt.toNat) (σ.2 m.toInt.toNat) k.toInt.toNat (k.toInt.toNat + 1))) else -2) := by
  by_cases h : okM m ∧ okR k
  · obtain ⟨v1, v2, v3⟩ := v _ (okM_lt h.1)
    have k1 : 1 ≤ k.toInt.toNat := by have := h.2.1; omega
    have k6 : k.toInt.toNat ≤ 6 := by have := h.2.2; omega
    rw [if_pos h, if_pos h, fnd_1 v3 k1 k6]
    cases hE : edf (σ.2 m.toInt.toNat) k.toInt.toNat (2 * σ.1 m.toInt.toNat) 0 with
    | true => rfl
    | false =>
      rw [if_neg (by decide), if_neg (by decide), count_eq v1 v3 k1 k6 hE, nI_iI]
  · rw [if_neg h, if_neg h]
theorem br_period {σ : zSt} (v : vld σ) (m k : Int32) : (if okM m ∧ okR k then (if (fnd (σ.1 m.toInt.toNat) (σ.2 m.toInt.toNat) k.toInt.toNat (σ.1 m.toInt.toNat)).2.1 = true then -1 else nI (jst (σ.1 m.toInt.toNat) (σ.2 m.toInt.toNat) k.toInt.toNat (fnd (σ.1 m.toInt.toNat) (σ.2 m.toInt.toNat) k.toInt.toNat (σ.1 m.toInt.toNat)).1)) else -2) = (if okM m ∧ okR k then (if edf (σ.2 m.toInt.toNat) k.toInt.toNat (2 * σ.1 m.toInt.toNat) 0 = true then -1 else iI (cnw (σ.1 m.toInt.toNat) (σ.2 m.toInt.toNat) k.toInt.toNat)) else -2) := by
  by_cases h : okM m ∧ okR k
  · obtain ⟨v1, v2, v3⟩ := v _ (okM_lt h.1)
    have k1 : 1 ≤ k.toInt.toNat := by have := h.2.1; omega
    have k6 : k.toInt.toNat ≤ 6 := by have := h.2.2; omega
    rw [if_pos h, if_pos h, fnd_1 v3 k1 k6]
    cases hE : edf (σ.2 m.toInt.toNat) k.toInt.toNat (2 * σ.1 m.toInt.toNat) 0 with
    | true => rfl
    | false =>
      rw [if_neg (by decide), if_neg (by decide), new_eq v1 v3 k1 k6 (end_hsf k1 hE), nI_iI]
  · rw [if_neg h, if_neg h]
theorem br_has {σ : zSt} (v : vld σ) (m k : Int32) : (if okM m ∧ okR k then zq (hsp (σ.1 m.toInt.toNat) (σ.2 m.toInt.toNat) k.toInt.toNat = true) else -2) = (if okM m ∧ okR k then zq (hnw (σ.1 m.toInt.toNat) (σ.2 m.toInt.toNat) k.toInt.toNat = true) else -2) := by
  by_cases h : okM m ∧ okR k
  · obtain ⟨v1, v2, v3⟩ := v _ (okM_lt h.1)
    have k1 : 1 ≤ k.toInt.toNat := by have := h.2.1; omega
    have k6 : k.toInt.toNat ≤ 6 := by have := h.2.2; omega
    rw [if_pos h, if_pos h, has_eq v1 v3 k1 k6]
  · rw [if_neg h, if_neg h]
theorem br_most {σ : zSt} (v : vld σ) (m : Int32) : (if okM m then nI (mom (σ.1 m.toInt.toNat) (σ.2 m.toInt.toNat) 5 2 1) else -2) = (if okM m then nI (mof (σ.1 m.toInt.toNat) (σ.2 m.toInt.toNat) 5 2 1) else -2) := by
  by_cases h : okM m
  · obtain ⟨v1, v2, v3⟩ := v _ (okM_lt h)
    rw [if_pos h, if_pos h, most_eq v1 v3 5 2 1 (by omega) (by omega)]
  · rw [if_neg h, if_neg h]
theorem br_round {σ : zSt} (v : vld σ) (m k i what : Int32) : (if okM m ∧ okR k ∧ 0 ≤ i.toInt ∧ (what = 0 ∨ what = 1) then rnm (fnd (σ.1 m.toInt.toNat) (σ.2 m.toInt.toNat) k.toInt.toNat (σ.1 m.toInt.toNat)) i.toInt.toNat what else -2) = (if okM m ∧ okR k ∧ 0 ≤ i.toInt ∧ (what = 0 ∨ what = 1) then (if edf (σ.2 m.toInt.toNat) k.toInt.toNat (2 * σ.1 m.toInt.toNat) 0 = true then -1 else rnd (fdf (σ.1 m.toInt.toNat) (σ.2 m.toInt.toNat) k.toInt.toNat (σ.1 m.toInt.toNat + 1) 0 i.toInt) what) else -2) := by
  by_cases h : okM m ∧ okR k ∧ 0 ≤ i.toInt ∧ (what = 0 ∨ what = 1)
  · obtain ⟨v1, v2, v3⟩ := v _ (okM_lt h.1)
    have k1 : 1 ≤ k.toInt.toNat := by have := h.2.1.1; omega
    have k6 : k.toInt.toNat ≤ 6 := by have := h.2.1.2; omega
    rw [if_pos h, if_pos h]
    cases hE : edf (σ.2 m.toInt.toNat) k.toInt.toNat (2 * σ.1 m.toInt.toNat) 0 with
    | true =>
      rw [if_pos rfl]
      unfold rnm
      rw [fnd_1 v3 k1 k6, hE, if_pos rfl]
    | false =>
      have e := (round_eq v1 v2 v3 k1 k6 hE i.toInt.toNat what).2
      rw [Int.toNat_of_nonneg h.2.2.1] at e
      rw [if_neg (by decide), e]
  · rw [if_neg h, if_neg h]
theorem p_rnd (E : zE) {w : zWd} {σ : zSt} (h : zSys w σ) (m k i what : Int32) (hok0 : okM m → okR k → ∀ ix : Nat, edf (σ.2 m.toInt.toNat) k.toInt.toNat (2 * σ.1 m.toInt.toNat) 0 = false → okF (fdf (σ.1 m.toInt.toNat) (σ.2 m.toInt.toNat) k.toInt.toNat (σ.1 m.toInt.toNat + 1) 0 ix)) : zOk E mX3_round 5 [.ref 0, .int m, .int k, .int i, .int what] w (zPo w (.long (if okM m ∧ okR k ∧ 0 ≤ i.toInt ∧ (what = 0 ∨ what = 1) then (if edf (σ.2 m.toInt.toNat) k.toInt.toNat (2 * σ.1 m.toInt.toNat) 0 = true then -1 else rnd (fdf (σ.1 m.toInt.toNat) (σ.2 m.toInt.toNat) k.toInt.toNat (σ.1 m.toInt.toNat + 1) 0 i.toInt) what) else -2)) σ) := by
  obtain ⟨x0, ⟨F, x1, x1f⟩, x2, -, ⟨s4, tq, fa, fb, cp, ep, es, nw, x4⟩, ⟨s5, rw5, x5⟩⟩ := id h
  refine zOk.of (by decide +kernel) (Nat.le_of_ble_eq_true rfl) ?_
  refine zV.run kX3_round 1 rfl ?_
  refine zV.cs kX3_round rfl lX3_30 (o_isMap E w m) (by decide) rfl rfl (Nat.le_of_ble_eq_true rfl) ?_
  rintro _ _ ⟨rfl, rfl⟩
  refine zV.if2 kX3_round rfl (fun c => ?_) (fun c => ?_)
  · skip
    have c := zq_eq0.mp c
    rw [if_neg (fun q => c q.1)]
    refine zV.ldc2 kX3_round rfl qX3_73 ?_
    exact zV.lret kX3_round rfl rfl (⟨rfl, h, fun _ _ => rfl⟩)
  · skip
    have c := Decidable.not_not.mp (mt zq_eq0.mpr c)
    obtain ⟨mm, emm⟩ : ∃ mm, mm = m.toInt.toNat := ⟨_, rfl⟩
    have em : m = nI mm := by rw [emm]; exact i32_nI c.1
    have hm : mm < 8 := by omega
    rw [← emm] at hok0 ⊢
    obtain ⟨led, hf, hg, hl, h1, h5, hb⟩ := id (x2 mm hm)
    refine zV.run kX3_round 1 rfl ?_
    refine zV.cs kX3_round rfl lX3_122 (o_isRoundLength E w k) (by decide) rfl rfl (Nat.le_of_ble_eq_true rfl) ?_
    rintro _ _ ⟨rfl, rfl⟩
    refine zV.if2 kX3_round rfl (fun c4 => ?_) (fun c4 => ?_)
    · skip
      have c4 := zq_eq0.mp c4
      rw [if_neg (fun q => c4 q.2.1)]
      refine zV.ldc2 kX3_round rfl qX3_73 ?_
      exact zV.lret kX3_round rfl rfl (⟨rfl, h, fun _ _ => rfl⟩)
    · skip
      have c4 := Decidable.not_not.mp (mt zq_eq0.mpr c4)
      refine zV.run kX3_round 1 rfl ?_
      refine zV.if2 kX3_round rfl (fun c2 => ?_) (fun c2 => ?_)
      · skip
        have c2 : i.toInt < 0 := i32_lt.mp c2
        rw [if_neg (fun q => absurd q.2.2.1 (by omega))]
        refine zV.ldc2 kX3_round rfl qX3_73 ?_
        exact zV.lret kX3_round rfl rfl (⟨rfl, h, fun _ _ => rfl⟩)
      · skip
        have c2 : 0 ≤ i.toInt := i32_le.mp (Int32.not_lt.mp c2)
        refine zV.run kX3_round 1 rfl ?_
        refine zV.cs kX3_round rfl lX3_70 (o_isTerm E w what) (by decide) rfl rfl (Nat.le_of_ble_eq_true rfl) ?_
        rintro _ _ ⟨rfl, rfl⟩
        refine zV.if2 kX3_round rfl (fun c3 => ?_) (fun c3 => ?_)
        · skip
          have c3 := Decidable.not_not.mp (mt zq_eq0.mpr c3)
          rw [if_pos ⟨c, c4, c2, c3⟩]
          obtain ⟨kk, ekk⟩ : ∃ ii, ii = k.toInt.toNat := ⟨_, rfl⟩
          have ek : k = nI kk := by rw [ekk]; exact i32_nI (by omega)
          obtain ⟨ix, eix⟩ : ∃ ii, ii = i.toInt.toNat := ⟨_, rfl⟩
          have ei : i = nI ix := by rw [eix]; exact i32_nI c2
          have ei2 : i.toInt = (ix : Int) := by omega
          have hix : ix < 2 ^ 31 := by have := (iI_rg i).2; omega
          have hok := hok0 c c4
          rw [← ekk] at hok ⊢
          rw [ei2, ek, ei]
          refine zV.run kX3_round 1 rfl ?_
          refine zV.gf kX3_round rfl fX3_26 (x0) rfl ?_
          refine zV.run kX3_round 1 rfl ?_
          refine zV.gf kX3_round rfl fX3_11 (x0) rfl ?_
          refine zV.run kX3_round 1 rfl ?_
          refine zV.aalF kX3_round rfl (x1) mm (em) (hm) (by decide) (x1f mm hm) ?_
          refine zV.cv kX3_round rfl lX3_125 (o_study E (x2 mm hm) (by omega) (by omega) x4 x5) (by decide) rfl (x4.1) rfl rfl rfl (Nat.le_of_ble_eq_true rfl) ?_
          rintro _ w9 ⟨rfl, hS, hw9⟩
          have hs31 := hS.choose_spec.choose_spec.choose_spec.choose_spec.choose_spec.choose_spec.choose_spec.choose_spec.1.1
          have hsys := h.ret hS hw9
          have hF9 := hsys.2.2.1 mm hm
          refine zV.run kX3_round 1 rfl ?_
          refine zV.gf kX3_round rfl fX3_26 (x0.k (hw9 0 (by omega))) rfl ?_
          refine zV.run kX3_round 1 rfl ?_
          refine zV.cv kX3_round rfl lX3_128 (o_isEndless E hS h5 (k := kk) (by omega)) (by decide) rfl (hs31) rfl rfl rfl (Nat.le_of_ble_eq_true rfl) ?_
          rintro _ _ ⟨rfl, rfl⟩
          refine zV.if2 kX3_round rfl (fun c5 => ?_) (fun c5 => ?_)
          · skip
            have c5 := Decidable.not_not.mp (mt zq_eq0.mpr c5)
            rw [if_pos c5]
            refine zV.ldc2 kX3_round rfl qX3_138 ?_
            exact zV.lret kX3_round rfl rfl (⟨rfl, hsys, fun a ha => hw9 a (by omega)⟩)
          · skip
            have c5 := zq_eq0.mp (Decidable.not_not.mp c5)
            rw [if_neg c5]
            have hokx := hok ix (by simpa using c5)
            refine zV.run kX3_round 1 rfl ?_
            refine zV.gf kX3_round rfl fX3_26 (x0.k (hw9 0 (by omega))) rfl ?_
            refine zV.run kX3_round 1 rfl ?_
            refine zV.gf kX3_round rfl fX3_11 (x0.k (hw9 0 (by omega))) rfl ?_
            refine zV.run kX3_round 1 rfl ?_
            refine zV.aalF kX3_round rfl (x1.k (hw9 1 (by omega))) mm (em) (hm) (by decide) (x1f mm hm) ?_
            refine zV.run kX3_round 2 rfl ?_
            refine zV.cv kX3_round rfl lX3_134 (o_find E hS hF9 (by omega) (by omega) (k := kk) (by omega) hix) (by decide) rfl (hs31) rfl rfl rfl (Nat.le_of_ble_eq_true rfl) ?_
            rintro _ w8 ⟨rfl, hfd⟩
            have hsys8 := h.ret (hS.fd hfd) (fun a ha => by rw [hfd.1 a (by omega)]; exact hw9 a ha)
            obtain ⟨k8, tq8, fa8, fb8, y1, y2⟩ := id hfd
            refine zV.if2 kX3_round rfl (fun c6 => ?_) (fun c6 => ?_)
            · skip
              have c6 := Decidable.not_not.mp (mt zq_eq0.mpr c6)
              obtain ⟨p, hp⟩ := Option.isSome_iff_exists.mp c6
              obtain ⟨z1, z2⟩ := y2 p hp
              obtain ⟨q1, q2, q3, q4⟩ := hokx p hp
              have er : rnd (fdf (σ.1 mm) (σ.2 mm) kk (σ.1 mm + 1) 0 (ix : Int)) what = lN (low p.1.toNat p.2.toNat what) := by rw [hp]; rfl
              rw [er]
              have g0 := hsys8.1
              refine zV.run kX3_round 1 rfl ?_
              refine zV.gf kX3_round rfl fX3_26 (g0) rfl ?_
              refine zV.gf kX3_round rfl fX3_140 (y1) rfl ?_
              refine zV.run kX3_round 1 rfl ?_
              refine zV.gf kX3_round rfl fX3_26 (g0) rfl ?_
              refine zV.gf kX3_round rfl fX3_144 (y1) rfl ?_
              rw [z1, z2, lI_nat q1, lI_nat (z := p.2) (by omega)]
              refine zV.run kX3_round 1 rfl ?_
              refine zV.cs kX3_round rfl lX3_79 (o_lowestTerm E w8 (by omega) (by omega) (by omega) what) (by decide) rfl rfl (Nat.le_of_ble_eq_true rfl) ?_
              rintro _ _ ⟨rfl, rfl⟩
              exact zV.lret kX3_round rfl rfl (⟨rfl, hsys8, fun a ha => by rw [hfd.1 a (by omega)]; exact hw9 a (by omega)⟩)
            · skip
              have c6 := zq_eq0.mp (Decidable.not_not.mp c6)
              have hnone : fdf (σ.1 mm) (σ.2 mm) kk (σ.1 mm + 1) 0 (ix : Int) = none := by
                cases hq : fdf (σ.1 mm) (σ.2 mm) kk (σ.1 mm + 1) 0 (ix : Int) with
                | none => rfl
                | some p => rw [hq] at c6; exact absurd rfl c6
              rw [hnone]
              refine zV.ldc2 kX3_round rfl qX3_138 ?_
              exact zV.lret kX3_round rfl rfl (⟨rfl, hsys8, fun a ha => by rw [hfd.1 a (by omega)]; exact hw9 a (by omega)⟩)
        · skip
          have c3 := zq_eq0.mp (Decidable.not_not.mp c3)
          rw [if_neg (fun q => c3 q.2.2.2)]
          refine zV.ldc2 kX3_round rfl qX3_73 ?_
          exact zV.lret kX3_round rfl rfl (⟨rfl, h, fun _ _ => rfl⟩)
theorem rnd_ok {σ : zSt} (v : vld σ) (m k : Int32) (h1 : okM m) (h2 : okR k) (ix : Nat) (hE : edf (σ.2 m.toInt.toNat) k.toInt.toNat (2 * σ.1 m.toInt.toNat) 0 = false) : okF (fdf (σ.1 m.toInt.toNat) (σ.2 m.toInt.toNat) k.toInt.toNat (σ.1 m.toInt.toNat + 1) 0 ix) := by
  obtain ⟨v1, v2, v3⟩ := v _ (okM_lt h1)
  exact (round_eq v1 v2 v3 (by have := h2.1; omega) (by have := h2.2; omega) hE ix 0).1
section ZLC
variable {E : zE} {p : Program} {e : Env} {s : State} {m : MethodId} {below : List Frame} {meth : Method} {c : Code} {b L : Nat} {xs : Nat → Int32}
theorem zY.ice (C : zYc E p s m meth c b L xs) {T : zTb} {pc nx : Nat} {Lc st : List Value} {w : zWd} (hT : zTab mL T) {off : Int} {tgt : Nat} (hl : T.lookup pc = some (.if_icmp .eq off, nx, .retAddr tgt)) {y : Int32} (k : zY E p e s m below meth c b tgt Lc st w) : zY E p e s m below meth c b pc Lc (.int y :: .int y :: st) w := zY.ic C hT hl (fun _ => k) (fun z => absurd (show y = y from rfl) z)
theorem lc_0 (C : zYc E p s m meth c b L xs) (hL31 : L < 2 ^ 31) {k : Nat} (hk : k + 10 < L) {w : zWd} {σ : zSt} (hs : zSys w σ) (hm : zMs w σ) (K : ∀ w2 σ2, zSys w2 σ2 → zMs w2 σ2 → zY E p e s m below meth c b 1429 [.ref 61, .ref 0, .ref 49, .int (nI k)] [] w2) : zY E p e s m below meth c b 148 [.ref 61, .ref 0, .ref 49, .int (nI k)] [] w := by
  refine zY.run C kL0 5 rfl ?_
  refine zY.ld C kL0 rfl hL31 (k + 1) (nI_p k 1) (by omega) ?_
  refine zY.run C kL0 4 rfl ?_
  refine zY.ld C kL0 rfl hL31 (k + 2) (nI_p k 2) (by omega) ?_
  refine zY.cv C kL0 rfl lL_13 (p_map E hs (xs (k + 1)) (xs (k + 2))) (by decide) rfl hs.1 rfl rfl rfl (by decide) (fun r w1 q1 => ?_)
  obtain ⟨rfl, hs1, hf1⟩ := q1
  have hm1 := zMs_k hm hf1
  obtain ⟨ab, be, rm, en, ej, h49⟩ := hm1.1
  refine zY.run C kL0 5 rfl ?_
  refine zY.ld C kL0 rfl hL31 (k + 1) (nI_p k 1) (by omega) ?_
  refine zY.run C kL0 4 rfl ?_
  refine zY.ld C kL0 rfl hL31 (k + 2) (nI_p k 2) (by omega) ?_
  refine zY.cv C kL0 rfl lL_17 (n_map E hm1 (xs (k + 1)) (xs (k + 2))) (by decide) rfl h49 rfl rfl rfl (Nat.le_of_ble_eq_true rfl) (fun r w2 q2 => ?_)
  obtain ⟨rfl, hm2, hf2⟩ := q2
  have hs2 := zSys_k hs1 hf2
  exact zY.ice C kL0 rfl (K _ _ hs2 hm2)
theorem lc_1 (C : zYc E p s m meth c b L xs) (hL31 : L < 2 ^ 31) {k : Nat} (hk : k + 10 < L) {w : zWd} {σ : zSt} (hs : zSys w σ) (hm : zMs w σ) (K : ∀ w2 σ2, zSys w2 σ2 → zMs w2 σ2 → zY E p e s m below meth c b 1429 [.ref 61, .ref 0, .ref 49, .int (nI k)] [] w2) : zY E p e s m below meth c b 181 [.ref 61, .ref 0, .ref 49, .int (nI k)] [] w := by
  refine zY.run C kL1 5 rfl ?_
  refine zY.ld C kL1 rfl hL31 (k + 1) (nI_p k 1) (by omega) ?_
  refine zY.run C kL1 4 rfl ?_
  refine zY.ld C kL1 rfl hL31 (k + 2) (nI_p k 2) (by omega) ?_
  refine zY.run C kL1 4 rfl ?_
  refine zY.ld C kL1 rfl hL31 (k + 3) (nI_p k 3) (by omega) ?_
  refine zY.cv C kL1 rfl lL_18 (p_corner E hs (xs (k + 1)) (xs (k + 2)) (xs (k + 3))) (by decide) rfl hs.1 rfl rfl rfl (by decide) (fun r w1 q1 => ?_)
  obtain ⟨rfl, hs1, hf1⟩ := q1
  have hm1 := zMs_k hm hf1
  obtain ⟨ab, be, rm, en, ej, h49⟩ := hm1.1
  refine zY.run C kL1 5 rfl ?_
  refine zY.ld C kL1 rfl hL31 (k + 1) (nI_p k 1) (by omega) ?_
  refine zY.run C kL1 4 rfl ?_
  refine zY.ld C kL1 rfl hL31 (k + 2) (nI_p k 2) (by omega) ?_
  refine zY.run C kL1 4 rfl ?_
  refine zY.ld C kL1 rfl hL31 (k + 3) (nI_p k 3) (by omega) ?_
  refine zY.cv C kL1 rfl lL_22 (n_corner E hm1 (xs (k + 1)) (xs (k + 2)) (xs (k + 3))) (by decide) rfl h49 rfl rfl rfl (Nat.le_of_ble_eq_true rfl) (fun r w2 q2 => ?_)
  obtain ⟨rfl, hm2, hf2⟩ := q2
  have hs2 := zSys_k hs1 hf2
  exact zY.ice C kL1 rfl (K _ _ hs2 hm2)
theorem lc_2 (C : zYc E p s m meth c b L xs) (hL31 : L < 2 ^ 31) {k : Nat} (hk : k + 10 < L) {w : zWd} {σ : zSt} (hs : zSys w σ) (hm : zMs w σ) (K : ∀ w2 σ2, zSys w2 σ2 → zMs w2 σ2 → zY E p e s m below meth c b 1429 [.ref 61, .ref 0, .ref 49, .int (nI k)] [] w2) : zY E p e s m below meth c b 224 [.ref 61, .ref 0, .ref 49, .int (nI k)] [] w := by
  refine zY.run C kL2 5 rfl ?_
  refine zY.ld C kL2 rfl hL31 (k + 1) (nI_p k 1) (by omega) ?_
  refine zY.run C kL2 4 rfl ?_
  refine zY.ld C kL2 rfl hL31 (k + 2) (nI_p k 2) (by omega) ?_
  refine zY.cv C kL2 rfl lL_23 (p_cornerAt E hs (xs (k + 1)) (xs (k + 2))) (by decide) rfl hs.1 rfl rfl rfl (by decide) (fun r w1 q1 => ?_)
  obtain ⟨rfl, rfl⟩ := q1
  have hs1 := hs
  have hm1 := hm
  obtain ⟨ab, be, rm, en, ej, h49⟩ := hm1.1
  refine zY.run C kL2 5 rfl ?_
  refine zY.ld C kL2 rfl hL31 (k + 1) (nI_p k 1) (by omega) ?_
  refine zY.run C kL2 4 rfl ?_
  refine zY.ld C kL2 rfl hL31 (k + 2) (nI_p k 2) (by omega) ?_
  refine zY.cv C kL2 rfl lL_26 (n_cornerAt E hm1 (xs (k + 1)) (xs (k + 2))) (by decide) rfl h49 rfl rfl rfl (Nat.le_of_ble_eq_true rfl) (fun r w2 q2 => ?_)
  obtain ⟨rfl, rfl⟩ := q2
  have hs2 := hs1
  have hm2 := hm1
  exact zY.ice C kL2 rfl (K _ _ hs2 hm2)
theorem lc_3 (C : zYc E p s m meth c b L xs) (hL31 : L < 2 ^ 31) {k : Nat} (hk : k + 10 < L) {w : zWd} {σ : zSt} (hs : zSys w σ) (hm : zMs w σ) (K : ∀ w2 σ2, zSys w2 σ2 → zMs w2 σ2 → zY E p e s m below meth c b 1429 [.ref 61, .ref 0, .ref 49, .int (nI k)] [] w2) : zY E p e s m below meth c b 257 [.ref 61, .ref 0, .ref 49, .int (nI k)] [] w := by
  refine zY.run C kL3 5 rfl ?_
  refine zY.ld C kL3 rfl hL31 (k + 1) (nI_p k 1) (by omega) ?_
  refine zY.run C kL3 4 rfl ?_
  refine zY.ld C kL3 rfl hL31 (k + 2) (nI_p k 2) (by omega) ?_
  refine zY.cv C kL3 rfl lL_27 (p_copy E hs (xs (k + 1)) (xs (k + 2))) (by decide) rfl hs.1 rfl rfl rfl (by decide) (fun r w1 q1 => ?_)
  obtain ⟨rfl, hs1, hf1⟩ := q1
  have hm1 := zMs_k hm hf1
  obtain ⟨ab, be, rm, en, ej, h49⟩ := hm1.1
  refine zY.run C kL3 5 rfl ?_
  refine zY.ld C kL3 rfl hL31 (k + 1) (nI_p k 1) (by omega) ?_
  refine zY.run C kL3 4 rfl ?_
  refine zY.ld C kL3 rfl hL31 (k + 2) (nI_p k 2) (by omega) ?_
  refine zY.cv C kL3 rfl lL_30 (n_copy E hm1 (xs (k + 1)) (xs (k + 2))) (by decide) rfl h49 rfl rfl rfl (Nat.le_of_ble_eq_true rfl) (fun r w2 q2 => ?_)
  obtain ⟨rfl, hm2, hf2⟩ := q2
  have hs2 := zSys_k hs1 hf2
  exact zY.ice C kL3 rfl (K _ _ hs2 hm2)
theorem lc_4 (C : zYc E p s m meth c b L xs) (hL31 : L < 2 ^ 31) {k : Nat} (hk : k + 10 < L) {w : zWd} {σ : zSt} (hs : zSys w σ) (hm : zMs w σ) (K : ∀ w2 σ2, zSys w2 σ2 → zMs w2 σ2 → zY E p e s m below meth c b 1429 [.ref 61, .ref 0, .ref 49, .int (nI k)] [] w2) : zY E p e s m below meth c b 290 [.ref 61, .ref 0, .ref 49, .int (nI k)] [] w := by
  refine zY.run C kL4 5 rfl ?_
  refine zY.ld C kL4 rfl hL31 (k + 1) (nI_p k 1) (by omega) ?_
  refine zY.run C kL4 4 rfl ?_
  refine zY.ld C kL4 rfl hL31 (k + 2) (nI_p k 2) (by omega) ?_
  refine zY.cv C kL4 rfl lL_31 (p_turn E hs (xs (k + 1)) (xs (k + 2))) (by decide) rfl hs.1 rfl rfl rfl (by decide) (fun r w1 q1 => ?_)
  obtain ⟨rfl, hs1, hf1⟩ := q1
  have hm1 := zMs_k hm hf1
  obtain ⟨ab, be, rm, en, ej, h49⟩ := hm1.1
  refine zY.run C kL4 5 rfl ?_
  refine zY.ld C kL4 rfl hL31 (k + 1) (nI_p k 1) (by omega) ?_
  refine zY.run C kL4 4 rfl ?_
  refine zY.ld C kL4 rfl hL31 (k + 2) (nI_p k 2) (by omega) ?_
  refine zY.cv C kL4 rfl lL_34 (n_turn E hm1 (xs (k + 1)) (xs (k + 2))) (by decide) rfl h49 rfl rfl rfl (Nat.le_of_ble_eq_true rfl) (fun r w2 q2 => ?_)
  obtain ⟨rfl, hm2, hf2⟩ := q2
  have hs2 := zSys_k hs1 hf2
  exact zY.ice C kL4 rfl (K _ _ hs2 hm2)
theorem lc_5 (C : zYc E p s m meth c b L xs) (hL31 : L < 2 ^ 31) {k : Nat} (hk : k + 10 < L) {w : zWd} {σ : zSt} (hs : zSys w σ) (hm : zMs w σ) (K : ∀ w2 σ2, zSys w2 σ2 → zMs w2 σ2 → zY E p e s m below meth c b 1429 [.ref 61, .ref 0, .ref 49, .int (nI k)] [] w2) : zY E p e s m below meth c b 323 [.ref 61, .ref 0, .ref 49, .int (nI k)] [] w := by
  refine zY.run C kL5 5 rfl ?_
  refine zY.ld C kL5 rfl hL31 (k + 1) (nI_p k 1) (by omega) ?_
  refine zY.run C kL5 4 rfl ?_
  refine zY.ld C kL5 rfl hL31 (k + 2) (nI_p k 2) (by omega) ?_
  refine zY.cv C kL5 rfl lL_35 (p_slope E hs (xs (k + 1)) (xs (k + 2))) (by decide) rfl hs.1 rfl rfl rfl (by decide) (fun r w1 q1 => ?_)
  obtain ⟨rfl, rfl⟩ := q1
  have hs1 := hs
  have hm1 := hm
  obtain ⟨ab, be, rm, en, ej, h49⟩ := hm1.1
  refine zY.run C kL5 5 rfl ?_
  refine zY.ld C kL5 rfl hL31 (k + 1) (nI_p k 1) (by omega) ?_
  refine zY.run C kL5 4 rfl ?_
  refine zY.ld C kL5 rfl hL31 (k + 2) (nI_p k 2) (by omega) ?_
  refine zY.cv C kL5 rfl lL_38 (n_slope E hm1 (xs (k + 1)) (xs (k + 2))) (by decide) rfl h49 rfl rfl rfl (Nat.le_of_ble_eq_true rfl) (fun r w2 q2 => ?_)
  obtain ⟨rfl, rfl⟩ := q2
  have hs2 := hs1
  have hm2 := hm1
  exact zY.ice C kL5 rfl (K _ _ hs2 hm2)
theorem lc_6 (C : zYc E p s m meth c b L xs) (hL31 : L < 2 ^ 31) {k : Nat} (hk : k + 10 < L) {w : zWd} {σ : zSt} (hs : zSys w σ) (hm : zMs w σ) (K : ∀ w2 σ2, zSys w2 σ2 → zMs w2 σ2 → zY E p e s m below meth c b 1429 [.ref 61, .ref 0, .ref 49, .int (nI k)] [] w2) : zY E p e s m below meth c b 356 [.ref 61, .ref 0, .ref 49, .int (nI k)] [] w := by
  refine zY.run C kL6 5 rfl ?_
  refine zY.ld C kL6 rfl hL31 (k + 1) (nI_p k 1) (by omega) ?_
  refine zY.run C kL6 4 rfl ?_
  refine zY.ld C kL6 rfl hL31 (k + 2) (nI_p k 2) (by omega) ?_
  refine zY.run C kL6 7 rfl ?_
  refine zY.ld C kL6 rfl hL31 (k + 3) (nI_p k 3) (by omega) ?_
  refine zY.run C kL6 1 rfl ?_
  refine zY.ldc2 C kL6 rfl qL_39 ?_
  refine zY.run C kL6 6 rfl ?_
  refine zY.ld C kL6 rfl hL31 (k + 4) (nI_p k 4) (by omega) ?_
  refine zY.run C kL6 7 rfl ?_
  refine zY.ld C kL6 rfl hL31 (k + 5) (nI_p k 5) (by omega) ?_
  refine zY.run C kL6 1 rfl ?_
  refine zY.ldc2 C kL6 rfl qL_39 ?_
  refine zY.run C kL6 6 rfl ?_
  refine zY.ld C kL6 rfl hL31 (k + 6) (nI_p k 6) (by omega) ?_
  refine zY.run C kL6 4 rfl ?_
  refine zY.ld C kL6 rfl hL31 (k + 7) (nI_p k 7) (by omega) ?_
  refine zY.cv C kL6 rfl lL_41 (p_far E hs (xs (k + 1)) ((xs (k + 2)).toInt64 <<< ((32 : Int32).toInt64 &&& 63) ||| (xs (k + 3)).toInt64 &&& 4294967295) ((xs (k + 4)).toInt64 <<< ((32 : Int32).toInt64 &&& 63) ||| (xs (k + 5)).toInt64 &&& 4294967295) (xs (k + 6)) (xs (k + 7))) (by decide) rfl hs.1 rfl rfl rfl (by decide) (fun r w1 q1 => ?_)
  obtain ⟨rfl, rfl⟩ := q1
  have hs1 := hs
  have hm1 := hm
  obtain ⟨ab, be, rm, en, ej, h49⟩ := hm1.1
  refine zY.run C kL6 5 rfl ?_
  refine zY.ld C kL6 rfl hL31 (k + 1) (nI_p k 1) (by omega) ?_
  refine zY.run C kL6 4 rfl ?_
  refine zY.ld C kL6 rfl hL31 (k + 2) (nI_p k 2) (by omega) ?_
  refine zY.run C kL6 7 rfl ?_
  refine zY.ld C kL6 rfl hL31 (k + 3) (nI_p k 3) (by omega) ?_
  refine zY.run C kL6 1 rfl ?_
  refine zY.ldc2 C kL6 rfl qL_39 ?_
  refine zY.run C kL6 6 rfl ?_
  refine zY.ld C kL6 rfl hL31 (k + 4) (nI_p k 4) (by omega) ?_
  refine zY.run C kL6 7 rfl ?_
  refine zY.ld C kL6 rfl hL31 (k + 5) (nI_p k 5) (by omega) ?_
  refine zY.run C kL6 1 rfl ?_
  refine zY.ldc2 C kL6 rfl qL_39 ?_
  refine zY.run C kL6 6 rfl ?_
  refine zY.ld C kL6 rfl hL31 (k + 6) (nI_p k 6) (by omega) ?_
  refine zY.run C kL6 4 rfl ?_
  refine zY.ld C kL6 rfl hL31 (k + 7) (nI_p k 7) (by omega) ?_
  refine zY.cv C kL6 rfl lL_45 (n_far E hm1 (xs (k + 1)) ((xs (k + 2)).toInt64 <<< ((32 : Int32).toInt64 &&& 63) ||| (xs (k + 3)).toInt64 &&& 4294967295) ((xs (k + 4)).toInt64 <<< ((32 : Int32).toInt64 &&& 63) ||| (xs (k + 5)).toInt64 &&& 4294967295) (xs (k + 6)) (xs (k + 7))) (by decide) rfl h49 rfl rfl rfl (Nat.le_of_ble_eq_true rfl) (fun r w2 q2 => ?_)
  obtain ⟨rfl, hm2, hf2⟩ := q2
  have hs2 := zSys_k hs1 hf2
  exact zY.lc C kL6 rfl rfl (K _ _ hs2 hm2)
theorem lc_7 (C : zYc E p s m meth c b L xs) (hL31 : L < 2 ^ 31) {k : Nat} (hk : k + 10 < L) {w : zWd} {σ : zSt} (hs : zSys w σ) (hm : zMs w σ) (K : ∀ w2 σ2, zSys w2 σ2 → zMs w2 σ2 → zY E p e s m below meth c b 1429 [.ref 61, .ref 0, .ref 49, .int (nI k)] [] w2) : zY E p e s m below meth c b 484 [.ref 61, .ref 0, .ref 49, .int (nI k)] [] w := by
  refine zY.run C kL7 5 rfl ?_
  refine zY.ld C kL7 rfl hL31 (k + 1) (nI_p k 1) (by omega) ?_
  refine zY.run C kL7 4 rfl ?_
  refine zY.ld C kL7 rfl hL31 (k + 2) (nI_p k 2) (by omega) ?_
  refine zY.run C kL7 7 rfl ?_
  refine zY.ld C kL7 rfl hL31 (k + 3) (nI_p k 3) (by omega) ?_
  refine zY.run C kL7 1 rfl ?_
  refine zY.ldc2 C kL7 rfl qL_39 ?_
  refine zY.run C kL7 6 rfl ?_
  refine zY.ld C kL7 rfl hL31 (k + 4) (nI_p k 4) (by omega) ?_
  refine zY.run C kL7 7 rfl ?_
  refine zY.ld C kL7 rfl hL31 (k + 5) (nI_p k 5) (by omega) ?_
  refine zY.run C kL7 1 rfl ?_
  refine zY.ldc2 C kL7 rfl qL_39 ?_
  refine zY.run C kL7 6 rfl ?_
  refine zY.ld C kL7 rfl hL31 (k + 6) (nI_p k 6) (by omega) ?_
  refine zY.cv C kL7 rfl lL_46 (p_word E hs (xs (k + 1)) ((xs (k + 2)).toInt64 <<< ((32 : Int32).toInt64 &&& 63) ||| (xs (k + 3)).toInt64 &&& 4294967295) ((xs (k + 4)).toInt64 <<< ((32 : Int32).toInt64 &&& 63) ||| (xs (k + 5)).toInt64 &&& 4294967295) (xs (k + 6))) (by decide) rfl hs.1 rfl rfl rfl (by decide) (fun r w1 q1 => ?_)
  obtain ⟨rfl, rfl⟩ := q1
  have hs1 := hs
  have hm1 := hm
  obtain ⟨ab, be, rm, en, ej, h49⟩ := hm1.1
  refine zY.run C kL7 5 rfl ?_
  refine zY.ld C kL7 rfl hL31 (k + 1) (nI_p k 1) (by omega) ?_
  refine zY.run C kL7 4 rfl ?_
  refine zY.ld C kL7 rfl hL31 (k + 2) (nI_p k 2) (by omega) ?_
  refine zY.run C kL7 7 rfl ?_
  refine zY.ld C kL7 rfl hL31 (k + 3) (nI_p k 3) (by omega) ?_
  refine zY.run C kL7 1 rfl ?_
  refine zY.ldc2 C kL7 rfl qL_39 ?_
  refine zY.run C kL7 6 rfl ?_
  refine zY.ld C kL7 rfl hL31 (k + 4) (nI_p k 4) (by omega) ?_
  refine zY.run C kL7 7 rfl ?_
  refine zY.ld C kL7 rfl hL31 (k + 5) (nI_p k 5) (by omega) ?_
  refine zY.run C kL7 1 rfl ?_
  refine zY.ldc2 C kL7 rfl qL_39 ?_
  refine zY.run C kL7 6 rfl ?_
  refine zY.ld C kL7 rfl hL31 (k + 6) (nI_p k 6) (by omega) ?_
  refine zY.cv C kL7 rfl lL_50 (n_word E hm1 (xs (k + 1)) ((xs (k + 2)).toInt64 <<< ((32 : Int32).toInt64 &&& 63) ||| (xs (k + 3)).toInt64 &&& 4294967295) ((xs (k + 4)).toInt64 <<< ((32 : Int32).toInt64 &&& 63) ||| (xs (k + 5)).toInt64 &&& 4294967295) (xs (k + 6))) (by decide) rfl h49 rfl rfl rfl (Nat.le_of_ble_eq_true rfl) (fun r w2 q2 => ?_)
  obtain ⟨rfl, hm2, hf2⟩ := q2
  have hs2 := zSys_k hs1 hf2
  exact zY.ice C kL7 rfl (K _ _ hs2 hm2)
theorem lc_8 (C : zYc E p s m meth c b L xs) (hL31 : L < 2 ^ 31) {k : Nat} (hk : k + 10 < L) {w : zWd} {σ : zSt} (hs : zSys w σ) (hm : zMs w σ) (K : ∀ w2 σ2, zSys w2 σ2 → zMs w2 σ2 → zY E p e s m below meth c b 1429 [.ref 61, .ref 0, .ref 49, .int (nI k)] [] w2) : zY E p e s m below meth c b 599 [.ref 61, .ref 0, .ref 49, .int (nI k)] [] w := by
  refine zY.run C kL8 5 rfl ?_
  refine zY.ld C kL8 rfl hL31 (k + 1) (nI_p k 1) (by omega) ?_
  refine zY.run C kL8 4 rfl ?_
  refine zY.ld C kL8 rfl hL31 (k + 2) (nI_p k 2) (by omega) ?_
  refine zY.run C kL8 7 rfl ?_
  refine zY.ld C kL8 rfl hL31 (k + 3) (nI_p k 3) (by omega) ?_
  refine zY.run C kL8 1 rfl ?_
  refine zY.ldc2 C kL8 rfl qL_39 ?_
  refine zY.run C kL8 6 rfl ?_
  refine zY.ld C kL8 rfl hL31 (k + 4) (nI_p k 4) (by omega) ?_
  refine zY.run C kL8 7 rfl ?_
  refine zY.ld C kL8 rfl hL31 (k + 5) (nI_p k 5) (by omega) ?_
  refine zY.run C kL8 1 rfl ?_
  refine zY.ldc2 C kL8 rfl qL_39 ?_
  refine zY.run C kL8 6 rfl ?_
  refine zY.ld C kL8 rfl hL31 (k + 6) (nI_p k 6) (by omega) ?_
  refine zY.run C kL8 7 rfl ?_
  refine zY.ld C kL8 rfl hL31 (k + 7) (nI_p k 7) (by omega) ?_
  refine zY.run C kL8 1 rfl ?_
  refine zY.ldc2 C kL8 rfl qL_39 ?_
  refine zY.run C kL8 6 rfl ?_
  refine zY.ld C kL8 rfl hL31 (k + 8) (nI_p k 8) (by omega) ?_
  refine zY.run C kL8 7 rfl ?_
  refine zY.ld C kL8 rfl hL31 (k + 9) (nI_p k 9) (by omega) ?_
  refine zY.run C kL8 1 rfl ?_
  refine zY.ldc2 C kL8 rfl qL_39 ?_
  refine zY.run C kL8 6 rfl ?_
  refine zY.ld C kL8 rfl hL31 (k + 10) (nI_p k 10) (by omega) ?_
  refine zY.cv C kL8 rfl lL_51 (p_order E hs (xs (k + 1)) ((xs (k + 2)).toInt64 <<< ((32 : Int32).toInt64 &&& 63) ||| (xs (k + 3)).toInt64 &&& 4294967295) ((xs (k + 4)).toInt64 <<< ((32 : Int32).toInt64 &&& 63) ||| (xs (k + 5)).toInt64 &&& 4294967295) ((xs (k + 6)).toInt64 <<< ((32 : Int32).toInt64 &&& 63) ||| (xs (k + 7)).toInt64 &&& 4294967295) ((xs (k + 8)).toInt64 <<< ((32 : Int32).toInt64 &&& 63) ||| (xs (k + 9)).toInt64 &&& 4294967295) (xs (k + 10))) (by decide) rfl hs.1 rfl rfl rfl (by decide) (fun r w1 q1 => ?_)
  obtain ⟨rfl, rfl⟩ := q1
  have hs1 := hs
  have hm1 := hm
  obtain ⟨ab, be, rm, en, ej, h49⟩ := hm1.1
  refine zY.run C kL8 5 rfl ?_
  refine zY.ld C kL8 rfl hL31 (k + 1) (nI_p k 1) (by omega) ?_
  refine zY.run C kL8 4 rfl ?_
  refine zY.ld C kL8 rfl hL31 (k + 2) (nI_p k 2) (by omega) ?_
  refine zY.run C kL8 7 rfl ?_
  refine zY.ld C kL8 rfl hL31 (k + 3) (nI_p k 3) (by omega) ?_
  refine zY.run C kL8 1 rfl ?_
  refine zY.ldc2 C kL8 rfl qL_39 ?_
  refine zY.run C kL8 6 rfl ?_
  refine zY.ld C kL8 rfl hL31 (k + 4) (nI_p k 4) (by omega) ?_
  refine zY.run C kL8 7 rfl ?_
  refine zY.ld C kL8 rfl hL31 (k + 5) (nI_p k 5) (by omega) ?_
  refine zY.run C kL8 1 rfl ?_
  refine zY.ldc2 C kL8 rfl qL_39 ?_
  refine zY.run C kL8 6 rfl ?_
  refine zY.ld C kL8 rfl hL31 (k + 6) (nI_p k 6) (by omega) ?_
  refine zY.run C kL8 7 rfl ?_
  refine zY.ld C kL8 rfl hL31 (k + 7) (nI_p k 7) (by omega) ?_
  refine zY.run C kL8 1 rfl ?_
  refine zY.ldc2 C kL8 rfl qL_39 ?_
  refine zY.run C kL8 6 rfl ?_
  refine zY.ld C kL8 rfl hL31 (k + 8) (nI_p k 8) (by omega) ?_
  refine zY.run C kL8 7 rfl ?_
  refine zY.ld C kL8 rfl hL31 (k + 9) (nI_p k 9) (by omega) ?_
  refine zY.run C kL8 1 rfl ?_
  refine zY.ldc2 C kL8 rfl qL_39 ?_
  refine zY.run C kL8 6 rfl ?_
  refine zY.ld C kL8 rfl hL31 (k + 10) (nI_p k 10) (by omega) ?_
  refine zY.cv C kL8 rfl lL_55 (n_order E hm1 (xs (k + 1)) ((xs (k + 2)).toInt64 <<< ((32 : Int32).toInt64 &&& 63) ||| (xs (k + 3)).toInt64 &&& 4294967295) ((xs (k + 4)).toInt64 <<< ((32 : Int32).toInt64 &&& 63) ||| (xs (k + 5)).toInt64 &&& 4294967295) ((xs (k + 6)).toInt64 <<< ((32 : Int32).toInt64 &&& 63) ||| (xs (k + 7)).toInt64 &&& 4294967295) ((xs (k + 8)).toInt64 <<< ((32 : Int32).toInt64 &&& 63) ||| (xs (k + 9)).toInt64 &&& 4294967295) (xs (k + 10))) (by decide) rfl h49 rfl rfl rfl (Nat.le_of_ble_eq_true rfl) (fun r w2 q2 => ?_)
  obtain ⟨rfl, hm2, hf2⟩ := q2
  have hs2 := zSys_k hs1 hf2
  exact zY.ice C kL8 rfl (K _ _ hs2 hm2)
theorem lc_9 (C : zYc E p s m meth c b L xs) (hL31 : L < 2 ^ 31) {k : Nat} (hk : k + 10 < L) {w : zWd} {σ : zSt} (hs : zSys w σ) (hm : zMs w σ) (K : ∀ w2 σ2, zSys w2 σ2 → zMs w2 σ2 → zY E p e s m below meth c b 1429 [.ref 61, .ref 0, .ref 49, .int (nI k)] [] w2) : zY E p e s m below meth c b 802 [.ref 61, .ref 0, .ref 49, .int (nI k)] [] w := by
  refine zY.run C kL9 5 rfl ?_
  refine zY.ld C kL9 rfl hL31 (k + 1) (nI_p k 1) (by omega) ?_
  refine zY.run C kL9 4 rfl ?_
  refine zY.ld C kL9 rfl hL31 (k + 2) (nI_p k 2) (by omega) ?_
  refine zY.run C kL9 4 rfl ?_
  refine zY.ld C kL9 rfl hL31 (k + 3) (nI_p k 3) (by omega) ?_
  refine zY.run C kL9 7 rfl ?_
  refine zY.ld C kL9 rfl hL31 (k + 4) (nI_p k 4) (by omega) ?_
  refine zY.run C kL9 1 rfl ?_
  refine zY.ldc2 C kL9 rfl qL_39 ?_
  refine zY.run C kL9 6 rfl ?_
  refine zY.ld C kL9 rfl hL31 (k + 5) (nI_p k 5) (by omega) ?_
  refine zY.run C kL9 7 rfl ?_
  refine zY.ld C kL9 rfl hL31 (k + 6) (nI_p k 6) (by omega) ?_
  refine zY.run C kL9 1 rfl ?_
  refine zY.ldc2 C kL9 rfl qL_39 ?_
  refine zY.run C kL9 6 rfl ?_
  refine zY.ld C kL9 rfl hL31 (k + 7) (nI_p k 7) (by omega) ?_
  refine zY.cv C kL9 rfl lL_56 (p_join E hs (xs (k + 1)) (xs (k + 2)) ((xs (k + 3)).toInt64 <<< ((32 : Int32).toInt64 &&& 63) ||| (xs (k + 4)).toInt64 &&& 4294967295) ((xs (k + 5)).toInt64 <<< ((32 : Int32).toInt64 &&& 63) ||| (xs (k + 6)).toInt64 &&& 4294967295) (xs (k + 7))) (by decide) rfl hs.1 rfl rfl rfl (by decide) (fun r w1 q1 => ?_)
  obtain ⟨rfl, rfl⟩ := q1
  have hs1 := hs
  have hm1 := hm
  obtain ⟨ab, be, rm, en, ej, h49⟩ := hm1.1
  refine zY.run C kL9 5 rfl ?_
  refine zY.ld C kL9 rfl hL31 (k + 1) (nI_p k 1) (by omega) ?_
  refine zY.run C kL9 4 rfl ?_
  refine zY.ld C kL9 rfl hL31 (k + 2) (nI_p k 2) (by omega) ?_
  refine zY.run C kL9 4 rfl ?_
  refine zY.ld C kL9 rfl hL31 (k + 3) (nI_p k 3) (by omega) ?_
  refine zY.run C kL9 7 rfl ?_
  refine zY.ld C kL9 rfl hL31 (k + 4) (nI_p k 4) (by omega) ?_
  refine zY.run C kL9 1 rfl ?_
  refine zY.ldc2 C kL9 rfl qL_39 ?_
  refine zY.run C kL9 6 rfl ?_
  refine zY.ld C kL9 rfl hL31 (k + 5) (nI_p k 5) (by omega) ?_
  refine zY.run C kL9 7 rfl ?_
  refine zY.ld C kL9 rfl hL31 (k + 6) (nI_p k 6) (by omega) ?_
  refine zY.run C kL9 1 rfl ?_
  refine zY.ldc2 C kL9 rfl qL_39 ?_
  refine zY.run C kL9 6 rfl ?_
  refine zY.ld C kL9 rfl hL31 (k + 7) (nI_p k 7) (by omega) ?_
  refine zY.cv C kL9 rfl lL_60 (n_join E hm1 (xs (k + 1)) (xs (k + 2)) ((xs (k + 3)).toInt64 <<< ((32 : Int32).toInt64 &&& 63) ||| (xs (k + 4)).toInt64 &&& 4294967295) ((xs (k + 5)).toInt64 <<< ((32 : Int32).toInt64 &&& 63) ||| (xs (k + 6)).toInt64 &&& 4294967295) (xs (k + 7))) (by decide) rfl h49 rfl rfl rfl (Nat.le_of_ble_eq_true rfl) (fun r w2 q2 => ?_)
  obtain ⟨rfl, hm2, hf2⟩ := q2
  have hs2 := zSys_k hs1 hf2
  exact zY.lc C kL9 rfl rfl (K _ _ hs2 hm2)
theorem lc_10 (C : zYc E p s m meth c b L xs) (hL31 : L < 2 ^ 31) {k : Nat} (hk : k + 10 < L) {w : zWd} {σ : zSt} (hs : zSys w σ) (hm : zMs w σ) (K : ∀ w2 σ2, zSys w2 σ2 → zMs w2 σ2 → zY E p e s m below meth c b 1429 [.ref 61, .ref 0, .ref 49, .int (nI k)] [] w2) : zY E p e s m below meth c b 930 [.ref 61, .ref 0, .ref 49, .int (nI k)] [] w := by
  refine zY.run C kL10 5 rfl ?_
  refine zY.ld C kL10 rfl hL31 (k + 1) (nI_p k 1) (by omega) ?_
  refine zY.run C kL10 4 rfl ?_
  refine zY.ld C kL10 rfl hL31 (k + 2) (nI_p k 2) (by omega) ?_
  refine zY.run C kL10 4 rfl ?_
  refine zY.ld C kL10 rfl hL31 (k + 3) (nI_p k 3) (by omega) ?_
  refine zY.cv C kL10 rfl lL_61 (p_table E hs (xs (k + 1)) (xs (k + 2)) (xs (k + 3))) (by decide) rfl hs.1 rfl rfl rfl (by decide) (fun r w1 q1 => ?_)
  obtain ⟨rfl, rfl⟩ := q1
  have hs1 := hs
  have hm1 := hm
  obtain ⟨ab, be, rm, en, ej, h49⟩ := hm1.1
  refine zY.run C kL10 5 rfl ?_
  refine zY.ld C kL10 rfl hL31 (k + 1) (nI_p k 1) (by omega) ?_
  refine zY.run C kL10 4 rfl ?_
  refine zY.ld C kL10 rfl hL31 (k + 2) (nI_p k 2) (by omega) ?_
  refine zY.run C kL10 4 rfl ?_
  refine zY.ld C kL10 rfl hL31 (k + 3) (nI_p k 3) (by omega) ?_
  refine zY.cv C kL10 rfl lL_64 (n_table E hm1 (xs (k + 1)) (xs (k + 2)) (xs (k + 3))) (by decide) rfl h49 rfl rfl rfl (Nat.le_of_ble_eq_true rfl) (fun r w2 q2 => ?_)
  obtain ⟨rfl, rfl⟩ := q2
  have hs2 := hs1
  have hm2 := hm1
  exact zY.ice C kL10 rfl (K _ _ hs2 hm2)
theorem lc_11 (C : zYc E p s m meth c b L xs) (hL31 : L < 2 ^ 31) {k : Nat} (hk : k + 10 < L) {w : zWd} {σ : zSt} (hs : zSys w σ) (hm : zMs w σ) (K : ∀ w2 σ2, zSys w2 σ2 → zMs w2 σ2 → zY E p e s m below meth c b 1429 [.ref 61, .ref 0, .ref 49, .int (nI k)] [] w2) : zY E p e s m below meth c b 973 [.ref 61, .ref 0, .ref 49, .int (nI k)] [] w := by
  refine zY.run C kL11 5 rfl ?_
  refine zY.ld C kL11 rfl hL31 (k + 1) (nI_p k 1) (by omega) ?_
  refine zY.run C kL11 4 rfl ?_
  refine zY.ld C kL11 rfl hL31 (k + 2) (nI_p k 2) (by omega) ?_
  refine zY.run C kL11 4 rfl ?_
  refine zY.ld C kL11 rfl hL31 (k + 3) (nI_p k 3) (by omega) ?_
  refine zY.run C kL11 4 rfl ?_
  refine zY.ld C kL11 rfl hL31 (k + 4) (nI_p k 4) (by omega) ?_
  refine zY.cv C kL11 rfl lL_65 (p_ways E hs (xs (k + 1)) (xs (k + 2)) (xs (k + 3)) (xs (k + 4))) (by decide) rfl hs.1 rfl rfl rfl (by decide) (fun r w1 q1 => ?_)
  obtain ⟨rfl, hs1, hf1⟩ := q1
  have hm1 := zMs_k hm hf1
  obtain ⟨ab, be, rm, en, ej, h49⟩ := hm1.1
  refine zY.run C kL11 5 rfl ?_
  refine zY.ld C kL11 rfl hL31 (k + 1) (nI_p k 1) (by omega) ?_
  refine zY.run C kL11 4 rfl ?_
  refine zY.ld C kL11 rfl hL31 (k + 2) (nI_p k 2) (by omega) ?_
  refine zY.run C kL11 4 rfl ?_
  refine zY.ld C kL11 rfl hL31 (k + 3) (nI_p k 3) (by omega) ?_
  refine zY.run C kL11 4 rfl ?_
  refine zY.ld C kL11 rfl hL31 (k + 4) (nI_p k 4) (by omega) ?_
  refine zY.cv C kL11 rfl lL_69 (n_ways E hm1 (xs (k + 1)) (xs (k + 2)) (xs (k + 3)) (xs (k + 4))) (by decide) rfl h49 rfl rfl rfl (Nat.le_of_ble_eq_true rfl) (fun r w2 q2 => ?_)
  obtain ⟨rfl, hm2, hf2⟩ := q2
  have hs2 := zSys_k hs1 hf2
  exact zY.lc C kL11 rfl rfl (K _ _ hs2 hm2)
theorem lc_12 (C : zYc E p s m meth c b L xs) (hL31 : L < 2 ^ 31) {k : Nat} (hk : k + 10 < L) {w : zWd} {σ : zSt} (hs : zSys w σ) (hm : zMs w σ) (K : ∀ w2 σ2, zSys w2 σ2 → zMs w2 σ2 → zY E p e s m below meth c b 1429 [.ref 61, .ref 0, .ref 49, .int (nI k)] [] w2) : zY E p e s m below meth c b 1027 [.ref 61, .ref 0, .ref 49, .int (nI k)] [] w := by
  refine zY.run C kL12 5 rfl ?_
  refine zY.ld C kL12 rfl hL31 (k + 1) (nI_p k 1) (by omega) ?_
  refine zY.run C kL12 4 rfl ?_
  refine zY.ld C kL12 rfl hL31 (k + 2) (nI_p k 2) (by omega) ?_
  refine zY.cv C kL12 rfl lL_70 (p_pieces E hs (xs (k + 1)) (xs (k + 2))) (by decide) rfl hs.1 rfl rfl rfl (by decide) (fun r w1 q1 => ?_)
  obtain ⟨rfl, hs1, hf1⟩ := q1
  have hm1 := zMs_k hm hf1
  obtain ⟨ab, be, rm, en, ej, h49⟩ := hm1.1
  refine zY.run C kL12 5 rfl ?_
  refine zY.ld C kL12 rfl hL31 (k + 1) (nI_p k 1) (by omega) ?_
  refine zY.run C kL12 4 rfl ?_
  refine zY.ld C kL12 rfl hL31 (k + 2) (nI_p k 2) (by omega) ?_
  refine zY.cv C kL12 rfl lL_74 (n_pieces E hm1 (xs (k + 1)) (xs (k + 2))) (by decide) rfl h49 rfl rfl rfl (Nat.le_of_ble_eq_true rfl) (fun r w2 q2 => ?_)
  obtain ⟨rfl, hm2, hf2⟩ := q2
  have hs2 := zSys_k hs1 hf2
  exact zY.lc C kL12 rfl rfl (K _ _ hs2 hm2)
theorem lc_13 (C : zYc E p s m meth c b L xs) (hL31 : L < 2 ^ 31) {k : Nat} (hk : k + 10 < L) {w : zWd} {σ : zSt} (hs : zSys w σ) (hm : zMs w σ) (K : ∀ w2 σ2, zSys w2 σ2 → zMs w2 σ2 → zY E p e s m below meth c b 1429 [.ref 61, .ref 0, .ref 49, .int (nI k)] [] w2) : zY E p e s m below meth c b 1061 [.ref 61, .ref 0, .ref 49, .int (nI k)] [] w := by
  refine zY.run C kL13 5 rfl ?_
  refine zY.ld C kL13 rfl hL31 (k + 1) (nI_p k 1) (by omega) ?_
  refine zY.run C kL13 4 rfl ?_
  refine zY.ld C kL13 rfl hL31 (k + 2) (nI_p k 2) (by omega) ?_
  refine zY.cv C kL13 rfl lL_75 (p_part E hs (xs (k + 1)) (xs (k + 2))) (by decide) rfl hs.1 rfl rfl rfl (by decide) (fun r w1 q1 => ?_)
  obtain ⟨rfl, rfl⟩ := q1
  have hs1 := hs
  have hm1 := hm
  obtain ⟨ab, be, rm, en, ej, h49⟩ := hm1.1
  refine zY.run C kL13 5 rfl ?_
  refine zY.ld C kL13 rfl hL31 (k + 1) (nI_p k 1) (by omega) ?_
  refine zY.run C kL13 4 rfl ?_
  refine zY.ld C kL13 rfl hL31 (k + 2) (nI_p k 2) (by omega) ?_
  refine zY.cv C kL13 rfl lL_78 (n_part E hm1 (xs (k + 1)) (xs (k + 2))) (by decide) rfl h49 rfl rfl rfl (Nat.le_of_ble_eq_true rfl) (fun r w2 q2 => ?_)
  obtain ⟨rfl, rfl⟩ := q2
  have hs2 := hs1
  have hm2 := hm1
  exact zY.ice C kL13 rfl (K _ _ hs2 hm2)
theorem lc_14 (C : zYc E p s m meth c b L xs) (hL31 : L < 2 ^ 31) {k : Nat} (hk : k + 10 < L) {w : zWd} {σ : zSt} (hs : zSys w σ) (hm : zMs w σ) (K : ∀ w2 σ2, zSys w2 σ2 → zMs w2 σ2 → zY E p e s m below meth c b 1429 [.ref 61, .ref 0, .ref 49, .int (nI k)] [] w2) : zY E p e s m below meth c b 1094 [.ref 61, .ref 0, .ref 49, .int (nI k)] [] w := by
  refine zY.run C kL14 5 rfl ?_
  refine zY.ld C kL14 rfl hL31 (k + 1) (nI_p k 1) (by omega) ?_
  refine zY.cv C kL14 rfl lL_79 (p_mixes E hs (xs (k + 1))) (by decide) rfl hs.1 rfl rfl rfl (by decide) (fun r w1 q1 => ?_)
  obtain ⟨rfl, rfl⟩ := q1
  have hs1 := hs
  have hm1 := hm
  obtain ⟨ab, be, rm, en, ej, h49⟩ := hm1.1
  refine zY.run C kL14 5 rfl ?_
  refine zY.ld C kL14 rfl hL31 (k + 1) (nI_p k 1) (by omega) ?_
  refine zY.cv C kL14 rfl lL_83 (n_mixes E hm1 (xs (k + 1))) (by decide) rfl h49 rfl rfl rfl (Nat.le_of_ble_eq_true rfl) (fun r w2 q2 => ?_)
  obtain ⟨rfl, hm2, hf2⟩ := q2
  have hs2 := zSys_k hs1 hf2
  rw [br_mixes hm.2.1.2.2 (xs (k + 1))]
  exact zY.ice C kL14 rfl (K _ _ hs2 hm2)
theorem lc_15 (C : zYc E p s m meth c b L xs) (hL31 : L < 2 ^ 31) {k : Nat} (hk : k + 10 < L) {w : zWd} {σ : zSt} (hs : zSys w σ) (hm : zMs w σ) (K : ∀ w2 σ2, zSys w2 σ2 → zMs w2 σ2 → zY E p e s m below meth c b 1429 [.ref 61, .ref 0, .ref 49, .int (nI k)] [] w2) : zY E p e s m below meth c b 1117 [.ref 61, .ref 0, .ref 49, .int (nI k)] [] w := by
  refine zY.run C kL15 5 rfl ?_
  refine zY.ld C kL15 rfl hL31 (k + 1) (nI_p k 1) (by omega) ?_
  refine zY.run C kL15 4 rfl ?_
  refine zY.ld C kL15 rfl hL31 (k + 2) (nI_p k 2) (by omega) ?_
  refine zY.cv C kL15 rfl lL_84 (p_rounds E hs (xs (k + 1)) (xs (k + 2))) (by decide) rfl hs.1 rfl rfl rfl (by decide) (fun r w1 q1 => ?_)
  obtain ⟨rfl, hs1, hf1⟩ := q1
  have hm1 := zMs_k hm hf1
  obtain ⟨ab, be, rm, en, ej, h49⟩ := hm1.1
  refine zY.run C kL15 5 rfl ?_
  refine zY.ld C kL15 rfl hL31 (k + 1) (nI_p k 1) (by omega) ?_
  refine zY.run C kL15 4 rfl ?_
  refine zY.ld C kL15 rfl hL31 (k + 2) (nI_p k 2) (by omega) ?_
  refine zY.cv C kL15 rfl lL_87 (n_rounds E hm1 (xs (k + 1)) (xs (k + 2))) (by decide) rfl h49 rfl rfl rfl (Nat.le_of_ble_eq_true rfl) (fun r w2 q2 => ?_)
  obtain ⟨rfl, hm2, hf2⟩ := q2
  have hs2 := zSys_k hs1 hf2
  rw [br_rounds hm.2.1.2.2 (xs (k + 1)) (xs (k + 2))]
  exact zY.ice C kL15 rfl (K _ _ hs2 hm2)
theorem lc_16 (C : zYc E p s m meth c b L xs) (hL31 : L < 2 ^ 31) {k : Nat} (hk : k + 10 < L) {w : zWd} {σ : zSt} (hs : zSys w σ) (hm : zMs w σ) (K : ∀ w2 σ2, zSys w2 σ2 → zMs w2 σ2 → zY E p e s m below meth c b 1429 [.ref 61, .ref 0, .ref 49, .int (nI k)] [] w2) : zY E p e s m below meth c b 1150 [.ref 61, .ref 0, .ref 49, .int (nI k)] [] w := by
  refine zY.run C kL16 5 rfl ?_
  refine zY.ld C kL16 rfl hL31 (k + 1) (nI_p k 1) (by omega) ?_
  refine zY.run C kL16 4 rfl ?_
  refine zY.ld C kL16 rfl hL31 (k + 2) (nI_p k 2) (by omega) ?_
  refine zY.run C kL16 4 rfl ?_
  refine zY.ld C kL16 rfl hL31 (k + 3) (nI_p k 3) (by omega) ?_
  refine zY.run C kL16 4 rfl ?_
  refine zY.ld C kL16 rfl hL31 (k + 4) (nI_p k 4) (by omega) ?_
  refine zY.cv C kL16 rfl lL_88 (p_rnd E hs (xs (k + 1)) (xs (k + 2)) (xs (k + 3)) (xs (k + 4)) (rnd_ok hm.2.1.2.2 _ _)) (by decide) rfl hs.1 rfl rfl rfl (by decide) (fun r w1 q1 => ?_)
  obtain ⟨rfl, hs1, hf1⟩ := q1
  have hm1 := zMs_k hm hf1
  obtain ⟨ab, be, rm, en, ej, h49⟩ := hm1.1
  refine zY.run C kL16 5 rfl ?_
  refine zY.ld C kL16 rfl hL31 (k + 1) (nI_p k 1) (by omega) ?_
  refine zY.run C kL16 4 rfl ?_
  refine zY.ld C kL16 rfl hL31 (k + 2) (nI_p k 2) (by omega) ?_
  refine zY.run C kL16 4 rfl ?_
  refine zY.ld C kL16 rfl hL31 (k + 3) (nI_p k 3) (by omega) ?_
  refine zY.run C kL16 4 rfl ?_
  refine zY.ld C kL16 rfl hL31 (k + 4) (nI_p k 4) (by omega) ?_
  refine zY.cv C kL16 rfl lL_91 (n_round E hm1 (xs (k + 1)) (xs (k + 2)) (xs (k + 3)) (xs (k + 4))) (by decide) rfl h49 rfl rfl rfl (Nat.le_of_ble_eq_true rfl) (fun r w2 q2 => ?_)
  obtain ⟨rfl, hm2, hf2⟩ := q2
  have hs2 := zSys_k hs1 hf2
  rw [br_round hm.2.1.2.2 (xs (k + 1)) (xs (k + 2)) (xs (k + 3)) (xs (k + 4))]
  exact zY.lc C kL16 rfl rfl (K _ _ hs2 hm2)
theorem lc_17 (C : zYc E p s m meth c b L xs) (hL31 : L < 2 ^ 31) {k : Nat} (hk : k + 10 < L) {w : zWd} {σ : zSt} (hs : zSys w σ) (hm : zMs w σ) (K : ∀ w2 σ2, zSys w2 σ2 → zMs w2 σ2 → zY E p e s m below meth c b 1429 [.ref 61, .ref 0, .ref 49, .int (nI k)] [] w2) : zY E p e s m below meth c b 1204 [.ref 61, .ref 0, .ref 49, .int (nI k)] [] w := by
  refine zY.run C kL17 5 rfl ?_
  refine zY.ld C kL17 rfl hL31 (k + 1) (nI_p k 1) (by omega) ?_
  refine zY.run C kL17 4 rfl ?_
  refine zY.ld C kL17 rfl hL31 (k + 2) (nI_p k 2) (by omega) ?_
  refine zY.cv C kL17 rfl lL_92 (p_period E hs (xs (k + 1)) (xs (k + 2))) (by decide) rfl hs.1 rfl rfl rfl (by decide) (fun r w1 q1 => ?_)
  obtain ⟨rfl, hs1, hf1⟩ := q1
  have hm1 := zMs_k hm hf1
  obtain ⟨ab, be, rm, en, ej, h49⟩ := hm1.1
  refine zY.run C kL17 5 rfl ?_
  refine zY.ld C kL17 rfl hL31 (k + 1) (nI_p k 1) (by omega) ?_
  refine zY.run C kL17 4 rfl ?_
  refine zY.ld C kL17 rfl hL31 (k + 2) (nI_p k 2) (by omega) ?_
  refine zY.cv C kL17 rfl lL_95 (n_period E hm1 (xs (k + 1)) (xs (k + 2))) (by decide) rfl h49 rfl rfl rfl (Nat.le_of_ble_eq_true rfl) (fun r w2 q2 => ?_)
  obtain ⟨rfl, hm2, hf2⟩ := q2
  have hs2 := zSys_k hs1 hf2
  rw [br_period hm.2.1.2.2 (xs (k + 1)) (xs (k + 2))]
  exact zY.ice C kL17 rfl (K _ _ hs2 hm2)
theorem lc_18 (C : zYc E p s m meth c b L xs) (hL31 : L < 2 ^ 31) {k : Nat} (hk : k + 10 < L) {w : zWd} {σ : zSt} (hs : zSys w σ) (hm : zMs w σ) (K : ∀ w2 σ2, zSys w2 σ2 → zMs w2 σ2 → zY E p e s m below meth c b 1429 [.ref 61, .ref 0, .ref 49, .int (nI k)] [] w2) : zY E p e s m below meth c b 1237 [.ref 61, .ref 0, .ref 49, .int (nI k)] [] w := by
  refine zY.run C kL18 5 rfl ?_
  refine zY.ld C kL18 rfl hL31 (k + 1) (nI_p k 1) (by omega) ?_
  refine zY.run C kL18 4 rfl ?_
  refine zY.ld C kL18 rfl hL31 (k + 2) (nI_p k 2) (by omega) ?_
  refine zY.cv C kL18 rfl lL_96 (p_has E hs (xs (k + 1)) (xs (k + 2))) (by decide) rfl hs.1 rfl rfl rfl (by decide) (fun r w1 q1 => ?_)
  obtain ⟨rfl, hs1, hf1⟩ := q1
  have hm1 := zMs_k hm hf1
  obtain ⟨ab, be, rm, en, ej, h49⟩ := hm1.1
  refine zY.run C kL18 5 rfl ?_
  refine zY.ld C kL18 rfl hL31 (k + 1) (nI_p k 1) (by omega) ?_
  refine zY.run C kL18 4 rfl ?_
  refine zY.ld C kL18 rfl hL31 (k + 2) (nI_p k 2) (by omega) ?_
  refine zY.cv C kL18 rfl lL_99 (n_has E hm1 (xs (k + 1)) (xs (k + 2))) (by decide) rfl h49 rfl rfl rfl (Nat.le_of_ble_eq_true rfl) (fun r w2 q2 => ?_)
  obtain ⟨rfl, hm2, hf2⟩ := q2
  have hs2 := zSys_k hs1 hf2
  rw [br_has hm.2.1.2.2 (xs (k + 1)) (xs (k + 2))]
  exact zY.ice C kL18 rfl (K _ _ hs2 hm2)
theorem lc_19 (C : zYc E p s m meth c b L xs) (hL31 : L < 2 ^ 31) {k : Nat} (hk : k + 10 < L) {w : zWd} {σ : zSt} (hs : zSys w σ) (hm : zMs w σ) (K : ∀ w2 σ2, zSys w2 σ2 → zMs w2 σ2 → zY E p e s m below meth c b 1429 [.ref 61, .ref 0, .ref 49, .int (nI k)] [] w2) : zY E p e s m below meth c b 1270 [.ref 61, .ref 0, .ref 49, .int (nI k)] [] w := by
  refine zY.run C kL19 5 rfl ?_
  refine zY.ld C kL19 rfl hL31 (k + 1) (nI_p k 1) (by omega) ?_
  refine zY.run C kL19 4 rfl ?_
  refine zY.ld C kL19 rfl hL31 (k + 2) (nI_p k 2) (by omega) ?_
  refine zY.cv C kL19 rfl lL_100 (p_forces E w (xs (k + 1)) (xs (k + 2))) (by decide) rfl hs.1 rfl rfl rfl (by decide) (fun r w1 q1 => ?_)
  obtain ⟨rfl, rfl⟩ := q1
  have hs1 := hs
  have hm1 := hm
  obtain ⟨ab, be, rm, en, ej, h49⟩ := hm1.1
  refine zY.run C kL19 5 rfl ?_
  refine zY.ld C kL19 rfl hL31 (k + 1) (nI_p k 1) (by omega) ?_
  refine zY.run C kL19 4 rfl ?_
  refine zY.ld C kL19 rfl hL31 (k + 2) (nI_p k 2) (by omega) ?_
  refine zY.cv C kL19 rfl lL_103 (n_forces E _ (xs (k + 1)) (xs (k + 2))) (by decide) rfl h49 rfl rfl rfl (Nat.le_of_ble_eq_true rfl) (fun r w2 q2 => ?_)
  obtain ⟨rfl, rfl⟩ := q2
  have hs2 := hs1
  have hm2 := hm1
  exact zY.ice C kL19 rfl (K _ _ hs2 hm2)
theorem lc_20 (C : zYc E p s m meth c b L xs) (hL31 : L < 2 ^ 31) {k : Nat} (hk : k + 10 < L) {w : zWd} {σ : zSt} (hs : zSys w σ) (hm : zMs w σ) (K : ∀ w2 σ2, zSys w2 σ2 → zMs w2 σ2 → zY E p e s m below meth c b 1429 [.ref 61, .ref 0, .ref 49, .int (nI k)] [] w2) : zY E p e s m below meth c b 1303 [.ref 61, .ref 0, .ref 49, .int (nI k)] [] w := by
  refine zY.run C kL20 5 rfl ?_
  refine zY.ld C kL20 rfl hL31 (k + 1) (nI_p k 1) (by omega) ?_
  refine zY.cv C kL20 rfl lL_104 (p_most E hs (xs (k + 1))) (by decide) rfl hs.1 rfl rfl rfl (by decide) (fun r w1 q1 => ?_)
  obtain ⟨rfl, hs1, hf1⟩ := q1
  have hm1 := zMs_k hm hf1
  obtain ⟨ab, be, rm, en, ej, h49⟩ := hm1.1
  refine zY.run C kL20 5 rfl ?_
  refine zY.ld C kL20 rfl hL31 (k + 1) (nI_p k 1) (by omega) ?_
  refine zY.cv C kL20 rfl lL_107 (n_most E hm1 (xs (k + 1))) (by decide) rfl h49 rfl rfl rfl (Nat.le_of_ble_eq_true rfl) (fun r w2 q2 => ?_)
  obtain ⟨rfl, hm2, hf2⟩ := q2
  have hs2 := zSys_k hs1 hf2
  rw [br_most hm.2.1.2.2 (xs (k + 1))]
  exact zY.ice C kL20 rfl (K _ _ hs2 hm2)
theorem lc_21 (C : zYc E p s m meth c b L xs) (hL31 : L < 2 ^ 31) {k : Nat} (hk : k + 10 < L) {w : zWd} {σ : zSt} (hs : zSys w σ) (hm : zMs w σ) (K : ∀ w2 σ2, zSys w2 σ2 → zMs w2 σ2 → zY E p e s m below meth c b 1429 [.ref 61, .ref 0, .ref 49, .int (nI k)] [] w2) : zY E p e s m below meth c b 1326 [.ref 61, .ref 0, .ref 49, .int (nI k)] [] w := by
  refine zY.run C kL21 5 rfl ?_
  refine zY.ld C kL21 rfl hL31 (k + 1) (nI_p k 1) (by omega) ?_
  refine zY.cv C kL21 rfl lL_108 (p_top E hs (xs (k + 1))) (by decide) rfl hs.1 rfl rfl rfl (by decide) (fun r w1 q1 => ?_)
  obtain ⟨rfl, rfl⟩ := q1
  have hs1 := hs
  have hm1 := hm
  obtain ⟨ab, be, rm, en, ej, h49⟩ := hm1.1
  refine zY.run C kL21 5 rfl ?_
  refine zY.ld C kL21 rfl hL31 (k + 1) (nI_p k 1) (by omega) ?_
  refine zY.cv C kL21 rfl lL_111 (n_top E hm1 (xs (k + 1))) (by decide) rfl h49 rfl rfl rfl (Nat.le_of_ble_eq_true rfl) (fun r w2 q2 => ?_)
  obtain ⟨rfl, rfl⟩ := q2
  have hs2 := hs1
  have hm2 := hm1
  exact zY.ice C kL21 rfl (K _ _ hs2 hm2)
theorem lc_22 (C : zYc E p s m meth c b L xs) (hL31 : L < 2 ^ 31) {k : Nat} (hk : k + 10 < L) {w : zWd} {σ : zSt} (hs : zSys w σ) (hm : zMs w σ) (K : ∀ w2 σ2, zSys w2 σ2 → zMs w2 σ2 → zY E p e s m below meth c b 1429 [.ref 61, .ref 0, .ref 49, .int (nI k)] [] w2) : zY E p e s m below meth c b 1349 [.ref 61, .ref 0, .ref 49, .int (nI k)] [] w := by
  refine zY.run C kL22 5 rfl ?_
  refine zY.ld C kL22 rfl hL31 (k + 1) (nI_p k 1) (by omega) ?_
  refine zY.run C kL22 4 rfl ?_
  refine zY.ld C kL22 rfl hL31 (k + 2) (nI_p k 2) (by omega) ?_
  refine zY.cv C kL22 rfl lL_112 (p_topWord E hs (xs (k + 1)) (xs (k + 2))) (by decide) rfl hs.1 rfl rfl rfl (by decide) (fun r w1 q1 => ?_)
  obtain ⟨rfl, rfl⟩ := q1
  have hs1 := hs
  have hm1 := hm
  obtain ⟨ab, be, rm, en, ej, h49⟩ := hm1.1
  refine zY.run C kL22 5 rfl ?_
  refine zY.ld C kL22 rfl hL31 (k + 1) (nI_p k 1) (by omega) ?_
  refine zY.run C kL22 4 rfl ?_
  refine zY.ld C kL22 rfl hL31 (k + 2) (nI_p k 2) (by omega) ?_
  refine zY.cv C kL22 rfl lL_115 (n_topWord E hm1 (xs (k + 1)) (xs (k + 2))) (by decide) rfl h49 rfl rfl rfl (Nat.le_of_ble_eq_true rfl) (fun r w2 q2 => ?_)
  obtain ⟨rfl, rfl⟩ := q2
  have hs2 := hs1
  have hm2 := hm1
  exact zY.ice C kL22 rfl (K _ _ hs2 hm2)
theorem lc_23 (C : zYc E p s m meth c b L xs) (hL31 : L < 2 ^ 31) {k : Nat} (hk : k + 10 < L) {w : zWd} {σ : zSt} (hs : zSys w σ) (hm : zMs w σ) (K : ∀ w2 σ2, zSys w2 σ2 → zMs w2 σ2 → zY E p e s m below meth c b 1429 [.ref 61, .ref 0, .ref 49, .int (nI k)] [] w2) : zY E p e s m below meth c b 1382 [.ref 61, .ref 0, .ref 49, .int (nI k)] [] w := by
  refine zY.run C kL23 5 rfl ?_
  refine zY.ld C kL23 rfl hL31 (k + 1) (nI_p k 1) (by omega) ?_
  refine zY.run C kL23 4 rfl ?_
  refine zY.ld C kL23 rfl hL31 (k + 2) (nI_p k 2) (by omega) ?_
  refine zY.cv C kL23 rfl lL_116 (p_topRound E hs (xs (k + 1)) (xs (k + 2))) (by decide) rfl hs.1 rfl rfl rfl (by decide) (fun r w1 q1 => ?_)
  obtain ⟨rfl, rfl⟩ := q1
  have hs1 := hs
  have hm1 := hm
  obtain ⟨ab, be, rm, en, ej, h49⟩ := hm1.1
  refine zY.run C kL23 5 rfl ?_
  refine zY.ld C kL23 rfl hL31 (k + 1) (nI_p k 1) (by omega) ?_
  refine zY.run C kL23 4 rfl ?_
  refine zY.ld C kL23 rfl hL31 (k + 2) (nI_p k 2) (by omega) ?_
  refine zY.cv C kL23 rfl lL_119 (n_topRound E hm1 (xs (k + 1)) (xs (k + 2))) (by decide) rfl h49 rfl rfl rfl (Nat.le_of_ble_eq_true rfl) (fun r w2 q2 => ?_)
  obtain ⟨rfl, hm2, hf2⟩ := q2
  have hs2 := zSys_k hs1 hf2
  exact zY.ice C kL23 rfl (K _ _ hs2 hm2)
theorem lc_24 (C : zYc E p s m meth c b L xs) (hL31 : L < 2 ^ 31) {k : Nat} (hk : k + 10 < L) {w : zWd} {σ : zSt} (hs : zSys w σ) (hm : zMs w σ) (K : ∀ w2 σ2, zSys w2 σ2 → zMs w2 σ2 → zY E p e s m below meth c b 1429 [.ref 61, .ref 0, .ref 49, .int (nI k)] [] w2) : zY E p e s m below meth c b 1415 [.ref 61, .ref 0, .ref 49, .int (nI k)] [] w := by
  refine zY.run C kL24 1 rfl ?_
  refine zY.cv C kL24 rfl lL_120 (p_digest E hs ) (by decide) rfl hs.1 rfl rfl rfl (by decide) (fun r w1 q1 => ?_)
  obtain ⟨rfl, rfl⟩ := q1
  have hs1 := hs
  have hm1 := hm
  obtain ⟨ab, be, rm, en, ej, h49⟩ := hm1.1
  refine zY.run C kL24 1 rfl ?_
  refine zY.cv C kL24 rfl lL_124 (n_digest E hm1 ) (by decide) rfl h49 rfl rfl rfl (Nat.le_of_ble_eq_true rfl) (fun r w2 q2 => ?_)
  obtain ⟨rfl, rfl⟩ := q2
  have hs2 := hs1
  have hm2 := hm1
  exact zY.lc C kL24 rfl rfl (K _ _ hs2 hm2)
end ZLC
