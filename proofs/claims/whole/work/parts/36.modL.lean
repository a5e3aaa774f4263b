/-! ===== the model: findRounds ===== -/
def chl (F : Nat → RS → RS) (g : Nat → Bool) : Nat → Nat → RS → RS
  | 0, _, R => R
  | f + 1, c, R => chl F g f (c + 1) (if g c = true then F c R else R)
theorem chl_skip (F : Nat → RS → RS) (g : Nat → Bool) : ∀ (e f c : Nat) (R : RS), (∀ x, c ≤ x → x < c + e → g x = false) → chl F g (e + f) c R = chl F g f (c + e) R
  | 0, f, c, R, h => by rw [Nat.zero_add, Nat.add_zero]
  | e + 1, f, c, R, h => by
    have h0 : ¬ g c = true := by rw [h c (Nat.le_refl _) (by omega)]; decide
    rw [show e + 1 + f = (e + f) + 1 by omega]
    show chl F g (e + f) (c + 1) _ = _
    rw [if_neg h0, chl_skip F g e f (c + 1) R (fun x h1 h2 => h x (by omega) (by omega)), show c + 1 + e = c + (e + 1) by omega]
/-- the walk below the level d, r levels above the last -/
def nod (n : Nat) (ld : Nat → Nat) (k : Nat) : Nat → Nat → (Nat → Nat) → (Nat → Int) → (Nat → Int) → RS → RS
  | 0, d, sp, ps, pt, R => cmb k sp (pst ps k (nS ld (sp d) (ps d))) (pst pt k (nT ld (sp d) (pt d))) (nS ld (sp d) (ps d)) (nT ld (sp d) (pt d)) R
  | r + 1, d, sp, ps, pt, R =>
    if nS ld (sp d) (ps d) = 0 then nod n ld k r (d + 1) (pst sp (d + 1) (min (nT ld (sp d) (pt d)).toNat (n - 1))) (pst ps (d + 1) 0) (pst pt (d + 1) (nT ld (sp d) (pt d))) R
    else chl (fun c R => nod n ld k r (d + 1) (pst sp (d + 1) (jth n (nS ld (sp d) (ps d)) c)) (pst ps (d + 1) (nS ld (sp d) (ps d))) (pst pt (d + 1) (nT ld (sp d) (pt d))) R) (fun c => cov ld (sp d) (jth n (nS ld (sp d) (ps d)) c)) n 0 R
theorem ionf_le {n : Nat} {sp : Nat → Nat} {ps pt : Nat → Int} {a b : Int} {k : Nat} (h1 : 1 ≤ k) (hs : ps 0 = 1) (ht : pt 0 = 0) (hn : sp 0 < n) (hb : 0 ≤ b) (h : ionf sp ps pt a b k 0 = true) : a ≤ n * b := by
  obtain ⟨r, rfl⟩ : ∃ r, k = r + 1 := ⟨k - 1, by omega⟩
  unfold ionf at h
  split at h
  next => cases h
  next c =>
    rw [hs, ht, Int.one_mul, Int.zero_mul, Int.add_zero] at c
    have : ((sp 0 : Int) + 1) * b ≤ n * b := Int.mul_le_mul_of_nonneg_right (by omega) hb
    omega
theorem rdp_ok {n A B : Nat} (hB : 0 < B) (hB2 : B ≤ 100000) (hA : A ≤ n * B) : 0 < (rdp A B).2 ∧ (rdp A B).2 ≤ 100000 ∧ (rdp A B).1 ≤ n * (rdp A B).2 := by
  have hg : 0 < Nat.gcd A B := Nat.gcd_pos_of_pos_right _ hB
  have d2 : Nat.gcd A B ∣ B := Nat.gcd_dvd_right _ _
  refine ⟨Nat.div_pos (Nat.le_of_dvd hB d2) hg, Nat.le_trans (Nat.div_le_self _ _) hB2, ?_⟩
  show A / Nat.gcd A B ≤ n * (B / Nat.gcd A B)
  rw [← Nat.mul_div_assoc _ d2]
  exact Nat.div_le_div_right hA
theorem rok_cmb {n : Nat} {R : RS} {C : Nat} (h : rok n R C) {k : Nat} {sp : Nat → Nat} {ps pt : Nat → Int} {s t : Int} (hk : 1 ≤ k) (p0 : ps 0 = 1) (p0t : pt 0 = 0) (hsp : sp 0 < n) (s1 : -15625 ≤ s) (s2 : s ≤ 15625) : rok n (cmb k sp ps pt s t R) (C + 1) := by
  obtain ⟨h1, h2⟩ := h
  have key : ∀ A B : Nat, 0 < B → B ≤ 100000 → A ≤ n * B → rok n (apd R.1 (rdp A B), R.2) (C + 1) := by
    intro A B hB hB2 hA
    unfold apd
    split
    · exact ⟨by show R.1.length ≤ _; omega, h2⟩
    · refine ⟨by show (R.1 ++ [_]).length ≤ _; rw [List.length_append]; simp; omega, fun p hp => ?_⟩
      have hp : p ∈ R.1 ++ [_] := hp
      rcases List.mem_append.mp hp with q | q
      · exact h2 p q
      · rw [List.mem_singleton.mp q]
        exact rdp_ok hB hB2 hA
  unfold cmb
  by_cases e1 : s = 1
  · rw [if_pos e1]
    by_cases e2 : t = 0
    · rw [if_pos e2]
      exact ⟨by show R.1.length ≤ _; omega, h2⟩
    · rw [if_neg e2]
      exact ⟨by omega, h2⟩
  · rw [if_neg e1]
    by_cases e2 : ionf sp ps pt (if s < 1 then t else -t) (if s < 1 then 1 - s else s - 1) k 0 = true
    · rw [if_pos e2]
      have hb : 0 < (if s < 1 then 1 - s else s - 1) := by split <;> omega
      have hb2 : (if s < 1 then 1 - s else s - 1) ≤ 100000 := by split <;> omega
      have l1 := ionf_le hk p0 p0t hsp (by omega) e2
      refine key _ _ (by omega) (by omega) ?_
      generalize (if s < 1 then t else -t) = a at *
      generalize (if s < 1 then 1 - s else s - 1) = b at *
      have eb : b = (b.toNat : Int) := by omega
      rw [eb, ← Int.natCast_mul] at l1
      omega
    · rw [if_neg e2]
      exact ⟨by omega, h2⟩
theorem pbd.s {n : Nat} {ld : Nat → Nat} (h1 : 1 ≤ n) (h5 : n ≤ 5) (hb : ∀ i, i ≤ n → ld i ≤ n) {sp : Nat → Nat} {ps pt : Nat → Int} {d : Nat} (h : pbd n sp ps pt d) {j : Nat} (hj : j < n) (hf : nS ld (sp d) (ps d) = 0 → j = min (nT ld (sp d) (pt d)).toNat (n - 1)) : pbd n (pst sp (d + 1) j) (pst ps (d + 1) (nS ld (sp d) (ps d))) (pst pt (d + 1) (nT ld (sp d) (pt d))) (d + 1) := by
  obtain ⟨a1, a2, a3, a4⟩ := h
  obtain ⟨c1, c2, c3, c4, c5⟩ := a3 d (Nat.le_refl _)
  have B := nST_b h5 hb c1 c2 c3 c4 c5
  refine ⟨by rw [pst_n (by omega)]; exact a1, by rw [pst_n (by omega)]; exact a2, fun q hq => ?_, fun e => ?_⟩
  · by_cases e : q = d + 1
    · rw [e, pst_s, pst_s, pst_s]
      exact ⟨hj, B.1, B.2.1, B.2.2.1, B.2.2.2⟩
    · rw [pst_n e, pst_n e, pst_n e]
      exact a3 q (by omega)
  · rw [pst_s] at e
    rw [pst_s, pst_s]
    have F := nT_flat (s := ps d) h1 hb c1 a4 e
    exact ⟨F.1, F.2, hf e⟩
theorem n_nod (E : zE) {σ : zSt} {m : Nat} (hm : m < 8) {w0 : zWd} (hc0 : zMc w0 σ) {k : Nat} (hk : k ≤ 6) {Post : Option Value → zWd → Prop} (i : Int32) :
    ∀ (r d : Nat), d + r + 1 = k → ∀ (sp : Nat → Nat) (ps pt : Nat → Int) (tr : Nat → Int32) (R : RS) (C : Nat) (w : zWd), zRn w sp ps pt tr (d + 1) (d + 1) R → zFo2 w0 w → tr d = 0 → pbd (σ.1 m) sp ps pt d → rok (σ.1 m) R C → C + 5 ^ r ≤ 29000 →
      (∀ w', zRn w' sp ps pt tr d d (nod (σ.1 m) (σ.2 m) k r d sp ps pt R) → zFo2 w0 w' → rok (σ.1 m) (nod (σ.1 m) (σ.2 m) k r d sp ps pt R) (C + 5 ^ r) → zV E mX4_findRounds 4 Post 38 [.ref 49, .int (nI m), .int (nI k), .int i, .int (iI ((d : Int) - 1))] [] w') →
      zV E mX4_findRounds 4 Post 38 [.ref 49, .int (nI m), .int (nI k), .int i, .int (nI d)] [] w := by
  obtain ⟨v1, v2, v3⟩ := hc0.2.2 m hm
  intro r
  induction r with
  | zero =>
    intro d hdk sp ps pt tr R C w hR hfo htr hp hok hC kk
    obtain ⟨⟨ab, be, h0⟩, -⟩ := id hR
    obtain ⟨c1, c2, c3, c4, c5⟩ := hp.2.2.1 d (Nat.le_refl _)
    have B := nST_b v2 v3 c1 c2 c3 c4 c5
    have P7 := p5_le (q := d + 1) (by omega)
    refine zV.run kX4_findRounds 1 rfl ?_
    refine zV.iff kX4_findRounds (cd := .lt) rfl (fun q => absurd ((zlt _ _ (nI_iI d) (show (0 : Int32) = iI 0 from rfl) (by omega) (by omega) (by omega) (by omega)).mp q) (by omega)) ?_
    refine zV.run kX4_findRounds 4 rfl ?_
    refine zV.cv kX4_findRounds rfl lX4_138 (n_goOn E hm (hfo.mc hc0) hR (by omega) hk hp ⟨by have := hok.1; omega, hok.2⟩ (c := 0) htr (by omega)) (by decide) rfl (h0) rfl rfl rfl (Nat.le_of_ble_eq_true rfl) ?_
    rintro _ w2 ⟨hf2, hq⟩
    rcases hq with ⟨-, rfl, hR2⟩ | hq | hq | hq
    · skip
      refine zV.run kX4_findRounds 2 rfl ?_
      exact kk w2 (hR2.c (by omega) (by omega) (fun _ _ => rfl) (fun _ _ => rfl) (fun _ _ => rfl) (fun _ _ => rfl)) (hfo.t hf2) (rok_cmb hok (by omega) (by rw [pst_n (by omega)]; exact hp.1) (by rw [pst_n (by omega)]; exact hp.2.1) (hp.2.2.1 0 (by omega)).1 (by omega) (by omega))
    · exact absurd hq.1 (by omega)
    · exact absurd hq.1 (by omega)
    · exact absurd hq.1 (by omega)
  | succ r ih =>
    intro d hdk sp ps pt tr R C w hR hfo htr hp hok hC kk
    obtain ⟨⟨ab, be, h0⟩, -⟩ := id hR
    have hps : ∀ q, q ≤ d → sp q < σ.1 m := fun q hq => (hp.2.2.1 q hq).1
    have P5 : 5 ^ (r + 1) = 5 * 5 ^ r := p5_s r
    have P1 := p5_1 r
    by_cases hs : nS (σ.2 m) (sp d) (ps d) = 0
    · have en : nod (σ.1 m) (σ.2 m) k (r + 1) d sp ps pt R = nod (σ.1 m) (σ.2 m) k r (d + 1) (pst sp (d + 1) (min (nT (σ.2 m) (sp d) (pt d)).toNat (σ.1 m - 1))) (pst ps (d + 1) 0) (pst pt (d + 1) (nT (σ.2 m) (sp d) (pt d))) R := if_pos hs
      rw [en] at kk
      have hp2 := hp.s (ld := σ.2 m) v1 v2 v3 (j := min (nT (σ.2 m) (sp d) (pt d)).toNat (σ.1 m - 1)) (by omega) (fun _ => rfl)
      rw [hs] at hp2
      refine zV.run kX4_findRounds 1 rfl ?_
      refine zV.iff kX4_findRounds (cd := .lt) rfl (fun q => absurd ((zlt _ _ (nI_iI d) (show (0 : Int32) = iI 0 from rfl) (by omega) (by omega) (by omega) (by omega)).mp q) (by omega)) ?_
      refine zV.run kX4_findRounds 4 rfl ?_
      refine zV.cv kX4_findRounds rfl lX4_138 (n_goOn E hm (hfo.mc hc0) hR (by omega) hk hp ⟨by have := hok.1; omega, hok.2⟩ (c := 0) htr (by omega)) (by decide) rfl (h0) rfl rfl rfl (Nat.le_of_ble_eq_true rfl) ?_
      rintro _ w2 ⟨hf2, hq⟩
      rcases hq with hq | ⟨-, -, -, rfl, hR2⟩ | ⟨-, -, hq, -⟩ | ⟨-, hq, -⟩
      · exact absurd hq.1 (by omega)
      · skip
        refine zV.run kX4_findRounds 2 rfl ?_
        refine ih (d + 1) (by omega) _ _ _ _ R C w2 hR2 (hfo.t hf2) pst_s hp2 hok (by omega) (fun w3 hR3 hf3 hok3 => ?_)
        -- back at the level d: tried, and up
        have hR3' : zRn w3 sp ps pt (pst tr d 1) (d + 1) (d + 1) _ := hR3.c (Nat.le_refl _) (Nat.le_refl _) (fun q hq => pst_n (by omega)) (fun q hq => pst_n (by omega)) (fun q hq => pst_n (by omega)) (fun q hq => pst_n (by omega))
        obtain ⟨⟨ab3, be3, h03⟩, -⟩ := id hR3'
        rw [show ((d + 1 : Nat) : Int) - 1 = (d : Int) by omega, ← nI_iI]
        refine zV.run kX4_findRounds 1 rfl ?_
        refine zV.iff kX4_findRounds (cd := .lt) rfl (fun q => absurd ((zlt _ _ (nI_iI d) (show (0 : Int32) = iI 0 from rfl) (by omega) (by omega) (by omega) (by omega)).mp q) (by omega)) ?_
        refine zV.run kX4_findRounds 4 rfl ?_
        refine zV.cv kX4_findRounds rfl lX4_138 (n_goOn E hm (hf3.mc hc0) hR3' (by omega) hk hp ⟨by have := hok3.1; omega, hok3.2⟩ (c := 1) (pst_s (f := tr) (a := d) (x := 1)) (by omega)) (by decide) rfl (h03) rfl rfl rfl (Nat.le_of_ble_eq_true rfl) ?_
        rintro _ w4 ⟨hf4, hq⟩
        rcases hq with hq | ⟨-, -, hq, -⟩ | ⟨-, -, -, rfl, hR4⟩ | ⟨-, hq, -⟩
        · exact absurd hq.1 (by omega)
        · rw [pst_s] at hq
          exact absurd hq (by decide)
        · skip
          refine zV.run kX4_findRounds 2 rfl ?_
          exact kk w4 (hR4.c (by omega) (by omega) (fun _ _ => rfl) (fun _ _ => rfl) (fun _ _ => rfl) (fun q hq => pst_n (by omega))) (hf3.t hf4) ⟨by have := hok3.1; omega, hok3.2⟩
        · exact absurd hs hq
      · exact absurd htr hq
      · exact absurd hs hq
    · obtain ⟨F, eF⟩ : ∃ F, F = fun c R => nod (σ.1 m) (σ.2 m) k r (d + 1) (pst sp (d + 1) (jth (σ.1 m) (nS (σ.2 m) (sp d) (ps d)) c)) (pst ps (d + 1) (nS (σ.2 m) (sp d) (ps d))) (pst pt (d + 1) (nT (σ.2 m) (sp d) (pt d))) R := ⟨_, rfl⟩
      obtain ⟨g, eg⟩ : ∃ g, g = fun c => cov (σ.2 m) (sp d) (jth (σ.1 m) (nS (σ.2 m) (sp d) (ps d)) c) := ⟨_, rfl⟩
      have en : nod (σ.1 m) (σ.2 m) k (r + 1) d sp ps pt R = chl F g (σ.1 m) 0 R := by rw [eF, eg]; exact if_neg hs
      rw [en] at kk
      have loop : ∀ (f c : Nat) (R' : RS) (w' : zWd) (tr' : Nat → Int32), c + f = σ.1 m → zRn w' sp ps pt tr' (d + 1) (d + 1) R' → tr' d = nI c → (∀ q, q < d → tr' q = tr q) → zFo2 w0 w' → rok (σ.1 m) R' (C + c * 5 ^ r) → chl F g f c R' = chl F g (σ.1 m) 0 R → zV E mX4_findRounds 4 Post 38 [.ref 49, .int (nI m), .int (nI k), .int i, .int (nI d)] [] w' := by
        intro f
        induction f using Nat.strongRecOn with
        | _ f ihf =>
          intro c R' w' tr' hcf hR' htr' htq hf' hok' hch
          obtain ⟨⟨ab', be', h0'⟩, -⟩ := id hR'
          have hcC : C + c * 5 ^ r ≤ 29000 := by
            have : c * 5 ^ r ≤ 5 * 5 ^ r := Nat.mul_le_mul_right _ (by omega)
            omega
          refine zV.run kX4_findRounds 1 rfl ?_
          refine zV.iff kX4_findRounds (cd := .lt) rfl (fun q => absurd ((zlt _ _ (nI_iI d) (show (0 : Int32) = iI 0 from rfl) (by omega) (by omega) (by omega) (by omega)).mp q) (by omega)) ?_
          refine zV.run kX4_findRounds 4 rfl ?_
          refine zV.cv kX4_findRounds rfl lX4_138 (n_goOn E hm (hf'.mc hc0) hR' (by omega) hk hp ⟨by have := hok'.1; omega, hok'.2⟩ (c := c) htr' (by omega)) (by decide) rfl (h0') rfl rfl rfl (Nat.le_of_ble_eq_true rfl) ?_
          rintro _ w2 ⟨hf2, hq⟩
          rcases hq with hq | ⟨-, hq, -⟩ | ⟨-, hq, -⟩ | ⟨-, -, c1, c', q1, q2, q3, q4, q5⟩
          · exact absurd hq.1 (by omega)
          · exact absurd hq hs
          · exact absurd hq hs
          · rw [htr'] at q1
            have q1 := (nI_eq (by omega) (by omega)).mp q1
            subst q1
            have hsk : ∀ x, c ≤ x → x < c' → g x = false := fun x h1 h2 => by rw [eg]; exact q4 x h1 h2
            rcases q5 with ⟨a1, a2, rfl, hR2⟩ | ⟨a1, rfl, hR2⟩
            · have hgc : g c' = true := by rw [eg]; exact a2
              have e2 : chl F g f c R' = chl F g (σ.1 m - c' - 1) (c' + 1) (F c' R') := by
                have := chl_skip F g (c' - c) (σ.1 m - c') c R' (fun x h1 h2 => hsk x h1 (by omega))
                rw [show c' - c + (σ.1 m - c') = f by omega, show c + (c' - c) = c' by omega, show σ.1 m - c' = (σ.1 m - c' - 1) + 1 by omega] at this
                rw [this]
                show chl F g (σ.1 m - c' - 1) (c' + 1) (if g c' = true then F c' R' else R') = _
                rw [if_pos hgc]
              have hj : jth (σ.1 m) (nS (σ.2 m) (sp d) (ps d)) c' < σ.1 m := by unfold jth; split <;> omega
              have hcc : c * 5 ^ r ≤ c' * 5 ^ r := Nat.mul_le_mul_right _ q3
              have hcc2 : (c' + 1) * 5 ^ r ≤ 5 * 5 ^ r := Nat.mul_le_mul_right _ (by omega)
              have hcc3 : (c' + 1) * 5 ^ r = c' * 5 ^ r + 5 ^ r := Nat.succ_mul _ _
              refine zV.run kX4_findRounds 2 rfl ?_
              refine ih (d + 1) (by omega) _ _ _ _ R' (C + c * 5 ^ r) w2 hR2 (hf'.t hf2) pst_s (hp.s (ld := σ.2 m) v1 v2 v3 hj (fun q => absurd q hs)) hok' (by omega) (fun w3 hR3 hf3 hok3 => ?_)
              rw [show ((d + 1 : Nat) : Int) - 1 = (d : Int) by omega, ← nI_iI]
              have eFc : nod (σ.1 m) (σ.2 m) k r (d + 1) (pst sp (d + 1) (jth (σ.1 m) (nS (σ.2 m) (sp d) (ps d)) c')) (pst ps (d + 1) (nS (σ.2 m) (sp d) (ps d))) (pst pt (d + 1) (nT (σ.2 m) (sp d) (pt d))) R' = F c' R' := by rw [eF]
              rw [eFc] at hR3 hok3
              refine ihf (σ.1 m - c' - 1) (by omega) (c' + 1) (F c' R') w3 (pst tr' d (nI (c' + 1))) (by omega) (hR3.c (Nat.le_refl _) (Nat.le_refl _) (fun q hq => pst_n (by omega)) (fun q hq => pst_n (by omega)) (fun q hq => pst_n (by omega)) (fun q hq => pst_n (by omega))) pst_s (fun q hq => by rw [pst_n (by omega)]; exact htq q hq) hf3 ⟨by have := hok3.1; omega, hok3.2⟩ (by rw [← e2]; exact hch)
            · have e2 : chl F g f c R' = R' := by
                have := chl_skip F g f 0 c R' (fun x h1 h2 => hsk x h1 (by omega))
                rw [Nat.add_zero] at this
                rw [this]; rfl
              rw [← hch, e2] at kk
              have hcc : c * 5 ^ r ≤ 5 * 5 ^ r := Nat.mul_le_mul_right _ (by omega)
              refine zV.run kX4_findRounds 2 rfl ?_
              exact kk w2 (hR2.c (by omega) (by omega) (fun _ _ => rfl) (fun _ _ => rfl) (fun _ _ => rfl) (fun q hq => by rw [pst_n (by omega)]; exact htq q hq)) (hf'.t hf2) ⟨by have := hok'.1; omega, hok'.2⟩
      exact loop (σ.1 m) 0 R w tr (by omega) hR htr (fun _ _ => rfl) hfo ⟨by have := hok.1; omega, hok.2⟩ rfl
/-- what is found for the spans below i -/
def fnd (n : Nat) (ld : Nat → Nat) (k : Nat) : Nat → RS
  | 0 => ([], false, false)
  | i + 1 => nod n ld k (k - 1) 0 (pst (fun _ => 0) 0 i) (pst (fun _ => 0) 0 1) (pst (fun _ => 0) 0 0) (fnd n ld k i)
theorem zRn.z {w : zWd} {sp : Nat → Nat} {ps pt : Nat → Int} {tr : Nat → Int32} {R : RS} (h : zRn w sp ps pt tr 0 0 R) : zRn w (fun _ => 0) (fun _ => 0) (fun _ => 0) (fun _ => 0) 0 0 R := h.c (Nat.le_refl _) (Nat.le_refl _) (fun q hq => absurd hq (by omega)) (fun q hq => absurd hq (by omega)) (fun q hq => absurd hq (by omega)) (fun q hq => absurd hq (by omega))
def zFd2 (w : zWd) (R : RS) : Prop := zRn w (fun _ => 0) (fun _ => 0) (fun _ => 0) (fun _ => 0) 0 0 R
theorem n_findRounds_l (E : zE) {σ : zSt} {m : Nat} (hm : m < 8) {w0 : zWd} (hc0 : zMc w0 σ) {k : Nat} (h1 : 1 ≤ k) (hk : k ≤ 6) : ∀ (f i : Nat) (w : zWd) (z4 : Value), i + f = σ.1 m → zFo2 w0 w → zFd2 w (fnd (σ.1 m) (σ.2 m) k i) → rok (σ.1 m) (fnd (σ.1 m) (σ.2 m) k i) (i * 3125) → zV E mX4_findRounds 4 (fun r w' => r = none ∧ zFo2 w0 w' ∧ zFd2 w' (fnd (σ.1 m) (σ.2 m) k (σ.1 m)) ∧ rok (σ.1 m) (fnd (σ.1 m) (σ.2 m) k (σ.1 m)) 20000) 17 [.ref 49, .int (nI m), .int (nI k), .int (nI i), z4] [] w := by
  obtain ⟨v1, v2, v3⟩ := hc0.2.2 m hm
  intro f
  induction f with
  | zero =>
    intro i w z4 hi hfo hR hok
    have e : i = σ.1 m := by omega
    subst e
    obtain ⟨⟨ab, be, h0⟩, -⟩ := id hR
    obtain ⟨⟨sz, h50, ez⟩, -, -⟩ := hfo.mc hc0
    refine zV.run kX4_findRounds 2 rfl ?_
    refine zV.gf kX4_findRounds rfl fX4_7 (h0) rfl ?_
    refine zV.run kX4_findRounds 1 rfl ?_
    refine zV.ial kX4_findRounds rfl (h50) (m) (rfl) (hm) (by decide) ?_
    rw [ez m hm]
    refine zV.ict kX4_findRounds (cd := .ge) rfl (Int32.le_refl _) ?_
    exact zV.vret kX4_findRounds rfl rfl (⟨rfl, hfo, hR, by have := hok.1; omega, hok.2⟩)
  | succ f ih =>
    intro i w z4 hi hfo hR hok
    obtain ⟨⟨ab, be, h0⟩, -⟩ := id hR
    obtain ⟨⟨sz, h50, ez⟩, -, -⟩ := hfo.mc hc0
    refine zV.run kX4_findRounds 2 rfl ?_
    refine zV.gf kX4_findRounds rfl fX4_7 (h0) rfl ?_
    refine zV.run kX4_findRounds 1 rfl ?_
    refine zV.ial kX4_findRounds rfl (h50) (m) (rfl) (hm) (by decide) ?_
    rw [ez m hm]
    refine zV.icf kX4_findRounds (cd := .ge) rfl (nI_ge (by omega) (by omega)) ?_
    refine zV.run kX4_findRounds 7 rfl ?_
    refine zV.cv kX4_findRounds rfl lX4_134 (n_enters E (d := 0) hR (by omega) i 1 0) (by decide) rfl (h0) rfl rfl rfl (Nat.le_of_ble_eq_true rfl) ?_
    rintro _ w2 ⟨rfl, hR2, hf2⟩
    have pb : pbd (σ.1 m) (pst (fun _ => 0) 0 i) (pst (fun _ => 0) 0 1) (pst (fun _ => 0) 0 0) 0 := by
      refine ⟨pst_s, pst_s, fun q hq => ?_, fun e => ?_⟩
      · rw [show q = 0 by omega, pst_s, pst_s, pst_s]
        exact ⟨by omega, by decide, by decide, by decide, by decide⟩
      · rw [pst_s] at e
        exact absurd e (by decide)
    have P : 5 ^ (k - 1) ≤ 3125 := by
      have e : k = 1 ∨ k = 2 ∨ k = 3 ∨ k = 4 ∨ k = 5 ∨ k = 6 := by omega
      rcases e with rfl | rfl | rfl | rfl | rfl | rfl <;> decide
    refine n_nod E hm hc0 hk (nI i) (k - 1) 0 (by omega) _ _ _ _ _ (i * 3125) w2 hR2 (hfo.t hf2) pst_s pb hok (by omega) (fun w3 hR3 hf3 hok3 => ?_)
    have en : nod (σ.1 m) (σ.2 m) k (k - 1) 0 (pst (fun _ => 0) 0 i) (pst (fun _ => 0) 0 1) (pst (fun _ => 0) 0 0) (fnd (σ.1 m) (σ.2 m) k i) = fnd (σ.1 m) (σ.2 m) k (i + 1) := rfl
    rw [en] at hR3 hok3
    refine zV.run kX4_findRounds 1 rfl ?_
    refine zV.ift kX4_findRounds (cd := .lt) rfl (show zIf .lt (iI (((0 : Nat) : Int) - 1)) from by show iI (((0 : Nat) : Int) - 1) < 0; decide) ?_
    refine zV.run kX4_findRounds 2 rfl ?_
    rw [nI_1]
    exact ih (i + 1) w3 _ (by omega) hf3 hR3.z ⟨by have := hok3.1; omega, hok3.2⟩
theorem n_findRounds (E : zE) {σ : zSt} {m : Nat} (hm : m < 8) {w : zWd} (hs : zMs w σ) {k : Nat} (h1 : 1 ≤ k) (hk : k ≤ 6) : zOk E mX4_findRounds 4 [.ref 49, .int (nI m), .int (nI k)] w (fun r w' => r = none ∧ zFo2 w w' ∧ zFd2 w' (fnd (σ.1 m) (σ.2 m) k (σ.1 m)) ∧ rok (σ.1 m) (fnd (σ.1 m) (σ.2 m) k (σ.1 m)) 20000) := by
  obtain ⟨⟨ab, be, rm, en, ej, h0⟩, hc, ⟨f2, g2⟩, ⟨f3, g3⟩, ⟨f4, g4⟩, ⟨f5, g5⟩, ⟨f6, g6⟩, ⟨f7, g7⟩, ⟨f8, g8⟩, ⟨f9, g9⟩, ⟨f0, g0⟩⟩ := hs
  refine zOk.of (by decide +kernel) (Nat.le_of_ble_eq_true rfl) ?_
  have i1 : zIs (va_up w 49 (zMo ab be 0 en ej)) 49 (zMo ab be 0 en ej) := zIs.s h0.1
  have i2 : zIs (va_up (va_up w 49 (zMo ab be 0 en ej)) 49 (zMo ab be 0 0 ej)) 49 (zMo ab be 0 0 ej) := zIs.s i1.1
  have i3 : zIs (va_up (va_up (va_up w 49 (zMo ab be 0 en ej)) 49 (zMo ab be 0 0 ej)) 49 (zMo ab be 0 0 0)) 49 (zMo ab be 0 0 0) := zIs.s i2.1
  refine zV.run kX4_findRounds 2 rfl ?_
  refine zV.pfi kX4_findRounds rfl pX4_130 (h0) (Nat.le_of_ble_eq_true rfl) ?_
  refine zV.run kX4_findRounds 2 rfl ?_
  refine zV.pfz kX4_findRounds rfl pX4_120 (Or.inl rfl) (i1) (Nat.le_of_ble_eq_true rfl) ?_
  refine zV.run kX4_findRounds 2 rfl ?_
  refine zV.pfz kX4_findRounds rfl pX4_124 (Or.inl rfl) (i2) (Nat.le_of_ble_eq_true rfl) ?_
  refine zV.run kX4_findRounds 2 rfl ?_
  have kq : ∀ (c1 c2 c3 : va_E) (q : Nat), q ≠ 49 → va_up (va_up (va_up w 49 c1) 49 c2) 49 c3 q = w q := fun c1 c2 c3 q q1 => by rw [zup_ne q1, zup_ne q1, zup_ne q1]
  have hfo : ∀ c1 c2 c3 : va_E, zFo2 w (va_up (va_up (va_up w 49 c1) 49 c2) 49 c3) := fun c1 c2 c3 q hq => kq c1 c2 c3 q (by omega)
  refine n_findRounds_l E hm hc h1 hk (σ.1 m) 0 _ _ (by omega) (hfo _ _ _) ?_ ⟨Nat.le_refl _, fun p hp => by cases hp⟩
  refine ⟨⟨ab, be, i3⟩, ⟨f3, g3.k (kq _ _ _ _ (by decide)), fun i p hp => by cases hp⟩, ⟨f4, g4.k (kq _ _ _ _ (by decide)), fun i p hp => by cases hp⟩, ⟨f5, g5.k (kq _ _ _ _ (by decide)), fun q hq => absurd hq (by omega)⟩, ⟨f6, g6.k (kq _ _ _ _ (by decide)), fun q hq => absurd hq (by omega)⟩, ⟨f9, g9.k (kq _ _ _ _ (by decide)), fun q hq => absurd hq (by omega)⟩, ⟨f0, g0.k (kq _ _ _ _ (by decide)), fun q hq => absurd hq (by omega)⟩⟩
/-- the model is whole again -/
theorem zFd2.ms {w w' : zWd} {σ : zSt} {R : RS} (h : zFd2 w' R) (hf : zFo2 w w') (hs : zMs w σ) : zMs w' σ ∧ zFm w w' := by
  obtain ⟨-, hc, ⟨f2, g2⟩, -, -, -, -, ⟨f7, g7⟩, ⟨f8, g8⟩, -, -⟩ := hs
  obtain ⟨⟨ab, be, h0⟩, ⟨fa, g3, e3⟩, ⟨fb, g4, e4⟩, ⟨pS, g5, e5⟩, ⟨pT, g6, e6⟩, ⟨sS, g9, e9⟩, ⟨tS, g10, e10⟩⟩ := h
  exact ⟨⟨⟨_, _, _, _, _, h0⟩, hf.mc hc, ⟨f2, g2.k (hf _ (by omega))⟩, ⟨_, g3⟩, ⟨_, g4⟩, ⟨_, g5⟩, ⟨_, g6⟩, ⟨f7, g7.k (hf _ (by omega))⟩, ⟨f8, g8.k (hf _ (by omega))⟩, ⟨_, g9⟩, ⟨_, g10⟩⟩, fun a ha => hf a (by omega)⟩
