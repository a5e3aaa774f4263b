/-! ===== the model: findRounds ===== -/
def chl (F : Nat → RS → RS) (g : Nat → Bool) : Nat → Nat → RS → RS
  | 0, _, R => R
  | f + 1, c, R => chl F g f (c + 1) (if g c = true then F c R else R)
theorem chl_skip (F : Nat → RS → RS) (g : Nat → Bool) : ∀ (e f c : Nat) (R : RS), (∀ x, c ≤ x → x < c + e → g x = false) → chl F g (e + f) c R = chl F g f (c + e) R
  | 0, f, c, R, h => by rw [Nat.zero_add, Nat.add_zero]
  | e + 1, f, c, R, h => by
    have h0 : ¬ g c = true := by rw [h c (Nat.le_refl _) (by omega)]; decide
    rw [show e + 1 + f = (e + f) + 1 by omega]
    show chl F g (e + f) (c + 1) _ = _
    rw [if_neg h0, chl_skip F g e f (c + 1) R (fun x h1 h2 => h x (by omega) (by omega)), show c + 1 + e = c + (e + 1) by omega]
/-- the walk below the level d, r levels above the last -/
def nod (n : Nat) (ld : Nat → Nat) (k : Nat) : Nat → Nat → (Nat → Nat) → (Nat → Int) → (Nat → Int) → RS → RS
  | 0, d, sp, ps, pt, R => cmb k sp (pst ps k (nS ld (sp d) (ps d))) (pst pt k (nT ld (sp d) (pt d))) (nS ld (sp d) (ps d)) (nT ld (sp d) (pt d)) R
  | r + 1, d, sp, ps, pt, R =>
    if nS ld (sp d) (ps d) = 0 then nod n ld k r (d + 1) (pst sp (d + 1) (min (nT ld (sp d) (pt d)).toNat (n - 1))) (pst ps (d + 1) 0) (pst pt (d + 1) (nT ld (sp d) (pt d))) R
    else chl (fun c R => nod n ld k r (d + 1) (pst sp (d + 1) (jth n (nS ld (sp d) (ps d)) c)) (pst ps (d + 1) (nS ld (sp d) (ps d))) (pst pt (d + 1) (nT ld (sp d) (pt d))) R) (fun c => cov ld (sp d) (jth n (nS ld (sp d) (ps d)) c)) n 0 R
theorem rok_cmb {R : RS} {C : Nat} (h : rok R C) {k : Nat} {sp : Nat → Nat} {ps pt : Nat → Int} {s t : Int} (hs : bdd s) (ht : bdd t) : rok (cmb k sp ps pt s t R) (C + 1) := by
  obtain ⟨h1, h2⟩ := h
  obtain ⟨s1, s2⟩ := hs
  obtain ⟨t1, t2⟩ := ht
  have key : ∀ A B : Nat, A < 2 ^ 40 → B < 2 ^ 40 → rok (apd R.1 (rdp A B), R.2) (C + 1) := by
    intro A B hA hB
    unfold apd
    split
    · exact ⟨by show R.1.length ≤ _; omega, h2⟩
    · refine ⟨by show (R.1 ++ [_]).length ≤ _; rw [List.length_append]; simp; omega, fun p hp => ?_⟩
      have hp : p ∈ R.1 ++ [_] := hp
      rcases List.mem_append.mp hp with q | q
      · exact h2 p q
      · rw [List.mem_singleton.mp q]
        have b1 : (rdp A B).1 ≤ A := Nat.div_le_self _ _
        have b2 : (rdp A B).2 ≤ B := Nat.div_le_self _ _
        exact ⟨by omega, by omega⟩
  unfold cmb
  by_cases e1 : s = 1
  · rw [if_pos e1]
    by_cases e2 : t = 0
    · rw [if_pos e2]
      exact ⟨by show R.1.length ≤ _; omega, h2⟩
    · rw [if_neg e2]
      exact ⟨by omega, h2⟩
  · rw [if_neg e1]
    by_cases e2 : ionf sp ps pt (if s < 1 then t else -t) (if s < 1 then 1 - s else s - 1) k 0 = true
    · rw [if_pos e2]
      exact key _ _ (by split <;> omega) (by split <;> omega)
    · rw [if_neg e2]
      exact ⟨by omega, h2⟩
theorem pbd.s {n : Nat} {ld : Nat → Nat} (h1 : 1 ≤ n) (h5 : n ≤ 5) (hb : ∀ i, i ≤ n → ld i ≤ n) {sp : Nat → Nat} {ps pt : Nat → Int} {d : Nat} (h : pbd n sp ps pt d) {j : Nat} (hj : j < n) (hf : nS ld (sp d) (ps d) = 0 → j = min (nT ld (sp d) (pt d)).toNat (n - 1)) : pbd n (pst sp (d + 1) j) (pst ps (d + 1) (nS ld (sp d) (ps d))) (pst pt (d + 1) (nT ld (sp d) (pt d))) (d + 1) := by
  obtain ⟨a1, a2, a3, a4⟩ := h
  obtain ⟨c1, c2, c3, c4, c5⟩ := a3 d (Nat.le_refl _)
  have B := nST_b h5 hb c1 c2 c3 c4 c5
  refine ⟨by rw [pst_n (by omega)]; exact a1, by rw [pst_n (by omega)]; exact a2, fun q hq => ?_, fun e => ?_⟩
  · by_cases e : q = d + 1
    · rw [e, pst_s, pst_s, pst_s]
      exact ⟨hj, B.1, B.2.1, B.2.2.1, B.2.2.2⟩
    · rw [pst_n e, pst_n e, pst_n e]
      exact a3 q (by omega)
  · rw [pst_s] at e
    rw [pst_s, pst_s]
    have F := nT_flat (s := ps d) h1 hb c1 a4 e
    exact ⟨F.1, F.2, hf e⟩
theorem n_nod (E : zE) {σ : zSt} {m : Nat} (hm : m < 8) {w0 : zWd} (hc0 : zMc w0 σ) {k : Nat} (hk : k ≤ 6) {Post : Option Value → zWd → Prop} (i : Int32) :
    ∀ (r d : Nat), d + r + 1 = k → ∀ (sp : Nat → Nat) (ps pt : Nat → Int) (tr : Nat → Int32) (R : RS) (C : Nat) (w : zWd), zRn w sp ps pt tr (d + 1) (d + 1) R → zFo2 w0 w → tr d = 0 → pbd (σ.1 m) sp ps pt d → rok R C → C + 5 ^ r ≤ 29000 →
      (∀ w', zRn w' sp ps pt tr d d (nod (σ.1 m) (σ.2 m) k r d sp ps pt R) → zFo2 w0 w' → rok (nod (σ.1 m) (σ.2 m) k r d sp ps pt R) (C + 5 ^ r) → zV E mX4_findRounds 4 Post 38 [.ref 49, .int (nI m), .int (nI k), .int i, .int (iI ((d : Int) - 1))] [] w') →
      zV E mX4_findRounds 4 Post 38 [.ref 49, .int (nI m), .int (nI k), .int i, .int (nI d)] [] w := by
  obtain ⟨v1, v2, v3⟩ := hc0.2.2 m hm
  intro r
  induction r with
  | zero =>
    intro d hdk sp ps pt tr R C w hR hfo htr hp hok hC kk
    obtain ⟨⟨ab, be, h0⟩, -⟩ := id hR
    obtain ⟨c1, c2, c3, c4, c5⟩ := hp.2.2.1 d (Nat.le_refl _)
    have B := nST_b v2 v3 c1 c2 c3 c4 c5
    have P7 := p5_le (q := d + 1) (by omega)
    refine zV.run kX4_findRounds 1 rfl ?_
    refine zV.iff kX4_findRounds (cd := .lt) rfl (fun q => absurd ((zlt _ _ (nI_iI d) (show (0 : Int32) = iI 0 from rfl) (by omega) (by omega) (by omega) (by omega)).mp q) (by omega)) ?_
    refine zV.run kX4_findRounds 4 rfl ?_
    refine zV.cv kX4_findRounds rfl lX4_138 (n_goOn E hm (hfo.mc hc0) hR (by omega) hk hp ⟨by have := hok.1; omega, hok.2⟩ (c := 0) htr (by omega)) (by decide) rfl (h0) rfl rfl rfl (Nat.le_of_ble_eq_true rfl) ?_
    rintro _ w2 ⟨hf2, hq⟩
    rcases hq with ⟨-, rfl, hR2⟩ | hq | hq | hq
    · skip
      refine zV.run kX4_findRounds 2 rfl ?_
      exact kk w2 (hR2.c (by omega) (by omega) (fun _ _ => rfl) (fun _ _ => rfl) (fun _ _ => rfl) (fun _ _ => rfl)) (hfo.t hf2) (rok_cmb hok ⟨by omega, by omega⟩ ⟨by omega, by omega⟩)
    · exact absurd hq.1 (by omega)
    · exact absurd hq.1 (by omega)
    · exact absurd hq.1 (by omega)
  | succ r ih =>
    intro d hdk sp ps pt tr R C w hR hfo htr hp hok hC kk
    obtain ⟨⟨ab, be, h0⟩, -⟩ := id hR
    have hps : ∀ q, q ≤ d → sp q < σ.1 m := fun q hq => (hp.2.2.1 q hq).1
    have P5 : 5 ^ (r + 1) = 5 * 5 ^ r := p5_s r
    have P1 := p5_1 r
    by_cases hs : nS (σ.2 m) (sp d) (ps d) = 0
    · have en : nod (σ.1 m) (σ.2 m) k (r + 1) d sp ps pt R = nod (σ.1 m) (σ.2 m) k r (d + 1) (pst sp (d + 1) (min (nT (σ.2 m) (sp d) (pt d)).toNat (σ.1 m - 1))) (pst ps (d + 1) 0) (pst pt (d + 1) (nT (σ.2 m) (sp d) (pt d))) R := if_pos hs
      rw [en] at kk
      have hp2 := hp.s (ld := σ.2 m) v1 v2 v3 (j := min (nT (σ.2 m) (sp d) (pt d)).toNat (σ.1 m - 1)) (by omega) (fun _ => rfl)
      rw [hs] at hp2
      refine zV.run kX4_findRounds 1 rfl ?_
      refine zV.iff kX4_findRounds (cd := .lt) rfl (fun q => absurd ((zlt _ _ (nI_iI d) (show (0 : Int32) = iI 0 from rfl) (by omega) (by omega) (by omega) (by omega)).mp q) (by omega)) ?_
      refine zV.run kX4_findRounds 4 rfl ?_
      refine zV.cv kX4_findRounds rfl lX4_138 (n_goOn E hm (hfo.mc hc0) hR (by omega) hk hp ⟨by have := hok.1; omega, hok.2⟩ (c := 0) htr (by omega)) (by decide) rfl (h0) rfl rfl rfl (Nat.le_of_ble_eq_true rfl) ?_
      rintro _ w2 ⟨hf2, hq⟩
      rcases hq with hq | ⟨-, -, -, rfl, hR2⟩ | ⟨-, -, hq, -⟩ | ⟨-, hq, -⟩
      · exact absurd hq.1 (by omega)
      · skip
        refine zV.run kX4_findRounds 2 rfl ?_
        refine ih (d + 1) (by omega) _ _ _ _ R C w2 hR2 (hfo.t hf2) pst_s hp2 hok (by omega) (fun w3 hR3 hf3 hok3 => ?_)
        -- back at the level d: tried, and up
        have hR3' : zRn w3 sp ps pt (pst tr d 1) (d + 1) (d + 1) _ := hR3.c (Nat.le_refl _) (Nat.le_refl _) (fun q hq => pst_n (by omega)) (fun q hq => pst_n (by omega)) (fun q hq => pst_n (by omega)) (fun q hq => pst_n (by omega))
        obtain ⟨⟨ab3, be3, h03⟩, -⟩ := id hR3'
        rw [show ((d + 1 : Nat) : Int) - 1 = (d : Int) by omega, ← nI_iI]
        refine zV.run kX4_findRounds 1 rfl ?_
        refine zV.iff kX4_findRounds (cd := .lt) rfl (fun q => absurd ((zlt _ _ (nI_iI d) (show (0 : Int32) = iI 0 from rfl) (by omega) (by omega) (by omega) (by omega)).mp q) (by omega)) ?_
        refine zV.run kX4_findRounds 4 rfl ?_
        refine zV.cv kX4_findRounds rfl lX4_138 (n_goOn E hm (hf3.mc hc0) hR3' (by omega) hk hp ⟨by have := hok3.1; omega, hok3.2⟩ (c := 1) (pst_s (f := tr) (a := d) (x := 1)) (by omega)) (by decide) rfl (h03) rfl rfl rfl (Nat.le_of_ble_eq_true rfl) ?_
        rintro _ w4 ⟨hf4, hq⟩
        rcases hq with hq | ⟨-, -, hq, -⟩ | ⟨-, -, -, rfl, hR4⟩ | ⟨-, hq, -⟩
        · exact absurd hq.1 (by omega)
        · rw [pst_s] at hq
          exact absurd hq (by decide)
        · skip
          refine zV.run kX4_findRounds 2 rfl ?_
          exact kk w4 (hR4.c (by omega) (by omega) (fun _ _ => rfl) (fun _ _ => rfl) (fun _ _ => rfl) (fun q hq => pst_n (by omega))) (hf3.t hf4) ⟨by have := hok3.1; omega, hok3.2⟩
        · exact absurd hs hq
      · exact absurd htr hq
      · exact absurd hs hq
    · obtain ⟨F, eF⟩ : ∃ F, F = fun c R => nod (σ.1 m) (σ.2 m) k r (d + 1) (pst sp (d + 1) (jth (σ.1 m) (nS (σ.2 m) (sp d) (ps d)) c)) (pst ps (d + 1) (nS (σ.2 m) (sp d) (ps d))) (pst pt (d + 1) (nT (σ.2 m) (sp d) (pt d))) R := ⟨_, rfl⟩
      obtain ⟨g, eg⟩ : ∃ g, g = fun c => cov (σ.2 m) (sp d) (jth (σ.1 m) (nS (σ.2 m) (sp d) (ps d)) c) := ⟨_, rfl⟩
      have en : nod (σ.1 m) (σ.2 m) k (r + 1) d sp ps pt R = chl F g (σ.1 m) 0 R := by rw [eF, eg]; exact if_neg hs
      rw [en] at kk
      have loop : ∀ (f c : Nat) (R' : RS) (w' : zWd) (tr' : Nat → Int32), c + f = σ.1 m → zRn w' sp ps pt tr' (d + 1) (d + 1) R' → tr' d = nI c → (∀ q, q < d → tr' q = tr q) → zFo2 w0 w' → rok R' (C + c * 5 ^ r) → chl F g f c R' = chl F g (σ.1 m) 0 R → zV E mX4_findRounds 4 Post 38 [.ref 49, .int (nI m), .int (nI k), .int i, .int (nI d)] [] w' := by
        intro f
        induction f using Nat.strongRecOn with
        | _ f ihf =>
          intro c R' w' tr' hcf hR' htr' htq hf' hok' hch
          obtain ⟨⟨ab', be', h0'⟩, -⟩ := id hR'
          have hcC : C + c * 5 ^ r ≤ 29000 := by
            have : c * 5 ^ r ≤ 5 * 5 ^ r := Nat.mul_le_mul_right _ (by omega)
            omega
          refine zV.run kX4_findRounds 1 rfl ?_
          refine zV.iff kX4_findRounds (cd := .lt) rfl (fun q => absurd ((zlt _ _ (nI_iI d) (show (0 : Int32) = iI 0 from rfl) (by omega) (by omega) (by omega) (by omega)).mp q) (by omega)) ?_
          refine zV.run kX4_findRounds 4 rfl ?_
          refine zV.cv kX4_findRounds rfl lX4_138 (n_goOn E hm (hf'.mc hc0) hR' (by omega) hk hp ⟨by have := hok'.1; omega, hok'.2⟩ (c := c) htr' (by omega)) (by decide) rfl (h0') rfl rfl rfl (Nat.le_of_ble_eq_true rfl) ?_
          rintro _ w2 ⟨hf2, hq⟩
          rcases hq with hq | ⟨-, hq, -⟩ | ⟨-, hq, -⟩ | ⟨-, -, c1, c', q1, q2, q3, q4, q5⟩
          · exact absurd hq.1 (by omega)
          · exact absurd hq hs
          · exact absurd hq hs
          · rw [htr'] at q1
            have q1 := (nI_eq (by omega) (by omega)).mp q1
            subst q1
            have hsk : ∀ x, c ≤ x → x < c' → g x = false := fun x h1 h2 => by rw [eg]; exact q4 x h1 h2
            rcases q5 with ⟨a1, a2, rfl, hR2⟩ | ⟨a1, rfl, hR2⟩
            · have hgc : g c' = true := by rw [eg]; exact a2
              have e2 : chl F g f c R' = chl F g (σ.1 m - c' - 1) (c' + 1) (F c' R') := by
                have := chl_skip F g (c' - c) (σ.1 m - c') c R' (fun x h1 h2 => hsk x h1 (by omega))
                rw [show c' - c + (σ.1 m - c') = f by omega, show c + (c' - c) = c' by omega, show σ.1 m - c' = (σ.1 m - c' - 1) + 1 by omega] at this
                rw [this]
                show chl F g (σ.1 m - c' - 1) (c' + 1) (if g c' = true then F c' R' else R') = _
                rw [if_pos hgc]
              have hj : jth (σ.1 m) (nS (σ.2 m) (sp d) (ps d)) c' < σ.1 m := by unfold jth; split <;> omega
              have hcc : c * 5 ^ r ≤ c' * 5 ^ r := Nat.mul_le_mul_right _ q3
              have hcc2 : (c' + 1) * 5 ^ r ≤ 5 * 5 ^ r := Nat.mul_le_mul_right _ (by omega)
              have hcc3 : (c' + 1) * 5 ^ r = c' * 5 ^ r + 5 ^ r := Nat.succ_mul _ _
              refine zV.run kX4_findRounds 2 rfl ?_
              refine ih (d + 1) (by omega) _ _ _ _ R' (C + c * 5 ^ r) w2 hR2 (hf'.t hf2) pst_s (hp.s (ld := σ.2 m) v1 v2 v3 hj (fun q => absurd q hs)) hok' (by omega) (fun w3 hR3 hf3 hok3 => ?_)
              rw [show ((d + 1 : Nat) : Int) - 1 = (d : Int) by omega, ← nI_iI]
              have eFc : nod (σ.1 m) (σ.2 m) k r (d + 1) (pst sp (d + 1) (jth (σ.1 m) (nS (σ.2 m) (sp d) (ps d)) c')) (pst ps (d + 1) (nS (σ.2 m) (sp d) (ps d))) (pst pt (d + 1) (nT (σ.2 m) (sp d) (pt d))) R' = F c' R' := by rw [eF]
              rw [eFc] at hR3 hok3
              refine ihf (σ.1 m - c' - 1) (by omega) (c' + 1) (F c' R') w3 (pst tr' d (nI (c' + 1))) (by omega) (hR3.c (Nat.le_refl _) (Nat.le_refl _) (fun q hq => pst_n (by omega)) (fun q hq => pst_n (by omega)) (fun q hq => pst_n (by omega)) (fun q hq => pst_n (by omega))) pst_s (fun q hq => by rw [pst_n (by omega)]; exact htq q hq) hf3 ⟨by have := hok3.1; omega, hok3.2⟩ (by rw [← e2]; exact hch)
            · have e2 : chl F g f c R' = R' := by
                have := chl_skip F g f 0 c R' (fun x h1 h2 => hsk x h1 (by omega))
                rw [Nat.add_zero] at this
                rw [this]; rfl
              rw [← hch, e2] at kk
              have hcc : c * 5 ^ r ≤ 5 * 5 ^ r := Nat.mul_le_mul_right _ (by omega)
              refine zV.run kX4_findRounds 2 rfl ?_
              exact kk w2 (hR2.c (by omega) (by omega) (fun _ _ => rfl) (fun _ _ => rfl) (fun _ _ => rfl) (fun q hq => by rw [pst_n (by omega)]; exact htq q hq)) (hf'.t hf2) ⟨by have := hok'.1; omega, hok'.2⟩
      exact loop (σ.1 m) 0 R w tr (by omega) hR htr (fun _ _ => rfl) hfo ⟨by have := hok.1; omega, hok.2⟩ rfl
