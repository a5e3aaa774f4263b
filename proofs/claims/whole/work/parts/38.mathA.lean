/-! ===== mathematics of rounds: ways ===== -/
def wS (ld : Nat → Nat) (sp : Nat → Nat) : Nat → Int
  | 0 => 1
  | q + 1 => nS ld (sp q) (wS ld sp q)
def wT (ld : Nat → Nat) (sp : Nat → Nat) : Nat → Int
  | 0 => 0
  | q + 1 => nT ld (sp q) (wT ld sp q)
theorem wS_c {ld : Nat → Nat} {sp sp' : Nat → Nat} : ∀ (m : Nat), (∀ q, q < m → sp q = sp' q) → wS ld sp m = wS ld sp' m
  | 0, _ => rfl
  | m + 1, h => by
    show nS ld (sp m) (wS ld sp m) = nS ld (sp' m) (wS ld sp' m)
    rw [wS_c m (fun q hq => h q (by omega)), h m (by omega)]
theorem wT_c {ld : Nat → Nat} {sp sp' : Nat → Nat} : ∀ (m : Nat), (∀ q, q < m → sp q = sp' q) → wT ld sp m = wT ld sp' m
  | 0, _ => rfl
  | m + 1, h => by
    show nT ld (sp m) (wT ld sp m) = nT ld (sp' m) (wT ld sp' m)
    rw [wT_c m (fun q hq => h q (by omega)), h m (by omega)]
def lvs (n : Nat) (ld : Nat → Nat) : Nat → Nat → (Nat → Nat) → List (Nat → Nat)
  | 0, _, sp => [sp]
  | r + 1, d, sp =>
    if wS ld sp (d + 1) = 0 then lvs n ld r (d + 1) (pst sp (d + 1) (min (wT ld sp (d + 1)).toNat (n - 1)))
    else (List.range n).flatMap (fun c => if cov ld (sp d) (jth n (wS ld sp (d + 1)) c) = true then lvs n ld r (d + 1) (pst sp (d + 1) (jth n (wS ld sp (d + 1)) c)) else [])
def cmS (ld : Nat → Nat) (k : Nat) (R : RS) (sp : Nat → Nat) : RS := cmb k sp (wS ld sp) (wT ld sp) (wS ld sp k) (wT ld sp k) R
theorem ionf_c {sp : Nat → Nat} {ps pt ps' pt' : Nat → Int} {a b : Int} : ∀ (r d : Nat), (∀ q, q < d + r → ps q = ps' q) → (∀ q, q < d + r → pt q = pt' q) → ionf sp ps pt a b r d = ionf sp ps' pt' a b r d
  | 0, _, _, _ => rfl
  | r + 1, d, h1, h2 => by
    unfold ionf
    rw [h1 d (by omega), h2 d (by omega), ionf_c r (d + 1) (fun q hq => h1 q (by omega)) (fun q hq => h2 q (by omega))]
theorem lesf_c {ps pt ps' pt' : Nat → Int} {k : Nat} : ∀ (r d : Nat) (l : Bool), (∀ q, q < d + r → ps q = ps' q) → (∀ q, q < d + r → pt q = pt' q) → lesf ps pt k r d l = lesf ps' pt' k r d l
  | 0, _, _, _, _ => rfl
  | r + 1, d, l, h1, h2 => by
    unfold lesf
    rw [h1 d (by omega), h2 d (by omega), lesf_c r (d + 1) _ (fun q hq => h1 q (by omega)) (fun q hq => h2 q (by omega))]
theorem cmb_c {k : Nat} (hk : 1 ≤ k) {sp : Nat → Nat} {ps pt ps' pt' : Nat → Int} {s t : Int} {R : RS} (h1 : ∀ q, q < k → ps q = ps' q) (h2 : ∀ q, q < k → pt q = pt' q) : cmb k sp ps pt s t R = cmb k sp ps' pt' s t R := by
  unfold cmb
  rw [lesf_c (ps' := ps') (pt' := pt') (k - 1) 1 false (fun q hq => h1 q (by omega)) (fun q hq => h2 q (by omega)), ionf_c (ps' := ps') (pt' := pt') k 0 (fun q hq => h1 q (by omega)) (fun q hq => h2 q (by omega))]
theorem chl_fl {F : Nat → RS → RS} {g : Nat → Bool} {l : Nat → List (Nat → Nat)} {h : RS → (Nat → Nat) → RS} (hF : ∀ c R, g c = true → F c R = (l c).foldl h R) : ∀ (f c : Nat) (R : RS), chl F g f c R = ((List.range' c f).flatMap (fun c => if g c = true then l c else [])).foldl h R
  | 0, c, R => rfl
  | f + 1, c, R => by
    show chl F g f (c + 1) (if g c = true then F c R else R) = _
    rw [chl_fl hF f (c + 1), List.range'_succ, List.flatMap_cons, List.foldl_append]
    congr 1
    by_cases q : g c = true
    · rw [if_pos q, if_pos q, hF c R q]
    · rw [if_neg q, if_neg q]; rfl
theorem nod_lvs (n : Nat) (ld : Nat → Nat) {k : Nat} : ∀ (r d : Nat) (sp : Nat → Nat) (ps pt : Nat → Int) (R : RS), d + r + 1 = k → (∀ q, q ≤ d → ps q = wS ld sp q) → (∀ q, q ≤ d → pt q = wT ld sp q) → nod n ld k r d sp ps pt R = (lvs n ld r d sp).foldl (cmS ld k) R
  | 0, d, sp, ps, pt, R, hk, h1, h2 => by
    show cmb k sp (pst ps k (nS ld (sp d) (ps d))) (pst pt k (nT ld (sp d) (pt d))) (nS ld (sp d) (ps d)) (nT ld (sp d) (pt d)) R = cmS ld k R sp
    unfold cmS
    have e1 : nS ld (sp d) (ps d) = wS ld sp k := by rw [← hk, h1 d (Nat.le_refl _)]; rfl
    have e2 : nT ld (sp d) (pt d) = wT ld sp k := by rw [← hk, h2 d (Nat.le_refl _)]; rfl
    rw [e1, e2]
    exact cmb_c (by omega) (fun q hq => by rw [pst_n (by omega)]; exact h1 q (by omega)) (fun q hq => by rw [pst_n (by omega)]; exact h2 q (by omega))
  | r + 1, d, sp, ps, pt, R, hk, h1, h2 => by
    have e1 : nS ld (sp d) (ps d) = wS ld sp (d + 1) := by rw [h1 d (Nat.le_refl _)]; rfl
    have e2 : nT ld (sp d) (pt d) = wT ld sp (d + 1) := by rw [h2 d (Nat.le_refl _)]; rfl
    have c1 : ∀ j q, q ≤ d + 1 → pst ps (d + 1) (wS ld sp (d + 1)) q = wS ld (pst sp (d + 1) j) q := by
      intro j q hq
      rw [wS_c (sp := pst sp (d + 1) j) (sp' := sp) q (fun x hx => pst_n (by omega))]
      by_cases e : q = d + 1
      · rw [e, pst_s]
      · rw [pst_n e, h1 q (by omega)]
    have c2 : ∀ j q, q ≤ d + 1 → pst pt (d + 1) (wT ld sp (d + 1)) q = wT ld (pst sp (d + 1) j) q := by
      intro j q hq
      rw [wT_c (sp := pst sp (d + 1) j) (sp' := sp) q (fun x hx => pst_n (by omega))]
      by_cases e : q = d + 1
      · rw [e, pst_s]
      · rw [pst_n e, h2 q (by omega)]
    unfold nod lvs
    rw [e1, e2]
    by_cases e : wS ld sp (d + 1) = 0
    · rw [if_pos e, if_pos e]
      refine nod_lvs n ld r (d + 1) _ _ _ R (by omega) (fun q hq => ?_) (c2 _)
      rw [← e]
      exact c1 _ q hq
    · rw [if_neg e, if_neg e, List.range_eq_range']
      exact chl_fl (g := fun c => cov ld (sp d) (jth n (wS ld sp (d + 1)) c)) (l := fun c => lvs n ld r (d + 1) (pst sp (d + 1) (jth n (wS ld sp (d + 1)) c))) (fun c R _ => nod_lvs n ld r (d + 1) _ _ _ R (by omega) (c1 _) (c2 _)) n 0 R
/-- all ways from the span i -/
def wys (n : Nat) (ld : Nat → Nat) (k i : Nat) : List (Nat → Nat) := lvs n ld (k - 1) 0 (pst (fun _ => 0) 0 i)
def wal (n : Nat) (ld : Nat → Nat) (k m : Nat) : List (Nat → Nat) := (List.range m).flatMap (wys n ld k)
theorem fnd_wal (n : Nat) (ld : Nat → Nat) {k : Nat} (hk : 1 ≤ k) : ∀ m, fnd n ld k m = (wal n ld k m).foldl (cmS ld k) ([], false, false)
  | 0 => rfl
  | m + 1 => by
    unfold fnd wal
    rw [List.range_succ, List.flatMap_append, List.foldl_append, fnd_wal n ld hk m, nod_lvs n ld (k - 1) 0 _ _ _ _ (by omega) (fun q hq => by rw [show q = 0 by omega, pst_s]; rfl) (fun q hq => by rw [show q = 0 by omega, pst_s]; rfl)]
    rw [List.flatMap_cons, List.flatMap_nil, List.append_nil]
    rfl
/-- a way's rules, up to the level d -/
def pok (n : Nat) (ld : Nat → Nat) (sp : Nat → Nat) (d : Nat) : Prop :=
  (∀ q, q ≤ d → sp q < n) ∧ (∀ q, d < q → sp q = 0) ∧ (∀ q, q < d → wS ld sp (q + 1) ≠ 0 → cov ld (sp q) (sp (q + 1)) = true) ∧ (∀ q, q < d → wS ld sp (q + 1) = 0 → sp (q + 1) = min (wT ld sp (q + 1)).toNat (n - 1))
theorem pok.s {n : Nat} {ld : Nat → Nat} {sp : Nat → Nat} {d j : Nat} (h : pok n ld sp d) (hj : j < n) (h1 : wS ld sp (d + 1) ≠ 0 → cov ld (sp d) j = true) (h2 : wS ld sp (d + 1) = 0 → j = min (wT ld sp (d + 1)).toNat (n - 1)) : pok n ld (pst sp (d + 1) j) (d + 1) := by
  obtain ⟨a1, a2, a3, a4⟩ := h
  have eS : ∀ q, q ≤ d + 1 → wS ld (pst sp (d + 1) j) q = wS ld sp q := fun q hq => wS_c q (fun x hx => pst_n (by omega))
  have eT : ∀ q, q ≤ d + 1 → wT ld (pst sp (d + 1) j) q = wT ld sp q := fun q hq => wT_c q (fun x hx => pst_n (by omega))
  refine ⟨fun q hq => ?_, fun q hq => by rw [pst_n (by omega)]; exact a2 q (by omega), fun q hq => ?_, fun q hq => ?_⟩
  · by_cases e : q = d + 1
    · rw [e, pst_s]; exact hj
    · rw [pst_n e]; exact a1 q (by omega)
  · rw [eS (q + 1) (by omega), pst_n (a := d + 1) (q := q) (by omega)]
    by_cases e : q = d
    · rw [e, pst_s]; exact h1
    · rw [pst_n (by omega)]; exact a3 q (by omega)
  · rw [eS (q + 1) (by omega), eT (q + 1) (by omega)]
    by_cases e : q = d
    · rw [e, pst_s]; exact h2
    · rw [pst_n (by omega)]; exact a4 q (by omega)
theorem lvs_ok {n : Nat} {ld : Nat → Nat} (hn : 1 ≤ n) : ∀ (r d : Nat) (sp : Nat → Nat), pok n ld sp d → ∀ g ∈ lvs n ld r d sp, pok n ld g (d + r) ∧ ∀ q, q ≤ d → g q = sp q
  | 0, d, sp, h, g, hg => by
    have e : g = sp := List.mem_singleton.mp hg
    rw [e]
    exact ⟨h, fun _ _ => rfl⟩
  | r + 1, d, sp, h, g, hg => by
    unfold lvs at hg
    by_cases e : wS ld sp (d + 1) = 0
    · rw [if_pos e] at hg
      obtain ⟨a, b⟩ := lvs_ok hn r (d + 1) _ (h.s (by omega) (fun q => absurd e q) (fun _ => rfl)) g hg
      refine ⟨by rw [show d + (r + 1) = d + 1 + r by omega]; exact a, fun q hq => ?_⟩
      rw [b q (by omega), pst_n (by omega)]
    · rw [if_neg e] at hg
      obtain ⟨c, hc, hg⟩ := List.mem_flatMap.mp hg
      have hc := List.mem_range.mp hc
      by_cases q : cov ld (sp d) (jth n (wS ld sp (d + 1)) c) = true
      · rw [if_pos q] at hg
        obtain ⟨a, b⟩ := lvs_ok hn r (d + 1) _ (h.s (by unfold jth; split <;> omega) (fun _ => q) (fun z => absurd z e)) g hg
        refine ⟨by rw [show d + (r + 1) = d + 1 + r by omega]; exact a, fun q hq => ?_⟩
        rw [b q (by omega), pst_n (by omega)]
      · rw [if_neg q] at hg
        cases hg
theorem pok_0 {n : Nat} {ld : Nat → Nat} {i : Nat} (hi : i < n) : pok n ld (pst (fun _ => 0) 0 i) 0 := by
  refine ⟨fun q hq => by rw [show q = 0 by omega, pst_s]; exact hi, fun q hq => pst_n (by omega), fun q hq => absurd hq (by omega), fun q hq => absurd hq (by omega)⟩
theorem wys_ok {n : Nat} {ld : Nat → Nat} {k i : Nat} (hk : 1 ≤ k) (hi : i < n) {g : Nat → Nat} (hg : g ∈ wys n ld k i) : pok n ld g (k - 1) ∧ g 0 = i := by
  obtain ⟨a, b⟩ := lvs_ok (by omega) (k - 1) 0 _ (pok_0 hi) g hg
  rw [Nat.zero_add] at a
  exact ⟨a, by rw [b 0 (Nat.le_refl _), pst_s]⟩
