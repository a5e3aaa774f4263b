/-! ===== mathematics of rounds: the first and the last way ===== -/
def tau (σ : Nat) (S : Int) : Nat := if 0 < S then σ else 1 - σ
theorem wV_c {ld sp sp' : Nat → Nat} {a b : Int} {m : Nat} (h : ∀ q, q < m → sp q = sp' q) : wV ld sp a b m = wV ld sp' a b m := by
  unfold wV
  rw [wS_c m h, wT_c m h]
theorem onq_c {ld sp sp' : Nat → Nat} {a b : Int} {m : Nat} (h : ∀ q, q ≤ m → sp q = sp' q) : onq ld sp a b m ↔ onq ld sp' a b m := by
  unfold onq
  rw [wV_c (sp' := sp') (fun q hq => h q (by omega)), h m (Nat.le_refl _)]
theorem flat_T {n : Nat} {ld sp : Nat → Nat} (h1 : 1 ≤ n) (hb : ∀ i, i ≤ n → ld i ≤ n) {d : Nat} (hp : pok n ld sp d) : ∀ q, q ≤ d + 1 → wS ld sp q = 0 → 0 ≤ wT ld sp q ∧ wT ld sp q ≤ (n : Int)
  | 0, _, h => absurd h (by show ¬ (1 : Int) = 0; decide)
  | q + 1, hq, h => by
    refine nT_flat (s := wS ld sp q) h1 hb (hp.1 q (by omega)) (fun e => ?_) h
    have ih := flat_T h1 hb hp q (by omega) e
    refine ⟨ih.1, ih.2, ?_⟩
    match q, hq, h, e with
    | 0, _, _, e => exact absurd e (by show ¬ (1 : Int) = 0; decide)
    | q + 1, hq, h, e => exact hp.2.2.2 q (by omega) e
/-- the corner goes along -/
theorem cor_s {ld sp : Nat → Nat} {c : Int} {d x : Nat} (hx : x ≤ 1) (h : wV ld sp c 1 d = (sp d : Int) + x) : wV ld sp c 1 (d + 1) = (ld (sp d + x) : Int) := by
  rw [wV_s, h]
  have e : x = 0 ∨ x = 1 := by omega
  unfold sl
  rcases e with rfl | rfl
  · rw [show (sp d : Int) + ((0 : Nat) : Int) - (sp d : Int) * 1 = 0 by omega, Int.mul_zero, Int.zero_add, Int.mul_one]
    rfl
  · rw [show (sp d : Int) + ((1 : Nat) : Int) - (sp d : Int) * 1 = 1 by omega, Int.mul_one, Int.mul_one]
    omega
theorem tau_le {σ : Nat} {S : Int} (h : σ ≤ 1) : tau σ S ≤ 1 := by unfold tau; split <;> omega
theorem tau_s {ld sp : Nat → Nat} {σ : Nat} (hσ : σ ≤ 1) {d : Nat} (h0 : wS ld sp (d + 1) ≠ 0) : (ld (sp d + tau σ (wS ld sp d)) : Nat) = if tau σ (wS ld sp (d + 1)) = 0 then min (ld (sp d)) (ld (sp d + 1)) else max (ld (sp d)) (ld (sp d + 1)) := by
  have e : wS ld sp (d + 1) = ((ld (sp d + 1) : Int) - (ld (sp d) : Int)) * wS ld sp d := rfl
  have h1 : wS ld sp d ≠ 0 := wS_ne h0 d (by omega)
  by_cases c1 : 0 < wS ld sp d
  · by_cases c2 : (ld (sp d) : Int) < ld (sp d + 1)
    · have p : 0 < wS ld sp (d + 1) := by rw [e]; exact Int.mul_pos (by omega) c1
      unfold tau
      rw [if_pos c1, if_pos p]
      have z : σ = 0 ∨ σ = 1 := by omega
      rcases z with rfl | rfl
      · rw [if_pos rfl, Nat.add_zero]; omega
      · rw [if_neg (by decide)]; omega
    · have c3 : (ld (sp d + 1) : Int) ≠ ld (sp d) := fun q => h0 (by rw [e, q, Int.sub_self, Int.zero_mul])
      have p : ¬ 0 < wS ld sp (d + 1) := by rw [e]; exact fun q => absurd (Int.mul_neg_of_neg_of_pos (show (ld (sp d + 1) : Int) - (ld (sp d) : Int) < 0 by omega) c1) (by omega)
      unfold tau
      rw [if_pos c1, if_neg p]
      have z : σ = 0 ∨ σ = 1 := by omega
      rcases z with rfl | rfl
      · rw [if_neg (by decide), Nat.add_zero]; omega
      · rw [if_pos (by decide)]; omega
  · by_cases c2 : (ld (sp d) : Int) < ld (sp d + 1)
    · have p : ¬ 0 < wS ld sp (d + 1) := by rw [e]; exact fun q => absurd (Int.mul_neg_of_pos_of_neg (show 0 < (ld (sp d + 1) : Int) - (ld (sp d) : Int) by omega) (show wS ld sp d < 0 by omega)) (by omega)
      unfold tau
      rw [if_neg c1, if_neg p]
      have z : σ = 0 ∨ σ = 1 := by omega
      rcases z with rfl | rfl
      · rw [if_neg (by decide), Nat.sub_zero]; omega
      · rw [if_pos (by decide), Nat.sub_self, Nat.add_zero]; omega
    · have c3 : (ld (sp d + 1) : Int) ≠ ld (sp d) := fun q => h0 (by rw [e, q, Int.sub_self, Int.zero_mul])
      have p : 0 < wS ld sp (d + 1) := by rw [e]; exact Int.mul_pos_of_neg_of_neg (by omega) (by omega)
      unfold tau
      rw [if_neg c1, if_pos p]
      have z : σ = 0 ∨ σ = 1 := by omega
      rcases z with rfl | rfl
      · rw [if_pos rfl, Nat.sub_zero]; omega
      · rw [if_neg (by decide), Nat.sub_self, Nat.add_zero]; omega
theorem range_split {n c : Nat} (h : c < n) : List.range n = List.range c ++ c :: (List.range' (c + 1) (n - c - 1)) := by
  rw [List.range_eq_range', List.range_eq_range', show n = c + (1 + (n - c - 1)) by omega, ← List.range'_append_1, show c + (1 + (n - c - 1)) - c - 1 = n - c - 1 by omega, Nat.zero_add, ← List.range'_append_1]
  rfl
theorem edge_leaf {n : Nat} {ld : Nat → Nat} (h1 : 1 ≤ n) (hb : ∀ i, i ≤ n → ld i ≤ n) {σ : Nat} (hσ : σ ≤ 1) {c : Int} : ∀ (r d : Nat) (sp : Nat → Nat), pok n ld sp d → (wS ld sp d ≠ 0 → wV ld sp c 1 d = (sp d : Int) + tau σ (wS ld sp d)) → (∀ q, q ≤ d → onq ld sp c 1 q) →
    ∃ pre f post, lvs n ld r d sp = pre ++ f :: post ∧ (∀ q, q ≤ d + r → onq ld f c 1 q) ∧ (∀ g ∈ pre ++ post, ¬ ∀ q, q ≤ d + r → onq ld g c 1 q) ∧ (σ = 0 → pre = []) ∧ (σ = 1 → post = [])
  | 0, d, sp, hp, hc, ho => ⟨[], sp, [], rfl, ho, (fun g hg => by cases hg), (fun _ => rfl), (fun _ => rfl)⟩
  | r + 1, d, sp, hp, hc, ho => by
    have pfx : ∀ j, onq ld (pst sp (d + 1) j) c 1 (d + 1) → ∀ q, q ≤ d + 1 → onq ld (pst sp (d + 1) j) c 1 q := by
      intro j hj q hq
      by_cases e : q = d + 1
      · rw [e]; exact hj
      · exact (onq_c (fun x hx => pst_n (by omega))).mpr (ho q (by omega))
    by_cases e : wS ld sp (d + 1) = 0
    · have FT := flat_T h1 hb hp (d + 1) (Nat.le_refl _) e
      have ev : wV ld (pst sp (d + 1) (min (wT ld sp (d + 1)).toNat (n - 1))) c 1 (d + 1) = wT ld sp (d + 1) := by
        rw [wV_c (sp' := sp) (fun q hq => pst_n (by omega))]
        unfold wV
        rw [e]; omega
      obtain ⟨pre, f, post, a1, a2, a3, a4, a5⟩ := edge_leaf h1 hb hσ r (d + 1) (pst sp (d + 1) (min (wT ld sp (d + 1)).toNat (n - 1))) (hp.s (by omega) (fun q => absurd e q) (fun _ => rfl)) (fun q => absurd (by rw [wS_c (sp' := sp) _ (fun x hx => pst_n (by omega))]; exact e) q) (pfx _ (by unfold onq; rw [ev, pst_s]; omega))
      refine ⟨pre, f, post, ?_, fun q hq => a2 q (by omega), fun g hg h => a3 g hg (fun q hq => h q (by omega)), a4, a5⟩
      rw [← a1]
      exact if_pos e
    · have hd : wS ld sp d ≠ 0 := wS_ne e d (by omega)
      have hco := cor_s (tau_le hσ) (hc hd)
      have ht := tau_s (sp := sp) (d := d) hσ e
      have tl : tau σ (wS ld sp (d + 1)) ≤ 1 := tau_le hσ
      have hne : ld (sp d) ≠ ld (sp d + 1) := by
        intro q
        refine e ?_
        show ((ld (sp d + 1) : Int) - (ld (sp d) : Int)) * wS ld sp d = 0
        rw [q, Int.sub_self, Int.zero_mul]
      have l1 := hb (sp d) (by have := hp.1 d (Nat.le_refl _); omega)
      have l2 := hb (sp d + 1) (by have := hp.1 d (Nat.le_refl _); omega)
      obtain ⟨s', es⟩ : ∃ s', s' = wS ld sp (d + 1) := ⟨_, rfl⟩
      obtain ⟨T, eT⟩ : ∃ T, T = tau σ s' := ⟨_, rfl⟩
      obtain ⟨K, eK⟩ : ∃ K, K = ld (sp d + tau σ (wS ld sp d)) := ⟨_, rfl⟩
      rw [← es, ← eT] at ht
      rw [← es] at e tl
      rw [← eT] at tl
      rw [← eK] at hco ht
      have eTT : T = if 0 < s' then σ else 1 - σ := eT
      -- the child that has the corner
      obtain ⟨j, ej⟩ : ∃ j, j + T = K := ⟨K - T, by rw [ht]; split <;> omega⟩
      have hj1 : cov ld (sp d) j = true := by
        rw [cov_iff]
        split at ht <;> omega
      have hjn : j < n := by have := cov_iff.mp hj1; omega
      obtain ⟨c0, ec0⟩ : ∃ c0, c0 = (if 0 < s' then j else n - 1 - j) := ⟨_, rfl⟩
      have hc0 : c0 < n := by rw [ec0]; split <;> omega
      have hjc : jth n s' c0 = j := by unfold jth; rw [ec0]; split <;> omega
      have hF : lvs n ld (r + 1) d sp = (List.range c0).flatMap (fun c => if cov ld (sp d) (jth n s' c) = true then lvs n ld r (d + 1) (pst sp (d + 1) (jth n s' c)) else []) ++ (lvs n ld r (d + 1) (pst sp (d + 1) j) ++ (List.range' (c0 + 1) (n - c0 - 1)).flatMap (fun c => if cov ld (sp d) (jth n s' c) = true then lvs n ld r (d + 1) (pst sp (d + 1) (jth n s' c)) else [])) := by
        conv => lhs; unfold lvs
        rw [← es, if_neg e]
        rw [range_split hc0, List.flatMap_append, List.flatMap_cons, hjc, if_pos hj1]
      have ev : ∀ x, wV ld (pst sp (d + 1) x) c 1 (d + 1) = (K : Int) := fun x => by rw [wV_c (sp' := sp) (fun q hq => pst_n (by omega))]; exact hco
      have eSx : ∀ x, wS ld (pst sp (d + 1) x) (d + 1) = s' := fun x => by rw [wS_c (sp' := sp) _ (fun q hq => pst_n (by omega)), es]
      obtain ⟨pre, f, post, a1, a2, a3, a4, a5⟩ := edge_leaf h1 hb hσ r (d + 1) (pst sp (d + 1) j) (hp.s hjn (fun _ => hj1) (fun q => absurd (es.trans q) e)) (fun _ => by rw [ev, eSx, pst_s, ← eT]; omega) (pfx _ (by unfold onq; rw [ev, pst_s]; omega))
      -- others do not have it
      have oth : ∀ c', c' < n → c' ≠ c0 → ∀ g, g ∈ (if cov ld (sp d) (jth n s' c') = true then lvs n ld r (d + 1) (pst sp (d + 1) (jth n s' c')) else []) → ¬ ∀ q, q ≤ d + (r + 1) → onq ld g c 1 q := by
        intro c' hc' hne' g hg hon
        by_cases q : cov ld (sp d) (jth n s' c') = true
        · rw [if_pos q] at hg
          have hjl : jth n s' c' < n := by unfold jth; split <;> omega
          obtain ⟨-, b2⟩ := lvs_ok h1 r (d + 1) _ (hp.s hjl (fun _ => q) (fun z => absurd (es.trans z) e)) g hg
          have o := hon (d + 1) (by omega)
          rw [onq_c b2] at o
          unfold onq at o
          rw [ev, pst_s] at o
          have hjj : jth n s' c' ≠ j := by
            intro z
            apply hne'
            rw [ec0, ← z]
            unfold jth
            split <;> omega
          have := cov_iff.mp q
          split at ht <;> omega
        · rw [if_neg q] at hg
          cases hg
      refine ⟨_ ++ pre, f, post ++ _, by rw [hF, a1, List.append_assoc, List.append_assoc]; rfl, fun q hq => a2 q (by omega), fun g hg hon => ?_, fun z => ?_, fun z => ?_⟩
      · rw [List.append_assoc, ← List.append_assoc pre, List.mem_append, List.mem_append] at hg
        rcases hg with hg | hg | hg
        · obtain ⟨c', h1', h2'⟩ := List.mem_flatMap.mp hg
          have := List.mem_range.mp h1'
          exact oth c' (by omega) (by omega) g h2' hon
        · exact a3 g hg (fun q hq => hon q (by omega))
        · obtain ⟨c', h1', h2'⟩ := List.mem_flatMap.mp hg
          have := List.mem_range'_1.mp h1'
          exact oth c' (by omega) (by omega) g h2' hon
      · rw [a4 z, List.append_nil]
        refine List.flatMap_eq_nil_iff.mpr (fun x hx => if_neg (fun q => ?_))
        have hx := List.mem_range.mp hx
        have := cov_iff.mp q
        unfold jth at this
        split at ec0 <;> split at this <;> split at ht <;> split at eTT <;> omega
      · rw [a5 z, List.nil_append]
        refine List.flatMap_eq_nil_iff.mpr (fun x hx => if_neg (fun q => ?_))
        have hx := List.mem_range'_1.mp hx
        have := cov_iff.mp q
        unfold jth at this
        split at ec0 <;> split at this <;> split at ht <;> split at eTT <;> omega
