/-! ===== mathematics of rounds: all ways, once each ===== -/
theorem jth_inj {n : Nat} {s : Int} {a b : Nat} (ha : a < n) (hb : b < n) (h : jth n s a = jth n s b) : a = b := by
  unfold jth at h
  split at h <;> omega
theorem jth_lt {n : Nat} {s : Int} {a : Nat} (ha : a < n) : jth n s a < n := by unfold jth; split <;> omega
theorem jth_jth {n : Nat} {s : Int} {a : Nat} (ha : a < n) : jth n s (jth n s a) = a := by unfold jth; split <;> omega
theorem nodup_fm {α : Type} {f : Nat → List α} {l : List Nat} (hl : l.Nodup) (h1 : ∀ a ∈ l, (f a).Nodup) (h2 : ∀ a ∈ l, ∀ b ∈ l, a ≠ b → ∀ x ∈ f a, x ∉ f b) : (l.flatMap f).Nodup := by
  unfold List.Nodup
  rw [List.pairwise_flatMap]
  refine ⟨h1, ?_⟩
  refine List.Pairwise.imp_of_mem (R := fun a b => a ≠ b) ?_ hl
  intro a b ha hb hab x hx y hy e
  exact h2 a ha b hb hab x hx (e ▸ hy)
theorem lvs_nd {n : Nat} {ld : Nat → Nat} (hn : 1 ≤ n) : ∀ (r d : Nat) (sp : Nat → Nat), pok n ld sp d → (lvs n ld r d sp).Nodup
  | 0, d, sp, h => List.nodup_cons.mpr ⟨(fun q => by cases q), List.nodup_nil⟩
  | r + 1, d, sp, h => by
    unfold lvs
    by_cases e : wS ld sp (d + 1) = 0
    · rw [if_pos e]
      exact lvs_nd hn r (d + 1) _ (h.s (by omega) (fun q => absurd e q) (fun _ => rfl))
    · rw [if_neg e]
      refine nodup_fm List.nodup_range (fun a ha => ?_) (fun a ha b hb hab x hx hy => ?_)
      · have ha := List.mem_range.mp ha
        by_cases q : cov ld (sp d) (jth n (wS ld sp (d + 1)) a) = true
        · rw [if_pos q]
          exact lvs_nd hn r (d + 1) _ (h.s (jth_lt ha) (fun _ => q) (fun z => absurd z e))
        · rw [if_neg q]; exact List.nodup_nil
      · have ha := List.mem_range.mp ha
        have hb := List.mem_range.mp hb
        by_cases q : cov ld (sp d) (jth n (wS ld sp (d + 1)) a) = true
        · by_cases q2 : cov ld (sp d) (jth n (wS ld sp (d + 1)) b) = true
          · rw [if_pos q] at hx
            rw [if_pos q2] at hy
            have e1 := (lvs_ok hn r (d + 1) _ (h.s (jth_lt ha) (fun _ => q) (fun z => absurd z e)) x hx).2 (d + 1) (Nat.le_refl _)
            have e2 := (lvs_ok hn r (d + 1) _ (h.s (jth_lt hb) (fun _ => q2) (fun z => absurd z e)) x hy).2 (d + 1) (Nat.le_refl _)
            rw [pst_s] at e1 e2
            exact hab (jth_inj ha hb (e1.symm.trans e2))
          · rw [if_neg q2] at hy; cases hy
        · rw [if_neg q] at hx; cases hx
theorem wys_nd {n : Nat} {ld : Nat → Nat} {k i : Nat} (hi : i < n) : (wys n ld k i).Nodup := lvs_nd (by omega) _ _ _ (pok_0 hi)
theorem lvs_all {n : Nat} {ld : Nat → Nat} (hn : 1 ≤ n) : ∀ (r d : Nat) (sp g : Nat → Nat), pok n ld g (d + r) → (∀ q, q ≤ d → g q = sp q) → (∀ q, d < q → sp q = 0) → g ∈ lvs n ld r d sp
  | 0, d, sp, g, hg, h1, h2 => by
    have e : g = sp := by
      funext q
      by_cases c : q ≤ d
      · exact h1 q c
      · rw [h2 q (by omega)]; exact hg.2.1 q (by omega)
    rw [e]
    exact List.mem_singleton.mpr rfl
  | r + 1, d, sp, g, hg, h1, h2 => by
    have eS : wS ld g (d + 1) = wS ld sp (d + 1) := wS_c _ (fun q hq => h1 q (by omega))
    have eT : wT ld g (d + 1) = wT ld sp (d + 1) := wT_c _ (fun q hq => h1 q (by omega))
    have nx : ∀ j, g (d + 1) = j → g ∈ lvs n ld r (d + 1) (pst sp (d + 1) j) := fun j hj => lvs_all hn r (d + 1) _ g (by rw [show d + 1 + r = d + (r + 1) by omega]; exact hg) (fun q hq => by
      by_cases c : q = d + 1
      · rw [c, pst_s, hj]
      · rw [pst_n c]; exact h1 q (by omega)) (fun q hq => by rw [pst_n (by omega)]; exact h2 q (by omega))
    unfold lvs
    by_cases e : wS ld sp (d + 1) = 0
    · rw [if_pos e]
      refine nx _ ?_
      rw [hg.2.2.2 d (by omega) (eS.trans e), eT]
    · rw [if_neg e]
      have hl := hg.1 (d + 1) (by omega)
      refine List.mem_flatMap.mpr ⟨jth n (wS ld sp (d + 1)) (g (d + 1)), List.mem_range.mpr (jth_lt hl), ?_⟩
      rw [jth_jth hl, if_pos (by have := hg.2.2.1 d (by omega) (by rw [eS]; exact e); rw [h1 d (Nat.le_refl _)] at this; exact this)]
      exact nx _ rfl
theorem wys_all {n : Nat} {ld : Nat → Nat} {k : Nat} (hk : 1 ≤ k) {g : Nat → Nat} (hg : pok n ld g (k - 1)) : g ∈ wys n ld k (g 0) := by
  have := hg.1 0 (by omega)
  exact lvs_all (by omega) (k - 1) 0 _ g (by rw [Nat.zero_add]; exact hg) (fun q hq => by rw [show q = 0 by omega, pst_s]) (fun q hq => pst_n (by omega))
/-- a closed way, by its spans alone -/
def cyc (n : Nat) (ld : Nat → Nat) (k : Nat) (g : Nat → Nat) : Prop := (∀ q, q < k → g q < n) ∧ (∀ q, k ≤ q → g q = 0) ∧ (∀ q, q + 1 < k → cov ld (g q) (g (q + 1)) = true) ∧ cov ld (g (k - 1)) (g 0) = true
theorem sl_ne {ld : Nat → Nat} {i j : Nat} (h : cov ld i j = true) : sl ld i ≠ 0 := by
  have := cov_ne h
  unfold sl
  omega
theorem cyc_S {n : Nat} {ld : Nat → Nat} {k : Nat} {g : Nat → Nat} (h : cyc n ld k g) : ∀ q, q < k → wS ld g q ≠ 0
  | 0, _ => by show ¬ (1 : Int) = 0; decide
  | q + 1, hq => by
    show sl ld (g q) * wS ld g q ≠ 0
    exact Int.mul_ne_zero (sl_ne (h.2.2.1 q hq)) (cyc_S h q (by omega))
theorem cyc_pok {n : Nat} {ld : Nat → Nat} {k : Nat} (hk : 1 ≤ k) {g : Nat → Nat} (h : cyc n ld k g) : pok n ld g (k - 1) ∧ clo ld k g :=
  ⟨⟨fun q hq => h.1 q (by omega), fun q hq => h.2.1 q (by omega), fun q hq _ => h.2.2.1 q (by omega), fun q hq z => absurd z (cyc_S h (q + 1) (by omega))⟩, cyc_S h _ (by omega), h.2.2.2⟩
theorem clo_cyc {n : Nat} {ld : Nat → Nat} {k : Nat} (hk : 1 ≤ k) {g : Nat → Nat} (hp : pok n ld g (k - 1)) (hc : clo ld k g) : cyc n ld k g :=
  ⟨fun q hq => hp.1 q (by omega), fun q hq => hp.2.1 q (by omega), fun q hq => clo_cov hp hc q (by omega), hc.2⟩
/-- a point has a way -/
theorem lvs_pt {n : Nat} {ld : Nat → Nat} (hn : 1 ≤ n) (hbd : ∀ i, i ≤ n → ld i ≤ n) {a b : Int} (hb : 0 < b) : ∀ (r d : Nat) (sp : Nat → Nat), pok n ld sp d → (∀ q, q ≤ d → onq ld sp a b q) → ∃ g ∈ lvs n ld r d sp, ∀ q, q ≤ d + r → onq ld g a b q
  | 0, d, sp, hp, ho => ⟨sp, List.mem_singleton.mpr rfl, ho⟩
  | r + 1, d, sp, hp, ho => by
    have pfx : ∀ j, onq ld (pst sp (d + 1) j) a b (d + 1) → ∀ q, q ≤ d + 1 → onq ld (pst sp (d + 1) j) a b q := by
      intro j hj q hq
      by_cases e : q = d + 1
      · rw [e]; exact hj
      · exact (onq_c (fun x hx => pst_n (by omega))).mpr (ho q (by omega))
    have ev : ∀ x, wV ld (pst sp (d + 1) x) a b (d + 1) = wV ld sp a b (d + 1) := fun x => wV_c (fun q hq => pst_n (by omega))
    unfold lvs
    by_cases e : wS ld sp (d + 1) = 0
    · rw [if_pos e]
      have FT := flat_T hn hbd hp (d + 1) (Nat.le_refl _) e
      obtain ⟨g, h1, h2⟩ := lvs_pt hn hbd hb r (d + 1) (pst sp (d + 1) (min (wT ld sp (d + 1)).toNat (n - 1))) (hp.s (by omega) (fun q => absurd e q) (fun _ => rfl)) (pfx _ (by
        unfold onq
        rw [ev, pst_s]
        unfold wV
        rw [e, Int.zero_mul, Int.zero_add]
        exact ⟨Int.mul_le_mul_of_nonneg_right (by omega) (by omega), Int.mul_le_mul_of_nonneg_right (by omega) (by omega)⟩))
      exact ⟨g, h1, fun q hq => h2 q (by omega)⟩
    · rw [if_neg e]
      have hne : ld (sp d) ≠ ld (sp d + 1) := by
        intro q
        refine e ?_
        show ((ld (sp d + 1) : Int) - (ld (sp d) : Int)) * wS ld sp d = 0
        rw [q, Int.sub_self, Int.zero_mul]
      have hsd := hp.1 d (Nat.le_refl _)
      have l1 := hbd (sp d) (by omega)
      have l2 := hbd (sp d + 1) (by omega)
      have o := ho d (Nat.le_refl _)
      have s := seg_f (p := (ld (sp d) : Int)) (q := (ld (sp d + 1) : Int)) (u := wV ld sp a b d - (sp d : Int) * b) (b := b) (by have := o.1; omega) (by have := o.2; rw [Int.add_mul, Int.one_mul] at this; omega)
      have eV : ((ld (sp d + 1) : Int) - (ld (sp d) : Int)) * (wV ld sp a b d - (sp d : Int) * b) + (ld (sp d) : Int) * b = wV ld sp a b (d + 1) := (wV_s d).symm
      rw [eV] at s
      -- the span of the point
      obtain ⟨j, c1, c2, c3, c4⟩ : ∃ j : Nat, min (ld (sp d)) (ld (sp d + 1)) ≤ j ∧ j < max (ld (sp d)) (ld (sp d + 1)) ∧ (j : Int) * b ≤ wV ld sp a b (d + 1) ∧ wV ld sp a b (d + 1) ≤ ((j : Int) + 1) * b := by
        generalize wV ld sp a b (d + 1) = v at s
        have q1 : v / b * b ≤ v := Int.ediv_mul_le _ (by omega)
        have q2 : v < (v / b + 1) * b := Int.lt_ediv_add_one_mul_self _ hb
        have q3 : min (ld (sp d) : Int) (ld (sp d + 1) : Int) ≤ v / b := Int.le_ediv_of_mul_le hb s.1
        by_cases c : v / b < max (ld (sp d) : Int) (ld (sp d + 1) : Int)
        · refine ⟨(v / b).toNat, by omega, by omega, ?_, ?_⟩
          · rw [Int.toNat_of_nonneg (by omega)]; exact q1
          · rw [Int.toNat_of_nonneg (by omega)]; omega
        · refine ⟨max (ld (sp d)) (ld (sp d + 1)) - 1, by omega, by omega, ?_, ?_⟩
          · refine Int.le_trans (Int.mul_le_mul_of_nonneg_right (c := b) (b := v / b) (by omega) (by omega)) q1
          · refine Int.le_trans s.2 (Int.mul_le_mul_of_nonneg_right (by omega) (by omega))
      have hcv : cov ld (sp d) j = true := cov_iff.mpr ⟨c1, c2⟩
      have hj : j < n := by omega
      obtain ⟨g, h1, h2⟩ := lvs_pt hn hbd hb r (d + 1) (pst sp (d + 1) j) (hp.s hj (fun _ => hcv) (fun z => absurd z e)) (pfx _ (by
        unfold onq
        rw [ev, pst_s]
        exact ⟨c3, c4⟩))
      refine ⟨g, List.mem_flatMap.mpr ⟨jth n (wS ld sp (d + 1)) j, List.mem_range.mpr (jth_lt hj), ?_⟩, fun q hq => h2 q (by omega)⟩
      rw [jth_jth hj, if_pos hcv]
      exact h1
theorem wys_pt {n : Nat} {ld : Nat → Nat} (hbd : ∀ i, i ≤ n → ld i ≤ n) {k i : Nat} (hk : 1 ≤ k) (hi : i < n) {a b : Int} (hb : 0 < b) (h1 : (i : Int) * b ≤ a) (h2 : a ≤ ((i : Int) + 1) * b) : ∃ g ∈ wys n ld k i, ∀ q, q < k → onq ld g a b q := by
  obtain ⟨g, x, y⟩ := lvs_pt (by omega) hbd hb (k - 1) 0 (pst (fun _ => 0) 0 i) (pok_0 (ld := ld) hi) (fun q hq => by
    rw [show q = 0 by omega]
    unfold onq
    rw [wV_0, pst_s]
    exact ⟨h1, h2⟩)
  exact ⟨g, x, fun q hq => y q (by omega)⟩
/-- the one way that has the corner -/
theorem wys_edge {n : Nat} {ld : Nat → Nat} (hbd : ∀ i, i ≤ n → ld i ≤ n) {k i : Nat} (hk : 1 ≤ k) (hi : i < n) {σ : Nat} (hσ : σ ≤ 1) : ∃ pre f post, wys n ld k i = pre ++ f :: post ∧ (∀ q, q < k → onq ld f ((i + σ : Nat) : Int) 1 q) ∧ (∀ g ∈ pre ++ post, ¬ ∀ q, q < k → onq ld g ((i + σ : Nat) : Int) 1 q) ∧ (σ = 0 → pre = []) ∧ (σ = 1 → post = []) := by
  obtain ⟨pre, f, post, a1, a2, a3, a4, a5⟩ := edge_leaf (by omega) hbd hσ (c := ((i + σ : Nat) : Int)) (k - 1) 0 (pst (fun _ => 0) 0 i) (pok_0 hi) (fun _ => by
    rw [wV_0, pst_s]
    have : tau σ (wS ld (pst (fun _ => 0) 0 i) 0) = σ := if_pos (by show (0 : Int) < 1; decide)
    rw [this]
    omega) (fun q hq => by
    rw [show q = 0 by omega]
    unfold onq
    rw [wV_0, pst_s]
    omega)
  exact ⟨pre, f, post, a1, fun q hq => a2 q (by omega), fun g hg h => a3 g hg (fun q hq => h q (by omega)), a4, a5⟩
