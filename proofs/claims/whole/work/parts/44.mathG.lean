/-! ===== mathematics of rounds: the points, in order ===== -/
theorem wV_m {ld g : Nat → Nat} {G a b : Int} (q : Nat) : wV ld g (G * a) (G * b) q = G * wV ld g a b q := by
  unfold wV
  grind
theorem onq_m {ld g : Nat → Nat} {G a b : Int} (hG : 0 < G) (q : Nat) : onq ld g (G * a) (G * b) q ↔ onq ld g a b q := by
  unfold onq
  rw [wV_m, show (g q : Int) * (G * b) = G * ((g q : Int) * b) by grind, show ((g q : Int) + 1) * (G * b) = G * (((g q : Int) + 1) * b) by grind]
  exact ⟨fun h => ⟨Int.le_of_mul_le_mul_left h.1 hG, Int.le_of_mul_le_mul_left h.2 hG⟩, fun h => ⟨Int.mul_le_mul_of_nonneg_left h.1 (by omega), Int.mul_le_mul_of_nonneg_left h.2 (by omega)⟩⟩
theorem pnt_iff {ld g : Nat → Nat} {k : Nat} (hk : 1 ≤ k) {a b : Nat} : pnt ld k g = some (a, b) ↔ wS ld g k ≠ 1 ∧ 0 < b ∧ Nat.gcd a b = 1 ∧ (∀ q, q < k → onq ld g (a : Int) (b : Int) q) ∧ wV ld g (a : Int) (b : Int) k = (a : Int) := by
  unfold pnt
  by_cases c1 : wS ld g k = 1
  · rw [if_pos c1]
    exact ⟨(fun h => by cases h), (fun h => absurd c1 h.1)⟩
  · rw [if_neg c1]
    have hB := pB_pos c1
    by_cases c2 : ionf g (wS ld g) (wT ld g) (pA ld k g) (pB ld k g) k 0 = true
    · rw [if_pos c2]
      have on1 : ∀ q, q < k → onq ld g (pA ld k g) (pB ld k g) q := fun q hq => (ionf_iff k 0).mp c2 q (by omega) (by omega)
      have o0 := (on1 0 (by omega)).1
      rw [wV_0] at o0
      have hA : 0 ≤ pA ld k g := Int.le_trans (Int.mul_nonneg (by omega) (by omega)) o0
      have ab := pAB (ld := ld) (g := g) (k := k)
      generalize pA ld k g = A at *
      generalize pB ld k g = B at *
      obtain ⟨A, rfl⟩ : ∃ x : Nat, A = x := ⟨A.toNat, by omega⟩
      obtain ⟨B, rfl⟩ : ∃ x : Nat, B = x := ⟨B.toNat, by omega⟩
      rw [Int.toNat_natCast, Int.toNat_natCast]
      have hB' : 0 < B := by omega
      have hG : 0 < Nat.gcd A B := Nat.gcd_pos_of_pos_right _ hB'
      have e1 : A = Nat.gcd A B * (A / Nat.gcd A B) := (Nat.mul_div_cancel' (Nat.gcd_dvd_left A B)).symm
      have e2 : B = Nat.gcd A B * (B / Nat.gcd A B) := (Nat.mul_div_cancel' (Nat.gcd_dvd_right A B)).symm
      have hg1 : Nat.gcd (A / Nat.gcd A B) (B / Nat.gcd A B) = 1 := Nat.coprime_div_gcd_div_gcd hG
      have hb2 : 0 < B / Nat.gcd A B := Nat.div_pos (Nat.le_of_dvd hB' (Nat.gcd_dvd_right A B)) hG
      have e1z : (A : Int) = (Nat.gcd A B : Int) * ((A / Nat.gcd A B : Nat) : Int) := by rw [← Int.natCast_mul, ← e1]
      have e2z : (B : Int) = (Nat.gcd A B : Int) * ((B / Nat.gcd A B : Nat) : Int) := by rw [← Int.natCast_mul, ← e2]
      have onR : ∀ q, q < k → onq ld g ((A / Nat.gcd A B : Nat) : Int) ((B / Nat.gcd A B : Nat) : Int) q := fun q hq => by
        have := on1 q hq
        rw [e1z, e2z] at this
        exact (onq_m (by omega) q).mp this
      have abR : wV ld g ((A / Nat.gcd A B : Nat) : Int) ((B / Nat.gcd A B : Nat) : Int) k = ((A / Nat.gcd A B : Nat) : Int) := by
        rw [e1z, e2z, wV_m] at ab
        exact Int.eq_of_mul_eq_mul_left (by omega) ab
      refine ⟨fun h => ?_, fun h => ?_⟩
      · have h := Option.some.inj h
        have h1 : A / Nat.gcd A B = a := congrArg Prod.fst h
        have h2 : B / Nat.gcd A B = b := congrArg Prod.snd h
        rw [h1, h2] at onR abR hg1
        rw [h2] at hb2
        exact ⟨c1, hb2, hg1, onR, abR⟩
      · obtain ⟨-, h2, h3, -, h5⟩ := h
        -- the one point that stays
        show some (A / Nat.gcd A B, B / Nat.gcd A B) = some (a, b)
        generalize A / Nat.gcd A B = A' at *
        generalize B / Nat.gcd A B = B' at *
        have hx : (a : Int) * B' = A' * b := by
          unfold wV at h5 abR
          have : (wS ld g k - 1) * ((a : Int) * B' - A' * b) = 0 := by grind
          rcases Int.mul_eq_zero.mp this with z | z
          · omega
          · omega
        have hx : a * B' = A' * b := by
          have : ((a * B' : Nat) : Int) = ((A' * b : Nat) : Int) := by rw [Int.natCast_mul, Int.natCast_mul]; exact hx
          omega
        have d1 : b ∣ B' := Nat.Coprime.dvd_of_dvd_mul_left (k := b) (m := a) (n := B') (by rw [Nat.coprime_comm]; exact h3) ⟨A', by rw [hx, Nat.mul_comm]⟩
        have d2 : B' ∣ b := Nat.Coprime.dvd_of_dvd_mul_left (k := B') (m := A') (n := b) (by rw [Nat.coprime_comm]; exact hg1) ⟨a, by rw [← hx, Nat.mul_comm]⟩
        have e3 : B' = b := Nat.dvd_antisymm d2 d1
        rw [e3] at hx
        have e4 : a = A' := Nat.eq_of_mul_eq_mul_right h2 hx
        rw [e3, e4]
    · rw [if_neg c2]
      refine ⟨(fun h => by cases h), (fun h => ?_)⟩
      obtain ⟨-, h2, h3, h4, h5⟩ := h
      exfalso
      apply c2
      rw [ionf_iff]
      intro q _ hq
      have ab := pAB (ld := ld) (g := g) (k := k)
      generalize pA ld k g = A at *
      generalize pB ld k g = B at *
      have hx : (a : Int) * B = A * b := by
        unfold wV at h5 ab
        have : (wS ld g k - 1) * ((a : Int) * B - A * b) = 0 := by grind
        rcases Int.mul_eq_zero.mp this with z | z
        · omega
        · omega
      refine (onq_m (G := (b : Int)) (by omega) q).mp ?_
      rw [Int.mul_comm (b : Int) A, ← hx, Int.mul_comm (b : Int) B, Int.mul_comm (a : Int) B]
      exact (onq_m hB q).mpr (h4 q (by omega))
/-- cut off both ends -/
theorem cut_ends {X : List (Nat × Nat)} {x0 x1 : Nat × Nat} (hne : x0 ≠ x1) (h0 : x0 ∈ X → ∃ X', X = x0 :: X' ∧ x0 ∉ X') (h1 : x1 ∈ X → ∃ X', X = X' ++ [x1] ∧ x1 ∉ X') : X = (if x0 ∈ X then [x0] else []) ++ X.filter (fun p => decide (p ≠ x0 ∧ p ≠ x1)) ++ (if x1 ∈ X then [x1] else []) := by
  have keep : ∀ Y : List (Nat × Nat), x0 ∉ Y → x1 ∉ Y → Y.filter (fun p => decide (p ≠ x0 ∧ p ≠ x1)) = Y := by
    intro Y a b
    rw [List.filter_eq_self]
    intro p hp
    exact decide_eq_true ⟨fun e => a (e ▸ hp), fun e => b (e ▸ hp)⟩
  have d0 : decide (x0 ≠ x0 ∧ x0 ≠ x1) = false := decide_eq_false (fun h => h.1 rfl)
  have d1 : decide (x1 ≠ x0 ∧ x1 ≠ x1) = false := decide_eq_false (fun h => h.2 rfl)
  by_cases c0 : x0 ∈ X
  · obtain ⟨Y, e, hY⟩ := h0 c0
    rw [if_pos c0]
    by_cases c1 : x1 ∈ X
    · obtain ⟨Z, e2, hZ⟩ := h1 c1
      rw [if_pos c1]
      cases Z with
      | nil =>
        rw [e2] at c0
        exact absurd (List.mem_singleton.mp c0) hne
      | cons z Z =>
        rw [e2] at e
        have ez : z = x0 := (List.cons.inj e).1
        have ey : Z ++ [x1] = Y := (List.cons.inj e).2
        subst ez
        have a0 : z ∉ Z := fun q => hY (by rw [← ey]; exact List.mem_append_left _ q)
        have a1 : x1 ∉ Z := fun q => hZ (List.mem_cons_of_mem _ q)
        rw [e2, List.filter_append, List.filter_cons, d0, List.filter_cons, d1]
        simp only [List.filter_nil, List.append_nil, Bool.false_eq_true, if_false]
        rw [keep Z a0 a1]
        rfl
    · rw [if_neg c1, List.append_nil, e, List.filter_cons, d0]
      simp only [Bool.false_eq_true, if_false]
      rw [keep Y hY (fun q => c1 (by rw [e]; exact List.mem_cons_of_mem _ q))]
      rfl
  · rw [if_neg c0, List.nil_append]
    by_cases c1 : x1 ∈ X
    · obtain ⟨Z, e2, hZ⟩ := h1 c1
      rw [if_pos c1]
      conv => rhs; rw [e2]
      rw [List.filter_append, List.filter_cons, d1]
      simp only [List.filter_nil, List.append_nil, Bool.false_eq_true, if_false]
      rw [keep Z (fun q => c0 (by rw [e2]; exact List.mem_append_left _ q)) hZ]
      exact e2
    · rw [if_neg c1, List.append_nil, keep X c0 c1]
/-- the first leaf has the one corner, the last the other -/
theorem fm_ends {n : Nat} {ld : Nat → Nat} (hbd : ∀ i, i ≤ n → ld i ≤ n) {k i : Nat} (hk : 1 ≤ k) (hi : i < n) (h : (Nat → Nat) → Option (Nat × Nat)) (hh : ∀ g ∈ wys n ld k i, ∀ p, h g = some p → pnt ld k g = some p) : (wys n ld k i).filterMap h = (if (i, 1) ∈ (wys n ld k i).filterMap h then [(i, 1)] else []) ++ ((wys n ld k i).filterMap h).filter (fun p => decide (p ≠ (i, 1) ∧ p ≠ (i + 1, 1))) ++ (if (i + 1, 1) ∈ (wys n ld k i).filterMap h then [(i + 1, 1)] else []) := by
  have hne : ((i, 1) : Nat × Nat) ≠ (i + 1, 1) := by
    intro e
    have : i = i + 1 := congrArg Prod.fst e
    omega
  refine cut_ends hne (fun m => ?_) (fun m => ?_)
  · obtain ⟨pre, f, post, a1, a2, a3, a4, a5⟩ := wys_edge hbd (k := k) (i := i) (σ := 0) hk hi (by omega)
    have a4 := a4 rfl
    subst a4
    rw [List.nil_append] at a1 a3
    obtain ⟨g, g1, g2⟩ := List.mem_filterMap.mp m
    have no : ∀ g ∈ post, h g ≠ some (i, 1) := by
      intro g hg e
      have := (pnt_iff hk).mp (hh g (by rw [a1]; exact List.mem_cons_of_mem _ hg) _ e)
      exact a3 g hg this.2.2.2.1
    rw [a1] at g1 ⊢
    rcases List.mem_cons.mp g1 with e | e
    · rw [e] at g2
      refine ⟨post.filterMap h, List.filterMap_cons_some g2, fun q => ?_⟩
      obtain ⟨g', x, y⟩ := List.mem_filterMap.mp q
      exact no g' x y
    · exact absurd g2 (no g e)
  · obtain ⟨pre, f, post, a1, a2, a3, a4, a5⟩ := wys_edge hbd (k := k) (i := i) (σ := 1) hk hi (by omega)
    have a5 := a5 rfl
    subst a5
    rw [List.append_nil] at a3
    obtain ⟨g, g1, g2⟩ := List.mem_filterMap.mp m
    have no : ∀ g ∈ pre, h g ≠ some (i + 1, 1) := by
      intro g hg e
      have := (pnt_iff hk).mp (hh g (by rw [a1]; exact List.mem_append_left _ hg) _ e)
      exact a3 g hg this.2.2.2.1
    rw [a1] at g1 ⊢
    rcases List.mem_append.mp g1 with e | e
    · exact absurd g2 (no g e)
    · rw [List.mem_singleton.mp e] at g2
      refine ⟨pre.filterMap h, by rw [List.filterMap_append, List.filterMap_cons_some g2]; rfl, fun q => ?_⟩
      obtain ⟨g', x, y⟩ := List.mem_filterMap.mp q
      exact no g' x y
def xps (n : Nat) (ld : Nat → Nat) (k i : Nat) : List (Nat × Nat) := (wys n ld k i).filterMap (pnt ld k)
def inr (n : Nat) (ld : Nat → Nat) (k i : Nat) : List (Nat × Nat) := (xps n ld k i).filter (fun p => decide (p ≠ (i, 1) ∧ p ≠ (i + 1, 1)))
theorem xps_eq {n : Nat} {ld : Nat → Nat} (hbd : ∀ i, i ≤ n → ld i ≤ n) {k i : Nat} (hk : 1 ≤ k) (hi : i < n) : xps n ld k i = (if (i, 1) ∈ xps n ld k i then [(i, 1)] else []) ++ inr n ld k i ++ (if (i + 1, 1) ∈ xps n ld k i then [(i + 1, 1)] else []) := fm_ends hbd hk hi _ (fun _ _ _ h => h)
theorem pnt_at {n : Nat} {ld : Nat → Nat} {k i : Nat} (hk : 1 ≤ k) (hi : i < n) {g : Nat → Nat} (hg : g ∈ wys n ld k i) {p : Nat × Nat} (h : pnt ld k g = some p) : 0 < p.2 ∧ Nat.gcd p.1 p.2 = 1 ∧ i * p.2 ≤ p.1 ∧ p.1 ≤ (i + 1) * p.2 := by
  obtain ⟨a, b⟩ := p
  have s := (pnt_iff hk).mp h
  have o := s.2.2.2.1 0 (by omega)
  unfold onq at o
  rw [wV_0, (wys_ok hk hi hg).2] at o
  refine ⟨s.2.1, s.2.2.1, ?_, ?_⟩
  · have : ((i * b : Nat) : Int) ≤ (a : Int) := by rw [Int.natCast_mul]; exact o.1
    exact Int.ofNat_le.mp this
  · have : (a : Int) ≤ (((i + 1) * b : Nat) : Int) := by rw [Int.natCast_mul]; exact o.2
    exact Int.ofNat_le.mp this
theorem cor_eq {a b i : Nat} (hg : Nat.gcd a b = 1) (h : a = i * b) : (a, b) = (i, 1) := by
  have : b = 1 := by
    rw [h, Nat.gcd_mul_left_left] at hg
    exact hg
  rw [h, this, Nat.mul_one]
theorem inr_at {n : Nat} {ld : Nat → Nat} {k i : Nat} (hk : 1 ≤ k) (hi : i < n) {p : Nat × Nat} (h : p ∈ inr n ld k i) : ∃ g ∈ wys n ld k i, pnt ld k g = some p ∧ i * p.2 < p.1 ∧ p.1 < (i + 1) * p.2 := by
  obtain ⟨m, d⟩ := List.mem_filter.mp h
  have d := of_decide_eq_true d
  obtain ⟨g, g1, g2⟩ := List.mem_filterMap.mp m
  have a := pnt_at hk hi g1 g2
  refine ⟨g, g1, g2, ?_, ?_⟩
  · rcases Nat.lt_or_eq_of_le a.2.2.1 with q | q
    · exact q
    · exact absurd (cor_eq a.2.1 q.symm) d.1
  · rcases Nat.lt_or_eq_of_le a.2.2.2 with q | q
    · exact q
    · exact absurd (cor_eq a.2.1 q) d.2
/-- what lies between corners has one way -/
theorem one_way {n : Nat} {ld : Nat → Nat} {k i : Nat} {g g' : Nat → Nat} (hk : 1 ≤ k) (hp : pok n ld g (k - 1)) (hp' : pok n ld g' (k - 1)) {a b : Int} (hb : 0 < b) (h1 : (i : Int) * b < a) (h2 : a < ((i : Int) + 1) * b) (o : ∀ q, q < k → onq ld g a b q) (o' : ∀ q, q < k → onq ld g' a b q) (hv : wV ld g a b k = a) : g = g' := by
  have nx : ∀ q x, wV ld g a b q = x * b → ∃ y, wV ld g a b (q + 1) = y * b := fun q x h => ⟨sl ld (g q) * (x - g q) + ld (g q), by rw [wV_s, h]; grind⟩
  have all : ∀ r q, q + r = k → (∃ x, wV ld g a b q = x * b) → False := by
    intro r
    induction r with
    | zero =>
      intro q hq hx
      obtain ⟨x, hx⟩ := hx
      rw [show q = k by omega, hv] at hx
      rw [hx] at h1 h2
      have l1 := Int.lt_of_mul_lt_mul_right h1 (by omega)
      have l2 := Int.lt_of_mul_lt_mul_right h2 (by omega)
      omega
    | succ r ih =>
      intro q hq hx
      obtain ⟨x, hx⟩ := hx
      exact ih (q + 1) (by omega) (nx q x hx)
  have key : ∀ q, q < k → ∀ x, x ≤ q → g x = g' x := by
    intro q
    induction q with
    | zero =>
      intro _ x hx
      have a1 := o 0 (by omega)
      have a2 := o' 0 (by omega)
      unfold onq at a1 a2
      rw [wV_0] at a1 a2
      have n1 : ∀ y : Int, a ≠ y * b := fun y e => all k 0 (by omega) ⟨y, by rw [wV_0]; exact e⟩
      have z1 := n1 (g 0 : Int)
      have z2 := n1 (g' 0 : Int)
      have b1 : (g 0 : Int) * b < ((g' 0 : Int) + 1) * b := by omega
      have b2 : (g' 0 : Int) * b < ((g 0 : Int) + 1) * b := by omega
      have l1 := Int.lt_of_mul_lt_mul_right b1 (by omega)
      have l2 := Int.lt_of_mul_lt_mul_right b2 (by omega)
      rw [show x = 0 by omega]
      omega
    | succ q ih =>
      intro hq x hx
      have ih := ih (by omega)
      by_cases c : x = q + 1
      · have a1 := o (q + 1) hq
        have a2 := o' (q + 1) hq
        unfold onq at a1 a2
        rw [← wV_c (sp := g) (sp' := g') (m := q + 1) (fun y hy => ih y (by omega))] at a2
        have n1 : ∀ y : Int, wV ld g a b (q + 1) ≠ y * b := fun y e => all (k - (q + 1)) (q + 1) (by omega) ⟨y, e⟩
        have z1 := n1 (g (q + 1) : Int)
        have z2 := n1 (g' (q + 1) : Int)
        have b1 : (g (q + 1) : Int) * b < ((g' (q + 1) : Int) + 1) * b := by omega
        have b2 : (g' (q + 1) : Int) * b < ((g (q + 1) : Int) + 1) * b := by omega
        have l1 := Int.lt_of_mul_lt_mul_right b1 (by omega)
        have l2 := Int.lt_of_mul_lt_mul_right b2 (by omega)
        rw [c]
        omega
      · exact ih x (by omega)
  funext q
  by_cases c : q < k
  · exact key q c q (Nat.le_refl _)
  · rw [hp.2.1 q (by omega), hp'.2.1 q (by omega)]
theorem in_cast {i : Nat} {p : Nat × Nat} (h1 : i * p.2 < p.1) (h2 : p.1 < (i + 1) * p.2) : (i : Int) * (p.2 : Int) < (p.1 : Int) ∧ (p.1 : Int) < ((i : Int) + 1) * (p.2 : Int) := by
  have e1 : ((i * p.2 : Nat) : Int) = (i : Int) * (p.2 : Int) := Int.natCast_mul _ _
  have e2 : (((i + 1) * p.2 : Nat) : Int) = ((i : Int) + 1) * (p.2 : Int) := Int.natCast_mul _ _
  omega
theorem inr_nd {n : Nat} {ld : Nat → Nat} {k i : Nat} (hk : 1 ≤ k) (hi : i < n) : (inr n ld k i).Nodup := by
  unfold inr xps List.Nodup
  rw [List.pairwise_filter, List.pairwise_filterMap]
  refine List.Pairwise.imp_of_mem (R := fun a b => a ≠ b) ?_ (wys_nd (ld := ld) (k := k) hi)
  intro g g' hg hg' hne p hp p' hp' d d' e
  subst e
  have m : p ∈ inr n ld k i := List.mem_filter.mpr ⟨List.mem_filterMap.mpr ⟨g, hg, hp⟩, d⟩
  obtain ⟨-, -, -, b1, b2⟩ := inr_at hk hi m
  obtain ⟨c1, c2⟩ := in_cast b1 b2
  have s := (pnt_iff hk).mp hp
  have s' := (pnt_iff hk).mp hp'
  have : (0 : Int) < (p.2 : Int) := by have := s.2.1; omega
  exact hne (one_way hk (wys_ok hk hi hg).1 (wys_ok hk hi hg').1 this c1 c2 s.2.2.2.1 s'.2.2.2.1 s.2.2.2.2)
