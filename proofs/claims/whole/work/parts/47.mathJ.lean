/-! ===== mathematics of rounds: the i-th round ===== -/
theorem no_end {n : Nat} {ld : Nat → Nat} (hbd : ∀ i, i ≤ n → ld i ≤ n) {k : Nat} (hk : 1 ≤ k) (hk6 : k ≤ 6) (hE : edf ld k (2 * n) 0 = false) {i : Nat} (hi : i < n) {g : Nat → Nat} (hg : g ∈ wys n ld k i) : ¬ (wS ld g k = 1 ∧ wT ld g k = 0) := by
  intro h
  have := (end_iff hbd hk hk6).mp ⟨g, mem_wal.mpr ⟨i, hi, hg⟩, h⟩
  rw [hE] at this
  cases this
theorem pnt_cor {n : Nat} {ld : Nat → Nat} {k i : Nat} (hk : 1 ≤ k) (hi : i < n) {g : Nat → Nat} (hE : ¬ (wS ld g k = 1 ∧ wT ld g k = 0)) {c : Nat} (hon : ∀ q, q < k → onq ld g (c : Int) 1 q) (ho : orb ld c k = c) : pnt ld k g = some (c, 1) := by
  have eV := on_orb hon k (Nat.le_refl _)
  rw [ho] at eV
  refine (pnt_iff hk).mpr ⟨fun h1 => ?_, Nat.one_pos, Nat.gcd_one_right _, hon, eV⟩
  unfold wV at eV
  rw [h1] at eV
  exact hE ⟨h1, by omega⟩
theorem xps_cor {n : Nat} {ld : Nat → Nat} (hbd : ∀ i, i ≤ n → ld i ≤ n) {k : Nat} (hk : 1 ≤ k) (hk6 : k ≤ 6) (hE : edf ld k (2 * n) 0 = false) {i : Nat} (hi : i < n) {σ : Nat} (hσ : σ ≤ 1) : (i + σ, 1) ∈ xps n ld k i ↔ orb ld (i + σ) k = i + σ := by
  refine ⟨fun h => ?_, fun h => ?_⟩
  · obtain ⟨g, g1, g2⟩ := List.mem_filterMap.mp h
    obtain ⟨-, -, -, h4, h5⟩ := (pnt_iff hk).mp g2
    have := on_orb h4 k (Nat.le_refl _)
    have h5 : wV ld g ((i + σ : Nat) : Int) 1 k = ((i + σ : Nat) : Int) := h5
    omega
  · obtain ⟨pre, f, post, a1, a2, a3, a4, a5⟩ := wys_edge hbd (k := k) (i := i) (σ := σ) hk hi hσ
    have hf : f ∈ wys n ld k i := by rw [a1]; exact List.mem_append_right _ (List.mem_cons_self ..)
    exact List.mem_filterMap.mpr ⟨f, hf, pnt_cor hk hi (no_end hbd hk hk6 hE hi hf) a2 h⟩
def rd (ld : Nat → Nat) (k : Nat) (g : Nat → Nat) : Nat × Nat := rdp (pA ld k g).toNat (pB ld k g).toNat
theorem pnt_clo {n : Nat} {ld : Nat → Nat} {k : Nat} (hk : 1 ≤ k) {g : Nat → Nat} (hp : pok n ld g (k - 1)) (hc : clo ld k g) (hE : ¬ (wS ld g k = 1 ∧ wT ld g k = 0)) : pnt ld k g = some (rd ld k g) := by
  have h1 : wS ld g k ≠ 1 := fun h => hE ⟨h, clo_1 hk hp hc h⟩
  unfold pnt
  rw [if_neg h1, if_pos ((ionf_iff k 0).mpr (fun q _ hq => clo_on hk hp hc h1 q (by omega)))]
  rfl
theorem fm_map {α β : Type} {f : α → Option β} {r : α → β} : ∀ l : List α, (∀ g ∈ l, f g = some (r g)) → l.filterMap f = l.map r
  | [], _ => rfl
  | a :: l, h => by rw [List.filterMap_cons_some (h a (List.mem_cons_self ..)), fm_map l (fun g hg => h g (List.mem_cons_of_mem _ hg)), List.map_cons]
theorem fm_cong {α β : Type} {f f' : α → Option β} : ∀ l : List α, (∀ g ∈ l, f g = f' g) → l.filterMap f = l.filterMap f'
  | [], _ => rfl
  | a :: l, h => by rw [List.filterMap_cons, List.filterMap_cons, h a (List.mem_cons_self ..), fm_cong l (fun g hg => h g (List.mem_cons_of_mem _ hg))]
theorem cls_eq {n : Nat} {ld : Nat → Nat} (hbd : ∀ i, i ≤ n → ld i ≤ n) {k : Nat} (hk : 1 ≤ k) (hk6 : k ≤ 6) (hE : edf ld k (2 * n) 0 = false) {i : Nat} (hi : i < n) : (cls n ld k i).map (rd ld k) = (if dv (eps ld (2 * i)).1 k = true then [(i, 1)] else []) ++ inr n ld k i ++ (if dv (eps ld (2 * i + 1)).1 k = true then [(i + 1, 1)] else []) := by
  have e1 : (cls n ld k i).map (rd ld k) = (wys n ld k i).filterMap (fun g => if clb ld k g = true then pnt ld k g else none) := by
    rw [← List.filterMap_filter]
    refine (fm_map _ (fun g hg => ?_)).symm
    obtain ⟨m1, m2⟩ := List.mem_filter.mp hg
    exact pnt_clo hk (wys_ok hk hi m1).1 (clb_iff.mp m2) (no_end hbd hk hk6 hE hi m1)
  have hh : ∀ g ∈ wys n ld k i, ∀ p, (if clb ld k g = true then pnt ld k g else none) = some p → pnt ld k g = some p := by
    intro g _ p h
    split at h
    · exact h
    · cases h
  have mm : ∀ σ, σ ≤ 1 → ((i + σ, 1) ∈ (wys n ld k i).filterMap (fun g => if clb ld k g = true then pnt ld k g else none) ↔ dv (eps ld (2 * i + σ)).1 k = true) := by
    intro σ hσ
    refine ⟨fun h => ?_, fun h => ?_⟩
    · obtain ⟨g, g1, g2⟩ := List.mem_filterMap.mp h
      by_cases c : clb ld k g = true
      · rw [if_pos c] at g2
        obtain ⟨-, -, -, h4, h5⟩ := (pnt_iff hk).mp g2
        have oo := on_orb h4 k (Nat.le_refl _)
        have h5 : wV ld g ((i + σ : Nat) : Int) 1 k = ((i + σ : Nat) : Int) := h5
        obtain ⟨p1, p2⟩ := wys_ok hk hi g1
        have ho : orb ld (i + σ) k = i + σ := by omega
        have := (edge_dv (c := i + σ) hk hk6 hσ p1 (by rw [p2]) h4).mpr ⟨(clo_edge hk hσ p1 (by rw [p2]) h4 ho).mp (clb_iff.mp c), ho⟩
        rw [p2] at this
        exact this
      · rw [if_neg c] at g2; cases g2
    · obtain ⟨pre, f, post, a1, a2, a3, a4, a5⟩ := wys_edge hbd (k := k) (i := i) (σ := σ) hk hi hσ
      have hf : f ∈ wys n ld k i := by rw [a1]; exact List.mem_append_right _ (List.mem_cons_self ..)
      obtain ⟨p1, p2⟩ := wys_ok hk hi hf
      have d := (edge_dv (c := i + σ) hk hk6 hσ p1 (by rw [p2]) a2).mp (by rw [p2]; exact h)
      have cl := (clo_edge hk hσ p1 (by rw [p2]) a2 d.2).mpr d.1
      exact List.mem_filterMap.mpr ⟨f, hf, by rw [if_pos (clb_iff.mpr cl)]; exact pnt_cor hk hi (no_end hbd hk hk6 hE hi hf) a2 d.2⟩
  have fl : ((wys n ld k i).filterMap (fun g => if clb ld k g = true then pnt ld k g else none)).filter (fun p => decide (p ≠ (i, 1) ∧ p ≠ (i + 1, 1))) = inr n ld k i := by
    unfold inr xps
    rw [List.filter_filterMap, List.filter_filterMap]
    refine fm_cong _ (fun g hg => ?_)
    by_cases c : clb ld k g = true
    · rw [if_pos c]
    · rw [if_neg c]
      cases hp : pnt ld k g with
      | none => rfl
      | some p =>
        by_cases d : p ≠ (i, 1) ∧ p ≠ (i + 1, 1)
        · exfalso
          apply c
          rw [clb_iff]
          have m : p ∈ inr n ld k i := List.mem_filter.mpr ⟨List.mem_filterMap.mpr ⟨g, hg, hp⟩, decide_eq_true d⟩
          obtain ⟨-, -, -, b1, b2⟩ := inr_at hk hi m
          obtain ⟨c1, c2⟩ := in_cast b1 b2
          have s := (pnt_iff hk).mp hp
          have e0 := (wys_ok hk hi hg).2
          have : (0 : Int) < (p.2 : Int) := by have := s.2.1; omega
          exact on_clo (n := n) hk this s.2.2.2.1 s.2.2.2.2 (by rw [e0]; exact c1) (by rw [e0]; exact c2)
        · show none = Option.filter _ (some p)
          rw [Option.filter_some, if_neg (by rw [decide_eq_false d]; decide)]
  rw [e1, fm_ends hbd hk hi _ hh, fl]
  have m0 := mm 0 (by omega)
  have m1 := mm 1 (by omega)
  rw [Nat.add_zero, Nat.add_zero] at m0
  congr 1
  · congr 1
    by_cases c : dv (eps ld (2 * i)).1 k = true
    · rw [if_pos c, if_pos (m0.mpr c)]
    · rw [if_neg c, if_neg (fun q => c (m0.mp q))]
  · by_cases c : dv (eps ld (2 * i + 1)).1 k = true
    · rw [if_pos c, if_pos (m1.mpr c)]
    · rw [if_neg c, if_neg (fun q => c (m1.mp q))]
theorem ins_eq {n : Nat} {ld : Nat → Nat} (hbd : ∀ i, i ≤ n → ld i ≤ n) {k : Nat} (hk : 1 ≤ k) (hk6 : k ≤ 6) (hE : edf ld k (2 * n) 0 = false) {i : Nat} (hi : i < n) : ins n ld k i = ((inr n ld k i).length : Int) := by
  have e := congrArg List.length (cls_eq hbd hk hk6 hE hi)
  rw [List.length_map, cls_len hk hi, List.length_append, List.length_append] at e
  unfold ins fst1 lst1
  by_cases c : dv (eps ld (2 * i)).1 k = true <;> by_cases c' : dv (eps ld (2 * i + 1)).1 k = true
  · rw [if_pos c, if_pos c'] at *; rw [e]; simp only [List.length_cons, List.length_nil]; omega
  · rw [if_pos c, if_neg c'] at *; rw [e]; simp only [List.length_cons, List.length_nil]; omega
  · rw [if_neg c, if_pos c'] at *; rw [e]; simp only [List.length_cons, List.length_nil]; omega
  · rw [if_neg c, if_neg c'] at *; rw [e]; simp only [List.length_nil]; omega
def crl (ld : Nat → Nat) (k c : Nat) : List (Nat × Nat) := if orb ld c k = c then [(c, 1)] else []
def rls (n : Nat) (ld : Nat → Nat) (k : Nat) : Nat → Nat → List (Nat × Nat)
  | 0, _ => []
  | r + 1, c => crl ld k c ++ ((if c < n then inr n ld k c else []) ++ rls n ld k r (c + 1))
theorem rls_eq {n : Nat} {ld : Nat → Nat} (h1 : 1 ≤ n) (hbd : ∀ i, i ≤ n → ld i ≤ n) {k : Nat} (hk : 1 ≤ k) (hk6 : k ≤ 6) (hE : edf ld k (2 * n) 0 = false) : lsL n ld k n = rls n ld k (n + 1) 0 := by
  have A : ∀ m, m ≤ n → (List.range m).flatMap (fun c => crl ld k c ++ inr n ld k c) ++ rls n ld k (n + 1 - m) m = rls n ld k (n + 1) 0 := by
    intro m
    induction m with
    | zero => intro _; rfl
    | succ m ih =>
      intro hm
      rw [← ih (by omega), List.range_succ, List.flatMap_append, List.flatMap_cons, List.flatMap_nil, List.append_nil, show n + 1 - m = (n + 1 - (m + 1)) + 1 by omega]
      conv => rhs; unfold rls
      rw [if_pos (show m < n by omega), List.append_assoc, List.append_assoc]
  have c0 : ∀ i, i < n → (if (i, 1) ∈ xps n ld k i then [((i, 1) : Nat × Nat)] else []) = crl ld k i := by
    intro i hi
    have x := xps_cor hbd hk hk6 hE hi (σ := 0) (by omega)
    rw [Nat.add_zero] at x
    unfold crl
    by_cases c : orb ld i k = i
    · rw [if_pos c, if_pos (x.mpr c)]
    · rw [if_neg c, if_neg (fun q => c (x.mp q))]
  have c1 : ∀ i, i < n → (if (i + 1, 1) ∈ xps n ld k i then [((i + 1, 1) : Nat × Nat)] else []) = crl ld k (i + 1) := by
    intro i hi
    have x := xps_cor hbd hk hk6 hE hi (σ := 1) (by omega)
    unfold crl
    by_cases c : orb ld (i + 1) k = i + 1
    · rw [if_pos c, if_pos (x.mpr c)]
    · rw [if_neg c, if_neg (fun q => c (x.mp q))]
  have B : ∀ m, m + 1 ≤ n → lsL n ld k (m + 1) = (List.range (m + 1)).flatMap (fun c => crl ld k c ++ inr n ld k c) ++ crl ld k (m + 1) := by
    intro m
    induction m with
    | zero =>
      intro hm
      have s := (lsL_s hbd hk 0 (by omega)).2.2.2.2 (by omega)
      rw [c0 0 (by omega), c1 0 (by omega), if_neg (fun q => by cases q)] at s
      rw [s]
      show [] ++ _ ++ _ ++ _ = _
      rw [List.nil_append, List.range_succ, List.flatMap_append, List.flatMap_cons, List.flatMap_nil, List.append_nil]
      rfl
    | succ m ih =>
      intro hm
      have s := (lsL_s hbd hk (m + 1) (by omega)).2.2.2.2 (by omega)
      rw [c0 (m + 1) (by omega), c1 (m + 1) (by omega)] at s
      have ih := ih (by omega)
      have e : (if (m + 1, 1) ∈ lsL n ld k (m + 1) then lsL n ld k (m + 1) else lsL n ld k (m + 1) ++ crl ld k (m + 1)) = lsL n ld k (m + 1) := by
        by_cases c : orb ld (m + 1) k = m + 1
        · refine if_pos ?_
          rw [ih]
          refine List.mem_append_right _ ?_
          unfold crl
          rw [if_pos c]
          exact List.mem_singleton.mpr rfl
        · have : crl ld k (m + 1) = [] := if_neg c
          rw [this, List.append_nil, ite_self]
      rw [e, ih] at s
      rw [s, List.range_succ (n := m + 1), List.flatMap_append, List.flatMap_cons, List.flatMap_nil, List.append_nil, List.append_assoc, List.append_assoc, List.append_assoc, List.append_assoc]
  have b := B (n - 1) (by omega)
  rw [show n - 1 + 1 = n by omega] at b
  rw [b, ← A n (Nat.le_refl _), show n + 1 - n = 0 + 1 by omega]
  congr 1
  show _ = crl ld k n ++ ((if n < n then inr n ld k n else []) ++ [])
  rw [if_neg (by omega), List.append_nil, List.append_nil]
theorem stl_ab {ld g : Nat → Nat} {k : Nat} (h : wS ld g k ≠ 1) : stl (wT ld g k) (1 - wS ld g k) = some (pA ld k g, pB ld k g) := by
  unfold stl pA pB
  rw [if_neg (by omega)]
  by_cases c : wS ld g k < 1
  · rw [if_neg (by omega), if_pos (by omega), if_pos c, if_pos c]
  · rw [if_pos (by omega), if_neg (by omega), if_neg c, if_neg c]
    congr 2
    omega
theorem wS_b {n : Nat} {ld g : Nat → Nat} (hn5 : n ≤ 5) (hbd : ∀ i, i ≤ n → ld i ≤ n) {k : Nat} (hg : ∀ q, q < k → g q < n) : -((5 ^ k : Nat) : Int) ≤ wS ld g k ∧ wS ld g k ≤ ((5 ^ k : Nat) : Int) := by
  induction k with
  | zero => show -((1 : Nat) : Int) ≤ (1 : Int) ∧ (1 : Int) ≤ ((1 : Nat) : Int); omega
  | succ k ih =>
    have ih := ih (fun q hq => hg q (by omega))
    have l0 := hg k (by omega)
    have l1 := hbd (g k) (by omega)
    have l2 := hbd (g k + 1) (by omega)
    have m := mul5 (S := wS ld g k) (s := sl ld (g k)) (B := ((5 ^ k : Nat) : Int)) (by unfold sl; omega) (by unfold sl; omega) ih.1 ih.2
    rw [Nat.pow_succ]
    have e : wS ld g (k + 1) = wS ld g k * sl ld (g k) := Int.mul_comm _ _
    rw [e]
    omega
theorem fdf_in {n : Nat} {ld : Nat → Nat} (hn5 : n ≤ 5) (hbd : ∀ i, i ≤ n → ld i ≤ n) {k : Nat} (hk : 1 ≤ k) (hk6 : k ≤ 6) (hE : edf ld k (2 * n) 0 = false) (r c : Nat) (t : Int) (hc : c + (r + 1) = n + 1) (ht : 0 ≤ t) (ih : ∀ t' : Int, c + 1 + r = n + 1 → 0 ≤ t' → okF (fdf n ld k r (c + 1) t') ∧ (fdf n ld k r (c + 1) t').map (fun p => rdp p.1.toNat p.2.toNat) = (rls n ld k r (c + 1))[t'.toNat]?) : okF (if c < n ∧ t < ins n ld k c then wkf n ld c k c 1 0 (t + fst1 ld k c) else fdf n ld k r (c + 1) (if c < n then t - ins n ld k c else t)) ∧ (if c < n ∧ t < ins n ld k c then wkf n ld c k c 1 0 (t + fst1 ld k c) else fdf n ld k r (c + 1) (if c < n then t - ins n ld k c else t)).map (fun p => rdp p.1.toNat p.2.toNat) = ((if c < n then inr n ld k c else []) ++ rls n ld k r (c + 1))[t.toNat]? := by
  by_cases cn : c < n
  · rw [if_pos cn, if_pos cn, ins_eq hbd hk hk6 hE cn]
    by_cases c1 : t < ((inr n ld k c).length : Int)
    · rw [if_pos ⟨cn, c1⟩, List.getElem?_append_left (by omega)]
      have ce := cls_eq hbd hk hk6 hE cn
      have hf : 0 ≤ fst1 ld k c ∧ ((if dv (eps ld (2 * c)).1 k = true then [((c, 1) : Nat × Nat)] else []).length : Int) = fst1 ld k c := by
        unfold fst1
        split
        · exact ⟨by decide, rfl⟩
        · exact ⟨by decide, rfl⟩
      have hm : ((cls n ld k c).map (rd ld k))[(t + fst1 ld k c).toNat]? = (inr n ld k c)[t.toNat]? := by
        rw [ce, List.append_assoc, List.getElem?_append_right (by omega), List.getElem?_append_left (by omega)]
        congr 1
        omega
      obtain ⟨p, hp⟩ : ∃ p, (inr n ld k c)[t.toNat]? = some p := ⟨_, List.getElem?_eq_getElem (show t.toNat < (inr n ld k c).length by omega)⟩
      rw [hp, List.getElem?_map] at hm
      rw [hp]
      cases hg : (cls n ld k c)[(t + fst1 ld k c).toNat]? with
      | none => rw [hg] at hm; cases hm
      | some g =>
        rw [hg] at hm
        have hm : rd ld k g = p := Option.some.inj hm
        obtain ⟨m1, m2⟩ := List.mem_filter.mp (List.mem_of_getElem? hg)
        obtain ⟨p1, p2⟩ := wys_ok hk cn m1
        have hc' := clb_iff.mp m2
        have h1 : wS ld g k ≠ 1 := fun h => no_end hbd hk hk6 hE cn m1 ⟨h, clo_1 hk p1 hc' h⟩
        rw [wkf_cls hk cn (by omega) hg, stl_ab h1]
        refine ⟨fun x hx => ?_, by rw [← hm]; rfl⟩
        rw [← Option.some.inj hx]
        have o := clo_on hk p1 hc' h1 0 (by omega)
        unfold onq at o
        rw [wV_0] at o
        have b := wS_b hn5 hbd (k := k) (g := g) (fun q hq => p1.1 q (by omega))
        have hB := pB_pos h1
        have hle : pB ld k g ≤ 15626 := by
          have : (5 ^ k : Nat) ≤ 5 ^ 6 := Nat.pow_le_pow_right (by decide) hk6
          have : (5 ^ k : Nat) ≤ 15625 := this
          unfold pB
          split <;> omega
        have z0 := Int.mul_nonneg (show (0 : Int) ≤ (g 0 : Int) by omega) (show 0 ≤ pB ld k g by omega)
        have z1 : ((g 0 : Int) + 1) * pB ld k g ≤ 6 * pB ld k g := Int.mul_le_mul_of_nonneg_right (by omega) (by omega)
        show 0 ≤ pA ld k g ∧ pA ld k g < 2 ^ 40 ∧ 0 < pB ld k g ∧ pB ld k g < 2 ^ 40
        omega
    · rw [if_neg (fun q => c1 q.2), List.getElem?_append_right (by omega)]
      have := ih (t - (inr n ld k c).length) (by omega) (by omega)
      rw [show (t - ((inr n ld k c).length : Int)).toNat = t.toNat - (inr n ld k c).length by omega] at this
      exact this
  · rw [if_neg (fun q => cn q.1), if_neg cn, if_neg cn, List.nil_append]
    exact ih t (by omega) ht
theorem fdf_sp {n : Nat} {ld : Nat → Nat} (hn5 : n ≤ 5) (hbd : ∀ i, i ≤ n → ld i ≤ n) {k : Nat} (hk : 1 ≤ k) (hk6 : k ≤ 6) (hE : edf ld k (2 * n) 0 = false) : ∀ (r c : Nat) (t : Int), c + r = n + 1 → 0 ≤ t → okF (fdf n ld k r c t) ∧ (fdf n ld k r c t).map (fun p => rdp p.1.toNat p.2.toNat) = (rls n ld k r c)[t.toNat]?
  | 0, c, t, hc, ht => ⟨(fun p h => by cases h), rfl⟩
  | r + 1, c, t, hc, ht => by
    have hs := sor_dv (n := n) hbd (c := c) (by omega) hk
    unfold fdf rls crl
    by_cases u : orb ld c k = c
    · have du := hs.mpr u
      rw [if_pos u, du]
      by_cases t0 : t = 0
      · rw [if_pos ⟨rfl, t0⟩, t0]
        have e : stl (c : Int) 1 = some ((c : Int), 1) := by
          unfold stl
          rw [if_neg (by decide), if_neg (by decide), if_pos (by decide)]
        rw [e]
        refine ⟨fun p h => ?_, ?_⟩
        · rw [← Option.some.inj h]
          exact ⟨by show (0 : Int) ≤ c; omega, by show (c : Int) < 2 ^ 40; omega, by show (0 : Int) < 1; decide, by show (1 : Int) < 2 ^ 40; decide⟩
        · show some (rdp (c : Int).toNat (1 : Int).toNat) = some (c, 1)
          unfold rdp
          rw [Int.toNat_natCast, show (1 : Int).toNat = 1 from rfl, Nat.gcd_one_right, Nat.div_one]
      · rw [if_neg (fun q => t0 q.2), if_pos rfl, List.getElem?_append_right (by show 1 ≤ _; omega)]
        show okF (if c < n ∧ t - 1 < ins n ld k c then wkf n ld c k c 1 0 (t - 1 + fst1 ld k c) else fdf n ld k r (c + 1) (if c < n then t - 1 - ins n ld k c else t - 1)) ∧ Option.map _ (if c < n ∧ t - 1 < ins n ld k c then wkf n ld c k c 1 0 (t - 1 + fst1 ld k c) else fdf n ld k r (c + 1) (if c < n then t - 1 - ins n ld k c else t - 1)) = (_ ++ _)[t.toNat - 1]?
        rw [show t.toNat - 1 = (t - 1).toNat by omega]
        exact fdf_in hn5 hbd hk hk6 hE r c (t - 1) hc (by omega) (fdf_sp hn5 hbd hk hk6 hE r (c + 1))
    · have du : dv (sor n ld c) k = false := by
        cases h : dv (sor n ld c) k with
        | false => rfl
        | true => exact absurd (hs.mp h) u
      rw [if_neg u, du]
      rw [if_neg (fun q => absurd q.1 (by decide)), if_neg (show ¬ (false = true) by decide), Int.sub_zero, List.nil_append]
      exact fdf_in hn5 hbd hk hk6 hE r c t hc ht (fdf_sp hn5 hbd hk hk6 hE r (c + 1))
/-- the i-th round -/
theorem round_eq {n : Nat} {ld : Nat → Nat} (h1 : 1 ≤ n) (hn5 : n ≤ 5) (hbd : ∀ i, i ≤ n → ld i ≤ n) {k : Nat} (hk : 1 ≤ k) (hk6 : k ≤ 6) (hE : edf ld k (2 * n) 0 = false) (i : Nat) (what : Int32) : okF (fdf n ld k (n + 1) 0 (i : Int)) ∧ rnd (fdf n ld k (n + 1) 0 (i : Int)) what = rnm (fnd n ld k n) i what := by
  obtain ⟨a, b⟩ := fdf_sp hn5 hbd hk hk6 hE (n + 1) 0 (i : Int) (by omega) (by omega)
  refine ⟨a, ?_⟩
  unfold rnm
  rw [fnd_1 hbd hk hk6, hE, if_neg (by decide), fnd_L hk, rls_eq h1 hbd hk hk6 hE]
  rw [Int.toNat_natCast] at b
  rw [← b]
  cases fdf n ld k (n + 1) 0 (i : Int) with
  | none => rfl
  | some p =>
    show lN (low p.1.toNat p.2.toNat what) = lN (if what = 0 then (rdp p.1.toNat p.2.toNat).1 else (rdp p.1.toNat p.2.toNat).2)
    unfold low rdp
    split <;> rfl
