/-! ===== mathematics of rounds: closed ways, counted and found ===== -/
def clb (ld : Nat → Nat) (k : Nat) (g : Nat → Nat) : Bool := decide (wS ld g (k - 1) ≠ 0) && cov ld (g (k - 1)) (g 0)
theorem clb_iff {ld : Nat → Nat} {k : Nat} {g : Nat → Nat} : clb ld k g = true ↔ clo ld k g := by
  unfold clb clo
  rw [Bool.and_eq_true, decide_eq_true_iff]
def cls (n : Nat) (ld : Nat → Nat) (k i : Nat) : List (Nat → Nat) := (wys n ld k i).filter (clb ld k)
theorem sumN_0 {n : Nat} {f : Nat → Nat} (h : ∀ i, i < n → f i = 0) : sumN n f = 0 := by
  induction n with
  | zero => rfl
  | succ n ih =>
    show sumN n f + f n = 0
    rw [ih (fun i hi => h i (by omega)), h n (by omega)]
theorem sumN_e {n : Nat} {f f' : Nat → Nat} (h : ∀ i, i < n → f i = f' i) : sumN n f = sumN n f' := by
  induction n with
  | zero => rfl
  | succ n ih =>
    show sumN n f + f n = sumN n f' + f' n
    rw [ih (fun i hi => h i (by omega)), h n (by omega)]
theorem sumN_1 {n : Nat} {f : Nat → Nat} {x : Nat} (hx : x < n) (h : ∀ i, i < n → i ≠ x → f i = 0) : sumN n f = f x := by
  induction n with
  | zero => omega
  | succ n ih =>
    show sumN n f + f n = f x
    by_cases c : x = n
    · rw [c, sumN_0 (fun i hi => h i (by omega) (by omega)), Nat.zero_add]
    · rw [ih (by omega) (fun i hi hn => h i (by omega) hn), h n (by omega) (fun e => c e.symm), Nat.add_zero]
theorem sumN_f (f : Nat → Nat) : ∀ n, sumN (n + 1) f = f 0 + sumN n (fun i => f (i + 1))
  | 0 => by show 0 + f 0 = f 0 + 0; omega
  | n + 1 => by
    show sumN (n + 1) f + f (n + 1) = f 0 + (sumN n (fun i => f (i + 1)) + f (n + 1))
    rw [sumN_f f n]; omega
theorem sumN_r (f : Nat → Nat) : ∀ n, sumN n (fun i => f (n - 1 - i)) = sumN n f
  | 0 => rfl
  | n + 1 => by
    rw [sumN_f]
    show f (n + 1 - 1 - 0) + _ = sumN n f + f n
    rw [show n + 1 - 1 - 0 = n by omega, ← sumN_r f n, Nat.add_comm]
    congr 1
    exact sumN_e (fun i hi => by rw [show n + 1 - 1 - (i + 1) = n - 1 - i by omega])
theorem sumN_j {n : Nat} {s : Int} (f : Nat → Nat) : sumN n (fun i => f (jth n s i)) = sumN n f := by
  by_cases c : 0 < s
  · exact sumN_e (fun i _ => by unfold jth; rw [if_pos c])
  · rw [← sumN_r f n]
    exact sumN_e (fun i _ => by unfold jth; rw [if_neg c])
theorem len_fm {α : Type} (F : Nat → List α) : ∀ n, ((List.range n).flatMap F).length = sumN n (fun i => (F i).length)
  | 0 => rfl
  | n + 1 => by
    rw [List.range_succ, List.flatMap_append, List.length_append, len_fm F n, List.flatMap_cons, List.flatMap_nil, List.append_nil]
    rfl
theorem fil_fm {α : Type} {P : α → Bool} {F : Nat → List α} : ∀ l : List Nat, (l.flatMap F).filter P = l.flatMap (fun x => (F x).filter P)
  | [] => rfl
  | a :: l => by rw [List.flatMap_cons, List.filter_append, fil_fm l, List.flatMap_cons]
theorem cl_child {n : Nat} {ld : Nat → Nat} {k r d : Nat} {sp : Nat → Nat} (e : wS ld sp (d + 1) ≠ 0) : (lvs n ld (r + 1) d sp).filter (clb ld k) = (List.range n).flatMap (fun c => if cov ld (sp d) (jth n (wS ld sp (d + 1)) c) = true then (lvs n ld r (d + 1) (pst sp (d + 1) (jth n (wS ld sp (d + 1)) c))).filter (clb ld k) else []) := by
  conv => lhs; unfold lvs
  rw [if_neg e, fil_fm]
  congr 1
  funext c
  split <;> rfl
theorem cl_len {n : Nat} {ld : Nat → Nat} (hn : 1 ≤ n) {k : Nat} : ∀ (r d : Nat) (sp : Nat → Nat), d + r + 1 = k → pok n ld sp d → wS ld sp d ≠ 0 → ((lvs n ld r d sp).filter (clb ld k)).length = tp n ld (r + 1) (sp d) (sp 0)
  | 0, d, sp, hk, hp, hS => by
    have h0 := hp.1 0 (by omega)
    have e1 : tp n ld (0 + 1) (sp d) (sp 0) = if cov ld (sp d) (sp 0) = true then 1 else 0 := by
      show sumN n (fun b => if cov ld (sp d) b = true then (if b = sp 0 then 1 else 0) else 0) = _
      rw [sumN_1 h0 (fun i _ hi => by rw [if_neg hi, ite_self]), if_pos rfl]
    rw [e1]
    show (List.filter (clb ld k) [sp]).length = _
    have e2 : clb ld k sp = cov ld (sp d) (sp 0) := by
      unfold clb
      rw [show k - 1 = d by omega, decide_eq_true hS, Bool.true_and]
    by_cases c : cov ld (sp d) (sp 0) = true
    · rw [List.filter_cons_of_pos (by rw [e2]; exact c), if_pos c]; rfl
    · rw [List.filter_cons_of_neg (by rw [e2]; exact c), if_neg c]; rfl
  | r + 1, d, sp, hk, hp, hS => by
    by_cases e : wS ld sp (d + 1) = 0
    · have hs : sl ld (sp d) = 0 := by
        rcases Int.mul_eq_zero.mp (show sl ld (sp d) * wS ld sp d = 0 from e) with z | z
        · exact z
        · exact absurd z hS
      have e1 : tp n ld (r + 1 + 1) (sp d) (sp 0) = 0 := by
        show sumN n _ = 0
        refine sumN_0 (fun i _ => if_neg (fun q => sl_ne q hs))
      rw [e1, List.length_eq_zero_iff, List.filter_eq_nil_iff]
      intro g hg q
      have ok := lvs_ok hn (r + 1) d sp hp g hg
      refine wS_ne (clb_iff.mp q).1 (d + 1) (by omega) ?_
      rw [wS_c (sp' := sp) (d + 1) (fun x hx => ok.2 x (by omega))]
      exact e
    · rw [cl_child e, len_fm]
      show _ = sumN n (fun b => if cov ld (sp d) b = true then tp n ld (r + 1) b (sp 0) else 0)
      rw [← sumN_j (s := wS ld sp (d + 1)) (fun b => if cov ld (sp d) b = true then tp n ld (r + 1) b (sp 0) else 0)]
      refine sumN_e (fun i hi => ?_)
      by_cases c : cov ld (sp d) (jth n (wS ld sp (d + 1)) i) = true
      · rw [if_pos c, if_pos c, cl_len hn r (d + 1) _ (by omega) (hp.s (jth_lt hi) (fun _ => c) (fun z => absurd z e)) (by rw [wS_c (sp' := sp) _ (fun x hx => pst_n (by omega))]; exact e), pst_s, pst_n (by omega)]
      · rw [if_neg c, if_neg c]; rfl
theorem cls_len {n : Nat} {ld : Nat → Nat} {k i : Nat} (hk : 1 ≤ k) (hi : i < n) : (cls n ld k i).length = tp n ld k i i := by
  have := cl_len (by omega) (k := k) (k - 1) 0 (pst (fun _ => 0) 0 i) (by omega) (pok_0 (ld := ld) hi) (by show ¬ (1 : Int) = 0; decide)
  rw [pst_s, show k - 1 + 1 = k by omega] at this
  exact this
theorem nsf_sp {n : Nat} {ld : Nat → Nat} {c home rest : Nat} {up : Bool} {α : Type} {F : Nat → List α} {g : α} (hF : ∀ x, x < n → (F x).length = if cov ld c (if up = true then x else n - 1 - x) = true then tp n ld rest (if up = true then x else n - 1 - x) home else 0) : ∀ (r q : Nat) (t : Int), q + r = n → 0 ≤ t → ((List.range' q r).flatMap F)[t.toNat]? = some g → ∃ x t', x < n ∧ 0 ≤ t' ∧ nsf n ld c home rest up r q t = (((if up = true then x else n - 1 - x : Nat) : Int), t') ∧ (F x)[t'.toNat]? = some g
  | 0, q, t, hq, ht, h => by cases h
  | r + 1, q, t, hq, ht, h => by
    have hl := hF q (by omega)
    have hl : (if cov ld c (if up = true then q else n - 1 - q) = true then (tp n ld rest (if up = true then q else n - 1 - q) home : Int) else 0) = ((F q).length : Int) := by rw [hl]; generalize (if up = true then q else n - 1 - q) = y; split <;> rfl
    unfold nsf
    rw [hl]
    rw [List.range'_succ, List.flatMap_cons] at h
    by_cases c1 : t < ((F q).length : Int)
    · rw [if_pos c1]
      rw [List.getElem?_append_left (by omega)] at h
      exact ⟨q, t, by omega, ht, rfl, h⟩
    · rw [if_neg c1]
      rw [List.getElem?_append_right (by omega)] at h
      exact nsf_sp hF r (q + 1) (t - (F q).length) (by omega) (by omega) (by rw [show (t - ((F q).length : Int)).toNat = t.toNat - (F q).length by omega]; exact h)
theorem wkf_sp {n : Nat} {ld : Nat → Nat} (hn : 1 ≤ n) {k : Nat} {g : Nat → Nat} : ∀ (r d : Nat) (sp : Nat → Nat) (t : Int), d + r + 1 = k → pok n ld sp d → wS ld sp d ≠ 0 → 0 ≤ t → ((lvs n ld r d sp).filter (clb ld k))[t.toNat]? = some g → wkf n ld (sp 0) (r + 1) (sp d) (wS ld sp d) (wT ld sp d) t = stl (wT ld g k) (1 - wS ld g k)
  | 0, d, sp, t, hk, hp, hS, ht, h => by
    have h0 := hp.1 0 (by omega)
    have hm := List.mem_of_getElem? h
    obtain ⟨m1, m2⟩ := List.mem_filter.mp hm
    have eg : g = sp := List.mem_singleton.mp m1
    subst eg
    have e2 := (clb_iff.mp m2).2
    rw [show k - 1 = d by omega] at e2
    have t0 : t.toNat = 0 := by
      have hl : t.toNat < ((lvs n ld 0 d g).filter (clb ld k)).length := by
        rcases Nat.lt_or_ge t.toNat ((lvs n ld 0 d g).filter (clb ld k)).length with q | q
        · exact q
        · rw [List.getElem?_eq_none q] at h; cases h
      have : ((lvs n ld 0 d g).filter (clb ld k)).length ≤ 1 := List.length_filter_le _ _
      omega
    obtain ⟨up, eup⟩ : ∃ up, up = decide (0 < wS ld g d * sl ld (g d)) := ⟨_, rfl⟩
    obtain ⟨x0, hx0, ex0⟩ : ∃ x0, x0 < n ∧ (if up = true then x0 else n - 1 - x0) = g 0 := by
      by_cases c : up = true
      · exact ⟨g 0, h0, if_pos c⟩
      · exact ⟨n - 1 - g 0, by omega, by rw [if_neg c]; omega⟩
    have key := nsf_sp (n := n) (ld := ld) (c := g d) (home := g 0) (rest := 0) (up := up) (F := fun x => if cov ld (g d) (if up = true then x else n - 1 - x) = true ∧ (if up = true then x else n - 1 - x) = g 0 then [g] else []) (g := g) (fun x hx => by
      show (if _ then [g] else []).length = if _ then (if _ = _ then 1 else 0) else 0
      by_cases c1 : cov ld (g d) (if up = true then x else n - 1 - x) = true
      · by_cases c2 : (if up = true then x else n - 1 - x) = g 0
        · rw [if_pos ⟨c1, c2⟩, if_pos c1, if_pos c2]; rfl
        · rw [if_neg (fun q => c2 q.2), if_pos c1, if_neg c2]; rfl
      · rw [if_neg (fun q => c1 q.1), if_neg c1]; rfl) n 0 t (by omega) ht (by
      rw [t0, ← List.range_eq_range', range_split hx0, List.flatMap_append, List.flatMap_cons, if_pos ⟨by rw [ex0]; exact e2, ex0⟩]
      rw [show (List.range x0).flatMap _ = [] from List.flatMap_eq_nil_iff.mpr (fun x hx => if_neg (fun q => by
        have := List.mem_range.mp hx
        have q2 := q.2
        rw [← ex0] at q2
        split at q2 <;> omega))]
      rfl)
    obtain ⟨x, t', k1, k2, k3, k4⟩ := key
    have k5 : (if up = true then x else n - 1 - x) = g 0 := by
      by_cases c : cov ld (g d) (if up = true then x else n - 1 - x) = true ∧ (if up = true then x else n - 1 - x) = g 0
      · exact c.2
      · rw [if_neg c] at k4; cases k4
    unfold wkf
    rw [← eup, k3]
    rw [if_neg (by show ¬ (_ : Int) = -1; omega)]
    show wkf n ld (g 0) 0 _ _ _ _ = _
    unfold wkf
    rw [show k = d + 1 by omega]
    show stl (sl ld (g d) * wT ld g d + ld (g d) - sl ld (g d) * g d) (1 - wS ld g d * sl ld (g d)) = stl (nT ld (g d) (wT ld g d)) (1 - sl ld (g d) * wS ld g d)
    rw [Int.mul_comm (wS ld g d)]
    rfl
  | r + 1, d, sp, t, hk, hp, hS, ht, h => by
    by_cases e : wS ld sp (d + 1) = 0
    · exfalso
      have hm := List.mem_of_getElem? h
      obtain ⟨m1, m2⟩ := List.mem_filter.mp hm
      have ok := lvs_ok hn (r + 1) d sp hp g m1
      refine wS_ne (clb_iff.mp m2).1 (d + 1) (by omega) ?_
      rw [wS_c (sp' := sp) (d + 1) (fun x hx => ok.2 x (by omega))]
      exact e
    · rw [cl_child e, List.range_eq_range'] at h
      have eup : decide (0 < wS ld sp d * sl ld (sp d)) = decide (0 < wS ld sp (d + 1)) := by rw [Int.mul_comm]; rfl
      have ech : ∀ x, (if decide (0 < wS ld sp d * sl ld (sp d)) = true then x else n - 1 - x) = jth n (wS ld sp (d + 1)) x := by
        intro x
        rw [eup]
        unfold jth
        by_cases c : 0 < wS ld sp (d + 1)
        · rw [if_pos c, if_pos (decide_eq_true c)]
        · rw [if_neg c, if_neg (by rw [decide_eq_false c]; decide)]
      have eS : ∀ j, wS ld (pst sp (d + 1) j) (d + 1) = wS ld sp (d + 1) := fun j => wS_c _ (fun x hx => pst_n (by omega))
      have eT : ∀ j, wT ld (pst sp (d + 1) j) (d + 1) = wT ld sp (d + 1) := fun j => wT_c _ (fun x hx => pst_n (by omega))
      obtain ⟨x, t', k1, k2, k3, k4⟩ := nsf_sp (n := n) (ld := ld) (c := sp d) (home := sp 0) (rest := r + 1) (up := decide (0 < wS ld sp d * sl ld (sp d))) (fun x hx => by
        rw [ech]
        by_cases c : cov ld (sp d) (jth n (wS ld sp (d + 1)) x) = true
        · rw [if_pos c, if_pos c, cl_len hn r (d + 1) _ (by omega) (hp.s (jth_lt hx) (fun _ => c) (fun z => absurd z e)) (by rw [eS]; exact e), pst_s, pst_n (by omega)]
        · rw [if_neg c, if_neg c]; rfl) n 0 t (by omega) ht h
      rw [ech] at k3
      by_cases c : cov ld (sp d) (jth n (wS ld sp (d + 1)) x) = true
      · rw [if_pos c] at k4
        have ih := wkf_sp hn r (d + 1) (pst sp (d + 1) (jth n (wS ld sp (d + 1)) x)) t' (by omega) (hp.s (jth_lt k1) (fun _ => c) (fun z => absurd z e)) (by rw [eS]; exact e) k2 k4
        rw [eS, eT, pst_s, pst_n (by omega)] at ih
        unfold wkf
        rw [k3, if_neg (by show ¬ (_ : Int) = -1; omega)]
        rw [← ih, Int.toNat_natCast]
        rw [Int.mul_comm (wS ld sp d)]
        rfl
      · rw [if_neg c] at k4; cases k4
theorem wkf_cls {n : Nat} {ld : Nat → Nat} {k i : Nat} (hk : 1 ≤ k) (hi : i < n) {g : Nat → Nat} {t : Int} (ht : 0 ≤ t) (h : (cls n ld k i)[t.toNat]? = some g) : wkf n ld i k i 1 0 t = stl (wT ld g k) (1 - wS ld g k) := by
  have := wkf_sp (by omega) (k := k) (k - 1) 0 (pst (fun _ => 0) 0 i) t (by omega) (pok_0 (ld := ld) hi) (by show ¬ (1 : Int) = 0; decide) ht h
  rw [pst_s, show k - 1 + 1 = k by omega] at this
  exact this
