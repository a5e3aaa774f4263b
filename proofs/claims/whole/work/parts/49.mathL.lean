/-! ===== mathematics of rounds: closed ways that repeat ===== -/
theorem len_same {α : Type} {l1 l2 : List α} (h1 : l1.Nodup) (h2 : l2.Nodup) (h : ∀ a, a ∈ l1 ↔ a ∈ l2) : l1.length = l2.length := ((List.perm_ext_iff_of_nodup h1 h2).mpr h).length_eq
theorem nd_map {α β : Type} {f : α → β} {l : List α} (hl : l.Nodup) (h : ∀ a ∈ l, ∀ b ∈ l, f a = f b → a = b) : (l.map f).Nodup := by
  unfold List.Nodup
  rw [List.pairwise_map]
  exact List.Pairwise.imp_of_mem (R := fun a b => a ≠ b) (fun ha hb hab e => hab (h _ ha _ hb e)) hl
theorem nd_fil {α : Type} {P : α → Bool} {l : List α} (hl : l.Nodup) : (l.filter P).Nodup := by
  unfold List.Nodup
  rw [List.pairwise_filter]
  exact List.Pairwise.imp (fun h _ _ => h) hl
def clA (n : Nat) (ld : Nat → Nat) (k : Nat) : List (Nat → Nat) := (List.range n).flatMap (cls n ld k)
theorem clA_nd {n : Nat} {ld : Nat → Nat} {k : Nat} (hk : 1 ≤ k) : (clA n ld k).Nodup := by
  refine nodup_fm List.nodup_range (fun a ha => nd_fil (wys_nd (List.mem_range.mp ha))) (fun a ha b hb hab x hx hy => hab ?_)
  have e1 := (wys_ok hk (List.mem_range.mp ha) (List.mem_filter.mp hx).1).2
  have e2 := (wys_ok hk (List.mem_range.mp hb) (List.mem_filter.mp hy).1).2
  exact e1.symm.trans e2
theorem clA_len {n : Nat} {ld : Nat → Nat} {k : Nat} (hk : 1 ≤ k) : (clA n ld k).length = trc n ld k := by
  unfold clA
  rw [len_fm]
  exact sumN_e (fun i hi => cls_len hk hi)
theorem clA_mem {n : Nat} {ld : Nat → Nat} {k : Nat} (hk : 1 ≤ k) {g : Nat → Nat} : g ∈ clA n ld k ↔ cyc n ld k g := by
  unfold clA
  rw [List.mem_flatMap]
  refine ⟨fun ⟨i, a, b⟩ => ?_, fun h => ?_⟩
  · obtain ⟨m1, m2⟩ := List.mem_filter.mp b
    exact clo_cyc hk (wys_ok hk (List.mem_range.mp a) m1).1 (clb_iff.mp m2)
  · obtain ⟨p1, p2⟩ := cyc_pok hk h
    exact ⟨g 0, List.mem_range.mpr (h.1 0 (by omega)), List.mem_filter.mpr ⟨wys_all hk p1, clb_iff.mpr p2⟩⟩
def per (d k : Nat) (g : Nat → Nat) : Bool := decide (∀ q, q < k - d → g (q + d) = g q)
theorem per_iff {d k : Nat} {g : Nat → Nat} : per d k g = true ↔ ∀ q, q + d < k → g (q + d) = g q := by
  unfold per
  rw [decide_eq_true_iff]
  exact ⟨fun h q hq => h q (by omega), fun h q hq => h q (by omega)⟩
def ext (d k : Nat) (h : Nat → Nat) : Nat → Nat := fun q => if q < k then h (q % d) else 0
theorem per_md {d k : Nat} {g : Nat → Nat} (hd : 1 ≤ d) (h : ∀ q, q + d < k → g (q + d) = g q) : ∀ f q, q < f → q < k → g q = g (q % d)
  | 0, q, hf, _ => by omega
  | f + 1, q, hf, hq => by
    by_cases c : q < d
    · rw [Nat.mod_eq_of_lt c]
    · have e := h (q - d) (by omega)
      rw [show q - d + d = q by omega] at e
      rw [e, per_md hd h f (q - d) (by omega) (by omega), ← Nat.mod_eq_sub_mod (by omega)]
theorem md_s {d : Nat} (hd : 1 ≤ d) (q : Nat) : (q % d + 1 < d ∧ (q + 1) % d = q % d + 1) ∨ (q % d + 1 = d ∧ (q + 1) % d = 0) := by
  have h := Nat.mod_lt q (show 0 < d by omega)
  have e : (q + 1) % d = (q % d + 1) % d := by rw [Nat.mod_add_mod]
  by_cases c : q % d + 1 < d
  · left
    exact ⟨c, by rw [e, Nat.mod_eq_of_lt c]⟩
  · right
    have c : q % d + 1 = d := by omega
    exact ⟨c, by rw [e, c, Nat.mod_self]⟩
theorem per_len {n : Nat} {ld : Nat → Nat} {d k : Nat} (hd : 1 ≤ d) (hdk : d ≤ k) (hm : k % d = 0) : ((clA n ld k).filter (per d k)).length = trc n ld d := by
  have hk : 1 ≤ k := by omega
  have kd : (k - 1) % d + 1 = d := by
    rcases md_s hd (k - 1) with ⟨a, b⟩ | ⟨a, b⟩
    · rw [show k - 1 + 1 = k by omega, hm] at b; omega
    · exact a
  have e0 : (clA n ld d).length = ((clA n ld d).map (ext d k)).length := (List.length_map ..).symm
  rw [← clA_len (ld := ld) hd, e0]
  have em : ∀ q, q < d → q % d = q := fun q hq => Nat.mod_eq_of_lt hq
  refine len_same (nd_fil (clA_nd hk)) (nd_map (clA_nd hd) (fun a ha b hb e => ?_)) (fun g => ?_)
  · have ca := (clA_mem hd).mp ha
    have cb := (clA_mem hd).mp hb
    funext q
    by_cases c : q < d
    · have := congrFun e q
      unfold ext at this
      rw [if_pos (by omega), if_pos (by omega), em q c] at this
      exact this
    · rw [ca.2.1 q (by omega), cb.2.1 q (by omega)]
  · rw [List.mem_filter, List.mem_map, clA_mem hk, per_iff]
    refine ⟨fun ⟨h, p⟩ => ?_, fun ⟨h, hh, e⟩ => ?_⟩
    · refine ⟨fun q => if q < d then g q else 0, (clA_mem hd).mpr ⟨fun q hq => ?_, fun q hq => if_neg (by omega), fun q hq => ?_, ?_⟩, ?_⟩
      · show (if q < d then g q else 0) < n
        rw [if_pos hq]; exact h.1 q (by omega)
      · show cov ld (if q < d then g q else 0) (if q + 1 < d then g (q + 1) else 0) = true
        rw [if_pos (by omega), if_pos hq]; exact h.2.2.1 q (by omega)
      · show cov ld (if d - 1 < d then g (d - 1) else 0) (if 0 < d then g 0 else 0) = true
        rw [if_pos (by omega), if_pos (by omega)]
        by_cases c : d = k
        · rw [c]; exact h.2.2.2
        · have := h.2.2.1 (d - 1) (by omega)
          have e := p 0 (by omega)
          rw [Nat.zero_add] at e
          rw [show d - 1 + 1 = d by omega, e] at this
          exact this
      · funext q
        unfold ext
        by_cases c : q < k
        · rw [if_pos c]
          show (if q % d < d then g (q % d) else 0) = g q
          rw [if_pos (Nat.mod_lt _ (by omega))]
          exact (per_md hd p (q + 1) q (by omega) c).symm
        · rw [if_neg c, h.2.1 q (by omega)]
    · have hc := (clA_mem hd).mp hh
      subst e
      unfold ext
      refine ⟨⟨fun q hq => ?_, fun q hq => if_neg (by omega), fun q hq => ?_, ?_⟩, fun q hq => ?_⟩
      · show (if q < k then h (q % d) else 0) < n
        rw [if_pos hq]; exact hc.1 _ (Nat.mod_lt _ (by omega))
      · show cov ld (if q < k then h (q % d) else 0) (if q + 1 < k then h ((q + 1) % d) else 0) = true
        rw [if_pos (by omega), if_pos hq]
        rcases md_s hd q with ⟨a, b⟩ | ⟨a, b⟩
        · rw [b]; exact hc.2.2.1 _ a
        · rw [b, show q % d = d - 1 by omega]; exact hc.2.2.2
      · show cov ld (if k - 1 < k then h ((k - 1) % d) else 0) (if 0 < k then h (0 % d) else 0) = true
        rw [if_pos (by omega), if_pos (by omega), show (k - 1) % d = d - 1 by omega, Nat.zero_mod]; exact hc.2.2.2
      · show (if q + d < k then h ((q + d) % d) else 0) = (if q < k then h (q % d) else 0)
        rw [if_pos hq, if_pos (by omega), Nat.add_mod_right]
/-- a way that repeats no shorter one -/
def nwP (k : Nat) (g : Nat → Nat) : Bool := match k with
  | 2 => !per 1 2 g
  | 3 => !per 1 3 g
  | 4 => !per 2 4 g
  | 5 => !per 1 5 g
  | 6 => !per 2 6 g && !per 3 6 g
  | _ => true
theorem per_1 {d k : Nat} {g : Nat → Nat} (hd : 1 ≤ d) (h : per 1 k g = true) : per d k g = true := by
  have h := per_iff.mp h
  have all : ∀ q, q < k → g q = g 0 := fun q hq => by
    have := per_md (Nat.le_refl 1) h (q + 1) q (by omega) hq
    rw [Nat.mod_one] at this
    exact this
  exact per_iff.mpr (fun q hq => by rw [all q (by omega), all (q + d) hq])
theorem per_23 {g : Nat → Nat} (h2 : per 2 6 g = true) (h3 : per 3 6 g = true) : per 1 6 g = true := by
  have h2 := per_iff.mp h2
  have h3 := per_iff.mp h3
  have a0 := h2 0 (by omega)
  have a1 := h2 1 (by omega)
  have a2 := h2 2 (by omega)
  have a3 := h2 3 (by omega)
  have b0 := h3 0 (by omega)
  have b1 := h3 1 (by omega)
  have b2 := h3 2 (by omega)
  simp only [Nat.zero_add, Nat.reduceAdd] at a0 a1 a2 a3 b0 b1 b2
  refine per_iff.mpr (fun q hq => ?_)
  have : q = 0 ∨ q = 1 ∨ q = 2 ∨ q = 3 ∨ q = 4 := by omega
  rcases this with rfl | rfl | rfl | rfl | rfl
  · show g 1 = g 0; omega
  · show g 2 = g 1; omega
  · show g 3 = g 2; omega
  · show g 4 = g 3; omega
  · show g 5 = g 4; omega
theorem nwP_no {k : Nat} (hk6 : k ≤ 6) {g : Nat → Nat} (h : nwP k g = true) {d : Nat} (hd : 1 ≤ d) (hdk : d < k) (hm : k % d = 0) : per d k g ≠ true := by
  intro p
  have hk : k = 1 ∨ k = 2 ∨ k = 3 ∨ k = 4 ∨ k = 5 ∨ k = 6 := by omega
  have hd5 : d = 1 ∨ d = 2 ∨ d = 3 ∨ d = 4 ∨ d = 5 := by omega
  rcases hk with rfl | rfl | rfl | rfl | rfl | rfl
  · omega
  · have h : (!per 1 2 g) = true := h
    rcases hd5 with rfl | rfl | rfl | rfl | rfl <;> first | omega | (rw [p] at h; cases h)
  · have h : (!per 1 3 g) = true := h
    rcases hd5 with rfl | rfl | rfl | rfl | rfl <;> first | omega | (rw [p] at h; cases h)
  · have h : (!per 2 4 g) = true := h
    rcases hd5 with rfl | rfl | rfl | rfl | rfl <;> first | omega | (rw [p] at h; cases h) | (rw [per_1 (by omega) p] at h; cases h)
  · have h : (!per 1 5 g) = true := h
    rcases hd5 with rfl | rfl | rfl | rfl | rfl <;> first | omega | (rw [p] at h; cases h)
  · have h : (!per 2 6 g && !per 3 6 g) = true := h
    rcases hd5 with rfl | rfl | rfl | rfl | rfl <;> first | omega | (rw [p] at h; cases h) | (rw [p, Bool.not_true, Bool.and_false] at h; cases h) | (rw [per_1 (by omega) p] at h; cases h)
theorem nwP_yes {k : Nat} (hk6 : k ≤ 6) {g : Nat → Nat} (h : ∀ d, 1 ≤ d → d < k → k % d = 0 → per d k g ≠ true) : nwP k g = true := by
  have b : ∀ d, 1 ≤ d → d < k → k % d = 0 → (!per d k g) = true := fun d h1 h2 h3 => by
    rw [Bool.not_eq_true', Bool.eq_false_iff]; exact h d h1 h2 h3
  match k, hk6, b with
  | 0, _, _ => rfl
  | 1, _, _ => rfl
  | 2, _, b => exact b 1 (by omega) (by omega) (by omega)
  | 3, _, b => exact b 1 (by omega) (by omega) (by omega)
  | 4, _, b => exact b 2 (by omega) (by omega) (by omega)
  | 5, _, b => exact b 1 (by omega) (by omega) (by omega)
  | 6, _, b =>
    show (!per 2 6 g && !per 3 6 g) = true
    rw [b 2 (by omega) (by omega) (by omega), b 3 (by omega) (by omega) (by omega)]
    rfl
theorem len_not {α : Type} {P : α → Bool} : ∀ l : List α, (l.filter (fun x => !P x)).length + (l.filter P).length = l.length
  | [] => rfl
  | a :: l => by
    have ih := len_not (P := P) l
    rw [List.filter_cons, List.filter_cons, List.length_cons]
    cases P a with
    | true => simp only [Bool.not_true, if_true, List.length_cons]; rw [if_neg (by decide)]; omega
    | false => simp only [Bool.not_false, if_true, List.length_cons]; rw [if_neg (by decide)]; omega
theorem len_2 {α : Type} {P Q : α → Bool} : ∀ l : List α, (l.filter (fun x => !P x && !Q x)).length + (l.filter P).length + (l.filter Q).length = l.length + (l.filter (fun x => P x && Q x)).length
  | [] => rfl
  | a :: l => by
    have ih := len_2 (P := P) (Q := Q) l
    simp only [List.filter_cons, List.length_cons]
    cases P a <;> cases Q a <;> simp <;> omega
theorem nwP_len {n : Nat} {ld : Nat → Nat} {k : Nat} (hk : 1 ≤ k) (hk6 : k ≤ 6) : (((clA n ld k).filter (nwP k)).length : Int) = nwy n ld k := by
  have h : k = 1 ∨ k = 2 ∨ k = 3 ∨ k = 4 ∨ k = 5 ∨ k = 6 := by omega
  rcases h with rfl | rfl | rfl | rfl | rfl | rfl
  · have e : (clA n ld 1).filter (nwP 1) = clA n ld 1 := List.filter_eq_self.mpr (fun _ _ => rfl)
    rw [e, clA_len (by omega)]; rfl
  · have a := len_not (P := per 1 2) (clA n ld 2)
    rw [per_len (by omega) (by omega) (by omega), clA_len (by omega)] at a
    show (((clA n ld 2).filter (fun x => !per 1 2 x)).length : Int) = (trc n ld 2 : Int) - trc n ld 1
    omega
  · have a := len_not (P := per 1 3) (clA n ld 3)
    rw [per_len (by omega) (by omega) (by omega), clA_len (by omega)] at a
    show (((clA n ld 3).filter (fun x => !per 1 3 x)).length : Int) = (trc n ld 3 : Int) - trc n ld 1
    omega
  · have a := len_not (P := per 2 4) (clA n ld 4)
    rw [per_len (by omega) (by omega) (by omega), clA_len (by omega)] at a
    show (((clA n ld 4).filter (fun x => !per 2 4 x)).length : Int) = (trc n ld 4 : Int) - trc n ld 2
    omega
  · have a := len_not (P := per 1 5) (clA n ld 5)
    rw [per_len (by omega) (by omega) (by omega), clA_len (by omega)] at a
    show (((clA n ld 5).filter (fun x => !per 1 5 x)).length : Int) = (trc n ld 5 : Int) - trc n ld 1
    omega
  · have a := len_2 (P := per 2 6) (Q := per 3 6) (clA n ld 6)
    have e : (fun x => per 2 6 x && per 3 6 x) = per 1 6 := by
      funext x
      rw [Bool.eq_iff_iff, Bool.and_eq_true]
      exact ⟨fun h => per_23 h.1 h.2, fun h => ⟨per_1 (by omega) h, per_1 (by omega) h⟩⟩
    rw [e, per_len (by omega) (by omega) (by omega), per_len (by omega) (by omega) (by omega), per_len (by omega) (by omega) (by omega), clA_len (by omega)] at a
    show (((clA n ld 6).filter (fun x => !per 2 6 x && !per 3 6 x)).length : Int) = (trc n ld 6 : Int) - trc n ld 3 - trc n ld 2 + trc n ld 1
    omega
