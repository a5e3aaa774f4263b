/-! ===== mathematics of rounds: endless ===== -/
theorem edf_iff {ld : Nat → Nat} {k : Nat} : ∀ r e, edf ld k r e = true ↔ ∃ x, e ≤ x ∧ x < e + r ∧ (eps ld x).2 = true ∧ dv (eps ld x).1 k = true
  | 0, e => ⟨fun h => absurd (show false = true from h) (by decide), fun ⟨x, a, b, _⟩ => by omega⟩
  | r + 1, e => by
    unfold edf
    by_cases c : (eps ld e).2 = true ∧ 0 < (eps ld e).1 ∧ k % (eps ld e).1 = 0
    · rw [if_pos c]
      exact ⟨fun _ => ⟨e, Nat.le_refl _, by omega, c.1, dv_iff.mpr c.2⟩, fun _ => rfl⟩
    · rw [if_neg c, edf_iff r (e + 1)]
      refine ⟨fun ⟨x, a, b, d⟩ => ⟨x, by omega, by omega, d⟩, fun ⟨x, a, b, d⟩ => ?_⟩
      by_cases z : x = e
      · exact absurd ⟨by rw [← z]; exact d.1, by rw [← z]; exact dv_iff.mp d.2⟩ c
      · exact ⟨x, by omega, by omega, d⟩
theorem hsf_iff {ld : Nat → Nat} {k : Nat} : ∀ r e, hsf ld k r e = true ↔ ∃ x, e ≤ x ∧ x < e + r ∧ (eps ld x).2 = true ∧ (eps ld x).1 = k
  | 0, e => ⟨fun h => absurd (show false = true from h) (by decide), fun ⟨x, a, b, _⟩ => by omega⟩
  | r + 1, e => by
    unfold hsf
    by_cases c : (eps ld e).2 = true ∧ (eps ld e).1 = k
    · rw [if_pos c]
      exact ⟨fun _ => ⟨e, Nat.le_refl _, by omega, c⟩, fun _ => rfl⟩
    · rw [if_neg c, hsf_iff r (e + 1)]
      refine ⟨fun ⟨x, a, b, d⟩ => ⟨x, by omega, by omega, d⟩, fun ⟨x, a, b, d⟩ => ?_⟩
      by_cases z : x = e
      · exact absurd (by rw [← z]; exact d) c
      · exact ⟨x, by omega, by omega, d⟩
theorem lesf_iff {ps pt : Nat → Int} {k : Nat} : ∀ r d l, lesf ps pt k r d l = true ↔ l = true ∨ ∃ x, d ≤ x ∧ x < d + r ∧ k % x = 0 ∧ ps x = 1 ∧ pt x = 0
  | 0, d, l => ⟨fun h => Or.inl h, fun h => h.elim id (fun ⟨x, a, b, _⟩ => by omega)⟩
  | r + 1, d, l => by
    unfold lesf
    rw [lesf_iff r (d + 1), Bool.or_eq_true, decide_eq_true_iff]
    refine ⟨fun h => ?_, fun h => ?_⟩
    · rcases h with (h | h) | ⟨x, a, b, c⟩
      · exact Or.inl h
      · exact Or.inr ⟨d, Nat.le_refl _, by omega, h⟩
      · exact Or.inr ⟨x, by omega, by omega, c⟩
    · rcases h with h | ⟨x, a, b, c⟩
      · exact Or.inl (Or.inl h)
      · by_cases z : x = d
        · rw [z] at c; exact Or.inl (Or.inr c)
        · exact Or.inr ⟨x, by omega, by omega, c⟩
def pnt (ld : Nat → Nat) (k : Nat) (g : Nat → Nat) : Option (Nat × Nat) :=
  if wS ld g k = 1 then none else if ionf g (wS ld g) (wT ld g) (pA ld k g) (pB ld k g) k 0 = true then some (rdp (pA ld k g).toNat (pB ld k g).toNat) else none
def enq (ld : Nat → Nat) (k : Nat) (g : Nat → Nat) : Bool := decide (wS ld g k = 1 ∧ wT ld g k = 0)
def enj (ld : Nat → Nat) (k : Nat) (g : Nat → Nat) : Bool := decide (wS ld g k = 1 ∧ wT ld g k = 0) && !(lesf (wS ld g) (wT ld g) k (k - 1) 1 false)
theorem fold_sp {ld : Nat → Nat} {k : Nat} : ∀ (l : List (Nat → Nat)) (R : RS), l.foldl (cmS ld k) R = ((l.filterMap (pnt ld k)).foldl apd R.1, R.2.1 || l.any (enq ld k), R.2.2 || l.any (enj ld k))
  | [], R => by
    show R = (R.1, R.2.1 || false, R.2.2 || false)
    rw [Bool.or_false, Bool.or_false]
  | g :: l, R => by
    rw [List.foldl_cons, fold_sp l, List.any_cons, List.any_cons, List.filterMap_cons]
    unfold cmS cmb
    by_cases c1 : wS ld g k = 1
    · have ep : pnt ld k g = none := if_pos c1
      rw [if_pos c1, ep]
      by_cases c2 : wT ld g k = 0
      · rw [if_pos c2]
        have e1 : enq ld k g = true := decide_eq_true ⟨c1, c2⟩
        have e2 : enj ld k g = !(lesf (wS ld g) (wT ld g) k (k - 1) 1 false) := by unfold enj; rw [decide_eq_true ⟨c1, c2⟩, Bool.true_and]
        rw [e1, e2]
        rw [Bool.true_or, Bool.or_true, ← Bool.or_assoc]
      · rw [if_neg c2]
        have e1 : enq ld k g = false := decide_eq_false (fun z => c2 z.2)
        have e2 : enj ld k g = false := by unfold enj; rw [decide_eq_false (fun z => c2 z.2), Bool.false_and]
        rw [e1, e2, Bool.false_or, Bool.false_or]
    · have e1 : enq ld k g = false := decide_eq_false (fun z => c1 z.1)
      have e2 : enj ld k g = false := by unfold enj; rw [decide_eq_false (fun z => c1 z.1), Bool.false_and]
      rw [if_neg c1, e1, e2, Bool.false_or, Bool.false_or]
      by_cases c3 : ionf g (wS ld g) (wT ld g) (pA ld k g) (pB ld k g) k 0 = true
      · have ep : pnt ld k g = some (rdp (pA ld k g).toNat (pB ld k g).toNat) := by unfold pnt; rw [if_neg c1, if_pos c3]
        rw [ep]
        unfold pA pB at c3
        rw [if_pos c3]
        rfl
      · have ep : pnt ld k g = none := by unfold pnt; rw [if_neg c1, if_neg c3]
        rw [ep]
        unfold pA pB at c3
        rw [if_neg c3]
theorem mem_wal {n : Nat} {ld : Nat → Nat} {k m : Nat} {g : Nat → Nat} : g ∈ wal n ld k m ↔ ∃ i, i < m ∧ g ∈ wys n ld k i := by
  unfold wal
  rw [List.mem_flatMap]
  exact ⟨fun ⟨i, a, b⟩ => ⟨i, List.mem_range.mp a, b⟩, fun ⟨i, a, b⟩ => ⟨i, List.mem_range.mpr a, b⟩⟩
/-- endless: an edge that comes back without stretching -/
theorem end_iff {n : Nat} {ld : Nat → Nat} (hbd : ∀ i, i ≤ n → ld i ≤ n) {k : Nat} (hk : 1 ≤ k) (hk6 : k ≤ 6) : (∃ g ∈ wal n ld k n, wS ld g k = 1 ∧ wT ld g k = 0) ↔ edf ld k (2 * n) 0 = true := by
  rw [edf_iff]
  refine ⟨fun ⟨g, hg, h⟩ => ?_, fun ⟨x, a, b, h⟩ => ?_⟩
  · obtain ⟨i, hi, hg⟩ := mem_wal.mp hg
    obtain ⟨hp, h0⟩ := wys_ok hk hi hg
    have := (edge_st (σ := 0) hk hk6 (by omega) hp rfl (still_on (by omega) hp rfl (Or.inl h.1))).mpr h
    exact ⟨2 * g 0 + 0, by omega, by omega, this⟩
  · obtain ⟨pre, f, post, a1, a2, a3, a4, a5⟩ := wys_edge hbd (k := k) (i := x / 2) (σ := x % 2) hk (by omega) (by omega)
    have hf : f ∈ wys n ld k (x / 2) := by rw [a1]; exact List.mem_append_right _ (List.mem_cons_self ..)
    obtain ⟨hp, h0⟩ := wys_ok hk (by omega) hf
    refine ⟨f, mem_wal.mpr ⟨x / 2, by omega, hf⟩, ?_⟩
    refine (edge_st (σ := x % 2) hk hk6 (by omega) hp rfl (by rw [h0]; exact a2)).mp ?_
    rw [h0, show 2 * (x / 2) + x % 2 = x by omega]
    exact h
theorem fnd_1 {n : Nat} {ld : Nat → Nat} (hbd : ∀ i, i ≤ n → ld i ≤ n) {k : Nat} (hk : 1 ≤ k) (hk6 : k ≤ 6) : (fnd n ld k n).2.1 = edf ld k (2 * n) 0 := by
  rw [fnd_wal n ld hk, fold_sp]
  show (false || (wal n ld k n).any (enq ld k)) = _
  rw [Bool.false_or, Bool.eq_iff_iff, List.any_eq_true, ← end_iff hbd hk hk6]
  exact ⟨fun ⟨g, a, b⟩ => ⟨g, a, of_decide_eq_true b⟩, fun ⟨g, a, b⟩ => ⟨g, a, decide_eq_true b⟩⟩
theorem fnd_2 {n : Nat} {ld : Nat → Nat} (hbd : ∀ i, i ≤ n → ld i ≤ n) {k : Nat} (hk : 1 ≤ k) (hk6 : k ≤ 6) : (fnd n ld k n).2.2 = hsf ld k (2 * n) 0 := by
  rw [fnd_wal n ld hk, fold_sp]
  show (false || (wal n ld k n).any (enj ld k)) = _
  rw [Bool.false_or, Bool.eq_iff_iff, List.any_eq_true, hsf_iff]
  refine ⟨fun ⟨g, hg, h⟩ => ?_, fun ⟨x, a, b, h1, h2⟩ => ?_⟩
  · unfold enj at h
    rw [Bool.and_eq_true, decide_eq_true_iff, Bool.not_eq_true', Bool.eq_false_iff] at h
    obtain ⟨h, hl⟩ := h
    obtain ⟨i, hi, hg⟩ := mem_wal.mp hg
    obtain ⟨hp, h0⟩ := wys_ok hk hi hg
    have hon := still_on (σ := 0) (by omega) hp rfl (Or.inl h.1)
    obtain ⟨s1, s2⟩ := (edge_st (σ := 0) hk hk6 (by omega) hp rfl hon).mpr h
    refine ⟨2 * g 0 + 0, by omega, by omega, s1, ?_⟩
    have s3 := dv_iff.mp s2
    have le : (eps ld (2 * g 0 + 0)).1 ≤ k := Nat.le_of_dvd (by omega) (Nat.dvd_of_mod_eq_zero s3.2)
    by_cases z : (eps ld (2 * g 0 + 0)).1 = k
    · exact z
    · exfalso
      apply hl
      rw [lesf_iff]
      right
      obtain ⟨K, eK⟩ : ∃ K, K = (eps ld (2 * g 0 + 0)).1 := ⟨_, rfl⟩
      rw [← eK] at s3 le z
      refine ⟨K, by omega, by omega, s3.2, ?_⟩
      have ret := ((eps_dv (ld := ld) (e := 2 * g 0 + 0) (k := K) (by omega) (by omega)).mp (by rw [← eK]; exact dv_iff.mpr ⟨s3.1, Nat.mod_self _⟩)).2
      have S1 := wS_1 (Or.inl h.1) K le
      have w := (edge_way (σ := 0) (by omega) hp rfl hon K le (by omega)).1
      rw [ret] at w
      have tl : tau 0 (wS ld g K) ≤ 1 := tau_le (by omega)
      have tp0 := (tau_pos (σ := 0) (S := wS ld g K) (by omega)).mp (by omega)
      have eV := on_orb hon K le
      unfold wV at eV
      have e1 : wS ld g K = 1 := by omega
      rw [e1] at eV
      exact ⟨e1, by omega⟩
  · obtain ⟨pre, f, post, a1, a2, a3, a4, a5⟩ := wys_edge hbd (k := k) (i := x / 2) (σ := x % 2) hk (by omega) (by omega)
    have hf : f ∈ wys n ld k (x / 2) := by rw [a1]; exact List.mem_append_right _ (List.mem_cons_self ..)
    obtain ⟨hp, h0⟩ := wys_ok hk (by omega) hf
    have ex : 2 * f 0 + x % 2 = x := by omega
    have hon : ∀ q, q < k → onq ld f ((f 0 + x % 2 : Nat) : Int) 1 q := by rw [h0]; exact a2
    obtain ⟨k1, k2⟩ := (eps_k hk hk6).mp h2
    have st := (edge_st (σ := x % 2) hk hk6 (by omega) hp rfl hon).mp (by rw [ex]; exact ⟨h1, k1⟩)
    refine ⟨f, mem_wal.mpr ⟨x / 2, by omega, hf⟩, ?_⟩
    unfold enj
    rw [decide_eq_true st, Bool.true_and, Bool.not_eq_true', Bool.eq_false_iff]
    intro q
    rcases (lesf_iff _ _ _).mp q with z | ⟨d, d1, d2, d3, d4, d5⟩
    · exact absurd z (by decide)
    · refine k2 d d1 (by omega) ?_
      have w := (edge_way (σ := x % 2) (by omega) hp rfl hon d (by omega) (by omega)).1
      rw [(tau_pos (by omega)).mpr (by omega), ex] at w
      have eV := on_orb hon d (by omega)
      unfold wV at eV
      rw [d4, d5] at eV
      omega
