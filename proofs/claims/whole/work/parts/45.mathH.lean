/-! ===== mathematics of rounds: the list of the rounds ===== -/
theorem fold_new : ∀ (Y A : List (Nat × Nat)), Y.Nodup → (∀ y ∈ Y, y ∉ A) → Y.foldl apd A = A ++ Y
  | [], A, _, _ => (List.append_nil A).symm
  | y :: Y, A, hn, hd => by
    obtain ⟨n1, n2⟩ := List.nodup_cons.mp hn
    have e : apd A y = A ++ [y] := by
      unfold apd
      exact if_neg (fun q => hd y (List.mem_cons_self ..) (List.mem_of_getLast? q))
    rw [List.foldl_cons, e, fold_new Y (A ++ [y]) n2 (fun z hz q => ?_), List.append_assoc]
    · rfl
    · rcases List.mem_append.mp q with q | q
      · exact hd z (List.mem_cons_of_mem _ hz) q
      · rw [List.mem_singleton.mp q] at hz; exact n1 hz
def lsL (n : Nat) (ld : Nat → Nat) (k m : Nat) : List (Nat × Nat) := ((List.range m).flatMap (xps n ld k)).foldl apd []
theorem fnd_L {n : Nat} {ld : Nat → Nat} {k : Nat} (hk : 1 ≤ k) : (fnd n ld k n).1 = lsL n ld k n := by
  rw [fnd_wal n ld hk, fold_sp]
  show List.foldl apd [] _ = _
  unfold lsL wal xps
  rw [List.filterMap_flatMap]
theorem xps_at {n : Nat} {ld : Nat → Nat} {k i : Nat} (hk : 1 ≤ k) (hi : i < n) {p : Nat × Nat} (h : p ∈ xps n ld k i) : 0 < p.2 ∧ Nat.gcd p.1 p.2 = 1 ∧ i * p.2 ≤ p.1 ∧ p.1 ≤ (i + 1) * p.2 := by
  obtain ⟨g, a, b⟩ := List.mem_filterMap.mp h
  exact pnt_at hk hi a b
theorem lsL_s {n : Nat} {ld : Nat → Nat} (hbd : ∀ i, i ≤ n → ld i ≤ n) {k : Nat} (hk : 1 ≤ k) : ∀ m, m ≤ n →
    (lsL n ld k m).Nodup ∧ (∀ p, p ∈ lsL n ld k m ↔ ∃ i, i < m ∧ p ∈ xps n ld k i) ∧ (∀ p ∈ lsL n ld k m, 0 < p.2 ∧ p.1 ≤ m * p.2) ∧ ((m, 1) ∈ lsL n ld k m → (lsL n ld k m).getLast? = some (m, 1)) ∧
    (m < n → lsL n ld k (m + 1) = (if (m, 1) ∈ lsL n ld k m then lsL n ld k m else lsL n ld k m ++ (if (m, 1) ∈ xps n ld k m then [(m, 1)] else [])) ++ inr n ld k m ++ (if (m + 1, 1) ∈ xps n ld k m then [(m + 1, 1)] else [])) := by
  intro m
  -- the step, out of what holds before
  have step : ∀ m, m < n → (lsL n ld k m).Nodup → (∀ p ∈ lsL n ld k m, 0 < p.2 ∧ p.1 ≤ m * p.2) → ((m, 1) ∈ lsL n ld k m → (lsL n ld k m).getLast? = some (m, 1)) →
      (lsL n ld k (m + 1) = (if (m, 1) ∈ lsL n ld k m then lsL n ld k m else lsL n ld k m ++ (if (m, 1) ∈ xps n ld k m then [(m, 1)] else [])) ++ inr n ld k m ++ (if (m + 1, 1) ∈ xps n ld k m then [(m + 1, 1)] else [])) ∧ (lsL n ld k (m + 1)).Nodup := by
    intro m hm hnd hle hla
    have e0 : lsL n ld k (m + 1) = (xps n ld k m).foldl apd (lsL n ld k m) := by
      unfold lsL
      rw [List.range_succ, List.flatMap_append, List.foldl_append, List.flatMap_cons, List.flatMap_nil, List.append_nil]
    obtain ⟨B, eB⟩ : ∃ B, B = (if (m, 1) ∈ lsL n ld k m then lsL n ld k m else lsL n ld k m ++ (if (m, 1) ∈ xps n ld k m then [(m, 1)] else [])) := ⟨_, rfl⟩
    have e1 : (if (m, 1) ∈ xps n ld k m then [((m, 1) : Nat × Nat)] else []).foldl apd (lsL n ld k m) = B := by
      rw [eB]
      by_cases c : (m, 1) ∈ xps n ld k m
      · rw [if_pos c]
        show apd (lsL n ld k m) (m, 1) = _
        unfold apd
        by_cases c2 : (m, 1) ∈ lsL n ld k m
        · rw [if_pos (hla c2), if_pos c2]
        · rw [if_neg (fun q => c2 (List.mem_of_getLast? q)), if_neg c2]
      · rw [if_neg c, List.append_nil, ite_self]
        rfl
    have Bm : ∀ p ∈ B, 0 < p.2 ∧ p.1 ≤ m * p.2 := by
      intro p hp
      rw [eB] at hp
      split at hp
      · exact hle p hp
      · rcases List.mem_append.mp hp with q | q
        · exact hle p q
        · split at q
          · rw [List.mem_singleton.mp q]
            exact ⟨Nat.one_pos, by show m ≤ m * 1; omega⟩
          · cases q
    have Bn : B.Nodup := by
      rw [eB]
      by_cases c2 : (m, 1) ∈ lsL n ld k m
      · rw [if_pos c2]; exact hnd
      · rw [if_neg c2]
        refine List.nodup_append.mpr ⟨hnd, by split <;> simp, fun a ha b hb e => ?_⟩
        split at hb
        · rw [List.mem_singleton.mp hb] at e
          rw [e] at ha
          exact c2 ha
        · cases hb
    have rest : (inr n ld k m ++ (if (m + 1, 1) ∈ xps n ld k m then [((m + 1, 1) : Nat × Nat)] else [])).Nodup := by
      refine List.nodup_append.mpr ⟨inr_nd hk hm, by split <;> simp, fun a ha b hb e => ?_⟩
      split at hb
      · rw [List.mem_singleton.mp hb] at e
        obtain ⟨g, -, -, -, h2⟩ := inr_at hk hm ha
        rw [e] at h2
        exact absurd h2 (by show ¬ m + 1 < (m + 1) * 1; omega)
      · cases hb
    have new : ∀ y ∈ inr n ld k m ++ (if (m + 1, 1) ∈ xps n ld k m then [((m + 1, 1) : Nat × Nat)] else []), y ∉ B := by
      intro y hy q
      have b := Bm y q
      rcases List.mem_append.mp hy with z | z
      · obtain ⟨g, -, -, h1, -⟩ := inr_at hk hm z
        omega
      · split at z
        · rw [List.mem_singleton.mp z] at b
          have b2 : m + 1 ≤ m * 1 := b.2
          omega
        · cases z
    have e2 : lsL n ld k (m + 1) = B ++ (inr n ld k m ++ (if (m + 1, 1) ∈ xps n ld k m then [((m + 1, 1) : Nat × Nat)] else [])) := by
      have xe := congrArg (fun Z => List.foldl apd (lsL n ld k m) Z) (xps_eq hbd hk hm)
      refine e0.trans (xe.trans ?_)
      show List.foldl apd (lsL n ld k m) (_ ++ _ ++ _) = _
      rw [List.append_assoc, List.foldl_append, e1]
      exact fold_new _ _ rest new
    refine ⟨by rw [e2, eB, List.append_assoc], ?_⟩
    rw [e2]
    exact List.nodup_append.mpr ⟨Bn, rest, fun a ha b hb e => new b hb (e ▸ ha)⟩
  induction m with
  | zero =>
    intro hm
    have z : ∀ p, p ∉ lsL n ld k 0 := fun p q => by cases q
    have z1 : (lsL n ld k 0).Nodup := List.nodup_nil
    have z2 : ∀ p ∈ lsL n ld k 0, 0 < p.2 ∧ p.1 ≤ 0 * p.2 := fun p hp => absurd hp (z p)
    have z3 : (0, 1) ∈ lsL n ld k 0 → (lsL n ld k 0).getLast? = some (0, 1) := fun q => absurd q (z _)
    exact ⟨z1, fun p => ⟨fun q => absurd q (z p), fun ⟨i, a, _⟩ => by omega⟩, z2, z3, fun h => (step 0 h z1 z2 z3).1⟩
  | succ m ih =>
    intro hm
    obtain ⟨i1, i2, i3, i4, i5⟩ := ih (by omega)
    have i5 := i5 (by omega)
    have nd := (step m (by omega) i1 i3 i4).2
    have mem : ∀ p, p ∈ lsL n ld k (m + 1) ↔ ∃ i, i < m + 1 ∧ p ∈ xps n ld k i := by
      intro p
      have xe := xps_eq hbd hk (show m < n by omega)
      have hx : p ∈ xps n ld k m ↔ (p = (m, 1) ∧ (m, 1) ∈ xps n ld k m) ∨ p ∈ inr n ld k m ∨ (p = (m + 1, 1) ∧ (m + 1, 1) ∈ xps n ld k m) := by
        rw [show (p ∈ xps n ld k m) = (p ∈ (if (m, 1) ∈ xps n ld k m then [(m, 1)] else []) ++ inr n ld k m ++ (if (m + 1, 1) ∈ xps n ld k m then [(m + 1, 1)] else [])) from congrArg (p ∈ ·) xe]
        rw [List.append_assoc, List.mem_append, List.mem_append]
        have ia : ∀ x : Nat × Nat, p ∈ (if x ∈ xps n ld k m then [x] else []) ↔ p = x ∧ x ∈ xps n ld k m := by
          intro x
          split
          next c => exact ⟨fun q => ⟨List.mem_singleton.mp q, c⟩, fun q => List.mem_singleton.mpr q.1⟩
          next c => exact ⟨(fun q => by cases q), fun q => absurd q.2 c⟩
        rw [ia, ia]
      rw [i5, List.append_assoc, List.mem_append, List.mem_append]
      have ib : ∀ x : Nat × Nat, p ∈ (if x ∈ xps n ld k m then [x] else []) ↔ p = x ∧ x ∈ xps n ld k m := by
        intro x
        split
        next c => exact ⟨fun q => ⟨List.mem_singleton.mp q, c⟩, fun q => List.mem_singleton.mpr q.1⟩
        next c => exact ⟨(fun q => by cases q), fun q => absurd q.2 c⟩
      rw [ib]
      have hB : p ∈ (if (m, 1) ∈ lsL n ld k m then lsL n ld k m else lsL n ld k m ++ (if (m, 1) ∈ xps n ld k m then [(m, 1)] else [])) ↔ p ∈ lsL n ld k m ∨ (p = (m, 1) ∧ (m, 1) ∈ xps n ld k m) := by
        split
        next c => exact ⟨fun q => Or.inl q, fun q => q.elim id (fun z => by rw [z.1]; exact c)⟩
        next c => rw [List.mem_append, ib]
      rw [hB, i2 p]
      refine ⟨fun q => ?_, fun q => ?_⟩
      · rcases q with (⟨i, a, b⟩ | q) | q | q
        · exact ⟨i, by omega, b⟩
        · exact ⟨m, by omega, hx.mpr (Or.inl q)⟩
        · exact ⟨m, by omega, hx.mpr (Or.inr (Or.inl q))⟩
        · exact ⟨m, by omega, hx.mpr (Or.inr (Or.inr q))⟩
      · obtain ⟨i, a, b⟩ := q
        by_cases c : i = m
        · rw [c] at b
          rcases hx.mp b with z | z | z
          · exact Or.inl (Or.inr z)
          · exact Or.inr (Or.inl z)
          · exact Or.inr (Or.inr z)
        · exact Or.inl (Or.inl ⟨i, by omega, b⟩)
    have le : ∀ p ∈ lsL n ld k (m + 1), 0 < p.2 ∧ p.1 ≤ (m + 1) * p.2 := by
      intro p hp
      obtain ⟨i, a, b⟩ := (mem p).mp hp
      have x := xps_at hk (by omega) b
      exact ⟨x.1, Nat.le_trans x.2.2.2 (Nat.mul_le_mul_right _ (by omega))⟩
    have la : (m + 1, 1) ∈ lsL n ld k (m + 1) → (lsL n ld k (m + 1)).getLast? = some (m + 1, 1) := by
      intro q
      obtain ⟨i, a, b⟩ := (mem _).mp q
      have x := xps_at hk (by omega) b
      have x4 : m + 1 ≤ (i + 1) * 1 := x.2.2.2
      have ei : i = m := by omega
      rw [ei] at b
      rw [i5, if_pos b]
      exact List.getLast?_concat
    exact ⟨nd, mem, le, la, fun h => (step (m + 1) h nd le la).1⟩
