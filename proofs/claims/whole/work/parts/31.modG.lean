/-! ===== the model: forcing ===== -/
def twf : Nat → Nat → Nat
  | 0, _ => 0
  | f + 1, o => if o % 2 = 0 then twf f (o / 2) + 1 else 0
def iah (p q : Nat) : Bool :=
  if oddf 64 p = 1 ∨ oddf 64 q = 1 then decide (1 < oddf 64 p ∨ (oddf 64 q = 1 ∧ q < p))
  else if twf 64 p = twf 64 q then decide (oddf 64 p < oddf 64 q) else decide (twf 64 p < twf 64 q)
theorem iah_cah : ∀ p, p < 65 → 0 < p → ∀ q, q < 65 → 0 < q → iah p q = cah p q := by decide +kernel
theorem twf_le : ∀ f o, twf f o ≤ f
  | 0, o => Nat.le_refl _
  | f + 1, o => by
    have := twf_le f (o / 2)
    unfold twf
    split <;> omega
theorem n_isAhead_p (E : zE) (w : zWd) {Post : Option Value → zWd → Prop} (p q : Int32) (P Q : Nat) (kk : zV E mX4_isAhead 0 Post 29 [.int p, .int q, .int (nI (twf 64 P)), .int 0, .int (nI (oddf 64 P)), .int (nI Q)] [] w) : ∀ (f t o : Nat), 0 < o → o < 2 ^ f → o < 1000 → t + f = 64 → oddf f o = oddf 64 P → t + twf f o = twf 64 P → zV E mX4_isAhead 0 Post 10 [.int p, .int q, .int (nI t), .int 0, .int (nI o), .int (nI Q)] [] w := by
  intro f
  induction f with
  | zero => intro t o h1 h2; omega
  | succ f ih =>
    intro t o h1 h2 h3 h4 e1 e2
    have d2 : nI o / 2 = nI (o / 2) := pk_div (d := 2) (by omega) (by decide) (by decide)
    have d3 : nI o - nI o / 2 * 2 = nI (o % 2) := pk_rem (d := 2) (by omega) (by decide) (by decide)
    refine zV.run kX4_isAhead 2 rfl ?_
    refine zV.irem kX4_isAhead rfl (by decide) ?_
    rw [d3]
    refine zV.if2 kX4_isAhead rfl (fun c => ?_) (fun c => ?_)
    · skip
      have c : ¬ o % 2 = 0 := fun z => c (by rw [z]; rfl)
      have f1 : oddf (f + 1) o = o := if_neg c
      have f2 : twf (f + 1) o = 0 := if_neg c
      rw [f1] at e1
      rw [f2] at e2
      rw [show t = twf 64 P by omega, e1]
      exact kk
    · skip
      have c := (nI_eq (a := o % 2) (b := 0) (by omega) (by omega)).mp (Decidable.not_not.mp c)
      have f1 : oddf (f + 1) o = oddf f (o / 2) := if_pos c
      have f2 : twf (f + 1) o = twf f (o / 2) + 1 := if_pos c
      refine zV.run kX4_isAhead 2 rfl ?_
      refine zV.idiv kX4_isAhead rfl (by decide) ?_
      rw [d2]
      refine zV.run kX4_isAhead 3 rfl ?_
      rw [nI_1]
      exact ih (t + 1) (o / 2) (by omega) (by rw [Nat.pow_succ] at h2; omega) (by omega) (by omega) (by rw [← f1]; exact e1) (by omega)
theorem n_isAhead_q (E : zE) (w : zWd) {Post : Option Value → zWd → Prop} (p q : Int32) (x1 x2 : Int32) (Q : Nat) (kk : zV E mX4_isAhead 0 Post 48 [.int p, .int q, .int x1, .int (nI (twf 64 Q)), .int x2, .int (nI (oddf 64 Q))] [] w) : ∀ (f t o : Nat), 0 < o → o < 2 ^ f → o < 1000 → t + f = 64 → oddf f o = oddf 64 Q → t + twf f o = twf 64 Q → zV E mX4_isAhead 0 Post 29 [.int p, .int q, .int x1, .int (nI t), .int x2, .int (nI o)] [] w := by
  intro f
  induction f with
  | zero => intro t o h1 h2; omega
  | succ f ih =>
    intro t o h1 h2 h3 h4 e1 e2
    have d2 : nI o / 2 = nI (o / 2) := pk_div (d := 2) (by omega) (by decide) (by decide)
    have d3 : nI o - nI o / 2 * 2 = nI (o % 2) := pk_rem (d := 2) (by omega) (by decide) (by decide)
    refine zV.run kX4_isAhead 2 rfl ?_
    refine zV.irem kX4_isAhead rfl (by decide) ?_
    rw [d3]
    refine zV.if2 kX4_isAhead rfl (fun c => ?_) (fun c => ?_)
    · skip
      have c : ¬ o % 2 = 0 := fun z => c (by rw [z]; rfl)
      have f1 : oddf (f + 1) o = o := if_neg c
      have f2 : twf (f + 1) o = 0 := if_neg c
      rw [f1] at e1
      rw [f2] at e2
      rw [show t = twf 64 Q by omega, e1]
      exact kk
    · skip
      have c := (nI_eq (a := o % 2) (b := 0) (by omega) (by omega)).mp (Decidable.not_not.mp c)
      have f1 : oddf (f + 1) o = oddf f (o / 2) := if_pos c
      have f2 : twf (f + 1) o = twf f (o / 2) + 1 := if_pos c
      refine zV.run kX4_isAhead 2 rfl ?_
      refine zV.idiv kX4_isAhead rfl (by decide) ?_
      rw [d2]
      refine zV.run kX4_isAhead 3 rfl ?_
      rw [nI_1]
      exact ih (t + 1) (o / 2) (by omega) (by rw [Nat.pow_succ] at h2; omega) (by omega) (by omega) (by rw [← f1]; exact e1) (by omega)
theorem n_isAhead (E : zE) (w : zWd) {p q : Nat} (hp : p < 65) (hp0 : 0 < p) (hq : q < 65) (hq0 : 0 < q) : zOk E mX4_isAhead 0 [.int (nI p), .int (nI q)] w (zR0 w (.int (zq (cah p q = true)))) := by
  rw [← iah_cah p hp hp0 q hq hq0]
  have o1 := oddf_le 64 p
  have o2 := oddf_le 64 q
  have t1 := twf_le 64 p
  have t2 := twf_le 64 q
  have n1 : ∀ x, x < 65 → (nI x = 1 ↔ x = 1) := fun x hx => nI_eq (a := x) (b := 1) (by omega) (by omega)
  refine zOk.of (by decide +kernel) (Nat.le_of_ble_eq_true rfl) ?_
  refine zV.run kX4_isAhead 8 rfl ?_
  refine n_isAhead_p E w (nI p) (nI q) p q ?_ 64 0 p hp0 (by omega) (by omega) (by omega) rfl (by omega)
  refine n_isAhead_q E w (nI p) (nI q) _ _ q ?_ 64 0 q hq0 (by omega) (by omega) (by omega) rfl (by omega)
  have part1 : (oddf 64 p = 1 ∨ oddf 64 q = 1) → zV E mX4_isAhead 0 (zR0 w (.int (zq (iah p q = true)))) 60 [.int (nI p), .int (nI q), .int (nI (twf 64 p)), .int (nI (twf 64 q)), .int (nI (oddf 64 p)), .int (nI (oddf 64 q))] [] w := by
    intro hy
    have e : iah p q = decide (1 < oddf 64 p ∨ (oddf 64 q = 1 ∧ q < p)) := if_pos hy
    rw [e]
    refine zV.run kX4_isAhead 2 rfl ?_
    refine zV.ic2 kX4_isAhead rfl (fun c => ?_) (fun c => ?_)
    · skip
      have c := (nI_ltI (a := 1) (b := oddf 64 p) (by omega) (by omega)).mp c
      refine zV.run kX4_isAhead 2 rfl ?_
      exact zV.zret kX4_isAhead rfl rfl (Or.inr rfl) (⟨by rw [zq_t]; simp; omega, rfl⟩)
    · skip
      have c := mt (nI_ltI (a := 1) (b := oddf 64 p) (by omega) (by omega)).mpr c
      refine zV.run kX4_isAhead 2 rfl ?_
      refine zV.ic2 kX4_isAhead rfl (fun c2 => ?_) (fun c2 => ?_)
      · skip
        have c2 := mt (n1 (oddf 64 q) (by omega)).mpr c2
        refine zV.run kX4_isAhead 1 rfl ?_
        exact zV.zret kX4_isAhead rfl rfl (Or.inl rfl) (⟨by rw [zq_f]; simp; omega, rfl⟩)
      · skip
        have c2 := (n1 (oddf 64 q) (by omega)).mp (Decidable.not_not.mp c2)
        refine zV.run kX4_isAhead 2 rfl ?_
        refine zV.ic2 kX4_isAhead rfl (fun c3 => ?_) (fun c3 => ?_)
        · skip
          have c3 := (nI_leI (by omega) (by omega)).mp c3
          refine zV.run kX4_isAhead 1 rfl ?_
          exact zV.zret kX4_isAhead rfl rfl (Or.inl rfl) (⟨by rw [zq_f]; simp; omega, rfl⟩)
        · skip
          have c3 := mt (nI_leI (a := p) (b := q) (by omega) (by omega)).mpr c3
          refine zV.run kX4_isAhead 2 rfl ?_
          exact zV.zret kX4_isAhead rfl rfl (Or.inr rfl) (⟨by rw [zq_t]; simp; omega, rfl⟩)
  refine zV.run kX4_isAhead 2 rfl ?_
  refine zV.ic2 kX4_isAhead rfl (fun c => ?_) (fun c => ?_)
  · skip
    have c := (n1 (oddf 64 p) (by omega)).mp c
    exact part1 (Or.inl c)
  · skip
    have c := mt (n1 (oddf 64 p) (by omega)).mpr c
    refine zV.run kX4_isAhead 2 rfl ?_
    refine zV.ic2 kX4_isAhead rfl (fun c2 => ?_) (fun c2 => ?_)
    · skip
      have c2 := mt (n1 (oddf 64 q) (by omega)).mpr c2
      have e : iah p q = if twf 64 p = twf 64 q then decide (oddf 64 p < oddf 64 q) else decide (twf 64 p < twf 64 q) := if_neg (fun z => z.elim c c2)
      rw [e]
      refine zV.run kX4_isAhead 2 rfl ?_
      refine zV.ic2 kX4_isAhead rfl (fun c3 => ?_) (fun c3 => ?_)
      · skip
        have c3 := (nI_eq (by omega) (by omega)).mp c3
        rw [if_pos c3]
        refine zV.run kX4_isAhead 2 rfl ?_
        refine zV.ic2 kX4_isAhead rfl (fun c4 => ?_) (fun c4 => ?_)
        · skip
          have c4 := (nI_leI (by omega) (by omega)).mp c4
          refine zV.run kX4_isAhead 1 rfl ?_
          exact zV.zret kX4_isAhead rfl rfl (Or.inl rfl) (⟨by rw [zq_f]; simp; omega, rfl⟩)
        · skip
          have c4 := mt (nI_leI (a := oddf 64 q) (b := oddf 64 p) (by omega) (by omega)).mpr c4
          refine zV.run kX4_isAhead 2 rfl ?_
          exact zV.zret kX4_isAhead rfl rfl (Or.inr rfl) (⟨by rw [zq_t]; simp; omega, rfl⟩)
      · skip
        have c3 := mt (nI_eq (a := twf 64 p) (b := twf 64 q) (by omega) (by omega)).mpr c3
        rw [if_neg c3]
        refine zV.run kX4_isAhead 2 rfl ?_
        refine zV.ic2 kX4_isAhead rfl (fun c4 => ?_) (fun c4 => ?_)
        · skip
          have c4 := (nI_leI (by omega) (by omega)).mp c4
          refine zV.run kX4_isAhead 2 rfl ?_
          exact zV.zret kX4_isAhead rfl rfl (Or.inl rfl) (⟨by rw [zq_f]; simp; omega, rfl⟩)
        · skip
          have c4 := mt (nI_leI (a := twf 64 q) (b := twf 64 p) (by omega) (by omega)).mpr c4
          refine zV.run kX4_isAhead 2 rfl ?_
          exact zV.zret kX4_isAhead rfl rfl (Or.inr rfl) (⟨by rw [zq_t]; simp; omega, rfl⟩)
    · skip
      have c2 := (n1 (oddf 64 q) (by omega)).mp (Decidable.not_not.mp c2)
      exact part1 (Or.inr c2)
theorem n_forces (E : zE) (w : zWd) (p q : Int32) : zOk E mX4_forces 1 [.ref 49, .int p, .int q] w (zR0 w (.int (if (1 ≤ p.toInt ∧ p.toInt ≤ 64) ∧ (1 ≤ q.toInt ∧ q.toInt ≤ 64) then zq (p.toInt.toNat = q.toInt.toNat ∨ cah p.toInt.toNat q.toInt.toNat = true) else -2))) := by
  refine zOk.of (by decide +kernel) (Nat.le_of_ble_eq_true rfl) ?_
  refine zV.run kX4_forces 3 rfl ?_
  refine zV.ldc2 kX4_forces rfl qX4_159 ?_
  refine zV.cs kX4_forces rfl lX4_47 (n_in E w p.toInt64 1 64) (by decide) rfl rfl (Nat.le_of_ble_eq_true rfl) ?_
  rintro _ _ ⟨rfl, rfl⟩
  rw [zq_c inK]
  refine zV.if2 kX4_forces rfl (fun c => ?_) (fun c => ?_)
  · skip
    have c : ¬ (1 ≤ p.toInt ∧ p.toInt ≤ 64) := zq_eq0.mp c
    refine zV.run kX4_forces 2 rfl ?_
    exact zV.iret kX4_forces rfl rfl (⟨by rw [if_neg (fun q => c q.1)], rfl⟩)
  · skip
    have c : 1 ≤ p.toInt ∧ p.toInt ≤ 64 := Decidable.not_not.mp (mt zq_eq0.mpr c)
    refine zV.run kX4_forces 3 rfl ?_
    refine zV.ldc2 kX4_forces rfl qX4_159 ?_
    refine zV.cs kX4_forces rfl lX4_47 (n_in E w q.toInt64 1 64) (by decide) rfl rfl (Nat.le_of_ble_eq_true rfl) ?_
    rintro _ _ ⟨rfl, rfl⟩
    rw [zq_c inK]
    refine zV.if2 kX4_forces rfl (fun c2 => ?_) (fun c2 => ?_)
    · skip
      have c2 : 1 ≤ q.toInt ∧ q.toInt ≤ 64 := Decidable.not_not.mp (mt zq_eq0.mpr c2)
      rw [if_pos ⟨c, c2⟩]
      obtain ⟨pp, epp⟩ : ∃ ii, ii = p.toInt.toNat := ⟨_, rfl⟩
      have ep : p = nI pp := by rw [epp]; exact i32_nI (by omega)
      obtain ⟨qq, eqq⟩ : ∃ ii, ii = q.toInt.toNat := ⟨_, rfl⟩
      have eq : q = nI qq := by rw [eqq]; exact i32_nI (by omega)
      rw [← epp, ← eqq, ep, eq]
      refine zV.run kX4_forces 2 rfl ?_
      refine zV.ic2 kX4_forces rfl (fun c3 => ?_) (fun c3 => ?_)
      · skip
        have c3 := (nI_eq (by omega) (by omega)).mp c3
        refine zV.run kX4_forces 2 rfl ?_
        exact zV.iret kX4_forces rfl rfl (⟨by rw [zq_t (Or.inl c3)], rfl⟩)
      · skip
        have c3 := mt (nI_eq (a := pp) (b := qq) (by omega) (by omega)).mpr c3
        refine zV.run kX4_forces 2 rfl ?_
        refine zV.cs kX4_forces rfl lX4_161 (n_isAhead E w (p := pp) (q := qq) (by omega) (by omega) (by omega) (by omega)) (by decide) rfl rfl (Nat.le_of_ble_eq_true rfl) ?_
        rintro _ _ ⟨rfl, rfl⟩
        refine zV.if2 kX4_forces rfl (fun c4 => ?_) (fun c4 => ?_)
        · skip
          have c4 := zq_eq0.mp c4
          refine zV.run kX4_forces 1 rfl ?_
          exact zV.iret kX4_forces rfl rfl (⟨by rw [zq_f (fun z => z.elim c3 c4)], rfl⟩)
        · skip
          have c4 := Decidable.not_not.mp (mt zq_eq0.mpr c4)
          refine zV.run kX4_forces 2 rfl ?_
          exact zV.iret kX4_forces rfl rfl (⟨by rw [zq_t (Or.inr c4)], rfl⟩)
    · skip
      have c2 : ¬ (1 ≤ q.toInt ∧ q.toInt ≤ 64) := zq_eq0.mp (Decidable.not_not.mp c2)
      refine zV.run kX4_forces 2 rfl ?_
      exact zV.iret kX4_forces rfl rfl (⟨by rw [if_neg (fun q => c2 q.2)], rfl⟩)
/-! ===== the model: tops ===== -/
def tpi (ld : Nat → Nat) (c : Nat) : Nat → Bool
  | 0 => true
  | i + 1 => tpi ld c i && (if i < c then decide (0 < sl ld i) else decide (sl ld i < 0))
def tof (n : Nat) (ld : Nat → Nat) : Nat → Nat → Int
  | 0, _ => -1
  | r + 1, c => if tpi ld c n = true then (c : Int) else tof n ld r (c + 1)
theorem tpi_iff (ld : Nat → Nat) (c : Nat) : ∀ k, tpi ld c k = true ↔ ∀ i, i < k → (i < c → 0 < sl ld i) ∧ (¬ i < c → sl ld i < 0)
  | 0 => ⟨fun _ i h => by omega, fun _ => rfl⟩
  | k + 1 => by
    show (tpi ld c k && _) = true ↔ _
    rw [Bool.and_eq_true, tpi_iff ld c k]
    constructor
    · intro h i hi
      by_cases e : i = k
      · subst e
        have h2 := h.2
        refine ⟨fun q => ?_, fun q => ?_⟩
        · rw [if_pos q] at h2; exact of_decide_eq_true h2
        · rw [if_neg q] at h2; exact of_decide_eq_true h2
      · exact h.1 i (by omega)
    · intro h
      refine ⟨fun i hi => h i (by omega), ?_⟩
      by_cases q : k < c
      · rw [if_pos q]; exact decide_eq_true ((h k (by omega)).1 q)
      · rw [if_neg q]; exact decide_eq_true ((h k (by omega)).2 q)
theorem ft1_pos (n : Nat) (ld : Nat → Nat) : ∀ r c i, c ≤ i → i < ft1 n ld r c → 0 < sl ld i
  | 0, c, i, h1, h2 => by have h2 : i < c := h2; omega
  | r + 1, c, i, h1, h2 => by
    unfold ft1 at h2
    split at h2
    next q =>
      by_cases e : i = c
      · rw [e]; exact q
      · exact ft1_pos n ld r (c + 1) i (by omega) h2
    next q => omega
theorem ft1_stop (n : Nat) (ld : Nat → Nat) : ∀ r c, ft1 n ld r c = c + r ∨ ¬ 0 < sl ld (ft1 n ld r c)
  | 0, c => Or.inl rfl
  | r + 1, c => by
    unfold ft1
    split
    next q => rcases ft1_stop n ld r (c + 1) with h | h
              · left; omega
              · right; exact h
    next q => right; exact q
theorem ft2_iff (n : Nat) (ld : Nat → Nat) : ∀ r i, ft2 n ld r i = true ↔ ∀ q, i ≤ q → q < i + r → sl ld q < 0
  | 0, i => ⟨fun _ q h1 h2 => by omega, fun _ => rfl⟩
  | r + 1, i => by
    unfold ft2
    split
    next c =>
      rw [ft2_iff n ld r (i + 1)]
      constructor
      · intro h q h1 h2
        by_cases e : q = i
        · rw [e]; exact c
        · exact h q (by omega) (by omega)
      · intro h q h1 h2
        exact h q (by omega) (by omega)
    next c =>
      constructor
      · intro h; cases h
      · intro h; exact absurd (h i (Nat.le_refl _) (by omega)) c
theorem tpi_c0 {n : Nat} {ld : Nat → Nat} {c : Nat} (h1 : 0 < c) (h2 : c < n) : tpi ld c n = true ↔ (c = ft1 n ld n 0 ∧ ft2 n ld (n - c) c = true) := by
  have r0 := ft1_rg n ld n 0
  rw [tpi_iff, ft2_iff]
  constructor
  · intro h
    have hc : c = ft1 n ld n 0 := by
      rcases Nat.lt_trichotomy c (ft1 n ld n 0) with q | q | q
      · have a1 := ft1_pos n ld n 0 c (by omega) q
        have a2 := (h c h2).2 (by omega)
        omega
      · exact q
      · rcases ft1_stop n ld n 0 with z | z
        · omega
        · exact absurd ((h (ft1 n ld n 0) (by omega)).1 q) z
    exact ⟨hc, fun q a1 a2 => (h q (by omega)).2 (by omega)⟩
  · rintro ⟨hc, h⟩ i hi
    refine ⟨fun q => ft1_pos n ld n 0 i (by omega) (by omega), fun q => h i (by omega) (by omega)⟩
theorem tof_sp (n : Nat) (ld : Nat → Nat) : ∀ r c, (tof n ld r c = -1 ∧ ∀ q, c ≤ q → q < c + r → ¬ tpi ld q n = true) ∨ ∃ q, c ≤ q ∧ q < c + r ∧ tof n ld r c = (q : Int) ∧ tpi ld q n = true
  | 0, c => Or.inl ⟨rfl, fun q h1 h2 => by omega⟩
  | r + 1, c => by
    unfold tof
    split
    next h => right; exact ⟨c, Nat.le_refl _, by omega, rfl, h⟩
    next h =>
      rcases tof_sp n ld r (c + 1) with ⟨g1, g2⟩ | ⟨q, g1, g2, g3, g4⟩
      · left
        refine ⟨g1, fun q h1 h2 => ?_⟩
        by_cases e : q = c
        · rw [e]; exact h
        · exact g2 q (by omega) (by omega)
      · right; exact ⟨q, by omega, by omega, g3, g4⟩
theorem tof_ftp {n : Nat} (ld : Nat → Nat) (hn : 1 ≤ n) : tof n ld (n - 1) 1 = ftp n ld := by
  rcases tof_sp n ld (n - 1) 1 with ⟨g1, g2⟩ | ⟨q, g1, g2, g3, g4⟩
  · rw [g1]
    unfold ftp
    rw [if_neg]
    rintro ⟨a1, a2, a3⟩
    exact g2 (ft1 n ld n 0) (by omega) (by omega) ((tpi_c0 a2 a3).mpr ⟨rfl, a1⟩)
  · obtain ⟨e, h⟩ := (tpi_c0 (n := n) (by omega) (by omega)).mp g4
    rw [g3]
    unfold ftp
    rw [← e, if_pos ⟨h, by omega, by omega⟩]
theorem n_topOf_2 (E : zE) {w : zWd} {σ : zSt} {ab be : Int64} {rm en ej : Int32} {Post : Option Value → zWd → Prop} (h0 : zIs w 49 (zMo ab be rm en ej)) (hc : zMc w σ) {m c : Nat} (hm : m < 8) (hcn : c < 100)
    (kk : ∀ z4 : Value, zV E mX4_topOf 1 Post 73 [.ref 49, .int (nI m), .int (nI c), .int (zq (tpi (σ.2 m) c (σ.1 m) = true)), z4] [] w) :
    ∀ (r i : Nat), i + r = σ.1 m → zV E mX4_topOf 1 Post 17 [.ref 49, .int (nI m), .int (nI c), .int (zq (tpi (σ.2 m) c i = true)), .int (nI i)] [] w := by
  obtain ⟨⟨sz, a1, a2⟩, -, hv⟩ := id hc
  obtain ⟨v1, v5, vl⟩ := hv m hm
  intro r
  induction r with
  | zero =>
    intro i hi
    have e : i = σ.1 m := by omega
    subst e
    refine zV.run kX4_topOf 2 rfl ?_
    refine zV.gf kX4_topOf rfl fX4_7 (h0) rfl ?_
    refine zV.run kX4_topOf 1 rfl ?_
    refine zV.ial kX4_topOf rfl (a1) (m) (rfl) (hm) (by decide) ?_
    rw [a2 m hm]
    refine zV.ict kX4_topOf (cd := .ge) rfl (Int32.le_refl _) ?_
    exact kk _
  | succ r ih =>
    intro i hi
    have sb := sl_rg v5 vl (i := i) (by omega)
    have nxt : ∀ v : Bool, v = tpi (σ.2 m) c (i + 1) → zV E mX4_topOf 1 Post 66 [.ref 49, .int (nI m), .int (nI c), .int (zq (tpi (σ.2 m) c i = true)), .int (nI i)] [.int (zq (v = true))] w := by
      intro v hv
      subst hv
      refine zV.run kX4_topOf 3 rfl ?_
      rw [nI_1]
      exact ih (i + 1) (by omega)
    have ea : tpi (σ.2 m) c (i + 1) = (tpi (σ.2 m) c i && (if i < c then decide (0 < sl (σ.2 m) i) else decide (sl (σ.2 m) i < 0))) := rfl
    refine zV.run kX4_topOf 2 rfl ?_
    refine zV.gf kX4_topOf rfl fX4_7 (h0) rfl ?_
    refine zV.run kX4_topOf 1 rfl ?_
    refine zV.ial kX4_topOf rfl (a1) (m) (rfl) (hm) (by decide) ?_
    rw [a2 m hm]
    refine zV.icf kX4_topOf (cd := .ge) rfl (nI_ge (by omega) (by omega)) ?_
    refine zV.run kX4_topOf 1 rfl ?_
    refine zV.if2 kX4_topOf rfl (fun c1 => ?_) (fun c1 => ?_)
    · skip
      have c1 := zq_eq0.mp c1
      refine zV.run kX4_topOf 1 rfl ?_
      exact nxt false (by rw [ea]; simp [c1])
    · skip
      have c1 := Decidable.not_not.mp (mt zq_eq0.mpr c1)
      refine zV.run kX4_topOf 2 rfl ?_
      refine zV.ic2 kX4_topOf rfl (fun c2 => ?_) (fun c2 => ?_)
      · skip
        have c2 := (nI_leI (by omega) (by omega)).mp c2
        refine zV.run kX4_topOf 3 rfl ?_
        refine zV.cv kX4_topOf rfl lX4_57 (n_slopeOf E h0 hc hm (i := i) (by omega)) (by decide) rfl (h0) rfl rfl rfl (Nat.le_of_ble_eq_true rfl) ?_
        rintro _ _ ⟨rfl, rfl⟩
        refine zV.if2 kX4_topOf rfl (fun c3 => ?_) (fun c3 => ?_)
        · skip
          have c3 := (iI_le (a := 0) (b := sl (σ.2 m) i) (by omega) (by omega) (by omega) (by omega)).mp c3
          refine zV.run kX4_topOf 1 rfl ?_
          exact nxt false (by rw [ea, if_neg (by omega), decide_eq_false (by omega)]; simp)
        · skip
          have c3 := mt (iI_le (a := 0) (b := sl (σ.2 m) i) (by omega) (by omega) (by omega) (by omega)).mpr c3
          refine zV.run kX4_topOf 2 rfl ?_
          exact nxt true (by rw [ea, if_neg (by omega), decide_eq_true (by omega), c1]; rfl)
      · skip
        have c2 := mt (nI_leI (a := c) (b := i) (by omega) (by omega)).mpr c2
        refine zV.run kX4_topOf 3 rfl ?_
        refine zV.cv kX4_topOf rfl lX4_57 (n_slopeOf E h0 hc hm (i := i) (by omega)) (by decide) rfl (h0) rfl rfl rfl (Nat.le_of_ble_eq_true rfl) ?_
        rintro _ _ ⟨rfl, rfl⟩
        refine zV.if2 kX4_topOf rfl (fun c3 => ?_) (fun c3 => ?_)
        · skip
          have c3 := (iI_le (a := sl (σ.2 m) i) (b := 0) (by omega) (by omega) (by omega) (by omega)).mp c3
          refine zV.run kX4_topOf 1 rfl ?_
          exact nxt false (by rw [ea, if_pos (by omega), decide_eq_false (by omega)]; simp)
        · skip
          have c3 := mt (iI_le (a := sl (σ.2 m) i) (b := 0) (by omega) (by omega) (by omega) (by omega)).mpr c3
          refine zV.run kX4_topOf 3 rfl ?_
          exact nxt true (by rw [ea, if_pos (by omega), decide_eq_true (by omega), c1]; rfl)
theorem n_topOf_1 (E : zE) {w : zWd} {σ : zSt} {ab be : Int64} {rm en ej : Int32} (h0 : zIs w 49 (zMo ab be rm en ej)) (hc : zMc w σ) {m : Nat} (hm : m < 8) : ∀ (r c : Nat) (z3 z4 : Value), c + r = σ.1 m → zV E mX4_topOf 1 (zR0 w (.int (iI (tof (σ.1 m) (σ.2 m) r c)))) 2 [.ref 49, .int (nI m), .int (nI c), z3, z4] [] w := by
  obtain ⟨⟨sz, a1, a2⟩, -, hv⟩ := id hc
  obtain ⟨v1, v5, vl⟩ := hv m hm
  intro r
  induction r with
  | zero =>
    intro c z3 z4 hc2
    have e : c = σ.1 m := by omega
    subst e
    refine zV.run kX4_topOf 2 rfl ?_
    refine zV.gf kX4_topOf rfl fX4_7 (h0) rfl ?_
    refine zV.run kX4_topOf 1 rfl ?_
    refine zV.ial kX4_topOf rfl (a1) (m) (rfl) (hm) (by decide) ?_
    rw [a2 m hm]
    refine zV.ict kX4_topOf (cd := .ge) rfl (Int32.le_refl _) ?_
    refine zV.run kX4_topOf 1 rfl ?_
    exact zV.iret kX4_topOf rfl rfl (⟨rfl, rfl⟩)
  | succ r ih =>
    intro c z3 z4 hc2
    refine zV.run kX4_topOf 2 rfl ?_
    refine zV.gf kX4_topOf rfl fX4_7 (h0) rfl ?_
    refine zV.run kX4_topOf 1 rfl ?_
    refine zV.ial kX4_topOf rfl (a1) (m) (rfl) (hm) (by decide) ?_
    rw [a2 m hm]
    refine zV.icf kX4_topOf (cd := .ge) rfl (nI_ge (by omega) (by omega)) ?_
    refine zV.run kX4_topOf 4 rfl ?_
    refine n_topOf_2 E h0 hc hm (c := c) (by omega) (fun y4 => ?_) (σ.1 m) 0 (by omega)
    refine zV.run kX4_topOf 1 rfl ?_
    refine zV.if2 kX4_topOf rfl (fun c1 => ?_) (fun c1 => ?_)
    · skip
      have c1 := zq_eq0.mp c1
      have e : tof (σ.1 m) (σ.2 m) (r + 1) c = tof (σ.1 m) (σ.2 m) r (c + 1) := if_neg c1
      rw [e]
      refine zV.run kX4_topOf 2 rfl ?_
      rw [nI_1]
      exact ih (c + 1) _ _ (by omega)
    · skip
      have c1 := Decidable.not_not.mp (mt zq_eq0.mpr c1)
      have e : tof (σ.1 m) (σ.2 m) (r + 1) c = (c : Int) := if_pos c1
      refine zV.run kX4_topOf 1 rfl ?_
      exact zV.iret kX4_topOf rfl rfl (⟨by rw [e, nI_iI], rfl⟩)
theorem n_topOf (E : zE) {w : zWd} {σ : zSt} {ab be : Int64} {rm en ej : Int32} (h0 : zIs w 49 (zMo ab be rm en ej)) (hc : zMc w σ) {m : Nat} (hm : m < 8) : zOk E mX4_topOf 1 [.ref 49, .int (nI m)] w (zR0 w (.int (iI (ftp (σ.1 m) (σ.2 m))))) := by
  have v1 := (hc.2.2 m hm).1
  rw [← tof_ftp _ v1]
  refine zOk.of (by decide +kernel) (Nat.le_of_ble_eq_true rfl) ?_
  refine zV.run kX4_topOf 2 rfl ?_
  exact n_topOf_1 E h0 hc hm (σ.1 m - 1) 1 _ _ (by omega)
theorem n_top (E : zE) {w : zWd} {σ : zSt} (h : zMs w σ) (m : Int32) : zOk E mX4_top 2 [.ref 49, .int m] w (zR0 w (.int (if okM m then iI (ftp (σ.1 m.toInt.toNat) (σ.2 m.toInt.toNat)) else -2))) := by
  obtain ⟨⟨ab, be, rm, en, ej, h0⟩, hc, hx⟩ := id h
  refine zOk.of (by decide +kernel) (Nat.le_of_ble_eq_true rfl) ?_
  refine zV.run kX4_top 1 rfl ?_
  refine zV.cs kX4_top rfl lX4_51 (n_isMap E w m) (by decide) rfl rfl (Nat.le_of_ble_eq_true rfl) ?_
  rintro _ _ ⟨rfl, rfl⟩
  refine zV.if2 kX4_top rfl (fun c => ?_) (fun c => ?_)
  · skip
    have c := zq_eq0.mp c
    refine zV.run kX4_top 1 rfl ?_
    exact zV.iret kX4_top rfl rfl (⟨by rw [if_neg c], rfl⟩)
  · skip
    have c := Decidable.not_not.mp (mt zq_eq0.mpr c)
    obtain ⟨mm, emm⟩ : ∃ mm, mm = m.toInt.toNat := ⟨_, rfl⟩
    have em : m = nI mm := by rw [emm]; exact i32_nI c.1
    have hm : mm < 8 := by omega
    rw [if_pos c, ← emm, em]
    refine zV.run kX4_top 2 rfl ?_
    refine zV.cv kX4_top rfl lX4_164 (n_topOf E h0 hc hm) (by decide) rfl (h0) rfl rfl rfl (Nat.le_of_ble_eq_true rfl) ?_
    rintro _ _ ⟨rfl, rfl⟩
    refine zV.run kX4_top 1 rfl ?_
    exact zV.iret kX4_top rfl rfl (⟨rfl, rfl⟩)
theorem n_topWord_l (E : zE) {w : zWd} {σ : zSt} {ab be : Int64} {rm en ej : Int32} (h0 : zIs w 49 (zMo ab be rm en ej)) (hc : zMc w σ) {m c i : Nat} (hm : m < 8) (hcn : c ≤ σ.1 m) (hi : i ≤ 1000) : ∀ (r k : Nat), k + r = i → zV E mX4_topWord 2 (zR0 w (.int (if orb (σ.2 m) c i = c then 1 else if orb (σ.2 m) c i < c then 0 else 2))) 42 [.ref 49, .int (nI m), .int (nI i), .int (nI c), .int (nI (orb (σ.2 m) c k)), .int (nI k)] [] w := by
  obtain ⟨-, ⟨ld, b1, b2⟩, hv⟩ := id hc
  obtain ⟨v1, v5, vl⟩ := hv m hm
  intro r
  induction r with
  | zero =>
    intro k hk
    have e : k = i := by omega
    subst e
    have ho := orb_le vl hcn k
    refine zV.run kX4_topWord 2 rfl ?_
    refine zV.ict kX4_topWord (cd := .ge) rfl (Int32.le_refl _) ?_
    refine zV.run kX4_topWord 2 rfl ?_
    refine zV.ic2 kX4_topWord rfl (fun c1 => ?_) (fun c1 => ?_)
    · skip
      have c1 := (nI_leI (by omega) (by omega)).mp c1
      refine zV.run kX4_topWord 2 rfl ?_
      refine zV.ic2 kX4_topWord rfl (fun c2 => ?_) (fun c2 => ?_)
      · skip
        have c2 := mt (nI_eq (a := orb (σ.2 m) c k) (b := c) (by omega) (by omega)).mpr c2
        refine zV.run kX4_topWord 1 rfl ?_
        exact zV.iret kX4_topWord rfl rfl (⟨by rw [if_neg c2, if_neg (by omega)], rfl⟩)
      · skip
        have c2 := (nI_eq (by omega) (by omega)).mp (Decidable.not_not.mp c2)
        refine zV.run kX4_topWord 2 rfl ?_
        exact zV.iret kX4_topWord rfl rfl (⟨by rw [if_pos c2], rfl⟩)
    · skip
      have c1 := mt (nI_leI (a := c) (b := orb (σ.2 m) c k) (by omega) (by omega)).mpr c1
      refine zV.run kX4_topWord 2 rfl ?_
      exact zV.iret kX4_topWord rfl rfl (⟨by rw [if_neg (by omega), if_pos (by omega)], rfl⟩)
  | succ r ih =>
    intro k hk
    have ho := orb_le vl hcn k
    refine zV.run kX4_topWord 2 rfl ?_
    refine zV.icf kX4_topWord (cd := .ge) rfl (nI_ge (by omega) (by omega)) ?_
    refine zV.run kX4_topWord 1 rfl ?_
    refine zV.gf kX4_topWord rfl fX4_13 (h0) rfl ?_
    refine zV.run kX4_topWord 5 rfl ?_
    refine zV.ial kX4_topWord rfl (b1) (7 * m + orb (σ.2 m) c k) (ix7) (by omega) (by decide) ?_
    rw [b2 m _ hm ho]
    refine zV.run kX4_topWord 3 rfl ?_
    rw [nI_1]
    exact ih (k + 1) (by omega)
theorem n_topWord (E : zE) {w : zWd} {σ : zSt} (h : zMs w σ) (m i : Int32) : zOk E mX4_topWord 2 [.ref 49, .int m, .int i] w (zR0 w (.int (if okM m ∧ (1 ≤ i.toInt ∧ i.toInt ≤ 1000) then twd (σ.1 m.toInt.toNat) (σ.2 m.toInt.toNat) i.toInt.toNat else -2))) := by
  obtain ⟨⟨ab, be, rm, en, ej, h0⟩, hc, hx⟩ := id h
  refine zOk.of (by decide +kernel) (Nat.le_of_ble_eq_true rfl) ?_
  refine zV.run kX4_topWord 1 rfl ?_
  refine zV.cs kX4_topWord rfl lX4_51 (n_isMap E w m) (by decide) rfl rfl (Nat.le_of_ble_eq_true rfl) ?_
  rintro _ _ ⟨rfl, rfl⟩
  refine zV.if2 kX4_topWord rfl (fun c => ?_) (fun c => ?_)
  · skip
    have c := zq_eq0.mp c
    refine zV.run kX4_topWord 1 rfl ?_
    exact zV.iret kX4_topWord rfl rfl (⟨by rw [if_neg (fun q => c q.1)], rfl⟩)
  · skip
    have c := Decidable.not_not.mp (mt zq_eq0.mpr c)
    refine zV.run kX4_topWord 3 rfl ?_
    refine zV.ldc2 kX4_topWord rfl qX4_86 ?_
    refine zV.cs kX4_topWord rfl lX4_47 (n_in E w i.toInt64 1 1000) (by decide) rfl rfl (Nat.le_of_ble_eq_true rfl) ?_
    rintro _ _ ⟨rfl, rfl⟩
    rw [zq_c inK]
    refine zV.if2 kX4_topWord rfl (fun c2 => ?_) (fun c2 => ?_)
    · skip
      have c2 : 1 ≤ i.toInt ∧ i.toInt ≤ 1000 := Decidable.not_not.mp (mt zq_eq0.mpr c2)
      rw [if_pos ⟨c, c2⟩]
      obtain ⟨mm, emm⟩ : ∃ mm, mm = m.toInt.toNat := ⟨_, rfl⟩
      have em : m = nI mm := by rw [emm]; exact i32_nI c.1
      have hm : mm < 8 := by omega
      obtain ⟨ii, eii⟩ : ∃ ii, ii = i.toInt.toNat := ⟨_, rfl⟩
      have ei : i = nI ii := by rw [eii]; exact i32_nI (by omega)
      have v5 := (hc.2.2 mm hm).2.1
      rw [← emm, ← eii, ei, em]
      have hr := ftp_rg (σ.1 mm) (σ.2 mm)
      refine zV.run kX4_topWord 2 rfl ?_
      refine zV.cv kX4_topWord rfl lX4_164 (n_topOf E h0 hc hm) (by decide) rfl (h0) rfl rfl rfl (Nat.le_of_ble_eq_true rfl) ?_
      rintro _ _ ⟨rfl, rfl⟩
      refine zV.run kX4_topWord 3 rfl ?_
      refine zV.ic2 kX4_topWord rfl (fun c4 => ?_) (fun c4 => ?_)
      · skip
        have c4 : ¬ ftp (σ.1 mm) (σ.2 mm) = -1 := fun q => c4 (by rw [q]; rfl)
        obtain ⟨tc, etc⟩ : ∃ tc : Nat, tc = (ftp (σ.1 mm) (σ.2 mm)).toNat := ⟨_, rfl⟩
        have etc2 : iI (ftp (σ.1 mm) (σ.2 mm)) = nI tc := by rw [nI_iI, etc, Int.toNat_of_nonneg (by omega)]
        have ew : twd (σ.1 mm) (σ.2 mm) ii = if orb (σ.2 mm) tc ii = tc then 1 else if orb (σ.2 mm) tc ii < tc then 0 else 2 := by
          unfold twd
          rw [if_neg c4, ← etc]
        rw [etc2, ew]
        refine zV.run kX4_topWord 4 rfl ?_
        exact n_topWord_l E h0 hc hm (c := tc) (by omega) (i := ii) (by omega) ii 0 (by omega)
      · skip
        have c4 : ftp (σ.1 mm) (σ.2 mm) = -1 := (iI_eq (by omega) (by omega) (by omega) (by omega)).mp (show iI _ = iI (-1) from Decidable.not_not.mp c4)
        refine zV.run kX4_topWord 1 rfl ?_
        exact zV.iret kX4_topWord rfl rfl (⟨by unfold twd; rw [if_pos c4], rfl⟩)
    · skip
      have c2 : ¬ (1 ≤ i.toInt ∧ i.toInt ≤ 1000) := zq_eq0.mp (Decidable.not_not.mp c2)
      refine zV.run kX4_topWord 1 rfl ?_
      exact zV.iret kX4_topWord rfl rfl (⟨by rw [if_neg (fun q => c2 q.2)], rfl⟩)
theorem n_digest_2 (E : zE) {w : zWd} {σ : zSt} {ab be : Int64} {rm en ej : Int32} {Post : Option Value → zWd → Prop} (h0 : zIs w 49 (zMo ab be rm en ej)) (hc : zMc w σ) {m : Nat} (hm : m < 8) (g0 : Int64)
    (kk : ∀ z4 : Value, zV E mX4_digest 0 Post 66 [.ref 49, .long (dgi (σ.2 m) g0 (σ.1 m + 1)), zU, .int (nI m), z4] [] w) :
    ∀ (r i : Nat), i + r = σ.1 m + 1 → zV E mX4_digest 0 Post 29 [.ref 49, .long (dgi (σ.2 m) g0 i), zU, .int (nI m), .int (nI i)] [] w := by
  obtain ⟨⟨sz, a1, a2⟩, ⟨ld, b1, b2⟩, hv⟩ := id hc
  obtain ⟨v1, v5, vl⟩ := hv m hm
  intro r
  induction r with
  | zero =>
    intro i hi
    have e : i = σ.1 m + 1 := by omega
    subst e
    refine zV.run kX4_digest 2 rfl ?_
    refine zV.gf kX4_digest rfl fX4_7 (h0) rfl ?_
    refine zV.run kX4_digest 1 rfl ?_
    refine zV.ial kX4_digest rfl (a1) (m) (rfl) (hm) (by decide) ?_
    rw [a2 m hm]
    refine zV.ict kX4_digest (cd := .gt) rfl (nI_lt (by omega) (by omega)) ?_
    exact kk _
  | succ r ih =>
    intro i hi
    have li := vl i (by omega)
    refine zV.run kX4_digest 2 rfl ?_
    refine zV.gf kX4_digest rfl fX4_7 (h0) rfl ?_
    refine zV.run kX4_digest 1 rfl ?_
    refine zV.ial kX4_digest rfl (a1) (m) (rfl) (hm) (by decide) ?_
    rw [a2 m hm]
    refine zV.icf kX4_digest (cd := .gt) rfl (nI_nlt (by omega) (by omega)) ?_
    refine zV.ldc2 kX4_digest rfl qX4_169 ?_
    refine zV.run kX4_digest 3 rfl ?_
    refine zV.gf kX4_digest rfl fX4_13 (h0) rfl ?_
    refine zV.run kX4_digest 5 rfl ?_
    refine zV.ial kX4_digest rfl (b1) (7 * m + i) (ix7) (by omega) (by decide) ?_
    rw [b2 m i hm (by omega)]
    refine zV.run kX4_digest 5 rfl ?_
    rw [nI_1, nI_l (by omega)]
    exact ih (i + 1) (by omega)
theorem n_digest_1 (E : zE) {w : zWd} {σ : zSt} (h : zMs w σ) : ∀ (r m : Nat) (z4 : Value), m + r = 8 → zV E mX4_digest 0 (zR0 w (.long (dgo σ 8))) 6 [.ref 49, .long (dgo σ m), zU, .int (nI m), z4] [] w := by
  obtain ⟨⟨ab, be, rm, en, ej, h0⟩, hc, hx⟩ := id h
  obtain ⟨⟨sz, a1, a2⟩, -, hv⟩ := id hc
  intro r
  induction r with
  | zero =>
    intro m z4 hm
    have e : m = 8 := by omega
    subst e
    refine zV.run kX4_digest 2 rfl ?_
    refine zV.ict kX4_digest (cd := .ge) rfl (Int32.le_refl _) ?_
    refine zV.run kX4_digest 1 rfl ?_
    exact zV.lret kX4_digest rfl rfl (⟨rfl, rfl⟩)
  | succ r ih =>
    intro m z4 hr
    have hm : m < 8 := by omega
    have v5 := (hv m hm).2.1
    refine zV.run kX4_digest 2 rfl ?_
    refine zV.icf kX4_digest (cd := .ge) rfl (fun q => absurd ((nI_leI (a := 8) (b := m) (by omega) (by omega)).mp q) (by omega)) ?_
    refine zV.ldc2 kX4_digest rfl qX4_169 ?_
    refine zV.run kX4_digest 3 rfl ?_
    refine zV.gf kX4_digest rfl fX4_7 (h0) rfl ?_
    refine zV.run kX4_digest 1 rfl ?_
    refine zV.ial kX4_digest rfl (a1) (m) (rfl) (hm) (by decide) ?_
    rw [a2 m hm]
    refine zV.run kX4_digest 5 rfl ?_
    rw [nI_l (by omega)]
    refine n_digest_2 E h0 hc hm (31 * dgo σ m + lN (σ.1 m)) (fun y4 => ?_) (σ.1 m + 1) 0 (by omega)
    refine zV.run kX4_digest 2 rfl ?_
    rw [nI_1]
    exact ih (m + 1) _ (by omega)
theorem n_digest (E : zE) {w : zWd} {σ : zSt} (h : zMs w σ) : zOk E mX4_digest 0 [.ref 49] w (zR0 w (.long (dgo σ 8))) := by
  refine zOk.of (by decide +kernel) (Nat.le_of_ble_eq_true rfl) ?_
  refine zV.ldc2 kX4_digest rfl qX4_167 ?_
  refine zV.run kX4_digest 3 rfl ?_
  exact n_digest_1 E h 8 0 _ (by omega)
