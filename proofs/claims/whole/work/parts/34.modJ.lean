/-! ===== the model: rounds, the walk down ===== -/
def pst {α : Type} (f : Nat → α) (a : Nat) (x : α) : Nat → α := fun q => if q = a then x else f q
theorem pst_s {α : Type} {f : Nat → α} {a : Nat} {x : α} : pst f a x a = x := if_pos rfl
theorem pst_n {α : Type} {f : Nat → α} {a q : Nat} {x : α} (h : q ≠ a) : pst f a x q = f q := if_neg h
theorem zRn.c {w : zWd} {sp sp' : Nat → Nat} {ps pt ps' pt' : Nat → Int} {tr tr' : Nat → Int32} {d d' e : Nat} {R : RS} (h : zRn w sp ps pt tr d e R) (hd : d' ≤ d) (hde : d' ≤ e) (h1 : ∀ q, q < d' → sp q = sp' q) (h2 : ∀ q, q < d' → ps q = ps' q) (h3 : ∀ q, q < d' → pt q = pt' q) (h4 : ∀ q, q < d' → tr q = tr' q) : zRn w sp' ps' pt' tr' d' d' R := by
  obtain ⟨h0, g3, g4, ⟨f5, g5, e5⟩, ⟨f6, g6, e6⟩, ⟨f9, g9, e9⟩, ⟨f10, g10, e10⟩⟩ := h
  exact ⟨h0, g3, g4, ⟨f5, g5, fun q hq => by rw [e5 q (by omega), h2 q hq]⟩, ⟨f6, g6, fun q hq => by rw [e6 q (by omega), h3 q hq]⟩, ⟨f9, g9, fun q hq => by rw [e9 q (by omega), h1 q hq]⟩, ⟨f10, g10, fun q hq => by rw [e10 q (by omega), h4 q hq]⟩⟩
theorem zFo2.t {w w' w'' : zWd} (h : zFo2 w w') (h' : zFo2 w' w'') : zFo2 w w'' := fun a ha => (h' a ha).trans (h a ha)
theorem zFo2.mc {w w' : zWd} (h : zFo2 w w') {σ : zSt} (hc : zMc w σ) : zMc w' σ := hc.k (h 50 (by omega)) (h 51 (by omega))
theorem n_enters (E : zE) {w : zWd} {sp : Nat → Nat} {ps pt : Nat → Int} {tr : Nat → Int32} {R : RS} {d : Nat} (hR : zRn w sp ps pt tr d d R) (hd : d < 7) (j : Nat) (s t : Int) : zOk E mX4_enters 0 [.ref 49, .int (nI d), .int (nI j), .long (lI s), .long (lI t)] w (fun r w' => r = none ∧ zRn w' (pst sp d j) (pst ps d s) (pst pt d t) (pst tr d 0) (d + 1) (d + 1) R ∧ zFo2 w w') := by
  obtain ⟨⟨ab, be, h0⟩, ⟨fa, g3, e3⟩, ⟨fb, g4, e4⟩, ⟨pS, g5, e5⟩, ⟨pT, g6, e6⟩, ⟨sS, g9, e9⟩, ⟨tS, g10, e10⟩⟩ := id hR
  refine zOk.of (by decide +kernel) (Nat.le_of_ble_eq_true rfl) ?_
  refine zV.run kX4_enters 1 rfl ?_
  refine zV.gf kX4_enters rfl fX4_39 (h0) rfl ?_
  refine zV.run kX4_enters 2 rfl ?_
  refine zV.ias kX4_enters rfl (g9) (d) (rfl) (by omega) (by decide) ?_
  refine zV.run kX4_enters 1 rfl ?_
  refine zV.gf kX4_enters rfl fX4_27 (h0.n (by decide)) rfl ?_
  refine zV.run kX4_enters 2 rfl ?_
  refine zV.las kX4_enters rfl (g5.n (by decide)) (d) (rfl) (by omega) (by decide) ?_
  refine zV.run kX4_enters 1 rfl ?_
  refine zV.gf kX4_enters rfl fX4_30 ((h0.n (by decide)).n (by decide)) rfl ?_
  refine zV.run kX4_enters 2 rfl ?_
  refine zV.las kX4_enters rfl ((g6.n (by decide)).n (by decide)) (d) (rfl) (by omega) (by decide) ?_
  refine zV.run kX4_enters 1 rfl ?_
  refine zV.gf kX4_enters rfl fX4_42 (((h0.n (by decide)).n (by decide)).n (by decide)) rfl ?_
  refine zV.run kX4_enters 2 rfl ?_
  refine zV.ias kX4_enters rfl (((g10.n (by decide)).n (by decide)).n (by decide)) (d) (rfl) (by omega) (by decide) ?_
  have kq : ∀ (c1 c2 c3 c4 : va_E) (q : Nat), q ≠ 59 → q ≠ 55 → q ≠ 56 → q ≠ 60 → va_up (va_up (va_up (va_up w 59 c1) 55 c2) 56 c3) 60 c4 q = w q := fun c1 c2 c3 c4 q q1 q2 q3 q4 => by rw [zup_ne q4, zup_ne q3, zup_ne q2, zup_ne q1]
  refine zV.vret kX4_enters rfl rfl ⟨rfl, ⟨⟨ab, be, h0.k (kq _ _ _ _ _ (by decide) (by decide) (by decide) (by decide))⟩, ⟨fa, g3.k (kq _ _ _ _ _ (by decide) (by decide) (by decide) (by decide)), e3⟩, ⟨fb, g4.k (kq _ _ _ _ _ (by decide) (by decide) (by decide) (by decide)), e4⟩, ⟨_, ((zIs.s g5.1).n (by decide)).n (by decide), fun q hq => ?_⟩, ⟨_, (zIs.s g6.1).n (by decide), fun q hq => ?_⟩, ⟨_, (((zIs.s g9.1).n (by decide)).n (by decide)).n (by decide), fun q hq => ?_⟩, ⟨_, zIs.s g10.1, fun q hq => ?_⟩⟩, fun q hq => kq _ _ _ _ q (by omega) (by omega) (by omega) (by omega)⟩
  · by_cases c : q = d
    · rw [c, pk_uLs, pst_s]
    · rw [pk_uLn c, pst_n c, e5 q (by omega)]
  · by_cases c : q = d
    · rw [c, pk_uLs, pst_s]
    · rw [pk_uLn c, pst_n c, e6 q (by omega)]
  · by_cases c : q = d
    · rw [c, pk_us, pst_s]
    · rw [pk_un c, pst_n c, e9 q (by omega)]
  · by_cases c : q = d
    · rw [c, pk_us, pst_s]
    · rw [pk_un c, pst_n c, e10 q (by omega)]
def nS (ld : Nat → Nat) (j : Nat) (s : Int) : Int := sl ld j * s
def nT (ld : Nat → Nat) (j : Nat) (t : Int) : Int := sl ld j * t + (ld j : Int) - sl ld j * (j : Int)
/-- the c-th span that is tried below -/
def jth (n : Nat) (s : Int) (c : Nat) : Nat := if 0 < s then c else n - 1 - c
/-- bounds of the path's levels -/
def pbd (n : Nat) (sp : Nat → Nat) (ps pt : Nat → Int) (d : Nat) : Prop :=
  ps 0 = 1 ∧ pt 0 = 0 ∧ (∀ q, q ≤ d → (sp q < n ∧ -(5 ^ q : Nat) ≤ ps q ∧ ps q ≤ (5 ^ q : Nat) ∧ -(7 * 5 ^ q - 7 : Nat) ≤ pt q ∧ pt q ≤ (7 * 5 ^ q - 7 : Nat))) ∧ (ps d = 0 → 0 ≤ pt d ∧ pt d ≤ (n : Int) ∧ sp d = min (pt d).toNat (n - 1))
def rok (n : Nat) (R : RS) (c : Nat) : Prop := R.1.length ≤ c ∧ ∀ p ∈ R.1, 0 < p.2 ∧ p.2 ≤ 100000 ∧ p.1 ≤ n * p.2
theorem rok.b {n : Nat} {R : RS} {c : Nat} (h : rok n R c) (hn : n ≤ 5) : ∀ p ∈ R.1, p.1 < 2 ^ 40 ∧ p.2 < 2 ^ 40 := by
  intro p hp
  obtain ⟨h1, h2, h3⟩ := h.2 p hp
  have : n * p.2 ≤ 5 * p.2 := Nat.mul_le_mul_right _ hn
  omega
def goP (n : Nat) (ld : Nat → Nat) (k : Nat) (sp : Nat → Nat) (ps pt : Nat → Int) (tr : Nat → Int32) (d : Nat) (R : RS) (w : zWd) (s t : Int) (r : Option Value) (w' : zWd) : Prop :=
  zFo2 w w' ∧
   ((d + 1 = k ∧ r = some (.int (iI ((d : Int) - 1))) ∧ zRn w' sp ps pt tr (d + 1) (d + 1) (cmb k sp (pst ps k s) (pst pt k t) s t R)) ∨
    (d + 1 < k ∧ s = 0 ∧ tr d = 0 ∧ r = some (.int (nI (d + 1))) ∧ zRn w' (pst sp (d + 1) (min t.toNat (n - 1))) (pst ps (d + 1) 0) (pst pt (d + 1) t) (pst (pst tr d 1) (d + 1) 0) (d + 2) (d + 2) R) ∨
    (d + 1 < k ∧ s = 0 ∧ tr d ≠ 0 ∧ r = some (.int (iI ((d : Int) - 1))) ∧ zRn w' sp ps pt tr (d + 1) (d + 1) R) ∨
    (d + 1 < k ∧ s ≠ 0 ∧ ∃ c c', tr d = nI c ∧ c ≤ n ∧ c ≤ c' ∧ (∀ x, c ≤ x → x < c' → cov ld (sp d) (jth n s x) = false) ∧
      ((c' < n ∧ cov ld (sp d) (jth n s c') = true ∧ r = some (.int (nI (d + 1))) ∧ zRn w' (pst sp (d + 1) (jth n s c')) (pst ps (d + 1) s) (pst pt (d + 1) t) (pst (pst tr d (nI (c' + 1))) (d + 1) 0) (d + 2) (d + 2) R) ∨
       (c' = n ∧ r = some (.int (iI ((d : Int) - 1))) ∧ zRn w' sp ps pt (pst tr d (nI n)) (d + 1) (d + 1) R))))
theorem nI_m1 {d : Nat} : nI d - 1 = iI ((d : Int) - 1) := by rw [nI_iI, show (1 : Int32) = iI 1 from rfl, iI_sub]
/-- tried moves on -/
theorem zRn.tr {w : zWd} {sp : Nat → Nat} {ps pt : Nat → Int} {tr : Nat → Int32} {d : Nat} {R : RS} (h : zRn w sp ps pt tr (d + 1) (d + 1) R) {tS : Nat → Int32} (g : zIs w 60 (zIA 7 tS)) (e : ∀ q, q < d + 1 → tS q = tr q) (x : Int32) : zRn (va_up w 60 (zIA 7 (upd tS d x))) sp ps pt (pst tr d x) (d + 1) (d + 1) R := by
  obtain ⟨⟨ab, be, h0⟩, ⟨fa, g3, e3⟩, ⟨fb, g4, e4⟩, ⟨pS, g5, e5⟩, ⟨pT, g6, e6⟩, ⟨sS, g9, e9⟩, -⟩ := h
  refine ⟨⟨ab, be, h0.n (by decide)⟩, ⟨fa, g3.n (by decide), e3⟩, ⟨fb, g4.n (by decide), e4⟩, ⟨pS, g5.n (by decide), e5⟩, ⟨pT, g6.n (by decide), e6⟩, ⟨sS, g9.n (by decide), e9⟩, ⟨_, zIs.s g.1, fun q hq => ?_⟩⟩
  by_cases c : q = d
  · rw [c, pk_us, pst_s]
  · rw [pk_un c, pst_n c, e q hq]
theorem n_goOn_l (E : zE) {σ : zSt} {m : Nat} (hm : m < 8) {sp : Nat → Nat} {ps pt : Nat → Int} {R : RS} {k d : Nat} (hdk : d + 1 < k) (hk : k ≤ 6) {s t : Int} (hs0 : s ≠ 0) (hs1 : -1000000 ≤ s) (hs2 : s ≤ 1000000) (hsp : sp d < σ.1 m) (zc : Value) :
    ∀ (f c : Nat) (w : zWd) (tr : Nat → Int32) (z11 z12 : Value), c + f = σ.1 m → zMc w σ → zRn w sp ps pt tr (d + 1) (d + 1) R → tr d = nI c → zV E mX4_goOn 3 (goP (σ.1 m) (σ.2 m) k sp ps pt tr d R w s t) 165 [.ref 49, .int (nI m), .int (nI d), .int (nI k), .int (nI (sp d)), zc, zU, .long (lI s), zU, .long (lI t), zU, z11, z12] [] w := by
  intro f
  induction f with
  | zero =>
    intro c w tr z11 z12 hcf hc hR htr
    obtain ⟨⟨ab, be, h0⟩, g3, g4, g5, g6, g9, ⟨tS, g10, e10⟩⟩ := id hR
    obtain ⟨⟨sz, h50, ez⟩, -, hv⟩ := id hc
    obtain ⟨v1, v2, v3⟩ := hv m hm
    refine zV.run kX4_goOn 1 rfl ?_
    refine zV.gf kX4_goOn rfl fX4_42 (h0) rfl ?_
    refine zV.run kX4_goOn 1 rfl ?_
    refine zV.ial kX4_goOn rfl (g10) (d) (rfl) (by omega) (by decide) ?_
    refine zV.run kX4_goOn 1 rfl ?_
    refine zV.gf kX4_goOn rfl fX4_7 (h0) rfl ?_
    refine zV.run kX4_goOn 1 rfl ?_
    refine zV.ial kX4_goOn rfl (h50) (m) (rfl) (hm) (by decide) ?_
    rw [ez m hm, e10 d (by omega), htr]
    refine zV.ict kX4_goOn (cd := .ge) rfl (by rw [show c = σ.1 m by omega]; exact Int32.le_refl _) ?_
    refine zV.run kX4_goOn 3 rfl ?_
    rw [nI_m1]
    refine zV.iret kX4_goOn rfl rfl ⟨fun _ _ => rfl, Or.inr (Or.inr (Or.inr ⟨hdk, hs0, c, c, htr, by omega, Nat.le_refl _, fun x h1 h2 => by omega, Or.inr ⟨by omega, rfl, ?_⟩⟩))⟩
    refine hR.c (Nat.le_refl _) (Nat.le_refl _) (fun _ _ => rfl) (fun _ _ => rfl) (fun _ _ => rfl) (fun q hq => ?_)
    by_cases e : q = d
    · rw [e, pst_s, htr, show c = σ.1 m by omega]
    · rw [pst_n e]
  | succ f ih =>
    intro c w tr z11 z12 hcf hc hR htr
    obtain ⟨⟨ab, be, h0⟩, g3, g4, g5, g6, g9, ⟨tS, g10, e10⟩⟩ := id hR
    obtain ⟨⟨sz, h50, ez⟩, -, hv⟩ := id hc
    obtain ⟨v1, v2, v3⟩ := hv m hm
    have et : tS d = nI c := by rw [e10 d (by omega), htr]
    have hj : jth (σ.1 m) s c < σ.1 m := by unfold jth; split <;> omega
    refine zV.run kX4_goOn 1 rfl ?_
    refine zV.gf kX4_goOn rfl fX4_42 (h0) rfl ?_
    refine zV.run kX4_goOn 1 rfl ?_
    refine zV.ial kX4_goOn rfl (g10) (d) (rfl) (by omega) (by decide) ?_
    refine zV.run kX4_goOn 1 rfl ?_
    refine zV.gf kX4_goOn rfl fX4_7 (h0) rfl ?_
    refine zV.run kX4_goOn 1 rfl ?_
    refine zV.ial kX4_goOn rfl (h50) (m) (rfl) (hm) (by decide) ?_
    rw [ez m hm, et]
    refine zV.icf kX4_goOn (cd := .ge) rfl (nI_ge (by omega) (by omega)) ?_
    refine zV.run kX4_goOn 1 rfl ?_
    refine zV.gf kX4_goOn rfl fX4_42 (h0) rfl ?_
    refine zV.run kX4_goOn 1 rfl ?_
    refine zV.ial kX4_goOn rfl (g10) (d) (rfl) (by omega) (by decide) ?_
    refine zV.run kX4_goOn 2 rfl ?_
    refine zV.gf kX4_goOn rfl fX4_42 (h0) rfl ?_
    refine zV.run kX4_goOn 2 rfl ?_
    refine zV.ial kX4_goOn rfl (g10) (d) (rfl) (by omega) (by decide) ?_
    rw [et]
    refine zV.run kX4_goOn 2 rfl ?_
    refine zV.ias kX4_goOn rfl (g10) (d) (rfl) (by omega) (by decide) ?_
    rw [nI_1]
    have hR2 := hR.tr g10 e10 (nI (c + 1))
    obtain ⟨w2, ew⟩ : ∃ w2, w2 = va_up w 60 (zIA 7 (upd tS d (nI (c + 1)))) := ⟨_, rfl⟩
    rw [← ew] at hR2 ⊢
    have hf2 : zFo2 w w2 := fun a ha => by rw [ew]; exact zup_ne (by omega)
    have hc2 := hf2.mc hc
    have h02 : zIs w2 49 (zMo ab be (nI R.1.length) (zq (R.2.1 = true)) (zq (R.2.2 = true))) := by rw [ew]; exact h0.n (by decide)
    have h502 : zIs w2 50 (zIA 8 sz) := h50.k (hf2 50 (by omega))
    have key : zV E mX4_goOn 3 (goP (σ.1 m) (σ.2 m) k sp ps pt tr d R w s t) 221 [.ref 49, .int (nI m), .int (nI d), .int (nI k), .int (nI (sp d)), zc, zU, .long (lI s), zU, .long (lI t), zU, .int (nI c), z12] [.int (nI (jth (σ.1 m) s c))] w2 := by
      refine zV.run kX4_goOn 5 rfl ?_
      refine zV.cv kX4_goOn rfl lX4_104 (n_covers E h02 hc2 hm hsp (j := jth (σ.1 m) s c) (by omega)) (by decide) rfl (h02) rfl rfl rfl (Nat.le_of_ble_eq_true rfl) ?_
      rintro _ _ ⟨rfl, rfl⟩
      refine zV.run kX4_goOn 1 rfl ?_
      refine zV.ic2 kX4_goOn rfl (fun c2 => ?_) (fun c2 => ?_)
      · skip
        have c2 : ¬ cov (σ.2 m) (sp d) (jth (σ.1 m) s c) = true := fun q => c2 (zq_t q)
        refine zV.run kX4_goOn 1 rfl ?_
        refine zV.mono (fun r w' hp => ?_) (ih (c + 1) w2 _ _ _ (by omega) hc2 hR2 pst_s)
        obtain ⟨p1, p2⟩ := hp
        refine ⟨hf2.t p1, ?_⟩
        rcases p2 with p2 | p2 | p2 | p2
        · exact absurd p2.1 (by omega)
        · exact absurd p2.2.1 hs0
        · exact absurd p2.2.1 hs0
        · obtain ⟨-, -, c1, c', q1, q2, q3, q4, q5⟩ := p2
          rw [pst_s] at q1
          have q1 := (nI_eq (by omega) (by omega)).mp q1
          refine Or.inr (Or.inr (Or.inr ⟨hdk, hs0, c, c', htr, by omega, by omega, fun x x1 x2 => ?_, ?_⟩))
          · by_cases e : x = c
            · rw [e]; simpa using c2
            · exact q4 x (by omega) x2
          · rcases q5 with ⟨a1, a2, a3, a4⟩ | ⟨a1, a2, a3⟩
            · refine Or.inl ⟨a1, a2, a3, a4.c (Nat.le_refl _) (Nat.le_refl _) (fun _ _ => rfl) (fun _ _ => rfl) (fun _ _ => rfl) (fun q hq => ?_)⟩
              by_cases e : q = d + 1
              · rw [e, pst_s, pst_s]
              · rw [pst_n e, pst_n e]
                by_cases e : q = d
                · rw [e, pst_s, pst_s]
                · rw [pst_n e, pst_n e, pst_n e]
            · refine Or.inr ⟨a1, a2, a3.c (Nat.le_refl _) (Nat.le_refl _) (fun _ _ => rfl) (fun _ _ => rfl) (fun _ _ => rfl) (fun q hq => ?_)⟩
              by_cases e : q = d
              · rw [e, pst_s, pst_s]
              · rw [pst_n e, pst_n e, pst_n e]
      · skip
        have c2 : cov (σ.2 m) (sp d) (jth (σ.1 m) s c) = true := Decidable.not_not.mp (fun q => c2 (fun q2 => absurd (q2.symm.trans (zq_f q)) (by decide)))
        refine zV.run kX4_goOn 7 rfl ?_
        rw [nI_1]
        refine zV.cv kX4_goOn rfl lX4_134 (n_enters E hR2 (by omega) (jth (σ.1 m) s c) s t) (by decide) rfl (h02) rfl rfl rfl (Nat.le_of_ble_eq_true rfl) ?_
        rintro _ w3 ⟨rfl, hR3, hf3⟩
        refine zV.run kX4_goOn 3 rfl ?_
        rw [nI_1]
        refine zV.iret kX4_goOn rfl rfl ⟨hf2.t hf3, Or.inr (Or.inr (Or.inr ⟨hdk, hs0, c, c, htr, by omega, Nat.le_refl _, fun x h1 h2 => by omega, Or.inl ⟨by omega, c2, rfl, hR3⟩⟩))⟩
    refine zV.run kX4_goOn 2 rfl ?_
    refine zV.il2 kX4_goOn rfl rfl (fun c1 => ?_) (fun c1 => ?_)
    · skip
      have c1 := (lI_le (a := s) (b := 0) (by omega) (by omega) (by omega) (by omega)).mp c1
      refine zV.run kX4_goOn 1 rfl ?_
      refine zV.gf kX4_goOn rfl fX4_7 (h02) rfl ?_
      refine zV.run kX4_goOn 1 rfl ?_
      refine zV.ial kX4_goOn rfl (h502) (m) (rfl) (hm) (by decide) ?_
      rw [ez m hm]
      refine zV.run kX4_goOn 4 rfl ?_
      have ej : nI (σ.1 m) - 1 - nI c = nI (jth (σ.1 m) s c) := by
        unfold jth
        rw [if_neg (by omega), show (1 : Int32) = nI 1 from rfl, pk_sub (by omega), pk_sub (by omega)]
      rw [ej]
      exact key
    · skip
      have c1 := mt (lI_le (a := s) (b := 0) (by omega) (by omega) (by omega) (by omega)).mpr c1
      refine zV.run kX4_goOn 2 rfl ?_
      have ej : nI c = nI (jth (σ.1 m) s c) := by
        unfold jth
        rw [if_pos (by omega)]
      exact ej ▸ key
