/-! ===== Returns: what is studied ===== -/
def epf (ld : Nat → Nat) (e : Nat) : Nat → Nat → Nat → Bool → Nat × Bool
  | 0, _, _, _ => (0, false)
  | r + 1, a, k, s => if sl ld (a / 2) = 0 then (0, false) else if nxe ld a = e then (k, s && decide (sl ld (a / 2) = 1 ∨ sl ld (a / 2) = -1)) else epf ld e r (nxe ld a) (k + 1) (s && decide (sl ld (a / 2) = 1 ∨ sl ld (a / 2) = -1))
def eps (ld : Nat → Nat) (e : Nat) : Nat × Bool := epf ld e 6 e 1 true
def trc (n : Nat) (ld : Nat → Nat) (k : Nat) : Nat := sumN n (fun i => tp n ld k i i)
def nwy (n : Nat) (ld : Nat → Nat) (k : Nat) : Int := match k with
  | 1 => trc n ld 1
  | 2 => (trc n ld 2 : Int) - trc n ld 1
  | 3 => (trc n ld 3 : Int) - trc n ld 1
  | 4 => (trc n ld 4 : Int) - trc n ld 2
  | 5 => (trc n ld 5 : Int) - trc n ld 1
  | 6 => (trc n ld 6 : Int) - trc n ld 3 - trc n ld 2 + trc n ld 1
  | _ => 0
def nsd (n : Nat) (ld : Nat → Nat) (k : Nat) : Nat → Int
  | 0 => 0
  | d + 1 => nsd n ld k d + (if 0 < d ∧ k % d = 0 then nwy n ld d else 0)
theorem nsd_nwy (n : Nat) (ld : Nat → Nat) {k : Nat} (h1 : 1 ≤ k) (h6 : k ≤ 6) : (trc n ld k : Int) - nsd n ld k k = nwy n ld k := by
  have hk : k = 1 ∨ k = 2 ∨ k = 3 ∨ k = 4 ∨ k = 5 ∨ k = 6 := by omega
  rcases hk with rfl | rfl | rfl | rfl | rfl | rfl <;> simp [nsd, nwy] <;> omega
theorem nxe_lt {n : Nat} {ld : Nat → Nat} (hb : ∀ i, i ≤ n → ld i ≤ n) {e : Nat} (he : e < 2 * n) (hs : sl ld (e / 2) ≠ 0) : nxe ld e < 2 * n := by
  have l1 := hb (e / 2) (by omega)
  have l2 := hb (e / 2 + 1) (by omega)
  have hsl : sl ld (e / 2) = (ld (e / 2 + 1) : Int) - (ld (e / 2) : Int) := rfl
  unfold nxe
  split <;> split <;> omega
def zRt (w : zWd) (s : Nat) (tq fa fb : Int64) (cp ep es : Nat → Int32) (nw : Nat → Int64) : Prop :=
  zIs w 31 (zOb 2 [.ref 32, .ref 45, .ref 46, .ref 47, .ref 48, .int (nI s), .long tq, .long fa, .long fb]) ∧ zIs w 45 (zIA 6 cp) ∧ zIs w 46 (zIA 10 ep) ∧ zIs w 47 (zZA 10 es) ∧ zIs w 48 (zLA 7 nw)
/-- nothing changes but the cells 31 .. 48 -/
def zFr (w w' : zWd) : Prop := ∀ a, (a < 31 ∨ 49 ≤ a) → w' a = w a
theorem zabs {x : Int} (h1 : -5 ≤ x) (h2 : x ≤ 5) : (if (0 : Int32) ≤ iI x then iI x else 0 - iI x) = 1 ↔ (x = 1 ∨ x = -1) := by
  rw [show (0 : Int32) = iI 0 from rfl]
  by_cases h : 0 ≤ x
  · rw [if_pos ((iI_le (a := 0) (b := x) (by omega) (by omega) (by omega) (by omega)).mpr h)]
    rw [show (1 : Int32) = iI 1 from rfl, iI_eq (by omega) (by omega) (by omega) (by omega)]
    omega
  · rw [if_neg (fun q => h ((iI_le (a := 0) (b := x) (by omega) (by omega) (by omega) (by omega)).mp q))]
    rw [show (1 : Int32) = iI 1 from rfl, iI_sub, iI_eq (by omega) (by omega) (by omega) (by omega)]
    omega
theorem o_studyEdge_l (E : zE) {w : zWd} {f g n s e : Nat} {ld : Nat → Nat} {tq fa fb : Int64} {cp ep es : Nat → Int32} {nw : Nat → Int64} (hF : zFo w f g n ld) (hR : zRt w s tq fa fb cp ep es nw) (he : e < 2 * n) (h0 : ep e = 0 ∧ es e = 0) : ∀ (r a k : Nat) (s : Bool) (z6 : Value), k + r = 7 → a < 2 * n → zV E mX2_studyEdge 2 (fun r' w' => r' = none ∧ w' = va_up (va_up w 46 (zIA 10 (upd ep e (nI (epf ld e r a k s).1)))) 47 (zZA 10 (upd es e (zq ((epf ld e r a k s).2 = true))))) 22 [.ref 31, .ref f, .int (nI e), .int (zq (s = true)), .int (nI a), .int (nI k), z6] [] w := by
  obtain ⟨led, hf, hg, hl, h1, h5, hb⟩ := id hF
  obtain ⟨r1, r2, r3, r4, r5⟩ := id hR
  have fin : w = va_up (va_up w 46 (zIA 10 (upd ep e (nI 0)))) 47 (zZA 10 (upd es e (zq (false = true)))) := by
    have e1 : upd ep e (nI 0) = ep := by
      funext x
      by_cases q : x = e
      · rw [q, pk_us, h0.1]; rfl
      · rw [pk_un q]
    have e2 : upd es e (zq (false = true)) = es := by
      funext x
      by_cases q : x = e
      · rw [q, pk_us, h0.2]; rfl
      · rw [pk_un q]
    rw [e1, e2, zsame r3, zsame r4]
  intro r
  induction r with
  | zero =>
    intro a k s z6 hk ha
    have e : k = 7 := by omega
    subst e
    refine zV.run kX2_studyEdge 2 rfl ?_
    refine zV.ict kX2_studyEdge (cd := .gt) rfl (show (6 : Int32) < nI 7 by decide) ?_
    exact zV.vret kX2_studyEdge rfl rfl (⟨rfl, fin⟩)
  | succ r ih =>
    intro a k s z6 hk ha
    have ea : nI a / 2 = nI (a / 2) := pk_div (d := 2) (by omega) (by decide) (by decide)
    have b1 := sl_rg h5 hb (i := a / 2) (by omega)
    refine zV.run kX2_studyEdge 2 rfl ?_
    refine zV.icf kX2_studyEdge (cd := .gt) rfl (fun q => absurd ((nI_ltI (a := 6) (b := k) (by omega) (by omega)).mp q) (by omega)) ?_
    refine zV.run kX2_studyEdge 3 rfl ?_
    refine zV.idiv kX2_studyEdge rfl (by decide) ?_
    rw [ea]
    refine zV.cv kX2_studyEdge rfl lX2_65 (o_slopeOf E hF (i := a / 2) (by omega)) (by decide) rfl (hf) rfl rfl rfl (Nat.le_of_ble_eq_true rfl) ?_
    rintro _ _ ⟨rfl, rfl⟩
    refine zV.run kX2_studyEdge 2 rfl ?_
    refine zV.if2 kX2_studyEdge rfl (fun c => ?_) (fun c => ?_)
    · skip
      have c : ¬ sl ld (a / 2) = 0 := fun q => c (by rw [q]; rfl)
      have hn := nxe_lt hb ha c
      have key : ∀ s' : Bool, s' = (s && decide (sl ld (a / 2) = 1 ∨ sl ld (a / 2) = -1)) → zV E mX2_studyEdge 2 (fun r' w' => r' = none ∧ w' = va_up (va_up w 46 (zIA 10 (upd ep e (nI (epf ld e (r + 1) a k s).1)))) 47 (zZA 10 (upd es e (zq ((epf ld e (r + 1) a k s).2 = true))))) 63 [.ref 31, .ref f, .int (nI e), .int (zq (s = true)), .int (nI a), .int (nI k), .int (iI (sl ld (a / 2)))] [.int (zq (s' = true))] w := by
        intro s' hs'
        refine zV.run kX2_studyEdge 3 rfl ?_
        refine zV.cv kX2_studyEdge rfl lX2_73 (o_nextEdge E hF ha c) (by decide) rfl (hf) rfl rfl rfl (Nat.le_of_ble_eq_true rfl) ?_
        rintro _ _ ⟨rfl, rfl⟩
        refine zV.run kX2_studyEdge 3 rfl ?_
        refine zV.ic2 kX2_studyEdge rfl (fun c2 => ?_) (fun c2 => ?_)
        · skip
          have c2 := mt (nI_eq (a := nxe ld a) (b := e) (by omega) (by omega)).mpr c2
          have ee : epf ld e (r + 1) a k s = epf ld e r (nxe ld a) (k + 1) s' := by
            show (if sl ld (a / 2) = 0 then _ else if nxe ld a = e then _ else _) = _
            rw [if_neg c, if_neg c2, hs']
          rw [ee]
          refine zV.run kX2_studyEdge 2 rfl ?_
          rw [nI_1]
          exact ih (nxe ld a) (k + 1) s' _ (by omega) hn
        · skip
          have c2 := (nI_eq (by omega) (by omega)).mp (Decidable.not_not.mp c2)
          have ee : epf ld e (r + 1) a k s = (k, s') := by
            show (if sl ld (a / 2) = 0 then _ else if nxe ld a = e then _ else _) = _
            rw [if_neg c, if_pos c2, hs']
          rw [ee]
          refine zV.run kX2_studyEdge 1 rfl ?_
          refine zV.gf kX2_studyEdge rfl fX2_22 (r1) rfl ?_
          refine zV.run kX2_studyEdge 2 rfl ?_
          refine zV.ias kX2_studyEdge rfl (r3) (e) (rfl) (by omega) (by decide) ?_
          refine zV.run kX2_studyEdge 1 rfl ?_
          refine zV.gf kX2_studyEdge rfl fX2_25 (r1.n (by decide)) rfl ?_
          refine zV.run kX2_studyEdge 2 rfl ?_
          refine zV.zas kX2_studyEdge rfl (zq01 _) (r4.n (by decide)) (e) (rfl) (by omega) (by decide) ?_
          exact zV.vret kX2_studyEdge rfl rfl (⟨rfl, rfl⟩)
      refine zV.run kX2_studyEdge 1 rfl ?_
      refine zV.if2 kX2_studyEdge rfl (fun c3 => ?_) (fun c3 => ?_)
      · skip
        have c3 := zq_eq0.mp c3
        refine zV.run kX2_studyEdge 1 rfl ?_
        exact key false (by rw [show s = false by simpa using c3]; rfl)
      · skip
        have c3 := Decidable.not_not.mp (mt zq_eq0.mpr c3)
        refine zV.run kX2_studyEdge 1 rfl ?_
        refine zV.abI kX2_studyEdge rfl lX2_68 (by decide) (Nat.le_of_ble_eq_true rfl) ?_
        refine zV.run kX2_studyEdge 1 rfl ?_
        refine zV.ic2 kX2_studyEdge rfl (fun c4 => ?_) (fun c4 => ?_)
        · skip
          have c4 := mt (zabs b1.1 b1.2).mpr c4
          refine zV.run kX2_studyEdge 1 rfl ?_
          exact key false (by rw [c3, decide_eq_false c4]; rfl)
        · skip
          have c4 := (zabs b1.1 b1.2).mp (Decidable.not_not.mp c4)
          refine zV.run kX2_studyEdge 2 rfl ?_
          exact key true (by rw [c3, decide_eq_true c4]; rfl)
    · skip
      have c := (iI_eq (a := sl ld (a / 2)) (b := 0) (by omega) (by omega) (by omega) (by omega)).mp (Decidable.not_not.mp c)
      have ee : epf ld e (r + 1) a k s = (0, false) := if_pos c
      rw [ee]
      exact zV.vret kX2_studyEdge rfl rfl (⟨rfl, fin⟩)
theorem upd_upd (f : Nat → Int32) (k : Nat) (x y : Int32) : upd (upd f k x) k y = upd f k y := by
  funext j
  by_cases q : j = k
  · rw [q, pk_us, pk_us]
  · rw [pk_un q, pk_un q, pk_un q]
theorem up_comm {w : zWd} {a b : Nat} {c d : va_E} (h : a ≠ b) : va_up (va_up w a c) b d = va_up (va_up w b d) a c := by
  funext x
  by_cases q : x = b
  · subst q; simp [va_up, Ne.symm h]
  · by_cases q2 : x = a
    · subst q2; simp [va_up, q]
    · simp [va_up, q, q2]
theorem o_studyEdge (E : zE) {w : zWd} {f g n s e : Nat} {ld : Nat → Nat} {tq fa fb : Int64} {cp ep es : Nat → Int32} {nw : Nat → Int64} (hF : zFo w f g n ld) (hf31 : f < 31) (hg31 : g < 31) (hR : zRt w s tq fa fb cp ep es nw) (he : e < 2 * n) : zOk E mX2_studyEdge 2 [.ref 31, .ref f, .int (nI e)] w (fun r' w' => r' = none ∧ w' = va_up (va_up w 46 (zIA 10 (upd ep e (nI (eps ld e).1)))) 47 (zZA 10 (upd es e (zq ((eps ld e).2 = true))))) := by
  obtain ⟨led, hf, hg, hl, h1, h5, hb⟩ := id hF
  obtain ⟨r1, r2, r3, r4, r5⟩ := id hR
  have hR2 : zRt (va_up (va_up w 46 (zIA 10 (upd ep e 0))) 47 (zZA 10 (upd es e 0))) s tq fa fb cp (upd ep e 0) (upd es e 0) nw := ⟨(r1.n (by decide)).n (by decide), (r2.n (by decide)).n (by decide), (zIs.s r3.1).n (by decide), zIs.s r4.1, (r5.n (by decide)).n (by decide)⟩
  refine zOk.of (by decide +kernel) (Nat.le_of_ble_eq_true rfl) ?_
  refine zV.run kX2_studyEdge 1 rfl ?_
  refine zV.gf kX2_studyEdge rfl fX2_22 (r1) rfl ?_
  refine zV.run kX2_studyEdge 2 rfl ?_
  refine zV.ias kX2_studyEdge rfl (r3) (e) (rfl) (by omega) (by decide) ?_
  refine zV.run kX2_studyEdge 1 rfl ?_
  refine zV.gf kX2_studyEdge rfl fX2_25 (r1.n (by decide)) rfl ?_
  refine zV.run kX2_studyEdge 2 rfl ?_
  refine zV.zas kX2_studyEdge rfl (Or.inl rfl) (r4.n (by decide)) (e) (rfl) (by omega) (by decide) ?_
  refine zV.run kX2_studyEdge 6 rfl ?_
  refine zV.mono (fun r' w' hp => ⟨hp.1, ?_⟩) (o_studyEdge_l E ((hF.n (a := 46) (by omega) (by omega)).n (a := 47) (by omega) (by omega)) hR2 he ⟨pk_us, pk_us⟩ 6 e 1 true _ (by omega) he)
  rw [hp.2, upd_upd, upd_upd, up_comm (a := 47) (b := 46) (by decide), bx_uu, bx_uu]
  rfl
/-- what study leaves: the pictures of the map n, ld -/
def zSd (w : zWd) (n : Nat) (ld : Nat → Nat) : Prop := ∃ (tq fa fb : Int64) (cp ep es : Nat → Int32) (nw : Nat → Int64) (rw : Nat → Nat → Int64), zRt w n tq fa fb cp ep es nw ∧ zPw w 32 n rw ∧ (∀ q a b, q ≤ 6 → a < n → b < n → rw q (5 * a + b) = lN (tp n ld q a b)) ∧ (∀ i, i ≤ n → cp i = nI (sor n ld i)) ∧ (∀ e, e < 2 * n → ep e = nI (eps ld e).1 ∧ es e = zq ((eps ld e).2 = true)) ∧ (∀ k, 1 ≤ k → k ≤ 6 → nw k = lI (nwy n ld k))
theorem o_study_5 (E : zE) {w0 : zWd} {n k : Nat} {ld : Nat → Nat} {Post : Option Value → zWd → Prop} {tq fa fb : Int64} {cp ep es : Nat → Int32} {f : Nat} (h1k : 1 ≤ k) (hk6 : k ≤ 6) (c : Int)
    (kk : ∀ (w : zWd) (nw : Nat → Int64), zRt w n tq fa fb cp ep es nw → (∀ d, 1 ≤ d → d < k → nw d = lI (nwy n ld d)) → nw k = lI (c - nsd n ld k k) → (∀ a, a ≠ 48 → w a = w0 a) → ∀ z3 : Value, zV E mX2_study 4 Post 131 [.ref 31, .ref f, .int (nI k), z3] [] w) :
    ∀ (r d : Nat) (w : zWd) (nw : Nat → Int64), d + r = k → 1 ≤ d → zRt w n tq fa fb cp ep es nw → (∀ d, 1 ≤ d → d < k → nw d = lI (nwy n ld d)) → nw k = lI (c - nsd n ld k d) → (∀ a, a ≠ 48 → w a = w0 a) → zV E mX2_study 4 Post 93 [.ref 31, .ref f, .int (nI k), .int (nI d)] [] w := by
  intro r
  induction r with
  | zero =>
    intro d w nw hd h1d hR hn hnk hw
    have e : d = k := by omega
    subst e
    refine zV.run kX2_study 2 rfl ?_
    refine zV.ict kX2_study (cd := .ge) rfl (Int32.le_refl _) ?_
    exact kk w nw hR hn hnk hw _
  | succ r ih =>
    intro d w nw hd h1d hR hn hnk hw
    obtain ⟨r1, r2, r3, r4, r5⟩ := id hR
    have nx : ∀ x : Int64, x = lI (c - nsd n ld k (d + 1)) → zV E mX2_study 4 Post 93 [.ref 31, .ref f, .int (nI k), .int (nI (d + 1))] [] (va_up w 48 (zLA 7 (vp_updL nw k x))) := by
      intro x hx
      refine ih (d + 1) _ (vp_updL nw k x) (by omega) (by omega) ⟨r1.n (by decide), r2.n (by decide), r3.n (by decide), r4.n (by decide), zIs.s r5.1⟩ (fun d' q1 q2 => by rw [pk_uLn (by omega)]; exact hn d' q1 q2) (by rw [pk_uLs, hx]) (fun a ha => by rw [zup_ne ha]; exact hw a ha)
    refine zV.run kX2_study 2 rfl ?_
    refine zV.icf kX2_study (cd := .ge) rfl (nI_ge (by omega) (by omega)) ?_
    refine zV.run kX2_study 1 rfl ?_
    refine zV.gf kX2_study rfl fX2_29 (r1) rfl ?_
    refine zV.run kX2_study 2 rfl ?_
    refine zV.lal kX2_study rfl (r5) (k) (rfl) (by omega) (by decide) ?_
    refine zV.run kX2_study 2 rfl ?_
    refine zV.cn kX2_study rfl lX2_61 rfl (o_divides E w (d := d) (k := k) (by omega) (by omega)) (by decide) rfl rfl (Nat.le_of_ble_eq_true rfl) ?_
    rintro _ _ ⟨rfl, rfl⟩
    refine zV.if2 kX2_study rfl (fun cc => ?_) (fun cc => ?_)
    · skip
      have cc := zq_eq0.mp cc
      refine zV.run kX2_study 2 rfl ?_
      refine zV.las kX2_study rfl (r5) (k) (rfl) (by omega) (by decide) ?_
      refine zV.run kX2_study 2 rfl ?_
      rw [nI_1, hnk]
      refine nx _ ?_
      rw [show (0 : Int64) = lI 0 from rfl, lI_sub]
      congr 1
      show _ = c - (nsd n ld k d + (if 0 < d ∧ k % d = 0 then nwy n ld d else 0))
      rw [if_neg cc]
      omega
    · skip
      have cc := Decidable.not_not.mp (mt zq_eq0.mpr cc)
      refine zV.run kX2_study 1 rfl ?_
      refine zV.gf kX2_study rfl fX2_29 (r1) rfl ?_
      refine zV.run kX2_study 1 rfl ?_
      refine zV.lal kX2_study rfl (r5) (d) (rfl) (by omega) (by decide) ?_
      refine zV.run kX2_study 2 rfl ?_
      refine zV.las kX2_study rfl (r5) (k) (rfl) (by omega) (by decide) ?_
      refine zV.run kX2_study 2 rfl ?_
      rw [nI_1, hnk, hn d h1d (by omega), lI_sub]
      refine nx _ ?_
      congr 1
      show _ = c - (nsd n ld k d + (if 0 < d ∧ k % d = 0 then nwy n ld d else 0))
      rw [if_pos cc]
      omega
theorem o_study_4 (E : zE) {w0 : zWd} {n f : Nat} {ld : Nat → Nat} {tq fa fb : Int64} {cp ep es : Nat → Int32} {rw : Nat → Nat → Int64} (hn5 : n ≤ 5) (hP : zPw w0 32 n rw) (hr : ∀ q a b, q ≤ 6 → a < n → b < n → rw q (5 * a + b) = lN (tp n ld q a b)) (hcp : ∀ i, i ≤ n → cp i = nI (sor n ld i)) (hep : ∀ e, e < 2 * n → ep e = nI (eps ld e).1 ∧ es e = zq ((eps ld e).2 = true)) :
    ∀ (r k : Nat) (w : zWd) (nw : Nat → Int64) (z3 : Value), k + r = 7 → 1 ≤ k → zRt w n tq fa fb cp ep es nw → (∀ d, 1 ≤ d → d < k → nw d = lI (nwy n ld d)) → (∀ a, a ≠ 48 → w a = w0 a) → zV E mX2_study 4 (fun r' w' => r' = none ∧ zSd w' n ld ∧ ∀ a, a ≠ 48 → w' a = w0 a) 71 [.ref 31, .ref f, .int (nI k), z3] [] w := by
  intro r
  induction r with
  | zero =>
    intro k w nw z3 hk h1k hR hn hw
    have e : k = 7 := by omega
    subst e
    have hP2 : zPw w 32 n rw := ⟨hP.1.k (hw _ (by omega)), ⟨hP.2.1.choose, hP.2.1.choose_spec.1.k (hw _ (by omega)), hP.2.1.choose_spec.2⟩, fun j hj => (hP.2.2 j hj).k (hw _ (by omega))⟩
    refine zV.run kX2_study 2 rfl ?_
    refine zV.ict kX2_study (cd := .gt) rfl (show (6 : Int32) < nI 7 by decide) ?_
    exact zV.vret kX2_study rfl rfl (⟨rfl, ⟨tq, fa, fb, cp, ep, es, nw, rw, hR, hP2, hr, hcp, hep, fun k q1 q2 => hn k q1 (by omega)⟩, hw⟩)
  | succ r ih =>
    intro k w nw z3 hk h1k hR hn hw
    obtain ⟨r1, r2, r3, r4, r5⟩ := id hR
    have hP2 : zPw w 32 n rw := ⟨hP.1.k (hw _ (by omega)), ⟨hP.2.1.choose, hP.2.1.choose_spec.1.k (hw _ (by omega)), hP.2.1.choose_spec.2⟩, fun j hj => (hP.2.2 j hj).k (hw _ (by omega))⟩
    refine zV.run kX2_study 2 rfl ?_
    refine zV.icf kX2_study (cd := .gt) rfl (fun q => absurd ((nI_ltI (a := 6) (b := k) (by omega) (by omega)).mp q) (by omega)) ?_
    refine zV.run kX2_study 1 rfl ?_
    refine zV.gf kX2_study rfl fX2_29 (r1) rfl ?_
    refine zV.run kX2_study 2 rfl ?_
    refine zV.gf kX2_study rfl fX2_12 (r1) rfl ?_
    refine zV.run kX2_study 1 rfl ?_
    refine zV.cv kX2_study rfl lX2_57 (o_closed E hP2 hn5 (k := k) (by omega) (fun a b => hr k a b (by omega))) (by decide) rfl (hP2.1) rfl rfl rfl (Nat.le_of_ble_eq_true rfl) ?_
    rintro _ _ ⟨rfl, rfl⟩
    refine zV.las kX2_study rfl (r5) (k) (rfl) (by omega) (by decide) ?_
    refine zV.run kX2_study 2 rfl ?_
    refine o_study_5 (w0 := w0) (tq := tq) (fa := fa) (fb := fb) (cp := cp) (ep := ep) (es := es) E h1k (by omega) (trc n ld k : Int) (fun w2 nw2 q1 q2 q3 q4 y3 => ?_) (k - 1) 1 _ (vp_updL nw k (lN (trc n ld k))) (by omega) (by omega) ⟨r1.n (by decide), r2.n (by decide), r3.n (by decide), r4.n (by decide), zIs.s r5.1⟩ (fun d' q1 q2 => by rw [pk_uLn (by omega)]; exact hn d' q1 q2) (by rw [pk_uLs, lN_lI]; exact congrArg lI (by simp [nsd])) (fun a ha => by rw [zup_ne ha]; exact hw a ha)
    refine zV.run kX2_study 2 rfl ?_
    rw [nI_1]
    refine ih (k + 1) w2 nw2 _ (by omega) (by omega) q1 (fun d p1 p2 => ?_) q4
    by_cases e : d = k
    · rw [e, q3, nsd_nwy n ld h1k (by omega)]
    · exact q2 d p1 (by omega)
theorem o_study_3 (E : zE) {w0 : zWd} {n f g : Nat} {ld : Nat → Nat} {tq fa fb : Int64} {cp : Nat → Int32} {nw : Nat → Int64} {rw : Nat → Nat → Int64} (hF0 : zFo w0 f g n ld) (hf31 : f < 31) (hg31 : g < 31) (hP0 : zPw w0 32 n rw) (hr : ∀ q a b, q ≤ 6 → a < n → b < n → rw q (5 * a + b) = lN (tp n ld q a b)) (hcp : ∀ i, i ≤ n → cp i = nI (sor n ld i)) :
    ∀ (r e : Nat) (w : zWd) (ep es : Nat → Int32) (z3 : Value), e + r = 2 * n → zRt w n tq fa fb cp ep es nw → (∀ x, x < e → ep x = nI (eps ld x).1 ∧ es x = zq ((eps ld x).2 = true)) → (∀ a, a ≠ 46 → a ≠ 47 → w a = w0 a) → zV E mX2_study 4 (fun r' w' => r' = none ∧ zSd w' n ld ∧ ∀ a, a < 46 ∨ 49 ≤ a → w' a = w0 a) 47 [.ref 31, .ref f, .int (nI e), z3] [] w := by
  obtain ⟨led, hf, hg, hl, h1, h5, hb⟩ := id hF0
  have e2 : (2 : Int32) * nI n = nI (2 * n) := pk_mul 2 n
  intro r
  induction r with
  | zero =>
    intro e w ep es z3 he hR hep hw
    obtain ⟨r1, r2, r3, r4, r5⟩ := id hR
    have ee : e = 2 * n := by omega
    subst ee
    have hP2 : zPw w 32 n rw := ⟨hP0.1.k (hw _ (by omega) (by omega)), ⟨hP0.2.1.choose, hP0.2.1.choose_spec.1.k (hw _ (by omega) (by omega)), hP0.2.1.choose_spec.2⟩, fun j hj => (hP0.2.2 j hj).k (hw _ (by omega) (by omega))⟩
    refine zV.run kX2_study 3 rfl ?_
    refine zV.gf kX2_study rfl fX2_33 (r1) rfl ?_
    refine zV.run kX2_study 1 rfl ?_
    rw [e2]
    refine zV.ict kX2_study (cd := .ge) rfl (Int32.le_refl _) ?_
    refine zV.run kX2_study 2 rfl ?_
    refine zV.mono (fun r' w' hp => ⟨hp.1, hp.2.1, fun a ha => ?_⟩) (o_study_4 E h5 hP2 hr hcp hep 6 1 w nw _ (by omega) (by omega) hR (fun d q1 q2 => by omega) (fun _ _ => rfl))
    rw [hp.2.2 a (by omega), hw a (by omega) (by omega)]
  | succ r ih =>
    intro e w ep es z3 he hR hep hw
    obtain ⟨r1, r2, r3, r4, r5⟩ := id hR
    have hF : zFo w f g n ld := hF0.k (hw f (by omega) (by omega)) (hw g (by omega) (by omega))
    refine zV.run kX2_study 3 rfl ?_
    refine zV.gf kX2_study rfl fX2_33 (r1) rfl ?_
    refine zV.run kX2_study 1 rfl ?_
    rw [e2]
    refine zV.icf kX2_study (cd := .ge) rfl (nI_ge (by omega) (by omega)) ?_
    refine zV.run kX2_study 3 rfl ?_
    refine zV.cv kX2_study rfl lX2_54 (o_studyEdge E hF hf31 hg31 hR (e := e) (by omega)) (by decide) rfl (r1) rfl rfl rfl (Nat.le_of_ble_eq_true rfl) ?_
    rintro _ w9 ⟨rfl, e9⟩
    refine zV.run kX2_study 2 rfl ?_
    rw [nI_1]
    refine ih (e + 1) w9 (upd ep e (nI (eps ld e).1)) (upd es e (zq ((eps ld e).2 = true))) _ (by omega) ?_ (fun x hx => ?_) (fun a q1 q2 => by rw [e9, zup_ne q2, zup_ne q1]; exact hw a q1 q2)
    · rw [e9]
      exact ⟨(r1.n (by decide)).n (by decide), (r2.n (by decide)).n (by decide), (zIs.s r3.1).n (by decide), zIs.s r4.1, (r5.n (by decide)).n (by decide)⟩
    · by_cases q : x = e
      · rw [q, pk_us, pk_us]; exact ⟨rfl, rfl⟩
      · rw [pk_un q, pk_un q]; exact hep x (by omega)
theorem o_study_2 (E : zE) {w0 : zWd} {n f g : Nat} {ld : Nat → Nat} {tq fa fb : Int64} {ep es : Nat → Int32} {nw : Nat → Int64} {rw : Nat → Nat → Int64} (hF0 : zFo w0 f g n ld) (hf31 : f < 31) (hg31 : g < 31) (hP0 : zPw w0 32 n rw) (hr : ∀ q a b, q ≤ 6 → a < n → b < n → rw q (5 * a + b) = lN (tp n ld q a b)) :
    ∀ (r i : Nat) (w : zWd) (cp : Nat → Int32), i + r = n + 1 → zRt w n tq fa fb cp ep es nw → (∀ x, x < i → cp x = nI (sor n ld x)) → (∀ a, a ≠ 45 → w a = w0 a) → zV E mX2_study 4 (fun r' w' => r' = none ∧ zSd w' n ld ∧ ∀ a, a < 45 ∨ 49 ≤ a → w' a = w0 a) 20 [.ref 31, .ref f, .int (nI i), zU] [] w := by
  obtain ⟨led, hf, hg, hl, h1, h5, hb⟩ := id hF0
  intro r
  induction r with
  | zero =>
    intro i w cp hi hR hcp hw
    obtain ⟨r1, r2, r3, r4, r5⟩ := id hR
    have hF : zFo w f g n ld := hF0.k (hw f (by omega)) (hw g (by omega))
    have hP2 : zPw w 32 n rw := ⟨hP0.1.k (hw _ (by omega)), ⟨hP0.2.1.choose, hP0.2.1.choose_spec.1.k (hw _ (by omega)), hP0.2.1.choose_spec.2⟩, fun j hj => (hP0.2.2 j hj).k (hw _ (by omega))⟩
    refine zV.run kX2_study 2 rfl ?_
    refine zV.gf kX2_study rfl fX2_33 (r1) rfl ?_
    refine zV.ict kX2_study (cd := .gt) rfl (nI_lt (by omega) (by omega)) ?_
    refine zV.run kX2_study 2 rfl ?_
    refine zV.mono (fun r' w' hp => ⟨hp.1, hp.2.1, fun a ha => ?_⟩) (o_study_3 E hF hf31 hg31 hP2 hr (fun x hx => hcp x (by omega)) (2 * n) 0 w ep es _ (by omega) hR (fun x hx => by omega) (fun _ _ _ => rfl))
    rw [hp.2.2 a (by omega), hw a (by omega)]
  | succ r ih =>
    intro i w cp hi hR hcp hw
    obtain ⟨r1, r2, r3, r4, r5⟩ := id hR
    have hF : zFo w f g n ld := hF0.k (hw f (by omega)) (hw g (by omega))
    obtain ⟨led', hf', -, -, -, -, -⟩ := id hF
    refine zV.run kX2_study 2 rfl ?_
    refine zV.gf kX2_study rfl fX2_33 (r1) rfl ?_
    refine zV.icf kX2_study (cd := .gt) rfl (nI_nlt (by omega) (by omega)) ?_
    refine zV.run kX2_study 1 rfl ?_
    refine zV.gf kX2_study rfl fX2_18 (r1) rfl ?_
    refine zV.run kX2_study 3 rfl ?_
    refine zV.cv kX2_study rfl lX2_50 (o_stepsOfRound E hF (i := i) (by omega)) (by decide) rfl (hf') rfl rfl rfl (Nat.le_of_ble_eq_true rfl) ?_
    rintro _ _ ⟨rfl, rfl⟩
    refine zV.ias kX2_study rfl (r2) (i) (rfl) (by omega) (by decide) ?_
    refine zV.run kX2_study 2 rfl ?_
    rw [nI_1]
    refine ih (i + 1) _ (upd cp i (nI (sor n ld i))) (by omega) ⟨r1.n (by decide), zIs.s r2.1, r3.n (by decide), r4.n (by decide), r5.n (by decide)⟩ (fun x hx => ?_) (fun a ha => by rw [zup_ne ha]; exact hw a ha)
    by_cases q : x = i
    · rw [q, pk_us]
    · rw [pk_un q]; exact hcp x (by omega)
theorem o_study (E : zE) {w : zWd} {f g n s s2 : Nat} {ld : Nat → Nat} {tq fa fb : Int64} {cp ep es : Nat → Int32} {nw : Nat → Int64} {rw : Nat → Nat → Int64} (hF : zFo w f g n ld) (hf31 : f < 31) (hg31 : g < 31) (hR : zRt w s tq fa fb cp ep es nw) (hP : zPw w 32 s2 rw) : zOk E mX2_study 4 [.ref 31, .ref f] w (fun r' w' => r' = none ∧ zSd w' n ld ∧ zFr w w') := by
  obtain ⟨led, hf, hg, hl, h1, h5, hb⟩ := id hF
  obtain ⟨r1, r2, r3, r4, r5⟩ := id hR
  refine zOk.of (by decide +kernel) (Nat.le_of_ble_eq_true rfl) ?_
  refine zV.run kX2_study 2 rfl ?_
  refine zV.gf kX2_study rfl fX2_41 (hf) rfl ?_
  refine zV.pfi kX2_study rfl pX2_33 (r1) (Nat.le_of_ble_eq_true rfl) ?_
  refine zV.run kX2_study 1 rfl ?_
  refine zV.gf kX2_study rfl fX2_12 (zIs.s r1.1) rfl ?_
  have hF2 : zFo (va_up w 31 (zOb 2 [.ref 32, .ref 45, .ref 46, .ref 47, .ref 48, .int (nI n), .long tq, .long fa, .long fb])) f g n ld := hF.n (by omega) (by omega)
  have hP2 : zPw (va_up w 31 (zOb 2 [.ref 32, .ref 45, .ref 46, .ref 47, .ref 48, .int (nI n), .long tq, .long fa, .long fb])) 32 s2 rw := ⟨hP.1.n (by decide), ⟨hP.2.1.choose, hP.2.1.choose_spec.1.n (by decide), hP.2.1.choose_spec.2⟩, fun j hj => (hP.2.2 j hj).n (by omega)⟩
  refine zV.run kX2_study 2 rfl ?_
  refine zV.cv kX2_study rfl lX2_46 (o_raise E hF2 hP2 (mo := 6) (by omega) (by omega) (by omega)) (by decide) rfl (hP2.1) rfl rfl rfl (Nat.le_of_ble_eq_true rfl) ?_
  rintro _ w9 ⟨rfl, hw9, rw9, hP9, hr9⟩
  have hF9 : zFo w9 f g n ld := hF2.k (hw9 f (by omega)) (hw9 g (by omega))
  have k9 : ∀ a, (a < 32 ∨ 45 ≤ a) → a ≠ 31 → w9 a = w a := fun a q1 q2 => by rw [hw9 a (by omega), zup_ne q2]
  refine zV.run kX2_study 2 rfl ?_
  refine zV.mono (fun r' w' hp => ⟨hp.1, hp.2.1, fun a ha => ?_⟩) (o_study_2 E hF9 hf31 hg31 hP9 hr9 (n + 1) 0 w9 cp (by omega) ⟨(zIs.s r1.1).k (hw9 31 (by omega)), r2.k (k9 45 (by omega) (by decide)), r3.k (k9 46 (by omega) (by decide)), r4.k (k9 47 (by omega) (by decide)), r5.k (k9 48 (by omega) (by decide))⟩ (fun x hx => by omega) (fun _ _ => rfl))
  rw [hp.2.2 a (by omega), k9 a (by omega) (by omega)]
