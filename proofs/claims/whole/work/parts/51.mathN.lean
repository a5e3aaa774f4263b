/-! ===== mathematics of rounds: how many are new ===== -/
theorem P_sp {n : Nat} {ld g : Nat → Nat} {k : Nat} (hk : 1 ≤ k) (hk6 : k ≤ 6) (hS : hsf ld k (2 * n) 0 = false) (hg : g ∈ (clA n ld k).filter (nwP k)) : cyc n ld k g ∧ nwP k g = true ∧ pok n ld g (k - 1) ∧ clo ld k g ∧ wS ld g k ≠ 1 ∧ g 0 < n ∧ g ∈ wys n ld k (g 0) ∧ pnt ld k g = some (rd ld k g) := by
  obtain ⟨m1, m2⟩ := List.mem_filter.mp hg
  have c := (clA_mem hk).mp m1
  obtain ⟨p1, p2⟩ := cyc_pok hk c
  have s := nw_S hk hk6 hS c m2
  exact ⟨c, m2, p1, p2, s, c.1 0 (by omega), wys_all hk p1, pnt_clo hk p1 p2 (fun h => s h.1)⟩
theorem len_in {n : Nat} {ld : Nat → Nat} (hbd : ∀ i, i ≤ n → ld i ≤ n) {k : Nat} (hk : 1 ≤ k) (hk6 : k ≤ 6) (hS : hsf ld k (2 * n) 0 = false) : (((clA n ld k).filter (nwP k)).filter (fun g => !decide ((rd ld k g).2 = 1))).length = (((lsL n ld k n).filter (isj n ld k)).filter (fun p => !decide (p.2 = 1))).length := by
  have LS := lsL_s hbd hk n (Nat.le_refl _)
  rw [← List.length_map (f := rd ld k) (as := ((clA n ld k).filter (nwP k)).filter (fun g => !decide ((rd ld k g).2 = 1)))]
  have str : ∀ i g, i < n → g ∈ wys n ld k i → ∀ p, pnt ld k g = some p → p.2 ≠ 1 → (i : Int) * (p.2 : Int) < (p.1 : Int) ∧ (p.1 : Int) < ((i : Int) + 1) * (p.2 : Int) := by
    intro i g hi hg p hp h1
    have a := pnt_at hk hi hg hp
    refine in_cast ?_ ?_
    · rcases Nat.lt_or_eq_of_le a.2.2.1 with q | q
      · exact q
      · exact absurd (congrArg Prod.snd (cor_eq a.2.1 q.symm)) h1
    · rcases Nat.lt_or_eq_of_le a.2.2.2 with q | q
      · exact q
      · exact absurd (congrArg Prod.snd (cor_eq a.2.1 q)) h1
  refine len_same (nd_map (nd_fil (nd_fil (clA_nd hk))) (fun g hg g' hg' e => ?_)) (nd_fil (nd_fil LS.1)) (fun p => ?_)
  · obtain ⟨m1, m2⟩ := List.mem_filter.mp hg
    obtain ⟨m1', m2'⟩ := List.mem_filter.mp hg'
    obtain ⟨-, -, p1, -, -, l0, w1, q1⟩ := P_sp hk hk6 hS m1
    obtain ⟨-, -, p1', -, -, l0', w1', q1'⟩ := P_sp hk hk6 hS m1'
    rw [← e] at q1'
    have ne : (rd ld k g).2 ≠ 1 := fun z => by rw [decide_eq_true z] at m2; cases m2
    have st := str _ g l0 w1 _ q1 ne
    obtain ⟨s1, s2, s3, s4, s5⟩ := (pnt_iff hk).mp q1
    obtain ⟨t1, t2, t3, t4, t5⟩ := (pnt_iff hk).mp q1'
    have b0 : 0 < (rd ld k g).2 := s2
    exact one_way hk p1 p1' (Int.natCast_pos.mpr b0) st.1 st.2 s4 t4 s5
  · rw [List.mem_map, List.mem_filter, List.mem_filter]
    refine ⟨fun ⟨g, hg, e⟩ => ?_, fun ⟨⟨h1, h2⟩, h3⟩ => ?_⟩
    · obtain ⟨m1, m2⟩ := List.mem_filter.mp hg
      obtain ⟨c, nw, p1, cl, s, l0, w1, q1⟩ := P_sp hk hk6 hS m1
      rw [e] at q1 m2
      refine ⟨⟨(LS.2.1 p).mpr ⟨g 0, l0, List.mem_filterMap.mpr ⟨g, w1, q1⟩⟩, in_new hk hk6 p1 q1 (fun z => by rw [decide_eq_true z] at m2; cases m2) nw⟩, m2⟩
    · obtain ⟨i, hi, hx⟩ := (LS.2.1 p).mp h1
      obtain ⟨g, g1, g2⟩ := List.mem_filterMap.mp hx
      obtain ⟨p1, p2⟩ := wys_ok hk hi g1
      have ne : p.2 ≠ 1 := fun z => by rw [decide_eq_true z] at h3; cases h3
      have st := str i g hi g1 p g2 ne
      obtain ⟨s1, s2, s3, s4, s5⟩ := (pnt_iff hk).mp g2
      have cl : clo ld k g := on_clo (n := n) hk (a := (p.1 : Int)) (b := (p.2 : Int)) (by omega) s4 s5 (by rw [p2]; exact st.1) (by rw [p2]; exact st.2)
      have er : rd ld k g = p := by
        have := pnt_clo hk p1 cl (fun h => s1 h.1)
        rw [g2] at this
        exact (Option.some.inj this).symm
      have nw : nwP k g = true := nwP_yes hk6 (fun d d1 d2 d3 d4 => (isj_iff hk p1 g2).mp h2 d d1 d2 (per_pt d3 d4 s1 s5))
      exact ⟨g, List.mem_filter.mpr ⟨List.mem_filter.mpr ⟨(clA_mem hk).mpr (clo_cyc hk p1 cl), nw⟩, by rw [er]; exact h3⟩, er⟩
theorem len_cor {n : Nat} {ld : Nat → Nat} (h1n : 1 ≤ n) (hbd : ∀ i, i ≤ n → ld i ≤ n) {k : Nat} (hk : 1 ≤ k) (hk6 : k ≤ 6) (hS : hsf ld k (2 * n) 0 = false) : ((((lsL n ld k n).filter (isj n ld k)).filter (fun p => decide (p.2 = 1))).length : Int) = cntC n ld k (n + 1) := by
  have LS := lsL_s hbd hk n (Nat.le_refl _)
  rw [cntC_q, ceq_len]
  have el : ((List.range (n + 1)).filter (fun x => decide (sor n ld x = k))).length = (((List.range (n + 1)).filter (fun x => decide (sor n ld x = k))).map (fun c => ((c, 1) : Nat × Nat))).length := (List.length_map ..).symm
  rw [el]
  congr 1
  refine len_same (nd_fil (nd_fil LS.1)) (nd_map (nd_fil List.nodup_range) (fun a _ b _ e => congrArg Prod.fst e)) (fun p => ?_)
  rw [List.mem_map, List.mem_filter, List.mem_filter]
  refine ⟨fun ⟨⟨h1, h2⟩, h3⟩ => ?_, fun ⟨c, hc, e⟩ => ?_⟩
  · obtain ⟨a, b⟩ := p
    have hb : b = 1 := of_decide_eq_true h3
    subst hb
    have le := (LS.2.2.1 _ h1).2
    have le : a ≤ n * 1 := le
    obtain ⟨i, hi, hx⟩ := (LS.2.1 _).mp h1
    obtain ⟨g, g1, g2⟩ := List.mem_filterMap.mp hx
    obtain ⟨p1, p2⟩ := wys_ok hk hi g1
    obtain ⟨s1, s2, s3, s4, s5⟩ := (pnt_iff hk).mp g2
    have oo := on_orb s4
    have ij := (isj_iff hk p1 g2).mp h2
    refine ⟨a, List.mem_filter.mpr ⟨List.mem_range.mpr (by omega), decide_eq_true ?_⟩, rfl⟩
    refine (sor_k hbd (by omega) hk).mpr ⟨?_, fun q q1 q2 z => ?_⟩
    · have := oo k (Nat.le_refl _)
      have s5 : wV ld g (a : Int) 1 k = (a : Int) := s5
      omega
    · refine ij q q1 q2 ?_
      show wV ld g (a : Int) 1 q = (a : Int)
      rw [oo q (by omega), z]
  · obtain ⟨m1, m2⟩ := List.mem_filter.mp hc
    have hcn := List.mem_range.mp m1
    have hs := of_decide_eq_true m2
    obtain ⟨o1, o2⟩ := (sor_k hbd (show c ≤ n by omega) hk).mp hs
    obtain ⟨i, σ, hi, hσ, ec⟩ : ∃ i σ, i < n ∧ σ ≤ 1 ∧ c = i + σ := by
      by_cases z : c < n
      · exact ⟨c, 0, z, by omega, rfl⟩
      · exact ⟨n - 1, 1, by omega, by omega, by omega⟩
    obtain ⟨pre, f, post, a1, a2, a3, a4, a5⟩ := wys_edge hbd (k := k) (i := i) (σ := σ) hk hi hσ
    have hf : f ∈ wys n ld k i := by rw [a1]; exact List.mem_append_right _ (List.mem_cons_self ..)
    obtain ⟨p1, p2⟩ := wys_ok hk hi hf
    rw [← ec] at a2
    have nS : ¬ (wS ld f k = 1 ∧ wT ld f k = 0) := by
      intro z
      have st := (edge_st (σ := σ) (c := c) hk hk6 hσ p1 (by rw [p2]; exact ec) a2).mpr z
      obtain ⟨K, b1, b2, -, -, b5⟩ := edge_lt (σ := σ) (c := c) hk hk6 hσ p1 (by rw [p2]; exact ec) a2 (by omega) o1 (no_still hS (by omega) st.1)
      exact o2 K b1 b2 b5
    have pf := pnt_cor (n := n) hk hi nS a2 o1
    subst e
    refine ⟨⟨(LS.2.1 _).mpr ⟨i, hi, List.mem_filterMap.mpr ⟨f, hf, pf⟩⟩, (isj_iff hk p1 pf).mpr (fun d d1 d2 z => ?_)⟩, rfl⟩
    have z : wV ld f (c : Int) 1 d = (c : Int) := z
    rw [on_orb a2 d (by omega)] at z
    exact o2 d d1 d2 (by omega)
theorem len_edge {n : Nat} {ld : Nat → Nat} (hbd : ∀ i, i ≤ n → ld i ≤ n) {k : Nat} (hk : 1 ≤ k) (hk6 : k ≤ 6) (hS : hsf ld k (2 * n) 0 = false) : ((((clA n ld k).filter (nwP k)).filter (fun g => decide ((rd ld k g).2 = 1))).length : Int) = cntE ld k (2 * n) := by
  rw [cntE_q, ceq_len]
  have el : (((clA n ld k).filter (nwP k)).filter (fun g => decide ((rd ld k g).2 = 1))).length = ((((clA n ld k).filter (nwP k)).filter (fun g => decide ((rd ld k g).2 = 1))).map (fun g => g 0 + (rd ld k g).1)).length := (List.length_map ..).symm
  rw [el]
  congr 1
  -- a way's corner
  have cr : ∀ g, g ∈ ((clA n ld k).filter (nwP k)).filter (fun g => decide ((rd ld k g).2 = 1)) → ∃ σ, σ ≤ 1 ∧ (rd ld k g).1 = g 0 + σ ∧ (∀ q, q < k → onq ld g ((g 0 + σ : Nat) : Int) 1 q) ∧ orb ld (g 0 + σ) k = g 0 + σ := by
    intro g hg
    obtain ⟨m1, m2⟩ := List.mem_filter.mp hg
    have m2 := of_decide_eq_true m2
    obtain ⟨c, nw, p1, cl, s, l0, w1, q1⟩ := P_sp hk hk6 hS m1
    have at1 := pnt_at hk l0 w1 q1
    rw [m2] at at1
    obtain ⟨σ, e1⟩ : ∃ σ, (rd ld k g).1 = g 0 + σ := ⟨(rd ld k g).1 - g 0, by omega⟩
    have er : rd ld k g = (g 0 + σ, 1) := by rw [← e1, ← m2]
    rw [er] at q1
    obtain ⟨s1, s2, s3, s4, s5⟩ := (pnt_iff hk).mp q1
    have oo := on_orb s4 k (Nat.le_refl _)
    have s5 : wV ld g ((g 0 + σ : Nat) : Int) 1 k = ((g 0 + σ : Nat) : Int) := s5
    exact ⟨σ, by omega, e1, s4, by omega⟩
  refine len_same (nd_map (nd_fil (nd_fil (clA_nd hk))) (fun g hg g' hg' e => ?_)) (nd_fil List.nodup_range) (fun x => ?_)
  · obtain ⟨σ, a1, a2, a3, a4⟩ := cr g hg
    obtain ⟨σ', b1, b2, b3, b4⟩ := cr g' hg'
    have e : g 0 + (rd ld k g).1 = g' 0 + (rd ld k g').1 := e
    have e0 : g 0 = g' 0 := by omega
    have es : σ = σ' := by omega
    obtain ⟨-, -, -, -, -, l0, w1, -⟩ := P_sp hk hk6 hS (List.mem_filter.mp hg).1
    obtain ⟨-, -, -, -, -, l0', w1', -⟩ := P_sp hk hk6 hS (List.mem_filter.mp hg').1
    rw [← e0] at w1' b3
    rw [← es] at b3
    obtain ⟨pre, f, post, c1, c2, c3, c4, c5⟩ := wys_edge hbd (k := k) (i := g 0) (σ := σ) hk l0 a1
    have one : ∀ h, h ∈ wys n ld k (g 0) → (∀ q, q < k → onq ld h ((g 0 + σ : Nat) : Int) 1 q) → h = f := by
      intro h h1 h2
      rw [c1] at h1
      rcases List.mem_append.mp h1 with z | z
      · exact absurd h2 (c3 h (List.mem_append_left _ z))
      · rcases List.mem_cons.mp z with z | z
        · exact z
        · exact absurd h2 (c3 h (List.mem_append_right _ z))
    exact (one g w1 a3).trans (one g' w1' b3).symm
  · rw [List.mem_map, List.mem_filter, List.mem_range, decide_eq_true_iff]
    refine ⟨fun ⟨g, hg, e⟩ => ?_, fun ⟨h1, h2⟩ => ?_⟩
    · obtain ⟨σ, a1, a2, a3, a4⟩ := cr g hg
      obtain ⟨c, nw, p1, cl, s, l0, w1, q1⟩ := P_sp hk hk6 hS (List.mem_filter.mp hg).1
      have ex : x = 2 * g 0 + σ := by omega
      refine ⟨by omega, ?_⟩
      rw [ex]
      by_cases z : (eps ld (2 * g 0 + σ)).1 = k
      · exact z
      · obtain ⟨K, b1, b2, b3, b4, -⟩ := edge_lt hk hk6 a1 p1 rfl a3 ((clo_edge hk a1 p1 rfl a3 a4).mp cl) a4 z
        exact absurd b4 (nwP_no hk6 nw b1 b2 b3)
    · obtain ⟨k1, k2⟩ := (eps_k hk hk6).mp h2
      obtain ⟨pre, f, post, c1, c2, c3, c4, c5⟩ := wys_edge hbd (k := k) (i := x / 2) (σ := x % 2) hk (by omega) (by omega)
      have hf : f ∈ wys n ld k (x / 2) := by rw [c1]; exact List.mem_append_right _ (List.mem_cons_self ..)
      obtain ⟨p1, p2⟩ := wys_ok hk (by omega) hf
      rw [← p2] at c2
      have ex : 2 * f 0 + x % 2 = x := by omega
      have hσ : x % 2 ≤ 1 := by omega
      have dd := (edge_dv hk hk6 hσ p1 rfl c2).mp (by rw [ex]; exact k1)
      have cl := (clo_edge hk hσ p1 rfl c2 dd.2).mpr dd.1
      have nS : ¬ (wS ld f k = 1 ∧ wT ld f k = 0) := by
        intro z
        have st := (edge_st hk hk6 hσ p1 rfl c2).mpr z
        rw [ex] at st
        exact no_still hS h1 st.1 h2
      have pf := pnt_cor (n := n) hk (show f 0 < n by omega) nS c2 dd.2
      have pc := pnt_clo hk p1 cl nS
      rw [pf] at pc
      have er : (f 0 + x % 2, 1) = rd ld k f := Option.some.inj pc
      obtain ⟨s1, s2, s3, s4, s5⟩ := (pnt_iff hk).mp pf
      have nw : nwP k f = true := nwP_yes hk6 (fun d d1 d2 d3 d4 => by
        have v := per_pt d3 d4 s1 s5
        have v : wV ld f ((f 0 + x % 2 : Nat) : Int) 1 d = ((f 0 + x % 2 : Nat) : Int) := v
        rw [on_orb c2 d (by omega)] at v
        obtain ⟨w1, w2⟩ := edge_way hσ p1 rfl c2 d (by omega) (wS_ne (m := k) (by omega) d (by omega))
        have w2 := w2 d2
        have p0 := per_iff.mp d4 0 (by omega)
        rw [Nat.zero_add] at p0
        refine k2 d d1 d2 ?_
        rw [ex] at w1
        omega)
      refine ⟨f, List.mem_filter.mpr ⟨List.mem_filter.mpr ⟨(clA_mem hk).mpr (clo_cyc hk p1 cl), nw⟩, by rw [← er]; rfl⟩, ?_⟩
      show f 0 + (rd ld k f).1 = x
      rw [← er]
      show f 0 + (f 0 + x % 2) = x
      omega
/-- how many rounds are new -/
theorem new_eq {n : Nat} {ld : Nat → Nat} (h1n : 1 ≤ n) (hbd : ∀ i, i ≤ n → ld i ≤ n) {k : Nat} (hk : 1 ≤ k) (hk6 : k ≤ 6) (hS : hsf ld k (2 * n) 0 = false) : cnw n ld k = (jst n ld k (fnd n ld k n).1 : Int) := by
  rw [fnd_L hk]
  unfold cnw jst
  have a := nwP_len (n := n) (ld := ld) hk hk6
  have b := len_in hbd hk hk6 hS
  have c := len_cor h1n hbd hk hk6 hS
  have d := len_edge hbd hk hk6 hS
  have e := len_not (P := fun p : Nat × Nat => decide (p.2 = 1)) ((lsL n ld k n).filter (isj n ld k))
  have f := len_not (P := fun g => decide ((rd ld k g).2 = 1)) ((clA n ld k).filter (nwP k))
  omega
theorem end_hsf {n : Nat} {ld : Nat → Nat} {k : Nat} (hk : 1 ≤ k) (hE : edf ld k (2 * n) 0 = false) : hsf ld k (2 * n) 0 = false := by
  cases h : hsf ld k (2 * n) 0 with
  | false => rfl
  | true =>
    obtain ⟨x, a, b, c, d⟩ := (hsf_iff _ _).mp h
    have := (edf_iff (ld := ld) (k := k) (2 * n) 0).mpr ⟨x, a, b, c, by rw [d]; exact dv_iff.mpr ⟨hk, Nat.mod_self _⟩⟩
    rw [hE] at this
    cases this
theorem has_eq {n : Nat} {ld : Nat → Nat} (h1n : 1 ≤ n) (hbd : ∀ i, i ≤ n → ld i ≤ n) {k : Nat} (hk : 1 ≤ k) (hk6 : k ≤ 6) : hnw n ld k = hsp n ld k := by
  unfold hnw hsp
  rw [fnd_2 hbd hk hk6]
  cases hS : hsf ld k (2 * n) 0 with
  | true => rfl
  | false =>
    rw [Bool.false_or, Bool.false_or, new_eq h1n hbd hk hk6 hS]
    congr 1
    exact propext (by omega)
theorem most_eq {n : Nat} {ld : Nat → Nat} (h1n : 1 ≤ n) (hbd : ∀ i, i ≤ n → ld i ≤ n) : ∀ r k f, 1 ≤ k → k + r ≤ 7 → mof n ld r k f = mom n ld r k f
  | 0, k, f, _, _ => rfl
  | r + 1, k, f, hk, hr => by
    unfold mof mom
    rw [has_eq h1n hbd hk (by omega)]
    have e : (if hsp n ld k = true ∧ cah k f = true then k else f) = (if cah k f = true ∧ hsp n ld k = true then k else f) := by
      by_cases c : hsp n ld k = true ∧ cah k f = true
      · rw [if_pos c, if_pos ⟨c.2, c.1⟩]
      · rw [if_neg c, if_neg (fun q => c ⟨q.2, q.1⟩)]
    rw [e]
    exact most_eq h1n hbd r (k + 1) _ (by omega) (by omega)
