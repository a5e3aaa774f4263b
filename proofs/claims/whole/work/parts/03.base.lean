/-! ===== a pure picture of the whole system: 61 cells by number, their addresses by a map; a method's walk as a relation over it ===== -/
abbrev zWd : Type := Nat → va_E
abbrev zE : Type := Launch × va_G × (Nat → Nat) × (Nat → Nat)
abbrev zM : Type := MethodName × ByteArray × Nat × Option FieldType
abbrev zTb : Type := List (Nat × Instr × Nat × Value)
def zU : Value := .retAddr 0
def zv (ad : Nat → Nat) : Value → Value
  | .ref a => .ref (ad a)
  | v => v
def zc (ad ca : Nat → Nat) : va_E → va_E
  | .inl (k, n, .inr (.inr (.inr (.inr f)))) => .inl (ca k, n, .inr (.inr (.inr (.inr (fun j => (f j).map ad)))))
  | .inl (k, n, .inl f) => .inl (ca k, n, .inl f)
  | .inl (k, n, .inr (.inl f)) => .inl (ca k, n, .inr (.inl f))
  | .inl (k, n, .inr (.inr (.inl f))) => .inl (ca k, n, .inr (.inr (.inl f)))
  | .inl (k, n, .inr (.inr (.inr (.inl f)))) => .inl (ca k, n, .inr (.inr (.inr (.inl f))))
  | .inr (ci, fs) => .inr (ci, fs.map (zv ad))
def zty (ca : Nat → Nat) : List (ClassId × FieldType) := [(ca 0, .int), (ca 1, .long), (ca 2, .boolean), (ca 3, .object "SpanMaps$Fold"), (ca 4, .array .long)]
def zW (ad ca : Nat → Nat) (w : zWd) : va_W := (List.range 61).map fun k => (ad k, zc ad ca (w k))
def zA (ad : Nat → Nat) : Nat → Prop := fun q => ∃ k, k < 61 ∧ q = ad k
def zI (ad : Nat → Nat) : Prop := ∀ i j, i < 61 → j < 61 → ad i = ad j → i = j
def zIs (w : zWd) (a : Nat) (c : va_E) : Prop := a < 61 ∧ w a = c
theorem zW_k {ad ca : Nat → Nat} {w : zWd} {k : Nat} (h1 : k < 61) : (zW ad ca w)[k]? = some (ad k, zc ad ca (w k)) := by
  simp [zW, h1]
theorem zW_at {ad ca : Nat → Nat} {w : zWd} {k : Nat} {c : va_E} (h : zIs w k c) : (zW ad ca w)[k]? = some (ad k, zc ad ca c) := by
  rw [zW_k h.1, h.2]
theorem zW_set {ad ca : Nat → Nat} {w : zWd} {k : Nat} (c : va_E) (h : k < 61) : (zW ad ca w).set k (ad k, zc ad ca c) = zW ad ca (va_up w k c) := by
  apply List.ext_getElem?
  intro j
  by_cases hj : j = k
  · subst hj
    rw [List.getElem?_set_self (by simpa [zW] using h), zW_k h]
    simp [va_up]
  · rw [List.getElem?_set_ne (fun q => hj q.symm)]
    by_cases h2 : j < 61
    · rw [zW_k h2, zW_k h2]
      simp [va_up, hj]
    · simp [zW, h2]
theorem zW_inv {ad ca : Nat → Nat} {w : zWd} {k : Nat} {q : Nat × va_E} (h : (zW ad ca w)[k]? = some q) : k < 61 ∧ q.1 = ad k := by
  have h1 : k < 61 := by
    have := (List.getElem?_eq_some_iff.mp h).1
    simpa [zW] using this
  rw [zW_k h1] at h
  cases h
  exact ⟨h1, rfl⟩
theorem zD {ad ca : Nat → Nat} {w : zWd} (h : zI ad) : va_D (zA ad) (zW ad ca w) := by
  refine ⟨fun i j p q hp hq e => ?_, fun k q hq => ?_⟩
  · have a1 := zW_inv hp
    have a2 := zW_inv hq
    exact h i j a1.1 a2.1 (by rw [← a1.2, ← a2.2]; exact e)
  · have a1 := zW_inv hq
    exact ⟨k, a1.1, a1.2⟩
-- the locals
def zpr (ad : Nat → Nat) (L : List Value) : List (Nat × Value) := (List.range L.length).filterMap (fun i => match L[i]? with
  | some v => if v = zU then none else some (i, zv ad v)
  | none => none)
theorem mem_zpr {ad : Nat → Nat} {L : List Value} {q : Nat × Value} : q ∈ zpr ad L ↔ ∃ v, L[q.1]? = some v ∧ v ≠ zU ∧ q.2 = zv ad v := by
  unfold zpr
  rw [List.mem_filterMap]
  constructor
  · rintro ⟨i, hi, h⟩
    cases hv : L[i]? with
    | none => rw [hv] at h; cases h
    | some v =>
      rw [hv] at h
      by_cases hz : v = zU
      · simp [hz] at h
      · simp [hz] at h
        subst h
        exact ⟨v, hv, hz, rfl⟩
  · rintro ⟨v, h1, h2, h3⟩
    refine ⟨q.1, List.mem_range.mpr (List.getElem?_eq_some_iff.mp h1).1, ?_⟩
    rw [h1]
    simp [h2, ← h3]
def zL (ad : Nat → Nat) (ls : Array Slot) (n : Nat) (L : List Value) : Prop := L.length = n ∧ lv_has ls n (zpr ad L)
theorem zL.at {ad : Nat → Nat} {ls : Array Slot} {n : Nat} {L : List Value} (h : zL ad ls n L) {i : Nat} {v : Value} (hv : L[i]? = some v) (hz : v ≠ zU) : ls[i]? = some (.val (zv ad v)) :=
  h.2.2.2 (i, zv ad v) (mem_zpr.mpr ⟨v, hv, hz, rfl⟩)
def zkl (L : List Value) : Nat → List Value
  | 0 => L
  | j + 1 => if (L.getD j zU).category = 2 then L.set j zU else L
def zst1 (L : List Value) (i : Nat) (v : Value) : List Value := (zkl L i).set i v
def zst2 (L : List Value) (i : Nat) (v : Value) : List Value := ((zkl L i).set i v).set (i + 1) zU
theorem zkl_len (L : List Value) (i : Nat) : (zkl L i).length = L.length := by
  cases i with
  | zero => rfl
  | succ j =>
    show (if (L.getD j zU).category = 2 then L.set j zU else L).length = L.length
    split <;> simp
theorem zkl_at {L : List Value} {i j : Nat} {x : Value} (h : (zkl L i)[j]? = some x) (hz : x ≠ zU) : L[j]? = some x ∧ ¬ (j + 1 = i ∧ x.category = 2) := by
  cases i with
  | zero => exact ⟨h, fun q => by omega⟩
  | succ k =>
    have h : (if (L.getD k zU).category = 2 then L.set k zU else L)[j]? = some x := h
    split at h
    next hc =>
      by_cases hj : k = j
      · subst hj
        by_cases hl : k < L.length
        · rw [List.getElem?_set_self hl] at h
          exact absurd (Option.some.inj h).symm hz
        · simp [hl] at h
      · rw [List.getElem?_set_ne hj] at h
        exact ⟨h, fun q => hj (by omega)⟩
    next hc =>
      refine ⟨h, fun q => ?_⟩
      have e : k = j := by omega
      subst e
      simp [List.getD, h, q.2] at hc
theorem zL.st1 {ad : Nat → Nat} {ls' : Array Slot} {n : Nat} {L : List Value} {i : Nat} {v : Value} (hn : L.length = n)
    (h : lv_has ls' n ((i, zv ad v) :: (zpr ad L).filter (fun q => !(q.1 == i) && !(q.1 + 1 == i && q.2.category == 2)))) : zL ad ls' n (zst1 L i v) := by
  refine ⟨by rw [zst1, List.length_set, zkl_len, hn], h.1, h.2.1, fun q hq => ?_⟩
  obtain ⟨x, h1, h2, h3⟩ := mem_zpr.mp hq
  refine h.2.2 q ?_
  unfold zst1 at h1
  by_cases hi : i = q.1
  · have hl : i < (zkl L i).length := by
      have := (List.getElem?_eq_some_iff.mp h1).1
      rw [List.length_set] at this
      omega
    rw [← hi, List.getElem?_set_self hl] at h1
    cases h1
    exact List.mem_cons.mpr (Or.inl (by rw [hi, ← h3]))
  · rw [List.getElem?_set_ne hi] at h1
    obtain ⟨g1, g2⟩ := zkl_at h1 h2
    refine List.mem_cons.mpr (Or.inr (List.mem_filter.mpr ⟨mem_zpr.mpr ⟨x, g1, h2, h3⟩, ?_⟩))
    have hc : q.2.category = x.category := by rw [h3]; cases x <;> rfl
    simp only [Bool.and_eq_true, Bool.not_eq_true', beq_eq_false_iff_ne, Bool.and_eq_false_iff]
    refine ⟨fun e => hi e.symm, ?_⟩
    by_cases hq1 : q.1 + 1 = i
    · right
      intro e
      exact g2 ⟨hq1, by rw [← hc]; exact e⟩
    · left
      exact hq1
theorem zL.st2 {ad : Nat → Nat} {ls' : Array Slot} {n : Nat} {L : List Value} {i : Nat} {v : Value} (hn : L.length = n)
    (h : lv_has ls' n ((i, zv ad v) :: (zpr ad L).filter (fun q => !(q.1 == i) && (!(q.1 == i + 1) && !(q.1 + 1 == i && q.2.category == 2))))) : zL ad ls' n (zst2 L i v) := by
  refine ⟨by rw [zst2, List.length_set, List.length_set, zkl_len, hn], h.1, h.2.1, fun q hq => ?_⟩
  obtain ⟨x, h1, h2, h3⟩ := mem_zpr.mp hq
  refine h.2.2 q ?_
  unfold zst2 at h1
  by_cases hi1 : i + 1 = q.1
  · have hl : i + 1 < ((zkl L i).set i v).length := by
      have := (List.getElem?_eq_some_iff.mp h1).1
      rw [List.length_set] at this
      omega
    rw [← hi1, List.getElem?_set_self hl] at h1
    exact absurd (Option.some.inj h1).symm h2
  · rw [List.getElem?_set_ne hi1] at h1
    by_cases hi : i = q.1
    · have hl : i < (zkl L i).length := by
        have := (List.getElem?_eq_some_iff.mp h1).1
        rw [List.length_set] at this
        omega
      rw [← hi, List.getElem?_set_self hl] at h1
      cases h1
      exact List.mem_cons.mpr (Or.inl (by rw [hi, ← h3]))
    · rw [List.getElem?_set_ne hi] at h1
      obtain ⟨g1, g2⟩ := zkl_at h1 h2
      refine List.mem_cons.mpr (Or.inr (List.mem_filter.mpr ⟨mem_zpr.mpr ⟨x, g1, h2, h3⟩, ?_⟩))
      have hc : q.2.category = x.category := by rw [h3]; cases x <;> rfl
      simp only [Bool.and_eq_true, Bool.not_eq_true', beq_eq_false_iff_ne, Bool.and_eq_false_iff]
      refine ⟨fun e => hi e.symm, fun e => hi1 e.symm, ?_⟩
      by_cases hq1 : q.1 + 1 = i
      · right
        intro e
        exact g2 ⟨hq1, by rw [← hc]; exact e⟩
      · left
        exact hq1
-- a method's contract, and its walk
def zNm : Cond := .methodLinkNest "SpanMaps$Returns" 61 ⟨"SpanMaps", "divides", "(II)Z"⟩ "SpanMaps"
def zK (E : zE) (U : State) : Prop := va_K E.2.1 zCl (zty E.2.2.2) U ∧ va_Nw zNm U
def zP (E : zE) (av : List Value) (w : zWd) : Array Value → State → Prop := va_Pc (av.map (zv E.2.2.1)) (fun U => va_P E.2.1 zCl (zW E.2.2.1 E.2.2.2 w) U.heap ∧ zK E U)
def zQ (E : zE) (Post : Option Value → zWd → Prop) : Array Value → State → Outcome → State → Prop := fun _ st oc t => (∃ (r : Option Value) (w' : zWd), oc = .returned (r.map (zv E.2.2.1)) ∧ Post r w' ∧ va_P E.2.1 zCl (zW E.2.2.1 E.2.2.2 w') t.heap) ∧ va_F (zA E.2.2.1) st t
def zRm (d : Nat) : Room := { frames := d, cells := 0, slots := 0, locals := 42 * d }
def zB : List Cond := lw_tbl.filter goodWord
theorem zb (i : Nat) {w : Cond} (h : lw_tbl[i]? = some w) (g : goodWord w = true) : w ∈ zB := List.mem_filter.mpr ⟨List.mem_of_getElem? h, g⟩
theorem zB_good : ∀ w ∈ zB, goodWord w = true := fun w h => (List.mem_filter.mp h).2
def zws (M : zM) : List Cond := .code M.1 M.2.1 M.2.2.1 M.2.2.2 :: zB
def zOk (E : zE) (M : zM) (d : Nat) (av : List Value) (w : zWd) (Post : Option Value → zWd → Prop) : Prop :=
  zI E.2.2.1 → Met E.1 M.1 (zws M) (zRm d) (zP E av w) (zQ E Post) 0 0 (zA E.2.2.1)
def zX (E : zE) (M : zM) (p : Program) (s : State) (m : MethodId) (args : Array Value) (meth : Method) (c : Code) : Prop :=
  p.tables.exec = Jvm.exec ∧ c.code = M.2.1 ∧ c.maxLocals = M.2.2.1 ∧ meth.sig.returnType = M.2.2.2 ∧ meth.locks = false ∧ s.vm.findClass M.1.cls = some m.cls ∧ (∀ w ∈ zws M, w.before args s = true) ∧ zK E s
def zV (E : zE) (M : zM) (d : Nat) (Post : Option Value → zWd → Prop) (pc : Nat) (L st : List Value) (w : zWd) : Prop :=
  zI E.2.2.1 → ∀ (p : Program) (e : Env) (s : State) (m : MethodId) (args : Array Value) (below : List Frame) (meth : Method) (c : Code) (H : Heap) (locs : List Loc) (ls : Array Slot),
    zX E M p s m args meth c → va_P E.2.1 zCl (zW E.2.2.1 E.2.2.2 w) H → va_S (zA E.2.2.1) s.heap H locs → zL E.2.2.1 ls M.2.2.1 L →
    W p E.1 e (zRm d) s m args below meth c H locs 0 0 (MQ below (zQ E Post) args s 0 0 (zA E.2.2.1)) (F0 m pc ls (st.map (zv E.2.2.1)))
def zEnt (av : List Value) (n : Nat) : List Value := let l := av.flatMap (fun v => if v.category = 2 then [v, zU] else [v]); l ++ List.replicate (n - l.length) zU
theorem zv_cat (ad : Nat → Nat) (v : Value) : (zv ad v).category = v.category := by cases v <;> rfl
theorem zEnt_args (ad : Nat → Nat) : ∀ (av pre : List Value) (k : Nat) (j : Nat) (v : Value), (pre ++ av.flatMap (fun v => if v.category = 2 then [v, zU] else [v]) ++ List.replicate k zU)[j]? = some v → v ≠ zU → pre.length ≤ j → (j, zv ad v) ∈ lv_args pre.length (av.map (zv ad))
  | [], pre, k, j, v, h, hz, hj => by
    exfalso
    simp only [List.flatMap_nil, List.append_nil] at h
    rw [List.getElem?_append_right hj] at h
    have := List.mem_of_getElem? h
    exact hz (List.eq_of_mem_replicate this)
  | a :: av, pre, k, j, v, h, hz, hj => by
    simp only [List.map_cons, lv_args, zv_cat]
    rw [List.flatMap_cons, ← List.append_assoc pre] at h
    by_cases hc : a.category = 2
    · simp only [hc, if_true] at h ⊢
      have h2 := zEnt_args ad av (pre ++ [a, zU]) k j v h hz
      by_cases hj2 : (pre ++ [a, zU]).length ≤ j
      · have h3 := h2 hj2
        simp only [List.length_append, List.length_cons, List.length_nil] at h3
        exact List.mem_cons_of_mem _ h3
      · simp only [List.length_append, List.length_cons, List.length_nil] at hj2
        by_cases e : j = pre.length
        · subst e
          simp at h
          subst h
          exact List.mem_cons_self
        · have e2 : j = pre.length + 1 := by omega
          subst e2
          exfalso
          simp [List.append_assoc] at h
          exact hz h.symm
    · simp only [hc, if_false] at h ⊢
      have h2 := zEnt_args ad av (pre ++ [a]) k j v h hz
      by_cases hj2 : (pre ++ [a]).length ≤ j
      · have h3 := h2 hj2
        simp only [List.length_append, List.length_cons, List.length_nil] at h3
        exact List.mem_cons_of_mem _ h3
      · simp only [List.length_append, List.length_cons, List.length_nil] at hj2
        have e : j = pre.length := by omega
        subst e
        simp at h
        subst h
        exact List.mem_cons_self
theorem lg_sl_len (ad : Nat → Nat) : ∀ av : List Value, (lg_sl (av.map (zv ad))).length = (av.flatMap (fun v => if v.category = 2 then [v, zU] else [v])).length
  | [] => rfl
  | a :: av => by
    have h := lg_sl_len ad av
    simp only [lg_sl, List.map_cons, List.flatMap_cons, List.length_append, zv_cat] at h ⊢
    rw [h]
    by_cases hc : a.category = 2 <;> simp [hc]
theorem zOk.of {E : zE} {M : zM} {d : Nat} {av : List Value} {w : zWd} {Post : Option Value → zWd → Prop} (hy : plainName M.1.cls = true) (hn : (av.flatMap (fun v => if v.category = 2 then [v, zU] else [v])).length ≤ M.2.2.1)
    (h : zV E M d Post 0 (zEnt av M.2.2.1) [] w) : zOk E M d av w Post := by
  intro hI
  refine Met.ofW (cc := M.2.1) (maxL := M.2.2.1) (ret := M.2.2.2) hy rfl ?_
  intro p e s m args below meth c s₁ B hml hv
  obtain ⟨rfl, hP, hK⟩ := hv
  rw [lg_entry_eq]
  refine h hI p e s m _ below meth c s.heap [] _ ⟨B.exec, B.bytes, hml, B.returns, B.notSynchronized, findClass_of_methodNamed B.named, atoms_spec (ws := zws M) B.pre, hK⟩ hP va_S.rf ?_
  have hl := lv_entry (av.map (zv E.2.2.1)) (n := M.2.2.1) (by rw [lg_sl_len]; exact hn)
  refine ⟨?_, hl.1, hl.2.1, fun q hq => ?_⟩
  · simp only [zEnt, List.length_append, List.length_replicate]
    omega
  · obtain ⟨v, h1, h2, h3⟩ := mem_zpr.mp hq
    have := zEnt_args E.2.2.1 av [] _ q.1 v h1 h2 (Nat.zero_le _)
    refine hl.2.2 q ?_
    rw [show q = (q.1, zv E.2.2.1 v) by rw [← h3]]
    exact this
