/-! ===== the other instructions, a rule each ===== -/
abbrev zIA (n : Nat) (f : Nat → Int32) : va_E := .inl (0, n, .inl f)
abbrev zLA (n : Nat) (f : Nat → Int64) : va_E := .inl (1, n, .inr (.inl f))
abbrev zZA (n : Nat) (f : Nat → Int32) : va_E := .inl (2, n, .inl f)
abbrev zRA (k n : Nat) (f : Nat → Option Nat) : va_E := .inl (k, n, .inr (.inr (.inr (.inr f))))
abbrev zOb (ci : Nat) (fs : List Value) : va_E := .inr (ci, fs)
def zIf (c : Jvm.ClassFile.Cond) (x : Int32) : Prop := match c with
  | .eq => x = 0
  | .ne => ¬ x = 0
  | .lt => x < 0
  | .ge => 0 ≤ x
  | .gt => 0 < x
  | .le => x ≤ 0
def zIc (c : Jvm.ClassFile.Cond) (x y : Int32) : Prop := match c with
  | .eq => x = y
  | .ne => ¬ x = y
  | .lt => x < y
  | .ge => y ≤ x
  | .gt => y < x
  | .le => x ≤ y
def zIl (c : Jvm.ClassFile.Cond) (x y : Int64) : Prop := match c with
  | .eq => x = y
  | .ne => ¬ x = y
  | .lt => x < y
  | .ge => y ≤ x
  | .gt => y < x
  | .le => x ≤ y
theorem zIl_if (c : Jvm.ClassFile.Cond) (x y : Int64) : zIf c (lg_cmp x y) ↔ zIl c x y := by
  cases c
  · exact lg_cmp_eq x y
  · exact not_congr (lg_cmp_eq x y)
  · exact lg_cmp_lt x y
  · exact lg_cmp_ge x y
  · exact lg_cmp_gt x y
  · exact lg_cmp_le x y
def zFl (own : String) (idx ci k : Nat) : Prop := ∃ (C : String) (T : u_T) (N : Nat), zCl[ci]? = some (C, T, N) ∧ k < N ∧ (∀ w ∈ u_ws C T N, w ∈ zB) ∧ Cond.fieldLink own idx (T k).1 (T k).2.1 (T k).2.2.1 ∈ zB
def zFp (own : String) (idx ci k : Nat) (ty : FieldType) : Prop := ∃ (C : String) (T : u_T) (N : Nat) (ty0 : Nat → FieldType), zCl[ci]? = some (C, T, N) ∧ k < N ∧ (∀ w ∈ u_ws C T N, w ∈ zB) ∧ Cond.fieldLink own idx (T k).1 (T k).2.1 (T k).2.2.1 ∈ zB ∧ (∀ k, k < N → parseFieldDescriptor (T k).2.2.1 = some (ty0 k)) ∧ (∀ a, a < N → ∀ b, b < N → a ≠ b → (T a).2.1 ≠ (T b).2.1) ∧ (T k).2.2.2 = false ∧ parseFieldDescriptor (T k).2.2.1 = some ty
def zCm (N : zM) (n : Nat) : Prop := Cond.initialized N.1.cls ∈ zB ∧ Cond.code N.1 N.2.1 N.2.2.1 N.2.2.2 ∈ zB ∧ (N.1.cls ≠ "java/lang/invoke/MethodHandle" ∧ N.1.cls ≠ "java/lang/invoke/VarHandle" ∧ (parseMethodDescriptor N.1.desc).map (fun d => d.parameters.length) = some n) ∧ N.2.2.1 ≤ 23
def zCv (own : String) (idx : Nat) (N : zM) (n : Nat) : Prop := Cond.methodLink own idx N.1 ∈ zB ∧ Cond.instanceMethod N.1 ∈ zB ∧ Cond.selects N.1.cls N.1 N.1 ∈ zB ∧ zCm N n
def zCs (own : String) (idx : Nat) (N : zM) (n : Nat) : Prop := Cond.methodLink own idx N.1 ∈ zB ∧ Cond.static N.1 ∈ zB ∧ zCm N n
def zCn (N : zM) (n : Nat) : Prop := Cond.static N.1 ∈ zB ∧ zCm N n
theorem zgood {M N : zM} {n : Nat} (h : zCm N n) : GoodIn (zws M) (zws N) := by
  intro w hw
  have h1 : w ∈ zB := by
    rcases List.mem_cons.mp hw with e | e
    · rw [e]; exact h.2.1
    · exact e
  exact ⟨List.mem_cons_of_mem _ h1, good_of_word (zB_good w h1)⟩
theorem zP_blind {E : zE} {av : List Value} {w : zWd} : FrameBlind (zP E av w) := fun a U g mk q => by
  obtain ⟨q0, qP, qK, qN⟩ := q
  exact ⟨q0, qP, va_K.moved (u := U) (U := U.calling g mk a) (Vm.Alike.refl U.vm) qK, va_Nw.same rfl rfl qN⟩
theorem zP_of {E : zE} {av : List Value} {w : zWd} {s U : State} {H : Heap} (hP : va_P E.2.1 zCl (zW E.2.2.1 E.2.2.2 w) H) (hK : zK E s) (hU : U.heap = H) (hW : s.WarmedH U.vm) : zP E av w (av.map (zv E.2.2.1)).toArray U :=
  ⟨rfl, by rw [hU]; exact hP, va_K.moved hW.alike hK.1, va_Nw.warmM hW hK.2⟩
section ZC
variable {p : Program} {e : Env} {s : State} {m : MethodId} {args : Array Value} {below : List Frame} {meth : Method} {c : Code} {H : Heap} {locs : List Loc} {Qf : State → Prop} {E : zE} {d pc : Nat} {ls : Array Slot} {st : List Value} {st0 : List Value} {Q : Option Value → zWd → Prop} {a : Array Value}
theorem zcall_of (hr : va_Run p E.1 e (zRm d) s m args below meth c H locs 0 0 0 0 (F0 m pc ls st0) (st.map (zv E.2.2.1)) (zQ E Q a) (zA E.2.2.1)) (hS : va_S (zA E.2.2.1) s.heap H locs)
    (kk : ∀ (r : Option Value) (w' : zWd) (H1 : Heap) (locs1 : List Loc), Q r w' → va_P E.2.1 zCl (zW E.2.2.1 E.2.2.2 w') H1 → va_S (zA E.2.2.1) s.heap H1 locs1 → W p E.1 e (zRm d) s m args below meth c H1 locs1 0 0 Qf (F0 m (pc + 3) ls ((r.toList ++ st).map (zv E.2.2.1)))) : W p E.1 e (zRm d) s m args below meth c H locs 0 0 Qf (F0 m pc ls st0) := by
  intro T hT X
  obtain ⟨v, st₀, t, T', L, h0, X', hL, e1, e2, ⟨⟨r, w', hv, hp, hb⟩, hz, hk⟩, stp⟩ := hr T hT X
  cases hv
  rw [h0] at hz hk
  obtain ⟨t2, a1, b1⟩ := kk r w' T'.heap (locs ++ L) hp (by rw [e1]; exact hb)
    ⟨Nat.le_trans hS.1 (by rw [e1]; exact hz), fun q h1 h2 => by rw [e1, hk q (Nat.lt_of_lt_of_le h1 hS.1) h2]; exact hS.2.1 q h1 h2, fun q hq => by
      rcases List.mem_append.mp hq with h | h
      · exact hS.2.2 q h
      · exact hL q h⟩ T' rfl X'
  refine ⟨t2, stp t2 ?_, b1⟩
  have e9 : (r.toList ++ st).map (zv E.2.2.1) = (r.map (zv E.2.2.1)).toList ++ st.map (zv E.2.2.1) := by cases r <;> simp
  rw [e9] at a1
  exact a1
end ZC
theorem zsum (ad : Nat → Nat) (st : List Value) : ((st.map (zv ad)).map fun v => v.category).sum = (st.map fun v => v.category).sum := by
  rw [List.map_map]
  congr 1
  apply List.map_congr_left
  intro v _
  exact zv_cat ad v
section ZR2
variable {E : zE} {M : zM} {d : Nat} {Post : Option Value → zWd → Prop} {pc nx : Nat} {L st : List Value} {w : zWd} {T : zTb} {aux : Value}
theorem zV.ldc2 (hT : zTab M T) {idx : Nat} (hl : T.lookup pc = some (.ldc2_w idx, nx, aux)) {v : Int64} (hc : Cond.constantLong M.1.cls idx v ∈ zB) (k : zV E M d Post nx L (.long v :: st) w) : zV E M d Post pc L st w := by
  intro hI p e s m args below meth c H locs ls X hP hS hL
  have K := k hI p e s m args below meth c H locs ls X hP hS hL
  obtain ⟨hx, hb, -, -, -, ho, hw, -⟩ := X
  obtain ⟨h1, h2⟩ := zTab.dec hT hl
  have h2 : nx = pc + 3 := of_decide_eq_true h2
  subst h2
  exact lv_ldc2 hx hb ho (hw _ (List.mem_cons_of_mem _ hc)) h1 K
theorem zV.if2 (hT : zTab M T) {cd : Jvm.ClassFile.Cond} {off : Int} {tgt : Nat} (hl : T.lookup pc = some (.ifCond cd off, nx, .retAddr tgt)) {x : Int32} (kt : zIf cd x → zV E M d Post tgt L st w) (kf : ¬ zIf cd x → zV E M d Post nx L st w) : zV E M d Post pc L (.int x :: st) w := by
  intro hI p e s m args below meth c H locs ls X hP hS hL
  have K1 := fun h => kt h hI p e s m args below meth c H locs ls X hP hS hL
  have K2 := fun h => kf h hI p e s m args below meth c H locs ls X hP hS hL
  obtain ⟨hx, hb, -, -, -, ho, hw, -⟩ := X
  obtain ⟨h1, h2⟩ := zTab.dec hT hl
  simp only [zch2, Bool.and_eq_true, decide_eq_true_eq] at h2
  obtain ⟨rfl, h2⟩ := h2
  cases cd
  · exact lv_if_eq hx hb h1 h2 K1 K2
  · exact lv_if_ne hx hb h1 h2 K1 (fun e9 => K2 (fun h9 => h9 e9))
  · exact lv_if_lt hx hb h1 h2 K1 K2
  · exact lv_if_ge hx hb h1 h2 K1 K2
  · exact lv_if_gt hx hb h1 h2 K1 K2
  · exact lv_if_le hx hb h1 h2 K1 K2
theorem zV.ic2 (hT : zTab M T) {cd : Jvm.ClassFile.Cond} {off : Int} {tgt : Nat} (hl : T.lookup pc = some (.if_icmp cd off, nx, .retAddr tgt)) {x y : Int32} (kt : zIc cd x y → zV E M d Post tgt L st w) (kf : ¬ zIc cd x y → zV E M d Post nx L st w) : zV E M d Post pc L (.int y :: .int x :: st) w := by
  intro hI p e s m args below meth c H locs ls X hP hS hL
  have K1 := fun h => kt h hI p e s m args below meth c H locs ls X hP hS hL
  have K2 := fun h => kf h hI p e s m args below meth c H locs ls X hP hS hL
  obtain ⟨hx, hb, -, -, -, ho, hw, -⟩ := X
  obtain ⟨h1, h2⟩ := zTab.dec hT hl
  simp only [zch2, Bool.and_eq_true, decide_eq_true_eq] at h2
  obtain ⟨rfl, h2⟩ := h2
  cases cd
  · exact lv_icmp_eq hx hb h1 h2 K1 K2
  · exact lv_icmp_ne hx hb h1 h2 K1 (fun e9 => K2 (fun h9 => h9 e9))
  · exact lv_icmp_lt hx hb h1 h2 K1 K2
  · exact lv_icmp_ge hx hb h1 h2 K1 K2
  · exact lv_icmp_gt hx hb h1 h2 K1 K2
  · exact lv_icmp_le hx hb h1 h2 K1 K2
theorem zV.lcmp (hT : zTab M T) (hl : T.lookup pc = some (.lcmp, nx, aux)) {x y : Int64} (k : zV E M d Post nx L (.int (lg_cmp x y) :: st) w) : zV E M d Post pc L (.long y :: .long x :: st) w := by
  intro hI p e s m args below meth c H locs ls X hP hS hL
  have K := k hI p e s m args below meth c H locs ls X hP hS hL
  obtain ⟨hx, hb, -, -, -, ho, hw, -⟩ := X
  obtain ⟨h1, h2⟩ := zTab.dec hT hl
  have h2 : nx = pc + 1 := of_decide_eq_true h2
  subst h2
  exact W.lcmp hx hb h1 K
theorem zV.il2 (hT : zTab M T) (hl0 : T.lookup pc = some (.lcmp, nx, aux)) {cd : Jvm.ClassFile.Cond} {off : Int} {n2 tgt : Nat} (hl : T.lookup nx = some (.ifCond cd off, n2, .retAddr tgt)) {x y : Int64} (kt : zIl cd x y → zV E M d Post tgt L st w) (kf : ¬ zIl cd x y → zV E M d Post n2 L st w) : zV E M d Post pc L (.long y :: .long x :: st) w :=
  zV.lcmp hT hl0 (zV.if2 hT hl (fun h => kt ((zIl_if cd x y).mp h)) (fun h => kf (fun q => h ((zIl_if cd x y).mpr q))))
theorem zV.ift (hT : zTab M T) {cd : Jvm.ClassFile.Cond} {off : Int} {tgt : Nat} (hl : T.lookup pc = some (.ifCond cd off, nx, .retAddr tgt)) {x : Int32} (h : zIf cd x) (k : zV E M d Post tgt L st w) : zV E M d Post pc L (.int x :: st) w := zV.if2 hT hl (fun _ => k) (fun q => absurd h q)
theorem zV.iff (hT : zTab M T) {cd : Jvm.ClassFile.Cond} {off : Int} {tgt : Nat} (hl : T.lookup pc = some (.ifCond cd off, nx, .retAddr tgt)) {x : Int32} (h : ¬ zIf cd x) (k : zV E M d Post nx L st w) : zV E M d Post pc L (.int x :: st) w := zV.if2 hT hl (fun q => absurd q h) (fun _ => k)
theorem zV.ict (hT : zTab M T) {cd : Jvm.ClassFile.Cond} {off : Int} {tgt : Nat} (hl : T.lookup pc = some (.if_icmp cd off, nx, .retAddr tgt)) {x y : Int32} (h : zIc cd x y) (k : zV E M d Post tgt L st w) : zV E M d Post pc L (.int y :: .int x :: st) w := zV.ic2 hT hl (fun _ => k) (fun q => absurd h q)
theorem zV.icf (hT : zTab M T) {cd : Jvm.ClassFile.Cond} {off : Int} {tgt : Nat} (hl : T.lookup pc = some (.if_icmp cd off, nx, .retAddr tgt)) {x y : Int32} (h : ¬ zIc cd x y) (k : zV E M d Post nx L st w) : zV E M d Post pc L (.int y :: .int x :: st) w := zV.ic2 hT hl (fun q => absurd q h) (fun _ => k)
theorem zV.ilt (hT : zTab M T) (hl0 : T.lookup pc = some (.lcmp, nx, aux)) {cd : Jvm.ClassFile.Cond} {off : Int} {n2 tgt : Nat} (hl : T.lookup nx = some (.ifCond cd off, n2, .retAddr tgt)) {x y : Int64} (h : zIl cd x y) (k : zV E M d Post tgt L st w) : zV E M d Post pc L (.long y :: .long x :: st) w := zV.il2 hT hl0 hl (fun _ => k) (fun q => absurd h q)
theorem zV.ilf (hT : zTab M T) (hl0 : T.lookup pc = some (.lcmp, nx, aux)) {cd : Jvm.ClassFile.Cond} {off : Int} {n2 tgt : Nat} (hl : T.lookup nx = some (.ifCond cd off, n2, .retAddr tgt)) {x y : Int64} (h : ¬ zIl cd x y) (k : zV E M d Post n2 L st w) : zV E M d Post pc L (.long y :: .long x :: st) w := zV.il2 hT hl0 hl (fun q => absurd q h) (fun _ => k)
-- divisions
theorem zV.idiv (hT : zTab M T) (hl : T.lookup pc = some (.idiv, nx, aux)) {x y : Int32} (hne : ¬ y = 0) (k : zV E M d Post nx L (.int (x / y) :: st) w) : zV E M d Post pc L (.int y :: .int x :: st) w := by
  intro hI p e s m args below meth c H locs ls X hP hS hL
  have K := k hI p e s m args below meth c H locs ls X hP hS hL
  obtain ⟨hx, hb, -⟩ := X
  obtain ⟨h1, h2⟩ := zTab.dec hT hl
  have h2 : nx = pc + 1 := of_decide_eq_true h2
  subst h2
  exact lv_idiv hx hb h1 hne K
theorem zV.irem (hT : zTab M T) (hl : T.lookup pc = some (.irem, nx, aux)) {x y : Int32} (hne : ¬ y = 0) (k : zV E M d Post nx L (.int (x - x / y * y) :: st) w) : zV E M d Post pc L (.int y :: .int x :: st) w := by
  intro hI p e s m args below meth c H locs ls X hP hS hL
  have K := k hI p e s m args below meth c H locs ls X hP hS hL
  obtain ⟨hx, hb, -⟩ := X
  obtain ⟨h1, h2⟩ := zTab.dec hT hl
  have h2 : nx = pc + 1 := of_decide_eq_true h2
  subst h2
  exact lv_irem hx hb h1 hne K
theorem zV.ldiv (hT : zTab M T) (hl : T.lookup pc = some (.ldiv, nx, aux)) {x y : Int64} (hne : ¬ y = 0) (k : zV E M d Post nx L (.long (x / y) :: st) w) : zV E M d Post pc L (.long y :: .long x :: st) w := by
  intro hI p e s m args below meth c H locs ls X hP hS hL
  have K := k hI p e s m args below meth c H locs ls X hP hS hL
  obtain ⟨hx, hb, -⟩ := X
  obtain ⟨h1, h2⟩ := zTab.dec hT hl
  have h2 : nx = pc + 1 := of_decide_eq_true h2
  subst h2
  exact lv_ldiv hx hb h1 hne K
theorem zV.lrem (hT : zTab M T) (hl : T.lookup pc = some (.lrem, nx, aux)) {x y : Int64} (hne : ¬ y = 0) (k : zV E M d Post nx L (.long (x - x / y * y) :: st) w) : zV E M d Post pc L (.long y :: .long x :: st) w := by
  intro hI p e s m args below meth c H locs ls X hP hS hL
  have K := k hI p e s m args below meth c H locs ls X hP hS hL
  obtain ⟨hx, hb, -⟩ := X
  obtain ⟨h1, h2⟩ := zTab.dec hT hl
  have h2 : nx = pc + 1 := of_decide_eq_true h2
  subst h2
  exact lv_lrem hx hb h1 hne K
-- fields
theorem zV.gf (hT : zTab M T) {idx ci k : Nat} (hl : T.lookup pc = some (.getfield idx, nx, aux)) (hF : zFl M.1.cls idx ci k) {a : Nat} {fs : List Value} {v : Value} (ha : zIs w a (.inr (ci, fs))) (hv : fs[k]? = some v) (kk : zV E M d Post nx L (v :: st) w) : zV E M d Post pc L (.ref a :: st) w := by
  intro hI p e s m args below meth c H locs ls X hP hS hL
  have K := kk hI p e s m args below meth c H locs ls X hP hS hL
  obtain ⟨hx, hb, -, -, -, ho, hw, hK⟩ := X
  obtain ⟨h1, h2⟩ := zTab.dec hT hl
  have h2 : nx = pc + 3 := of_decide_eq_true h2
  subst h2
  obtain ⟨C, TT, N, g1, g2, g3, g4⟩ := hF
  exact va_get (D := E.2.1) (ci := ci) (v := zv E.2.2.1 v) (C := C) (T := TT) (N := N) (fs := fs.map (zv E.2.2.1)) hx hb hw (fun x h => List.mem_cons_of_mem _ (g3 x h)) ho hK.1 hP a (zW_at ha) g1 k g2 (hw _ (List.mem_cons_of_mem _ g4)) (fun _ h9 => h9) (by rw [List.getElem?_map, hv]; rfl) h1 K
theorem zV.pf (hT : zTab M T) {idx ci k : Nat} {ty : FieldType} (hl : T.lookup pc = some (.putfield idx, nx, aux)) (hF : zFp M.1.cls idx ci k ty) {a : Nat} {fs : List Value} {v : Value} (ha : zIs w a (.inr (ci, fs))) (hk : k < fs.length) (hn : narrow ty v = v) (hf : fits ty v = true) (hz : ∀ ad, zv ad v = v) (kk : zV E M d Post nx L st (va_up w a (.inr (ci, fs.set k v)))) : zV E M d Post pc L (v :: .ref a :: st) w := by
  intro hI p e s m args below meth c H locs ls X hP hS hL
  have K := fun H locs hP hS => kk hI p e s m args below meth c H locs ls X hP hS hL
  obtain ⟨hx, hb, -, -, -, ho, hw, hK⟩ := X
  obtain ⟨h1, h2⟩ := zTab.dec hT hl
  have h2 : nx = pc + 3 := of_decide_eq_true h2
  subst h2
  obtain ⟨C, TT, N, ty0, g1, g2, g3, g4, g5, g6, g7, g8⟩ := hF
  show W p E.1 e (zRm d) s m args below meth c H locs 0 0 _ (F0 m pc ls (zv E.2.2.1 v :: .ref (E.2.2.1 a) :: st.map (zv E.2.2.1)))
  rw [hz]
  refine va_put (D := E.2.1) (ci := ci) (v := v) (ty := ty) (C := C) (T := TT) (N := N) (fs := fs.map (zv E.2.2.1)) hx hb hw (fun x h => List.mem_cons_of_mem _ (g3 x h)) ty0 g5 g6 ho hK.1 hP (zD hI) hS a (zW_at ha) g1 k g2 (hw _ (List.mem_cons_of_mem _ g4)) (fun _ h9 => h9) g7 g8 hn hf (by simpa using hk) h1 (fun H1 locs1 hP1 _ hS1 => K H1 locs1 ?_ hS1)
  have e1 : (zW E.2.2.1 E.2.2.2 w).set a (E.2.2.1 a, .inr (ci, (fs.map (zv E.2.2.1)).set k v)) = zW E.2.2.1 E.2.2.2 (va_up w a (.inr (ci, fs.set k v))) := by
    rw [← zW_set _ ha.1]
    simp only [zc, List.map_set, hz]
  rw [← e1]
  exact hP1
theorem zV.pfi (hT : zTab M T) {idx ci k : Nat} (hl : T.lookup pc = some (.putfield idx, nx, aux)) (hF : zFp M.1.cls idx ci k .int) {a : Nat} {fs : List Value} {x : Int32} (ha : zIs w a (.inr (ci, fs))) (hk : k < fs.length) (kk : zV E M d Post nx L st (va_up w a (.inr (ci, fs.set k (.int x))))) : zV E M d Post pc L (.int x :: .ref a :: st) w :=
  zV.pf hT hl hF ha hk rfl rfl (fun _ => rfl) kk
theorem zV.pfl (hT : zTab M T) {idx ci k : Nat} (hl : T.lookup pc = some (.putfield idx, nx, aux)) (hF : zFp M.1.cls idx ci k .long) {a : Nat} {fs : List Value} {x : Int64} (ha : zIs w a (.inr (ci, fs))) (hk : k < fs.length) (kk : zV E M d Post nx L st (va_up w a (.inr (ci, fs.set k (.long x))))) : zV E M d Post pc L (.long x :: .ref a :: st) w :=
  zV.pf hT hl hF ha hk rfl rfl (fun _ => rfl) kk
theorem zV.pfz (hT : zTab M T) {idx ci k : Nat} (hl : T.lookup pc = some (.putfield idx, nx, aux)) (hF : zFp M.1.cls idx ci k .boolean) {a : Nat} {fs : List Value} {x : Int32} (hx : x = 0 ∨ x = 1) (ha : zIs w a (.inr (ci, fs))) (hk : k < fs.length) (kk : zV E M d Post nx L st (va_up w a (.inr (ci, fs.set k (.int x))))) : zV E M d Post pc L (.int x :: .ref a :: st) w := by
  rcases hx with rfl | rfl
  · exact zV.pf hT hl hF ha hk (by decide +kernel) (by decide +kernel) (fun _ => rfl) kk
  · exact zV.pf hT hl hF ha hk (by decide +kernel) (by decide +kernel) (fun _ => rfl) kk
-- arrays
theorem zV.ial (hT : zTab M T) (hl : T.lookup pc = some (.iaload, nx, aux)) {a n : Nat} {f : Nat → Int32} {i : Int32} (ha : zIs w a (zIA n f)) (j : Nat) (hi : i = nI j) (hj : j < n) (hn : n < 2 ^ 31) (kk : zV E M d Post nx L (.int (f j) :: st) w) : zV E M d Post pc L (.int i :: .ref a :: st) w := by
  intro hI p e s m args below meth c H locs ls X hP hS hL
  have K := kk hI p e s m args below meth c H locs ls X hP hS hL
  obtain ⟨hx, hb, -, -, -, ho, hw, hK⟩ := X
  obtain ⟨h1, h2⟩ := zTab.dec hT hl
  have h2 : nx = pc + 1 := of_decide_eq_true h2
  subst h2
  subst hi
  refine va_iald (cA := E.2.2.2 0) (n := n) (f := f) hx hb hK.1 hP a 0 (zW_at ha) rfl (vp_in_nI hj hn) h1 ?_
  rw [nI_clamp (Nat.lt_trans hj hn)]
  exact K
theorem zV.lal (hT : zTab M T) (hl : T.lookup pc = some (.laload, nx, aux)) {a n : Nat} {f : Nat → Int64} {i : Int32} (ha : zIs w a (zLA n f)) (j : Nat) (hi : i = nI j) (hj : j < n) (hn : n < 2 ^ 31) (kk : zV E M d Post nx L (.long (f j) :: st) w) : zV E M d Post pc L (.int i :: .ref a :: st) w := by
  intro hI p e s m args below meth c H locs ls X hP hS hL
  have K := kk hI p e s m args below meth c H locs ls X hP hS hL
  obtain ⟨hx, hb, -, -, -, ho, hw, hK⟩ := X
  obtain ⟨h1, h2⟩ := zTab.dec hT hl
  have h2 : nx = pc + 1 := of_decide_eq_true h2
  subst h2
  subst hi
  refine va_lald (cA := E.2.2.2 1) (n := n) (f := f) hx hb hK.1 hP a 1 (zW_at ha) rfl (vp_in_nI hj hn) h1 ?_
  rw [nI_clamp (Nat.lt_trans hj hn)]
  exact K
theorem zV.zal (hT : zTab M T) (hl : T.lookup pc = some (.baload, nx, aux)) {a n : Nat} {f : Nat → Int32} {i : Int32} (ha : zIs w a (zZA n f)) (j : Nat) (hi : i = nI j) (hj : j < n) (hn : n < 2 ^ 31) (kk : zV E M d Post nx L (.int (f j) :: st) w) : zV E M d Post pc L (.int i :: .ref a :: st) w := by
  intro hI p e s m args below meth c H locs ls X hP hS hL
  have K := kk hI p e s m args below meth c H locs ls X hP hS hL
  obtain ⟨hx, hb, -, -, -, ho, hw, hK⟩ := X
  obtain ⟨h1, h2⟩ := zTab.dec hT hl
  have h2 : nx = pc + 1 := of_decide_eq_true h2
  subst h2
  subst hi
  refine va_zald (cA := E.2.2.2 2) (n := n) (f := f) hx hb hK.1 hP a 2 (zW_at ha) rfl (vp_in_nI hj hn) h1 ?_
  rw [nI_clamp (Nat.lt_trans hj hn)]
  exact K
theorem zV.aalF (hT : zTab M T) (hl : T.lookup pc = some (.aaload, nx, aux)) {a n : Nat} {f : Nat → Option Nat} {i : Int32} (ha : zIs w a (zRA 3 n f)) (j : Nat) (hi : i = nI j) (hj : j < n) (hn : n < 2 ^ 31) {b : Nat} (hb : f j = some b) (kk : zV E M d Post nx L (.ref b :: st) w) : zV E M d Post pc L (.int i :: .ref a :: st) w := by
  intro hI p e s m args below meth c H locs ls X hP hS hL
  have K := kk hI p e s m args below meth c H locs ls X hP hS hL
  obtain ⟨hx, hbb, -, -, -, ho, hw, hK⟩ := X
  obtain ⟨h1, h2⟩ := zTab.dec hT hl
  have h2 : nx = pc + 1 := of_decide_eq_true h2
  subst h2
  subst hi
  refine va_aldq (cA := E.2.2.2 3) (C := "SpanMaps$Fold") (n := n) (f := fun j => (f j).map E.2.2.1) hx hbb hK.1 hP a 3 (zW_at ha) rfl (vp_in_nI hj hn) h1 ?_
  rw [nI_clamp (Nat.lt_trans hj hn)]
  simp only [hb, Option.map_some, va_rf]
  exact K
theorem zV.aalL (hT : zTab M T) (hl : T.lookup pc = some (.aaload, nx, aux)) {a n : Nat} {f : Nat → Option Nat} {i : Int32} (ha : zIs w a (zRA 4 n f)) (j : Nat) (hi : i = nI j) (hj : j < n) (hn : n < 2 ^ 31) {b : Nat} (hb : f j = some b) (kk : zV E M d Post nx L (.ref b :: st) w) : zV E M d Post pc L (.int i :: .ref a :: st) w := by
  intro hI p e s m args below meth c H locs ls X hP hS hL
  have K := kk hI p e s m args below meth c H locs ls X hP hS hL
  obtain ⟨hx, hbb, -, -, -, ho, hw, hK⟩ := X
  obtain ⟨h1, h2⟩ := zTab.dec hT hl
  have h2 : nx = pc + 1 := of_decide_eq_true h2
  subst h2
  subst hi
  have hin := vp_in_nI hj hn
  have hc := nI_clamp (Nat.lt_trans hj hn)
  have ha2 : (zW E.2.2.1 E.2.2.2 w)[a]? = some (E.2.2.1 a, .inl (E.2.2.2 4, n, .inr (.inr (.inr (.inr (fun j => (f j).map E.2.2.1)))))) := zW_at ha
  exact W.aald (v := .ref (E.2.2.1 b)) (ty := .array .long) hx hbb (hP a _ ha2) ((hK.1.2 4 (E.2.2.2 4, .array .long) rfl).1 n (fun j => va_rf ((f j).map E.2.2.1))) rfl (fun q => by cases q) (by show ¬ (nI j < 0 ∨ (arrV _ _ _).slots.size ≤ _); rw [arrV_size]; exact hin) (by show (arrV _ _ _).slots[_]? = _; rw [hc, arrV_read _ _ hj]; simp [hb, va_rf]) rfl rfl h1 K
theorem zV.ias (hT : zTab M T) (hl : T.lookup pc = some (.iastore, nx, aux)) {a n : Nat} {f : Nat → Int32} {i x : Int32} (ha : zIs w a (zIA n f)) (j : Nat) (hi : i = nI j) (hj : j < n) (hn : n < 2 ^ 31) (kk : zV E M d Post nx L st (va_up w a (zIA n (upd f j x)))) : zV E M d Post pc L (.int x :: .int i :: .ref a :: st) w := by
  intro hI p e s m args below meth c H locs ls X hP hS hL
  have K := fun H locs hP hS => kk hI p e s m args below meth c H locs ls X hP hS hL
  obtain ⟨hx, hb, -, -, -, ho, hw, hK⟩ := X
  obtain ⟨h1, h2⟩ := zTab.dec hT hl
  have h2 : nx = pc + 1 := of_decide_eq_true h2
  subst h2
  subst hi
  refine va_iast (cA := E.2.2.2 0) (n := n) (f := f) hx hb hK.1 hP (zD hI) hS a 0 (zW_at ha) rfl (vp_in_nI hj hn) h1 (fun H1 locs1 hP1 _ hS1 => K H1 locs1 ?_ hS1)
  rw [nI_clamp (Nat.lt_trans hj hn)] at hP1
  rw [← zW_set _ ha.1]
  exact hP1
theorem zV.las (hT : zTab M T) (hl : T.lookup pc = some (.lastore, nx, aux)) {a n : Nat} {f : Nat → Int64} {i : Int32} {x : Int64} (ha : zIs w a (zLA n f)) (j : Nat) (hi : i = nI j) (hj : j < n) (hn : n < 2 ^ 31) (kk : zV E M d Post nx L st (va_up w a (zLA n (vp_updL f j x)))) : zV E M d Post pc L (.long x :: .int i :: .ref a :: st) w := by
  intro hI p e s m args below meth c H locs ls X hP hS hL
  have K := fun H locs hP hS => kk hI p e s m args below meth c H locs ls X hP hS hL
  obtain ⟨hx, hb, -, -, -, ho, hw, hK⟩ := X
  obtain ⟨h1, h2⟩ := zTab.dec hT hl
  have h2 : nx = pc + 1 := of_decide_eq_true h2
  subst h2
  subst hi
  refine va_last (cA := E.2.2.2 1) (n := n) (f := f) hx hb hK.1 hP (zD hI) hS a 1 (zW_at ha) rfl (vp_in_nI hj hn) h1 (fun H1 locs1 hP1 _ hS1 => K H1 locs1 ?_ hS1)
  rw [nI_clamp (Nat.lt_trans hj hn)] at hP1
  rw [← zW_set _ ha.1]
  exact hP1
theorem zV.zas (hT : zTab M T) (hl : T.lookup pc = some (.bastore, nx, aux)) {a n : Nat} {f : Nat → Int32} {i x : Int32} (hx01 : x = 0 ∨ x = 1) (ha : zIs w a (zZA n f)) (j : Nat) (hi : i = nI j) (hj : j < n) (hn : n < 2 ^ 31) (kk : zV E M d Post nx L st (va_up w a (zZA n (upd f j x)))) : zV E M d Post pc L (.int x :: .int i :: .ref a :: st) w := by
  intro hI p e s m args below meth c H locs ls X hP hS hL
  have K := fun H locs hP hS => kk hI p e s m args below meth c H locs ls X hP hS hL
  obtain ⟨hx, hb, -, -, -, ho, hw, hK⟩ := X
  obtain ⟨h1, h2⟩ := zTab.dec hT hl
  have h2 : nx = pc + 1 := of_decide_eq_true h2
  subst h2
  subst hi
  refine va_zast (cA := E.2.2.2 2) (n := n) (f := f) hx hb hK.1 hP (zD hI) hS a 2 (zW_at ha) rfl (vp_in_nI hj hn) h1 (fun H1 locs1 hP1 _ hS1 => K H1 locs1 ?_ hS1)
  have e1 : vp_nar .boolean x = x := by
    rcases hx01 with rfl | rfl <;> decide +kernel
  rw [nI_clamp (Nat.lt_trans hj hn), e1] at hP1
  rw [← zW_set _ ha.1]
  exact hP1
-- ends
theorem zV.iret (hT : zTab M T) (hl : T.lookup pc = some (.ireturn, nx, aux)) (hr : M.2.2.2 = some .int) {x : Int32} (hp : Post (some (.int x)) w) : zV E M d Post pc L [.int x] w := by
  intro hI p e s m args below meth c H locs ls X hP hS hL
  obtain ⟨hx, hb, -, hret, hlk, ho, hw, hK⟩ := X
  obtain ⟨h1, h2⟩ := zTab.dec hT hl
  exact W.iret (v := x) hx hb (hret.trans hr) (fun t ht hW => ⟨⟨some (.int x), w, rfl, hp, by rw [ht]; exact hP⟩, hS.F ht⟩) hS.2.2 h1 hlk
theorem zV.zret (hT : zTab M T) (hl : T.lookup pc = some (.ireturn, nx, aux)) (hr : M.2.2.2 = some .boolean) {x : Int32} (hx01 : x = 0 ∨ x = 1) (hp : Post (some (.int x)) w) : zV E M d Post pc L [.int x] w := by
  intro hI p e s m args below meth c H locs ls X hP hS hL
  obtain ⟨hx, hb, -, hret, hlk, ho, hw, hK⟩ := X
  obtain ⟨h1, h2⟩ := zTab.dec hT hl
  exact W.zret (v := x) hx hb (hret.trans hr) (by rcases hx01 with rfl | rfl <;> decide +kernel) (fun t ht hW => ⟨⟨some (.int x), w, rfl, hp, by rw [ht]; exact hP⟩, hS.F ht⟩) hS.2.2 h1 hlk
theorem zV.lret (hT : zTab M T) (hl : T.lookup pc = some (.lreturn, nx, aux)) (hr : M.2.2.2 = some .long) {x : Int64} (hp : Post (some (.long x)) w) : zV E M d Post pc L [.long x] w := by
  intro hI p e s m args below meth c H locs ls X hP hS hL
  obtain ⟨hx, hb, -, hret, hlk, ho, hw, hK⟩ := X
  obtain ⟨h1, h2⟩ := zTab.dec hT hl
  exact W.lret (v := x) hx hb (hret.trans hr) (fun t ht hW => ⟨⟨some (.long x), w, rfl, hp, by rw [ht]; exact hP⟩, hS.F ht⟩) hS.2.2 h1 hlk
theorem zV.vret (hT : zTab M T) (hl : T.lookup pc = some (.return_, nx, aux)) (hr : M.2.2.2 = none) (hp : Post none w) : zV E M d Post pc L [] w := by
  intro hI p e s m args below meth c H locs ls X hP hS hL
  obtain ⟨hx, hb, -, hret, hlk, ho, hw, hK⟩ := X
  obtain ⟨h1, h2⟩ := zTab.dec hT hl
  exact W.vret hx hb (hret.trans hr) (fun t ht hW => ⟨⟨none, w, rfl, hp, by rw [ht]; exact hP⟩, hS.F ht⟩) hS.2.2 h1 hlk
-- calls
theorem zV.cv (hT : zTab M T) {idx n d' : Nat} {N : zM} (hl : T.lookup pc = some (.invokevirtual idx, nx, aux)) (hC : zCv M.1.cls idx N n) {a : Nat} {As stk : List Value} {Q : Option Value → zWd → Prop} (hok : zOk E N d' (.ref a :: As) w Q) (hd : d' < d) (hn : As.length = n) {ci : Nat} {fs : List Value} {q : vw_C} (ha : zIs w a (.inr (ci, fs))) (hc : zCl[ci]? = some q) (hq : q.1 = N.1.cls) (hs : stk = As.reverse ++ .ref a :: st) (hw8 : (st.map fun v => v.category).sum ≤ 8) (kk : ∀ r w', Q r w' → zV E M d Post nx L (r.toList ++ st) w') : zV E M d Post pc L stk w := by
  intro hI p e s m args below meth c H locs ls X hP hS hL
  have K := fun r w' H locs hQ hP hS => kk r w' hQ hI p e s m args below meth c H locs ls X hP hS hL
  have hM := hok hI
  obtain ⟨hx, hb, hml, hret, hlk, ho, hw, hK⟩ := X
  obtain ⟨h1, h2⟩ := zTab.dec hT hl
  have h2 : nx = pc + 3 := of_decide_eq_true h2
  subst h2
  subst hs
  obtain ⟨c1, c2, c3, c4, c5, c6, c7⟩ := hC
  have inB : ∀ x, x ∈ zB → x.before args s = true := fun x h => hw _ (List.mem_cons_of_mem _ h)
  have hroom : (zRm d').frames + 1 ≤ (zRm d).frames ∧ 8 + (N.2.2.1 + 11) + (zRm d').locals ≤ (zRm d).locals := ⟨hd, by show 8 + (N.2.2.1 + 11) + 42 * d' ≤ 42 * d; omega⟩
  refine zcall_of (Q := Q) (st := st) (va_runV (C := N.1.cls) (As := As.map (zv E.2.2.1)) (b := E.2.2.1 a) (n := n) (rest := st.map (zv E.2.2.1)) (Ts := zws M) ⟨hx, hb, hml, ho, hw⟩ hM ⟨callB_of n hw (zgood ⟨c4, c5, c6, c7⟩) rfl rfl rfl (inB _ c4) (inB _ c1) c6 hroom, inB _ c2, inB _ c3⟩ ⟨zP_blind, by rw [← hq]; exact va_recv hK.1 hP hc (zW_at ha), fun U hU hW => zP_of (av := .ref a :: As) hP hK hU hW⟩ rfl (by rw [List.length_map]; exact hn) hL.2.1 (by simp [List.map_append, List.map_reverse, zv]) (lv_room (by rw [zsum]; exact hw8)) h1 ⟨Nat.le_refl _, Nat.le_refl _⟩) hS K
theorem zV.cs (hT : zTab M T) {idx n d' : Nat} {N : zM} (hl : T.lookup pc = some (.invokestatic idx, nx, aux)) (hC : zCs M.1.cls idx N n) {As stk : List Value} {Q : Option Value → zWd → Prop} (hok : zOk E N d' As w Q) (hd : d' < d) (hn : As.length = n) (hs : stk = As.reverse ++ st) (hw8 : (st.map fun v => v.category).sum ≤ 8) (kk : ∀ r w', Q r w' → zV E M d Post nx L (r.toList ++ st) w') : zV E M d Post pc L stk w := by
  intro hI p e s m args below meth c H locs ls X hP hS hL
  have K := fun r w' H locs hQ hP hS => kk r w' hQ hI p e s m args below meth c H locs ls X hP hS hL
  have hM := hok hI
  obtain ⟨hx, hb, hml, hret, hlk, ho, hw, hK⟩ := X
  obtain ⟨h1, h2⟩ := zTab.dec hT hl
  have h2 : nx = pc + 3 := of_decide_eq_true h2
  subst h2
  subst hs
  obtain ⟨c1, c2, c4, c5, c6, c7⟩ := hC
  have inB : ∀ x, x ∈ zB → x.before args s = true := fun x h => hw _ (List.mem_cons_of_mem _ h)
  have hroom : (zRm d').frames + 1 ≤ (zRm d).frames ∧ 8 + (N.2.2.1 + 11) + (zRm d').locals ≤ (zRm d).locals := ⟨hd, by show 8 + (N.2.2.1 + 11) + 42 * d' ≤ 42 * d; omega⟩
  refine zcall_of (Q := Q) (st := st) (va_runS (As := As.map (zv E.2.2.1)) (n := n) (rest := st.map (zv E.2.2.1)) (Ts := zws M) ⟨hx, hb, hml, ho, hw⟩ hM ⟨callB_of n hw (zgood ⟨c4, c5, c6, c7⟩) rfl rfl rfl (inB _ c4) (inB _ c1) c6 hroom, inB _ c2⟩ ⟨zP_blind, fun U hU hW => zP_of (av := As) hP hK hU hW⟩ rfl (by rw [List.length_map]; exact hn) hL.2.1 (by simp [List.map_append, List.map_reverse]) (lv_room (by rw [zsum]; exact hw8)) h1 ⟨Nat.le_refl _, Nat.le_refl _⟩) hS K
theorem zV.cn (hT : zTab M T) {idx n d' : Nat} {N : zM} (hl : T.lookup pc = some (.invokestatic idx, nx, aux)) (hC : zCn N n) (hnm : zNm = .methodLinkNest M.1.cls idx N.1 "SpanMaps") {As stk : List Value} {Q : Option Value → zWd → Prop} (hok : zOk E N d' As w Q) (hd : d' < d) (hn : As.length = n) (hs : stk = As.reverse ++ st) (hw8 : (st.map fun v => v.category).sum ≤ 8) (kk : ∀ r w', Q r w' → zV E M d Post nx L (r.toList ++ st) w') : zV E M d Post pc L stk w := by
  intro hI p e s m args below meth c H locs ls X hP hS hL
  have K := fun r w' H locs hQ hP hS => kk r w' hQ hI p e s m args below meth c H locs ls X hP hS hL
  have hM := hok hI
  obtain ⟨hx, hb, hml, hret, hlk, ho, hw, hK⟩ := X
  obtain ⟨h1, h2⟩ := zTab.dec hT hl
  have h2 : nx = pc + 3 := of_decide_eq_true h2
  subst h2
  subst hs
  obtain ⟨c2, c4, c5, c6, c7⟩ := hC
  have inB : ∀ x, x ∈ zB → x.before args s = true := fun x h => hw _ (List.mem_cons_of_mem _ h)
  have hroom : (zRm d').frames + 1 ≤ (zRm d).frames ∧ 8 + (N.2.2.1 + 11) + (zRm d').locals ≤ (zRm d).locals := ⟨hd, by show 8 + (N.2.2.1 + 11) + 42 * d' ≤ 42 * d; omega⟩
  have hnw : va_Nw (.methodLinkNest M.1.cls idx N.1 "SpanMaps") s := by rw [← hnm]; exact hK.2
  refine zcall_of (Q := Q) (st := st) (va_runSN (As := As.map (zv E.2.2.1)) (n := n) (rest := st.map (zv E.2.2.1)) (Ts := zws M) ⟨hx, hb, hml, ho, hw⟩ hM ⟨va_cnB n hw (zgood ⟨c4, c5, c6, c7⟩) rfl rfl rfl hnw (inB _ c4) c6 hroom, inB _ c2, trivial⟩ ⟨zP_blind, fun U hU hW => zP_of (av := As) hP hK hU hW⟩ rfl (by rw [List.length_map]; exact hn) hL.2.1 (by simp [List.map_append, List.map_reverse]) (lv_room (by rw [zsum]; exact hw8)) h1 ⟨Nat.le_refl _, Nat.le_refl _⟩) hS K
end ZR2
