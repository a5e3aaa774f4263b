/-! THE CLAIM OUT OF ONE WALK OF THE LAW'S BODY. Your part is whole_start (and what it stands on); all else here is the same for every law, but numbers. -/
def R_law : String := "SpanMapsLaw"
def lw_P (b : Addr) (xs : List Int32) (args : Array Value) (s : State) : Prop := args = #[.ref b] ∧ s.IntsAt b xs ∧ xs.length ≤ 5632 ∧ (Jvm.Cond.and given_1 narrow_1).before args s = true
def lw_Q (_ : Array Value) (s : State) (o : Outcome) (t : State) : Prop := o = .returned (some (.int 1)) ∧ Framed s o t [] 600000 7302250
def lw_Z (below : List Frame) (a : Array Value) (s : State) : State → Prop := fun t => ∃ o, t.status = .running ∧ Ended t below o ∧ lw_Q a s o t
/-- the law's own end, with 1 on the stack, nothing written that was there before, its room as the claim has it -/
theorem lw_ret {p : Program} {l : Launch} {e : Env} {s : State} {m : MethodId} {below : List Frame} {meth : Method} {c : Code} {b : Nat} (hx : p.tables.exec = Jvm.exec) (hb : c.code = code) (hr : meth.sig.returnType = ret) (hlocks : meth.locks = false) {pc : Nat} {H : Heap} {ls : Array Slot} (hdg : decode code pc = .ok (.ireturn, 1)) : W p l e room_1 s m #[Value.ref b] below meth c H [] 600000 7302250 (lw_Z below #[Value.ref b] s) (F0 m pc ls [.int 1]) := by
  intro T hT X
  obtain ⟨fs, hret, hrun, hended, hW, hframe⟩ := X.leave (v := some (.int 1)) (hlocks := hlocks) (fun h => by rw [hr] at h; cases h)
  have hmeth' : T.vm.method? m = some meth := X.method'
  refine ⟨T.setFrames fs, ?_, .returned (some (.int 1)), hrun, hended, rfl, ⟨_, rfl⟩, hW, hframe⟩
  jvm_step X.here [X.here.top, hx, hb, hdg, hmeth', hr, ret, narrow_b1]
  (try refine ⟨rfl, ?_⟩); (try refine ⟨rfl, ?_⟩)
  first | (intro acts; rw [hret _ acts rfl rfl rfl]) | rw [hret _ _ rfl rfl rfl]
  exact Steps.refl _
/-- what holds at the law's entry: the machine, the code, the tables' words (any of lw_tbl by 'hts w (by decide +kernel)'), the script of L ints xs at the cell b, what the Statement gives of the start (any of its parts by flat_of_before) -/
def lw_At (p : Program) (s : State) (m : MethodId) (meth : Method) (c : Code) (b L : Nat) (xs : Nat → Int32) : Prop :=
  p.tables.exec = Jvm.exec ∧ c.code = code ∧ meth.sig.returnType = ret ∧ c.maxLocals = 4 ∧ s.vm.findClass R_law = some m.cls ∧ (∀ w ∈ lw_tbl, w.before #[Value.ref b] s = true) ∧ va_X b L xs s s.heap ∧ b < s.heap.size ∧ meth.locks = false ∧ (Jvm.Cond.and given_1 narrow_1).before #[Value.ref b] s = true
/-! ===== a simple step, over any room and any end ===== -/
section ZSw
variable {p : Program} {l : Launch} {e : Env} {R : Room} {s : State} {m : MethodId} {args : Array Value} {below : List Frame} {meth : Method} {c : Code} {H : Heap} {locs : List Loc} {cells slots : Nat} {Q : State → Prop}
variable {cc : ByteArray} {pc nx nL : Nat} {L L' st st' : List Value} {i : Instr} {a : Value} {ad : Nat → Nat} {ls : Array Slot}
theorem zS_w (hx : p.tables.exec = Jvm.exec) (hb : c.code = cc) (hL : zL ad ls nL L) (hd : decode cc pc = .ok (i, zlen i)) (hc : zch2 pc i nx a = true) (h : zS i a L st = some (L', st')) (K : ∀ (ls : Array Slot), zL ad ls nL L' → W p l e R s m args below meth c H locs cells slots Q (F0 m nx ls (st'.map (zv ad)))) : W p l e R s m args below meth c H locs cells slots Q (F0 m pc ls (st.map (zv ad))) := by
  have hn : L.length = nL := hL.1
  cases i with
  | iconst n =>
    cases h
    simp only [zch2, Bool.and_eq_true, decide_eq_true_eq] at hc
    obtain ⟨rfl, hc⟩ := hc
    cases a with
    | int v => exact lv_iconst hx hb hd (by simpa using hc) (K ls hL)
    | _ => cases hc
  | bipush n =>
    cases h
    simp only [zch2, Bool.and_eq_true, decide_eq_true_eq] at hc
    obtain ⟨rfl, hc⟩ := hc
    cases a with
    | int v => exact lv_bipush hx hb hd (by simpa using hc) (K ls hL)
    | _ => cases hc
  | sipush n =>
    cases h
    simp only [zch2, Bool.and_eq_true, decide_eq_true_eq] at hc
    obtain ⟨rfl, hc⟩ := hc
    cases a with
    | int v => exact lv_sipush hx hb hd (by simpa using hc) (K ls hL)
    | _ => cases hc
  | lconst n =>
    cases h
    simp only [zch2, Bool.and_eq_true, decide_eq_true_eq] at hc
    obtain ⟨rfl, hc⟩ := hc
    cases a with
    | long v => exact lv_lconst hx hb hd (by simpa using hc) (K ls hL)
    | _ => cases hc
  | iload n =>
    obtain ⟨x, h1, rfl, rfl⟩ := zLi_inv h
    have hc : nx = pc + 2 := of_decide_eq_true hc
    subst hc
    exact lv_iload hx hb hd (hL.at h1 (zint_ne x)) (K ls hL)
  | iload_n n =>
    obtain ⟨x, h1, rfl, rfl⟩ := zLi_inv h
    have hc : nx = pc + 1 := of_decide_eq_true hc
    subst hc
    exact lv_iload_n hx hb hd rfl (hL.at h1 (zint_ne x)) (K ls hL)
  | lload n =>
    obtain ⟨x, h1, rfl, rfl⟩ := zLl_inv h
    have hc : nx = pc + 2 := of_decide_eq_true hc
    subst hc
    exact lv_lload hx hb hd (hL.at h1 (zlong_ne x)) (K ls hL)
  | lload_n n =>
    obtain ⟨x, h1, rfl, rfl⟩ := zLl_inv h
    have hc : nx = pc + 1 := of_decide_eq_true hc
    subst hc
    exact lv_lload_n hx hb hd rfl (hL.at h1 (zlong_ne x)) (K ls hL)
  | aload n =>
    obtain ⟨x, h1, rfl, rfl⟩ := zLr_inv h
    have hc : nx = pc + 2 := of_decide_eq_true hc
    subst hc
    exact lv_aload hx hb hd (hL.at h1 (zref_ne x)) (K ls hL)
  | aload_n n =>
    obtain ⟨x, h1, rfl, rfl⟩ := zLr_inv h
    have hc : nx = pc + 1 := of_decide_eq_true hc
    subst hc
    exact lv_aload_n hx hb hd rfl (hL.at h1 (zref_ne x)) (K ls hL)
  | istore n =>
    obtain ⟨x, r, rfl, h1, rfl, rfl⟩ := zSi_inv h
    have hc : nx = pc + 2 := of_decide_eq_true hc
    subst hc
    exact lv_istore hx hb hd hL.2 (by omega) rfl (fun ls' h' => K ls' (zL.st1 hn h'))
  | istore_n n =>
    obtain ⟨x, r, rfl, h1, rfl, rfl⟩ := zSi_inv h
    have hc : nx = pc + 1 := of_decide_eq_true hc
    subst hc
    exact lv_istore_n hx hb hd rfl hL.2 (by omega) rfl (fun ls' h' => K ls' (zL.st1 hn h'))
  | lstore n =>
    obtain ⟨x, r, rfl, h1, rfl, rfl⟩ := zSl_inv h
    have hc : nx = pc + 2 := of_decide_eq_true hc
    subst hc
    exact lv_lstore hx hb hd hL.2 (by omega) rfl (fun ls' h' => K ls' (zL.st2 hn h'))
  | lstore_n n =>
    obtain ⟨x, r, rfl, h1, rfl, rfl⟩ := zSl_inv h
    have hc : nx = pc + 1 := of_decide_eq_true hc
    subst hc
    exact lv_lstore_n hx hb hd rfl hL.2 (by omega) rfl (fun ls' h' => K ls' (zL.st2 hn h'))
  | astore_n n =>
    obtain ⟨x, r, rfl, h1, rfl, rfl⟩ := zSr_inv h
    have hc : nx = pc + 1 := of_decide_eq_true hc
    subst hc
    exact lv_astore_n hx hb hd rfl hL.2 (by omega) rfl (fun ls' h' => K ls' (zL.st1 (v := .ref x) hn h'))
  | astore n =>
    obtain ⟨x, r, rfl, h1, rfl, rfl⟩ := zSr_inv h
    have hc : nx = pc + 2 := of_decide_eq_true hc
    subst hc
    exact lv_astore hx hb hd hL.2 (by omega) rfl (fun ls' h' => K ls' (zL.st1 (v := .ref x) hn h'))
  | iadd =>
    obtain ⟨x, y, r, rfl, rfl, rfl⟩ := zo_iadd_inv h
    have hc : nx = pc + 1 := of_decide_eq_true hc
    subst hc
    exact lv_iadd hx hb hd (K ls hL)
  | isub =>
    obtain ⟨x, y, r, rfl, rfl, rfl⟩ := zo_isub_inv h
    have hc : nx = pc + 1 := of_decide_eq_true hc
    subst hc
    exact lv_isub hx hb hd (K ls hL)
  | imul =>
    obtain ⟨x, y, r, rfl, rfl, rfl⟩ := zo_imul_inv h
    have hc : nx = pc + 1 := of_decide_eq_true hc
    subst hc
    exact lv_imul hx hb hd (K ls hL)
  | iand =>
    obtain ⟨x, y, r, rfl, rfl, rfl⟩ := zo_iand_inv h
    have hc : nx = pc + 1 := of_decide_eq_true hc
    subst hc
    exact lv_iand hx hb hd (K ls hL)
  | ior =>
    obtain ⟨x, y, r, rfl, rfl, rfl⟩ := zo_ior_inv h
    have hc : nx = pc + 1 := of_decide_eq_true hc
    subst hc
    exact lv_ior hx hb hd (K ls hL)
  | ishl =>
    obtain ⟨x, y, r, rfl, rfl, rfl⟩ := zo_ishl_inv h
    have hc : nx = pc + 1 := of_decide_eq_true hc
    subst hc
    exact lv_ishl hx hb hd (K ls hL)
  | ishr =>
    obtain ⟨x, y, r, rfl, rfl, rfl⟩ := zo_ishr_inv h
    have hc : nx = pc + 1 := of_decide_eq_true hc
    subst hc
    exact lv_ishr hx hb hd (K ls hL)
  | ineg =>
    obtain ⟨x, r, rfl, rfl, rfl⟩ := zo_ineg_inv h
    have hc : nx = pc + 1 := of_decide_eq_true hc
    subst hc
    exact lv_ineg hx hb hd (K ls hL)
  | i2l =>
    obtain ⟨x, r, rfl, rfl, rfl⟩ := zo_i2l_inv h
    have hc : nx = pc + 1 := of_decide_eq_true hc
    subst hc
    exact lv_i2l hx hb hd rfl (K ls hL)
  | l2i =>
    obtain ⟨x, r, rfl, rfl, rfl⟩ := zo_l2i_inv h
    have hc : nx = pc + 1 := of_decide_eq_true hc
    subst hc
    exact lv_l2i hx hb hd rfl (K ls hL)
  | lneg =>
    obtain ⟨x, r, rfl, rfl, rfl⟩ := zo_lneg_inv h
    have hc : nx = pc + 1 := of_decide_eq_true hc
    subst hc
    exact lv_lneg hx hb hd (K ls hL)
  | ladd =>
    obtain ⟨x, y, r, rfl, rfl, rfl⟩ := zo_ladd_inv h
    have hc : nx = pc + 1 := of_decide_eq_true hc
    subst hc
    exact lv_ladd hx hb hd (K ls hL)
  | lsub =>
    obtain ⟨x, y, r, rfl, rfl, rfl⟩ := zo_lsub_inv h
    have hc : nx = pc + 1 := of_decide_eq_true hc
    subst hc
    exact lv_lsub hx hb hd (K ls hL)
  | lmul =>
    obtain ⟨x, y, r, rfl, rfl, rfl⟩ := zo_lmul_inv h
    have hc : nx = pc + 1 := of_decide_eq_true hc
    subst hc
    exact lv_lmul hx hb hd (K ls hL)
  | land =>
    obtain ⟨x, y, r, rfl, rfl, rfl⟩ := zo_land_inv h
    have hc : nx = pc + 1 := of_decide_eq_true hc
    subst hc
    exact lv_land hx hb hd (K ls hL)
  | lor =>
    obtain ⟨x, y, r, rfl, rfl, rfl⟩ := zo_lor_inv h
    have hc : nx = pc + 1 := of_decide_eq_true hc
    subst hc
    exact lv_lor hx hb hd (K ls hL)
  | lshl =>
    obtain ⟨x, y, r, rfl, rfl, rfl⟩ := zsh_inv h
    have hc : nx = pc + 1 := of_decide_eq_true hc
    subst hc
    exact lv_lshl hx hb hd rfl (K ls hL)
  | dup =>
    obtain ⟨v, r, rfl, h1, rfl, rfl⟩ := zdu_inv h
    have hc : nx = pc + 1 := of_decide_eq_true hc
    subst hc
    exact lv_dup hx hb hd (by rw [zv_cat]; exact h1) (K ls hL)
  | dup2 =>
    obtain ⟨u, v, r, rfl, h1, h2, rfl, rfl⟩ := zd2_inv h
    have hc : nx = pc + 1 := of_decide_eq_true hc
    subst hc
    exact lv_dup2_11 hx hb hd (by rw [zv_cat]; exact h1) (by rw [zv_cat]; exact h2) (K ls hL)
  | iinc n z =>
    obtain ⟨x, v, h1, rfl, rfl, rfl⟩ := zin_inv h
    simp only [zch2, Bool.and_eq_true, decide_eq_true_eq] at hc
    obtain ⟨rfl, hc⟩ := hc
    obtain ⟨q, hq⟩ := List.getElem?_of_mem (mem_zpr.mpr ⟨_, h1, zint_ne x, rfl⟩ : (n, zv ad (.int x)) ∈ zpr ad L)
    have hl : n < L.length := (List.getElem?_eq_some_iff.mp h1).1
    exact lv_iinc hx hb hd hL.2 hq (by rw [hc]) (by omega) rfl (fun ls' h' => K ls' (zL.st1 hn h'))
  | goto off =>
    cases h
    have hc : (pc : Int) + off = (nx : Int) := of_decide_eq_true hc
    exact lv_goto hx hb hd hc (K ls hL)
  | _ => cases h
end ZSw
/-! ===== the law's walk ===== -/
abbrev mL : zM := (x, code, 4, ret)
def zYc (E : zE) (p : Program) (s : State) (m : MethodId) (meth : Method) (c : Code) (b L : Nat) (xs : Nat → Int32) : Prop :=
  p.tables.exec = Jvm.exec ∧ c.code = code ∧ meth.sig.returnType = ret ∧ c.maxLocals = 4 ∧ s.vm.findClass RL = some m.cls ∧ (∀ w ∈ zB, w.before #[Value.ref b] s = true) ∧ va_X b L xs s s.heap ∧ b < s.heap.size ∧ meth.locks = false ∧ zI E.2.2.1 ∧ (∀ k, k < 61 → s.heap.size ≤ E.2.2.1 k) ∧ zK E s ∧ E.2.2.1 61 = b
def zY (E : zE) (p : Program) (e : Env) (s : State) (m : MethodId) (below : List Frame) (meth : Method) (c : Code) (b : Nat) (pc : Nat) (Lc st : List Value) (w : zWd) : Prop :=
  ∀ (H : Heap) (locs : List Loc) (ls : Array Slot), va_P E.2.1 zCl (zW E.2.2.1 E.2.2.2 w) H → va_S (fun q => s.heap.size ≤ q) s.heap H locs → zL E.2.2.1 ls 4 Lc →
    W p E.1 e room_1 s m #[Value.ref b] below meth c H locs 61 94820 (lw_Z below #[Value.ref b] s) (F0 m pc ls (st.map (zv E.2.2.1)))
section ZYr
variable {E : zE} {p : Program} {e : Env} {s : State} {m : MethodId} {below : List Frame} {meth : Method} {c : Code} {b L : Nat} {xs : Nat → Int32} {pc nx : Nat} {Lc st : List Value} {w : zWd} {T : zTb} {aux : Value}
theorem zY.run (C : zYc E p s m meth c b L xs) (hT : zTab mL T) : ∀ (n : Nat) {pc pc' : Nat} {Lc Lc' st st' : List Value}, zR T n pc Lc st = some (pc', Lc', st') → zY E p e s m below meth c b pc' Lc' st' w → zY E p e s m below meth c b pc Lc st w
  | 0, pc, pc', Lc, Lc', st, st', h, k => by cases h; exact k
  | n + 1, pc, pc', Lc, Lc', st, st', h, k => by
    unfold zR at h
    split at h
    next i nx a hl =>
      split at h
      next L1 st1 hs =>
        obtain ⟨h1, h2⟩ := zTab.dec hT hl
        have k1 := zY.run C hT n h k
        intro H locs ls hP hS hL
        exact zS_w C.1 C.2.1 hL h1 h2 hs (fun ls hL => k1 H locs ls hP hS hL)
      next => cases h
    next => cases h
theorem zY.ld (C : zYc E p s m meth c b L xs) (hT : zTab mL T) (hl : T.lookup pc = some (.iaload, nx, aux)) (hL31 : L < 2 ^ 31) {i : Int32} (j : Nat) (hi : i = nI j) (hj : j < L) (k : zY E p e s m below meth c b nx Lc (.int (xs j) :: st) w) : zY E p e s m below meth c b pc Lc (.int i :: .ref 61 :: st) w := by
  intro H locs ls hP hS hL
  have K := k H locs ls hP hS hL
  obtain ⟨hx, hb, -, -, -, -, hX, hbl, -, -, -, -, e61⟩ := C
  obtain ⟨h1, h2⟩ := zTab.dec hT hl
  have h2 : nx = pc + 1 := of_decide_eq_true h2
  subst h2
  subst hi
  have cl : (nI j).toNatClampNeg = j := nI_clamp (Nat.lt_trans hj hL31)
  show W p E.1 e room_1 s m #[Value.ref b] below meth c H locs 61 94820 _ (F0 m pc ls (.int (nI j) :: .ref (E.2.2.1 61) :: st.map (zv E.2.2.1)))
  rw [e61]
  refine va_sld hx hb hX hbl (show ¬ s.heap.size ≤ b by omega) hS (vp_in_nI hj hL31) h1 ?_
  rw [cl]
  exact K
theorem zY.len (C : zYc E p s m meth c b L xs) (hT : zTab mL T) (hl : T.lookup pc = some (.arraylength, nx, aux)) (k : zY E p e s m below meth c b nx Lc (.int (nI L) :: st) w) : zY E p e s m below meth c b pc Lc (.ref 61 :: st) w := by
  intro H locs ls hP hS hL
  have K := k H locs ls hP hS hL
  obtain ⟨hx, hb, -, -, -, -, hX, hbl, -, -, -, -, e61⟩ := C
  obtain ⟨h1, h2⟩ := zTab.dec hT hl
  have h2 : nx = pc + 1 := of_decide_eq_true h2
  subst h2
  show W p E.1 e room_1 s m #[Value.ref b] below meth c H locs 61 94820 _ (F0 m pc ls (.ref (E.2.2.1 61) :: st.map (zv E.2.2.1)))
  rw [e61]
  exact va_slen hx hb hX hbl (show ¬ s.heap.size ≤ b by omega) hS h1 K
theorem zY.ldc2 (C : zYc E p s m meth c b L xs) (hT : zTab mL T) {idx : Nat} (hl : T.lookup pc = some (.ldc2_w idx, nx, aux)) {v : Int64} (hc : Cond.constantLong RL idx v ∈ zB) (k : zY E p e s m below meth c b nx Lc (.long v :: st) w) : zY E p e s m below meth c b pc Lc st w := by
  intro H locs ls hP hS hL
  have K := k H locs ls hP hS hL
  obtain ⟨hx, hb, -, -, ho, hw, -⟩ := C
  obtain ⟨h1, h2⟩ := zTab.dec hT hl
  have h2 : nx = pc + 3 := of_decide_eq_true h2
  subst h2
  exact lv_ldc2 hx hb ho (hw _ hc) h1 K
theorem zY.ic (C : zYc E p s m meth c b L xs) (hT : zTab mL T) {cd : Jvm.ClassFile.Cond} {off : Int} {tgt : Nat} (hl : T.lookup pc = some (.if_icmp cd off, nx, .retAddr tgt)) {x y : Int32} (kt : zIc cd x y → zY E p e s m below meth c b tgt Lc st w) (kf : ¬ zIc cd x y → zY E p e s m below meth c b nx Lc st w) : zY E p e s m below meth c b pc Lc (.int y :: .int x :: st) w := by
  intro H locs ls hP hS hL
  have K1 := fun h => kt h H locs ls hP hS hL
  have K2 := fun h => kf h H locs ls hP hS hL
  obtain ⟨hx, hb, -⟩ := C
  obtain ⟨h1, h2⟩ := zTab.dec hT hl
  simp only [zch2, Bool.and_eq_true, decide_eq_true_eq] at h2
  obtain ⟨rfl, h2⟩ := h2
  cases cd
  · exact lv_icmp_eq hx hb h1 h2 K1 K2
  · exact lv_icmp_ne hx hb h1 h2 K1 (fun e9 => K2 (fun h9 => h9 e9))
  · exact lv_icmp_lt hx hb h1 h2 K1 K2
  · exact lv_icmp_ge hx hb h1 h2 K1 K2
  · exact lv_icmp_gt hx hb h1 h2 K1 K2
  · exact lv_icmp_le hx hb h1 h2 K1 K2
theorem zY.lc (C : zYc E p s m meth c b L xs) (hT : zTab mL T) (hl : T.lookup pc = some (.lcmp, nx, aux)) {off : Int} {n2 tgt : Nat} (hl2 : T.lookup nx = some (.ifCond .eq off, n2, .retAddr tgt)) {x : Int64} (k : zY E p e s m below meth c b tgt Lc st w) : zY E p e s m below meth c b pc Lc (.long x :: .long x :: st) w := by
  intro H locs ls hP hS hL
  have K := k H locs ls hP hS hL
  obtain ⟨hx, hb, -⟩ := C
  obtain ⟨h1, h2⟩ := zTab.dec hT hl
  have h2 : nx = pc + 1 := of_decide_eq_true h2
  subst h2
  obtain ⟨g1, g2⟩ := zTab.dec hT hl2
  simp only [zch2, Bool.and_eq_true, decide_eq_true_eq] at g2
  refine W.lcmp hx hb h1 ?_
  exact lv_if_eq hx hb g1 g2.2 (fun _ => K) (fun z => absurd ((lg_cmp_eq x x).mpr rfl) z)
theorem zgoodL {N : zM} {n : Nat} (h : zCm N n) : GoodIn zB (zws N) := by
  intro w hw
  have h1 : w ∈ zB := by
    rcases List.mem_cons.mp hw with e | e
    · rw [e]; exact h.2.1
    · exact e
  exact ⟨h1, good_of_word (zB_good w h1)⟩
theorem zY.cv (C : zYc E p s m meth c b L xs) (hT : zTab mL T) {idx n d' : Nat} {N : zM} (hl : T.lookup pc = some (.invokevirtual idx, nx, aux)) (hC : zCv RL idx N n) {a : Nat} {As stk : List Value} {Q : Option Value → zWd → Prop} (hok : zOk E N d' (.ref a :: As) w Q) (hd : d' ≤ 6) (hn : As.length = n) {ci : Nat} {fs : List Value} {q : vw_C} (ha : zIs w a (.inr (ci, fs))) (hc : zCl[ci]? = some q) (hq : q.1 = N.1.cls) (hs : stk = As.reverse ++ .ref a :: st) (hw8 : (st.map fun v => v.category).sum ≤ 8) (kk : ∀ r w', Q r w' → zY E p e s m below meth c b nx Lc (r.toList ++ st) w') : zY E p e s m below meth c b pc Lc stk w := by
  intro H locs ls hP hS hL
  have K := fun r w' H locs hQ hP hS => kk r w' hQ H locs ls hP hS hL
  obtain ⟨hx, hb, -, hml, ho, hw, -, -, -, hI, hAd, hK, -⟩ := C
  have hM := hok hI
  obtain ⟨h1, h2⟩ := zTab.dec hT hl
  have h2 : nx = pc + 3 := of_decide_eq_true h2
  subst h2
  subst hs
  obtain ⟨c1, c2, c3, c4, c5, c6, c7⟩ := hC
  have hroom : (zRm d').frames + 1 ≤ room_1.frames ∧ 8 + (N.2.2.1 + 11) + (zRm d').locals ≤ room_1.locals := ⟨by show d' + 1 ≤ 9; omega, by show 8 + (N.2.2.1 + 11) + 42 * d' ≤ 384; omega⟩
  have run := va_runV (cells := 61) (slots := 94820) (C := N.1.cls) (As := As.map (zv E.2.2.1)) (b := E.2.2.1 a) (n := n) (rest := st.map (zv E.2.2.1)) (Ts := zB) (R := room_1) (below := below) (meth := meth) (e := e) (locs := locs) (g := F0 m pc ls ((As.reverse ++ .ref a :: st).map (zv E.2.2.1))) ⟨hx, hb, hml, ho, hw⟩ hM ⟨callB_of n hw (zgoodL ⟨c4, c5, c6, c7⟩) rfl rfl rfl (hw _ c4) (hw _ c1) c6 hroom, hw _ c2, hw _ c3⟩ ⟨zP_blind, by rw [← hq]; exact va_recv hK.1 hP hc (zW_at ha), fun U hU hW => zP_of (av := .ref a :: As) hP hK hU hW⟩ rfl (by rw [List.length_map]; exact hn) hL.2.1 (by simp [F0, List.map_append, List.map_reverse, zv]) (lv_room (by rw [zsum]; exact hw8)) h1 ⟨by decide, by decide⟩
  intro T hT X
  obtain ⟨v, st₀, t, T', L9, h0, X', hL9, e1, e2, ⟨⟨r, w', hv, hp, hb9⟩, hz, hk⟩, stp⟩ := run T hT X
  cases hv
  rw [h0] at hz hk
  have hsub : ∀ q, zA E.2.2.1 q → s.heap.size ≤ q := fun q ⟨k, hk1, hk2⟩ => by rw [hk2]; exact hAd k hk1
  obtain ⟨t2, a1, b1⟩ := K r w' T'.heap (locs ++ L9) hp (by rw [e1]; exact hb9)
    ⟨Nat.le_trans hS.1 (by rw [e1]; exact hz), fun q h1 h2 => by rw [e1, hk q (Nat.lt_of_lt_of_le h1 hS.1) (fun z => h2 (hsub q z))]; exact hS.2.1 q h1 h2, fun q hq => by
      rcases List.mem_append.mp hq with h | h
      · exact hS.2.2 q h
      · exact hsub _ (hL9 q h)⟩ T' rfl X'
  refine ⟨t2, stp t2 ?_, b1⟩
  have e9 : (r.toList ++ st).map (zv E.2.2.1) = (r.map (zv E.2.2.1)).toList ++ st.map (zv E.2.2.1) := by cases r <;> simp
  rw [e9] at a1
  exact a1
end ZYr
