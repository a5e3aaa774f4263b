/-! ===== new T[n][m], by hand over the machine ===== -/
/-- what 'arrayOver' says of an array type -/
theorem mn_over {args : Array Value} {s : State} {ty : FieldType} (h : (Cond.arrayOver (.array ty)).before args s = true) :
    ∃ comp c k, s.vm.findClass (FieldType.array ty).toString = some comp ∧ (s.vm.classes.findIdx? fun x => match x.kind with | .array component _ => component == comp | _ => false) = some c ∧ s.vm.classes[c]? = some k ∧ k.kind = .array comp (.array ty) ∧ s.vm.findClass ("[" ++ (FieldType.array ty).toString) = some c := by
  simp only [Cond.before, Cond.holds, Cond.value, beq_iff_eq] at h
  obtain ⟨comp, hc, h⟩ := Option.bind_eq_some_iff.mp h
  obtain ⟨c, hi, h⟩ := Option.bind_eq_some_iff.mp h
  obtain ⟨k, hk, hb⟩ := Option.map_eq_some_iff.mp h
  refine ⟨comp, c, k, hc, hi, hk, ?_⟩
  obtain ⟨hlt, hp, -⟩ := Array.findIdx?_eq_some_iff_getElem.mp hi
  have hkk : s.vm.classes[c] = k := (Array.getElem?_eq_some_iff.mp hk).2
  rw [hkk] at hp
  revert hb hp
  cases k.kind with
  | array component t =>
    intro hb hp
    have hb := Bool.and_eq_true_iff.mp hb
    have e1 : component = comp := by simpa using hp
    have e2 : t = .array ty := by simpa using hb.1
    exact ⟨by rw [e1, e2], by simpa using hb.2⟩
  | _ => intro hb hp; cases hb
theorem mn_alike {a a' : Array Value} {u U : State} {ty : FieldType} (hal : u.vm.Alike U.vm) (h : (Cond.arrayOver (.array ty)).before a u = true) : (Cond.arrayOver (.array ty)).before a' U = true := by
  obtain ⟨comp, c, k, h1, h2, h3, h4, h5⟩ := mn_over h
  obtain ⟨k', hk', ek⟩ := hal.2.2 _ _ h3
  have e1 : U.vm.findClass (FieldType.array ty).toString = some comp := by rw [hal.findClass]; exact h1
  have e2 : (U.vm.classes.findIdx? fun x => match x.kind with | .array component _ => component == comp | _ => false) = some c := by
    rw [hal.findIdx?_eqK _ (fun _ => rfl)]
    exact h2
  have e4 : k'.kind = .array comp (.array ty) := by rw [ek]; exact h4
  have e5 : U.vm.findClass ("[" ++ (FieldType.array ty).toString) = some c := by rw [hal.findClass]; exact h5
  simp only [Cond.before, Cond.holds, Cond.value, beq_iff_eq]
  refine Option.bind_eq_some_iff.mpr ⟨comp, e1, Option.bind_eq_some_iff.mpr ⟨c, e2, Option.map_eq_some_iff.mpr ⟨k', hk', ?_⟩⟩⟩
  rw [e4]
  simp [e5]
/-- the outer array, when its first i rows stand behind it -/
def mn_o (cA N h0 i : Nat) : Cell := arrV cA N (fun j => va_rf (if j < i then some (h0 + 1 + j) else none))
theorem mn_o_next (cA N h0 i : Nat) : (mn_o cA N h0 i).setSlot i (.ref (h0 + 1 + i)) = mn_o cA N h0 (i + 1) := by
  unfold mn_o
  rw [arrV_store]
  refine congrArg (arrV cA N) (funext fun j => ?_)
  unfold updV
  by_cases e : j = i
  · rw [if_pos e, e, if_pos (Nat.lt_succ_self i)]
    rfl
  · rw [if_neg e]
    show va_rf (if j < i then some (h0 + 1 + j) else none) = _
    by_cases h : j < i
    · rw [if_pos h, if_pos (Nat.lt_succ_of_lt h)]
    · rw [if_neg h, if_neg (by omega)]
theorem mn_o_0 (cA N h0 : Nat) : mn_o cA N h0 0 = { cls := cA, slots := Array.replicate N .null, vm := .none } := by
  rw [arrV_new]
  refine congrArg (arrV cA N) (funext fun j => ?_)
  rw [if_neg (Nat.not_lt_zero j)]
  rfl
/-- the state, when the outer array and i of its rows have been made -/
def mn_s (T : State) (cA cy N K : Nat) (v : Value) : Nat → State
  | 0 => T.pushCell (mn_o cA N T.heap.size 0)
  | i + 1 => ((mn_s T cA cy N K v i).pushCell (arrV cy K (fun _ => v))).setCell T.heap.size (mn_o cA N T.heap.size (i + 1))
theorem mn_vm (T : State) (cA cy N K : Nat) (v : Value) : ∀ i, (mn_s T cA cy N K v i).vm = T.vm
  | 0 => rfl
  | i + 1 => mn_vm T cA cy N K v i
theorem mn_top (T : State) (cA cy N K : Nat) (v : Value) : ∀ i, (mn_s T cA cy N K v i).topJava? = T.topJava?
  | 0 => rfl
  | i + 1 => mn_top T cA cy N K v i
theorem mn_used (T : State) (cA cy N K : Nat) (v : Value) : ∀ i, (mn_s T cA cy N K v i).slotsUsed = T.slotsUsed + N + i * K
  | 0 => by
    show T.slotsUsed + (mn_o cA N T.heap.size 0).slots.size = _
    rw [mn_o, arrV_size]
    omega
  | i + 1 => by
    show (mn_s T cA cy N K v i).slotsUsed + (arrV cy K (fun _ => v)).slots.size = _
    rw [mn_used T cA cy N K v i, arrV_size, Nat.succ_mul]
    omega
theorem mn_heap (T : State) (cA cy N K : Nat) (v : Value) : ∀ i, (mn_s T cA cy N K v i).heap.size = T.heap.size + 1 + i ∧ (mn_s T cA cy N K v i).heap[T.heap.size]? = some (mn_o cA N T.heap.size i) ∧ (∀ j, j < i → (mn_s T cA cy N K v i).heap[T.heap.size + 1 + j]? = some (arrV cy K (fun _ => v))) ∧ (∀ x, x < T.heap.size → (mn_s T cA cy N K v i).heap[x]? = T.heap[x]?)
  | 0 => by
    have e : (mn_s T cA cy N K v 0).heap = T.heap.push (mn_o cA N T.heap.size 0) := rfl
    rw [e]
    refine ⟨by rw [Array.size_push], by rw [Array.getElem?_push_size], fun j h => absurd h (Nat.not_lt_zero _), fun x h => ?_⟩
    rw [Array.getElem?_push, if_neg (Nat.ne_of_lt h)]
  | i + 1 => by
    obtain ⟨h1, h2, h3, h4⟩ := mn_heap T cA cy N K v i
    have e : (mn_s T cA cy N K v (i + 1)).heap = ((mn_s T cA cy N K v i).heap.push (arrV cy K (fun _ => v))).setIfInBounds T.heap.size (mn_o cA N T.heap.size (i + 1)) := rfl
    rw [e]
    refine ⟨by rw [Array.size_setIfInBounds, Array.size_push, h1]; omega, ?_, fun j hj => ?_, fun x hx => ?_⟩
    · rw [Array.getElem?_setIfInBounds, if_pos rfl, if_pos (by rw [Array.size_push, h1]; omega)]
    · rw [Array.getElem?_setIfInBounds, if_neg (by omega), Array.getElem?_push, h1]
      by_cases q : j = i
      · rw [if_pos (by omega)]
      · rw [if_neg (by omega)]
        exact h3 j (by omega)
    · rw [Array.getElem?_setIfInBounds, if_neg (by omega), Array.getElem?_push, h1, if_neg (by omega)]
      exact h4 x hx
section MN
variable {E : CtlPost} {e : Env} {d : Bool} {acts : List Action}
/-- one row -/
theorem mn_row {Q : Addr → Pre} {S : State} {cy cc : ClassId} {kC : Class} {ty : FieldType} {k : Int32} (hkC : S.vm.classes[cy]? = some kC) (hC : kC.kind = .array cc ty) (hk : ¬ k < 0) (hl : ¬ k.toNatClampNeg > e.platform.arrayLengthLimit) (hh : ¬ k.toNatClampNeg * componentBytes ty > e.platform.maxHeapBytes)
    (hc : S.heap.size < e.platform.maxCells) (hsl : S.slotsUsed + k.toNatClampNeg ≤ e.platform.maxSlots) (hdf : fits ty (defaultValue ty) = true) (hq : ∀ acts', Q S.heap.size d acts' (S.pushCell (arrV cy k.toNatClampNeg (fun _ => defaultValue ty)))) :
    wp (Jvm.Op.multianewarray.make cy [k]) Q E e d acts S := by
  rw [Jvm.Op.multianewarray.make]
  simp only [wp_bind', W.ite, hk, if_false, wp_pure', W.theClass, hkC, Option.some.injEq, exists_eq_left', hC]
  refine W.newArray_of hkC hC hl hh hc hsl hdf (fun acts' => ?_)
  have h := hq acts'
  rw [← arrV_new] at h
  exact h
/-- the outer array and its rows -/
theorem mn_make {Q : Addr → Pre} {T : State} {f : JFrame} {cA cy cc : ClassId} {kA kC : Class} {ty : FieldType} {n k : Int32} (hkA : T.vm.classes[cA]? = some kA) (hA : kA.kind = .array cy (.array ty)) (hkC : T.vm.classes[cy]? = some kC) (hC : kC.kind = .array cc ty) (hn : ¬ n < 0) (hk : ¬ k < 0)
    (hl1 : ¬ n.toNatClampNeg > e.platform.arrayLengthLimit) (hh1 : ¬ n.toNatClampNeg * 4 > e.platform.maxHeapBytes) (hl2 : ¬ k.toNatClampNeg > e.platform.arrayLengthLimit) (hh2 : ¬ k.toNatClampNeg * componentBytes ty > e.platform.maxHeapBytes) (hdf : fits ty (defaultValue ty) = true)
    (hcells : T.heap.size + (1 + n.toNatClampNeg) ≤ e.platform.maxCells) (hslots : T.slotsUsed + (n.toNatClampNeg + n.toNatClampNeg * k.toNatClampNeg) ≤ e.platform.maxSlots)
    (hq : ∀ d' acts', Q T.heap.size d' acts' ((mn_s T cA cy n.toNatClampNeg k.toNatClampNeg (defaultValue ty) n.toNatClampNeg).setTop f)) :
    wp (Jvm.Op.multianewarray.make cA [n, k]) Q E e d acts (T.setTop f) := by
  rw [Jvm.Op.multianewarray.make]
  simp only [wp_bind', W.ite, hn, if_false, wp_pure', W.theClass, State.vm_setTop, hkA, Option.some.injEq, exists_eq_left', hA]
  refine W.newArray_of (s := T.setTop f) hkA hA hl1 hh1 (by show T.heap.size < _; omega) (by show T.slotsUsed + _ ≤ _; omega) rfl (fun acts1 => ?_)
  have hf : List.find? (fun x => decide (x < 0)) [k] = none := by simp [hk]
  have hst : (T.setTop f).pushCell { cls := cA, slots := Array.replicate n.toNatClampNeg .null } = (mn_s T cA cy n.toNatClampNeg k.toNatClampNeg (defaultValue ty) 0).setTop f := by
    show (T.pushCell _).setTop f = (T.pushCell (mn_o cA n.toNatClampNeg T.heap.size 0)).setTop f
    rw [mn_o_0]
  rw [hst]
  simp only [hf, ite_self, wp_bind', wp_pure', State.heap_setTop]
  rw [Std.Legacy.Range.forIn_eq_forIn_range']
  generalize hN : n.toNatClampNeg = N at *
  generalize hK : k.toNatClampNeg = K at *
  refine wp_forIn_inv (fun rest S => ∃ i, i ≤ N ∧ rest = List.range' i (N - i) ∧ S = (mn_s T cA cy N K (defaultValue ty) i).setTop f) _ _ ⟨0, Nat.zero_le _, by simp, rfl⟩ (fun x rest S d' acts' Q' hI hy => ?_) (fun S d' acts' hI => ?_)
  · obtain ⟨i, hi, hr, rfl⟩ := hI
    obtain ⟨j, hj⟩ : ∃ j, N - i = j + 1 := by
      cases h : N - i with
      | zero => rw [h] at hr; cases hr
      | succ j => exact ⟨j, rfl⟩
    rw [hj, List.range'_succ] at hr
    obtain ⟨e1, e2⟩ := List.cons.inj hr
    have e3 := e1.symm
    subst e3
    subst e2
    obtain ⟨h1, h2, h3, h4⟩ := mn_heap T cA cy N K (defaultValue ty) i
    have hu := mn_used T cA cy N K (defaultValue ty) i
    have hv := mn_vm T cA cy N K (defaultValue ty) i
    have hb : i * K + K ≤ N * K := by rw [← Nat.succ_mul]; exact Nat.mul_le_mul_right K (by omega)
    simp only [wp_bind', wp_pure']
    refine mn_row (S := (mn_s T cA cy N K (defaultValue ty) i).setTop f) (kC := kC) (cc := cc) (ty := ty) (by show (mn_s T cA cy N K (defaultValue ty) i).vm.classes[cy]? = _; rw [hv]; exact hkC) hC hk (by rw [hK]; exact hl2) (by rw [hK]; exact hh2) (by show (mn_s T cA cy N K (defaultValue ty) i).heap.size < _; omega) (by show (mn_s T cA cy N K (defaultValue ty) i).slotsUsed + _ ≤ _; omega) hdf (fun acts2 => ?_)
    rw [hK]
    simp only [wp_bind', wp_pure', W.writeLoc]
    refine ⟨mn_o cA N T.heap.size i, ?_, ?_, ?_, ?_, ?_⟩
    · show ((mn_s T cA cy N K (defaultValue ty) i).heap.push _)[T.heap.size]? = _
      rw [Array.getElem?_push, if_neg (by omega)]
      exact h2
    · intro h; cases h
    · rw [mn_o, arrV_size]; omega
    · show (mn_s T cA cy N K (defaultValue ty) i).fitsSlot cA .none i _ = true
      simp [State.fitsSlot, State.slotType?, hv, hkA, hA, fits]
    · refine hy _ _ _ ⟨i + 1, by omega, by rw [show N - (i + 1) = j by omega], ?_⟩
      have e : ((mn_s T cA cy N K (defaultValue ty) i).setTop f).heap.size = T.heap.size + 1 + i := h1
      rw [e, mn_o_next]
      rfl
  · obtain ⟨i, hi, hr, rfl⟩ := hI
    have hz : N - i = 0 := by
      cases h : N - i with
      | zero => rfl
      | succ j => rw [h, List.range'_succ] at hr; cases hr
    rw [show i = N by omega]
    exact hq _ _
theorem mn_sem {Q : Unit → Pre} {T : State} {f : JFrame} {index : Nat} {cA cy cc : ClassId} {kA kC : Class} {ty : FieldType} {n k : Int32} {rest : List Value} (hs : T.topJava?.isSome) (hr : T.vm.classReady f.method.cls index cA) (hkA : T.vm.classes[cA]? = some kA) (hA : kA.kind = .array cy (.array ty)) (hkC : T.vm.classes[cy]? = some kC) (hC : kC.kind = .array cc ty)
    (hstack : f.stack = .int k :: .int n :: rest) (hn : ¬ n < 0) (hk : ¬ k < 0) (hl1 : ¬ n.toNatClampNeg > e.platform.arrayLengthLimit) (hh1 : ¬ n.toNatClampNeg * 4 > e.platform.maxHeapBytes) (hl2 : ¬ k.toNatClampNeg > e.platform.arrayLengthLimit) (hh2 : ¬ k.toNatClampNeg * componentBytes ty > e.platform.maxHeapBytes) (hdf : fits ty (defaultValue ty) = true)
    (hcells : T.heap.size + (1 + n.toNatClampNeg) ≤ e.platform.maxCells) (hslots : T.slotsUsed + (n.toNatClampNeg + n.toNatClampNeg * k.toNatClampNeg) ≤ e.platform.maxSlots)
    (hq : ∀ d' acts', Q () d' acts' ((mn_s T cA cy n.toNatClampNeg k.toNatClampNeg (defaultValue ty) n.toNatClampNeg).setTop { f with stack := .ref T.heap.size :: rest })) :
    wp (Jvm.Op.multianewarray.sem index 2) Q E e d acts (T.setTop f) := by
  simp only [Jvm.Op.multianewarray.sem, wp_bind', W.resolveClassAt_ready (State.method?_setTop f hs) hr, Jvm.popN, W.pop, State.topJava?_setTop' _ hs, Option.some.injEq, exists_eq_left', hstack, List.cons.injEq, exists_cons_eq, State.setTop_setTop, wp_pure', List.nil_append, List.cons_append, List.mapM_cons, List.mapM_nil, W.mark, W.pushRef]
  refine mn_make (f := { f with stack := rest }) hkA hA hkC hC hn hk hl1 hh1 hl2 hh2 hdf hcells hslots (fun d' acts' => ?_)
  refine ⟨{ f with stack := rest }, State.topJava?_setTop' _ (by rw [mn_top]; exact hs), ?_⟩
  rw [State.setTop_setTop]
  exact hq _ _
theorem mn_cold {Q : Unit → Pre} {T : State} {f : JFrame} {index ca : Nat} {vm' : Vm} (hs : T.topJava?.isSome) (hg : (Jvm.resolveClass f.method.cls index).Gives e.toSetting T.vm (.ok ca) vm') (hr : vm'.classReady f.method.cls index ca) (hsz : vm'.classes.size ≤ T.vm.classes.size) :
    wp (Jvm.Op.multianewarray.sem index 2) Q E e d acts (T.setTop f) ↔ wp (Jvm.Op.multianewarray.sem index 2) Q E e d acts ((T.setVm vm').setTop f) := by
  simp only [Jvm.Op.multianewarray.sem, wp_bind']
  exact W.resolveClassAt_transfer (s := T.setTop f) (State.method?_setTop f hs) hg hr hsz
end MN
section MNS
variable {p : Program} {l : Launch} {e : Env} {R : Room} {s : State} {m : MethodId} {args : Array Value} {below : List Frame} {meth : Method} {c : Code} {T : State} {locs : List Loc} {cells slots : Nat}
theorem mn_stand (X : Stand p l e R s m args below meth c T locs cells slots) (cA cy N K : Nat) (v : Value) : ∀ i, Stand p l e R s m args below meth c (mn_s T cA cy N K v i) locs (cells + 1 + i) (slots + N + i * K)
  | 0 => by
    have h := X.pushed (mn_o cA N T.heap.size 0)
    have e1 : (mn_o cA N T.heap.size 0).slots.size = N := by rw [mn_o, arrV_size]
    rw [e1] at h
    rw [Nat.zero_mul]
    exact h
  | i + 1 => by
    have h0 := mn_stand X cA cy N K v i
    obtain ⟨h1, h2, -, -⟩ := mn_heap T cA cy N K v i
    have hcell : ((mn_s T cA cy N K v i).pushCell (arrV cy K (fun _ => v))).heap[T.heap.size]? = some (mn_o cA N T.heap.size i) := by
      show ((mn_s T cA cy N K v i).heap.push _)[T.heap.size]? = _
      rw [Array.getElem?_push, if_neg (by omega)]
      exact h2
    have h := (h0.pushed (arrV cy K (fun _ => v))).stored hcell i (.ref (T.heap.size + 1 + i))
    rw [mn_o_next, arrV_size] at h
    have hsz : s.heap.size ≤ T.heap.size := X.same.2.1
    refine ⟨h.admits, h.cas, h.clock, h.frames, h.room, h.hears, h.method, h.code, h.here, h.tail, h.warmed, h.limits, h.bytes, h.same.weaken (fun x hx hb => ?_) (by omega) (by rw [Nat.succ_mul]; omega)⟩
    rcases List.mem_append.mp hx with q | q
    · exact q
    · cases List.mem_singleton.mp q
      exact absurd hb (by show ¬ T.heap.size < s.heap.size; omega)
/-- **new T[n][m]**: the outer array at the heap's end, its rows behind it -/
theorem mn_step (X : Stand p l e R s m args below meth c T locs cells slots) (hexec : p.tables.exec = Jvm.exec) {own : String} {index : Nat} {ty : FieldType} (hown : s.vm.findClass own = some m.cls) (hclink : (Cond.classLink own index ("[" ++ (FieldType.array ty).toString)).before args s = true) (hover : (Cond.arrayOver (.array ty)).before args s = true) (harr : (Cond.arrayClass ty).before args s = true)
    {g : JFrame} (hg : g.method = m) (hdg : decode c.code g.pc = .ok (.multianewarray index 2, 4)) {n k : Int32} {rest : List Value} (hstack : g.stack = .int k :: .int n :: rest) (hn : ¬ n < 0) (hk : ¬ k < 0) {N K : Nat} (hN : n.toNatClampNeg = N) (hK : k.toNatClampNeg = K)
    (hb1 : N * 4 ≤ 536870912) (hb2 : K * componentBytes ty ≤ 536870912) (hb3 : K ≤ 536870912) (hdf : fits ty (defaultValue ty) = true) (hcells : cells + (1 + N) ≤ R.cells) (hslots : slots + (N + N * K) ≤ R.slots) :
    ∃ (F : State) (cA comp : ClassId), s.vm.findClass ("[" ++ (FieldType.array ty).toString) = some cA ∧ s.vm.findClass (FieldType.array ty).toString = some comp ∧ ArrOfT s cA (.array ty) ∧
      F.heap.size = T.heap.size + 1 + N ∧ F.heap[T.heap.size]? = some (mn_o cA N T.heap.size N) ∧ (∀ j, j < N → F.heap[T.heap.size + 1 + j]? = some (arrV comp K (fun _ => defaultValue ty))) ∧ (∀ x, x < T.heap.size → F.heap[x]? = T.heap[x]?) ∧
      Stand p l e R s m args below meth c F locs (cells + 1 + N) (slots + N + N * K) ∧
      ∀ target, Steps p.tables e below (F.setTop { g with pc := g.pc + 4, stack := .ref T.heap.size :: rest }) target → Steps p.tables e below (T.setTop g) target := by
  subst hg hN hK
  have hpl : e.platform.magicAccessors = ({} : Platform).magicAccessors := by rw [X.admits.platform]
  obtain ⟨comp, cA, kA, hcomp, -, hkA, hkindA, hnameA⟩ := mn_over hover
  obtain ⟨comp', kC, cc, hcomp', hkC, hkindC⟩ := Cond.arrayClass_spec harr
  have ec : comp' = comp := Option.some.inj (hcomp'.symm.trans hcomp)
  subst ec
  obtain ⟨cB, hfB, hcl⟩ := Cond.classLink_spec hown hclink e.platform hpl
  cases hnameA.symm.trans hfB
  obtain ⟨hg1, hwarm, hready⟩ := State.classEntry (e := e) X.warmed hcl
  generalize T.vm.noted g.method.cls index (.cls cA) = vm1 at hg1 hwarm hready
  have hal : s.vm.Alike vm1 := hwarm.alike
  obtain ⟨kA1, hkA1, heA⟩ := hal.2.2 _ _ hkA
  obtain ⟨kC1, hkC1, heC⟩ := hal.2.2 _ _ hkC
  have hkindA1 : kA1.kind = .array comp' (.array ty) := by rw [heA]; exact hkindA
  have hkindC1 : kC1.kind = .array cc ty := by rw [heC]; exact hkindC
  obtain ⟨hr1, hr2⟩ := X.roomAbove hcells hslots
  have hlim : e.platform.arrayLengthLimit = _ := Launch.admits_arrayLengthLimit X.admits
  have hmax : e.platform.maxHeapBytes = _ := Launch.admits_maxHeapBytes X.admits
  obtain ⟨h1, h2, h3, h4⟩ := mn_heap (T.setVm vm1) cA comp' n.toNatClampNeg k.toNatClampNeg (defaultValue ty) n.toNatClampNeg
  refine ⟨mn_s (T.setVm vm1) cA comp' n.toNatClampNeg k.toNatClampNeg (defaultValue ty) n.toNatClampNeg, cA, comp', hnameA, hcomp, fun N9 z9 => ⟨(fun q hq => by cases hq), kA, hkA, comp', hkindA⟩, h1, h2, h3, h4, mn_stand (X.noted hwarm) _ _ _ _ _ _, fun target hrest => ?_⟩
  refine Steps.instr (c := c) (by simpa using X.here) ?_
  simp only [hdg, hexec, Jvm.exec, wpRun]
  refine (mn_cold (f := g) X.here.top hg1 hready (by no_record)).mpr (mn_sem (T := T.setVm vm1) (rest := rest) X.here.top hready hkA1 hkindA1 hkC1 hkindC1 hstack hn hk (by rw [hlim]; omega) (by rw [hmax]; omega) (by rw [hlim]; omega) (by rw [hmax]; omega) hdf hr1 hr2 (fun d' acts' acts2 => ?_))
  rw [afterInstr_ok]
  exact hrest
end MNS
/-! ===== the same, over the cells that a walk keeps ===== -/
/-- the outer array at q, its rows at r 0, r 1 .. -/
def mn_w (q : Nat) (r : Nat → Nat) (cA cy N : Nat) (z : vp_A) : va_W := (q, .inl (cA, N, .inr (.inr (.inr (.inr (fun i => if i < N then some (r i) else none)))))) :: (List.range N).map (fun i => (r i, .inl (cy, z)))
theorem mn_w_at {h cA cy N : Nat} {z : vp_A} {k : Nat} {x : Nat × va_E} (hx : (mn_w h (fun i => h + 1 + i) cA cy N z)[k]? = some x) : x.1 = h + k ∧ (k = 0 ∧ x.2 = .inl (cA, N, .inr (.inr (.inr (.inr (fun i => if i < N then some (h + 1 + i) else none))))) ∨ ∃ j, j < N ∧ k = j + 1 ∧ x.2 = .inl (cy, z)) := by
  unfold mn_w at hx
  cases k with
  | zero =>
    rw [List.getElem?_cons_zero] at hx
    cases hx
    exact ⟨rfl, .inl ⟨rfl, rfl⟩⟩
  | succ j =>
    rw [List.getElem?_cons_succ, List.getElem?_map] at hx
    by_cases hj : j < N
    · rw [List.getElem?_range hj] at hx
      cases hx
      exact ⟨by show h + 1 + j = h + (j + 1); omega, .inr ⟨j, hj, rfl, rfl⟩⟩
    · rw [List.getElem?_eq_none (by rw [List.length_range]; omega)] at hx
      cases hx
section MNW
variable {p : Program} {l : Launch} {e : Env} {R : Room} {s : State} {m : MethodId} {args : Array Value} {below : List Frame} {meth : Method} {c : Code} {H : Heap} {locs : List Loc} {cells slots : Nat} {Q : State → Prop}
variable {cc : ByteArray} {pc : Nat} {ls : Array Slot} {rest : List Value} {D : va_G} {cl : List vw_C} {A : Nat → Prop} {ws : va_W} {H0 : Heap}
theorem mn_W (hexec : p.tables.exec = Jvm.exec) (hb : c.code = cc) {own : String} {index : Nat} {ty : FieldType} (hown : s.vm.findClass own = some m.cls) (hclink : (Cond.classLink own index ("[" ++ (FieldType.array ty).toString)).before args s = true) (hover : (Cond.arrayOver (.array ty)).before args s = true) (harr : (Cond.arrayClass ty).before args s = true)
    {cA cy : ClassId} (hcA : s.vm.findClass ("[" ++ (FieldType.array ty).toString) = some cA) (hcy : s.vm.findClass (FieldType.array ty).toString = some cy) (hP : va_P D cl ws H) (hD : va_D A ws) (hS : va_S A H0 H locs) (hA : ∀ q, H0.size ≤ q → A q)
    {n k : Int32} {N K : Nat} {z : vp_A} (hn : ¬ n < 0) (hk : ¬ k < 0) (hN : n.toNatClampNeg = N) (hK : k.toNatClampNeg = K) (hb1 : N * 4 ≤ 536870912) (hb2 : K * componentBytes ty ≤ 536870912) (hb3 : K ≤ 536870912) (hdf : fits ty (defaultValue ty) = true) (hcells : cells + (1 + N) ≤ R.cells) (hslots : slots + (N + N * K) ≤ R.slots)
    (hz : vp_cell cy z = arrV cy K (fun _ => defaultValue ty)) (hdg : decode cc pc = .ok (.multianewarray index 2, 4))
    (kk : ∀ (q : Nat) (r : Nat → Nat) (H1 : Heap), va_P D cl (ws ++ mn_w q r cA cy N z) H1 → va_D A (ws ++ mn_w q r cA cy N z) → va_S A H0 H1 locs → W p l e R s m args below meth c H1 locs (cells + 1 + N) (slots + N + N * K) Q (F0 m (pc + 4) ls (.ref q :: rest))) :
    W p l e R s m args below meth c H locs cells slots Q (F0 m pc ls (.int k :: .int n :: rest)) := by
  intro T hT X
  obtain ⟨F, cA', cy', gA, gC, -, f1, f2, f3, f4, X', step⟩ := mn_step X hexec hown hclink hover harr (g := F0 m pc ls (.int k :: .int n :: rest)) rfl (by rw [hb]; exact hdg) rfl hn hk hN hK hb1 hb2 hb3 hdf hcells hslots
  cases gA.symm.trans hcA
  cases gC.symm.trans hcy
  rw [hT] at f1 f2 f3 f4
  have hlt : ∀ (i : Nat) (x : Nat × va_E), ws[i]? = some x → x.1 < H.size := fun i x hx => (hP i x hx).lt
  have hP1 : va_P D cl (ws ++ mn_w H.size (fun i => H.size + 1 + i) cA cy N z) F.heap := (hP.kept (fun i x hx => f4 x.1 (hlt i x hx))).app (fun i x hx => by
    obtain ⟨a1, a2⟩ := mn_w_at hx
    obtain ⟨xa, xe⟩ := x
    have a1 : xa = H.size + i := a1
    subst a1
    rcases a2 with ⟨h0, he⟩ | ⟨j, hj, h0, he⟩
    · have he : xe = _ := he
      subst he h0
      show F.heap[H.size + 0]? = some (vp_cell _ _)
      rw [vp_cell_q]
      exact f2
    · have he : xe = _ := he
      subst he h0
      show F.heap[H.size + (j + 1)]? = some (vp_cell _ _)
      rw [hz, show H.size + (j + 1) = H.size + 1 + j by omega]
      exact f3 j hj)
  have hD1 : va_D A (ws ++ mn_w H.size (fun i => H.size + 1 + i) cA cy N z) := by
    refine ⟨fun i j x y hi hj hxy => ?_, fun i x hx => ?_⟩
    · by_cases h1 : i < ws.length <;> by_cases h2 : j < ws.length
      · rw [List.getElem?_append_left h1] at hi
        rw [List.getElem?_append_left h2] at hj
        exact hD.1 i j x y hi hj hxy
      · rw [List.getElem?_append_left h1] at hi
        rw [List.getElem?_append_right (by omega)] at hj
        have := hlt _ _ hi
        have := (mn_w_at hj).1
        omega
      · rw [List.getElem?_append_right (by omega)] at hi
        rw [List.getElem?_append_left h2] at hj
        have := hlt _ _ hj
        have := (mn_w_at hi).1
        omega
      · rw [List.getElem?_append_right (by omega)] at hi hj
        have := (mn_w_at hi).1
        have := (mn_w_at hj).1
        omega
    · by_cases h1 : i < ws.length
      · rw [List.getElem?_append_left h1] at hx
        exact hD.2 i x hx
      · rw [List.getElem?_append_right (by omega)] at hx
        have := (mn_w_at hx).1
        exact hA _ (by have := hS.1; omega)
  have hS1 : va_S A H0 F.heap locs := ⟨by rw [f1]; have := hS.1; omega, fun x h1 h2 => (f4 x (Nat.lt_of_lt_of_le h1 hS.1)).trans (hS.2.1 x h1 h2), hS.2.2⟩
  obtain ⟨t, b1, b2⟩ := kk H.size (fun i => H.size + 1 + i) F.heap hP1 hD1 hS1 F rfl X'
  refine ⟨t, step t ?_, b2⟩
  rw [hT]
  exact b1
end MNW
