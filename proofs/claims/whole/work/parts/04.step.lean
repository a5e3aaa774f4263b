/-! ===== one step of simple instructions, computed; runs of them ===== -/
def zlen (i : Instr) : Nat := match i with
  | .bipush _ | .iload _ | .lload _ | .aload _ | .istore _ | .lstore _ | .astore _ | .ldc _ | .newarray _ => 2
  | .sipush _ | .ldc2_w _ | .getfield _ | .putfield _ | .invokevirtual _ | .invokestatic _ | .invokespecial _ | .if_icmp _ _ | .ifCond _ _ | .goto _ | .iinc _ _ | .new _ | .anewarray _ => 3
  | .multianewarray _ _ => 4
  | _ => 1
def zch2 (pc : Nat) (i : Instr) (nx : Nat) (a : Value) : Bool := match i with
  | .goto off => decide ((pc : Int) + off = (nx : Int))
  | .ifCond _ off => decide (nx = pc + 3) && (match a with | .retAddr t => decide ((pc : Int) + off = (t : Int)) | _ => false)
  | .if_icmp _ off => decide (nx = pc + 3) && (match a with | .retAddr t => decide ((pc : Int) + off = (t : Int)) | _ => false)
  | .iconst n => decide (nx = pc + 1) && (match a with | .int v => decide (Int32.ofInt n = v) | _ => false)
  | .bipush n => decide (nx = pc + 2) && (match a with | .int v => decide ((Int8.ofInt n).toInt32 = v) | _ => false)
  | .sipush n => decide (nx = pc + 3) && (match a with | .int v => decide ((Int16.ofInt n).toInt32 = v) | _ => false)
  | .lconst n => decide (nx = pc + 1) && (match a with | .long v => decide (Int64.ofNat (n : Nat) = v) | _ => false)
  | .iinc _ n => decide (nx = pc + 3) && (match a with | .int v => decide (Int32.ofInt n = v) | _ => false)
  | i => decide (nx = pc + zlen i)
abbrev zchk (M : zM) (e : Nat × Instr × Nat × Value) : Prop := decode M.2.1 e.1 = .ok (e.2.1, zlen e.2.1) ∧ zch2 e.1 e.2.1 e.2.2.1 e.2.2.2 = true
def zTab (M : zM) (T : zTb) : Prop := ∀ e ∈ T, zchk M e
theorem zlk {pc : Nat} {b : Instr × Nat × Value} : ∀ {T : zTb}, T.lookup pc = some b → (pc, b) ∈ T
  | [], h => by cases h
  | (k, x) :: T, h => by
    rw [List.lookup_cons] at h
    by_cases e : pc == k
    · simp only [e] at h
      cases h
      rw [eq_of_beq e]
      exact List.mem_cons_self
    · simp only [Bool.not_eq_true] at e
      simp only [e] at h
      exact List.mem_cons_of_mem _ (zlk h)
theorem zTab.dec {M : zM} {T : zTb} (hT : zTab M T) {pc nx : Nat} {i : Instr} {a : Value} (h : T.lookup pc = some (i, nx, a)) : decode M.2.1 pc = .ok (i, zlen i) ∧ zch2 pc i nx a = true := by
  have h1 : zchk M (pc, i, nx, a) := hT (pc, i, nx, a) (zlk h)
  exact h1
def zkc : Value → Value
  | .long _ => zU
  | .double _ => zU
  | v => v
def zf1 : List Value → Nat → Value → List Value
  | [], _, _ => []
  | _ :: l, 0, v => v :: l
  | a :: l, i + 1, v => (match i with | 0 => zkc a | _ => a) :: zf1 l i v
def zf2 : List Value → Nat → Value → List Value
  | [], _, _ => []
  | _ :: l, 0, v => v :: (match l with | [] => [] | _ :: t => zU :: t)
  | a :: l, i + 1, v => (match i with | 0 => zkc a | _ => a) :: zf2 l i v
theorem zkl_1 (a : Value) (l : List Value) : zkl (a :: l) 1 = zkc a :: l := by
  show (if ((a :: l).getD 0 zU).category = 2 then (a :: l).set 0 zU else a :: l) = _
  cases a <;> rfl
theorem zkl_2 (a : Value) (l : List Value) (i : Nat) : zkl (a :: l) (i + 2) = a :: zkl l (i + 1) := by
  show (if ((a :: l).getD (i + 1) zU).category = 2 then (a :: l).set (i + 1) zU else a :: l) = a :: (if (l.getD i zU).category = 2 then l.set i zU else l)
  have e : (a :: l).getD (i + 1) zU = l.getD i zU := rfl
  rw [e]
  split <;> rfl
theorem zf1_eq : ∀ (L : List Value) (i : Nat) (v : Value), zf1 L i v = zst1 L i v
  | [], 0, v => rfl
  | [], i + 1, v => by
    show [] = (zkl [] (i + 1)).set (i + 1) v
    have e : (zkl ([] : List Value) (i + 1)).length = 0 := zkl_len _ _
    rw [List.eq_nil_of_length_eq_zero e]
    rfl
  | a :: l, 0, v => rfl
  | a :: l, 1, v => by
    show zkc a :: zf1 l 0 v = (zkl (a :: l) 1).set 1 v
    rw [zkl_1, zf1_eq l 0 v]
    rfl
  | a :: l, i + 2, v => by
    show a :: zf1 l (i + 1) v = (zkl (a :: l) (i + 2)).set (i + 2) v
    rw [zkl_2, zf1_eq l (i + 1) v]
    rfl
theorem zf2_eq : ∀ (L : List Value) (i : Nat) (v : Value), zf2 L i v = zst2 L i v
  | [], 0, v => rfl
  | [], i + 1, v => by
    show [] = ((zkl [] (i + 1)).set (i + 1) v).set (i + 2) zU
    have e : (zkl ([] : List Value) (i + 1)).length = 0 := zkl_len _ _
    rw [List.eq_nil_of_length_eq_zero e]
    rfl
  | [a], 0, v => rfl
  | a :: b :: l, 0, v => rfl
  | a :: l, 1, v => by
    show zkc a :: zf2 l 0 v = ((zkl (a :: l) 1).set 1 v).set 2 zU
    rw [zkl_1, zf2_eq l 0 v]
    rfl
  | a :: l, i + 2, v => by
    show a :: zf2 l (i + 1) v = ((zkl (a :: l) (i + 2)).set (i + 2) v).set (i + 3) zU
    rw [zkl_2, zf2_eq l (i + 1) v]
    rfl
def zLi (L st : List Value) (k : Nat) : Option (List Value × List Value) := match L[k]? with
  | some (.int x) => some (L, .int x :: st)
  | _ => none
def zLl (L st : List Value) (k : Nat) : Option (List Value × List Value) := match L[k]? with
  | some (.long x) => some (L, .long x :: st)
  | _ => none
def zLr (L st : List Value) (k : Nat) : Option (List Value × List Value) := match L[k]? with
  | some (.ref x) => some (L, .ref x :: st)
  | _ => none
def zSi (L st : List Value) (k : Nat) : Option (List Value × List Value) := match st with
  | .int x :: r => if k < L.length then some (zf1 L k (.int x), r) else none
  | _ => none
def zSr (L st : List Value) (k : Nat) : Option (List Value × List Value) := match st with
  | .ref x :: r => if k < L.length then some (zf1 L k (.ref x), r) else none
  | _ => none
def zSl (L st : List Value) (k : Nat) : Option (List Value × List Value) := match st with
  | .long x :: r => if k + 1 < L.length then some (zf2 L k (.long x), r) else none
  | _ => none
def zo_iadd (L st : List Value) : Option (List Value × List Value) := match st with
  | .int y :: .int x :: r => some (L, .int (x + y) :: r)
  | _ => none
def zo_isub (L st : List Value) : Option (List Value × List Value) := match st with
  | .int y :: .int x :: r => some (L, .int (x - y) :: r)
  | _ => none
def zo_imul (L st : List Value) : Option (List Value × List Value) := match st with
  | .int y :: .int x :: r => some (L, .int (x * y) :: r)
  | _ => none
def zo_iand (L st : List Value) : Option (List Value × List Value) := match st with
  | .int y :: .int x :: r => some (L, .int (x &&& y) :: r)
  | _ => none
def zo_ior (L st : List Value) : Option (List Value × List Value) := match st with
  | .int y :: .int x :: r => some (L, .int (x ||| y) :: r)
  | _ => none
def zo_ishl (L st : List Value) : Option (List Value × List Value) := match st with
  | .int y :: .int x :: r => some (L, .int (x <<< (y &&& 31)) :: r)
  | _ => none
def zo_ishr (L st : List Value) : Option (List Value × List Value) := match st with
  | .int y :: .int x :: r => some (L, .int (x >>> (y &&& 31)) :: r)
  | _ => none
def zo_ladd (L st : List Value) : Option (List Value × List Value) := match st with
  | .long y :: .long x :: r => some (L, .long (x + y) :: r)
  | _ => none
def zo_lsub (L st : List Value) : Option (List Value × List Value) := match st with
  | .long y :: .long x :: r => some (L, .long (x - y) :: r)
  | _ => none
def zo_lmul (L st : List Value) : Option (List Value × List Value) := match st with
  | .long y :: .long x :: r => some (L, .long (x * y) :: r)
  | _ => none
def zo_land (L st : List Value) : Option (List Value × List Value) := match st with
  | .long y :: .long x :: r => some (L, .long (x &&& y) :: r)
  | _ => none
def zo_lor (L st : List Value) : Option (List Value × List Value) := match st with
  | .long y :: .long x :: r => some (L, .long (x ||| y) :: r)
  | _ => none
def zo_ineg (L st : List Value) : Option (List Value × List Value) := match st with
  | .int x :: r => some (L, .int (-x) :: r)
  | _ => none
def zo_i2l (L st : List Value) : Option (List Value × List Value) := match st with
  | .int x :: r => some (L, .long x.toInt64 :: r)
  | _ => none
def zo_l2i (L st : List Value) : Option (List Value × List Value) := match st with
  | .long x :: r => some (L, .int x.toInt32 :: r)
  | _ => none
def zo_lneg (L st : List Value) : Option (List Value × List Value) := match st with
  | .long x :: r => some (L, .long (-x) :: r)
  | _ => none
def zsh (L st : List Value) : Option (List Value × List Value) := match st with
  | .int y :: .long x :: r => some (L, .long (x <<< (y.toInt64 &&& 63)) :: r)
  | _ => none
def zdu (L st : List Value) : Option (List Value × List Value) := match st with
  | .int x :: r => some (L, .int x :: .int x :: r)
  | .ref x :: r => some (L, .ref x :: .ref x :: r)
  | _ => none
def zd2 (L st : List Value) : Option (List Value × List Value) := match st with
  | .int y :: .ref x :: r => some (L, .int y :: .ref x :: .int y :: .ref x :: r)
  | .int y :: .int x :: r => some (L, .int y :: .int x :: .int y :: .int x :: r)
  | _ => none
def zin (L st : List Value) (k : Nat) (a : Value) : Option (List Value × List Value) := match L[k]?, a with
  | some (.int x), .int v => some (zf1 L k (.int (x + v)), st)
  | _, _ => none
def zS (i : Instr) (a : Value) (L st : List Value) : Option (List Value × List Value) := match i with
  | .iconst _ => some (L, a :: st)
  | .bipush _ => some (L, a :: st)
  | .sipush _ => some (L, a :: st)
  | .lconst _ => some (L, a :: st)
  | .iload k => zLi L st k
  | .iload_n k => zLi L st k.val
  | .lload k => zLl L st k
  | .lload_n k => zLl L st k.val
  | .aload k => zLr L st k
  | .aload_n k => zLr L st k.val
  | .istore k => zSi L st k
  | .istore_n k => zSi L st k.val
  | .lstore k => zSl L st k
  | .lstore_n k => zSl L st k.val
  | .astore_n k => zSr L st k.val
  | .astore k => zSr L st k
  | .iadd => zo_iadd L st
  | .isub => zo_isub L st
  | .imul => zo_imul L st
  | .iand => zo_iand L st
  | .ior => zo_ior L st
  | .ishl => zo_ishl L st
  | .ishr => zo_ishr L st
  | .ineg => zo_ineg L st
  | .i2l => zo_i2l L st
  | .l2i => zo_l2i L st
  | .lneg => zo_lneg L st
  | .ladd => zo_ladd L st
  | .lsub => zo_lsub L st
  | .lmul => zo_lmul L st
  | .land => zo_land L st
  | .lor => zo_lor L st
  | .lshl => zsh L st
  | .dup => zdu L st
  | .dup2 => zd2 L st
  | .iinc k _ => zin L st k a
  | .goto _ => some (L, st)
  | _ => none
section ZS
variable {E : zE} {M : zM} {d : Nat} {Post : Option Value → zWd → Prop} {pc nx : Nat} {L L' st st' : List Value} {w : zWd} {i : Instr} {a : Value} {k : Nat}
theorem zLi_inv (h : zLi L st k = some (L', st')) : ∃ x, L[k]? = some (.int x) ∧ L' = L ∧ st' = .int x :: st := by
  unfold zLi at h
  split at h
  next x hx => cases h; exact ⟨x, hx, rfl, rfl⟩
  next => cases h
theorem zLl_inv (h : zLl L st k = some (L', st')) : ∃ x, L[k]? = some (.long x) ∧ L' = L ∧ st' = .long x :: st := by
  unfold zLl at h
  split at h
  next x hx => cases h; exact ⟨x, hx, rfl, rfl⟩
  next => cases h
theorem zLr_inv (h : zLr L st k = some (L', st')) : ∃ x, L[k]? = some (.ref x) ∧ L' = L ∧ st' = .ref x :: st := by
  unfold zLr at h
  split at h
  next x hx => cases h; exact ⟨x, hx, rfl, rfl⟩
  next => cases h
theorem zSi_inv (h : zSi L st k = some (L', st')) : ∃ x r, st = .int x :: r ∧ k < L.length ∧ L' = zst1 L k (.int x) ∧ st' = r := by
  unfold zSi at h
  split at h
  next x r => split at h
              next hk => cases h; exact ⟨x, _, rfl, hk, zf1_eq _ _ _, rfl⟩
              next => cases h
  next => cases h
theorem zSr_inv (h : zSr L st k = some (L', st')) : ∃ x r, st = .ref x :: r ∧ k < L.length ∧ L' = zst1 L k (.ref x) ∧ st' = r := by
  unfold zSr at h
  split at h
  next x r => split at h
              next hk => cases h; exact ⟨x, _, rfl, hk, zf1_eq _ _ _, rfl⟩
              next => cases h
  next => cases h
theorem zSl_inv (h : zSl L st k = some (L', st')) : ∃ x r, st = .long x :: r ∧ k + 1 < L.length ∧ L' = zst2 L k (.long x) ∧ st' = r := by
  unfold zSl at h
  split at h
  next x r => split at h
              next hk => cases h; exact ⟨x, _, rfl, hk, zf2_eq _ _ _, rfl⟩
              next => cases h
  next => cases h
theorem zo_iadd_inv (h : zo_iadd L st = some (L', st')) : ∃ x y r, st = .int y :: .int x :: r ∧ L' = L ∧ st' = .int (x + y) :: r := by
  unfold zo_iadd at h
  split at h
  next y x r => cases h; exact ⟨x, y, r, rfl, rfl, rfl⟩
  next => cases h
theorem zo_isub_inv (h : zo_isub L st = some (L', st')) : ∃ x y r, st = .int y :: .int x :: r ∧ L' = L ∧ st' = .int (x - y) :: r := by
  unfold zo_isub at h
  split at h
  next y x r => cases h; exact ⟨x, y, r, rfl, rfl, rfl⟩
  next => cases h
theorem zo_imul_inv (h : zo_imul L st = some (L', st')) : ∃ x y r, st = .int y :: .int x :: r ∧ L' = L ∧ st' = .int (x * y) :: r := by
  unfold zo_imul at h
  split at h
  next y x r => cases h; exact ⟨x, y, r, rfl, rfl, rfl⟩
  next => cases h
theorem zo_iand_inv (h : zo_iand L st = some (L', st')) : ∃ x y r, st = .int y :: .int x :: r ∧ L' = L ∧ st' = .int (x &&& y) :: r := by
  unfold zo_iand at h
  split at h
  next y x r => cases h; exact ⟨x, y, r, rfl, rfl, rfl⟩
  next => cases h
theorem zo_ior_inv (h : zo_ior L st = some (L', st')) : ∃ x y r, st = .int y :: .int x :: r ∧ L' = L ∧ st' = .int (x ||| y) :: r := by
  unfold zo_ior at h
  split at h
  next y x r => cases h; exact ⟨x, y, r, rfl, rfl, rfl⟩
  next => cases h
theorem zo_ishl_inv (h : zo_ishl L st = some (L', st')) : ∃ x y r, st = .int y :: .int x :: r ∧ L' = L ∧ st' = .int (x <<< (y &&& 31)) :: r := by
  unfold zo_ishl at h
  split at h
  next y x r => cases h; exact ⟨x, y, r, rfl, rfl, rfl⟩
  next => cases h
theorem zo_ishr_inv (h : zo_ishr L st = some (L', st')) : ∃ x y r, st = .int y :: .int x :: r ∧ L' = L ∧ st' = .int (x >>> (y &&& 31)) :: r := by
  unfold zo_ishr at h
  split at h
  next y x r => cases h; exact ⟨x, y, r, rfl, rfl, rfl⟩
  next => cases h
theorem zo_ladd_inv (h : zo_ladd L st = some (L', st')) : ∃ x y r, st = .long y :: .long x :: r ∧ L' = L ∧ st' = .long (x + y) :: r := by
  unfold zo_ladd at h
  split at h
  next y x r => cases h; exact ⟨x, y, r, rfl, rfl, rfl⟩
  next => cases h
theorem zo_lsub_inv (h : zo_lsub L st = some (L', st')) : ∃ x y r, st = .long y :: .long x :: r ∧ L' = L ∧ st' = .long (x - y) :: r := by
  unfold zo_lsub at h
  split at h
  next y x r => cases h; exact ⟨x, y, r, rfl, rfl, rfl⟩
  next => cases h
theorem zo_lmul_inv (h : zo_lmul L st = some (L', st')) : ∃ x y r, st = .long y :: .long x :: r ∧ L' = L ∧ st' = .long (x * y) :: r := by
  unfold zo_lmul at h
  split at h
  next y x r => cases h; exact ⟨x, y, r, rfl, rfl, rfl⟩
  next => cases h
theorem zo_land_inv (h : zo_land L st = some (L', st')) : ∃ x y r, st = .long y :: .long x :: r ∧ L' = L ∧ st' = .long (x &&& y) :: r := by
  unfold zo_land at h
  split at h
  next y x r => cases h; exact ⟨x, y, r, rfl, rfl, rfl⟩
  next => cases h
theorem zo_lor_inv (h : zo_lor L st = some (L', st')) : ∃ x y r, st = .long y :: .long x :: r ∧ L' = L ∧ st' = .long (x ||| y) :: r := by
  unfold zo_lor at h
  split at h
  next y x r => cases h; exact ⟨x, y, r, rfl, rfl, rfl⟩
  next => cases h
theorem zo_ineg_inv (h : zo_ineg L st = some (L', st')) : ∃ x r, st = .int x :: r ∧ L' = L ∧ st' = .int (-x) :: r := by
  unfold zo_ineg at h
  split at h
  next x r => cases h; exact ⟨x, r, rfl, rfl, rfl⟩
  next => cases h
theorem zo_i2l_inv (h : zo_i2l L st = some (L', st')) : ∃ x r, st = .int x :: r ∧ L' = L ∧ st' = .long x.toInt64 :: r := by
  unfold zo_i2l at h
  split at h
  next x r => cases h; exact ⟨x, r, rfl, rfl, rfl⟩
  next => cases h
theorem zo_l2i_inv (h : zo_l2i L st = some (L', st')) : ∃ x r, st = .long x :: r ∧ L' = L ∧ st' = .int x.toInt32 :: r := by
  unfold zo_l2i at h
  split at h
  next x r => cases h; exact ⟨x, r, rfl, rfl, rfl⟩
  next => cases h
theorem zo_lneg_inv (h : zo_lneg L st = some (L', st')) : ∃ x r, st = .long x :: r ∧ L' = L ∧ st' = .long (-x) :: r := by
  unfold zo_lneg at h
  split at h
  next x r => cases h; exact ⟨x, r, rfl, rfl, rfl⟩
  next => cases h
theorem zsh_inv (h : zsh L st = some (L', st')) : ∃ x y r, st = .int y :: .long x :: r ∧ L' = L ∧ st' = .long (x <<< (y.toInt64 &&& 63)) :: r := by
  unfold zsh at h
  split at h
  next y x r => cases h; exact ⟨x, y, r, rfl, rfl, rfl⟩
  next => cases h
theorem zdu_inv (h : zdu L st = some (L', st')) : ∃ v r, st = v :: r ∧ v.category = 1 ∧ L' = L ∧ st' = v :: v :: r := by
  unfold zdu at h
  split at h
  next x r => cases h; exact ⟨_, r, rfl, rfl, rfl, rfl⟩
  next x r => cases h; exact ⟨_, r, rfl, rfl, rfl, rfl⟩
  next => cases h
theorem zd2_inv (h : zd2 L st = some (L', st')) : ∃ u v r, st = u :: v :: r ∧ u.category = 1 ∧ v.category = 1 ∧ L' = L ∧ st' = u :: v :: u :: v :: r := by
  unfold zd2 at h
  split at h
  next x y r => cases h; exact ⟨_, _, r, rfl, rfl, rfl, rfl, rfl⟩
  next x y r => cases h; exact ⟨_, _, r, rfl, rfl, rfl, rfl, rfl⟩
  next => cases h
theorem zin_inv (h : zin L st k a = some (L', st')) : ∃ x v, L[k]? = some (.int x) ∧ a = .int v ∧ L' = zst1 L k (.int (x + v)) ∧ st' = st := by
  unfold zin at h
  split at h
  next x v hx => cases h; exact ⟨x, v, hx, rfl, zf1_eq _ _ _, rfl⟩
  next => cases h
theorem zint_ne (x : Int32) : Value.int x ≠ zU := fun h => by cases h
theorem zlong_ne (x : Int64) : Value.long x ≠ zU := fun h => by cases h
theorem zref_ne (x : Nat) : Value.ref x ≠ zU := fun h => by cases h
/-- one simple step -/
theorem zS_ok (hd : decode M.2.1 pc = .ok (i, zlen i)) (hc : zch2 pc i nx a = true) (h : zS i a L st = some (L', st')) (k : zV E M d Post nx L' st' w) : zV E M d Post pc L st w := by
  intro hI p e s m args below meth c H locs ls X hP hS hL
  have K := fun (ls : Array Slot) (hL : zL E.2.2.1 ls M.2.2.1 L') => k hI p e s m args below meth c H locs ls X hP hS hL
  obtain ⟨hx, hb, -, -, -, -, -, -⟩ := X
  have hn : L.length = M.2.2.1 := hL.1
  cases i with
  | iconst n =>
    cases h
    simp only [zch2, Bool.and_eq_true, decide_eq_true_eq] at hc
    obtain ⟨rfl, hc⟩ := hc
    cases a with
    | int v => exact lv_iconst hx hb hd (by simpa using hc) (K ls hL)
    | _ => cases hc
  | bipush n =>
    cases h
    simp only [zch2, Bool.and_eq_true, decide_eq_true_eq] at hc
    obtain ⟨rfl, hc⟩ := hc
    cases a with
    | int v => exact lv_bipush hx hb hd (by simpa using hc) (K ls hL)
    | _ => cases hc
  | sipush n =>
    cases h
    simp only [zch2, Bool.and_eq_true, decide_eq_true_eq] at hc
    obtain ⟨rfl, hc⟩ := hc
    cases a with
    | int v => exact lv_sipush hx hb hd (by simpa using hc) (K ls hL)
    | _ => cases hc
  | lconst n =>
    cases h
    simp only [zch2, Bool.and_eq_true, decide_eq_true_eq] at hc
    obtain ⟨rfl, hc⟩ := hc
    cases a with
    | long v => exact lv_lconst hx hb hd (by simpa using hc) (K ls hL)
    | _ => cases hc
  | iload n =>
    obtain ⟨x, h1, rfl, rfl⟩ := zLi_inv h
    have hc : nx = pc + 2 := of_decide_eq_true hc
    subst hc
    exact lv_iload hx hb hd (hL.at h1 (zint_ne x)) (K ls hL)
  | iload_n n =>
    obtain ⟨x, h1, rfl, rfl⟩ := zLi_inv h
    have hc : nx = pc + 1 := of_decide_eq_true hc
    subst hc
    exact lv_iload_n hx hb hd rfl (hL.at h1 (zint_ne x)) (K ls hL)
  | lload n =>
    obtain ⟨x, h1, rfl, rfl⟩ := zLl_inv h
    have hc : nx = pc + 2 := of_decide_eq_true hc
    subst hc
    exact lv_lload hx hb hd (hL.at h1 (zlong_ne x)) (K ls hL)
  | lload_n n =>
    obtain ⟨x, h1, rfl, rfl⟩ := zLl_inv h
    have hc : nx = pc + 1 := of_decide_eq_true hc
    subst hc
    exact lv_lload_n hx hb hd rfl (hL.at h1 (zlong_ne x)) (K ls hL)
  | aload n =>
    obtain ⟨x, h1, rfl, rfl⟩ := zLr_inv h
    have hc : nx = pc + 2 := of_decide_eq_true hc
    subst hc
    exact lv_aload hx hb hd (hL.at h1 (zref_ne x)) (K ls hL)
  | aload_n n =>
    obtain ⟨x, h1, rfl, rfl⟩ := zLr_inv h
    have hc : nx = pc + 1 := of_decide_eq_true hc
    subst hc
    exact lv_aload_n hx hb hd rfl (hL.at h1 (zref_ne x)) (K ls hL)
  | istore n =>
    obtain ⟨x, r, rfl, h1, rfl, rfl⟩ := zSi_inv h
    have hc : nx = pc + 2 := of_decide_eq_true hc
    subst hc
    exact lv_istore hx hb hd hL.2 (by omega) rfl (fun ls' h' => K ls' (zL.st1 hn h'))
  | istore_n n =>
    obtain ⟨x, r, rfl, h1, rfl, rfl⟩ := zSi_inv h
    have hc : nx = pc + 1 := of_decide_eq_true hc
    subst hc
    exact lv_istore_n hx hb hd rfl hL.2 (by omega) rfl (fun ls' h' => K ls' (zL.st1 hn h'))
  | lstore n =>
    obtain ⟨x, r, rfl, h1, rfl, rfl⟩ := zSl_inv h
    have hc : nx = pc + 2 := of_decide_eq_true hc
    subst hc
    exact lv_lstore hx hb hd hL.2 (by omega) rfl (fun ls' h' => K ls' (zL.st2 hn h'))
  | lstore_n n =>
    obtain ⟨x, r, rfl, h1, rfl, rfl⟩ := zSl_inv h
    have hc : nx = pc + 1 := of_decide_eq_true hc
    subst hc
    exact lv_lstore_n hx hb hd rfl hL.2 (by omega) rfl (fun ls' h' => K ls' (zL.st2 hn h'))
  | astore_n n =>
    obtain ⟨x, r, rfl, h1, rfl, rfl⟩ := zSr_inv h
    have hc : nx = pc + 1 := of_decide_eq_true hc
    subst hc
    exact lv_astore_n hx hb hd rfl hL.2 (by omega) rfl (fun ls' h' => K ls' (zL.st1 (v := .ref x) hn h'))
  | astore n =>
    obtain ⟨x, r, rfl, h1, rfl, rfl⟩ := zSr_inv h
    have hc : nx = pc + 2 := of_decide_eq_true hc
    subst hc
    exact lv_astore hx hb hd hL.2 (by omega) rfl (fun ls' h' => K ls' (zL.st1 (v := .ref x) hn h'))
  | iadd =>
    obtain ⟨x, y, r, rfl, rfl, rfl⟩ := zo_iadd_inv h
    have hc : nx = pc + 1 := of_decide_eq_true hc
    subst hc
    exact lv_iadd hx hb hd (K ls hL)
  | isub =>
    obtain ⟨x, y, r, rfl, rfl, rfl⟩ := zo_isub_inv h
    have hc : nx = pc + 1 := of_decide_eq_true hc
    subst hc
    exact lv_isub hx hb hd (K ls hL)
  | imul =>
    obtain ⟨x, y, r, rfl, rfl, rfl⟩ := zo_imul_inv h
    have hc : nx = pc + 1 := of_decide_eq_true hc
    subst hc
    exact lv_imul hx hb hd (K ls hL)
  | iand =>
    obtain ⟨x, y, r, rfl, rfl, rfl⟩ := zo_iand_inv h
    have hc : nx = pc + 1 := of_decide_eq_true hc
    subst hc
    exact lv_iand hx hb hd (K ls hL)
  | ior =>
    obtain ⟨x, y, r, rfl, rfl, rfl⟩ := zo_ior_inv h
    have hc : nx = pc + 1 := of_decide_eq_true hc
    subst hc
    exact lv_ior hx hb hd (K ls hL)
  | ishl =>
    obtain ⟨x, y, r, rfl, rfl, rfl⟩ := zo_ishl_inv h
    have hc : nx = pc + 1 := of_decide_eq_true hc
    subst hc
    exact lv_ishl hx hb hd (K ls hL)
  | ishr =>
    obtain ⟨x, y, r, rfl, rfl, rfl⟩ := zo_ishr_inv h
    have hc : nx = pc + 1 := of_decide_eq_true hc
    subst hc
    exact lv_ishr hx hb hd (K ls hL)
  | ineg =>
    obtain ⟨x, r, rfl, rfl, rfl⟩ := zo_ineg_inv h
    have hc : nx = pc + 1 := of_decide_eq_true hc
    subst hc
    exact lv_ineg hx hb hd (K ls hL)
  | i2l =>
    obtain ⟨x, r, rfl, rfl, rfl⟩ := zo_i2l_inv h
    have hc : nx = pc + 1 := of_decide_eq_true hc
    subst hc
    exact lv_i2l hx hb hd rfl (K ls hL)
  | l2i =>
    obtain ⟨x, r, rfl, rfl, rfl⟩ := zo_l2i_inv h
    have hc : nx = pc + 1 := of_decide_eq_true hc
    subst hc
    exact lv_l2i hx hb hd rfl (K ls hL)
  | lneg =>
    obtain ⟨x, r, rfl, rfl, rfl⟩ := zo_lneg_inv h
    have hc : nx = pc + 1 := of_decide_eq_true hc
    subst hc
    exact lv_lneg hx hb hd (K ls hL)
  | ladd =>
    obtain ⟨x, y, r, rfl, rfl, rfl⟩ := zo_ladd_inv h
    have hc : nx = pc + 1 := of_decide_eq_true hc
    subst hc
    exact lv_ladd hx hb hd (K ls hL)
  | lsub =>
    obtain ⟨x, y, r, rfl, rfl, rfl⟩ := zo_lsub_inv h
    have hc : nx = pc + 1 := of_decide_eq_true hc
    subst hc
    exact lv_lsub hx hb hd (K ls hL)
  | lmul =>
    obtain ⟨x, y, r, rfl, rfl, rfl⟩ := zo_lmul_inv h
    have hc : nx = pc + 1 := of_decide_eq_true hc
    subst hc
    exact lv_lmul hx hb hd (K ls hL)
  | land =>
    obtain ⟨x, y, r, rfl, rfl, rfl⟩ := zo_land_inv h
    have hc : nx = pc + 1 := of_decide_eq_true hc
    subst hc
    exact lv_land hx hb hd (K ls hL)
  | lor =>
    obtain ⟨x, y, r, rfl, rfl, rfl⟩ := zo_lor_inv h
    have hc : nx = pc + 1 := of_decide_eq_true hc
    subst hc
    exact lv_lor hx hb hd (K ls hL)
  | lshl =>
    obtain ⟨x, y, r, rfl, rfl, rfl⟩ := zsh_inv h
    have hc : nx = pc + 1 := of_decide_eq_true hc
    subst hc
    exact lv_lshl hx hb hd rfl (K ls hL)
  | dup =>
    obtain ⟨v, r, rfl, h1, rfl, rfl⟩ := zdu_inv h
    have hc : nx = pc + 1 := of_decide_eq_true hc
    subst hc
    exact lv_dup hx hb hd (by rw [zv_cat]; exact h1) (K ls hL)
  | dup2 =>
    obtain ⟨u, v, r, rfl, h1, h2, rfl, rfl⟩ := zd2_inv h
    have hc : nx = pc + 1 := of_decide_eq_true hc
    subst hc
    exact lv_dup2_11 hx hb hd (by rw [zv_cat]; exact h1) (by rw [zv_cat]; exact h2) (K ls hL)
  | iinc n z =>
    obtain ⟨x, v, h1, rfl, rfl, rfl⟩ := zin_inv h
    simp only [zch2, Bool.and_eq_true, decide_eq_true_eq] at hc
    obtain ⟨rfl, hc⟩ := hc
    obtain ⟨q, hq⟩ := List.getElem?_of_mem (mem_zpr.mpr ⟨_, h1, zint_ne x, rfl⟩ : (n, zv E.2.2.1 (.int x)) ∈ zpr E.2.2.1 L)
    have hl : n < L.length := (List.getElem?_eq_some_iff.mp h1).1
    exact lv_iinc hx hb hd hL.2 hq (by rw [hc]) (by omega) rfl (fun ls' h' => K ls' (zL.st1 hn h'))
  | goto off =>
    cases h
    have hc : (pc : Int) + off = (nx : Int) := of_decide_eq_true hc
    exact lv_goto hx hb hd hc (K ls hL)
  | _ => cases h
end ZS
def zR (T : zTb) : Nat → Nat → List Value → List Value → Option (Nat × List Value × List Value)
  | 0, pc, L, st => some (pc, L, st)
  | n + 1, pc, L, st => match T.lookup pc with
    | some (i, nx, a) => (match zS i a L st with
      | some (L', st') => zR T n nx L' st'
      | none => none)
    | none => none
theorem zV.run {E : zE} {M : zM} {d : Nat} {Post : Option Value → zWd → Prop} {w : zWd} {T : zTb} (hT : zTab M T) : ∀ (n : Nat) {pc pc' : Nat} {L L' st st' : List Value}, zR T n pc L st = some (pc', L', st') → zV E M d Post pc' L' st' w → zV E M d Post pc L st w
  | 0, pc, pc', L, L', st, st', h, k => by cases h; exact k
  | n + 1, pc, pc', L, L', st, st', h, k => by
    unfold zR at h
    split at h
    next i nx a hl =>
      split at h
      next L1 st1 hs =>
        obtain ⟨h1, h2⟩ := zTab.dec hT hl
        exact zS_ok h1 h2 hs (zV.run hT n h k)
      next => cases h
    next => cases h
