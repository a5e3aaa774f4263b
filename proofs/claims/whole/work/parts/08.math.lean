/-! ===== java.lang.Math, an instruction each ===== -/
section ZMath
variable {E : zE} {M : zM} {d : Nat} {Post : Option Value → zWd → Prop} {pc nx : Nat} {L st : List Value} {w : zWd} {T : zTb} {aux : Value}
theorem zV.mxI (hT : zTab M T) {idx : Nat} (hl : T.lookup pc = some (.invokestatic idx, nx, aux)) (hC : zCs M.1.cls idx mJ9_max_7cf53 2) (hd : 1 ≤ d) (hw8 : (st.map fun v => v.category).sum ≤ 8) {x y : Int32} (k : zV E M d Post nx L (.int (if x < y then y else x) :: st) w) : zV E M d Post pc L (.int y :: .int x :: st) w := by
  intro hI p e s m args below meth c H locs ls X hP hS hL
  have K := k hI p e s m args below meth c H locs ls X hP hS hL
  obtain ⟨hx, hb, hml, -, -, ho, hw, -⟩ := X
  obtain ⟨h1, h2⟩ := zTab.dec hT hl
  have h2 : nx = pc + 3 := of_decide_eq_true h2
  subst h2
  obtain ⟨c1, c2, c3, c4, -, -⟩ := hC
  have inB : ∀ x, x ∈ zB → x.before args s = true := fun x h => hw _ (List.mem_cons_of_mem _ h)
  have hs : ((st.map (zv E.2.2.1)).map fun v => v.category).sum ≤ 8 := by rw [zsum]; exact hw8
  have hr : (zRm d).locals = 42 * d := rfl
  exact va_mmax hx hb (hml.trans hL.2.1.symm) ho (inB _ c1) (inB _ c2) (inB _ c3) (inB _ c4) hd (by omega) (Nat.le_refl _) (Nat.le_refl _) h1 K
theorem zV.mnI (hT : zTab M T) {idx : Nat} (hl : T.lookup pc = some (.invokestatic idx, nx, aux)) (hC : zCs M.1.cls idx mJ9_min_7cf53 2) (hd : 1 ≤ d) (hw8 : (st.map fun v => v.category).sum ≤ 8) {x y : Int32} (k : zV E M d Post nx L (.int (if y < x then y else x) :: st) w) : zV E M d Post pc L (.int y :: .int x :: st) w := by
  intro hI p e s m args below meth c H locs ls X hP hS hL
  have K := k hI p e s m args below meth c H locs ls X hP hS hL
  obtain ⟨hx, hb, hml, -, -, ho, hw, -⟩ := X
  obtain ⟨h1, h2⟩ := zTab.dec hT hl
  have h2 : nx = pc + 3 := of_decide_eq_true h2
  subst h2
  obtain ⟨c1, c2, c3, c4, -, -⟩ := hC
  have inB : ∀ x, x ∈ zB → x.before args s = true := fun x h => hw _ (List.mem_cons_of_mem _ h)
  have hs : ((st.map (zv E.2.2.1)).map fun v => v.category).sum ≤ 8 := by rw [zsum]; exact hw8
  have hr : (zRm d).locals = 42 * d := rfl
  exact va_mmin hx hb (hml.trans hL.2.1.symm) ho (inB _ c1) (inB _ c2) (inB _ c3) (inB _ c4) hd (by omega) (Nat.le_refl _) (Nat.le_refl _) h1 K
theorem zV.abI (hT : zTab M T) {idx : Nat} (hl : T.lookup pc = some (.invokestatic idx, nx, aux)) (hC : zCs M.1.cls idx mJ9_abs_0f7a4 1) (hd : 1 ≤ d) (hw8 : (st.map fun v => v.category).sum ≤ 8) {x : Int32} (k : zV E M d Post nx L (.int (if 0 ≤ x then x else 0 - x) :: st) w) : zV E M d Post pc L (.int x :: st) w := by
  intro hI p e s m args below meth c H locs ls X hP hS hL
  have K := k hI p e s m args below meth c H locs ls X hP hS hL
  obtain ⟨hx, hb, hml, -, -, ho, hw, -⟩ := X
  obtain ⟨h1, h2⟩ := zTab.dec hT hl
  have h2 : nx = pc + 3 := of_decide_eq_true h2
  subst h2
  obtain ⟨c1, c2, c3, c4, -, -⟩ := hC
  have inB : ∀ x, x ∈ zB → x.before args s = true := fun x h => hw _ (List.mem_cons_of_mem _ h)
  have hs : ((st.map (zv E.2.2.1)).map fun v => v.category).sum ≤ 8 := by rw [zsum]; exact hw8
  have hr : (zRm d).locals = 42 * d := rfl
  exact va_mabs hx hb (hml.trans hL.2.1.symm) ho (inB _ c1) (inB _ c2) (inB _ c3) (inB _ c4) hd (by omega) (Nat.le_refl _) (Nat.le_refl _) h1 K
theorem zV.mxL (hT : zTab M T) {idx : Nat} (hl : T.lookup pc = some (.invokestatic idx, nx, aux)) (hC : zCs M.1.cls idx mJ9_max_f86c9 2) (hd : 1 ≤ d) (hw8 : (st.map fun v => v.category).sum ≤ 8) {x y : Int64} (k : zV E M d Post nx L (.long (if y < x then x else y) :: st) w) : zV E M d Post pc L (.long y :: .long x :: st) w := by
  intro hI p e s m args below meth c H locs ls X hP hS hL
  have K := k hI p e s m args below meth c H locs ls X hP hS hL
  obtain ⟨hx, hb, hml, -, -, ho, hw, -⟩ := X
  obtain ⟨h1, h2⟩ := zTab.dec hT hl
  have h2 : nx = pc + 3 := of_decide_eq_true h2
  subst h2
  obtain ⟨c1, c2, c3, c4, -, -⟩ := hC
  have inB : ∀ x, x ∈ zB → x.before args s = true := fun x h => hw _ (List.mem_cons_of_mem _ h)
  have hs : ((st.map (zv E.2.2.1)).map fun v => v.category).sum ≤ 8 := by rw [zsum]; exact hw8
  have hr : (zRm d).locals = 42 * d := rfl
  exact va_mmax_long hx hb (hml.trans hL.2.1.symm) ho (inB _ c1) (inB _ c2) (inB _ c3) (inB _ c4) hd (by omega) (Nat.le_refl _) (Nat.le_refl _) h1 K
theorem zV.mnL (hT : zTab M T) {idx : Nat} (hl : T.lookup pc = some (.invokestatic idx, nx, aux)) (hC : zCs M.1.cls idx mJ9_min_f86c9 2) (hd : 1 ≤ d) (hw8 : (st.map fun v => v.category).sum ≤ 8) {x y : Int64} (k : zV E M d Post nx L (.long (if y < x then y else x) :: st) w) : zV E M d Post pc L (.long y :: .long x :: st) w := by
  intro hI p e s m args below meth c H locs ls X hP hS hL
  have K := k hI p e s m args below meth c H locs ls X hP hS hL
  obtain ⟨hx, hb, hml, -, -, ho, hw, -⟩ := X
  obtain ⟨h1, h2⟩ := zTab.dec hT hl
  have h2 : nx = pc + 3 := of_decide_eq_true h2
  subst h2
  obtain ⟨c1, c2, c3, c4, -, -⟩ := hC
  have inB : ∀ x, x ∈ zB → x.before args s = true := fun x h => hw _ (List.mem_cons_of_mem _ h)
  have hs : ((st.map (zv E.2.2.1)).map fun v => v.category).sum ≤ 8 := by rw [zsum]; exact hw8
  have hr : (zRm d).locals = 42 * d := rfl
  exact va_mmin_long hx hb (hml.trans hL.2.1.symm) ho (inB _ c1) (inB _ c2) (inB _ c3) (inB _ c4) hd (by omega) (Nat.le_refl _) (Nat.le_refl _) h1 K
theorem zV.abL (hT : zTab M T) {idx : Nat} (hl : T.lookup pc = some (.invokestatic idx, nx, aux)) (hC : zCs M.1.cls idx mJ9_abs_067f4 1) (hd : 1 ≤ d) (hw8 : (st.map fun v => v.category).sum ≤ 8) {x : Int64} (k : zV E M d Post nx L (.long (if 0 < x then x else -x) :: st) w) : zV E M d Post pc L (.long x :: st) w := by
  intro hI p e s m args below meth c H locs ls X hP hS hL
  have K := k hI p e s m args below meth c H locs ls X hP hS hL
  obtain ⟨hx, hb, hml, -, -, ho, hw, -⟩ := X
  obtain ⟨h1, h2⟩ := zTab.dec hT hl
  have h2 : nx = pc + 3 := of_decide_eq_true h2
  subst h2
  obtain ⟨c1, c2, c3, c4, -, -⟩ := hC
  have inB : ∀ x, x ∈ zB → x.before args s = true := fun x h => hw _ (List.mem_cons_of_mem _ h)
  have hs : ((st.map (zv E.2.2.1)).map fun v => v.category).sum ≤ 8 := by rw [zsum]; exact hw8
  have hr : (zRm d).locals = 42 * d := rfl
  exact va_mabs_long hx hb (hml.trans hL.2.1.symm) ho (inB _ c1) (inB _ c2) (inB _ c3) (inB _ c4) hd (by omega) (Nat.le_refl _) (Nat.le_refl _) h1 K
end ZMath
