/-! ===== constructors: arrays of arrays ===== -/
def va_AOA (t : FieldType) (U : State) : Prop := (Cond.arrayOver (.array t)).before #[] U = true
theorem va_AOA.use {t : FieldType} {A : Array Value} {U : State} (h : va_AOA t U) : (Cond.arrayOver (.array t)).before A U = true := h
theorem va_AOA.moved {t : FieldType} {u U : State} (hvm : u.vm.Alike U.vm) (h : va_AOA t u) : va_AOA t U := mn_alike hvm h
/-! ===== what the makers of objects need of the machine ===== -/
def zN1 : Cond := .methodLinkNest "SpanMaps" 15 yX0_init "SpanMaps"
def zN2 : Cond := .methodLinkNest "SpanMaps" 18 yX1_init "SpanMaps"
def zN3 : Cond := .methodLinkNest "SpanMaps" 25 yX2_init "SpanMaps"
def zN4 : Cond := .methodLinkNest "SpanMaps$Returns" 11 yX1_init "SpanMaps"
def zKc (D : va_G) (ca : Nat → Nat) (U : State) : Prop := va_K D zCl (zty ca) U ∧ va_Nw zN1 U ∧ va_Nw zN2 U ∧ va_Nw zN3 U ∧ va_Nw zN4 U ∧ va_AO "SpanMaps$Fold" U ∧ va_AOA .long U
theorem zKc.moved {D : va_G} {ca : Nat → Nat} {s U : State} (hW : s.WarmedH U.vm) (h : zKc D ca s) : zKc D ca U := by
  obtain ⟨k, n1, n2, n3, n4, a1, a2⟩ := h
  exact ⟨va_K.moved hW.alike k, va_Nw.warmM hW n1, va_Nw.warmM hW n2, va_Nw.warmM hW n3, va_Nw.warmM hW n4, a1.moved hW.alike, a2.moved hW.alike⟩
theorem zKc.same {D : va_G} {ca : Nat → Nat} {u U : State} (e : u.vm = U.vm) (h : zKc D ca u) : zKc D ca U := by
  have al : u.vm.Alike U.vm := by rw [e]; exact Vm.Alike.refl _
  obtain ⟨k, n1, n2, n3, n4, a1, a2⟩ := h
  exact ⟨va_K.moved al k, va_Nw.same rfl e n1, va_Nw.same rfl e n2, va_Nw.same rfl e n3, va_Nw.same rfl e n4, a1.moved al, a2.moved al⟩
theorem va_RA_inj {U : State} {c c' : ClassId} {ty : FieldType} (h : va_RA U c ty) (h' : va_RA U c' ty) : c = c' := by
  cases ty <;> first
    | exact Option.some.inj (h.symm.trans h')
    | (obtain ⟨_, _, _, _, _, e⟩ := h
       obtain ⟨_, _, _, _, _, e'⟩ := h'
       exact Option.some.inj (e.symm.trans e'))
section ZCon
variable {p : Program} {l : Launch} {e : Env} {R : Room} {s : State} {m : MethodId} {args : Array Value} {below : List Frame} {meth : Method} {c : Code} {H : Heap} {locs : List Loc} {cells slots : Nat} {Q : State → Prop}
variable {cc : ByteArray} {pc : Nat} {ls : Array Slot} {rest : List Value} {D : va_G} {cl : List vw_C} {A : Nat → Prop} {a : Nat} {ws : va_W} {H0 : Heap} {ca : Nat → Nat}
theorem z_newa (hexec : p.tables.exec = Jvm.exec) (hb : c.code = cc) {atype : ArrayType} (harr : (Cond.arrayClass (newarray.typeOf atype)).before args s = true) {ty : FieldType} (hty : newarray.typeOf atype = ty) (t0 : Nat) (ht0 : (zty ca)[t0]? = some (ca t0, ty)) (hK : va_K D cl (zty ca) s) (hP : va_P D cl ws H) (hD : va_D A ws) (hS : va_S A H0 H locs) (hA : ∀ q, H0.size ≤ q → A q)
    {n : Int32} {N' : Nat} {a0 : vp_A} (ha : ∀ cA : ClassId, vp_cell cA a0 = arrV cA N' (fun _ => defaultValue ty)) (hn : ¬ n < 0) (hN : n.toNatClampNeg = N') (hbytes : N' * componentBytes ty ≤ 536870912) (hcells : cells + 1 ≤ R.cells) (hslots : slots + N' ≤ R.slots) (hdg : decode cc pc = .ok (.newarray atype, 2))
    (kk : ∀ (q : Nat) (H1 : Heap), va_P D cl (ws ++ [(q, .inl (ca t0, a0))]) H1 → va_D A (ws ++ [(q, .inl (ca t0, a0))]) → va_S A H0 H1 locs →
      W p l e R s m args below meth c H1 locs (cells + 1) (slots + N') Q (F0 m (pc + 2) ls (.ref q :: rest))) : W p l e R s m args below meth c H locs cells slots Q (F0 m pc ls (.int n :: rest)) := by
  refine va_newa hexec hb harr hty hK hP hD hS hA ha hn hN hbytes hcells hslots hdg (fun q cA H1 hK2 hP hD hS => ?_)
  have e : cA = ca t0 := va_RA_inj (hK2.2 5 (cA, ty) rfl).2 (hK.2 t0 _ ht0).2
  subst e
  exact kk q H1 hP hD hS
theorem z_newq (hexec : p.tables.exec = Jvm.exec) (hb : c.code = cc) {own : String} {index : Nat} (hown : s.vm.findClass own = some m.cls) (hclink : (Cond.classLink own index "SpanMaps$Fold").before args s = true) (hover : va_AO "SpanMaps$Fold" s) (hK : va_K D cl (zty ca) s) (hP : va_P D cl ws H) (hD : va_D A ws) (hS : va_S A H0 H locs) (hA : ∀ q, H0.size ≤ q → A q)
    {n : Int32} {N' : Nat} (hn : ¬ n < 0) (hN : n.toNatClampNeg = N') (hbytes : N' * 4 ≤ 536870912) (hcells : cells + 1 ≤ R.cells) (hslots : slots + N' ≤ R.slots) (hdg : decode cc pc = .ok (.anewarray index, 3))
    (kk : ∀ (q : Nat) (H1 : Heap), va_P D cl (ws ++ [(q, .inl (ca 3, N', .inr (.inr (.inr (.inr (fun _ => none))))))]) H1 → va_D A (ws ++ [(q, .inl (ca 3, N', .inr (.inr (.inr (.inr (fun _ => none))))))]) → va_S A H0 H1 locs →
      W p l e R s m args below meth c H1 locs (cells + 1) (slots + N') Q (F0 m (pc + 3) ls (.ref q :: rest))) : W p l e R s m args below meth c H locs cells slots Q (F0 m pc ls (.int n :: rest)) := by
  refine va_newq hexec hb hown hclink hover hK hP hD hS hA hn hN hbytes hcells hslots hdg (fun q cA H1 hK2 hP hD hS => ?_)
  have e : cA = ca 3 := va_RA_inj (hK2.2 5 (cA, _) rfl).2 (hK.2 3 _ rfl).2
  subst e
  exact kk q H1 hP hD hS
theorem z_mna (hexec : p.tables.exec = Jvm.exec) (hb : c.code = cc) {own : String} {index : Nat} (hown : s.vm.findClass own = some m.cls) (hclink : (Cond.classLink own index "[[J").before args s = true) (hover : va_AOA .long s) (harr : (Cond.arrayClass .long).before args s = true) (hK : va_K D cl (zty ca) s) (hP : va_P D cl ws H) (hD : va_D A ws) (hS : va_S A H0 H locs) (hA : ∀ q, H0.size ≤ q → A q)
    (hcells : cells + 12 ≤ R.cells) (hslots : slots + 286 ≤ R.slots) (hdg : decode cc pc = .ok (.multianewarray index 2, 4))
    (kk : ∀ (q : Nat) (r : Nat → Nat) (H1 : Heap), va_P D cl (ws ++ ((q, .inl (ca 4, 11, .inr (.inr (.inr (.inr (fun i => if i < 11 then some (r i) else none)))))) :: (List.range 11).map (fun i => (r i, .inl (ca 1, 25, .inr (.inl (fun _ => 0))))))) H1 → va_D A (ws ++ ((q, .inl (ca 4, 11, .inr (.inr (.inr (.inr (fun i => if i < 11 then some (r i) else none)))))) :: (List.range 11).map (fun i => (r i, .inl (ca 1, 25, .inr (.inl (fun _ => 0))))))) → va_S A H0 H1 locs →
      W p l e R s m args below meth c H1 locs (cells + 12) (slots + 286) Q (F0 m (pc + 4) ls (.ref q :: rest))) : W p l e R s m args below meth c H locs cells slots Q (F0 m pc ls (.int 25 :: .int 11 :: rest)) := by
  have hz : vp_cell (ca 1) (25, .inr (.inl (fun _ => 0))) = arrV (ca 1) 25 (fun _ => defaultValue .long) := by rw [vp_cell_l]; rfl
  refine mn_W (ty := .long) (cA := ca 4) (cy := ca 1) (N := 11) (K := 25) (z := (25, .inr (.inl (fun _ => 0)))) hexec hb hown hclink (va_AOA.use hover) harr (hK.2 4 _ rfl).2 (hK.2 1 _ rfl).2 hP hD hS hA (by decide) (by decide) (by decide) (by decide) (by decide) (by decide) (by decide) rfl hcells hslots hz hdg (fun q r H1 hP hD hS => ?_)
  exact kk q r H1 hP hD hS
end ZCon
