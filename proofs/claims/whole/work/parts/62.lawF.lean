/-! ===== the law: its start ===== -/
theorem dL_law_0 : decode code 0 = .ok (.new 7, 3) := by decide +kernel
theorem dL_law_3 : decode code 3 = .ok (.dup, 1) := by decide +kernel
theorem dL_law_4 : decode code 4 = .ok (.invokespecial 9, 3) := by decide +kernel
theorem dL_law_7 : decode code 7 = .ok (.astore_n 1, 1) := by decide +kernel
theorem dL_law_8 : decode code 8 = .ok (.new 10, 3) := by decide +kernel
theorem dL_law_11 : decode code 11 = .ok (.dup, 1) := by decide +kernel
theorem dL_law_12 : decode code 12 = .ok (.invokespecial 12, 3) := by decide +kernel
theorem dL_law_15 : decode code 15 = .ok (.astore_n 2, 1) := by decide +kernel
theorem dL_law_16 : decode code 16 = .ok (.iconst 0, 1) := by decide +kernel
theorem dL_law_17 : decode code 17 = .ok (.istore_n 3, 1) := by decide +kernel
def zDc (d0 d1 d2 d3 d4 : ClassId) : Nat → ClassId := fun k => match k with | 0 => d0 | 1 => d1 | 2 => d2 | 3 => d3 | _ => d4
def zDi (i0 i1 i2 i3 i4 : Nat → Nat) : Nat → Nat → Nat := fun k => match k with | 0 => i0 | 1 => i1 | 2 => i2 | 3 => i3 | _ => i4
def zCa (a0 a1 a2 a3 a4 : Nat) : Nat → Nat := fun k => match k with | 0 => a0 | 1 => a1 | 2 => a2 | 3 => a3 | _ => a4
theorem know {s : State} {b : Nat} (hts : ∀ w ∈ lw_tbl, w.before #[Value.ref b] s = true) : ∃ (D : va_G) (ca : Nat → Nat), zKc D ca s ∧ va_Nw zNm s := by
  have hw : ∀ w ∈ zB, w.before #[Value.ref b] s = true := fun w h => hts w (List.mem_filter.mp h).1
  obtain ⟨d0, i0, k0⟩ := u_known hw iBX0 (hw (.instantiable RX0 2) (zb 42 (by decide +kernel) rfl))
  obtain ⟨d1, i1, k1⟩ := u_known hw iBX1 (hw (.instantiable RX1 2) (zb 61 (by decide +kernel) rfl))
  obtain ⟨d2, i2, k2⟩ := u_known hw iBX2 (hw (.instantiable RX2 9) (zb 77 (by decide +kernel) rfl))
  obtain ⟨d3, i3, k3⟩ := u_known hw iBX3 (hw (.instantiable RX3 3) (zb 33 (by decide +kernel) rfl))
  obtain ⟨d4, i4, k4⟩ := u_known hw iBX4 (hw (.instantiable RX4 16) (zb 451 (by decide +kernel) rfl))
  obtain ⟨a0, kA0, cm0, f0, g0, e0⟩ := Cond.arrayClass_spec (hw (.arrayClass .int) (zb 59 (by decide +kernel) rfl))
  obtain ⟨a1, kA1, cm1, f1, g1, e1⟩ := Cond.arrayClass_spec (hw (.arrayClass .long) (zb 75 (by decide +kernel) rfl))
  obtain ⟨a2, kA2, cm2, f2, g2, e2⟩ := Cond.arrayClass_spec (hw (.arrayClass .boolean) (zb 114 (by decide +kernel) rfl))
  have o3 : (Cond.arrayOver (.object "SpanMaps$Fold")).before #[Value.ref b] s = true := (hts (.arrayOver (.object "SpanMaps$Fold")) (List.mem_of_getElem? (i := 41) (by decide +kernel)))
  have o4 : (Cond.arrayOver (.array .long)).before #[Value.ref b] s = true := (hts (.arrayOver (.array .long)) (List.mem_of_getElem? (i := 67) (by decide +kernel)))
  obtain ⟨cm3, a3, kA3, f3, -, g3, e3, n3⟩ := Cond.arrayOver_spec o3
  obtain ⟨cm4, a4, kA4, f4, -, g4, e4, n4⟩ := mn_over o4
  refine ⟨(zDc d0 d1 d2 d3 d4, zDi i0 i1 i2 i3 i4), zCa a0 a1 a2 a3 a4, ⟨⟨fun c q hq => ?_, fun k q hq => ?_⟩, va_Nw.of rfl (hts (zN1) (List.mem_of_getElem? (i := 43) (by decide +kernel))), va_Nw.of rfl (hts (zN2) (List.mem_of_getElem? (i := 62) (by decide +kernel))), va_Nw.of rfl (hts (zN3) (List.mem_of_getElem? (i := 78) (by decide +kernel))), va_Nw.of rfl (hts (zN4) (List.mem_of_getElem? (i := 83) (by decide +kernel))), va_AO.of o3, o4⟩, va_Nw.of rfl (hts (zNm) (List.mem_of_getElem? (i := 343) (by decide +kernel)))⟩
  · match c, hq with
    | 0, hq => cases hq; exact k0
    | 1, hq => cases hq; exact k1
    | 2, hq => cases hq; exact k2
    | 3, hq => cases hq; exact k3
    | 4, hq => cases hq; exact k4
    | n + 5, hq => cases hq
  · match k, hq with
    | 0, hq => cases hq; exact ⟨fun n z => ⟨(fun k h => by cases h), kA0, g0, cm0, e0⟩, f0⟩
    | 1, hq => cases hq; exact ⟨fun n z => ⟨(fun k h => by cases h), kA1, g1, cm1, e1⟩, f1⟩
    | 2, hq => cases hq; exact ⟨fun n z => ⟨(fun k h => by cases h), kA2, g2, cm2, e2⟩, f2⟩
    | 3, hq => cases hq; exact ⟨fun n z => ⟨(fun k h => by cases h), kA3, g3, cm3, e3⟩, kA3, cm3, g3, e3, f3, n3⟩
    | 4, hq => cases hq; exact ⟨fun n z => ⟨(fun k h => by cases h), kA4, g4, cm4, e4⟩, n4⟩
    | n + 5, hq => cases hq
def zFf (q0 q8 : Nat) (u v : Nat → Nat) : Nat → Nat := fun k => ([q0, u 0, u 1, u 3, u 5, u 7, u 9, u 11, u 13, u 15, u 2, u 4, u 6, u 8, u 10, u 12, u 14, u 16, u 17, u 18, 0, 0, 0, 0, 0, 0, 0, 0, 0, 0, 0, u 19, u 20, u 21, 0, 0, 0, 0, 0, 0, 0, 0, 0, 0, 0, u 22, u 23, u 24, u 25, q8, v 0, v 1, v 2, v 3, v 4, v 5, v 6, v 7, v 8, v 9, v 10] : List Nat).getD k 0
set_option maxHeartbeats 4000000 in
set_option maxRecDepth 100000 in
theorem asm {D : va_G} {ca : Nat → Nat} {b q0 q8 : Nat} {u v : Nat → Nat → Nat} {H : Heap} {A : Nat → Prop} (hP : va_P D zCl [(q0, .inr (3, [.ref (u 0 0), .ref (u 0 17), .ref (u 0 19)])), (u 0 0, .inl (ca 3, 8, .inr (.inr (.inr (.inr (va_up (va_up (va_up (va_up (va_up (va_up (va_up (va_up (fun _ => none) 0 (some (u 0 1))) 1 (some (u 0 3))) 2 (some (u 0 5))) 3 (some (u 0 7))) 4 (some (u 0 9))) 5 (some (u 0 11))) 6 (some (u 0 13))) 7 (some (u 0 15)))))))), (u 0 1, .inr (0, [.int 1, .ref (u 0 2)])), (u 0 2, .inl (ca 0, 6, .inl (fun _ => 0))), (u 0 3, .inr (0, [.int 1, .ref (u 0 4)])), (u 0 4, .inl (ca 0, 6, .inl (fun _ => 0))), (u 0 5, .inr (0, [.int 1, .ref (u 0 6)])), (u 0 6, .inl (ca 0, 6, .inl (fun _ => 0))), (u 0 7, .inr (0, [.int 1, .ref (u 0 8)])), (u 0 8, .inl (ca 0, 6, .inl (fun _ => 0))), (u 0 9, .inr (0, [.int 1, .ref (u 0 10)])), (u 0 10, .inl (ca 0, 6, .inl (fun _ => 0))), (u 0 11, .inr (0, [.int 1, .ref (u 0 12)])), (u 0 12, .inl (ca 0, 6, .inl (fun _ => 0))), (u 0 13, .inr (0, [.int 1, .ref (u 0 14)])), (u 0 14, .inl (ca 0, 6, .inl (fun _ => 0))), (u 0 15, .inr (0, [.int 1, .ref (u 0 16)])), (u 0 16, .inl (ca 0, 6, .inl (fun _ => 0))), (u 0 17, .inr (1, [.ref (u 0 18), .int 1])), (u 0 18, .inl (ca 4, 11, .inr (.inr (.inr (.inr (fun i => if i < 11 then some (u 1 i) else none)))))), (u 1 0, .inl (ca 1, 25, .inr (.inl (fun _ => 0)))), (u 1 1, .inl (ca 1, 25, .inr (.inl (fun _ => 0)))), (u 1 2, .inl (ca 1, 25, .inr (.inl (fun _ => 0)))), (u 1 3, .inl (ca 1, 25, .inr (.inl (fun _ => 0)))), (u 1 4, .inl (ca 1, 25, .inr (.inl (fun _ => 0)))), (u 1 5, .inl (ca 1, 25, .inr (.inl (fun _ => 0)))), (u 1 6, .inl (ca 1, 25, .inr (.inl (fun _ => 0)))), (u 1 7, .inl (ca 1, 25, .inr (.inl (fun _ => 0)))), (u 1 8, .inl (ca 1, 25, .inr (.inl (fun _ => 0)))), (u 1 9, .inl (ca 1, 25, .inr (.inl (fun _ => 0)))), (u 1 10, .inl (ca 1, 25, .inr (.inl (fun _ => 0)))), (u 0 19, .inr (2, [.ref (u 0 20), .ref (u 0 22), .ref (u 0 23), .ref (u 0 24), .ref (u 0 25), .int 1, .long 0, .long 0, .long 1])), (u 0 20, .inr (1, [.ref (u 0 21), .int 1])), (u 0 21, .inl (ca 4, 11, .inr (.inr (.inr (.inr (fun i => if i < 11 then some (u 2 i) else none)))))), (u 2 0, .inl (ca 1, 25, .inr (.inl (fun _ => 0)))), (u 2 1, .inl (ca 1, 25, .inr (.inl (fun _ => 0)))), (u 2 2, .inl (ca 1, 25, .inr (.inl (fun _ => 0)))), (u 2 3, .inl (ca 1, 25, .inr (.inl (fun _ => 0)))), (u 2 4, .inl (ca 1, 25, .inr (.inl (fun _ => 0)))), (u 2 5, .inl (ca 1, 25, .inr (.inl (fun _ => 0)))), (u 2 6, .inl (ca 1, 25, .inr (.inl (fun _ => 0)))), (u 2 7, .inl (ca 1, 25, .inr (.inl (fun _ => 0)))), (u 2 8, .inl (ca 1, 25, .inr (.inl (fun _ => 0)))), (u 2 9, .inl (ca 1, 25, .inr (.inl (fun _ => 0)))), (u 2 10, .inl (ca 1, 25, .inr (.inl (fun _ => 0)))), (u 0 22, .inl (ca 0, 6, .inl (fun _ => 0))), (u 0 23, .inl (ca 0, 10, .inl (fun _ => 0))), (u 0 24, .inl (ca 2, 10, .inl (fun _ => 0))), (u 0 25, .inl (ca 1, 7, .inr (.inl (fun _ => 0)))), (q8, .inr (4, [.ref (v 0 0), .ref (v 0 1), .ref (v 0 2), .long 0, .long 0, .ref (v 0 3), .ref (v 0 4), .int 0, .int 0, .int 0, .ref (v 0 5), .ref (v 0 6), .ref (v 0 7), .ref (v 0 8), .ref (v 0 9), .ref (v 0 10)])), (v 0 0, .inl (ca 0, 8, .inl (upd (upd (upd (upd (upd (upd (upd (upd (fun _ => 0) 0 (1)) 1 (1)) 2 (1)) 3 (1)) 4 (1)) 5 (1)) 6 (1)) 7 (1)))), (v 0 1, .inl (ca 0, 56, .inl (fun _ => 0))), (v 0 2, .inl (ca 0, 7, .inl (fun _ => 0))), (v 0 3, .inl (ca 1, 47000, .inr (.inl (fun _ => 0)))), (v 0 4, .inl (ca 1, 47000, .inr (.inl (fun _ => 0)))), (v 0 5, .inl (ca 1, 7, .inr (.inl (fun _ => 0)))), (v 0 6, .inl (ca 1, 7, .inr (.inl (fun _ => 0)))), (v 0 7, .inl (ca 1, 6, .inr (.inl (fun _ => 0)))), (v 0 8, .inl (ca 1, 6, .inr (.inl (fun _ => 0)))), (v 0 9, .inl (ca 0, 7, .inl (fun _ => 0))), (v 0 10, .inl (ca 0, 7, .inl (fun _ => 0)))] H) (hD : va_D A [(q0, .inr (3, [.ref (u 0 0), .ref (u 0 17), .ref (u 0 19)])), (u 0 0, .inl (ca 3, 8, .inr (.inr (.inr (.inr (va_up (va_up (va_up (va_up (va_up (va_up (va_up (va_up (fun _ => none) 0 (some (u 0 1))) 1 (some (u 0 3))) 2 (some (u 0 5))) 3 (some (u 0 7))) 4 (some (u 0 9))) 5 (some (u 0 11))) 6 (some (u 0 13))) 7 (some (u 0 15)))))))), (u 0 1, .inr (0, [.int 1, .ref (u 0 2)])), (u 0 2, .inl (ca 0, 6, .inl (fun _ => 0))), (u 0 3, .inr (0, [.int 1, .ref (u 0 4)])), (u 0 4, .inl (ca 0, 6, .inl (fun _ => 0))), (u 0 5, .inr (0, [.int 1, .ref (u 0 6)])), (u 0 6, .inl (ca 0, 6, .inl (fun _ => 0))), (u 0 7, .inr (0, [.int 1, .ref (u 0 8)])), (u 0 8, .inl (ca 0, 6, .inl (fun _ => 0))), (u 0 9, .inr (0, [.int 1, .ref (u 0 10)])), (u 0 10, .inl (ca 0, 6, .inl (fun _ => 0))), (u 0 11, .inr (0, [.int 1, .ref (u 0 12)])), (u 0 12, .inl (ca 0, 6, .inl (fun _ => 0))), (u 0 13, .inr (0, [.int 1, .ref (u 0 14)])), (u 0 14, .inl (ca 0, 6, .inl (fun _ => 0))), (u 0 15, .inr (0, [.int 1, .ref (u 0 16)])), (u 0 16, .inl (ca 0, 6, .inl (fun _ => 0))), (u 0 17, .inr (1, [.ref (u 0 18), .int 1])), (u 0 18, .inl (ca 4, 11, .inr (.inr (.inr (.inr (fun i => if i < 11 then some (u 1 i) else none)))))), (u 1 0, .inl (ca 1, 25, .inr (.inl (fun _ => 0)))), (u 1 1, .inl (ca 1, 25, .inr (.inl (fun _ => 0)))), (u 1 2, .inl (ca 1, 25, .inr (.inl (fun _ => 0)))), (u 1 3, .inl (ca 1, 25, .inr (.inl (fun _ => 0)))), (u 1 4, .inl (ca 1, 25, .inr (.inl (fun _ => 0)))), (u 1 5, .inl (ca 1, 25, .inr (.inl (fun _ => 0)))), (u 1 6, .inl (ca 1, 25, .inr (.inl (fun _ => 0)))), (u 1 7, .inl (ca 1, 25, .inr (.inl (fun _ => 0)))), (u 1 8, .inl (ca 1, 25, .inr (.inl (fun _ => 0)))), (u 1 9, .inl (ca 1, 25, .inr (.inl (fun _ => 0)))), (u 1 10, .inl (ca 1, 25, .inr (.inl (fun _ => 0)))), (u 0 19, .inr (2, [.ref (u 0 20), .ref (u 0 22), .ref (u 0 23), .ref (u 0 24), .ref (u 0 25), .int 1, .long 0, .long 0, .long 1])), (u 0 20, .inr (1, [.ref (u 0 21), .int 1])), (u 0 21, .inl (ca 4, 11, .inr (.inr (.inr (.inr (fun i => if i < 11 then some (u 2 i) else none)))))), (u 2 0, .inl (ca 1, 25, .inr (.inl (fun _ => 0)))), (u 2 1, .inl (ca 1, 25, .inr (.inl (fun _ => 0)))), (u 2 2, .inl (ca 1, 25, .inr (.inl (fun _ => 0)))), (u 2 3, .inl (ca 1, 25, .inr (.inl (fun _ => 0)))), (u 2 4, .inl (ca 1, 25, .inr (.inl (fun _ => 0)))), (u 2 5, .inl (ca 1, 25, .inr (.inl (fun _ => 0)))), (u 2 6, .inl (ca 1, 25, .inr (.inl (fun _ => 0)))), (u 2 7, .inl (ca 1, 25, .inr (.inl (fun _ => 0)))), (u 2 8, .inl (ca 1, 25, .inr (.inl (fun _ => 0)))), (u 2 9, .inl (ca 1, 25, .inr (.inl (fun _ => 0)))), (u 2 10, .inl (ca 1, 25, .inr (.inl (fun _ => 0)))), (u 0 22, .inl (ca 0, 6, .inl (fun _ => 0))), (u 0 23, .inl (ca 0, 10, .inl (fun _ => 0))), (u 0 24, .inl (ca 2, 10, .inl (fun _ => 0))), (u 0 25, .inl (ca 1, 7, .inr (.inl (fun _ => 0)))), (q8, .inr (4, [.ref (v 0 0), .ref (v 0 1), .ref (v 0 2), .long 0, .long 0, .ref (v 0 3), .ref (v 0 4), .int 0, .int 0, .int 0, .ref (v 0 5), .ref (v 0 6), .ref (v 0 7), .ref (v 0 8), .ref (v 0 9), .ref (v 0 10)])), (v 0 0, .inl (ca 0, 8, .inl (upd (upd (upd (upd (upd (upd (upd (upd (fun _ => 0) 0 (1)) 1 (1)) 2 (1)) 3 (1)) 4 (1)) 5 (1)) 6 (1)) 7 (1)))), (v 0 1, .inl (ca 0, 56, .inl (fun _ => 0))), (v 0 2, .inl (ca 0, 7, .inl (fun _ => 0))), (v 0 3, .inl (ca 1, 47000, .inr (.inl (fun _ => 0)))), (v 0 4, .inl (ca 1, 47000, .inr (.inl (fun _ => 0)))), (v 0 5, .inl (ca 1, 7, .inr (.inl (fun _ => 0)))), (v 0 6, .inl (ca 1, 7, .inr (.inl (fun _ => 0)))), (v 0 7, .inl (ca 1, 6, .inr (.inl (fun _ => 0)))), (v 0 8, .inl (ca 1, 6, .inr (.inl (fun _ => 0)))), (v 0 9, .inl (ca 0, 7, .inl (fun _ => 0))), (v 0 10, .inl (ca 0, 7, .inl (fun _ => 0)))]) : va_P D zCl (zW (zAd b (zFf q0 q8 (u 0) (v 0)) (u 1) (u 2)) ca w0) H ∧ va_D A (zW (zAd b (zFf q0 q8 (u 0) (v 0)) (u 1) (u 2)) ca w0) := by
  generalize hf : zFf q0 q8 (u 0) (v 0) = f
  have eF : (fun j => ((va_up (va_up (va_up (va_up (va_up (va_up (va_up (va_up (fun _ => none) 0 (some 2)) 1 (some 3)) 2 (some 4)) 3 (some 5)) 4 (some 6)) 5 (some 7)) 6 (some 8)) 7 (some 9)) j).map (zAd b f (u 1) (u 2))) = va_up (va_up (va_up (va_up (va_up (va_up (va_up (va_up (fun _ => none) 0 (some (u 0 1))) 1 (some (u 0 3))) 2 (some (u 0 5))) 3 (some (u 0 7))) 4 (some (u 0 9))) 5 (some (u 0 11))) 6 (some (u 0 13))) 7 (some (u 0 15)) := by
    rw [map_up, map_up, map_up, map_up, map_up, map_up, map_up, map_up, ← hf]
    rfl
  rw [← eF, ← map_r1 (b := b) (f := f) (r1 := u 1) (r2 := u 2), ← map_r2 (b := b) (f := f) (r1 := u 1) (r2 := u 2)] at hP hD
  subst hf
  exact ⟨hP.sub [0, 1, 2, 4, 6, 8, 10, 12, 14, 16, 3, 5, 7, 9, 11, 13, 15, 17, 18, 19, 20, 21, 22, 23, 24, 25, 26, 27, 28, 29, 30, 31, 32, 33, 34, 35, 36, 37, 38, 39, 40, 41, 42, 43, 44, 45, 46, 47, 48, 49, 50, 51, 52, 53, 54, 55, 56, 57, 58, 59, 60] rfl, hD.sub [0, 1, 2, 4, 6, 8, 10, 12, 14, 16, 3, 5, 7, 9, 11, 13, 15, 17, 18, 19, 20, 21, 22, 23, 24, 25, 26, 27, 28, 29, 30, 31, 32, 33, 34, 35, 36, 37, 38, 39, 40, 41, 42, 43, 44, 45, 46, 47, 48, 49, 50, 51, 52, 53, 54, 55, 56, 57, 58, 59, 60] (by decide) rfl⟩
set_option maxHeartbeats 4000000 in
set_option maxRecDepth 100000 in
/-- from the entry, for every script of at most 5632 ints, the law comes to its end with true -/
theorem whole_start {p : Program} {e : Env} {s : State} {m : MethodId} {below : List Frame} {meth : Method} {c : Code} (l : Launch) {b L : Nat} {xs : Nat → Int32} (hL : L ≤ 5632) (C0 : lw_At p s m meth c b L xs) : W p l e room_1 s m #[Value.ref b] below meth c s.heap [] 0 0 (lw_Z below #[Value.ref b] s) (entryFrame m ([Value.ref b] : List Value).toArray 4) := by
  obtain ⟨hx, hb, hr, hml, hown, hts, hX, hbl, hlocks, hgv⟩ := C0
  have hown : s.vm.findClass RL = some m.cls := hown
  have hw : ∀ w ∈ zB, w.before #[Value.ref b] s = true := fun w h => hts w (List.mem_filter.mp h).1
  obtain ⟨D, ca, hKc, hNm⟩ := know hts
  have hK : va_K D zCl (zty ca) s := hKc.1
  have hA : ∀ q : Nat, s.heap.size ≤ q → (fun q : Nat => s.heap.size ≤ q) q := fun q h => h
  have hS : va_S (fun q : Nat => s.heap.size ≤ q) s.heap s.heap [] := va_S.rf
  have hP : va_P D zCl [] s.heap := fun k q h => by simp at h
  have hD : va_D (fun q : Nat => s.heap.size ≤ q) [] := ⟨fun i j p q h => by simp at h, fun k q h => by simp at h⟩
  have hl := lv_entry ([.ref b]) (n := 4) (Nat.le_of_ble_eq_true rfl)
  rw [lg_entry_eq]
  generalize (lg_sl ([.ref b]) ++ List.replicate (4 - (lg_sl ([.ref b])).length) Slot.unset).toArray = ls at hl ⊢
  have hl : lv_has ls 4 [(0, .ref b)] := hl
  refine va_new (ci := 3) (fs := [.null, .null, .null]) (C := RX3) (T := TX3) (N := 3) hx hb hw iBX3 tyX3 tyX3_ok hown (hw (.classLink RL 7 RX3) (zb 32 (by decide +kernel) rfl)) (hw (.instantiable RX3 3) (zb 33 (by decide +kernel) rfl)) (hw (.initialized RX3) (zb 26 (by decide +kernel) rfl)) hK hP hD hS hA rfl (by decide +kernel) (Nat.le_of_ble_eq_true rfl) (Nat.le_of_ble_eq_true rfl) dL_law_0 (fun q0 H hP hD hS => ?_)
  have hP : va_P D zCl [(q0, .inr (3, [.null, .null, .null]))] H := hP
  have hD : va_D (fun q : Nat => s.heap.size ≤ q) [(q0, .inr (3, [.null, .null, .null]))] := hD
  refine W.widen (k := 1) (n := 3) (by omega) (by omega) ?_
  refine lv_dup hx hb dL_law_3 rfl ?_
  have hPc := hP.sub (ws' := [(q0, .inr (3, [.null, .null, .null]))]) [0] rfl
  have hDc := hD.sub (ws' := [(q0, .inr (3, [.null, .null, .null]))]) [0] (by decide) rfl
  have hFc := va_free (wc := [(q0, .inr (3, [.null, .null, .null]))]) hD hS hA [0] rfl
  refine va_callv (va_runI (As := []) (rest := [.ref q0]) ⟨hx, hb, hml, hown, hw⟩ (c_X3 l D ca q0 H.size) ⟨callB_of 0 hw (zgoodL iCX3) rfl rfl rfl (hw (.initialized RX3) (zb 26 (by decide +kernel) rfl)) (hw (.methodLink RL 9 yX3_init) (zb 34 (by decide +kernel) rfl)) ⟨by decide +kernel, by decide +kernel, by decide +kernel⟩ ⟨Nat.le_of_ble_eq_true rfl, Nat.le_of_ble_eq_true rfl⟩, rfl, (hw (.instanceMethod yX3_init) (zb 35 (by decide +kernel) rfl))⟩ ⟨fun a U g mk q => by obtain ⟨q0, q1, qP, qK, qD⟩ := q; exact ⟨q0, q1, qP, zKc.same (u := U) (U := U.calling g mk a) rfl qK, qD⟩, fun U hU hW => ⟨rfl, by rw [hU], by rw [hU]; exact hPc, zKc.moved hW hKc, hDc.weaken (fun _ _ _ _ => trivial)⟩⟩ rfl rfl hl.1 rfl (lv_room (Nat.le_of_ble_eq_true rfl)) dL_law_4 ⟨Nat.le_of_ble_eq_true rfl, Nat.le_of_ble_eq_true rfl⟩) hS (fun q _ h => hFc q h) hFc (fun u t H1 locs ht hvm _ hB hz1 hk1 hS => ?_)
  obtain ⟨hP1, hD1⟩ := hB
  rw [ht] at hP1
  obtain ⟨hP, hD⟩ := va_join (wr := []) (w1 := wX3 ca q0 u) hP hD [0] [] rfl rfl (by decide) (by decide) hk1 hFc hP1 hD1
  generalize H1 = H at hP hS ⊢
  have hP : va_P D zCl (wX3 ca q0 u) H := hP
  have hD : va_D (fun q : Nat => s.heap.size ≤ q) (wX3 ca q0 u) := hD
  refine W.widen (k := 49) (n := 693) (by omega) (by omega) ?_
  refine lv_astore_n (lv' := [(1, .ref q0), (0, .ref b)]) hx hb dL_law_7 rfl hl (by decide) rfl (fun ls hl => ?_)
  refine va_new (ci := 4) (fs := [.null, .null, .null, .long 0, .long 0, .null, .null, .int 0, .int 0, .int 0, .null, .null, .null, .null, .null, .null]) (C := RX4) (T := TX4) (N := 16) hx hb hw iBX4 tyX4 tyX4_ok hown (hw (.classLink RL 10 RX4) (zb 450 (by decide +kernel) rfl)) (hw (.instantiable RX4 16) (zb 451 (by decide +kernel) rfl)) (hw (.initialized RX4) (zb 30 (by decide +kernel) rfl)) hK hP hD hS hA rfl (by decide +kernel) (Nat.le_of_ble_eq_true rfl) (Nat.le_of_ble_eq_true rfl) dL_law_8 (fun q8 H hP hD hS => ?_)
  refine W.widen (k := 50) (n := 709) (by omega) (by omega) ?_
  refine lv_dup hx hb dL_law_11 rfl ?_
  have hPc := hP.sub (ws' := [(q8, .inr (4, [.null, .null, .null, .long 0, .long 0, .null, .null, .int 0, .int 0, .int 0, .null, .null, .null, .null, .null, .null]))]) [49] rfl
  have hDc := hD.sub (ws' := [(q8, .inr (4, [.null, .null, .null, .long 0, .long 0, .null, .null, .int 0, .int 0, .int 0, .null, .null, .null, .null, .null, .null]))]) [49] (by decide) rfl
  have hFc := va_free (wc := [(q8, .inr (4, [.null, .null, .null, .long 0, .long 0, .null, .null, .int 0, .int 0, .int 0, .null, .null, .null, .null, .null, .null]))]) hD hS hA [49] rfl
  refine va_callv (va_runI (As := []) (rest := [.ref q8]) ⟨hx, hb, hml, hown, hw⟩ (c_X4 l D ca q8 H.size) ⟨callB_of 0 hw (zgoodL iCX4) rfl rfl rfl (hw (.initialized RX4) (zb 30 (by decide +kernel) rfl)) (hw (.methodLink RL 12 yX4_init) (zb 452 (by decide +kernel) rfl)) ⟨by decide +kernel, by decide +kernel, by decide +kernel⟩ ⟨Nat.le_of_ble_eq_true rfl, Nat.le_of_ble_eq_true rfl⟩, rfl, (hw (.instanceMethod yX4_init) (zb 453 (by decide +kernel) rfl))⟩ ⟨fun a U g mk q => by obtain ⟨q0, q1, qP, qK, qD⟩ := q; exact ⟨q0, q1, qP, zKc.same (u := U) (U := U.calling g mk a) rfl qK, qD⟩, fun U hU hW => ⟨rfl, by rw [hU], by rw [hU]; exact hPc, zKc.moved hW hKc, hDc.weaken (fun _ _ _ _ => trivial)⟩⟩ rfl rfl hl.1 rfl (lv_room (Nat.le_of_ble_eq_true rfl)) dL_law_12 ⟨Nat.le_of_ble_eq_true rfl, Nat.le_of_ble_eq_true rfl⟩) hS (fun q _ h => hFc q h) hFc (fun v t H1 locs ht hvm _ hB hz1 hk1 hS => ?_)
  obtain ⟨hP1, hD1⟩ := hB
  rw [ht] at hP1
  obtain ⟨hP, hD⟩ := va_join (wr := wX3 ca q0 u) (w1 := wX4 ca q8 v) hP hD [49] [0, 1, 2, 3, 4, 5, 6, 7, 8, 9, 10, 11, 12, 13, 14, 15, 16, 17, 18, 19, 20, 21, 22, 23, 24, 25, 26, 27, 28, 29, 30, 31, 32, 33, 34, 35, 36, 37, 38, 39, 40, 41, 42, 43, 44, 45, 46, 47, 48] rfl rfl (by decide) (by decide) hk1 hFc hP1 hD1
  generalize H1 = H at hP hS ⊢
  refine W.widen (k := 61) (n := 94820) (by omega) (by omega) ?_
  refine lv_astore_n (lv' := [(2, .ref q8), (1, .ref q0), (0, .ref b)]) hx hb dL_law_15 rfl hl (by decide) rfl (fun ls hl => ?_)
  refine lv_iconst (v := 0) hx hb dL_law_16 (by decide) ?_
  refine lv_istore_n (lv' := [(3, .int 0), (2, .ref q8), (1, .ref q0), (0, .ref b)]) hx hb dL_law_17 rfl hl (by decide) rfl (fun ls hl => ?_)
  obtain ⟨hPz, hDz⟩ := asm (b := b) hP hD
  have e61 : zAd b (zFf q0 q8 (u 0) (v 0)) (u 1) (u 2) 61 = b := if_pos rfl
  have e0 : zAd b (zFf q0 q8 (u 0) (v 0)) (u 1) (u 2) 0 = q0 := rfl
  have e49 : zAd b (zFf q0 q8 (u 0) (v 0)) (u 1) (u 2) 49 = q8 := rfl
  generalize zAd b (zFf q0 q8 (u 0) (v 0)) (u 1) (u 2) = ad at hPz hDz e61 e0 e49
  have hI : zI ad := fun i j hi hj q => hDz.1 i j _ _ (zW_k hi) (zW_k hj) q
  have hAd : ∀ k, k < 61 → s.heap.size ≤ ad k := fun k hk => hDz.2 k _ (zW_k hk)
  have Cy : zYc (l, D, ad, ca) p s m meth c b L xs := ⟨hx, hb, hr, hml, hown, hw, hX, hbl, hlocks, hI, hAd, ⟨hK, hNm⟩, e61⟩
  have go := lw_loop (e := e) (below := below) Cy hL (L + 1) 0 w0 σ0 (by omega) (by omega) sys0 ms0
  refine go H locs ls hPz hS ⟨rfl, hl.1, hl.2.1, fun q hq => ?_⟩
  obtain ⟨x9, h1, h2, h3⟩ := mem_zpr.mp hq
  obtain ⟨i9, y9⟩ := q
  match i9, h1 with
  | 0, h1 => cases h1; subst h3; show ls[0]? = some (.val (.ref (ad 61))); rw [e61]; exact lv_at hl 3 rfl
  | 1, h1 => cases h1; subst h3; show ls[1]? = some (.val (.ref (ad 0))); rw [e0]; exact lv_at hl 2 rfl
  | 2, h1 => cases h1; subst h3; show ls[2]? = some (.val (.ref (ad 49))); rw [e49]; exact lv_at hl 1 rfl
  | 3, h1 => cases h1; subst h3; exact lv_at hl 0 rfl
  | n + 4, h1 => cases h1
