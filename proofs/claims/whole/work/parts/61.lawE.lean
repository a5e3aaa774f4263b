/-! ===== the first world ===== -/
def w0 : zWd := fun k => match k with
  | 0 => zOb 3 [.ref 1, .ref 18, .ref 31]
  | 1 => zRA 3 8 (va_up (va_up (va_up (va_up (va_up (va_up (va_up (va_up (fun _ => none) 0 (some 2)) 1 (some 3)) 2 (some 4)) 3 (some 5)) 4 (some 6)) 5 (some 7)) 6 (some 8)) 7 (some 9))
  | 2 => zOb 0 [.int 1, .ref 10]
  | 3 => zOb 0 [.int 1, .ref 11]
  | 4 => zOb 0 [.int 1, .ref 12]
  | 5 => zOb 0 [.int 1, .ref 13]
  | 6 => zOb 0 [.int 1, .ref 14]
  | 7 => zOb 0 [.int 1, .ref 15]
  | 8 => zOb 0 [.int 1, .ref 16]
  | 9 => zOb 0 [.int 1, .ref 17]
  | 10 => zIA 6 (fun _ => 0)
  | 11 => zIA 6 (fun _ => 0)
  | 12 => zIA 6 (fun _ => 0)
  | 13 => zIA 6 (fun _ => 0)
  | 14 => zIA 6 (fun _ => 0)
  | 15 => zIA 6 (fun _ => 0)
  | 16 => zIA 6 (fun _ => 0)
  | 17 => zIA 6 (fun _ => 0)
  | 18 => zOb 1 [.ref 19, .int 1]
  | 19 => zRA 4 11 (fun i => if i < 11 then some (20 + i) else none)
  | 20 => zLA 25 (fun _ => 0)
  | 21 => zLA 25 (fun _ => 0)
  | 22 => zLA 25 (fun _ => 0)
  | 23 => zLA 25 (fun _ => 0)
  | 24 => zLA 25 (fun _ => 0)
  | 25 => zLA 25 (fun _ => 0)
  | 26 => zLA 25 (fun _ => 0)
  | 27 => zLA 25 (fun _ => 0)
  | 28 => zLA 25 (fun _ => 0)
  | 29 => zLA 25 (fun _ => 0)
  | 30 => zLA 25 (fun _ => 0)
  | 31 => zOb 2 [.ref 32, .ref 45, .ref 46, .ref 47, .ref 48, .int 1, .long 0, .long 0, .long 1]
  | 32 => zOb 1 [.ref 33, .int 1]
  | 33 => zRA 4 11 (fun i => if i < 11 then some (34 + i) else none)
  | 34 => zLA 25 (fun _ => 0)
  | 35 => zLA 25 (fun _ => 0)
  | 36 => zLA 25 (fun _ => 0)
  | 37 => zLA 25 (fun _ => 0)
  | 38 => zLA 25 (fun _ => 0)
  | 39 => zLA 25 (fun _ => 0)
  | 40 => zLA 25 (fun _ => 0)
  | 41 => zLA 25 (fun _ => 0)
  | 42 => zLA 25 (fun _ => 0)
  | 43 => zLA 25 (fun _ => 0)
  | 44 => zLA 25 (fun _ => 0)
  | 45 => zIA 6 (fun _ => 0)
  | 46 => zIA 10 (fun _ => 0)
  | 47 => zZA 10 (fun _ => 0)
  | 48 => zLA 7 (fun _ => 0)
  | 49 => zMo 0 0 0 0 0
  | 50 => zIA 8 (upd (upd (upd (upd (upd (upd (upd (upd (fun _ => 0) 0 (1)) 1 (1)) 2 (1)) 3 (1)) 4 (1)) 5 (1)) 6 (1)) 7 (1))
  | 51 => zIA 56 (fun _ => 0)
  | 52 => zIA 7 (fun _ => 0)
  | 53 => zLA 47000 (fun _ => 0)
  | 54 => zLA 47000 (fun _ => 0)
  | 55 => zLA 7 (fun _ => 0)
  | 56 => zLA 7 (fun _ => 0)
  | 57 => zLA 6 (fun _ => 0)
  | 58 => zLA 6 (fun _ => 0)
  | 59 => zIA 7 (fun _ => 0)
  | _ => zIA 7 (fun _ => 0)
def σ0 : zSt := (fun _ => 1, fun _ _ => 0)
theorem i0 (k : Nat) (h : k < 61) {c : va_E} (e : w0 k = c) : zIs w0 k c := ⟨h, e⟩
theorem vld0 : vld σ0 := fun m _ => ⟨Nat.le_refl _, by show 1 ≤ 5; decide, fun i _ => Nat.zero_le _⟩
theorem fo0 {f g : Nat} (hf : zIs w0 f (zOb 0 [.int 1, .ref g])) (hg : zIs w0 g (zIA 6 (fun _ => 0))) : zFo w0 f g 1 (fun _ => 0) := ⟨fun _ => 0, hf, hg, fun i _ => rfl, Nat.le_refl _, by decide, fun i _ => Nat.zero_le _⟩
theorem sys0 : zSys w0 σ0 := by
  refine ⟨i0 0 (by decide) rfl, ⟨_, i0 1 (by decide) rfl, fun j hj => ?_⟩, fun m hm => ?_, ⟨1, fun _ _ => 0, i0 18 (by decide) rfl, ⟨_, i0 19 (by decide) rfl, fun j hj => ?_⟩, fun j hj => ?_⟩, ⟨1, 0, 0, 1, fun _ => 0, fun _ => 0, fun _ => 0, fun _ => 0, i0 31 (by decide) rfl, i0 45 (by decide) rfl, i0 46 (by decide) rfl, i0 47 (by decide) rfl, i0 48 (by decide) rfl⟩, ⟨1, fun _ _ => 0, i0 32 (by decide) rfl, ⟨_, i0 33 (by decide) rfl, fun j hj => ?_⟩, fun j hj => ?_⟩⟩
  · have h : j = 0 ∨ j = 1 ∨ j = 2 ∨ j = 3 ∨ j = 4 ∨ j = 5 ∨ j = 6 ∨ j = 7 := by omega
    rcases h with rfl | rfl | rfl | rfl | rfl | rfl | rfl | rfl <;> rfl
  · have h : m = 0 ∨ m = 1 ∨ m = 2 ∨ m = 3 ∨ m = 4 ∨ m = 5 ∨ m = 6 ∨ m = 7 := by omega
    rcases h with rfl | rfl | rfl | rfl | rfl | rfl | rfl | rfl
    · exact fo0 (i0 2 (by decide) rfl) (i0 10 (by decide) rfl)
    · exact fo0 (i0 3 (by decide) rfl) (i0 11 (by decide) rfl)
    · exact fo0 (i0 4 (by decide) rfl) (i0 12 (by decide) rfl)
    · exact fo0 (i0 5 (by decide) rfl) (i0 13 (by decide) rfl)
    · exact fo0 (i0 6 (by decide) rfl) (i0 14 (by decide) rfl)
    · exact fo0 (i0 7 (by decide) rfl) (i0 15 (by decide) rfl)
    · exact fo0 (i0 8 (by decide) rfl) (i0 16 (by decide) rfl)
    · exact fo0 (i0 9 (by decide) rfl) (i0 17 (by decide) rfl)
  · show (if j < 11 then some (20 + j) else none) = some _
    rw [if_pos hj]
  · have h : j = 0 ∨ j = 1 ∨ j = 2 ∨ j = 3 ∨ j = 4 ∨ j = 5 ∨ j = 6 ∨ j = 7 ∨ j = 8 ∨ j = 9 ∨ j = 10 := by omega
    rcases h with rfl | rfl | rfl | rfl | rfl | rfl | rfl | rfl | rfl | rfl | rfl
    · exact i0 20 (by decide) rfl
    · exact i0 21 (by decide) rfl
    · exact i0 22 (by decide) rfl
    · exact i0 23 (by decide) rfl
    · exact i0 24 (by decide) rfl
    · exact i0 25 (by decide) rfl
    · exact i0 26 (by decide) rfl
    · exact i0 27 (by decide) rfl
    · exact i0 28 (by decide) rfl
    · exact i0 29 (by decide) rfl
    · exact i0 30 (by decide) rfl
  · show (if j < 11 then some (34 + j) else none) = some _
    rw [if_pos hj]
  · have h : j = 0 ∨ j = 1 ∨ j = 2 ∨ j = 3 ∨ j = 4 ∨ j = 5 ∨ j = 6 ∨ j = 7 ∨ j = 8 ∨ j = 9 ∨ j = 10 := by omega
    rcases h with rfl | rfl | rfl | rfl | rfl | rfl | rfl | rfl | rfl | rfl | rfl
    · exact i0 34 (by decide) rfl
    · exact i0 35 (by decide) rfl
    · exact i0 36 (by decide) rfl
    · exact i0 37 (by decide) rfl
    · exact i0 38 (by decide) rfl
    · exact i0 39 (by decide) rfl
    · exact i0 40 (by decide) rfl
    · exact i0 41 (by decide) rfl
    · exact i0 42 (by decide) rfl
    · exact i0 43 (by decide) rfl
    · exact i0 44 (by decide) rfl
theorem ms0 : zMs w0 σ0 := by
  refine ⟨⟨0, 0, 0, 0, 0, i0 49 (by decide) rfl⟩, ⟨⟨_, i0 50 (by decide) rfl, fun m hm => ?_⟩, ⟨_, i0 51 (by decide) rfl, fun m i hm hi => rfl⟩, vld0⟩, ⟨_, i0 52 (by decide) rfl⟩, ⟨_, i0 53 (by decide) rfl⟩, ⟨_, i0 54 (by decide) rfl⟩, ⟨_, i0 55 (by decide) rfl⟩, ⟨_, i0 56 (by decide) rfl⟩, ⟨_, i0 57 (by decide) rfl⟩, ⟨_, i0 58 (by decide) rfl⟩, ⟨_, i0 59 (by decide) rfl⟩, ⟨_, i0 60 (by decide) rfl⟩⟩
  have h : m = 0 ∨ m = 1 ∨ m = 2 ∨ m = 3 ∨ m = 4 ∨ m = 5 ∨ m = 6 ∨ m = 7 := by omega
  rcases h with rfl | rfl | rfl | rfl | rfl | rfl | rfl | rfl <;> rfl
def zAd (b : Nat) (f r1 r2 : Nat → Nat) : Nat → Nat := fun k => if k = 61 then b else if 20 ≤ k ∧ k < 31 then r1 (k - 20) else if 34 ≤ k ∧ k < 45 then r2 (k - 34) else f k
theorem map_up {f : Nat → Option Nat} {ad : Nat → Nat} {i x : Nat} : (fun j => (va_up f i (some x) j).map ad) = va_up (fun j => (f j).map ad) i (some (ad x)) := by
  funext j
  unfold va_up
  split <;> rfl
theorem map_r1 {b : Nat} {f r1 r2 : Nat → Nat} : (fun i => (if i < 11 then some (20 + i) else none : Option Nat).map (zAd b f r1 r2)) = (fun i => if i < 11 then some (r1 i) else none) := by
  funext i
  by_cases h : i < 11
  · rw [if_pos h, if_pos h]
    show some (zAd b f r1 r2 (20 + i)) = _
    unfold zAd
    rw [if_neg (by omega), if_pos (by omega), show 20 + i - 20 = i by omega]
  · rw [if_neg h, if_neg h]; rfl
theorem map_r2 {b : Nat} {f r1 r2 : Nat → Nat} : (fun i => (if i < 11 then some (34 + i) else none : Option Nat).map (zAd b f r1 r2)) = (fun i => if i < 11 then some (r2 i) else none) := by
  funext i
  by_cases h : i < 11
  · rw [if_pos h, if_pos h]
    show some (zAd b f r1 r2 (34 + i)) = _
    unfold zAd
    rw [if_neg (by omega), if_neg (by omega), if_pos (by omega), show 34 + i - 34 = i by omega]
  · rw [if_neg h, if_neg h]; rfl
