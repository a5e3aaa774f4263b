/-! ===== the law: its loop ===== -/
theorem dL_law_33 : decode code 33 = .ok (.tableswitch 1396 0 24 #[115, 148, 191, 224, 257, 290, 323, 451, 566, 769, 897, 940, 994, 1028, 1061, 1084, 1117, 1171, 1204, 1237, 1270, 1293, 1316, 1349, 1382], 115) := by decide +kernel
theorem dL_law_1436 : decode code 1436 = .ok (.ireturn, 1) := by decide +kernel
section ZLL
variable {E : zE} {p : Program} {e : Env} {s : State} {m : MethodId} {below : List Frame} {meth : Method} {c : Code} {b L : Nat} {xs : Nat → Int32}
theorem lw_sw (C : zYc E p s m meth c b L xs) (hL31 : L < 2 ^ 31) {k : Nat} (hk : k + 10 < L) {w : zWd} {σ : zSt} (hs : zSys w σ) (hm : zMs w σ) (K : ∀ w2 σ2, zSys w2 σ2 → zMs w2 σ2 → zY E p e s m below meth c b 1429 [.ref 61, .ref 0, .ref 49, .int (nI k)] [] w2) (y : Int32) : zY E p e s m below meth c b 33 [.ref 61, .ref 0, .ref 49, .int (nI k)] [.int y] w := by
  by_cases h : y.toInt < 0 ∨ 24 < y.toInt
  · intro H locs ls hP hS hL
    exact lv_tableOut (tgt := 1429) C.1 C.2.1 dL_law_33 h (by decide) (K w σ hs hm H locs ls hP hS hL)
  · have h1 : ¬ y.toInt < 0 := fun z => h (Or.inl z)
    have h2 : ¬ 24 < y.toInt := fun z => h (Or.inr z)
    have hc : y.toInt = 0 ∨ y.toInt = 1 ∨ y.toInt = 2 ∨ y.toInt = 3 ∨ y.toInt = 4 ∨ y.toInt = 5 ∨ y.toInt = 6 ∨ y.toInt = 7 ∨ y.toInt = 8 ∨ y.toInt = 9 ∨ y.toInt = 10 ∨ y.toInt = 11 ∨ y.toInt = 12 ∨ y.toInt = 13 ∨ y.toInt = 14 ∨ y.toInt = 15 ∨ y.toInt = 16 ∨ y.toInt = 17 ∨ y.toInt = 18 ∨ y.toInt = 19 ∨ y.toInt = 20 ∨ y.toInt = 21 ∨ y.toInt = 22 ∨ y.toInt = 23 ∨ y.toInt = 24 := by omega
    rcases hc with q | q | q | q | q | q | q | q | q | q | q | q | q | q | q | q | q | q | q | q | q | q | q | q | q
    · intro H locs ls hP hS hL
      exact lv_tableIn (off := 115) (tgt := 148) C.1 C.2.1 dL_law_33 h1 h2 (by rw [q]; rfl) (by decide) (lc_0 C hL31 hk hs hm K H locs ls hP hS hL)
    · intro H locs ls hP hS hL
      exact lv_tableIn (off := 148) (tgt := 181) C.1 C.2.1 dL_law_33 h1 h2 (by rw [q]; rfl) (by decide) (lc_1 C hL31 hk hs hm K H locs ls hP hS hL)
    · intro H locs ls hP hS hL
      exact lv_tableIn (off := 191) (tgt := 224) C.1 C.2.1 dL_law_33 h1 h2 (by rw [q]; rfl) (by decide) (lc_2 C hL31 hk hs hm K H locs ls hP hS hL)
    · intro H locs ls hP hS hL
      exact lv_tableIn (off := 224) (tgt := 257) C.1 C.2.1 dL_law_33 h1 h2 (by rw [q]; rfl) (by decide) (lc_3 C hL31 hk hs hm K H locs ls hP hS hL)
    · intro H locs ls hP hS hL
      exact lv_tableIn (off := 257) (tgt := 290) C.1 C.2.1 dL_law_33 h1 h2 (by rw [q]; rfl) (by decide) (lc_4 C hL31 hk hs hm K H locs ls hP hS hL)
    · intro H locs ls hP hS hL
      exact lv_tableIn (off := 290) (tgt := 323) C.1 C.2.1 dL_law_33 h1 h2 (by rw [q]; rfl) (by decide) (lc_5 C hL31 hk hs hm K H locs ls hP hS hL)
    · intro H locs ls hP hS hL
      exact lv_tableIn (off := 323) (tgt := 356) C.1 C.2.1 dL_law_33 h1 h2 (by rw [q]; rfl) (by decide) (lc_6 C hL31 hk hs hm K H locs ls hP hS hL)
    · intro H locs ls hP hS hL
      exact lv_tableIn (off := 451) (tgt := 484) C.1 C.2.1 dL_law_33 h1 h2 (by rw [q]; rfl) (by decide) (lc_7 C hL31 hk hs hm K H locs ls hP hS hL)
    · intro H locs ls hP hS hL
      exact lv_tableIn (off := 566) (tgt := 599) C.1 C.2.1 dL_law_33 h1 h2 (by rw [q]; rfl) (by decide) (lc_8 C hL31 hk hs hm K H locs ls hP hS hL)
    · intro H locs ls hP hS hL
      exact lv_tableIn (off := 769) (tgt := 802) C.1 C.2.1 dL_law_33 h1 h2 (by rw [q]; rfl) (by decide) (lc_9 C hL31 hk hs hm K H locs ls hP hS hL)
    · intro H locs ls hP hS hL
      exact lv_tableIn (off := 897) (tgt := 930) C.1 C.2.1 dL_law_33 h1 h2 (by rw [q]; rfl) (by decide) (lc_10 C hL31 hk hs hm K H locs ls hP hS hL)
    · intro H locs ls hP hS hL
      exact lv_tableIn (off := 940) (tgt := 973) C.1 C.2.1 dL_law_33 h1 h2 (by rw [q]; rfl) (by decide) (lc_11 C hL31 hk hs hm K H locs ls hP hS hL)
    · intro H locs ls hP hS hL
      exact lv_tableIn (off := 994) (tgt := 1027) C.1 C.2.1 dL_law_33 h1 h2 (by rw [q]; rfl) (by decide) (lc_12 C hL31 hk hs hm K H locs ls hP hS hL)
    · intro H locs ls hP hS hL
      exact lv_tableIn (off := 1028) (tgt := 1061) C.1 C.2.1 dL_law_33 h1 h2 (by rw [q]; rfl) (by decide) (lc_13 C hL31 hk hs hm K H locs ls hP hS hL)
    · intro H locs ls hP hS hL
      exact lv_tableIn (off := 1061) (tgt := 1094) C.1 C.2.1 dL_law_33 h1 h2 (by rw [q]; rfl) (by decide) (lc_14 C hL31 hk hs hm K H locs ls hP hS hL)
    · intro H locs ls hP hS hL
      exact lv_tableIn (off := 1084) (tgt := 1117) C.1 C.2.1 dL_law_33 h1 h2 (by rw [q]; rfl) (by decide) (lc_15 C hL31 hk hs hm K H locs ls hP hS hL)
    · intro H locs ls hP hS hL
      exact lv_tableIn (off := 1117) (tgt := 1150) C.1 C.2.1 dL_law_33 h1 h2 (by rw [q]; rfl) (by decide) (lc_16 C hL31 hk hs hm K H locs ls hP hS hL)
    · intro H locs ls hP hS hL
      exact lv_tableIn (off := 1171) (tgt := 1204) C.1 C.2.1 dL_law_33 h1 h2 (by rw [q]; rfl) (by decide) (lc_17 C hL31 hk hs hm K H locs ls hP hS hL)
    · intro H locs ls hP hS hL
      exact lv_tableIn (off := 1204) (tgt := 1237) C.1 C.2.1 dL_law_33 h1 h2 (by rw [q]; rfl) (by decide) (lc_18 C hL31 hk hs hm K H locs ls hP hS hL)
    · intro H locs ls hP hS hL
      exact lv_tableIn (off := 1237) (tgt := 1270) C.1 C.2.1 dL_law_33 h1 h2 (by rw [q]; rfl) (by decide) (lc_19 C hL31 hk hs hm K H locs ls hP hS hL)
    · intro H locs ls hP hS hL
      exact lv_tableIn (off := 1270) (tgt := 1303) C.1 C.2.1 dL_law_33 h1 h2 (by rw [q]; rfl) (by decide) (lc_20 C hL31 hk hs hm K H locs ls hP hS hL)
    · intro H locs ls hP hS hL
      exact lv_tableIn (off := 1293) (tgt := 1326) C.1 C.2.1 dL_law_33 h1 h2 (by rw [q]; rfl) (by decide) (lc_21 C hL31 hk hs hm K H locs ls hP hS hL)
    · intro H locs ls hP hS hL
      exact lv_tableIn (off := 1316) (tgt := 1349) C.1 C.2.1 dL_law_33 h1 h2 (by rw [q]; rfl) (by decide) (lc_22 C hL31 hk hs hm K H locs ls hP hS hL)
    · intro H locs ls hP hS hL
      exact lv_tableIn (off := 1349) (tgt := 1382) C.1 C.2.1 dL_law_33 h1 h2 (by rw [q]; rfl) (by decide) (lc_23 C hL31 hk hs hm K H locs ls hP hS hL)
    · intro H locs ls hP hS hL
      exact lv_tableIn (off := 1382) (tgt := 1415) C.1 C.2.1 dL_law_33 h1 h2 (by rw [q]; rfl) (by decide) (lc_24 C hL31 hk hs hm K H locs ls hP hS hL)
theorem lw_loop (C : zYc E p s m meth c b L xs) (hL : L ≤ 5632) : ∀ (r k : Nat) (w : zWd) (σ : zSt), L < k + r → k ≤ L → zSys w σ → zMs w σ → zY E p e s m below meth c b 18 [.ref 61, .ref 0, .ref 49, .int (nI k)] [] w
  | 0, k, w, σ, h1, h2, hs, hm => by omega
  | r + 1, k, w, σ, h1, h2, hs, hm => by
    have hL31 : L < 2 ^ 31 := by omega
    refine zY.run C kLh 2 rfl ?_
    refine zY.len C kLh rfl ?_
    refine zY.run C kLh 2 rfl ?_
    have eL : (nI L - 11).toInt = (L : Int) - 11 := by
      rw [Int32.toInt_sub, nI_toInt (by omega)]
      have : (11 : Int32).toInt = 11 := by decide
      rw [this]
      exact Int.bmod_eq_of_le (by omega) (by omega)
    refine zY.ic C kLh rfl (fun _ => ?_) (fun z => ?_)
    · refine zY.run C kLh 1 rfl ?_
      intro H locs ls hP hS hL
      refine va_forget hS.2.2 ?_
      refine W.widen (k := 600000) (n := 7302250) (by decide) (by decide) ?_
      exact lw_ret C.1 C.2.1 C.2.2.1 C.2.2.2.2.2.2.2.2.1 dL_law_1436
    · have hk : k + 10 < L := by
        have z : ¬ (nI L - 11 < nI k) := z
        rw [i32_lt, eL, nI_toInt (by omega)] at z
        omega
      refine zY.run C kLh 2 rfl ?_
      refine zY.ld C kLh rfl hL31 k rfl (by omega) ?_
      refine zY.run C kLh 2 rfl ?_
      refine lw_sw C hL31 hk hs hm (fun w2 σ2 hs2 hm2 => ?_) _
      refine zY.run C kLh 2 rfl ?_
      have e11 : nI k + 11 = nI (k + 11) := nI_p k 11
      rw [e11]
      exact lw_loop C hL r (k + 11) w2 σ2 (by omega) (by omega) hs2 hm2
end ZLL
