section
-- ===== PART A: goes FIRST, ahead of the names: the tables' words, and 'selects' of the private methods out of them =====
/-- a private method of a class that the tables say can be made, by its rows of tables_1 -/
def lw_okq (q : MethodName × Nat) : Prop := (q.1.cls ≠ "java/lang/invoke/MethodHandle" ∧ q.1.cls ≠ "java/lang/invoke/VarHandle") ∧ Cond.instantiable q.1.cls q.2 ∈ tables_1 ∧ Cond.privateMethod q.1 ∈ tables_1 ∧ Cond.instanceMethod q.1 ∈ tables_1
theorem lw_p0 : lw_okq (⟨"SpanMaps$Powers", "multiply", "(LSpanMaps$Fold;I)V"⟩, 2) := ⟨⟨by decide +kernel, by decide +kernel⟩, List.mem_of_getElem? (i := 36) (by decide +kernel), List.mem_of_getElem? (i := 237) (by decide +kernel), List.mem_of_getElem? (i := 238) (by decide +kernel)⟩
theorem lw_p1 : lw_okq (⟨"SpanMaps$Returns", "studyEdge", "(LSpanMaps$Fold;I)V"⟩, 9) := ⟨⟨by decide +kernel, by decide +kernel⟩, List.mem_of_getElem? (i := 52) (by decide +kernel), List.mem_of_getElem? (i := 303) (by decide +kernel), List.mem_of_getElem? (i := 304) (by decide +kernel)⟩
theorem lw_p2 : lw_okq (⟨"SpanMaps$Returns", "settle", "(JJ)Z"⟩, 9) := ⟨⟨by decide +kernel, by decide +kernel⟩, List.mem_of_getElem? (i := 52) (by decide +kernel), List.mem_of_getElem? (i := 342) (by decide +kernel), List.mem_of_getElem? (i := 343) (by decide +kernel)⟩
theorem lw_p3 : lw_okq (⟨"SpanMaps$Returns", "isInside", "(II)Z"⟩, 9) := ⟨⟨by decide +kernel, by decide +kernel⟩, List.mem_of_getElem? (i := 52) (by decide +kernel), List.mem_of_getElem? (i := 349) (by decide +kernel), List.mem_of_getElem? (i := 350) (by decide +kernel)⟩
theorem lw_p4 : lw_okq (⟨"SpanMaps$Returns", "walk", "(LSpanMaps$Fold;II)Z"⟩, 9) := ⟨⟨by decide +kernel, by decide +kernel⟩, List.mem_of_getElem? (i := 52) (by decide +kernel), List.mem_of_getElem? (i := 354) (by decide +kernel), List.mem_of_getElem? (i := 355) (by decide +kernel)⟩
theorem lw_p5 : lw_okq (⟨"SpanMaps$Returns", "nextSpan", "(LSpanMaps$Fold;IIIZ)I"⟩, 9) := ⟨⟨by decide +kernel, by decide +kernel⟩, List.mem_of_getElem? (i := 52) (by decide +kernel), List.mem_of_getElem? (i := 358) (by decide +kernel), List.mem_of_getElem? (i := 359) (by decide +kernel)⟩
theorem lw_p6 : lw_okq (⟨"SpanMapsModel", "slopeOf", "(II)I"⟩, 16) := ⟨⟨by decide +kernel, by decide +kernel⟩, List.mem_of_getElem? (i := 426) (by decide +kernel), List.mem_of_getElem? (i := 514) (by decide +kernel), List.mem_of_getElem? (i := 515) (by decide +kernel)⟩
theorem lw_p7 : lw_okq (⟨"SpanMapsModel", "isPoint", "(IJJ)Z"⟩, 16) := ⟨⟨by decide +kernel, by decide +kernel⟩, List.mem_of_getElem? (i := 426) (by decide +kernel), List.mem_of_getElem? (i := 522) (by decide +kernel), List.mem_of_getElem? (i := 523) (by decide +kernel)⟩
theorem lw_p8 : lw_okq (⟨"SpanMapsModel", "at", "(JJ)V"⟩, 16) := ⟨⟨by decide +kernel, by decide +kernel⟩, List.mem_of_getElem? (i := 426) (by decide +kernel), List.mem_of_getElem? (i := 529) (by decide +kernel), List.mem_of_getElem? (i := 530) (by decide +kernel)⟩
theorem lw_p9 : lw_okq (⟨"SpanMapsModel", "step", "(I)V"⟩, 16) := ⟨⟨by decide +kernel, by decide +kernel⟩, List.mem_of_getElem? (i := 426) (by decide +kernel), List.mem_of_getElem? (i := 536) (by decide +kernel), List.mem_of_getElem? (i := 537) (by decide +kernel)⟩
theorem lw_p10 : lw_okq (⟨"SpanMapsModel", "span", "(I)I"⟩, 16) := ⟨⟨by decide +kernel, by decide +kernel⟩, List.mem_of_getElem? (i := 426) (by decide +kernel), List.mem_of_getElem? (i := 540) (by decide +kernel), List.mem_of_getElem? (i := 541) (by decide +kernel)⟩
theorem lw_p11 : lw_okq (⟨"SpanMapsModel", "told", "(I)J"⟩, 16) := ⟨⟨by decide +kernel, by decide +kernel⟩, List.mem_of_getElem? (i := 426) (by decide +kernel), List.mem_of_getElem? (i := 544) (by decide +kernel), List.mem_of_getElem? (i := 545) (by decide +kernel)⟩
theorem lw_p12 : lw_okq (⟨"SpanMapsModel", "isSpan", "(II)Z"⟩, 16) := ⟨⟨by decide +kernel, by decide +kernel⟩, List.mem_of_getElem? (i := 426) (by decide +kernel), List.mem_of_getElem? (i := 565) (by decide +kernel), List.mem_of_getElem? (i := 566) (by decide +kernel)⟩
theorem lw_p13 : lw_okq (⟨"SpanMapsModel", "covers", "(III)I"⟩, 16) := ⟨⟨by decide +kernel, by decide +kernel⟩, List.mem_of_getElem? (i := 426) (by decide +kernel), List.mem_of_getElem? (i := 569) (by decide +kernel), List.mem_of_getElem? (i := 570) (by decide +kernel)⟩
theorem lw_p14 : lw_okq (⟨"SpanMapsModel", "findWays", "(III)V"⟩, 16) := ⟨⟨by decide +kernel, by decide +kernel⟩, List.mem_of_getElem? (i := 426) (by decide +kernel), List.mem_of_getElem? (i := 578) (by decide +kernel), List.mem_of_getElem? (i := 579) (by decide +kernel)⟩
theorem lw_p15 : lw_okq (⟨"SpanMapsModel", "reach", "(II)I"⟩, 16) := ⟨⟨by decide +kernel, by decide +kernel⟩, List.mem_of_getElem? (i := 426) (by decide +kernel), List.mem_of_getElem? (i := 590) (by decide +kernel), List.mem_of_getElem? (i := 591) (by decide +kernel)⟩
def lw_privs_1 : List (MethodName × Nat) := [(⟨"SpanMaps$Powers", "multiply", "(LSpanMaps$Fold;I)V"⟩, 2), (⟨"SpanMaps$Returns", "studyEdge", "(LSpanMaps$Fold;I)V"⟩, 9), (⟨"SpanMaps$Returns", "settle", "(JJ)Z"⟩, 9), (⟨"SpanMaps$Returns", "isInside", "(II)Z"⟩, 9), (⟨"SpanMaps$Returns", "walk", "(LSpanMaps$Fold;II)Z"⟩, 9), (⟨"SpanMaps$Returns", "nextSpan", "(LSpanMaps$Fold;IIIZ)I"⟩, 9), (⟨"SpanMapsModel", "slopeOf", "(II)I"⟩, 16), (⟨"SpanMapsModel", "isPoint", "(IJJ)Z"⟩, 16), (⟨"SpanMapsModel", "at", "(JJ)V"⟩, 16), (⟨"SpanMapsModel", "step", "(I)V"⟩, 16), (⟨"SpanMapsModel", "span", "(I)I"⟩, 16), (⟨"SpanMapsModel", "told", "(I)J"⟩, 16), (⟨"SpanMapsModel", "isSpan", "(II)Z"⟩, 16), (⟨"SpanMapsModel", "covers", "(III)I"⟩, 16), (⟨"SpanMapsModel", "findWays", "(III)V"⟩, 16), (⟨"SpanMapsModel", "reach", "(II)I"⟩, 16)]
theorem lw_r1 : ∀ q ∈ lw_privs_1, lw_okq q := List.forall_mem_cons.mpr ⟨lw_p0, List.forall_mem_cons.mpr ⟨lw_p1, List.forall_mem_cons.mpr ⟨lw_p2, List.forall_mem_cons.mpr ⟨lw_p3, List.forall_mem_cons.mpr ⟨lw_p4, List.forall_mem_cons.mpr ⟨lw_p5, List.forall_mem_cons.mpr ⟨lw_p6, List.forall_mem_cons.mpr ⟨lw_p7, List.forall_mem_cons.mpr ⟨lw_p8, List.forall_mem_cons.mpr ⟨lw_p9, List.forall_mem_cons.mpr ⟨lw_p10, List.forall_mem_cons.mpr ⟨lw_p11, List.forall_mem_cons.mpr ⟨lw_p12, List.forall_mem_cons.mpr ⟨lw_p13, List.forall_mem_cons.mpr ⟨lw_p14, List.forall_mem_cons.mpr ⟨lw_p15, fun _ h => absurd h List.not_mem_nil⟩⟩⟩⟩⟩⟩⟩⟩⟩⟩⟩⟩⟩⟩⟩⟩
theorem lw_p16 : lw_okq (⟨"SpanMapsModel", "spread", "(II)I"⟩, 16) := ⟨⟨by decide +kernel, by decide +kernel⟩, List.mem_of_getElem? (i := 426) (by decide +kernel), List.mem_of_getElem? (i := 594) (by decide +kernel), List.mem_of_getElem? (i := 595) (by decide +kernel)⟩
theorem lw_p17 : lw_okq (⟨"SpanMapsModel", "findRounds", "(II)V"⟩, 16) := ⟨⟨by decide +kernel, by decide +kernel⟩, List.mem_of_getElem? (i := 426) (by decide +kernel), List.mem_of_getElem? (i := 607) (by decide +kernel), List.mem_of_getElem? (i := 608) (by decide +kernel)⟩
theorem lw_p18 : lw_okq (⟨"SpanMapsModel", "enters", "(IIJJ)V"⟩, 16) := ⟨⟨by decide +kernel, by decide +kernel⟩, List.mem_of_getElem? (i := 426) (by decide +kernel), List.mem_of_getElem? (i := 611) (by decide +kernel), List.mem_of_getElem? (i := 612) (by decide +kernel)⟩
theorem lw_p19 : lw_okq (⟨"SpanMapsModel", "goOn", "(III)I"⟩, 16) := ⟨⟨by decide +kernel, by decide +kernel⟩, List.mem_of_getElem? (i := 426) (by decide +kernel), List.mem_of_getElem? (i := 615) (by decide +kernel), List.mem_of_getElem? (i := 616) (by decide +kernel)⟩
theorem lw_p20 : lw_okq (⟨"SpanMapsModel", "comesBack", "(IJJ)V"⟩, 16) := ⟨⟨by decide +kernel, by decide +kernel⟩, List.mem_of_getElem? (i := 426) (by decide +kernel), List.mem_of_getElem? (i := 619) (by decide +kernel), List.mem_of_getElem? (i := 620) (by decide +kernel)⟩
theorem lw_p21 : lw_okq (⟨"SpanMapsModel", "isOn", "(IJJ)Z"⟩, 16) := ⟨⟨by decide +kernel, by decide +kernel⟩, List.mem_of_getElem? (i := 426) (by decide +kernel), List.mem_of_getElem? (i := 623) (by decide +kernel), List.mem_of_getElem? (i := 624) (by decide +kernel)⟩
theorem lw_p22 : lw_okq (⟨"SpanMapsModel", "just", "(II)I"⟩, 16) := ⟨⟨by decide +kernel, by decide +kernel⟩, List.mem_of_getElem? (i := 426) (by decide +kernel), List.mem_of_getElem? (i := 636) (by decide +kernel), List.mem_of_getElem? (i := 637) (by decide +kernel)⟩
theorem lw_p23 : lw_okq (⟨"SpanMapsModel", "hasPeriod", "(II)Z"⟩, 16) := ⟨⟨by decide +kernel, by decide +kernel⟩, List.mem_of_getElem? (i := 426) (by decide +kernel), List.mem_of_getElem? (i := 644) (by decide +kernel), List.mem_of_getElem? (i := 645) (by decide +kernel)⟩
theorem lw_p24 : lw_okq (⟨"SpanMapsModel", "topOf", "(I)I"⟩, 16) := ⟨⟨by decide +kernel, by decide +kernel⟩, List.mem_of_getElem? (i := 426) (by decide +kernel), List.mem_of_getElem? (i := 664) (by decide +kernel), List.mem_of_getElem? (i := 665) (by decide +kernel)⟩
def lw_privs_2 : List (MethodName × Nat) := [(⟨"SpanMapsModel", "spread", "(II)I"⟩, 16), (⟨"SpanMapsModel", "findRounds", "(II)V"⟩, 16), (⟨"SpanMapsModel", "enters", "(IIJJ)V"⟩, 16), (⟨"SpanMapsModel", "goOn", "(III)I"⟩, 16), (⟨"SpanMapsModel", "comesBack", "(IJJ)V"⟩, 16), (⟨"SpanMapsModel", "isOn", "(IJJ)Z"⟩, 16), (⟨"SpanMapsModel", "just", "(II)I"⟩, 16), (⟨"SpanMapsModel", "hasPeriod", "(II)Z"⟩, 16), (⟨"SpanMapsModel", "topOf", "(I)I"⟩, 16)]
theorem lw_r2 : ∀ q ∈ lw_privs_2, lw_okq q := List.forall_mem_cons.mpr ⟨lw_p16, List.forall_mem_cons.mpr ⟨lw_p17, List.forall_mem_cons.mpr ⟨lw_p18, List.forall_mem_cons.mpr ⟨lw_p19, List.forall_mem_cons.mpr ⟨lw_p20, List.forall_mem_cons.mpr ⟨lw_p21, List.forall_mem_cons.mpr ⟨lw_p22, List.forall_mem_cons.mpr ⟨lw_p23, List.forall_mem_cons.mpr ⟨lw_p24, fun _ h => absurd h List.not_mem_nil⟩⟩⟩⟩⟩⟩⟩⟩⟩
def lw_privs : List (MethodName × Nat) := lw_privs_1 ++ (lw_privs_2)
def lw_tbl : List Cond := k2_sels lw_privs ++ tables_1
theorem lw_privs_ok : ∀ q ∈ lw_privs, lw_okq q := by
  show ∀ q ∈ lw_privs_1 ++ (lw_privs_2), lw_okq q
  exact List.forall_mem_append.mpr ⟨lw_r1, lw_r2⟩
end
section
/-! ===== BEGIN words of one list among another's, by their places ===== -/
theorem goodIn_r {big : List Cond} (ws : List Cond) (ps : List Nat) (hp : ws = ps.filterMap (fun i => big[i]?)) (h : ws.all goodWord = true) : GoodIn big ws := by
  intro w hw
  have h1 := List.all_eq_true.mp h w hw
  rw [hp] at hw
  obtain ⟨i, -, hi⟩ := List.mem_filterMap.mp hw
  have hm : w ∈ big := by first | exact List.mem_of_getElem? hi | exact List.getElem?_mem hi
  exact ⟨hm, good_of_word h1⟩
theorem goodIn_app {big a b : List Cond} (ha : GoodIn big a) (hb : GoodIn big b) : GoodIn big (a ++ b) := fun w h => (List.mem_append.mp h).elim (ha w) (hb w)
theorem goodIn_ca {big a b : List Cond} {c : Cond} (ha : GoodIn big (c :: a)) (hb : GoodIn big b) : GoodIn big (c :: (a ++ b)) := fun w h => (List.mem_cons.mp h).elim (fun e => ha w (List.mem_cons.mpr (Or.inl e))) (fun h => (List.mem_append.mp h).elim (fun h => ha w (List.mem_cons.mpr (Or.inr h))) (hb w))
theorem goodIn_sub {big ws : List Cond} (hm : ∀ w ∈ ws, w ∈ big) (h : ws.all goodWord = true) : GoodIn big ws := fun w hw => ⟨hm w hw, good_of_word (List.all_eq_true.mp h w hw)⟩
/-! ===== END ===== -/

def RX0 : String := "SpanMaps$Fold"
def TX0 : u_T := fun k => match k with
  | 0 => ("SpanMaps$Fold", "pieces", "I", false)
  | _ => ("SpanMaps$Fold", "led", "[I", true)
def tyX0 : Nat → FieldType := fun k => match k with
  | 0 => .int
  | _ => .array .int
abbrev wsX00 : List Cond := u_ws RX0 TX0 2
theorem nmX0 : ∀ a, a < 2 → ∀ b, b < 2 → a ≠ b → (TX0 a).2.1 ≠ (TX0 b).2.1 := by decide +kernel
theorem tyX0_ok : ∀ k, k < 2 → parseFieldDescriptor (TX0 k).2.2.1 = some (tyX0 k) := by decide +kernel
def RX1 : String := "SpanMaps$Powers"
def TX1 : u_T := fun k => match k with
  | 0 => ("SpanMaps$Powers", "rows", "[[J", true)
  | _ => ("SpanMaps$Powers", "spans", "I", false)
def tyX1 : Nat → FieldType := fun k => match k with
  | 0 => .array (.array .long)
  | _ => .int
abbrev wsX10 : List Cond := u_ws RX1 TX1 2
theorem nmX1 : ∀ a, a < 2 → ∀ b, b < 2 → a ≠ b → (TX1 a).2.1 ≠ (TX1 b).2.1 := by decide +kernel
theorem tyX1_ok : ∀ k, k < 2 → parseFieldDescriptor (TX1 k).2.2.1 = some (tyX1 k) := by decide +kernel
def RX2 : String := "SpanMaps$Returns"
def TX2 : u_T := fun k => match k with
  | 0 => ("SpanMaps$Returns", "powers", "LSpanMaps$Powers;", true)
  | 1 => ("SpanMaps$Returns", "cornerPeriod", "[I", true)
  | 2 => ("SpanMaps$Returns", "edgePeriod", "[I", true)
  | 3 => ("SpanMaps$Returns", "edgeStill", "[Z", true)
  | 4 => ("SpanMaps$Returns", "newWays", "[J", true)
  | 5 => ("SpanMaps$Returns", "spans", "I", false)
  | 6 => ("SpanMaps$Returns", "toPass", "J", false)
  | 7 => ("SpanMaps$Returns", "foundAbove", "J", false)
  | _ => ("SpanMaps$Returns", "foundBelow", "J", false)
def tyX2 : Nat → FieldType := fun k => match k with
  | 0 => .object "SpanMaps$Powers"
  | 1 => .array .int
  | 2 => .array .int
  | 3 => .array .boolean
  | 4 => .array .long
  | 5 => .int
  | 6 => .long
  | 7 => .long
  | _ => .long
abbrev wsX20 : List Cond := u_ws RX2 TX2 9
theorem nmX2 : ∀ a, a < 9 → ∀ b, b < 9 → a ≠ b → (TX2 a).2.1 ≠ (TX2 b).2.1 := by decide +kernel
theorem tyX2_ok : ∀ k, k < 9 → parseFieldDescriptor (TX2 k).2.2.1 = some (tyX2 k) := by decide +kernel
def RX3 : String := "SpanMaps"
def TX3 : u_T := fun k => match k with
  | 0 => ("SpanMaps", "folds", "[LSpanMaps$Fold;", true)
  | 1 => ("SpanMaps", "powers", "LSpanMaps$Powers;", true)
  | _ => ("SpanMaps", "returns", "LSpanMaps$Returns;", true)
def tyX3 : Nat → FieldType := fun k => match k with
  | 0 => .array (.object "SpanMaps$Fold")
  | 1 => .object "SpanMaps$Powers"
  | _ => .object "SpanMaps$Returns"
abbrev wsX30 : List Cond := u_ws RX3 TX3 3
theorem nmX3 : ∀ a, a < 3 → ∀ b, b < 3 → a ≠ b → (TX3 a).2.1 ≠ (TX3 b).2.1 := by decide +kernel
theorem tyX3_ok : ∀ k, k < 3 → parseFieldDescriptor (TX3 k).2.2.1 = some (tyX3 k) := by decide +kernel
def RX4 : String := "SpanMapsModel"
def TX4 : u_T := fun k => match k with
  | 0 => ("SpanMapsModel", "size", "[I", true)
  | 1 => ("SpanMapsModel", "led", "[I", true)
  | 2 => ("SpanMapsModel", "draft", "[I", true)
  | 3 => ("SpanMapsModel", "above", "J", false)
  | 4 => ("SpanMapsModel", "below", "J", false)
  | 5 => ("SpanMapsModel", "roundAbove", "[J", true)
  | 6 => ("SpanMapsModel", "roundBelow", "[J", true)
  | 7 => ("SpanMapsModel", "roundMany", "I", false)
  | 8 => ("SpanMapsModel", "endless", "Z", false)
  | 9 => ("SpanMapsModel", "endlessJust", "Z", false)
  | 10 => ("SpanMapsModel", "partS", "[J", true)
  | 11 => ("SpanMapsModel", "partT", "[J", true)
  | 12 => ("SpanMapsModel", "many", "[J", true)
  | 13 => ("SpanMapsModel", "next", "[J", true)
  | 14 => ("SpanMapsModel", "spans", "[I", true)
  | _ => ("SpanMapsModel", "tried", "[I", true)
def tyX4 : Nat → FieldType := fun k => match k with
  | 0 => .array .int
  | 1 => .array .int
  | 2 => .array .int
  | 3 => .long
  | 4 => .long
  | 5 => .array .long
  | 6 => .array .long
  | 7 => .int
  | 8 => .boolean
  | 9 => .boolean
  | 10 => .array .long
  | 11 => .array .long
  | 12 => .array .long
  | 13 => .array .long
  | 14 => .array .int
  | _ => .array .int
abbrev wsX40 : List Cond := u_ws RX4 TX4 16
theorem nmX4 : ∀ a, a < 16 → ∀ b, b < 16 → a ≠ b → (TX4 a).2.1 ≠ (TX4 b).2.1 := by decide +kernel
theorem tyX4_ok : ∀ k, k < 16 → parseFieldDescriptor (TX4 k).2.2.1 = some (tyX4 k) := by decide +kernel
def RJ9 : String := "java/lang/Math"
def RL : String := "SpanMapsLaw"
abbrev zCl : List vw_C := [(RX0, TX0, 2), (RX1, TX1, 2), (RX2, TX2, 9), (RX3, TX3, 3), (RX4, TX4, 16)]
end
section
/-! ===== a pure picture of the whole system: 61 cells by number, their addresses by a map; a method's walk as a relation over it ===== -/
abbrev zWd : Type := Nat → va_E
abbrev zE : Type := Launch × va_G × (Nat → Nat) × (Nat → Nat)
abbrev zM : Type := MethodName × ByteArray × Nat × Option FieldType
abbrev zTb : Type := List (Nat × Instr × Nat × Value)
def zU : Value := .retAddr 0
def zv (ad : Nat → Nat) : Value → Value
  | .ref a => .ref (ad a)
  | v => v
def zc (ad ca : Nat → Nat) : va_E → va_E
  | .inl (k, n, .inr (.inr (.inr (.inr f)))) => .inl (ca k, n, .inr (.inr (.inr (.inr (fun j => (f j).map ad)))))
  | .inl (k, n, .inl f) => .inl (ca k, n, .inl f)
  | .inl (k, n, .inr (.inl f)) => .inl (ca k, n, .inr (.inl f))
  | .inl (k, n, .inr (.inr (.inl f))) => .inl (ca k, n, .inr (.inr (.inl f)))
  | .inl (k, n, .inr (.inr (.inr (.inl f)))) => .inl (ca k, n, .inr (.inr (.inr (.inl f))))
  | .inr (ci, fs) => .inr (ci, fs.map (zv ad))
def zty (ca : Nat → Nat) : List (ClassId × FieldType) := [(ca 0, .int), (ca 1, .long), (ca 2, .boolean), (ca 3, .object "SpanMaps$Fold"), (ca 4, .array .long)]
def zW (ad ca : Nat → Nat) (w : zWd) : va_W := (List.range 61).map fun k => (ad k, zc ad ca (w k))
def zA (ad : Nat → Nat) : Nat → Prop := fun q => ∃ k, k < 61 ∧ q = ad k
def zI (ad : Nat → Nat) : Prop := ∀ i j, i < 61 → j < 61 → ad i = ad j → i = j
def zIs (w : zWd) (a : Nat) (c : va_E) : Prop := a < 61 ∧ w a = c
theorem zW_k {ad ca : Nat → Nat} {w : zWd} {k : Nat} (h1 : k < 61) : (zW ad ca w)[k]? = some (ad k, zc ad ca (w k)) := by
  simp [zW, h1]
theorem zW_at {ad ca : Nat → Nat} {w : zWd} {k : Nat} {c : va_E} (h : zIs w k c) : (zW ad ca w)[k]? = some (ad k, zc ad ca c) := by
  rw [zW_k h.1, h.2]
theorem zW_set {ad ca : Nat → Nat} {w : zWd} {k : Nat} (c : va_E) (h : k < 61) : (zW ad ca w).set k (ad k, zc ad ca c) = zW ad ca (va_up w k c) := by
  apply List.ext_getElem?
  intro j
  by_cases hj : j = k
  · subst hj
    rw [List.getElem?_set_self (by simpa [zW] using h), zW_k h]
    simp [va_up]
  · rw [List.getElem?_set_ne (fun q => hj q.symm)]
    by_cases h2 : j < 61
    · rw [zW_k h2, zW_k h2]
      simp [va_up, hj]
    · simp [zW, h2]
theorem zW_inv {ad ca : Nat → Nat} {w : zWd} {k : Nat} {q : Nat × va_E} (h : (zW ad ca w)[k]? = some q) : k < 61 ∧ q.1 = ad k := by
  have h1 : k < 61 := by
    have := (List.getElem?_eq_some_iff.mp h).1
    simpa [zW] using this
  rw [zW_k h1] at h
  cases h
  exact ⟨h1, rfl⟩
theorem zD {ad ca : Nat → Nat} {w : zWd} (h : zI ad) : va_D (zA ad) (zW ad ca w) := by
  refine ⟨fun i j p q hp hq e => ?_, fun k q hq => ?_⟩
  · have a1 := zW_inv hp
    have a2 := zW_inv hq
    exact h i j a1.1 a2.1 (by rw [← a1.2, ← a2.2]; exact e)
  · have a1 := zW_inv hq
    exact ⟨k, a1.1, a1.2⟩
-- the locals
def zpr (ad : Nat → Nat) (L : List Value) : List (Nat × Value) := (List.range L.length).filterMap (fun i => match L[i]? with
  | some v => if v = zU then none else some (i, zv ad v)
  | none => none)
theorem mem_zpr {ad : Nat → Nat} {L : List Value} {q : Nat × Value} : q ∈ zpr ad L ↔ ∃ v, L[q.1]? = some v ∧ v ≠ zU ∧ q.2 = zv ad v := by
  unfold zpr
  rw [List.mem_filterMap]
  constructor
  · rintro ⟨i, hi, h⟩
    cases hv : L[i]? with
    | none => rw [hv] at h; cases h
    | some v =>
      rw [hv] at h
      by_cases hz : v = zU
      · simp [hz] at h
      · simp [hz] at h
        subst h
        exact ⟨v, hv, hz, rfl⟩
  · rintro ⟨v, h1, h2, h3⟩
    refine ⟨q.1, List.mem_range.mpr (List.getElem?_eq_some_iff.mp h1).1, ?_⟩
    rw [h1]
    simp [h2, ← h3]
def zL (ad : Nat → Nat) (ls : Array Slot) (n : Nat) (L : List Value) : Prop := L.length = n ∧ lv_has ls n (zpr ad L)
theorem zL.at {ad : Nat → Nat} {ls : Array Slot} {n : Nat} {L : List Value} (h : zL ad ls n L) {i : Nat} {v : Value} (hv : L[i]? = some v) (hz : v ≠ zU) : ls[i]? = some (.val (zv ad v)) :=
  h.2.2.2 (i, zv ad v) (mem_zpr.mpr ⟨v, hv, hz, rfl⟩)
def zkl (L : List Value) : Nat → List Value
  | 0 => L
  | j + 1 => if (L.getD j zU).category = 2 then L.set j zU else L
def zst1 (L : List Value) (i : Nat) (v : Value) : List Value := (zkl L i).set i v
def zst2 (L : List Value) (i : Nat) (v : Value) : List Value := ((zkl L i).set i v).set (i + 1) zU
theorem zkl_len (L : List Value) (i : Nat) : (zkl L i).length = L.length := by
  cases i with
  | zero => rfl
  | succ j =>
    show (if (L.getD j zU).category = 2 then L.set j zU else L).length = L.length
    split <;> simp
theorem zkl_at {L : List Value} {i j : Nat} {x : Value} (h : (zkl L i)[j]? = some x) (hz : x ≠ zU) : L[j]? = some x ∧ ¬ (j + 1 = i ∧ x.category = 2) := by
  cases i with
  | zero => exact ⟨h, fun q => by omega⟩
  | succ k =>
    have h : (if (L.getD k zU).category = 2 then L.set k zU else L)[j]? = some x := h
    split at h
    next hc =>
      by_cases hj : k = j
      · subst hj
        by_cases hl : k < L.length
        · rw [List.getElem?_set_self hl] at h
          exact absurd (Option.some.inj h).symm hz
        · simp [hl] at h
      · rw [List.getElem?_set_ne hj] at h
        exact ⟨h, fun q => hj (by omega)⟩
    next hc =>
      refine ⟨h, fun q => ?_⟩
      have e : k = j := by omega
      subst e
      simp [List.getD, h, q.2] at hc
theorem zL.st1 {ad : Nat → Nat} {ls' : Array Slot} {n : Nat} {L : List Value} {i : Nat} {v : Value} (hn : L.length = n)
    (h : lv_has ls' n ((i, zv ad v) :: (zpr ad L).filter (fun q => !(q.1 == i) && !(q.1 + 1 == i && q.2.category == 2)))) : zL ad ls' n (zst1 L i v) := by
  refine ⟨by rw [zst1, List.length_set, zkl_len, hn], h.1, h.2.1, fun q hq => ?_⟩
  obtain ⟨x, h1, h2, h3⟩ := mem_zpr.mp hq
  refine h.2.2 q ?_
  unfold zst1 at h1
  by_cases hi : i = q.1
  · have hl : i < (zkl L i).length := by
      have := (List.getElem?_eq_some_iff.mp h1).1
      rw [List.length_set] at this
      omega
    rw [← hi, List.getElem?_set_self hl] at h1
    cases h1
    exact List.mem_cons.mpr (Or.inl (by rw [hi, ← h3]))
  · rw [List.getElem?_set_ne hi] at h1
    obtain ⟨g1, g2⟩ := zkl_at h1 h2
    refine List.mem_cons.mpr (Or.inr (List.mem_filter.mpr ⟨mem_zpr.mpr ⟨x, g1, h2, h3⟩, ?_⟩))
    have hc : q.2.category = x.category := by rw [h3]; cases x <;> rfl
    simp only [Bool.and_eq_true, Bool.not_eq_true', beq_eq_false_iff_ne, Bool.and_eq_false_iff]
    refine ⟨fun e => hi e.symm, ?_⟩
    by_cases hq1 : q.1 + 1 = i
    · right
      intro e
      exact g2 ⟨hq1, by rw [← hc]; exact e⟩
    · left
      exact hq1
theorem zL.st2 {ad : Nat → Nat} {ls' : Array Slot} {n : Nat} {L : List Value} {i : Nat} {v : Value} (hn : L.length = n)
    (h : lv_has ls' n ((i, zv ad v) :: (zpr ad L).filter (fun q => !(q.1 == i) && (!(q.1 == i + 1) && !(q.1 + 1 == i && q.2.category == 2))))) : zL ad ls' n (zst2 L i v) := by
  refine ⟨by rw [zst2, List.length_set, List.length_set, zkl_len, hn], h.1, h.2.1, fun q hq => ?_⟩
  obtain ⟨x, h1, h2, h3⟩ := mem_zpr.mp hq
  refine h.2.2 q ?_
  unfold zst2 at h1
  by_cases hi1 : i + 1 = q.1
  · have hl : i + 1 < ((zkl L i).set i v).length := by
      have := (List.getElem?_eq_some_iff.mp h1).1
      rw [List.length_set] at this
      omega
    rw [← hi1, List.getElem?_set_self hl] at h1
    exact absurd (Option.some.inj h1).symm h2
  · rw [List.getElem?_set_ne hi1] at h1
    by_cases hi : i = q.1
    · have hl : i < (zkl L i).length := by
        have := (List.getElem?_eq_some_iff.mp h1).1
        rw [List.length_set] at this
        omega
      rw [← hi, List.getElem?_set_self hl] at h1
      cases h1
      exact List.mem_cons.mpr (Or.inl (by rw [hi, ← h3]))
    · rw [List.getElem?_set_ne hi] at h1
      obtain ⟨g1, g2⟩ := zkl_at h1 h2
      refine List.mem_cons.mpr (Or.inr (List.mem_filter.mpr ⟨mem_zpr.mpr ⟨x, g1, h2, h3⟩, ?_⟩))
      have hc : q.2.category = x.category := by rw [h3]; cases x <;> rfl
      simp only [Bool.and_eq_true, Bool.not_eq_true', beq_eq_false_iff_ne, Bool.and_eq_false_iff]
      refine ⟨fun e => hi e.symm, fun e => hi1 e.symm, ?_⟩
      by_cases hq1 : q.1 + 1 = i
      · right
        intro e
        exact g2 ⟨hq1, by rw [← hc]; exact e⟩
      · left
        exact hq1
-- a method's contract, and its walk
def zNm : Cond := .methodLinkNest "SpanMaps$Returns" 61 ⟨"SpanMaps", "divides", "(II)Z"⟩ "SpanMaps"
def zK (E : zE) (U : State) : Prop := va_K E.2.1 zCl (zty E.2.2.2) U ∧ va_Nw zNm U
def zP (E : zE) (av : List Value) (w : zWd) : Array Value → State → Prop := va_Pc (av.map (zv E.2.2.1)) (fun U => va_P E.2.1 zCl (zW E.2.2.1 E.2.2.2 w) U.heap ∧ zK E U)
def zQ (E : zE) (Post : Option Value → zWd → Prop) : Array Value → State → Outcome → State → Prop := fun _ st oc t => (∃ (r : Option Value) (w' : zWd), oc = .returned (r.map (zv E.2.2.1)) ∧ Post r w' ∧ va_P E.2.1 zCl (zW E.2.2.1 E.2.2.2 w') t.heap) ∧ va_F (zA E.2.2.1) st t
def zRm (d : Nat) : Room := { frames := d, cells := 0, slots := 0, locals := 42 * d }
def zB : List Cond := lw_tbl.filter goodWord
theorem zb (i : Nat) {w : Cond} (h : lw_tbl[i]? = some w) (g : goodWord w = true) : w ∈ zB := List.mem_filter.mpr ⟨List.mem_of_getElem? h, g⟩
theorem zB_good : ∀ w ∈ zB, goodWord w = true := fun w h => (List.mem_filter.mp h).2
def zws (M : zM) : List Cond := .code M.1 M.2.1 M.2.2.1 M.2.2.2 :: zB
def zOk (E : zE) (M : zM) (d : Nat) (av : List Value) (w : zWd) (Post : Option Value → zWd → Prop) : Prop :=
  zI E.2.2.1 → Met E.1 M.1 (zws M) (zRm d) (zP E av w) (zQ E Post) 0 0 (zA E.2.2.1)
def zX (E : zE) (M : zM) (p : Program) (s : State) (m : MethodId) (args : Array Value) (meth : Method) (c : Code) : Prop :=
  p.tables.exec = Jvm.exec ∧ c.code = M.2.1 ∧ c.maxLocals = M.2.2.1 ∧ meth.sig.returnType = M.2.2.2 ∧ meth.locks = false ∧ s.vm.findClass M.1.cls = some m.cls ∧ (∀ w ∈ zws M, w.before args s = true) ∧ zK E s
def zV (E : zE) (M : zM) (d : Nat) (Post : Option Value → zWd → Prop) (pc : Nat) (L st : List Value) (w : zWd) : Prop :=
  zI E.2.2.1 → ∀ (p : Program) (e : Env) (s : State) (m : MethodId) (args : Array Value) (below : List Frame) (meth : Method) (c : Code) (H : Heap) (locs : List Loc) (ls : Array Slot),
    zX E M p s m args meth c → va_P E.2.1 zCl (zW E.2.2.1 E.2.2.2 w) H → va_S (zA E.2.2.1) s.heap H locs → zL E.2.2.1 ls M.2.2.1 L →
    W p E.1 e (zRm d) s m args below meth c H locs 0 0 (MQ below (zQ E Post) args s 0 0 (zA E.2.2.1)) (F0 m pc ls (st.map (zv E.2.2.1)))
def zEnt (av : List Value) (n : Nat) : List Value := let l := av.flatMap (fun v => if v.category = 2 then [v, zU] else [v]); l ++ List.replicate (n - l.length) zU
theorem zv_cat (ad : Nat → Nat) (v : Value) : (zv ad v).category = v.category := by cases v <;> rfl
theorem zEnt_args (ad : Nat → Nat) : ∀ (av pre : List Value) (k : Nat) (j : Nat) (v : Value), (pre ++ av.flatMap (fun v => if v.category = 2 then [v, zU] else [v]) ++ List.replicate k zU)[j]? = some v → v ≠ zU → pre.length ≤ j → (j, zv ad v) ∈ lv_args pre.length (av.map (zv ad))
  | [], pre, k, j, v, h, hz, hj => by
    exfalso
    simp only [List.flatMap_nil, List.append_nil] at h
    rw [List.getElem?_append_right hj] at h
    have := List.mem_of_getElem? h
    exact hz (List.eq_of_mem_replicate this)
  | a :: av, pre, k, j, v, h, hz, hj => by
    simp only [List.map_cons, lv_args, zv_cat]
    rw [List.flatMap_cons, ← List.append_assoc pre] at h
    by_cases hc : a.category = 2
    · simp only [hc, if_true] at h ⊢
      have h2 := zEnt_args ad av (pre ++ [a, zU]) k j v h hz
      by_cases hj2 : (pre ++ [a, zU]).length ≤ j
      · have h3 := h2 hj2
        simp only [List.length_append, List.length_cons, List.length_nil] at h3
        exact List.mem_cons_of_mem _ h3
      · simp only [List.length_append, List.length_cons, List.length_nil] at hj2
        by_cases e : j = pre.length
        · subst e
          simp at h
          subst h
          exact List.mem_cons_self
        · have e2 : j = pre.length + 1 := by omega
          subst e2
          exfalso
          simp [List.append_assoc] at h
          exact hz h.symm
    · simp only [hc, if_false] at h ⊢
      have h2 := zEnt_args ad av (pre ++ [a]) k j v h hz
      by_cases hj2 : (pre ++ [a]).length ≤ j
      · have h3 := h2 hj2
        simp only [List.length_append, List.length_cons, List.length_nil] at h3
        exact List.mem_cons_of_mem _ h3
      · simp only [List.length_append, List.length_cons, List.length_nil] at hj2
        have e : j = pre.length := by omega
        subst e
        simp at h
        subst h
        exact List.mem_cons_self
theorem lg_sl_len (ad : Nat → Nat) : ∀ av : List Value, (lg_sl (av.map (zv ad))).length = (av.flatMap (fun v => if v.category = 2 then [v, zU] else [v])).length
  | [] => rfl
  | a :: av => by
    have h := lg_sl_len ad av
    simp only [lg_sl, List.map_cons, List.flatMap_cons, List.length_append, zv_cat] at h ⊢
    rw [h]
    by_cases hc : a.category = 2 <;> simp [hc]
theorem zOk.of {E : zE} {M : zM} {d : Nat} {av : List Value} {w : zWd} {Post : Option Value → zWd → Prop} (hy : plainName M.1.cls = true) (hn : (av.flatMap (fun v => if v.category = 2 then [v, zU] else [v])).length ≤ M.2.2.1)
    (h : zV E M d Post 0 (zEnt av M.2.2.1) [] w) : zOk E M d av w Post := by
  intro hI
  refine Met.ofW (cc := M.2.1) (maxL := M.2.2.1) (ret := M.2.2.2) hy rfl ?_
  intro p e s m args below meth c s₁ B hml hv
  obtain ⟨rfl, hP, hK⟩ := hv
  rw [lg_entry_eq]
  refine h hI p e s m _ below meth c s.heap [] _ ⟨B.exec, B.bytes, hml, B.returns, B.notSynchronized, findClass_of_methodNamed B.named, atoms_spec (ws := zws M) B.pre, hK⟩ hP va_S.rf ?_
  have hl := lv_entry (av.map (zv E.2.2.1)) (n := M.2.2.1) (by rw [lg_sl_len]; exact hn)
  refine ⟨?_, hl.1, hl.2.1, fun q hq => ?_⟩
  · simp only [zEnt, List.length_append, List.length_replicate]
    omega
  · obtain ⟨v, h1, h2, h3⟩ := mem_zpr.mp hq
    have := zEnt_args E.2.2.1 av [] _ q.1 v h1 h2 (Nat.zero_le _)
    refine hl.2.2 q ?_
    rw [show q = (q.1, zv E.2.2.1 v) by rw [← h3]]
    exact this
end
section
/-! ===== one step of simple instructions, computed; runs of them ===== -/
def zlen (i : Instr) : Nat := match i with
  | .bipush _ | .iload _ | .lload _ | .aload _ | .istore _ | .lstore _ | .astore _ | .ldc _ | .newarray _ => 2
  | .sipush _ | .ldc2_w _ | .getfield _ | .putfield _ | .invokevirtual _ | .invokestatic _ | .invokespecial _ | .if_icmp _ _ | .ifCond _ _ | .goto _ | .iinc _ _ | .new _ | .anewarray _ => 3
  | .multianewarray _ _ => 4
  | _ => 1
def zch2 (pc : Nat) (i : Instr) (nx : Nat) (a : Value) : Bool := match i with
  | .goto off => decide ((pc : Int) + off = (nx : Int))
  | .ifCond _ off => decide (nx = pc + 3) && (match a with | .retAddr t => decide ((pc : Int) + off = (t : Int)) | _ => false)
  | .if_icmp _ off => decide (nx = pc + 3) && (match a with | .retAddr t => decide ((pc : Int) + off = (t : Int)) | _ => false)
  | .iconst n => decide (nx = pc + 1) && (match a with | .int v => decide (Int32.ofInt n = v) | _ => false)
  | .bipush n => decide (nx = pc + 2) && (match a with | .int v => decide ((Int8.ofInt n).toInt32 = v) | _ => false)
  | .sipush n => decide (nx = pc + 3) && (match a with | .int v => decide ((Int16.ofInt n).toInt32 = v) | _ => false)
  | .lconst n => decide (nx = pc + 1) && (match a with | .long v => decide (Int64.ofNat (n : Nat) = v) | _ => false)
  | .iinc _ n => decide (nx = pc + 3) && (match a with | .int v => decide (Int32.ofInt n = v) | _ => false)
  | i => decide (nx = pc + zlen i)
abbrev zchk (M : zM) (e : Nat × Instr × Nat × Value) : Prop := decode M.2.1 e.1 = .ok (e.2.1, zlen e.2.1) ∧ zch2 e.1 e.2.1 e.2.2.1 e.2.2.2 = true
def zTab (M : zM) (T : zTb) : Prop := ∀ e ∈ T, zchk M e
theorem zlk {pc : Nat} {b : Instr × Nat × Value} : ∀ {T : zTb}, T.lookup pc = some b → (pc, b) ∈ T
  | [], h => by cases h
  | (k, x) :: T, h => by
    rw [List.lookup_cons] at h
    by_cases e : pc == k
    · simp only [e] at h
      cases h
      rw [eq_of_beq e]
      exact List.mem_cons_self
    · simp only [Bool.not_eq_true] at e
      simp only [e] at h
      exact List.mem_cons_of_mem _ (zlk h)
theorem zTab.dec {M : zM} {T : zTb} (hT : zTab M T) {pc nx : Nat} {i : Instr} {a : Value} (h : T.lookup pc = some (i, nx, a)) : decode M.2.1 pc = .ok (i, zlen i) ∧ zch2 pc i nx a = true := by
  have h1 : zchk M (pc, i, nx, a) := hT (pc, i, nx, a) (zlk h)
  exact h1
def zLi (L st : List Value) (k : Nat) : Option (List Value × List Value) := match L[k]? with
  | some (.int x) => some (L, .int x :: st)
  | _ => none
def zLl (L st : List Value) (k : Nat) : Option (List Value × List Value) := match L[k]? with
  | some (.long x) => some (L, .long x :: st)
  | _ => none
def zLr (L st : List Value) (k : Nat) : Option (List Value × List Value) := match L[k]? with
  | some (.ref x) => some (L, .ref x :: st)
  | _ => none
def zSi (L st : List Value) (k : Nat) : Option (List Value × List Value) := match st with
  | .int x :: r => if k < L.length then some (zst1 L k (.int x), r) else none
  | _ => none
def zSr (L st : List Value) (k : Nat) : Option (List Value × List Value) := match st with
  | .ref x :: r => if k < L.length then some (zst1 L k (.ref x), r) else none
  | _ => none
def zSl (L st : List Value) (k : Nat) : Option (List Value × List Value) := match st with
  | .long x :: r => if k + 1 < L.length then some (zst2 L k (.long x), r) else none
  | _ => none
def zbi (f : Int32 → Int32 → Int32) (L st : List Value) : Option (List Value × List Value) := match st with
  | .int y :: .int x :: r => some (L, .int (f x y) :: r)
  | _ => none
def zbl (f : Int64 → Int64 → Int64) (L st : List Value) : Option (List Value × List Value) := match st with
  | .long y :: .long x :: r => some (L, .long (f x y) :: r)
  | _ => none
def zui (f : Int32 → Value) (L st : List Value) : Option (List Value × List Value) := match st with
  | .int x :: r => some (L, f x :: r)
  | _ => none
def zul (f : Int64 → Value) (L st : List Value) : Option (List Value × List Value) := match st with
  | .long x :: r => some (L, f x :: r)
  | _ => none
def zsh (L st : List Value) : Option (List Value × List Value) := match st with
  | .int y :: .long x :: r => some (L, .long (x <<< (y.toInt64 &&& 63)) :: r)
  | _ => none
def zdu (L st : List Value) : Option (List Value × List Value) := match st with
  | .int x :: r => some (L, .int x :: .int x :: r)
  | .ref x :: r => some (L, .ref x :: .ref x :: r)
  | _ => none
def zd2 (L st : List Value) : Option (List Value × List Value) := match st with
  | .int y :: .ref x :: r => some (L, .int y :: .ref x :: .int y :: .ref x :: r)
  | .int y :: .int x :: r => some (L, .int y :: .int x :: .int y :: .int x :: r)
  | _ => none
def zin (L st : List Value) (k : Nat) (a : Value) : Option (List Value × List Value) := match L[k]?, a with
  | some (.int x), .int v => some (zst1 L k (.int (x + v)), st)
  | _, _ => none
def zS (i : Instr) (a : Value) (L st : List Value) : Option (List Value × List Value) := match i with
  | .iconst _ => some (L, a :: st)
  | .bipush _ => some (L, a :: st)
  | .sipush _ => some (L, a :: st)
  | .lconst _ => some (L, a :: st)
  | .iload k => zLi L st k
  | .iload_n k => zLi L st k.val
  | .lload k => zLl L st k
  | .lload_n k => zLl L st k.val
  | .aload k => zLr L st k
  | .aload_n k => zLr L st k.val
  | .istore k => zSi L st k
  | .istore_n k => zSi L st k.val
  | .lstore k => zSl L st k
  | .lstore_n k => zSl L st k.val
  | .astore_n k => zSr L st k.val
  | .astore k => zSr L st k
  | .iadd => zbi (fun x y => x + y) L st
  | .isub => zbi (fun x y => x - y) L st
  | .imul => zbi (fun x y => x * y) L st
  | .iand => zbi (fun x y => x &&& y) L st
  | .ior => zbi (fun x y => x ||| y) L st
  | .ishl => zbi (fun x y => x <<< (y &&& 31)) L st
  | .ishr => zbi (fun x y => x >>> (y &&& 31)) L st
  | .ineg => zui (fun x => .int (-x)) L st
  | .i2l => zui (fun x => .long x.toInt64) L st
  | .l2i => zul (fun x => .int x.toInt32) L st
  | .lneg => zul (fun x => .long (-x)) L st
  | .ladd => zbl (fun x y => x + y) L st
  | .lsub => zbl (fun x y => x - y) L st
  | .lmul => zbl (fun x y => x * y) L st
  | .land => zbl (fun x y => x &&& y) L st
  | .lor => zbl (fun x y => x ||| y) L st
  | .lshl => zsh L st
  | .dup => zdu L st
  | .dup2 => zd2 L st
  | .iinc k _ => zin L st k a
  | .goto _ => some (L, st)
  | _ => none
section ZS
variable {E : zE} {M : zM} {d : Nat} {Post : Option Value → zWd → Prop} {pc nx : Nat} {L L' st st' : List Value} {w : zWd} {i : Instr} {a : Value} {k : Nat}
theorem zLi_inv (h : zLi L st k = some (L', st')) : ∃ x, L[k]? = some (.int x) ∧ L' = L ∧ st' = .int x :: st := by
  unfold zLi at h
  split at h
  next x hx => cases h; exact ⟨x, hx, rfl, rfl⟩
  next => cases h
theorem zLl_inv (h : zLl L st k = some (L', st')) : ∃ x, L[k]? = some (.long x) ∧ L' = L ∧ st' = .long x :: st := by
  unfold zLl at h
  split at h
  next x hx => cases h; exact ⟨x, hx, rfl, rfl⟩
  next => cases h
theorem zLr_inv (h : zLr L st k = some (L', st')) : ∃ x, L[k]? = some (.ref x) ∧ L' = L ∧ st' = .ref x :: st := by
  unfold zLr at h
  split at h
  next x hx => cases h; exact ⟨x, hx, rfl, rfl⟩
  next => cases h
theorem zSi_inv (h : zSi L st k = some (L', st')) : ∃ x r, st = .int x :: r ∧ k < L.length ∧ L' = zst1 L k (.int x) ∧ st' = r := by
  unfold zSi at h
  split at h
  next x r => split at h
              next hk => cases h; exact ⟨x, _, rfl, hk, rfl, rfl⟩
              next => cases h
  next => cases h
theorem zSr_inv (h : zSr L st k = some (L', st')) : ∃ x r, st = .ref x :: r ∧ k < L.length ∧ L' = zst1 L k (.ref x) ∧ st' = r := by
  unfold zSr at h
  split at h
  next x r => split at h
              next hk => cases h; exact ⟨x, _, rfl, hk, rfl, rfl⟩
              next => cases h
  next => cases h
theorem zSl_inv (h : zSl L st k = some (L', st')) : ∃ x r, st = .long x :: r ∧ k + 1 < L.length ∧ L' = zst2 L k (.long x) ∧ st' = r := by
  unfold zSl at h
  split at h
  next x r => split at h
              next hk => cases h; exact ⟨x, _, rfl, hk, rfl, rfl⟩
              next => cases h
  next => cases h
theorem zbi_inv {f : Int32 → Int32 → Int32} (h : zbi f L st = some (L', st')) : ∃ x y r, st = .int y :: .int x :: r ∧ L' = L ∧ st' = .int (f x y) :: r := by
  unfold zbi at h
  split at h
  next y x r => cases h; exact ⟨x, y, r, rfl, rfl, rfl⟩
  next => cases h
theorem zbl_inv {f : Int64 → Int64 → Int64} (h : zbl f L st = some (L', st')) : ∃ x y r, st = .long y :: .long x :: r ∧ L' = L ∧ st' = .long (f x y) :: r := by
  unfold zbl at h
  split at h
  next y x r => cases h; exact ⟨x, y, r, rfl, rfl, rfl⟩
  next => cases h
theorem zui_inv {f : Int32 → Value} (h : zui f L st = some (L', st')) : ∃ x r, st = .int x :: r ∧ L' = L ∧ st' = f x :: r := by
  unfold zui at h
  split at h
  next x r => cases h; exact ⟨x, r, rfl, rfl, rfl⟩
  next => cases h
theorem zul_inv {f : Int64 → Value} (h : zul f L st = some (L', st')) : ∃ x r, st = .long x :: r ∧ L' = L ∧ st' = f x :: r := by
  unfold zul at h
  split at h
  next x r => cases h; exact ⟨x, r, rfl, rfl, rfl⟩
  next => cases h
theorem zsh_inv (h : zsh L st = some (L', st')) : ∃ x y r, st = .int y :: .long x :: r ∧ L' = L ∧ st' = .long (x <<< (y.toInt64 &&& 63)) :: r := by
  unfold zsh at h
  split at h
  next y x r => cases h; exact ⟨x, y, r, rfl, rfl, rfl⟩
  next => cases h
theorem zdu_inv (h : zdu L st = some (L', st')) : ∃ v r, st = v :: r ∧ v.category = 1 ∧ L' = L ∧ st' = v :: v :: r := by
  unfold zdu at h
  split at h
  next x r => cases h; exact ⟨_, r, rfl, rfl, rfl, rfl⟩
  next x r => cases h; exact ⟨_, r, rfl, rfl, rfl, rfl⟩
  next => cases h
theorem zd2_inv (h : zd2 L st = some (L', st')) : ∃ u v r, st = u :: v :: r ∧ u.category = 1 ∧ v.category = 1 ∧ L' = L ∧ st' = u :: v :: u :: v :: r := by
  unfold zd2 at h
  split at h
  next x y r => cases h; exact ⟨_, _, r, rfl, rfl, rfl, rfl, rfl⟩
  next x y r => cases h; exact ⟨_, _, r, rfl, rfl, rfl, rfl, rfl⟩
  next => cases h
theorem zin_inv (h : zin L st k a = some (L', st')) : ∃ x v, L[k]? = some (.int x) ∧ a = .int v ∧ L' = zst1 L k (.int (x + v)) ∧ st' = st := by
  unfold zin at h
  split at h
  next x v hx => cases h; exact ⟨x, v, hx, rfl, rfl, rfl⟩
  next => cases h
theorem zint_ne (x : Int32) : Value.int x ≠ zU := fun h => by cases h
theorem zlong_ne (x : Int64) : Value.long x ≠ zU := fun h => by cases h
theorem zref_ne (x : Nat) : Value.ref x ≠ zU := fun h => by cases h
/-- one simple step -/
theorem zS_ok (hd : decode M.2.1 pc = .ok (i, zlen i)) (hc : zch2 pc i nx a = true) (h : zS i a L st = some (L', st')) (k : zV E M d Post nx L' st' w) : zV E M d Post pc L st w := by
  intro hI p e s m args below meth c H locs ls X hP hS hL
  have K := fun (ls : Array Slot) (hL : zL E.2.2.1 ls M.2.2.1 L') => k hI p e s m args below meth c H locs ls X hP hS hL
  obtain ⟨hx, hb, -, -, -, -, -, -⟩ := X
  have hn : L.length = M.2.2.1 := hL.1
  cases i with
  | iconst n =>
    cases h
    simp only [zch2, Bool.and_eq_true, decide_eq_true_eq] at hc
    obtain ⟨rfl, hc⟩ := hc
    cases a with
    | int v => exact lv_iconst hx hb hd (by simpa using hc) (K ls hL)
    | _ => cases hc
  | bipush n =>
    cases h
    simp only [zch2, Bool.and_eq_true, decide_eq_true_eq] at hc
    obtain ⟨rfl, hc⟩ := hc
    cases a with
    | int v => exact lv_bipush hx hb hd (by simpa using hc) (K ls hL)
    | _ => cases hc
  | sipush n =>
    cases h
    simp only [zch2, Bool.and_eq_true, decide_eq_true_eq] at hc
    obtain ⟨rfl, hc⟩ := hc
    cases a with
    | int v => exact lv_sipush hx hb hd (by simpa using hc) (K ls hL)
    | _ => cases hc
  | lconst n =>
    cases h
    simp only [zch2, Bool.and_eq_true, decide_eq_true_eq] at hc
    obtain ⟨rfl, hc⟩ := hc
    cases a with
    | long v => exact lv_lconst hx hb hd (by simpa using hc) (K ls hL)
    | _ => cases hc
  | iload n =>
    obtain ⟨x, h1, rfl, rfl⟩ := zLi_inv h
    have hc : nx = pc + 2 := of_decide_eq_true hc
    subst hc
    exact lv_iload hx hb hd (hL.at h1 (zint_ne x)) (K ls hL)
  | iload_n n =>
    obtain ⟨x, h1, rfl, rfl⟩ := zLi_inv h
    have hc : nx = pc + 1 := of_decide_eq_true hc
    subst hc
    exact lv_iload_n hx hb hd rfl (hL.at h1 (zint_ne x)) (K ls hL)
  | lload n =>
    obtain ⟨x, h1, rfl, rfl⟩ := zLl_inv h
    have hc : nx = pc + 2 := of_decide_eq_true hc
    subst hc
    exact lv_lload hx hb hd (hL.at h1 (zlong_ne x)) (K ls hL)
  | lload_n n =>
    obtain ⟨x, h1, rfl, rfl⟩ := zLl_inv h
    have hc : nx = pc + 1 := of_decide_eq_true hc
    subst hc
    exact lv_lload_n hx hb hd rfl (hL.at h1 (zlong_ne x)) (K ls hL)
  | aload n =>
    obtain ⟨x, h1, rfl, rfl⟩ := zLr_inv h
    have hc : nx = pc + 2 := of_decide_eq_true hc
    subst hc
    exact lv_aload hx hb hd (hL.at h1 (zref_ne x)) (K ls hL)
  | aload_n n =>
    obtain ⟨x, h1, rfl, rfl⟩ := zLr_inv h
    have hc : nx = pc + 1 := of_decide_eq_true hc
    subst hc
    exact lv_aload_n hx hb hd rfl (hL.at h1 (zref_ne x)) (K ls hL)
  | istore n =>
    obtain ⟨x, r, rfl, h1, rfl, rfl⟩ := zSi_inv h
    have hc : nx = pc + 2 := of_decide_eq_true hc
    subst hc
    exact lv_istore hx hb hd hL.2 (by omega) rfl (fun ls' h' => K ls' (zL.st1 hn h'))
  | istore_n n =>
    obtain ⟨x, r, rfl, h1, rfl, rfl⟩ := zSi_inv h
    have hc : nx = pc + 1 := of_decide_eq_true hc
    subst hc
    exact lv_istore_n hx hb hd rfl hL.2 (by omega) rfl (fun ls' h' => K ls' (zL.st1 hn h'))
  | lstore n =>
    obtain ⟨x, r, rfl, h1, rfl, rfl⟩ := zSl_inv h
    have hc : nx = pc + 2 := of_decide_eq_true hc
    subst hc
    exact lv_lstore hx hb hd hL.2 (by omega) rfl (fun ls' h' => K ls' (zL.st2 hn h'))
  | lstore_n n =>
    obtain ⟨x, r, rfl, h1, rfl, rfl⟩ := zSl_inv h
    have hc : nx = pc + 1 := of_decide_eq_true hc
    subst hc
    exact lv_lstore_n hx hb hd rfl hL.2 (by omega) rfl (fun ls' h' => K ls' (zL.st2 hn h'))
  | astore_n n =>
    obtain ⟨x, r, rfl, h1, rfl, rfl⟩ := zSr_inv h
    have hc : nx = pc + 1 := of_decide_eq_true hc
    subst hc
    exact lv_astore_n hx hb hd rfl hL.2 (by omega) rfl (fun ls' h' => K ls' (zL.st1 (v := .ref x) hn h'))
  | astore n =>
    obtain ⟨x, r, rfl, h1, rfl, rfl⟩ := zSr_inv h
    have hc : nx = pc + 2 := of_decide_eq_true hc
    subst hc
    exact lv_astore hx hb hd hL.2 (by omega) rfl (fun ls' h' => K ls' (zL.st1 (v := .ref x) hn h'))
  | iadd =>
    obtain ⟨x, y, r, rfl, rfl, rfl⟩ := zbi_inv h
    have hc : nx = pc + 1 := of_decide_eq_true hc
    subst hc
    exact lv_iadd hx hb hd (K ls hL)
  | isub =>
    obtain ⟨x, y, r, rfl, rfl, rfl⟩ := zbi_inv h
    have hc : nx = pc + 1 := of_decide_eq_true hc
    subst hc
    exact lv_isub hx hb hd (K ls hL)
  | imul =>
    obtain ⟨x, y, r, rfl, rfl, rfl⟩ := zbi_inv h
    have hc : nx = pc + 1 := of_decide_eq_true hc
    subst hc
    exact lv_imul hx hb hd (K ls hL)
  | iand =>
    obtain ⟨x, y, r, rfl, rfl, rfl⟩ := zbi_inv h
    have hc : nx = pc + 1 := of_decide_eq_true hc
    subst hc
    exact lv_iand hx hb hd (K ls hL)
  | ior =>
    obtain ⟨x, y, r, rfl, rfl, rfl⟩ := zbi_inv h
    have hc : nx = pc + 1 := of_decide_eq_true hc
    subst hc
    exact lv_ior hx hb hd (K ls hL)
  | ishl =>
    obtain ⟨x, y, r, rfl, rfl, rfl⟩ := zbi_inv h
    have hc : nx = pc + 1 := of_decide_eq_true hc
    subst hc
    exact lv_ishl hx hb hd (K ls hL)
  | ishr =>
    obtain ⟨x, y, r, rfl, rfl, rfl⟩ := zbi_inv h
    have hc : nx = pc + 1 := of_decide_eq_true hc
    subst hc
    exact lv_ishr hx hb hd (K ls hL)
  | ineg =>
    obtain ⟨x, r, rfl, rfl, rfl⟩ := zui_inv h
    have hc : nx = pc + 1 := of_decide_eq_true hc
    subst hc
    exact lv_ineg hx hb hd (K ls hL)
  | i2l =>
    obtain ⟨x, r, rfl, rfl, rfl⟩ := zui_inv h
    have hc : nx = pc + 1 := of_decide_eq_true hc
    subst hc
    exact lv_i2l hx hb hd rfl (K ls hL)
  | l2i =>
    obtain ⟨x, r, rfl, rfl, rfl⟩ := zul_inv h
    have hc : nx = pc + 1 := of_decide_eq_true hc
    subst hc
    exact lv_l2i hx hb hd rfl (K ls hL)
  | lneg =>
    obtain ⟨x, r, rfl, rfl, rfl⟩ := zul_inv h
    have hc : nx = pc + 1 := of_decide_eq_true hc
    subst hc
    exact lv_lneg hx hb hd (K ls hL)
  | ladd =>
    obtain ⟨x, y, r, rfl, rfl, rfl⟩ := zbl_inv h
    have hc : nx = pc + 1 := of_decide_eq_true hc
    subst hc
    exact lv_ladd hx hb hd (K ls hL)
  | lsub =>
    obtain ⟨x, y, r, rfl, rfl, rfl⟩ := zbl_inv h
    have hc : nx = pc + 1 := of_decide_eq_true hc
    subst hc
    exact lv_lsub hx hb hd (K ls hL)
  | lmul =>
    obtain ⟨x, y, r, rfl, rfl, rfl⟩ := zbl_inv h
    have hc : nx = pc + 1 := of_decide_eq_true hc
    subst hc
    exact lv_lmul hx hb hd (K ls hL)
  | land =>
    obtain ⟨x, y, r, rfl, rfl, rfl⟩ := zbl_inv h
    have hc : nx = pc + 1 := of_decide_eq_true hc
    subst hc
    exact lv_land hx hb hd (K ls hL)
  | lor =>
    obtain ⟨x, y, r, rfl, rfl, rfl⟩ := zbl_inv h
    have hc : nx = pc + 1 := of_decide_eq_true hc
    subst hc
    exact lv_lor hx hb hd (K ls hL)
  | lshl =>
    obtain ⟨x, y, r, rfl, rfl, rfl⟩ := zsh_inv h
    have hc : nx = pc + 1 := of_decide_eq_true hc
    subst hc
    exact lv_lshl hx hb hd rfl (K ls hL)
  | dup =>
    obtain ⟨v, r, rfl, h1, rfl, rfl⟩ := zdu_inv h
    have hc : nx = pc + 1 := of_decide_eq_true hc
    subst hc
    exact lv_dup hx hb hd (by rw [zv_cat]; exact h1) (K ls hL)
  | dup2 =>
    obtain ⟨u, v, r, rfl, h1, h2, rfl, rfl⟩ := zd2_inv h
    have hc : nx = pc + 1 := of_decide_eq_true hc
    subst hc
    exact lv_dup2_11 hx hb hd (by rw [zv_cat]; exact h1) (by rw [zv_cat]; exact h2) (K ls hL)
  | iinc n z =>
    obtain ⟨x, v, h1, rfl, rfl, rfl⟩ := zin_inv h
    simp only [zch2, Bool.and_eq_true, decide_eq_true_eq] at hc
    obtain ⟨rfl, hc⟩ := hc
    obtain ⟨q, hq⟩ := List.getElem?_of_mem (mem_zpr.mpr ⟨_, h1, zint_ne x, rfl⟩ : (n, zv E.2.2.1 (.int x)) ∈ zpr E.2.2.1 L)
    have hl : n < L.length := (List.getElem?_eq_some_iff.mp h1).1
    exact lv_iinc hx hb hd hL.2 hq (by rw [hc]) (by omega) rfl (fun ls' h' => K ls' (zL.st1 hn h'))
  | goto off =>
    cases h
    have hc : (pc : Int) + off = (nx : Int) := of_decide_eq_true hc
    exact lv_goto hx hb hd hc (K ls hL)
  | _ => cases h
end ZS
def zR (T : zTb) : Nat → Nat → List Value → List Value → Option (Nat × List Value × List Value)
  | 0, pc, L, st => some (pc, L, st)
  | n + 1, pc, L, st => match T.lookup pc with
    | some (i, nx, a) => (match zS i a L st with
      | some (L', st') => zR T n nx L' st'
      | none => none)
    | none => none
theorem zV.run {E : zE} {M : zM} {d : Nat} {Post : Option Value → zWd → Prop} {w : zWd} {T : zTb} (hT : zTab M T) : ∀ (n : Nat) {pc pc' : Nat} {L L' st st' : List Value}, zR T n pc L st = some (pc', L', st') → zV E M d Post pc' L' st' w → zV E M d Post pc L st w
  | 0, pc, pc', L, L', st, st', h, k => by cases h; exact k
  | n + 1, pc, pc', L, L', st, st', h, k => by
    unfold zR at h
    split at h
    next i nx a hl =>
      split at h
      next L1 st1 hs =>
        obtain ⟨h1, h2⟩ := zTab.dec hT hl
        exact zS_ok h1 h2 hs (zV.run hT n h k)
      next => cases h
    next => cases h
end
section
/-! ===== the other instructions, a rule each ===== -/
abbrev zIA (n : Nat) (f : Nat → Int32) : va_E := .inl (0, n, .inl f)
abbrev zLA (n : Nat) (f : Nat → Int64) : va_E := .inl (1, n, .inr (.inl f))
abbrev zZA (n : Nat) (f : Nat → Int32) : va_E := .inl (2, n, .inl f)
abbrev zRA (k n : Nat) (f : Nat → Option Nat) : va_E := .inl (k, n, .inr (.inr (.inr (.inr f))))
abbrev zOb (ci : Nat) (fs : List Value) : va_E := .inr (ci, fs)
def zIf (c : Jvm.ClassFile.Cond) (x : Int32) : Prop := match c with
  | .eq => x = 0
  | .ne => ¬ x = 0
  | .lt => x < 0
  | .ge => 0 ≤ x
  | .gt => 0 < x
  | .le => x ≤ 0
def zIc (c : Jvm.ClassFile.Cond) (x y : Int32) : Prop := match c with
  | .eq => x = y
  | .ne => ¬ x = y
  | .lt => x < y
  | .ge => y ≤ x
  | .gt => y < x
  | .le => x ≤ y
def zIl (c : Jvm.ClassFile.Cond) (x y : Int64) : Prop := match c with
  | .eq => x = y
  | .ne => ¬ x = y
  | .lt => x < y
  | .ge => y ≤ x
  | .gt => y < x
  | .le => x ≤ y
theorem zIl_if (c : Jvm.ClassFile.Cond) (x y : Int64) : zIf c (lg_cmp x y) ↔ zIl c x y := by
  cases c
  · exact lg_cmp_eq x y
  · exact not_congr (lg_cmp_eq x y)
  · exact lg_cmp_lt x y
  · exact lg_cmp_ge x y
  · exact lg_cmp_gt x y
  · exact lg_cmp_le x y
def zFl (own : String) (idx ci k : Nat) : Prop := ∃ (C : String) (T : u_T) (N : Nat), zCl[ci]? = some (C, T, N) ∧ k < N ∧ (∀ w ∈ u_ws C T N, w ∈ zB) ∧ Cond.fieldLink own idx (T k).1 (T k).2.1 (T k).2.2.1 ∈ zB
def zFp (own : String) (idx ci k : Nat) (ty : FieldType) : Prop := ∃ (C : String) (T : u_T) (N : Nat) (ty0 : Nat → FieldType), zCl[ci]? = some (C, T, N) ∧ k < N ∧ (∀ w ∈ u_ws C T N, w ∈ zB) ∧ Cond.fieldLink own idx (T k).1 (T k).2.1 (T k).2.2.1 ∈ zB ∧ (∀ k, k < N → parseFieldDescriptor (T k).2.2.1 = some (ty0 k)) ∧ (∀ a, a < N → ∀ b, b < N → a ≠ b → (T a).2.1 ≠ (T b).2.1) ∧ (T k).2.2.2 = false ∧ parseFieldDescriptor (T k).2.2.1 = some ty
def zCm (N : zM) (n : Nat) : Prop := Cond.initialized N.1.cls ∈ zB ∧ Cond.code N.1 N.2.1 N.2.2.1 N.2.2.2 ∈ zB ∧ (N.1.cls ≠ "java/lang/invoke/MethodHandle" ∧ N.1.cls ≠ "java/lang/invoke/VarHandle" ∧ (parseMethodDescriptor N.1.desc).map (fun d => d.parameters.length) = some n) ∧ N.2.2.1 ≤ 23
def zCv (own : String) (idx : Nat) (N : zM) (n : Nat) : Prop := Cond.methodLink own idx N.1 ∈ zB ∧ Cond.instanceMethod N.1 ∈ zB ∧ Cond.selects N.1.cls N.1 N.1 ∈ zB ∧ zCm N n
def zCs (own : String) (idx : Nat) (N : zM) (n : Nat) : Prop := Cond.methodLink own idx N.1 ∈ zB ∧ Cond.static N.1 ∈ zB ∧ zCm N n
def zCn (N : zM) (n : Nat) : Prop := Cond.static N.1 ∈ zB ∧ zCm N n
theorem zgood {M N : zM} {n : Nat} (h : zCm N n) : GoodIn (zws M) (zws N) := by
  intro w hw
  have h1 : w ∈ zB := by
    rcases List.mem_cons.mp hw with e | e
    · rw [e]; exact h.2.1
    · exact e
  exact ⟨List.mem_cons_of_mem _ h1, good_of_word (zB_good w h1)⟩
theorem zP_blind {E : zE} {av : List Value} {w : zWd} : FrameBlind (zP E av w) := fun a U g mk q => by
  obtain ⟨q0, qP, qK, qN⟩ := q
  exact ⟨q0, qP, va_K.moved (u := U) (U := U.calling g mk a) (Vm.Alike.refl U.vm) qK, va_Nw.same rfl rfl qN⟩
theorem zP_of {E : zE} {av : List Value} {w : zWd} {s U : State} {H : Heap} (hP : va_P E.2.1 zCl (zW E.2.2.1 E.2.2.2 w) H) (hK : zK E s) (hU : U.heap = H) (hW : s.WarmedH U.vm) : zP E av w (av.map (zv E.2.2.1)).toArray U :=
  ⟨rfl, by rw [hU]; exact hP, va_K.moved hW.alike hK.1, va_Nw.warmM hW hK.2⟩
section ZC
variable {p : Program} {e : Env} {s : State} {m : MethodId} {args : Array Value} {below : List Frame} {meth : Method} {c : Code} {H : Heap} {locs : List Loc} {Qf : State → Prop} {E : zE} {d pc : Nat} {ls : Array Slot} {st : List Value} {st0 : List Value} {Q : Option Value → zWd → Prop} {a : Array Value}
theorem zcall_of (hr : va_Run p E.1 e (zRm d) s m args below meth c H locs 0 0 0 0 (F0 m pc ls st0) (st.map (zv E.2.2.1)) (zQ E Q a) (zA E.2.2.1)) (hS : va_S (zA E.2.2.1) s.heap H locs)
    (kk : ∀ (r : Option Value) (w' : zWd) (H1 : Heap) (locs1 : List Loc), Q r w' → va_P E.2.1 zCl (zW E.2.2.1 E.2.2.2 w') H1 → va_S (zA E.2.2.1) s.heap H1 locs1 → W p E.1 e (zRm d) s m args below meth c H1 locs1 0 0 Qf (F0 m (pc + 3) ls ((r.toList ++ st).map (zv E.2.2.1)))) : W p E.1 e (zRm d) s m args below meth c H locs 0 0 Qf (F0 m pc ls st0) := by
  intro T hT X
  obtain ⟨v, st₀, t, T', L, h0, X', hL, e1, e2, ⟨⟨r, w', hv, hp, hb⟩, hz, hk⟩, stp⟩ := hr T hT X
  cases hv
  rw [h0] at hz hk
  obtain ⟨t2, a1, b1⟩ := kk r w' T'.heap (locs ++ L) hp (by rw [e1]; exact hb)
    ⟨Nat.le_trans hS.1 (by rw [e1]; exact hz), fun q h1 h2 => by rw [e1, hk q (Nat.lt_of_lt_of_le h1 hS.1) h2]; exact hS.2.1 q h1 h2, fun q hq => by
      rcases List.mem_append.mp hq with h | h
      · exact hS.2.2 q h
      · exact hL q h⟩ T' rfl X'
  refine ⟨t2, stp t2 ?_, b1⟩
  have e9 : (r.toList ++ st).map (zv E.2.2.1) = (r.map (zv E.2.2.1)).toList ++ st.map (zv E.2.2.1) := by cases r <;> simp
  rw [e9] at a1
  exact a1
end ZC
theorem zsum (ad : Nat → Nat) (st : List Value) : ((st.map (zv ad)).map fun v => v.category).sum = (st.map fun v => v.category).sum := by
  rw [List.map_map]
  congr 1
  apply List.map_congr_left
  intro v _
  exact zv_cat ad v
section ZR2
variable {E : zE} {M : zM} {d : Nat} {Post : Option Value → zWd → Prop} {pc nx : Nat} {L st : List Value} {w : zWd} {T : zTb} {aux : Value}
theorem zV.ldc2 (hT : zTab M T) {idx : Nat} (hl : T.lookup pc = some (.ldc2_w idx, nx, aux)) {v : Int64} (hc : Cond.constantLong M.1.cls idx v ∈ zB) (k : zV E M d Post nx L (.long v :: st) w) : zV E M d Post pc L st w := by
  intro hI p e s m args below meth c H locs ls X hP hS hL
  have K := k hI p e s m args below meth c H locs ls X hP hS hL
  obtain ⟨hx, hb, -, -, -, ho, hw, -⟩ := X
  obtain ⟨h1, h2⟩ := zTab.dec hT hl
  have h2 : nx = pc + 3 := of_decide_eq_true h2
  subst h2
  exact lv_ldc2 hx hb ho (hw _ (List.mem_cons_of_mem _ hc)) h1 K
theorem zV.if2 (hT : zTab M T) {cd : Jvm.ClassFile.Cond} {off : Int} {tgt : Nat} (hl : T.lookup pc = some (.ifCond cd off, nx, .retAddr tgt)) {x : Int32} (kt : zIf cd x → zV E M d Post tgt L st w) (kf : ¬ zIf cd x → zV E M d Post nx L st w) : zV E M d Post pc L (.int x :: st) w := by
  intro hI p e s m args below meth c H locs ls X hP hS hL
  have K1 := fun h => kt h hI p e s m args below meth c H locs ls X hP hS hL
  have K2 := fun h => kf h hI p e s m args below meth c H locs ls X hP hS hL
  obtain ⟨hx, hb, -, -, -, ho, hw, -⟩ := X
  obtain ⟨h1, h2⟩ := zTab.dec hT hl
  simp only [zch2, Bool.and_eq_true, decide_eq_true_eq] at h2
  obtain ⟨rfl, h2⟩ := h2
  cases cd
  · exact lv_if_eq hx hb h1 h2 K1 K2
  · exact lv_if_ne hx hb h1 h2 K1 (fun e9 => K2 (fun h9 => h9 e9))
  · exact lv_if_lt hx hb h1 h2 K1 K2
  · exact lv_if_ge hx hb h1 h2 K1 K2
  · exact lv_if_gt hx hb h1 h2 K1 K2
  · exact lv_if_le hx hb h1 h2 K1 K2
theorem zV.ic2 (hT : zTab M T) {cd : Jvm.ClassFile.Cond} {off : Int} {tgt : Nat} (hl : T.lookup pc = some (.if_icmp cd off, nx, .retAddr tgt)) {x y : Int32} (kt : zIc cd x y → zV E M d Post tgt L st w) (kf : ¬ zIc cd x y → zV E M d Post nx L st w) : zV E M d Post pc L (.int y :: .int x :: st) w := by
  intro hI p e s m args below meth c H locs ls X hP hS hL
  have K1 := fun h => kt h hI p e s m args below meth c H locs ls X hP hS hL
  have K2 := fun h => kf h hI p e s m args below meth c H locs ls X hP hS hL
  obtain ⟨hx, hb, -, -, -, ho, hw, -⟩ := X
  obtain ⟨h1, h2⟩ := zTab.dec hT hl
  simp only [zch2, Bool.and_eq_true, decide_eq_true_eq] at h2
  obtain ⟨rfl, h2⟩ := h2
  cases cd
  · exact lv_icmp_eq hx hb h1 h2 K1 K2
  · exact lv_icmp_ne hx hb h1 h2 K1 (fun e9 => K2 (fun h9 => h9 e9))
  · exact lv_icmp_lt hx hb h1 h2 K1 K2
  · exact lv_icmp_ge hx hb h1 h2 K1 K2
  · exact lv_icmp_gt hx hb h1 h2 K1 K2
  · exact lv_icmp_le hx hb h1 h2 K1 K2
theorem zV.lcmp (hT : zTab M T) (hl : T.lookup pc = some (.lcmp, nx, aux)) {x y : Int64} (k : zV E M d Post nx L (.int (lg_cmp x y) :: st) w) : zV E M d Post pc L (.long y :: .long x :: st) w := by
  intro hI p e s m args below meth c H locs ls X hP hS hL
  have K := k hI p e s m args below meth c H locs ls X hP hS hL
  obtain ⟨hx, hb, -, -, -, ho, hw, -⟩ := X
  obtain ⟨h1, h2⟩ := zTab.dec hT hl
  have h2 : nx = pc + 1 := of_decide_eq_true h2
  subst h2
  exact W.lcmp hx hb h1 K
theorem zV.il2 (hT : zTab M T) (hl0 : T.lookup pc = some (.lcmp, nx, aux)) {cd : Jvm.ClassFile.Cond} {off : Int} {n2 tgt : Nat} (hl : T.lookup nx = some (.ifCond cd off, n2, .retAddr tgt)) {x y : Int64} (kt : zIl cd x y → zV E M d Post tgt L st w) (kf : ¬ zIl cd x y → zV E M d Post n2 L st w) : zV E M d Post pc L (.long y :: .long x :: st) w :=
  zV.lcmp hT hl0 (zV.if2 hT hl (fun h => kt ((zIl_if cd x y).mp h)) (fun h => kf (fun q => h ((zIl_if cd x y).mpr q))))
theorem zV.ift (hT : zTab M T) {cd : Jvm.ClassFile.Cond} {off : Int} {tgt : Nat} (hl : T.lookup pc = some (.ifCond cd off, nx, .retAddr tgt)) {x : Int32} (h : zIf cd x) (k : zV E M d Post tgt L st w) : zV E M d Post pc L (.int x :: st) w := zV.if2 hT hl (fun _ => k) (fun q => absurd h q)
theorem zV.iff (hT : zTab M T) {cd : Jvm.ClassFile.Cond} {off : Int} {tgt : Nat} (hl : T.lookup pc = some (.ifCond cd off, nx, .retAddr tgt)) {x : Int32} (h : ¬ zIf cd x) (k : zV E M d Post nx L st w) : zV E M d Post pc L (.int x :: st) w := zV.if2 hT hl (fun q => absurd q h) (fun _ => k)
theorem zV.ict (hT : zTab M T) {cd : Jvm.ClassFile.Cond} {off : Int} {tgt : Nat} (hl : T.lookup pc = some (.if_icmp cd off, nx, .retAddr tgt)) {x y : Int32} (h : zIc cd x y) (k : zV E M d Post tgt L st w) : zV E M d Post pc L (.int y :: .int x :: st) w := zV.ic2 hT hl (fun _ => k) (fun q => absurd h q)
theorem zV.icf (hT : zTab M T) {cd : Jvm.ClassFile.Cond} {off : Int} {tgt : Nat} (hl : T.lookup pc = some (.if_icmp cd off, nx, .retAddr tgt)) {x y : Int32} (h : ¬ zIc cd x y) (k : zV E M d Post nx L st w) : zV E M d Post pc L (.int y :: .int x :: st) w := zV.ic2 hT hl (fun q => absurd q h) (fun _ => k)
theorem zV.ilt (hT : zTab M T) (hl0 : T.lookup pc = some (.lcmp, nx, aux)) {cd : Jvm.ClassFile.Cond} {off : Int} {n2 tgt : Nat} (hl : T.lookup nx = some (.ifCond cd off, n2, .retAddr tgt)) {x y : Int64} (h : zIl cd x y) (k : zV E M d Post tgt L st w) : zV E M d Post pc L (.long y :: .long x :: st) w := zV.il2 hT hl0 hl (fun _ => k) (fun q => absurd h q)
theorem zV.ilf (hT : zTab M T) (hl0 : T.lookup pc = some (.lcmp, nx, aux)) {cd : Jvm.ClassFile.Cond} {off : Int} {n2 tgt : Nat} (hl : T.lookup nx = some (.ifCond cd off, n2, .retAddr tgt)) {x y : Int64} (h : ¬ zIl cd x y) (k : zV E M d Post n2 L st w) : zV E M d Post pc L (.long y :: .long x :: st) w := zV.il2 hT hl0 hl (fun q => absurd q h) (fun _ => k)
-- divisions
theorem zV.idiv (hT : zTab M T) (hl : T.lookup pc = some (.idiv, nx, aux)) {x y : Int32} (hne : ¬ y = 0) (k : zV E M d Post nx L (.int (x / y) :: st) w) : zV E M d Post pc L (.int y :: .int x :: st) w := by
  intro hI p e s m args below meth c H locs ls X hP hS hL
  have K := k hI p e s m args below meth c H locs ls X hP hS hL
  obtain ⟨hx, hb, -⟩ := X
  obtain ⟨h1, h2⟩ := zTab.dec hT hl
  have h2 : nx = pc + 1 := of_decide_eq_true h2
  subst h2
  exact lv_idiv hx hb h1 hne K
theorem zV.irem (hT : zTab M T) (hl : T.lookup pc = some (.irem, nx, aux)) {x y : Int32} (hne : ¬ y = 0) (k : zV E M d Post nx L (.int (x - x / y * y) :: st) w) : zV E M d Post pc L (.int y :: .int x :: st) w := by
  intro hI p e s m args below meth c H locs ls X hP hS hL
  have K := k hI p e s m args below meth c H locs ls X hP hS hL
  obtain ⟨hx, hb, -⟩ := X
  obtain ⟨h1, h2⟩ := zTab.dec hT hl
  have h2 : nx = pc + 1 := of_decide_eq_true h2
  subst h2
  exact lv_irem hx hb h1 hne K
theorem zV.ldiv (hT : zTab M T) (hl : T.lookup pc = some (.ldiv, nx, aux)) {x y : Int64} (hne : ¬ y = 0) (k : zV E M d Post nx L (.long (x / y) :: st) w) : zV E M d Post pc L (.long y :: .long x :: st) w := by
  intro hI p e s m args below meth c H locs ls X hP hS hL
  have K := k hI p e s m args below meth c H locs ls X hP hS hL
  obtain ⟨hx, hb, -⟩ := X
  obtain ⟨h1, h2⟩ := zTab.dec hT hl
  have h2 : nx = pc + 1 := of_decide_eq_true h2
  subst h2
  exact lv_ldiv hx hb h1 hne K
theorem zV.lrem (hT : zTab M T) (hl : T.lookup pc = some (.lrem, nx, aux)) {x y : Int64} (hne : ¬ y = 0) (k : zV E M d Post nx L (.long (x - x / y * y) :: st) w) : zV E M d Post pc L (.long y :: .long x :: st) w := by
  intro hI p e s m args below meth c H locs ls X hP hS hL
  have K := k hI p e s m args below meth c H locs ls X hP hS hL
  obtain ⟨hx, hb, -⟩ := X
  obtain ⟨h1, h2⟩ := zTab.dec hT hl
  have h2 : nx = pc + 1 := of_decide_eq_true h2
  subst h2
  exact lv_lrem hx hb h1 hne K
-- fields
theorem zV.gf (hT : zTab M T) {idx ci k : Nat} (hl : T.lookup pc = some (.getfield idx, nx, aux)) (hF : zFl M.1.cls idx ci k) {a : Nat} {fs : List Value} {v : Value} (ha : zIs w a (.inr (ci, fs))) (hv : fs[k]? = some v) (kk : zV E M d Post nx L (v :: st) w) : zV E M d Post pc L (.ref a :: st) w := by
  intro hI p e s m args below meth c H locs ls X hP hS hL
  have K := kk hI p e s m args below meth c H locs ls X hP hS hL
  obtain ⟨hx, hb, -, -, -, ho, hw, hK⟩ := X
  obtain ⟨h1, h2⟩ := zTab.dec hT hl
  have h2 : nx = pc + 3 := of_decide_eq_true h2
  subst h2
  obtain ⟨C, TT, N, g1, g2, g3, g4⟩ := hF
  exact va_get (D := E.2.1) (ci := ci) (v := zv E.2.2.1 v) (C := C) (T := TT) (N := N) (fs := fs.map (zv E.2.2.1)) hx hb hw (fun x h => List.mem_cons_of_mem _ (g3 x h)) ho hK.1 hP a (zW_at ha) g1 k g2 (hw _ (List.mem_cons_of_mem _ g4)) (fun _ h9 => h9) (by rw [List.getElem?_map, hv]; rfl) h1 K
theorem zV.pf (hT : zTab M T) {idx ci k : Nat} {ty : FieldType} (hl : T.lookup pc = some (.putfield idx, nx, aux)) (hF : zFp M.1.cls idx ci k ty) {a : Nat} {fs : List Value} {v : Value} (ha : zIs w a (.inr (ci, fs))) (hk : k < fs.length) (hn : narrow ty v = v) (hf : fits ty v = true) (hz : ∀ ad, zv ad v = v) (kk : zV E M d Post nx L st (va_up w a (.inr (ci, fs.set k v)))) : zV E M d Post pc L (v :: .ref a :: st) w := by
  intro hI p e s m args below meth c H locs ls X hP hS hL
  have K := fun H locs hP hS => kk hI p e s m args below meth c H locs ls X hP hS hL
  obtain ⟨hx, hb, -, -, -, ho, hw, hK⟩ := X
  obtain ⟨h1, h2⟩ := zTab.dec hT hl
  have h2 : nx = pc + 3 := of_decide_eq_true h2
  subst h2
  obtain ⟨C, TT, N, ty0, g1, g2, g3, g4, g5, g6, g7, g8⟩ := hF
  show W p E.1 e (zRm d) s m args below meth c H locs 0 0 _ (F0 m pc ls (zv E.2.2.1 v :: .ref (E.2.2.1 a) :: st.map (zv E.2.2.1)))
  rw [hz]
  refine va_put (D := E.2.1) (ci := ci) (v := v) (ty := ty) (C := C) (T := TT) (N := N) (fs := fs.map (zv E.2.2.1)) hx hb hw (fun x h => List.mem_cons_of_mem _ (g3 x h)) ty0 g5 g6 ho hK.1 hP (zD hI) hS a (zW_at ha) g1 k g2 (hw _ (List.mem_cons_of_mem _ g4)) (fun _ h9 => h9) g7 g8 hn hf (by simpa using hk) h1 (fun H1 locs1 hP1 _ hS1 => K H1 locs1 ?_ hS1)
  have e1 : (zW E.2.2.1 E.2.2.2 w).set a (E.2.2.1 a, .inr (ci, (fs.map (zv E.2.2.1)).set k v)) = zW E.2.2.1 E.2.2.2 (va_up w a (.inr (ci, fs.set k v))) := by
    rw [← zW_set _ ha.1]
    simp only [zc, List.map_set, hz]
  rw [← e1]
  exact hP1
theorem zV.pfi (hT : zTab M T) {idx ci k : Nat} (hl : T.lookup pc = some (.putfield idx, nx, aux)) (hF : zFp M.1.cls idx ci k .int) {a : Nat} {fs : List Value} {x : Int32} (ha : zIs w a (.inr (ci, fs))) (hk : k < fs.length) (kk : zV E M d Post nx L st (va_up w a (.inr (ci, fs.set k (.int x))))) : zV E M d Post pc L (.int x :: .ref a :: st) w :=
  zV.pf hT hl hF ha hk rfl rfl (fun _ => rfl) kk
theorem zV.pfl (hT : zTab M T) {idx ci k : Nat} (hl : T.lookup pc = some (.putfield idx, nx, aux)) (hF : zFp M.1.cls idx ci k .long) {a : Nat} {fs : List Value} {x : Int64} (ha : zIs w a (.inr (ci, fs))) (hk : k < fs.length) (kk : zV E M d Post nx L st (va_up w a (.inr (ci, fs.set k (.long x))))) : zV E M d Post pc L (.long x :: .ref a :: st) w :=
  zV.pf hT hl hF ha hk rfl rfl (fun _ => rfl) kk
theorem zV.pfz (hT : zTab M T) {idx ci k : Nat} (hl : T.lookup pc = some (.putfield idx, nx, aux)) (hF : zFp M.1.cls idx ci k .boolean) {a : Nat} {fs : List Value} {x : Int32} (hx : x = 0 ∨ x = 1) (ha : zIs w a (.inr (ci, fs))) (hk : k < fs.length) (kk : zV E M d Post nx L st (va_up w a (.inr (ci, fs.set k (.int x))))) : zV E M d Post pc L (.int x :: .ref a :: st) w := by
  rcases hx with rfl | rfl
  · exact zV.pf hT hl hF ha hk (by decide +kernel) (by decide +kernel) (fun _ => rfl) kk
  · exact zV.pf hT hl hF ha hk (by decide +kernel) (by decide +kernel) (fun _ => rfl) kk
-- arrays
theorem zV.ial (hT : zTab M T) (hl : T.lookup pc = some (.iaload, nx, aux)) {a n : Nat} {f : Nat → Int32} {i : Int32} (ha : zIs w a (zIA n f)) (j : Nat) (hi : i = nI j) (hj : j < n) (hn : n < 2 ^ 31) (kk : zV E M d Post nx L (.int (f j) :: st) w) : zV E M d Post pc L (.int i :: .ref a :: st) w := by
  intro hI p e s m args below meth c H locs ls X hP hS hL
  have K := kk hI p e s m args below meth c H locs ls X hP hS hL
  obtain ⟨hx, hb, -, -, -, ho, hw, hK⟩ := X
  obtain ⟨h1, h2⟩ := zTab.dec hT hl
  have h2 : nx = pc + 1 := of_decide_eq_true h2
  subst h2
  subst hi
  refine va_iald (cA := E.2.2.2 0) (n := n) (f := f) hx hb hK.1 hP a 0 (zW_at ha) rfl (vp_in_nI hj hn) h1 ?_
  rw [nI_clamp (Nat.lt_trans hj hn)]
  exact K
theorem zV.lal (hT : zTab M T) (hl : T.lookup pc = some (.laload, nx, aux)) {a n : Nat} {f : Nat → Int64} {i : Int32} (ha : zIs w a (zLA n f)) (j : Nat) (hi : i = nI j) (hj : j < n) (hn : n < 2 ^ 31) (kk : zV E M d Post nx L (.long (f j) :: st) w) : zV E M d Post pc L (.int i :: .ref a :: st) w := by
  intro hI p e s m args below meth c H locs ls X hP hS hL
  have K := kk hI p e s m args below meth c H locs ls X hP hS hL
  obtain ⟨hx, hb, -, -, -, ho, hw, hK⟩ := X
  obtain ⟨h1, h2⟩ := zTab.dec hT hl
  have h2 : nx = pc + 1 := of_decide_eq_true h2
  subst h2
  subst hi
  refine va_lald (cA := E.2.2.2 1) (n := n) (f := f) hx hb hK.1 hP a 1 (zW_at ha) rfl (vp_in_nI hj hn) h1 ?_
  rw [nI_clamp (Nat.lt_trans hj hn)]
  exact K
theorem zV.zal (hT : zTab M T) (hl : T.lookup pc = some (.baload, nx, aux)) {a n : Nat} {f : Nat → Int32} {i : Int32} (ha : zIs w a (zZA n f)) (j : Nat) (hi : i = nI j) (hj : j < n) (hn : n < 2 ^ 31) (kk : zV E M d Post nx L (.int (f j) :: st) w) : zV E M d Post pc L (.int i :: .ref a :: st) w := by
  intro hI p e s m args below meth c H locs ls X hP hS hL
  have K := kk hI p e s m args below meth c H locs ls X hP hS hL
  obtain ⟨hx, hb, -, -, -, ho, hw, hK⟩ := X
  obtain ⟨h1, h2⟩ := zTab.dec hT hl
  have h2 : nx = pc + 1 := of_decide_eq_true h2
  subst h2
  subst hi
  refine va_zald (cA := E.2.2.2 2) (n := n) (f := f) hx hb hK.1 hP a 2 (zW_at ha) rfl (vp_in_nI hj hn) h1 ?_
  rw [nI_clamp (Nat.lt_trans hj hn)]
  exact K
theorem zV.aalF (hT : zTab M T) (hl : T.lookup pc = some (.aaload, nx, aux)) {a n : Nat} {f : Nat → Option Nat} {i : Int32} (ha : zIs w a (zRA 3 n f)) (j : Nat) (hi : i = nI j) (hj : j < n) (hn : n < 2 ^ 31) {b : Nat} (hb : f j = some b) (kk : zV E M d Post nx L (.ref b :: st) w) : zV E M d Post pc L (.int i :: .ref a :: st) w := by
  intro hI p e s m args below meth c H locs ls X hP hS hL
  have K := kk hI p e s m args below meth c H locs ls X hP hS hL
  obtain ⟨hx, hbb, -, -, -, ho, hw, hK⟩ := X
  obtain ⟨h1, h2⟩ := zTab.dec hT hl
  have h2 : nx = pc + 1 := of_decide_eq_true h2
  subst h2
  subst hi
  refine va_aldq (cA := E.2.2.2 3) (C := "SpanMaps$Fold") (n := n) (f := fun j => (f j).map E.2.2.1) hx hbb hK.1 hP a 3 (zW_at ha) rfl (vp_in_nI hj hn) h1 ?_
  rw [nI_clamp (Nat.lt_trans hj hn)]
  simp only [hb, Option.map_some, va_rf]
  exact K
theorem zV.aalL (hT : zTab M T) (hl : T.lookup pc = some (.aaload, nx, aux)) {a n : Nat} {f : Nat → Option Nat} {i : Int32} (ha : zIs w a (zRA 4 n f)) (j : Nat) (hi : i = nI j) (hj : j < n) (hn : n < 2 ^ 31) {b : Nat} (hb : f j = some b) (kk : zV E M d Post nx L (.ref b :: st) w) : zV E M d Post pc L (.int i :: .ref a :: st) w := by
  intro hI p e s m args below meth c H locs ls X hP hS hL
  have K := kk hI p e s m args below meth c H locs ls X hP hS hL
  obtain ⟨hx, hbb, -, -, -, ho, hw, hK⟩ := X
  obtain ⟨h1, h2⟩ := zTab.dec hT hl
  have h2 : nx = pc + 1 := of_decide_eq_true h2
  subst h2
  subst hi
  have hin := vp_in_nI hj hn
  have hc := nI_clamp (Nat.lt_trans hj hn)
  have ha2 : (zW E.2.2.1 E.2.2.2 w)[a]? = some (E.2.2.1 a, .inl (E.2.2.2 4, n, .inr (.inr (.inr (.inr (fun j => (f j).map E.2.2.1)))))) := zW_at ha
  exact W.aald (v := .ref (E.2.2.1 b)) (ty := .array .long) hx hbb (hP a _ ha2) ((hK.1.2 4 (E.2.2.2 4, .array .long) rfl).1 n (fun j => va_rf ((f j).map E.2.2.1))) rfl (fun q => by cases q) (by show ¬ (nI j < 0 ∨ (arrV _ _ _).slots.size ≤ _); rw [arrV_size]; exact hin) (by show (arrV _ _ _).slots[_]? = _; rw [hc, arrV_read _ _ hj]; simp [hb, va_rf]) rfl rfl h1 K
theorem zV.ias (hT : zTab M T) (hl : T.lookup pc = some (.iastore, nx, aux)) {a n : Nat} {f : Nat → Int32} {i x : Int32} (ha : zIs w a (zIA n f)) (j : Nat) (hi : i = nI j) (hj : j < n) (hn : n < 2 ^ 31) (kk : zV E M d Post nx L st (va_up w a (zIA n (upd f j x)))) : zV E M d Post pc L (.int x :: .int i :: .ref a :: st) w := by
  intro hI p e s m args below meth c H locs ls X hP hS hL
  have K := fun H locs hP hS => kk hI p e s m args below meth c H locs ls X hP hS hL
  obtain ⟨hx, hb, -, -, -, ho, hw, hK⟩ := X
  obtain ⟨h1, h2⟩ := zTab.dec hT hl
  have h2 : nx = pc + 1 := of_decide_eq_true h2
  subst h2
  subst hi
  refine va_iast (cA := E.2.2.2 0) (n := n) (f := f) hx hb hK.1 hP (zD hI) hS a 0 (zW_at ha) rfl (vp_in_nI hj hn) h1 (fun H1 locs1 hP1 _ hS1 => K H1 locs1 ?_ hS1)
  rw [nI_clamp (Nat.lt_trans hj hn)] at hP1
  rw [← zW_set _ ha.1]
  exact hP1
theorem zV.las (hT : zTab M T) (hl : T.lookup pc = some (.lastore, nx, aux)) {a n : Nat} {f : Nat → Int64} {i : Int32} {x : Int64} (ha : zIs w a (zLA n f)) (j : Nat) (hi : i = nI j) (hj : j < n) (hn : n < 2 ^ 31) (kk : zV E M d Post nx L st (va_up w a (zLA n (vp_updL f j x)))) : zV E M d Post pc L (.long x :: .int i :: .ref a :: st) w := by
  intro hI p e s m args below meth c H locs ls X hP hS hL
  have K := fun H locs hP hS => kk hI p e s m args below meth c H locs ls X hP hS hL
  obtain ⟨hx, hb, -, -, -, ho, hw, hK⟩ := X
  obtain ⟨h1, h2⟩ := zTab.dec hT hl
  have h2 : nx = pc + 1 := of_decide_eq_true h2
  subst h2
  subst hi
  refine va_last (cA := E.2.2.2 1) (n := n) (f := f) hx hb hK.1 hP (zD hI) hS a 1 (zW_at ha) rfl (vp_in_nI hj hn) h1 (fun H1 locs1 hP1 _ hS1 => K H1 locs1 ?_ hS1)
  rw [nI_clamp (Nat.lt_trans hj hn)] at hP1
  rw [← zW_set _ ha.1]
  exact hP1
theorem zV.zas (hT : zTab M T) (hl : T.lookup pc = some (.bastore, nx, aux)) {a n : Nat} {f : Nat → Int32} {i x : Int32} (hx01 : x = 0 ∨ x = 1) (ha : zIs w a (zZA n f)) (j : Nat) (hi : i = nI j) (hj : j < n) (hn : n < 2 ^ 31) (kk : zV E M d Post nx L st (va_up w a (zZA n (upd f j x)))) : zV E M d Post pc L (.int x :: .int i :: .ref a :: st) w := by
  intro hI p e s m args below meth c H locs ls X hP hS hL
  have K := fun H locs hP hS => kk hI p e s m args below meth c H locs ls X hP hS hL
  obtain ⟨hx, hb, -, -, -, ho, hw, hK⟩ := X
  obtain ⟨h1, h2⟩ := zTab.dec hT hl
  have h2 : nx = pc + 1 := of_decide_eq_true h2
  subst h2
  subst hi
  refine va_zast (cA := E.2.2.2 2) (n := n) (f := f) hx hb hK.1 hP (zD hI) hS a 2 (zW_at ha) rfl (vp_in_nI hj hn) h1 (fun H1 locs1 hP1 _ hS1 => K H1 locs1 ?_ hS1)
  have e1 : vp_nar .boolean x = x := by
    rcases hx01 with rfl | rfl <;> decide +kernel
  rw [nI_clamp (Nat.lt_trans hj hn), e1] at hP1
  rw [← zW_set _ ha.1]
  exact hP1
-- ends
theorem zV.iret (hT : zTab M T) (hl : T.lookup pc = some (.ireturn, nx, aux)) (hr : M.2.2.2 = some .int) {x : Int32} (hp : Post (some (.int x)) w) : zV E M d Post pc L [.int x] w := by
  intro hI p e s m args below meth c H locs ls X hP hS hL
  obtain ⟨hx, hb, -, hret, hlk, ho, hw, hK⟩ := X
  obtain ⟨h1, h2⟩ := zTab.dec hT hl
  exact W.iret (v := x) hx hb (hret.trans hr) (fun t ht hW => ⟨⟨some (.int x), w, rfl, hp, by rw [ht]; exact hP⟩, hS.F ht⟩) hS.2.2 h1 hlk
theorem zV.zret (hT : zTab M T) (hl : T.lookup pc = some (.ireturn, nx, aux)) (hr : M.2.2.2 = some .boolean) {x : Int32} (hx01 : x = 0 ∨ x = 1) (hp : Post (some (.int x)) w) : zV E M d Post pc L [.int x] w := by
  intro hI p e s m args below meth c H locs ls X hP hS hL
  obtain ⟨hx, hb, -, hret, hlk, ho, hw, hK⟩ := X
  obtain ⟨h1, h2⟩ := zTab.dec hT hl
  exact W.zret (v := x) hx hb (hret.trans hr) (by rcases hx01 with rfl | rfl <;> decide +kernel) (fun t ht hW => ⟨⟨some (.int x), w, rfl, hp, by rw [ht]; exact hP⟩, hS.F ht⟩) hS.2.2 h1 hlk
theorem zV.lret (hT : zTab M T) (hl : T.lookup pc = some (.lreturn, nx, aux)) (hr : M.2.2.2 = some .long) {x : Int64} (hp : Post (some (.long x)) w) : zV E M d Post pc L [.long x] w := by
  intro hI p e s m args below meth c H locs ls X hP hS hL
  obtain ⟨hx, hb, -, hret, hlk, ho, hw, hK⟩ := X
  obtain ⟨h1, h2⟩ := zTab.dec hT hl
  exact W.lret (v := x) hx hb (hret.trans hr) (fun t ht hW => ⟨⟨some (.long x), w, rfl, hp, by rw [ht]; exact hP⟩, hS.F ht⟩) hS.2.2 h1 hlk
theorem zV.vret (hT : zTab M T) (hl : T.lookup pc = some (.return_, nx, aux)) (hr : M.2.2.2 = none) (hp : Post none w) : zV E M d Post pc L [] w := by
  intro hI p e s m args below meth c H locs ls X hP hS hL
  obtain ⟨hx, hb, -, hret, hlk, ho, hw, hK⟩ := X
  obtain ⟨h1, h2⟩ := zTab.dec hT hl
  exact W.vret hx hb (hret.trans hr) (fun t ht hW => ⟨⟨none, w, rfl, hp, by rw [ht]; exact hP⟩, hS.F ht⟩) hS.2.2 h1 hlk
-- calls
theorem zV.cv (hT : zTab M T) {idx n d' : Nat} {N : zM} (hl : T.lookup pc = some (.invokevirtual idx, nx, aux)) (hC : zCv M.1.cls idx N n) {a : Nat} {As stk : List Value} {Q : Option Value → zWd → Prop} (hok : zOk E N d' (.ref a :: As) w Q) (hd : d' < d) (hn : As.length = n) {ci : Nat} {fs : List Value} {q : vw_C} (ha : zIs w a (.inr (ci, fs))) (hc : zCl[ci]? = some q) (hq : q.1 = N.1.cls) (hs : stk = As.reverse ++ .ref a :: st) (hw8 : (st.map fun v => v.category).sum ≤ 8) (kk : ∀ r w', Q r w' → zV E M d Post nx L (r.toList ++ st) w') : zV E M d Post pc L stk w := by
  intro hI p e s m args below meth c H locs ls X hP hS hL
  have K := fun r w' H locs hQ hP hS => kk r w' hQ hI p e s m args below meth c H locs ls X hP hS hL
  have hM := hok hI
  obtain ⟨hx, hb, hml, hret, hlk, ho, hw, hK⟩ := X
  obtain ⟨h1, h2⟩ := zTab.dec hT hl
  have h2 : nx = pc + 3 := of_decide_eq_true h2
  subst h2
  subst hs
  obtain ⟨c1, c2, c3, c4, c5, c6, c7⟩ := hC
  have inB : ∀ x, x ∈ zB → x.before args s = true := fun x h => hw _ (List.mem_cons_of_mem _ h)
  have hroom : (zRm d').frames + 1 ≤ (zRm d).frames ∧ 8 + (N.2.2.1 + 11) + (zRm d').locals ≤ (zRm d).locals := ⟨hd, by show 8 + (N.2.2.1 + 11) + 42 * d' ≤ 42 * d; omega⟩
  refine zcall_of (Q := Q) (st := st) (va_runV (C := N.1.cls) (As := As.map (zv E.2.2.1)) (b := E.2.2.1 a) (n := n) (rest := st.map (zv E.2.2.1)) (Ts := zws M) ⟨hx, hb, hml, ho, hw⟩ hM ⟨callB_of n hw (zgood ⟨c4, c5, c6, c7⟩) rfl rfl rfl (inB _ c4) (inB _ c1) c6 hroom, inB _ c2, inB _ c3⟩ ⟨zP_blind, by rw [← hq]; exact va_recv hK.1 hP hc (zW_at ha), fun U hU hW => zP_of (av := .ref a :: As) hP hK hU hW⟩ rfl (by rw [List.length_map]; exact hn) hL.2.1 (by simp [List.map_append, List.map_reverse, zv]) (lv_room (by rw [zsum]; exact hw8)) h1 ⟨Nat.le_refl _, Nat.le_refl _⟩) hS K
theorem zV.cs (hT : zTab M T) {idx n d' : Nat} {N : zM} (hl : T.lookup pc = some (.invokestatic idx, nx, aux)) (hC : zCs M.1.cls idx N n) {As stk : List Value} {Q : Option Value → zWd → Prop} (hok : zOk E N d' As w Q) (hd : d' < d) (hn : As.length = n) (hs : stk = As.reverse ++ st) (hw8 : (st.map fun v => v.category).sum ≤ 8) (kk : ∀ r w', Q r w' → zV E M d Post nx L (r.toList ++ st) w') : zV E M d Post pc L stk w := by
  intro hI p e s m args below meth c H locs ls X hP hS hL
  have K := fun r w' H locs hQ hP hS => kk r w' hQ hI p e s m args below meth c H locs ls X hP hS hL
  have hM := hok hI
  obtain ⟨hx, hb, hml, hret, hlk, ho, hw, hK⟩ := X
  obtain ⟨h1, h2⟩ := zTab.dec hT hl
  have h2 : nx = pc + 3 := of_decide_eq_true h2
  subst h2
  subst hs
  obtain ⟨c1, c2, c4, c5, c6, c7⟩ := hC
  have inB : ∀ x, x ∈ zB → x.before args s = true := fun x h => hw _ (List.mem_cons_of_mem _ h)
  have hroom : (zRm d').frames + 1 ≤ (zRm d).frames ∧ 8 + (N.2.2.1 + 11) + (zRm d').locals ≤ (zRm d).locals := ⟨hd, by show 8 + (N.2.2.1 + 11) + 42 * d' ≤ 42 * d; omega⟩
  refine zcall_of (Q := Q) (st := st) (va_runS (As := As.map (zv E.2.2.1)) (n := n) (rest := st.map (zv E.2.2.1)) (Ts := zws M) ⟨hx, hb, hml, ho, hw⟩ hM ⟨callB_of n hw (zgood ⟨c4, c5, c6, c7⟩) rfl rfl rfl (inB _ c4) (inB _ c1) c6 hroom, inB _ c2⟩ ⟨zP_blind, fun U hU hW => zP_of (av := As) hP hK hU hW⟩ rfl (by rw [List.length_map]; exact hn) hL.2.1 (by simp [List.map_append, List.map_reverse]) (lv_room (by rw [zsum]; exact hw8)) h1 ⟨Nat.le_refl _, Nat.le_refl _⟩) hS K
theorem zV.cn (hT : zTab M T) {idx n d' : Nat} {N : zM} (hl : T.lookup pc = some (.invokestatic idx, nx, aux)) (hC : zCn N n) (hnm : zNm = .methodLinkNest M.1.cls idx N.1 "SpanMaps") {As stk : List Value} {Q : Option Value → zWd → Prop} (hok : zOk E N d' As w Q) (hd : d' < d) (hn : As.length = n) (hs : stk = As.reverse ++ st) (hw8 : (st.map fun v => v.category).sum ≤ 8) (kk : ∀ r w', Q r w' → zV E M d Post nx L (r.toList ++ st) w') : zV E M d Post pc L stk w := by
  intro hI p e s m args below meth c H locs ls X hP hS hL
  have K := fun r w' H locs hQ hP hS => kk r w' hQ hI p e s m args below meth c H locs ls X hP hS hL
  have hM := hok hI
  obtain ⟨hx, hb, hml, hret, hlk, ho, hw, hK⟩ := X
  obtain ⟨h1, h2⟩ := zTab.dec hT hl
  have h2 : nx = pc + 3 := of_decide_eq_true h2
  subst h2
  subst hs
  obtain ⟨c2, c4, c5, c6, c7⟩ := hC
  have inB : ∀ x, x ∈ zB → x.before args s = true := fun x h => hw _ (List.mem_cons_of_mem _ h)
  have hroom : (zRm d').frames + 1 ≤ (zRm d).frames ∧ 8 + (N.2.2.1 + 11) + (zRm d').locals ≤ (zRm d).locals := ⟨hd, by show 8 + (N.2.2.1 + 11) + 42 * d' ≤ 42 * d; omega⟩
  have hnw : va_Nw (.methodLinkNest M.1.cls idx N.1 "SpanMaps") s := by rw [← hnm]; exact hK.2
  refine zcall_of (Q := Q) (st := st) (va_runSN (As := As.map (zv E.2.2.1)) (n := n) (rest := st.map (zv E.2.2.1)) (Ts := zws M) ⟨hx, hb, hml, ho, hw⟩ hM ⟨va_cnB n hw (zgood ⟨c4, c5, c6, c7⟩) rfl rfl rfl hnw (inB _ c4) c6 hroom, inB _ c2, trivial⟩ ⟨zP_blind, fun U hU hW => zP_of (av := As) hP hK hU hW⟩ rfl (by rw [List.length_map]; exact hn) hL.2.1 (by simp [List.map_append, List.map_reverse]) (lv_room (by rw [zsum]; exact hw8)) h1 ⟨Nat.le_refl _, Nat.le_refl _⟩) hS K
end ZR2
end
