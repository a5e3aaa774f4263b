section
-- ===== PART A: goes FIRST, ahead of the names: the tables' words, and 'selects' of the private methods out of them =====
/-- a private method of a class that the tables say can be made, by its rows of tables_1 -/
def lw_okq (q : MethodName × Nat) : Prop := (q.1.cls ≠ "java/lang/invoke/MethodHandle" ∧ q.1.cls ≠ "java/lang/invoke/VarHandle") ∧ Cond.instantiable q.1.cls q.2 ∈ tables_1 ∧ Cond.privateMethod q.1 ∈ tables_1 ∧ Cond.instanceMethod q.1 ∈ tables_1
theorem lw_p0 : lw_okq (⟨"SpanMaps$Powers", "multiply", "(LSpanMaps$Fold;I)V"⟩, 2) := ⟨⟨by decide +kernel, by decide +kernel⟩, List.mem_of_getElem? (i := 36) (by decide +kernel), List.mem_of_getElem? (i := 237) (by decide +kernel), List.mem_of_getElem? (i := 238) (by decide +kernel)⟩
theorem lw_p1 : lw_okq (⟨"SpanMaps$Returns", "studyEdge", "(LSpanMaps$Fold;I)V"⟩, 9) := ⟨⟨by decide +kernel, by decide +kernel⟩, List.mem_of_getElem? (i := 52) (by decide +kernel), List.mem_of_getElem? (i := 303) (by decide +kernel), List.mem_of_getElem? (i := 304) (by decide +kernel)⟩
theorem lw_p2 : lw_okq (⟨"SpanMaps$Returns", "settle", "(JJ)Z"⟩, 9) := ⟨⟨by decide +kernel, by decide +kernel⟩, List.mem_of_getElem? (i := 52) (by decide +kernel), List.mem_of_getElem? (i := 342) (by decide +kernel), List.mem_of_getElem? (i := 343) (by decide +kernel)⟩
theorem lw_p3 : lw_okq (⟨"SpanMaps$Returns", "isInside", "(II)Z"⟩, 9) := ⟨⟨by decide +kernel, by decide +kernel⟩, List.mem_of_getElem? (i := 52) (by decide +kernel), List.mem_of_getElem? (i := 349) (by decide +kernel), List.mem_of_getElem? (i := 350) (by decide +kernel)⟩
theorem lw_p4 : lw_okq (⟨"SpanMaps$Returns", "walk", "(LSpanMaps$Fold;II)Z"⟩, 9) := ⟨⟨by decide +kernel, by decide +kernel⟩, List.mem_of_getElem? (i := 52) (by decide +kernel), List.mem_of_getElem? (i := 354) (by decide +kernel), List.mem_of_getElem? (i := 355) (by decide +kernel)⟩
theorem lw_p5 : lw_okq (⟨"SpanMaps$Returns", "nextSpan", "(LSpanMaps$Fold;IIIZ)I"⟩, 9) := ⟨⟨by decide +kernel, by decide +kernel⟩, List.mem_of_getElem? (i := 52) (by decide +kernel), List.mem_of_getElem? (i := 358) (by decide +kernel), List.mem_of_getElem? (i := 359) (by decide +kernel)⟩
theorem lw_p6 : lw_okq (⟨"SpanMapsModel", "slopeOf", "(II)I"⟩, 16) := ⟨⟨by decide +kernel, by decide +kernel⟩, List.mem_of_getElem? (i := 426) (by decide +kernel), List.mem_of_getElem? (i := 514) (by decide +kernel), List.mem_of_getElem? (i := 515) (by decide +kernel)⟩
theorem lw_p7 : lw_okq (⟨"SpanMapsModel", "isPoint", "(IJJ)Z"⟩, 16) := ⟨⟨by decide +kernel, by decide +kernel⟩, List.mem_of_getElem? (i := 426) (by decide +kernel), List.mem_of_getElem? (i := 522) (by decide +kernel), List.mem_of_getElem? (i := 523) (by decide +kernel)⟩
theorem lw_p8 : lw_okq (⟨"SpanMapsModel", "at", "(JJ)V"⟩, 16) := ⟨⟨by decide +kernel, by decide +kernel⟩, List.mem_of_getElem? (i := 426) (by decide +kernel), List.mem_of_getElem? (i := 529) (by decide +kernel), List.mem_of_getElem? (i := 530) (by decide +kernel)⟩
theorem lw_p9 : lw_okq (⟨"SpanMapsModel", "step", "(I)V"⟩, 16) := ⟨⟨by decide +kernel, by decide +kernel⟩, List.mem_of_getElem? (i := 426) (by decide +kernel), List.mem_of_getElem? (i := 536) (by decide +kernel), List.mem_of_getElem? (i := 537) (by decide +kernel)⟩
theorem lw_p10 : lw_okq (⟨"SpanMapsModel", "span", "(I)I"⟩, 16) := ⟨⟨by decide +kernel, by decide +kernel⟩, List.mem_of_getElem? (i := 426) (by decide +kernel), List.mem_of_getElem? (i := 540) (by decide +kernel), List.mem_of_getElem? (i := 541) (by decide +kernel)⟩
theorem lw_p11 : lw_okq (⟨"SpanMapsModel", "told", "(I)J"⟩, 16) := ⟨⟨by decide +kernel, by decide +kernel⟩, List.mem_of_getElem? (i := 426) (by decide +kernel), List.mem_of_getElem? (i := 544) (by decide +kernel), List.mem_of_getElem? (i := 545) (by decide +kernel)⟩
theorem lw_p12 : lw_okq (⟨"SpanMapsModel", "isSpan", "(II)Z"⟩, 16) := ⟨⟨by decide +kernel, by decide +kernel⟩, List.mem_of_getElem? (i := 426) (by decide +kernel), List.mem_of_getElem? (i := 565) (by decide +kernel), List.mem_of_getElem? (i := 566) (by decide +kernel)⟩
theorem lw_p13 : lw_okq (⟨"SpanMapsModel", "covers", "(III)I"⟩, 16) := ⟨⟨by decide +kernel, by decide +kernel⟩, List.mem_of_getElem? (i := 426) (by decide +kernel), List.mem_of_getElem? (i := 569) (by decide +kernel), List.mem_of_getElem? (i := 570) (by decide +kernel)⟩
theorem lw_p14 : lw_okq (⟨"SpanMapsModel", "findWays", "(III)V"⟩, 16) := ⟨⟨by decide +kernel, by decide +kernel⟩, List.mem_of_getElem? (i := 426) (by decide +kernel), List.mem_of_getElem? (i := 578) (by decide +kernel), List.mem_of_getElem? (i := 579) (by decide +kernel)⟩
theorem lw_p15 : lw_okq (⟨"SpanMapsModel", "reach", "(II)I"⟩, 16) := ⟨⟨by decide +kernel, by decide +kernel⟩, List.mem_of_getElem? (i := 426) (by decide +kernel), List.mem_of_getElem? (i := 590) (by decide +kernel), List.mem_of_getElem? (i := 591) (by decide +kernel)⟩
def lw_privs_1 : List (MethodName × Nat) := [(⟨"SpanMaps$Powers", "multiply", "(LSpanMaps$Fold;I)V"⟩, 2), (⟨"SpanMaps$Returns", "studyEdge", "(LSpanMaps$Fold;I)V"⟩, 9), (⟨"SpanMaps$Returns", "settle", "(JJ)Z"⟩, 9), (⟨"SpanMaps$Returns", "isInside", "(II)Z"⟩, 9), (⟨"SpanMaps$Returns", "walk", "(LSpanMaps$Fold;II)Z"⟩, 9), (⟨"SpanMaps$Returns", "nextSpan", "(LSpanMaps$Fold;IIIZ)I"⟩, 9), (⟨"SpanMapsModel", "slopeOf", "(II)I"⟩, 16), (⟨"SpanMapsModel", "isPoint", "(IJJ)Z"⟩, 16), (⟨"SpanMapsModel", "at", "(JJ)V"⟩, 16), (⟨"SpanMapsModel", "step", "(I)V"⟩, 16), (⟨"SpanMapsModel", "span", "(I)I"⟩, 16), (⟨"SpanMapsModel", "told", "(I)J"⟩, 16), (⟨"SpanMapsModel", "isSpan", "(II)Z"⟩, 16), (⟨"SpanMapsModel", "covers", "(III)I"⟩, 16), (⟨"SpanMapsModel", "findWays", "(III)V"⟩, 16), (⟨"SpanMapsModel", "reach", "(II)I"⟩, 16)]
theorem lw_r1 : ∀ q ∈ lw_privs_1, lw_okq q := List.forall_mem_cons.mpr ⟨lw_p0, List.forall_mem_cons.mpr ⟨lw_p1, List.forall_mem_cons.mpr ⟨lw_p2, List.forall_mem_cons.mpr ⟨lw_p3, List.forall_mem_cons.mpr ⟨lw_p4, List.forall_mem_cons.mpr ⟨lw_p5, List.forall_mem_cons.mpr ⟨lw_p6, List.forall_mem_cons.mpr ⟨lw_p7, List.forall_mem_cons.mpr ⟨lw_p8, List.forall_mem_cons.mpr ⟨lw_p9, List.forall_mem_cons.mpr ⟨lw_p10, List.forall_mem_cons.mpr ⟨lw_p11, List.forall_mem_cons.mpr ⟨lw_p12, List.forall_mem_cons.mpr ⟨lw_p13, List.forall_mem_cons.mpr ⟨lw_p14, List.forall_mem_cons.mpr ⟨lw_p15, fun _ h => absurd h List.not_mem_nil⟩⟩⟩⟩⟩⟩⟩⟩⟩⟩⟩⟩⟩⟩⟩⟩
theorem lw_p16 : lw_okq (⟨"SpanMapsModel", "spread", "(II)I"⟩, 16) := ⟨⟨by decide +kernel, by decide +kernel⟩, List.mem_of_getElem? (i := 426) (by decide +kernel), List.mem_of_getElem? (i := 594) (by decide +kernel), List.mem_of_getElem? (i := 595) (by decide +kernel)⟩
theorem lw_p17 : lw_okq (⟨"SpanMapsModel", "findRounds", "(II)V"⟩, 16) := ⟨⟨by decide +kernel, by decide +kernel⟩, List.mem_of_getElem? (i := 426) (by decide +kernel), List.mem_of_getElem? (i := 607) (by decide +kernel), List.mem_of_getElem? (i := 608) (by decide +kernel)⟩
theorem lw_p18 : lw_okq (⟨"SpanMapsModel", "enters", "(IIJJ)V"⟩, 16) := ⟨⟨by decide +kernel, by decide +kernel⟩, List.mem_of_getElem? (i := 426) (by decide +kernel), List.mem_of_getElem? (i := 611) (by decide +kernel), List.mem_of_getElem? (i := 612) (by decide +kernel)⟩
theorem lw_p19 : lw_okq (⟨"SpanMapsModel", "goOn", "(III)I"⟩, 16) := ⟨⟨by decide +kernel, by decide +kernel⟩, List.mem_of_getElem? (i := 426) (by decide +kernel), List.mem_of_getElem? (i := 615) (by decide +kernel), List.mem_of_getElem? (i := 616) (by decide +kernel)⟩
theorem lw_p20 : lw_okq (⟨"SpanMapsModel", "comesBack", "(IJJ)V"⟩, 16) := ⟨⟨by decide +kernel, by decide +kernel⟩, List.mem_of_getElem? (i := 426) (by decide +kernel), List.mem_of_getElem? (i := 619) (by decide +kernel), List.mem_of_getElem? (i := 620) (by decide +kernel)⟩
theorem lw_p21 : lw_okq (⟨"SpanMapsModel", "isOn", "(IJJ)Z"⟩, 16) := ⟨⟨by decide +kernel, by decide +kernel⟩, List.mem_of_getElem? (i := 426) (by decide +kernel), List.mem_of_getElem? (i := 623) (by decide +kernel), List.mem_of_getElem? (i := 624) (by decide +kernel)⟩
theorem lw_p22 : lw_okq (⟨"SpanMapsModel", "just", "(II)I"⟩, 16) := ⟨⟨by decide +kernel, by decide +kernel⟩, List.mem_of_getElem? (i := 426) (by decide +kernel), List.mem_of_getElem? (i := 636) (by decide +kernel), List.mem_of_getElem? (i := 637) (by decide +kernel)⟩
theorem lw_p23 : lw_okq (⟨"SpanMapsModel", "hasPeriod", "(II)Z"⟩, 16) := ⟨⟨by decide +kernel, by decide +kernel⟩, List.mem_of_getElem? (i := 426) (by decide +kernel), List.mem_of_getElem? (i := 644) (by decide +kernel), List.mem_of_getElem? (i := 645) (by decide +kernel)⟩
theorem lw_p24 : lw_okq (⟨"SpanMapsModel", "topOf", "(I)I"⟩, 16) := ⟨⟨by decide +kernel, by decide +kernel⟩, List.mem_of_getElem? (i := 426) (by decide +kernel), List.mem_of_getElem? (i := 664) (by decide +kernel), List.mem_of_getElem? (i := 665) (by decide +kernel)⟩
def lw_privs_2 : List (MethodName × Nat) := [(⟨"SpanMapsModel", "spread", "(II)I"⟩, 16), (⟨"SpanMapsModel", "findRounds", "(II)V"⟩, 16), (⟨"SpanMapsModel", "enters", "(IIJJ)V"⟩, 16), (⟨"SpanMapsModel", "goOn", "(III)I"⟩, 16), (⟨"SpanMapsModel", "comesBack", "(IJJ)V"⟩, 16), (⟨"SpanMapsModel", "isOn", "(IJJ)Z"⟩, 16), (⟨"SpanMapsModel", "just", "(II)I"⟩, 16), (⟨"SpanMapsModel", "hasPeriod", "(II)Z"⟩, 16), (⟨"SpanMapsModel", "topOf", "(I)I"⟩, 16)]
theorem lw_r2 : ∀ q ∈ lw_privs_2, lw_okq q := List.forall_mem_cons.mpr ⟨lw_p16, List.forall_mem_cons.mpr ⟨lw_p17, List.forall_mem_cons.mpr ⟨lw_p18, List.forall_mem_cons.mpr ⟨lw_p19, List.forall_mem_cons.mpr ⟨lw_p20, List.forall_mem_cons.mpr ⟨lw_p21, List.forall_mem_cons.mpr ⟨lw_p22, List.forall_mem_cons.mpr ⟨lw_p23, List.forall_mem_cons.mpr ⟨lw_p24, fun _ h => absurd h List.not_mem_nil⟩⟩⟩⟩⟩⟩⟩⟩⟩
def lw_privs : List (MethodName × Nat) := lw_privs_1 ++ (lw_privs_2)
def lw_tbl : List Cond := k2_sels lw_privs ++ tables_1
theorem lw_privs_ok : ∀ q ∈ lw_privs, lw_okq q := by
  show ∀ q ∈ lw_privs_1 ++ (lw_privs_2), lw_okq q
  exact List.forall_mem_append.mpr ⟨lw_r1, lw_r2⟩
end
section
/-! ===== BEGIN words of one list among another's, by their places ===== -/
theorem goodIn_r {big : List Cond} (ws : List Cond) (ps : List Nat) (hp : ws = ps.filterMap (fun i => big[i]?)) (h : ws.all goodWord = true) : GoodIn big ws := by
  intro w hw
  have h1 := List.all_eq_true.mp h w hw
  rw [hp] at hw
  obtain ⟨i, -, hi⟩ := List.mem_filterMap.mp hw
  have hm : w ∈ big := by first | exact List.mem_of_getElem? hi | exact List.getElem?_mem hi
  exact ⟨hm, good_of_word h1⟩
theorem goodIn_app {big a b : List Cond} (ha : GoodIn big a) (hb : GoodIn big b) : GoodIn big (a ++ b) := fun w h => (List.mem_append.mp h).elim (ha w) (hb w)
theorem goodIn_ca {big a b : List Cond} {c : Cond} (ha : GoodIn big (c :: a)) (hb : GoodIn big b) : GoodIn big (c :: (a ++ b)) := fun w h => (List.mem_cons.mp h).elim (fun e => ha w (List.mem_cons.mpr (Or.inl e))) (fun h => (List.mem_append.mp h).elim (fun h => ha w (List.mem_cons.mpr (Or.inr h))) (hb w))
theorem goodIn_sub {big ws : List Cond} (hm : ∀ w ∈ ws, w ∈ big) (h : ws.all goodWord = true) : GoodIn big ws := fun w hw => ⟨hm w hw, good_of_word (List.all_eq_true.mp h w hw)⟩
/-! ===== END ===== -/

def RX0 : String := "SpanMaps$Fold"
def TX0 : u_T := fun k => match k with
  | 0 => ("SpanMaps$Fold", "pieces", "I", false)
  | _ => ("SpanMaps$Fold", "led", "[I", true)
def tyX0 : Nat → FieldType := fun k => match k with
  | 0 => .int
  | _ => .array .int
abbrev wsX00 : List Cond := u_ws RX0 TX0 2
theorem nmX0 : ∀ a, a < 2 → ∀ b, b < 2 → a ≠ b → (TX0 a).2.1 ≠ (TX0 b).2.1 := by decide +kernel
theorem tyX0_ok : ∀ k, k < 2 → parseFieldDescriptor (TX0 k).2.2.1 = some (tyX0 k) := by decide +kernel
def RX1 : String := "SpanMaps$Powers"
def TX1 : u_T := fun k => match k with
  | 0 => ("SpanMaps$Powers", "rows", "[[J", true)
  | _ => ("SpanMaps$Powers", "spans", "I", false)
def tyX1 : Nat → FieldType := fun k => match k with
  | 0 => .array (.array .long)
  | _ => .int
abbrev wsX10 : List Cond := u_ws RX1 TX1 2
theorem nmX1 : ∀ a, a < 2 → ∀ b, b < 2 → a ≠ b → (TX1 a).2.1 ≠ (TX1 b).2.1 := by decide +kernel
theorem tyX1_ok : ∀ k, k < 2 → parseFieldDescriptor (TX1 k).2.2.1 = some (tyX1 k) := by decide +kernel
def RX2 : String := "SpanMaps$Returns"
def TX2 : u_T := fun k => match k with
  | 0 => ("SpanMaps$Returns", "powers", "LSpanMaps$Powers;", true)
  | 1 => ("SpanMaps$Returns", "cornerPeriod", "[I", true)
  | 2 => ("SpanMaps$Returns", "edgePeriod", "[I", true)
  | 3 => ("SpanMaps$Returns", "edgeStill", "[Z", true)
  | 4 => ("SpanMaps$Returns", "newWays", "[J", true)
  | 5 => ("SpanMaps$Returns", "spans", "I", false)
  | 6 => ("SpanMaps$Returns", "toPass", "J", false)
  | 7 => ("SpanMaps$Returns", "foundAbove", "J", false)
  | _ => ("SpanMaps$Returns", "foundBelow", "J", false)
def tyX2 : Nat → FieldType := fun k => match k with
  | 0 => .object "SpanMaps$Powers"
  | 1 => .array .int
  | 2 => .array .int
  | 3 => .array .boolean
  | 4 => .array .long
  | 5 => .int
  | 6 => .long
  | 7 => .long
  | _ => .long
abbrev wsX20 : List Cond := u_ws RX2 TX2 9
theorem nmX2 : ∀ a, a < 9 → ∀ b, b < 9 → a ≠ b → (TX2 a).2.1 ≠ (TX2 b).2.1 := by decide +kernel
theorem tyX2_ok : ∀ k, k < 9 → parseFieldDescriptor (TX2 k).2.2.1 = some (tyX2 k) := by decide +kernel
def RX3 : String := "SpanMaps"
def TX3 : u_T := fun k => match k with
  | 0 => ("SpanMaps", "folds", "[LSpanMaps$Fold;", true)
  | 1 => ("SpanMaps", "powers", "LSpanMaps$Powers;", true)
  | _ => ("SpanMaps", "returns", "LSpanMaps$Returns;", true)
def tyX3 : Nat → FieldType := fun k => match k with
  | 0 => .array (.object "SpanMaps$Fold")
  | 1 => .object "SpanMaps$Powers"
  | _ => .object "SpanMaps$Returns"
abbrev wsX30 : List Cond := u_ws RX3 TX3 3
theorem nmX3 : ∀ a, a < 3 → ∀ b, b < 3 → a ≠ b → (TX3 a).2.1 ≠ (TX3 b).2.1 := by decide +kernel
theorem tyX3_ok : ∀ k, k < 3 → parseFieldDescriptor (TX3 k).2.2.1 = some (tyX3 k) := by decide +kernel
def RX4 : String := "SpanMapsModel"
def TX4 : u_T := fun k => match k with
  | 0 => ("SpanMapsModel", "size", "[I", true)
  | 1 => ("SpanMapsModel", "led", "[I", true)
  | 2 => ("SpanMapsModel", "draft", "[I", true)
  | 3 => ("SpanMapsModel", "above", "J", false)
  | 4 => ("SpanMapsModel", "below", "J", false)
  | 5 => ("SpanMapsModel", "roundAbove", "[J", true)
  | 6 => ("SpanMapsModel", "roundBelow", "[J", true)
  | 7 => ("SpanMapsModel", "roundMany", "I", false)
  | 8 => ("SpanMapsModel", "endless", "Z", false)
  | 9 => ("SpanMapsModel", "endlessJust", "Z", false)
  | 10 => ("SpanMapsModel", "partS", "[J", true)
  | 11 => ("SpanMapsModel", "partT", "[J", true)
  | 12 => ("SpanMapsModel", "many", "[J", true)
  | 13 => ("SpanMapsModel", "next", "[J", true)
  | 14 => ("SpanMapsModel", "spans", "[I", true)
  | _ => ("SpanMapsModel", "tried", "[I", true)
def tyX4 : Nat → FieldType := fun k => match k with
  | 0 => .array .int
  | 1 => .array .int
  | 2 => .array .int
  | 3 => .long
  | 4 => .long
  | 5 => .array .long
  | 6 => .array .long
  | 7 => .int
  | 8 => .boolean
  | 9 => .boolean
  | 10 => .array .long
  | 11 => .array .long
  | 12 => .array .long
  | 13 => .array .long
  | 14 => .array .int
  | _ => .array .int
abbrev wsX40 : List Cond := u_ws RX4 TX4 16
theorem nmX4 : ∀ a, a < 16 → ∀ b, b < 16 → a ≠ b → (TX4 a).2.1 ≠ (TX4 b).2.1 := by decide +kernel
theorem tyX4_ok : ∀ k, k < 16 → parseFieldDescriptor (TX4 k).2.2.1 = some (tyX4 k) := by decide +kernel
def RJ9 : String := "java/lang/Math"
def RL : String := "SpanMapsLaw"
abbrev zCl : List vw_C := [(RX0, TX0, 2), (RX1, TX1, 2), (RX2, TX2, 9), (RX3, TX3, 3), (RX4, TX4, 16)]
end
section
/-! ===== a pure picture of the whole system: 61 cells by number, their addresses by a map; a method's walk as a relation over it ===== -/
abbrev zWd : Type := Nat → va_E
abbrev zE : Type := Launch × va_G × (Nat → Nat) × (Nat → Nat)
abbrev zM : Type := MethodName × ByteArray × Nat × Option FieldType
abbrev zTb : Type := List (Nat × Instr × Nat × Value)
def zU : Value := .retAddr 0
def zv (ad : Nat → Nat) : Value → Value
  | .ref a => .ref (ad a)
  | v => v
def zc (ad ca : Nat → Nat) : va_E → va_E
  | .inl (k, n, .inr (.inr (.inr (.inr f)))) => .inl (ca k, n, .inr (.inr (.inr (.inr (fun j => (f j).map ad)))))
  | .inl (k, n, .inl f) => .inl (ca k, n, .inl f)
  | .inl (k, n, .inr (.inl f)) => .inl (ca k, n, .inr (.inl f))
  | .inl (k, n, .inr (.inr (.inl f))) => .inl (ca k, n, .inr (.inr (.inl f)))
  | .inl (k, n, .inr (.inr (.inr (.inl f)))) => .inl (ca k, n, .inr (.inr (.inr (.inl f))))
  | .inr (ci, fs) => .inr (ci, fs.map (zv ad))
def zty (ca : Nat → Nat) : List (ClassId × FieldType) := [(ca 0, .int), (ca 1, .long), (ca 2, .boolean), (ca 3, .object "SpanMaps$Fold"), (ca 4, .array .long)]
def zW (ad ca : Nat → Nat) (w : zWd) : va_W := (List.range 61).map fun k => (ad k, zc ad ca (w k))
def zA (ad : Nat → Nat) : Nat → Prop := fun q => ∃ k, k < 61 ∧ q = ad k
def zI (ad : Nat → Nat) : Prop := ∀ i j, i < 61 → j < 61 → ad i = ad j → i = j
def zIs (w : zWd) (a : Nat) (c : va_E) : Prop := a < 61 ∧ w a = c
theorem zW_k {ad ca : Nat → Nat} {w : zWd} {k : Nat} (h1 : k < 61) : (zW ad ca w)[k]? = some (ad k, zc ad ca (w k)) := by
  simp [zW, h1]
theorem zW_at {ad ca : Nat → Nat} {w : zWd} {k : Nat} {c : va_E} (h : zIs w k c) : (zW ad ca w)[k]? = some (ad k, zc ad ca c) := by
  rw [zW_k h.1, h.2]
theorem zW_set {ad ca : Nat → Nat} {w : zWd} {k : Nat} (c : va_E) (h : k < 61) : (zW ad ca w).set k (ad k, zc ad ca c) = zW ad ca (va_up w k c) := by
  apply List.ext_getElem?
  intro j
  by_cases hj : j = k
  · subst hj
    rw [List.getElem?_set_self (by simpa [zW] using h), zW_k h]
    simp [va_up]
  · rw [List.getElem?_set_ne (fun q => hj q.symm)]
    by_cases h2 : j < 61
    · rw [zW_k h2, zW_k h2]
      simp [va_up, hj]
    · simp [zW, h2]
theorem zW_inv {ad ca : Nat → Nat} {w : zWd} {k : Nat} {q : Nat × va_E} (h : (zW ad ca w)[k]? = some q) : k < 61 ∧ q.1 = ad k := by
  have h1 : k < 61 := by
    have := (List.getElem?_eq_some_iff.mp h).1
    simpa [zW] using this
  rw [zW_k h1] at h
  cases h
  exact ⟨h1, rfl⟩
theorem zD {ad ca : Nat → Nat} {w : zWd} (h : zI ad) : va_D (zA ad) (zW ad ca w) := by
  refine ⟨fun i j p q hp hq e => ?_, fun k q hq => ?_⟩
  · have a1 := zW_inv hp
    have a2 := zW_inv hq
    exact h i j a1.1 a2.1 (by rw [← a1.2, ← a2.2]; exact e)
  · have a1 := zW_inv hq
    exact ⟨k, a1.1, a1.2⟩
-- the locals
def zpr (ad : Nat → Nat) (L : List Value) : List (Nat × Value) := (List.range L.length).filterMap (fun i => match L[i]? with
  | some v => if v = zU then none else some (i, zv ad v)
  | none => none)
theorem mem_zpr {ad : Nat → Nat} {L : List Value} {q : Nat × Value} : q ∈ zpr ad L ↔ ∃ v, L[q.1]? = some v ∧ v ≠ zU ∧ q.2 = zv ad v := by
  unfold zpr
  rw [List.mem_filterMap]
  constructor
  · rintro ⟨i, hi, h⟩
    cases hv : L[i]? with
    | none => rw [hv] at h; cases h
    | some v =>
      rw [hv] at h
      by_cases hz : v = zU
      · simp [hz] at h
      · simp [hz] at h
        subst h
        exact ⟨v, hv, hz, rfl⟩
  · rintro ⟨v, h1, h2, h3⟩
    refine ⟨q.1, List.mem_range.mpr (List.getElem?_eq_some_iff.mp h1).1, ?_⟩
    rw [h1]
    simp [h2, ← h3]
def zL (ad : Nat → Nat) (ls : Array Slot) (n : Nat) (L : List Value) : Prop := L.length = n ∧ lv_has ls n (zpr ad L)
theorem zL.at {ad : Nat → Nat} {ls : Array Slot} {n : Nat} {L : List Value} (h : zL ad ls n L) {i : Nat} {v : Value} (hv : L[i]? = some v) (hz : v ≠ zU) : ls[i]? = some (.val (zv ad v)) :=
  h.2.2.2 (i, zv ad v) (mem_zpr.mpr ⟨v, hv, hz, rfl⟩)
def zkl (L : List Value) : Nat → List Value
  | 0 => L
  | j + 1 => if (L.getD j zU).category = 2 then L.set j zU else L
def zst1 (L : List Value) (i : Nat) (v : Value) : List Value := (zkl L i).set i v
def zst2 (L : List Value) (i : Nat) (v : Value) : List Value := ((zkl L i).set i v).set (i + 1) zU
theorem zkl_len (L : List Value) (i : Nat) : (zkl L i).length = L.length := by
  cases i with
  | zero => rfl
  | succ j =>
    show (if (L.getD j zU).category = 2 then L.set j zU else L).length = L.length
    split <;> simp
theorem zkl_at {L : List Value} {i j : Nat} {x : Value} (h : (zkl L i)[j]? = some x) (hz : x ≠ zU) : L[j]? = some x ∧ ¬ (j + 1 = i ∧ x.category = 2) := by
  cases i with
  | zero => exact ⟨h, fun q => by omega⟩
  | succ k =>
    have h : (if (L.getD k zU).category = 2 then L.set k zU else L)[j]? = some x := h
    split at h
    next hc =>
      by_cases hj : k = j
      · subst hj
        by_cases hl : k < L.length
        · rw [List.getElem?_set_self hl] at h
          exact absurd (Option.some.inj h).symm hz
        · simp [hl] at h
      · rw [List.getElem?_set_ne hj] at h
        exact ⟨h, fun q => hj (by omega)⟩
    next hc =>
      refine ⟨h, fun q => ?_⟩
      have e : k = j := by omega
      subst e
      simp [List.getD, h, q.2] at hc
theorem zL.st1 {ad : Nat → Nat} {ls' : Array Slot} {n : Nat} {L : List Value} {i : Nat} {v : Value} (hn : L.length = n)
    (h : lv_has ls' n ((i, zv ad v) :: (zpr ad L).filter (fun q => !(q.1 == i) && !(q.1 + 1 == i && q.2.category == 2)))) : zL ad ls' n (zst1 L i v) := by
  refine ⟨by rw [zst1, List.length_set, zkl_len, hn], h.1, h.2.1, fun q hq => ?_⟩
  obtain ⟨x, h1, h2, h3⟩ := mem_zpr.mp hq
  refine h.2.2 q ?_
  unfold zst1 at h1
  by_cases hi : i = q.1
  · have hl : i < (zkl L i).length := by
      have := (List.getElem?_eq_some_iff.mp h1).1
      rw [List.length_set] at this
      omega
    rw [← hi, List.getElem?_set_self hl] at h1
    cases h1
    exact List.mem_cons.mpr (Or.inl (by rw [hi, ← h3]))
  · rw [List.getElem?_set_ne hi] at h1
    obtain ⟨g1, g2⟩ := zkl_at h1 h2
    refine List.mem_cons.mpr (Or.inr (List.mem_filter.mpr ⟨mem_zpr.mpr ⟨x, g1, h2, h3⟩, ?_⟩))
    have hc : q.2.category = x.category := by rw [h3]; cases x <;> rfl
    simp only [Bool.and_eq_true, Bool.not_eq_true', beq_eq_false_iff_ne, Bool.and_eq_false_iff]
    refine ⟨fun e => hi e.symm, ?_⟩
    by_cases hq1 : q.1 + 1 = i
    · right
      intro e
      exact g2 ⟨hq1, by rw [← hc]; exact e⟩
    · left
      exact hq1
theorem zL.st2 {ad : Nat → Nat} {ls' : Array Slot} {n : Nat} {L : List Value} {i : Nat} {v : Value} (hn : L.length = n)
    (h : lv_has ls' n ((i, zv ad v) :: (zpr ad L).filter (fun q => !(q.1 == i) && (!(q.1 == i + 1) && !(q.1 + 1 == i && q.2.category == 2))))) : zL ad ls' n (zst2 L i v) := by
  refine ⟨by rw [zst2, List.length_set, List.length_set, zkl_len, hn], h.1, h.2.1, fun q hq => ?_⟩
  obtain ⟨x, h1, h2, h3⟩ := mem_zpr.mp hq
  refine h.2.2 q ?_
  unfold zst2 at h1
  by_cases hi1 : i + 1 = q.1
  · have hl : i + 1 < ((zkl L i).set i v).length := by
      have := (List.getElem?_eq_some_iff.mp h1).1
      rw [List.length_set] at this
      omega
    rw [← hi1, List.getElem?_set_self hl] at h1
    exact absurd (Option.some.inj h1).symm h2
  · rw [List.getElem?_set_ne hi1] at h1
    by_cases hi : i = q.1
    · have hl : i < (zkl L i).length := by
        have := (List.getElem?_eq_some_iff.mp h1).1
        rw [List.length_set] at this
        omega
      rw [← hi, List.getElem?_set_self hl] at h1
      cases h1
      exact List.mem_cons.mpr (Or.inl (by rw [hi, ← h3]))
    · rw [List.getElem?_set_ne hi] at h1
      obtain ⟨g1, g2⟩ := zkl_at h1 h2
      refine List.mem_cons.mpr (Or.inr (List.mem_filter.mpr ⟨mem_zpr.mpr ⟨x, g1, h2, h3⟩, ?_⟩))
      have hc : q.2.category = x.category := by rw [h3]; cases x <;> rfl
      simp only [Bool.and_eq_true, Bool.not_eq_true', beq_eq_false_iff_ne, Bool.and_eq_false_iff]
      refine ⟨fun e => hi e.symm, fun e => hi1 e.symm, ?_⟩
      by_cases hq1 : q.1 + 1 = i
      · right
        intro e
        exact g2 ⟨hq1, by rw [← hc]; exact e⟩
      · left
        exact hq1
-- a method's contract, and its walk
def zNm : Cond := .methodLinkNest "SpanMaps$Returns" 61 ⟨"SpanMaps", "divides", "(II)Z"⟩ "SpanMaps"
def zK (E : zE) (U : State) : Prop := va_K E.2.1 zCl (zty E.2.2.2) U ∧ va_Nw zNm U
def zP (E : zE) (av : List Value) (w : zWd) : Array Value → State → Prop := va_Pc (av.map (zv E.2.2.1)) (fun U => va_P E.2.1 zCl (zW E.2.2.1 E.2.2.2 w) U.heap ∧ zK E U)
def zQ (E : zE) (Post : Option Value → zWd → Prop) : Array Value → State → Outcome → State → Prop := fun _ st oc t => (∃ (r : Option Value) (w' : zWd), oc = .returned (r.map (zv E.2.2.1)) ∧ Post r w' ∧ va_P E.2.1 zCl (zW E.2.2.1 E.2.2.2 w') t.heap) ∧ va_F (zA E.2.2.1) st t
def zRm (d : Nat) : Room := { frames := d, cells := 0, slots := 0, locals := 42 * d }
def zB : List Cond := lw_tbl.filter goodWord
theorem zb (i : Nat) {w : Cond} (h : lw_tbl[i]? = some w) (g : goodWord w = true) : w ∈ zB := List.mem_filter.mpr ⟨List.mem_of_getElem? h, g⟩
theorem zB_good : ∀ w ∈ zB, goodWord w = true := fun w h => (List.mem_filter.mp h).2
def zws (M : zM) : List Cond := .code M.1 M.2.1 M.2.2.1 M.2.2.2 :: zB
def zOk (E : zE) (M : zM) (d : Nat) (av : List Value) (w : zWd) (Post : Option Value → zWd → Prop) : Prop :=
  zI E.2.2.1 → Met E.1 M.1 (zws M) (zRm d) (zP E av w) (zQ E Post) 0 0 (zA E.2.2.1)
def zX (E : zE) (M : zM) (p : Program) (s : State) (m : MethodId) (args : Array Value) (meth : Method) (c : Code) : Prop :=
  p.tables.exec = Jvm.exec ∧ c.code = M.2.1 ∧ c.maxLocals = M.2.2.1 ∧ meth.sig.returnType = M.2.2.2 ∧ meth.locks = false ∧ s.vm.findClass M.1.cls = some m.cls ∧ (∀ w ∈ zws M, w.before args s = true) ∧ zK E s
def zV (E : zE) (M : zM) (d : Nat) (Post : Option Value → zWd → Prop) (pc : Nat) (L st : List Value) (w : zWd) : Prop :=
  zI E.2.2.1 → ∀ (p : Program) (e : Env) (s : State) (m : MethodId) (args : Array Value) (below : List Frame) (meth : Method) (c : Code) (H : Heap) (locs : List Loc) (ls : Array Slot),
    zX E M p s m args meth c → va_P E.2.1 zCl (zW E.2.2.1 E.2.2.2 w) H → va_S (zA E.2.2.1) s.heap H locs → zL E.2.2.1 ls M.2.2.1 L →
    W p E.1 e (zRm d) s m args below meth c H locs 0 0 (MQ below (zQ E Post) args s 0 0 (zA E.2.2.1)) (F0 m pc ls (st.map (zv E.2.2.1)))
def zEnt (av : List Value) (n : Nat) : List Value := let l := av.flatMap (fun v => if v.category = 2 then [v, zU] else [v]); l ++ List.replicate (n - l.length) zU
theorem zv_cat (ad : Nat → Nat) (v : Value) : (zv ad v).category = v.category := by cases v <;> rfl
theorem zEnt_args (ad : Nat → Nat) : ∀ (av pre : List Value) (k : Nat) (j : Nat) (v : Value), (pre ++ av.flatMap (fun v => if v.category = 2 then [v, zU] else [v]) ++ List.replicate k zU)[j]? = some v → v ≠ zU → pre.length ≤ j → (j, zv ad v) ∈ lv_args pre.length (av.map (zv ad))
  | [], pre, k, j, v, h, hz, hj => by
    exfalso
    simp only [List.flatMap_nil, List.append_nil] at h
    rw [List.getElem?_append_right hj] at h
    have := List.mem_of_getElem? h
    exact hz (List.eq_of_mem_replicate this)
  | a :: av, pre, k, j, v, h, hz, hj => by
    simp only [List.map_cons, lv_args, zv_cat]
    rw [List.flatMap_cons, ← List.append_assoc pre] at h
    by_cases hc : a.category = 2
    · simp only [hc, if_true] at h ⊢
      have h2 := zEnt_args ad av (pre ++ [a, zU]) k j v h hz
      by_cases hj2 : (pre ++ [a, zU]).length ≤ j
      · have h3 := h2 hj2
        simp only [List.length_append, List.length_cons, List.length_nil] at h3
        exact List.mem_cons_of_mem _ h3
      · simp only [List.length_append, List.length_cons, List.length_nil] at hj2
        by_cases e : j = pre.length
        · subst e
          simp at h
          subst h
          exact List.mem_cons_self
        · have e2 : j = pre.length + 1 := by omega
          subst e2
          exfalso
          simp [List.append_assoc] at h
          exact hz h.symm
    · simp only [hc, if_false] at h ⊢
      have h2 := zEnt_args ad av (pre ++ [a]) k j v h hz
      by_cases hj2 : (pre ++ [a]).length ≤ j
      · have h3 := h2 hj2
        simp only [List.length_append, List.length_cons, List.length_nil] at h3
        exact List.mem_cons_of_mem _ h3
      · simp only [List.length_append, List.length_cons, List.length_nil] at hj2
        have e : j = pre.length := by omega
        subst e
        simp at h
        subst h
        exact List.mem_cons_self
theorem lg_sl_len (ad : Nat → Nat) : ∀ av : List Value, (lg_sl (av.map (zv ad))).length = (av.flatMap (fun v => if v.category = 2 then [v, zU] else [v])).length
  | [] => rfl
  | a :: av => by
    have h := lg_sl_len ad av
    simp only [lg_sl, List.map_cons, List.flatMap_cons, List.length_append, zv_cat] at h ⊢
    rw [h]
    by_cases hc : a.category = 2 <;> simp [hc]
theorem zOk.of {E : zE} {M : zM} {d : Nat} {av : List Value} {w : zWd} {Post : Option Value → zWd → Prop} (hy : plainName M.1.cls = true) (hn : (av.flatMap (fun v => if v.category = 2 then [v, zU] else [v])).length ≤ M.2.2.1)
    (h : zV E M d Post 0 (zEnt av M.2.2.1) [] w) : zOk E M d av w Post := by
  intro hI
  refine Met.ofW (cc := M.2.1) (maxL := M.2.2.1) (ret := M.2.2.2) hy rfl ?_
  intro p e s m args below meth c s₁ B hml hv
  obtain ⟨rfl, hP, hK⟩ := hv
  rw [lg_entry_eq]
  refine h hI p e s m _ below meth c s.heap [] _ ⟨B.exec, B.bytes, hml, B.returns, B.notSynchronized, findClass_of_methodNamed B.named, atoms_spec (ws := zws M) B.pre, hK⟩ hP va_S.rf ?_
  have hl := lv_entry (av.map (zv E.2.2.1)) (n := M.2.2.1) (by rw [lg_sl_len]; exact hn)
  refine ⟨?_, hl.1, hl.2.1, fun q hq => ?_⟩
  · simp only [zEnt, List.length_append, List.length_replicate]
    omega
  · obtain ⟨v, h1, h2, h3⟩ := mem_zpr.mp hq
    have := zEnt_args E.2.2.1 av [] _ q.1 v h1 h2 (Nat.zero_le _)
    refine hl.2.2 q ?_
    rw [show q = (q.1, zv E.2.2.1 v) by rw [← h3]]
    exact this
end
