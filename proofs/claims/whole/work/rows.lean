section
-- ===== PART A: goes FIRST, ahead of the names: the tables' words, and 'selects' of the private methods out of them =====
/-- a private method of a class that the tables say can be made, by its rows of tables_1 -/
def lw_okq (q : MethodName × Nat) : Prop := (q.1.cls ≠ "java/lang/invoke/MethodHandle" ∧ q.1.cls ≠ "java/lang/invoke/VarHandle") ∧ Cond.instantiable q.1.cls q.2 ∈ tables_1 ∧ Cond.privateMethod q.1 ∈ tables_1 ∧ Cond.instanceMethod q.1 ∈ tables_1
theorem lw_p0 : lw_okq (⟨"SpanMaps$Powers", "multiply", "(LSpanMaps$Fold;I)V"⟩, 2) := ⟨⟨by decide +kernel, by decide +kernel⟩, List.mem_of_getElem? (i := 36) (by decide +kernel), List.mem_of_getElem? (i := 237) (by decide +kernel), List.mem_of_getElem? (i := 238) (by decide +kernel)⟩
theorem lw_p1 : lw_okq (⟨"SpanMaps$Returns", "studyEdge", "(LSpanMaps$Fold;I)V"⟩, 9) := ⟨⟨by decide +kernel, by decide +kernel⟩, List.mem_of_getElem? (i := 52) (by decide +kernel), List.mem_of_getElem? (i := 303) (by decide +kernel), List.mem_of_getElem? (i := 304) (by decide +kernel)⟩
theorem lw_p2 : lw_okq (⟨"SpanMaps$Returns", "settle", "(JJ)Z"⟩, 9) := ⟨⟨by decide +kernel, by decide +kernel⟩, List.mem_of_getElem? (i := 52) (by decide +kernel), List.mem_of_getElem? (i := 342) (by decide +kernel), List.mem_of_getElem? (i := 343) (by decide +kernel)⟩
theorem lw_p3 : lw_okq (⟨"SpanMaps$Returns", "isInside", "(II)Z"⟩, 9) := ⟨⟨by decide +kernel, by decide +kernel⟩, List.mem_of_getElem? (i := 52) (by decide +kernel), List.mem_of_getElem? (i := 349) (by decide +kernel), List.mem_of_getElem? (i := 350) (by decide +kernel)⟩
theorem lw_p4 : lw_okq (⟨"SpanMaps$Returns", "walk", "(LSpanMaps$Fold;II)Z"⟩, 9) := ⟨⟨by decide +kernel, by decide +kernel⟩, List.mem_of_getElem? (i := 52) (by decide +kernel), List.mem_of_getElem? (i := 354) (by decide +kernel), List.mem_of_getElem? (i := 355) (by decide +kernel)⟩
theorem lw_p5 : lw_okq (⟨"SpanMaps$Returns", "nextSpan", "(LSpanMaps$Fold;IIIZ)I"⟩, 9) := ⟨⟨by decide +kernel, by decide +kernel⟩, List.mem_of_getElem? (i := 52) (by decide +kernel), List.mem_of_getElem? (i := 358) (by decide +kernel), List.mem_of_getElem? (i := 359) (by decide +kernel)⟩
theorem lw_p6 : lw_okq (⟨"SpanMapsModel", "slopeOf", "(II)I"⟩, 16) := ⟨⟨by decide +kernel, by decide +kernel⟩, List.mem_of_getElem? (i := 426) (by decide +kernel), List.mem_of_getElem? (i := 514) (by decide +kernel), List.mem_of_getElem? (i := 515) (by decide +kernel)⟩
theorem lw_p7 : lw_okq (⟨"SpanMapsModel", "isPoint", "(IJJ)Z"⟩, 16) := ⟨⟨by decide +kernel, by decide +kernel⟩, List.mem_of_getElem? (i := 426) (by decide +kernel), List.mem_of_getElem? (i := 522) (by decide +kernel), List.mem_of_getElem? (i := 523) (by decide +kernel)⟩
theorem lw_p8 : lw_okq (⟨"SpanMapsModel", "at", "(JJ)V"⟩, 16) := ⟨⟨by decide +kernel, by decide +kernel⟩, List.mem_of_getElem? (i := 426) (by decide +kernel), List.mem_of_getElem? (i := 529) (by decide +kernel), List.mem_of_getElem? (i := 530) (by decide +kernel)⟩
theorem lw_p9 : lw_okq (⟨"SpanMapsModel", "step", "(I)V"⟩, 16) := ⟨⟨by decide +kernel, by decide +kernel⟩, List.mem_of_getElem? (i := 426) (by decide +kernel), List.mem_of_getElem? (i := 536) (by decide +kernel), List.mem_of_getElem? (i := 537) (by decide +kernel)⟩
theorem lw_p10 : lw_okq (⟨"SpanMapsModel", "span", "(I)I"⟩, 16) := ⟨⟨by decide +kernel, by decide +kernel⟩, List.mem_of_getElem? (i := 426) (by decide +kernel), List.mem_of_getElem? (i := 540) (by decide +kernel), List.mem_of_getElem? (i := 541) (by decide +kernel)⟩
theorem lw_p11 : lw_okq (⟨"SpanMapsModel", "told", "(I)J"⟩, 16) := ⟨⟨by decide +kernel, by decide +kernel⟩, List.mem_of_getElem? (i := 426) (by decide +kernel), List.mem_of_getElem? (i := 544) (by decide +kernel), List.mem_of_getElem? (i := 545) (by decide +kernel)⟩
theorem lw_p12 : lw_okq (⟨"SpanMapsModel", "isSpan", "(II)Z"⟩, 16) := ⟨⟨by decide +kernel, by decide +kernel⟩, List.mem_of_getElem? (i := 426) (by decide +kernel), List.mem_of_getElem? (i := 565) (by decide +kernel), List.mem_of_getElem? (i := 566) (by decide +kernel)⟩
theorem lw_p13 : lw_okq (⟨"SpanMapsModel", "covers", "(III)I"⟩, 16) := ⟨⟨by decide +kernel, by decide +kernel⟩, List.mem_of_getElem? (i := 426) (by decide +kernel), List.mem_of_getElem? (i := 569) (by decide +kernel), List.mem_of_getElem? (i := 570) (by decide +kernel)⟩
theorem lw_p14 : lw_okq (⟨"SpanMapsModel", "findWays", "(III)V"⟩, 16) := ⟨⟨by decide +kernel, by decide +kernel⟩, List.mem_of_getElem? (i := 426) (by decide +kernel), List.mem_of_getElem? (i := 578) (by decide +kernel), List.mem_of_getElem? (i := 579) (by decide +kernel)⟩
theorem lw_p15 : lw_okq (⟨"SpanMapsModel", "reach", "(II)I"⟩, 16) := ⟨⟨by decide +kernel, by decide +kernel⟩, List.mem_of_getElem? (i := 426) (by decide +kernel), List.mem_of_getElem? (i := 590) (by decide +kernel), List.mem_of_getElem? (i := 591) (by decide +kernel)⟩
def lw_privs_1 : List (MethodName × Nat) := [(⟨"SpanMaps$Powers", "multiply", "(LSpanMaps$Fold;I)V"⟩, 2), (⟨"SpanMaps$Returns", "studyEdge", "(LSpanMaps$Fold;I)V"⟩, 9), (⟨"SpanMaps$Returns", "settle", "(JJ)Z"⟩, 9), (⟨"SpanMaps$Returns", "isInside", "(II)Z"⟩, 9), (⟨"SpanMaps$Returns", "walk", "(LSpanMaps$Fold;II)Z"⟩, 9), (⟨"SpanMaps$Returns", "nextSpan", "(LSpanMaps$Fold;IIIZ)I"⟩, 9), (⟨"SpanMapsModel", "slopeOf", "(II)I"⟩, 16), (⟨"SpanMapsModel", "isPoint", "(IJJ)Z"⟩, 16), (⟨"SpanMapsModel", "at", "(JJ)V"⟩, 16), (⟨"SpanMapsModel", "step", "(I)V"⟩, 16), (⟨"SpanMapsModel", "span", "(I)I"⟩, 16), (⟨"SpanMapsModel", "told", "(I)J"⟩, 16), (⟨"SpanMapsModel", "isSpan", "(II)Z"⟩, 16), (⟨"SpanMapsModel", "covers", "(III)I"⟩, 16), (⟨"SpanMapsModel", "findWays", "(III)V"⟩, 16), (⟨"SpanMapsModel", "reach", "(II)I"⟩, 16)]
theorem lw_r1 : ∀ q ∈ lw_privs_1, lw_okq q := List.forall_mem_cons.mpr ⟨lw_p0, List.forall_mem_cons.mpr ⟨lw_p1, List.forall_mem_cons.mpr ⟨lw_p2, List.forall_mem_cons.mpr ⟨lw_p3, List.forall_mem_cons.mpr ⟨lw_p4, List.forall_mem_cons.mpr ⟨lw_p5, List.forall_mem_cons.mpr ⟨lw_p6, List.forall_mem_cons.mpr ⟨lw_p7, List.forall_mem_cons.mpr ⟨lw_p8, List.forall_mem_cons.mpr ⟨lw_p9, List.forall_mem_cons.mpr ⟨lw_p10, List.forall_mem_cons.mpr ⟨lw_p11, List.forall_mem_cons.mpr ⟨lw_p12, List.forall_mem_cons.mpr ⟨lw_p13, List.forall_mem_cons.mpr ⟨lw_p14, List.forall_mem_cons.mpr ⟨lw_p15, fun _ h => absurd h List.not_mem_nil⟩⟩⟩⟩⟩⟩⟩⟩⟩⟩⟩⟩⟩⟩⟩⟩
theorem lw_p16 : lw_okq (⟨"SpanMapsModel", "spread", "(II)I"⟩, 16) := ⟨⟨by decide +kernel, by decide +kernel⟩, List.mem_of_getElem? (i := 426) (by decide +kernel), List.mem_of_getElem? (i := 594) (by decide +kernel), List.mem_of_getElem? (i := 595) (by decide +kernel)⟩
theorem lw_p17 : lw_okq (⟨"SpanMapsModel", "findRounds", "(II)V"⟩, 16) := ⟨⟨by decide +kernel, by decide +kernel⟩, List.mem_of_getElem? (i := 426) (by decide +kernel), List.mem_of_getElem? (i := 607) (by decide +kernel), List.mem_of_getElem? (i := 608) (by decide +kernel)⟩
theorem lw_p18 : lw_okq (⟨"SpanMapsModel", "enters", "(IIJJ)V"⟩, 16) := ⟨⟨by decide +kernel, by decide +kernel⟩, List.mem_of_getElem? (i := 426) (by decide +kernel), List.mem_of_getElem? (i := 611) (by decide +kernel), List.mem_of_getElem? (i := 612) (by decide +kernel)⟩
theorem lw_p19 : lw_okq (⟨"SpanMapsModel", "goOn", "(III)I"⟩, 16) := ⟨⟨by decide +kernel, by decide +kernel⟩, List.mem_of_getElem? (i := 426) (by decide +kernel), List.mem_of_getElem? (i := 615) (by decide +kernel), List.mem_of_getElem? (i := 616) (by decide +kernel)⟩
theorem lw_p20 : lw_okq (⟨"SpanMapsModel", "comesBack", "(IJJ)V"⟩, 16) := ⟨⟨by decide +kernel, by decide +kernel⟩, List.mem_of_getElem? (i := 426) (by decide +kernel), List.mem_of_getElem? (i := 619) (by decide +kernel), List.mem_of_getElem? (i := 620) (by decide +kernel)⟩
theorem lw_p21 : lw_okq (⟨"SpanMapsModel", "isOn", "(IJJ)Z"⟩, 16) := ⟨⟨by decide +kernel, by decide +kernel⟩, List.mem_of_getElem? (i := 426) (by decide +kernel), List.mem_of_getElem? (i := 623) (by decide +kernel), List.mem_of_getElem? (i := 624) (by decide +kernel)⟩
theorem lw_p22 : lw_okq (⟨"SpanMapsModel", "just", "(II)I"⟩, 16) := ⟨⟨by decide +kernel, by decide +kernel⟩, List.mem_of_getElem? (i := 426) (by decide +kernel), List.mem_of_getElem? (i := 636) (by decide +kernel), List.mem_of_getElem? (i := 637) (by decide +kernel)⟩
theorem lw_p23 : lw_okq (⟨"SpanMapsModel", "hasPeriod", "(II)Z"⟩, 16) := ⟨⟨by decide +kernel, by decide +kernel⟩, List.mem_of_getElem? (i := 426) (by decide +kernel), List.mem_of_getElem? (i := 644) (by decide +kernel), List.mem_of_getElem? (i := 645) (by decide +kernel)⟩
theorem lw_p24 : lw_okq (⟨"SpanMapsModel", "topOf", "(I)I"⟩, 16) := ⟨⟨by decide +kernel, by decide +kernel⟩, List.mem_of_getElem? (i := 426) (by decide +kernel), List.mem_of_getElem? (i := 664) (by decide +kernel), List.mem_of_getElem? (i := 665) (by decide +kernel)⟩
def lw_privs_2 : List (MethodName × Nat) := [(⟨"SpanMapsModel", "spread", "(II)I"⟩, 16), (⟨"SpanMapsModel", "findRounds", "(II)V"⟩, 16), (⟨"SpanMapsModel", "enters", "(IIJJ)V"⟩, 16), (⟨"SpanMapsModel", "goOn", "(III)I"⟩, 16), (⟨"SpanMapsModel", "comesBack", "(IJJ)V"⟩, 16), (⟨"SpanMapsModel", "isOn", "(IJJ)Z"⟩, 16), (⟨"SpanMapsModel", "just", "(II)I"⟩, 16), (⟨"SpanMapsModel", "hasPeriod", "(II)Z"⟩, 16), (⟨"SpanMapsModel", "topOf", "(I)I"⟩, 16)]
theorem lw_r2 : ∀ q ∈ lw_privs_2, lw_okq q := List.forall_mem_cons.mpr ⟨lw_p16, List.forall_mem_cons.mpr ⟨lw_p17, List.forall_mem_cons.mpr ⟨lw_p18, List.forall_mem_cons.mpr ⟨lw_p19, List.forall_mem_cons.mpr ⟨lw_p20, List.forall_mem_cons.mpr ⟨lw_p21, List.forall_mem_cons.mpr ⟨lw_p22, List.forall_mem_cons.mpr ⟨lw_p23, List.forall_mem_cons.mpr ⟨lw_p24, fun _ h => absurd h List.not_mem_nil⟩⟩⟩⟩⟩⟩⟩⟩⟩
def lw_privs : List (MethodName × Nat) := lw_privs_1 ++ (lw_privs_2)
def lw_tbl : List Cond := k2_sels lw_privs ++ tables_1
theorem lw_privs_ok : ∀ q ∈ lw_privs, lw_okq q := by
  show ∀ q ∈ lw_privs_1 ++ (lw_privs_2), lw_okq q
  exact List.forall_mem_append.mpr ⟨lw_r1, lw_r2⟩
end
section
/-! ===== BEGIN words of one list among another's, by their places ===== -/
theorem goodIn_r {big : List Cond} (ws : List Cond) (ps : List Nat) (hp : ws = ps.filterMap (fun i => big[i]?)) (h : ws.all goodWord = true) : GoodIn big ws := by
  intro w hw
  have h1 := List.all_eq_true.mp h w hw
  rw [hp] at hw
  obtain ⟨i, -, hi⟩ := List.mem_filterMap.mp hw
  have hm : w ∈ big := by first | exact List.mem_of_getElem? hi | exact List.getElem?_mem hi
  exact ⟨hm, good_of_word h1⟩
theorem goodIn_app {big a b : List Cond} (ha : GoodIn big a) (hb : GoodIn big b) : GoodIn big (a ++ b) := fun w h => (List.mem_append.mp h).elim (ha w) (hb w)
theorem goodIn_ca {big a b : List Cond} {c : Cond} (ha : GoodIn big (c :: a)) (hb : GoodIn big b) : GoodIn big (c :: (a ++ b)) := fun w h => (List.mem_cons.mp h).elim (fun e => ha w (List.mem_cons.mpr (Or.inl e))) (fun h => (List.mem_append.mp h).elim (fun h => ha w (List.mem_cons.mpr (Or.inr h))) (hb w))
theorem goodIn_sub {big ws : List Cond} (hm : ∀ w ∈ ws, w ∈ big) (h : ws.all goodWord = true) : GoodIn big ws := fun w hw => ⟨hm w hw, good_of_word (List.all_eq_true.mp h w hw)⟩
/-! ===== END ===== -/

def RX0 : String := "SpanMaps$Fold"
def TX0 : u_T := fun k => match k with
  | 0 => ("SpanMaps$Fold", "pieces", "I", false)
  | _ => ("SpanMaps$Fold", "led", "[I", true)
def tyX0 : Nat → FieldType := fun k => match k with
  | 0 => .int
  | _ => .array .int
abbrev wsX00 : List Cond := u_ws RX0 TX0 2
theorem nmX0 : ∀ a, a < 2 → ∀ b, b < 2 → a ≠ b → (TX0 a).2.1 ≠ (TX0 b).2.1 := by decide +kernel
theorem tyX0_ok : ∀ k, k < 2 → parseFieldDescriptor (TX0 k).2.2.1 = some (tyX0 k) := by decide +kernel
def RX1 : String := "SpanMaps$Powers"
def TX1 : u_T := fun k => match k with
  | 0 => ("SpanMaps$Powers", "rows", "[[J", true)
  | _ => ("SpanMaps$Powers", "spans", "I", false)
def tyX1 : Nat → FieldType := fun k => match k with
  | 0 => .array (.array .long)
  | _ => .int
abbrev wsX10 : List Cond := u_ws RX1 TX1 2
theorem nmX1 : ∀ a, a < 2 → ∀ b, b < 2 → a ≠ b → (TX1 a).2.1 ≠ (TX1 b).2.1 := by decide +kernel
theorem tyX1_ok : ∀ k, k < 2 → parseFieldDescriptor (TX1 k).2.2.1 = some (tyX1 k) := by decide +kernel
def RX2 : String := "SpanMaps$Returns"
def TX2 : u_T := fun k => match k with
  | 0 => ("SpanMaps$Returns", "powers", "LSpanMaps$Powers;", true)
  | 1 => ("SpanMaps$Returns", "cornerPeriod", "[I", true)
  | 2 => ("SpanMaps$Returns", "edgePeriod", "[I", true)
  | 3 => ("SpanMaps$Returns", "edgeStill", "[Z", true)
  | 4 => ("SpanMaps$Returns", "newWays", "[J", true)
  | 5 => ("SpanMaps$Returns", "spans", "I", false)
  | 6 => ("SpanMaps$Returns", "toPass", "J", false)
  | 7 => ("SpanMaps$Returns", "foundAbove", "J", false)
  | _ => ("SpanMaps$Returns", "foundBelow", "J", false)
def tyX2 : Nat → FieldType := fun k => match k with
  | 0 => .object "SpanMaps$Powers"
  | 1 => .array .int
  | 2 => .array .int
  | 3 => .array .boolean
  | 4 => .array .long
  | 5 => .int
  | 6 => .long
  | 7 => .long
  | _ => .long
abbrev wsX20 : List Cond := u_ws RX2 TX2 9
theorem nmX2 : ∀ a, a < 9 → ∀ b, b < 9 → a ≠ b → (TX2 a).2.1 ≠ (TX2 b).2.1 := by decide +kernel
theorem tyX2_ok : ∀ k, k < 9 → parseFieldDescriptor (TX2 k).2.2.1 = some (tyX2 k) := by decide +kernel
def RX3 : String := "SpanMaps"
def TX3 : u_T := fun k => match k with
  | 0 => ("SpanMaps", "folds", "[LSpanMaps$Fold;", true)
  | 1 => ("SpanMaps", "powers", "LSpanMaps$Powers;", true)
  | _ => ("SpanMaps", "returns", "LSpanMaps$Returns;", true)
def tyX3 : Nat → FieldType := fun k => match k with
  | 0 => .array (.object "SpanMaps$Fold")
  | 1 => .object "SpanMaps$Powers"
  | _ => .object "SpanMaps$Returns"
abbrev wsX30 : List Cond := u_ws RX3 TX3 3
theorem nmX3 : ∀ a, a < 3 → ∀ b, b < 3 → a ≠ b → (TX3 a).2.1 ≠ (TX3 b).2.1 := by decide +kernel
theorem tyX3_ok : ∀ k, k < 3 → parseFieldDescriptor (TX3 k).2.2.1 = some (tyX3 k) := by decide +kernel
def RX4 : String := "SpanMapsModel"
def TX4 : u_T := fun k => match k with
  | 0 => ("SpanMapsModel", "size", "[I", true)
  | 1 => ("SpanMapsModel", "led", "[I", true)
  | 2 => ("SpanMapsModel", "draft", "[I", true)
  | 3 => ("SpanMapsModel", "above", "J", false)
  | 4 => ("SpanMapsModel", "below", "J", false)
  | 5 => ("SpanMapsModel", "roundAbove", "[J", true)
  | 6 => ("SpanMapsModel", "roundBelow", "[J", true)
  | 7 => ("SpanMapsModel", "roundMany", "I", false)
  | 8 => ("SpanMapsModel", "endless", "Z", false)
  | 9 => ("SpanMapsModel", "endlessJust", "Z", false)
  | 10 => ("SpanMapsModel", "partS", "[J", true)
  | 11 => ("SpanMapsModel", "partT", "[J", true)
  | 12 => ("SpanMapsModel", "many", "[J", true)
  | 13 => ("SpanMapsModel", "next", "[J", true)
  | 14 => ("SpanMapsModel", "spans", "[I", true)
  | _ => ("SpanMapsModel", "tried", "[I", true)
def tyX4 : Nat → FieldType := fun k => match k with
  | 0 => .array .int
  | 1 => .array .int
  | 2 => .array .int
  | 3 => .long
  | 4 => .long
  | 5 => .array .long
  | 6 => .array .long
  | 7 => .int
  | 8 => .boolean
  | 9 => .boolean
  | 10 => .array .long
  | 11 => .array .long
  | 12 => .array .long
  | 13 => .array .long
  | 14 => .array .int
  | _ => .array .int
abbrev wsX40 : List Cond := u_ws RX4 TX4 16
theorem nmX4 : ∀ a, a < 16 → ∀ b, b < 16 → a ≠ b → (TX4 a).2.1 ≠ (TX4 b).2.1 := by decide +kernel
theorem tyX4_ok : ∀ k, k < 16 → parseFieldDescriptor (TX4 k).2.2.1 = some (tyX4 k) := by decide +kernel
def RJ9 : String := "java/lang/Math"
def RL : String := "SpanMapsLaw"
abbrev zCl : List vw_C := [(RX0, TX0, 2), (RX1, TX1, 2), (RX2, TX2, 9), (RX3, TX3, 3), (RX4, TX4, 16)]
end
section
/-! ===== a pure picture of the whole system: 61 cells by number, their addresses by a map; a method's walk as a relation over it ===== -/
abbrev zWd : Type := Nat → va_E
abbrev zE : Type := Launch × va_G × (Nat → Nat) × (Nat → Nat)
abbrev zM : Type := MethodName × ByteArray × Nat × Option FieldType
abbrev zTb : Type := List (Nat × Instr × Nat × Value)
def zU : Value := .retAddr 0
def zv (ad : Nat → Nat) : Value → Value
  | .ref a => .ref (ad a)
  | v => v
def zc (ad ca : Nat → Nat) : va_E → va_E
  | .inl (k, n, .inr (.inr (.inr (.inr f)))) => .inl (ca k, n, .inr (.inr (.inr (.inr (fun j => (f j).map ad)))))
  | .inl (k, n, .inl f) => .inl (ca k, n, .inl f)
  | .inl (k, n, .inr (.inl f)) => .inl (ca k, n, .inr (.inl f))
  | .inl (k, n, .inr (.inr (.inl f))) => .inl (ca k, n, .inr (.inr (.inl f)))
  | .inl (k, n, .inr (.inr (.inr (.inl f)))) => .inl (ca k, n, .inr (.inr (.inr (.inl f))))
  | .inr (ci, fs) => .inr (ci, fs.map (zv ad))
def zty (ca : Nat → Nat) : List (ClassId × FieldType) := [(ca 0, .int), (ca 1, .long), (ca 2, .boolean), (ca 3, .object "SpanMaps$Fold"), (ca 4, .array .long)]
def zW (ad ca : Nat → Nat) (w : zWd) : va_W := (List.range 61).map fun k => (ad k, zc ad ca (w k))
def zA (ad : Nat → Nat) : Nat → Prop := fun q => ∃ k, k < 61 ∧ q = ad k
def zI (ad : Nat → Nat) : Prop := ∀ i j, i < 61 → j < 61 → ad i = ad j → i = j
def zIs (w : zWd) (a : Nat) (c : va_E) : Prop := a < 61 ∧ w a = c
theorem zW_k {ad ca : Nat → Nat} {w : zWd} {k : Nat} (h1 : k < 61) : (zW ad ca w)[k]? = some (ad k, zc ad ca (w k)) := by
  simp [zW, h1]
theorem zW_at {ad ca : Nat → Nat} {w : zWd} {k : Nat} {c : va_E} (h : zIs w k c) : (zW ad ca w)[k]? = some (ad k, zc ad ca c) := by
  rw [zW_k h.1, h.2]
theorem zW_set {ad ca : Nat → Nat} {w : zWd} {k : Nat} (c : va_E) (h : k < 61) : (zW ad ca w).set k (ad k, zc ad ca c) = zW ad ca (va_up w k c) := by
  apply List.ext_getElem?
  intro j
  by_cases hj : j = k
  · subst hj
    rw [List.getElem?_set_self (by simpa [zW] using h), zW_k h]
    simp [va_up]
  · rw [List.getElem?_set_ne (fun q => hj q.symm)]
    by_cases h2 : j < 61
    · rw [zW_k h2, zW_k h2]
      simp [va_up, hj]
    · simp [zW, h2]
theorem zW_inv {ad ca : Nat → Nat} {w : zWd} {k : Nat} {q : Nat × va_E} (h : (zW ad ca w)[k]? = some q) : k < 61 ∧ q.1 = ad k := by
  have h1 : k < 61 := by
    have := (List.getElem?_eq_some_iff.mp h).1
    simpa [zW] using this
  rw [zW_k h1] at h
  cases h
  exact ⟨h1, rfl⟩
theorem zD {ad ca : Nat → Nat} {w : zWd} (h : zI ad) : va_D (zA ad) (zW ad ca w) := by
  refine ⟨fun i j p q hp hq e => ?_, fun k q hq => ?_⟩
  · have a1 := zW_inv hp
    have a2 := zW_inv hq
    exact h i j a1.1 a2.1 (by rw [← a1.2, ← a2.2]; exact e)
  · have a1 := zW_inv hq
    exact ⟨k, a1.1, a1.2⟩
-- the locals
def zpr (ad : Nat → Nat) (L : List Value) : List (Nat × Value) := (List.range L.length).filterMap (fun i => match L[i]? with
  | some v => if v = zU then none else some (i, zv ad v)
  | none => none)
theorem mem_zpr {ad : Nat → Nat} {L : List Value} {q : Nat × Value} : q ∈ zpr ad L ↔ ∃ v, L[q.1]? = some v ∧ v ≠ zU ∧ q.2 = zv ad v := by
  unfold zpr
  rw [List.mem_filterMap]
  constructor
  · rintro ⟨i, hi, h⟩
    cases hv : L[i]? with
    | none => rw [hv] at h; cases h
    | some v =>
      rw [hv] at h
      by_cases hz : v = zU
      · simp [hz] at h
      · simp [hz] at h
        subst h
        exact ⟨v, hv, hz, rfl⟩
  · rintro ⟨v, h1, h2, h3⟩
    refine ⟨q.1, List.mem_range.mpr (List.getElem?_eq_some_iff.mp h1).1, ?_⟩
    rw [h1]
    simp [h2, ← h3]
def zL (ad : Nat → Nat) (ls : Array Slot) (n : Nat) (L : List Value) : Prop := L.length = n ∧ lv_has ls n (zpr ad L)
theorem zL.at {ad : Nat → Nat} {ls : Array Slot} {n : Nat} {L : List Value} (h : zL ad ls n L) {i : Nat} {v : Value} (hv : L[i]? = some v) (hz : v ≠ zU) : ls[i]? = some (.val (zv ad v)) :=
  h.2.2.2 (i, zv ad v) (mem_zpr.mpr ⟨v, hv, hz, rfl⟩)
def zkl (L : List Value) : Nat → List Value
  | 0 => L
  | j + 1 => if (L.getD j zU).category = 2 then L.set j zU else L
def zst1 (L : List Value) (i : Nat) (v : Value) : List Value := (zkl L i).set i v
def zst2 (L : List Value) (i : Nat) (v : Value) : List Value := ((zkl L i).set i v).set (i + 1) zU
theorem zkl_len (L : List Value) (i : Nat) : (zkl L i).length = L.length := by
  cases i with
  | zero => rfl
  | succ j =>
    show (if (L.getD j zU).category = 2 then L.set j zU else L).length = L.length
    split <;> simp
theorem zkl_at {L : List Value} {i j : Nat} {x : Value} (h : (zkl L i)[j]? = some x) (hz : x ≠ zU) : L[j]? = some x ∧ ¬ (j + 1 = i ∧ x.category = 2) := by
  cases i with
  | zero => exact ⟨h, fun q => by omega⟩
  | succ k =>
    have h : (if (L.getD k zU).category = 2 then L.set k zU else L)[j]? = some x := h
    split at h
    next hc =>
      by_cases hj : k = j
      · subst hj
        by_cases hl : k < L.length
        · rw [List.getElem?_set_self hl] at h
          exact absurd (Option.some.inj h).symm hz
        · simp [hl] at h
      · rw [List.getElem?_set_ne hj] at h
        exact ⟨h, fun q => hj (by omega)⟩
    next hc =>
      refine ⟨h, fun q => ?_⟩
      have e : k = j := by omega
      subst e
      simp [List.getD, h, q.2] at hc
theorem zL.st1 {ad : Nat → Nat} {ls' : Array Slot} {n : Nat} {L : List Value} {i : Nat} {v : Value} (hn : L.length = n)
    (h : lv_has ls' n ((i, zv ad v) :: (zpr ad L).filter (fun q => !(q.1 == i) && !(q.1 + 1 == i && q.2.category == 2)))) : zL ad ls' n (zst1 L i v) := by
  refine ⟨by rw [zst1, List.length_set, zkl_len, hn], h.1, h.2.1, fun q hq => ?_⟩
  obtain ⟨x, h1, h2, h3⟩ := mem_zpr.mp hq
  refine h.2.2 q ?_
  unfold zst1 at h1
  by_cases hi : i = q.1
  · have hl : i < (zkl L i).length := by
      have := (List.getElem?_eq_some_iff.mp h1).1
      rw [List.length_set] at this
      omega
    rw [← hi, List.getElem?_set_self hl] at h1
    cases h1
    exact List.mem_cons.mpr (Or.inl (by rw [hi, ← h3]))
  · rw [List.getElem?_set_ne hi] at h1
    obtain ⟨g1, g2⟩ := zkl_at h1 h2
    refine List.mem_cons.mpr (Or.inr (List.mem_filter.mpr ⟨mem_zpr.mpr ⟨x, g1, h2, h3⟩, ?_⟩))
    have hc : q.2.category = x.category := by rw [h3]; cases x <;> rfl
    simp only [Bool.and_eq_true, Bool.not_eq_true', beq_eq_false_iff_ne, Bool.and_eq_false_iff]
    refine ⟨fun e => hi e.symm, ?_⟩
    by_cases hq1 : q.1 + 1 = i
    · right
      intro e
      exact g2 ⟨hq1, by rw [← hc]; exact e⟩
    · left
      exact hq1
theorem zL.st2 {ad : Nat → Nat} {ls' : Array Slot} {n : Nat} {L : List Value} {i : Nat} {v : Value} (hn : L.length = n)
    (h : lv_has ls' n ((i, zv ad v) :: (zpr ad L).filter (fun q => !(q.1 == i) && (!(q.1 == i + 1) && !(q.1 + 1 == i && q.2.category == 2))))) : zL ad ls' n (zst2 L i v) := by
  refine ⟨by rw [zst2, List.length_set, List.length_set, zkl_len, hn], h.1, h.2.1, fun q hq => ?_⟩
  obtain ⟨x, h1, h2, h3⟩ := mem_zpr.mp hq
  refine h.2.2 q ?_
  unfold zst2 at h1
  by_cases hi1 : i + 1 = q.1
  · have hl : i + 1 < ((zkl L i).set i v).length := by
      have := (List.getElem?_eq_some_iff.mp h1).1
      rw [List.length_set] at this
      omega
    rw [← hi1, List.getElem?_set_self hl] at h1
    exact absurd (Option.some.inj h1).symm h2
  · rw [List.getElem?_set_ne hi1] at h1
    by_cases hi : i = q.1
    · have hl : i < (zkl L i).length := by
        have := (List.getElem?_eq_some_iff.mp h1).1
        rw [List.length_set] at this
        omega
      rw [← hi, List.getElem?_set_self hl] at h1
      cases h1
      exact List.mem_cons.mpr (Or.inl (by rw [hi, ← h3]))
    · rw [List.getElem?_set_ne hi] at h1
      obtain ⟨g1, g2⟩ := zkl_at h1 h2
      refine List.mem_cons.mpr (Or.inr (List.mem_filter.mpr ⟨mem_zpr.mpr ⟨x, g1, h2, h3⟩, ?_⟩))
      have hc : q.2.category = x.category := by rw [h3]; cases x <;> rfl
      simp only [Bool.and_eq_true, Bool.not_eq_true', beq_eq_false_iff_ne, Bool.and_eq_false_iff]
      refine ⟨fun e => hi e.symm, fun e => hi1 e.symm, ?_⟩
      by_cases hq1 : q.1 + 1 = i
      · right
        intro e
        exact g2 ⟨hq1, by rw [← hc]; exact e⟩
      · left
        exact hq1
-- a method's contract, and its walk
def zNm : Cond := .methodLinkNest "SpanMaps$Returns" 61 ⟨"SpanMaps", "divides", "(II)Z"⟩ "SpanMaps"
def zK (E : zE) (U : State) : Prop := va_K E.2.1 zCl (zty E.2.2.2) U ∧ va_Nw zNm U
def zP (E : zE) (av : List Value) (w : zWd) : Array Value → State → Prop := va_Pc (av.map (zv E.2.2.1)) (fun U => va_P E.2.1 zCl (zW E.2.2.1 E.2.2.2 w) U.heap ∧ zK E U)
def zQ (E : zE) (Post : Option Value → zWd → Prop) : Array Value → State → Outcome → State → Prop := fun _ st oc t => (∃ (r : Option Value) (w' : zWd), oc = .returned (r.map (zv E.2.2.1)) ∧ Post r w' ∧ va_P E.2.1 zCl (zW E.2.2.1 E.2.2.2 w') t.heap) ∧ va_F (zA E.2.2.1) st t
def zRm (d : Nat) : Room := { frames := d, cells := 0, slots := 0, locals := 42 * d }
def zB : List Cond := lw_tbl.filter goodWord
theorem zb (i : Nat) {w : Cond} (h : lw_tbl[i]? = some w) (g : goodWord w = true) : w ∈ zB := List.mem_filter.mpr ⟨List.mem_of_getElem? h, g⟩
theorem zB_good : ∀ w ∈ zB, goodWord w = true := fun w h => (List.mem_filter.mp h).2
def zws (M : zM) : List Cond := .code M.1 M.2.1 M.2.2.1 M.2.2.2 :: zB
def zOk (E : zE) (M : zM) (d : Nat) (av : List Value) (w : zWd) (Post : Option Value → zWd → Prop) : Prop :=
  zI E.2.2.1 → Met E.1 M.1 (zws M) (zRm d) (zP E av w) (zQ E Post) 0 0 (zA E.2.2.1)
def zX (E : zE) (M : zM) (p : Program) (s : State) (m : MethodId) (args : Array Value) (meth : Method) (c : Code) : Prop :=
  p.tables.exec = Jvm.exec ∧ c.code = M.2.1 ∧ c.maxLocals = M.2.2.1 ∧ meth.sig.returnType = M.2.2.2 ∧ meth.locks = false ∧ s.vm.findClass M.1.cls = some m.cls ∧ (∀ w ∈ zws M, w.before args s = true) ∧ zK E s
def zV (E : zE) (M : zM) (d : Nat) (Post : Option Value → zWd → Prop) (pc : Nat) (L st : List Value) (w : zWd) : Prop :=
  zI E.2.2.1 → ∀ (p : Program) (e : Env) (s : State) (m : MethodId) (args : Array Value) (below : List Frame) (meth : Method) (c : Code) (H : Heap) (locs : List Loc) (ls : Array Slot),
    zX E M p s m args meth c → va_P E.2.1 zCl (zW E.2.2.1 E.2.2.2 w) H → va_S (zA E.2.2.1) s.heap H locs → zL E.2.2.1 ls M.2.2.1 L →
    W p E.1 e (zRm d) s m args below meth c H locs 0 0 (MQ below (zQ E Post) args s 0 0 (zA E.2.2.1)) (F0 m pc ls (st.map (zv E.2.2.1)))
def zEnt (av : List Value) (n : Nat) : List Value := let l := av.flatMap (fun v => if v.category = 2 then [v, zU] else [v]); l ++ List.replicate (n - l.length) zU
theorem zv_cat (ad : Nat → Nat) (v : Value) : (zv ad v).category = v.category := by cases v <;> rfl
theorem zEnt_args (ad : Nat → Nat) : ∀ (av pre : List Value) (k : Nat) (j : Nat) (v : Value), (pre ++ av.flatMap (fun v => if v.category = 2 then [v, zU] else [v]) ++ List.replicate k zU)[j]? = some v → v ≠ zU → pre.length ≤ j → (j, zv ad v) ∈ lv_args pre.length (av.map (zv ad))
  | [], pre, k, j, v, h, hz, hj => by
    exfalso
    simp only [List.flatMap_nil, List.append_nil] at h
    rw [List.getElem?_append_right hj] at h
    have := List.mem_of_getElem? h
    exact hz (List.eq_of_mem_replicate this)
  | a :: av, pre, k, j, v, h, hz, hj => by
    simp only [List.map_cons, lv_args, zv_cat]
    rw [List.flatMap_cons, ← List.append_assoc pre] at h
    by_cases hc : a.category = 2
    · simp only [hc, if_true] at h ⊢
      have h2 := zEnt_args ad av (pre ++ [a, zU]) k j v h hz
      by_cases hj2 : (pre ++ [a, zU]).length ≤ j
      · have h3 := h2 hj2
        simp only [List.length_append, List.length_cons, List.length_nil] at h3
        exact List.mem_cons_of_mem _ h3
      · simp only [List.length_append, List.length_cons, List.length_nil] at hj2
        by_cases e : j = pre.length
        · subst e
          simp at h
          subst h
          exact List.mem_cons_self
        · have e2 : j = pre.length + 1 := by omega
          subst e2
          exfalso
          simp [List.append_assoc] at h
          exact hz h.symm
    · simp only [hc, if_false] at h ⊢
      have h2 := zEnt_args ad av (pre ++ [a]) k j v h hz
      by_cases hj2 : (pre ++ [a]).length ≤ j
      · have h3 := h2 hj2
        simp only [List.length_append, List.length_cons, List.length_nil] at h3
        exact List.mem_cons_of_mem _ h3
      · simp only [List.length_append, List.length_cons, List.length_nil] at hj2
        have e : j = pre.length := by omega
        subst e
        simp at h
        subst h
        exact List.mem_cons_self
theorem lg_sl_len (ad : Nat → Nat) : ∀ av : List Value, (lg_sl (av.map (zv ad))).length = (av.flatMap (fun v => if v.category = 2 then [v, zU] else [v])).length
  | [] => rfl
  | a :: av => by
    have h := lg_sl_len ad av
    simp only [lg_sl, List.map_cons, List.flatMap_cons, List.length_append, zv_cat] at h ⊢
    rw [h]
    by_cases hc : a.category = 2 <;> simp [hc]
theorem zOk.of {E : zE} {M : zM} {d : Nat} {av : List Value} {w : zWd} {Post : Option Value → zWd → Prop} (hy : plainName M.1.cls = true) (hn : (av.flatMap (fun v => if v.category = 2 then [v, zU] else [v])).length ≤ M.2.2.1)
    (h : zV E M d Post 0 (zEnt av M.2.2.1) [] w) : zOk E M d av w Post := by
  intro hI
  refine Met.ofW (cc := M.2.1) (maxL := M.2.2.1) (ret := M.2.2.2) hy rfl ?_
  intro p e s m args below meth c s₁ B hml hv
  obtain ⟨rfl, hP, hK⟩ := hv
  rw [lg_entry_eq]
  refine h hI p e s m _ below meth c s.heap [] _ ⟨B.exec, B.bytes, hml, B.returns, B.notSynchronized, findClass_of_methodNamed B.named, atoms_spec (ws := zws M) B.pre, hK⟩ hP va_S.rf ?_
  have hl := lv_entry (av.map (zv E.2.2.1)) (n := M.2.2.1) (by rw [lg_sl_len]; exact hn)
  refine ⟨?_, hl.1, hl.2.1, fun q hq => ?_⟩
  · simp only [zEnt, List.length_append, List.length_replicate]
    omega
  · obtain ⟨v, h1, h2, h3⟩ := mem_zpr.mp hq
    have := zEnt_args E.2.2.1 av [] _ q.1 v h1 h2 (Nat.zero_le _)
    refine hl.2.2 q ?_
    rw [show q = (q.1, zv E.2.2.1 v) by rw [← h3]]
    exact this
end
section
/-! ===== one step of simple instructions, computed; runs of them ===== -/
def zlen (i : Instr) : Nat := match i with
  | .bipush _ | .iload _ | .lload _ | .aload _ | .istore _ | .lstore _ | .astore _ | .ldc _ | .newarray _ => 2
  | .sipush _ | .ldc2_w _ | .getfield _ | .putfield _ | .invokevirtual _ | .invokestatic _ | .invokespecial _ | .if_icmp _ _ | .ifCond _ _ | .goto _ | .iinc _ _ | .new _ | .anewarray _ => 3
  | .multianewarray _ _ => 4
  | _ => 1
def zch2 (pc : Nat) (i : Instr) (nx : Nat) (a : Value) : Bool := match i with
  | .goto off => decide ((pc : Int) + off = (nx : Int))
  | .ifCond _ off => decide (nx = pc + 3) && (match a with | .retAddr t => decide ((pc : Int) + off = (t : Int)) | _ => false)
  | .if_icmp _ off => decide (nx = pc + 3) && (match a with | .retAddr t => decide ((pc : Int) + off = (t : Int)) | _ => false)
  | .iconst n => decide (nx = pc + 1) && (match a with | .int v => decide (Int32.ofInt n = v) | _ => false)
  | .bipush n => decide (nx = pc + 2) && (match a with | .int v => decide ((Int8.ofInt n).toInt32 = v) | _ => false)
  | .sipush n => decide (nx = pc + 3) && (match a with | .int v => decide ((Int16.ofInt n).toInt32 = v) | _ => false)
  | .lconst n => decide (nx = pc + 1) && (match a with | .long v => decide (Int64.ofNat (n : Nat) = v) | _ => false)
  | .iinc _ n => decide (nx = pc + 3) && (match a with | .int v => decide (Int32.ofInt n = v) | _ => false)
  | i => decide (nx = pc + zlen i)
abbrev zchk (M : zM) (e : Nat × Instr × Nat × Value) : Prop := decode M.2.1 e.1 = .ok (e.2.1, zlen e.2.1) ∧ zch2 e.1 e.2.1 e.2.2.1 e.2.2.2 = true
def zTab (M : zM) (T : zTb) : Prop := ∀ e ∈ T, zchk M e
theorem zlk {pc : Nat} {b : Instr × Nat × Value} : ∀ {T : zTb}, T.lookup pc = some b → (pc, b) ∈ T
  | [], h => by cases h
  | (k, x) :: T, h => by
    rw [List.lookup_cons] at h
    by_cases e : pc == k
    · simp only [e] at h
      cases h
      rw [eq_of_beq e]
      exact List.mem_cons_self
    · simp only [Bool.not_eq_true] at e
      simp only [e] at h
      exact List.mem_cons_of_mem _ (zlk h)
theorem zTab.dec {M : zM} {T : zTb} (hT : zTab M T) {pc nx : Nat} {i : Instr} {a : Value} (h : T.lookup pc = some (i, nx, a)) : decode M.2.1 pc = .ok (i, zlen i) ∧ zch2 pc i nx a = true := by
  have h1 : zchk M (pc, i, nx, a) := hT (pc, i, nx, a) (zlk h)
  exact h1
def zkc : Value → Value
  | .long _ => zU
  | .double _ => zU
  | v => v
def zf1 : List Value → Nat → Value → List Value
  | [], _, _ => []
  | _ :: l, 0, v => v :: l
  | a :: l, i + 1, v => (match i with | 0 => zkc a | _ => a) :: zf1 l i v
def zf2 : List Value → Nat → Value → List Value
  | [], _, _ => []
  | _ :: l, 0, v => v :: (match l with | [] => [] | _ :: t => zU :: t)
  | a :: l, i + 1, v => (match i with | 0 => zkc a | _ => a) :: zf2 l i v
theorem zkl_1 (a : Value) (l : List Value) : zkl (a :: l) 1 = zkc a :: l := by
  show (if ((a :: l).getD 0 zU).category = 2 then (a :: l).set 0 zU else a :: l) = _
  cases a <;> rfl
theorem zkl_2 (a : Value) (l : List Value) (i : Nat) : zkl (a :: l) (i + 2) = a :: zkl l (i + 1) := by
  show (if ((a :: l).getD (i + 1) zU).category = 2 then (a :: l).set (i + 1) zU else a :: l) = a :: (if (l.getD i zU).category = 2 then l.set i zU else l)
  have e : (a :: l).getD (i + 1) zU = l.getD i zU := rfl
  rw [e]
  split <;> rfl
theorem zf1_eq : ∀ (L : List Value) (i : Nat) (v : Value), zf1 L i v = zst1 L i v
  | [], 0, v => rfl
  | [], i + 1, v => by
    show [] = (zkl [] (i + 1)).set (i + 1) v
    have e : (zkl ([] : List Value) (i + 1)).length = 0 := zkl_len _ _
    rw [List.eq_nil_of_length_eq_zero e]
    rfl
  | a :: l, 0, v => rfl
  | a :: l, 1, v => by
    show zkc a :: zf1 l 0 v = (zkl (a :: l) 1).set 1 v
    rw [zkl_1, zf1_eq l 0 v]
    rfl
  | a :: l, i + 2, v => by
    show a :: zf1 l (i + 1) v = (zkl (a :: l) (i + 2)).set (i + 2) v
    rw [zkl_2, zf1_eq l (i + 1) v]
    rfl
theorem zf2_eq : ∀ (L : List Value) (i : Nat) (v : Value), zf2 L i v = zst2 L i v
  | [], 0, v => rfl
  | [], i + 1, v => by
    show [] = ((zkl [] (i + 1)).set (i + 1) v).set (i + 2) zU
    have e : (zkl ([] : List Value) (i + 1)).length = 0 := zkl_len _ _
    rw [List.eq_nil_of_length_eq_zero e]
    rfl
  | [a], 0, v => rfl
  | a :: b :: l, 0, v => rfl
  | a :: l, 1, v => by
    show zkc a :: zf2 l 0 v = ((zkl (a :: l) 1).set 1 v).set 2 zU
    rw [zkl_1, zf2_eq l 0 v]
    rfl
  | a :: l, i + 2, v => by
    show a :: zf2 l (i + 1) v = ((zkl (a :: l) (i + 2)).set (i + 2) v).set (i + 3) zU
    rw [zkl_2, zf2_eq l (i + 1) v]
    rfl
def zLi (L st : List Value) (k : Nat) : Option (List Value × List Value) := match L[k]? with
  | some (.int x) => some (L, .int x :: st)
  | _ => none
def zLl (L st : List Value) (k : Nat) : Option (List Value × List Value) := match L[k]? with
  | some (.long x) => some (L, .long x :: st)
  | _ => none
def zLr (L st : List Value) (k : Nat) : Option (List Value × List Value) := match L[k]? with
  | some (.ref x) => some (L, .ref x :: st)
  | _ => none
def zSi (L st : List Value) (k : Nat) : Option (List Value × List Value) := match st with
  | .int x :: r => if k < L.length then some (zf1 L k (.int x), r) else none
  | _ => none
def zSr (L st : List Value) (k : Nat) : Option (List Value × List Value) := match st with
  | .ref x :: r => if k < L.length then some (zf1 L k (.ref x), r) else none
  | _ => none
def zSl (L st : List Value) (k : Nat) : Option (List Value × List Value) := match st with
  | .long x :: r => if k + 1 < L.length then some (zf2 L k (.long x), r) else none
  | _ => none
def zo_iadd (L st : List Value) : Option (List Value × List Value) := match st with
  | .int y :: .int x :: r => some (L, .int (x + y) :: r)
  | _ => none
def zo_isub (L st : List Value) : Option (List Value × List Value) := match st with
  | .int y :: .int x :: r => some (L, .int (x - y) :: r)
  | _ => none
def zo_imul (L st : List Value) : Option (List Value × List Value) := match st with
  | .int y :: .int x :: r => some (L, .int (x * y) :: r)
  | _ => none
def zo_iand (L st : List Value) : Option (List Value × List Value) := match st with
  | .int y :: .int x :: r => some (L, .int (x &&& y) :: r)
  | _ => none
def zo_ior (L st : List Value) : Option (List Value × List Value) := match st with
  | .int y :: .int x :: r => some (L, .int (x ||| y) :: r)
  | _ => none
def zo_ishl (L st : List Value) : Option (List Value × List Value) := match st with
  | .int y :: .int x :: r => some (L, .int (x <<< (y &&& 31)) :: r)
  | _ => none
def zo_ishr (L st : List Value) : Option (List Value × List Value) := match st with
  | .int y :: .int x :: r => some (L, .int (x >>> (y &&& 31)) :: r)
  | _ => none
def zo_ladd (L st : List Value) : Option (List Value × List Value) := match st with
  | .long y :: .long x :: r => some (L, .long (x + y) :: r)
  | _ => none
def zo_lsub (L st : List Value) : Option (List Value × List Value) := match st with
  | .long y :: .long x :: r => some (L, .long (x - y) :: r)
  | _ => none
def zo_lmul (L st : List Value) : Option (List Value × List Value) := match st with
  | .long y :: .long x :: r => some (L, .long (x * y) :: r)
  | _ => none
def zo_land (L st : List Value) : Option (List Value × List Value) := match st with
  | .long y :: .long x :: r => some (L, .long (x &&& y) :: r)
  | _ => none
def zo_lor (L st : List Value) : Option (List Value × List Value) := match st with
  | .long y :: .long x :: r => some (L, .long (x ||| y) :: r)
  | _ => none
def zo_ineg (L st : List Value) : Option (List Value × List Value) := match st with
  | .int x :: r => some (L, .int (-x) :: r)
  | _ => none
def zo_i2l (L st : List Value) : Option (List Value × List Value) := match st with
  | .int x :: r => some (L, .long x.toInt64 :: r)
  | _ => none
def zo_l2i (L st : List Value) : Option (List Value × List Value) := match st with
  | .long x :: r => some (L, .int x.toInt32 :: r)
  | _ => none
def zo_lneg (L st : List Value) : Option (List Value × List Value) := match st with
  | .long x :: r => some (L, .long (-x) :: r)
  | _ => none
def zsh (L st : List Value) : Option (List Value × List Value) := match st with
  | .int y :: .long x :: r => some (L, .long (x <<< (y.toInt64 &&& 63)) :: r)
  | _ => none
def zdu (L st : List Value) : Option (List Value × List Value) := match st with
  | .int x :: r => some (L, .int x :: .int x :: r)
  | .ref x :: r => some (L, .ref x :: .ref x :: r)
  | _ => none
def zd2 (L st : List Value) : Option (List Value × List Value) := match st with
  | .int y :: .ref x :: r => some (L, .int y :: .ref x :: .int y :: .ref x :: r)
  | .int y :: .int x :: r => some (L, .int y :: .int x :: .int y :: .int x :: r)
  | _ => none
def zin (L st : List Value) (k : Nat) (a : Value) : Option (List Value × List Value) := match L[k]?, a with
  | some (.int x), .int v => some (zf1 L k (.int (x + v)), st)
  | _, _ => none
def zS (i : Instr) (a : Value) (L st : List Value) : Option (List Value × List Value) := match i with
  | .iconst _ => some (L, a :: st)
  | .bipush _ => some (L, a :: st)
  | .sipush _ => some (L, a :: st)
  | .lconst _ => some (L, a :: st)
  | .iload k => zLi L st k
  | .iload_n k => zLi L st k.val
  | .lload k => zLl L st k
  | .lload_n k => zLl L st k.val
  | .aload k => zLr L st k
  | .aload_n k => zLr L st k.val
  | .istore k => zSi L st k
  | .istore_n k => zSi L st k.val
  | .lstore k => zSl L st k
  | .lstore_n k => zSl L st k.val
  | .astore_n k => zSr L st k.val
  | .astore k => zSr L st k
  | .iadd => zo_iadd L st
  | .isub => zo_isub L st
  | .imul => zo_imul L st
  | .iand => zo_iand L st
  | .ior => zo_ior L st
  | .ishl => zo_ishl L st
  | .ishr => zo_ishr L st
  | .ineg => zo_ineg L st
  | .i2l => zo_i2l L st
  | .l2i => zo_l2i L st
  | .lneg => zo_lneg L st
  | .ladd => zo_ladd L st
  | .lsub => zo_lsub L st
  | .lmul => zo_lmul L st
  | .land => zo_land L st
  | .lor => zo_lor L st
  | .lshl => zsh L st
  | .dup => zdu L st
  | .dup2 => zd2 L st
  | .iinc k _ => zin L st k a
  | .goto _ => some (L, st)
  | _ => none
section ZS
variable {E : zE} {M : zM} {d : Nat} {Post : Option Value → zWd → Prop} {pc nx : Nat} {L L' st st' : List Value} {w : zWd} {i : Instr} {a : Value} {k : Nat}
theorem zLi_inv (h : zLi L st k = some (L', st')) : ∃ x, L[k]? = some (.int x) ∧ L' = L ∧ st' = .int x :: st := by
  unfold zLi at h
  split at h
  next x hx => cases h; exact ⟨x, hx, rfl, rfl⟩
  next => cases h
theorem zLl_inv (h : zLl L st k = some (L', st')) : ∃ x, L[k]? = some (.long x) ∧ L' = L ∧ st' = .long x :: st := by
  unfold zLl at h
  split at h
  next x hx => cases h; exact ⟨x, hx, rfl, rfl⟩
  next => cases h
theorem zLr_inv (h : zLr L st k = some (L', st')) : ∃ x, L[k]? = some (.ref x) ∧ L' = L ∧ st' = .ref x :: st := by
  unfold zLr at h
  split at h
  next x hx => cases h; exact ⟨x, hx, rfl, rfl⟩
  next => cases h
theorem zSi_inv (h : zSi L st k = some (L', st')) : ∃ x r, st = .int x :: r ∧ k < L.length ∧ L' = zst1 L k (.int x) ∧ st' = r := by
  unfold zSi at h
  split at h
  next x r => split at h
              next hk => cases h; exact ⟨x, _, rfl, hk, zf1_eq _ _ _, rfl⟩
              next => cases h
  next => cases h
theorem zSr_inv (h : zSr L st k = some (L', st')) : ∃ x r, st = .ref x :: r ∧ k < L.length ∧ L' = zst1 L k (.ref x) ∧ st' = r := by
  unfold zSr at h
  split at h
  next x r => split at h
              next hk => cases h; exact ⟨x, _, rfl, hk, zf1_eq _ _ _, rfl⟩
              next => cases h
  next => cases h
theorem zSl_inv (h : zSl L st k = some (L', st')) : ∃ x r, st = .long x :: r ∧ k + 1 < L.length ∧ L' = zst2 L k (.long x) ∧ st' = r := by
  unfold zSl at h
  split at h
  next x r => split at h
              next hk => cases h; exact ⟨x, _, rfl, hk, zf2_eq _ _ _, rfl⟩
              next => cases h
  next => cases h
theorem zo_iadd_inv (h : zo_iadd L st = some (L', st')) : ∃ x y r, st = .int y :: .int x :: r ∧ L' = L ∧ st' = .int (x + y) :: r := by
  unfold zo_iadd at h
  split at h
  next y x r => cases h; exact ⟨x, y, r, rfl, rfl, rfl⟩
  next => cases h
theorem zo_isub_inv (h : zo_isub L st = some (L', st')) : ∃ x y r, st = .int y :: .int x :: r ∧ L' = L ∧ st' = .int (x - y) :: r := by
  unfold zo_isub at h
  split at h
  next y x r => cases h; exact ⟨x, y, r, rfl, rfl, rfl⟩
  next => cases h
theorem zo_imul_inv (h : zo_imul L st = some (L', st')) : ∃ x y r, st = .int y :: .int x :: r ∧ L' = L ∧ st' = .int (x * y) :: r := by
  unfold zo_imul at h
  split at h
  next y x r => cases h; exact ⟨x, y, r, rfl, rfl, rfl⟩
  next => cases h
theorem zo_iand_inv (h : zo_iand L st = some (L', st')) : ∃ x y r, st = .int y :: .int x :: r ∧ L' = L ∧ st' = .int (x &&& y) :: r := by
  unfold zo_iand at h
  split at h
  next y x r => cases h; exact ⟨x, y, r, rfl, rfl, rfl⟩
  next => cases h
theorem zo_ior_inv (h : zo_ior L st = some (L', st')) : ∃ x y r, st = .int y :: .int x :: r ∧ L' = L ∧ st' = .int (x ||| y) :: r := by
  unfold zo_ior at h
  split at h
  next y x r => cases h; exact ⟨x, y, r, rfl, rfl, rfl⟩
  next => cases h
theorem zo_ishl_inv (h : zo_ishl L st = some (L', st')) : ∃ x y r, st = .int y :: .int x :: r ∧ L' = L ∧ st' = .int (x <<< (y &&& 31)) :: r := by
  unfold zo_ishl at h
  split at h
  next y x r => cases h; exact ⟨x, y, r, rfl, rfl, rfl⟩
  next => cases h
theorem zo_ishr_inv (h : zo_ishr L st = some (L', st')) : ∃ x y r, st = .int y :: .int x :: r ∧ L' = L ∧ st' = .int (x >>> (y &&& 31)) :: r := by
  unfold zo_ishr at h
  split at h
  next y x r => cases h; exact ⟨x, y, r, rfl, rfl, rfl⟩
  next => cases h
theorem zo_ladd_inv (h : zo_ladd L st = some (L', st')) : ∃ x y r, st = .long y :: .long x :: r ∧ L' = L ∧ st' = .long (x + y) :: r := by
  unfold zo_ladd at h
  split at h
  next y x r => cases h; exact ⟨x, y, r, rfl, rfl, rfl⟩
  next => cases h
theorem zo_lsub_inv (h : zo_lsub L st = some (L', st')) : ∃ x y r, st = .long y :: .long x :: r ∧ L' = L ∧ st' = .long (x - y) :: r := by
  unfold zo_lsub at h
  split at h
  next y x r => cases h; exact ⟨x, y, r, rfl, rfl, rfl⟩
  next => cases h
theorem zo_lmul_inv (h : zo_lmul L st = some (L', st')) : ∃ x y r, st = .long y :: .long x :: r ∧ L' = L ∧ st' = .long (x * y) :: r := by
  unfold zo_lmul at h
  split at h
  next y x r => cases h; exact ⟨x, y, r, rfl, rfl, rfl⟩
  next => cases h
theorem zo_land_inv (h : zo_land L st = some (L', st')) : ∃ x y r, st = .long y :: .long x :: r ∧ L' = L ∧ st' = .long (x &&& y) :: r := by
  unfold zo_land at h
  split at h
  next y x r => cases h; exact ⟨x, y, r, rfl, rfl, rfl⟩
  next => cases h
theorem zo_lor_inv (h : zo_lor L st = some (L', st')) : ∃ x y r, st = .long y :: .long x :: r ∧ L' = L ∧ st' = .long (x ||| y) :: r := by
  unfold zo_lor at h
  split at h
  next y x r => cases h; exact ⟨x, y, r, rfl, rfl, rfl⟩
  next => cases h
theorem zo_ineg_inv (h : zo_ineg L st = some (L', st')) : ∃ x r, st = .int x :: r ∧ L' = L ∧ st' = .int (-x) :: r := by
  unfold zo_ineg at h
  split at h
  next x r => cases h; exact ⟨x, r, rfl, rfl, rfl⟩
  next => cases h
theorem zo_i2l_inv (h : zo_i2l L st = some (L', st')) : ∃ x r, st = .int x :: r ∧ L' = L ∧ st' = .long x.toInt64 :: r := by
  unfold zo_i2l at h
  split at h
  next x r => cases h; exact ⟨x, r, rfl, rfl, rfl⟩
  next => cases h
theorem zo_l2i_inv (h : zo_l2i L st = some (L', st')) : ∃ x r, st = .long x :: r ∧ L' = L ∧ st' = .int x.toInt32 :: r := by
  unfold zo_l2i at h
  split at h
  next x r => cases h; exact ⟨x, r, rfl, rfl, rfl⟩
  next => cases h
theorem zo_lneg_inv (h : zo_lneg L st = some (L', st')) : ∃ x r, st = .long x :: r ∧ L' = L ∧ st' = .long (-x) :: r := by
  unfold zo_lneg at h
  split at h
  next x r => cases h; exact ⟨x, r, rfl, rfl, rfl⟩
  next => cases h
theorem zsh_inv (h : zsh L st = some (L', st')) : ∃ x y r, st = .int y :: .long x :: r ∧ L' = L ∧ st' = .long (x <<< (y.toInt64 &&& 63)) :: r := by
  unfold zsh at h
  split at h
  next y x r => cases h; exact ⟨x, y, r, rfl, rfl, rfl⟩
  next => cases h
theorem zdu_inv (h : zdu L st = some (L', st')) : ∃ v r, st = v :: r ∧ v.category = 1 ∧ L' = L ∧ st' = v :: v :: r := by
  unfold zdu at h
  split at h
  next x r => cases h; exact ⟨_, r, rfl, rfl, rfl, rfl⟩
  next x r => cases h; exact ⟨_, r, rfl, rfl, rfl, rfl⟩
  next => cases h
theorem zd2_inv (h : zd2 L st = some (L', st')) : ∃ u v r, st = u :: v :: r ∧ u.category = 1 ∧ v.category = 1 ∧ L' = L ∧ st' = u :: v :: u :: v :: r := by
  unfold zd2 at h
  split at h
  next x y r => cases h; exact ⟨_, _, r, rfl, rfl, rfl, rfl, rfl⟩
  next x y r => cases h; exact ⟨_, _, r, rfl, rfl, rfl, rfl, rfl⟩
  next => cases h
theorem zin_inv (h : zin L st k a = some (L', st')) : ∃ x v, L[k]? = some (.int x) ∧ a = .int v ∧ L' = zst1 L k (.int (x + v)) ∧ st' = st := by
  unfold zin at h
  split at h
  next x v hx => cases h; exact ⟨x, v, hx, rfl, zf1_eq _ _ _, rfl⟩
  next => cases h
theorem zint_ne (x : Int32) : Value.int x ≠ zU := fun h => by cases h
theorem zlong_ne (x : Int64) : Value.long x ≠ zU := fun h => by cases h
theorem zref_ne (x : Nat) : Value.ref x ≠ zU := fun h => by cases h
/-- one simple step -/
theorem zS_ok (hd : decode M.2.1 pc = .ok (i, zlen i)) (hc : zch2 pc i nx a = true) (h : zS i a L st = some (L', st')) (k : zV E M d Post nx L' st' w) : zV E M d Post pc L st w := by
  intro hI p e s m args below meth c H locs ls X hP hS hL
  have K := fun (ls : Array Slot) (hL : zL E.2.2.1 ls M.2.2.1 L') => k hI p e s m args below meth c H locs ls X hP hS hL
  obtain ⟨hx, hb, -, -, -, -, -, -⟩ := X
  have hn : L.length = M.2.2.1 := hL.1
  cases i with
  | iconst n =>
    cases h
    simp only [zch2, Bool.and_eq_true, decide_eq_true_eq] at hc
    obtain ⟨rfl, hc⟩ := hc
    cases a with
    | int v => exact lv_iconst hx hb hd (by simpa using hc) (K ls hL)
    | _ => cases hc
  | bipush n =>
    cases h
    simp only [zch2, Bool.and_eq_true, decide_eq_true_eq] at hc
    obtain ⟨rfl, hc⟩ := hc
    cases a with
    | int v => exact lv_bipush hx hb hd (by simpa using hc) (K ls hL)
    | _ => cases hc
  | sipush n =>
    cases h
    simp only [zch2, Bool.and_eq_true, decide_eq_true_eq] at hc
    obtain ⟨rfl, hc⟩ := hc
    cases a with
    | int v => exact lv_sipush hx hb hd (by simpa using hc) (K ls hL)
    | _ => cases hc
  | lconst n =>
    cases h
    simp only [zch2, Bool.and_eq_true, decide_eq_true_eq] at hc
    obtain ⟨rfl, hc⟩ := hc
    cases a with
    | long v => exact lv_lconst hx hb hd (by simpa using hc) (K ls hL)
    | _ => cases hc
  | iload n =>
    obtain ⟨x, h1, rfl, rfl⟩ := zLi_inv h
    have hc : nx = pc + 2 := of_decide_eq_true hc
    subst hc
    exact lv_iload hx hb hd (hL.at h1 (zint_ne x)) (K ls hL)
  | iload_n n =>
    obtain ⟨x, h1, rfl, rfl⟩ := zLi_inv h
    have hc : nx = pc + 1 := of_decide_eq_true hc
    subst hc
    exact lv_iload_n hx hb hd rfl (hL.at h1 (zint_ne x)) (K ls hL)
  | lload n =>
    obtain ⟨x, h1, rfl, rfl⟩ := zLl_inv h
    have hc : nx = pc + 2 := of_decide_eq_true hc
    subst hc
    exact lv_lload hx hb hd (hL.at h1 (zlong_ne x)) (K ls hL)
  | lload_n n =>
    obtain ⟨x, h1, rfl, rfl⟩ := zLl_inv h
    have hc : nx = pc + 1 := of_decide_eq_true hc
    subst hc
    exact lv_lload_n hx hb hd rfl (hL.at h1 (zlong_ne x)) (K ls hL)
  | aload n =>
    obtain ⟨x, h1, rfl, rfl⟩ := zLr_inv h
    have hc : nx = pc + 2 := of_decide_eq_true hc
    subst hc
    exact lv_aload hx hb hd (hL.at h1 (zref_ne x)) (K ls hL)
  | aload_n n =>
    obtain ⟨x, h1, rfl, rfl⟩ := zLr_inv h
    have hc : nx = pc + 1 := of_decide_eq_true hc
    subst hc
    exact lv_aload_n hx hb hd rfl (hL.at h1 (zref_ne x)) (K ls hL)
  | istore n =>
    obtain ⟨x, r, rfl, h1, rfl, rfl⟩ := zSi_inv h
    have hc : nx = pc + 2 := of_decide_eq_true hc
    subst hc
    exact lv_istore hx hb hd hL.2 (by omega) rfl (fun ls' h' => K ls' (zL.st1 hn h'))
  | istore_n n =>
    obtain ⟨x, r, rfl, h1, rfl, rfl⟩ := zSi_inv h
    have hc : nx = pc + 1 := of_decide_eq_true hc
    subst hc
    exact lv_istore_n hx hb hd rfl hL.2 (by omega) rfl (fun ls' h' => K ls' (zL.st1 hn h'))
  | lstore n =>
    obtain ⟨x, r, rfl, h1, rfl, rfl⟩ := zSl_inv h
    have hc : nx = pc + 2 := of_decide_eq_true hc
    subst hc
    exact lv_lstore hx hb hd hL.2 (by omega) rfl (fun ls' h' => K ls' (zL.st2 hn h'))
  | lstore_n n =>
    obtain ⟨x, r, rfl, h1, rfl, rfl⟩ := zSl_inv h
    have hc : nx = pc + 1 := of_decide_eq_true hc
    subst hc
    exact lv_lstore_n hx hb hd rfl hL.2 (by omega) rfl (fun ls' h' => K ls' (zL.st2 hn h'))
  | astore_n n =>
    obtain ⟨x, r, rfl, h1, rfl, rfl⟩ := zSr_inv h
    have hc : nx = pc + 1 := of_decide_eq_true hc
    subst hc
    exact lv_astore_n hx hb hd rfl hL.2 (by omega) rfl (fun ls' h' => K ls' (zL.st1 (v := .ref x) hn h'))
  | astore n =>
    obtain ⟨x, r, rfl, h1, rfl, rfl⟩ := zSr_inv h
    have hc : nx = pc + 2 := of_decide_eq_true hc
    subst hc
    exact lv_astore hx hb hd hL.2 (by omega) rfl (fun ls' h' => K ls' (zL.st1 (v := .ref x) hn h'))
  | iadd =>
    obtain ⟨x, y, r, rfl, rfl, rfl⟩ := zo_iadd_inv h
    have hc : nx = pc + 1 := of_decide_eq_true hc
    subst hc
    exact lv_iadd hx hb hd (K ls hL)
  | isub =>
    obtain ⟨x, y, r, rfl, rfl, rfl⟩ := zo_isub_inv h
    have hc : nx = pc + 1 := of_decide_eq_true hc
    subst hc
    exact lv_isub hx hb hd (K ls hL)
  | imul =>
    obtain ⟨x, y, r, rfl, rfl, rfl⟩ := zo_imul_inv h
    have hc : nx = pc + 1 := of_decide_eq_true hc
    subst hc
    exact lv_imul hx hb hd (K ls hL)
  | iand =>
    obtain ⟨x, y, r, rfl, rfl, rfl⟩ := zo_iand_inv h
    have hc : nx = pc + 1 := of_decide_eq_true hc
    subst hc
    exact lv_iand hx hb hd (K ls hL)
  | ior =>
    obtain ⟨x, y, r, rfl, rfl, rfl⟩ := zo_ior_inv h
    have hc : nx = pc + 1 := of_decide_eq_true hc
    subst hc
    exact lv_ior hx hb hd (K ls hL)
  | ishl =>
    obtain ⟨x, y, r, rfl, rfl, rfl⟩ := zo_ishl_inv h
    have hc : nx = pc + 1 := of_decide_eq_true hc
    subst hc
    exact lv_ishl hx hb hd (K ls hL)
  | ishr =>
    obtain ⟨x, y, r, rfl, rfl, rfl⟩ := zo_ishr_inv h
    have hc : nx = pc + 1 := of_decide_eq_true hc
    subst hc
    exact lv_ishr hx hb hd (K ls hL)
  | ineg =>
    obtain ⟨x, r, rfl, rfl, rfl⟩ := zo_ineg_inv h
    have hc : nx = pc + 1 := of_decide_eq_true hc
    subst hc
    exact lv_ineg hx hb hd (K ls hL)
  | i2l =>
    obtain ⟨x, r, rfl, rfl, rfl⟩ := zo_i2l_inv h
    have hc : nx = pc + 1 := of_decide_eq_true hc
    subst hc
    exact lv_i2l hx hb hd rfl (K ls hL)
  | l2i =>
    obtain ⟨x, r, rfl, rfl, rfl⟩ := zo_l2i_inv h
    have hc : nx = pc + 1 := of_decide_eq_true hc
    subst hc
    exact lv_l2i hx hb hd rfl (K ls hL)
  | lneg =>
    obtain ⟨x, r, rfl, rfl, rfl⟩ := zo_lneg_inv h
    have hc : nx = pc + 1 := of_decide_eq_true hc
    subst hc
    exact lv_lneg hx hb hd (K ls hL)
  | ladd =>
    obtain ⟨x, y, r, rfl, rfl, rfl⟩ := zo_ladd_inv h
    have hc : nx = pc + 1 := of_decide_eq_true hc
    subst hc
    exact lv_ladd hx hb hd (K ls hL)
  | lsub =>
    obtain ⟨x, y, r, rfl, rfl, rfl⟩ := zo_lsub_inv h
    have hc : nx = pc + 1 := of_decide_eq_true hc
    subst hc
    exact lv_lsub hx hb hd (K ls hL)
  | lmul =>
    obtain ⟨x, y, r, rfl, rfl, rfl⟩ := zo_lmul_inv h
    have hc : nx = pc + 1 := of_decide_eq_true hc
    subst hc
    exact lv_lmul hx hb hd (K ls hL)
  | land =>
    obtain ⟨x, y, r, rfl, rfl, rfl⟩ := zo_land_inv h
    have hc : nx = pc + 1 := of_decide_eq_true hc
    subst hc
    exact lv_land hx hb hd (K ls hL)
  | lor =>
    obtain ⟨x, y, r, rfl, rfl, rfl⟩ := zo_lor_inv h
    have hc : nx = pc + 1 := of_decide_eq_true hc
    subst hc
    exact lv_lor hx hb hd (K ls hL)
  | lshl =>
    obtain ⟨x, y, r, rfl, rfl, rfl⟩ := zsh_inv h
    have hc : nx = pc + 1 := of_decide_eq_true hc
    subst hc
    exact lv_lshl hx hb hd rfl (K ls hL)
  | dup =>
    obtain ⟨v, r, rfl, h1, rfl, rfl⟩ := zdu_inv h
    have hc : nx = pc + 1 := of_decide_eq_true hc
    subst hc
    exact lv_dup hx hb hd (by rw [zv_cat]; exact h1) (K ls hL)
  | dup2 =>
    obtain ⟨u, v, r, rfl, h1, h2, rfl, rfl⟩ := zd2_inv h
    have hc : nx = pc + 1 := of_decide_eq_true hc
    subst hc
    exact lv_dup2_11 hx hb hd (by rw [zv_cat]; exact h1) (by rw [zv_cat]; exact h2) (K ls hL)
  | iinc n z =>
    obtain ⟨x, v, h1, rfl, rfl, rfl⟩ := zin_inv h
    simp only [zch2, Bool.and_eq_true, decide_eq_true_eq] at hc
    obtain ⟨rfl, hc⟩ := hc
    obtain ⟨q, hq⟩ := List.getElem?_of_mem (mem_zpr.mpr ⟨_, h1, zint_ne x, rfl⟩ : (n, zv E.2.2.1 (.int x)) ∈ zpr E.2.2.1 L)
    have hl : n < L.length := (List.getElem?_eq_some_iff.mp h1).1
    exact lv_iinc hx hb hd hL.2 hq (by rw [hc]) (by omega) rfl (fun ls' h' => K ls' (zL.st1 hn h'))
  | goto off =>
    cases h
    have hc : (pc : Int) + off = (nx : Int) := of_decide_eq_true hc
    exact lv_goto hx hb hd hc (K ls hL)
  | _ => cases h
end ZS
def zR (T : zTb) : Nat → Nat → List Value → List Value → Option (Nat × List Value × List Value)
  | 0, pc, L, st => some (pc, L, st)
  | n + 1, pc, L, st => match T.lookup pc with
    | some (i, nx, a) => (match zS i a L st with
      | some (L', st') => zR T n nx L' st'
      | none => none)
    | none => none
theorem zV.run {E : zE} {M : zM} {d : Nat} {Post : Option Value → zWd → Prop} {w : zWd} {T : zTb} (hT : zTab M T) : ∀ (n : Nat) {pc pc' : Nat} {L L' st st' : List Value}, zR T n pc L st = some (pc', L', st') → zV E M d Post pc' L' st' w → zV E M d Post pc L st w
  | 0, pc, pc', L, L', st, st', h, k => by cases h; exact k
  | n + 1, pc, pc', L, L', st, st', h, k => by
    unfold zR at h
    split at h
    next i nx a hl =>
      split at h
      next L1 st1 hs =>
        obtain ⟨h1, h2⟩ := zTab.dec hT hl
        exact zS_ok h1 h2 hs (zV.run hT n h k)
      next => cases h
    next => cases h
end
section
/-! ===== the other instructions, a rule each ===== -/
abbrev zIA (n : Nat) (f : Nat → Int32) : va_E := .inl (0, n, .inl f)
abbrev zLA (n : Nat) (f : Nat → Int64) : va_E := .inl (1, n, .inr (.inl f))
abbrev zZA (n : Nat) (f : Nat → Int32) : va_E := .inl (2, n, .inl f)
abbrev zRA (k n : Nat) (f : Nat → Option Nat) : va_E := .inl (k, n, .inr (.inr (.inr (.inr f))))
abbrev zOb (ci : Nat) (fs : List Value) : va_E := .inr (ci, fs)
def zIf (c : Jvm.ClassFile.Cond) (x : Int32) : Prop := match c with
  | .eq => x = 0
  | .ne => ¬ x = 0
  | .lt => x < 0
  | .ge => 0 ≤ x
  | .gt => 0 < x
  | .le => x ≤ 0
def zIc (c : Jvm.ClassFile.Cond) (x y : Int32) : Prop := match c with
  | .eq => x = y
  | .ne => ¬ x = y
  | .lt => x < y
  | .ge => y ≤ x
  | .gt => y < x
  | .le => x ≤ y
def zIl (c : Jvm.ClassFile.Cond) (x y : Int64) : Prop := match c with
  | .eq => x = y
  | .ne => ¬ x = y
  | .lt => x < y
  | .ge => y ≤ x
  | .gt => y < x
  | .le => x ≤ y
theorem zIl_if (c : Jvm.ClassFile.Cond) (x y : Int64) : zIf c (lg_cmp x y) ↔ zIl c x y := by
  cases c
  · exact lg_cmp_eq x y
  · exact not_congr (lg_cmp_eq x y)
  · exact lg_cmp_lt x y
  · exact lg_cmp_ge x y
  · exact lg_cmp_gt x y
  · exact lg_cmp_le x y
def zFl (own : String) (idx ci k : Nat) : Prop := ∃ (C : String) (T : u_T) (N : Nat), zCl[ci]? = some (C, T, N) ∧ k < N ∧ (∀ w ∈ u_ws C T N, w ∈ zB) ∧ Cond.fieldLink own idx (T k).1 (T k).2.1 (T k).2.2.1 ∈ zB
def zFp (own : String) (idx ci k : Nat) (ty : FieldType) : Prop := ∃ (C : String) (T : u_T) (N : Nat) (ty0 : Nat → FieldType), zCl[ci]? = some (C, T, N) ∧ k < N ∧ (∀ w ∈ u_ws C T N, w ∈ zB) ∧ Cond.fieldLink own idx (T k).1 (T k).2.1 (T k).2.2.1 ∈ zB ∧ (∀ k, k < N → parseFieldDescriptor (T k).2.2.1 = some (ty0 k)) ∧ (∀ a, a < N → ∀ b, b < N → a ≠ b → (T a).2.1 ≠ (T b).2.1) ∧ (T k).2.2.2 = false ∧ parseFieldDescriptor (T k).2.2.1 = some ty
def zCm (N : zM) (n : Nat) : Prop := Cond.initialized N.1.cls ∈ zB ∧ Cond.code N.1 N.2.1 N.2.2.1 N.2.2.2 ∈ zB ∧ (N.1.cls ≠ "java/lang/invoke/MethodHandle" ∧ N.1.cls ≠ "java/lang/invoke/VarHandle" ∧ (parseMethodDescriptor N.1.desc).map (fun d => d.parameters.length) = some n) ∧ N.2.2.1 ≤ 23
def zCv (own : String) (idx : Nat) (N : zM) (n : Nat) : Prop := Cond.methodLink own idx N.1 ∈ zB ∧ Cond.instanceMethod N.1 ∈ zB ∧ Cond.selects N.1.cls N.1 N.1 ∈ zB ∧ zCm N n
def zCs (own : String) (idx : Nat) (N : zM) (n : Nat) : Prop := Cond.methodLink own idx N.1 ∈ zB ∧ Cond.static N.1 ∈ zB ∧ zCm N n
def zCn (N : zM) (n : Nat) : Prop := Cond.static N.1 ∈ zB ∧ zCm N n
theorem zgood {M N : zM} {n : Nat} (h : zCm N n) : GoodIn (zws M) (zws N) := by
  intro w hw
  have h1 : w ∈ zB := by
    rcases List.mem_cons.mp hw with e | e
    · rw [e]; exact h.2.1
    · exact e
  exact ⟨List.mem_cons_of_mem _ h1, good_of_word (zB_good w h1)⟩
theorem zP_blind {E : zE} {av : List Value} {w : zWd} : FrameBlind (zP E av w) := fun a U g mk q => by
  obtain ⟨q0, qP, qK, qN⟩ := q
  exact ⟨q0, qP, va_K.moved (u := U) (U := U.calling g mk a) (Vm.Alike.refl U.vm) qK, va_Nw.same rfl rfl qN⟩
theorem zP_of {E : zE} {av : List Value} {w : zWd} {s U : State} {H : Heap} (hP : va_P E.2.1 zCl (zW E.2.2.1 E.2.2.2 w) H) (hK : zK E s) (hU : U.heap = H) (hW : s.WarmedH U.vm) : zP E av w (av.map (zv E.2.2.1)).toArray U :=
  ⟨rfl, by rw [hU]; exact hP, va_K.moved hW.alike hK.1, va_Nw.warmM hW hK.2⟩
section ZC
variable {p : Program} {e : Env} {s : State} {m : MethodId} {args : Array Value} {below : List Frame} {meth : Method} {c : Code} {H : Heap} {locs : List Loc} {Qf : State → Prop} {E : zE} {d pc : Nat} {ls : Array Slot} {st : List Value} {st0 : List Value} {Q : Option Value → zWd → Prop} {a : Array Value}
theorem zcall_of (hr : va_Run p E.1 e (zRm d) s m args below meth c H locs 0 0 0 0 (F0 m pc ls st0) (st.map (zv E.2.2.1)) (zQ E Q a) (zA E.2.2.1)) (hS : va_S (zA E.2.2.1) s.heap H locs)
    (kk : ∀ (r : Option Value) (w' : zWd) (H1 : Heap) (locs1 : List Loc), Q r w' → va_P E.2.1 zCl (zW E.2.2.1 E.2.2.2 w') H1 → va_S (zA E.2.2.1) s.heap H1 locs1 → W p E.1 e (zRm d) s m args below meth c H1 locs1 0 0 Qf (F0 m (pc + 3) ls ((r.toList ++ st).map (zv E.2.2.1)))) : W p E.1 e (zRm d) s m args below meth c H locs 0 0 Qf (F0 m pc ls st0) := by
  intro T hT X
  obtain ⟨v, st₀, t, T', L, h0, X', hL, e1, e2, ⟨⟨r, w', hv, hp, hb⟩, hz, hk⟩, stp⟩ := hr T hT X
  cases hv
  rw [h0] at hz hk
  obtain ⟨t2, a1, b1⟩ := kk r w' T'.heap (locs ++ L) hp (by rw [e1]; exact hb)
    ⟨Nat.le_trans hS.1 (by rw [e1]; exact hz), fun q h1 h2 => by rw [e1, hk q (Nat.lt_of_lt_of_le h1 hS.1) h2]; exact hS.2.1 q h1 h2, fun q hq => by
      rcases List.mem_append.mp hq with h | h
      · exact hS.2.2 q h
      · exact hL q h⟩ T' rfl X'
  refine ⟨t2, stp t2 ?_, b1⟩
  have e9 : (r.toList ++ st).map (zv E.2.2.1) = (r.map (zv E.2.2.1)).toList ++ st.map (zv E.2.2.1) := by cases r <;> simp
  rw [e9] at a1
  exact a1
end ZC
theorem zsum (ad : Nat → Nat) (st : List Value) : ((st.map (zv ad)).map fun v => v.category).sum = (st.map fun v => v.category).sum := by
  rw [List.map_map]
  congr 1
  apply List.map_congr_left
  intro v _
  exact zv_cat ad v
section ZR2
variable {E : zE} {M : zM} {d : Nat} {Post : Option Value → zWd → Prop} {pc nx : Nat} {L st : List Value} {w : zWd} {T : zTb} {aux : Value}
theorem zV.ldc2 (hT : zTab M T) {idx : Nat} (hl : T.lookup pc = some (.ldc2_w idx, nx, aux)) {v : Int64} (hc : Cond.constantLong M.1.cls idx v ∈ zB) (k : zV E M d Post nx L (.long v :: st) w) : zV E M d Post pc L st w := by
  intro hI p e s m args below meth c H locs ls X hP hS hL
  have K := k hI p e s m args below meth c H locs ls X hP hS hL
  obtain ⟨hx, hb, -, -, -, ho, hw, -⟩ := X
  obtain ⟨h1, h2⟩ := zTab.dec hT hl
  have h2 : nx = pc + 3 := of_decide_eq_true h2
  subst h2
  exact lv_ldc2 hx hb ho (hw _ (List.mem_cons_of_mem _ hc)) h1 K
theorem zV.if2 (hT : zTab M T) {cd : Jvm.ClassFile.Cond} {off : Int} {tgt : Nat} (hl : T.lookup pc = some (.ifCond cd off, nx, .retAddr tgt)) {x : Int32} (kt : zIf cd x → zV E M d Post tgt L st w) (kf : ¬ zIf cd x → zV E M d Post nx L st w) : zV E M d Post pc L (.int x :: st) w := by
  intro hI p e s m args below meth c H locs ls X hP hS hL
  have K1 := fun h => kt h hI p e s m args below meth c H locs ls X hP hS hL
  have K2 := fun h => kf h hI p e s m args below meth c H locs ls X hP hS hL
  obtain ⟨hx, hb, -, -, -, ho, hw, -⟩ := X
  obtain ⟨h1, h2⟩ := zTab.dec hT hl
  simp only [zch2, Bool.and_eq_true, decide_eq_true_eq] at h2
  obtain ⟨rfl, h2⟩ := h2
  cases cd
  · exact lv_if_eq hx hb h1 h2 K1 K2
  · exact lv_if_ne hx hb h1 h2 K1 (fun e9 => K2 (fun h9 => h9 e9))
  · exact lv_if_lt hx hb h1 h2 K1 K2
  · exact lv_if_ge hx hb h1 h2 K1 K2
  · exact lv_if_gt hx hb h1 h2 K1 K2
  · exact lv_if_le hx hb h1 h2 K1 K2
theorem zV.ic2 (hT : zTab M T) {cd : Jvm.ClassFile.Cond} {off : Int} {tgt : Nat} (hl : T.lookup pc = some (.if_icmp cd off, nx, .retAddr tgt)) {x y : Int32} (kt : zIc cd x y → zV E M d Post tgt L st w) (kf : ¬ zIc cd x y → zV E M d Post nx L st w) : zV E M d Post pc L (.int y :: .int x :: st) w := by
  intro hI p e s m args below meth c H locs ls X hP hS hL
  have K1 := fun h => kt h hI p e s m args below meth c H locs ls X hP hS hL
  have K2 := fun h => kf h hI p e s m args below meth c H locs ls X hP hS hL
  obtain ⟨hx, hb, -, -, -, ho, hw, -⟩ := X
  obtain ⟨h1, h2⟩ := zTab.dec hT hl
  simp only [zch2, Bool.and_eq_true, decide_eq_true_eq] at h2
  obtain ⟨rfl, h2⟩ := h2
  cases cd
  · exact lv_icmp_eq hx hb h1 h2 K1 K2
  · exact lv_icmp_ne hx hb h1 h2 K1 (fun e9 => K2 (fun h9 => h9 e9))
  · exact lv_icmp_lt hx hb h1 h2 K1 K2
  · exact lv_icmp_ge hx hb h1 h2 K1 K2
  · exact lv_icmp_gt hx hb h1 h2 K1 K2
  · exact lv_icmp_le hx hb h1 h2 K1 K2
theorem zV.lcmp (hT : zTab M T) (hl : T.lookup pc = some (.lcmp, nx, aux)) {x y : Int64} (k : zV E M d Post nx L (.int (lg_cmp x y) :: st) w) : zV E M d Post pc L (.long y :: .long x :: st) w := by
  intro hI p e s m args below meth c H locs ls X hP hS hL
  have K := k hI p e s m args below meth c H locs ls X hP hS hL
  obtain ⟨hx, hb, -, -, -, ho, hw, -⟩ := X
  obtain ⟨h1, h2⟩ := zTab.dec hT hl
  have h2 : nx = pc + 1 := of_decide_eq_true h2
  subst h2
  exact W.lcmp hx hb h1 K
theorem zV.il2 (hT : zTab M T) (hl0 : T.lookup pc = some (.lcmp, nx, aux)) {cd : Jvm.ClassFile.Cond} {off : Int} {n2 tgt : Nat} (hl : T.lookup nx = some (.ifCond cd off, n2, .retAddr tgt)) {x y : Int64} (kt : zIl cd x y → zV E M d Post tgt L st w) (kf : ¬ zIl cd x y → zV E M d Post n2 L st w) : zV E M d Post pc L (.long y :: .long x :: st) w :=
  zV.lcmp hT hl0 (zV.if2 hT hl (fun h => kt ((zIl_if cd x y).mp h)) (fun h => kf (fun q => h ((zIl_if cd x y).mpr q))))
theorem zV.ift (hT : zTab M T) {cd : Jvm.ClassFile.Cond} {off : Int} {tgt : Nat} (hl : T.lookup pc = some (.ifCond cd off, nx, .retAddr tgt)) {x : Int32} (h : zIf cd x) (k : zV E M d Post tgt L st w) : zV E M d Post pc L (.int x :: st) w := zV.if2 hT hl (fun _ => k) (fun q => absurd h q)
theorem zV.iff (hT : zTab M T) {cd : Jvm.ClassFile.Cond} {off : Int} {tgt : Nat} (hl : T.lookup pc = some (.ifCond cd off, nx, .retAddr tgt)) {x : Int32} (h : ¬ zIf cd x) (k : zV E M d Post nx L st w) : zV E M d Post pc L (.int x :: st) w := zV.if2 hT hl (fun q => absurd q h) (fun _ => k)
theorem zV.ict (hT : zTab M T) {cd : Jvm.ClassFile.Cond} {off : Int} {tgt : Nat} (hl : T.lookup pc = some (.if_icmp cd off, nx, .retAddr tgt)) {x y : Int32} (h : zIc cd x y) (k : zV E M d Post tgt L st w) : zV E M d Post pc L (.int y :: .int x :: st) w := zV.ic2 hT hl (fun _ => k) (fun q => absurd h q)
theorem zV.icf (hT : zTab M T) {cd : Jvm.ClassFile.Cond} {off : Int} {tgt : Nat} (hl : T.lookup pc = some (.if_icmp cd off, nx, .retAddr tgt)) {x y : Int32} (h : ¬ zIc cd x y) (k : zV E M d Post nx L st w) : zV E M d Post pc L (.int y :: .int x :: st) w := zV.ic2 hT hl (fun q => absurd q h) (fun _ => k)
theorem zV.ilt (hT : zTab M T) (hl0 : T.lookup pc = some (.lcmp, nx, aux)) {cd : Jvm.ClassFile.Cond} {off : Int} {n2 tgt : Nat} (hl : T.lookup nx = some (.ifCond cd off, n2, .retAddr tgt)) {x y : Int64} (h : zIl cd x y) (k : zV E M d Post tgt L st w) : zV E M d Post pc L (.long y :: .long x :: st) w := zV.il2 hT hl0 hl (fun _ => k) (fun q => absurd h q)
theorem zV.ilf (hT : zTab M T) (hl0 : T.lookup pc = some (.lcmp, nx, aux)) {cd : Jvm.ClassFile.Cond} {off : Int} {n2 tgt : Nat} (hl : T.lookup nx = some (.ifCond cd off, n2, .retAddr tgt)) {x y : Int64} (h : ¬ zIl cd x y) (k : zV E M d Post n2 L st w) : zV E M d Post pc L (.long y :: .long x :: st) w := zV.il2 hT hl0 hl (fun q => absurd q h) (fun _ => k)
-- divisions
theorem zV.idiv (hT : zTab M T) (hl : T.lookup pc = some (.idiv, nx, aux)) {x y : Int32} (hne : ¬ y = 0) (k : zV E M d Post nx L (.int (x / y) :: st) w) : zV E M d Post pc L (.int y :: .int x :: st) w := by
  intro hI p e s m args below meth c H locs ls X hP hS hL
  have K := k hI p e s m args below meth c H locs ls X hP hS hL
  obtain ⟨hx, hb, -⟩ := X
  obtain ⟨h1, h2⟩ := zTab.dec hT hl
  have h2 : nx = pc + 1 := of_decide_eq_true h2
  subst h2
  exact lv_idiv hx hb h1 hne K
theorem zV.irem (hT : zTab M T) (hl : T.lookup pc = some (.irem, nx, aux)) {x y : Int32} (hne : ¬ y = 0) (k : zV E M d Post nx L (.int (x - x / y * y) :: st) w) : zV E M d Post pc L (.int y :: .int x :: st) w := by
  intro hI p e s m args below meth c H locs ls X hP hS hL
  have K := k hI p e s m args below meth c H locs ls X hP hS hL
  obtain ⟨hx, hb, -⟩ := X
  obtain ⟨h1, h2⟩ := zTab.dec hT hl
  have h2 : nx = pc + 1 := of_decide_eq_true h2
  subst h2
  exact lv_irem hx hb h1 hne K
theorem zV.ldiv (hT : zTab M T) (hl : T.lookup pc = some (.ldiv, nx, aux)) {x y : Int64} (hne : ¬ y = 0) (k : zV E M d Post nx L (.long (x / y) :: st) w) : zV E M d Post pc L (.long y :: .long x :: st) w := by
  intro hI p e s m args below meth c H locs ls X hP hS hL
  have K := k hI p e s m args below meth c H locs ls X hP hS hL
  obtain ⟨hx, hb, -⟩ := X
  obtain ⟨h1, h2⟩ := zTab.dec hT hl
  have h2 : nx = pc + 1 := of_decide_eq_true h2
  subst h2
  exact lv_ldiv hx hb h1 hne K
theorem zV.lrem (hT : zTab M T) (hl : T.lookup pc = some (.lrem, nx, aux)) {x y : Int64} (hne : ¬ y = 0) (k : zV E M d Post nx L (.long (x - x / y * y) :: st) w) : zV E M d Post pc L (.long y :: .long x :: st) w := by
  intro hI p e s m args below meth c H locs ls X hP hS hL
  have K := k hI p e s m args below meth c H locs ls X hP hS hL
  obtain ⟨hx, hb, -⟩ := X
  obtain ⟨h1, h2⟩ := zTab.dec hT hl
  have h2 : nx = pc + 1 := of_decide_eq_true h2
  subst h2
  exact lv_lrem hx hb h1 hne K
-- fields
theorem zV.gf (hT : zTab M T) {idx ci k : Nat} (hl : T.lookup pc = some (.getfield idx, nx, aux)) (hF : zFl M.1.cls idx ci k) {a : Nat} {fs : List Value} {v : Value} (ha : zIs w a (.inr (ci, fs))) (hv : fs[k]? = some v) (kk : zV E M d Post nx L (v :: st) w) : zV E M d Post pc L (.ref a :: st) w := by
  intro hI p e s m args below meth c H locs ls X hP hS hL
  have K := kk hI p e s m args below meth c H locs ls X hP hS hL
  obtain ⟨hx, hb, -, -, -, ho, hw, hK⟩ := X
  obtain ⟨h1, h2⟩ := zTab.dec hT hl
  have h2 : nx = pc + 3 := of_decide_eq_true h2
  subst h2
  obtain ⟨C, TT, N, g1, g2, g3, g4⟩ := hF
  exact va_get (D := E.2.1) (ci := ci) (v := zv E.2.2.1 v) (C := C) (T := TT) (N := N) (fs := fs.map (zv E.2.2.1)) hx hb hw (fun x h => List.mem_cons_of_mem _ (g3 x h)) ho hK.1 hP a (zW_at ha) g1 k g2 (hw _ (List.mem_cons_of_mem _ g4)) (fun _ h9 => h9) (by rw [List.getElem?_map, hv]; rfl) h1 K
theorem zV.pf (hT : zTab M T) {idx ci k : Nat} {ty : FieldType} (hl : T.lookup pc = some (.putfield idx, nx, aux)) (hF : zFp M.1.cls idx ci k ty) {a : Nat} {fs : List Value} {v : Value} (ha : zIs w a (.inr (ci, fs))) (hk : k < fs.length) (hn : narrow ty v = v) (hf : fits ty v = true) (hz : ∀ ad, zv ad v = v) (kk : zV E M d Post nx L st (va_up w a (.inr (ci, fs.set k v)))) : zV E M d Post pc L (v :: .ref a :: st) w := by
  intro hI p e s m args below meth c H locs ls X hP hS hL
  have K := fun H locs hP hS => kk hI p e s m args below meth c H locs ls X hP hS hL
  obtain ⟨hx, hb, -, -, -, ho, hw, hK⟩ := X
  obtain ⟨h1, h2⟩ := zTab.dec hT hl
  have h2 : nx = pc + 3 := of_decide_eq_true h2
  subst h2
  obtain ⟨C, TT, N, ty0, g1, g2, g3, g4, g5, g6, g7, g8⟩ := hF
  show W p E.1 e (zRm d) s m args below meth c H locs 0 0 _ (F0 m pc ls (zv E.2.2.1 v :: .ref (E.2.2.1 a) :: st.map (zv E.2.2.1)))
  rw [hz]
  refine va_put (D := E.2.1) (ci := ci) (v := v) (ty := ty) (C := C) (T := TT) (N := N) (fs := fs.map (zv E.2.2.1)) hx hb hw (fun x h => List.mem_cons_of_mem _ (g3 x h)) ty0 g5 g6 ho hK.1 hP (zD hI) hS a (zW_at ha) g1 k g2 (hw _ (List.mem_cons_of_mem _ g4)) (fun _ h9 => h9) g7 g8 hn hf (by simpa using hk) h1 (fun H1 locs1 hP1 _ hS1 => K H1 locs1 ?_ hS1)
  have e1 : (zW E.2.2.1 E.2.2.2 w).set a (E.2.2.1 a, .inr (ci, (fs.map (zv E.2.2.1)).set k v)) = zW E.2.2.1 E.2.2.2 (va_up w a (.inr (ci, fs.set k v))) := by
    rw [← zW_set _ ha.1]
    simp only [zc, List.map_set, hz]
  rw [← e1]
  exact hP1
theorem zV.pfi (hT : zTab M T) {idx ci k : Nat} (hl : T.lookup pc = some (.putfield idx, nx, aux)) (hF : zFp M.1.cls idx ci k .int) {a : Nat} {fs : List Value} {x : Int32} (ha : zIs w a (.inr (ci, fs))) (hk : k < fs.length) (kk : zV E M d Post nx L st (va_up w a (.inr (ci, fs.set k (.int x))))) : zV E M d Post pc L (.int x :: .ref a :: st) w :=
  zV.pf hT hl hF ha hk rfl rfl (fun _ => rfl) kk
theorem zV.pfl (hT : zTab M T) {idx ci k : Nat} (hl : T.lookup pc = some (.putfield idx, nx, aux)) (hF : zFp M.1.cls idx ci k .long) {a : Nat} {fs : List Value} {x : Int64} (ha : zIs w a (.inr (ci, fs))) (hk : k < fs.length) (kk : zV E M d Post nx L st (va_up w a (.inr (ci, fs.set k (.long x))))) : zV E M d Post pc L (.long x :: .ref a :: st) w :=
  zV.pf hT hl hF ha hk rfl rfl (fun _ => rfl) kk
theorem zV.pfz (hT : zTab M T) {idx ci k : Nat} (hl : T.lookup pc = some (.putfield idx, nx, aux)) (hF : zFp M.1.cls idx ci k .boolean) {a : Nat} {fs : List Value} {x : Int32} (hx : x = 0 ∨ x = 1) (ha : zIs w a (.inr (ci, fs))) (hk : k < fs.length) (kk : zV E M d Post nx L st (va_up w a (.inr (ci, fs.set k (.int x))))) : zV E M d Post pc L (.int x :: .ref a :: st) w := by
  rcases hx with rfl | rfl
  · exact zV.pf hT hl hF ha hk (by decide +kernel) (by decide +kernel) (fun _ => rfl) kk
  · exact zV.pf hT hl hF ha hk (by decide +kernel) (by decide +kernel) (fun _ => rfl) kk
-- arrays
theorem zV.ial (hT : zTab M T) (hl : T.lookup pc = some (.iaload, nx, aux)) {a n : Nat} {f : Nat → Int32} {i : Int32} (ha : zIs w a (zIA n f)) (j : Nat) (hi : i = nI j) (hj : j < n) (hn : n < 2 ^ 31) (kk : zV E M d Post nx L (.int (f j) :: st) w) : zV E M d Post pc L (.int i :: .ref a :: st) w := by
  intro hI p e s m args below meth c H locs ls X hP hS hL
  have K := kk hI p e s m args below meth c H locs ls X hP hS hL
  obtain ⟨hx, hb, -, -, -, ho, hw, hK⟩ := X
  obtain ⟨h1, h2⟩ := zTab.dec hT hl
  have h2 : nx = pc + 1 := of_decide_eq_true h2
  subst h2
  subst hi
  refine va_iald (cA := E.2.2.2 0) (n := n) (f := f) hx hb hK.1 hP a 0 (zW_at ha) rfl (vp_in_nI hj hn) h1 ?_
  rw [nI_clamp (Nat.lt_trans hj hn)]
  exact K
theorem zV.lal (hT : zTab M T) (hl : T.lookup pc = some (.laload, nx, aux)) {a n : Nat} {f : Nat → Int64} {i : Int32} (ha : zIs w a (zLA n f)) (j : Nat) (hi : i = nI j) (hj : j < n) (hn : n < 2 ^ 31) (kk : zV E M d Post nx L (.long (f j) :: st) w) : zV E M d Post pc L (.int i :: .ref a :: st) w := by
  intro hI p e s m args below meth c H locs ls X hP hS hL
  have K := kk hI p e s m args below meth c H locs ls X hP hS hL
  obtain ⟨hx, hb, -, -, -, ho, hw, hK⟩ := X
  obtain ⟨h1, h2⟩ := zTab.dec hT hl
  have h2 : nx = pc + 1 := of_decide_eq_true h2
  subst h2
  subst hi
  refine va_lald (cA := E.2.2.2 1) (n := n) (f := f) hx hb hK.1 hP a 1 (zW_at ha) rfl (vp_in_nI hj hn) h1 ?_
  rw [nI_clamp (Nat.lt_trans hj hn)]
  exact K
theorem zV.zal (hT : zTab M T) (hl : T.lookup pc = some (.baload, nx, aux)) {a n : Nat} {f : Nat → Int32} {i : Int32} (ha : zIs w a (zZA n f)) (j : Nat) (hi : i = nI j) (hj : j < n) (hn : n < 2 ^ 31) (kk : zV E M d Post nx L (.int (f j) :: st) w) : zV E M d Post pc L (.int i :: .ref a :: st) w := by
  intro hI p e s m args below meth c H locs ls X hP hS hL
  have K := kk hI p e s m args below meth c H locs ls X hP hS hL
  obtain ⟨hx, hb, -, -, -, ho, hw, hK⟩ := X
  obtain ⟨h1, h2⟩ := zTab.dec hT hl
  have h2 : nx = pc + 1 := of_decide_eq_true h2
  subst h2
  subst hi
  refine va_zald (cA := E.2.2.2 2) (n := n) (f := f) hx hb hK.1 hP a 2 (zW_at ha) rfl (vp_in_nI hj hn) h1 ?_
  rw [nI_clamp (Nat.lt_trans hj hn)]
  exact K
theorem zV.aalF (hT : zTab M T) (hl : T.lookup pc = some (.aaload, nx, aux)) {a n : Nat} {f : Nat → Option Nat} {i : Int32} (ha : zIs w a (zRA 3 n f)) (j : Nat) (hi : i = nI j) (hj : j < n) (hn : n < 2 ^ 31) {b : Nat} (hb : f j = some b) (kk : zV E M d Post nx L (.ref b :: st) w) : zV E M d Post pc L (.int i :: .ref a :: st) w := by
  intro hI p e s m args below meth c H locs ls X hP hS hL
  have K := kk hI p e s m args below meth c H locs ls X hP hS hL
  obtain ⟨hx, hbb, -, -, -, ho, hw, hK⟩ := X
  obtain ⟨h1, h2⟩ := zTab.dec hT hl
  have h2 : nx = pc + 1 := of_decide_eq_true h2
  subst h2
  subst hi
  refine va_aldq (cA := E.2.2.2 3) (C := "SpanMaps$Fold") (n := n) (f := fun j => (f j).map E.2.2.1) hx hbb hK.1 hP a 3 (zW_at ha) rfl (vp_in_nI hj hn) h1 ?_
  rw [nI_clamp (Nat.lt_trans hj hn)]
  simp only [hb, Option.map_some, va_rf]
  exact K
theorem zV.aalL (hT : zTab M T) (hl : T.lookup pc = some (.aaload, nx, aux)) {a n : Nat} {f : Nat → Option Nat} {i : Int32} (ha : zIs w a (zRA 4 n f)) (j : Nat) (hi : i = nI j) (hj : j < n) (hn : n < 2 ^ 31) {b : Nat} (hb : f j = some b) (kk : zV E M d Post nx L (.ref b :: st) w) : zV E M d Post pc L (.int i :: .ref a :: st) w := by
  intro hI p e s m args below meth c H locs ls X hP hS hL
  have K := kk hI p e s m args below meth c H locs ls X hP hS hL
  obtain ⟨hx, hbb, -, -, -, ho, hw, hK⟩ := X
  obtain ⟨h1, h2⟩ := zTab.dec hT hl
  have h2 : nx = pc + 1 := of_decide_eq_true h2
  subst h2
  subst hi
  have hin := vp_in_nI hj hn
  have hc := nI_clamp (Nat.lt_trans hj hn)
  have ha2 : (zW E.2.2.1 E.2.2.2 w)[a]? = some (E.2.2.1 a, .inl (E.2.2.2 4, n, .inr (.inr (.inr (.inr (fun j => (f j).map E.2.2.1)))))) := zW_at ha
  exact W.aald (v := .ref (E.2.2.1 b)) (ty := .array .long) hx hbb (hP a _ ha2) ((hK.1.2 4 (E.2.2.2 4, .array .long) rfl).1 n (fun j => va_rf ((f j).map E.2.2.1))) rfl (fun q => by cases q) (by show ¬ (nI j < 0 ∨ (arrV _ _ _).slots.size ≤ _); rw [arrV_size]; exact hin) (by show (arrV _ _ _).slots[_]? = _; rw [hc, arrV_read _ _ hj]; simp [hb, va_rf]) rfl rfl h1 K
theorem zV.ias (hT : zTab M T) (hl : T.lookup pc = some (.iastore, nx, aux)) {a n : Nat} {f : Nat → Int32} {i x : Int32} (ha : zIs w a (zIA n f)) (j : Nat) (hi : i = nI j) (hj : j < n) (hn : n < 2 ^ 31) (kk : zV E M d Post nx L st (va_up w a (zIA n (upd f j x)))) : zV E M d Post pc L (.int x :: .int i :: .ref a :: st) w := by
  intro hI p e s m args below meth c H locs ls X hP hS hL
  have K := fun H locs hP hS => kk hI p e s m args below meth c H locs ls X hP hS hL
  obtain ⟨hx, hb, -, -, -, ho, hw, hK⟩ := X
  obtain ⟨h1, h2⟩ := zTab.dec hT hl
  have h2 : nx = pc + 1 := of_decide_eq_true h2
  subst h2
  subst hi
  refine va_iast (cA := E.2.2.2 0) (n := n) (f := f) hx hb hK.1 hP (zD hI) hS a 0 (zW_at ha) rfl (vp_in_nI hj hn) h1 (fun H1 locs1 hP1 _ hS1 => K H1 locs1 ?_ hS1)
  rw [nI_clamp (Nat.lt_trans hj hn)] at hP1
  rw [← zW_set _ ha.1]
  exact hP1
theorem zV.las (hT : zTab M T) (hl : T.lookup pc = some (.lastore, nx, aux)) {a n : Nat} {f : Nat → Int64} {i : Int32} {x : Int64} (ha : zIs w a (zLA n f)) (j : Nat) (hi : i = nI j) (hj : j < n) (hn : n < 2 ^ 31) (kk : zV E M d Post nx L st (va_up w a (zLA n (vp_updL f j x)))) : zV E M d Post pc L (.long x :: .int i :: .ref a :: st) w := by
  intro hI p e s m args below meth c H locs ls X hP hS hL
  have K := fun H locs hP hS => kk hI p e s m args below meth c H locs ls X hP hS hL
  obtain ⟨hx, hb, -, -, -, ho, hw, hK⟩ := X
  obtain ⟨h1, h2⟩ := zTab.dec hT hl
  have h2 : nx = pc + 1 := of_decide_eq_true h2
  subst h2
  subst hi
  refine va_last (cA := E.2.2.2 1) (n := n) (f := f) hx hb hK.1 hP (zD hI) hS a 1 (zW_at ha) rfl (vp_in_nI hj hn) h1 (fun H1 locs1 hP1 _ hS1 => K H1 locs1 ?_ hS1)
  rw [nI_clamp (Nat.lt_trans hj hn)] at hP1
  rw [← zW_set _ ha.1]
  exact hP1
theorem zV.zas (hT : zTab M T) (hl : T.lookup pc = some (.bastore, nx, aux)) {a n : Nat} {f : Nat → Int32} {i x : Int32} (hx01 : x = 0 ∨ x = 1) (ha : zIs w a (zZA n f)) (j : Nat) (hi : i = nI j) (hj : j < n) (hn : n < 2 ^ 31) (kk : zV E M d Post nx L st (va_up w a (zZA n (upd f j x)))) : zV E M d Post pc L (.int x :: .int i :: .ref a :: st) w := by
  intro hI p e s m args below meth c H locs ls X hP hS hL
  have K := fun H locs hP hS => kk hI p e s m args below meth c H locs ls X hP hS hL
  obtain ⟨hx, hb, -, -, -, ho, hw, hK⟩ := X
  obtain ⟨h1, h2⟩ := zTab.dec hT hl
  have h2 : nx = pc + 1 := of_decide_eq_true h2
  subst h2
  subst hi
  refine va_zast (cA := E.2.2.2 2) (n := n) (f := f) hx hb hK.1 hP (zD hI) hS a 2 (zW_at ha) rfl (vp_in_nI hj hn) h1 (fun H1 locs1 hP1 _ hS1 => K H1 locs1 ?_ hS1)
  have e1 : vp_nar .boolean x = x := by
    rcases hx01 with rfl | rfl <;> decide +kernel
  rw [nI_clamp (Nat.lt_trans hj hn), e1] at hP1
  rw [← zW_set _ ha.1]
  exact hP1
-- ends
theorem zV.iret (hT : zTab M T) (hl : T.lookup pc = some (.ireturn, nx, aux)) (hr : M.2.2.2 = some .int) {x : Int32} (hp : Post (some (.int x)) w) : zV E M d Post pc L [.int x] w := by
  intro hI p e s m args below meth c H locs ls X hP hS hL
  obtain ⟨hx, hb, -, hret, hlk, ho, hw, hK⟩ := X
  obtain ⟨h1, h2⟩ := zTab.dec hT hl
  exact W.iret (v := x) hx hb (hret.trans hr) (fun t ht hW => ⟨⟨some (.int x), w, rfl, hp, by rw [ht]; exact hP⟩, hS.F ht⟩) hS.2.2 h1 hlk
theorem zV.zret (hT : zTab M T) (hl : T.lookup pc = some (.ireturn, nx, aux)) (hr : M.2.2.2 = some .boolean) {x : Int32} (hx01 : x = 0 ∨ x = 1) (hp : Post (some (.int x)) w) : zV E M d Post pc L [.int x] w := by
  intro hI p e s m args below meth c H locs ls X hP hS hL
  obtain ⟨hx, hb, -, hret, hlk, ho, hw, hK⟩ := X
  obtain ⟨h1, h2⟩ := zTab.dec hT hl
  exact W.zret (v := x) hx hb (hret.trans hr) (by rcases hx01 with rfl | rfl <;> decide +kernel) (fun t ht hW => ⟨⟨some (.int x), w, rfl, hp, by rw [ht]; exact hP⟩, hS.F ht⟩) hS.2.2 h1 hlk
theorem zV.lret (hT : zTab M T) (hl : T.lookup pc = some (.lreturn, nx, aux)) (hr : M.2.2.2 = some .long) {x : Int64} (hp : Post (some (.long x)) w) : zV E M d Post pc L [.long x] w := by
  intro hI p e s m args below meth c H locs ls X hP hS hL
  obtain ⟨hx, hb, -, hret, hlk, ho, hw, hK⟩ := X
  obtain ⟨h1, h2⟩ := zTab.dec hT hl
  exact W.lret (v := x) hx hb (hret.trans hr) (fun t ht hW => ⟨⟨some (.long x), w, rfl, hp, by rw [ht]; exact hP⟩, hS.F ht⟩) hS.2.2 h1 hlk
theorem zV.vret (hT : zTab M T) (hl : T.lookup pc = some (.return_, nx, aux)) (hr : M.2.2.2 = none) (hp : Post none w) : zV E M d Post pc L [] w := by
  intro hI p e s m args below meth c H locs ls X hP hS hL
  obtain ⟨hx, hb, -, hret, hlk, ho, hw, hK⟩ := X
  obtain ⟨h1, h2⟩ := zTab.dec hT hl
  exact W.vret hx hb (hret.trans hr) (fun t ht hW => ⟨⟨none, w, rfl, hp, by rw [ht]; exact hP⟩, hS.F ht⟩) hS.2.2 h1 hlk
-- calls
theorem zV.cv (hT : zTab M T) {idx n d' : Nat} {N : zM} (hl : T.lookup pc = some (.invokevirtual idx, nx, aux)) (hC : zCv M.1.cls idx N n) {a : Nat} {As stk : List Value} {Q : Option Value → zWd → Prop} (hok : zOk E N d' (.ref a :: As) w Q) (hd : d' < d) (hn : As.length = n) {ci : Nat} {fs : List Value} {q : vw_C} (ha : zIs w a (.inr (ci, fs))) (hc : zCl[ci]? = some q) (hq : q.1 = N.1.cls) (hs : stk = As.reverse ++ .ref a :: st) (hw8 : (st.map fun v => v.category).sum ≤ 8) (kk : ∀ r w', Q r w' → zV E M d Post nx L (r.toList ++ st) w') : zV E M d Post pc L stk w := by
  intro hI p e s m args below meth c H locs ls X hP hS hL
  have K := fun r w' H locs hQ hP hS => kk r w' hQ hI p e s m args below meth c H locs ls X hP hS hL
  have hM := hok hI
  obtain ⟨hx, hb, hml, hret, hlk, ho, hw, hK⟩ := X
  obtain ⟨h1, h2⟩ := zTab.dec hT hl
  have h2 : nx = pc + 3 := of_decide_eq_true h2
  subst h2
  subst hs
  obtain ⟨c1, c2, c3, c4, c5, c6, c7⟩ := hC
  have inB : ∀ x, x ∈ zB → x.before args s = true := fun x h => hw _ (List.mem_cons_of_mem _ h)
  have hroom : (zRm d').frames + 1 ≤ (zRm d).frames ∧ 8 + (N.2.2.1 + 11) + (zRm d').locals ≤ (zRm d).locals := ⟨hd, by show 8 + (N.2.2.1 + 11) + 42 * d' ≤ 42 * d; omega⟩
  refine zcall_of (Q := Q) (st := st) (va_runV (C := N.1.cls) (As := As.map (zv E.2.2.1)) (b := E.2.2.1 a) (n := n) (rest := st.map (zv E.2.2.1)) (Ts := zws M) ⟨hx, hb, hml, ho, hw⟩ hM ⟨callB_of n hw (zgood ⟨c4, c5, c6, c7⟩) rfl rfl rfl (inB _ c4) (inB _ c1) c6 hroom, inB _ c2, inB _ c3⟩ ⟨zP_blind, by rw [← hq]; exact va_recv hK.1 hP hc (zW_at ha), fun U hU hW => zP_of (av := .ref a :: As) hP hK hU hW⟩ rfl (by rw [List.length_map]; exact hn) hL.2.1 (by simp [List.map_append, List.map_reverse, zv]) (lv_room (by rw [zsum]; exact hw8)) h1 ⟨Nat.le_refl _, Nat.le_refl _⟩) hS K
theorem zV.cs (hT : zTab M T) {idx n d' : Nat} {N : zM} (hl : T.lookup pc = some (.invokestatic idx, nx, aux)) (hC : zCs M.1.cls idx N n) {As stk : List Value} {Q : Option Value → zWd → Prop} (hok : zOk E N d' As w Q) (hd : d' < d) (hn : As.length = n) (hs : stk = As.reverse ++ st) (hw8 : (st.map fun v => v.category).sum ≤ 8) (kk : ∀ r w', Q r w' → zV E M d Post nx L (r.toList ++ st) w') : zV E M d Post pc L stk w := by
  intro hI p e s m args below meth c H locs ls X hP hS hL
  have K := fun r w' H locs hQ hP hS => kk r w' hQ hI p e s m args below meth c H locs ls X hP hS hL
  have hM := hok hI
  obtain ⟨hx, hb, hml, hret, hlk, ho, hw, hK⟩ := X
  obtain ⟨h1, h2⟩ := zTab.dec hT hl
  have h2 : nx = pc + 3 := of_decide_eq_true h2
  subst h2
  subst hs
  obtain ⟨c1, c2, c4, c5, c6, c7⟩ := hC
  have inB : ∀ x, x ∈ zB → x.before args s = true := fun x h => hw _ (List.mem_cons_of_mem _ h)
  have hroom : (zRm d').frames + 1 ≤ (zRm d).frames ∧ 8 + (N.2.2.1 + 11) + (zRm d').locals ≤ (zRm d).locals := ⟨hd, by show 8 + (N.2.2.1 + 11) + 42 * d' ≤ 42 * d; omega⟩
  refine zcall_of (Q := Q) (st := st) (va_runS (As := As.map (zv E.2.2.1)) (n := n) (rest := st.map (zv E.2.2.1)) (Ts := zws M) ⟨hx, hb, hml, ho, hw⟩ hM ⟨callB_of n hw (zgood ⟨c4, c5, c6, c7⟩) rfl rfl rfl (inB _ c4) (inB _ c1) c6 hroom, inB _ c2⟩ ⟨zP_blind, fun U hU hW => zP_of (av := As) hP hK hU hW⟩ rfl (by rw [List.length_map]; exact hn) hL.2.1 (by simp [List.map_append, List.map_reverse]) (lv_room (by rw [zsum]; exact hw8)) h1 ⟨Nat.le_refl _, Nat.le_refl _⟩) hS K
theorem zV.cn (hT : zTab M T) {idx n d' : Nat} {N : zM} (hl : T.lookup pc = some (.invokestatic idx, nx, aux)) (hC : zCn N n) (hnm : zNm = .methodLinkNest M.1.cls idx N.1 "SpanMaps") {As stk : List Value} {Q : Option Value → zWd → Prop} (hok : zOk E N d' As w Q) (hd : d' < d) (hn : As.length = n) (hs : stk = As.reverse ++ st) (hw8 : (st.map fun v => v.category).sum ≤ 8) (kk : ∀ r w', Q r w' → zV E M d Post nx L (r.toList ++ st) w') : zV E M d Post pc L stk w := by
  intro hI p e s m args below meth c H locs ls X hP hS hL
  have K := fun r w' H locs hQ hP hS => kk r w' hQ hI p e s m args below meth c H locs ls X hP hS hL
  have hM := hok hI
  obtain ⟨hx, hb, hml, hret, hlk, ho, hw, hK⟩ := X
  obtain ⟨h1, h2⟩ := zTab.dec hT hl
  have h2 : nx = pc + 3 := of_decide_eq_true h2
  subst h2
  subst hs
  obtain ⟨c2, c4, c5, c6, c7⟩ := hC
  have inB : ∀ x, x ∈ zB → x.before args s = true := fun x h => hw _ (List.mem_cons_of_mem _ h)
  have hroom : (zRm d').frames + 1 ≤ (zRm d).frames ∧ 8 + (N.2.2.1 + 11) + (zRm d').locals ≤ (zRm d).locals := ⟨hd, by show 8 + (N.2.2.1 + 11) + 42 * d' ≤ 42 * d; omega⟩
  have hnw : va_Nw (.methodLinkNest M.1.cls idx N.1 "SpanMaps") s := by rw [← hnm]; exact hK.2
  refine zcall_of (Q := Q) (st := st) (va_runSN (As := As.map (zv E.2.2.1)) (n := n) (rest := st.map (zv E.2.2.1)) (Ts := zws M) ⟨hx, hb, hml, ho, hw⟩ hM ⟨va_cnB n hw (zgood ⟨c4, c5, c6, c7⟩) rfl rfl rfl hnw (inB _ c4) c6 hroom, inB _ c2, trivial⟩ ⟨zP_blind, fun U hU hW => zP_of (av := As) hP hK hU hW⟩ rfl (by rw [List.length_map]; exact hn) hL.2.1 (by simp [List.map_append, List.map_reverse]) (lv_room (by rw [zsum]; exact hw8)) h1 ⟨Nat.le_refl _, Nat.le_refl _⟩) hS K
end ZR2
end
section
abbrev cX0_init : ByteArray := prog_2_method_1_code
def yX0_init : MethodName := ⟨RX0, "<init>", "()V"⟩
abbrev mX0_init : zM := (yX0_init, cX0_init, 1, none)
abbrev cX0_flatten : ByteArray := prog_2_method_2_code
def yX0_flatten : MethodName := ⟨RX0, "flatten", "(I)V"⟩
abbrev mX0_flatten : zM := (yX0_flatten, cX0_flatten, 3, none)
abbrev cX0_become : ByteArray := prog_2_method_3_code
def yX0_become : MethodName := ⟨RX0, "become", "(LSpanMaps$Fold;)V"⟩
abbrev mX0_become : zM := (yX0_become, cX0_become, 3, none)
abbrev cX0_becomeTurned : ByteArray := prog_2_method_4_code
def yX0_becomeTurned : MethodName := ⟨RX0, "becomeTurned", "(LSpanMaps$Fold;)V"⟩
abbrev mX0_becomeTurned : zM := (yX0_becomeTurned, cX0_becomeTurned, 7, none)
abbrev cX0_hasCorner : ByteArray := prog_2_method_5_code
def yX0_hasCorner : MethodName := ⟨RX0, "hasCorner", "(I)Z"⟩
abbrev mX0_hasCorner : zM := (yX0_hasCorner, cX0_hasCorner, 2, some .boolean)
abbrev cX0_hasSpan : ByteArray := prog_2_method_6_code
def yX0_hasSpan : MethodName := ⟨RX0, "hasSpan", "(I)Z"⟩
abbrev mX0_hasSpan : zM := (yX0_hasSpan, cX0_hasSpan, 2, some .boolean)
abbrev cX0_hasPoint : ByteArray := prog_2_method_7_code
def yX0_hasPoint : MethodName := ⟨RX0, "hasPoint", "(JJ)Z"⟩
abbrev mX0_hasPoint : zM := (yX0_hasPoint, cX0_hasPoint, 5, some .boolean)
abbrev cX0_slopeOf : ByteArray := prog_2_method_8_code
def yX0_slopeOf : MethodName := ⟨RX0, "slopeOf", "(I)I"⟩
abbrev mX0_slopeOf : zM := (yX0_slopeOf, cX0_slopeOf, 2, some .int)
abbrev cX0_spanOf : ByteArray := prog_2_method_9_code
def yX0_spanOf : MethodName := ⟨RX0, "spanOf", "(JJ)I"⟩
abbrev mX0_spanOf : zM := (yX0_spanOf, cX0_spanOf, 5, some .int)
abbrev cX0_step : ByteArray := prog_2_method_10_code
def yX0_step : MethodName := ⟨RX0, "step", "(JJ)J"⟩
abbrev mX0_step : zM := (yX0_step, cX0_step, 6, some .long)
abbrev cX0_follow : ByteArray := prog_2_method_11_code
def yX0_follow : MethodName := ⟨RX0, "follow", "(JJI)J"⟩
abbrev mX0_follow : zM := (yX0_follow, cX0_follow, 9, some .long)
abbrev cX0_twistedOrder : ByteArray := prog_2_method_12_code
def yX0_twistedOrder : MethodName := ⟨RX0, "twistedOrder", "(JJJJI)I"⟩
abbrev mX0_twistedOrder : zM := (yX0_twistedOrder, cX0_twistedOrder, 19, some .int)
abbrev cX0_leadsOver : ByteArray := prog_2_method_13_code
def yX0_leadsOver : MethodName := ⟨RX0, "leadsOver", "(II)Z"⟩
abbrev mX0_leadsOver : zM := (yX0_leadsOver, cX0_leadsOver, 3, some .boolean)
abbrev cX0_allSpans : ByteArray := prog_2_method_14_code
def yX0_allSpans : MethodName := ⟨RX0, "allSpans", "()I"⟩
abbrev mX0_allSpans : zM := (yX0_allSpans, cX0_allSpans, 1, some .int)
abbrev cX0_spansAfter : ByteArray := prog_2_method_15_code
def yX0_spansAfter : MethodName := ⟨RX0, "spansAfter", "(I)I"⟩
abbrev mX0_spansAfter : zM := (yX0_spansAfter, cX0_spansAfter, 4, some .int)
abbrev cX0_wayLeads : ByteArray := prog_2_method_16_code
def yX0_wayLeads : MethodName := ⟨RX0, "wayLeads", "(II)Z"⟩
abbrev mX0_wayLeads : zM := (yX0_wayLeads, cX0_wayLeads, 5, some .boolean)
abbrev cX0_leastOfPart : ByteArray := prog_2_method_17_code
def yX0_leastOfPart : MethodName := ⟨RX0, "leastOfPart", "(I)I"⟩
abbrev mX0_leastOfPart : zM := (yX0_leastOfPart, cX0_leastOfPart, 3, some .int)
abbrev cX0_stepsToMix : ByteArray := prog_2_method_18_code
def yX0_stepsToMix : MethodName := ⟨RX0, "stepsToMix", "()I"⟩
abbrev mX0_stepsToMix : zM := (yX0_stepsToMix, cX0_stepsToMix, 4, some .int)
abbrev cX0_stepsToAll : ByteArray := prog_2_method_19_code
def yX0_stepsToAll : MethodName := ⟨RX0, "stepsToAll", "(I)I"⟩
abbrev mX0_stepsToAll : zM := (yX0_stepsToAll, cX0_stepsToAll, 4, some .int)
abbrev cX0_cornerAfter : ByteArray := prog_2_method_20_code
def yX0_cornerAfter : MethodName := ⟨RX0, "cornerAfter", "(II)I"⟩
abbrev mX0_cornerAfter : zM := (yX0_cornerAfter, cX0_cornerAfter, 5, some .int)
abbrev cX0_stepsOfRound : ByteArray := prog_2_method_21_code
def yX0_stepsOfRound : MethodName := ⟨RX0, "stepsOfRound", "(I)I"⟩
abbrev mX0_stepsOfRound : zM := (yX0_stepsOfRound, cX0_stepsOfRound, 4, some .int)
abbrev cX0_stepsAheadOfRound : ByteArray := prog_2_method_22_code
def yX0_stepsAheadOfRound : MethodName := ⟨RX0, "stepsAheadOfRound", "(I)I"⟩
abbrev mX0_stepsAheadOfRound : zM := (yX0_stepsAheadOfRound, cX0_stepsAheadOfRound, 4, some .int)
abbrev cX0_findTop : ByteArray := prog_2_method_23_code
def yX0_findTop : MethodName := ⟨RX0, "findTop", "()I"⟩
abbrev mX0_findTop : zM := (yX0_findTop, cX0_findTop, 3, some .int)
abbrev cX0_nextEdge : ByteArray := prog_2_method_24_code
def yX0_nextEdge : MethodName := ⟨RX0, "nextEdge", "(I)I"⟩
abbrev mX0_nextEdge : zM := (yX0_nextEdge, cX0_nextEdge, 6, some .int)
abbrev cX1_init : ByteArray := prog_3_method_1_code
def yX1_init : MethodName := ⟨RX1, "<init>", "()V"⟩
abbrev mX1_init : zM := (yX1_init, cX1_init, 1, none)
abbrev cX1_raise : ByteArray := prog_3_method_2_code
def yX1_raise : MethodName := ⟨RX1, "raise", "(LSpanMaps$Fold;I)V"⟩
abbrev mX1_raise : zM := (yX1_raise, cX1_raise, 5, none)
abbrev cX1_multiply : ByteArray := prog_3_method_3_code
def yX1_multiply : MethodName := ⟨RX1, "multiply", "(LSpanMaps$Fold;I)V"⟩
abbrev mX1_multiply : zM := (yX1_multiply, cX1_multiply, 8, none)
abbrev cX1_between : ByteArray := prog_3_method_4_code
def yX1_between : MethodName := ⟨RX1, "between", "(III)J"⟩
abbrev mX1_between : zM := (yX1_between, cX1_between, 4, some .long)
abbrev cX1_sum : ByteArray := prog_3_method_5_code
def yX1_sum : MethodName := ⟨RX1, "sum", "(I)J"⟩
abbrev mX1_sum : zM := (yX1_sum, cX1_sum, 6, some .long)
abbrev cX1_closed : ByteArray := prog_3_method_6_code
def yX1_closed : MethodName := ⟨RX1, "closed", "(I)J"⟩
abbrev mX1_closed : zM := (yX1_closed, cX1_closed, 5, some .long)
abbrev cX2_init : ByteArray := prog_4_method_1_code
def yX2_init : MethodName := ⟨RX2, "<init>", "()V"⟩
abbrev mX2_init : zM := (yX2_init, cX2_init, 1, none)
abbrev cX2_study : ByteArray := prog_4_method_2_code
def yX2_study : MethodName := ⟨RX2, "study", "(LSpanMaps$Fold;)V"⟩
abbrev mX2_study : zM := (yX2_study, cX2_study, 4, none)
abbrev cX2_studyEdge : ByteArray := prog_4_method_3_code
def yX2_studyEdge : MethodName := ⟨RX2, "studyEdge", "(LSpanMaps$Fold;I)V"⟩
abbrev mX2_studyEdge : zM := (yX2_studyEdge, cX2_studyEdge, 7, none)
abbrev cX2_isEndless : ByteArray := prog_4_method_4_code
def yX2_isEndless : MethodName := ⟨RX2, "isEndless", "(I)Z"⟩
abbrev mX2_isEndless : zM := (yX2_isEndless, cX2_isEndless, 3, some .boolean)
abbrev cX2_countNew : ByteArray := prog_4_method_5_code
def yX2_countNew : MethodName := ⟨RX2, "countNew", "(I)J"⟩
abbrev mX2_countNew : zM := (yX2_countNew, cX2_countNew, 5, some .long)
abbrev cX2_countAll : ByteArray := prog_4_method_6_code
def yX2_countAll : MethodName := ⟨RX2, "countAll", "(I)J"⟩
abbrev mX2_countAll : zM := (yX2_countAll, cX2_countAll, 5, some .long)
abbrev cX2_hasNew : ByteArray := prog_4_method_7_code
def yX2_hasNew : MethodName := ⟨RX2, "hasNew", "(I)Z"⟩
abbrev mX2_hasNew : zM := (yX2_hasNew, cX2_hasNew, 3, some .boolean)
abbrev cX2_find : ByteArray := prog_4_method_8_code
def yX2_find : MethodName := ⟨RX2, "find", "(LSpanMaps$Fold;II)Z"⟩
abbrev mX2_find : zM := (yX2_find, cX2_find, 5, some .boolean)
abbrev cX2_isInside : ByteArray := prog_4_method_9_code
def yX2_isInside : MethodName := ⟨RX2, "isInside", "(II)Z"⟩
abbrev mX2_isInside : zM := (yX2_isInside, cX2_isInside, 9, some .boolean)
abbrev cX2_walk : ByteArray := prog_4_method_10_code
def yX2_walk : MethodName := ⟨RX2, "walk", "(LSpanMaps$Fold;II)Z"⟩
abbrev mX2_walk : zM := (yX2_walk, cX2_walk, 11, some .boolean)
abbrev cX2_nextSpan : ByteArray := prog_4_method_11_code
def yX2_nextSpan : MethodName := ⟨RX2, "nextSpan", "(LSpanMaps$Fold;IIIZ)I"⟩
abbrev mX2_nextSpan : zM := (yX2_nextSpan, cX2_nextSpan, 10, some .int)
abbrev cX2_settle : ByteArray := prog_4_method_12_code
def yX2_settle : MethodName := ⟨RX2, "settle", "(JJ)Z"⟩
abbrev mX2_settle : zM := (yX2_settle, cX2_settle, 5, some .boolean)
abbrev cX3_init : ByteArray := prog_1_method_1_code
def yX3_init : MethodName := ⟨RX3, "<init>", "()V"⟩
abbrev mX3_init : zM := (yX3_init, cX3_init, 2, none)
abbrev cX3_map : ByteArray := prog_1_method_2_code
def yX3_map : MethodName := ⟨RX3, "map", "(II)I"⟩
abbrev mX3_map : zM := (yX3_map, cX3_map, 3, some .int)
abbrev cX3_corner : ByteArray := prog_1_method_3_code
def yX3_corner : MethodName := ⟨RX3, "corner", "(III)I"⟩
abbrev mX3_corner : zM := (yX3_corner, cX3_corner, 5, some .int)
abbrev cX3_cornerAt : ByteArray := prog_1_method_4_code
def yX3_cornerAt : MethodName := ⟨RX3, "cornerAt", "(II)I"⟩
abbrev mX3_cornerAt : zM := (yX3_cornerAt, cX3_cornerAt, 3, some .int)
abbrev cX3_copy : ByteArray := prog_1_method_5_code
def yX3_copy : MethodName := ⟨RX3, "copy", "(II)I"⟩
abbrev mX3_copy : zM := (yX3_copy, cX3_copy, 3, some .int)
abbrev cX3_turn : ByteArray := prog_1_method_6_code
def yX3_turn : MethodName := ⟨RX3, "turn", "(II)I"⟩
abbrev mX3_turn : zM := (yX3_turn, cX3_turn, 3, some .int)
abbrev cX3_slope : ByteArray := prog_1_method_7_code
def yX3_slope : MethodName := ⟨RX3, "slope", "(II)I"⟩
abbrev mX3_slope : zM := (yX3_slope, cX3_slope, 3, some .int)
abbrev cX3_far : ByteArray := prog_1_method_8_code
def yX3_far : MethodName := ⟨RX3, "far", "(IJJII)J"⟩
abbrev mX3_far : zM := (yX3_far, cX3_far, 8, some .long)
abbrev cX3_word : ByteArray := prog_1_method_9_code
def yX3_word : MethodName := ⟨RX3, "word", "(IJJI)I"⟩
abbrev mX3_word : zM := (yX3_word, cX3_word, 7, some .int)
abbrev cX3_order : ByteArray := prog_1_method_10_code
def yX3_order : MethodName := ⟨RX3, "order", "(IJJJJI)I"⟩
abbrev mX3_order : zM := (yX3_order, cX3_order, 11, some .int)
abbrev cX3_join : ByteArray := prog_1_method_11_code
def yX3_join : MethodName := ⟨RX3, "join", "(IIJJI)J"⟩
abbrev mX3_join : zM := (yX3_join, cX3_join, 8, some .long)
abbrev cX3_table : ByteArray := prog_1_method_12_code
def yX3_table : MethodName := ⟨RX3, "table", "(III)I"⟩
abbrev mX3_table : zM := (yX3_table, cX3_table, 4, some .int)
abbrev cX3_ways : ByteArray := prog_1_method_13_code
def yX3_ways : MethodName := ⟨RX3, "ways", "(IIII)J"⟩
abbrev mX3_ways : zM := (yX3_ways, cX3_ways, 5, some .long)
abbrev cX3_pieces : ByteArray := prog_1_method_14_code
def yX3_pieces : MethodName := ⟨RX3, "pieces", "(II)J"⟩
abbrev mX3_pieces : zM := (yX3_pieces, cX3_pieces, 3, some .long)
abbrev cX3_part : ByteArray := prog_1_method_15_code
def yX3_part : MethodName := ⟨RX3, "part", "(II)I"⟩
abbrev mX3_part : zM := (yX3_part, cX3_part, 3, some .int)
abbrev cX3_mixes : ByteArray := prog_1_method_16_code
def yX3_mixes : MethodName := ⟨RX3, "mixes", "(I)I"⟩
abbrev mX3_mixes : zM := (yX3_mixes, cX3_mixes, 2, some .int)
abbrev cX3_rounds : ByteArray := prog_1_method_17_code
def yX3_rounds : MethodName := ⟨RX3, "rounds", "(II)I"⟩
abbrev mX3_rounds : zM := (yX3_rounds, cX3_rounds, 3, some .int)
abbrev cX3_round : ByteArray := prog_1_method_18_code
def yX3_round : MethodName := ⟨RX3, "round", "(IIII)J"⟩
abbrev mX3_round : zM := (yX3_round, cX3_round, 5, some .long)
abbrev cX3_period : ByteArray := prog_1_method_19_code
def yX3_period : MethodName := ⟨RX3, "period", "(II)I"⟩
abbrev mX3_period : zM := (yX3_period, cX3_period, 3, some .int)
abbrev cX3_has : ByteArray := prog_1_method_20_code
def yX3_has : MethodName := ⟨RX3, "has", "(II)I"⟩
abbrev mX3_has : zM := (yX3_has, cX3_has, 3, some .int)
abbrev cX3_forces : ByteArray := prog_1_method_21_code
def yX3_forces : MethodName := ⟨RX3, "forces", "(II)I"⟩
abbrev mX3_forces : zM := (yX3_forces, cX3_forces, 3, some .int)
abbrev cX3_most : ByteArray := prog_1_method_22_code
def yX3_most : MethodName := ⟨RX3, "most", "(I)I"⟩
abbrev mX3_most : zM := (yX3_most, cX3_most, 4, some .int)
abbrev cX3_top : ByteArray := prog_1_method_23_code
def yX3_top : MethodName := ⟨RX3, "top", "(I)I"⟩
abbrev mX3_top : zM := (yX3_top, cX3_top, 2, some .int)
abbrev cX3_topWord : ByteArray := prog_1_method_24_code
def yX3_topWord : MethodName := ⟨RX3, "topWord", "(II)I"⟩
abbrev mX3_topWord : zM := (yX3_topWord, cX3_topWord, 5, some .int)
abbrev cX3_topRound : ByteArray := prog_1_method_25_code
def yX3_topRound : MethodName := ⟨RX3, "topRound", "(II)I"⟩
abbrev mX3_topRound : zM := (yX3_topRound, cX3_topRound, 5, some .int)
abbrev cX3_digest : ByteArray := prog_1_method_26_code
def yX3_digest : MethodName := ⟨RX3, "digest", "()J"⟩
abbrev mX3_digest : zM := (yX3_digest, cX3_digest, 6, some .long)
abbrev cX3_isMap : ByteArray := prog_1_method_27_code
def yX3_isMap : MethodName := ⟨RX3, "isMap", "(I)Z"⟩
abbrev mX3_isMap : zM := (yX3_isMap, cX3_isMap, 1, some .boolean)
abbrev cX3_isTerm : ByteArray := prog_1_method_28_code
def yX3_isTerm : MethodName := ⟨RX3, "isTerm", "(I)Z"⟩
abbrev mX3_isTerm : zM := (yX3_isTerm, cX3_isTerm, 1, some .boolean)
abbrev cX3_isStepCount : ByteArray := prog_1_method_29_code
def yX3_isStepCount : MethodName := ⟨RX3, "isStepCount", "(I)Z"⟩
abbrev mX3_isStepCount : zM := (yX3_isStepCount, cX3_isStepCount, 1, some .boolean)
abbrev cX3_isWayLength : ByteArray := prog_1_method_30_code
def yX3_isWayLength : MethodName := ⟨RX3, "isWayLength", "(I)Z"⟩
abbrev mX3_isWayLength : zM := (yX3_isWayLength, cX3_isWayLength, 1, some .boolean)
abbrev cX3_isRoundLength : ByteArray := prog_1_method_31_code
def yX3_isRoundLength : MethodName := ⟨RX3, "isRoundLength", "(I)Z"⟩
abbrev mX3_isRoundLength : zM := (yX3_isRoundLength, cX3_isRoundLength, 1, some .boolean)
abbrev cX3_isForcing : ByteArray := prog_1_method_32_code
def yX3_isForcing : MethodName := ⟨RX3, "isForcing", "(I)Z"⟩
abbrev mX3_isForcing : zM := (yX3_isForcing, cX3_isForcing, 1, some .boolean)
abbrev cX3_divides : ByteArray := prog_1_method_33_code
def yX3_divides : MethodName := ⟨RX3, "divides", "(II)Z"⟩
abbrev mX3_divides : zM := (yX3_divides, cX3_divides, 2, some .boolean)
abbrev cX3_lowestTerm : ByteArray := prog_1_method_34_code
def yX3_lowestTerm : MethodName := ⟨RX3, "lowestTerm", "(JJI)J"⟩
abbrev mX3_lowestTerm : zM := (yX3_lowestTerm, cX3_lowestTerm, 7, some .long)
abbrev cX3_commonDivisor : ByteArray := prog_1_method_35_code
def yX3_commonDivisor : MethodName := ⟨RX3, "commonDivisor", "(JJ)J"⟩
abbrev mX3_commonDivisor : zM := (yX3_commonDivisor, cX3_commonDivisor, 11, some .long)
abbrev cX3_comesAhead : ByteArray := prog_1_method_36_code
def yX3_comesAhead : MethodName := ⟨RX3, "comesAhead", "(II)Z"⟩
abbrev mX3_comesAhead : zM := (yX3_comesAhead, cX3_comesAhead, 6, some .boolean)
abbrev cX3_oddPart : ByteArray := prog_1_method_37_code
def yX3_oddPart : MethodName := ⟨RX3, "oddPart", "(I)I"⟩
abbrev mX3_oddPart : zM := (yX3_oddPart, cX3_oddPart, 3, some .int)
abbrev cX4_init : ByteArray := prog_6_method_1_code
def yX4_init : MethodName := ⟨RX4, "<init>", "()V"⟩
abbrev mX4_init : zM := (yX4_init, cX4_init, 1, none)
abbrev cX4_in : ByteArray := prog_6_method_3_code
def yX4_in : MethodName := ⟨RX4, "in", "(JJJ)Z"⟩
abbrev mX4_in : zM := (yX4_in, cX4_in, 6, some .boolean)
abbrev cX4_isMap : ByteArray := prog_6_method_4_code
def yX4_isMap : MethodName := ⟨RX4, "isMap", "(I)Z"⟩
abbrev mX4_isMap : zM := (yX4_isMap, cX4_isMap, 1, some .boolean)
abbrev cX4_map : ByteArray := prog_6_method_5_code
def yX4_map : MethodName := ⟨RX4, "map", "(II)I"⟩
abbrev mX4_map : zM := (yX4_map, cX4_map, 4, some .int)
abbrev cX4_corner : ByteArray := prog_6_method_6_code
def yX4_corner : MethodName := ⟨RX4, "corner", "(III)I"⟩
abbrev mX4_corner : zM := (yX4_corner, cX4_corner, 5, some .int)
abbrev cX4_cornerAt : ByteArray := prog_6_method_7_code
def yX4_cornerAt : MethodName := ⟨RX4, "cornerAt", "(II)I"⟩
abbrev mX4_cornerAt : zM := (yX4_cornerAt, cX4_cornerAt, 3, some .int)
abbrev cX4_copy : ByteArray := prog_6_method_8_code
def yX4_copy : MethodName := ⟨RX4, "copy", "(II)I"⟩
abbrev mX4_copy : zM := (yX4_copy, cX4_copy, 4, some .int)
abbrev cX4_turn : ByteArray := prog_6_method_9_code
def yX4_turn : MethodName := ⟨RX4, "turn", "(II)I"⟩
abbrev mX4_turn : zM := (yX4_turn, cX4_turn, 5, some .int)
abbrev cX4_slopeOf : ByteArray := prog_6_method_10_code
def yX4_slopeOf : MethodName := ⟨RX4, "slopeOf", "(II)I"⟩
abbrev mX4_slopeOf : zM := (yX4_slopeOf, cX4_slopeOf, 3, some .int)
abbrev cX4_slope : ByteArray := prog_6_method_11_code
def yX4_slope : MethodName := ⟨RX4, "slope", "(II)I"⟩
abbrev mX4_slope : zM := (yX4_slope, cX4_slope, 3, some .int)
abbrev cX4_divisor : ByteArray := prog_6_method_12_code
def yX4_divisor : MethodName := ⟨RX4, "divisor", "(JJ)J"⟩
abbrev mX4_divisor : zM := (yX4_divisor, cX4_divisor, 10, some .long)
abbrev cX4_isPoint : ByteArray := prog_6_method_13_code
def yX4_isPoint : MethodName := ⟨RX4, "isPoint", "(IJJ)Z"⟩
abbrev mX4_isPoint : zM := (yX4_isPoint, cX4_isPoint, 6, some .boolean)
abbrev cX4_at : ByteArray := prog_6_method_14_code
def yX4_at : MethodName := ⟨RX4, "at", "(JJ)V"⟩
abbrev mX4_at : zM := (yX4_at, cX4_at, 7, none)
abbrev cX4_span : ByteArray := prog_6_method_15_code
def yX4_span : MethodName := ⟨RX4, "span", "(I)I"⟩
abbrev mX4_span : zM := (yX4_span, cX4_span, 3, some .int)
abbrev cX4_step : ByteArray := prog_6_method_16_code
def yX4_step : MethodName := ⟨RX4, "step", "(I)V"⟩
abbrev mX4_step : zM := (yX4_step, cX4_step, 3, none)
abbrev cX4_told : ByteArray := prog_6_method_17_code
def yX4_told : MethodName := ⟨RX4, "told", "(I)J"⟩
abbrev mX4_told : zM := (yX4_told, cX4_told, 2, some .long)
abbrev cX4_far : ByteArray := prog_6_method_18_code
def yX4_far : MethodName := ⟨RX4, "far", "(IJJII)J"⟩
abbrev mX4_far : zM := (yX4_far, cX4_far, 9, some .long)
abbrev cX4_word : ByteArray := prog_6_method_19_code
def yX4_word : MethodName := ⟨RX4, "word", "(IJJI)I"⟩
abbrev mX4_word : zM := (yX4_word, cX4_word, 8, some .int)
abbrev cX4_order : ByteArray := prog_6_method_20_code
def yX4_order : MethodName := ⟨RX4, "order", "(IJJJJI)I"⟩
abbrev mX4_order : zM := (yX4_order, cX4_order, 23, some .int)
abbrev cX4_join : ByteArray := prog_6_method_21_code
def yX4_join : MethodName := ⟨RX4, "join", "(IIJJI)J"⟩
abbrev mX4_join : zM := (yX4_join, cX4_join, 8, some .long)
abbrev cX4_covers : ByteArray := prog_6_method_22_code
def yX4_covers : MethodName := ⟨RX4, "covers", "(III)I"⟩
abbrev mX4_covers : zM := (yX4_covers, cX4_covers, 6, some .int)
abbrev cX4_isSpan : ByteArray := prog_6_method_23_code
def yX4_isSpan : MethodName := ⟨RX4, "isSpan", "(II)Z"⟩
abbrev mX4_isSpan : zM := (yX4_isSpan, cX4_isSpan, 3, some .boolean)
abbrev cX4_table : ByteArray := prog_6_method_24_code
def yX4_table : MethodName := ⟨RX4, "table", "(III)I"⟩
abbrev mX4_table : zM := (yX4_table, cX4_table, 4, some .int)
abbrev cX4_findWays : ByteArray := prog_6_method_25_code
def yX4_findWays : MethodName := ⟨RX4, "findWays", "(III)V"⟩
abbrev mX4_findWays : zM := (yX4_findWays, cX4_findWays, 7, none)
abbrev cX4_ways : ByteArray := prog_6_method_26_code
def yX4_ways : MethodName := ⟨RX4, "ways", "(IIII)J"⟩
abbrev mX4_ways : zM := (yX4_ways, cX4_ways, 5, some .long)
abbrev cX4_pieces : ByteArray := prog_6_method_27_code
def yX4_pieces : MethodName := ⟨RX4, "pieces", "(II)J"⟩
abbrev mX4_pieces : zM := (yX4_pieces, cX4_pieces, 7, some .long)
abbrev cX4_spread : ByteArray := prog_6_method_28_code
def yX4_spread : MethodName := ⟨RX4, "spread", "(II)I"⟩
abbrev mX4_spread : zM := (yX4_spread, cX4_spread, 6, some .int)
abbrev cX4_reach : ByteArray := prog_6_method_29_code
def yX4_reach : MethodName := ⟨RX4, "reach", "(II)I"⟩
abbrev mX4_reach : zM := (yX4_reach, cX4_reach, 5, some .int)
abbrev cX4_part : ByteArray := prog_6_method_30_code
def yX4_part : MethodName := ⟨RX4, "part", "(II)I"⟩
abbrev mX4_part : zM := (yX4_part, cX4_part, 5, some .int)
abbrev cX4_mixes : ByteArray := prog_6_method_31_code
def yX4_mixes : MethodName := ⟨RX4, "mixes", "(I)I"⟩
abbrev mX4_mixes : zM := (yX4_mixes, cX4_mixes, 6, some .int)
abbrev cX4_comesBack : ByteArray := prog_6_method_32_code
def yX4_comesBack : MethodName := ⟨RX4, "comesBack", "(IJJ)V"⟩
abbrev mX4_comesBack : zM := (yX4_comesBack, cX4_comesBack, 10, none)
abbrev cX4_isOn : ByteArray := prog_6_method_33_code
def yX4_isOn : MethodName := ⟨RX4, "isOn", "(IJJ)Z"⟩
abbrev mX4_isOn : zM := (yX4_isOn, cX4_isOn, 9, some .boolean)
abbrev cX4_findRounds : ByteArray := prog_6_method_34_code
def yX4_findRounds : MethodName := ⟨RX4, "findRounds", "(II)V"⟩
abbrev mX4_findRounds : zM := (yX4_findRounds, cX4_findRounds, 5, none)
abbrev cX4_enters : ByteArray := prog_6_method_35_code
def yX4_enters : MethodName := ⟨RX4, "enters", "(IIJJ)V"⟩
abbrev mX4_enters : zM := (yX4_enters, cX4_enters, 7, none)
abbrev cX4_goOn : ByteArray := prog_6_method_36_code
def yX4_goOn : MethodName := ⟨RX4, "goOn", "(III)I"⟩
abbrev mX4_goOn : zM := (yX4_goOn, cX4_goOn, 13, some .int)
abbrev cX4_rounds : ByteArray := prog_6_method_37_code
def yX4_rounds : MethodName := ⟨RX4, "rounds", "(II)I"⟩
abbrev mX4_rounds : zM := (yX4_rounds, cX4_rounds, 3, some .int)
abbrev cX4_round : ByteArray := prog_6_method_38_code
def yX4_round : MethodName := ⟨RX4, "round", "(IIII)J"⟩
abbrev mX4_round : zM := (yX4_round, cX4_round, 5, some .long)
abbrev cX4_just : ByteArray := prog_6_method_39_code
def yX4_just : MethodName := ⟨RX4, "just", "(II)I"⟩
abbrev mX4_just : zM := (yX4_just, cX4_just, 7, some .int)
abbrev cX4_period : ByteArray := prog_6_method_40_code
def yX4_period : MethodName := ⟨RX4, "period", "(II)I"⟩
abbrev mX4_period : zM := (yX4_period, cX4_period, 3, some .int)
abbrev cX4_hasPeriod : ByteArray := prog_6_method_41_code
def yX4_hasPeriod : MethodName := ⟨RX4, "hasPeriod", "(II)Z"⟩
abbrev mX4_hasPeriod : zM := (yX4_hasPeriod, cX4_hasPeriod, 3, some .boolean)
abbrev cX4_has : ByteArray := prog_6_method_42_code
def yX4_has : MethodName := ⟨RX4, "has", "(II)I"⟩
abbrev mX4_has : zM := (yX4_has, cX4_has, 3, some .int)
abbrev cX4_isAhead : ByteArray := prog_6_method_43_code
def yX4_isAhead : MethodName := ⟨RX4, "isAhead", "(II)Z"⟩
abbrev mX4_isAhead : zM := (yX4_isAhead, cX4_isAhead, 6, some .boolean)
abbrev cX4_forces : ByteArray := prog_6_method_44_code
def yX4_forces : MethodName := ⟨RX4, "forces", "(II)I"⟩
abbrev mX4_forces : zM := (yX4_forces, cX4_forces, 3, some .int)
abbrev cX4_most : ByteArray := prog_6_method_45_code
def yX4_most : MethodName := ⟨RX4, "most", "(I)I"⟩
abbrev mX4_most : zM := (yX4_most, cX4_most, 4, some .int)
abbrev cX4_topOf : ByteArray := prog_6_method_46_code
def yX4_topOf : MethodName := ⟨RX4, "topOf", "(I)I"⟩
abbrev mX4_topOf : zM := (yX4_topOf, cX4_topOf, 5, some .int)
abbrev cX4_top : ByteArray := prog_6_method_47_code
def yX4_top : MethodName := ⟨RX4, "top", "(I)I"⟩
abbrev mX4_top : zM := (yX4_top, cX4_top, 2, some .int)
abbrev cX4_topWord : ByteArray := prog_6_method_48_code
def yX4_topWord : MethodName := ⟨RX4, "topWord", "(II)I"⟩
abbrev mX4_topWord : zM := (yX4_topWord, cX4_topWord, 6, some .int)
abbrev cX4_topRound : ByteArray := prog_6_method_49_code
def yX4_topRound : MethodName := ⟨RX4, "topRound", "(II)I"⟩
abbrev mX4_topRound : zM := (yX4_topRound, cX4_topRound, 6, some .int)
abbrev cX4_digest : ByteArray := prog_6_method_50_code
def yX4_digest : MethodName := ⟨RX4, "digest", "()J"⟩
abbrev mX4_digest : zM := (yX4_digest, cX4_digest, 5, some .long)
abbrev cJ9_abs_0f7a4 : ByteArray := prog_7_method_59_code
def yJ9_abs_0f7a4 : MethodName := ⟨RJ9, "abs", "(I)I"⟩
abbrev mJ9_abs_0f7a4 : zM := (yJ9_abs_0f7a4, cJ9_abs_0f7a4, 1, some .int)
abbrev cJ9_abs_067f4 : ByteArray := prog_7_method_61_code
def yJ9_abs_067f4 : MethodName := ⟨RJ9, "abs", "(J)J"⟩
abbrev mJ9_abs_067f4 : zM := (yJ9_abs_067f4, cJ9_abs_067f4, 2, some .long)
abbrev cJ9_max_7cf53 : ByteArray := prog_7_method_65_code
def yJ9_max_7cf53 : MethodName := ⟨RJ9, "max", "(II)I"⟩
abbrev mJ9_max_7cf53 : zM := (yJ9_max_7cf53, cJ9_max_7cf53, 2, some .int)
abbrev cJ9_max_f86c9 : ByteArray := prog_7_method_66_code
def yJ9_max_f86c9 : MethodName := ⟨RJ9, "max", "(JJ)J"⟩
abbrev mJ9_max_f86c9 : zM := (yJ9_max_f86c9, cJ9_max_f86c9, 4, some .long)
abbrev cJ9_min_7cf53 : ByteArray := prog_7_method_69_code
def yJ9_min_7cf53 : MethodName := ⟨RJ9, "min", "(II)I"⟩
abbrev mJ9_min_7cf53 : zM := (yJ9_min_7cf53, cJ9_min_7cf53, 2, some .int)
abbrev cJ9_min_f86c9 : ByteArray := prog_7_method_70_code
def yJ9_min_f86c9 : MethodName := ⟨RJ9, "min", "(JJ)J"⟩
abbrev mJ9_min_f86c9 : zM := (yJ9_min_f86c9, cJ9_min_f86c9, 4, some .long)
theorem iBX0 : ∀ w ∈ u_ws RX0 TX0 2, w ∈ zB := by decide +kernel
theorem iBX1 : ∀ w ∈ u_ws RX1 TX1 2, w ∈ zB := by decide +kernel
theorem iBX2 : ∀ w ∈ u_ws RX2 TX2 9, w ∈ zB := by decide +kernel
theorem iBX3 : ∀ w ∈ u_ws RX3 TX3 3, w ∈ zB := by decide +kernel
theorem iBX4 : ∀ w ∈ u_ws RX4 TX4 16, w ∈ zB := by decide +kernel
theorem fX0_9 : zFl RX0 9 0 0 := ⟨RX0, TX0, 2, rfl, by decide, iBX0, zb 47 (by decide +kernel) rfl⟩
theorem fX0_15 : zFl RX0 15 0 1 := ⟨RX0, TX0, 2, rfl, by decide, iBX0, zb 51 (by decide +kernel) rfl⟩
theorem fX1_11 : zFl RX1 11 1 0 := ⟨RX1, TX1, 2, rfl, by decide, iBX1, zb 68 (by decide +kernel) rfl⟩
theorem fX1_16 : zFl RX1 16 1 1 := ⟨RX1, TX1, 2, rfl, by decide, iBX1, zb 69 (by decide +kernel) rfl⟩
theorem fX1_20 : zFl RX1 20 0 0 := ⟨RX0, TX0, 2, rfl, by decide, iBX0, zb 48 (by decide +kernel) rfl⟩
theorem fX2_12 : zFl RX2 12 2 0 := ⟨RX2, TX2, 9, rfl, by decide, iBX2, zb 84 (by decide +kernel) rfl⟩
theorem fX2_18 : zFl RX2 18 2 1 := ⟨RX2, TX2, 9, rfl, by decide, iBX2, zb 85 (by decide +kernel) rfl⟩
theorem fX2_22 : zFl RX2 22 2 2 := ⟨RX2, TX2, 9, rfl, by decide, iBX2, zb 86 (by decide +kernel) rfl⟩
theorem fX2_25 : zFl RX2 25 2 3 := ⟨RX2, TX2, 9, rfl, by decide, iBX2, zb 87 (by decide +kernel) rfl⟩
theorem fX2_29 : zFl RX2 29 2 4 := ⟨RX2, TX2, 9, rfl, by decide, iBX2, zb 88 (by decide +kernel) rfl⟩
theorem fX2_33 : zFl RX2 33 2 5 := ⟨RX2, TX2, 9, rfl, by decide, iBX2, zb 89 (by decide +kernel) rfl⟩
theorem fX2_41 : zFl RX2 41 0 0 := ⟨RX0, TX0, 2, rfl, by decide, iBX0, zb 49 (by decide +kernel) rfl⟩
theorem fX2_79 : zFl RX2 79 2 6 := ⟨RX2, TX2, 9, rfl, by decide, iBX2, zb 90 (by decide +kernel) rfl⟩
theorem fX2_97 : zFl RX2 97 0 1 := ⟨RX0, TX0, 2, rfl, by decide, iBX0, zb 53 (by decide +kernel) rfl⟩
theorem fX3_11 : zFl RX3 11 3 0 := ⟨RX3, TX3, 3, rfl, by decide, iBX3, zb 115 (by decide +kernel) rfl⟩
theorem fX3_19 : zFl RX3 19 3 1 := ⟨RX3, TX3, 3, rfl, by decide, iBX3, zb 116 (by decide +kernel) rfl⟩
theorem fX3_26 : zFl RX3 26 3 2 := ⟨RX3, TX3, 3, rfl, by decide, iBX3, zb 117 (by decide +kernel) rfl⟩
theorem fX3_41 : zFl RX3 41 0 1 := ⟨RX0, TX0, 2, rfl, by decide, iBX0, zb 52 (by decide +kernel) rfl⟩
theorem fX3_49 : zFl RX3 49 0 0 := ⟨RX0, TX0, 2, rfl, by decide, iBX0, zb 50 (by decide +kernel) rfl⟩
theorem fX3_140 : zFl RX3 140 2 7 := ⟨RX2, TX2, 9, rfl, by decide, iBX2, zb 92 (by decide +kernel) rfl⟩
theorem fX3_144 : zFl RX3 144 2 8 := ⟨RX2, TX2, 9, rfl, by decide, iBX2, zb 94 (by decide +kernel) rfl⟩
theorem fX4_7 : zFl RX4 7 4 0 := ⟨RX4, TX4, 16, rfl, by decide, iBX4, zb 457 (by decide +kernel) rfl⟩
theorem fX4_13 : zFl RX4 13 4 1 := ⟨RX4, TX4, 16, rfl, by decide, iBX4, zb 458 (by decide +kernel) rfl⟩
theorem fX4_16 : zFl RX4 16 4 2 := ⟨RX4, TX4, 16, rfl, by decide, iBX4, zb 459 (by decide +kernel) rfl⟩
theorem fX4_20 : zFl RX4 20 4 5 := ⟨RX4, TX4, 16, rfl, by decide, iBX4, zb 462 (by decide +kernel) rfl⟩
theorem fX4_24 : zFl RX4 24 4 6 := ⟨RX4, TX4, 16, rfl, by decide, iBX4, zb 463 (by decide +kernel) rfl⟩
theorem fX4_27 : zFl RX4 27 4 10 := ⟨RX4, TX4, 16, rfl, by decide, iBX4, zb 467 (by decide +kernel) rfl⟩
theorem fX4_30 : zFl RX4 30 4 11 := ⟨RX4, TX4, 16, rfl, by decide, iBX4, zb 468 (by decide +kernel) rfl⟩
theorem fX4_33 : zFl RX4 33 4 12 := ⟨RX4, TX4, 16, rfl, by decide, iBX4, zb 469 (by decide +kernel) rfl⟩
theorem fX4_36 : zFl RX4 36 4 13 := ⟨RX4, TX4, 16, rfl, by decide, iBX4, zb 470 (by decide +kernel) rfl⟩
theorem fX4_39 : zFl RX4 39 4 14 := ⟨RX4, TX4, 16, rfl, by decide, iBX4, zb 471 (by decide +kernel) rfl⟩
theorem fX4_42 : zFl RX4 42 4 15 := ⟨RX4, TX4, 16, rfl, by decide, iBX4, zb 472 (by decide +kernel) rfl⟩
theorem fX4_67 : zFl RX4 67 4 3 := ⟨RX4, TX4, 16, rfl, by decide, iBX4, zb 460 (by decide +kernel) rfl⟩
theorem fX4_71 : zFl RX4 71 4 4 := ⟨RX4, TX4, 16, rfl, by decide, iBX4, zb 461 (by decide +kernel) rfl⟩
theorem fX4_120 : zFl RX4 120 4 8 := ⟨RX4, TX4, 16, rfl, by decide, iBX4, zb 465 (by decide +kernel) rfl⟩
theorem fX4_124 : zFl RX4 124 4 9 := ⟨RX4, TX4, 16, rfl, by decide, iBX4, zb 466 (by decide +kernel) rfl⟩
theorem fX4_130 : zFl RX4 130 4 7 := ⟨RX4, TX4, 16, rfl, by decide, iBX4, zb 464 (by decide +kernel) rfl⟩
theorem pX0_9 : zFp RX0 9 0 0 .int := ⟨RX0, TX0, 2, tyX0, rfl, by decide, iBX0, zb 47 (by decide +kernel) rfl, tyX0_ok, nmX0, rfl, by decide +kernel⟩
theorem pX1_16 : zFp RX1 16 1 1 .int := ⟨RX1, TX1, 2, tyX1, rfl, by decide, iBX1, zb 69 (by decide +kernel) rfl, tyX1_ok, nmX1, rfl, by decide +kernel⟩
theorem pX2_33 : zFp RX2 33 2 5 .int := ⟨RX2, TX2, 9, tyX2, rfl, by decide, iBX2, zb 89 (by decide +kernel) rfl, tyX2_ok, nmX2, rfl, by decide +kernel⟩
theorem pX2_37 : zFp RX2 37 2 8 .long := ⟨RX2, TX2, 9, tyX2, rfl, by decide, iBX2, zb 93 (by decide +kernel) rfl, tyX2_ok, nmX2, rfl, by decide +kernel⟩
theorem pX2_79 : zFp RX2 79 2 6 .long := ⟨RX2, TX2, 9, tyX2, rfl, by decide, iBX2, zb 90 (by decide +kernel) rfl, tyX2_ok, nmX2, rfl, by decide +kernel⟩
theorem pX2_107 : zFp RX2 107 2 7 .long := ⟨RX2, TX2, 9, tyX2, rfl, by decide, iBX2, zb 91 (by decide +kernel) rfl, tyX2_ok, nmX2, rfl, by decide +kernel⟩
theorem pX4_67 : zFp RX4 67 4 3 .long := ⟨RX4, TX4, 16, tyX4, rfl, by decide, iBX4, zb 460 (by decide +kernel) rfl, tyX4_ok, nmX4, rfl, by decide +kernel⟩
theorem pX4_71 : zFp RX4 71 4 4 .long := ⟨RX4, TX4, 16, tyX4, rfl, by decide, iBX4, zb 461 (by decide +kernel) rfl, tyX4_ok, nmX4, rfl, by decide +kernel⟩
theorem pX4_120 : zFp RX4 120 4 8 .boolean := ⟨RX4, TX4, 16, tyX4, rfl, by decide, iBX4, zb 465 (by decide +kernel) rfl, tyX4_ok, nmX4, rfl, by decide +kernel⟩
theorem pX4_124 : zFp RX4 124 4 9 .boolean := ⟨RX4, TX4, 16, tyX4, rfl, by decide, iBX4, zb 466 (by decide +kernel) rfl, tyX4_ok, nmX4, rfl, by decide +kernel⟩
theorem pX4_130 : zFp RX4 130 4 7 .int := ⟨RX4, TX4, 16, tyX4, rfl, by decide, iBX4, zb 464 (by decide +kernel) rfl, tyX4_ok, nmX4, rfl, by decide +kernel⟩
theorem aJ9_min_f86c9 : zCm mJ9_min_f86c9 2 := ⟨zb 31 (by decide +kernel) rfl, zb 206 (by decide +kernel) rfl, ⟨by decide +kernel, by decide +kernel, by decide +kernel⟩, by decide⟩
theorem lX0_21 : zCs RX0 21 mJ9_min_f86c9 2 := ⟨zb 204 (by decide +kernel) rfl, zb 205 (by decide +kernel) rfl, aJ9_min_f86c9⟩
theorem aJ9_max_f86c9 : zCm mJ9_max_f86c9 2 := ⟨zb 31 (by decide +kernel) rfl, zb 209 (by decide +kernel) rfl, ⟨by decide +kernel, by decide +kernel, by decide +kernel⟩, by decide⟩
theorem lX0_27 : zCs RX0 27 mJ9_max_f86c9 2 := ⟨zb 207 (by decide +kernel) rfl, zb 208 (by decide +kernel) rfl, aJ9_max_f86c9⟩
theorem aX0_spanOf : zCm mX0_spanOf 2 := ⟨zb 27 (by decide +kernel) rfl, zb 203 (by decide +kernel) rfl, ⟨by decide +kernel, by decide +kernel, by decide +kernel⟩, by decide⟩
theorem lX0_30 : zCv RX0 30 mX0_spanOf 2 := ⟨zb 200 (by decide +kernel) rfl, zb 201 (by decide +kernel) rfl, zb 202 (by decide +kernel) rfl, aX0_spanOf⟩
theorem aX0_slopeOf : zCm mX0_slopeOf 1 := ⟨zb 27 (by decide +kernel) rfl, zb 175 (by decide +kernel) rfl, ⟨by decide +kernel, by decide +kernel, by decide +kernel⟩, by decide⟩
theorem lX0_34 : zCv RX0 34 mX0_slopeOf 1 := ⟨zb 210 (by decide +kernel) rfl, zb 173 (by decide +kernel) rfl, zb 174 (by decide +kernel) rfl, aX0_slopeOf⟩
theorem aX0_step : zCm mX0_step 2 := ⟨zb 27 (by decide +kernel) rfl, zb 199 (by decide +kernel) rfl, ⟨by decide +kernel, by decide +kernel, by decide +kernel⟩, by decide⟩
theorem lX0_38 : zCv RX0 38 mX0_step 2 := ⟨zb 196 (by decide +kernel) rfl, zb 197 (by decide +kernel) rfl, zb 198 (by decide +kernel) rfl, aX0_step⟩
theorem aJ9_min_7cf53 : zCm mJ9_min_7cf53 2 := ⟨zb 31 (by decide +kernel) rfl, zb 246 (by decide +kernel) rfl, ⟨by decide +kernel, by decide +kernel, by decide +kernel⟩, by decide⟩
theorem lX0_41 : zCs RX0 41 mJ9_min_7cf53 2 := ⟨zb 244 (by decide +kernel) rfl, zb 245 (by decide +kernel) rfl, aJ9_min_7cf53⟩
theorem aJ9_max_7cf53 : zCm mJ9_max_7cf53 2 := ⟨zb 31 (by decide +kernel) rfl, zb 249 (by decide +kernel) rfl, ⟨by decide +kernel, by decide +kernel, by decide +kernel⟩, by decide⟩
theorem lX0_44 : zCs RX0 44 mJ9_max_7cf53 2 := ⟨zb 247 (by decide +kernel) rfl, zb 248 (by decide +kernel) rfl, aJ9_max_7cf53⟩
theorem aX0_spansAfter : zCm mX0_spansAfter 1 := ⟨zb 27 (by decide +kernel) rfl, zb 294 (by decide +kernel) rfl, ⟨by decide +kernel, by decide +kernel, by decide +kernel⟩, by decide⟩
theorem lX0_46 : zCv RX0 46 mX0_spansAfter 1 := ⟨zb 291 (by decide +kernel) rfl, zb 292 (by decide +kernel) rfl, zb 293 (by decide +kernel) rfl, aX0_spansAfter⟩
theorem aX0_wayLeads : zCm mX0_wayLeads 2 := ⟨zb 27 (by decide +kernel) rfl, zb 290 (by decide +kernel) rfl, ⟨by decide +kernel, by decide +kernel, by decide +kernel⟩, by decide⟩
theorem lX0_49 : zCv RX0 49 mX0_wayLeads 2 := ⟨zb 287 (by decide +kernel) rfl, zb 288 (by decide +kernel) rfl, zb 289 (by decide +kernel) rfl, aX0_wayLeads⟩
theorem aX0_stepsToAll : zCm mX0_stepsToAll 1 := ⟨zb 27 (by decide +kernel) rfl, zb 306 (by decide +kernel) rfl, ⟨by decide +kernel, by decide +kernel, by decide +kernel⟩, by decide⟩
theorem lX0_53 : zCv RX0 53 mX0_stepsToAll 1 := ⟨zb 303 (by decide +kernel) rfl, zb 304 (by decide +kernel) rfl, zb 305 (by decide +kernel) rfl, aX0_stepsToAll⟩
theorem aX0_allSpans : zCm mX0_allSpans 0 := ⟨zb 27 (by decide +kernel) rfl, zb 310 (by decide +kernel) rfl, ⟨by decide +kernel, by decide +kernel, by decide +kernel⟩, by decide⟩
theorem lX0_56 : zCv RX0 56 mX0_allSpans 0 := ⟨zb 307 (by decide +kernel) rfl, zb 308 (by decide +kernel) rfl, zb 309 (by decide +kernel) rfl, aX0_allSpans⟩
theorem aX0_stepsOfRound : zCm mX0_stepsOfRound 1 := ⟨zb 27 (by decide +kernel) rfl, zb 326 (by decide +kernel) rfl, ⟨by decide +kernel, by decide +kernel, by decide +kernel⟩, by decide⟩
theorem lX0_60 : zCv RX0 60 mX0_stepsOfRound 1 := ⟨zb 442 (by decide +kernel) rfl, zb 324 (by decide +kernel) rfl, zb 325 (by decide +kernel) rfl, aX0_stepsOfRound⟩
theorem aX1_multiply : zCm mX1_multiply 2 := ⟨zb 28 (by decide +kernel) rfl, zb 264 (by decide +kernel) rfl, ⟨by decide +kernel, by decide +kernel, by decide +kernel⟩, by decide⟩
theorem lX1_25 : zCv RX1 25 mX1_multiply 2 := ⟨zb 261 (by decide +kernel) rfl, zb 263 (by decide +kernel) rfl, zb 0 (by decide +kernel) rfl, aX1_multiply⟩
theorem aX0_leadsOver : zCm mX0_leadsOver 2 := ⟨zb 27 (by decide +kernel) rfl, zb 243 (by decide +kernel) rfl, ⟨by decide +kernel, by decide +kernel, by decide +kernel⟩, by decide⟩
theorem lX1_29 : zCv RX1 29 mX0_leadsOver 2 := ⟨zb 265 (by decide +kernel) rfl, zb 241 (by decide +kernel) rfl, zb 242 (by decide +kernel) rfl, aX0_leadsOver⟩
theorem aX1_between : zCm mX1_between 3 := ⟨zb 28 (by decide +kernel) rfl, zb 269 (by decide +kernel) rfl, ⟨by decide +kernel, by decide +kernel, by decide +kernel⟩, by decide⟩
theorem lX1_33 : zCv RX1 33 mX1_between 3 := ⟨zb 266 (by decide +kernel) rfl, zb 267 (by decide +kernel) rfl, zb 268 (by decide +kernel) rfl, aX1_between⟩
theorem aX1_raise : zCm mX1_raise 2 := ⟨zb 28 (by decide +kernel) rfl, zb 260 (by decide +kernel) rfl, ⟨by decide +kernel, by decide +kernel, by decide +kernel⟩, by decide⟩
theorem lX2_46 : zCv RX2 46 mX1_raise 2 := ⟨zb 322 (by decide +kernel) rfl, zb 258 (by decide +kernel) rfl, zb 259 (by decide +kernel) rfl, aX1_raise⟩
theorem lX2_50 : zCv RX2 50 mX0_stepsOfRound 1 := ⟨zb 323 (by decide +kernel) rfl, zb 324 (by decide +kernel) rfl, zb 325 (by decide +kernel) rfl, aX0_stepsOfRound⟩
theorem aX2_studyEdge : zCm mX2_studyEdge 2 := ⟨zb 29 (by decide +kernel) rfl, zb 330 (by decide +kernel) rfl, ⟨by decide +kernel, by decide +kernel, by decide +kernel⟩, by decide⟩
theorem lX2_54 : zCv RX2 54 mX2_studyEdge 2 := ⟨zb 327 (by decide +kernel) rfl, zb 329 (by decide +kernel) rfl, zb 1 (by decide +kernel) rfl, aX2_studyEdge⟩
theorem aX1_closed : zCm mX1_closed 1 := ⟨zb 28 (by decide +kernel) rfl, zb 342 (by decide +kernel) rfl, ⟨by decide +kernel, by decide +kernel, by decide +kernel⟩, by decide⟩
theorem lX2_57 : zCv RX2 57 mX1_closed 1 := ⟨zb 339 (by decide +kernel) rfl, zb 340 (by decide +kernel) rfl, zb 341 (by decide +kernel) rfl, aX1_closed⟩
theorem aX3_divides : zCm mX3_divides 2 := ⟨zb 26 (by decide +kernel) rfl, zb 345 (by decide +kernel) rfl, ⟨by decide +kernel, by decide +kernel, by decide +kernel⟩, by decide⟩
theorem lX2_61 : zCn mX3_divides 2 := ⟨zb 344 (by decide +kernel) rfl, aX3_divides⟩
theorem lX2_65 : zCv RX2 65 mX0_slopeOf 1 := ⟨zb 331 (by decide +kernel) rfl, zb 173 (by decide +kernel) rfl, zb 174 (by decide +kernel) rfl, aX0_slopeOf⟩
theorem aJ9_abs_0f7a4 : zCm mJ9_abs_0f7a4 1 := ⟨zb 31 (by decide +kernel) rfl, zb 334 (by decide +kernel) rfl, ⟨by decide +kernel, by decide +kernel, by decide +kernel⟩, by decide⟩
theorem lX2_68 : zCs RX2 68 mJ9_abs_0f7a4 1 := ⟨zb 332 (by decide +kernel) rfl, zb 333 (by decide +kernel) rfl, aJ9_abs_0f7a4⟩
theorem aX0_nextEdge : zCm mX0_nextEdge 1 := ⟨zb 27 (by decide +kernel) rfl, zb 338 (by decide +kernel) rfl, ⟨by decide +kernel, by decide +kernel, by decide +kernel⟩, by decide⟩
theorem lX2_73 : zCv RX2 73 mX0_nextEdge 1 := ⟨zb 335 (by decide +kernel) rfl, zb 336 (by decide +kernel) rfl, zb 337 (by decide +kernel) rfl, aX0_nextEdge⟩
theorem aX2_countNew : zCm mX2_countNew 1 := ⟨zb 29 (by decide +kernel) rfl, zb 357 (by decide +kernel) rfl, ⟨by decide +kernel, by decide +kernel, by decide +kernel⟩, by decide⟩
theorem lX2_76 : zCv RX2 76 mX2_countNew 1 := ⟨zb 354 (by decide +kernel) rfl, zb 355 (by decide +kernel) rfl, zb 356 (by decide +kernel) rfl, aX2_countNew⟩
theorem aX2_settle : zCm mX2_settle 2 := ⟨zb 29 (by decide +kernel) rfl, zb 369 (by decide +kernel) rfl, ⟨by decide +kernel, by decide +kernel, by decide +kernel⟩, by decide⟩
theorem lX2_82 : zCv RX2 82 mX2_settle 2 := ⟨zb 366 (by decide +kernel) rfl, zb 368 (by decide +kernel) rfl, zb 2 (by decide +kernel) rfl, aX2_settle⟩
theorem aX2_isInside : zCm mX2_isInside 2 := ⟨zb 29 (by decide +kernel) rfl, zb 376 (by decide +kernel) rfl, ⟨by decide +kernel, by decide +kernel, by decide +kernel⟩, by decide⟩
theorem lX2_86 : zCv RX2 86 mX2_isInside 2 := ⟨zb 373 (by decide +kernel) rfl, zb 375 (by decide +kernel) rfl, zb 3 (by decide +kernel) rfl, aX2_isInside⟩
theorem aX2_walk : zCm mX2_walk 3 := ⟨zb 29 (by decide +kernel) rfl, zb 381 (by decide +kernel) rfl, ⟨by decide +kernel, by decide +kernel, by decide +kernel⟩, by decide⟩
theorem lX2_89 : zCv RX2 89 mX2_walk 3 := ⟨zb 378 (by decide +kernel) rfl, zb 380 (by decide +kernel) rfl, zb 4 (by decide +kernel) rfl, aX2_walk⟩
theorem lX2_93 : zCv RX2 93 mX1_between 3 := ⟨zb 377 (by decide +kernel) rfl, zb 267 (by decide +kernel) rfl, zb 268 (by decide +kernel) rfl, aX1_between⟩
theorem aX2_nextSpan : zCm mX2_nextSpan 5 := ⟨zb 29 (by decide +kernel) rfl, zb 385 (by decide +kernel) rfl, ⟨by decide +kernel, by decide +kernel, by decide +kernel⟩, by decide⟩
theorem lX2_100 : zCv RX2 100 mX2_nextSpan 5 := ⟨zb 382 (by decide +kernel) rfl, zb 384 (by decide +kernel) rfl, zb 5 (by decide +kernel) rfl, aX2_nextSpan⟩
theorem lX2_104 : zCv RX2 104 mX0_leadsOver 2 := ⟨zb 386 (by decide +kernel) rfl, zb 241 (by decide +kernel) rfl, zb 242 (by decide +kernel) rfl, aX0_leadsOver⟩
theorem aJ9_abs_067f4 : zCm mJ9_abs_067f4 1 := ⟨zb 31 (by decide +kernel) rfl, zb 372 (by decide +kernel) rfl, ⟨by decide +kernel, by decide +kernel, by decide +kernel⟩, by decide⟩
theorem lX2_110 : zCs RX2 110 mJ9_abs_067f4 1 := ⟨zb 370 (by decide +kernel) rfl, zb 371 (by decide +kernel) rfl, aJ9_abs_067f4⟩
theorem aX3_isMap : zCm mX3_isMap 1 := ⟨zb 26 (by decide +kernel) rfl, zb 131 (by decide +kernel) rfl, ⟨by decide +kernel, by decide +kernel, by decide +kernel⟩, by decide⟩
theorem lX3_30 : zCs RX3 30 mX3_isMap 1 := ⟨zb 129 (by decide +kernel) rfl, zb 130 (by decide +kernel) rfl, aX3_isMap⟩
theorem aX0_flatten : zCm mX0_flatten 1 := ⟨zb 27 (by decide +kernel) rfl, zb 135 (by decide +kernel) rfl, ⟨by decide +kernel, by decide +kernel, by decide +kernel⟩, by decide⟩
theorem lX3_34 : zCv RX3 34 mX0_flatten 1 := ⟨zb 132 (by decide +kernel) rfl, zb 133 (by decide +kernel) rfl, zb 134 (by decide +kernel) rfl, aX0_flatten⟩
theorem aX0_hasCorner : zCm mX0_hasCorner 1 := ⟨zb 27 (by decide +kernel) rfl, zb 143 (by decide +kernel) rfl, ⟨by decide +kernel, by decide +kernel, by decide +kernel⟩, by decide⟩
theorem lX3_38 : zCv RX3 38 mX0_hasCorner 1 := ⟨zb 140 (by decide +kernel) rfl, zb 141 (by decide +kernel) rfl, zb 142 (by decide +kernel) rfl, aX0_hasCorner⟩
theorem aX0_become : zCm mX0_become 1 := ⟨zb 27 (by decide +kernel) rfl, zb 155 (by decide +kernel) rfl, ⟨by decide +kernel, by decide +kernel, by decide +kernel⟩, by decide⟩
theorem lX3_45 : zCv RX3 45 mX0_become 1 := ⟨zb 152 (by decide +kernel) rfl, zb 153 (by decide +kernel) rfl, zb 154 (by decide +kernel) rfl, aX0_become⟩
theorem aX0_becomeTurned : zCm mX0_becomeTurned 1 := ⟨zb 27 (by decide +kernel) rfl, zb 163 (by decide +kernel) rfl, ⟨by decide +kernel, by decide +kernel, by decide +kernel⟩, by decide⟩
theorem lX3_53 : zCv RX3 53 mX0_becomeTurned 1 := ⟨zb 160 (by decide +kernel) rfl, zb 161 (by decide +kernel) rfl, zb 162 (by decide +kernel) rfl, aX0_becomeTurned⟩
theorem aX0_hasSpan : zCm mX0_hasSpan 1 := ⟨zb 27 (by decide +kernel) rfl, zb 171 (by decide +kernel) rfl, ⟨by decide +kernel, by decide +kernel, by decide +kernel⟩, by decide⟩
theorem lX3_56 : zCv RX3 56 mX0_hasSpan 1 := ⟨zb 168 (by decide +kernel) rfl, zb 169 (by decide +kernel) rfl, zb 170 (by decide +kernel) rfl, aX0_hasSpan⟩
theorem lX3_59 : zCv RX3 59 mX0_slopeOf 1 := ⟨zb 172 (by decide +kernel) rfl, zb 173 (by decide +kernel) rfl, zb 174 (by decide +kernel) rfl, aX0_slopeOf⟩
theorem aX0_hasPoint : zCm mX0_hasPoint 2 := ⟨zb 27 (by decide +kernel) rfl, zb 183 (by decide +kernel) rfl, ⟨by decide +kernel, by decide +kernel, by decide +kernel⟩, by decide⟩
theorem lX3_63 : zCv RX3 63 mX0_hasPoint 2 := ⟨zb 180 (by decide +kernel) rfl, zb 181 (by decide +kernel) rfl, zb 182 (by decide +kernel) rfl, aX0_hasPoint⟩
theorem aX3_isStepCount : zCm mX3_isStepCount 1 := ⟨zb 26 (by decide +kernel) rfl, zb 187 (by decide +kernel) rfl, ⟨by decide +kernel, by decide +kernel, by decide +kernel⟩, by decide⟩
theorem lX3_67 : zCs RX3 67 mX3_isStepCount 1 := ⟨zb 185 (by decide +kernel) rfl, zb 186 (by decide +kernel) rfl, aX3_isStepCount⟩
theorem aX3_isTerm : zCm mX3_isTerm 1 := ⟨zb 26 (by decide +kernel) rfl, zb 190 (by decide +kernel) rfl, ⟨by decide +kernel, by decide +kernel, by decide +kernel⟩, by decide⟩
theorem lX3_70 : zCs RX3 70 mX3_isTerm 1 := ⟨zb 188 (by decide +kernel) rfl, zb 189 (by decide +kernel) rfl, aX3_isTerm⟩
theorem aX0_follow : zCm mX0_follow 3 := ⟨zb 27 (by decide +kernel) rfl, zb 195 (by decide +kernel) rfl, ⟨by decide +kernel, by decide +kernel, by decide +kernel⟩, by decide⟩
theorem lX3_75 : zCv RX3 75 mX0_follow 3 := ⟨zb 192 (by decide +kernel) rfl, zb 193 (by decide +kernel) rfl, zb 194 (by decide +kernel) rfl, aX0_follow⟩
theorem aX3_lowestTerm : zCm mX3_lowestTerm 3 := ⟨zb 26 (by decide +kernel) rfl, zb 213 (by decide +kernel) rfl, ⟨by decide +kernel, by decide +kernel, by decide +kernel⟩, by decide⟩
theorem lX3_79 : zCs RX3 79 mX3_lowestTerm 3 := ⟨zb 211 (by decide +kernel) rfl, zb 212 (by decide +kernel) rfl, aX3_lowestTerm⟩
theorem lX3_82 : zCv RX3 82 mX0_spanOf 2 := ⟨zb 221 (by decide +kernel) rfl, zb 201 (by decide +kernel) rfl, zb 202 (by decide +kernel) rfl, aX0_spanOf⟩
theorem aX0_twistedOrder : zCm mX0_twistedOrder 5 := ⟨zb 27 (by decide +kernel) rfl, zb 229 (by decide +kernel) rfl, ⟨by decide +kernel, by decide +kernel, by decide +kernel⟩, by decide⟩
theorem lX3_86 : zCv RX3 86 mX0_twistedOrder 5 := ⟨zb 226 (by decide +kernel) rfl, zb 227 (by decide +kernel) rfl, zb 228 (by decide +kernel) rfl, aX0_twistedOrder⟩
theorem lX3_92 : zCv RX3 92 mX0_step 2 := ⟨zb 235 (by decide +kernel) rfl, zb 197 (by decide +kernel) rfl, zb 198 (by decide +kernel) rfl, aX0_step⟩
theorem lX3_96 : zCv RX3 96 mX0_leadsOver 2 := ⟨zb 240 (by decide +kernel) rfl, zb 241 (by decide +kernel) rfl, zb 242 (by decide +kernel) rfl, aX0_leadsOver⟩
theorem aX3_isWayLength : zCm mX3_isWayLength 1 := ⟨zb 26 (by decide +kernel) rfl, zb 256 (by decide +kernel) rfl, ⟨by decide +kernel, by decide +kernel, by decide +kernel⟩, by decide⟩
theorem lX3_100 : zCs RX3 100 mX3_isWayLength 1 := ⟨zb 254 (by decide +kernel) rfl, zb 255 (by decide +kernel) rfl, aX3_isWayLength⟩
theorem lX3_103 : zCv RX3 103 mX1_raise 2 := ⟨zb 257 (by decide +kernel) rfl, zb 258 (by decide +kernel) rfl, zb 259 (by decide +kernel) rfl, aX1_raise⟩
theorem lX3_107 : zCv RX3 107 mX1_between 3 := ⟨zb 270 (by decide +kernel) rfl, zb 267 (by decide +kernel) rfl, zb 268 (by decide +kernel) rfl, aX1_between⟩
theorem aX1_sum : zCm mX1_sum 1 := ⟨zb 28 (by decide +kernel) rfl, zb 278 (by decide +kernel) rfl, ⟨by decide +kernel, by decide +kernel, by decide +kernel⟩, by decide⟩
theorem lX3_111 : zCv RX3 111 mX1_sum 1 := ⟨zb 275 (by decide +kernel) rfl, zb 276 (by decide +kernel) rfl, zb 277 (by decide +kernel) rfl, aX1_sum⟩
theorem aX0_leastOfPart : zCm mX0_leastOfPart 1 := ⟨zb 27 (by decide +kernel) rfl, zb 286 (by decide +kernel) rfl, ⟨by decide +kernel, by decide +kernel, by decide +kernel⟩, by decide⟩
theorem lX3_115 : zCv RX3 115 mX0_leastOfPart 1 := ⟨zb 283 (by decide +kernel) rfl, zb 284 (by decide +kernel) rfl, zb 285 (by decide +kernel) rfl, aX0_leastOfPart⟩
theorem aX0_stepsToMix : zCm mX0_stepsToMix 0 := ⟨zb 27 (by decide +kernel) rfl, zb 302 (by decide +kernel) rfl, ⟨by decide +kernel, by decide +kernel, by decide +kernel⟩, by decide⟩
theorem lX3_118 : zCv RX3 118 mX0_stepsToMix 0 := ⟨zb 299 (by decide +kernel) rfl, zb 300 (by decide +kernel) rfl, zb 301 (by decide +kernel) rfl, aX0_stepsToMix⟩
theorem aX3_isRoundLength : zCm mX3_isRoundLength 1 := ⟨zb 26 (by decide +kernel) rfl, zb 317 (by decide +kernel) rfl, ⟨by decide +kernel, by decide +kernel, by decide +kernel⟩, by decide⟩
theorem lX3_122 : zCs RX3 122 mX3_isRoundLength 1 := ⟨zb 315 (by decide +kernel) rfl, zb 316 (by decide +kernel) rfl, aX3_isRoundLength⟩
theorem aX2_study : zCm mX2_study 1 := ⟨zb 29 (by decide +kernel) rfl, zb 321 (by decide +kernel) rfl, ⟨by decide +kernel, by decide +kernel, by decide +kernel⟩, by decide⟩
theorem lX3_125 : zCv RX3 125 mX2_study 1 := ⟨zb 318 (by decide +kernel) rfl, zb 319 (by decide +kernel) rfl, zb 320 (by decide +kernel) rfl, aX2_study⟩
theorem aX2_isEndless : zCm mX2_isEndless 1 := ⟨zb 29 (by decide +kernel) rfl, zb 349 (by decide +kernel) rfl, ⟨by decide +kernel, by decide +kernel, by decide +kernel⟩, by decide⟩
theorem lX3_128 : zCv RX3 128 mX2_isEndless 1 := ⟨zb 346 (by decide +kernel) rfl, zb 347 (by decide +kernel) rfl, zb 348 (by decide +kernel) rfl, aX2_isEndless⟩
theorem aX2_countAll : zCm mX2_countAll 1 := ⟨zb 29 (by decide +kernel) rfl, zb 353 (by decide +kernel) rfl, ⟨by decide +kernel, by decide +kernel, by decide +kernel⟩, by decide⟩
theorem lX3_131 : zCv RX3 131 mX2_countAll 1 := ⟨zb 350 (by decide +kernel) rfl, zb 351 (by decide +kernel) rfl, zb 352 (by decide +kernel) rfl, aX2_countAll⟩
theorem aX2_find : zCm mX2_find 3 := ⟨zb 29 (by decide +kernel) rfl, zb 365 (by decide +kernel) rfl, ⟨by decide +kernel, by decide +kernel, by decide +kernel⟩, by decide⟩
theorem lX3_134 : zCv RX3 134 mX2_find 3 := ⟨zb 362 (by decide +kernel) rfl, zb 363 (by decide +kernel) rfl, zb 364 (by decide +kernel) rfl, aX2_find⟩
theorem lX3_147 : zCv RX3 147 mX2_countNew 1 := ⟨zb 392 (by decide +kernel) rfl, zb 355 (by decide +kernel) rfl, zb 356 (by decide +kernel) rfl, aX2_countNew⟩
theorem aX2_hasNew : zCm mX2_hasNew 1 := ⟨zb 29 (by decide +kernel) rfl, zb 400 (by decide +kernel) rfl, ⟨by decide +kernel, by decide +kernel, by decide +kernel⟩, by decide⟩
theorem lX3_150 : zCv RX3 150 mX2_hasNew 1 := ⟨zb 397 (by decide +kernel) rfl, zb 398 (by decide +kernel) rfl, zb 399 (by decide +kernel) rfl, aX2_hasNew⟩
theorem aX3_isForcing : zCm mX3_isForcing 1 := ⟨zb 26 (by decide +kernel) rfl, zb 407 (by decide +kernel) rfl, ⟨by decide +kernel, by decide +kernel, by decide +kernel⟩, by decide⟩
theorem lX3_153 : zCs RX3 153 mX3_isForcing 1 := ⟨zb 405 (by decide +kernel) rfl, zb 406 (by decide +kernel) rfl, aX3_isForcing⟩
theorem aX3_comesAhead : zCm mX3_comesAhead 2 := ⟨zb 26 (by decide +kernel) rfl, zb 410 (by decide +kernel) rfl, ⟨by decide +kernel, by decide +kernel, by decide +kernel⟩, by decide⟩
theorem lX3_156 : zCs RX3 156 mX3_comesAhead 2 := ⟨zb 408 (by decide +kernel) rfl, zb 409 (by decide +kernel) rfl, aX3_comesAhead⟩
theorem aX0_findTop : zCm mX0_findTop 0 := ⟨zb 27 (by decide +kernel) rfl, zb 425 (by decide +kernel) rfl, ⟨by decide +kernel, by decide +kernel, by decide +kernel⟩, by decide⟩
theorem lX3_159 : zCv RX3 159 mX0_findTop 0 := ⟨zb 422 (by decide +kernel) rfl, zb 423 (by decide +kernel) rfl, zb 424 (by decide +kernel) rfl, aX0_findTop⟩
theorem aX0_cornerAfter : zCm mX0_cornerAfter 2 := ⟨zb 27 (by decide +kernel) rfl, zb 433 (by decide +kernel) rfl, ⟨by decide +kernel, by decide +kernel, by decide +kernel⟩, by decide⟩
theorem lX3_162 : zCv RX3 162 mX0_cornerAfter 2 := ⟨zb 430 (by decide +kernel) rfl, zb 431 (by decide +kernel) rfl, zb 432 (by decide +kernel) rfl, aX0_cornerAfter⟩
theorem aX0_stepsAheadOfRound : zCm mX0_stepsAheadOfRound 1 := ⟨zb 27 (by decide +kernel) rfl, zb 441 (by decide +kernel) rfl, ⟨by decide +kernel, by decide +kernel, by decide +kernel⟩, by decide⟩
theorem lX3_166 : zCv RX3 166 mX0_stepsAheadOfRound 1 := ⟨zb 438 (by decide +kernel) rfl, zb 439 (by decide +kernel) rfl, zb 440 (by decide +kernel) rfl, aX0_stepsAheadOfRound⟩
theorem lX3_169 : zCv RX3 169 mX0_stepsOfRound 1 := ⟨zb 443 (by decide +kernel) rfl, zb 324 (by decide +kernel) rfl, zb 325 (by decide +kernel) rfl, aX0_stepsOfRound⟩
theorem aX3_commonDivisor : zCm mX3_commonDivisor 2 := ⟨zb 26 (by decide +kernel) rfl, zb 216 (by decide +kernel) rfl, ⟨by decide +kernel, by decide +kernel, by decide +kernel⟩, by decide⟩
theorem lX3_176 : zCs RX3 176 mX3_commonDivisor 2 := ⟨zb 214 (by decide +kernel) rfl, zb 215 (by decide +kernel) rfl, aX3_commonDivisor⟩
theorem aX3_oddPart : zCm mX3_oddPart 1 := ⟨zb 26 (by decide +kernel) rfl, zb 413 (by decide +kernel) rfl, ⟨by decide +kernel, by decide +kernel, by decide +kernel⟩, by decide⟩
theorem lX3_179 : zCs RX3 179 mX3_oddPart 1 := ⟨zb 411 (by decide +kernel) rfl, zb 412 (by decide +kernel) rfl, aX3_oddPart⟩
theorem aX4_in : zCm mX4_in 3 := ⟨zb 30 (by decide +kernel) rfl, zb 516 (by decide +kernel) rfl, ⟨by decide +kernel, by decide +kernel, by decide +kernel⟩, by decide⟩
theorem lX4_47 : zCs RX4 47 mX4_in 3 := ⟨zb 514 (by decide +kernel) rfl, zb 515 (by decide +kernel) rfl, aX4_in⟩
theorem aX4_isMap : zCm mX4_isMap 1 := ⟨zb 30 (by decide +kernel) rfl, zb 512 (by decide +kernel) rfl, ⟨by decide +kernel, by decide +kernel, by decide +kernel⟩, by decide⟩
theorem lX4_51 : zCs RX4 51 mX4_isMap 1 := ⟨zb 510 (by decide +kernel) rfl, zb 511 (by decide +kernel) rfl, aX4_isMap⟩
theorem aX4_slopeOf : zCm mX4_slopeOf 2 := ⟨zb 30 (by decide +kernel) rfl, zb 541 (by decide +kernel) rfl, ⟨by decide +kernel, by decide +kernel, by decide +kernel⟩, by decide⟩
theorem lX4_57 : zCv RX4 57 mX4_slopeOf 2 := ⟨zb 538 (by decide +kernel) rfl, zb 540 (by decide +kernel) rfl, zb 6 (by decide +kernel) rfl, aX4_slopeOf⟩
theorem aX4_divisor : zCm mX4_divisor 2 := ⟨zb 30 (by decide +kernel) rfl, zb 559 (by decide +kernel) rfl, ⟨by decide +kernel, by decide +kernel, by decide +kernel⟩, by decide⟩
theorem lX4_63 : zCs RX4 63 mX4_divisor 2 := ⟨zb 557 (by decide +kernel) rfl, zb 558 (by decide +kernel) rfl, aX4_divisor⟩
theorem aX4_span : zCm mX4_span 1 := ⟨zb 30 (by decide +kernel) rfl, zb 567 (by decide +kernel) rfl, ⟨by decide +kernel, by decide +kernel, by decide +kernel⟩, by decide⟩
theorem lX4_74 : zCv RX4 74 mX4_span 1 := ⟨zb 564 (by decide +kernel) rfl, zb 566 (by decide +kernel) rfl, zb 10 (by decide +kernel) rfl, aX4_span⟩
theorem aX4_at : zCm mX4_at 2 := ⟨zb 30 (by decide +kernel) rfl, zb 556 (by decide +kernel) rfl, ⟨by decide +kernel, by decide +kernel, by decide +kernel⟩, by decide⟩
theorem lX4_78 : zCv RX4 78 mX4_at 2 := ⟨zb 553 (by decide +kernel) rfl, zb 555 (by decide +kernel) rfl, zb 8 (by decide +kernel) rfl, aX4_at⟩
theorem aX4_isPoint : zCm mX4_isPoint 3 := ⟨zb 30 (by decide +kernel) rfl, zb 549 (by decide +kernel) rfl, ⟨by decide +kernel, by decide +kernel, by decide +kernel⟩, by decide⟩
theorem lX4_82 : zCv RX4 82 mX4_isPoint 3 := ⟨zb 546 (by decide +kernel) rfl, zb 548 (by decide +kernel) rfl, zb 7 (by decide +kernel) rfl, aX4_isPoint⟩
theorem aX4_step : zCm mX4_step 1 := ⟨zb 30 (by decide +kernel) rfl, zb 563 (by decide +kernel) rfl, ⟨by decide +kernel, by decide +kernel, by decide +kernel⟩, by decide⟩
theorem lX4_90 : zCv RX4 90 mX4_step 1 := ⟨zb 560 (by decide +kernel) rfl, zb 562 (by decide +kernel) rfl, zb 9 (by decide +kernel) rfl, aX4_step⟩
theorem aX4_told : zCm mX4_told 1 := ⟨zb 30 (by decide +kernel) rfl, zb 571 (by decide +kernel) rfl, ⟨by decide +kernel, by decide +kernel, by decide +kernel⟩, by decide⟩
theorem lX4_94 : zCv RX4 94 mX4_told 1 := ⟨zb 568 (by decide +kernel) rfl, zb 570 (by decide +kernel) rfl, zb 11 (by decide +kernel) rfl, aX4_told⟩
theorem aX4_isSpan : zCm mX4_isSpan 2 := ⟨zb 30 (by decide +kernel) rfl, zb 592 (by decide +kernel) rfl, ⟨by decide +kernel, by decide +kernel, by decide +kernel⟩, by decide⟩
theorem lX4_100 : zCv RX4 100 mX4_isSpan 2 := ⟨zb 589 (by decide +kernel) rfl, zb 591 (by decide +kernel) rfl, zb 12 (by decide +kernel) rfl, aX4_isSpan⟩
theorem aX4_covers : zCm mX4_covers 3 := ⟨zb 30 (by decide +kernel) rfl, zb 596 (by decide +kernel) rfl, ⟨by decide +kernel, by decide +kernel, by decide +kernel⟩, by decide⟩
theorem lX4_104 : zCv RX4 104 mX4_covers 3 := ⟨zb 593 (by decide +kernel) rfl, zb 595 (by decide +kernel) rfl, zb 13 (by decide +kernel) rfl, aX4_covers⟩
theorem aX4_findWays : zCm mX4_findWays 3 := ⟨zb 30 (by decide +kernel) rfl, zb 605 (by decide +kernel) rfl, ⟨by decide +kernel, by decide +kernel, by decide +kernel⟩, by decide⟩
theorem lX4_110 : zCv RX4 110 mX4_findWays 3 := ⟨zb 602 (by decide +kernel) rfl, zb 604 (by decide +kernel) rfl, zb 14 (by decide +kernel) rfl, aX4_findWays⟩
theorem aX4_spread : zCm mX4_spread 2 := ⟨zb 30 (by decide +kernel) rfl, zb 621 (by decide +kernel) rfl, ⟨by decide +kernel, by decide +kernel, by decide +kernel⟩, by decide⟩
theorem lX4_114 : zCv RX4 114 mX4_spread 2 := ⟨zb 618 (by decide +kernel) rfl, zb 620 (by decide +kernel) rfl, zb 16 (by decide +kernel) rfl, aX4_spread⟩
theorem aX4_reach : zCm mX4_reach 2 := ⟨zb 30 (by decide +kernel) rfl, zb 617 (by decide +kernel) rfl, ⟨by decide +kernel, by decide +kernel, by decide +kernel⟩, by decide⟩
theorem lX4_117 : zCv RX4 117 mX4_reach 2 := ⟨zb 614 (by decide +kernel) rfl, zb 616 (by decide +kernel) rfl, zb 15 (by decide +kernel) rfl, aX4_reach⟩
theorem aX4_isOn : zCm mX4_isOn 3 := ⟨zb 30 (by decide +kernel) rfl, zb 650 (by decide +kernel) rfl, ⟨by decide +kernel, by decide +kernel, by decide +kernel⟩, by decide⟩
theorem lX4_127 : zCv RX4 127 mX4_isOn 3 := ⟨zb 647 (by decide +kernel) rfl, zb 649 (by decide +kernel) rfl, zb 21 (by decide +kernel) rfl, aX4_isOn⟩
theorem aX4_enters : zCm mX4_enters 4 := ⟨zb 30 (by decide +kernel) rfl, zb 638 (by decide +kernel) rfl, ⟨by decide +kernel, by decide +kernel, by decide +kernel⟩, by decide⟩
theorem lX4_134 : zCv RX4 134 mX4_enters 4 := ⟨zb 635 (by decide +kernel) rfl, zb 637 (by decide +kernel) rfl, zb 18 (by decide +kernel) rfl, aX4_enters⟩
theorem aX4_goOn : zCm mX4_goOn 3 := ⟨zb 30 (by decide +kernel) rfl, zb 642 (by decide +kernel) rfl, ⟨by decide +kernel, by decide +kernel, by decide +kernel⟩, by decide⟩
theorem lX4_138 : zCv RX4 138 mX4_goOn 3 := ⟨zb 639 (by decide +kernel) rfl, zb 641 (by decide +kernel) rfl, zb 19 (by decide +kernel) rfl, aX4_goOn⟩
theorem aX4_comesBack : zCm mX4_comesBack 3 := ⟨zb 30 (by decide +kernel) rfl, zb 646 (by decide +kernel) rfl, ⟨by decide +kernel, by decide +kernel, by decide +kernel⟩, by decide⟩
theorem lX4_141 : zCv RX4 141 mX4_comesBack 3 := ⟨zb 643 (by decide +kernel) rfl, zb 645 (by decide +kernel) rfl, zb 20 (by decide +kernel) rfl, aX4_comesBack⟩
theorem aX4_findRounds : zCm mX4_findRounds 2 := ⟨zb 30 (by decide +kernel) rfl, zb 634 (by decide +kernel) rfl, ⟨by decide +kernel, by decide +kernel, by decide +kernel⟩, by decide⟩
theorem lX4_147 : zCv RX4 147 mX4_findRounds 2 := ⟨zb 631 (by decide +kernel) rfl, zb 633 (by decide +kernel) rfl, zb 17 (by decide +kernel) rfl, aX4_findRounds⟩
theorem aX4_just : zCm mX4_just 2 := ⟨zb 30 (by decide +kernel) rfl, zb 663 (by decide +kernel) rfl, ⟨by decide +kernel, by decide +kernel, by decide +kernel⟩, by decide⟩
theorem lX4_153 : zCv RX4 153 mX4_just 2 := ⟨zb 660 (by decide +kernel) rfl, zb 662 (by decide +kernel) rfl, zb 22 (by decide +kernel) rfl, aX4_just⟩
theorem aX4_hasPeriod : zCm mX4_hasPeriod 2 := ⟨zb 30 (by decide +kernel) rfl, zb 671 (by decide +kernel) rfl, ⟨by decide +kernel, by decide +kernel, by decide +kernel⟩, by decide⟩
theorem lX4_156 : zCv RX4 156 mX4_hasPeriod 2 := ⟨zb 668 (by decide +kernel) rfl, zb 670 (by decide +kernel) rfl, zb 23 (by decide +kernel) rfl, aX4_hasPeriod⟩
theorem aX4_isAhead : zCm mX4_isAhead 2 := ⟨zb 30 (by decide +kernel) rfl, zb 679 (by decide +kernel) rfl, ⟨by decide +kernel, by decide +kernel, by decide +kernel⟩, by decide⟩
theorem lX4_161 : zCs RX4 161 mX4_isAhead 2 := ⟨zb 677 (by decide +kernel) rfl, zb 678 (by decide +kernel) rfl, aX4_isAhead⟩
theorem aX4_topOf : zCm mX4_topOf 1 := ⟨zb 30 (by decide +kernel) rfl, zb 691 (by decide +kernel) rfl, ⟨by decide +kernel, by decide +kernel, by decide +kernel⟩, by decide⟩
theorem lX4_164 : zCv RX4 164 mX4_topOf 1 := ⟨zb 688 (by decide +kernel) rfl, zb 690 (by decide +kernel) rfl, zb 24 (by decide +kernel) rfl, aX4_topOf⟩
theorem qX0_19 : Cond.constantLong RX0 19 (100000) ∈ zB := zb 184 (by decide +kernel) rfl
theorem qX3_73 : Cond.constantLong RX3 73 (-2) ∈ zB := zb 191 (by decide +kernel) rfl
theorem qX3_90 : Cond.constantLong RX3 90 (-3) ∈ zB := zb 234 (by decide +kernel) rfl
theorem qX3_138 : Cond.constantLong RX3 138 (-1) ∈ zB := zb 387 (by decide +kernel) rfl
theorem qX3_172 : Cond.constantLong RX3 172 (167) ∈ zB := zb 448 (by decide +kernel) rfl
theorem qX3_174 : Cond.constantLong RX3 174 (31) ∈ zB := zb 449 (by decide +kernel) rfl
theorem qX4_45 : Cond.constantLong RX4 45 (7) ∈ zB := zb 513 (by decide +kernel) rfl
theorem qX4_55 : Cond.constantLong RX4 55 (5) ∈ zB := zb 517 (by decide +kernel) rfl
theorem qX4_61 : Cond.constantLong RX4 61 (100000) ∈ zB := zb 550 (by decide +kernel) rfl
theorem qX4_86 : Cond.constantLong RX4 86 (1000) ∈ zB := zb 551 (by decide +kernel) rfl
theorem qX4_88 : Cond.constantLong RX4 88 (-2) ∈ zB := zb 552 (by decide +kernel) rfl
theorem qX4_98 : Cond.constantLong RX4 98 (-3) ∈ zB := zb 584 (by decide +kernel) rfl
theorem qX4_108 : Cond.constantLong RX4 108 (10) ∈ zB := zb 601 (by decide +kernel) rfl
theorem qX4_145 : Cond.constantLong RX4 145 (6) ∈ zB := zb 630 (by decide +kernel) rfl
theorem qX4_151 : Cond.constantLong RX4 151 (-1) ∈ zB := zb 655 (by decide +kernel) rfl
theorem qX4_159 : Cond.constantLong RX4 159 (64) ∈ zB := zb 676 (by decide +kernel) rfl
theorem qX4_167 : Cond.constantLong RX4 167 (167) ∈ zB := zb 704 (by decide +kernel) rfl
theorem qX4_169 : Cond.constantLong RX4 169 (31) ∈ zB := zb 705 (by decide +kernel) rfl
end
section
def tX0_flatten : zTb := [(0, .aload_n 0, 1, zU), (1, .iload_n 1, 2, zU), (2, .putfield 9, 5, zU), (5, .iconst 0, 6, .int 0), (6, .istore_n 2, 7, zU), (7, .iload_n 2, 8, zU), (8, .iconst 5, 9, .int 5), (9, .if_icmp .gt 16, 12, .retAddr 25), (12, .aload_n 0, 13, zU), (13, .getfield 15, 16, zU), (16, .iload_n 2, 17, zU), (17, .iconst 0, 18, .int 0), (18, .iastore, 19, zU), (19, .iinc 2 1, 22, .int (1)), (22, .goto (-15), 7, zU), (25, .return_, 26, zU)]
set_option maxRecDepth 20000 in
theorem kX0_flatten : zTab mX0_flatten tX0_flatten := by
  unfold zTab
  decide +kernel
def tX0_become : zTb := [(0, .aload_n 0, 1, zU), (1, .aload_n 1, 2, zU), (2, .getfield 9, 5, zU), (5, .putfield 9, 8, zU), (8, .iconst 0, 9, .int 0), (9, .istore_n 2, 10, zU), (10, .iload_n 2, 11, zU), (11, .iconst 5, 12, .int 5), (12, .if_icmp .gt 21, 15, .retAddr 33), (15, .aload_n 0, 16, zU), (16, .getfield 15, 19, zU), (19, .iload_n 2, 20, zU), (20, .aload_n 1, 21, zU), (21, .getfield 15, 24, zU), (24, .iload_n 2, 25, zU), (25, .iaload, 26, zU), (26, .iastore, 27, zU), (27, .iinc 2 1, 30, .int (1)), (30, .goto (-20), 10, zU), (33, .return_, 34, zU)]
set_option maxRecDepth 20000 in
theorem kX0_become : zTab mX0_become tX0_become := by
  unfold zTab
  decide +kernel
def tX0_becomeTurned : zTb := [(0, .aload_n 1, 1, zU), (1, .getfield 9, 4, zU), (4, .istore_n 2, 5, zU), (5, .iconst 0, 6, .int 0), (6, .istore_n 3, 7, zU), (7, .iload_n 3, 8, zU), (8, .iload_n 2, 9, zU), (9, .iload_n 3, 10, zU), (10, .isub, 11, zU), (11, .if_icmp .gt 52, 14, .retAddr 63), (14, .iload_n 2, 15, zU), (15, .iload_n 3, 16, zU), (16, .isub, 17, zU), (17, .istore 4, 19, zU), (19, .iload_n 2, 20, zU), (20, .aload_n 1, 21, zU), (21, .getfield 15, 24, zU), (24, .iload 4, 26, zU), (26, .iaload, 27, zU), (27, .isub, 28, zU), (28, .istore 5, 30, zU), (30, .iload_n 2, 31, zU), (31, .aload_n 1, 32, zU), (32, .getfield 15, 35, zU), (35, .iload_n 3, 36, zU), (36, .iaload, 37, zU), (37, .isub, 38, zU), (38, .istore 6, 40, zU), (40, .aload_n 0, 41, zU), (41, .getfield 15, 44, zU), (44, .iload_n 3, 45, zU), (45, .iload 5, 47, zU), (47, .iastore, 48, zU), (48, .aload_n 0, 49, zU), (49, .getfield 15, 52, zU), (52, .iload 4, 54, zU), (54, .iload 6, 56, zU), (56, .iastore, 57, zU), (57, .iinc 3 1, 60, .int (1)), (60, .goto (-53), 7, zU), (63, .aload_n 0, 64, zU), (64, .iload_n 2, 65, zU), (65, .putfield 9, 68, zU), (68, .return_, 69, zU)]
set_option maxRecDepth 20000 in
theorem kX0_becomeTurned : zTab mX0_becomeTurned tX0_becomeTurned := by
  unfold zTab
  decide +kernel
def tX0_hasCorner : zTb := [(0, .iload_n 1, 1, zU), (1, .ifCond .lt 15, 4, .retAddr 16), (4, .iload_n 1, 5, zU), (5, .aload_n 0, 6, zU), (6, .getfield 9, 9, zU), (9, .if_icmp .gt 7, 12, .retAddr 16), (12, .iconst 1, 13, .int 1), (13, .goto 4, 17, zU), (16, .iconst 0, 17, .int 0), (17, .ireturn, 18, zU)]
set_option maxRecDepth 20000 in
theorem kX0_hasCorner : zTab mX0_hasCorner tX0_hasCorner := by
  unfold zTab
  decide +kernel
def tX0_hasSpan : zTb := [(0, .iload_n 1, 1, zU), (1, .ifCond .lt 15, 4, .retAddr 16), (4, .iload_n 1, 5, zU), (5, .aload_n 0, 6, zU), (6, .getfield 9, 9, zU), (9, .if_icmp .ge 7, 12, .retAddr 16), (12, .iconst 1, 13, .int 1), (13, .goto 4, 17, zU), (16, .iconst 0, 17, .int 0), (17, .ireturn, 18, zU)]
set_option maxRecDepth 20000 in
theorem kX0_hasSpan : zTab mX0_hasSpan tX0_hasSpan := by
  unfold zTab
  decide +kernel
def tX0_hasPoint : zTb := [(0, .lload_n 3, 1, zU), (1, .lconst 1, 2, .long 1), (2, .lcmp, 3, zU), (3, .ifCond .lt 33, 6, .retAddr 36), (6, .lload_n 3, 7, zU), (7, .ldc2_w 19, 10, zU), (10, .lcmp, 11, zU), (11, .ifCond .gt 25, 14, .retAddr 36), (14, .lload_n 1, 15, zU), (15, .lconst 0, 16, .long 0), (16, .lcmp, 17, zU), (17, .ifCond .lt 19, 20, .retAddr 36), (20, .lload_n 1, 21, zU), (21, .aload_n 0, 22, zU), (22, .getfield 9, 25, zU), (25, .i2l, 26, zU), (26, .lload_n 3, 27, zU), (27, .lmul, 28, zU), (28, .lcmp, 29, zU), (29, .ifCond .gt 7, 32, .retAddr 36), (32, .iconst 1, 33, .int 1), (33, .goto 4, 37, zU), (36, .iconst 0, 37, .int 0), (37, .ireturn, 38, zU)]
set_option maxRecDepth 20000 in
theorem kX0_hasPoint : zTab mX0_hasPoint tX0_hasPoint := by
  unfold zTab
  decide +kernel
def tX0_slopeOf : zTb := [(0, .aload_n 0, 1, zU), (1, .getfield 15, 4, zU), (4, .iload_n 1, 5, zU), (5, .iconst 1, 6, .int 1), (6, .iadd, 7, zU), (7, .iaload, 8, zU), (8, .aload_n 0, 9, zU), (9, .getfield 15, 12, zU), (12, .iload_n 1, 13, zU), (13, .iaload, 14, zU), (14, .isub, 15, zU), (15, .ireturn, 16, zU)]
set_option maxRecDepth 20000 in
theorem kX0_slopeOf : zTab mX0_slopeOf tX0_slopeOf := by
  unfold zTab
  decide +kernel
def tX0_spanOf : zTb := [(0, .lload_n 3, 1, zU), (1, .lconst 0, 2, .long 0), (2, .lcmp, 3, zU), (3, .ifCond .gt 5, 6, .retAddr 8), (6, .iconst 0, 7, .int 0), (7, .ireturn, 8, zU), (8, .lconst 0, 9, .long 0), (9, .lload_n 1, 10, zU), (10, .lload_n 3, 11, zU), (11, .ldiv, 12, zU), (12, .aload_n 0, 13, zU), (13, .getfield 9, 16, zU), (16, .i2l, 17, zU), (17, .lconst 1, 18, .long 1), (18, .lsub, 19, zU), (19, .invokestatic 21, 22, zU), (22, .invokestatic 27, 25, zU), (25, .l2i, 26, zU), (26, .ireturn, 27, zU)]
set_option maxRecDepth 20000 in
theorem kX0_spanOf : zTab mX0_spanOf tX0_spanOf := by
  unfold zTab
  decide +kernel
def tX0_step : zTb := [(0, .aload_n 0, 1, zU), (1, .lload_n 1, 2, zU), (2, .lload_n 3, 3, zU), (3, .invokevirtual 30, 6, zU), (6, .istore 5, 8, zU), (8, .aload_n 0, 9, zU), (9, .getfield 15, 12, zU), (12, .iload 5, 14, zU), (14, .iaload, 15, zU), (15, .i2l, 16, zU), (16, .lload_n 3, 17, zU), (17, .lmul, 18, zU), (18, .aload_n 0, 19, zU), (19, .iload 5, 21, zU), (21, .invokevirtual 34, 24, zU), (24, .i2l, 25, zU), (25, .lload_n 1, 26, zU), (26, .iload 5, 28, zU), (28, .i2l, 29, zU), (29, .lload_n 3, 30, zU), (30, .lmul, 31, zU), (31, .lsub, 32, zU), (32, .lmul, 33, zU), (33, .ladd, 34, zU), (34, .lreturn, 35, zU)]
set_option maxRecDepth 20000 in
theorem kX0_step : zTab mX0_step tX0_step := by
  unfold zTab
  decide +kernel
def tX0_follow : zTb := [(0, .lload_n 1, 1, zU), (1, .lstore 6, 3, zU), (3, .iconst 0, 4, .int 0), (4, .istore 8, 6, zU), (6, .iload 8, 8, zU), (8, .iload 5, 10, zU), (10, .if_icmp .ge 18, 13, .retAddr 28), (13, .aload_n 0, 14, zU), (14, .lload 6, 16, zU), (16, .lload_n 3, 17, zU), (17, .invokevirtual 38, 20, zU), (20, .lstore 6, 22, zU), (22, .iinc 8 1, 25, .int (1)), (25, .goto (-19), 6, zU), (28, .lload 6, 30, zU), (30, .lreturn, 31, zU)]
set_option maxRecDepth 20000 in
theorem kX0_follow : zTab mX0_follow tX0_follow := by
  unfold zTab
  decide +kernel
def tX0_twistedOrder : zTb := [(0, .iconst (-1), 1, .int (-1)), (1, .istore 10, 3, zU), (3, .lload_n 1, 4, zU), (4, .lstore 11, 6, zU), (6, .lload 5, 8, zU), (8, .lstore 13, 10, zU), (10, .iconst 0, 11, .int 0), (11, .istore 15, 13, zU), (13, .iload 15, 15, zU), (15, .iload 9, 17, zU), (17, .if_icmp .ge 100, 20, .retAddr 117), (20, .aload_n 0, 21, zU), (21, .lload 11, 23, zU), (23, .lload_n 3, 24, zU), (24, .invokevirtual 30, 27, zU), (27, .istore 16, 29, zU), (29, .aload_n 0, 30, zU), (30, .lload 13, 32, zU), (32, .lload 7, 34, zU), (34, .invokevirtual 30, 37, zU), (37, .istore 17, 39, zU), (39, .iload 16, 41, zU), (41, .iload 17, 43, zU), (43, .if_icmp .eq 19, 46, .retAddr 62), (46, .iload 16, 48, zU), (48, .iload 17, 50, zU), (50, .if_icmp .ge 8, 53, .retAddr 58), (53, .iload 10, 55, zU), (55, .goto 6, 61, zU), (58, .iload 10, 60, zU), (60, .ineg, 61, zU), (61, .ireturn, 62, zU), (62, .aload_n 0, 63, zU), (63, .iload 16, 65, zU), (65, .invokevirtual 34, 68, zU), (68, .istore 18, 70, zU), (70, .iload 18, 72, zU), (72, .ifCond .ne 5, 75, .retAddr 77), (75, .iconst 0, 76, .int 0), (76, .ireturn, 77, zU), (77, .iload 18, 79, zU), (79, .ifCond .ge 9, 82, .retAddr 88), (82, .iload 10, 84, zU), (84, .ineg, 85, zU), (85, .goto 5, 90, zU), (88, .iload 10, 90, zU), (90, .istore 10, 92, zU), (92, .aload_n 0, 93, zU), (93, .lload 11, 95, zU), (95, .lload_n 3, 96, zU), (96, .invokevirtual 38, 99, zU), (99, .lstore 11, 101, zU), (101, .aload_n 0, 102, zU), (102, .lload 13, 104, zU), (104, .lload 7, 106, zU), (106, .invokevirtual 38, 109, zU), (109, .lstore 13, 111, zU), (111, .iinc 15 1, 114, .int (1)), (114, .goto (-101), 13, zU), (117, .iconst 0, 118, .int 0), (118, .ireturn, 119, zU)]
set_option maxRecDepth 20000 in
theorem kX0_twistedOrder : zTab mX0_twistedOrder tX0_twistedOrder := by
  unfold zTab
  decide +kernel
def tX0_leadsOver : zTb := [(0, .aload_n 0, 1, zU), (1, .getfield 15, 4, zU), (4, .iload_n 1, 5, zU), (5, .iaload, 6, zU), (6, .aload_n 0, 7, zU), (7, .getfield 15, 10, zU), (10, .iload_n 1, 11, zU), (11, .iconst 1, 12, .int 1), (12, .iadd, 13, zU), (13, .iaload, 14, zU), (14, .invokestatic 41, 17, zU), (17, .iload_n 2, 18, zU), (18, .if_icmp .gt 28, 21, .retAddr 46), (21, .iload_n 2, 22, zU), (22, .aload_n 0, 23, zU), (23, .getfield 15, 26, zU), (26, .iload_n 1, 27, zU), (27, .iaload, 28, zU), (28, .aload_n 0, 29, zU), (29, .getfield 15, 32, zU), (32, .iload_n 1, 33, zU), (33, .iconst 1, 34, .int 1), (34, .iadd, 35, zU), (35, .iaload, 36, zU), (36, .invokestatic 44, 39, zU), (39, .if_icmp .ge 7, 42, .retAddr 46), (42, .iconst 1, 43, .int 1), (43, .goto 4, 47, zU), (46, .iconst 0, 47, .int 0), (47, .ireturn, 48, zU)]
set_option maxRecDepth 20000 in
theorem kX0_leadsOver : zTab mX0_leadsOver tX0_leadsOver := by
  unfold zTab
  decide +kernel
def tX0_allSpans : zTb := [(0, .iconst 1, 1, .int 1), (1, .aload_n 0, 2, zU), (2, .getfield 9, 5, zU), (5, .ishl, 6, zU), (6, .iconst 1, 7, .int 1), (7, .isub, 8, zU), (8, .ireturn, 9, zU)]
set_option maxRecDepth 20000 in
theorem kX0_allSpans : zTab mX0_allSpans tX0_allSpans := by
  unfold zTab
  decide +kernel
def tX0_spansAfter : zTb := [(0, .iconst 0, 1, .int 0), (1, .istore_n 2, 2, zU), (2, .iconst 0, 3, .int 0), (3, .istore_n 3, 4, zU), (4, .iload_n 3, 5, zU), (5, .aload_n 0, 6, zU), (6, .getfield 9, 9, zU), (9, .if_icmp .ge 60, 12, .retAddr 69), (12, .iload_n 1, 13, zU), (13, .iload_n 3, 14, zU), (14, .ishr, 15, zU), (15, .iconst 1, 16, .int 1), (16, .iand, 17, zU), (17, .iconst 1, 18, .int 1), (18, .if_icmp .ne 45, 21, .retAddr 63), (21, .iload_n 2, 22, zU), (22, .iconst 1, 23, .int 1), (23, .aload_n 0, 24, zU), (24, .getfield 15, 27, zU), (27, .iload_n 3, 28, zU), (28, .iaload, 29, zU), (29, .aload_n 0, 30, zU), (30, .getfield 15, 33, zU), (33, .iload_n 3, 34, zU), (34, .iconst 1, 35, .int 1), (35, .iadd, 36, zU), (36, .iaload, 37, zU), (37, .invokestatic 44, 40, zU), (40, .ishl, 41, zU), (41, .iconst 1, 42, .int 1), (42, .aload_n 0, 43, zU), (43, .getfield 15, 46, zU), (46, .iload_n 3, 47, zU), (47, .iaload, 48, zU), (48, .aload_n 0, 49, zU), (49, .getfield 15, 52, zU), (52, .iload_n 3, 53, zU), (53, .iconst 1, 54, .int 1), (54, .iadd, 55, zU), (55, .iaload, 56, zU), (56, .invokestatic 41, 59, zU), (59, .ishl, 60, zU), (60, .isub, 61, zU), (61, .ior, 62, zU), (62, .istore_n 2, 63, zU), (63, .iinc 3 1, 66, .int (1)), (66, .goto (-62), 4, zU), (69, .iload_n 2, 70, zU), (70, .ireturn, 71, zU)]
set_option maxRecDepth 20000 in
theorem kX0_spansAfter : zTab mX0_spansAfter tX0_spansAfter := by
  unfold zTab
  decide +kernel
def tX0_wayLeads : zTb := [(0, .iconst 1, 1, .int 1), (1, .iload_n 1, 2, zU), (2, .ishl, 3, zU), (3, .istore_n 3, 4, zU), (4, .iconst 0, 5, .int 0), (5, .istore 4, 7, zU), (7, .iload 4, 9, zU), (9, .aload_n 0, 10, zU), (10, .getfield 9, 13, zU), (13, .if_icmp .ge 17, 16, .retAddr 30), (16, .iload_n 3, 17, zU), (17, .aload_n 0, 18, zU), (18, .iload_n 3, 19, zU), (19, .invokevirtual 46, 22, zU), (22, .ior, 23, zU), (23, .istore_n 3, 24, zU), (24, .iinc 4 1, 27, .int (1)), (27, .goto (-20), 7, zU), (30, .iload_n 3, 31, zU), (31, .iload_n 2, 32, zU), (32, .ishr, 33, zU), (33, .iconst 1, 34, .int 1), (34, .iand, 35, zU), (35, .iconst 1, 36, .int 1), (36, .if_icmp .ne 7, 39, .retAddr 43), (39, .iconst 1, 40, .int 1), (40, .goto 4, 44, zU), (43, .iconst 0, 44, .int 0), (44, .ireturn, 45, zU)]
set_option maxRecDepth 20000 in
theorem kX0_wayLeads : zTab mX0_wayLeads tX0_wayLeads := by
  unfold zTab
  decide +kernel
def tX0_leastOfPart : zTb := [(0, .iconst 0, 1, .int 0), (1, .istore_n 2, 2, zU), (2, .iload_n 2, 3, zU), (3, .iload_n 1, 4, zU), (4, .if_icmp .ge 29, 7, .retAddr 33), (7, .aload_n 0, 8, zU), (8, .iload_n 1, 9, zU), (9, .iload_n 2, 10, zU), (10, .invokevirtual 49, 13, zU), (13, .ifCond .eq 14, 16, .retAddr 27), (16, .aload_n 0, 17, zU), (17, .iload_n 2, 18, zU), (18, .iload_n 1, 19, zU), (19, .invokevirtual 49, 22, zU), (22, .ifCond .eq 5, 25, .retAddr 27), (25, .iload_n 2, 26, zU), (26, .ireturn, 27, zU), (27, .iinc 2 1, 30, .int (1)), (30, .goto (-28), 2, zU), (33, .iload_n 1, 34, zU), (34, .ireturn, 35, zU)]
set_option maxRecDepth 20000 in
theorem kX0_leastOfPart : zTab mX0_leastOfPart tX0_leastOfPart := by
  unfold zTab
  decide +kernel
def tX0_stepsToMix : zTb := [(0, .iconst 0, 1, .int 0), (1, .istore_n 1, 2, zU), (2, .iconst 0, 3, .int 0), (3, .istore_n 2, 4, zU), (4, .iload_n 2, 5, zU), (5, .aload_n 0, 6, zU), (6, .getfield 9, 9, zU), (9, .if_icmp .ge 28, 12, .retAddr 37), (12, .aload_n 0, 13, zU), (13, .iload_n 2, 14, zU), (14, .invokevirtual 53, 17, zU), (17, .istore_n 3, 18, zU), (18, .iload_n 3, 19, zU), (19, .iconst (-1), 20, .int (-1)), (20, .if_icmp .ne 5, 23, .retAddr 25), (23, .iconst (-1), 24, .int (-1)), (24, .ireturn, 25, zU), (25, .iload_n 1, 26, zU), (26, .iload_n 3, 27, zU), (27, .invokestatic 44, 30, zU), (30, .istore_n 1, 31, zU), (31, .iinc 2 1, 34, .int (1)), (34, .goto (-30), 4, zU), (37, .iload_n 1, 38, zU), (38, .ireturn, 39, zU)]
set_option maxRecDepth 20000 in
theorem kX0_stepsToMix : zTab mX0_stepsToMix tX0_stepsToMix := by
  unfold zTab
  decide +kernel
def tX0_stepsToAll : zTb := [(0, .iconst 1, 1, .int 1), (1, .iload_n 1, 2, zU), (2, .ishl, 3, zU), (3, .istore_n 2, 4, zU), (4, .iconst 1, 5, .int 1), (5, .istore_n 3, 6, zU), (6, .iload_n 3, 7, zU), (7, .bipush 64, 9, .int 64), (9, .if_icmp .gt 25, 12, .retAddr 34), (12, .aload_n 0, 13, zU), (13, .iload_n 2, 14, zU), (14, .invokevirtual 46, 17, zU), (17, .istore_n 2, 18, zU), (18, .iload_n 2, 19, zU), (19, .aload_n 0, 20, zU), (20, .invokevirtual 56, 23, zU), (23, .if_icmp .ne 5, 26, .retAddr 28), (26, .iload_n 3, 27, zU), (27, .ireturn, 28, zU), (28, .iinc 3 1, 31, .int (1)), (31, .goto (-25), 6, zU), (34, .iconst (-1), 35, .int (-1)), (35, .ireturn, 36, zU)]
set_option maxRecDepth 20000 in
theorem kX0_stepsToAll : zTab mX0_stepsToAll tX0_stepsToAll := by
  unfold zTab
  decide +kernel
def tX0_cornerAfter : zTb := [(0, .iload_n 1, 1, zU), (1, .istore_n 3, 2, zU), (2, .iconst 0, 3, .int 0), (3, .istore 4, 5, zU), (5, .iload 4, 7, zU), (7, .iload_n 2, 8, zU), (8, .if_icmp .ge 16, 11, .retAddr 24), (11, .aload_n 0, 12, zU), (12, .getfield 15, 15, zU), (15, .iload_n 3, 16, zU), (16, .iaload, 17, zU), (17, .istore_n 3, 18, zU), (18, .iinc 4 1, 21, .int (1)), (21, .goto (-16), 5, zU), (24, .iload_n 3, 25, zU), (25, .ireturn, 26, zU)]
set_option maxRecDepth 20000 in
theorem kX0_cornerAfter : zTab mX0_cornerAfter tX0_cornerAfter := by
  unfold zTab
  decide +kernel
def tX0_stepsOfRound : zTb := [(0, .iload_n 1, 1, zU), (1, .istore_n 2, 2, zU), (2, .iconst 1, 3, .int 1), (3, .istore_n 3, 4, zU), (4, .iload_n 3, 5, zU), (5, .aload_n 0, 6, zU), (6, .getfield 9, 9, zU), (9, .iconst 1, 10, .int 1), (10, .iadd, 11, zU), (11, .if_icmp .gt 23, 14, .retAddr 34), (14, .aload_n 0, 15, zU), (15, .getfield 15, 18, zU), (18, .iload_n 2, 19, zU), (19, .iaload, 20, zU), (20, .istore_n 2, 21, zU), (21, .iload_n 2, 22, zU), (22, .iload_n 1, 23, zU), (23, .if_icmp .ne 5, 26, .retAddr 28), (26, .iload_n 3, 27, zU), (27, .ireturn, 28, zU), (28, .iinc 3 1, 31, .int (1)), (31, .goto (-27), 4, zU), (34, .iconst 0, 35, .int 0), (35, .ireturn, 36, zU)]
set_option maxRecDepth 20000 in
theorem kX0_stepsOfRound : zTab mX0_stepsOfRound tX0_stepsOfRound := by
  unfold zTab
  decide +kernel
def tX0_stepsAheadOfRound : zTb := [(0, .iload_n 1, 1, zU), (1, .istore_n 2, 2, zU), (2, .iconst 0, 3, .int 0), (3, .istore_n 3, 4, zU), (4, .iload_n 3, 5, zU), (5, .aload_n 0, 6, zU), (6, .getfield 9, 9, zU), (9, .if_icmp .gt 24, 12, .retAddr 33), (12, .aload_n 0, 13, zU), (13, .iload_n 2, 14, zU), (14, .invokevirtual 60, 17, zU), (17, .ifCond .ne 16, 20, .retAddr 33), (20, .aload_n 0, 21, zU), (21, .getfield 15, 24, zU), (24, .iload_n 2, 25, zU), (25, .iaload, 26, zU), (26, .istore_n 2, 27, zU), (27, .iinc 3 1, 30, .int (1)), (30, .goto (-26), 4, zU), (33, .iload_n 3, 34, zU), (34, .ireturn, 35, zU)]
set_option maxRecDepth 20000 in
theorem kX0_stepsAheadOfRound : zTab mX0_stepsAheadOfRound tX0_stepsAheadOfRound := by
  unfold zTab
  decide +kernel
def tX0_findTop : zTb := [(0, .iconst 0, 1, .int 0), (1, .istore_n 1, 2, zU), (2, .iload_n 1, 3, zU), (3, .aload_n 0, 4, zU), (4, .getfield 9, 7, zU), (7, .if_icmp .ge 17, 10, .retAddr 24), (10, .aload_n 0, 11, zU), (11, .iload_n 1, 12, zU), (12, .invokevirtual 34, 15, zU), (15, .ifCond .le 9, 18, .retAddr 24), (18, .iinc 1 1, 21, .int (1)), (21, .goto (-19), 2, zU), (24, .iload_n 1, 25, zU), (25, .istore_n 2, 26, zU), (26, .iload_n 2, 27, zU), (27, .aload_n 0, 28, zU), (28, .getfield 9, 31, zU), (31, .if_icmp .ge 19, 34, .retAddr 50), (34, .aload_n 0, 35, zU), (35, .iload_n 2, 36, zU), (36, .invokevirtual 34, 39, zU), (39, .ifCond .lt 5, 42, .retAddr 44), (42, .iconst (-1), 43, .int (-1)), (43, .ireturn, 44, zU), (44, .iinc 2 1, 47, .int (1)), (47, .goto (-21), 26, zU), (50, .iload_n 1, 51, zU), (51, .ifCond .le 15, 54, .retAddr 66), (54, .iload_n 1, 55, zU), (55, .aload_n 0, 56, zU), (56, .getfield 9, 59, zU), (59, .if_icmp .ge 7, 62, .retAddr 66), (62, .iload_n 1, 63, zU), (63, .goto 4, 67, zU), (66, .iconst (-1), 67, .int (-1)), (67, .ireturn, 68, zU)]
set_option maxRecDepth 20000 in
theorem kX0_findTop : zTab mX0_findTop tX0_findTop := by
  unfold zTab
  decide +kernel
def tX0_nextEdge : zTb := [(0, .iload_n 1, 1, zU), (1, .iconst 2, 2, .int 2), (2, .idiv, 3, zU), (3, .istore_n 2, 4, zU), (4, .iload_n 1, 5, zU), (5, .iconst 2, 6, .int 2), (6, .irem, 7, zU), (7, .ifCond .ne 7, 10, .retAddr 14), (10, .iconst 1, 11, .int 1), (11, .goto 4, 15, zU), (14, .iconst 0, 15, .int 0), (15, .istore_n 3, 16, zU), (16, .iload_n 3, 17, zU), (17, .ifCond .eq 12, 20, .retAddr 29), (20, .aload_n 0, 21, zU), (21, .getfield 15, 24, zU), (24, .iload_n 2, 25, zU), (25, .iaload, 26, zU), (26, .goto 11, 37, zU), (29, .aload_n 0, 30, zU), (30, .getfield 15, 33, zU), (33, .iload_n 2, 34, zU), (34, .iconst 1, 35, .int 1), (35, .iadd, 36, zU), (36, .iaload, 37, zU), (37, .istore 4, 39, zU), (39, .aload_n 0, 40, zU), (40, .iload_n 2, 41, zU), (41, .invokevirtual 34, 44, zU), (44, .ifCond .le 7, 47, .retAddr 51), (47, .iconst 1, 48, .int 1), (48, .goto 4, 52, zU), (51, .iconst 0, 52, .int 0), (52, .istore 5, 54, zU), (54, .iload_n 3, 55, zU), (55, .iload 5, 57, zU), (57, .if_icmp .ne 10, 60, .retAddr 67), (60, .iconst 2, 61, .int 2), (61, .iload 4, 63, zU), (63, .imul, 64, zU), (64, .goto 9, 73, zU), (67, .iconst 2, 68, .int 2), (68, .iload 4, 70, zU), (70, .imul, 71, zU), (71, .iconst 1, 72, .int 1), (72, .isub, 73, zU), (73, .ireturn, 74, zU)]
set_option maxRecDepth 20000 in
theorem kX0_nextEdge : zTab mX0_nextEdge tX0_nextEdge := by
  unfold zTab
  decide +kernel
def tX1_raise : zTb := [(0, .aload_n 0, 1, zU), (1, .aload_n 1, 2, zU), (2, .getfield 20, 5, zU), (5, .putfield 16, 8, zU), (8, .iconst 0, 9, .int 0), (9, .istore_n 3, 10, zU), (10, .iload_n 3, 11, zU), (11, .aload_n 0, 12, zU), (12, .getfield 16, 15, zU), (15, .if_icmp .ge 51, 18, .retAddr 66), (18, .iconst 0, 19, .int 0), (19, .istore 4, 21, zU), (21, .iload 4, 23, zU), (23, .aload_n 0, 24, zU), (24, .getfield 16, 27, zU), (27, .if_icmp .ge 33, 30, .retAddr 60), (30, .aload_n 0, 31, zU), (31, .getfield 11, 34, zU), (34, .iconst 0, 35, .int 0), (35, .aaload, 36, zU), (36, .iload_n 3, 37, zU), (37, .iconst 5, 38, .int 5), (38, .imul, 39, zU), (39, .iload 4, 41, zU), (41, .iadd, 42, zU), (42, .iload_n 3, 43, zU), (43, .iload 4, 45, zU), (45, .if_icmp .ne 7, 48, .retAddr 52), (48, .lconst 1, 49, .long 1), (49, .goto 4, 53, zU), (52, .lconst 0, 53, .long 0), (53, .lastore, 54, zU), (54, .iinc 4 1, 57, .int (1)), (57, .goto (-36), 21, zU), (60, .iinc 3 1, 63, .int (1)), (63, .goto (-53), 10, zU), (66, .iconst 1, 67, .int 1), (67, .istore_n 3, 68, zU), (68, .iload_n 3, 69, zU), (69, .iload_n 2, 70, zU), (70, .if_icmp .gt 21, 73, .retAddr 91), (73, .iload_n 3, 74, zU), (74, .bipush 10, 76, .int 10), (76, .if_icmp .gt 15, 79, .retAddr 91), (79, .aload_n 0, 80, zU), (80, .aload_n 1, 81, zU), (81, .iload_n 3, 82, zU), (82, .invokevirtual 25, 85, zU), (85, .iinc 3 1, 88, .int (1)), (88, .goto (-20), 68, zU), (91, .return_, 92, zU)]
set_option maxRecDepth 20000 in
theorem kX1_raise : zTab mX1_raise tX1_raise := by
  unfold zTab
  decide +kernel
def tX1_multiply : zTb := [(0, .iconst 0, 1, .int 0), (1, .istore_n 3, 2, zU), (2, .iload_n 3, 3, zU), (3, .aload_n 0, 4, zU), (4, .getfield 16, 7, zU), (7, .if_icmp .ge 93, 10, .retAddr 100), (10, .iconst 0, 11, .int 0), (11, .istore 4, 13, zU), (13, .iload 4, 15, zU), (15, .aload_n 0, 16, zU), (16, .getfield 16, 19, zU), (19, .if_icmp .ge 75, 22, .retAddr 94), (22, .lconst 0, 23, .long 0), (23, .lstore 5, 25, zU), (25, .iconst 0, 26, .int 0), (26, .istore 7, 28, zU), (28, .iload 7, 30, zU), (30, .aload_n 0, 31, zU), (31, .getfield 16, 34, zU), (34, .if_icmp .ge 39, 37, .retAddr 73), (37, .lload 5, 39, zU), (39, .aload_n 1, 40, zU), (40, .iload_n 3, 41, zU), (41, .iload 7, 43, zU), (43, .invokevirtual 29, 46, zU), (46, .ifCond .eq 17, 49, .retAddr 63), (49, .aload_n 0, 50, zU), (50, .iload 7, 52, zU), (52, .iload 4, 54, zU), (54, .iload_n 2, 55, zU), (55, .iconst 1, 56, .int 1), (56, .isub, 57, zU), (57, .invokevirtual 33, 60, zU), (60, .goto 4, 64, zU), (63, .lconst 0, 64, .long 0), (64, .ladd, 65, zU), (65, .lstore 5, 67, zU), (67, .iinc 7 1, 70, .int (1)), (70, .goto (-42), 28, zU), (73, .aload_n 0, 74, zU), (74, .getfield 11, 77, zU), (77, .iload_n 2, 78, zU), (78, .aaload, 79, zU), (79, .iload_n 3, 80, zU), (80, .iconst 5, 81, .int 5), (81, .imul, 82, zU), (82, .iload 4, 84, zU), (84, .iadd, 85, zU), (85, .lload 5, 87, zU), (87, .lastore, 88, zU), (88, .iinc 4 1, 91, .int (1)), (91, .goto (-78), 13, zU), (94, .iinc 3 1, 97, .int (1)), (97, .goto (-95), 2, zU), (100, .return_, 101, zU)]
set_option maxRecDepth 20000 in
theorem kX1_multiply : zTab mX1_multiply tX1_multiply := by
  unfold zTab
  decide +kernel
def tX1_between : zTb := [(0, .aload_n 0, 1, zU), (1, .getfield 11, 4, zU), (4, .iload_n 3, 5, zU), (5, .aaload, 6, zU), (6, .iload_n 1, 7, zU), (7, .iconst 5, 8, .int 5), (8, .imul, 9, zU), (9, .iload_n 2, 10, zU), (10, .iadd, 11, zU), (11, .laload, 12, zU), (12, .lreturn, 13, zU)]
set_option maxRecDepth 20000 in
theorem kX1_between : zTab mX1_between tX1_between := by
  unfold zTab
  decide +kernel
def tX1_sum : zTb := [(0, .lconst 0, 1, .long 0), (1, .lstore_n 2, 2, zU), (2, .iconst 0, 3, .int 0), (3, .istore 4, 5, zU), (5, .iload 4, 7, zU), (7, .aload_n 0, 8, zU), (8, .getfield 16, 11, zU), (11, .if_icmp .ge 39, 14, .retAddr 50), (14, .iconst 0, 15, .int 0), (15, .istore 5, 17, zU), (17, .iload 5, 19, zU), (19, .aload_n 0, 20, zU), (20, .getfield 16, 23, zU), (23, .if_icmp .ge 21, 26, .retAddr 44), (26, .lload_n 2, 27, zU), (27, .aload_n 0, 28, zU), (28, .iload 4, 30, zU), (30, .iload 5, 32, zU), (32, .iload_n 1, 33, zU), (33, .invokevirtual 33, 36, zU), (36, .ladd, 37, zU), (37, .lstore_n 2, 38, zU), (38, .iinc 5 1, 41, .int (1)), (41, .goto (-24), 17, zU), (44, .iinc 4 1, 47, .int (1)), (47, .goto (-42), 5, zU), (50, .lload_n 2, 51, zU), (51, .lreturn, 52, zU)]
set_option maxRecDepth 20000 in
theorem kX1_sum : zTab mX1_sum tX1_sum := by
  unfold zTab
  decide +kernel
def tX1_closed : zTb := [(0, .lconst 0, 1, .long 0), (1, .lstore_n 2, 2, zU), (2, .iconst 0, 3, .int 0), (3, .istore 4, 5, zU), (5, .iload 4, 7, zU), (7, .aload_n 0, 8, zU), (8, .getfield 16, 11, zU), (11, .if_icmp .ge 21, 14, .retAddr 32), (14, .lload_n 2, 15, zU), (15, .aload_n 0, 16, zU), (16, .iload 4, 18, zU), (18, .iload 4, 20, zU), (20, .iload_n 1, 21, zU), (21, .invokevirtual 33, 24, zU), (24, .ladd, 25, zU), (25, .lstore_n 2, 26, zU), (26, .iinc 4 1, 29, .int (1)), (29, .goto (-24), 5, zU), (32, .lload_n 2, 33, zU), (33, .lreturn, 34, zU)]
set_option maxRecDepth 20000 in
theorem kX1_closed : zTab mX1_closed tX1_closed := by
  unfold zTab
  decide +kernel
def tX2_study : zTb := [(0, .aload_n 0, 1, zU), (1, .aload_n 1, 2, zU), (2, .getfield 41, 5, zU), (5, .putfield 33, 8, zU), (8, .aload_n 0, 9, zU), (9, .getfield 12, 12, zU), (12, .aload_n 1, 13, zU), (13, .bipush 6, 15, .int 6), (15, .invokevirtual 46, 18, zU), (18, .iconst 0, 19, .int 0), (19, .istore_n 2, 20, zU), (20, .iload_n 2, 21, zU), (21, .aload_n 0, 22, zU), (22, .getfield 33, 25, zU), (25, .if_icmp .gt 20, 28, .retAddr 45), (28, .aload_n 0, 29, zU), (29, .getfield 18, 32, zU), (32, .iload_n 2, 33, zU), (33, .aload_n 1, 34, zU), (34, .iload_n 2, 35, zU), (35, .invokevirtual 50, 38, zU), (38, .iastore, 39, zU), (39, .iinc 2 1, 42, .int (1)), (42, .goto (-22), 20, zU), (45, .iconst 0, 46, .int 0), (46, .istore_n 2, 47, zU), (47, .iload_n 2, 48, zU), (48, .iconst 2, 49, .int 2), (49, .aload_n 0, 50, zU), (50, .getfield 33, 53, zU), (53, .imul, 54, zU), (54, .if_icmp .ge 15, 57, .retAddr 69), (57, .aload_n 0, 58, zU), (58, .aload_n 1, 59, zU), (59, .iload_n 2, 60, zU), (60, .invokevirtual 54, 63, zU), (63, .iinc 2 1, 66, .int (1)), (66, .goto (-19), 47, zU), (69, .iconst 1, 70, .int 1), (70, .istore_n 2, 71, zU), (71, .iload_n 2, 72, zU), (72, .bipush 6, 74, .int 6), (74, .if_icmp .gt 63, 77, .retAddr 137), (77, .aload_n 0, 78, zU), (78, .getfield 29, 81, zU), (81, .iload_n 2, 82, zU), (82, .aload_n 0, 83, zU), (83, .getfield 12, 86, zU), (86, .iload_n 2, 87, zU), (87, .invokevirtual 57, 90, zU), (90, .lastore, 91, zU), (91, .iconst 1, 92, .int 1), (92, .istore_n 3, 93, zU), (93, .iload_n 3, 94, zU), (94, .iload_n 2, 95, zU), (95, .if_icmp .ge 36, 98, .retAddr 131), (98, .aload_n 0, 99, zU), (99, .getfield 29, 102, zU), (102, .iload_n 2, 103, zU), (103, .dup2, 104, zU), (104, .laload, 105, zU), (105, .iload_n 3, 106, zU), (106, .iload_n 2, 107, zU), (107, .invokestatic 61, 110, zU), (110, .ifCond .eq 12, 113, .retAddr 122), (113, .aload_n 0, 114, zU), (114, .getfield 29, 117, zU), (117, .iload_n 3, 118, zU), (118, .laload, 119, zU), (119, .goto 4, 123, zU), (122, .lconst 0, 123, .long 0), (123, .lsub, 124, zU), (124, .lastore, 125, zU), (125, .iinc 3 1, 128, .int (1)), (128, .goto (-35), 93, zU), (131, .iinc 2 1, 134, .int (1)), (134, .goto (-63), 71, zU), (137, .return_, 138, zU)]
set_option maxRecDepth 20000 in
theorem kX2_study : zTab mX2_study tX2_study := by
  unfold zTab
  decide +kernel
def tX2_studyEdge : zTb := [(0, .aload_n 0, 1, zU), (1, .getfield 22, 4, zU), (4, .iload_n 2, 5, zU), (5, .iconst 0, 6, .int 0), (6, .iastore, 7, zU), (7, .aload_n 0, 8, zU), (8, .getfield 25, 11, zU), (11, .iload_n 2, 12, zU), (12, .iconst 0, 13, .int 0), (13, .bastore, 14, zU), (14, .iconst 1, 15, .int 1), (15, .istore_n 3, 16, zU), (16, .iload_n 2, 17, zU), (17, .istore 4, 19, zU), (19, .iconst 1, 20, .int 1), (20, .istore 5, 22, zU), (22, .iload 5, 24, zU), (24, .bipush 6, 26, .int 6), (26, .if_icmp .gt 74, 29, .retAddr 100), (29, .aload_n 1, 30, zU), (30, .iload 4, 32, zU), (32, .iconst 2, 33, .int 2), (33, .idiv, 34, zU), (34, .invokevirtual 65, 37, zU), (37, .istore 6, 39, zU), (39, .iload 6, 41, zU), (41, .ifCond .ne 4, 44, .retAddr 45), (44, .return_, 45, zU), (45, .iload_n 3, 46, zU), (46, .ifCond .eq 16, 49, .retAddr 62), (49, .iload 6, 51, zU), (51, .invokestatic 68, 54, zU), (54, .iconst 1, 55, .int 1), (55, .if_icmp .ne 7, 58, .retAddr 62), (58, .iconst 1, 59, .int 1), (59, .goto 4, 63, zU), (62, .iconst 0, 63, .int 0), (63, .istore_n 3, 64, zU), (64, .aload_n 1, 65, zU), (65, .iload 4, 67, zU), (67, .invokevirtual 73, 70, zU), (70, .istore 4, 72, zU), (72, .iload 4, 74, zU), (74, .iload_n 2, 75, zU), (75, .if_icmp .ne 19, 78, .retAddr 94), (78, .aload_n 0, 79, zU), (79, .getfield 22, 82, zU), (82, .iload_n 2, 83, zU), (83, .iload 5, 85, zU), (85, .iastore, 86, zU), (86, .aload_n 0, 87, zU), (87, .getfield 25, 90, zU), (90, .iload_n 2, 91, zU), (91, .iload_n 3, 92, zU), (92, .bastore, 93, zU), (93, .return_, 94, zU), (94, .iinc 5 1, 97, .int (1)), (97, .goto (-75), 22, zU), (100, .return_, 101, zU)]
set_option maxRecDepth 20000 in
theorem kX2_studyEdge : zTab mX2_studyEdge tX2_studyEdge := by
  unfold zTab
  decide +kernel
def tX2_isEndless : zTb := [(0, .iconst 0, 1, .int 0), (1, .istore_n 2, 2, zU), (2, .iload_n 2, 3, zU), (3, .iconst 2, 4, .int 2), (4, .aload_n 0, 5, zU), (5, .getfield 33, 8, zU), (8, .imul, 9, zU), (9, .if_icmp .ge 33, 12, .retAddr 42), (12, .aload_n 0, 13, zU), (13, .getfield 25, 16, zU), (16, .iload_n 2, 17, zU), (17, .baload, 18, zU), (18, .ifCond .eq 18, 21, .retAddr 36), (21, .aload_n 0, 22, zU), (22, .getfield 22, 25, zU), (25, .iload_n 2, 26, zU), (26, .iaload, 27, zU), (27, .iload_n 1, 28, zU), (28, .invokestatic 61, 31, zU), (31, .ifCond .eq 5, 34, .retAddr 36), (34, .iconst 1, 35, .int 1), (35, .ireturn, 36, zU), (36, .iinc 2 1, 39, .int (1)), (39, .goto (-37), 2, zU), (42, .iconst 0, 43, .int 0), (43, .ireturn, 44, zU)]
set_option maxRecDepth 20000 in
theorem kX2_isEndless : zTab mX2_isEndless tX2_isEndless := by
  unfold zTab
  decide +kernel
def tX2_countNew : zTb := [(0, .aload_n 0, 1, zU), (1, .getfield 29, 4, zU), (4, .iload_n 1, 5, zU), (5, .laload, 6, zU), (6, .lstore_n 2, 7, zU), (7, .iconst 0, 8, .int 0), (8, .istore 4, 10, zU), (10, .iload 4, 12, zU), (12, .aload_n 0, 13, zU), (13, .getfield 33, 16, zU), (16, .if_icmp .gt 28, 19, .retAddr 44), (19, .lload_n 2, 20, zU), (20, .aload_n 0, 21, zU), (21, .getfield 18, 24, zU), (24, .iload 4, 26, zU), (26, .iaload, 27, zU), (27, .iload_n 1, 28, zU), (28, .if_icmp .ne 7, 31, .retAddr 35), (31, .lconst 1, 32, .long 1), (32, .goto 4, 36, zU), (35, .lconst 0, 36, .long 0), (36, .ladd, 37, zU), (37, .lstore_n 2, 38, zU), (38, .iinc 4 1, 41, .int (1)), (41, .goto (-31), 10, zU), (44, .iconst 0, 45, .int 0), (45, .istore 4, 47, zU), (47, .iload 4, 49, zU), (49, .iconst 2, 50, .int 2), (50, .aload_n 0, 51, zU), (51, .getfield 33, 54, zU), (54, .imul, 55, zU), (55, .if_icmp .ge 28, 58, .retAddr 83), (58, .lload_n 2, 59, zU), (59, .aload_n 0, 60, zU), (60, .getfield 22, 63, zU), (63, .iload 4, 65, zU), (65, .iaload, 66, zU), (66, .iload_n 1, 67, zU), (67, .if_icmp .ne 7, 70, .retAddr 74), (70, .lconst 1, 71, .long 1), (71, .goto 4, 75, zU), (74, .lconst 0, 75, .long 0), (75, .lsub, 76, zU), (76, .lstore_n 2, 77, zU), (77, .iinc 4 1, 80, .int (1)), (80, .goto (-33), 47, zU), (83, .lload_n 2, 84, zU), (84, .lreturn, 85, zU)]
set_option maxRecDepth 20000 in
theorem kX2_countNew : zTab mX2_countNew tX2_countNew := by
  unfold zTab
  decide +kernel
def tX2_countAll : zTb := [(0, .lconst 0, 1, .long 0), (1, .lstore_n 2, 2, zU), (2, .iconst 1, 3, .int 1), (3, .istore 4, 5, zU), (5, .iload 4, 7, zU), (7, .iload_n 1, 8, zU), (8, .if_icmp .gt 31, 11, .retAddr 39), (11, .lload_n 2, 12, zU), (12, .iload 4, 14, zU), (14, .iload_n 1, 15, zU), (15, .invokestatic 61, 18, zU), (18, .ifCond .eq 12, 21, .retAddr 30), (21, .aload_n 0, 22, zU), (22, .iload 4, 24, zU), (24, .invokevirtual 76, 27, zU), (27, .goto 4, 31, zU), (30, .lconst 0, 31, .long 0), (31, .ladd, 32, zU), (32, .lstore_n 2, 33, zU), (33, .iinc 4 1, 36, .int (1)), (36, .goto (-31), 5, zU), (39, .lload_n 2, 40, zU), (40, .lreturn, 41, zU)]
set_option maxRecDepth 20000 in
theorem kX2_countAll : zTab mX2_countAll tX2_countAll := by
  unfold zTab
  decide +kernel
def tX2_hasNew : zTb := [(0, .iconst 0, 1, .int 0), (1, .istore_n 2, 2, zU), (2, .iload_n 2, 3, zU), (3, .iconst 2, 4, .int 2), (4, .aload_n 0, 5, zU), (5, .getfield 33, 8, zU), (8, .imul, 9, zU), (9, .if_icmp .ge 30, 12, .retAddr 39), (12, .aload_n 0, 13, zU), (13, .getfield 25, 16, zU), (16, .iload_n 2, 17, zU), (17, .baload, 18, zU), (18, .ifCond .eq 15, 21, .retAddr 33), (21, .aload_n 0, 22, zU), (22, .getfield 22, 25, zU), (25, .iload_n 2, 26, zU), (26, .iaload, 27, zU), (27, .iload_n 1, 28, zU), (28, .if_icmp .ne 5, 31, .retAddr 33), (31, .iconst 1, 32, .int 1), (32, .ireturn, 33, zU), (33, .iinc 2 1, 36, .int (1)), (36, .goto (-34), 2, zU), (39, .aload_n 0, 40, zU), (40, .iload_n 1, 41, zU), (41, .invokevirtual 76, 44, zU), (44, .lconst 0, 45, .long 0), (45, .lcmp, 46, zU), (46, .ifCond .le 7, 49, .retAddr 53), (49, .iconst 1, 50, .int 1), (50, .goto 4, 54, zU), (53, .iconst 0, 54, .int 0), (54, .ireturn, 55, zU)]
set_option maxRecDepth 20000 in
theorem kX2_hasNew : zTab mX2_hasNew tX2_hasNew := by
  unfold zTab
  decide +kernel
def tX2_find : zTb := [(0, .aload_n 0, 1, zU), (1, .iload_n 3, 2, zU), (2, .i2l, 3, zU), (3, .putfield 79, 6, zU), (6, .iconst 0, 7, .int 0), (7, .istore 4, 9, zU), (9, .iload 4, 11, zU), (11, .aload_n 0, 12, zU), (12, .getfield 33, 15, zU), (15, .if_icmp .gt 79, 18, .retAddr 94), (18, .aload_n 0, 19, zU), (19, .getfield 18, 22, zU), (22, .iload 4, 24, zU), (24, .iaload, 25, zU), (25, .iload_n 2, 26, zU), (26, .invokestatic 61, 29, zU), (29, .ifCond .eq 31, 32, .retAddr 60), (32, .aload_n 0, 33, zU), (33, .getfield 79, 36, zU), (36, .lconst 0, 37, .long 0), (37, .lcmp, 38, zU), (38, .ifCond .ne 12, 41, .retAddr 50), (41, .aload_n 0, 42, zU), (42, .iload 4, 44, zU), (44, .i2l, 45, zU), (45, .lconst 1, 46, .long 1), (46, .invokevirtual 82, 49, zU), (49, .ireturn, 50, zU), (50, .aload_n 0, 51, zU), (51, .dup, 52, zU), (52, .getfield 79, 55, zU), (55, .lconst 1, 56, .long 1), (56, .lsub, 57, zU), (57, .putfield 79, 60, zU), (60, .iload 4, 62, zU), (62, .aload_n 0, 63, zU), (63, .getfield 33, 66, zU), (66, .if_icmp .ge 22, 69, .retAddr 88), (69, .aload_n 0, 70, zU), (70, .iload 4, 72, zU), (72, .iload_n 2, 73, zU), (73, .invokevirtual 86, 76, zU), (76, .ifCond .eq 12, 79, .retAddr 88), (79, .aload_n 0, 80, zU), (80, .aload_n 1, 81, zU), (81, .iload_n 2, 82, zU), (82, .iload 4, 84, zU), (84, .invokevirtual 89, 87, zU), (87, .ireturn, 88, zU), (88, .iinc 4 1, 91, .int (1)), (91, .goto (-82), 9, zU), (94, .iconst 0, 95, .int 0), (95, .ireturn, 96, zU)]
set_option maxRecDepth 20000 in
theorem kX2_find : zTab mX2_find tX2_find := by
  unfold zTab
  decide +kernel
def tX2_isInside : zTb := [(0, .aload_n 0, 1, zU), (1, .getfield 22, 4, zU), (4, .iconst 2, 5, .int 2), (5, .iload_n 1, 6, zU), (6, .imul, 7, zU), (7, .iaload, 8, zU), (8, .iload_n 2, 9, zU), (9, .invokestatic 61, 12, zU), (12, .ifCond .eq 7, 15, .retAddr 19), (15, .lconst 1, 16, .long 1), (16, .goto 4, 20, zU), (19, .lconst 0, 20, .long 0), (20, .lstore_n 3, 21, zU), (21, .aload_n 0, 22, zU), (22, .getfield 22, 25, zU), (25, .iconst 2, 26, .int 2), (26, .iload_n 1, 27, zU), (27, .imul, 28, zU), (28, .iconst 1, 29, .int 1), (29, .iadd, 30, zU), (30, .iaload, 31, zU), (31, .iload_n 2, 32, zU), (32, .invokestatic 61, 35, zU), (35, .ifCond .eq 7, 38, .retAddr 42), (38, .lconst 1, 39, .long 1), (39, .goto 4, 43, zU), (42, .lconst 0, 43, .long 0), (43, .lstore 5, 45, zU), (45, .aload_n 0, 46, zU), (46, .getfield 12, 49, zU), (49, .iload_n 1, 50, zU), (50, .iload_n 1, 51, zU), (51, .iload_n 2, 52, zU), (52, .invokevirtual 93, 55, zU), (55, .lload_n 3, 56, zU), (56, .lsub, 57, zU), (57, .lload 5, 59, zU), (59, .lsub, 60, zU), (60, .lstore 7, 62, zU), (62, .aload_n 0, 63, zU), (63, .getfield 79, 66, zU), (66, .lload 7, 68, zU), (68, .lcmp, 69, zU), (69, .ifCond .ge 15, 72, .retAddr 84), (72, .aload_n 0, 73, zU), (73, .dup, 74, zU), (74, .getfield 79, 77, zU), (77, .lload_n 3, 78, zU), (78, .ladd, 79, zU), (79, .putfield 79, 82, zU), (82, .iconst 1, 83, .int 1), (83, .ireturn, 84, zU), (84, .aload_n 0, 85, zU), (85, .dup, 86, zU), (86, .getfield 79, 89, zU), (89, .lload 7, 91, zU), (91, .lsub, 92, zU), (92, .putfield 79, 95, zU), (95, .iconst 0, 96, .int 0), (96, .ireturn, 97, zU)]
set_option maxRecDepth 20000 in
theorem kX2_isInside : zTab mX2_isInside tX2_isInside := by
  unfold zTab
  decide +kernel
def tX2_walk : zTb := [(0, .lconst 1, 1, .long 1), (1, .lstore 4, 3, zU), (3, .lconst 0, 4, .long 0), (4, .lstore 6, 6, zU), (6, .iload_n 3, 7, zU), (7, .istore 8, 9, zU), (9, .iload_n 2, 10, zU), (10, .iconst 1, 11, .int 1), (11, .isub, 12, zU), (12, .istore 9, 14, zU), (14, .iload 9, 16, zU), (16, .ifCond .lt 81, 19, .retAddr 97), (19, .aload_n 1, 20, zU), (20, .iload 8, 22, zU), (22, .invokevirtual 65, 25, zU), (25, .istore 10, 27, zU), (27, .lload 4, 29, zU), (29, .iload 10, 31, zU), (31, .i2l, 32, zU), (32, .lmul, 33, zU), (33, .lstore 4, 35, zU), (35, .iload 10, 37, zU), (37, .i2l, 38, zU), (38, .lload 6, 40, zU), (40, .lmul, 41, zU), (41, .aload_n 1, 42, zU), (42, .getfield 97, 45, zU), (45, .iload 8, 47, zU), (47, .iaload, 48, zU), (48, .i2l, 49, zU), (49, .ladd, 50, zU), (50, .iload 10, 52, zU), (52, .iload 8, 54, zU), (54, .imul, 55, zU), (55, .i2l, 56, zU), (56, .lsub, 57, zU), (57, .lstore 6, 59, zU), (59, .aload_n 0, 60, zU), (60, .aload_n 1, 61, zU), (61, .iload 8, 63, zU), (63, .iload_n 3, 64, zU), (64, .iload 9, 66, zU), (66, .lload 4, 68, zU), (68, .lconst 0, 69, .long 0), (69, .lcmp, 70, zU), (70, .ifCond .le 7, 73, .retAddr 77), (73, .iconst 1, 74, .int 1), (74, .goto 4, 78, zU), (77, .iconst 0, 78, .int 0), (78, .invokevirtual 100, 81, zU), (81, .istore 8, 83, zU), (83, .iload 8, 85, zU), (85, .iconst (-1), 86, .int (-1)), (86, .if_icmp .ne 5, 89, .retAddr 91), (89, .iconst 0, 90, .int 0), (90, .ireturn, 91, zU), (91, .iinc 9 (-1), 94, .int (-1)), (94, .goto (-80), 14, zU), (97, .aload_n 0, 98, zU), (98, .lload 6, 100, zU), (100, .lconst 1, 101, .long 1), (101, .lload 4, 103, zU), (103, .lsub, 104, zU), (104, .invokevirtual 82, 107, zU), (107, .ireturn, 108, zU)]
set_option maxRecDepth 20000 in
theorem kX2_walk : zTab mX2_walk tX2_walk := by
  unfold zTab
  decide +kernel
def tX2_nextSpan : zTb := [(0, .iconst 0, 1, .int 0), (1, .istore 6, 3, zU), (3, .iload 6, 5, zU), (5, .aload_n 0, 6, zU), (6, .getfield 33, 9, zU), (9, .if_icmp .ge 82, 12, .retAddr 91), (12, .iload 5, 14, zU), (14, .ifCond .eq 8, 17, .retAddr 22), (17, .iload 6, 19, zU), (19, .goto 12, 31, zU), (22, .aload_n 0, 23, zU), (23, .getfield 33, 26, zU), (26, .iconst 1, 27, .int 1), (27, .isub, 28, zU), (28, .iload 6, 30, zU), (30, .isub, 31, zU), (31, .istore 7, 33, zU), (33, .aload_n 1, 34, zU), (34, .iload_n 2, 35, zU), (35, .iload 7, 37, zU), (37, .invokevirtual 104, 40, zU), (40, .ifCond .eq 18, 43, .retAddr 58), (43, .aload_n 0, 44, zU), (44, .getfield 12, 47, zU), (47, .iload 7, 49, zU), (49, .iload_n 3, 50, zU), (50, .iload 4, 52, zU), (52, .invokevirtual 93, 55, zU), (55, .goto 4, 59, zU), (58, .lconst 0, 59, .long 0), (59, .lstore 8, 61, zU), (61, .aload_n 0, 62, zU), (62, .getfield 79, 65, zU), (65, .lload 8, 67, zU), (67, .lcmp, 68, zU), (68, .ifCond .ge 6, 71, .retAddr 74), (71, .iload 7, 73, zU), (73, .ireturn, 74, zU), (74, .aload_n 0, 75, zU), (75, .dup, 76, zU), (76, .getfield 79, 79, zU), (79, .lload 8, 81, zU), (81, .lsub, 82, zU), (82, .putfield 79, 85, zU), (85, .iinc 6 1, 88, .int (1)), (88, .goto (-85), 3, zU), (91, .iconst (-1), 92, .int (-1)), (92, .ireturn, 93, zU)]
set_option maxRecDepth 20000 in
theorem kX2_nextSpan : zTab mX2_nextSpan tX2_nextSpan := by
  unfold zTab
  decide +kernel
def tX2_settle : zTb := [(0, .lload_n 3, 1, zU), (1, .lconst 0, 2, .long 0), (2, .lcmp, 3, zU), (3, .ifCond .ne 5, 6, .retAddr 8), (6, .iconst 0, 7, .int 0), (7, .ireturn, 8, zU), (8, .aload_n 0, 9, zU), (9, .lload_n 3, 10, zU), (10, .lconst 0, 11, .long 0), (11, .lcmp, 12, zU), (12, .ifCond .ge 8, 15, .retAddr 20), (15, .lload_n 1, 16, zU), (16, .lneg, 17, zU), (17, .goto 4, 21, zU), (20, .lload_n 1, 21, zU), (21, .putfield 107, 24, zU), (24, .aload_n 0, 25, zU), (25, .lload_n 3, 26, zU), (26, .invokestatic 110, 29, zU), (29, .putfield 37, 32, zU), (32, .iconst 1, 33, .int 1), (33, .ireturn, 34, zU)]
set_option maxRecDepth 20000 in
theorem kX2_settle : zTab mX2_settle tX2_settle := by
  unfold zTab
  decide +kernel
def tX3_map : zTb := [(0, .iload_n 1, 1, zU), (1, .invokestatic 30, 4, zU), (4, .ifCond .eq 13, 7, .retAddr 17), (7, .iload_n 2, 8, zU), (8, .iconst 1, 9, .int 1), (9, .if_icmp .lt 8, 12, .retAddr 17), (12, .iload_n 2, 13, zU), (13, .iconst 5, 14, .int 5), (14, .if_icmp .le 6, 17, .retAddr 20), (17, .bipush (-2), 19, .int (-2)), (19, .ireturn, 20, zU), (20, .aload_n 0, 21, zU), (21, .getfield 11, 24, zU), (24, .iload_n 1, 25, zU), (25, .aaload, 26, zU), (26, .iload_n 2, 27, zU), (27, .invokevirtual 34, 30, zU), (30, .iconst 1, 31, .int 1), (31, .ireturn, 32, zU)]
set_option maxRecDepth 20000 in
theorem kX3_map : zTab mX3_map tX3_map := by
  unfold zTab
  decide +kernel
def tX3_corner : zTb := [(0, .iload_n 1, 1, zU), (1, .invokestatic 30, 4, zU), (4, .ifCond .eq 29, 7, .retAddr 33), (7, .aload_n 0, 8, zU), (8, .getfield 11, 11, zU), (11, .iload_n 1, 12, zU), (12, .aaload, 13, zU), (13, .iload_n 2, 14, zU), (14, .invokevirtual 38, 17, zU), (17, .ifCond .eq 16, 20, .retAddr 33), (20, .aload_n 0, 21, zU), (21, .getfield 11, 24, zU), (24, .iload_n 1, 25, zU), (25, .aaload, 26, zU), (26, .iload_n 3, 27, zU), (27, .invokevirtual 38, 30, zU), (30, .ifCond .ne 6, 33, .retAddr 36), (33, .bipush (-2), 35, .int (-2)), (35, .ireturn, 36, zU), (36, .aload_n 0, 37, zU), (37, .getfield 11, 40, zU), (40, .iload_n 1, 41, zU), (41, .aaload, 42, zU), (42, .getfield 41, 45, zU), (45, .iload_n 2, 46, zU), (46, .iaload, 47, zU), (47, .istore 4, 49, zU), (49, .aload_n 0, 50, zU), (50, .getfield 11, 53, zU), (53, .iload_n 1, 54, zU), (54, .aaload, 55, zU), (55, .getfield 41, 58, zU), (58, .iload_n 2, 59, zU), (59, .iload_n 3, 60, zU), (60, .iastore, 61, zU), (61, .iload 4, 63, zU), (63, .ireturn, 64, zU)]
set_option maxRecDepth 20000 in
theorem kX3_corner : zTab mX3_corner tX3_corner := by
  unfold zTab
  decide +kernel
def tX3_cornerAt : zTb := [(0, .iload_n 1, 1, zU), (1, .invokestatic 30, 4, zU), (4, .ifCond .eq 16, 7, .retAddr 20), (7, .aload_n 0, 8, zU), (8, .getfield 11, 11, zU), (11, .iload_n 1, 12, zU), (12, .aaload, 13, zU), (13, .iload_n 2, 14, zU), (14, .invokevirtual 38, 17, zU), (17, .ifCond .ne 6, 20, .retAddr 23), (20, .bipush (-2), 22, .int (-2)), (22, .ireturn, 23, zU), (23, .aload_n 0, 24, zU), (24, .getfield 11, 27, zU), (27, .iload_n 1, 28, zU), (28, .aaload, 29, zU), (29, .getfield 41, 32, zU), (32, .iload_n 2, 33, zU), (33, .iaload, 34, zU), (34, .ireturn, 35, zU)]
set_option maxRecDepth 20000 in
theorem kX3_cornerAt : zTab mX3_cornerAt tX3_cornerAt := by
  unfold zTab
  decide +kernel
def tX3_copy : zTb := [(0, .iload_n 1, 1, zU), (1, .invokestatic 30, 4, zU), (4, .ifCond .eq 10, 7, .retAddr 14), (7, .iload_n 2, 8, zU), (8, .invokestatic 30, 11, zU), (11, .ifCond .ne 6, 14, .retAddr 17), (14, .bipush (-2), 16, .int (-2)), (16, .ireturn, 17, zU), (17, .aload_n 0, 18, zU), (18, .getfield 11, 21, zU), (21, .iload_n 2, 22, zU), (22, .aaload, 23, zU), (23, .aload_n 0, 24, zU), (24, .getfield 11, 27, zU), (27, .iload_n 1, 28, zU), (28, .aaload, 29, zU), (29, .invokevirtual 45, 32, zU), (32, .aload_n 0, 33, zU), (33, .getfield 11, 36, zU), (36, .iload_n 2, 37, zU), (37, .aaload, 38, zU), (38, .getfield 49, 41, zU), (41, .ireturn, 42, zU)]
set_option maxRecDepth 20000 in
theorem kX3_copy : zTab mX3_copy tX3_copy := by
  unfold zTab
  decide +kernel
def tX3_turn : zTb := [(0, .iload_n 1, 1, zU), (1, .invokestatic 30, 4, zU), (4, .ifCond .eq 10, 7, .retAddr 14), (7, .iload_n 2, 8, zU), (8, .invokestatic 30, 11, zU), (11, .ifCond .ne 6, 14, .retAddr 17), (14, .bipush (-2), 16, .int (-2)), (16, .ireturn, 17, zU), (17, .aload_n 0, 18, zU), (18, .getfield 11, 21, zU), (21, .iload_n 2, 22, zU), (22, .aaload, 23, zU), (23, .aload_n 0, 24, zU), (24, .getfield 11, 27, zU), (27, .iload_n 1, 28, zU), (28, .aaload, 29, zU), (29, .invokevirtual 53, 32, zU), (32, .aload_n 0, 33, zU), (33, .getfield 11, 36, zU), (36, .iload_n 2, 37, zU), (37, .aaload, 38, zU), (38, .getfield 49, 41, zU), (41, .ireturn, 42, zU)]
set_option maxRecDepth 20000 in
theorem kX3_turn : zTab mX3_turn tX3_turn := by
  unfold zTab
  decide +kernel
def tX3_slope : zTb := [(0, .iload_n 1, 1, zU), (1, .invokestatic 30, 4, zU), (4, .ifCond .eq 16, 7, .retAddr 20), (7, .aload_n 0, 8, zU), (8, .getfield 11, 11, zU), (11, .iload_n 1, 12, zU), (12, .aaload, 13, zU), (13, .iload_n 2, 14, zU), (14, .invokevirtual 56, 17, zU), (17, .ifCond .ne 6, 20, .retAddr 23), (20, .bipush (-100), 22, .int (-100)), (22, .ireturn, 23, zU), (23, .aload_n 0, 24, zU), (24, .getfield 11, 27, zU), (27, .iload_n 1, 28, zU), (28, .aaload, 29, zU), (29, .iload_n 2, 30, zU), (30, .invokevirtual 59, 33, zU), (33, .ireturn, 34, zU)]
set_option maxRecDepth 20000 in
theorem kX3_slope : zTab mX3_slope tX3_slope := by
  unfold zTab
  decide +kernel
def tX3_far : zTb := [(0, .iload_n 1, 1, zU), (1, .invokestatic 30, 4, zU), (4, .ifCond .eq 34, 7, .retAddr 38), (7, .aload_n 0, 8, zU), (8, .getfield 11, 11, zU), (11, .iload_n 1, 12, zU), (12, .aaload, 13, zU), (13, .lload_n 2, 14, zU), (14, .lload 4, 16, zU), (16, .invokevirtual 63, 19, zU), (19, .ifCond .eq 19, 22, .retAddr 38), (22, .iload 6, 24, zU), (24, .invokestatic 67, 27, zU), (27, .ifCond .eq 11, 30, .retAddr 38), (30, .iload 7, 32, zU), (32, .invokestatic 70, 35, zU), (35, .ifCond .ne 7, 38, .retAddr 42), (38, .ldc2_w 73, 41, zU), (41, .lreturn, 42, zU), (42, .aload_n 0, 43, zU), (43, .getfield 11, 46, zU), (46, .iload_n 1, 47, zU), (47, .aaload, 48, zU), (48, .lload_n 2, 49, zU), (49, .lload 4, 51, zU), (51, .iload 6, 53, zU), (53, .invokevirtual 75, 56, zU), (56, .lload 4, 58, zU), (58, .iload 7, 60, zU), (60, .invokestatic 79, 63, zU), (63, .lreturn, 64, zU)]
set_option maxRecDepth 20000 in
theorem kX3_far : zTab mX3_far tX3_far := by
  unfold zTab
  decide +kernel
def tX3_word : zTb := [(0, .iload_n 1, 1, zU), (1, .invokestatic 30, 4, zU), (4, .ifCond .eq 26, 7, .retAddr 30), (7, .aload_n 0, 8, zU), (8, .getfield 11, 11, zU), (11, .iload_n 1, 12, zU), (12, .aaload, 13, zU), (13, .lload_n 2, 14, zU), (14, .lload 4, 16, zU), (16, .invokevirtual 63, 19, zU), (19, .ifCond .eq 11, 22, .retAddr 30), (22, .iload 6, 24, zU), (24, .invokestatic 67, 27, zU), (27, .ifCond .ne 6, 30, .retAddr 33), (30, .bipush (-2), 32, .int (-2)), (32, .ireturn, 33, zU), (33, .aload_n 0, 34, zU), (34, .getfield 11, 37, zU), (37, .iload_n 1, 38, zU), (38, .aaload, 39, zU), (39, .aload_n 0, 40, zU), (40, .getfield 11, 43, zU), (43, .iload_n 1, 44, zU), (44, .aaload, 45, zU), (45, .lload_n 2, 46, zU), (46, .lload 4, 48, zU), (48, .iload 6, 50, zU), (50, .invokevirtual 75, 53, zU), (53, .lload 4, 55, zU), (55, .invokevirtual 82, 58, zU), (58, .ireturn, 59, zU)]
set_option maxRecDepth 20000 in
theorem kX3_word : zTab mX3_word tX3_word := by
  unfold zTab
  decide +kernel
def tX3_order : zTb := [(0, .iload_n 1, 1, zU), (1, .invokestatic 30, 4, zU), (4, .ifCond .eq 42, 7, .retAddr 46), (7, .aload_n 0, 8, zU), (8, .getfield 11, 11, zU), (11, .iload_n 1, 12, zU), (12, .aaload, 13, zU), (13, .lload_n 2, 14, zU), (14, .lload 4, 16, zU), (16, .invokevirtual 63, 19, zU), (19, .ifCond .eq 27, 22, .retAddr 46), (22, .aload_n 0, 23, zU), (23, .getfield 11, 26, zU), (26, .iload_n 1, 27, zU), (27, .aaload, 28, zU), (28, .lload 6, 30, zU), (30, .lload 8, 32, zU), (32, .invokevirtual 63, 35, zU), (35, .ifCond .eq 11, 38, .retAddr 46), (38, .iload 10, 40, zU), (40, .invokestatic 67, 43, zU), (43, .ifCond .ne 6, 46, .retAddr 49), (46, .bipush (-2), 48, .int (-2)), (48, .ireturn, 49, zU), (49, .aload_n 0, 50, zU), (50, .getfield 11, 53, zU), (53, .iload_n 1, 54, zU), (54, .aaload, 55, zU), (55, .lload_n 2, 56, zU), (56, .lload 4, 58, zU), (58, .lload 6, 60, zU), (60, .lload 8, 62, zU), (62, .iload 10, 64, zU), (64, .invokevirtual 86, 67, zU), (67, .ireturn, 68, zU)]
set_option maxRecDepth 20000 in
theorem kX3_order : zTab mX3_order tX3_order := by
  unfold zTab
  decide +kernel
def tX3_join : zTb := [(0, .iload_n 1, 1, zU), (1, .invokestatic 30, 4, zU), (4, .ifCond .eq 33, 7, .retAddr 37), (7, .iload_n 2, 8, zU), (8, .invokestatic 30, 11, zU), (11, .ifCond .eq 26, 14, .retAddr 37), (14, .aload_n 0, 15, zU), (15, .getfield 11, 18, zU), (18, .iload_n 1, 19, zU), (19, .aaload, 20, zU), (20, .lload_n 3, 21, zU), (21, .lload 5, 23, zU), (23, .invokevirtual 63, 26, zU), (26, .ifCond .eq 11, 29, .retAddr 37), (29, .iload 7, 31, zU), (31, .invokestatic 70, 34, zU), (34, .ifCond .ne 7, 37, .retAddr 41), (37, .ldc2_w 73, 40, zU), (40, .lreturn, 41, zU), (41, .aload_n 0, 42, zU), (42, .getfield 11, 45, zU), (45, .iload_n 1, 46, zU), (46, .aaload, 47, zU), (47, .getfield 49, 50, zU), (50, .aload_n 0, 51, zU), (51, .getfield 11, 54, zU), (54, .iload_n 2, 55, zU), (55, .aaload, 56, zU), (56, .getfield 49, 59, zU), (59, .if_icmp .eq 7, 62, .retAddr 66), (62, .ldc2_w 90, 65, zU), (65, .lreturn, 66, zU), (66, .aload_n 0, 67, zU), (67, .getfield 11, 70, zU), (70, .iload_n 2, 71, zU), (71, .aaload, 72, zU), (72, .aload_n 0, 73, zU), (73, .getfield 11, 76, zU), (76, .iload_n 1, 77, zU), (77, .aaload, 78, zU), (78, .lload_n 3, 79, zU), (79, .lload 5, 81, zU), (81, .invokevirtual 92, 84, zU), (84, .lload 5, 86, zU), (86, .invokevirtual 92, 89, zU), (89, .lload 5, 91, zU), (91, .iload 7, 93, zU), (93, .invokestatic 79, 96, zU), (96, .lreturn, 97, zU)]
set_option maxRecDepth 20000 in
theorem kX3_join : zTab mX3_join tX3_join := by
  unfold zTab
  decide +kernel
def tX3_table : zTb := [(0, .iload_n 1, 1, zU), (1, .invokestatic 30, 4, zU), (4, .ifCond .eq 29, 7, .retAddr 33), (7, .aload_n 0, 8, zU), (8, .getfield 11, 11, zU), (11, .iload_n 1, 12, zU), (12, .aaload, 13, zU), (13, .iload_n 2, 14, zU), (14, .invokevirtual 56, 17, zU), (17, .ifCond .eq 16, 20, .retAddr 33), (20, .aload_n 0, 21, zU), (21, .getfield 11, 24, zU), (24, .iload_n 1, 25, zU), (25, .aaload, 26, zU), (26, .iload_n 3, 27, zU), (27, .invokevirtual 56, 30, zU), (30, .ifCond .ne 6, 33, .retAddr 36), (33, .bipush (-2), 35, .int (-2)), (35, .ireturn, 36, zU), (36, .aload_n 0, 37, zU), (37, .getfield 11, 40, zU), (40, .iload_n 1, 41, zU), (41, .aaload, 42, zU), (42, .iload_n 2, 43, zU), (43, .iload_n 3, 44, zU), (44, .invokevirtual 96, 47, zU), (47, .ifCond .eq 7, 50, .retAddr 54), (50, .iconst 1, 51, .int 1), (51, .goto 4, 55, zU), (54, .iconst 0, 55, .int 0), (55, .ireturn, 56, zU)]
set_option maxRecDepth 20000 in
theorem kX3_table : zTab mX3_table tX3_table := by
  unfold zTab
  decide +kernel
def tX3_ways : zTb := [(0, .iload_n 1, 1, zU), (1, .invokestatic 30, 4, zU), (4, .ifCond .eq 37, 7, .retAddr 41), (7, .aload_n 0, 8, zU), (8, .getfield 11, 11, zU), (11, .iload_n 1, 12, zU), (12, .aaload, 13, zU), (13, .iload_n 2, 14, zU), (14, .invokevirtual 56, 17, zU), (17, .ifCond .eq 24, 20, .retAddr 41), (20, .aload_n 0, 21, zU), (21, .getfield 11, 24, zU), (24, .iload_n 1, 25, zU), (25, .aaload, 26, zU), (26, .iload_n 3, 27, zU), (27, .invokevirtual 56, 30, zU), (30, .ifCond .eq 11, 33, .retAddr 41), (33, .iload 4, 35, zU), (35, .invokestatic 100, 38, zU), (38, .ifCond .ne 7, 41, .retAddr 45), (41, .ldc2_w 73, 44, zU), (44, .lreturn, 45, zU), (45, .aload_n 0, 46, zU), (46, .getfield 19, 49, zU), (49, .aload_n 0, 50, zU), (50, .getfield 11, 53, zU), (53, .iload_n 1, 54, zU), (54, .aaload, 55, zU), (55, .iload 4, 57, zU), (57, .invokevirtual 103, 60, zU), (60, .aload_n 0, 61, zU), (61, .getfield 19, 64, zU), (64, .iload_n 2, 65, zU), (65, .iload_n 3, 66, zU), (66, .iload 4, 68, zU), (68, .invokevirtual 107, 71, zU), (71, .lreturn, 72, zU)]
set_option maxRecDepth 20000 in
theorem kX3_ways : zTab mX3_ways tX3_ways := by
  unfold zTab
  decide +kernel
def tX3_pieces : zTb := [(0, .iload_n 1, 1, zU), (1, .invokestatic 30, 4, zU), (4, .ifCond .eq 10, 7, .retAddr 14), (7, .iload_n 2, 8, zU), (8, .invokestatic 100, 11, zU), (11, .ifCond .ne 7, 14, .retAddr 18), (14, .ldc2_w 73, 17, zU), (17, .lreturn, 18, zU), (18, .aload_n 0, 19, zU), (19, .getfield 19, 22, zU), (22, .aload_n 0, 23, zU), (23, .getfield 11, 26, zU), (26, .iload_n 1, 27, zU), (27, .aaload, 28, zU), (28, .iload_n 2, 29, zU), (29, .invokevirtual 103, 32, zU), (32, .aload_n 0, 33, zU), (33, .getfield 19, 36, zU), (36, .iload_n 2, 37, zU), (37, .invokevirtual 111, 40, zU), (40, .lreturn, 41, zU)]
set_option maxRecDepth 20000 in
theorem kX3_pieces : zTab mX3_pieces tX3_pieces := by
  unfold zTab
  decide +kernel
def tX3_part : zTb := [(0, .iload_n 1, 1, zU), (1, .invokestatic 30, 4, zU), (4, .ifCond .eq 16, 7, .retAddr 20), (7, .aload_n 0, 8, zU), (8, .getfield 11, 11, zU), (11, .iload_n 1, 12, zU), (12, .aaload, 13, zU), (13, .iload_n 2, 14, zU), (14, .invokevirtual 56, 17, zU), (17, .ifCond .ne 6, 20, .retAddr 23), (20, .bipush (-2), 22, .int (-2)), (22, .ireturn, 23, zU), (23, .aload_n 0, 24, zU), (24, .getfield 11, 27, zU), (27, .iload_n 1, 28, zU), (28, .aaload, 29, zU), (29, .iload_n 2, 30, zU), (30, .invokevirtual 115, 33, zU), (33, .ireturn, 34, zU)]
set_option maxRecDepth 20000 in
theorem kX3_part : zTab mX3_part tX3_part := by
  unfold zTab
  decide +kernel
def tX3_mixes : zTb := [(0, .iload_n 1, 1, zU), (1, .invokestatic 30, 4, zU), (4, .ifCond .ne 6, 7, .retAddr 10), (7, .bipush (-2), 9, .int (-2)), (9, .ireturn, 10, zU), (10, .aload_n 0, 11, zU), (11, .getfield 11, 14, zU), (14, .iload_n 1, 15, zU), (15, .aaload, 16, zU), (16, .invokevirtual 118, 19, zU), (19, .ireturn, 20, zU)]
set_option maxRecDepth 20000 in
theorem kX3_mixes : zTab mX3_mixes tX3_mixes := by
  unfold zTab
  decide +kernel
def tX3_rounds : zTb := [(0, .iload_n 1, 1, zU), (1, .invokestatic 30, 4, zU), (4, .ifCond .eq 10, 7, .retAddr 14), (7, .iload_n 2, 8, zU), (8, .invokestatic 122, 11, zU), (11, .ifCond .ne 6, 14, .retAddr 17), (14, .bipush (-2), 16, .int (-2)), (16, .ireturn, 17, zU), (17, .aload_n 0, 18, zU), (18, .getfield 26, 21, zU), (21, .aload_n 0, 22, zU), (22, .getfield 11, 25, zU), (25, .iload_n 1, 26, zU), (26, .aaload, 27, zU), (27, .invokevirtual 125, 30, zU), (30, .aload_n 0, 31, zU), (31, .getfield 26, 34, zU), (34, .iload_n 2, 35, zU), (35, .invokevirtual 128, 38, zU), (38, .ifCond .eq 7, 41, .retAddr 45), (41, .iconst (-1), 42, .int (-1)), (42, .goto 12, 54, zU), (45, .aload_n 0, 46, zU), (46, .getfield 26, 49, zU), (49, .iload_n 2, 50, zU), (50, .invokevirtual 131, 53, zU), (53, .l2i, 54, zU), (54, .ireturn, 55, zU)]
set_option maxRecDepth 20000 in
theorem kX3_rounds : zTab mX3_rounds tX3_rounds := by
  unfold zTab
  decide +kernel
def tX3_round : zTb := [(0, .iload_n 1, 1, zU), (1, .invokestatic 30, 4, zU), (4, .ifCond .eq 22, 7, .retAddr 26), (7, .iload_n 2, 8, zU), (8, .invokestatic 122, 11, zU), (11, .ifCond .eq 15, 14, .retAddr 26), (14, .iload_n 3, 15, zU), (15, .ifCond .lt 11, 18, .retAddr 26), (18, .iload 4, 20, zU), (20, .invokestatic 70, 23, zU), (23, .ifCond .ne 7, 26, .retAddr 30), (26, .ldc2_w 73, 29, zU), (29, .lreturn, 30, zU), (30, .aload_n 0, 31, zU), (31, .getfield 26, 34, zU), (34, .aload_n 0, 35, zU), (35, .getfield 11, 38, zU), (38, .iload_n 1, 39, zU), (39, .aaload, 40, zU), (40, .invokevirtual 125, 43, zU), (43, .aload_n 0, 44, zU), (44, .getfield 26, 47, zU), (47, .iload_n 2, 48, zU), (48, .invokevirtual 128, 51, zU), (51, .ifCond .ne 21, 54, .retAddr 72), (54, .aload_n 0, 55, zU), (55, .getfield 26, 58, zU), (58, .aload_n 0, 59, zU), (59, .getfield 11, 62, zU), (62, .iload_n 1, 63, zU), (63, .aaload, 64, zU), (64, .iload_n 2, 65, zU), (65, .iload_n 3, 66, zU), (66, .invokevirtual 134, 69, zU), (69, .ifCond .ne 7, 72, .retAddr 76), (72, .ldc2_w 138, 75, zU), (75, .lreturn, 76, zU), (76, .aload_n 0, 77, zU), (77, .getfield 26, 80, zU), (80, .getfield 140, 83, zU), (83, .aload_n 0, 84, zU), (84, .getfield 26, 87, zU), (87, .getfield 144, 90, zU), (90, .iload 4, 92, zU), (92, .invokestatic 79, 95, zU), (95, .lreturn, 96, zU)]
set_option maxRecDepth 20000 in
theorem kX3_round : zTab mX3_round tX3_round := by
  unfold zTab
  decide +kernel
def tX3_period : zTb := [(0, .iload_n 1, 1, zU), (1, .invokestatic 30, 4, zU), (4, .ifCond .eq 10, 7, .retAddr 14), (7, .iload_n 2, 8, zU), (8, .invokestatic 122, 11, zU), (11, .ifCond .ne 6, 14, .retAddr 17), (14, .bipush (-2), 16, .int (-2)), (16, .ireturn, 17, zU), (17, .aload_n 0, 18, zU), (18, .getfield 26, 21, zU), (21, .aload_n 0, 22, zU), (22, .getfield 11, 25, zU), (25, .iload_n 1, 26, zU), (26, .aaload, 27, zU), (27, .invokevirtual 125, 30, zU), (30, .aload_n 0, 31, zU), (31, .getfield 26, 34, zU), (34, .iload_n 2, 35, zU), (35, .invokevirtual 128, 38, zU), (38, .ifCond .eq 7, 41, .retAddr 45), (41, .iconst (-1), 42, .int (-1)), (42, .goto 12, 54, zU), (45, .aload_n 0, 46, zU), (46, .getfield 26, 49, zU), (49, .iload_n 2, 50, zU), (50, .invokevirtual 147, 53, zU), (53, .l2i, 54, zU), (54, .ireturn, 55, zU)]
set_option maxRecDepth 20000 in
theorem kX3_period : zTab mX3_period tX3_period := by
  unfold zTab
  decide +kernel
def tX3_has : zTb := [(0, .iload_n 1, 1, zU), (1, .invokestatic 30, 4, zU), (4, .ifCond .eq 10, 7, .retAddr 14), (7, .iload_n 2, 8, zU), (8, .invokestatic 122, 11, zU), (11, .ifCond .ne 6, 14, .retAddr 17), (14, .bipush (-2), 16, .int (-2)), (16, .ireturn, 17, zU), (17, .aload_n 0, 18, zU), (18, .getfield 26, 21, zU), (21, .aload_n 0, 22, zU), (22, .getfield 11, 25, zU), (25, .iload_n 1, 26, zU), (26, .aaload, 27, zU), (27, .invokevirtual 125, 30, zU), (30, .aload_n 0, 31, zU), (31, .getfield 26, 34, zU), (34, .iload_n 2, 35, zU), (35, .invokevirtual 150, 38, zU), (38, .ifCond .eq 7, 41, .retAddr 45), (41, .iconst 1, 42, .int 1), (42, .goto 4, 46, zU), (45, .iconst 0, 46, .int 0), (46, .ireturn, 47, zU)]
set_option maxRecDepth 20000 in
theorem kX3_has : zTab mX3_has tX3_has := by
  unfold zTab
  decide +kernel
def tX3_forces : zTb := [(0, .iload_n 1, 1, zU), (1, .invokestatic 153, 4, zU), (4, .ifCond .eq 10, 7, .retAddr 14), (7, .iload_n 2, 8, zU), (8, .invokestatic 153, 11, zU), (11, .ifCond .ne 6, 14, .retAddr 17), (14, .bipush (-2), 16, .int (-2)), (16, .ireturn, 17, zU), (17, .iload_n 1, 18, zU), (18, .iload_n 2, 19, zU), (19, .if_icmp .eq 11, 22, .retAddr 30), (22, .iload_n 1, 23, zU), (23, .iload_n 2, 24, zU), (24, .invokestatic 156, 27, zU), (27, .ifCond .eq 7, 30, .retAddr 34), (30, .iconst 1, 31, .int 1), (31, .goto 4, 35, zU), (34, .iconst 0, 35, .int 0), (35, .ireturn, 36, zU)]
set_option maxRecDepth 20000 in
theorem kX3_forces : zTab mX3_forces tX3_forces := by
  unfold zTab
  decide +kernel
def tX3_most : zTb := [(0, .iload_n 1, 1, zU), (1, .invokestatic 30, 4, zU), (4, .ifCond .ne 6, 7, .retAddr 10), (7, .bipush (-2), 9, .int (-2)), (9, .ireturn, 10, zU), (10, .aload_n 0, 11, zU), (11, .getfield 26, 14, zU), (14, .aload_n 0, 15, zU), (15, .getfield 11, 18, zU), (18, .iload_n 1, 19, zU), (19, .aaload, 20, zU), (20, .invokevirtual 125, 23, zU), (23, .iconst 1, 24, .int 1), (24, .istore_n 2, 25, zU), (25, .iconst 2, 26, .int 2), (26, .istore_n 3, 27, zU), (27, .iload_n 3, 28, zU), (28, .bipush 6, 30, .int 6), (30, .if_icmp .gt 30, 33, .retAddr 60), (33, .aload_n 0, 34, zU), (34, .getfield 26, 37, zU), (37, .iload_n 3, 38, zU), (38, .invokevirtual 150, 41, zU), (41, .ifCond .eq 13, 44, .retAddr 54), (44, .iload_n 3, 45, zU), (45, .iload_n 2, 46, zU), (46, .invokestatic 156, 49, zU), (49, .ifCond .eq 5, 52, .retAddr 54), (52, .iload_n 3, 53, zU), (53, .istore_n 2, 54, zU), (54, .iinc 3 1, 57, .int (1)), (57, .goto (-30), 27, zU), (60, .iload_n 2, 61, zU), (61, .ireturn, 62, zU)]
set_option maxRecDepth 20000 in
theorem kX3_most : zTab mX3_most tX3_most := by
  unfold zTab
  decide +kernel
def tX3_top : zTb := [(0, .iload_n 1, 1, zU), (1, .invokestatic 30, 4, zU), (4, .ifCond .ne 6, 7, .retAddr 10), (7, .bipush (-2), 9, .int (-2)), (9, .ireturn, 10, zU), (10, .aload_n 0, 11, zU), (11, .getfield 11, 14, zU), (14, .iload_n 1, 15, zU), (15, .aaload, 16, zU), (16, .invokevirtual 159, 19, zU), (19, .ireturn, 20, zU)]
set_option maxRecDepth 20000 in
theorem kX3_top : zTab mX3_top tX3_top := by
  unfold zTab
  decide +kernel
def tX3_topWord : zTb := [(0, .iload_n 1, 1, zU), (1, .invokestatic 30, 4, zU), (4, .ifCond .eq 15, 7, .retAddr 19), (7, .iload_n 2, 8, zU), (8, .iconst 1, 9, .int 1), (9, .if_icmp .lt 10, 12, .retAddr 19), (12, .iload_n 2, 13, zU), (13, .sipush 1000, 16, .int 1000), (16, .if_icmp .le 6, 19, .retAddr 22), (19, .bipush (-2), 21, .int (-2)), (21, .ireturn, 22, zU), (22, .aload_n 0, 23, zU), (23, .getfield 11, 26, zU), (26, .iload_n 1, 27, zU), (27, .aaload, 28, zU), (28, .invokevirtual 159, 31, zU), (31, .istore_n 3, 32, zU), (32, .iload_n 3, 33, zU), (33, .iconst (-1), 34, .int (-1)), (34, .if_icmp .ne 6, 37, .retAddr 40), (37, .bipush (-3), 39, .int (-3)), (39, .ireturn, 40, zU), (40, .aload_n 0, 41, zU), (41, .getfield 11, 44, zU), (44, .iload_n 1, 45, zU), (45, .aaload, 46, zU), (46, .iload_n 3, 47, zU), (47, .iload_n 2, 48, zU), (48, .invokevirtual 162, 51, zU), (51, .istore 4, 53, zU), (53, .iload 4, 55, zU), (55, .iload_n 3, 56, zU), (56, .if_icmp .ne 5, 59, .retAddr 61), (59, .iconst 1, 60, .int 1), (60, .ireturn, 61, zU), (61, .iload 4, 63, zU), (63, .iload_n 3, 64, zU), (64, .if_icmp .ge 7, 67, .retAddr 71), (67, .iconst 0, 68, .int 0), (68, .goto 4, 72, zU), (71, .iconst 2, 72, .int 2), (72, .ireturn, 73, zU)]
set_option maxRecDepth 20000 in
theorem kX3_topWord : zTab mX3_topWord tX3_topWord := by
  unfold zTab
  decide +kernel
def tX3_topRound : zTb := [(0, .iload_n 1, 1, zU), (1, .invokestatic 30, 4, zU), (4, .ifCond .eq 10, 7, .retAddr 14), (7, .iload_n 2, 8, zU), (8, .invokestatic 70, 11, zU), (11, .ifCond .ne 6, 14, .retAddr 17), (14, .bipush (-2), 16, .int (-2)), (16, .ireturn, 17, zU), (17, .aload_n 0, 18, zU), (18, .getfield 11, 21, zU), (21, .iload_n 1, 22, zU), (22, .aaload, 23, zU), (23, .invokevirtual 159, 26, zU), (26, .istore_n 3, 27, zU), (27, .iload_n 3, 28, zU), (28, .iconst (-1), 29, .int (-1)), (29, .if_icmp .ne 6, 32, .retAddr 35), (32, .bipush (-3), 34, .int (-3)), (34, .ireturn, 35, zU), (35, .aload_n 0, 36, zU), (36, .getfield 11, 39, zU), (39, .iload_n 1, 40, zU), (40, .aaload, 41, zU), (41, .iload_n 3, 42, zU), (42, .invokevirtual 166, 45, zU), (45, .istore 4, 47, zU), (47, .iload_n 2, 48, zU), (48, .ifCond .ne 8, 51, .retAddr 56), (51, .iload 4, 53, zU), (53, .goto 24, 77, zU), (56, .aload_n 0, 57, zU), (57, .getfield 11, 60, zU), (60, .iload_n 1, 61, zU), (61, .aaload, 62, zU), (62, .aload_n 0, 63, zU), (63, .getfield 11, 66, zU), (66, .iload_n 1, 67, zU), (67, .aaload, 68, zU), (68, .iload_n 3, 69, zU), (69, .iload 4, 71, zU), (71, .invokevirtual 162, 74, zU), (74, .invokevirtual 169, 77, zU), (77, .ireturn, 78, zU)]
set_option maxRecDepth 20000 in
theorem kX3_topRound : zTab mX3_topRound tX3_topRound := by
  unfold zTab
  decide +kernel
def tX3_digest : zTb := [(0, .ldc2_w 172, 3, zU), (3, .lstore_n 1, 4, zU), (4, .iconst 0, 5, .int 0), (5, .istore_n 3, 6, zU), (6, .iload_n 3, 7, zU), (7, .bipush 8, 9, .int 8), (9, .if_icmp .ge 65, 12, .retAddr 74), (12, .aload_n 0, 13, zU), (13, .getfield 11, 16, zU), (16, .iload_n 3, 17, zU), (17, .aaload, 18, zU), (18, .astore 4, 20, zU), (20, .ldc2_w 174, 23, zU), (23, .lload_n 1, 24, zU), (24, .lmul, 25, zU), (25, .aload 4, 27, zU), (27, .getfield 49, 30, zU), (30, .i2l, 31, zU), (31, .ladd, 32, zU), (32, .lstore_n 1, 33, zU), (33, .iconst 0, 34, .int 0), (34, .istore 5, 36, zU), (36, .iload 5, 38, zU), (38, .aload 4, 40, zU), (40, .getfield 49, 43, zU), (43, .if_icmp .gt 25, 46, .retAddr 68), (46, .ldc2_w 174, 49, zU), (49, .lload_n 1, 50, zU), (50, .lmul, 51, zU), (51, .aload 4, 53, zU), (53, .getfield 41, 56, zU), (56, .iload 5, 58, zU), (58, .iaload, 59, zU), (59, .i2l, 60, zU), (60, .ladd, 61, zU), (61, .lstore_n 1, 62, zU), (62, .iinc 5 1, 65, .int (1)), (65, .goto (-29), 36, zU), (68, .iinc 3 1, 71, .int (1)), (71, .goto (-65), 6, zU), (74, .lload_n 1, 75, zU), (75, .lreturn, 76, zU)]
set_option maxRecDepth 20000 in
theorem kX3_digest : zTab mX3_digest tX3_digest := by
  unfold zTab
  decide +kernel
def tX3_isMap : zTb := [(0, .iload_n 0, 1, zU), (1, .ifCond .lt 13, 4, .retAddr 14), (4, .iload_n 0, 5, zU), (5, .bipush 8, 7, .int 8), (7, .if_icmp .ge 7, 10, .retAddr 14), (10, .iconst 1, 11, .int 1), (11, .goto 4, 15, zU), (14, .iconst 0, 15, .int 0), (15, .ireturn, 16, zU)]
set_option maxRecDepth 20000 in
theorem kX3_isMap : zTab mX3_isMap tX3_isMap := by
  unfold zTab
  decide +kernel
def tX3_isTerm : zTb := [(0, .iload_n 0, 1, zU), (1, .ifCond .eq 8, 4, .retAddr 9), (4, .iload_n 0, 5, zU), (5, .iconst 1, 6, .int 1), (6, .if_icmp .ne 7, 9, .retAddr 13), (9, .iconst 1, 10, .int 1), (10, .goto 4, 14, zU), (13, .iconst 0, 14, .int 0), (14, .ireturn, 15, zU)]
set_option maxRecDepth 20000 in
theorem kX3_isTerm : zTab mX3_isTerm tX3_isTerm := by
  unfold zTab
  decide +kernel
def tX3_isStepCount : zTb := [(0, .iload_n 0, 1, zU), (1, .ifCond .lt 14, 4, .retAddr 15), (4, .iload_n 0, 5, zU), (5, .sipush 1000, 8, .int 1000), (8, .if_icmp .gt 7, 11, .retAddr 15), (11, .iconst 1, 12, .int 1), (12, .goto 4, 16, zU), (15, .iconst 0, 16, .int 0), (16, .ireturn, 17, zU)]
set_option maxRecDepth 20000 in
theorem kX3_isStepCount : zTab mX3_isStepCount tX3_isStepCount := by
  unfold zTab
  decide +kernel
def tX3_isWayLength : zTb := [(0, .iload_n 0, 1, zU), (1, .ifCond .lt 13, 4, .retAddr 14), (4, .iload_n 0, 5, zU), (5, .bipush 10, 7, .int 10), (7, .if_icmp .gt 7, 10, .retAddr 14), (10, .iconst 1, 11, .int 1), (11, .goto 4, 15, zU), (14, .iconst 0, 15, .int 0), (15, .ireturn, 16, zU)]
set_option maxRecDepth 20000 in
theorem kX3_isWayLength : zTab mX3_isWayLength tX3_isWayLength := by
  unfold zTab
  decide +kernel
def tX3_isRoundLength : zTb := [(0, .iload_n 0, 1, zU), (1, .iconst 1, 2, .int 1), (2, .if_icmp .lt 13, 5, .retAddr 15), (5, .iload_n 0, 6, zU), (6, .bipush 6, 8, .int 6), (8, .if_icmp .gt 7, 11, .retAddr 15), (11, .iconst 1, 12, .int 1), (12, .goto 4, 16, zU), (15, .iconst 0, 16, .int 0), (16, .ireturn, 17, zU)]
set_option maxRecDepth 20000 in
theorem kX3_isRoundLength : zTab mX3_isRoundLength tX3_isRoundLength := by
  unfold zTab
  decide +kernel
def tX3_isForcing : zTb := [(0, .iload_n 0, 1, zU), (1, .iconst 1, 2, .int 1), (2, .if_icmp .lt 13, 5, .retAddr 15), (5, .iload_n 0, 6, zU), (6, .bipush 64, 8, .int 64), (8, .if_icmp .gt 7, 11, .retAddr 15), (11, .iconst 1, 12, .int 1), (12, .goto 4, 16, zU), (15, .iconst 0, 16, .int 0), (16, .ireturn, 17, zU)]
set_option maxRecDepth 20000 in
theorem kX3_isForcing : zTab mX3_isForcing tX3_isForcing := by
  unfold zTab
  decide +kernel
def tX3_divides : zTb := [(0, .iload_n 0, 1, zU), (1, .ifCond .le 13, 4, .retAddr 14), (4, .iload_n 1, 5, zU), (5, .iload_n 0, 6, zU), (6, .irem, 7, zU), (7, .ifCond .ne 7, 10, .retAddr 14), (10, .iconst 1, 11, .int 1), (11, .goto 4, 15, zU), (14, .iconst 0, 15, .int 0), (15, .ireturn, 16, zU)]
set_option maxRecDepth 20000 in
theorem kX3_divides : zTab mX3_divides tX3_divides := by
  unfold zTab
  decide +kernel
def tX3_lowestTerm : zTb := [(0, .lload_n 0, 1, zU), (1, .lload_n 2, 2, zU), (2, .invokestatic 176, 5, zU), (5, .lstore 5, 7, zU), (7, .lload 5, 9, zU), (9, .lconst 0, 10, .long 0), (10, .lcmp, 11, zU), (11, .ifCond .ne 5, 14, .retAddr 16), (14, .lconst 0, 15, .long 0), (15, .lreturn, 16, zU), (16, .iload 4, 18, zU), (18, .ifCond .ne 7, 21, .retAddr 25), (21, .lload_n 0, 22, zU), (22, .goto 4, 26, zU), (25, .lload_n 2, 26, zU), (26, .lload 5, 28, zU), (28, .ldiv, 29, zU), (29, .lreturn, 30, zU)]
set_option maxRecDepth 20000 in
theorem kX3_lowestTerm : zTab mX3_lowestTerm tX3_lowestTerm := by
  unfold zTab
  decide +kernel
def tX3_commonDivisor : zTb := [(0, .lload_n 0, 1, zU), (1, .lstore 4, 3, zU), (3, .lload_n 2, 4, zU), (4, .lstore 6, 6, zU), (6, .iconst 0, 7, .int 0), (7, .istore 8, 9, zU), (9, .iload 8, 11, zU), (11, .bipush 100, 13, .int 100), (13, .if_icmp .ge 31, 16, .retAddr 44), (16, .lload 6, 18, zU), (18, .lconst 0, 19, .long 0), (19, .lcmp, 20, zU), (20, .ifCond .eq 24, 23, .retAddr 44), (23, .lload 4, 25, zU), (25, .lload 6, 27, zU), (27, .lrem, 28, zU), (28, .lstore 9, 30, zU), (30, .lload 6, 32, zU), (32, .lstore 4, 34, zU), (34, .lload 9, 36, zU), (36, .lstore 6, 38, zU), (38, .iinc 8 1, 41, .int (1)), (41, .goto (-32), 9, zU), (44, .lload 4, 46, zU), (46, .lreturn, 47, zU)]
set_option maxRecDepth 20000 in
theorem kX3_commonDivisor : zTab mX3_commonDivisor tX3_commonDivisor := by
  unfold zTab
  decide +kernel
def tX3_comesAhead : zTb := [(0, .iload_n 0, 1, zU), (1, .invokestatic 179, 4, zU), (4, .istore_n 2, 5, zU), (5, .iload_n 1, 6, zU), (6, .invokestatic 179, 9, zU), (9, .istore_n 3, 10, zU), (10, .iload_n 2, 11, zU), (11, .iconst 1, 12, .int 1), (12, .if_icmp .ne 19, 15, .retAddr 31), (15, .iload_n 3, 16, zU), (16, .iconst 1, 17, .int 1), (17, .if_icmp .ne 14, 20, .retAddr 31), (20, .iload_n 0, 21, zU), (21, .iload_n 1, 22, zU), (22, .if_icmp .le 7, 25, .retAddr 29), (25, .iconst 1, 26, .int 1), (26, .goto 4, 30, zU), (29, .iconst 0, 30, .int 0), (30, .ireturn, 31, zU), (31, .iload_n 2, 32, zU), (32, .iconst 1, 33, .int 1), (33, .if_icmp .eq 8, 36, .retAddr 41), (36, .iload_n 3, 37, zU), (37, .iconst 1, 38, .int 1), (38, .if_icmp .ne 14, 41, .retAddr 52), (41, .iload_n 3, 42, zU), (42, .iconst 1, 43, .int 1), (43, .if_icmp .ne 7, 46, .retAddr 50), (46, .iconst 1, 47, .int 1), (47, .goto 4, 51, zU), (50, .iconst 0, 51, .int 0), (51, .ireturn, 52, zU), (52, .iload_n 0, 53, zU), (53, .iload_n 0, 54, zU), (54, .ineg, 55, zU), (55, .iand, 56, zU), (56, .istore 4, 58, zU), (58, .iload_n 1, 59, zU), (59, .iload_n 1, 60, zU), (60, .ineg, 61, zU), (61, .iand, 62, zU), (62, .istore 5, 64, zU), (64, .iload 4, 66, zU), (66, .iload 5, 68, zU), (68, .if_icmp .ne 16, 71, .retAddr 84), (71, .iload_n 2, 72, zU), (72, .iload_n 3, 73, zU), (73, .if_icmp .ge 7, 76, .retAddr 80), (76, .iconst 1, 77, .int 1), (77, .goto 19, 96, zU), (80, .iconst 0, 81, .int 0), (81, .goto 15, 96, zU), (84, .iload 4, 86, zU), (86, .iload 5, 88, zU), (88, .if_icmp .ge 7, 91, .retAddr 95), (91, .iconst 1, 92, .int 1), (92, .goto 4, 96, zU), (95, .iconst 0, 96, .int 0), (96, .ireturn, 97, zU)]
set_option maxRecDepth 20000 in
theorem kX3_comesAhead : zTab mX3_comesAhead tX3_comesAhead := by
  unfold zTab
  decide +kernel
def tX3_oddPart : zTb := [(0, .iload_n 0, 1, zU), (1, .istore_n 1, 2, zU), (2, .iconst 0, 3, .int 0), (3, .istore_n 2, 4, zU), (4, .iload_n 2, 5, zU), (5, .bipush 64, 7, .int 64), (7, .if_icmp .ge 19, 10, .retAddr 26), (10, .iload_n 1, 11, zU), (11, .iconst 2, 12, .int 2), (12, .irem, 13, zU), (13, .ifCond .ne 13, 16, .retAddr 26), (16, .iload_n 1, 17, zU), (17, .iconst 2, 18, .int 2), (18, .idiv, 19, zU), (19, .istore_n 1, 20, zU), (20, .iinc 2 1, 23, .int (1)), (23, .goto (-19), 4, zU), (26, .iload_n 1, 27, zU), (27, .ireturn, 28, zU)]
set_option maxRecDepth 20000 in
theorem kX3_oddPart : zTab mX3_oddPart tX3_oddPart := by
  unfold zTab
  decide +kernel
def tX4_in : zTb := [(0, .lload_n 0, 1, zU), (1, .lload_n 2, 2, zU), (2, .lcmp, 3, zU), (3, .ifCond .lt 14, 6, .retAddr 17), (6, .lload_n 0, 7, zU), (7, .lload 4, 9, zU), (9, .lcmp, 10, zU), (10, .ifCond .gt 7, 13, .retAddr 17), (13, .iconst 1, 14, .int 1), (14, .goto 4, 18, zU), (17, .iconst 0, 18, .int 0), (18, .ireturn, 19, zU)]
set_option maxRecDepth 20000 in
theorem kX4_in : zTab mX4_in tX4_in := by
  unfold zTab
  decide +kernel
def tX4_isMap : zTb := [(0, .iload_n 0, 1, zU), (1, .i2l, 2, zU), (2, .lconst 0, 3, .long 0), (3, .ldc2_w 45, 6, zU), (6, .invokestatic 47, 9, zU), (9, .ireturn, 10, zU)]
set_option maxRecDepth 20000 in
theorem kX4_isMap : zTab mX4_isMap tX4_isMap := by
  unfold zTab
  decide +kernel
def tX4_map : zTb := [(0, .iload_n 1, 1, zU), (1, .invokestatic 51, 4, zU), (4, .ifCond .eq 15, 7, .retAddr 19), (7, .iload_n 2, 8, zU), (8, .i2l, 9, zU), (9, .lconst 1, 10, .long 1), (10, .ldc2_w 55, 13, zU), (13, .invokestatic 47, 16, zU), (16, .ifCond .ne 6, 19, .retAddr 22), (19, .bipush (-2), 21, .int (-2)), (21, .ireturn, 22, zU), (22, .aload_n 0, 23, zU), (23, .getfield 7, 26, zU), (26, .iload_n 1, 27, zU), (27, .iload_n 2, 28, zU), (28, .iastore, 29, zU), (29, .iconst 0, 30, .int 0), (30, .istore_n 3, 31, zU), (31, .iload_n 3, 32, zU), (32, .bipush 7, 34, .int 7), (34, .if_icmp .ge 21, 37, .retAddr 55), (37, .aload_n 0, 38, zU), (38, .getfield 13, 41, zU), (41, .bipush 7, 43, .int 7), (43, .iload_n 1, 44, zU), (44, .imul, 45, zU), (45, .iload_n 3, 46, zU), (46, .iadd, 47, zU), (47, .iconst 0, 48, .int 0), (48, .iastore, 49, zU), (49, .iinc 3 1, 52, .int (1)), (52, .goto (-21), 31, zU), (55, .iconst 1, 56, .int 1), (56, .ireturn, 57, zU)]
set_option maxRecDepth 20000 in
theorem kX4_map : zTab mX4_map tX4_map := by
  unfold zTab
  decide +kernel
def tX4_corner : zTb := [(0, .iload_n 1, 1, zU), (1, .invokestatic 51, 4, zU), (4, .ifCond .eq 35, 7, .retAddr 39), (7, .iload_n 2, 8, zU), (8, .i2l, 9, zU), (9, .lconst 0, 10, .long 0), (10, .aload_n 0, 11, zU), (11, .getfield 7, 14, zU), (14, .iload_n 1, 15, zU), (15, .iaload, 16, zU), (16, .i2l, 17, zU), (17, .invokestatic 47, 20, zU), (20, .ifCond .eq 19, 23, .retAddr 39), (23, .iload_n 3, 24, zU), (24, .i2l, 25, zU), (25, .lconst 0, 26, .long 0), (26, .aload_n 0, 27, zU), (27, .getfield 7, 30, zU), (30, .iload_n 1, 31, zU), (31, .iaload, 32, zU), (32, .i2l, 33, zU), (33, .invokestatic 47, 36, zU), (36, .ifCond .ne 6, 39, .retAddr 42), (39, .bipush (-2), 41, .int (-2)), (41, .ireturn, 42, zU), (42, .aload_n 0, 43, zU), (43, .getfield 13, 46, zU), (46, .bipush 7, 48, .int 7), (48, .iload_n 1, 49, zU), (49, .imul, 50, zU), (50, .iload_n 2, 51, zU), (51, .iadd, 52, zU), (52, .iaload, 53, zU), (53, .istore 4, 55, zU), (55, .aload_n 0, 56, zU), (56, .getfield 13, 59, zU), (59, .bipush 7, 61, .int 7), (61, .iload_n 1, 62, zU), (62, .imul, 63, zU), (63, .iload_n 2, 64, zU), (64, .iadd, 65, zU), (65, .iload_n 3, 66, zU), (66, .iastore, 67, zU), (67, .iload 4, 69, zU), (69, .ireturn, 70, zU)]
set_option maxRecDepth 20000 in
theorem kX4_corner : zTab mX4_corner tX4_corner := by
  unfold zTab
  decide +kernel
def tX4_cornerAt : zTb := [(0, .iload_n 1, 1, zU), (1, .invokestatic 51, 4, zU), (4, .ifCond .eq 33, 7, .retAddr 37), (7, .iload_n 2, 8, zU), (8, .i2l, 9, zU), (9, .lconst 0, 10, .long 0), (10, .aload_n 0, 11, zU), (11, .getfield 7, 14, zU), (14, .iload_n 1, 15, zU), (15, .iaload, 16, zU), (16, .i2l, 17, zU), (17, .invokestatic 47, 20, zU), (20, .ifCond .eq 17, 23, .retAddr 37), (23, .aload_n 0, 24, zU), (24, .getfield 13, 27, zU), (27, .bipush 7, 29, .int 7), (29, .iload_n 1, 30, zU), (30, .imul, 31, zU), (31, .iload_n 2, 32, zU), (32, .iadd, 33, zU), (33, .iaload, 34, zU), (34, .goto 5, 39, zU), (37, .bipush (-2), 39, .int (-2)), (39, .ireturn, 40, zU)]
set_option maxRecDepth 20000 in
theorem kX4_cornerAt : zTab mX4_cornerAt tX4_cornerAt := by
  unfold zTab
  decide +kernel
def tX4_copy : zTb := [(0, .iload_n 1, 1, zU), (1, .invokestatic 51, 4, zU), (4, .ifCond .eq 10, 7, .retAddr 14), (7, .iload_n 2, 8, zU), (8, .invokestatic 51, 11, zU), (11, .ifCond .ne 6, 14, .retAddr 17), (14, .bipush (-2), 16, .int (-2)), (16, .ireturn, 17, zU), (17, .aload_n 0, 18, zU), (18, .getfield 7, 21, zU), (21, .iload_n 2, 22, zU), (22, .aload_n 0, 23, zU), (23, .getfield 7, 26, zU), (26, .iload_n 1, 27, zU), (27, .iaload, 28, zU), (28, .iastore, 29, zU), (29, .iconst 0, 30, .int 0), (30, .istore_n 3, 31, zU), (31, .iload_n 3, 32, zU), (32, .bipush 7, 34, .int 7), (34, .if_icmp .ge 31, 37, .retAddr 65), (37, .aload_n 0, 38, zU), (38, .getfield 13, 41, zU), (41, .bipush 7, 43, .int 7), (43, .iload_n 2, 44, zU), (44, .imul, 45, zU), (45, .iload_n 3, 46, zU), (46, .iadd, 47, zU), (47, .aload_n 0, 48, zU), (48, .getfield 13, 51, zU), (51, .bipush 7, 53, .int 7), (53, .iload_n 1, 54, zU), (54, .imul, 55, zU), (55, .iload_n 3, 56, zU), (56, .iadd, 57, zU), (57, .iaload, 58, zU), (58, .iastore, 59, zU), (59, .iinc 3 1, 62, .int (1)), (62, .goto (-31), 31, zU), (65, .aload_n 0, 66, zU), (66, .getfield 7, 69, zU), (69, .iload_n 2, 70, zU), (70, .iaload, 71, zU), (71, .ireturn, 72, zU)]
set_option maxRecDepth 20000 in
theorem kX4_copy : zTab mX4_copy tX4_copy := by
  unfold zTab
  decide +kernel
def tX4_turn : zTb := [(0, .iload_n 1, 1, zU), (1, .invokestatic 51, 4, zU), (4, .ifCond .eq 10, 7, .retAddr 14), (7, .iload_n 2, 8, zU), (8, .invokestatic 51, 11, zU), (11, .ifCond .ne 6, 14, .retAddr 17), (14, .bipush (-2), 16, .int (-2)), (16, .ireturn, 17, zU), (17, .aload_n 0, 18, zU), (18, .getfield 7, 21, zU), (21, .iload_n 1, 22, zU), (22, .iaload, 23, zU), (23, .istore_n 3, 24, zU), (24, .iconst 0, 25, .int 0), (25, .istore 4, 27, zU), (27, .iload 4, 29, zU), (29, .iload_n 3, 30, zU), (30, .if_icmp .gt 32, 33, .retAddr 62), (33, .aload_n 0, 34, zU), (34, .getfield 16, 37, zU), (37, .iload 4, 39, zU), (39, .iload_n 3, 40, zU), (40, .aload_n 0, 41, zU), (41, .getfield 13, 44, zU), (44, .bipush 7, 46, .int 7), (46, .iload_n 1, 47, zU), (47, .imul, 48, zU), (48, .iload_n 3, 49, zU), (49, .iadd, 50, zU), (50, .iload 4, 52, zU), (52, .isub, 53, zU), (53, .iaload, 54, zU), (54, .isub, 55, zU), (55, .iastore, 56, zU), (56, .iinc 4 1, 59, .int (1)), (59, .goto (-32), 27, zU), (62, .aload_n 0, 63, zU), (63, .getfield 7, 66, zU), (66, .iload_n 2, 67, zU), (67, .iload_n 3, 68, zU), (68, .iastore, 69, zU), (69, .iconst 0, 70, .int 0), (70, .istore 4, 72, zU), (72, .iload 4, 74, zU), (74, .iload_n 3, 75, zU), (75, .if_icmp .gt 28, 78, .retAddr 103), (78, .aload_n 0, 79, zU), (79, .getfield 13, 82, zU), (82, .bipush 7, 84, .int 7), (84, .iload_n 2, 85, zU), (85, .imul, 86, zU), (86, .iload 4, 88, zU), (88, .iadd, 89, zU), (89, .aload_n 0, 90, zU), (90, .getfield 16, 93, zU), (93, .iload 4, 95, zU), (95, .iaload, 96, zU), (96, .iastore, 97, zU), (97, .iinc 4 1, 100, .int (1)), (100, .goto (-28), 72, zU), (103, .iload_n 3, 104, zU), (104, .ireturn, 105, zU)]
set_option maxRecDepth 20000 in
theorem kX4_turn : zTab mX4_turn tX4_turn := by
  unfold zTab
  decide +kernel
def tX4_slopeOf : zTb := [(0, .aload_n 0, 1, zU), (1, .getfield 13, 4, zU), (4, .bipush 7, 6, .int 7), (6, .iload_n 1, 7, zU), (7, .imul, 8, zU), (8, .iload_n 2, 9, zU), (9, .iadd, 10, zU), (10, .iconst 1, 11, .int 1), (11, .iadd, 12, zU), (12, .iaload, 13, zU), (13, .aload_n 0, 14, zU), (14, .getfield 13, 17, zU), (17, .bipush 7, 19, .int 7), (19, .iload_n 1, 20, zU), (20, .imul, 21, zU), (21, .iload_n 2, 22, zU), (22, .iadd, 23, zU), (23, .iaload, 24, zU), (24, .isub, 25, zU), (25, .ireturn, 26, zU)]
set_option maxRecDepth 20000 in
theorem kX4_slopeOf : zTab mX4_slopeOf tX4_slopeOf := by
  unfold zTab
  decide +kernel
def tX4_slope : zTb := [(0, .iload_n 1, 1, zU), (1, .invokestatic 51, 4, zU), (4, .ifCond .eq 30, 7, .retAddr 34), (7, .iload_n 2, 8, zU), (8, .i2l, 9, zU), (9, .lconst 0, 10, .long 0), (10, .aload_n 0, 11, zU), (11, .getfield 7, 14, zU), (14, .iload_n 1, 15, zU), (15, .iaload, 16, zU), (16, .iconst 1, 17, .int 1), (17, .isub, 18, zU), (18, .i2l, 19, zU), (19, .invokestatic 47, 22, zU), (22, .ifCond .eq 12, 25, .retAddr 34), (25, .aload_n 0, 26, zU), (26, .iload_n 1, 27, zU), (27, .iload_n 2, 28, zU), (28, .invokevirtual 57, 31, zU), (31, .goto 5, 36, zU), (34, .bipush (-100), 36, .int (-100)), (36, .ireturn, 37, zU)]
set_option maxRecDepth 20000 in
theorem kX4_slope : zTab mX4_slope tX4_slope := by
  unfold zTab
  decide +kernel
def tX4_divisor : zTb := [(0, .lload_n 0, 1, zU), (1, .lstore 4, 3, zU), (3, .lload_n 2, 4, zU), (4, .lstore 6, 6, zU), (6, .lload 6, 8, zU), (8, .lconst 0, 9, .long 0), (9, .lcmp, 10, zU), (10, .ifCond .eq 21, 13, .retAddr 31), (13, .lload 4, 15, zU), (15, .lload 6, 17, zU), (17, .lrem, 18, zU), (18, .lstore 8, 20, zU), (20, .lload 6, 22, zU), (22, .lstore 4, 24, zU), (24, .lload 8, 26, zU), (26, .lstore 6, 28, zU), (28, .goto (-22), 6, zU), (31, .lload 4, 33, zU), (33, .lreturn, 34, zU)]
set_option maxRecDepth 20000 in
theorem kX4_divisor : zTab mX4_divisor tX4_divisor := by
  unfold zTab
  decide +kernel
def tX4_isPoint : zTb := [(0, .iload_n 1, 1, zU), (1, .invokestatic 51, 4, zU), (4, .ifCond .eq 37, 7, .retAddr 41), (7, .lload 4, 9, zU), (9, .lconst 1, 10, .long 1), (10, .ldc2_w 61, 13, zU), (13, .invokestatic 47, 16, zU), (16, .ifCond .eq 25, 19, .retAddr 41), (19, .lload_n 2, 20, zU), (20, .lconst 0, 21, .long 0), (21, .aload_n 0, 22, zU), (22, .getfield 7, 25, zU), (25, .iload_n 1, 26, zU), (26, .iaload, 27, zU), (27, .i2l, 28, zU), (28, .lload 4, 30, zU), (30, .lmul, 31, zU), (31, .invokestatic 47, 34, zU), (34, .ifCond .eq 7, 37, .retAddr 41), (37, .iconst 1, 38, .int 1), (38, .goto 4, 42, zU), (41, .iconst 0, 42, .int 0), (42, .ireturn, 43, zU)]
set_option maxRecDepth 20000 in
theorem kX4_isPoint : zTab mX4_isPoint tX4_isPoint := by
  unfold zTab
  decide +kernel
def tX4_at : zTb := [(0, .lload_n 3, 1, zU), (1, .lload_n 1, 2, zU), (2, .invokestatic 63, 5, zU), (5, .lstore 5, 7, zU), (7, .aload_n 0, 8, zU), (8, .lload_n 1, 9, zU), (9, .lload 5, 11, zU), (11, .ldiv, 12, zU), (12, .putfield 67, 15, zU), (15, .aload_n 0, 16, zU), (16, .lload_n 3, 17, zU), (17, .lload 5, 19, zU), (19, .ldiv, 20, zU), (20, .putfield 71, 23, zU), (23, .return_, 24, zU)]
set_option maxRecDepth 20000 in
theorem kX4_at : zTab mX4_at tX4_at := by
  unfold zTab
  decide +kernel
def tX4_span : zTb := [(0, .aload_n 0, 1, zU), (1, .getfield 67, 4, zU), (4, .aload_n 0, 5, zU), (5, .getfield 71, 8, zU), (8, .ldiv, 9, zU), (9, .l2i, 10, zU), (10, .istore_n 2, 11, zU), (11, .iload_n 2, 12, zU), (12, .aload_n 0, 13, zU), (13, .getfield 7, 16, zU), (16, .iload_n 1, 17, zU), (17, .iaload, 18, zU), (18, .if_icmp .ge 7, 21, .retAddr 25), (21, .iload_n 2, 22, zU), (22, .goto 11, 33, zU), (25, .aload_n 0, 26, zU), (26, .getfield 7, 29, zU), (29, .iload_n 1, 30, zU), (30, .iaload, 31, zU), (31, .iconst 1, 32, .int 1), (32, .isub, 33, zU), (33, .ireturn, 34, zU)]
set_option maxRecDepth 20000 in
theorem kX4_span : zTab mX4_span tX4_span := by
  unfold zTab
  decide +kernel
def tX4_step : zTb := [(0, .aload_n 0, 1, zU), (1, .iload_n 1, 2, zU), (2, .invokevirtual 74, 5, zU), (5, .istore_n 2, 6, zU), (6, .aload_n 0, 7, zU), (7, .aload_n 0, 8, zU), (8, .getfield 13, 11, zU), (11, .bipush 7, 13, .int 7), (13, .iload_n 1, 14, zU), (14, .imul, 15, zU), (15, .iload_n 2, 16, zU), (16, .iadd, 17, zU), (17, .iaload, 18, zU), (18, .i2l, 19, zU), (19, .aload_n 0, 20, zU), (20, .getfield 71, 23, zU), (23, .lmul, 24, zU), (24, .aload_n 0, 25, zU), (25, .getfield 67, 28, zU), (28, .iload_n 2, 29, zU), (29, .i2l, 30, zU), (30, .aload_n 0, 31, zU), (31, .getfield 71, 34, zU), (34, .lmul, 35, zU), (35, .lsub, 36, zU), (36, .aload_n 0, 37, zU), (37, .iload_n 1, 38, zU), (38, .iload_n 2, 39, zU), (39, .invokevirtual 57, 42, zU), (42, .i2l, 43, zU), (43, .lmul, 44, zU), (44, .ladd, 45, zU), (45, .aload_n 0, 46, zU), (46, .getfield 71, 49, zU), (49, .invokevirtual 78, 52, zU), (52, .return_, 53, zU)]
set_option maxRecDepth 20000 in
theorem kX4_step : zTab mX4_step tX4_step := by
  unfold zTab
  decide +kernel
def tX4_told : zTb := [(0, .iload_n 1, 1, zU), (1, .ifCond .ne 10, 4, .retAddr 11), (4, .aload_n 0, 5, zU), (5, .getfield 67, 8, zU), (8, .goto 7, 15, zU), (11, .aload_n 0, 12, zU), (12, .getfield 71, 15, zU), (15, .lreturn, 16, zU)]
set_option maxRecDepth 20000 in
theorem kX4_told : zTab mX4_told tX4_told := by
  unfold zTab
  decide +kernel
def tX4_far : zTb := [(0, .aload_n 0, 1, zU), (1, .iload_n 1, 2, zU), (2, .lload_n 2, 3, zU), (3, .lload 4, 5, zU), (5, .invokevirtual 82, 8, zU), (8, .ifCond .eq 27, 11, .retAddr 35), (11, .iload 6, 13, zU), (13, .i2l, 14, zU), (14, .lconst 0, 15, .long 0), (15, .ldc2_w 86, 18, zU), (18, .invokestatic 47, 21, zU), (21, .ifCond .eq 14, 24, .retAddr 35), (24, .iload 7, 26, zU), (26, .i2l, 27, zU), (27, .lconst 0, 28, .long 0), (28, .lconst 1, 29, .long 1), (29, .invokestatic 47, 32, zU), (32, .ifCond .ne 7, 35, .retAddr 39), (35, .ldc2_w 88, 38, zU), (38, .lreturn, 39, zU), (39, .aload_n 0, 40, zU), (40, .lload_n 2, 41, zU), (41, .lload 4, 43, zU), (43, .invokevirtual 78, 46, zU), (46, .iconst 0, 47, .int 0), (47, .istore 8, 49, zU), (49, .iload 8, 51, zU), (51, .iload 6, 53, zU), (53, .if_icmp .ge 14, 56, .retAddr 67), (56, .aload_n 0, 57, zU), (57, .iload_n 1, 58, zU), (58, .invokevirtual 90, 61, zU), (61, .iinc 8 1, 64, .int (1)), (64, .goto (-15), 49, zU), (67, .aload_n 0, 68, zU), (68, .iload 7, 70, zU), (70, .invokevirtual 94, 73, zU), (73, .lreturn, 74, zU)]
set_option maxRecDepth 20000 in
theorem kX4_far : zTab mX4_far tX4_far := by
  unfold zTab
  decide +kernel
def tX4_word : zTb := [(0, .aload_n 0, 1, zU), (1, .iload_n 1, 2, zU), (2, .lload_n 2, 3, zU), (3, .lload 4, 5, zU), (5, .invokevirtual 82, 8, zU), (8, .ifCond .eq 16, 11, .retAddr 24), (11, .iload 6, 13, zU), (13, .i2l, 14, zU), (14, .lconst 0, 15, .long 0), (15, .ldc2_w 86, 18, zU), (18, .invokestatic 47, 21, zU), (21, .ifCond .ne 6, 24, .retAddr 27), (24, .bipush (-2), 26, .int (-2)), (26, .ireturn, 27, zU), (27, .aload_n 0, 28, zU), (28, .lload_n 2, 29, zU), (29, .lload 4, 31, zU), (31, .invokevirtual 78, 34, zU), (34, .iconst 0, 35, .int 0), (35, .istore 7, 37, zU), (37, .iload 7, 39, zU), (39, .iload 6, 41, zU), (41, .if_icmp .ge 14, 44, .retAddr 55), (44, .aload_n 0, 45, zU), (45, .iload_n 1, 46, zU), (46, .invokevirtual 90, 49, zU), (49, .iinc 7 1, 52, .int (1)), (52, .goto (-15), 37, zU), (55, .aload_n 0, 56, zU), (56, .iload_n 1, 57, zU), (57, .invokevirtual 74, 60, zU), (60, .ireturn, 61, zU)]
set_option maxRecDepth 20000 in
theorem kX4_word : zTab mX4_word tX4_word := by
  unfold zTab
  decide +kernel
def tX4_order : zTb := [(0, .aload_n 0, 1, zU), (1, .iload_n 1, 2, zU), (2, .lload_n 2, 3, zU), (3, .lload 4, 5, zU), (5, .invokevirtual 82, 8, zU), (8, .ifCond .eq 28, 11, .retAddr 36), (11, .aload_n 0, 12, zU), (12, .iload_n 1, 13, zU), (13, .lload 6, 15, zU), (15, .lload 8, 17, zU), (17, .invokevirtual 82, 20, zU), (20, .ifCond .eq 16, 23, .retAddr 36), (23, .iload 10, 25, zU), (25, .i2l, 26, zU), (26, .lconst 0, 27, .long 0), (27, .ldc2_w 86, 30, zU), (30, .invokestatic 47, 33, zU), (33, .ifCond .ne 6, 36, .retAddr 39), (36, .bipush (-2), 38, .int (-2)), (38, .ireturn, 39, zU), (39, .lload_n 2, 40, zU), (40, .lstore 11, 42, zU), (42, .lload 4, 44, zU), (44, .lstore 13, 46, zU), (46, .lload 6, 48, zU), (48, .lstore 15, 50, zU), (50, .lload 8, 52, zU), (52, .lstore 17, 54, zU), (54, .iconst 0, 55, .int 0), (55, .istore 19, 57, zU), (57, .iconst 0, 58, .int 0), (58, .istore 20, 60, zU), (60, .iload 20, 62, zU), (62, .iload 10, 64, zU), (64, .if_icmp .ge 142, 67, .retAddr 206), (67, .aload_n 0, 68, zU), (68, .lload 11, 70, zU), (70, .lload 13, 72, zU), (72, .invokevirtual 78, 75, zU), (75, .aload_n 0, 76, zU), (76, .iload_n 1, 77, zU), (77, .invokevirtual 74, 80, zU), (80, .istore 21, 82, zU), (82, .aload_n 0, 83, zU), (83, .iload_n 1, 84, zU), (84, .invokevirtual 90, 87, zU), (87, .aload_n 0, 88, zU), (88, .getfield 67, 91, zU), (91, .lstore 11, 93, zU), (93, .aload_n 0, 94, zU), (94, .getfield 71, 97, zU), (97, .lstore 13, 99, zU), (99, .aload_n 0, 100, zU), (100, .lload 15, 102, zU), (102, .lload 17, 104, zU), (104, .invokevirtual 78, 107, zU), (107, .aload_n 0, 108, zU), (108, .iload_n 1, 109, zU), (109, .invokevirtual 74, 112, zU), (112, .istore 22, 114, zU), (114, .aload_n 0, 115, zU), (115, .iload_n 1, 116, zU), (116, .invokevirtual 90, 119, zU), (119, .aload_n 0, 120, zU), (120, .getfield 67, 123, zU), (123, .lstore 15, 125, zU), (125, .aload_n 0, 126, zU), (126, .getfield 71, 129, zU), (129, .lstore 17, 131, zU), (131, .iload 21, 133, zU), (133, .iload 22, 135, zU), (135, .if_icmp .eq 26, 138, .retAddr 161), (138, .iload 21, 140, zU), (140, .iload 22, 142, zU), (142, .if_icmp .ge 7, 145, .retAddr 149), (145, .iconst 1, 146, .int 1), (146, .goto 4, 150, zU), (149, .iconst 0, 150, .int 0), (150, .iload 19, 152, zU), (152, .if_icmp .eq 7, 155, .retAddr 159), (155, .iconst (-1), 156, .int (-1)), (156, .goto 4, 160, zU), (159, .iconst 1, 160, .int 1), (160, .ireturn, 161, zU), (161, .aload_n 0, 162, zU), (162, .iload_n 1, 163, zU), (163, .iload 21, 165, zU), (165, .invokevirtual 57, 168, zU), (168, .ifCond .ne 5, 171, .retAddr 173), (171, .iconst 0, 172, .int 0), (172, .ireturn, 173, zU), (173, .aload_n 0, 174, zU), (174, .iload_n 1, 175, zU), (175, .iload 21, 177, zU), (177, .invokevirtual 57, 180, zU), (180, .ifCond .ge 7, 183, .retAddr 187), (183, .iconst 1, 184, .int 1), (184, .goto 4, 188, zU), (187, .iconst 0, 188, .int 0), (188, .iload 19, 190, zU), (190, .if_icmp .eq 7, 193, .retAddr 197), (193, .iconst 1, 194, .int 1), (194, .goto 4, 198, zU), (197, .iconst 0, 198, .int 0), (198, .istore 19, 200, zU), (200, .iinc 20 1, 203, .int (1)), (203, .goto (-143), 60, zU), (206, .iconst 0, 207, .int 0), (207, .ireturn, 208, zU)]
set_option maxRecDepth 20000 in
theorem kX4_order : zTab mX4_order tX4_order := by
  unfold zTab
  decide +kernel
def tX4_join : zTb := [(0, .aload_n 0, 1, zU), (1, .iload_n 1, 2, zU), (2, .lload_n 3, 3, zU), (3, .lload 5, 5, zU), (5, .invokevirtual 82, 8, zU), (8, .ifCond .eq 21, 11, .retAddr 29), (11, .iload_n 2, 12, zU), (12, .invokestatic 51, 15, zU), (15, .ifCond .eq 14, 18, .retAddr 29), (18, .iload 7, 20, zU), (20, .i2l, 21, zU), (21, .lconst 0, 22, .long 0), (22, .lconst 1, 23, .long 1), (23, .invokestatic 47, 26, zU), (26, .ifCond .ne 7, 29, .retAddr 33), (29, .ldc2_w 88, 32, zU), (32, .lreturn, 33, zU), (33, .aload_n 0, 34, zU), (34, .getfield 7, 37, zU), (37, .iload_n 1, 38, zU), (38, .iaload, 39, zU), (39, .aload_n 0, 40, zU), (40, .getfield 7, 43, zU), (43, .iload_n 2, 44, zU), (44, .iaload, 45, zU), (45, .if_icmp .eq 7, 48, .retAddr 52), (48, .ldc2_w 98, 51, zU), (51, .lreturn, 52, zU), (52, .aload_n 0, 53, zU), (53, .lload_n 3, 54, zU), (54, .lload 5, 56, zU), (56, .invokevirtual 78, 59, zU), (59, .aload_n 0, 60, zU), (60, .iload_n 1, 61, zU), (61, .invokevirtual 90, 64, zU), (64, .aload_n 0, 65, zU), (65, .iload_n 2, 66, zU), (66, .invokevirtual 90, 69, zU), (69, .aload_n 0, 70, zU), (70, .iload 7, 72, zU), (72, .invokevirtual 94, 75, zU), (75, .lreturn, 76, zU)]
set_option maxRecDepth 20000 in
theorem kX4_join : zTab mX4_join tX4_join := by
  unfold zTab
  decide +kernel
def tX4_covers : zTb := [(0, .aload_n 0, 1, zU), (1, .getfield 13, 4, zU), (4, .bipush 7, 6, .int 7), (6, .iload_n 1, 7, zU), (7, .imul, 8, zU), (8, .iload_n 2, 9, zU), (9, .iadd, 10, zU), (10, .iaload, 11, zU), (11, .istore 4, 13, zU), (13, .aload_n 0, 14, zU), (14, .getfield 13, 17, zU), (17, .bipush 7, 19, .int 7), (19, .iload_n 1, 20, zU), (20, .imul, 21, zU), (21, .iload_n 2, 22, zU), (22, .iadd, 23, zU), (23, .iconst 1, 24, .int 1), (24, .iadd, 25, zU), (25, .iaload, 26, zU), (26, .istore 5, 28, zU), (28, .iload 4, 30, zU), (30, .iload_n 3, 31, zU), (31, .if_icmp .gt 9, 34, .retAddr 40), (34, .iload 5, 36, zU), (36, .iload_n 3, 37, zU), (37, .if_icmp .gt 15, 40, .retAddr 52), (40, .iload 5, 42, zU), (42, .iload_n 3, 43, zU), (43, .if_icmp .gt 13, 46, .retAddr 56), (46, .iload 4, 48, zU), (48, .iload_n 3, 49, zU), (49, .if_icmp .le 7, 52, .retAddr 56), (52, .iconst 1, 53, .int 1), (53, .goto 4, 57, zU), (56, .iconst 0, 57, .int 0), (57, .ireturn, 58, zU)]
set_option maxRecDepth 20000 in
theorem kX4_covers : zTab mX4_covers tX4_covers := by
  unfold zTab
  decide +kernel
def tX4_isSpan : zTb := [(0, .iload_n 1, 1, zU), (1, .invokestatic 51, 4, zU), (4, .ifCond .eq 25, 7, .retAddr 29), (7, .iload_n 2, 8, zU), (8, .i2l, 9, zU), (9, .lconst 0, 10, .long 0), (10, .aload_n 0, 11, zU), (11, .getfield 7, 14, zU), (14, .iload_n 1, 15, zU), (15, .iaload, 16, zU), (16, .iconst 1, 17, .int 1), (17, .isub, 18, zU), (18, .i2l, 19, zU), (19, .invokestatic 47, 22, zU), (22, .ifCond .eq 7, 25, .retAddr 29), (25, .iconst 1, 26, .int 1), (26, .goto 4, 30, zU), (29, .iconst 0, 30, .int 0), (30, .ireturn, 31, zU)]
set_option maxRecDepth 20000 in
theorem kX4_isSpan : zTab mX4_isSpan tX4_isSpan := by
  unfold zTab
  decide +kernel
def tX4_table : zTb := [(0, .aload_n 0, 1, zU), (1, .iload_n 1, 2, zU), (2, .iload_n 2, 3, zU), (3, .invokevirtual 100, 6, zU), (6, .ifCond .eq 22, 9, .retAddr 28), (9, .aload_n 0, 10, zU), (10, .iload_n 1, 11, zU), (11, .iload_n 3, 12, zU), (12, .invokevirtual 100, 15, zU), (15, .ifCond .eq 13, 18, .retAddr 28), (18, .aload_n 0, 19, zU), (19, .iload_n 1, 20, zU), (20, .iload_n 2, 21, zU), (21, .iload_n 3, 22, zU), (22, .invokevirtual 104, 25, zU), (25, .goto 5, 30, zU), (28, .bipush (-2), 30, .int (-2)), (30, .ireturn, 31, zU)]
set_option maxRecDepth 20000 in
theorem kX4_table : zTab mX4_table tX4_table := by
  unfold zTab
  decide +kernel
def tX4_findWays : zTb := [(0, .iconst 0, 1, .int 0), (1, .istore 4, 3, zU), (3, .iload 4, 5, zU), (5, .bipush 6, 7, .int 6), (7, .if_icmp .ge 27, 10, .retAddr 34), (10, .aload_n 0, 11, zU), (11, .getfield 33, 14, zU), (14, .iload 4, 16, zU), (16, .iload 4, 18, zU), (18, .iload_n 2, 19, zU), (19, .if_icmp .ne 7, 22, .retAddr 26), (22, .lconst 1, 23, .long 1), (23, .goto 4, 27, zU), (26, .lconst 0, 27, .long 0), (27, .lastore, 28, zU), (28, .iinc 4 1, 31, .int (1)), (31, .goto (-28), 3, zU), (34, .iconst 0, 35, .int 0), (35, .istore 4, 37, zU), (37, .iload 4, 39, zU), (39, .iload_n 3, 40, zU), (40, .if_icmp .ge 119, 43, .retAddr 159), (43, .iconst 0, 44, .int 0), (44, .istore 5, 46, zU), (46, .iload 5, 48, zU), (48, .aload_n 0, 49, zU), (49, .getfield 7, 52, zU), (52, .iload_n 1, 53, zU), (53, .iaload, 54, zU), (54, .if_icmp .ge 65, 57, .retAddr 119), (57, .aload_n 0, 58, zU), (58, .getfield 36, 61, zU), (61, .iload 5, 63, zU), (63, .lconst 0, 64, .long 0), (64, .lastore, 65, zU), (65, .iconst 0, 66, .int 0), (66, .istore 6, 68, zU), (68, .iload 6, 70, zU), (70, .aload_n 0, 71, zU), (71, .getfield 7, 74, zU), (74, .iload_n 1, 75, zU), (75, .iaload, 76, zU), (76, .if_icmp .ge 37, 79, .retAddr 113), (79, .aload_n 0, 80, zU), (80, .getfield 36, 83, zU), (83, .iload 5, 85, zU), (85, .dup2, 86, zU), (86, .laload, 87, zU), (87, .aload_n 0, 88, zU), (88, .getfield 33, 91, zU), (91, .iload 6, 93, zU), (93, .laload, 94, zU), (94, .aload_n 0, 95, zU), (95, .iload_n 1, 96, zU), (96, .iload 6, 98, zU), (98, .iload 5, 100, zU), (100, .invokevirtual 104, 103, zU), (103, .i2l, 104, zU), (104, .lmul, 105, zU), (105, .ladd, 106, zU), (106, .lastore, 107, zU), (107, .iinc 6 1, 110, .int (1)), (110, .goto (-42), 68, zU), (113, .iinc 5 1, 116, .int (1)), (116, .goto (-70), 46, zU), (119, .iconst 0, 120, .int 0), (120, .istore 5, 122, zU), (122, .iload 5, 124, zU), (124, .aload_n 0, 125, zU), (125, .getfield 7, 128, zU), (128, .iload_n 1, 129, zU), (129, .iaload, 130, zU), (130, .if_icmp .ge 23, 133, .retAddr 153), (133, .aload_n 0, 134, zU), (134, .getfield 33, 137, zU), (137, .iload 5, 139, zU), (139, .aload_n 0, 140, zU), (140, .getfield 36, 143, zU), (143, .iload 5, 145, zU), (145, .laload, 146, zU), (146, .lastore, 147, zU), (147, .iinc 5 1, 150, .int (1)), (150, .goto (-28), 122, zU), (153, .iinc 4 1, 156, .int (1)), (156, .goto (-119), 37, zU), (159, .return_, 160, zU)]
set_option maxRecDepth 20000 in
theorem kX4_findWays : zTab mX4_findWays tX4_findWays := by
  unfold zTab
  decide +kernel
def tX4_ways : zTb := [(0, .aload_n 0, 1, zU), (1, .iload_n 1, 2, zU), (2, .iload_n 2, 3, zU), (3, .invokevirtual 100, 6, zU), (6, .ifCond .eq 25, 9, .retAddr 31), (9, .aload_n 0, 10, zU), (10, .iload_n 1, 11, zU), (11, .iload_n 3, 12, zU), (12, .invokevirtual 100, 15, zU), (15, .ifCond .eq 16, 18, .retAddr 31), (18, .iload 4, 20, zU), (20, .i2l, 21, zU), (21, .lconst 0, 22, .long 0), (22, .ldc2_w 108, 25, zU), (25, .invokestatic 47, 28, zU), (28, .ifCond .ne 7, 31, .retAddr 35), (31, .ldc2_w 88, 34, zU), (34, .lreturn, 35, zU), (35, .aload_n 0, 36, zU), (36, .iload_n 1, 37, zU), (37, .iload_n 2, 38, zU), (38, .iload 4, 40, zU), (40, .invokevirtual 110, 43, zU), (43, .aload_n 0, 44, zU), (44, .getfield 33, 47, zU), (47, .iload_n 3, 48, zU), (48, .laload, 49, zU), (49, .lreturn, 50, zU)]
set_option maxRecDepth 20000 in
theorem kX4_ways : zTab mX4_ways tX4_ways := by
  unfold zTab
  decide +kernel
def tX4_pieces : zTb := [(0, .iload_n 1, 1, zU), (1, .invokestatic 51, 4, zU), (4, .ifCond .eq 15, 7, .retAddr 19), (7, .iload_n 2, 8, zU), (8, .i2l, 9, zU), (9, .lconst 0, 10, .long 0), (10, .ldc2_w 108, 13, zU), (13, .invokestatic 47, 16, zU), (16, .ifCond .ne 7, 19, .retAddr 23), (19, .ldc2_w 88, 22, zU), (22, .lreturn, 23, zU), (23, .lconst 0, 24, .long 0), (24, .lstore_n 3, 25, zU), (25, .iconst 0, 26, .int 0), (26, .istore 5, 28, zU), (28, .iload 5, 30, zU), (30, .aload_n 0, 31, zU), (31, .getfield 7, 34, zU), (34, .iload_n 1, 35, zU), (35, .iaload, 36, zU), (36, .if_icmp .ge 47, 39, .retAddr 83), (39, .aload_n 0, 40, zU), (40, .iload_n 1, 41, zU), (41, .iload 5, 43, zU), (43, .iload_n 2, 44, zU), (44, .invokevirtual 110, 47, zU), (47, .iconst 0, 48, .int 0), (48, .istore 6, 50, zU), (50, .iload 6, 52, zU), (52, .aload_n 0, 53, zU), (53, .getfield 7, 56, zU), (56, .iload_n 1, 57, zU), (57, .iaload, 58, zU), (58, .if_icmp .ge 19, 61, .retAddr 77), (61, .lload_n 3, 62, zU), (62, .aload_n 0, 63, zU), (63, .getfield 33, 66, zU), (66, .iload 6, 68, zU), (68, .laload, 69, zU), (69, .ladd, 70, zU), (70, .lstore_n 3, 71, zU), (71, .iinc 6 1, 74, .int (1)), (74, .goto (-24), 50, zU), (77, .iinc 5 1, 80, .int (1)), (80, .goto (-52), 28, zU), (83, .lload_n 3, 84, zU), (84, .lreturn, 85, zU)]
set_option maxRecDepth 20000 in
theorem kX4_pieces : zTab mX4_pieces tX4_pieces := by
  unfold zTab
  decide +kernel
def tX4_spread : zTb := [(0, .iconst 0, 1, .int 0), (1, .istore_n 3, 2, zU), (2, .iconst 0, 3, .int 0), (3, .istore 4, 5, zU), (5, .iload 4, 7, zU), (7, .aload_n 0, 8, zU), (8, .getfield 7, 11, zU), (11, .iload_n 1, 12, zU), (12, .iaload, 13, zU), (13, .if_icmp .ge 63, 16, .retAddr 76), (16, .iconst 0, 17, .int 0), (17, .istore 5, 19, zU), (19, .iload 5, 21, zU), (21, .aload_n 0, 22, zU), (22, .getfield 7, 25, zU), (25, .iload_n 1, 26, zU), (26, .iaload, 27, zU), (27, .if_icmp .ge 43, 30, .retAddr 70), (30, .iload_n 3, 31, zU), (31, .iload_n 2, 32, zU), (32, .iload 4, 34, zU), (34, .ishr, 35, zU), (35, .iconst 1, 36, .int 1), (36, .iand, 37, zU), (37, .iconst 1, 38, .int 1), (38, .if_icmp .ne 23, 41, .retAddr 61), (41, .aload_n 0, 42, zU), (42, .iload_n 1, 43, zU), (43, .iload 4, 45, zU), (45, .iload 5, 47, zU), (47, .invokevirtual 104, 50, zU), (50, .iconst 1, 51, .int 1), (51, .if_icmp .ne 10, 54, .retAddr 61), (54, .iconst 1, 55, .int 1), (55, .iload 5, 57, zU), (57, .ishl, 58, zU), (58, .goto 4, 62, zU), (61, .iconst 0, 62, .int 0), (62, .ior, 63, zU), (63, .istore_n 3, 64, zU), (64, .iinc 5 1, 67, .int (1)), (67, .goto (-48), 19, zU), (70, .iinc 4 1, 73, .int (1)), (73, .goto (-68), 5, zU), (76, .iload_n 3, 77, zU), (77, .ireturn, 78, zU)]
set_option maxRecDepth 20000 in
theorem kX4_spread : zTab mX4_spread tX4_spread := by
  unfold zTab
  decide +kernel
def tX4_reach : zTb := [(0, .iconst 1, 1, .int 1), (1, .iload_n 2, 2, zU), (2, .ishl, 3, zU), (3, .istore_n 3, 4, zU), (4, .iconst 0, 5, .int 0), (5, .istore 4, 7, zU), (7, .iload 4, 9, zU), (9, .aload_n 0, 10, zU), (10, .getfield 7, 13, zU), (13, .iload_n 1, 14, zU), (14, .iaload, 15, zU), (15, .if_icmp .ge 18, 18, .retAddr 33), (18, .iload_n 3, 19, zU), (19, .aload_n 0, 20, zU), (20, .iload_n 1, 21, zU), (21, .iload_n 3, 22, zU), (22, .invokevirtual 114, 25, zU), (25, .ior, 26, zU), (26, .istore_n 3, 27, zU), (27, .iinc 4 1, 30, .int (1)), (30, .goto (-23), 7, zU), (33, .iload_n 3, 34, zU), (34, .ireturn, 35, zU)]
set_option maxRecDepth 20000 in
theorem kX4_reach : zTab mX4_reach tX4_reach := by
  unfold zTab
  decide +kernel
def tX4_part : zTb := [(0, .aload_n 0, 1, zU), (1, .iload_n 1, 2, zU), (2, .iload_n 2, 3, zU), (3, .invokevirtual 100, 6, zU), (6, .ifCond .ne 6, 9, .retAddr 12), (9, .bipush (-2), 11, .int (-2)), (11, .ireturn, 12, zU), (12, .iload_n 2, 13, zU), (13, .istore_n 3, 14, zU), (14, .iload_n 2, 15, zU), (15, .iconst 1, 16, .int 1), (16, .isub, 17, zU), (17, .istore 4, 19, zU), (19, .iload 4, 21, zU), (21, .ifCond .lt 46, 24, .retAddr 67), (24, .aload_n 0, 25, zU), (25, .iload_n 1, 26, zU), (26, .iload_n 2, 27, zU), (27, .invokevirtual 117, 30, zU), (30, .iload 4, 32, zU), (32, .ishr, 33, zU), (33, .iconst 1, 34, .int 1), (34, .iand, 35, zU), (35, .iconst 1, 36, .int 1), (36, .if_icmp .ne 23, 39, .retAddr 59), (39, .aload_n 0, 40, zU), (40, .iload_n 1, 41, zU), (41, .iload 4, 43, zU), (43, .invokevirtual 117, 46, zU), (46, .iload_n 2, 47, zU), (47, .ishr, 48, zU), (48, .iconst 1, 49, .int 1), (49, .iand, 50, zU), (50, .iconst 1, 51, .int 1), (51, .if_icmp .ne 8, 54, .retAddr 59), (54, .iload 4, 56, zU), (56, .goto 4, 60, zU), (59, .iload_n 3, 60, zU), (60, .istore_n 3, 61, zU), (61, .iinc 4 (-1), 64, .int (-1)), (64, .goto (-45), 19, zU), (67, .iload_n 3, 68, zU), (68, .ireturn, 69, zU)]
set_option maxRecDepth 20000 in
theorem kX4_part : zTab mX4_part tX4_part := by
  unfold zTab
  decide +kernel
def tX4_mixes : zTb := [(0, .iload_n 1, 1, zU), (1, .invokestatic 51, 4, zU), (4, .ifCond .ne 6, 7, .retAddr 10), (7, .bipush (-2), 9, .int (-2)), (9, .ireturn, 10, zU), (10, .aload_n 0, 11, zU), (11, .getfield 7, 14, zU), (14, .iload_n 1, 15, zU), (15, .iaload, 16, zU), (16, .istore_n 2, 17, zU), (17, .iconst 0, 18, .int 0), (18, .istore_n 3, 19, zU), (19, .iload_n 3, 20, zU), (20, .iload_n 2, 21, zU), (21, .if_icmp .ge 18, 24, .retAddr 39), (24, .aload_n 0, 25, zU), (25, .getfield 16, 28, zU), (28, .iload_n 3, 29, zU), (29, .iconst 1, 30, .int 1), (30, .iload_n 3, 31, zU), (31, .ishl, 32, zU), (32, .iastore, 33, zU), (33, .iinc 3 1, 36, .int (1)), (36, .goto (-17), 19, zU), (39, .iconst 1, 40, .int 1), (40, .istore_n 3, 41, zU), (41, .iload_n 3, 42, zU), (42, .bipush 30, 44, .int 30), (44, .if_icmp .gt 80, 47, .retAddr 124), (47, .iconst 1, 48, .int 1), (48, .istore 4, 50, zU), (50, .iconst 0, 51, .int 0), (51, .istore 5, 53, zU), (53, .iload 5, 55, zU), (55, .iload_n 2, 56, zU), (56, .if_icmp .ge 55, 59, .retAddr 111), (59, .aload_n 0, 60, zU), (60, .getfield 16, 63, zU), (63, .iload 5, 65, zU), (65, .aload_n 0, 66, zU), (66, .iload_n 1, 67, zU), (67, .aload_n 0, 68, zU), (68, .getfield 16, 71, zU), (71, .iload 5, 73, zU), (73, .iaload, 74, zU), (74, .invokevirtual 114, 77, zU), (77, .iastore, 78, zU), (78, .iload 4, 80, zU), (80, .ifCond .eq 22, 83, .retAddr 102), (83, .aload_n 0, 84, zU), (84, .getfield 16, 87, zU), (87, .iload 5, 89, zU), (89, .iaload, 90, zU), (90, .iconst 1, 91, .int 1), (91, .iload_n 2, 92, zU), (92, .ishl, 93, zU), (93, .iconst 1, 94, .int 1), (94, .isub, 95, zU), (95, .if_icmp .ne 7, 98, .retAddr 102), (98, .iconst 1, 99, .int 1), (99, .goto 4, 103, zU), (102, .iconst 0, 103, .int 0), (103, .istore 4, 105, zU), (105, .iinc 5 1, 108, .int (1)), (108, .goto (-55), 53, zU), (111, .iload 4, 113, zU), (113, .ifCond .eq 5, 116, .retAddr 118), (116, .iload_n 3, 117, zU), (117, .ireturn, 118, zU), (118, .iinc 3 1, 121, .int (1)), (121, .goto (-80), 41, zU), (124, .iconst (-1), 125, .int (-1)), (125, .ireturn, 126, zU)]
set_option maxRecDepth 20000 in
theorem kX4_mixes : zTab mX4_mixes tX4_mixes := by
  unfold zTab
  decide +kernel
def tX4_comesBack : zTb := [(0, .lload_n 2, 1, zU), (1, .lconst 1, 2, .long 1), (2, .lcmp, 3, zU), (3, .ifCond .ne 98, 6, .retAddr 101), (6, .lload 4, 8, zU), (8, .lconst 0, 9, .long 0), (9, .lcmp, 10, zU), (10, .ifCond .ne 90, 13, .retAddr 100), (13, .aload_n 0, 14, zU), (14, .iconst 1, 15, .int 1), (15, .putfield 120, 18, zU), (18, .iconst 0, 19, .int 0), (19, .istore 6, 21, zU), (21, .iconst 1, 22, .int 1), (22, .istore 7, 24, zU), (24, .iload 7, 26, zU), (26, .iload_n 1, 27, zU), (27, .if_icmp .ge 52, 30, .retAddr 79), (30, .iload 6, 32, zU), (32, .ifCond .ne 34, 35, .retAddr 66), (35, .iload_n 1, 36, zU), (36, .iload 7, 38, zU), (38, .irem, 39, zU), (39, .ifCond .ne 31, 42, .retAddr 70), (42, .aload_n 0, 43, zU), (43, .getfield 27, 46, zU), (46, .iload 7, 48, zU), (48, .laload, 49, zU), (49, .lconst 1, 50, .long 1), (50, .lcmp, 51, zU), (51, .ifCond .ne 19, 54, .retAddr 70), (54, .aload_n 0, 55, zU), (55, .getfield 30, 58, zU), (58, .iload 7, 60, zU), (60, .laload, 61, zU), (61, .lconst 0, 62, .long 0), (62, .lcmp, 63, zU), (63, .ifCond .ne 7, 66, .retAddr 70), (66, .iconst 1, 67, .int 1), (67, .goto 4, 71, zU), (70, .iconst 0, 71, .int 0), (71, .istore 6, 73, zU), (73, .iinc 7 1, 76, .int (1)), (76, .goto (-52), 24, zU), (79, .aload_n 0, 80, zU), (80, .aload_n 0, 81, zU), (81, .getfield 124, 84, zU), (84, .ifCond .ne 8, 87, .retAddr 92), (87, .iload 6, 89, zU), (89, .ifCond .ne 7, 92, .retAddr 96), (92, .iconst 1, 93, .int 1), (93, .goto 4, 97, zU), (96, .iconst 0, 97, .int 0), (97, .putfield 124, 100, zU), (100, .return_, 101, zU), (101, .lload_n 2, 102, zU), (102, .lconst 1, 103, .long 1), (103, .lcmp, 104, zU), (104, .ifCond .ge 8, 107, .retAddr 112), (107, .lload 4, 109, zU), (109, .goto 6, 115, zU), (112, .lload 4, 114, zU), (114, .lneg, 115, zU), (115, .lstore 6, 117, zU), (117, .lload_n 2, 118, zU), (118, .lconst 1, 119, .long 1), (119, .lcmp, 120, zU), (120, .ifCond .ge 9, 123, .retAddr 129), (123, .lconst 1, 124, .long 1), (124, .lload_n 2, 125, zU), (125, .lsub, 126, zU), (126, .goto 6, 132, zU), (129, .lload_n 2, 130, zU), (130, .lconst 1, 131, .long 1), (131, .lsub, 132, zU), (132, .lstore 8, 134, zU), (134, .aload_n 0, 135, zU), (135, .iload_n 1, 136, zU), (136, .lload 6, 138, zU), (138, .lload 8, 140, zU), (140, .invokevirtual 127, 143, zU), (143, .ifCond .eq 92, 146, .retAddr 235), (146, .aload_n 0, 147, zU), (147, .lload 6, 149, zU), (149, .lload 8, 151, zU), (151, .invokevirtual 78, 154, zU), (154, .aload_n 0, 155, zU), (155, .getfield 130, 158, zU), (158, .ifCond .eq 41, 161, .retAddr 199), (161, .aload_n 0, 162, zU), (162, .getfield 20, 165, zU), (165, .aload_n 0, 166, zU), (166, .getfield 130, 169, zU), (169, .iconst 1, 170, .int 1), (170, .isub, 171, zU), (171, .laload, 172, zU), (172, .aload_n 0, 173, zU), (173, .getfield 67, 176, zU), (176, .lcmp, 177, zU), (177, .ifCond .ne 22, 180, .retAddr 199), (180, .aload_n 0, 181, zU), (181, .getfield 24, 184, zU), (184, .aload_n 0, 185, zU), (185, .getfield 130, 188, zU), (188, .iconst 1, 189, .int 1), (189, .isub, 190, zU), (190, .laload, 191, zU), (191, .aload_n 0, 192, zU), (192, .getfield 71, 195, zU), (195, .lcmp, 196, zU), (196, .ifCond .eq 39, 199, .retAddr 235), (199, .aload_n 0, 200, zU), (200, .getfield 20, 203, zU), (203, .aload_n 0, 204, zU), (204, .getfield 130, 207, zU), (207, .aload_n 0, 208, zU), (208, .getfield 67, 211, zU), (211, .lastore, 212, zU), (212, .aload_n 0, 213, zU), (213, .getfield 24, 216, zU), (216, .aload_n 0, 217, zU), (217, .getfield 130, 220, zU), (220, .aload_n 0, 221, zU), (221, .getfield 71, 224, zU), (224, .lastore, 225, zU), (225, .aload_n 0, 226, zU), (226, .dup, 227, zU), (227, .getfield 130, 230, zU), (230, .iconst 1, 231, .int 1), (231, .iadd, 232, zU), (232, .putfield 130, 235, zU), (235, .return_, 236, zU)]
set_option maxRecDepth 20000 in
theorem kX4_comesBack : zTab mX4_comesBack tX4_comesBack := by
  unfold zTab
  decide +kernel
def tX4_isOn : zTb := [(0, .iconst 0, 1, .int 0), (1, .istore 6, 3, zU), (3, .iload 6, 5, zU), (5, .iload_n 1, 6, zU), (6, .if_icmp .ge 69, 9, .retAddr 75), (9, .aload_n 0, 10, zU), (10, .getfield 27, 13, zU), (13, .iload 6, 15, zU), (15, .laload, 16, zU), (16, .lload_n 2, 17, zU), (17, .lmul, 18, zU), (18, .aload_n 0, 19, zU), (19, .getfield 30, 22, zU), (22, .iload 6, 24, zU), (24, .laload, 25, zU), (25, .lload 4, 27, zU), (27, .lmul, 28, zU), (28, .ladd, 29, zU), (29, .lstore 7, 31, zU), (31, .lload 7, 33, zU), (33, .aload_n 0, 34, zU), (34, .getfield 39, 37, zU), (37, .iload 6, 39, zU), (39, .iaload, 40, zU), (40, .i2l, 41, zU), (41, .lload 4, 43, zU), (43, .lmul, 44, zU), (44, .lcmp, 45, zU), (45, .ifCond .lt 22, 48, .retAddr 67), (48, .lload 7, 50, zU), (50, .aload_n 0, 51, zU), (51, .getfield 39, 54, zU), (54, .iload 6, 56, zU), (56, .iaload, 57, zU), (57, .iconst 1, 58, .int 1), (58, .iadd, 59, zU), (59, .i2l, 60, zU), (60, .lload 4, 62, zU), (62, .lmul, 63, zU), (63, .lcmp, 64, zU), (64, .ifCond .le 5, 67, .retAddr 69), (67, .iconst 0, 68, .int 0), (68, .ireturn, 69, zU), (69, .iinc 6 1, 72, .int (1)), (72, .goto (-69), 3, zU), (75, .iconst 1, 76, .int 1), (76, .ireturn, 77, zU)]
set_option maxRecDepth 20000 in
theorem kX4_isOn : zTab mX4_isOn tX4_isOn := by
  unfold zTab
  decide +kernel
def tX4_findRounds : zTb := [(0, .aload_n 0, 1, zU), (1, .iconst 0, 2, .int 0), (2, .putfield 130, 5, zU), (5, .aload_n 0, 6, zU), (6, .iconst 0, 7, .int 0), (7, .putfield 120, 10, zU), (10, .aload_n 0, 11, zU), (11, .iconst 0, 12, .int 0), (12, .putfield 124, 15, zU), (15, .iconst 0, 16, .int 0), (16, .istore_n 3, 17, zU), (17, .iload_n 3, 18, zU), (18, .aload_n 0, 19, zU), (19, .getfield 7, 22, zU), (22, .iload_n 1, 23, zU), (23, .iaload, 24, zU), (24, .if_icmp .ge 38, 27, .retAddr 62), (27, .iconst 0, 28, .int 0), (28, .istore 4, 30, zU), (30, .aload_n 0, 31, zU), (31, .iconst 0, 32, .int 0), (32, .iload_n 3, 33, zU), (33, .lconst 1, 34, .long 1), (34, .lconst 0, 35, .long 0), (35, .invokevirtual 134, 38, zU), (38, .iload 4, 40, zU), (40, .ifCond .lt 16, 43, .retAddr 56), (43, .aload_n 0, 44, zU), (44, .iload_n 1, 45, zU), (45, .iload 4, 47, zU), (47, .iload_n 2, 48, zU), (48, .invokevirtual 138, 51, zU), (51, .istore 4, 53, zU), (53, .goto (-15), 38, zU), (56, .iinc 3 1, 59, .int (1)), (59, .goto (-42), 17, zU), (62, .return_, 63, zU)]
set_option maxRecDepth 20000 in
theorem kX4_findRounds : zTab mX4_findRounds tX4_findRounds := by
  unfold zTab
  decide +kernel
def tX4_enters : zTb := [(0, .aload_n 0, 1, zU), (1, .getfield 39, 4, zU), (4, .iload_n 1, 5, zU), (5, .iload_n 2, 6, zU), (6, .iastore, 7, zU), (7, .aload_n 0, 8, zU), (8, .getfield 27, 11, zU), (11, .iload_n 1, 12, zU), (12, .lload_n 3, 13, zU), (13, .lastore, 14, zU), (14, .aload_n 0, 15, zU), (15, .getfield 30, 18, zU), (18, .iload_n 1, 19, zU), (19, .lload 5, 21, zU), (21, .lastore, 22, zU), (22, .aload_n 0, 23, zU), (23, .getfield 42, 26, zU), (26, .iload_n 1, 27, zU), (27, .iconst 0, 28, .int 0), (28, .iastore, 29, zU), (29, .return_, 30, zU)]
set_option maxRecDepth 20000 in
theorem kX4_enters : zTab mX4_enters tX4_enters := by
  unfold zTab
  decide +kernel
def tX4_goOn : zTb := [(0, .aload_n 0, 1, zU), (1, .getfield 39, 4, zU), (4, .iload_n 2, 5, zU), (5, .iaload, 6, zU), (6, .istore 4, 8, zU), (8, .aload_n 0, 9, zU), (9, .iload_n 1, 10, zU), (10, .iload 4, 12, zU), (12, .invokevirtual 57, 15, zU), (15, .i2l, 16, zU), (16, .lstore 5, 18, zU), (18, .lload 5, 20, zU), (20, .aload_n 0, 21, zU), (21, .getfield 27, 24, zU), (24, .iload_n 2, 25, zU), (25, .laload, 26, zU), (26, .lmul, 27, zU), (27, .lstore 7, 29, zU), (29, .lload 5, 31, zU), (31, .aload_n 0, 32, zU), (32, .getfield 30, 35, zU), (35, .iload_n 2, 36, zU), (36, .laload, 37, zU), (37, .lmul, 38, zU), (38, .aload_n 0, 39, zU), (39, .getfield 13, 42, zU), (42, .bipush 7, 44, .int 7), (44, .iload_n 1, 45, zU), (45, .imul, 46, zU), (46, .iload 4, 48, zU), (48, .iadd, 49, zU), (49, .iaload, 50, zU), (50, .i2l, 51, zU), (51, .ladd, 52, zU), (52, .lload 5, 54, zU), (54, .iload 4, 56, zU), (56, .i2l, 57, zU), (57, .lmul, 58, zU), (58, .lsub, 59, zU), (59, .lstore 9, 61, zU), (61, .iload_n 2, 62, zU), (62, .iconst 1, 63, .int 1), (63, .iadd, 64, zU), (64, .iload_n 3, 65, zU), (65, .if_icmp .ne 32, 68, .retAddr 97), (68, .aload_n 0, 69, zU), (69, .getfield 27, 72, zU), (72, .iload_n 3, 73, zU), (73, .lload 7, 75, zU), (75, .lastore, 76, zU), (76, .aload_n 0, 77, zU), (77, .getfield 30, 80, zU), (80, .iload_n 3, 81, zU), (81, .lload 9, 83, zU), (83, .lastore, 84, zU), (84, .aload_n 0, 85, zU), (85, .iload_n 3, 86, zU), (86, .lload 7, 88, zU), (88, .lload 9, 90, zU), (90, .invokevirtual 141, 93, zU), (93, .iload_n 2, 94, zU), (94, .iconst 1, 95, .int 1), (95, .isub, 96, zU), (96, .ireturn, 97, zU), (97, .lload 7, 99, zU), (99, .lconst 0, 100, .long 0), (100, .lcmp, 101, zU), (101, .ifCond .ne 64, 104, .retAddr 165), (104, .aload_n 0, 105, zU), (105, .getfield 42, 108, zU), (108, .iload_n 2, 109, zU), (109, .iaload, 110, zU), (110, .ifCond .ne 51, 113, .retAddr 161), (113, .aload_n 0, 114, zU), (114, .getfield 42, 117, zU), (117, .iload_n 2, 118, zU), (118, .iconst 1, 119, .int 1), (119, .iastore, 120, zU), (120, .aload_n 0, 121, zU), (121, .iload_n 2, 122, zU), (122, .iconst 1, 123, .int 1), (123, .iadd, 124, zU), (124, .lload 9, 126, zU), (126, .aload_n 0, 127, zU), (127, .getfield 7, 130, zU), (130, .iload_n 1, 131, zU), (131, .iaload, 132, zU), (132, .i2l, 133, zU), (133, .lcmp, 134, zU), (134, .ifCond .ge 9, 137, .retAddr 143), (137, .lload 9, 139, zU), (139, .l2i, 140, zU), (140, .goto 11, 151, zU), (143, .aload_n 0, 144, zU), (144, .getfield 7, 147, zU), (147, .iload_n 1, 148, zU), (148, .iaload, 149, zU), (149, .iconst 1, 150, .int 1), (150, .isub, 151, zU), (151, .lconst 0, 152, .long 0), (152, .lload 9, 154, zU), (154, .invokevirtual 134, 157, zU), (157, .iload_n 2, 158, zU), (158, .iconst 1, 159, .int 1), (159, .iadd, 160, zU), (160, .ireturn, 161, zU), (161, .iload_n 2, 162, zU), (162, .iconst 1, 163, .int 1), (163, .isub, 164, zU), (164, .ireturn, 165, zU), (165, .aload_n 0, 166, zU), (166, .getfield 42, 169, zU), (169, .iload_n 2, 170, zU), (170, .iaload, 171, zU), (171, .aload_n 0, 172, zU), (172, .getfield 7, 175, zU), (175, .iload_n 1, 176, zU), (176, .iaload, 177, zU), (177, .if_icmp .ge 79, 180, .retAddr 256), (180, .aload_n 0, 181, zU), (181, .getfield 42, 184, zU), (184, .iload_n 2, 185, zU), (185, .iaload, 186, zU), (186, .istore 11, 188, zU), (188, .aload_n 0, 189, zU), (189, .getfield 42, 192, zU), (192, .iload_n 2, 193, zU), (193, .dup2, 194, zU), (194, .iaload, 195, zU), (195, .iconst 1, 196, .int 1), (196, .iadd, 197, zU), (197, .iastore, 198, zU), (198, .lload 7, 200, zU), (200, .lconst 0, 201, .long 0), (201, .lcmp, 202, zU), (202, .ifCond .le 8, 205, .retAddr 210), (205, .iload 11, 207, zU), (207, .goto 14, 221, zU), (210, .aload_n 0, 211, zU), (211, .getfield 7, 214, zU), (214, .iload_n 1, 215, zU), (215, .iaload, 216, zU), (216, .iconst 1, 217, .int 1), (217, .isub, 218, zU), (218, .iload 11, 220, zU), (220, .isub, 221, zU), (221, .istore 12, 223, zU), (223, .aload_n 0, 224, zU), (224, .iload_n 1, 225, zU), (225, .iload 4, 227, zU), (227, .iload 12, 229, zU), (229, .invokevirtual 104, 232, zU), (232, .iconst 1, 233, .int 1), (233, .if_icmp .ne 20, 236, .retAddr 253), (236, .aload_n 0, 237, zU), (237, .iload_n 2, 238, zU), (238, .iconst 1, 239, .int 1), (239, .iadd, 240, zU), (240, .iload 12, 242, zU), (242, .lload 7, 244, zU), (244, .lload 9, 246, zU), (246, .invokevirtual 134, 249, zU), (249, .iload_n 2, 250, zU), (250, .iconst 1, 251, .int 1), (251, .iadd, 252, zU), (252, .ireturn, 253, zU), (253, .goto (-88), 165, zU), (256, .iload_n 2, 257, zU), (257, .iconst 1, 258, .int 1), (258, .isub, 259, zU), (259, .ireturn, 260, zU)]
set_option maxRecDepth 20000 in
theorem kX4_goOn : zTab mX4_goOn tX4_goOn := by
  unfold zTab
  decide +kernel
def tX4_rounds : zTb := [(0, .iload_n 1, 1, zU), (1, .invokestatic 51, 4, zU), (4, .ifCond .eq 15, 7, .retAddr 19), (7, .iload_n 2, 8, zU), (8, .i2l, 9, zU), (9, .lconst 1, 10, .long 1), (10, .ldc2_w 145, 13, zU), (13, .invokestatic 47, 16, zU), (16, .ifCond .ne 6, 19, .retAddr 22), (19, .bipush (-2), 21, .int (-2)), (21, .ireturn, 22, zU), (22, .aload_n 0, 23, zU), (23, .iload_n 1, 24, zU), (24, .iload_n 2, 25, zU), (25, .invokevirtual 147, 28, zU), (28, .aload_n 0, 29, zU), (29, .getfield 120, 32, zU), (32, .ifCond .eq 7, 35, .retAddr 39), (35, .iconst (-1), 36, .int (-1)), (36, .goto 7, 43, zU), (39, .aload_n 0, 40, zU), (40, .getfield 130, 43, zU), (43, .ireturn, 44, zU)]
set_option maxRecDepth 20000 in
theorem kX4_rounds : zTab mX4_rounds tX4_rounds := by
  unfold zTab
  decide +kernel
def tX4_round : zTb := [(0, .iload_n 1, 1, zU), (1, .invokestatic 51, 4, zU), (4, .ifCond .eq 30, 7, .retAddr 34), (7, .iload_n 2, 8, zU), (8, .i2l, 9, zU), (9, .lconst 1, 10, .long 1), (10, .ldc2_w 145, 13, zU), (13, .invokestatic 47, 16, zU), (16, .ifCond .eq 18, 19, .retAddr 34), (19, .iload_n 3, 20, zU), (20, .ifCond .lt 14, 23, .retAddr 34), (23, .iload 4, 25, zU), (25, .i2l, 26, zU), (26, .lconst 0, 27, .long 0), (27, .lconst 1, 28, .long 1), (28, .invokestatic 47, 31, zU), (31, .ifCond .ne 7, 34, .retAddr 38), (34, .ldc2_w 88, 37, zU), (37, .lreturn, 38, zU), (38, .aload_n 0, 39, zU), (39, .iload_n 1, 40, zU), (40, .iload_n 2, 41, zU), (41, .invokevirtual 147, 44, zU), (44, .aload_n 0, 45, zU), (45, .getfield 120, 48, zU), (48, .ifCond .ne 11, 51, .retAddr 59), (51, .iload_n 3, 52, zU), (52, .aload_n 0, 53, zU), (53, .getfield 130, 56, zU), (56, .if_icmp .lt 9, 59, .retAddr 65), (59, .ldc2_w 151, 62, zU), (62, .goto 23, 85, zU), (65, .iload 4, 67, zU), (67, .ifCond .ne 12, 70, .retAddr 79), (70, .aload_n 0, 71, zU), (71, .getfield 20, 74, zU), (74, .iload_n 3, 75, zU), (75, .laload, 76, zU), (76, .goto 9, 85, zU), (79, .aload_n 0, 80, zU), (80, .getfield 24, 83, zU), (83, .iload_n 3, 84, zU), (84, .laload, 85, zU), (85, .lreturn, 86, zU)]
set_option maxRecDepth 20000 in
theorem kX4_round : zTab mX4_round tX4_round := by
  unfold zTab
  decide +kernel
def tX4_just : zTb := [(0, .iconst 0, 1, .int 0), (1, .istore_n 3, 2, zU), (2, .iconst 0, 3, .int 0), (3, .istore 4, 5, zU), (5, .iload 4, 7, zU), (7, .aload_n 0, 8, zU), (8, .getfield 130, 11, zU), (11, .if_icmp .ge 105, 14, .retAddr 116), (14, .aload_n 0, 15, zU), (15, .aload_n 0, 16, zU), (16, .getfield 20, 19, zU), (19, .iload 4, 21, zU), (21, .laload, 22, zU), (22, .aload_n 0, 23, zU), (23, .getfield 24, 26, zU), (26, .iload 4, 28, zU), (28, .laload, 29, zU), (29, .invokevirtual 78, 32, zU), (32, .iconst 0, 33, .int 0), (33, .istore 5, 35, zU), (35, .iconst 1, 36, .int 1), (36, .istore 6, 38, zU), (38, .iload 6, 40, zU), (40, .iload_n 2, 41, zU), (41, .if_icmp .ge 56, 44, .retAddr 97), (44, .aload_n 0, 45, zU), (45, .iload_n 1, 46, zU), (46, .invokevirtual 90, 49, zU), (49, .iload 5, 51, zU), (51, .ifCond .ne 33, 54, .retAddr 84), (54, .aload_n 0, 55, zU), (55, .getfield 67, 58, zU), (58, .aload_n 0, 59, zU), (59, .getfield 20, 62, zU), (62, .iload 4, 64, zU), (64, .laload, 65, zU), (65, .lcmp, 66, zU), (66, .ifCond .ne 22, 69, .retAddr 88), (69, .aload_n 0, 70, zU), (70, .getfield 71, 73, zU), (73, .aload_n 0, 74, zU), (74, .getfield 24, 77, zU), (77, .iload 4, 79, zU), (79, .laload, 80, zU), (80, .lcmp, 81, zU), (81, .ifCond .ne 7, 84, .retAddr 88), (84, .iconst 1, 85, .int 1), (85, .goto 4, 89, zU), (88, .iconst 0, 89, .int 0), (89, .istore 5, 91, zU), (91, .iinc 6 1, 94, .int (1)), (94, .goto (-56), 38, zU), (97, .iload_n 3, 98, zU), (98, .iload 5, 100, zU), (100, .ifCond .eq 7, 103, .retAddr 107), (103, .iconst 0, 104, .int 0), (104, .goto 4, 108, zU), (107, .iconst 1, 108, .int 1), (108, .iadd, 109, zU), (109, .istore_n 3, 110, zU), (110, .iinc 4 1, 113, .int (1)), (113, .goto (-108), 5, zU), (116, .iload_n 3, 117, zU), (117, .ireturn, 118, zU)]
set_option maxRecDepth 20000 in
theorem kX4_just : zTab mX4_just tX4_just := by
  unfold zTab
  decide +kernel
def tX4_period : zTb := [(0, .iload_n 1, 1, zU), (1, .invokestatic 51, 4, zU), (4, .ifCond .eq 15, 7, .retAddr 19), (7, .iload_n 2, 8, zU), (8, .i2l, 9, zU), (9, .lconst 1, 10, .long 1), (10, .ldc2_w 145, 13, zU), (13, .invokestatic 47, 16, zU), (16, .ifCond .ne 6, 19, .retAddr 22), (19, .bipush (-2), 21, .int (-2)), (21, .ireturn, 22, zU), (22, .aload_n 0, 23, zU), (23, .iload_n 1, 24, zU), (24, .iload_n 2, 25, zU), (25, .invokevirtual 147, 28, zU), (28, .aload_n 0, 29, zU), (29, .getfield 120, 32, zU), (32, .ifCond .eq 7, 35, .retAddr 39), (35, .iconst (-1), 36, .int (-1)), (36, .goto 9, 45, zU), (39, .aload_n 0, 40, zU), (40, .iload_n 1, 41, zU), (41, .iload_n 2, 42, zU), (42, .invokevirtual 153, 45, zU), (45, .ireturn, 46, zU)]
set_option maxRecDepth 20000 in
theorem kX4_period : zTab mX4_period tX4_period := by
  unfold zTab
  decide +kernel
def tX4_hasPeriod : zTb := [(0, .aload_n 0, 1, zU), (1, .iload_n 1, 2, zU), (2, .iload_n 2, 3, zU), (3, .invokevirtual 147, 6, zU), (6, .aload_n 0, 7, zU), (7, .getfield 124, 10, zU), (10, .ifCond .ne 12, 13, .retAddr 22), (13, .aload_n 0, 14, zU), (14, .iload_n 1, 15, zU), (15, .iload_n 2, 16, zU), (16, .invokevirtual 153, 19, zU), (19, .ifCond .le 7, 22, .retAddr 26), (22, .iconst 1, 23, .int 1), (23, .goto 4, 27, zU), (26, .iconst 0, 27, .int 0), (27, .ireturn, 28, zU)]
set_option maxRecDepth 20000 in
theorem kX4_hasPeriod : zTab mX4_hasPeriod tX4_hasPeriod := by
  unfold zTab
  decide +kernel
def tX4_has : zTb := [(0, .iload_n 1, 1, zU), (1, .invokestatic 51, 4, zU), (4, .ifCond .eq 15, 7, .retAddr 19), (7, .iload_n 2, 8, zU), (8, .i2l, 9, zU), (9, .lconst 1, 10, .long 1), (10, .ldc2_w 145, 13, zU), (13, .invokestatic 47, 16, zU), (16, .ifCond .ne 8, 19, .retAddr 24), (19, .bipush (-2), 21, .int (-2)), (21, .goto 17, 38, zU), (24, .aload_n 0, 25, zU), (25, .iload_n 1, 26, zU), (26, .iload_n 2, 27, zU), (27, .invokevirtual 156, 30, zU), (30, .ifCond .eq 7, 33, .retAddr 37), (33, .iconst 1, 34, .int 1), (34, .goto 4, 38, zU), (37, .iconst 0, 38, .int 0), (38, .ireturn, 39, zU)]
set_option maxRecDepth 20000 in
theorem kX4_has : zTab mX4_has tX4_has := by
  unfold zTab
  decide +kernel
def tX4_isAhead : zTb := [(0, .iconst 0, 1, .int 0), (1, .istore_n 2, 2, zU), (2, .iconst 0, 3, .int 0), (3, .istore_n 3, 4, zU), (4, .iload_n 0, 5, zU), (5, .istore 4, 7, zU), (7, .iload_n 1, 8, zU), (8, .istore 5, 10, zU), (10, .iload 4, 12, zU), (12, .iconst 2, 13, .int 2), (13, .irem, 14, zU), (14, .ifCond .ne 15, 17, .retAddr 29), (17, .iload 4, 19, zU), (19, .iconst 2, 20, .int 2), (20, .idiv, 21, zU), (21, .istore 4, 23, zU), (23, .iinc 2 1, 26, .int (1)), (26, .goto (-16), 10, zU), (29, .iload 5, 31, zU), (31, .iconst 2, 32, .int 2), (32, .irem, 33, zU), (33, .ifCond .ne 15, 36, .retAddr 48), (36, .iload 5, 38, zU), (38, .iconst 2, 39, .int 2), (39, .idiv, 40, zU), (40, .istore 5, 42, zU), (42, .iinc 3 1, 45, .int (1)), (45, .goto (-16), 29, zU), (48, .iload 4, 50, zU), (50, .iconst 1, 51, .int 1), (51, .if_icmp .eq 9, 54, .retAddr 60), (54, .iload 5, 56, zU), (56, .iconst 1, 57, .int 1), (57, .if_icmp .ne 26, 60, .retAddr 83), (60, .iload 4, 62, zU), (62, .iconst 1, 63, .int 1), (63, .if_icmp .gt 14, 66, .retAddr 77), (66, .iload 5, 68, zU), (68, .iconst 1, 69, .int 1), (69, .if_icmp .ne 12, 72, .retAddr 81), (72, .iload_n 0, 73, zU), (73, .iload_n 1, 74, zU), (74, .if_icmp .le 7, 77, .retAddr 81), (77, .iconst 1, 78, .int 1), (78, .goto 4, 82, zU), (81, .iconst 0, 82, .int 0), (82, .ireturn, 83, zU), (83, .iload_n 2, 84, zU), (84, .iload_n 3, 85, zU), (85, .if_icmp .eq 16, 88, .retAddr 101), (88, .iload_n 2, 89, zU), (89, .iload_n 3, 90, zU), (90, .if_icmp .ge 7, 93, .retAddr 97), (93, .iconst 1, 94, .int 1), (94, .goto 19, 113, zU), (97, .iconst 0, 98, .int 0), (98, .goto 15, 113, zU), (101, .iload 4, 103, zU), (103, .iload 5, 105, zU), (105, .if_icmp .ge 7, 108, .retAddr 112), (108, .iconst 1, 109, .int 1), (109, .goto 4, 113, zU), (112, .iconst 0, 113, .int 0), (113, .ireturn, 114, zU)]
set_option maxRecDepth 20000 in
theorem kX4_isAhead : zTab mX4_isAhead tX4_isAhead := by
  unfold zTab
  decide +kernel
def tX4_forces : zTb := [(0, .iload_n 1, 1, zU), (1, .i2l, 2, zU), (2, .lconst 1, 3, .long 1), (3, .ldc2_w 159, 6, zU), (6, .invokestatic 47, 9, zU), (9, .ifCond .eq 15, 12, .retAddr 24), (12, .iload_n 2, 13, zU), (13, .i2l, 14, zU), (14, .lconst 1, 15, .long 1), (15, .ldc2_w 159, 18, zU), (18, .invokestatic 47, 21, zU), (21, .ifCond .ne 8, 24, .retAddr 29), (24, .bipush (-2), 26, .int (-2)), (26, .goto 21, 47, zU), (29, .iload_n 1, 30, zU), (30, .iload_n 2, 31, zU), (31, .if_icmp .eq 11, 34, .retAddr 42), (34, .iload_n 1, 35, zU), (35, .iload_n 2, 36, zU), (36, .invokestatic 161, 39, zU), (39, .ifCond .eq 7, 42, .retAddr 46), (42, .iconst 1, 43, .int 1), (43, .goto 4, 47, zU), (46, .iconst 0, 47, .int 0), (47, .ireturn, 48, zU)]
set_option maxRecDepth 20000 in
theorem kX4_forces : zTab mX4_forces tX4_forces := by
  unfold zTab
  decide +kernel
def tX4_most : zTb := [(0, .iload_n 1, 1, zU), (1, .invokestatic 51, 4, zU), (4, .ifCond .ne 6, 7, .retAddr 10), (7, .bipush (-2), 9, .int (-2)), (9, .ireturn, 10, zU), (10, .iconst 1, 11, .int 1), (11, .istore_n 2, 12, zU), (12, .iconst 2, 13, .int 2), (13, .istore_n 3, 14, zU), (14, .iload_n 3, 15, zU), (15, .bipush 6, 17, .int 6), (17, .if_icmp .gt 32, 20, .retAddr 49), (20, .iload_n 3, 21, zU), (21, .iload_n 2, 22, zU), (22, .invokestatic 161, 25, zU), (25, .ifCond .eq 16, 28, .retAddr 41), (28, .aload_n 0, 29, zU), (29, .iload_n 1, 30, zU), (30, .iload_n 3, 31, zU), (31, .invokevirtual 156, 34, zU), (34, .ifCond .eq 7, 37, .retAddr 41), (37, .iload_n 3, 38, zU), (38, .goto 4, 42, zU), (41, .iload_n 2, 42, zU), (42, .istore_n 2, 43, zU), (43, .iinc 3 1, 46, .int (1)), (46, .goto (-32), 14, zU), (49, .iload_n 2, 50, zU), (50, .ireturn, 51, zU)]
set_option maxRecDepth 20000 in
theorem kX4_most : zTab mX4_most tX4_most := by
  unfold zTab
  decide +kernel
def tX4_topOf : zTb := [(0, .iconst 1, 1, .int 1), (1, .istore_n 2, 2, zU), (2, .iload_n 2, 3, zU), (3, .aload_n 0, 4, zU), (4, .getfield 7, 7, zU), (7, .iload_n 1, 8, zU), (8, .iaload, 9, zU), (9, .if_icmp .ge 76, 12, .retAddr 85), (12, .iconst 1, 13, .int 1), (13, .istore_n 3, 14, zU), (14, .iconst 0, 15, .int 0), (15, .istore 4, 17, zU), (17, .iload 4, 19, zU), (19, .aload_n 0, 20, zU), (20, .getfield 7, 23, zU), (23, .iload_n 1, 24, zU), (24, .iaload, 25, zU), (25, .if_icmp .ge 48, 28, .retAddr 73), (28, .iload_n 3, 29, zU), (29, .ifCond .eq 36, 32, .retAddr 65), (32, .iload 4, 34, zU), (34, .iload_n 2, 35, zU), (35, .if_icmp .ge 16, 38, .retAddr 51), (38, .aload_n 0, 39, zU), (39, .iload_n 1, 40, zU), (40, .iload 4, 42, zU), (42, .invokevirtual 57, 45, zU), (45, .ifCond .le 20, 48, .retAddr 65), (48, .goto 13, 61, zU), (51, .aload_n 0, 52, zU), (52, .iload_n 1, 53, zU), (53, .iload 4, 55, zU), (55, .invokevirtual 57, 58, zU), (58, .ifCond .ge 7, 61, .retAddr 65), (61, .iconst 1, 62, .int 1), (62, .goto 4, 66, zU), (65, .iconst 0, 66, .int 0), (66, .istore_n 3, 67, zU), (67, .iinc 4 1, 70, .int (1)), (70, .goto (-53), 17, zU), (73, .iload_n 3, 74, zU), (74, .ifCond .eq 5, 77, .retAddr 79), (77, .iload_n 2, 78, zU), (78, .ireturn, 79, zU), (79, .iinc 2 1, 82, .int (1)), (82, .goto (-80), 2, zU), (85, .iconst (-1), 86, .int (-1)), (86, .ireturn, 87, zU)]
set_option maxRecDepth 20000 in
theorem kX4_topOf : zTab mX4_topOf tX4_topOf := by
  unfold zTab
  decide +kernel
def tX4_top : zTb := [(0, .iload_n 1, 1, zU), (1, .invokestatic 51, 4, zU), (4, .ifCond .eq 11, 7, .retAddr 15), (7, .aload_n 0, 8, zU), (8, .iload_n 1, 9, zU), (9, .invokevirtual 164, 12, zU), (12, .goto 5, 17, zU), (15, .bipush (-2), 17, .int (-2)), (17, .ireturn, 18, zU)]
set_option maxRecDepth 20000 in
theorem kX4_top : zTab mX4_top tX4_top := by
  unfold zTab
  decide +kernel
def tX4_topWord : zTb := [(0, .iload_n 1, 1, zU), (1, .invokestatic 51, 4, zU), (4, .ifCond .eq 15, 7, .retAddr 19), (7, .iload_n 2, 8, zU), (8, .i2l, 9, zU), (9, .lconst 1, 10, .long 1), (10, .ldc2_w 86, 13, zU), (13, .invokestatic 47, 16, zU), (16, .ifCond .ne 6, 19, .retAddr 22), (19, .bipush (-2), 21, .int (-2)), (21, .ireturn, 22, zU), (22, .aload_n 0, 23, zU), (23, .iload_n 1, 24, zU), (24, .invokevirtual 164, 27, zU), (27, .istore_n 3, 28, zU), (28, .iload_n 3, 29, zU), (29, .iconst (-1), 30, .int (-1)), (30, .if_icmp .ne 6, 33, .retAddr 36), (33, .bipush (-3), 35, .int (-3)), (35, .ireturn, 36, zU), (36, .iload_n 3, 37, zU), (37, .istore 4, 39, zU), (39, .iconst 0, 40, .int 0), (40, .istore 5, 42, zU), (42, .iload 5, 44, zU), (44, .iload_n 2, 45, zU), (45, .if_icmp .ge 23, 48, .retAddr 68), (48, .aload_n 0, 49, zU), (49, .getfield 13, 52, zU), (52, .bipush 7, 54, .int 7), (54, .iload_n 1, 55, zU), (55, .imul, 56, zU), (56, .iload 4, 58, zU), (58, .iadd, 59, zU), (59, .iaload, 60, zU), (60, .istore 4, 62, zU), (62, .iinc 5 1, 65, .int (1)), (65, .goto (-23), 42, zU), (68, .iload 4, 70, zU), (70, .iload_n 3, 71, zU), (71, .if_icmp .ge 7, 74, .retAddr 78), (74, .iconst 0, 75, .int 0), (75, .goto 14, 89, zU), (78, .iload 4, 80, zU), (80, .iload_n 3, 81, zU), (81, .if_icmp .ne 7, 84, .retAddr 88), (84, .iconst 1, 85, .int 1), (85, .goto 4, 89, zU), (88, .iconst 2, 89, .int 2), (89, .ireturn, 90, zU)]
set_option maxRecDepth 20000 in
theorem kX4_topWord : zTab mX4_topWord tX4_topWord := by
  unfold zTab
  decide +kernel
def tX4_topRound : zTb := [(0, .iload_n 1, 1, zU), (1, .invokestatic 51, 4, zU), (4, .ifCond .eq 13, 7, .retAddr 17), (7, .iload_n 2, 8, zU), (8, .i2l, 9, zU), (9, .lconst 0, 10, .long 0), (10, .lconst 1, 11, .long 1), (11, .invokestatic 47, 14, zU), (14, .ifCond .ne 6, 17, .retAddr 20), (17, .bipush (-2), 19, .int (-2)), (19, .ireturn, 20, zU), (20, .aload_n 0, 21, zU), (21, .iload_n 1, 22, zU), (22, .invokevirtual 164, 25, zU), (25, .istore_n 3, 26, zU), (26, .iload_n 3, 27, zU), (27, .iconst (-1), 28, .int (-1)), (28, .if_icmp .ne 6, 31, .retAddr 34), (31, .bipush (-3), 33, .int (-3)), (33, .ireturn, 34, zU), (34, .iconst 0, 35, .int 0), (35, .istore 4, 37, zU), (37, .iload 4, 39, zU), (39, .bipush 7, 41, .int 7), (41, .if_icmp .ge 17, 44, .retAddr 58), (44, .aload_n 0, 45, zU), (45, .getfield 16, 48, zU), (48, .iload 4, 50, zU), (50, .iconst (-1), 51, .int (-1)), (51, .iastore, 52, zU), (52, .iinc 4 1, 55, .int (1)), (55, .goto (-18), 37, zU), (58, .iload_n 3, 59, zU), (59, .istore 4, 61, zU), (61, .iconst 0, 62, .int 0), (62, .istore 5, 64, zU), (64, .aload_n 0, 65, zU), (65, .getfield 16, 68, zU), (68, .iload 4, 70, zU), (70, .iaload, 71, zU), (71, .iconst (-1), 72, .int (-1)), (72, .if_icmp .ne 32, 75, .retAddr 104), (75, .aload_n 0, 76, zU), (76, .getfield 16, 79, zU), (79, .iload 4, 81, zU), (81, .iload 5, 83, zU), (83, .iastore, 84, zU), (84, .aload_n 0, 85, zU), (85, .getfield 13, 88, zU), (88, .bipush 7, 90, .int 7), (90, .iload_n 1, 91, zU), (91, .imul, 92, zU), (92, .iload 4, 94, zU), (94, .iadd, 95, zU), (95, .iaload, 96, zU), (96, .istore 4, 98, zU), (98, .iinc 5 1, 101, .int (1)), (101, .goto (-37), 64, zU), (104, .iload_n 2, 105, zU), (105, .ifCond .ne 13, 108, .retAddr 118), (108, .aload_n 0, 109, zU), (109, .getfield 16, 112, zU), (112, .iload 4, 114, zU), (114, .iaload, 115, zU), (115, .goto 13, 128, zU), (118, .iload 5, 120, zU), (120, .aload_n 0, 121, zU), (121, .getfield 16, 124, zU), (124, .iload 4, 126, zU), (126, .iaload, 127, zU), (127, .isub, 128, zU), (128, .ireturn, 129, zU)]
set_option maxRecDepth 20000 in
theorem kX4_topRound : zTab mX4_topRound tX4_topRound := by
  unfold zTab
  decide +kernel
def tX4_digest : zTb := [(0, .ldc2_w 167, 3, zU), (3, .lstore_n 1, 4, zU), (4, .iconst 0, 5, .int 0), (5, .istore_n 3, 6, zU), (6, .iload_n 3, 7, zU), (7, .bipush 8, 9, .int 8), (9, .if_icmp .ge 63, 12, .retAddr 72), (12, .ldc2_w 169, 15, zU), (15, .lload_n 1, 16, zU), (16, .lmul, 17, zU), (17, .aload_n 0, 18, zU), (18, .getfield 7, 21, zU), (21, .iload_n 3, 22, zU), (22, .iaload, 23, zU), (23, .i2l, 24, zU), (24, .ladd, 25, zU), (25, .lstore_n 1, 26, zU), (26, .iconst 0, 27, .int 0), (27, .istore 4, 29, zU), (29, .iload 4, 31, zU), (31, .aload_n 0, 32, zU), (32, .getfield 7, 35, zU), (35, .iload_n 3, 36, zU), (36, .iaload, 37, zU), (37, .if_icmp .gt 29, 40, .retAddr 66), (40, .ldc2_w 169, 43, zU), (43, .lload_n 1, 44, zU), (44, .lmul, 45, zU), (45, .aload_n 0, 46, zU), (46, .getfield 13, 49, zU), (49, .bipush 7, 51, .int 7), (51, .iload_n 3, 52, zU), (52, .imul, 53, zU), (53, .iload 4, 55, zU), (55, .iadd, 56, zU), (56, .iaload, 57, zU), (57, .i2l, 58, zU), (58, .ladd, 59, zU), (59, .lstore_n 1, 60, zU), (60, .iinc 4 1, 63, .int (1)), (63, .goto (-34), 29, zU), (66, .iinc 3 1, 69, .int (1)), (69, .goto (-63), 6, zU), (72, .lload_n 1, 73, zU), (73, .lreturn, 74, zU)]
set_option maxRecDepth 20000 in
theorem kX4_digest : zTab mX4_digest tX4_digest := by
  unfold zTab
  decide +kernel
def tJ9_abs_0f7a4 : zTb := [(0, .iload_n 0, 1, zU), (1, .ifCond .ge 8, 4, .retAddr 9), (4, .iload_n 0, 5, zU), (5, .ineg, 6, zU), (6, .goto 4, 10, zU), (9, .iload_n 0, 10, zU), (10, .ireturn, 11, zU)]
set_option maxRecDepth 20000 in
theorem kJ9_abs_0f7a4 : zTab mJ9_abs_0f7a4 tJ9_abs_0f7a4 := by
  unfold zTab
  decide +kernel
def tJ9_abs_067f4 : zTb := [(0, .lload_n 0, 1, zU), (1, .lconst 0, 2, .long 0), (2, .lcmp, 3, zU), (3, .ifCond .ge 8, 6, .retAddr 11), (6, .lload_n 0, 7, zU), (7, .lneg, 8, zU), (8, .goto 4, 12, zU), (11, .lload_n 0, 12, zU), (12, .lreturn, 13, zU)]
set_option maxRecDepth 20000 in
theorem kJ9_abs_067f4 : zTab mJ9_abs_067f4 tJ9_abs_067f4 := by
  unfold zTab
  decide +kernel
def tJ9_max_7cf53 : zTb := [(0, .iload_n 0, 1, zU), (1, .iload_n 1, 2, zU), (2, .if_icmp .lt 7, 5, .retAddr 9), (5, .iload_n 0, 6, zU), (6, .goto 4, 10, zU), (9, .iload_n 1, 10, zU), (10, .ireturn, 11, zU)]
set_option maxRecDepth 20000 in
theorem kJ9_max_7cf53 : zTab mJ9_max_7cf53 tJ9_max_7cf53 := by
  unfold zTab
  decide +kernel
def tJ9_max_f86c9 : zTb := [(0, .lload_n 0, 1, zU), (1, .lload_n 2, 2, zU), (2, .lcmp, 3, zU), (3, .ifCond .lt 7, 6, .retAddr 10), (6, .lload_n 0, 7, zU), (7, .goto 4, 11, zU), (10, .lload_n 2, 11, zU), (11, .lreturn, 12, zU)]
set_option maxRecDepth 20000 in
theorem kJ9_max_f86c9 : zTab mJ9_max_f86c9 tJ9_max_f86c9 := by
  unfold zTab
  decide +kernel
def tJ9_min_7cf53 : zTb := [(0, .iload_n 0, 1, zU), (1, .iload_n 1, 2, zU), (2, .if_icmp .gt 7, 5, .retAddr 9), (5, .iload_n 0, 6, zU), (6, .goto 4, 10, zU), (9, .iload_n 1, 10, zU), (10, .ireturn, 11, zU)]
set_option maxRecDepth 20000 in
theorem kJ9_min_7cf53 : zTab mJ9_min_7cf53 tJ9_min_7cf53 := by
  unfold zTab
  decide +kernel
def tJ9_min_f86c9 : zTb := [(0, .lload_n 0, 1, zU), (1, .lload_n 2, 2, zU), (2, .lcmp, 3, zU), (3, .ifCond .gt 7, 6, .retAddr 10), (6, .lload_n 0, 7, zU), (7, .goto 4, 11, zU), (10, .lload_n 2, 11, zU), (11, .lreturn, 12, zU)]
set_option maxRecDepth 20000 in
theorem kJ9_min_f86c9 : zTab mJ9_min_f86c9 tJ9_min_f86c9 := by
  unfold zTab
  decide +kernel
end
section
/-! ===== java.lang.Math, an instruction each ===== -/
section ZMath
variable {E : zE} {M : zM} {d : Nat} {Post : Option Value → zWd → Prop} {pc nx : Nat} {L st : List Value} {w : zWd} {T : zTb} {aux : Value}
theorem zV.mxI (hT : zTab M T) {idx : Nat} (hl : T.lookup pc = some (.invokestatic idx, nx, aux)) (hC : zCs M.1.cls idx mJ9_max_7cf53 2) (hd : 1 ≤ d) (hw8 : (st.map fun v => v.category).sum ≤ 8) {x y : Int32} (k : zV E M d Post nx L (.int (if x < y then y else x) :: st) w) : zV E M d Post pc L (.int y :: .int x :: st) w := by
  intro hI p e s m args below meth c H locs ls X hP hS hL
  have K := k hI p e s m args below meth c H locs ls X hP hS hL
  obtain ⟨hx, hb, hml, -, -, ho, hw, -⟩ := X
  obtain ⟨h1, h2⟩ := zTab.dec hT hl
  have h2 : nx = pc + 3 := of_decide_eq_true h2
  subst h2
  obtain ⟨c1, c2, c3, c4, -, -⟩ := hC
  have inB : ∀ x, x ∈ zB → x.before args s = true := fun x h => hw _ (List.mem_cons_of_mem _ h)
  have hs : ((st.map (zv E.2.2.1)).map fun v => v.category).sum ≤ 8 := by rw [zsum]; exact hw8
  have hr : (zRm d).locals = 42 * d := rfl
  exact va_mmax hx hb (hml.trans hL.2.1.symm) ho (inB _ c1) (inB _ c2) (inB _ c3) (inB _ c4) hd (by omega) (Nat.le_refl _) (Nat.le_refl _) h1 K
theorem zV.mnI (hT : zTab M T) {idx : Nat} (hl : T.lookup pc = some (.invokestatic idx, nx, aux)) (hC : zCs M.1.cls idx mJ9_min_7cf53 2) (hd : 1 ≤ d) (hw8 : (st.map fun v => v.category).sum ≤ 8) {x y : Int32} (k : zV E M d Post nx L (.int (if y < x then y else x) :: st) w) : zV E M d Post pc L (.int y :: .int x :: st) w := by
  intro hI p e s m args below meth c H locs ls X hP hS hL
  have K := k hI p e s m args below meth c H locs ls X hP hS hL
  obtain ⟨hx, hb, hml, -, -, ho, hw, -⟩ := X
  obtain ⟨h1, h2⟩ := zTab.dec hT hl
  have h2 : nx = pc + 3 := of_decide_eq_true h2
  subst h2
  obtain ⟨c1, c2, c3, c4, -, -⟩ := hC
  have inB : ∀ x, x ∈ zB → x.before args s = true := fun x h => hw _ (List.mem_cons_of_mem _ h)
  have hs : ((st.map (zv E.2.2.1)).map fun v => v.category).sum ≤ 8 := by rw [zsum]; exact hw8
  have hr : (zRm d).locals = 42 * d := rfl
  exact va_mmin hx hb (hml.trans hL.2.1.symm) ho (inB _ c1) (inB _ c2) (inB _ c3) (inB _ c4) hd (by omega) (Nat.le_refl _) (Nat.le_refl _) h1 K
theorem zV.abI (hT : zTab M T) {idx : Nat} (hl : T.lookup pc = some (.invokestatic idx, nx, aux)) (hC : zCs M.1.cls idx mJ9_abs_0f7a4 1) (hd : 1 ≤ d) (hw8 : (st.map fun v => v.category).sum ≤ 8) {x : Int32} (k : zV E M d Post nx L (.int (if 0 ≤ x then x else 0 - x) :: st) w) : zV E M d Post pc L (.int x :: st) w := by
  intro hI p e s m args below meth c H locs ls X hP hS hL
  have K := k hI p e s m args below meth c H locs ls X hP hS hL
  obtain ⟨hx, hb, hml, -, -, ho, hw, -⟩ := X
  obtain ⟨h1, h2⟩ := zTab.dec hT hl
  have h2 : nx = pc + 3 := of_decide_eq_true h2
  subst h2
  obtain ⟨c1, c2, c3, c4, -, -⟩ := hC
  have inB : ∀ x, x ∈ zB → x.before args s = true := fun x h => hw _ (List.mem_cons_of_mem _ h)
  have hs : ((st.map (zv E.2.2.1)).map fun v => v.category).sum ≤ 8 := by rw [zsum]; exact hw8
  have hr : (zRm d).locals = 42 * d := rfl
  exact va_mabs hx hb (hml.trans hL.2.1.symm) ho (inB _ c1) (inB _ c2) (inB _ c3) (inB _ c4) hd (by omega) (Nat.le_refl _) (Nat.le_refl _) h1 K
theorem zV.mxL (hT : zTab M T) {idx : Nat} (hl : T.lookup pc = some (.invokestatic idx, nx, aux)) (hC : zCs M.1.cls idx mJ9_max_f86c9 2) (hd : 1 ≤ d) (hw8 : (st.map fun v => v.category).sum ≤ 8) {x y : Int64} (k : zV E M d Post nx L (.long (if y < x then x else y) :: st) w) : zV E M d Post pc L (.long y :: .long x :: st) w := by
  intro hI p e s m args below meth c H locs ls X hP hS hL
  have K := k hI p e s m args below meth c H locs ls X hP hS hL
  obtain ⟨hx, hb, hml, -, -, ho, hw, -⟩ := X
  obtain ⟨h1, h2⟩ := zTab.dec hT hl
  have h2 : nx = pc + 3 := of_decide_eq_true h2
  subst h2
  obtain ⟨c1, c2, c3, c4, -, -⟩ := hC
  have inB : ∀ x, x ∈ zB → x.before args s = true := fun x h => hw _ (List.mem_cons_of_mem _ h)
  have hs : ((st.map (zv E.2.2.1)).map fun v => v.category).sum ≤ 8 := by rw [zsum]; exact hw8
  have hr : (zRm d).locals = 42 * d := rfl
  exact va_mmax_long hx hb (hml.trans hL.2.1.symm) ho (inB _ c1) (inB _ c2) (inB _ c3) (inB _ c4) hd (by omega) (Nat.le_refl _) (Nat.le_refl _) h1 K
theorem zV.mnL (hT : zTab M T) {idx : Nat} (hl : T.lookup pc = some (.invokestatic idx, nx, aux)) (hC : zCs M.1.cls idx mJ9_min_f86c9 2) (hd : 1 ≤ d) (hw8 : (st.map fun v => v.category).sum ≤ 8) {x y : Int64} (k : zV E M d Post nx L (.long (if y < x then y else x) :: st) w) : zV E M d Post pc L (.long y :: .long x :: st) w := by
  intro hI p e s m args below meth c H locs ls X hP hS hL
  have K := k hI p e s m args below meth c H locs ls X hP hS hL
  obtain ⟨hx, hb, hml, -, -, ho, hw, -⟩ := X
  obtain ⟨h1, h2⟩ := zTab.dec hT hl
  have h2 : nx = pc + 3 := of_decide_eq_true h2
  subst h2
  obtain ⟨c1, c2, c3, c4, -, -⟩ := hC
  have inB : ∀ x, x ∈ zB → x.before args s = true := fun x h => hw _ (List.mem_cons_of_mem _ h)
  have hs : ((st.map (zv E.2.2.1)).map fun v => v.category).sum ≤ 8 := by rw [zsum]; exact hw8
  have hr : (zRm d).locals = 42 * d := rfl
  exact va_mmin_long hx hb (hml.trans hL.2.1.symm) ho (inB _ c1) (inB _ c2) (inB _ c3) (inB _ c4) hd (by omega) (Nat.le_refl _) (Nat.le_refl _) h1 K
theorem zV.abL (hT : zTab M T) {idx : Nat} (hl : T.lookup pc = some (.invokestatic idx, nx, aux)) (hC : zCs M.1.cls idx mJ9_abs_067f4 1) (hd : 1 ≤ d) (hw8 : (st.map fun v => v.category).sum ≤ 8) {x : Int64} (k : zV E M d Post nx L (.long (if 0 < x then x else -x) :: st) w) : zV E M d Post pc L (.long x :: st) w := by
  intro hI p e s m args below meth c H locs ls X hP hS hL
  have K := k hI p e s m args below meth c H locs ls X hP hS hL
  obtain ⟨hx, hb, hml, -, -, ho, hw, -⟩ := X
  obtain ⟨h1, h2⟩ := zTab.dec hT hl
  have h2 : nx = pc + 3 := of_decide_eq_true h2
  subst h2
  obtain ⟨c1, c2, c3, c4, -, -⟩ := hC
  have inB : ∀ x, x ∈ zB → x.before args s = true := fun x h => hw _ (List.mem_cons_of_mem _ h)
  have hs : ((st.map (zv E.2.2.1)).map fun v => v.category).sum ≤ 8 := by rw [zsum]; exact hw8
  have hr : (zRm d).locals = 42 * d := rfl
  exact va_mabs_long hx hb (hml.trans hL.2.1.symm) ho (inB _ c1) (inB _ c2) (inB _ c3) (inB _ c4) hd (by omega) (Nat.le_refl _) (Nat.le_refl _) h1 K
end ZMath
end
section
/-! ===== numbers: Int32 and Int64 as wrapped integers ===== -/
def iI (z : Int) : Int32 := Int32.ofInt z
def lI (z : Int) : Int64 := Int64.ofInt z
theorem iI_add (a b : Int) : iI a + iI b = iI (a + b) := (Int32.ofInt_add a b).symm
theorem iI_sub (a b : Int) : iI a - iI b = iI (a - b) := (Int32.ofInt_sub a b).symm
theorem iI_mul (a b : Int) : iI a * iI b = iI (a * b) := (Int32.ofInt_mul a b).symm
theorem iI_neg (a : Int) : -iI a = iI (-a) := (Int32.ofInt_neg a).symm
theorem lI_add (a b : Int) : lI a + lI b = lI (a + b) := (Int64.ofInt_add a b).symm
theorem lI_sub (a b : Int) : lI a - lI b = lI (a - b) := (Int64.ofInt_sub a b).symm
theorem lI_mul (a b : Int) : lI a * lI b = lI (a * b) := (Int64.ofInt_mul a b).symm
theorem lI_neg (a : Int) : -lI a = lI (-a) := (Int64.ofInt_neg a).symm
theorem iI_t {z : Int} (h1 : -2147483648 ≤ z) (h2 : z < 2147483648) : (iI z).toInt = z := Int32.toInt_ofInt_of_le (by omega) (by omega)
theorem lI_t {z : Int} (h1 : -9223372036854775808 ≤ z) (h2 : z < 9223372036854775808) : (lI z).toInt = z := Int64.toInt_ofInt_of_le (by omega) (by omega)
theorem nI_iI (n : Nat) : nI n = iI (n : Int) := (Int32.ofInt_eq_ofNat).symm
theorem lN_lI (n : Nat) : lN n = lI (n : Int) := (Int64.ofInt_eq_ofNat).symm
theorem iI_lt {a b : Int} (h1 : -2147483648 ≤ a) (h2 : a < 2147483648) (h3 : -2147483648 ≤ b) (h4 : b < 2147483648) : iI a < iI b ↔ a < b := by
  rw [Int32.lt_iff_toInt_lt, iI_t h1 h2, iI_t h3 h4]
theorem iI_le {a b : Int} (h1 : -2147483648 ≤ a) (h2 : a < 2147483648) (h3 : -2147483648 ≤ b) (h4 : b < 2147483648) : iI a ≤ iI b ↔ a ≤ b := by
  rw [Int32.le_iff_toInt_le, iI_t h1 h2, iI_t h3 h4]
theorem iI_eq {a b : Int} (h1 : -2147483648 ≤ a) (h2 : a < 2147483648) (h3 : -2147483648 ≤ b) (h4 : b < 2147483648) : iI a = iI b ↔ a = b := by
  rw [← Int32.toInt_inj, iI_t h1 h2, iI_t h3 h4]
theorem lI_lt {a b : Int} (h1 : -9223372036854775808 ≤ a) (h2 : a < 9223372036854775808) (h3 : -9223372036854775808 ≤ b) (h4 : b < 9223372036854775808) : lI a < lI b ↔ a < b := by
  rw [Int64.lt_iff_toInt_lt, lI_t h1 h2, lI_t h3 h4]
theorem lI_le {a b : Int} (h1 : -9223372036854775808 ≤ a) (h2 : a < 9223372036854775808) (h3 : -9223372036854775808 ≤ b) (h4 : b < 9223372036854775808) : lI a ≤ lI b ↔ a ≤ b := by
  rw [Int64.le_iff_toInt_le, lI_t h1 h2, lI_t h3 h4]
theorem lI_eq {a b : Int} (h1 : -9223372036854775808 ≤ a) (h2 : a < 9223372036854775808) (h3 : -9223372036854775808 ≤ b) (h4 : b < 9223372036854775808) : lI a = lI b ↔ a = b := by
  rw [← Int64.toInt_inj, lI_t h1 h2, lI_t h3 h4]
theorem iI_l {z : Int} (h1 : -2147483648 ≤ z) (h2 : z < 2147483648) : (iI z).toInt64 = lI z := by
  rw [← Int64.toInt_inj, Int32.toInt_toInt64, iI_t h1 h2, lI_t (by omega) (by omega)]
theorem lI_i (z : Int) : (lI z).toInt32 = iI z := Int64.toInt32_ofInt
theorem iI_of (x : Int32) : x = iI x.toInt := (Int32.ofInt_toInt x).symm
theorem lI_of (x : Int64) : x = lI x.toInt := (Int64.ofInt_toInt x).symm
theorem iI_rg (x : Int32) : -2147483648 ≤ x.toInt ∧ x.toInt < 2147483648 := ⟨Int32.le_toInt x, Int32.toInt_lt x⟩
theorem lI_rg (x : Int64) : -9223372036854775808 ≤ x.toInt ∧ x.toInt < 9223372036854775808 := ⟨Int64.le_toInt x, Int64.toInt_lt x⟩
theorem lI_div {a b : Int} (h1 : 0 ≤ a) (h2 : a < 9223372036854775808) (h3 : 0 < b) (h4 : b < 9223372036854775808) : lI a / lI b = lI (a / b) := by
  have h := Int64.ofInt_tdiv (a := a) (b := b) (by have : Int64.minValue.toInt = -9223372036854775808 := by decide
                                                   omega) (by have : Int64.maxValue.toInt = 9223372036854775807 := by decide
                                                              omega) (by have : Int64.minValue.toInt = -9223372036854775808 := by decide
                                                                         omega) (by have : Int64.maxValue.toInt = 9223372036854775807 := by decide
                                                                                    omega)
  rw [Int.tdiv_eq_ediv_of_nonneg h1] at h
  exact h.symm
theorem lI_rem {a b : Int} (h1 : 0 ≤ a) (h2 : a < 9223372036854775808) (h3 : 0 < b) (h4 : b < 9223372036854775808) : lI a - lI a / lI b * lI b = lI (a % b) := by
  rw [lI_div h1 h2 h3 h4, lI_mul, lI_sub, Int.emod_def, Int.mul_comm b]
theorem iI_div {a b : Int} (h1 : 0 ≤ a) (h2 : a < 2147483648) (h3 : 0 < b) (h4 : b < 2147483648) : iI a / iI b = iI (a / b) := by
  have h := Int32.ofInt_tdiv (a := a) (b := b) (by have : Int32.minValue.toInt = -2147483648 := by decide
                                                   omega) (by have : Int32.maxValue.toInt = 2147483647 := by decide
                                                              omega) (by have : Int32.minValue.toInt = -2147483648 := by decide
                                                                         omega) (by have : Int32.maxValue.toInt = 2147483647 := by decide
                                                                                    omega)
  rw [Int.tdiv_eq_ediv_of_nonneg h1] at h
  exact h.symm
theorem iI_rem {a b : Int} (h1 : 0 ≤ a) (h2 : a < 2147483648) (h3 : 0 < b) (h4 : b < 2147483648) : iI a - iI a / iI b * iI b = iI (a % b) := by
  rw [iI_div h1 h2 h3 h4, iI_mul, iI_sub, Int.emod_def, Int.mul_comm b]
-- comparisons by what the two sides are
theorem zlt {x y : Int32} (a b : Int) (hx : x = iI a) (hy : y = iI b) (h1 : -2147483648 ≤ a) (h2 : a < 2147483648) (h3 : -2147483648 ≤ b) (h4 : b < 2147483648) : x < y ↔ a < b := by
  rw [hx, hy]; exact iI_lt h1 h2 h3 h4
theorem zle {x y : Int32} (a b : Int) (hx : x = iI a) (hy : y = iI b) (h1 : -2147483648 ≤ a) (h2 : a < 2147483648) (h3 : -2147483648 ≤ b) (h4 : b < 2147483648) : x ≤ y ↔ a ≤ b := by
  rw [hx, hy]; exact iI_le h1 h2 h3 h4
theorem zeq {x y : Int32} (a b : Int) (hx : x = iI a) (hy : y = iI b) (h1 : -2147483648 ≤ a) (h2 : a < 2147483648) (h3 : -2147483648 ≤ b) (h4 : b < 2147483648) : x = y ↔ a = b := by
  rw [hx, hy]; exact iI_eq h1 h2 h3 h4
theorem i32_lt {x y : Int32} : x < y ↔ x.toInt < y.toInt := Int32.lt_iff_toInt_lt
theorem i32_le {x y : Int32} : x ≤ y ↔ x.toInt ≤ y.toInt := Int32.le_iff_toInt_le
theorem i64_lt {x y : Int64} : x < y ↔ x.toInt < y.toInt := Int64.lt_iff_toInt_lt
theorem i64_le {x y : Int64} : x ≤ y ↔ x.toInt ≤ y.toInt := Int64.le_iff_toInt_le
-- truth values
def zq (p : Prop) [Decidable p] : Int32 := if p then 1 else 0
theorem zq_t {p : Prop} [Decidable p] (h : p) : zq p = 1 := if_pos h
theorem zq_f {p : Prop} [Decidable p] (h : ¬ p) : zq p = 0 := if_neg h
theorem zq01 (p : Prop) [Decidable p] : zq p = 0 ∨ zq p = 1 := by
  by_cases h : p
  · right; exact zq_t h
  · left; exact zq_f h
theorem zq_eq0 {p : Prop} [Decidable p] : zq p = 0 ↔ ¬ p := by
  by_cases h : p
  · rw [zq_t h]; exact ⟨fun e => absurd e (by decide), fun e => absurd h e⟩
  · rw [zq_f h]; exact ⟨fun _ => h, fun _ => rfl⟩
theorem zq_c {p q : Prop} [Decidable p] [Decidable q] (h : p ↔ q) : zq p = zq q := by
  by_cases hp : p
  · rw [zq_t hp, zq_t (h.mp hp)]
  · rw [zq_f hp, zq_f (fun x => hp (h.mpr x))]
abbrev zR0 (w : zWd) (v : Value) : Option Value → zWd → Prop := fun r w' => r = some v ∧ w = w'
-- one map's cells
def zFo (w : zWd) (f g n : Nat) (ld : Nat → Nat) : Prop := ∃ led : Nat → Int32, zIs w f (zOb 0 [.int (nI n), .ref g]) ∧ zIs w g (zIA 6 led) ∧ (∀ i, i ≤ n → led i = nI (ld i)) ∧ 1 ≤ n ∧ n ≤ 5 ∧ (∀ i, i ≤ n → ld i ≤ n)
def sl (ld : Nat → Nat) (i : Nat) : Int := (ld (i + 1) : Int) - (ld i : Int)
end
section
/-! ===== Fold: what is asked of one map ===== -/
theorem o_hasCorner (E : zE) {w : zWd} {f g n : Nat} {ld : Nat → Nat} (h : zFo w f g n ld) (i : Int32) : zOk E mX0_hasCorner 0 [.ref f, .int i] w (zR0 w (.int (zq (0 ≤ i.toInt ∧ i.toInt ≤ n)))) := by
  obtain ⟨led, hf, hg, hl, h1, h5, hb⟩ := h
  have hn : (nI n).toInt = (n : Int) := nI_toInt (by omega)
  refine zOk.of (by decide +kernel) (Nat.le_of_ble_eq_true rfl) ?_
  refine zV.run kX0_hasCorner 1 rfl ?_
  refine zV.if2 kX0_hasCorner rfl (fun c => ?_) (fun c => ?_)
  · skip
    have c := i32_lt.mp c
    refine zV.run kX0_hasCorner 1 rfl ?_
    exact zV.zret kX0_hasCorner rfl rfl (Or.inl rfl) (⟨by rw [zq_f]; intro q; exact absurd q.1 (by simpa using c), rfl⟩)
  · skip
    have c := i32_le.mp (Int32.not_lt.mp c)
    refine zV.run kX0_hasCorner 2 rfl ?_
    refine zV.gf kX0_hasCorner rfl fX0_9 (hf) rfl ?_
    refine zV.ic2 kX0_hasCorner rfl (fun c2 => ?_) (fun c2 => ?_)
    · skip
      have c2 := i32_lt.mp c2
      rw [hn] at c2
      refine zV.run kX0_hasCorner 1 rfl ?_
      exact zV.zret kX0_hasCorner rfl rfl (Or.inl rfl) (⟨by rw [zq_f]; intro q; omega, rfl⟩)
    · skip
      have c2 := i32_le.mp (Int32.not_lt.mp c2)
      rw [hn] at c2
      refine zV.run kX0_hasCorner 2 rfl ?_
      exact zV.zret kX0_hasCorner rfl rfl (Or.inr rfl) (⟨by rw [zq_t]; exact ⟨by simpa using c, c2⟩, rfl⟩)
theorem o_hasSpan (E : zE) {w : zWd} {f g n : Nat} {ld : Nat → Nat} (h : zFo w f g n ld) (i : Int32) : zOk E mX0_hasSpan 0 [.ref f, .int i] w (zR0 w (.int (zq (0 ≤ i.toInt ∧ i.toInt < n)))) := by
  obtain ⟨led, hf, hg, hl, h1, h5, hb⟩ := h
  have hn : (nI n).toInt = (n : Int) := nI_toInt (by omega)
  refine zOk.of (by decide +kernel) (Nat.le_of_ble_eq_true rfl) ?_
  refine zV.run kX0_hasSpan 1 rfl ?_
  refine zV.if2 kX0_hasSpan rfl (fun c => ?_) (fun c => ?_)
  · skip
    have c := i32_lt.mp c
    refine zV.run kX0_hasSpan 1 rfl ?_
    exact zV.zret kX0_hasSpan rfl rfl (Or.inl rfl) (⟨by rw [zq_f]; intro q; exact absurd q.1 (by simpa using c), rfl⟩)
  · skip
    have c := i32_le.mp (Int32.not_lt.mp c)
    refine zV.run kX0_hasSpan 2 rfl ?_
    refine zV.gf kX0_hasSpan rfl fX0_9 (hf) rfl ?_
    refine zV.ic2 kX0_hasSpan rfl (fun c2 => ?_) (fun c2 => ?_)
    · skip
      have c2 := i32_le.mp c2
      rw [hn] at c2
      refine zV.run kX0_hasSpan 1 rfl ?_
      exact zV.zret kX0_hasSpan rfl rfl (Or.inl rfl) (⟨by rw [zq_f]; intro q; omega, rfl⟩)
    · skip
      have c2 := i32_lt.mp (Int32.not_le.mp c2)
      rw [hn] at c2
      refine zV.run kX0_hasSpan 2 rfl ?_
      exact zV.zret kX0_hasSpan rfl rfl (Or.inr rfl) (⟨by rw [zq_t]; exact ⟨by simpa using c, c2⟩, rfl⟩)
theorem o_slopeOf (E : zE) {w : zWd} {f g n : Nat} {ld : Nat → Nat} (h : zFo w f g n ld) {i : Nat} (hi : i < n) : zOk E mX0_slopeOf 0 [.ref f, .int (nI i)] w (zR0 w (.int (iI (sl ld i)))) := by
  obtain ⟨led, hf, hg, hl, h1, h5, hb⟩ := h
  refine zOk.of (by decide +kernel) (Nat.le_of_ble_eq_true rfl) ?_
  refine zV.run kX0_slopeOf 1 rfl ?_
  refine zV.gf kX0_slopeOf rfl fX0_15 (hf) rfl ?_
  refine zV.run kX0_slopeOf 3 rfl ?_
  refine zV.ial kX0_slopeOf rfl (hg) (i + 1) (nI_1 i) (by omega) (by decide) ?_
  refine zV.run kX0_slopeOf 1 rfl ?_
  refine zV.gf kX0_slopeOf rfl fX0_15 (hf) rfl ?_
  refine zV.run kX0_slopeOf 1 rfl ?_
  refine zV.ial kX0_slopeOf rfl (hg) (i) (rfl) (by omega) (by decide) ?_
  refine zV.run kX0_slopeOf 1 rfl ?_
  exact zV.iret kX0_slopeOf rfl rfl (⟨by rw [hl i (by omega), hl (i + 1) (by omega), nI_iI, nI_iI, iI_sub]; rfl, rfl⟩)
end
section
/-! ===== points: where one step leads ===== -/
def spn (n : Nat) (a b : Int) : Nat := min (a / b).toNat (n - 1)
def stp (n : Nat) (ld : Nat → Nat) (b a : Int) : Int := (ld (spn n a b) : Int) * b + sl ld (spn n a b) * (a - (spn n a b : Int) * b)
def fol (n : Nat) (ld : Nat → Nat) (b a : Int) : Nat → Int
  | 0 => a
  | k + 1 => stp n ld b (fol n ld b a k)
theorem spn_lt {n : Nat} (h : 1 ≤ n) (a b : Int) : spn n a b < n := by unfold spn; omega
theorem spn_rg {n : Nat} {a b : Int} (hn : 1 ≤ n) (hb : 0 < b) (h0 : 0 ≤ a) (h1 : a ≤ n * b) : (spn n a b : Int) * b ≤ a ∧ a ≤ (spn n a b : Int) * b + b := by
  have hd : 0 ≤ a / b := Int.ediv_nonneg h0 (by omega)
  have hm := Int.emod_nonneg a (show b ≠ 0 by omega)
  have hm2 := Int.emod_lt_of_pos a hb
  have he := Int.mul_ediv_add_emod a b
  by_cases h : (a / b).toNat ≤ n - 1
  · have e : spn n a b = (a / b).toNat := by unfold spn; omega
    rw [e, Int.toNat_of_nonneg hd, Int.mul_comm]
    omega
  · have e : spn n a b = n - 1 := by unfold spn; omega
    have e2 : ((n - 1 : Nat) : Int) * b = n * b - b := by
      rw [show ((n - 1 : Nat) : Int) = (n : Int) - 1 by omega, Int.sub_mul, Int.one_mul]
    rw [e, e2]
    refine ⟨?_, by omega⟩
    have h3 : (n : Int) - 1 ≤ a / b := by omega
    have h4 := Int.mul_le_mul_of_nonneg_right h3 (show 0 ≤ b by omega)
    rw [Int.sub_mul, Int.one_mul] at h4
    have h5 : a / b * b ≤ a := by rw [Int.mul_comm]; omega
    omega
theorem stp_eq (n : Nat) (ld : Nat → Nat) (b a : Int) : stp n ld b a = (ld (spn n a b) : Int) * ((spn n a b : Int) * b + b - a) + (ld (spn n a b + 1) : Int) * (a - (spn n a b : Int) * b) := by
  unfold stp sl
  generalize spn n a b = i
  simp only [Int.mul_sub, Int.mul_add, Int.sub_mul]
  omega
theorem stp_rg {n : Nat} {ld : Nat → Nat} {a b : Int} (hn : 1 ≤ n) (hl : ∀ i, i ≤ n → ld i ≤ n) (hb : 0 < b) (h0 : 0 ≤ a) (h1 : a ≤ n * b) : 0 ≤ stp n ld b a ∧ stp n ld b a ≤ n * b := by
  obtain ⟨g1, g2⟩ := spn_rg hn hb h0 h1
  have gl := spn_lt hn a b
  rw [stp_eq]
  have l1 := hl (spn n a b) (by omega)
  have l2 := hl (spn n a b + 1) (by omega)
  generalize spn n a b = i at *
  generalize ld i = u at *
  generalize ld (i + 1) = v at *
  have p0 : (0 : Int) ≤ (u : Int) * ((i : Int) * b + b - a) := Int.mul_nonneg (by omega) (by omega)
  have p1 : (0 : Int) ≤ (v : Int) * (a - (i : Int) * b) := Int.mul_nonneg (by omega) (by omega)
  have p2 : (u : Int) * ((i : Int) * b + b - a) ≤ n * ((i : Int) * b + b - a) := Int.mul_le_mul_of_nonneg_right (by omega) (by omega)
  have p3 : (v : Int) * (a - (i : Int) * b) ≤ n * (a - (i : Int) * b) := Int.mul_le_mul_of_nonneg_right (by omega) (by omega)
  have p4 : (n : Int) * ((i : Int) * b + b - a) + n * (a - (i : Int) * b) = n * b := by
    rw [← Int.mul_add]
    congr 1
    omega
  omega
theorem fol_rg {n : Nat} {ld : Nat → Nat} {a b : Int} (hn : 1 ≤ n) (hl : ∀ i, i ≤ n → ld i ≤ n) (hb : 0 < b) (h0 : 0 ≤ a) (h1 : a ≤ n * b) : ∀ k, 0 ≤ fol n ld b a k ∧ fol n ld b a k ≤ n * b
  | 0 => ⟨h0, h1⟩
  | k + 1 => stp_rg hn hl hb (fol_rg hn hl hb h0 h1 k).1 (fol_rg hn hl hb h0 h1 k).2
theorem o_spanOf (E : zE) {w : zWd} {f g n : Nat} {ld : Nat → Nat} (h : zFo w f g n ld) {a b : Int} (hb : 0 < b) (hb2 : b ≤ 100000) (h0 : 0 ≤ a) (ha : a ≤ n * b) : zOk E mX0_spanOf 1 [.ref f, .long (lI a), .long (lI b)] w (zR0 w (.int (nI (spn n a b)))) := by
  obtain ⟨led, hf, hg, hl, h1, h5, hlb⟩ := h
  have hab : a ≤ 500000 := by
    have := Int.mul_le_mul_of_nonneg_right (show (n : Int) ≤ 5 by omega) (show 0 ≤ b by omega)
    omega
  have hd0 : 0 ≤ a / b := Int.ediv_nonneg h0 (by omega)
  have hd1 : a / b ≤ a := Int.ediv_le_self b h0
  have e2 : (nI n).toInt64 - 1 = lI ((n : Int) - 1) := by
    rw [nI_iI, iI_l (by omega) (by omega), show (1 : Int64) = lI 1 from rfl, lI_sub]
  have e1 : lI a / lI b = lI (a / b) := lI_div h0 (by omega) hb (by omega)
  have c0 : (0 : Int64) < lI b := by rw [show (0 : Int64) = lI 0 from rfl, lI_lt (by omega) (by omega) (by omega) (by omega)]; exact hb
  refine zOk.of (by decide +kernel) (Nat.le_of_ble_eq_true rfl) ?_
  refine zV.run kX0_spanOf 2 rfl ?_
  refine zV.ilt kX0_spanOf (cd := .gt) rfl rfl (c0) ?_
  refine zV.run kX0_spanOf 3 rfl ?_
  refine zV.ldiv kX0_spanOf rfl (fun e => by rw [e] at c0; exact absurd c0 (by decide)) ?_
  refine zV.run kX0_spanOf 1 rfl ?_
  refine zV.gf kX0_spanOf rfl fX0_9 (hf) rfl ?_
  refine zV.run kX0_spanOf 3 rfl ?_
  refine zV.mnL kX0_spanOf rfl lX0_21 (by decide) (Nat.le_of_ble_eq_true rfl) ?_
  refine zV.mxL kX0_spanOf rfl lX0_27 (by decide) (Nat.le_of_ble_eq_true rfl) ?_
  have e3 : (if (if (nI n).toInt64 - 1 < lI a / lI b then (nI n).toInt64 - 1 else lI a / lI b) < 0 then 0 else (if (nI n).toInt64 - 1 < lI a / lI b then (nI n).toInt64 - 1 else lI a / lI b)) = lI (spn n a b : Int) := by
    rw [e1, e2, show (0 : Int64) = lI 0 from rfl]
    by_cases q : (n : Int) - 1 < a / b
    · rw [if_pos ((lI_lt (by omega) (by omega) (by omega) (by omega)).mpr q), if_neg (fun z => absurd ((lI_lt (by omega) (by omega) (by omega) (by omega)).mp z) (by omega))]
      congr 1
      unfold spn
      omega
    · rw [if_neg (fun z => q ((lI_lt (by omega) (by omega) (by omega) (by omega)).mp z)), if_neg (fun z => absurd ((lI_lt (by omega) (by omega) (by omega) (by omega)).mp z) (by omega))]
      congr 1
      unfold spn
      omega
  refine zV.run kX0_spanOf 1 rfl ?_
  rw [e3, lI_i, ← nI_iI]
  exact zV.iret kX0_spanOf rfl rfl (⟨rfl, rfl⟩)
theorem o_step (E : zE) {w : zWd} {f g n : Nat} {ld : Nat → Nat} (h : zFo w f g n ld) {a b : Int} (hb : 0 < b) (hb2 : b ≤ 100000) (h0 : 0 ≤ a) (ha : a ≤ n * b) : zOk E mX0_step 2 [.ref f, .long (lI a), .long (lI b)] w (zR0 w (.long (lI (stp n ld b a)))) := by
  obtain ⟨led, hf, hg, hl, h1, h5, hlb⟩ := id h
  have hi := spn_lt h1 a b
  have hli := hlb (spn n a b) (by omega)
  have hli2 := hlb (spn n a b + 1) (by omega)
  refine zOk.of (by decide +kernel) (Nat.le_of_ble_eq_true rfl) ?_
  refine zV.run kX0_step 3 rfl ?_
  refine zV.cv kX0_step rfl lX0_30 (o_spanOf E h hb hb2 h0 ha) (by decide) rfl (hf) rfl rfl rfl (Nat.le_of_ble_eq_true rfl) ?_
  rintro _ _ ⟨rfl, rfl⟩
  refine zV.run kX0_step 2 rfl ?_
  refine zV.gf kX0_step rfl fX0_15 (hf) rfl ?_
  refine zV.run kX0_step 1 rfl ?_
  refine zV.ial kX0_step rfl (hg) (spn n a b) (rfl) (by omega) (by decide) ?_
  refine zV.run kX0_step 5 rfl ?_
  refine zV.cv kX0_step rfl lX0_34 (o_slopeOf E h hi) (by decide) rfl (hf) rfl rfl rfl (Nat.le_of_ble_eq_true rfl) ?_
  rintro _ _ ⟨rfl, rfl⟩
  refine zV.run kX0_step 9 rfl ?_
  rw [hl _ (by omega), nI_iI, nI_iI, iI_l (by omega) (by omega), iI_l (by unfold sl; omega) (by unfold sl; omega), iI_l (by omega) (by omega), lI_mul, lI_mul, lI_sub, lI_mul, lI_add]
  exact zV.lret kX0_step rfl rfl (⟨rfl, rfl⟩)
theorem o_follow_l (E : zE) {w : zWd} {f g n : Nat} {ld : Nat → Nat} (h : zFo w f g n ld) {a b : Int} (hb : 0 < b) (hb2 : b ≤ 100000) (h0 : 0 ≤ a) (ha : a ≤ n * b) {k : Nat} (hk : k ≤ 1000) : ∀ (j i : Nat), i + j = k → zV E mX0_follow 3 (zR0 w (.long (lI (fol n ld b a k)))) 6 [.ref f, .long (lI a), zU, .long (lI b), zU, .int (nI k), .long (lI (fol n ld b a i)), zU, .int (nI i)] [] w := by
  obtain ⟨led, hf, hg, hl, h1, h5, hlb⟩ := id h
  intro j
  induction j with
  | zero =>
    intro i hi
    have e : i = k := by omega
    subst e
    refine zV.run kX0_follow 2 rfl ?_
    refine zV.ict kX0_follow (cd := .ge) rfl (Int32.le_refl _) ?_
    refine zV.run kX0_follow 1 rfl ?_
    exact zV.lret kX0_follow rfl rfl (⟨rfl, rfl⟩)
  | succ j ih =>
    intro i hi
    have r := fol_rg h1 hlb hb h0 ha i
    refine zV.run kX0_follow 2 rfl ?_
    refine zV.icf kX0_follow (cd := .ge) rfl (nI_ge (by omega) (by omega)) ?_
    refine zV.run kX0_follow 3 rfl ?_
    refine zV.cv kX0_follow rfl lX0_38 (o_step E h hb hb2 r.1 r.2) (by decide) rfl (hf) rfl rfl rfl (Nat.le_of_ble_eq_true rfl) ?_
    rintro _ _ ⟨rfl, rfl⟩
    refine zV.run kX0_follow 3 rfl ?_
    rw [nI_1]
    exact ih (i + 1) (by omega)
theorem o_follow (E : zE) {w : zWd} {f g n : Nat} {ld : Nat → Nat} (h : zFo w f g n ld) {a b : Int} (hb : 0 < b) (hb2 : b ≤ 100000) (h0 : 0 ≤ a) (ha : a ≤ n * b) {k : Nat} (hk : k ≤ 1000) : zOk E mX0_follow 3 [.ref f, .long (lI a), .long (lI b), .int (nI k)] w (zR0 w (.long (lI (fol n ld b a k)))) := by
  refine zOk.of (by decide +kernel) (Nat.le_of_ble_eq_true rfl) ?_
  refine zV.run kX0_follow 4 rfl ?_
  exact o_follow_l E h hb hb2 h0 ha hk k 0 (by omega)
end
section
/-! ===== Fold: sets of spans ===== -/
theorem bt_sh : ∀ i, i < 6 → (1 : Int32) <<< (nI i &&& 31) = nI (2 ^ i) := by decide +kernel
theorem bt_or : ∀ a, a < 64 → ∀ b, b < 64 → nI a ||| nI b = nI (a ||| b) := by decide +kernel
theorem bt_at : ∀ s, s < 64 → ∀ i, i < 6 → ((nI s >>> (nI i &&& 31)) &&& 1 = 1 ↔ s.testBit i = true) := by decide +kernel
def cov (ld : Nat → Nat) (i j : Nat) : Bool := decide (min (ld i) (ld (i + 1)) ≤ j) && decide (j < max (ld i) (ld (i + 1)))
def sAf (ld : Nat → Nat) (S : Nat) : Nat → Nat
  | 0 => 0
  | i + 1 => if S.testBit i = true then sAf ld S i ||| (2 ^ max (ld i) (ld (i + 1)) - 2 ^ min (ld i) (ld (i + 1))) else sAf ld S i
def sA (n : Nat) (ld : Nat → Nat) (S : Nat) : Nat := sAf ld S n
def rch (n : Nat) (ld : Nat → Nat) (S : Nat) : Nat → Nat
  | 0 => S
  | k + 1 => rch n ld S k ||| sA n ld (rch n ld S k)
def lpf (n : Nat) (ld : Nat → Nat) (i : Nat) : Nat → Nat → Nat
  | 0, _ => i
  | f + 1, j => if (rch n ld (2 ^ i) n).testBit j = true ∧ (rch n ld (2 ^ j) n).testBit i = true then j else lpf n ld i f (j + 1)
def staf (n : Nat) (ld : Nat → Nat) : Nat → Nat → Nat → Int
  | 0, _, _ => -1
  | f + 1, S, k => if sA n ld S = 2 ^ n - 1 then (k : Int) else staf n ld f (sA n ld S) (k + 1)
def sta (n : Nat) (ld : Nat → Nat) (i : Nat) : Int := staf n ld 64 (2 ^ i) 1
def stm (n : Nat) (ld : Nat → Nat) : Nat → Nat → Int → Int
  | 0, _, s => s
  | r + 1, i, s => if sta n ld i = -1 then -1 else stm n ld r (i + 1) (max s (sta n ld i))
theorem p2le {n : Nat} (h : n ≤ 5) : 2 ^ n ≤ 32 := Nat.pow_le_pow_right (by decide) h
theorem sAf_lt {n : Nat} {ld : Nat → Nat} (hl : ∀ i, i ≤ n → ld i ≤ n) (S : Nat) : ∀ k, k ≤ n → sAf ld S k < 2 ^ n
  | 0, _ => Nat.two_pow_pos n
  | k + 1, hk => by
    have ih := sAf_lt hl S k (by omega)
    unfold sAf
    split
    · refine Nat.or_lt_two_pow ih ?_
      have h1 : 2 ^ max (ld k) (ld (k + 1)) ≤ 2 ^ n := Nat.pow_le_pow_right (by decide) (by have := hl k (by omega); have := hl (k + 1) hk; omega)
      have h2 := Nat.two_pow_pos (min (ld k) (ld (k + 1)))
      have h3 := Nat.two_pow_pos n
      omega
    · exact ih
theorem sA_lt {n : Nat} {ld : Nat → Nat} (hl : ∀ i, i ≤ n → ld i ≤ n) (S : Nat) : sA n ld S < 2 ^ n := sAf_lt hl S n (Nat.le_refl n)
theorem rch_lt {n : Nat} {ld : Nat → Nat} (hl : ∀ i, i ≤ n → ld i ≤ n) {S : Nat} (hS : S < 2 ^ n) : ∀ k, rch n ld S k < 2 ^ n
  | 0 => hS
  | k + 1 => Nat.or_lt_two_pow (rch_lt hl hS k) (sA_lt hl _)
theorem zmin (a b : Nat) (ha : a < 100) (hb : b < 100) : (if nI b < nI a then nI b else nI a) = nI (min a b) := by
  by_cases h : b < a
  · rw [if_pos (nI_lt h (by omega))]; congr 1; omega
  · rw [if_neg (nI_nlt (by omega) (by omega))]; congr 1; omega
theorem zmax (a b : Nat) (ha : a < 100) (hb : b < 100) : (if nI a < nI b then nI b else nI a) = nI (max a b) := by
  by_cases h : a < b
  · rw [if_pos (nI_lt h (by omega))]; congr 1; omega
  · rw [if_neg (nI_nlt (by omega) (by omega))]; congr 1; omega
theorem o_leadsOver (E : zE) {w : zWd} {f g n : Nat} {ld : Nat → Nat} (h : zFo w f g n ld) {i j : Nat} (hi : i < n) (hj : j < n) : zOk E mX0_leadsOver 1 [.ref f, .int (nI i), .int (nI j)] w (zR0 w (.int (zq (cov ld i j = true)))) := by
  obtain ⟨led, hf, hg, hl, h1, h5, hb⟩ := h
  have l1 := hb i (by omega)
  have l2 := hb (i + 1) (by omega)
  have e1 := hl i (by omega)
  have e2 := hl (i + 1) (by omega)
  refine zOk.of (by decide +kernel) (Nat.le_of_ble_eq_true rfl) ?_
  refine zV.run kX0_leadsOver 1 rfl ?_
  refine zV.gf kX0_leadsOver rfl fX0_15 (hf) rfl ?_
  refine zV.run kX0_leadsOver 1 rfl ?_
  refine zV.ial kX0_leadsOver rfl (hg) (i) (rfl) (by omega) (by decide) ?_
  refine zV.run kX0_leadsOver 1 rfl ?_
  refine zV.gf kX0_leadsOver rfl fX0_15 (hf) rfl ?_
  refine zV.run kX0_leadsOver 3 rfl ?_
  refine zV.ial kX0_leadsOver rfl (hg) (i + 1) (nI_1 i) (by omega) (by decide) ?_
  refine zV.mnI kX0_leadsOver rfl lX0_41 (by decide) (Nat.le_of_ble_eq_true rfl) ?_
  rw [e1, e2, zmin _ _ (by omega) (by omega)]
  refine zV.run kX0_leadsOver 1 rfl ?_
  refine zV.ic2 kX0_leadsOver rfl (fun c => ?_) (fun c => ?_)
  · skip
    have c := (nI_ltI (by omega) (by omega)).mp c
    refine zV.run kX0_leadsOver 1 rfl ?_
    exact zV.zret kX0_leadsOver rfl rfl (Or.inl rfl) (⟨by rw [zq_f]; unfold cov; simp; omega, rfl⟩)
  · skip
    have c := mt (nI_ltI (a := j) (b := min (ld i) (ld (i + 1))) (by omega) (by omega)).mpr c
    refine zV.run kX0_leadsOver 2 rfl ?_
    refine zV.gf kX0_leadsOver rfl fX0_15 (hf) rfl ?_
    refine zV.run kX0_leadsOver 1 rfl ?_
    refine zV.ial kX0_leadsOver rfl (hg) (i) (rfl) (by omega) (by decide) ?_
    refine zV.run kX0_leadsOver 1 rfl ?_
    refine zV.gf kX0_leadsOver rfl fX0_15 (hf) rfl ?_
    refine zV.run kX0_leadsOver 3 rfl ?_
    refine zV.ial kX0_leadsOver rfl (hg) (i + 1) (nI_1 i) (by omega) (by decide) ?_
    refine zV.mxI kX0_leadsOver rfl lX0_44 (by decide) (Nat.le_of_ble_eq_true rfl) ?_
    rw [e1, e2, zmax _ _ (by omega) (by omega)]
    refine zV.ic2 kX0_leadsOver rfl (fun c2 => ?_) (fun c2 => ?_)
    · skip
      have c2 := (nI_leI (by omega) (by omega)).mp c2
      refine zV.run kX0_leadsOver 1 rfl ?_
      exact zV.zret kX0_leadsOver rfl rfl (Or.inl rfl) (⟨by rw [zq_f]; unfold cov; simp; omega, rfl⟩)
    · skip
      have c2 := mt (nI_leI (a := max (ld i) (ld (i + 1))) (b := j) (by omega) (by omega)).mpr c2
      refine zV.run kX0_leadsOver 2 rfl ?_
      exact zV.zret kX0_leadsOver rfl rfl (Or.inr rfl) (⟨by rw [zq_t]; unfold cov; simp; omega, rfl⟩)
theorem o_allSpans (E : zE) {w : zWd} {f g n : Nat} {ld : Nat → Nat} (h : zFo w f g n ld) : zOk E mX0_allSpans 0 [.ref f] w (zR0 w (.int (nI (2 ^ n - 1)))) := by
  obtain ⟨led, hf, hg, hl, h1, h5, hb⟩ := h
  refine zOk.of (by decide +kernel) (Nat.le_of_ble_eq_true rfl) ?_
  refine zV.run kX0_allSpans 2 rfl ?_
  refine zV.gf kX0_allSpans rfl fX0_9 (hf) rfl ?_
  refine zV.run kX0_allSpans 3 rfl ?_
  rw [bt_sh n (by omega), show (1 : Int32) = nI 1 from rfl, pk_sub (Nat.two_pow_pos n)]
  exact zV.iret kX0_allSpans rfl rfl (⟨rfl, rfl⟩)
theorem o_spansAfter_l (E : zE) {w : zWd} {f g n : Nat} {ld : Nat → Nat} (h : zFo w f g n ld) {S : Nat} (hS : S < 64) : ∀ (j i : Nat), i + j = n → zV E mX0_spansAfter 1 (zR0 w (.int (nI (sA n ld S)))) 4 [.ref f, .int (nI S), .int (nI (sAf ld S i)), .int (nI i)] [] w := by
  obtain ⟨led, hf, hg, hl, h1, h5, hb⟩ := id h
  intro j
  induction j with
  | zero =>
    intro i hi
    have e : i = n := by omega
    subst e
    refine zV.run kX0_spansAfter 2 rfl ?_
    refine zV.gf kX0_spansAfter rfl fX0_9 (hf) rfl ?_
    refine zV.ict kX0_spansAfter (cd := .ge) rfl (Int32.le_refl _) ?_
    refine zV.run kX0_spansAfter 1 rfl ?_
    exact zV.iret kX0_spansAfter rfl rfl (⟨rfl, rfl⟩)
  | succ j ih =>
    intro i hi
    have l1 := hb i (by omega)
    have l2 := hb (i + 1) (by omega)
    have e1 := hl i (by omega)
    have e2 := hl (i + 1) (by omega)
    have b1 := sAf_lt hb S i (by omega)
    have b2 := sAf_lt hb S (i + 1) (by omega)
    have p5 := p2le h5
    refine zV.run kX0_spansAfter 2 rfl ?_
    refine zV.gf kX0_spansAfter rfl fX0_9 (hf) rfl ?_
    refine zV.icf kX0_spansAfter (cd := .ge) rfl (nI_ge (by omega) (by omega)) ?_
    refine zV.run kX0_spansAfter 6 rfl ?_
    refine zV.ic2 kX0_spansAfter rfl (fun c => ?_) (fun c => ?_)
    · skip
      have c := mt (bt_at S hS i (by omega)).mpr c
      refine zV.run kX0_spansAfter 2 rfl ?_
      rw [nI_1]
      have e : sAf ld S (i + 1) = sAf ld S i := if_neg c
      rw [← e]
      exact ih (i + 1) (by omega)
    · skip
      have c := (bt_at S hS i (by omega)).mp (Decidable.not_not.mp c)
      refine zV.run kX0_spansAfter 3 rfl ?_
      refine zV.gf kX0_spansAfter rfl fX0_15 (hf) rfl ?_
      refine zV.run kX0_spansAfter 1 rfl ?_
      refine zV.ial kX0_spansAfter rfl (hg) (i) (rfl) (by omega) (by decide) ?_
      refine zV.run kX0_spansAfter 1 rfl ?_
      refine zV.gf kX0_spansAfter rfl fX0_15 (hf) rfl ?_
      refine zV.run kX0_spansAfter 3 rfl ?_
      refine zV.ial kX0_spansAfter rfl (hg) (i + 1) (nI_1 i) (by omega) (by decide) ?_
      refine zV.mxI kX0_spansAfter rfl lX0_44 (by decide) (Nat.le_of_ble_eq_true rfl) ?_
      refine zV.run kX0_spansAfter 3 rfl ?_
      refine zV.gf kX0_spansAfter rfl fX0_15 (hf) rfl ?_
      refine zV.run kX0_spansAfter 1 rfl ?_
      refine zV.ial kX0_spansAfter rfl (hg) (i) (rfl) (by omega) (by decide) ?_
      refine zV.run kX0_spansAfter 1 rfl ?_
      refine zV.gf kX0_spansAfter rfl fX0_15 (hf) rfl ?_
      refine zV.run kX0_spansAfter 3 rfl ?_
      refine zV.ial kX0_spansAfter rfl (hg) (i + 1) (nI_1 i) (by omega) (by decide) ?_
      refine zV.mnI kX0_spansAfter rfl lX0_41 (by decide) (Nat.le_of_ble_eq_true rfl) ?_
      refine zV.run kX0_spansAfter 6 rfl ?_
      have e : sAf ld S (i + 1) = sAf ld S i ||| (2 ^ max (ld i) (ld (i + 1)) - 2 ^ min (ld i) (ld (i + 1))) := if_pos c
      have h6 : 2 ^ min (ld i) (ld (i + 1)) ≤ 2 ^ max (ld i) (ld (i + 1)) := Nat.pow_le_pow_right (by decide) (by omega)
      have h7 : 2 ^ max (ld i) (ld (i + 1)) ≤ 32 := p2le (by omega)
      rw [e1, e2, zmax _ _ (by omega) (by omega), zmin _ _ (by omega) (by omega), bt_sh _ (by omega), bt_sh _ (by omega), pk_sub h6, bt_or _ (by omega) _ (Nat.lt_of_le_of_lt (Nat.sub_le _ _) (by omega)), ← e, nI_1]
      exact ih (i + 1) (by omega)
theorem o_spansAfter (E : zE) {w : zWd} {f g n : Nat} {ld : Nat → Nat} (h : zFo w f g n ld) {S : Nat} (hS : S < 64) : zOk E mX0_spansAfter 1 [.ref f, .int (nI S)] w (zR0 w (.int (nI (sA n ld S)))) := by
  refine zOk.of (by decide +kernel) (Nat.le_of_ble_eq_true rfl) ?_
  refine zV.run kX0_spansAfter 4 rfl ?_
  exact o_spansAfter_l E h hS n 0 (by omega)
theorem o_wayLeads_l (E : zE) {w : zWd} {f g n : Nat} {ld : Nat → Nat} (h : zFo w f g n ld) {i j : Nat} (hi : i < n) (hj : j < n) : ∀ (r k : Nat), k + r = n → zV E mX0_wayLeads 2 (zR0 w (.int (zq ((rch n ld (2 ^ i) n).testBit j = true)))) 7 [.ref f, .int (nI i), .int (nI j), .int (nI (rch n ld (2 ^ i) k)), .int (nI k)] [] w := by
  obtain ⟨led, hf, hg, hl, h1, h5, hb⟩ := id h
  have p5 := p2le h5
  have hi2 : 2 ^ i < 2 ^ n := Nat.pow_lt_pow_right (by decide) hi
  intro r
  induction r with
  | zero =>
    intro k hk
    have e : k = n := by omega
    subst e
    have b1 := rch_lt hb hi2 k
    refine zV.run kX0_wayLeads 2 rfl ?_
    refine zV.gf kX0_wayLeads rfl fX0_9 (hf) rfl ?_
    refine zV.ict kX0_wayLeads (cd := .ge) rfl (Int32.le_refl _) ?_
    refine zV.run kX0_wayLeads 6 rfl ?_
    refine zV.ic2 kX0_wayLeads rfl (fun c => ?_) (fun c => ?_)
    · skip
      have c := mt (bt_at (rch k ld (2 ^ i) k) (by omega) j (by omega)).mpr c
      refine zV.run kX0_wayLeads 1 rfl ?_
      exact zV.zret kX0_wayLeads rfl rfl (Or.inl rfl) (⟨by rw [zq_f c], rfl⟩)
    · skip
      have c := (bt_at (rch k ld (2 ^ i) k) (by omega) j (by omega)).mp (Decidable.not_not.mp c)
      refine zV.run kX0_wayLeads 2 rfl ?_
      exact zV.zret kX0_wayLeads rfl rfl (Or.inr rfl) (⟨by rw [zq_t c], rfl⟩)
  | succ r ih =>
    intro k hk
    have b1 := rch_lt hb hi2 k
    have b2 := sA_lt hb (rch n ld (2 ^ i) k)
    refine zV.run kX0_wayLeads 2 rfl ?_
    refine zV.gf kX0_wayLeads rfl fX0_9 (hf) rfl ?_
    refine zV.icf kX0_wayLeads (cd := .ge) rfl (nI_ge (by omega) (by omega)) ?_
    refine zV.run kX0_wayLeads 3 rfl ?_
    refine zV.cv kX0_wayLeads rfl lX0_46 (o_spansAfter E h (S := rch n ld (2 ^ i) k) (by omega)) (by decide) rfl (hf) rfl rfl rfl (Nat.le_of_ble_eq_true rfl) ?_
    rintro _ _ ⟨rfl, rfl⟩
    refine zV.run kX0_wayLeads 4 rfl ?_
    rw [bt_or _ (by omega) _ (by omega), nI_1]
    exact ih (k + 1) (by omega)
theorem o_wayLeads (E : zE) {w : zWd} {f g n : Nat} {ld : Nat → Nat} (h : zFo w f g n ld) {i j : Nat} (hi : i < n) (hj : j < n) : zOk E mX0_wayLeads 2 [.ref f, .int (nI i), .int (nI j)] w (zR0 w (.int (zq ((rch n ld (2 ^ i) n).testBit j = true)))) := by
  obtain ⟨led, hf, hg, hl, h1, h5, hb⟩ := id h
  refine zOk.of (by decide +kernel) (Nat.le_of_ble_eq_true rfl) ?_
  refine zV.run kX0_wayLeads 6 rfl ?_
  rw [bt_sh i (by omega)]
  exact o_wayLeads_l E h hi hj n 0 (by omega)
theorem o_leastOfPart_l (E : zE) {w : zWd} {f g n : Nat} {ld : Nat → Nat} (h : zFo w f g n ld) {i : Nat} (hi : i < n) : ∀ (r j : Nat), j + r = i → zV E mX0_leastOfPart 3 (zR0 w (.int (nI (lpf n ld i r j)))) 2 [.ref f, .int (nI i), .int (nI j)] [] w := by
  obtain ⟨led, hf, hg, hl, h1, h5, hb⟩ := id h
  intro r
  induction r with
  | zero =>
    intro j hj
    have e : j = i := by omega
    subst e
    refine zV.run kX0_leastOfPart 2 rfl ?_
    refine zV.ict kX0_leastOfPart (cd := .ge) rfl (Int32.le_refl _) ?_
    refine zV.run kX0_leastOfPart 1 rfl ?_
    exact zV.iret kX0_leastOfPart rfl rfl (⟨rfl, rfl⟩)
  | succ r ih =>
    intro j hj
    refine zV.run kX0_leastOfPart 2 rfl ?_
    refine zV.icf kX0_leastOfPart (cd := .ge) rfl (nI_ge (by omega) (by omega)) ?_
    refine zV.run kX0_leastOfPart 3 rfl ?_
    refine zV.cv kX0_leastOfPart rfl lX0_49 (o_wayLeads E h hi (j := j) (by omega)) (by decide) rfl (hf) rfl rfl rfl (Nat.le_of_ble_eq_true rfl) ?_
    rintro _ _ ⟨rfl, rfl⟩
    refine zV.if2 kX0_leastOfPart rfl (fun c => ?_) (fun c => ?_)
    · skip
      have c := zq_eq0.mp c
      have e : lpf n ld i (r + 1) j = lpf n ld i r (j + 1) := if_neg (fun q => c q.1)
      refine zV.run kX0_leastOfPart 2 rfl ?_
      rw [nI_1, e]
      exact ih (j + 1) (by omega)
    · skip
      have c := Decidable.not_not.mp (mt zq_eq0.mpr c)
      refine zV.run kX0_leastOfPart 3 rfl ?_
      refine zV.cv kX0_leastOfPart rfl lX0_49 (o_wayLeads E h (i := j) (by omega) hi) (by decide) rfl (hf) rfl rfl rfl (Nat.le_of_ble_eq_true rfl) ?_
      rintro _ _ ⟨rfl, rfl⟩
      refine zV.if2 kX0_leastOfPart rfl (fun c2 => ?_) (fun c2 => ?_)
      · skip
        have c2 := zq_eq0.mp c2
        have e : lpf n ld i (r + 1) j = lpf n ld i r (j + 1) := if_neg (fun q => c2 q.2)
        refine zV.run kX0_leastOfPart 2 rfl ?_
        rw [nI_1, e]
        exact ih (j + 1) (by omega)
      · skip
        have c2 := Decidable.not_not.mp (mt zq_eq0.mpr c2)
        have e : lpf n ld i (r + 1) j = j := if_pos ⟨c, c2⟩
        refine zV.run kX0_leastOfPart 1 rfl ?_
        exact zV.iret kX0_leastOfPart rfl rfl (⟨by rw [e], rfl⟩)
theorem o_leastOfPart (E : zE) {w : zWd} {f g n : Nat} {ld : Nat → Nat} (h : zFo w f g n ld) {i : Nat} (hi : i < n) : zOk E mX0_leastOfPart 3 [.ref f, .int (nI i)] w (zR0 w (.int (nI (lpf n ld i i 0)))) := by
  refine zOk.of (by decide +kernel) (Nat.le_of_ble_eq_true rfl) ?_
  refine zV.run kX0_leastOfPart 2 rfl ?_
  exact o_leastOfPart_l E h hi i 0 (by omega)
theorem o_stepsToAll_l (E : zE) {w : zWd} {f g n : Nat} {ld : Nat → Nat} (h : zFo w f g n ld) (i : Int32) : ∀ (r k S : Nat), k + r = 65 → S < 64 → zV E mX0_stepsToAll 2 (zR0 w (.int (iI (staf n ld r S k)))) 6 [.ref f, .int i, .int (nI S), .int (nI k)] [] w := by
  obtain ⟨led, hf, hg, hl, h1, h5, hb⟩ := id h
  have p5 := p2le h5
  intro r
  induction r with
  | zero =>
    intro k S hk hS
    have e : k = 65 := by omega
    subst e
    refine zV.run kX0_stepsToAll 2 rfl ?_
    refine zV.ict kX0_stepsToAll (cd := .gt) rfl (show (64 : Int32) < nI 65 by decide) ?_
    refine zV.run kX0_stepsToAll 1 rfl ?_
    exact zV.iret kX0_stepsToAll rfl rfl (⟨rfl, rfl⟩)
  | succ r ih =>
    intro k S hk hS
    have b1 := sA_lt hb S
    refine zV.run kX0_stepsToAll 2 rfl ?_
    refine zV.icf kX0_stepsToAll (cd := .gt) rfl (fun q => absurd ((nI_ltI (a := 64) (b := k) (by omega) (by omega)).mp q) (by omega)) ?_
    refine zV.run kX0_stepsToAll 2 rfl ?_
    refine zV.cv kX0_stepsToAll rfl lX0_46 (o_spansAfter E h hS) (by decide) rfl (hf) rfl rfl rfl (Nat.le_of_ble_eq_true rfl) ?_
    rintro _ _ ⟨rfl, rfl⟩
    refine zV.run kX0_stepsToAll 3 rfl ?_
    refine zV.cv kX0_stepsToAll rfl lX0_56 (o_allSpans E h) (by decide) rfl (hf) rfl rfl rfl (Nat.le_of_ble_eq_true rfl) ?_
    rintro _ _ ⟨rfl, rfl⟩
    refine zV.ic2 kX0_stepsToAll rfl (fun c => ?_) (fun c => ?_)
    · skip
      have c := mt (nI_eq (a := sA n ld S) (b := 2 ^ n - 1) (by omega) (by omega)).mpr c
      have e : staf n ld (r + 1) S k = staf n ld r (sA n ld S) (k + 1) := if_neg c
      refine zV.run kX0_stepsToAll 2 rfl ?_
      rw [nI_1, e]
      exact ih (k + 1) (sA n ld S) (by omega) (by omega)
    · skip
      have c := (nI_eq (by omega) (by omega)).mp (Decidable.not_not.mp c)
      have e : staf n ld (r + 1) S k = (k : Int) := if_pos c
      refine zV.run kX0_stepsToAll 1 rfl ?_
      exact zV.iret kX0_stepsToAll rfl rfl (⟨by rw [e, nI_iI], rfl⟩)
theorem o_stepsToAll (E : zE) {w : zWd} {f g n : Nat} {ld : Nat → Nat} (h : zFo w f g n ld) {i : Nat} (hi : i < n) : zOk E mX0_stepsToAll 2 [.ref f, .int (nI i)] w (zR0 w (.int (iI (sta n ld i)))) := by
  obtain ⟨led, hf, hg, hl, h1, h5, hb⟩ := id h
  have hi2 : 2 ^ i < 2 ^ n := Nat.pow_lt_pow_right (by decide) hi
  have p5 := p2le h5
  refine zOk.of (by decide +kernel) (Nat.le_of_ble_eq_true rfl) ?_
  refine zV.run kX0_stepsToAll 6 rfl ?_
  rw [bt_sh i (by omega)]
  exact o_stepsToAll_l E h (nI i) 64 1 (2 ^ i) (by omega) (by omega)
theorem staf_rg (n : Nat) (ld : Nat → Nat) : ∀ (r k S : Nat), staf n ld r S k = -1 ∨ ((k : Int) ≤ staf n ld r S k ∧ staf n ld r S k < k + r)
  | 0, k, S => Or.inl rfl
  | r + 1, k, S => by
    unfold staf
    split
    · right; omega
    · rcases staf_rg n ld r (k + 1) (sA n ld S) with h | h
      · left; exact h
      · right; omega
theorem o_stepsToMix_l (E : zE) {w : zWd} {f g n : Nat} {ld : Nat → Nat} (h : zFo w f g n ld) : ∀ (r i : Nat) (s : Int) (z : Value), i + r = n → 0 ≤ s → s ≤ 64 → zV E mX0_stepsToMix 3 (zR0 w (.int (iI (stm n ld r i s)))) 4 [.ref f, .int (iI s), .int (nI i), z] [] w := by
  obtain ⟨led, hf, hg, hl, h1, h5, hb⟩ := id h
  intro r
  induction r with
  | zero =>
    intro i s z hi h0 h64
    have e : i = n := by omega
    subst e
    refine zV.run kX0_stepsToMix 2 rfl ?_
    refine zV.gf kX0_stepsToMix rfl fX0_9 (hf) rfl ?_
    refine zV.ict kX0_stepsToMix (cd := .ge) rfl (Int32.le_refl _) ?_
    refine zV.run kX0_stepsToMix 1 rfl ?_
    exact zV.iret kX0_stepsToMix rfl rfl (⟨rfl, rfl⟩)
  | succ r ih =>
    intro i s z hi h0 h64
    have hs : sta n ld i = -1 ∨ (1 ≤ sta n ld i ∧ sta n ld i < 1 + 64) := staf_rg n ld 64 1 (2 ^ i)
    refine zV.run kX0_stepsToMix 2 rfl ?_
    refine zV.gf kX0_stepsToMix rfl fX0_9 (hf) rfl ?_
    refine zV.icf kX0_stepsToMix (cd := .ge) rfl (nI_ge (by omega) (by omega)) ?_
    refine zV.run kX0_stepsToMix 2 rfl ?_
    refine zV.cv kX0_stepsToMix rfl lX0_53 (o_stepsToAll E h (i := i) (by omega)) (by decide) rfl (hf) rfl rfl rfl (Nat.le_of_ble_eq_true rfl) ?_
    rintro _ _ ⟨rfl, rfl⟩
    refine zV.run kX0_stepsToMix 3 rfl ?_
    refine zV.ic2 kX0_stepsToMix rfl (fun c => ?_) (fun c => ?_)
    · skip
      have c : ¬ sta n ld i = -1 := fun q => c (by rw [q]; rfl)
      refine zV.run kX0_stepsToMix 2 rfl ?_
      refine zV.mxI kX0_stepsToMix rfl lX0_44 (by decide) (Nat.le_of_ble_eq_true rfl) ?_
      refine zV.run kX0_stepsToMix 3 rfl ?_
      have e : stm n ld (r + 1) i s = stm n ld r (i + 1) (max s (sta n ld i)) := if_neg c
      have e2 : (if iI s < iI (sta n ld i) then iI (sta n ld i) else iI s) = iI (max s (sta n ld i)) := by
        by_cases q : s < sta n ld i
        · rw [if_pos ((iI_lt (by omega) (by omega) (by omega) (by omega)).mpr q)]; congr 1; omega
        · rw [if_neg (fun z => q ((iI_lt (by omega) (by omega) (by omega) (by omega)).mp z))]; congr 1; omega
      rw [nI_1, e, e2]
      exact ih (i + 1) (max s (sta n ld i)) _ (by omega) (by omega) (by omega)
    · skip
      have c : sta n ld i = -1 := (iI_eq (by omega) (by omega) (by omega) (by omega)).mp (show iI (sta n ld i) = iI (-1) from Decidable.not_not.mp c)
      have e : stm n ld (r + 1) i s = -1 := if_pos c
      refine zV.run kX0_stepsToMix 1 rfl ?_
      exact zV.iret kX0_stepsToMix rfl rfl (⟨by rw [e]; rfl, rfl⟩)
theorem o_stepsToMix (E : zE) {w : zWd} {f g n : Nat} {ld : Nat → Nat} (h : zFo w f g n ld) : zOk E mX0_stepsToMix 3 [.ref f] w (zR0 w (.int (iI (stm n ld n 0 0)))) := by
  refine zOk.of (by decide +kernel) (Nat.le_of_ble_eq_true rfl) ?_
  refine zV.run kX0_stepsToMix 4 rfl ?_
  exact o_stepsToMix_l E h n 0 0 _ (by omega) (by omega) (by omega)
end
section
/-! ===== Fold: corners ===== -/
def orb (ld : Nat → Nat) (i : Nat) : Nat → Nat
  | 0 => i
  | k + 1 => ld (orb ld i k)
def sorf (ld : Nat → Nat) (i : Nat) : Nat → Nat → Nat → Nat
  | 0, _, _ => 0
  | r + 1, x, k => if ld x = i then k else sorf ld i r (ld x) (k + 1)
def sor (n : Nat) (ld : Nat → Nat) (i : Nat) : Nat := sorf ld i (n + 1) i 1
def sah (n : Nat) (ld : Nat → Nat) : Nat → Nat → Nat
  | 0, _ => 0
  | r + 1, x => if sor n ld x = 0 then sah n ld r (ld x) + 1 else 0
def ft1 (n : Nat) (ld : Nat → Nat) : Nat → Nat → Nat
  | 0, c => c
  | r + 1, c => if 0 < sl ld c then ft1 n ld r (c + 1) else c
def ft2 (n : Nat) (ld : Nat → Nat) : Nat → Nat → Bool
  | 0, _ => true
  | r + 1, i => if sl ld i < 0 then ft2 n ld r (i + 1) else false
def ftp (n : Nat) (ld : Nat → Nat) : Int := if ft2 n ld (n - ft1 n ld n 0) (ft1 n ld n 0) = true ∧ 0 < ft1 n ld n 0 ∧ ft1 n ld n 0 < n then (ft1 n ld n 0 : Int) else -1
def nxe (ld : Nat → Nat) (e : Nat) : Nat := if e % 2 = 0 then (if 0 < sl ld (e / 2) then 2 * ld (e / 2) else 2 * ld (e / 2) - 1) else (if 0 < sl ld (e / 2) then 2 * ld (e / 2 + 1) - 1 else 2 * ld (e / 2 + 1))
theorem orb_le {n : Nat} {ld : Nat → Nat} (hl : ∀ i, i ≤ n → ld i ≤ n) {i : Nat} (hi : i ≤ n) : ∀ k, orb ld i k ≤ n
  | 0 => hi
  | k + 1 => hl _ (orb_le hl hi k)
theorem o_cornerAfter_l (E : zE) {w : zWd} {f g n : Nat} {ld : Nat → Nat} (h : zFo w f g n ld) {i : Nat} (hi : i ≤ n) {k : Nat} (hk : k ≤ 1000) : ∀ (r j : Nat), j + r = k → zV E mX0_cornerAfter 0 (zR0 w (.int (nI (orb ld i k)))) 5 [.ref f, .int (nI i), .int (nI k), .int (nI (orb ld i j)), .int (nI j)] [] w := by
  obtain ⟨led, hf, hg, hl, h1, h5, hb⟩ := id h
  intro r
  induction r with
  | zero =>
    intro j hj
    have e : j = k := by omega
    subst e
    refine zV.run kX0_cornerAfter 2 rfl ?_
    refine zV.ict kX0_cornerAfter (cd := .ge) rfl (Int32.le_refl _) ?_
    refine zV.run kX0_cornerAfter 1 rfl ?_
    exact zV.iret kX0_cornerAfter rfl rfl (⟨rfl, rfl⟩)
  | succ r ih =>
    intro j hj
    have b1 := orb_le hb hi j
    refine zV.run kX0_cornerAfter 2 rfl ?_
    refine zV.icf kX0_cornerAfter (cd := .ge) rfl (nI_ge (by omega) (by omega)) ?_
    refine zV.run kX0_cornerAfter 1 rfl ?_
    refine zV.gf kX0_cornerAfter rfl fX0_15 (hf) rfl ?_
    refine zV.run kX0_cornerAfter 1 rfl ?_
    refine zV.ial kX0_cornerAfter rfl (hg) (orb ld i j) (rfl) (by omega) (by decide) ?_
    refine zV.run kX0_cornerAfter 3 rfl ?_
    rw [nI_1, hl _ b1]
    exact ih (j + 1) (by omega)
theorem o_cornerAfter (E : zE) {w : zWd} {f g n : Nat} {ld : Nat → Nat} (h : zFo w f g n ld) {i : Nat} (hi : i ≤ n) {k : Nat} (hk : k ≤ 1000) : zOk E mX0_cornerAfter 0 [.ref f, .int (nI i), .int (nI k)] w (zR0 w (.int (nI (orb ld i k)))) := by
  refine zOk.of (by decide +kernel) (Nat.le_of_ble_eq_true rfl) ?_
  refine zV.run kX0_cornerAfter 4 rfl ?_
  exact o_cornerAfter_l E h hi hk k 0 (by omega)
theorem o_stepsOfRound_l (E : zE) {w : zWd} {f g n : Nat} {ld : Nat → Nat} (h : zFo w f g n ld) {i : Nat} (hi : i ≤ n) : ∀ (r x k : Nat), k + r = n + 2 → x ≤ n → zV E mX0_stepsOfRound 0 (zR0 w (.int (nI (sorf ld i r x k)))) 4 [.ref f, .int (nI i), .int (nI x), .int (nI k)] [] w := by
  obtain ⟨led, hf, hg, hl, h1, h5, hb⟩ := id h
  intro r
  induction r with
  | zero =>
    intro x k hk hx
    refine zV.run kX0_stepsOfRound 2 rfl ?_
    refine zV.gf kX0_stepsOfRound rfl fX0_9 (hf) rfl ?_
    refine zV.run kX0_stepsOfRound 2 rfl ?_
    rw [nI_1]
    refine zV.ict kX0_stepsOfRound (cd := .gt) rfl (nI_lt (by omega) (by omega)) ?_
    refine zV.run kX0_stepsOfRound 1 rfl ?_
    exact zV.iret kX0_stepsOfRound rfl rfl (⟨rfl, rfl⟩)
  | succ r ih =>
    intro x k hk hx
    have b1 := hb x hx
    refine zV.run kX0_stepsOfRound 2 rfl ?_
    refine zV.gf kX0_stepsOfRound rfl fX0_9 (hf) rfl ?_
    refine zV.run kX0_stepsOfRound 2 rfl ?_
    rw [nI_1]
    refine zV.icf kX0_stepsOfRound (cd := .gt) rfl (nI_nlt (by omega) (by omega)) ?_
    refine zV.run kX0_stepsOfRound 1 rfl ?_
    refine zV.gf kX0_stepsOfRound rfl fX0_15 (hf) rfl ?_
    refine zV.run kX0_stepsOfRound 1 rfl ?_
    refine zV.ial kX0_stepsOfRound rfl (hg) (x) (rfl) (by omega) (by decide) ?_
    refine zV.run kX0_stepsOfRound 3 rfl ?_
    rw [hl x hx]
    refine zV.ic2 kX0_stepsOfRound rfl (fun c => ?_) (fun c => ?_)
    · skip
      have c := mt (nI_eq (a := ld x) (b := i) (by omega) (by omega)).mpr c
      have e : sorf ld i (r + 1) x k = sorf ld i r (ld x) (k + 1) := if_neg c
      refine zV.run kX0_stepsOfRound 2 rfl ?_
      rw [nI_1, e]
      exact ih (ld x) (k + 1) (by omega) b1
    · skip
      have c := (nI_eq (a := ld x) (b := i) (by omega) (by omega)).mp (Decidable.not_not.mp c)
      have e : sorf ld i (r + 1) x k = k := if_pos c
      refine zV.run kX0_stepsOfRound 1 rfl ?_
      exact zV.iret kX0_stepsOfRound rfl rfl (⟨by rw [e], rfl⟩)
theorem o_stepsOfRound (E : zE) {w : zWd} {f g n : Nat} {ld : Nat → Nat} (h : zFo w f g n ld) {i : Nat} (hi : i ≤ n) : zOk E mX0_stepsOfRound 0 [.ref f, .int (nI i)] w (zR0 w (.int (nI (sor n ld i)))) := by
  refine zOk.of (by decide +kernel) (Nat.le_of_ble_eq_true rfl) ?_
  refine zV.run kX0_stepsOfRound 4 rfl ?_
  exact o_stepsOfRound_l E h hi (n + 1) i 1 (by omega) hi
theorem sorf_le (ld : Nat → Nat) (i : Nat) : ∀ r x k, sorf ld i r x k ≤ k + r
  | 0, x, k => Nat.zero_le _
  | r + 1, x, k => by
    unfold sorf
    split
    · omega
    · have := sorf_le ld i r (ld x) (k + 1); omega
theorem o_stepsAhead_l (E : zE) {w : zWd} {f g n : Nat} {ld : Nat → Nat} (h : zFo w f g n ld) (i : Int32) : ∀ (r x k : Nat), k + r = n + 1 → x ≤ n → zV E mX0_stepsAheadOfRound 1 (zR0 w (.int (nI (k + sah n ld r x)))) 4 [.ref f, .int i, .int (nI x), .int (nI k)] [] w := by
  obtain ⟨led, hf, hg, hl, h1, h5, hb⟩ := id h
  intro r
  induction r with
  | zero =>
    intro x k hk hx
    refine zV.run kX0_stepsAheadOfRound 2 rfl ?_
    refine zV.gf kX0_stepsAheadOfRound rfl fX0_9 (hf) rfl ?_
    refine zV.ict kX0_stepsAheadOfRound (cd := .gt) rfl (nI_lt (by omega) (by omega)) ?_
    refine zV.run kX0_stepsAheadOfRound 1 rfl ?_
    exact zV.iret kX0_stepsAheadOfRound rfl rfl (⟨rfl, rfl⟩)
  | succ r ih =>
    intro x k hk hx
    have b1 := hb x hx
    have b2 := sorf_le ld x (n + 1) x 1
    have b3 : sor n ld x ≤ 7 := by unfold sor; omega
    refine zV.run kX0_stepsAheadOfRound 2 rfl ?_
    refine zV.gf kX0_stepsAheadOfRound rfl fX0_9 (hf) rfl ?_
    refine zV.icf kX0_stepsAheadOfRound (cd := .gt) rfl (nI_nlt (by omega) (by omega)) ?_
    refine zV.run kX0_stepsAheadOfRound 2 rfl ?_
    refine zV.cv kX0_stepsAheadOfRound rfl lX0_60 (o_stepsOfRound E h hx) (by decide) rfl (hf) rfl rfl rfl (Nat.le_of_ble_eq_true rfl) ?_
    rintro _ _ ⟨rfl, rfl⟩
    refine zV.if2 kX0_stepsAheadOfRound rfl (fun c => ?_) (fun c => ?_)
    · skip
      have c : ¬ sor n ld x = 0 := fun q => c (by rw [q]; rfl)
      have e : sah n ld (r + 1) x = 0 := if_neg c
      refine zV.run kX0_stepsAheadOfRound 1 rfl ?_
      exact zV.iret kX0_stepsAheadOfRound rfl rfl (⟨by rw [e]; rfl, rfl⟩)
    · skip
      have c := (nI_eq (a := sor n ld x) (b := 0) (by omega) (by omega)).mp (Decidable.not_not.mp c)
      have e : sah n ld (r + 1) x = sah n ld r (ld x) + 1 := if_pos c
      refine zV.run kX0_stepsAheadOfRound 1 rfl ?_
      refine zV.gf kX0_stepsAheadOfRound rfl fX0_15 (hf) rfl ?_
      refine zV.run kX0_stepsAheadOfRound 1 rfl ?_
      refine zV.ial kX0_stepsAheadOfRound rfl (hg) (x) (rfl) (by omega) (by decide) ?_
      refine zV.run kX0_stepsAheadOfRound 3 rfl ?_
      rw [hl x hx, nI_1, e, show k + (sah n ld r (ld x) + 1) = k + 1 + sah n ld r (ld x) by omega]
      exact ih (ld x) (k + 1) (by omega) b1
theorem o_stepsAhead (E : zE) {w : zWd} {f g n : Nat} {ld : Nat → Nat} (h : zFo w f g n ld) {i : Nat} (hi : i ≤ n) : zOk E mX0_stepsAheadOfRound 1 [.ref f, .int (nI i)] w (zR0 w (.int (nI (sah n ld (n + 1) i)))) := by
  refine zOk.of (by decide +kernel) (Nat.le_of_ble_eq_true rfl) ?_
  refine zV.run kX0_stepsAheadOfRound 4 rfl ?_
  have := o_stepsAhead_l E h (nI i) (n + 1) i 0 (by omega) hi
  rw [Nat.zero_add] at this
  exact this
theorem ft1_rg (n : Nat) (ld : Nat → Nat) : ∀ r c, c ≤ ft1 n ld r c ∧ ft1 n ld r c ≤ c + r
  | 0, c => ⟨Nat.le_refl _, Nat.le_refl _⟩
  | r + 1, c => by
    unfold ft1
    split
    · have := ft1_rg n ld r (c + 1); omega
    · omega
theorem sl_rg {n : Nat} {ld : Nat → Nat} (hn : n ≤ 5) (hb : ∀ i, i ≤ n → ld i ≤ n) {i : Nat} (hi : i < n) : -5 ≤ sl ld i ∧ sl ld i ≤ 5 := by
  have := hb i (by omega)
  have := hb (i + 1) (by omega)
  unfold sl
  omega
theorem o_findTop_2 (E : zE) {w : zWd} {f g n : Nat} {ld : Nat → Nat} (h : zFo w f g n ld) {c : Nat} (hc : c ≤ n) : ∀ (r i : Nat), i + r = n → zV E mX0_findTop 1 (zR0 w (.int (iI (if ft2 n ld r i = true ∧ 0 < c ∧ c < n then (c : Int) else -1)))) 26 [.ref f, .int (nI c), .int (nI i)] [] w := by
  obtain ⟨led, hf, hg, hl, h1, h5, hb⟩ := id h
  intro r
  induction r with
  | zero =>
    intro i hi
    have e : i = n := by omega
    subst e
    refine zV.run kX0_findTop 2 rfl ?_
    refine zV.gf kX0_findTop rfl fX0_9 (hf) rfl ?_
    refine zV.ict kX0_findTop (cd := .ge) rfl (Int32.le_refl _) ?_
    refine zV.run kX0_findTop 1 rfl ?_
    refine zV.if2 kX0_findTop rfl (fun c1 => ?_) (fun c1 => ?_)
    · skip
      have c1 := (nI_leI (a := c) (b := 0) (by omega) (by omega)).mp c1
      refine zV.run kX0_findTop 1 rfl ?_
      exact zV.iret kX0_findTop rfl rfl (⟨by rw [if_neg (fun q => absurd q.2.1 (by omega))]; rfl, rfl⟩)
    · skip
      have c1 := mt (nI_leI (a := c) (b := 0) (by omega) (by omega)).mpr c1
      refine zV.run kX0_findTop 2 rfl ?_
      refine zV.gf kX0_findTop rfl fX0_9 (hf) rfl ?_
      refine zV.ic2 kX0_findTop rfl (fun c2 => ?_) (fun c2 => ?_)
      · skip
        have c2 := (nI_leI (by omega) (by omega)).mp c2
        refine zV.run kX0_findTop 1 rfl ?_
        exact zV.iret kX0_findTop rfl rfl (⟨by rw [if_neg (fun q => absurd q.2.2 (by omega))]; rfl, rfl⟩)
      · skip
        have c2 := mt (nI_leI (a := i) (b := c) (by omega) (by omega)).mpr c2
        refine zV.run kX0_findTop 2 rfl ?_
        exact zV.iret kX0_findTop rfl rfl (⟨by rw [if_pos ⟨rfl, by omega, by omega⟩, nI_iI], rfl⟩)
  | succ r ih =>
    intro i hi
    have b1 := sl_rg h5 hb (i := i) (by omega)
    refine zV.run kX0_findTop 2 rfl ?_
    refine zV.gf kX0_findTop rfl fX0_9 (hf) rfl ?_
    refine zV.icf kX0_findTop (cd := .ge) rfl (nI_ge (by omega) (by omega)) ?_
    refine zV.run kX0_findTop 2 rfl ?_
    refine zV.cv kX0_findTop rfl lX0_34 (o_slopeOf E h (i := i) (by omega)) (by decide) rfl (hf) rfl rfl rfl (Nat.le_of_ble_eq_true rfl) ?_
    rintro _ _ ⟨rfl, rfl⟩
    refine zV.if2 kX0_findTop rfl (fun c1 => ?_) (fun c1 => ?_)
    · skip
      have c1 := (iI_lt (a := sl ld i) (b := 0) (by omega) (by omega) (by omega) (by omega)).mp c1
      have e : ft2 n ld (r + 1) i = ft2 n ld r (i + 1) := if_pos c1
      refine zV.run kX0_findTop 2 rfl ?_
      rw [nI_1, e]
      exact ih (i + 1) (by omega)
    · skip
      have c1 := mt (iI_lt (a := sl ld i) (b := 0) (by omega) (by omega) (by omega) (by omega)).mpr c1
      have e : ft2 n ld (r + 1) i = false := if_neg c1
      refine zV.run kX0_findTop 1 rfl ?_
      exact zV.iret kX0_findTop rfl rfl (⟨by rw [e, if_neg (fun q => by cases q.1)]; rfl, rfl⟩)
theorem o_findTop_1 (E : zE) {w : zWd} {f g n : Nat} {ld : Nat → Nat} (h : zFo w f g n ld) : ∀ (r c : Nat), c + r = n → ft1 n ld r c = ft1 n ld n 0 → zV E mX0_findTop 1 (zR0 w (.int (iI (ftp n ld)))) 2 [.ref f, .int (nI c), zU] [] w := by
  obtain ⟨led, hf, hg, hl, h1, h5, hb⟩ := id h
  intro r
  induction r with
  | zero =>
    intro c hc he
    have he : c = ft1 n ld n 0 := he
    have e : c = n := by omega
    refine zV.run kX0_findTop 2 rfl ?_
    refine zV.gf kX0_findTop rfl fX0_9 (hf) rfl ?_
    refine zV.ict kX0_findTop (cd := .ge) rfl (by rw [e]; exact Int32.le_refl _) ?_
    refine zV.run kX0_findTop 2 rfl ?_
    have K := o_findTop_2 E h (c := c) (by omega) (n - c) c (by omega)
    unfold ftp
    rw [← he]
    exact K
  | succ r ih =>
    intro c hc he
    have b1 := sl_rg h5 hb (i := c) (by omega)
    refine zV.run kX0_findTop 2 rfl ?_
    refine zV.gf kX0_findTop rfl fX0_9 (hf) rfl ?_
    refine zV.icf kX0_findTop (cd := .ge) rfl (nI_ge (by omega) (by omega)) ?_
    refine zV.run kX0_findTop 2 rfl ?_
    refine zV.cv kX0_findTop rfl lX0_34 (o_slopeOf E h (i := c) (by omega)) (by decide) rfl (hf) rfl rfl rfl (Nat.le_of_ble_eq_true rfl) ?_
    rintro _ _ ⟨rfl, rfl⟩
    refine zV.if2 kX0_findTop rfl (fun c1 => ?_) (fun c1 => ?_)
    · skip
      have c1 := (iI_le (a := sl ld c) (b := 0) (by omega) (by omega) (by omega) (by omega)).mp c1
      have e : ft1 n ld (r + 1) c = c := if_neg (by omega)
      have he : c = ft1 n ld n 0 := by rw [← he, e]
      refine zV.run kX0_findTop 2 rfl ?_
      have K := o_findTop_2 E h (c := c) (by omega) (n - c) c (by omega)
      unfold ftp
      rw [← he]
      exact K
    · skip
      have c1 := mt (iI_le (a := sl ld c) (b := 0) (by omega) (by omega) (by omega) (by omega)).mpr c1
      have e : ft1 n ld (r + 1) c = ft1 n ld r (c + 1) := if_pos (by omega)
      refine zV.run kX0_findTop 2 rfl ?_
      rw [nI_1]
      exact ih (c + 1) (by omega) (by rw [← e, he])
theorem o_findTop (E : zE) {w : zWd} {f g n : Nat} {ld : Nat → Nat} (h : zFo w f g n ld) : zOk E mX0_findTop 1 [.ref f] w (zR0 w (.int (iI (ftp n ld)))) := by
  refine zOk.of (by decide +kernel) (Nat.le_of_ble_eq_true rfl) ?_
  refine zV.run kX0_findTop 2 rfl ?_
  exact o_findTop_1 E h n 0 (by omega) rfl
theorem o_nextEdge (E : zE) {w : zWd} {f g n : Nat} {ld : Nat → Nat} (h : zFo w f g n ld) {e : Nat} (he : e < 2 * n) (hs : sl ld (e / 2) ≠ 0) : zOk E mX0_nextEdge 1 [.ref f, .int (nI e)] w (zR0 w (.int (nI (nxe ld e)))) := by
  obtain ⟨led, hf, hg, hl, h1, h5, hb⟩ := id h
  have hi : e / 2 < n := by omega
  have b1 := sl_rg h5 hb hi
  have l1 := hb (e / 2) (by omega)
  have l2 := hb (e / 2 + 1) (by omega)
  have e2 : nI e / 2 = nI (e / 2) := pk_div (d := 2) (by omega) (by decide) (by decide)
  have e3 : nI e - nI e / 2 * 2 = nI (e % 2) := pk_rem (d := 2) (by omega) (by decide) (by decide)
  have em : ∀ v : Nat, v ≤ 5 → (2 : Int32) * nI v = nI (2 * v) := fun v _ => pk_mul 2 v
  have hsl : sl ld (e / 2) = (ld (e / 2 + 1) : Int) - (ld (e / 2) : Int) := rfl
  refine zOk.of (by decide +kernel) (Nat.le_of_ble_eq_true rfl) ?_
  refine zV.run kX0_nextEdge 2 rfl ?_
  refine zV.idiv kX0_nextEdge rfl (by decide) ?_
  refine zV.run kX0_nextEdge 3 rfl ?_
  refine zV.irem kX0_nextEdge rfl (by decide) ?_
  rw [e3, e2]
  refine zV.if2 kX0_nextEdge rfl (fun c => ?_) (fun c => ?_)
  · skip
    have c : ¬ e % 2 = 0 := fun q => c (by rw [q]; rfl)
    refine zV.run kX0_nextEdge 3 rfl ?_
    refine zV.ift kX0_nextEdge (cd := .eq) rfl (rfl) ?_
    refine zV.run kX0_nextEdge 1 rfl ?_
    refine zV.gf kX0_nextEdge rfl fX0_15 (hf) rfl ?_
    refine zV.run kX0_nextEdge 3 rfl ?_
    refine zV.ial kX0_nextEdge rfl (hg) (e / 2 + 1) (nI_1 _) (by omega) (by decide) ?_
    refine zV.run kX0_nextEdge 3 rfl ?_
    refine zV.cv kX0_nextEdge rfl lX0_34 (o_slopeOf E h hi) (by decide) rfl (hf) rfl rfl rfl (Nat.le_of_ble_eq_true rfl) ?_
    rintro _ _ ⟨rfl, rfl⟩
    refine zV.if2 kX0_nextEdge rfl (fun c1 => ?_) (fun c1 => ?_)
    · skip
      have c1 := (iI_le (a := sl ld (e / 2)) (b := 0) (by omega) (by omega) (by omega) (by omega)).mp c1
      refine zV.run kX0_nextEdge 4 rfl ?_
      refine zV.icf kX0_nextEdge (cd := .ne) rfl (fun q => q rfl) ?_
      refine zV.run kX0_nextEdge 4 rfl ?_
      rw [hl _ (by omega), em _ (by omega)]
      exact zV.iret kX0_nextEdge rfl rfl (⟨by unfold nxe; rw [if_neg c, if_neg (by omega)], rfl⟩)
    · skip
      have c1 := mt (iI_le (a := sl ld (e / 2)) (b := 0) (by omega) (by omega) (by omega) (by omega)).mpr c1
      refine zV.run kX0_nextEdge 5 rfl ?_
      refine zV.ict kX0_nextEdge (cd := .ne) rfl (by show ¬ (0 : Int32) = 1; decide) ?_
      refine zV.run kX0_nextEdge 5 rfl ?_
      rw [hl _ (by omega), em _ (by omega), show (1 : Int32) = nI 1 from rfl, pk_sub (by omega)]
      exact zV.iret kX0_nextEdge rfl rfl (⟨by unfold nxe; rw [if_neg c, if_pos (by omega)], rfl⟩)
  · skip
    have c := (nI_eq (a := e % 2) (b := 0) (by omega) (by omega)).mp (Decidable.not_not.mp c)
    refine zV.run kX0_nextEdge 4 rfl ?_
    refine zV.iff kX0_nextEdge (cd := .eq) rfl (by show ¬ (1 : Int32) = 0; decide) ?_
    refine zV.run kX0_nextEdge 1 rfl ?_
    refine zV.gf kX0_nextEdge rfl fX0_15 (hf) rfl ?_
    refine zV.run kX0_nextEdge 1 rfl ?_
    refine zV.ial kX0_nextEdge rfl (hg) (e / 2) (rfl) (by omega) (by decide) ?_
    refine zV.run kX0_nextEdge 4 rfl ?_
    refine zV.cv kX0_nextEdge rfl lX0_34 (o_slopeOf E h hi) (by decide) rfl (hf) rfl rfl rfl (Nat.le_of_ble_eq_true rfl) ?_
    rintro _ _ ⟨rfl, rfl⟩
    refine zV.if2 kX0_nextEdge rfl (fun c1 => ?_) (fun c1 => ?_)
    · skip
      have c1 := (iI_le (a := sl ld (e / 2)) (b := 0) (by omega) (by omega) (by omega) (by omega)).mp c1
      refine zV.run kX0_nextEdge 4 rfl ?_
      refine zV.ict kX0_nextEdge (cd := .ne) rfl (by show ¬ (1 : Int32) = 0; decide) ?_
      refine zV.run kX0_nextEdge 5 rfl ?_
      rw [hl _ (by omega), em _ (by omega), show (1 : Int32) = nI 1 from rfl, pk_sub (by omega)]
      exact zV.iret kX0_nextEdge rfl rfl (⟨by unfold nxe; rw [if_pos c, if_neg (by omega)], rfl⟩)
    · skip
      have c1 := mt (iI_le (a := sl ld (e / 2)) (b := 0) (by omega) (by omega) (by omega) (by omega)).mpr c1
      refine zV.run kX0_nextEdge 5 rfl ?_
      refine zV.icf kX0_nextEdge (cd := .ne) rfl (fun q => q rfl) ?_
      refine zV.run kX0_nextEdge 4 rfl ?_
      rw [hl _ (by omega), em _ (by omega)]
      exact zV.iret kX0_nextEdge rfl rfl (⟨by unfold nxe; rw [if_pos c, if_pos (by omega)], rfl⟩)
theorem o_hasPoint (E : zE) {w : zWd} {f g n : Nat} {ld : Nat → Nat} (h : zFo w f g n ld) (a b : Int64) : zOk E mX0_hasPoint 0 [.ref f, .long a, .long b] w (zR0 w (.int (zq (1 ≤ b.toInt ∧ b.toInt ≤ 100000 ∧ 0 ≤ a.toInt ∧ a.toInt ≤ n * b.toInt)))) := by
  obtain ⟨led, hf, hg, hl, h1, h5, hb⟩ := id h
  refine zOk.of (by decide +kernel) (Nat.le_of_ble_eq_true rfl) ?_
  refine zV.run kX0_hasPoint 2 rfl ?_
  refine zV.il2 kX0_hasPoint rfl rfl (fun c => ?_) (fun c => ?_)
  · skip
    have c : b.toInt < 1 := i64_lt.mp c
    refine zV.run kX0_hasPoint 1 rfl ?_
    exact zV.zret kX0_hasPoint rfl rfl (Or.inl rfl) (⟨by rw [zq_f]; intro q; omega, rfl⟩)
  · skip
    have c : 1 ≤ b.toInt := i64_le.mp (Int64.not_lt.mp c)
    refine zV.run kX0_hasPoint 1 rfl ?_
    refine zV.ldc2 kX0_hasPoint rfl qX0_19 ?_
    refine zV.il2 kX0_hasPoint rfl rfl (fun c2 => ?_) (fun c2 => ?_)
    · skip
      have c2 : 100000 < b.toInt := i64_lt.mp c2
      refine zV.run kX0_hasPoint 1 rfl ?_
      exact zV.zret kX0_hasPoint rfl rfl (Or.inl rfl) (⟨by rw [zq_f]; intro q; omega, rfl⟩)
    · skip
      have c2 : b.toInt ≤ 100000 := i64_le.mp (Int64.not_lt.mp c2)
      refine zV.run kX0_hasPoint 2 rfl ?_
      refine zV.il2 kX0_hasPoint rfl rfl (fun c3 => ?_) (fun c3 => ?_)
      · skip
        have c3 : a.toInt < 0 := i64_lt.mp c3
        refine zV.run kX0_hasPoint 1 rfl ?_
        exact zV.zret kX0_hasPoint rfl rfl (Or.inl rfl) (⟨by rw [zq_f]; intro q; omega, rfl⟩)
      · skip
        have c3 : 0 ≤ a.toInt := i64_le.mp (Int64.not_lt.mp c3)
        have hm : (n : Int) * b.toInt ≤ 5 * b.toInt := Int.mul_le_mul_of_nonneg_right (by omega) (by omega)
        have hm0 : 0 ≤ (n : Int) * b.toInt := Int.mul_nonneg (by omega) (by omega)
        have e : ((nI n).toInt64 * b).toInt = n * b.toInt := by
          rw [nI_iI, iI_l (by omega) (by omega)]
          have eb : b = lI b.toInt := lI_of b
          rw [show lI (n : Int) * b = lI (n : Int) * lI b.toInt by rw [← eb], lI_mul, lI_t (by omega) (by omega)]
        refine zV.run kX0_hasPoint 2 rfl ?_
        refine zV.gf kX0_hasPoint rfl fX0_9 (hf) rfl ?_
        refine zV.run kX0_hasPoint 3 rfl ?_
        refine zV.il2 kX0_hasPoint rfl rfl (fun c4 => ?_) (fun c4 => ?_)
        · skip
          have c4 := i64_lt.mp c4
          rw [e] at c4
          refine zV.run kX0_hasPoint 1 rfl ?_
          exact zV.zret kX0_hasPoint rfl rfl (Or.inl rfl) (⟨by rw [zq_f]; intro q; omega, rfl⟩)
        · skip
          have c4 := i64_le.mp (Int64.not_lt.mp c4)
          rw [e] at c4
          refine zV.run kX0_hasPoint 2 rfl ?_
          exact zV.zret kX0_hasPoint rfl rfl (Or.inr rfl) (⟨by rw [zq_t]; exact ⟨c, c2, c3, c4⟩, rfl⟩)
end
section
/-! ===== Fold: what changes a map ===== -/
theorem zIs.s {w : zWd} {a : Nat} {c : va_E} (h : a < 61) : zIs (va_up w a c) a c := ⟨h, by simp [va_up]⟩
theorem zIs.n {w : zWd} {a b : Nat} {c c' : va_E} (h : zIs w b c) (hn : b ≠ a) : zIs (va_up w a c') b c := ⟨h.1, by simp [va_up, hn, h.2]⟩
theorem zup_ne {w : zWd} {a b : Nat} {c : va_E} (hn : b ≠ a) : va_up w a c b = w b := by simp [va_up, hn]
theorem zIs.u {w : zWd} {a : Nat} {c c' : va_E} (h : zIs w a c) (h' : zIs w a c') : c = c' := h.2.symm.trans h'.2
theorem upd_s {f : Nat → Int32} {k : Nat} {x : Int32} : upd f k x k = x := pk_us
theorem o_flatten_l (E : zE) {w0 : zWd} {f g n : Nat} (hn1 : 1 ≤ n) (hn5 : n ≤ 5) (hfg : f ≠ g) : ∀ (r j : Nat) (w : zWd) (led : Nat → Int32), j + r = 6 → zIs w f (zOb 0 [.int (nI n), .ref g]) → zIs w g (zIA 6 led) → (∀ i, i < j → led i = 0) → (∀ a, a ≠ f → a ≠ g → w a = w0 a) → zV E mX0_flatten 0 (fun r w' => r = none ∧ zFo w' f g n (fun _ => 0) ∧ ∀ a, a ≠ f → a ≠ g → w' a = w0 a) 7 [.ref f, .int (nI n), .int (nI j)] [] w := by
  intro r
  induction r with
  | zero =>
    intro j w led hj hf hg hl hw
    have e : j = 6 := by omega
    subst e
    refine zV.run kX0_flatten 2 rfl ?_
    refine zV.ict kX0_flatten (cd := .gt) rfl (show (5 : Int32) < nI 6 by decide) ?_
    exact zV.vret kX0_flatten rfl rfl (⟨rfl, ⟨led, hf, hg, fun i hi => hl i (by omega), hn1, hn5, fun _ _ => Nat.zero_le _⟩, hw⟩)
  | succ r ih =>
    intro j w led hj hf hg hl hw
    refine zV.run kX0_flatten 2 rfl ?_
    refine zV.icf kX0_flatten (cd := .gt) rfl (fun q => absurd ((nI_ltI (a := 5) (b := j) (by omega) (by omega)).mp q) (by omega)) ?_
    refine zV.run kX0_flatten 1 rfl ?_
    refine zV.gf kX0_flatten rfl fX0_15 (hf) rfl ?_
    refine zV.run kX0_flatten 2 rfl ?_
    refine zV.ias kX0_flatten rfl (hg) (j) (rfl) (by omega) (by decide) ?_
    refine zV.run kX0_flatten 2 rfl ?_
    rw [nI_1]
    refine ih (j + 1) _ (upd led j 0) (by omega) (hf.n hfg) (zIs.s hg.1) (fun i hi => ?_) (fun a h1 h2 => by rw [zup_ne h2]; exact hw a h1 h2)
    by_cases e : i = j
    · rw [e]; exact pk_us
    · rw [pk_un e]; exact hl i (by omega)
theorem o_flatten (E : zE) {w : zWd} {f g n n0 : Nat} {ld : Nat → Nat} (h : zFo w f g n0 ld) (hfg : f ≠ g) (hn1 : 1 ≤ n) (hn5 : n ≤ 5) : zOk E mX0_flatten 0 [.ref f, .int (nI n)] w (fun r w' => r = none ∧ zFo w' f g n (fun _ => 0) ∧ ∀ a, a ≠ f → a ≠ g → w' a = w a) := by
  obtain ⟨led, hf, hg, hl, h1, h5, hb⟩ := h
  refine zOk.of (by decide +kernel) (Nat.le_of_ble_eq_true rfl) ?_
  refine zV.run kX0_flatten 2 rfl ?_
  refine zV.pfi kX0_flatten rfl pX0_9 (hf) (Nat.le_of_ble_eq_true rfl) ?_
  refine zV.run kX0_flatten 2 rfl ?_
  exact o_flatten_l E hn1 hn5 hfg 6 0 _ led (by omega) (zIs.s hf.1) (hg.n (Ne.symm hfg)) (fun i hi => by omega) (fun a h1 h2 => zup_ne h1)
theorem o_become_l (E : zE) {w0 : zWd} {f g f' g' n : Nat} {ledo : Nat → Int32} (Post : Option Value → zWd → Prop) (hfg : f ≠ g) (hfg2 : f' ≠ g) (hf2 : zIs w0 f' (zOb 0 [.int (nI n), .ref g'])) (hP : ∀ w led, zIs w f (zOb 0 [.int (nI n), .ref g]) → zIs w g (zIA 6 led) → (∀ i, i < 6 → led i = ledo i) → (∀ a, a ≠ f → a ≠ g → w a = w0 a) → Post none w) : ∀ (r j : Nat) (w : zWd) (led ledx : Nat → Int32), j + r = 6 → zIs w f (zOb 0 [.int (nI n), .ref g]) → (∃ z, zIs w f' (zOb 0 [z, .ref g'])) → zIs w g (zIA 6 led) → zIs w g' (zIA 6 ledx) → (∀ i, i < j → led i = ledo i) → (∀ i, j ≤ i → ledx i = ledo i) → (∀ a, a ≠ f → a ≠ g → w a = w0 a) → zV E mX0_become 0 Post 10 [.ref f, .ref f', .int (nI j)] [] w := by
  intro r
  induction r with
  | zero =>
    intro j w led ledx hj hf hf' hg hg' hl hlx hw
    have e : j = 6 := by omega
    subst e
    refine zV.run kX0_become 2 rfl ?_
    refine zV.ict kX0_become (cd := .gt) rfl (show (5 : Int32) < nI 6 by decide) ?_
    exact zV.vret kX0_become rfl rfl (hP w led hf hg hl hw)
  | succ r ih =>
    intro j w led ledx hj hf hf' hg hg' hl hlx hw
    obtain ⟨z, hf'⟩ := hf'
    refine zV.run kX0_become 2 rfl ?_
    refine zV.icf kX0_become (cd := .gt) rfl (fun q => absurd ((nI_ltI (a := 5) (b := j) (by omega) (by omega)).mp q) (by omega)) ?_
    refine zV.run kX0_become 1 rfl ?_
    refine zV.gf kX0_become rfl fX0_15 (hf) rfl ?_
    refine zV.run kX0_become 2 rfl ?_
    refine zV.gf kX0_become rfl fX0_15 (hf') rfl ?_
    refine zV.run kX0_become 1 rfl ?_
    refine zV.ial kX0_become rfl (hg') (j) (rfl) (by omega) (by decide) ?_
    refine zV.ias kX0_become rfl (hg) (j) (rfl) (by omega) (by decide) ?_
    refine zV.run kX0_become 2 rfl ?_
    rw [nI_1, hlx j (Nat.le_refl _)]
    have hl2 : ∀ i, i < j + 1 → upd led j (ledo j) i = ledo i := fun i hi => by
      by_cases e : i = j
      · rw [e]; exact pk_us
      · rw [pk_un e]; exact hl i (by omega)
    by_cases e : g' = g
    · subst e
      have e2 : led = ledx := by have := hg.u hg'; simpa using this
      subst e2
      exact ih (j + 1) _ (upd led j (ledo j)) (upd led j (ledo j)) (by omega) (hf.n hfg) ⟨z, hf'.n hfg2⟩ (zIs.s hg.1) (zIs.s hg.1) hl2 (fun i hi => by rw [pk_un (by omega)]; exact hlx i (by omega)) (fun a h1 h2 => by rw [zup_ne h2]; exact hw a h1 h2)
    · exact ih (j + 1) _ (upd led j (ledo j)) ledx (by omega) (hf.n hfg) ⟨z, hf'.n hfg2⟩ (zIs.s hg.1) (hg'.n e) hl2 (fun i hi => hlx i (by omega)) (fun a h1 h2 => by rw [zup_ne h2]; exact hw a h1 h2)
theorem o_become (E : zE) {w : zWd} {f g n0 f' g' n : Nat} {ld0 ld : Nat → Nat} (h0 : zFo w f g n0 ld0) (h : zFo w f' g' n ld) (hfg : f ≠ g) (hfg2 : f' ≠ g) (hfg3 : f ≠ g') : zOk E mX0_become 0 [.ref f, .ref f'] w (fun r w' => r = none ∧ zFo w' f g n ld ∧ ∀ a, a ≠ f → a ≠ g → w' a = w a) := by
  obtain ⟨led0, hf0, hg0, -, -, -, -⟩ := h0
  obtain ⟨led, hf, hg, hl, h1, h5, hb⟩ := h
  refine zOk.of (by decide +kernel) (Nat.le_of_ble_eq_true rfl) ?_
  refine zV.run kX0_become 2 rfl ?_
  refine zV.gf kX0_become rfl fX0_9 (hf) rfl ?_
  refine zV.pfi kX0_become rfl pX0_9 (hf0) (Nat.le_of_ble_eq_true rfl) ?_
  refine zV.run kX0_become 2 rfl ?_
  refine o_become_l E (ledo := led) _ hfg hfg2 hf (fun w led1 q1 q2 q3 q4 => ⟨rfl, ⟨led1, q1, q2, fun i hi => by rw [q3 i (by omega)]; exact hl i hi, h1, h5, hb⟩, q4⟩) 6 0 _ led0 led (by omega) (zIs.s hf0.1) ?_ (hg0.n (Ne.symm hfg)) (hg.n (Ne.symm hfg3)) (fun i hi => by omega) (fun i _ => rfl) (fun a q1 q2 => zup_ne q1)
  by_cases e : f' = f
  · subst e
    have e3 := hf0.u hf
    simp at e3
    rw [← e3.2]
    exact ⟨_, zIs.s hf0.1⟩
  · exact ⟨_, hf.n e⟩
theorem o_turned_l (E : zE) {w0 : zWd} {f g f' g' n : Nat} {ld : Nat → Nat} (h1 : 1 ≤ n) (h5 : n ≤ 5) (hb : ∀ i, i ≤ n → ld i ≤ n) (hfg : f ≠ g) (hfg2 : f' ≠ g) : ∀ (r j : Nat) (w : zWd) (led ledx : Nat → Int32) (z4 z5 z6 : Int32), j + r = n + 1 → (∃ z, zIs w f (zOb 0 [z, .ref g])) → (∃ z, zIs w f' (zOb 0 [z, .ref g'])) → zIs w g (zIA 6 led) → zIs w g' (zIA 6 ledx) → (∀ i, i ≤ n → (i < j ∨ n < i + j) → led i = nI (n - ld (n - i))) → (∀ i, j ≤ i → i + j ≤ n → ledx i = nI (ld i)) → (∀ a, a ≠ f → a ≠ g → w a = w0 a) → ∀ L, (L = [.ref f, .ref f', .int (nI n), .int (nI j), .int z4, .int z5, .int z6] ∨ (j = 0 ∧ L = [.ref f, .ref f', .int (nI n), .int (nI j), zU, zU, zU])) → zV E mX0_becomeTurned 0 (fun r w' => r = none ∧ zFo w' f g n (fun i => n - ld (n - i)) ∧ ∀ a, a ≠ f → a ≠ g → w' a = w0 a) 7 L [] w := by
  intro r
  induction r with
  | zero =>
    intro j w led ledx z4 z5 z6 hj hf hf' hg hg' hl hlx hw L hL
    obtain ⟨z, hf⟩ := hf
    rcases hL with rfl | ⟨q, -⟩
    · skip
      refine zV.run kX0_becomeTurned 4 rfl ?_
      have c9 : zIc .gt (nI j) (nI n - nI j) := by
        show nI n - nI j < nI j
        rw [nI_iI, nI_iI, iI_sub, iI_lt (by omega) (by omega) (by omega) (by omega)]
        omega
      refine zV.ict kX0_becomeTurned (cd := .gt) rfl (c9) ?_
      refine zV.run kX0_becomeTurned 2 rfl ?_
      refine zV.pfi kX0_becomeTurned rfl pX0_9 (hf) (Nat.le_of_ble_eq_true rfl) ?_
      exact zV.vret kX0_becomeTurned rfl rfl (⟨rfl, ⟨led, zIs.s hf.1, hg.n (Ne.symm hfg), fun i hi => hl i hi (by omega), h1, h5, fun i hi => Nat.sub_le _ _⟩, fun a q1 q2 => by rw [zup_ne q1]; exact hw a q1 q2⟩)
    · omega
  | succ r ih =>
    intro j w led ledx z4 z5 z6 hj hf hf' hg hg' hl hlx hw L hL
    have hfe := hf
    have hfe' := hf'
    obtain ⟨z, hf⟩ := hf
    obtain ⟨z', hf'⟩ := hf'
    by_cases hjn : j ≤ n - j
    · have c9 : ¬ zIc .gt (nI j) (nI n - nI j) := by
        show ¬ nI n - nI j < nI j
        rw [nI_iI, nI_iI, iI_sub, iI_lt (by omega) (by omega) (by omega) (by omega)]
        omega
      have e9 : nI n - nI j = nI (n - j) := pk_sub (by omega)
      have x1 := hlx (n - j) (by omega) (by omega)
      have x2 := hlx j (by omega) (by omega)
      have y1 : nI n - nI (ld (n - j)) = nI (n - ld (n - j)) := pk_sub (hb _ (by omega))
      have y2 : nI n - nI (ld j) = nI (n - ld j) := pk_sub (hb _ (by omega))
      have key : zV E mX0_becomeTurned 0 (fun r w' => r = none ∧ zFo w' f g n (fun i => n - ld (n - i)) ∧ ∀ a, a ≠ f → a ≠ g → w' a = w0 a) 7 [.ref f, .ref f', .int (nI n), .int (nI (j + 1)), .int (nI (n - j)), .int (nI (n - ld (n - j))), .int (nI (n - ld j))] [] (va_up (va_up w g (zIA 6 (upd led j (nI (n - ld (n - j)))))) g (zIA 6 (upd (upd led j (nI (n - ld (n - j)))) (n - j) (nI (n - ld j))))) := by
        have hl2 : ∀ i, i ≤ n → (i < j + 1 ∨ n < i + (j + 1)) → upd (upd led j (nI (n - ld (n - j)))) (n - j) (nI (n - ld j)) i = nI (n - ld (n - i)) := fun i hi hc => by
          by_cases q1 : i = n - j
          · rw [q1, pk_us, show n - (n - j) = j by omega]
          · rw [pk_un q1]
            by_cases q2 : i = j
            · rw [q2, pk_us]
            · rw [pk_un q2]; exact hl i hi (by omega)
        have hw2 : ∀ a, a ≠ f → a ≠ g → va_up (va_up w g (zIA 6 (upd led j (nI (n - ld (n - j)))))) g (zIA 6 (upd (upd led j (nI (n - ld (n - j)))) (n - j) (nI (n - ld j)))) a = w0 a := fun a q1 q2 => by rw [zup_ne q2, zup_ne q2]; exact hw a q1 q2
        by_cases e : g' = g
        · subst e
          have e2 : led = ledx := by have := hg.u hg'; simpa using this
          subst e2
          refine ih (j + 1) _ _ _ _ _ _ (by omega) ⟨z, (hf.n hfg).n hfg⟩ ⟨z', (hf'.n hfg2).n hfg2⟩ (zIs.s hg.1) (zIs.s hg.1) hl2 (fun i q1 q2 => ?_) hw2 _ (Or.inl rfl)
          rw [pk_un (by omega), pk_un (by omega)]
          exact hlx i (by omega) (by omega)
        · exact ih (j + 1) _ _ ledx _ _ _ (by omega) ⟨z, (hf.n hfg).n hfg⟩ ⟨z', (hf'.n hfg2).n hfg2⟩ (zIs.s hg.1) ((hg'.n e).n e) hl2 (fun i q1 q2 => hlx i (by omega) (by omega)) hw2 _ (Or.inl rfl)
      have hg1 : ∀ x, zIs (va_up w g (zIA 6 (upd led j x))) g (zIA 6 (upd led j x)) := fun x => zIs.s hg.1
      have hf1 : ∀ x, zIs (va_up w g (zIA 6 (upd led j x))) f (zOb 0 [z, .ref g]) := fun x => hf.n hfg
      rcases hL with rfl | ⟨q, rfl⟩
      · skip
        refine zV.run kX0_becomeTurned 4 rfl ?_
        refine zV.icf kX0_becomeTurned (cd := .gt) rfl (c9) ?_
        refine zV.run kX0_becomeTurned 6 rfl ?_
        refine zV.gf kX0_becomeTurned rfl fX0_15 (hf') rfl ?_
        refine zV.run kX0_becomeTurned 1 rfl ?_
        refine zV.ial kX0_becomeTurned rfl (hg') (n - j) (e9) (by omega) (by decide) ?_
        refine zV.run kX0_becomeTurned 4 rfl ?_
        refine zV.gf kX0_becomeTurned rfl fX0_15 (hf') rfl ?_
        refine zV.run kX0_becomeTurned 1 rfl ?_
        refine zV.ial kX0_becomeTurned rfl (hg') (j) (rfl) (by omega) (by decide) ?_
        refine zV.run kX0_becomeTurned 3 rfl ?_
        refine zV.gf kX0_becomeTurned rfl fX0_15 (hf) rfl ?_
        refine zV.run kX0_becomeTurned 2 rfl ?_
        refine zV.ias kX0_becomeTurned rfl (hg) (j) (rfl) (by omega) (by decide) ?_
        refine zV.run kX0_becomeTurned 1 rfl ?_
        refine zV.gf kX0_becomeTurned rfl fX0_15 (hf1 _) rfl ?_
        refine zV.run kX0_becomeTurned 2 rfl ?_
        refine zV.ias kX0_becomeTurned rfl (hg1 _) (n - j) (e9) (by omega) (by decide) ?_
        refine zV.run kX0_becomeTurned 2 rfl ?_
        rw [x1, x2, y1, y2, e9, nI_1]
        exact key
      · skip
        refine zV.run kX0_becomeTurned 4 rfl ?_
        refine zV.icf kX0_becomeTurned (cd := .gt) rfl (c9) ?_
        refine zV.run kX0_becomeTurned 6 rfl ?_
        refine zV.gf kX0_becomeTurned rfl fX0_15 (hf') rfl ?_
        refine zV.run kX0_becomeTurned 1 rfl ?_
        refine zV.ial kX0_becomeTurned rfl (hg') (n - j) (e9) (by omega) (by decide) ?_
        refine zV.run kX0_becomeTurned 4 rfl ?_
        refine zV.gf kX0_becomeTurned rfl fX0_15 (hf') rfl ?_
        refine zV.run kX0_becomeTurned 1 rfl ?_
        refine zV.ial kX0_becomeTurned rfl (hg') (j) (rfl) (by omega) (by decide) ?_
        refine zV.run kX0_becomeTurned 3 rfl ?_
        refine zV.gf kX0_becomeTurned rfl fX0_15 (hf) rfl ?_
        refine zV.run kX0_becomeTurned 2 rfl ?_
        refine zV.ias kX0_becomeTurned rfl (hg) (j) (rfl) (by omega) (by decide) ?_
        refine zV.run kX0_becomeTurned 1 rfl ?_
        refine zV.gf kX0_becomeTurned rfl fX0_15 (hf1 _) rfl ?_
        refine zV.run kX0_becomeTurned 2 rfl ?_
        refine zV.ias kX0_becomeTurned rfl (hg1 _) (n - j) (e9) (by omega) (by decide) ?_
        refine zV.run kX0_becomeTurned 2 rfl ?_
        rw [x1, x2, y1, y2, e9, nI_1]
        exact key
    · have c9 : zIc .gt (nI j) (nI n - nI j) := by
        show nI n - nI j < nI j
        rw [nI_iI, nI_iI, iI_sub, iI_lt (by omega) (by omega) (by omega) (by omega)]
        omega
      have fin : zFo (va_up w f (zOb 0 [.int (nI n), .ref g])) f g n (fun i => n - ld (n - i)) ∧ ∀ a, a ≠ f → a ≠ g → va_up w f (zOb 0 [.int (nI n), .ref g]) a = w0 a := ⟨⟨led, zIs.s hf.1, hg.n (Ne.symm hfg), fun i hi => hl i hi (by omega), h1, h5, fun i hi => Nat.sub_le _ _⟩, fun a q1 q2 => by rw [zup_ne q1]; exact hw a q1 q2⟩
      rcases hL with rfl | ⟨q, rfl⟩
      · skip
        refine zV.run kX0_becomeTurned 4 rfl ?_
        refine zV.ict kX0_becomeTurned (cd := .gt) rfl (c9) ?_
        refine zV.run kX0_becomeTurned 2 rfl ?_
        refine zV.pfi kX0_becomeTurned rfl pX0_9 (hf) (Nat.le_of_ble_eq_true rfl) ?_
        exact zV.vret kX0_becomeTurned rfl rfl (⟨rfl, fin⟩)
      · omega
theorem o_becomeTurned (E : zE) {w : zWd} {f g n0 f' g' n : Nat} {ld0 ld : Nat → Nat} (h0 : zFo w f g n0 ld0) (h : zFo w f' g' n ld) (hfg : f ≠ g) (hfg2 : f' ≠ g) : zOk E mX0_becomeTurned 0 [.ref f, .ref f'] w (fun r w' => r = none ∧ zFo w' f g n (fun i => n - ld (n - i)) ∧ ∀ a, a ≠ f → a ≠ g → w' a = w a) := by
  obtain ⟨led0, hf0, hg0, -, -, -, -⟩ := h0
  obtain ⟨led, hf, hg, hl, h1, h5, hb⟩ := h
  refine zOk.of (by decide +kernel) (Nat.le_of_ble_eq_true rfl) ?_
  refine zV.run kX0_becomeTurned 1 rfl ?_
  refine zV.gf kX0_becomeTurned rfl fX0_9 (hf) rfl ?_
  refine zV.run kX0_becomeTurned 3 rfl ?_
  exact o_turned_l E h1 h5 hb hfg hfg2 (n + 1) 0 w led0 led 0 0 0 (by omega) ⟨_, hf0⟩ ⟨_, hf⟩ hg0 hg (fun i hi q => by omega) (fun i _ q => hl i (by omega)) (fun _ _ _ => rfl) _ (Or.inr ⟨rfl, rfl⟩)
/-! ===== Fold: the twisted order ===== -/
def two (n : Nat) (ld : Nat → Nat) (b dd : Int) : Nat → Bool → Int → Int → Int
  | 0, _, _, _ => 0
  | k + 1, t, x, y => if spn n x b = spn n y dd then (if sl ld (spn n x b) = 0 then 0 else two n ld b dd k (if sl ld (spn n x b) < 0 then !t else t) (stp n ld b x) (stp n ld dd y)) else if decide (spn n x b < spn n y dd) = t then 1 else -1
def tws (t : Bool) : Int32 := if t = true then 1 else -1
theorem o_twisted_l (E : zE) {w : zWd} {f g n : Nat} {ld : Nat → Nat} (h : zFo w f g n ld) {b dd : Int} (hb : 0 < b) (hb2 : b ≤ 100000) (hd : 0 < dd) (hd2 : dd ≤ 100000) (a c : Int64) {k : Nat} (hk : k ≤ 1000) : ∀ (r i : Nat) (t : Bool) (x y : Int) (z1 z2 z3 : Int32), i + r = k → 0 ≤ x → x ≤ n * b → 0 ≤ y → y ≤ n * dd → ∀ L, (L = [.ref f, .long a, zU, .long (lI b), zU, .long c, zU, .long (lI dd), zU, .int (nI k), .int (tws t), .long (lI x), zU, .long (lI y), zU, .int (nI i), zU, zU, zU] ∨ L = [.ref f, .long a, zU, .long (lI b), zU, .long c, zU, .long (lI dd), zU, .int (nI k), .int (tws t), .long (lI x), zU, .long (lI y), zU, .int (nI i), .int z1, .int z2, .int z3]) → zV E mX0_twistedOrder 3 (zR0 w (.int (iI (two n ld b dd r t x y)))) 13 L [] w := by
  obtain ⟨led, hf, hg, hl, h1, h5, hlb⟩ := id h
  intro r
  induction r with
  | zero =>
    intro i t x y z1 z2 z3 hi hx hx2 hy hy2 L hL
    have e : i = k := by omega
    subst e
    rcases hL with rfl | rfl
    · skip
      refine zV.run kX0_twistedOrder 2 rfl ?_
      refine zV.ict kX0_twistedOrder (cd := .ge) rfl (Int32.le_refl _) ?_
      refine zV.run kX0_twistedOrder 1 rfl ?_
      exact zV.iret kX0_twistedOrder rfl rfl (⟨rfl, rfl⟩)
    · skip
      refine zV.run kX0_twistedOrder 2 rfl ?_
      refine zV.ict kX0_twistedOrder (cd := .ge) rfl (Int32.le_refl _) ?_
      refine zV.run kX0_twistedOrder 1 rfl ?_
      exact zV.iret kX0_twistedOrder rfl rfl (⟨rfl, rfl⟩)
  | succ r ih =>
    intro i t x y z1 z2 z3 hi hx hx2 hy hy2 L hL
    have s1 := spn_lt h1 x b
    have s2 := spn_lt h1 y dd
    have b1 := sl_rg h5 hlb s1
    have r1 := stp_rg h1 hlb hb hx hx2
    have r2 := stp_rg h1 hlb hd hy hy2
    have key : zV E mX0_twistedOrder 3 (zR0 w (.int (iI (two n ld b dd (r + 1) t x y)))) 39 [.ref f, .long a, zU, .long (lI b), zU, .long c, zU, .long (lI dd), zU, .int (nI k), .int (tws t), .long (lI x), zU, .long (lI y), zU, .int (nI i), .int (nI (spn n x b)), .int (nI (spn n y dd)), zU] [] w ∧ ∀ z3 : Int32, zV E mX0_twistedOrder 3 (zR0 w (.int (iI (two n ld b dd (r + 1) t x y)))) 39 [.ref f, .long a, zU, .long (lI b), zU, .long c, zU, .long (lI dd), zU, .int (nI k), .int (tws t), .long (lI x), zU, .long (lI y), zU, .int (nI i), .int (nI (spn n x b)), .int (nI (spn n y dd)), .int z3] [] w := by
      have k0 : ∀ v : Value, (v = zU ∨ ∃ z3, v = .int z3) → zV E mX0_twistedOrder 3 (zR0 w (.int (iI (two n ld b dd (r + 1) t x y)))) 39 [.ref f, .long a, zU, .long (lI b), zU, .long c, zU, .long (lI dd), zU, .int (nI k), .int (tws t), .long (lI x), zU, .long (lI y), zU, .int (nI i), .int (nI (spn n x b)), .int (nI (spn n y dd)), v] [] w := by
        intro v hv
        refine zV.run kX0_twistedOrder 2 rfl ?_
        refine zV.ic2 kX0_twistedOrder rfl (fun c1 => ?_) (fun c1 => ?_)
        · skip
          have c1 := (nI_eq (by omega) (by omega)).mp c1
          refine zV.run kX0_twistedOrder 2 rfl ?_
          refine zV.cv kX0_twistedOrder rfl lX0_34 (o_slopeOf E h s1) (by decide) rfl (hf) rfl rfl rfl (Nat.le_of_ble_eq_true rfl) ?_
          rintro _ _ ⟨rfl, rfl⟩
          refine zV.run kX0_twistedOrder 2 rfl ?_
          refine zV.if2 kX0_twistedOrder rfl (fun c2 => ?_) (fun c2 => ?_)
          · skip
            have c2 : ¬ sl ld (spn n x b) = 0 := fun q => c2 (by rw [q]; rfl)
            have e : two n ld b dd (r + 1) t x y = two n ld b dd r (if sl ld (spn n x b) < 0 then !t else t) (stp n ld b x) (stp n ld dd y) := by
              show (if spn n x b = spn n y dd then _ else _) = _
              rw [if_pos c1, if_neg c2]
            rw [e]
            refine zV.run kX0_twistedOrder 1 rfl ?_
            refine zV.if2 kX0_twistedOrder rfl (fun c3 => ?_) (fun c3 => ?_)
            · skip
              have c3 := (iI_le (a := 0) (b := sl ld (spn n x b)) (by omega) (by omega) (by omega) (by omega)).mp c3
              rw [if_neg (by omega)]
              refine zV.run kX0_twistedOrder 5 rfl ?_
              refine zV.cv kX0_twistedOrder rfl lX0_38 (o_step E h hb hb2 hx hx2) (by decide) rfl (hf) rfl rfl rfl (Nat.le_of_ble_eq_true rfl) ?_
              rintro _ _ ⟨rfl, rfl⟩
              refine zV.run kX0_twistedOrder 4 rfl ?_
              refine zV.cv kX0_twistedOrder rfl lX0_38 (o_step E h hd hd2 hy hy2) (by decide) rfl (hf) rfl rfl rfl (Nat.le_of_ble_eq_true rfl) ?_
              rintro _ _ ⟨rfl, rfl⟩
              refine zV.run kX0_twistedOrder 3 rfl ?_
              rw [nI_1]
              exact ih (i + 1) t _ _ _ _ _ (by omega) r1.1 r1.2 r2.1 r2.2 _ (Or.inr rfl)
            · skip
              have c3 := mt (iI_le (a := 0) (b := sl ld (spn n x b)) (by omega) (by omega) (by omega) (by omega)).mpr c3
              rw [if_pos (by omega)]
              refine zV.run kX0_twistedOrder 7 rfl ?_
              refine zV.cv kX0_twistedOrder rfl lX0_38 (o_step E h hb hb2 hx hx2) (by decide) rfl (hf) rfl rfl rfl (Nat.le_of_ble_eq_true rfl) ?_
              rintro _ _ ⟨rfl, rfl⟩
              refine zV.run kX0_twistedOrder 4 rfl ?_
              refine zV.cv kX0_twistedOrder rfl lX0_38 (o_step E h hd hd2 hy hy2) (by decide) rfl (hf) rfl rfl rfl (Nat.le_of_ble_eq_true rfl) ?_
              rintro _ _ ⟨rfl, rfl⟩
              refine zV.run kX0_twistedOrder 3 rfl ?_
              rw [nI_1, show -tws t = tws (!t) by cases t <;> decide]
              exact ih (i + 1) (!t) _ _ _ _ _ (by omega) r1.1 r1.2 r2.1 r2.2 _ (Or.inr rfl)
          · skip
            have c2 := (iI_eq (a := sl ld (spn n x b)) (b := 0) (by omega) (by omega) (by omega) (by omega)).mp (Decidable.not_not.mp c2)
            have e : two n ld b dd (r + 1) t x y = 0 := by
              show (if spn n x b = spn n y dd then _ else _) = _
              rw [if_pos c1, if_pos c2]
            refine zV.run kX0_twistedOrder 1 rfl ?_
            exact zV.iret kX0_twistedOrder rfl rfl (⟨by rw [e]; rfl, rfl⟩)
        · skip
          have c1 := mt (nI_eq (a := spn n x b) (b := spn n y dd) (by omega) (by omega)).mpr c1
          have e : two n ld b dd (r + 1) t x y = if decide (spn n x b < spn n y dd) = t then 1 else -1 := by
            show (if spn n x b = spn n y dd then _ else _) = _
            rw [if_neg c1]
          rw [e]
          refine zV.run kX0_twistedOrder 2 rfl ?_
          refine zV.ic2 kX0_twistedOrder rfl (fun c2 => ?_) (fun c2 => ?_)
          · skip
            have c2 := (nI_leI (by omega) (by omega)).mp c2
            have e2 : decide (spn n x b < spn n y dd) = false := decide_eq_false (by omega)
            rw [e2]
            refine zV.run kX0_twistedOrder 2 rfl ?_
            exact zV.iret kX0_twistedOrder rfl rfl (⟨by cases t <;> rfl, rfl⟩)
          · skip
            have c2 := mt (nI_leI (a := spn n y dd) (b := spn n x b) (by omega) (by omega)).mpr c2
            have e2 : decide (spn n x b < spn n y dd) = true := decide_eq_true (by omega)
            rw [e2]
            refine zV.run kX0_twistedOrder 2 rfl ?_
            exact zV.iret kX0_twistedOrder rfl rfl (⟨by cases t <;> rfl, rfl⟩)
      exact ⟨k0 zU (Or.inl rfl), fun z => k0 _ (Or.inr ⟨z, rfl⟩)⟩
    rcases hL with rfl | rfl
    · skip
      refine zV.run kX0_twistedOrder 2 rfl ?_
      refine zV.icf kX0_twistedOrder (cd := .ge) rfl (nI_ge (by omega) (by omega)) ?_
      refine zV.run kX0_twistedOrder 3 rfl ?_
      refine zV.cv kX0_twistedOrder rfl lX0_30 (o_spanOf E h hb hb2 hx hx2) (by decide) rfl (hf) rfl rfl rfl (Nat.le_of_ble_eq_true rfl) ?_
      rintro _ _ ⟨rfl, rfl⟩
      refine zV.run kX0_twistedOrder 4 rfl ?_
      refine zV.cv kX0_twistedOrder rfl lX0_30 (o_spanOf E h hd hd2 hy hy2) (by decide) rfl (hf) rfl rfl rfl (Nat.le_of_ble_eq_true rfl) ?_
      rintro _ _ ⟨rfl, rfl⟩
      refine zV.run kX0_twistedOrder 1 rfl ?_
      exact key.1
    · skip
      refine zV.run kX0_twistedOrder 2 rfl ?_
      refine zV.icf kX0_twistedOrder (cd := .ge) rfl (nI_ge (by omega) (by omega)) ?_
      refine zV.run kX0_twistedOrder 3 rfl ?_
      refine zV.cv kX0_twistedOrder rfl lX0_30 (o_spanOf E h hb hb2 hx hx2) (by decide) rfl (hf) rfl rfl rfl (Nat.le_of_ble_eq_true rfl) ?_
      rintro _ _ ⟨rfl, rfl⟩
      refine zV.run kX0_twistedOrder 4 rfl ?_
      refine zV.cv kX0_twistedOrder rfl lX0_30 (o_spanOf E h hd hd2 hy hy2) (by decide) rfl (hf) rfl rfl rfl (Nat.le_of_ble_eq_true rfl) ?_
      rintro _ _ ⟨rfl, rfl⟩
      refine zV.run kX0_twistedOrder 1 rfl ?_
      exact key.2 z3
theorem o_twisted (E : zE) {w : zWd} {f g n : Nat} {ld : Nat → Nat} (h : zFo w f g n ld) {a b c dd : Int} (hb : 0 < b) (hb2 : b ≤ 100000) (hd : 0 < dd) (hd2 : dd ≤ 100000) {k : Nat} (hk : k ≤ 1000) (ha : 0 ≤ a) (ha2 : a ≤ n * b) (hc : 0 ≤ c) (hc2 : c ≤ n * dd) : zOk E mX0_twistedOrder 3 [.ref f, .long (lI a), .long (lI b), .long (lI c), .long (lI dd), .int (nI k)] w (zR0 w (.int (iI (two n ld b dd k false a c)))) := by
  refine zOk.of (by decide +kernel) (Nat.le_of_ble_eq_true rfl) ?_
  refine zV.run kX0_twistedOrder 8 rfl ?_
  exact o_twisted_l E h hb hb2 hd hd2 (lI a) (lI c) hk k 0 false a c 0 0 0 (by omega) ha ha2 hc hc2 _ (Or.inl rfl)
end
section
/-! ===== SpanMaps: what is static ===== -/
theorem o_isMap (E : zE) (w : zWd) (m : Int32) : zOk E mX3_isMap 0 [.int m] w (zR0 w (.int (zq (0 ≤ m.toInt ∧ m.toInt < 8)))) := by
  refine zOk.of (by decide +kernel) (Nat.le_of_ble_eq_true rfl) ?_
  refine zV.run kX3_isMap 1 rfl ?_
  refine zV.if2 kX3_isMap rfl (fun c => ?_) (fun c => ?_)
  · skip
    have c : m.toInt < 0 := i32_lt.mp c
    refine zV.run kX3_isMap 1 rfl ?_
    exact zV.zret kX3_isMap rfl rfl (Or.inl rfl) (⟨by rw [zq_f]; omega, rfl⟩)
  · skip
    have c : 0 ≤ m.toInt := i32_le.mp (Int32.not_lt.mp c)
    refine zV.run kX3_isMap 2 rfl ?_
    refine zV.ic2 kX3_isMap rfl (fun c2 => ?_) (fun c2 => ?_)
    · skip
      have c2 : 8 ≤ m.toInt := i32_le.mp c2
      refine zV.run kX3_isMap 1 rfl ?_
      exact zV.zret kX3_isMap rfl rfl (Or.inl rfl) (⟨by rw [zq_f]; omega, rfl⟩)
    · skip
      have c2 : m.toInt < 8 := i32_lt.mp (Int32.not_le.mp c2)
      refine zV.run kX3_isMap 2 rfl ?_
      exact zV.zret kX3_isMap rfl rfl (Or.inr rfl) (⟨by rw [zq_t]; omega, rfl⟩)
theorem o_isTerm (E : zE) (w : zWd) (m : Int32) : zOk E mX3_isTerm 0 [.int m] w (zR0 w (.int (zq (m = 0 ∨ m = 1)))) := by
  refine zOk.of (by decide +kernel) (Nat.le_of_ble_eq_true rfl) ?_
  refine zV.run kX3_isTerm 1 rfl ?_
  refine zV.if2 kX3_isTerm rfl (fun c => ?_) (fun c => ?_)
  · skip
    have c : m = 0 := c
    refine zV.run kX3_isTerm 2 rfl ?_
    exact zV.zret kX3_isTerm rfl rfl (Or.inr rfl) (⟨by rw [zq_t (Or.inl c)], rfl⟩)
  · skip
    have c : ¬ m = 0 := c
    refine zV.run kX3_isTerm 2 rfl ?_
    refine zV.ic2 kX3_isTerm rfl (fun c2 => ?_) (fun c2 => ?_)
    · skip
      have c2 : ¬ m = 1 := c2
      refine zV.run kX3_isTerm 1 rfl ?_
      exact zV.zret kX3_isTerm rfl rfl (Or.inl rfl) (⟨by rw [zq_f (fun q => q.elim c c2)], rfl⟩)
    · skip
      have c2 : m = 1 := Decidable.not_not.mp c2
      refine zV.run kX3_isTerm 2 rfl ?_
      exact zV.zret kX3_isTerm rfl rfl (Or.inr rfl) (⟨by rw [zq_t (Or.inr c2)], rfl⟩)
theorem o_isStepCount (E : zE) (w : zWd) (m : Int32) : zOk E mX3_isStepCount 0 [.int m] w (zR0 w (.int (zq (0 ≤ m.toInt ∧ m.toInt ≤ 1000)))) := by
  refine zOk.of (by decide +kernel) (Nat.le_of_ble_eq_true rfl) ?_
  refine zV.run kX3_isStepCount 1 rfl ?_
  refine zV.if2 kX3_isStepCount rfl (fun c => ?_) (fun c => ?_)
  · skip
    have c : m.toInt < 0 := i32_lt.mp c
    refine zV.run kX3_isStepCount 1 rfl ?_
    exact zV.zret kX3_isStepCount rfl rfl (Or.inl rfl) (⟨by rw [zq_f]; omega, rfl⟩)
  · skip
    have c : 0 ≤ m.toInt := i32_le.mp (Int32.not_lt.mp c)
    refine zV.run kX3_isStepCount 2 rfl ?_
    refine zV.ic2 kX3_isStepCount rfl (fun c2 => ?_) (fun c2 => ?_)
    · skip
      have c2 : 1000 < m.toInt := i32_lt.mp c2
      refine zV.run kX3_isStepCount 1 rfl ?_
      exact zV.zret kX3_isStepCount rfl rfl (Or.inl rfl) (⟨by rw [zq_f]; omega, rfl⟩)
    · skip
      have c2 : m.toInt ≤ 1000 := i32_le.mp (Int32.not_lt.mp c2)
      refine zV.run kX3_isStepCount 2 rfl ?_
      exact zV.zret kX3_isStepCount rfl rfl (Or.inr rfl) (⟨by rw [zq_t]; omega, rfl⟩)
theorem o_isWayLength (E : zE) (w : zWd) (m : Int32) : zOk E mX3_isWayLength 0 [.int m] w (zR0 w (.int (zq (0 ≤ m.toInt ∧ m.toInt ≤ 10)))) := by
  refine zOk.of (by decide +kernel) (Nat.le_of_ble_eq_true rfl) ?_
  refine zV.run kX3_isWayLength 1 rfl ?_
  refine zV.if2 kX3_isWayLength rfl (fun c => ?_) (fun c => ?_)
  · skip
    have c : m.toInt < 0 := i32_lt.mp c
    refine zV.run kX3_isWayLength 1 rfl ?_
    exact zV.zret kX3_isWayLength rfl rfl (Or.inl rfl) (⟨by rw [zq_f]; omega, rfl⟩)
  · skip
    have c : 0 ≤ m.toInt := i32_le.mp (Int32.not_lt.mp c)
    refine zV.run kX3_isWayLength 2 rfl ?_
    refine zV.ic2 kX3_isWayLength rfl (fun c2 => ?_) (fun c2 => ?_)
    · skip
      have c2 : 10 < m.toInt := i32_lt.mp c2
      refine zV.run kX3_isWayLength 1 rfl ?_
      exact zV.zret kX3_isWayLength rfl rfl (Or.inl rfl) (⟨by rw [zq_f]; omega, rfl⟩)
    · skip
      have c2 : m.toInt ≤ 10 := i32_le.mp (Int32.not_lt.mp c2)
      refine zV.run kX3_isWayLength 2 rfl ?_
      exact zV.zret kX3_isWayLength rfl rfl (Or.inr rfl) (⟨by rw [zq_t]; omega, rfl⟩)
theorem o_isRoundLength (E : zE) (w : zWd) (m : Int32) : zOk E mX3_isRoundLength 0 [.int m] w (zR0 w (.int (zq (1 ≤ m.toInt ∧ m.toInt ≤ 6)))) := by
  refine zOk.of (by decide +kernel) (Nat.le_of_ble_eq_true rfl) ?_
  refine zV.run kX3_isRoundLength 2 rfl ?_
  refine zV.ic2 kX3_isRoundLength rfl (fun c => ?_) (fun c => ?_)
  · skip
    have c : m.toInt < 1 := i32_lt.mp c
    refine zV.run kX3_isRoundLength 1 rfl ?_
    exact zV.zret kX3_isRoundLength rfl rfl (Or.inl rfl) (⟨by rw [zq_f]; omega, rfl⟩)
  · skip
    have c : 1 ≤ m.toInt := i32_le.mp (Int32.not_lt.mp c)
    refine zV.run kX3_isRoundLength 2 rfl ?_
    refine zV.ic2 kX3_isRoundLength rfl (fun c2 => ?_) (fun c2 => ?_)
    · skip
      have c2 : 6 < m.toInt := i32_lt.mp c2
      refine zV.run kX3_isRoundLength 1 rfl ?_
      exact zV.zret kX3_isRoundLength rfl rfl (Or.inl rfl) (⟨by rw [zq_f]; omega, rfl⟩)
    · skip
      have c2 : m.toInt ≤ 6 := i32_le.mp (Int32.not_lt.mp c2)
      refine zV.run kX3_isRoundLength 2 rfl ?_
      exact zV.zret kX3_isRoundLength rfl rfl (Or.inr rfl) (⟨by rw [zq_t]; omega, rfl⟩)
theorem o_isForcing (E : zE) (w : zWd) (m : Int32) : zOk E mX3_isForcing 0 [.int m] w (zR0 w (.int (zq (1 ≤ m.toInt ∧ m.toInt ≤ 64)))) := by
  refine zOk.of (by decide +kernel) (Nat.le_of_ble_eq_true rfl) ?_
  refine zV.run kX3_isForcing 2 rfl ?_
  refine zV.ic2 kX3_isForcing rfl (fun c => ?_) (fun c => ?_)
  · skip
    have c : m.toInt < 1 := i32_lt.mp c
    refine zV.run kX3_isForcing 1 rfl ?_
    exact zV.zret kX3_isForcing rfl rfl (Or.inl rfl) (⟨by rw [zq_f]; omega, rfl⟩)
  · skip
    have c : 1 ≤ m.toInt := i32_le.mp (Int32.not_lt.mp c)
    refine zV.run kX3_isForcing 2 rfl ?_
    refine zV.ic2 kX3_isForcing rfl (fun c2 => ?_) (fun c2 => ?_)
    · skip
      have c2 : 64 < m.toInt := i32_lt.mp c2
      refine zV.run kX3_isForcing 1 rfl ?_
      exact zV.zret kX3_isForcing rfl rfl (Or.inl rfl) (⟨by rw [zq_f]; omega, rfl⟩)
    · skip
      have c2 : m.toInt ≤ 64 := i32_le.mp (Int32.not_lt.mp c2)
      refine zV.run kX3_isForcing 2 rfl ?_
      exact zV.zret kX3_isForcing rfl rfl (Or.inr rfl) (⟨by rw [zq_t]; omega, rfl⟩)
theorem o_divides (E : zE) (w : zWd) {d k : Nat} (hd : d < 1000) (hk : k < 1000) : zOk E mX3_divides 0 [.int (nI d), .int (nI k)] w (zR0 w (.int (zq (0 < d ∧ k % d = 0)))) := by
  refine zOk.of (by decide +kernel) (Nat.le_of_ble_eq_true rfl) ?_
  refine zV.run kX3_divides 1 rfl ?_
  refine zV.if2 kX3_divides rfl (fun c => ?_) (fun c => ?_)
  · skip
    have c := (nI_leI (a := d) (b := 0) (by omega) (by omega)).mp c
    refine zV.run kX3_divides 1 rfl ?_
    exact zV.zret kX3_divides rfl rfl (Or.inl rfl) (⟨by rw [zq_f]; omega, rfl⟩)
  · skip
    have c := mt (nI_leI (a := d) (b := 0) (by omega) (by omega)).mpr c
    refine zV.run kX3_divides 2 rfl ?_
    refine zV.irem kX3_divides rfl (nI_ne0 (by omega) (by omega)) ?_
    rw [pk_rem (by omega) (by omega) (by omega)]
    have hm : k % d < d := Nat.mod_lt _ (by omega)
    refine zV.if2 kX3_divides rfl (fun c2 => ?_) (fun c2 => ?_)
    · skip
      have c2 : ¬ k % d = 0 := fun q => c2 (by rw [q]; rfl)
      refine zV.run kX3_divides 1 rfl ?_
      exact zV.zret kX3_divides rfl rfl (Or.inl rfl) (⟨by rw [zq_f (fun q => c2 q.2)], rfl⟩)
    · skip
      have c2 := (nI_eq (a := k % d) (b := 0) (by omega) (by omega)).mp (Decidable.not_not.mp c2)
      refine zV.run kX3_divides 2 rfl ?_
      exact zV.zret kX3_divides rfl rfl (Or.inr rfl) (⟨by rw [zq_t ⟨by omega, c2⟩], rfl⟩)
-- Euclid
def euc : Nat → Nat → Nat → Nat
  | 0, x, _ => x
  | f + 1, x, y => if y = 0 then x else euc f y (x % y)
theorem euc_gcd : ∀ (m f x y : Nat), y < 2 ^ m → 2 * m ≤ f → euc f x y = Nat.gcd x y
  | 0, f, x, y, hy, hf => by
    have e : y = 0 := by omega
    subst e
    cases f with
    | zero => simp [euc]
    | succ f => simp [euc]
  | m + 1, f, x, y, hy, hf => by
    obtain ⟨f2, rfl⟩ : ∃ f2, f = f2 + 2 := ⟨f - 2, by omega⟩
    by_cases h0 : y = 0
    · subst h0; simp [euc]
    · have g1 : Nat.gcd x y = Nat.gcd y (x % y) := by
        rw [Nat.gcd_comm x y, Nat.gcd_rec y x, Nat.gcd_comm]
      have r1 : x % y < y := Nat.mod_lt _ (by omega)
      show (if y = 0 then x else euc (f2 + 1) y (x % y)) = _
      rw [if_neg h0, g1]
      by_cases h1 : x % y = 0
      · rw [h1]; simp [euc]
      · have g2 : Nat.gcd y (x % y) = Nat.gcd (x % y) (y % (x % y)) := by
          rw [Nat.gcd_comm y, Nat.gcd_rec (x % y) y, Nat.gcd_comm]
        show (if x % y = 0 then y else euc f2 (x % y) (y % (x % y))) = _
        rw [if_neg h1, g2]
        refine euc_gcd m f2 _ _ ?_ (by omega)
        generalize x % y = r at *
        have r2 : y % r < r := Nat.mod_lt _ (by omega)
        have r3 : y % r + r ≤ y := by
          have e9 := Nat.div_add_mod y r
          have d1 : 1 ≤ y / r := (Nat.le_div_iff_mul_le (by omega)).mpr (by omega)
          have := Nat.mul_le_mul_left r d1
          omega
        rw [Nat.pow_succ] at hy
        omega
theorem o_commonDivisor_l (E : zE) (w : zWd) (a b : Int64) : ∀ (r i x y : Nat), i + r = 100 → x < 2 ^ 48 → y < 2 ^ 48 → ∀ v u, (v = zU ∨ ∃ z, v = .long z) → u = zU → zV E mX3_commonDivisor 0 (zR0 w (.long (lN (euc r x y)))) 9 [.long a, zU, .long b, zU, .long (lN x), zU, .long (lN y), zU, .int (nI i), v, u] [] w := by
  intro r
  induction r with
  | zero =>
    intro i x y hi hx hy v u hv hu
    subst hu
    have e : i = 100 := by omega
    subst e
    refine zV.run kX3_commonDivisor 2 rfl ?_
    refine zV.ict kX3_commonDivisor (cd := .ge) rfl (Int32.le_refl _) ?_
    refine zV.run kX3_commonDivisor 1 rfl ?_
    exact zV.lret kX3_commonDivisor rfl rfl (⟨rfl, rfl⟩)
  | succ r ih =>
    intro i x y hi hx hy v u hv hu
    subst hu
    refine zV.run kX3_commonDivisor 2 rfl ?_
    refine zV.icf kX3_commonDivisor (cd := .ge) rfl (fun q => absurd ((nI_leI (a := 100) (b := i) (by omega) (by omega)).mp q) (by omega)) ?_
    refine zV.run kX3_commonDivisor 2 rfl ?_
    refine zV.il2 kX3_commonDivisor rfl rfl (fun c => ?_) (fun c => ?_)
    · skip
      have c := (pk_lEQ (a := y) (b := 0) (by omega) (by omega)).mp c
      refine zV.run kX3_commonDivisor 1 rfl ?_
      exact zV.lret kX3_commonDivisor rfl rfl (⟨by show _ = some (Value.long (lN (if y = 0 then x else _))); rw [if_pos c], rfl⟩)
    · skip
      have c : ¬ y = 0 := fun q => c (by rw [q]; rfl)
      refine zV.run kX3_commonDivisor 2 rfl ?_
      refine zV.lrem kX3_commonDivisor rfl (fun q => c ((pk_lEQ (a := y) (b := 0) (by omega) (by omega)).mp q)) ?_
      rw [pk_lRem (by omega) (by omega) (by omega)]
      refine zV.run kX3_commonDivisor 7 rfl ?_
      rw [nI_1]
      have hm : x % y < y := Nat.mod_lt _ (by omega)
      have e : euc (r + 1) x y = euc r y (x % y) := if_neg c
      rw [e]
      exact ih (i + 1) y (x % y) (by omega) hy (by omega) _ _ (Or.inr ⟨_, rfl⟩) rfl
theorem o_commonDivisor (E : zE) (w : zWd) {a b : Nat} (ha : a < 2 ^ 48) (hb : b < 2 ^ 48) : zOk E mX3_commonDivisor 0 [.long (lN a), .long (lN b)] w (zR0 w (.long (lN (Nat.gcd a b)))) := by
  refine zOk.of (by decide +kernel) (Nat.le_of_ble_eq_true rfl) ?_
  refine zV.run kX3_commonDivisor 6 rfl ?_
  have K := o_commonDivisor_l E w (lN a) (lN b) 100 0 a b (by omega) ha hb zU zU (Or.inl rfl) rfl
  rw [euc_gcd 48 100 a b hb (by omega)] at K
  exact K
theorem o_lowestTerm (E : zE) (w : zWd) {a b : Nat} (ha : a < 2 ^ 48) (hb : b < 2 ^ 48) (hb0 : 0 < b) (what : Int32) : zOk E mX3_lowestTerm 1 [.long (lN a), .long (lN b), .int what] w (zR0 w (.long (lN ((if what = 0 then a else b) / Nat.gcd a b)))) := by
  have hg0 : 0 < Nat.gcd a b := Nat.gcd_pos_of_pos_right _ hb0
  have hgb : Nat.gcd a b ≤ b := Nat.gcd_le_right _ hb0
  have hne : ¬ lN (Nat.gcd a b) = 0 := fun q => absurd ((pk_lEQ (a := Nat.gcd a b) (b := 0) (by omega) (by omega)).mp q) (by omega)
  refine zOk.of (by decide +kernel) (Nat.le_of_ble_eq_true rfl) ?_
  refine zV.run kX3_lowestTerm 2 rfl ?_
  refine zV.cs kX3_lowestTerm rfl lX3_176 (o_commonDivisor E w ha hb) (by decide) rfl rfl (Nat.le_of_ble_eq_true rfl) ?_
  rintro _ _ ⟨rfl, rfl⟩
  refine zV.run kX3_lowestTerm 3 rfl ?_
  refine zV.ilt kX3_lowestTerm (cd := .ne) rfl rfl (hne) ?_
  refine zV.run kX3_lowestTerm 1 rfl ?_
  refine zV.if2 kX3_lowestTerm rfl (fun c => ?_) (fun c => ?_)
  · skip
    have c : ¬ what = 0 := c
    refine zV.run kX3_lowestTerm 2 rfl ?_
    refine zV.ldiv kX3_lowestTerm rfl (hne) ?_
    rw [pk_lDiv (by omega) hg0 (by omega)]
    exact zV.lret kX3_lowestTerm rfl rfl (⟨by rw [if_neg c], rfl⟩)
  · skip
    have c : what = 0 := Decidable.not_not.mp c
    refine zV.run kX3_lowestTerm 3 rfl ?_
    refine zV.ldiv kX3_lowestTerm rfl (hne) ?_
    rw [pk_lDiv (by omega) hg0 (by omega)]
    exact zV.lret kX3_lowestTerm rfl rfl (⟨by rw [if_pos c], rfl⟩)
-- the order of forcing
def oddf : Nat → Nat → Nat
  | 0, o => o
  | f + 1, o => if o % 2 = 0 then oddf f (o / 2) else o
def cah (p q : Nat) : Bool :=
  if oddf 64 p = 1 ∧ oddf 64 q = 1 then decide (q < p)
  else if oddf 64 p = 1 ∨ oddf 64 q = 1 then decide (oddf 64 q = 1)
  else if p / oddf 64 p = q / oddf 64 q then decide (oddf 64 p < oddf 64 q) else decide (p / oddf 64 p < q / oddf 64 q)
theorem oddf_le : ∀ f o, oddf f o ≤ o
  | 0, o => Nat.le_refl _
  | f + 1, o => by
    unfold oddf
    split
    · have := oddf_le f (o / 2); omega
    · omega
theorem bt_two : ∀ p, p < 65 → 0 < p → nI p &&& -nI p = nI (p / oddf 64 p) := by decide +kernel
theorem o_oddPart_l (E : zE) (w : zWd) (p : Int32) : ∀ (r i o : Nat), i + r = 64 → o < 1000 → zV E mX3_oddPart 0 (zR0 w (.int (nI (oddf r o)))) 4 [.int p, .int (nI o), .int (nI i)] [] w := by
  intro r
  induction r with
  | zero =>
    intro i o hi ho
    have e : i = 64 := by omega
    subst e
    refine zV.run kX3_oddPart 2 rfl ?_
    refine zV.ict kX3_oddPart (cd := .ge) rfl (Int32.le_refl _) ?_
    refine zV.run kX3_oddPart 1 rfl ?_
    exact zV.iret kX3_oddPart rfl rfl (⟨rfl, rfl⟩)
  | succ r ih =>
    intro i o hi ho
    have e2 : nI o / 2 = nI (o / 2) := pk_div (d := 2) (by omega) (by decide) (by decide)
    have e3 : nI o - nI o / 2 * 2 = nI (o % 2) := pk_rem (d := 2) (by omega) (by decide) (by decide)
    refine zV.run kX3_oddPart 2 rfl ?_
    refine zV.icf kX3_oddPart (cd := .ge) rfl (fun q => absurd ((nI_leI (a := 64) (b := i) (by omega) (by omega)).mp q) (by omega)) ?_
    refine zV.run kX3_oddPart 2 rfl ?_
    refine zV.irem kX3_oddPart rfl (by decide) ?_
    rw [e3]
    refine zV.if2 kX3_oddPart rfl (fun c => ?_) (fun c => ?_)
    · skip
      have c : ¬ o % 2 = 0 := fun q => c (by rw [q]; rfl)
      have e : oddf (r + 1) o = o := if_neg c
      refine zV.run kX3_oddPart 1 rfl ?_
      exact zV.iret kX3_oddPart rfl rfl (⟨by rw [e], rfl⟩)
    · skip
      have c := (nI_eq (a := o % 2) (b := 0) (by omega) (by omega)).mp (Decidable.not_not.mp c)
      have e : oddf (r + 1) o = oddf r (o / 2) := if_pos c
      refine zV.run kX3_oddPart 2 rfl ?_
      refine zV.idiv kX3_oddPart rfl (by decide) ?_
      rw [e2]
      refine zV.run kX3_oddPart 3 rfl ?_
      rw [nI_1, e]
      exact ih (i + 1) (o / 2) (by omega) (by omega)
theorem o_oddPart (E : zE) (w : zWd) {p : Nat} (hp : p < 1000) : zOk E mX3_oddPart 0 [.int (nI p)] w (zR0 w (.int (nI (oddf 64 p)))) := by
  refine zOk.of (by decide +kernel) (Nat.le_of_ble_eq_true rfl) ?_
  refine zV.run kX3_oddPart 4 rfl ?_
  exact o_oddPart_l E w (nI p) 64 0 p (by omega) hp
theorem o_comesAhead (E : zE) (w : zWd) {p q : Nat} (hp : p < 65) (hp0 : 0 < p) (hq : q < 65) (hq0 : 0 < q) : zOk E mX3_comesAhead 1 [.int (nI p), .int (nI q)] w (zR0 w (.int (zq (cah p q = true)))) := by
  have o1 := oddf_le 64 p
  have o2 := oddf_le 64 q
  have t1 := bt_two p hp hp0
  have t2 := bt_two q hq hq0
  have d1 : p / oddf 64 p ≤ p := Nat.div_le_self _ _
  have d2 : q / oddf 64 q ≤ q := Nat.div_le_self _ _
  have n1 : ∀ x, x < 65 → (nI x = 1 ↔ x = 1) := fun x hx => nI_eq (a := x) (b := 1) (by omega) (by omega)
  refine zOk.of (by decide +kernel) (Nat.le_of_ble_eq_true rfl) ?_
  refine zV.run kX3_comesAhead 1 rfl ?_
  refine zV.cs kX3_comesAhead rfl lX3_179 (o_oddPart E w (by omega)) (by decide) rfl rfl (Nat.le_of_ble_eq_true rfl) ?_
  rintro _ _ ⟨rfl, rfl⟩
  refine zV.run kX3_comesAhead 2 rfl ?_
  refine zV.cs kX3_comesAhead rfl lX3_179 (o_oddPart E w (by omega)) (by decide) rfl rfl (Nat.le_of_ble_eq_true rfl) ?_
  rintro _ _ ⟨rfl, rfl⟩
  have part2 : ¬ (oddf 64 p = 1 ∧ oddf 64 q = 1) → zV E mX3_comesAhead 1 (zR0 w (.int (zq (cah p q = true)))) 31 [.int (nI p), .int (nI q), .int (nI (oddf 64 p)), .int (nI (oddf 64 q)), zU, zU] [] w := by
    intro hn
    have part3 : (oddf 64 p = 1 ∨ oddf 64 q = 1) → zV E mX3_comesAhead 1 (zR0 w (.int (zq (cah p q = true)))) 41 [.int (nI p), .int (nI q), .int (nI (oddf 64 p)), .int (nI (oddf 64 q)), zU, zU] [] w := by
      intro hy
      have e : cah p q = decide (oddf 64 q = 1) := by unfold cah; rw [if_neg hn, if_pos hy]
      rw [e]
      refine zV.run kX3_comesAhead 2 rfl ?_
      refine zV.ic2 kX3_comesAhead rfl (fun c => ?_) (fun c => ?_)
      · skip
        have c := mt (n1 (oddf 64 q) (by omega)).mpr c
        refine zV.run kX3_comesAhead 1 rfl ?_
        exact zV.zret kX3_comesAhead rfl rfl (Or.inl rfl) (⟨by rw [zq_f]; simpa using c, rfl⟩)
      · skip
        have c := (n1 (oddf 64 q) (by omega)).mp (Decidable.not_not.mp c)
        refine zV.run kX3_comesAhead 2 rfl ?_
        exact zV.zret kX3_comesAhead rfl rfl (Or.inr rfl) (⟨by rw [zq_t]; simpa using c, rfl⟩)
    refine zV.run kX3_comesAhead 2 rfl ?_
    refine zV.ic2 kX3_comesAhead rfl (fun c => ?_) (fun c => ?_)
    · skip
      have c := (n1 (oddf 64 p) (by omega)).mp c
      exact part3 (Or.inl c)
    · skip
      have c := mt (n1 (oddf 64 p) (by omega)).mpr c
      refine zV.run kX3_comesAhead 2 rfl ?_
      refine zV.ic2 kX3_comesAhead rfl (fun c2 => ?_) (fun c2 => ?_)
      · skip
        have c2 := mt (n1 (oddf 64 q) (by omega)).mpr c2
        have e : cah p q = if p / oddf 64 p = q / oddf 64 q then decide (oddf 64 p < oddf 64 q) else decide (p / oddf 64 p < q / oddf 64 q) := by unfold cah; rw [if_neg hn, if_neg (fun z => z.elim c c2)]
        rw [e]
        refine zV.run kX3_comesAhead 12 rfl ?_
        rw [t1, t2]
        refine zV.ic2 kX3_comesAhead rfl (fun c3 => ?_) (fun c3 => ?_)
        · skip
          have c3 := mt (nI_eq (a := p / oddf 64 p) (b := q / oddf 64 q) (by omega) (by omega)).mpr c3
          rw [if_neg c3]
          refine zV.run kX3_comesAhead 2 rfl ?_
          refine zV.ic2 kX3_comesAhead rfl (fun c4 => ?_) (fun c4 => ?_)
          · skip
            have c4 := (nI_leI (by omega) (by omega)).mp c4
            refine zV.run kX3_comesAhead 1 rfl ?_
            exact zV.zret kX3_comesAhead rfl rfl (Or.inl rfl) (⟨by rw [zq_f]; simp; omega, rfl⟩)
          · skip
            have c4 := mt (nI_leI (a := q / oddf 64 q) (b := p / oddf 64 p) (by omega) (by omega)).mpr c4
            refine zV.run kX3_comesAhead 2 rfl ?_
            exact zV.zret kX3_comesAhead rfl rfl (Or.inr rfl) (⟨by rw [zq_t]; simp; omega, rfl⟩)
        · skip
          have c3 := (nI_eq (by omega) (by omega)).mp (Decidable.not_not.mp c3)
          rw [if_pos c3]
          refine zV.run kX3_comesAhead 2 rfl ?_
          refine zV.ic2 kX3_comesAhead rfl (fun c4 => ?_) (fun c4 => ?_)
          · skip
            have c4 := (nI_leI (by omega) (by omega)).mp c4
            refine zV.run kX3_comesAhead 2 rfl ?_
            exact zV.zret kX3_comesAhead rfl rfl (Or.inl rfl) (⟨by rw [zq_f]; simp; omega, rfl⟩)
          · skip
            have c4 := mt (nI_leI (a := oddf 64 q) (b := oddf 64 p) (by omega) (by omega)).mpr c4
            refine zV.run kX3_comesAhead 2 rfl ?_
            exact zV.zret kX3_comesAhead rfl rfl (Or.inr rfl) (⟨by rw [zq_t]; simp; omega, rfl⟩)
      · skip
        have c2 := (n1 (oddf 64 q) (by omega)).mp (Decidable.not_not.mp c2)
        exact part3 (Or.inr c2)
  refine zV.run kX3_comesAhead 3 rfl ?_
  refine zV.ic2 kX3_comesAhead rfl (fun c => ?_) (fun c => ?_)
  · skip
    have c := mt (n1 (oddf 64 p) (by omega)).mpr c
    exact part2 (fun z => c z.1)
  · skip
    have c := (n1 (oddf 64 p) (by omega)).mp (Decidable.not_not.mp c)
    refine zV.run kX3_comesAhead 2 rfl ?_
    refine zV.ic2 kX3_comesAhead rfl (fun c2 => ?_) (fun c2 => ?_)
    · skip
      have c2 := mt (n1 (oddf 64 q) (by omega)).mpr c2
      exact part2 (fun z => c2 z.2)
    · skip
      have c2 := (n1 (oddf 64 q) (by omega)).mp (Decidable.not_not.mp c2)
      have e : cah p q = decide (q < p) := by unfold cah; rw [if_pos ⟨c, c2⟩]
      rw [e]
      refine zV.run kX3_comesAhead 2 rfl ?_
      refine zV.ic2 kX3_comesAhead rfl (fun c3 => ?_) (fun c3 => ?_)
      · skip
        have c3 := (nI_leI (by omega) (by omega)).mp c3
        refine zV.run kX3_comesAhead 1 rfl ?_
        exact zV.zret kX3_comesAhead rfl rfl (Or.inl rfl) (⟨by rw [zq_f]; simp; omega, rfl⟩)
      · skip
        have c3 := mt (nI_leI (a := p) (b := q) (by omega) (by omega)).mpr c3
        refine zV.run kX3_comesAhead 2 rfl ?_
        exact zV.zret kX3_comesAhead rfl rfl (Or.inr rfl) (⟨by rw [zq_t]; simp; omega, rfl⟩)
end
section
/-! ===== Powers ===== -/
theorem zV.mono {E : zE} {M : zM} {d : Nat} {P Q : Option Value → zWd → Prop} {pc : Nat} {L st : List Value} {w : zWd} (h : ∀ r w, P r w → Q r w) (k : zV E M d P pc L st w) : zV E M d Q pc L st w := by
  intro hI p e s m args below meth c H locs ls X hP hS hL T hT Y
  obtain ⟨t, a, o, b1, b2, ⟨⟨r, w', c1, c2, c3⟩, c4⟩, b4⟩ := k hI p e s m args below meth c H locs ls X hP hS hL T hT Y
  exact ⟨t, a, o, b1, b2, ⟨⟨r, w', c1, h r w' c2, c3⟩, c4⟩, b4⟩
def sumN (n : Nat) (f : Nat → Nat) : Nat := match n with
  | 0 => 0
  | n + 1 => sumN n f + f n
def tp (n : Nat) (ld : Nat → Nat) : Nat → Nat → Nat → Nat
  | 0, i, j => if i = j then 1 else 0
  | k + 1, i, j => sumN n (fun b => if cov ld i b = true then tp n ld k b j else 0)
def zPw (w : zWd) (P s : Nat) (rw : Nat → Nat → Int64) : Prop := zIs w P (zOb 1 [.ref (P + 1), .int (nI s)]) ∧ (∃ f, zIs w (P + 1) (zRA 4 11 f) ∧ ∀ j, j < 11 → f j = some (P + 2 + j)) ∧ ∀ j, j < 11 → zIs w (P + 2 + j) (zLA 25 (rw j))
theorem zPw.row {w : zWd} {P s k : Nat} {rw : Nat → Nat → Int64} {g : Nat → Int64} (h : zPw w P s rw) (hk : k < 11) : zPw (va_up w (P + 2 + k) (zLA 25 g)) P s (fun j => if j = k then g else rw j) := by
  obtain ⟨h1, ⟨f, h2, h3⟩, h4⟩ := h
  refine ⟨h1.n (by omega), ⟨f, h2.n (by omega), h3⟩, fun j hj => ?_⟩
  by_cases e : j = k
  · subst e
    simp only [if_true]
    exact zIs.s (h4 j hj).1
  · simp only [e, if_false]
    exact (h4 j hj).n (by omega)
theorem zFo.n {w : zWd} {f g n a : Nat} {ld : Nat → Nat} {c : va_E} (h : zFo w f g n ld) (hf : f ≠ a) (hg : g ≠ a) : zFo (va_up w a c) f g n ld := by
  obtain ⟨led, q1, q2, q3⟩ := h
  exact ⟨led, q1.n hf, q2.n hg, q3⟩
theorem zFo.k {w w' : zWd} {f g n : Nat} {ld : Nat → Nat} (h : zFo w f g n ld) (hf : w' f = w f) (hg : w' g = w g) : zFo w' f g n ld := by
  obtain ⟨led, q1, q2, q3⟩ := h
  exact ⟨led, ⟨q1.1, hf.trans q1.2⟩, ⟨q2.1, hg.trans q2.2⟩, q3⟩
theorem zIs.k {w w' : zWd} {a : Nat} {c : va_E} (h : zIs w a c) (hf : w' a = w a) : zIs w' a c := ⟨h.1, hf.trans h.2⟩
theorem updL_s {f : Nat → Int64} {k : Nat} {x : Int64} : vp_updL f k x k = x := pk_uLs
theorem ix5 {i j : Nat} : nI i * 5 + nI j = nI (5 * i + j) := by
  rw [show (5 : Int32) = nI 5 from rfl, pk_mul, nI_add, Nat.mul_comm]
theorem o_between (E : zE) {w : zWd} {P s : Nat} {rw : Nat → Nat → Int64} (h : zPw w P s rw) {i j k : Nat} (hi : i < 5) (hj : j < 5) (hk : k < 11) : zOk E mX1_between 0 [.ref P, .int (nI i), .int (nI j), .int (nI k)] w (zR0 w (.long (rw k (5 * i + j)))) := by
  obtain ⟨h1, ⟨f, h2, h3⟩, h4⟩ := h
  refine zOk.of (by decide +kernel) (Nat.le_of_ble_eq_true rfl) ?_
  refine zV.run kX1_between 1 rfl ?_
  refine zV.gf kX1_between rfl fX1_11 (h1) rfl ?_
  refine zV.run kX1_between 1 rfl ?_
  refine zV.aalL kX1_between rfl (h2) (k) (rfl) (hk) (by decide) (h3 k hk) ?_
  refine zV.run kX1_between 5 rfl ?_
  refine zV.lal kX1_between rfl (h4 k hk) (5 * i + j) (ix5) (by omega) (by decide) ?_
  exact zV.lret kX1_between rfl rfl (⟨rfl, rfl⟩)
theorem o_multiply_3 (E : zE) {w : zWd} {P f g n k i j : Nat} {ld : Nat → Nat} {rw : Nat → Nat → Int64} {Post : Option Value → zWd → Prop} (hF : zFo w f g n ld) (hW : zPw w P n rw) (hi : i < n) (hj : j < n) (hk : k < 10) (hr : ∀ b, b < n → rw k (5 * b + j) = lN (tp n ld k b j))
    (kk : zV E mX1_multiply 2 Post 73 [.ref P, .ref f, .int (nI (k + 1)), .int (nI i), .int (nI j), .long (lN (tp n ld (k + 1) i j)), zU, .int (nI n)] [] w) :
    ∀ (r b : Nat), b + r = n → zV E mX1_multiply 2 Post 28 [.ref P, .ref f, .int (nI (k + 1)), .int (nI i), .int (nI j), .long (lN (sumN b (fun b => if cov ld i b = true then tp n ld k b j else 0))), zU, .int (nI b)] [] w := by
  obtain ⟨led, hf, hg, hl, h1, h5, hb⟩ := id hF
  obtain ⟨w1, ⟨F, w2, w3⟩, w4⟩ := id hW
  intro r
  induction r with
  | zero =>
    intro b hb2
    have e : b = n := by omega
    subst e
    refine zV.run kX1_multiply 2 rfl ?_
    refine zV.gf kX1_multiply rfl fX1_16 (w1) rfl ?_
    refine zV.ict kX1_multiply (cd := .ge) rfl (Int32.le_refl _) ?_
    exact kk
  | succ r ih =>
    intro b hb2
    refine zV.run kX1_multiply 2 rfl ?_
    refine zV.gf kX1_multiply rfl fX1_16 (w1) rfl ?_
    refine zV.icf kX1_multiply (cd := .ge) rfl (nI_ge (by omega) (by omega)) ?_
    refine zV.run kX1_multiply 4 rfl ?_
    refine zV.cv kX1_multiply rfl lX1_29 (o_leadsOver E hF hi (j := b) (by omega)) (by decide) rfl (hf) rfl rfl rfl (Nat.le_of_ble_eq_true rfl) ?_
    rintro _ _ ⟨rfl, rfl⟩
    refine zV.if2 kX1_multiply rfl (fun c => ?_) (fun c => ?_)
    · skip
      have c := zq_eq0.mp c
      refine zV.run kX1_multiply 5 rfl ?_
      rw [show (0 : Int64) = lN 0 from rfl, lN_add, nI_1]
      have e : sumN (b + 1) (fun b => if cov ld i b = true then tp n ld k b j else 0) = sumN b (fun b => if cov ld i b = true then tp n ld k b j else 0) + 0 := by
        show _ + (if cov ld i b = true then tp n ld k b j else 0) = _
        rw [if_neg c]
      rw [← e]
      exact ih (b + 1) (by omega)
    · skip
      have c := Decidable.not_not.mp (mt zq_eq0.mpr c)
      refine zV.run kX1_multiply 6 rfl ?_
      rw [show nI (k + 1) - 1 = nI k from nI_pred k]
      refine zV.cv kX1_multiply rfl lX1_33 (o_between E hW (i := b) (j := j) (k := k) (by omega) (by omega) (by omega)) (by decide) rfl (w1) rfl rfl rfl (Nat.le_of_ble_eq_true rfl) ?_
      rintro _ _ ⟨rfl, rfl⟩
      refine zV.run kX1_multiply 5 rfl ?_
      rw [hr b (by omega), lN_add, nI_1]
      have e : sumN (b + 1) (fun b => if cov ld i b = true then tp n ld k b j else 0) = sumN b (fun b => if cov ld i b = true then tp n ld k b j else 0) + tp n ld k b j := by
        show _ + (if cov ld i b = true then tp n ld k b j else 0) = _
        rw [if_pos c]
      rw [← e]
      exact ih (b + 1) (by omega)
theorem o_multiply_2 (E : zE) {w0 : zWd} {P f g n k i : Nat} {ld : Nat → Nat} {rw : Nat → Nat → Int64} {Post : Option Value → zWd → Prop} (hF : zFo w0 f g n ld) (hW : zPw w0 P n rw) (hfP : f < P) (hgP : g < P) (hi : i < n) (hk : k < 10) (hr : ∀ a b, a < n → b < n → rw k (5 * a + b) = lN (tp n ld k a b))
    (kk : ∀ (G : Nat → Int64), (∀ a b, a < i + 1 → b < n → G (5 * a + b) = lN (tp n ld (k + 1) a b)) → ∀ z4 z5 z6 z7 : Value, zV E mX1_multiply 2 Post 94 [.ref P, .ref f, .int (nI (k + 1)), .int (nI i), z4, z5, z6, z7] [] (va_up w0 (P + 2 + (k + 1)) (zLA 25 G))) :
    ∀ (r j : Nat) (G : Nat → Int64) (z5 z6 z7 : Value), j + r = n → (∀ a b, (a < i ∨ (a = i ∧ b < j)) → b < n → G (5 * a + b) = lN (tp n ld (k + 1) a b)) → zV E mX1_multiply 2 Post 13 [.ref P, .ref f, .int (nI (k + 1)), .int (nI i), .int (nI j), z5, z6, z7] [] (va_up w0 (P + 2 + (k + 1)) (zLA 25 G)) := by
  obtain ⟨led, hf, hg, hl, h1, h5, hb⟩ := id hF
  intro r
  induction r with
  | zero =>
    intro j G z5 z6 z7 hj hG
    obtain ⟨w1, ⟨F, w2, w3⟩, w4⟩ := id (hW.row (k := k + 1) (g := G) (by omega))
    have e : j = n := by omega
    subst e
    refine zV.run kX1_multiply 2 rfl ?_
    refine zV.gf kX1_multiply rfl fX1_16 (w1) rfl ?_
    refine zV.ict kX1_multiply (cd := .ge) rfl (Int32.le_refl _) ?_
    exact kk G (fun a b ha hb2 => hG a b (by omega) hb2) _ _ _ _
  | succ r ih =>
    intro j G z5 z6 z7 hj hG
    have hW2 := hW.row (k := k + 1) (g := G) (by omega)
    have hF2 : zFo (va_up w0 (P + 2 + (k + 1)) (zLA 25 G)) f g n ld := hF.n (by omega) (by omega)
    obtain ⟨w1, ⟨F, w2, w3⟩, w4⟩ := id hW2
    refine zV.run kX1_multiply 2 rfl ?_
    refine zV.gf kX1_multiply rfl fX1_16 (w1) rfl ?_
    refine zV.icf kX1_multiply (cd := .ge) rfl (nI_ge (by omega) (by omega)) ?_
    refine zV.run kX1_multiply 4 rfl ?_
    refine o_multiply_3 E hF2 hW2 hi (j := j) (by omega) hk (fun b hb2 => ?_) ?_ n 0 (by omega)
    · simp only [show ¬ k = k + 1 by omega, if_false]
      exact hr b j hb2 (by omega)
    · have w4k := w4 (k + 1) (by omega)
      simp only [if_true] at w4k
      refine zV.run kX1_multiply 1 rfl ?_
      refine zV.gf kX1_multiply rfl fX1_11 (w1) rfl ?_
      refine zV.run kX1_multiply 1 rfl ?_
      refine zV.aalL kX1_multiply rfl (w2) (k + 1) (rfl) (by omega) (by decide) (w3 _ (by omega)) ?_
      refine zV.run kX1_multiply 6 rfl ?_
      refine zV.las kX1_multiply rfl (w4k) (5 * i + j) (ix5) (by omega) (by decide) ?_
      refine zV.run kX1_multiply 2 rfl ?_
      rw [nI_1, bx_uu]
      refine ih (j + 1) (vp_updL G (5 * i + j) (lN (tp n ld (k + 1) i j))) _ _ _ (by omega) (fun a b hab hb2 => ?_)
      by_cases e : 5 * a + b = 5 * i + j
      · have ea : a = i := by omega
        have eb : b = j := by omega
        rw [ea, eb, pk_uLs]
      · rw [pk_uLn e]
        exact hG a b (by omega) hb2
theorem o_multiply_1 (E : zE) {w0 : zWd} {P f g n k : Nat} {ld : Nat → Nat} {rw : Nat → Nat → Int64} (hF : zFo w0 f g n ld) (hW : zPw w0 P n rw) (hfP : f < P) (hgP : g < P) (hk : k < 10) (hr : ∀ a b, a < n → b < n → rw k (5 * a + b) = lN (tp n ld k a b)) :
    ∀ (r i : Nat) (G : Nat → Int64) (z4 z5 z6 z7 : Value), i + r = n → (∀ a b, a < i → b < n → G (5 * a + b) = lN (tp n ld (k + 1) a b)) → zV E mX1_multiply 2 (fun r w' => r = none ∧ ∃ G, w' = va_up w0 (P + 2 + (k + 1)) (zLA 25 G) ∧ ∀ a b, a < n → b < n → G (5 * a + b) = lN (tp n ld (k + 1) a b)) 2 [.ref P, .ref f, .int (nI (k + 1)), .int (nI i), z4, z5, z6, z7] [] (va_up w0 (P + 2 + (k + 1)) (zLA 25 G)) := by
  obtain ⟨led, hf, hg, hl, h1, h5, hb⟩ := id hF
  intro r
  induction r with
  | zero =>
    intro i G z4 z5 z6 z7 hi hG
    obtain ⟨w1, -, -⟩ := id (hW.row (k := k + 1) (g := G) (by omega))
    have e : i = n := by omega
    subst e
    refine zV.run kX1_multiply 2 rfl ?_
    refine zV.gf kX1_multiply rfl fX1_16 (w1) rfl ?_
    refine zV.ict kX1_multiply (cd := .ge) rfl (Int32.le_refl _) ?_
    exact zV.vret kX1_multiply rfl rfl (⟨rfl, G, rfl, hG⟩)
  | succ r ih =>
    intro i G z4 z5 z6 z7 hi hG
    obtain ⟨w1, -, -⟩ := id (hW.row (k := k + 1) (g := G) (by omega))
    refine zV.run kX1_multiply 2 rfl ?_
    refine zV.gf kX1_multiply rfl fX1_16 (w1) rfl ?_
    refine zV.icf kX1_multiply (cd := .ge) rfl (nI_ge (by omega) (by omega)) ?_
    refine zV.run kX1_multiply 2 rfl ?_
    refine o_multiply_2 E hF hW hfP hgP (i := i) (by omega) hk hr (fun G2 hG2 y4 y5 y6 y7 => ?_) n 0 G _ _ _ (by omega) (fun a b hab hb2 => hG a b (by omega) hb2)
    refine zV.run kX1_multiply 2 rfl ?_
    rw [nI_1]
    exact ih (i + 1) G2 _ _ _ _ (by omega) hG2
theorem o_multiply (E : zE) {w : zWd} {P f g n k : Nat} {ld : Nat → Nat} {rw : Nat → Nat → Int64} (hF : zFo w f g n ld) (hW : zPw w P n rw) (hfP : f < P) (hgP : g < P) (hk : k < 10) (hr : ∀ a b, a < n → b < n → rw k (5 * a + b) = lN (tp n ld k a b)) : zOk E mX1_multiply 2 [.ref P, .ref f, .int (nI (k + 1))] w (fun r w' => r = none ∧ ∃ G, w' = va_up w (P + 2 + (k + 1)) (zLA 25 G) ∧ ∀ a b, a < n → b < n → G (5 * a + b) = lN (tp n ld (k + 1) a b)) := by
  have e : va_up w (P + 2 + (k + 1)) (zLA 25 (rw (k + 1))) = w := by
    funext a
    by_cases q : a = P + 2 + (k + 1)
    · rw [q]; simp [va_up, (hW.2.2 (k + 1) (by omega)).2]
    · exact zup_ne q
  refine zOk.of (by decide +kernel) (Nat.le_of_ble_eq_true rfl) ?_
  refine zV.run kX1_multiply 2 rfl ?_
  have K := o_multiply_1 E hF hW hfP hgP hk hr n 0 (rw (k + 1)) zU zU zU zU (by omega) (fun a b ha => by omega)
  rw [e] at K
  exact K
theorem zsame {w : zWd} {a : Nat} {c : va_E} (h : zIs w a c) : va_up w a c = w := by
  funext b
  by_cases q : b = a
  · rw [q]; simp [va_up, h.2]
  · exact zup_ne q
theorem o_raise_3 (E : zE) {w0 : zWd} {P f g n mo : Nat} {ld : Nat → Nat} (hF0 : zFo w0 f g n ld) (hfP : f < P) (hgP : g < P) (hmo : mo ≤ 10) :
    ∀ (r k : Nat) (w : zWd) (rw : Nat → Nat → Int64) (z4 : Value), k + r = mo → zPw w P n rw → (∀ a, (a < P ∨ P + 13 ≤ a) → w a = w0 a) → (∀ q a b, q ≤ k → a < n → b < n → rw q (5 * a + b) = lN (tp n ld q a b)) → zV E mX1_raise 3 (fun r w' => r = none ∧ (∀ a, (a < P ∨ P + 13 ≤ a) → w' a = w0 a) ∧ ∃ rw, zPw w' P n rw ∧ ∀ q a b, q ≤ mo → a < n → b < n → rw q (5 * a + b) = lN (tp n ld q a b)) 68 [.ref P, .ref f, .int (nI mo), .int (nI (k + 1)), z4] [] w := by
  intro r
  induction r with
  | zero =>
    intro k w rw z4 hk hW hw hr
    have e : k = mo := by omega
    subst e
    refine zV.run kX1_raise 2 rfl ?_
    refine zV.ict kX1_raise (cd := .gt) rfl (nI_lt (by omega) (by omega)) ?_
    exact zV.vret kX1_raise rfl rfl (⟨rfl, hw, rw, hW, hr⟩)
  | succ r ih =>
    intro k w rw z4 hk hW hw hr
    have hF : zFo w f g n ld := hF0.k (hw f (by omega)) (hw g (by omega))
    refine zV.run kX1_raise 2 rfl ?_
    refine zV.icf kX1_raise (cd := .gt) rfl (nI_nlt (by omega) (by omega)) ?_
    refine zV.run kX1_raise 2 rfl ?_
    refine zV.icf kX1_raise (cd := .gt) rfl (fun q => absurd ((nI_ltI (a := 10) (b := k + 1) (by omega) (by omega)).mp q) (by omega)) ?_
    refine zV.run kX1_raise 3 rfl ?_
    refine zV.cv kX1_raise rfl lX1_25 (o_multiply E hF hW hfP hgP (k := k) (by omega) (fun a b => hr k a b (Nat.le_refl k))) (by decide) rfl (hW.1) rfl rfl rfl (Nat.le_of_ble_eq_true rfl) ?_
    rintro _ w9 ⟨rfl, G, e9, hG⟩
    refine zV.run kX1_raise 2 rfl ?_
    rw [nI_1]
    refine ih (k + 1) w9 (fun j => if j = k + 1 then G else rw j) _ (by omega) (by rw [e9]; exact hW.row (by omega)) (fun a ha => by rw [e9, zup_ne (by omega)]; exact hw a ha) (fun q a b hq ha hb => ?_)
    by_cases e : q = k + 1
    · simp only [e, if_true]; exact hG a b ha hb
    · simp only [e, if_false]; exact hr q a b (by omega) ha hb
theorem o_raise_2 (E : zE) {w0 : zWd} {P n i : Nat} {mo : Nat} {f : Nat} {rw : Nat → Nat → Int64} {Post : Option Value → zWd → Prop} (hW : zPw w0 P n rw) (hi : i < n) (hn : n ≤ 5)
    (kk : ∀ (G : Nat → Int64), (∀ a b, a < i + 1 → b < n → G (5 * a + b) = lN (if a = b then 1 else 0)) → ∀ z4 : Value, zV E mX1_raise 3 Post 60 [.ref P, .ref f, .int (nI mo), .int (nI i), z4] [] (va_up w0 (P + 2 + 0) (zLA 25 G))) :
    ∀ (r j : Nat) (G : Nat → Int64), j + r = n → (∀ a b, (a < i ∨ (a = i ∧ b < j)) → b < n → G (5 * a + b) = lN (if a = b then 1 else 0)) → zV E mX1_raise 3 Post 21 [.ref P, .ref f, .int (nI mo), .int (nI i), .int (nI j)] [] (va_up w0 (P + 2 + 0) (zLA 25 G)) := by
  intro r
  induction r with
  | zero =>
    intro j G hj hG
    obtain ⟨w1, ⟨F, w2, w3⟩, w4⟩ := id (hW.row (k := 0) (g := G) (by omega))
    have e : j = n := by omega
    subst e
    refine zV.run kX1_raise 2 rfl ?_
    refine zV.gf kX1_raise rfl fX1_16 (w1) rfl ?_
    refine zV.ict kX1_raise (cd := .ge) rfl (Int32.le_refl _) ?_
    exact kk G (fun a b ha hb2 => hG a b (by omega) hb2) _
  | succ r ih =>
    intro j G hj hG
    obtain ⟨w1, ⟨F, w2, w3⟩, w4⟩ := id (hW.row (k := 0) (g := G) (by omega))
    have w4k := w4 0 (by omega)
    simp only [if_true] at w4k
    refine zV.run kX1_raise 2 rfl ?_
    refine zV.gf kX1_raise rfl fX1_16 (w1) rfl ?_
    refine zV.icf kX1_raise (cd := .ge) rfl (nI_ge (by omega) (by omega)) ?_
    refine zV.run kX1_raise 1 rfl ?_
    refine zV.gf kX1_raise rfl fX1_11 (w1) rfl ?_
    refine zV.run kX1_raise 1 rfl ?_
    refine zV.aalL kX1_raise rfl (w2) (0) (rfl) (by omega) (by decide) (w3 _ (by omega)) ?_
    have hx : ∀ x : Int64, x = lN (if i = j then 1 else 0) → zV E mX1_raise 3 Post 21 [.ref P, .ref f, .int (nI mo), .int (nI i), .int (nI (j + 1))] [] (va_up w0 (P + 2 + 0) (zLA 25 (vp_updL G (5 * i + j) x))) := by
      intro x ex
      refine ih (j + 1) _ (by omega) (fun a b hab hb2 => ?_)
      by_cases e : 5 * a + b = 5 * i + j
      · have ea : a = i := by omega
        have eb : b = j := by omega
        rw [ea, eb, pk_uLs, ex]
      · rw [pk_uLn e]
        exact hG a b (by omega) hb2
    refine zV.run kX1_raise 7 rfl ?_
    refine zV.ic2 kX1_raise rfl (fun c => ?_) (fun c => ?_)
    · skip
      have c := mt (nI_eq (a := i) (b := j) (by omega) (by omega)).mpr c
      refine zV.run kX1_raise 1 rfl ?_
      refine zV.las kX1_raise rfl (w4k) (5 * i + j) (ix5) (by omega) (by decide) ?_
      refine zV.run kX1_raise 2 rfl ?_
      rw [nI_1, bx_uu]
      exact hx 0 (by rw [if_neg c]; rfl)
    · skip
      have c := (nI_eq (by omega) (by omega)).mp (Decidable.not_not.mp c)
      refine zV.run kX1_raise 2 rfl ?_
      refine zV.las kX1_raise rfl (w4k) (5 * i + j) (ix5) (by omega) (by decide) ?_
      refine zV.run kX1_raise 2 rfl ?_
      rw [nI_1, bx_uu]
      exact hx 1 (by rw [if_pos c]; rfl)
theorem o_raise_1 (E : zE) {w0 : zWd} {P f g n mo : Nat} {ld : Nat → Nat} {rw : Nat → Nat → Int64} (hF : zFo w0 f g n ld) (hW : zPw w0 P n rw) (hfP : f < P) (hgP : g < P) (hmo : mo ≤ 10) :
    ∀ (r i : Nat) (G : Nat → Int64) (z4 : Value), i + r = n → (∀ a b, a < i → b < n → G (5 * a + b) = lN (if a = b then 1 else 0)) → zV E mX1_raise 3 (fun r w' => r = none ∧ (∀ a, (a < P ∨ P + 13 ≤ a) → w' a = w0 a) ∧ ∃ rw, zPw w' P n rw ∧ ∀ q a b, q ≤ mo → a < n → b < n → rw q (5 * a + b) = lN (tp n ld q a b)) 10 [.ref P, .ref f, .int (nI mo), .int (nI i), z4] [] (va_up w0 (P + 2 + 0) (zLA 25 G)) := by
  obtain ⟨led, hf, hg, hl, h1, h5, hb⟩ := id hF
  intro r
  induction r with
  | zero =>
    intro i G z4 hi hG
    have hW2 := hW.row (k := 0) (g := G) (by omega)
    have e : i = n := by omega
    subst e
    refine zV.run kX1_raise 2 rfl ?_
    refine zV.gf kX1_raise rfl fX1_16 (hW2.1) rfl ?_
    refine zV.ict kX1_raise (cd := .ge) rfl (Int32.le_refl _) ?_
    refine zV.run kX1_raise 2 rfl ?_
    refine o_raise_3 E hF hfP hgP hmo mo 0 _ _ _ (by omega) hW2 (fun a ha => zup_ne (by omega)) (fun q a b hq ha hb2 => ?_)
    have e : q = 0 := by omega
    subst e
    simp only [if_true]
    exact hG a b ha hb2
  | succ r ih =>
    intro i G z4 hi hG
    have hW2 := hW.row (k := 0) (g := G) (by omega)
    refine zV.run kX1_raise 2 rfl ?_
    refine zV.gf kX1_raise rfl fX1_16 (hW2.1) rfl ?_
    refine zV.icf kX1_raise (cd := .ge) rfl (nI_ge (by omega) (by omega)) ?_
    refine zV.run kX1_raise 2 rfl ?_
    refine o_raise_2 E hW (i := i) (by omega) h5 (fun G2 hG2 y4 => ?_) n 0 G (by omega) (fun a b hab hb2 => hG a b (by omega) hb2)
    refine zV.run kX1_raise 2 rfl ?_
    rw [nI_1]
    exact ih (i + 1) G2 _ (by omega) hG2
theorem o_raise (E : zE) {w : zWd} {P f g n mo s : Nat} {ld : Nat → Nat} {rw : Nat → Nat → Int64} (hF : zFo w f g n ld) (hW : zPw w P s rw) (hfP : f < P) (hgP : g < P) (hmo : mo ≤ 10) : zOk E mX1_raise 3 [.ref P, .ref f, .int (nI mo)] w (fun r w' => r = none ∧ (∀ a, (a < P ∨ P + 13 ≤ a) → w' a = w a) ∧ ∃ rw, zPw w' P n rw ∧ ∀ q a b, q ≤ mo → a < n → b < n → rw q (5 * a + b) = lN (tp n ld q a b)) := by
  obtain ⟨led, hf, hg, hl, h1, h5, hb⟩ := id hF
  obtain ⟨w1, ⟨F, w2, w3⟩, w4⟩ := id hW
  refine zOk.of (by decide +kernel) (Nat.le_of_ble_eq_true rfl) ?_
  refine zV.run kX1_raise 2 rfl ?_
  refine zV.gf kX1_raise rfl fX1_20 (hf) rfl ?_
  refine zV.pfi kX1_raise rfl pX1_16 (w1) (Nat.le_of_ble_eq_true rfl) ?_
  refine zV.run kX1_raise 2 rfl ?_
  have hW2 : zPw (va_up w P (zOb 1 [.ref (P + 1), .int (nI n)])) P n rw := ⟨zIs.s w1.1, ⟨F, w2.n (by omega), w3⟩, fun j hj => (w4 j hj).n (by omega)⟩
  have K := o_raise_1 E (hF.n (a := P) (c := zOb 1 [.ref (P + 1), .int (nI n)]) (by omega) (by omega)) hW2 hfP hgP hmo n 0 (rw 0) zU (by omega) (fun a b ha => by omega)
  rw [zsame (hW2.2.2 0 (by omega))] at K
  refine zV.mono (fun r w' hp => ⟨hp.1, fun a ha => ?_, hp.2.2⟩) K
  rw [hp.2.1 a ha, zup_ne (by omega)]
theorem o_sumJ (E : zE) {w : zWd} {P n k i : Nat} {rw : Nat → Nat → Int64} {t : Nat → Nat → Nat} {Post : Option Value → zWd → Prop} (hW : zPw w P n rw) (hn : n ≤ 5) (hk : k < 11) (hi : i < n) (hr : ∀ a b, a < n → b < n → rw k (5 * a + b) = lN (t a b)) (s : Nat)
    (kk : zV E mX1_sum 1 Post 44 [.ref P, .int (nI k), .long (lN (s + sumN n (t i))), zU, .int (nI i), .int (nI n)] [] w) :
    ∀ (r j : Nat), j + r = n → zV E mX1_sum 1 Post 17 [.ref P, .int (nI k), .long (lN (s + sumN j (t i))), zU, .int (nI i), .int (nI j)] [] w := by
  intro r
  induction r with
  | zero =>
    intro j hj
    have e : j = n := by omega
    subst e
    refine zV.run kX1_sum 2 rfl ?_
    refine zV.gf kX1_sum rfl fX1_16 (hW.1) rfl ?_
    refine zV.ict kX1_sum (cd := .ge) rfl (Int32.le_refl _) ?_
    exact kk
  | succ r ih =>
    intro j hj
    refine zV.run kX1_sum 2 rfl ?_
    refine zV.gf kX1_sum rfl fX1_16 (hW.1) rfl ?_
    refine zV.icf kX1_sum (cd := .ge) rfl (nI_ge (by omega) (by omega)) ?_
    refine zV.run kX1_sum 5 rfl ?_
    refine zV.cv kX1_sum rfl lX1_33 (o_between E hW (i := i) (j := j) (k := k) (by omega) (by omega) hk) (by decide) rfl (hW.1) rfl rfl rfl (Nat.le_of_ble_eq_true rfl) ?_
    rintro _ _ ⟨rfl, rfl⟩
    refine zV.run kX1_sum 4 rfl ?_
    rw [hr i j hi (by omega), lN_add, nI_1, Nat.add_assoc]
    exact ih (j + 1) (by omega)
theorem o_sumI (E : zE) {w : zWd} {P n k : Nat} {rw : Nat → Nat → Int64} {t : Nat → Nat → Nat} (hW : zPw w P n rw) (hn : n ≤ 5) (hk : k < 11) (hr : ∀ a b, a < n → b < n → rw k (5 * a + b) = lN (t a b)) :
    ∀ (r i : Nat) (z5 : Value), i + r = n → zV E mX1_sum 1 (zR0 w (.long (lN (sumN n (fun i => sumN n (t i)))))) 5 [.ref P, .int (nI k), .long (lN (sumN i (fun i => sumN n (t i)))), zU, .int (nI i), z5] [] w := by
  intro r
  induction r with
  | zero =>
    intro i z5 hi
    have e : i = n := by omega
    subst e
    refine zV.run kX1_sum 2 rfl ?_
    refine zV.gf kX1_sum rfl fX1_16 (hW.1) rfl ?_
    refine zV.ict kX1_sum (cd := .ge) rfl (Int32.le_refl _) ?_
    refine zV.run kX1_sum 1 rfl ?_
    exact zV.lret kX1_sum rfl rfl (⟨rfl, rfl⟩)
  | succ r ih =>
    intro i z5 hi
    refine zV.run kX1_sum 2 rfl ?_
    refine zV.gf kX1_sum rfl fX1_16 (hW.1) rfl ?_
    refine zV.icf kX1_sum (cd := .ge) rfl (nI_ge (by omega) (by omega)) ?_
    refine zV.run kX1_sum 2 rfl ?_
    refine o_sumJ E hW hn hk (i := i) (by omega) hr (sumN i (fun i => sumN n (t i))) ?_ n 0 (by omega)
    refine zV.run kX1_sum 2 rfl ?_
    rw [nI_1]
    exact ih (i + 1) _ (by omega)
theorem o_sum (E : zE) {w : zWd} {P n k : Nat} {rw : Nat → Nat → Int64} {t : Nat → Nat → Nat} (hW : zPw w P n rw) (hn : n ≤ 5) (hk : k < 11) (hr : ∀ a b, a < n → b < n → rw k (5 * a + b) = lN (t a b)) : zOk E mX1_sum 1 [.ref P, .int (nI k)] w (zR0 w (.long (lN (sumN n (fun i => sumN n (t i)))))) := by
  refine zOk.of (by decide +kernel) (Nat.le_of_ble_eq_true rfl) ?_
  refine zV.run kX1_sum 4 rfl ?_
  exact o_sumI E hW hn hk hr n 0 _ (by omega)
theorem o_closed_l (E : zE) {w : zWd} {P n k : Nat} {rw : Nat → Nat → Int64} {t : Nat → Nat → Nat} (hW : zPw w P n rw) (hn : n ≤ 5) (hk : k < 11) (hr : ∀ a b, a < n → b < n → rw k (5 * a + b) = lN (t a b)) :
    ∀ (r i : Nat), i + r = n → zV E mX1_closed 1 (zR0 w (.long (lN (sumN n (fun i => t i i))))) 5 [.ref P, .int (nI k), .long (lN (sumN i (fun i => t i i))), zU, .int (nI i)] [] w := by
  intro r
  induction r with
  | zero =>
    intro i hi
    have e : i = n := by omega
    subst e
    refine zV.run kX1_closed 2 rfl ?_
    refine zV.gf kX1_closed rfl fX1_16 (hW.1) rfl ?_
    refine zV.ict kX1_closed (cd := .ge) rfl (Int32.le_refl _) ?_
    refine zV.run kX1_closed 1 rfl ?_
    exact zV.lret kX1_closed rfl rfl (⟨rfl, rfl⟩)
  | succ r ih =>
    intro i hi
    refine zV.run kX1_closed 2 rfl ?_
    refine zV.gf kX1_closed rfl fX1_16 (hW.1) rfl ?_
    refine zV.icf kX1_closed (cd := .ge) rfl (nI_ge (by omega) (by omega)) ?_
    refine zV.run kX1_closed 5 rfl ?_
    refine zV.cv kX1_closed rfl lX1_33 (o_between E hW (i := i) (j := i) (k := k) (by omega) (by omega) hk) (by decide) rfl (hW.1) rfl rfl rfl (Nat.le_of_ble_eq_true rfl) ?_
    rintro _ _ ⟨rfl, rfl⟩
    refine zV.run kX1_closed 4 rfl ?_
    rw [hr i i (by omega) (by omega), lN_add, nI_1]
    exact ih (i + 1) (by omega)
theorem o_closed (E : zE) {w : zWd} {P n k : Nat} {rw : Nat → Nat → Int64} {t : Nat → Nat → Nat} (hW : zPw w P n rw) (hn : n ≤ 5) (hk : k < 11) (hr : ∀ a b, a < n → b < n → rw k (5 * a + b) = lN (t a b)) : zOk E mX1_closed 1 [.ref P, .int (nI k)] w (zR0 w (.long (lN (sumN n (fun i => t i i))))) := by
  refine zOk.of (by decide +kernel) (Nat.le_of_ble_eq_true rfl) ?_
  refine zV.run kX1_closed 4 rfl ?_
  exact o_closed_l E hW hn hk hr n 0 (by omega)
end
section
/-! ===== Returns: what is studied ===== -/
def epf (ld : Nat → Nat) (e : Nat) : Nat → Nat → Nat → Bool → Nat × Bool
  | 0, _, _, _ => (0, false)
  | r + 1, a, k, s => if sl ld (a / 2) = 0 then (0, false) else if nxe ld a = e then (k, s && decide (sl ld (a / 2) = 1 ∨ sl ld (a / 2) = -1)) else epf ld e r (nxe ld a) (k + 1) (s && decide (sl ld (a / 2) = 1 ∨ sl ld (a / 2) = -1))
def eps (ld : Nat → Nat) (e : Nat) : Nat × Bool := epf ld e 6 e 1 true
def trc (n : Nat) (ld : Nat → Nat) (k : Nat) : Nat := sumN n (fun i => tp n ld k i i)
def nwy (n : Nat) (ld : Nat → Nat) (k : Nat) : Int := match k with
  | 1 => trc n ld 1
  | 2 => (trc n ld 2 : Int) - trc n ld 1
  | 3 => (trc n ld 3 : Int) - trc n ld 1
  | 4 => (trc n ld 4 : Int) - trc n ld 2
  | 5 => (trc n ld 5 : Int) - trc n ld 1
  | 6 => (trc n ld 6 : Int) - trc n ld 3 - trc n ld 2 + trc n ld 1
  | _ => 0
def nsd (n : Nat) (ld : Nat → Nat) (k : Nat) : Nat → Int
  | 0 => 0
  | d + 1 => nsd n ld k d + (if 0 < d ∧ k % d = 0 then nwy n ld d else 0)
theorem nsd_nwy (n : Nat) (ld : Nat → Nat) {k : Nat} (h1 : 1 ≤ k) (h6 : k ≤ 6) : (trc n ld k : Int) - nsd n ld k k = nwy n ld k := by
  have hk : k = 1 ∨ k = 2 ∨ k = 3 ∨ k = 4 ∨ k = 5 ∨ k = 6 := by omega
  rcases hk with rfl | rfl | rfl | rfl | rfl | rfl <;> simp [nsd, nwy] <;> omega
theorem nxe_lt {n : Nat} {ld : Nat → Nat} (hb : ∀ i, i ≤ n → ld i ≤ n) {e : Nat} (he : e < 2 * n) (hs : sl ld (e / 2) ≠ 0) : nxe ld e < 2 * n := by
  have l1 := hb (e / 2) (by omega)
  have l2 := hb (e / 2 + 1) (by omega)
  have hsl : sl ld (e / 2) = (ld (e / 2 + 1) : Int) - (ld (e / 2) : Int) := rfl
  unfold nxe
  split <;> split <;> omega
def zRt (w : zWd) (s : Nat) (tq fa fb : Int64) (cp ep es : Nat → Int32) (nw : Nat → Int64) : Prop :=
  zIs w 31 (zOb 2 [.ref 32, .ref 45, .ref 46, .ref 47, .ref 48, .int (nI s), .long tq, .long fa, .long fb]) ∧ zIs w 45 (zIA 6 cp) ∧ zIs w 46 (zIA 10 ep) ∧ zIs w 47 (zZA 10 es) ∧ zIs w 48 (zLA 7 nw)
/-- nothing changes but the cells 31 .. 48 -/
def zFr (w w' : zWd) : Prop := ∀ a, (a < 31 ∨ 49 ≤ a) → w' a = w a
theorem zabs {x : Int} (h1 : -5 ≤ x) (h2 : x ≤ 5) : (if (0 : Int32) ≤ iI x then iI x else 0 - iI x) = 1 ↔ (x = 1 ∨ x = -1) := by
  rw [show (0 : Int32) = iI 0 from rfl]
  by_cases h : 0 ≤ x
  · rw [if_pos ((iI_le (a := 0) (b := x) (by omega) (by omega) (by omega) (by omega)).mpr h)]
    rw [show (1 : Int32) = iI 1 from rfl, iI_eq (by omega) (by omega) (by omega) (by omega)]
    omega
  · rw [if_neg (fun q => h ((iI_le (a := 0) (b := x) (by omega) (by omega) (by omega) (by omega)).mp q))]
    rw [show (1 : Int32) = iI 1 from rfl, iI_sub, iI_eq (by omega) (by omega) (by omega) (by omega)]
    omega
theorem o_studyEdge_l (E : zE) {w : zWd} {f g n s e : Nat} {ld : Nat → Nat} {tq fa fb : Int64} {cp ep es : Nat → Int32} {nw : Nat → Int64} (hF : zFo w f g n ld) (hR : zRt w s tq fa fb cp ep es nw) (he : e < 2 * n) (h0 : ep e = 0 ∧ es e = 0) : ∀ (r a k : Nat) (s : Bool) (z6 : Value), k + r = 7 → a < 2 * n → zV E mX2_studyEdge 2 (fun r' w' => r' = none ∧ w' = va_up (va_up w 46 (zIA 10 (upd ep e (nI (epf ld e r a k s).1)))) 47 (zZA 10 (upd es e (zq ((epf ld e r a k s).2 = true))))) 22 [.ref 31, .ref f, .int (nI e), .int (zq (s = true)), .int (nI a), .int (nI k), z6] [] w := by
  obtain ⟨led, hf, hg, hl, h1, h5, hb⟩ := id hF
  obtain ⟨r1, r2, r3, r4, r5⟩ := id hR
  have fin : w = va_up (va_up w 46 (zIA 10 (upd ep e (nI 0)))) 47 (zZA 10 (upd es e (zq (false = true)))) := by
    have e1 : upd ep e (nI 0) = ep := by
      funext x
      by_cases q : x = e
      · rw [q, pk_us, h0.1]; rfl
      · rw [pk_un q]
    have e2 : upd es e (zq (false = true)) = es := by
      funext x
      by_cases q : x = e
      · rw [q, pk_us, h0.2]; rfl
      · rw [pk_un q]
    rw [e1, e2, zsame r3, zsame r4]
  intro r
  induction r with
  | zero =>
    intro a k s z6 hk ha
    have e : k = 7 := by omega
    subst e
    refine zV.run kX2_studyEdge 2 rfl ?_
    refine zV.ict kX2_studyEdge (cd := .gt) rfl (show (6 : Int32) < nI 7 by decide) ?_
    exact zV.vret kX2_studyEdge rfl rfl (⟨rfl, fin⟩)
  | succ r ih =>
    intro a k s z6 hk ha
    have ea : nI a / 2 = nI (a / 2) := pk_div (d := 2) (by omega) (by decide) (by decide)
    have b1 := sl_rg h5 hb (i := a / 2) (by omega)
    refine zV.run kX2_studyEdge 2 rfl ?_
    refine zV.icf kX2_studyEdge (cd := .gt) rfl (fun q => absurd ((nI_ltI (a := 6) (b := k) (by omega) (by omega)).mp q) (by omega)) ?_
    refine zV.run kX2_studyEdge 3 rfl ?_
    refine zV.idiv kX2_studyEdge rfl (by decide) ?_
    rw [ea]
    refine zV.cv kX2_studyEdge rfl lX2_65 (o_slopeOf E hF (i := a / 2) (by omega)) (by decide) rfl (hf) rfl rfl rfl (Nat.le_of_ble_eq_true rfl) ?_
    rintro _ _ ⟨rfl, rfl⟩
    refine zV.run kX2_studyEdge 2 rfl ?_
    refine zV.if2 kX2_studyEdge rfl (fun c => ?_) (fun c => ?_)
    · skip
      have c : ¬ sl ld (a / 2) = 0 := fun q => c (by rw [q]; rfl)
      have hn := nxe_lt hb ha c
      have key : ∀ s' : Bool, s' = (s && decide (sl ld (a / 2) = 1 ∨ sl ld (a / 2) = -1)) → zV E mX2_studyEdge 2 (fun r' w' => r' = none ∧ w' = va_up (va_up w 46 (zIA 10 (upd ep e (nI (epf ld e (r + 1) a k s).1)))) 47 (zZA 10 (upd es e (zq ((epf ld e (r + 1) a k s).2 = true))))) 63 [.ref 31, .ref f, .int (nI e), .int (zq (s = true)), .int (nI a), .int (nI k), .int (iI (sl ld (a / 2)))] [.int (zq (s' = true))] w := by
        intro s' hs'
        refine zV.run kX2_studyEdge 3 rfl ?_
        refine zV.cv kX2_studyEdge rfl lX2_73 (o_nextEdge E hF ha c) (by decide) rfl (hf) rfl rfl rfl (Nat.le_of_ble_eq_true rfl) ?_
        rintro _ _ ⟨rfl, rfl⟩
        refine zV.run kX2_studyEdge 3 rfl ?_
        refine zV.ic2 kX2_studyEdge rfl (fun c2 => ?_) (fun c2 => ?_)
        · skip
          have c2 := mt (nI_eq (a := nxe ld a) (b := e) (by omega) (by omega)).mpr c2
          have ee : epf ld e (r + 1) a k s = epf ld e r (nxe ld a) (k + 1) s' := by
            show (if sl ld (a / 2) = 0 then _ else if nxe ld a = e then _ else _) = _
            rw [if_neg c, if_neg c2, hs']
          rw [ee]
          refine zV.run kX2_studyEdge 2 rfl ?_
          rw [nI_1]
          exact ih (nxe ld a) (k + 1) s' _ (by omega) hn
        · skip
          have c2 := (nI_eq (by omega) (by omega)).mp (Decidable.not_not.mp c2)
          have ee : epf ld e (r + 1) a k s = (k, s') := by
            show (if sl ld (a / 2) = 0 then _ else if nxe ld a = e then _ else _) = _
            rw [if_neg c, if_pos c2, hs']
          rw [ee]
          refine zV.run kX2_studyEdge 1 rfl ?_
          refine zV.gf kX2_studyEdge rfl fX2_22 (r1) rfl ?_
          refine zV.run kX2_studyEdge 2 rfl ?_
          refine zV.ias kX2_studyEdge rfl (r3) (e) (rfl) (by omega) (by decide) ?_
          refine zV.run kX2_studyEdge 1 rfl ?_
          refine zV.gf kX2_studyEdge rfl fX2_25 (r1.n (by decide)) rfl ?_
          refine zV.run kX2_studyEdge 2 rfl ?_
          refine zV.zas kX2_studyEdge rfl (zq01 _) (r4.n (by decide)) (e) (rfl) (by omega) (by decide) ?_
          exact zV.vret kX2_studyEdge rfl rfl (⟨rfl, rfl⟩)
      refine zV.run kX2_studyEdge 1 rfl ?_
      refine zV.if2 kX2_studyEdge rfl (fun c3 => ?_) (fun c3 => ?_)
      · skip
        have c3 := zq_eq0.mp c3
        refine zV.run kX2_studyEdge 1 rfl ?_
        exact key false (by rw [show s = false by simpa using c3]; rfl)
      · skip
        have c3 := Decidable.not_not.mp (mt zq_eq0.mpr c3)
        refine zV.run kX2_studyEdge 1 rfl ?_
        refine zV.abI kX2_studyEdge rfl lX2_68 (by decide) (Nat.le_of_ble_eq_true rfl) ?_
        refine zV.run kX2_studyEdge 1 rfl ?_
        refine zV.ic2 kX2_studyEdge rfl (fun c4 => ?_) (fun c4 => ?_)
        · skip
          have c4 := mt (zabs b1.1 b1.2).mpr c4
          refine zV.run kX2_studyEdge 1 rfl ?_
          exact key false (by rw [c3, decide_eq_false c4]; rfl)
        · skip
          have c4 := (zabs b1.1 b1.2).mp (Decidable.not_not.mp c4)
          refine zV.run kX2_studyEdge 2 rfl ?_
          exact key true (by rw [c3, decide_eq_true c4]; rfl)
    · skip
      have c := (iI_eq (a := sl ld (a / 2)) (b := 0) (by omega) (by omega) (by omega) (by omega)).mp (Decidable.not_not.mp c)
      have ee : epf ld e (r + 1) a k s = (0, false) := if_pos c
      rw [ee]
      exact zV.vret kX2_studyEdge rfl rfl (⟨rfl, fin⟩)
theorem upd_upd (f : Nat → Int32) (k : Nat) (x y : Int32) : upd (upd f k x) k y = upd f k y := by
  funext j
  by_cases q : j = k
  · rw [q, pk_us, pk_us]
  · rw [pk_un q, pk_un q, pk_un q]
theorem up_comm {w : zWd} {a b : Nat} {c d : va_E} (h : a ≠ b) : va_up (va_up w a c) b d = va_up (va_up w b d) a c := by
  funext x
  by_cases q : x = b
  · subst q; simp [va_up, Ne.symm h]
  · by_cases q2 : x = a
    · subst q2; simp [va_up, q]
    · simp [va_up, q, q2]
theorem o_studyEdge (E : zE) {w : zWd} {f g n s e : Nat} {ld : Nat → Nat} {tq fa fb : Int64} {cp ep es : Nat → Int32} {nw : Nat → Int64} (hF : zFo w f g n ld) (hf31 : f < 31) (hg31 : g < 31) (hR : zRt w s tq fa fb cp ep es nw) (he : e < 2 * n) : zOk E mX2_studyEdge 2 [.ref 31, .ref f, .int (nI e)] w (fun r' w' => r' = none ∧ w' = va_up (va_up w 46 (zIA 10 (upd ep e (nI (eps ld e).1)))) 47 (zZA 10 (upd es e (zq ((eps ld e).2 = true))))) := by
  obtain ⟨led, hf, hg, hl, h1, h5, hb⟩ := id hF
  obtain ⟨r1, r2, r3, r4, r5⟩ := id hR
  have hR2 : zRt (va_up (va_up w 46 (zIA 10 (upd ep e 0))) 47 (zZA 10 (upd es e 0))) s tq fa fb cp (upd ep e 0) (upd es e 0) nw := ⟨(r1.n (by decide)).n (by decide), (r2.n (by decide)).n (by decide), (zIs.s r3.1).n (by decide), zIs.s r4.1, (r5.n (by decide)).n (by decide)⟩
  refine zOk.of (by decide +kernel) (Nat.le_of_ble_eq_true rfl) ?_
  refine zV.run kX2_studyEdge 1 rfl ?_
  refine zV.gf kX2_studyEdge rfl fX2_22 (r1) rfl ?_
  refine zV.run kX2_studyEdge 2 rfl ?_
  refine zV.ias kX2_studyEdge rfl (r3) (e) (rfl) (by omega) (by decide) ?_
  refine zV.run kX2_studyEdge 1 rfl ?_
  refine zV.gf kX2_studyEdge rfl fX2_25 (r1.n (by decide)) rfl ?_
  refine zV.run kX2_studyEdge 2 rfl ?_
  refine zV.zas kX2_studyEdge rfl (Or.inl rfl) (r4.n (by decide)) (e) (rfl) (by omega) (by decide) ?_
  refine zV.run kX2_studyEdge 6 rfl ?_
  refine zV.mono (fun r' w' hp => ⟨hp.1, ?_⟩) (o_studyEdge_l E ((hF.n (a := 46) (by omega) (by omega)).n (a := 47) (by omega) (by omega)) hR2 he ⟨pk_us, pk_us⟩ 6 e 1 true _ (by omega) he)
  rw [hp.2, upd_upd, upd_upd, up_comm (a := 47) (b := 46) (by decide), bx_uu, bx_uu]
  rfl
/-- what study leaves: the pictures of the map n, ld -/
def zSd (w : zWd) (n : Nat) (ld : Nat → Nat) : Prop := ∃ (tq fa fb : Int64) (cp ep es : Nat → Int32) (nw : Nat → Int64) (rw : Nat → Nat → Int64), zRt w n tq fa fb cp ep es nw ∧ zPw w 32 n rw ∧ (∀ q a b, q ≤ 6 → a < n → b < n → rw q (5 * a + b) = lN (tp n ld q a b)) ∧ (∀ i, i ≤ n → cp i = nI (sor n ld i)) ∧ (∀ e, e < 2 * n → ep e = nI (eps ld e).1 ∧ es e = zq ((eps ld e).2 = true)) ∧ (∀ k, 1 ≤ k → k ≤ 6 → nw k = lI (nwy n ld k))
theorem o_study_5 (E : zE) {w0 : zWd} {n k : Nat} {ld : Nat → Nat} {Post : Option Value → zWd → Prop} {tq fa fb : Int64} {cp ep es : Nat → Int32} {f : Nat} (h1k : 1 ≤ k) (hk6 : k ≤ 6) (c : Int)
    (kk : ∀ (w : zWd) (nw : Nat → Int64), zRt w n tq fa fb cp ep es nw → (∀ d, 1 ≤ d → d < k → nw d = lI (nwy n ld d)) → nw k = lI (c - nsd n ld k k) → (∀ a, a ≠ 48 → w a = w0 a) → ∀ z3 : Value, zV E mX2_study 4 Post 131 [.ref 31, .ref f, .int (nI k), z3] [] w) :
    ∀ (r d : Nat) (w : zWd) (nw : Nat → Int64), d + r = k → 1 ≤ d → zRt w n tq fa fb cp ep es nw → (∀ d, 1 ≤ d → d < k → nw d = lI (nwy n ld d)) → nw k = lI (c - nsd n ld k d) → (∀ a, a ≠ 48 → w a = w0 a) → zV E mX2_study 4 Post 93 [.ref 31, .ref f, .int (nI k), .int (nI d)] [] w := by
  intro r
  induction r with
  | zero =>
    intro d w nw hd h1d hR hn hnk hw
    have e : d = k := by omega
    subst e
    refine zV.run kX2_study 2 rfl ?_
    refine zV.ict kX2_study (cd := .ge) rfl (Int32.le_refl _) ?_
    exact kk w nw hR hn hnk hw _
  | succ r ih =>
    intro d w nw hd h1d hR hn hnk hw
    obtain ⟨r1, r2, r3, r4, r5⟩ := id hR
    have nx : ∀ x : Int64, x = lI (c - nsd n ld k (d + 1)) → zV E mX2_study 4 Post 93 [.ref 31, .ref f, .int (nI k), .int (nI (d + 1))] [] (va_up w 48 (zLA 7 (vp_updL nw k x))) := by
      intro x hx
      refine ih (d + 1) _ (vp_updL nw k x) (by omega) (by omega) ⟨r1.n (by decide), r2.n (by decide), r3.n (by decide), r4.n (by decide), zIs.s r5.1⟩ (fun d' q1 q2 => by rw [pk_uLn (by omega)]; exact hn d' q1 q2) (by rw [pk_uLs, hx]) (fun a ha => by rw [zup_ne ha]; exact hw a ha)
    refine zV.run kX2_study 2 rfl ?_
    refine zV.icf kX2_study (cd := .ge) rfl (nI_ge (by omega) (by omega)) ?_
    refine zV.run kX2_study 1 rfl ?_
    refine zV.gf kX2_study rfl fX2_29 (r1) rfl ?_
    refine zV.run kX2_study 2 rfl ?_
    refine zV.lal kX2_study rfl (r5) (k) (rfl) (by omega) (by decide) ?_
    refine zV.run kX2_study 2 rfl ?_
    refine zV.cn kX2_study rfl lX2_61 rfl (o_divides E w (d := d) (k := k) (by omega) (by omega)) (by decide) rfl rfl (Nat.le_of_ble_eq_true rfl) ?_
    rintro _ _ ⟨rfl, rfl⟩
    refine zV.if2 kX2_study rfl (fun cc => ?_) (fun cc => ?_)
    · skip
      have cc := zq_eq0.mp cc
      refine zV.run kX2_study 2 rfl ?_
      refine zV.las kX2_study rfl (r5) (k) (rfl) (by omega) (by decide) ?_
      refine zV.run kX2_study 2 rfl ?_
      rw [nI_1, hnk]
      refine nx _ ?_
      rw [show (0 : Int64) = lI 0 from rfl, lI_sub]
      congr 1
      show _ = c - (nsd n ld k d + (if 0 < d ∧ k % d = 0 then nwy n ld d else 0))
      rw [if_neg cc]
      omega
    · skip
      have cc := Decidable.not_not.mp (mt zq_eq0.mpr cc)
      refine zV.run kX2_study 1 rfl ?_
      refine zV.gf kX2_study rfl fX2_29 (r1) rfl ?_
      refine zV.run kX2_study 1 rfl ?_
      refine zV.lal kX2_study rfl (r5) (d) (rfl) (by omega) (by decide) ?_
      refine zV.run kX2_study 2 rfl ?_
      refine zV.las kX2_study rfl (r5) (k) (rfl) (by omega) (by decide) ?_
      refine zV.run kX2_study 2 rfl ?_
      rw [nI_1, hnk, hn d h1d (by omega), lI_sub]
      refine nx _ ?_
      congr 1
      show _ = c - (nsd n ld k d + (if 0 < d ∧ k % d = 0 then nwy n ld d else 0))
      rw [if_pos cc]
      omega
theorem o_study_4 (E : zE) {w0 : zWd} {n f : Nat} {ld : Nat → Nat} {tq fa fb : Int64} {cp ep es : Nat → Int32} {rw : Nat → Nat → Int64} (hn5 : n ≤ 5) (hP : zPw w0 32 n rw) (hr : ∀ q a b, q ≤ 6 → a < n → b < n → rw q (5 * a + b) = lN (tp n ld q a b)) (hcp : ∀ i, i ≤ n → cp i = nI (sor n ld i)) (hep : ∀ e, e < 2 * n → ep e = nI (eps ld e).1 ∧ es e = zq ((eps ld e).2 = true)) :
    ∀ (r k : Nat) (w : zWd) (nw : Nat → Int64) (z3 : Value), k + r = 7 → 1 ≤ k → zRt w n tq fa fb cp ep es nw → (∀ d, 1 ≤ d → d < k → nw d = lI (nwy n ld d)) → (∀ a, a ≠ 48 → w a = w0 a) → zV E mX2_study 4 (fun r' w' => r' = none ∧ zSd w' n ld ∧ ∀ a, a ≠ 48 → w' a = w0 a) 71 [.ref 31, .ref f, .int (nI k), z3] [] w := by
  intro r
  induction r with
  | zero =>
    intro k w nw z3 hk h1k hR hn hw
    have e : k = 7 := by omega
    subst e
    have hP2 : zPw w 32 n rw := ⟨hP.1.k (hw _ (by omega)), ⟨hP.2.1.choose, hP.2.1.choose_spec.1.k (hw _ (by omega)), hP.2.1.choose_spec.2⟩, fun j hj => (hP.2.2 j hj).k (hw _ (by omega))⟩
    refine zV.run kX2_study 2 rfl ?_
    refine zV.ict kX2_study (cd := .gt) rfl (show (6 : Int32) < nI 7 by decide) ?_
    exact zV.vret kX2_study rfl rfl (⟨rfl, ⟨tq, fa, fb, cp, ep, es, nw, rw, hR, hP2, hr, hcp, hep, fun k q1 q2 => hn k q1 (by omega)⟩, hw⟩)
  | succ r ih =>
    intro k w nw z3 hk h1k hR hn hw
    obtain ⟨r1, r2, r3, r4, r5⟩ := id hR
    have hP2 : zPw w 32 n rw := ⟨hP.1.k (hw _ (by omega)), ⟨hP.2.1.choose, hP.2.1.choose_spec.1.k (hw _ (by omega)), hP.2.1.choose_spec.2⟩, fun j hj => (hP.2.2 j hj).k (hw _ (by omega))⟩
    refine zV.run kX2_study 2 rfl ?_
    refine zV.icf kX2_study (cd := .gt) rfl (fun q => absurd ((nI_ltI (a := 6) (b := k) (by omega) (by omega)).mp q) (by omega)) ?_
    refine zV.run kX2_study 1 rfl ?_
    refine zV.gf kX2_study rfl fX2_29 (r1) rfl ?_
    refine zV.run kX2_study 2 rfl ?_
    refine zV.gf kX2_study rfl fX2_12 (r1) rfl ?_
    refine zV.run kX2_study 1 rfl ?_
    refine zV.cv kX2_study rfl lX2_57 (o_closed E hP2 hn5 (k := k) (by omega) (fun a b => hr k a b (by omega))) (by decide) rfl (hP2.1) rfl rfl rfl (Nat.le_of_ble_eq_true rfl) ?_
    rintro _ _ ⟨rfl, rfl⟩
    refine zV.las kX2_study rfl (r5) (k) (rfl) (by omega) (by decide) ?_
    refine zV.run kX2_study 2 rfl ?_
    refine o_study_5 (w0 := w0) (tq := tq) (fa := fa) (fb := fb) (cp := cp) (ep := ep) (es := es) E h1k (by omega) (trc n ld k : Int) (fun w2 nw2 q1 q2 q3 q4 y3 => ?_) (k - 1) 1 _ (vp_updL nw k (lN (trc n ld k))) (by omega) (by omega) ⟨r1.n (by decide), r2.n (by decide), r3.n (by decide), r4.n (by decide), zIs.s r5.1⟩ (fun d' q1 q2 => by rw [pk_uLn (by omega)]; exact hn d' q1 q2) (by rw [pk_uLs, lN_lI]; exact congrArg lI (by simp [nsd])) (fun a ha => by rw [zup_ne ha]; exact hw a ha)
    refine zV.run kX2_study 2 rfl ?_
    rw [nI_1]
    refine ih (k + 1) w2 nw2 _ (by omega) (by omega) q1 (fun d p1 p2 => ?_) q4
    by_cases e : d = k
    · rw [e, q3, nsd_nwy n ld h1k (by omega)]
    · exact q2 d p1 (by omega)
theorem o_study_3 (E : zE) {w0 : zWd} {n f g : Nat} {ld : Nat → Nat} {tq fa fb : Int64} {cp : Nat → Int32} {nw : Nat → Int64} {rw : Nat → Nat → Int64} (hF0 : zFo w0 f g n ld) (hf31 : f < 31) (hg31 : g < 31) (hP0 : zPw w0 32 n rw) (hr : ∀ q a b, q ≤ 6 → a < n → b < n → rw q (5 * a + b) = lN (tp n ld q a b)) (hcp : ∀ i, i ≤ n → cp i = nI (sor n ld i)) :
    ∀ (r e : Nat) (w : zWd) (ep es : Nat → Int32) (z3 : Value), e + r = 2 * n → zRt w n tq fa fb cp ep es nw → (∀ x, x < e → ep x = nI (eps ld x).1 ∧ es x = zq ((eps ld x).2 = true)) → (∀ a, a ≠ 46 → a ≠ 47 → w a = w0 a) → zV E mX2_study 4 (fun r' w' => r' = none ∧ zSd w' n ld ∧ ∀ a, a < 46 ∨ 49 ≤ a → w' a = w0 a) 47 [.ref 31, .ref f, .int (nI e), z3] [] w := by
  obtain ⟨led, hf, hg, hl, h1, h5, hb⟩ := id hF0
  have e2 : (2 : Int32) * nI n = nI (2 * n) := pk_mul 2 n
  intro r
  induction r with
  | zero =>
    intro e w ep es z3 he hR hep hw
    obtain ⟨r1, r2, r3, r4, r5⟩ := id hR
    have ee : e = 2 * n := by omega
    subst ee
    have hP2 : zPw w 32 n rw := ⟨hP0.1.k (hw _ (by omega) (by omega)), ⟨hP0.2.1.choose, hP0.2.1.choose_spec.1.k (hw _ (by omega) (by omega)), hP0.2.1.choose_spec.2⟩, fun j hj => (hP0.2.2 j hj).k (hw _ (by omega) (by omega))⟩
    refine zV.run kX2_study 3 rfl ?_
    refine zV.gf kX2_study rfl fX2_33 (r1) rfl ?_
    refine zV.run kX2_study 1 rfl ?_
    rw [e2]
    refine zV.ict kX2_study (cd := .ge) rfl (Int32.le_refl _) ?_
    refine zV.run kX2_study 2 rfl ?_
    refine zV.mono (fun r' w' hp => ⟨hp.1, hp.2.1, fun a ha => ?_⟩) (o_study_4 E h5 hP2 hr hcp hep 6 1 w nw _ (by omega) (by omega) hR (fun d q1 q2 => by omega) (fun _ _ => rfl))
    rw [hp.2.2 a (by omega), hw a (by omega) (by omega)]
  | succ r ih =>
    intro e w ep es z3 he hR hep hw
    obtain ⟨r1, r2, r3, r4, r5⟩ := id hR
    have hF : zFo w f g n ld := hF0.k (hw f (by omega) (by omega)) (hw g (by omega) (by omega))
    refine zV.run kX2_study 3 rfl ?_
    refine zV.gf kX2_study rfl fX2_33 (r1) rfl ?_
    refine zV.run kX2_study 1 rfl ?_
    rw [e2]
    refine zV.icf kX2_study (cd := .ge) rfl (nI_ge (by omega) (by omega)) ?_
    refine zV.run kX2_study 3 rfl ?_
    refine zV.cv kX2_study rfl lX2_54 (o_studyEdge E hF hf31 hg31 hR (e := e) (by omega)) (by decide) rfl (r1) rfl rfl rfl (Nat.le_of_ble_eq_true rfl) ?_
    rintro _ w9 ⟨rfl, e9⟩
    refine zV.run kX2_study 2 rfl ?_
    rw [nI_1]
    refine ih (e + 1) w9 (upd ep e (nI (eps ld e).1)) (upd es e (zq ((eps ld e).2 = true))) _ (by omega) ?_ (fun x hx => ?_) (fun a q1 q2 => by rw [e9, zup_ne q2, zup_ne q1]; exact hw a q1 q2)
    · rw [e9]
      exact ⟨(r1.n (by decide)).n (by decide), (r2.n (by decide)).n (by decide), (zIs.s r3.1).n (by decide), zIs.s r4.1, (r5.n (by decide)).n (by decide)⟩
    · by_cases q : x = e
      · rw [q, pk_us, pk_us]; exact ⟨rfl, rfl⟩
      · rw [pk_un q, pk_un q]; exact hep x (by omega)
theorem o_study_2 (E : zE) {w0 : zWd} {n f g : Nat} {ld : Nat → Nat} {tq fa fb : Int64} {ep es : Nat → Int32} {nw : Nat → Int64} {rw : Nat → Nat → Int64} (hF0 : zFo w0 f g n ld) (hf31 : f < 31) (hg31 : g < 31) (hP0 : zPw w0 32 n rw) (hr : ∀ q a b, q ≤ 6 → a < n → b < n → rw q (5 * a + b) = lN (tp n ld q a b)) :
    ∀ (r i : Nat) (w : zWd) (cp : Nat → Int32), i + r = n + 1 → zRt w n tq fa fb cp ep es nw → (∀ x, x < i → cp x = nI (sor n ld x)) → (∀ a, a ≠ 45 → w a = w0 a) → zV E mX2_study 4 (fun r' w' => r' = none ∧ zSd w' n ld ∧ ∀ a, a < 45 ∨ 49 ≤ a → w' a = w0 a) 20 [.ref 31, .ref f, .int (nI i), zU] [] w := by
  obtain ⟨led, hf, hg, hl, h1, h5, hb⟩ := id hF0
  intro r
  induction r with
  | zero =>
    intro i w cp hi hR hcp hw
    obtain ⟨r1, r2, r3, r4, r5⟩ := id hR
    have hF : zFo w f g n ld := hF0.k (hw f (by omega)) (hw g (by omega))
    have hP2 : zPw w 32 n rw := ⟨hP0.1.k (hw _ (by omega)), ⟨hP0.2.1.choose, hP0.2.1.choose_spec.1.k (hw _ (by omega)), hP0.2.1.choose_spec.2⟩, fun j hj => (hP0.2.2 j hj).k (hw _ (by omega))⟩
    refine zV.run kX2_study 2 rfl ?_
    refine zV.gf kX2_study rfl fX2_33 (r1) rfl ?_
    refine zV.ict kX2_study (cd := .gt) rfl (nI_lt (by omega) (by omega)) ?_
    refine zV.run kX2_study 2 rfl ?_
    refine zV.mono (fun r' w' hp => ⟨hp.1, hp.2.1, fun a ha => ?_⟩) (o_study_3 E hF hf31 hg31 hP2 hr (fun x hx => hcp x (by omega)) (2 * n) 0 w ep es _ (by omega) hR (fun x hx => by omega) (fun _ _ _ => rfl))
    rw [hp.2.2 a (by omega), hw a (by omega)]
  | succ r ih =>
    intro i w cp hi hR hcp hw
    obtain ⟨r1, r2, r3, r4, r5⟩ := id hR
    have hF : zFo w f g n ld := hF0.k (hw f (by omega)) (hw g (by omega))
    obtain ⟨led', hf', -, -, -, -, -⟩ := id hF
    refine zV.run kX2_study 2 rfl ?_
    refine zV.gf kX2_study rfl fX2_33 (r1) rfl ?_
    refine zV.icf kX2_study (cd := .gt) rfl (nI_nlt (by omega) (by omega)) ?_
    refine zV.run kX2_study 1 rfl ?_
    refine zV.gf kX2_study rfl fX2_18 (r1) rfl ?_
    refine zV.run kX2_study 3 rfl ?_
    refine zV.cv kX2_study rfl lX2_50 (o_stepsOfRound E hF (i := i) (by omega)) (by decide) rfl (hf') rfl rfl rfl (Nat.le_of_ble_eq_true rfl) ?_
    rintro _ _ ⟨rfl, rfl⟩
    refine zV.ias kX2_study rfl (r2) (i) (rfl) (by omega) (by decide) ?_
    refine zV.run kX2_study 2 rfl ?_
    rw [nI_1]
    refine ih (i + 1) _ (upd cp i (nI (sor n ld i))) (by omega) ⟨r1.n (by decide), zIs.s r2.1, r3.n (by decide), r4.n (by decide), r5.n (by decide)⟩ (fun x hx => ?_) (fun a ha => by rw [zup_ne ha]; exact hw a ha)
    by_cases q : x = i
    · rw [q, pk_us]
    · rw [pk_un q]; exact hcp x (by omega)
theorem o_study (E : zE) {w : zWd} {f g n s s2 : Nat} {ld : Nat → Nat} {tq fa fb : Int64} {cp ep es : Nat → Int32} {nw : Nat → Int64} {rw : Nat → Nat → Int64} (hF : zFo w f g n ld) (hf31 : f < 31) (hg31 : g < 31) (hR : zRt w s tq fa fb cp ep es nw) (hP : zPw w 32 s2 rw) : zOk E mX2_study 4 [.ref 31, .ref f] w (fun r' w' => r' = none ∧ zSd w' n ld ∧ zFr w w') := by
  obtain ⟨led, hf, hg, hl, h1, h5, hb⟩ := id hF
  obtain ⟨r1, r2, r3, r4, r5⟩ := id hR
  refine zOk.of (by decide +kernel) (Nat.le_of_ble_eq_true rfl) ?_
  refine zV.run kX2_study 2 rfl ?_
  refine zV.gf kX2_study rfl fX2_41 (hf) rfl ?_
  refine zV.pfi kX2_study rfl pX2_33 (r1) (Nat.le_of_ble_eq_true rfl) ?_
  refine zV.run kX2_study 1 rfl ?_
  refine zV.gf kX2_study rfl fX2_12 (zIs.s r1.1) rfl ?_
  have hF2 : zFo (va_up w 31 (zOb 2 [.ref 32, .ref 45, .ref 46, .ref 47, .ref 48, .int (nI n), .long tq, .long fa, .long fb])) f g n ld := hF.n (by omega) (by omega)
  have hP2 : zPw (va_up w 31 (zOb 2 [.ref 32, .ref 45, .ref 46, .ref 47, .ref 48, .int (nI n), .long tq, .long fa, .long fb])) 32 s2 rw := ⟨hP.1.n (by decide), ⟨hP.2.1.choose, hP.2.1.choose_spec.1.n (by decide), hP.2.1.choose_spec.2⟩, fun j hj => (hP.2.2 j hj).n (by omega)⟩
  refine zV.run kX2_study 2 rfl ?_
  refine zV.cv kX2_study rfl lX2_46 (o_raise E hF2 hP2 (mo := 6) (by omega) (by omega) (by omega)) (by decide) rfl (hP2.1) rfl rfl rfl (Nat.le_of_ble_eq_true rfl) ?_
  rintro _ w9 ⟨rfl, hw9, rw9, hP9, hr9⟩
  have hF9 : zFo w9 f g n ld := hF2.k (hw9 f (by omega)) (hw9 g (by omega))
  have k9 : ∀ a, (a < 32 ∨ 45 ≤ a) → a ≠ 31 → w9 a = w a := fun a q1 q2 => by rw [hw9 a (by omega), zup_ne q2]
  refine zV.run kX2_study 2 rfl ?_
  refine zV.mono (fun r' w' hp => ⟨hp.1, hp.2.1, fun a ha => ?_⟩) (o_study_2 E hF9 hf31 hg31 hP9 hr9 (n + 1) 0 w9 cp (by omega) ⟨(zIs.s r1.1).k (hw9 31 (by omega)), r2.k (k9 45 (by omega) (by decide)), r3.k (k9 46 (by omega) (by decide)), r4.k (k9 47 (by omega) (by decide)), r5.k (k9 48 (by omega) (by decide))⟩ (fun x hx => by omega) (fun _ _ => rfl))
  rw [hp.2.2 a (by omega), k9 a (by omega) (by omega)]
end
section
/-! ===== Returns: what is counted ===== -/
theorem sumN_le {M : Nat} {f : Nat → Nat} : ∀ n, (∀ i, i < n → f i ≤ M) → sumN n f ≤ n * M
  | 0, _ => Nat.zero_le _
  | n + 1, h => by
    have h1 := sumN_le n (fun i hi => h i (by omega))
    have h2 := h n (by omega)
    show sumN n f + f n ≤ _
    rw [Nat.add_mul, Nat.one_mul]
    omega
theorem tp_le {n : Nat} (hn : n ≤ 5) (ld : Nat → Nat) : ∀ k i j, tp n ld k i j ≤ 5 ^ k
  | 0, i, j => by unfold tp; split <;> omega
  | k + 1, i, j => by
    have h := sumN_le (M := 5 ^ k) (f := fun b => if cov ld i b = true then tp n ld k b j else 0) n (fun b hb => by
      show (if cov ld i b = true then tp n ld k b j else 0) ≤ 5 ^ k
      split
      · exact tp_le hn ld k b j
      · exact Nat.zero_le _)
    have h2 := Nat.mul_le_mul_right (5 ^ k) hn
    show sumN n _ ≤ _
    rw [Nat.pow_succ]
    omega
theorem tp_le6 {n : Nat} (hn : n ≤ 5) (ld : Nat → Nat) {k : Nat} (hk : k ≤ 6) (i j : Nat) : tp n ld k i j ≤ 15625 :=
  Nat.le_trans (tp_le hn ld k i j) (Nat.pow_le_pow_right (by decide) hk)
theorem trc_le {n : Nat} (hn : n ≤ 5) (ld : Nat → Nat) {k : Nat} (hk : k ≤ 6) : trc n ld k ≤ 78125 := by
  have h := sumN_le (M := 15625) (f := fun i => tp n ld k i i) n (fun i _ => tp_le6 hn ld hk i i)
  unfold trc
  omega
theorem nwy_rg {n : Nat} (hn : n ≤ 5) (ld : Nat → Nat) (k : Nat) : -200000 ≤ nwy n ld k ∧ nwy n ld k ≤ 200000 := by
  have t1 := trc_le hn ld (k := 1) (by omega)
  have t2 := trc_le hn ld (k := 2) (by omega)
  have t3 := trc_le hn ld (k := 3) (by omega)
  have t4 := trc_le hn ld (k := 4) (by omega)
  have t5 := trc_le hn ld (k := 5) (by omega)
  have t6 := trc_le hn ld (k := 6) (by omega)
  unfold nwy
  split <;> omega
def edf (ld : Nat → Nat) (k : Nat) : Nat → Nat → Bool
  | 0, _ => false
  | r + 1, e => if (eps ld e).2 = true ∧ 0 < (eps ld e).1 ∧ k % (eps ld e).1 = 0 then true else edf ld k r (e + 1)
def cntC (n : Nat) (ld : Nat → Nat) (k : Nat) : Nat → Int
  | 0 => 0
  | i + 1 => cntC n ld k i + (if sor n ld i = k then 1 else 0)
def cntE (ld : Nat → Nat) (k : Nat) : Nat → Int
  | 0 => 0
  | e + 1 => cntE ld k e + (if (eps ld e).1 = k then 1 else 0)
def cnw (n : Nat) (ld : Nat → Nat) (k : Nat) : Int := nwy n ld k + cntC n ld k (n + 1) - cntE ld k (2 * n)
def cal (n : Nat) (ld : Nat → Nat) (k : Nat) : Nat → Int
  | 0 => 0
  | d + 1 => cal n ld k d + (if 0 < d ∧ k % d = 0 then cnw n ld d else 0)
def hsf (ld : Nat → Nat) (k : Nat) : Nat → Nat → Bool
  | 0, _ => false
  | r + 1, e => if (eps ld e).2 = true ∧ (eps ld e).1 = k then true else hsf ld k r (e + 1)
def hnw (n : Nat) (ld : Nat → Nat) (k : Nat) : Bool := hsf ld k (2 * n) 0 || decide (0 < cnw n ld k)
theorem cntC_rg (n : Nat) (ld : Nat → Nat) (k : Nat) : ∀ i, 0 ≤ cntC n ld k i ∧ cntC n ld k i ≤ i
  | 0 => ⟨Int.le_refl _, Int.le_refl _⟩
  | i + 1 => by have := cntC_rg n ld k i; unfold cntC; split <;> omega
theorem cntE_rg (ld : Nat → Nat) (k : Nat) : ∀ i, 0 ≤ cntE ld k i ∧ cntE ld k i ≤ i
  | 0 => ⟨Int.le_refl _, Int.le_refl _⟩
  | i + 1 => by have := cntE_rg ld k i; unfold cntE; split <;> omega
theorem cnw_rg {n : Nat} (hn : n ≤ 5) (ld : Nat → Nat) (k : Nat) : -300000 ≤ cnw n ld k ∧ cnw n ld k ≤ 300000 := by
  have h1 := nwy_rg hn ld k
  have h2 := cntC_rg n ld k (n + 1)
  have h3 := cntE_rg ld k (2 * n)
  unfold cnw
  omega
theorem epf_le (ld : Nat → Nat) (e : Nat) : ∀ r a k s, (epf ld e r a k s).1 ≤ k + r
  | 0, a, k, s => Nat.zero_le _
  | r + 1, a, k, s => by
    unfold epf
    split
    · exact Nat.zero_le _
    · split
      · show k ≤ _; omega
      · have := epf_le ld e r (nxe ld a) (k + 1) (s && decide (sl ld (a / 2) = 1 ∨ sl ld (a / 2) = -1)); omega
theorem eps_le (ld : Nat → Nat) (e : Nat) : (eps ld e).1 ≤ 7 := epf_le ld e 6 e 1 true
theorem sor_le (n : Nat) (ld : Nat → Nat) (i : Nat) : sor n ld i ≤ n + 2 := by
  have := sorf_le ld i (n + 1) i 1
  unfold sor
  omega
theorem o_isEndless_l (E : zE) {w : zWd} {n : Nat} {ld : Nat → Nat} (hS : zSd w n ld) (hn : n ≤ 5) {k : Nat} (hk : k ≤ 6) : ∀ (r e : Nat), e + r = 2 * n → zV E mX2_isEndless 1 (zR0 w (.int (zq (edf ld k r e = true)))) 2 [.ref 31, .int (nI k), .int (nI e)] [] w := by
  obtain ⟨tq, fa, fb, cp, ep, es, nw, rw, ⟨r1, r2, r3, r4, r5⟩, hP, hr, hcp, hep, hnw⟩ := id hS
  have e2 : (2 : Int32) * nI n = nI (2 * n) := pk_mul 2 n
  intro r
  induction r with
  | zero =>
    intro e he
    have ee : e = 2 * n := by omega
    subst ee
    refine zV.run kX2_isEndless 3 rfl ?_
    refine zV.gf kX2_isEndless rfl fX2_33 (r1) rfl ?_
    refine zV.run kX2_isEndless 1 rfl ?_
    rw [e2]
    refine zV.ict kX2_isEndless (cd := .ge) rfl (Int32.le_refl _) ?_
    refine zV.run kX2_isEndless 1 rfl ?_
    exact zV.zret kX2_isEndless rfl rfl (Or.inl rfl) (⟨rfl, rfl⟩)
  | succ r ih =>
    intro e he
    have h7 := eps_le ld e
    have hx := hep e (by omega)
    refine zV.run kX2_isEndless 3 rfl ?_
    refine zV.gf kX2_isEndless rfl fX2_33 (r1) rfl ?_
    refine zV.run kX2_isEndless 1 rfl ?_
    rw [e2]
    refine zV.icf kX2_isEndless (cd := .ge) rfl (nI_ge (by omega) (by omega)) ?_
    refine zV.run kX2_isEndless 1 rfl ?_
    refine zV.gf kX2_isEndless rfl fX2_25 (r1) rfl ?_
    refine zV.run kX2_isEndless 1 rfl ?_
    refine zV.zal kX2_isEndless rfl (r4) (e) (rfl) (by omega) (by decide) ?_
    rw [hx.2]
    refine zV.if2 kX2_isEndless rfl (fun c => ?_) (fun c => ?_)
    · skip
      have c := zq_eq0.mp c
      have ee : edf ld k (r + 1) e = edf ld k r (e + 1) := if_neg (fun q => c q.1)
      rw [ee]
      refine zV.run kX2_isEndless 2 rfl ?_
      rw [nI_1]
      exact ih (e + 1) (by omega)
    · skip
      have c := Decidable.not_not.mp (mt zq_eq0.mpr c)
      refine zV.run kX2_isEndless 1 rfl ?_
      refine zV.gf kX2_isEndless rfl fX2_22 (r1) rfl ?_
      refine zV.run kX2_isEndless 1 rfl ?_
      refine zV.ial kX2_isEndless rfl (r3) (e) (rfl) (by omega) (by decide) ?_
      rw [hx.1]
      refine zV.run kX2_isEndless 1 rfl ?_
      refine zV.cn kX2_isEndless rfl lX2_61 rfl (o_divides E w (d := (eps ld e).1) (k := k) (by omega) (by omega)) (by decide) rfl rfl (Nat.le_of_ble_eq_true rfl) ?_
      rintro _ _ ⟨rfl, rfl⟩
      refine zV.if2 kX2_isEndless rfl (fun c2 => ?_) (fun c2 => ?_)
      · skip
        have c2 := zq_eq0.mp c2
        have ee : edf ld k (r + 1) e = edf ld k r (e + 1) := if_neg (fun q => c2 q.2)
        rw [ee]
        refine zV.run kX2_isEndless 2 rfl ?_
        rw [nI_1]
        exact ih (e + 1) (by omega)
      · skip
        have c2 := Decidable.not_not.mp (mt zq_eq0.mpr c2)
        have ee : edf ld k (r + 1) e = true := if_pos ⟨c, c2⟩
        rw [ee]
        refine zV.run kX2_isEndless 1 rfl ?_
        exact zV.zret kX2_isEndless rfl rfl (Or.inr rfl) (⟨rfl, rfl⟩)
theorem o_isEndless (E : zE) {w : zWd} {n : Nat} {ld : Nat → Nat} (hS : zSd w n ld) (hn : n ≤ 5) {k : Nat} (hk : k ≤ 6) : zOk E mX2_isEndless 1 [.ref 31, .int (nI k)] w (zR0 w (.int (zq (edf ld k (2 * n) 0 = true)))) := by
  refine zOk.of (by decide +kernel) (Nat.le_of_ble_eq_true rfl) ?_
  refine zV.run kX2_isEndless 2 rfl ?_
  exact o_isEndless_l E hS hn hk (2 * n) 0 (by omega)
theorem o_countNew_2 (E : zE) {w : zWd} {n : Nat} {ld : Nat → Nat} (hS : zSd w n ld) (hn : n ≤ 5) {k : Nat} (hk : k ≤ 6) (c0 : Int) : ∀ (r e : Nat), e + r = 2 * n → zV E mX2_countNew 0 (zR0 w (.long (lI (c0 - cntE ld k (2 * n))))) 47 [.ref 31, .int (nI k), .long (lI (c0 - cntE ld k e)), zU, .int (nI e)] [] w := by
  obtain ⟨tq, fa, fb, cp, ep, es, nw, rw, ⟨r1, r2, r3, r4, r5⟩, hP, hr, hcp, hep, hnw⟩ := id hS
  have e2 : (2 : Int32) * nI n = nI (2 * n) := pk_mul 2 n
  intro r
  induction r with
  | zero =>
    intro e he
    have ee : e = 2 * n := by omega
    subst ee
    refine zV.run kX2_countNew 3 rfl ?_
    refine zV.gf kX2_countNew rfl fX2_33 (r1) rfl ?_
    refine zV.run kX2_countNew 1 rfl ?_
    rw [e2]
    refine zV.ict kX2_countNew (cd := .ge) rfl (Int32.le_refl _) ?_
    refine zV.run kX2_countNew 1 rfl ?_
    exact zV.lret kX2_countNew rfl rfl (⟨rfl, rfl⟩)
  | succ r ih =>
    intro e he
    have h7 := eps_le ld e
    have hx := hep e (by omega)
    refine zV.run kX2_countNew 3 rfl ?_
    refine zV.gf kX2_countNew rfl fX2_33 (r1) rfl ?_
    refine zV.run kX2_countNew 1 rfl ?_
    rw [e2]
    refine zV.icf kX2_countNew (cd := .ge) rfl (nI_ge (by omega) (by omega)) ?_
    refine zV.run kX2_countNew 2 rfl ?_
    refine zV.gf kX2_countNew rfl fX2_22 (r1) rfl ?_
    refine zV.run kX2_countNew 1 rfl ?_
    refine zV.ial kX2_countNew rfl (r3) (e) (rfl) (by omega) (by decide) ?_
    rw [hx.1]
    refine zV.run kX2_countNew 1 rfl ?_
    refine zV.ic2 kX2_countNew rfl (fun c => ?_) (fun c => ?_)
    · skip
      have c := mt (nI_eq (a := (eps ld e).1) (b := k) (by omega) (by omega)).mpr c
      have ee : cntE ld k (e + 1) = cntE ld k e + 0 := by show _ + (if _ then _ else _) = _; rw [if_neg c]
      refine zV.run kX2_countNew 5 rfl ?_
      rw [nI_1, show (0 : Int64) = lI 0 from rfl, lI_sub, show c0 - cntE ld k e - 0 = c0 - cntE ld k (e + 1) by omega]
      exact ih (e + 1) (by omega)
    · skip
      have c := (nI_eq (by omega) (by omega)).mp (Decidable.not_not.mp c)
      have ee : cntE ld k (e + 1) = cntE ld k e + 1 := by show _ + (if _ then _ else _) = _; rw [if_pos c]
      refine zV.run kX2_countNew 6 rfl ?_
      rw [nI_1, show (1 : Int64) = lI 1 from rfl, lI_sub, show c0 - cntE ld k e - 1 = c0 - cntE ld k (e + 1) by omega]
      exact ih (e + 1) (by omega)
theorem o_countNew_1 (E : zE) {w : zWd} {n : Nat} {ld : Nat → Nat} (hS : zSd w n ld) (hn : n ≤ 5) {k : Nat} (hk : k ≤ 6) : ∀ (r i : Nat), i + r = n + 1 → zV E mX2_countNew 0 (zR0 w (.long (lI (cnw n ld k)))) 10 [.ref 31, .int (nI k), .long (lI (nwy n ld k + cntC n ld k i)), zU, .int (nI i)] [] w := by
  obtain ⟨tq, fa, fb, cp, ep, es, nw, rw, ⟨r1, r2, r3, r4, r5⟩, hP, hr, hcp, hep, hnw⟩ := id hS
  intro r
  induction r with
  | zero =>
    intro i hi
    have ee : i = n + 1 := by omega
    subst ee
    refine zV.run kX2_countNew 2 rfl ?_
    refine zV.gf kX2_countNew rfl fX2_33 (r1) rfl ?_
    refine zV.ict kX2_countNew (cd := .gt) rfl (nI_lt (by omega) (by omega)) ?_
    refine zV.run kX2_countNew 2 rfl ?_
    have K := o_countNew_2 E hS hn hk (nwy n ld k + cntC n ld k (n + 1)) (2 * n) 0 (by omega)
    rw [show nwy n ld k + cntC n ld k (n + 1) - cntE ld k 0 = nwy n ld k + cntC n ld k (n + 1) by simp [cntE]] at K
    exact K
  | succ r ih =>
    intro i hi
    have h7 := sor_le n ld i
    have hx := hcp i (by omega)
    refine zV.run kX2_countNew 2 rfl ?_
    refine zV.gf kX2_countNew rfl fX2_33 (r1) rfl ?_
    refine zV.icf kX2_countNew (cd := .gt) rfl (nI_nlt (by omega) (by omega)) ?_
    refine zV.run kX2_countNew 2 rfl ?_
    refine zV.gf kX2_countNew rfl fX2_18 (r1) rfl ?_
    refine zV.run kX2_countNew 1 rfl ?_
    refine zV.ial kX2_countNew rfl (r2) (i) (rfl) (by omega) (by decide) ?_
    rw [hx]
    refine zV.run kX2_countNew 1 rfl ?_
    refine zV.ic2 kX2_countNew rfl (fun c => ?_) (fun c => ?_)
    · skip
      have c := mt (nI_eq (a := sor n ld i) (b := k) (by omega) (by omega)).mpr c
      have ee : cntC n ld k (i + 1) = cntC n ld k i + 0 := by show _ + (if _ then _ else _) = _; rw [if_neg c]
      refine zV.run kX2_countNew 5 rfl ?_
      rw [nI_1, show (0 : Int64) = lI 0 from rfl, lI_add, show nwy n ld k + cntC n ld k i + 0 = nwy n ld k + cntC n ld k (i + 1) by omega]
      exact ih (i + 1) (by omega)
    · skip
      have c := (nI_eq (by omega) (by omega)).mp (Decidable.not_not.mp c)
      have ee : cntC n ld k (i + 1) = cntC n ld k i + 1 := by show _ + (if _ then _ else _) = _; rw [if_pos c]
      refine zV.run kX2_countNew 6 rfl ?_
      rw [nI_1, show (1 : Int64) = lI 1 from rfl, lI_add, show nwy n ld k + cntC n ld k i + 1 = nwy n ld k + cntC n ld k (i + 1) by omega]
      exact ih (i + 1) (by omega)
theorem o_countNew (E : zE) {w : zWd} {n : Nat} {ld : Nat → Nat} (hS : zSd w n ld) (hn : n ≤ 5) {k : Nat} (h1k : 1 ≤ k) (hk : k ≤ 6) : zOk E mX2_countNew 0 [.ref 31, .int (nI k)] w (zR0 w (.long (lI (cnw n ld k)))) := by
  obtain ⟨tq, fa, fb, cp, ep, es, nw, rw, ⟨r1, r2, r3, r4, r5⟩, hP, hr, hcp, hep, hnw⟩ := id hS
  refine zOk.of (by decide +kernel) (Nat.le_of_ble_eq_true rfl) ?_
  refine zV.run kX2_countNew 1 rfl ?_
  refine zV.gf kX2_countNew rfl fX2_29 (r1) rfl ?_
  refine zV.run kX2_countNew 1 rfl ?_
  refine zV.lal kX2_countNew rfl (r5) (k) (rfl) (by omega) (by decide) ?_
  rw [hnw k h1k hk]
  refine zV.run kX2_countNew 3 rfl ?_
  have K := o_countNew_1 E hS hn hk (n + 1) 0 (by omega)
  rw [show nwy n ld k + cntC n ld k 0 = nwy n ld k by simp [cntC]] at K
  exact K
theorem o_countAll_l (E : zE) {w : zWd} {n : Nat} {ld : Nat → Nat} (hS : zSd w n ld) (hn : n ≤ 5) {k : Nat} (hk : k ≤ 6) : ∀ (r d : Nat), d + r = k + 1 → 1 ≤ d → zV E mX2_countAll 1 (zR0 w (.long (lI (cal n ld k (k + 1))))) 5 [.ref 31, .int (nI k), .long (lI (cal n ld k d)), zU, .int (nI d)] [] w := by
  obtain ⟨tq, fa, fb, cp, ep, es, nw, rw, ⟨r1, r2, r3, r4, r5⟩, hP, hr, hcp, hep, hnw⟩ := id hS
  intro r
  induction r with
  | zero =>
    intro d hd h1
    have ee : d = k + 1 := by omega
    subst ee
    refine zV.run kX2_countAll 2 rfl ?_
    refine zV.ict kX2_countAll (cd := .gt) rfl (nI_lt (by omega) (by omega)) ?_
    refine zV.run kX2_countAll 1 rfl ?_
    exact zV.lret kX2_countAll rfl rfl (⟨rfl, rfl⟩)
  | succ r ih =>
    intro d hd h1
    refine zV.run kX2_countAll 2 rfl ?_
    refine zV.icf kX2_countAll (cd := .gt) rfl (nI_nlt (by omega) (by omega)) ?_
    refine zV.run kX2_countAll 3 rfl ?_
    refine zV.cn kX2_countAll rfl lX2_61 rfl (o_divides E w (d := d) (k := k) (by omega) (by omega)) (by decide) rfl rfl (Nat.le_of_ble_eq_true rfl) ?_
    rintro _ _ ⟨rfl, rfl⟩
    refine zV.if2 kX2_countAll rfl (fun c => ?_) (fun c => ?_)
    · skip
      have c := zq_eq0.mp c
      have ee : cal n ld k (d + 1) = cal n ld k d + 0 := by show _ + (if _ then _ else _) = _; rw [if_neg c]
      refine zV.run kX2_countAll 5 rfl ?_
      rw [nI_1, show (0 : Int64) = lI 0 from rfl, lI_add, ← ee]
      exact ih (d + 1) (by omega) (by omega)
    · skip
      have c := Decidable.not_not.mp (mt zq_eq0.mpr c)
      have ee : cal n ld k (d + 1) = cal n ld k d + cnw n ld d := by show _ + (if _ then _ else _) = _; rw [if_pos c]
      refine zV.run kX2_countAll 2 rfl ?_
      refine zV.cv kX2_countAll rfl lX2_76 (o_countNew E hS hn (k := d) (by omega) (by omega)) (by decide) rfl (r1) rfl rfl rfl (Nat.le_of_ble_eq_true rfl) ?_
      rintro _ _ ⟨rfl, rfl⟩
      refine zV.run kX2_countAll 5 rfl ?_
      rw [nI_1, lI_add, ← ee]
      exact ih (d + 1) (by omega) (by omega)
theorem o_countAll (E : zE) {w : zWd} {n : Nat} {ld : Nat → Nat} (hS : zSd w n ld) (hn : n ≤ 5) {k : Nat} (hk : k ≤ 6) : zOk E mX2_countAll 1 [.ref 31, .int (nI k)] w (zR0 w (.long (lI (cal n ld k (k + 1))))) := by
  refine zOk.of (by decide +kernel) (Nat.le_of_ble_eq_true rfl) ?_
  refine zV.run kX2_countAll 4 rfl ?_
  have K := o_countAll_l E hS hn hk k 1 (by omega) (by omega)
  rw [show cal n ld k 1 = 0 by simp [cal]] at K
  exact K
theorem o_hasNew_l (E : zE) {w : zWd} {n : Nat} {ld : Nat → Nat} (hS : zSd w n ld) (hn : n ≤ 5) {k : Nat} (h1k : 1 ≤ k) (hk : k ≤ 6) : ∀ (r e : Nat), e + r = 2 * n → zV E mX2_hasNew 1 (zR0 w (.int (zq ((hsf ld k r e || decide (0 < cnw n ld k)) = true)))) 2 [.ref 31, .int (nI k), .int (nI e)] [] w := by
  obtain ⟨tq, fa, fb, cp, ep, es, nw, rw, ⟨r1, r2, r3, r4, r5⟩, hP, hr, hcp, hep, hnw⟩ := id hS
  have e2 : (2 : Int32) * nI n = nI (2 * n) := pk_mul 2 n
  have hg := cnw_rg hn ld k
  intro r
  induction r with
  | zero =>
    intro e he
    have ee : e = 2 * n := by omega
    subst ee
    refine zV.run kX2_hasNew 3 rfl ?_
    refine zV.gf kX2_hasNew rfl fX2_33 (r1) rfl ?_
    refine zV.run kX2_hasNew 1 rfl ?_
    rw [e2]
    refine zV.ict kX2_hasNew (cd := .ge) rfl (Int32.le_refl _) ?_
    refine zV.run kX2_hasNew 2 rfl ?_
    refine zV.cv kX2_hasNew rfl lX2_76 (o_countNew E hS hn h1k hk) (by decide) rfl (r1) rfl rfl rfl (Nat.le_of_ble_eq_true rfl) ?_
    rintro _ _ ⟨rfl, rfl⟩
    refine zV.run kX2_hasNew 1 rfl ?_
    refine zV.il2 kX2_hasNew rfl rfl (fun c => ?_) (fun c => ?_)
    · skip
      have c := (lI_le (a := cnw n ld k) (b := 0) (by omega) (by omega) (by omega) (by omega)).mp c
      refine zV.run kX2_hasNew 1 rfl ?_
      exact zV.zret kX2_hasNew rfl rfl (Or.inl rfl) (⟨by rw [zq_f]; simp [hsf]; omega, rfl⟩)
    · skip
      have c := mt (lI_le (a := cnw n ld k) (b := 0) (by omega) (by omega) (by omega) (by omega)).mpr c
      refine zV.run kX2_hasNew 2 rfl ?_
      exact zV.zret kX2_hasNew rfl rfl (Or.inr rfl) (⟨by rw [zq_t]; simp [hsf]; omega, rfl⟩)
  | succ r ih =>
    intro e he
    have h7 := eps_le ld e
    have hx := hep e (by omega)
    refine zV.run kX2_hasNew 3 rfl ?_
    refine zV.gf kX2_hasNew rfl fX2_33 (r1) rfl ?_
    refine zV.run kX2_hasNew 1 rfl ?_
    rw [e2]
    refine zV.icf kX2_hasNew (cd := .ge) rfl (nI_ge (by omega) (by omega)) ?_
    refine zV.run kX2_hasNew 1 rfl ?_
    refine zV.gf kX2_hasNew rfl fX2_25 (r1) rfl ?_
    refine zV.run kX2_hasNew 1 rfl ?_
    refine zV.zal kX2_hasNew rfl (r4) (e) (rfl) (by omega) (by decide) ?_
    rw [hx.2]
    refine zV.if2 kX2_hasNew rfl (fun c => ?_) (fun c => ?_)
    · skip
      have c := zq_eq0.mp c
      have ee : hsf ld k (r + 1) e = hsf ld k r (e + 1) := if_neg (fun q => c q.1)
      rw [ee]
      refine zV.run kX2_hasNew 2 rfl ?_
      rw [nI_1]
      exact ih (e + 1) (by omega)
    · skip
      have c := Decidable.not_not.mp (mt zq_eq0.mpr c)
      refine zV.run kX2_hasNew 1 rfl ?_
      refine zV.gf kX2_hasNew rfl fX2_22 (r1) rfl ?_
      refine zV.run kX2_hasNew 1 rfl ?_
      refine zV.ial kX2_hasNew rfl (r3) (e) (rfl) (by omega) (by decide) ?_
      rw [hx.1]
      refine zV.run kX2_hasNew 1 rfl ?_
      refine zV.ic2 kX2_hasNew rfl (fun c2 => ?_) (fun c2 => ?_)
      · skip
        have c2 := mt (nI_eq (a := (eps ld e).1) (b := k) (by omega) (by omega)).mpr c2
        have ee : hsf ld k (r + 1) e = hsf ld k r (e + 1) := if_neg (fun q => c2 q.2)
        rw [ee]
        refine zV.run kX2_hasNew 2 rfl ?_
        rw [nI_1]
        exact ih (e + 1) (by omega)
      · skip
        have c2 := (nI_eq (by omega) (by omega)).mp (Decidable.not_not.mp c2)
        have ee : hsf ld k (r + 1) e = true := if_pos ⟨c, c2⟩
        rw [ee]
        refine zV.run kX2_hasNew 1 rfl ?_
        exact zV.zret kX2_hasNew rfl rfl (Or.inr rfl) (⟨rfl, rfl⟩)
theorem o_hasNew (E : zE) {w : zWd} {n : Nat} {ld : Nat → Nat} (hS : zSd w n ld) (hn : n ≤ 5) {k : Nat} (h1k : 1 ≤ k) (hk : k ≤ 6) : zOk E mX2_hasNew 1 [.ref 31, .int (nI k)] w (zR0 w (.int (zq (hnw n ld k = true)))) := by
  refine zOk.of (by decide +kernel) (Nat.le_of_ble_eq_true rfl) ?_
  refine zV.run kX2_hasNew 2 rfl ?_
  exact o_hasNew_l E hS hn h1k hk (2 * n) 0 (by omega)
end
section
/-! ===== Returns: the i-th point ===== -/
def dv (d k : Nat) : Bool := decide (0 < d ∧ k % d = 0)
def stl (a b : Int) : Option (Int × Int) := if b = 0 then none else some (if b < 0 then -a else a, if 0 < b then b else -b)
def fst1 (ld : Nat → Nat) (k i : Nat) : Int := if dv (eps ld (2 * i)).1 k = true then 1 else 0
def lst1 (ld : Nat → Nat) (k i : Nat) : Int := if dv (eps ld (2 * i + 1)).1 k = true then 1 else 0
def ins (n : Nat) (ld : Nat → Nat) (k i : Nat) : Int := (tp n ld k i i : Int) - fst1 ld k i - lst1 ld k i
def nsf (n : Nat) (ld : Nat → Nat) (c home rest : Nat) (up : Bool) : Nat → Nat → Int → Int × Int
  | 0, _, t => (-1, t)
  | r + 1, q, t => if t < (if cov ld c (if up = true then q else n - 1 - q) = true then (tp n ld rest (if up = true then q else n - 1 - q) home : Int) else 0) then (((if up = true then q else n - 1 - q : Nat) : Int), t) else nsf n ld c home rest up r (q + 1) (t - (if cov ld c (if up = true then q else n - 1 - q) = true then (tp n ld rest (if up = true then q else n - 1 - q) home : Int) else 0))
def wkf (n : Nat) (ld : Nat → Nat) (home : Nat) : Nat → Nat → Int → Int → Int → Option (Int × Int)
  | 0, _, S, F, _ => stl F (1 - S)
  | r + 1, c, S, F, t => if (nsf n ld c home r (decide (0 < S * sl ld c)) n 0 t).1 = -1 then none else wkf n ld home r (nsf n ld c home r (decide (0 < S * sl ld c)) n 0 t).1.toNat (S * sl ld c) (sl ld c * F + ld c - sl ld c * c) (nsf n ld c home r (decide (0 < S * sl ld c)) n 0 t).2
def fdf (n : Nat) (ld : Nat → Nat) (k : Nat) : Nat → Nat → Int → Option (Int × Int)
  | 0, _, _ => none
  | r + 1, i, t => if dv (sor n ld i) k = true ∧ t = 0 then stl i 1
    else if i < n ∧ t - (if dv (sor n ld i) k = true then 1 else 0) < ins n ld k i then wkf n ld i k i 1 0 (t - (if dv (sor n ld i) k = true then 1 else 0) + fst1 ld k i)
    else fdf n ld k r (i + 1) (if i < n then t - (if dv (sor n ld i) k = true then 1 else 0) - ins n ld k i else t - (if dv (sor n ld i) k = true then 1 else 0))
theorem mul5 {S s B : Int} (h1 : -5 ≤ s) (h2 : s ≤ 5) (h3 : -B ≤ S) (h4 : S ≤ B) : -(5 * B) ≤ S * s ∧ S * s ≤ 5 * B := by
  have h : s = -5 ∨ s = -4 ∨ s = -3 ∨ s = -2 ∨ s = -1 ∨ s = 0 ∨ s = 1 ∨ s = 2 ∨ s = 3 ∨ s = 4 ∨ s = 5 := by omega
  rcases h with rfl | rfl | rfl | rfl | rfl | rfl | rfl | rfl | rfl | rfl | rfl <;> omega
/-- the cells of Returns with what was found -/
def zFd (w0 w' : zWd) (n : Nat) (ld : Nat → Nat) (o : Option (Int × Int)) : Prop := (∀ a, a ≠ 31 → w' a = w0 a) ∧ ∃ tq fa fb : Int64, zIs w' 31 (zOb 2 [.ref 32, .ref 45, .ref 46, .ref 47, .ref 48, .int (nI n), .long tq, .long fa, .long fb]) ∧ ∀ p, o = some p → fa = lI p.1 ∧ fb = lI p.2
def zR1 (w : zWd) (n : Nat) (tq fa fb : Int64) : Prop := zIs w 31 (zOb 2 [.ref 32, .ref 45, .ref 46, .ref 47, .ref 48, .int (nI n), .long tq, .long fa, .long fb])
theorem o_settle (E : zE) {w : zWd} {n : Nat} {tq fa fb : Int64} {ld : Nat → Nat} (hR : zR1 w n tq fa fb) {a b : Int} (ha : -1000000000000 ≤ a) (ha2 : a ≤ 1000000000000) (hb : -1000000000000 ≤ b) (hb2 : b ≤ 1000000000000) : zOk E mX2_settle 1 [.ref 31, .long (lI a), .long (lI b)] w (fun r w' => r = some (.int (zq ((stl a b).isSome = true))) ∧ zFd w w' n ld (stl a b)) := by
  have hR : zIs w 31 (zOb 2 [.ref 32, .ref 45, .ref 46, .ref 47, .ref 48, .int (nI n), .long tq, .long fa, .long fb]) := hR
  refine zOk.of (by decide +kernel) (Nat.le_of_ble_eq_true rfl) ?_
  refine zV.run kX2_settle 2 rfl ?_
  refine zV.il2 kX2_settle rfl rfl (fun c => ?_) (fun c => ?_)
  · skip
    have c : ¬ b = 0 := fun q => c (by rw [q]; rfl)
    have ab : (if (0 : Int64) < lI b then lI b else -lI b) = lI (if 0 < b then b else -b) := by
      rw [show (0 : Int64) = lI 0 from rfl]
      by_cases q : 0 < b
      · rw [if_pos ((lI_lt (by omega) (by omega) (by omega) (by omega)).mpr q), if_pos q]
      · rw [if_neg (fun z => q ((lI_lt (by omega) (by omega) (by omega) (by omega)).mp z)), if_neg q, lI_neg]
    have es : stl a b = some (if b < 0 then -a else a, if 0 < b then b else -b) := if_neg c
    refine zV.run kX2_settle 3 rfl ?_
    refine zV.il2 kX2_settle rfl rfl (fun c2 => ?_) (fun c2 => ?_)
    · skip
      have c2 := (lI_le (a := 0) (b := b) (by omega) (by omega) (by omega) (by omega)).mp c2
      refine zV.run kX2_settle 1 rfl ?_
      refine zV.pfl kX2_settle rfl pX2_107 (hR) (Nat.le_of_ble_eq_true rfl) ?_
      refine zV.run kX2_settle 2 rfl ?_
      refine zV.abL kX2_settle rfl lX2_110 (by decide) (Nat.le_of_ble_eq_true rfl) ?_
      refine zV.pfl kX2_settle rfl pX2_37 (zIs.s hR.1) (Nat.le_of_ble_eq_true rfl) ?_
      rw [ab]
      rw [es]
      refine zV.run kX2_settle 1 rfl ?_
      exact zV.zret kX2_settle rfl rfl (Or.inr rfl) (⟨rfl, fun x hx => by rw [zup_ne hx, zup_ne hx], _, _, _, zIs.s hR.1, fun p hp => by cases hp; rw [if_neg (show ¬ b < 0 by omega)]; exact ⟨rfl, rfl⟩⟩)
    · skip
      have c2 := mt (lI_le (a := 0) (b := b) (by omega) (by omega) (by omega) (by omega)).mpr c2
      refine zV.run kX2_settle 3 rfl ?_
      refine zV.pfl kX2_settle rfl pX2_107 (hR) (Nat.le_of_ble_eq_true rfl) ?_
      refine zV.run kX2_settle 2 rfl ?_
      refine zV.abL kX2_settle rfl lX2_110 (by decide) (Nat.le_of_ble_eq_true rfl) ?_
      refine zV.pfl kX2_settle rfl pX2_37 (zIs.s hR.1) (Nat.le_of_ble_eq_true rfl) ?_
      rw [ab, lI_neg]
      rw [es]
      refine zV.run kX2_settle 1 rfl ?_
      exact zV.zret kX2_settle rfl rfl (Or.inr rfl) (⟨rfl, fun x hx => by rw [zup_ne hx, zup_ne hx], _, _, _, zIs.s hR.1, fun p hp => by cases hp; rw [if_pos (show b < 0 by omega)]; exact ⟨rfl, rfl⟩⟩)
  · skip
    have c := (lI_eq (a := b) (b := 0) (by omega) (by omega) (by omega) (by omega)).mp (Decidable.not_not.mp c)
    have es : stl a b = none := if_pos c
    rw [es]
    refine zV.run kX2_settle 1 rfl ?_
    exact zV.zret kX2_settle rfl rfl (Or.inl rfl) (⟨rfl, fun _ _ => rfl, _, _, _, hR, fun p hp => by cases hp⟩)
theorem o_isInside (E : zE) {w : zWd} {n : Nat} {ld : Nat → Nat} {t : Int} {fa fb : Int64} {cp ep es : Nat → Int32} {nw : Nat → Int64} {rw : Nat → Nat → Int64} (hR : zRt w n (lI t) fa fb cp ep es nw) (hP : zPw w 32 n rw) (hr : ∀ q a b, q ≤ 6 → a < n → b < n → rw q (5 * a + b) = lN (tp n ld q a b)) (hep : ∀ e, e < 2 * n → ep e = nI (eps ld e).1) (hn : n ≤ 5) {i k : Nat} (hi : i < n) (hk : k ≤ 6) (ht : -1000000000000 ≤ t) (ht2 : t ≤ 1000000000000) : zOk E mX2_isInside 1 [.ref 31, .int (nI i), .int (nI k)] w (fun r w' => r = some (.int (zq (t < ins n ld k i))) ∧ w' = va_up w 31 (zOb 2 [.ref 32, .ref 45, .ref 46, .ref 47, .ref 48, .int (nI n), .long (lI (if t < ins n ld k i then t + fst1 ld k i else t - ins n ld k i)), .long fa, .long fb])) := by
  obtain ⟨r1, r2, r3, r4, r5⟩ := id hR
  have x1 := hep (2 * i) (by omega)
  have x2 := hep (2 * i + 1) (by omega)
  have h71 := eps_le ld (2 * i)
  have h72 := eps_le ld (2 * i + 1)
  have htp := tp_le6 hn ld hk i i
  have i2 : (2 : Int32) * nI i = nI (2 * i) := pk_mul 2 i
  have tail : ∀ (a b : Int), a = fst1 ld k i → b = lst1 ld k i → 0 ≤ a → a ≤ 1 → 0 ≤ b → b ≤ 1 → zV E mX2_isInside 1 (fun r w' => r = some (.int (zq (t < ins n ld k i))) ∧ w' = va_up w 31 (zOb 2 [.ref 32, .ref 45, .ref 46, .ref 47, .ref 48, .int (nI n), .long (lI (if t < ins n ld k i then t + fst1 ld k i else t - ins n ld k i)), .long fa, .long fb])) 45 [.ref 31, .int (nI i), .int (nI k), .long (lI a), zU, .long (lI b), zU, zU, zU] [] w := by
    intro a b ha hb a0 a1 b0 b1
    have hin : ins n ld k i = (tp n ld k i i : Int) - a - b := by unfold ins; rw [ha, hb]
    refine zV.run kX2_isInside 1 rfl ?_
    refine zV.gf kX2_isInside rfl fX2_12 (r1) rfl ?_
    refine zV.run kX2_isInside 3 rfl ?_
    refine zV.cv kX2_isInside rfl lX2_93 (o_between E hP (i := i) (j := i) (k := k) (by omega) (by omega) (by omega)) (by decide) rfl (hP.1) rfl rfl rfl (Nat.le_of_ble_eq_true rfl) ?_
    rintro _ _ ⟨rfl, rfl⟩
    refine zV.run kX2_isInside 6 rfl ?_
    rw [hr k i i hk hi hi, lN_lI, lI_sub, lI_sub, ← hin]
    refine zV.gf kX2_isInside rfl fX2_79 (r1) rfl ?_
    refine zV.run kX2_isInside 1 rfl ?_
    refine zV.il2 kX2_isInside rfl rfl (fun c => ?_) (fun c => ?_)
    · skip
      have c := (lI_le (a := ins n ld k i) (b := t) (by omega) (by omega) (by omega) (by omega)).mp c
      refine zV.run kX2_isInside 2 rfl ?_
      refine zV.gf kX2_isInside rfl fX2_79 (r1) rfl ?_
      refine zV.run kX2_isInside 2 rfl ?_
      refine zV.pfl kX2_isInside rfl pX2_79 (r1) (Nat.le_of_ble_eq_true rfl) ?_
      rw [lI_sub]
      refine zV.run kX2_isInside 1 rfl ?_
      exact zV.zret kX2_isInside rfl rfl (Or.inl rfl) (⟨by rw [zq_f (by omega)], by rw [if_neg (by omega)]; rfl⟩)
    · skip
      have c := mt (lI_le (a := ins n ld k i) (b := t) (by omega) (by omega) (by omega) (by omega)).mpr c
      refine zV.run kX2_isInside 2 rfl ?_
      refine zV.gf kX2_isInside rfl fX2_79 (r1) rfl ?_
      refine zV.run kX2_isInside 2 rfl ?_
      refine zV.pfl kX2_isInside rfl pX2_79 (r1) (Nat.le_of_ble_eq_true rfl) ?_
      rw [lI_add]
      refine zV.run kX2_isInside 1 rfl ?_
      exact zV.zret kX2_isInside rfl rfl (Or.inr rfl) (⟨by rw [zq_t (by omega)], by rw [if_pos (by omega), ← ha]; rfl⟩)
  have mid : ∀ a : Int, a = fst1 ld k i → 0 ≤ a → a ≤ 1 → zV E mX2_isInside 1 (fun r w' => r = some (.int (zq (t < ins n ld k i))) ∧ w' = va_up w 31 (zOb 2 [.ref 32, .ref 45, .ref 46, .ref 47, .ref 48, .int (nI n), .long (lI (if t < ins n ld k i then t + fst1 ld k i else t - ins n ld k i)), .long fa, .long fb])) 21 [.ref 31, .int (nI i), .int (nI k), .long (lI a), zU, zU, zU, zU, zU] [] w := by
    intro a ha a0 a1
    refine zV.run kX2_isInside 1 rfl ?_
    refine zV.gf kX2_isInside rfl fX2_22 (r1) rfl ?_
    refine zV.run kX2_isInside 5 rfl ?_
    refine zV.ial kX2_isInside rfl (r3) (2 * i + 1) (by rw [i2, nI_1]) (by omega) (by decide) ?_
    rw [x2]
    refine zV.run kX2_isInside 1 rfl ?_
    refine zV.cn kX2_isInside rfl lX2_61 rfl (o_divides E w (d := (eps ld (2 * i + 1)).1) (k := k) (by omega) (by omega)) (by decide) rfl rfl (Nat.le_of_ble_eq_true rfl) ?_
    rintro _ _ ⟨rfl, rfl⟩
    refine zV.if2 kX2_isInside rfl (fun c => ?_) (fun c => ?_)
    · skip
      have c := zq_eq0.mp c
      refine zV.run kX2_isInside 2 rfl ?_
      exact tail a 0 ha (by unfold lst1 dv; simp [c]) a0 a1 (by omega) (by omega)
    · skip
      have c := Decidable.not_not.mp (mt zq_eq0.mpr c)
      refine zV.run kX2_isInside 3 rfl ?_
      exact tail a 1 ha (by unfold lst1 dv; simp [c]) a0 a1 (by omega) (by omega)
  refine zOk.of (by decide +kernel) (Nat.le_of_ble_eq_true rfl) ?_
  refine zV.run kX2_isInside 1 rfl ?_
  refine zV.gf kX2_isInside rfl fX2_22 (r1) rfl ?_
  refine zV.run kX2_isInside 3 rfl ?_
  refine zV.ial kX2_isInside rfl (r3) (2 * i) (i2) (by omega) (by decide) ?_
  rw [x1]
  refine zV.run kX2_isInside 1 rfl ?_
  refine zV.cn kX2_isInside rfl lX2_61 rfl (o_divides E w (d := (eps ld (2 * i)).1) (k := k) (by omega) (by omega)) (by decide) rfl rfl (Nat.le_of_ble_eq_true rfl) ?_
  rintro _ _ ⟨rfl, rfl⟩
  refine zV.if2 kX2_isInside rfl (fun c => ?_) (fun c => ?_)
  · skip
    have c := zq_eq0.mp c
    refine zV.run kX2_isInside 2 rfl ?_
    exact mid 0 (by unfold fst1 dv; simp [c]) (by omega) (by omega)
  · skip
    have c := Decidable.not_not.mp (mt zq_eq0.mpr c)
    refine zV.run kX2_isInside 3 rfl ?_
    exact mid 1 (by unfold fst1 dv; simp [c]) (by omega) (by omega)
end
section
/-! ===== Returns: nextSpan, walk, find ===== -/
abbrev zRo (n : Nat) (tq fa fb : Int64) : va_E := zOb 2 [.ref 32, .ref 45, .ref 46, .ref 47, .ref 48, .int (nI n), .long tq, .long fa, .long fb]
theorem nsf_rg (n : Nat) (ld : Nat → Nat) (c home rest : Nat) (up : Bool) (hn : n ≤ 5) (hr6 : rest ≤ 6) : ∀ (r q : Nat) (t : Int), q + r = n → ((nsf n ld c home rest up r q t).1 = -1 ∨ (0 ≤ (nsf n ld c home rest up r q t).1 ∧ (nsf n ld c home rest up r q t).1 < n)) ∧ t - 15625 * r ≤ (nsf n ld c home rest up r q t).2 ∧ (nsf n ld c home rest up r q t).2 ≤ t
  | 0, q, t, h => ⟨Or.inl rfl, by show t - 15625 * (0 : Nat) ≤ t; omega, by show t ≤ t; omega⟩
  | r + 1, q, t, h => by
    obtain ⟨NX, TH, p1, p2, p3, p4⟩ : ∃ (NX : Nat) (TH : Int), NX < n ∧ 0 ≤ TH ∧ TH ≤ 15625 ∧ nsf n ld c home rest up (r + 1) q t = if t < TH then ((NX : Int), t) else nsf n ld c home rest up r (q + 1) (t - TH) := by
      refine ⟨if up = true then q else n - 1 - q, if cov ld c (if up = true then q else n - 1 - q) = true then (tp n ld rest (if up = true then q else n - 1 - q) home : Int) else 0, by split <;> omega, ?_, ?_, rfl⟩
      · split <;> omega
      · have h1 := tp_le6 hn ld hr6 (if up = true then q else n - 1 - q) home
        generalize (if up = true then q else n - 1 - q) = z at *
        split <;> omega
    have h2 := nsf_rg n ld c home rest up hn hr6 r (q + 1) (t - TH) (by omega)
    rw [p4]
    by_cases hc : t < TH
    · rw [if_pos hc]
      exact ⟨Or.inr ⟨by show (0 : Int) ≤ (NX : Int); omega, by show (NX : Int) < n; omega⟩, by show t - 15625 * ((r + 1 : Nat) : Int) ≤ t; omega, by show t ≤ t; omega⟩
    · rw [if_neg hc]
      exact ⟨h2.1, by omega, by omega⟩
theorem o_nextSpan_l (E : zE) {w0 : zWd} {f g n : Nat} {ld : Nat → Nat} {fa fb : Int64} {rw : Nat → Nat → Int64} (hF0 : zFo w0 f g n ld) (hf31 : f < 31) (hg31 : g < 31) (hP0 : zPw w0 32 n rw) (hrr : ∀ q a b, q ≤ 6 → a < n → b < n → rw q (5 * a + b) = lN (tp n ld q a b)) {c home rest : Nat} (hc : c < n) (hh : home < n) (hrest : rest ≤ 6) (up : Bool) :
    ∀ (r q : Nat) (t : Int) (w : zWd) (z7 z8 z9 : Value), q + r = n → zIs w 31 (zRo n (lI t) fa fb) → (∀ a, a ≠ 31 → w a = w0 a) → -1000000000000 + 15625 * r ≤ t → t ≤ 1000000000000 → zV E mX2_nextSpan 2 (fun r' w' => r' = some (.int (iI (nsf n ld c home rest up r q t).1)) ∧ zIs w' 31 (zRo n (lI (nsf n ld c home rest up r q t).2) fa fb) ∧ ∀ a, a ≠ 31 → w' a = w0 a) 3 [.ref 31, .ref f, .int (nI c), .int (nI home), .int (nI rest), .int (zq (up = true)), .int (nI q), z7, z8, z9] [] w := by
  obtain ⟨led, hf0, -, -, h1, h5, hb⟩ := id hF0
  intro r
  induction r with
  | zero =>
    intro q t w z7 z8 z9 hq r1 hw ht ht2
    have e : q = n := by omega
    subst e
    refine zV.run kX2_nextSpan 2 rfl ?_
    refine zV.gf kX2_nextSpan rfl fX2_33 (r1) rfl ?_
    refine zV.ict kX2_nextSpan (cd := .ge) rfl (Int32.le_refl _) ?_
    refine zV.run kX2_nextSpan 1 rfl ?_
    exact zV.iret kX2_nextSpan rfl rfl (⟨rfl, r1, hw⟩)
  | succ r ih =>
    intro q t w z7 z8 z9 hq r1 hw ht ht2
    have hF : zFo w f g n ld := hF0.k (hw f (by omega)) (hw g (by omega))
    have hf : zIs w f (zOb 0 [.int (nI n), .ref g]) := hf0.k (hw f (by omega))
    have hP : zPw w 32 n rw := ⟨hP0.1.k (hw _ (by omega)), ⟨hP0.2.1.choose, hP0.2.1.choose_spec.1.k (hw _ (by omega)), hP0.2.1.choose_spec.2⟩, fun j hj => (hP0.2.2 j hj).k (hw _ (by omega))⟩
    have main : ∀ (nx : Nat) (y8 y9 : Value), nx = (if up = true then q else n - 1 - q) → zV E mX2_nextSpan 2 (fun r' w' => r' = some (.int (iI (nsf n ld c home rest up (r + 1) q t).1)) ∧ zIs w' 31 (zRo n (lI (nsf n ld c home rest up (r + 1) q t).2) fa fb) ∧ ∀ a, a ≠ 31 → w' a = w0 a) 33 [.ref 31, .ref f, .int (nI c), .int (nI home), .int (nI rest), .int (zq (up = true)), .int (nI q), .int (nI nx), y8, y9] [] w := by
      intro nx y8 y9 hnx
      have hnn : nx < n := by rw [hnx]; split <;> omega
      have htp := tp_le6 h5 ld hrest nx home
      have tail : ∀ th : Nat, (th : Int) = (if cov ld c nx = true then (tp n ld rest nx home : Int) else 0) → th ≤ 15625 → zV E mX2_nextSpan 2 (fun r' w' => r' = some (.int (iI (nsf n ld c home rest up (r + 1) q t).1)) ∧ zIs w' 31 (zRo n (lI (nsf n ld c home rest up (r + 1) q t).2) fa fb) ∧ ∀ a, a ≠ 31 → w' a = w0 a) 61 [.ref 31, .ref f, .int (nI c), .int (nI home), .int (nI rest), .int (zq (up = true)), .int (nI q), .int (nI nx), .long (lN th), zU] [] w := by
        intro th hth hth2
        have eq1 : nsf n ld c home rest up (r + 1) q t = if t < (th : Int) then ((nx : Int), t) else nsf n ld c home rest up r (q + 1) (t - (th : Int)) := by
          rw [hth, hnx]; rfl
        rw [eq1]
        refine zV.run kX2_nextSpan 1 rfl ?_
        refine zV.gf kX2_nextSpan rfl fX2_79 (r1) rfl ?_
        rw [lN_lI]
        refine zV.run kX2_nextSpan 1 rfl ?_
        refine zV.il2 kX2_nextSpan rfl rfl (fun cc => ?_) (fun cc => ?_)
        · skip
          have cc := (lI_le (a := (th : Int)) (b := t) (by omega) (by omega) (by omega) (by omega)).mp cc
          rw [if_neg (by omega)]
          refine zV.run kX2_nextSpan 2 rfl ?_
          refine zV.gf kX2_nextSpan rfl fX2_79 (r1) rfl ?_
          refine zV.run kX2_nextSpan 2 rfl ?_
          refine zV.pfl kX2_nextSpan rfl pX2_79 (r1) (Nat.le_of_ble_eq_true rfl) ?_
          refine zV.run kX2_nextSpan 2 rfl ?_
          rw [nI_1, lI_sub]
          exact ih (q + 1) (t - (th : Int)) _ _ _ _ (by omega) (zIs.s r1.1) (fun a ha => by rw [zup_ne ha]; exact hw a ha) (by omega) (by omega)
        · skip
          have cc := mt (lI_le (a := (th : Int)) (b := t) (by omega) (by omega) (by omega) (by omega)).mpr cc
          rw [if_pos (by omega)]
          refine zV.run kX2_nextSpan 1 rfl ?_
          exact zV.iret kX2_nextSpan rfl rfl (⟨by rw [nI_iI], r1, hw⟩)
      refine zV.run kX2_nextSpan 3 rfl ?_
      refine zV.cv kX2_nextSpan rfl lX2_104 (o_leadsOver E hF hc hnn) (by decide) rfl (hf) rfl rfl rfl (Nat.le_of_ble_eq_true rfl) ?_
      rintro _ _ ⟨rfl, rfl⟩
      refine zV.if2 kX2_nextSpan rfl (fun c2 => ?_) (fun c2 => ?_)
      · skip
        have c2 := zq_eq0.mp c2
        refine zV.run kX2_nextSpan 2 rfl ?_
        exact tail 0 (by rw [if_neg c2]; rfl) (by omega)
      · skip
        have c2 := Decidable.not_not.mp (mt zq_eq0.mpr c2)
        refine zV.run kX2_nextSpan 1 rfl ?_
        refine zV.gf kX2_nextSpan rfl fX2_12 (r1) rfl ?_
        refine zV.run kX2_nextSpan 3 rfl ?_
        refine zV.cv kX2_nextSpan rfl lX2_93 (o_between E hP (i := nx) (j := home) (k := rest) (by omega) (by omega) (by omega)) (by decide) rfl (hP.1) rfl rfl rfl (Nat.le_of_ble_eq_true rfl) ?_
        rintro _ _ ⟨rfl, rfl⟩
        refine zV.run kX2_nextSpan 2 rfl ?_
        rw [hrr rest nx home hrest hnn hh]
        exact tail _ (by rw [if_pos c2]) htp
    refine zV.run kX2_nextSpan 2 rfl ?_
    refine zV.gf kX2_nextSpan rfl fX2_33 (r1) rfl ?_
    refine zV.icf kX2_nextSpan (cd := .ge) rfl (nI_ge (by omega) (by omega)) ?_
    refine zV.run kX2_nextSpan 1 rfl ?_
    refine zV.if2 kX2_nextSpan rfl (fun c1 => ?_) (fun c1 => ?_)
    · skip
      have c1 := zq_eq0.mp c1
      refine zV.run kX2_nextSpan 1 rfl ?_
      refine zV.gf kX2_nextSpan rfl fX2_33 (r1) rfl ?_
      refine zV.run kX2_nextSpan 5 rfl ?_
      rw [show (1 : Int32) = nI 1 from rfl, pk_sub h1, pk_sub (by omega)]
      exact main _ _ _ (by rw [if_neg c1])
    · skip
      have c1 := Decidable.not_not.mp (mt zq_eq0.mpr c1)
      refine zV.run kX2_nextSpan 3 rfl ?_
      exact main _ _ _ (by rw [if_pos c1])
theorem o_nextSpan (E : zE) {w : zWd} {f g n : Nat} {ld : Nat → Nat} {fa fb : Int64} {rw : Nat → Nat → Int64} (hF : zFo w f g n ld) (hf31 : f < 31) (hg31 : g < 31) (hP : zPw w 32 n rw) (hrr : ∀ q a b, q ≤ 6 → a < n → b < n → rw q (5 * a + b) = lN (tp n ld q a b)) {c home rest : Nat} (hc : c < n) (hh : home < n) (hrest : rest ≤ 6) (up : Bool) {t : Int} (r1 : zIs w 31 (zRo n (lI t) fa fb)) (ht : -1000000000000 + 15625 * n ≤ t) (ht2 : t ≤ 1000000000000) : zOk E mX2_nextSpan 2 [.ref 31, .ref f, .int (nI c), .int (nI home), .int (nI rest), .int (zq (up = true))] w (fun r' w' => r' = some (.int (iI (nsf n ld c home rest up n 0 t).1)) ∧ zIs w' 31 (zRo n (lI (nsf n ld c home rest up n 0 t).2) fa fb) ∧ ∀ a, a ≠ 31 → w' a = w a) := by
  refine zOk.of (by decide +kernel) (Nat.le_of_ble_eq_true rfl) ?_
  refine zV.run kX2_nextSpan 2 rfl ?_
  exact o_nextSpan_l E hF hf31 hg31 hP hrr hc hh hrest up n 0 t w _ _ _ (by omega) r1 (fun _ _ => rfl) ht ht2
theorem o_walk_l (E : zE) {w0 : zWd} {f g n k : Nat} {ld : Nat → Nat} {fa fb : Int64} {rw : Nat → Nat → Int64} (hF0 : zFo w0 f g n ld) (hf31 : f < 31) (hg31 : g < 31) (hP0 : zPw w0 32 n rw) (hrr : ∀ q a b, q ≤ 6 → a < n → b < n → rw q (5 * a + b) = lN (tp n ld q a b)) {home : Nat} (hh : home < n) :
    ∀ (r c : Nat) (S F t B : Int) (w : zWd) (z10 : Value), r ≤ 6 → c < n → -B ≤ S → S ≤ B → 1 ≤ B → B * 5 ^ r ≤ 15625 → -(100 * B - 50) ≤ F → F ≤ 100 * B - 50 → zIs w 31 (zRo n (lI t) fa fb) → (∀ a, a ≠ 31 → w a = w0 a) → -900000000000 + 100000 * r ≤ t → t ≤ 1000000000000 → zV E mX2_walk 3 (fun r' w' => r' = some (.int (zq ((wkf n ld home r c S F t).isSome = true))) ∧ zFd w0 w' n ld (wkf n ld home r c S F t)) 14 [.ref 31, .ref f, .int (nI k), .int (nI home), .long (lI S), zU, .long (lI F), zU, .int (nI c), .int (iI ((r : Int) - 1)), z10] [] w := by
  obtain ⟨led, hf0, hg0, hl, h1, h5, hb⟩ := id hF0
  intro r
  induction r with
  | zero =>
    intro c S F t B w z10 hr hc hS1 hS2 hB1 hB hF1 hF2 r1 hw ht ht2
    have hB2 : B ≤ 15625 := by simpa using hB
    refine zV.run kX2_walk 1 rfl ?_
    refine zV.ift kX2_walk (cd := .lt) rfl (show iI (((0 : Nat) : Int) - 1) < 0 by decide) ?_
    refine zV.run kX2_walk 5 rfl ?_
    rw [show (1 : Int64) = lI 1 from rfl, lI_sub]
    refine zV.cv kX2_walk rfl lX2_82 (o_settle E (ld := ld) r1 (a := F) (b := 1 - S) (by omega) (by omega) (by omega) (by omega)) (by decide) rfl (r1) rfl rfl rfl (Nat.le_of_ble_eq_true rfl) ?_
    rintro _ w9 ⟨rfl, q1, q2⟩
    exact zV.zret kX2_walk rfl rfl (zq01 _) (⟨rfl, fun a ha => (q1 a ha).trans (hw a ha), q2⟩)
  | succ r ih =>
    intro c S F t B w z10 hr hc hS1 hS2 hB1 hB hF1 hF2 r1 hw ht ht2
    have hF : zFo w f g n ld := hF0.k (hw f (by omega)) (hw g (by omega))
    have hf : zIs w f (zOb 0 [.int (nI n), .ref g]) := hf0.k (hw f (by omega))
    have hg : zIs w g (zIA 6 led) := hg0.k (hw g (by omega))
    have hP : zPw w 32 n rw := ⟨hP0.1.k (hw _ (by omega)), ⟨hP0.2.1.choose, hP0.2.1.choose_spec.1.k (hw _ (by omega)), hP0.2.1.choose_spec.2⟩, fun j hj => (hP0.2.2 j hj).k (hw _ (by omega))⟩
    have b1 := sl_rg h5 hb hc
    have lc := hb c (by omega)
    have m1 := mul5 b1.1 b1.2 hS1 hS2
    have m2 := mul5 b1.1 b1.2 hF1 hF2
    have m3 : -25 ≤ sl ld c * c ∧ sl ld c * c ≤ 25 := by
      have := mul5 (S := (c : Int)) (B := 5) b1.1 b1.2 (by omega) (by omega)
      rw [Int.mul_comm]
      omega
    have hB3 : (5 * B) * 5 ^ r ≤ 15625 := by rw [Int.pow_succ] at hB; rw [Int.mul_comm 5 B, Int.mul_assoc, Int.mul_comm 5]; exact hB
    have hB4 : 5 * B ≤ 15625 := by
      have p0 : (1 : Int) ≤ 5 ^ r := by
        have := Nat.pow_le_pow_right (show 0 < 5 by decide) (Nat.zero_le r)
        have h9 : ((5 ^ r : Nat) : Int) = (5 : Int) ^ r := by simp
        omega
      have := Int.mul_le_mul_of_nonneg_left p0 (show 0 ≤ 5 * B by omega)
      rw [Int.mul_one] at this
      omega
    have hb5 : B ≤ 3125 := by omega
    have rest1 : iI (((r + 1 : Nat) : Int) - 1) = nI r := by rw [nI_iI]; congr 1; omega
    refine zV.run kX2_walk 1 rfl ?_
    refine zV.iff kX2_walk (cd := .lt) rfl (by rw [rest1]; exact nI_pos (by omega)) ?_
    refine zV.run kX2_walk 2 rfl ?_
    refine zV.cv kX2_walk rfl lX2_65 (o_slopeOf E hF hc) (by decide) rfl (hf) rfl rfl rfl (Nat.le_of_ble_eq_true rfl) ?_
    rintro _ _ ⟨rfl, rfl⟩
    refine zV.run kX2_walk 11 rfl ?_
    refine zV.gf kX2_walk rfl fX2_97 (hf) rfl ?_
    refine zV.run kX2_walk 1 rfl ?_
    refine zV.ial kX2_walk rfl (hg) (c) (rfl) (by omega) (by decide) ?_
    refine zV.run kX2_walk 7 rfl ?_
    have eS : lI S * (iI (sl ld c)).toInt64 = lI (S * sl ld c) := by rw [iI_l (by omega) (by omega), lI_mul]
    have eF : (iI (sl ld c)).toInt64 * lI F + (led c).toInt64 - (iI (sl ld c) * nI c).toInt64 = lI (sl ld c * F + ld c - sl ld c * c) := by
      rw [hl c (by omega), nI_iI, nI_iI, iI_mul, iI_l (by omega) (by omega), iI_l (by omega) (by omega), iI_l (by omega) (by omega), lI_mul, lI_add, lI_sub]
    rw [eS, eF]
    have rg := nsf_rg n ld c home r (decide (0 < S * sl ld c)) h5 (by omega) n 0 t (by omega)
    have after : ∀ (w9 : zWd), zIs w9 31 (zRo n (lI (nsf n ld c home r (decide (0 < S * sl ld c)) n 0 t).2) fa fb) → (∀ a, a ≠ 31 → w9 a = w a) → zV E mX2_walk 3 (fun r' w' => r' = some (.int (zq ((wkf n ld home (r + 1) c S F t).isSome = true))) ∧ zFd w0 w' n ld (wkf n ld home (r + 1) c S F t)) 81 [.ref 31, .ref f, .int (nI k), .int (nI home), .long (lI (S * sl ld c)), zU, .long (lI (sl ld c * F + ld c - sl ld c * c)), zU, .int (nI c), .int (iI (((r + 1 : Nat) : Int) - 1)), .int (iI (sl ld c))] [.int (iI (nsf n ld c home r (decide (0 < S * sl ld c)) n 0 t).1)] w9 := by
      intro w9 r19 hw9
      refine zV.run kX2_walk 3 rfl ?_
      refine zV.ic2 kX2_walk rfl (fun c2 => ?_) (fun c2 => ?_)
      · skip
        have c2 : ¬ (nsf n ld c home r (decide (0 < S * sl ld c)) n 0 t).1 = -1 := fun q => c2 (by rw [q]; rfl)
        have hrg : 0 ≤ (nsf n ld c home r (decide (0 < S * sl ld c)) n 0 t).1 ∧ (nsf n ld c home r (decide (0 < S * sl ld c)) n 0 t).1 < n := rg.1.resolve_left c2
        have ew : wkf n ld home (r + 1) c S F t = wkf n ld home r (nsf n ld c home r (decide (0 < S * sl ld c)) n 0 t).1.toNat (S * sl ld c) (sl ld c * F + ld c - sl ld c * c) (nsf n ld c home r (decide (0 < S * sl ld c)) n 0 t).2 := if_neg c2
        rw [ew]
        refine zV.run kX2_walk 2 rfl ?_
        rw [show iI (((r + 1 : Nat) : Int) - 1) + (-1) = iI ((r : Int) - 1) by rw [show (-1 : Int32) = iI (-1) from rfl, iI_add]; congr 1; omega]
        rw [show iI (nsf n ld c home r (decide (0 < S * sl ld c)) n 0 t).1 = nI (nsf n ld c home r (decide (0 < S * sl ld c)) n 0 t).1.toNat by rw [nI_iI, Int.toNat_of_nonneg hrg.1]]
        have m2' : -(5 * (100 * B - 50)) ≤ sl ld c * F ∧ sl ld c * F ≤ 5 * (100 * B - 50) := by rw [Int.mul_comm (sl ld c) F]; exact m2
        exact ih _ _ _ _ (5 * B) w9 _ (by omega) (by omega) m1.1 m1.2 (by omega) hB3 (by omega) (by omega) r19 (fun a ha => (hw9 a ha).trans (hw a ha)) (by omega) (by omega)
      · skip
        have c2 : (nsf n ld c home r (decide (0 < S * sl ld c)) n 0 t).1 = -1 := (iI_eq (by omega) (by omega) (by omega) (by omega)).mp (show iI _ = iI (-1) from Decidable.not_not.mp c2)
        have ew : wkf n ld home (r + 1) c S F t = none := if_pos c2
        rw [ew]
        refine zV.run kX2_walk 1 rfl ?_
        exact zV.zret kX2_walk rfl rfl (Or.inl rfl) (⟨rfl, fun a ha => (hw9 a ha).trans (hw a ha), _, _, _, r19, fun p hp => by cases hp⟩)
    refine zV.run kX2_walk 8 rfl ?_
    refine zV.il2 kX2_walk rfl rfl (fun c1 => ?_) (fun c1 => ?_)
    · skip
      have c1 := (lI_le (a := S * sl ld c) (b := 0) (by omega) (by omega) (by omega) (by omega)).mp c1
      have eb : decide (0 < S * sl ld c) = false := decide_eq_false (by omega)
      refine zV.run kX2_walk 1 rfl ?_
      rw [show ((0 : Int32)) = zq (decide (0 < S * sl ld c) = true) by rw [eb]; rfl, rest1]
      refine zV.cv kX2_walk rfl lX2_100 (o_nextSpan E hF hf31 hg31 hP hrr hc hh (rest := r) (by omega) (decide (0 < S * sl ld c)) r1 (by omega) ht2) (by decide) rfl (r1) rfl rfl rfl (Nat.le_of_ble_eq_true rfl) ?_
      rintro _ w9 ⟨rfl, q1, q2⟩
      have K := after w9 q1 q2
      rw [rest1] at K
      exact K
    · skip
      have c1 := mt (lI_le (a := S * sl ld c) (b := 0) (by omega) (by omega) (by omega) (by omega)).mpr c1
      have eb : decide (0 < S * sl ld c) = true := decide_eq_true (by omega)
      refine zV.run kX2_walk 2 rfl ?_
      rw [show ((1 : Int32)) = zq (decide (0 < S * sl ld c) = true) by rw [eb]; rfl, rest1]
      refine zV.cv kX2_walk rfl lX2_100 (o_nextSpan E hF hf31 hg31 hP hrr hc hh (rest := r) (by omega) (decide (0 < S * sl ld c)) r1 (by omega) ht2) (by decide) rfl (r1) rfl rfl rfl (Nat.le_of_ble_eq_true rfl) ?_
      rintro _ w9 ⟨rfl, q1, q2⟩
      have K := after w9 q1 q2
      rw [rest1] at K
      exact K
theorem o_walk (E : zE) {w : zWd} {f g n k : Nat} {ld : Nat → Nat} {fa fb : Int64} {rw : Nat → Nat → Int64} (hF : zFo w f g n ld) (hf31 : f < 31) (hg31 : g < 31) (hP : zPw w 32 n rw) (hrr : ∀ q a b, q ≤ 6 → a < n → b < n → rw q (5 * a + b) = lN (tp n ld q a b)) {home : Nat} (hh : home < n) (hk : k ≤ 6) {t : Int} (r1 : zIs w 31 (zRo n (lI t) fa fb)) (ht : -800000000000 ≤ t) (ht2 : t ≤ 1000000000000) : zOk E mX2_walk 3 [.ref 31, .ref f, .int (nI k), .int (nI home)] w (fun r' w' => r' = some (.int (zq ((wkf n ld home k home 1 0 t).isSome = true))) ∧ zFd w w' n ld (wkf n ld home k home 1 0 t)) := by
  have hp : (1 : Int) * 5 ^ k ≤ 15625 := by
    have := Nat.pow_le_pow_right (show 0 < 5 by decide) hk
    have h9 : ((5 ^ k : Nat) : Int) = (5 : Int) ^ k := by simp
    omega
  refine zOk.of (by decide +kernel) (Nat.le_of_ble_eq_true rfl) ?_
  refine zV.run kX2_walk 10 rfl ?_
  rw [show nI k - 1 = iI ((k : Int) - 1) by rw [nI_iI, show (1 : Int32) = iI 1 from rfl, iI_sub]]
  exact o_walk_l E hF hf31 hg31 hP hrr hh k home 1 0 t 1 w _ hk hh (by omega) (by omega) (by omega) hp (by omega) (by omega) r1 (fun _ _ => rfl) (by omega) ht2
theorem o_find_l (E : zE) {w0 : zWd} {f g n k : Nat} {ld : Nat → Nat} {fa fb : Int64} {cp ep es : Nat → Int32} {nw : Nat → Int64} {rw : Nat → Nat → Int64} (hF0 : zFo w0 f g n ld) (hf31 : f < 31) (hg31 : g < 31) (hP0 : zPw w0 32 n rw) (hrr : ∀ q a b, q ≤ 6 → a < n → b < n → rw q (5 * a + b) = lN (tp n ld q a b)) (r2 : zIs w0 45 (zIA 6 cp)) (r3 : zIs w0 46 (zIA 10 ep)) (r4 : zIs w0 47 (zZA 10 es)) (r5 : zIs w0 48 (zLA 7 nw)) (hcp : ∀ i, i ≤ n → cp i = nI (sor n ld i)) (hep : ∀ e, e < 2 * n → ep e = nI (eps ld e).1) (hk : k ≤ 6) (ix : Int32) :
    ∀ (r i : Nat) (t : Int) (w : zWd), i + r = n + 1 → zIs w 31 (zRo n (lI t) fa fb) → (∀ a, a ≠ 31 → w a = w0 a) → -700000000000 + 20000 * r ≤ t → t ≤ 900000000000 - 20000 * r → zV E mX2_find 4 (fun r' w' => r' = some (.int (zq ((fdf n ld k r i t).isSome = true))) ∧ zFd w0 w' n ld (fdf n ld k r i t)) 9 [.ref 31, .ref f, .int (nI k), .int ix, .int (nI i)] [] w := by
  obtain ⟨led, hf0, hg0, hl, h1, h5, hb⟩ := id hF0
  intro r
  induction r with
  | zero =>
    intro i t w hi r1 hw ht ht2
    have e : i = n + 1 := by omega
    subst e
    refine zV.run kX2_find 2 rfl ?_
    refine zV.gf kX2_find rfl fX2_33 (r1) rfl ?_
    refine zV.ict kX2_find (cd := .gt) rfl (nI_lt (by omega) (by omega)) ?_
    refine zV.run kX2_find 1 rfl ?_
    exact zV.zret kX2_find rfl rfl (Or.inl rfl) (⟨rfl, hw, _, _, _, r1, fun p hp => by cases hp⟩)
  | succ r ih =>
    intro i t w hi r1 hw ht ht2
    have hF : zFo w f g n ld := hF0.k (hw f (by omega)) (hw g (by omega))
    have hP : zPw w 32 n rw := ⟨hP0.1.k (hw _ (by omega)), ⟨hP0.2.1.choose, hP0.2.1.choose_spec.1.k (hw _ (by omega)), hP0.2.1.choose_spec.2⟩, fun j hj => (hP0.2.2 j hj).k (hw _ (by omega))⟩
    have hx := hcp i (by omega)
    have h7 := sor_le n ld i
    have part2 : ∀ (t1 : Int) (w1 : zWd), t1 = t - (if dv (sor n ld i) k = true then 1 else 0) → ¬ (dv (sor n ld i) k = true ∧ t = 0) → zIs w1 31 (zRo n (lI t1) fa fb) → (∀ a, a ≠ 31 → w1 a = w0 a) → t - 1 ≤ t1 → t1 ≤ t → zV E mX2_find 4 (fun r' w' => r' = some (.int (zq ((fdf n ld k (r + 1) i t).isSome = true))) ∧ zFd w0 w' n ld (fdf n ld k (r + 1) i t)) 60 [.ref 31, .ref f, .int (nI k), .int ix, .int (nI i)] [] w1 := by
      intro t1 w1 et1 hne q1 hw1 l1 l2
      have hF1 : zFo w1 f g n ld := hF0.k (hw1 f (by omega)) (hw1 g (by omega))
      have hP1 : zPw w1 32 n rw := ⟨hP0.1.k (hw1 _ (by omega)), ⟨hP0.2.1.choose, hP0.2.1.choose_spec.1.k (hw1 _ (by omega)), hP0.2.1.choose_spec.2⟩, fun j hj => (hP0.2.2 j hj).k (hw1 _ (by omega))⟩
      have ef : fdf n ld k (r + 1) i t = if i < n ∧ t1 < ins n ld k i then wkf n ld i k i 1 0 (t1 + fst1 ld k i) else fdf n ld k r (i + 1) (if i < n then t1 - ins n ld k i else t1) := by
        show (if dv (sor n ld i) k = true ∧ t = 0 then _ else _) = _
        rw [if_neg hne, ← et1]
      rw [ef]
      refine zV.run kX2_find 2 rfl ?_
      refine zV.gf kX2_find rfl fX2_33 (q1) rfl ?_
      refine zV.ic2 kX2_find rfl (fun c => ?_) (fun c => ?_)
      · skip
        have c := (nI_leI (by omega) (by omega)).mp c
        rw [if_neg (fun z => absurd z.1 (by omega)), if_neg (show ¬ i < n by omega)]
        refine zV.run kX2_find 2 rfl ?_
        rw [nI_1]
        exact ih (i + 1) t1 w1 (by omega) q1 hw1 (by omega) (by omega)
      · skip
        have c := mt (nI_leI (a := n) (b := i) (by omega) (by omega)).mpr c
        have hin : i < n := by omega
        have hR1 : zRt w1 n (lI t1) fa fb cp ep es nw := ⟨q1, r2.k (hw1 45 (by decide)), r3.k (hw1 46 (by decide)), r4.k (hw1 47 (by decide)), r5.k (hw1 48 (by decide))⟩
        have htp := tp_le6 h5 ld hk i i
        have f01 : 0 ≤ fst1 ld k i ∧ fst1 ld k i ≤ 1 := by unfold fst1; split <;> omega
        have l01 : 0 ≤ lst1 ld k i ∧ lst1 ld k i ≤ 1 := by unfold lst1; split <;> omega
        have hir : -2 ≤ ins n ld k i ∧ ins n ld k i ≤ 15625 := by unfold ins; omega
        refine zV.run kX2_find 3 rfl ?_
        refine zV.cv kX2_find rfl lX2_86 (o_isInside E hR1 hP1 hrr hep h5 hin hk (by omega) (by omega)) (by decide) rfl (q1) rfl rfl rfl (Nat.le_of_ble_eq_true rfl) ?_
        rintro _ w2 ⟨rfl, e2⟩
        have g2 : zIs w2 31 (zRo n (lI (if t1 < ins n ld k i then t1 + fst1 ld k i else t1 - ins n ld k i)) fa fb) := by rw [e2]; exact zIs.s q1.1
        have hw2 : ∀ a, a ≠ 31 → w2 a = w0 a := fun a ha => by rw [e2, zup_ne ha]; exact hw1 a ha
        refine zV.if2 kX2_find rfl (fun c2 => ?_) (fun c2 => ?_)
        · skip
          have c2 := zq_eq0.mp c2
          rw [if_neg (fun z => c2 z.2), if_pos hin]
          rw [if_neg c2] at g2
          refine zV.run kX2_find 2 rfl ?_
          rw [nI_1]
          exact ih (i + 1) _ w2 (by omega) g2 hw2 (by omega) (by omega)
        · skip
          have c2 := Decidable.not_not.mp (mt zq_eq0.mpr c2)
          rw [if_pos ⟨hin, c2⟩]
          rw [if_pos c2] at g2
          have hF2 : zFo w2 f g n ld := hF0.k (hw2 f (by omega)) (hw2 g (by omega))
          have hP2 : zPw w2 32 n rw := ⟨hP0.1.k (hw2 _ (by omega)), ⟨hP0.2.1.choose, hP0.2.1.choose_spec.1.k (hw2 _ (by omega)), hP0.2.1.choose_spec.2⟩, fun j hj => (hP0.2.2 j hj).k (hw2 _ (by omega))⟩
          refine zV.run kX2_find 4 rfl ?_
          refine zV.cv kX2_find rfl lX2_89 (o_walk E hF2 hf31 hg31 hP2 hrr hin hk g2 (by omega) (by omega)) (by decide) rfl (g2) rfl rfl rfl (Nat.le_of_ble_eq_true rfl) ?_
          rintro _ w3 ⟨rfl, q3, q4⟩
          exact zV.zret kX2_find rfl rfl (zq01 _) (⟨rfl, fun a ha => (q3 a ha).trans (hw2 a ha), q4⟩)
    refine zV.run kX2_find 2 rfl ?_
    refine zV.gf kX2_find rfl fX2_33 (r1) rfl ?_
    refine zV.icf kX2_find (cd := .gt) rfl (nI_nlt (by omega) (by omega)) ?_
    refine zV.run kX2_find 1 rfl ?_
    refine zV.gf kX2_find rfl fX2_18 (r1) rfl ?_
    refine zV.run kX2_find 1 rfl ?_
    refine zV.ial kX2_find rfl (r2.k (hw 45 (by decide))) (i) (rfl) (by omega) (by decide) ?_
    rw [hx]
    refine zV.run kX2_find 1 rfl ?_
    refine zV.cn kX2_find rfl lX2_61 rfl (o_divides E w (d := sor n ld i) (k := k) (by omega) (by omega)) (by decide) rfl rfl (Nat.le_of_ble_eq_true rfl) ?_
    rintro _ _ ⟨rfl, rfl⟩
    refine zV.if2 kX2_find rfl (fun c => ?_) (fun c => ?_)
    · skip
      have c := zq_eq0.mp c
      have hd : ¬ dv (sor n ld i) k = true := by unfold dv; simpa using c
      exact part2 t w (by rw [if_neg hd]; omega) (fun z => hd z.1) r1 hw (by omega) (by omega)
    · skip
      have c := Decidable.not_not.mp (mt zq_eq0.mpr c)
      have hd : dv (sor n ld i) k = true := by unfold dv; simpa using c
      refine zV.run kX2_find 1 rfl ?_
      refine zV.gf kX2_find rfl fX2_79 (r1) rfl ?_
      refine zV.run kX2_find 1 rfl ?_
      refine zV.il2 kX2_find rfl rfl (fun c2 => ?_) (fun c2 => ?_)
      · skip
        have c2 : ¬ t = 0 := fun q => c2 (by rw [q]; rfl)
        refine zV.run kX2_find 2 rfl ?_
        refine zV.gf kX2_find rfl fX2_79 (r1) rfl ?_
        refine zV.run kX2_find 2 rfl ?_
        refine zV.pfl kX2_find rfl pX2_79 (r1) (Nat.le_of_ble_eq_true rfl) ?_
        rw [show (1 : Int64) = lI 1 from rfl, lI_sub]
        exact part2 (t - 1) _ (by rw [if_pos hd]) (fun z => c2 z.2) (zIs.s r1.1) (fun a ha => by rw [zup_ne ha]; exact hw a ha) (by omega) (by omega)
      · skip
        have c2 : t = 0 := (lI_eq (a := t) (b := 0) (by omega) (by omega) (by omega) (by omega)).mp (Decidable.not_not.mp c2)
        have ef : fdf n ld k (r + 1) i t = stl i 1 := if_pos ⟨hd, c2⟩
        rw [ef]
        refine zV.run kX2_find 4 rfl ?_
        rw [nI_iI i, iI_l (by omega) (by omega), show (1 : Int64) = lI 1 from rfl]
        refine zV.cv kX2_find rfl lX2_82 (o_settle E (ld := ld) r1 (a := (i : Int)) (b := 1) (by omega) (by omega) (by omega) (by omega)) (by decide) rfl (r1) rfl rfl rfl (Nat.le_of_ble_eq_true rfl) ?_
        rintro _ w3 ⟨rfl, q3, q4⟩
        exact zV.zret kX2_find rfl rfl (zq01 _) (⟨rfl, fun a ha => (q3 a ha).trans (hw a ha), q4⟩)
theorem o_find (E : zE) {w : zWd} {f g n k : Nat} {ld : Nat → Nat} (hS : zSd w n ld) (hF : zFo w f g n ld) (hf31 : f < 31) (hg31 : g < 31) (hk : k ≤ 6) {ix : Nat} (hix : ix < 2 ^ 31) : zOk E mX2_find 4 [.ref 31, .ref f, .int (nI k), .int (nI ix)] w (fun r' w' => r' = some (.int (zq ((fdf n ld k (n + 1) 0 ix).isSome = true))) ∧ zFd w w' n ld (fdf n ld k (n + 1) 0 ix)) := by
  obtain ⟨tq, fa, fb, cp, ep, es, nw, rw, ⟨r1, r2, r3, r4, r5⟩, hP, hr, hcp, hep, hnw⟩ := id hS
  obtain ⟨led, hf0, hg0, hl, h1, h5, hb⟩ := id hF
  refine zOk.of (by decide +kernel) (Nat.le_of_ble_eq_true rfl) ?_
  refine zV.run kX2_find 3 rfl ?_
  refine zV.pfl kX2_find rfl pX2_79 (r1) (Nat.le_of_ble_eq_true rfl) ?_
  refine zV.run kX2_find 2 rfl ?_
  rw [nI_iI ix, iI_l (by omega) (by omega)]
  refine zV.mono (fun r' w' hp => ⟨hp.1, fun a ha => ?_, hp.2.2⟩) (o_find_l E (hF.n (a := 31) (by omega) (by omega)) hf31 hg31 ⟨hP.1.n (by decide), ⟨hP.2.1.choose, hP.2.1.choose_spec.1.n (by decide), hP.2.1.choose_spec.2⟩, fun j hj => (hP.2.2 j hj).n (by omega)⟩ hr (r2.n (by decide)) (r3.n (by decide)) (r4.n (by decide)) (r5.n (by decide)) hcp (fun e he => (hep e he).1) hk (nI ix) (n + 1) 0 (ix : Int) _ (by omega) (zIs.s r1.1) (fun _ _ => rfl) (by omega) (by omega))
  rw [hp.2.1 a ha, zup_ne ha]
end
section
/-! ===== SpanMaps: the public methods ===== -/
abbrev zSt : Type := (Nat → Nat) × (Nat → Nat → Nat)
def zSys (w : zWd) (σ : zSt) : Prop := zIs w 0 (zOb 3 [.ref 1, .ref 18, .ref 31]) ∧ (∃ F, zIs w 1 (zRA 3 8 F) ∧ ∀ j, j < 8 → F j = some (2 + j)) ∧ (∀ m, m < 8 → zFo w (2 + m) (10 + m) (σ.1 m) (σ.2 m)) ∧ (∃ s rw, zPw w 18 s rw) ∧ (∃ s tq fa fb cp ep es nw, zRt w s tq fa fb cp ep es nw) ∧ (∃ s rw, zPw w 32 s rw)
def zFc (w w' : zWd) : Prop := ∀ a, 49 ≤ a → w' a = w a
def sset (σ : zSt) (t n : Nat) (ld : Nat → Nat) : zSt := (fun j => if j = t then n else σ.1 j, fun j => if j = t then ld else σ.2 j)
theorem zPw.k {w w' : zWd} {P s : Nat} {rw : Nat → Nat → Int64} (h : zPw w P s rw) (hw : ∀ a, P ≤ a → a < P + 13 → w' a = w a) : zPw w' P s rw :=
  ⟨h.1.k (hw _ (by omega) (by omega)), ⟨h.2.1.choose, h.2.1.choose_spec.1.k (hw _ (by omega) (by omega)), h.2.1.choose_spec.2⟩, fun j hj => (h.2.2 j hj).k (hw _ (by omega) (by omega))⟩
theorem zRt.k {w w' : zWd} {s : Nat} {tq fa fb : Int64} {cp ep es : Nat → Int32} {nw : Nat → Int64} (h : zRt w s tq fa fb cp ep es nw) (hw : ∀ a, 31 ≤ a → a < 49 → w' a = w a) : zRt w' s tq fa fb cp ep es nw :=
  ⟨h.1.k (hw _ (by omega) (by omega)), h.2.1.k (hw _ (by omega) (by omega)), h.2.2.1.k (hw _ (by omega) (by omega)), h.2.2.2.1.k (hw _ (by omega) (by omega)), h.2.2.2.2.k (hw _ (by omega) (by omega))⟩
theorem zSys.fold {w w' : zWd} {σ : zSt} {t n : Nat} {ld : Nat → Nat} (h : zSys w σ) (ht : t < 8) (hF : zFo w' (2 + t) (10 + t) n ld) (hw : ∀ a, a ≠ 2 + t → a ≠ 10 + t → w' a = w a) : zSys w' (sset σ t n ld) := by
  obtain ⟨h0, ⟨F, h1, h1f⟩, h2, ⟨s, rw, h3⟩, ⟨s4, tq, fa, fb, cp, ep, es, nw, h4⟩, ⟨s5, rw5, h5⟩⟩ := h
  refine ⟨h0.k (hw _ (by omega) (by omega)), ⟨F, h1.k (hw _ (by omega) (by omega)), h1f⟩, fun m hm => ?_, ⟨s, rw, h3.k (fun a _ _ => hw a (by omega) (by omega))⟩, ⟨s4, tq, fa, fb, cp, ep, es, nw, h4.k (fun a _ _ => hw a (by omega) (by omega))⟩, ⟨s5, rw5, h5.k (fun a _ _ => hw a (by omega) (by omega))⟩⟩
  by_cases e : m = t
  · subst e
    simp only [sset, if_true]
    exact hF
  · simp only [sset, e, if_false]
    exact (h2 m hm).k (hw _ (by omega) (by omega)) (hw _ (by omega) (by omega))
theorem zSys.pow {w w' : zWd} {σ : zSt} {s : Nat} {rw : Nat → Nat → Int64} (h : zSys w σ) (hP : zPw w' 18 s rw) (hw : ∀ a, (a < 18 ∨ 18 + 13 ≤ a) → w' a = w a) : zSys w' σ := by
  obtain ⟨h0, ⟨F, h1, h1f⟩, h2, -, ⟨s4, tq, fa, fb, cp, ep, es, nw, h4⟩, ⟨s5, rw5, h5⟩⟩ := h
  exact ⟨h0.k (hw _ (by omega)), ⟨F, h1.k (hw _ (by omega)), h1f⟩, fun m hm => (h2 m hm).k (hw _ (by omega)) (hw _ (by omega)), ⟨s, rw, hP⟩, ⟨s4, tq, fa, fb, cp, ep, es, nw, h4.k (fun a _ _ => hw a (by omega))⟩, ⟨s5, rw5, h5.k (fun a _ _ => hw a (by omega))⟩⟩
theorem zSys.ret {w w' : zWd} {σ : zSt} {n : Nat} {ld : Nat → Nat} (h : zSys w σ) (hS : zSd w' n ld) (hw : zFr w w') : zSys w' σ := by
  obtain ⟨h0, ⟨F, h1, h1f⟩, h2, ⟨s, rw, h3⟩, -, -⟩ := h
  obtain ⟨tq, fa, fb, cp, ep, es, nw, rw2, h4, h5, -⟩ := hS
  exact ⟨h0.k (hw _ (by omega)), ⟨F, h1.k (hw _ (by omega)), h1f⟩, fun m hm => (h2 m hm).k (hw _ (by omega)) (hw _ (by omega)), ⟨s, rw, h3.k (fun a _ _ => hw a (by omega))⟩, ⟨n, tq, fa, fb, cp, ep, es, nw, h4⟩, ⟨n, rw2, h5⟩⟩
theorem zSd.fd {w w' : zWd} {n : Nat} {ld : Nat → Nat} {o : Option (Int × Int)} (h : zSd w n ld) (hf : zFd w w' n ld o) : zSd w' n ld := by
  obtain ⟨tq, fa, fb, cp, ep, es, nw, rw, ⟨r1, r2, r3, r4, r5⟩, h5, h6⟩ := h
  obtain ⟨hw, tq2, fa2, fb2, q, -⟩ := hf
  exact ⟨tq2, fa2, fb2, cp, ep, es, nw, rw, ⟨q, r2.k (hw _ (by decide)), r3.k (hw _ (by decide)), r4.k (hw _ (by decide)), r5.k (hw _ (by decide))⟩, h5.k (fun a _ _ => hw a (by omega)), h6⟩
theorem i32_nI {x : Int32} (h : 0 ≤ x.toInt) : x = nI x.toInt.toNat := by
  rw [nI_iI, Int.toNat_of_nonneg h]
  exact iI_of x
theorem i64_lI (x : Int64) : x = lI x.toInt := lI_of x
theorem lI_nat {z : Int} (h : 0 ≤ z) : lI z = lN z.toNat := by rw [lN_lI, Int.toNat_of_nonneg h]
abbrev okM (m : Int32) : Prop := 0 ≤ m.toInt ∧ m.toInt < 8
abbrev zPo (w : zWd) (v : Value) (σ : zSt) : Option Value → zWd → Prop := fun r w' => r = some v ∧ zSys w' σ ∧ zFc w w'
theorem p_map (E : zE) {w : zWd} {σ : zSt} (h : zSys w σ) (m n : Int32) : zOk E mX3_map 1 [.ref 0, .int m, .int n] w (zPo w (.int (if okM m ∧ 1 ≤ n.toInt ∧ n.toInt ≤ 5 then 1 else -2)) (if okM m ∧ 1 ≤ n.toInt ∧ n.toInt ≤ 5 then sset σ m.toInt.toNat n.toInt.toNat (fun _ => 0) else σ)) := by
  obtain ⟨x0, ⟨F, x1, x1f⟩, x2, -, -, -⟩ := id h
  refine zOk.of (by decide +kernel) (Nat.le_of_ble_eq_true rfl) ?_
  refine zV.run kX3_map 1 rfl ?_
  refine zV.cs kX3_map rfl lX3_30 (o_isMap E w m) (by decide) rfl rfl (Nat.le_of_ble_eq_true rfl) ?_
  rintro _ _ ⟨rfl, rfl⟩
  refine zV.if2 kX3_map rfl (fun c => ?_) (fun c => ?_)
  · skip
    have c := zq_eq0.mp c
    rw [if_neg (fun q => c q.1), if_neg (fun q => c q.1)]
    refine zV.run kX3_map 1 rfl ?_
    exact zV.iret kX3_map rfl rfl (⟨rfl, h, fun _ _ => rfl⟩)
  · skip
    have c := Decidable.not_not.mp (mt zq_eq0.mpr c)
    refine zV.run kX3_map 2 rfl ?_
    refine zV.ic2 kX3_map rfl (fun c2 => ?_) (fun c2 => ?_)
    · skip
      have c2 : n.toInt < 1 := i32_lt.mp c2
      rw [if_neg (fun q => absurd q.2.1 (by omega)), if_neg (fun q => absurd q.2.1 (by omega))]
      refine zV.run kX3_map 1 rfl ?_
      exact zV.iret kX3_map rfl rfl (⟨rfl, h, fun _ _ => rfl⟩)
    · skip
      have c2 : 1 ≤ n.toInt := i32_le.mp (Int32.not_lt.mp c2)
      refine zV.run kX3_map 2 rfl ?_
      refine zV.ic2 kX3_map rfl (fun c3 => ?_) (fun c3 => ?_)
      · skip
        have c3 : n.toInt ≤ 5 := i32_le.mp c3
        obtain ⟨mm, emm⟩ : ∃ mm, mm = m.toInt.toNat := ⟨_, rfl⟩
        have em : m = nI mm := by rw [emm]; exact i32_nI c.1
        have hm : mm < 8 := by omega
        obtain ⟨nn, enn⟩ : ∃ nn, nn = n.toInt.toNat := ⟨_, rfl⟩
        have en : n = nI nn := by rw [enn]; exact i32_nI (by omega)
        rw [if_pos ⟨c, c2, c3⟩, if_pos ⟨c, c2, c3⟩, ← emm, ← enn]
        obtain ⟨led, hf, hg, -⟩ := id (x2 mm hm)
        refine zV.run kX3_map 1 rfl ?_
        refine zV.gf kX3_map rfl fX3_11 (x0) rfl ?_
        refine zV.run kX3_map 1 rfl ?_
        refine zV.aalF kX3_map rfl (x1) mm (em) (hm) (by decide) (x1f mm hm) ?_
        rw [en]
        refine zV.run kX3_map 1 rfl ?_
        refine zV.cv kX3_map rfl lX3_34 (o_flatten E (x2 mm hm) (n := nn) (by omega) (by omega) (by omega)) (by decide) rfl (hf) rfl rfl rfl (Nat.le_of_ble_eq_true rfl) ?_
        rintro _ w9 ⟨rfl, q1, q2⟩
        refine zV.run kX3_map 1 rfl ?_
        exact zV.iret kX3_map rfl rfl (⟨rfl, h.fold hm q1 q2, fun a ha => q2 a (by omega) (by omega)⟩)
      · skip
        have c3 : 5 < n.toInt := i32_lt.mp (Int32.not_le.mp c3)
        rw [if_neg (fun q => absurd q.2.2 (by omega)), if_neg (fun q => absurd q.2.2 (by omega))]
        refine zV.run kX3_map 1 rfl ?_
        exact zV.iret kX3_map rfl rfl (⟨rfl, h, fun _ _ => rfl⟩)
theorem p_corner (E : zE) {w : zWd} {σ : zSt} (h : zSys w σ) (m i v : Int32) : zOk E mX3_corner 1 [.ref 0, .int m, .int i, .int v] w (zPo w (.int (if okM m ∧ (0 ≤ i.toInt ∧ i.toInt ≤ σ.1 m.toInt.toNat) ∧ (0 ≤ v.toInt ∧ v.toInt ≤ σ.1 m.toInt.toNat) then nI (σ.2 m.toInt.toNat i.toInt.toNat) else -2)) (if okM m ∧ (0 ≤ i.toInt ∧ i.toInt ≤ σ.1 m.toInt.toNat) ∧ (0 ≤ v.toInt ∧ v.toInt ≤ σ.1 m.toInt.toNat) then sset σ m.toInt.toNat (σ.1 m.toInt.toNat) (fun j => if j = i.toInt.toNat then v.toInt.toNat else σ.2 m.toInt.toNat j) else σ)) := by
  obtain ⟨x0, ⟨F, x1, x1f⟩, x2, -, -, -⟩ := id h
  refine zOk.of (by decide +kernel) (Nat.le_of_ble_eq_true rfl) ?_
  refine zV.run kX3_corner 1 rfl ?_
  refine zV.cs kX3_corner rfl lX3_30 (o_isMap E w m) (by decide) rfl rfl (Nat.le_of_ble_eq_true rfl) ?_
  rintro _ _ ⟨rfl, rfl⟩
  refine zV.if2 kX3_corner rfl (fun c => ?_) (fun c => ?_)
  · skip
    have c := zq_eq0.mp c
    rw [if_neg (fun q => c q.1), if_neg (fun q => c q.1)]
    refine zV.run kX3_corner 1 rfl ?_
    exact zV.iret kX3_corner rfl rfl (⟨rfl, h, fun _ _ => rfl⟩)
  · skip
    have c := Decidable.not_not.mp (mt zq_eq0.mpr c)
    obtain ⟨mm, emm⟩ : ∃ mm, mm = m.toInt.toNat := ⟨_, rfl⟩
    have em : m = nI mm := by rw [emm]; exact i32_nI c.1
    have hm : mm < 8 := by omega
    rw [← emm]
    obtain ⟨led, hf, hg, hl, h1, h5, hb⟩ := id (x2 mm hm)
    refine zV.run kX3_corner 1 rfl ?_
    refine zV.gf kX3_corner rfl fX3_11 (x0) rfl ?_
    refine zV.run kX3_corner 1 rfl ?_
    refine zV.aalF kX3_corner rfl (x1) mm (em) (hm) (by decide) (x1f mm hm) ?_
    refine zV.run kX3_corner 1 rfl ?_
    refine zV.cv kX3_corner rfl lX3_38 (o_hasCorner E (x2 mm hm) i) (by decide) rfl (hf) rfl rfl rfl (Nat.le_of_ble_eq_true rfl) ?_
    rintro _ _ ⟨rfl, rfl⟩
    refine zV.if2 kX3_corner rfl (fun c2 => ?_) (fun c2 => ?_)
    · skip
      have c2 := zq_eq0.mp c2
      rw [if_neg (fun q => c2 q.2.1), if_neg (fun q => c2 q.2.1)]
      refine zV.run kX3_corner 1 rfl ?_
      exact zV.iret kX3_corner rfl rfl (⟨rfl, h, fun _ _ => rfl⟩)
    · skip
      have c2 := Decidable.not_not.mp (mt zq_eq0.mpr c2)
      refine zV.run kX3_corner 1 rfl ?_
      refine zV.gf kX3_corner rfl fX3_11 (x0) rfl ?_
      refine zV.run kX3_corner 1 rfl ?_
      refine zV.aalF kX3_corner rfl (x1) mm (em) (hm) (by decide) (x1f mm hm) ?_
      refine zV.run kX3_corner 1 rfl ?_
      refine zV.cv kX3_corner rfl lX3_38 (o_hasCorner E (x2 mm hm) v) (by decide) rfl (hf) rfl rfl rfl (Nat.le_of_ble_eq_true rfl) ?_
      rintro _ _ ⟨rfl, rfl⟩
      refine zV.if2 kX3_corner rfl (fun c3 => ?_) (fun c3 => ?_)
      · skip
        have c3 := Decidable.not_not.mp (mt zq_eq0.mpr c3)
        rw [if_pos ⟨c, c2, c3⟩, if_pos ⟨c, c2, c3⟩]
        obtain ⟨ii, eii⟩ : ∃ ii, ii = i.toInt.toNat := ⟨_, rfl⟩
        have ei : i = nI ii := by rw [eii]; exact i32_nI c2.1
        have hii : ii ≤ σ.1 mm := by omega
        have ev : v = nI v.toInt.toNat := i32_nI c3.1
        rw [← eii]
        refine zV.run kX3_corner 1 rfl ?_
        refine zV.gf kX3_corner rfl fX3_11 (x0) rfl ?_
        refine zV.run kX3_corner 1 rfl ?_
        refine zV.aalF kX3_corner rfl (x1) mm (em) (hm) (by decide) (x1f mm hm) ?_
        refine zV.gf kX3_corner rfl fX3_41 (hf) rfl ?_
        refine zV.run kX3_corner 1 rfl ?_
        refine zV.ial kX3_corner rfl (hg) (ii) (ei) (by omega) (by decide) ?_
        refine zV.run kX3_corner 2 rfl ?_
        refine zV.gf kX3_corner rfl fX3_11 (x0) rfl ?_
        refine zV.run kX3_corner 1 rfl ?_
        refine zV.aalF kX3_corner rfl (x1) mm (em) (hm) (by decide) (x1f mm hm) ?_
        refine zV.gf kX3_corner rfl fX3_41 (hf) rfl ?_
        refine zV.run kX3_corner 2 rfl ?_
        refine zV.ias kX3_corner rfl (hg) (ii) (ei) (by omega) (by decide) ?_
        rw [hl ii hii]
        have q1 : zFo (va_up w (10 + mm) (zIA 6 (upd led ii v))) (2 + mm) (10 + mm) (σ.1 mm) (fun j => if j = ii then v.toInt.toNat else σ.2 mm j) := by
          refine ⟨_, hf.n (by omega), zIs.s hg.1, fun j hj => ?_, h1, h5, fun j hj => ?_⟩
          · by_cases q : j = ii
            · simp only [q, if_true]; rw [pk_us]; exact ev
            · simp only [q, if_false]; rw [pk_un q]; exact hl j hj
          · by_cases q : j = ii
            · simp only [q, if_true]; omega
            · simp only [q, if_false]; exact hb j hj
        refine zV.run kX3_corner 1 rfl ?_
        exact zV.iret kX3_corner rfl rfl (⟨rfl, h.fold hm q1 (fun a _ qb => zup_ne qb), fun a ha => zup_ne (by omega)⟩)
      · skip
        have c3 := zq_eq0.mp (Decidable.not_not.mp c3)
        rw [if_neg (fun q => c3 q.2.2), if_neg (fun q => c3 q.2.2)]
        refine zV.run kX3_corner 1 rfl ?_
        exact zV.iret kX3_corner rfl rfl (⟨rfl, h, fun _ _ => rfl⟩)
theorem p_cornerAt (E : zE) {w : zWd} {σ : zSt} (h : zSys w σ) (m i : Int32) : zOk E mX3_cornerAt 1 [.ref 0, .int m, .int i] w (zR0 w (.int (if okM m ∧ (0 ≤ i.toInt ∧ i.toInt ≤ σ.1 m.toInt.toNat) then nI (σ.2 m.toInt.toNat i.toInt.toNat) else -2))) := by
  obtain ⟨x0, ⟨F, x1, x1f⟩, x2, -, -, -⟩ := id h
  refine zOk.of (by decide +kernel) (Nat.le_of_ble_eq_true rfl) ?_
  refine zV.run kX3_cornerAt 1 rfl ?_
  refine zV.cs kX3_cornerAt rfl lX3_30 (o_isMap E w m) (by decide) rfl rfl (Nat.le_of_ble_eq_true rfl) ?_
  rintro _ _ ⟨rfl, rfl⟩
  refine zV.if2 kX3_cornerAt rfl (fun c => ?_) (fun c => ?_)
  · skip
    have c := zq_eq0.mp c
    refine zV.run kX3_cornerAt 1 rfl ?_
    exact zV.iret kX3_cornerAt rfl rfl (⟨by rw [if_neg (fun q => c q.1)], rfl⟩)
  · skip
    have c := Decidable.not_not.mp (mt zq_eq0.mpr c)
    obtain ⟨mm, emm⟩ : ∃ mm, mm = m.toInt.toNat := ⟨_, rfl⟩
    have em : m = nI mm := by rw [emm]; exact i32_nI c.1
    have hm : mm < 8 := by omega
    rw [← emm]
    obtain ⟨led, hf, hg, hl, h1, h5, hb⟩ := id (x2 mm hm)
    refine zV.run kX3_cornerAt 1 rfl ?_
    refine zV.gf kX3_cornerAt rfl fX3_11 (x0) rfl ?_
    refine zV.run kX3_cornerAt 1 rfl ?_
    refine zV.aalF kX3_cornerAt rfl (x1) mm (em) (hm) (by decide) (x1f mm hm) ?_
    refine zV.run kX3_cornerAt 1 rfl ?_
    refine zV.cv kX3_cornerAt rfl lX3_38 (o_hasCorner E (x2 mm hm) i) (by decide) rfl (hf) rfl rfl rfl (Nat.le_of_ble_eq_true rfl) ?_
    rintro _ _ ⟨rfl, rfl⟩
    refine zV.if2 kX3_cornerAt rfl (fun c2 => ?_) (fun c2 => ?_)
    · skip
      have c2 := Decidable.not_not.mp (mt zq_eq0.mpr c2)
      obtain ⟨ii, eii⟩ : ∃ ii, ii = i.toInt.toNat := ⟨_, rfl⟩
      have ei : i = nI ii := by rw [eii]; exact i32_nI c2.1
      have hii : ii ≤ σ.1 mm := by omega
      rw [if_pos ⟨c, c2⟩, ← eii]
      refine zV.run kX3_cornerAt 1 rfl ?_
      refine zV.gf kX3_cornerAt rfl fX3_11 (x0) rfl ?_
      refine zV.run kX3_cornerAt 1 rfl ?_
      refine zV.aalF kX3_cornerAt rfl (x1) mm (em) (hm) (by decide) (x1f mm hm) ?_
      refine zV.gf kX3_cornerAt rfl fX3_41 (hf) rfl ?_
      refine zV.run kX3_cornerAt 1 rfl ?_
      refine zV.ial kX3_cornerAt rfl (hg) (ii) (ei) (by omega) (by decide) ?_
      exact zV.iret kX3_cornerAt rfl rfl (⟨by rw [hl ii hii], rfl⟩)
    · skip
      have c2 := zq_eq0.mp (Decidable.not_not.mp c2)
      refine zV.run kX3_cornerAt 1 rfl ?_
      exact zV.iret kX3_cornerAt rfl rfl (⟨by rw [if_neg (fun q => c2 q.2)], rfl⟩)
theorem p_copy (E : zE) {w : zWd} {σ : zSt} (h : zSys w σ) (m t : Int32) : zOk E mX3_copy 1 [.ref 0, .int m, .int t] w (zPo w (.int (if okM m ∧ okM t then nI (σ.1 m.toInt.toNat) else -2)) (if okM m ∧ okM t then sset σ t.toInt.toNat (σ.1 m.toInt.toNat) (σ.2 m.toInt.toNat) else σ)) := by
  obtain ⟨x0, ⟨F, x1, x1f⟩, x2, -, -, -⟩ := id h
  refine zOk.of (by decide +kernel) (Nat.le_of_ble_eq_true rfl) ?_
  refine zV.run kX3_copy 1 rfl ?_
  refine zV.cs kX3_copy rfl lX3_30 (o_isMap E w m) (by decide) rfl rfl (Nat.le_of_ble_eq_true rfl) ?_
  rintro _ _ ⟨rfl, rfl⟩
  refine zV.if2 kX3_copy rfl (fun c => ?_) (fun c => ?_)
  · skip
    have c := zq_eq0.mp c
    rw [if_neg (fun q => c q.1), if_neg (fun q => c q.1)]
    refine zV.run kX3_copy 1 rfl ?_
    exact zV.iret kX3_copy rfl rfl (⟨rfl, h, fun _ _ => rfl⟩)
  · skip
    have c := Decidable.not_not.mp (mt zq_eq0.mpr c)
    refine zV.run kX3_copy 1 rfl ?_
    refine zV.cs kX3_copy rfl lX3_30 (o_isMap E w t) (by decide) rfl rfl (Nat.le_of_ble_eq_true rfl) ?_
    rintro _ _ ⟨rfl, rfl⟩
    refine zV.if2 kX3_copy rfl (fun c2 => ?_) (fun c2 => ?_)
    · skip
      have c2 := Decidable.not_not.mp (mt zq_eq0.mpr c2)
      obtain ⟨mm, emm⟩ : ∃ mm, mm = m.toInt.toNat := ⟨_, rfl⟩
      have em : m = nI mm := by rw [emm]; exact i32_nI c.1
      have hm : mm < 8 := by omega
      obtain ⟨mmt, emmt⟩ : ∃ mm, mm = t.toInt.toNat := ⟨_, rfl⟩
      have emt : t = nI mmt := by rw [emmt]; exact i32_nI c2.1
      have hmt : mmt < 8 := by omega
      rw [if_pos ⟨c, c2⟩, if_pos ⟨c, c2⟩, ← emm, ← emmt]
      obtain ⟨led, hf, hg, -⟩ := id (x2 mmt hmt)
      refine zV.run kX3_copy 1 rfl ?_
      refine zV.gf kX3_copy rfl fX3_11 (x0) rfl ?_
      refine zV.run kX3_copy 1 rfl ?_
      refine zV.aalF kX3_copy rfl (x1) mmt (emt) (hmt) (by decide) (x1f mmt hmt) ?_
      refine zV.run kX3_copy 1 rfl ?_
      refine zV.gf kX3_copy rfl fX3_11 (x0) rfl ?_
      refine zV.run kX3_copy 1 rfl ?_
      refine zV.aalF kX3_copy rfl (x1) mm (em) (hm) (by decide) (x1f mm hm) ?_
      refine zV.cv kX3_copy rfl lX3_45 (o_become E (x2 mmt hmt) (x2 mm hm) (by omega) (by omega) (by omega)) (by decide) rfl (hf) rfl rfl rfl (Nat.le_of_ble_eq_true rfl) ?_
      rintro _ w9 ⟨rfl, q1, q2⟩
      obtain ⟨led9, hf9, -⟩ := id q1
      refine zV.run kX3_copy 1 rfl ?_
      refine zV.gf kX3_copy rfl fX3_11 (x0.k (q2 0 (by omega) (by omega))) rfl ?_
      refine zV.run kX3_copy 1 rfl ?_
      refine zV.aalF kX3_copy rfl (x1.k (q2 1 (by omega) (by omega))) mmt (emt) (hmt) (by decide) (x1f mmt hmt) ?_
      refine zV.gf kX3_copy rfl fX3_49 (hf9) rfl ?_
      exact zV.iret kX3_copy rfl rfl (⟨rfl, h.fold hmt q1 q2, fun a ha => q2 a (by omega) (by omega)⟩)
    · skip
      have c2 := zq_eq0.mp (Decidable.not_not.mp c2)
      rw [if_neg (fun q => c2 q.2), if_neg (fun q => c2 q.2)]
      refine zV.run kX3_copy 1 rfl ?_
      exact zV.iret kX3_copy rfl rfl (⟨rfl, h, fun _ _ => rfl⟩)
theorem p_turn (E : zE) {w : zWd} {σ : zSt} (h : zSys w σ) (m t : Int32) : zOk E mX3_turn 1 [.ref 0, .int m, .int t] w (zPo w (.int (if okM m ∧ okM t then nI (σ.1 m.toInt.toNat) else -2)) (if okM m ∧ okM t then sset σ t.toInt.toNat (σ.1 m.toInt.toNat) (fun i => σ.1 m.toInt.toNat - σ.2 m.toInt.toNat (σ.1 m.toInt.toNat - i)) else σ)) := by
  obtain ⟨x0, ⟨F, x1, x1f⟩, x2, -, -, -⟩ := id h
  refine zOk.of (by decide +kernel) (Nat.le_of_ble_eq_true rfl) ?_
  refine zV.run kX3_turn 1 rfl ?_
  refine zV.cs kX3_turn rfl lX3_30 (o_isMap E w m) (by decide) rfl rfl (Nat.le_of_ble_eq_true rfl) ?_
  rintro _ _ ⟨rfl, rfl⟩
  refine zV.if2 kX3_turn rfl (fun c => ?_) (fun c => ?_)
  · skip
    have c := zq_eq0.mp c
    rw [if_neg (fun q => c q.1), if_neg (fun q => c q.1)]
    refine zV.run kX3_turn 1 rfl ?_
    exact zV.iret kX3_turn rfl rfl (⟨rfl, h, fun _ _ => rfl⟩)
  · skip
    have c := Decidable.not_not.mp (mt zq_eq0.mpr c)
    refine zV.run kX3_turn 1 rfl ?_
    refine zV.cs kX3_turn rfl lX3_30 (o_isMap E w t) (by decide) rfl rfl (Nat.le_of_ble_eq_true rfl) ?_
    rintro _ _ ⟨rfl, rfl⟩
    refine zV.if2 kX3_turn rfl (fun c2 => ?_) (fun c2 => ?_)
    · skip
      have c2 := Decidable.not_not.mp (mt zq_eq0.mpr c2)
      obtain ⟨mm, emm⟩ : ∃ mm, mm = m.toInt.toNat := ⟨_, rfl⟩
      have em : m = nI mm := by rw [emm]; exact i32_nI c.1
      have hm : mm < 8 := by omega
      obtain ⟨mmt, emmt⟩ : ∃ mm, mm = t.toInt.toNat := ⟨_, rfl⟩
      have emt : t = nI mmt := by rw [emmt]; exact i32_nI c2.1
      have hmt : mmt < 8 := by omega
      rw [if_pos ⟨c, c2⟩, if_pos ⟨c, c2⟩, ← emm, ← emmt]
      obtain ⟨led, hf, hg, -⟩ := id (x2 mmt hmt)
      refine zV.run kX3_turn 1 rfl ?_
      refine zV.gf kX3_turn rfl fX3_11 (x0) rfl ?_
      refine zV.run kX3_turn 1 rfl ?_
      refine zV.aalF kX3_turn rfl (x1) mmt (emt) (hmt) (by decide) (x1f mmt hmt) ?_
      refine zV.run kX3_turn 1 rfl ?_
      refine zV.gf kX3_turn rfl fX3_11 (x0) rfl ?_
      refine zV.run kX3_turn 1 rfl ?_
      refine zV.aalF kX3_turn rfl (x1) mm (em) (hm) (by decide) (x1f mm hm) ?_
      refine zV.cv kX3_turn rfl lX3_53 (o_becomeTurned E (x2 mmt hmt) (x2 mm hm) (by omega) (by omega)) (by decide) rfl (hf) rfl rfl rfl (Nat.le_of_ble_eq_true rfl) ?_
      rintro _ w9 ⟨rfl, q1, q2⟩
      obtain ⟨led9, hf9, -⟩ := id q1
      refine zV.run kX3_turn 1 rfl ?_
      refine zV.gf kX3_turn rfl fX3_11 (x0.k (q2 0 (by omega) (by omega))) rfl ?_
      refine zV.run kX3_turn 1 rfl ?_
      refine zV.aalF kX3_turn rfl (x1.k (q2 1 (by omega) (by omega))) mmt (emt) (hmt) (by decide) (x1f mmt hmt) ?_
      refine zV.gf kX3_turn rfl fX3_49 (hf9) rfl ?_
      exact zV.iret kX3_turn rfl rfl (⟨rfl, h.fold hmt q1 q2, fun a ha => q2 a (by omega) (by omega)⟩)
    · skip
      have c2 := zq_eq0.mp (Decidable.not_not.mp c2)
      rw [if_neg (fun q => c2 q.2), if_neg (fun q => c2 q.2)]
      refine zV.run kX3_turn 1 rfl ?_
      exact zV.iret kX3_turn rfl rfl (⟨rfl, h, fun _ _ => rfl⟩)
theorem p_slope (E : zE) {w : zWd} {σ : zSt} (h : zSys w σ) (m i : Int32) : zOk E mX3_slope 1 [.ref 0, .int m, .int i] w (zR0 w (.int (if okM m ∧ (0 ≤ i.toInt ∧ i.toInt < σ.1 m.toInt.toNat) then iI (sl (σ.2 m.toInt.toNat) i.toInt.toNat) else -100))) := by
  obtain ⟨x0, ⟨F, x1, x1f⟩, x2, -, -, -⟩ := id h
  refine zOk.of (by decide +kernel) (Nat.le_of_ble_eq_true rfl) ?_
  refine zV.run kX3_slope 1 rfl ?_
  refine zV.cs kX3_slope rfl lX3_30 (o_isMap E w m) (by decide) rfl rfl (Nat.le_of_ble_eq_true rfl) ?_
  rintro _ _ ⟨rfl, rfl⟩
  refine zV.if2 kX3_slope rfl (fun c => ?_) (fun c => ?_)
  · skip
    have c := zq_eq0.mp c
    refine zV.run kX3_slope 1 rfl ?_
    exact zV.iret kX3_slope rfl rfl (⟨by rw [if_neg (fun q => c q.1)], rfl⟩)
  · skip
    have c := Decidable.not_not.mp (mt zq_eq0.mpr c)
    obtain ⟨mm, emm⟩ : ∃ mm, mm = m.toInt.toNat := ⟨_, rfl⟩
    have em : m = nI mm := by rw [emm]; exact i32_nI c.1
    have hm : mm < 8 := by omega
    rw [← emm]
    obtain ⟨led, hf, hg, hl, h1, h5, hb⟩ := id (x2 mm hm)
    refine zV.run kX3_slope 1 rfl ?_
    refine zV.gf kX3_slope rfl fX3_11 (x0) rfl ?_
    refine zV.run kX3_slope 1 rfl ?_
    refine zV.aalF kX3_slope rfl (x1) mm (em) (hm) (by decide) (x1f mm hm) ?_
    refine zV.run kX3_slope 1 rfl ?_
    refine zV.cv kX3_slope rfl lX3_56 (o_hasSpan E (x2 mm hm) i) (by decide) rfl (hf) rfl rfl rfl (Nat.le_of_ble_eq_true rfl) ?_
    rintro _ _ ⟨rfl, rfl⟩
    refine zV.if2 kX3_slope rfl (fun c2 => ?_) (fun c2 => ?_)
    · skip
      have c2 := Decidable.not_not.mp (mt zq_eq0.mpr c2)
      rw [if_pos ⟨c, c2⟩]
      refine zV.run kX3_slope 1 rfl ?_
      refine zV.gf kX3_slope rfl fX3_11 (x0) rfl ?_
      refine zV.run kX3_slope 1 rfl ?_
      refine zV.aalF kX3_slope rfl (x1) mm (em) (hm) (by decide) (x1f mm hm) ?_
      refine zV.run kX3_slope 1 rfl ?_
      rw [i32_nI (x := i) c2.1]
      refine zV.cv kX3_slope rfl lX3_59 (o_slopeOf E (x2 mm hm) (i := i.toInt.toNat) (by omega)) (by decide) rfl (hf) rfl rfl rfl (Nat.le_of_ble_eq_true rfl) ?_
      rintro _ _ ⟨rfl, rfl⟩
      rw [← i32_nI (x := i) c2.1]
      exact zV.iret kX3_slope rfl rfl (⟨rfl, rfl⟩)
    · skip
      have c2 := zq_eq0.mp (Decidable.not_not.mp c2)
      refine zV.run kX3_slope 1 rfl ?_
      exact zV.iret kX3_slope rfl rfl (⟨by rw [if_neg (fun q => c2 q.2)], rfl⟩)
end
section
/-! ===== SpanMaps: points, tables ===== -/
abbrev okP (n : Nat) (a b : Int64) : Prop := 1 ≤ b.toInt ∧ b.toInt ≤ 100000 ∧ 0 ≤ a.toInt ∧ a.toInt ≤ n * b.toInt
/-- a fraction's parts in lowest terms -/
def low (a b : Nat) (what : Int32) : Nat := (if what = 0 then a else b) / Nat.gcd a b
theorem bnd5 {n : Nat} {b x : Int} (hn : n ≤ 5) (h1 : 1 ≤ b) (h2 : b ≤ 100000) (hx : x ≤ n * b) : x ≤ 500000 := by
  have := Int.mul_le_mul_of_nonneg_right (show (n : Int) ≤ 5 by omega) (show 0 ≤ b by omega)
  omega
theorem p_far (E : zE) {w : zWd} {σ : zSt} (h : zSys w σ) (m : Int32) (a b : Int64) (k what : Int32) : zOk E mX3_far 4 [.ref 0, .int m, .long a, .long b, .int k, .int what] w (zR0 w (.long (if okM m ∧ okP (σ.1 m.toInt.toNat) a b ∧ (0 ≤ k.toInt ∧ k.toInt ≤ 1000) ∧ (what = 0 ∨ what = 1) then lN (low (fol (σ.1 m.toInt.toNat) (σ.2 m.toInt.toNat) b.toInt a.toInt k.toInt.toNat).toNat b.toInt.toNat what) else -2))) := by
  obtain ⟨x0, ⟨F, x1, x1f⟩, x2, -, -, -⟩ := id h
  refine zOk.of (by decide +kernel) (Nat.le_of_ble_eq_true rfl) ?_
  refine zV.run kX3_far 1 rfl ?_
  refine zV.cs kX3_far rfl lX3_30 (o_isMap E w m) (by decide) rfl rfl (Nat.le_of_ble_eq_true rfl) ?_
  rintro _ _ ⟨rfl, rfl⟩
  refine zV.if2 kX3_far rfl (fun c => ?_) (fun c => ?_)
  · skip
    have c := zq_eq0.mp c
    rw [if_neg (fun q => c q.1)]
    refine zV.ldc2 kX3_far rfl qX3_73 ?_
    exact zV.lret kX3_far rfl rfl (⟨rfl, rfl⟩)
  · skip
    have c := Decidable.not_not.mp (mt zq_eq0.mpr c)
    obtain ⟨mm, emm⟩ : ∃ mm, mm = m.toInt.toNat := ⟨_, rfl⟩
    have em : m = nI mm := by rw [emm]; exact i32_nI c.1
    have hm : mm < 8 := by omega
    rw [← emm]
    obtain ⟨led, hf, hg, hl, h1, h5, hb⟩ := id (x2 mm hm)
    refine zV.run kX3_far 1 rfl ?_
    refine zV.gf kX3_far rfl fX3_11 (x0) rfl ?_
    refine zV.run kX3_far 1 rfl ?_
    refine zV.aalF kX3_far rfl (x1) mm (em) (hm) (by decide) (x1f mm hm) ?_
    refine zV.run kX3_far 2 rfl ?_
    refine zV.cv kX3_far rfl lX3_63 (o_hasPoint E (x2 mm hm) a b) (by decide) rfl (hf) rfl rfl rfl (Nat.le_of_ble_eq_true rfl) ?_
    rintro _ _ ⟨rfl, rfl⟩
    refine zV.if2 kX3_far rfl (fun c2 => ?_) (fun c2 => ?_)
    · skip
      have c2 := zq_eq0.mp c2
      rw [if_neg (fun q => c2 q.2.1)]
      refine zV.ldc2 kX3_far rfl qX3_73 ?_
      exact zV.lret kX3_far rfl rfl (⟨rfl, rfl⟩)
    · skip
      have c2 := Decidable.not_not.mp (mt zq_eq0.mpr c2)
      refine zV.run kX3_far 1 rfl ?_
      refine zV.cs kX3_far rfl lX3_67 (o_isStepCount E w k) (by decide) rfl rfl (Nat.le_of_ble_eq_true rfl) ?_
      rintro _ _ ⟨rfl, rfl⟩
      refine zV.if2 kX3_far rfl (fun c3 => ?_) (fun c3 => ?_)
      · skip
        have c3 := zq_eq0.mp c3
        rw [if_neg (fun q => c3 q.2.2.1)]
        refine zV.ldc2 kX3_far rfl qX3_73 ?_
        exact zV.lret kX3_far rfl rfl (⟨rfl, rfl⟩)
      · skip
        have c3 := Decidable.not_not.mp (mt zq_eq0.mpr c3)
        refine zV.run kX3_far 1 rfl ?_
        refine zV.cs kX3_far rfl lX3_70 (o_isTerm E w what) (by decide) rfl rfl (Nat.le_of_ble_eq_true rfl) ?_
        rintro _ _ ⟨rfl, rfl⟩
        refine zV.if2 kX3_far rfl (fun c4 => ?_) (fun c4 => ?_)
        · skip
          have c4 := Decidable.not_not.mp (mt zq_eq0.mpr c4)
          rw [if_pos ⟨c, c2, c3, c4⟩]
          obtain ⟨kk, ekk⟩ : ∃ kk, kk = k.toInt.toNat := ⟨_, rfl⟩
          have ek : k = nI kk := by rw [ekk]; exact i32_nI c3.1
          obtain ⟨A, eA⟩ : ∃ A, A = a.toInt := ⟨_, rfl⟩
          obtain ⟨B, eB⟩ : ∃ B, B = b.toInt := ⟨_, rfl⟩
          have ea : a = lI A := by rw [eA]; exact i64_lI a
          have eb : b = lI B := by rw [eB]; exact i64_lI b
          rw [← ekk, ← eA, ← eB]
          rw [← eA, ← eB] at c2
          have rg := fol_rg h1 hb (show 0 < B by omega) c2.2.2.1 c2.2.2.2 kk
          have r5 := bnd5 h5 c2.1 c2.2.1 rg.2
          rw [ea, eb, ek]
          refine zV.run kX3_far 1 rfl ?_
          refine zV.gf kX3_far rfl fX3_11 (x0) rfl ?_
          refine zV.run kX3_far 1 rfl ?_
          refine zV.aalF kX3_far rfl (x1) mm (em) (hm) (by decide) (x1f mm hm) ?_
          refine zV.run kX3_far 3 rfl ?_
          refine zV.cv kX3_far rfl lX3_75 (o_follow E (x2 mm hm) (by omega) c2.2.1 c2.2.2.1 c2.2.2.2 (k := kk) (by omega)) (by decide) rfl (hf) rfl rfl rfl (Nat.le_of_ble_eq_true rfl) ?_
          rintro _ _ ⟨rfl, rfl⟩
          refine zV.run kX3_far 2 rfl ?_
          rw [lI_nat rg.1, lI_nat (z := B) (by omega)]
          refine zV.cs kX3_far rfl lX3_79 (o_lowestTerm E w (by omega) (by omega) (by omega) what) (by decide) rfl rfl (Nat.le_of_ble_eq_true rfl) ?_
          rintro _ _ ⟨rfl, rfl⟩
          exact zV.lret kX3_far rfl rfl (⟨rfl, rfl⟩)
        · skip
          have c4 := zq_eq0.mp (Decidable.not_not.mp c4)
          rw [if_neg (fun q => c4 q.2.2.2)]
          refine zV.ldc2 kX3_far rfl qX3_73 ?_
          exact zV.lret kX3_far rfl rfl (⟨rfl, rfl⟩)
theorem p_word (E : zE) {w : zWd} {σ : zSt} (h : zSys w σ) (m : Int32) (a b : Int64) (k : Int32) : zOk E mX3_word 4 [.ref 0, .int m, .long a, .long b, .int k] w (zR0 w (.int (if okM m ∧ okP (σ.1 m.toInt.toNat) a b ∧ (0 ≤ k.toInt ∧ k.toInt ≤ 1000) then nI (spn (σ.1 m.toInt.toNat) (fol (σ.1 m.toInt.toNat) (σ.2 m.toInt.toNat) b.toInt a.toInt k.toInt.toNat) b.toInt) else -2))) := by
  obtain ⟨x0, ⟨F, x1, x1f⟩, x2, -, -, -⟩ := id h
  refine zOk.of (by decide +kernel) (Nat.le_of_ble_eq_true rfl) ?_
  refine zV.run kX3_word 1 rfl ?_
  refine zV.cs kX3_word rfl lX3_30 (o_isMap E w m) (by decide) rfl rfl (Nat.le_of_ble_eq_true rfl) ?_
  rintro _ _ ⟨rfl, rfl⟩
  refine zV.if2 kX3_word rfl (fun c => ?_) (fun c => ?_)
  · skip
    have c := zq_eq0.mp c
    refine zV.run kX3_word 1 rfl ?_
    exact zV.iret kX3_word rfl rfl (⟨by rw [if_neg (fun q => c q.1)], rfl⟩)
  · skip
    have c := Decidable.not_not.mp (mt zq_eq0.mpr c)
    obtain ⟨mm, emm⟩ : ∃ mm, mm = m.toInt.toNat := ⟨_, rfl⟩
    have em : m = nI mm := by rw [emm]; exact i32_nI c.1
    have hm : mm < 8 := by omega
    rw [← emm]
    obtain ⟨led, hf, hg, hl, h1, h5, hb⟩ := id (x2 mm hm)
    refine zV.run kX3_word 1 rfl ?_
    refine zV.gf kX3_word rfl fX3_11 (x0) rfl ?_
    refine zV.run kX3_word 1 rfl ?_
    refine zV.aalF kX3_word rfl (x1) mm (em) (hm) (by decide) (x1f mm hm) ?_
    refine zV.run kX3_word 2 rfl ?_
    refine zV.cv kX3_word rfl lX3_63 (o_hasPoint E (x2 mm hm) a b) (by decide) rfl (hf) rfl rfl rfl (Nat.le_of_ble_eq_true rfl) ?_
    rintro _ _ ⟨rfl, rfl⟩
    refine zV.if2 kX3_word rfl (fun c2 => ?_) (fun c2 => ?_)
    · skip
      have c2 := zq_eq0.mp c2
      refine zV.run kX3_word 1 rfl ?_
      exact zV.iret kX3_word rfl rfl (⟨by rw [if_neg (fun q => c2 q.2.1)], rfl⟩)
    · skip
      have c2 := Decidable.not_not.mp (mt zq_eq0.mpr c2)
      refine zV.run kX3_word 1 rfl ?_
      refine zV.cs kX3_word rfl lX3_67 (o_isStepCount E w k) (by decide) rfl rfl (Nat.le_of_ble_eq_true rfl) ?_
      rintro _ _ ⟨rfl, rfl⟩
      refine zV.if2 kX3_word rfl (fun c3 => ?_) (fun c3 => ?_)
      · skip
        have c3 := Decidable.not_not.mp (mt zq_eq0.mpr c3)
        rw [if_pos ⟨c, c2, c3⟩]
        obtain ⟨kk, ekk⟩ : ∃ kk, kk = k.toInt.toNat := ⟨_, rfl⟩
        have ek : k = nI kk := by rw [ekk]; exact i32_nI c3.1
        obtain ⟨A, eA⟩ : ∃ A, A = a.toInt := ⟨_, rfl⟩
        obtain ⟨B, eB⟩ : ∃ B, B = b.toInt := ⟨_, rfl⟩
        have ea : a = lI A := by rw [eA]; exact i64_lI a
        have eb : b = lI B := by rw [eB]; exact i64_lI b
        rw [← ekk, ← eA, ← eB]
        rw [← eA, ← eB] at c2
        have rg := fol_rg h1 hb (show 0 < B by omega) c2.2.2.1 c2.2.2.2 kk
        rw [ea, eb, ek]
        refine zV.run kX3_word 1 rfl ?_
        refine zV.gf kX3_word rfl fX3_11 (x0) rfl ?_
        refine zV.run kX3_word 1 rfl ?_
        refine zV.aalF kX3_word rfl (x1) mm (em) (hm) (by decide) (x1f mm hm) ?_
        refine zV.run kX3_word 1 rfl ?_
        refine zV.gf kX3_word rfl fX3_11 (x0) rfl ?_
        refine zV.run kX3_word 1 rfl ?_
        refine zV.aalF kX3_word rfl (x1) mm (em) (hm) (by decide) (x1f mm hm) ?_
        refine zV.run kX3_word 3 rfl ?_
        refine zV.cv kX3_word rfl lX3_75 (o_follow E (x2 mm hm) (by omega) c2.2.1 c2.2.2.1 c2.2.2.2 (k := kk) (by omega)) (by decide) rfl (hf) rfl rfl rfl (Nat.le_of_ble_eq_true rfl) ?_
        rintro _ _ ⟨rfl, rfl⟩
        refine zV.run kX3_word 1 rfl ?_
        refine zV.cv kX3_word rfl lX3_82 (o_spanOf E (x2 mm hm) (by omega) c2.2.1 rg.1 rg.2) (by decide) rfl (hf) rfl rfl rfl (Nat.le_of_ble_eq_true rfl) ?_
        rintro _ _ ⟨rfl, rfl⟩
        exact zV.iret kX3_word rfl rfl (⟨rfl, rfl⟩)
      · skip
        have c3 := zq_eq0.mp (Decidable.not_not.mp c3)
        refine zV.run kX3_word 1 rfl ?_
        exact zV.iret kX3_word rfl rfl (⟨by rw [if_neg (fun q => c3 q.2.2)], rfl⟩)
theorem p_order (E : zE) {w : zWd} {σ : zSt} (h : zSys w σ) (m : Int32) (a b a2 b2 : Int64) (k : Int32) : zOk E mX3_order 4 [.ref 0, .int m, .long a, .long b, .long a2, .long b2, .int k] w (zR0 w (.int (if okM m ∧ okP (σ.1 m.toInt.toNat) a b ∧ okP (σ.1 m.toInt.toNat) a2 b2 ∧ (0 ≤ k.toInt ∧ k.toInt ≤ 1000) then iI (two (σ.1 m.toInt.toNat) (σ.2 m.toInt.toNat) b.toInt b2.toInt k.toInt.toNat false a.toInt a2.toInt) else -2))) := by
  obtain ⟨x0, ⟨F, x1, x1f⟩, x2, -, -, -⟩ := id h
  refine zOk.of (by decide +kernel) (Nat.le_of_ble_eq_true rfl) ?_
  refine zV.run kX3_order 1 rfl ?_
  refine zV.cs kX3_order rfl lX3_30 (o_isMap E w m) (by decide) rfl rfl (Nat.le_of_ble_eq_true rfl) ?_
  rintro _ _ ⟨rfl, rfl⟩
  refine zV.if2 kX3_order rfl (fun c => ?_) (fun c => ?_)
  · skip
    have c := zq_eq0.mp c
    refine zV.run kX3_order 1 rfl ?_
    exact zV.iret kX3_order rfl rfl (⟨by rw [if_neg (fun q => c q.1)], rfl⟩)
  · skip
    have c := Decidable.not_not.mp (mt zq_eq0.mpr c)
    obtain ⟨mm, emm⟩ : ∃ mm, mm = m.toInt.toNat := ⟨_, rfl⟩
    have em : m = nI mm := by rw [emm]; exact i32_nI c.1
    have hm : mm < 8 := by omega
    rw [← emm]
    obtain ⟨led, hf, hg, hl, h1, h5, hb⟩ := id (x2 mm hm)
    refine zV.run kX3_order 1 rfl ?_
    refine zV.gf kX3_order rfl fX3_11 (x0) rfl ?_
    refine zV.run kX3_order 1 rfl ?_
    refine zV.aalF kX3_order rfl (x1) mm (em) (hm) (by decide) (x1f mm hm) ?_
    refine zV.run kX3_order 2 rfl ?_
    refine zV.cv kX3_order rfl lX3_63 (o_hasPoint E (x2 mm hm) a b) (by decide) rfl (hf) rfl rfl rfl (Nat.le_of_ble_eq_true rfl) ?_
    rintro _ _ ⟨rfl, rfl⟩
    refine zV.if2 kX3_order rfl (fun c2 => ?_) (fun c2 => ?_)
    · skip
      have c2 := zq_eq0.mp c2
      refine zV.run kX3_order 1 rfl ?_
      exact zV.iret kX3_order rfl rfl (⟨by rw [if_neg (fun q => c2 q.2.1)], rfl⟩)
    · skip
      have c2 := Decidable.not_not.mp (mt zq_eq0.mpr c2)
      refine zV.run kX3_order 1 rfl ?_
      refine zV.gf kX3_order rfl fX3_11 (x0) rfl ?_
      refine zV.run kX3_order 1 rfl ?_
      refine zV.aalF kX3_order rfl (x1) mm (em) (hm) (by decide) (x1f mm hm) ?_
      refine zV.run kX3_order 2 rfl ?_
      refine zV.cv kX3_order rfl lX3_63 (o_hasPoint E (x2 mm hm) a2 b2) (by decide) rfl (hf) rfl rfl rfl (Nat.le_of_ble_eq_true rfl) ?_
      rintro _ _ ⟨rfl, rfl⟩
      refine zV.if2 kX3_order rfl (fun c3 => ?_) (fun c3 => ?_)
      · skip
        have c3 := zq_eq0.mp c3
        refine zV.run kX3_order 1 rfl ?_
        exact zV.iret kX3_order rfl rfl (⟨by rw [if_neg (fun q => c3 q.2.2.1)], rfl⟩)
      · skip
        have c3 := Decidable.not_not.mp (mt zq_eq0.mpr c3)
        refine zV.run kX3_order 1 rfl ?_
        refine zV.cs kX3_order rfl lX3_67 (o_isStepCount E w k) (by decide) rfl rfl (Nat.le_of_ble_eq_true rfl) ?_
        rintro _ _ ⟨rfl, rfl⟩
        refine zV.if2 kX3_order rfl (fun c4 => ?_) (fun c4 => ?_)
        · skip
          have c4 := Decidable.not_not.mp (mt zq_eq0.mpr c4)
          rw [if_pos ⟨c, c2, c3, c4⟩]
          obtain ⟨kk, ekk⟩ : ∃ kk, kk = k.toInt.toNat := ⟨_, rfl⟩
          have ek : k = nI kk := by rw [ekk]; exact i32_nI c4.1
          obtain ⟨A, eA⟩ : ∃ A, A = a.toInt := ⟨_, rfl⟩
          obtain ⟨B, eB⟩ : ∃ B, B = b.toInt := ⟨_, rfl⟩
          obtain ⟨A2, eA2⟩ : ∃ A, A = a2.toInt := ⟨_, rfl⟩
          obtain ⟨B2, eB2⟩ : ∃ B, B = b2.toInt := ⟨_, rfl⟩
          have ea : a = lI A := by rw [eA]; exact i64_lI a
          have eb : b = lI B := by rw [eB]; exact i64_lI b
          have ea2 : a2 = lI A2 := by rw [eA2]; exact i64_lI a2
          have eb2 : b2 = lI B2 := by rw [eB2]; exact i64_lI b2
          rw [← ekk, ← eA, ← eB, ← eA2, ← eB2]
          rw [← eA, ← eB] at c2
          rw [← eA2, ← eB2] at c3
          rw [ea, eb, ea2, eb2, ek]
          refine zV.run kX3_order 1 rfl ?_
          refine zV.gf kX3_order rfl fX3_11 (x0) rfl ?_
          refine zV.run kX3_order 1 rfl ?_
          refine zV.aalF kX3_order rfl (x1) mm (em) (hm) (by decide) (x1f mm hm) ?_
          refine zV.run kX3_order 5 rfl ?_
          refine zV.cv kX3_order rfl lX3_86 (o_twisted E (x2 mm hm) (by omega) c2.2.1 (by omega) c3.2.1 (k := kk) (by omega) c2.2.2.1 c2.2.2.2 c3.2.2.1 c3.2.2.2) (by decide) rfl (hf) rfl rfl rfl (Nat.le_of_ble_eq_true rfl) ?_
          rintro _ _ ⟨rfl, rfl⟩
          exact zV.iret kX3_order rfl rfl (⟨rfl, rfl⟩)
        · skip
          have c4 := zq_eq0.mp (Decidable.not_not.mp c4)
          refine zV.run kX3_order 1 rfl ?_
          exact zV.iret kX3_order rfl rfl (⟨by rw [if_neg (fun q => c4 q.2.2.2)], rfl⟩)
theorem p_join (E : zE) {w : zWd} {σ : zSt} (h : zSys w σ) (m t : Int32) (a b : Int64) (what : Int32) : zOk E mX3_join 4 [.ref 0, .int m, .int t, .long a, .long b, .int what] w (zR0 w (.long (if okM m ∧ okM t ∧ okP (σ.1 m.toInt.toNat) a b ∧ (what = 0 ∨ what = 1) then (if σ.1 m.toInt.toNat = σ.1 t.toInt.toNat then lN (low (stp (σ.1 t.toInt.toNat) (σ.2 t.toInt.toNat) b.toInt (stp (σ.1 m.toInt.toNat) (σ.2 m.toInt.toNat) b.toInt a.toInt)).toNat b.toInt.toNat what) else -3) else -2))) := by
  obtain ⟨x0, ⟨F, x1, x1f⟩, x2, -, -, -⟩ := id h
  refine zOk.of (by decide +kernel) (Nat.le_of_ble_eq_true rfl) ?_
  refine zV.run kX3_join 1 rfl ?_
  refine zV.cs kX3_join rfl lX3_30 (o_isMap E w m) (by decide) rfl rfl (Nat.le_of_ble_eq_true rfl) ?_
  rintro _ _ ⟨rfl, rfl⟩
  refine zV.if2 kX3_join rfl (fun c => ?_) (fun c => ?_)
  · skip
    have c := zq_eq0.mp c
    rw [if_neg (fun q => c q.1)]
    refine zV.ldc2 kX3_join rfl qX3_73 ?_
    exact zV.lret kX3_join rfl rfl (⟨rfl, rfl⟩)
  · skip
    have c := Decidable.not_not.mp (mt zq_eq0.mpr c)
    refine zV.run kX3_join 1 rfl ?_
    refine zV.cs kX3_join rfl lX3_30 (o_isMap E w t) (by decide) rfl rfl (Nat.le_of_ble_eq_true rfl) ?_
    rintro _ _ ⟨rfl, rfl⟩
    refine zV.if2 kX3_join rfl (fun c0 => ?_) (fun c0 => ?_)
    · skip
      have c0 := zq_eq0.mp c0
      rw [if_neg (fun q => c0 q.2.1)]
      refine zV.ldc2 kX3_join rfl qX3_73 ?_
      exact zV.lret kX3_join rfl rfl (⟨rfl, rfl⟩)
    · skip
      have c0 := Decidable.not_not.mp (mt zq_eq0.mpr c0)
      obtain ⟨mm, emm⟩ : ∃ mm, mm = m.toInt.toNat := ⟨_, rfl⟩
      have em : m = nI mm := by rw [emm]; exact i32_nI c.1
      have hm : mm < 8 := by omega
      obtain ⟨mmt, emmt⟩ : ∃ mm, mm = t.toInt.toNat := ⟨_, rfl⟩
      have emt : t = nI mmt := by rw [emmt]; exact i32_nI c0.1
      have hmt : mmt < 8 := by omega
      rw [← emm, ← emmt]
      obtain ⟨led, hf, hg, hl, h1, h5, hb⟩ := id (x2 mm hm)
      obtain ⟨ledt, hft, hgt, hlt, h1t, h5t, hbt⟩ := id (x2 mmt hmt)
      refine zV.run kX3_join 1 rfl ?_
      refine zV.gf kX3_join rfl fX3_11 (x0) rfl ?_
      refine zV.run kX3_join 1 rfl ?_
      refine zV.aalF kX3_join rfl (x1) mm (em) (hm) (by decide) (x1f mm hm) ?_
      refine zV.run kX3_join 2 rfl ?_
      refine zV.cv kX3_join rfl lX3_63 (o_hasPoint E (x2 mm hm) a b) (by decide) rfl (hf) rfl rfl rfl (Nat.le_of_ble_eq_true rfl) ?_
      rintro _ _ ⟨rfl, rfl⟩
      refine zV.if2 kX3_join rfl (fun c2 => ?_) (fun c2 => ?_)
      · skip
        have c2 := zq_eq0.mp c2
        rw [if_neg (fun q => c2 q.2.2.1)]
        refine zV.ldc2 kX3_join rfl qX3_73 ?_
        exact zV.lret kX3_join rfl rfl (⟨rfl, rfl⟩)
      · skip
        have c2 := Decidable.not_not.mp (mt zq_eq0.mpr c2)
        refine zV.run kX3_join 1 rfl ?_
        refine zV.cs kX3_join rfl lX3_70 (o_isTerm E w what) (by decide) rfl rfl (Nat.le_of_ble_eq_true rfl) ?_
        rintro _ _ ⟨rfl, rfl⟩
        refine zV.if2 kX3_join rfl (fun c3 => ?_) (fun c3 => ?_)
        · skip
          have c3 := Decidable.not_not.mp (mt zq_eq0.mpr c3)
          rw [if_pos ⟨c, c0, c2, c3⟩]
          refine zV.run kX3_join 1 rfl ?_
          refine zV.gf kX3_join rfl fX3_11 (x0) rfl ?_
          refine zV.run kX3_join 1 rfl ?_
          refine zV.aalF kX3_join rfl (x1) mm (em) (hm) (by decide) (x1f mm hm) ?_
          refine zV.gf kX3_join rfl fX3_49 (hf) rfl ?_
          refine zV.run kX3_join 1 rfl ?_
          refine zV.gf kX3_join rfl fX3_11 (x0) rfl ?_
          refine zV.run kX3_join 1 rfl ?_
          refine zV.aalF kX3_join rfl (x1) mmt (emt) (hmt) (by decide) (x1f mmt hmt) ?_
          refine zV.gf kX3_join rfl fX3_49 (hft) rfl ?_
          refine zV.ic2 kX3_join rfl (fun c4 => ?_) (fun c4 => ?_)
          · skip
            have c4 := (nI_eq (by omega) (by omega)).mp c4
            rw [if_pos c4]
            obtain ⟨A, eA⟩ : ∃ A, A = a.toInt := ⟨_, rfl⟩
            obtain ⟨B, eB⟩ : ∃ B, B = b.toInt := ⟨_, rfl⟩
            have ea : a = lI A := by rw [eA]; exact i64_lI a
            have eb : b = lI B := by rw [eB]; exact i64_lI b
            rw [← eA, ← eB]
            rw [← eA, ← eB] at c2
            have rg := stp_rg h1 hb (show 0 < B by omega) c2.2.2.1 c2.2.2.2
            have rg1 : stp (σ.1 mm) (σ.2 mm) B A ≤ (σ.1 mmt : Int) * B := by rw [← c4]; exact rg.2
            have rg2 := stp_rg h1t hbt (show 0 < B by omega) rg.1 rg1
            have r5 := bnd5 h5t c2.1 c2.2.1 rg2.2
            rw [ea, eb]
            refine zV.run kX3_join 1 rfl ?_
            refine zV.gf kX3_join rfl fX3_11 (x0) rfl ?_
            refine zV.run kX3_join 1 rfl ?_
            refine zV.aalF kX3_join rfl (x1) mmt (emt) (hmt) (by decide) (x1f mmt hmt) ?_
            refine zV.run kX3_join 1 rfl ?_
            refine zV.gf kX3_join rfl fX3_11 (x0) rfl ?_
            refine zV.run kX3_join 1 rfl ?_
            refine zV.aalF kX3_join rfl (x1) mm (em) (hm) (by decide) (x1f mm hm) ?_
            refine zV.run kX3_join 2 rfl ?_
            refine zV.cv kX3_join rfl lX3_92 (o_step E (x2 mm hm) (by omega) c2.2.1 c2.2.2.1 c2.2.2.2) (by decide) rfl (hf) rfl rfl rfl (Nat.le_of_ble_eq_true rfl) ?_
            rintro _ _ ⟨rfl, rfl⟩
            refine zV.run kX3_join 1 rfl ?_
            refine zV.cv kX3_join rfl lX3_92 (o_step E (x2 mmt hmt) (by omega) c2.2.1 rg.1 rg1) (by decide) rfl (hft) rfl rfl rfl (Nat.le_of_ble_eq_true rfl) ?_
            rintro _ _ ⟨rfl, rfl⟩
            refine zV.run kX3_join 2 rfl ?_
            rw [lI_nat rg2.1, lI_nat (z := B) (by omega)]
            refine zV.cs kX3_join rfl lX3_79 (o_lowestTerm E w (by omega) (by omega) (by omega) what) (by decide) rfl rfl (Nat.le_of_ble_eq_true rfl) ?_
            rintro _ _ ⟨rfl, rfl⟩
            exact zV.lret kX3_join rfl rfl (⟨rfl, rfl⟩)
          · skip
            have c4 := mt (nI_eq (a := σ.1 mm) (b := σ.1 mmt) (by omega) (by omega)).mpr c4
            rw [if_neg c4]
            refine zV.ldc2 kX3_join rfl qX3_90 ?_
            exact zV.lret kX3_join rfl rfl (⟨rfl, rfl⟩)
        · skip
          have c3 := zq_eq0.mp (Decidable.not_not.mp c3)
          rw [if_neg (fun q => c3 q.2.2.2)]
          refine zV.ldc2 kX3_join rfl qX3_73 ?_
          exact zV.lret kX3_join rfl rfl (⟨rfl, rfl⟩)
theorem p_table (E : zE) {w : zWd} {σ : zSt} (h : zSys w σ) (m i j : Int32) : zOk E mX3_table 2 [.ref 0, .int m, .int i, .int j] w (zR0 w (.int (if okM m ∧ (0 ≤ i.toInt ∧ i.toInt < σ.1 m.toInt.toNat) ∧ (0 ≤ j.toInt ∧ j.toInt < σ.1 m.toInt.toNat) then zq (cov (σ.2 m.toInt.toNat) i.toInt.toNat j.toInt.toNat = true) else -2))) := by
  obtain ⟨x0, ⟨F, x1, x1f⟩, x2, -, -, -⟩ := id h
  refine zOk.of (by decide +kernel) (Nat.le_of_ble_eq_true rfl) ?_
  refine zV.run kX3_table 1 rfl ?_
  refine zV.cs kX3_table rfl lX3_30 (o_isMap E w m) (by decide) rfl rfl (Nat.le_of_ble_eq_true rfl) ?_
  rintro _ _ ⟨rfl, rfl⟩
  refine zV.if2 kX3_table rfl (fun c => ?_) (fun c => ?_)
  · skip
    have c := zq_eq0.mp c
    refine zV.run kX3_table 1 rfl ?_
    exact zV.iret kX3_table rfl rfl (⟨by rw [if_neg (fun q => c q.1)], rfl⟩)
  · skip
    have c := Decidable.not_not.mp (mt zq_eq0.mpr c)
    obtain ⟨mm, emm⟩ : ∃ mm, mm = m.toInt.toNat := ⟨_, rfl⟩
    have em : m = nI mm := by rw [emm]; exact i32_nI c.1
    have hm : mm < 8 := by omega
    rw [← emm]
    obtain ⟨led, hf, hg, hl, h1, h5, hb⟩ := id (x2 mm hm)
    refine zV.run kX3_table 1 rfl ?_
    refine zV.gf kX3_table rfl fX3_11 (x0) rfl ?_
    refine zV.run kX3_table 1 rfl ?_
    refine zV.aalF kX3_table rfl (x1) mm (em) (hm) (by decide) (x1f mm hm) ?_
    refine zV.run kX3_table 1 rfl ?_
    refine zV.cv kX3_table rfl lX3_56 (o_hasSpan E (x2 mm hm) i) (by decide) rfl (hf) rfl rfl rfl (Nat.le_of_ble_eq_true rfl) ?_
    rintro _ _ ⟨rfl, rfl⟩
    refine zV.if2 kX3_table rfl (fun c2 => ?_) (fun c2 => ?_)
    · skip
      have c2 := zq_eq0.mp c2
      refine zV.run kX3_table 1 rfl ?_
      exact zV.iret kX3_table rfl rfl (⟨by rw [if_neg (fun q => c2 q.2.1)], rfl⟩)
    · skip
      have c2 := Decidable.not_not.mp (mt zq_eq0.mpr c2)
      refine zV.run kX3_table 1 rfl ?_
      refine zV.gf kX3_table rfl fX3_11 (x0) rfl ?_
      refine zV.run kX3_table 1 rfl ?_
      refine zV.aalF kX3_table rfl (x1) mm (em) (hm) (by decide) (x1f mm hm) ?_
      refine zV.run kX3_table 1 rfl ?_
      refine zV.cv kX3_table rfl lX3_56 (o_hasSpan E (x2 mm hm) j) (by decide) rfl (hf) rfl rfl rfl (Nat.le_of_ble_eq_true rfl) ?_
      rintro _ _ ⟨rfl, rfl⟩
      refine zV.if2 kX3_table rfl (fun c3 => ?_) (fun c3 => ?_)
      · skip
        have c3 := Decidable.not_not.mp (mt zq_eq0.mpr c3)
        rw [if_pos ⟨c, c2, c3⟩]
        obtain ⟨ii, eii⟩ : ∃ ii, ii = i.toInt.toNat := ⟨_, rfl⟩
        have ei : i = nI ii := by rw [eii]; exact i32_nI c2.1
        obtain ⟨jj, ejj⟩ : ∃ ii, ii = j.toInt.toNat := ⟨_, rfl⟩
        have ej : j = nI jj := by rw [ejj]; exact i32_nI c3.1
        rw [← eii, ← ejj, ei, ej]
        refine zV.run kX3_table 1 rfl ?_
        refine zV.gf kX3_table rfl fX3_11 (x0) rfl ?_
        refine zV.run kX3_table 1 rfl ?_
        refine zV.aalF kX3_table rfl (x1) mm (em) (hm) (by decide) (x1f mm hm) ?_
        refine zV.run kX3_table 2 rfl ?_
        refine zV.cv kX3_table rfl lX3_96 (o_leadsOver E (x2 mm hm) (i := ii) (j := jj) (by omega) (by omega)) (by decide) rfl (hf) rfl rfl rfl (Nat.le_of_ble_eq_true rfl) ?_
        rintro _ _ ⟨rfl, rfl⟩
        refine zV.if2 kX3_table rfl (fun c4 => ?_) (fun c4 => ?_)
        · skip
          have c4 := zq_eq0.mp c4
          refine zV.run kX3_table 1 rfl ?_
          exact zV.iret kX3_table rfl rfl (⟨by rw [zq_f c4], rfl⟩)
        · skip
          have c4 := Decidable.not_not.mp (mt zq_eq0.mpr c4)
          refine zV.run kX3_table 2 rfl ?_
          exact zV.iret kX3_table rfl rfl (⟨by rw [zq_t c4], rfl⟩)
      · skip
        have c3 := zq_eq0.mp (Decidable.not_not.mp c3)
        refine zV.run kX3_table 1 rfl ?_
        exact zV.iret kX3_table rfl rfl (⟨by rw [if_neg (fun q => c3 q.2.2)], rfl⟩)
theorem p_ways (E : zE) {w : zWd} {σ : zSt} (h : zSys w σ) (m i j k : Int32) : zOk E mX3_ways 4 [.ref 0, .int m, .int i, .int j, .int k] w (zPo w (.long (if okM m ∧ (0 ≤ i.toInt ∧ i.toInt < σ.1 m.toInt.toNat) ∧ (0 ≤ j.toInt ∧ j.toInt < σ.1 m.toInt.toNat) ∧ (0 ≤ k.toInt ∧ k.toInt ≤ 10) then lN (tp (σ.1 m.toInt.toNat) (σ.2 m.toInt.toNat) k.toInt.toNat i.toInt.toNat j.toInt.toNat) else -2)) σ) := by
  obtain ⟨x0, ⟨F, x1, x1f⟩, x2, ⟨s3, rw3, x3⟩, -, -⟩ := id h
  refine zOk.of (by decide +kernel) (Nat.le_of_ble_eq_true rfl) ?_
  refine zV.run kX3_ways 1 rfl ?_
  refine zV.cs kX3_ways rfl lX3_30 (o_isMap E w m) (by decide) rfl rfl (Nat.le_of_ble_eq_true rfl) ?_
  rintro _ _ ⟨rfl, rfl⟩
  refine zV.if2 kX3_ways rfl (fun c => ?_) (fun c => ?_)
  · skip
    have c := zq_eq0.mp c
    rw [if_neg (fun q => c q.1)]
    refine zV.ldc2 kX3_ways rfl qX3_73 ?_
    exact zV.lret kX3_ways rfl rfl (⟨rfl, h, fun _ _ => rfl⟩)
  · skip
    have c := Decidable.not_not.mp (mt zq_eq0.mpr c)
    obtain ⟨mm, emm⟩ : ∃ mm, mm = m.toInt.toNat := ⟨_, rfl⟩
    have em : m = nI mm := by rw [emm]; exact i32_nI c.1
    have hm : mm < 8 := by omega
    rw [← emm]
    obtain ⟨led, hf, hg, hl, h1, h5, hb⟩ := id (x2 mm hm)
    refine zV.run kX3_ways 1 rfl ?_
    refine zV.gf kX3_ways rfl fX3_11 (x0) rfl ?_
    refine zV.run kX3_ways 1 rfl ?_
    refine zV.aalF kX3_ways rfl (x1) mm (em) (hm) (by decide) (x1f mm hm) ?_
    refine zV.run kX3_ways 1 rfl ?_
    refine zV.cv kX3_ways rfl lX3_56 (o_hasSpan E (x2 mm hm) i) (by decide) rfl (hf) rfl rfl rfl (Nat.le_of_ble_eq_true rfl) ?_
    rintro _ _ ⟨rfl, rfl⟩
    refine zV.if2 kX3_ways rfl (fun c2 => ?_) (fun c2 => ?_)
    · skip
      have c2 := zq_eq0.mp c2
      rw [if_neg (fun q => c2 q.2.1)]
      refine zV.ldc2 kX3_ways rfl qX3_73 ?_
      exact zV.lret kX3_ways rfl rfl (⟨rfl, h, fun _ _ => rfl⟩)
    · skip
      have c2 := Decidable.not_not.mp (mt zq_eq0.mpr c2)
      refine zV.run kX3_ways 1 rfl ?_
      refine zV.gf kX3_ways rfl fX3_11 (x0) rfl ?_
      refine zV.run kX3_ways 1 rfl ?_
      refine zV.aalF kX3_ways rfl (x1) mm (em) (hm) (by decide) (x1f mm hm) ?_
      refine zV.run kX3_ways 1 rfl ?_
      refine zV.cv kX3_ways rfl lX3_56 (o_hasSpan E (x2 mm hm) j) (by decide) rfl (hf) rfl rfl rfl (Nat.le_of_ble_eq_true rfl) ?_
      rintro _ _ ⟨rfl, rfl⟩
      refine zV.if2 kX3_ways rfl (fun c3 => ?_) (fun c3 => ?_)
      · skip
        have c3 := zq_eq0.mp c3
        rw [if_neg (fun q => c3 q.2.2.1)]
        refine zV.ldc2 kX3_ways rfl qX3_73 ?_
        exact zV.lret kX3_ways rfl rfl (⟨rfl, h, fun _ _ => rfl⟩)
      · skip
        have c3 := Decidable.not_not.mp (mt zq_eq0.mpr c3)
        refine zV.run kX3_ways 1 rfl ?_
        refine zV.cs kX3_ways rfl lX3_100 (o_isWayLength E w k) (by decide) rfl rfl (Nat.le_of_ble_eq_true rfl) ?_
        rintro _ _ ⟨rfl, rfl⟩
        refine zV.if2 kX3_ways rfl (fun c4 => ?_) (fun c4 => ?_)
        · skip
          have c4 := Decidable.not_not.mp (mt zq_eq0.mpr c4)
          rw [if_pos ⟨c, c2, c3, c4⟩]
          obtain ⟨ii, eii⟩ : ∃ ii, ii = i.toInt.toNat := ⟨_, rfl⟩
          have ei : i = nI ii := by rw [eii]; exact i32_nI c2.1
          obtain ⟨jj, ejj⟩ : ∃ ii, ii = j.toInt.toNat := ⟨_, rfl⟩
          have ej : j = nI jj := by rw [ejj]; exact i32_nI c3.1
          obtain ⟨kk, ekk⟩ : ∃ ii, ii = k.toInt.toNat := ⟨_, rfl⟩
          have ek : k = nI kk := by rw [ekk]; exact i32_nI c4.1
          rw [← eii, ← ejj, ← ekk, ei, ej, ek]
          refine zV.run kX3_ways 1 rfl ?_
          refine zV.gf kX3_ways rfl fX3_19 (x0) rfl ?_
          refine zV.run kX3_ways 1 rfl ?_
          refine zV.gf kX3_ways rfl fX3_11 (x0) rfl ?_
          refine zV.run kX3_ways 1 rfl ?_
          refine zV.aalF kX3_ways rfl (x1) mm (em) (hm) (by decide) (x1f mm hm) ?_
          refine zV.run kX3_ways 1 rfl ?_
          refine zV.cv kX3_ways rfl lX3_103 (o_raise E (x2 mm hm) x3 (mo := kk) (by omega) (by omega) (by omega)) (by decide) rfl (x3.1) rfl rfl rfl (Nat.le_of_ble_eq_true rfl) ?_
          rintro _ w9 ⟨rfl, hw9, rw9, hP9, hr9⟩
          refine zV.run kX3_ways 1 rfl ?_
          refine zV.gf kX3_ways rfl fX3_19 (x0.k (hw9 0 (by omega))) rfl ?_
          refine zV.run kX3_ways 3 rfl ?_
          refine zV.cv kX3_ways rfl lX3_107 (o_between E hP9 (i := ii) (j := jj) (k := kk) (by omega) (by omega) (by omega)) (by decide) rfl (hP9.1) rfl rfl rfl (Nat.le_of_ble_eq_true rfl) ?_
          rintro _ _ ⟨rfl, rfl⟩
          exact zV.lret kX3_ways rfl rfl (⟨by rw [hr9 kk ii jj (by omega) (by omega) (by omega)], h.pow hP9 hw9, fun a ha => hw9 a (by omega)⟩)
        · skip
          have c4 := zq_eq0.mp (Decidable.not_not.mp c4)
          rw [if_neg (fun q => c4 q.2.2.2)]
          refine zV.ldc2 kX3_ways rfl qX3_73 ?_
          exact zV.lret kX3_ways rfl rfl (⟨rfl, h, fun _ _ => rfl⟩)
theorem p_pieces (E : zE) {w : zWd} {σ : zSt} (h : zSys w σ) (m k : Int32) : zOk E mX3_pieces 4 [.ref 0, .int m, .int k] w (zPo w (.long (if okM m ∧ (0 ≤ k.toInt ∧ k.toInt ≤ 10) then lN (sumN (σ.1 m.toInt.toNat) (fun i => sumN (σ.1 m.toInt.toNat) (tp (σ.1 m.toInt.toNat) (σ.2 m.toInt.toNat) k.toInt.toNat i))) else -2)) σ) := by
  obtain ⟨x0, ⟨F, x1, x1f⟩, x2, ⟨s3, rw3, x3⟩, -, -⟩ := id h
  refine zOk.of (by decide +kernel) (Nat.le_of_ble_eq_true rfl) ?_
  refine zV.run kX3_pieces 1 rfl ?_
  refine zV.cs kX3_pieces rfl lX3_30 (o_isMap E w m) (by decide) rfl rfl (Nat.le_of_ble_eq_true rfl) ?_
  rintro _ _ ⟨rfl, rfl⟩
  refine zV.if2 kX3_pieces rfl (fun c => ?_) (fun c => ?_)
  · skip
    have c := zq_eq0.mp c
    rw [if_neg (fun q => c q.1)]
    refine zV.ldc2 kX3_pieces rfl qX3_73 ?_
    exact zV.lret kX3_pieces rfl rfl (⟨rfl, h, fun _ _ => rfl⟩)
  · skip
    have c := Decidable.not_not.mp (mt zq_eq0.mpr c)
    obtain ⟨mm, emm⟩ : ∃ mm, mm = m.toInt.toNat := ⟨_, rfl⟩
    have em : m = nI mm := by rw [emm]; exact i32_nI c.1
    have hm : mm < 8 := by omega
    rw [← emm]
    obtain ⟨led, hf, hg, hl, h1, h5, hb⟩ := id (x2 mm hm)
    refine zV.run kX3_pieces 1 rfl ?_
    refine zV.cs kX3_pieces rfl lX3_100 (o_isWayLength E w k) (by decide) rfl rfl (Nat.le_of_ble_eq_true rfl) ?_
    rintro _ _ ⟨rfl, rfl⟩
    refine zV.if2 kX3_pieces rfl (fun c4 => ?_) (fun c4 => ?_)
    · skip
      have c4 := Decidable.not_not.mp (mt zq_eq0.mpr c4)
      rw [if_pos ⟨c, c4⟩]
      obtain ⟨kk, ekk⟩ : ∃ ii, ii = k.toInt.toNat := ⟨_, rfl⟩
      have ek : k = nI kk := by rw [ekk]; exact i32_nI c4.1
      rw [← ekk, ek]
      refine zV.run kX3_pieces 1 rfl ?_
      refine zV.gf kX3_pieces rfl fX3_19 (x0) rfl ?_
      refine zV.run kX3_pieces 1 rfl ?_
      refine zV.gf kX3_pieces rfl fX3_11 (x0) rfl ?_
      refine zV.run kX3_pieces 1 rfl ?_
      refine zV.aalF kX3_pieces rfl (x1) mm (em) (hm) (by decide) (x1f mm hm) ?_
      refine zV.run kX3_pieces 1 rfl ?_
      refine zV.cv kX3_pieces rfl lX3_103 (o_raise E (x2 mm hm) x3 (mo := kk) (by omega) (by omega) (by omega)) (by decide) rfl (x3.1) rfl rfl rfl (Nat.le_of_ble_eq_true rfl) ?_
      rintro _ w9 ⟨rfl, hw9, rw9, hP9, hr9⟩
      refine zV.run kX3_pieces 1 rfl ?_
      refine zV.gf kX3_pieces rfl fX3_19 (x0.k (hw9 0 (by omega))) rfl ?_
      refine zV.run kX3_pieces 1 rfl ?_
      refine zV.cv kX3_pieces rfl lX3_111 (o_sum E hP9 h5 (k := kk) (by omega) (fun a b => hr9 kk a b (by omega))) (by decide) rfl (hP9.1) rfl rfl rfl (Nat.le_of_ble_eq_true rfl) ?_
      rintro _ _ ⟨rfl, rfl⟩
      exact zV.lret kX3_pieces rfl rfl (⟨rfl, h.pow hP9 hw9, fun a ha => hw9 a (by omega)⟩)
    · skip
      have c4 := zq_eq0.mp (Decidable.not_not.mp c4)
      rw [if_neg (fun q => c4 q.2)]
      refine zV.ldc2 kX3_pieces rfl qX3_73 ?_
      exact zV.lret kX3_pieces rfl rfl (⟨rfl, h, fun _ _ => rfl⟩)
theorem p_part (E : zE) {w : zWd} {σ : zSt} (h : zSys w σ) (m i : Int32) : zOk E mX3_part 4 [.ref 0, .int m, .int i] w (zR0 w (.int (if okM m ∧ (0 ≤ i.toInt ∧ i.toInt < σ.1 m.toInt.toNat) then nI (lpf (σ.1 m.toInt.toNat) (σ.2 m.toInt.toNat) i.toInt.toNat i.toInt.toNat 0) else -2))) := by
  obtain ⟨x0, ⟨F, x1, x1f⟩, x2, -, -, -⟩ := id h
  refine zOk.of (by decide +kernel) (Nat.le_of_ble_eq_true rfl) ?_
  refine zV.run kX3_part 1 rfl ?_
  refine zV.cs kX3_part rfl lX3_30 (o_isMap E w m) (by decide) rfl rfl (Nat.le_of_ble_eq_true rfl) ?_
  rintro _ _ ⟨rfl, rfl⟩
  refine zV.if2 kX3_part rfl (fun c => ?_) (fun c => ?_)
  · skip
    have c := zq_eq0.mp c
    refine zV.run kX3_part 1 rfl ?_
    exact zV.iret kX3_part rfl rfl (⟨by rw [if_neg (fun q => c q.1)], rfl⟩)
  · skip
    have c := Decidable.not_not.mp (mt zq_eq0.mpr c)
    obtain ⟨mm, emm⟩ : ∃ mm, mm = m.toInt.toNat := ⟨_, rfl⟩
    have em : m = nI mm := by rw [emm]; exact i32_nI c.1
    have hm : mm < 8 := by omega
    rw [← emm]
    obtain ⟨led, hf, hg, hl, h1, h5, hb⟩ := id (x2 mm hm)
    refine zV.run kX3_part 1 rfl ?_
    refine zV.gf kX3_part rfl fX3_11 (x0) rfl ?_
    refine zV.run kX3_part 1 rfl ?_
    refine zV.aalF kX3_part rfl (x1) mm (em) (hm) (by decide) (x1f mm hm) ?_
    refine zV.run kX3_part 1 rfl ?_
    refine zV.cv kX3_part rfl lX3_56 (o_hasSpan E (x2 mm hm) i) (by decide) rfl (hf) rfl rfl rfl (Nat.le_of_ble_eq_true rfl) ?_
    rintro _ _ ⟨rfl, rfl⟩
    refine zV.if2 kX3_part rfl (fun c2 => ?_) (fun c2 => ?_)
    · skip
      have c2 := Decidable.not_not.mp (mt zq_eq0.mpr c2)
      rw [if_pos ⟨c, c2⟩]
      obtain ⟨ii, eii⟩ : ∃ ii, ii = i.toInt.toNat := ⟨_, rfl⟩
      have ei : i = nI ii := by rw [eii]; exact i32_nI c2.1
      rw [← eii, ei]
      refine zV.run kX3_part 1 rfl ?_
      refine zV.gf kX3_part rfl fX3_11 (x0) rfl ?_
      refine zV.run kX3_part 1 rfl ?_
      refine zV.aalF kX3_part rfl (x1) mm (em) (hm) (by decide) (x1f mm hm) ?_
      refine zV.run kX3_part 1 rfl ?_
      refine zV.cv kX3_part rfl lX3_115 (o_leastOfPart E (x2 mm hm) (i := ii) (by omega)) (by decide) rfl (hf) rfl rfl rfl (Nat.le_of_ble_eq_true rfl) ?_
      rintro _ _ ⟨rfl, rfl⟩
      exact zV.iret kX3_part rfl rfl (⟨rfl, rfl⟩)
    · skip
      have c2 := zq_eq0.mp (Decidable.not_not.mp c2)
      refine zV.run kX3_part 1 rfl ?_
      exact zV.iret kX3_part rfl rfl (⟨by rw [if_neg (fun q => c2 q.2)], rfl⟩)
theorem p_mixes (E : zE) {w : zWd} {σ : zSt} (h : zSys w σ) (m : Int32) : zOk E mX3_mixes 4 [.ref 0, .int m] w (zR0 w (.int (if okM m then iI (stm (σ.1 m.toInt.toNat) (σ.2 m.toInt.toNat) (σ.1 m.toInt.toNat) 0 0) else -2))) := by
  obtain ⟨x0, ⟨F, x1, x1f⟩, x2, -, -, -⟩ := id h
  refine zOk.of (by decide +kernel) (Nat.le_of_ble_eq_true rfl) ?_
  refine zV.run kX3_mixes 1 rfl ?_
  refine zV.cs kX3_mixes rfl lX3_30 (o_isMap E w m) (by decide) rfl rfl (Nat.le_of_ble_eq_true rfl) ?_
  rintro _ _ ⟨rfl, rfl⟩
  refine zV.if2 kX3_mixes rfl (fun c => ?_) (fun c => ?_)
  · skip
    have c := Decidable.not_not.mp (mt zq_eq0.mpr c)
    obtain ⟨mm, emm⟩ : ∃ mm, mm = m.toInt.toNat := ⟨_, rfl⟩
    have em : m = nI mm := by rw [emm]; exact i32_nI c.1
    have hm : mm < 8 := by omega
    rw [← emm]
    obtain ⟨led, hf, hg, hl, h1, h5, hb⟩ := id (x2 mm hm)
    refine zV.run kX3_mixes 1 rfl ?_
    refine zV.gf kX3_mixes rfl fX3_11 (x0) rfl ?_
    refine zV.run kX3_mixes 1 rfl ?_
    refine zV.aalF kX3_mixes rfl (x1) mm (em) (hm) (by decide) (x1f mm hm) ?_
    refine zV.cv kX3_mixes rfl lX3_118 (o_stepsToMix E (x2 mm hm)) (by decide) rfl (hf) rfl rfl rfl (Nat.le_of_ble_eq_true rfl) ?_
    rintro _ _ ⟨rfl, rfl⟩
    exact zV.iret kX3_mixes rfl rfl (⟨by rw [if_pos c], rfl⟩)
  · skip
    have c := zq_eq0.mp (Decidable.not_not.mp c)
    refine zV.run kX3_mixes 1 rfl ?_
    exact zV.iret kX3_mixes rfl rfl (⟨by rw [if_neg c], rfl⟩)
end
section
/-! ===== SpanMaps: rounds, tops, the digest ===== -/
def mof (n : Nat) (ld : Nat → Nat) : Nat → Nat → Nat → Nat
  | 0, _, f => f
  | r + 1, k, f => mof n ld r (k + 1) (if hnw n ld k = true ∧ cah k f = true then k else f)
def dgi (ld : Nat → Nat) (h : Int64) : Nat → Int64
  | 0 => h
  | i + 1 => 31 * dgi ld h i + lN (ld i)
def dgo (σ : zSt) : Nat → Int64
  | 0 => 167
  | m + 1 => dgi (σ.2 m) (31 * dgo σ m + lN (σ.1 m)) (σ.1 m + 1)
abbrev okR (k : Int32) : Prop := 1 ≤ k.toInt ∧ k.toInt ≤ 6
theorem p_rounds (E : zE) {w : zWd} {σ : zSt} (h : zSys w σ) (m k : Int32) : zOk E mX3_rounds 5 [.ref 0, .int m, .int k] w (zPo w (.int (if okM m ∧ okR k then (if edf (σ.2 m.toInt.toNat) k.toInt.toNat (2 * σ.1 m.toInt.toNat) 0 = true then -1 else iI (cal (σ.1 m.toInt.toNat) (σ.2 m.toInt.toNat) k.toInt.toNat (k.toInt.toNat + 1))) else -2)) σ) := by
  obtain ⟨x0, ⟨F, x1, x1f⟩, x2, -, ⟨s4, tq, fa, fb, cp, ep, es, nw, x4⟩, ⟨s5, rw5, x5⟩⟩ := id h
  refine zOk.of (by decide +kernel) (Nat.le_of_ble_eq_true rfl) ?_
  refine zV.run kX3_rounds 1 rfl ?_
  refine zV.cs kX3_rounds rfl lX3_30 (o_isMap E w m) (by decide) rfl rfl (Nat.le_of_ble_eq_true rfl) ?_
  rintro _ _ ⟨rfl, rfl⟩
  refine zV.if2 kX3_rounds rfl (fun c => ?_) (fun c => ?_)
  · skip
    have c := zq_eq0.mp c
    rw [if_neg (fun q => c q.1)]
    refine zV.run kX3_rounds 1 rfl ?_
    exact zV.iret kX3_rounds rfl rfl (⟨rfl, h, fun _ _ => rfl⟩)
  · skip
    have c := Decidable.not_not.mp (mt zq_eq0.mpr c)
    obtain ⟨mm, emm⟩ : ∃ mm, mm = m.toInt.toNat := ⟨_, rfl⟩
    have em : m = nI mm := by rw [emm]; exact i32_nI c.1
    have hm : mm < 8 := by omega
    rw [← emm]
    obtain ⟨led, hf, hg, hl, h1, h5, hb⟩ := id (x2 mm hm)
    refine zV.run kX3_rounds 1 rfl ?_
    refine zV.cs kX3_rounds rfl lX3_122 (o_isRoundLength E w k) (by decide) rfl rfl (Nat.le_of_ble_eq_true rfl) ?_
    rintro _ _ ⟨rfl, rfl⟩
    refine zV.if2 kX3_rounds rfl (fun c4 => ?_) (fun c4 => ?_)
    · skip
      have c4 := Decidable.not_not.mp (mt zq_eq0.mpr c4)
      rw [if_pos ⟨c, c4⟩]
      obtain ⟨kk, ekk⟩ : ∃ ii, ii = k.toInt.toNat := ⟨_, rfl⟩
      have ek : k = nI kk := by rw [ekk]; exact i32_nI (by omega)
      rw [← ekk, ek]
      refine zV.run kX3_rounds 1 rfl ?_
      refine zV.gf kX3_rounds rfl fX3_26 (x0) rfl ?_
      refine zV.run kX3_rounds 1 rfl ?_
      refine zV.gf kX3_rounds rfl fX3_11 (x0) rfl ?_
      refine zV.run kX3_rounds 1 rfl ?_
      refine zV.aalF kX3_rounds rfl (x1) mm (em) (hm) (by decide) (x1f mm hm) ?_
      refine zV.cv kX3_rounds rfl lX3_125 (o_study E (x2 mm hm) (by omega) (by omega) x4 x5) (by decide) rfl (x4.1) rfl rfl rfl (Nat.le_of_ble_eq_true rfl) ?_
      rintro _ w9 ⟨rfl, hS, hw9⟩
      have hs31 := hS.choose_spec.choose_spec.choose_spec.choose_spec.choose_spec.choose_spec.choose_spec.choose_spec.1.1
      have hsys := h.ret hS hw9
      refine zV.run kX3_rounds 1 rfl ?_
      refine zV.gf kX3_rounds rfl fX3_26 (x0.k (hw9 0 (by omega))) rfl ?_
      refine zV.run kX3_rounds 1 rfl ?_
      refine zV.cv kX3_rounds rfl lX3_128 (o_isEndless E hS h5 (k := kk) (by omega)) (by decide) rfl (hs31) rfl rfl rfl (Nat.le_of_ble_eq_true rfl) ?_
      rintro _ _ ⟨rfl, rfl⟩
      refine zV.if2 kX3_rounds rfl (fun c5 => ?_) (fun c5 => ?_)
      · skip
        have c5 := zq_eq0.mp c5
        refine zV.run kX3_rounds 1 rfl ?_
        refine zV.gf kX3_rounds rfl fX3_26 (x0.k (hw9 0 (by omega))) rfl ?_
        refine zV.run kX3_rounds 1 rfl ?_
        refine zV.cv kX3_rounds rfl lX3_131 (o_countAll E hS h5 (k := kk) (by omega)) (by decide) rfl (hs31) rfl rfl rfl (Nat.le_of_ble_eq_true rfl) ?_
        rintro _ _ ⟨rfl, rfl⟩
        refine zV.run kX3_rounds 1 rfl ?_
        exact zV.iret kX3_rounds rfl rfl (⟨by rw [if_neg c5, lI_i], hsys, fun a ha => hw9 a (by omega)⟩)
      · skip
        have c5 := Decidable.not_not.mp (mt zq_eq0.mpr c5)
        refine zV.run kX3_rounds 2 rfl ?_
        exact zV.iret kX3_rounds rfl rfl (⟨by rw [if_pos c5], hsys, fun a ha => hw9 a (by omega)⟩)
    · skip
      have c4 := zq_eq0.mp (Decidable.not_not.mp c4)
      rw [if_neg (fun q => c4 q.2)]
      refine zV.run kX3_rounds 1 rfl ?_
      exact zV.iret kX3_rounds rfl rfl (⟨rfl, h, fun _ _ => rfl⟩)
theorem p_period (E : zE) {w : zWd} {σ : zSt} (h : zSys w σ) (m k : Int32) : zOk E mX3_period 5 [.ref 0, .int m, .int k] w (zPo w (.int (if okM m ∧ okR k then (if edf (σ.2 m.toInt.toNat) k.toInt.toNat (2 * σ.1 m.toInt.toNat) 0 = true then -1 else iI (cnw (σ.1 m.toInt.toNat) (σ.2 m.toInt.toNat) k.toInt.toNat)) else -2)) σ) := by
  obtain ⟨x0, ⟨F, x1, x1f⟩, x2, -, ⟨s4, tq, fa, fb, cp, ep, es, nw, x4⟩, ⟨s5, rw5, x5⟩⟩ := id h
  refine zOk.of (by decide +kernel) (Nat.le_of_ble_eq_true rfl) ?_
  refine zV.run kX3_period 1 rfl ?_
  refine zV.cs kX3_period rfl lX3_30 (o_isMap E w m) (by decide) rfl rfl (Nat.le_of_ble_eq_true rfl) ?_
  rintro _ _ ⟨rfl, rfl⟩
  refine zV.if2 kX3_period rfl (fun c => ?_) (fun c => ?_)
  · skip
    have c := zq_eq0.mp c
    rw [if_neg (fun q => c q.1)]
    refine zV.run kX3_period 1 rfl ?_
    exact zV.iret kX3_period rfl rfl (⟨rfl, h, fun _ _ => rfl⟩)
  · skip
    have c := Decidable.not_not.mp (mt zq_eq0.mpr c)
    obtain ⟨mm, emm⟩ : ∃ mm, mm = m.toInt.toNat := ⟨_, rfl⟩
    have em : m = nI mm := by rw [emm]; exact i32_nI c.1
    have hm : mm < 8 := by omega
    rw [← emm]
    obtain ⟨led, hf, hg, hl, h1, h5, hb⟩ := id (x2 mm hm)
    refine zV.run kX3_period 1 rfl ?_
    refine zV.cs kX3_period rfl lX3_122 (o_isRoundLength E w k) (by decide) rfl rfl (Nat.le_of_ble_eq_true rfl) ?_
    rintro _ _ ⟨rfl, rfl⟩
    refine zV.if2 kX3_period rfl (fun c4 => ?_) (fun c4 => ?_)
    · skip
      have c4 := Decidable.not_not.mp (mt zq_eq0.mpr c4)
      rw [if_pos ⟨c, c4⟩]
      obtain ⟨kk, ekk⟩ : ∃ ii, ii = k.toInt.toNat := ⟨_, rfl⟩
      have ek : k = nI kk := by rw [ekk]; exact i32_nI (by omega)
      rw [← ekk, ek]
      refine zV.run kX3_period 1 rfl ?_
      refine zV.gf kX3_period rfl fX3_26 (x0) rfl ?_
      refine zV.run kX3_period 1 rfl ?_
      refine zV.gf kX3_period rfl fX3_11 (x0) rfl ?_
      refine zV.run kX3_period 1 rfl ?_
      refine zV.aalF kX3_period rfl (x1) mm (em) (hm) (by decide) (x1f mm hm) ?_
      refine zV.cv kX3_period rfl lX3_125 (o_study E (x2 mm hm) (by omega) (by omega) x4 x5) (by decide) rfl (x4.1) rfl rfl rfl (Nat.le_of_ble_eq_true rfl) ?_
      rintro _ w9 ⟨rfl, hS, hw9⟩
      have hs31 := hS.choose_spec.choose_spec.choose_spec.choose_spec.choose_spec.choose_spec.choose_spec.choose_spec.1.1
      have hsys := h.ret hS hw9
      refine zV.run kX3_period 1 rfl ?_
      refine zV.gf kX3_period rfl fX3_26 (x0.k (hw9 0 (by omega))) rfl ?_
      refine zV.run kX3_period 1 rfl ?_
      refine zV.cv kX3_period rfl lX3_128 (o_isEndless E hS h5 (k := kk) (by omega)) (by decide) rfl (hs31) rfl rfl rfl (Nat.le_of_ble_eq_true rfl) ?_
      rintro _ _ ⟨rfl, rfl⟩
      refine zV.if2 kX3_period rfl (fun c5 => ?_) (fun c5 => ?_)
      · skip
        have c5 := zq_eq0.mp c5
        refine zV.run kX3_period 1 rfl ?_
        refine zV.gf kX3_period rfl fX3_26 (x0.k (hw9 0 (by omega))) rfl ?_
        refine zV.run kX3_period 1 rfl ?_
        refine zV.cv kX3_period rfl lX3_147 (o_countNew E hS h5 (k := kk) (by omega) (by omega)) (by decide) rfl (hs31) rfl rfl rfl (Nat.le_of_ble_eq_true rfl) ?_
        rintro _ _ ⟨rfl, rfl⟩
        refine zV.run kX3_period 1 rfl ?_
        exact zV.iret kX3_period rfl rfl (⟨by rw [if_neg c5, lI_i], hsys, fun a ha => hw9 a (by omega)⟩)
      · skip
        have c5 := Decidable.not_not.mp (mt zq_eq0.mpr c5)
        refine zV.run kX3_period 2 rfl ?_
        exact zV.iret kX3_period rfl rfl (⟨by rw [if_pos c5], hsys, fun a ha => hw9 a (by omega)⟩)
    · skip
      have c4 := zq_eq0.mp (Decidable.not_not.mp c4)
      rw [if_neg (fun q => c4 q.2)]
      refine zV.run kX3_period 1 rfl ?_
      exact zV.iret kX3_period rfl rfl (⟨rfl, h, fun _ _ => rfl⟩)
theorem p_has (E : zE) {w : zWd} {σ : zSt} (h : zSys w σ) (m k : Int32) : zOk E mX3_has 5 [.ref 0, .int m, .int k] w (zPo w (.int (if okM m ∧ okR k then zq (hnw (σ.1 m.toInt.toNat) (σ.2 m.toInt.toNat) k.toInt.toNat = true) else -2)) σ) := by
  obtain ⟨x0, ⟨F, x1, x1f⟩, x2, -, ⟨s4, tq, fa, fb, cp, ep, es, nw, x4⟩, ⟨s5, rw5, x5⟩⟩ := id h
  refine zOk.of (by decide +kernel) (Nat.le_of_ble_eq_true rfl) ?_
  refine zV.run kX3_has 1 rfl ?_
  refine zV.cs kX3_has rfl lX3_30 (o_isMap E w m) (by decide) rfl rfl (Nat.le_of_ble_eq_true rfl) ?_
  rintro _ _ ⟨rfl, rfl⟩
  refine zV.if2 kX3_has rfl (fun c => ?_) (fun c => ?_)
  · skip
    have c := zq_eq0.mp c
    rw [if_neg (fun q => c q.1)]
    refine zV.run kX3_has 1 rfl ?_
    exact zV.iret kX3_has rfl rfl (⟨rfl, h, fun _ _ => rfl⟩)
  · skip
    have c := Decidable.not_not.mp (mt zq_eq0.mpr c)
    obtain ⟨mm, emm⟩ : ∃ mm, mm = m.toInt.toNat := ⟨_, rfl⟩
    have em : m = nI mm := by rw [emm]; exact i32_nI c.1
    have hm : mm < 8 := by omega
    rw [← emm]
    obtain ⟨led, hf, hg, hl, h1, h5, hb⟩ := id (x2 mm hm)
    refine zV.run kX3_has 1 rfl ?_
    refine zV.cs kX3_has rfl lX3_122 (o_isRoundLength E w k) (by decide) rfl rfl (Nat.le_of_ble_eq_true rfl) ?_
    rintro _ _ ⟨rfl, rfl⟩
    refine zV.if2 kX3_has rfl (fun c4 => ?_) (fun c4 => ?_)
    · skip
      have c4 := Decidable.not_not.mp (mt zq_eq0.mpr c4)
      rw [if_pos ⟨c, c4⟩]
      obtain ⟨kk, ekk⟩ : ∃ ii, ii = k.toInt.toNat := ⟨_, rfl⟩
      have ek : k = nI kk := by rw [ekk]; exact i32_nI (by omega)
      rw [← ekk, ek]
      refine zV.run kX3_has 1 rfl ?_
      refine zV.gf kX3_has rfl fX3_26 (x0) rfl ?_
      refine zV.run kX3_has 1 rfl ?_
      refine zV.gf kX3_has rfl fX3_11 (x0) rfl ?_
      refine zV.run kX3_has 1 rfl ?_
      refine zV.aalF kX3_has rfl (x1) mm (em) (hm) (by decide) (x1f mm hm) ?_
      refine zV.cv kX3_has rfl lX3_125 (o_study E (x2 mm hm) (by omega) (by omega) x4 x5) (by decide) rfl (x4.1) rfl rfl rfl (Nat.le_of_ble_eq_true rfl) ?_
      rintro _ w9 ⟨rfl, hS, hw9⟩
      have hs31 := hS.choose_spec.choose_spec.choose_spec.choose_spec.choose_spec.choose_spec.choose_spec.choose_spec.1.1
      have hsys := h.ret hS hw9
      refine zV.run kX3_has 1 rfl ?_
      refine zV.gf kX3_has rfl fX3_26 (x0.k (hw9 0 (by omega))) rfl ?_
      refine zV.run kX3_has 1 rfl ?_
      refine zV.cv kX3_has rfl lX3_150 (o_hasNew E hS h5 (k := kk) (by omega) (by omega)) (by decide) rfl (hs31) rfl rfl rfl (Nat.le_of_ble_eq_true rfl) ?_
      rintro _ _ ⟨rfl, rfl⟩
      refine zV.if2 kX3_has rfl (fun c5 => ?_) (fun c5 => ?_)
      · skip
        have c5 := zq_eq0.mp c5
        refine zV.run kX3_has 1 rfl ?_
        exact zV.iret kX3_has rfl rfl (⟨by rw [zq_f c5], hsys, fun a ha => hw9 a (by omega)⟩)
      · skip
        have c5 := Decidable.not_not.mp (mt zq_eq0.mpr c5)
        refine zV.run kX3_has 2 rfl ?_
        exact zV.iret kX3_has rfl rfl (⟨by rw [zq_t c5], hsys, fun a ha => hw9 a (by omega)⟩)
    · skip
      have c4 := zq_eq0.mp (Decidable.not_not.mp c4)
      rw [if_neg (fun q => c4 q.2)]
      refine zV.run kX3_has 1 rfl ?_
      exact zV.iret kX3_has rfl rfl (⟨rfl, h, fun _ _ => rfl⟩)
/-- what round answers, out of what find finds -/
def rnd (o : Option (Int × Int)) (what : Int32) : Int64 := match o with
  | none => -1
  | some p => lN (low p.1.toNat p.2.toNat what)
/-- what was found is a fraction that lowestTerm can be asked of -/
def okF (o : Option (Int × Int)) : Prop := ∀ p, o = some p → 0 ≤ p.1 ∧ p.1 < 2 ^ 40 ∧ 0 < p.2 ∧ p.2 < 2 ^ 40
theorem p_round (E : zE) {w : zWd} {σ : zSt} (h : zSys w σ) (m k i what : Int32) (hok : ∀ ix : Nat, edf (σ.2 m.toInt.toNat) k.toInt.toNat (2 * σ.1 m.toInt.toNat) 0 = false → okF (fdf (σ.1 m.toInt.toNat) (σ.2 m.toInt.toNat) k.toInt.toNat (σ.1 m.toInt.toNat + 1) 0 ix)) : zOk E mX3_round 5 [.ref 0, .int m, .int k, .int i, .int what] w (zPo w (.long (if okM m ∧ okR k ∧ 0 ≤ i.toInt ∧ (what = 0 ∨ what = 1) then (if edf (σ.2 m.toInt.toNat) k.toInt.toNat (2 * σ.1 m.toInt.toNat) 0 = true then -1 else rnd (fdf (σ.1 m.toInt.toNat) (σ.2 m.toInt.toNat) k.toInt.toNat (σ.1 m.toInt.toNat + 1) 0 i.toInt) what) else -2)) σ) := by
  obtain ⟨x0, ⟨F, x1, x1f⟩, x2, -, ⟨s4, tq, fa, fb, cp, ep, es, nw, x4⟩, ⟨s5, rw5, x5⟩⟩ := id h
  refine zOk.of (by decide +kernel) (Nat.le_of_ble_eq_true rfl) ?_
  refine zV.run kX3_round 1 rfl ?_
  refine zV.cs kX3_round rfl lX3_30 (o_isMap E w m) (by decide) rfl rfl (Nat.le_of_ble_eq_true rfl) ?_
  rintro _ _ ⟨rfl, rfl⟩
  refine zV.if2 kX3_round rfl (fun c => ?_) (fun c => ?_)
  · skip
    have c := zq_eq0.mp c
    rw [if_neg (fun q => c q.1)]
    refine zV.ldc2 kX3_round rfl qX3_73 ?_
    exact zV.lret kX3_round rfl rfl (⟨rfl, h, fun _ _ => rfl⟩)
  · skip
    have c := Decidable.not_not.mp (mt zq_eq0.mpr c)
    obtain ⟨mm, emm⟩ : ∃ mm, mm = m.toInt.toNat := ⟨_, rfl⟩
    have em : m = nI mm := by rw [emm]; exact i32_nI c.1
    have hm : mm < 8 := by omega
    rw [← emm] at hok ⊢
    obtain ⟨led, hf, hg, hl, h1, h5, hb⟩ := id (x2 mm hm)
    refine zV.run kX3_round 1 rfl ?_
    refine zV.cs kX3_round rfl lX3_122 (o_isRoundLength E w k) (by decide) rfl rfl (Nat.le_of_ble_eq_true rfl) ?_
    rintro _ _ ⟨rfl, rfl⟩
    refine zV.if2 kX3_round rfl (fun c4 => ?_) (fun c4 => ?_)
    · skip
      have c4 := zq_eq0.mp c4
      rw [if_neg (fun q => c4 q.2.1)]
      refine zV.ldc2 kX3_round rfl qX3_73 ?_
      exact zV.lret kX3_round rfl rfl (⟨rfl, h, fun _ _ => rfl⟩)
    · skip
      have c4 := Decidable.not_not.mp (mt zq_eq0.mpr c4)
      refine zV.run kX3_round 1 rfl ?_
      refine zV.if2 kX3_round rfl (fun c2 => ?_) (fun c2 => ?_)
      · skip
        have c2 : i.toInt < 0 := i32_lt.mp c2
        rw [if_neg (fun q => absurd q.2.2.1 (by omega))]
        refine zV.ldc2 kX3_round rfl qX3_73 ?_
        exact zV.lret kX3_round rfl rfl (⟨rfl, h, fun _ _ => rfl⟩)
      · skip
        have c2 : 0 ≤ i.toInt := i32_le.mp (Int32.not_lt.mp c2)
        refine zV.run kX3_round 1 rfl ?_
        refine zV.cs kX3_round rfl lX3_70 (o_isTerm E w what) (by decide) rfl rfl (Nat.le_of_ble_eq_true rfl) ?_
        rintro _ _ ⟨rfl, rfl⟩
        refine zV.if2 kX3_round rfl (fun c3 => ?_) (fun c3 => ?_)
        · skip
          have c3 := Decidable.not_not.mp (mt zq_eq0.mpr c3)
          rw [if_pos ⟨c, c4, c2, c3⟩]
          obtain ⟨kk, ekk⟩ : ∃ ii, ii = k.toInt.toNat := ⟨_, rfl⟩
          have ek : k = nI kk := by rw [ekk]; exact i32_nI (by omega)
          obtain ⟨ix, eix⟩ : ∃ ii, ii = i.toInt.toNat := ⟨_, rfl⟩
          have ei : i = nI ix := by rw [eix]; exact i32_nI c2
          have ei2 : i.toInt = (ix : Int) := by omega
          have hix : ix < 2 ^ 31 := by have := (iI_rg i).2; omega
          rw [← ekk] at hok ⊢
          rw [ei2, ek, ei]
          refine zV.run kX3_round 1 rfl ?_
          refine zV.gf kX3_round rfl fX3_26 (x0) rfl ?_
          refine zV.run kX3_round 1 rfl ?_
          refine zV.gf kX3_round rfl fX3_11 (x0) rfl ?_
          refine zV.run kX3_round 1 rfl ?_
          refine zV.aalF kX3_round rfl (x1) mm (em) (hm) (by decide) (x1f mm hm) ?_
          refine zV.cv kX3_round rfl lX3_125 (o_study E (x2 mm hm) (by omega) (by omega) x4 x5) (by decide) rfl (x4.1) rfl rfl rfl (Nat.le_of_ble_eq_true rfl) ?_
          rintro _ w9 ⟨rfl, hS, hw9⟩
          have hs31 := hS.choose_spec.choose_spec.choose_spec.choose_spec.choose_spec.choose_spec.choose_spec.choose_spec.1.1
          have hsys := h.ret hS hw9
          have hF9 := hsys.2.2.1 mm hm
          refine zV.run kX3_round 1 rfl ?_
          refine zV.gf kX3_round rfl fX3_26 (x0.k (hw9 0 (by omega))) rfl ?_
          refine zV.run kX3_round 1 rfl ?_
          refine zV.cv kX3_round rfl lX3_128 (o_isEndless E hS h5 (k := kk) (by omega)) (by decide) rfl (hs31) rfl rfl rfl (Nat.le_of_ble_eq_true rfl) ?_
          rintro _ _ ⟨rfl, rfl⟩
          refine zV.if2 kX3_round rfl (fun c5 => ?_) (fun c5 => ?_)
          · skip
            have c5 := Decidable.not_not.mp (mt zq_eq0.mpr c5)
            rw [if_pos c5]
            refine zV.ldc2 kX3_round rfl qX3_138 ?_
            exact zV.lret kX3_round rfl rfl (⟨rfl, hsys, fun a ha => hw9 a (by omega)⟩)
          · skip
            have c5 := zq_eq0.mp (Decidable.not_not.mp c5)
            rw [if_neg c5]
            have hokx := hok ix (by simpa using c5)
            refine zV.run kX3_round 1 rfl ?_
            refine zV.gf kX3_round rfl fX3_26 (x0.k (hw9 0 (by omega))) rfl ?_
            refine zV.run kX3_round 1 rfl ?_
            refine zV.gf kX3_round rfl fX3_11 (x0.k (hw9 0 (by omega))) rfl ?_
            refine zV.run kX3_round 1 rfl ?_
            refine zV.aalF kX3_round rfl (x1.k (hw9 1 (by omega))) mm (em) (hm) (by decide) (x1f mm hm) ?_
            refine zV.run kX3_round 2 rfl ?_
            refine zV.cv kX3_round rfl lX3_134 (o_find E hS hF9 (by omega) (by omega) (k := kk) (by omega) hix) (by decide) rfl (hs31) rfl rfl rfl (Nat.le_of_ble_eq_true rfl) ?_
            rintro _ w8 ⟨rfl, hfd⟩
            have hsys8 := h.ret (hS.fd hfd) (fun a ha => by rw [hfd.1 a (by omega)]; exact hw9 a ha)
            obtain ⟨k8, tq8, fa8, fb8, y1, y2⟩ := id hfd
            refine zV.if2 kX3_round rfl (fun c6 => ?_) (fun c6 => ?_)
            · skip
              have c6 := Decidable.not_not.mp (mt zq_eq0.mpr c6)
              obtain ⟨p, hp⟩ := Option.isSome_iff_exists.mp c6
              obtain ⟨z1, z2⟩ := y2 p hp
              obtain ⟨q1, q2, q3, q4⟩ := hokx p hp
              have er : rnd (fdf (σ.1 mm) (σ.2 mm) kk (σ.1 mm + 1) 0 (ix : Int)) what = lN (low p.1.toNat p.2.toNat what) := by rw [hp]; rfl
              rw [er]
              have g0 := hsys8.1
              refine zV.run kX3_round 1 rfl ?_
              refine zV.gf kX3_round rfl fX3_26 (g0) rfl ?_
              refine zV.gf kX3_round rfl fX3_140 (y1) rfl ?_
              refine zV.run kX3_round 1 rfl ?_
              refine zV.gf kX3_round rfl fX3_26 (g0) rfl ?_
              refine zV.gf kX3_round rfl fX3_144 (y1) rfl ?_
              rw [z1, z2, lI_nat q1, lI_nat (z := p.2) (by omega)]
              refine zV.run kX3_round 1 rfl ?_
              refine zV.cs kX3_round rfl lX3_79 (o_lowestTerm E w8 (by omega) (by omega) (by omega) what) (by decide) rfl rfl (Nat.le_of_ble_eq_true rfl) ?_
              rintro _ _ ⟨rfl, rfl⟩
              exact zV.lret kX3_round rfl rfl (⟨rfl, hsys8, fun a ha => by rw [hfd.1 a (by omega)]; exact hw9 a (by omega)⟩)
            · skip
              have c6 := zq_eq0.mp (Decidable.not_not.mp c6)
              have hnone : fdf (σ.1 mm) (σ.2 mm) kk (σ.1 mm + 1) 0 (ix : Int) = none := by
                cases hq : fdf (σ.1 mm) (σ.2 mm) kk (σ.1 mm + 1) 0 (ix : Int) with
                | none => rfl
                | some p => rw [hq] at c6; exact absurd rfl c6
              rw [hnone]
              refine zV.ldc2 kX3_round rfl qX3_138 ?_
              exact zV.lret kX3_round rfl rfl (⟨rfl, hsys8, fun a ha => by rw [hfd.1 a (by omega)]; exact hw9 a (by omega)⟩)
        · skip
          have c3 := zq_eq0.mp (Decidable.not_not.mp c3)
          rw [if_neg (fun q => c3 q.2.2.2)]
          refine zV.ldc2 kX3_round rfl qX3_73 ?_
          exact zV.lret kX3_round rfl rfl (⟨rfl, h, fun _ _ => rfl⟩)
theorem p_forces (E : zE) (w : zWd) (p q : Int32) : zOk E mX3_forces 2 [.ref 0, .int p, .int q] w (zR0 w (.int (if (1 ≤ p.toInt ∧ p.toInt ≤ 64) ∧ (1 ≤ q.toInt ∧ q.toInt ≤ 64) then zq (p.toInt.toNat = q.toInt.toNat ∨ cah p.toInt.toNat q.toInt.toNat = true) else -2))) := by
  refine zOk.of (by decide +kernel) (Nat.le_of_ble_eq_true rfl) ?_
  refine zV.run kX3_forces 1 rfl ?_
  refine zV.cs kX3_forces rfl lX3_153 (o_isForcing E w p) (by decide) rfl rfl (Nat.le_of_ble_eq_true rfl) ?_
  rintro _ _ ⟨rfl, rfl⟩
  refine zV.if2 kX3_forces rfl (fun c => ?_) (fun c => ?_)
  · skip
    have c := zq_eq0.mp c
    refine zV.run kX3_forces 1 rfl ?_
    exact zV.iret kX3_forces rfl rfl (⟨by rw [if_neg (fun q => c q.1)], rfl⟩)
  · skip
    have c := Decidable.not_not.mp (mt zq_eq0.mpr c)
    refine zV.run kX3_forces 1 rfl ?_
    refine zV.cs kX3_forces rfl lX3_153 (o_isForcing E w q) (by decide) rfl rfl (Nat.le_of_ble_eq_true rfl) ?_
    rintro _ _ ⟨rfl, rfl⟩
    refine zV.if2 kX3_forces rfl (fun c2 => ?_) (fun c2 => ?_)
    · skip
      have c2 := Decidable.not_not.mp (mt zq_eq0.mpr c2)
      rw [if_pos ⟨c, c2⟩]
      obtain ⟨pp, epp⟩ : ∃ ii, ii = p.toInt.toNat := ⟨_, rfl⟩
      have ep : p = nI pp := by rw [epp]; exact i32_nI (by omega)
      obtain ⟨qq, eqq⟩ : ∃ ii, ii = q.toInt.toNat := ⟨_, rfl⟩
      have eq : q = nI qq := by rw [eqq]; exact i32_nI (by omega)
      rw [← epp, ← eqq, ep, eq]
      refine zV.run kX3_forces 2 rfl ?_
      refine zV.ic2 kX3_forces rfl (fun c3 => ?_) (fun c3 => ?_)
      · skip
        have c3 := (nI_eq (by omega) (by omega)).mp c3
        refine zV.run kX3_forces 2 rfl ?_
        exact zV.iret kX3_forces rfl rfl (⟨by rw [zq_t (Or.inl c3)], rfl⟩)
      · skip
        have c3 := mt (nI_eq (a := pp) (b := qq) (by omega) (by omega)).mpr c3
        refine zV.run kX3_forces 2 rfl ?_
        refine zV.cs kX3_forces rfl lX3_156 (o_comesAhead E w (p := pp) (q := qq) (by omega) (by omega) (by omega) (by omega)) (by decide) rfl rfl (Nat.le_of_ble_eq_true rfl) ?_
        rintro _ _ ⟨rfl, rfl⟩
        refine zV.if2 kX3_forces rfl (fun c4 => ?_) (fun c4 => ?_)
        · skip
          have c4 := zq_eq0.mp c4
          refine zV.run kX3_forces 1 rfl ?_
          exact zV.iret kX3_forces rfl rfl (⟨by rw [zq_f (fun z => z.elim c3 c4)], rfl⟩)
        · skip
          have c4 := Decidable.not_not.mp (mt zq_eq0.mpr c4)
          refine zV.run kX3_forces 2 rfl ?_
          exact zV.iret kX3_forces rfl rfl (⟨by rw [zq_t (Or.inr c4)], rfl⟩)
    · skip
      have c2 := zq_eq0.mp (Decidable.not_not.mp c2)
      refine zV.run kX3_forces 1 rfl ?_
      exact zV.iret kX3_forces rfl rfl (⟨by rw [if_neg (fun q => c2 q.2)], rfl⟩)
theorem mof_l (E : zE) {w w0 : zWd} {σ : zSt} {n : Nat} {ld : Nat → Nat} (m : Int32) (hsys : zSys w σ) (hS : zSd w n ld) (hn : n ≤ 5) (hw : zFc w0 w) : ∀ (r k f : Nat), k + r = 7 → 2 ≤ k → 1 ≤ f → f ≤ 6 → zV E mX3_most 5 (zPo w0 (.int (nI (mof n ld r k f))) σ) 27 [.ref 0, .int m, .int (nI f), .int (nI k)] [] w := by
  have hs31 := hS.choose_spec.choose_spec.choose_spec.choose_spec.choose_spec.choose_spec.choose_spec.choose_spec.1.1
  intro r
  induction r with
  | zero =>
    intro k f hk h2 hf1 hf6
    have e : k = 7 := by omega
    subst e
    refine zV.run kX3_most 2 rfl ?_
    refine zV.ict kX3_most (cd := .gt) rfl (show (6 : Int32) < nI 7 by decide) ?_
    refine zV.run kX3_most 1 rfl ?_
    exact zV.iret kX3_most rfl rfl (⟨rfl, hsys, hw⟩)
  | succ r ih =>
    intro k f hk h2 hf1 hf6
    refine zV.run kX3_most 2 rfl ?_
    refine zV.icf kX3_most (cd := .gt) rfl (fun q => absurd ((nI_ltI (a := 6) (b := k) (by omega) (by omega)).mp q) (by omega)) ?_
    refine zV.run kX3_most 1 rfl ?_
    refine zV.gf kX3_most rfl fX3_26 (hsys.1) rfl ?_
    refine zV.run kX3_most 1 rfl ?_
    refine zV.cv kX3_most rfl lX3_150 (o_hasNew E hS hn (k := k) (by omega) (by omega)) (by decide) rfl (hs31) rfl rfl rfl (Nat.le_of_ble_eq_true rfl) ?_
    rintro _ _ ⟨rfl, rfl⟩
    refine zV.if2 kX3_most rfl (fun c => ?_) (fun c => ?_)
    · skip
      have c := zq_eq0.mp c
      have e : mof n ld (r + 1) k f = mof n ld r (k + 1) f := by show mof n ld r (k + 1) (if _ then _ else _) = _; rw [if_neg (fun q => c q.1)]
      rw [e]
      refine zV.run kX3_most 2 rfl ?_
      rw [nI_1]
      exact ih (k + 1) f (by omega) (by omega) hf1 hf6
    · skip
      have c := Decidable.not_not.mp (mt zq_eq0.mpr c)
      refine zV.run kX3_most 2 rfl ?_
      refine zV.cs kX3_most rfl lX3_156 (o_comesAhead E w (p := k) (q := f) (by omega) (by omega) (by omega) (by omega)) (by decide) rfl rfl (Nat.le_of_ble_eq_true rfl) ?_
      rintro _ _ ⟨rfl, rfl⟩
      refine zV.if2 kX3_most rfl (fun c2 => ?_) (fun c2 => ?_)
      · skip
        have c2 := zq_eq0.mp c2
        have e : mof n ld (r + 1) k f = mof n ld r (k + 1) f := by show mof n ld r (k + 1) (if _ then _ else _) = _; rw [if_neg (fun q => c2 q.2)]
        rw [e]
        refine zV.run kX3_most 2 rfl ?_
        rw [nI_1]
        exact ih (k + 1) f (by omega) (by omega) hf1 hf6
      · skip
        have c2 := Decidable.not_not.mp (mt zq_eq0.mpr c2)
        have e : mof n ld (r + 1) k f = mof n ld r (k + 1) k := by show mof n ld r (k + 1) (if _ then _ else _) = _; rw [if_pos ⟨c, c2⟩]
        rw [e]
        refine zV.run kX3_most 4 rfl ?_
        rw [nI_1]
        exact ih (k + 1) k (by omega) (by omega) (by omega) (by omega)
theorem p_most (E : zE) {w : zWd} {σ : zSt} (h : zSys w σ) (m : Int32) : zOk E mX3_most 5 [.ref 0, .int m] w (zPo w (.int (if okM m then nI (mof (σ.1 m.toInt.toNat) (σ.2 m.toInt.toNat) 5 2 1) else -2)) σ) := by
  obtain ⟨x0, ⟨F, x1, x1f⟩, x2, -, ⟨s4, tq, fa, fb, cp, ep, es, nw, x4⟩, ⟨s5, rw5, x5⟩⟩ := id h
  refine zOk.of (by decide +kernel) (Nat.le_of_ble_eq_true rfl) ?_
  refine zV.run kX3_most 1 rfl ?_
  refine zV.cs kX3_most rfl lX3_30 (o_isMap E w m) (by decide) rfl rfl (Nat.le_of_ble_eq_true rfl) ?_
  rintro _ _ ⟨rfl, rfl⟩
  refine zV.if2 kX3_most rfl (fun c => ?_) (fun c => ?_)
  · skip
    have c := Decidable.not_not.mp (mt zq_eq0.mpr c)
    obtain ⟨mm, emm⟩ : ∃ mm, mm = m.toInt.toNat := ⟨_, rfl⟩
    have em : m = nI mm := by rw [emm]; exact i32_nI c.1
    have hm : mm < 8 := by omega
    rw [if_pos c, ← emm]
    obtain ⟨led, hf, hg, hl, h1, h5, hb⟩ := id (x2 mm hm)
    refine zV.run kX3_most 1 rfl ?_
    refine zV.gf kX3_most rfl fX3_26 (x0) rfl ?_
    refine zV.run kX3_most 1 rfl ?_
    refine zV.gf kX3_most rfl fX3_11 (x0) rfl ?_
    refine zV.run kX3_most 1 rfl ?_
    refine zV.aalF kX3_most rfl (x1) mm (em) (hm) (by decide) (x1f mm hm) ?_
    refine zV.cv kX3_most rfl lX3_125 (o_study E (x2 mm hm) (by omega) (by omega) x4 x5) (by decide) rfl (x4.1) rfl rfl rfl (Nat.le_of_ble_eq_true rfl) ?_
    rintro _ w9 ⟨rfl, hS, hw9⟩
    refine zV.run kX3_most 4 rfl ?_
    exact mof_l E m (h.ret hS hw9) hS h5 (fun a ha => hw9 a (by omega)) 5 2 1 (by omega) (by omega) (by omega) (by omega)
  · skip
    have c := zq_eq0.mp (Decidable.not_not.mp c)
    rw [if_neg c]
    refine zV.run kX3_most 1 rfl ?_
    exact zV.iret kX3_most rfl rfl (⟨rfl, h, fun _ _ => rfl⟩)
theorem ftp_rg (n : Nat) (ld : Nat → Nat) : ftp n ld = -1 ∨ (0 < ftp n ld ∧ ftp n ld < n) := by
  unfold ftp
  split
  · right; omega
  · left; rfl
theorem p_top (E : zE) {w : zWd} {σ : zSt} (h : zSys w σ) (m : Int32) : zOk E mX3_top 2 [.ref 0, .int m] w (zR0 w (.int (if okM m then iI (ftp (σ.1 m.toInt.toNat) (σ.2 m.toInt.toNat)) else -2))) := by
  obtain ⟨x0, ⟨F, x1, x1f⟩, x2, -, -, -⟩ := id h
  refine zOk.of (by decide +kernel) (Nat.le_of_ble_eq_true rfl) ?_
  refine zV.run kX3_top 1 rfl ?_
  refine zV.cs kX3_top rfl lX3_30 (o_isMap E w m) (by decide) rfl rfl (Nat.le_of_ble_eq_true rfl) ?_
  rintro _ _ ⟨rfl, rfl⟩
  refine zV.if2 kX3_top rfl (fun c => ?_) (fun c => ?_)
  · skip
    have c := Decidable.not_not.mp (mt zq_eq0.mpr c)
    obtain ⟨mm, emm⟩ : ∃ mm, mm = m.toInt.toNat := ⟨_, rfl⟩
    have em : m = nI mm := by rw [emm]; exact i32_nI c.1
    have hm : mm < 8 := by omega
    rw [← emm]
    obtain ⟨led, hf, hg, hl, h1, h5, hb⟩ := id (x2 mm hm)
    refine zV.run kX3_top 1 rfl ?_
    refine zV.gf kX3_top rfl fX3_11 (x0) rfl ?_
    refine zV.run kX3_top 1 rfl ?_
    refine zV.aalF kX3_top rfl (x1) mm (em) (hm) (by decide) (x1f mm hm) ?_
    refine zV.cv kX3_top rfl lX3_159 (o_findTop E (x2 mm hm)) (by decide) rfl (hf) rfl rfl rfl (Nat.le_of_ble_eq_true rfl) ?_
    rintro _ _ ⟨rfl, rfl⟩
    exact zV.iret kX3_top rfl rfl (⟨by rw [if_pos c], rfl⟩)
  · skip
    have c := zq_eq0.mp (Decidable.not_not.mp c)
    refine zV.run kX3_top 1 rfl ?_
    exact zV.iret kX3_top rfl rfl (⟨by rw [if_neg c], rfl⟩)
def twd (n : Nat) (ld : Nat → Nat) (i : Nat) : Int32 := if ftp n ld = -1 then -3 else if orb ld (ftp n ld).toNat i = (ftp n ld).toNat then 1 else if orb ld (ftp n ld).toNat i < (ftp n ld).toNat then 0 else 2
theorem p_topWord (E : zE) {w : zWd} {σ : zSt} (h : zSys w σ) (m i : Int32) : zOk E mX3_topWord 2 [.ref 0, .int m, .int i] w (zR0 w (.int (if okM m ∧ (1 ≤ i.toInt ∧ i.toInt ≤ 1000) then twd (σ.1 m.toInt.toNat) (σ.2 m.toInt.toNat) i.toInt.toNat else -2))) := by
  obtain ⟨x0, ⟨F, x1, x1f⟩, x2, -, -, -⟩ := id h
  refine zOk.of (by decide +kernel) (Nat.le_of_ble_eq_true rfl) ?_
  refine zV.run kX3_topWord 1 rfl ?_
  refine zV.cs kX3_topWord rfl lX3_30 (o_isMap E w m) (by decide) rfl rfl (Nat.le_of_ble_eq_true rfl) ?_
  rintro _ _ ⟨rfl, rfl⟩
  refine zV.if2 kX3_topWord rfl (fun c => ?_) (fun c => ?_)
  · skip
    have c := zq_eq0.mp c
    refine zV.run kX3_topWord 1 rfl ?_
    exact zV.iret kX3_topWord rfl rfl (⟨by rw [if_neg (fun q => c q.1)], rfl⟩)
  · skip
    have c := Decidable.not_not.mp (mt zq_eq0.mpr c)
    obtain ⟨mm, emm⟩ : ∃ mm, mm = m.toInt.toNat := ⟨_, rfl⟩
    have em : m = nI mm := by rw [emm]; exact i32_nI c.1
    have hm : mm < 8 := by omega
    rw [← emm]
    obtain ⟨led, hf, hg, hl, h1, h5, hb⟩ := id (x2 mm hm)
    refine zV.run kX3_topWord 2 rfl ?_
    refine zV.ic2 kX3_topWord rfl (fun c2 => ?_) (fun c2 => ?_)
    · skip
      have c2 : i.toInt < 1 := i32_lt.mp c2
      refine zV.run kX3_topWord 1 rfl ?_
      exact zV.iret kX3_topWord rfl rfl (⟨by rw [if_neg (fun q => absurd q.2.1 (by omega))], rfl⟩)
    · skip
      have c2 : 1 ≤ i.toInt := i32_le.mp (Int32.not_lt.mp c2)
      refine zV.run kX3_topWord 2 rfl ?_
      refine zV.ic2 kX3_topWord rfl (fun c3 => ?_) (fun c3 => ?_)
      · skip
        have c3 : i.toInt ≤ 1000 := i32_le.mp c3
        rw [if_pos ⟨c, c2, c3⟩]
        obtain ⟨ii, eii⟩ : ∃ ii, ii = i.toInt.toNat := ⟨_, rfl⟩
        have ei : i = nI ii := by rw [eii]; exact i32_nI (by omega)
        rw [← eii, ei]
        have hr := ftp_rg (σ.1 mm) (σ.2 mm)
        refine zV.run kX3_topWord 1 rfl ?_
        refine zV.gf kX3_topWord rfl fX3_11 (x0) rfl ?_
        refine zV.run kX3_topWord 1 rfl ?_
        refine zV.aalF kX3_topWord rfl (x1) mm (em) (hm) (by decide) (x1f mm hm) ?_
        refine zV.cv kX3_topWord rfl lX3_159 (o_findTop E (x2 mm hm)) (by decide) rfl (hf) rfl rfl rfl (Nat.le_of_ble_eq_true rfl) ?_
        rintro _ _ ⟨rfl, rfl⟩
        refine zV.run kX3_topWord 3 rfl ?_
        refine zV.ic2 kX3_topWord rfl (fun c4 => ?_) (fun c4 => ?_)
        · skip
          have c4 : ¬ ftp (σ.1 mm) (σ.2 mm) = -1 := fun q => c4 (by rw [q]; rfl)
          obtain ⟨tc, etc⟩ : ∃ tc : Nat, tc = (ftp (σ.1 mm) (σ.2 mm)).toNat := ⟨_, rfl⟩
          have etc2 : iI (ftp (σ.1 mm) (σ.2 mm)) = nI tc := by rw [nI_iI, etc, Int.toNat_of_nonneg (by omega)]
          have htc : tc < σ.1 mm := by omega
          have ho := orb_le hb (i := tc) (by omega) ii
          have ew : twd (σ.1 mm) (σ.2 mm) ii = if orb (σ.2 mm) tc ii = tc then 1 else if orb (σ.2 mm) tc ii < tc then 0 else 2 := by
            unfold twd
            rw [if_neg c4, ← etc]
          rw [etc2, ew]
          refine zV.run kX3_topWord 1 rfl ?_
          refine zV.gf kX3_topWord rfl fX3_11 (x0) rfl ?_
          refine zV.run kX3_topWord 1 rfl ?_
          refine zV.aalF kX3_topWord rfl (x1) mm (em) (hm) (by decide) (x1f mm hm) ?_
          refine zV.run kX3_topWord 2 rfl ?_
          refine zV.cv kX3_topWord rfl lX3_162 (o_cornerAfter E (x2 mm hm) (i := tc) (by omega) (k := ii) (by omega)) (by decide) rfl (hf) rfl rfl rfl (Nat.le_of_ble_eq_true rfl) ?_
          rintro _ _ ⟨rfl, rfl⟩
          refine zV.run kX3_topWord 3 rfl ?_
          refine zV.ic2 kX3_topWord rfl (fun c5 => ?_) (fun c5 => ?_)
          · skip
            have c5 := mt (nI_eq (a := orb (σ.2 mm) tc ii) (b := tc) (by omega) (by omega)).mpr c5
            rw [if_neg c5]
            refine zV.run kX3_topWord 2 rfl ?_
            refine zV.ic2 kX3_topWord rfl (fun c6 => ?_) (fun c6 => ?_)
            · skip
              have c6 := (nI_leI (by omega) (by omega)).mp c6
              refine zV.run kX3_topWord 1 rfl ?_
              exact zV.iret kX3_topWord rfl rfl (⟨by rw [if_neg (by omega)], rfl⟩)
            · skip
              have c6 := mt (nI_leI (a := tc) (b := orb (σ.2 mm) tc ii) (by omega) (by omega)).mpr c6
              refine zV.run kX3_topWord 2 rfl ?_
              exact zV.iret kX3_topWord rfl rfl (⟨by rw [if_pos (by omega)], rfl⟩)
          · skip
            have c5 := (nI_eq (by omega) (by omega)).mp (Decidable.not_not.mp c5)
            refine zV.run kX3_topWord 1 rfl ?_
            exact zV.iret kX3_topWord rfl rfl (⟨by rw [if_pos c5], rfl⟩)
        · skip
          have c4 : ftp (σ.1 mm) (σ.2 mm) = -1 := (iI_eq (by omega) (by omega) (by omega) (by omega)).mp (show iI _ = iI (-1) from Decidable.not_not.mp c4)
          refine zV.run kX3_topWord 1 rfl ?_
          exact zV.iret kX3_topWord rfl rfl (⟨by unfold twd; rw [if_pos c4], rfl⟩)
      · skip
        have c3 : 1000 < i.toInt := i32_lt.mp (Int32.not_le.mp c3)
        refine zV.run kX3_topWord 1 rfl ?_
        exact zV.iret kX3_topWord rfl rfl (⟨by rw [if_neg (fun q => absurd q.2.2 (by omega))], rfl⟩)
def trd (n : Nat) (ld : Nat → Nat) (what : Int32) : Int32 := if ftp n ld = -1 then -3 else if what = 0 then nI (sah n ld (n + 1) (ftp n ld).toNat) else nI (sor n ld (orb ld (ftp n ld).toNat (sah n ld (n + 1) (ftp n ld).toNat)))
theorem sah_le (n : Nat) (ld : Nat → Nat) : ∀ r x, sah n ld r x ≤ r
  | 0, x => Nat.le_refl _
  | r + 1, x => by
    have := sah_le n ld r (ld x)
    unfold sah
    split <;> omega
theorem p_topRound (E : zE) {w : zWd} {σ : zSt} (h : zSys w σ) (m what : Int32) : zOk E mX3_topRound 2 [.ref 0, .int m, .int what] w (zR0 w (.int (if okM m ∧ (what = 0 ∨ what = 1) then trd (σ.1 m.toInt.toNat) (σ.2 m.toInt.toNat) what else -2))) := by
  obtain ⟨x0, ⟨F, x1, x1f⟩, x2, -, -, -⟩ := id h
  refine zOk.of (by decide +kernel) (Nat.le_of_ble_eq_true rfl) ?_
  refine zV.run kX3_topRound 1 rfl ?_
  refine zV.cs kX3_topRound rfl lX3_30 (o_isMap E w m) (by decide) rfl rfl (Nat.le_of_ble_eq_true rfl) ?_
  rintro _ _ ⟨rfl, rfl⟩
  refine zV.if2 kX3_topRound rfl (fun c => ?_) (fun c => ?_)
  · skip
    have c := zq_eq0.mp c
    refine zV.run kX3_topRound 1 rfl ?_
    exact zV.iret kX3_topRound rfl rfl (⟨by rw [if_neg (fun q => c q.1)], rfl⟩)
  · skip
    have c := Decidable.not_not.mp (mt zq_eq0.mpr c)
    obtain ⟨mm, emm⟩ : ∃ mm, mm = m.toInt.toNat := ⟨_, rfl⟩
    have em : m = nI mm := by rw [emm]; exact i32_nI c.1
    have hm : mm < 8 := by omega
    rw [← emm]
    obtain ⟨led, hf, hg, hl, h1, h5, hb⟩ := id (x2 mm hm)
    refine zV.run kX3_topRound 1 rfl ?_
    refine zV.cs kX3_topRound rfl lX3_70 (o_isTerm E w what) (by decide) rfl rfl (Nat.le_of_ble_eq_true rfl) ?_
    rintro _ _ ⟨rfl, rfl⟩
    refine zV.if2 kX3_topRound rfl (fun c2 => ?_) (fun c2 => ?_)
    · skip
      have c2 := Decidable.not_not.mp (mt zq_eq0.mpr c2)
      rw [if_pos ⟨c, c2⟩]
      have hr := ftp_rg (σ.1 mm) (σ.2 mm)
      refine zV.run kX3_topRound 1 rfl ?_
      refine zV.gf kX3_topRound rfl fX3_11 (x0) rfl ?_
      refine zV.run kX3_topRound 1 rfl ?_
      refine zV.aalF kX3_topRound rfl (x1) mm (em) (hm) (by decide) (x1f mm hm) ?_
      refine zV.cv kX3_topRound rfl lX3_159 (o_findTop E (x2 mm hm)) (by decide) rfl (hf) rfl rfl rfl (Nat.le_of_ble_eq_true rfl) ?_
      rintro _ _ ⟨rfl, rfl⟩
      refine zV.run kX3_topRound 3 rfl ?_
      refine zV.ic2 kX3_topRound rfl (fun c4 => ?_) (fun c4 => ?_)
      · skip
        have c4 : ¬ ftp (σ.1 mm) (σ.2 mm) = -1 := fun q => c4 (by rw [q]; rfl)
        obtain ⟨tc, etc⟩ : ∃ tc : Nat, tc = (ftp (σ.1 mm) (σ.2 mm)).toNat := ⟨_, rfl⟩
        have etc2 : iI (ftp (σ.1 mm) (σ.2 mm)) = nI tc := by rw [nI_iI, etc, Int.toNat_of_nonneg (by omega)]
        have htc : tc < σ.1 mm := by omega
        have hsa := sah_le (σ.1 mm) (σ.2 mm) (σ.1 mm + 1) tc
        have ho := orb_le hb (i := tc) (by omega) (sah (σ.1 mm) (σ.2 mm) (σ.1 mm + 1) tc)
        have ew : trd (σ.1 mm) (σ.2 mm) what = if what = 0 then nI (sah (σ.1 mm) (σ.2 mm) (σ.1 mm + 1) tc) else nI (sor (σ.1 mm) (σ.2 mm) (orb (σ.2 mm) tc (sah (σ.1 mm) (σ.2 mm) (σ.1 mm + 1) tc))) := by
          unfold trd
          rw [if_neg c4, ← etc]
        rw [etc2, ew]
        refine zV.run kX3_topRound 1 rfl ?_
        refine zV.gf kX3_topRound rfl fX3_11 (x0) rfl ?_
        refine zV.run kX3_topRound 1 rfl ?_
        refine zV.aalF kX3_topRound rfl (x1) mm (em) (hm) (by decide) (x1f mm hm) ?_
        refine zV.run kX3_topRound 1 rfl ?_
        refine zV.cv kX3_topRound rfl lX3_166 (o_stepsAhead E (x2 mm hm) (i := tc) (by omega)) (by decide) rfl (hf) rfl rfl rfl (Nat.le_of_ble_eq_true rfl) ?_
        rintro _ _ ⟨rfl, rfl⟩
        refine zV.run kX3_topRound 2 rfl ?_
        refine zV.if2 kX3_topRound rfl (fun c5 => ?_) (fun c5 => ?_)
        · skip
          have c5 : ¬ what = 0 := c5
          rw [if_neg c5]
          refine zV.run kX3_topRound 1 rfl ?_
          refine zV.gf kX3_topRound rfl fX3_11 (x0) rfl ?_
          refine zV.run kX3_topRound 1 rfl ?_
          refine zV.aalF kX3_topRound rfl (x1) mm (em) (hm) (by decide) (x1f mm hm) ?_
          refine zV.run kX3_topRound 1 rfl ?_
          refine zV.gf kX3_topRound rfl fX3_11 (x0) rfl ?_
          refine zV.run kX3_topRound 1 rfl ?_
          refine zV.aalF kX3_topRound rfl (x1) mm (em) (hm) (by decide) (x1f mm hm) ?_
          refine zV.run kX3_topRound 2 rfl ?_
          refine zV.cv kX3_topRound rfl lX3_162 (o_cornerAfter E (x2 mm hm) (i := tc) (by omega) (k := sah (σ.1 mm) (σ.2 mm) (σ.1 mm + 1) tc) (by omega)) (by decide) rfl (hf) rfl rfl rfl (Nat.le_of_ble_eq_true rfl) ?_
          rintro _ _ ⟨rfl, rfl⟩
          refine zV.cv kX3_topRound rfl lX3_169 (o_stepsOfRound E (x2 mm hm) ho) (by decide) rfl (hf) rfl rfl rfl (Nat.le_of_ble_eq_true rfl) ?_
          rintro _ _ ⟨rfl, rfl⟩
          exact zV.iret kX3_topRound rfl rfl (⟨rfl, rfl⟩)
        · skip
          have c5 : what = 0 := Decidable.not_not.mp c5
          refine zV.run kX3_topRound 2 rfl ?_
          exact zV.iret kX3_topRound rfl rfl (⟨by rw [if_pos c5], rfl⟩)
      · skip
        have c4 : ftp (σ.1 mm) (σ.2 mm) = -1 := (iI_eq (by omega) (by omega) (by omega) (by omega)).mp (show iI _ = iI (-1) from Decidable.not_not.mp c4)
        refine zV.run kX3_topRound 1 rfl ?_
        exact zV.iret kX3_topRound rfl rfl (⟨by unfold trd; rw [if_pos c4], rfl⟩)
    · skip
      have c2 := zq_eq0.mp (Decidable.not_not.mp c2)
      refine zV.run kX3_topRound 1 rfl ?_
      exact zV.iret kX3_topRound rfl rfl (⟨by rw [if_neg (fun q => c2 q.2)], rfl⟩)
theorem p_digest_2 (E : zE) {w : zWd} {σ : zSt} {Post : Option Value → zWd → Prop} {m : Nat} (hm : m < 8) (hF : zFo w (2 + m) (10 + m) (σ.1 m) (σ.2 m)) (h0 : Int64)
    (kk : ∀ z5 : Value, zV E mX3_digest 0 Post 68 [.ref 0, .long (dgi (σ.2 m) h0 (σ.1 m + 1)), zU, .int (nI m), .ref (2 + m), z5] [] w) :
    ∀ (r i : Nat), i + r = σ.1 m + 1 → zV E mX3_digest 0 Post 36 [.ref 0, .long (dgi (σ.2 m) h0 i), zU, .int (nI m), .ref (2 + m), .int (nI i)] [] w := by
  obtain ⟨led, hf, hg, hl, h1, h5, hb⟩ := id hF
  intro r
  induction r with
  | zero =>
    intro i hi
    have e : i = σ.1 m + 1 := by omega
    subst e
    refine zV.run kX3_digest 2 rfl ?_
    refine zV.gf kX3_digest rfl fX3_49 (hf) rfl ?_
    refine zV.ict kX3_digest (cd := .gt) rfl (nI_lt (by omega) (by omega)) ?_
    exact kk _
  | succ r ih =>
    intro i hi
    have li := hb i (by omega)
    refine zV.run kX3_digest 2 rfl ?_
    refine zV.gf kX3_digest rfl fX3_49 (hf) rfl ?_
    refine zV.icf kX3_digest (cd := .gt) rfl (nI_nlt (by omega) (by omega)) ?_
    refine zV.ldc2 kX3_digest rfl qX3_174 ?_
    refine zV.run kX3_digest 3 rfl ?_
    refine zV.gf kX3_digest rfl fX3_41 (hf) rfl ?_
    refine zV.run kX3_digest 1 rfl ?_
    refine zV.ial kX3_digest rfl (hg) (i) (rfl) (by omega) (by decide) ?_
    rw [hl i (by omega)]
    refine zV.run kX3_digest 5 rfl ?_
    rw [nI_1, nI_l (by omega)]
    exact ih (i + 1) (by omega)
theorem p_digest_1 (E : zE) {w : zWd} {σ : zSt} (h : zSys w σ) : ∀ (r m : Nat) (z4 z5 : Value), m + r = 8 → zV E mX3_digest 0 (zR0 w (.long (dgo σ 8))) 6 [.ref 0, .long (dgo σ m), zU, .int (nI m), z4, z5] [] w := by
  obtain ⟨x0, ⟨F, x1, x1f⟩, x2, -, -, -⟩ := id h
  intro r
  induction r with
  | zero =>
    intro m z4 z5 hm
    have e : m = 8 := by omega
    subst e
    refine zV.run kX3_digest 2 rfl ?_
    refine zV.ict kX3_digest (cd := .ge) rfl (Int32.le_refl _) ?_
    refine zV.run kX3_digest 1 rfl ?_
    exact zV.lret kX3_digest rfl rfl (⟨rfl, rfl⟩)
  | succ r ih =>
    intro m z4 z5 hr
    have hm : m < 8 := by omega
    obtain ⟨led, hf, hg, hl, h1, h5, hb⟩ := id (x2 m hm)
    refine zV.run kX3_digest 2 rfl ?_
    refine zV.icf kX3_digest (cd := .ge) rfl (fun q => absurd ((nI_leI (a := 8) (b := m) (by omega) (by omega)).mp q) (by omega)) ?_
    refine zV.run kX3_digest 1 rfl ?_
    refine zV.gf kX3_digest rfl fX3_11 (x0) rfl ?_
    refine zV.run kX3_digest 1 rfl ?_
    refine zV.aalF kX3_digest rfl (x1) (m) (rfl) (hm) (by decide) (x1f m hm) ?_
    refine zV.run kX3_digest 1 rfl ?_
    refine zV.ldc2 kX3_digest rfl qX3_174 ?_
    refine zV.run kX3_digest 3 rfl ?_
    refine zV.gf kX3_digest rfl fX3_49 (hf) rfl ?_
    refine zV.run kX3_digest 5 rfl ?_
    rw [nI_l (by omega)]
    refine p_digest_2 E hm (x2 m hm) (31 * dgo σ m + lN (σ.1 m)) (fun y5 => ?_) (σ.1 m + 1) 0 (by omega)
    refine zV.run kX3_digest 2 rfl ?_
    rw [nI_1]
    exact ih (m + 1) _ _ (by omega)
theorem p_digest (E : zE) {w : zWd} {σ : zSt} (h : zSys w σ) : zOk E mX3_digest 0 [.ref 0] w (zR0 w (.long (dgo σ 8))) := by
  refine zOk.of (by decide +kernel) (Nat.le_of_ble_eq_true rfl) ?_
  refine zV.ldc2 kX3_digest rfl qX3_172 ?_
  refine zV.run kX3_digest 3 rfl ?_
  exact p_digest_1 E h 8 0 _ _ (by omega)
end
section
/-! ===== the model: its cells; maps and points ===== -/
abbrev zMo (ab be : Int64) (rm en ej : Int32) : va_E := zOb 4 [.ref 50, .ref 51, .ref 52, .long ab, .long be, .ref 53, .ref 54, .int rm, .int en, .int ej, .ref 55, .ref 56, .ref 57, .ref 58, .ref 59, .ref 60]
def vld (σ : zSt) : Prop := ∀ m, m < 8 → 1 ≤ σ.1 m ∧ σ.1 m ≤ 5 ∧ ∀ i, i ≤ σ.1 m → σ.2 m i ≤ σ.1 m
def zMc (w : zWd) (σ : zSt) : Prop := (∃ sz, zIs w 50 (zIA 8 sz) ∧ ∀ m, m < 8 → sz m = nI (σ.1 m)) ∧ (∃ ld, zIs w 51 (zIA 56 ld) ∧ ∀ m i, m < 8 → i ≤ σ.1 m → ld (7 * m + i) = nI (σ.2 m i)) ∧ vld σ
def zMx (w : zWd) : Prop := (∃ f, zIs w 52 (zIA 7 f)) ∧ (∃ f, zIs w 53 (zLA 47000 f)) ∧ (∃ f, zIs w 54 (zLA 47000 f)) ∧ (∃ f, zIs w 55 (zLA 7 f)) ∧ (∃ f, zIs w 56 (zLA 7 f)) ∧ (∃ f, zIs w 57 (zLA 6 f)) ∧ (∃ f, zIs w 58 (zLA 6 f)) ∧ (∃ f, zIs w 59 (zIA 7 f)) ∧ (∃ f, zIs w 60 (zIA 7 f))
def zMs (w : zWd) (σ : zSt) : Prop := (∃ ab be rm en ej, zIs w 49 (zMo ab be rm en ej)) ∧ zMc w σ ∧ zMx w
def zFm (w w' : zWd) : Prop := ∀ a, a < 49 → w' a = w a
theorem zMc.k {w w' : zWd} {σ : zSt} (h : zMc w σ) (h0 : w' 50 = w 50) (h1 : w' 51 = w 51) : zMc w' σ := by
  obtain ⟨⟨sz, a1, a2⟩, ⟨ld, b1, b2⟩, c⟩ := h
  exact ⟨⟨sz, a1.k h0, a2⟩, ⟨ld, b1.k h1, b2⟩, c⟩
theorem zMx.k {w w' : zWd} (h : zMx w) (hw : ∀ a, 52 ≤ a → a < 61 → w' a = w a) : zMx w' := by
  obtain ⟨⟨f2, h2⟩, ⟨f3, h3⟩, ⟨f4, h4⟩, ⟨f5, h5⟩, ⟨f6, h6⟩, ⟨f7, h7⟩, ⟨f8, h8⟩, ⟨f9, h9⟩, ⟨f0, h0⟩⟩ := h
  exact ⟨⟨f2, h2.k (hw _ (by omega) (by omega))⟩, ⟨f3, h3.k (hw _ (by omega) (by omega))⟩, ⟨f4, h4.k (hw _ (by omega) (by omega))⟩, ⟨f5, h5.k (hw _ (by omega) (by omega))⟩, ⟨f6, h6.k (hw _ (by omega) (by omega))⟩, ⟨f7, h7.k (hw _ (by omega) (by omega))⟩, ⟨f8, h8.k (hw _ (by omega) (by omega))⟩, ⟨f9, h9.k (hw _ (by omega) (by omega))⟩, ⟨f0, h0.k (hw _ (by omega) (by omega))⟩⟩
abbrev zPm (w : zWd) (v : Value) (σ : zSt) : Option Value → zWd → Prop := fun r w' => r = some v ∧ zMs w' σ ∧ zFm w w'
theorem ix7 {m i : Nat} : (7 : Int32) * nI m + nI i = nI (7 * m + i) := by
  rw [show (7 : Int32) = nI 7 from rfl, pk_mul, nI_add]
theorem n_in (E : zE) (w : zWd) (v a b : Int64) : zOk E mX4_in 0 [.long v, .long a, .long b] w (zR0 w (.int (zq (a.toInt ≤ v.toInt ∧ v.toInt ≤ b.toInt)))) := by
  refine zOk.of (by decide +kernel) (Nat.le_of_ble_eq_true rfl) ?_
  refine zV.run kX4_in 2 rfl ?_
  refine zV.il2 kX4_in rfl rfl (fun c => ?_) (fun c => ?_)
  · skip
    have c := i64_lt.mp c
    refine zV.run kX4_in 1 rfl ?_
    exact zV.zret kX4_in rfl rfl (Or.inl rfl) (⟨by rw [zq_f]; omega, rfl⟩)
  · skip
    have c := i64_le.mp (Int64.not_lt.mp c)
    refine zV.run kX4_in 2 rfl ?_
    refine zV.il2 kX4_in rfl rfl (fun c2 => ?_) (fun c2 => ?_)
    · skip
      have c2 := i64_lt.mp c2
      refine zV.run kX4_in 1 rfl ?_
      exact zV.zret kX4_in rfl rfl (Or.inl rfl) (⟨by rw [zq_f]; omega, rfl⟩)
    · skip
      have c2 := i64_le.mp (Int64.not_lt.mp c2)
      refine zV.run kX4_in 2 rfl ?_
      exact zV.zret kX4_in rfl rfl (Or.inr rfl) (⟨by rw [zq_t]; omega, rfl⟩)
theorem n_isMap (E : zE) (w : zWd) (m : Int32) : zOk E mX4_isMap 1 [.int m] w (zR0 w (.int (zq (okM m)))) := by
  refine zOk.of (by decide +kernel) (Nat.le_of_ble_eq_true rfl) ?_
  refine zV.run kX4_isMap 3 rfl ?_
  refine zV.ldc2 kX4_isMap rfl qX4_45 ?_
  refine zV.cs kX4_isMap rfl lX4_47 (n_in E w m.toInt64 0 7) (by decide) rfl rfl (Nat.le_of_ble_eq_true rfl) ?_
  rintro _ _ ⟨rfl, rfl⟩
  exact zV.zret kX4_isMap rfl rfl (zq01 _) (⟨by congr 2; apply zq_c; rw [Int32.toInt_toInt64, show (0 : Int64).toInt = 0 from rfl, show (7 : Int64).toInt = 7 from rfl]; omega, rfl⟩)
theorem n_slopeOf (E : zE) {w : zWd} {σ : zSt} {ab be : Int64} {rm en ej : Int32} (h0 : zIs w 49 (zMo ab be rm en ej)) (hc : zMc w σ) {m i : Nat} (hm : m < 8) (hi : i < σ.1 m) : zOk E mX4_slopeOf 0 [.ref 49, .int (nI m), .int (nI i)] w (zR0 w (.int (iI (sl (σ.2 m) i)))) := by
  obtain ⟨-, ⟨ld, b1, b2⟩, hv⟩ := hc
  have v5 := (hv m hm).2.1
  refine zOk.of (by decide +kernel) (Nat.le_of_ble_eq_true rfl) ?_
  refine zV.run kX4_slopeOf 1 rfl ?_
  refine zV.gf kX4_slopeOf rfl fX4_13 (h0) rfl ?_
  refine zV.run kX4_slopeOf 7 rfl ?_
  refine zV.ial kX4_slopeOf rfl (b1) (7 * m + (i + 1)) (by rw [ix7, nI_1]; rfl) (by omega) (by decide) ?_
  refine zV.run kX4_slopeOf 1 rfl ?_
  refine zV.gf kX4_slopeOf rfl fX4_13 (h0) rfl ?_
  refine zV.run kX4_slopeOf 5 rfl ?_
  refine zV.ial kX4_slopeOf rfl (b1) (7 * m + i) (ix7) (by omega) (by decide) ?_
  refine zV.run kX4_slopeOf 1 rfl ?_
  exact zV.iret kX4_slopeOf rfl rfl (⟨by rw [b2 m i hm (by omega), b2 m (i + 1) hm (by omega), nI_iI, nI_iI, iI_sub]; rfl, rfl⟩)
theorem n_divisor_l (E : zE) (w : zWd) (a b : Int64) : ∀ (f x y : Nat), y < f → x < 2 ^ 48 → y < 2 ^ 48 → ∀ v u, (v = zU ∨ ∃ z, v = .long z) → u = zU → zV E mX4_divisor 0 (zR0 w (.long (lN (Nat.gcd x y)))) 6 [.long a, zU, .long b, zU, .long (lN x), zU, .long (lN y), zU, v, u] [] w := by
  intro f
  induction f with
  | zero => intro x y h; omega
  | succ f ih =>
    intro x y hf hx hy v u hv hu
    subst hu
    by_cases c : y = 0
    · subst c
      refine zV.run kX4_divisor 2 rfl ?_
      refine zV.ilt kX4_divisor (cd := .eq) rfl rfl (rfl) ?_
      refine zV.run kX4_divisor 1 rfl ?_
      exact zV.lret kX4_divisor rfl rfl (⟨by rw [Nat.gcd_zero_right], rfl⟩)
    · have hne : ¬ lN y = 0 := fun q => c ((pk_lEQ (a := y) (b := 0) (by omega) (by omega)).mp q)
      have hm : x % y < y := Nat.mod_lt _ (by omega)
      have g1 : Nat.gcd x y = Nat.gcd y (x % y) := by
        rw [Nat.gcd_comm x y, Nat.gcd_rec y x, Nat.gcd_comm]
      refine zV.run kX4_divisor 2 rfl ?_
      refine zV.ilf kX4_divisor (cd := .eq) rfl rfl (hne) ?_
      refine zV.run kX4_divisor 2 rfl ?_
      refine zV.lrem kX4_divisor rfl (hne) ?_
      rw [pk_lRem (by omega) (by omega) (by omega), g1]
      refine zV.run kX4_divisor 6 rfl ?_
      exact ih y (x % y) (by omega) hy (by omega) _ _ (Or.inr ⟨_, rfl⟩) rfl
theorem n_divisor (E : zE) (w : zWd) {a b : Nat} (ha : a < 2 ^ 48) (hb : b < 2 ^ 48) : zOk E mX4_divisor 0 [.long (lN a), .long (lN b)] w (zR0 w (.long (lN (Nat.gcd a b)))) := by
  refine zOk.of (by decide +kernel) (Nat.le_of_ble_eq_true rfl) ?_
  refine zV.run kX4_divisor 4 rfl ?_
  exact n_divisor_l E w (lN a) (lN b) (b + 1) a b (by omega) ha hb zU zU (Or.inl rfl) rfl
theorem n_at (E : zE) {w : zWd} {ab be : Int64} {rm en ej : Int32} (h0 : zIs w 49 (zMo ab be rm en ej)) {a b : Nat} (ha : a < 2 ^ 48) (hb : b < 2 ^ 48) (hb0 : 0 < b) : zOk E mX4_at 1 [.ref 49, .long (lN a), .long (lN b)] w (fun r w' => r = none ∧ w' = va_up w 49 (zMo (lN (a / Nat.gcd a b)) (lN (b / Nat.gcd a b)) rm en ej)) := by
  have hg0 : 0 < Nat.gcd b a := Nat.gcd_pos_of_pos_left _ hb0
  have hgb : Nat.gcd b a ≤ b := Nat.gcd_le_left _ hb0
  have hne : ¬ lN (Nat.gcd b a) = 0 := fun q => absurd ((pk_lEQ (a := Nat.gcd b a) (b := 0) (by omega) (by omega)).mp q) (by omega)
  refine zOk.of (by decide +kernel) (Nat.le_of_ble_eq_true rfl) ?_
  refine zV.run kX4_at 2 rfl ?_
  refine zV.cs kX4_at rfl lX4_63 (n_divisor E w hb ha) (by decide) rfl rfl (Nat.le_of_ble_eq_true rfl) ?_
  rintro _ _ ⟨rfl, rfl⟩
  refine zV.run kX4_at 4 rfl ?_
  refine zV.ldiv kX4_at rfl (hne) ?_
  rw [pk_lDiv (by omega) hg0 (by omega)]
  refine zV.pfl kX4_at rfl pX4_67 (h0) (Nat.le_of_ble_eq_true rfl) ?_
  refine zV.run kX4_at 3 rfl ?_
  refine zV.ldiv kX4_at rfl (hne) ?_
  rw [pk_lDiv (by omega) hg0 (by omega)]
  refine zV.pfl kX4_at rfl pX4_71 (zIs.s h0.1) (Nat.le_of_ble_eq_true rfl) ?_
  exact zV.vret kX4_at rfl rfl (⟨rfl, by rw [bx_uu, Nat.gcd_comm a b]; rfl⟩)
-- a point in lowest terms
theorem spn_scale {n : Nat} {a b g : Int} (hg : 0 < g) : spn n (g * a) (g * b) = spn n a b := by
  unfold spn
  rw [Int.mul_ediv_mul_of_pos _ _ hg]
theorem stp_scale {n : Nat} {ld : Nat → Nat} {a b g : Int} (hg : 0 < g) : stp n ld (g * b) (g * a) = g * stp n ld b a := by
  unfold stp
  rw [spn_scale hg]
  generalize spn n a b = i
  rw [Int.mul_left_comm (i : Int) g b, ← Int.mul_sub, Int.mul_add, Int.mul_left_comm (ld i : Int) g b, Int.mul_left_comm (sl ld i) g]
theorem rd_of {a b : Nat} (hb : 0 < b) : ∃ g : Nat, 0 < g ∧ g = Nat.gcd a b ∧ a = g * (a / Nat.gcd a b) ∧ b = g * (b / Nat.gcd a b) ∧ 0 < b / Nat.gcd a b := by
  have hg : 0 < Nat.gcd a b := Nat.gcd_pos_of_pos_right _ hb
  refine ⟨Nat.gcd a b, hg, rfl, ?_, ?_, ?_⟩
  · exact (Nat.mul_div_cancel' (Nat.gcd_dvd_left a b)).symm
  · exact (Nat.mul_div_cancel' (Nat.gcd_dvd_right a b)).symm
  · exact Nat.div_pos (Nat.gcd_le_right _ hb) hg
theorem rd_scale {a b g : Nat} (hg : 0 < g) : (g * a) / Nat.gcd (g * a) (g * b) = a / Nat.gcd a b ∧ (g * b) / Nat.gcd (g * a) (g * b) = b / Nat.gcd a b := by
  rw [Nat.gcd_mul_left]
  exact ⟨Nat.mul_div_mul_left _ _ hg, Nat.mul_div_mul_left _ _ hg⟩
/-- the model stands at the point x by b -/
def zAt (w : zWd) (x b : Nat) (rm en ej : Int32) : Prop := zIs w 49 (zMo (lN (x / Nat.gcd x b)) (lN (b / Nat.gcd x b)) rm en ej)
theorem n_span (E : zE) {w : zWd} {σ : zSt} {rm en ej : Int32} (hc : zMc w σ) {m x b : Nat} (h0 : zAt w x b rm en ej) (hm : m < 8) (hb : 0 < b) (hb2 : b ≤ 100000) (hx : (x : Int) ≤ σ.1 m * b) : zOk E mX4_span 0 [.ref 49, .int (nI m)] w (zR0 w (.int (nI (spn (σ.1 m) x b)))) := by
  have h0 : zIs w 49 (zMo (lN (x / Nat.gcd x b)) (lN (b / Nat.gcd x b)) rm en ej) := h0
  obtain ⟨⟨sz, a1, a2⟩, -, hv⟩ := hc
  obtain ⟨v1, v5, -⟩ := hv m hm
  obtain ⟨g, hg, eg, ex, eb, hb0⟩ := rd_of (a := x) hb
  have x5 := bnd5 v5 (show (1 : Int) ≤ b by omega) (by omega) hx
  have xle : x / Nat.gcd x b ≤ x := Nat.div_le_self _ _
  have ble : b / Nat.gcd x b ≤ b := Nat.div_le_self _ _
  have es : spn (σ.1 m) x b = spn (σ.1 m) ((x / Nat.gcd x b : Nat) : Int) ((b / Nat.gcd x b : Nat) : Int) := by
    have := spn_scale (n := σ.1 m) (a := ((x / Nat.gcd x b : Nat) : Int)) (b := ((b / Nat.gcd x b : Nat) : Int)) (g := (g : Int)) (by omega)
    rw [← this]
    congr 1
    · conv => lhs; rw [ex]
      simp
    · conv => lhs; rw [eb]
      simp
  rw [es]
  generalize x / Nat.gcd x b = X at *
  generalize b / Nat.gcd x b = B at *
  have hd : X / B ≤ X := Nat.div_le_self _ _
  refine zOk.of (by decide +kernel) (Nat.le_of_ble_eq_true rfl) ?_
  refine zV.run kX4_span 1 rfl ?_
  refine zV.gf kX4_span rfl fX4_67 (h0) rfl ?_
  refine zV.run kX4_span 1 rfl ?_
  refine zV.gf kX4_span rfl fX4_71 (h0) rfl ?_
  refine zV.ldiv kX4_span rfl (fun q => absurd ((pk_lEQ (a := B) (b := 0) (by omega) (by omega)).mp q) (by omega)) ?_
  rw [pk_lDiv (by omega) hb0 (by omega)]
  refine zV.run kX4_span 4 rfl ?_
  rw [lN_i]
  refine zV.gf kX4_span rfl fX4_7 (h0) rfl ?_
  refine zV.run kX4_span 1 rfl ?_
  refine zV.ial kX4_span rfl (a1) (m) (rfl) (hm) (by decide) ?_
  rw [a2 m hm]
  have ed : ((X : Int) / (B : Int)).toNat = X / B := rfl
  refine zV.ic2 kX4_span rfl (fun c => ?_) (fun c => ?_)
  · skip
    have c := (nI_leI (by omega) (by omega)).mp c
    refine zV.run kX4_span 1 rfl ?_
    refine zV.gf kX4_span rfl fX4_7 (h0) rfl ?_
    refine zV.run kX4_span 1 rfl ?_
    refine zV.ial kX4_span rfl (a1) (m) (rfl) (hm) (by decide) ?_
    rw [a2 m hm]
    refine zV.run kX4_span 2 rfl ?_
    rw [show (1 : Int32) = nI 1 from rfl, pk_sub v1]
    exact zV.iret kX4_span rfl rfl (⟨by congr 2; congr 1; unfold spn; rw [ed]; omega, rfl⟩)
  · skip
    have c := mt (nI_leI (a := σ.1 m) (b := X / B) (by omega) (by omega)).mpr c
    refine zV.run kX4_span 2 rfl ?_
    exact zV.iret kX4_span rfl rfl (⟨by congr 2; congr 1; unfold spn; rw [ed]; omega, rfl⟩)
theorem n_step (E : zE) {w : zWd} {σ : zSt} {rm en ej : Int32} (hc : zMc w σ) {m x b : Nat} (h0 : zAt w x b rm en ej) (hm : m < 8) (hb : 0 < b) (hb2 : b ≤ 100000) (hx : (x : Int) ≤ σ.1 m * b) : zOk E mX4_step 2 [.ref 49, .int (nI m)] w (fun r w' => r = none ∧ w' = va_up w 49 (zMo (lN ((stp (σ.1 m) (σ.2 m) b x).toNat / Nat.gcd (stp (σ.1 m) (σ.2 m) b x).toNat b)) (lN (b / Nat.gcd (stp (σ.1 m) (σ.2 m) b x).toNat b)) rm en ej)) := by
  have h9 := h0
  have h0 : zIs w 49 (zMo (lN (x / Nat.gcd x b)) (lN (b / Nat.gcd x b)) rm en ej) := h0
  obtain ⟨⟨sz, a1, a2⟩, ⟨ld, b1, b2⟩, hv⟩ := id hc
  obtain ⟨v1, v5, vl⟩ := hv m hm
  obtain ⟨g, hg, eg, ex, eb, hb0⟩ := rd_of (a := x) hb
  have x5 := bnd5 v5 (show (1 : Int) ≤ b by omega) (by omega) hx
  have xle : x / Nat.gcd x b ≤ x := Nat.div_le_self _ _
  have ble : b / Nat.gcd x b ≤ b := Nat.div_le_self _ _
  have hi := spn_lt v1 (x : Int) (b : Int)
  have sr := stp_rg v1 vl (show (0 : Int) < b by omega) (show (0 : Int) ≤ x by omega) hx
  have s5 := bnd5 v5 (show (1 : Int) ≤ b by omega) (by omega) sr.2
  have exz : (x : Int) = (g : Int) * ((x / Nat.gcd x b : Nat) : Int) := by rw [← Int.natCast_mul, ← ex]
  have ebz : (b : Int) = (g : Int) * ((b / Nat.gcd x b : Nat) : Int) := by rw [← Int.natCast_mul, ← eb]
  have es : spn (σ.1 m) x b = spn (σ.1 m) ((x / Nat.gcd x b : Nat) : Int) ((b / Nat.gcd x b : Nat) : Int) := by
    have := spn_scale (n := σ.1 m) (a := ((x / Nat.gcd x b : Nat) : Int)) (b := ((b / Nat.gcd x b : Nat) : Int)) (g := (g : Int)) (by omega)
    rw [← this, ← exz, ← ebz]
  have et : stp (σ.1 m) (σ.2 m) b x = (g : Int) * stp (σ.1 m) (σ.2 m) ((b / Nat.gcd x b : Nat) : Int) ((x / Nat.gcd x b : Nat) : Int) := by
    have := stp_scale (n := σ.1 m) (ld := σ.2 m) (a := ((x / Nat.gcd x b : Nat) : Int)) (b := ((b / Nat.gcd x b : Nat) : Int)) (g := (g : Int)) (by omega)
    rw [← this, ← exz, ← ebz]
  have gle : g ≤ b := by rw [eg]; exact Nat.gcd_le_right _ hb
  have X5 : ((x / Nat.gcd x b : Nat) : Int) ≤ σ.1 m * ((b / Nat.gcd x b : Nat) : Int) := by
    have h1 : (g : Int) * ((x / Nat.gcd x b : Nat) : Int) ≤ (g : Int) * (σ.1 m * ((b / Nat.gcd x b : Nat) : Int)) := by
      rw [← exz, Int.mul_left_comm, ← ebz]; exact hx
    exact Int.le_of_mul_le_mul_left h1 (by omega)
  have Sr := stp_rg v1 vl (show (0 : Int) < ((b / Nat.gcd x b : Nat) : Int) by omega) (Int.natCast_nonneg _) X5
  have S5 := bnd5 v5 (show (1 : Int) ≤ ((b / Nat.gcd x b : Nat) : Int) by omega) (by omega) Sr.2
  have fin : (stp (σ.1 m) (σ.2 m) b x).toNat / Nat.gcd (stp (σ.1 m) (σ.2 m) b x).toNat b = (stp (σ.1 m) (σ.2 m) ((b / Nat.gcd x b : Nat) : Int) ((x / Nat.gcd x b : Nat) : Int)).toNat / Nat.gcd (stp (σ.1 m) (σ.2 m) ((b / Nat.gcd x b : Nat) : Int) ((x / Nat.gcd x b : Nat) : Int)).toNat (b / Nat.gcd x b) ∧ b / Nat.gcd (stp (σ.1 m) (σ.2 m) b x).toNat b = (b / Nat.gcd x b) / Nat.gcd (stp (σ.1 m) (σ.2 m) ((b / Nat.gcd x b : Nat) : Int) ((x / Nat.gcd x b : Nat) : Int)).toNat (b / Nat.gcd x b) := by
    have e1 : (stp (σ.1 m) (σ.2 m) b x).toNat = g * (stp (σ.1 m) (σ.2 m) ((b / Nat.gcd x b : Nat) : Int) ((x / Nat.gcd x b : Nat) : Int)).toNat := by
      rw [et]
      apply Int.ofNat_inj.mp
      rw [Int.toNat_of_nonneg (Int.mul_nonneg (by omega) Sr.1)]
      rw [Int.natCast_mul, Int.toNat_of_nonneg Sr.1]
    rw [e1]
    have := rd_scale (a := (stp (σ.1 m) (σ.2 m) ((b / Nat.gcd x b : Nat) : Int) ((x / Nat.gcd x b : Nat) : Int)).toNat) (b := b / Nat.gcd x b) hg
    rw [← eb] at this
    exact this
  rw [fin.1, fin.2]
  have hli := vl (spn (σ.1 m) x b) (by omega)
  have b1r := sl_rg v5 vl hi
  have key : stp (σ.1 m) (σ.2 m) ((b / Nat.gcd x b : Nat) : Int) ((x / Nat.gcd x b : Nat) : Int) = (σ.2 m (spn (σ.1 m) x b) : Int) * ((b / Nat.gcd x b : Nat) : Int) + (((x / Nat.gcd x b : Nat) : Int) - (spn (σ.1 m) x b : Int) * ((b / Nat.gcd x b : Nat) : Int)) * sl (σ.2 m) (spn (σ.1 m) x b) := by
    unfold stp
    rw [← es, Int.mul_comm (sl (σ.2 m) (spn (σ.1 m) x b))]
  generalize x / Nat.gcd x b = X at *
  generalize b / Nat.gcd x b = B at *
  generalize stp (σ.1 m) (σ.2 m) (B : Int) (X : Int) = S at *
  refine zOk.of (by decide +kernel) (Nat.le_of_ble_eq_true rfl) ?_
  refine zV.run kX4_step 2 rfl ?_
  refine zV.cv kX4_step rfl lX4_74 (n_span E hc h9 hm hb hb2 hx) (by decide) rfl (h0) rfl rfl rfl (Nat.le_of_ble_eq_true rfl) ?_
  rintro _ _ ⟨rfl, rfl⟩
  refine zV.run kX4_step 3 rfl ?_
  refine zV.gf kX4_step rfl fX4_13 (h0) rfl ?_
  refine zV.run kX4_step 5 rfl ?_
  refine zV.ial kX4_step rfl (b1) (7 * m + spn (σ.1 m) x b) (ix7) (by omega) (by decide) ?_
  rw [b2 m _ hm (by omega)]
  refine zV.run kX4_step 2 rfl ?_
  refine zV.gf kX4_step rfl fX4_71 (h0) rfl ?_
  refine zV.run kX4_step 2 rfl ?_
  refine zV.gf kX4_step rfl fX4_67 (h0) rfl ?_
  refine zV.run kX4_step 3 rfl ?_
  refine zV.gf kX4_step rfl fX4_71 (h0) rfl ?_
  refine zV.run kX4_step 5 rfl ?_
  refine zV.cv kX4_step rfl lX4_57 (n_slopeOf E h0 hc hm hi) (by decide) rfl (h0) rfl rfl rfl (Nat.le_of_ble_eq_true rfl) ?_
  rintro _ _ ⟨rfl, rfl⟩
  refine zV.run kX4_step 4 rfl ?_
  refine zV.gf kX4_step rfl fX4_71 (h0) rfl ?_
  have ev : (nI (σ.2 m (spn (σ.1 m) x b))).toInt64 * lN B + (lN X - (nI (spn (σ.1 m) x b)).toInt64 * lN B) * (iI (sl (σ.2 m) (spn (σ.1 m) x b))).toInt64 = lN S.toNat := by
    rw [nI_iI, nI_iI, iI_l (by omega) (by omega), iI_l (by omega) (by omega), iI_l (by omega) (by omega), lN_lI, lN_lI, lI_mul, lI_mul, lI_sub, lI_mul, lI_add, ← key, lI_nat Sr.1]
  rw [ev]
  refine zV.cv kX4_step rfl lX4_78 (n_at E h0 (a := S.toNat) (b := B) (by omega) (by omega) hb0) (by decide) rfl (h0) rfl rfl rfl (Nat.le_of_ble_eq_true rfl) ?_
  rintro _ w9 ⟨rfl, e9⟩
  exact zV.vret kX4_step rfl rfl (⟨rfl, e9⟩)
theorem n_told (E : zE) {w : zWd} {ab be : Int64} {rm en ej : Int32} (h0 : zIs w 49 (zMo ab be rm en ej)) (what : Int32) : zOk E mX4_told 0 [.ref 49, .int what] w (zR0 w (.long (if what = 0 then ab else be))) := by
  refine zOk.of (by decide +kernel) (Nat.le_of_ble_eq_true rfl) ?_
  refine zV.run kX4_told 1 rfl ?_
  refine zV.if2 kX4_told rfl (fun c => ?_) (fun c => ?_)
  · skip
    have c : ¬ what = 0 := c
    refine zV.run kX4_told 1 rfl ?_
    refine zV.gf kX4_told rfl fX4_71 (h0) rfl ?_
    exact zV.lret kX4_told rfl rfl (⟨by rw [if_neg c], rfl⟩)
  · skip
    have c : what = 0 := Decidable.not_not.mp c
    refine zV.run kX4_told 1 rfl ?_
    refine zV.gf kX4_told rfl fX4_67 (h0) rfl ?_
    refine zV.run kX4_told 1 rfl ?_
    exact zV.lret kX4_told rfl rfl (⟨by rw [if_pos c], rfl⟩)
theorem n_isPoint (E : zE) {w : zWd} {σ : zSt} {ab be : Int64} {rm en ej : Int32} (h0 : zIs w 49 (zMo ab be rm en ej)) (hc : zMc w σ) (m : Int32) (a b : Int64) : zOk E mX4_isPoint 2 [.ref 49, .int m, .long a, .long b] w (zR0 w (.int (zq (okM m ∧ okP (σ.1 m.toInt.toNat) a b)))) := by
  obtain ⟨⟨sz, a1, a2⟩, -, hv⟩ := id hc
  refine zOk.of (by decide +kernel) (Nat.le_of_ble_eq_true rfl) ?_
  refine zV.run kX4_isPoint 1 rfl ?_
  refine zV.cs kX4_isPoint rfl lX4_51 (n_isMap E w m) (by decide) rfl rfl (Nat.le_of_ble_eq_true rfl) ?_
  rintro _ _ ⟨rfl, rfl⟩
  refine zV.if2 kX4_isPoint rfl (fun c => ?_) (fun c => ?_)
  · skip
    have c := zq_eq0.mp c
    refine zV.run kX4_isPoint 1 rfl ?_
    exact zV.zret kX4_isPoint rfl rfl (Or.inl rfl) (⟨by rw [zq_f (fun q => c q.1)], rfl⟩)
  · skip
    have c := Decidable.not_not.mp (mt zq_eq0.mpr c)
    obtain ⟨mm, emm⟩ : ∃ mm, mm = m.toInt.toNat := ⟨_, rfl⟩
    have em : m = nI mm := by rw [emm]; exact i32_nI c.1
    have hm : mm < 8 := by omega
    rw [← emm]
    obtain ⟨v1, v5, vl⟩ := hv mm hm
    refine zV.run kX4_isPoint 2 rfl ?_
    refine zV.ldc2 kX4_isPoint rfl qX4_61 ?_
    refine zV.cs kX4_isPoint rfl lX4_47 (n_in E w b 1 100000) (by decide) rfl rfl (Nat.le_of_ble_eq_true rfl) ?_
    rintro _ _ ⟨rfl, rfl⟩
    refine zV.if2 kX4_isPoint rfl (fun c2 => ?_) (fun c2 => ?_)
    · skip
      have c2 : ¬ (1 ≤ b.toInt ∧ b.toInt ≤ 100000) := zq_eq0.mp c2
      refine zV.run kX4_isPoint 1 rfl ?_
      exact zV.zret kX4_isPoint rfl rfl (Or.inl rfl) (⟨by rw [zq_f (fun q => c2 ⟨q.2.1, q.2.2.1⟩)], rfl⟩)
    · skip
      have c2 : 1 ≤ b.toInt ∧ b.toInt ≤ 100000 := Decidable.not_not.mp (mt zq_eq0.mpr c2)
      refine zV.run kX4_isPoint 3 rfl ?_
      refine zV.gf kX4_isPoint rfl fX4_7 (h0) rfl ?_
      refine zV.run kX4_isPoint 1 rfl ?_
      refine zV.ial kX4_isPoint rfl (a1) (mm) (em) (hm) (by decide) ?_
      rw [a2 mm hm]
      have hmm : ((σ.1 mm : Nat) : Int) * b.toInt ≤ 5 * b.toInt := Int.mul_le_mul_of_nonneg_right (by omega) (by omega)
      have hm0 : 0 ≤ ((σ.1 mm : Nat) : Int) * b.toInt := Int.mul_nonneg (by omega) (by omega)
      have e : ((nI (σ.1 mm)).toInt64 * b).toInt = σ.1 mm * b.toInt := by
        rw [nI_iI, iI_l (by omega) (by omega)]
        have eb : b = lI b.toInt := lI_of b
        rw [show lI ((σ.1 mm : Nat) : Int) * b = lI ((σ.1 mm : Nat) : Int) * lI b.toInt by rw [← eb], lI_mul, lI_t (by omega) (by omega)]
      refine zV.run kX4_isPoint 3 rfl ?_
      refine zV.cs kX4_isPoint rfl lX4_47 (n_in E w a 0 ((nI (σ.1 mm)).toInt64 * b)) (by decide) rfl rfl (Nat.le_of_ble_eq_true rfl) ?_
      rintro _ _ ⟨rfl, rfl⟩
      rw [e]
      refine zV.if2 kX4_isPoint rfl (fun c3 => ?_) (fun c3 => ?_)
      · skip
        have c3 : ¬ (0 ≤ a.toInt ∧ a.toInt ≤ σ.1 mm * b.toInt) := zq_eq0.mp c3
        refine zV.run kX4_isPoint 1 rfl ?_
        exact zV.zret kX4_isPoint rfl rfl (Or.inl rfl) (⟨by rw [zq_f (fun q => c3 q.2.2.2)], rfl⟩)
      · skip
        have c3 : 0 ≤ a.toInt ∧ a.toInt ≤ σ.1 mm * b.toInt := Decidable.not_not.mp (mt zq_eq0.mpr c3)
        refine zV.run kX4_isPoint 2 rfl ?_
        exact zV.zret kX4_isPoint rfl rfl (Or.inr rfl) (⟨by rw [zq_t ⟨c, c2.1, c2.2, c3⟩], rfl⟩)
end
section
/-! ===== the model: the public methods on maps ===== -/
theorem sset_vld {σ : zSt} {t n : Nat} {ld : Nat → Nat} (h : vld σ) (h1 : 1 ≤ n) (h5 : n ≤ 5) (hl : ∀ i, i ≤ n → ld i ≤ n) : vld (sset σ t n ld) := by
  intro m hm
  by_cases e : m = t
  · simp only [sset, e, if_true]; exact ⟨h1, h5, hl⟩
  · simp only [sset, e, if_false]; exact h m hm
theorem n_map_l (E : zE) {w0 : zWd} {σ : zSt} {ab be : Int64} {rm en ej : Int32} (hv : vld σ) {m n : Nat} (hm : m < 8) (h1 : 1 ≤ n) (h5 : n ≤ 5) (hx0 : zMx w0) : ∀ (r j : Nat) (w : zWd) (ld : Nat → Int32), j + r = 7 → zIs w 49 (zMo ab be rm en ej) → (∃ sz, zIs w 50 (zIA 8 sz) ∧ ∀ q, q < 8 → sz q = nI ((sset σ m n (fun _ => 0)).1 q)) → zIs w 51 (zIA 56 ld) → (∀ q i, q < 8 → q ≠ m → i ≤ σ.1 q → ld (7 * q + i) = nI (σ.2 q i)) → (∀ i, i < j → ld (7 * m + i) = 0) → (∀ a, a ≠ 50 → a ≠ 51 → w a = w0 a) → zV E mX4_map 2 (zPm w0 (.int 1) (sset σ m n (fun _ => 0))) 31 [.ref 49, .int (nI m), .int (nI n), .int (nI j)] [] w := by
  intro r
  induction r with
  | zero =>
    intro j w ld hj h0 hs hl ho hz hw
    have e : j = 7 := by omega
    subst e
    refine zV.run kX4_map 2 rfl ?_
    refine zV.ict kX4_map (cd := .ge) rfl (Int32.le_refl _) ?_
    have q1 : zMc w (sset σ m n (fun _ => 0)) := by
      refine ⟨hs, ⟨ld, hl, fun q i hq hi => ?_⟩, sset_vld hv h1 h5 (fun _ _ => Nat.zero_le _)⟩
      by_cases e : q = m
      · simp only [sset, e, if_true] at hi ⊢; exact hz i (by omega)
      · simp only [sset, e, if_false] at hi ⊢; exact ho q i hq e hi
    refine zV.run kX4_map 1 rfl ?_
    exact zV.iret kX4_map rfl rfl (⟨rfl, ⟨⟨_, _, _, _, _, h0⟩, q1, hx0.k (fun a _ _ => hw a (by omega) (by omega))⟩, fun a ha => hw a (by omega) (by omega)⟩)
  | succ r ih =>
    intro j w ld hj h0 hs hl ho hz hw
    refine zV.run kX4_map 2 rfl ?_
    refine zV.icf kX4_map (cd := .ge) rfl (fun q => absurd ((nI_leI (a := 7) (b := j) (by omega) (by omega)).mp q) (by omega)) ?_
    refine zV.run kX4_map 1 rfl ?_
    refine zV.gf kX4_map rfl fX4_13 (h0) rfl ?_
    refine zV.run kX4_map 6 rfl ?_
    refine zV.ias kX4_map rfl (hl) (7 * m + j) (ix7) (by omega) (by decide) ?_
    refine zV.run kX4_map 2 rfl ?_
    rw [nI_1]
    obtain ⟨sz, s1, s2⟩ := hs
    refine ih (j + 1) _ (upd ld (7 * m + j) 0) (by omega) (h0.n (by decide)) ⟨sz, s1.n (by decide), s2⟩ (zIs.s hl.1) (fun q i hq hne hi => ?_) (fun i hi => ?_) (fun a q1 q2 => by rw [zup_ne q2]; exact hw a q1 q2)
    · have := (hv q hq).2.1
      rw [pk_un (by omega)]; exact ho q i hq hne hi
    · by_cases e : i = j
      · rw [e]; exact pk_us
      · rw [pk_un (by omega)]; exact hz i (by omega)
theorem n_map (E : zE) {w : zWd} {σ : zSt} (h : zMs w σ) (m n : Int32) : zOk E mX4_map 2 [.ref 49, .int m, .int n] w (zPm w (.int (if okM m ∧ 1 ≤ n.toInt ∧ n.toInt ≤ 5 then 1 else -2)) (if okM m ∧ 1 ≤ n.toInt ∧ n.toInt ≤ 5 then sset σ m.toInt.toNat n.toInt.toNat (fun _ => 0) else σ)) := by
  obtain ⟨⟨ab, be, rm, en, ej, h0⟩, hc, hx⟩ := id h
  obtain ⟨⟨sz, a1, a2⟩, ⟨ld, b1, b2⟩, hv⟩ := id hc
  refine zOk.of (by decide +kernel) (Nat.le_of_ble_eq_true rfl) ?_
  refine zV.run kX4_map 1 rfl ?_
  refine zV.cs kX4_map rfl lX4_51 (n_isMap E w m) (by decide) rfl rfl (Nat.le_of_ble_eq_true rfl) ?_
  rintro _ _ ⟨rfl, rfl⟩
  refine zV.if2 kX4_map rfl (fun c => ?_) (fun c => ?_)
  · skip
    have c := zq_eq0.mp c
    rw [if_neg (fun q => c q.1), if_neg (fun q => c q.1)]
    refine zV.run kX4_map 1 rfl ?_
    exact zV.iret kX4_map rfl rfl (⟨rfl, h, fun _ _ => rfl⟩)
  · skip
    have c := Decidable.not_not.mp (mt zq_eq0.mpr c)
    refine zV.run kX4_map 3 rfl ?_
    refine zV.ldc2 kX4_map rfl qX4_55 ?_
    refine zV.cs kX4_map rfl lX4_47 (n_in E w n.toInt64 1 5) (by decide) rfl rfl (Nat.le_of_ble_eq_true rfl) ?_
    rintro _ _ ⟨rfl, rfl⟩
    rw [Int32.toInt_toInt64, show (1 : Int64).toInt = 1 from rfl, show (5 : Int64).toInt = 5 from rfl]
    refine zV.if2 kX4_map rfl (fun c2 => ?_) (fun c2 => ?_)
    · skip
      have c2 := Decidable.not_not.mp (mt zq_eq0.mpr c2)
      obtain ⟨mm, emm⟩ : ∃ mm, mm = m.toInt.toNat := ⟨_, rfl⟩
      have em : m = nI mm := by rw [emm]; exact i32_nI c.1
      have hm : mm < 8 := by omega
      obtain ⟨nn, enn⟩ : ∃ nn, nn = n.toInt.toNat := ⟨_, rfl⟩
      have en9 : n = nI nn := by rw [enn]; exact i32_nI (by omega)
      rw [if_pos ⟨c, c2⟩, if_pos ⟨c, c2⟩, ← emm, ← enn]
      refine zV.run kX4_map 1 rfl ?_
      refine zV.gf kX4_map rfl fX4_7 (h0) rfl ?_
      refine zV.run kX4_map 2 rfl ?_
      refine zV.ias kX4_map rfl (a1) (mm) (em) (hm) (by decide) ?_
      refine zV.run kX4_map 2 rfl ?_
      rw [em, en9]
      refine n_map_l E hv hm (by omega) (by omega) hx 7 0 _ ld (by omega) (h0.n (by decide)) ⟨_, zIs.s a1.1, fun q hq => ?_⟩ (b1.n (by decide)) (fun q i hq _ hi => b2 q i hq hi) (fun i hi => by omega) (fun a q1 _ => zup_ne q1)
      by_cases e : q = mm
      · rw [e, pk_us]; simp only [sset, if_true]
      · rw [pk_un e, a2 q hq]; simp only [sset, e, if_false]
    · skip
      have c2 := zq_eq0.mp (Decidable.not_not.mp c2)
      rw [if_neg (fun q => c2 q.2), if_neg (fun q => c2 q.2)]
      refine zV.run kX4_map 1 rfl ?_
      exact zV.iret kX4_map rfl rfl (⟨rfl, h, fun _ _ => rfl⟩)
theorem inI {i : Int32} {n : Nat} (hn : n ≤ 5) : ((0 : Int64).toInt ≤ i.toInt64.toInt ∧ i.toInt64.toInt ≤ (nI n).toInt64.toInt) ↔ (0 ≤ i.toInt ∧ i.toInt ≤ n) := by
  rw [Int32.toInt_toInt64, Int32.toInt_toInt64, nI_toInt (by omega), show (0 : Int64).toInt = 0 from rfl]
theorem inI1 {i : Int32} {n : Nat} (h1 : 1 ≤ n) (hn : n ≤ 5) : ((0 : Int64).toInt ≤ i.toInt64.toInt ∧ i.toInt64.toInt ≤ (nI n - 1).toInt64.toInt) ↔ (0 ≤ i.toInt ∧ i.toInt < n) := by
  rw [Int32.toInt_toInt64, Int32.toInt_toInt64, show (1 : Int32) = nI 1 from rfl, pk_sub h1, nI_toInt (by omega), show (0 : Int64).toInt = 0 from rfl]
  omega
theorem n_corner (E : zE) {w : zWd} {σ : zSt} (h : zMs w σ) (m i v : Int32) : zOk E mX4_corner 2 [.ref 49, .int m, .int i, .int v] w (zPm w (.int (if okM m ∧ (0 ≤ i.toInt ∧ i.toInt ≤ σ.1 m.toInt.toNat) ∧ (0 ≤ v.toInt ∧ v.toInt ≤ σ.1 m.toInt.toNat) then nI (σ.2 m.toInt.toNat i.toInt.toNat) else -2)) (if okM m ∧ (0 ≤ i.toInt ∧ i.toInt ≤ σ.1 m.toInt.toNat) ∧ (0 ≤ v.toInt ∧ v.toInt ≤ σ.1 m.toInt.toNat) then sset σ m.toInt.toNat (σ.1 m.toInt.toNat) (fun j => if j = i.toInt.toNat then v.toInt.toNat else σ.2 m.toInt.toNat j) else σ)) := by
  obtain ⟨⟨ab, be, rm, en, ej, h0⟩, hc, hx⟩ := id h
  obtain ⟨⟨sz, a1, a2⟩, ⟨ld, b1, b2⟩, hv⟩ := id hc
  refine zOk.of (by decide +kernel) (Nat.le_of_ble_eq_true rfl) ?_
  refine zV.run kX4_corner 1 rfl ?_
  refine zV.cs kX4_corner rfl lX4_51 (n_isMap E w m) (by decide) rfl rfl (Nat.le_of_ble_eq_true rfl) ?_
  rintro _ _ ⟨rfl, rfl⟩
  refine zV.if2 kX4_corner rfl (fun c => ?_) (fun c => ?_)
  · skip
    have c := zq_eq0.mp c
    rw [if_neg (fun q => c q.1), if_neg (fun q => c q.1)]
    refine zV.run kX4_corner 1 rfl ?_
    exact zV.iret kX4_corner rfl rfl (⟨rfl, h, fun _ _ => rfl⟩)
  · skip
    have c := Decidable.not_not.mp (mt zq_eq0.mpr c)
    obtain ⟨mm, emm⟩ : ∃ mm, mm = m.toInt.toNat := ⟨_, rfl⟩
    have em : m = nI mm := by rw [emm]; exact i32_nI c.1
    have hm : mm < 8 := by omega
    obtain ⟨v1, v5, vl⟩ := hv mm hm
    rw [← emm]
    refine zV.run kX4_corner 4 rfl ?_
    refine zV.gf kX4_corner rfl fX4_7 (h0) rfl ?_
    refine zV.run kX4_corner 1 rfl ?_
    refine zV.ial kX4_corner rfl (a1) (mm) (em) (hm) (by decide) ?_
    rw [a2 mm hm]
    refine zV.run kX4_corner 1 rfl ?_
    refine zV.cs kX4_corner rfl lX4_47 (n_in E w i.toInt64 0 (nI (σ.1 mm)).toInt64) (by decide) rfl rfl (Nat.le_of_ble_eq_true rfl) ?_
    rintro _ _ ⟨rfl, rfl⟩
    rw [zq_c (inI v5)]
    refine zV.if2 kX4_corner rfl (fun c2 => ?_) (fun c2 => ?_)
    · skip
      have c2 := zq_eq0.mp c2
      rw [if_neg (fun q => c2 q.2.1), if_neg (fun q => c2 q.2.1)]
      refine zV.run kX4_corner 1 rfl ?_
      exact zV.iret kX4_corner rfl rfl (⟨rfl, h, fun _ _ => rfl⟩)
    · skip
      have c2 := Decidable.not_not.mp (mt zq_eq0.mpr c2)
      refine zV.run kX4_corner 4 rfl ?_
      refine zV.gf kX4_corner rfl fX4_7 (h0) rfl ?_
      refine zV.run kX4_corner 1 rfl ?_
      refine zV.ial kX4_corner rfl (a1) (mm) (em) (hm) (by decide) ?_
      rw [a2 mm hm]
      refine zV.run kX4_corner 1 rfl ?_
      refine zV.cs kX4_corner rfl lX4_47 (n_in E w v.toInt64 0 (nI (σ.1 mm)).toInt64) (by decide) rfl rfl (Nat.le_of_ble_eq_true rfl) ?_
      rintro _ _ ⟨rfl, rfl⟩
      rw [zq_c (inI v5)]
      refine zV.if2 kX4_corner rfl (fun c3 => ?_) (fun c3 => ?_)
      · skip
        have c3 := Decidable.not_not.mp (mt zq_eq0.mpr c3)
        rw [if_pos ⟨c, c2, c3⟩, if_pos ⟨c, c2, c3⟩]
        obtain ⟨ii, eii⟩ : ∃ ii, ii = i.toInt.toNat := ⟨_, rfl⟩
        have ei : i = nI ii := by rw [eii]; exact i32_nI c2.1
        have hii : ii ≤ σ.1 mm := by omega
        have ev : v = nI v.toInt.toNat := i32_nI c3.1
        rw [← eii]
        have eix : (7 : Int32) * m + i = nI (7 * mm + ii) := by rw [em, ei, ix7]
        refine zV.run kX4_corner 1 rfl ?_
        refine zV.gf kX4_corner rfl fX4_13 (h0) rfl ?_
        refine zV.run kX4_corner 5 rfl ?_
        refine zV.ial kX4_corner rfl (b1) (7 * mm + ii) (eix) (by omega) (by decide) ?_
        refine zV.run kX4_corner 2 rfl ?_
        refine zV.gf kX4_corner rfl fX4_13 (h0) rfl ?_
        refine zV.run kX4_corner 6 rfl ?_
        refine zV.ias kX4_corner rfl (b1) (7 * mm + ii) (eix) (by omega) (by decide) ?_
        rw [b2 mm ii hm hii]
        have q1 : zMc (va_up w 51 (zIA 56 (upd ld (7 * mm + ii) v))) (sset σ mm (σ.1 mm) (fun j => if j = ii then v.toInt.toNat else σ.2 mm j)) := by
          refine ⟨⟨sz, a1.n (by decide), fun q hq => ?_⟩, ⟨_, zIs.s b1.1, fun q j hq hj => ?_⟩, sset_vld hv v1 v5 (fun j hj => ?_)⟩
          · by_cases e : q = mm
            · simp only [sset, e, if_true]; exact a2 mm hm
            · simp only [sset, e, if_false]; exact a2 q hq
          · by_cases e : q = mm
            · simp only [sset, e, if_true] at hj ⊢
              by_cases e2 : j = ii
              · simp only [e2, if_true]; rw [pk_us]; exact ev
              · simp only [e2, if_false]; rw [pk_un (by omega)]; exact b2 mm j hm hj
            · simp only [sset, e, if_false] at hj ⊢
              have := (hv q hq).2.1
              rw [pk_un (by omega)]; exact b2 q j hq hj
          · by_cases e2 : j = ii
            · simp only [e2, if_true]; omega
            · simp only [e2, if_false]; exact vl j hj
        refine zV.run kX4_corner 1 rfl ?_
        exact zV.iret kX4_corner rfl rfl (⟨rfl, ⟨⟨_, _, _, _, _, h0.n (by decide)⟩, q1, hx.k (fun a _ _ => zup_ne (by omega))⟩, fun a ha => zup_ne (by omega)⟩)
      · skip
        have c3 := zq_eq0.mp (Decidable.not_not.mp c3)
        rw [if_neg (fun q => c3 q.2.2), if_neg (fun q => c3 q.2.2)]
        refine zV.run kX4_corner 1 rfl ?_
        exact zV.iret kX4_corner rfl rfl (⟨rfl, h, fun _ _ => rfl⟩)
theorem n_cornerAt (E : zE) {w : zWd} {σ : zSt} (h : zMs w σ) (m i : Int32) : zOk E mX4_cornerAt 2 [.ref 49, .int m, .int i] w (zR0 w (.int (if okM m ∧ (0 ≤ i.toInt ∧ i.toInt ≤ σ.1 m.toInt.toNat) then nI (σ.2 m.toInt.toNat i.toInt.toNat) else -2))) := by
  obtain ⟨⟨ab, be, rm, en, ej, h0⟩, hc, hx⟩ := id h
  obtain ⟨⟨sz, a1, a2⟩, ⟨ld, b1, b2⟩, hv⟩ := id hc
  refine zOk.of (by decide +kernel) (Nat.le_of_ble_eq_true rfl) ?_
  refine zV.run kX4_cornerAt 1 rfl ?_
  refine zV.cs kX4_cornerAt rfl lX4_51 (n_isMap E w m) (by decide) rfl rfl (Nat.le_of_ble_eq_true rfl) ?_
  rintro _ _ ⟨rfl, rfl⟩
  refine zV.if2 kX4_cornerAt rfl (fun c => ?_) (fun c => ?_)
  · skip
    have c := zq_eq0.mp c
    refine zV.run kX4_cornerAt 1 rfl ?_
    exact zV.iret kX4_cornerAt rfl rfl (⟨by rw [if_neg (fun q => c q.1)], rfl⟩)
  · skip
    have c := Decidable.not_not.mp (mt zq_eq0.mpr c)
    obtain ⟨mm, emm⟩ : ∃ mm, mm = m.toInt.toNat := ⟨_, rfl⟩
    have em : m = nI mm := by rw [emm]; exact i32_nI c.1
    have hm : mm < 8 := by omega
    obtain ⟨v1, v5, vl⟩ := hv mm hm
    rw [← emm]
    refine zV.run kX4_cornerAt 4 rfl ?_
    refine zV.gf kX4_cornerAt rfl fX4_7 (h0) rfl ?_
    refine zV.run kX4_cornerAt 1 rfl ?_
    refine zV.ial kX4_cornerAt rfl (a1) (mm) (em) (hm) (by decide) ?_
    rw [a2 mm hm]
    refine zV.run kX4_cornerAt 1 rfl ?_
    refine zV.cs kX4_cornerAt rfl lX4_47 (n_in E w i.toInt64 0 (nI (σ.1 mm)).toInt64) (by decide) rfl rfl (Nat.le_of_ble_eq_true rfl) ?_
    rintro _ _ ⟨rfl, rfl⟩
    rw [zq_c (inI v5)]
    refine zV.if2 kX4_cornerAt rfl (fun c2 => ?_) (fun c2 => ?_)
    · skip
      have c2 := zq_eq0.mp c2
      refine zV.run kX4_cornerAt 1 rfl ?_
      exact zV.iret kX4_cornerAt rfl rfl (⟨by rw [if_neg (fun q => c2 q.2)], rfl⟩)
    · skip
      have c2 := Decidable.not_not.mp (mt zq_eq0.mpr c2)
      obtain ⟨ii, eii⟩ : ∃ ii, ii = i.toInt.toNat := ⟨_, rfl⟩
      have ei : i = nI ii := by rw [eii]; exact i32_nI c2.1
      have hii : ii ≤ σ.1 mm := by omega
      rw [if_pos ⟨c, c2⟩, ← eii]
      have eix : (7 : Int32) * m + i = nI (7 * mm + ii) := by rw [em, ei, ix7]
      refine zV.run kX4_cornerAt 1 rfl ?_
      refine zV.gf kX4_cornerAt rfl fX4_13 (h0) rfl ?_
      refine zV.run kX4_cornerAt 5 rfl ?_
      refine zV.ial kX4_cornerAt rfl (b1) (7 * mm + ii) (eix) (by omega) (by decide) ?_
      refine zV.run kX4_cornerAt 1 rfl ?_
      exact zV.iret kX4_cornerAt rfl rfl (⟨by rw [b2 mm ii hm hii], rfl⟩)
theorem n_slope (E : zE) {w : zWd} {σ : zSt} (h : zMs w σ) (m i : Int32) : zOk E mX4_slope 2 [.ref 49, .int m, .int i] w (zR0 w (.int (if okM m ∧ (0 ≤ i.toInt ∧ i.toInt < σ.1 m.toInt.toNat) then iI (sl (σ.2 m.toInt.toNat) i.toInt.toNat) else -100))) := by
  obtain ⟨⟨ab, be, rm, en, ej, h0⟩, hc, hx⟩ := id h
  obtain ⟨⟨sz, a1, a2⟩, ⟨ld, b1, b2⟩, hv⟩ := id hc
  refine zOk.of (by decide +kernel) (Nat.le_of_ble_eq_true rfl) ?_
  refine zV.run kX4_slope 1 rfl ?_
  refine zV.cs kX4_slope rfl lX4_51 (n_isMap E w m) (by decide) rfl rfl (Nat.le_of_ble_eq_true rfl) ?_
  rintro _ _ ⟨rfl, rfl⟩
  refine zV.if2 kX4_slope rfl (fun c => ?_) (fun c => ?_)
  · skip
    have c := zq_eq0.mp c
    refine zV.run kX4_slope 1 rfl ?_
    exact zV.iret kX4_slope rfl rfl (⟨by rw [if_neg (fun q => c q.1)], rfl⟩)
  · skip
    have c := Decidable.not_not.mp (mt zq_eq0.mpr c)
    obtain ⟨mm, emm⟩ : ∃ mm, mm = m.toInt.toNat := ⟨_, rfl⟩
    have em : m = nI mm := by rw [emm]; exact i32_nI c.1
    have hm : mm < 8 := by omega
    obtain ⟨v1, v5, vl⟩ := hv mm hm
    rw [← emm]
    refine zV.run kX4_slope 4 rfl ?_
    refine zV.gf kX4_slope rfl fX4_7 (h0) rfl ?_
    refine zV.run kX4_slope 1 rfl ?_
    refine zV.ial kX4_slope rfl (a1) (mm) (em) (hm) (by decide) ?_
    rw [a2 mm hm]
    refine zV.run kX4_slope 3 rfl ?_
    refine zV.cs kX4_slope rfl lX4_47 (n_in E w i.toInt64 0 (nI (σ.1 mm) - 1).toInt64) (by decide) rfl rfl (Nat.le_of_ble_eq_true rfl) ?_
    rintro _ _ ⟨rfl, rfl⟩
    rw [zq_c (inI1 v1 v5)]
    refine zV.if2 kX4_slope rfl (fun c2 => ?_) (fun c2 => ?_)
    · skip
      have c2 := zq_eq0.mp c2
      refine zV.run kX4_slope 1 rfl ?_
      exact zV.iret kX4_slope rfl rfl (⟨by rw [if_neg (fun q => c2 q.2)], rfl⟩)
    · skip
      have c2 := Decidable.not_not.mp (mt zq_eq0.mpr c2)
      obtain ⟨ii, eii⟩ : ∃ ii, ii = i.toInt.toNat := ⟨_, rfl⟩
      have ei : i = nI ii := by rw [eii]; exact i32_nI c2.1
      rw [if_pos ⟨c, c2⟩, ← eii, em, ei]
      refine zV.run kX4_slope 3 rfl ?_
      refine zV.cv kX4_slope rfl lX4_57 (n_slopeOf E h0 hc hm (i := ii) (by omega)) (by decide) rfl (h0) rfl rfl rfl (Nat.le_of_ble_eq_true rfl) ?_
      rintro _ _ ⟨rfl, rfl⟩
      refine zV.run kX4_slope 1 rfl ?_
      exact zV.iret kX4_slope rfl rfl (⟨rfl, rfl⟩)
theorem n_copy_l (E : zE) {w0 : zWd} {σ : zSt} {ab be : Int64} {rm en ej : Int32} (hv : vld σ) {m t : Nat} (hm : m < 8) (ht : t < 8) (hx0 : zMx w0) : ∀ (r j : Nat) (w : zWd) (ld : Nat → Int32), j + r = 7 → zIs w 49 (zMo ab be rm en ej) → (∃ sz, zIs w 50 (zIA 8 sz) ∧ ∀ q, q < 8 → sz q = nI ((sset σ t (σ.1 m) (σ.2 m)).1 q)) → zIs w 51 (zIA 56 ld) → (∀ q i, q < 8 → q ≠ t → i ≤ σ.1 q → ld (7 * q + i) = nI (σ.2 q i)) → (∀ i, i < j → i ≤ σ.1 m → ld (7 * t + i) = nI (σ.2 m i)) → (∀ i, j ≤ i → i ≤ σ.1 m → ld (7 * m + i) = nI (σ.2 m i)) → (∀ a, a ≠ 50 → a ≠ 51 → w a = w0 a) → zV E mX4_copy 2 (zPm w0 (.int (nI (σ.1 m))) (sset σ t (σ.1 m) (σ.2 m))) 31 [.ref 49, .int (nI m), .int (nI t), .int (nI j)] [] w := by
  obtain ⟨v1, v5, vl⟩ := hv m hm
  intro r
  induction r with
  | zero =>
    intro j w ld hj h0 hs hl ho hz hz2 hw
    have e : j = 7 := by omega
    subst e
    obtain ⟨sz, s1, s2⟩ := id hs
    refine zV.run kX4_copy 2 rfl ?_
    refine zV.ict kX4_copy (cd := .ge) rfl (Int32.le_refl _) ?_
    refine zV.run kX4_copy 1 rfl ?_
    refine zV.gf kX4_copy rfl fX4_7 (h0) rfl ?_
    refine zV.run kX4_copy 1 rfl ?_
    refine zV.ial kX4_copy rfl (s1) (t) (rfl) (ht) (by decide) ?_
    have q1 : zMc w (sset σ t (σ.1 m) (σ.2 m)) := by
      refine ⟨hs, ⟨ld, hl, fun q i hq hi => ?_⟩, sset_vld hv v1 v5 vl⟩
      by_cases e : q = t
      · simp only [sset, e, if_true] at hi ⊢; exact hz i (by omega) hi
      · simp only [sset, e, if_false] at hi ⊢; exact ho q i hq e hi
    exact zV.iret kX4_copy rfl rfl (⟨by rw [s2 t ht]; simp only [sset, if_true], ⟨⟨_, _, _, _, _, h0⟩, q1, hx0.k (fun a _ _ => hw a (by omega) (by omega))⟩, fun a ha => hw a (by omega) (by omega)⟩)
  | succ r ih =>
    intro j w ld hj h0 hs hl ho hz hz2 hw
    refine zV.run kX4_copy 2 rfl ?_
    refine zV.icf kX4_copy (cd := .ge) rfl (fun q => absurd ((nI_leI (a := 7) (b := j) (by omega) (by omega)).mp q) (by omega)) ?_
    refine zV.run kX4_copy 1 rfl ?_
    refine zV.gf kX4_copy rfl fX4_13 (h0) rfl ?_
    refine zV.run kX4_copy 6 rfl ?_
    refine zV.gf kX4_copy rfl fX4_13 (h0) rfl ?_
    refine zV.run kX4_copy 5 rfl ?_
    refine zV.ial kX4_copy rfl (hl) (7 * m + j) (ix7) (by omega) (by decide) ?_
    refine zV.ias kX4_copy rfl (hl) (7 * t + j) (ix7) (by omega) (by decide) ?_
    refine zV.run kX4_copy 2 rfl ?_
    rw [nI_1]
    obtain ⟨sz, s1, s2⟩ := hs
    refine ih (j + 1) _ (upd ld (7 * t + j) (ld (7 * m + j))) (by omega) (h0.n (by decide)) ⟨sz, s1.n (by decide), s2⟩ (zIs.s hl.1) (fun q i hq hne hi => ?_) (fun i hi hi2 => ?_) (fun i hi hi2 => ?_) (fun a q1 q2 => by rw [zup_ne q2]; exact hw a q1 q2)
    · have := (hv q hq).2.1
      rw [pk_un (by omega)]; exact ho q i hq hne hi
    · by_cases e : i = j
      · rw [e, pk_us]; exact hz2 j (Nat.le_refl _) (by omega)
      · rw [pk_un (by omega)]; exact hz i (by omega) hi2
    · rw [pk_un (by omega)]; exact hz2 i (by omega) hi2
theorem n_copy (E : zE) {w : zWd} {σ : zSt} (h : zMs w σ) (m t : Int32) : zOk E mX4_copy 2 [.ref 49, .int m, .int t] w (zPm w (.int (if okM m ∧ okM t then nI (σ.1 m.toInt.toNat) else -2)) (if okM m ∧ okM t then sset σ t.toInt.toNat (σ.1 m.toInt.toNat) (σ.2 m.toInt.toNat) else σ)) := by
  obtain ⟨⟨ab, be, rm, en, ej, h0⟩, hc, hx⟩ := id h
  obtain ⟨⟨sz, a1, a2⟩, ⟨ld, b1, b2⟩, hv⟩ := id hc
  refine zOk.of (by decide +kernel) (Nat.le_of_ble_eq_true rfl) ?_
  refine zV.run kX4_copy 1 rfl ?_
  refine zV.cs kX4_copy rfl lX4_51 (n_isMap E w m) (by decide) rfl rfl (Nat.le_of_ble_eq_true rfl) ?_
  rintro _ _ ⟨rfl, rfl⟩
  refine zV.if2 kX4_copy rfl (fun c => ?_) (fun c => ?_)
  · skip
    have c := zq_eq0.mp c
    rw [if_neg (fun q => c q.1), if_neg (fun q => c q.1)]
    refine zV.run kX4_copy 1 rfl ?_
    exact zV.iret kX4_copy rfl rfl (⟨rfl, h, fun _ _ => rfl⟩)
  · skip
    have c := Decidable.not_not.mp (mt zq_eq0.mpr c)
    refine zV.run kX4_copy 1 rfl ?_
    refine zV.cs kX4_copy rfl lX4_51 (n_isMap E w t) (by decide) rfl rfl (Nat.le_of_ble_eq_true rfl) ?_
    rintro _ _ ⟨rfl, rfl⟩
    refine zV.if2 kX4_copy rfl (fun c2 => ?_) (fun c2 => ?_)
    · skip
      have c2 := Decidable.not_not.mp (mt zq_eq0.mpr c2)
      obtain ⟨mm, emm⟩ : ∃ mm, mm = m.toInt.toNat := ⟨_, rfl⟩
      have em : m = nI mm := by rw [emm]; exact i32_nI c.1
      have hm : mm < 8 := by omega
      obtain ⟨mt, emt⟩ : ∃ mm, mm = t.toInt.toNat := ⟨_, rfl⟩
      have et : t = nI mt := by rw [emt]; exact i32_nI c2.1
      have ht : mt < 8 := by omega
      rw [if_pos ⟨c, c2⟩, if_pos ⟨c, c2⟩, ← emm, ← emt]
      refine zV.run kX4_copy 1 rfl ?_
      refine zV.gf kX4_copy rfl fX4_7 (h0) rfl ?_
      refine zV.run kX4_copy 2 rfl ?_
      refine zV.gf kX4_copy rfl fX4_7 (h0) rfl ?_
      refine zV.run kX4_copy 1 rfl ?_
      refine zV.ial kX4_copy rfl (a1) (mm) (em) (hm) (by decide) ?_
      refine zV.ias kX4_copy rfl (a1) (mt) (et) (ht) (by decide) ?_
      refine zV.run kX4_copy 2 rfl ?_
      rw [em, et, a2 mm hm]
      refine n_copy_l E hv hm ht hx 7 0 _ ld (by omega) (h0.n (by decide)) ⟨_, zIs.s a1.1, fun q hq => ?_⟩ (b1.n (by decide)) (fun q i hq _ hi => b2 q i hq hi) (fun i hi => by omega) (fun i _ hi => b2 mm i hm hi) (fun a q1 _ => zup_ne q1)
      by_cases e : q = mt
      · rw [e, pk_us]; simp only [sset, if_true]
      · rw [pk_un e, a2 q hq]; simp only [sset, e, if_false]
    · skip
      have c2 := zq_eq0.mp (Decidable.not_not.mp c2)
      rw [if_neg (fun q => c2 q.2), if_neg (fun q => c2 q.2)]
      refine zV.run kX4_copy 1 rfl ?_
      exact zV.iret kX4_copy rfl rfl (⟨rfl, h, fun _ _ => rfl⟩)
theorem n_turn_2 (E : zE) {w0 : zWd} {σ : zSt} {ab be : Int64} {rm en ej : Int32} (hv : vld σ) {m t : Nat} (hm : m < 8) (ht : t < 8) (hx0 : zMx w0) : ∀ (r j : Nat) (w : zWd) (ld dr : Nat → Int32), j + r = σ.1 m + 1 → zIs w 49 (zMo ab be rm en ej) → (∃ sz, zIs w 50 (zIA 8 sz) ∧ ∀ q, q < 8 → sz q = nI ((sset σ t (σ.1 m) (σ.2 m)).1 q)) → zIs w 51 (zIA 56 ld) → zIs w 52 (zIA 7 dr) → (∀ i, i ≤ σ.1 m → dr i = nI (σ.1 m - σ.2 m (σ.1 m - i))) → (∀ q i, q < 8 → q ≠ t → i ≤ σ.1 q → ld (7 * q + i) = nI (σ.2 q i)) → (∀ i, i < j → ld (7 * t + i) = nI (σ.1 m - σ.2 m (σ.1 m - i))) → (∀ a, a ≠ 50 → a ≠ 51 → a ≠ 52 → w a = w0 a) → zV E mX4_turn 2 (zPm w0 (.int (nI (σ.1 m))) (sset σ t (σ.1 m) (fun i => σ.1 m - σ.2 m (σ.1 m - i)))) 72 [.ref 49, .int (nI m), .int (nI t), .int (nI (σ.1 m)), .int (nI j)] [] w := by
  obtain ⟨v1, v5, vl⟩ := hv m hm
  intro r
  induction r with
  | zero =>
    intro j w ld dr hj h0 hs hl hd hdr ho hz hw
    obtain ⟨sz, s1, s2⟩ := id hs
    refine zV.run kX4_turn 2 rfl ?_
    refine zV.ict kX4_turn (cd := .gt) rfl (nI_lt (by omega) (by omega)) ?_
    have q1 : zMc w (sset σ t (σ.1 m) (fun i => σ.1 m - σ.2 m (σ.1 m - i))) := by
      refine ⟨⟨sz, s1, fun q hq => by rw [s2 q hq]; rfl⟩, ⟨ld, hl, fun q i hq hi => ?_⟩, sset_vld hv v1 v5 (fun i hi => Nat.sub_le _ _)⟩
      by_cases e : q = t
      · simp only [sset, e, if_true] at hi ⊢; exact hz i (by omega)
      · simp only [sset, e, if_false] at hi ⊢; exact ho q i hq e hi
    have q2 : zMx w := by
      obtain ⟨-, h3, h4, h5, h6, h7, h8, h9, h10⟩ := hx0
      exact ⟨⟨dr, hd⟩, ⟨h3.choose, h3.choose_spec.k (hw _ (by decide) (by decide) (by decide))⟩, ⟨h4.choose, h4.choose_spec.k (hw _ (by decide) (by decide) (by decide))⟩, ⟨h5.choose, h5.choose_spec.k (hw _ (by decide) (by decide) (by decide))⟩, ⟨h6.choose, h6.choose_spec.k (hw _ (by decide) (by decide) (by decide))⟩, ⟨h7.choose, h7.choose_spec.k (hw _ (by decide) (by decide) (by decide))⟩, ⟨h8.choose, h8.choose_spec.k (hw _ (by decide) (by decide) (by decide))⟩, ⟨h9.choose, h9.choose_spec.k (hw _ (by decide) (by decide) (by decide))⟩, ⟨h10.choose, h10.choose_spec.k (hw _ (by decide) (by decide) (by decide))⟩⟩
    refine zV.run kX4_turn 1 rfl ?_
    exact zV.iret kX4_turn rfl rfl (⟨rfl, ⟨⟨_, _, _, _, _, h0⟩, q1, q2⟩, fun a ha => hw a (by omega) (by omega) (by omega)⟩)
  | succ r ih =>
    intro j w ld dr hj h0 hs hl hd hdr ho hz hw
    refine zV.run kX4_turn 2 rfl ?_
    refine zV.icf kX4_turn (cd := .gt) rfl (nI_nlt (by omega) (by omega)) ?_
    refine zV.run kX4_turn 1 rfl ?_
    refine zV.gf kX4_turn rfl fX4_13 (h0) rfl ?_
    refine zV.run kX4_turn 6 rfl ?_
    refine zV.gf kX4_turn rfl fX4_16 (h0) rfl ?_
    refine zV.run kX4_turn 1 rfl ?_
    refine zV.ial kX4_turn rfl (hd) (j) (rfl) (by omega) (by decide) ?_
    rw [hdr j (by omega)]
    refine zV.ias kX4_turn rfl (hl) (7 * t + j) (ix7) (by omega) (by decide) ?_
    refine zV.run kX4_turn 2 rfl ?_
    rw [nI_1]
    obtain ⟨sz, s1, s2⟩ := hs
    refine ih (j + 1) _ (upd ld (7 * t + j) _) dr (by omega) (h0.n (by decide)) ⟨sz, s1.n (by decide), s2⟩ (zIs.s hl.1) (hd.n (by decide)) hdr (fun q i hq hne hi => ?_) (fun i hi => ?_) (fun a q1 q2 q3 => by rw [zup_ne q2]; exact hw a q1 q2 q3)
    · have := (hv q hq).2.1
      rw [pk_un (by omega)]; exact ho q i hq hne hi
    · by_cases e : i = j
      · rw [e, pk_us]
      · rw [pk_un (by omega)]; exact hz i (by omega)
theorem n_turn_1 (E : zE) {w0 : zWd} {σ : zSt} {ab be : Int64} {rm en ej : Int32} (hc : zMc w0 σ) {m t : Nat} (hm : m < 8) (ht : t < 8) (hx0 : zMx w0) (h00 : zIs w0 49 (zMo ab be rm en ej)) : ∀ (r j : Nat) (w : zWd) (dr : Nat → Int32), j + r = σ.1 m + 1 → zIs w 52 (zIA 7 dr) → (∀ i, i < j → dr i = nI (σ.1 m - σ.2 m (σ.1 m - i))) → (∀ a, a ≠ 52 → w a = w0 a) → zV E mX4_turn 2 (zPm w0 (.int (nI (σ.1 m))) (sset σ t (σ.1 m) (fun i => σ.1 m - σ.2 m (σ.1 m - i)))) 27 [.ref 49, .int (nI m), .int (nI t), .int (nI (σ.1 m)), .int (nI j)] [] w := by
  obtain ⟨⟨sz, a1, a2⟩, ⟨ld, b1, b2⟩, hv⟩ := id hc
  obtain ⟨v1, v5, vl⟩ := hv m hm
  intro r
  induction r with
  | zero =>
    intro j w dr hj hd hdr hw
    have h0 := h00.k (hw 49 (by decide))
    refine zV.run kX4_turn 2 rfl ?_
    refine zV.ict kX4_turn (cd := .gt) rfl (nI_lt (by omega) (by omega)) ?_
    refine zV.run kX4_turn 1 rfl ?_
    refine zV.gf kX4_turn rfl fX4_7 (h0) rfl ?_
    refine zV.run kX4_turn 2 rfl ?_
    refine zV.ias kX4_turn rfl (a1.k (hw 50 (by decide))) (t) (rfl) (ht) (by decide) ?_
    refine zV.run kX4_turn 2 rfl ?_
    refine n_turn_2 E hv hm ht hx0 (σ.1 m + 1) 0 _ ld dr (by omega) (h0.n (by decide)) ⟨_, zIs.s a1.1, fun q hq => ?_⟩ ((b1.k (hw 51 (by decide))).n (by decide)) (hd.n (by decide)) (fun i hi => hdr i (by omega)) (fun q i hq _ hi => b2 q i hq hi) (fun i hi => by omega) (fun a q1 q2 q3 => by rw [zup_ne q1]; exact hw a q3)
    by_cases e : q = t
    · rw [e, pk_us]; simp only [sset, if_true]
    · rw [pk_un e, a2 q hq]; simp only [sset, e, if_false]
  | succ r ih =>
    intro j w dr hj hd hdr hw
    have h0 := h00.k (hw 49 (by decide))
    have lj := vl (σ.1 m - j) (by omega)
    have eix : (7 : Int32) * nI m + nI (σ.1 m) - nI j = nI (7 * m + (σ.1 m - j)) := by
      rw [ix7, pk_sub (by omega)]; congr 1; omega
    refine zV.run kX4_turn 2 rfl ?_
    refine zV.icf kX4_turn (cd := .gt) rfl (nI_nlt (by omega) (by omega)) ?_
    refine zV.run kX4_turn 1 rfl ?_
    refine zV.gf kX4_turn rfl fX4_16 (h0) rfl ?_
    refine zV.run kX4_turn 3 rfl ?_
    refine zV.gf kX4_turn rfl fX4_13 (h0) rfl ?_
    refine zV.run kX4_turn 7 rfl ?_
    refine zV.ial kX4_turn rfl (b1.k (hw 51 (by decide))) (7 * m + (σ.1 m - j)) (eix) (by omega) (by decide) ?_
    rw [b2 m _ hm (by omega)]
    refine zV.run kX4_turn 1 rfl ?_
    refine zV.ias kX4_turn rfl (hd) (j) (rfl) (by omega) (by decide) ?_
    refine zV.run kX4_turn 2 rfl ?_
    rw [nI_1, pk_sub lj]
    refine ih (j + 1) _ (upd dr j _) (by omega) (zIs.s hd.1) (fun i hi => ?_) (fun a ha => by rw [zup_ne ha]; exact hw a ha)
    by_cases e : i = j
    · rw [e, pk_us]
    · rw [pk_un (by omega)]; exact hdr i (by omega)
theorem n_turn (E : zE) {w : zWd} {σ : zSt} (h : zMs w σ) (m t : Int32) : zOk E mX4_turn 2 [.ref 49, .int m, .int t] w (zPm w (.int (if okM m ∧ okM t then nI (σ.1 m.toInt.toNat) else -2)) (if okM m ∧ okM t then sset σ t.toInt.toNat (σ.1 m.toInt.toNat) (fun i => σ.1 m.toInt.toNat - σ.2 m.toInt.toNat (σ.1 m.toInt.toNat - i)) else σ)) := by
  obtain ⟨⟨ab, be, rm, en, ej, h0⟩, hc, hx⟩ := id h
  obtain ⟨⟨sz, a1, a2⟩, ⟨ld, b1, b2⟩, hv⟩ := id hc
  refine zOk.of (by decide +kernel) (Nat.le_of_ble_eq_true rfl) ?_
  refine zV.run kX4_turn 1 rfl ?_
  refine zV.cs kX4_turn rfl lX4_51 (n_isMap E w m) (by decide) rfl rfl (Nat.le_of_ble_eq_true rfl) ?_
  rintro _ _ ⟨rfl, rfl⟩
  refine zV.if2 kX4_turn rfl (fun c => ?_) (fun c => ?_)
  · skip
    have c := zq_eq0.mp c
    rw [if_neg (fun q => c q.1), if_neg (fun q => c q.1)]
    refine zV.run kX4_turn 1 rfl ?_
    exact zV.iret kX4_turn rfl rfl (⟨rfl, h, fun _ _ => rfl⟩)
  · skip
    have c := Decidable.not_not.mp (mt zq_eq0.mpr c)
    refine zV.run kX4_turn 1 rfl ?_
    refine zV.cs kX4_turn rfl lX4_51 (n_isMap E w t) (by decide) rfl rfl (Nat.le_of_ble_eq_true rfl) ?_
    rintro _ _ ⟨rfl, rfl⟩
    refine zV.if2 kX4_turn rfl (fun c2 => ?_) (fun c2 => ?_)
    · skip
      have c2 := Decidable.not_not.mp (mt zq_eq0.mpr c2)
      obtain ⟨mm, emm⟩ : ∃ mm, mm = m.toInt.toNat := ⟨_, rfl⟩
      have em : m = nI mm := by rw [emm]; exact i32_nI c.1
      have hm : mm < 8 := by omega
      obtain ⟨mt, emt⟩ : ∃ mm, mm = t.toInt.toNat := ⟨_, rfl⟩
      have et : t = nI mt := by rw [emt]; exact i32_nI c2.1
      have ht : mt < 8 := by omega
      rw [if_pos ⟨c, c2⟩, if_pos ⟨c, c2⟩, ← emm, ← emt]
      refine zV.run kX4_turn 1 rfl ?_
      refine zV.gf kX4_turn rfl fX4_7 (h0) rfl ?_
      refine zV.run kX4_turn 1 rfl ?_
      refine zV.ial kX4_turn rfl (a1) (mm) (em) (hm) (by decide) ?_
      refine zV.run kX4_turn 3 rfl ?_
      rw [em, et, a2 mm hm]
      obtain ⟨dr, hd⟩ := hx.1
      exact n_turn_1 E hc hm ht hx h0 (σ.1 mm + 1) 0 w dr (by omega) hd (fun i hi => by omega) (fun _ _ => rfl)
    · skip
      have c2 := zq_eq0.mp (Decidable.not_not.mp c2)
      rw [if_neg (fun q => c2 q.2), if_neg (fun q => c2 q.2)]
      refine zV.run kX4_turn 1 rfl ?_
      exact zV.iret kX4_turn rfl rfl (⟨rfl, h, fun _ _ => rfl⟩)
end
section
/-! ===== the model: points followed, the table ===== -/
theorem zMs.at49 {w w' : zWd} {σ : zSt} {ab be : Int64} {rm en ej : Int32} (h : zMs w σ) (h0 : zIs w' 49 (zMo ab be rm en ej)) (hw : ∀ a, a ≠ 49 → w' a = w a) : zMs w' σ :=
  ⟨⟨_, _, _, _, _, h0⟩, h.2.1.k (hw _ (by decide)) (hw _ (by decide)), h.2.2.k (fun a _ _ => hw a (by omega))⟩
theorem inK {k : Int32} {a b : Int64} : (a.toInt ≤ k.toInt64.toInt ∧ k.toInt64.toInt ≤ b.toInt) ↔ (a.toInt ≤ k.toInt ∧ k.toInt ≤ b.toInt) := by rw [Int32.toInt_toInt64]
theorem in01 {k : Int32} : ((0 : Int64).toInt ≤ k.toInt64.toInt ∧ k.toInt64.toInt ≤ (1 : Int64).toInt) ↔ (k = 0 ∨ k = 1) := by
  rw [Int32.toInt_toInt64, show (0 : Int64).toInt = 0 from rfl, show (1 : Int64).toInt = 1 from rfl]
  constructor
  · intro h
    have e : k.toInt = 0 ∨ k.toInt = 1 := by omega
    rcases e with e | e
    · left; exact Int32.toInt_inj.mp e
    · right; exact Int32.toInt_inj.mp e
  · intro h
    rcases h with rfl | rfl
    · decide
    · decide
theorem n_far_l (E : zE) {w0 : zWd} {σ : zSt} {rm en ej : Int32} (h : zMs w0 σ) {m : Nat} (hm : m < 8) {a b : Nat} (hb : 0 < b) (hb2 : b ≤ 100000) (ha : (a : Int) ≤ σ.1 m * b) (va vb : Int64) {k : Nat} (hk : k ≤ 1000) (what : Int32) : ∀ (r i : Nat) (w : zWd), i + r = k → zAt w (fol (σ.1 m) (σ.2 m) b a i).toNat b rm en ej → (∀ q, q ≠ 49 → w q = w0 q) → zV E mX4_far 3 (zPm w0 (.long (lN (low (fol (σ.1 m) (σ.2 m) b a k).toNat b what))) σ) 49 [.ref 49, .int (nI m), .long va, zU, .long vb, zU, .int (nI k), .int what, .int (nI i)] [] w := by
  obtain ⟨v1, v5, vl⟩ := h.2.1.2.2 m hm
  intro r
  induction r with
  | zero =>
    intro i w hi h0 hw
    have e : i = k := by omega
    subst e
    have h1 : zIs w 49 (zMo _ _ rm en ej) := h0
    refine zV.run kX4_far 2 rfl ?_
    refine zV.ict kX4_far (cd := .ge) rfl (Int32.le_refl _) ?_
    refine zV.run kX4_far 2 rfl ?_
    refine zV.cv kX4_far rfl lX4_94 (n_told E h1 what) (by decide) rfl (h1) rfl rfl rfl (Nat.le_of_ble_eq_true rfl) ?_
    rintro _ _ ⟨rfl, rfl⟩
    exact zV.lret kX4_far rfl rfl (⟨by unfold low; by_cases q : what = 0 <;> simp [q], h.at49 h1 hw, fun a ha => hw a (by omega)⟩)
  | succ r ih =>
    intro i w hi h0 hw
    have h1 : zIs w 49 (zMo _ _ rm en ej) := h0
    have rg := fol_rg v1 vl (show (0 : Int) < b by omega) (show (0 : Int) ≤ a by omega) ha i
    have ex : ((fol (σ.1 m) (σ.2 m) b a i).toNat : Int) = fol (σ.1 m) (σ.2 m) b a i := Int.toNat_of_nonneg rg.1
    refine zV.run kX4_far 2 rfl ?_
    refine zV.icf kX4_far (cd := .ge) rfl (nI_ge (by omega) (by omega)) ?_
    refine zV.run kX4_far 2 rfl ?_
    refine zV.cv kX4_far rfl lX4_90 (n_step E (h.2.1.k (hw _ (by decide)) (hw _ (by decide))) h0 hm hb hb2 (by rw [ex]; exact rg.2)) (by decide) rfl (h1) rfl rfl rfl (Nat.le_of_ble_eq_true rfl) ?_
    rintro _ w9 ⟨rfl, e9⟩
    rw [ex] at e9
    refine zV.run kX4_far 2 rfl ?_
    rw [nI_1]
    exact ih (i + 1) w9 (by omega) (by rw [e9]; exact zIs.s h1.1) (fun q hq => by rw [e9, zup_ne hq]; exact hw q hq)
theorem n_far (E : zE) {w : zWd} {σ : zSt} (h : zMs w σ) (m : Int32) (a b : Int64) (k what : Int32) : zOk E mX4_far 3 [.ref 49, .int m, .long a, .long b, .int k, .int what] w (zPm w (.long (if okM m ∧ okP (σ.1 m.toInt.toNat) a b ∧ (0 ≤ k.toInt ∧ k.toInt ≤ 1000) ∧ (what = 0 ∨ what = 1) then lN (low (fol (σ.1 m.toInt.toNat) (σ.2 m.toInt.toNat) b.toInt a.toInt k.toInt.toNat).toNat b.toInt.toNat what) else -2)) σ) := by
  obtain ⟨⟨ab, be, rm, en, ej, h0⟩, hc, hx⟩ := id h
  refine zOk.of (by decide +kernel) (Nat.le_of_ble_eq_true rfl) ?_
  refine zV.run kX4_far 4 rfl ?_
  refine zV.cv kX4_far rfl lX4_82 (n_isPoint E h0 hc m a b) (by decide) rfl (h0) rfl rfl rfl (Nat.le_of_ble_eq_true rfl) ?_
  rintro _ _ ⟨rfl, rfl⟩
  refine zV.if2 kX4_far rfl (fun c => ?_) (fun c => ?_)
  · skip
    have c := zq_eq0.mp c
    rw [if_neg (fun q => c ⟨q.1, q.2.1⟩)]
    refine zV.ldc2 kX4_far rfl qX4_88 ?_
    exact zV.lret kX4_far rfl rfl (⟨rfl, h, fun _ _ => rfl⟩)
  · skip
    have c := Decidable.not_not.mp (mt zq_eq0.mpr c)
    refine zV.run kX4_far 3 rfl ?_
    refine zV.ldc2 kX4_far rfl qX4_86 ?_
    refine zV.cs kX4_far rfl lX4_47 (n_in E w k.toInt64 0 1000) (by decide) rfl rfl (Nat.le_of_ble_eq_true rfl) ?_
    rintro _ _ ⟨rfl, rfl⟩
    rw [zq_c inK]
    refine zV.if2 kX4_far rfl (fun c2 => ?_) (fun c2 => ?_)
    · skip
      have c2 : ¬ (0 ≤ k.toInt ∧ k.toInt ≤ 1000) := zq_eq0.mp c2
      rw [if_neg (fun q => c2 q.2.2.1)]
      refine zV.ldc2 kX4_far rfl qX4_88 ?_
      exact zV.lret kX4_far rfl rfl (⟨rfl, h, fun _ _ => rfl⟩)
    · skip
      have c2 : 0 ≤ k.toInt ∧ k.toInt ≤ 1000 := Decidable.not_not.mp (mt zq_eq0.mpr c2)
      refine zV.run kX4_far 4 rfl ?_
      refine zV.cs kX4_far rfl lX4_47 (n_in E w what.toInt64 0 1) (by decide) rfl rfl (Nat.le_of_ble_eq_true rfl) ?_
      rintro _ _ ⟨rfl, rfl⟩
      rw [zq_c in01]
      refine zV.if2 kX4_far rfl (fun c3 => ?_) (fun c3 => ?_)
      · skip
        have c3 := Decidable.not_not.mp (mt zq_eq0.mpr c3)
        rw [if_pos ⟨c.1, c.2, c2, c3⟩]
        obtain ⟨mm, emm⟩ : ∃ mm, mm = m.toInt.toNat := ⟨_, rfl⟩
        have em : m = nI mm := by rw [emm]; exact i32_nI c.1.1
        have hm : mm < 8 := by omega
        obtain ⟨kk, ekk⟩ : ∃ kk, kk = k.toInt.toNat := ⟨_, rfl⟩
        have ek : k = nI kk := by rw [ekk]; exact i32_nI c2.1
        rw [← emm] at c ⊢
        obtain ⟨A, eA⟩ : ∃ A : Nat, A = a.toInt.toNat := ⟨_, rfl⟩
        obtain ⟨B, eB⟩ : ∃ B : Nat, B = b.toInt.toNat := ⟨_, rfl⟩
        have eA2 : a.toInt = (A : Int) := by omega
        have eB2 : b.toInt = (B : Int) := by omega
        have ea : a = lN A := by rw [lN_lI, ← eA2]; exact i64_lI a
        have eb : b = lN B := by rw [lN_lI, ← eB2]; exact i64_lI b
        obtain ⟨c1, cp1, cp2, cp3, cp4⟩ := c
        rw [eA2, eB2] at cp4
        have x5 := bnd5 (hc.2.2 mm hm).2.1 (show (1 : Int) ≤ B by omega) (by omega) cp4
        rw [← ekk, eA2, eB2, show ((B : Int)).toNat = B from rfl, ea, eb, ek, em]
        refine zV.run kX4_far 3 rfl ?_
        refine zV.cv kX4_far rfl lX4_78 (n_at E h0 (a := A) (b := B) (by omega) (by omega) (by omega)) (by decide) rfl (h0) rfl rfl rfl (Nat.le_of_ble_eq_true rfl) ?_
        rintro _ w9 ⟨rfl, e9⟩
        refine zV.run kX4_far 2 rfl ?_
        exact n_far_l E h hm (by omega) (by omega) cp4 (lN A) (lN B) (k := kk) (by omega) what kk 0 w9 (by omega) (by rw [e9]; exact zIs.s h0.1) (fun q hq => by rw [e9, zup_ne hq])
      · skip
        have c3 := zq_eq0.mp (Decidable.not_not.mp c3)
        rw [if_neg (fun q => c3 q.2.2.2)]
        refine zV.ldc2 kX4_far rfl qX4_88 ?_
        exact zV.lret kX4_far rfl rfl (⟨rfl, h, fun _ _ => rfl⟩)
theorem n_word_l (E : zE) {w0 : zWd} {σ : zSt} {rm en ej : Int32} (h : zMs w0 σ) {m : Nat} (hm : m < 8) {a b : Nat} (hb : 0 < b) (hb2 : b ≤ 100000) (ha : (a : Int) ≤ σ.1 m * b) (va vb : Int64) {k : Nat} (hk : k ≤ 1000) : ∀ (r i : Nat) (w : zWd), i + r = k → zAt w (fol (σ.1 m) (σ.2 m) b a i).toNat b rm en ej → (∀ q, q ≠ 49 → w q = w0 q) → zV E mX4_word 3 (zPm w0 (.int (nI (spn (σ.1 m) (fol (σ.1 m) (σ.2 m) b a k) b))) σ) 37 [.ref 49, .int (nI m), .long va, zU, .long vb, zU, .int (nI k), .int (nI i)] [] w := by
  obtain ⟨v1, v5, vl⟩ := h.2.1.2.2 m hm
  intro r
  induction r with
  | zero =>
    intro i w hi h0 hw
    have e : i = k := by omega
    subst e
    have h1 : zIs w 49 (zMo _ _ rm en ej) := h0
    have rg := fol_rg v1 vl (show (0 : Int) < b by omega) (show (0 : Int) ≤ a by omega) ha i
    have ex : ((fol (σ.1 m) (σ.2 m) b a i).toNat : Int) = fol (σ.1 m) (σ.2 m) b a i := Int.toNat_of_nonneg rg.1
    refine zV.run kX4_word 2 rfl ?_
    refine zV.ict kX4_word (cd := .ge) rfl (Int32.le_refl _) ?_
    refine zV.run kX4_word 2 rfl ?_
    refine zV.cv kX4_word rfl lX4_74 (n_span E (h.2.1.k (hw _ (by decide)) (hw _ (by decide))) h0 hm hb hb2 (by rw [ex]; exact rg.2)) (by decide) rfl (h1) rfl rfl rfl (Nat.le_of_ble_eq_true rfl) ?_
    rintro _ _ ⟨rfl, rfl⟩
    rw [ex]
    exact zV.iret kX4_word rfl rfl (⟨rfl, h.at49 h1 hw, fun a ha => hw a (by omega)⟩)
  | succ r ih =>
    intro i w hi h0 hw
    have h1 : zIs w 49 (zMo _ _ rm en ej) := h0
    have rg := fol_rg v1 vl (show (0 : Int) < b by omega) (show (0 : Int) ≤ a by omega) ha i
    have ex : ((fol (σ.1 m) (σ.2 m) b a i).toNat : Int) = fol (σ.1 m) (σ.2 m) b a i := Int.toNat_of_nonneg rg.1
    refine zV.run kX4_word 2 rfl ?_
    refine zV.icf kX4_word (cd := .ge) rfl (nI_ge (by omega) (by omega)) ?_
    refine zV.run kX4_word 2 rfl ?_
    refine zV.cv kX4_word rfl lX4_90 (n_step E (h.2.1.k (hw _ (by decide)) (hw _ (by decide))) h0 hm hb hb2 (by rw [ex]; exact rg.2)) (by decide) rfl (h1) rfl rfl rfl (Nat.le_of_ble_eq_true rfl) ?_
    rintro _ w9 ⟨rfl, e9⟩
    rw [ex] at e9
    refine zV.run kX4_word 2 rfl ?_
    rw [nI_1]
    exact ih (i + 1) w9 (by omega) (by rw [e9]; exact zIs.s h1.1) (fun q hq => by rw [e9, zup_ne hq]; exact hw q hq)
theorem n_word (E : zE) {w : zWd} {σ : zSt} (h : zMs w σ) (m : Int32) (a b : Int64) (k : Int32) : zOk E mX4_word 3 [.ref 49, .int m, .long a, .long b, .int k] w (zPm w (.int (if okM m ∧ okP (σ.1 m.toInt.toNat) a b ∧ (0 ≤ k.toInt ∧ k.toInt ≤ 1000) then nI (spn (σ.1 m.toInt.toNat) (fol (σ.1 m.toInt.toNat) (σ.2 m.toInt.toNat) b.toInt a.toInt k.toInt.toNat) b.toInt) else -2)) σ) := by
  obtain ⟨⟨ab, be, rm, en, ej, h0⟩, hc, hx⟩ := id h
  refine zOk.of (by decide +kernel) (Nat.le_of_ble_eq_true rfl) ?_
  refine zV.run kX4_word 4 rfl ?_
  refine zV.cv kX4_word rfl lX4_82 (n_isPoint E h0 hc m a b) (by decide) rfl (h0) rfl rfl rfl (Nat.le_of_ble_eq_true rfl) ?_
  rintro _ _ ⟨rfl, rfl⟩
  refine zV.if2 kX4_word rfl (fun c => ?_) (fun c => ?_)
  · skip
    have c := zq_eq0.mp c
    rw [if_neg (fun q => c ⟨q.1, q.2.1⟩)]
    refine zV.run kX4_word 1 rfl ?_
    exact zV.iret kX4_word rfl rfl (⟨rfl, h, fun _ _ => rfl⟩)
  · skip
    have c := Decidable.not_not.mp (mt zq_eq0.mpr c)
    refine zV.run kX4_word 3 rfl ?_
    refine zV.ldc2 kX4_word rfl qX4_86 ?_
    refine zV.cs kX4_word rfl lX4_47 (n_in E w k.toInt64 0 1000) (by decide) rfl rfl (Nat.le_of_ble_eq_true rfl) ?_
    rintro _ _ ⟨rfl, rfl⟩
    rw [zq_c inK]
    refine zV.if2 kX4_word rfl (fun c2 => ?_) (fun c2 => ?_)
    · skip
      have c2 : 0 ≤ k.toInt ∧ k.toInt ≤ 1000 := Decidable.not_not.mp (mt zq_eq0.mpr c2)
      rw [if_pos ⟨c.1, c.2, c2⟩]
      obtain ⟨mm, emm⟩ : ∃ mm, mm = m.toInt.toNat := ⟨_, rfl⟩
      have em : m = nI mm := by rw [emm]; exact i32_nI c.1.1
      have hm : mm < 8 := by omega
      obtain ⟨kk, ekk⟩ : ∃ kk, kk = k.toInt.toNat := ⟨_, rfl⟩
      have ek : k = nI kk := by rw [ekk]; exact i32_nI c2.1
      rw [← emm] at c ⊢
      obtain ⟨A, eA⟩ : ∃ A : Nat, A = a.toInt.toNat := ⟨_, rfl⟩
      obtain ⟨B, eB⟩ : ∃ B : Nat, B = b.toInt.toNat := ⟨_, rfl⟩
      have eA2 : a.toInt = (A : Int) := by omega
      have eB2 : b.toInt = (B : Int) := by omega
      have ea : a = lN A := by rw [lN_lI, ← eA2]; exact i64_lI a
      have eb : b = lN B := by rw [lN_lI, ← eB2]; exact i64_lI b
      obtain ⟨c1, cp1, cp2, cp3, cp4⟩ := c
      rw [eA2, eB2] at cp4
      have x5 := bnd5 (hc.2.2 mm hm).2.1 (show (1 : Int) ≤ B by omega) (by omega) cp4
      rw [← ekk, eA2, eB2, ea, eb, ek, em]
      refine zV.run kX4_word 3 rfl ?_
      refine zV.cv kX4_word rfl lX4_78 (n_at E h0 (a := A) (b := B) (by omega) (by omega) (by omega)) (by decide) rfl (h0) rfl rfl rfl (Nat.le_of_ble_eq_true rfl) ?_
      rintro _ w9 ⟨rfl, e9⟩
      refine zV.run kX4_word 2 rfl ?_
      exact n_word_l E h hm (by omega) (by omega) cp4 (lN A) (lN B) (k := kk) (by omega) kk 0 w9 (by omega) (by rw [e9]; exact zIs.s h0.1) (fun q hq => by rw [e9, zup_ne hq])
    · skip
      have c2 : ¬ (0 ≤ k.toInt ∧ k.toInt ≤ 1000) := zq_eq0.mp (Decidable.not_not.mp c2)
      rw [if_neg (fun q => c2 q.2.2)]
      refine zV.run kX4_word 1 rfl ?_
      exact zV.iret kX4_word rfl rfl (⟨rfl, h, fun _ _ => rfl⟩)
theorem n_join (E : zE) {w : zWd} {σ : zSt} (h : zMs w σ) (m t : Int32) (a b : Int64) (what : Int32) : zOk E mX4_join 3 [.ref 49, .int m, .int t, .long a, .long b, .int what] w (zPm w (.long (if okM m ∧ okM t ∧ okP (σ.1 m.toInt.toNat) a b ∧ (what = 0 ∨ what = 1) then (if σ.1 m.toInt.toNat = σ.1 t.toInt.toNat then lN (low (stp (σ.1 t.toInt.toNat) (σ.2 t.toInt.toNat) b.toInt (stp (σ.1 m.toInt.toNat) (σ.2 m.toInt.toNat) b.toInt a.toInt)).toNat b.toInt.toNat what) else -3) else -2)) σ) := by
  obtain ⟨⟨ab, be, rm, en, ej, h0⟩, hc, hx⟩ := id h
  obtain ⟨⟨sz, a1, a2⟩, -, hv⟩ := id hc
  refine zOk.of (by decide +kernel) (Nat.le_of_ble_eq_true rfl) ?_
  refine zV.run kX4_join 4 rfl ?_
  refine zV.cv kX4_join rfl lX4_82 (n_isPoint E h0 hc m a b) (by decide) rfl (h0) rfl rfl rfl (Nat.le_of_ble_eq_true rfl) ?_
  rintro _ _ ⟨rfl, rfl⟩
  refine zV.if2 kX4_join rfl (fun c => ?_) (fun c => ?_)
  · skip
    have c := zq_eq0.mp c
    rw [if_neg (fun q => c ⟨q.1, q.2.2.1⟩)]
    refine zV.ldc2 kX4_join rfl qX4_88 ?_
    exact zV.lret kX4_join rfl rfl (⟨rfl, h, fun _ _ => rfl⟩)
  · skip
    have c := Decidable.not_not.mp (mt zq_eq0.mpr c)
    refine zV.run kX4_join 1 rfl ?_
    refine zV.cs kX4_join rfl lX4_51 (n_isMap E w t) (by decide) rfl rfl (Nat.le_of_ble_eq_true rfl) ?_
    rintro _ _ ⟨rfl, rfl⟩
    refine zV.if2 kX4_join rfl (fun c2 => ?_) (fun c2 => ?_)
    · skip
      have c2 := zq_eq0.mp c2
      rw [if_neg (fun q => c2 q.2.1)]
      refine zV.ldc2 kX4_join rfl qX4_88 ?_
      exact zV.lret kX4_join rfl rfl (⟨rfl, h, fun _ _ => rfl⟩)
    · skip
      have c2 := Decidable.not_not.mp (mt zq_eq0.mpr c2)
      refine zV.run kX4_join 4 rfl ?_
      refine zV.cs kX4_join rfl lX4_47 (n_in E w what.toInt64 0 1) (by decide) rfl rfl (Nat.le_of_ble_eq_true rfl) ?_
      rintro _ _ ⟨rfl, rfl⟩
      rw [zq_c in01]
      refine zV.if2 kX4_join rfl (fun c3 => ?_) (fun c3 => ?_)
      · skip
        have c3 := Decidable.not_not.mp (mt zq_eq0.mpr c3)
        rw [if_pos ⟨c.1, c2, c.2, c3⟩]
        obtain ⟨mm, emm⟩ : ∃ mm, mm = m.toInt.toNat := ⟨_, rfl⟩
        have em : m = nI mm := by rw [emm]; exact i32_nI c.1.1
        have hm : mm < 8 := by omega
        obtain ⟨mt, emt⟩ : ∃ mm, mm = t.toInt.toNat := ⟨_, rfl⟩
        have et : t = nI mt := by rw [emt]; exact i32_nI c2.1
        have ht : mt < 8 := by omega
        rw [← emm] at c ⊢
        rw [← emt]
        obtain ⟨v1, v5, vl⟩ := hv mm hm
        obtain ⟨u1, u5, ul⟩ := hv mt ht
        refine zV.run kX4_join 1 rfl ?_
        refine zV.gf kX4_join rfl fX4_7 (h0) rfl ?_
        refine zV.run kX4_join 1 rfl ?_
        refine zV.ial kX4_join rfl (a1) (mm) (em) (hm) (by decide) ?_
        refine zV.run kX4_join 1 rfl ?_
        refine zV.gf kX4_join rfl fX4_7 (h0) rfl ?_
        refine zV.run kX4_join 1 rfl ?_
        refine zV.ial kX4_join rfl (a1) (mt) (et) (ht) (by decide) ?_
        rw [a2 mm hm, a2 mt ht]
        refine zV.ic2 kX4_join rfl (fun c4 => ?_) (fun c4 => ?_)
        · skip
          have c4 := (nI_eq (by omega) (by omega)).mp c4
          rw [if_pos c4]
          obtain ⟨A, eA⟩ : ∃ A : Nat, A = a.toInt.toNat := ⟨_, rfl⟩
          obtain ⟨B, eB⟩ : ∃ B : Nat, B = b.toInt.toNat := ⟨_, rfl⟩
          have eA2 : a.toInt = (A : Int) := by omega
          have eB2 : b.toInt = (B : Int) := by omega
          have ea : a = lN A := by rw [lN_lI, ← eA2]; exact i64_lI a
          have eb : b = lN B := by rw [lN_lI, ← eB2]; exact i64_lI b
          obtain ⟨c1, cp1, cp2, cp3, cp4⟩ := c
          rw [eA2, eB2] at cp4
          have x5 := bnd5 v5 (show (1 : Int) ≤ B by omega) (by omega) cp4
          have rg := stp_rg v1 vl (show (0 : Int) < B by omega) (show (0 : Int) ≤ A by omega) cp4
          have ex : ((stp (σ.1 mm) (σ.2 mm) B A).toNat : Int) = stp (σ.1 mm) (σ.2 mm) B A := Int.toNat_of_nonneg rg.1
          have rg1 : stp (σ.1 mm) (σ.2 mm) B A ≤ (σ.1 mt : Int) * B := by rw [← c4]; exact rg.2
          rw [eA2, eB2, show ((B : Int)).toNat = B from rfl, ea, eb, em, et]
          refine zV.run kX4_join 3 rfl ?_
          refine zV.cv kX4_join rfl lX4_78 (n_at E h0 (a := A) (b := B) (by omega) (by omega) (by omega)) (by decide) rfl (h0) rfl rfl rfl (Nat.le_of_ble_eq_true rfl) ?_
          rintro _ w9 ⟨rfl, e9⟩
          have g9 : zAt w9 A B rm en ej := by rw [e9]; exact zIs.s h0.1
          have g9' : zIs w9 49 (zMo _ _ rm en ej) := g9
          have k9 : ∀ q, q ≠ 49 → w9 q = w q := fun q hq => by rw [e9, zup_ne hq]
          refine zV.run kX4_join 2 rfl ?_
          refine zV.cv kX4_join rfl lX4_90 (n_step E (hc.k (k9 _ (by decide)) (k9 _ (by decide))) g9 hm (by omega) (by omega) cp4) (by decide) rfl (g9') rfl rfl rfl (Nat.le_of_ble_eq_true rfl) ?_
          rintro _ w8 ⟨rfl, e8⟩
          have g8 : zAt w8 (stp (σ.1 mm) (σ.2 mm) B A).toNat B rm en ej := by rw [e8]; exact zIs.s h0.1
          have g8' : zIs w8 49 (zMo _ _ rm en ej) := g8
          have k8 : ∀ q, q ≠ 49 → w8 q = w q := fun q hq => by rw [e8, zup_ne hq]; exact k9 q hq
          refine zV.run kX4_join 2 rfl ?_
          refine zV.cv kX4_join rfl lX4_90 (n_step E (hc.k (k8 _ (by decide)) (k8 _ (by decide))) g8 ht (by omega) (by omega) (by rw [ex]; exact rg1)) (by decide) rfl (g8') rfl rfl rfl (Nat.le_of_ble_eq_true rfl) ?_
          rintro _ w7 ⟨rfl, e7⟩
          rw [ex] at e7
          have g7 := zIs.s (w := w8) (a := 49) (c := zMo (lN ((stp (σ.1 mt) (σ.2 mt) B (stp (σ.1 mm) (σ.2 mm) B A)).toNat / Nat.gcd (stp (σ.1 mt) (σ.2 mt) B (stp (σ.1 mm) (σ.2 mm) B A)).toNat B)) (lN (B / Nat.gcd (stp (σ.1 mt) (σ.2 mt) B (stp (σ.1 mm) (σ.2 mm) B A)).toNat B)) rm en ej) (by decide)
          rw [← e7] at g7
          refine zV.run kX4_join 2 rfl ?_
          refine zV.cv kX4_join rfl lX4_94 (n_told E g7 what) (by decide) rfl (g7) rfl rfl rfl (Nat.le_of_ble_eq_true rfl) ?_
          rintro _ _ ⟨rfl, rfl⟩
          exact zV.lret kX4_join rfl rfl (⟨by unfold low; by_cases q : what = 0 <;> simp [q], h.at49 g7 (fun q hq => by rw [e7, zup_ne hq]; exact k8 q hq), fun q hq => by rw [e7, zup_ne (by omega)]; exact k8 q (by omega)⟩)
        · skip
          have c4 : ¬ σ.1 mm = σ.1 mt := fun q => c4 ((nI_eq (a := σ.1 mm) (b := σ.1 mt) (by omega) (by omega)).mpr q)
          rw [if_neg c4]
          refine zV.ldc2 kX4_join rfl qX4_98 ?_
          exact zV.lret kX4_join rfl rfl (⟨rfl, h, fun _ _ => rfl⟩)
      · skip
        have c3 := zq_eq0.mp (Decidable.not_not.mp c3)
        rw [if_neg (fun q => c3 q.2.2.2)]
        refine zV.ldc2 kX4_join rfl qX4_88 ?_
        exact zV.lret kX4_join rfl rfl (⟨rfl, h, fun _ _ => rfl⟩)
theorem n_covers (E : zE) {w : zWd} {σ : zSt} {ab be : Int64} {rm en ej : Int32} (h0 : zIs w 49 (zMo ab be rm en ej)) (hc : zMc w σ) {m i j : Nat} (hm : m < 8) (hi : i < σ.1 m) (hj : j < 100) : zOk E mX4_covers 0 [.ref 49, .int (nI m), .int (nI i), .int (nI j)] w (zR0 w (.int (zq (cov (σ.2 m) i j = true)))) := by
  obtain ⟨-, ⟨ld, b1, b2⟩, hv⟩ := hc
  obtain ⟨v1, v5, vl⟩ := hv m hm
  have l1 := vl i (by omega)
  have l2 := vl (i + 1) (by omega)
  have e1 := b2 m i hm (by omega)
  have e2 := b2 m (i + 1) hm (by omega)
  refine zOk.of (by decide +kernel) (Nat.le_of_ble_eq_true rfl) ?_
  refine zV.run kX4_covers 1 rfl ?_
  refine zV.gf kX4_covers rfl fX4_13 (h0) rfl ?_
  refine zV.run kX4_covers 5 rfl ?_
  refine zV.ial kX4_covers rfl (b1) (7 * m + i) (ix7) (by omega) (by decide) ?_
  refine zV.run kX4_covers 2 rfl ?_
  refine zV.gf kX4_covers rfl fX4_13 (h0) rfl ?_
  refine zV.run kX4_covers 7 rfl ?_
  refine zV.ial kX4_covers rfl (b1) (7 * m + (i + 1)) (by rw [ix7, nI_1]; rfl) (by omega) (by decide) ?_
  rw [e1, e2]
  have nle : ∀ x y : Nat, x < 100 → y < 100 → (nI x ≤ nI y ↔ x ≤ y) := fun x y hx hy => nI_leI (by omega) (by omega)
  have nlt : ∀ x y : Nat, x < 100 → y < 100 → (nI x < nI y ↔ x < y) := fun x y hx hy => nI_ltI (by omega) (by omega)
  have tail : ¬ (σ.2 m i ≤ j ∧ j < σ.2 m (i + 1)) → zV E mX4_covers 0 (zR0 w (.int (zq (cov (σ.2 m) i j = true)))) 40 [.ref 49, .int (nI m), .int (nI i), .int (nI j), .int (nI (σ.2 m i)), .int (nI (σ.2 m (i + 1)))] [] w := by
    intro hn
    refine zV.run kX4_covers 2 rfl ?_
    refine zV.ic2 kX4_covers rfl (fun c => ?_) (fun c => ?_)
    · skip
      have c := (nlt j (σ.2 m (i + 1)) (by omega) (by omega)).mp c
      refine zV.run kX4_covers 1 rfl ?_
      exact zV.iret kX4_covers rfl rfl (⟨by rw [zq_f]; unfold cov; simp; omega, rfl⟩)
    · skip
      have c := mt (nlt j (σ.2 m (i + 1)) (by omega) (by omega)).mpr c
      refine zV.run kX4_covers 2 rfl ?_
      refine zV.ic2 kX4_covers rfl (fun c2 => ?_) (fun c2 => ?_)
      · skip
        have c2 := (nle (σ.2 m i) j (by omega) (by omega)).mp c2
        refine zV.run kX4_covers 1 rfl ?_
        exact zV.iret kX4_covers rfl rfl (⟨by rw [zq_f]; unfold cov; simp; omega, rfl⟩)
      · skip
        have c2 := mt (nle (σ.2 m i) j (by omega) (by omega)).mpr c2
        refine zV.run kX4_covers 2 rfl ?_
        exact zV.iret kX4_covers rfl rfl (⟨by rw [zq_t]; unfold cov; simp; omega, rfl⟩)
  refine zV.run kX4_covers 3 rfl ?_
  refine zV.ic2 kX4_covers rfl (fun c => ?_) (fun c => ?_)
  · skip
    have c := (nlt j (σ.2 m i) (by omega) (by omega)).mp c
    exact tail (by omega)
  · skip
    have c := mt (nlt j (σ.2 m i) (by omega) (by omega)).mpr c
    refine zV.run kX4_covers 2 rfl ?_
    refine zV.ic2 kX4_covers rfl (fun c2 => ?_) (fun c2 => ?_)
    · skip
      have c2 := (nlt j (σ.2 m (i + 1)) (by omega) (by omega)).mp c2
      refine zV.run kX4_covers 2 rfl ?_
      exact zV.iret kX4_covers rfl rfl (⟨by rw [zq_t]; unfold cov; simp; omega, rfl⟩)
    · skip
      have c2 := mt (nlt j (σ.2 m (i + 1)) (by omega) (by omega)).mpr c2
      exact tail (by omega)
theorem n_isSpan (E : zE) {w : zWd} {σ : zSt} {ab be : Int64} {rm en ej : Int32} (h0 : zIs w 49 (zMo ab be rm en ej)) (hc : zMc w σ) (m i : Int32) : zOk E mX4_isSpan 2 [.ref 49, .int m, .int i] w (zR0 w (.int (zq (okM m ∧ (0 ≤ i.toInt ∧ i.toInt < σ.1 m.toInt.toNat))))) := by
  obtain ⟨⟨sz, a1, a2⟩, -, hv⟩ := id hc
  refine zOk.of (by decide +kernel) (Nat.le_of_ble_eq_true rfl) ?_
  refine zV.run kX4_isSpan 1 rfl ?_
  refine zV.cs kX4_isSpan rfl lX4_51 (n_isMap E w m) (by decide) rfl rfl (Nat.le_of_ble_eq_true rfl) ?_
  rintro _ _ ⟨rfl, rfl⟩
  refine zV.if2 kX4_isSpan rfl (fun c => ?_) (fun c => ?_)
  · skip
    have c := zq_eq0.mp c
    refine zV.run kX4_isSpan 1 rfl ?_
    exact zV.zret kX4_isSpan rfl rfl (Or.inl rfl) (⟨by rw [zq_f (fun q => c q.1)], rfl⟩)
  · skip
    have c := Decidable.not_not.mp (mt zq_eq0.mpr c)
    obtain ⟨mm, emm⟩ : ∃ mm, mm = m.toInt.toNat := ⟨_, rfl⟩
    have em : m = nI mm := by rw [emm]; exact i32_nI c.1
    have hm : mm < 8 := by omega
    obtain ⟨v1, v5, vl⟩ := hv mm hm
    rw [← emm]
    refine zV.run kX4_isSpan 4 rfl ?_
    refine zV.gf kX4_isSpan rfl fX4_7 (h0) rfl ?_
    refine zV.run kX4_isSpan 1 rfl ?_
    refine zV.ial kX4_isSpan rfl (a1) (mm) (em) (hm) (by decide) ?_
    rw [a2 mm hm]
    refine zV.run kX4_isSpan 3 rfl ?_
    refine zV.cs kX4_isSpan rfl lX4_47 (n_in E w i.toInt64 0 (nI (σ.1 mm) - 1).toInt64) (by decide) rfl rfl (Nat.le_of_ble_eq_true rfl) ?_
    rintro _ _ ⟨rfl, rfl⟩
    rw [zq_c (inI1 v1 v5)]
    refine zV.if2 kX4_isSpan rfl (fun c2 => ?_) (fun c2 => ?_)
    · skip
      have c2 := zq_eq0.mp c2
      refine zV.run kX4_isSpan 1 rfl ?_
      exact zV.zret kX4_isSpan rfl rfl (Or.inl rfl) (⟨by rw [zq_f (fun q => c2 q.2)], rfl⟩)
    · skip
      have c2 := Decidable.not_not.mp (mt zq_eq0.mpr c2)
      refine zV.run kX4_isSpan 2 rfl ?_
      exact zV.zret kX4_isSpan rfl rfl (Or.inr rfl) (⟨by rw [zq_t ⟨c, c2⟩], rfl⟩)
theorem n_table (E : zE) {w : zWd} {σ : zSt} (h : zMs w σ) (m i j : Int32) : zOk E mX4_table 3 [.ref 49, .int m, .int i, .int j] w (zR0 w (.int (if okM m ∧ (0 ≤ i.toInt ∧ i.toInt < σ.1 m.toInt.toNat) ∧ (0 ≤ j.toInt ∧ j.toInt < σ.1 m.toInt.toNat) then zq (cov (σ.2 m.toInt.toNat) i.toInt.toNat j.toInt.toNat = true) else -2))) := by
  obtain ⟨⟨ab, be, rm, en, ej, h0⟩, hc, hx⟩ := id h
  refine zOk.of (by decide +kernel) (Nat.le_of_ble_eq_true rfl) ?_
  refine zV.run kX4_table 3 rfl ?_
  refine zV.cv kX4_table rfl lX4_100 (n_isSpan E h0 hc m i) (by decide) rfl (h0) rfl rfl rfl (Nat.le_of_ble_eq_true rfl) ?_
  rintro _ _ ⟨rfl, rfl⟩
  refine zV.if2 kX4_table rfl (fun c => ?_) (fun c => ?_)
  · skip
    have c := zq_eq0.mp c
    refine zV.run kX4_table 1 rfl ?_
    exact zV.iret kX4_table rfl rfl (⟨by rw [if_neg (fun q => c ⟨q.1, q.2.1⟩)], rfl⟩)
  · skip
    have c := Decidable.not_not.mp (mt zq_eq0.mpr c)
    refine zV.run kX4_table 3 rfl ?_
    refine zV.cv kX4_table rfl lX4_100 (n_isSpan E h0 hc m j) (by decide) rfl (h0) rfl rfl rfl (Nat.le_of_ble_eq_true rfl) ?_
    rintro _ _ ⟨rfl, rfl⟩
    refine zV.if2 kX4_table rfl (fun c2 => ?_) (fun c2 => ?_)
    · skip
      have c2 := zq_eq0.mp c2
      refine zV.run kX4_table 1 rfl ?_
      exact zV.iret kX4_table rfl rfl (⟨by rw [if_neg (fun q => c2 ⟨q.1, q.2.2⟩)], rfl⟩)
    · skip
      have c2 := Decidable.not_not.mp (mt zq_eq0.mpr c2)
      rw [if_pos ⟨c.1, c.2, c2.2⟩]
      obtain ⟨mm, emm⟩ : ∃ mm, mm = m.toInt.toNat := ⟨_, rfl⟩
      have em : m = nI mm := by rw [emm]; exact i32_nI c.1.1
      have hm : mm < 8 := by omega
      have v5 := (hc.2.2 mm hm).2.1
      obtain ⟨ii, eii⟩ : ∃ ii, ii = i.toInt.toNat := ⟨_, rfl⟩
      have ei : i = nI ii := by rw [eii]; exact i32_nI c.2.1
      obtain ⟨jj, ejj⟩ : ∃ ii, ii = j.toInt.toNat := ⟨_, rfl⟩
      have ej2 : j = nI jj := by rw [ejj]; exact i32_nI c2.2.1
      rw [← emm] at c c2
      rw [← emm, ← eii, ← ejj, em, ei, ej2]
      refine zV.run kX4_table 4 rfl ?_
      refine zV.cv kX4_table rfl lX4_104 (n_covers E h0 hc hm (i := ii) (j := jj) (by omega) (by omega)) (by decide) rfl (h0) rfl rfl rfl (Nat.le_of_ble_eq_true rfl) ?_
      rintro _ _ ⟨rfl, rfl⟩
      refine zV.run kX4_table 1 rfl ?_
      exact zV.iret kX4_table rfl rfl (⟨rfl, rfl⟩)
end
section
/-! ===== the model: the twisted order ===== -/
/-- two fractions of one point -/
def sameP (a b x y : Nat) : Prop := a / Nat.gcd a b = x / Nat.gcd x y ∧ b / Nat.gcd a b = y / Nat.gcd x y
theorem sameP_rd {x b : Nat} (hb : 0 < b) : sameP (x / Nat.gcd x b) (b / Nat.gcd x b) x b := by
  obtain ⟨g, hg, eg, ex, eb, hb0⟩ := rd_of (a := x) hb
  have h := rd_scale (a := x / Nat.gcd x b) (b := b / Nat.gcd x b) hg
  rw [← ex, ← eb] at h
  exact ⟨h.1.symm, h.2.symm⟩
theorem n_order_l (E : zE) {w0 : zWd} {σ : zSt} {rm en ej : Int32} (h : zMs w0 σ) {m : Nat} (hm : m < 8) {b d : Nat} (hb : 0 < b) (hb2 : b ≤ 100000) (hd : 0 < d) (hd2 : d ≤ 100000) (va vb vc vd : Int64) {k : Nat} (hk : k ≤ 1000) : ∀ (r i : Nat) (w : zWd) (t : Bool) (X Y x y u v : Nat) (z1 z2 : Value), i + r = k → (X : Int) ≤ σ.1 m * b → (Y : Int) ≤ σ.1 m * d → sameP x y X b → sameP u v Y d → 0 < y → y ≤ 100000 → x ≤ 500000 → 0 < v → v ≤ 100000 → u ≤ 500000 → (∃ ab be, zIs w 49 (zMo ab be rm en ej)) → (∀ q, q ≠ 49 → w q = w0 q) → zV E mX4_order 3 (zPm w0 (.int (iI (two (σ.1 m) (σ.2 m) b d r t X Y))) σ) 60 [.ref 49, .int (nI m), .long va, zU, .long vb, zU, .long vc, zU, .long vd, zU, .int (nI k), .long (lN x), zU, .long (lN y), zU, .long (lN u), zU, .long (lN v), zU, .int (zq (t = true)), .int (nI i), z1, z2] [] w := by
  obtain ⟨v1, v5, vl⟩ := h.2.1.2.2 m hm
  intro r
  induction r with
  | zero =>
    intro i w t X Y x y u v z1 z2 hi hX hY s1 s2 hy hy2 hx2 hv hv2 hu2 h0 hw
    obtain ⟨ab, be, h0⟩ := h0
    have e : i = k := by omega
    subst e
    refine zV.run kX4_order 2 rfl ?_
    refine zV.ict kX4_order (cd := .ge) rfl (Int32.le_refl _) ?_
    refine zV.run kX4_order 1 rfl ?_
    exact zV.iret kX4_order rfl rfl (⟨rfl, h.at49 h0 hw, fun a ha => hw a (by omega)⟩)
  | succ r ih =>
    intro i w t X Y x y u v z1 z2 hi hX hY s1 s2 hy hy2 hx2 hv hv2 hu2 h0 hw
    obtain ⟨ab, be, h0⟩ := h0
    have sp1 := spn_lt v1 (X : Int) (b : Int)
    have sp2 := spn_lt v1 (Y : Int) (d : Int)
    have sb := sl_rg v5 vl sp1
    have rX := stp_rg v1 vl (show (0 : Int) < b by omega) (show (0 : Int) ≤ X by omega) hX
    have rY := stp_rg v1 vl (show (0 : Int) < d by omega) (show (0 : Int) ≤ Y by omega) hY
    have tX : ((stp (σ.1 m) (σ.2 m) b X).toNat : Int) = stp (σ.1 m) (σ.2 m) b X := Int.toNat_of_nonneg rX.1
    have tY : ((stp (σ.1 m) (σ.2 m) d Y).toNat : Int) = stp (σ.1 m) (σ.2 m) d Y := Int.toNat_of_nonneg rY.1
    have X5 := bnd5 v5 (show (1 : Int) ≤ b by omega) (by omega) rX.2
    have Y5 := bnd5 v5 (show (1 : Int) ≤ d by omega) (by omega) rY.2
    have nx : ∀ (w : zWd) (t' : Bool) (z1 z2 : Value), (∃ ab be, zIs w 49 (zMo ab be rm en ej)) → (∀ q, q ≠ 49 → w q = w0 q) → zV E mX4_order 3 (zPm w0 (.int (iI (two (σ.1 m) (σ.2 m) b d r t' (stp (σ.1 m) (σ.2 m) b X) (stp (σ.1 m) (σ.2 m) d Y)))) σ) 60 [.ref 49, .int (nI m), .long va, zU, .long vb, zU, .long vc, zU, .long vd, zU, .int (nI k), .long (lN ((stp (σ.1 m) (σ.2 m) b X).toNat / Nat.gcd (stp (σ.1 m) (σ.2 m) b X).toNat b)), zU, .long (lN (b / Nat.gcd (stp (σ.1 m) (σ.2 m) b X).toNat b)), zU, .long (lN ((stp (σ.1 m) (σ.2 m) d Y).toNat / Nat.gcd (stp (σ.1 m) (σ.2 m) d Y).toNat d)), zU, .long (lN (d / Nat.gcd (stp (σ.1 m) (σ.2 m) d Y).toNat d)), zU, .int (zq (t' = true)), .int (nI (i + 1)), z1, z2] [] w := by
      intro w t' z1 z2 h0 hw
      have K := ih (i + 1) w t' (stp (σ.1 m) (σ.2 m) b X).toNat (stp (σ.1 m) (σ.2 m) d Y).toNat _ _ _ _ z1 z2 (by omega) (by rw [tX]; exact rX.2) (by rw [tY]; exact rY.2) (sameP_rd hb) (sameP_rd hd) (Nat.div_pos (Nat.gcd_le_right _ hb) (Nat.gcd_pos_of_pos_right _ hb)) (Nat.le_trans (Nat.div_le_self _ _) hb2) (Nat.le_trans (Nat.div_le_self _ _) (by omega)) (Nat.div_pos (Nat.gcd_le_right _ hd) (Nat.gcd_pos_of_pos_right _ hd)) (Nat.le_trans (Nat.div_le_self _ _) hd2) (Nat.le_trans (Nat.div_le_self _ _) (by omega)) h0 hw
      rw [tX, tY] at K
      exact K
    refine zV.run kX4_order 2 rfl ?_
    refine zV.icf kX4_order (cd := .ge) rfl (nI_ge (by omega) (by omega)) ?_
    refine zV.run kX4_order 3 rfl ?_
    refine zV.cv kX4_order rfl lX4_78 (n_at E h0 (a := x) (b := y) (by omega) (by omega) hy) (by decide) rfl (h0) rfl rfl rfl (Nat.le_of_ble_eq_true rfl) ?_
    rintro _ w1 ⟨rfl, e1⟩
    have g1 : zAt w1 X b rm en ej := by
      rw [e1, s1.1, s1.2]; exact zIs.s h0.1
    have g1' : zIs w1 49 (zMo _ _ rm en ej) := g1
    have k1 : ∀ q, q ≠ 49 → w1 q = w0 q := fun q hq => by rw [e1, zup_ne hq]; exact hw q hq
    refine zV.run kX4_order 2 rfl ?_
    refine zV.cv kX4_order rfl lX4_74 (n_span E (h.2.1.k (k1 _ (by decide)) (k1 _ (by decide))) g1 hm hb hb2 hX) (by decide) rfl (g1') rfl rfl rfl (Nat.le_of_ble_eq_true rfl) ?_
    rintro _ _ ⟨rfl, rfl⟩
    refine zV.run kX4_order 3 rfl ?_
    refine zV.cv kX4_order rfl lX4_90 (n_step E (h.2.1.k (k1 _ (by decide)) (k1 _ (by decide))) g1 hm hb hb2 hX) (by decide) rfl (g1') rfl rfl rfl (Nat.le_of_ble_eq_true rfl) ?_
    rintro _ w2 ⟨rfl, e2⟩
    have g2 := zIs.s (w := w1) (a := 49) (c := zMo (lN ((stp (σ.1 m) (σ.2 m) b X).toNat / Nat.gcd (stp (σ.1 m) (σ.2 m) b X).toNat b)) (lN (b / Nat.gcd (stp (σ.1 m) (σ.2 m) b X).toNat b)) rm en ej) (by decide)
    rw [← e2] at g2
    have k2 : ∀ q, q ≠ 49 → w2 q = w0 q := fun q hq => by rw [e2, zup_ne hq]; exact k1 q hq
    refine zV.run kX4_order 1 rfl ?_
    refine zV.gf kX4_order rfl fX4_67 (g2) rfl ?_
    refine zV.run kX4_order 2 rfl ?_
    refine zV.gf kX4_order rfl fX4_71 (g2) rfl ?_
    refine zV.run kX4_order 4 rfl ?_
    refine zV.cv kX4_order rfl lX4_78 (n_at E g2 (a := u) (b := v) (by omega) (by omega) hv) (by decide) rfl (g2) rfl rfl rfl (Nat.le_of_ble_eq_true rfl) ?_
    rintro _ w3 ⟨rfl, e3⟩
    have g3 : zAt w3 Y d rm en ej := by
      rw [e3, s2.1, s2.2]; exact zIs.s h0.1
    have g3' : zIs w3 49 (zMo _ _ rm en ej) := g3
    have k3 : ∀ q, q ≠ 49 → w3 q = w0 q := fun q hq => by rw [e3, zup_ne hq]; exact k2 q hq
    refine zV.run kX4_order 2 rfl ?_
    refine zV.cv kX4_order rfl lX4_74 (n_span E (h.2.1.k (k3 _ (by decide)) (k3 _ (by decide))) g3 hm hd hd2 hY) (by decide) rfl (g3') rfl rfl rfl (Nat.le_of_ble_eq_true rfl) ?_
    rintro _ _ ⟨rfl, rfl⟩
    refine zV.run kX4_order 3 rfl ?_
    refine zV.cv kX4_order rfl lX4_90 (n_step E (h.2.1.k (k3 _ (by decide)) (k3 _ (by decide))) g3 hm hd hd2 hY) (by decide) rfl (g3') rfl rfl rfl (Nat.le_of_ble_eq_true rfl) ?_
    rintro _ w4 ⟨rfl, e4⟩
    have g4 := zIs.s (w := w3) (a := 49) (c := zMo (lN ((stp (σ.1 m) (σ.2 m) d Y).toNat / Nat.gcd (stp (σ.1 m) (σ.2 m) d Y).toNat d)) (lN (d / Nat.gcd (stp (σ.1 m) (σ.2 m) d Y).toNat d)) rm en ej) (by decide)
    rw [← e4] at g4
    have k4 : ∀ q, q ≠ 49 → w4 q = w0 q := fun q hq => by rw [e4, zup_ne hq]; exact k3 q hq
    have hc4 := h.2.1.k (k4 50 (by decide)) (k4 51 (by decide))
    refine zV.run kX4_order 1 rfl ?_
    refine zV.gf kX4_order rfl fX4_67 (g4) rfl ?_
    refine zV.run kX4_order 2 rfl ?_
    refine zV.gf kX4_order rfl fX4_71 (g4) rfl ?_
    refine zV.run kX4_order 3 rfl ?_
    refine zV.ic2 kX4_order rfl (fun c1 => ?_) (fun c1 => ?_)
    · skip
      have c1 := (nI_eq (by omega) (by omega)).mp c1
      refine zV.run kX4_order 3 rfl ?_
      refine zV.cv kX4_order rfl lX4_57 (n_slopeOf E g4 hc4 hm sp1) (by decide) rfl (g4) rfl rfl rfl (Nat.le_of_ble_eq_true rfl) ?_
      rintro _ _ ⟨rfl, rfl⟩
      refine zV.if2 kX4_order rfl (fun c2 => ?_) (fun c2 => ?_)
      · skip
        have c2 : ¬ sl (σ.2 m) (spn (σ.1 m) X b) = 0 := fun q => c2 (by rw [q]; rfl)
        have e : two (σ.1 m) (σ.2 m) b d (r + 1) t X Y = two (σ.1 m) (σ.2 m) b d r (if sl (σ.2 m) (spn (σ.1 m) X b) < 0 then !t else t) (stp (σ.1 m) (σ.2 m) b X) (stp (σ.1 m) (σ.2 m) d Y) := by
          show (if spn (σ.1 m) X b = spn (σ.1 m) Y d then _ else _) = _
          rw [if_pos c1, if_neg c2]
        rw [e]
        refine zV.run kX4_order 3 rfl ?_
        refine zV.cv kX4_order rfl lX4_57 (n_slopeOf E g4 hc4 hm sp1) (by decide) rfl (g4) rfl rfl rfl (Nat.le_of_ble_eq_true rfl) ?_
        rintro _ _ ⟨rfl, rfl⟩
        refine zV.if2 kX4_order rfl (fun c3 => ?_) (fun c3 => ?_)
        · skip
          have c3 := (iI_le (a := 0) (b := sl (σ.2 m) (spn (σ.1 m) X b)) (by omega) (by omega) (by omega) (by omega)).mp c3
          rw [if_neg (show ¬ sl (σ.2 m) (spn (σ.1 m) X b) < 0 by omega)]
          cases t with
          | false =>
            refine zV.run kX4_order 2 rfl ?_
            refine zV.ict kX4_order (cd := .eq) rfl (rfl) ?_
            refine zV.run kX4_order 4 rfl ?_
            rw [nI_1]
            exact nx w4 false _ _ ⟨_, _, g4⟩ k4
          | true =>
            refine zV.run kX4_order 2 rfl ?_
            refine zV.icf kX4_order (cd := .eq) rfl (show ¬ (0 : Int32) = zq (true = true) by decide) ?_
            refine zV.run kX4_order 5 rfl ?_
            rw [nI_1]
            exact nx w4 true _ _ ⟨_, _, g4⟩ k4
        · skip
          have c3 := mt (iI_le (a := 0) (b := sl (σ.2 m) (spn (σ.1 m) X b)) (by omega) (by omega) (by omega) (by omega)).mpr c3
          rw [if_pos (show sl (σ.2 m) (spn (σ.1 m) X b) < 0 by omega)]
          cases t with
          | false =>
            refine zV.run kX4_order 3 rfl ?_
            refine zV.icf kX4_order (cd := .eq) rfl (show ¬ (1 : Int32) = zq (false = true) by decide) ?_
            refine zV.run kX4_order 5 rfl ?_
            rw [nI_1]
            exact nx w4 true _ _ ⟨_, _, g4⟩ k4
          | true =>
            refine zV.run kX4_order 3 rfl ?_
            refine zV.ict kX4_order (cd := .eq) rfl (rfl) ?_
            refine zV.run kX4_order 4 rfl ?_
            rw [nI_1]
            exact nx w4 false _ _ ⟨_, _, g4⟩ k4
      · skip
        have c2 := (iI_eq (a := sl (σ.2 m) (spn (σ.1 m) X b)) (b := 0) (by omega) (by omega) (by omega) (by omega)).mp (Decidable.not_not.mp c2)
        have e : two (σ.1 m) (σ.2 m) b d (r + 1) t X Y = 0 := by
          show (if spn (σ.1 m) X b = spn (σ.1 m) Y d then _ else _) = _
          rw [if_pos c1, if_pos c2]
        rw [e]
        refine zV.run kX4_order 1 rfl ?_
        exact zV.iret kX4_order rfl rfl (⟨rfl, h.at49 g4 k4, fun a ha => k4 a (by omega)⟩)
    · skip
      have c1 := mt (nI_eq (a := spn (σ.1 m) X b) (b := spn (σ.1 m) Y d) (by omega) (by omega)).mpr c1
      have e : two (σ.1 m) (σ.2 m) b d (r + 1) t X Y = if decide (spn (σ.1 m) X b < spn (σ.1 m) Y d) = t then 1 else -1 := by
        show (if spn (σ.1 m) X b = spn (σ.1 m) Y d then _ else _) = _
        rw [if_neg c1]
      rw [e]
      refine zV.run kX4_order 2 rfl ?_
      refine zV.ic2 kX4_order rfl (fun c2 => ?_) (fun c2 => ?_)
      · skip
        have c2 := (nI_leI (by omega) (by omega)).mp c2
        have e2 : decide (spn (σ.1 m) X b < spn (σ.1 m) Y d) = false := decide_eq_false (by omega)
        rw [e2]
        cases t with
        | false =>
          refine zV.run kX4_order 2 rfl ?_
          refine zV.ict kX4_order (cd := .eq) rfl (rfl) ?_
          refine zV.run kX4_order 1 rfl ?_
          exact zV.iret kX4_order rfl rfl (⟨rfl, h.at49 g4 k4, fun a ha => k4 a (by omega)⟩)
        | true =>
          refine zV.run kX4_order 2 rfl ?_
          refine zV.icf kX4_order (cd := .eq) rfl (show ¬ (0 : Int32) = zq (true = true) by decide) ?_
          refine zV.run kX4_order 2 rfl ?_
          exact zV.iret kX4_order rfl rfl (⟨rfl, h.at49 g4 k4, fun a ha => k4 a (by omega)⟩)
      · skip
        have c2 := mt (nI_leI (a := spn (σ.1 m) Y d) (b := spn (σ.1 m) X b) (by omega) (by omega)).mpr c2
        have e2 : decide (spn (σ.1 m) X b < spn (σ.1 m) Y d) = true := decide_eq_true (by omega)
        rw [e2]
        cases t with
        | false =>
          refine zV.run kX4_order 3 rfl ?_
          refine zV.icf kX4_order (cd := .eq) rfl (show ¬ (1 : Int32) = zq (false = true) by decide) ?_
          refine zV.run kX4_order 2 rfl ?_
          exact zV.iret kX4_order rfl rfl (⟨rfl, h.at49 g4 k4, fun a ha => k4 a (by omega)⟩)
        | true =>
          refine zV.run kX4_order 3 rfl ?_
          refine zV.ict kX4_order (cd := .eq) rfl (rfl) ?_
          refine zV.run kX4_order 1 rfl ?_
          exact zV.iret kX4_order rfl rfl (⟨rfl, h.at49 g4 k4, fun a ha => k4 a (by omega)⟩)
theorem n_order (E : zE) {w : zWd} {σ : zSt} (h : zMs w σ) (m : Int32) (a b a2 b2 : Int64) (k : Int32) : zOk E mX4_order 3 [.ref 49, .int m, .long a, .long b, .long a2, .long b2, .int k] w (zPm w (.int (if okM m ∧ okP (σ.1 m.toInt.toNat) a b ∧ okP (σ.1 m.toInt.toNat) a2 b2 ∧ (0 ≤ k.toInt ∧ k.toInt ≤ 1000) then iI (two (σ.1 m.toInt.toNat) (σ.2 m.toInt.toNat) b.toInt b2.toInt k.toInt.toNat false a.toInt a2.toInt) else -2)) σ) := by
  obtain ⟨⟨ab, be, rm, en, ej, h0⟩, hc, hx⟩ := id h
  refine zOk.of (by decide +kernel) (Nat.le_of_ble_eq_true rfl) ?_
  refine zV.run kX4_order 4 rfl ?_
  refine zV.cv kX4_order rfl lX4_82 (n_isPoint E h0 hc m a b) (by decide) rfl (h0) rfl rfl rfl (Nat.le_of_ble_eq_true rfl) ?_
  rintro _ _ ⟨rfl, rfl⟩
  refine zV.if2 kX4_order rfl (fun c => ?_) (fun c => ?_)
  · skip
    have c := zq_eq0.mp c
    rw [if_neg (fun q => c ⟨q.1, q.2.1⟩)]
    refine zV.run kX4_order 1 rfl ?_
    exact zV.iret kX4_order rfl rfl (⟨rfl, h, fun _ _ => rfl⟩)
  · skip
    have c := Decidable.not_not.mp (mt zq_eq0.mpr c)
    refine zV.run kX4_order 4 rfl ?_
    refine zV.cv kX4_order rfl lX4_82 (n_isPoint E h0 hc m a2 b2) (by decide) rfl (h0) rfl rfl rfl (Nat.le_of_ble_eq_true rfl) ?_
    rintro _ _ ⟨rfl, rfl⟩
    refine zV.if2 kX4_order rfl (fun c0 => ?_) (fun c0 => ?_)
    · skip
      have c0 := zq_eq0.mp c0
      rw [if_neg (fun q => c0 ⟨q.1, q.2.2.1⟩)]
      refine zV.run kX4_order 1 rfl ?_
      exact zV.iret kX4_order rfl rfl (⟨rfl, h, fun _ _ => rfl⟩)
    · skip
      have c0 := Decidable.not_not.mp (mt zq_eq0.mpr c0)
      refine zV.run kX4_order 3 rfl ?_
      refine zV.ldc2 kX4_order rfl qX4_86 ?_
      refine zV.cs kX4_order rfl lX4_47 (n_in E w k.toInt64 0 1000) (by decide) rfl rfl (Nat.le_of_ble_eq_true rfl) ?_
      rintro _ _ ⟨rfl, rfl⟩
      rw [zq_c inK]
      refine zV.if2 kX4_order rfl (fun c2 => ?_) (fun c2 => ?_)
      · skip
        have c2 : 0 ≤ k.toInt ∧ k.toInt ≤ 1000 := Decidable.not_not.mp (mt zq_eq0.mpr c2)
        rw [if_pos ⟨c.1, c.2, c0.2, c2⟩]
        obtain ⟨mm, emm⟩ : ∃ mm, mm = m.toInt.toNat := ⟨_, rfl⟩
        have em : m = nI mm := by rw [emm]; exact i32_nI c.1.1
        have hm : mm < 8 := by omega
        obtain ⟨kk, ekk⟩ : ∃ kk, kk = k.toInt.toNat := ⟨_, rfl⟩
        have ek : k = nI kk := by rw [ekk]; exact i32_nI c2.1
        rw [← emm] at c c0 ⊢
        have v5 := (hc.2.2 mm hm).2.1
        obtain ⟨A, eA⟩ : ∃ A : Nat, A = a.toInt.toNat := ⟨_, rfl⟩
        obtain ⟨B, eB⟩ : ∃ B : Nat, B = b.toInt.toNat := ⟨_, rfl⟩
        have eA2 : a.toInt = (A : Int) := by omega
        have eB2 : b.toInt = (B : Int) := by omega
        have ea : a = lN A := by rw [lN_lI, ← eA2]; exact i64_lI a
        have eb : b = lN B := by rw [lN_lI, ← eB2]; exact i64_lI b
        obtain ⟨C, eC⟩ : ∃ A : Nat, A = a2.toInt.toNat := ⟨_, rfl⟩
        obtain ⟨D, eD⟩ : ∃ B : Nat, B = b2.toInt.toNat := ⟨_, rfl⟩
        have eC2 : a2.toInt = (C : Int) := by omega
        have eD2 : b2.toInt = (D : Int) := by omega
        have ec : a2 = lN C := by rw [lN_lI, ← eC2]; exact i64_lI a2
        have ed : b2 = lN D := by rw [lN_lI, ← eD2]; exact i64_lI b2
        obtain ⟨c1, cp1, cp2, cp3, cp4⟩ := c
        obtain ⟨c01, cq1, cq2, cq3, cq4⟩ := c0
        rw [eA2, eB2] at cp4
        rw [eC2, eD2] at cq4
        have x5 := bnd5 v5 (show (1 : Int) ≤ B by omega) (by omega) cp4
        have y5 := bnd5 v5 (show (1 : Int) ≤ D by omega) (by omega) cq4
        rw [← ekk, eA2, eB2, eC2, eD2, ea, eb, ec, ed, ek, em]
        refine zV.run kX4_order 12 rfl ?_
        exact n_order_l E h hm (by omega) (by omega) (by omega) (by omega) (lN A) (lN B) (lN C) (lN D) (k := kk) (by omega) kk 0 w false A C A B C D _ _ (by omega) cp4 cq4 ⟨rfl, rfl⟩ ⟨rfl, rfl⟩ (by omega) (by omega) (by omega) (by omega) (by omega) (by omega) ⟨_, _, h0⟩ (fun _ _ => rfl)
      · skip
        have c2 : ¬ (0 ≤ k.toInt ∧ k.toInt ≤ 1000) := zq_eq0.mp (Decidable.not_not.mp c2)
        rw [if_neg (fun q => c2 q.2.2.2)]
        refine zV.run kX4_order 1 rfl ?_
        exact zV.iret kX4_order rfl rfl (⟨rfl, h, fun _ _ => rfl⟩)
end
section
/-! ===== the model: ways ===== -/
def wy (n : Nat) (ld : Nat → Nat) (fr : Nat) : Nat → Nat → Nat
  | 0, j => if j = fr then 1 else 0
  | s + 1, j => sumN n (fun i => wy n ld fr s i * (if cov ld i j = true then 1 else 0))
theorem sumN_c {f g : Nat → Nat} : ∀ n, (∀ i, i < n → f i = g i) → sumN n f = sumN n g
  | 0, _ => rfl
  | n + 1, h => by
    show sumN n f + f n = sumN n g + g n
    rw [sumN_c n (fun i hi => h i (by omega)), h n (by omega)]
theorem sumN_add {f g : Nat → Nat} : ∀ n, sumN n (fun i => f i + g i) = sumN n f + sumN n g
  | 0 => rfl
  | n + 1 => by
    show sumN n _ + (f n + g n) = (sumN n f + f n) + (sumN n g + g n)
    rw [sumN_add n]; omega
theorem sumN_mul {f : Nat → Nat} (c : Nat) : ∀ n, sumN n (fun i => f i * c) = sumN n f * c
  | 0 => by show 0 = 0 * c; rw [Nat.zero_mul]
  | n + 1 => by
    show sumN n _ + f n * c = (sumN n f + f n) * c
    rw [sumN_mul c n, Nat.add_mul]
theorem sumN_zero : ∀ n, sumN n (fun _ => 0) = 0
  | 0 => rfl
  | n + 1 => by show sumN n _ + 0 = 0; rw [sumN_zero n]
theorem sumN_swap {f : Nat → Nat → Nat} (m : Nat) : ∀ n, sumN n (fun i => sumN m (fun j => f i j)) = sumN m (fun j => sumN n (fun i => f i j))
  | 0 => by show 0 = _; rw [show (fun j => sumN 0 (fun i => f i j)) = (fun _ => 0) from rfl, sumN_zero]
  | n + 1 => by
    show sumN n _ + sumN m (fun j => f n j) = sumN m (fun j => sumN n (fun i => f i j) + f n j)
    rw [sumN_swap m n, sumN_add]
theorem sumN_one {c : Nat} {f : Nat → Nat} : ∀ n, c < n → sumN n (fun i => if i = c then f i else 0) = f c
  | 0, h => by omega
  | n + 1, h => by
    show sumN n _ + (if n = c then f n else 0) = f c
    by_cases e : n = c
    · subst e
      rw [if_pos rfl, sumN_c (g := fun _ => 0) n (fun i hi => if_neg (by omega)), sumN_zero]
      omega
    · rw [if_neg e, sumN_one n (by omega)]
      omega
/-- the power's other recursion -/
theorem tp_r (n : Nat) (ld : Nat → Nat) : ∀ (k i j : Nat), i < n → j < n → tp n ld (k + 1) i j = sumN n (fun b => tp n ld k i b * (if cov ld b j = true then 1 else 0))
  | 0, i, j, hi, hj => by
    have h1 : tp n ld 1 i j = if cov ld i j = true then 1 else 0 := by
      show sumN n (fun b => if cov ld i b = true then (if b = j then 1 else 0) else 0) = _
      rw [sumN_c (g := fun b => if b = j then (if cov ld i b = true then 1 else 0) else 0) n (fun b _ => by
          by_cases e1 : b = j <;> by_cases e2 : cov ld i b = true <;> simp [e1, e2]), sumN_one n hj]
    have h2 : sumN n (fun b => tp n ld 0 i b * (if cov ld b j = true then 1 else 0)) = if cov ld i j = true then 1 else 0 := by
      rw [sumN_c (g := fun b => if b = i then (if cov ld b j = true then 1 else 0) else 0) n (fun b _ => by
        show (if i = b then 1 else 0) * _ = _
        by_cases e : b = i
        · rw [if_pos e.symm, if_pos e, Nat.one_mul]
        · rw [if_neg (fun q => e q.symm), if_neg e, Nat.zero_mul]), sumN_one n hi]
    rw [h1, h2]
  | k + 1, i, j, hi, hj => by
    show sumN n (fun b => if cov ld i b = true then tp n ld (k + 1) b j else 0) = _
    rw [sumN_c (g := fun b => sumN n (fun c => (if cov ld i b = true then tp n ld k b c else 0) * (if cov ld c j = true then 1 else 0))) n (fun b hb => by
      show (if cov ld i b = true then tp n ld (k + 1) b j else 0) = sumN n (fun c => (if cov ld i b = true then tp n ld k b c else 0) * (if cov ld c j = true then 1 else 0))
      by_cases e : cov ld i b = true
      · rw [if_pos e, tp_r n ld k b j hb hj]
        exact sumN_c n (fun c _ => by rw [if_pos e])
      · rw [if_neg e, sumN_c (g := fun _ => 0) n (fun c _ => by rw [if_neg e, Nat.zero_mul]), sumN_zero]), sumN_swap]
    exact sumN_c n (fun c _ => by
      show sumN n (fun b => (if cov ld i b = true then tp n ld k b c else 0) * (if cov ld c j = true then 1 else 0)) = _
      rw [sumN_mul]
      rfl)
theorem wy_tp (n : Nat) (ld : Nat → Nat) {fr : Nat} (hf : fr < n) : ∀ (k j : Nat), j < n → wy n ld fr k j = tp n ld k fr j
  | 0, j, hj => by
    show (if j = fr then 1 else 0) = (if fr = j then 1 else 0)
    by_cases e : j = fr
    · rw [if_pos e, if_pos e.symm]
    · rw [if_neg e, if_neg (fun q => e q.symm)]
  | k + 1, j, hj => by
    rw [tp_r n ld k fr j hf hj]
    exact sumN_c n (fun i hi => by rw [wy_tp n ld hf k i hi])
theorem zq_l {p : Prop} [Decidable p] : (zq p).toInt64 = lN (if p then 1 else 0) := by
  by_cases h : p
  · rw [zq_t h, if_pos h]; rfl
  · rw [zq_f h, if_neg h]; rfl
/-- of the model's cells only 57, 58 change -/
def zFw (w w' : zWd) : Prop := ∀ a, a ≠ 57 → a ≠ 58 → w' a = w a
theorem n_fw_3 (E : zE) {w0 : zWd} {σ : zSt} {ab be : Int64} {rm en ej : Int32} {Post : Option Value → zWd → Prop} (h00 : zIs w0 49 (zMo ab be rm en ej)) (hc0 : zMc w0 σ) {m j : Nat} (hm : m < 8) (hj : j < σ.1 m) (M : Nat → Nat) (vk : Int32) {s fr : Nat} {nx0 : Nat → Int64}
    (kk : ∀ (w : zWd) (mn nx : Nat → Int64) (z6 : Value), zIs w 57 (zLA 6 mn) → zIs w 58 (zLA 6 nx) → (∀ i, i < σ.1 m → mn i = lN (M i)) → nx j = lN (sumN (σ.1 m) (fun i => M i * (if cov (σ.2 m) i j = true then 1 else 0))) → (∀ i, i ≠ j → nx i = nx0 i) → zFw w0 w → zV E mX4_findWays 1 Post 113 [.ref 49, .int (nI m), .int (nI fr), .int vk, .int (nI s), .int (nI j), z6] [] w) :
    ∀ (r i : Nat) (w : zWd) (mn nx : Nat → Int64), i + r = σ.1 m → zIs w 57 (zLA 6 mn) → zIs w 58 (zLA 6 nx) → (∀ i, i < σ.1 m → mn i = lN (M i)) → nx j = lN (sumN i (fun i => M i * (if cov (σ.2 m) i j = true then 1 else 0))) → (∀ i, i ≠ j → nx i = nx0 i) → zFw w0 w → zV E mX4_findWays 1 Post 68 [.ref 49, .int (nI m), .int (nI fr), .int vk, .int (nI s), .int (nI j), .int (nI i)] [] w := by
  obtain ⟨⟨sz, a1, a2⟩, -, hv⟩ := id hc0
  obtain ⟨v1, v5, vl⟩ := hv m hm
  intro r
  induction r with
  | zero =>
    intro i w mn nx hi hmn hnx e1 e2 e3 hw
    have h0 := h00.k (hw 49 (by decide) (by decide))
    have e : i = σ.1 m := by omega
    subst e
    refine zV.run kX4_findWays 2 rfl ?_
    refine zV.gf kX4_findWays rfl fX4_7 (h0) rfl ?_
    refine zV.run kX4_findWays 1 rfl ?_
    refine zV.ial kX4_findWays rfl (a1.k (hw 50 (by decide) (by decide))) (m) (rfl) (hm) (by decide) ?_
    rw [a2 m hm]
    refine zV.ict kX4_findWays (cd := .ge) rfl (Int32.le_refl _) ?_
    exact kk w mn nx _ hmn hnx e1 e2 e3 hw
  | succ r ih =>
    intro i w mn nx hi hmn hnx e1 e2 e3 hw
    have h0 := h00.k (hw 49 (by decide) (by decide))
    have hc := hc0.k (hw 50 (by decide) (by decide)) (hw 51 (by decide) (by decide))
    refine zV.run kX4_findWays 2 rfl ?_
    refine zV.gf kX4_findWays rfl fX4_7 (h0) rfl ?_
    refine zV.run kX4_findWays 1 rfl ?_
    refine zV.ial kX4_findWays rfl (a1.k (hw 50 (by decide) (by decide))) (m) (rfl) (hm) (by decide) ?_
    rw [a2 m hm]
    refine zV.icf kX4_findWays (cd := .ge) rfl (nI_ge (by omega) (by omega)) ?_
    refine zV.run kX4_findWays 1 rfl ?_
    refine zV.gf kX4_findWays rfl fX4_36 (h0) rfl ?_
    refine zV.run kX4_findWays 2 rfl ?_
    refine zV.lal kX4_findWays rfl (hnx) (j) (rfl) (by omega) (by decide) ?_
    refine zV.run kX4_findWays 1 rfl ?_
    refine zV.gf kX4_findWays rfl fX4_33 (h0) rfl ?_
    refine zV.run kX4_findWays 1 rfl ?_
    refine zV.lal kX4_findWays rfl (hmn) (i) (rfl) (by omega) (by decide) ?_
    refine zV.run kX4_findWays 4 rfl ?_
    refine zV.cv kX4_findWays rfl lX4_104 (n_covers E h0 hc hm (i := i) (j := j) (by omega) (by omega)) (by decide) rfl (h0) rfl rfl rfl (Nat.le_of_ble_eq_true rfl) ?_
    rintro _ _ ⟨rfl, rfl⟩
    refine zV.run kX4_findWays 3 rfl ?_
    rw [e2, e1 i (by omega), zq_l, lN_mul, lN_add]
    refine zV.las kX4_findWays rfl (hnx) (j) (rfl) (by omega) (by decide) ?_
    refine zV.run kX4_findWays 2 rfl ?_
    rw [nI_1]
    exact ih (i + 1) _ mn _ (by omega) (hmn.n (by decide)) (zIs.s hnx.1) e1 (by rw [pk_uLs]; rfl) (fun q hq => by rw [pk_uLn hq]; exact e3 q hq) (fun a q1 q2 => by rw [zup_ne q2]; exact hw a q1 q2)
theorem n_fw_2 (E : zE) {w0 : zWd} {σ : zSt} {ab be : Int64} {rm en ej : Int32} {Post : Option Value → zWd → Prop} (h00 : zIs w0 49 (zMo ab be rm en ej)) (hc0 : zMc w0 σ) {m : Nat} (hm : m < 8) (M : Nat → Nat) (vk : Int32) {s fr : Nat}
    (kk : ∀ (w : zWd) (mn nx : Nat → Int64) (z5 z6 : Value), zIs w 57 (zLA 6 mn) → zIs w 58 (zLA 6 nx) → (∀ i, i < σ.1 m → nx i = lN (sumN (σ.1 m) (fun q => M q * (if cov (σ.2 m) q i = true then 1 else 0)))) → zFw w0 w → zV E mX4_findWays 1 Post 119 [.ref 49, .int (nI m), .int (nI fr), .int vk, .int (nI s), z5, z6] [] w) :
    ∀ (r j : Nat) (w : zWd) (mn nx : Nat → Int64) (z6 : Value), j + r = σ.1 m → zIs w 57 (zLA 6 mn) → zIs w 58 (zLA 6 nx) → (∀ i, i < σ.1 m → mn i = lN (M i)) → (∀ i, i < j → nx i = lN (sumN (σ.1 m) (fun q => M q * (if cov (σ.2 m) q i = true then 1 else 0)))) → zFw w0 w → zV E mX4_findWays 1 Post 46 [.ref 49, .int (nI m), .int (nI fr), .int vk, .int (nI s), .int (nI j), z6] [] w := by
  obtain ⟨⟨sz, a1, a2⟩, -, hv⟩ := id hc0
  obtain ⟨v1, v5, vl⟩ := hv m hm
  intro r
  induction r with
  | zero =>
    intro j w mn nx z6 hj hmn hnx e1 e2 hw
    have h0 := h00.k (hw 49 (by decide) (by decide))
    have e : j = σ.1 m := by omega
    subst e
    refine zV.run kX4_findWays 2 rfl ?_
    refine zV.gf kX4_findWays rfl fX4_7 (h0) rfl ?_
    refine zV.run kX4_findWays 1 rfl ?_
    refine zV.ial kX4_findWays rfl (a1.k (hw 50 (by decide) (by decide))) (m) (rfl) (hm) (by decide) ?_
    rw [a2 m hm]
    refine zV.ict kX4_findWays (cd := .ge) rfl (Int32.le_refl _) ?_
    exact kk w mn nx _ _ hmn hnx e2 hw
  | succ r ih =>
    intro j w mn nx z6 hj hmn hnx e1 e2 hw
    have h0 := h00.k (hw 49 (by decide) (by decide))
    refine zV.run kX4_findWays 2 rfl ?_
    refine zV.gf kX4_findWays rfl fX4_7 (h0) rfl ?_
    refine zV.run kX4_findWays 1 rfl ?_
    refine zV.ial kX4_findWays rfl (a1.k (hw 50 (by decide) (by decide))) (m) (rfl) (hm) (by decide) ?_
    rw [a2 m hm]
    refine zV.icf kX4_findWays (cd := .ge) rfl (nI_ge (by omega) (by omega)) ?_
    refine zV.run kX4_findWays 1 rfl ?_
    refine zV.gf kX4_findWays rfl fX4_36 (h0) rfl ?_
    refine zV.run kX4_findWays 2 rfl ?_
    refine zV.las kX4_findWays rfl (hnx) (j) (rfl) (by omega) (by decide) ?_
    refine zV.run kX4_findWays 2 rfl ?_
    refine n_fw_3 E h00 hc0 hm (j := j) (by omega) M vk (nx0 := nx) (fun w2 mn2 nx2 y6 q1 q2 q3 q4 q5 q6 => ?_) (σ.1 m) 0 _ mn _ (by omega) (hmn.n (by decide)) (zIs.s hnx.1) e1 (by rw [pk_uLs]; rfl) (fun q hq => pk_uLn hq) (fun a q1 q2 => by rw [zup_ne q2]; exact hw a q1 q2)
    refine zV.run kX4_findWays 2 rfl ?_
    rw [nI_1]
    refine ih (j + 1) w2 mn2 nx2 _ (by omega) q1 q2 q3 (fun i hi => ?_) q6
    by_cases e : i = j
    · rw [e]; exact q4
    · rw [q5 i e]; exact e2 i (by omega)
theorem n_fw_2b (E : zE) {w0 : zWd} {σ : zSt} {ab be : Int64} {rm en ej : Int32} {Post : Option Value → zWd → Prop} (h00 : zIs w0 49 (zMo ab be rm en ej)) (hc0 : zMc w0 σ) {m : Nat} (hm : m < 8) (M : Nat → Nat) (vk : Int32) {s fr : Nat}
    (kk : ∀ (w : zWd) (mn nx : Nat → Int64) (z5 z6 : Value), zIs w 57 (zLA 6 mn) → zIs w 58 (zLA 6 nx) → (∀ i, i < σ.1 m → mn i = lN (M i)) → zFw w0 w → zV E mX4_findWays 1 Post 153 [.ref 49, .int (nI m), .int (nI fr), .int vk, .int (nI s), z5, z6] [] w) :
    ∀ (r j : Nat) (w : zWd) (mn nx : Nat → Int64) (z6 : Value), j + r = σ.1 m → zIs w 57 (zLA 6 mn) → zIs w 58 (zLA 6 nx) → (∀ i, i < σ.1 m → nx i = lN (M i)) → (∀ i, i < j → mn i = lN (M i)) → zFw w0 w → zV E mX4_findWays 1 Post 122 [.ref 49, .int (nI m), .int (nI fr), .int vk, .int (nI s), .int (nI j), z6] [] w := by
  obtain ⟨⟨sz, a1, a2⟩, -, hv⟩ := id hc0
  obtain ⟨v1, v5, vl⟩ := hv m hm
  intro r
  induction r with
  | zero =>
    intro j w mn nx z6 hj hmn hnx e1 e2 hw
    have h0 := h00.k (hw 49 (by decide) (by decide))
    have e : j = σ.1 m := by omega
    subst e
    refine zV.run kX4_findWays 2 rfl ?_
    refine zV.gf kX4_findWays rfl fX4_7 (h0) rfl ?_
    refine zV.run kX4_findWays 1 rfl ?_
    refine zV.ial kX4_findWays rfl (a1.k (hw 50 (by decide) (by decide))) (m) (rfl) (hm) (by decide) ?_
    rw [a2 m hm]
    refine zV.ict kX4_findWays (cd := .ge) rfl (Int32.le_refl _) ?_
    exact kk w mn nx _ _ hmn hnx e2 hw
  | succ r ih =>
    intro j w mn nx z6 hj hmn hnx e1 e2 hw
    have h0 := h00.k (hw 49 (by decide) (by decide))
    refine zV.run kX4_findWays 2 rfl ?_
    refine zV.gf kX4_findWays rfl fX4_7 (h0) rfl ?_
    refine zV.run kX4_findWays 1 rfl ?_
    refine zV.ial kX4_findWays rfl (a1.k (hw 50 (by decide) (by decide))) (m) (rfl) (hm) (by decide) ?_
    rw [a2 m hm]
    refine zV.icf kX4_findWays (cd := .ge) rfl (nI_ge (by omega) (by omega)) ?_
    refine zV.run kX4_findWays 1 rfl ?_
    refine zV.gf kX4_findWays rfl fX4_33 (h0) rfl ?_
    refine zV.run kX4_findWays 2 rfl ?_
    refine zV.gf kX4_findWays rfl fX4_36 (h0) rfl ?_
    refine zV.run kX4_findWays 1 rfl ?_
    refine zV.lal kX4_findWays rfl (hnx) (j) (rfl) (by omega) (by decide) ?_
    refine zV.las kX4_findWays rfl (hmn) (j) (rfl) (by omega) (by decide) ?_
    refine zV.run kX4_findWays 2 rfl ?_
    rw [nI_1]
    refine ih (j + 1) _ _ nx _ (by omega) (zIs.s hmn.1) (hnx.n (by decide)) e1 (fun i hi => ?_) (fun a q1 q2 => by rw [zup_ne q1]; exact hw a q1 q2)
    by_cases e : i = j
    · rw [e, pk_uLs]; exact e1 j (by omega)
    · rw [pk_uLn e]; exact e2 i (by omega)
theorem n_fw_1 (E : zE) {w0 : zWd} {σ : zSt} {ab be : Int64} {rm en ej : Int32} (h00 : zIs w0 49 (zMo ab be rm en ej)) (hc0 : zMc w0 σ) {m fr k : Nat} (hm : m < 8) (hk : k ≤ 10) :
    ∀ (r s : Nat) (w : zWd) (mn nx : Nat → Int64) (z5 z6 : Value), s + r = k → zIs w 57 (zLA 6 mn) → zIs w 58 (zLA 6 nx) → (∀ i, i < σ.1 m → mn i = lN (wy (σ.1 m) (σ.2 m) fr s i)) → zFw w0 w → zV E mX4_findWays 1 (fun r' w' => r' = none ∧ zFw w0 w' ∧ (∃ nx, zIs w' 58 (zLA 6 nx)) ∧ ∃ mn, zIs w' 57 (zLA 6 mn) ∧ ∀ i, i < σ.1 m → mn i = lN (wy (σ.1 m) (σ.2 m) fr k i)) 37 [.ref 49, .int (nI m), .int (nI fr), .int (nI k), .int (nI s), z5, z6] [] w := by
  intro r
  induction r with
  | zero =>
    intro s w mn nx z5 z6 hs hmn hnx e1 hw
    have e : s = k := by omega
    subst e
    refine zV.run kX4_findWays 2 rfl ?_
    refine zV.ict kX4_findWays (cd := .ge) rfl (Int32.le_refl _) ?_
    exact zV.vret kX4_findWays rfl rfl (⟨rfl, hw, ⟨nx, hnx⟩, mn, hmn, e1⟩)
  | succ r ih =>
    intro s w mn nx z5 z6 hs hmn hnx e1 hw
    refine zV.run kX4_findWays 2 rfl ?_
    refine zV.icf kX4_findWays (cd := .ge) rfl (nI_ge (by omega) (by omega)) ?_
    refine zV.run kX4_findWays 2 rfl ?_
    refine n_fw_2 E h00 hc0 hm (wy (σ.1 m) (σ.2 m) fr s) (nI k) (fun w2 mn2 nx2 y5 y6 q1 q2 q3 q4 => ?_) (σ.1 m) 0 w mn nx _ (by omega) hmn hnx e1 (fun i hi => by omega) hw
    refine zV.run kX4_findWays 2 rfl ?_
    refine n_fw_2b E h00 hc0 hm (wy (σ.1 m) (σ.2 m) fr (s + 1)) (nI k) (fun w3 mn3 nx3 y5 y6 p1 p2 p3 p4 => ?_) (σ.1 m) 0 w2 mn2 nx2 _ (by omega) q1 q2 q3 (fun i hi => by omega) q4
    refine zV.run kX4_findWays 2 rfl ?_
    rw [nI_1]
    exact ih (s + 1) w3 mn3 nx3 _ _ (by omega) p1 p2 p3 p4
theorem n_fw_0 (E : zE) {w0 : zWd} {σ : zSt} {ab be : Int64} {rm en ej : Int32} (h00 : zIs w0 49 (zMo ab be rm en ej)) (hc0 : zMc w0 σ) {m fr k : Nat} (hm : m < 8) (hk : k ≤ 10) (hfr : fr < 100) {nx : Nat → Int64} (hnx0 : zIs w0 58 (zLA 6 nx)) :
    ∀ (r j : Nat) (w : zWd) (mn : Nat → Int64), j + r = 6 → zIs w 57 (zLA 6 mn) → (∀ i, i < j → mn i = lN (if i = fr then 1 else 0)) → (∀ a, a ≠ 57 → w a = w0 a) → zV E mX4_findWays 1 (fun r' w' => r' = none ∧ zFw w0 w' ∧ (∃ nx, zIs w' 58 (zLA 6 nx)) ∧ ∃ mn, zIs w' 57 (zLA 6 mn) ∧ ∀ i, i < σ.1 m → mn i = lN (wy (σ.1 m) (σ.2 m) fr k i)) 3 [.ref 49, .int (nI m), .int (nI fr), .int (nI k), .int (nI j), zU, zU] [] w := by
  obtain ⟨v1, v5, vl⟩ := hc0.2.2 m hm
  intro r
  induction r with
  | zero =>
    intro j w mn hj hmn e1 hw
    have e : j = 6 := by omega
    subst e
    refine zV.run kX4_findWays 2 rfl ?_
    refine zV.ict kX4_findWays (cd := .ge) rfl (Int32.le_refl _) ?_
    refine zV.run kX4_findWays 2 rfl ?_
    exact n_fw_1 E h00 hc0 hm hk k 0 w mn nx _ _ (by omega) hmn (hnx0.k (hw 58 (by decide))) (fun i hi => e1 i (by omega)) (fun a q1 _ => hw a q1)
  | succ r ih =>
    intro j w mn hj hmn e1 hw
    have h0 := h00.k (hw 49 (by decide))
    have nxt : ∀ x : Int64, x = lN (if j = fr then 1 else 0) → zV E mX4_findWays 1 (fun r' w' => r' = none ∧ zFw w0 w' ∧ (∃ nx, zIs w' 58 (zLA 6 nx)) ∧ ∃ mn, zIs w' 57 (zLA 6 mn) ∧ ∀ i, i < σ.1 m → mn i = lN (wy (σ.1 m) (σ.2 m) fr k i)) 3 [.ref 49, .int (nI m), .int (nI fr), .int (nI k), .int (nI (j + 1)), zU, zU] [] (va_up w 57 (zLA 6 (vp_updL mn j x))) := by
      intro x hx
      refine ih (j + 1) _ _ (by omega) (zIs.s hmn.1) (fun i hi => ?_) (fun a q1 => by rw [zup_ne q1]; exact hw a q1)
      by_cases e : i = j
      · rw [e, pk_uLs, hx]
      · rw [pk_uLn e]; exact e1 i (by omega)
    refine zV.run kX4_findWays 2 rfl ?_
    refine zV.icf kX4_findWays (cd := .ge) rfl (fun q => absurd ((nI_leI (a := 6) (b := j) (by omega) (by omega)).mp q) (by omega)) ?_
    refine zV.run kX4_findWays 1 rfl ?_
    refine zV.gf kX4_findWays rfl fX4_33 (h0) rfl ?_
    refine zV.run kX4_findWays 3 rfl ?_
    refine zV.ic2 kX4_findWays rfl (fun c => ?_) (fun c => ?_)
    · skip
      have c := mt (nI_eq (a := j) (b := fr) (by omega) (by omega)).mpr c
      refine zV.run kX4_findWays 1 rfl ?_
      refine zV.las kX4_findWays rfl (hmn) (j) (rfl) (by omega) (by decide) ?_
      refine zV.run kX4_findWays 2 rfl ?_
      rw [nI_1]
      exact nxt 0 (by rw [if_neg c]; rfl)
    · skip
      have c := (nI_eq (by omega) (by omega)).mp (Decidable.not_not.mp c)
      refine zV.run kX4_findWays 2 rfl ?_
      refine zV.las kX4_findWays rfl (hmn) (j) (rfl) (by omega) (by decide) ?_
      refine zV.run kX4_findWays 2 rfl ?_
      rw [nI_1]
      exact nxt 1 (by rw [if_pos c]; rfl)
theorem n_findWays (E : zE) {w : zWd} {σ : zSt} {ab be : Int64} {rm en ej : Int32} (h0 : zIs w 49 (zMo ab be rm en ej)) (hc : zMc w σ) (hx : zMx w) {m fr k : Nat} (hm : m < 8) (hk : k ≤ 10) (hfr : fr < 100) : zOk E mX4_findWays 1 [.ref 49, .int (nI m), .int (nI fr), .int (nI k)] w (fun r' w' => r' = none ∧ zFw w w' ∧ (∃ nx, zIs w' 58 (zLA 6 nx)) ∧ ∃ mn, zIs w' 57 (zLA 6 mn) ∧ ∀ i, i < σ.1 m → mn i = lN (wy (σ.1 m) (σ.2 m) fr k i)) := by
  obtain ⟨mn, hmn⟩ := hx.2.2.2.2.2.1
  obtain ⟨nx, hnx⟩ := hx.2.2.2.2.2.2.1
  refine zOk.of (by decide +kernel) (Nat.le_of_ble_eq_true rfl) ?_
  refine zV.run kX4_findWays 2 rfl ?_
  exact n_fw_0 E h0 hc hm hk hfr hnx 6 0 w mn (by omega) hmn (fun i hi => by omega) (fun _ _ => rfl)
theorem zMs.fw {w w' : zWd} {σ : zSt} (h : zMs w σ) (hw : zFw w w') (h7 : ∃ f, zIs w' 57 (zLA 6 f)) (h8 : ∃ f, zIs w' 58 (zLA 6 f)) : zMs w' σ := by
  obtain ⟨⟨ab, be, rm, en, ej, h0⟩, hc, ⟨⟨f2, x2⟩, ⟨f3, x3⟩, ⟨f4, x4⟩, ⟨f5, x5⟩, ⟨f6, x6⟩, -, -, ⟨f9, x9⟩, ⟨f0, x0⟩⟩⟩ := h
  exact ⟨⟨ab, be, rm, en, ej, h0.k (hw _ (by decide) (by decide))⟩, hc.k (hw _ (by decide) (by decide)) (hw _ (by decide) (by decide)), ⟨f2, x2.k (hw _ (by decide) (by decide))⟩, ⟨f3, x3.k (hw _ (by decide) (by decide))⟩, ⟨f4, x4.k (hw _ (by decide) (by decide))⟩, ⟨f5, x5.k (hw _ (by decide) (by decide))⟩, ⟨f6, x6.k (hw _ (by decide) (by decide))⟩, h7, h8, ⟨f9, x9.k (hw _ (by decide) (by decide))⟩, ⟨f0, x0.k (hw _ (by decide) (by decide))⟩⟩
theorem n_ways (E : zE) {w : zWd} {σ : zSt} (h : zMs w σ) (m i j k : Int32) : zOk E mX4_ways 3 [.ref 49, .int m, .int i, .int j, .int k] w (zPm w (.long (if okM m ∧ (0 ≤ i.toInt ∧ i.toInt < σ.1 m.toInt.toNat) ∧ (0 ≤ j.toInt ∧ j.toInt < σ.1 m.toInt.toNat) ∧ (0 ≤ k.toInt ∧ k.toInt ≤ 10) then lN (tp (σ.1 m.toInt.toNat) (σ.2 m.toInt.toNat) k.toInt.toNat i.toInt.toNat j.toInt.toNat) else -2)) σ) := by
  obtain ⟨⟨ab, be, rm, en, ej, h0⟩, hc, hx⟩ := id h
  refine zOk.of (by decide +kernel) (Nat.le_of_ble_eq_true rfl) ?_
  refine zV.run kX4_ways 3 rfl ?_
  refine zV.cv kX4_ways rfl lX4_100 (n_isSpan E h0 hc m i) (by decide) rfl (h0) rfl rfl rfl (Nat.le_of_ble_eq_true rfl) ?_
  rintro _ _ ⟨rfl, rfl⟩
  refine zV.if2 kX4_ways rfl (fun c => ?_) (fun c => ?_)
  · skip
    have c := zq_eq0.mp c
    rw [if_neg (fun q => c ⟨q.1, q.2.1⟩)]
    refine zV.ldc2 kX4_ways rfl qX4_88 ?_
    exact zV.lret kX4_ways rfl rfl (⟨rfl, h, fun _ _ => rfl⟩)
  · skip
    have c := Decidable.not_not.mp (mt zq_eq0.mpr c)
    refine zV.run kX4_ways 3 rfl ?_
    refine zV.cv kX4_ways rfl lX4_100 (n_isSpan E h0 hc m j) (by decide) rfl (h0) rfl rfl rfl (Nat.le_of_ble_eq_true rfl) ?_
    rintro _ _ ⟨rfl, rfl⟩
    refine zV.if2 kX4_ways rfl (fun c2 => ?_) (fun c2 => ?_)
    · skip
      have c2 := zq_eq0.mp c2
      rw [if_neg (fun q => c2 ⟨q.1, q.2.2.1⟩)]
      refine zV.ldc2 kX4_ways rfl qX4_88 ?_
      exact zV.lret kX4_ways rfl rfl (⟨rfl, h, fun _ _ => rfl⟩)
    · skip
      have c2 := Decidable.not_not.mp (mt zq_eq0.mpr c2)
      refine zV.run kX4_ways 3 rfl ?_
      refine zV.ldc2 kX4_ways rfl qX4_108 ?_
      refine zV.cs kX4_ways rfl lX4_47 (n_in E w k.toInt64 0 10) (by decide) rfl rfl (Nat.le_of_ble_eq_true rfl) ?_
      rintro _ _ ⟨rfl, rfl⟩
      rw [zq_c inK]
      refine zV.if2 kX4_ways rfl (fun c3 => ?_) (fun c3 => ?_)
      · skip
        have c3 : 0 ≤ k.toInt ∧ k.toInt ≤ 10 := Decidable.not_not.mp (mt zq_eq0.mpr c3)
        rw [if_pos ⟨c.1, c.2, c2.2, c3⟩]
        obtain ⟨mm, emm⟩ : ∃ mm, mm = m.toInt.toNat := ⟨_, rfl⟩
        have em : m = nI mm := by rw [emm]; exact i32_nI c.1.1
        have hm : mm < 8 := by omega
        have v5 := (hc.2.2 mm hm).2.1
        obtain ⟨ii, eii⟩ : ∃ ii, ii = i.toInt.toNat := ⟨_, rfl⟩
        have ei : i = nI ii := by rw [eii]; exact i32_nI c.2.1
        obtain ⟨jj, ejj⟩ : ∃ ii, ii = j.toInt.toNat := ⟨_, rfl⟩
        have ej2 : j = nI jj := by rw [ejj]; exact i32_nI c2.2.1
        obtain ⟨kk, ekk⟩ : ∃ ii, ii = k.toInt.toNat := ⟨_, rfl⟩
        have ek : k = nI kk := by rw [ekk]; exact i32_nI c3.1
        rw [← emm] at c c2
        rw [← emm, ← eii, ← ejj, ← ekk, em, ei, ej2, ek]
        refine zV.run kX4_ways 4 rfl ?_
        refine zV.cv kX4_ways rfl lX4_110 (n_findWays E h0 hc hx hm (fr := ii) (k := kk) (by omega) (by omega)) (by decide) rfl (h0) rfl rfl rfl (Nat.le_of_ble_eq_true rfl) ?_
        rintro _ w9 ⟨rfl, hw9, h8, mn, hmn, e1⟩
        refine zV.run kX4_ways 1 rfl ?_
        refine zV.gf kX4_ways rfl fX4_33 (h0.k (hw9 49 (by decide) (by decide))) rfl ?_
        refine zV.run kX4_ways 1 rfl ?_
        refine zV.lal kX4_ways rfl (hmn) (jj) (rfl) (by omega) (by decide) ?_
        rw [e1 jj (by omega), wy_tp _ _ (by omega) _ _ (by omega)]
        exact zV.lret kX4_ways rfl rfl (⟨rfl, h.fw hw9 ⟨mn, hmn⟩ h8, fun a ha => hw9 a (by omega) (by omega)⟩)
      · skip
        have c3 : ¬ (0 ≤ k.toInt ∧ k.toInt ≤ 10) := zq_eq0.mp (Decidable.not_not.mp c3)
        rw [if_neg (fun q => c3 q.2.2.2)]
        refine zV.ldc2 kX4_ways rfl qX4_88 ?_
        exact zV.lret kX4_ways rfl rfl (⟨rfl, h, fun _ _ => rfl⟩)
theorem n_pieces_2 (E : zE) {w : zWd} {σ : zSt} {ab be : Int64} {rm en ej : Int32} {Post : Option Value → zWd → Prop} (h0 : zIs w 49 (zMo ab be rm en ej)) (hc : zMc w σ) {m i : Nat} (hm : m < 8) {mn : Nat → Int64} (hmn : zIs w 57 (zLA 6 mn)) (M : Nat → Nat) (e1 : ∀ i, i < σ.1 m → mn i = lN (M i)) (vk : Int32) (s : Nat)
    (kk : ∀ z6 : Value, zV E mX4_pieces 2 Post 77 [.ref 49, .int (nI m), .int vk, .long (lN (s + sumN (σ.1 m) M)), zU, .int (nI i), z6] [] w) :
    ∀ (r j : Nat), j + r = σ.1 m → zV E mX4_pieces 2 Post 50 [.ref 49, .int (nI m), .int vk, .long (lN (s + sumN j M)), zU, .int (nI i), .int (nI j)] [] w := by
  obtain ⟨⟨sz, a1, a2⟩, -, hv⟩ := id hc
  obtain ⟨v1, v5, vl⟩ := hv m hm
  intro r
  induction r with
  | zero =>
    intro j hj
    have e : j = σ.1 m := by omega
    subst e
    refine zV.run kX4_pieces 2 rfl ?_
    refine zV.gf kX4_pieces rfl fX4_7 (h0) rfl ?_
    refine zV.run kX4_pieces 1 rfl ?_
    refine zV.ial kX4_pieces rfl (a1) (m) (rfl) (hm) (by decide) ?_
    rw [a2 m hm]
    refine zV.ict kX4_pieces (cd := .ge) rfl (Int32.le_refl _) ?_
    exact kk _
  | succ r ih =>
    intro j hj
    refine zV.run kX4_pieces 2 rfl ?_
    refine zV.gf kX4_pieces rfl fX4_7 (h0) rfl ?_
    refine zV.run kX4_pieces 1 rfl ?_
    refine zV.ial kX4_pieces rfl (a1) (m) (rfl) (hm) (by decide) ?_
    rw [a2 m hm]
    refine zV.icf kX4_pieces (cd := .ge) rfl (nI_ge (by omega) (by omega)) ?_
    refine zV.run kX4_pieces 2 rfl ?_
    refine zV.gf kX4_pieces rfl fX4_33 (h0) rfl ?_
    refine zV.run kX4_pieces 1 rfl ?_
    refine zV.lal kX4_pieces rfl (hmn) (j) (rfl) (by omega) (by decide) ?_
    rw [e1 j (by omega)]
    refine zV.run kX4_pieces 4 rfl ?_
    rw [lN_add, nI_1, Nat.add_assoc]
    exact ih (j + 1) (by omega)
theorem n_pieces_1 (E : zE) {w0 : zWd} {σ : zSt} (h : zMs w0 σ) {m k : Nat} (hm : m < 8) (hk : k ≤ 10) : ∀ (r i : Nat) (w : zWd) (z6 : Value), i + r = σ.1 m → zMs w σ → zFw w0 w → zV E mX4_pieces 2 (zPm w0 (.long (lN (sumN (σ.1 m) (fun i => sumN (σ.1 m) (tp (σ.1 m) (σ.2 m) k i))))) σ) 28 [.ref 49, .int (nI m), .int (nI k), .long (lN (sumN i (fun i => sumN (σ.1 m) (tp (σ.1 m) (σ.2 m) k i)))), zU, .int (nI i), z6] [] w := by
  intro r
  induction r with
  | zero =>
    intro i w z6 hi hs hw
    obtain ⟨⟨ab, be, rm, en, ej, h0⟩, hc, hx⟩ := id hs
    obtain ⟨⟨sz, a1, a2⟩, -, hv⟩ := id hc
    have e : i = σ.1 m := by omega
    subst e
    refine zV.run kX4_pieces 2 rfl ?_
    refine zV.gf kX4_pieces rfl fX4_7 (h0) rfl ?_
    refine zV.run kX4_pieces 1 rfl ?_
    refine zV.ial kX4_pieces rfl (a1) (m) (rfl) (hm) (by decide) ?_
    rw [a2 m hm]
    refine zV.ict kX4_pieces (cd := .ge) rfl (Int32.le_refl _) ?_
    refine zV.run kX4_pieces 1 rfl ?_
    exact zV.lret kX4_pieces rfl rfl (⟨rfl, hs, fun a ha => hw a (by omega) (by omega)⟩)
  | succ r ih =>
    intro i w z6 hi hs hw
    obtain ⟨⟨ab, be, rm, en, ej, h0⟩, hc, hx⟩ := id hs
    obtain ⟨⟨sz, a1, a2⟩, -, hv⟩ := id hc
    have v5 := (hv m hm).2.1
    refine zV.run kX4_pieces 2 rfl ?_
    refine zV.gf kX4_pieces rfl fX4_7 (h0) rfl ?_
    refine zV.run kX4_pieces 1 rfl ?_
    refine zV.ial kX4_pieces rfl (a1) (m) (rfl) (hm) (by decide) ?_
    rw [a2 m hm]
    refine zV.icf kX4_pieces (cd := .ge) rfl (nI_ge (by omega) (by omega)) ?_
    refine zV.run kX4_pieces 4 rfl ?_
    refine zV.cv kX4_pieces rfl lX4_110 (n_findWays E h0 hc hx hm (fr := i) (k := k) hk (by omega)) (by decide) rfl (h0) rfl rfl rfl (Nat.le_of_ble_eq_true rfl) ?_
    rintro _ w9 ⟨rfl, hw9, h8, mn, hmn, e1⟩
    have hs9 := hs.fw hw9 ⟨mn, hmn⟩ h8
    refine zV.run kX4_pieces 2 rfl ?_
    refine n_pieces_2 E (h0.k (hw9 49 (by decide) (by decide))) hs9.2.1 hm hmn (tp (σ.1 m) (σ.2 m) k i) (fun j hj => by rw [e1 j hj, wy_tp _ _ (by omega) _ _ hj]) (nI k) _ (fun y6 => ?_) (σ.1 m) 0 (by omega)
    refine zV.run kX4_pieces 2 rfl ?_
    rw [nI_1]
    exact ih (i + 1) w9 _ (by omega) hs9 (fun a q1 q2 => (hw9 a q1 q2).trans (hw a q1 q2))
theorem n_pieces (E : zE) {w : zWd} {σ : zSt} (h : zMs w σ) (m k : Int32) : zOk E mX4_pieces 2 [.ref 49, .int m, .int k] w (zPm w (.long (if okM m ∧ (0 ≤ k.toInt ∧ k.toInt ≤ 10) then lN (sumN (σ.1 m.toInt.toNat) (fun i => sumN (σ.1 m.toInt.toNat) (tp (σ.1 m.toInt.toNat) (σ.2 m.toInt.toNat) k.toInt.toNat i))) else -2)) σ) := by
  refine zOk.of (by decide +kernel) (Nat.le_of_ble_eq_true rfl) ?_
  refine zV.run kX4_pieces 1 rfl ?_
  refine zV.cs kX4_pieces rfl lX4_51 (n_isMap E w m) (by decide) rfl rfl (Nat.le_of_ble_eq_true rfl) ?_
  rintro _ _ ⟨rfl, rfl⟩
  refine zV.if2 kX4_pieces rfl (fun c => ?_) (fun c => ?_)
  · skip
    have c := zq_eq0.mp c
    rw [if_neg (fun q => c q.1)]
    refine zV.ldc2 kX4_pieces rfl qX4_88 ?_
    exact zV.lret kX4_pieces rfl rfl (⟨rfl, h, fun _ _ => rfl⟩)
  · skip
    have c := Decidable.not_not.mp (mt zq_eq0.mpr c)
    refine zV.run kX4_pieces 3 rfl ?_
    refine zV.ldc2 kX4_pieces rfl qX4_108 ?_
    refine zV.cs kX4_pieces rfl lX4_47 (n_in E w k.toInt64 0 10) (by decide) rfl rfl (Nat.le_of_ble_eq_true rfl) ?_
    rintro _ _ ⟨rfl, rfl⟩
    rw [zq_c inK]
    refine zV.if2 kX4_pieces rfl (fun c3 => ?_) (fun c3 => ?_)
    · skip
      have c3 : 0 ≤ k.toInt ∧ k.toInt ≤ 10 := Decidable.not_not.mp (mt zq_eq0.mpr c3)
      rw [if_pos ⟨c, c3⟩]
      obtain ⟨mm, emm⟩ : ∃ mm, mm = m.toInt.toNat := ⟨_, rfl⟩
      have em : m = nI mm := by rw [emm]; exact i32_nI c.1
      have hm : mm < 8 := by omega
      obtain ⟨kk, ekk⟩ : ∃ ii, ii = k.toInt.toNat := ⟨_, rfl⟩
      have ek : k = nI kk := by rw [ekk]; exact i32_nI c3.1
      rw [← emm, ← ekk, em, ek]
      refine zV.run kX4_pieces 4 rfl ?_
      exact n_pieces_1 E h hm (k := kk) (by omega) (σ.1 mm) 0 w _ (by omega) h (fun _ _ _ => rfl)
    · skip
      have c3 : ¬ (0 ≤ k.toInt ∧ k.toInt ≤ 10) := zq_eq0.mp (Decidable.not_not.mp c3)
      rw [if_neg (fun q => c3 q.2)]
      refine zV.ldc2 kX4_pieces rfl qX4_88 ?_
      exact zV.lret kX4_pieces rfl rfl (⟨rfl, h, fun _ _ => rfl⟩)
end
section
/-! ===== the model: sets of spans ===== -/
def spj (ld : Nat → Nat) (S i acc : Nat) : Nat → Nat
  | 0 => acc
  | j + 1 => spj ld S i acc j ||| (if S.testBit i = true ∧ cov ld i j = true then 2 ^ j else 0)
def spi (n : Nat) (ld : Nat → Nat) (S : Nat) : Nat → Nat
  | 0 => 0
  | i + 1 => spj ld S i (spi n ld S i) n
theorem tb_sub {m M : Nat} (h : m ≤ M) (q : Nat) : (2 ^ M - 2 ^ m).testBit q = (decide (m ≤ q) && decide (q < M)) := by
  have e : 2 ^ M - 2 ^ m = (2 ^ (M - m) - 1) <<< m := by
    rw [Nat.shiftLeft_eq, Nat.sub_mul, Nat.one_mul, ← Nat.pow_add, Nat.sub_add_cancel h]
  rw [e, Nat.testBit_shiftLeft, Nat.testBit_two_pow_sub_one]
  by_cases h1 : m ≤ q
  · simp only [h1, decide_true, Bool.true_and]
    congr 1
    apply propext
    omega
  · simp [h1]
theorem spj_tb (ld : Nat → Nat) (S i acc q : Nat) : ∀ J, (spj ld S i acc J).testBit q = (acc.testBit q || (decide (q < J) && (S.testBit i && cov ld i q)))
  | 0 => by simp [spj]
  | J + 1 => by
    show (spj ld S i acc J ||| _).testBit q = _
    rw [Nat.testBit_or, spj_tb ld S i acc q J]
    by_cases e : q = J
    · subst e
      by_cases c : S.testBit i = true ∧ cov ld i q = true
      · simp [c.1, c.2]
      · rw [if_neg c, Nat.zero_testBit]
        have : (S.testBit i && cov ld i q) = false := by
          cases h1 : S.testBit i <;> cases h2 : cov ld i q <;> simp_all
        simp [this]
    · have e2 : (if S.testBit i = true ∧ cov ld i J = true then 2 ^ J else 0).testBit q = false := by
        split
        · rw [Nat.testBit_two_pow]; simp; omega
        · exact Nat.zero_testBit q
      rw [e2, Bool.or_false]
      congr 2
      apply decide_eq_decide.mpr
      omega
theorem spj_eq {n : Nat} {ld : Nat → Nat} (hl : ∀ i, i ≤ n → ld i ≤ n) (S acc : Nat) {i : Nat} (hi : i < n) : spj ld S i acc n = if S.testBit i = true then acc ||| (2 ^ max (ld i) (ld (i + 1)) - 2 ^ min (ld i) (ld (i + 1))) else acc := by
  apply Nat.eq_of_testBit_eq
  intro q
  rw [spj_tb]
  have l1 := hl i (by omega)
  have l2 := hl (i + 1) (by omega)
  by_cases c : S.testBit i = true
  · rw [if_pos c, Nat.testBit_or, tb_sub (by omega), c, Bool.true_and]
    congr 1
    unfold cov
    by_cases hq : q < n
    · simp [hq]
    · have h1 : ¬ q < max (ld i) (ld (i + 1)) := by omega
      simp [hq, h1]
  · simp only [Bool.not_eq_true] at c
    simp [c]
theorem spi_eq {n : Nat} {ld : Nat → Nat} (hl : ∀ i, i ≤ n → ld i ≤ n) (S : Nat) : ∀ i, i ≤ n → spi n ld S i = sAf ld S i
  | 0, _ => rfl
  | i + 1, h => by
    show spj ld S i (spi n ld S i) n = _
    rw [spi_eq hl S i (by omega), spj_eq hl S _ (by omega)]
    rfl
theorem spj_lt {n : Nat} (ld : Nat → Nat) (S i : Nat) {acc : Nat} (ha : acc < 2 ^ n) : ∀ J, J ≤ n → spj ld S i acc J < 2 ^ n
  | 0, _ => ha
  | J + 1, h => by
    refine Nat.or_lt_two_pow (spj_lt ld S i ha J (by omega)) ?_
    split
    · exact Nat.pow_lt_pow_right (by decide) (by omega)
    · exact Nat.two_pow_pos n
theorem n_spread_2 (E : zE) {w : zWd} {σ : zSt} {ab be : Int64} {rm en ej : Int32} {Post : Option Value → zWd → Prop} (h0 : zIs w 49 (zMo ab be rm en ej)) (hc : zMc w σ) {m i S acc : Nat} (hm : m < 8) (hi : i < σ.1 m) (hS : S < 64) (ha : acc < 2 ^ σ.1 m)
    (kk : ∀ z5 : Value, zV E mX4_spread 1 Post 70 [.ref 49, .int (nI m), .int (nI S), .int (nI (spj (σ.2 m) S i acc (σ.1 m))), .int (nI i), z5] [] w) :
    ∀ (r j : Nat), j + r = σ.1 m → zV E mX4_spread 1 Post 19 [.ref 49, .int (nI m), .int (nI S), .int (nI (spj (σ.2 m) S i acc j)), .int (nI i), .int (nI j)] [] w := by
  obtain ⟨⟨sz, a1, a2⟩, -, hv⟩ := id hc
  obtain ⟨v1, v5, vl⟩ := hv m hm
  have p5 := p2le v5
  intro r
  induction r with
  | zero =>
    intro j hj
    have e : j = σ.1 m := by omega
    subst e
    refine zV.run kX4_spread 2 rfl ?_
    refine zV.gf kX4_spread rfl fX4_7 (h0) rfl ?_
    refine zV.run kX4_spread 1 rfl ?_
    refine zV.ial kX4_spread rfl (a1) (m) (rfl) (hm) (by decide) ?_
    rw [a2 m hm]
    refine zV.ict kX4_spread (cd := .ge) rfl (Int32.le_refl _) ?_
    exact kk _
  | succ r ih =>
    intro j hj
    have b1 := spj_lt (σ.2 m) S i ha j (by omega)
    have pj := p2le (n := j) (by omega)
    have nx0 : ¬ (S.testBit i = true ∧ cov (σ.2 m) i j = true) → zV E mX4_spread 1 Post 61 [.ref 49, .int (nI m), .int (nI S), .int (nI (spj (σ.2 m) S i acc j)), .int (nI i), .int (nI j)] [.int (nI (spj (σ.2 m) S i acc j))] w := by
      intro hn
      have e : spj (σ.2 m) S i acc (j + 1) = spj (σ.2 m) S i acc j ||| 0 := by
        show _ ||| (if _ then _ else _) = _; rw [if_neg hn]
      refine zV.run kX4_spread 5 rfl ?_
      rw [show (0 : Int32) = nI 0 from rfl, bt_or _ (by omega) _ (by omega), ← e, nI_1]
      exact ih (j + 1) (by omega)
    refine zV.run kX4_spread 2 rfl ?_
    refine zV.gf kX4_spread rfl fX4_7 (h0) rfl ?_
    refine zV.run kX4_spread 1 rfl ?_
    refine zV.ial kX4_spread rfl (a1) (m) (rfl) (hm) (by decide) ?_
    rw [a2 m hm]
    refine zV.icf kX4_spread (cd := .ge) rfl (nI_ge (by omega) (by omega)) ?_
    refine zV.run kX4_spread 7 rfl ?_
    refine zV.ic2 kX4_spread rfl (fun c => ?_) (fun c => ?_)
    · skip
      have c := mt (bt_at S hS i (by omega)).mpr c
      exact nx0 (fun q => c q.1)
    · skip
      have c := (bt_at S hS i (by omega)).mp (Decidable.not_not.mp c)
      refine zV.run kX4_spread 4 rfl ?_
      refine zV.cv kX4_spread rfl lX4_104 (n_covers E h0 hc hm hi (j := j) (by omega)) (by decide) rfl (h0) rfl rfl rfl (Nat.le_of_ble_eq_true rfl) ?_
      rintro _ _ ⟨rfl, rfl⟩
      refine zV.run kX4_spread 1 rfl ?_
      refine zV.ic2 kX4_spread rfl (fun c2 => ?_) (fun c2 => ?_)
      · skip
        have c2 : ¬ cov (σ.2 m) i j = true := fun q => c2 (zq_t q)
        exact nx0 (fun q => c2 q.2)
      · skip
        have c2 : cov (σ.2 m) i j = true := by
          rcases zq01 (cov (σ.2 m) i j = true) with q | q
          · exact absurd (show zq (cov (σ.2 m) i j = true) = 1 from Decidable.not_not.mp c2) (by rw [q]; decide)
          · exact Decidable.not_not.mp (mt zq_eq0.mpr (by rw [q]; decide))
        have e : spj (σ.2 m) S i acc (j + 1) = spj (σ.2 m) S i acc j ||| 2 ^ j := by
          show _ ||| (if _ then _ else _) = _; rw [if_pos ⟨c, c2⟩]
        refine zV.run kX4_spread 8 rfl ?_
        rw [bt_sh j (by omega), bt_or _ (by omega) _ (by omega), ← e, nI_1]
        exact ih (j + 1) (by omega)
theorem spi_lt {n : Nat} {ld : Nat → Nat} (S : Nat) : ∀ i, spi n ld S i < 2 ^ n
  | 0 => Nat.two_pow_pos n
  | i + 1 => spj_lt ld S i (spi_lt S i) n (Nat.le_refl n)
theorem n_spread_1 (E : zE) {w : zWd} {σ : zSt} {ab be : Int64} {rm en ej : Int32} (h0 : zIs w 49 (zMo ab be rm en ej)) (hc : zMc w σ) {m S : Nat} (hm : m < 8) (hS : S < 64) : ∀ (r i : Nat) (z5 : Value), i + r = σ.1 m → zV E mX4_spread 1 (zR0 w (.int (nI (spi (σ.1 m) (σ.2 m) S (σ.1 m))))) 5 [.ref 49, .int (nI m), .int (nI S), .int (nI (spi (σ.1 m) (σ.2 m) S i)), .int (nI i), z5] [] w := by
  obtain ⟨⟨sz, a1, a2⟩, -, hv⟩ := id hc
  obtain ⟨v1, v5, vl⟩ := hv m hm
  intro r
  induction r with
  | zero =>
    intro i z5 hi
    have e : i = σ.1 m := by omega
    subst e
    refine zV.run kX4_spread 2 rfl ?_
    refine zV.gf kX4_spread rfl fX4_7 (h0) rfl ?_
    refine zV.run kX4_spread 1 rfl ?_
    refine zV.ial kX4_spread rfl (a1) (m) (rfl) (hm) (by decide) ?_
    rw [a2 m hm]
    refine zV.ict kX4_spread (cd := .ge) rfl (Int32.le_refl _) ?_
    refine zV.run kX4_spread 1 rfl ?_
    exact zV.iret kX4_spread rfl rfl (⟨rfl, rfl⟩)
  | succ r ih =>
    intro i z5 hi
    refine zV.run kX4_spread 2 rfl ?_
    refine zV.gf kX4_spread rfl fX4_7 (h0) rfl ?_
    refine zV.run kX4_spread 1 rfl ?_
    refine zV.ial kX4_spread rfl (a1) (m) (rfl) (hm) (by decide) ?_
    rw [a2 m hm]
    refine zV.icf kX4_spread (cd := .ge) rfl (nI_ge (by omega) (by omega)) ?_
    refine zV.run kX4_spread 2 rfl ?_
    refine n_spread_2 E h0 hc hm (i := i) (by omega) hS (spi_lt S i) (fun y5 => ?_) (σ.1 m) 0 (by omega)
    refine zV.run kX4_spread 2 rfl ?_
    rw [nI_1]
    exact ih (i + 1) _ (by omega)
theorem n_spread (E : zE) {w : zWd} {σ : zSt} {ab be : Int64} {rm en ej : Int32} (h0 : zIs w 49 (zMo ab be rm en ej)) (hc : zMc w σ) {m S : Nat} (hm : m < 8) (hS : S < 64) : zOk E mX4_spread 1 [.ref 49, .int (nI m), .int (nI S)] w (zR0 w (.int (nI (sA (σ.1 m) (σ.2 m) S)))) := by
  have e : sA (σ.1 m) (σ.2 m) S = spi (σ.1 m) (σ.2 m) S (σ.1 m) := (spi_eq (hc.2.2 m hm).2.2 S _ (Nat.le_refl _)).symm
  rw [e]
  refine zOk.of (by decide +kernel) (Nat.le_of_ble_eq_true rfl) ?_
  refine zV.run kX4_spread 4 rfl ?_
  exact n_spread_1 E h0 hc hm hS (σ.1 m) 0 _ (by omega)
theorem n_reach_l (E : zE) {w : zWd} {σ : zSt} {ab be : Int64} {rm en ej : Int32} (h0 : zIs w 49 (zMo ab be rm en ej)) (hc : zMc w σ) {m i : Nat} (hm : m < 8) (hi : i < σ.1 m) : ∀ (r k : Nat), k + r = σ.1 m → zV E mX4_reach 2 (zR0 w (.int (nI (rch (σ.1 m) (σ.2 m) (2 ^ i) (σ.1 m))))) 7 [.ref 49, .int (nI m), .int (nI i), .int (nI (rch (σ.1 m) (σ.2 m) (2 ^ i) k)), .int (nI k)] [] w := by
  obtain ⟨⟨sz, a1, a2⟩, -, hv⟩ := id hc
  obtain ⟨v1, v5, vl⟩ := hv m hm
  have p5 := p2le v5
  have hi2 : 2 ^ i < 2 ^ σ.1 m := Nat.pow_lt_pow_right (by decide) hi
  intro r
  induction r with
  | zero =>
    intro k hk
    have e : k = σ.1 m := by omega
    subst e
    refine zV.run kX4_reach 2 rfl ?_
    refine zV.gf kX4_reach rfl fX4_7 (h0) rfl ?_
    refine zV.run kX4_reach 1 rfl ?_
    refine zV.ial kX4_reach rfl (a1) (m) (rfl) (hm) (by decide) ?_
    rw [a2 m hm]
    refine zV.ict kX4_reach (cd := .ge) rfl (Int32.le_refl _) ?_
    refine zV.run kX4_reach 1 rfl ?_
    exact zV.iret kX4_reach rfl rfl (⟨rfl, rfl⟩)
  | succ r ih =>
    intro k hk
    have b1 := rch_lt vl hi2 k
    have b2 := sA_lt vl (rch (σ.1 m) (σ.2 m) (2 ^ i) k)
    refine zV.run kX4_reach 2 rfl ?_
    refine zV.gf kX4_reach rfl fX4_7 (h0) rfl ?_
    refine zV.run kX4_reach 1 rfl ?_
    refine zV.ial kX4_reach rfl (a1) (m) (rfl) (hm) (by decide) ?_
    rw [a2 m hm]
    refine zV.icf kX4_reach (cd := .ge) rfl (nI_ge (by omega) (by omega)) ?_
    refine zV.run kX4_reach 4 rfl ?_
    refine zV.cv kX4_reach rfl lX4_114 (n_spread E h0 hc hm (S := rch (σ.1 m) (σ.2 m) (2 ^ i) k) (by omega)) (by decide) rfl (h0) rfl rfl rfl (Nat.le_of_ble_eq_true rfl) ?_
    rintro _ _ ⟨rfl, rfl⟩
    refine zV.run kX4_reach 4 rfl ?_
    rw [bt_or _ (by omega) _ (by omega), nI_1]
    exact ih (k + 1) (by omega)
theorem n_reach (E : zE) {w : zWd} {σ : zSt} {ab be : Int64} {rm en ej : Int32} (h0 : zIs w 49 (zMo ab be rm en ej)) (hc : zMc w σ) {m i : Nat} (hm : m < 8) (hi : i < σ.1 m) : zOk E mX4_reach 2 [.ref 49, .int (nI m), .int (nI i)] w (zR0 w (.int (nI (rch (σ.1 m) (σ.2 m) (2 ^ i) (σ.1 m))))) := by
  have v5 := (hc.2.2 m hm).2.1
  refine zOk.of (by decide +kernel) (Nat.le_of_ble_eq_true rfl) ?_
  refine zV.run kX4_reach 6 rfl ?_
  rw [bt_sh i (by omega)]
  exact n_reach_l E h0 hc hm hi (σ.1 m) 0 (by omega)
abbrev bothW (n : Nat) (ld : Nat → Nat) (i j : Nat) : Prop := (rch n ld (2 ^ i) n).testBit j = true ∧ (rch n ld (2 ^ j) n).testBit i = true
def lpd (n : Nat) (ld : Nat → Nat) (i : Nat) : Nat → Nat → Nat
  | 0, l => l
  | j + 1, l => lpd n ld i j (if bothW n ld i j then j else l)
theorem lpd_lpf (n : Nat) (ld : Nat → Nat) (i : Nat) : ∀ j l, j ≤ i → l = lpf n ld i (i - j) j → lpd n ld i j l = lpf n ld i i 0
  | 0, l, h, e => by rw [show i - 0 = i by omega] at e; exact e
  | j + 1, l, h, e => by
    refine lpd_lpf n ld i j _ (by omega) ?_
    rw [show i - j = (i - (j + 1)) + 1 by omega]
    show _ = (if _ then j else _)
    by_cases c : bothW n ld i j
    · rw [if_pos c, if_pos c]
    · rw [if_neg c, if_neg c, e]
theorem n_part_l (E : zE) {w : zWd} {σ : zSt} {ab be : Int64} {rm en ej : Int32} (h0 : zIs w 49 (zMo ab be rm en ej)) (hc : zMc w σ) {m i : Nat} (hm : m < 8) (hi : i < σ.1 m) : ∀ (j l : Nat), j ≤ i → zV E mX4_part 3 (zR0 w (.int (nI (lpd (σ.1 m) (σ.2 m) i j l)))) 19 [.ref 49, .int (nI m), .int (nI i), .int (nI l), .int (iI ((j : Int) - 1))] [] w := by
  obtain ⟨v1, v5, vl⟩ := hc.2.2 m hm
  have p5 := p2le v5
  have hi2 : 2 ^ i < 2 ^ σ.1 m := Nat.pow_lt_pow_right (by decide) hi
  intro j
  induction j with
  | zero =>
    intro l hj
    refine zV.run kX4_part 1 rfl ?_
    refine zV.ift kX4_part (cd := .lt) rfl (show iI (((0 : Nat) : Int) - 1) < 0 by decide) ?_
    refine zV.run kX4_part 1 rfl ?_
    exact zV.iret kX4_part rfl rfl (⟨rfl, rfl⟩)
  | succ j ih =>
    intro l hj
    have ej : iI (((j + 1 : Nat) : Int) - 1) = nI j := by rw [nI_iI]; congr 1; omega
    have hj2 : 2 ^ j < 2 ^ σ.1 m := Nat.pow_lt_pow_right (by decide) (by omega)
    have b1 := rch_lt vl hi2 (σ.1 m)
    have b2 := rch_lt vl hj2 (σ.1 m)
    have nxt : ∀ l', l' = (if bothW (σ.1 m) (σ.2 m) i j then j else l) → zV E mX4_part 3 (zR0 w (.int (nI (lpd (σ.1 m) (σ.2 m) i (j + 1) l)))) 60 [.ref 49, .int (nI m), .int (nI i), .int (nI l), .int (nI j)] [.int (nI l')] w := by
      intro l' hl'
      have e : lpd (σ.1 m) (σ.2 m) i (j + 1) l = lpd (σ.1 m) (σ.2 m) i j l' := by rw [hl']; rfl
      rw [e]
      refine zV.run kX4_part 3 rfl ?_
      rw [show nI j + (-1) = iI ((j : Int) - 1) by rw [nI_iI, show (-1 : Int32) = iI (-1) from rfl, iI_add]; congr 1]
      exact ih l' (by omega)
    rw [ej]
    refine zV.run kX4_part 1 rfl ?_
    refine zV.iff kX4_part (cd := .lt) rfl (nI_pos (by omega)) ?_
    refine zV.run kX4_part 3 rfl ?_
    refine zV.cv kX4_part rfl lX4_117 (n_reach E h0 hc hm hi) (by decide) rfl (h0) rfl rfl rfl (Nat.le_of_ble_eq_true rfl) ?_
    rintro _ _ ⟨rfl, rfl⟩
    refine zV.run kX4_part 5 rfl ?_
    refine zV.ic2 kX4_part rfl (fun c => ?_) (fun c => ?_)
    · skip
      have c := mt (bt_at _ (by omega) j (by omega)).mpr c
      refine zV.run kX4_part 1 rfl ?_
      exact nxt l (by rw [if_neg (fun q => c q.1)])
    · skip
      have c := (bt_at _ (by omega) j (by omega)).mp (Decidable.not_not.mp c)
      refine zV.run kX4_part 3 rfl ?_
      refine zV.cv kX4_part rfl lX4_117 (n_reach E h0 hc hm (i := j) (by omega)) (by decide) rfl (h0) rfl rfl rfl (Nat.le_of_ble_eq_true rfl) ?_
      rintro _ _ ⟨rfl, rfl⟩
      refine zV.run kX4_part 5 rfl ?_
      refine zV.ic2 kX4_part rfl (fun c2 => ?_) (fun c2 => ?_)
      · skip
        have c2 := mt (bt_at _ (by omega) i (by omega)).mpr c2
        refine zV.run kX4_part 1 rfl ?_
        exact nxt l (by rw [if_neg (fun q => c2 q.2)])
      · skip
        have c2 := (bt_at _ (by omega) i (by omega)).mp (Decidable.not_not.mp c2)
        refine zV.run kX4_part 2 rfl ?_
        exact nxt j (by rw [if_pos ⟨c, c2⟩])
theorem n_part (E : zE) {w : zWd} {σ : zSt} (h : zMs w σ) (m i : Int32) : zOk E mX4_part 3 [.ref 49, .int m, .int i] w (zR0 w (.int (if okM m ∧ (0 ≤ i.toInt ∧ i.toInt < σ.1 m.toInt.toNat) then nI (lpf (σ.1 m.toInt.toNat) (σ.2 m.toInt.toNat) i.toInt.toNat i.toInt.toNat 0) else -2))) := by
  obtain ⟨⟨ab, be, rm, en, ej, h0⟩, hc, hx⟩ := id h
  refine zOk.of (by decide +kernel) (Nat.le_of_ble_eq_true rfl) ?_
  refine zV.run kX4_part 3 rfl ?_
  refine zV.cv kX4_part rfl lX4_100 (n_isSpan E h0 hc m i) (by decide) rfl (h0) rfl rfl rfl (Nat.le_of_ble_eq_true rfl) ?_
  rintro _ _ ⟨rfl, rfl⟩
  refine zV.if2 kX4_part rfl (fun c => ?_) (fun c => ?_)
  · skip
    have c := Decidable.not_not.mp (mt zq_eq0.mpr c)
    rw [if_pos c]
    obtain ⟨mm, emm⟩ : ∃ mm, mm = m.toInt.toNat := ⟨_, rfl⟩
    have em : m = nI mm := by rw [emm]; exact i32_nI c.1.1
    have hm : mm < 8 := by omega
    obtain ⟨ii, eii⟩ : ∃ ii, ii = i.toInt.toNat := ⟨_, rfl⟩
    have ei : i = nI ii := by rw [eii]; exact i32_nI c.2.1
    rw [← emm] at c
    rw [← emm, ← eii, em, ei]
    refine zV.run kX4_part 6 rfl ?_
    rw [show nI ii - 1 = iI ((ii : Int) - 1) by rw [nI_iI, show (1 : Int32) = iI 1 from rfl, iI_sub]]
    have K := n_part_l E h0 hc hm (i := ii) (by omega) ii ii (Nat.le_refl _)
    rw [lpd_lpf _ _ _ ii ii (Nat.le_refl _) (by rw [Nat.sub_self]; rfl)] at K
    exact K
  · skip
    have c := zq_eq0.mp (Decidable.not_not.mp c)
    refine zV.run kX4_part 1 rfl ?_
    exact zV.iret kX4_part rfl rfl (⟨by rw [if_neg c], rfl⟩)
/-! ===== the model: mixing ===== -/
def so (n : Nat) (ld : Nat → Nat) (i : Nat) : Nat → Nat
  | 0 => 2 ^ i
  | k + 1 => sA n ld (so n ld i k)
def alf (n : Nat) (ld : Nat → Nat) (k : Nat) : Nat → Bool
  | 0 => true
  | i + 1 => alf n ld k i && decide (so n ld i k = 2 ^ n - 1)
def mxf (n : Nat) (ld : Nat → Nat) : Nat → Nat → Int
  | 0, _ => -1
  | r + 1, k => if alf n ld k n = true then (k : Int) else mxf n ld r (k + 1)
theorem so_lt {n : Nat} {ld : Nat → Nat} (hl : ∀ i, i ≤ n → ld i ≤ n) {i : Nat} (hi : i < n) : ∀ k, so n ld i k < 2 ^ n
  | 0 => Nat.pow_lt_pow_right (by decide) hi
  | k + 1 => sA_lt hl _
theorem zMs.dr {w w' : zWd} {σ : zSt} (h : zMs w σ) (hw : ∀ a, a ≠ 52 → w' a = w a) (h7 : ∃ f, zIs w' 52 (zIA 7 f)) : zMs w' σ := by
  obtain ⟨⟨ab, be, rm, en, ej, h0⟩, hc, ⟨-, ⟨f3, x3⟩, ⟨f4, x4⟩, ⟨f5, x5⟩, ⟨f6, x6⟩, ⟨f7, x7⟩, ⟨f8, x8⟩, ⟨f9, x9⟩, ⟨f0, x0⟩⟩⟩ := h
  exact ⟨⟨ab, be, rm, en, ej, h0.k (hw _ (by decide))⟩, hc.k (hw _ (by decide)) (hw _ (by decide)), h7, ⟨f3, x3.k (hw _ (by decide))⟩, ⟨f4, x4.k (hw _ (by decide))⟩, ⟨f5, x5.k (hw _ (by decide))⟩, ⟨f6, x6.k (hw _ (by decide))⟩, ⟨f7, x7.k (hw _ (by decide))⟩, ⟨f8, x8.k (hw _ (by decide))⟩, ⟨f9, x9.k (hw _ (by decide))⟩, ⟨f0, x0.k (hw _ (by decide))⟩⟩
theorem n_mixes_3 (E : zE) {w0 : zWd} {σ : zSt} (h : zMs w0 σ) {Post : Option Value → zWd → Prop} {m k : Nat} (hm : m < 8)
    (kk : ∀ (w : zWd) (dr : Nat → Int32) (z5 : Value), zIs w 52 (zIA 7 dr) → (∀ i, i < σ.1 m → dr i = nI (so (σ.1 m) (σ.2 m) i (k + 1))) → (∀ a, a ≠ 52 → w a = w0 a) → zV E mX4_mixes 2 Post 111 [.ref 49, .int (nI m), .int (nI (σ.1 m)), .int (nI (k + 1)), .int (zq (alf (σ.1 m) (σ.2 m) (k + 1) (σ.1 m) = true)), z5] [] w) :
    ∀ (r i : Nat) (w : zWd) (dr : Nat → Int32), i + r = σ.1 m → zIs w 52 (zIA 7 dr) → (∀ q, q < i → dr q = nI (so (σ.1 m) (σ.2 m) q (k + 1))) → (∀ q, i ≤ q → q < σ.1 m → dr q = nI (so (σ.1 m) (σ.2 m) q k)) → (∀ a, a ≠ 52 → w a = w0 a) → zV E mX4_mixes 2 Post 53 [.ref 49, .int (nI m), .int (nI (σ.1 m)), .int (nI (k + 1)), .int (zq (alf (σ.1 m) (σ.2 m) (k + 1) i = true)), .int (nI i)] [] w := by
  obtain ⟨⟨ab, be, rm, en, ej, h00⟩, hc0, hx0⟩ := id h
  obtain ⟨v1, v5, vl⟩ := hc0.2.2 m hm
  have p5 := p2le v5
  intro r
  induction r with
  | zero =>
    intro i w dr hi hd d1 d2 hw
    have e : i = σ.1 m := by omega
    subst e
    refine zV.run kX4_mixes 2 rfl ?_
    refine zV.ict kX4_mixes (cd := .ge) rfl (Int32.le_refl _) ?_
    exact kk w dr _ hd d1 hw
  | succ r ih =>
    intro i w dr hi hd d1 d2 hw
    have h0 := h00.k (hw 49 (by decide))
    have hc := hc0.k (hw 50 (by decide)) (hw 51 (by decide))
    have b1 := so_lt vl (i := i) (by omega) k
    have b2 := so_lt vl (i := i) (by omega) (k + 1)
    have nxt : ∀ v : Bool, v = alf (σ.1 m) (σ.2 m) (k + 1) (i + 1) → zV E mX4_mixes 2 Post 103 [.ref 49, .int (nI m), .int (nI (σ.1 m)), .int (nI (k + 1)), .int (zq (alf (σ.1 m) (σ.2 m) (k + 1) i = true)), .int (nI i)] [.int (zq (v = true))] (va_up w 52 (zIA 7 (upd dr i (nI (so (σ.1 m) (σ.2 m) i (k + 1)))))) := by
      intro v hv
      subst hv
      refine zV.run kX4_mixes 3 rfl ?_
      rw [nI_1]
      refine ih (i + 1) _ _ (by omega) (zIs.s hd.1) (fun q hq => ?_) (fun q h1 h2 => ?_) (fun a ha => by rw [zup_ne ha]; exact hw a ha)
      · by_cases e : q = i
        · rw [e, pk_us]
        · rw [pk_un e]; exact d1 q (by omega)
      · rw [pk_un (by omega)]; exact d2 q (by omega) h2
    have ea : alf (σ.1 m) (σ.2 m) (k + 1) (i + 1) = (alf (σ.1 m) (σ.2 m) (k + 1) i && decide (so (σ.1 m) (σ.2 m) i (k + 1) = 2 ^ σ.1 m - 1)) := rfl
    refine zV.run kX4_mixes 2 rfl ?_
    refine zV.icf kX4_mixes (cd := .ge) rfl (nI_ge (by omega) (by omega)) ?_
    refine zV.run kX4_mixes 1 rfl ?_
    refine zV.gf kX4_mixes rfl fX4_16 (h0) rfl ?_
    refine zV.run kX4_mixes 4 rfl ?_
    refine zV.gf kX4_mixes rfl fX4_16 (h0) rfl ?_
    refine zV.run kX4_mixes 1 rfl ?_
    refine zV.ial kX4_mixes rfl (hd) (i) (rfl) (by omega) (by decide) ?_
    rw [d2 i (Nat.le_refl _) (by omega)]
    refine zV.cv kX4_mixes rfl lX4_114 (n_spread E h0 hc hm (S := so (σ.1 m) (σ.2 m) i k) (by omega)) (by decide) rfl (h0) rfl rfl rfl (Nat.le_of_ble_eq_true rfl) ?_
    rintro _ _ ⟨rfl, rfl⟩
    refine zV.ias kX4_mixes rfl (hd) (i) (rfl) (by omega) (by decide) ?_
    refine zV.run kX4_mixes 1 rfl ?_
    refine zV.if2 kX4_mixes rfl (fun c => ?_) (fun c => ?_)
    · skip
      have c := zq_eq0.mp c
      refine zV.run kX4_mixes 1 rfl ?_
      exact nxt false (by rw [ea]; simp [c])
    · skip
      have c := Decidable.not_not.mp (mt zq_eq0.mpr c)
      refine zV.run kX4_mixes 1 rfl ?_
      refine zV.gf kX4_mixes rfl fX4_16 (h0.n (by decide)) rfl ?_
      refine zV.run kX4_mixes 1 rfl ?_
      refine zV.ial kX4_mixes rfl (zIs.s hd.1) (i) (rfl) (by omega) (by decide) ?_
      rw [pk_us]
      refine zV.run kX4_mixes 5 rfl ?_
      rw [bt_sh (σ.1 m) (by omega), show (1 : Int32) = nI 1 from rfl, pk_sub (Nat.two_pow_pos _)]
      refine zV.ic2 kX4_mixes rfl (fun c2 => ?_) (fun c2 => ?_)
      · skip
        have c2 := mt (nI_eq (a := so (σ.1 m) (σ.2 m) i (k + 1)) (b := 2 ^ σ.1 m - 1) (by omega) (by omega)).mpr c2
        refine zV.run kX4_mixes 1 rfl ?_
        exact nxt false (by rw [ea]; simp [c2])
      · skip
        have c2 := (nI_eq (a := so (σ.1 m) (σ.2 m) i (k + 1)) (b := 2 ^ σ.1 m - 1) (by omega) (by omega)).mp (Decidable.not_not.mp c2)
        refine zV.run kX4_mixes 2 rfl ?_
        exact nxt true (by rw [ea]; simp [c, c2])
theorem n_mixes_2 (E : zE) {w0 : zWd} {σ : zSt} (h : zMs w0 σ) {m : Nat} (hm : m < 8) : ∀ (r k : Nat) (w : zWd) (dr : Nat → Int32) (z4 z5 : Value), k + r = 30 → zIs w 52 (zIA 7 dr) → (∀ q, q < σ.1 m → dr q = nI (so (σ.1 m) (σ.2 m) q k)) → (∀ a, a ≠ 52 → w a = w0 a) → zV E mX4_mixes 2 (zPm w0 (.int (iI (mxf (σ.1 m) (σ.2 m) r (k + 1)))) σ) 41 [.ref 49, .int (nI m), .int (nI (σ.1 m)), .int (nI (k + 1)), z4, z5] [] w := by
  intro r
  induction r with
  | zero =>
    intro k w dr z4 z5 hk hd d1 hw
    have e : k = 30 := by omega
    subst e
    refine zV.run kX4_mixes 2 rfl ?_
    refine zV.ict kX4_mixes (cd := .gt) rfl (show (30 : Int32) < nI 31 by decide) ?_
    refine zV.run kX4_mixes 1 rfl ?_
    exact zV.iret kX4_mixes rfl rfl (⟨rfl, h.dr hw ⟨dr, hd⟩, fun a ha => hw a (by omega)⟩)
  | succ r ih =>
    intro k w dr z4 z5 hk hd d1 hw
    refine zV.run kX4_mixes 2 rfl ?_
    refine zV.icf kX4_mixes (cd := .gt) rfl (fun q => absurd ((nI_ltI (a := 30) (b := k + 1) (by omega) (by omega)).mp q) (by omega)) ?_
    refine zV.run kX4_mixes 4 rfl ?_
    refine n_mixes_3 E h hm (k := k) (fun w2 dr2 y5 q1 q2 q3 => ?_) (σ.1 m) 0 w dr (by omega) hd (fun q hq => by omega) (fun q _ hq => d1 q hq) hw
    refine zV.run kX4_mixes 1 rfl ?_
    refine zV.if2 kX4_mixes rfl (fun c => ?_) (fun c => ?_)
    · skip
      have c := zq_eq0.mp c
      have e : mxf (σ.1 m) (σ.2 m) (r + 1) (k + 1) = mxf (σ.1 m) (σ.2 m) r (k + 1 + 1) := if_neg c
      rw [e]
      refine zV.run kX4_mixes 2 rfl ?_
      rw [nI_1]
      exact ih (k + 1) w2 dr2 _ _ (by omega) q1 q2 q3
    · skip
      have c := Decidable.not_not.mp (mt zq_eq0.mpr c)
      have e : mxf (σ.1 m) (σ.2 m) (r + 1) (k + 1) = ((k + 1 : Nat) : Int) := if_pos c
      rw [e]
      refine zV.run kX4_mixes 1 rfl ?_
      exact zV.iret kX4_mixes rfl rfl (⟨by rw [nI_iI], h.dr q3 ⟨dr2, q1⟩, fun a ha => q3 a (by omega)⟩)
theorem n_mixes_1 (E : zE) {w0 : zWd} {σ : zSt} (h : zMs w0 σ) {m : Nat} (hm : m < 8) : ∀ (r i : Nat) (w : zWd) (dr : Nat → Int32), i + r = σ.1 m → zIs w 52 (zIA 7 dr) → (∀ q, q < i → dr q = nI (2 ^ q)) → (∀ a, a ≠ 52 → w a = w0 a) → zV E mX4_mixes 2 (zPm w0 (.int (iI (mxf (σ.1 m) (σ.2 m) 30 1))) σ) 19 [.ref 49, .int (nI m), .int (nI (σ.1 m)), .int (nI i), zU, zU] [] w := by
  obtain ⟨⟨ab, be, rm, en, ej, h00⟩, hc0, hx0⟩ := id h
  obtain ⟨v1, v5, vl⟩ := hc0.2.2 m hm
  intro r
  induction r with
  | zero =>
    intro i w dr hi hd d1 hw
    have e : i = σ.1 m := by omega
    subst e
    refine zV.run kX4_mixes 2 rfl ?_
    refine zV.ict kX4_mixes (cd := .ge) rfl (Int32.le_refl _) ?_
    refine zV.run kX4_mixes 2 rfl ?_
    exact n_mixes_2 E h hm 30 0 w dr _ _ (by omega) hd d1 hw
  | succ r ih =>
    intro i w dr hi hd d1 hw
    have h0 := h00.k (hw 49 (by decide))
    refine zV.run kX4_mixes 2 rfl ?_
    refine zV.icf kX4_mixes (cd := .ge) rfl (nI_ge (by omega) (by omega)) ?_
    refine zV.run kX4_mixes 1 rfl ?_
    refine zV.gf kX4_mixes rfl fX4_16 (h0) rfl ?_
    refine zV.run kX4_mixes 4 rfl ?_
    rw [bt_sh i (by omega)]
    refine zV.ias kX4_mixes rfl (hd) (i) (rfl) (by omega) (by decide) ?_
    refine zV.run kX4_mixes 2 rfl ?_
    rw [nI_1]
    refine ih (i + 1) _ _ (by omega) (zIs.s hd.1) (fun q hq => ?_) (fun a ha => by rw [zup_ne ha]; exact hw a ha)
    by_cases e : q = i
    · rw [e, pk_us]
    · rw [pk_un e]; exact d1 q (by omega)
theorem n_mixes (E : zE) {w : zWd} {σ : zSt} (h : zMs w σ) (m : Int32) : zOk E mX4_mixes 2 [.ref 49, .int m] w (zPm w (.int (if okM m then iI (mxf (σ.1 m.toInt.toNat) (σ.2 m.toInt.toNat) 30 1) else -2)) σ) := by
  obtain ⟨⟨ab, be, rm, en, ej, h0⟩, hc, hx⟩ := id h
  obtain ⟨⟨sz, a1, a2⟩, -, hv⟩ := id hc
  refine zOk.of (by decide +kernel) (Nat.le_of_ble_eq_true rfl) ?_
  refine zV.run kX4_mixes 1 rfl ?_
  refine zV.cs kX4_mixes rfl lX4_51 (n_isMap E w m) (by decide) rfl rfl (Nat.le_of_ble_eq_true rfl) ?_
  rintro _ _ ⟨rfl, rfl⟩
  refine zV.if2 kX4_mixes rfl (fun c => ?_) (fun c => ?_)
  · skip
    have c := Decidable.not_not.mp (mt zq_eq0.mpr c)
    obtain ⟨mm, emm⟩ : ∃ mm, mm = m.toInt.toNat := ⟨_, rfl⟩
    have em : m = nI mm := by rw [emm]; exact i32_nI c.1
    have hm : mm < 8 := by omega
    rw [if_pos c, ← emm]
    refine zV.run kX4_mixes 1 rfl ?_
    refine zV.gf kX4_mixes rfl fX4_7 (h0) rfl ?_
    refine zV.run kX4_mixes 1 rfl ?_
    refine zV.ial kX4_mixes rfl (a1) (mm) (em) (hm) (by decide) ?_
    rw [a2 mm hm, em]
    refine zV.run kX4_mixes 3 rfl ?_
    obtain ⟨dr, hd⟩ := hx.1
    exact n_mixes_1 E h hm (σ.1 mm) 0 w dr (by omega) hd (fun q hq => by omega) (fun _ _ => rfl)
  · skip
    have c := zq_eq0.mp (Decidable.not_not.mp c)
    rw [if_neg c]
    refine zV.run kX4_mixes 1 rfl ?_
    exact zV.iret kX4_mixes rfl rfl (⟨rfl, h, fun _ _ => rfl⟩)
end
section
/-! ===== the model: forcing ===== -/
def twf : Nat → Nat → Nat
  | 0, _ => 0
  | f + 1, o => if o % 2 = 0 then twf f (o / 2) + 1 else 0
def iah (p q : Nat) : Bool :=
  if oddf 64 p = 1 ∨ oddf 64 q = 1 then decide (1 < oddf 64 p ∨ (oddf 64 q = 1 ∧ q < p))
  else if twf 64 p = twf 64 q then decide (oddf 64 p < oddf 64 q) else decide (twf 64 p < twf 64 q)
theorem iah_cah : ∀ p, p < 65 → 0 < p → ∀ q, q < 65 → 0 < q → iah p q = cah p q := by decide +kernel
theorem twf_le : ∀ f o, twf f o ≤ f
  | 0, o => Nat.le_refl _
  | f + 1, o => by
    have := twf_le f (o / 2)
    unfold twf
    split <;> omega
theorem n_isAhead_p (E : zE) (w : zWd) {Post : Option Value → zWd → Prop} (p q : Int32) (P Q : Nat) (kk : zV E mX4_isAhead 0 Post 29 [.int p, .int q, .int (nI (twf 64 P)), .int 0, .int (nI (oddf 64 P)), .int (nI Q)] [] w) : ∀ (f t o : Nat), 0 < o → o < 2 ^ f → o < 1000 → t + f = 64 → oddf f o = oddf 64 P → t + twf f o = twf 64 P → zV E mX4_isAhead 0 Post 10 [.int p, .int q, .int (nI t), .int 0, .int (nI o), .int (nI Q)] [] w := by
  intro f
  induction f with
  | zero => intro t o h1 h2; omega
  | succ f ih =>
    intro t o h1 h2 h3 h4 e1 e2
    have d2 : nI o / 2 = nI (o / 2) := pk_div (d := 2) (by omega) (by decide) (by decide)
    have d3 : nI o - nI o / 2 * 2 = nI (o % 2) := pk_rem (d := 2) (by omega) (by decide) (by decide)
    refine zV.run kX4_isAhead 2 rfl ?_
    refine zV.irem kX4_isAhead rfl (by decide) ?_
    rw [d3]
    refine zV.if2 kX4_isAhead rfl (fun c => ?_) (fun c => ?_)
    · skip
      have c : ¬ o % 2 = 0 := fun z => c (by rw [z]; rfl)
      have f1 : oddf (f + 1) o = o := if_neg c
      have f2 : twf (f + 1) o = 0 := if_neg c
      rw [f1] at e1
      rw [f2] at e2
      rw [show t = twf 64 P by omega, e1]
      exact kk
    · skip
      have c := (nI_eq (a := o % 2) (b := 0) (by omega) (by omega)).mp (Decidable.not_not.mp c)
      have f1 : oddf (f + 1) o = oddf f (o / 2) := if_pos c
      have f2 : twf (f + 1) o = twf f (o / 2) + 1 := if_pos c
      refine zV.run kX4_isAhead 2 rfl ?_
      refine zV.idiv kX4_isAhead rfl (by decide) ?_
      rw [d2]
      refine zV.run kX4_isAhead 3 rfl ?_
      rw [nI_1]
      exact ih (t + 1) (o / 2) (by omega) (by rw [Nat.pow_succ] at h2; omega) (by omega) (by omega) (by rw [← f1]; exact e1) (by omega)
theorem n_isAhead_q (E : zE) (w : zWd) {Post : Option Value → zWd → Prop} (p q : Int32) (x1 x2 : Int32) (Q : Nat) (kk : zV E mX4_isAhead 0 Post 48 [.int p, .int q, .int x1, .int (nI (twf 64 Q)), .int x2, .int (nI (oddf 64 Q))] [] w) : ∀ (f t o : Nat), 0 < o → o < 2 ^ f → o < 1000 → t + f = 64 → oddf f o = oddf 64 Q → t + twf f o = twf 64 Q → zV E mX4_isAhead 0 Post 29 [.int p, .int q, .int x1, .int (nI t), .int x2, .int (nI o)] [] w := by
  intro f
  induction f with
  | zero => intro t o h1 h2; omega
  | succ f ih =>
    intro t o h1 h2 h3 h4 e1 e2
    have d2 : nI o / 2 = nI (o / 2) := pk_div (d := 2) (by omega) (by decide) (by decide)
    have d3 : nI o - nI o / 2 * 2 = nI (o % 2) := pk_rem (d := 2) (by omega) (by decide) (by decide)
    refine zV.run kX4_isAhead 2 rfl ?_
    refine zV.irem kX4_isAhead rfl (by decide) ?_
    rw [d3]
    refine zV.if2 kX4_isAhead rfl (fun c => ?_) (fun c => ?_)
    · skip
      have c : ¬ o % 2 = 0 := fun z => c (by rw [z]; rfl)
      have f1 : oddf (f + 1) o = o := if_neg c
      have f2 : twf (f + 1) o = 0 := if_neg c
      rw [f1] at e1
      rw [f2] at e2
      rw [show t = twf 64 Q by omega, e1]
      exact kk
    · skip
      have c := (nI_eq (a := o % 2) (b := 0) (by omega) (by omega)).mp (Decidable.not_not.mp c)
      have f1 : oddf (f + 1) o = oddf f (o / 2) := if_pos c
      have f2 : twf (f + 1) o = twf f (o / 2) + 1 := if_pos c
      refine zV.run kX4_isAhead 2 rfl ?_
      refine zV.idiv kX4_isAhead rfl (by decide) ?_
      rw [d2]
      refine zV.run kX4_isAhead 3 rfl ?_
      rw [nI_1]
      exact ih (t + 1) (o / 2) (by omega) (by rw [Nat.pow_succ] at h2; omega) (by omega) (by omega) (by rw [← f1]; exact e1) (by omega)
theorem n_isAhead (E : zE) (w : zWd) {p q : Nat} (hp : p < 65) (hp0 : 0 < p) (hq : q < 65) (hq0 : 0 < q) : zOk E mX4_isAhead 0 [.int (nI p), .int (nI q)] w (zR0 w (.int (zq (cah p q = true)))) := by
  rw [← iah_cah p hp hp0 q hq hq0]
  have o1 := oddf_le 64 p
  have o2 := oddf_le 64 q
  have t1 := twf_le 64 p
  have t2 := twf_le 64 q
  have n1 : ∀ x, x < 65 → (nI x = 1 ↔ x = 1) := fun x hx => nI_eq (a := x) (b := 1) (by omega) (by omega)
  refine zOk.of (by decide +kernel) (Nat.le_of_ble_eq_true rfl) ?_
  refine zV.run kX4_isAhead 8 rfl ?_
  refine n_isAhead_p E w (nI p) (nI q) p q ?_ 64 0 p hp0 (by omega) (by omega) (by omega) rfl (by omega)
  refine n_isAhead_q E w (nI p) (nI q) _ _ q ?_ 64 0 q hq0 (by omega) (by omega) (by omega) rfl (by omega)
  have part1 : (oddf 64 p = 1 ∨ oddf 64 q = 1) → zV E mX4_isAhead 0 (zR0 w (.int (zq (iah p q = true)))) 60 [.int (nI p), .int (nI q), .int (nI (twf 64 p)), .int (nI (twf 64 q)), .int (nI (oddf 64 p)), .int (nI (oddf 64 q))] [] w := by
    intro hy
    have e : iah p q = decide (1 < oddf 64 p ∨ (oddf 64 q = 1 ∧ q < p)) := if_pos hy
    rw [e]
    refine zV.run kX4_isAhead 2 rfl ?_
    refine zV.ic2 kX4_isAhead rfl (fun c => ?_) (fun c => ?_)
    · skip
      have c := (nI_ltI (a := 1) (b := oddf 64 p) (by omega) (by omega)).mp c
      refine zV.run kX4_isAhead 2 rfl ?_
      exact zV.zret kX4_isAhead rfl rfl (Or.inr rfl) (⟨by rw [zq_t]; simp; omega, rfl⟩)
    · skip
      have c := mt (nI_ltI (a := 1) (b := oddf 64 p) (by omega) (by omega)).mpr c
      refine zV.run kX4_isAhead 2 rfl ?_
      refine zV.ic2 kX4_isAhead rfl (fun c2 => ?_) (fun c2 => ?_)
      · skip
        have c2 := mt (n1 (oddf 64 q) (by omega)).mpr c2
        refine zV.run kX4_isAhead 1 rfl ?_
        exact zV.zret kX4_isAhead rfl rfl (Or.inl rfl) (⟨by rw [zq_f]; simp; omega, rfl⟩)
      · skip
        have c2 := (n1 (oddf 64 q) (by omega)).mp (Decidable.not_not.mp c2)
        refine zV.run kX4_isAhead 2 rfl ?_
        refine zV.ic2 kX4_isAhead rfl (fun c3 => ?_) (fun c3 => ?_)
        · skip
          have c3 := (nI_leI (by omega) (by omega)).mp c3
          refine zV.run kX4_isAhead 1 rfl ?_
          exact zV.zret kX4_isAhead rfl rfl (Or.inl rfl) (⟨by rw [zq_f]; simp; omega, rfl⟩)
        · skip
          have c3 := mt (nI_leI (a := p) (b := q) (by omega) (by omega)).mpr c3
          refine zV.run kX4_isAhead 2 rfl ?_
          exact zV.zret kX4_isAhead rfl rfl (Or.inr rfl) (⟨by rw [zq_t]; simp; omega, rfl⟩)
  refine zV.run kX4_isAhead 2 rfl ?_
  refine zV.ic2 kX4_isAhead rfl (fun c => ?_) (fun c => ?_)
  · skip
    have c := (n1 (oddf 64 p) (by omega)).mp c
    exact part1 (Or.inl c)
  · skip
    have c := mt (n1 (oddf 64 p) (by omega)).mpr c
    refine zV.run kX4_isAhead 2 rfl ?_
    refine zV.ic2 kX4_isAhead rfl (fun c2 => ?_) (fun c2 => ?_)
    · skip
      have c2 := mt (n1 (oddf 64 q) (by omega)).mpr c2
      have e : iah p q = if twf 64 p = twf 64 q then decide (oddf 64 p < oddf 64 q) else decide (twf 64 p < twf 64 q) := if_neg (fun z => z.elim c c2)
      rw [e]
      refine zV.run kX4_isAhead 2 rfl ?_
      refine zV.ic2 kX4_isAhead rfl (fun c3 => ?_) (fun c3 => ?_)
      · skip
        have c3 := (nI_eq (by omega) (by omega)).mp c3
        rw [if_pos c3]
        refine zV.run kX4_isAhead 2 rfl ?_
        refine zV.ic2 kX4_isAhead rfl (fun c4 => ?_) (fun c4 => ?_)
        · skip
          have c4 := (nI_leI (by omega) (by omega)).mp c4
          refine zV.run kX4_isAhead 1 rfl ?_
          exact zV.zret kX4_isAhead rfl rfl (Or.inl rfl) (⟨by rw [zq_f]; simp; omega, rfl⟩)
        · skip
          have c4 := mt (nI_leI (a := oddf 64 q) (b := oddf 64 p) (by omega) (by omega)).mpr c4
          refine zV.run kX4_isAhead 2 rfl ?_
          exact zV.zret kX4_isAhead rfl rfl (Or.inr rfl) (⟨by rw [zq_t]; simp; omega, rfl⟩)
      · skip
        have c3 := mt (nI_eq (a := twf 64 p) (b := twf 64 q) (by omega) (by omega)).mpr c3
        rw [if_neg c3]
        refine zV.run kX4_isAhead 2 rfl ?_
        refine zV.ic2 kX4_isAhead rfl (fun c4 => ?_) (fun c4 => ?_)
        · skip
          have c4 := (nI_leI (by omega) (by omega)).mp c4
          refine zV.run kX4_isAhead 2 rfl ?_
          exact zV.zret kX4_isAhead rfl rfl (Or.inl rfl) (⟨by rw [zq_f]; simp; omega, rfl⟩)
        · skip
          have c4 := mt (nI_leI (a := twf 64 q) (b := twf 64 p) (by omega) (by omega)).mpr c4
          refine zV.run kX4_isAhead 2 rfl ?_
          exact zV.zret kX4_isAhead rfl rfl (Or.inr rfl) (⟨by rw [zq_t]; simp; omega, rfl⟩)
    · skip
      have c2 := (n1 (oddf 64 q) (by omega)).mp (Decidable.not_not.mp c2)
      exact part1 (Or.inr c2)
theorem n_forces (E : zE) (w : zWd) (p q : Int32) : zOk E mX4_forces 1 [.ref 49, .int p, .int q] w (zR0 w (.int (if (1 ≤ p.toInt ∧ p.toInt ≤ 64) ∧ (1 ≤ q.toInt ∧ q.toInt ≤ 64) then zq (p.toInt.toNat = q.toInt.toNat ∨ cah p.toInt.toNat q.toInt.toNat = true) else -2))) := by
  refine zOk.of (by decide +kernel) (Nat.le_of_ble_eq_true rfl) ?_
  refine zV.run kX4_forces 3 rfl ?_
  refine zV.ldc2 kX4_forces rfl qX4_159 ?_
  refine zV.cs kX4_forces rfl lX4_47 (n_in E w p.toInt64 1 64) (by decide) rfl rfl (Nat.le_of_ble_eq_true rfl) ?_
  rintro _ _ ⟨rfl, rfl⟩
  rw [zq_c inK]
  refine zV.if2 kX4_forces rfl (fun c => ?_) (fun c => ?_)
  · skip
    have c : ¬ (1 ≤ p.toInt ∧ p.toInt ≤ 64) := zq_eq0.mp c
    refine zV.run kX4_forces 2 rfl ?_
    exact zV.iret kX4_forces rfl rfl (⟨by rw [if_neg (fun q => c q.1)], rfl⟩)
  · skip
    have c : 1 ≤ p.toInt ∧ p.toInt ≤ 64 := Decidable.not_not.mp (mt zq_eq0.mpr c)
    refine zV.run kX4_forces 3 rfl ?_
    refine zV.ldc2 kX4_forces rfl qX4_159 ?_
    refine zV.cs kX4_forces rfl lX4_47 (n_in E w q.toInt64 1 64) (by decide) rfl rfl (Nat.le_of_ble_eq_true rfl) ?_
    rintro _ _ ⟨rfl, rfl⟩
    rw [zq_c inK]
    refine zV.if2 kX4_forces rfl (fun c2 => ?_) (fun c2 => ?_)
    · skip
      have c2 : 1 ≤ q.toInt ∧ q.toInt ≤ 64 := Decidable.not_not.mp (mt zq_eq0.mpr c2)
      rw [if_pos ⟨c, c2⟩]
      obtain ⟨pp, epp⟩ : ∃ ii, ii = p.toInt.toNat := ⟨_, rfl⟩
      have ep : p = nI pp := by rw [epp]; exact i32_nI (by omega)
      obtain ⟨qq, eqq⟩ : ∃ ii, ii = q.toInt.toNat := ⟨_, rfl⟩
      have eq : q = nI qq := by rw [eqq]; exact i32_nI (by omega)
      rw [← epp, ← eqq, ep, eq]
      refine zV.run kX4_forces 2 rfl ?_
      refine zV.ic2 kX4_forces rfl (fun c3 => ?_) (fun c3 => ?_)
      · skip
        have c3 := (nI_eq (by omega) (by omega)).mp c3
        refine zV.run kX4_forces 2 rfl ?_
        exact zV.iret kX4_forces rfl rfl (⟨by rw [zq_t (Or.inl c3)], rfl⟩)
      · skip
        have c3 := mt (nI_eq (a := pp) (b := qq) (by omega) (by omega)).mpr c3
        refine zV.run kX4_forces 2 rfl ?_
        refine zV.cs kX4_forces rfl lX4_161 (n_isAhead E w (p := pp) (q := qq) (by omega) (by omega) (by omega) (by omega)) (by decide) rfl rfl (Nat.le_of_ble_eq_true rfl) ?_
        rintro _ _ ⟨rfl, rfl⟩
        refine zV.if2 kX4_forces rfl (fun c4 => ?_) (fun c4 => ?_)
        · skip
          have c4 := zq_eq0.mp c4
          refine zV.run kX4_forces 1 rfl ?_
          exact zV.iret kX4_forces rfl rfl (⟨by rw [zq_f (fun z => z.elim c3 c4)], rfl⟩)
        · skip
          have c4 := Decidable.not_not.mp (mt zq_eq0.mpr c4)
          refine zV.run kX4_forces 2 rfl ?_
          exact zV.iret kX4_forces rfl rfl (⟨by rw [zq_t (Or.inr c4)], rfl⟩)
    · skip
      have c2 : ¬ (1 ≤ q.toInt ∧ q.toInt ≤ 64) := zq_eq0.mp (Decidable.not_not.mp c2)
      refine zV.run kX4_forces 2 rfl ?_
      exact zV.iret kX4_forces rfl rfl (⟨by rw [if_neg (fun q => c2 q.2)], rfl⟩)
/-! ===== the model: tops ===== -/
def tpi (ld : Nat → Nat) (c : Nat) : Nat → Bool
  | 0 => true
  | i + 1 => tpi ld c i && (if i < c then decide (0 < sl ld i) else decide (sl ld i < 0))
def tof (n : Nat) (ld : Nat → Nat) : Nat → Nat → Int
  | 0, _ => -1
  | r + 1, c => if tpi ld c n = true then (c : Int) else tof n ld r (c + 1)
theorem tpi_iff (ld : Nat → Nat) (c : Nat) : ∀ k, tpi ld c k = true ↔ ∀ i, i < k → (i < c → 0 < sl ld i) ∧ (¬ i < c → sl ld i < 0)
  | 0 => ⟨fun _ i h => by omega, fun _ => rfl⟩
  | k + 1 => by
    show (tpi ld c k && _) = true ↔ _
    rw [Bool.and_eq_true, tpi_iff ld c k]
    constructor
    · intro h i hi
      by_cases e : i = k
      · subst e
        have h2 := h.2
        refine ⟨fun q => ?_, fun q => ?_⟩
        · rw [if_pos q] at h2; exact of_decide_eq_true h2
        · rw [if_neg q] at h2; exact of_decide_eq_true h2
      · exact h.1 i (by omega)
    · intro h
      refine ⟨fun i hi => h i (by omega), ?_⟩
      by_cases q : k < c
      · rw [if_pos q]; exact decide_eq_true ((h k (by omega)).1 q)
      · rw [if_neg q]; exact decide_eq_true ((h k (by omega)).2 q)
theorem ft1_pos (n : Nat) (ld : Nat → Nat) : ∀ r c i, c ≤ i → i < ft1 n ld r c → 0 < sl ld i
  | 0, c, i, h1, h2 => by have h2 : i < c := h2; omega
  | r + 1, c, i, h1, h2 => by
    unfold ft1 at h2
    split at h2
    next q =>
      by_cases e : i = c
      · rw [e]; exact q
      · exact ft1_pos n ld r (c + 1) i (by omega) h2
    next q => omega
theorem ft1_stop (n : Nat) (ld : Nat → Nat) : ∀ r c, ft1 n ld r c = c + r ∨ ¬ 0 < sl ld (ft1 n ld r c)
  | 0, c => Or.inl rfl
  | r + 1, c => by
    unfold ft1
    split
    next q => rcases ft1_stop n ld r (c + 1) with h | h
              · left; omega
              · right; exact h
    next q => right; exact q
theorem ft2_iff (n : Nat) (ld : Nat → Nat) : ∀ r i, ft2 n ld r i = true ↔ ∀ q, i ≤ q → q < i + r → sl ld q < 0
  | 0, i => ⟨fun _ q h1 h2 => by omega, fun _ => rfl⟩
  | r + 1, i => by
    unfold ft2
    split
    next c =>
      rw [ft2_iff n ld r (i + 1)]
      constructor
      · intro h q h1 h2
        by_cases e : q = i
        · rw [e]; exact c
        · exact h q (by omega) (by omega)
      · intro h q h1 h2
        exact h q (by omega) (by omega)
    next c =>
      constructor
      · intro h; cases h
      · intro h; exact absurd (h i (Nat.le_refl _) (by omega)) c
theorem tpi_c0 {n : Nat} {ld : Nat → Nat} {c : Nat} (h1 : 0 < c) (h2 : c < n) : tpi ld c n = true ↔ (c = ft1 n ld n 0 ∧ ft2 n ld (n - c) c = true) := by
  have r0 := ft1_rg n ld n 0
  rw [tpi_iff, ft2_iff]
  constructor
  · intro h
    have hc : c = ft1 n ld n 0 := by
      rcases Nat.lt_trichotomy c (ft1 n ld n 0) with q | q | q
      · have a1 := ft1_pos n ld n 0 c (by omega) q
        have a2 := (h c h2).2 (by omega)
        omega
      · exact q
      · rcases ft1_stop n ld n 0 with z | z
        · omega
        · exact absurd ((h (ft1 n ld n 0) (by omega)).1 q) z
    exact ⟨hc, fun q a1 a2 => (h q (by omega)).2 (by omega)⟩
  · rintro ⟨hc, h⟩ i hi
    refine ⟨fun q => ft1_pos n ld n 0 i (by omega) (by omega), fun q => h i (by omega) (by omega)⟩
theorem tof_sp (n : Nat) (ld : Nat → Nat) : ∀ r c, (tof n ld r c = -1 ∧ ∀ q, c ≤ q → q < c + r → ¬ tpi ld q n = true) ∨ ∃ q, c ≤ q ∧ q < c + r ∧ tof n ld r c = (q : Int) ∧ tpi ld q n = true
  | 0, c => Or.inl ⟨rfl, fun q h1 h2 => by omega⟩
  | r + 1, c => by
    unfold tof
    split
    next h => right; exact ⟨c, Nat.le_refl _, by omega, rfl, h⟩
    next h =>
      rcases tof_sp n ld r (c + 1) with ⟨g1, g2⟩ | ⟨q, g1, g2, g3, g4⟩
      · left
        refine ⟨g1, fun q h1 h2 => ?_⟩
        by_cases e : q = c
        · rw [e]; exact h
        · exact g2 q (by omega) (by omega)
      · right; exact ⟨q, by omega, by omega, g3, g4⟩
theorem tof_ftp {n : Nat} (ld : Nat → Nat) (hn : 1 ≤ n) : tof n ld (n - 1) 1 = ftp n ld := by
  rcases tof_sp n ld (n - 1) 1 with ⟨g1, g2⟩ | ⟨q, g1, g2, g3, g4⟩
  · rw [g1]
    unfold ftp
    rw [if_neg]
    rintro ⟨a1, a2, a3⟩
    exact g2 (ft1 n ld n 0) (by omega) (by omega) ((tpi_c0 a2 a3).mpr ⟨rfl, a1⟩)
  · obtain ⟨e, h⟩ := (tpi_c0 (n := n) (by omega) (by omega)).mp g4
    rw [g3]
    unfold ftp
    rw [← e, if_pos ⟨h, by omega, by omega⟩]
theorem n_topOf_2 (E : zE) {w : zWd} {σ : zSt} {ab be : Int64} {rm en ej : Int32} {Post : Option Value → zWd → Prop} (h0 : zIs w 49 (zMo ab be rm en ej)) (hc : zMc w σ) {m c : Nat} (hm : m < 8) (hcn : c < 100)
    (kk : ∀ z4 : Value, zV E mX4_topOf 1 Post 73 [.ref 49, .int (nI m), .int (nI c), .int (zq (tpi (σ.2 m) c (σ.1 m) = true)), z4] [] w) :
    ∀ (r i : Nat), i + r = σ.1 m → zV E mX4_topOf 1 Post 17 [.ref 49, .int (nI m), .int (nI c), .int (zq (tpi (σ.2 m) c i = true)), .int (nI i)] [] w := by
  obtain ⟨⟨sz, a1, a2⟩, -, hv⟩ := id hc
  obtain ⟨v1, v5, vl⟩ := hv m hm
  intro r
  induction r with
  | zero =>
    intro i hi
    have e : i = σ.1 m := by omega
    subst e
    refine zV.run kX4_topOf 2 rfl ?_
    refine zV.gf kX4_topOf rfl fX4_7 (h0) rfl ?_
    refine zV.run kX4_topOf 1 rfl ?_
    refine zV.ial kX4_topOf rfl (a1) (m) (rfl) (hm) (by decide) ?_
    rw [a2 m hm]
    refine zV.ict kX4_topOf (cd := .ge) rfl (Int32.le_refl _) ?_
    exact kk _
  | succ r ih =>
    intro i hi
    have sb := sl_rg v5 vl (i := i) (by omega)
    have nxt : ∀ v : Bool, v = tpi (σ.2 m) c (i + 1) → zV E mX4_topOf 1 Post 66 [.ref 49, .int (nI m), .int (nI c), .int (zq (tpi (σ.2 m) c i = true)), .int (nI i)] [.int (zq (v = true))] w := by
      intro v hv
      subst hv
      refine zV.run kX4_topOf 3 rfl ?_
      rw [nI_1]
      exact ih (i + 1) (by omega)
    have ea : tpi (σ.2 m) c (i + 1) = (tpi (σ.2 m) c i && (if i < c then decide (0 < sl (σ.2 m) i) else decide (sl (σ.2 m) i < 0))) := rfl
    refine zV.run kX4_topOf 2 rfl ?_
    refine zV.gf kX4_topOf rfl fX4_7 (h0) rfl ?_
    refine zV.run kX4_topOf 1 rfl ?_
    refine zV.ial kX4_topOf rfl (a1) (m) (rfl) (hm) (by decide) ?_
    rw [a2 m hm]
    refine zV.icf kX4_topOf (cd := .ge) rfl (nI_ge (by omega) (by omega)) ?_
    refine zV.run kX4_topOf 1 rfl ?_
    refine zV.if2 kX4_topOf rfl (fun c1 => ?_) (fun c1 => ?_)
    · skip
      have c1 := zq_eq0.mp c1
      refine zV.run kX4_topOf 1 rfl ?_
      exact nxt false (by rw [ea]; simp [c1])
    · skip
      have c1 := Decidable.not_not.mp (mt zq_eq0.mpr c1)
      refine zV.run kX4_topOf 2 rfl ?_
      refine zV.ic2 kX4_topOf rfl (fun c2 => ?_) (fun c2 => ?_)
      · skip
        have c2 := (nI_leI (by omega) (by omega)).mp c2
        refine zV.run kX4_topOf 3 rfl ?_
        refine zV.cv kX4_topOf rfl lX4_57 (n_slopeOf E h0 hc hm (i := i) (by omega)) (by decide) rfl (h0) rfl rfl rfl (Nat.le_of_ble_eq_true rfl) ?_
        rintro _ _ ⟨rfl, rfl⟩
        refine zV.if2 kX4_topOf rfl (fun c3 => ?_) (fun c3 => ?_)
        · skip
          have c3 := (iI_le (a := 0) (b := sl (σ.2 m) i) (by omega) (by omega) (by omega) (by omega)).mp c3
          refine zV.run kX4_topOf 1 rfl ?_
          exact nxt false (by rw [ea, if_neg (by omega), decide_eq_false (by omega)]; simp)
        · skip
          have c3 := mt (iI_le (a := 0) (b := sl (σ.2 m) i) (by omega) (by omega) (by omega) (by omega)).mpr c3
          refine zV.run kX4_topOf 2 rfl ?_
          exact nxt true (by rw [ea, if_neg (by omega), decide_eq_true (by omega), c1]; rfl)
      · skip
        have c2 := mt (nI_leI (a := c) (b := i) (by omega) (by omega)).mpr c2
        refine zV.run kX4_topOf 3 rfl ?_
        refine zV.cv kX4_topOf rfl lX4_57 (n_slopeOf E h0 hc hm (i := i) (by omega)) (by decide) rfl (h0) rfl rfl rfl (Nat.le_of_ble_eq_true rfl) ?_
        rintro _ _ ⟨rfl, rfl⟩
        refine zV.if2 kX4_topOf rfl (fun c3 => ?_) (fun c3 => ?_)
        · skip
          have c3 := (iI_le (a := sl (σ.2 m) i) (b := 0) (by omega) (by omega) (by omega) (by omega)).mp c3
          refine zV.run kX4_topOf 1 rfl ?_
          exact nxt false (by rw [ea, if_pos (by omega), decide_eq_false (by omega)]; simp)
        · skip
          have c3 := mt (iI_le (a := sl (σ.2 m) i) (b := 0) (by omega) (by omega) (by omega) (by omega)).mpr c3
          refine zV.run kX4_topOf 3 rfl ?_
          exact nxt true (by rw [ea, if_pos (by omega), decide_eq_true (by omega), c1]; rfl)
theorem n_topOf_1 (E : zE) {w : zWd} {σ : zSt} {ab be : Int64} {rm en ej : Int32} (h0 : zIs w 49 (zMo ab be rm en ej)) (hc : zMc w σ) {m : Nat} (hm : m < 8) : ∀ (r c : Nat) (z3 z4 : Value), c + r = σ.1 m → zV E mX4_topOf 1 (zR0 w (.int (iI (tof (σ.1 m) (σ.2 m) r c)))) 2 [.ref 49, .int (nI m), .int (nI c), z3, z4] [] w := by
  obtain ⟨⟨sz, a1, a2⟩, -, hv⟩ := id hc
  obtain ⟨v1, v5, vl⟩ := hv m hm
  intro r
  induction r with
  | zero =>
    intro c z3 z4 hc2
    have e : c = σ.1 m := by omega
    subst e
    refine zV.run kX4_topOf 2 rfl ?_
    refine zV.gf kX4_topOf rfl fX4_7 (h0) rfl ?_
    refine zV.run kX4_topOf 1 rfl ?_
    refine zV.ial kX4_topOf rfl (a1) (m) (rfl) (hm) (by decide) ?_
    rw [a2 m hm]
    refine zV.ict kX4_topOf (cd := .ge) rfl (Int32.le_refl _) ?_
    refine zV.run kX4_topOf 1 rfl ?_
    exact zV.iret kX4_topOf rfl rfl (⟨rfl, rfl⟩)
  | succ r ih =>
    intro c z3 z4 hc2
    refine zV.run kX4_topOf 2 rfl ?_
    refine zV.gf kX4_topOf rfl fX4_7 (h0) rfl ?_
    refine zV.run kX4_topOf 1 rfl ?_
    refine zV.ial kX4_topOf rfl (a1) (m) (rfl) (hm) (by decide) ?_
    rw [a2 m hm]
    refine zV.icf kX4_topOf (cd := .ge) rfl (nI_ge (by omega) (by omega)) ?_
    refine zV.run kX4_topOf 4 rfl ?_
    refine n_topOf_2 E h0 hc hm (c := c) (by omega) (fun y4 => ?_) (σ.1 m) 0 (by omega)
    refine zV.run kX4_topOf 1 rfl ?_
    refine zV.if2 kX4_topOf rfl (fun c1 => ?_) (fun c1 => ?_)
    · skip
      have c1 := zq_eq0.mp c1
      have e : tof (σ.1 m) (σ.2 m) (r + 1) c = tof (σ.1 m) (σ.2 m) r (c + 1) := if_neg c1
      rw [e]
      refine zV.run kX4_topOf 2 rfl ?_
      rw [nI_1]
      exact ih (c + 1) _ _ (by omega)
    · skip
      have c1 := Decidable.not_not.mp (mt zq_eq0.mpr c1)
      have e : tof (σ.1 m) (σ.2 m) (r + 1) c = (c : Int) := if_pos c1
      refine zV.run kX4_topOf 1 rfl ?_
      exact zV.iret kX4_topOf rfl rfl (⟨by rw [e, nI_iI], rfl⟩)
theorem n_topOf (E : zE) {w : zWd} {σ : zSt} {ab be : Int64} {rm en ej : Int32} (h0 : zIs w 49 (zMo ab be rm en ej)) (hc : zMc w σ) {m : Nat} (hm : m < 8) : zOk E mX4_topOf 1 [.ref 49, .int (nI m)] w (zR0 w (.int (iI (ftp (σ.1 m) (σ.2 m))))) := by
  have v1 := (hc.2.2 m hm).1
  rw [← tof_ftp _ v1]
  refine zOk.of (by decide +kernel) (Nat.le_of_ble_eq_true rfl) ?_
  refine zV.run kX4_topOf 2 rfl ?_
  exact n_topOf_1 E h0 hc hm (σ.1 m - 1) 1 _ _ (by omega)
theorem n_top (E : zE) {w : zWd} {σ : zSt} (h : zMs w σ) (m : Int32) : zOk E mX4_top 2 [.ref 49, .int m] w (zR0 w (.int (if okM m then iI (ftp (σ.1 m.toInt.toNat) (σ.2 m.toInt.toNat)) else -2))) := by
  obtain ⟨⟨ab, be, rm, en, ej, h0⟩, hc, hx⟩ := id h
  refine zOk.of (by decide +kernel) (Nat.le_of_ble_eq_true rfl) ?_
  refine zV.run kX4_top 1 rfl ?_
  refine zV.cs kX4_top rfl lX4_51 (n_isMap E w m) (by decide) rfl rfl (Nat.le_of_ble_eq_true rfl) ?_
  rintro _ _ ⟨rfl, rfl⟩
  refine zV.if2 kX4_top rfl (fun c => ?_) (fun c => ?_)
  · skip
    have c := zq_eq0.mp c
    refine zV.run kX4_top 1 rfl ?_
    exact zV.iret kX4_top rfl rfl (⟨by rw [if_neg c], rfl⟩)
  · skip
    have c := Decidable.not_not.mp (mt zq_eq0.mpr c)
    obtain ⟨mm, emm⟩ : ∃ mm, mm = m.toInt.toNat := ⟨_, rfl⟩
    have em : m = nI mm := by rw [emm]; exact i32_nI c.1
    have hm : mm < 8 := by omega
    rw [if_pos c, ← emm, em]
    refine zV.run kX4_top 2 rfl ?_
    refine zV.cv kX4_top rfl lX4_164 (n_topOf E h0 hc hm) (by decide) rfl (h0) rfl rfl rfl (Nat.le_of_ble_eq_true rfl) ?_
    rintro _ _ ⟨rfl, rfl⟩
    refine zV.run kX4_top 1 rfl ?_
    exact zV.iret kX4_top rfl rfl (⟨rfl, rfl⟩)
theorem n_topWord_l (E : zE) {w : zWd} {σ : zSt} {ab be : Int64} {rm en ej : Int32} (h0 : zIs w 49 (zMo ab be rm en ej)) (hc : zMc w σ) {m c i : Nat} (hm : m < 8) (hcn : c ≤ σ.1 m) (hi : i ≤ 1000) : ∀ (r k : Nat), k + r = i → zV E mX4_topWord 2 (zR0 w (.int (if orb (σ.2 m) c i = c then 1 else if orb (σ.2 m) c i < c then 0 else 2))) 42 [.ref 49, .int (nI m), .int (nI i), .int (nI c), .int (nI (orb (σ.2 m) c k)), .int (nI k)] [] w := by
  obtain ⟨-, ⟨ld, b1, b2⟩, hv⟩ := id hc
  obtain ⟨v1, v5, vl⟩ := hv m hm
  intro r
  induction r with
  | zero =>
    intro k hk
    have e : k = i := by omega
    subst e
    have ho := orb_le vl hcn k
    refine zV.run kX4_topWord 2 rfl ?_
    refine zV.ict kX4_topWord (cd := .ge) rfl (Int32.le_refl _) ?_
    refine zV.run kX4_topWord 2 rfl ?_
    refine zV.ic2 kX4_topWord rfl (fun c1 => ?_) (fun c1 => ?_)
    · skip
      have c1 := (nI_leI (by omega) (by omega)).mp c1
      refine zV.run kX4_topWord 2 rfl ?_
      refine zV.ic2 kX4_topWord rfl (fun c2 => ?_) (fun c2 => ?_)
      · skip
        have c2 := mt (nI_eq (a := orb (σ.2 m) c k) (b := c) (by omega) (by omega)).mpr c2
        refine zV.run kX4_topWord 1 rfl ?_
        exact zV.iret kX4_topWord rfl rfl (⟨by rw [if_neg c2, if_neg (by omega)], rfl⟩)
      · skip
        have c2 := (nI_eq (by omega) (by omega)).mp (Decidable.not_not.mp c2)
        refine zV.run kX4_topWord 2 rfl ?_
        exact zV.iret kX4_topWord rfl rfl (⟨by rw [if_pos c2], rfl⟩)
    · skip
      have c1 := mt (nI_leI (a := c) (b := orb (σ.2 m) c k) (by omega) (by omega)).mpr c1
      refine zV.run kX4_topWord 2 rfl ?_
      exact zV.iret kX4_topWord rfl rfl (⟨by rw [if_neg (by omega), if_pos (by omega)], rfl⟩)
  | succ r ih =>
    intro k hk
    have ho := orb_le vl hcn k
    refine zV.run kX4_topWord 2 rfl ?_
    refine zV.icf kX4_topWord (cd := .ge) rfl (nI_ge (by omega) (by omega)) ?_
    refine zV.run kX4_topWord 1 rfl ?_
    refine zV.gf kX4_topWord rfl fX4_13 (h0) rfl ?_
    refine zV.run kX4_topWord 5 rfl ?_
    refine zV.ial kX4_topWord rfl (b1) (7 * m + orb (σ.2 m) c k) (ix7) (by omega) (by decide) ?_
    rw [b2 m _ hm ho]
    refine zV.run kX4_topWord 3 rfl ?_
    rw [nI_1]
    exact ih (k + 1) (by omega)
theorem n_topWord (E : zE) {w : zWd} {σ : zSt} (h : zMs w σ) (m i : Int32) : zOk E mX4_topWord 2 [.ref 49, .int m, .int i] w (zR0 w (.int (if okM m ∧ (1 ≤ i.toInt ∧ i.toInt ≤ 1000) then twd (σ.1 m.toInt.toNat) (σ.2 m.toInt.toNat) i.toInt.toNat else -2))) := by
  obtain ⟨⟨ab, be, rm, en, ej, h0⟩, hc, hx⟩ := id h
  refine zOk.of (by decide +kernel) (Nat.le_of_ble_eq_true rfl) ?_
  refine zV.run kX4_topWord 1 rfl ?_
  refine zV.cs kX4_topWord rfl lX4_51 (n_isMap E w m) (by decide) rfl rfl (Nat.le_of_ble_eq_true rfl) ?_
  rintro _ _ ⟨rfl, rfl⟩
  refine zV.if2 kX4_topWord rfl (fun c => ?_) (fun c => ?_)
  · skip
    have c := zq_eq0.mp c
    refine zV.run kX4_topWord 1 rfl ?_
    exact zV.iret kX4_topWord rfl rfl (⟨by rw [if_neg (fun q => c q.1)], rfl⟩)
  · skip
    have c := Decidable.not_not.mp (mt zq_eq0.mpr c)
    refine zV.run kX4_topWord 3 rfl ?_
    refine zV.ldc2 kX4_topWord rfl qX4_86 ?_
    refine zV.cs kX4_topWord rfl lX4_47 (n_in E w i.toInt64 1 1000) (by decide) rfl rfl (Nat.le_of_ble_eq_true rfl) ?_
    rintro _ _ ⟨rfl, rfl⟩
    rw [zq_c inK]
    refine zV.if2 kX4_topWord rfl (fun c2 => ?_) (fun c2 => ?_)
    · skip
      have c2 : 1 ≤ i.toInt ∧ i.toInt ≤ 1000 := Decidable.not_not.mp (mt zq_eq0.mpr c2)
      rw [if_pos ⟨c, c2⟩]
      obtain ⟨mm, emm⟩ : ∃ mm, mm = m.toInt.toNat := ⟨_, rfl⟩
      have em : m = nI mm := by rw [emm]; exact i32_nI c.1
      have hm : mm < 8 := by omega
      obtain ⟨ii, eii⟩ : ∃ ii, ii = i.toInt.toNat := ⟨_, rfl⟩
      have ei : i = nI ii := by rw [eii]; exact i32_nI (by omega)
      have v5 := (hc.2.2 mm hm).2.1
      rw [← emm, ← eii, ei, em]
      have hr := ftp_rg (σ.1 mm) (σ.2 mm)
      refine zV.run kX4_topWord 2 rfl ?_
      refine zV.cv kX4_topWord rfl lX4_164 (n_topOf E h0 hc hm) (by decide) rfl (h0) rfl rfl rfl (Nat.le_of_ble_eq_true rfl) ?_
      rintro _ _ ⟨rfl, rfl⟩
      refine zV.run kX4_topWord 3 rfl ?_
      refine zV.ic2 kX4_topWord rfl (fun c4 => ?_) (fun c4 => ?_)
      · skip
        have c4 : ¬ ftp (σ.1 mm) (σ.2 mm) = -1 := fun q => c4 (by rw [q]; rfl)
        obtain ⟨tc, etc⟩ : ∃ tc : Nat, tc = (ftp (σ.1 mm) (σ.2 mm)).toNat := ⟨_, rfl⟩
        have etc2 : iI (ftp (σ.1 mm) (σ.2 mm)) = nI tc := by rw [nI_iI, etc, Int.toNat_of_nonneg (by omega)]
        have ew : twd (σ.1 mm) (σ.2 mm) ii = if orb (σ.2 mm) tc ii = tc then 1 else if orb (σ.2 mm) tc ii < tc then 0 else 2 := by
          unfold twd
          rw [if_neg c4, ← etc]
        rw [etc2, ew]
        refine zV.run kX4_topWord 4 rfl ?_
        exact n_topWord_l E h0 hc hm (c := tc) (by omega) (i := ii) (by omega) ii 0 (by omega)
      · skip
        have c4 : ftp (σ.1 mm) (σ.2 mm) = -1 := (iI_eq (by omega) (by omega) (by omega) (by omega)).mp (show iI _ = iI (-1) from Decidable.not_not.mp c4)
        refine zV.run kX4_topWord 1 rfl ?_
        exact zV.iret kX4_topWord rfl rfl (⟨by unfold twd; rw [if_pos c4], rfl⟩)
    · skip
      have c2 : ¬ (1 ≤ i.toInt ∧ i.toInt ≤ 1000) := zq_eq0.mp (Decidable.not_not.mp c2)
      refine zV.run kX4_topWord 1 rfl ?_
      exact zV.iret kX4_topWord rfl rfl (⟨by rw [if_neg (fun q => c2 q.2)], rfl⟩)
theorem n_digest_2 (E : zE) {w : zWd} {σ : zSt} {ab be : Int64} {rm en ej : Int32} {Post : Option Value → zWd → Prop} (h0 : zIs w 49 (zMo ab be rm en ej)) (hc : zMc w σ) {m : Nat} (hm : m < 8) (g0 : Int64)
    (kk : ∀ z4 : Value, zV E mX4_digest 0 Post 66 [.ref 49, .long (dgi (σ.2 m) g0 (σ.1 m + 1)), zU, .int (nI m), z4] [] w) :
    ∀ (r i : Nat), i + r = σ.1 m + 1 → zV E mX4_digest 0 Post 29 [.ref 49, .long (dgi (σ.2 m) g0 i), zU, .int (nI m), .int (nI i)] [] w := by
  obtain ⟨⟨sz, a1, a2⟩, ⟨ld, b1, b2⟩, hv⟩ := id hc
  obtain ⟨v1, v5, vl⟩ := hv m hm
  intro r
  induction r with
  | zero =>
    intro i hi
    have e : i = σ.1 m + 1 := by omega
    subst e
    refine zV.run kX4_digest 2 rfl ?_
    refine zV.gf kX4_digest rfl fX4_7 (h0) rfl ?_
    refine zV.run kX4_digest 1 rfl ?_
    refine zV.ial kX4_digest rfl (a1) (m) (rfl) (hm) (by decide) ?_
    rw [a2 m hm]
    refine zV.ict kX4_digest (cd := .gt) rfl (nI_lt (by omega) (by omega)) ?_
    exact kk _
  | succ r ih =>
    intro i hi
    have li := vl i (by omega)
    refine zV.run kX4_digest 2 rfl ?_
    refine zV.gf kX4_digest rfl fX4_7 (h0) rfl ?_
    refine zV.run kX4_digest 1 rfl ?_
    refine zV.ial kX4_digest rfl (a1) (m) (rfl) (hm) (by decide) ?_
    rw [a2 m hm]
    refine zV.icf kX4_digest (cd := .gt) rfl (nI_nlt (by omega) (by omega)) ?_
    refine zV.ldc2 kX4_digest rfl qX4_169 ?_
    refine zV.run kX4_digest 3 rfl ?_
    refine zV.gf kX4_digest rfl fX4_13 (h0) rfl ?_
    refine zV.run kX4_digest 5 rfl ?_
    refine zV.ial kX4_digest rfl (b1) (7 * m + i) (ix7) (by omega) (by decide) ?_
    rw [b2 m i hm (by omega)]
    refine zV.run kX4_digest 5 rfl ?_
    rw [nI_1, nI_l (by omega)]
    exact ih (i + 1) (by omega)
theorem n_digest_1 (E : zE) {w : zWd} {σ : zSt} (h : zMs w σ) : ∀ (r m : Nat) (z4 : Value), m + r = 8 → zV E mX4_digest 0 (zR0 w (.long (dgo σ 8))) 6 [.ref 49, .long (dgo σ m), zU, .int (nI m), z4] [] w := by
  obtain ⟨⟨ab, be, rm, en, ej, h0⟩, hc, hx⟩ := id h
  obtain ⟨⟨sz, a1, a2⟩, -, hv⟩ := id hc
  intro r
  induction r with
  | zero =>
    intro m z4 hm
    have e : m = 8 := by omega
    subst e
    refine zV.run kX4_digest 2 rfl ?_
    refine zV.ict kX4_digest (cd := .ge) rfl (Int32.le_refl _) ?_
    refine zV.run kX4_digest 1 rfl ?_
    exact zV.lret kX4_digest rfl rfl (⟨rfl, rfl⟩)
  | succ r ih =>
    intro m z4 hr
    have hm : m < 8 := by omega
    have v5 := (hv m hm).2.1
    refine zV.run kX4_digest 2 rfl ?_
    refine zV.icf kX4_digest (cd := .ge) rfl (fun q => absurd ((nI_leI (a := 8) (b := m) (by omega) (by omega)).mp q) (by omega)) ?_
    refine zV.ldc2 kX4_digest rfl qX4_169 ?_
    refine zV.run kX4_digest 3 rfl ?_
    refine zV.gf kX4_digest rfl fX4_7 (h0) rfl ?_
    refine zV.run kX4_digest 1 rfl ?_
    refine zV.ial kX4_digest rfl (a1) (m) (rfl) (hm) (by decide) ?_
    rw [a2 m hm]
    refine zV.run kX4_digest 5 rfl ?_
    rw [nI_l (by omega)]
    refine n_digest_2 E h0 hc hm (31 * dgo σ m + lN (σ.1 m)) (fun y4 => ?_) (σ.1 m + 1) 0 (by omega)
    refine zV.run kX4_digest 2 rfl ?_
    rw [nI_1]
    exact ih (m + 1) _ (by omega)
theorem n_digest (E : zE) {w : zWd} {σ : zSt} (h : zMs w σ) : zOk E mX4_digest 0 [.ref 49] w (zR0 w (.long (dgo σ 8))) := by
  refine zOk.of (by decide +kernel) (Nat.le_of_ble_eq_true rfl) ?_
  refine zV.ldc2 kX4_digest rfl qX4_167 ?_
  refine zV.run kX4_digest 3 rfl ?_
  exact n_digest_1 E h 8 0 _ (by omega)
end
section
/-! ===== the round that a corner comes to ===== -/
theorem pigeon : ∀ (n k : Nat) (f : Nat → Nat), (∀ i, i < k → f i < n) → (∀ i j, i < j → j < k → f i ≠ f j) → k ≤ n
  | 0, k, f, h, _ => by
    cases k with
    | zero => exact Nat.le_refl _
    | succ k => exact absurd (h 0 (by omega)) (by omega)
  | n + 1, k, f, h, hd => by
    by_cases hx : ∃ i, i < k ∧ f i = n
    · obtain ⟨i0, hi0, e0⟩ := hx
      have := pigeon n (k - 1) (fun i => if i < i0 then f i else f (i + 1)) (fun i hi => by
        show (if i < i0 then f i else f (i + 1)) < n
        split
        next q =>
          have a := h i (by omega)
          have b := hd i i0 q hi0
          omega
        next q =>
          have a := h (i + 1) (by omega)
          have b := hd i0 (i + 1) (by omega) (by omega)
          omega) (fun i j hij hj => by
        show (if i < i0 then f i else f (i + 1)) ≠ (if j < i0 then f j else f (j + 1))
        split
        next q =>
          split
          next q2 => exact hd i j hij (by omega)
          next q2 => exact hd i (j + 1) (by omega) (by omega)
        next q =>
          rw [if_neg (by omega)]
          exact hd (i + 1) (j + 1) (by omega) (by omega))
      omega
    · have := pigeon n k f (fun i hi => by
        have a := h i hi
        have b : f i ≠ n := fun q => hx ⟨i, hi, q⟩
        omega) hd
      omega
theorem orb_add (ld : Nat → Nat) (c a : Nat) : ∀ b, orb ld (orb ld c a) b = orb ld c (a + b)
  | 0 => rfl
  | b + 1 => by show ld (orb ld (orb ld c a) b) = ld (orb ld c (a + b)); rw [orb_add ld c a b]
theorem sorf_sp (ld : Nat → Nat) (i : Nat) : ∀ r k x, 1 ≤ k → x = orb ld i (k - 1) → (sorf ld i r x k = 0 ∧ ∀ K, k ≤ K → K < k + r → orb ld i K ≠ i) ∨ ∃ K, k ≤ K ∧ K < k + r ∧ sorf ld i r x k = K ∧ orb ld i K = i ∧ ∀ q, k ≤ q → q < K → orb ld i q ≠ i
  | 0, k, x, h1, hx => Or.inl ⟨rfl, fun K a b => by omega⟩
  | r + 1, k, x, h1, hx => by
    have ek : ld x = orb ld i k := by
      rw [hx]; show orb ld i (k - 1 + 1) = _; rw [Nat.sub_add_cancel h1]
    unfold sorf
    split
    next c => right; exact ⟨k, Nat.le_refl _, by omega, rfl, by rw [← ek]; exact c, fun q a b => by omega⟩
    next c =>
      rcases sorf_sp ld i r (k + 1) (ld x) (by omega) (by rw [ek]; rfl) with ⟨g1, g2⟩ | ⟨K, g1, g2, g3, g4, g5⟩
      · left
        refine ⟨g1, fun K a b => ?_⟩
        by_cases e : K = k
        · rw [e, ← ek]; exact c
        · exact g2 K (by omega) (by omega)
      · right
        refine ⟨K, by omega, by omega, g3, g4, fun q a b => ?_⟩
        by_cases e : q = k
        · rw [e, ← ek]; exact c
        · exact g5 q (by omega) b
/-- the least number of steps that bring a corner back, 0 if none of 1 .. n + 1 does -/
theorem sor_sp (n : Nat) (ld : Nat → Nat) (i : Nat) : (sor n ld i = 0 ∧ ∀ K, 1 ≤ K → K ≤ n + 1 → orb ld i K ≠ i) ∨ ∃ K, 1 ≤ K ∧ K ≤ n + 1 ∧ sor n ld i = K ∧ orb ld i K = i ∧ ∀ q, 1 ≤ q → q < K → orb ld i q ≠ i := by
  rcases sorf_sp ld i (n + 1) 1 i (Nat.le_refl _) rfl with ⟨g1, g2⟩ | ⟨K, g1, g2, g3, g4, g5⟩
  · left; exact ⟨g1, fun K a b => g2 K a (by omega)⟩
  · right; exact ⟨K, g1, by omega, g3, g4, g5⟩
theorem sor_eq {n : Nat} {ld : Nat → Nat} {i p : Nat} (h1 : 1 ≤ p) (h2 : p ≤ n + 1) (h3 : orb ld i p = i) (h4 : ∀ q, 1 ≤ q → q < p → orb ld i q ≠ i) : sor n ld i = p := by
  rcases sor_sp n ld i with ⟨g1, g2⟩ | ⟨K, g1, g2, g3, g4, g5⟩
  · exact absurd h3 (g2 p h1 h2)
  · rw [g3]
    rcases Nat.lt_trichotomy K p with q | q | q
    · exact absurd g4 (h4 K g1 q)
    · exact q
    · exact absurd h3 (g5 p h1 q)
theorem sah_eq (n : Nat) (ld : Nat → Nat) : ∀ r x j, j < r → (∀ s, s < j → sor n ld (orb ld x s) = 0) → sor n ld (orb ld x j) ≠ 0 → sah n ld r x = j
  | 0, x, j, h, _, _ => by omega
  | r + 1, x, j, h, h1, h2 => by
    unfold sah
    cases j with
    | zero => exact if_neg h2
    | succ j =>
      have g1 : ∀ s, s < j → sor n ld (orb ld (ld x) s) = 0 := fun s hs => by
        have := h1 (s + 1) (by omega)
        rw [show s + 1 = 1 + s by omega, ← orb_add] at this
        exact this
      have g2 : sor n ld (orb ld (ld x) j) ≠ 0 := by
        rw [show j + 1 = 1 + j by omega, ← orb_add] at h2
        exact h2
      rw [if_pos (show sor n ld x = 0 from h1 0 (by omega)), sah_eq n ld r (ld x) j (by omega) g1 g2]
theorem orb_per {ld : Nat → Nat} {c j p : Nat} (hp : 0 < p) (h : orb ld c (j + p) = orb ld c j) : ∀ f t, t < f → orb ld c (j + t) = orb ld c (j + t % p)
  | 0, t, ht => by omega
  | f + 1, t, ht => by
    by_cases q : t < p
    · rw [Nat.mod_eq_of_lt q]
    · have e1 : orb ld c (j + t) = orb ld c (j + (t - p)) := by
        rw [show j + t = (j + p) + (t - p) by omega, ← orb_add, h, orb_add]
      rw [e1, orb_per hp h f (t - p) (by omega), ← Nat.mod_eq_sub_mod (by omega)]
theorem tr_math {n : Nat} {ld : Nat → Nat} {c j k : Nat} (hk : k ≤ n + 1) (hj : j < k) (he : orb ld c k = orb ld c j) (hd : ∀ a b, a < b → b < k → orb ld c a ≠ orb ld c b) : sah n ld (n + 1) c = j ∧ sor n ld (orb ld c j) = k - j := by
  have hs : sor n ld (orb ld c j) = k - j := by
    refine sor_eq (by omega) (by omega) ?_ (fun q h1 h2 => ?_)
    · rw [orb_add, show j + (k - j) = k by omega]; exact he
    · rw [orb_add]; exact (hd j (j + q) (by omega) (by omega)).symm
  refine ⟨sah_eq n ld (n + 1) c j (by omega) (fun s hsj => ?_) (by rw [hs]; omega), hs⟩
  rcases sor_sp n ld (orb ld c s) with ⟨g1, g2⟩ | ⟨K, g1, g2, g3, g4, g5⟩
  · exact g1
  · exfalso
    rw [orb_add] at g4
    by_cases q : s + K < k
    · exact hd s (s + K) (by omega) q g4.symm
    · have e := orb_per (ld := ld) (c := c) (j := j) (p := k - j) (by omega) (by rw [show j + (k - j) = k by omega]; exact he) (s + K - j + 1) (s + K - j) (by omega)
      rw [show j + (s + K - j) = s + K by omega, g4] at e
      have hm : (s + K - j) % (k - j) < k - j := Nat.mod_lt _ (by omega)
      exact hd s (j + (s + K - j) % (k - j)) (by omega) (by omega) e
theorem n_topRound_2 (E : zE) {w0 : zWd} {σ : zSt} (h : zMs w0 σ) {m c : Nat} (hm : m < 8) (hcn : c ≤ σ.1 m) (what : Int32) : ∀ (r k : Nat) (w : zWd) (dr : Nat → Int32), k + r = σ.1 m + 2 → zIs w 52 (zIA 7 dr) → (∀ a b, a < b → b < k → orb (σ.2 m) c a ≠ orb (σ.2 m) c b) → (∀ j, j < k → dr (orb (σ.2 m) c j) = nI j) → (∀ q, q ≤ σ.1 m → (∀ j, j < k → orb (σ.2 m) c j ≠ q) → dr q = -1) → (∀ a, a ≠ 52 → w a = w0 a) → zV E mX4_topRound 2 (zPm w0 (.int (if what = 0 then nI (sah (σ.1 m) (σ.2 m) (σ.1 m + 1) c) else nI (sor (σ.1 m) (σ.2 m) (orb (σ.2 m) c (sah (σ.1 m) (σ.2 m) (σ.1 m + 1) c))))) σ) 64 [.ref 49, .int (nI m), .int what, .int (nI c), .int (nI (orb (σ.2 m) c k)), .int (nI k)] [] w := by
  obtain ⟨⟨ab, be, rm, en, ej, h00⟩, hc0, hx0⟩ := id h
  obtain ⟨-, ⟨ld, b1, b2⟩, hv⟩ := id hc0
  obtain ⟨v1, v5, vl⟩ := hv m hm
  intro r
  induction r with
  | zero =>
    intro k w dr hk hd d1 d2 d3 hw
    exfalso
    have := pigeon (σ.1 m + 1) k (orb (σ.2 m) c) (fun i _ => by have := orb_le vl hcn i; omega) d1
    omega
  | succ r ih =>
    intro k w dr hk hd d1 d2 d3 hw
    have h0 := h00.k (hw 49 (by decide))
    have ho := orb_le vl hcn k
    refine zV.run kX4_topRound 1 rfl ?_
    refine zV.gf kX4_topRound rfl fX4_16 (h0) rfl ?_
    refine zV.run kX4_topRound 1 rfl ?_
    refine zV.ial kX4_topRound rfl (hd) (orb (σ.2 m) c k) (rfl) (by omega) (by decide) ?_
    by_cases hin : ∃ j, j < k ∧ orb (σ.2 m) c j = orb (σ.2 m) c k
    · obtain ⟨j, hj, ej9⟩ := hin
      have hkn : k ≤ σ.1 m + 1 := by omega
      obtain ⟨t1, t2⟩ := tr_math hkn hj ej9.symm d1
      have edr : dr (orb (σ.2 m) c k) = nI j := by rw [← ej9]; exact d2 j hj
      rw [t1, t2, edr]
      refine zV.run kX4_topRound 1 rfl ?_
      refine zV.ict kX4_topRound (cd := .ne) rfl (fun q => absurd (show nI j = -1 from q) (fun z => by have := congrArg Int32.toInt z; rw [nI_toInt (by omega)] at this; simp at this)) ?_
      refine zV.run kX4_topRound 1 rfl ?_
      refine zV.if2 kX4_topRound rfl (fun c2 => ?_) (fun c2 => ?_)
      · skip
        have c2 : ¬ what = 0 := c2
        refine zV.run kX4_topRound 2 rfl ?_
        refine zV.gf kX4_topRound rfl fX4_16 (h0) rfl ?_
        refine zV.run kX4_topRound 1 rfl ?_
        refine zV.ial kX4_topRound rfl (hd) (orb (σ.2 m) c k) (rfl) (by omega) (by decide) ?_
        rw [edr]
        refine zV.run kX4_topRound 1 rfl ?_
        rw [pk_sub (by omega)]
        exact zV.iret kX4_topRound rfl rfl (⟨by rw [if_neg c2], h.dr hw ⟨dr, hd⟩, fun a ha => hw a (by omega)⟩)
      · skip
        have c2 : what = 0 := Decidable.not_not.mp c2
        refine zV.run kX4_topRound 1 rfl ?_
        refine zV.gf kX4_topRound rfl fX4_16 (h0) rfl ?_
        refine zV.run kX4_topRound 1 rfl ?_
        refine zV.ial kX4_topRound rfl (hd) (orb (σ.2 m) c k) (rfl) (by omega) (by decide) ?_
        rw [edr]
        refine zV.run kX4_topRound 1 rfl ?_
        exact zV.iret kX4_topRound rfl rfl (⟨by rw [if_pos c2], h.dr hw ⟨dr, hd⟩, fun a ha => hw a (by omega)⟩)
    · have edr : dr (orb (σ.2 m) c k) = -1 := d3 _ ho (fun j hj q => hin ⟨j, hj, q⟩)
      rw [edr]
      refine zV.run kX4_topRound 1 rfl ?_
      refine zV.icf kX4_topRound (cd := .ne) rfl (fun q => q rfl) ?_
      refine zV.run kX4_topRound 1 rfl ?_
      refine zV.gf kX4_topRound rfl fX4_16 (h0) rfl ?_
      refine zV.run kX4_topRound 2 rfl ?_
      refine zV.ias kX4_topRound rfl (hd) (orb (σ.2 m) c k) (rfl) (by omega) (by decide) ?_
      refine zV.run kX4_topRound 1 rfl ?_
      refine zV.gf kX4_topRound rfl fX4_13 (h0.n (by decide)) rfl ?_
      refine zV.run kX4_topRound 5 rfl ?_
      refine zV.ial kX4_topRound rfl ((b1.k (hw 51 (by decide))).n (by decide)) (7 * m + orb (σ.2 m) c k) (ix7) (by omega) (by decide) ?_
      rw [b2 m _ hm ho]
      refine zV.run kX4_topRound 3 rfl ?_
      rw [nI_1]
      refine ih (k + 1) _ _ (by omega) (zIs.s hd.1) (fun a b hab hb2 => ?_) (fun j hj => ?_) (fun q hq hn => ?_) (fun a ha => by rw [zup_ne ha]; exact hw a ha)
      · by_cases e : b = k
        · rw [e]; exact fun z => hin ⟨a, by omega, z⟩
        · exact d1 a b hab (by omega)
      · by_cases e : j = k
        · rw [e, pk_us]
        · rw [pk_un (fun z => hin ⟨j, by omega, z⟩)]; exact d2 j (by omega)
      · rw [pk_un (fun z => hn k (by omega) z.symm)]
        exact d3 q hq (fun j hj => hn j (by omega))
theorem n_topRound_1 (E : zE) {w0 : zWd} {σ : zSt} (h : zMs w0 σ) {m c : Nat} (hm : m < 8) (hcn : c ≤ σ.1 m) (what : Int32) : ∀ (r i : Nat) (w : zWd) (dr : Nat → Int32), i + r = 7 → zIs w 52 (zIA 7 dr) → (∀ q, q < i → dr q = -1) → (∀ a, a ≠ 52 → w a = w0 a) → zV E mX4_topRound 2 (zPm w0 (.int (if what = 0 then nI (sah (σ.1 m) (σ.2 m) (σ.1 m + 1) c) else nI (sor (σ.1 m) (σ.2 m) (orb (σ.2 m) c (sah (σ.1 m) (σ.2 m) (σ.1 m + 1) c))))) σ) 37 [.ref 49, .int (nI m), .int what, .int (nI c), .int (nI i), zU] [] w := by
  obtain ⟨⟨ab, be, rm, en, ej, h00⟩, hc0, hx0⟩ := id h
  obtain ⟨v1, v5, vl⟩ := hc0.2.2 m hm
  intro r
  induction r with
  | zero =>
    intro i w dr hi hd d1 hw
    have e : i = 7 := by omega
    subst e
    refine zV.run kX4_topRound 2 rfl ?_
    refine zV.ict kX4_topRound (cd := .ge) rfl (Int32.le_refl _) ?_
    refine zV.run kX4_topRound 4 rfl ?_
    exact n_topRound_2 E h hm hcn what (σ.1 m + 2) 0 w dr (by omega) hd (fun a b _ hb => by omega) (fun j hj => by omega) (fun q hq _ => d1 q (by omega)) hw
  | succ r ih =>
    intro i w dr hi hd d1 hw
    have h0 := h00.k (hw 49 (by decide))
    refine zV.run kX4_topRound 2 rfl ?_
    refine zV.icf kX4_topRound (cd := .ge) rfl (fun q => absurd ((nI_leI (a := 7) (b := i) (by omega) (by omega)).mp q) (by omega)) ?_
    refine zV.run kX4_topRound 1 rfl ?_
    refine zV.gf kX4_topRound rfl fX4_16 (h0) rfl ?_
    refine zV.run kX4_topRound 2 rfl ?_
    refine zV.ias kX4_topRound rfl (hd) (i) (rfl) (by omega) (by decide) ?_
    refine zV.run kX4_topRound 2 rfl ?_
    rw [nI_1]
    refine ih (i + 1) _ _ (by omega) (zIs.s hd.1) (fun q hq => ?_) (fun a ha => by rw [zup_ne ha]; exact hw a ha)
    by_cases e : q = i
    · rw [e, pk_us]
    · rw [pk_un e]; exact d1 q (by omega)
theorem n_topRound (E : zE) {w : zWd} {σ : zSt} (h : zMs w σ) (m what : Int32) : zOk E mX4_topRound 2 [.ref 49, .int m, .int what] w (zPm w (.int (if okM m ∧ (what = 0 ∨ what = 1) then trd (σ.1 m.toInt.toNat) (σ.2 m.toInt.toNat) what else -2)) σ) := by
  obtain ⟨⟨ab, be, rm, en, ej, h0⟩, hc, hx⟩ := id h
  refine zOk.of (by decide +kernel) (Nat.le_of_ble_eq_true rfl) ?_
  refine zV.run kX4_topRound 1 rfl ?_
  refine zV.cs kX4_topRound rfl lX4_51 (n_isMap E w m) (by decide) rfl rfl (Nat.le_of_ble_eq_true rfl) ?_
  rintro _ _ ⟨rfl, rfl⟩
  refine zV.if2 kX4_topRound rfl (fun c => ?_) (fun c => ?_)
  · skip
    have c := zq_eq0.mp c
    rw [if_neg (fun q => c q.1)]
    refine zV.run kX4_topRound 1 rfl ?_
    exact zV.iret kX4_topRound rfl rfl (⟨rfl, h, fun _ _ => rfl⟩)
  · skip
    have c := Decidable.not_not.mp (mt zq_eq0.mpr c)
    refine zV.run kX4_topRound 4 rfl ?_
    refine zV.cs kX4_topRound rfl lX4_47 (n_in E w what.toInt64 0 1) (by decide) rfl rfl (Nat.le_of_ble_eq_true rfl) ?_
    rintro _ _ ⟨rfl, rfl⟩
    rw [zq_c in01]
    refine zV.if2 kX4_topRound rfl (fun c2 => ?_) (fun c2 => ?_)
    · skip
      have c2 := Decidable.not_not.mp (mt zq_eq0.mpr c2)
      rw [if_pos ⟨c, c2⟩]
      obtain ⟨mm, emm⟩ : ∃ mm, mm = m.toInt.toNat := ⟨_, rfl⟩
      have em : m = nI mm := by rw [emm]; exact i32_nI c.1
      have hm : mm < 8 := by omega
      have v5 := (hc.2.2 mm hm).2.1
      rw [← emm, em]
      have hr := ftp_rg (σ.1 mm) (σ.2 mm)
      refine zV.run kX4_topRound 2 rfl ?_
      refine zV.cv kX4_topRound rfl lX4_164 (n_topOf E h0 hc hm) (by decide) rfl (h0) rfl rfl rfl (Nat.le_of_ble_eq_true rfl) ?_
      rintro _ _ ⟨rfl, rfl⟩
      refine zV.run kX4_topRound 3 rfl ?_
      refine zV.ic2 kX4_topRound rfl (fun c4 => ?_) (fun c4 => ?_)
      · skip
        have c4 : ¬ ftp (σ.1 mm) (σ.2 mm) = -1 := fun q => c4 (by rw [q]; rfl)
        obtain ⟨tc, etc⟩ : ∃ tc : Nat, tc = (ftp (σ.1 mm) (σ.2 mm)).toNat := ⟨_, rfl⟩
        have etc2 : iI (ftp (σ.1 mm) (σ.2 mm)) = nI tc := by rw [nI_iI, etc, Int.toNat_of_nonneg (by omega)]
        have ew : trd (σ.1 mm) (σ.2 mm) what = if what = 0 then nI (sah (σ.1 mm) (σ.2 mm) (σ.1 mm + 1) tc) else nI (sor (σ.1 mm) (σ.2 mm) (orb (σ.2 mm) tc (sah (σ.1 mm) (σ.2 mm) (σ.1 mm + 1) tc))) := by
          unfold trd
          rw [if_neg c4, ← etc]
        rw [etc2, ew]
        refine zV.run kX4_topRound 2 rfl ?_
        obtain ⟨dr, hd⟩ := hx.1
        exact n_topRound_1 E h hm (c := tc) (by omega) what 7 0 w dr (by omega) hd (fun q hq => by omega) (fun _ _ => rfl)
      · skip
        have c4 : ftp (σ.1 mm) (σ.2 mm) = -1 := (iI_eq (by omega) (by omega) (by omega) (by omega)).mp (show iI _ = iI (-1) from Decidable.not_not.mp c4)
        have ew : trd (σ.1 mm) (σ.2 mm) what = -3 := if_pos c4
        rw [ew]
        refine zV.run kX4_topRound 1 rfl ?_
        exact zV.iret kX4_topRound rfl rfl (⟨rfl, h, fun _ _ => rfl⟩)
    · skip
      have c2 := zq_eq0.mp (Decidable.not_not.mp c2)
      rw [if_neg (fun q => c2 q.2)]
      refine zV.run kX4_topRound 1 rfl ?_
      exact zV.iret kX4_topRound rfl rfl (⟨rfl, h, fun _ _ => rfl⟩)
/-! ===== mixing: what the class and the model count ===== -/
theorem so_step (n : Nat) (ld : Nat → Nat) (S : Nat) (i k : Nat) (h : so n ld i k = S) : so n ld i (k + 1) = sA n ld S := by rw [← h]; rfl
end
section
/-! ===== the model: rounds ===== -/
abbrev RS : Type := List (Nat × Nat) × Bool × Bool
def ionf (sp : Nat → Nat) (ps pt : Nat → Int) (a b : Int) : Nat → Nat → Bool
  | 0, _ => true
  | r + 1, d => if ps d * a + pt d * b < (sp d : Int) * b ∨ ((sp d : Int) + 1) * b < ps d * a + pt d * b then false else ionf sp ps pt a b r (d + 1)
def lesf (ps pt : Nat → Int) (k : Nat) : Nat → Nat → Bool → Bool
  | 0, _, l => l
  | r + 1, d, l => lesf ps pt k r (d + 1) (l || decide (k % d = 0 ∧ ps d = 1 ∧ pt d = 0))
def apd (L : List (Nat × Nat)) (p : Nat × Nat) : List (Nat × Nat) := if L.getLast? = some p then L else L ++ [p]
def rdp (a b : Nat) : Nat × Nat := (a / Nat.gcd a b, b / Nat.gcd a b)
def cmb (k : Nat) (sp : Nat → Nat) (ps pt : Nat → Int) (s t : Int) (R : RS) : RS :=
  if s = 1 then (if t = 0 then (R.1, true, R.2.2 || !(lesf ps pt k (k - 1) 1 false)) else R)
  else if ionf sp ps pt (if s < 1 then t else -t) (if s < 1 then 1 - s else s - 1) k 0 = true then (apd R.1 (rdp (if s < 1 then t else -t).toNat (if s < 1 then 1 - s else s - 1).toNat), R.2)
  else R
/-- the cells of the model while rounds are sought: the path's levels up to d, what was found -/
def zRn (w : zWd) (sp : Nat → Nat) (ps pt : Nat → Int) (tr : Nat → Int32) (d e : Nat) (R : RS) : Prop :=
  (∃ ab be, zIs w 49 (zMo ab be (nI R.1.length) (zq (R.2.1 = true)) (zq (R.2.2 = true)))) ∧
  (∃ f, zIs w 53 (zLA 47000 f) ∧ ∀ i p, R.1[i]? = some p → f i = lN p.1) ∧ (∃ f, zIs w 54 (zLA 47000 f) ∧ ∀ i p, R.1[i]? = some p → f i = lN p.2) ∧
  (∃ f, zIs w 55 (zLA 7 f) ∧ ∀ q, q < e → f q = lI (ps q)) ∧ (∃ f, zIs w 56 (zLA 7 f) ∧ ∀ q, q < e → f q = lI (pt q)) ∧
  (∃ f, zIs w 59 (zIA 7 f) ∧ ∀ q, q < d → f q = nI (sp q)) ∧ (∃ f, zIs w 60 (zIA 7 f) ∧ ∀ q, q < d → f q = tr q)
def zFo2 (w w' : zWd) : Prop := ∀ a, (a < 49 ∨ a = 50 ∨ a = 51 ∨ a = 52 ∨ a = 57 ∨ a = 58) → w' a = w a
def bdd (z : Int) : Prop := -1000000 ≤ z ∧ z ≤ 1000000
theorem mulb {x y X Y : Int} (h1 : -X ≤ x) (h2 : x ≤ X) (h3 : -Y ≤ y) (h4 : y ≤ Y) : -(X * Y) ≤ x * y ∧ x * y ≤ X * Y := by
  have hX : 0 ≤ X := by omega
  have hY : 0 ≤ Y := by omega
  have a1 : (x.natAbs : Int) ≤ X := by omega
  have a2 : (y.natAbs : Int) ≤ Y := by omega
  have a3 : ((x * y).natAbs : Int) ≤ X * Y := by
    rw [Int.natAbs_mul, Int.natCast_mul]
    exact Int.mul_le_mul a1 a2 (by omega) hX
  omega
theorem n_isOn_l (E : zE) {w : zWd} {sp : Nat → Nat} {ps pt : Nat → Int} {pS pT : Nat → Int64} {sS : Nat → Int32} {ab be : Int64} {rm en ej : Int32} (h0 : zIs w 49 (zMo ab be rm en ej)) (h5 : zIs w 55 (zLA 7 pS)) (h6 : zIs w 56 (zLA 7 pT)) (h9 : zIs w 59 (zIA 7 sS)) {k : Nat} (hk : k ≤ 6) (e5 : ∀ q, q < k → pS q = lI (ps q)) (e6 : ∀ q, q < k → pT q = lI (pt q)) (e9 : ∀ q, q < k → sS q = nI (sp q)) (b5 : ∀ q, q < k → bdd (ps q)) (b6 : ∀ q, q < k → bdd (pt q)) (b9 : ∀ q, q < k → sp q < 100) {a b : Int} (ha : bdd a) (hb : bdd b) :
    ∀ (r d : Nat) (z7 z8 : Value), d + r = k → zV E mX4_isOn 0 (zR0 w (.int (zq (ionf sp ps pt a b r d = true)))) 3 [.ref 49, .int (nI k), .long (lI a), zU, .long (lI b), zU, .int (nI d), z7, z8] [] w := by
  obtain ⟨ha1, ha2⟩ := ha
  obtain ⟨hb1, hb2⟩ := hb
  intro r
  induction r with
  | zero =>
    intro d z7 z8 hd
    have e : d = k := by omega
    subst e
    refine zV.run kX4_isOn 2 rfl ?_
    refine zV.ict kX4_isOn (cd := .ge) rfl (Int32.le_refl _) ?_
    refine zV.run kX4_isOn 1 rfl ?_
    exact zV.zret kX4_isOn rfl rfl (Or.inr rfl) (⟨rfl, rfl⟩)
  | succ r ih =>
    intro d z7 z8 hd
    obtain ⟨p1, p2⟩ := b5 d (by omega)
    obtain ⟨t1, t2⟩ := b6 d (by omega)
    have s9 := b9 d (by omega)
    have m1 := mulb p1 p2 ha1 ha2
    have m2 := mulb t1 t2 hb1 hb2
    have m3 := mulb (x := (sp d : Int)) (X := 100) (by omega) (by omega) hb1 hb2
    have m4 := mulb (x := (sp d : Int) + 1) (X := 100) (by omega) (by omega) hb1 hb2
    have ev : pS d * lI a + pT d * lI b = lI (ps d * a + pt d * b) := by rw [e5 d (by omega), e6 d (by omega), lI_mul, lI_mul, lI_add]
    have es : (sS d).toInt64 * lI b = lI ((sp d : Int) * b) := by rw [e9 d (by omega), nI_iI, iI_l (by omega) (by omega), lI_mul]
    have es2 : (sS d + 1).toInt64 * lI b = lI (((sp d : Int) + 1) * b) := by rw [e9 d (by omega), nI_iI, show (1 : Int32) = iI 1 from rfl, iI_add, iI_l (by omega) (by omega), lI_mul]
    refine zV.run kX4_isOn 2 rfl ?_
    refine zV.icf kX4_isOn (cd := .ge) rfl (nI_ge (by omega) (by omega)) ?_
    refine zV.run kX4_isOn 1 rfl ?_
    refine zV.gf kX4_isOn rfl fX4_27 (h0) rfl ?_
    refine zV.run kX4_isOn 1 rfl ?_
    refine zV.lal kX4_isOn rfl (h5) (d) (rfl) (by omega) (by decide) ?_
    refine zV.run kX4_isOn 3 rfl ?_
    refine zV.gf kX4_isOn rfl fX4_30 (h0) rfl ?_
    refine zV.run kX4_isOn 1 rfl ?_
    refine zV.lal kX4_isOn rfl (h6) (d) (rfl) (by omega) (by decide) ?_
    refine zV.run kX4_isOn 6 rfl ?_
    refine zV.gf kX4_isOn rfl fX4_39 (h0) rfl ?_
    refine zV.run kX4_isOn 1 rfl ?_
    refine zV.ial kX4_isOn rfl (h9) (d) (rfl) (by omega) (by decide) ?_
    rw [ev]
    refine zV.run kX4_isOn 3 rfl ?_
    rw [es]
    refine zV.il2 kX4_isOn rfl rfl (fun c => ?_) (fun c => ?_)
    · skip
      have c := (lI_lt (by omega) (by omega) (by omega) (by omega)).mp c
      have e : ionf sp ps pt a b (r + 1) d = false := if_pos (Or.inl c)
      refine zV.run kX4_isOn 1 rfl ?_
      exact zV.zret kX4_isOn rfl rfl (Or.inl rfl) (⟨by rw [e]; rfl, rfl⟩)
    · skip
      have c := mt (lI_lt (a := ps d * a + pt d * b) (b := (sp d : Int) * b) (by omega) (by omega) (by omega) (by omega)).mpr c
      refine zV.run kX4_isOn 2 rfl ?_
      refine zV.gf kX4_isOn rfl fX4_39 (h0) rfl ?_
      refine zV.run kX4_isOn 1 rfl ?_
      refine zV.ial kX4_isOn rfl (h9) (d) (rfl) (by omega) (by decide) ?_
      refine zV.run kX4_isOn 5 rfl ?_
      rw [es2]
      refine zV.il2 kX4_isOn rfl rfl (fun c2 => ?_) (fun c2 => ?_)
      · skip
        have c2 := (lI_le (by omega) (by omega) (by omega) (by omega)).mp c2
        have e : ionf sp ps pt a b (r + 1) d = ionf sp ps pt a b r (d + 1) := if_neg (by omega)
        rw [e]
        refine zV.run kX4_isOn 2 rfl ?_
        rw [nI_1]
        exact ih (d + 1) _ _ (by omega)
      · skip
        have c2 := mt (lI_le (a := ps d * a + pt d * b) (b := ((sp d : Int) + 1) * b) (by omega) (by omega) (by omega) (by omega)).mpr c2
        have e : ionf sp ps pt a b (r + 1) d = false := if_pos (Or.inr (by omega))
        refine zV.run kX4_isOn 1 rfl ?_
        exact zV.zret kX4_isOn rfl rfl (Or.inl rfl) (⟨by rw [e]; rfl, rfl⟩)
theorem n_isOn (E : zE) {w : zWd} {sp : Nat → Nat} {ps pt : Nat → Int} {pS pT : Nat → Int64} {sS : Nat → Int32} {ab be : Int64} {rm en ej : Int32} (h0 : zIs w 49 (zMo ab be rm en ej)) (h5 : zIs w 55 (zLA 7 pS)) (h6 : zIs w 56 (zLA 7 pT)) (h9 : zIs w 59 (zIA 7 sS)) {k : Nat} (hk : k ≤ 6) (e5 : ∀ q, q < k → pS q = lI (ps q)) (e6 : ∀ q, q < k → pT q = lI (pt q)) (e9 : ∀ q, q < k → sS q = nI (sp q)) (b5 : ∀ q, q < k → bdd (ps q)) (b6 : ∀ q, q < k → bdd (pt q)) (b9 : ∀ q, q < k → sp q < 100) {a b : Int} (ha : bdd a) (hb : bdd b) : zOk E mX4_isOn 0 [.ref 49, .int (nI k), .long (lI a), .long (lI b)] w (zR0 w (.int (zq (ionf sp ps pt a b k 0 = true)))) := by
  refine zOk.of (by decide +kernel) (Nat.le_of_ble_eq_true rfl) ?_
  refine zV.run kX4_isOn 2 rfl ?_
  exact n_isOn_l E h0 h5 h6 h9 hk e5 e6 e9 b5 b6 b9 ha hb k 0 _ _ (by omega)
theorem lI_n {n : Nat} : lI (n : Int) = lN n := (lN_lI n).symm
theorem n_comesBack_1 (E : zE) {w : zWd} {ps pt : Nat → Int} {pS pT : Nat → Int64} {ab be : Int64} {rm en ej : Int32} {Post : Option Value → zWd → Prop} (h0 : zIs w 49 (zMo ab be rm en ej)) (h5 : zIs w 55 (zLA 7 pS)) (h6 : zIs w 56 (zLA 7 pT)) {k : Nat} (hk : k ≤ 6) (e5 : ∀ q, q ≤ k → pS q = lI (ps q)) (e6 : ∀ q, q ≤ k → pT q = lI (pt q)) (b5 : ∀ q, q ≤ k → bdd (ps q)) (b6 : ∀ q, q ≤ k → bdd (pt q)) (s t : Int64) (l0 : Bool)
    (kk : ∀ z7 z8 z9 : Value, zV E mX4_comesBack 2 Post 79 [.ref 49, .int (nI k), .long s, zU, .long t, zU, .int (zq (l0 = true)), z7, z8, z9] [] w) :
    ∀ (r d : Nat) (l : Bool) (z8 z9 : Value), d + r = k → 1 ≤ d → lesf ps pt k r d l = l0 → zV E mX4_comesBack 2 Post 24 [.ref 49, .int (nI k), .long s, zU, .long t, zU, .int (zq (l = true)), .int (nI d), z8, z9] [] w := by
  intro r
  induction r with
  | zero =>
    intro d l z8 z9 hd h1 hl
    have e : d = k := by omega
    subst e
    have hl : l = l0 := hl
    subst hl
    refine zV.run kX4_comesBack 2 rfl ?_
    refine zV.ict kX4_comesBack (cd := .ge) rfl (Int32.le_refl _) ?_
    exact kk _ _ _
  | succ r ih =>
    intro d l z8 z9 hd h1 hl
    have hl : lesf ps pt k r (d + 1) (l || decide (k % d = 0 ∧ ps d = 1 ∧ pt d = 0)) = l0 := hl
    obtain ⟨p1, p2⟩ := b5 d (by omega)
    obtain ⟨t1, t2⟩ := b6 d (by omega)
    have hm : k % d < d := Nat.mod_lt _ (by omega)
    have nxt : ∀ v : Bool, v = (l || decide (k % d = 0 ∧ ps d = 1 ∧ pt d = 0)) → zV E mX4_comesBack 2 Post 71 [.ref 49, .int (nI k), .long s, zU, .long t, zU, .int (zq (l = true)), .int (nI d), z8, z9] [.int (zq (v = true))] w := by
      intro v hv
      refine zV.run kX4_comesBack 3 rfl ?_
      rw [nI_1]
      exact ih (d + 1) v _ _ (by omega) (by omega) (by rw [hv]; exact hl)
    refine zV.run kX4_comesBack 2 rfl ?_
    refine zV.icf kX4_comesBack (cd := .ge) rfl (nI_ge (by omega) (by omega)) ?_
    refine zV.run kX4_comesBack 1 rfl ?_
    refine zV.if2 kX4_comesBack rfl (fun c => ?_) (fun c => ?_)
    · skip
      have c : ¬ ¬ l = true := mt zq_eq0.mpr c
      refine zV.run kX4_comesBack 2 rfl ?_
      exact nxt true (by simp [Decidable.not_not.mp c])
    · skip
      have c := zq_eq0.mp (Decidable.not_not.mp c)
      have hlf : l = false := by simpa using c
      refine zV.run kX4_comesBack 2 rfl ?_
      refine zV.irem kX4_comesBack rfl (nI_ne0 (by omega) (by omega)) ?_
      rw [pk_rem (by omega) (by omega) (by omega)]
      refine zV.if2 kX4_comesBack rfl (fun c2 => ?_) (fun c2 => ?_)
      · skip
        have c2 : ¬ k % d = 0 := fun q => c2 (by rw [q]; rfl)
        refine zV.run kX4_comesBack 1 rfl ?_
        exact nxt false (by simp [hlf, c2])
      · skip
        have c2 := (nI_eq (a := k % d) (b := 0) (by omega) (by omega)).mp (Decidable.not_not.mp c2)
        refine zV.run kX4_comesBack 1 rfl ?_
        refine zV.gf kX4_comesBack rfl fX4_27 (h0) rfl ?_
        refine zV.run kX4_comesBack 1 rfl ?_
        refine zV.lal kX4_comesBack rfl (h5) (d) (rfl) (by omega) (by decide) ?_
        rw [e5 d (by omega)]
        refine zV.run kX4_comesBack 1 rfl ?_
        refine zV.il2 kX4_comesBack rfl rfl (fun c3 => ?_) (fun c3 => ?_)
        · skip
          have c3 : ¬ ps d = 1 := fun q => c3 (by rw [q]; rfl)
          refine zV.run kX4_comesBack 1 rfl ?_
          exact nxt false (by simp [hlf, c3])
        · skip
          have c3 := (lI_eq (a := ps d) (b := 1) (by omega) (by omega) (by omega) (by omega)).mp (Decidable.not_not.mp c3)
          refine zV.run kX4_comesBack 1 rfl ?_
          refine zV.gf kX4_comesBack rfl fX4_30 (h0) rfl ?_
          refine zV.run kX4_comesBack 1 rfl ?_
          refine zV.lal kX4_comesBack rfl (h6) (d) (rfl) (by omega) (by decide) ?_
          rw [e6 d (by omega)]
          refine zV.run kX4_comesBack 1 rfl ?_
          refine zV.il2 kX4_comesBack rfl rfl (fun c4 => ?_) (fun c4 => ?_)
          · skip
            have c4 : ¬ pt d = 0 := fun q => c4 (by rw [q]; rfl)
            refine zV.run kX4_comesBack 1 rfl ?_
            exact nxt false (by simp [hlf, c4])
          · skip
            have c4 := (lI_eq (a := pt d) (b := 0) (by omega) (by omega) (by omega) (by omega)).mp (Decidable.not_not.mp c4)
            refine zV.run kX4_comesBack 2 rfl ?_
            exact nxt true (by simp [c2, c3, c4])
theorem ionf_0 {sp : Nat → Nat} {ps pt : Nat → Int} {a b : Int} {k : Nat} (h1 : 1 ≤ k) (hs : ps 0 = 1) (ht : pt 0 = 0) (hb : 0 ≤ b) (h : ionf sp ps pt a b k 0 = true) : 0 ≤ a := by
  obtain ⟨r, rfl⟩ : ∃ r, k = r + 1 := ⟨k - 1, by omega⟩
  unfold ionf at h
  split at h
  next => cases h
  next c =>
    rw [hs, ht, Int.one_mul, Int.zero_mul, Int.add_zero] at c
    have : 0 ≤ (sp 0 : Int) * b := Int.mul_nonneg (by omega) hb
    omega
theorem n_comesBack (E : zE) {w : zWd} {sp : Nat → Nat} {ps pt : Nat → Int} {tr : Nat → Int32} {R : RS} {k : Nat} (hR : zRn w sp ps pt tr k (k + 1) R) (h1 : 1 ≤ k) (hk : k ≤ 6) (hs0 : ps 0 = 1) (ht0 : pt 0 = 0) (b5 : ∀ q, q ≤ k → bdd (ps q)) (b6 : ∀ q, q ≤ k → bdd (pt q)) (b9 : ∀ q, q < k → sp q < 100) (hsk : -100000 ≤ ps k ∧ ps k ≤ 100000) (hL : R.1.length < 40000) (hBd : ∀ p ∈ R.1, p.1 < 2 ^ 40 ∧ p.2 < 2 ^ 40) : zOk E mX4_comesBack 2 [.ref 49, .int (nI k), .long (lI (ps k)), .long (lI (pt k))] w (fun r w' => r = none ∧ zRn w' sp ps pt tr k (k + 1) (cmb k sp ps pt (ps k) (pt k) R) ∧ zFo2 w w') := by
  obtain ⟨⟨ab, be, h0⟩, ⟨fa, g3, e3⟩, ⟨fb, g4, e4⟩, ⟨pS, g5, e5⟩, ⟨pT, g6, e6⟩, ⟨sS, g9, e9⟩, ⟨tS, g10, e10⟩⟩ := id hR
  obtain ⟨bs1, bs2⟩ := b5 k (Nat.le_refl _)
  obtain ⟨bt1, bt2⟩ := b6 k (Nat.le_refl _)
  refine zOk.of (by decide +kernel) (Nat.le_of_ble_eq_true rfl) ?_
  refine zV.run kX4_comesBack 2 rfl ?_
  refine zV.il2 kX4_comesBack rfl rfl (fun c => ?_) (fun c => ?_)
  · skip
    have c : ¬ ps k = 1 := fun q => c (by rw [q]; rfl)
    have mid : ∀ (a b : Int), a = (if ps k < 1 then pt k else -(pt k)) → b = (if ps k < 1 then 1 - ps k else ps k - 1) → zV E mX4_comesBack 2 (fun r w' => r = none ∧ zRn w' sp ps pt tr k (k + 1) (cmb k sp ps pt (ps k) (pt k) R) ∧ zFo2 w w') 134 [.ref 49, .int (nI k), .long (lI (ps k)), zU, .long (lI (pt k)), zU, .long (lI a), zU, .long (lI b), zU] [] w := by
      intro a b ea eb
      have hb0 : 0 < b := by rw [eb]; split <;> omega
      have hbb : bdd b := ⟨by omega, by rw [eb]; split <;> omega⟩
      have hab : bdd a := by rw [ea]; split <;> exact ⟨by omega, by omega⟩
      have ec : cmb k sp ps pt (ps k) (pt k) R = if ionf sp ps pt a b k 0 = true then (apd R.1 (rdp a.toNat b.toNat), R.2) else R := by
        unfold cmb
        rw [if_neg c, ← ea, ← eb]
      rw [ec]
      refine zV.run kX4_comesBack 4 rfl ?_
      refine zV.cv kX4_comesBack rfl lX4_127 (n_isOn E h0 g5 g6 g9 hk (fun q hq => e5 q (by omega)) (fun q hq => e6 q (by omega)) (fun q hq => e9 q (by omega)) (fun q hq => b5 q (by omega)) (fun q hq => b6 q (by omega)) b9 hab hbb) (by decide) rfl (h0) rfl rfl rfl (Nat.le_of_ble_eq_true rfl) ?_
      rintro _ _ ⟨rfl, rfl⟩
      refine zV.if2 kX4_comesBack rfl (fun c2 => ?_) (fun c2 => ?_)
      · skip
        have c2 := zq_eq0.mp c2
        rw [if_neg c2]
        exact zV.vret kX4_comesBack rfl rfl (⟨rfl, hR, fun _ _ => rfl⟩)
      · skip
        have c2 := Decidable.not_not.mp (mt zq_eq0.mpr c2)
        have ha0 := ionf_0 h1 hs0 ht0 (by omega) c2
        rw [if_pos c2]
        obtain ⟨hab1, hab2⟩ := hab
        obtain ⟨hbb1, hbb2⟩ := hbb
        obtain ⟨A, eA⟩ : ∃ A : Nat, A = a.toNat := ⟨_, rfl⟩
        obtain ⟨B, eB⟩ : ∃ B : Nat, B = b.toNat := ⟨_, rfl⟩
        have eA2 : lI a = lN A := by rw [eA]; exact lI_nat ha0
        have eB2 : lI b = lN B := by rw [eB]; exact lI_nat (by omega)
        rw [← eA, ← eB, eA2, eB2]
        have hA2 : A / Nat.gcd A B ≤ A := Nat.div_le_self _ _
        have hB2 : B / Nat.gcd A B ≤ B := Nat.div_le_self _ _
        refine zV.run kX4_comesBack 3 rfl ?_
        refine zV.cv kX4_comesBack rfl lX4_78 (n_at E h0 (a := A) (b := B) (by omega) (by omega) (by omega)) (by decide) rfl (h0) rfl rfl rfl (Nat.le_of_ble_eq_true rfl) ?_
        rintro _ w9 ⟨rfl, ew⟩
        have k9 : ∀ q, q ≠ 49 → w9 q = w q := fun q hq => by rw [ew, zup_ne hq]
        have f0 : zIs w9 49 (zMo (lN (rdp A B).1) (lN (rdp A B).2) (nI R.1.length) (zq (R.2.1 = true)) (zq (R.2.2 = true))) := by rw [ew]; exact zIs.s h0.1
        have f3 := g3.k (k9 53 (by decide))
        have f4 := g4.k (k9 54 (by decide))
        have app : R.1.getLast? ≠ some (rdp A B) → zV E mX4_comesBack 2 (fun r w' => r = none ∧ zRn w' sp ps pt tr k (k + 1) (apd R.1 (rdp A B), R.2) ∧ zFo2 w w') 199 [.ref 49, .int (nI k), .long (lI (ps k)), zU, .long (lI (pt k)), zU, .long (lN A), zU, .long (lN B), zU] [] w9 := by
          intro hne
          have ea2 : apd R.1 (rdp A B) = R.1 ++ [rdp A B] := if_neg hne
          rw [ea2]
          refine zV.run kX4_comesBack 1 rfl ?_
          refine zV.gf kX4_comesBack rfl fX4_20 (f0) rfl ?_
          refine zV.run kX4_comesBack 1 rfl ?_
          refine zV.gf kX4_comesBack rfl fX4_130 (f0) rfl ?_
          refine zV.run kX4_comesBack 1 rfl ?_
          refine zV.gf kX4_comesBack rfl fX4_67 (f0) rfl ?_
          refine zV.las kX4_comesBack rfl (f3) (R.1.length) (rfl) (by omega) (by decide) ?_
          refine zV.run kX4_comesBack 1 rfl ?_
          refine zV.gf kX4_comesBack rfl fX4_24 (f0.n (by decide)) rfl ?_
          refine zV.run kX4_comesBack 1 rfl ?_
          refine zV.gf kX4_comesBack rfl fX4_130 (f0.n (by decide)) rfl ?_
          refine zV.run kX4_comesBack 1 rfl ?_
          refine zV.gf kX4_comesBack rfl fX4_71 (f0.n (by decide)) rfl ?_
          refine zV.las kX4_comesBack rfl (f4.n (by decide)) (R.1.length) (rfl) (by omega) (by decide) ?_
          refine zV.run kX4_comesBack 2 rfl ?_
          refine zV.gf kX4_comesBack rfl fX4_130 ((f0.n (by decide)).n (by decide)) rfl ?_
          refine zV.run kX4_comesBack 2 rfl ?_
          refine zV.pfi kX4_comesBack rfl pX4_130 ((f0.n (by decide)).n (by decide)) (Nat.le_of_ble_eq_true rfl) ?_
          rw [nI_1]
          have kk9 : ∀ (c1 c2 c3 : va_E) (q : Nat), q ≠ 49 → q ≠ 53 → q ≠ 54 → va_up (va_up (va_up w9 53 c1) 54 c2) 49 c3 q = w q := fun c1 c2 c3 q q1 q2 q3 => by rw [zup_ne q1, zup_ne q3, zup_ne q2]; exact k9 q q1
          refine zV.vret kX4_comesBack rfl rfl ⟨rfl, ⟨⟨lN (rdp A B).1, lN (rdp A B).2, ?_⟩, ⟨_, ((zIs.s f3.1).n (by decide)).n (by decide), fun i p hp => ?_⟩, ⟨_, (zIs.s f4.1).n (by decide), fun i p hp => ?_⟩, ⟨pS, g5.k (kk9 _ _ _ _ (by decide) (by decide) (by decide)), e5⟩, ⟨pT, g6.k (kk9 _ _ _ _ (by decide) (by decide) (by decide)), e6⟩, ⟨sS, g9.k (kk9 _ _ _ _ (by decide) (by decide) (by decide)), e9⟩, ⟨tS, g10.k (kk9 _ _ _ _ (by decide) (by decide) (by decide)), e10⟩⟩, fun q hq => kk9 _ _ _ q (by omega) (by omega) (by omega)⟩
          · show zIs _ 49 (zMo _ _ (nI (R.1 ++ [rdp A B]).length) _ _)
            rw [List.length_append]
            exact zIs.s h0.1
          · by_cases q : i = R.1.length
            · subst q
              rw [pk_uLs]
              rw [List.getElem?_append_right (Nat.le_refl _), Nat.sub_self] at hp
              cases hp
              rfl
            · have hi : i < R.1.length := by
                have := (List.getElem?_eq_some_iff.mp hp).1
                rw [List.length_append] at this
                simp at this
                omega
              rw [pk_uLn q]
              rw [List.getElem?_append_left hi] at hp
              exact e3 i p hp
          · by_cases q : i = R.1.length
            · subst q
              rw [pk_uLs]
              rw [List.getElem?_append_right (Nat.le_refl _), Nat.sub_self] at hp
              cases hp
              rfl
            · have hi : i < R.1.length := by
                have := (List.getElem?_eq_some_iff.mp hp).1
                rw [List.length_append] at this
                simp at this
                omega
              rw [pk_uLn q]
              rw [List.getElem?_append_left hi] at hp
              exact e4 i p hp
        have stay : R.1.getLast? = some (rdp A B) → zV E mX4_comesBack 2 (fun r w' => r = none ∧ zRn w' sp ps pt tr k (k + 1) (apd R.1 (rdp A B), R.2) ∧ zFo2 w w') 235 [.ref 49, .int (nI k), .long (lI (ps k)), zU, .long (lI (pt k)), zU, .long (lN A), zU, .long (lN B), zU] [] w9 := by
          intro he
          have ea2 : apd R.1 (rdp A B) = R.1 := if_pos he
          rw [ea2]
          exact zV.vret kX4_comesBack rfl rfl (⟨rfl, ⟨⟨_, _, f0⟩, ⟨fa, f3, e3⟩, ⟨fb, f4, e4⟩, ⟨pS, g5.k (k9 _ (by decide)), e5⟩, ⟨pT, g6.k (k9 _ (by decide)), e6⟩, ⟨sS, g9.k (k9 _ (by decide)), e9⟩, ⟨tS, g10.k (k9 _ (by decide)), e10⟩⟩, fun q hq => k9 q (by omega)⟩)
        refine zV.run kX4_comesBack 1 rfl ?_
        refine zV.gf kX4_comesBack rfl fX4_130 (f0) rfl ?_
        refine zV.if2 kX4_comesBack rfl (fun c3 => ?_) (fun c3 => ?_)
        · skip
          have c3 := (nI_eq (a := R.1.length) (b := 0) (by omega) (by omega)).mp c3
          refine app (fun q => ?_)
          rw [List.eq_nil_of_length_eq_zero c3] at q
          cases q
        · skip
          have c3 := mt (nI_eq (a := R.1.length) (b := 0) (by omega) (by omega)).mpr c3
          have hll : R.1.length - 1 < R.1.length := by omega
          obtain ⟨p, hp⟩ : ∃ p, R.1[R.1.length - 1]? = some p := ⟨_, List.getElem?_eq_getElem hll⟩
          have hlast : R.1.getLast? = some p := by rw [List.getLast?_eq_getElem?]; exact hp
          have ei : nI R.1.length - 1 = nI (R.1.length - 1) := by rw [show (1 : Int32) = nI 1 from rfl, pk_sub (by omega)]
          have ep := hBd p (List.mem_of_getElem? hp)
          have hr1 : (rdp A B).1 ≤ A := hA2
          have hr2 : (rdp A B).2 ≤ B := hB2
          refine zV.run kX4_comesBack 1 rfl ?_
          refine zV.gf kX4_comesBack rfl fX4_20 (f0) rfl ?_
          refine zV.run kX4_comesBack 1 rfl ?_
          refine zV.gf kX4_comesBack rfl fX4_130 (f0) rfl ?_
          refine zV.run kX4_comesBack 2 rfl ?_
          rw [ei]
          refine zV.lal kX4_comesBack rfl (f3) ((R.1.length - 1)) (rfl) (by omega) (by decide) ?_
          refine zV.run kX4_comesBack 1 rfl ?_
          refine zV.gf kX4_comesBack rfl fX4_67 (f0) rfl ?_
          rw [e3 _ _ hp]
          refine zV.il2 kX4_comesBack rfl rfl (fun c4 => ?_) (fun c4 => ?_)
          · skip
            refine app (fun q => ?_)
            rw [hlast] at q
            injection q with q
            exact c4 (by rw [q])
          · skip
            have c4 := Decidable.not_not.mp c4
            rw [lN_lI, lN_lI] at c4
            have c4 := (lI_eq (by omega) (by omega) (by omega) (by omega)).mp c4
            refine zV.run kX4_comesBack 1 rfl ?_
            refine zV.gf kX4_comesBack rfl fX4_24 (f0) rfl ?_
            refine zV.run kX4_comesBack 1 rfl ?_
            refine zV.gf kX4_comesBack rfl fX4_130 (f0) rfl ?_
            refine zV.run kX4_comesBack 2 rfl ?_
            rw [ei]
            refine zV.lal kX4_comesBack rfl (f4) ((R.1.length - 1)) (rfl) (by omega) (by decide) ?_
            refine zV.run kX4_comesBack 1 rfl ?_
            refine zV.gf kX4_comesBack rfl fX4_71 (f0) rfl ?_
            rw [e4 _ _ hp]
            refine zV.il2 kX4_comesBack rfl rfl (fun c5 => ?_) (fun c5 => ?_)
            · skip
              rw [lN_lI, lN_lI] at c5
              have c5 := (lI_eq (by omega) (by omega) (by omega) (by omega)).mp c5
              exact stay (by rw [hlast]; exact congrArg some (Prod.ext (by omega) (by omega)))
            · skip
              refine app (fun q => ?_)
              rw [hlast] at q
              injection q with q
              exact c5 (by rw [q]; rfl)
    refine zV.run kX4_comesBack 2 rfl ?_
    refine zV.il2 kX4_comesBack rfl rfl (fun c1 => ?_) (fun c1 => ?_)
    · skip
      have c1 := (lI_le (a := 1) (b := ps k) (by omega) (by omega) (by omega) (by omega)).mp c1
      refine zV.run kX4_comesBack 5 rfl ?_
      refine zV.il2 kX4_comesBack rfl rfl (fun c2 => ?_) (fun c2 => ?_)
      · skip
        refine zV.run kX4_comesBack 4 rfl ?_
        rw [lI_neg, show (1 : Int64) = lI 1 from rfl, lI_sub]
        exact mid _ _ (by rw [if_neg (by omega)]) (by rw [if_neg (by omega)])
      · skip
        exact absurd ((lI_le (a := 1) (b := ps k) (by omega) (by omega) (by omega) (by omega)).mpr c1) c2
    · skip
      have c1' := mt (lI_le (a := 1) (b := ps k) (by omega) (by omega) (by omega) (by omega)).mpr c1
      refine zV.run kX4_comesBack 5 rfl ?_
      refine zV.il2 kX4_comesBack rfl rfl (fun c2 => ?_) (fun c2 => ?_)
      · skip
        exact absurd c2 c1
      · skip
        refine zV.run kX4_comesBack 5 rfl ?_
        rw [show (1 : Int64) = lI 1 from rfl, lI_sub]
        exact mid _ _ (by rw [if_pos (by omega)]) (by rw [if_pos (by omega)])
  · skip
    have c := (lI_eq (a := ps k) (b := 1) (by omega) (by omega) (by omega) (by omega)).mp (Decidable.not_not.mp c)
    refine zV.run kX4_comesBack 2 rfl ?_
    refine zV.il2 kX4_comesBack rfl rfl (fun c1 => ?_) (fun c1 => ?_)
    · skip
      have c1 : ¬ pt k = 0 := fun q => c1 (by rw [q]; rfl)
      have ec : cmb k sp ps pt (ps k) (pt k) R = R := by unfold cmb; rw [if_pos c, if_neg c1]
      rw [ec]
      exact zV.vret kX4_comesBack rfl rfl (⟨rfl, hR, fun _ _ => rfl⟩)
    · skip
      have c1 := (lI_eq (a := pt k) (b := 0) (by omega) (by omega) (by omega) (by omega)).mp (Decidable.not_not.mp c1)
      obtain ⟨l0, el0⟩ : ∃ l0, l0 = lesf ps pt k (k - 1) 1 false := ⟨_, rfl⟩
      have ec : cmb k sp ps pt (ps k) (pt k) R = (R.1, true, R.2.2 || !l0) := by unfold cmb; rw [if_pos c, if_pos c1, el0]
      rw [ec]
      refine zV.run kX4_comesBack 2 rfl ?_
      refine zV.pfz kX4_comesBack rfl pX4_120 (Or.inr rfl) (h0) (Nat.le_of_ble_eq_true rfl) ?_
      have f0 : zIs (va_up w 49 (zMo ab be (nI R.1.length) 1 (zq (R.2.2 = true)))) 49 (zMo ab be (nI R.1.length) 1 (zq (R.2.2 = true))) := zIs.s h0.1
      have kq : ∀ (c1 c2 : va_E) (q : Nat), q ≠ 49 → va_up (va_up w 49 c1) 49 c2 q = w q := fun c1 c2 q q1 => by rw [zup_ne q1, zup_ne q1]
      have fin : ∀ (v : Bool) (z7 z8 z9 : Value), v = (R.2.2 || !l0) → zV E mX4_comesBack 2 (fun r w' => r = none ∧ zRn w' sp ps pt tr k (k + 1) (R.1, true, R.2.2 || !l0) ∧ zFo2 w w') 97 [.ref 49, .int (nI k), .long (lI (ps k)), zU, .long (lI (pt k)), zU, .int (zq (l0 = true)), z7, z8, z9] [.int (zq (v = true)), .ref 49] (va_up w 49 (zMo ab be (nI R.1.length) 1 (zq (R.2.2 = true)))) := by
        intro v z7 z8 z9 hv
        subst hv
        refine zV.pfz kX4_comesBack rfl pX4_124 (zq01 _) (f0) (Nat.le_of_ble_eq_true rfl) ?_
        exact zV.vret kX4_comesBack rfl rfl (⟨rfl, ⟨⟨ab, be, zIs.s f0.1⟩, ⟨fa, g3.k (kq _ _ _ (by decide)), e3⟩, ⟨fb, g4.k (kq _ _ _ (by decide)), e4⟩, ⟨pS, g5.k (kq _ _ _ (by decide)), e5⟩, ⟨pT, g6.k (kq _ _ _ (by decide)), e6⟩, ⟨sS, g9.k (kq _ _ _ (by decide)), e9⟩, ⟨tS, g10.k (kq _ _ _ (by decide)), e10⟩⟩, fun q hq => kq _ _ q (by omega)⟩)
      refine zV.run kX4_comesBack 4 rfl ?_
      refine n_comesBack_1 E f0 (g5.n (by decide)) (g6.n (by decide)) hk (fun q hq => e5 q (by omega)) (fun q hq => e6 q (by omega)) b5 b6 _ _ l0 (fun z7 z8 z9 => ?_) (k - 1) 1 false _ _ (by omega) (by omega) el0.symm
      refine zV.run kX4_comesBack 2 rfl ?_
      refine zV.gf kX4_comesBack rfl fX4_124 (f0) rfl ?_
      refine zV.if2 kX4_comesBack rfl (fun c2 => ?_) (fun c2 => ?_)
      · skip
        have c2 := Decidable.not_not.mp (mt zq_eq0.mpr c2)
        refine zV.run kX4_comesBack 2 rfl ?_
        exact fin true _ _ _ (by rw [c2]; rfl)
      · skip
        have c2 := zq_eq0.mp (Decidable.not_not.mp c2)
        have c2 : R.2.2 = false := by simpa using c2
        refine zV.run kX4_comesBack 1 rfl ?_
        refine zV.if2 kX4_comesBack rfl (fun c3 => ?_) (fun c3 => ?_)
        · skip
          have c3 := Decidable.not_not.mp (mt zq_eq0.mpr c3)
          refine zV.run kX4_comesBack 1 rfl ?_
          exact fin false _ _ _ (by rw [c2, c3]; rfl)
        · skip
          have c3 := zq_eq0.mp (Decidable.not_not.mp c3)
          have c3 : l0 = false := by simpa using c3
          refine zV.run kX4_comesBack 2 rfl ?_
          exact fin true _ _ _ (by rw [c2, c3]; rfl)
end
section
/-! ===== the model: rounds, the walk down ===== -/
def pst {α : Type} (f : Nat → α) (a : Nat) (x : α) : Nat → α := fun q => if q = a then x else f q
theorem pst_s {α : Type} {f : Nat → α} {a : Nat} {x : α} : pst f a x a = x := if_pos rfl
theorem pst_n {α : Type} {f : Nat → α} {a q : Nat} {x : α} (h : q ≠ a) : pst f a x q = f q := if_neg h
theorem zRn.c {w : zWd} {sp sp' : Nat → Nat} {ps pt ps' pt' : Nat → Int} {tr tr' : Nat → Int32} {d d' e : Nat} {R : RS} (h : zRn w sp ps pt tr d e R) (hd : d' ≤ d) (hde : d' ≤ e) (h1 : ∀ q, q < d' → sp q = sp' q) (h2 : ∀ q, q < d' → ps q = ps' q) (h3 : ∀ q, q < d' → pt q = pt' q) (h4 : ∀ q, q < d' → tr q = tr' q) : zRn w sp' ps' pt' tr' d' d' R := by
  obtain ⟨h0, g3, g4, ⟨f5, g5, e5⟩, ⟨f6, g6, e6⟩, ⟨f9, g9, e9⟩, ⟨f10, g10, e10⟩⟩ := h
  exact ⟨h0, g3, g4, ⟨f5, g5, fun q hq => by rw [e5 q (by omega), h2 q hq]⟩, ⟨f6, g6, fun q hq => by rw [e6 q (by omega), h3 q hq]⟩, ⟨f9, g9, fun q hq => by rw [e9 q (by omega), h1 q hq]⟩, ⟨f10, g10, fun q hq => by rw [e10 q (by omega), h4 q hq]⟩⟩
theorem zFo2.t {w w' w'' : zWd} (h : zFo2 w w') (h' : zFo2 w' w'') : zFo2 w w'' := fun a ha => (h' a ha).trans (h a ha)
theorem zFo2.mc {w w' : zWd} (h : zFo2 w w') {σ : zSt} (hc : zMc w σ) : zMc w' σ := hc.k (h 50 (by omega)) (h 51 (by omega))
theorem n_enters (E : zE) {w : zWd} {sp : Nat → Nat} {ps pt : Nat → Int} {tr : Nat → Int32} {R : RS} {d : Nat} (hR : zRn w sp ps pt tr d d R) (hd : d < 7) (j : Nat) (s t : Int) : zOk E mX4_enters 0 [.ref 49, .int (nI d), .int (nI j), .long (lI s), .long (lI t)] w (fun r w' => r = none ∧ zRn w' (pst sp d j) (pst ps d s) (pst pt d t) (pst tr d 0) (d + 1) (d + 1) R ∧ zFo2 w w') := by
  obtain ⟨⟨ab, be, h0⟩, ⟨fa, g3, e3⟩, ⟨fb, g4, e4⟩, ⟨pS, g5, e5⟩, ⟨pT, g6, e6⟩, ⟨sS, g9, e9⟩, ⟨tS, g10, e10⟩⟩ := id hR
  refine zOk.of (by decide +kernel) (Nat.le_of_ble_eq_true rfl) ?_
  refine zV.run kX4_enters 1 rfl ?_
  refine zV.gf kX4_enters rfl fX4_39 (h0) rfl ?_
  refine zV.run kX4_enters 2 rfl ?_
  refine zV.ias kX4_enters rfl (g9) (d) (rfl) (by omega) (by decide) ?_
  refine zV.run kX4_enters 1 rfl ?_
  refine zV.gf kX4_enters rfl fX4_27 (h0.n (by decide)) rfl ?_
  refine zV.run kX4_enters 2 rfl ?_
  refine zV.las kX4_enters rfl (g5.n (by decide)) (d) (rfl) (by omega) (by decide) ?_
  refine zV.run kX4_enters 1 rfl ?_
  refine zV.gf kX4_enters rfl fX4_30 ((h0.n (by decide)).n (by decide)) rfl ?_
  refine zV.run kX4_enters 2 rfl ?_
  refine zV.las kX4_enters rfl ((g6.n (by decide)).n (by decide)) (d) (rfl) (by omega) (by decide) ?_
  refine zV.run kX4_enters 1 rfl ?_
  refine zV.gf kX4_enters rfl fX4_42 (((h0.n (by decide)).n (by decide)).n (by decide)) rfl ?_
  refine zV.run kX4_enters 2 rfl ?_
  refine zV.ias kX4_enters rfl (((g10.n (by decide)).n (by decide)).n (by decide)) (d) (rfl) (by omega) (by decide) ?_
  have kq : ∀ (c1 c2 c3 c4 : va_E) (q : Nat), q ≠ 59 → q ≠ 55 → q ≠ 56 → q ≠ 60 → va_up (va_up (va_up (va_up w 59 c1) 55 c2) 56 c3) 60 c4 q = w q := fun c1 c2 c3 c4 q q1 q2 q3 q4 => by rw [zup_ne q4, zup_ne q3, zup_ne q2, zup_ne q1]
  refine zV.vret kX4_enters rfl rfl ⟨rfl, ⟨⟨ab, be, h0.k (kq _ _ _ _ _ (by decide) (by decide) (by decide) (by decide))⟩, ⟨fa, g3.k (kq _ _ _ _ _ (by decide) (by decide) (by decide) (by decide)), e3⟩, ⟨fb, g4.k (kq _ _ _ _ _ (by decide) (by decide) (by decide) (by decide)), e4⟩, ⟨_, ((zIs.s g5.1).n (by decide)).n (by decide), fun q hq => ?_⟩, ⟨_, (zIs.s g6.1).n (by decide), fun q hq => ?_⟩, ⟨_, (((zIs.s g9.1).n (by decide)).n (by decide)).n (by decide), fun q hq => ?_⟩, ⟨_, zIs.s g10.1, fun q hq => ?_⟩⟩, fun q hq => kq _ _ _ _ q (by omega) (by omega) (by omega) (by omega)⟩
  · by_cases c : q = d
    · rw [c, pk_uLs, pst_s]
    · rw [pk_uLn c, pst_n c, e5 q (by omega)]
  · by_cases c : q = d
    · rw [c, pk_uLs, pst_s]
    · rw [pk_uLn c, pst_n c, e6 q (by omega)]
  · by_cases c : q = d
    · rw [c, pk_us, pst_s]
    · rw [pk_un c, pst_n c, e9 q (by omega)]
  · by_cases c : q = d
    · rw [c, pk_us, pst_s]
    · rw [pk_un c, pst_n c, e10 q (by omega)]
def nS (ld : Nat → Nat) (j : Nat) (s : Int) : Int := sl ld j * s
def nT (ld : Nat → Nat) (j : Nat) (t : Int) : Int := sl ld j * t + (ld j : Int) - sl ld j * (j : Int)
/-- the c-th span that is tried below -/
def jth (n : Nat) (s : Int) (c : Nat) : Nat := if 0 < s then c else n - 1 - c
/-- bounds of the path's levels -/
def pbd (n : Nat) (sp : Nat → Nat) (ps pt : Nat → Int) (d : Nat) : Prop :=
  ps 0 = 1 ∧ pt 0 = 0 ∧ (∀ q, q ≤ d → (sp q < n ∧ -(5 ^ q : Nat) ≤ ps q ∧ ps q ≤ (5 ^ q : Nat) ∧ -(7 * 5 ^ q - 7 : Nat) ≤ pt q ∧ pt q ≤ (7 * 5 ^ q - 7 : Nat))) ∧ (ps d = 0 → 0 ≤ pt d ∧ pt d ≤ (n : Int) ∧ sp d = min (pt d).toNat (n - 1))
def rok (n : Nat) (R : RS) (c : Nat) : Prop := R.1.length ≤ c ∧ ∀ p ∈ R.1, 0 < p.2 ∧ p.2 ≤ 100000 ∧ p.1 ≤ n * p.2
theorem rok.b {n : Nat} {R : RS} {c : Nat} (h : rok n R c) (hn : n ≤ 5) : ∀ p ∈ R.1, p.1 < 2 ^ 40 ∧ p.2 < 2 ^ 40 := by
  intro p hp
  obtain ⟨h1, h2, h3⟩ := h.2 p hp
  have : n * p.2 ≤ 5 * p.2 := Nat.mul_le_mul_right _ hn
  omega
def goP (n : Nat) (ld : Nat → Nat) (k : Nat) (sp : Nat → Nat) (ps pt : Nat → Int) (tr : Nat → Int32) (d : Nat) (R : RS) (w : zWd) (s t : Int) (r : Option Value) (w' : zWd) : Prop :=
  zFo2 w w' ∧
   ((d + 1 = k ∧ r = some (.int (iI ((d : Int) - 1))) ∧ zRn w' sp ps pt tr (d + 1) (d + 1) (cmb k sp (pst ps k s) (pst pt k t) s t R)) ∨
    (d + 1 < k ∧ s = 0 ∧ tr d = 0 ∧ r = some (.int (nI (d + 1))) ∧ zRn w' (pst sp (d + 1) (min t.toNat (n - 1))) (pst ps (d + 1) 0) (pst pt (d + 1) t) (pst (pst tr d 1) (d + 1) 0) (d + 2) (d + 2) R) ∨
    (d + 1 < k ∧ s = 0 ∧ tr d ≠ 0 ∧ r = some (.int (iI ((d : Int) - 1))) ∧ zRn w' sp ps pt tr (d + 1) (d + 1) R) ∨
    (d + 1 < k ∧ s ≠ 0 ∧ ∃ c c', tr d = nI c ∧ c ≤ n ∧ c ≤ c' ∧ (∀ x, c ≤ x → x < c' → cov ld (sp d) (jth n s x) = false) ∧
      ((c' < n ∧ cov ld (sp d) (jth n s c') = true ∧ r = some (.int (nI (d + 1))) ∧ zRn w' (pst sp (d + 1) (jth n s c')) (pst ps (d + 1) s) (pst pt (d + 1) t) (pst (pst tr d (nI (c' + 1))) (d + 1) 0) (d + 2) (d + 2) R) ∨
       (c' = n ∧ r = some (.int (iI ((d : Int) - 1))) ∧ zRn w' sp ps pt (pst tr d (nI n)) (d + 1) (d + 1) R))))
theorem nI_m1 {d : Nat} : nI d - 1 = iI ((d : Int) - 1) := by rw [nI_iI, show (1 : Int32) = iI 1 from rfl, iI_sub]
/-- tried moves on -/
theorem zRn.tr {w : zWd} {sp : Nat → Nat} {ps pt : Nat → Int} {tr : Nat → Int32} {d : Nat} {R : RS} (h : zRn w sp ps pt tr (d + 1) (d + 1) R) {tS : Nat → Int32} (g : zIs w 60 (zIA 7 tS)) (e : ∀ q, q < d + 1 → tS q = tr q) (x : Int32) : zRn (va_up w 60 (zIA 7 (upd tS d x))) sp ps pt (pst tr d x) (d + 1) (d + 1) R := by
  obtain ⟨⟨ab, be, h0⟩, ⟨fa, g3, e3⟩, ⟨fb, g4, e4⟩, ⟨pS, g5, e5⟩, ⟨pT, g6, e6⟩, ⟨sS, g9, e9⟩, -⟩ := h
  refine ⟨⟨ab, be, h0.n (by decide)⟩, ⟨fa, g3.n (by decide), e3⟩, ⟨fb, g4.n (by decide), e4⟩, ⟨pS, g5.n (by decide), e5⟩, ⟨pT, g6.n (by decide), e6⟩, ⟨sS, g9.n (by decide), e9⟩, ⟨_, zIs.s g.1, fun q hq => ?_⟩⟩
  by_cases c : q = d
  · rw [c, pk_us, pst_s]
  · rw [pk_un c, pst_n c, e q hq]
theorem n_goOn_l (E : zE) {σ : zSt} {m : Nat} (hm : m < 8) {sp : Nat → Nat} {ps pt : Nat → Int} {R : RS} {k d : Nat} (hdk : d + 1 < k) (hk : k ≤ 6) {s t : Int} (hs0 : s ≠ 0) (hs1 : -1000000 ≤ s) (hs2 : s ≤ 1000000) (hsp : sp d < σ.1 m) (zc : Value) :
    ∀ (f c : Nat) (w : zWd) (tr : Nat → Int32) (z11 z12 : Value), c + f = σ.1 m → zMc w σ → zRn w sp ps pt tr (d + 1) (d + 1) R → tr d = nI c → zV E mX4_goOn 3 (goP (σ.1 m) (σ.2 m) k sp ps pt tr d R w s t) 165 [.ref 49, .int (nI m), .int (nI d), .int (nI k), .int (nI (sp d)), zc, zU, .long (lI s), zU, .long (lI t), zU, z11, z12] [] w := by
  intro f
  induction f with
  | zero =>
    intro c w tr z11 z12 hcf hc hR htr
    obtain ⟨⟨ab, be, h0⟩, g3, g4, g5, g6, g9, ⟨tS, g10, e10⟩⟩ := id hR
    obtain ⟨⟨sz, h50, ez⟩, -, hv⟩ := id hc
    obtain ⟨v1, v2, v3⟩ := hv m hm
    refine zV.run kX4_goOn 1 rfl ?_
    refine zV.gf kX4_goOn rfl fX4_42 (h0) rfl ?_
    refine zV.run kX4_goOn 1 rfl ?_
    refine zV.ial kX4_goOn rfl (g10) (d) (rfl) (by omega) (by decide) ?_
    refine zV.run kX4_goOn 1 rfl ?_
    refine zV.gf kX4_goOn rfl fX4_7 (h0) rfl ?_
    refine zV.run kX4_goOn 1 rfl ?_
    refine zV.ial kX4_goOn rfl (h50) (m) (rfl) (hm) (by decide) ?_
    rw [ez m hm, e10 d (by omega), htr]
    refine zV.ict kX4_goOn (cd := .ge) rfl (by rw [show c = σ.1 m by omega]; exact Int32.le_refl _) ?_
    refine zV.run kX4_goOn 3 rfl ?_
    rw [nI_m1]
    refine zV.iret kX4_goOn rfl rfl ⟨fun _ _ => rfl, Or.inr (Or.inr (Or.inr ⟨hdk, hs0, c, c, htr, by omega, Nat.le_refl _, fun x h1 h2 => by omega, Or.inr ⟨by omega, rfl, ?_⟩⟩))⟩
    refine hR.c (Nat.le_refl _) (Nat.le_refl _) (fun _ _ => rfl) (fun _ _ => rfl) (fun _ _ => rfl) (fun q hq => ?_)
    by_cases e : q = d
    · rw [e, pst_s, htr, show c = σ.1 m by omega]
    · rw [pst_n e]
  | succ f ih =>
    intro c w tr z11 z12 hcf hc hR htr
    obtain ⟨⟨ab, be, h0⟩, g3, g4, g5, g6, g9, ⟨tS, g10, e10⟩⟩ := id hR
    obtain ⟨⟨sz, h50, ez⟩, -, hv⟩ := id hc
    obtain ⟨v1, v2, v3⟩ := hv m hm
    have et : tS d = nI c := by rw [e10 d (by omega), htr]
    have hj : jth (σ.1 m) s c < σ.1 m := by unfold jth; split <;> omega
    refine zV.run kX4_goOn 1 rfl ?_
    refine zV.gf kX4_goOn rfl fX4_42 (h0) rfl ?_
    refine zV.run kX4_goOn 1 rfl ?_
    refine zV.ial kX4_goOn rfl (g10) (d) (rfl) (by omega) (by decide) ?_
    refine zV.run kX4_goOn 1 rfl ?_
    refine zV.gf kX4_goOn rfl fX4_7 (h0) rfl ?_
    refine zV.run kX4_goOn 1 rfl ?_
    refine zV.ial kX4_goOn rfl (h50) (m) (rfl) (hm) (by decide) ?_
    rw [ez m hm, et]
    refine zV.icf kX4_goOn (cd := .ge) rfl (nI_ge (by omega) (by omega)) ?_
    refine zV.run kX4_goOn 1 rfl ?_
    refine zV.gf kX4_goOn rfl fX4_42 (h0) rfl ?_
    refine zV.run kX4_goOn 1 rfl ?_
    refine zV.ial kX4_goOn rfl (g10) (d) (rfl) (by omega) (by decide) ?_
    refine zV.run kX4_goOn 2 rfl ?_
    refine zV.gf kX4_goOn rfl fX4_42 (h0) rfl ?_
    refine zV.run kX4_goOn 2 rfl ?_
    refine zV.ial kX4_goOn rfl (g10) (d) (rfl) (by omega) (by decide) ?_
    rw [et]
    refine zV.run kX4_goOn 2 rfl ?_
    refine zV.ias kX4_goOn rfl (g10) (d) (rfl) (by omega) (by decide) ?_
    rw [nI_1]
    have hR2 := hR.tr g10 e10 (nI (c + 1))
    obtain ⟨w2, ew⟩ : ∃ w2, w2 = va_up w 60 (zIA 7 (upd tS d (nI (c + 1)))) := ⟨_, rfl⟩
    rw [← ew] at hR2 ⊢
    have hf2 : zFo2 w w2 := fun a ha => by rw [ew]; exact zup_ne (by omega)
    have hc2 := hf2.mc hc
    have h02 : zIs w2 49 (zMo ab be (nI R.1.length) (zq (R.2.1 = true)) (zq (R.2.2 = true))) := by rw [ew]; exact h0.n (by decide)
    have h502 : zIs w2 50 (zIA 8 sz) := h50.k (hf2 50 (by omega))
    have key : zV E mX4_goOn 3 (goP (σ.1 m) (σ.2 m) k sp ps pt tr d R w s t) 221 [.ref 49, .int (nI m), .int (nI d), .int (nI k), .int (nI (sp d)), zc, zU, .long (lI s), zU, .long (lI t), zU, .int (nI c), z12] [.int (nI (jth (σ.1 m) s c))] w2 := by
      refine zV.run kX4_goOn 5 rfl ?_
      refine zV.cv kX4_goOn rfl lX4_104 (n_covers E h02 hc2 hm hsp (j := jth (σ.1 m) s c) (by omega)) (by decide) rfl (h02) rfl rfl rfl (Nat.le_of_ble_eq_true rfl) ?_
      rintro _ _ ⟨rfl, rfl⟩
      refine zV.run kX4_goOn 1 rfl ?_
      refine zV.ic2 kX4_goOn rfl (fun c2 => ?_) (fun c2 => ?_)
      · skip
        have c2 : ¬ cov (σ.2 m) (sp d) (jth (σ.1 m) s c) = true := fun q => c2 (zq_t q)
        refine zV.run kX4_goOn 1 rfl ?_
        refine zV.mono (fun r w' hp => ?_) (ih (c + 1) w2 _ _ _ (by omega) hc2 hR2 pst_s)
        obtain ⟨p1, p2⟩ := hp
        refine ⟨hf2.t p1, ?_⟩
        rcases p2 with p2 | p2 | p2 | p2
        · exact absurd p2.1 (by omega)
        · exact absurd p2.2.1 hs0
        · exact absurd p2.2.1 hs0
        · obtain ⟨-, -, c1, c', q1, q2, q3, q4, q5⟩ := p2
          rw [pst_s] at q1
          have q1 := (nI_eq (by omega) (by omega)).mp q1
          refine Or.inr (Or.inr (Or.inr ⟨hdk, hs0, c, c', htr, by omega, by omega, fun x x1 x2 => ?_, ?_⟩))
          · by_cases e : x = c
            · rw [e]; simpa using c2
            · exact q4 x (by omega) x2
          · rcases q5 with ⟨a1, a2, a3, a4⟩ | ⟨a1, a2, a3⟩
            · refine Or.inl ⟨a1, a2, a3, a4.c (Nat.le_refl _) (Nat.le_refl _) (fun _ _ => rfl) (fun _ _ => rfl) (fun _ _ => rfl) (fun q hq => ?_)⟩
              by_cases e : q = d + 1
              · rw [e, pst_s, pst_s]
              · rw [pst_n e, pst_n e]
                by_cases e : q = d
                · rw [e, pst_s, pst_s]
                · rw [pst_n e, pst_n e, pst_n e]
            · refine Or.inr ⟨a1, a2, a3.c (Nat.le_refl _) (Nat.le_refl _) (fun _ _ => rfl) (fun _ _ => rfl) (fun _ _ => rfl) (fun q hq => ?_)⟩
              by_cases e : q = d
              · rw [e, pst_s, pst_s]
              · rw [pst_n e, pst_n e, pst_n e]
      · skip
        have c2 : cov (σ.2 m) (sp d) (jth (σ.1 m) s c) = true := Decidable.not_not.mp (fun q => c2 (fun q2 => absurd (q2.symm.trans (zq_f q)) (by decide)))
        refine zV.run kX4_goOn 7 rfl ?_
        rw [nI_1]
        refine zV.cv kX4_goOn rfl lX4_134 (n_enters E hR2 (by omega) (jth (σ.1 m) s c) s t) (by decide) rfl (h02) rfl rfl rfl (Nat.le_of_ble_eq_true rfl) ?_
        rintro _ w3 ⟨rfl, hR3, hf3⟩
        refine zV.run kX4_goOn 3 rfl ?_
        rw [nI_1]
        refine zV.iret kX4_goOn rfl rfl ⟨hf2.t hf3, Or.inr (Or.inr (Or.inr ⟨hdk, hs0, c, c, htr, by omega, Nat.le_refl _, fun x h1 h2 => by omega, Or.inl ⟨by omega, c2, rfl, hR3⟩⟩))⟩
    refine zV.run kX4_goOn 2 rfl ?_
    refine zV.il2 kX4_goOn rfl rfl (fun c1 => ?_) (fun c1 => ?_)
    · skip
      have c1 := (lI_le (a := s) (b := 0) (by omega) (by omega) (by omega) (by omega)).mp c1
      refine zV.run kX4_goOn 1 rfl ?_
      refine zV.gf kX4_goOn rfl fX4_7 (h02) rfl ?_
      refine zV.run kX4_goOn 1 rfl ?_
      refine zV.ial kX4_goOn rfl (h502) (m) (rfl) (hm) (by decide) ?_
      rw [ez m hm]
      refine zV.run kX4_goOn 4 rfl ?_
      have ej : nI (σ.1 m) - 1 - nI c = nI (jth (σ.1 m) s c) := by
        unfold jth
        rw [if_neg (by omega), show (1 : Int32) = nI 1 from rfl, pk_sub (by omega), pk_sub (by omega)]
      rw [ej]
      exact key
    · skip
      have c1 := mt (lI_le (a := s) (b := 0) (by omega) (by omega) (by omega) (by omega)).mpr c1
      refine zV.run kX4_goOn 2 rfl ?_
      have ej : nI c = nI (jth (σ.1 m) s c) := by
        unfold jth
        rw [if_pos (by omega)]
      exact ej ▸ key
end
section
/-! ===== the model: one step of the walk down ===== -/
theorem p5_le {q : Nat} (h : q ≤ 6) : 5 ^ q ≤ 15625 := by
  have e : q = 0 ∨ q = 1 ∨ q = 2 ∨ q = 3 ∨ q = 4 ∨ q = 5 ∨ q = 6 := by omega
  rcases e with rfl | rfl | rfl | rfl | rfl | rfl | rfl <;> decide
theorem p5_s (q : Nat) : 5 ^ (q + 1) = 5 * 5 ^ q := by rw [Nat.pow_succ, Nat.mul_comm]
theorem p5_1 (q : Nat) : 1 ≤ 5 ^ q := Nat.pos_of_ne_zero (by simp)
/-- bounds of what comes next -/
theorem nST_b {n : Nat} {ld : Nat → Nat} (h5 : n ≤ 5) (hb : ∀ i, i ≤ n → ld i ≤ n) {j : Nat} (hj : j < n) {s t : Int} {q : Nat} (s1 : -(5 ^ q : Nat) ≤ s) (s2 : s ≤ (5 ^ q : Nat)) (t1 : -(7 * 5 ^ q - 7 : Nat) ≤ t) (t2 : t ≤ (7 * 5 ^ q - 7 : Nat)) : -(5 ^ (q + 1) : Nat) ≤ nS ld j s ∧ nS ld j s ≤ (5 ^ (q + 1) : Nat) ∧ -(7 * 5 ^ (q + 1) - 7 : Nat) ≤ nT ld j t ∧ nT ld j t ≤ (7 * 5 ^ (q + 1) - 7 : Nat) := by
  have b := sl_rg h5 hb hj
  have m1 := mulb b.1 b.2 s1 s2
  have m2 := mulb b.1 b.2 t1 t2
  have m3 := mulb (y := (j : Int)) (Y := 4) b.1 b.2 (by omega) (by omega)
  have l1 := hb j (by omega)
  have p1 := p5_1 q
  rw [p5_s]
  unfold nS nT
  generalize 5 ^ q = P at *
  have e : ((7 * (5 * P) - 7 : Nat) : Int) = 35 * (P : Int) - 7 := by omega
  have e2 : ((7 * P - 7 : Nat) : Int) = 7 * (P : Int) - 7 := by omega
  rw [e2] at m2
  rw [e]
  generalize sl ld j * s = x1 at *
  generalize sl ld j * t = x2 at *
  generalize sl ld j * (j : Int) = x3 at *
  omega
theorem nT_flat {n : Nat} {ld : Nat → Nat} (h1 : 1 ≤ n) (hb : ∀ i, i ≤ n → ld i ≤ n) {j : Nat} (hj : j < n) {s t : Int} (hf : s = 0 → 0 ≤ t ∧ t ≤ (n : Int) ∧ j = min t.toNat (n - 1)) (h0 : nS ld j s = 0) : 0 ≤ nT ld j t ∧ nT ld j t ≤ (n : Int) := by
  have l1 := hb j (by omega)
  have l2 := hb (j + 1) (by omega)
  unfold nS at h0
  unfold nT
  rcases Int.mul_eq_zero.mp h0 with e | e
  · rw [e, Int.zero_mul, Int.zero_mul]
    omega
  · obtain ⟨f1, f2, f3⟩ := hf e
    have c : t = (j : Int) ∨ t = (j : Int) + 1 := by omega
    rcases c with c | c
    · rw [c]; omega
    · rw [c, Int.mul_add, Int.mul_one]
      unfold sl
      omega
theorem n_goOn (E : zE) {w : zWd} {σ : zSt} {m : Nat} (hm : m < 8) (hc : zMc w σ) {sp : Nat → Nat} {ps pt : Nat → Int} {tr : Nat → Int32} {R : RS} {k d : Nat} (hR : zRn w sp ps pt tr (d + 1) (d + 1) R) (hdk : d < k) (hk : k ≤ 6) (hp : pbd (σ.1 m) sp ps pt d) (hok : rok (σ.1 m) R 30000) {c : Nat} (hct : tr d = nI c) (hcn : c ≤ σ.1 m) : zOk E mX4_goOn 3 [.ref 49, .int (nI m), .int (nI d), .int (nI k)] w (goP (σ.1 m) (σ.2 m) k sp ps pt tr d R w (nS (σ.2 m) (sp d) (ps d)) (nT (σ.2 m) (sp d) (pt d))) := by
  obtain ⟨⟨ab, be, h0⟩, ⟨fa, g3, e3⟩, ⟨fb, g4, e4⟩, ⟨pS, g5, e5⟩, ⟨pT, g6, e6⟩, ⟨sS, g9, e9⟩, ⟨tS, g10, e10⟩⟩ := id hR
  obtain ⟨⟨sz, h50, ez⟩, ⟨ldm, h51, el⟩, hv⟩ := id hc
  obtain ⟨v1, v2, v3⟩ := hv m hm
  obtain ⟨p0, p0t, pq, pf⟩ := hp
  obtain ⟨hsp, s1, s2, t1, t2⟩ := pq d (Nat.le_refl _)
  obtain ⟨S1, S2, T1, T2⟩ := nST_b v2 v3 hsp s1 s2 t1 t2
  have hfl := nT_flat (s := ps d) v1 v3 hsp pf
  have P6 := p5_le (q := d + 1) (by omega)
  have b1 := sl_rg v2 v3 hsp
  obtain ⟨s, es⟩ : ∃ s, s = nS (σ.2 m) (sp d) (ps d) := ⟨_, rfl⟩
  obtain ⟨t, et⟩ : ∃ t, t = nT (σ.2 m) (sp d) (pt d) := ⟨_, rfl⟩
  rw [← es] at S1 S2
  rw [← et] at T1 T2
  rw [← es, ← et] at hfl ⊢
  have ls : lI (sl (σ.2 m) (sp d)) * lI (ps d) = lI s := by rw [es, lI_mul]; rfl
  have lt : lI (sl (σ.2 m) (sp d)) * lI (pt d) + lI ((σ.2 m (sp d) : Nat) : Int) - lI (sl (σ.2 m) (sp d)) * lI (sp d) = lI t := by rw [et, lI_mul, lI_mul, lI_add, lI_sub]; rfl
  refine zOk.of (by decide +kernel) (Nat.le_of_ble_eq_true rfl) ?_
  refine zV.run kX4_goOn 1 rfl ?_
  refine zV.gf kX4_goOn rfl fX4_39 (h0) rfl ?_
  refine zV.run kX4_goOn 1 rfl ?_
  refine zV.ial kX4_goOn rfl (g9) (d) (rfl) (by omega) (by decide) ?_
  rw [e9 d (by omega)]
  refine zV.run kX4_goOn 4 rfl ?_
  refine zV.cv kX4_goOn rfl lX4_57 (n_slopeOf E h0 hc hm hsp) (by decide) rfl (h0) rfl rfl rfl (Nat.le_of_ble_eq_true rfl) ?_
  rintro _ _ ⟨rfl, rfl⟩
  refine zV.run kX4_goOn 4 rfl ?_
  rw [iI_l (by omega) (by omega)]
  refine zV.gf kX4_goOn rfl fX4_27 (h0) rfl ?_
  refine zV.run kX4_goOn 1 rfl ?_
  refine zV.lal kX4_goOn rfl (g5) (d) (rfl) (by omega) (by decide) ?_
  rw [e5 d (by omega)]
  refine zV.run kX4_goOn 4 rfl ?_
  rw [ls]
  refine zV.gf kX4_goOn rfl fX4_30 (h0) rfl ?_
  refine zV.run kX4_goOn 1 rfl ?_
  refine zV.lal kX4_goOn rfl (g6) (d) (rfl) (by omega) (by decide) ?_
  rw [e6 d (by omega)]
  refine zV.run kX4_goOn 2 rfl ?_
  refine zV.gf kX4_goOn rfl fX4_13 (h0) rfl ?_
  refine zV.run kX4_goOn 5 rfl ?_
  refine zV.ial kX4_goOn rfl (h51) (7 * m + sp d) (ix7) (by omega) (by decide) ?_
  rw [el m (sp d) hm (by omega)]
  refine zV.run kX4_goOn 12 rfl ?_
  rw [nI_iI (σ.2 m (sp d)), iI_l (by have := v3 (sp d) (by omega); omega) (by have := v3 (sp d) (by omega); omega), nI_iI (sp d), iI_l (by omega) (by omega), lt]
  refine zV.ic2 kX4_goOn rfl (fun c1 => ?_) (fun c1 => ?_)
  · skip
    have c1 : ¬ d + 1 = k := fun q => c1 (by rw [nI_1, q])
    refine zV.run kX4_goOn 2 rfl ?_
    refine zV.il2 kX4_goOn rfl rfl (fun c2 => ?_) (fun c2 => ?_)
    · skip
      have c2 : ¬ s = 0 := fun q => c2 (by rw [q]; rfl)
      exact n_goOn_l E hm (by omega) hk c2 (by omega) (by omega) hsp _ (σ.1 m - c) c w tr _ _ (by omega) hc hR hct
    · skip
      have c2 := (lI_eq (a := s) (b := 0) (by omega) (by omega) (by omega) (by omega)).mp (Decidable.not_not.mp c2)
      have F := hfl c2
      refine zV.run kX4_goOn 1 rfl ?_
      refine zV.gf kX4_goOn rfl fX4_42 (h0) rfl ?_
      refine zV.run kX4_goOn 1 rfl ?_
      refine zV.ial kX4_goOn rfl (g10) (d) (rfl) (by omega) (by decide) ?_
      refine zV.if2 kX4_goOn rfl (fun c3 => ?_) (fun c3 => ?_)
      · skip
        rw [e10 d (by omega)] at c3
        refine zV.run kX4_goOn 3 rfl ?_
        rw [nI_m1]
        refine zV.iret kX4_goOn rfl rfl ⟨fun _ _ => rfl, Or.inr (Or.inr (Or.inl ⟨by omega, c2, c3, rfl, hR⟩))⟩
      · skip
        rw [e10 d (by omega)] at c3
        have c3 := Decidable.not_not.mp c3
        refine zV.run kX4_goOn 1 rfl ?_
        refine zV.gf kX4_goOn rfl fX4_42 (h0) rfl ?_
        refine zV.run kX4_goOn 2 rfl ?_
        refine zV.ias kX4_goOn rfl (g10) (d) (rfl) (by omega) (by decide) ?_
        have hR2 := hR.tr g10 e10 1
        obtain ⟨w2, ew⟩ : ∃ w2, w2 = va_up w 60 (zIA 7 (upd tS d 1)) := ⟨_, rfl⟩
        rw [← ew] at hR2 ⊢
        have hf2 : zFo2 w w2 := fun a ha => by rw [ew]; exact zup_ne (by omega)
        have hc2 := hf2.mc hc
        have h02 : zIs w2 49 (zMo ab be (nI R.1.length) (zq (R.2.1 = true)) (zq (R.2.2 = true))) := by rw [ew]; exact h0.n (by decide)
        have h502 : zIs w2 50 (zIA 8 sz) := h50.k (hf2 50 (by omega))
        have key : zV E mX4_goOn 3 (goP (σ.1 m) (σ.2 m) k sp ps pt tr d R w s t) 151 [.ref 49, .int (nI m), .int (nI d), .int (nI k), .int (iI (sp d)), .long (lI (sl (σ.2 m) (sp d))), zU, .long (lI s), zU, .long (lI t), zU, zU, zU] [.int (nI (min t.toNat (σ.1 m - 1))), .int (nI (d + 1)), .ref 49] w2 := by
          refine zV.run kX4_goOn 2 rfl ?_
          refine zV.cv kX4_goOn rfl lX4_134 (n_enters E hR2 (by omega) (min t.toNat (σ.1 m - 1)) 0 t) (by decide) rfl (h02) rfl rfl rfl (Nat.le_of_ble_eq_true rfl) ?_
          rintro _ w3 ⟨rfl, hR3, hf3⟩
          refine zV.run kX4_goOn 3 rfl ?_
          rw [nI_1]
          refine zV.iret kX4_goOn rfl rfl ⟨hf2.t hf3, Or.inr (Or.inl ⟨by omega, c2, c3, rfl, hR3⟩)⟩
        refine zV.run kX4_goOn 6 rfl ?_
        refine zV.gf kX4_goOn rfl fX4_7 (h02) rfl ?_
        refine zV.run kX4_goOn 1 rfl ?_
        refine zV.ial kX4_goOn rfl (h502) (m) (rfl) (hm) (by decide) ?_
        rw [ez m hm]
        refine zV.run kX4_goOn 1 rfl ?_
        rw [nI_1, nI_iI (σ.1 m), iI_l (by omega) (by omega)]
        refine zV.il2 kX4_goOn rfl rfl (fun c4 => ?_) (fun c4 => ?_)
        · skip
          have c4 := (lI_le (by omega) (by omega) (by omega) (by omega)).mp c4
          refine zV.run kX4_goOn 1 rfl ?_
          refine zV.gf kX4_goOn rfl fX4_7 (h02) rfl ?_
          refine zV.run kX4_goOn 1 rfl ?_
          refine zV.ial kX4_goOn rfl (h502) (m) (rfl) (hm) (by decide) ?_
          rw [ez m hm]
          refine zV.run kX4_goOn 2 rfl ?_
          rw [show (1 : Int32) = nI 1 from rfl, pk_sub (by omega), show σ.1 m - 1 = min t.toNat (σ.1 m - 1) by omega]
          exact key
        · skip
          have c4 := mt (lI_le (b := t) (by omega) (by omega) (by omega) (by omega)).mpr c4
          refine zV.run kX4_goOn 3 rfl ?_
          rw [lI_i, show iI t = nI (min t.toNat (σ.1 m - 1)) by rw [nI_iI]; congr 1; omega]
          exact key
  · skip
    have c1 := (nI_eq (a := d + 1) (b := k) (by omega) (by omega)).mp (by rw [← nI_1]; exact Decidable.not_not.mp c1)
    subst c1
    refine zV.run kX4_goOn 1 rfl ?_
    refine zV.gf kX4_goOn rfl fX4_27 (h0) rfl ?_
    refine zV.run kX4_goOn 2 rfl ?_
    refine zV.las kX4_goOn rfl (g5) ((d + 1)) (rfl) (by omega) (by decide) ?_
    refine zV.run kX4_goOn 1 rfl ?_
    refine zV.gf kX4_goOn rfl fX4_30 (h0.n (by decide)) rfl ?_
    refine zV.run kX4_goOn 2 rfl ?_
    refine zV.las kX4_goOn rfl (g6.n (by decide)) ((d + 1)) (rfl) (by omega) (by decide) ?_
    obtain ⟨w2, ew⟩ : ∃ w2, w2 = va_up (va_up w 55 (zLA 7 (vp_updL pS (d + 1) (lI s)))) 56 (zLA 7 (vp_updL pT (d + 1) (lI t))) := ⟨_, rfl⟩
    rw [← ew]
    have k2 : ∀ q, q ≠ 55 → q ≠ 56 → w2 q = w q := fun q q1 q2 => by rw [ew, zup_ne q2, zup_ne q1]
    have h02 := h0.k (k2 49 (by decide) (by decide))
    have hf2 : zFo2 w w2 := fun a ha => k2 a (by omega) (by omega)
    have hR2 : zRn w2 sp (pst ps (d + 1) s) (pst pt (d + 1) t) tr (d + 1) (d + 1 + 1) R := by
      refine ⟨⟨ab, be, h02⟩, ⟨fa, g3.k (k2 _ (by decide) (by decide)), e3⟩, ⟨fb, g4.k (k2 _ (by decide) (by decide)), e4⟩, ⟨_, by rw [ew]; exact (zIs.s g5.1).n (by decide), fun q hq => ?_⟩, ⟨_, by rw [ew]; exact zIs.s g6.1, fun q hq => ?_⟩, ⟨sS, g9.k (k2 _ (by decide) (by decide)), e9⟩, ⟨tS, g10.k (k2 _ (by decide) (by decide)), e10⟩⟩
      · by_cases e : q = d + 1
        · rw [e, pk_uLs, pst_s]
        · rw [pk_uLn e, pst_n e, e5 q (by omega)]
      · by_cases e : q = d + 1
        · rw [e, pk_uLs, pst_s]
        · rw [pk_uLn e, pst_n e, e6 q (by omega)]
    have B : ∀ q, q ≤ d + 1 → bdd (pst ps (d + 1) s q) ∧ bdd (pst pt (d + 1) t q) := by
      intro q hq
      have P7 := p5_le (q := q) (by omega)
      by_cases e : q = d + 1
      · rw [e, pst_s, pst_s]
        exact ⟨⟨by omega, by omega⟩, ⟨by omega, by omega⟩⟩
      · rw [pst_n e, pst_n e]
        obtain ⟨-, a1, a2, a3, a4⟩ := pq q (by omega)
        exact ⟨⟨by omega, by omega⟩, ⟨by omega, by omega⟩⟩
    have OK := n_comesBack E hR2 (by omega) hk (by rw [pst_n (by omega)]; exact p0) (by rw [pst_n (by omega)]; exact p0t) (fun q hq => (B q hq).1) (fun q hq => (B q hq).2) (fun q hq => by have := (pq q (by omega)).1; omega) (by rw [pst_s]; omega) (by have := hok.1; omega) (hok.b v2)
    rw [pst_s, pst_s] at OK
    refine zV.run kX4_goOn 4 rfl ?_
    refine zV.cv kX4_goOn rfl lX4_141 (OK) (by decide) rfl (h02) rfl rfl rfl (Nat.le_of_ble_eq_true rfl) ?_
    rintro _ w3 ⟨rfl, hR3, hf3⟩
    refine zV.run kX4_goOn 3 rfl ?_
    rw [nI_m1]
    refine zV.iret kX4_goOn rfl rfl ⟨hf2.t hf3, Or.inl ⟨rfl, rfl, hR3.c (Nat.le_refl _) (by omega) (fun _ _ => rfl) (fun q hq => pst_n (by omega)) (fun q hq => pst_n (by omega)) (fun _ _ => rfl)⟩⟩
end
section
/-! ===== the model: findRounds ===== -/
def chl (F : Nat → RS → RS) (g : Nat → Bool) : Nat → Nat → RS → RS
  | 0, _, R => R
  | f + 1, c, R => chl F g f (c + 1) (if g c = true then F c R else R)
theorem chl_skip (F : Nat → RS → RS) (g : Nat → Bool) : ∀ (e f c : Nat) (R : RS), (∀ x, c ≤ x → x < c + e → g x = false) → chl F g (e + f) c R = chl F g f (c + e) R
  | 0, f, c, R, h => by rw [Nat.zero_add, Nat.add_zero]
  | e + 1, f, c, R, h => by
    have h0 : ¬ g c = true := by rw [h c (Nat.le_refl _) (by omega)]; decide
    rw [show e + 1 + f = (e + f) + 1 by omega]
    show chl F g (e + f) (c + 1) _ = _
    rw [if_neg h0, chl_skip F g e f (c + 1) R (fun x h1 h2 => h x (by omega) (by omega)), show c + 1 + e = c + (e + 1) by omega]
/-- the walk below the level d, r levels above the last -/
def nod (n : Nat) (ld : Nat → Nat) (k : Nat) : Nat → Nat → (Nat → Nat) → (Nat → Int) → (Nat → Int) → RS → RS
  | 0, d, sp, ps, pt, R => cmb k sp (pst ps k (nS ld (sp d) (ps d))) (pst pt k (nT ld (sp d) (pt d))) (nS ld (sp d) (ps d)) (nT ld (sp d) (pt d)) R
  | r + 1, d, sp, ps, pt, R =>
    if nS ld (sp d) (ps d) = 0 then nod n ld k r (d + 1) (pst sp (d + 1) (min (nT ld (sp d) (pt d)).toNat (n - 1))) (pst ps (d + 1) 0) (pst pt (d + 1) (nT ld (sp d) (pt d))) R
    else chl (fun c R => nod n ld k r (d + 1) (pst sp (d + 1) (jth n (nS ld (sp d) (ps d)) c)) (pst ps (d + 1) (nS ld (sp d) (ps d))) (pst pt (d + 1) (nT ld (sp d) (pt d))) R) (fun c => cov ld (sp d) (jth n (nS ld (sp d) (ps d)) c)) n 0 R
theorem ionf_le {n : Nat} {sp : Nat → Nat} {ps pt : Nat → Int} {a b : Int} {k : Nat} (h1 : 1 ≤ k) (hs : ps 0 = 1) (ht : pt 0 = 0) (hn : sp 0 < n) (hb : 0 ≤ b) (h : ionf sp ps pt a b k 0 = true) : a ≤ n * b := by
  obtain ⟨r, rfl⟩ : ∃ r, k = r + 1 := ⟨k - 1, by omega⟩
  unfold ionf at h
  split at h
  next => cases h
  next c =>
    rw [hs, ht, Int.one_mul, Int.zero_mul, Int.add_zero] at c
    have : ((sp 0 : Int) + 1) * b ≤ n * b := Int.mul_le_mul_of_nonneg_right (by omega) hb
    omega
theorem rdp_ok {n A B : Nat} (hB : 0 < B) (hB2 : B ≤ 100000) (hA : A ≤ n * B) : 0 < (rdp A B).2 ∧ (rdp A B).2 ≤ 100000 ∧ (rdp A B).1 ≤ n * (rdp A B).2 := by
  have hg : 0 < Nat.gcd A B := Nat.gcd_pos_of_pos_right _ hB
  have d2 : Nat.gcd A B ∣ B := Nat.gcd_dvd_right _ _
  refine ⟨Nat.div_pos (Nat.le_of_dvd hB d2) hg, Nat.le_trans (Nat.div_le_self _ _) hB2, ?_⟩
  show A / Nat.gcd A B ≤ n * (B / Nat.gcd A B)
  rw [← Nat.mul_div_assoc _ d2]
  exact Nat.div_le_div_right hA
theorem rok_cmb {n : Nat} {R : RS} {C : Nat} (h : rok n R C) {k : Nat} {sp : Nat → Nat} {ps pt : Nat → Int} {s t : Int} (hk : 1 ≤ k) (p0 : ps 0 = 1) (p0t : pt 0 = 0) (hsp : sp 0 < n) (s1 : -15625 ≤ s) (s2 : s ≤ 15625) : rok n (cmb k sp ps pt s t R) (C + 1) := by
  obtain ⟨h1, h2⟩ := h
  have key : ∀ A B : Nat, 0 < B → B ≤ 100000 → A ≤ n * B → rok n (apd R.1 (rdp A B), R.2) (C + 1) := by
    intro A B hB hB2 hA
    unfold apd
    split
    · exact ⟨by show R.1.length ≤ _; omega, h2⟩
    · refine ⟨by show (R.1 ++ [_]).length ≤ _; rw [List.length_append]; simp; omega, fun p hp => ?_⟩
      have hp : p ∈ R.1 ++ [_] := hp
      rcases List.mem_append.mp hp with q | q
      · exact h2 p q
      · rw [List.mem_singleton.mp q]
        exact rdp_ok hB hB2 hA
  unfold cmb
  by_cases e1 : s = 1
  · rw [if_pos e1]
    by_cases e2 : t = 0
    · rw [if_pos e2]
      exact ⟨by show R.1.length ≤ _; omega, h2⟩
    · rw [if_neg e2]
      exact ⟨by omega, h2⟩
  · rw [if_neg e1]
    by_cases e2 : ionf sp ps pt (if s < 1 then t else -t) (if s < 1 then 1 - s else s - 1) k 0 = true
    · rw [if_pos e2]
      have hb : 0 < (if s < 1 then 1 - s else s - 1) := by split <;> omega
      have hb2 : (if s < 1 then 1 - s else s - 1) ≤ 100000 := by split <;> omega
      have l1 := ionf_le hk p0 p0t hsp (by omega) e2
      refine key _ _ (by omega) (by omega) ?_
      generalize (if s < 1 then t else -t) = a at *
      generalize (if s < 1 then 1 - s else s - 1) = b at *
      have eb : b = (b.toNat : Int) := by omega
      rw [eb, ← Int.natCast_mul] at l1
      omega
    · rw [if_neg e2]
      exact ⟨by omega, h2⟩
theorem pbd.s {n : Nat} {ld : Nat → Nat} (h1 : 1 ≤ n) (h5 : n ≤ 5) (hb : ∀ i, i ≤ n → ld i ≤ n) {sp : Nat → Nat} {ps pt : Nat → Int} {d : Nat} (h : pbd n sp ps pt d) {j : Nat} (hj : j < n) (hf : nS ld (sp d) (ps d) = 0 → j = min (nT ld (sp d) (pt d)).toNat (n - 1)) : pbd n (pst sp (d + 1) j) (pst ps (d + 1) (nS ld (sp d) (ps d))) (pst pt (d + 1) (nT ld (sp d) (pt d))) (d + 1) := by
  obtain ⟨a1, a2, a3, a4⟩ := h
  obtain ⟨c1, c2, c3, c4, c5⟩ := a3 d (Nat.le_refl _)
  have B := nST_b h5 hb c1 c2 c3 c4 c5
  refine ⟨by rw [pst_n (by omega)]; exact a1, by rw [pst_n (by omega)]; exact a2, fun q hq => ?_, fun e => ?_⟩
  · by_cases e : q = d + 1
    · rw [e, pst_s, pst_s, pst_s]
      exact ⟨hj, B.1, B.2.1, B.2.2.1, B.2.2.2⟩
    · rw [pst_n e, pst_n e, pst_n e]
      exact a3 q (by omega)
  · rw [pst_s] at e
    rw [pst_s, pst_s]
    have F := nT_flat (s := ps d) h1 hb c1 a4 e
    exact ⟨F.1, F.2, hf e⟩
theorem n_nod (E : zE) {σ : zSt} {m : Nat} (hm : m < 8) {w0 : zWd} (hc0 : zMc w0 σ) {k : Nat} (hk : k ≤ 6) {Post : Option Value → zWd → Prop} (i : Int32) :
    ∀ (r d : Nat), d + r + 1 = k → ∀ (sp : Nat → Nat) (ps pt : Nat → Int) (tr : Nat → Int32) (R : RS) (C : Nat) (w : zWd), zRn w sp ps pt tr (d + 1) (d + 1) R → zFo2 w0 w → tr d = 0 → pbd (σ.1 m) sp ps pt d → rok (σ.1 m) R C → C + 5 ^ r ≤ 29000 →
      (∀ w', zRn w' sp ps pt tr d d (nod (σ.1 m) (σ.2 m) k r d sp ps pt R) → zFo2 w0 w' → rok (σ.1 m) (nod (σ.1 m) (σ.2 m) k r d sp ps pt R) (C + 5 ^ r) → zV E mX4_findRounds 4 Post 38 [.ref 49, .int (nI m), .int (nI k), .int i, .int (iI ((d : Int) - 1))] [] w') →
      zV E mX4_findRounds 4 Post 38 [.ref 49, .int (nI m), .int (nI k), .int i, .int (nI d)] [] w := by
  obtain ⟨v1, v2, v3⟩ := hc0.2.2 m hm
  intro r
  induction r with
  | zero =>
    intro d hdk sp ps pt tr R C w hR hfo htr hp hok hC kk
    obtain ⟨⟨ab, be, h0⟩, -⟩ := id hR
    obtain ⟨c1, c2, c3, c4, c5⟩ := hp.2.2.1 d (Nat.le_refl _)
    have B := nST_b v2 v3 c1 c2 c3 c4 c5
    have P7 := p5_le (q := d + 1) (by omega)
    refine zV.run kX4_findRounds 1 rfl ?_
    refine zV.iff kX4_findRounds (cd := .lt) rfl (fun q => absurd ((zlt _ _ (nI_iI d) (show (0 : Int32) = iI 0 from rfl) (by omega) (by omega) (by omega) (by omega)).mp q) (by omega)) ?_
    refine zV.run kX4_findRounds 4 rfl ?_
    refine zV.cv kX4_findRounds rfl lX4_138 (n_goOn E hm (hfo.mc hc0) hR (by omega) hk hp ⟨by have := hok.1; omega, hok.2⟩ (c := 0) htr (by omega)) (by decide) rfl (h0) rfl rfl rfl (Nat.le_of_ble_eq_true rfl) ?_
    rintro _ w2 ⟨hf2, hq⟩
    rcases hq with ⟨-, rfl, hR2⟩ | hq | hq | hq
    · skip
      refine zV.run kX4_findRounds 2 rfl ?_
      exact kk w2 (hR2.c (by omega) (by omega) (fun _ _ => rfl) (fun _ _ => rfl) (fun _ _ => rfl) (fun _ _ => rfl)) (hfo.t hf2) (rok_cmb hok (by omega) (by rw [pst_n (by omega)]; exact hp.1) (by rw [pst_n (by omega)]; exact hp.2.1) (hp.2.2.1 0 (by omega)).1 (by omega) (by omega))
    · exact absurd hq.1 (by omega)
    · exact absurd hq.1 (by omega)
    · exact absurd hq.1 (by omega)
  | succ r ih =>
    intro d hdk sp ps pt tr R C w hR hfo htr hp hok hC kk
    obtain ⟨⟨ab, be, h0⟩, -⟩ := id hR
    have hps : ∀ q, q ≤ d → sp q < σ.1 m := fun q hq => (hp.2.2.1 q hq).1
    have P5 : 5 ^ (r + 1) = 5 * 5 ^ r := p5_s r
    have P1 := p5_1 r
    by_cases hs : nS (σ.2 m) (sp d) (ps d) = 0
    · have en : nod (σ.1 m) (σ.2 m) k (r + 1) d sp ps pt R = nod (σ.1 m) (σ.2 m) k r (d + 1) (pst sp (d + 1) (min (nT (σ.2 m) (sp d) (pt d)).toNat (σ.1 m - 1))) (pst ps (d + 1) 0) (pst pt (d + 1) (nT (σ.2 m) (sp d) (pt d))) R := if_pos hs
      rw [en] at kk
      have hp2 := hp.s (ld := σ.2 m) v1 v2 v3 (j := min (nT (σ.2 m) (sp d) (pt d)).toNat (σ.1 m - 1)) (by omega) (fun _ => rfl)
      rw [hs] at hp2
      refine zV.run kX4_findRounds 1 rfl ?_
      refine zV.iff kX4_findRounds (cd := .lt) rfl (fun q => absurd ((zlt _ _ (nI_iI d) (show (0 : Int32) = iI 0 from rfl) (by omega) (by omega) (by omega) (by omega)).mp q) (by omega)) ?_
      refine zV.run kX4_findRounds 4 rfl ?_
      refine zV.cv kX4_findRounds rfl lX4_138 (n_goOn E hm (hfo.mc hc0) hR (by omega) hk hp ⟨by have := hok.1; omega, hok.2⟩ (c := 0) htr (by omega)) (by decide) rfl (h0) rfl rfl rfl (Nat.le_of_ble_eq_true rfl) ?_
      rintro _ w2 ⟨hf2, hq⟩
      rcases hq with hq | ⟨-, -, -, rfl, hR2⟩ | ⟨-, -, hq, -⟩ | ⟨-, hq, -⟩
      · exact absurd hq.1 (by omega)
      · skip
        refine zV.run kX4_findRounds 2 rfl ?_
        refine ih (d + 1) (by omega) _ _ _ _ R C w2 hR2 (hfo.t hf2) pst_s hp2 hok (by omega) (fun w3 hR3 hf3 hok3 => ?_)
        -- back at the level d: tried, and up
        have hR3' : zRn w3 sp ps pt (pst tr d 1) (d + 1) (d + 1) _ := hR3.c (Nat.le_refl _) (Nat.le_refl _) (fun q hq => pst_n (by omega)) (fun q hq => pst_n (by omega)) (fun q hq => pst_n (by omega)) (fun q hq => pst_n (by omega))
        obtain ⟨⟨ab3, be3, h03⟩, -⟩ := id hR3'
        rw [show ((d + 1 : Nat) : Int) - 1 = (d : Int) by omega, ← nI_iI]
        refine zV.run kX4_findRounds 1 rfl ?_
        refine zV.iff kX4_findRounds (cd := .lt) rfl (fun q => absurd ((zlt _ _ (nI_iI d) (show (0 : Int32) = iI 0 from rfl) (by omega) (by omega) (by omega) (by omega)).mp q) (by omega)) ?_
        refine zV.run kX4_findRounds 4 rfl ?_
        refine zV.cv kX4_findRounds rfl lX4_138 (n_goOn E hm (hf3.mc hc0) hR3' (by omega) hk hp ⟨by have := hok3.1; omega, hok3.2⟩ (c := 1) (pst_s (f := tr) (a := d) (x := 1)) (by omega)) (by decide) rfl (h03) rfl rfl rfl (Nat.le_of_ble_eq_true rfl) ?_
        rintro _ w4 ⟨hf4, hq⟩
        rcases hq with hq | ⟨-, -, hq, -⟩ | ⟨-, -, -, rfl, hR4⟩ | ⟨-, hq, -⟩
        · exact absurd hq.1 (by omega)
        · rw [pst_s] at hq
          exact absurd hq (by decide)
        · skip
          refine zV.run kX4_findRounds 2 rfl ?_
          exact kk w4 (hR4.c (by omega) (by omega) (fun _ _ => rfl) (fun _ _ => rfl) (fun _ _ => rfl) (fun q hq => pst_n (by omega))) (hf3.t hf4) ⟨by have := hok3.1; omega, hok3.2⟩
        · exact absurd hs hq
      · exact absurd htr hq
      · exact absurd hs hq
    · obtain ⟨F, eF⟩ : ∃ F, F = fun c R => nod (σ.1 m) (σ.2 m) k r (d + 1) (pst sp (d + 1) (jth (σ.1 m) (nS (σ.2 m) (sp d) (ps d)) c)) (pst ps (d + 1) (nS (σ.2 m) (sp d) (ps d))) (pst pt (d + 1) (nT (σ.2 m) (sp d) (pt d))) R := ⟨_, rfl⟩
      obtain ⟨g, eg⟩ : ∃ g, g = fun c => cov (σ.2 m) (sp d) (jth (σ.1 m) (nS (σ.2 m) (sp d) (ps d)) c) := ⟨_, rfl⟩
      have en : nod (σ.1 m) (σ.2 m) k (r + 1) d sp ps pt R = chl F g (σ.1 m) 0 R := by rw [eF, eg]; exact if_neg hs
      rw [en] at kk
      have loop : ∀ (f c : Nat) (R' : RS) (w' : zWd) (tr' : Nat → Int32), c + f = σ.1 m → zRn w' sp ps pt tr' (d + 1) (d + 1) R' → tr' d = nI c → (∀ q, q < d → tr' q = tr q) → zFo2 w0 w' → rok (σ.1 m) R' (C + c * 5 ^ r) → chl F g f c R' = chl F g (σ.1 m) 0 R → zV E mX4_findRounds 4 Post 38 [.ref 49, .int (nI m), .int (nI k), .int i, .int (nI d)] [] w' := by
        intro f
        induction f using Nat.strongRecOn with
        | _ f ihf =>
          intro c R' w' tr' hcf hR' htr' htq hf' hok' hch
          obtain ⟨⟨ab', be', h0'⟩, -⟩ := id hR'
          have hcC : C + c * 5 ^ r ≤ 29000 := by
            have : c * 5 ^ r ≤ 5 * 5 ^ r := Nat.mul_le_mul_right _ (by omega)
            omega
          refine zV.run kX4_findRounds 1 rfl ?_
          refine zV.iff kX4_findRounds (cd := .lt) rfl (fun q => absurd ((zlt _ _ (nI_iI d) (show (0 : Int32) = iI 0 from rfl) (by omega) (by omega) (by omega) (by omega)).mp q) (by omega)) ?_
          refine zV.run kX4_findRounds 4 rfl ?_
          refine zV.cv kX4_findRounds rfl lX4_138 (n_goOn E hm (hf'.mc hc0) hR' (by omega) hk hp ⟨by have := hok'.1; omega, hok'.2⟩ (c := c) htr' (by omega)) (by decide) rfl (h0') rfl rfl rfl (Nat.le_of_ble_eq_true rfl) ?_
          rintro _ w2 ⟨hf2, hq⟩
          rcases hq with hq | ⟨-, hq, -⟩ | ⟨-, hq, -⟩ | ⟨-, -, c1, c', q1, q2, q3, q4, q5⟩
          · exact absurd hq.1 (by omega)
          · exact absurd hq hs
          · exact absurd hq hs
          · rw [htr'] at q1
            have q1 := (nI_eq (by omega) (by omega)).mp q1
            subst q1
            have hsk : ∀ x, c ≤ x → x < c' → g x = false := fun x h1 h2 => by rw [eg]; exact q4 x h1 h2
            rcases q5 with ⟨a1, a2, rfl, hR2⟩ | ⟨a1, rfl, hR2⟩
            · have hgc : g c' = true := by rw [eg]; exact a2
              have e2 : chl F g f c R' = chl F g (σ.1 m - c' - 1) (c' + 1) (F c' R') := by
                have := chl_skip F g (c' - c) (σ.1 m - c') c R' (fun x h1 h2 => hsk x h1 (by omega))
                rw [show c' - c + (σ.1 m - c') = f by omega, show c + (c' - c) = c' by omega, show σ.1 m - c' = (σ.1 m - c' - 1) + 1 by omega] at this
                rw [this]
                show chl F g (σ.1 m - c' - 1) (c' + 1) (if g c' = true then F c' R' else R') = _
                rw [if_pos hgc]
              have hj : jth (σ.1 m) (nS (σ.2 m) (sp d) (ps d)) c' < σ.1 m := by unfold jth; split <;> omega
              have hcc : c * 5 ^ r ≤ c' * 5 ^ r := Nat.mul_le_mul_right _ q3
              have hcc2 : (c' + 1) * 5 ^ r ≤ 5 * 5 ^ r := Nat.mul_le_mul_right _ (by omega)
              have hcc3 : (c' + 1) * 5 ^ r = c' * 5 ^ r + 5 ^ r := Nat.succ_mul _ _
              refine zV.run kX4_findRounds 2 rfl ?_
              refine ih (d + 1) (by omega) _ _ _ _ R' (C + c * 5 ^ r) w2 hR2 (hf'.t hf2) pst_s (hp.s (ld := σ.2 m) v1 v2 v3 hj (fun q => absurd q hs)) hok' (by omega) (fun w3 hR3 hf3 hok3 => ?_)
              rw [show ((d + 1 : Nat) : Int) - 1 = (d : Int) by omega, ← nI_iI]
              have eFc : nod (σ.1 m) (σ.2 m) k r (d + 1) (pst sp (d + 1) (jth (σ.1 m) (nS (σ.2 m) (sp d) (ps d)) c')) (pst ps (d + 1) (nS (σ.2 m) (sp d) (ps d))) (pst pt (d + 1) (nT (σ.2 m) (sp d) (pt d))) R' = F c' R' := by rw [eF]
              rw [eFc] at hR3 hok3
              refine ihf (σ.1 m - c' - 1) (by omega) (c' + 1) (F c' R') w3 (pst tr' d (nI (c' + 1))) (by omega) (hR3.c (Nat.le_refl _) (Nat.le_refl _) (fun q hq => pst_n (by omega)) (fun q hq => pst_n (by omega)) (fun q hq => pst_n (by omega)) (fun q hq => pst_n (by omega))) pst_s (fun q hq => by rw [pst_n (by omega)]; exact htq q hq) hf3 ⟨by have := hok3.1; omega, hok3.2⟩ (by rw [← e2]; exact hch)
            · have e2 : chl F g f c R' = R' := by
                have := chl_skip F g f 0 c R' (fun x h1 h2 => hsk x h1 (by omega))
                rw [Nat.add_zero] at this
                rw [this]; rfl
              rw [← hch, e2] at kk
              have hcc : c * 5 ^ r ≤ 5 * 5 ^ r := Nat.mul_le_mul_right _ (by omega)
              refine zV.run kX4_findRounds 2 rfl ?_
              exact kk w2 (hR2.c (by omega) (by omega) (fun _ _ => rfl) (fun _ _ => rfl) (fun _ _ => rfl) (fun q hq => by rw [pst_n (by omega)]; exact htq q hq)) (hf'.t hf2) ⟨by have := hok'.1; omega, hok'.2⟩
      exact loop (σ.1 m) 0 R w tr (by omega) hR htr (fun _ _ => rfl) hfo ⟨by have := hok.1; omega, hok.2⟩ rfl
/-- what is found for the spans below i -/
def fnd (n : Nat) (ld : Nat → Nat) (k : Nat) : Nat → RS
  | 0 => ([], false, false)
  | i + 1 => nod n ld k (k - 1) 0 (pst (fun _ => 0) 0 i) (pst (fun _ => 0) 0 1) (pst (fun _ => 0) 0 0) (fnd n ld k i)
theorem zRn.z {w : zWd} {sp : Nat → Nat} {ps pt : Nat → Int} {tr : Nat → Int32} {R : RS} (h : zRn w sp ps pt tr 0 0 R) : zRn w (fun _ => 0) (fun _ => 0) (fun _ => 0) (fun _ => 0) 0 0 R := h.c (Nat.le_refl _) (Nat.le_refl _) (fun q hq => absurd hq (by omega)) (fun q hq => absurd hq (by omega)) (fun q hq => absurd hq (by omega)) (fun q hq => absurd hq (by omega))
def zFd2 (w : zWd) (R : RS) : Prop := zRn w (fun _ => 0) (fun _ => 0) (fun _ => 0) (fun _ => 0) 0 0 R
theorem n_findRounds_l (E : zE) {σ : zSt} {m : Nat} (hm : m < 8) {w0 : zWd} (hc0 : zMc w0 σ) {k : Nat} (h1 : 1 ≤ k) (hk : k ≤ 6) : ∀ (f i : Nat) (w : zWd) (z4 : Value), i + f = σ.1 m → zFo2 w0 w → zFd2 w (fnd (σ.1 m) (σ.2 m) k i) → rok (σ.1 m) (fnd (σ.1 m) (σ.2 m) k i) (i * 3125) → zV E mX4_findRounds 4 (fun r w' => r = none ∧ zFo2 w0 w' ∧ zFd2 w' (fnd (σ.1 m) (σ.2 m) k (σ.1 m)) ∧ rok (σ.1 m) (fnd (σ.1 m) (σ.2 m) k (σ.1 m)) 20000) 17 [.ref 49, .int (nI m), .int (nI k), .int (nI i), z4] [] w := by
  obtain ⟨v1, v2, v3⟩ := hc0.2.2 m hm
  intro f
  induction f with
  | zero =>
    intro i w z4 hi hfo hR hok
    have e : i = σ.1 m := by omega
    subst e
    obtain ⟨⟨ab, be, h0⟩, -⟩ := id hR
    obtain ⟨⟨sz, h50, ez⟩, -, -⟩ := hfo.mc hc0
    refine zV.run kX4_findRounds 2 rfl ?_
    refine zV.gf kX4_findRounds rfl fX4_7 (h0) rfl ?_
    refine zV.run kX4_findRounds 1 rfl ?_
    refine zV.ial kX4_findRounds rfl (h50) (m) (rfl) (hm) (by decide) ?_
    rw [ez m hm]
    refine zV.ict kX4_findRounds (cd := .ge) rfl (Int32.le_refl _) ?_
    exact zV.vret kX4_findRounds rfl rfl (⟨rfl, hfo, hR, by have := hok.1; omega, hok.2⟩)
  | succ f ih =>
    intro i w z4 hi hfo hR hok
    obtain ⟨⟨ab, be, h0⟩, -⟩ := id hR
    obtain ⟨⟨sz, h50, ez⟩, -, -⟩ := hfo.mc hc0
    refine zV.run kX4_findRounds 2 rfl ?_
    refine zV.gf kX4_findRounds rfl fX4_7 (h0) rfl ?_
    refine zV.run kX4_findRounds 1 rfl ?_
    refine zV.ial kX4_findRounds rfl (h50) (m) (rfl) (hm) (by decide) ?_
    rw [ez m hm]
    refine zV.icf kX4_findRounds (cd := .ge) rfl (nI_ge (by omega) (by omega)) ?_
    refine zV.run kX4_findRounds 7 rfl ?_
    refine zV.cv kX4_findRounds rfl lX4_134 (n_enters E (d := 0) hR (by omega) i 1 0) (by decide) rfl (h0) rfl rfl rfl (Nat.le_of_ble_eq_true rfl) ?_
    rintro _ w2 ⟨rfl, hR2, hf2⟩
    have pb : pbd (σ.1 m) (pst (fun _ => 0) 0 i) (pst (fun _ => 0) 0 1) (pst (fun _ => 0) 0 0) 0 := by
      refine ⟨pst_s, pst_s, fun q hq => ?_, fun e => ?_⟩
      · rw [show q = 0 by omega, pst_s, pst_s, pst_s]
        exact ⟨by omega, by decide, by decide, by decide, by decide⟩
      · rw [pst_s] at e
        exact absurd e (by decide)
    have P : 5 ^ (k - 1) ≤ 3125 := by
      have e : k = 1 ∨ k = 2 ∨ k = 3 ∨ k = 4 ∨ k = 5 ∨ k = 6 := by omega
      rcases e with rfl | rfl | rfl | rfl | rfl | rfl <;> decide
    refine n_nod E hm hc0 hk (nI i) (k - 1) 0 (by omega) _ _ _ _ _ (i * 3125) w2 hR2 (hfo.t hf2) pst_s pb hok (by omega) (fun w3 hR3 hf3 hok3 => ?_)
    have en : nod (σ.1 m) (σ.2 m) k (k - 1) 0 (pst (fun _ => 0) 0 i) (pst (fun _ => 0) 0 1) (pst (fun _ => 0) 0 0) (fnd (σ.1 m) (σ.2 m) k i) = fnd (σ.1 m) (σ.2 m) k (i + 1) := rfl
    rw [en] at hR3 hok3
    refine zV.run kX4_findRounds 1 rfl ?_
    refine zV.ift kX4_findRounds (cd := .lt) rfl (show zIf .lt (iI (((0 : Nat) : Int) - 1)) from by show iI (((0 : Nat) : Int) - 1) < 0; decide) ?_
    refine zV.run kX4_findRounds 2 rfl ?_
    rw [nI_1]
    exact ih (i + 1) w3 _ (by omega) hf3 hR3.z ⟨by have := hok3.1; omega, hok3.2⟩
theorem n_findRounds (E : zE) {σ : zSt} {m : Nat} (hm : m < 8) {w : zWd} (hs : zMs w σ) {k : Nat} (h1 : 1 ≤ k) (hk : k ≤ 6) : zOk E mX4_findRounds 4 [.ref 49, .int (nI m), .int (nI k)] w (fun r w' => r = none ∧ zFo2 w w' ∧ zFd2 w' (fnd (σ.1 m) (σ.2 m) k (σ.1 m)) ∧ rok (σ.1 m) (fnd (σ.1 m) (σ.2 m) k (σ.1 m)) 20000) := by
  obtain ⟨⟨ab, be, rm, en, ej, h0⟩, hc, ⟨f2, g2⟩, ⟨f3, g3⟩, ⟨f4, g4⟩, ⟨f5, g5⟩, ⟨f6, g6⟩, ⟨f7, g7⟩, ⟨f8, g8⟩, ⟨f9, g9⟩, ⟨f0, g0⟩⟩ := hs
  refine zOk.of (by decide +kernel) (Nat.le_of_ble_eq_true rfl) ?_
  have i1 : zIs (va_up w 49 (zMo ab be 0 en ej)) 49 (zMo ab be 0 en ej) := zIs.s h0.1
  have i2 : zIs (va_up (va_up w 49 (zMo ab be 0 en ej)) 49 (zMo ab be 0 0 ej)) 49 (zMo ab be 0 0 ej) := zIs.s i1.1
  have i3 : zIs (va_up (va_up (va_up w 49 (zMo ab be 0 en ej)) 49 (zMo ab be 0 0 ej)) 49 (zMo ab be 0 0 0)) 49 (zMo ab be 0 0 0) := zIs.s i2.1
  refine zV.run kX4_findRounds 2 rfl ?_
  refine zV.pfi kX4_findRounds rfl pX4_130 (h0) (Nat.le_of_ble_eq_true rfl) ?_
  refine zV.run kX4_findRounds 2 rfl ?_
  refine zV.pfz kX4_findRounds rfl pX4_120 (Or.inl rfl) (i1) (Nat.le_of_ble_eq_true rfl) ?_
  refine zV.run kX4_findRounds 2 rfl ?_
  refine zV.pfz kX4_findRounds rfl pX4_124 (Or.inl rfl) (i2) (Nat.le_of_ble_eq_true rfl) ?_
  refine zV.run kX4_findRounds 2 rfl ?_
  have kq : ∀ (c1 c2 c3 : va_E) (q : Nat), q ≠ 49 → va_up (va_up (va_up w 49 c1) 49 c2) 49 c3 q = w q := fun c1 c2 c3 q q1 => by rw [zup_ne q1, zup_ne q1, zup_ne q1]
  have hfo : ∀ c1 c2 c3 : va_E, zFo2 w (va_up (va_up (va_up w 49 c1) 49 c2) 49 c3) := fun c1 c2 c3 q hq => kq c1 c2 c3 q (by omega)
  refine n_findRounds_l E hm hc h1 hk (σ.1 m) 0 _ _ (by omega) (hfo _ _ _) ?_ ⟨Nat.le_refl _, fun p hp => by cases hp⟩
  refine ⟨⟨ab, be, i3⟩, ⟨f3, g3.k (kq _ _ _ _ (by decide)), fun i p hp => by cases hp⟩, ⟨f4, g4.k (kq _ _ _ _ (by decide)), fun i p hp => by cases hp⟩, ⟨f5, g5.k (kq _ _ _ _ (by decide)), fun q hq => absurd hq (by omega)⟩, ⟨f6, g6.k (kq _ _ _ _ (by decide)), fun q hq => absurd hq (by omega)⟩, ⟨f9, g9.k (kq _ _ _ _ (by decide)), fun q hq => absurd hq (by omega)⟩, ⟨f0, g0.k (kq _ _ _ _ (by decide)), fun q hq => absurd hq (by omega)⟩⟩
/-- the model is whole again -/
theorem zFd2.ms {w w' : zWd} {σ : zSt} {R : RS} (h : zFd2 w' R) (hf : zFo2 w w') (hs : zMs w σ) : zMs w' σ ∧ zFm w w' := by
  obtain ⟨-, hc, ⟨f2, g2⟩, -, -, -, -, ⟨f7, g7⟩, ⟨f8, g8⟩, -, -⟩ := hs
  obtain ⟨⟨ab, be, h0⟩, ⟨fa, g3, e3⟩, ⟨fb, g4, e4⟩, ⟨pS, g5, e5⟩, ⟨pT, g6, e6⟩, ⟨sS, g9, e9⟩, ⟨tS, g10, e10⟩⟩ := h
  exact ⟨⟨⟨_, _, _, _, _, h0⟩, hf.mc hc, ⟨f2, g2.k (hf _ (by omega))⟩, ⟨_, g3⟩, ⟨_, g4⟩, ⟨_, g5⟩, ⟨_, g6⟩, ⟨f7, g7.k (hf _ (by omega))⟩, ⟨f8, g8.k (hf _ (by omega))⟩, ⟨_, g9⟩, ⟨_, g10⟩⟩, fun a ha => hf a (by omega)⟩
end
section
/-! ===== the model: rounds, round, period, has, most ===== -/
def lsj (n : Nat) (ld : Nat → Nat) (p : Nat × Nat) : Nat → Nat → Bool → Bool
  | 0, _, l => l
  | r + 1, d, l => lsj n ld p r (d + 1) (l || decide (rdp (fol n ld p.2 p.1 d).toNat p.2 = p))
def isj (n : Nat) (ld : Nat → Nat) (k : Nat) (p : Nat × Nat) : Bool := !(lsj n ld p (k - 1) 1 false)
def jst (n : Nat) (ld : Nat → Nat) (k : Nat) (L : List (Nat × Nat)) : Nat := (L.filter (isj n ld k)).length
theorem n_just_1 (E : zE) {w0 : zWd} {σ : zSt} (hc : zMc w0 σ) {m : Nat} (hm : m < 8) {rm en ej : Int32} {fa fb : Nat → Int64} (g3 : zIs w0 53 (zLA 47000 fa)) (g4 : zIs w0 54 (zLA 47000 fb)) {k : Nat} (hk : k ≤ 6) {r : Nat} (hr : r < 30000) {p : Nat × Nat} (ea : fa r = lN p.1) (eb : fb r = lN p.2) (h1 : 0 < p.2) (h2 : p.2 ≤ 100000) (h3 : p.1 ≤ σ.1 m * p.2) {Post : Option Value → zWd → Prop} (c : Int32) (l0 : Bool)
    (kk : ∀ (w : zWd) (x : Nat) (z6 : Value), zAt w x p.2 rm en ej → (∀ a, a ≠ 49 → w a = w0 a) → zV E mX4_just 3 Post 97 [.ref 49, .int (nI m), .int (nI k), .int c, .int (nI r), .int (zq (l0 = true)), z6] [] w) :
    ∀ (f d : Nat) (l : Bool) (w : zWd), d + 1 + f = k → lsj (σ.1 m) (σ.2 m) p f (d + 1) l = l0 → zAt w (fol (σ.1 m) (σ.2 m) p.2 p.1 d).toNat p.2 rm en ej → (∀ a, a ≠ 49 → w a = w0 a) → zV E mX4_just 3 Post 38 [.ref 49, .int (nI m), .int (nI k), .int c, .int (nI r), .int (zq (l = true)), .int (nI (d + 1))] [] w := by
  obtain ⟨v1, v5, vl⟩ := hc.2.2 m hm
  intro f
  induction f with
  | zero =>
    intro d l w hd hl hA hw
    have e : d + 1 = k := by omega
    subst e
    have hl : l = l0 := hl
    subst hl
    refine zV.run kX4_just 2 rfl ?_
    refine zV.ict kX4_just (cd := .ge) rfl (Int32.le_refl _) ?_
    exact kk w _ _ hA hw
  | succ f ih =>
    intro d l w hd hl hA hw
    have hl : lsj (σ.1 m) (σ.2 m) p f (d + 1 + 1) (l || decide (rdp (fol (σ.1 m) (σ.2 m) p.2 p.1 (d + 1)).toNat p.2 = p)) = l0 := hl
    have ha : (p.1 : Int) ≤ σ.1 m * p.2 := by rw [← Int.natCast_mul]; omega
    have rg := fol_rg v1 vl (show (0 : Int) < p.2 by omega) (show (0 : Int) ≤ p.1 by omega) ha d
    have rg1 := fol_rg v1 vl (show (0 : Int) < p.2 by omega) (show (0 : Int) ≤ p.1 by omega) ha (d + 1)
    have ex : ((fol (σ.1 m) (σ.2 m) p.2 p.1 d).toNat : Int) = fol (σ.1 m) (σ.2 m) p.2 p.1 d := Int.toNat_of_nonneg rg.1
    have hA1 : zIs w 49 (zMo _ _ rm en ej) := hA
    refine zV.run kX4_just 2 rfl ?_
    refine zV.icf kX4_just (cd := .ge) rfl (nI_ge (by omega) (by omega)) ?_
    refine zV.run kX4_just 2 rfl ?_
    refine zV.cv kX4_just rfl lX4_90 (n_step E (hc.k (hw _ (by decide)) (hw _ (by decide))) hA hm h1 h2 (by rw [ex]; exact rg.2)) (by decide) rfl (hA1) rfl rfl rfl (Nat.le_of_ble_eq_true rfl) ?_
    rintro _ w9 ⟨rfl, e9⟩
    rw [ex] at e9
    have hw9 : ∀ a, a ≠ 49 → w9 a = w0 a := fun a q => by rw [e9, zup_ne q]; exact hw a q
    obtain ⟨y, ey⟩ : ∃ y, y = (fol (σ.1 m) (σ.2 m) p.2 p.1 (d + 1)).toNat := ⟨_, rfl⟩
    have hy : y ≤ σ.1 m * p.2 := by
      have := rg1.2
      rw [← Int.natCast_mul] at this
      omega
    have hA9 : zIs w9 49 (zMo (lN (rdp y p.2).1) (lN (rdp y p.2).2) rm en ej) := by rw [e9, ey]; exact zIs.s hA1.1
    rw [← ey] at hl
    have nxt : ∀ v : Bool, v = (l || decide (rdp y p.2 = p)) → zV E mX4_just 3 Post 89 [.ref 49, .int (nI m), .int (nI k), .int c, .int (nI r), .int (zq (l = true)), .int (nI (d + 1))] [.int (zq (v = true))] w9 := by
      intro v hv
      refine zV.run kX4_just 3 rfl ?_
      rw [nI_1]
      exact ih (d + 1) v w9 (by omega) (by rw [hv]; exact hl) (by rw [← ey]; exact hA9) hw9
    have b5 : σ.1 m * p.2 ≤ 5 * p.2 := Nat.mul_le_mul_right _ v5
    have b1 : (rdp y p.2).1 ≤ y := Nat.div_le_self _ _
    have b2 : (rdp y p.2).2 ≤ p.2 := Nat.div_le_self _ _
    refine zV.run kX4_just 1 rfl ?_
    refine zV.if2 kX4_just rfl (fun c1 => ?_) (fun c1 => ?_)
    · skip
      have c1 := Decidable.not_not.mp (mt zq_eq0.mpr c1)
      refine zV.run kX4_just 2 rfl ?_
      exact nxt true (by rw [c1]; rfl)
    · skip
      have c1 := zq_eq0.mp (Decidable.not_not.mp c1)
      have c1 : l = false := by simpa using c1
      refine zV.run kX4_just 1 rfl ?_
      refine zV.gf kX4_just rfl fX4_67 (hA9) rfl ?_
      refine zV.run kX4_just 1 rfl ?_
      refine zV.gf kX4_just rfl fX4_20 (hA9) rfl ?_
      refine zV.run kX4_just 1 rfl ?_
      refine zV.lal kX4_just rfl (g3.k (hw9 _ (by decide))) (r) (rfl) (by omega) (by decide) ?_
      rw [ea]
      refine zV.il2 kX4_just rfl rfl (fun c2 => ?_) (fun c2 => ?_)
      · skip
        have c2 : ¬ rdp y p.2 = p := fun q => c2 (by rw [q])
        refine zV.run kX4_just 1 rfl ?_
        exact nxt false (by rw [c1, decide_eq_false c2]; rfl)
      · skip
        have c2 := Decidable.not_not.mp c2
        rw [lN_lI, lN_lI] at c2
        have c2 := (lI_eq (by omega) (by omega) (by omega) (by omega)).mp c2
        refine zV.run kX4_just 1 rfl ?_
        refine zV.gf kX4_just rfl fX4_71 (hA9) rfl ?_
        refine zV.run kX4_just 1 rfl ?_
        refine zV.gf kX4_just rfl fX4_24 (hA9) rfl ?_
        refine zV.run kX4_just 1 rfl ?_
        refine zV.lal kX4_just rfl (g4.k (hw9 _ (by decide))) (r) (rfl) (by omega) (by decide) ?_
        rw [eb]
        refine zV.il2 kX4_just rfl rfl (fun c3 => ?_) (fun c3 => ?_)
        · skip
          have c3 : ¬ rdp y p.2 = p := fun q => c3 (by rw [q])
          refine zV.run kX4_just 1 rfl ?_
          exact nxt false (by rw [c1, decide_eq_false c3]; rfl)
        · skip
          have c3 := Decidable.not_not.mp c3
          rw [lN_lI, lN_lI] at c3
          have c3 := (lI_eq (by omega) (by omega) (by omega) (by omega)).mp c3
          refine zV.run kX4_just 2 rfl ?_
          exact nxt true (by rw [c1, decide_eq_true (Prod.ext (by omega) (by omega))]; rfl)
theorem n_just_l (E : zE) {w0 : zWd} {σ : zSt} (hc : zMc w0 σ) {m : Nat} (hm : m < 8) {en ej : Int32} {L : List (Nat × Nat)} {fa fb : Nat → Int64} (g3 : zIs w0 53 (zLA 47000 fa)) (g4 : zIs w0 54 (zLA 47000 fb)) (e3 : ∀ i p, L[i]? = some p → fa i = lN p.1) (e4 : ∀ i p, L[i]? = some p → fb i = lN p.2) {k : Nat} (hk1 : 1 ≤ k) (hk : k ≤ 6) (hL : L.length ≤ 20000) (hp : ∀ p ∈ L, 0 < p.2 ∧ p.2 ≤ 100000 ∧ p.1 ≤ σ.1 m * p.2) :
    ∀ (f r : Nat) (w : zWd) (ab be : Int64) (z5 z6 : Value), r + f = L.length → zIs w 49 (zMo ab be (nI L.length) en ej) → (∀ a, a ≠ 49 → w a = w0 a) → zV E mX4_just 3 (fun q w' => q = some (.int (nI (jst (σ.1 m) (σ.2 m) k L))) ∧ (∃ ab be, zIs w' 49 (zMo ab be (nI L.length) en ej)) ∧ ∀ a, a ≠ 49 → w' a = w0 a) 5 [.ref 49, .int (nI m), .int (nI k), .int (nI (jst (σ.1 m) (σ.2 m) k (L.take r))), .int (nI r), z5, z6] [] w := by
  obtain ⟨v1, v5, vl⟩ := hc.2.2 m hm
  intro f
  induction f with
  | zero =>
    intro r w ab be z5 z6 hr h0 hw
    have e : r = L.length := by omega
    subst e
    refine zV.run kX4_just 2 rfl ?_
    refine zV.gf kX4_just rfl fX4_130 (h0) rfl ?_
    refine zV.ict kX4_just (cd := .ge) rfl (Int32.le_refl _) ?_
    refine zV.run kX4_just 1 rfl ?_
    refine zV.iret kX4_just rfl rfl ⟨?_, ⟨ab, be, h0⟩, hw⟩
    rw [List.take_length]
  | succ f ih =>
    intro r w ab be z5 z6 hr h0 hw
    have hr2 : r < L.length := by omega
    obtain ⟨p, hpr⟩ : ∃ p, L[r]? = some p := ⟨_, List.getElem?_eq_getElem hr2⟩
    obtain ⟨p1, p2, p3⟩ := hp p (List.mem_of_getElem? hpr)
    have b5 : σ.1 m * p.2 ≤ 5 * p.2 := Nat.mul_le_mul_right _ v5
    have hjl : jst (σ.1 m) (σ.2 m) k (L.take r) ≤ r := by
      unfold jst
      refine Nat.le_trans (List.length_filter_le _ _) ?_
      rw [List.length_take]; omega
    have ejs : jst (σ.1 m) (σ.2 m) k (L.take (r + 1)) = jst (σ.1 m) (σ.2 m) k (L.take r) + (if isj (σ.1 m) (σ.2 m) k p = true then 1 else 0) := by
      unfold jst
      rw [List.take_add_one, hpr, List.filter_append, List.length_append]
      congr 1
      by_cases q : isj (σ.1 m) (σ.2 m) k p = true <;> simp [q]
    refine zV.run kX4_just 2 rfl ?_
    refine zV.gf kX4_just rfl fX4_130 (h0) rfl ?_
    refine zV.icf kX4_just (cd := .ge) rfl (nI_ge (by omega) (by omega)) ?_
    refine zV.run kX4_just 2 rfl ?_
    refine zV.gf kX4_just rfl fX4_20 (h0) rfl ?_
    refine zV.run kX4_just 1 rfl ?_
    refine zV.lal kX4_just rfl (g3.k (hw _ (by decide))) (r) (rfl) (by omega) (by decide) ?_
    refine zV.run kX4_just 1 rfl ?_
    refine zV.gf kX4_just rfl fX4_24 (h0) rfl ?_
    refine zV.run kX4_just 1 rfl ?_
    refine zV.lal kX4_just rfl (g4.k (hw _ (by decide))) (r) (rfl) (by omega) (by decide) ?_
    rw [e3 r p hpr, e4 r p hpr]
    refine zV.cv kX4_just rfl lX4_78 (n_at E h0 (a := p.1) (b := p.2) (by omega) (by omega) p1) (by decide) rfl (h0) rfl rfl rfl (Nat.le_of_ble_eq_true rfl) ?_
    rintro _ w9 ⟨rfl, e9⟩
    have hw9 : ∀ a, a ≠ 49 → w9 a = w0 a := fun a q => by rw [e9, zup_ne q]; exact hw a q
    refine zV.run kX4_just 4 rfl ?_
    refine n_just_1 E hc hm (rm := nI L.length) (en := en) (ej := ej) g3 g4 hk (r := r) (by omega) (e3 r p hpr) (e4 r p hpr) p1 p2 p3 _ (lsj (σ.1 m) (σ.2 m) p (k - 1) 1 false) (fun w2 x z6 hA2 hw2 => ?_) (k - 1) 0 false w9 (by omega) rfl (by rw [e9]; exact zIs.s h0.1) hw9
    have hA3 : zIs w2 49 (zMo _ _ (nI L.length) en ej) := hA2
    refine zV.run kX4_just 2 rfl ?_
    refine zV.if2 kX4_just rfl (fun c => ?_) (fun c => ?_)
    · skip
      have c := zq_eq0.mp c
      have ei : isj (σ.1 m) (σ.2 m) k p = true := by unfold isj; simpa using c
      rw [if_pos ei] at ejs
      refine zV.run kX4_just 5 rfl ?_
      rw [nI_1, nI_1, ← ejs]
      exact ih (r + 1) w2 _ _ _ _ (by omega) hA3 hw2
    · skip
      have c := Decidable.not_not.mp (mt zq_eq0.mpr c)
      have ei : ¬ isj (σ.1 m) (σ.2 m) k p = true := by unfold isj; simpa using c
      have ejs : jst (σ.1 m) (σ.2 m) k (L.take (r + 1)) = jst (σ.1 m) (σ.2 m) k (L.take r) := by rw [ejs, if_neg ei]; rfl
      refine zV.run kX4_just 6 rfl ?_
      rw [nI_1, Int32.add_zero, ← ejs]
      exact ih (r + 1) w2 _ _ _ _ (by omega) hA3 hw2
theorem zFd2.at {w w' : zWd} {R : RS} (h : zFd2 w R) {ab be : Int64} (h0 : zIs w' 49 (zMo ab be (nI R.1.length) (zq (R.2.1 = true)) (zq (R.2.2 = true)))) (hw : ∀ a, a ≠ 49 → w' a = w a) : zFd2 w' R := by
  obtain ⟨-, ⟨fa, g3, e3⟩, ⟨fb, g4, e4⟩, ⟨pS, g5, e5⟩, ⟨pT, g6, e6⟩, ⟨sS, g9, e9⟩, ⟨tS, g10, e10⟩⟩ := h
  exact ⟨⟨ab, be, h0⟩, ⟨fa, g3.k (hw _ (by decide)), e3⟩, ⟨fb, g4.k (hw _ (by decide)), e4⟩, ⟨pS, g5.k (hw _ (by decide)), e5⟩, ⟨pT, g6.k (hw _ (by decide)), e6⟩, ⟨sS, g9.k (hw _ (by decide)), e9⟩, ⟨tS, g10.k (hw _ (by decide)), e10⟩⟩
theorem n_just (E : zE) {w : zWd} {σ : zSt} (hc : zMc w σ) {m : Nat} (hm : m < 8) {R : RS} (h : zFd2 w R) (hok : rok (σ.1 m) R 20000) {k : Nat} (hk1 : 1 ≤ k) (hk : k ≤ 6) : zOk E mX4_just 3 [.ref 49, .int (nI m), .int (nI k)] w (fun q w' => q = some (.int (nI (jst (σ.1 m) (σ.2 m) k R.1))) ∧ zFd2 w' R ∧ zFo2 w w') := by
  obtain ⟨⟨ab, be, h0⟩, ⟨fa, g3, e3⟩, ⟨fb, g4, e4⟩, -⟩ := id h
  refine zOk.of (by decide +kernel) (Nat.le_of_ble_eq_true rfl) ?_
  refine zV.run kX4_just 4 rfl ?_
  refine zV.mono (fun q w' hq => ?_) (n_just_l E hc hm g3 g4 e3 e4 hk1 hk hok.1 hok.2 R.1.length 0 w ab be _ _ (by omega) h0 (fun _ _ => rfl))
  obtain ⟨q1, ⟨ab', be', q2⟩, q3⟩ := hq
  exact ⟨q1, h.at q2 q3, fun a ha => q3 a (by omega)⟩
theorem n_rounds (E : zE) {w : zWd} {σ : zSt} (h : zMs w σ) (m k : Int32) : zOk E mX4_rounds 5 [.ref 49, .int m, .int k] w (zPm w (.int (if okM m ∧ okR k then (if (fnd (σ.1 m.toInt.toNat) (σ.2 m.toInt.toNat) k.toInt.toNat (σ.1 m.toInt.toNat)).2.1 = true then -1 else nI (fnd (σ.1 m.toInt.toNat) (σ.2 m.toInt.toNat) k.toInt.toNat (σ.1 m.toInt.toNat)).1.length) else -2)) σ) := by
  obtain ⟨⟨ab, be, rm, en, ej, h0⟩, hc, hx⟩ := id h
  refine zOk.of (by decide +kernel) (Nat.le_of_ble_eq_true rfl) ?_
  refine zV.run kX4_rounds 1 rfl ?_
  refine zV.cs kX4_rounds rfl lX4_51 (n_isMap E w m) (by decide) rfl rfl (Nat.le_of_ble_eq_true rfl) ?_
  rintro _ _ ⟨rfl, rfl⟩
  refine zV.if2 kX4_rounds rfl (fun c => ?_) (fun c => ?_)
  · skip
    have c := zq_eq0.mp c
    rw [if_neg (fun q => c q.1)]
    refine zV.run kX4_rounds 1 rfl ?_
    exact zV.iret kX4_rounds rfl rfl (⟨rfl, h, fun _ _ => rfl⟩)
  · skip
    have c := Decidable.not_not.mp (mt zq_eq0.mpr c)
    refine zV.run kX4_rounds 3 rfl ?_
    refine zV.ldc2 kX4_rounds rfl qX4_145 ?_
    refine zV.cs kX4_rounds rfl lX4_47 (n_in E w k.toInt64 1 6) (by decide) rfl rfl (Nat.le_of_ble_eq_true rfl) ?_
    rintro _ _ ⟨rfl, rfl⟩
    rw [zq_c inK]
    refine zV.if2 kX4_rounds rfl (fun c2 => ?_) (fun c2 => ?_)
    · skip
      have c2 : okR k := Decidable.not_not.mp (mt zq_eq0.mpr c2)
      rw [if_pos ⟨c, c2⟩]
      obtain ⟨mm, emm⟩ : ∃ mm, mm = m.toInt.toNat := ⟨_, rfl⟩
      have em : m = nI mm := by rw [emm]; exact i32_nI c.1
      have hm : mm < 8 := by omega
      obtain ⟨kk, ekk⟩ : ∃ kk, kk = k.toInt.toNat := ⟨_, rfl⟩
      have ek : k = nI kk := by rw [ekk]; exact i32_nI (by omega)
      rw [← emm, ← ekk, em, ek]
      refine zV.run kX4_rounds 3 rfl ?_
      refine zV.cv kX4_rounds rfl lX4_147 (n_findRounds E hm h (k := kk) (by omega) (by omega)) (by decide) rfl (h0) rfl rfl rfl (Nat.le_of_ble_eq_true rfl) ?_
      rintro _ w2 ⟨rfl, hf2, hR, hok⟩
      obtain ⟨hs2, hfm⟩ := hR.ms hf2 h
      obtain ⟨⟨ab2, be2, h02⟩, -⟩ := id hR
      refine zV.run kX4_rounds 1 rfl ?_
      refine zV.gf kX4_rounds rfl fX4_120 (h02) rfl ?_
      refine zV.if2 kX4_rounds rfl (fun c3 => ?_) (fun c3 => ?_)
      · skip
        have c3 := zq_eq0.mp c3
        rw [if_neg c3]
        refine zV.run kX4_rounds 1 rfl ?_
        refine zV.gf kX4_rounds rfl fX4_130 (h02) rfl ?_
        exact zV.iret kX4_rounds rfl rfl (⟨rfl, hs2, hfm⟩)
      · skip
        have c3 := Decidable.not_not.mp (mt zq_eq0.mpr c3)
        rw [if_pos c3]
        refine zV.run kX4_rounds 2 rfl ?_
        exact zV.iret kX4_rounds rfl rfl (⟨rfl, hs2, hfm⟩)
    · skip
      have c2 : ¬ okR k := zq_eq0.mp (Decidable.not_not.mp c2)
      rw [if_neg (fun q => c2 q.2)]
      refine zV.run kX4_rounds 1 rfl ?_
      exact zV.iret kX4_rounds rfl rfl (⟨rfl, h, fun _ _ => rfl⟩)
theorem n_period (E : zE) {w : zWd} {σ : zSt} (h : zMs w σ) (m k : Int32) : zOk E mX4_period 5 [.ref 49, .int m, .int k] w (zPm w (.int (if okM m ∧ okR k then (if (fnd (σ.1 m.toInt.toNat) (σ.2 m.toInt.toNat) k.toInt.toNat (σ.1 m.toInt.toNat)).2.1 = true then -1 else nI (jst (σ.1 m.toInt.toNat) (σ.2 m.toInt.toNat) k.toInt.toNat (fnd (σ.1 m.toInt.toNat) (σ.2 m.toInt.toNat) k.toInt.toNat (σ.1 m.toInt.toNat)).1)) else -2)) σ) := by
  obtain ⟨⟨ab, be, rm, en, ej, h0⟩, hc, hx⟩ := id h
  refine zOk.of (by decide +kernel) (Nat.le_of_ble_eq_true rfl) ?_
  refine zV.run kX4_period 1 rfl ?_
  refine zV.cs kX4_period rfl lX4_51 (n_isMap E w m) (by decide) rfl rfl (Nat.le_of_ble_eq_true rfl) ?_
  rintro _ _ ⟨rfl, rfl⟩
  refine zV.if2 kX4_period rfl (fun c => ?_) (fun c => ?_)
  · skip
    have c := zq_eq0.mp c
    rw [if_neg (fun q => c q.1)]
    refine zV.run kX4_period 1 rfl ?_
    exact zV.iret kX4_period rfl rfl (⟨rfl, h, fun _ _ => rfl⟩)
  · skip
    have c := Decidable.not_not.mp (mt zq_eq0.mpr c)
    refine zV.run kX4_period 3 rfl ?_
    refine zV.ldc2 kX4_period rfl qX4_145 ?_
    refine zV.cs kX4_period rfl lX4_47 (n_in E w k.toInt64 1 6) (by decide) rfl rfl (Nat.le_of_ble_eq_true rfl) ?_
    rintro _ _ ⟨rfl, rfl⟩
    rw [zq_c inK]
    refine zV.if2 kX4_period rfl (fun c2 => ?_) (fun c2 => ?_)
    · skip
      have c2 : okR k := Decidable.not_not.mp (mt zq_eq0.mpr c2)
      rw [if_pos ⟨c, c2⟩]
      obtain ⟨mm, emm⟩ : ∃ mm, mm = m.toInt.toNat := ⟨_, rfl⟩
      have em : m = nI mm := by rw [emm]; exact i32_nI c.1
      have hm : mm < 8 := by omega
      obtain ⟨kk, ekk⟩ : ∃ kk, kk = k.toInt.toNat := ⟨_, rfl⟩
      have ek : k = nI kk := by rw [ekk]; exact i32_nI (by omega)
      rw [← emm, ← ekk, em, ek]
      refine zV.run kX4_period 3 rfl ?_
      refine zV.cv kX4_period rfl lX4_147 (n_findRounds E hm h (k := kk) (by omega) (by omega)) (by decide) rfl (h0) rfl rfl rfl (Nat.le_of_ble_eq_true rfl) ?_
      rintro _ w2 ⟨rfl, hf2, hR, hok⟩
      obtain ⟨hs2, hfm⟩ := hR.ms hf2 h
      obtain ⟨⟨ab2, be2, h02⟩, -⟩ := id hR
      refine zV.run kX4_period 1 rfl ?_
      refine zV.gf kX4_period rfl fX4_120 (h02) rfl ?_
      refine zV.if2 kX4_period rfl (fun c3 => ?_) (fun c3 => ?_)
      · skip
        have c3 := zq_eq0.mp c3
        rw [if_neg c3]
        refine zV.run kX4_period 3 rfl ?_
        refine zV.cv kX4_period rfl lX4_153 (n_just E hs2.2.1 hm hR hok (k := kk) (by omega) (by omega)) (by decide) rfl (h02) rfl rfl rfl (Nat.le_of_ble_eq_true rfl) ?_
        rintro _ w3 ⟨rfl, hR3, hf3⟩
        obtain ⟨hs3, hfm3⟩ := hR3.ms hf3 hs2
        exact zV.iret kX4_period rfl rfl (⟨rfl, hs3, fun a ha => (hfm3 a ha).trans (hfm a ha)⟩)
      · skip
        have c3 := Decidable.not_not.mp (mt zq_eq0.mpr c3)
        rw [if_pos c3]
        refine zV.run kX4_period 2 rfl ?_
        exact zV.iret kX4_period rfl rfl (⟨rfl, hs2, hfm⟩)
    · skip
      have c2 : ¬ okR k := zq_eq0.mp (Decidable.not_not.mp c2)
      rw [if_neg (fun q => c2 q.2)]
      refine zV.run kX4_period 1 rfl ?_
      exact zV.iret kX4_period rfl rfl (⟨rfl, h, fun _ _ => rfl⟩)
/-- has a point of the period k, as the model sees it -/
def hsp (n : Nat) (ld : Nat → Nat) (k : Nat) : Bool := (fnd n ld k n).2.2 || decide (0 < jst n ld k (fnd n ld k n).1)
theorem n_hasPeriod (E : zE) {w : zWd} {σ : zSt} (h : zMs w σ) {m k : Nat} (hm : m < 8) (hk1 : 1 ≤ k) (hk : k ≤ 6) : zOk E mX4_hasPeriod 5 [.ref 49, .int (nI m), .int (nI k)] w (zPm w (.int (zq (hsp (σ.1 m) (σ.2 m) k = true))) σ) := by
  obtain ⟨⟨ab, be, rm, en, ej, h0⟩, hc, hx⟩ := id h
  refine zOk.of (by decide +kernel) (Nat.le_of_ble_eq_true rfl) ?_
  refine zV.run kX4_hasPeriod 3 rfl ?_
  refine zV.cv kX4_hasPeriod rfl lX4_147 (n_findRounds E hm h hk1 hk) (by decide) rfl (h0) rfl rfl rfl (Nat.le_of_ble_eq_true rfl) ?_
  rintro _ w2 ⟨rfl, hf2, hR, hok⟩
  obtain ⟨hs2, hfm⟩ := hR.ms hf2 h
  obtain ⟨⟨ab2, be2, h02⟩, -⟩ := id hR
  refine zV.run kX4_hasPeriod 1 rfl ?_
  refine zV.gf kX4_hasPeriod rfl fX4_124 (h02) rfl ?_
  refine zV.if2 kX4_hasPeriod rfl (fun c => ?_) (fun c => ?_)
  · skip
    have c := Decidable.not_not.mp (mt zq_eq0.mpr c)
    have e : hsp (σ.1 m) (σ.2 m) k = true := by unfold hsp; rw [c]; rfl
    refine zV.run kX4_hasPeriod 2 rfl ?_
    exact zV.zret kX4_hasPeriod rfl rfl (Or.inr rfl) ⟨by rw [e]; rfl, hs2, hfm⟩
  · skip
    have c := zq_eq0.mp (Decidable.not_not.mp c)
    have c : (fnd (σ.1 m) (σ.2 m) k (σ.1 m)).2.2 = false := by simpa using c
    refine zV.run kX4_hasPeriod 3 rfl ?_
    refine zV.cv kX4_hasPeriod rfl lX4_153 (n_just E hs2.2.1 hm hR hok hk1 hk) (by decide) rfl (h02) rfl rfl rfl (Nat.le_of_ble_eq_true rfl) ?_
    rintro _ w3 ⟨rfl, hR3, hf3⟩
    obtain ⟨hs3, hfm3⟩ := hR3.ms hf3 hs2
    have hj : jst (σ.1 m) (σ.2 m) k (fnd (σ.1 m) (σ.2 m) k (σ.1 m)).1 ≤ 20000 := Nat.le_trans (List.length_filter_le _ _) hok.1
    refine zV.if2 kX4_hasPeriod rfl (fun c2 => ?_) (fun c2 => ?_)
    · skip
      have c2 := (zle _ _ (nI_iI _) (show (0 : Int32) = iI 0 from rfl) (by omega) (by omega) (by omega) (by omega)).mp c2
      have e : hsp (σ.1 m) (σ.2 m) k = false := by unfold hsp; rw [c, decide_eq_false (by omega)]; rfl
      refine zV.run kX4_hasPeriod 1 rfl ?_
      exact zV.zret kX4_hasPeriod rfl rfl (Or.inl rfl) ⟨by rw [e]; rfl, hs3, fun a ha => (hfm3 a ha).trans (hfm a ha)⟩
    · skip
      have c2 := mt (zle _ _ (nI_iI _) (show (0 : Int32) = iI 0 from rfl) (by omega) (by omega) (by omega) (by omega)).mpr c2
      have e : hsp (σ.1 m) (σ.2 m) k = true := by unfold hsp; rw [c, decide_eq_true (by omega)]; rfl
      refine zV.run kX4_hasPeriod 2 rfl ?_
      exact zV.zret kX4_hasPeriod rfl rfl (Or.inr rfl) ⟨by rw [e]; rfl, hs3, fun a ha => (hfm3 a ha).trans (hfm a ha)⟩
theorem n_has (E : zE) {w : zWd} {σ : zSt} (h : zMs w σ) (m k : Int32) : zOk E mX4_has 6 [.ref 49, .int m, .int k] w (zPm w (.int (if okM m ∧ okR k then zq (hsp (σ.1 m.toInt.toNat) (σ.2 m.toInt.toNat) k.toInt.toNat = true) else -2)) σ) := by
  obtain ⟨⟨ab, be, rm, en, ej, h0⟩, hc, hx⟩ := id h
  refine zOk.of (by decide +kernel) (Nat.le_of_ble_eq_true rfl) ?_
  refine zV.run kX4_has 1 rfl ?_
  refine zV.cs kX4_has rfl lX4_51 (n_isMap E w m) (by decide) rfl rfl (Nat.le_of_ble_eq_true rfl) ?_
  rintro _ _ ⟨rfl, rfl⟩
  refine zV.if2 kX4_has rfl (fun c => ?_) (fun c => ?_)
  · skip
    have c := zq_eq0.mp c
    rw [if_neg (fun q => c q.1)]
    refine zV.run kX4_has 2 rfl ?_
    exact zV.iret kX4_has rfl rfl (⟨rfl, h, fun _ _ => rfl⟩)
  · skip
    have c := Decidable.not_not.mp (mt zq_eq0.mpr c)
    refine zV.run kX4_has 3 rfl ?_
    refine zV.ldc2 kX4_has rfl qX4_145 ?_
    refine zV.cs kX4_has rfl lX4_47 (n_in E w k.toInt64 1 6) (by decide) rfl rfl (Nat.le_of_ble_eq_true rfl) ?_
    rintro _ _ ⟨rfl, rfl⟩
    rw [zq_c inK]
    refine zV.if2 kX4_has rfl (fun c2 => ?_) (fun c2 => ?_)
    · skip
      have c2 : okR k := Decidable.not_not.mp (mt zq_eq0.mpr c2)
      rw [if_pos ⟨c, c2⟩]
      obtain ⟨mm, emm⟩ : ∃ mm, mm = m.toInt.toNat := ⟨_, rfl⟩
      have em : m = nI mm := by rw [emm]; exact i32_nI c.1
      have hm : mm < 8 := by omega
      obtain ⟨kk, ekk⟩ : ∃ kk, kk = k.toInt.toNat := ⟨_, rfl⟩
      have ek : k = nI kk := by rw [ekk]; exact i32_nI (by omega)
      rw [← emm, ← ekk, em, ek]
      refine zV.run kX4_has 3 rfl ?_
      refine zV.cv kX4_has rfl lX4_156 (n_hasPeriod E h hm (k := kk) (by omega) (by omega)) (by decide) rfl (h0) rfl rfl rfl (Nat.le_of_ble_eq_true rfl) ?_
      rintro _ w2 ⟨rfl, hs2, hfm⟩
      refine zV.if2 kX4_has rfl (fun c3 => ?_) (fun c3 => ?_)
      · skip
        have c3 := zq_eq0.mp c3
        refine zV.run kX4_has 1 rfl ?_
        exact zV.iret kX4_has rfl rfl (⟨by rw [zq_f c3], hs2, hfm⟩)
      · skip
        have c3 := Decidable.not_not.mp (mt zq_eq0.mpr c3)
        refine zV.run kX4_has 2 rfl ?_
        exact zV.iret kX4_has rfl rfl (⟨by rw [zq_t c3], hs2, hfm⟩)
    · skip
      have c2 : ¬ okR k := zq_eq0.mp (Decidable.not_not.mp c2)
      rw [if_neg (fun q => c2 q.2)]
      refine zV.run kX4_has 2 rfl ?_
      exact zV.iret kX4_has rfl rfl (⟨rfl, h, fun _ _ => rfl⟩)
/-- what the model's round answers -/
def rnm (R : RS) (i : Nat) (what : Int32) : Int64 := if R.2.1 = true then -1 else match R.1[i]? with
  | none => -1
  | some p => lN (if what = 0 then p.1 else p.2)
theorem n_round (E : zE) {w : zWd} {σ : zSt} (h : zMs w σ) (m k i what : Int32) : zOk E mX4_round 5 [.ref 49, .int m, .int k, .int i, .int what] w (zPm w (.long (if okM m ∧ okR k ∧ 0 ≤ i.toInt ∧ (what = 0 ∨ what = 1) then rnm (fnd (σ.1 m.toInt.toNat) (σ.2 m.toInt.toNat) k.toInt.toNat (σ.1 m.toInt.toNat)) i.toInt.toNat what else -2)) σ) := by
  obtain ⟨⟨ab, be, rm, en, ej, h0⟩, hc, hx⟩ := id h
  refine zOk.of (by decide +kernel) (Nat.le_of_ble_eq_true rfl) ?_
  refine zV.run kX4_round 1 rfl ?_
  refine zV.cs kX4_round rfl lX4_51 (n_isMap E w m) (by decide) rfl rfl (Nat.le_of_ble_eq_true rfl) ?_
  rintro _ _ ⟨rfl, rfl⟩
  refine zV.if2 kX4_round rfl (fun c => ?_) (fun c => ?_)
  · skip
    have c := zq_eq0.mp c
    rw [if_neg (fun q => c q.1)]
    refine zV.ldc2 kX4_round rfl qX4_88 ?_
    exact zV.lret kX4_round rfl rfl (⟨rfl, h, fun _ _ => rfl⟩)
  · skip
    have c := Decidable.not_not.mp (mt zq_eq0.mpr c)
    refine zV.run kX4_round 3 rfl ?_
    refine zV.ldc2 kX4_round rfl qX4_145 ?_
    refine zV.cs kX4_round rfl lX4_47 (n_in E w k.toInt64 1 6) (by decide) rfl rfl (Nat.le_of_ble_eq_true rfl) ?_
    rintro _ _ ⟨rfl, rfl⟩
    rw [zq_c inK]
    refine zV.if2 kX4_round rfl (fun c2 => ?_) (fun c2 => ?_)
    · skip
      have c2 : ¬ okR k := zq_eq0.mp c2
      rw [if_neg (fun q => c2 q.2.1)]
      refine zV.ldc2 kX4_round rfl qX4_88 ?_
      exact zV.lret kX4_round rfl rfl (⟨rfl, h, fun _ _ => rfl⟩)
    · skip
      have c2 : okR k := Decidable.not_not.mp (mt zq_eq0.mpr c2)
      refine zV.run kX4_round 1 rfl ?_
      refine zV.if2 kX4_round rfl (fun c3 => ?_) (fun c3 => ?_)
      · skip
        have c3 : ¬ 0 ≤ i.toInt := by have := i32_lt.mp c3; have e0 : (0 : Int32).toInt = 0 := rfl; omega
        rw [if_neg (fun q => c3 q.2.2.1)]
        refine zV.ldc2 kX4_round rfl qX4_88 ?_
        exact zV.lret kX4_round rfl rfl (⟨rfl, h, fun _ _ => rfl⟩)
      · skip
        have c3 : 0 ≤ i.toInt := by have := mt i32_lt.mpr c3; have e0 : (0 : Int32).toInt = 0 := rfl; omega
        refine zV.run kX4_round 4 rfl ?_
        refine zV.cs kX4_round rfl lX4_47 (n_in E w what.toInt64 0 1) (by decide) rfl rfl (Nat.le_of_ble_eq_true rfl) ?_
        rintro _ _ ⟨rfl, rfl⟩
        rw [zq_c in01]
        refine zV.if2 kX4_round rfl (fun c4 => ?_) (fun c4 => ?_)
        · skip
          have c4 := Decidable.not_not.mp (mt zq_eq0.mpr c4)
          rw [if_pos ⟨c, c2, c3, c4⟩]
          obtain ⟨mm, emm⟩ : ∃ mm, mm = m.toInt.toNat := ⟨_, rfl⟩
          have em : m = nI mm := by rw [emm]; exact i32_nI c.1
          have hm : mm < 8 := by omega
          obtain ⟨kk, ekk⟩ : ∃ kk, kk = k.toInt.toNat := ⟨_, rfl⟩
          have ek : k = nI kk := by rw [ekk]; exact i32_nI (by omega)
          obtain ⟨ii, eii⟩ : ∃ kk, kk = i.toInt.toNat := ⟨_, rfl⟩
          have ei : i = nI ii := by rw [eii]; exact i32_nI c3
          have hi : ii < 2147483648 := by have := iI_rg i; omega
          rw [← emm, ← ekk, ← eii, em, ek, ei]
          refine zV.run kX4_round 3 rfl ?_
          refine zV.cv kX4_round rfl lX4_147 (n_findRounds E hm h (k := kk) (by omega) (by omega)) (by decide) rfl (h0) rfl rfl rfl (Nat.le_of_ble_eq_true rfl) ?_
          rintro _ w2 ⟨rfl, hf2, hR, hok⟩
          obtain ⟨R, eR⟩ : ∃ R, R = fnd (σ.1 mm) (σ.2 mm) kk (σ.1 mm) := ⟨_, rfl⟩
          rw [← eR] at hR hok ⊢
          obtain ⟨hs2, hfm⟩ := hR.ms hf2 h
          obtain ⟨⟨ab2, be2, h02⟩, ⟨fa, g3, e3⟩, ⟨fb, g4, e4⟩, -⟩ := id hR
          have hl := hok.1
          refine zV.run kX4_round 1 rfl ?_
          refine zV.gf kX4_round rfl fX4_120 (h02) rfl ?_
          refine zV.if2 kX4_round rfl (fun c5 => ?_) (fun c5 => ?_)
          · skip
            have c5 := Decidable.not_not.mp (mt zq_eq0.mpr c5)
            have e : rnm R ii what = -1 := if_pos c5
            rw [e]
            refine zV.ldc2 kX4_round rfl qX4_151 ?_
            refine zV.run kX4_round 1 rfl ?_
            exact zV.lret kX4_round rfl rfl (⟨rfl, hs2, hfm⟩)
          · skip
            have c5 := zq_eq0.mp (Decidable.not_not.mp c5)
            refine zV.run kX4_round 2 rfl ?_
            refine zV.gf kX4_round rfl fX4_130 (h02) rfl ?_
            refine zV.ic2 kX4_round rfl (fun c6 => ?_) (fun c6 => ?_)
            · skip
              have c6 := (zlt _ _ (nI_iI ii) (nI_iI R.1.length) (by omega) (by omega) (by omega) (by omega)).mp c6
              obtain ⟨p, hp⟩ : ∃ p, R.1[ii]? = some p := ⟨_, List.getElem?_eq_getElem (by omega)⟩
              have e : rnm R ii what = lN (if what = 0 then p.1 else p.2) := by unfold rnm; rw [if_neg c5, hp]
              rw [e]
              refine zV.run kX4_round 1 rfl ?_
              refine zV.if2 kX4_round rfl (fun c7 => ?_) (fun c7 => ?_)
              · skip
                have c7 : ¬ what = 0 := c7
                rw [if_neg c7]
                refine zV.run kX4_round 1 rfl ?_
                refine zV.gf kX4_round rfl fX4_24 (h02) rfl ?_
                refine zV.run kX4_round 1 rfl ?_
                refine zV.lal kX4_round rfl (g4) (ii) (rfl) (by omega) (by decide) ?_
                rw [e4 ii p hp]
                exact zV.lret kX4_round rfl rfl (⟨rfl, hs2, hfm⟩)
              · skip
                have c7 : what = 0 := Decidable.not_not.mp c7
                rw [if_pos c7]
                refine zV.run kX4_round 1 rfl ?_
                refine zV.gf kX4_round rfl fX4_20 (h02) rfl ?_
                refine zV.run kX4_round 1 rfl ?_
                refine zV.lal kX4_round rfl (g3) (ii) (rfl) (by omega) (by decide) ?_
                rw [e3 ii p hp]
                refine zV.run kX4_round 1 rfl ?_
                exact zV.lret kX4_round rfl rfl (⟨rfl, hs2, hfm⟩)
            · skip
              have c6 := mt (zlt _ _ (nI_iI ii) (nI_iI R.1.length) (by omega) (by omega) (by omega) (by omega)).mpr c6
              have e : rnm R ii what = -1 := by unfold rnm; rw [if_neg c5, List.getElem?_eq_none (by omega)]
              rw [e]
              refine zV.ldc2 kX4_round rfl qX4_151 ?_
              refine zV.run kX4_round 1 rfl ?_
              exact zV.lret kX4_round rfl rfl (⟨rfl, hs2, hfm⟩)
        · skip
          have c4 := zq_eq0.mp (Decidable.not_not.mp c4)
          rw [if_neg (fun q => c4 q.2.2.2)]
          refine zV.ldc2 kX4_round rfl qX4_88 ?_
          exact zV.lret kX4_round rfl rfl (⟨rfl, h, fun _ _ => rfl⟩)
def mom (n : Nat) (ld : Nat → Nat) : Nat → Nat → Nat → Nat
  | 0, _, f => f
  | r + 1, k, f => mom n ld r (k + 1) (if cah k f = true ∧ hsp n ld k = true then k else f)
theorem n_most_l (E : zE) {w0 : zWd} {σ : zSt} {m : Nat} (hm : m < 8) : ∀ (r k f : Nat) (w : zWd), k + r = 7 → 2 ≤ k → 0 < f → f < 7 → zMs w σ → zFm w0 w → zV E mX4_most 6 (zPm w0 (.int (nI (mom (σ.1 m) (σ.2 m) r k f))) σ) 14 [.ref 49, .int (nI m), .int (nI f), .int (nI k)] [] w := by
  intro r
  induction r with
  | zero =>
    intro k f w hk hk2 h0 h7 hs hf
    have e : k = 7 := by omega
    subst e
    refine zV.run kX4_most 2 rfl ?_
    refine zV.ict kX4_most (cd := .gt) rfl (show (6 : Int32) < nI 7 by decide) ?_
    refine zV.run kX4_most 1 rfl ?_
    exact zV.iret kX4_most rfl rfl (⟨rfl, hs, hf⟩)
  | succ r ih =>
    intro k f w hk hk2 h0 h7 hs hf
    have e : mom (σ.1 m) (σ.2 m) (r + 1) k f = mom (σ.1 m) (σ.2 m) r (k + 1) (if cah k f = true ∧ hsp (σ.1 m) (σ.2 m) k = true then k else f) := rfl
    rw [e]
    obtain ⟨⟨ab, be, rm, en, ej, h00⟩, hc, hx⟩ := id hs
    refine zV.run kX4_most 2 rfl ?_
    refine zV.icf kX4_most (cd := .gt) rfl (fun q => absurd ((nI_ltI (a := 6) (b := k) (by omega) (by omega)).mp q) (by omega)) ?_
    refine zV.run kX4_most 2 rfl ?_
    refine zV.cs kX4_most rfl lX4_161 (n_isAhead E w (p := k) (q := f) (by omega) (by omega) (by omega) h0) (by decide) rfl rfl (Nat.le_of_ble_eq_true rfl) ?_
    rintro _ _ ⟨rfl, rfl⟩
    refine zV.if2 kX4_most rfl (fun c => ?_) (fun c => ?_)
    · skip
      have c := zq_eq0.mp c
      rw [if_neg (fun q => c q.1)]
      refine zV.run kX4_most 4 rfl ?_
      rw [nI_1]
      exact ih (k + 1) f w (by omega) (by omega) h0 h7 hs hf
    · skip
      have c := Decidable.not_not.mp (mt zq_eq0.mpr c)
      refine zV.run kX4_most 3 rfl ?_
      refine zV.cv kX4_most rfl lX4_156 (n_hasPeriod E hs hm (k := k) (by omega) (by omega)) (by decide) rfl (h00) rfl rfl rfl (Nat.le_of_ble_eq_true rfl) ?_
      rintro _ w2 ⟨rfl, hs2, hfm⟩
      refine zV.if2 kX4_most rfl (fun c2 => ?_) (fun c2 => ?_)
      · skip
        have c2 := zq_eq0.mp c2
        rw [if_neg (fun q => c2 q.2)]
        refine zV.run kX4_most 4 rfl ?_
        rw [nI_1]
        exact ih (k + 1) f w2 (by omega) (by omega) h0 h7 hs2 (fun a ha => (hfm a ha).trans (hf a ha))
      · skip
        have c2 := Decidable.not_not.mp (mt zq_eq0.mpr c2)
        rw [if_pos ⟨c, c2⟩]
        refine zV.run kX4_most 5 rfl ?_
        rw [nI_1]
        exact ih (k + 1) k w2 (by omega) (by omega) (by omega) (by omega) hs2 (fun a ha => (hfm a ha).trans (hf a ha))
theorem n_most (E : zE) {w : zWd} {σ : zSt} (h : zMs w σ) (m : Int32) : zOk E mX4_most 6 [.ref 49, .int m] w (zPm w (.int (if okM m then nI (mom (σ.1 m.toInt.toNat) (σ.2 m.toInt.toNat) 5 2 1) else -2)) σ) := by
  refine zOk.of (by decide +kernel) (Nat.le_of_ble_eq_true rfl) ?_
  refine zV.run kX4_most 1 rfl ?_
  refine zV.cs kX4_most rfl lX4_51 (n_isMap E w m) (by decide) rfl rfl (Nat.le_of_ble_eq_true rfl) ?_
  rintro _ _ ⟨rfl, rfl⟩
  refine zV.if2 kX4_most rfl (fun c => ?_) (fun c => ?_)
  · skip
    have c := Decidable.not_not.mp (mt zq_eq0.mpr c)
    obtain ⟨mm, emm⟩ : ∃ mm, mm = m.toInt.toNat := ⟨_, rfl⟩
    have em : m = nI mm := by rw [emm]; exact i32_nI c.1
    have hm : mm < 8 := by omega
    rw [if_pos c, ← emm, em]
    refine zV.run kX4_most 4 rfl ?_
    exact n_most_l E hm 5 2 1 w (by omega) (by omega) (by omega) (by omega) h (fun _ _ => rfl)
  · skip
    have c := zq_eq0.mp (Decidable.not_not.mp c)
    rw [if_neg c]
    refine zV.run kX4_most 1 rfl ?_
    exact zV.iret kX4_most rfl rfl (⟨rfl, h, fun _ _ => rfl⟩)
end
section
/-! ===== mathematics of rounds: ways ===== -/
def wS (ld : Nat → Nat) (sp : Nat → Nat) : Nat → Int
  | 0 => 1
  | q + 1 => nS ld (sp q) (wS ld sp q)
def wT (ld : Nat → Nat) (sp : Nat → Nat) : Nat → Int
  | 0 => 0
  | q + 1 => nT ld (sp q) (wT ld sp q)
theorem wS_c {ld : Nat → Nat} {sp sp' : Nat → Nat} : ∀ (m : Nat), (∀ q, q < m → sp q = sp' q) → wS ld sp m = wS ld sp' m
  | 0, _ => rfl
  | m + 1, h => by
    show nS ld (sp m) (wS ld sp m) = nS ld (sp' m) (wS ld sp' m)
    rw [wS_c m (fun q hq => h q (by omega)), h m (by omega)]
theorem wT_c {ld : Nat → Nat} {sp sp' : Nat → Nat} : ∀ (m : Nat), (∀ q, q < m → sp q = sp' q) → wT ld sp m = wT ld sp' m
  | 0, _ => rfl
  | m + 1, h => by
    show nT ld (sp m) (wT ld sp m) = nT ld (sp' m) (wT ld sp' m)
    rw [wT_c m (fun q hq => h q (by omega)), h m (by omega)]
def lvs (n : Nat) (ld : Nat → Nat) : Nat → Nat → (Nat → Nat) → List (Nat → Nat)
  | 0, _, sp => [sp]
  | r + 1, d, sp =>
    if wS ld sp (d + 1) = 0 then lvs n ld r (d + 1) (pst sp (d + 1) (min (wT ld sp (d + 1)).toNat (n - 1)))
    else (List.range n).flatMap (fun c => if cov ld (sp d) (jth n (wS ld sp (d + 1)) c) = true then lvs n ld r (d + 1) (pst sp (d + 1) (jth n (wS ld sp (d + 1)) c)) else [])
def cmS (ld : Nat → Nat) (k : Nat) (R : RS) (sp : Nat → Nat) : RS := cmb k sp (wS ld sp) (wT ld sp) (wS ld sp k) (wT ld sp k) R
theorem ionf_c {sp : Nat → Nat} {ps pt ps' pt' : Nat → Int} {a b : Int} : ∀ (r d : Nat), (∀ q, q < d + r → ps q = ps' q) → (∀ q, q < d + r → pt q = pt' q) → ionf sp ps pt a b r d = ionf sp ps' pt' a b r d
  | 0, _, _, _ => rfl
  | r + 1, d, h1, h2 => by
    unfold ionf
    rw [h1 d (by omega), h2 d (by omega), ionf_c r (d + 1) (fun q hq => h1 q (by omega)) (fun q hq => h2 q (by omega))]
theorem lesf_c {ps pt ps' pt' : Nat → Int} {k : Nat} : ∀ (r d : Nat) (l : Bool), (∀ q, q < d + r → ps q = ps' q) → (∀ q, q < d + r → pt q = pt' q) → lesf ps pt k r d l = lesf ps' pt' k r d l
  | 0, _, _, _, _ => rfl
  | r + 1, d, l, h1, h2 => by
    unfold lesf
    rw [h1 d (by omega), h2 d (by omega), lesf_c r (d + 1) _ (fun q hq => h1 q (by omega)) (fun q hq => h2 q (by omega))]
theorem cmb_c {k : Nat} (hk : 1 ≤ k) {sp : Nat → Nat} {ps pt ps' pt' : Nat → Int} {s t : Int} {R : RS} (h1 : ∀ q, q < k → ps q = ps' q) (h2 : ∀ q, q < k → pt q = pt' q) : cmb k sp ps pt s t R = cmb k sp ps' pt' s t R := by
  unfold cmb
  rw [lesf_c (ps' := ps') (pt' := pt') (k - 1) 1 false (fun q hq => h1 q (by omega)) (fun q hq => h2 q (by omega)), ionf_c (ps' := ps') (pt' := pt') k 0 (fun q hq => h1 q (by omega)) (fun q hq => h2 q (by omega))]
theorem chl_fl {F : Nat → RS → RS} {g : Nat → Bool} {l : Nat → List (Nat → Nat)} {h : RS → (Nat → Nat) → RS} (hF : ∀ c R, g c = true → F c R = (l c).foldl h R) : ∀ (f c : Nat) (R : RS), chl F g f c R = ((List.range' c f).flatMap (fun c => if g c = true then l c else [])).foldl h R
  | 0, c, R => rfl
  | f + 1, c, R => by
    show chl F g f (c + 1) (if g c = true then F c R else R) = _
    rw [chl_fl hF f (c + 1), List.range'_succ, List.flatMap_cons, List.foldl_append]
    congr 1
    by_cases q : g c = true
    · rw [if_pos q, if_pos q, hF c R q]
    · rw [if_neg q, if_neg q]; rfl
theorem nod_lvs (n : Nat) (ld : Nat → Nat) {k : Nat} : ∀ (r d : Nat) (sp : Nat → Nat) (ps pt : Nat → Int) (R : RS), d + r + 1 = k → (∀ q, q ≤ d → ps q = wS ld sp q) → (∀ q, q ≤ d → pt q = wT ld sp q) → nod n ld k r d sp ps pt R = (lvs n ld r d sp).foldl (cmS ld k) R
  | 0, d, sp, ps, pt, R, hk, h1, h2 => by
    show cmb k sp (pst ps k (nS ld (sp d) (ps d))) (pst pt k (nT ld (sp d) (pt d))) (nS ld (sp d) (ps d)) (nT ld (sp d) (pt d)) R = cmS ld k R sp
    unfold cmS
    have e1 : nS ld (sp d) (ps d) = wS ld sp k := by rw [← hk, h1 d (Nat.le_refl _)]; rfl
    have e2 : nT ld (sp d) (pt d) = wT ld sp k := by rw [← hk, h2 d (Nat.le_refl _)]; rfl
    rw [e1, e2]
    exact cmb_c (by omega) (fun q hq => by rw [pst_n (by omega)]; exact h1 q (by omega)) (fun q hq => by rw [pst_n (by omega)]; exact h2 q (by omega))
  | r + 1, d, sp, ps, pt, R, hk, h1, h2 => by
    have e1 : nS ld (sp d) (ps d) = wS ld sp (d + 1) := by rw [h1 d (Nat.le_refl _)]; rfl
    have e2 : nT ld (sp d) (pt d) = wT ld sp (d + 1) := by rw [h2 d (Nat.le_refl _)]; rfl
    have c1 : ∀ j q, q ≤ d + 1 → pst ps (d + 1) (wS ld sp (d + 1)) q = wS ld (pst sp (d + 1) j) q := by
      intro j q hq
      rw [wS_c (sp := pst sp (d + 1) j) (sp' := sp) q (fun x hx => pst_n (by omega))]
      by_cases e : q = d + 1
      · rw [e, pst_s]
      · rw [pst_n e, h1 q (by omega)]
    have c2 : ∀ j q, q ≤ d + 1 → pst pt (d + 1) (wT ld sp (d + 1)) q = wT ld (pst sp (d + 1) j) q := by
      intro j q hq
      rw [wT_c (sp := pst sp (d + 1) j) (sp' := sp) q (fun x hx => pst_n (by omega))]
      by_cases e : q = d + 1
      · rw [e, pst_s]
      · rw [pst_n e, h2 q (by omega)]
    unfold nod lvs
    rw [e1, e2]
    by_cases e : wS ld sp (d + 1) = 0
    · rw [if_pos e, if_pos e]
      refine nod_lvs n ld r (d + 1) _ _ _ R (by omega) (fun q hq => ?_) (c2 _)
      rw [← e]
      exact c1 _ q hq
    · rw [if_neg e, if_neg e, List.range_eq_range']
      exact chl_fl (g := fun c => cov ld (sp d) (jth n (wS ld sp (d + 1)) c)) (l := fun c => lvs n ld r (d + 1) (pst sp (d + 1) (jth n (wS ld sp (d + 1)) c))) (fun c R _ => nod_lvs n ld r (d + 1) _ _ _ R (by omega) (c1 _) (c2 _)) n 0 R
/-- all ways from the span i -/
def wys (n : Nat) (ld : Nat → Nat) (k i : Nat) : List (Nat → Nat) := lvs n ld (k - 1) 0 (pst (fun _ => 0) 0 i)
def wal (n : Nat) (ld : Nat → Nat) (k m : Nat) : List (Nat → Nat) := (List.range m).flatMap (wys n ld k)
theorem fnd_wal (n : Nat) (ld : Nat → Nat) {k : Nat} (hk : 1 ≤ k) : ∀ m, fnd n ld k m = (wal n ld k m).foldl (cmS ld k) ([], false, false)
  | 0 => rfl
  | m + 1 => by
    unfold fnd wal
    rw [List.range_succ, List.flatMap_append, List.foldl_append, fnd_wal n ld hk m, nod_lvs n ld (k - 1) 0 _ _ _ _ (by omega) (fun q hq => by rw [show q = 0 by omega, pst_s]; rfl) (fun q hq => by rw [show q = 0 by omega, pst_s]; rfl)]
    rw [List.flatMap_cons, List.flatMap_nil, List.append_nil]
    rfl
/-- a way's rules, up to the level d -/
def pok (n : Nat) (ld : Nat → Nat) (sp : Nat → Nat) (d : Nat) : Prop :=
  (∀ q, q ≤ d → sp q < n) ∧ (∀ q, d < q → sp q = 0) ∧ (∀ q, q < d → wS ld sp (q + 1) ≠ 0 → cov ld (sp q) (sp (q + 1)) = true) ∧ (∀ q, q < d → wS ld sp (q + 1) = 0 → sp (q + 1) = min (wT ld sp (q + 1)).toNat (n - 1))
theorem pok.s {n : Nat} {ld : Nat → Nat} {sp : Nat → Nat} {d j : Nat} (h : pok n ld sp d) (hj : j < n) (h1 : wS ld sp (d + 1) ≠ 0 → cov ld (sp d) j = true) (h2 : wS ld sp (d + 1) = 0 → j = min (wT ld sp (d + 1)).toNat (n - 1)) : pok n ld (pst sp (d + 1) j) (d + 1) := by
  obtain ⟨a1, a2, a3, a4⟩ := h
  have eS : ∀ q, q ≤ d + 1 → wS ld (pst sp (d + 1) j) q = wS ld sp q := fun q hq => wS_c q (fun x hx => pst_n (by omega))
  have eT : ∀ q, q ≤ d + 1 → wT ld (pst sp (d + 1) j) q = wT ld sp q := fun q hq => wT_c q (fun x hx => pst_n (by omega))
  refine ⟨fun q hq => ?_, fun q hq => by rw [pst_n (by omega)]; exact a2 q (by omega), fun q hq => ?_, fun q hq => ?_⟩
  · by_cases e : q = d + 1
    · rw [e, pst_s]; exact hj
    · rw [pst_n e]; exact a1 q (by omega)
  · rw [eS (q + 1) (by omega), pst_n (a := d + 1) (q := q) (by omega)]
    by_cases e : q = d
    · rw [e, pst_s]; exact h1
    · rw [pst_n (by omega)]; exact a3 q (by omega)
  · rw [eS (q + 1) (by omega), eT (q + 1) (by omega)]
    by_cases e : q = d
    · rw [e, pst_s]; exact h2
    · rw [pst_n (by omega)]; exact a4 q (by omega)
theorem lvs_ok {n : Nat} {ld : Nat → Nat} (hn : 1 ≤ n) : ∀ (r d : Nat) (sp : Nat → Nat), pok n ld sp d → ∀ g ∈ lvs n ld r d sp, pok n ld g (d + r) ∧ ∀ q, q ≤ d → g q = sp q
  | 0, d, sp, h, g, hg => by
    have e : g = sp := List.mem_singleton.mp hg
    rw [e]
    exact ⟨h, fun _ _ => rfl⟩
  | r + 1, d, sp, h, g, hg => by
    unfold lvs at hg
    by_cases e : wS ld sp (d + 1) = 0
    · rw [if_pos e] at hg
      obtain ⟨a, b⟩ := lvs_ok hn r (d + 1) _ (h.s (by omega) (fun q => absurd e q) (fun _ => rfl)) g hg
      refine ⟨by rw [show d + (r + 1) = d + 1 + r by omega]; exact a, fun q hq => ?_⟩
      rw [b q (by omega), pst_n (by omega)]
    · rw [if_neg e] at hg
      obtain ⟨c, hc, hg⟩ := List.mem_flatMap.mp hg
      have hc := List.mem_range.mp hc
      by_cases q : cov ld (sp d) (jth n (wS ld sp (d + 1)) c) = true
      · rw [if_pos q] at hg
        obtain ⟨a, b⟩ := lvs_ok hn r (d + 1) _ (h.s (by unfold jth; split <;> omega) (fun _ => q) (fun z => absurd z e)) g hg
        refine ⟨by rw [show d + (r + 1) = d + 1 + r by omega]; exact a, fun q hq => ?_⟩
        rw [b q (by omega), pst_n (by omega)]
      · rw [if_neg q] at hg
        cases hg
theorem pok_0 {n : Nat} {ld : Nat → Nat} {i : Nat} (hi : i < n) : pok n ld (pst (fun _ => 0) 0 i) 0 := by
  refine ⟨fun q hq => by rw [show q = 0 by omega, pst_s]; exact hi, fun q hq => pst_n (by omega), fun q hq => absurd hq (by omega), fun q hq => absurd hq (by omega)⟩
theorem wys_ok {n : Nat} {ld : Nat → Nat} {k i : Nat} (hk : 1 ≤ k) (hi : i < n) {g : Nat → Nat} (hg : g ∈ wys n ld k i) : pok n ld g (k - 1) ∧ g 0 = i := by
  obtain ⟨a, b⟩ := lvs_ok (by omega) (k - 1) 0 _ (pok_0 hi) g hg
  rw [Nat.zero_add] at a
  exact ⟨a, by rw [b 0 (Nat.le_refl _), pst_s]⟩
end
section
/-! ===== mathematics of rounds: points ===== -/
def wV (ld : Nat → Nat) (sp : Nat → Nat) (a b : Int) (q : Nat) : Int := wS ld sp q * a + wT ld sp q * b
def onq (ld : Nat → Nat) (sp : Nat → Nat) (a b : Int) (q : Nat) : Prop := (sp q : Int) * b ≤ wV ld sp a b q ∧ wV ld sp a b q ≤ ((sp q : Int) + 1) * b
theorem wV_0 {ld sp : Nat → Nat} {a b : Int} : wV ld sp a b 0 = a := by
  show 1 * a + 0 * b = a
  omega
theorem wV_s {ld sp : Nat → Nat} {a b : Int} (q : Nat) : wV ld sp a b (q + 1) = sl ld (sp q) * (wV ld sp a b q - (sp q : Int) * b) + (ld (sp q) : Int) * b := by
  show sl ld (sp q) * wS ld sp q * a + (sl ld (sp q) * wT ld sp q + (ld (sp q) : Int) - sl ld (sp q) * (sp q : Int)) * b = sl ld (sp q) * (wS ld sp q * a + wT ld sp q * b - (sp q : Int) * b) + (ld (sp q) : Int) * b
  grind
theorem ionf_iff {ld sp : Nat → Nat} {a b : Int} : ∀ (r d : Nat), ionf sp (wS ld sp) (wT ld sp) a b r d = true ↔ ∀ q, d ≤ q → q < d + r → onq ld sp a b q
  | 0, d => ⟨fun _ q h1 h2 => absurd h2 (by omega), fun _ => rfl⟩
  | r + 1, d => by
    unfold ionf
    by_cases c : wS ld sp d * a + wT ld sp d * b < (sp d : Int) * b ∨ ((sp d : Int) + 1) * b < wS ld sp d * a + wT ld sp d * b
    · rw [if_pos c]
      refine ⟨(fun q => absurd q (by decide)), (fun h => ?_)⟩
      have := h d (Nat.le_refl _) (by omega)
      unfold onq wV at this
      omega
    · rw [if_neg c, ionf_iff r (d + 1)]
      refine ⟨fun h q h1 h2 => ?_, fun h q h1 h2 => h q (by omega) (by omega)⟩
      by_cases e : q = d
      · rw [e]
        unfold onq wV
        omega
      · exact h q (by omega) (by omega)
/-- a line over a span: forth -/
theorem seg_f {p q u b : Int} (h1 : 0 ≤ u) (h2 : u ≤ b) : min p q * b ≤ (q - p) * u + p * b ∧ (q - p) * u + p * b ≤ max p q * b := by
  by_cases c : p ≤ q
  · rw [Int.min_eq_left c, Int.max_eq_right c]
    have a1 : 0 ≤ (q - p) * u := Int.mul_nonneg (by omega) h1
    have a2 : (q - p) * u ≤ (q - p) * b := Int.mul_le_mul_of_nonneg_left h2 (by omega)
    have e : (q - p) * b = q * b - p * b := Int.sub_mul _ _ _
    omega
  · rw [Int.min_eq_right (by omega), Int.max_eq_left (by omega)]
    have a1 : 0 ≤ (p - q) * u := Int.mul_nonneg (by omega) h1
    have a2 : (p - q) * u ≤ (p - q) * b := Int.mul_le_mul_of_nonneg_left h2 (by omega)
    have e : (p - q) * b = p * b - q * b := Int.sub_mul _ _ _
    have e2 : (q - p) * u = -((p - q) * u) := by rw [← Int.neg_mul, Int.neg_sub]
    omega
/-- a line over a span: back -/
theorem seg_b {p q u b : Int} (hb : 0 < b) (hne : p ≠ q) (h1 : min p q * b ≤ (q - p) * u + p * b) (h2 : (q - p) * u + p * b ≤ max p q * b) : 0 ≤ u ∧ u ≤ b := by
  by_cases c : p ≤ q
  · rw [Int.min_eq_left c] at h1
    rw [Int.max_eq_right c] at h2
    have e : (q - p) * b = q * b - p * b := Int.sub_mul _ _ _
    have hp : 0 < q - p := by omega
    refine ⟨?_, ?_⟩
    · refine Int.le_of_mul_le_mul_left (a := q - p) ?_ hp
      rw [Int.mul_zero]; omega
    · refine Int.le_of_mul_le_mul_left (a := q - p) ?_ hp
      omega
  · rw [Int.min_eq_right (by omega)] at h1
    rw [Int.max_eq_left (by omega)] at h2
    have e : (p - q) * b = p * b - q * b := Int.sub_mul _ _ _
    have e2 : (q - p) * u = -((p - q) * u) := by rw [← Int.neg_mul, Int.neg_sub]
    have hp : 0 < p - q := by omega
    refine ⟨?_, ?_⟩
    · refine Int.le_of_mul_le_mul_left (a := p - q) ?_ hp
      rw [Int.mul_zero]; omega
    · refine Int.le_of_mul_le_mul_left (a := p - q) ?_ hp
      omega
theorem cov_iff {ld : Nat → Nat} {i j : Nat} : cov ld i j = true ↔ min (ld i) (ld (i + 1)) ≤ j ∧ j < max (ld i) (ld (i + 1)) := by
  unfold cov
  simp
theorem cov_ne {ld : Nat → Nat} {i j : Nat} (h : cov ld i j = true) : (ld i : Int) ≠ (ld (i + 1) : Int) := by
  have := cov_iff.mp h
  omega
theorem stp_on {n : Nat} {ld : Nat → Nat} {b x : Int} {j : Nat} (hb : 0 < b) (hj : j < n) (h1 : (j : Int) * b ≤ x) (h2 : x ≤ ((j : Int) + 1) * b) : stp n ld b x = sl ld j * (x - (j : Int) * b) + (ld j : Int) * b := by
  have e1 : ((j : Int) + 1) * b = (j : Int) * b + b := by rw [Int.add_mul, Int.one_mul]
  by_cases c : x < ((j : Int) + 1) * b
  · have ed : x / b = (j : Int) := by
      refine Int.le_antisymm (Int.lt_add_one_iff.mp (Int.ediv_lt_of_lt_mul hb c)) (Int.le_ediv_of_mul_le hb h1)
    have es : spn n x b = j := by unfold spn; rw [ed]; omega
    unfold stp
    rw [es]
    omega
  · have ex : x = ((j : Int) + 1) * b := by omega
    have ed : x / b = (j : Int) + 1 := by rw [ex]; exact Int.mul_ediv_cancel _ (by omega)
    have eR : sl ld j * (x - (j : Int) * b) + (ld j : Int) * b = (ld (j + 1) : Int) * b := by
      rw [ex, e1, show (j : Int) * b + b - (j : Int) * b = b by omega]
      unfold sl
      rw [Int.sub_mul]
      omega
    rw [eR]
    by_cases c2 : j + 1 < n
    · have es : spn n x b = j + 1 := by unfold spn; rw [ed]; omega
      unfold stp
      rw [es, ex, show (((j + 1 : Nat) : Int)) = (j : Int) + 1 by omega, Int.sub_self, Int.mul_zero, Int.add_zero]
    · have es : spn n x b = j := by unfold spn; rw [ed]; omega
      unfold stp
      rw [es, ← eR]
      omega
theorem fol_on {n : Nat} {ld sp : Nat → Nat} {a b : Int} (hb : 0 < b) : ∀ m, (∀ q, q < m → sp q < n ∧ onq ld sp a b q) → fol n ld b a m = wV ld sp a b m
  | 0, _ => wV_0.symm
  | m + 1, h => by
    show stp n ld b (fol n ld b a m) = _
    rw [fol_on hb m (fun q hq => h q (by omega)), wV_s]
    exact stp_on hb (h m (by omega)).1 (h m (by omega)).2.1 (h m (by omega)).2.2
theorem wS_ne {ld sp : Nat → Nat} {m : Nat} (h : wS ld sp m ≠ 0) : ∀ q, q ≤ m → wS ld sp q ≠ 0 := by
  induction m with
  | zero => intro q hq; rw [show q = 0 by omega]; exact h
  | succ m ih =>
    intro q hq
    by_cases e : q = m + 1
    · rw [e]; exact h
    · refine ih (fun z => h ?_) q (by omega)
      show sl ld (sp m) * wS ld sp m = 0
      rw [z, Int.mul_zero]
/-- on the last span: on all -/
theorem on_down {n : Nat} {ld sp : Nat → Nat} {a b : Int} (hb : 0 < b) : ∀ (m : Nat), (∀ q, q < m → cov ld (sp q) (sp (q + 1)) = true) → onq ld sp a b m → ∀ q, q ≤ m → onq ld sp a b q
  | 0, _, h, q, hq => by rw [show q = 0 by omega]; exact h
  | m + 1, hc, h, q, hq => by
    by_cases e : q = m + 1
    · rw [e]; exact h
    · refine on_down (n := n) hb m (fun x hx => hc x (by omega)) ?_ q (by omega)
      obtain ⟨h1, h2⟩ := h
      rw [wV_s] at h1 h2
      have hcv := hc m (by omega)
      obtain ⟨c1, c2⟩ := cov_iff.mp hcv
      have k1 : min (ld (sp m) : Int) (ld (sp m + 1) : Int) * b ≤ (sp (m + 1) : Int) * b := Int.mul_le_mul_of_nonneg_right (by omega) (by omega)
      have k2 : ((sp (m + 1) : Int) + 1) * b ≤ max (ld (sp m) : Int) (ld (sp m + 1) : Int) * b := Int.mul_le_mul_of_nonneg_right (by omega) (by omega)
      have := seg_b (p := (ld (sp m) : Int)) (q := (ld (sp m + 1) : Int)) (u := wV ld sp a b m - (sp m : Int) * b) hb (cov_ne hcv) (Int.le_trans k1 h1) (Int.le_trans h2 k2)
      unfold onq
      rw [Int.add_mul, Int.one_mul]
      omega
/-- a closed way: it comes back over the span that it began with -/
def clo (ld : Nat → Nat) (k : Nat) (g : Nat → Nat) : Prop := wS ld g (k - 1) ≠ 0 ∧ cov ld (g (k - 1)) (g 0) = true
theorem clo_cov {n : Nat} {ld g : Nat → Nat} {k : Nat} (hp : pok n ld g (k - 1)) (hc : clo ld k g) : ∀ q, q < k - 1 → cov ld (g q) (g (q + 1)) = true := fun q hq => hp.2.2.1 q hq (wS_ne hc.1 _ (by omega))
theorem clo_S {ld g : Nat → Nat} {k : Nat} (hk : 1 ≤ k) (hc : clo ld k g) : wS ld g k ≠ 0 := by
  obtain ⟨m, rfl⟩ : ∃ m, k = m + 1 := ⟨k - 1, by omega⟩
  intro h
  have h : sl ld (g m) * wS ld g m = 0 := h
  rcases Int.mul_eq_zero.mp h with e | e
  · have := cov_ne hc.2
    unfold sl at e
    have e2 : m + 1 - 1 = m := by omega
    rw [e2] at this
    omega
  · exact hc.1 e
/-- what is led to the first span lies on the way -/
theorem clo_in {n : Nat} {ld g : Nat → Nat} {k : Nat} (hk : 1 ≤ k) (hp : pok n ld g (k - 1)) (hc : clo ld k g) {a b : Int} (hb : 0 < b) (h1 : (g 0 : Int) * b ≤ wV ld g a b k) (h2 : wV ld g a b k ≤ ((g 0 : Int) + 1) * b) : ∀ q, q < k → onq ld g a b q := by
  obtain ⟨m, rfl⟩ : ∃ m, k = m + 1 := ⟨k - 1, by omega⟩
  have e2 : m + 1 - 1 = m := by omega
  rw [e2] at hp
  have hcc := hc.2
  rw [e2] at hcc
  intro q hq
  refine on_down (n := n) hb m (fun x hx => clo_cov (k := m + 1) (by rw [e2]; exact hp) hc x (by omega)) ?_ q (by omega)
  rw [wV_s] at h1 h2
  obtain ⟨c1, c2⟩ := cov_iff.mp hcc
  have k1 : min (ld (g m) : Int) (ld (g m + 1) : Int) * b ≤ (g 0 : Int) * b := Int.mul_le_mul_of_nonneg_right (by omega) (by omega)
  have k2 : ((g 0 : Int) + 1) * b ≤ max (ld (g m) : Int) (ld (g m + 1) : Int) * b := Int.mul_le_mul_of_nonneg_right (by omega) (by omega)
  have := seg_b (p := (ld (g m) : Int)) (q := (ld (g m + 1) : Int)) (u := wV ld g a b m - (g m : Int) * b) hb (cov_ne hcc) (Int.le_trans k1 h1) (Int.le_trans h2 k2)
  unfold onq
  rw [Int.add_mul, Int.one_mul]
  omega
theorem clo_st {n : Nat} {ld g : Nat → Nat} {k : Nat} (hk : 1 ≤ k) (hp : pok n ld g (k - 1)) (hc : clo ld k g) {s t i : Int} (es : s = wS ld g k) (et : t = wT ld g k) (ei : i = (g 0 : Int)) : (0 < s → i * s ≤ i - t ∧ i + 1 - t ≤ (i + 1) * s) ∧ (s < 0 → i + 1 - t ≤ i * s ∧ (i + 1) * s ≤ i - t) := by
  have key : ∀ a b : Int, 0 < b → i * b ≤ s * a + t * b → s * a + t * b ≤ (i + 1) * b → i * b ≤ a ∧ a ≤ (i + 1) * b := by
    intro a b hb h1 h2
    have := clo_in hk hp hc hb (a := a) (by unfold wV; rw [← es, ← et, ← ei]; exact h1) (by unfold wV; rw [← es, ← et, ← ei]; exact h2) 0 (by omega)
    unfold onq at this
    rw [wV_0, ← ei] at this
    exact this
  refine ⟨fun hs => ?_, fun hs => ?_⟩
  · have e0 : s * (i - t) + t * s = i * s := by grind
    have e1 : s * (i + 1 - t) + t * s = (i + 1) * s := by grind
    have e2 : (i + 1) * s = i * s + s := by grind
    exact ⟨(key (i - t) s hs (by omega) (by omega)).1, (key (i + 1 - t) s hs (by omega) (by omega)).2⟩
  · have e0 : s * (-(i - t)) + t * (-s) = i * (-s) := by grind
    have e1 : s * (-(i + 1 - t)) + t * (-s) = (i + 1) * (-s) := by grind
    have e2 : (i + 1) * (-s) = i * (-s) + -s := by grind
    have e3 : i * (-s) = -(i * s) := by grind
    have e4 : (i + 1) * (-s) = -((i + 1) * s) := by grind
    have a1 := (key (-(i + 1 - t)) (-s) (by omega) (by omega) (by omega)).1
    have a2 := (key (-(i - t)) (-s) (by omega) (by omega) (by omega)).2
    omega
theorem clo_1 {n : Nat} {ld g : Nat → Nat} {k : Nat} (hk : 1 ≤ k) (hp : pok n ld g (k - 1)) (hc : clo ld k g) (hs : wS ld g k = 1) : wT ld g k = 0 := by
  have := (clo_st hk hp hc rfl rfl rfl).1 (by omega)
  rw [hs] at this
  omega
/-- the point that a way leaves in place -/
def pA (ld : Nat → Nat) (k : Nat) (g : Nat → Nat) : Int := if wS ld g k < 1 then wT ld g k else -(wT ld g k)
def pB (ld : Nat → Nat) (k : Nat) (g : Nat → Nat) : Int := if wS ld g k < 1 then 1 - wS ld g k else wS ld g k - 1
theorem pB_pos {ld g : Nat → Nat} {k : Nat} (h : wS ld g k ≠ 1) : 0 < pB ld k g := by unfold pB; split <;> omega
theorem pAB {ld g : Nat → Nat} {k : Nat} : wV ld g (pA ld k g) (pB ld k g) k = pA ld k g := by
  unfold wV pA pB
  split <;> grind
theorem clo_on {n : Nat} {ld g : Nat → Nat} {k : Nat} (hk : 1 ≤ k) (hp : pok n ld g (k - 1)) (hc : clo ld k g) (hs : wS ld g k ≠ 1) : ∀ q, q < k → onq ld g (pA ld k g) (pB ld k g) q := by
  have st := clo_st hk hp hc rfl rfl rfl
  have h0 := clo_S hk hc
  have key : (g 0 : Int) * pB ld k g ≤ pA ld k g ∧ pA ld k g ≤ ((g 0 : Int) + 1) * pB ld k g := by
    unfold pA pB
    generalize wS ld g k = s at *
    generalize wT ld g k = t at *
    generalize (g 0 : Int) = i at *
    by_cases c : 0 < s
    · have a := st.1 c
      have e1 : (i + 1) * s = i * s + s := by grind
      have e2 : i * (s - 1) = i * s - i := by grind
      have e3 : (i + 1) * (s - 1) = i * s + s - i - 1 := by grind
      rw [if_neg (by omega), if_neg (by omega)]
      omega
    · have a := st.2 (by omega)
      have e1 : (i + 1) * s = i * s + s := by grind
      have e2 : i * (1 - s) = i - i * s := by grind
      have e3 : (i + 1) * (1 - s) = i + 1 - i * s - s := by grind
      rw [if_pos (by omega), if_pos (by omega)]
      omega
  exact clo_in hk hp hc (pB_pos hs) (by rw [pAB]; exact key.1) (by rw [pAB]; exact key.2)
theorem on_clo {n : Nat} {ld g : Nat → Nat} {k : Nat} (hk : 1 ≤ k) {a b : Int} (hb : 0 < b) (hon : ∀ q, q < k → onq ld g a b q) (hV : wV ld g a b k = a) (h1 : (g 0 : Int) * b < a) (h2 : a < ((g 0 : Int) + 1) * b) : clo ld k g := by
  obtain ⟨m, rfl⟩ : ∃ m, k = m + 1 := ⟨k - 1, by omega⟩
  unfold clo
  rw [show m + 1 - 1 = m by omega]
  refine ⟨fun z => ?_, ?_⟩
  · have e0 : wS ld g (m + 1) = 0 := by
      show sl ld (g m) * wS ld g m = 0
      rw [z, Int.mul_zero]
    unfold wV at hV
    rw [e0, Int.zero_mul, Int.zero_add] at hV
    rw [← hV] at h1 h2
    have l1 := Int.lt_of_mul_lt_mul_right h1 (by omega)
    have l2 := Int.lt_of_mul_lt_mul_right h2 (by omega)
    omega
  · have o := hon m (by omega)
    rw [wV_s] at hV
    have s := seg_f (p := (ld (g m) : Int)) (q := (ld (g m + 1) : Int)) (u := wV ld g a b m - (g m : Int) * b) (b := b) (by have := o.1; omega) (by have := o.2; rw [Int.add_mul, Int.one_mul] at this; omega)
    have hV : ((ld (g m + 1) : Int) - (ld (g m) : Int)) * (wV ld g a b m - (g m : Int) * b) + (ld (g m) : Int) * b = a := hV
    rw [hV] at s
    have l1 := Int.lt_of_mul_lt_mul_right (Int.lt_of_lt_of_le h1 s.2) (by omega)
    have l2 := Int.lt_of_mul_lt_mul_right (Int.lt_of_le_of_lt s.1 h2) (by omega)
    rw [cov_iff]
    omega
end
section
/-! ===== mathematics of rounds: the first and the last way ===== -/
def tau (σ : Nat) (S : Int) : Nat := if 0 < S then σ else 1 - σ
theorem wV_c {ld sp sp' : Nat → Nat} {a b : Int} {m : Nat} (h : ∀ q, q < m → sp q = sp' q) : wV ld sp a b m = wV ld sp' a b m := by
  unfold wV
  rw [wS_c m h, wT_c m h]
theorem onq_c {ld sp sp' : Nat → Nat} {a b : Int} {m : Nat} (h : ∀ q, q ≤ m → sp q = sp' q) : onq ld sp a b m ↔ onq ld sp' a b m := by
  unfold onq
  rw [wV_c (sp' := sp') (fun q hq => h q (by omega)), h m (Nat.le_refl _)]
theorem flat_T {n : Nat} {ld sp : Nat → Nat} (h1 : 1 ≤ n) (hb : ∀ i, i ≤ n → ld i ≤ n) {d : Nat} (hp : pok n ld sp d) : ∀ q, q ≤ d + 1 → wS ld sp q = 0 → 0 ≤ wT ld sp q ∧ wT ld sp q ≤ (n : Int)
  | 0, _, h => absurd h (by show ¬ (1 : Int) = 0; decide)
  | q + 1, hq, h => by
    refine nT_flat (s := wS ld sp q) h1 hb (hp.1 q (by omega)) (fun e => ?_) h
    have ih := flat_T h1 hb hp q (by omega) e
    refine ⟨ih.1, ih.2, ?_⟩
    match q, hq, h, e with
    | 0, _, _, e => exact absurd e (by show ¬ (1 : Int) = 0; decide)
    | q + 1, hq, h, e => exact hp.2.2.2 q (by omega) e
/-- the corner goes along -/
theorem cor_s {ld sp : Nat → Nat} {c : Int} {d x : Nat} (hx : x ≤ 1) (h : wV ld sp c 1 d = (sp d : Int) + x) : wV ld sp c 1 (d + 1) = (ld (sp d + x) : Int) := by
  rw [wV_s, h]
  have e : x = 0 ∨ x = 1 := by omega
  unfold sl
  rcases e with rfl | rfl
  · rw [show (sp d : Int) + ((0 : Nat) : Int) - (sp d : Int) * 1 = 0 by omega, Int.mul_zero, Int.zero_add, Int.mul_one]
    rfl
  · rw [show (sp d : Int) + ((1 : Nat) : Int) - (sp d : Int) * 1 = 1 by omega, Int.mul_one, Int.mul_one]
    omega
theorem tau_le {σ : Nat} {S : Int} (h : σ ≤ 1) : tau σ S ≤ 1 := by unfold tau; split <;> omega
theorem tau_s {ld sp : Nat → Nat} {σ : Nat} (hσ : σ ≤ 1) {d : Nat} (h0 : wS ld sp (d + 1) ≠ 0) : (ld (sp d + tau σ (wS ld sp d)) : Nat) = if tau σ (wS ld sp (d + 1)) = 0 then min (ld (sp d)) (ld (sp d + 1)) else max (ld (sp d)) (ld (sp d + 1)) := by
  have e : wS ld sp (d + 1) = ((ld (sp d + 1) : Int) - (ld (sp d) : Int)) * wS ld sp d := rfl
  have h1 : wS ld sp d ≠ 0 := wS_ne h0 d (by omega)
  by_cases c1 : 0 < wS ld sp d
  · by_cases c2 : (ld (sp d) : Int) < ld (sp d + 1)
    · have p : 0 < wS ld sp (d + 1) := by rw [e]; exact Int.mul_pos (by omega) c1
      unfold tau
      rw [if_pos c1, if_pos p]
      have z : σ = 0 ∨ σ = 1 := by omega
      rcases z with rfl | rfl
      · rw [if_pos rfl, Nat.add_zero]; omega
      · rw [if_neg (by decide)]; omega
    · have c3 : (ld (sp d + 1) : Int) ≠ ld (sp d) := fun q => h0 (by rw [e, q, Int.sub_self, Int.zero_mul])
      have p : ¬ 0 < wS ld sp (d + 1) := by rw [e]; exact fun q => absurd (Int.mul_neg_of_neg_of_pos (show (ld (sp d + 1) : Int) - (ld (sp d) : Int) < 0 by omega) c1) (by omega)
      unfold tau
      rw [if_pos c1, if_neg p]
      have z : σ = 0 ∨ σ = 1 := by omega
      rcases z with rfl | rfl
      · rw [if_neg (by decide), Nat.add_zero]; omega
      · rw [if_pos (by decide)]; omega
  · by_cases c2 : (ld (sp d) : Int) < ld (sp d + 1)
    · have p : ¬ 0 < wS ld sp (d + 1) := by rw [e]; exact fun q => absurd (Int.mul_neg_of_pos_of_neg (show 0 < (ld (sp d + 1) : Int) - (ld (sp d) : Int) by omega) (show wS ld sp d < 0 by omega)) (by omega)
      unfold tau
      rw [if_neg c1, if_neg p]
      have z : σ = 0 ∨ σ = 1 := by omega
      rcases z with rfl | rfl
      · rw [if_neg (by decide), Nat.sub_zero]; omega
      · rw [if_pos (by decide), Nat.sub_self, Nat.add_zero]; omega
    · have c3 : (ld (sp d + 1) : Int) ≠ ld (sp d) := fun q => h0 (by rw [e, q, Int.sub_self, Int.zero_mul])
      have p : 0 < wS ld sp (d + 1) := by rw [e]; exact Int.mul_pos_of_neg_of_neg (by omega) (by omega)
      unfold tau
      rw [if_neg c1, if_pos p]
      have z : σ = 0 ∨ σ = 1 := by omega
      rcases z with rfl | rfl
      · rw [if_pos rfl, Nat.sub_zero]; omega
      · rw [if_neg (by decide), Nat.sub_self, Nat.add_zero]; omega
theorem range_split {n c : Nat} (h : c < n) : List.range n = List.range c ++ c :: (List.range' (c + 1) (n - c - 1)) := by
  rw [List.range_eq_range', List.range_eq_range', show n = c + (1 + (n - c - 1)) by omega, ← List.range'_append_1, show c + (1 + (n - c - 1)) - c - 1 = n - c - 1 by omega, Nat.zero_add, ← List.range'_append_1]
  rfl
theorem edge_leaf {n : Nat} {ld : Nat → Nat} (h1 : 1 ≤ n) (hb : ∀ i, i ≤ n → ld i ≤ n) {σ : Nat} (hσ : σ ≤ 1) {c : Int} : ∀ (r d : Nat) (sp : Nat → Nat), pok n ld sp d → (wS ld sp d ≠ 0 → wV ld sp c 1 d = (sp d : Int) + tau σ (wS ld sp d)) → (∀ q, q ≤ d → onq ld sp c 1 q) →
    ∃ pre f post, lvs n ld r d sp = pre ++ f :: post ∧ (∀ q, q ≤ d + r → onq ld f c 1 q) ∧ (∀ g ∈ pre ++ post, ¬ ∀ q, q ≤ d + r → onq ld g c 1 q) ∧ (σ = 0 → pre = []) ∧ (σ = 1 → post = [])
  | 0, d, sp, hp, hc, ho => ⟨[], sp, [], rfl, ho, (fun g hg => by cases hg), (fun _ => rfl), (fun _ => rfl)⟩
  | r + 1, d, sp, hp, hc, ho => by
    have pfx : ∀ j, onq ld (pst sp (d + 1) j) c 1 (d + 1) → ∀ q, q ≤ d + 1 → onq ld (pst sp (d + 1) j) c 1 q := by
      intro j hj q hq
      by_cases e : q = d + 1
      · rw [e]; exact hj
      · exact (onq_c (fun x hx => pst_n (by omega))).mpr (ho q (by omega))
    by_cases e : wS ld sp (d + 1) = 0
    · have FT := flat_T h1 hb hp (d + 1) (Nat.le_refl _) e
      have ev : wV ld (pst sp (d + 1) (min (wT ld sp (d + 1)).toNat (n - 1))) c 1 (d + 1) = wT ld sp (d + 1) := by
        rw [wV_c (sp' := sp) (fun q hq => pst_n (by omega))]
        unfold wV
        rw [e]; omega
      obtain ⟨pre, f, post, a1, a2, a3, a4, a5⟩ := edge_leaf h1 hb hσ r (d + 1) (pst sp (d + 1) (min (wT ld sp (d + 1)).toNat (n - 1))) (hp.s (by omega) (fun q => absurd e q) (fun _ => rfl)) (fun q => absurd (by rw [wS_c (sp' := sp) _ (fun x hx => pst_n (by omega))]; exact e) q) (pfx _ (by unfold onq; rw [ev, pst_s]; omega))
      refine ⟨pre, f, post, ?_, fun q hq => a2 q (by omega), fun g hg h => a3 g hg (fun q hq => h q (by omega)), a4, a5⟩
      rw [← a1]
      exact if_pos e
    · have hd : wS ld sp d ≠ 0 := wS_ne e d (by omega)
      have hco := cor_s (tau_le hσ) (hc hd)
      have ht := tau_s (sp := sp) (d := d) hσ e
      have tl : tau σ (wS ld sp (d + 1)) ≤ 1 := tau_le hσ
      have hne : ld (sp d) ≠ ld (sp d + 1) := by
        intro q
        refine e ?_
        show ((ld (sp d + 1) : Int) - (ld (sp d) : Int)) * wS ld sp d = 0
        rw [q, Int.sub_self, Int.zero_mul]
      have l1 := hb (sp d) (by have := hp.1 d (Nat.le_refl _); omega)
      have l2 := hb (sp d + 1) (by have := hp.1 d (Nat.le_refl _); omega)
      obtain ⟨s', es⟩ : ∃ s', s' = wS ld sp (d + 1) := ⟨_, rfl⟩
      obtain ⟨T, eT⟩ : ∃ T, T = tau σ s' := ⟨_, rfl⟩
      obtain ⟨K, eK⟩ : ∃ K, K = ld (sp d + tau σ (wS ld sp d)) := ⟨_, rfl⟩
      rw [← es, ← eT] at ht
      rw [← es] at e tl
      rw [← eT] at tl
      rw [← eK] at hco ht
      have eTT : T = if 0 < s' then σ else 1 - σ := eT
      -- the child that has the corner
      obtain ⟨j, ej⟩ : ∃ j, j + T = K := ⟨K - T, by rw [ht]; split <;> omega⟩
      have hj1 : cov ld (sp d) j = true := by
        rw [cov_iff]
        split at ht <;> omega
      have hjn : j < n := by have := cov_iff.mp hj1; omega
      obtain ⟨c0, ec0⟩ : ∃ c0, c0 = (if 0 < s' then j else n - 1 - j) := ⟨_, rfl⟩
      have hc0 : c0 < n := by rw [ec0]; split <;> omega
      have hjc : jth n s' c0 = j := by unfold jth; rw [ec0]; split <;> omega
      have hF : lvs n ld (r + 1) d sp = (List.range c0).flatMap (fun c => if cov ld (sp d) (jth n s' c) = true then lvs n ld r (d + 1) (pst sp (d + 1) (jth n s' c)) else []) ++ (lvs n ld r (d + 1) (pst sp (d + 1) j) ++ (List.range' (c0 + 1) (n - c0 - 1)).flatMap (fun c => if cov ld (sp d) (jth n s' c) = true then lvs n ld r (d + 1) (pst sp (d + 1) (jth n s' c)) else [])) := by
        conv => lhs; unfold lvs
        rw [← es, if_neg e]
        rw [range_split hc0, List.flatMap_append, List.flatMap_cons, hjc, if_pos hj1]
      have ev : ∀ x, wV ld (pst sp (d + 1) x) c 1 (d + 1) = (K : Int) := fun x => by rw [wV_c (sp' := sp) (fun q hq => pst_n (by omega))]; exact hco
      have eSx : ∀ x, wS ld (pst sp (d + 1) x) (d + 1) = s' := fun x => by rw [wS_c (sp' := sp) _ (fun q hq => pst_n (by omega)), es]
      obtain ⟨pre, f, post, a1, a2, a3, a4, a5⟩ := edge_leaf h1 hb hσ r (d + 1) (pst sp (d + 1) j) (hp.s hjn (fun _ => hj1) (fun q => absurd (es.trans q) e)) (fun _ => by rw [ev, eSx, pst_s, ← eT]; omega) (pfx _ (by unfold onq; rw [ev, pst_s]; omega))
      -- others do not have it
      have oth : ∀ c', c' < n → c' ≠ c0 → ∀ g, g ∈ (if cov ld (sp d) (jth n s' c') = true then lvs n ld r (d + 1) (pst sp (d + 1) (jth n s' c')) else []) → ¬ ∀ q, q ≤ d + (r + 1) → onq ld g c 1 q := by
        intro c' hc' hne' g hg hon
        by_cases q : cov ld (sp d) (jth n s' c') = true
        · rw [if_pos q] at hg
          have hjl : jth n s' c' < n := by unfold jth; split <;> omega
          obtain ⟨-, b2⟩ := lvs_ok h1 r (d + 1) _ (hp.s hjl (fun _ => q) (fun z => absurd (es.trans z) e)) g hg
          have o := hon (d + 1) (by omega)
          rw [onq_c b2] at o
          unfold onq at o
          rw [ev, pst_s] at o
          have hjj : jth n s' c' ≠ j := by
            intro z
            apply hne'
            rw [ec0, ← z]
            unfold jth
            split <;> omega
          have := cov_iff.mp q
          split at ht <;> omega
        · rw [if_neg q] at hg
          cases hg
      refine ⟨_ ++ pre, f, post ++ _, by rw [hF, a1, List.append_assoc, List.append_assoc]; rfl, fun q hq => a2 q (by omega), fun g hg hon => ?_, fun z => ?_, fun z => ?_⟩
      · rw [List.append_assoc, ← List.append_assoc pre, List.mem_append, List.mem_append] at hg
        rcases hg with hg | hg | hg
        · obtain ⟨c', h1', h2'⟩ := List.mem_flatMap.mp hg
          have := List.mem_range.mp h1'
          exact oth c' (by omega) (by omega) g h2' hon
        · exact a3 g hg (fun q hq => hon q (by omega))
        · obtain ⟨c', h1', h2'⟩ := List.mem_flatMap.mp hg
          have := List.mem_range'_1.mp h1'
          exact oth c' (by omega) (by omega) g h2' hon
      · rw [a4 z, List.append_nil]
        refine List.flatMap_eq_nil_iff.mpr (fun x hx => if_neg (fun q => ?_))
        have hx := List.mem_range.mp hx
        have := cov_iff.mp q
        unfold jth at this
        split at ec0 <;> split at this <;> split at ht <;> split at eTT <;> omega
      · rw [a5 z, List.nil_append]
        refine List.flatMap_eq_nil_iff.mpr (fun x hx => if_neg (fun q => ?_))
        have hx := List.mem_range'_1.mp hx
        have := cov_iff.mp q
        unfold jth at this
        split at ec0 <;> split at this <;> split at ht <;> split at eTT <;> omega
end
section
/-! ===== mathematics of rounds: all ways, once each ===== -/
theorem jth_inj {n : Nat} {s : Int} {a b : Nat} (ha : a < n) (hb : b < n) (h : jth n s a = jth n s b) : a = b := by
  unfold jth at h
  split at h <;> omega
theorem jth_lt {n : Nat} {s : Int} {a : Nat} (ha : a < n) : jth n s a < n := by unfold jth; split <;> omega
theorem jth_jth {n : Nat} {s : Int} {a : Nat} (ha : a < n) : jth n s (jth n s a) = a := by unfold jth; split <;> omega
theorem nodup_fm {α : Type} {f : Nat → List α} {l : List Nat} (hl : l.Nodup) (h1 : ∀ a ∈ l, (f a).Nodup) (h2 : ∀ a ∈ l, ∀ b ∈ l, a ≠ b → ∀ x ∈ f a, x ∉ f b) : (l.flatMap f).Nodup := by
  unfold List.Nodup
  rw [List.pairwise_flatMap]
  refine ⟨h1, ?_⟩
  refine List.Pairwise.imp_of_mem (R := fun a b => a ≠ b) ?_ hl
  intro a b ha hb hab x hx y hy e
  exact h2 a ha b hb hab x hx (e ▸ hy)
theorem lvs_nd {n : Nat} {ld : Nat → Nat} (hn : 1 ≤ n) : ∀ (r d : Nat) (sp : Nat → Nat), pok n ld sp d → (lvs n ld r d sp).Nodup
  | 0, d, sp, h => List.nodup_cons.mpr ⟨(fun q => by cases q), List.nodup_nil⟩
  | r + 1, d, sp, h => by
    unfold lvs
    by_cases e : wS ld sp (d + 1) = 0
    · rw [if_pos e]
      exact lvs_nd hn r (d + 1) _ (h.s (by omega) (fun q => absurd e q) (fun _ => rfl))
    · rw [if_neg e]
      refine nodup_fm List.nodup_range (fun a ha => ?_) (fun a ha b hb hab x hx hy => ?_)
      · have ha := List.mem_range.mp ha
        by_cases q : cov ld (sp d) (jth n (wS ld sp (d + 1)) a) = true
        · rw [if_pos q]
          exact lvs_nd hn r (d + 1) _ (h.s (jth_lt ha) (fun _ => q) (fun z => absurd z e))
        · rw [if_neg q]; exact List.nodup_nil
      · have ha := List.mem_range.mp ha
        have hb := List.mem_range.mp hb
        by_cases q : cov ld (sp d) (jth n (wS ld sp (d + 1)) a) = true
        · by_cases q2 : cov ld (sp d) (jth n (wS ld sp (d + 1)) b) = true
          · rw [if_pos q] at hx
            rw [if_pos q2] at hy
            have e1 := (lvs_ok hn r (d + 1) _ (h.s (jth_lt ha) (fun _ => q) (fun z => absurd z e)) x hx).2 (d + 1) (Nat.le_refl _)
            have e2 := (lvs_ok hn r (d + 1) _ (h.s (jth_lt hb) (fun _ => q2) (fun z => absurd z e)) x hy).2 (d + 1) (Nat.le_refl _)
            rw [pst_s] at e1 e2
            exact hab (jth_inj ha hb (e1.symm.trans e2))
          · rw [if_neg q2] at hy; cases hy
        · rw [if_neg q] at hx; cases hx
theorem wys_nd {n : Nat} {ld : Nat → Nat} {k i : Nat} (hi : i < n) : (wys n ld k i).Nodup := lvs_nd (by omega) _ _ _ (pok_0 hi)
theorem lvs_all {n : Nat} {ld : Nat → Nat} (hn : 1 ≤ n) : ∀ (r d : Nat) (sp g : Nat → Nat), pok n ld g (d + r) → (∀ q, q ≤ d → g q = sp q) → (∀ q, d < q → sp q = 0) → g ∈ lvs n ld r d sp
  | 0, d, sp, g, hg, h1, h2 => by
    have e : g = sp := by
      funext q
      by_cases c : q ≤ d
      · exact h1 q c
      · rw [h2 q (by omega)]; exact hg.2.1 q (by omega)
    rw [e]
    exact List.mem_singleton.mpr rfl
  | r + 1, d, sp, g, hg, h1, h2 => by
    have eS : wS ld g (d + 1) = wS ld sp (d + 1) := wS_c _ (fun q hq => h1 q (by omega))
    have eT : wT ld g (d + 1) = wT ld sp (d + 1) := wT_c _ (fun q hq => h1 q (by omega))
    have nx : ∀ j, g (d + 1) = j → g ∈ lvs n ld r (d + 1) (pst sp (d + 1) j) := fun j hj => lvs_all hn r (d + 1) _ g (by rw [show d + 1 + r = d + (r + 1) by omega]; exact hg) (fun q hq => by
      by_cases c : q = d + 1
      · rw [c, pst_s, hj]
      · rw [pst_n c]; exact h1 q (by omega)) (fun q hq => by rw [pst_n (by omega)]; exact h2 q (by omega))
    unfold lvs
    by_cases e : wS ld sp (d + 1) = 0
    · rw [if_pos e]
      refine nx _ ?_
      rw [hg.2.2.2 d (by omega) (eS.trans e), eT]
    · rw [if_neg e]
      have hl := hg.1 (d + 1) (by omega)
      refine List.mem_flatMap.mpr ⟨jth n (wS ld sp (d + 1)) (g (d + 1)), List.mem_range.mpr (jth_lt hl), ?_⟩
      rw [jth_jth hl, if_pos (by have := hg.2.2.1 d (by omega) (by rw [eS]; exact e); rw [h1 d (Nat.le_refl _)] at this; exact this)]
      exact nx _ rfl
theorem wys_all {n : Nat} {ld : Nat → Nat} {k : Nat} (hk : 1 ≤ k) {g : Nat → Nat} (hg : pok n ld g (k - 1)) : g ∈ wys n ld k (g 0) := by
  have := hg.1 0 (by omega)
  exact lvs_all (by omega) (k - 1) 0 _ g (by rw [Nat.zero_add]; exact hg) (fun q hq => by rw [show q = 0 by omega, pst_s]) (fun q hq => pst_n (by omega))
/-- a closed way, by its spans alone -/
def cyc (n : Nat) (ld : Nat → Nat) (k : Nat) (g : Nat → Nat) : Prop := (∀ q, q < k → g q < n) ∧ (∀ q, k ≤ q → g q = 0) ∧ (∀ q, q + 1 < k → cov ld (g q) (g (q + 1)) = true) ∧ cov ld (g (k - 1)) (g 0) = true
theorem sl_ne {ld : Nat → Nat} {i j : Nat} (h : cov ld i j = true) : sl ld i ≠ 0 := by
  have := cov_ne h
  unfold sl
  omega
theorem cyc_S {n : Nat} {ld : Nat → Nat} {k : Nat} {g : Nat → Nat} (h : cyc n ld k g) : ∀ q, q < k → wS ld g q ≠ 0
  | 0, _ => by show ¬ (1 : Int) = 0; decide
  | q + 1, hq => by
    show sl ld (g q) * wS ld g q ≠ 0
    exact Int.mul_ne_zero (sl_ne (h.2.2.1 q hq)) (cyc_S h q (by omega))
theorem cyc_pok {n : Nat} {ld : Nat → Nat} {k : Nat} (hk : 1 ≤ k) {g : Nat → Nat} (h : cyc n ld k g) : pok n ld g (k - 1) ∧ clo ld k g :=
  ⟨⟨fun q hq => h.1 q (by omega), fun q hq => h.2.1 q (by omega), fun q hq _ => h.2.2.1 q (by omega), fun q hq z => absurd z (cyc_S h (q + 1) (by omega))⟩, cyc_S h _ (by omega), h.2.2.2⟩
theorem clo_cyc {n : Nat} {ld : Nat → Nat} {k : Nat} (hk : 1 ≤ k) {g : Nat → Nat} (hp : pok n ld g (k - 1)) (hc : clo ld k g) : cyc n ld k g :=
  ⟨fun q hq => hp.1 q (by omega), fun q hq => hp.2.1 q (by omega), fun q hq => clo_cov hp hc q (by omega), hc.2⟩
/-- a point has a way -/
theorem lvs_pt {n : Nat} {ld : Nat → Nat} (hn : 1 ≤ n) (hbd : ∀ i, i ≤ n → ld i ≤ n) {a b : Int} (hb : 0 < b) : ∀ (r d : Nat) (sp : Nat → Nat), pok n ld sp d → (∀ q, q ≤ d → onq ld sp a b q) → ∃ g ∈ lvs n ld r d sp, ∀ q, q ≤ d + r → onq ld g a b q
  | 0, d, sp, hp, ho => ⟨sp, List.mem_singleton.mpr rfl, ho⟩
  | r + 1, d, sp, hp, ho => by
    have pfx : ∀ j, onq ld (pst sp (d + 1) j) a b (d + 1) → ∀ q, q ≤ d + 1 → onq ld (pst sp (d + 1) j) a b q := by
      intro j hj q hq
      by_cases e : q = d + 1
      · rw [e]; exact hj
      · exact (onq_c (fun x hx => pst_n (by omega))).mpr (ho q (by omega))
    have ev : ∀ x, wV ld (pst sp (d + 1) x) a b (d + 1) = wV ld sp a b (d + 1) := fun x => wV_c (fun q hq => pst_n (by omega))
    unfold lvs
    by_cases e : wS ld sp (d + 1) = 0
    · rw [if_pos e]
      have FT := flat_T hn hbd hp (d + 1) (Nat.le_refl _) e
      obtain ⟨g, h1, h2⟩ := lvs_pt hn hbd hb r (d + 1) (pst sp (d + 1) (min (wT ld sp (d + 1)).toNat (n - 1))) (hp.s (by omega) (fun q => absurd e q) (fun _ => rfl)) (pfx _ (by
        unfold onq
        rw [ev, pst_s]
        unfold wV
        rw [e, Int.zero_mul, Int.zero_add]
        exact ⟨Int.mul_le_mul_of_nonneg_right (by omega) (by omega), Int.mul_le_mul_of_nonneg_right (by omega) (by omega)⟩))
      exact ⟨g, h1, fun q hq => h2 q (by omega)⟩
    · rw [if_neg e]
      have hne : ld (sp d) ≠ ld (sp d + 1) := by
        intro q
        refine e ?_
        show ((ld (sp d + 1) : Int) - (ld (sp d) : Int)) * wS ld sp d = 0
        rw [q, Int.sub_self, Int.zero_mul]
      have hsd := hp.1 d (Nat.le_refl _)
      have l1 := hbd (sp d) (by omega)
      have l2 := hbd (sp d + 1) (by omega)
      have o := ho d (Nat.le_refl _)
      have s := seg_f (p := (ld (sp d) : Int)) (q := (ld (sp d + 1) : Int)) (u := wV ld sp a b d - (sp d : Int) * b) (b := b) (by have := o.1; omega) (by have := o.2; rw [Int.add_mul, Int.one_mul] at this; omega)
      have eV : ((ld (sp d + 1) : Int) - (ld (sp d) : Int)) * (wV ld sp a b d - (sp d : Int) * b) + (ld (sp d) : Int) * b = wV ld sp a b (d + 1) := (wV_s d).symm
      rw [eV] at s
      -- the span of the point
      obtain ⟨j, c1, c2, c3, c4⟩ : ∃ j : Nat, min (ld (sp d)) (ld (sp d + 1)) ≤ j ∧ j < max (ld (sp d)) (ld (sp d + 1)) ∧ (j : Int) * b ≤ wV ld sp a b (d + 1) ∧ wV ld sp a b (d + 1) ≤ ((j : Int) + 1) * b := by
        generalize wV ld sp a b (d + 1) = v at s
        have q1 : v / b * b ≤ v := Int.ediv_mul_le _ (by omega)
        have q2 : v < (v / b + 1) * b := Int.lt_ediv_add_one_mul_self _ hb
        have q3 : min (ld (sp d) : Int) (ld (sp d + 1) : Int) ≤ v / b := Int.le_ediv_of_mul_le hb s.1
        by_cases c : v / b < max (ld (sp d) : Int) (ld (sp d + 1) : Int)
        · refine ⟨(v / b).toNat, by omega, by omega, ?_, ?_⟩
          · rw [Int.toNat_of_nonneg (by omega)]; exact q1
          · rw [Int.toNat_of_nonneg (by omega)]; omega
        · refine ⟨max (ld (sp d)) (ld (sp d + 1)) - 1, by omega, by omega, ?_, ?_⟩
          · refine Int.le_trans (Int.mul_le_mul_of_nonneg_right (c := b) (b := v / b) (by omega) (by omega)) q1
          · refine Int.le_trans s.2 (Int.mul_le_mul_of_nonneg_right (by omega) (by omega))
      have hcv : cov ld (sp d) j = true := cov_iff.mpr ⟨c1, c2⟩
      have hj : j < n := by omega
      obtain ⟨g, h1, h2⟩ := lvs_pt hn hbd hb r (d + 1) (pst sp (d + 1) j) (hp.s hj (fun _ => hcv) (fun z => absurd z e)) (pfx _ (by
        unfold onq
        rw [ev, pst_s]
        exact ⟨c3, c4⟩))
      refine ⟨g, List.mem_flatMap.mpr ⟨jth n (wS ld sp (d + 1)) j, List.mem_range.mpr (jth_lt hj), ?_⟩, fun q hq => h2 q (by omega)⟩
      rw [jth_jth hj, if_pos hcv]
      exact h1
theorem wys_pt {n : Nat} {ld : Nat → Nat} (hbd : ∀ i, i ≤ n → ld i ≤ n) {k i : Nat} (hk : 1 ≤ k) (hi : i < n) {a b : Int} (hb : 0 < b) (h1 : (i : Int) * b ≤ a) (h2 : a ≤ ((i : Int) + 1) * b) : ∃ g ∈ wys n ld k i, ∀ q, q < k → onq ld g a b q := by
  obtain ⟨g, x, y⟩ := lvs_pt (by omega) hbd hb (k - 1) 0 (pst (fun _ => 0) 0 i) (pok_0 (ld := ld) hi) (fun q hq => by
    rw [show q = 0 by omega]
    unfold onq
    rw [wV_0, pst_s]
    exact ⟨h1, h2⟩)
  exact ⟨g, x, fun q hq => y q (by omega)⟩
/-- the one way that has the corner -/
theorem wys_edge {n : Nat} {ld : Nat → Nat} (hbd : ∀ i, i ≤ n → ld i ≤ n) {k i : Nat} (hk : 1 ≤ k) (hi : i < n) {σ : Nat} (hσ : σ ≤ 1) : ∃ pre f post, wys n ld k i = pre ++ f :: post ∧ (∀ q, q < k → onq ld f ((i + σ : Nat) : Int) 1 q) ∧ (∀ g ∈ pre ++ post, ¬ ∀ q, q < k → onq ld g ((i + σ : Nat) : Int) 1 q) ∧ (σ = 0 → pre = []) ∧ (σ = 1 → post = []) := by
  obtain ⟨pre, f, post, a1, a2, a3, a4, a5⟩ := edge_leaf (by omega) hbd hσ (c := ((i + σ : Nat) : Int)) (k - 1) 0 (pst (fun _ => 0) 0 i) (pok_0 hi) (fun _ => by
    rw [wV_0, pst_s]
    have : tau σ (wS ld (pst (fun _ => 0) 0 i) 0) = σ := if_pos (by show (0 : Int) < 1; decide)
    rw [this]
    omega) (fun q hq => by
    rw [show q = 0 by omega]
    unfold onq
    rw [wV_0, pst_s]
    omega)
  exact ⟨pre, f, post, a1, fun q hq => a2 q (by omega), fun g hg h => a3 g hg (fun q hq => h q (by omega)), a4, a5⟩
end
section
/-! ===== mathematics of rounds: corners and edges ===== -/
theorem least (P : Nat → Prop) : ∀ (f k : Nat), k < f → 1 ≤ k → P k → ∃ p, 1 ≤ p ∧ p ≤ k ∧ P p ∧ ∀ q, 1 ≤ q → q < p → ¬ P q
  | 0, k, hf, _, _ => by omega
  | f + 1, k, hf, h1, hP => by
    by_cases c : ∃ q, 1 ≤ q ∧ q < k ∧ P q
    · obtain ⟨q, a, b, d⟩ := c
      obtain ⟨p, e1, e2, e3, e4⟩ := least P f q (by omega) a d
      exact ⟨p, e1, by omega, e3, e4⟩
    · exact ⟨k, h1, Nat.le_refl _, hP, fun q a b d => c ⟨q, a, b, d⟩⟩
theorem ret_md {h : Nat → Nat} {x p : Nat} (h1 : 1 ≤ p) (h2 : orb h x p = x) (k : Nat) : orb h x k = orb h x (k % p) := by
  have := orb_per (ld := h) (c := x) (j := 0) (p := p) (by omega) (by rw [Nat.zero_add]; exact h2) (k + 1) k (by omega)
  rw [Nat.zero_add, Nat.zero_add] at this
  exact this
theorem ret_dv {h : Nat → Nat} {x p : Nat} (h1 : 1 ≤ p) (h2 : orb h x p = x) (h3 : ∀ q, 1 ≤ q → q < p → orb h x q ≠ x) (k : Nat) : orb h x k = x ↔ k % p = 0 := by
  rw [ret_md h1 h2 k]
  have := Nat.mod_lt k (show 0 < p by omega)
  by_cases c : k % p = 0
  · rw [c]; exact ⟨fun _ => rfl, fun _ => rfl⟩
  · exact ⟨fun q => absurd q (h3 _ (by omega) this), fun q => absurd q c⟩
theorem dv_iff {d k : Nat} : dv d k = true ↔ 0 < d ∧ k % d = 0 := decide_eq_true_iff
theorem ret_pig {n : Nat} {ld : Nat → Nat} (hbd : ∀ i, i ≤ n → ld i ≤ n) {c : Nat} (hc : c ≤ n) {p : Nat} (h1 : 1 ≤ p) (h2 : orb ld c p = c) (h3 : ∀ q, 1 ≤ q → q < p → orb ld c q ≠ c) : p ≤ n + 1 := by
  refine pigeon (n + 1) p (orb ld c) (fun i _ => by have := orb_le hbd hc i; omega) (fun i j hij hj e => ?_)
  refine h3 (p - (j - i)) (by omega) (by omega) ?_
  have e1 : orb ld c (p - (j - i)) = orb ld (orb ld c i) (p - j) := by rw [orb_add]; congr 1; omega
  rw [e1, e, orb_add, show j + (p - j) = p by omega]
  exact h2
theorem sor_k {n : Nat} {ld : Nat → Nat} (hbd : ∀ i, i ≤ n → ld i ≤ n) {c : Nat} (hc : c ≤ n) {k : Nat} (hk : 1 ≤ k) : sor n ld c = k ↔ orb ld c k = c ∧ ∀ q, 1 ≤ q → q < k → orb ld c q ≠ c := by
  refine ⟨fun h => ?_, fun h => sor_eq hk (ret_pig hbd hc hk h.1 h.2) h.1 h.2⟩
  rcases sor_sp n ld c with ⟨g1, g2⟩ | ⟨K, g1, g2, g3, g4, g5⟩
  · omega
  · have e : K = k := by omega
    rw [← e]; exact ⟨g4, g5⟩
theorem sor_dv {n : Nat} {ld : Nat → Nat} (hbd : ∀ i, i ≤ n → ld i ≤ n) {c : Nat} (hc : c ≤ n) {k : Nat} (hk : 1 ≤ k) : dv (sor n ld c) k = true ↔ orb ld c k = c := by
  rw [dv_iff]
  rcases sor_sp n ld c with ⟨g1, g2⟩ | ⟨K, g1, g2, g3, g4, g5⟩
  · refine ⟨fun q => by omega, fun q => ?_⟩
    obtain ⟨p, a1, a2, a3, a4⟩ := least (fun q => orb ld c q = c) (k + 1) k (by omega) hk q
    exact absurd a3 (g2 p a1 (ret_pig hbd hc a1 a3 a4))
  · rw [g3, ret_dv g1 g4 g5]
    exact ⟨fun q => q.2, fun q => ⟨by omega, q⟩⟩
theorem epf_sp (ld : Nat → Nat) (e : Nat) : ∀ (r a k : Nat) (s : Bool), 1 ≤ k → a = orb (nxe ld) e (k - 1) → (∀ q, q < k - 1 → sl ld (orb (nxe ld) e q / 2) ≠ 0) → (s = true ↔ ∀ q, q < k - 1 → sl ld (orb (nxe ld) e q / 2) = 1 ∨ sl ld (orb (nxe ld) e q / 2) = -1) → (∀ q, 1 ≤ q → q < k → orb (nxe ld) e q ≠ e) →
    ((epf ld e r a k s).1 = 0 ∧ ∀ K, k ≤ K → K < k + r → (∀ q, q < K → sl ld (orb (nxe ld) e q / 2) ≠ 0) → orb (nxe ld) e K ≠ e) ∨
    ∃ K, k ≤ K ∧ K < k + r ∧ (epf ld e r a k s).1 = K ∧ (∀ q, q < K → sl ld (orb (nxe ld) e q / 2) ≠ 0) ∧ orb (nxe ld) e K = e ∧ (∀ q, 1 ≤ q → q < K → orb (nxe ld) e q ≠ e) ∧ ((epf ld e r a k s).2 = true ↔ ∀ q, q < K → sl ld (orb (nxe ld) e q / 2) = 1 ∨ sl ld (orb (nxe ld) e q / 2) = -1)
  | 0, a, k, s, h1, ha, hs, hb, hr => Or.inl ⟨rfl, fun K x y => by omega⟩
  | r + 1, a, k, s, h1, ha, hs, hb, hr => by
    have en : nxe ld a = orb (nxe ld) e k := by rw [ha]; show orb (nxe ld) e (k - 1 + 1) = _; rw [Nat.sub_add_cancel h1]
    unfold epf
    by_cases c1 : sl ld (a / 2) = 0
    · rw [if_pos c1]
      refine Or.inl ⟨rfl, fun K x y z => absurd c1 ?_⟩
      rw [ha]
      exact z (k - 1) (by omega)
    · rw [if_neg c1]
      have hs' : ∀ q, q < k → sl ld (orb (nxe ld) e q / 2) ≠ 0 := fun q hq => by
        by_cases z : q = k - 1
        · rw [z, ← ha]; exact c1
        · exact hs q (by omega)
      have hb' : (s && decide (sl ld (a / 2) = 1 ∨ sl ld (a / 2) = -1)) = true ↔ ∀ q, q < k → sl ld (orb (nxe ld) e q / 2) = 1 ∨ sl ld (orb (nxe ld) e q / 2) = -1 := by
        rw [Bool.and_eq_true, hb, decide_eq_true_iff]
        refine ⟨fun z q hq => ?_, fun z => ⟨fun q hq => z q (by omega), ?_⟩⟩
        · by_cases y : q = k - 1
          · rw [y, ← ha]; exact z.2
          · exact z.1 q (by omega)
        · rw [ha]; exact z (k - 1) (by omega)
      by_cases c2 : nxe ld a = e
      · rw [if_pos c2]
        exact Or.inr ⟨k, Nat.le_refl _, by omega, rfl, hs', by rw [← en]; exact c2, hr, hb'⟩
      · rw [if_neg c2]
        have hr' : ∀ q, 1 ≤ q → q < k + 1 → orb (nxe ld) e q ≠ e := fun q x y => by
          by_cases z : q = k
          · rw [z, ← en]; exact c2
          · exact hr q x (by omega)
        rcases epf_sp ld e r (nxe ld a) (k + 1) _ (by omega) en hs' hb' hr' with ⟨g1, g2⟩ | ⟨K, g1, g2, g3⟩
        · refine Or.inl ⟨g1, fun K x y z => ?_⟩
          by_cases y : K = k
          · rw [y]; exact hr' k h1 (by omega)
          · exact g2 K (by omega) (by omega) z
        · exact Or.inr ⟨K, by omega, by omega, g3⟩
theorem eps_sp (ld : Nat → Nat) (e : Nat) : ((eps ld e).1 = 0 ∧ ∀ K, 1 ≤ K → K ≤ 6 → (∀ q, q < K → sl ld (orb (nxe ld) e q / 2) ≠ 0) → orb (nxe ld) e K ≠ e) ∨
    ∃ K, 1 ≤ K ∧ K ≤ 6 ∧ (eps ld e).1 = K ∧ (∀ q, q < K → sl ld (orb (nxe ld) e q / 2) ≠ 0) ∧ orb (nxe ld) e K = e ∧ (∀ q, 1 ≤ q → q < K → orb (nxe ld) e q ≠ e) ∧ ((eps ld e).2 = true ↔ ∀ q, q < K → sl ld (orb (nxe ld) e q / 2) = 1 ∨ sl ld (orb (nxe ld) e q / 2) = -1) := by
  rcases epf_sp ld e 6 e 1 true (Nat.le_refl _) rfl (fun q hq => by omega) ⟨fun _ q hq => by omega, fun _ => rfl⟩ (fun q a b => by omega) with ⟨g1, g2⟩ | ⟨K, g1, g2, g3⟩
  · exact Or.inl ⟨g1, fun K a b => g2 K a (by omega)⟩
  · exact Or.inr ⟨K, g1, by omega, g3⟩
theorem eps_dv {ld : Nat → Nat} {e k : Nat} (hk : 1 ≤ k) (hk6 : k ≤ 6) : dv (eps ld e).1 k = true ↔ (∀ q, q < k → sl ld (orb (nxe ld) e q / 2) ≠ 0) ∧ orb (nxe ld) e k = e := by
  rw [dv_iff]
  rcases eps_sp ld e with ⟨g1, g2⟩ | ⟨K, g1, g2, g3, g4, g5, g6, g7⟩
  · refine ⟨fun q => by omega, fun q => ?_⟩
    exact absurd q.2 (g2 k hk hk6 q.1)
  · rw [g3, ret_dv g1 g5 g6]
    refine ⟨fun q => ⟨fun x hx => ?_, q.2⟩, fun q => ⟨by omega, q.2⟩⟩
    rw [ret_md g1 g5 x]
    exact g4 _ (Nat.mod_lt _ (by omega))
theorem eps_st {ld : Nat → Nat} {e k : Nat} (hk : 1 ≤ k) (hk6 : k ≤ 6) : ((eps ld e).2 = true ∧ dv (eps ld e).1 k = true) ↔ (∀ q, q < k → sl ld (orb (nxe ld) e q / 2) = 1 ∨ sl ld (orb (nxe ld) e q / 2) = -1) ∧ orb (nxe ld) e k = e := by
  rw [dv_iff]
  rcases eps_sp ld e with ⟨g1, g2⟩ | ⟨K, g1, g2, g3, g4, g5, g6, g7⟩
  · refine ⟨fun q => by omega, fun q => ?_⟩
    exact absurd q.2 (g2 k hk hk6 (fun x hx => by have := q.1 x hx; omega))
  · rw [g3, ret_dv g1 g5 g6, g7]
    refine ⟨fun q => ⟨fun x hx => ?_, q.2.2⟩, fun q => ⟨fun x hx => ?_, by omega, q.2⟩⟩
    · rw [ret_md g1 g5 x]
      exact q.1 _ (Nat.mod_lt _ (by omega))
    · have : K ≤ k := Nat.le_of_dvd (by omega) (Nat.dvd_of_mod_eq_zero q.2)
      exact q.1 x (by omega)
theorem eps_k {ld : Nat → Nat} {e k : Nat} (hk : 1 ≤ k) (hk6 : k ≤ 6) : (eps ld e).1 = k ↔ dv (eps ld e).1 k = true ∧ ∀ q, 1 ≤ q → q < k → orb (nxe ld) e q ≠ e := by
  rw [dv_iff]
  rcases eps_sp ld e with ⟨g1, g2⟩ | ⟨K, g1, g2, g3, g4, g5, g6, g7⟩
  · exact ⟨fun q => by omega, fun q => by omega⟩
  · rw [g3]
    refine ⟨fun q => ?_, fun q => ?_⟩
    · subst q
      exact ⟨⟨by omega, Nat.mod_self _⟩, g6⟩
    · have : K ≤ k := Nat.le_of_dvd (by omega) (Nat.dvd_of_mod_eq_zero q.1.2)
      by_cases z : K < k
      · exact absurd g5 (q.2 K g1 z)
      · omega
theorem nxe_eq {ld : Nat → Nat} {g t : Nat} (ht : t ≤ 1) (h : sl ld g ≠ 0) : nxe ld (2 * g + t) = 2 * ld (g + t) - (if 0 < sl ld g then t else 1 - t) := by
  have z : t = 0 ∨ t = 1 := by omega
  unfold nxe
  rcases z with rfl | rfl
  · rw [if_pos (by omega), show (2 * g + 0) / 2 = g by omega, Nat.add_zero]
    split <;> rfl
  · rw [if_neg (by omega), show (2 * g + 1) / 2 = g by omega]
    split <;> rfl
theorem tau_m {σ : Nat} (hσ : σ ≤ 1) {s S : Int} (h1 : s ≠ 0) (h2 : S ≠ 0) : tau σ (s * S) = if 0 < s then tau σ S else 1 - tau σ S := by
  unfold tau
  by_cases a : 0 < s
  · by_cases b : 0 < S
    · rw [if_pos (Int.mul_pos a b), if_pos a, if_pos b]
    · have := Int.mul_neg_of_pos_of_neg a (show S < 0 by omega)
      rw [if_neg (by omega), if_pos a, if_neg b]
  · by_cases b : 0 < S
    · have := Int.mul_neg_of_neg_of_pos (show s < 0 by omega) b
      rw [if_neg (by omega), if_neg a, if_pos b]
    · rw [if_pos (Int.mul_pos_of_neg_of_neg (by omega) (by omega)), if_neg a, if_neg b]
      omega
theorem wS_s {ld g : Nat → Nat} {q : Nat} : wS ld g (q + 1) = sl ld (g q) * wS ld g q := rfl
/-- a corner on a way is led along the way -/
theorem on_orb {ld g : Nat → Nat} {c k : Nat} (hon : ∀ q, q < k → onq ld g (c : Int) 1 q) : ∀ q, q ≤ k → wV ld g (c : Int) 1 q = (orb ld c q : Int)
  | 0, _ => wV_0
  | q + 1, hq => by
    have ih := on_orb hon q (by omega)
    have o := hon q (by omega)
    unfold onq at o
    rw [ih] at o
    obtain ⟨x, hx, ex⟩ : ∃ x : Nat, x ≤ 1 ∧ orb ld c q = g q + x := ⟨orb ld c q - g q, by omega, by omega⟩
    rw [cor_s (x := x) hx (by rw [ih, ex]; omega), ← ex]
    rfl
theorem edge_way {n : Nat} {ld g : Nat → Nat} {k σ c : Nat} (hσ : σ ≤ 1) (hp : pok n ld g (k - 1)) (hc : c = g 0 + σ) (hon : ∀ q, q < k → onq ld g (c : Int) 1 q) : ∀ q, q ≤ k → wS ld g q ≠ 0 → orb (nxe ld) (2 * g 0 + σ) q + tau σ (wS ld g q) = 2 * orb ld c q ∧ (q < k → orb ld c q = g q + tau σ (wS ld g q))
  | 0, _, _ => by
    have : tau σ (wS ld g 0) = σ := if_pos (by show (0 : Int) < 1; decide)
    rw [this]
    refine ⟨?_, fun _ => hc⟩
    show 2 * g 0 + σ + σ = 2 * c
    omega
  | q + 1, hq, hS => by
    have h0 : wS ld g q ≠ 0 := wS_ne hS q (by omega)
    obtain ⟨i1, i2⟩ := edge_way hσ hp hc hon q (by omega) h0
    have i2 := i2 (by omega)
    have hs : sl ld (g q) ≠ 0 := fun z => hS (by rw [wS_s, z, Int.zero_mul])
    have tl : tau σ (wS ld g q) ≤ 1 := tau_le hσ
    have tl' : tau σ (wS ld g (q + 1)) ≤ 1 := tau_le hσ
    have ts := tau_s (sp := g) (d := q) hσ hS
    have eo : orb ld c (q + 1) = ld (g q + tau σ (wS ld g q)) := by rw [← i2]; rfl
    have ee : orb (nxe ld) (2 * g 0 + σ) q = 2 * g q + tau σ (wS ld g q) := by omega
    have tm : tau σ (wS ld g (q + 1)) = if 0 < sl ld (g q) then tau σ (wS ld g q) else 1 - tau σ (wS ld g q) := by rw [wS_s]; exact tau_m hσ hs h0
    have en : orb (nxe ld) (2 * g 0 + σ) (q + 1) = 2 * orb ld c (q + 1) - tau σ (wS ld g (q + 1)) := by
      show nxe ld (orb (nxe ld) (2 * g 0 + σ) q) = _
      rw [ee, nxe_eq tl hs, tm, eo]
    rw [← eo] at ts
    have hne : ld (g q) ≠ ld (g q + 1) := by intro z; apply hs; unfold sl; omega
    refine ⟨?_, fun hq2 => ?_⟩
    · rw [en]
      split at ts <;> omega
    · have o := hon (q + 1) hq2
      unfold onq at o
      rw [on_orb hon (q + 1) hq] at o
      have cv := cov_iff.mp (hp.2.2.1 q (by omega) hS)
      split at ts <;> omega
theorem tau_pos {σ : Nat} {S : Int} (hσ : σ ≤ 1) : tau σ S = σ ↔ 0 < S := by
  unfold tau
  split <;> omega
theorem edge_sl {n : Nat} {ld g : Nat → Nat} {k σ c : Nat} (hσ : σ ≤ 1) (hp : pok n ld g (k - 1)) (hc : c = g 0 + σ) (hon : ∀ q, q < k → onq ld g (c : Int) 1 q) {q : Nat} (hq : q < k) (hS : wS ld g q ≠ 0) : orb (nxe ld) (2 * g 0 + σ) q / 2 = g q := by
  have := edge_way hσ hp hc hon q (by omega) hS
  have h2 := this.2 hq
  have tl : tau σ (wS ld g q) ≤ 1 := tau_le hσ
  omega
/-- an edge comes back: its way goes up and its corner comes back -/
theorem edge_dv {n : Nat} {ld g : Nat → Nat} {k σ c : Nat} (hk : 1 ≤ k) (hk6 : k ≤ 6) (hσ : σ ≤ 1) (hp : pok n ld g (k - 1)) (hc : c = g 0 + σ) (hon : ∀ q, q < k → onq ld g (c : Int) 1 q) : dv (eps ld (2 * g 0 + σ)).1 k = true ↔ 0 < wS ld g k ∧ orb ld c k = c := by
  rw [eps_dv hk hk6]
  refine ⟨fun h => ?_, fun h => ?_⟩
  · have hS : ∀ q, q ≤ k → wS ld g q ≠ 0 := by
      intro q
      induction q with
      | zero => intro _; show ¬ (1 : Int) = 0; decide
      | succ q ih =>
        intro hq
        have := h.1 q (by omega)
        rw [edge_sl hσ hp hc hon (by omega) (ih (by omega))] at this
        rw [wS_s]
        exact Int.mul_ne_zero this (ih (by omega))
    have w := (edge_way hσ hp hc hon k (Nat.le_refl _) (hS k (Nat.le_refl _))).1
    rw [h.2] at w
    have tl : tau σ (wS ld g k) ≤ 1 := tau_le hσ
    exact ⟨(tau_pos hσ).mp (by omega), by omega⟩
  · have hS : ∀ q, q ≤ k → wS ld g q ≠ 0 := wS_ne (by omega)
    refine ⟨fun q hq => ?_, ?_⟩
    · rw [edge_sl hσ hp hc hon hq (hS q (by omega))]
      intro z
      exact hS (q + 1) (by omega) (by rw [wS_s, z, Int.zero_mul])
    · have w := (edge_way hσ hp hc hon k (Nat.le_refl _) (hS k (Nat.le_refl _))).1
      rw [(tau_pos hσ).mpr h.1, h.2] at w
      omega
theorem mul_1 {a b : Nat} (h : a * b = 1) : a = 1 ∧ b = 1 := ⟨Nat.dvd_one.mp ⟨b, h.symm⟩, Nat.dvd_one.mp ⟨a, by rw [Nat.mul_comm]; exact h.symm⟩⟩
theorem wS_1 {ld g : Nat → Nat} {k : Nat} (h : wS ld g k = 1 ∨ wS ld g k = -1) : ∀ q, q ≤ k → wS ld g q = 1 ∨ wS ld g q = -1 := by
  induction k with
  | zero => intro q hq; rw [show q = 0 by omega]; exact h
  | succ k ih =>
    have e : (sl ld (g k)).natAbs * (wS ld g k).natAbs = 1 := by
      rw [← Int.natAbs_mul, ← wS_s]
      omega
    have e2 := (mul_1 e).2
    intro q hq
    by_cases c : q = k + 1
    · rw [c]; exact h
    · exact ih (by omega) q (by omega)
theorem sl_1 {ld g : Nat → Nat} {k : Nat} (h : wS ld g k = 1 ∨ wS ld g k = -1) {q : Nat} (hq : q < k) : sl ld (g q) = 1 ∨ sl ld (g q) = -1 := by
  have h1 := wS_1 h (q + 1) (by omega)
  have e : (sl ld (g q)).natAbs * (wS ld g q).natAbs = 1 := by
    rw [← Int.natAbs_mul, ← wS_s]
    omega
  have e2 := (mul_1 e).1
  omega
theorem one_wS {ld g : Nat → Nat} {k : Nat} (h : ∀ q, q < k → sl ld (g q) = 1 ∨ sl ld (g q) = -1) : wS ld g k = 1 ∨ wS ld g k = -1 := by
  induction k with
  | zero => left; rfl
  | succ k ih =>
    rw [wS_s]
    rcases h k (by omega) with a | a <;> rcases ih (fun q hq => h q (by omega)) with b | b <;> rw [a, b] <;> decide
theorem edge_st {n : Nat} {ld g : Nat → Nat} {k σ c : Nat} (hk : 1 ≤ k) (hk6 : k ≤ 6) (hσ : σ ≤ 1) (hp : pok n ld g (k - 1)) (hc : c = g 0 + σ) (hon : ∀ q, q < k → onq ld g (c : Int) 1 q) : ((eps ld (2 * g 0 + σ)).2 = true ∧ dv (eps ld (2 * g 0 + σ)).1 k = true) ↔ wS ld g k = 1 ∧ wT ld g k = 0 := by
  have eV := on_orb hon k (Nat.le_refl _)
  unfold wV at eV
  refine ⟨fun h => ?_, fun h => ?_⟩
  · have d := (edge_dv hk hk6 hσ hp hc hon).mp h.2
    have s := (eps_st hk hk6).mp h
    have hS : ∀ q, q ≤ k → wS ld g q ≠ 0 := wS_ne (by omega)
    have o := one_wS (ld := ld) (g := g) (k := k) (fun q hq => by
      have := s.1 q hq
      rw [edge_sl hσ hp hc hon hq (hS q (by omega))] at this
      exact this)
    have e1 : wS ld g k = 1 := by omega
    rw [e1, d.2] at eV
    exact ⟨e1, by omega⟩
  · rw [h.1, h.2] at eV
    have d := (edge_dv hk hk6 hσ hp hc hon).mpr ⟨by omega, by omega⟩
    rw [eps_st hk hk6]
    refine ⟨fun q hq => ?_, ((eps_dv hk hk6).mp d).2⟩
    rw [edge_sl hσ hp hc hon hq (wS_ne (m := k) (by omega) q (by omega))]
    exact sl_1 (Or.inl h.1) hq
/-- a way of slopes 1 and -1 has both corners -/
theorem still_on {n : Nat} {ld g : Nat → Nat} {k σ c : Nat} (hσ : σ ≤ 1) (hp : pok n ld g (k - 1)) (hc : c = g 0 + σ) (h : wS ld g k = 1 ∨ wS ld g k = -1) : ∀ q, q < k → onq ld g (c : Int) 1 q := by
  have key : ∀ q, q < k → wV ld g (c : Int) 1 q = (g q : Int) + tau σ (wS ld g q) := by
    intro q
    induction q with
    | zero =>
      intro _
      have : tau σ (wS ld g 0) = σ := if_pos (by show (0 : Int) < 1; decide)
      rw [this, wV_0, hc]
      omega
    | succ q ih =>
      intro hq
      have tl : tau σ (wS ld g q) ≤ 1 := tau_le hσ
      have tl' : tau σ (wS ld g (q + 1)) ≤ 1 := tau_le hσ
      have hS : wS ld g (q + 1) ≠ 0 := by have := wS_1 h (q + 1) (by omega); omega
      rw [cor_s tl (ih (by omega)), tau_s hσ hS]
      have cv := cov_iff.mp (hp.2.2.1 q (by omega) hS)
      have s1 := sl_1 h (q := q) (by omega)
      unfold sl at s1
      split <;> omega
  intro q hq
  have tl : tau σ (wS ld g q) ≤ 1 := tau_le hσ
  unfold onq
  rw [key q hq]
  omega
/-- the corner of a closed way -/
theorem clo_edge {n : Nat} {ld g : Nat → Nat} {k σ c : Nat} (hk : 1 ≤ k) (hσ : σ ≤ 1) (hp : pok n ld g (k - 1)) (hc : c = g 0 + σ) (hon : ∀ q, q < k → onq ld g (c : Int) 1 q) (ho : orb ld c k = c) : clo ld k g ↔ 0 < wS ld g k := by
  obtain ⟨m, rfl⟩ : ∃ m, k = m + 1 := ⟨k - 1, by omega⟩
  have em : m + 1 - 1 = m := by omega
  have aux : wS ld g (m + 1) ≠ 0 → (cov ld (g m) (g 0) = true ↔ tau σ (wS ld g (m + 1)) = σ) := by
    intro hS
    have ts := tau_s (sp := g) (d := m) hσ hS
    have tl' : tau σ (wS ld g (m + 1)) ≤ 1 := tau_le hσ
    have w := (edge_way hσ hp hc hon m (by omega) (wS_ne hS m (by omega))).2 (by omega)
    have eo : orb ld c (m + 1) = ld (g m + tau σ (wS ld g m)) := by rw [← w]; rfl
    rw [← eo, ho] at ts
    have hs : sl ld (g m) ≠ 0 := fun z => hS (by rw [wS_s, z, Int.zero_mul])
    have hne : ld (g m) ≠ ld (g m + 1) := by intro z; apply hs; unfold sl; omega
    rw [cov_iff]
    split at ts <;> omega
  refine ⟨fun h => ?_, fun h => ?_⟩
  · have hS := clo_S hk h
    have h2 := h.2
    rw [em] at h2
    exact (tau_pos hσ).mp ((aux hS).mp h2)
  · refine ⟨?_, ?_⟩
    · rw [em]; exact wS_ne (m := m + 1) (by omega) m (by omega)
    · rw [em]; exact (aux (by omega)).mpr ((tau_pos hσ).mpr h)
end
section
/-! ===== mathematics of rounds: endless ===== -/
theorem edf_iff {ld : Nat → Nat} {k : Nat} : ∀ r e, edf ld k r e = true ↔ ∃ x, e ≤ x ∧ x < e + r ∧ (eps ld x).2 = true ∧ dv (eps ld x).1 k = true
  | 0, e => ⟨fun h => absurd (show false = true from h) (by decide), fun ⟨x, a, b, _⟩ => by omega⟩
  | r + 1, e => by
    unfold edf
    by_cases c : (eps ld e).2 = true ∧ 0 < (eps ld e).1 ∧ k % (eps ld e).1 = 0
    · rw [if_pos c]
      exact ⟨fun _ => ⟨e, Nat.le_refl _, by omega, c.1, dv_iff.mpr c.2⟩, fun _ => rfl⟩
    · rw [if_neg c, edf_iff r (e + 1)]
      refine ⟨fun ⟨x, a, b, d⟩ => ⟨x, by omega, by omega, d⟩, fun ⟨x, a, b, d⟩ => ?_⟩
      by_cases z : x = e
      · exact absurd ⟨by rw [← z]; exact d.1, by rw [← z]; exact dv_iff.mp d.2⟩ c
      · exact ⟨x, by omega, by omega, d⟩
theorem hsf_iff {ld : Nat → Nat} {k : Nat} : ∀ r e, hsf ld k r e = true ↔ ∃ x, e ≤ x ∧ x < e + r ∧ (eps ld x).2 = true ∧ (eps ld x).1 = k
  | 0, e => ⟨fun h => absurd (show false = true from h) (by decide), fun ⟨x, a, b, _⟩ => by omega⟩
  | r + 1, e => by
    unfold hsf
    by_cases c : (eps ld e).2 = true ∧ (eps ld e).1 = k
    · rw [if_pos c]
      exact ⟨fun _ => ⟨e, Nat.le_refl _, by omega, c⟩, fun _ => rfl⟩
    · rw [if_neg c, hsf_iff r (e + 1)]
      refine ⟨fun ⟨x, a, b, d⟩ => ⟨x, by omega, by omega, d⟩, fun ⟨x, a, b, d⟩ => ?_⟩
      by_cases z : x = e
      · exact absurd (by rw [← z]; exact d) c
      · exact ⟨x, by omega, by omega, d⟩
theorem lesf_iff {ps pt : Nat → Int} {k : Nat} : ∀ r d l, lesf ps pt k r d l = true ↔ l = true ∨ ∃ x, d ≤ x ∧ x < d + r ∧ k % x = 0 ∧ ps x = 1 ∧ pt x = 0
  | 0, d, l => ⟨fun h => Or.inl h, fun h => h.elim id (fun ⟨x, a, b, _⟩ => by omega)⟩
  | r + 1, d, l => by
    unfold lesf
    rw [lesf_iff r (d + 1), Bool.or_eq_true, decide_eq_true_iff]
    refine ⟨fun h => ?_, fun h => ?_⟩
    · rcases h with (h | h) | ⟨x, a, b, c⟩
      · exact Or.inl h
      · exact Or.inr ⟨d, Nat.le_refl _, by omega, h⟩
      · exact Or.inr ⟨x, by omega, by omega, c⟩
    · rcases h with h | ⟨x, a, b, c⟩
      · exact Or.inl (Or.inl h)
      · by_cases z : x = d
        · rw [z] at c; exact Or.inl (Or.inr c)
        · exact Or.inr ⟨x, by omega, by omega, c⟩
def pnt (ld : Nat → Nat) (k : Nat) (g : Nat → Nat) : Option (Nat × Nat) :=
  if wS ld g k = 1 then none else if ionf g (wS ld g) (wT ld g) (pA ld k g) (pB ld k g) k 0 = true then some (rdp (pA ld k g).toNat (pB ld k g).toNat) else none
def enq (ld : Nat → Nat) (k : Nat) (g : Nat → Nat) : Bool := decide (wS ld g k = 1 ∧ wT ld g k = 0)
def enj (ld : Nat → Nat) (k : Nat) (g : Nat → Nat) : Bool := decide (wS ld g k = 1 ∧ wT ld g k = 0) && !(lesf (wS ld g) (wT ld g) k (k - 1) 1 false)
theorem fold_sp {ld : Nat → Nat} {k : Nat} : ∀ (l : List (Nat → Nat)) (R : RS), l.foldl (cmS ld k) R = ((l.filterMap (pnt ld k)).foldl apd R.1, R.2.1 || l.any (enq ld k), R.2.2 || l.any (enj ld k))
  | [], R => by
    show R = (R.1, R.2.1 || false, R.2.2 || false)
    rw [Bool.or_false, Bool.or_false]
  | g :: l, R => by
    rw [List.foldl_cons, fold_sp l, List.any_cons, List.any_cons, List.filterMap_cons]
    unfold cmS cmb
    by_cases c1 : wS ld g k = 1
    · have ep : pnt ld k g = none := if_pos c1
      rw [if_pos c1, ep]
      by_cases c2 : wT ld g k = 0
      · rw [if_pos c2]
        have e1 : enq ld k g = true := decide_eq_true ⟨c1, c2⟩
        have e2 : enj ld k g = !(lesf (wS ld g) (wT ld g) k (k - 1) 1 false) := by unfold enj; rw [decide_eq_true ⟨c1, c2⟩, Bool.true_and]
        rw [e1, e2]
        rw [Bool.true_or, Bool.or_true, ← Bool.or_assoc]
      · rw [if_neg c2]
        have e1 : enq ld k g = false := decide_eq_false (fun z => c2 z.2)
        have e2 : enj ld k g = false := by unfold enj; rw [decide_eq_false (fun z => c2 z.2), Bool.false_and]
        rw [e1, e2, Bool.false_or, Bool.false_or]
    · have e1 : enq ld k g = false := decide_eq_false (fun z => c1 z.1)
      have e2 : enj ld k g = false := by unfold enj; rw [decide_eq_false (fun z => c1 z.1), Bool.false_and]
      rw [if_neg c1, e1, e2, Bool.false_or, Bool.false_or]
      by_cases c3 : ionf g (wS ld g) (wT ld g) (pA ld k g) (pB ld k g) k 0 = true
      · have ep : pnt ld k g = some (rdp (pA ld k g).toNat (pB ld k g).toNat) := by unfold pnt; rw [if_neg c1, if_pos c3]
        rw [ep]
        unfold pA pB at c3
        rw [if_pos c3]
        rfl
      · have ep : pnt ld k g = none := by unfold pnt; rw [if_neg c1, if_neg c3]
        rw [ep]
        unfold pA pB at c3
        rw [if_neg c3]
theorem mem_wal {n : Nat} {ld : Nat → Nat} {k m : Nat} {g : Nat → Nat} : g ∈ wal n ld k m ↔ ∃ i, i < m ∧ g ∈ wys n ld k i := by
  unfold wal
  rw [List.mem_flatMap]
  exact ⟨fun ⟨i, a, b⟩ => ⟨i, List.mem_range.mp a, b⟩, fun ⟨i, a, b⟩ => ⟨i, List.mem_range.mpr a, b⟩⟩
/-- endless: an edge that comes back without stretching -/
theorem end_iff {n : Nat} {ld : Nat → Nat} (hbd : ∀ i, i ≤ n → ld i ≤ n) {k : Nat} (hk : 1 ≤ k) (hk6 : k ≤ 6) : (∃ g ∈ wal n ld k n, wS ld g k = 1 ∧ wT ld g k = 0) ↔ edf ld k (2 * n) 0 = true := by
  rw [edf_iff]
  refine ⟨fun ⟨g, hg, h⟩ => ?_, fun ⟨x, a, b, h⟩ => ?_⟩
  · obtain ⟨i, hi, hg⟩ := mem_wal.mp hg
    obtain ⟨hp, h0⟩ := wys_ok hk hi hg
    have := (edge_st (σ := 0) hk hk6 (by omega) hp rfl (still_on (by omega) hp rfl (Or.inl h.1))).mpr h
    exact ⟨2 * g 0 + 0, by omega, by omega, this⟩
  · obtain ⟨pre, f, post, a1, a2, a3, a4, a5⟩ := wys_edge hbd (k := k) (i := x / 2) (σ := x % 2) hk (by omega) (by omega)
    have hf : f ∈ wys n ld k (x / 2) := by rw [a1]; exact List.mem_append_right _ (List.mem_cons_self ..)
    obtain ⟨hp, h0⟩ := wys_ok hk (by omega) hf
    refine ⟨f, mem_wal.mpr ⟨x / 2, by omega, hf⟩, ?_⟩
    refine (edge_st (σ := x % 2) hk hk6 (by omega) hp rfl (by rw [h0]; exact a2)).mp ?_
    rw [h0, show 2 * (x / 2) + x % 2 = x by omega]
    exact h
theorem fnd_1 {n : Nat} {ld : Nat → Nat} (hbd : ∀ i, i ≤ n → ld i ≤ n) {k : Nat} (hk : 1 ≤ k) (hk6 : k ≤ 6) : (fnd n ld k n).2.1 = edf ld k (2 * n) 0 := by
  rw [fnd_wal n ld hk, fold_sp]
  show (false || (wal n ld k n).any (enq ld k)) = _
  rw [Bool.false_or, Bool.eq_iff_iff, List.any_eq_true, ← end_iff hbd hk hk6]
  exact ⟨fun ⟨g, a, b⟩ => ⟨g, a, of_decide_eq_true b⟩, fun ⟨g, a, b⟩ => ⟨g, a, decide_eq_true b⟩⟩
theorem fnd_2 {n : Nat} {ld : Nat → Nat} (hbd : ∀ i, i ≤ n → ld i ≤ n) {k : Nat} (hk : 1 ≤ k) (hk6 : k ≤ 6) : (fnd n ld k n).2.2 = hsf ld k (2 * n) 0 := by
  rw [fnd_wal n ld hk, fold_sp]
  show (false || (wal n ld k n).any (enj ld k)) = _
  rw [Bool.false_or, Bool.eq_iff_iff, List.any_eq_true, hsf_iff]
  refine ⟨fun ⟨g, hg, h⟩ => ?_, fun ⟨x, a, b, h1, h2⟩ => ?_⟩
  · unfold enj at h
    rw [Bool.and_eq_true, decide_eq_true_iff, Bool.not_eq_true', Bool.eq_false_iff] at h
    obtain ⟨h, hl⟩ := h
    obtain ⟨i, hi, hg⟩ := mem_wal.mp hg
    obtain ⟨hp, h0⟩ := wys_ok hk hi hg
    have hon := still_on (σ := 0) (by omega) hp rfl (Or.inl h.1)
    obtain ⟨s1, s2⟩ := (edge_st (σ := 0) hk hk6 (by omega) hp rfl hon).mpr h
    refine ⟨2 * g 0 + 0, by omega, by omega, s1, ?_⟩
    have s3 := dv_iff.mp s2
    have le : (eps ld (2 * g 0 + 0)).1 ≤ k := Nat.le_of_dvd (by omega) (Nat.dvd_of_mod_eq_zero s3.2)
    by_cases z : (eps ld (2 * g 0 + 0)).1 = k
    · exact z
    · exfalso
      apply hl
      rw [lesf_iff]
      right
      obtain ⟨K, eK⟩ : ∃ K, K = (eps ld (2 * g 0 + 0)).1 := ⟨_, rfl⟩
      rw [← eK] at s3 le z
      refine ⟨K, by omega, by omega, s3.2, ?_⟩
      have ret := ((eps_dv (ld := ld) (e := 2 * g 0 + 0) (k := K) (by omega) (by omega)).mp (by rw [← eK]; exact dv_iff.mpr ⟨s3.1, Nat.mod_self _⟩)).2
      have S1 := wS_1 (Or.inl h.1) K le
      have w := (edge_way (σ := 0) (by omega) hp rfl hon K le (by omega)).1
      rw [ret] at w
      have tl : tau 0 (wS ld g K) ≤ 1 := tau_le (by omega)
      have tp0 := (tau_pos (σ := 0) (S := wS ld g K) (by omega)).mp (by omega)
      have eV := on_orb hon K le
      unfold wV at eV
      have e1 : wS ld g K = 1 := by omega
      rw [e1] at eV
      exact ⟨e1, by omega⟩
  · obtain ⟨pre, f, post, a1, a2, a3, a4, a5⟩ := wys_edge hbd (k := k) (i := x / 2) (σ := x % 2) hk (by omega) (by omega)
    have hf : f ∈ wys n ld k (x / 2) := by rw [a1]; exact List.mem_append_right _ (List.mem_cons_self ..)
    obtain ⟨hp, h0⟩ := wys_ok hk (by omega) hf
    have ex : 2 * f 0 + x % 2 = x := by omega
    have hon : ∀ q, q < k → onq ld f ((f 0 + x % 2 : Nat) : Int) 1 q := by rw [h0]; exact a2
    obtain ⟨k1, k2⟩ := (eps_k hk hk6).mp h2
    have st := (edge_st (σ := x % 2) hk hk6 (by omega) hp rfl hon).mp (by rw [ex]; exact ⟨h1, k1⟩)
    refine ⟨f, mem_wal.mpr ⟨x / 2, by omega, hf⟩, ?_⟩
    unfold enj
    rw [decide_eq_true st, Bool.true_and, Bool.not_eq_true', Bool.eq_false_iff]
    intro q
    rcases (lesf_iff _ _ _).mp q with z | ⟨d, d1, d2, d3, d4, d5⟩
    · exact absurd z (by decide)
    · refine k2 d d1 (by omega) ?_
      have w := (edge_way (σ := x % 2) (by omega) hp rfl hon d (by omega) (by omega)).1
      rw [(tau_pos (by omega)).mpr (by omega), ex] at w
      have eV := on_orb hon d (by omega)
      unfold wV at eV
      rw [d4, d5] at eV
      omega
end
section
/-! ===== mathematics of rounds: the points, in order ===== -/
theorem wV_m {ld g : Nat → Nat} {G a b : Int} (q : Nat) : wV ld g (G * a) (G * b) q = G * wV ld g a b q := by
  unfold wV
  grind
theorem onq_m {ld g : Nat → Nat} {G a b : Int} (hG : 0 < G) (q : Nat) : onq ld g (G * a) (G * b) q ↔ onq ld g a b q := by
  unfold onq
  rw [wV_m, show (g q : Int) * (G * b) = G * ((g q : Int) * b) by grind, show ((g q : Int) + 1) * (G * b) = G * (((g q : Int) + 1) * b) by grind]
  exact ⟨fun h => ⟨Int.le_of_mul_le_mul_left h.1 hG, Int.le_of_mul_le_mul_left h.2 hG⟩, fun h => ⟨Int.mul_le_mul_of_nonneg_left h.1 (by omega), Int.mul_le_mul_of_nonneg_left h.2 (by omega)⟩⟩
theorem pnt_iff {ld g : Nat → Nat} {k : Nat} (hk : 1 ≤ k) {a b : Nat} : pnt ld k g = some (a, b) ↔ wS ld g k ≠ 1 ∧ 0 < b ∧ Nat.gcd a b = 1 ∧ (∀ q, q < k → onq ld g (a : Int) (b : Int) q) ∧ wV ld g (a : Int) (b : Int) k = (a : Int) := by
  unfold pnt
  by_cases c1 : wS ld g k = 1
  · rw [if_pos c1]
    exact ⟨(fun h => by cases h), (fun h => absurd c1 h.1)⟩
  · rw [if_neg c1]
    have hB := pB_pos c1
    by_cases c2 : ionf g (wS ld g) (wT ld g) (pA ld k g) (pB ld k g) k 0 = true
    · rw [if_pos c2]
      have on1 : ∀ q, q < k → onq ld g (pA ld k g) (pB ld k g) q := fun q hq => (ionf_iff k 0).mp c2 q (by omega) (by omega)
      have o0 := (on1 0 (by omega)).1
      rw [wV_0] at o0
      have hA : 0 ≤ pA ld k g := Int.le_trans (Int.mul_nonneg (by omega) (by omega)) o0
      have ab := pAB (ld := ld) (g := g) (k := k)
      generalize pA ld k g = A at *
      generalize pB ld k g = B at *
      obtain ⟨A, rfl⟩ : ∃ x : Nat, A = x := ⟨A.toNat, by omega⟩
      obtain ⟨B, rfl⟩ : ∃ x : Nat, B = x := ⟨B.toNat, by omega⟩
      rw [Int.toNat_natCast, Int.toNat_natCast]
      have hB' : 0 < B := by omega
      have hG : 0 < Nat.gcd A B := Nat.gcd_pos_of_pos_right _ hB'
      have e1 : A = Nat.gcd A B * (A / Nat.gcd A B) := (Nat.mul_div_cancel' (Nat.gcd_dvd_left A B)).symm
      have e2 : B = Nat.gcd A B * (B / Nat.gcd A B) := (Nat.mul_div_cancel' (Nat.gcd_dvd_right A B)).symm
      have hg1 : Nat.gcd (A / Nat.gcd A B) (B / Nat.gcd A B) = 1 := Nat.coprime_div_gcd_div_gcd hG
      have hb2 : 0 < B / Nat.gcd A B := Nat.div_pos (Nat.le_of_dvd hB' (Nat.gcd_dvd_right A B)) hG
      have e1z : (A : Int) = (Nat.gcd A B : Int) * ((A / Nat.gcd A B : Nat) : Int) := by rw [← Int.natCast_mul, ← e1]
      have e2z : (B : Int) = (Nat.gcd A B : Int) * ((B / Nat.gcd A B : Nat) : Int) := by rw [← Int.natCast_mul, ← e2]
      have onR : ∀ q, q < k → onq ld g ((A / Nat.gcd A B : Nat) : Int) ((B / Nat.gcd A B : Nat) : Int) q := fun q hq => by
        have := on1 q hq
        rw [e1z, e2z] at this
        exact (onq_m (by omega) q).mp this
      have abR : wV ld g ((A / Nat.gcd A B : Nat) : Int) ((B / Nat.gcd A B : Nat) : Int) k = ((A / Nat.gcd A B : Nat) : Int) := by
        rw [e1z, e2z, wV_m] at ab
        exact Int.eq_of_mul_eq_mul_left (by omega) ab
      refine ⟨fun h => ?_, fun h => ?_⟩
      · have h := Option.some.inj h
        have h1 : A / Nat.gcd A B = a := congrArg Prod.fst h
        have h2 : B / Nat.gcd A B = b := congrArg Prod.snd h
        rw [h1, h2] at onR abR hg1
        rw [h2] at hb2
        exact ⟨c1, hb2, hg1, onR, abR⟩
      · obtain ⟨-, h2, h3, -, h5⟩ := h
        -- the one point that stays
        show some (A / Nat.gcd A B, B / Nat.gcd A B) = some (a, b)
        generalize A / Nat.gcd A B = A' at *
        generalize B / Nat.gcd A B = B' at *
        have hx : (a : Int) * B' = A' * b := by
          unfold wV at h5 abR
          have : (wS ld g k - 1) * ((a : Int) * B' - A' * b) = 0 := by grind
          rcases Int.mul_eq_zero.mp this with z | z
          · omega
          · omega
        have hx : a * B' = A' * b := by
          have : ((a * B' : Nat) : Int) = ((A' * b : Nat) : Int) := by rw [Int.natCast_mul, Int.natCast_mul]; exact hx
          omega
        have d1 : b ∣ B' := Nat.Coprime.dvd_of_dvd_mul_left (k := b) (m := a) (n := B') (by rw [Nat.coprime_comm]; exact h3) ⟨A', by rw [hx, Nat.mul_comm]⟩
        have d2 : B' ∣ b := Nat.Coprime.dvd_of_dvd_mul_left (k := B') (m := A') (n := b) (by rw [Nat.coprime_comm]; exact hg1) ⟨a, by rw [← hx, Nat.mul_comm]⟩
        have e3 : B' = b := Nat.dvd_antisymm d2 d1
        rw [e3] at hx
        have e4 : a = A' := Nat.eq_of_mul_eq_mul_right h2 hx
        rw [e3, e4]
    · rw [if_neg c2]
      refine ⟨(fun h => by cases h), (fun h => ?_)⟩
      obtain ⟨-, h2, h3, h4, h5⟩ := h
      exfalso
      apply c2
      rw [ionf_iff]
      intro q _ hq
      have ab := pAB (ld := ld) (g := g) (k := k)
      generalize pA ld k g = A at *
      generalize pB ld k g = B at *
      have hx : (a : Int) * B = A * b := by
        unfold wV at h5 ab
        have : (wS ld g k - 1) * ((a : Int) * B - A * b) = 0 := by grind
        rcases Int.mul_eq_zero.mp this with z | z
        · omega
        · omega
      refine (onq_m (G := (b : Int)) (by omega) q).mp ?_
      rw [Int.mul_comm (b : Int) A, ← hx, Int.mul_comm (b : Int) B, Int.mul_comm (a : Int) B]
      exact (onq_m hB q).mpr (h4 q (by omega))
/-- cut off both ends -/
theorem cut_ends {X : List (Nat × Nat)} {x0 x1 : Nat × Nat} (hne : x0 ≠ x1) (h0 : x0 ∈ X → ∃ X', X = x0 :: X' ∧ x0 ∉ X') (h1 : x1 ∈ X → ∃ X', X = X' ++ [x1] ∧ x1 ∉ X') : X = (if x0 ∈ X then [x0] else []) ++ X.filter (fun p => decide (p ≠ x0 ∧ p ≠ x1)) ++ (if x1 ∈ X then [x1] else []) := by
  have keep : ∀ Y : List (Nat × Nat), x0 ∉ Y → x1 ∉ Y → Y.filter (fun p => decide (p ≠ x0 ∧ p ≠ x1)) = Y := by
    intro Y a b
    rw [List.filter_eq_self]
    intro p hp
    exact decide_eq_true ⟨fun e => a (e ▸ hp), fun e => b (e ▸ hp)⟩
  have d0 : decide (x0 ≠ x0 ∧ x0 ≠ x1) = false := decide_eq_false (fun h => h.1 rfl)
  have d1 : decide (x1 ≠ x0 ∧ x1 ≠ x1) = false := decide_eq_false (fun h => h.2 rfl)
  by_cases c0 : x0 ∈ X
  · obtain ⟨Y, e, hY⟩ := h0 c0
    rw [if_pos c0]
    by_cases c1 : x1 ∈ X
    · obtain ⟨Z, e2, hZ⟩ := h1 c1
      rw [if_pos c1]
      cases Z with
      | nil =>
        rw [e2] at c0
        exact absurd (List.mem_singleton.mp c0) hne
      | cons z Z =>
        rw [e2] at e
        have ez : z = x0 := (List.cons.inj e).1
        have ey : Z ++ [x1] = Y := (List.cons.inj e).2
        subst ez
        have a0 : z ∉ Z := fun q => hY (by rw [← ey]; exact List.mem_append_left _ q)
        have a1 : x1 ∉ Z := fun q => hZ (List.mem_cons_of_mem _ q)
        rw [e2, List.filter_append, List.filter_cons, d0, List.filter_cons, d1]
        simp only [List.filter_nil, List.append_nil, Bool.false_eq_true, if_false]
        rw [keep Z a0 a1]
        rfl
    · rw [if_neg c1, List.append_nil, e, List.filter_cons, d0]
      simp only [Bool.false_eq_true, if_false]
      rw [keep Y hY (fun q => c1 (by rw [e]; exact List.mem_cons_of_mem _ q))]
      rfl
  · rw [if_neg c0, List.nil_append]
    by_cases c1 : x1 ∈ X
    · obtain ⟨Z, e2, hZ⟩ := h1 c1
      rw [if_pos c1]
      conv => rhs; rw [e2]
      rw [List.filter_append, List.filter_cons, d1]
      simp only [List.filter_nil, List.append_nil, Bool.false_eq_true, if_false]
      rw [keep Z (fun q => c0 (by rw [e2]; exact List.mem_append_left _ q)) hZ]
      exact e2
    · rw [if_neg c1, List.append_nil, keep X c0 c1]
/-- the first leaf has the one corner, the last the other -/
theorem fm_ends {n : Nat} {ld : Nat → Nat} (hbd : ∀ i, i ≤ n → ld i ≤ n) {k i : Nat} (hk : 1 ≤ k) (hi : i < n) (h : (Nat → Nat) → Option (Nat × Nat)) (hh : ∀ g ∈ wys n ld k i, ∀ p, h g = some p → pnt ld k g = some p) : (wys n ld k i).filterMap h = (if (i, 1) ∈ (wys n ld k i).filterMap h then [(i, 1)] else []) ++ ((wys n ld k i).filterMap h).filter (fun p => decide (p ≠ (i, 1) ∧ p ≠ (i + 1, 1))) ++ (if (i + 1, 1) ∈ (wys n ld k i).filterMap h then [(i + 1, 1)] else []) := by
  have hne : ((i, 1) : Nat × Nat) ≠ (i + 1, 1) := by
    intro e
    have : i = i + 1 := congrArg Prod.fst e
    omega
  refine cut_ends hne (fun m => ?_) (fun m => ?_)
  · obtain ⟨pre, f, post, a1, a2, a3, a4, a5⟩ := wys_edge hbd (k := k) (i := i) (σ := 0) hk hi (by omega)
    have a4 := a4 rfl
    subst a4
    rw [List.nil_append] at a1 a3
    obtain ⟨g, g1, g2⟩ := List.mem_filterMap.mp m
    have no : ∀ g ∈ post, h g ≠ some (i, 1) := by
      intro g hg e
      have := (pnt_iff hk).mp (hh g (by rw [a1]; exact List.mem_cons_of_mem _ hg) _ e)
      exact a3 g hg this.2.2.2.1
    rw [a1] at g1 ⊢
    rcases List.mem_cons.mp g1 with e | e
    · rw [e] at g2
      refine ⟨post.filterMap h, List.filterMap_cons_some g2, fun q => ?_⟩
      obtain ⟨g', x, y⟩ := List.mem_filterMap.mp q
      exact no g' x y
    · exact absurd g2 (no g e)
  · obtain ⟨pre, f, post, a1, a2, a3, a4, a5⟩ := wys_edge hbd (k := k) (i := i) (σ := 1) hk hi (by omega)
    have a5 := a5 rfl
    subst a5
    rw [List.append_nil] at a3
    obtain ⟨g, g1, g2⟩ := List.mem_filterMap.mp m
    have no : ∀ g ∈ pre, h g ≠ some (i + 1, 1) := by
      intro g hg e
      have := (pnt_iff hk).mp (hh g (by rw [a1]; exact List.mem_append_left _ hg) _ e)
      exact a3 g hg this.2.2.2.1
    rw [a1] at g1 ⊢
    rcases List.mem_append.mp g1 with e | e
    · exact absurd g2 (no g e)
    · rw [List.mem_singleton.mp e] at g2
      refine ⟨pre.filterMap h, by rw [List.filterMap_append, List.filterMap_cons_some g2]; rfl, fun q => ?_⟩
      obtain ⟨g', x, y⟩ := List.mem_filterMap.mp q
      exact no g' x y
def xps (n : Nat) (ld : Nat → Nat) (k i : Nat) : List (Nat × Nat) := (wys n ld k i).filterMap (pnt ld k)
def inr (n : Nat) (ld : Nat → Nat) (k i : Nat) : List (Nat × Nat) := (xps n ld k i).filter (fun p => decide (p ≠ (i, 1) ∧ p ≠ (i + 1, 1)))
theorem xps_eq {n : Nat} {ld : Nat → Nat} (hbd : ∀ i, i ≤ n → ld i ≤ n) {k i : Nat} (hk : 1 ≤ k) (hi : i < n) : xps n ld k i = (if (i, 1) ∈ xps n ld k i then [(i, 1)] else []) ++ inr n ld k i ++ (if (i + 1, 1) ∈ xps n ld k i then [(i + 1, 1)] else []) := fm_ends hbd hk hi _ (fun _ _ _ h => h)
theorem pnt_at {n : Nat} {ld : Nat → Nat} {k i : Nat} (hk : 1 ≤ k) (hi : i < n) {g : Nat → Nat} (hg : g ∈ wys n ld k i) {p : Nat × Nat} (h : pnt ld k g = some p) : 0 < p.2 ∧ Nat.gcd p.1 p.2 = 1 ∧ i * p.2 ≤ p.1 ∧ p.1 ≤ (i + 1) * p.2 := by
  obtain ⟨a, b⟩ := p
  have s := (pnt_iff hk).mp h
  have o := s.2.2.2.1 0 (by omega)
  unfold onq at o
  rw [wV_0, (wys_ok hk hi hg).2] at o
  refine ⟨s.2.1, s.2.2.1, ?_, ?_⟩
  · have : ((i * b : Nat) : Int) ≤ (a : Int) := by rw [Int.natCast_mul]; exact o.1
    exact Int.ofNat_le.mp this
  · have : (a : Int) ≤ (((i + 1) * b : Nat) : Int) := by rw [Int.natCast_mul]; exact o.2
    exact Int.ofNat_le.mp this
theorem cor_eq {a b i : Nat} (hg : Nat.gcd a b = 1) (h : a = i * b) : (a, b) = (i, 1) := by
  have : b = 1 := by
    rw [h, Nat.gcd_mul_left_left] at hg
    exact hg
  rw [h, this, Nat.mul_one]
theorem inr_at {n : Nat} {ld : Nat → Nat} {k i : Nat} (hk : 1 ≤ k) (hi : i < n) {p : Nat × Nat} (h : p ∈ inr n ld k i) : ∃ g ∈ wys n ld k i, pnt ld k g = some p ∧ i * p.2 < p.1 ∧ p.1 < (i + 1) * p.2 := by
  obtain ⟨m, d⟩ := List.mem_filter.mp h
  have d := of_decide_eq_true d
  obtain ⟨g, g1, g2⟩ := List.mem_filterMap.mp m
  have a := pnt_at hk hi g1 g2
  refine ⟨g, g1, g2, ?_, ?_⟩
  · rcases Nat.lt_or_eq_of_le a.2.2.1 with q | q
    · exact q
    · exact absurd (cor_eq a.2.1 q.symm) d.1
  · rcases Nat.lt_or_eq_of_le a.2.2.2 with q | q
    · exact q
    · exact absurd (cor_eq a.2.1 q) d.2
/-- what lies between corners has one way -/
theorem one_way {n : Nat} {ld : Nat → Nat} {k i : Nat} {g g' : Nat → Nat} (hk : 1 ≤ k) (hp : pok n ld g (k - 1)) (hp' : pok n ld g' (k - 1)) {a b : Int} (hb : 0 < b) (h1 : (i : Int) * b < a) (h2 : a < ((i : Int) + 1) * b) (o : ∀ q, q < k → onq ld g a b q) (o' : ∀ q, q < k → onq ld g' a b q) (hv : wV ld g a b k = a) : g = g' := by
  have nx : ∀ q x, wV ld g a b q = x * b → ∃ y, wV ld g a b (q + 1) = y * b := fun q x h => ⟨sl ld (g q) * (x - g q) + ld (g q), by rw [wV_s, h]; grind⟩
  have all : ∀ r q, q + r = k → (∃ x, wV ld g a b q = x * b) → False := by
    intro r
    induction r with
    | zero =>
      intro q hq hx
      obtain ⟨x, hx⟩ := hx
      rw [show q = k by omega, hv] at hx
      rw [hx] at h1 h2
      have l1 := Int.lt_of_mul_lt_mul_right h1 (by omega)
      have l2 := Int.lt_of_mul_lt_mul_right h2 (by omega)
      omega
    | succ r ih =>
      intro q hq hx
      obtain ⟨x, hx⟩ := hx
      exact ih (q + 1) (by omega) (nx q x hx)
  have key : ∀ q, q < k → ∀ x, x ≤ q → g x = g' x := by
    intro q
    induction q with
    | zero =>
      intro _ x hx
      have a1 := o 0 (by omega)
      have a2 := o' 0 (by omega)
      unfold onq at a1 a2
      rw [wV_0] at a1 a2
      have n1 : ∀ y : Int, a ≠ y * b := fun y e => all k 0 (by omega) ⟨y, by rw [wV_0]; exact e⟩
      have z1 := n1 (g 0 : Int)
      have z2 := n1 (g' 0 : Int)
      have b1 : (g 0 : Int) * b < ((g' 0 : Int) + 1) * b := by omega
      have b2 : (g' 0 : Int) * b < ((g 0 : Int) + 1) * b := by omega
      have l1 := Int.lt_of_mul_lt_mul_right b1 (by omega)
      have l2 := Int.lt_of_mul_lt_mul_right b2 (by omega)
      rw [show x = 0 by omega]
      omega
    | succ q ih =>
      intro hq x hx
      have ih := ih (by omega)
      by_cases c : x = q + 1
      · have a1 := o (q + 1) hq
        have a2 := o' (q + 1) hq
        unfold onq at a1 a2
        rw [← wV_c (sp := g) (sp' := g') (m := q + 1) (fun y hy => ih y (by omega))] at a2
        have n1 : ∀ y : Int, wV ld g a b (q + 1) ≠ y * b := fun y e => all (k - (q + 1)) (q + 1) (by omega) ⟨y, e⟩
        have z1 := n1 (g (q + 1) : Int)
        have z2 := n1 (g' (q + 1) : Int)
        have b1 : (g (q + 1) : Int) * b < ((g' (q + 1) : Int) + 1) * b := by omega
        have b2 : (g' (q + 1) : Int) * b < ((g (q + 1) : Int) + 1) * b := by omega
        have l1 := Int.lt_of_mul_lt_mul_right b1 (by omega)
        have l2 := Int.lt_of_mul_lt_mul_right b2 (by omega)
        rw [c]
        omega
      · exact ih x (by omega)
  funext q
  by_cases c : q < k
  · exact key q c q (Nat.le_refl _)
  · rw [hp.2.1 q (by omega), hp'.2.1 q (by omega)]
theorem in_cast {i : Nat} {p : Nat × Nat} (h1 : i * p.2 < p.1) (h2 : p.1 < (i + 1) * p.2) : (i : Int) * (p.2 : Int) < (p.1 : Int) ∧ (p.1 : Int) < ((i : Int) + 1) * (p.2 : Int) := by
  have e1 : ((i * p.2 : Nat) : Int) = (i : Int) * (p.2 : Int) := Int.natCast_mul _ _
  have e2 : (((i + 1) * p.2 : Nat) : Int) = ((i : Int) + 1) * (p.2 : Int) := Int.natCast_mul _ _
  omega
theorem inr_nd {n : Nat} {ld : Nat → Nat} {k i : Nat} (hk : 1 ≤ k) (hi : i < n) : (inr n ld k i).Nodup := by
  unfold inr xps List.Nodup
  rw [List.pairwise_filter, List.pairwise_filterMap]
  refine List.Pairwise.imp_of_mem (R := fun a b => a ≠ b) ?_ (wys_nd (ld := ld) (k := k) hi)
  intro g g' hg hg' hne p hp p' hp' d d' e
  subst e
  have m : p ∈ inr n ld k i := List.mem_filter.mpr ⟨List.mem_filterMap.mpr ⟨g, hg, hp⟩, d⟩
  obtain ⟨-, -, -, b1, b2⟩ := inr_at hk hi m
  obtain ⟨c1, c2⟩ := in_cast b1 b2
  have s := (pnt_iff hk).mp hp
  have s' := (pnt_iff hk).mp hp'
  have : (0 : Int) < (p.2 : Int) := by have := s.2.1; omega
  exact hne (one_way hk (wys_ok hk hi hg).1 (wys_ok hk hi hg').1 this c1 c2 s.2.2.2.1 s'.2.2.2.1 s.2.2.2.2)
end
section
/-! ===== mathematics of rounds: the list of the rounds ===== -/
theorem fold_new : ∀ (Y A : List (Nat × Nat)), Y.Nodup → (∀ y ∈ Y, y ∉ A) → Y.foldl apd A = A ++ Y
  | [], A, _, _ => (List.append_nil A).symm
  | y :: Y, A, hn, hd => by
    obtain ⟨n1, n2⟩ := List.nodup_cons.mp hn
    have e : apd A y = A ++ [y] := by
      unfold apd
      exact if_neg (fun q => hd y (List.mem_cons_self ..) (List.mem_of_getLast? q))
    rw [List.foldl_cons, e, fold_new Y (A ++ [y]) n2 (fun z hz q => ?_), List.append_assoc]
    · rfl
    · rcases List.mem_append.mp q with q | q
      · exact hd z (List.mem_cons_of_mem _ hz) q
      · rw [List.mem_singleton.mp q] at hz; exact n1 hz
def lsL (n : Nat) (ld : Nat → Nat) (k m : Nat) : List (Nat × Nat) := ((List.range m).flatMap (xps n ld k)).foldl apd []
theorem fnd_L {n : Nat} {ld : Nat → Nat} {k : Nat} (hk : 1 ≤ k) : (fnd n ld k n).1 = lsL n ld k n := by
  rw [fnd_wal n ld hk, fold_sp]
  show List.foldl apd [] _ = _
  unfold lsL wal xps
  rw [List.filterMap_flatMap]
theorem xps_at {n : Nat} {ld : Nat → Nat} {k i : Nat} (hk : 1 ≤ k) (hi : i < n) {p : Nat × Nat} (h : p ∈ xps n ld k i) : 0 < p.2 ∧ Nat.gcd p.1 p.2 = 1 ∧ i * p.2 ≤ p.1 ∧ p.1 ≤ (i + 1) * p.2 := by
  obtain ⟨g, a, b⟩ := List.mem_filterMap.mp h
  exact pnt_at hk hi a b
theorem lsL_s {n : Nat} {ld : Nat → Nat} (hbd : ∀ i, i ≤ n → ld i ≤ n) {k : Nat} (hk : 1 ≤ k) : ∀ m, m ≤ n →
    (lsL n ld k m).Nodup ∧ (∀ p, p ∈ lsL n ld k m ↔ ∃ i, i < m ∧ p ∈ xps n ld k i) ∧ (∀ p ∈ lsL n ld k m, 0 < p.2 ∧ p.1 ≤ m * p.2) ∧ ((m, 1) ∈ lsL n ld k m → (lsL n ld k m).getLast? = some (m, 1)) ∧
    (m < n → lsL n ld k (m + 1) = (if (m, 1) ∈ lsL n ld k m then lsL n ld k m else lsL n ld k m ++ (if (m, 1) ∈ xps n ld k m then [(m, 1)] else [])) ++ inr n ld k m ++ (if (m + 1, 1) ∈ xps n ld k m then [(m + 1, 1)] else [])) := by
  intro m
  -- the step, out of what holds before
  have step : ∀ m, m < n → (lsL n ld k m).Nodup → (∀ p ∈ lsL n ld k m, 0 < p.2 ∧ p.1 ≤ m * p.2) → ((m, 1) ∈ lsL n ld k m → (lsL n ld k m).getLast? = some (m, 1)) →
      (lsL n ld k (m + 1) = (if (m, 1) ∈ lsL n ld k m then lsL n ld k m else lsL n ld k m ++ (if (m, 1) ∈ xps n ld k m then [(m, 1)] else [])) ++ inr n ld k m ++ (if (m + 1, 1) ∈ xps n ld k m then [(m + 1, 1)] else [])) ∧ (lsL n ld k (m + 1)).Nodup := by
    intro m hm hnd hle hla
    have e0 : lsL n ld k (m + 1) = (xps n ld k m).foldl apd (lsL n ld k m) := by
      unfold lsL
      rw [List.range_succ, List.flatMap_append, List.foldl_append, List.flatMap_cons, List.flatMap_nil, List.append_nil]
    obtain ⟨B, eB⟩ : ∃ B, B = (if (m, 1) ∈ lsL n ld k m then lsL n ld k m else lsL n ld k m ++ (if (m, 1) ∈ xps n ld k m then [(m, 1)] else [])) := ⟨_, rfl⟩
    have e1 : (if (m, 1) ∈ xps n ld k m then [((m, 1) : Nat × Nat)] else []).foldl apd (lsL n ld k m) = B := by
      rw [eB]
      by_cases c : (m, 1) ∈ xps n ld k m
      · rw [if_pos c]
        show apd (lsL n ld k m) (m, 1) = _
        unfold apd
        by_cases c2 : (m, 1) ∈ lsL n ld k m
        · rw [if_pos (hla c2), if_pos c2]
        · rw [if_neg (fun q => c2 (List.mem_of_getLast? q)), if_neg c2]
      · rw [if_neg c, List.append_nil, ite_self]
        rfl
    have Bm : ∀ p ∈ B, 0 < p.2 ∧ p.1 ≤ m * p.2 := by
      intro p hp
      rw [eB] at hp
      split at hp
      · exact hle p hp
      · rcases List.mem_append.mp hp with q | q
        · exact hle p q
        · split at q
          · rw [List.mem_singleton.mp q]
            exact ⟨Nat.one_pos, by show m ≤ m * 1; omega⟩
          · cases q
    have Bn : B.Nodup := by
      rw [eB]
      by_cases c2 : (m, 1) ∈ lsL n ld k m
      · rw [if_pos c2]; exact hnd
      · rw [if_neg c2]
        refine List.nodup_append.mpr ⟨hnd, by split <;> simp, fun a ha b hb e => ?_⟩
        split at hb
        · rw [List.mem_singleton.mp hb] at e
          rw [e] at ha
          exact c2 ha
        · cases hb
    have rest : (inr n ld k m ++ (if (m + 1, 1) ∈ xps n ld k m then [((m + 1, 1) : Nat × Nat)] else [])).Nodup := by
      refine List.nodup_append.mpr ⟨inr_nd hk hm, by split <;> simp, fun a ha b hb e => ?_⟩
      split at hb
      · rw [List.mem_singleton.mp hb] at e
        obtain ⟨g, -, -, -, h2⟩ := inr_at hk hm ha
        rw [e] at h2
        exact absurd h2 (by show ¬ m + 1 < (m + 1) * 1; omega)
      · cases hb
    have new : ∀ y ∈ inr n ld k m ++ (if (m + 1, 1) ∈ xps n ld k m then [((m + 1, 1) : Nat × Nat)] else []), y ∉ B := by
      intro y hy q
      have b := Bm y q
      rcases List.mem_append.mp hy with z | z
      · obtain ⟨g, -, -, h1, -⟩ := inr_at hk hm z
        omega
      · split at z
        · rw [List.mem_singleton.mp z] at b
          have b2 : m + 1 ≤ m * 1 := b.2
          omega
        · cases z
    have e2 : lsL n ld k (m + 1) = B ++ (inr n ld k m ++ (if (m + 1, 1) ∈ xps n ld k m then [((m + 1, 1) : Nat × Nat)] else [])) := by
      have xe := congrArg (fun Z => List.foldl apd (lsL n ld k m) Z) (xps_eq hbd hk hm)
      refine e0.trans (xe.trans ?_)
      show List.foldl apd (lsL n ld k m) (_ ++ _ ++ _) = _
      rw [List.append_assoc, List.foldl_append, e1]
      exact fold_new _ _ rest new
    refine ⟨by rw [e2, eB, List.append_assoc], ?_⟩
    rw [e2]
    exact List.nodup_append.mpr ⟨Bn, rest, fun a ha b hb e => new b hb (e ▸ ha)⟩
  induction m with
  | zero =>
    intro hm
    have z : ∀ p, p ∉ lsL n ld k 0 := fun p q => by cases q
    have z1 : (lsL n ld k 0).Nodup := List.nodup_nil
    have z2 : ∀ p ∈ lsL n ld k 0, 0 < p.2 ∧ p.1 ≤ 0 * p.2 := fun p hp => absurd hp (z p)
    have z3 : (0, 1) ∈ lsL n ld k 0 → (lsL n ld k 0).getLast? = some (0, 1) := fun q => absurd q (z _)
    exact ⟨z1, fun p => ⟨fun q => absurd q (z p), fun ⟨i, a, _⟩ => by omega⟩, z2, z3, fun h => (step 0 h z1 z2 z3).1⟩
  | succ m ih =>
    intro hm
    obtain ⟨i1, i2, i3, i4, i5⟩ := ih (by omega)
    have i5 := i5 (by omega)
    have nd := (step m (by omega) i1 i3 i4).2
    have mem : ∀ p, p ∈ lsL n ld k (m + 1) ↔ ∃ i, i < m + 1 ∧ p ∈ xps n ld k i := by
      intro p
      have xe := xps_eq hbd hk (show m < n by omega)
      have hx : p ∈ xps n ld k m ↔ (p = (m, 1) ∧ (m, 1) ∈ xps n ld k m) ∨ p ∈ inr n ld k m ∨ (p = (m + 1, 1) ∧ (m + 1, 1) ∈ xps n ld k m) := by
        rw [show (p ∈ xps n ld k m) = (p ∈ (if (m, 1) ∈ xps n ld k m then [(m, 1)] else []) ++ inr n ld k m ++ (if (m + 1, 1) ∈ xps n ld k m then [(m + 1, 1)] else [])) from congrArg (p ∈ ·) xe]
        rw [List.append_assoc, List.mem_append, List.mem_append]
        have ia : ∀ x : Nat × Nat, p ∈ (if x ∈ xps n ld k m then [x] else []) ↔ p = x ∧ x ∈ xps n ld k m := by
          intro x
          split
          next c => exact ⟨fun q => ⟨List.mem_singleton.mp q, c⟩, fun q => List.mem_singleton.mpr q.1⟩
          next c => exact ⟨(fun q => by cases q), fun q => absurd q.2 c⟩
        rw [ia, ia]
      rw [i5, List.append_assoc, List.mem_append, List.mem_append]
      have ib : ∀ x : Nat × Nat, p ∈ (if x ∈ xps n ld k m then [x] else []) ↔ p = x ∧ x ∈ xps n ld k m := by
        intro x
        split
        next c => exact ⟨fun q => ⟨List.mem_singleton.mp q, c⟩, fun q => List.mem_singleton.mpr q.1⟩
        next c => exact ⟨(fun q => by cases q), fun q => absurd q.2 c⟩
      rw [ib]
      have hB : p ∈ (if (m, 1) ∈ lsL n ld k m then lsL n ld k m else lsL n ld k m ++ (if (m, 1) ∈ xps n ld k m then [(m, 1)] else [])) ↔ p ∈ lsL n ld k m ∨ (p = (m, 1) ∧ (m, 1) ∈ xps n ld k m) := by
        split
        next c => exact ⟨fun q => Or.inl q, fun q => q.elim id (fun z => by rw [z.1]; exact c)⟩
        next c => rw [List.mem_append, ib]
      rw [hB, i2 p]
      refine ⟨fun q => ?_, fun q => ?_⟩
      · rcases q with (⟨i, a, b⟩ | q) | q | q
        · exact ⟨i, by omega, b⟩
        · exact ⟨m, by omega, hx.mpr (Or.inl q)⟩
        · exact ⟨m, by omega, hx.mpr (Or.inr (Or.inl q))⟩
        · exact ⟨m, by omega, hx.mpr (Or.inr (Or.inr q))⟩
      · obtain ⟨i, a, b⟩ := q
        by_cases c : i = m
        · rw [c] at b
          rcases hx.mp b with z | z | z
          · exact Or.inl (Or.inr z)
          · exact Or.inr (Or.inl z)
          · exact Or.inr (Or.inr z)
        · exact Or.inl (Or.inl ⟨i, by omega, b⟩)
    have le : ∀ p ∈ lsL n ld k (m + 1), 0 < p.2 ∧ p.1 ≤ (m + 1) * p.2 := by
      intro p hp
      obtain ⟨i, a, b⟩ := (mem p).mp hp
      have x := xps_at hk (by omega) b
      exact ⟨x.1, Nat.le_trans x.2.2.2 (Nat.mul_le_mul_right _ (by omega))⟩
    have la : (m + 1, 1) ∈ lsL n ld k (m + 1) → (lsL n ld k (m + 1)).getLast? = some (m + 1, 1) := by
      intro q
      obtain ⟨i, a, b⟩ := (mem _).mp q
      have x := xps_at hk (by omega) b
      have x4 : m + 1 ≤ (i + 1) * 1 := x.2.2.2
      have ei : i = m := by omega
      rw [ei] at b
      rw [i5, if_pos b]
      exact List.getLast?_concat
    exact ⟨nd, mem, le, la, fun h => (step (m + 1) h nd le la).1⟩
end
section
/-! ===== mathematics of rounds: closed ways, counted and found ===== -/
def clb (ld : Nat → Nat) (k : Nat) (g : Nat → Nat) : Bool := decide (wS ld g (k - 1) ≠ 0) && cov ld (g (k - 1)) (g 0)
theorem clb_iff {ld : Nat → Nat} {k : Nat} {g : Nat → Nat} : clb ld k g = true ↔ clo ld k g := by
  unfold clb clo
  rw [Bool.and_eq_true, decide_eq_true_iff]
def cls (n : Nat) (ld : Nat → Nat) (k i : Nat) : List (Nat → Nat) := (wys n ld k i).filter (clb ld k)
theorem sumN_0 {n : Nat} {f : Nat → Nat} (h : ∀ i, i < n → f i = 0) : sumN n f = 0 := by
  induction n with
  | zero => rfl
  | succ n ih =>
    show sumN n f + f n = 0
    rw [ih (fun i hi => h i (by omega)), h n (by omega)]
theorem sumN_e {n : Nat} {f f' : Nat → Nat} (h : ∀ i, i < n → f i = f' i) : sumN n f = sumN n f' := by
  induction n with
  | zero => rfl
  | succ n ih =>
    show sumN n f + f n = sumN n f' + f' n
    rw [ih (fun i hi => h i (by omega)), h n (by omega)]
theorem sumN_1 {n : Nat} {f : Nat → Nat} {x : Nat} (hx : x < n) (h : ∀ i, i < n → i ≠ x → f i = 0) : sumN n f = f x := by
  induction n with
  | zero => omega
  | succ n ih =>
    show sumN n f + f n = f x
    by_cases c : x = n
    · rw [c, sumN_0 (fun i hi => h i (by omega) (by omega)), Nat.zero_add]
    · rw [ih (by omega) (fun i hi hn => h i (by omega) hn), h n (by omega) (fun e => c e.symm), Nat.add_zero]
theorem sumN_f (f : Nat → Nat) : ∀ n, sumN (n + 1) f = f 0 + sumN n (fun i => f (i + 1))
  | 0 => by show 0 + f 0 = f 0 + 0; omega
  | n + 1 => by
    show sumN (n + 1) f + f (n + 1) = f 0 + (sumN n (fun i => f (i + 1)) + f (n + 1))
    rw [sumN_f f n]; omega
theorem sumN_r (f : Nat → Nat) : ∀ n, sumN n (fun i => f (n - 1 - i)) = sumN n f
  | 0 => rfl
  | n + 1 => by
    rw [sumN_f]
    show f (n + 1 - 1 - 0) + _ = sumN n f + f n
    rw [show n + 1 - 1 - 0 = n by omega, ← sumN_r f n, Nat.add_comm]
    congr 1
    exact sumN_e (fun i hi => by rw [show n + 1 - 1 - (i + 1) = n - 1 - i by omega])
theorem sumN_j {n : Nat} {s : Int} (f : Nat → Nat) : sumN n (fun i => f (jth n s i)) = sumN n f := by
  by_cases c : 0 < s
  · exact sumN_e (fun i _ => by unfold jth; rw [if_pos c])
  · rw [← sumN_r f n]
    exact sumN_e (fun i _ => by unfold jth; rw [if_neg c])
theorem len_fm {α : Type} (F : Nat → List α) : ∀ n, ((List.range n).flatMap F).length = sumN n (fun i => (F i).length)
  | 0 => rfl
  | n + 1 => by
    rw [List.range_succ, List.flatMap_append, List.length_append, len_fm F n, List.flatMap_cons, List.flatMap_nil, List.append_nil]
    rfl
theorem fil_fm {α : Type} {P : α → Bool} {F : Nat → List α} : ∀ l : List Nat, (l.flatMap F).filter P = l.flatMap (fun x => (F x).filter P)
  | [] => rfl
  | a :: l => by rw [List.flatMap_cons, List.filter_append, fil_fm l, List.flatMap_cons]
theorem cl_child {n : Nat} {ld : Nat → Nat} {k r d : Nat} {sp : Nat → Nat} (e : wS ld sp (d + 1) ≠ 0) : (lvs n ld (r + 1) d sp).filter (clb ld k) = (List.range n).flatMap (fun c => if cov ld (sp d) (jth n (wS ld sp (d + 1)) c) = true then (lvs n ld r (d + 1) (pst sp (d + 1) (jth n (wS ld sp (d + 1)) c))).filter (clb ld k) else []) := by
  conv => lhs; unfold lvs
  rw [if_neg e, fil_fm]
  congr 1
  funext c
  split <;> rfl
theorem cl_len {n : Nat} {ld : Nat → Nat} (hn : 1 ≤ n) {k : Nat} : ∀ (r d : Nat) (sp : Nat → Nat), d + r + 1 = k → pok n ld sp d → wS ld sp d ≠ 0 → ((lvs n ld r d sp).filter (clb ld k)).length = tp n ld (r + 1) (sp d) (sp 0)
  | 0, d, sp, hk, hp, hS => by
    have h0 := hp.1 0 (by omega)
    have e1 : tp n ld (0 + 1) (sp d) (sp 0) = if cov ld (sp d) (sp 0) = true then 1 else 0 := by
      show sumN n (fun b => if cov ld (sp d) b = true then (if b = sp 0 then 1 else 0) else 0) = _
      rw [sumN_1 h0 (fun i _ hi => by rw [if_neg hi, ite_self]), if_pos rfl]
    rw [e1]
    show (List.filter (clb ld k) [sp]).length = _
    have e2 : clb ld k sp = cov ld (sp d) (sp 0) := by
      unfold clb
      rw [show k - 1 = d by omega, decide_eq_true hS, Bool.true_and]
    by_cases c : cov ld (sp d) (sp 0) = true
    · rw [List.filter_cons_of_pos (by rw [e2]; exact c), if_pos c]; rfl
    · rw [List.filter_cons_of_neg (by rw [e2]; exact c), if_neg c]; rfl
  | r + 1, d, sp, hk, hp, hS => by
    by_cases e : wS ld sp (d + 1) = 0
    · have hs : sl ld (sp d) = 0 := by
        rcases Int.mul_eq_zero.mp (show sl ld (sp d) * wS ld sp d = 0 from e) with z | z
        · exact z
        · exact absurd z hS
      have e1 : tp n ld (r + 1 + 1) (sp d) (sp 0) = 0 := by
        show sumN n _ = 0
        refine sumN_0 (fun i _ => if_neg (fun q => sl_ne q hs))
      rw [e1, List.length_eq_zero_iff, List.filter_eq_nil_iff]
      intro g hg q
      have ok := lvs_ok hn (r + 1) d sp hp g hg
      refine wS_ne (clb_iff.mp q).1 (d + 1) (by omega) ?_
      rw [wS_c (sp' := sp) (d + 1) (fun x hx => ok.2 x (by omega))]
      exact e
    · rw [cl_child e, len_fm]
      show _ = sumN n (fun b => if cov ld (sp d) b = true then tp n ld (r + 1) b (sp 0) else 0)
      rw [← sumN_j (s := wS ld sp (d + 1)) (fun b => if cov ld (sp d) b = true then tp n ld (r + 1) b (sp 0) else 0)]
      refine sumN_e (fun i hi => ?_)
      by_cases c : cov ld (sp d) (jth n (wS ld sp (d + 1)) i) = true
      · rw [if_pos c, if_pos c, cl_len hn r (d + 1) _ (by omega) (hp.s (jth_lt hi) (fun _ => c) (fun z => absurd z e)) (by rw [wS_c (sp' := sp) _ (fun x hx => pst_n (by omega))]; exact e), pst_s, pst_n (by omega)]
      · rw [if_neg c, if_neg c]; rfl
theorem cls_len {n : Nat} {ld : Nat → Nat} {k i : Nat} (hk : 1 ≤ k) (hi : i < n) : (cls n ld k i).length = tp n ld k i i := by
  have := cl_len (by omega) (k := k) (k - 1) 0 (pst (fun _ => 0) 0 i) (by omega) (pok_0 (ld := ld) hi) (by show ¬ (1 : Int) = 0; decide)
  rw [pst_s, show k - 1 + 1 = k by omega] at this
  exact this
theorem nsf_sp {n : Nat} {ld : Nat → Nat} {c home rest : Nat} {up : Bool} {α : Type} {F : Nat → List α} {g : α} (hF : ∀ x, x < n → (F x).length = if cov ld c (if up = true then x else n - 1 - x) = true then tp n ld rest (if up = true then x else n - 1 - x) home else 0) : ∀ (r q : Nat) (t : Int), q + r = n → 0 ≤ t → ((List.range' q r).flatMap F)[t.toNat]? = some g → ∃ x t', x < n ∧ 0 ≤ t' ∧ nsf n ld c home rest up r q t = (((if up = true then x else n - 1 - x : Nat) : Int), t') ∧ (F x)[t'.toNat]? = some g
  | 0, q, t, hq, ht, h => by cases h
  | r + 1, q, t, hq, ht, h => by
    have hl := hF q (by omega)
    have hl : (if cov ld c (if up = true then q else n - 1 - q) = true then (tp n ld rest (if up = true then q else n - 1 - q) home : Int) else 0) = ((F q).length : Int) := by rw [hl]; generalize (if up = true then q else n - 1 - q) = y; split <;> rfl
    unfold nsf
    rw [hl]
    rw [List.range'_succ, List.flatMap_cons] at h
    by_cases c1 : t < ((F q).length : Int)
    · rw [if_pos c1]
      rw [List.getElem?_append_left (by omega)] at h
      exact ⟨q, t, by omega, ht, rfl, h⟩
    · rw [if_neg c1]
      rw [List.getElem?_append_right (by omega)] at h
      exact nsf_sp hF r (q + 1) (t - (F q).length) (by omega) (by omega) (by rw [show (t - ((F q).length : Int)).toNat = t.toNat - (F q).length by omega]; exact h)
theorem wkf_sp {n : Nat} {ld : Nat → Nat} (hn : 1 ≤ n) {k : Nat} {g : Nat → Nat} : ∀ (r d : Nat) (sp : Nat → Nat) (t : Int), d + r + 1 = k → pok n ld sp d → wS ld sp d ≠ 0 → 0 ≤ t → ((lvs n ld r d sp).filter (clb ld k))[t.toNat]? = some g → wkf n ld (sp 0) (r + 1) (sp d) (wS ld sp d) (wT ld sp d) t = stl (wT ld g k) (1 - wS ld g k)
  | 0, d, sp, t, hk, hp, hS, ht, h => by
    have h0 := hp.1 0 (by omega)
    have hm := List.mem_of_getElem? h
    obtain ⟨m1, m2⟩ := List.mem_filter.mp hm
    have eg : g = sp := List.mem_singleton.mp m1
    subst eg
    have e2 := (clb_iff.mp m2).2
    rw [show k - 1 = d by omega] at e2
    have t0 : t.toNat = 0 := by
      have hl : t.toNat < ((lvs n ld 0 d g).filter (clb ld k)).length := by
        rcases Nat.lt_or_ge t.toNat ((lvs n ld 0 d g).filter (clb ld k)).length with q | q
        · exact q
        · rw [List.getElem?_eq_none q] at h; cases h
      have : ((lvs n ld 0 d g).filter (clb ld k)).length ≤ 1 := List.length_filter_le _ _
      omega
    obtain ⟨up, eup⟩ : ∃ up, up = decide (0 < wS ld g d * sl ld (g d)) := ⟨_, rfl⟩
    obtain ⟨x0, hx0, ex0⟩ : ∃ x0, x0 < n ∧ (if up = true then x0 else n - 1 - x0) = g 0 := by
      by_cases c : up = true
      · exact ⟨g 0, h0, if_pos c⟩
      · exact ⟨n - 1 - g 0, by omega, by rw [if_neg c]; omega⟩
    have key := nsf_sp (n := n) (ld := ld) (c := g d) (home := g 0) (rest := 0) (up := up) (F := fun x => if cov ld (g d) (if up = true then x else n - 1 - x) = true ∧ (if up = true then x else n - 1 - x) = g 0 then [g] else []) (g := g) (fun x hx => by
      show (if _ then [g] else []).length = if _ then (if _ = _ then 1 else 0) else 0
      by_cases c1 : cov ld (g d) (if up = true then x else n - 1 - x) = true
      · by_cases c2 : (if up = true then x else n - 1 - x) = g 0
        · rw [if_pos ⟨c1, c2⟩, if_pos c1, if_pos c2]; rfl
        · rw [if_neg (fun q => c2 q.2), if_pos c1, if_neg c2]; rfl
      · rw [if_neg (fun q => c1 q.1), if_neg c1]; rfl) n 0 t (by omega) ht (by
      rw [t0, ← List.range_eq_range', range_split hx0, List.flatMap_append, List.flatMap_cons, if_pos ⟨by rw [ex0]; exact e2, ex0⟩]
      rw [show (List.range x0).flatMap _ = [] from List.flatMap_eq_nil_iff.mpr (fun x hx => if_neg (fun q => by
        have := List.mem_range.mp hx
        have q2 := q.2
        rw [← ex0] at q2
        split at q2 <;> omega))]
      rfl)
    obtain ⟨x, t', k1, k2, k3, k4⟩ := key
    have k5 : (if up = true then x else n - 1 - x) = g 0 := by
      by_cases c : cov ld (g d) (if up = true then x else n - 1 - x) = true ∧ (if up = true then x else n - 1 - x) = g 0
      · exact c.2
      · rw [if_neg c] at k4; cases k4
    unfold wkf
    rw [← eup, k3]
    rw [if_neg (by show ¬ (_ : Int) = -1; omega)]
    show wkf n ld (g 0) 0 _ _ _ _ = _
    unfold wkf
    rw [show k = d + 1 by omega]
    show stl (sl ld (g d) * wT ld g d + ld (g d) - sl ld (g d) * g d) (1 - wS ld g d * sl ld (g d)) = stl (nT ld (g d) (wT ld g d)) (1 - sl ld (g d) * wS ld g d)
    rw [Int.mul_comm (wS ld g d)]
    rfl
  | r + 1, d, sp, t, hk, hp, hS, ht, h => by
    by_cases e : wS ld sp (d + 1) = 0
    · exfalso
      have hm := List.mem_of_getElem? h
      obtain ⟨m1, m2⟩ := List.mem_filter.mp hm
      have ok := lvs_ok hn (r + 1) d sp hp g m1
      refine wS_ne (clb_iff.mp m2).1 (d + 1) (by omega) ?_
      rw [wS_c (sp' := sp) (d + 1) (fun x hx => ok.2 x (by omega))]
      exact e
    · rw [cl_child e, List.range_eq_range'] at h
      have eup : decide (0 < wS ld sp d * sl ld (sp d)) = decide (0 < wS ld sp (d + 1)) := by rw [Int.mul_comm]; rfl
      have ech : ∀ x, (if decide (0 < wS ld sp d * sl ld (sp d)) = true then x else n - 1 - x) = jth n (wS ld sp (d + 1)) x := by
        intro x
        rw [eup]
        unfold jth
        by_cases c : 0 < wS ld sp (d + 1)
        · rw [if_pos c, if_pos (decide_eq_true c)]
        · rw [if_neg c, if_neg (by rw [decide_eq_false c]; decide)]
      have eS : ∀ j, wS ld (pst sp (d + 1) j) (d + 1) = wS ld sp (d + 1) := fun j => wS_c _ (fun x hx => pst_n (by omega))
      have eT : ∀ j, wT ld (pst sp (d + 1) j) (d + 1) = wT ld sp (d + 1) := fun j => wT_c _ (fun x hx => pst_n (by omega))
      obtain ⟨x, t', k1, k2, k3, k4⟩ := nsf_sp (n := n) (ld := ld) (c := sp d) (home := sp 0) (rest := r + 1) (up := decide (0 < wS ld sp d * sl ld (sp d))) (fun x hx => by
        rw [ech]
        by_cases c : cov ld (sp d) (jth n (wS ld sp (d + 1)) x) = true
        · rw [if_pos c, if_pos c, cl_len hn r (d + 1) _ (by omega) (hp.s (jth_lt hx) (fun _ => c) (fun z => absurd z e)) (by rw [eS]; exact e), pst_s, pst_n (by omega)]
        · rw [if_neg c, if_neg c]; rfl) n 0 t (by omega) ht h
      rw [ech] at k3
      by_cases c : cov ld (sp d) (jth n (wS ld sp (d + 1)) x) = true
      · rw [if_pos c] at k4
        have ih := wkf_sp hn r (d + 1) (pst sp (d + 1) (jth n (wS ld sp (d + 1)) x)) t' (by omega) (hp.s (jth_lt k1) (fun _ => c) (fun z => absurd z e)) (by rw [eS]; exact e) k2 k4
        rw [eS, eT, pst_s, pst_n (by omega)] at ih
        unfold wkf
        rw [k3, if_neg (by show ¬ (_ : Int) = -1; omega)]
        rw [← ih, Int.toNat_natCast]
        rw [Int.mul_comm (wS ld sp d)]
        rfl
      · rw [if_neg c] at k4; cases k4
theorem wkf_cls {n : Nat} {ld : Nat → Nat} {k i : Nat} (hk : 1 ≤ k) (hi : i < n) {g : Nat → Nat} {t : Int} (ht : 0 ≤ t) (h : (cls n ld k i)[t.toNat]? = some g) : wkf n ld i k i 1 0 t = stl (wT ld g k) (1 - wS ld g k) := by
  have := wkf_sp (by omega) (k := k) (k - 1) 0 (pst (fun _ => 0) 0 i) t (by omega) (pok_0 (ld := ld) hi) (by show ¬ (1 : Int) = 0; decide) ht h
  rw [pst_s, show k - 1 + 1 = k by omega] at this
  exact this
end
