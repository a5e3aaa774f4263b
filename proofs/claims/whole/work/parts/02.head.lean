/-! ===== BEGIN words of one list among another's, by their places ===== -/
theorem goodIn_r {big : List Cond} (ws : List Cond) (ps : List Nat) (hp : ws = ps.filterMap (fun i => big[i]?)) (h : ws.all goodWord = true) : GoodIn big ws := by
  intro w hw
  have h1 := List.all_eq_true.mp h w hw
  rw [hp] at hw
  obtain ⟨i, -, hi⟩ := List.mem_filterMap.mp hw
  have hm : w ∈ big := by first | exact List.mem_of_getElem? hi | exact List.getElem?_mem hi
  exact ⟨hm, good_of_word h1⟩
theorem goodIn_app {big a b : List Cond} (ha : GoodIn big a) (hb : GoodIn big b) : GoodIn big (a ++ b) := fun w h => (List.mem_append.mp h).elim (ha w) (hb w)
theorem goodIn_ca {big a b : List Cond} {c : Cond} (ha : GoodIn big (c :: a)) (hb : GoodIn big b) : GoodIn big (c :: (a ++ b)) := fun w h => (List.mem_cons.mp h).elim (fun e => ha w (List.mem_cons.mpr (Or.inl e))) (fun h => (List.mem_append.mp h).elim (fun h => ha w (List.mem_cons.mpr (Or.inr h))) (hb w))
theorem goodIn_sub {big ws : List Cond} (hm : ∀ w ∈ ws, w ∈ big) (h : ws.all goodWord = true) : GoodIn big ws := fun w hw => ⟨hm w hw, good_of_word (List.all_eq_true.mp h w hw)⟩
/-! ===== END ===== -/

def RX0 : String := "SpanMaps$Fold"
def TX0 : u_T := fun k => match k with
  | 0 => ("SpanMaps$Fold", "pieces", "I", false)
  | _ => ("SpanMaps$Fold", "led", "[I", true)
def tyX0 : Nat → FieldType := fun k => match k with
  | 0 => .int
  | _ => .array .int
abbrev wsX00 : List Cond := u_ws RX0 TX0 2
theorem nmX0 : ∀ a, a < 2 → ∀ b, b < 2 → a ≠ b → (TX0 a).2.1 ≠ (TX0 b).2.1 := by decide +kernel
theorem tyX0_ok : ∀ k, k < 2 → parseFieldDescriptor (TX0 k).2.2.1 = some (tyX0 k) := by decide +kernel
def RX1 : String := "SpanMaps$Powers"
def TX1 : u_T := fun k => match k with
  | 0 => ("SpanMaps$Powers", "rows", "[[J", true)
  | _ => ("SpanMaps$Powers", "spans", "I", false)
def tyX1 : Nat → FieldType := fun k => match k with
  | 0 => .array (.array .long)
  | _ => .int
abbrev wsX10 : List Cond := u_ws RX1 TX1 2
theorem nmX1 : ∀ a, a < 2 → ∀ b, b < 2 → a ≠ b → (TX1 a).2.1 ≠ (TX1 b).2.1 := by decide +kernel
theorem tyX1_ok : ∀ k, k < 2 → parseFieldDescriptor (TX1 k).2.2.1 = some (tyX1 k) := by decide +kernel
def RX2 : String := "SpanMaps$Returns"
def TX2 : u_T := fun k => match k with
  | 0 => ("SpanMaps$Returns", "powers", "LSpanMaps$Powers;", true)
  | 1 => ("SpanMaps$Returns", "cornerPeriod", "[I", true)
  | 2 => ("SpanMaps$Returns", "edgePeriod", "[I", true)
  | 3 => ("SpanMaps$Returns", "edgeStill", "[Z", true)
  | 4 => ("SpanMaps$Returns", "newWays", "[J", true)
  | 5 => ("SpanMaps$Returns", "spans", "I", false)
  | 6 => ("SpanMaps$Returns", "toPass", "J", false)
  | 7 => ("SpanMaps$Returns", "foundAbove", "J", false)
  | _ => ("SpanMaps$Returns", "foundBelow", "J", false)
def tyX2 : Nat → FieldType := fun k => match k with
  | 0 => .object "SpanMaps$Powers"
  | 1 => .array .int
  | 2 => .array .int
  | 3 => .array .boolean
  | 4 => .array .long
  | 5 => .int
  | 6 => .long
  | 7 => .long
  | _ => .long
abbrev wsX20 : List Cond := u_ws RX2 TX2 9
theorem nmX2 : ∀ a, a < 9 → ∀ b, b < 9 → a ≠ b → (TX2 a).2.1 ≠ (TX2 b).2.1 := by decide +kernel
theorem tyX2_ok : ∀ k, k < 9 → parseFieldDescriptor (TX2 k).2.2.1 = some (tyX2 k) := by decide +kernel
def RX3 : String := "SpanMaps"
def TX3 : u_T := fun k => match k with
  | 0 => ("SpanMaps", "folds", "[LSpanMaps$Fold;", true)
  | 1 => ("SpanMaps", "powers", "LSpanMaps$Powers;", true)
  | _ => ("SpanMaps", "returns", "LSpanMaps$Returns;", true)
def tyX3 : Nat → FieldType := fun k => match k with
  | 0 => .array (.object "SpanMaps$Fold")
  | 1 => .object "SpanMaps$Powers"
  | _ => .object "SpanMaps$Returns"
abbrev wsX30 : List Cond := u_ws RX3 TX3 3
theorem nmX3 : ∀ a, a < 3 → ∀ b, b < 3 → a ≠ b → (TX3 a).2.1 ≠ (TX3 b).2.1 := by decide +kernel
theorem tyX3_ok : ∀ k, k < 3 → parseFieldDescriptor (TX3 k).2.2.1 = some (tyX3 k) := by decide +kernel
def RX4 : String := "SpanMapsModel"
def TX4 : u_T := fun k => match k with
  | 0 => ("SpanMapsModel", "size", "[I", true)
  | 1 => ("SpanMapsModel", "led", "[I", true)
  | 2 => ("SpanMapsModel", "draft", "[I", true)
  | 3 => ("SpanMapsModel", "above", "J", false)
  | 4 => ("SpanMapsModel", "below", "J", false)
  | 5 => ("SpanMapsModel", "roundAbove", "[J", true)
  | 6 => ("SpanMapsModel", "roundBelow", "[J", true)
  | 7 => ("SpanMapsModel", "roundMany", "I", false)
  | 8 => ("SpanMapsModel", "endless", "Z", false)
  | 9 => ("SpanMapsModel", "endlessJust", "Z", false)
  | 10 => ("SpanMapsModel", "partS", "[J", true)
  | 11 => ("SpanMapsModel", "partT", "[J", true)
  | 12 => ("SpanMapsModel", "many", "[J", true)
  | 13 => ("SpanMapsModel", "next", "[J", true)
  | 14 => ("SpanMapsModel", "spans", "[I", true)
  | _ => ("SpanMapsModel", "tried", "[I", true)
def tyX4 : Nat → FieldType := fun k => match k with
  | 0 => .array .int
  | 1 => .array .int
  | 2 => .array .int
  | 3 => .long
  | 4 => .long
  | 5 => .array .long
  | 6 => .array .long
  | 7 => .int
  | 8 => .boolean
  | 9 => .boolean
  | 10 => .array .long
  | 11 => .array .long
  | 12 => .array .long
  | 13 => .array .long
  | 14 => .array .int
  | _ => .array .int
abbrev wsX40 : List Cond := u_ws RX4 TX4 16
theorem nmX4 : ∀ a, a < 16 → ∀ b, b < 16 → a ≠ b → (TX4 a).2.1 ≠ (TX4 b).2.1 := by decide +kernel
theorem tyX4_ok : ∀ k, k < 16 → parseFieldDescriptor (TX4 k).2.2.1 = some (tyX4 k) := by decide +kernel
def RJ9 : String := "java/lang/Math"
def RL : String := "SpanMapsLaw"
abbrev zCl : List vw_C := [(RX0, TX0, 2), (RX1, TX1, 2), (RX2, TX2, 9), (RX3, TX3, 3), (RX4, TX4, 16)]
