def RX0 : String := "DyeLamps$Bench"
def RX1 : String := "DyeLamps$Looks"
def RX2 : String := "DyeLamps$Olds"
def RX3 : String := "DyeLamps$Parser"
def RX4 : String := "DyeLamps$Search"
def RX5 : String := "DyeLamps$Shelf"
def RX6 : String := "DyeLamps$Tape"
def RX7 : String := "DyeLamps$Tokens"
def RX8 : String := "DyeLamps$Vat"
def RX9 : String := "DyeLamps$Walk"
def RX10 : String := "DyeLamps"
def RX11 : String := "DyeLampsModel"
def RJ6 : String := "java/lang/Integer"
def RJ9 : String := "java/lang/Math"
def RJ0 : String := "java/lang/String"
def RJ1 : String := "java/lang/StringLatin1"
def RJ2 : String := "java/lang/StringUTF16"
def RJ7 : String := "java/util/Arrays"
def RJ3 : String := "jdk/internal/util/Preconditions"
def RL : String := "DyeLampsLaw"
def TX0 : u_T := fun k => match k with
  | 0 => ("DyeLamps$Bench", "dyes", "LDyeLamps$Shelf;", true)
  | 1 => ("DyeLamps$Bench", "grounds", "LDyeLamps$Shelf;", true)
  | 2 => ("DyeLamps$Bench", "lamps", "LDyeLamps$Shelf;", true)
  | 3 => ("DyeLamps$Bench", "eyes", "LDyeLamps$Shelf;", true)
  | 4 => ("DyeLamps$Bench", "goods", "LDyeLamps$Shelf;", true)
  | 5 => ("DyeLamps$Bench", "prices", "[I", true)
  | 6 => ("DyeLamps$Bench", "fasts", "[I", true)
  | 7 => ("DyeLamps$Bench", "goodGrounds", "[I", true)
  | 8 => ("DyeLamps$Bench", "light", "[[I", true)
  | 9 => ("DyeLamps$Bench", "bands", "I", false)
  | 10 => ("DyeLamps$Bench", "most", "I", false)
  | 11 => ("DyeLamps$Bench", "alike", "I", false)
  | 12 => ("DyeLamps$Bench", "slip", "I", false)
  | _ => ("DyeLamps$Bench", "over", "Z", false)
def tyX0 : Nat → FieldType := fun k => match k with
  | 0 => .object "DyeLamps$Shelf"
  | 1 => .object "DyeLamps$Shelf"
  | 2 => .object "DyeLamps$Shelf"
  | 3 => .object "DyeLamps$Shelf"
  | 4 => .object "DyeLamps$Shelf"
  | 5 => .array .int
  | 6 => .array .int
  | 7 => .array .int
  | 8 => .array (.array .int)
  | 9 => .int
  | 10 => .int
  | 11 => .int
  | 12 => .int
  | _ => .boolean
theorem nmX0 : ∀ a, a < 14 → ∀ b, b < 14 → a ≠ b → (TX0 a).2.1 ≠ (TX0 b).2.1 := by decide +kernel
theorem tyX0_ok : ∀ k, k < 14 → parseFieldDescriptor (TX0 k).2.2.1 = some (tyX0 k) := by decide +kernel
theorem lyX0_0 : u_lay RX0 TX0 0 ∈ lw_g := lw_gm 244 (by decide +kernel) (by decide +kernel)
theorem lyX0_1 : u_lay RX0 TX0 1 ∈ lw_g := lw_gm 246 (by decide +kernel) (by decide +kernel)
theorem lyX0_2 : u_lay RX0 TX0 2 ∈ lw_g := lw_gm 248 (by decide +kernel) (by decide +kernel)
theorem lyX0_3 : u_lay RX0 TX0 3 ∈ lw_g := lw_gm 250 (by decide +kernel) (by decide +kernel)
theorem lyX0_4 : u_lay RX0 TX0 4 ∈ lw_g := lw_gm 252 (by decide +kernel) (by decide +kernel)
theorem lyX0_5 : u_lay RX0 TX0 5 ∈ lw_g := lw_gm 254 (by decide +kernel) (by decide +kernel)
theorem lyX0_6 : u_lay RX0 TX0 6 ∈ lw_g := lw_gm 256 (by decide +kernel) (by decide +kernel)
theorem lyX0_7 : u_lay RX0 TX0 7 ∈ lw_g := lw_gm 258 (by decide +kernel) (by decide +kernel)
theorem lyX0_8 : u_lay RX0 TX0 8 ∈ lw_g := lw_gm 260 (by decide +kernel) (by decide +kernel)
theorem lyX0_9 : u_lay RX0 TX0 9 ∈ lw_g := lw_gm 262 (by decide +kernel) (by decide +kernel)
theorem lyX0_10 : u_lay RX0 TX0 10 ∈ lw_g := lw_gm 264 (by decide +kernel) (by decide +kernel)
theorem lyX0_11 : u_lay RX0 TX0 11 ∈ lw_g := lw_gm 266 (by decide +kernel) (by decide +kernel)
theorem lyX0_12 : u_lay RX0 TX0 12 ∈ lw_g := lw_gm 268 (by decide +kernel) (by decide +kernel)
theorem lyX0_13 : u_lay RX0 TX0 13 ∈ lw_g := lw_gm 270 (by decide +kernel) (by decide +kernel)
theorem layX0 : ∀ w ∈ u_ws RX0 TX0 14, w ∈ lw_g := by
  intro w hw
  obtain ⟨j, hj, rfl⟩ := List.mem_map.mp hw
  have hj := List.mem_range.mp hj
  exact match j, hj with
  | 0, _ => lyX0_0
  | 1, _ => lyX0_1
  | 2, _ => lyX0_2
  | 3, _ => lyX0_3
  | 4, _ => lyX0_4
  | 5, _ => lyX0_5
  | 6, _ => lyX0_6
  | 7, _ => lyX0_7
  | 8, _ => lyX0_8
  | 9, _ => lyX0_9
  | 10, _ => lyX0_10
  | 11, _ => lyX0_11
  | 12, _ => lyX0_12
  | 13, _ => lyX0_13
  | j + 14, hj => absurd hj (by omega)
def TX1 : u_T := fun k => match k with
  | 0 => ("DyeLamps$Looks", "lamps", "[I", true)
  | 1 => ("DyeLamps$Looks", "eyes", "[I", true)
  | 2 => ("DyeLamps$Looks", "much", "[I", true)
  | 3 => ("DyeLamps$Looks", "some", "[I", true)
  | 4 => ("DyeLamps$Looks", "toldAt", "[I", true)
  | 5 => ("DyeLamps$Looks", "untoldAt", "[I", true)
  | 6 => ("DyeLamps$Looks", "sights", "[J", true)
  | 7 => ("DyeLamps$Looks", "chosen", "[I", true)
  | 8 => ("DyeLamps$Looks", "choices", "I", false)
  | 9 => ("DyeLamps$Looks", "count", "I", false)
  | 10 => ("DyeLamps$Looks", "nextLamp", "I", false)
  | 11 => ("DyeLamps$Looks", "nextEye", "I", false)
  | _ => ("DyeLamps$Looks", "nextCrowd", "I", false)
def tyX1 : Nat → FieldType := fun k => match k with
  | 0 => .array .int
  | 1 => .array .int
  | 2 => .array .int
  | 3 => .array .int
  | 4 => .array .int
  | 5 => .array .int
  | 6 => .array .long
  | 7 => .array .int
  | 8 => .int
  | 9 => .int
  | 10 => .int
  | 11 => .int
  | _ => .int
theorem nmX1 : ∀ a, a < 13 → ∀ b, b < 13 → a ≠ b → (TX1 a).2.1 ≠ (TX1 b).2.1 := by decide +kernel
theorem tyX1_ok : ∀ k, k < 13 → parseFieldDescriptor (TX1 k).2.2.1 = some (tyX1 k) := by decide +kernel
theorem lyX1_0 : u_lay RX1 TX1 0 ∈ lw_g := lw_gm 460 (by decide +kernel) (by decide +kernel)
theorem lyX1_1 : u_lay RX1 TX1 1 ∈ lw_g := lw_gm 462 (by decide +kernel) (by decide +kernel)
theorem lyX1_2 : u_lay RX1 TX1 2 ∈ lw_g := lw_gm 464 (by decide +kernel) (by decide +kernel)
theorem lyX1_3 : u_lay RX1 TX1 3 ∈ lw_g := lw_gm 466 (by decide +kernel) (by decide +kernel)
theorem lyX1_4 : u_lay RX1 TX1 4 ∈ lw_g := lw_gm 468 (by decide +kernel) (by decide +kernel)
theorem lyX1_5 : u_lay RX1 TX1 5 ∈ lw_g := lw_gm 470 (by decide +kernel) (by decide +kernel)
theorem lyX1_6 : u_lay RX1 TX1 6 ∈ lw_g := lw_gm 472 (by decide +kernel) (by decide +kernel)
theorem lyX1_7 : u_lay RX1 TX1 7 ∈ lw_g := lw_gm 474 (by decide +kernel) (by decide +kernel)
theorem lyX1_8 : u_lay RX1 TX1 8 ∈ lw_g := lw_gm 476 (by decide +kernel) (by decide +kernel)
theorem lyX1_9 : u_lay RX1 TX1 9 ∈ lw_g := lw_gm 478 (by decide +kernel) (by decide +kernel)
theorem lyX1_10 : u_lay RX1 TX1 10 ∈ lw_g := lw_gm 480 (by decide +kernel) (by decide +kernel)
theorem lyX1_11 : u_lay RX1 TX1 11 ∈ lw_g := lw_gm 482 (by decide +kernel) (by decide +kernel)
theorem lyX1_12 : u_lay RX1 TX1 12 ∈ lw_g := lw_gm 484 (by decide +kernel) (by decide +kernel)
theorem layX1 : ∀ w ∈ u_ws RX1 TX1 13, w ∈ lw_g := by
  intro w hw
  obtain ⟨j, hj, rfl⟩ := List.mem_map.mp hw
  have hj := List.mem_range.mp hj
  exact match j, hj with
  | 0, _ => lyX1_0
  | 1, _ => lyX1_1
  | 2, _ => lyX1_2
  | 3, _ => lyX1_3
  | 4, _ => lyX1_4
  | 5, _ => lyX1_5
  | 6, _ => lyX1_6
  | 7, _ => lyX1_7
  | 8, _ => lyX1_8
  | 9, _ => lyX1_9
  | 10, _ => lyX1_10
  | 11, _ => lyX1_11
  | 12, _ => lyX1_12
  | j + 13, hj => absurd hj (by omega)
def TX2 : u_T := fun k => match k with
  | 0 => ("DyeLamps$Olds", "goods", "[I", true)
  | 1 => ("DyeLamps$Olds", "leftOut", "[I", true)
  | 2 => ("DyeLamps$Olds", "rows", "[[I", true)
  | 3 => ("DyeLamps$Olds", "rest", "[I", true)
  | _ => ("DyeLamps$Olds", "count", "I", false)
def tyX2 : Nat → FieldType := fun k => match k with
  | 0 => .array .int
  | 1 => .array .int
  | 2 => .array (.array .int)
  | 3 => .array .int
  | _ => .int
theorem nmX2 : ∀ a, a < 5 → ∀ b, b < 5 → a ≠ b → (TX2 a).2.1 ≠ (TX2 b).2.1 := by decide +kernel
theorem tyX2_ok : ∀ k, k < 5 → parseFieldDescriptor (TX2 k).2.2.1 = some (tyX2 k) := by decide +kernel
theorem lyX2_0 : u_lay RX2 TX2 0 ∈ lw_g := lw_gm 425 (by decide +kernel) (by decide +kernel)
theorem lyX2_1 : u_lay RX2 TX2 1 ∈ lw_g := lw_gm 427 (by decide +kernel) (by decide +kernel)
theorem lyX2_2 : u_lay RX2 TX2 2 ∈ lw_g := lw_gm 429 (by decide +kernel) (by decide +kernel)
theorem lyX2_3 : u_lay RX2 TX2 3 ∈ lw_g := lw_gm 431 (by decide +kernel) (by decide +kernel)
theorem lyX2_4 : u_lay RX2 TX2 4 ∈ lw_g := lw_gm 433 (by decide +kernel) (by decide +kernel)
theorem layX2 : ∀ w ∈ u_ws RX2 TX2 5, w ∈ lw_g := by
  intro w hw
  obtain ⟨j, hj, rfl⟩ := List.mem_map.mp hw
  have hj := List.mem_range.mp hj
  exact match j, hj with
  | 0, _ => lyX2_0
  | 1, _ => lyX2_1
  | 2, _ => lyX2_2
  | 3, _ => lyX2_3
  | 4, _ => lyX2_4
  | j + 5, hj => absurd hj (by omega)
def TX3 : u_T := fun k => match k with
  | 0 => ("DyeLamps$Parser", "tokens", "LDyeLamps$Tokens;", true)
  | 1 => ("DyeLamps$Parser", "bench", "LDyeLamps$Bench;", false)
  | 2 => ("DyeLamps$Parser", "at", "I", false)
  | 3 => ("DyeLamps$Parser", "kind", "I", false)
  | 4 => ("DyeLamps$Parser", "value", "J", false)
  | 5 => ("DyeLamps$Parser", "told", "I", false)
  | 6 => ("DyeLamps$Parser", "number", "I", false)
  | 7 => ("DyeLamps$Parser", "fault", "I", false)
  | _ => ("DyeLamps$Parser", "place", "I", false)
def tyX3 : Nat → FieldType := fun k => match k with
  | 0 => .object "DyeLamps$Tokens"
  | 1 => .object "DyeLamps$Bench"
  | 2 => .int
  | 3 => .int
  | 4 => .long
  | 5 => .int
  | 6 => .int
  | 7 => .int
  | _ => .int
theorem nmX3 : ∀ a, a < 9 → ∀ b, b < 9 → a ≠ b → (TX3 a).2.1 ≠ (TX3 b).2.1 := by decide +kernel
theorem tyX3_ok : ∀ k, k < 9 → parseFieldDescriptor (TX3 k).2.2.1 = some (tyX3 k) := by decide +kernel
theorem lyX3_0 : u_lay RX3 TX3 0 ∈ lw_g := lw_gm 387 (by decide +kernel) (by decide +kernel)
theorem lyX3_1 : u_lay RX3 TX3 1 ∈ lw_g := lw_gm 389 (by decide +kernel) (by decide +kernel)
theorem lyX3_2 : u_lay RX3 TX3 2 ∈ lw_g := lw_gm 391 (by decide +kernel) (by decide +kernel)
theorem lyX3_3 : u_lay RX3 TX3 3 ∈ lw_g := lw_gm 393 (by decide +kernel) (by decide +kernel)
theorem lyX3_4 : u_lay RX3 TX3 4 ∈ lw_g := lw_gm 395 (by decide +kernel) (by decide +kernel)
theorem lyX3_5 : u_lay RX3 TX3 5 ∈ lw_g := lw_gm 397 (by decide +kernel) (by decide +kernel)
theorem lyX3_6 : u_lay RX3 TX3 6 ∈ lw_g := lw_gm 399 (by decide +kernel) (by decide +kernel)
theorem lyX3_7 : u_lay RX3 TX3 7 ∈ lw_g := lw_gm 401 (by decide +kernel) (by decide +kernel)
theorem lyX3_8 : u_lay RX3 TX3 8 ∈ lw_g := lw_gm 403 (by decide +kernel) (by decide +kernel)
theorem layX3 : ∀ w ∈ u_ws RX3 TX3 9, w ∈ lw_g := by
  intro w hw
  obtain ⟨j, hj, rfl⟩ := List.mem_map.mp hw
  have hj := List.mem_range.mp hj
  exact match j, hj with
  | 0, _ => lyX3_0
  | 1, _ => lyX3_1
  | 2, _ => lyX3_2
  | 3, _ => lyX3_3
  | 4, _ => lyX3_4
  | 5, _ => lyX3_5
  | 6, _ => lyX3_6
  | 7, _ => lyX3_7
  | 8, _ => lyX3_8
  | j + 9, hj => absurd hj (by omega)
def TX4 : u_T := fun k => match k with
  | 0 => ("DyeLamps$Search", "bench", "LDyeLamps$Bench;", false)
  | 1 => ("DyeLamps$Search", "olds", "LDyeLamps$Olds;", true)
  | 2 => ("DyeLamps$Search", "walk", "LDyeLamps$Walk;", true)
  | 3 => ("DyeLamps$Search", "good", "I", false)
  | 4 => ("DyeLamps$Search", "ground", "I", false)
  | 5 => ("DyeLamps$Search", "mostParts", "I", false)
  | 6 => ("DyeLamps$Search", "mostKinds", "I", false)
  | 7 => ("DyeLamps$Search", "keptPrice", "I", false)
  | 8 => ("DyeLamps$Search", "keptTotal", "I", false)
  | 9 => ("DyeLamps$Search", "bestParts", "[J", true)
  | 10 => ("DyeLamps$Search", "bestAparts", "[J", true)
  | 11 => ("DyeLamps$Search", "aparts", "[J", true)
  | 12 => ("DyeLamps$Search", "width", "I", false)
  | 13 => ("DyeLamps$Search", "asked", "Z", false)
  | 14 => ("DyeLamps$Search", "count", "I", false)
  | 15 => ("DyeLamps$Search", "lies", "Z", false)
  | 16 => ("DyeLamps$Search", "lying", "[I", true)
  | _ => ("DyeLamps$Search", "bests", "I", false)
def tyX4 : Nat → FieldType := fun k => match k with
  | 0 => .object "DyeLamps$Bench"
  | 1 => .object "DyeLamps$Olds"
  | 2 => .object "DyeLamps$Walk"
  | 3 => .int
  | 4 => .int
  | 5 => .int
  | 6 => .int
  | 7 => .int
  | 8 => .int
  | 9 => .array .long
  | 10 => .array .long
  | 11 => .array .long
  | 12 => .int
  | 13 => .boolean
  | 14 => .int
  | 15 => .boolean
  | 16 => .array .int
  | _ => .int
theorem nmX4 : ∀ a, a < 18 → ∀ b, b < 18 → a ≠ b → (TX4 a).2.1 ≠ (TX4 b).2.1 := by decide +kernel
theorem tyX4_ok : ∀ k, k < 18 → parseFieldDescriptor (TX4 k).2.2.1 = some (tyX4 k) := by decide +kernel
theorem lyX4_0 : u_lay RX4 TX4 0 ∈ lw_g := lw_gm 557 (by decide +kernel) (by decide +kernel)
theorem lyX4_1 : u_lay RX4 TX4 1 ∈ lw_g := lw_gm 559 (by decide +kernel) (by decide +kernel)
theorem lyX4_2 : u_lay RX4 TX4 2 ∈ lw_g := lw_gm 561 (by decide +kernel) (by decide +kernel)
theorem lyX4_3 : u_lay RX4 TX4 3 ∈ lw_g := lw_gm 563 (by decide +kernel) (by decide +kernel)
theorem lyX4_4 : u_lay RX4 TX4 4 ∈ lw_g := lw_gm 565 (by decide +kernel) (by decide +kernel)
theorem lyX4_5 : u_lay RX4 TX4 5 ∈ lw_g := lw_gm 567 (by decide +kernel) (by decide +kernel)
theorem lyX4_6 : u_lay RX4 TX4 6 ∈ lw_g := lw_gm 569 (by decide +kernel) (by decide +kernel)
theorem lyX4_7 : u_lay RX4 TX4 7 ∈ lw_g := lw_gm 571 (by decide +kernel) (by decide +kernel)
theorem lyX4_8 : u_lay RX4 TX4 8 ∈ lw_g := lw_gm 573 (by decide +kernel) (by decide +kernel)
theorem lyX4_9 : u_lay RX4 TX4 9 ∈ lw_g := lw_gm 575 (by decide +kernel) (by decide +kernel)
theorem lyX4_10 : u_lay RX4 TX4 10 ∈ lw_g := lw_gm 577 (by decide +kernel) (by decide +kernel)
theorem lyX4_11 : u_lay RX4 TX4 11 ∈ lw_g := lw_gm 579 (by decide +kernel) (by decide +kernel)
theorem lyX4_12 : u_lay RX4 TX4 12 ∈ lw_g := lw_gm 581 (by decide +kernel) (by decide +kernel)
theorem lyX4_13 : u_lay RX4 TX4 13 ∈ lw_g := lw_gm 583 (by decide +kernel) (by decide +kernel)
theorem lyX4_14 : u_lay RX4 TX4 14 ∈ lw_g := lw_gm 585 (by decide +kernel) (by decide +kernel)
theorem lyX4_15 : u_lay RX4 TX4 15 ∈ lw_g := lw_gm 587 (by decide +kernel) (by decide +kernel)
theorem lyX4_16 : u_lay RX4 TX4 16 ∈ lw_g := lw_gm 589 (by decide +kernel) (by decide +kernel)
theorem lyX4_17 : u_lay RX4 TX4 17 ∈ lw_g := lw_gm 591 (by decide +kernel) (by decide +kernel)
theorem layX4 : ∀ w ∈ u_ws RX4 TX4 18, w ∈ lw_g := by
  intro w hw
  obtain ⟨j, hj, rfl⟩ := List.mem_map.mp hw
  have hj := List.mem_range.mp hj
  exact match j, hj with
  | 0, _ => lyX4_0
  | 1, _ => lyX4_1
  | 2, _ => lyX4_2
  | 3, _ => lyX4_3
  | 4, _ => lyX4_4
  | 5, _ => lyX4_5
  | 6, _ => lyX4_6
  | 7, _ => lyX4_7
  | 8, _ => lyX4_8
  | 9, _ => lyX4_9
  | 10, _ => lyX4_10
  | 11, _ => lyX4_11
  | 12, _ => lyX4_12
  | 13, _ => lyX4_13
  | 14, _ => lyX4_14
  | 15, _ => lyX4_15
  | 16, _ => lyX4_16
  | 17, _ => lyX4_17
  | j + 18, hj => absurd hj (by omega)
def TX5 : u_T := fun k => match k with
  | 0 => ("DyeLamps$Shelf", "limit", "I", true)
  | 1 => ("DyeLamps$Shelf", "names", "[J", true)
  | 2 => ("DyeLamps$Shelf", "rows", "[[I", true)
  | _ => ("DyeLamps$Shelf", "count", "I", false)
def tyX5 : Nat → FieldType := fun k => match k with
  | 0 => .int
  | 1 => .array .long
  | 2 => .array (.array .int)
  | _ => .int
theorem nmX5 : ∀ a, a < 4 → ∀ b, b < 4 → a ≠ b → (TX5 a).2.1 ≠ (TX5 b).2.1 := by decide +kernel
theorem tyX5_ok : ∀ k, k < 4 → parseFieldDescriptor (TX5 k).2.2.1 = some (tyX5 k) := by decide +kernel
theorem lyX5_0 : u_lay RX5 TX5 0 ∈ lw_g := lw_gm 182 (by decide +kernel) (by decide +kernel)
theorem lyX5_1 : u_lay RX5 TX5 1 ∈ lw_g := lw_gm 184 (by decide +kernel) (by decide +kernel)
theorem lyX5_2 : u_lay RX5 TX5 2 ∈ lw_g := lw_gm 186 (by decide +kernel) (by decide +kernel)
theorem lyX5_3 : u_lay RX5 TX5 3 ∈ lw_g := lw_gm 188 (by decide +kernel) (by decide +kernel)
theorem layX5 : ∀ w ∈ u_ws RX5 TX5 4, w ∈ lw_g := by
  intro w hw
  obtain ⟨j, hj, rfl⟩ := List.mem_map.mp hw
  have hj := List.mem_range.mp hj
  exact match j, hj with
  | 0, _ => lyX5_0
  | 1, _ => lyX5_1
  | 2, _ => lyX5_2
  | 3, _ => lyX5_3
  | j + 4, hj => absurd hj (by omega)
def TX6 : u_T := fun k => match k with
  | 0 => ("DyeLamps$Tape", "bytes", "[B", true)
  | _ => ("DyeLamps$Tape", "length", "I", false)
def tyX6 : Nat → FieldType := fun k => match k with
  | 0 => .array .byte
  | _ => .int
theorem nmX6 : ∀ a, a < 2 → ∀ b, b < 2 → a ≠ b → (TX6 a).2.1 ≠ (TX6 b).2.1 := by decide +kernel
theorem tyX6_ok : ∀ k, k < 2 → parseFieldDescriptor (TX6 k).2.2.1 = some (tyX6 k) := by decide +kernel
theorem lyX6_0 : u_lay RX6 TX6 0 ∈ lw_g := lw_gm 145 (by decide +kernel) (by decide +kernel)
theorem lyX6_1 : u_lay RX6 TX6 1 ∈ lw_g := lw_gm 147 (by decide +kernel) (by decide +kernel)
theorem layX6 : ∀ w ∈ u_ws RX6 TX6 2, w ∈ lw_g := by
  intro w hw
  obtain ⟨j, hj, rfl⟩ := List.mem_map.mp hw
  have hj := List.mem_range.mp hj
  exact match j, hj with
  | 0, _ => lyX6_0
  | 1, _ => lyX6_1
  | j + 2, hj => absurd hj (by omega)
def TX7 : u_T := fun k => match k with
  | 0 => ("DyeLamps$Tokens", "words", "[J", true)
  | 1 => ("DyeLamps$Tokens", "kinds", "[I", true)
  | 2 => ("DyeLamps$Tokens", "places", "[I", true)
  | 3 => ("DyeLamps$Tokens", "values", "[J", true)
  | 4 => ("DyeLamps$Tokens", "count", "I", false)
  | _ => ("DyeLamps$Tokens", "stop", "I", false)
def tyX7 : Nat → FieldType := fun k => match k with
  | 0 => .array .long
  | 1 => .array .int
  | 2 => .array .int
  | 3 => .array .long
  | 4 => .int
  | _ => .int
theorem nmX7 : ∀ a, a < 6 → ∀ b, b < 6 → a ≠ b → (TX7 a).2.1 ≠ (TX7 b).2.1 := by decide +kernel
theorem tyX7_ok : ∀ k, k < 6 → parseFieldDescriptor (TX7 k).2.2.1 = some (tyX7 k) := by decide +kernel
theorem lyX7_0 : u_lay RX7 TX7 0 ∈ lw_g := lw_gm 363 (by decide +kernel) (by decide +kernel)
theorem lyX7_1 : u_lay RX7 TX7 1 ∈ lw_g := lw_gm 365 (by decide +kernel) (by decide +kernel)
theorem lyX7_2 : u_lay RX7 TX7 2 ∈ lw_g := lw_gm 367 (by decide +kernel) (by decide +kernel)
theorem lyX7_3 : u_lay RX7 TX7 3 ∈ lw_g := lw_gm 369 (by decide +kernel) (by decide +kernel)
theorem lyX7_4 : u_lay RX7 TX7 4 ∈ lw_g := lw_gm 371 (by decide +kernel) (by decide +kernel)
theorem lyX7_5 : u_lay RX7 TX7 5 ∈ lw_g := lw_gm 373 (by decide +kernel) (by decide +kernel)
theorem layX7 : ∀ w ∈ u_ws RX7 TX7 6, w ∈ lw_g := by
  intro w hw
  obtain ⟨j, hj, rfl⟩ := List.mem_map.mp hw
  have hj := List.mem_range.mp hj
  exact match j, hj with
  | 0, _ => lyX7_0
  | 1, _ => lyX7_1
  | 2, _ => lyX7_2
  | 3, _ => lyX7_3
  | 4, _ => lyX7_4
  | 5, _ => lyX7_5
  | j + 6, hj => absurd hj (by omega)
def TX8 : u_T := fun k => match k with
  | 0 => ("DyeLamps$Vat", "parts", "[I", true)
  | 1 => ("DyeLamps$Vat", "ground", "I", false)
  | 2 => ("DyeLamps$Vat", "days", "I", false)
  | 3 => ("DyeLamps$Vat", "w", "I", false)
  | _ => ("DyeLamps$Vat", "kept", "Z", false)
def tyX8 : Nat → FieldType := fun k => match k with
  | 0 => .array .int
  | 1 => .int
  | 2 => .int
  | 3 => .int
  | _ => .boolean
theorem nmX8 : ∀ a, a < 5 → ∀ b, b < 5 → a ≠ b → (TX8 a).2.1 ≠ (TX8 b).2.1 := by decide +kernel
theorem tyX8_ok : ∀ k, k < 5 → parseFieldDescriptor (TX8 k).2.2.1 = some (tyX8 k) := by decide +kernel
theorem lyX8_0 : u_lay RX8 TX8 0 ∈ lw_g := lw_gm 616 (by decide +kernel) (by decide +kernel)
theorem lyX8_1 : u_lay RX8 TX8 1 ∈ lw_g := lw_gm 618 (by decide +kernel) (by decide +kernel)
theorem lyX8_2 : u_lay RX8 TX8 2 ∈ lw_g := lw_gm 620 (by decide +kernel) (by decide +kernel)
theorem lyX8_3 : u_lay RX8 TX8 3 ∈ lw_g := lw_gm 622 (by decide +kernel) (by decide +kernel)
theorem lyX8_4 : u_lay RX8 TX8 4 ∈ lw_g := lw_gm 624 (by decide +kernel) (by decide +kernel)
theorem layX8 : ∀ w ∈ u_ws RX8 TX8 5, w ∈ lw_g := by
  intro w hw
  obtain ⟨j, hj, rfl⟩ := List.mem_map.mp hw
  have hj := List.mem_range.mp hj
  exact match j, hj with
  | 0, _ => lyX8_0
  | 1, _ => lyX8_1
  | 2, _ => lyX8_2
  | 3, _ => lyX8_3
  | 4, _ => lyX8_4
  | j + 5, hj => absurd hj (by omega)
def TX9 : u_T := fun k => match k with
  | 0 => ("DyeLamps$Walk", "layers", "[[I", true)
  | 1 => ("DyeLamps$Walk", "row", "[I", true)
  | 2 => ("DyeLamps$Walk", "bench", "LDyeLamps$Bench;", false)
  | 3 => ("DyeLamps$Walk", "ground", "I", false)
  | 4 => ("DyeLamps$Walk", "mostParts", "I", false)
  | 5 => ("DyeLamps$Walk", "mostKinds", "I", false)
  | 6 => ("DyeLamps$Walk", "kinds", "I", false)
  | 7 => ("DyeLamps$Walk", "parts", "[I", true)
  | 8 => ("DyeLamps$Walk", "total", "I", false)
  | _ => ("DyeLamps$Walk", "price", "I", false)
def tyX9 : Nat → FieldType := fun k => match k with
  | 0 => .array (.array .int)
  | 1 => .array .int
  | 2 => .object "DyeLamps$Bench"
  | 3 => .int
  | 4 => .int
  | 5 => .int
  | 6 => .int
  | 7 => .array .int
  | 8 => .int
  | _ => .int
theorem nmX9 : ∀ a, a < 10 → ∀ b, b < 10 → a ≠ b → (TX9 a).2.1 ≠ (TX9 b).2.1 := by decide +kernel
theorem tyX9_ok : ∀ k, k < 10 → parseFieldDescriptor (TX9 k).2.2.1 = some (tyX9 k) := by decide +kernel
theorem lyX9_0 : u_lay RX9 TX9 0 ∈ lw_g := lw_gm 513 (by decide +kernel) (by decide +kernel)
theorem lyX9_1 : u_lay RX9 TX9 1 ∈ lw_g := lw_gm 515 (by decide +kernel) (by decide +kernel)
theorem lyX9_2 : u_lay RX9 TX9 2 ∈ lw_g := lw_gm 517 (by decide +kernel) (by decide +kernel)
theorem lyX9_3 : u_lay RX9 TX9 3 ∈ lw_g := lw_gm 519 (by decide +kernel) (by decide +kernel)
theorem lyX9_4 : u_lay RX9 TX9 4 ∈ lw_g := lw_gm 521 (by decide +kernel) (by decide +kernel)
theorem lyX9_5 : u_lay RX9 TX9 5 ∈ lw_g := lw_gm 523 (by decide +kernel) (by decide +kernel)
theorem lyX9_6 : u_lay RX9 TX9 6 ∈ lw_g := lw_gm 525 (by decide +kernel) (by decide +kernel)
theorem lyX9_7 : u_lay RX9 TX9 7 ∈ lw_g := lw_gm 527 (by decide +kernel) (by decide +kernel)
theorem lyX9_8 : u_lay RX9 TX9 8 ∈ lw_g := lw_gm 529 (by decide +kernel) (by decide +kernel)
theorem lyX9_9 : u_lay RX9 TX9 9 ∈ lw_g := lw_gm 531 (by decide +kernel) (by decide +kernel)
theorem layX9 : ∀ w ∈ u_ws RX9 TX9 10, w ∈ lw_g := by
  intro w hw
  obtain ⟨j, hj, rfl⟩ := List.mem_map.mp hw
  have hj := List.mem_range.mp hj
  exact match j, hj with
  | 0, _ => lyX9_0
  | 1, _ => lyX9_1
  | 2, _ => lyX9_2
  | 3, _ => lyX9_3
  | 4, _ => lyX9_4
  | 5, _ => lyX9_5
  | 6, _ => lyX9_6
  | 7, _ => lyX9_7
  | 8, _ => lyX9_8
  | 9, _ => lyX9_9
  | j + 10, hj => absurd hj (by omega)
def TX10 : u_T := fun k => match k with
  | 0 => ("DyeLamps", "tape", "LDyeLamps$Tape;", true)
  | 1 => ("DyeLamps", "parser", "LDyeLamps$Parser;", true)
  | 2 => ("DyeLamps", "bench", "LDyeLamps$Bench;", false)
  | 3 => ("DyeLamps", "spare", "LDyeLamps$Bench;", false)
  | 4 => ("DyeLamps", "olds", "LDyeLamps$Olds;", true)
  | 5 => ("DyeLamps", "looks", "LDyeLamps$Looks;", true)
  | 6 => ("DyeLamps", "search", "LDyeLamps$Search;", true)
  | 7 => ("DyeLamps", "vat", "LDyeLamps$Vat;", true)
  | 8 => ("DyeLamps", "boxes", "[LDyeLamps$Vat;", true)
  | 9 => ("DyeLamps", "vatRow", "[I", true)
  | 10 => ("DyeLamps", "weights", "[I", true)
  | 11 => ("DyeLamps", "weightsLie", "Z", false)
  | _ => ("DyeLamps", "time", "I", false)
def tyX10 : Nat → FieldType := fun k => match k with
  | 0 => .object "DyeLamps$Tape"
  | 1 => .object "DyeLamps$Parser"
  | 2 => .object "DyeLamps$Bench"
  | 3 => .object "DyeLamps$Bench"
  | 4 => .object "DyeLamps$Olds"
  | 5 => .object "DyeLamps$Looks"
  | 6 => .object "DyeLamps$Search"
  | 7 => .object "DyeLamps$Vat"
  | 8 => .array (.object "DyeLamps$Vat")
  | 9 => .array .int
  | 10 => .array .int
  | 11 => .boolean
  | _ => .int
theorem nmX10 : ∀ a, a < 13 → ∀ b, b < 13 → a ≠ b → (TX10 a).2.1 ≠ (TX10 b).2.1 := by decide +kernel
theorem tyX10_ok : ∀ k, k < 13 → parseFieldDescriptor (TX10 k).2.2.1 = some (tyX10 k) := by decide +kernel
theorem lyX10_0 : u_lay RX10 TX10 0 ∈ lw_g := lw_gm 641 (by decide +kernel) (by decide +kernel)
theorem lyX10_1 : u_lay RX10 TX10 1 ∈ lw_g := lw_gm 643 (by decide +kernel) (by decide +kernel)
theorem lyX10_2 : u_lay RX10 TX10 2 ∈ lw_g := lw_gm 645 (by decide +kernel) (by decide +kernel)
theorem lyX10_3 : u_lay RX10 TX10 3 ∈ lw_g := lw_gm 647 (by decide +kernel) (by decide +kernel)
theorem lyX10_4 : u_lay RX10 TX10 4 ∈ lw_g := lw_gm 649 (by decide +kernel) (by decide +kernel)
theorem lyX10_5 : u_lay RX10 TX10 5 ∈ lw_g := lw_gm 651 (by decide +kernel) (by decide +kernel)
theorem lyX10_6 : u_lay RX10 TX10 6 ∈ lw_g := lw_gm 653 (by decide +kernel) (by decide +kernel)
theorem lyX10_7 : u_lay RX10 TX10 7 ∈ lw_g := lw_gm 655 (by decide +kernel) (by decide +kernel)
theorem lyX10_8 : u_lay RX10 TX10 8 ∈ lw_g := lw_gm 657 (by decide +kernel) (by decide +kernel)
theorem lyX10_9 : u_lay RX10 TX10 9 ∈ lw_g := lw_gm 659 (by decide +kernel) (by decide +kernel)
theorem lyX10_10 : u_lay RX10 TX10 10 ∈ lw_g := lw_gm 661 (by decide +kernel) (by decide +kernel)
theorem lyX10_11 : u_lay RX10 TX10 11 ∈ lw_g := lw_gm 663 (by decide +kernel) (by decide +kernel)
theorem lyX10_12 : u_lay RX10 TX10 12 ∈ lw_g := lw_gm 665 (by decide +kernel) (by decide +kernel)
theorem layX10 : ∀ w ∈ u_ws RX10 TX10 13, w ∈ lw_g := by
  intro w hw
  obtain ⟨j, hj, rfl⟩ := List.mem_map.mp hw
  have hj := List.mem_range.mp hj
  exact match j, hj with
  | 0, _ => lyX10_0
  | 1, _ => lyX10_1
  | 2, _ => lyX10_2
  | 3, _ => lyX10_3
  | 4, _ => lyX10_4
  | 5, _ => lyX10_5
  | 6, _ => lyX10_6
  | 7, _ => lyX10_7
  | 8, _ => lyX10_8
  | 9, _ => lyX10_9
  | 10, _ => lyX10_10
  | 11, _ => lyX10_11
  | 12, _ => lyX10_12
  | j + 13, hj => absurd hj (by omega)
def TX11 : u_T := fun k => match k with
  | 0 => ("DyeLampsModel", "tape", "[I", true)
  | 1 => ("DyeLampsModel", "taped", "I", false)
  | 2 => ("DyeLampsModel", "fault", "I", false)
  | 3 => ("DyeLampsModel", "faultPlace", "I", false)
  | 4 => ("DyeLampsModel", "at", "I", false)
  | 5 => ("DyeLampsModel", "size", "I", false)
  | 6 => ("DyeLampsModel", "sort", "I", false)
  | 7 => ("DyeLampsModel", "place", "I", false)
  | 8 => ("DyeLampsModel", "number", "I", false)
  | 9 => ("DyeLampsModel", "word", "J", false)
  | 10 => ("DyeLampsModel", "nName", "[J", true)
  | 11 => ("DyeLampsModel", "nMany", "[I", true)
  | 12 => ("DyeLampsModel", "many", "[I", true)
  | 13 => ("DyeLampsModel", "nDye", "[I", true)
  | 14 => ("DyeLampsModel", "nGround", "[I", true)
  | 15 => ("DyeLampsModel", "nLamp", "[I", true)
  | 16 => ("DyeLampsModel", "nEye", "[I", true)
  | 17 => ("DyeLampsModel", "nPrice", "[I", true)
  | 18 => ("DyeLampsModel", "nFast", "[I", true)
  | 19 => ("DyeLampsModel", "nOn", "[I", true)
  | 20 => ("DyeLampsModel", "nParts", "[I", true)
  | 21 => ("DyeLampsModel", "dyeRow", "[I", true)
  | 22 => ("DyeLampsModel", "groundRow", "[I", true)
  | 23 => ("DyeLampsModel", "lampRow", "[I", true)
  | 24 => ("DyeLampsModel", "eyeRow", "[I", true)
  | 25 => ("DyeLampsModel", "price", "[I", true)
  | 26 => ("DyeLampsModel", "fast", "[I", true)
  | 27 => ("DyeLampsModel", "goodOn", "[I", true)
  | 28 => ("DyeLampsModel", "goodParts", "[I", true)
  | 29 => ("DyeLampsModel", "nBands", "I", false)
  | 30 => ("DyeLampsModel", "nMost", "I", false)
  | 31 => ("DyeLampsModel", "nAlike", "I", false)
  | 32 => ("DyeLampsModel", "nSlip", "I", false)
  | 33 => ("DyeLampsModel", "bands", "I", false)
  | 34 => ("DyeLampsModel", "most", "I", false)
  | 35 => ("DyeLampsModel", "alike", "I", false)
  | 36 => ("DyeLampsModel", "slip", "I", false)
  | 37 => ("DyeLampsModel", "nHasBands", "Z", false)
  | 38 => ("DyeLampsModel", "nHasMost", "Z", false)
  | 39 => ("DyeLampsModel", "nHasAlike", "Z", false)
  | 40 => ("DyeLampsModel", "nHasOver", "Z", false)
  | 41 => ("DyeLampsModel", "nHasSlip", "Z", false)
  | 42 => ("DyeLampsModel", "isOver", "Z", false)
  | 43 => ("DyeLampsModel", "parts", "[I", true)
  | 44 => ("DyeLampsModel", "ground", "[I", true)
  | 45 => ("DyeLampsModel", "thrown", "[J", true)
  | 46 => ("DyeLampsModel", "askedGood", "I", false)
  | 47 => ("DyeLampsModel", "askedGround", "I", false)
  | 48 => ("DyeLampsModel", "askedParts", "I", false)
  | 49 => ("DyeLampsModel", "askedUnlike", "I", false)
  | 50 => ("DyeLampsModel", "isAsked", "Z", false)
  | 51 => ("DyeLampsModel", "lain", "[I", true)
  | 52 => ("DyeLampsModel", "lies", "Z", false)
  | 53 => ("DyeLampsModel", "lainCost", "I", false)
  | 54 => ("DyeLampsModel", "lainParts", "I", false)
  | 55 => ("DyeLampsModel", "aparts", "[J", true)
  | 56 => ("DyeLampsModel", "rows", "[I", true)
  | 57 => ("DyeLampsModel", "bests", "[I", true)
  | 58 => ("DyeLampsModel", "bestMany", "I", false)
  | 59 => ("DyeLampsModel", "rowMany", "I", false)
  | 60 => ("DyeLampsModel", "differs", "[J", true)
  | 61 => ("DyeLampsModel", "weights", "[I", true)
  | 62 => ("DyeLampsModel", "tried", "[I", true)
  | 63 => ("DyeLampsModel", "hasWeights", "Z", false)
  | 64 => ("DyeLampsModel", "vat", "[I", true)
  | 65 => ("DyeLampsModel", "vatGround", "I", false)
  | 66 => ("DyeLampsModel", "vatDays", "I", false)
  | 67 => ("DyeLampsModel", "w", "I", false)
  | 68 => ("DyeLampsModel", "oldGood", "[I", true)
  | 69 => ("DyeLampsModel", "oldBut", "[I", true)
  | 70 => ("DyeLampsModel", "olds", "I", false)
  | 71 => ("DyeLampsModel", "lookLamp", "[I", true)
  | 72 => ("DyeLampsModel", "lookEye", "[I", true)
  | 73 => ("DyeLampsModel", "lookMuch", "[I", true)
  | 74 => ("DyeLampsModel", "lookSome", "[I", true)
  | 75 => ("DyeLampsModel", "lookTold", "[I", true)
  | 76 => ("DyeLampsModel", "lookUntold", "[I", true)
  | 77 => ("DyeLampsModel", "looks", "I", false)
  | 78 => ("DyeLampsModel", "time", "I", false)
  | 79 => ("DyeLampsModel", "left", "[I", true)
  | 80 => ("DyeLampsModel", "would", "[J", true)
  | 81 => ("DyeLampsModel", "lefts", "I", false)
  | 82 => ("DyeLampsModel", "hasBox", "[Z", true)
  | 83 => ("DyeLampsModel", "boxParts", "[I", true)
  | 84 => ("DyeLampsModel", "boxGround", "[I", true)
  | 85 => ("DyeLampsModel", "boxDays", "[I", true)
  | _ => ("DyeLampsModel", "boxW", "[I", true)
def tyX11 : Nat → FieldType := fun k => match k with
  | 0 => .array .int
  | 1 => .int
  | 2 => .int
  | 3 => .int
  | 4 => .int
  | 5 => .int
  | 6 => .int
  | 7 => .int
  | 8 => .int
  | 9 => .long
  | 10 => .array .long
  | 11 => .array .int
  | 12 => .array .int
  | 13 => .array .int
  | 14 => .array .int
  | 15 => .array .int
  | 16 => .array .int
  | 17 => .array .int
  | 18 => .array .int
  | 19 => .array .int
  | 20 => .array .int
  | 21 => .array .int
  | 22 => .array .int
  | 23 => .array .int
  | 24 => .array .int
  | 25 => .array .int
  | 26 => .array .int
  | 27 => .array .int
  | 28 => .array .int
  | 29 => .int
  | 30 => .int
  | 31 => .int
  | 32 => .int
  | 33 => .int
  | 34 => .int
  | 35 => .int
  | 36 => .int
  | 37 => .boolean
  | 38 => .boolean
  | 39 => .boolean
  | 40 => .boolean
  | 41 => .boolean
  | 42 => .boolean
  | 43 => .array .int
  | 44 => .array .int
  | 45 => .array .long
  | 46 => .int
  | 47 => .int
  | 48 => .int
  | 49 => .int
  | 50 => .boolean
  | 51 => .array .int
  | 52 => .boolean
  | 53 => .int
  | 54 => .int
  | 55 => .array .long
  | 56 => .array .int
  | 57 => .array .int
  | 58 => .int
  | 59 => .int
  | 60 => .array .long
  | 61 => .array .int
  | 62 => .array .int
  | 63 => .boolean
  | 64 => .array .int
  | 65 => .int
  | 66 => .int
  | 67 => .int
  | 68 => .array .int
  | 69 => .array .int
  | 70 => .int
  | 71 => .array .int
  | 72 => .array .int
  | 73 => .array .int
  | 74 => .array .int
  | 75 => .array .int
  | 76 => .array .int
  | 77 => .int
  | 78 => .int
  | 79 => .array .int
  | 80 => .array .long
  | 81 => .int
  | 82 => .array .boolean
  | 83 => .array .int
  | 84 => .array .int
  | 85 => .array .int
  | _ => .array .int
theorem nmX11 : ∀ a, a < 87 → ∀ b, b < 87 → a ≠ b → (TX11 a).2.1 ≠ (TX11 b).2.1 := by decide +kernel
theorem tyX11_ok : ∀ k, k < 87 → parseFieldDescriptor (TX11 k).2.2.1 = some (tyX11 k) := by decide +kernel
theorem lyX11_0 : u_lay RX11 TX11 0 ∈ lw_g := lw_gm 1290 (by decide +kernel) (by decide +kernel)
theorem lyX11_1 : u_lay RX11 TX11 1 ∈ lw_g := lw_gm 1292 (by decide +kernel) (by decide +kernel)
theorem lyX11_2 : u_lay RX11 TX11 2 ∈ lw_g := lw_gm 1294 (by decide +kernel) (by decide +kernel)
theorem lyX11_3 : u_lay RX11 TX11 3 ∈ lw_g := lw_gm 1296 (by decide +kernel) (by decide +kernel)
theorem lyX11_4 : u_lay RX11 TX11 4 ∈ lw_g := lw_gm 1298 (by decide +kernel) (by decide +kernel)
theorem lyX11_5 : u_lay RX11 TX11 5 ∈ lw_g := lw_gm 1300 (by decide +kernel) (by decide +kernel)
theorem lyX11_6 : u_lay RX11 TX11 6 ∈ lw_g := lw_gm 1302 (by decide +kernel) (by decide +kernel)
theorem lyX11_7 : u_lay RX11 TX11 7 ∈ lw_g := lw_gm 1304 (by decide +kernel) (by decide +kernel)
theorem lyX11_8 : u_lay RX11 TX11 8 ∈ lw_g := lw_gm 1306 (by decide +kernel) (by decide +kernel)
theorem lyX11_9 : u_lay RX11 TX11 9 ∈ lw_g := lw_gm 1308 (by decide +kernel) (by decide +kernel)
theorem lyX11_10 : u_lay RX11 TX11 10 ∈ lw_g := lw_gm 1310 (by decide +kernel) (by decide +kernel)
theorem lyX11_11 : u_lay RX11 TX11 11 ∈ lw_g := lw_gm 1312 (by decide +kernel) (by decide +kernel)
theorem lyX11_12 : u_lay RX11 TX11 12 ∈ lw_g := lw_gm 1314 (by decide +kernel) (by decide +kernel)
theorem lyX11_13 : u_lay RX11 TX11 13 ∈ lw_g := lw_gm 1316 (by decide +kernel) (by decide +kernel)
theorem lyX11_14 : u_lay RX11 TX11 14 ∈ lw_g := lw_gm 1318 (by decide +kernel) (by decide +kernel)
theorem lyX11_15 : u_lay RX11 TX11 15 ∈ lw_g := lw_gm 1320 (by decide +kernel) (by decide +kernel)
theorem lyX11_16 : u_lay RX11 TX11 16 ∈ lw_g := lw_gm 1322 (by decide +kernel) (by decide +kernel)
theorem lyX11_17 : u_lay RX11 TX11 17 ∈ lw_g := lw_gm 1324 (by decide +kernel) (by decide +kernel)
theorem lyX11_18 : u_lay RX11 TX11 18 ∈ lw_g := lw_gm 1326 (by decide +kernel) (by decide +kernel)
theorem lyX11_19 : u_lay RX11 TX11 19 ∈ lw_g := lw_gm 1328 (by decide +kernel) (by decide +kernel)
theorem lyX11_20 : u_lay RX11 TX11 20 ∈ lw_g := lw_gm 1330 (by decide +kernel) (by decide +kernel)
theorem lyX11_21 : u_lay RX11 TX11 21 ∈ lw_g := lw_gm 1332 (by decide +kernel) (by decide +kernel)
theorem lyX11_22 : u_lay RX11 TX11 22 ∈ lw_g := lw_gm 1334 (by decide +kernel) (by decide +kernel)
theorem lyX11_23 : u_lay RX11 TX11 23 ∈ lw_g := lw_gm 1336 (by decide +kernel) (by decide +kernel)
theorem lyX11_24 : u_lay RX11 TX11 24 ∈ lw_g := lw_gm 1338 (by decide +kernel) (by decide +kernel)
theorem lyX11_25 : u_lay RX11 TX11 25 ∈ lw_g := lw_gm 1340 (by decide +kernel) (by decide +kernel)
theorem lyX11_26 : u_lay RX11 TX11 26 ∈ lw_g := lw_gm 1342 (by decide +kernel) (by decide +kernel)
theorem lyX11_27 : u_lay RX11 TX11 27 ∈ lw_g := lw_gm 1344 (by decide +kernel) (by decide +kernel)
theorem lyX11_28 : u_lay RX11 TX11 28 ∈ lw_g := lw_gm 1346 (by decide +kernel) (by decide +kernel)
theorem lyX11_29 : u_lay RX11 TX11 29 ∈ lw_g := lw_gm 1348 (by decide +kernel) (by decide +kernel)
theorem lyX11_30 : u_lay RX11 TX11 30 ∈ lw_g := lw_gm 1350 (by decide +kernel) (by decide +kernel)
theorem lyX11_31 : u_lay RX11 TX11 31 ∈ lw_g := lw_gm 1352 (by decide +kernel) (by decide +kernel)
theorem lyX11_32 : u_lay RX11 TX11 32 ∈ lw_g := lw_gm 1354 (by decide +kernel) (by decide +kernel)
theorem lyX11_33 : u_lay RX11 TX11 33 ∈ lw_g := lw_gm 1356 (by decide +kernel) (by decide +kernel)
theorem lyX11_34 : u_lay RX11 TX11 34 ∈ lw_g := lw_gm 1358 (by decide +kernel) (by decide +kernel)
theorem lyX11_35 : u_lay RX11 TX11 35 ∈ lw_g := lw_gm 1360 (by decide +kernel) (by decide +kernel)
theorem lyX11_36 : u_lay RX11 TX11 36 ∈ lw_g := lw_gm 1362 (by decide +kernel) (by decide +kernel)
theorem lyX11_37 : u_lay RX11 TX11 37 ∈ lw_g := lw_gm 1364 (by decide +kernel) (by decide +kernel)
theorem lyX11_38 : u_lay RX11 TX11 38 ∈ lw_g := lw_gm 1366 (by decide +kernel) (by decide +kernel)
theorem lyX11_39 : u_lay RX11 TX11 39 ∈ lw_g := lw_gm 1368 (by decide +kernel) (by decide +kernel)
theorem lyX11_40 : u_lay RX11 TX11 40 ∈ lw_g := lw_gm 1370 (by decide +kernel) (by decide +kernel)
theorem lyX11_41 : u_lay RX11 TX11 41 ∈ lw_g := lw_gm 1372 (by decide +kernel) (by decide +kernel)
theorem lyX11_42 : u_lay RX11 TX11 42 ∈ lw_g := lw_gm 1374 (by decide +kernel) (by decide +kernel)
theorem lyX11_43 : u_lay RX11 TX11 43 ∈ lw_g := lw_gm 1376 (by decide +kernel) (by decide +kernel)
theorem lyX11_44 : u_lay RX11 TX11 44 ∈ lw_g := lw_gm 1378 (by decide +kernel) (by decide +kernel)
theorem lyX11_45 : u_lay RX11 TX11 45 ∈ lw_g := lw_gm 1380 (by decide +kernel) (by decide +kernel)
theorem lyX11_46 : u_lay RX11 TX11 46 ∈ lw_g := lw_gm 1382 (by decide +kernel) (by decide +kernel)
theorem lyX11_47 : u_lay RX11 TX11 47 ∈ lw_g := lw_gm 1384 (by decide +kernel) (by decide +kernel)
theorem lyX11_48 : u_lay RX11 TX11 48 ∈ lw_g := lw_gm 1386 (by decide +kernel) (by decide +kernel)
theorem lyX11_49 : u_lay RX11 TX11 49 ∈ lw_g := lw_gm 1388 (by decide +kernel) (by decide +kernel)
theorem lyX11_50 : u_lay RX11 TX11 50 ∈ lw_g := lw_gm 1390 (by decide +kernel) (by decide +kernel)
theorem lyX11_51 : u_lay RX11 TX11 51 ∈ lw_g := lw_gm 1392 (by decide +kernel) (by decide +kernel)
theorem lyX11_52 : u_lay RX11 TX11 52 ∈ lw_g := lw_gm 1394 (by decide +kernel) (by decide +kernel)
theorem lyX11_53 : u_lay RX11 TX11 53 ∈ lw_g := lw_gm 1396 (by decide +kernel) (by decide +kernel)
theorem lyX11_54 : u_lay RX11 TX11 54 ∈ lw_g := lw_gm 1398 (by decide +kernel) (by decide +kernel)
theorem lyX11_55 : u_lay RX11 TX11 55 ∈ lw_g := lw_gm 1400 (by decide +kernel) (by decide +kernel)
theorem lyX11_56 : u_lay RX11 TX11 56 ∈ lw_g := lw_gm 1402 (by decide +kernel) (by decide +kernel)
theorem lyX11_57 : u_lay RX11 TX11 57 ∈ lw_g := lw_gm 1404 (by decide +kernel) (by decide +kernel)
theorem lyX11_58 : u_lay RX11 TX11 58 ∈ lw_g := lw_gm 1406 (by decide +kernel) (by decide +kernel)
theorem lyX11_59 : u_lay RX11 TX11 59 ∈ lw_g := lw_gm 1408 (by decide +kernel) (by decide +kernel)
theorem lyX11_60 : u_lay RX11 TX11 60 ∈ lw_g := lw_gm 1410 (by decide +kernel) (by decide +kernel)
theorem lyX11_61 : u_lay RX11 TX11 61 ∈ lw_g := lw_gm 1412 (by decide +kernel) (by decide +kernel)
theorem lyX11_62 : u_lay RX11 TX11 62 ∈ lw_g := lw_gm 1414 (by decide +kernel) (by decide +kernel)
theorem lyX11_63 : u_lay RX11 TX11 63 ∈ lw_g := lw_gm 1416 (by decide +kernel) (by decide +kernel)
theorem lyX11_64 : u_lay RX11 TX11 64 ∈ lw_g := lw_gm 1418 (by decide +kernel) (by decide +kernel)
theorem lyX11_65 : u_lay RX11 TX11 65 ∈ lw_g := lw_gm 1420 (by decide +kernel) (by decide +kernel)
theorem lyX11_66 : u_lay RX11 TX11 66 ∈ lw_g := lw_gm 1422 (by decide +kernel) (by decide +kernel)
theorem lyX11_67 : u_lay RX11 TX11 67 ∈ lw_g := lw_gm 1424 (by decide +kernel) (by decide +kernel)
theorem lyX11_68 : u_lay RX11 TX11 68 ∈ lw_g := lw_gm 1426 (by decide +kernel) (by decide +kernel)
theorem lyX11_69 : u_lay RX11 TX11 69 ∈ lw_g := lw_gm 1428 (by decide +kernel) (by decide +kernel)
theorem lyX11_70 : u_lay RX11 TX11 70 ∈ lw_g := lw_gm 1430 (by decide +kernel) (by decide +kernel)
theorem lyX11_71 : u_lay RX11 TX11 71 ∈ lw_g := lw_gm 1432 (by decide +kernel) (by decide +kernel)
theorem lyX11_72 : u_lay RX11 TX11 72 ∈ lw_g := lw_gm 1434 (by decide +kernel) (by decide +kernel)
theorem lyX11_73 : u_lay RX11 TX11 73 ∈ lw_g := lw_gm 1436 (by decide +kernel) (by decide +kernel)
theorem lyX11_74 : u_lay RX11 TX11 74 ∈ lw_g := lw_gm 1438 (by decide +kernel) (by decide +kernel)
theorem lyX11_75 : u_lay RX11 TX11 75 ∈ lw_g := lw_gm 1440 (by decide +kernel) (by decide +kernel)
theorem lyX11_76 : u_lay RX11 TX11 76 ∈ lw_g := lw_gm 1442 (by decide +kernel) (by decide +kernel)
theorem lyX11_77 : u_lay RX11 TX11 77 ∈ lw_g := lw_gm 1444 (by decide +kernel) (by decide +kernel)
theorem lyX11_78 : u_lay RX11 TX11 78 ∈ lw_g := lw_gm 1446 (by decide +kernel) (by decide +kernel)
theorem lyX11_79 : u_lay RX11 TX11 79 ∈ lw_g := lw_gm 1448 (by decide +kernel) (by decide +kernel)
theorem lyX11_80 : u_lay RX11 TX11 80 ∈ lw_g := lw_gm 1450 (by decide +kernel) (by decide +kernel)
theorem lyX11_81 : u_lay RX11 TX11 81 ∈ lw_g := lw_gm 1452 (by decide +kernel) (by decide +kernel)
theorem lyX11_82 : u_lay RX11 TX11 82 ∈ lw_g := lw_gm 1454 (by decide +kernel) (by decide +kernel)
theorem lyX11_83 : u_lay RX11 TX11 83 ∈ lw_g := lw_gm 1456 (by decide +kernel) (by decide +kernel)
theorem lyX11_84 : u_lay RX11 TX11 84 ∈ lw_g := lw_gm 1458 (by decide +kernel) (by decide +kernel)
theorem lyX11_85 : u_lay RX11 TX11 85 ∈ lw_g := lw_gm 1460 (by decide +kernel) (by decide +kernel)
theorem lyX11_86 : u_lay RX11 TX11 86 ∈ lw_g := lw_gm 1462 (by decide +kernel) (by decide +kernel)
theorem layX11 : ∀ w ∈ u_ws RX11 TX11 87, w ∈ lw_g := by
  intro w hw
  obtain ⟨j, hj, rfl⟩ := List.mem_map.mp hw
  have hj := List.mem_range.mp hj
  exact match j, hj with
  | 0, _ => lyX11_0
  | 1, _ => lyX11_1
  | 2, _ => lyX11_2
  | 3, _ => lyX11_3
  | 4, _ => lyX11_4
  | 5, _ => lyX11_5
  | 6, _ => lyX11_6
  | 7, _ => lyX11_7
  | 8, _ => lyX11_8
  | 9, _ => lyX11_9
  | 10, _ => lyX11_10
  | 11, _ => lyX11_11
  | 12, _ => lyX11_12
  | 13, _ => lyX11_13
  | 14, _ => lyX11_14
  | 15, _ => lyX11_15
  | 16, _ => lyX11_16
  | 17, _ => lyX11_17
  | 18, _ => lyX11_18
  | 19, _ => lyX11_19
  | 20, _ => lyX11_20
  | 21, _ => lyX11_21
  | 22, _ => lyX11_22
  | 23, _ => lyX11_23
  | 24, _ => lyX11_24
  | 25, _ => lyX11_25
  | 26, _ => lyX11_26
  | 27, _ => lyX11_27
  | 28, _ => lyX11_28
  | 29, _ => lyX11_29
  | 30, _ => lyX11_30
  | 31, _ => lyX11_31
  | 32, _ => lyX11_32
  | 33, _ => lyX11_33
  | 34, _ => lyX11_34
  | 35, _ => lyX11_35
  | 36, _ => lyX11_36
  | 37, _ => lyX11_37
  | 38, _ => lyX11_38
  | 39, _ => lyX11_39
  | 40, _ => lyX11_40
  | 41, _ => lyX11_41
  | 42, _ => lyX11_42
  | 43, _ => lyX11_43
  | 44, _ => lyX11_44
  | 45, _ => lyX11_45
  | 46, _ => lyX11_46
  | 47, _ => lyX11_47
  | 48, _ => lyX11_48
  | 49, _ => lyX11_49
  | 50, _ => lyX11_50
  | 51, _ => lyX11_51
  | 52, _ => lyX11_52
  | 53, _ => lyX11_53
  | 54, _ => lyX11_54
  | 55, _ => lyX11_55
  | 56, _ => lyX11_56
  | 57, _ => lyX11_57
  | 58, _ => lyX11_58
  | 59, _ => lyX11_59
  | 60, _ => lyX11_60
  | 61, _ => lyX11_61
  | 62, _ => lyX11_62
  | 63, _ => lyX11_63
  | 64, _ => lyX11_64
  | 65, _ => lyX11_65
  | 66, _ => lyX11_66
  | 67, _ => lyX11_67
  | 68, _ => lyX11_68
  | 69, _ => lyX11_69
  | 70, _ => lyX11_70
  | 71, _ => lyX11_71
  | 72, _ => lyX11_72
  | 73, _ => lyX11_73
  | 74, _ => lyX11_74
  | 75, _ => lyX11_75
  | 76, _ => lyX11_76
  | 77, _ => lyX11_77
  | 78, _ => lyX11_78
  | 79, _ => lyX11_79
  | 80, _ => lyX11_80
  | 81, _ => lyX11_81
  | 82, _ => lyX11_82
  | 83, _ => lyX11_83
  | 84, _ => lyX11_84
  | 85, _ => lyX11_85
  | 86, _ => lyX11_86
  | j + 87, hj => absurd hj (by omega)
abbrev vwCl : List vw_C := [(RX0, TX0, 14), (RX1, TX1, 13), (RX2, TX2, 5), (RX3, TX3, 9), (RX4, TX4, 18), (RX5, TX5, 4), (RX6, TX6, 2), (RX7, TX7, 6), (RX8, TX8, 5), (RX9, TX9, 10), (RX10, TX10, 13), (RX11, TX11, 87)]
abbrev cX0_init : ByteArray := prog_2_method_1_code
def yX0_init : MethodName := ⟨RX0, "<init>", "()V"⟩
set_option maxRecDepth 20000 in
theorem mX0_init : Mok yX0_init cX0_init 1 none 0 := ⟨lw_gm 155 (by decide +kernel) (by decide +kernel), lw_gm 109 (by decide +kernel) (by decide +kernel), ⟨by decide +kernel, by decide +kernel⟩, by decide +kernel, by decide +kernel⟩
set_option maxRecDepth 20000 in
theorem iX0_init : Cond.instanceMethod yX0_init ∈ lw_g := lw_gm 154 (by decide +kernel) (by decide +kernel)
abbrev cX0_clear : ByteArray := prog_2_method_2_code
def yX0_clear : MethodName := ⟨RX0, "clear", "()V"⟩
set_option maxRecDepth 20000 in
theorem mX0_clear : Mok yX0_clear cX0_clear 1 none 0 := ⟨lw_gm 197 (by decide +kernel) (by decide +kernel), lw_gm 109 (by decide +kernel) (by decide +kernel), ⟨by decide +kernel, by decide +kernel⟩, by decide +kernel, by decide +kernel⟩
set_option maxRecDepth 20000 in
theorem iX0_clear : Iok yX0_clear := ⟨lw_gm 195 (by decide +kernel) (by decide +kernel), lw_gm 196 (by decide +kernel) (by decide +kernel)⟩
abbrev cX0_mixLight : ByteArray := prog_2_method_3_code
def yX0_mixLight : MethodName := ⟨RX0, "mixLight", "()V"⟩
set_option maxRecDepth 20000 in
theorem mX0_mixLight : Mok yX0_mixLight cX0_mixLight 5 none 0 := ⟨lw_gm 806 (by decide +kernel) (by decide +kernel), lw_gm 109 (by decide +kernel) (by decide +kernel), ⟨by decide +kernel, by decide +kernel⟩, by decide +kernel, by decide +kernel⟩
set_option maxRecDepth 20000 in
theorem iX0_mixLight : Iok yX0_mixLight := ⟨lw_gm 804 (by decide +kernel) (by decide +kernel), lw_gm 805 (by decide +kernel) (by decide +kernel)⟩
abbrev cX0_layGround : ByteArray := prog_2_method_4_code
def yX0_layGround : MethodName := ⟨RX0, "layGround", "(I[I)V"⟩
set_option maxRecDepth 20000 in
theorem mX0_layGround : Mok yX0_layGround cX0_layGround 5 none 2 := ⟨lw_gm 826 (by decide +kernel) (by decide +kernel), lw_gm 109 (by decide +kernel) (by decide +kernel), ⟨by decide +kernel, by decide +kernel⟩, by decide +kernel, by decide +kernel⟩
set_option maxRecDepth 20000 in
theorem iX0_layGround : Iok yX0_layGround := ⟨lw_gm 824 (by decide +kernel) (by decide +kernel), lw_gm 825 (by decide +kernel) (by decide +kernel)⟩
abbrev cX0_addPart : ByteArray := prog_2_method_5_code
def yX0_addPart : MethodName := ⟨RX0, "addPart", "(II[I[I)V"⟩
set_option maxRecDepth 20000 in
theorem mX0_addPart : Mok yX0_addPart cX0_addPart 8 none 4 := ⟨lw_gm 830 (by decide +kernel) (by decide +kernel), lw_gm 109 (by decide +kernel) (by decide +kernel), ⟨by decide +kernel, by decide +kernel⟩, by decide +kernel, by decide +kernel⟩
set_option maxRecDepth 20000 in
theorem iX0_addPart : Iok yX0_addPart := ⟨lw_gm 828 (by decide +kernel) (by decide +kernel), lw_gm 829 (by decide +kernel) (by decide +kernel)⟩
abbrev cX0_settle : ByteArray := prog_2_method_6_code
def yX0_settle : MethodName := ⟨RX0, "settle", "([I[I)V"⟩
set_option maxRecDepth 20000 in
theorem mX0_settle : Mok yX0_settle cX0_settle 6 none 2 := ⟨lw_gm 834 (by decide +kernel) (by decide +kernel), lw_gm 109 (by decide +kernel) (by decide +kernel), ⟨by decide +kernel, by decide +kernel⟩, by decide +kernel, by decide +kernel⟩
set_option maxRecDepth 20000 in
theorem iX0_settle : Iok yX0_settle := ⟨lw_gm 832 (by decide +kernel) (by decide +kernel), lw_gm 833 (by decide +kernel) (by decide +kernel)⟩
abbrev cX0_throwBack : ByteArray := prog_2_method_7_code
def yX0_throwBack : MethodName := ⟨RX0, "throwBack", "(I[I[I)V"⟩
set_option maxRecDepth 20000 in
theorem mX0_throwBack : Mok yX0_throwBack cX0_throwBack 6 none 3 := ⟨lw_gm 822 (by decide +kernel) (by decide +kernel), lw_gm 109 (by decide +kernel) (by decide +kernel), ⟨by decide +kernel, by decide +kernel⟩, by decide +kernel, by decide +kernel⟩
set_option maxRecDepth 20000 in
theorem iX0_throwBack : Iok yX0_throwBack := ⟨lw_gm 820 (by decide +kernel) (by decide +kernel), lw_gm 821 (by decide +kernel) (by decide +kernel)⟩
abbrev cX0_seenOf : ByteArray := prog_2_method_8_code
def yX0_seenOf : MethodName := ⟨RX0, "seenOf", "([III)J"⟩
set_option maxRecDepth 20000 in
theorem mX0_seenOf : Mok yX0_seenOf cX0_seenOf 8 (some .long) 3 := ⟨lw_gm 869 (by decide +kernel) (by decide +kernel), lw_gm 109 (by decide +kernel) (by decide +kernel), ⟨by decide +kernel, by decide +kernel⟩, by decide +kernel, by decide +kernel⟩
set_option maxRecDepth 20000 in
theorem iX0_seenOf : Iok yX0_seenOf := ⟨lw_gm 867 (by decide +kernel) (by decide +kernel), lw_gm 868 (by decide +kernel) (by decide +kernel)⟩
abbrev cX0_apartOf : ByteArray := prog_2_method_9_code
def yX0_apartOf : MethodName := ⟨RX0, "apartOf", "([I[IIZ)J"⟩
set_option maxRecDepth 20000 in
theorem mX0_apartOf : Mok yX0_apartOf cX0_apartOf 13 (some .long) 4 := ⟨lw_gm 877 (by decide +kernel) (by decide +kernel), lw_gm 109 (by decide +kernel) (by decide +kernel), ⟨by decide +kernel, by decide +kernel⟩, by decide +kernel, by decide +kernel⟩
set_option maxRecDepth 20000 in
theorem iX0_apartOf : Iok yX0_apartOf := ⟨lw_gm 875 (by decide +kernel) (by decide +kernel), lw_gm 876 (by decide +kernel) (by decide +kernel)⟩
abbrev cX0_farthestOf : ByteArray := prog_2_method_10_code
def yX0_farthestOf : MethodName := ⟨RX0, "farthestOf", "([I[IZ)J"⟩
set_option maxRecDepth 20000 in
theorem mX0_farthestOf : Mok yX0_farthestOf cX0_farthestOf 7 (some .long) 3 := ⟨lw_gm 1062 (by decide +kernel) (by decide +kernel), lw_gm 109 (by decide +kernel) (by decide +kernel), ⟨by decide +kernel, by decide +kernel⟩, by decide +kernel, by decide +kernel⟩
set_option maxRecDepth 20000 in
theorem iX0_farthestOf : Iok yX0_farthestOf := ⟨lw_gm 1060 (by decide +kernel) (by decide +kernel), lw_gm 1061 (by decide +kernel) (by decide +kernel)⟩
abbrev cX0_areAlike : ByteArray := prog_2_method_11_code
def yX0_areAlike : MethodName := ⟨RX0, "areAlike", "([I[IIZ)Z"⟩
set_option maxRecDepth 20000 in
theorem mX0_areAlike : Mok yX0_areAlike cX0_areAlike 5 (some .boolean) 4 := ⟨lw_gm 891 (by decide +kernel) (by decide +kernel), lw_gm 109 (by decide +kernel) (by decide +kernel), ⟨by decide +kernel, by decide +kernel⟩, by decide +kernel, by decide +kernel⟩
set_option maxRecDepth 20000 in
theorem iX0_areAlike : Iok yX0_areAlike := ⟨lw_gm 889 (by decide +kernel) (by decide +kernel), lw_gm 890 (by decide +kernel) (by decide +kernel)⟩
abbrev cX0_priceOf : ByteArray := prog_2_method_12_code
def yX0_priceOf : MethodName := ⟨RX0, "priceOf", "([I)I"⟩
set_option maxRecDepth 20000 in
theorem mX0_priceOf : Mok yX0_priceOf cX0_priceOf 4 (some .int) 1 := ⟨lw_gm 901 (by decide +kernel) (by decide +kernel), lw_gm 109 (by decide +kernel) (by decide +kernel), ⟨by decide +kernel, by decide +kernel⟩, by decide +kernel, by decide +kernel⟩
set_option maxRecDepth 20000 in
theorem iX0_priceOf : Iok yX0_priceOf := ⟨lw_gm 899 (by decide +kernel) (by decide +kernel), lw_gm 900 (by decide +kernel) (by decide +kernel)⟩
abbrev cX1_init : ByteArray := prog_3_method_1_code
def yX1_init : MethodName := ⟨RX1, "<init>", "()V"⟩
set_option maxRecDepth 20000 in
theorem mX1_init : Mok yX1_init cX1_init 1 none 0 := ⟨lw_gm 440 (by decide +kernel) (by decide +kernel), lw_gm 118 (by decide +kernel) (by decide +kernel), ⟨by decide +kernel, by decide +kernel⟩, by decide +kernel, by decide +kernel⟩
set_option maxRecDepth 20000 in
theorem iX1_init : Cond.instanceMethod yX1_init ∈ lw_g := lw_gm 439 (by decide +kernel) (by decide +kernel)
abbrev cX1_isFull : ByteArray := prog_3_method_2_code
def yX1_isFull : MethodName := ⟨RX1, "isFull", "()Z"⟩
set_option maxRecDepth 20000 in
theorem mX1_isFull : Mok yX1_isFull cX1_isFull 1 (some .boolean) 0 := ⟨lw_gm 1134 (by decide +kernel) (by decide +kernel), lw_gm 118 (by decide +kernel) (by decide +kernel), ⟨by decide +kernel, by decide +kernel⟩, by decide +kernel, by decide +kernel⟩
set_option maxRecDepth 20000 in
theorem iX1_isFull : Iok yX1_isFull := ⟨lw_gm 1132 (by decide +kernel) (by decide +kernel), lw_gm 1133 (by decide +kernel) (by decide +kernel)⟩
abbrev cX1_tell : ByteArray := prog_3_method_3_code
def yX1_tell : MethodName := ⟨RX1, "tell", "(IIIII)I"⟩
set_option maxRecDepth 20000 in
theorem mX1_tell : Mok yX1_tell cX1_tell 6 (some .int) 5 := ⟨lw_gm 1139 (by decide +kernel) (by decide +kernel), lw_gm 118 (by decide +kernel) (by decide +kernel), ⟨by decide +kernel, by decide +kernel⟩, by decide +kernel, by decide +kernel⟩
set_option maxRecDepth 20000 in
theorem iX1_tell : Iok yX1_tell := ⟨lw_gm 1137 (by decide +kernel) (by decide +kernel), lw_gm 1138 (by decide +kernel) (by decide +kernel)⟩
abbrev cX1_takeBack : ByteArray := prog_3_method_4_code
def yX1_takeBack : MethodName := ⟨RX1, "takeBack", "(II)Z"⟩
set_option maxRecDepth 20000 in
theorem mX1_takeBack : Mok yX1_takeBack cX1_takeBack 3 (some .boolean) 2 := ⟨lw_gm 1148 (by decide +kernel) (by decide +kernel), lw_gm 118 (by decide +kernel) (by decide +kernel), ⟨by decide +kernel, by decide +kernel⟩, by decide +kernel, by decide +kernel⟩
set_option maxRecDepth 20000 in
theorem iX1_takeBack : Iok yX1_takeBack := ⟨lw_gm 1146 (by decide +kernel) (by decide +kernel), lw_gm 1147 (by decide +kernel) (by decide +kernel)⟩
abbrev cX1_choose : ByteArray := prog_3_method_5_code
def yX1_choose : MethodName := ⟨RX1, "choose", "(LDyeLamps$Bench;LDyeLamps$Olds;I)I"⟩
set_option maxRecDepth 20000 in
theorem mX1_choose : Mok yX1_choose cX1_choose 5 (some .int) 3 := ⟨lw_gm 1161 (by decide +kernel) (by decide +kernel), lw_gm 118 (by decide +kernel) (by decide +kernel), ⟨by decide +kernel, by decide +kernel⟩, by decide +kernel, by decide +kernel⟩
set_option maxRecDepth 20000 in
theorem iX1_choose : Iok yX1_choose := ⟨lw_gm 1159 (by decide +kernel) (by decide +kernel), lw_gm 1160 (by decide +kernel) (by decide +kernel)⟩
abbrev cX1_fits : ByteArray := prog_3_method_6_code
def yX1_fits : MethodName := ⟨RX1, "fits", "(LDyeLamps$Bench;[II)Z"⟩
set_option maxRecDepth 20000 in
theorem mX1_fits : Mok yX1_fits cX1_fits 7 (some .boolean) 3 := ⟨lw_gm 1165 (by decide +kernel) (by decide +kernel), lw_gm 118 (by decide +kernel) (by decide +kernel), ⟨by decide +kernel, by decide +kernel⟩, by decide +kernel, by decide +kernel⟩
set_option maxRecDepth 20000 in
theorem iX1_fits : Iok yX1_fits := ⟨lw_gm 1164 (by decide +kernel) (by decide +kernel), lw_gm 40 (by decide +kernel) (by decide +kernel)⟩
abbrev cX1_counts : ByteArray := prog_3_method_7_code
def yX1_counts : MethodName := ⟨RX1, "counts", "(II)Z"⟩
set_option maxRecDepth 20000 in
theorem mX1_counts : Mok yX1_counts cX1_counts 3 (some .boolean) 2 := ⟨lw_gm 1169 (by decide +kernel) (by decide +kernel), lw_gm 118 (by decide +kernel) (by decide +kernel), ⟨by decide +kernel, by decide +kernel⟩, by decide +kernel, by decide +kernel⟩
set_option maxRecDepth 20000 in
theorem iX1_counts : Iok yX1_counts := ⟨lw_gm 1168 (by decide +kernel) (by decide +kernel), lw_gm 41 (by decide +kernel) (by decide +kernel)⟩
abbrev cX1_findNext : ByteArray := prog_3_method_8_code
def yX1_findNext : MethodName := ⟨RX1, "findNext", "(LDyeLamps$Bench;LDyeLamps$Olds;)V"⟩
set_option maxRecDepth 20000 in
theorem mX1_findNext : Mok yX1_findNext cX1_findNext 6 none 2 := ⟨lw_gm 1184 (by decide +kernel) (by decide +kernel), lw_gm 118 (by decide +kernel) (by decide +kernel), ⟨by decide +kernel, by decide +kernel⟩, by decide +kernel, by decide +kernel⟩
set_option maxRecDepth 20000 in
theorem iX1_findNext : Iok yX1_findNext := ⟨lw_gm 1182 (by decide +kernel) (by decide +kernel), lw_gm 1183 (by decide +kernel) (by decide +kernel)⟩
abbrev cX1_greatestCrowd : ByteArray := prog_3_method_9_code
def yX1_greatestCrowd : MethodName := ⟨RX1, "greatestCrowd", "()I"⟩
set_option maxRecDepth 20000 in
theorem mX1_greatestCrowd : Mok yX1_greatestCrowd cX1_greatestCrowd 5 (some .int) 0 := ⟨lw_gm 1188 (by decide +kernel) (by decide +kernel), lw_gm 118 (by decide +kernel) (by decide +kernel), ⟨by decide +kernel, by decide +kernel⟩, by decide +kernel, by decide +kernel⟩
set_option maxRecDepth 20000 in
theorem iX1_greatestCrowd : Iok yX1_greatestCrowd := ⟨lw_gm 1187 (by decide +kernel) (by decide +kernel), lw_gm 42 (by decide +kernel) (by decide +kernel)⟩
abbrev cX2_init : ByteArray := prog_4_method_1_code
def yX2_init : MethodName := ⟨RX2, "<init>", "()V"⟩
set_option maxRecDepth 20000 in
theorem mX2_init : Mok yX2_init cX2_init 1 none 0 := ⟨lw_gm 410 (by decide +kernel) (by decide +kernel), lw_gm 117 (by decide +kernel) (by decide +kernel), ⟨by decide +kernel, by decide +kernel⟩, by decide +kernel, by decide +kernel⟩
set_option maxRecDepth 20000 in
theorem iX2_init : Cond.instanceMethod yX2_init ∈ lw_g := lw_gm 409 (by decide +kernel) (by decide +kernel)
abbrev cX2_fill : ByteArray := prog_4_method_2_code
def yX2_fill : MethodName := ⟨RX2, "fill", "(LDyeLamps$Bench;)V"⟩
set_option maxRecDepth 20000 in
theorem mX2_fill : Mok yX2_fill cX2_fill 4 none 1 := ⟨lw_gm 814 (by decide +kernel) (by decide +kernel), lw_gm 117 (by decide +kernel) (by decide +kernel), ⟨by decide +kernel, by decide +kernel⟩, by decide +kernel, by decide +kernel⟩
set_option maxRecDepth 20000 in
theorem iX2_fill : Iok yX2_fill := ⟨lw_gm 812 (by decide +kernel) (by decide +kernel), lw_gm 813 (by decide +kernel) (by decide +kernel)⟩
abbrev cX2_add : ByteArray := prog_4_method_3_code
def yX2_add : MethodName := ⟨RX2, "add", "(LDyeLamps$Bench;II)V"⟩
set_option maxRecDepth 20000 in
theorem mX2_add : Mok yX2_add cX2_add 5 none 3 := ⟨lw_gm 818 (by decide +kernel) (by decide +kernel), lw_gm 117 (by decide +kernel) (by decide +kernel), ⟨by decide +kernel, by decide +kernel⟩, by decide +kernel, by decide +kernel⟩
set_option maxRecDepth 20000 in
theorem iX2_add : Iok yX2_add := ⟨lw_gm 817 (by decide +kernel) (by decide +kernel), lw_gm 22 (by decide +kernel) (by decide +kernel)⟩
abbrev cX3_init : ByteArray := prog_5_method_1_code
def yX3_init : MethodName := ⟨RX3, "<init>", "(LDyeLamps$Bench;)V"⟩
set_option maxRecDepth 20000 in
theorem mX3_init : Mok yX3_init cX3_init 2 none 1 := ⟨lw_gm 277 (by decide +kernel) (by decide +kernel), lw_gm 111 (by decide +kernel) (by decide +kernel), ⟨by decide +kernel, by decide +kernel⟩, by decide +kernel, by decide +kernel⟩
set_option maxRecDepth 20000 in
theorem iX3_init : Cond.instanceMethod yX3_init ∈ lw_g := lw_gm 276 (by decide +kernel) (by decide +kernel)
abbrev cX3_read : ByteArray := prog_5_method_2_code
def yX3_read : MethodName := ⟨RX3, "read", "(LDyeLamps$Tape;LDyeLamps$Bench;)Z"⟩
set_option maxRecDepth 20000 in
theorem mX3_read : Mok yX3_read cX3_read 4 (some .boolean) 2 := ⟨lw_gm 691 (by decide +kernel) (by decide +kernel), lw_gm 111 (by decide +kernel) (by decide +kernel), ⟨by decide +kernel, by decide +kernel⟩, by decide +kernel, by decide +kernel⟩
set_option maxRecDepth 20000 in
theorem iX3_read : Iok yX3_read := ⟨lw_gm 689 (by decide +kernel) (by decide +kernel), lw_gm 690 (by decide +kernel) (by decide +kernel)⟩
abbrev cX3_readLine : ByteArray := prog_5_method_3_code
def yX3_readLine : MethodName := ⟨RX3, "readLine", "()Z"⟩
set_option maxRecDepth 20000 in
theorem mX3_readLine : Mok yX3_readLine cX3_readLine 1 (some .boolean) 0 := ⟨lw_gm 734 (by decide +kernel) (by decide +kernel), lw_gm 111 (by decide +kernel) (by decide +kernel), ⟨by decide +kernel, by decide +kernel⟩, by decide +kernel, by decide +kernel⟩
set_option maxRecDepth 20000 in
theorem iX3_readLine : Iok yX3_readLine := ⟨lw_gm 733 (by decide +kernel) (by decide +kernel), lw_gm 5 (by decide +kernel) (by decide +kernel)⟩
abbrev cX3_readBands : ByteArray := prog_5_method_4_code
def yX3_readBands : MethodName := ⟨RX3, "readBands", "()Z"⟩
set_option maxRecDepth 20000 in
theorem mX3_readBands : Mok yX3_readBands cX3_readBands 2 (some .boolean) 0 := ⟨lw_gm 738 (by decide +kernel) (by decide +kernel), lw_gm 111 (by decide +kernel) (by decide +kernel), ⟨by decide +kernel, by decide +kernel⟩, by decide +kernel, by decide +kernel⟩
set_option maxRecDepth 20000 in
theorem iX3_readBands : Iok yX3_readBands := ⟨lw_gm 737 (by decide +kernel) (by decide +kernel), lw_gm 6 (by decide +kernel) (by decide +kernel)⟩
abbrev cX3_readMost : ByteArray := prog_5_method_5_code
def yX3_readMost : MethodName := ⟨RX3, "readMost", "()Z"⟩
set_option maxRecDepth 20000 in
theorem mX3_readMost : Mok yX3_readMost cX3_readMost 1 (some .boolean) 0 := ⟨lw_gm 758 (by decide +kernel) (by decide +kernel), lw_gm 111 (by decide +kernel) (by decide +kernel), ⟨by decide +kernel, by decide +kernel⟩, by decide +kernel, by decide +kernel⟩
set_option maxRecDepth 20000 in
theorem iX3_readMost : Iok yX3_readMost := ⟨lw_gm 757 (by decide +kernel) (by decide +kernel), lw_gm 11 (by decide +kernel) (by decide +kernel)⟩
abbrev cX3_readAlike : ByteArray := prog_5_method_6_code
def yX3_readAlike : MethodName := ⟨RX3, "readAlike", "()Z"⟩
set_option maxRecDepth 20000 in
theorem mX3_readAlike : Mok yX3_readAlike cX3_readAlike 1 (some .boolean) 0 := ⟨lw_gm 762 (by decide +kernel) (by decide +kernel), lw_gm 111 (by decide +kernel) (by decide +kernel), ⟨by decide +kernel, by decide +kernel⟩, by decide +kernel, by decide +kernel⟩
set_option maxRecDepth 20000 in
theorem iX3_readAlike : Iok yX3_readAlike := ⟨lw_gm 761 (by decide +kernel) (by decide +kernel), lw_gm 12 (by decide +kernel) (by decide +kernel)⟩
abbrev cX3_readSlip : ByteArray := prog_5_method_7_code
def yX3_readSlip : MethodName := ⟨RX3, "readSlip", "()Z"⟩
set_option maxRecDepth 20000 in
theorem mX3_readSlip : Mok yX3_readSlip cX3_readSlip 1 (some .boolean) 0 := ⟨lw_gm 766 (by decide +kernel) (by decide +kernel), lw_gm 111 (by decide +kernel) (by decide +kernel), ⟨by decide +kernel, by decide +kernel⟩, by decide +kernel, by decide +kernel⟩
set_option maxRecDepth 20000 in
theorem iX3_readSlip : Iok yX3_readSlip := ⟨lw_gm 765 (by decide +kernel) (by decide +kernel), lw_gm 13 (by decide +kernel) (by decide +kernel)⟩
abbrev cX3_readOver : ByteArray := prog_5_method_8_code
def yX3_readOver : MethodName := ⟨RX3, "readOver", "()Z"⟩
set_option maxRecDepth 20000 in
theorem mX3_readOver : Mok yX3_readOver cX3_readOver 1 (some .boolean) 0 := ⟨lw_gm 770 (by decide +kernel) (by decide +kernel), lw_gm 111 (by decide +kernel) (by decide +kernel), ⟨by decide +kernel, by decide +kernel⟩, by decide +kernel, by decide +kernel⟩
set_option maxRecDepth 20000 in
theorem iX3_readOver : Iok yX3_readOver := ⟨lw_gm 769 (by decide +kernel) (by decide +kernel), lw_gm 14 (by decide +kernel) (by decide +kernel)⟩
abbrev cX3_readDye : ByteArray := prog_5_method_9_code
def yX3_readDye : MethodName := ⟨RX3, "readDye", "()Z"⟩
set_option maxRecDepth 20000 in
theorem mX3_readDye : Mok yX3_readDye cX3_readDye 2 (some .boolean) 0 := ⟨lw_gm 774 (by decide +kernel) (by decide +kernel), lw_gm 111 (by decide +kernel) (by decide +kernel), ⟨by decide +kernel, by decide +kernel⟩, by decide +kernel, by decide +kernel⟩
set_option maxRecDepth 20000 in
theorem iX3_readDye : Iok yX3_readDye := ⟨lw_gm 773 (by decide +kernel) (by decide +kernel), lw_gm 15 (by decide +kernel) (by decide +kernel)⟩
abbrev cX3_readThing : ByteArray := prog_5_method_10_code
def yX3_readThing : MethodName := ⟨RX3, "readThing", "(LDyeLamps$Shelf;I)Z"⟩
set_option maxRecDepth 20000 in
theorem mX3_readThing : Mok yX3_readThing cX3_readThing 3 (some .boolean) 2 := ⟨lw_gm 794 (by decide +kernel) (by decide +kernel), lw_gm 111 (by decide +kernel) (by decide +kernel), ⟨by decide +kernel, by decide +kernel⟩, by decide +kernel, by decide +kernel⟩
set_option maxRecDepth 20000 in
theorem iX3_readThing : Iok yX3_readThing := ⟨lw_gm 793 (by decide +kernel) (by decide +kernel), lw_gm 18 (by decide +kernel) (by decide +kernel)⟩
abbrev cX3_readGood : ByteArray := prog_5_method_11_code
def yX3_readGood : MethodName := ⟨RX3, "readGood", "()Z"⟩
set_option maxRecDepth 20000 in
theorem mX3_readGood : Mok yX3_readGood cX3_readGood 4 (some .boolean) 0 := ⟨lw_gm 798 (by decide +kernel) (by decide +kernel), lw_gm 111 (by decide +kernel) (by decide +kernel), ⟨by decide +kernel, by decide +kernel⟩, by decide +kernel, by decide +kernel⟩
set_option maxRecDepth 20000 in
theorem iX3_readGood : Iok yX3_readGood := ⟨lw_gm 797 (by decide +kernel) (by decide +kernel), lw_gm 19 (by decide +kernel) (by decide +kernel)⟩
abbrev cX3_takeGround : ByteArray := prog_5_method_12_code
def yX3_takeGround : MethodName := ⟨RX3, "takeGround", "(I)Z"⟩
set_option maxRecDepth 20000 in
theorem mX3_takeGround : Mok yX3_takeGround cX3_takeGround 3 (some .boolean) 1 := ⟨lw_gm 802 (by decide +kernel) (by decide +kernel), lw_gm 111 (by decide +kernel) (by decide +kernel), ⟨by decide +kernel, by decide +kernel⟩, by decide +kernel, by decide +kernel⟩
set_option maxRecDepth 20000 in
theorem iX3_takeGround : Iok yX3_takeGround := ⟨lw_gm 801 (by decide +kernel) (by decide +kernel), lw_gm 20 (by decide +kernel) (by decide +kernel)⟩
abbrev cX3_openOnce : ByteArray := prog_5_method_13_code
def yX3_openOnce : MethodName := ⟨RX3, "openOnce", "()Z"⟩
set_option maxRecDepth 20000 in
theorem mX3_openOnce : Mok yX3_openOnce cX3_openOnce 2 (some .boolean) 0 := ⟨lw_gm 742 (by decide +kernel) (by decide +kernel), lw_gm 111 (by decide +kernel) (by decide +kernel), ⟨by decide +kernel, by decide +kernel⟩, by decide +kernel, by decide +kernel⟩
set_option maxRecDepth 20000 in
theorem iX3_openOnce : Iok yX3_openOnce := ⟨lw_gm 741 (by decide +kernel) (by decide +kernel), lw_gm 7 (by decide +kernel) (by decide +kernel)⟩
abbrev cX3_openThing : ByteArray := prog_5_method_14_code
def yX3_openThing : MethodName := ⟨RX3, "openThing", "(LDyeLamps$Shelf;)Z"⟩
set_option maxRecDepth 20000 in
theorem mX3_openThing : Mok yX3_openThing cX3_openThing 2 (some .boolean) 1 := ⟨lw_gm 778 (by decide +kernel) (by decide +kernel), lw_gm 111 (by decide +kernel) (by decide +kernel), ⟨by decide +kernel, by decide +kernel⟩, by decide +kernel, by decide +kernel⟩
set_option maxRecDepth 20000 in
theorem iX3_openThing : Iok yX3_openThing := ⟨lw_gm 777 (by decide +kernel) (by decide +kernel), lw_gm 16 (by decide +kernel) (by decide +kernel)⟩
abbrev cX3_takeRow : ByteArray := prog_5_method_15_code
def yX3_takeRow : MethodName := ⟨RX3, "takeRow", "(LDyeLamps$Shelf;I)Z"⟩
set_option maxRecDepth 20000 in
theorem mX3_takeRow : Mok yX3_takeRow cX3_takeRow 4 (some .boolean) 2 := ⟨lw_gm 790 (by decide +kernel) (by decide +kernel), lw_gm 111 (by decide +kernel) (by decide +kernel), ⟨by decide +kernel, by decide +kernel⟩, by decide +kernel, by decide +kernel⟩
set_option maxRecDepth 20000 in
theorem iX3_takeRow : Iok yX3_takeRow := ⟨lw_gm 789 (by decide +kernel) (by decide +kernel), lw_gm 17 (by decide +kernel) (by decide +kernel)⟩
abbrev cX3_takeNumber : ByteArray := prog_5_method_16_code
def yX3_takeNumber : MethodName := ⟨RX3, "takeNumber", "(II)Z"⟩
set_option maxRecDepth 20000 in
theorem mX3_takeNumber : Mok yX3_takeNumber cX3_takeNumber 3 (some .boolean) 2 := ⟨lw_gm 750 (by decide +kernel) (by decide +kernel), lw_gm 111 (by decide +kernel) (by decide +kernel), ⟨by decide +kernel, by decide +kernel⟩, by decide +kernel, by decide +kernel⟩
set_option maxRecDepth 20000 in
theorem iX3_takeNumber : Iok yX3_takeNumber := ⟨lw_gm 749 (by decide +kernel) (by decide +kernel), lw_gm 9 (by decide +kernel) (by decide +kernel)⟩
abbrev cX3_take : ByteArray := prog_5_method_17_code
def yX3_take : MethodName := ⟨RX3, "take", "(I)Z"⟩
set_option maxRecDepth 20000 in
theorem mX3_take : Mok yX3_take cX3_take 2 (some .boolean) 1 := ⟨lw_gm 754 (by decide +kernel) (by decide +kernel), lw_gm 111 (by decide +kernel) (by decide +kernel), ⟨by decide +kernel, by decide +kernel⟩, by decide +kernel, by decide +kernel⟩
set_option maxRecDepth 20000 in
theorem iX3_take : Iok yX3_take := ⟨lw_gm 753 (by decide +kernel) (by decide +kernel), lw_gm 10 (by decide +kernel) (by decide +kernel)⟩
abbrev cX3_moveTo : ByteArray := prog_5_method_18_code
def yX3_moveTo : MethodName := ⟨RX3, "moveTo", "(I)V"⟩
set_option maxRecDepth 20000 in
theorem mX3_moveTo : Mok yX3_moveTo cX3_moveTo 2 none 1 := ⟨lw_gm 730 (by decide +kernel) (by decide +kernel), lw_gm 111 (by decide +kernel) (by decide +kernel), ⟨by decide +kernel, by decide +kernel⟩, by decide +kernel, by decide +kernel⟩
set_option maxRecDepth 20000 in
theorem iX3_moveTo : Iok yX3_moveTo := ⟨lw_gm 729 (by decide +kernel) (by decide +kernel), lw_gm 4 (by decide +kernel) (by decide +kernel)⟩
abbrev cX3_refuse : ByteArray := prog_5_method_19_code
def yX3_refuse : MethodName := ⟨RX3, "refuse", "(I)Z"⟩
set_option maxRecDepth 20000 in
theorem mX3_refuse : Mok yX3_refuse cX3_refuse 2 (some .boolean) 1 := ⟨lw_gm 746 (by decide +kernel) (by decide +kernel), lw_gm 111 (by decide +kernel) (by decide +kernel), ⟨by decide +kernel, by decide +kernel⟩, by decide +kernel, by decide +kernel⟩
set_option maxRecDepth 20000 in
theorem iX3_refuse : Iok yX3_refuse := ⟨lw_gm 745 (by decide +kernel) (by decide +kernel), lw_gm 8 (by decide +kernel) (by decide +kernel)⟩
abbrev cX4_init : ByteArray := prog_6_method_1_code
def yX4_init : MethodName := ⟨RX4, "<init>", "(LDyeLamps$Bench;LDyeLamps$Olds;)V"⟩
set_option maxRecDepth 20000 in
theorem mX4_init : Mok yX4_init cX4_init 3 none 2 := ⟨lw_gm 491 (by decide +kernel) (by decide +kernel), lw_gm 119 (by decide +kernel) (by decide +kernel), ⟨by decide +kernel, by decide +kernel⟩, by decide +kernel, by decide +kernel⟩
set_option maxRecDepth 20000 in
theorem iX4_init : Cond.instanceMethod yX4_init ∈ lw_g := lw_gm 490 (by decide +kernel) (by decide +kernel)
abbrev cX4_forget : ByteArray := prog_6_method_2_code
def yX4_forget : MethodName := ⟨RX4, "forget", "(LDyeLamps$Bench;)V"⟩
set_option maxRecDepth 20000 in
theorem mX4_forget : Mok yX4_forget cX4_forget 2 none 1 := ⟨lw_gm 838 (by decide +kernel) (by decide +kernel), lw_gm 119 (by decide +kernel) (by decide +kernel), ⟨by decide +kernel, by decide +kernel⟩, by decide +kernel, by decide +kernel⟩
set_option maxRecDepth 20000 in
theorem iX4_forget : Iok yX4_forget := ⟨lw_gm 836 (by decide +kernel) (by decide +kernel), lw_gm 837 (by decide +kernel) (by decide +kernel)⟩
abbrev cX4_take : ByteArray := prog_6_method_3_code
def yX4_take : MethodName := ⟨RX4, "take", "(IIII)V"⟩
set_option maxRecDepth 20000 in
theorem mX4_take : Mok yX4_take cX4_take 5 none 4 := ⟨lw_gm 909 (by decide +kernel) (by decide +kernel), lw_gm 119 (by decide +kernel) (by decide +kernel), ⟨by decide +kernel, by decide +kernel⟩, by decide +kernel, by decide +kernel⟩
set_option maxRecDepth 20000 in
theorem iX4_take : Iok yX4_take := ⟨lw_gm 907 (by decide +kernel) (by decide +kernel), lw_gm 908 (by decide +kernel) (by decide +kernel)⟩
abbrev cX4_countMixes : ByteArray := prog_6_method_4_code
def yX4_countMixes : MethodName := ⟨RX4, "countMixes", "()I"⟩
set_option maxRecDepth 20000 in
theorem mX4_countMixes : Mok yX4_countMixes cX4_countMixes 9 (some .int) 0 := ⟨lw_gm 913 (by decide +kernel) (by decide +kernel), lw_gm 119 (by decide +kernel) (by decide +kernel), ⟨by decide +kernel, by decide +kernel⟩, by decide +kernel, by decide +kernel⟩
set_option maxRecDepth 20000 in
theorem iX4_countMixes : Iok yX4_countMixes := ⟨lw_gm 912 (by decide +kernel) (by decide +kernel), lw_gm 25 (by decide +kernel) (by decide +kernel)⟩
abbrev cX4_hasLamps : ByteArray := prog_6_method_5_code
def yX4_hasLamps : MethodName := ⟨RX4, "hasLamps", "(I)Z"⟩
set_option maxRecDepth 20000 in
theorem mX4_hasLamps : Mok yX4_hasLamps cX4_hasLamps 2 (some .boolean) 1 := ⟨lw_gm 932 (by decide +kernel) (by decide +kernel), lw_gm 119 (by decide +kernel) (by decide +kernel), ⟨by decide +kernel, by decide +kernel⟩, by decide +kernel, by decide +kernel⟩
set_option maxRecDepth 20000 in
theorem iX4_hasLamps : Iok yX4_hasLamps := ⟨lw_gm 931 (by decide +kernel) (by decide +kernel), lw_gm 26 (by decide +kernel) (by decide +kernel)⟩
abbrev cX4_start : ByteArray := prog_6_method_6_code
def yX4_start : MethodName := ⟨RX4, "start", "(ZI)I"⟩
set_option maxRecDepth 20000 in
theorem mX4_start : Mok yX4_start cX4_start 3 (some .int) 2 := ⟨lw_gm 937 (by decide +kernel) (by decide +kernel), lw_gm 119 (by decide +kernel) (by decide +kernel), ⟨by decide +kernel, by decide +kernel⟩, by decide +kernel, by decide +kernel⟩
set_option maxRecDepth 20000 in
theorem iX4_start : Iok yX4_start := ⟨lw_gm 936 (by decide +kernel) (by decide +kernel), lw_gm 27 (by decide +kernel) (by decide +kernel)⟩
abbrev cX4_keep : ByteArray := prog_6_method_7_code
def yX4_keep : MethodName := ⟨RX4, "keep", "()V"⟩
set_option maxRecDepth 20000 in
theorem mX4_keep : Mok yX4_keep cX4_keep 1 none 0 := ⟨lw_gm 961 (by decide +kernel) (by decide +kernel), lw_gm 119 (by decide +kernel) (by decide +kernel), ⟨by decide +kernel, by decide +kernel⟩, by decide +kernel, by decide +kernel⟩
set_option maxRecDepth 20000 in
theorem iX4_keep : Iok yX4_keep := ⟨lw_gm 960 (by decide +kernel) (by decide +kernel), lw_gm 30 (by decide +kernel) (by decide +kernel)⟩
abbrev cX4_isPreferred : ByteArray := prog_6_method_8_code
def yX4_isPreferred : MethodName := ⟨RX4, "isPreferred", "()Z"⟩
set_option maxRecDepth 20000 in
theorem mX4_isPreferred : Mok yX4_isPreferred cX4_isPreferred 1 (some .boolean) 0 := ⟨lw_gm 947 (by decide +kernel) (by decide +kernel), lw_gm 119 (by decide +kernel) (by decide +kernel), ⟨by decide +kernel, by decide +kernel⟩, by decide +kernel, by decide +kernel⟩
set_option maxRecDepth 20000 in
theorem iX4_isPreferred : Iok yX4_isPreferred := ⟨lw_gm 946 (by decide +kernel) (by decide +kernel), lw_gm 28 (by decide +kernel) (by decide +kernel)⟩
abbrev cX4_findMatch : ByteArray := prog_6_method_9_code
def yX4_findMatch : MethodName := ⟨RX4, "findMatch", "(IZ)I"⟩
set_option maxRecDepth 20000 in
theorem mX4_findMatch : Mok yX4_findMatch cX4_findMatch 5 (some .int) 2 := ⟨lw_gm 928 (by decide +kernel) (by decide +kernel), lw_gm 119 (by decide +kernel) (by decide +kernel), ⟨by decide +kernel, by decide +kernel⟩, by decide +kernel, by decide +kernel⟩
set_option maxRecDepth 20000 in
theorem iX4_findMatch : Iok yX4_findMatch := ⟨lw_gm 926 (by decide +kernel) (by decide +kernel), lw_gm 927 (by decide +kernel) (by decide +kernel)⟩
abbrev cX4_isMatch : ByteArray := prog_6_method_10_code
def yX4_isMatch : MethodName := ⟨RX4, "isMatch", "(IZ)Z"⟩
set_option maxRecDepth 20000 in
theorem mX4_isMatch : Mok yX4_isMatch cX4_isMatch 5 (some .boolean) 2 := ⟨lw_gm 951 (by decide +kernel) (by decide +kernel), lw_gm 119 (by decide +kernel) (by decide +kernel), ⟨by decide +kernel, by decide +kernel⟩, by decide +kernel, by decide +kernel⟩
set_option maxRecDepth 20000 in
theorem iX4_isMatch : Iok yX4_isMatch := ⟨lw_gm 950 (by decide +kernel) (by decide +kernel), lw_gm 29 (by decide +kernel) (by decide +kernel)⟩
abbrev cX4_findNearest : ByteArray := prog_6_method_11_code
def yX4_findNearest : MethodName := ⟨RX4, "findNearest", "(IZ)J"⟩
set_option maxRecDepth 20000 in
theorem mX4_findNearest : Mok yX4_findNearest cX4_findNearest 9 (some .long) 2 := ⟨lw_gm 985 (by decide +kernel) (by decide +kernel), lw_gm 119 (by decide +kernel) (by decide +kernel), ⟨by decide +kernel, by decide +kernel⟩, by decide +kernel, by decide +kernel⟩
set_option maxRecDepth 20000 in
theorem iX4_findNearest : Iok yX4_findNearest := ⟨lw_gm 983 (by decide +kernel) (by decide +kernel), lw_gm 984 (by decide +kernel) (by decide +kernel)⟩
abbrev cX4_greatestApart : ByteArray := prog_6_method_12_code
def yX4_greatestApart : MethodName := ⟨RX4, "greatestApart", "(IZJ)J"⟩
set_option maxRecDepth 20000 in
theorem mX4_greatestApart : Mok yX4_greatestApart cX4_greatestApart 9 (some .long) 3 := ⟨lw_gm 990 (by decide +kernel) (by decide +kernel), lw_gm 119 (by decide +kernel) (by decide +kernel), ⟨by decide +kernel, by decide +kernel⟩, by decide +kernel, by decide +kernel⟩
set_option maxRecDepth 20000 in
theorem iX4_greatestApart : Iok yX4_greatestApart := ⟨lw_gm 989 (by decide +kernel) (by decide +kernel), lw_gm 33 (by decide +kernel) (by decide +kernel)⟩
abbrev cX4_findTrick : ByteArray := prog_6_method_13_code
def yX4_findTrick : MethodName := ⟨RX4, "findTrick", "(IIZ)J"⟩
set_option maxRecDepth 20000 in
theorem mX4_findTrick : Mok yX4_findTrick cX4_findTrick 11 (some .long) 3 := ⟨lw_gm 1048 (by decide +kernel) (by decide +kernel), lw_gm 119 (by decide +kernel) (by decide +kernel), ⟨by decide +kernel, by decide +kernel⟩, by decide +kernel, by decide +kernel⟩
set_option maxRecDepth 20000 in
theorem iX4_findTrick : Iok yX4_findTrick := ⟨lw_gm 1046 (by decide +kernel) (by decide +kernel), lw_gm 1047 (by decide +kernel) (by decide +kernel)⟩
abbrev cX4_findBest : ByteArray := prog_6_method_14_code
def yX4_findBest : MethodName := ⟨RX4, "findBest", "(IZ)I"⟩
set_option maxRecDepth 20000 in
theorem mX4_findBest : Mok yX4_findBest cX4_findBest 5 (some .int) 2 := ⟨lw_gm 1000 (by decide +kernel) (by decide +kernel), lw_gm 119 (by decide +kernel) (by decide +kernel), ⟨by decide +kernel, by decide +kernel⟩, by decide +kernel, by decide +kernel⟩
set_option maxRecDepth 20000 in
theorem iX4_findBest : Iok yX4_findBest := ⟨lw_gm 998 (by decide +kernel) (by decide +kernel), lw_gm 999 (by decide +kernel) (by decide +kernel)⟩
abbrev cX4_measure : ByteArray := prog_6_method_15_code
def yX4_measure : MethodName := ⟨RX4, "measure", "(IZ)V"⟩
set_option maxRecDepth 20000 in
theorem mX4_measure : Mok yX4_measure cX4_measure 6 none 2 := ⟨lw_gm 1010 (by decide +kernel) (by decide +kernel), lw_gm 119 (by decide +kernel) (by decide +kernel), ⟨by decide +kernel, by decide +kernel⟩, by decide +kernel, by decide +kernel⟩
set_option maxRecDepth 20000 in
theorem iX4_measure : Iok yX4_measure := ⟨lw_gm 1009 (by decide +kernel) (by decide +kernel), lw_gm 34 (by decide +kernel) (by decide +kernel)⟩
abbrev cX4_holdAgainstBest : ByteArray := prog_6_method_16_code
def yX4_holdAgainstBest : MethodName := ⟨RX4, "holdAgainstBest", "()V"⟩
set_option maxRecDepth 20000 in
theorem mX4_holdAgainstBest : Mok yX4_holdAgainstBest cX4_holdAgainstBest 2 none 0 := ⟨lw_gm 1014 (by decide +kernel) (by decide +kernel), lw_gm 119 (by decide +kernel) (by decide +kernel), ⟨by decide +kernel, by decide +kernel⟩, by decide +kernel, by decide +kernel⟩
set_option maxRecDepth 20000 in
theorem iX4_holdAgainstBest : Iok yX4_holdAgainstBest := ⟨lw_gm 1013 (by decide +kernel) (by decide +kernel), lw_gm 35 (by decide +kernel) (by decide +kernel)⟩
abbrev cX4_findRival : ByteArray := prog_6_method_17_code
def yX4_findRival : MethodName := ⟨RX4, "findRival", "()I"⟩
set_option maxRecDepth 20000 in
theorem mX4_findRival : Mok yX4_findRival cX4_findRival 2 (some .int) 0 := ⟨lw_gm 1018 (by decide +kernel) (by decide +kernel), lw_gm 119 (by decide +kernel) (by decide +kernel), ⟨by decide +kernel, by decide +kernel⟩, by decide +kernel, by decide +kernel⟩
set_option maxRecDepth 20000 in
theorem iX4_findRival : Iok yX4_findRival := ⟨lw_gm 1017 (by decide +kernel) (by decide +kernel), lw_gm 36 (by decide +kernel) (by decide +kernel)⟩
abbrev cX4_isNoFarther : ByteArray := prog_6_method_18_code
def yX4_isNoFarther : MethodName := ⟨RX4, "isNoFarther", "([JI[JI)Z"⟩
set_option maxRecDepth 20000 in
theorem mX4_isNoFarther : Mok yX4_isNoFarther cX4_isNoFarther 6 (some .boolean) 4 := ⟨lw_gm 1022 (by decide +kernel) (by decide +kernel), lw_gm 119 (by decide +kernel) (by decide +kernel), ⟨by decide +kernel, by decide +kernel⟩, by decide +kernel, by decide +kernel⟩
set_option maxRecDepth 20000 in
theorem iX4_isNoFarther : Iok yX4_isNoFarther := ⟨lw_gm 1021 (by decide +kernel) (by decide +kernel), lw_gm 37 (by decide +kernel) (by decide +kernel)⟩
abbrev cX4_removeBeaten : ByteArray := prog_6_method_19_code
def yX4_removeBeaten : MethodName := ⟨RX4, "removeBeaten", "()V"⟩
set_option maxRecDepth 20000 in
theorem mX4_removeBeaten : Mok yX4_removeBeaten cX4_removeBeaten 3 none 0 := ⟨lw_gm 1026 (by decide +kernel) (by decide +kernel), lw_gm 119 (by decide +kernel) (by decide +kernel), ⟨by decide +kernel, by decide +kernel⟩, by decide +kernel, by decide +kernel⟩
set_option maxRecDepth 20000 in
theorem iX4_removeBeaten : Iok yX4_removeBeaten := ⟨lw_gm 1025 (by decide +kernel) (by decide +kernel), lw_gm 38 (by decide +kernel) (by decide +kernel)⟩
abbrev cX4_addBest : ByteArray := prog_6_method_20_code
def yX4_addBest : MethodName := ⟨RX4, "addBest", "()V"⟩
set_option maxRecDepth 20000 in
theorem mX4_addBest : Mok yX4_addBest cX4_addBest 4 none 0 := ⟨lw_gm 1030 (by decide +kernel) (by decide +kernel), lw_gm 119 (by decide +kernel) (by decide +kernel), ⟨by decide +kernel, by decide +kernel⟩, by decide +kernel, by decide +kernel⟩
set_option maxRecDepth 20000 in
theorem iX4_addBest : Iok yX4_addBest := ⟨lw_gm 1029 (by decide +kernel) (by decide +kernel), lw_gm 39 (by decide +kernel) (by decide +kernel)⟩
abbrev cX4_layBest : ByteArray := prog_6_method_21_code
def yX4_layBest : MethodName := ⟨RX4, "layBest", "(I)V"⟩
set_option maxRecDepth 20000 in
theorem mX4_layBest : Mok yX4_layBest cX4_layBest 5 none 1 := ⟨lw_gm 1034 (by decide +kernel) (by decide +kernel), lw_gm 119 (by decide +kernel) (by decide +kernel), ⟨by decide +kernel, by decide +kernel⟩, by decide +kernel, by decide +kernel⟩
set_option maxRecDepth 20000 in
theorem iX4_layBest : Iok yX4_layBest := ⟨lw_gm 1032 (by decide +kernel) (by decide +kernel), lw_gm 1033 (by decide +kernel) (by decide +kernel)⟩
abbrev cX5_init : ByteArray := prog_7_method_1_code
def yX5_init : MethodName := ⟨RX5, "<init>", "(II)V"⟩
set_option maxRecDepth 20000 in
theorem mX5_init : Mok yX5_init cX5_init 3 none 2 := ⟨lw_gm 161 (by decide +kernel) (by decide +kernel), lw_gm 110 (by decide +kernel) (by decide +kernel), ⟨by decide +kernel, by decide +kernel⟩, by decide +kernel, by decide +kernel⟩
set_option maxRecDepth 20000 in
theorem iX5_init : Cond.instanceMethod yX5_init ∈ lw_g := lw_gm 160 (by decide +kernel) (by decide +kernel)
abbrev cX5_has : ByteArray := prog_7_method_2_code
def yX5_has : MethodName := ⟨RX5, "has", "(I)Z"⟩
set_option maxRecDepth 20000 in
theorem mX5_has : Mok yX5_has cX5_has 2 (some .boolean) 1 := ⟨lw_gm 859 (by decide +kernel) (by decide +kernel), lw_gm 110 (by decide +kernel) (by decide +kernel), ⟨by decide +kernel, by decide +kernel⟩, by decide +kernel, by decide +kernel⟩
set_option maxRecDepth 20000 in
theorem iX5_has : Iok yX5_has := ⟨lw_gm 857 (by decide +kernel) (by decide +kernel), lw_gm 858 (by decide +kernel) (by decide +kernel)⟩
abbrev cX5_isFull : ByteArray := prog_7_method_3_code
def yX5_isFull : MethodName := ⟨RX5, "isFull", "()Z"⟩
set_option maxRecDepth 20000 in
theorem mX5_isFull : Mok yX5_isFull cX5_isFull 1 (some .boolean) 0 := ⟨lw_gm 782 (by decide +kernel) (by decide +kernel), lw_gm 110 (by decide +kernel) (by decide +kernel), ⟨by decide +kernel, by decide +kernel⟩, by decide +kernel, by decide +kernel⟩
set_option maxRecDepth 20000 in
theorem iX5_isFull : Iok yX5_isFull := ⟨lw_gm 780 (by decide +kernel) (by decide +kernel), lw_gm 781 (by decide +kernel) (by decide +kernel)⟩
abbrev cX5_find : ByteArray := prog_7_method_4_code
def yX5_find : MethodName := ⟨RX5, "find", "(J)I"⟩
set_option maxRecDepth 20000 in
theorem mX5_find : Mok yX5_find cX5_find 4 (some .int) 1 := ⟨lw_gm 786 (by decide +kernel) (by decide +kernel), lw_gm 110 (by decide +kernel) (by decide +kernel), ⟨by decide +kernel, by decide +kernel⟩, by decide +kernel, by decide +kernel⟩
set_option maxRecDepth 20000 in
theorem iX5_find : Iok yX5_find := ⟨lw_gm 784 (by decide +kernel) (by decide +kernel), lw_gm 785 (by decide +kernel) (by decide +kernel)⟩
abbrev cX6_init : ByteArray := prog_8_method_1_code
def yX6_init : MethodName := ⟨RX6, "<init>", "()V"⟩
set_option maxRecDepth 20000 in
theorem mX6_init : Mok yX6_init cX6_init 1 none 0 := ⟨lw_gm 139 (by decide +kernel) (by decide +kernel), lw_gm 108 (by decide +kernel) (by decide +kernel), ⟨by decide +kernel, by decide +kernel⟩, by decide +kernel, by decide +kernel⟩
set_option maxRecDepth 20000 in
theorem iX6_init : Cond.instanceMethod yX6_init ∈ lw_g := lw_gm 138 (by decide +kernel) (by decide +kernel)
abbrev cX6_hasRoom : ByteArray := prog_8_method_2_code
def yX6_hasRoom : MethodName := ⟨RX6, "hasRoom", "(I)Z"⟩
set_option maxRecDepth 20000 in
theorem mX6_hasRoom : Mok yX6_hasRoom cX6_hasRoom 2 (some .boolean) 1 := ⟨lw_gm 675 (by decide +kernel) (by decide +kernel), lw_gm 108 (by decide +kernel) (by decide +kernel), ⟨by decide +kernel, by decide +kernel⟩, by decide +kernel, by decide +kernel⟩
set_option maxRecDepth 20000 in
theorem iX6_hasRoom : Iok yX6_hasRoom := ⟨lw_gm 673 (by decide +kernel) (by decide +kernel), lw_gm 674 (by decide +kernel) (by decide +kernel)⟩
abbrev cX6_put : ByteArray := prog_8_method_3_code
def yX6_put : MethodName := ⟨RX6, "put", "(I)V"⟩
set_option maxRecDepth 20000 in
theorem mX6_put : Mok yX6_put cX6_put 3 none 1 := ⟨lw_gm 679 (by decide +kernel) (by decide +kernel), lw_gm 108 (by decide +kernel) (by decide +kernel), ⟨by decide +kernel, by decide +kernel⟩, by decide +kernel, by decide +kernel⟩
set_option maxRecDepth 20000 in
theorem iX6_put : Iok yX6_put := ⟨lw_gm 677 (by decide +kernel) (by decide +kernel), lw_gm 678 (by decide +kernel) (by decide +kernel)⟩
abbrev cX6_signAt : ByteArray := prog_8_method_4_code
def yX6_signAt : MethodName := ⟨RX6, "signAt", "(I)I"⟩
set_option maxRecDepth 20000 in
theorem mX6_signAt : Mok yX6_signAt cX6_signAt 2 (some .int) 1 := ⟨lw_gm 700 (by decide +kernel) (by decide +kernel), lw_gm 108 (by decide +kernel) (by decide +kernel), ⟨by decide +kernel, by decide +kernel⟩, by decide +kernel, by decide +kernel⟩
set_option maxRecDepth 20000 in
theorem iX6_signAt : Iok yX6_signAt := ⟨lw_gm 698 (by decide +kernel) (by decide +kernel), lw_gm 699 (by decide +kernel) (by decide +kernel)⟩
abbrev cX7_init : ByteArray := prog_9_method_1_code
def yX7_init : MethodName := ⟨RX7, "<init>", "()V"⟩
set_option maxRecDepth 20000 in
theorem mX7_init : Mok yX7_init cX7_init 1 none 0 := ⟨lw_gm 283 (by decide +kernel) (by decide +kernel), lw_gm 112 (by decide +kernel) (by decide +kernel), ⟨by decide +kernel, by decide +kernel⟩, by decide +kernel, by decide +kernel⟩
set_option maxRecDepth 20000 in
theorem iX7_init : Cond.instanceMethod yX7_init ∈ lw_g := lw_gm 282 (by decide +kernel) (by decide +kernel)
abbrev cX7_pack : ByteArray := prog_9_method_2_code
def yX7_pack : MethodName := ⟨RX7, "pack", "(Ljava/lang/String;)J"⟩
set_option maxRecDepth 20000 in
theorem mX7_pack : Mok yX7_pack cX7_pack 4 (some .long) 1 := ⟨lw_gm 288 (by decide +kernel) (by decide +kernel), lw_gm 112 (by decide +kernel) (by decide +kernel), ⟨by decide +kernel, by decide +kernel⟩, by decide +kernel, by decide +kernel⟩
set_option maxRecDepth 20000 in
theorem sX7_pack : Cond.static yX7_pack ∈ lw_g := lw_gm 287 (by decide +kernel) (by decide +kernel)
abbrev cX7_addLetter : ByteArray := prog_9_method_3_code
def yX7_addLetter : MethodName := ⟨RX7, "addLetter", "(JI)J"⟩
set_option maxRecDepth 20000 in
theorem mX7_addLetter : Mok yX7_addLetter cX7_addLetter 3 (some .long) 2 := ⟨lw_gm 339 (by decide +kernel) (by decide +kernel), lw_gm 112 (by decide +kernel) (by decide +kernel), ⟨by decide +kernel, by decide +kernel⟩, by decide +kernel, by decide +kernel⟩
set_option maxRecDepth 20000 in
theorem sX7_addLetter : Cond.static yX7_addLetter ∈ lw_g := lw_gm 338 (by decide +kernel) (by decide +kernel)
abbrev cX7_isLetter : ByteArray := prog_9_method_4_code
def yX7_isLetter : MethodName := ⟨RX7, "isLetter", "(I)Z"⟩
set_option maxRecDepth 20000 in
theorem mX7_isLetter : Mok yX7_isLetter cX7_isLetter 1 (some .boolean) 1 := ⟨lw_gm 710 (by decide +kernel) (by decide +kernel), lw_gm 112 (by decide +kernel) (by decide +kernel), ⟨by decide +kernel, by decide +kernel⟩, by decide +kernel, by decide +kernel⟩
set_option maxRecDepth 20000 in
theorem sX7_isLetter : Cond.static yX7_isLetter ∈ lw_g := lw_gm 709 (by decide +kernel) (by decide +kernel)
abbrev cX7_isDigit : ByteArray := prog_9_method_5_code
def yX7_isDigit : MethodName := ⟨RX7, "isDigit", "(I)Z"⟩
set_option maxRecDepth 20000 in
theorem mX7_isDigit : Mok yX7_isDigit cX7_isDigit 1 (some .boolean) 1 := ⟨lw_gm 721 (by decide +kernel) (by decide +kernel), lw_gm 112 (by decide +kernel) (by decide +kernel), ⟨by decide +kernel, by decide +kernel⟩, by decide +kernel, by decide +kernel⟩
set_option maxRecDepth 20000 in
theorem sX7_isDigit : Cond.static yX7_isDigit ∈ lw_g := lw_gm 720 (by decide +kernel) (by decide +kernel)
abbrev cX7_isBlank : ByteArray := prog_9_method_6_code
def yX7_isBlank : MethodName := ⟨RX7, "isBlank", "(I)Z"⟩
set_option maxRecDepth 20000 in
theorem mX7_isBlank : Mok yX7_isBlank cX7_isBlank 1 (some .boolean) 1 := ⟨lw_gm 703 (by decide +kernel) (by decide +kernel), lw_gm 112 (by decide +kernel) (by decide +kernel), ⟨by decide +kernel, by decide +kernel⟩, by decide +kernel, by decide +kernel⟩
set_option maxRecDepth 20000 in
theorem sX7_isBlank : Cond.static yX7_isBlank ∈ lw_g := lw_gm 702 (by decide +kernel) (by decide +kernel)
abbrev cX7_scan : ByteArray := prog_9_method_7_code
def yX7_scan : MethodName := ⟨RX7, "scan", "(LDyeLamps$Tape;)V"⟩
set_option maxRecDepth 20000 in
theorem mX7_scan : Mok yX7_scan cX7_scan 4 none 1 := ⟨lw_gm 696 (by decide +kernel) (by decide +kernel), lw_gm 112 (by decide +kernel) (by decide +kernel), ⟨by decide +kernel, by decide +kernel⟩, by decide +kernel, by decide +kernel⟩
set_option maxRecDepth 20000 in
theorem iX7_scan : Iok yX7_scan := ⟨lw_gm 694 (by decide +kernel) (by decide +kernel), lw_gm 695 (by decide +kernel) (by decide +kernel)⟩
abbrev cX7_readToken : ByteArray := prog_9_method_8_code
def yX7_readToken : MethodName := ⟨RX7, "readToken", "(LDyeLamps$Tape;I)I"⟩
set_option maxRecDepth 20000 in
theorem mX7_readToken : Mok yX7_readToken cX7_readToken 4 (some .int) 2 := ⟨lw_gm 707 (by decide +kernel) (by decide +kernel), lw_gm 112 (by decide +kernel) (by decide +kernel), ⟨by decide +kernel, by decide +kernel⟩, by decide +kernel, by decide +kernel⟩
set_option maxRecDepth 20000 in
theorem iX7_readToken : Iok yX7_readToken := ⟨lw_gm 706 (by decide +kernel) (by decide +kernel), lw_gm 0 (by decide +kernel) (by decide +kernel)⟩
abbrev cX7_readWord : ByteArray := prog_9_method_9_code
def yX7_readWord : MethodName := ⟨RX7, "readWord", "(LDyeLamps$Tape;I)I"⟩
set_option maxRecDepth 20000 in
theorem mX7_readWord : Mok yX7_readWord cX7_readWord 6 (some .int) 2 := ⟨lw_gm 714 (by decide +kernel) (by decide +kernel), lw_gm 112 (by decide +kernel) (by decide +kernel), ⟨by decide +kernel, by decide +kernel⟩, by decide +kernel, by decide +kernel⟩
set_option maxRecDepth 20000 in
theorem iX7_readWord : Iok yX7_readWord := ⟨lw_gm 713 (by decide +kernel) (by decide +kernel), lw_gm 1 (by decide +kernel) (by decide +kernel)⟩
abbrev cX7_kindOf : ByteArray := prog_9_method_10_code
def yX7_kindOf : MethodName := ⟨RX7, "kindOf", "(J)I"⟩
set_option maxRecDepth 20000 in
theorem mX7_kindOf : Mok yX7_kindOf cX7_kindOf 4 (some .int) 1 := ⟨lw_gm 718 (by decide +kernel) (by decide +kernel), lw_gm 112 (by decide +kernel) (by decide +kernel), ⟨by decide +kernel, by decide +kernel⟩, by decide +kernel, by decide +kernel⟩
set_option maxRecDepth 20000 in
theorem iX7_kindOf : Iok yX7_kindOf := ⟨lw_gm 717 (by decide +kernel) (by decide +kernel), lw_gm 2 (by decide +kernel) (by decide +kernel)⟩
abbrev cX7_readNumber : ByteArray := prog_9_method_11_code
def yX7_readNumber : MethodName := ⟨RX7, "readNumber", "(LDyeLamps$Tape;I)I"⟩
set_option maxRecDepth 20000 in
theorem mX7_readNumber : Mok yX7_readNumber cX7_readNumber 7 (some .int) 2 := ⟨lw_gm 725 (by decide +kernel) (by decide +kernel), lw_gm 112 (by decide +kernel) (by decide +kernel), ⟨by decide +kernel, by decide +kernel⟩, by decide +kernel, by decide +kernel⟩
set_option maxRecDepth 20000 in
theorem iX7_readNumber : Iok yX7_readNumber := ⟨lw_gm 724 (by decide +kernel) (by decide +kernel), lw_gm 3 (by decide +kernel) (by decide +kernel)⟩
abbrev cX8_init : ByteArray := prog_10_method_1_code
def yX8_init : MethodName := ⟨RX8, "<init>", "()V"⟩
set_option maxRecDepth 20000 in
theorem mX8_init : Mok yX8_init cX8_init 1 none 0 := ⟨lw_gm 598 (by decide +kernel) (by decide +kernel), lw_gm 121 (by decide +kernel) (by decide +kernel), ⟨by decide +kernel, by decide +kernel⟩, by decide +kernel, by decide +kernel⟩
set_option maxRecDepth 20000 in
theorem iX8_init : Cond.instanceMethod yX8_init ∈ lw_g := lw_gm 597 (by decide +kernel) (by decide +kernel)
abbrev cX8_putOn : ByteArray := prog_10_method_2_code
def yX8_putOn : MethodName := ⟨RX8, "putOn", "(I)V"⟩
set_option maxRecDepth 20000 in
theorem mX8_putOn : Mok yX8_putOn cX8_putOn 2 none 1 := ⟨lw_gm 603 (by decide +kernel) (by decide +kernel), lw_gm 121 (by decide +kernel) (by decide +kernel), ⟨by decide +kernel, by decide +kernel⟩, by decide +kernel, by decide +kernel⟩
set_option maxRecDepth 20000 in
theorem iX8_putOn : Iok yX8_putOn := ⟨lw_gm 601 (by decide +kernel) (by decide +kernel), lw_gm 602 (by decide +kernel) (by decide +kernel)⟩
abbrev cX8_copyOf : ByteArray := prog_10_method_3_code
def yX8_copyOf : MethodName := ⟨RX8, "copyOf", "(LDyeLamps$Vat;)V"⟩
set_option maxRecDepth 20000 in
theorem mX8_copyOf : Mok yX8_copyOf cX8_copyOf 2 none 1 := ⟨lw_gm 1113 (by decide +kernel) (by decide +kernel), lw_gm 121 (by decide +kernel) (by decide +kernel), ⟨by decide +kernel, by decide +kernel⟩, by decide +kernel, by decide +kernel⟩
set_option maxRecDepth 20000 in
theorem iX8_copyOf : Iok yX8_copyOf := ⟨lw_gm 1111 (by decide +kernel) (by decide +kernel), lw_gm 1112 (by decide +kernel) (by decide +kernel)⟩
abbrev cX8_total : ByteArray := prog_10_method_4_code
def yX8_total : MethodName := ⟨RX8, "total", "()I"⟩
set_option maxRecDepth 20000 in
theorem mX8_total : Mok yX8_total cX8_total 3 (some .int) 0 := ⟨lw_gm 1084 (by decide +kernel) (by decide +kernel), lw_gm 121 (by decide +kernel) (by decide +kernel), ⟨by decide +kernel, by decide +kernel⟩, by decide +kernel, by decide +kernel⟩
set_option maxRecDepth 20000 in
theorem iX8_total : Iok yX8_total := ⟨lw_gm 1082 (by decide +kernel) (by decide +kernel), lw_gm 1083 (by decide +kernel) (by decide +kernel)⟩
abbrev cX8_drawOfTen : ByteArray := prog_10_method_5_code
def yX8_drawOfTen : MethodName := ⟨RX8, "drawOfTen", "()I"⟩
set_option maxRecDepth 20000 in
theorem mX8_drawOfTen : Mok yX8_drawOfTen cX8_drawOfTen 1 (some .int) 0 := ⟨lw_gm 1088 (by decide +kernel) (by decide +kernel), lw_gm 121 (by decide +kernel) (by decide +kernel), ⟨by decide +kernel, by decide +kernel⟩, by decide +kernel, by decide +kernel⟩
set_option maxRecDepth 20000 in
theorem iX8_drawOfTen : Iok yX8_drawOfTen := ⟨lw_gm 1086 (by decide +kernel) (by decide +kernel), lw_gm 1087 (by decide +kernel) (by decide +kernel)⟩
abbrev cX8_fadeOneDay : ByteArray := prog_10_method_6_code
def yX8_fadeOneDay : MethodName := ⟨RX8, "fadeOneDay", "(LDyeLamps$Bench;)I"⟩
set_option maxRecDepth 20000 in
theorem mX8_fadeOneDay : Mok yX8_fadeOneDay cX8_fadeOneDay 5 (some .int) 1 := ⟨lw_gm 1097 (by decide +kernel) (by decide +kernel), lw_gm 121 (by decide +kernel) (by decide +kernel), ⟨by decide +kernel, by decide +kernel⟩, by decide +kernel, by decide +kernel⟩
set_option maxRecDepth 20000 in
theorem iX8_fadeOneDay : Iok yX8_fadeOneDay := ⟨lw_gm 1095 (by decide +kernel) (by decide +kernel), lw_gm 1096 (by decide +kernel) (by decide +kernel)⟩
abbrev cX9_init : ByteArray := prog_11_method_1_code
def yX9_init : MethodName := ⟨RX9, "<init>", "(LDyeLamps$Bench;)V"⟩
set_option maxRecDepth 20000 in
theorem mX9_init : Mok yX9_init cX9_init 2 none 1 := ⟨lw_gm 497 (by decide +kernel) (by decide +kernel), lw_gm 120 (by decide +kernel) (by decide +kernel), ⟨by decide +kernel, by decide +kernel⟩, by decide +kernel, by decide +kernel⟩
set_option maxRecDepth 20000 in
theorem iX9_init : Cond.instanceMethod yX9_init ∈ lw_g := lw_gm 496 (by decide +kernel) (by decide +kernel)
abbrev cX9_start : ByteArray := prog_11_method_2_code
def yX9_start : MethodName := ⟨RX9, "start", "(LDyeLamps$Bench;III)V"⟩
set_option maxRecDepth 20000 in
theorem mX9_start : Mok yX9_start cX9_start 5 none 4 := ⟨lw_gm 941 (by decide +kernel) (by decide +kernel), lw_gm 120 (by decide +kernel) (by decide +kernel), ⟨by decide +kernel, by decide +kernel⟩, by decide +kernel, by decide +kernel⟩
set_option maxRecDepth 20000 in
theorem iX9_start : Iok yX9_start := ⟨lw_gm 939 (by decide +kernel) (by decide +kernel), lw_gm 940 (by decide +kernel) (by decide +kernel)⟩
abbrev cX9_advance : ByteArray := prog_11_method_3_code
def yX9_advance : MethodName := ⟨RX9, "advance", "()V"⟩
set_option maxRecDepth 20000 in
theorem mX9_advance : Mok yX9_advance cX9_advance 2 none 0 := ⟨lw_gm 968 (by decide +kernel) (by decide +kernel), lw_gm 120 (by decide +kernel) (by decide +kernel), ⟨by decide +kernel, by decide +kernel⟩, by decide +kernel, by decide +kernel⟩
set_option maxRecDepth 20000 in
theorem iX9_advance : Iok yX9_advance := ⟨lw_gm 966 (by decide +kernel) (by decide +kernel), lw_gm 967 (by decide +kernel) (by decide +kernel)⟩
abbrev cX9_raise : ByteArray := prog_11_method_4_code
def yX9_raise : MethodName := ⟨RX9, "raise", "(I)V"⟩
set_option maxRecDepth 20000 in
theorem mX9_raise : Mok yX9_raise cX9_raise 3 none 1 := ⟨lw_gm 972 (by decide +kernel) (by decide +kernel), lw_gm 120 (by decide +kernel) (by decide +kernel), ⟨by decide +kernel, by decide +kernel⟩, by decide +kernel, by decide +kernel⟩
set_option maxRecDepth 20000 in
theorem iX9_raise : Iok yX9_raise := ⟨lw_gm 971 (by decide +kernel) (by decide +kernel), lw_gm 31 (by decide +kernel) (by decide +kernel)⟩
abbrev cX9_takeOut : ByteArray := prog_11_method_5_code
def yX9_takeOut : MethodName := ⟨RX9, "takeOut", "(I)V"⟩
set_option maxRecDepth 20000 in
theorem mX9_takeOut : Mok yX9_takeOut cX9_takeOut 2 none 1 := ⟨lw_gm 977 (by decide +kernel) (by decide +kernel), lw_gm 120 (by decide +kernel) (by decide +kernel), ⟨by decide +kernel, by decide +kernel⟩, by decide +kernel, by decide +kernel⟩
set_option maxRecDepth 20000 in
theorem iX9_takeOut : Iok yX9_takeOut := ⟨lw_gm 976 (by decide +kernel) (by decide +kernel), lw_gm 32 (by decide +kernel) (by decide +kernel)⟩
abbrev cX9_thrownBack : ByteArray := prog_11_method_6_code
def yX9_thrownBack : MethodName := ⟨RX9, "thrownBack", "()[I"⟩
set_option maxRecDepth 20000 in
theorem mX9_thrownBack : Mok yX9_thrownBack cX9_thrownBack 1 (some (.array .int)) 0 := ⟨lw_gm 955 (by decide +kernel) (by decide +kernel), lw_gm 120 (by decide +kernel) (by decide +kernel), ⟨by decide +kernel, by decide +kernel⟩, by decide +kernel, by decide +kernel⟩
set_option maxRecDepth 20000 in
theorem iX9_thrownBack : Iok yX9_thrownBack := ⟨lw_gm 953 (by decide +kernel) (by decide +kernel), lw_gm 954 (by decide +kernel) (by decide +kernel)⟩
abbrev cX10_init : ByteArray := prog_1_method_1_code
def yX10_init : MethodName := ⟨RX10, "<init>", "()V"⟩
set_option maxRecDepth 20000 in
theorem mX10_init : Mok yX10_init cX10_init 2 none 0 := ⟨lw_gm 131 (by decide +kernel) (by decide +kernel), lw_gm 107 (by decide +kernel) (by decide +kernel), ⟨by decide +kernel, by decide +kernel⟩, by decide +kernel, by decide +kernel⟩
set_option maxRecDepth 20000 in
theorem iX10_init : Cond.instanceMethod yX10_init ∈ lw_g := lw_gm 130 (by decide +kernel) (by decide +kernel)
abbrev cX10_feed : ByteArray := prog_1_method_2_code
def yX10_feed : MethodName := ⟨RX10, "feed", "(IIIII)I"⟩
set_option maxRecDepth 20000 in
theorem mX10_feed : Mok yX10_feed cX10_feed 6 (some .int) 5 := ⟨lw_gm 671 (by decide +kernel) (by decide +kernel), lw_gm 107 (by decide +kernel) (by decide +kernel), ⟨by decide +kernel, by decide +kernel⟩, by decide +kernel, by decide +kernel⟩
set_option maxRecDepth 20000 in
theorem iX10_feed : Iok yX10_feed := ⟨lw_gm 669 (by decide +kernel) (by decide +kernel), lw_gm 670 (by decide +kernel) (by decide +kernel)⟩
abbrev cX10_end : ByteArray := prog_1_method_3_code
def yX10_end : MethodName := ⟨RX10, "end", "(I)I"⟩
set_option maxRecDepth 20000 in
theorem mX10_end : Mok yX10_end cX10_end 2 (some .int) 1 := ⟨lw_gm 683 (by decide +kernel) (by decide +kernel), lw_gm 107 (by decide +kernel) (by decide +kernel), ⟨by decide +kernel, by decide +kernel⟩, by decide +kernel, by decide +kernel⟩
set_option maxRecDepth 20000 in
theorem iX10_end : Iok yX10_end := ⟨lw_gm 681 (by decide +kernel) (by decide +kernel), lw_gm 682 (by decide +kernel) (by decide +kernel)⟩
abbrev cX10_bench : ByteArray := prog_1_method_4_code
def yX10_bench : MethodName := ⟨RX10, "bench", "()I"⟩
set_option maxRecDepth 20000 in
theorem mX10_bench : Mok yX10_bench cX10_bench 3 (some .int) 0 := ⟨lw_gm 687 (by decide +kernel) (by decide +kernel), lw_gm 107 (by decide +kernel) (by decide +kernel), ⟨by decide +kernel, by decide +kernel⟩, by decide +kernel, by decide +kernel⟩
set_option maxRecDepth 20000 in
theorem iX10_bench : Iok yX10_bench := ⟨lw_gm 685 (by decide +kernel) (by decide +kernel), lw_gm 686 (by decide +kernel) (by decide +kernel)⟩
abbrev cX10_fault : ByteArray := prog_1_method_5_code
def yX10_fault : MethodName := ⟨RX10, "fault", "(I)I"⟩
set_option maxRecDepth 20000 in
theorem mX10_fault : Mok yX10_fault cX10_fault 2 (some .int) 1 := ⟨lw_gm 843 (by decide +kernel) (by decide +kernel), lw_gm 107 (by decide +kernel) (by decide +kernel), ⟨by decide +kernel, by decide +kernel⟩, by decide +kernel, by decide +kernel⟩
set_option maxRecDepth 20000 in
theorem iX10_fault : Iok yX10_fault := ⟨lw_gm 841 (by decide +kernel) (by decide +kernel), lw_gm 842 (by decide +kernel) (by decide +kernel)⟩
abbrev cX10_startAnew : ByteArray := prog_1_method_6_code
def yX10_startAnew : MethodName := ⟨RX10, "startAnew", "()V"⟩
set_option maxRecDepth 20000 in
theorem mX10_startAnew : Mok yX10_startAnew cX10_startAnew 2 none 0 := ⟨lw_gm 810 (by decide +kernel) (by decide +kernel), lw_gm 107 (by decide +kernel) (by decide +kernel), ⟨by decide +kernel, by decide +kernel⟩, by decide +kernel, by decide +kernel⟩
set_option maxRecDepth 20000 in
theorem iX10_startAnew : Iok yX10_startAnew := ⟨lw_gm 809 (by decide +kernel) (by decide +kernel), lw_gm 21 (by decide +kernel) (by decide +kernel)⟩
abbrev cX10_throwsBack : ByteArray := prog_1_method_7_code
def yX10_throwsBack : MethodName := ⟨RX10, "throwsBack", "(II)I"⟩
set_option maxRecDepth 20000 in
theorem mX10_throwsBack : Mok yX10_throwsBack cX10_throwsBack 4 (some .int) 2 := ⟨lw_gm 847 (by decide +kernel) (by decide +kernel), lw_gm 107 (by decide +kernel) (by decide +kernel), ⟨by decide +kernel, by decide +kernel⟩, by decide +kernel, by decide +kernel⟩
set_option maxRecDepth 20000 in
theorem iX10_throwsBack : Iok yX10_throwsBack := ⟨lw_gm 845 (by decide +kernel) (by decide +kernel), lw_gm 846 (by decide +kernel) (by decide +kernel)⟩
abbrev cX10_seen : ByteArray := prog_1_method_8_code
def yX10_seen : MethodName := ⟨RX10, "seen", "(III)J"⟩
set_option maxRecDepth 20000 in
theorem mX10_seen : Mok yX10_seen cX10_seen 5 (some .long) 3 := ⟨lw_gm 864 (by decide +kernel) (by decide +kernel), lw_gm 107 (by decide +kernel) (by decide +kernel), ⟨by decide +kernel, by decide +kernel⟩, by decide +kernel, by decide +kernel⟩
set_option maxRecDepth 20000 in
theorem iX10_seen : Iok yX10_seen := ⟨lw_gm 862 (by decide +kernel) (by decide +kernel), lw_gm 863 (by decide +kernel) (by decide +kernel)⟩
abbrev cX10_apart : ByteArray := prog_1_method_9_code
def yX10_apart : MethodName := ⟨RX10, "apart", "(IIIZ)J"⟩
set_option maxRecDepth 20000 in
theorem mX10_apart : Mok yX10_apart cX10_apart 7 (some .long) 4 := ⟨lw_gm 873 (by decide +kernel) (by decide +kernel), lw_gm 107 (by decide +kernel) (by decide +kernel), ⟨by decide +kernel, by decide +kernel⟩, by decide +kernel, by decide +kernel⟩
set_option maxRecDepth 20000 in
theorem iX10_apart : Iok yX10_apart := ⟨lw_gm 871 (by decide +kernel) (by decide +kernel), lw_gm 872 (by decide +kernel) (by decide +kernel)⟩
abbrev cX10_alike : ByteArray := prog_1_method_10_code
def yX10_alike : MethodName := ⟨RX10, "alike", "(IIZ)I"⟩
set_option maxRecDepth 20000 in
theorem mX10_alike : Mok yX10_alike cX10_alike 8 (some .int) 3 := ⟨lw_gm 887 (by decide +kernel) (by decide +kernel), lw_gm 107 (by decide +kernel) (by decide +kernel), ⟨by decide +kernel, by decide +kernel⟩, by decide +kernel, by decide +kernel⟩
set_option maxRecDepth 20000 in
theorem iX10_alike : Iok yX10_alike := ⟨lw_gm 885 (by decide +kernel) (by decide +kernel), lw_gm 886 (by decide +kernel) (by decide +kernel)⟩
abbrev cX10_cost : ByteArray := prog_1_method_11_code
def yX10_cost : MethodName := ⟨RX10, "cost", "(I)I"⟩
set_option maxRecDepth 20000 in
theorem mX10_cost : Mok yX10_cost cX10_cost 2 (some .int) 1 := ⟨lw_gm 897 (by decide +kernel) (by decide +kernel), lw_gm 107 (by decide +kernel) (by decide +kernel), ⟨by decide +kernel, by decide +kernel⟩, by decide +kernel, by decide +kernel⟩
set_option maxRecDepth 20000 in
theorem iX10_cost : Iok yX10_cost := ⟨lw_gm 895 (by decide +kernel) (by decide +kernel), lw_gm 896 (by decide +kernel) (by decide +kernel)⟩
abbrev cX10_canBeLookedAt : ByteArray := prog_1_method_12_code
def yX10_canBeLookedAt : MethodName := ⟨RX10, "canBeLookedAt", "(I)Z"⟩
set_option maxRecDepth 20000 in
theorem mX10_canBeLookedAt : Mok yX10_canBeLookedAt cX10_canBeLookedAt 2 (some .boolean) 1 := ⟨lw_gm 855 (by decide +kernel) (by decide +kernel), lw_gm 107 (by decide +kernel) (by decide +kernel), ⟨by decide +kernel, by decide +kernel⟩, by decide +kernel, by decide +kernel⟩
set_option maxRecDepth 20000 in
theorem iX10_canBeLookedAt : Iok yX10_canBeLookedAt := ⟨lw_gm 854 (by decide +kernel) (by decide +kernel), lw_gm 24 (by decide +kernel) (by decide +kernel)⟩
abbrev cX10_rowOf : ByteArray := prog_1_method_13_code
def yX10_rowOf : MethodName := ⟨RX10, "rowOf", "(I)[I"⟩
set_option maxRecDepth 20000 in
theorem mX10_rowOf : Mok yX10_rowOf cX10_rowOf 2 (some (.array .int)) 1 := ⟨lw_gm 851 (by decide +kernel) (by decide +kernel), lw_gm 107 (by decide +kernel) (by decide +kernel), ⟨by decide +kernel, by decide +kernel⟩, by decide +kernel, by decide +kernel⟩
set_option maxRecDepth 20000 in
theorem iX10_rowOf : Iok yX10_rowOf := ⟨lw_gm 850 (by decide +kernel) (by decide +kernel), lw_gm 23 (by decide +kernel) (by decide +kernel)⟩
abbrev cX10_ask : ByteArray := prog_1_method_14_code
def yX10_ask : MethodName := ⟨RX10, "ask", "(IIII)Z"⟩
set_option maxRecDepth 20000 in
theorem mX10_ask : Mok yX10_ask cX10_ask 5 (some .boolean) 4 := ⟨lw_gm 905 (by decide +kernel) (by decide +kernel), lw_gm 107 (by decide +kernel) (by decide +kernel), ⟨by decide +kernel, by decide +kernel⟩, by decide +kernel, by decide +kernel⟩
set_option maxRecDepth 20000 in
theorem iX10_ask : Iok yX10_ask := ⟨lw_gm 903 (by decide +kernel) (by decide +kernel), lw_gm 904 (by decide +kernel) (by decide +kernel)⟩
abbrev cX10_mixes : ByteArray := prog_1_method_15_code
def yX10_mixes : MethodName := ⟨RX10, "mixes", "()I"⟩
set_option maxRecDepth 20000 in
theorem mX10_mixes : Mok yX10_mixes cX10_mixes 1 (some .int) 0 := ⟨lw_gm 920 (by decide +kernel) (by decide +kernel), lw_gm 107 (by decide +kernel) (by decide +kernel), ⟨by decide +kernel, by decide +kernel⟩, by decide +kernel, by decide +kernel⟩
set_option maxRecDepth 20000 in
theorem iX10_mixes : Iok yX10_mixes := ⟨lw_gm 918 (by decide +kernel) (by decide +kernel), lw_gm 919 (by decide +kernel) (by decide +kernel)⟩
abbrev cX10_match : ByteArray := prog_1_method_16_code
def yX10_match : MethodName := ⟨RX10, "match", "(IZ)I"⟩
set_option maxRecDepth 20000 in
theorem mX10_match : Mok yX10_match cX10_match 3 (some .int) 2 := ⟨lw_gm 924 (by decide +kernel) (by decide +kernel), lw_gm 107 (by decide +kernel) (by decide +kernel), ⟨by decide +kernel, by decide +kernel⟩, by decide +kernel, by decide +kernel⟩
set_option maxRecDepth 20000 in
theorem iX10_match : Iok yX10_match := ⟨lw_gm 922 (by decide +kernel) (by decide +kernel), lw_gm 923 (by decide +kernel) (by decide +kernel)⟩
abbrev cX10_nearest : ByteArray := prog_1_method_17_code
def yX10_nearest : MethodName := ⟨RX10, "nearest", "(IZ)J"⟩
set_option maxRecDepth 20000 in
theorem mX10_nearest : Mok yX10_nearest cX10_nearest 3 (some .long) 2 := ⟨lw_gm 981 (by decide +kernel) (by decide +kernel), lw_gm 107 (by decide +kernel) (by decide +kernel), ⟨by decide +kernel, by decide +kernel⟩, by decide +kernel, by decide +kernel⟩
set_option maxRecDepth 20000 in
theorem iX10_nearest : Iok yX10_nearest := ⟨lw_gm 979 (by decide +kernel) (by decide +kernel), lw_gm 980 (by decide +kernel) (by decide +kernel)⟩
abbrev cX10_best : ByteArray := prog_1_method_18_code
def yX10_best : MethodName := ⟨RX10, "best", "(IZ)I"⟩
set_option maxRecDepth 20000 in
theorem mX10_best : Mok yX10_best cX10_best 3 (some .int) 2 := ⟨lw_gm 996 (by decide +kernel) (by decide +kernel), lw_gm 107 (by decide +kernel) (by decide +kernel), ⟨by decide +kernel, by decide +kernel⟩, by decide +kernel, by decide +kernel⟩
set_option maxRecDepth 20000 in
theorem iX10_best : Iok yX10_best := ⟨lw_gm 994 (by decide +kernel) (by decide +kernel), lw_gm 995 (by decide +kernel) (by decide +kernel)⟩
abbrev cX10_pick : ByteArray := prog_1_method_19_code
def yX10_pick : MethodName := ⟨RX10, "pick", "(I)I"⟩
set_option maxRecDepth 20000 in
theorem mX10_pick : Mok yX10_pick cX10_pick 2 (some .int) 1 := ⟨lw_gm 1039 (by decide +kernel) (by decide +kernel), lw_gm 107 (by decide +kernel) (by decide +kernel), ⟨by decide +kernel, by decide +kernel⟩, by decide +kernel, by decide +kernel⟩
set_option maxRecDepth 20000 in
theorem iX10_pick : Iok yX10_pick := ⟨lw_gm 1037 (by decide +kernel) (by decide +kernel), lw_gm 1038 (by decide +kernel) (by decide +kernel)⟩
abbrev cX10_trick : ByteArray := prog_1_method_20_code
def yX10_trick : MethodName := ⟨RX10, "trick", "(IIZ)J"⟩
set_option maxRecDepth 20000 in
theorem mX10_trick : Mok yX10_trick cX10_trick 4 (some .long) 3 := ⟨lw_gm 1044 (by decide +kernel) (by decide +kernel), lw_gm 107 (by decide +kernel) (by decide +kernel), ⟨by decide +kernel, by decide +kernel⟩, by decide +kernel, by decide +kernel⟩
set_option maxRecDepth 20000 in
theorem iX10_trick : Iok yX10_trick := ⟨lw_gm 1042 (by decide +kernel) (by decide +kernel), lw_gm 1043 (by decide +kernel) (by decide +kernel)⟩
abbrev cX10_parts : ByteArray := prog_1_method_21_code
def yX10_parts : MethodName := ⟨RX10, "parts", "(I)I"⟩
set_option maxRecDepth 20000 in
theorem mX10_parts : Mok yX10_parts cX10_parts 2 (some .int) 1 := ⟨lw_gm 1054 (by decide +kernel) (by decide +kernel), lw_gm 107 (by decide +kernel) (by decide +kernel), ⟨by decide +kernel, by decide +kernel⟩, by decide +kernel, by decide +kernel⟩
set_option maxRecDepth 20000 in
theorem iX10_parts : Iok yX10_parts := ⟨lw_gm 1052 (by decide +kernel) (by decide +kernel), lw_gm 1053 (by decide +kernel) (by decide +kernel)⟩
abbrev cX10_betray : ByteArray := prog_1_method_22_code
def yX10_betray : MethodName := ⟨RX10, "betray", "(IIZ)J"⟩
set_option maxRecDepth 20000 in
theorem mX10_betray : Mok yX10_betray cX10_betray 11 (some .long) 3 := ⟨lw_gm 1058 (by decide +kernel) (by decide +kernel), lw_gm 107 (by decide +kernel) (by decide +kernel), ⟨by decide +kernel, by decide +kernel⟩, by decide +kernel, by decide +kernel⟩
set_option maxRecDepth 20000 in
theorem iX10_betray : Iok yX10_betray := ⟨lw_gm 1056 (by decide +kernel) (by decide +kernel), lw_gm 1057 (by decide +kernel) (by decide +kernel)⟩
abbrev cX10_weight : ByteArray := prog_1_method_23_code
def yX10_weight : MethodName := ⟨RX10, "weight", "(I)I"⟩
set_option maxRecDepth 20000 in
theorem mX10_weight : Mok yX10_weight cX10_weight 2 (some .int) 1 := ⟨lw_gm 1068 (by decide +kernel) (by decide +kernel), lw_gm 107 (by decide +kernel) (by decide +kernel), ⟨by decide +kernel, by decide +kernel⟩, by decide +kernel, by decide +kernel⟩
set_option maxRecDepth 20000 in
theorem iX10_weight : Iok yX10_weight := ⟨lw_gm 1066 (by decide +kernel) (by decide +kernel), lw_gm 1067 (by decide +kernel) (by decide +kernel)⟩
abbrev cX10_lamp : ByteArray := prog_1_method_24_code
def yX10_lamp : MethodName := ⟨RX10, "lamp", "(IIZ)I"⟩
set_option maxRecDepth 20000 in
theorem mX10_lamp : Mok yX10_lamp cX10_lamp 9 (some .int) 3 := ⟨lw_gm 1072 (by decide +kernel) (by decide +kernel), lw_gm 107 (by decide +kernel) (by decide +kernel), ⟨by decide +kernel, by decide +kernel⟩, by decide +kernel, by decide +kernel⟩
set_option maxRecDepth 20000 in
theorem iX10_lamp : Iok yX10_lamp := ⟨lw_gm 1070 (by decide +kernel) (by decide +kernel), lw_gm 1071 (by decide +kernel) (by decide +kernel)⟩
abbrev cX10_set : ByteArray := prog_1_method_25_code
def yX10_set : MethodName := ⟨RX10, "set", "(I)Z"⟩
set_option maxRecDepth 20000 in
theorem mX10_set : Mok yX10_set cX10_set 2 (some .boolean) 1 := ⟨lw_gm 1076 (by decide +kernel) (by decide +kernel), lw_gm 107 (by decide +kernel) (by decide +kernel), ⟨by decide +kernel, by decide +kernel⟩, by decide +kernel, by decide +kernel⟩
set_option maxRecDepth 20000 in
theorem iX10_set : Iok yX10_set := ⟨lw_gm 1074 (by decide +kernel) (by decide +kernel), lw_gm 1075 (by decide +kernel) (by decide +kernel)⟩
abbrev cX10_drop : ByteArray := prog_1_method_26_code
def yX10_drop : MethodName := ⟨RX10, "drop", "(II)I"⟩
set_option maxRecDepth 20000 in
theorem mX10_drop : Mok yX10_drop cX10_drop 4 (some .int) 2 := ⟨lw_gm 1080 (by decide +kernel) (by decide +kernel), lw_gm 107 (by decide +kernel) (by decide +kernel), ⟨by decide +kernel, by decide +kernel⟩, by decide +kernel, by decide +kernel⟩
set_option maxRecDepth 20000 in
theorem iX10_drop : Iok yX10_drop := ⟨lw_gm 1078 (by decide +kernel) (by decide +kernel), lw_gm 1079 (by decide +kernel) (by decide +kernel)⟩
abbrev cX10_days : ByteArray := prog_1_method_27_code
def yX10_days : MethodName := ⟨RX10, "days", "(I)I"⟩
set_option maxRecDepth 20000 in
theorem mX10_days : Mok yX10_days cX10_days 4 (some .int) 1 := ⟨lw_gm 1093 (by decide +kernel) (by decide +kernel), lw_gm 107 (by decide +kernel) (by decide +kernel), ⟨by decide +kernel, by decide +kernel⟩, by decide +kernel, by decide +kernel⟩
set_option maxRecDepth 20000 in
theorem iX10_days : Iok yX10_days := ⟨lw_gm 1091 (by decide +kernel) (by decide +kernel), lw_gm 1092 (by decide +kernel) (by decide +kernel)⟩
abbrev cX10_vat : ByteArray := prog_1_method_28_code
def yX10_vat : MethodName := ⟨RX10, "vat", "(I)I"⟩
set_option maxRecDepth 20000 in
theorem mX10_vat : Mok yX10_vat cX10_vat 2 (some .int) 1 := ⟨lw_gm 1101 (by decide +kernel) (by decide +kernel), lw_gm 107 (by decide +kernel) (by decide +kernel), ⟨by decide +kernel, by decide +kernel⟩, by decide +kernel, by decide +kernel⟩
set_option maxRecDepth 20000 in
theorem iX10_vat : Iok yX10_vat := ⟨lw_gm 1099 (by decide +kernel) (by decide +kernel), lw_gm 1100 (by decide +kernel) (by decide +kernel)⟩
abbrev cX10_seed : ByteArray := prog_1_method_29_code
def yX10_seed : MethodName := ⟨RX10, "seed", "(I)I"⟩
set_option maxRecDepth 20000 in
theorem mX10_seed : Mok yX10_seed cX10_seed 3 (some .int) 1 := ⟨lw_gm 1105 (by decide +kernel) (by decide +kernel), lw_gm 107 (by decide +kernel) (by decide +kernel), ⟨by decide +kernel, by decide +kernel⟩, by decide +kernel, by decide +kernel⟩
set_option maxRecDepth 20000 in
theorem iX10_seed : Iok yX10_seed := ⟨lw_gm 1103 (by decide +kernel) (by decide +kernel), lw_gm 1104 (by decide +kernel) (by decide +kernel)⟩
abbrev cX10_image : ByteArray := prog_1_method_30_code
def yX10_image : MethodName := ⟨RX10, "image", "(I)I"⟩
set_option maxRecDepth 20000 in
theorem mX10_image : Mok yX10_image cX10_image 2 (some .int) 1 := ⟨lw_gm 1109 (by decide +kernel) (by decide +kernel), lw_gm 107 (by decide +kernel) (by decide +kernel), ⟨by decide +kernel, by decide +kernel⟩, by decide +kernel, by decide +kernel⟩
set_option maxRecDepth 20000 in
theorem iX10_image : Iok yX10_image := ⟨lw_gm 1107 (by decide +kernel) (by decide +kernel), lw_gm 1108 (by decide +kernel) (by decide +kernel)⟩
abbrev cX10_back : ByteArray := prog_1_method_31_code
def yX10_back : MethodName := ⟨RX10, "back", "(I)I"⟩
set_option maxRecDepth 20000 in
theorem mX10_back : Mok yX10_back cX10_back 2 (some .int) 1 := ⟨lw_gm 1118 (by decide +kernel) (by decide +kernel), lw_gm 107 (by decide +kernel) (by decide +kernel), ⟨by decide +kernel, by decide +kernel⟩, by decide +kernel, by decide +kernel⟩
set_option maxRecDepth 20000 in
theorem iX10_back : Iok yX10_back := ⟨lw_gm 1116 (by decide +kernel) (by decide +kernel), lw_gm 1117 (by decide +kernel) (by decide +kernel)⟩
abbrev cX10_old : ByteArray := prog_1_method_32_code
def yX10_old : MethodName := ⟨RX10, "old", "()I"⟩
set_option maxRecDepth 20000 in
theorem mX10_old : Mok yX10_old cX10_old 1 (some .int) 0 := ⟨lw_gm 1122 (by decide +kernel) (by decide +kernel), lw_gm 107 (by decide +kernel) (by decide +kernel), ⟨by decide +kernel, by decide +kernel⟩, by decide +kernel, by decide +kernel⟩
set_option maxRecDepth 20000 in
theorem iX10_old : Iok yX10_old := ⟨lw_gm 1120 (by decide +kernel) (by decide +kernel), lw_gm 1121 (by decide +kernel) (by decide +kernel)⟩
abbrev cX10_oldOne : ByteArray := prog_1_method_33_code
def yX10_oldOne : MethodName := ⟨RX10, "oldOne", "(II)I"⟩
set_option maxRecDepth 20000 in
theorem mX10_oldOne : Mok yX10_oldOne cX10_oldOne 3 (some .int) 2 := ⟨lw_gm 1126 (by decide +kernel) (by decide +kernel), lw_gm 107 (by decide +kernel) (by decide +kernel), ⟨by decide +kernel, by decide +kernel⟩, by decide +kernel, by decide +kernel⟩
set_option maxRecDepth 20000 in
theorem iX10_oldOne : Iok yX10_oldOne := ⟨lw_gm 1124 (by decide +kernel) (by decide +kernel), lw_gm 1125 (by decide +kernel) (by decide +kernel)⟩
abbrev cX10_look : ByteArray := prog_1_method_34_code
def yX10_look : MethodName := ⟨RX10, "look", "(IIII)I"⟩
set_option maxRecDepth 20000 in
theorem mX10_look : Mok yX10_look cX10_look 5 (some .int) 4 := ⟨lw_gm 1130 (by decide +kernel) (by decide +kernel), lw_gm 107 (by decide +kernel) (by decide +kernel), ⟨by decide +kernel, by decide +kernel⟩, by decide +kernel, by decide +kernel⟩
set_option maxRecDepth 20000 in
theorem iX10_look : Iok yX10_look := ⟨lw_gm 1128 (by decide +kernel) (by decide +kernel), lw_gm 1129 (by decide +kernel) (by decide +kernel)⟩
abbrev cX10_untell : ByteArray := prog_1_method_35_code
def yX10_untell : MethodName := ⟨RX10, "untell", "(I)Z"⟩
set_option maxRecDepth 20000 in
theorem mX10_untell : Mok yX10_untell cX10_untell 2 (some .boolean) 1 := ⟨lw_gm 1144 (by decide +kernel) (by decide +kernel), lw_gm 107 (by decide +kernel) (by decide +kernel), ⟨by decide +kernel, by decide +kernel⟩, by decide +kernel, by decide +kernel⟩
set_option maxRecDepth 20000 in
theorem iX10_untell : Iok yX10_untell := ⟨lw_gm 1142 (by decide +kernel) (by decide +kernel), lw_gm 1143 (by decide +kernel) (by decide +kernel)⟩
abbrev cX10_later : ByteArray := prog_1_method_36_code
def yX10_later : MethodName := ⟨RX10, "later", "(I)I"⟩
set_option maxRecDepth 20000 in
theorem mX10_later : Mok yX10_later cX10_later 2 (some .int) 1 := ⟨lw_gm 1152 (by decide +kernel) (by decide +kernel), lw_gm 107 (by decide +kernel) (by decide +kernel), ⟨by decide +kernel, by decide +kernel⟩, by decide +kernel, by decide +kernel⟩
set_option maxRecDepth 20000 in
theorem iX10_later : Iok yX10_later := ⟨lw_gm 1150 (by decide +kernel) (by decide +kernel), lw_gm 1151 (by decide +kernel) (by decide +kernel)⟩
abbrev cX10_agree : ByteArray := prog_1_method_37_code
def yX10_agree : MethodName := ⟨RX10, "agree", "(I)I"⟩
set_option maxRecDepth 20000 in
theorem mX10_agree : Mok yX10_agree cX10_agree 2 (some .int) 1 := ⟨lw_gm 1157 (by decide +kernel) (by decide +kernel), lw_gm 107 (by decide +kernel) (by decide +kernel), ⟨by decide +kernel, by decide +kernel⟩, by decide +kernel, by decide +kernel⟩
set_option maxRecDepth 20000 in
theorem iX10_agree : Iok yX10_agree := ⟨lw_gm 1155 (by decide +kernel) (by decide +kernel), lw_gm 1156 (by decide +kernel) (by decide +kernel)⟩
abbrev cX10_agrees : ByteArray := prog_1_method_38_code
def yX10_agrees : MethodName := ⟨RX10, "agrees", "(II)I"⟩
set_option maxRecDepth 20000 in
theorem mX10_agrees : Mok yX10_agrees cX10_agrees 4 (some .int) 2 := ⟨lw_gm 1176 (by decide +kernel) (by decide +kernel), lw_gm 107 (by decide +kernel) (by decide +kernel), ⟨by decide +kernel, by decide +kernel⟩, by decide +kernel, by decide +kernel⟩
set_option maxRecDepth 20000 in
theorem iX10_agrees : Iok yX10_agrees := ⟨lw_gm 1174 (by decide +kernel) (by decide +kernel), lw_gm 1175 (by decide +kernel) (by decide +kernel)⟩
abbrev cX10_next : ByteArray := prog_1_method_39_code
def yX10_next : MethodName := ⟨RX10, "next", "(II)I"⟩
set_option maxRecDepth 20000 in
theorem mX10_next : Mok yX10_next cX10_next 3 (some .int) 2 := ⟨lw_gm 1180 (by decide +kernel) (by decide +kernel), lw_gm 107 (by decide +kernel) (by decide +kernel), ⟨by decide +kernel, by decide +kernel⟩, by decide +kernel, by decide +kernel⟩
set_option maxRecDepth 20000 in
theorem iX10_next : Iok yX10_next := ⟨lw_gm 1178 (by decide +kernel) (by decide +kernel), lw_gm 1179 (by decide +kernel) (by decide +kernel)⟩
abbrev cX10_about : ByteArray := prog_1_method_40_code
def yX10_about : MethodName := ⟨RX10, "about", "(I)I"⟩
set_option maxRecDepth 20000 in
theorem mX10_about : Mok yX10_about cX10_about 2 (some .int) 1 := ⟨lw_gm 1195 (by decide +kernel) (by decide +kernel), lw_gm 107 (by decide +kernel) (by decide +kernel), ⟨by decide +kernel, by decide +kernel⟩, by decide +kernel, by decide +kernel⟩
set_option maxRecDepth 20000 in
theorem iX10_about : Iok yX10_about := ⟨lw_gm 1193 (by decide +kernel) (by decide +kernel), lw_gm 1194 (by decide +kernel) (by decide +kernel)⟩
abbrev cX11_init : ByteArray := prog_13_method_1_code
def yX11_init : MethodName := ⟨RX11, "<init>", "()V"⟩
set_option maxRecDepth 20000 in
theorem mX11_init : Mok yX11_init cX11_init 1 none 0 := ⟨lw_gm 1200 (by decide +kernel) (by decide +kernel), lw_gm 123 (by decide +kernel) (by decide +kernel), ⟨by decide +kernel, by decide +kernel⟩, by decide +kernel, by decide +kernel⟩
set_option maxRecDepth 20000 in
theorem iX11_init : Cond.instanceMethod yX11_init ∈ lw_g := lw_gm 1199 (by decide +kernel) (by decide +kernel)
abbrev cX11_feed : ByteArray := prog_13_method_2_code
def yX11_feed : MethodName := ⟨RX11, "feed", "(IIIII)I"⟩
set_option maxRecDepth 20000 in
theorem mX11_feed : Mok yX11_feed cX11_feed 6 (some .int) 5 := ⟨lw_gm 1469 (by decide +kernel) (by decide +kernel), lw_gm 123 (by decide +kernel) (by decide +kernel), ⟨by decide +kernel, by decide +kernel⟩, by decide +kernel, by decide +kernel⟩
set_option maxRecDepth 20000 in
theorem iX11_feed : Iok yX11_feed := ⟨lw_gm 1467 (by decide +kernel) (by decide +kernel), lw_gm 1468 (by decide +kernel) (by decide +kernel)⟩
abbrev cX11_four : ByteArray := prog_13_method_3_code
def yX11_four : MethodName := ⟨RX11, "four", "(I)V"⟩
set_option maxRecDepth 20000 in
theorem mX11_four : Mok yX11_four cX11_four 3 none 1 := ⟨lw_gm 1473 (by decide +kernel) (by decide +kernel), lw_gm 123 (by decide +kernel) (by decide +kernel), ⟨by decide +kernel, by decide +kernel⟩, by decide +kernel, by decide +kernel⟩
set_option maxRecDepth 20000 in
theorem iX11_four : Iok yX11_four := ⟨lw_gm 1472 (by decide +kernel) (by decide +kernel), lw_gm 43 (by decide +kernel) (by decide +kernel)⟩
abbrev cX11_end : ByteArray := prog_13_method_4_code
def yX11_end : MethodName := ⟨RX11, "end", "(I)I"⟩
set_option maxRecDepth 20000 in
theorem mX11_end : Mok yX11_end cX11_end 2 (some .int) 1 := ⟨lw_gm 1477 (by decide +kernel) (by decide +kernel), lw_gm 123 (by decide +kernel) (by decide +kernel), ⟨by decide +kernel, by decide +kernel⟩, by decide +kernel, by decide +kernel⟩
set_option maxRecDepth 20000 in
theorem iX11_end : Iok yX11_end := ⟨lw_gm 1475 (by decide +kernel) (by decide +kernel), lw_gm 1476 (by decide +kernel) (by decide +kernel)⟩
abbrev cX11_here : ByteArray := prog_13_method_5_code
def yX11_here : MethodName := ⟨RX11, "here", "(I)I"⟩
set_option maxRecDepth 20000 in
theorem mX11_here : Mok yX11_here cX11_here 2 (some .int) 1 := ⟨lw_gm 1493 (by decide +kernel) (by decide +kernel), lw_gm 123 (by decide +kernel) (by decide +kernel), ⟨by decide +kernel, by decide +kernel⟩, by decide +kernel, by decide +kernel⟩
set_option maxRecDepth 20000 in
theorem iX11_here : Iok yX11_here := ⟨lw_gm 1492 (by decide +kernel) (by decide +kernel), lw_gm 46 (by decide +kernel) (by decide +kernel)⟩
abbrev cX11_isLetter : ByteArray := prog_13_method_6_code
def yX11_isLetter : MethodName := ⟨RX11, "isLetter", "(I)Z"⟩
set_option maxRecDepth 20000 in
theorem mX11_isLetter : Mok yX11_isLetter cX11_isLetter 1 (some .boolean) 1 := ⟨lw_gm 1496 (by decide +kernel) (by decide +kernel), lw_gm 123 (by decide +kernel) (by decide +kernel), ⟨by decide +kernel, by decide +kernel⟩, by decide +kernel, by decide +kernel⟩
set_option maxRecDepth 20000 in
theorem sX11_isLetter : Cond.static yX11_isLetter ∈ lw_g := lw_gm 1495 (by decide +kernel) (by decide +kernel)
abbrev cX11_isDigit : ByteArray := prog_13_method_7_code
def yX11_isDigit : MethodName := ⟨RX11, "isDigit", "(I)Z"⟩
set_option maxRecDepth 20000 in
theorem mX11_isDigit : Mok yX11_isDigit cX11_isDigit 1 (some .boolean) 1 := ⟨lw_gm 1499 (by decide +kernel) (by decide +kernel), lw_gm 123 (by decide +kernel) (by decide +kernel), ⟨by decide +kernel, by decide +kernel⟩, by decide +kernel, by decide +kernel⟩
set_option maxRecDepth 20000 in
theorem sX11_isDigit : Cond.static yX11_isDigit ∈ lw_g := lw_gm 1498 (by decide +kernel) (by decide +kernel)
abbrev cX11_token : ByteArray := prog_13_method_8_code
def yX11_token : MethodName := ⟨RX11, "token", "()V"⟩
set_option maxRecDepth 20000 in
theorem mX11_token : Mok yX11_token cX11_token 3 none 0 := ⟨lw_gm 1489 (by decide +kernel) (by decide +kernel), lw_gm 123 (by decide +kernel) (by decide +kernel), ⟨by decide +kernel, by decide +kernel⟩, by decide +kernel, by decide +kernel⟩
set_option maxRecDepth 20000 in
theorem iX11_token : Iok yX11_token := ⟨lw_gm 1488 (by decide +kernel) (by decide +kernel), lw_gm 45 (by decide +kernel) (by decide +kernel)⟩
abbrev cX11_wrong : ByteArray := prog_13_method_9_code
def yX11_wrong : MethodName := ⟨RX11, "wrong", "(I)V"⟩
set_option maxRecDepth 20000 in
theorem mX11_wrong : Mok yX11_wrong cX11_wrong 2 none 1 := ⟨lw_gm 1535 (by decide +kernel) (by decide +kernel), lw_gm 123 (by decide +kernel) (by decide +kernel), ⟨by decide +kernel, by decide +kernel⟩, by decide +kernel, by decide +kernel⟩
set_option maxRecDepth 20000 in
theorem iX11_wrong : Iok yX11_wrong := ⟨lw_gm 1534 (by decide +kernel) (by decide +kernel), lw_gm 54 (by decide +kernel) (by decide +kernel)⟩
abbrev cX11_isWord : ByteArray := prog_13_method_10_code
def yX11_isWord : MethodName := ⟨RX11, "isWord", "(J)Z"⟩
set_option maxRecDepth 20000 in
theorem mX11_isWord : Mok yX11_isWord cX11_isWord 3 (some .boolean) 1 := ⟨lw_gm 1512 (by decide +kernel) (by decide +kernel), lw_gm 123 (by decide +kernel) (by decide +kernel), ⟨by decide +kernel, by decide +kernel⟩, by decide +kernel, by decide +kernel⟩
set_option maxRecDepth 20000 in
theorem iX11_isWord : Iok yX11_isWord := ⟨lw_gm 1511 (by decide +kernel) (by decide +kernel), lw_gm 49 (by decide +kernel) (by decide +kernel)⟩
abbrev cX11_isName : ByteArray := prog_13_method_11_code
def yX11_isName : MethodName := ⟨RX11, "isName", "()Z"⟩
set_option maxRecDepth 20000 in
theorem mX11_isName : Mok yX11_isName cX11_isName 3 (some .boolean) 0 := ⟨lw_gm 1548 (by decide +kernel) (by decide +kernel), lw_gm 123 (by decide +kernel) (by decide +kernel), ⟨by decide +kernel, by decide +kernel⟩, by decide +kernel, by decide +kernel⟩
set_option maxRecDepth 20000 in
theorem iX11_isName : Iok yX11_isName := ⟨lw_gm 1547 (by decide +kernel) (by decide +kernel), lw_gm 57 (by decide +kernel) (by decide +kernel)⟩
abbrev cX11_want : ByteArray := prog_13_method_12_code
def yX11_want : MethodName := ⟨RX11, "want", "(J)V"⟩
set_option maxRecDepth 20000 in
theorem mX11_want : Mok yX11_want cX11_want 3 none 1 := ⟨lw_gm 1569 (by decide +kernel) (by decide +kernel), lw_gm 123 (by decide +kernel) (by decide +kernel), ⟨by decide +kernel, by decide +kernel⟩, by decide +kernel, by decide +kernel⟩
set_option maxRecDepth 20000 in
theorem iX11_want : Iok yX11_want := ⟨lw_gm 1568 (by decide +kernel) (by decide +kernel), lw_gm 60 (by decide +kernel) (by decide +kernel)⟩
abbrev cX11_toldNumber : ByteArray := prog_13_method_13_code
def yX11_toldNumber : MethodName := ⟨RX11, "toldNumber", "(II)I"⟩
set_option maxRecDepth 20000 in
theorem mX11_toldNumber : Mok yX11_toldNumber cX11_toldNumber 4 (some .int) 2 := ⟨lw_gm 1531 (by decide +kernel) (by decide +kernel), lw_gm 123 (by decide +kernel) (by decide +kernel), ⟨by decide +kernel, by decide +kernel⟩, by decide +kernel, by decide +kernel⟩
set_option maxRecDepth 20000 in
theorem iX11_toldNumber : Iok yX11_toldNumber := ⟨lw_gm 1530 (by decide +kernel) (by decide +kernel), lw_gm 53 (by decide +kernel) (by decide +kernel)⟩
abbrev cX11_told : ByteArray := prog_13_method_14_code
def yX11_told : MethodName := ⟨RX11, "told", "(JII)I"⟩
set_option maxRecDepth 20000 in
theorem mX11_told : Mok yX11_told cX11_told 5 (some .int) 3 := ⟨lw_gm 1565 (by decide +kernel) (by decide +kernel), lw_gm 123 (by decide +kernel) (by decide +kernel), ⟨by decide +kernel, by decide +kernel⟩, by decide +kernel, by decide +kernel⟩
set_option maxRecDepth 20000 in
theorem iX11_told : Iok yX11_told := ⟨lw_gm 1564 (by decide +kernel) (by decide +kernel), lw_gm 59 (by decide +kernel) (by decide +kernel)⟩
abbrev cX11_find : ByteArray := prog_13_method_15_code
def yX11_find : MethodName := ⟨RX11, "find", "(I)I"⟩
set_option maxRecDepth 20000 in
theorem mX11_find : Mok yX11_find cX11_find 4 (some .int) 1 := ⟨lw_gm 1561 (by decide +kernel) (by decide +kernel), lw_gm 123 (by decide +kernel) (by decide +kernel), ⟨by decide +kernel, by decide +kernel⟩, by decide +kernel, by decide +kernel⟩
set_option maxRecDepth 20000 in
theorem iX11_find : Iok yX11_find := ⟨lw_gm 1560 (by decide +kernel) (by decide +kernel), lw_gm 58 (by decide +kernel) (by decide +kernel)⟩
abbrev cX11_readName : ByteArray := prog_13_method_16_code
def yX11_readName : MethodName := ⟨RX11, "readName", "(I)V"⟩
set_option maxRecDepth 20000 in
theorem mX11_readName : Mok yX11_readName cX11_readName 2 none 1 := ⟨lw_gm 1544 (by decide +kernel) (by decide +kernel), lw_gm 123 (by decide +kernel) (by decide +kernel), ⟨by decide +kernel, by decide +kernel⟩, by decide +kernel, by decide +kernel⟩
set_option maxRecDepth 20000 in
theorem iX11_readName : Iok yX11_readName := ⟨lw_gm 1543 (by decide +kernel) (by decide +kernel), lw_gm 56 (by decide +kernel) (by decide +kernel)⟩
abbrev cX11_readBands : ByteArray := prog_13_method_17_code
def yX11_readBands : MethodName := ⟨RX11, "readBands", "([III)V"⟩
set_option maxRecDepth 20000 in
theorem mX11_readBands : Mok yX11_readBands cX11_readBands 5 none 3 := ⟨lw_gm 1573 (by decide +kernel) (by decide +kernel), lw_gm 123 (by decide +kernel) (by decide +kernel), ⟨by decide +kernel, by decide +kernel⟩, by decide +kernel, by decide +kernel⟩
set_option maxRecDepth 20000 in
theorem iX11_readBands : Iok yX11_readBands := ⟨lw_gm 1572 (by decide +kernel) (by decide +kernel), lw_gm 61 (by decide +kernel) (by decide +kernel)⟩
abbrev cX11_readDye : ByteArray := prog_13_method_18_code
def yX11_readDye : MethodName := ⟨RX11, "readDye", "()V"⟩
set_option maxRecDepth 20000 in
theorem mX11_readDye : Mok yX11_readDye cX11_readDye 2 none 0 := ⟨lw_gm 1540 (by decide +kernel) (by decide +kernel), lw_gm 123 (by decide +kernel) (by decide +kernel), ⟨by decide +kernel, by decide +kernel⟩, by decide +kernel, by decide +kernel⟩
set_option maxRecDepth 20000 in
theorem iX11_readDye : Iok yX11_readDye := ⟨lw_gm 1539 (by decide +kernel) (by decide +kernel), lw_gm 55 (by decide +kernel) (by decide +kernel)⟩
abbrev cX11_readRow : ByteArray := prog_13_method_19_code
def yX11_readRow : MethodName := ⟨RX11, "readRow", "(I[II)V"⟩
set_option maxRecDepth 20000 in
theorem mX11_readRow : Mok yX11_readRow cX11_readRow 4 none 3 := ⟨lw_gm 1577 (by decide +kernel) (by decide +kernel), lw_gm 123 (by decide +kernel) (by decide +kernel), ⟨by decide +kernel, by decide +kernel⟩, by decide +kernel, by decide +kernel⟩
set_option maxRecDepth 20000 in
theorem iX11_readRow : Iok yX11_readRow := ⟨lw_gm 1576 (by decide +kernel) (by decide +kernel), lw_gm 62 (by decide +kernel) (by decide +kernel)⟩
abbrev cX11_readGood : ByteArray := prog_13_method_20_code
def yX11_readGood : MethodName := ⟨RX11, "readGood", "()V"⟩
set_option maxRecDepth 20000 in
theorem mX11_readGood : Mok yX11_readGood cX11_readGood 6 none 0 := ⟨lw_gm 1581 (by decide +kernel) (by decide +kernel), lw_gm 123 (by decide +kernel) (by decide +kernel), ⟨by decide +kernel, by decide +kernel⟩, by decide +kernel, by decide +kernel⟩
set_option maxRecDepth 20000 in
theorem iX11_readGood : Iok yX11_readGood := ⟨lw_gm 1580 (by decide +kernel) (by decide +kernel), lw_gm 63 (by decide +kernel) (by decide +kernel)⟩
abbrev cX11_hasRows : ByteArray := prog_13_method_21_code
def yX11_hasRows : MethodName := ⟨RX11, "hasRows", "()Z"⟩
set_option maxRecDepth 20000 in
theorem mX11_hasRows : Mok yX11_hasRows cX11_hasRows 1 (some .boolean) 0 := ⟨lw_gm 1516 (by decide +kernel) (by decide +kernel), lw_gm 123 (by decide +kernel) (by decide +kernel), ⟨by decide +kernel, by decide +kernel⟩, by decide +kernel, by decide +kernel⟩
set_option maxRecDepth 20000 in
theorem iX11_hasRows : Iok yX11_hasRows := ⟨lw_gm 1515 (by decide +kernel) (by decide +kernel), lw_gm 50 (by decide +kernel) (by decide +kernel)⟩
abbrev cX11_readNumber : ByteArray := prog_13_method_22_code
def yX11_readNumber : MethodName := ⟨RX11, "readNumber", "(II)I"⟩
set_option maxRecDepth 20000 in
theorem mX11_readNumber : Mok yX11_readNumber cX11_readNumber 3 (some .int) 2 := ⟨lw_gm 1527 (by decide +kernel) (by decide +kernel), lw_gm 123 (by decide +kernel) (by decide +kernel), ⟨by decide +kernel, by decide +kernel⟩, by decide +kernel, by decide +kernel⟩
set_option maxRecDepth 20000 in
theorem iX11_readNumber : Iok yX11_readNumber := ⟨lw_gm 1526 (by decide +kernel) (by decide +kernel), lw_gm 52 (by decide +kernel) (by decide +kernel)⟩
abbrev cX11_readOver : ByteArray := prog_13_method_23_code
def yX11_readOver : MethodName := ⟨RX11, "readOver", "()V"⟩
set_option maxRecDepth 20000 in
theorem mX11_readOver : Mok yX11_readOver cX11_readOver 1 none 0 := ⟨lw_gm 1585 (by decide +kernel) (by decide +kernel), lw_gm 123 (by decide +kernel) (by decide +kernel), ⟨by decide +kernel, by decide +kernel⟩, by decide +kernel, by decide +kernel⟩
set_option maxRecDepth 20000 in
theorem iX11_readOver : Iok yX11_readOver := ⟨lw_gm 1584 (by decide +kernel) (by decide +kernel), lw_gm 64 (by decide +kernel) (by decide +kernel)⟩
abbrev cX11_isNumberLine : ByteArray := prog_13_method_24_code
def yX11_isNumberLine : MethodName := ⟨RX11, "isNumberLine", "()Z"⟩
set_option maxRecDepth 20000 in
theorem mX11_isNumberLine : Mok yX11_isNumberLine cX11_isNumberLine 1 (some .boolean) 0 := ⟨lw_gm 1507 (by decide +kernel) (by decide +kernel), lw_gm 123 (by decide +kernel) (by decide +kernel), ⟨by decide +kernel, by decide +kernel⟩, by decide +kernel, by decide +kernel⟩
set_option maxRecDepth 20000 in
theorem iX11_isNumberLine : Iok yX11_isNumberLine := ⟨lw_gm 1506 (by decide +kernel) (by decide +kernel), lw_gm 48 (by decide +kernel) (by decide +kernel)⟩
abbrev cX11_readNumberLine : ByteArray := prog_13_method_25_code
def yX11_readNumberLine : MethodName := ⟨RX11, "readNumberLine", "()V"⟩
set_option maxRecDepth 20000 in
theorem mX11_readNumberLine : Mok yX11_readNumberLine cX11_readNumberLine 1 none 0 := ⟨lw_gm 1523 (by decide +kernel) (by decide +kernel), lw_gm 123 (by decide +kernel) (by decide +kernel), ⟨by decide +kernel, by decide +kernel⟩, by decide +kernel, by decide +kernel⟩
set_option maxRecDepth 20000 in
theorem iX11_readNumberLine : Iok yX11_readNumberLine := ⟨lw_gm 1522 (by decide +kernel) (by decide +kernel), lw_gm 51 (by decide +kernel) (by decide +kernel)⟩
abbrev cX11_readLine : ByteArray := prog_13_method_26_code
def yX11_readLine : MethodName := ⟨RX11, "readLine", "()V"⟩
set_option maxRecDepth 20000 in
theorem mX11_readLine : Mok yX11_readLine cX11_readLine 1 none 0 := ⟨lw_gm 1503 (by decide +kernel) (by decide +kernel), lw_gm 123 (by decide +kernel) (by decide +kernel), ⟨by decide +kernel, by decide +kernel⟩, by decide +kernel, by decide +kernel⟩
set_option maxRecDepth 20000 in
theorem iX11_readLine : Iok yX11_readLine := ⟨lw_gm 1502 (by decide +kernel) (by decide +kernel), lw_gm 47 (by decide +kernel) (by decide +kernel)⟩
abbrev cX11_readAll : ByteArray := prog_13_method_27_code
def yX11_readAll : MethodName := ⟨RX11, "readAll", "()V"⟩
set_option maxRecDepth 20000 in
theorem mX11_readAll : Mok yX11_readAll cX11_readAll 2 none 0 := ⟨lw_gm 1485 (by decide +kernel) (by decide +kernel), lw_gm 123 (by decide +kernel) (by decide +kernel), ⟨by decide +kernel, by decide +kernel⟩, by decide +kernel, by decide +kernel⟩
set_option maxRecDepth 20000 in
theorem iX11_readAll : Iok yX11_readAll := ⟨lw_gm 1484 (by decide +kernel) (by decide +kernel), lw_gm 44 (by decide +kernel) (by decide +kernel)⟩
abbrev cX11_bench : ByteArray := prog_13_method_28_code
def yX11_bench : MethodName := ⟨RX11, "bench", "()I"⟩
set_option maxRecDepth 20000 in
theorem mX11_bench : Mok yX11_bench cX11_bench 2 (some .int) 0 := ⟨lw_gm 1481 (by decide +kernel) (by decide +kernel), lw_gm 123 (by decide +kernel) (by decide +kernel), ⟨by decide +kernel, by decide +kernel⟩, by decide +kernel, by decide +kernel⟩
set_option maxRecDepth 20000 in
theorem iX11_bench : Iok yX11_bench := ⟨lw_gm 1479 (by decide +kernel) (by decide +kernel), lw_gm 1480 (by decide +kernel) (by decide +kernel)⟩
abbrev cX11_fault : ByteArray := prog_13_method_29_code
def yX11_fault : MethodName := ⟨RX11, "fault", "(I)I"⟩
set_option maxRecDepth 20000 in
theorem mX11_fault : Mok yX11_fault cX11_fault 2 (some .int) 1 := ⟨lw_gm 1605 (by decide +kernel) (by decide +kernel), lw_gm 123 (by decide +kernel) (by decide +kernel), ⟨by decide +kernel, by decide +kernel⟩, by decide +kernel, by decide +kernel⟩
set_option maxRecDepth 20000 in
theorem iX11_fault : Iok yX11_fault := ⟨lw_gm 1603 (by decide +kernel) (by decide +kernel), lw_gm 1604 (by decide +kernel) (by decide +kernel)⟩
abbrev cX11_dyes : ByteArray := prog_13_method_30_code
def yX11_dyes : MethodName := ⟨RX11, "dyes", "()I"⟩
set_option maxRecDepth 20000 in
theorem mX11_dyes : Mok yX11_dyes cX11_dyes 1 (some .int) 0 := ⟨lw_gm 1601 (by decide +kernel) (by decide +kernel), lw_gm 123 (by decide +kernel) (by decide +kernel), ⟨by decide +kernel, by decide +kernel⟩, by decide +kernel, by decide +kernel⟩
set_option maxRecDepth 20000 in
theorem iX11_dyes : Iok yX11_dyes := ⟨lw_gm 1600 (by decide +kernel) (by decide +kernel), lw_gm 68 (by decide +kernel) (by decide +kernel)⟩
abbrev cX11_lamps : ByteArray := prog_13_method_31_code
def yX11_lamps : MethodName := ⟨RX11, "lamps", "()I"⟩
set_option maxRecDepth 20000 in
theorem mX11_lamps : Mok yX11_lamps cX11_lamps 1 (some .int) 0 := ⟨lw_gm 1644 (by decide +kernel) (by decide +kernel), lw_gm 123 (by decide +kernel) (by decide +kernel), ⟨by decide +kernel, by decide +kernel⟩, by decide +kernel, by decide +kernel⟩
set_option maxRecDepth 20000 in
theorem iX11_lamps : Iok yX11_lamps := ⟨lw_gm 1643 (by decide +kernel) (by decide +kernel), lw_gm 75 (by decide +kernel) (by decide +kernel)⟩
abbrev cX11_eyes : ByteArray := prog_13_method_32_code
def yX11_eyes : MethodName := ⟨RX11, "eyes", "()I"⟩
set_option maxRecDepth 20000 in
theorem mX11_eyes : Mok yX11_eyes cX11_eyes 1 (some .int) 0 := ⟨lw_gm 1652 (by decide +kernel) (by decide +kernel), lw_gm 123 (by decide +kernel) (by decide +kernel), ⟨by decide +kernel, by decide +kernel⟩, by decide +kernel, by decide +kernel⟩
set_option maxRecDepth 20000 in
theorem iX11_eyes : Iok yX11_eyes := ⟨lw_gm 1651 (by decide +kernel) (by decide +kernel), lw_gm 77 (by decide +kernel) (by decide +kernel)⟩
abbrev cX11_isIn : ByteArray := prog_13_method_33_code
def yX11_isIn : MethodName := ⟨RX11, "isIn", "(III)Z"⟩
set_option maxRecDepth 20000 in
theorem mX11_isIn : Mok yX11_isIn cX11_isIn 3 (some .boolean) 3 := ⟨lw_gm 1616 (by decide +kernel) (by decide +kernel), lw_gm 123 (by decide +kernel) (by decide +kernel), ⟨by decide +kernel, by decide +kernel⟩, by decide +kernel, by decide +kernel⟩
set_option maxRecDepth 20000 in
theorem sX11_isIn : Cond.static yX11_isIn ∈ lw_g := lw_gm 1615 (by decide +kernel) (by decide +kernel)
abbrev cX11_isDye : ByteArray := prog_13_method_34_code
def yX11_isDye : MethodName := ⟨RX11, "isDye", "(I)Z"⟩
set_option maxRecDepth 20000 in
theorem mX11_isDye : Mok yX11_isDye cX11_isDye 2 (some .boolean) 1 := ⟨lw_gm 1785 (by decide +kernel) (by decide +kernel), lw_gm 123 (by decide +kernel) (by decide +kernel), ⟨by decide +kernel, by decide +kernel⟩, by decide +kernel, by decide +kernel⟩
set_option maxRecDepth 20000 in
theorem iX11_isDye : Iok yX11_isDye := ⟨lw_gm 1784 (by decide +kernel) (by decide +kernel), lw_gm 97 (by decide +kernel) (by decide +kernel)⟩
abbrev cX11_isLamp : ByteArray := prog_13_method_35_code
def yX11_isLamp : MethodName := ⟨RX11, "isLamp", "(I)Z"⟩
set_option maxRecDepth 20000 in
theorem mX11_isLamp : Mok yX11_isLamp cX11_isLamp 2 (some .boolean) 1 := ⟨lw_gm 1640 (by decide +kernel) (by decide +kernel), lw_gm 123 (by decide +kernel) (by decide +kernel), ⟨by decide +kernel, by decide +kernel⟩, by decide +kernel, by decide +kernel⟩
set_option maxRecDepth 20000 in
theorem iX11_isLamp : Iok yX11_isLamp := ⟨lw_gm 1639 (by decide +kernel) (by decide +kernel), lw_gm 74 (by decide +kernel) (by decide +kernel)⟩
abbrev cX11_isEye : ByteArray := prog_13_method_36_code
def yX11_isEye : MethodName := ⟨RX11, "isEye", "(I)Z"⟩
set_option maxRecDepth 20000 in
theorem mX11_isEye : Mok yX11_isEye cX11_isEye 2 (some .boolean) 1 := ⟨lw_gm 1648 (by decide +kernel) (by decide +kernel), lw_gm 123 (by decide +kernel) (by decide +kernel), ⟨by decide +kernel, by decide +kernel⟩, by decide +kernel, by decide +kernel⟩
set_option maxRecDepth 20000 in
theorem iX11_isEye : Iok yX11_isEye := ⟨lw_gm 1647 (by decide +kernel) (by decide +kernel), lw_gm 76 (by decide +kernel) (by decide +kernel)⟩
abbrev cX11_isGround : ByteArray := prog_13_method_37_code
def yX11_isGround : MethodName := ⟨RX11, "isGround", "(I)Z"⟩
set_option maxRecDepth 20000 in
theorem mX11_isGround : Mok yX11_isGround cX11_isGround 2 (some .boolean) 1 := ⟨lw_gm 1698 (by decide +kernel) (by decide +kernel), lw_gm 123 (by decide +kernel) (by decide +kernel), ⟨by decide +kernel, by decide +kernel⟩, by decide +kernel, by decide +kernel⟩
set_option maxRecDepth 20000 in
theorem iX11_isGround : Iok yX11_isGround := ⟨lw_gm 1697 (by decide +kernel) (by decide +kernel), lw_gm 84 (by decide +kernel) (by decide +kernel)⟩
abbrev cX11_isGood : ByteArray := prog_13_method_38_code
def yX11_isGood : MethodName := ⟨RX11, "isGood", "(I)Z"⟩
set_option maxRecDepth 20000 in
theorem mX11_isGood : Mok yX11_isGood cX11_isGood 2 (some .boolean) 1 := ⟨lw_gm 1613 (by decide +kernel) (by decide +kernel), lw_gm 123 (by decide +kernel) (by decide +kernel), ⟨by decide +kernel, by decide +kernel⟩, by decide +kernel, by decide +kernel⟩
set_option maxRecDepth 20000 in
theorem iX11_isGood : Iok yX11_isGood := ⟨lw_gm 1612 (by decide +kernel) (by decide +kernel), lw_gm 69 (by decide +kernel) (by decide +kernel)⟩
abbrev cX11_lay : ByteArray := prog_13_method_39_code
def yX11_lay : MethodName := ⟨RX11, "lay", "(I)V"⟩
set_option maxRecDepth 20000 in
theorem mX11_lay : Mok yX11_lay cX11_lay 4 none 1 := ⟨lw_gm 1624 (by decide +kernel) (by decide +kernel), lw_gm 123 (by decide +kernel) (by decide +kernel), ⟨by decide +kernel, by decide +kernel⟩, by decide +kernel, by decide +kernel⟩
set_option maxRecDepth 20000 in
theorem iX11_lay : Iok yX11_lay := ⟨lw_gm 1623 (by decide +kernel) (by decide +kernel), lw_gm 71 (by decide +kernel) (by decide +kernel)⟩
abbrev cX11_laidBeside : ByteArray := prog_13_method_40_code
def yX11_laidBeside : MethodName := ⟨RX11, "laidBeside", "(III)J"⟩
set_option maxRecDepth 20000 in
theorem mX11_laidBeside : Mok yX11_laidBeside cX11_laidBeside 6 (some .long) 3 := ⟨lw_gm 1632 (by decide +kernel) (by decide +kernel), lw_gm 123 (by decide +kernel) (by decide +kernel), ⟨by decide +kernel, by decide +kernel⟩, by decide +kernel, by decide +kernel⟩
set_option maxRecDepth 20000 in
theorem iX11_laidBeside : Iok yX11_laidBeside := ⟨lw_gm 1631 (by decide +kernel) (by decide +kernel), lw_gm 73 (by decide +kernel) (by decide +kernel)⟩
abbrev cX11_laidOver : ByteArray := prog_13_method_41_code
def yX11_laidOver : MethodName := ⟨RX11, "laidOver", "(II)J"⟩
set_option maxRecDepth 20000 in
theorem mX11_laidOver : Mok yX11_laidOver cX11_laidOver 6 (some .long) 2 := ⟨lw_gm 1628 (by decide +kernel) (by decide +kernel), lw_gm 123 (by decide +kernel) (by decide +kernel), ⟨by decide +kernel, by decide +kernel⟩, by decide +kernel, by decide +kernel⟩
set_option maxRecDepth 20000 in
theorem iX11_laidOver : Iok yX11_laidOver := ⟨lw_gm 1627 (by decide +kernel) (by decide +kernel), lw_gm 72 (by decide +kernel) (by decide +kernel)⟩
abbrev cX11_become : ByteArray := prog_13_method_42_code
def yX11_become : MethodName := ⟨RX11, "become", "(III)V"⟩
set_option maxRecDepth 20000 in
theorem mX11_become : Mok yX11_become cX11_become 5 none 3 := ⟨lw_gm 1620 (by decide +kernel) (by decide +kernel), lw_gm 123 (by decide +kernel) (by decide +kernel), ⟨by decide +kernel, by decide +kernel⟩, by decide +kernel, by decide +kernel⟩
set_option maxRecDepth 20000 in
theorem iX11_become : Iok yX11_become := ⟨lw_gm 1619 (by decide +kernel) (by decide +kernel), lw_gm 70 (by decide +kernel) (by decide +kernel)⟩
abbrev cX11_seenBy : ByteArray := prog_13_method_43_code
def yX11_seenBy : MethodName := ⟨RX11, "seenBy", "(III)J"⟩
set_option maxRecDepth 20000 in
theorem mX11_seenBy : Mok yX11_seenBy cX11_seenBy 7 (some .long) 3 := ⟨lw_gm 1657 (by decide +kernel) (by decide +kernel), lw_gm 123 (by decide +kernel) (by decide +kernel), ⟨by decide +kernel, by decide +kernel⟩, by decide +kernel, by decide +kernel⟩
set_option maxRecDepth 20000 in
theorem iX11_seenBy : Iok yX11_seenBy := ⟨lw_gm 1656 (by decide +kernel) (by decide +kernel), lw_gm 78 (by decide +kernel) (by decide +kernel)⟩
abbrev cX11_doesSee : ByteArray := prog_13_method_44_code
def yX11_doesSee : MethodName := ⟨RX11, "doesSee", "(IZ)Z"⟩
set_option maxRecDepth 20000 in
theorem mX11_doesSee : Mok yX11_doesSee cX11_doesSee 3 (some .boolean) 2 := ⟨lw_gm 1673 (by decide +kernel) (by decide +kernel), lw_gm 123 (by decide +kernel) (by decide +kernel), ⟨by decide +kernel, by decide +kernel⟩, by decide +kernel, by decide +kernel⟩
set_option maxRecDepth 20000 in
theorem iX11_doesSee : Iok yX11_doesSee := ⟨lw_gm 1672 (by decide +kernel) (by decide +kernel), lw_gm 81 (by decide +kernel) (by decide +kernel)⟩
abbrev cX11_apartBy : ByteArray := prog_13_method_45_code
def yX11_apartBy : MethodName := ⟨RX11, "apartBy", "(IZ)J"⟩
set_option maxRecDepth 20000 in
theorem mX11_apartBy : Mok yX11_apartBy cX11_apartBy 8 (some .long) 2 := ⟨lw_gm 1669 (by decide +kernel) (by decide +kernel), lw_gm 123 (by decide +kernel) (by decide +kernel), ⟨by decide +kernel, by decide +kernel⟩, by decide +kernel, by decide +kernel⟩
set_option maxRecDepth 20000 in
theorem iX11_apartBy : Iok yX11_apartBy := ⟨lw_gm 1668 (by decide +kernel) (by decide +kernel), lw_gm 80 (by decide +kernel) (by decide +kernel)⟩
abbrev cX11_isAlike : ByteArray := prog_13_method_46_code
def yX11_isAlike : MethodName := ⟨RX11, "isAlike", "(IZ)Z"⟩
set_option maxRecDepth 20000 in
theorem mX11_isAlike : Mok yX11_isAlike cX11_isAlike 3 (some .boolean) 2 := ⟨lw_gm 1681 (by decide +kernel) (by decide +kernel), lw_gm 123 (by decide +kernel) (by decide +kernel), ⟨by decide +kernel, by decide +kernel⟩, by decide +kernel, by decide +kernel⟩
set_option maxRecDepth 20000 in
theorem iX11_isAlike : Iok yX11_isAlike := ⟨lw_gm 1680 (by decide +kernel) (by decide +kernel), lw_gm 82 (by decide +kernel) (by decide +kernel)⟩
abbrev cX11_costOf : ByteArray := prog_13_method_47_code
def yX11_costOf : MethodName := ⟨RX11, "costOf", "(I)I"⟩
set_option maxRecDepth 20000 in
theorem mX11_costOf : Mok yX11_costOf cX11_costOf 4 (some .int) 1 := ⟨lw_gm 1690 (by decide +kernel) (by decide +kernel), lw_gm 123 (by decide +kernel) (by decide +kernel), ⟨by decide +kernel, by decide +kernel⟩, by decide +kernel, by decide +kernel⟩
set_option maxRecDepth 20000 in
theorem iX11_costOf : Iok yX11_costOf := ⟨lw_gm 1689 (by decide +kernel) (by decide +kernel), lw_gm 83 (by decide +kernel) (by decide +kernel)⟩
abbrev cX11_sumOf : ByteArray := prog_13_method_48_code
def yX11_sumOf : MethodName := ⟨RX11, "sumOf", "(I)I"⟩
set_option maxRecDepth 20000 in
theorem mX11_sumOf : Mok yX11_sumOf cX11_sumOf 4 (some .int) 1 := ⟨lw_gm 1731 (by decide +kernel) (by decide +kernel), lw_gm 123 (by decide +kernel) (by decide +kernel), ⟨by decide +kernel, by decide +kernel⟩, by decide +kernel, by decide +kernel⟩
set_option maxRecDepth 20000 in
theorem iX11_sumOf : Iok yX11_sumOf := ⟨lw_gm 1730 (by decide +kernel) (by decide +kernel), lw_gm 89 (by decide +kernel) (by decide +kernel)⟩
abbrev cX11_throwsBack : ByteArray := prog_13_method_49_code
def yX11_throwsBack : MethodName := ⟨RX11, "throwsBack", "(II)I"⟩
set_option maxRecDepth 20000 in
theorem mX11_throwsBack : Mok yX11_throwsBack cX11_throwsBack 3 (some .int) 2 := ⟨lw_gm 1609 (by decide +kernel) (by decide +kernel), lw_gm 123 (by decide +kernel) (by decide +kernel), ⟨by decide +kernel, by decide +kernel⟩, by decide +kernel, by decide +kernel⟩
set_option maxRecDepth 20000 in
theorem iX11_throwsBack : Iok yX11_throwsBack := ⟨lw_gm 1607 (by decide +kernel) (by decide +kernel), lw_gm 1608 (by decide +kernel) (by decide +kernel)⟩
abbrev cX11_seen : ByteArray := prog_13_method_50_code
def yX11_seen : MethodName := ⟨RX11, "seen", "(III)J"⟩
set_option maxRecDepth 20000 in
theorem mX11_seen : Mok yX11_seen cX11_seen 4 (some .long) 3 := ⟨lw_gm 1636 (by decide +kernel) (by decide +kernel), lw_gm 123 (by decide +kernel) (by decide +kernel), ⟨by decide +kernel, by decide +kernel⟩, by decide +kernel, by decide +kernel⟩
set_option maxRecDepth 20000 in
theorem iX11_seen : Iok yX11_seen := ⟨lw_gm 1634 (by decide +kernel) (by decide +kernel), lw_gm 1635 (by decide +kernel) (by decide +kernel)⟩
abbrev cX11_layTwo : ByteArray := prog_13_method_51_code
def yX11_layTwo : MethodName := ⟨RX11, "layTwo", "(II)Z"⟩
set_option maxRecDepth 20000 in
theorem mX11_layTwo : Mok yX11_layTwo cX11_layTwo 3 (some .boolean) 2 := ⟨lw_gm 1665 (by decide +kernel) (by decide +kernel), lw_gm 123 (by decide +kernel) (by decide +kernel), ⟨by decide +kernel, by decide +kernel⟩, by decide +kernel, by decide +kernel⟩
set_option maxRecDepth 20000 in
theorem iX11_layTwo : Iok yX11_layTwo := ⟨lw_gm 1664 (by decide +kernel) (by decide +kernel), lw_gm 79 (by decide +kernel) (by decide +kernel)⟩
abbrev cX11_apart : ByteArray := prog_13_method_52_code
def yX11_apart : MethodName := ⟨RX11, "apart", "(IIIZ)J"⟩
set_option maxRecDepth 20000 in
theorem mX11_apart : Mok yX11_apart cX11_apart 5 (some .long) 4 := ⟨lw_gm 1661 (by decide +kernel) (by decide +kernel), lw_gm 123 (by decide +kernel) (by decide +kernel), ⟨by decide +kernel, by decide +kernel⟩, by decide +kernel, by decide +kernel⟩
set_option maxRecDepth 20000 in
theorem iX11_apart : Iok yX11_apart := ⟨lw_gm 1659 (by decide +kernel) (by decide +kernel), lw_gm 1660 (by decide +kernel) (by decide +kernel)⟩
abbrev cX11_alike : ByteArray := prog_13_method_53_code
def yX11_alike : MethodName := ⟨RX11, "alike", "(IIZ)I"⟩
set_option maxRecDepth 20000 in
theorem mX11_alike : Mok yX11_alike cX11_alike 6 (some .int) 3 := ⟨lw_gm 1677 (by decide +kernel) (by decide +kernel), lw_gm 123 (by decide +kernel) (by decide +kernel), ⟨by decide +kernel, by decide +kernel⟩, by decide +kernel, by decide +kernel⟩
set_option maxRecDepth 20000 in
theorem iX11_alike : Iok yX11_alike := ⟨lw_gm 1675 (by decide +kernel) (by decide +kernel), lw_gm 1676 (by decide +kernel) (by decide +kernel)⟩
abbrev cX11_cost : ByteArray := prog_13_method_54_code
def yX11_cost : MethodName := ⟨RX11, "cost", "(I)I"⟩
set_option maxRecDepth 20000 in
theorem mX11_cost : Mok yX11_cost cX11_cost 2 (some .int) 1 := ⟨lw_gm 1686 (by decide +kernel) (by decide +kernel), lw_gm 123 (by decide +kernel) (by decide +kernel), ⟨by decide +kernel, by decide +kernel⟩, by decide +kernel, by decide +kernel⟩
set_option maxRecDepth 20000 in
theorem iX11_cost : Iok yX11_cost := ⟨lw_gm 1684 (by decide +kernel) (by decide +kernel), lw_gm 1685 (by decide +kernel) (by decide +kernel)⟩
abbrev cX11_ask : ByteArray := prog_13_method_55_code
def yX11_ask : MethodName := ⟨RX11, "ask", "(IIII)Z"⟩
set_option maxRecDepth 20000 in
theorem mX11_ask : Mok yX11_ask cX11_ask 5 (some .boolean) 4 := ⟨lw_gm 1694 (by decide +kernel) (by decide +kernel), lw_gm 123 (by decide +kernel) (by decide +kernel), ⟨by decide +kernel, by decide +kernel⟩, by decide +kernel, by decide +kernel⟩
set_option maxRecDepth 20000 in
theorem iX11_ask : Iok yX11_ask := ⟨lw_gm 1692 (by decide +kernel) (by decide +kernel), lw_gm 1693 (by decide +kernel) (by decide +kernel)⟩
abbrev cX11_choose : ByteArray := prog_13_method_56_code
def yX11_choose : MethodName := ⟨RX11, "choose", "(II)I"⟩
set_option maxRecDepth 20000 in
theorem mX11_choose : Mok yX11_choose cX11_choose 5 (some .int) 2 := ⟨lw_gm 1705 (by decide +kernel) (by decide +kernel), lw_gm 123 (by decide +kernel) (by decide +kernel), ⟨by decide +kernel, by decide +kernel⟩, by decide +kernel, by decide +kernel⟩
set_option maxRecDepth 20000 in
theorem sX11_choose : Cond.static yX11_choose ∈ lw_g := lw_gm 1704 (by decide +kernel) (by decide +kernel)
abbrev cX11_mixes : ByteArray := prog_13_method_57_code
def yX11_mixes : MethodName := ⟨RX11, "mixes", "()I"⟩
set_option maxRecDepth 20000 in
theorem mX11_mixes : Mok yX11_mixes cX11_mixes 3 (some .int) 0 := ⟨lw_gm 1702 (by decide +kernel) (by decide +kernel), lw_gm 123 (by decide +kernel) (by decide +kernel), ⟨by decide +kernel, by decide +kernel⟩, by decide +kernel, by decide +kernel⟩
set_option maxRecDepth 20000 in
theorem iX11_mixes : Iok yX11_mixes := ⟨lw_gm 1700 (by decide +kernel) (by decide +kernel), lw_gm 1701 (by decide +kernel) (by decide +kernel)⟩
abbrev cX11_beginMixes : ByteArray := prog_13_method_58_code
def yX11_beginMixes : MethodName := ⟨RX11, "beginMixes", "()V"⟩
set_option maxRecDepth 20000 in
theorem mX11_beginMixes : Mok yX11_beginMixes cX11_beginMixes 2 none 0 := ⟨lw_gm 1719 (by decide +kernel) (by decide +kernel), lw_gm 123 (by decide +kernel) (by decide +kernel), ⟨by decide +kernel, by decide +kernel⟩, by decide +kernel, by decide +kernel⟩
set_option maxRecDepth 20000 in
theorem iX11_beginMixes : Iok yX11_beginMixes := ⟨lw_gm 1718 (by decide +kernel) (by decide +kernel), lw_gm 86 (by decide +kernel) (by decide +kernel)⟩
abbrev cX11_unlike : ByteArray := prog_13_method_59_code
def yX11_unlike : MethodName := ⟨RX11, "unlike", "()I"⟩
set_option maxRecDepth 20000 in
theorem mX11_unlike : Mok yX11_unlike cX11_unlike 3 (some .int) 0 := ⟨lw_gm 1743 (by decide +kernel) (by decide +kernel), lw_gm 123 (by decide +kernel) (by decide +kernel), ⟨by decide +kernel, by decide +kernel⟩, by decide +kernel, by decide +kernel⟩
set_option maxRecDepth 20000 in
theorem iX11_unlike : Iok yX11_unlike := ⟨lw_gm 1742 (by decide +kernel) (by decide +kernel), lw_gm 92 (by decide +kernel) (by decide +kernel)⟩
abbrev cX11_nextMix : ByteArray := prog_13_method_60_code
def yX11_nextMix : MethodName := ⟨RX11, "nextMix", "()Z"⟩
set_option maxRecDepth 20000 in
theorem mX11_nextMix : Mok yX11_nextMix cX11_nextMix 2 (some .boolean) 0 := ⟨lw_gm 1739 (by decide +kernel) (by decide +kernel), lw_gm 123 (by decide +kernel) (by decide +kernel), ⟨by decide +kernel, by decide +kernel⟩, by decide +kernel, by decide +kernel⟩
set_option maxRecDepth 20000 in
theorem iX11_nextMix : Iok yX11_nextMix := ⟨lw_gm 1738 (by decide +kernel) (by decide +kernel), lw_gm 91 (by decide +kernel) (by decide +kernel)⟩
abbrev cX11_putDown : ByteArray := prog_13_method_61_code
def yX11_putDown : MethodName := ⟨RX11, "putDown", "()V"⟩
set_option maxRecDepth 20000 in
theorem mX11_putDown : Mok yX11_putDown cX11_putDown 2 none 0 := ⟨lw_gm 1735 (by decide +kernel) (by decide +kernel), lw_gm 123 (by decide +kernel) (by decide +kernel), ⟨by decide +kernel, by decide +kernel⟩, by decide +kernel, by decide +kernel⟩
set_option maxRecDepth 20000 in
theorem iX11_putDown : Iok yX11_putDown := ⟨lw_gm 1734 (by decide +kernel) (by decide +kernel), lw_gm 90 (by decide +kernel) (by decide +kernel)⟩
abbrev cX11_isCheaper : ByteArray := prog_13_method_62_code
def yX11_isCheaper : MethodName := ⟨RX11, "isCheaper", "()Z"⟩
set_option maxRecDepth 20000 in
theorem mX11_isCheaper : Mok yX11_isCheaper cX11_isCheaper 2 (some .boolean) 0 := ⟨lw_gm 1727 (by decide +kernel) (by decide +kernel), lw_gm 123 (by decide +kernel) (by decide +kernel), ⟨by decide +kernel, by decide +kernel⟩, by decide +kernel, by decide +kernel⟩
set_option maxRecDepth 20000 in
theorem iX11_isCheaper : Iok yX11_isCheaper := ⟨lw_gm 1726 (by decide +kernel) (by decide +kernel), lw_gm 88 (by decide +kernel) (by decide +kernel)⟩
abbrev cX11_isSet : ByteArray := prog_13_method_63_code
def yX11_isSet : MethodName := ⟨RX11, "isSet", "(I)Z"⟩
set_option maxRecDepth 20000 in
theorem mX11_isSet : Mok yX11_isSet cX11_isSet 2 (some .boolean) 1 := ⟨lw_gm 1713 (by decide +kernel) (by decide +kernel), lw_gm 123 (by decide +kernel) (by decide +kernel), ⟨by decide +kernel, by decide +kernel⟩, by decide +kernel, by decide +kernel⟩
set_option maxRecDepth 20000 in
theorem iX11_isSet : Iok yX11_isSet := ⟨lw_gm 1712 (by decide +kernel) (by decide +kernel), lw_gm 85 (by decide +kernel) (by decide +kernel)⟩
abbrev cX11_isAlikeBy : ByteArray := prog_13_method_64_code
def yX11_isAlikeBy : MethodName := ⟨RX11, "isAlikeBy", "(IZ)Z"⟩
set_option maxRecDepth 20000 in
theorem mX11_isAlikeBy : Mok yX11_isAlikeBy cX11_isAlikeBy 5 (some .boolean) 2 := ⟨lw_gm 1723 (by decide +kernel) (by decide +kernel), lw_gm 123 (by decide +kernel) (by decide +kernel), ⟨by decide +kernel, by decide +kernel⟩, by decide +kernel, by decide +kernel⟩
set_option maxRecDepth 20000 in
theorem iX11_isAlikeBy : Iok yX11_isAlikeBy := ⟨lw_gm 1722 (by decide +kernel) (by decide +kernel), lw_gm 87 (by decide +kernel) (by decide +kernel)⟩
abbrev cX11_farthest : ByteArray := prog_13_method_65_code
def yX11_farthest : MethodName := ⟨RX11, "farthest", "(IZ)J"⟩
set_option maxRecDepth 20000 in
theorem mX11_farthest : Mok yX11_farthest cX11_farthest 8 (some .long) 2 := ⟨lw_gm 1752 (by decide +kernel) (by decide +kernel), lw_gm 123 (by decide +kernel) (by decide +kernel), ⟨by decide +kernel, by decide +kernel⟩, by decide +kernel, by decide +kernel⟩
set_option maxRecDepth 20000 in
theorem iX11_farthest : Iok yX11_farthest := ⟨lw_gm 1751 (by decide +kernel) (by decide +kernel), lw_gm 93 (by decide +kernel) (by decide +kernel)⟩
abbrev cX11_match : ByteArray := prog_13_method_66_code
def yX11_match : MethodName := ⟨RX11, "match", "(IZ)I"⟩
set_option maxRecDepth 20000 in
theorem mX11_match : Mok yX11_match cX11_match 4 (some .int) 2 := ⟨lw_gm 1709 (by decide +kernel) (by decide +kernel), lw_gm 123 (by decide +kernel) (by decide +kernel), ⟨by decide +kernel, by decide +kernel⟩, by decide +kernel, by decide +kernel⟩
set_option maxRecDepth 20000 in
theorem iX11_match : Iok yX11_match := ⟨lw_gm 1707 (by decide +kernel) (by decide +kernel), lw_gm 1708 (by decide +kernel) (by decide +kernel)⟩
abbrev cX11_nearest : ByteArray := prog_13_method_67_code
def yX11_nearest : MethodName := ⟨RX11, "nearest", "(IZ)J"⟩
set_option maxRecDepth 20000 in
theorem mX11_nearest : Mok yX11_nearest cX11_nearest 8 (some .long) 2 := ⟨lw_gm 1747 (by decide +kernel) (by decide +kernel), lw_gm 123 (by decide +kernel) (by decide +kernel), ⟨by decide +kernel, by decide +kernel⟩, by decide +kernel, by decide +kernel⟩
set_option maxRecDepth 20000 in
theorem iX11_nearest : Iok yX11_nearest := ⟨lw_gm 1745 (by decide +kernel) (by decide +kernel), lw_gm 1746 (by decide +kernel) (by decide +kernel)⟩
abbrev cX11_trick : ByteArray := prog_13_method_68_code
def yX11_trick : MethodName := ⟨RX11, "trick", "(IIZ)J"⟩
set_option maxRecDepth 20000 in
theorem mX11_trick : Mok yX11_trick cX11_trick 9 (some .long) 3 := ⟨lw_gm 1756 (by decide +kernel) (by decide +kernel), lw_gm 123 (by decide +kernel) (by decide +kernel), ⟨by decide +kernel, by decide +kernel⟩, by decide +kernel, by decide +kernel⟩
set_option maxRecDepth 20000 in
theorem iX11_trick : Iok yX11_trick := ⟨lw_gm 1754 (by decide +kernel) (by decide +kernel), lw_gm 1755 (by decide +kernel) (by decide +kernel)⟩
abbrev cX11_isBetter : ByteArray := prog_13_method_69_code
def yX11_isBetter : MethodName := ⟨RX11, "isBetter", "(III)Z"⟩
set_option maxRecDepth 20000 in
theorem mX11_isBetter : Mok yX11_isBetter cX11_isBetter 6 (some .boolean) 3 := ⟨lw_gm 1772 (by decide +kernel) (by decide +kernel), lw_gm 123 (by decide +kernel) (by decide +kernel), ⟨by decide +kernel, by decide +kernel⟩, by decide +kernel, by decide +kernel⟩
set_option maxRecDepth 20000 in
theorem iX11_isBetter : Iok yX11_isBetter := ⟨lw_gm 1771 (by decide +kernel) (by decide +kernel), lw_gm 96 (by decide +kernel) (by decide +kernel)⟩
abbrev cX11_isBest : ByteArray := prog_13_method_70_code
def yX11_isBest : MethodName := ⟨RX11, "isBest", "(II)Z"⟩
set_option maxRecDepth 20000 in
theorem mX11_isBest : Mok yX11_isBest cX11_isBest 4 (some .boolean) 2 := ⟨lw_gm 1768 (by decide +kernel) (by decide +kernel), lw_gm 123 (by decide +kernel) (by decide +kernel), ⟨by decide +kernel, by decide +kernel⟩, by decide +kernel, by decide +kernel⟩
set_option maxRecDepth 20000 in
theorem iX11_isBest : Iok yX11_isBest := ⟨lw_gm 1767 (by decide +kernel) (by decide +kernel), lw_gm 95 (by decide +kernel) (by decide +kernel)⟩
abbrev cX11_layRows : ByteArray := prog_13_method_71_code
def yX11_layRows : MethodName := ⟨RX11, "layRows", "(Z)V"⟩
set_option maxRecDepth 20000 in
theorem mX11_layRows : Mok yX11_layRows cX11_layRows 4 none 1 := ⟨lw_gm 1764 (by decide +kernel) (by decide +kernel), lw_gm 123 (by decide +kernel) (by decide +kernel), ⟨by decide +kernel, by decide +kernel⟩, by decide +kernel, by decide +kernel⟩
set_option maxRecDepth 20000 in
theorem iX11_layRows : Iok yX11_layRows := ⟨lw_gm 1763 (by decide +kernel) (by decide +kernel), lw_gm 94 (by decide +kernel) (by decide +kernel)⟩
abbrev cX11_best : ByteArray := prog_13_method_72_code
def yX11_best : MethodName := ⟨RX11, "best", "(IZ)I"⟩
set_option maxRecDepth 20000 in
theorem mX11_best : Mok yX11_best cX11_best 4 (some .int) 2 := ⟨lw_gm 1760 (by decide +kernel) (by decide +kernel), lw_gm 123 (by decide +kernel) (by decide +kernel), ⟨by decide +kernel, by decide +kernel⟩, by decide +kernel, by decide +kernel⟩
set_option maxRecDepth 20000 in
theorem iX11_best : Iok yX11_best := ⟨lw_gm 1758 (by decide +kernel) (by decide +kernel), lw_gm 1759 (by decide +kernel) (by decide +kernel)⟩
abbrev cX11_pick : ByteArray := prog_13_method_73_code
def yX11_pick : MethodName := ⟨RX11, "pick", "(I)I"⟩
set_option maxRecDepth 20000 in
theorem mX11_pick : Mok yX11_pick cX11_pick 3 (some .int) 1 := ⟨lw_gm 1776 (by decide +kernel) (by decide +kernel), lw_gm 123 (by decide +kernel) (by decide +kernel), ⟨by decide +kernel, by decide +kernel⟩, by decide +kernel, by decide +kernel⟩
set_option maxRecDepth 20000 in
theorem iX11_pick : Iok yX11_pick := ⟨lw_gm 1774 (by decide +kernel) (by decide +kernel), lw_gm 1775 (by decide +kernel) (by decide +kernel)⟩
abbrev cX11_parts : ByteArray := prog_13_method_74_code
def yX11_parts : MethodName := ⟨RX11, "parts", "(I)I"⟩
set_option maxRecDepth 20000 in
theorem mX11_parts : Mok yX11_parts cX11_parts 2 (some .int) 1 := ⟨lw_gm 1781 (by decide +kernel) (by decide +kernel), lw_gm 123 (by decide +kernel) (by decide +kernel), ⟨by decide +kernel, by decide +kernel⟩, by decide +kernel, by decide +kernel⟩
set_option maxRecDepth 20000 in
theorem iX11_parts : Iok yX11_parts := ⟨lw_gm 1779 (by decide +kernel) (by decide +kernel), lw_gm 1780 (by decide +kernel) (by decide +kernel)⟩
abbrev cX11_apartMixed : ByteArray := prog_13_method_75_code
def yX11_apartMixed : MethodName := ⟨RX11, "apartMixed", "(Z)J"⟩
set_option maxRecDepth 20000 in
theorem mX11_apartMixed : Mok yX11_apartMixed cX11_apartMixed 8 (some .long) 1 := ⟨lw_gm 1793 (by decide +kernel) (by decide +kernel), lw_gm 123 (by decide +kernel) (by decide +kernel), ⟨by decide +kernel, by decide +kernel⟩, by decide +kernel, by decide +kernel⟩
set_option maxRecDepth 20000 in
theorem iX11_apartMixed : Iok yX11_apartMixed := ⟨lw_gm 1792 (by decide +kernel) (by decide +kernel), lw_gm 98 (by decide +kernel) (by decide +kernel)⟩
abbrev cX11_nextWeights : ByteArray := prog_13_method_76_code
def yX11_nextWeights : MethodName := ⟨RX11, "nextWeights", "()Z"⟩
set_option maxRecDepth 20000 in
theorem mX11_nextWeights : Mok yX11_nextWeights cX11_nextWeights 4 (some .boolean) 0 := ⟨lw_gm 1797 (by decide +kernel) (by decide +kernel), lw_gm 123 (by decide +kernel) (by decide +kernel), ⟨by decide +kernel, by decide +kernel⟩, by decide +kernel, by decide +kernel⟩
set_option maxRecDepth 20000 in
theorem iX11_nextWeights : Iok yX11_nextWeights := ⟨lw_gm 1796 (by decide +kernel) (by decide +kernel), lw_gm 99 (by decide +kernel) (by decide +kernel)⟩
abbrev cX11_betray : ByteArray := prog_13_method_77_code
def yX11_betray : MethodName := ⟨RX11, "betray", "(IIZ)J"⟩
set_option maxRecDepth 20000 in
theorem mX11_betray : Mok yX11_betray cX11_betray 10 (some .long) 3 := ⟨lw_gm 1789 (by decide +kernel) (by decide +kernel), lw_gm 123 (by decide +kernel) (by decide +kernel), ⟨by decide +kernel, by decide +kernel⟩, by decide +kernel, by decide +kernel⟩
set_option maxRecDepth 20000 in
theorem iX11_betray : Iok yX11_betray := ⟨lw_gm 1787 (by decide +kernel) (by decide +kernel), lw_gm 1788 (by decide +kernel) (by decide +kernel)⟩
abbrev cX11_weight : ByteArray := prog_13_method_78_code
def yX11_weight : MethodName := ⟨RX11, "weight", "(I)I"⟩
set_option maxRecDepth 20000 in
theorem mX11_weight : Mok yX11_weight cX11_weight 2 (some .int) 1 := ⟨lw_gm 1801 (by decide +kernel) (by decide +kernel), lw_gm 123 (by decide +kernel) (by decide +kernel), ⟨by decide +kernel, by decide +kernel⟩, by decide +kernel, by decide +kernel⟩
set_option maxRecDepth 20000 in
theorem iX11_weight : Iok yX11_weight := ⟨lw_gm 1799 (by decide +kernel) (by decide +kernel), lw_gm 1800 (by decide +kernel) (by decide +kernel)⟩
abbrev cX11_lamp : ByteArray := prog_13_method_79_code
def yX11_lamp : MethodName := ⟨RX11, "lamp", "(IIZ)I"⟩
set_option maxRecDepth 20000 in
theorem mX11_lamp : Mok yX11_lamp cX11_lamp 6 (some .int) 3 := ⟨lw_gm 1805 (by decide +kernel) (by decide +kernel), lw_gm 123 (by decide +kernel) (by decide +kernel), ⟨by decide +kernel, by decide +kernel⟩, by decide +kernel, by decide +kernel⟩
set_option maxRecDepth 20000 in
theorem iX11_lamp : Iok yX11_lamp := ⟨lw_gm 1803 (by decide +kernel) (by decide +kernel), lw_gm 1804 (by decide +kernel) (by decide +kernel)⟩
abbrev cX11_setVat : ByteArray := prog_13_method_80_code
def yX11_setVat : MethodName := ⟨RX11, "setVat", "(I)V"⟩
set_option maxRecDepth 20000 in
theorem mX11_setVat : Mok yX11_setVat cX11_setVat 3 none 1 := ⟨lw_gm 1589 (by decide +kernel) (by decide +kernel), lw_gm 123 (by decide +kernel) (by decide +kernel), ⟨by decide +kernel, by decide +kernel⟩, by decide +kernel, by decide +kernel⟩
set_option maxRecDepth 20000 in
theorem iX11_setVat : Iok yX11_setVat := ⟨lw_gm 1588 (by decide +kernel) (by decide +kernel), lw_gm 65 (by decide +kernel) (by decide +kernel)⟩
abbrev cX11_set : ByteArray := prog_13_method_81_code
def yX11_set : MethodName := ⟨RX11, "set", "(I)Z"⟩
set_option maxRecDepth 20000 in
theorem mX11_set : Mok yX11_set cX11_set 2 (some .boolean) 1 := ⟨lw_gm 1809 (by decide +kernel) (by decide +kernel), lw_gm 123 (by decide +kernel) (by decide +kernel), ⟨by decide +kernel, by decide +kernel⟩, by decide +kernel, by decide +kernel⟩
set_option maxRecDepth 20000 in
theorem iX11_set : Iok yX11_set := ⟨lw_gm 1807 (by decide +kernel) (by decide +kernel), lw_gm 1808 (by decide +kernel) (by decide +kernel)⟩
abbrev cX11_inVat : ByteArray := prog_13_method_82_code
def yX11_inVat : MethodName := ⟨RX11, "inVat", "()I"⟩
set_option maxRecDepth 20000 in
theorem mX11_inVat : Mok yX11_inVat cX11_inVat 3 (some .int) 0 := ⟨lw_gm 1817 (by decide +kernel) (by decide +kernel), lw_gm 123 (by decide +kernel) (by decide +kernel), ⟨by decide +kernel, by decide +kernel⟩, by decide +kernel, by decide +kernel⟩
set_option maxRecDepth 20000 in
theorem iX11_inVat : Iok yX11_inVat := ⟨lw_gm 1816 (by decide +kernel) (by decide +kernel), lw_gm 100 (by decide +kernel) (by decide +kernel)⟩
abbrev cX11_draw : ByteArray := prog_13_method_83_code
def yX11_draw : MethodName := ⟨RX11, "draw", "(I)I"⟩
set_option maxRecDepth 20000 in
theorem mX11_draw : Mok yX11_draw cX11_draw 2 (some .int) 1 := ⟨lw_gm 1821 (by decide +kernel) (by decide +kernel), lw_gm 123 (by decide +kernel) (by decide +kernel), ⟨by decide +kernel, by decide +kernel⟩, by decide +kernel, by decide +kernel⟩
set_option maxRecDepth 20000 in
theorem iX11_draw : Iok yX11_draw := ⟨lw_gm 1820 (by decide +kernel) (by decide +kernel), lw_gm 101 (by decide +kernel) (by decide +kernel)⟩
abbrev cX11_drop : ByteArray := prog_13_method_84_code
def yX11_drop : MethodName := ⟨RX11, "drop", "(II)I"⟩
set_option maxRecDepth 20000 in
theorem mX11_drop : Mok yX11_drop cX11_drop 3 (some .int) 2 := ⟨lw_gm 1813 (by decide +kernel) (by decide +kernel), lw_gm 123 (by decide +kernel) (by decide +kernel), ⟨by decide +kernel, by decide +kernel⟩, by decide +kernel, by decide +kernel⟩
set_option maxRecDepth 20000 in
theorem iX11_drop : Iok yX11_drop := ⟨lw_gm 1811 (by decide +kernel) (by decide +kernel), lw_gm 1812 (by decide +kernel) (by decide +kernel)⟩
abbrev cX11_days : ByteArray := prog_13_method_85_code
def yX11_days : MethodName := ⟨RX11, "days", "(I)I"⟩
set_option maxRecDepth 20000 in
theorem mX11_days : Mok yX11_days cX11_days 5 (some .int) 1 := ⟨lw_gm 1826 (by decide +kernel) (by decide +kernel), lw_gm 123 (by decide +kernel) (by decide +kernel), ⟨by decide +kernel, by decide +kernel⟩, by decide +kernel, by decide +kernel⟩
set_option maxRecDepth 20000 in
theorem iX11_days : Iok yX11_days := ⟨lw_gm 1824 (by decide +kernel) (by decide +kernel), lw_gm 1825 (by decide +kernel) (by decide +kernel)⟩
abbrev cX11_vat : ByteArray := prog_13_method_86_code
def yX11_vat : MethodName := ⟨RX11, "vat", "(I)I"⟩
set_option maxRecDepth 20000 in
theorem mX11_vat : Mok yX11_vat cX11_vat 2 (some .int) 1 := ⟨lw_gm 1830 (by decide +kernel) (by decide +kernel), lw_gm 123 (by decide +kernel) (by decide +kernel), ⟨by decide +kernel, by decide +kernel⟩, by decide +kernel, by decide +kernel⟩
set_option maxRecDepth 20000 in
theorem iX11_vat : Iok yX11_vat := ⟨lw_gm 1828 (by decide +kernel) (by decide +kernel), lw_gm 1829 (by decide +kernel) (by decide +kernel)⟩
abbrev cX11_addOld : ByteArray := prog_13_method_87_code
def yX11_addOld : MethodName := ⟨RX11, "addOld", "(II)V"⟩
set_option maxRecDepth 20000 in
theorem mX11_addOld : Mok yX11_addOld cX11_addOld 3 none 2 := ⟨lw_gm 1597 (by decide +kernel) (by decide +kernel), lw_gm 123 (by decide +kernel) (by decide +kernel), ⟨by decide +kernel, by decide +kernel⟩, by decide +kernel, by decide +kernel⟩
set_option maxRecDepth 20000 in
theorem iX11_addOld : Iok yX11_addOld := ⟨lw_gm 1596 (by decide +kernel) (by decide +kernel), lw_gm 67 (by decide +kernel) (by decide +kernel)⟩
abbrev cX11_layOld : ByteArray := prog_13_method_88_code
def yX11_layOld : MethodName := ⟨RX11, "layOld", "()V"⟩
set_option maxRecDepth 20000 in
theorem mX11_layOld : Mok yX11_layOld cX11_layOld 3 none 0 := ⟨lw_gm 1593 (by decide +kernel) (by decide +kernel), lw_gm 123 (by decide +kernel) (by decide +kernel), ⟨by decide +kernel, by decide +kernel⟩, by decide +kernel, by decide +kernel⟩
set_option maxRecDepth 20000 in
theorem iX11_layOld : Iok yX11_layOld := ⟨lw_gm 1592 (by decide +kernel) (by decide +kernel), lw_gm 66 (by decide +kernel) (by decide +kernel)⟩
abbrev cX11_old : ByteArray := prog_13_method_89_code
def yX11_old : MethodName := ⟨RX11, "old", "()I"⟩
set_option maxRecDepth 20000 in
theorem mX11_old : Mok yX11_old cX11_old 1 (some .int) 0 := ⟨lw_gm 1834 (by decide +kernel) (by decide +kernel), lw_gm 123 (by decide +kernel) (by decide +kernel), ⟨by decide +kernel, by decide +kernel⟩, by decide +kernel, by decide +kernel⟩
set_option maxRecDepth 20000 in
theorem iX11_old : Iok yX11_old := ⟨lw_gm 1832 (by decide +kernel) (by decide +kernel), lw_gm 1833 (by decide +kernel) (by decide +kernel)⟩
abbrev cX11_oldOne : ByteArray := prog_13_method_90_code
def yX11_oldOne : MethodName := ⟨RX11, "oldOne", "(II)I"⟩
set_option maxRecDepth 20000 in
theorem mX11_oldOne : Mok yX11_oldOne cX11_oldOne 3 (some .int) 2 := ⟨lw_gm 1838 (by decide +kernel) (by decide +kernel), lw_gm 123 (by decide +kernel) (by decide +kernel), ⟨by decide +kernel, by decide +kernel⟩, by decide +kernel, by decide +kernel⟩
set_option maxRecDepth 20000 in
theorem iX11_oldOne : Iok yX11_oldOne := ⟨lw_gm 1836 (by decide +kernel) (by decide +kernel), lw_gm 1837 (by decide +kernel) (by decide +kernel)⟩
abbrev cX11_look : ByteArray := prog_13_method_91_code
def yX11_look : MethodName := ⟨RX11, "look", "(IIII)I"⟩
set_option maxRecDepth 20000 in
theorem mX11_look : Mok yX11_look cX11_look 5 (some .int) 4 := ⟨lw_gm 1842 (by decide +kernel) (by decide +kernel), lw_gm 123 (by decide +kernel) (by decide +kernel), ⟨by decide +kernel, by decide +kernel⟩, by decide +kernel, by decide +kernel⟩
set_option maxRecDepth 20000 in
theorem iX11_look : Iok yX11_look := ⟨lw_gm 1840 (by decide +kernel) (by decide +kernel), lw_gm 1841 (by decide +kernel) (by decide +kernel)⟩
abbrev cX11_untell : ByteArray := prog_13_method_92_code
def yX11_untell : MethodName := ⟨RX11, "untell", "(I)Z"⟩
set_option maxRecDepth 20000 in
theorem mX11_untell : Mok yX11_untell cX11_untell 2 (some .boolean) 1 := ⟨lw_gm 1847 (by decide +kernel) (by decide +kernel), lw_gm 123 (by decide +kernel) (by decide +kernel), ⟨by decide +kernel, by decide +kernel⟩, by decide +kernel, by decide +kernel⟩
set_option maxRecDepth 20000 in
theorem iX11_untell : Iok yX11_untell := ⟨lw_gm 1845 (by decide +kernel) (by decide +kernel), lw_gm 1846 (by decide +kernel) (by decide +kernel)⟩
abbrev cX11_later : ByteArray := prog_13_method_93_code
def yX11_later : MethodName := ⟨RX11, "later", "(I)I"⟩
set_option maxRecDepth 20000 in
theorem mX11_later : Mok yX11_later cX11_later 2 (some .int) 1 := ⟨lw_gm 1851 (by decide +kernel) (by decide +kernel), lw_gm 123 (by decide +kernel) (by decide +kernel), ⟨by decide +kernel, by decide +kernel⟩, by decide +kernel, by decide +kernel⟩
set_option maxRecDepth 20000 in
theorem iX11_later : Iok yX11_later := ⟨lw_gm 1849 (by decide +kernel) (by decide +kernel), lw_gm 1850 (by decide +kernel) (by decide +kernel)⟩
abbrev cX11_counts : ByteArray := prog_13_method_94_code
def yX11_counts : MethodName := ⟨RX11, "counts", "(II)Z"⟩
set_option maxRecDepth 20000 in
theorem mX11_counts : Mok yX11_counts cX11_counts 3 (some .boolean) 2 := ⟨lw_gm 1863 (by decide +kernel) (by decide +kernel), lw_gm 123 (by decide +kernel) (by decide +kernel), ⟨by decide +kernel, by decide +kernel⟩, by decide +kernel, by decide +kernel⟩
set_option maxRecDepth 20000 in
theorem iX11_counts : Iok yX11_counts := ⟨lw_gm 1862 (by decide +kernel) (by decide +kernel), lw_gm 103 (by decide +kernel) (by decide +kernel)⟩
abbrev cX11_isSo : ByteArray := prog_13_method_95_code
def yX11_isSo : MethodName := ⟨RX11, "isSo", "(I)Z"⟩
set_option maxRecDepth 20000 in
theorem mX11_isSo : Mok yX11_isSo cX11_isSo 4 (some .boolean) 1 := ⟨lw_gm 1867 (by decide +kernel) (by decide +kernel), lw_gm 123 (by decide +kernel) (by decide +kernel), ⟨by decide +kernel, by decide +kernel⟩, by decide +kernel, by decide +kernel⟩
set_option maxRecDepth 20000 in
theorem iX11_isSo : Iok yX11_isSo := ⟨lw_gm 1866 (by decide +kernel) (by decide +kernel), lw_gm 104 (by decide +kernel) (by decide +kernel)⟩
abbrev cX11_doesAgree : ByteArray := prog_13_method_96_code
def yX11_doesAgree : MethodName := ⟨RX11, "doesAgree", "(II)Z"⟩
set_option maxRecDepth 20000 in
theorem mX11_doesAgree : Mok yX11_doesAgree cX11_doesAgree 5 (some .boolean) 2 := ⟨lw_gm 1859 (by decide +kernel) (by decide +kernel), lw_gm 123 (by decide +kernel) (by decide +kernel), ⟨by decide +kernel, by decide +kernel⟩, by decide +kernel, by decide +kernel⟩
set_option maxRecDepth 20000 in
theorem iX11_doesAgree : Iok yX11_doesAgree := ⟨lw_gm 1858 (by decide +kernel) (by decide +kernel), lw_gm 102 (by decide +kernel) (by decide +kernel)⟩
abbrev cX11_agree : ByteArray := prog_13_method_97_code
def yX11_agree : MethodName := ⟨RX11, "agree", "(I)I"⟩
set_option maxRecDepth 20000 in
theorem mX11_agree : Mok yX11_agree cX11_agree 4 (some .int) 1 := ⟨lw_gm 1855 (by decide +kernel) (by decide +kernel), lw_gm 123 (by decide +kernel) (by decide +kernel), ⟨by decide +kernel, by decide +kernel⟩, by decide +kernel, by decide +kernel⟩
set_option maxRecDepth 20000 in
theorem iX11_agree : Iok yX11_agree := ⟨lw_gm 1853 (by decide +kernel) (by decide +kernel), lw_gm 1854 (by decide +kernel) (by decide +kernel)⟩
abbrev cX11_agrees : ByteArray := prog_13_method_98_code
def yX11_agrees : MethodName := ⟨RX11, "agrees", "(II)I"⟩
set_option maxRecDepth 20000 in
theorem mX11_agrees : Mok yX11_agrees cX11_agrees 5 (some .int) 2 := ⟨lw_gm 1871 (by decide +kernel) (by decide +kernel), lw_gm 123 (by decide +kernel) (by decide +kernel), ⟨by decide +kernel, by decide +kernel⟩, by decide +kernel, by decide +kernel⟩
set_option maxRecDepth 20000 in
theorem iX11_agrees : Iok yX11_agrees := ⟨lw_gm 1869 (by decide +kernel) (by decide +kernel), lw_gm 1870 (by decide +kernel) (by decide +kernel)⟩
abbrev cX11_greatestPart : ByteArray := prog_13_method_99_code
def yX11_greatestPart : MethodName := ⟨RX11, "greatestPart", "(II)I"⟩
set_option maxRecDepth 20000 in
theorem mX11_greatestPart : Mok yX11_greatestPart cX11_greatestPart 7 (some .int) 2 := ⟨lw_gm 1879 (by decide +kernel) (by decide +kernel), lw_gm 123 (by decide +kernel) (by decide +kernel), ⟨by decide +kernel, by decide +kernel⟩, by decide +kernel, by decide +kernel⟩
set_option maxRecDepth 20000 in
theorem iX11_greatestPart : Iok yX11_greatestPart := ⟨lw_gm 1878 (by decide +kernel) (by decide +kernel), lw_gm 105 (by decide +kernel) (by decide +kernel)⟩
abbrev cX11_next : ByteArray := prog_13_method_100_code
def yX11_next : MethodName := ⟨RX11, "next", "(II)I"⟩
set_option maxRecDepth 20000 in
theorem mX11_next : Mok yX11_next cX11_next 7 (some .int) 2 := ⟨lw_gm 1875 (by decide +kernel) (by decide +kernel), lw_gm 123 (by decide +kernel) (by decide +kernel), ⟨by decide +kernel, by decide +kernel⟩, by decide +kernel, by decide +kernel⟩
set_option maxRecDepth 20000 in
theorem iX11_next : Iok yX11_next := ⟨lw_gm 1873 (by decide +kernel) (by decide +kernel), lw_gm 1874 (by decide +kernel) (by decide +kernel)⟩
abbrev cX11_seed : ByteArray := prog_13_method_101_code
def yX11_seed : MethodName := ⟨RX11, "seed", "(I)I"⟩
set_option maxRecDepth 20000 in
theorem mX11_seed : Mok yX11_seed cX11_seed 3 (some .int) 1 := ⟨lw_gm 1883 (by decide +kernel) (by decide +kernel), lw_gm 123 (by decide +kernel) (by decide +kernel), ⟨by decide +kernel, by decide +kernel⟩, by decide +kernel, by decide +kernel⟩
set_option maxRecDepth 20000 in
theorem iX11_seed : Iok yX11_seed := ⟨lw_gm 1881 (by decide +kernel) (by decide +kernel), lw_gm 1882 (by decide +kernel) (by decide +kernel)⟩
abbrev cX11_isBox : ByteArray := prog_13_method_102_code
def yX11_isBox : MethodName := ⟨RX11, "isBox", "(I)Z"⟩
set_option maxRecDepth 20000 in
theorem mX11_isBox : Mok yX11_isBox cX11_isBox 1 (some .boolean) 1 := ⟨lw_gm 1890 (by decide +kernel) (by decide +kernel), lw_gm 123 (by decide +kernel) (by decide +kernel), ⟨by decide +kernel, by decide +kernel⟩, by decide +kernel, by decide +kernel⟩
set_option maxRecDepth 20000 in
theorem sX11_isBox : Cond.static yX11_isBox ∈ lw_g := lw_gm 1889 (by decide +kernel) (by decide +kernel)
abbrev cX11_image : ByteArray := prog_13_method_103_code
def yX11_image : MethodName := ⟨RX11, "image", "(I)I"⟩
set_option maxRecDepth 20000 in
theorem mX11_image : Mok yX11_image cX11_image 3 (some .int) 1 := ⟨lw_gm 1887 (by decide +kernel) (by decide +kernel), lw_gm 123 (by decide +kernel) (by decide +kernel), ⟨by decide +kernel, by decide +kernel⟩, by decide +kernel, by decide +kernel⟩
set_option maxRecDepth 20000 in
theorem iX11_image : Iok yX11_image := ⟨lw_gm 1885 (by decide +kernel) (by decide +kernel), lw_gm 1886 (by decide +kernel) (by decide +kernel)⟩
abbrev cX11_back : ByteArray := prog_13_method_104_code
def yX11_back : MethodName := ⟨RX11, "back", "(I)I"⟩
set_option maxRecDepth 20000 in
theorem mX11_back : Mok yX11_back cX11_back 3 (some .int) 1 := ⟨lw_gm 1894 (by decide +kernel) (by decide +kernel), lw_gm 123 (by decide +kernel) (by decide +kernel), ⟨by decide +kernel, by decide +kernel⟩, by decide +kernel, by decide +kernel⟩
set_option maxRecDepth 20000 in
theorem iX11_back : Iok yX11_back := ⟨lw_gm 1892 (by decide +kernel) (by decide +kernel), lw_gm 1893 (by decide +kernel) (by decide +kernel)⟩
abbrev cX11_about : ByteArray := prog_13_method_105_code
def yX11_about : MethodName := ⟨RX11, "about", "(I)I"⟩
set_option maxRecDepth 20000 in
theorem mX11_about : Mok yX11_about cX11_about 2 (some .int) 1 := ⟨lw_gm 1898 (by decide +kernel) (by decide +kernel), lw_gm 123 (by decide +kernel) (by decide +kernel), ⟨by decide +kernel, by decide +kernel⟩, by decide +kernel, by decide +kernel⟩
set_option maxRecDepth 20000 in
theorem iX11_about : Iok yX11_about := ⟨lw_gm 1896 (by decide +kernel) (by decide +kernel), lw_gm 1897 (by decide +kernel) (by decide +kernel)⟩
abbrev cJ6_bitCount_0f7a4 : ByteArray := prog_14_method_49_code
def yJ6_bitCount_0f7a4 : MethodName := ⟨RJ6, "bitCount", "(I)I"⟩
set_option maxRecDepth 20000 in
theorem mJ6_bitCount_0f7a4 : Mok yJ6_bitCount_0f7a4 cJ6_bitCount_0f7a4 1 (some .int) 1 := ⟨lw_gm 1003 (by decide +kernel) (by decide +kernel), lw_gm 126 (by decide +kernel) (by decide +kernel), ⟨by decide +kernel, by decide +kernel⟩, by decide +kernel, by decide +kernel⟩
set_option maxRecDepth 20000 in
theorem sJ6_bitCount_0f7a4 : Cond.static yJ6_bitCount_0f7a4 ∈ lw_g := lw_gm 1002 (by decide +kernel) (by decide +kernel)
abbrev cJ9_abs_067f4 : ByteArray := prog_15_method_61_code
def yJ9_abs_067f4 : MethodName := ⟨RJ9, "abs", "(J)J"⟩
theorem mJ9_abs_067f4 : Cond.code yJ9_abs_067f4 cJ9_abs_067f4 2 (some .long) ∈ lw_g ∧ Cond.initialized RJ9 ∈ lw_g := ⟨lw_gm 880 (by decide +kernel) (by decide +kernel), lw_gm 124 (by decide +kernel) (by decide +kernel)⟩
set_option maxRecDepth 20000 in
theorem sJ9_abs_067f4 : Cond.static yJ9_abs_067f4 ∈ lw_g := lw_gm 879 (by decide +kernel) (by decide +kernel)
abbrev cJ9_max_7cf53 : ByteArray := prog_15_method_65_code
def yJ9_max_7cf53 : MethodName := ⟨RJ9, "max", "(II)I"⟩
theorem mJ9_max_7cf53 : Cond.code yJ9_max_7cf53 cJ9_max_7cf53 2 (some .int) ∈ lw_g ∧ Cond.initialized RJ9 ∈ lw_g := ⟨lw_gm 1191 (by decide +kernel) (by decide +kernel), lw_gm 124 (by decide +kernel) (by decide +kernel)⟩
set_option maxRecDepth 20000 in
theorem sJ9_max_7cf53 : Cond.static yJ9_max_7cf53 ∈ lw_g := lw_gm 1190 (by decide +kernel) (by decide +kernel)
abbrev cJ9_max_f86c9 : ByteArray := prog_15_method_66_code
def yJ9_max_f86c9 : MethodName := ⟨RJ9, "max", "(JJ)J"⟩
theorem mJ9_max_f86c9 : Cond.code yJ9_max_f86c9 cJ9_max_f86c9 4 (some .long) ∈ lw_g ∧ Cond.initialized RJ9 ∈ lw_g := ⟨lw_gm 883 (by decide +kernel) (by decide +kernel), lw_gm 124 (by decide +kernel) (by decide +kernel)⟩
set_option maxRecDepth 20000 in
theorem sJ9_max_f86c9 : Cond.static yJ9_max_f86c9 ∈ lw_g := lw_gm 882 (by decide +kernel) (by decide +kernel)
abbrev cJ9_min_7cf53 : ByteArray := prog_15_method_69_code
def yJ9_min_7cf53 : MethodName := ⟨RJ9, "min", "(II)I"⟩
theorem mJ9_min_7cf53 : Cond.code yJ9_min_7cf53 cJ9_min_7cf53 2 (some .int) ∈ lw_g ∧ Cond.initialized RJ9 ∈ lw_g := ⟨lw_gm 916 (by decide +kernel) (by decide +kernel), lw_gm 124 (by decide +kernel) (by decide +kernel)⟩
set_option maxRecDepth 20000 in
theorem sJ9_min_7cf53 : Cond.static yJ9_min_7cf53 ∈ lw_g := lw_gm 915 (by decide +kernel) (by decide +kernel)
abbrev cJ0_length_8abf5 : ByteArray := prog_16_method_54_code
def yJ0_length_8abf5 : MethodName := ⟨RJ0, "length", "()I"⟩
set_option maxRecDepth 20000 in
theorem mJ0_length_8abf5 : Mok yJ0_length_8abf5 cJ0_length_8abf5 1 (some .int) 0 := ⟨lw_gm 292 (by decide +kernel) (by decide +kernel), lw_gm 113 (by decide +kernel) (by decide +kernel), ⟨by decide +kernel, by decide +kernel⟩, by decide +kernel, by decide +kernel⟩
set_option maxRecDepth 20000 in
theorem iJ0_length_8abf5 : Iok yJ0_length_8abf5 := ⟨lw_gm 290 (by decide +kernel) (by decide +kernel), lw_gm 291 (by decide +kernel) (by decide +kernel)⟩
abbrev cJ0_charAt_5068e : ByteArray := prog_16_method_56_code
def yJ0_charAt_5068e : MethodName := ⟨RJ0, "charAt", "(I)C"⟩
set_option maxRecDepth 20000 in
theorem mJ0_charAt_5068e : Mok yJ0_charAt_5068e cJ0_charAt_5068e 2 (some .char) 1 := ⟨lw_gm 302 (by decide +kernel) (by decide +kernel), lw_gm 113 (by decide +kernel) (by decide +kernel), ⟨by decide +kernel, by decide +kernel⟩, by decide +kernel, by decide +kernel⟩
set_option maxRecDepth 20000 in
theorem iJ0_charAt_5068e : Iok yJ0_charAt_5068e := ⟨lw_gm 300 (by decide +kernel) (by decide +kernel), lw_gm 301 (by decide +kernel) (by decide +kernel)⟩
abbrev cJ0_coder_7d493 : ByteArray := prog_16_method_152_code
def yJ0_coder_7d493 : MethodName := ⟨RJ0, "coder", "()B"⟩
set_option maxRecDepth 20000 in
theorem mJ0_coder_7d493 : Mok yJ0_coder_7d493 cJ0_coder_7d493 1 (some .byte) 0 := ⟨lw_gm 296 (by decide +kernel) (by decide +kernel), lw_gm 113 (by decide +kernel) (by decide +kernel), ⟨by decide +kernel, by decide +kernel⟩, by decide +kernel, by decide +kernel⟩
set_option maxRecDepth 20000 in
theorem iJ0_coder_7d493 : Iok yJ0_coder_7d493 := ⟨lw_gm 294 (by decide +kernel) (by decide +kernel), lw_gm 295 (by decide +kernel) (by decide +kernel)⟩
abbrev cJ0_isLatin1_aae02 : ByteArray := prog_16_method_154_code
def yJ0_isLatin1_aae02 : MethodName := ⟨RJ0, "isLatin1", "()Z"⟩
set_option maxRecDepth 20000 in
theorem mJ0_isLatin1_aae02 : Mok yJ0_isLatin1_aae02 cJ0_isLatin1_aae02 1 (some .boolean) 0 := ⟨lw_gm 306 (by decide +kernel) (by decide +kernel), lw_gm 113 (by decide +kernel) (by decide +kernel), ⟨by decide +kernel, by decide +kernel⟩, by decide +kernel, by decide +kernel⟩
set_option maxRecDepth 20000 in
theorem iJ0_isLatin1_aae02 : Iok yJ0_isLatin1_aae02 := ⟨lw_gm 304 (by decide +kernel) (by decide +kernel), lw_gm 305 (by decide +kernel) (by decide +kernel)⟩
abbrev cJ0_checkIndex_df160 : ByteArray := prog_16_method_155_code
def yJ0_checkIndex_df160 : MethodName := ⟨RJ0, "checkIndex", "(II)V"⟩
set_option maxRecDepth 20000 in
theorem mJ0_checkIndex_df160 : Mok yJ0_checkIndex_df160 cJ0_checkIndex_df160 2 none 2 := ⟨lw_gm 312 (by decide +kernel) (by decide +kernel), lw_gm 113 (by decide +kernel) (by decide +kernel), ⟨by decide +kernel, by decide +kernel⟩, by decide +kernel, by decide +kernel⟩
set_option maxRecDepth 20000 in
theorem sJ0_checkIndex_df160 : Cond.static yJ0_checkIndex_df160 ∈ lw_g := lw_gm 311 (by decide +kernel) (by decide +kernel)
abbrev cJ1_charAt_3b067 : ByteArray := prog_17_method_2_code
def yJ1_charAt_3b067 : MethodName := ⟨RJ1, "charAt", "([BI)C"⟩
set_option maxRecDepth 20000 in
theorem mJ1_charAt_3b067 : Mok yJ1_charAt_3b067 cJ1_charAt_3b067 2 (some .char) 2 := ⟨lw_gm 309 (by decide +kernel) (by decide +kernel), lw_gm 114 (by decide +kernel) (by decide +kernel), ⟨by decide +kernel, by decide +kernel⟩, by decide +kernel, by decide +kernel⟩
set_option maxRecDepth 20000 in
theorem sJ1_charAt_3b067 : Cond.static yJ1_charAt_3b067 ∈ lw_g := lw_gm 308 (by decide +kernel) (by decide +kernel)
abbrev cJ2_getChar_3b067 : ByteArray := prog_18_method_5_code
def yJ2_getChar_3b067 : MethodName := ⟨RJ2, "getChar", "([BI)C"⟩
set_option maxRecDepth 20000 in
theorem mJ2_getChar_3b067 : Mok yJ2_getChar_3b067 cJ2_getChar_3b067 2 (some .char) 2 := ⟨lw_gm 330 (by decide +kernel) (by decide +kernel), lw_gm 116 (by decide +kernel) (by decide +kernel), ⟨by decide +kernel, by decide +kernel⟩, by decide +kernel, by decide +kernel⟩
set_option maxRecDepth 20000 in
theorem sJ2_getChar_3b067 : Cond.static yJ2_getChar_3b067 ∈ lw_g := lw_gm 329 (by decide +kernel) (by decide +kernel)
abbrev cJ2_length_9d52b : ByteArray := prog_18_method_6_code
def yJ2_length_9d52b : MethodName := ⟨RJ2, "length", "([B)I"⟩
set_option maxRecDepth 20000 in
theorem mJ2_length_9d52b : Mok yJ2_length_9d52b cJ2_length_9d52b 1 (some .int) 1 := ⟨lw_gm 326 (by decide +kernel) (by decide +kernel), lw_gm 116 (by decide +kernel) (by decide +kernel), ⟨by decide +kernel, by decide +kernel⟩, by decide +kernel, by decide +kernel⟩
set_option maxRecDepth 20000 in
theorem sJ2_length_9d52b : Cond.static yJ2_length_9d52b ∈ lw_g := lw_gm 325 (by decide +kernel) (by decide +kernel)
abbrev cJ2_charAt_3b067 : ByteArray := prog_18_method_83_code
def yJ2_charAt_3b067 : MethodName := ⟨RJ2, "charAt", "([BI)C"⟩
set_option maxRecDepth 20000 in
theorem mJ2_charAt_3b067 : Mok yJ2_charAt_3b067 cJ2_charAt_3b067 2 (some .char) 2 := ⟨lw_gm 320 (by decide +kernel) (by decide +kernel), lw_gm 116 (by decide +kernel) (by decide +kernel), ⟨by decide +kernel, by decide +kernel⟩, by decide +kernel, by decide +kernel⟩
set_option maxRecDepth 20000 in
theorem sJ2_charAt_3b067 : Cond.static yJ2_charAt_3b067 ∈ lw_g := lw_gm 319 (by decide +kernel) (by decide +kernel)
abbrev cJ2_checkIndex_2214a : ByteArray := prog_18_method_91_code
def yJ2_checkIndex_2214a : MethodName := ⟨RJ2, "checkIndex", "(I[B)V"⟩
set_option maxRecDepth 20000 in
theorem mJ2_checkIndex_2214a : Mok yJ2_checkIndex_2214a cJ2_checkIndex_2214a 2 none 2 := ⟨lw_gm 323 (by decide +kernel) (by decide +kernel), lw_gm 116 (by decide +kernel) (by decide +kernel), ⟨by decide +kernel, by decide +kernel⟩, by decide +kernel, by decide +kernel⟩
set_option maxRecDepth 20000 in
theorem sJ2_checkIndex_2214a : Cond.static yJ2_checkIndex_2214a ∈ lw_g := lw_gm 322 (by decide +kernel) (by decide +kernel)
abbrev cJ7_fill_53178 : ByteArray := prog_20_method_103_code
def yJ7_fill_53178 : MethodName := ⟨RJ7, "fill", "([II)V"⟩
set_option maxRecDepth 20000 in
theorem mJ7_fill_53178 : Mok yJ7_fill_53178 cJ7_fill_53178 4 none 2 := ⟨lw_gm 606 (by decide +kernel) (by decide +kernel), lw_gm 122 (by decide +kernel) (by decide +kernel), ⟨by decide +kernel, by decide +kernel⟩, by decide +kernel, by decide +kernel⟩
set_option maxRecDepth 20000 in
theorem sJ7_fill_53178 : Cond.static yJ7_fill_53178 ∈ lw_g := lw_gm 605 (by decide +kernel) (by decide +kernel)
abbrev cJ3_checkIndex_8e157 : ByteArray := prog_21_method_11_code
def yJ3_checkIndex_8e157 : MethodName := ⟨RJ3, "checkIndex", "(IILjava/util/function/BiFunction;)I"⟩
set_option maxRecDepth 20000 in
theorem mJ3_checkIndex_8e157 : Mok yJ3_checkIndex_8e157 cJ3_checkIndex_8e157 3 (some .int) 3 := ⟨lw_gm 317 (by decide +kernel) (by decide +kernel), lw_gm 115 (by decide +kernel) (by decide +kernel), ⟨by decide +kernel, by decide +kernel⟩, by decide +kernel, by decide +kernel⟩
set_option maxRecDepth 20000 in
theorem sJ3_checkIndex_8e157 : Cond.static yJ3_checkIndex_8e157 ∈ lw_g := lw_gm 316 (by decide +kernel) (by decide +kernel)
abbrev cL_law : ByteArray := code
theorem fX6_9 : Cond.fieldLink RX6 9 (TX6 0).1 (TX6 0).2.1 (TX6 0).2.2.1 ∈ lw_g := lw_gm 141 (by decide +kernel) (by decide +kernel)
theorem fX6_15 : Cond.fieldLink RX6 15 (TX6 1).1 (TX6 1).2.1 (TX6 1).2.2.1 ∈ lw_g := lw_gm 142 (by decide +kernel) (by decide +kernel)
theorem fX10_92 : Cond.fieldLink RX10 92 (TX6 1).1 (TX6 1).2.1 (TX6 1).2.2.1 ∈ lw_g := lw_gm 143 (by decide +kernel) (by decide +kernel)
theorem fX7_78 : Cond.fieldLink RX7 78 (TX6 1).1 (TX6 1).2.1 (TX6 1).2.2.1 ∈ lw_g := lw_gm 144 (by decide +kernel) (by decide +kernel)
theorem fX5_9 : Cond.fieldLink RX5 9 (TX5 0).1 (TX5 0).2.1 (TX5 0).2.2.1 ∈ lw_g := lw_gm 165 (by decide +kernel) (by decide +kernel)
theorem fX5_15 : Cond.fieldLink RX5 15 (TX5 1).1 (TX5 1).2.1 (TX5 1).2.2.1 ∈ lw_g := lw_gm 166 (by decide +kernel) (by decide +kernel)
theorem fX3_172 : Cond.fieldLink RX3 172 (TX5 1).1 (TX5 1).2.1 (TX5 1).2.2.1 ∈ lw_g := lw_gm 167 (by decide +kernel) (by decide +kernel)
theorem fX5_21 : Cond.fieldLink RX5 21 (TX5 2).1 (TX5 2).2.1 (TX5 2).2.2.1 ∈ lw_g := lw_gm 168 (by decide +kernel) (by decide +kernel)
theorem fX2_45 : Cond.fieldLink RX2 45 (TX5 2).1 (TX5 2).2.1 (TX5 2).2.2.1 ∈ lw_g := lw_gm 169 (by decide +kernel) (by decide +kernel)
theorem fX0_70 : Cond.fieldLink RX0 70 (TX5 2).1 (TX5 2).2.1 (TX5 2).2.2.1 ∈ lw_g := lw_gm 170 (by decide +kernel) (by decide +kernel)
theorem fX10_167 : Cond.fieldLink RX10 167 (TX5 2).1 (TX5 2).2.1 (TX5 2).2.2.1 ∈ lw_g := lw_gm 171 (by decide +kernel) (by decide +kernel)
theorem fX3_151 : Cond.fieldLink RX3 151 (TX5 2).1 (TX5 2).2.1 (TX5 2).2.2.1 ∈ lw_g := lw_gm 172 (by decide +kernel) (by decide +kernel)
theorem fX5_24 : Cond.fieldLink RX5 24 (TX5 3).1 (TX5 3).2.1 (TX5 3).2.2.1 ∈ lw_g := lw_gm 173 (by decide +kernel) (by decide +kernel)
theorem fX0_50 : Cond.fieldLink RX0 50 (TX5 3).1 (TX5 3).2.1 (TX5 3).2.2.1 ∈ lw_g := lw_gm 174 (by decide +kernel) (by decide +kernel)
theorem fX2_35 : Cond.fieldLink RX2 35 (TX5 3).1 (TX5 3).2.1 (TX5 3).2.2.1 ∈ lw_g := lw_gm 175 (by decide +kernel) (by decide +kernel)
theorem fX9_62 : Cond.fieldLink RX9 62 (TX5 3).1 (TX5 3).2.1 (TX5 3).2.2.1 ∈ lw_g := lw_gm 176 (by decide +kernel) (by decide +kernel)
theorem fX3_97 : Cond.fieldLink RX3 97 (TX5 3).1 (TX5 3).2.1 (TX5 3).2.2.1 ∈ lw_g := lw_gm 177 (by decide +kernel) (by decide +kernel)
theorem fX4_78 : Cond.fieldLink RX4 78 (TX5 3).1 (TX5 3).2.1 (TX5 3).2.2.1 ∈ lw_g := lw_gm 178 (by decide +kernel) (by decide +kernel)
theorem fX10_106 : Cond.fieldLink RX10 106 (TX5 3).1 (TX5 3).2.1 (TX5 3).2.2.1 ∈ lw_g := lw_gm 179 (by decide +kernel) (by decide +kernel)
theorem fX8_48 : Cond.fieldLink RX8 48 (TX5 3).1 (TX5 3).2.1 (TX5 3).2.2.1 ∈ lw_g := lw_gm 180 (by decide +kernel) (by decide +kernel)
theorem fX1_83 : Cond.fieldLink RX1 83 (TX5 3).1 (TX5 3).2.1 (TX5 3).2.2.1 ∈ lw_g := lw_gm 181 (by decide +kernel) (by decide +kernel)
theorem fX0_14 : Cond.fieldLink RX0 14 (TX0 0).1 (TX0 0).2.1 (TX0 0).2.2.1 ∈ lw_g := lw_gm 198 (by decide +kernel) (by decide +kernel)
theorem fX2_42 : Cond.fieldLink RX2 42 (TX0 0).1 (TX0 0).2.1 (TX0 0).2.2.1 ∈ lw_g := lw_gm 199 (by decide +kernel) (by decide +kernel)
theorem fX9_58 : Cond.fieldLink RX9 58 (TX0 0).1 (TX0 0).2.1 (TX0 0).2.2.1 ∈ lw_g := lw_gm 200 (by decide +kernel) (by decide +kernel)
theorem fX3_94 : Cond.fieldLink RX3 94 (TX0 0).1 (TX0 0).2.1 (TX0 0).2.2.1 ∈ lw_g := lw_gm 201 (by decide +kernel) (by decide +kernel)
theorem fX4_72 : Cond.fieldLink RX4 72 (TX0 0).1 (TX0 0).2.1 (TX0 0).2.2.1 ∈ lw_g := lw_gm 202 (by decide +kernel) (by decide +kernel)
theorem fX8_42 : Cond.fieldLink RX8 42 (TX0 0).1 (TX0 0).2.1 (TX0 0).2.2.1 ∈ lw_g := lw_gm 203 (by decide +kernel) (by decide +kernel)
theorem fX10_223 : Cond.fieldLink RX10 223 (TX0 0).1 (TX0 0).2.1 (TX0 0).2.2.1 ∈ lw_g := lw_gm 204 (by decide +kernel) (by decide +kernel)
theorem fX0_20 : Cond.fieldLink RX0 20 (TX0 1).1 (TX0 1).2.1 (TX0 1).2.2.1 ∈ lw_g := lw_gm 205 (by decide +kernel) (by decide +kernel)
theorem fX3_73 : Cond.fieldLink RX3 73 (TX0 1).1 (TX0 1).2.1 (TX0 1).2.2.1 ∈ lw_g := lw_gm 206 (by decide +kernel) (by decide +kernel)
theorem fX10_171 : Cond.fieldLink RX10 171 (TX0 1).1 (TX0 1).2.1 (TX0 1).2.2.1 ∈ lw_g := lw_gm 207 (by decide +kernel) (by decide +kernel)
theorem fX0_23 : Cond.fieldLink RX0 23 (TX0 2).1 (TX0 2).2.1 (TX0 2).2.2.1 ∈ lw_g := lw_gm 208 (by decide +kernel) (by decide +kernel)
theorem fX3_81 : Cond.fieldLink RX3 81 (TX0 2).1 (TX0 2).2.1 (TX0 2).2.2.1 ∈ lw_g := lw_gm 209 (by decide +kernel) (by decide +kernel)
theorem fX4_87 : Cond.fieldLink RX4 87 (TX0 2).1 (TX0 2).2.1 (TX0 2).2.2.1 ∈ lw_g := lw_gm 210 (by decide +kernel) (by decide +kernel)
theorem fX1_80 : Cond.fieldLink RX1 80 (TX0 2).1 (TX0 2).2.1 (TX0 2).2.2.1 ∈ lw_g := lw_gm 211 (by decide +kernel) (by decide +kernel)
theorem fX10_137 : Cond.fieldLink RX10 137 (TX0 2).1 (TX0 2).2.1 (TX0 2).2.2.1 ∈ lw_g := lw_gm 212 (by decide +kernel) (by decide +kernel)
theorem fX0_26 : Cond.fieldLink RX0 26 (TX0 3).1 (TX0 3).2.1 (TX0 3).2.2.1 ∈ lw_g := lw_gm 213 (by decide +kernel) (by decide +kernel)
theorem fX3_84 : Cond.fieldLink RX3 84 (TX0 3).1 (TX0 3).2.1 (TX0 3).2.2.1 ∈ lw_g := lw_gm 214 (by decide +kernel) (by decide +kernel)
theorem fX1_86 : Cond.fieldLink RX1 86 (TX0 3).1 (TX0 3).2.1 (TX0 3).2.2.1 ∈ lw_g := lw_gm 215 (by decide +kernel) (by decide +kernel)
theorem fX10_143 : Cond.fieldLink RX10 143 (TX0 3).1 (TX0 3).2.1 (TX0 3).2.2.1 ∈ lw_g := lw_gm 216 (by decide +kernel) (by decide +kernel)
theorem fX0_29 : Cond.fieldLink RX0 29 (TX0 4).1 (TX0 4).2.1 (TX0 4).2.2.1 ∈ lw_g := lw_gm 217 (by decide +kernel) (by decide +kernel)
theorem fX2_30 : Cond.fieldLink RX2 30 (TX0 4).1 (TX0 4).2.1 (TX0 4).2.2.1 ∈ lw_g := lw_gm 218 (by decide +kernel) (by decide +kernel)
theorem fX10_102 : Cond.fieldLink RX10 102 (TX0 4).1 (TX0 4).2.1 (TX0 4).2.2.1 ∈ lw_g := lw_gm 219 (by decide +kernel) (by decide +kernel)
theorem fX3_118 : Cond.fieldLink RX3 118 (TX0 4).1 (TX0 4).2.1 (TX0 4).2.2.1 ∈ lw_g := lw_gm 220 (by decide +kernel) (by decide +kernel)
theorem fX0_32 : Cond.fieldLink RX0 32 (TX0 5).1 (TX0 5).2.1 (TX0 5).2.2.1 ∈ lw_g := lw_gm 221 (by decide +kernel) (by decide +kernel)
theorem fX9_78 : Cond.fieldLink RX9 78 (TX0 5).1 (TX0 5).2.1 (TX0 5).2.2.1 ∈ lw_g := lw_gm 222 (by decide +kernel) (by decide +kernel)
theorem fX3_138 : Cond.fieldLink RX3 138 (TX0 5).1 (TX0 5).2.1 (TX0 5).2.2.1 ∈ lw_g := lw_gm 223 (by decide +kernel) (by decide +kernel)
theorem fX0_36 : Cond.fieldLink RX0 36 (TX0 6).1 (TX0 6).2.1 (TX0 6).2.2.1 ∈ lw_g := lw_gm 224 (by decide +kernel) (by decide +kernel)
theorem fX8_53 : Cond.fieldLink RX8 53 (TX0 6).1 (TX0 6).2.1 (TX0 6).2.2.1 ∈ lw_g := lw_gm 225 (by decide +kernel) (by decide +kernel)
theorem fX3_142 : Cond.fieldLink RX3 142 (TX0 6).1 (TX0 6).2.1 (TX0 6).2.2.1 ∈ lw_g := lw_gm 226 (by decide +kernel) (by decide +kernel)
theorem fX0_39 : Cond.fieldLink RX0 39 (TX0 7).1 (TX0 7).2.1 (TX0 7).2.2.1 ∈ lw_g := lw_gm 227 (by decide +kernel) (by decide +kernel)
theorem fX2_46 : Cond.fieldLink RX2 46 (TX0 7).1 (TX0 7).2.1 (TX0 7).2.2.1 ∈ lw_g := lw_gm 228 (by decide +kernel) (by decide +kernel)
theorem fX3_163 : Cond.fieldLink RX3 163 (TX0 7).1 (TX0 7).2.1 (TX0 7).2.2.1 ∈ lw_g := lw_gm 229 (by decide +kernel) (by decide +kernel)
theorem fX0_44 : Cond.fieldLink RX0 44 (TX0 8).1 (TX0 8).2.1 (TX0 8).2.2.1 ∈ lw_g := lw_gm 230 (by decide +kernel) (by decide +kernel)
theorem fX0_54 : Cond.fieldLink RX0 54 (TX0 9).1 (TX0 9).2.1 (TX0 9).2.2.1 ∈ lw_g := lw_gm 231 (by decide +kernel) (by decide +kernel)
theorem fX3_112 : Cond.fieldLink RX3 112 (TX0 9).1 (TX0 9).2.1 (TX0 9).2.2.1 ∈ lw_g := lw_gm 232 (by decide +kernel) (by decide +kernel)
theorem fX10_134 : Cond.fieldLink RX10 134 (TX0 9).1 (TX0 9).2.1 (TX0 9).2.2.1 ∈ lw_g := lw_gm 233 (by decide +kernel) (by decide +kernel)
theorem fX0_57 : Cond.fieldLink RX0 57 (TX0 10).1 (TX0 10).2.1 (TX0 10).2.2.1 ∈ lw_g := lw_gm 234 (by decide +kernel) (by decide +kernel)
theorem fX3_121 : Cond.fieldLink RX3 121 (TX0 10).1 (TX0 10).2.1 (TX0 10).2.2.1 ∈ lw_g := lw_gm 235 (by decide +kernel) (by decide +kernel)
theorem fX10_185 : Cond.fieldLink RX10 185 (TX0 10).1 (TX0 10).2.1 (TX0 10).2.2.1 ∈ lw_g := lw_gm 236 (by decide +kernel) (by decide +kernel)
theorem fX0_60 : Cond.fieldLink RX0 60 (TX0 11).1 (TX0 11).2.1 (TX0 11).2.2.1 ∈ lw_g := lw_gm 237 (by decide +kernel) (by decide +kernel)
theorem fX3_124 : Cond.fieldLink RX3 124 (TX0 11).1 (TX0 11).2.1 (TX0 11).2.2.1 ∈ lw_g := lw_gm 238 (by decide +kernel) (by decide +kernel)
theorem fX0_63 : Cond.fieldLink RX0 63 (TX0 12).1 (TX0 12).2.1 (TX0 12).2.2.1 ∈ lw_g := lw_gm 239 (by decide +kernel) (by decide +kernel)
theorem fX3_127 : Cond.fieldLink RX3 127 (TX0 12).1 (TX0 12).2.1 (TX0 12).2.2.1 ∈ lw_g := lw_gm 240 (by decide +kernel) (by decide +kernel)
theorem fX10_241 : Cond.fieldLink RX10 241 (TX0 12).1 (TX0 12).2.1 (TX0 12).2.2.1 ∈ lw_g := lw_gm 241 (by decide +kernel) (by decide +kernel)
theorem fX0_66 : Cond.fieldLink RX0 66 (TX0 13).1 (TX0 13).2.1 (TX0 13).2.2.1 ∈ lw_g := lw_gm 242 (by decide +kernel) (by decide +kernel)
theorem fX3_130 : Cond.fieldLink RX3 130 (TX0 13).1 (TX0 13).2.1 (TX0 13).2.2.1 ∈ lw_g := lw_gm 243 (by decide +kernel) (by decide +kernel)
theorem fX7_43 : Cond.fieldLink RX7 43 (TX7 0).1 (TX7 0).2.1 (TX7 0).2.2.1 ∈ lw_g := lw_gm 353 (by decide +kernel) (by decide +kernel)
theorem fX7_47 : Cond.fieldLink RX7 47 (TX7 1).1 (TX7 1).2.1 (TX7 1).2.2.1 ∈ lw_g := lw_gm 354 (by decide +kernel) (by decide +kernel)
theorem fX3_177 : Cond.fieldLink RX3 177 (TX7 1).1 (TX7 1).2.1 (TX7 1).2.2.1 ∈ lw_g := lw_gm 355 (by decide +kernel) (by decide +kernel)
theorem fX7_51 : Cond.fieldLink RX7 51 (TX7 2).1 (TX7 2).2.1 (TX7 2).2.2.1 ∈ lw_g := lw_gm 356 (by decide +kernel) (by decide +kernel)
theorem fX3_183 : Cond.fieldLink RX3 183 (TX7 2).1 (TX7 2).2.1 (TX7 2).2.2.1 ∈ lw_g := lw_gm 357 (by decide +kernel) (by decide +kernel)
theorem fX7_54 : Cond.fieldLink RX7 54 (TX7 3).1 (TX7 3).2.1 (TX7 3).2.2.1 ∈ lw_g := lw_gm 358 (by decide +kernel) (by decide +kernel)
theorem fX3_180 : Cond.fieldLink RX3 180 (TX7 3).1 (TX7 3).2.1 (TX7 3).2.2.1 ∈ lw_g := lw_gm 359 (by decide +kernel) (by decide +kernel)
theorem fX7_57 : Cond.fieldLink RX7 57 (TX7 4).1 (TX7 4).2.1 (TX7 4).2.2.1 ∈ lw_g := lw_gm 360 (by decide +kernel) (by decide +kernel)
theorem fX3_176 : Cond.fieldLink RX3 176 (TX7 4).1 (TX7 4).2.1 (TX7 4).2.2.1 ∈ lw_g := lw_gm 361 (by decide +kernel) (by decide +kernel)
theorem fX7_75 : Cond.fieldLink RX7 75 (TX7 5).1 (TX7 5).2.1 (TX7 5).2.2.1 ∈ lw_g := lw_gm 362 (by decide +kernel) (by decide +kernel)
theorem fX3_18 : Cond.fieldLink RX3 18 (TX3 0).1 (TX3 0).2.1 (TX3 0).2.2.1 ∈ lw_g := lw_gm 376 (by decide +kernel) (by decide +kernel)
theorem fX3_9 : Cond.fieldLink RX3 9 (TX3 1).1 (TX3 1).2.1 (TX3 1).2.2.1 ∈ lw_g := lw_gm 377 (by decide +kernel) (by decide +kernel)
theorem fX3_166 : Cond.fieldLink RX3 166 (TX3 2).1 (TX3 2).2.1 (TX3 2).2.2.1 ∈ lw_g := lw_gm 378 (by decide +kernel) (by decide +kernel)
theorem fX3_45 : Cond.fieldLink RX3 45 (TX3 3).1 (TX3 3).2.1 (TX3 3).2.2.1 ∈ lw_g := lw_gm 379 (by decide +kernel) (by decide +kernel)
theorem fX3_155 : Cond.fieldLink RX3 155 (TX3 4).1 (TX3 4).2.1 (TX3 4).2.2.1 ∈ lw_g := lw_gm 380 (by decide +kernel) (by decide +kernel)
theorem fX3_42 : Cond.fieldLink RX3 42 (TX3 5).1 (TX3 5).2.1 (TX3 5).2.2.1 ∈ lw_g := lw_gm 381 (by decide +kernel) (by decide +kernel)
theorem fX3_109 : Cond.fieldLink RX3 109 (TX3 6).1 (TX3 6).2.1 (TX3 6).2.2.1 ∈ lw_g := lw_gm 382 (by decide +kernel) (by decide +kernel)
theorem fX3_22 : Cond.fieldLink RX3 22 (TX3 7).1 (TX3 7).2.1 (TX3 7).2.2.1 ∈ lw_g := lw_gm 383 (by decide +kernel) (by decide +kernel)
theorem fX10_111 : Cond.fieldLink RX10 111 (TX3 7).1 (TX3 7).2.1 (TX3 7).2.2.1 ∈ lw_g := lw_gm 384 (by decide +kernel) (by decide +kernel)
theorem fX3_26 : Cond.fieldLink RX3 26 (TX3 8).1 (TX3 8).2.1 (TX3 8).2.2.1 ∈ lw_g := lw_gm 385 (by decide +kernel) (by decide +kernel)
theorem fX10_114 : Cond.fieldLink RX10 114 (TX3 8).1 (TX3 8).2.1 (TX3 8).2.2.1 ∈ lw_g := lw_gm 386 (by decide +kernel) (by decide +kernel)
theorem fX2_9 : Cond.fieldLink RX2 9 (TX2 0).1 (TX2 0).2.1 (TX2 0).2.2.1 ∈ lw_g := lw_gm 413 (by decide +kernel) (by decide +kernel)
theorem fX10_259 : Cond.fieldLink RX10 259 (TX2 0).1 (TX2 0).2.1 (TX2 0).2.2.1 ∈ lw_g := lw_gm 414 (by decide +kernel) (by decide +kernel)
theorem fX2_15 : Cond.fieldLink RX2 15 (TX2 1).1 (TX2 1).2.1 (TX2 1).2.2.1 ∈ lw_g := lw_gm 415 (by decide +kernel) (by decide +kernel)
theorem fX10_261 : Cond.fieldLink RX10 261 (TX2 1).1 (TX2 1).2.1 (TX2 1).2.2.1 ∈ lw_g := lw_gm 416 (by decide +kernel) (by decide +kernel)
theorem fX2_20 : Cond.fieldLink RX2 20 (TX2 2).1 (TX2 2).2.1 (TX2 2).2.2.1 ∈ lw_g := lw_gm 417 (by decide +kernel) (by decide +kernel)
theorem fX1_51 : Cond.fieldLink RX1 51 (TX2 2).1 (TX2 2).2.1 (TX2 2).2.2.1 ∈ lw_g := lw_gm 418 (by decide +kernel) (by decide +kernel)
theorem fX4_141 : Cond.fieldLink RX4 141 (TX2 2).1 (TX2 2).2.1 (TX2 2).2.2.1 ∈ lw_g := lw_gm 419 (by decide +kernel) (by decide +kernel)
theorem fX10_177 : Cond.fieldLink RX10 177 (TX2 2).1 (TX2 2).2.1 (TX2 2).2.2.1 ∈ lw_g := lw_gm 420 (by decide +kernel) (by decide +kernel)
theorem fX2_23 : Cond.fieldLink RX2 23 (TX2 3).1 (TX2 3).2.1 (TX2 3).2.2.1 ∈ lw_g := lw_gm 421 (by decide +kernel) (by decide +kernel)
theorem fX2_26 : Cond.fieldLink RX2 26 (TX2 4).1 (TX2 4).2.1 (TX2 4).2.2.1 ∈ lw_g := lw_gm 422 (by decide +kernel) (by decide +kernel)
theorem fX1_48 : Cond.fieldLink RX1 48 (TX2 4).1 (TX2 4).2.1 (TX2 4).2.2.1 ∈ lw_g := lw_gm 423 (by decide +kernel) (by decide +kernel)
theorem fX10_258 : Cond.fieldLink RX10 258 (TX2 4).1 (TX2 4).2.1 (TX2 4).2.2.1 ∈ lw_g := lw_gm 424 (by decide +kernel) (by decide +kernel)
theorem fX1_9 : Cond.fieldLink RX1 9 (TX1 0).1 (TX1 0).2.1 (TX1 0).2.2.1 ∈ lw_g := lw_gm 442 (by decide +kernel) (by decide +kernel)
theorem fX1_15 : Cond.fieldLink RX1 15 (TX1 1).1 (TX1 1).2.1 (TX1 1).2.2.1 ∈ lw_g := lw_gm 443 (by decide +kernel) (by decide +kernel)
theorem fX1_18 : Cond.fieldLink RX1 18 (TX1 2).1 (TX1 2).2.1 (TX1 2).2.2.1 ∈ lw_g := lw_gm 444 (by decide +kernel) (by decide +kernel)
theorem fX1_21 : Cond.fieldLink RX1 21 (TX1 3).1 (TX1 3).2.1 (TX1 3).2.2.1 ∈ lw_g := lw_gm 445 (by decide +kernel) (by decide +kernel)
theorem fX1_24 : Cond.fieldLink RX1 24 (TX1 4).1 (TX1 4).2.1 (TX1 4).2.2.1 ∈ lw_g := lw_gm 446 (by decide +kernel) (by decide +kernel)
theorem fX1_27 : Cond.fieldLink RX1 27 (TX1 5).1 (TX1 5).2.1 (TX1 5).2.2.1 ∈ lw_g := lw_gm 447 (by decide +kernel) (by decide +kernel)
theorem fX1_30 : Cond.fieldLink RX1 30 (TX1 6).1 (TX1 6).2.1 (TX1 6).2.2.1 ∈ lw_g := lw_gm 448 (by decide +kernel) (by decide +kernel)
theorem fX1_34 : Cond.fieldLink RX1 34 (TX1 7).1 (TX1 7).2.1 (TX1 7).2.2.1 ∈ lw_g := lw_gm 449 (by decide +kernel) (by decide +kernel)
theorem fX10_282 : Cond.fieldLink RX10 282 (TX1 7).1 (TX1 7).2.1 (TX1 7).2.2.1 ∈ lw_g := lw_gm 450 (by decide +kernel) (by decide +kernel)
theorem fX1_37 : Cond.fieldLink RX1 37 (TX1 8).1 (TX1 8).2.1 (TX1 8).2.2.1 ∈ lw_g := lw_gm 451 (by decide +kernel) (by decide +kernel)
theorem fX1_41 : Cond.fieldLink RX1 41 (TX1 9).1 (TX1 9).2.1 (TX1 9).2.2.1 ∈ lw_g := lw_gm 452 (by decide +kernel) (by decide +kernel)
theorem fX10_120 : Cond.fieldLink RX10 120 (TX1 9).1 (TX1 9).2.1 (TX1 9).2.2.1 ∈ lw_g := lw_gm 453 (by decide +kernel) (by decide +kernel)
theorem fX1_92 : Cond.fieldLink RX1 92 (TX1 10).1 (TX1 10).2.1 (TX1 10).2.2.1 ∈ lw_g := lw_gm 454 (by decide +kernel) (by decide +kernel)
theorem fX10_288 : Cond.fieldLink RX10 288 (TX1 10).1 (TX1 10).2.1 (TX1 10).2.2.1 ∈ lw_g := lw_gm 455 (by decide +kernel) (by decide +kernel)
theorem fX1_95 : Cond.fieldLink RX1 95 (TX1 11).1 (TX1 11).2.1 (TX1 11).2.2.1 ∈ lw_g := lw_gm 456 (by decide +kernel) (by decide +kernel)
theorem fX10_291 : Cond.fieldLink RX10 291 (TX1 11).1 (TX1 11).2.1 (TX1 11).2.2.1 ∈ lw_g := lw_gm 457 (by decide +kernel) (by decide +kernel)
theorem fX1_77 : Cond.fieldLink RX1 77 (TX1 12).1 (TX1 12).2.1 (TX1 12).2.2.1 ∈ lw_g := lw_gm 458 (by decide +kernel) (by decide +kernel)
theorem fX10_294 : Cond.fieldLink RX10 294 (TX1 12).1 (TX1 12).2.1 (TX1 12).2.2.1 ∈ lw_g := lw_gm 459 (by decide +kernel) (by decide +kernel)
theorem fX9_17 : Cond.fieldLink RX9 17 (TX9 0).1 (TX9 0).2.1 (TX9 0).2.2.1 ∈ lw_g := lw_gm 500 (by decide +kernel) (by decide +kernel)
theorem fX9_20 : Cond.fieldLink RX9 20 (TX9 1).1 (TX9 1).2.1 (TX9 1).2.2.1 ∈ lw_g := lw_gm 501 (by decide +kernel) (by decide +kernel)
theorem fX9_9 : Cond.fieldLink RX9 9 (TX9 2).1 (TX9 2).2.1 (TX9 2).2.2.1 ∈ lw_g := lw_gm 502 (by decide +kernel) (by decide +kernel)
theorem fX9_27 : Cond.fieldLink RX9 27 (TX9 3).1 (TX9 3).2.1 (TX9 3).2.2.1 ∈ lw_g := lw_gm 503 (by decide +kernel) (by decide +kernel)
theorem fX9_31 : Cond.fieldLink RX9 31 (TX9 4).1 (TX9 4).2.1 (TX9 4).2.2.1 ∈ lw_g := lw_gm 504 (by decide +kernel) (by decide +kernel)
theorem fX9_34 : Cond.fieldLink RX9 34 (TX9 5).1 (TX9 5).2.1 (TX9 5).2.2.1 ∈ lw_g := lw_gm 505 (by decide +kernel) (by decide +kernel)
theorem fX9_37 : Cond.fieldLink RX9 37 (TX9 6).1 (TX9 6).2.1 (TX9 6).2.2.1 ∈ lw_g := lw_gm 506 (by decide +kernel) (by decide +kernel)
theorem fX9_24 : Cond.fieldLink RX9 24 (TX9 7).1 (TX9 7).2.1 (TX9 7).2.2.1 ∈ lw_g := lw_gm 507 (by decide +kernel) (by decide +kernel)
theorem fX4_106 : Cond.fieldLink RX4 106 (TX9 7).1 (TX9 7).2.1 (TX9 7).2.2.1 ∈ lw_g := lw_gm 508 (by decide +kernel) (by decide +kernel)
theorem fX9_40 : Cond.fieldLink RX9 40 (TX9 8).1 (TX9 8).2.1 (TX9 8).2.2.1 ∈ lw_g := lw_gm 509 (by decide +kernel) (by decide +kernel)
theorem fX4_100 : Cond.fieldLink RX4 100 (TX9 8).1 (TX9 8).2.1 (TX9 8).2.2.1 ∈ lw_g := lw_gm 510 (by decide +kernel) (by decide +kernel)
theorem fX9_43 : Cond.fieldLink RX9 43 (TX9 9).1 (TX9 9).2.1 (TX9 9).2.2.1 ∈ lw_g := lw_gm 511 (by decide +kernel) (by decide +kernel)
theorem fX4_94 : Cond.fieldLink RX4 94 (TX9 9).1 (TX9 9).2.1 (TX9 9).2.2.1 ∈ lw_g := lw_gm 512 (by decide +kernel) (by decide +kernel)
theorem fX4_9 : Cond.fieldLink RX4 9 (TX4 0).1 (TX4 0).2.1 (TX4 0).2.2.1 ∈ lw_g := lw_gm 534 (by decide +kernel) (by decide +kernel)
theorem fX4_15 : Cond.fieldLink RX4 15 (TX4 1).1 (TX4 1).2.1 (TX4 1).2.2.1 ∈ lw_g := lw_gm 535 (by decide +kernel) (by decide +kernel)
theorem fX4_24 : Cond.fieldLink RX4 24 (TX4 2).1 (TX4 2).2.1 (TX4 2).2.2.1 ∈ lw_g := lw_gm 536 (by decide +kernel) (by decide +kernel)
theorem fX4_56 : Cond.fieldLink RX4 56 (TX4 3).1 (TX4 3).2.1 (TX4 3).2.2.1 ∈ lw_g := lw_gm 537 (by decide +kernel) (by decide +kernel)
theorem fX4_59 : Cond.fieldLink RX4 59 (TX4 4).1 (TX4 4).2.1 (TX4 4).2.2.1 ∈ lw_g := lw_gm 538 (by decide +kernel) (by decide +kernel)
theorem fX4_62 : Cond.fieldLink RX4 62 (TX4 5).1 (TX4 5).2.1 (TX4 5).2.2.1 ∈ lw_g := lw_gm 539 (by decide +kernel) (by decide +kernel)
theorem fX4_65 : Cond.fieldLink RX4 65 (TX4 6).1 (TX4 6).2.1 (TX4 6).2.2.1 ∈ lw_g := lw_gm 540 (by decide +kernel) (by decide +kernel)
theorem fX4_97 : Cond.fieldLink RX4 97 (TX4 7).1 (TX4 7).2.1 (TX4 7).2.2.1 ∈ lw_g := lw_gm 541 (by decide +kernel) (by decide +kernel)
theorem fX4_103 : Cond.fieldLink RX4 103 (TX4 8).1 (TX4 8).2.1 (TX4 8).2.2.1 ∈ lw_g := lw_gm 542 (by decide +kernel) (by decide +kernel)
theorem fX4_28 : Cond.fieldLink RX4 28 (TX4 9).1 (TX4 9).2.1 (TX4 9).2.2.1 ∈ lw_g := lw_gm 543 (by decide +kernel) (by decide +kernel)
theorem fX4_32 : Cond.fieldLink RX4 32 (TX4 10).1 (TX4 10).2.1 (TX4 10).2.2.1 ∈ lw_g := lw_gm 544 (by decide +kernel) (by decide +kernel)
theorem fX4_35 : Cond.fieldLink RX4 35 (TX4 11).1 (TX4 11).2.1 (TX4 11).2.2.1 ∈ lw_g := lw_gm 545 (by decide +kernel) (by decide +kernel)
theorem fX4_178 : Cond.fieldLink RX4 178 (TX4 12).1 (TX4 12).2.1 (TX4 12).2.2.1 ∈ lw_g := lw_gm 546 (by decide +kernel) (by decide +kernel)
theorem fX4_42 : Cond.fieldLink RX4 42 (TX4 13).1 (TX4 13).2.1 (TX4 13).2.2.1 ∈ lw_g := lw_gm 547 (by decide +kernel) (by decide +kernel)
theorem fX10_192 : Cond.fieldLink RX10 192 (TX4 13).1 (TX4 13).2.1 (TX4 13).2.2.1 ∈ lw_g := lw_gm 548 (by decide +kernel) (by decide +kernel)
theorem fX4_46 : Cond.fieldLink RX4 46 (TX4 14).1 (TX4 14).2.1 (TX4 14).2.2.1 ∈ lw_g := lw_gm 549 (by decide +kernel) (by decide +kernel)
theorem fX10_195 : Cond.fieldLink RX10 195 (TX4 14).1 (TX4 14).2.1 (TX4 14).2.2.1 ∈ lw_g := lw_gm 550 (by decide +kernel) (by decide +kernel)
theorem fX4_50 : Cond.fieldLink RX4 50 (TX4 15).1 (TX4 15).2.1 (TX4 15).2.2.1 ∈ lw_g := lw_gm 551 (by decide +kernel) (by decide +kernel)
theorem fX10_220 : Cond.fieldLink RX10 220 (TX4 15).1 (TX4 15).2.1 (TX4 15).2.2.1 ∈ lw_g := lw_gm 552 (by decide +kernel) (by decide +kernel)
theorem fX4_38 : Cond.fieldLink RX4 38 (TX4 16).1 (TX4 16).2.1 (TX4 16).2.2.1 ∈ lw_g := lw_gm 553 (by decide +kernel) (by decide +kernel)
theorem fX10_213 : Cond.fieldLink RX10 213 (TX4 16).1 (TX4 16).2.1 (TX4 16).2.2.1 ∈ lw_g := lw_gm 554 (by decide +kernel) (by decide +kernel)
theorem fX4_53 : Cond.fieldLink RX4 53 (TX4 17).1 (TX4 17).2.1 (TX4 17).2.2.1 ∈ lw_g := lw_gm 555 (by decide +kernel) (by decide +kernel)
theorem fX10_207 : Cond.fieldLink RX10 207 (TX4 17).1 (TX4 17).2.1 (TX4 17).2.2.1 ∈ lw_g := lw_gm 556 (by decide +kernel) (by decide +kernel)
theorem fX8_9 : Cond.fieldLink RX8 9 (TX8 0).1 (TX8 0).2.1 (TX8 0).2.2.1 ∈ lw_g := lw_gm 607 (by decide +kernel) (by decide +kernel)
theorem fX10_160 : Cond.fieldLink RX10 160 (TX8 0).1 (TX8 0).2.1 (TX8 0).2.2.1 ∈ lw_g := lw_gm 608 (by decide +kernel) (by decide +kernel)
theorem fX8_23 : Cond.fieldLink RX8 23 (TX8 1).1 (TX8 1).2.1 (TX8 1).2.2.1 ∈ lw_g := lw_gm 609 (by decide +kernel) (by decide +kernel)
theorem fX10_178 : Cond.fieldLink RX10 178 (TX8 1).1 (TX8 1).2.1 (TX8 1).2.2.1 ∈ lw_g := lw_gm 610 (by decide +kernel) (by decide +kernel)
theorem fX8_26 : Cond.fieldLink RX8 26 (TX8 2).1 (TX8 2).2.1 (TX8 2).2.2.1 ∈ lw_g := lw_gm 611 (by decide +kernel) (by decide +kernel)
theorem fX10_297 : Cond.fieldLink RX10 297 (TX8 2).1 (TX8 2).2.1 (TX8 2).2.2.1 ∈ lw_g := lw_gm 612 (by decide +kernel) (by decide +kernel)
theorem fX8_15 : Cond.fieldLink RX8 15 (TX8 3).1 (TX8 3).2.1 (TX8 3).2.2.1 ∈ lw_g := lw_gm 613 (by decide +kernel) (by decide +kernel)
theorem fX10_251 : Cond.fieldLink RX10 251 (TX8 3).1 (TX8 3).2.1 (TX8 3).2.2.1 ∈ lw_g := lw_gm 614 (by decide +kernel) (by decide +kernel)
theorem fX10_127 : Cond.fieldLink RX10 127 (TX8 4).1 (TX8 4).2.1 (TX8 4).2.2.1 ∈ lw_g := lw_gm 615 (by decide +kernel) (by decide +kernel)
theorem fX10_12 : Cond.fieldLink RX10 12 (TX10 0).1 (TX10 0).2.1 (TX10 0).2.2.1 ∈ lw_g := lw_gm 628 (by decide +kernel) (by decide +kernel)
theorem fX10_31 : Cond.fieldLink RX10 31 (TX10 1).1 (TX10 1).2.1 (TX10 1).2.2.1 ∈ lw_g := lw_gm 629 (by decide +kernel) (by decide +kernel)
theorem fX10_19 : Cond.fieldLink RX10 19 (TX10 2).1 (TX10 2).2.1 (TX10 2).2.2.1 ∈ lw_g := lw_gm 630 (by decide +kernel) (by decide +kernel)
theorem fX10_23 : Cond.fieldLink RX10 23 (TX10 3).1 (TX10 3).2.1 (TX10 3).2.2.1 ∈ lw_g := lw_gm 631 (by decide +kernel) (by decide +kernel)
theorem fX10_38 : Cond.fieldLink RX10 38 (TX10 4).1 (TX10 4).2.1 (TX10 4).2.2.1 ∈ lw_g := lw_gm 632 (by decide +kernel) (by decide +kernel)
theorem fX10_45 : Cond.fieldLink RX10 45 (TX10 5).1 (TX10 5).2.1 (TX10 5).2.2.1 ∈ lw_g := lw_gm 633 (by decide +kernel) (by decide +kernel)
theorem fX10_54 : Cond.fieldLink RX10 54 (TX10 6).1 (TX10 6).2.1 (TX10 6).2.2.1 ∈ lw_g := lw_gm 634 (by decide +kernel) (by decide +kernel)
theorem fX10_61 : Cond.fieldLink RX10 61 (TX10 7).1 (TX10 7).2.1 (TX10 7).2.2.1 ∈ lw_g := lw_gm 635 (by decide +kernel) (by decide +kernel)
theorem fX10_65 : Cond.fieldLink RX10 65 (TX10 8).1 (TX10 8).2.1 (TX10 8).2.2.1 ∈ lw_g := lw_gm 636 (by decide +kernel) (by decide +kernel)
theorem fX10_69 : Cond.fieldLink RX10 69 (TX10 9).1 (TX10 9).2.1 (TX10 9).2.2.1 ∈ lw_g := lw_gm 637 (by decide +kernel) (by decide +kernel)
theorem fX10_73 : Cond.fieldLink RX10 73 (TX10 10).1 (TX10 10).2.1 (TX10 10).2.2.1 ∈ lw_g := lw_gm 638 (by decide +kernel) (by decide +kernel)
theorem fX10_76 : Cond.fieldLink RX10 76 (TX10 11).1 (TX10 11).2.1 (TX10 11).2.2.1 ∈ lw_g := lw_gm 639 (by decide +kernel) (by decide +kernel)
theorem fX10_80 : Cond.fieldLink RX10 80 (TX10 12).1 (TX10 12).2.1 (TX10 12).2.2.1 ∈ lw_g := lw_gm 640 (by decide +kernel) (by decide +kernel)
theorem fX11_7 : Cond.fieldLink RX11 7 (TX11 0).1 (TX11 0).2.1 (TX11 0).2.2.1 ∈ lw_g := lw_gm 1203 (by decide +kernel) (by decide +kernel)
theorem fX11_167 : Cond.fieldLink RX11 167 (TX11 1).1 (TX11 1).2.1 (TX11 1).2.2.1 ∈ lw_g := lw_gm 1204 (by decide +kernel) (by decide +kernel)
theorem fX11_204 : Cond.fieldLink RX11 204 (TX11 2).1 (TX11 2).2.1 (TX11 2).2.2.1 ∈ lw_g := lw_gm 1205 (by decide +kernel) (by decide +kernel)
theorem fX11_13 : Cond.fieldLink RX11 13 (TX11 3).1 (TX11 3).2.1 (TX11 3).2.2.1 ∈ lw_g := lw_gm 1206 (by decide +kernel) (by decide +kernel)
theorem fX11_174 : Cond.fieldLink RX11 174 (TX11 4).1 (TX11 4).2.1 (TX11 4).2.2.1 ∈ lw_g := lw_gm 1207 (by decide +kernel) (by decide +kernel)
theorem fX11_177 : Cond.fieldLink RX11 177 (TX11 5).1 (TX11 5).2.1 (TX11 5).2.2.1 ∈ lw_g := lw_gm 1208 (by decide +kernel) (by decide +kernel)
theorem fX11_194 : Cond.fieldLink RX11 194 (TX11 6).1 (TX11 6).2.1 (TX11 6).2.2.1 ∈ lw_g := lw_gm 1209 (by decide +kernel) (by decide +kernel)
theorem fX11_184 : Cond.fieldLink RX11 184 (TX11 7).1 (TX11 7).2.1 (TX11 7).2.2.1 ∈ lw_g := lw_gm 1210 (by decide +kernel) (by decide +kernel)
theorem fX11_191 : Cond.fieldLink RX11 191 (TX11 8).1 (TX11 8).2.1 (TX11 8).2.2.1 ∈ lw_g := lw_gm 1211 (by decide +kernel) (by decide +kernel)
theorem fX11_187 : Cond.fieldLink RX11 187 (TX11 9).1 (TX11 9).2.1 (TX11 9).2.2.1 ∈ lw_g := lw_gm 1212 (by decide +kernel) (by decide +kernel)
theorem fX11_17 : Cond.fieldLink RX11 17 (TX11 10).1 (TX11 10).2.1 (TX11 10).2.2.1 ∈ lw_g := lw_gm 1213 (by decide +kernel) (by decide +kernel)
theorem fX11_21 : Cond.fieldLink RX11 21 (TX11 11).1 (TX11 11).2.1 (TX11 11).2.2.1 ∈ lw_g := lw_gm 1214 (by decide +kernel) (by decide +kernel)
theorem fX11_24 : Cond.fieldLink RX11 24 (TX11 12).1 (TX11 12).2.1 (TX11 12).2.2.1 ∈ lw_g := lw_gm 1215 (by decide +kernel) (by decide +kernel)
theorem fX11_27 : Cond.fieldLink RX11 27 (TX11 13).1 (TX11 13).2.1 (TX11 13).2.2.1 ∈ lw_g := lw_gm 1216 (by decide +kernel) (by decide +kernel)
theorem fX11_30 : Cond.fieldLink RX11 30 (TX11 14).1 (TX11 14).2.1 (TX11 14).2.2.1 ∈ lw_g := lw_gm 1217 (by decide +kernel) (by decide +kernel)
theorem fX11_33 : Cond.fieldLink RX11 33 (TX11 15).1 (TX11 15).2.1 (TX11 15).2.2.1 ∈ lw_g := lw_gm 1218 (by decide +kernel) (by decide +kernel)
theorem fX11_36 : Cond.fieldLink RX11 36 (TX11 16).1 (TX11 16).2.1 (TX11 16).2.2.1 ∈ lw_g := lw_gm 1219 (by decide +kernel) (by decide +kernel)
theorem fX11_39 : Cond.fieldLink RX11 39 (TX11 17).1 (TX11 17).2.1 (TX11 17).2.2.1 ∈ lw_g := lw_gm 1220 (by decide +kernel) (by decide +kernel)
theorem fX11_42 : Cond.fieldLink RX11 42 (TX11 18).1 (TX11 18).2.1 (TX11 18).2.2.1 ∈ lw_g := lw_gm 1221 (by decide +kernel) (by decide +kernel)
theorem fX11_45 : Cond.fieldLink RX11 45 (TX11 19).1 (TX11 19).2.1 (TX11 19).2.2.1 ∈ lw_g := lw_gm 1222 (by decide +kernel) (by decide +kernel)
theorem fX11_48 : Cond.fieldLink RX11 48 (TX11 20).1 (TX11 20).2.1 (TX11 20).2.2.1 ∈ lw_g := lw_gm 1223 (by decide +kernel) (by decide +kernel)
theorem fX11_51 : Cond.fieldLink RX11 51 (TX11 21).1 (TX11 21).2.1 (TX11 21).2.2.1 ∈ lw_g := lw_gm 1224 (by decide +kernel) (by decide +kernel)
theorem fX11_54 : Cond.fieldLink RX11 54 (TX11 22).1 (TX11 22).2.1 (TX11 22).2.2.1 ∈ lw_g := lw_gm 1225 (by decide +kernel) (by decide +kernel)
theorem fX11_57 : Cond.fieldLink RX11 57 (TX11 23).1 (TX11 23).2.1 (TX11 23).2.2.1 ∈ lw_g := lw_gm 1226 (by decide +kernel) (by decide +kernel)
theorem fX11_60 : Cond.fieldLink RX11 60 (TX11 24).1 (TX11 24).2.1 (TX11 24).2.2.1 ∈ lw_g := lw_gm 1227 (by decide +kernel) (by decide +kernel)
theorem fX11_63 : Cond.fieldLink RX11 63 (TX11 25).1 (TX11 25).2.1 (TX11 25).2.2.1 ∈ lw_g := lw_gm 1228 (by decide +kernel) (by decide +kernel)
theorem fX11_66 : Cond.fieldLink RX11 66 (TX11 26).1 (TX11 26).2.1 (TX11 26).2.2.1 ∈ lw_g := lw_gm 1229 (by decide +kernel) (by decide +kernel)
theorem fX11_69 : Cond.fieldLink RX11 69 (TX11 27).1 (TX11 27).2.1 (TX11 27).2.2.1 ∈ lw_g := lw_gm 1230 (by decide +kernel) (by decide +kernel)
theorem fX11_72 : Cond.fieldLink RX11 72 (TX11 28).1 (TX11 28).2.1 (TX11 28).2.2.1 ∈ lw_g := lw_gm 1231 (by decide +kernel) (by decide +kernel)
theorem fX11_260 : Cond.fieldLink RX11 260 (TX11 29).1 (TX11 29).2.1 (TX11 29).2.2.1 ∈ lw_g := lw_gm 1232 (by decide +kernel) (by decide +kernel)
theorem fX11_274 : Cond.fieldLink RX11 274 (TX11 30).1 (TX11 30).2.1 (TX11 30).2.2.1 ∈ lw_g := lw_gm 1233 (by decide +kernel) (by decide +kernel)
theorem fX11_299 : Cond.fieldLink RX11 299 (TX11 31).1 (TX11 31).2.1 (TX11 31).2.2.1 ∈ lw_g := lw_gm 1234 (by decide +kernel) (by decide +kernel)
theorem fX11_302 : Cond.fieldLink RX11 302 (TX11 32).1 (TX11 32).2.1 (TX11 32).2.2.1 ∈ lw_g := lw_gm 1235 (by decide +kernel) (by decide +kernel)
theorem fX11_158 : Cond.fieldLink RX11 158 (TX11 33).1 (TX11 33).2.1 (TX11 33).2.2.1 ∈ lw_g := lw_gm 1236 (by decide +kernel) (by decide +kernel)
theorem fX11_161 : Cond.fieldLink RX11 161 (TX11 34).1 (TX11 34).2.1 (TX11 34).2.2.1 ∈ lw_g := lw_gm 1237 (by decide +kernel) (by decide +kernel)
theorem fX11_164 : Cond.fieldLink RX11 164 (TX11 35).1 (TX11 35).2.1 (TX11 35).2.2.1 ∈ lw_g := lw_gm 1238 (by decide +kernel) (by decide +kernel)
theorem fX11_330 : Cond.fieldLink RX11 330 (TX11 36).1 (TX11 36).2.1 (TX11 36).2.2.1 ∈ lw_g := lw_gm 1239 (by decide +kernel) (by decide +kernel)
theorem fX11_281 : Cond.fieldLink RX11 281 (TX11 37).1 (TX11 37).2.1 (TX11 37).2.2.1 ∈ lw_g := lw_gm 1240 (by decide +kernel) (by decide +kernel)
theorem fX11_287 : Cond.fieldLink RX11 287 (TX11 38).1 (TX11 38).2.1 (TX11 38).2.2.1 ∈ lw_g := lw_gm 1241 (by decide +kernel) (by decide +kernel)
theorem fX11_290 : Cond.fieldLink RX11 290 (TX11 39).1 (TX11 39).2.1 (TX11 39).2.2.1 ∈ lw_g := lw_gm 1242 (by decide +kernel) (by decide +kernel)
theorem fX11_277 : Cond.fieldLink RX11 277 (TX11 40).1 (TX11 40).2.1 (TX11 40).2.2.1 ∈ lw_g := lw_gm 1243 (by decide +kernel) (by decide +kernel)
theorem fX11_293 : Cond.fieldLink RX11 293 (TX11 41).1 (TX11 41).2.1 (TX11 41).2.2.1 ∈ lw_g := lw_gm 1244 (by decide +kernel) (by decide +kernel)
theorem fX11_333 : Cond.fieldLink RX11 333 (TX11 42).1 (TX11 42).2.1 (TX11 42).2.2.1 ∈ lw_g := lw_gm 1245 (by decide +kernel) (by decide +kernel)
theorem fX11_75 : Cond.fieldLink RX11 75 (TX11 43).1 (TX11 43).2.1 (TX11 43).2.2.1 ∈ lw_g := lw_gm 1246 (by decide +kernel) (by decide +kernel)
theorem fX11_78 : Cond.fieldLink RX11 78 (TX11 44).1 (TX11 44).2.1 (TX11 44).2.2.1 ∈ lw_g := lw_gm 1247 (by decide +kernel) (by decide +kernel)
theorem fX11_81 : Cond.fieldLink RX11 81 (TX11 45).1 (TX11 45).2.1 (TX11 45).2.2.1 ∈ lw_g := lw_gm 1248 (by decide +kernel) (by decide +kernel)
theorem fX11_426 : Cond.fieldLink RX11 426 (TX11 46).1 (TX11 46).2.1 (TX11 46).2.2.1 ∈ lw_g := lw_gm 1249 (by decide +kernel) (by decide +kernel)
theorem fX11_429 : Cond.fieldLink RX11 429 (TX11 47).1 (TX11 47).2.1 (TX11 47).2.2.1 ∈ lw_g := lw_gm 1250 (by decide +kernel) (by decide +kernel)
theorem fX11_432 : Cond.fieldLink RX11 432 (TX11 48).1 (TX11 48).2.1 (TX11 48).2.2.1 ∈ lw_g := lw_gm 1251 (by decide +kernel) (by decide +kernel)
theorem fX11_435 : Cond.fieldLink RX11 435 (TX11 49).1 (TX11 49).2.1 (TX11 49).2.2.1 ∈ lw_g := lw_gm 1252 (by decide +kernel) (by decide +kernel)
theorem fX11_342 : Cond.fieldLink RX11 342 (TX11 50).1 (TX11 50).2.1 (TX11 50).2.2.1 ∈ lw_g := lw_gm 1253 (by decide +kernel) (by decide +kernel)
theorem fX11_84 : Cond.fieldLink RX11 84 (TX11 51).1 (TX11 51).2.1 (TX11 51).2.2.1 ∈ lw_g := lw_gm 1254 (by decide +kernel) (by decide +kernel)
theorem fX11_348 : Cond.fieldLink RX11 348 (TX11 52).1 (TX11 52).2.1 (TX11 52).2.2.1 ∈ lw_g := lw_gm 1255 (by decide +kernel) (by decide +kernel)
theorem fX11_447 : Cond.fieldLink RX11 447 (TX11 53).1 (TX11 53).2.1 (TX11 53).2.2.1 ∈ lw_g := lw_gm 1256 (by decide +kernel) (by decide +kernel)
theorem fX11_450 : Cond.fieldLink RX11 450 (TX11 54).1 (TX11 54).2.1 (TX11 54).2.2.1 ∈ lw_g := lw_gm 1257 (by decide +kernel) (by decide +kernel)
theorem fX11_87 : Cond.fieldLink RX11 87 (TX11 55).1 (TX11 55).2.1 (TX11 55).2.2.1 ∈ lw_g := lw_gm 1258 (by decide +kernel) (by decide +kernel)
theorem fX11_91 : Cond.fieldLink RX11 91 (TX11 56).1 (TX11 56).2.1 (TX11 56).2.2.1 ∈ lw_g := lw_gm 1259 (by decide +kernel) (by decide +kernel)
theorem fX11_94 : Cond.fieldLink RX11 94 (TX11 57).1 (TX11 57).2.1 (TX11 57).2.2.1 ∈ lw_g := lw_gm 1260 (by decide +kernel) (by decide +kernel)
theorem fX11_345 : Cond.fieldLink RX11 345 (TX11 58).1 (TX11 58).2.1 (TX11 58).2.2.1 ∈ lw_g := lw_gm 1261 (by decide +kernel) (by decide +kernel)
theorem fX11_480 : Cond.fieldLink RX11 480 (TX11 59).1 (TX11 59).2.1 (TX11 59).2.2.1 ∈ lw_g := lw_gm 1262 (by decide +kernel) (by decide +kernel)
theorem fX11_97 : Cond.fieldLink RX11 97 (TX11 60).1 (TX11 60).2.1 (TX11 60).2.2.1 ∈ lw_g := lw_gm 1263 (by decide +kernel) (by decide +kernel)
theorem fX11_100 : Cond.fieldLink RX11 100 (TX11 61).1 (TX11 61).2.1 (TX11 61).2.2.1 ∈ lw_g := lw_gm 1264 (by decide +kernel) (by decide +kernel)
theorem fX11_103 : Cond.fieldLink RX11 103 (TX11 62).1 (TX11 62).2.1 (TX11 62).2.2.1 ∈ lw_g := lw_gm 1265 (by decide +kernel) (by decide +kernel)
theorem fX11_351 : Cond.fieldLink RX11 351 (TX11 63).1 (TX11 63).2.1 (TX11 63).2.2.1 ∈ lw_g := lw_gm 1266 (by decide +kernel) (by decide +kernel)
theorem fX11_106 : Cond.fieldLink RX11 106 (TX11 64).1 (TX11 64).2.1 (TX11 64).2.2.1 ∈ lw_g := lw_gm 1267 (by decide +kernel) (by decide +kernel)
theorem fX11_379 : Cond.fieldLink RX11 379 (TX11 65).1 (TX11 65).2.1 (TX11 65).2.2.1 ∈ lw_g := lw_gm 1268 (by decide +kernel) (by decide +kernel)
theorem fX11_506 : Cond.fieldLink RX11 506 (TX11 66).1 (TX11 66).2.1 (TX11 66).2.2.1 ∈ lw_g := lw_gm 1269 (by decide +kernel) (by decide +kernel)
theorem fX11_109 : Cond.fieldLink RX11 109 (TX11 67).1 (TX11 67).2.1 (TX11 67).2.2.1 ∈ lw_g := lw_gm 1270 (by decide +kernel) (by decide +kernel)
theorem fX11_112 : Cond.fieldLink RX11 112 (TX11 68).1 (TX11 68).2.1 (TX11 68).2.2.1 ∈ lw_g := lw_gm 1271 (by decide +kernel) (by decide +kernel)
theorem fX11_115 : Cond.fieldLink RX11 115 (TX11 69).1 (TX11 69).2.1 (TX11 69).2.2.1 ∈ lw_g := lw_gm 1272 (by decide +kernel) (by decide +kernel)
theorem fX11_516 : Cond.fieldLink RX11 516 (TX11 70).1 (TX11 70).2.1 (TX11 70).2.2.1 ∈ lw_g := lw_gm 1273 (by decide +kernel) (by decide +kernel)
theorem fX11_118 : Cond.fieldLink RX11 118 (TX11 71).1 (TX11 71).2.1 (TX11 71).2.2.1 ∈ lw_g := lw_gm 1274 (by decide +kernel) (by decide +kernel)
theorem fX11_121 : Cond.fieldLink RX11 121 (TX11 72).1 (TX11 72).2.1 (TX11 72).2.2.1 ∈ lw_g := lw_gm 1275 (by decide +kernel) (by decide +kernel)
theorem fX11_124 : Cond.fieldLink RX11 124 (TX11 73).1 (TX11 73).2.1 (TX11 73).2.2.1 ∈ lw_g := lw_gm 1276 (by decide +kernel) (by decide +kernel)
theorem fX11_127 : Cond.fieldLink RX11 127 (TX11 74).1 (TX11 74).2.1 (TX11 74).2.2.1 ∈ lw_g := lw_gm 1277 (by decide +kernel) (by decide +kernel)
theorem fX11_130 : Cond.fieldLink RX11 130 (TX11 75).1 (TX11 75).2.1 (TX11 75).2.2.1 ∈ lw_g := lw_gm 1278 (by decide +kernel) (by decide +kernel)
theorem fX11_133 : Cond.fieldLink RX11 133 (TX11 76).1 (TX11 76).2.1 (TX11 76).2.2.1 ∈ lw_g := lw_gm 1279 (by decide +kernel) (by decide +kernel)
theorem fX11_339 : Cond.fieldLink RX11 339 (TX11 77).1 (TX11 77).2.1 (TX11 77).2.2.1 ∈ lw_g := lw_gm 1280 (by decide +kernel) (by decide +kernel)
theorem fX11_524 : Cond.fieldLink RX11 524 (TX11 78).1 (TX11 78).2.1 (TX11 78).2.2.1 ∈ lw_g := lw_gm 1281 (by decide +kernel) (by decide +kernel)
theorem fX11_136 : Cond.fieldLink RX11 136 (TX11 79).1 (TX11 79).2.1 (TX11 79).2.2.1 ∈ lw_g := lw_gm 1282 (by decide +kernel) (by decide +kernel)
theorem fX11_139 : Cond.fieldLink RX11 139 (TX11 80).1 (TX11 80).2.1 (TX11 80).2.2.1 ∈ lw_g := lw_gm 1283 (by decide +kernel) (by decide +kernel)
theorem fX11_536 : Cond.fieldLink RX11 536 (TX11 81).1 (TX11 81).2.1 (TX11 81).2.2.1 ∈ lw_g := lw_gm 1284 (by decide +kernel) (by decide +kernel)
theorem fX11_142 : Cond.fieldLink RX11 142 (TX11 82).1 (TX11 82).2.1 (TX11 82).2.2.1 ∈ lw_g := lw_gm 1285 (by decide +kernel) (by decide +kernel)
theorem fX11_146 : Cond.fieldLink RX11 146 (TX11 83).1 (TX11 83).2.1 (TX11 83).2.2.1 ∈ lw_g := lw_gm 1286 (by decide +kernel) (by decide +kernel)
theorem fX11_149 : Cond.fieldLink RX11 149 (TX11 84).1 (TX11 84).2.1 (TX11 84).2.2.1 ∈ lw_g := lw_gm 1287 (by decide +kernel) (by decide +kernel)
theorem fX11_152 : Cond.fieldLink RX11 152 (TX11 85).1 (TX11 85).2.1 (TX11 85).2.2.1 ∈ lw_g := lw_gm 1288 (by decide +kernel) (by decide +kernel)
theorem fX11_155 : Cond.fieldLink RX11 155 (TX11 86).1 (TX11 86).2.1 (TX11 86).2.2.1 ∈ lw_g := lw_gm 1289 (by decide +kernel) (by decide +kernel)
theorem kL_9 : Cond.methodLink RL 9 yX10_init ∈ lw_g := lw_gm 129 (by decide +kernel) (by decide +kernel)
theorem kX10_11 : Cond.methodLink RX10 11 yX6_init ∈ lw_g := lw_gm 137 (by decide +kernel) (by decide +kernel)
theorem kX10_18 : Cond.methodLink RX10 18 yX0_init ∈ lw_g := lw_gm 153 (by decide +kernel) (by decide +kernel)
theorem kX0_11 : Cond.methodLink RX0 11 yX5_init ∈ lw_g := lw_gm 159 (by decide +kernel) (by decide +kernel)
theorem kX0_47 : Cond.methodLink RX0 47 yX0_clear ∈ lw_g := lw_gm 194 (by decide +kernel) (by decide +kernel)
theorem kX10_28 : Cond.methodLink RX10 28 yX3_init ∈ lw_g := lw_gm 275 (by decide +kernel) (by decide +kernel)
theorem kX3_17 : Cond.methodLink RX3 17 yX7_init ∈ lw_g := lw_gm 281 (by decide +kernel) (by decide +kernel)
theorem kX7_11 : Cond.methodLink RX7 11 yX7_pack ∈ lw_g := lw_gm 286 (by decide +kernel) (by decide +kernel)
theorem kX7_61 : Cond.methodLink RX7 61 yJ0_length_8abf5 ∈ lw_g := lw_gm 289 (by decide +kernel) (by decide +kernel)
theorem kJ0_335 : Cond.methodLink RJ0 335 yJ0_coder_7d493 ∈ lw_g := lw_gm 293 (by decide +kernel) (by decide +kernel)
theorem kX7_67 : Cond.methodLink RX7 67 yJ0_charAt_5068e ∈ lw_g := lw_gm 299 (by decide +kernel) (by decide +kernel)
theorem kJ0_492 : Cond.methodLink RJ0 492 yJ0_isLatin1_aae02 ∈ lw_g := lw_gm 303 (by decide +kernel) (by decide +kernel)
theorem kJ0_495 : Cond.methodLink RJ0 495 yJ1_charAt_3b067 ∈ lw_g := lw_gm 307 (by decide +kernel) (by decide +kernel)
theorem kJ1_9 : Cond.methodLink RJ1 9 yJ0_checkIndex_df160 ∈ lw_g := lw_gm 310 (by decide +kernel) (by decide +kernel)
theorem kJ0_1059 : Cond.methodLink RJ0 1059 yJ3_checkIndex_8e157 ∈ lw_g := lw_gm 315 (by decide +kernel) (by decide +kernel)
theorem kJ0_498 : Cond.methodLink RJ0 498 yJ2_charAt_3b067 ∈ lw_g := lw_gm 318 (by decide +kernel) (by decide +kernel)
theorem kJ2_67 : Cond.methodLink RJ2 67 yJ2_checkIndex_2214a ∈ lw_g := lw_gm 321 (by decide +kernel) (by decide +kernel)
theorem kJ2_48 : Cond.methodLink RJ2 48 yJ2_length_9d52b ∈ lw_g := lw_gm 324 (by decide +kernel) (by decide +kernel)
theorem kJ2_414 : Cond.methodLink RJ2 414 yJ0_checkIndex_df160 ∈ lw_g := lw_gm 327 (by decide +kernel) (by decide +kernel)
theorem kJ2_71 : Cond.methodLink RJ2 71 yJ2_getChar_3b067 ∈ lw_g := lw_gm 328 (by decide +kernel) (by decide +kernel)
theorem kX7_71 : Cond.methodLink RX7 71 yX7_addLetter ∈ lw_g := lw_gm 337 (by decide +kernel) (by decide +kernel)
theorem kX10_37 : Cond.methodLink RX10 37 yX2_init ∈ lw_g := lw_gm 408 (by decide +kernel) (by decide +kernel)
theorem kX10_44 : Cond.methodLink RX10 44 yX1_init ∈ lw_g := lw_gm 438 (by decide +kernel) (by decide +kernel)
theorem kX10_51 : Cond.methodLink RX10 51 yX4_init ∈ lw_g := lw_gm 489 (by decide +kernel) (by decide +kernel)
theorem kX4_21 : Cond.methodLink RX4 21 yX9_init ∈ lw_g := lw_gm 495 (by decide +kernel) (by decide +kernel)
theorem kX10_60 : Cond.methodLink RX10 60 yX8_init ∈ lw_g := lw_gm 596 (by decide +kernel) (by decide +kernel)
theorem kX8_19 : Cond.methodLink RX8 19 yX8_putOn ∈ lw_g := lw_gm 600 (by decide +kernel) (by decide +kernel)
theorem kX8_29 : Cond.methodLink RX8 29 yJ7_fill_53178 ∈ lw_g := lw_gm 604 (by decide +kernel) (by decide +kernel)
theorem kL_13 : Cond.methodLink RL 13 yX10_feed ∈ lw_g := lw_gm 668 (by decide +kernel) (by decide +kernel)
theorem kX10_84 : Cond.methodLink RX10 84 yX6_hasRoom ∈ lw_g := lw_gm 672 (by decide +kernel) (by decide +kernel)
theorem kX10_88 : Cond.methodLink RX10 88 yX6_put ∈ lw_g := lw_gm 676 (by decide +kernel) (by decide +kernel)
theorem kL_18 : Cond.methodLink RL 18 yX10_end ∈ lw_g := lw_gm 680 (by decide +kernel) (by decide +kernel)
theorem kL_23 : Cond.methodLink RL 23 yX10_bench ∈ lw_g := lw_gm 684 (by decide +kernel) (by decide +kernel)
theorem kX10_95 : Cond.methodLink RX10 95 yX3_read ∈ lw_g := lw_gm 688 (by decide +kernel) (by decide +kernel)
theorem kX3_29 : Cond.methodLink RX3 29 yX0_clear ∈ lw_g := lw_gm 692 (by decide +kernel) (by decide +kernel)
theorem kX3_34 : Cond.methodLink RX3 34 yX7_scan ∈ lw_g := lw_gm 693 (by decide +kernel) (by decide +kernel)
theorem kX7_82 : Cond.methodLink RX7 82 yX6_signAt ∈ lw_g := lw_gm 697 (by decide +kernel) (by decide +kernel)
theorem kX7_86 : Cond.methodLink RX7 86 yX7_isBlank ∈ lw_g := lw_gm 701 (by decide +kernel) (by decide +kernel)
theorem kX7_90 : Cond.methodLink RX7 90 yX7_readToken ∈ lw_g := lw_gm 704 (by decide +kernel) (by decide +kernel)
theorem kX7_94 : Cond.methodLink RX7 94 yX7_isLetter ∈ lw_g := lw_gm 708 (by decide +kernel) (by decide +kernel)
theorem kX7_97 : Cond.methodLink RX7 97 yX7_readWord ∈ lw_g := lw_gm 711 (by decide +kernel) (by decide +kernel)
theorem kX7_106 : Cond.methodLink RX7 106 yX7_kindOf ∈ lw_g := lw_gm 715 (by decide +kernel) (by decide +kernel)
theorem kX7_100 : Cond.methodLink RX7 100 yX7_isDigit ∈ lw_g := lw_gm 719 (by decide +kernel) (by decide +kernel)
theorem kX7_103 : Cond.methodLink RX7 103 yX7_readNumber ∈ lw_g := lw_gm 722 (by decide +kernel) (by decide +kernel)
theorem kX3_38 : Cond.methodLink RX3 38 yX3_moveTo ∈ lw_g := lw_gm 727 (by decide +kernel) (by decide +kernel)
theorem kX3_48 : Cond.methodLink RX3 48 yX3_readLine ∈ lw_g := lw_gm 731 (by decide +kernel) (by decide +kernel)
theorem kX3_55 : Cond.methodLink RX3 55 yX3_readBands ∈ lw_g := lw_gm 735 (by decide +kernel) (by decide +kernel)
theorem kX3_102 : Cond.methodLink RX3 102 yX3_openOnce ∈ lw_g := lw_gm 739 (by decide +kernel) (by decide +kernel)
theorem kX3_90 : Cond.methodLink RX3 90 yX3_refuse ∈ lw_g := lw_gm 743 (by decide +kernel) (by decide +kernel)
theorem kX3_105 : Cond.methodLink RX3 105 yX3_takeNumber ∈ lw_g := lw_gm 747 (by decide +kernel) (by decide +kernel)
theorem kX3_115 : Cond.methodLink RX3 115 yX3_take ∈ lw_g := lw_gm 751 (by decide +kernel) (by decide +kernel)
theorem kX3_58 : Cond.methodLink RX3 58 yX3_readMost ∈ lw_g := lw_gm 755 (by decide +kernel) (by decide +kernel)
theorem kX3_61 : Cond.methodLink RX3 61 yX3_readAlike ∈ lw_g := lw_gm 759 (by decide +kernel) (by decide +kernel)
theorem kX3_64 : Cond.methodLink RX3 64 yX3_readSlip ∈ lw_g := lw_gm 763 (by decide +kernel) (by decide +kernel)
theorem kX3_67 : Cond.methodLink RX3 67 yX3_readOver ∈ lw_g := lw_gm 767 (by decide +kernel) (by decide +kernel)
theorem kX3_70 : Cond.methodLink RX3 70 yX3_readDye ∈ lw_g := lw_gm 771 (by decide +kernel) (by decide +kernel)
theorem kX3_134 : Cond.methodLink RX3 134 yX3_openThing ∈ lw_g := lw_gm 775 (by decide +kernel) (by decide +kernel)
theorem kX3_169 : Cond.methodLink RX3 169 yX5_isFull ∈ lw_g := lw_gm 779 (by decide +kernel) (by decide +kernel)
theorem kX3_159 : Cond.methodLink RX3 159 yX5_find ∈ lw_g := lw_gm 783 (by decide +kernel) (by decide +kernel)
theorem kX3_145 : Cond.methodLink RX3 145 yX3_takeRow ∈ lw_g := lw_gm 787 (by decide +kernel) (by decide +kernel)
theorem kX3_77 : Cond.methodLink RX3 77 yX3_readThing ∈ lw_g := lw_gm 791 (by decide +kernel) (by decide +kernel)
theorem kX3_87 : Cond.methodLink RX3 87 yX3_readGood ∈ lw_g := lw_gm 795 (by decide +kernel) (by decide +kernel)
theorem kX3_148 : Cond.methodLink RX3 148 yX3_takeGround ∈ lw_g := lw_gm 799 (by decide +kernel) (by decide +kernel)
theorem kX3_52 : Cond.methodLink RX3 52 yX0_mixLight ∈ lw_g := lw_gm 803 (by decide +kernel) (by decide +kernel)
theorem kX10_99 : Cond.methodLink RX10 99 yX10_startAnew ∈ lw_g := lw_gm 807 (by decide +kernel) (by decide +kernel)
theorem kX10_117 : Cond.methodLink RX10 117 yX2_fill ∈ lw_g := lw_gm 811 (by decide +kernel) (by decide +kernel)
theorem kX2_38 : Cond.methodLink RX2 38 yX2_add ∈ lw_g := lw_gm 815 (by decide +kernel) (by decide +kernel)
theorem kX2_49 : Cond.methodLink RX2 49 yX0_throwBack ∈ lw_g := lw_gm 819 (by decide +kernel) (by decide +kernel)
theorem kX0_73 : Cond.methodLink RX0 73 yX0_layGround ∈ lw_g := lw_gm 823 (by decide +kernel) (by decide +kernel)
theorem kX0_77 : Cond.methodLink RX0 77 yX0_addPart ∈ lw_g := lw_gm 827 (by decide +kernel) (by decide +kernel)
theorem kX0_81 : Cond.methodLink RX0 81 yX0_settle ∈ lw_g := lw_gm 831 (by decide +kernel) (by decide +kernel)
theorem kX10_121 : Cond.methodLink RX10 121 yX4_forget ∈ lw_g := lw_gm 835 (by decide +kernel) (by decide +kernel)
theorem kX10_124 : Cond.methodLink RX10 124 yX8_putOn ∈ lw_g := lw_gm 839 (by decide +kernel) (by decide +kernel)
theorem kL_28 : Cond.methodLink RL 28 yX10_fault ∈ lw_g := lw_gm 840 (by decide +kernel) (by decide +kernel)
theorem kL_32 : Cond.methodLink RL 32 yX10_throwsBack ∈ lw_g := lw_gm 844 (by decide +kernel) (by decide +kernel)
theorem kX10_130 : Cond.methodLink RX10 130 yX10_rowOf ∈ lw_g := lw_gm 848 (by decide +kernel) (by decide +kernel)
theorem kX10_174 : Cond.methodLink RX10 174 yX10_canBeLookedAt ∈ lw_g := lw_gm 852 (by decide +kernel) (by decide +kernel)
theorem kX10_140 : Cond.methodLink RX10 140 yX5_has ∈ lw_g := lw_gm 856 (by decide +kernel) (by decide +kernel)
theorem kX10_181 : Cond.methodLink RX10 181 yX0_throwBack ∈ lw_g := lw_gm 860 (by decide +kernel) (by decide +kernel)
theorem kL_37 : Cond.methodLink RL 37 yX10_seen ∈ lw_g := lw_gm 861 (by decide +kernel) (by decide +kernel)
theorem kX10_148 : Cond.methodLink RX10 148 yX0_seenOf ∈ lw_g := lw_gm 866 (by decide +kernel) (by decide +kernel)
theorem kL_42 : Cond.methodLink RL 42 yX10_apart ∈ lw_g := lw_gm 870 (by decide +kernel) (by decide +kernel)
theorem kX10_152 : Cond.methodLink RX10 152 yX0_apartOf ∈ lw_g := lw_gm 874 (by decide +kernel) (by decide +kernel)
theorem kX0_85 : Cond.methodLink RX0 85 yJ9_abs_067f4 ∈ lw_g := lw_gm 878 (by decide +kernel) (by decide +kernel)
theorem kX0_91 : Cond.methodLink RX0 91 yJ9_max_f86c9 ∈ lw_g := lw_gm 881 (by decide +kernel) (by decide +kernel)
theorem kL_47 : Cond.methodLink RL 47 yX10_alike ∈ lw_g := lw_gm 884 (by decide +kernel) (by decide +kernel)
theorem kX10_156 : Cond.methodLink RX10 156 yX0_areAlike ∈ lw_g := lw_gm 888 (by decide +kernel) (by decide +kernel)
theorem kX0_95 : Cond.methodLink RX0 95 yX0_apartOf ∈ lw_g := lw_gm 892 (by decide +kernel) (by decide +kernel)
theorem kL_52 : Cond.methodLink RL 52 yX10_cost ∈ lw_g := lw_gm 894 (by decide +kernel) (by decide +kernel)
theorem kX10_163 : Cond.methodLink RX10 163 yX0_priceOf ∈ lw_g := lw_gm 898 (by decide +kernel) (by decide +kernel)
theorem kL_56 : Cond.methodLink RL 56 yX10_ask ∈ lw_g := lw_gm 902 (by decide +kernel) (by decide +kernel)
theorem kX10_188 : Cond.methodLink RX10 188 yX4_take ∈ lw_g := lw_gm 906 (by decide +kernel) (by decide +kernel)
theorem kX4_68 : Cond.methodLink RX4 68 yX4_countMixes ∈ lw_g := lw_gm 910 (by decide +kernel) (by decide +kernel)
theorem kX4_81 : Cond.methodLink RX4 81 yJ9_min_7cf53 ∈ lw_g := lw_gm 914 (by decide +kernel) (by decide +kernel)
theorem kL_61 : Cond.methodLink RL 61 yX10_mixes ∈ lw_g := lw_gm 917 (by decide +kernel) (by decide +kernel)
theorem kL_65 : Cond.methodLink RL 65 yX10_match ∈ lw_g := lw_gm 921 (by decide +kernel) (by decide +kernel)
theorem kX10_196 : Cond.methodLink RX10 196 yX4_findMatch ∈ lw_g := lw_gm 925 (by decide +kernel) (by decide +kernel)
theorem kX4_115 : Cond.methodLink RX4 115 yX4_hasLamps ∈ lw_g := lw_gm 929 (by decide +kernel) (by decide +kernel)
theorem kX4_120 : Cond.methodLink RX4 120 yX4_start ∈ lw_g := lw_gm 934 (by decide +kernel) (by decide +kernel)
theorem kX4_90 : Cond.methodLink RX4 90 yX9_start ∈ lw_g := lw_gm 938 (by decide +kernel) (by decide +kernel)
theorem kX9_46 : Cond.methodLink RX9 46 yJ7_fill_53178 ∈ lw_g := lw_gm 942 (by decide +kernel) (by decide +kernel)
theorem kX9_52 : Cond.methodLink RX9 52 yX0_layGround ∈ lw_g := lw_gm 943 (by decide +kernel) (by decide +kernel)
theorem kX4_123 : Cond.methodLink RX4 123 yX4_isPreferred ∈ lw_g := lw_gm 944 (by decide +kernel) (by decide +kernel)
theorem kX4_127 : Cond.methodLink RX4 127 yX4_isMatch ∈ lw_g := lw_gm 948 (by decide +kernel) (by decide +kernel)
theorem kX4_137 : Cond.methodLink RX4 137 yX9_thrownBack ∈ lw_g := lw_gm 952 (by decide +kernel) (by decide +kernel)
theorem kX9_81 : Cond.methodLink RX9 81 yX0_settle ∈ lw_g := lw_gm 956 (by decide +kernel) (by decide +kernel)
theorem kX4_147 : Cond.methodLink RX4 147 yX0_areAlike ∈ lw_g := lw_gm 957 (by decide +kernel) (by decide +kernel)
theorem kX4_131 : Cond.methodLink RX4 131 yX4_keep ∈ lw_g := lw_gm 958 (by decide +kernel) (by decide +kernel)
theorem kX4_134 : Cond.methodLink RX4 134 yX9_advance ∈ lw_g := lw_gm 965 (by decide +kernel) (by decide +kernel)
theorem kX9_67 : Cond.methodLink RX9 67 yX9_raise ∈ lw_g := lw_gm 969 (by decide +kernel) (by decide +kernel)
theorem kX9_74 : Cond.methodLink RX9 74 yX0_addPart ∈ lw_g := lw_gm 973 (by decide +kernel) (by decide +kernel)
theorem kX9_71 : Cond.methodLink RX9 71 yX9_takeOut ∈ lw_g := lw_gm 974 (by decide +kernel) (by decide +kernel)
theorem kL_70 : Cond.methodLink RL 70 yX10_nearest ∈ lw_g := lw_gm 978 (by decide +kernel) (by decide +kernel)
theorem kX10_200 : Cond.methodLink RX10 200 yX4_findNearest ∈ lw_g := lw_gm 982 (by decide +kernel) (by decide +kernel)
theorem kX4_155 : Cond.methodLink RX4 155 yX4_greatestApart ∈ lw_g := lw_gm 987 (by decide +kernel) (by decide +kernel)
theorem kX4_159 : Cond.methodLink RX4 159 yX0_apartOf ∈ lw_g := lw_gm 991 (by decide +kernel) (by decide +kernel)
theorem kX4_163 : Cond.methodLink RX4 163 yJ9_max_f86c9 ∈ lw_g := lw_gm 992 (by decide +kernel) (by decide +kernel)
theorem kL_75 : Cond.methodLink RL 75 yX10_best ∈ lw_g := lw_gm 993 (by decide +kernel) (by decide +kernel)
theorem kX10_204 : Cond.methodLink RX10 204 yX4_findBest ∈ lw_g := lw_gm 997 (by decide +kernel) (by decide +kernel)
theorem kX4_172 : Cond.methodLink RX4 172 yJ6_bitCount_0f7a4 ∈ lw_g := lw_gm 1001 (by decide +kernel) (by decide +kernel)
theorem kX4_181 : Cond.methodLink RX4 181 yX4_measure ∈ lw_g := lw_gm 1007 (by decide +kernel) (by decide +kernel)
theorem kX4_185 : Cond.methodLink RX4 185 yX4_holdAgainstBest ∈ lw_g := lw_gm 1011 (by decide +kernel) (by decide +kernel)
theorem kX4_192 : Cond.methodLink RX4 192 yX4_findRival ∈ lw_g := lw_gm 1015 (by decide +kernel) (by decide +kernel)
theorem kX4_201 : Cond.methodLink RX4 201 yX4_isNoFarther ∈ lw_g := lw_gm 1019 (by decide +kernel) (by decide +kernel)
theorem kX4_195 : Cond.methodLink RX4 195 yX4_removeBeaten ∈ lw_g := lw_gm 1023 (by decide +kernel) (by decide +kernel)
theorem kX4_198 : Cond.methodLink RX4 198 yX4_addBest ∈ lw_g := lw_gm 1027 (by decide +kernel) (by decide +kernel)
theorem kX4_188 : Cond.methodLink RX4 188 yX4_layBest ∈ lw_g := lw_gm 1031 (by decide +kernel) (by decide +kernel)
theorem kL_79 : Cond.methodLink RL 79 yX10_pick ∈ lw_g := lw_gm 1036 (by decide +kernel) (by decide +kernel)
theorem kX10_210 : Cond.methodLink RX10 210 yX4_layBest ∈ lw_g := lw_gm 1040 (by decide +kernel) (by decide +kernel)
theorem kL_83 : Cond.methodLink RL 83 yX10_trick ∈ lw_g := lw_gm 1041 (by decide +kernel) (by decide +kernel)
theorem kX10_216 : Cond.methodLink RX10 216 yX4_findTrick ∈ lw_g := lw_gm 1045 (by decide +kernel) (by decide +kernel)
theorem kX4_167 : Cond.methodLink RX4 167 yX5_has ∈ lw_g := lw_gm 1049 (by decide +kernel) (by decide +kernel)
theorem kL_88 : Cond.methodLink RL 88 yX10_parts ∈ lw_g := lw_gm 1051 (by decide +kernel) (by decide +kernel)
theorem kL_92 : Cond.methodLink RL 92 yX10_betray ∈ lw_g := lw_gm 1055 (by decide +kernel) (by decide +kernel)
theorem kX10_226 : Cond.methodLink RX10 226 yX0_farthestOf ∈ lw_g := lw_gm 1059 (by decide +kernel) (by decide +kernel)
theorem kX10_230 : Cond.methodLink RX10 230 yJ7_fill_53178 ∈ lw_g := lw_gm 1063 (by decide +kernel) (by decide +kernel)
theorem kL_96 : Cond.methodLink RL 96 yX10_weight ∈ lw_g := lw_gm 1065 (by decide +kernel) (by decide +kernel)
theorem kL_100 : Cond.methodLink RL 100 yX10_lamp ∈ lw_g := lw_gm 1069 (by decide +kernel) (by decide +kernel)
theorem kL_104 : Cond.methodLink RL 104 yX10_set ∈ lw_g := lw_gm 1073 (by decide +kernel) (by decide +kernel)
theorem kL_109 : Cond.methodLink RL 109 yX10_drop ∈ lw_g := lw_gm 1077 (by decide +kernel) (by decide +kernel)
theorem kX10_237 : Cond.methodLink RX10 237 yX8_total ∈ lw_g := lw_gm 1081 (by decide +kernel) (by decide +kernel)
theorem kX10_244 : Cond.methodLink RX10 244 yX8_drawOfTen ∈ lw_g := lw_gm 1085 (by decide +kernel) (by decide +kernel)
theorem kL_113 : Cond.methodLink RL 113 yX10_days ∈ lw_g := lw_gm 1090 (by decide +kernel) (by decide +kernel)
theorem kX10_247 : Cond.methodLink RX10 247 yX8_fadeOneDay ∈ lw_g := lw_gm 1094 (by decide +kernel) (by decide +kernel)
theorem kL_117 : Cond.methodLink RL 117 yX10_vat ∈ lw_g := lw_gm 1098 (by decide +kernel) (by decide +kernel)
theorem kL_154 : Cond.methodLink RL 154 yX10_seed ∈ lw_g := lw_gm 1102 (by decide +kernel) (by decide +kernel)
theorem kL_158 : Cond.methodLink RL 158 yX10_image ∈ lw_g := lw_gm 1106 (by decide +kernel) (by decide +kernel)
theorem kX10_254 : Cond.methodLink RX10 254 yX8_copyOf ∈ lw_g := lw_gm 1110 (by decide +kernel) (by decide +kernel)
theorem kL_162 : Cond.methodLink RL 162 yX10_back ∈ lw_g := lw_gm 1115 (by decide +kernel) (by decide +kernel)
theorem kL_121 : Cond.methodLink RL 121 yX10_old ∈ lw_g := lw_gm 1119 (by decide +kernel) (by decide +kernel)
theorem kL_125 : Cond.methodLink RL 125 yX10_oldOne ∈ lw_g := lw_gm 1123 (by decide +kernel) (by decide +kernel)
theorem kL_129 : Cond.methodLink RL 129 yX10_look ∈ lw_g := lw_gm 1127 (by decide +kernel) (by decide +kernel)
theorem kX10_264 : Cond.methodLink RX10 264 yX1_isFull ∈ lw_g := lw_gm 1131 (by decide +kernel) (by decide +kernel)
theorem kX10_269 : Cond.methodLink RX10 269 yX1_tell ∈ lw_g := lw_gm 1136 (by decide +kernel) (by decide +kernel)
theorem kX1_44 : Cond.methodLink RX1 44 yX1_isFull ∈ lw_g := lw_gm 1140 (by decide +kernel) (by decide +kernel)
theorem kL_134 : Cond.methodLink RL 134 yX10_untell ∈ lw_g := lw_gm 1141 (by decide +kernel) (by decide +kernel)
theorem kX10_273 : Cond.methodLink RX10 273 yX1_takeBack ∈ lw_g := lw_gm 1145 (by decide +kernel) (by decide +kernel)
theorem kL_138 : Cond.methodLink RL 138 yX10_later ∈ lw_g := lw_gm 1149 (by decide +kernel) (by decide +kernel)
theorem kL_142 : Cond.methodLink RL 142 yX10_agree ∈ lw_g := lw_gm 1154 (by decide +kernel) (by decide +kernel)
theorem kX10_278 : Cond.methodLink RX10 278 yX1_choose ∈ lw_g := lw_gm 1158 (by decide +kernel) (by decide +kernel)
theorem kX1_55 : Cond.methodLink RX1 55 yX1_fits ∈ lw_g := lw_gm 1162 (by decide +kernel) (by decide +kernel)
theorem kX1_59 : Cond.methodLink RX1 59 yX1_counts ∈ lw_g := lw_gm 1166 (by decide +kernel) (by decide +kernel)
theorem kX1_63 : Cond.methodLink RX1 63 yX0_seenOf ∈ lw_g := lw_gm 1170 (by decide +kernel) (by decide +kernel)
theorem kX1_71 : Cond.methodLink RX1 71 yJ9_abs_067f4 ∈ lw_g := lw_gm 1172 (by decide +kernel) (by decide +kernel)
theorem kL_146 : Cond.methodLink RL 146 yX10_agrees ∈ lw_g := lw_gm 1173 (by decide +kernel) (by decide +kernel)
theorem kL_150 : Cond.methodLink RL 150 yX10_next ∈ lw_g := lw_gm 1177 (by decide +kernel) (by decide +kernel)
theorem kX10_285 : Cond.methodLink RX10 285 yX1_findNext ∈ lw_g := lw_gm 1181 (by decide +kernel) (by decide +kernel)
theorem kX1_88 : Cond.methodLink RX1 88 yX1_greatestCrowd ∈ lw_g := lw_gm 1185 (by decide +kernel) (by decide +kernel)
theorem kX1_98 : Cond.methodLink RX1 98 yJ9_max_7cf53 ∈ lw_g := lw_gm 1189 (by decide +kernel) (by decide +kernel)
theorem kL_166 : Cond.methodLink RL 166 yX10_about ∈ lw_g := lw_gm 1192 (by decide +kernel) (by decide +kernel)
theorem kL_12 : Cond.methodLink RL 12 yX11_init ∈ lw_g := lw_gm 1198 (by decide +kernel) (by decide +kernel)
theorem kL_17 : Cond.methodLink RL 17 yX11_feed ∈ lw_g := lw_gm 1466 (by decide +kernel) (by decide +kernel)
theorem kX11_170 : Cond.methodLink RX11 170 yX11_four ∈ lw_g := lw_gm 1470 (by decide +kernel) (by decide +kernel)
theorem kL_22 : Cond.methodLink RL 22 yX11_end ∈ lw_g := lw_gm 1474 (by decide +kernel) (by decide +kernel)
theorem kL_27 : Cond.methodLink RL 27 yX11_bench ∈ lw_g := lw_gm 1478 (by decide +kernel) (by decide +kernel)
theorem kX11_327 : Cond.methodLink RX11 327 yX11_readAll ∈ lw_g := lw_gm 1482 (by decide +kernel) (by decide +kernel)
theorem kX11_242 : Cond.methodLink RX11 242 yX11_token ∈ lw_g := lw_gm 1486 (by decide +kernel) (by decide +kernel)
theorem kX11_180 : Cond.methodLink RX11 180 yX11_here ∈ lw_g := lw_gm 1490 (by decide +kernel) (by decide +kernel)
theorem kX11_197 : Cond.methodLink RX11 197 yX11_isLetter ∈ lw_g := lw_gm 1494 (by decide +kernel) (by decide +kernel)
theorem kX11_201 : Cond.methodLink RX11 201 yX11_isDigit ∈ lw_g := lw_gm 1497 (by decide +kernel) (by decide +kernel)
theorem kX11_324 : Cond.methodLink RX11 324 yX11_readLine ∈ lw_g := lw_gm 1500 (by decide +kernel) (by decide +kernel)
theorem kX11_305 : Cond.methodLink RX11 305 yX11_isNumberLine ∈ lw_g := lw_gm 1504 (by decide +kernel) (by decide +kernel)
theorem kX11_235 : Cond.methodLink RX11 235 yX11_isWord ∈ lw_g := lw_gm 1509 (by decide +kernel) (by decide +kernel)
theorem kX11_284 : Cond.methodLink RX11 284 yX11_hasRows ∈ lw_g := lw_gm 1513 (by decide +kernel) (by decide +kernel)
theorem kX11_308 : Cond.methodLink RX11 308 yX11_readNumberLine ∈ lw_g := lw_gm 1520 (by decide +kernel) (by decide +kernel)
theorem kX11_296 : Cond.methodLink RX11 296 yX11_readNumber ∈ lw_g := lw_gm 1524 (by decide +kernel) (by decide +kernel)
theorem kX11_249 : Cond.methodLink RX11 249 yX11_toldNumber ∈ lw_g := lw_gm 1528 (by decide +kernel) (by decide +kernel)
theorem kX11_239 : Cond.methodLink RX11 239 yX11_wrong ∈ lw_g := lw_gm 1532 (by decide +kernel) (by decide +kernel)
theorem kX11_311 : Cond.methodLink RX11 311 yX11_readDye ∈ lw_g := lw_gm 1537 (by decide +kernel) (by decide +kernel)
theorem kX11_263 : Cond.methodLink RX11 263 yX11_readName ∈ lw_g := lw_gm 1541 (by decide +kernel) (by decide +kernel)
theorem kX11_253 : Cond.methodLink RX11 253 yX11_isName ∈ lw_g := lw_gm 1545 (by decide +kernel) (by decide +kernel)
theorem kX11_257 : Cond.methodLink RX11 257 yX11_find ∈ lw_g := lw_gm 1558 (by decide +kernel) (by decide +kernel)
theorem kX11_266 : Cond.methodLink RX11 266 yX11_told ∈ lw_g := lw_gm 1562 (by decide +kernel) (by decide +kernel)
theorem kX11_245 : Cond.methodLink RX11 245 yX11_want ∈ lw_g := lw_gm 1566 (by decide +kernel) (by decide +kernel)
theorem kX11_270 : Cond.methodLink RX11 270 yX11_readBands ∈ lw_g := lw_gm 1570 (by decide +kernel) (by decide +kernel)
theorem kX11_314 : Cond.methodLink RX11 314 yX11_readRow ∈ lw_g := lw_gm 1574 (by decide +kernel) (by decide +kernel)
theorem kX11_318 : Cond.methodLink RX11 318 yX11_readGood ∈ lw_g := lw_gm 1578 (by decide +kernel) (by decide +kernel)
theorem kX11_321 : Cond.methodLink RX11 321 yX11_readOver ∈ lw_g := lw_gm 1582 (by decide +kernel) (by decide +kernel)
theorem kX11_336 : Cond.methodLink RX11 336 yX11_setVat ∈ lw_g := lw_gm 1586 (by decide +kernel) (by decide +kernel)
theorem kX11_354 : Cond.methodLink RX11 354 yX11_layOld ∈ lw_g := lw_gm 1590 (by decide +kernel) (by decide +kernel)
theorem kX11_519 : Cond.methodLink RX11 519 yX11_addOld ∈ lw_g := lw_gm 1594 (by decide +kernel) (by decide +kernel)
theorem kX11_357 : Cond.methodLink RX11 357 yX11_dyes ∈ lw_g := lw_gm 1598 (by decide +kernel) (by decide +kernel)
theorem kL_31 : Cond.methodLink RL 31 yX11_fault ∈ lw_g := lw_gm 1602 (by decide +kernel) (by decide +kernel)
theorem kL_36 : Cond.methodLink RL 36 yX11_throwsBack ∈ lw_g := lw_gm 1606 (by decide +kernel) (by decide +kernel)
theorem kX11_398 : Cond.methodLink RX11 398 yX11_isGood ∈ lw_g := lw_gm 1610 (by decide +kernel) (by decide +kernel)
theorem kX11_361 : Cond.methodLink RX11 361 yX11_isIn ∈ lw_g := lw_gm 1614 (by decide +kernel) (by decide +kernel)
theorem kX11_401 : Cond.methodLink RX11 401 yX11_become ∈ lw_g := lw_gm 1617 (by decide +kernel) (by decide +kernel)
theorem kX11_382 : Cond.methodLink RX11 382 yX11_lay ∈ lw_g := lw_gm 1621 (by decide +kernel) (by decide +kernel)
theorem kX11_371 : Cond.methodLink RX11 371 yX11_laidOver ∈ lw_g := lw_gm 1625 (by decide +kernel) (by decide +kernel)
theorem kX11_375 : Cond.methodLink RX11 375 yX11_laidBeside ∈ lw_g := lw_gm 1629 (by decide +kernel) (by decide +kernel)
theorem kL_41 : Cond.methodLink RL 41 yX11_seen ∈ lw_g := lw_gm 1633 (by decide +kernel) (by decide +kernel)
theorem kX11_405 : Cond.methodLink RX11 405 yX11_isLamp ∈ lw_g := lw_gm 1637 (by decide +kernel) (by decide +kernel)
theorem kX11_365 : Cond.methodLink RX11 365 yX11_lamps ∈ lw_g := lw_gm 1641 (by decide +kernel) (by decide +kernel)
theorem kX11_408 : Cond.methodLink RX11 408 yX11_isEye ∈ lw_g := lw_gm 1645 (by decide +kernel) (by decide +kernel)
theorem kX11_368 : Cond.methodLink RX11 368 yX11_eyes ∈ lw_g := lw_gm 1649 (by decide +kernel) (by decide +kernel)
theorem kX11_389 : Cond.methodLink RX11 389 yX11_seenBy ∈ lw_g := lw_gm 1654 (by decide +kernel) (by decide +kernel)
theorem kL_46 : Cond.methodLink RL 46 yX11_apart ∈ lw_g := lw_gm 1658 (by decide +kernel) (by decide +kernel)
theorem kX11_413 : Cond.methodLink RX11 413 yX11_layTwo ∈ lw_g := lw_gm 1662 (by decide +kernel) (by decide +kernel)
theorem kX11_392 : Cond.methodLink RX11 392 yX11_apartBy ∈ lw_g := lw_gm 1666 (by decide +kernel) (by decide +kernel)
theorem kX11_385 : Cond.methodLink RX11 385 yX11_doesSee ∈ lw_g := lw_gm 1670 (by decide +kernel) (by decide +kernel)
theorem kL_51 : Cond.methodLink RL 51 yX11_alike ∈ lw_g := lw_gm 1674 (by decide +kernel) (by decide +kernel)
theorem kX11_417 : Cond.methodLink RX11 417 yX11_isAlike ∈ lw_g := lw_gm 1678 (by decide +kernel) (by decide +kernel)
theorem kL_55 : Cond.methodLink RL 55 yX11_cost ∈ lw_g := lw_gm 1683 (by decide +kernel) (by decide +kernel)
theorem kX11_420 : Cond.methodLink RX11 420 yX11_costOf ∈ lw_g := lw_gm 1687 (by decide +kernel) (by decide +kernel)
theorem kL_60 : Cond.methodLink RL 60 yX11_ask ∈ lw_g := lw_gm 1691 (by decide +kernel) (by decide +kernel)
theorem kX11_423 : Cond.methodLink RX11 423 yX11_isGround ∈ lw_g := lw_gm 1695 (by decide +kernel) (by decide +kernel)
theorem kL_64 : Cond.methodLink RL 64 yX11_mixes ∈ lw_g := lw_gm 1699 (by decide +kernel) (by decide +kernel)
theorem kX11_438 : Cond.methodLink RX11 438 yX11_choose ∈ lw_g := lw_gm 1703 (by decide +kernel) (by decide +kernel)
theorem kL_69 : Cond.methodLink RL 69 yX11_match ∈ lw_g := lw_gm 1706 (by decide +kernel) (by decide +kernel)
theorem kX11_453 : Cond.methodLink RX11 453 yX11_isSet ∈ lw_g := lw_gm 1710 (by decide +kernel) (by decide +kernel)
theorem kX11_456 : Cond.methodLink RX11 456 yX11_mixes ∈ lw_g := lw_gm 1714 (by decide +kernel) (by decide +kernel)
theorem kX11_460 : Cond.methodLink RX11 460 yX11_beginMixes ∈ lw_g := lw_gm 1716 (by decide +kernel) (by decide +kernel)
theorem kX11_463 : Cond.methodLink RX11 463 yX11_isAlikeBy ∈ lw_g := lw_gm 1720 (by decide +kernel) (by decide +kernel)
theorem kX11_466 : Cond.methodLink RX11 466 yX11_isCheaper ∈ lw_g := lw_gm 1724 (by decide +kernel) (by decide +kernel)
theorem kX11_441 : Cond.methodLink RX11 441 yX11_sumOf ∈ lw_g := lw_gm 1728 (by decide +kernel) (by decide +kernel)
theorem kX11_469 : Cond.methodLink RX11 469 yX11_putDown ∈ lw_g := lw_gm 1732 (by decide +kernel) (by decide +kernel)
theorem kX11_472 : Cond.methodLink RX11 472 yX11_nextMix ∈ lw_g := lw_gm 1736 (by decide +kernel) (by decide +kernel)
theorem kX11_444 : Cond.methodLink RX11 444 yX11_unlike ∈ lw_g := lw_gm 1740 (by decide +kernel) (by decide +kernel)
theorem kL_74 : Cond.methodLink RL 74 yX11_nearest ∈ lw_g := lw_gm 1744 (by decide +kernel) (by decide +kernel)
theorem kX11_477 : Cond.methodLink RX11 477 yX11_farthest ∈ lw_g := lw_gm 1749 (by decide +kernel) (by decide +kernel)
theorem kL_87 : Cond.methodLink RL 87 yX11_trick ∈ lw_g := lw_gm 1753 (by decide +kernel) (by decide +kernel)
theorem kL_78 : Cond.methodLink RL 78 yX11_best ∈ lw_g := lw_gm 1757 (by decide +kernel) (by decide +kernel)
theorem kX11_486 : Cond.methodLink RX11 486 yX11_layRows ∈ lw_g := lw_gm 1761 (by decide +kernel) (by decide +kernel)
theorem kX11_490 : Cond.methodLink RX11 490 yX11_isBest ∈ lw_g := lw_gm 1765 (by decide +kernel) (by decide +kernel)
theorem kX11_483 : Cond.methodLink RX11 483 yX11_isBetter ∈ lw_g := lw_gm 1769 (by decide +kernel) (by decide +kernel)
theorem kX11_493 : Cond.methodLink RX11 493 yX11_pick ∈ lw_g := lw_gm 1773 (by decide +kernel) (by decide +kernel)
theorem kL_82 : Cond.methodLink RL 82 yX11_pick ∈ lw_g := lw_gm 1777 (by decide +kernel) (by decide +kernel)
theorem kL_91 : Cond.methodLink RL 91 yX11_parts ∈ lw_g := lw_gm 1778 (by decide +kernel) (by decide +kernel)
theorem kX11_496 : Cond.methodLink RX11 496 yX11_isDye ∈ lw_g := lw_gm 1782 (by decide +kernel) (by decide +kernel)
theorem kL_95 : Cond.methodLink RL 95 yX11_betray ∈ lw_g := lw_gm 1786 (by decide +kernel) (by decide +kernel)
theorem kX11_499 : Cond.methodLink RX11 499 yX11_apartMixed ∈ lw_g := lw_gm 1790 (by decide +kernel) (by decide +kernel)
theorem kX11_503 : Cond.methodLink RX11 503 yX11_nextWeights ∈ lw_g := lw_gm 1794 (by decide +kernel) (by decide +kernel)
theorem kL_99 : Cond.methodLink RL 99 yX11_weight ∈ lw_g := lw_gm 1798 (by decide +kernel) (by decide +kernel)
theorem kL_103 : Cond.methodLink RL 103 yX11_lamp ∈ lw_g := lw_gm 1802 (by decide +kernel) (by decide +kernel)
theorem kL_108 : Cond.methodLink RL 108 yX11_set ∈ lw_g := lw_gm 1806 (by decide +kernel) (by decide +kernel)
theorem kL_112 : Cond.methodLink RL 112 yX11_drop ∈ lw_g := lw_gm 1810 (by decide +kernel) (by decide +kernel)
theorem kX11_510 : Cond.methodLink RX11 510 yX11_inVat ∈ lw_g := lw_gm 1814 (by decide +kernel) (by decide +kernel)
theorem kX11_513 : Cond.methodLink RX11 513 yX11_draw ∈ lw_g := lw_gm 1818 (by decide +kernel) (by decide +kernel)
theorem kL_116 : Cond.methodLink RL 116 yX11_days ∈ lw_g := lw_gm 1823 (by decide +kernel) (by decide +kernel)
theorem kL_120 : Cond.methodLink RL 120 yX11_vat ∈ lw_g := lw_gm 1827 (by decide +kernel) (by decide +kernel)
theorem kL_124 : Cond.methodLink RL 124 yX11_old ∈ lw_g := lw_gm 1831 (by decide +kernel) (by decide +kernel)
theorem kL_128 : Cond.methodLink RL 128 yX11_oldOne ∈ lw_g := lw_gm 1835 (by decide +kernel) (by decide +kernel)
theorem kL_133 : Cond.methodLink RL 133 yX11_look ∈ lw_g := lw_gm 1839 (by decide +kernel) (by decide +kernel)
theorem kL_137 : Cond.methodLink RL 137 yX11_untell ∈ lw_g := lw_gm 1844 (by decide +kernel) (by decide +kernel)
theorem kL_141 : Cond.methodLink RL 141 yX11_later ∈ lw_g := lw_gm 1848 (by decide +kernel) (by decide +kernel)
theorem kL_145 : Cond.methodLink RL 145 yX11_agree ∈ lw_g := lw_gm 1852 (by decide +kernel) (by decide +kernel)
theorem kX11_533 : Cond.methodLink RX11 533 yX11_doesAgree ∈ lw_g := lw_gm 1856 (by decide +kernel) (by decide +kernel)
theorem kX11_527 : Cond.methodLink RX11 527 yX11_counts ∈ lw_g := lw_gm 1860 (by decide +kernel) (by decide +kernel)
theorem kX11_530 : Cond.methodLink RX11 530 yX11_isSo ∈ lw_g := lw_gm 1864 (by decide +kernel) (by decide +kernel)
theorem kL_149 : Cond.methodLink RL 149 yX11_agrees ∈ lw_g := lw_gm 1868 (by decide +kernel) (by decide +kernel)
theorem kL_153 : Cond.methodLink RL 153 yX11_next ∈ lw_g := lw_gm 1872 (by decide +kernel) (by decide +kernel)
theorem kX11_539 : Cond.methodLink RX11 539 yX11_greatestPart ∈ lw_g := lw_gm 1876 (by decide +kernel) (by decide +kernel)
theorem kL_157 : Cond.methodLink RL 157 yX11_seed ∈ lw_g := lw_gm 1880 (by decide +kernel) (by decide +kernel)
theorem kL_161 : Cond.methodLink RL 161 yX11_image ∈ lw_g := lw_gm 1884 (by decide +kernel) (by decide +kernel)
theorem kX11_542 : Cond.methodLink RX11 542 yX11_isBox ∈ lw_g := lw_gm 1888 (by decide +kernel) (by decide +kernel)
theorem kL_165 : Cond.methodLink RL 165 yX11_back ∈ lw_g := lw_gm 1891 (by decide +kernel) (by decide +kernel)
theorem kL_169 : Cond.methodLink RL 169 yX11_about ∈ lw_g := lw_gm 1895 (by decide +kernel) (by decide +kernel)
theorem qX4_119 : Cond.constant RX4 119 100000 ∈ lw_g := lw_gm 933 (by decide +kernel) (by decide +kernel)
theorem qJ6_265 : Cond.constant RJ6 265 1431655765 ∈ lw_g := lw_gm 1004 (by decide +kernel) (by decide +kernel)
theorem qJ6_266 : Cond.constant RJ6 266 858993459 ∈ lw_g := lw_gm 1005 (by decide +kernel) (by decide +kernel)
theorem qJ6_267 : Cond.constant RJ6 267 252645135 ∈ lw_g := lw_gm 1006 (by decide +kernel) (by decide +kernel)
theorem qX8_41 : Cond.constant RX8 41 1103515245 ∈ lw_g := lw_gm 1089 (by decide +kernel) (by decide +kernel)
theorem qX10_268 : Cond.constant RX10 268 9999999 ∈ lw_g := lw_gm 1135 (by decide +kernel) (by decide +kernel)
theorem qX10_277 : Cond.constant RX10 277 100000 ∈ lw_g := lw_gm 1153 (by decide +kernel) (by decide +kernel)
theorem qX11_90 : Cond.constant RX11 90 40000 ∈ lw_g := lw_gm 1202 (by decide +kernel) (by decide +kernel)
theorem qX11_459 : Cond.constant RX11 459 100000 ∈ lw_g := lw_gm 1715 (by decide +kernel) (by decide +kernel)
theorem qX11_509 : Cond.constant RX11 509 1103515245 ∈ lw_g := lw_gm 1822 (by decide +kernel) (by decide +kernel)
theorem qX11_523 : Cond.constant RX11 523 9999999 ∈ lw_g := lw_gm 1843 (by decide +kernel) (by decide +kernel)
theorem qX7_110 : Cond.constantLong RX7 110 10 ∈ lw_g := lw_gm 726 (by decide +kernel) (by decide +kernel)
theorem qX10_146 : Cond.constantLong RX10 146 (-1) ∈ lw_g := lw_gm 865 (by decide +kernel) (by decide +kernel)
theorem qX0_99 : Cond.constantLong RX0 99 1000 ∈ lw_g := lw_gm 893 (by decide +kernel) (by decide +kernel)
theorem qX4_153 : Cond.constantLong RX4 153 9223372036854775807 ∈ lw_g := lw_gm 986 (by decide +kernel) (by decide +kernel)
theorem qX4_205 : Cond.constantLong RX4 205 31 ∈ lw_g := lw_gm 1035 (by decide +kernel) (by decide +kernel)
theorem qX4_170 : Cond.constantLong RX4 170 (-1) ∈ lw_g := lw_gm 1050 (by decide +kernel) (by decide +kernel)
theorem qX10_235 : Cond.constantLong RX10 235 10 ∈ lw_g := lw_gm 1064 (by decide +kernel) (by decide +kernel)
theorem qX1_69 : Cond.constantLong RX1 69 1000 ∈ lw_g := lw_gm 1171 (by decide +kernel) (by decide +kernel)
theorem qX11_207 : Cond.constantLong RX11 207 422541419635 ∈ lw_g := lw_gm 1508 (by decide +kernel) (by decide +kernel)
theorem qX11_227 : Cond.constantLong RX11 227 1836020596 ∈ lw_g := lw_gm 1517 (by decide +kernel) (by decide +kernel)
theorem qX11_229 : Cond.constantLong RX11 229 418430675813 ∈ lw_g := lw_gm 1518 (by decide +kernel) (by decide +kernel)
theorem qX11_233 : Cond.constantLong RX11 233 1936484720 ∈ lw_g := lw_gm 1519 (by decide +kernel) (by decide +kernel)
theorem qX11_209 : Cond.constantLong RX11 209 6584677 ∈ lw_g := lw_gm 1536 (by decide +kernel) (by decide +kernel)
theorem qX11_211 : Cond.constantLong RX11 211 482955846501 ∈ lw_g := lw_gm 1549 (by decide +kernel) (by decide +kernel)
theorem qX11_213 : Cond.constantLong RX11 213 1717662580 ∈ lw_g := lw_gm 1550 (by decide +kernel) (by decide +kernel)
theorem qX11_215 : Cond.constantLong RX11 215 28518 ∈ lw_g := lw_gm 1551 (by decide +kernel) (by decide +kernel)
theorem qX11_217 : Cond.constantLong RX11 217 113741193899620 ∈ lw_g := lw_gm 1552 (by decide +kernel) (by decide +kernel)
theorem qX11_219 : Cond.constantLong RX11 219 1818324336 ∈ lw_g := lw_gm 1553 (by decide +kernel) (by decide +kernel)
theorem qX11_221 : Cond.constantLong RX11 221 6650213 ∈ lw_g := lw_gm 1554 (by decide +kernel) (by decide +kernel)
theorem qX11_223 : Cond.constantLong RX11 223 1735356260 ∈ lw_g := lw_gm 1555 (by decide +kernel) (by decide +kernel)
theorem qX11_225 : Cond.constantLong RX11 225 28526 ∈ lw_g := lw_gm 1556 (by decide +kernel) (by decide +kernel)
theorem qX11_231 : Cond.constantLong RX11 231 1870030194 ∈ lw_g := lw_gm 1557 (by decide +kernel) (by decide +kernel)
theorem qX11_411 : Cond.constantLong RX11 411 (-1) ∈ lw_g := lw_gm 1653 (by decide +kernel) (by decide +kernel)
theorem qX11_396 : Cond.constantLong RX11 396 1000 ∈ lw_g := lw_gm 1682 (by decide +kernel) (by decide +kernel)
theorem qX11_475 : Cond.constantLong RX11 475 (-2) ∈ lw_g := lw_gm 1748 (by decide +kernel) (by decide +kernel)
