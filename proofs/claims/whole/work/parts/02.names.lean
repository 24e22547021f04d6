def RX0 : String := "ChairOnTheRoad$Army"
def TX0 : u_T := fun k => match k with
  | _ => ("", "", "", false)
def tyX0 : Nat → FieldType := fun k => match k with
  | _ => .int
theorem nmX0 : ∀ a, a < 0 → ∀ b, b < 0 → a ≠ b → (TX0 a).2.1 ≠ (TX0 b).2.1 := by decide +kernel
theorem tyX0_ok : ∀ k, k < 0 → parseFieldDescriptor (TX0 k).2.2.1 = some (tyX0 k) := by decide +kernel
def RX1 : String := "ChairOnTheRoad$Baker"
def TX1 : u_T := fun k => match k with
  | _ => ("", "", "", false)
def tyX1 : Nat → FieldType := fun k => match k with
  | _ => .int
theorem nmX1 : ∀ a, a < 0 → ∀ b, b < 0 → a ≠ b → (TX1 a).2.1 ≠ (TX1 b).2.1 := by decide +kernel
theorem tyX1_ok : ∀ k, k < 0 → parseFieldDescriptor (TX1 k).2.2.1 = some (tyX1 k) := by decide +kernel
def RX2 : String := "ChairOnTheRoad$Bishop"
def TX2 : u_T := fun k => match k with
  | _ => ("", "", "", false)
def tyX2 : Nat → FieldType := fun k => match k with
  | _ => .int
theorem nmX2 : ∀ a, a < 0 → ∀ b, b < 0 → a ≠ b → (TX2 a).2.1 ≠ (TX2 b).2.1 := by decide +kernel
theorem tyX2_ok : ∀ k, k < 0 → parseFieldDescriptor (TX2 k).2.2.1 = some (tyX2 k) := by decide +kernel
def RX3 : String := "ChairOnTheRoad$Doctor"
def TX3 : u_T := fun k => match k with
  | _ => ("", "", "", false)
def tyX3 : Nat → FieldType := fun k => match k with
  | _ => .int
theorem nmX3 : ∀ a, a < 0 → ∀ b, b < 0 → a ≠ b → (TX3 a).2.1 ≠ (TX3 b).2.1 := by decide +kernel
theorem tyX3_ok : ∀ k, k < 0 → parseFieldDescriptor (TX3 k).2.2.1 = some (tyX3 k) := by decide +kernel
def RX4 : String := "ChairOnTheRoad$Hearse"
def TX4 : u_T := fun k => match k with
  | _ => ("", "", "", false)
def tyX4 : Nat → FieldType := fun k => match k with
  | _ => .int
theorem nmX4 : ∀ a, a < 0 → ∀ b, b < 0 → a ≠ b → (TX4 a).2.1 ≠ (TX4 b).2.1 := by decide +kernel
theorem tyX4_ok : ∀ k, k < 0 → parseFieldDescriptor (TX4 k).2.2.1 = some (tyX4 k) := by decide +kernel
def RX5 : String := "ChairOnTheRoad$Hermit"
def TX5 : u_T := fun k => match k with
  | _ => ("", "", "", false)
def tyX5 : Nat → FieldType := fun k => match k with
  | _ => .int
theorem nmX5 : ∀ a, a < 0 → ∀ b, b < 0 → a ≠ b → (TX5 a).2.1 ≠ (TX5 b).2.1 := by decide +kernel
theorem tyX5_ok : ∀ k, k < 0 → parseFieldDescriptor (TX5 k).2.2.1 = some (tyX5 k) := by decide +kernel
def RX6 : String := "ChairOnTheRoad$Pedlar"
def TX6 : u_T := fun k => match k with
  | _ => ("", "", "", false)
def tyX6 : Nat → FieldType := fun k => match k with
  | _ => .int
theorem nmX6 : ∀ a, a < 0 → ∀ b, b < 0 → a ≠ b → (TX6 a).2.1 ≠ (TX6 b).2.1 := by decide +kernel
theorem tyX6_ok : ∀ k, k < 0 → parseFieldDescriptor (TX6 k).2.2.1 = some (tyX6 k) := by decide +kernel
def RX7 : String := "ChairOnTheRoad$Province"
def TX7 : u_T := fun k => match k with
  | 0 => ("ChairOnTheRoad$Province", "kinds", "[LChairOnTheRoad$Village;", true)
  | 1 => ("ChairOnTheRoad$Province", "kind", "[I", true)
  | 2 => ("ChairOnTheRoad$Province", "figure", "[I", true)
  | 3 => ("ChairOnTheRoad$Province", "place", "[I", true)
  | 4 => ("ChairOnTheRoad$Province", "from", "[I", true)
  | 5 => ("ChairOnTheRoad$Province", "stock", "[I", true)
  | 6 => ("ChairOnTheRoad$Province", "goes", "[I", true)
  | 7 => ("ChairOnTheRoad$Province", "brings", "[I", true)
  | 8 => ("ChairOnTheRoad$Province", "eats", "[I", true)
  | 9 => ("ChairOnTheRoad$Province", "villages", "I", false)
  | 10 => ("ChairOnTheRoad$Province", "chair", "I", false)
  | 11 => ("ChairOnTheRoad$Province", "step", "I", false)
  | 12 => ("ChairOnTheRoad$Province", "home", "I", false)
  | 13 => ("ChairOnTheRoad$Province", "nods", "I", false)
  | _ => ("ChairOnTheRoad$Province", "day", "I", false)
def tyX7 : Nat → FieldType := fun k => match k with
  | 0 => .array (.object "ChairOnTheRoad$Village")
  | 1 => .array .int
  | 2 => .array .int
  | 3 => .array .int
  | 4 => .array .int
  | 5 => .array .int
  | 6 => .array .int
  | 7 => .array .int
  | 8 => .array .int
  | 9 => .int
  | 10 => .int
  | 11 => .int
  | 12 => .int
  | 13 => .int
  | _ => .int
theorem nmX7 : ∀ a, a < 15 → ∀ b, b < 15 → a ≠ b → (TX7 a).2.1 ≠ (TX7 b).2.1 := by decide +kernel
theorem tyX7_ok : ∀ k, k < 15 → parseFieldDescriptor (TX7 k).2.2.1 = some (tyX7 k) := by decide +kernel
def RX8 : String := "ChairOnTheRoad$Shelf"
def TX8 : u_T := fun k => match k with
  | 0 => ("ChairOnTheRoad$Shelf", "holds", "I", false)
  | 1 => ("ChairOnTheRoad$Shelf", "kind", "I", false)
  | 2 => ("ChairOnTheRoad$Shelf", "figure", "I", false)
  | 3 => ("ChairOnTheRoad$Shelf", "sort", "I", false)
  | 4 => ("ChairOnTheRoad$Shelf", "length", "I", false)
  | _ => ("ChairOnTheRoad$Shelf", "cells", "[I", true)
def tyX8 : Nat → FieldType := fun k => match k with
  | 0 => .int
  | 1 => .int
  | 2 => .int
  | 3 => .int
  | 4 => .int
  | _ => .array .int
theorem nmX8 : ∀ a, a < 6 → ∀ b, b < 6 → a ≠ b → (TX8 a).2.1 ≠ (TX8 b).2.1 := by decide +kernel
theorem tyX8_ok : ∀ k, k < 6 → parseFieldDescriptor (TX8 k).2.2.1 = some (tyX8 k) := by decide +kernel
def RX9 : String := "ChairOnTheRoad$Village"
def TX9 : u_T := fun k => match k with
  | _ => ("", "", "", false)
def tyX9 : Nat → FieldType := fun k => match k with
  | _ => .int
theorem nmX9 : ∀ a, a < 0 → ∀ b, b < 0 → a ≠ b → (TX9 a).2.1 ≠ (TX9 b).2.1 := by decide +kernel
theorem tyX9_ok : ∀ k, k < 0 → parseFieldDescriptor (TX9 k).2.2.1 = some (tyX9 k) := by decide +kernel
def RX10 : String := "ChairOnTheRoad"
def TX10 : u_T := fun k => match k with
  | 0 => ("ChairOnTheRoad", "kinds", "[LChairOnTheRoad$Village;", true)
  | 1 => ("ChairOnTheRoad", "now", "LChairOnTheRoad$Province;", true)
  | 2 => ("ChairOnTheRoad", "mind", "LChairOnTheRoad$Province;", true)
  | 3 => ("ChairOnTheRoad", "image", "LChairOnTheRoad$Province;", true)
  | 4 => ("ChairOnTheRoad", "imageTaken", "Z", false)
  | 5 => ("ChairOnTheRoad", "shelves", "[LChairOnTheRoad$Shelf;", true)
  | 6 => ("ChairOnTheRoad", "wayBetween", "[I", true)
  | 7 => ("ChairOnTheRoad", "leastRest", "[I", true)
  | 8 => ("ChairOnTheRoad", "payOfOne", "[I", true)
  | 9 => ("ChairOnTheRoad", "payOfOther", "[I", true)
  | 10 => ("ChairOnTheRoad", "chances", "[J", true)
  | _ => ("ChairOnTheRoad", "chancesNext", "[J", true)
def tyX10 : Nat → FieldType := fun k => match k with
  | 0 => .array (.object "ChairOnTheRoad$Village")
  | 1 => .object "ChairOnTheRoad$Province"
  | 2 => .object "ChairOnTheRoad$Province"
  | 3 => .object "ChairOnTheRoad$Province"
  | 4 => .boolean
  | 5 => .array (.object "ChairOnTheRoad$Shelf")
  | 6 => .array .int
  | 7 => .array .int
  | 8 => .array .int
  | 9 => .array .int
  | 10 => .array .long
  | _ => .array .long
theorem nmX10 : ∀ a, a < 12 → ∀ b, b < 12 → a ≠ b → (TX10 a).2.1 ≠ (TX10 b).2.1 := by decide +kernel
theorem tyX10_ok : ∀ k, k < 12 → parseFieldDescriptor (TX10 k).2.2.1 = some (tyX10 k) := by decide +kernel
def RX11 : String := "ChairOnTheRoadModel"
def TX11 : u_T := fun k => match k with
  | 0 => ("ChairOnTheRoadModel", "chair", "I", false)
  | 1 => ("ChairOnTheRoadModel", "step0", "I", false)
  | 2 => ("ChairOnTheRoadModel", "home0", "I", false)
  | 3 => ("ChairOnTheRoadModel", "many", "I", false)
  | 4 => ("ChairOnTheRoadModel", "kinds", "[I", true)
  | 5 => ("ChairOnTheRoadModel", "figures", "[I", true)
  | 6 => ("ChairOnTheRoadModel", "places", "[I", true)
  | 7 => ("ChairOnTheRoadModel", "froms", "[I", true)
  | 8 => ("ChairOnTheRoadModel", "stocks0", "[I", true)
  | 9 => ("ChairOnTheRoadModel", "nods", "I", false)
  | 10 => ("ChairOnTheRoadModel", "today", "I", false)
  | 11 => ("ChairOnTheRoadModel", "holdsWhat", "[I", true)
  | 12 => ("ChairOnTheRoadModel", "keptKind", "[I", true)
  | 13 => ("ChairOnTheRoadModel", "keptFigure", "[I", true)
  | 14 => ("ChairOnTheRoadModel", "rowSort", "[I", true)
  | 15 => ("ChairOnTheRoadModel", "rowMany", "[I", true)
  | 16 => ("ChairOnTheRoadModel", "rows", "[J", true)
  | 17 => ("ChairOnTheRoadModel", "thrown", "I", false)
  | 18 => ("ChairOnTheRoadModel", "reading", "I", false)
  | 19 => ("ChairOnTheRoadModel", "place", "I", false)
  | 20 => ("ChairOnTheRoadModel", "isBad", "Z", false)
  | 21 => ("ChairOnTheRoadModel", "statements", "I", false)
  | 22 => ("ChairOnTheRoadModel", "placeIn", "[I", true)
  | 23 => ("ChairOnTheRoadModel", "letterOf", "[I", true)
  | 24 => ("ChairOnTheRoadModel", "told", "[I", true)
  | 25 => ("ChairOnTheRoadModel", "kept", "[I", true)
  | 26 => ("ChairOnTheRoadModel", "imaged", "[I", true)
  | 27 => ("ChairOnTheRoadModel", "hasImage", "Z", false)
  | 28 => ("ChairOnTheRoadModel", "place0", "I", false)
  | 29 => ("ChairOnTheRoadModel", "isTaking", "Z", false)
  | 30 => ("ChairOnTheRoadModel", "keptIn", "[I", false)
  | 31 => ("ChairOnTheRoadModel", "leastBy", "[I", true)
  | 32 => ("ChairOnTheRoadModel", "gains", "[I", true)
  | 33 => ("ChairOnTheRoadModel", "seed", "I", false)
  | _ => ("ChairOnTheRoadModel", "between", "[J", true)
def tyX11 : Nat → FieldType := fun k => match k with
  | 0 => .int
  | 1 => .int
  | 2 => .int
  | 3 => .int
  | 4 => .array .int
  | 5 => .array .int
  | 6 => .array .int
  | 7 => .array .int
  | 8 => .array .int
  | 9 => .int
  | 10 => .int
  | 11 => .array .int
  | 12 => .array .int
  | 13 => .array .int
  | 14 => .array .int
  | 15 => .array .int
  | 16 => .array .long
  | 17 => .int
  | 18 => .int
  | 19 => .int
  | 20 => .boolean
  | 21 => .int
  | 22 => .array .int
  | 23 => .array .int
  | 24 => .array .int
  | 25 => .array .int
  | 26 => .array .int
  | 27 => .boolean
  | 28 => .int
  | 29 => .boolean
  | 30 => .array .int
  | 31 => .array .int
  | 32 => .array .int
  | 33 => .int
  | _ => .array .long
theorem nmX11 : ∀ a, a < 35 → ∀ b, b < 35 → a ≠ b → (TX11 a).2.1 ≠ (TX11 b).2.1 := by decide +kernel
theorem tyX11_ok : ∀ k, k < 35 → parseFieldDescriptor (TX11 k).2.2.1 = some (tyX11 k) := by decide +kernel
abbrev vwCl : List vw_C := [(RX0, TX0, 0), (RX1, TX1, 0), (RX2, TX2, 0), (RX3, TX3, 0), (RX4, TX4, 0), (RX5, TX5, 0), (RX6, TX6, 0), (RX7, TX7, 15), (RX8, TX8, 6), (RX9, TX9, 0), (RX10, TX10, 12), (RX11, TX11, 35)]
