/-! names of the classes, their fields, and the row of cells: printed by wip/whole/gen/names.py -/
/-- the words that a called method may rely on, too -/
def tW : List Cond := lw_tbl.filter goodWord
theorem tW_in {w : Cond} (h : w ∈ lw_tbl) (g : goodWord w = true) : w ∈ tW := List.mem_filter.mpr ⟨h, g⟩
theorem tW_c1 {w : Cond} {j : Nat} (hj : tables_1_1[j]? = some w) (g : goodWord w = true) : w ∈ tW := by
  have h := List.mem_of_getElem? hj
  exact List.mem_filter.mpr ⟨List.mem_append_right _ (show w ∈ tables_1 from List.mem_append_left _ h), g⟩
theorem tW_c2 {w : Cond} {j : Nat} (hj : tables_1_2[j]? = some w) (g : goodWord w = true) : w ∈ tW := by
  have h := List.mem_of_getElem? hj
  exact List.mem_filter.mpr ⟨List.mem_append_right _ (show w ∈ tables_1 from List.mem_append_right _ (List.mem_append_left _ h)), g⟩
theorem tW_c3 {w : Cond} {j : Nat} (hj : tables_1_3[j]? = some w) (g : goodWord w = true) : w ∈ tW := by
  have h := List.mem_of_getElem? hj
  exact List.mem_filter.mpr ⟨List.mem_append_right _ (show w ∈ tables_1 from List.mem_append_right _ (List.mem_append_right _ (List.mem_append_left _ h))), g⟩
theorem tW_c4 {w : Cond} {j : Nat} (hj : tables_1_4[j]? = some w) (g : goodWord w = true) : w ∈ tW := by
  have h := List.mem_of_getElem? hj
  exact List.mem_filter.mpr ⟨List.mem_append_right _ (show w ∈ tables_1 from List.mem_append_right _ (List.mem_append_right _ (List.mem_append_right _ (List.mem_append_left _ h)))), g⟩
theorem tW_c5 {w : Cond} {j : Nat} (hj : tables_1_5[j]? = some w) (g : goodWord w = true) : w ∈ tW := by
  have h := List.mem_of_getElem? hj
  exact List.mem_filter.mpr ⟨List.mem_append_right _ (show w ∈ tables_1 from List.mem_append_right _ (List.mem_append_right _ (List.mem_append_right _ (List.mem_append_right _ (List.mem_append_left _ h))))), g⟩
theorem tW_c6 {w : Cond} {j : Nat} (hj : tables_1_6[j]? = some w) (g : goodWord w = true) : w ∈ tW := by
  have h := List.mem_of_getElem? hj
  exact List.mem_filter.mpr ⟨List.mem_append_right _ (show w ∈ tables_1 from List.mem_append_right _ (List.mem_append_right _ (List.mem_append_right _ (List.mem_append_right _ (List.mem_append_right _ (List.mem_append_left _ h)))))), g⟩
theorem tW_c7 {w : Cond} {j : Nat} (hj : tables_1_7[j]? = some w) (g : goodWord w = true) : w ∈ tW := by
  have h := List.mem_of_getElem? hj
  exact List.mem_filter.mpr ⟨List.mem_append_right _ (show w ∈ tables_1 from List.mem_append_right _ (List.mem_append_right _ (List.mem_append_right _ (List.mem_append_right _ (List.mem_append_right _ (List.mem_append_right _ (List.mem_append_left _ h))))))), g⟩
theorem tW_c8 {w : Cond} {j : Nat} (hj : tables_1_8[j]? = some w) (g : goodWord w = true) : w ∈ tW := by
  have h := List.mem_of_getElem? hj
  exact List.mem_filter.mpr ⟨List.mem_append_right _ (show w ∈ tables_1 from List.mem_append_right _ (List.mem_append_right _ (List.mem_append_right _ (List.mem_append_right _ (List.mem_append_right _ (List.mem_append_right _ (List.mem_append_right _ (h)))))))), g⟩
theorem tW_at {w : Cond} {i : Nat} (h : lw_tbl[i]? = some w) (g : goodWord w = true) : w ∈ tW := tW_in (List.mem_of_getElem? h) g
def RC0 : String := "QuarrelOvens$Chain"
def TC0 : u_T := fun k => match k with
  | 0 => ("QuarrelOvens$Chain", "best", "[I", true)
  | 1 => ("QuarrelOvens$Chain", "bestCount", "I", false)
  | 2 => ("QuarrelOvens$Chain", "row", "[I", true)
  | 3 => ("QuarrelOvens$Chain", "against", "[I", true)
  | _ => ("QuarrelOvens$Chain", "people", "I", false)
def yC0 : Nat → FieldType := fun k => match k with
  | 0 => .array .int
  | 1 => .int
  | 2 => .array .int
  | 3 => .array .int
  | _ => .int
theorem nC0 : ∀ a, a < 5 → ∀ b, b < 5 → a ≠ b → (TC0 a).2.1 ≠ (TC0 b).2.1 := by decide +kernel
theorem yC0_ok : ∀ k, k < 5 → parseFieldDescriptor (TC0 k).2.2.1 = some (yC0 k) := by decide +kernel
theorem iC0 : ∀ w ∈ u_ws RC0 TC0 5, w ∈ tW := by
  intro w hw
  obtain ⟨k, hk, rfl⟩ := List.mem_map.mp hw
  have hk := List.mem_range.mp hk
  match k, hk with
  | 0, _ => exact tW_at (i := 450) (by decide +kernel) rfl
  | 1, _ => exact tW_at (i := 452) (by decide +kernel) rfl
  | 2, _ => exact tW_at (i := 454) (by decide +kernel) rfl
  | 3, _ => exact tW_at (i := 456) (by decide +kernel) rfl
  | 4, _ => exact tW_at (i := 458) (by decide +kernel) rfl
  | k + 5, h => exact absurd h (by omega)
def RC1 : String := "QuarrelOvens$Couples"
def TC1 : u_T := fun k => match k with
  | 0 => ("QuarrelOvens$Couples", "spouse", "[I", true)
  | 1 => ("QuarrelOvens$Couples", "between", "[I", true)
  | _ => ("QuarrelOvens$Couples", "people", "I", false)
def yC1 : Nat → FieldType := fun k => match k with
  | 0 => .array .int
  | 1 => .array .int
  | _ => .int
theorem nC1 : ∀ a, a < 3 → ∀ b, b < 3 → a ≠ b → (TC1 a).2.1 ≠ (TC1 b).2.1 := by decide +kernel
theorem yC1_ok : ∀ k, k < 3 → parseFieldDescriptor (TC1 k).2.2.1 = some (yC1 k) := by decide +kernel
theorem iC1 : ∀ w ∈ u_ws RC1 TC1 3, w ∈ tW := by
  intro w hw
  obtain ⟨k, hk, rfl⟩ := List.mem_map.mp hw
  have hk := List.mem_range.mp hk
  match k, hk with
  | 0, _ => exact tW_at (i := 383) (by decide +kernel) rfl
  | 1, _ => exact tW_at (i := 385) (by decide +kernel) rfl
  | 2, _ => exact tW_at (i := 387) (by decide +kernel) rfl
  | k + 3, h => exact absurd h (by omega)
def RC2 : String := "QuarrelOvens$Guess"
def TC2 : u_T := fun k => match k with
  | 0 => ("QuarrelOvens$Guess", "found", "[I", true)
  | 1 => ("QuarrelOvens$Guess", "tally", "[I", true)
  | 2 => ("QuarrelOvens$Guess", "size", "I", false)
  | _ => ("QuarrelOvens$Guess", "facts", "I", false)
def yC2 : Nat → FieldType := fun k => match k with
  | 0 => .array .int
  | 1 => .array .int
  | 2 => .int
  | _ => .int
theorem nC2 : ∀ a, a < 4 → ∀ b, b < 4 → a ≠ b → (TC2 a).2.1 ≠ (TC2 b).2.1 := by decide +kernel
theorem yC2_ok : ∀ k, k < 4 → parseFieldDescriptor (TC2 k).2.2.1 = some (yC2 k) := by decide +kernel
theorem iC2 : ∀ w ∈ u_ws RC2 TC2 4, w ∈ tW := by
  intro w hw
  obtain ⟨k, hk, rfl⟩ := List.mem_map.mp hw
  have hk := List.mem_range.mp hk
  match k, hk with
  | 0, _ => exact tW_at (i := 471) (by decide +kernel) rfl
  | 1, _ => exact tW_at (i := 473) (by decide +kernel) rfl
  | 2, _ => exact tW_at (i := 475) (by decide +kernel) rfl
  | 3, _ => exact tW_at (i := 477) (by decide +kernel) rfl
  | k + 4, h => exact absurd h (by omega)
def RC3 : String := "QuarrelOvens$Keeper"
def TC3 : u_T := fun k => match k with
  | 0 => ("QuarrelOvens$Keeper", "here", "[I", true)
  | _ => ("QuarrelOvens$Keeper", "later", "[I", true)
def yC3 : Nat → FieldType := fun k => match k with
  | 0 => .array .int
  | _ => .array .int
theorem nC3 : ∀ a, a < 2 → ∀ b, b < 2 → a ≠ b → (TC3 a).2.1 ≠ (TC3 b).2.1 := by decide +kernel
theorem yC3_ok : ∀ k, k < 2 → parseFieldDescriptor (TC3 k).2.2.1 = some (yC3 k) := by decide +kernel
theorem iC3 : ∀ w ∈ u_ws RC3 TC3 2, w ∈ tW := by
  intro w hw
  obtain ⟨k, hk, rfl⟩ := List.mem_map.mp hw
  have hk := List.mem_range.mp hk
  match k, hk with
  | 0, _ => exact tW_at (i := 432) (by decide +kernel) rfl
  | 1, _ => exact tW_at (i := 434) (by decide +kernel) rfl
  | k + 2, h => exact absurd h (by omega)
def RC4 : String := "QuarrelOvens$Quarrels"
def TC4 : u_T := fun k => match k with
  | 0 => ("QuarrelOvens$Quarrels", "best", "[I", true)
  | 1 => ("QuarrelOvens$Quarrels", "bestCount", "I", false)
  | 2 => ("QuarrelOvens$Quarrels", "bestHeat", "I", false)
  | 3 => ("QuarrelOvens$Quarrels", "names", "[I", true)
  | 4 => ("QuarrelOvens$Quarrels", "heats", "[I", true)
  | 5 => ("QuarrelOvens$Quarrels", "takes", "[I", true)
  | 6 => ("QuarrelOvens$Quarrels", "leastBeyond", "[I", true)
  | _ => ("QuarrelOvens$Quarrels", "size", "I", false)
def yC4 : Nat → FieldType := fun k => match k with
  | 0 => .array .int
  | 1 => .int
  | 2 => .int
  | 3 => .array .int
  | 4 => .array .int
  | 5 => .array .int
  | 6 => .array .int
  | _ => .int
theorem nC4 : ∀ a, a < 8 → ∀ b, b < 8 → a ≠ b → (TC4 a).2.1 ≠ (TC4 b).2.1 := by decide +kernel
theorem yC4_ok : ∀ k, k < 8 → parseFieldDescriptor (TC4 k).2.2.1 = some (yC4 k) := by decide +kernel
theorem iC4 : ∀ w ∈ u_ws RC4 TC4 8, w ∈ tW := by
  intro w hw
  obtain ⟨k, hk, rfl⟩ := List.mem_map.mp hw
  have hk := List.mem_range.mp hk
  match k, hk with
  | 0, _ => exact tW_at (i := 407) (by decide +kernel) rfl
  | 1, _ => exact tW_at (i := 409) (by decide +kernel) rfl
  | 2, _ => exact tW_at (i := 411) (by decide +kernel) rfl
  | 3, _ => exact tW_at (i := 413) (by decide +kernel) rfl
  | 4, _ => exact tW_at (i := 415) (by decide +kernel) rfl
  | 5, _ => exact tW_at (i := 417) (by decide +kernel) rfl
  | 6, _ => exact tW_at (i := 419) (by decide +kernel) rfl
  | 7, _ => exact tW_at (i := 421) (by decide +kernel) rfl
  | k + 8, h => exact absurd h (by omega)
def RC5 : String := "QuarrelOvens$Reader"
def TC5 : u_T := fun k => match k with
  | 0 => ("QuarrelOvens$Reader", "village", "LQuarrelOvens$Village;", true)
  | 1 => ("QuarrelOvens$Reader", "day", "LQuarrelOvens$Rows;", true)
  | 2 => ("QuarrelOvens$Reader", "log", "LQuarrelOvens$Rows;", true)
  | 3 => ("QuarrelOvens$Reader", "fault", "I", false)
  | 4 => ("QuarrelOvens$Reader", "faultPlace", "I", false)
  | 5 => ("QuarrelOvens$Reader", "tape", "[B", true)
  | 6 => ("QuarrelOvens$Reader", "numbers", "[I", true)
  | 7 => ("QuarrelOvens$Reader", "size", "I", false)
  | 8 => ("QuarrelOvens$Reader", "kind", "I", false)
  | 9 => ("QuarrelOvens$Reader", "from", "I", false)
  | 10 => ("QuarrelOvens$Reader", "to", "I", false)
  | 11 => ("QuarrelOvens$Reader", "peopleNeeded", "I", false)
  | _ => ("QuarrelOvens$Reader", "subjectsNeeded", "I", false)
def yC5 : Nat → FieldType := fun k => match k with
  | 0 => .object "QuarrelOvens$Village"
  | 1 => .object "QuarrelOvens$Rows"
  | 2 => .object "QuarrelOvens$Rows"
  | 3 => .int
  | 4 => .int
  | 5 => .array .byte
  | 6 => .array .int
  | 7 => .int
  | 8 => .int
  | 9 => .int
  | 10 => .int
  | 11 => .int
  | _ => .int
theorem nC5 : ∀ a, a < 13 → ∀ b, b < 13 → a ≠ b → (TC5 a).2.1 ≠ (TC5 b).2.1 := by decide +kernel
theorem yC5_ok : ∀ k, k < 13 → parseFieldDescriptor (TC5 k).2.2.1 = some (yC5 k) := by decide +kernel
theorem iC5 : ∀ w ∈ u_ws RC5 TC5 13, w ∈ tW := by
  intro w hw
  obtain ⟨k, hk, rfl⟩ := List.mem_map.mp hw
  have hk := List.mem_range.mp hk
  match k, hk with
  | 0, _ => exact tW_at (i := 300) (by decide +kernel) rfl
  | 1, _ => exact tW_at (i := 302) (by decide +kernel) rfl
  | 2, _ => exact tW_at (i := 304) (by decide +kernel) rfl
  | 3, _ => exact tW_at (i := 306) (by decide +kernel) rfl
  | 4, _ => exact tW_at (i := 308) (by decide +kernel) rfl
  | 5, _ => exact tW_at (i := 310) (by decide +kernel) rfl
  | 6, _ => exact tW_at (i := 312) (by decide +kernel) rfl
  | 7, _ => exact tW_at (i := 314) (by decide +kernel) rfl
  | 8, _ => exact tW_at (i := 316) (by decide +kernel) rfl
  | 9, _ => exact tW_at (i := 318) (by decide +kernel) rfl
  | 10, _ => exact tW_at (i := 320) (by decide +kernel) rfl
  | 11, _ => exact tW_at (i := 322) (by decide +kernel) rfl
  | 12, _ => exact tW_at (i := 324) (by decide +kernel) rfl
  | k + 13, h => exact absurd h (by omega)
def RC6 : String := "QuarrelOvens$Rows"
def TC6 : u_T := fun k => match k with
  | 0 => ("QuarrelOvens$Rows", "width", "I", true)
  | 1 => ("QuarrelOvens$Rows", "most", "I", true)
  | 2 => ("QuarrelOvens$Rows", "cells", "[I", true)
  | _ => ("QuarrelOvens$Rows", "count", "I", false)
def yC6 : Nat → FieldType := fun k => match k with
  | 0 => .int
  | 1 => .int
  | 2 => .array .int
  | _ => .int
theorem nC6 : ∀ a, a < 4 → ∀ b, b < 4 → a ≠ b → (TC6 a).2.1 ≠ (TC6 b).2.1 := by decide +kernel
theorem yC6_ok : ∀ k, k < 4 → parseFieldDescriptor (TC6 k).2.2.1 = some (yC6 k) := by decide +kernel
theorem iC6 : ∀ w ∈ u_ws RC6 TC6 4, w ∈ tW := by
  intro w hw
  obtain ⟨k, hk, rfl⟩ := List.mem_map.mp hw
  have hk := List.mem_range.mp hk
  match k, hk with
  | 0, _ => exact tW_at (i := 232) (by decide +kernel) rfl
  | 1, _ => exact tW_at (i := 234) (by decide +kernel) rfl
  | 2, _ => exact tW_at (i := 236) (by decide +kernel) rfl
  | 3, _ => exact tW_at (i := 238) (by decide +kernel) rfl
  | k + 4, h => exact absurd h (by omega)
def RC7 : String := "QuarrelOvens$Scene"
def TC7 : u_T := fun k => match k with
  | 0 => ("QuarrelOvens$Scene", "now", "LQuarrelOvens$Village;", true)
  | 1 => ("QuarrelOvens$Scene", "warm", "[I", true)
  | 2 => ("QuarrelOvens$Scene", "quarrelled", "[I", true)
  | 3 => ("QuarrelOvens$Scene", "hour", "I", false)
  | 4 => ("QuarrelOvens$Scene", "cracked", "I", false)
  | 5 => ("QuarrelOvens$Scene", "busy", "I", false)
  | 6 => ("QuarrelOvens$Scene", "burned", "I", false)
  | 7 => ("QuarrelOvens$Scene", "hottest", "I", false)
  | 8 => ("QuarrelOvens$Scene", "split", "I", false)
  | 9 => ("QuarrelOvens$Scene", "cosy", "I", false)
  | _ => ("QuarrelOvens$Scene", "seed", "I", false)
def yC7 : Nat → FieldType := fun k => match k with
  | 0 => .object "QuarrelOvens$Village"
  | 1 => .array .int
  | 2 => .array .int
  | 3 => .int
  | 4 => .int
  | 5 => .int
  | 6 => .int
  | 7 => .int
  | 8 => .int
  | 9 => .int
  | _ => .int
theorem nC7 : ∀ a, a < 11 → ∀ b, b < 11 → a ≠ b → (TC7 a).2.1 ≠ (TC7 b).2.1 := by decide +kernel
theorem yC7_ok : ∀ k, k < 11 → parseFieldDescriptor (TC7 k).2.2.1 = some (yC7 k) := by decide +kernel
theorem iC7 : ∀ w ∈ u_ws RC7 TC7 11, w ∈ tW := by
  intro w hw
  obtain ⟨k, hk, rfl⟩ := List.mem_map.mp hw
  have hk := List.mem_range.mp hk
  match k, hk with
  | 0, _ => exact tW_at (i := 350) (by decide +kernel) rfl
  | 1, _ => exact tW_at (i := 352) (by decide +kernel) rfl
  | 2, _ => exact tW_at (i := 354) (by decide +kernel) rfl
  | 3, _ => exact tW_at (i := 356) (by decide +kernel) rfl
  | 4, _ => exact tW_at (i := 358) (by decide +kernel) rfl
  | 5, _ => exact tW_at (i := 360) (by decide +kernel) rfl
  | 6, _ => exact tW_at (i := 362) (by decide +kernel) rfl
  | 7, _ => exact tW_at (i := 364) (by decide +kernel) rfl
  | 8, _ => exact tW_at (i := 366) (by decide +kernel) rfl
  | 9, _ => exact tW_at (i := 368) (by decide +kernel) rfl
  | 10, _ => exact tW_at (i := 370) (by decide +kernel) rfl
  | k + 11, h => exact absurd h (by omega)
def RC8 : String := "QuarrelOvens$Told"
def TC8 : u_T := fun k => match k with
  | 0 => ("QuarrelOvens$Told", "tape", "[B", true)
  | 1 => ("QuarrelOvens$Told", "size", "I", false)
  | 2 => ("QuarrelOvens$Told", "fault", "I", false)
  | 3 => ("QuarrelOvens$Told", "faultPlace", "I", false)
  | 4 => ("QuarrelOvens$Told", "counts", "[I", true)
  | 5 => ("QuarrelOvens$Told", "villages", "[LQuarrelOvens$Village;", true)
  | 6 => ("QuarrelOvens$Told", "days", "[LQuarrelOvens$Rows;", true)
  | _ => ("QuarrelOvens$Told", "logs", "[LQuarrelOvens$Rows;", true)
def yC8 : Nat → FieldType := fun k => match k with
  | 0 => .array .byte
  | 1 => .int
  | 2 => .int
  | 3 => .int
  | 4 => .array .int
  | 5 => .array (.object "QuarrelOvens$Village")
  | 6 => .array (.object "QuarrelOvens$Rows")
  | _ => .array (.object "QuarrelOvens$Rows")
theorem nC8 : ∀ a, a < 8 → ∀ b, b < 8 → a ≠ b → (TC8 a).2.1 ≠ (TC8 b).2.1 := by decide +kernel
theorem yC8_ok : ∀ k, k < 8 → parseFieldDescriptor (TC8 k).2.2.1 = some (yC8 k) := by decide +kernel
theorem iC8 : ∀ w ∈ u_ws RC8 TC8 8, w ∈ tW := by
  intro w hw
  obtain ⟨k, hk, rfl⟩ := List.mem_map.mp hw
  have hk := List.mem_range.mp hk
  match k, hk with
  | 0, _ => exact tW_at (i := 254) (by decide +kernel) rfl
  | 1, _ => exact tW_at (i := 256) (by decide +kernel) rfl
  | 2, _ => exact tW_at (i := 258) (by decide +kernel) rfl
  | 3, _ => exact tW_at (i := 260) (by decide +kernel) rfl
  | 4, _ => exact tW_at (i := 262) (by decide +kernel) rfl
  | 5, _ => exact tW_at (i := 264) (by decide +kernel) rfl
  | 6, _ => exact tW_at (i := 266) (by decide +kernel) rfl
  | 7, _ => exact tW_at (i := 268) (by decide +kernel) rfl
  | k + 8, h => exact absurd h (by omega)
def RC9 : String := "QuarrelOvens$Village"
def TC9 : u_T := fun k => match k with
  | 0 => ("QuarrelOvens$Village", "people", "I", false)
  | 1 => ("QuarrelOvens$Village", "subjects", "I", false)
  | 2 => ("QuarrelOvens$Village", "hearths", "I", false)
  | 3 => ("QuarrelOvens$Village", "cools", "I", false)
  | 4 => ("QuarrelOvens$Village", "heats", "[I", true)
  | 5 => ("QuarrelOvens$Village", "fading", "[I", true)
  | 6 => ("QuarrelOvens$Village", "wants", "[I", true)
  | 7 => ("QuarrelOvens$Village", "cracks", "[I", true)
  | _ => ("QuarrelOvens$Village", "holdings", "[I", true)
def yC9 : Nat → FieldType := fun k => match k with
  | 0 => .int
  | 1 => .int
  | 2 => .int
  | 3 => .int
  | 4 => .array .int
  | 5 => .array .int
  | 6 => .array .int
  | 7 => .array .int
  | _ => .array .int
theorem nC9 : ∀ a, a < 9 → ∀ b, b < 9 → a ≠ b → (TC9 a).2.1 ≠ (TC9 b).2.1 := by decide +kernel
theorem yC9_ok : ∀ k, k < 9 → parseFieldDescriptor (TC9 k).2.2.1 = some (yC9 k) := by decide +kernel
theorem iC9 : ∀ w ∈ u_ws RC9 TC9 9, w ∈ tW := by
  intro w hw
  obtain ⟨k, hk, rfl⟩ := List.mem_map.mp hw
  have hk := List.mem_range.mp hk
  match k, hk with
  | 0, _ => exact tW_at (i := 198) (by decide +kernel) rfl
  | 1, _ => exact tW_at (i := 200) (by decide +kernel) rfl
  | 2, _ => exact tW_at (i := 202) (by decide +kernel) rfl
  | 3, _ => exact tW_at (i := 204) (by decide +kernel) rfl
  | 4, _ => exact tW_at (i := 206) (by decide +kernel) rfl
  | 5, _ => exact tW_at (i := 208) (by decide +kernel) rfl
  | 6, _ => exact tW_at (i := 210) (by decide +kernel) rfl
  | 7, _ => exact tW_at (i := 212) (by decide +kernel) rfl
  | 8, _ => exact tW_at (i := 214) (by decide +kernel) rfl
  | k + 9, h => exact absurd h (by omega)
def RC10 : String := "QuarrelOvens"
def TC10 : u_T := fun k => match k with
  | 0 => ("QuarrelOvens", "told", "LQuarrelOvens$Told;", true)
  | 1 => ("QuarrelOvens", "images", "[LQuarrelOvens$Told;", true)
  | 2 => ("QuarrelOvens", "reader", "LQuarrelOvens$Reader;", true)
  | 3 => ("QuarrelOvens", "scene", "LQuarrelOvens$Scene;", true)
  | 4 => ("QuarrelOvens", "couples", "LQuarrelOvens$Couples;", true)
  | 5 => ("QuarrelOvens", "quarrels", "LQuarrelOvens$Quarrels;", true)
  | 6 => ("QuarrelOvens", "keeper", "LQuarrelOvens$Keeper;", true)
  | 7 => ("QuarrelOvens", "chain", "LQuarrelOvens$Chain;", true)
  | _ => ("QuarrelOvens", "guess", "LQuarrelOvens$Guess;", true)
def yC10 : Nat → FieldType := fun k => match k with
  | 0 => .object "QuarrelOvens$Told"
  | 1 => .array (.object "QuarrelOvens$Told")
  | 2 => .object "QuarrelOvens$Reader"
  | 3 => .object "QuarrelOvens$Scene"
  | 4 => .object "QuarrelOvens$Couples"
  | 5 => .object "QuarrelOvens$Quarrels"
  | 6 => .object "QuarrelOvens$Keeper"
  | 7 => .object "QuarrelOvens$Chain"
  | _ => .object "QuarrelOvens$Guess"
theorem nC10 : ∀ a, a < 9 → ∀ b, b < 9 → a ≠ b → (TC10 a).2.1 ≠ (TC10 b).2.1 := by decide +kernel
theorem yC10_ok : ∀ k, k < 9 → parseFieldDescriptor (TC10 k).2.2.1 = some (yC10 k) := by decide +kernel
theorem iC10 : ∀ w ∈ u_ws RC10 TC10 9, w ∈ tW := by
  intro w hw
  obtain ⟨k, hk, rfl⟩ := List.mem_map.mp hw
  have hk := List.mem_range.mp hk
  match k, hk with
  | 0, _ => exact tW_at (i := 489) (by decide +kernel) rfl
  | 1, _ => exact tW_at (i := 491) (by decide +kernel) rfl
  | 2, _ => exact tW_at (i := 493) (by decide +kernel) rfl
  | 3, _ => exact tW_at (i := 495) (by decide +kernel) rfl
  | 4, _ => exact tW_at (i := 497) (by decide +kernel) rfl
  | 5, _ => exact tW_at (i := 499) (by decide +kernel) rfl
  | 6, _ => exact tW_at (i := 501) (by decide +kernel) rfl
  | 7, _ => exact tW_at (i := 503) (by decide +kernel) rfl
  | 8, _ => exact tW_at (i := 505) (by decide +kernel) rfl
  | k + 9, h => exact absurd h (by omega)
def RC11 : String := "QuarrelOvensModel"
def TC11 : u_T := fun k => match k with
  | 0 => ("QuarrelOvensModel", "all", "[I", true)
  | 1 => ("QuarrelOvensModel", "has", "[Z", true)
  | 2 => ("QuarrelOvensModel", "size", "I", false)
  | 3 => ("QuarrelOvensModel", "next", "I", false)
  | 4 => ("QuarrelOvensModel", "where", "I", false)
  | 5 => ("QuarrelOvensModel", "token", "I", false)
  | 6 => ("QuarrelOvensModel", "number", "I", false)
  | 7 => ("QuarrelOvensModel", "word", "I", false)
  | 8 => ("QuarrelOvensModel", "wrong", "Z", false)
  | 9 => ("QuarrelOvensModel", "farPerson", "I", false)
  | 10 => ("QuarrelOvensModel", "farSubject", "I", false)
  | 11 => ("QuarrelOvensModel", "read", "[I", true)
  | 12 => ("QuarrelOvensModel", "v0", "I", false)
  | 13 => ("QuarrelOvensModel", "people", "I", false)
  | 14 => ("QuarrelOvensModel", "subjects", "I", false)
  | 15 => ("QuarrelOvensModel", "hearths", "I", false)
  | 16 => ("QuarrelOvensModel", "tried", "[I", true)
  | 17 => ("QuarrelOvensModel", "spent", "[I", true)
  | 18 => ("QuarrelOvensModel", "usedPeople", "[I", true)
  | 19 => ("QuarrelOvensModel", "usedSubjects", "[I", true)
  | 20 => ("QuarrelOvensModel", "planned", "[I", true)
  | 21 => ("QuarrelOvensModel", "spouse", "[I", true)
  | 22 => ("QuarrelOvensModel", "mostOf", "[I", true)
  | 23 => ("QuarrelOvensModel", "fires", "[I", true)
  | 24 => ("QuarrelOvensModel", "spentOn", "[I", true)
  | 25 => ("QuarrelOvensModel", "can", "[Z", true)
  | 26 => ("QuarrelOvensModel", "then", "[Z", true)
  | 27 => ("QuarrelOvensModel", "calmed", "[I", true)
  | 28 => ("QuarrelOvensModel", "fillers", "[I", true)
  | 29 => ("QuarrelOvensModel", "keen", "[I", true)
  | 30 => ("QuarrelOvensModel", "longer", "[I", true)
  | 31 => ("QuarrelOvensModel", "d0", "I", false)
  | 32 => ("QuarrelOvensModel", "hour", "I", false)
  | 33 => ("QuarrelOvensModel", "cracked", "I", false)
  | 34 => ("QuarrelOvensModel", "quarrelled", "I", false)
  | 35 => ("QuarrelOvensModel", "burned", "I", false)
  | 36 => ("QuarrelOvensModel", "done", "I", false)
  | 37 => ("QuarrelOvensModel", "warm", "[I", true)
  | 38 => ("QuarrelOvensModel", "heat", "[I", true)
  | 39 => ("QuarrelOvensModel", "held", "[I", true)
  | 40 => ("QuarrelOvensModel", "loud", "[I", true)
  | 41 => ("QuarrelOvensModel", "l0", "I", false)
  | 42 => ("QuarrelOvensModel", "by", "[I", true)
  | _ => ("QuarrelOvensModel", "x0", "I", false)
def yC11 : Nat → FieldType := fun k => match k with
  | 0 => .array .int
  | 1 => .array .boolean
  | 2 => .int
  | 3 => .int
  | 4 => .int
  | 5 => .int
  | 6 => .int
  | 7 => .int
  | 8 => .boolean
  | 9 => .int
  | 10 => .int
  | 11 => .array .int
  | 12 => .int
  | 13 => .int
  | 14 => .int
  | 15 => .int
  | 16 => .array .int
  | 17 => .array .int
  | 18 => .array .int
  | 19 => .array .int
  | 20 => .array .int
  | 21 => .array .int
  | 22 => .array .int
  | 23 => .array .int
  | 24 => .array .int
  | 25 => .array .boolean
  | 26 => .array .boolean
  | 27 => .array .int
  | 28 => .array .int
  | 29 => .array .int
  | 30 => .array .int
  | 31 => .int
  | 32 => .int
  | 33 => .int
  | 34 => .int
  | 35 => .int
  | 36 => .int
  | 37 => .array .int
  | 38 => .array .int
  | 39 => .array .int
  | 40 => .array .int
  | 41 => .int
  | 42 => .array .int
  | _ => .int
theorem nC11 : ∀ a, a < 44 → ∀ b, b < 44 → a ≠ b → (TC11 a).2.1 ≠ (TC11 b).2.1 := by decide +kernel
theorem yC11_ok : ∀ k, k < 44 → parseFieldDescriptor (TC11 k).2.2.1 = some (yC11 k) := by decide +kernel
theorem iC11 : ∀ w ∈ u_ws RC11 TC11 44, w ∈ tW := by
  intro w hw
  obtain ⟨k, hk, rfl⟩ := List.mem_map.mp hw
  have hk := List.mem_range.mp hk
  match k, hk with
  | 0, _ => exact tW_at (i := 1315) (by decide +kernel) rfl
  | 1, _ => exact tW_at (i := 1317) (by decide +kernel) rfl
  | 2, _ => exact tW_at (i := 1319) (by decide +kernel) rfl
  | 3, _ => exact tW_at (i := 1321) (by decide +kernel) rfl
  | 4, _ => exact tW_at (i := 1323) (by decide +kernel) rfl
  | 5, _ => exact tW_at (i := 1325) (by decide +kernel) rfl
  | 6, _ => exact tW_at (i := 1327) (by decide +kernel) rfl
  | 7, _ => exact tW_at (i := 1329) (by decide +kernel) rfl
  | 8, _ => exact tW_at (i := 1331) (by decide +kernel) rfl
  | 9, _ => exact tW_at (i := 1333) (by decide +kernel) rfl
  | 10, _ => exact tW_at (i := 1335) (by decide +kernel) rfl
  | 11, _ => exact tW_at (i := 1337) (by decide +kernel) rfl
  | 12, _ => exact tW_at (i := 1339) (by decide +kernel) rfl
  | 13, _ => exact tW_at (i := 1341) (by decide +kernel) rfl
  | 14, _ => exact tW_at (i := 1343) (by decide +kernel) rfl
  | 15, _ => exact tW_at (i := 1345) (by decide +kernel) rfl
  | 16, _ => exact tW_at (i := 1347) (by decide +kernel) rfl
  | 17, _ => exact tW_at (i := 1349) (by decide +kernel) rfl
  | 18, _ => exact tW_at (i := 1351) (by decide +kernel) rfl
  | 19, _ => exact tW_at (i := 1353) (by decide +kernel) rfl
  | 20, _ => exact tW_at (i := 1355) (by decide +kernel) rfl
  | 21, _ => exact tW_at (i := 1357) (by decide +kernel) rfl
  | 22, _ => exact tW_at (i := 1359) (by decide +kernel) rfl
  | 23, _ => exact tW_at (i := 1361) (by decide +kernel) rfl
  | 24, _ => exact tW_at (i := 1363) (by decide +kernel) rfl
  | 25, _ => exact tW_at (i := 1365) (by decide +kernel) rfl
  | 26, _ => exact tW_at (i := 1367) (by decide +kernel) rfl
  | 27, _ => exact tW_at (i := 1369) (by decide +kernel) rfl
  | 28, _ => exact tW_at (i := 1371) (by decide +kernel) rfl
  | 29, _ => exact tW_at (i := 1373) (by decide +kernel) rfl
  | 30, _ => exact tW_at (i := 1375) (by decide +kernel) rfl
  | 31, _ => exact tW_at (i := 1377) (by decide +kernel) rfl
  | 32, _ => exact tW_at (i := 1379) (by decide +kernel) rfl
  | 33, _ => exact tW_at (i := 1381) (by decide +kernel) rfl
  | 34, _ => exact tW_at (i := 1383) (by decide +kernel) rfl
  | 35, _ => exact tW_at (i := 1385) (by decide +kernel) rfl
  | 36, _ => exact tW_at (i := 1387) (by decide +kernel) rfl
  | 37, _ => exact tW_at (i := 1389) (by decide +kernel) rfl
  | 38, _ => exact tW_at (i := 1391) (by decide +kernel) rfl
  | 39, _ => exact tW_at (i := 1393) (by decide +kernel) rfl
  | 40, _ => exact tW_at (i := 1395) (by decide +kernel) rfl
  | 41, _ => exact tW_at (i := 1397) (by decide +kernel) rfl
  | 42, _ => exact tW_at (i := 1399) (by decide +kernel) rfl
  | 43, _ => exact tW_at (i := 1401) (by decide +kernel) rfl
  | k + 44, h => exact absurd h (by omega)
abbrev CC : List vw_C := [(RC0, TC0, 5), (RC1, TC1, 3), (RC2, TC2, 4), (RC3, TC3, 2), (RC4, TC4, 8), (RC5, TC5, 13), (RC6, TC6, 4), (RC7, TC7, 11), (RC8, TC8, 8), (RC9, TC9, 9), (RC10, TC10, 9), (RC11, TC11, 44)]
/-- of each class, of each field: none, a number; else how far behind its object the cell lies that it holds -/
def FT : List (List (Option Nat)) := [[some 1, none, some 2, some 3, none],
  [some 1, some 2, none],
  [some 1, some 2, none, none],
  [some 1, some 2],
  [some 1, none, none, some 2, some 3, some 4, some 5, none],
  [some 1, some 7, some 9, none, none, some 11, some 12, none, none, none, none, none, none],
  [none, none, some 1, none],
  [some 1, some 7, some 8, none, none, none, none, none, none, none, none],
  [some 1, none, none, none, some 2, some 3, some 4, some 5],
  [none, none, none, none, some 1, some 2, some 3, some 4, some 5],
  [some 1, some 27, some 28, some 41, some 50, some 53, some 59, some 62, some 66],
  [some 1, some 2, none, none, none, none, none, none, none, none, none, some 3, none, none, none, none, some 4, some 5, some 6, some 7, some 8, some 9, some 10, some 11, some 12, some 13, some 14, some 15, some 16, some 17, some 18, none, none, none, none, none, none, some 19, some 20, some 21, some 22, none, some 23, none]]
def SH0 : List (Nat × Nat) := [(20, 9), (18, 8), (1, 600), (0, 3), (4, 2), (5, 2), (6, 2), (19, 9), (0, 6), (0, 6), (0, 4), (0, 4), (0, 48), (16, 4), (0, 200), (16, 4), (0, 24), (19, 9), (0, 6), (0, 6), (0, 4), (0, 4), (0, 48), (16, 4), (0, 200), (16, 4), (0, 24), (3, 3), (15, 13), (19, 9), (0, 6), (0, 6), (0, 4), (0, 4), (0, 48), (16, 4), (0, 200), (16, 4), (0, 24), (1, 600), (0, 4), (17, 11), (19, 9), (0, 6), (0, 6), (0, 4), (0, 4), (0, 48), (0, 4), (0, 8), (11, 3), (0, 8), (0, 64), (14, 8), (0, 4), (0, 168), (0, 168), (0, 168), (0, 8192), (13, 2), (0, 100), (0, 100), (10, 5), (0, 8), (0, 8), (0, 8), (12, 4), (0, 60), (0, 82), (21, 44), (0, 4824), (2, 3), (0, 201), (0, 5), (0, 5), (0, 5), (0, 5), (0, 4), (0, 8), (0, 256), (0, 6), (0, 20), (2, 1000), (2, 1000), (0, 8), (0, 2), (0, 64), (0, 2048), (0, 4), (0, 6), (0, 48), (0, 8), (0, 82)]
def SHT : List (Nat × Nat) := [(18, 8), (1, 600), (0, 3), (4, 2), (5, 2), (6, 2), (19, 9), (0, 6), (0, 6), (0, 4), (0, 4), (0, 48), (16, 4), (0, 200), (16, 4), (0, 24), (19, 9), (0, 6), (0, 6), (0, 4), (0, 4), (0, 48), (16, 4), (0, 200), (16, 4), (0, 24)]
