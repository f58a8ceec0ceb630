def TX0 : u_T := fun k => match k with
  | 0 => ("XorOverlay$Bucket", "numbers", "[I", true)
  | 1 => ("XorOverlay$Bucket", "misses", "[I", true)
  | 2 => ("XorOverlay$Bucket", "first", "I", false)
  | 3 => ("XorOverlay$Bucket", "size", "I", false)
  | 4 => ("XorOverlay$Bucket", "touched", "I", false)
  | _ => ("XorOverlay$Bucket", "count", "I", false)
def tyX0 : Nat → FieldType := fun k => match k with
  | 0 => (.array .int)
  | 1 => (.array .int)
  | 2 => .int
  | 3 => .int
  | 4 => .int
  | _ => .int
theorem nmX0 : ∀ a, a < 6 → ∀ b, b < 6 → a ≠ b → (TX0 a).2.1 ≠ (TX0 b).2.1 := by decide +kernel
theorem tyX0_ok : ∀ k, k < 6 → parseFieldDescriptor (TX0 k).2.2.1 = some (tyX0 k) := by decide +kernel
set_option maxRecDepth 20000 in
theorem inX0 : ∀ w ∈ u_ws "XorOverlay$Bucket" TX0 6, w ∈ tw_T := by
  intro w h
  obtain ⟨k, hk, rfl⟩ := List.mem_map.mp h
  have hk := List.mem_range.mp hk
  rcases (show k = 0 ∨ k = 1 ∨ k = 2 ∨ k = 3 ∨ k = 4 ∨ k = 5 by omega) with rfl | rfl | rfl | rfl | rfl | rfl
  · exact tw_1 112 rfl rfl
  · exact tw_1 114 rfl rfl
  · exact tw_1 116 rfl rfl
  · exact tw_1 118 rfl rfl
  · exact tw_1 120 rfl rfl
  · exact tw_1 122 rfl rfl
def TX1 : u_T := fun k => match k with
  | 0 => ("XorOverlay$Entries", "keys", "[I", true)
  | 1 => ("XorOverlay$Entries", "holders", "[I", true)
  | 2 => ("XorOverlay$Entries", "ends", "[I", true)
  | _ => ("XorOverlay$Entries", "count", "I", false)
def tyX1 : Nat → FieldType := fun k => match k with
  | 0 => (.array .int)
  | 1 => (.array .int)
  | 2 => (.array .int)
  | _ => .int
theorem nmX1 : ∀ a, a < 4 → ∀ b, b < 4 → a ≠ b → (TX1 a).2.1 ≠ (TX1 b).2.1 := by decide +kernel
theorem tyX1_ok : ∀ k, k < 4 → parseFieldDescriptor (TX1 k).2.2.1 = some (tyX1 k) := by decide +kernel
set_option maxRecDepth 20000 in
theorem inX1 : ∀ w ∈ u_ws "XorOverlay$Entries" TX1 4, w ∈ tw_T := by
  intro w h
  obtain ⟨k, hk, rfl⟩ := List.mem_map.mp h
  have hk := List.mem_range.mp hk
  rcases (show k = 0 ∨ k = 1 ∨ k = 2 ∨ k = 3 by omega) with rfl | rfl | rfl | rfl
  · exact tw_1 203 rfl rfl
  · exact tw_1 205 rfl rfl
  · exact tw_1 207 rfl rfl
  · exact tw_1 209 rfl rfl
def TX2 : u_T := fun k => match k with
  | 0 => ("XorOverlay$Line", "cells", "[I", true)
  | _ => ("XorOverlay$Line", "count", "I", false)
def tyX2 : Nat → FieldType := fun k => match k with
  | 0 => (.array .int)
  | _ => .int
theorem nmX2 : ∀ a, a < 2 → ∀ b, b < 2 → a ≠ b → (TX2 a).2.1 ≠ (TX2 b).2.1 := by decide +kernel
theorem tyX2_ok : ∀ k, k < 2 → parseFieldDescriptor (TX2 k).2.2.1 = some (tyX2 k) := by decide +kernel
set_option maxRecDepth 20000 in
theorem inX2 : ∀ w ∈ u_ws "XorOverlay$Line" TX2 2, w ∈ tw_T := by
  intro w h
  obtain ⟨k, hk, rfl⟩ := List.mem_map.mp h
  have hk := List.mem_range.mp hk
  rcases (show k = 0 ∨ k = 1 by omega) with rfl | rfl
  · exact tw_1 30 rfl rfl
  · exact tw_1 32 rfl rfl
def TX3 : u_T := fun k => match k with
  | 0 => ("XorOverlay$Lookup", "numbers", "[I", true)
  | 1 => ("XorOverlay$Lookup", "marks", "[I", true)
  | 2 => ("XorOverlay$Lookup", "askedAt", "[I", true)
  | 3 => ("XorOverlay$Lookup", "tokens", "[I", true)
  | 4 => ("XorOverlay$Lookup", "holders", "[I", true)
  | 5 => ("XorOverlay$Lookup", "stage", "I", false)
  | 6 => ("XorOverlay$Lookup", "kind", "I", false)
  | 7 => ("XorOverlay$Lookup", "target", "I", false)
  | 8 => ("XorOverlay$Lookup", "serial", "I", false)
  | 9 => ("XorOverlay$Lookup", "count", "I", false)
  | _ => ("XorOverlay$Lookup", "holderCount", "I", false)
def tyX3 : Nat → FieldType := fun k => match k with
  | 0 => (.array .int)
  | 1 => (.array .int)
  | 2 => (.array .int)
  | 3 => (.array .int)
  | 4 => (.array .int)
  | 5 => .int
  | 6 => .int
  | 7 => .int
  | 8 => .int
  | 9 => .int
  | _ => .int
theorem nmX3 : ∀ a, a < 11 → ∀ b, b < 11 → a ≠ b → (TX3 a).2.1 ≠ (TX3 b).2.1 := by decide +kernel
theorem tyX3_ok : ∀ k, k < 11 → parseFieldDescriptor (TX3 k).2.2.1 = some (tyX3 k) := by decide +kernel
set_option maxRecDepth 20000 in
theorem inX3 : ∀ w ∈ u_ws "XorOverlay$Lookup" TX3 11, w ∈ tw_T := by
  intro w h
  obtain ⟨k, hk, rfl⟩ := List.mem_map.mp h
  have hk := List.mem_range.mp hk
  rcases (show k = 0 ∨ k = 1 ∨ k = 2 ∨ k = 3 ∨ k = 4 ∨ k = 5 ∨ k = 6 ∨ k = 7 ∨ k = 8 ∨ k = 9 ∨ k = 10 by omega) with rfl | rfl | rfl | rfl | rfl | rfl | rfl | rfl | rfl | rfl | rfl
  · exact tw_1 165 rfl rfl
  · exact tw_1 167 rfl rfl
  · exact tw_1 169 rfl rfl
  · exact tw_1 171 rfl rfl
  · exact tw_1 173 rfl rfl
  · exact tw_1 175 rfl rfl
  · exact tw_1 177 rfl rfl
  · exact tw_1 179 rfl rfl
  · exact tw_1 181 rfl rfl
  · exact tw_1 183 rfl rfl
  · exact tw_1 185 rfl rfl
def TX4 : u_T := fun k => match k with
  | 0 => ("XorOverlay$Peer", "number", "I", true)
  | 1 => ("XorOverlay$Peer", "table", "LXorOverlay$Table;", true)
  | 2 => ("XorOverlay$Peer", "lookup", "LXorOverlay$Lookup;", true)
  | 3 => ("XorOverlay$Peer", "entries", "LXorOverlay$Entries;", true)
  | _ => ("XorOverlay$Peer", "up", "Z", false)
def tyX4 : Nat → FieldType := fun k => match k with
  | 0 => .int
  | 1 => (.object "XorOverlay$Table")
  | 2 => (.object "XorOverlay$Lookup")
  | 3 => (.object "XorOverlay$Entries")
  | _ => .boolean
theorem nmX4 : ∀ a, a < 5 → ∀ b, b < 5 → a ≠ b → (TX4 a).2.1 ≠ (TX4 b).2.1 := by decide +kernel
theorem tyX4_ok : ∀ k, k < 5 → parseFieldDescriptor (TX4 k).2.2.1 = some (tyX4 k) := by decide +kernel
set_option maxRecDepth 20000 in
theorem inX4 : ∀ w ∈ u_ws "XorOverlay$Peer" TX4 5, w ∈ tw_T := by
  intro w h
  obtain ⟨k, hk, rfl⟩ := List.mem_map.mp h
  have hk := List.mem_range.mp hk
  rcases (show k = 0 ∨ k = 1 ∨ k = 2 ∨ k = 3 ∨ k = 4 by omega) with rfl | rfl | rfl | rfl | rfl
  · exact tw_1 222 rfl rfl
  · exact tw_1 224 rfl rfl
  · exact tw_1 226 rfl rfl
  · exact tw_1 228 rfl rfl
  · exact tw_1 230 rfl rfl
def TX5 : u_T := fun k => match k with
  | 0 => ("XorOverlay$Table", "owner", "I", true)
  | 1 => ("XorOverlay$Table", "rows", "[LXorOverlay$Bucket;", true)
  | _ => ("XorOverlay$Table", "count", "I", false)
def tyX5 : Nat → FieldType := fun k => match k with
  | 0 => .int
  | 1 => (.array (.object "XorOverlay$Bucket"))
  | _ => .int
theorem nmX5 : ∀ a, a < 3 → ∀ b, b < 3 → a ≠ b → (TX5 a).2.1 ≠ (TX5 b).2.1 := by decide +kernel
theorem tyX5_ok : ∀ k, k < 3 → parseFieldDescriptor (TX5 k).2.2.1 = some (tyX5 k) := by decide +kernel
set_option maxRecDepth 20000 in
theorem inX5 : ∀ w ∈ u_ws "XorOverlay$Table" TX5 3, w ∈ tw_T := by
  intro w h
  obtain ⟨k, hk, rfl⟩ := List.mem_map.mp h
  have hk := List.mem_range.mp hk
  rcases (show k = 0 ∨ k = 1 ∨ k = 2 by omega) with rfl | rfl | rfl
  · exact tw_1 130 rfl rfl
  · exact tw_1 132 rfl rfl
  · exact tw_1 134 rfl rfl
def TX6 : u_T := fun k => match k with
  | 0 => ("XorOverlay", "peers", "[LXorOverlay$Peer;", true)
  | 1 => ("XorOverlay", "line", "LXorOverlay$Line;", true)
  | 2 => ("XorOverlay", "draft", "[I", true)
  | 3 => ("XorOverlay", "taken", "[I", true)
  | 4 => ("XorOverlay", "enrolled", "I", false)
  | 5 => ("XorOverlay", "now", "I", false)
  | _ => ("XorOverlay", "lastSerial", "I", false)
def tyX6 : Nat → FieldType := fun k => match k with
  | 0 => (.array (.object "XorOverlay$Peer"))
  | 1 => (.object "XorOverlay$Line")
  | 2 => (.array .int)
  | 3 => (.array .int)
  | 4 => .int
  | 5 => .int
  | _ => .int
theorem nmX6 : ∀ a, a < 7 → ∀ b, b < 7 → a ≠ b → (TX6 a).2.1 ≠ (TX6 b).2.1 := by decide +kernel
theorem tyX6_ok : ∀ k, k < 7 → parseFieldDescriptor (TX6 k).2.2.1 = some (tyX6 k) := by decide +kernel
set_option maxRecDepth 20000 in
theorem inX6 : ∀ w ∈ u_ws "XorOverlay" TX6 7, w ∈ tw_T := by
  intro w h
  obtain ⟨k, hk, rfl⟩ := List.mem_map.mp h
  have hk := List.mem_range.mp hk
  rcases (show k = 0 ∨ k = 1 ∨ k = 2 ∨ k = 3 ∨ k = 4 ∨ k = 5 ∨ k = 6 by omega) with rfl | rfl | rfl | rfl | rfl | rfl | rfl
  · exact tw_1 43 rfl rfl
  · exact tw_1 45 rfl rfl
  · exact tw_1 47 rfl rfl
  · exact tw_1 49 rfl rfl
  · exact tw_1 51 rfl rfl
  · exact tw_1 53 rfl rfl
  · exact tw_1 55 rfl rfl
def TX7 : u_T := fun k => match k with
  | 0 => ("XorOverlayModel", "clock", "I", false)
  | 1 => ("XorOverlayModel", "serials", "I", false)
  | 2 => ("XorOverlayModel", "stamps", "I", false)
  | 3 => ("XorOverlayModel", "count", "I", false)
  | 4 => ("XorOverlayModel", "id", "[I", false)
  | 5 => ("XorOverlayModel", "up", "[Z", false)
  | 6 => ("XorOverlayModel", "member", "[Z", false)
  | 7 => ("XorOverlayModel", "stamp", "[I", false)
  | 8 => ("XorOverlayModel", "misses", "[I", false)
  | 9 => ("XorOverlayModel", "splits", "[I", false)
  | 10 => ("XorOverlayModel", "touched", "[I", false)
  | 11 => ("XorOverlayModel", "entries", "[I", false)
  | 12 => ("XorOverlayModel", "key", "[I", false)
  | 13 => ("XorOverlayModel", "holder", "[I", false)
  | 14 => ("XorOverlayModel", "until", "[I", false)
  | 15 => ("XorOverlayModel", "going", "[I", false)
  | 16 => ("XorOverlayModel", "kind", "[I", false)
  | 17 => ("XorOverlayModel", "goal", "[I", false)
  | 18 => ("XorOverlayModel", "serial", "[I", false)
  | 19 => ("XorOverlayModel", "state", "[I", false)
  | 20 => ("XorOverlayModel", "asked", "[I", false)
  | 21 => ("XorOverlayModel", "token", "[I", false)
  | 22 => ("XorOverlayModel", "founds", "[I", false)
  | 23 => ("XorOverlayModel", "find", "[I", false)
  | 24 => ("XorOverlayModel", "lines", "I", false)
  | 25 => ("XorOverlayModel", "line", "[I", false)
  | _ => ("XorOverlayModel", "now", "[I", false)
def tyX7 : Nat → FieldType := fun k => match k with
  | 0 => .int
  | 1 => .int
  | 2 => .int
  | 3 => .int
  | 4 => (.array .int)
  | 5 => (.array .boolean)
  | 6 => (.array .boolean)
  | 7 => (.array .int)
  | 8 => (.array .int)
  | 9 => (.array .int)
  | 10 => (.array .int)
  | 11 => (.array .int)
  | 12 => (.array .int)
  | 13 => (.array .int)
  | 14 => (.array .int)
  | 15 => (.array .int)
  | 16 => (.array .int)
  | 17 => (.array .int)
  | 18 => (.array .int)
  | 19 => (.array .int)
  | 20 => (.array .int)
  | 21 => (.array .int)
  | 22 => (.array .int)
  | 23 => (.array .int)
  | 24 => .int
  | 25 => (.array .int)
  | _ => (.array .int)
theorem nmX7 : ∀ a, a < 27 → ∀ b, b < 27 → a ≠ b → (TX7 a).2.1 ≠ (TX7 b).2.1 := by decide +kernel
theorem tyX7_ok : ∀ k, k < 27 → parseFieldDescriptor (TX7 k).2.2.1 = some (tyX7 k) := by decide +kernel
set_option maxRecDepth 20000 in
theorem inX7 : ∀ w ∈ u_ws "XorOverlayModel" TX7 27, w ∈ tw_T := by
  intro w h
  obtain ⟨k, hk, rfl⟩ := List.mem_map.mp h
  have hk := List.mem_range.mp hk
  rcases (show k = 0 ∨ k = 1 ∨ k = 2 ∨ k = 3 ∨ k = 4 ∨ k = 5 ∨ k = 6 ∨ k = 7 ∨ k = 8 ∨ k = 9 ∨ k = 10 ∨ k = 11 ∨ k = 12 ∨ k = 13 ∨ k = 14 ∨ k = 15 ∨ k = 16 ∨ k = 17 ∨ k = 18 ∨ k = 19 ∨ k = 20 ∨ k = 21 ∨ k = 22 ∨ k = 23 ∨ k = 24 ∨ k = 25 ∨ k = 26 by omega) with rfl | rfl | rfl | rfl | rfl | rfl | rfl | rfl | rfl | rfl | rfl | rfl | rfl | rfl | rfl | rfl | rfl | rfl | rfl | rfl | rfl | rfl | rfl | rfl | rfl | rfl | rfl
  · exact tw_3 56 rfl rfl
  · exact tw_3 58 rfl rfl
  · exact tw_3 60 rfl rfl
  · exact tw_3 62 rfl rfl
  · exact tw_3 64 rfl rfl
  · exact tw_3 66 rfl rfl
  · exact tw_3 68 rfl rfl
  · exact tw_3 70 rfl rfl
  · exact tw_3 72 rfl rfl
  · exact tw_3 74 rfl rfl
  · exact tw_3 76 rfl rfl
  · exact tw_3 78 rfl rfl
  · exact tw_3 80 rfl rfl
  · exact tw_3 82 rfl rfl
  · exact tw_3 84 rfl rfl
  · exact tw_3 86 rfl rfl
  · exact tw_3 88 rfl rfl
  · exact tw_3 90 rfl rfl
  · exact tw_3 92 rfl rfl
  · exact tw_3 94 rfl rfl
  · exact tw_3 96 rfl rfl
  · exact tw_3 98 rfl rfl
  · exact tw_3 100 rfl rfl
  · exact tw_3 102 rfl rfl
  · exact tw_3 104 rfl rfl
  · exact tw_3 106 rfl rfl
  · exact tw_3 108 rfl rfl
abbrev vwCl : List vw_C := [("XorOverlay$Bucket", TX0, 6), ("XorOverlay$Entries", TX1, 4), ("XorOverlay$Line", TX2, 2), ("XorOverlay$Lookup", TX3, 11), ("XorOverlay$Peer", TX4, 5), ("XorOverlay$Table", TX5, 3), ("XorOverlay", TX6, 7), ("XorOverlayModel", TX7, 27)]
def mm_tab : Nat → List Bool := fun ci => match ci with
  | 0 => [true, true, false, false, false, false]
  | 1 => [true, true, true, false]
  | 2 => [true, false]
  | 3 => [true, true, true, true, true, false, false, false, false, false, false]
  | 4 => [false, true, true, true, false]
  | 5 => [false, true, false]
  | 6 => [true, true, true, true, false, false, false]
  | 7 => [false, false, false, false, true, true, true, true, true, true, true, true, true, true, true, true, true, true, true, true, true, true, true, true, false, true, true]
  | _ => []
def mm_tys (cs : Nat → ClassId) : List (ClassId × FieldType) := [(cs 0, .int), (cs 1, .boolean), (cs 2, .object "XorOverlay$Peer"), (cs 3, .object "XorOverlay$Bucket")]
theorem dfX0 : ∀ j, j < 6 → defaultValue (tyX0 j) = if (mm_tab 0).getD j false = true then Value.null else .int 0 := by
  intro j hj
  rcases (show j = 0 ∨ j = 1 ∨ j = 2 ∨ j = 3 ∨ j = 4 ∨ j = 5 by omega) with rfl | rfl | rfl | rfl | rfl | rfl <;> rfl
theorem dfX1 : ∀ j, j < 4 → defaultValue (tyX1 j) = if (mm_tab 1).getD j false = true then Value.null else .int 0 := by
  intro j hj
  rcases (show j = 0 ∨ j = 1 ∨ j = 2 ∨ j = 3 by omega) with rfl | rfl | rfl | rfl <;> rfl
theorem dfX2 : ∀ j, j < 2 → defaultValue (tyX2 j) = if (mm_tab 2).getD j false = true then Value.null else .int 0 := by
  intro j hj
  rcases (show j = 0 ∨ j = 1 by omega) with rfl | rfl <;> rfl
theorem dfX3 : ∀ j, j < 11 → defaultValue (tyX3 j) = if (mm_tab 3).getD j false = true then Value.null else .int 0 := by
  intro j hj
  rcases (show j = 0 ∨ j = 1 ∨ j = 2 ∨ j = 3 ∨ j = 4 ∨ j = 5 ∨ j = 6 ∨ j = 7 ∨ j = 8 ∨ j = 9 ∨ j = 10 by omega) with rfl | rfl | rfl | rfl | rfl | rfl | rfl | rfl | rfl | rfl | rfl <;> rfl
theorem dfX4 : ∀ j, j < 5 → defaultValue (tyX4 j) = if (mm_tab 4).getD j false = true then Value.null else .int 0 := by
  intro j hj
  rcases (show j = 0 ∨ j = 1 ∨ j = 2 ∨ j = 3 ∨ j = 4 by omega) with rfl | rfl | rfl | rfl | rfl <;> rfl
theorem dfX5 : ∀ j, j < 3 → defaultValue (tyX5 j) = if (mm_tab 5).getD j false = true then Value.null else .int 0 := by
  intro j hj
  rcases (show j = 0 ∨ j = 1 ∨ j = 2 by omega) with rfl | rfl | rfl <;> rfl
theorem dfX6 : ∀ j, j < 7 → defaultValue (tyX6 j) = if (mm_tab 6).getD j false = true then Value.null else .int 0 := by
  intro j hj
  rcases (show j = 0 ∨ j = 1 ∨ j = 2 ∨ j = 3 ∨ j = 4 ∨ j = 5 ∨ j = 6 by omega) with rfl | rfl | rfl | rfl | rfl | rfl | rfl <;> rfl
theorem dfX7 : ∀ j, j < 27 → defaultValue (tyX7 j) = if (mm_tab 7).getD j false = true then Value.null else .int 0 := by
  intro j hj
  rcases (show j = 0 ∨ j = 1 ∨ j = 2 ∨ j = 3 ∨ j = 4 ∨ j = 5 ∨ j = 6 ∨ j = 7 ∨ j = 8 ∨ j = 9 ∨ j = 10 ∨ j = 11 ∨ j = 12 ∨ j = 13 ∨ j = 14 ∨ j = 15 ∨ j = 16 ∨ j = 17 ∨ j = 18 ∨ j = 19 ∨ j = 20 ∨ j = 21 ∨ j = 22 ∨ j = 23 ∨ j = 24 ∨ j = 25 ∨ j = 26 by omega) with rfl | rfl | rfl | rfl | rfl | rfl | rfl | rfl | rfl | rfl | rfl | rfl | rfl | rfl | rfl | rfl | rfl | rfl | rfl | rfl | rfl | rfl | rfl | rfl | rfl | rfl | rfl <;> rfl
