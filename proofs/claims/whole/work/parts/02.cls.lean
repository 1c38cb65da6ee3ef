/-! classes, fields, methods by number; the words that speak of them, by their places in lw_tbl (written by tools/gen2.py) -/
def am_cn : Nat → String := fun k => match k with
  | 0 => "BoxNest$Balance"
  | 1 => "BoxNest$Bounds"
  | 2 => "BoxNest$Box"
  | 3 => "BoxNest$Cutter"
  | 4 => "BoxNest$Edges"
  | 5 => "BoxNest$Hold"
  | 6 => "BoxNest$Orders"
  | 7 => "BoxNest$Truck"
  | 8 => "BoxNest"
  | 9 => "BoxNestModel"
  | 10 => "BoxNestLaw"
  | 11 => "java/lang/Integer"
  | 12 => "java/lang/Math"
  | 13 => "java/util/Arrays"
  | _ => ""
def am_F0 : u_T := fun k => match k with
  | 0 => ("BoxNest$Balance", "weight", "I", false)
  | 1 => ("BoxNest$Balance", "lever", "I", false)
  | 2 => ("BoxNest$Balance", "sideLever", "I", false)
  | _ => ("BoxNest$Balance", "below", "I", false)
def am_t0 : Nat → FieldType := fun k => match k with
  | 0 => .int
  | 1 => .int
  | 2 => .int
  | _ => .int
def am_F1 : u_T := fun k => match k with
  | 0 => ("BoxNest$Bounds", "judged", "Z", false)
  | 1 => ("BoxNest$Bounds", "byVolume", "I", false)
  | 2 => ("BoxNest$Bounds", "byBig", "I", false)
  | 3 => ("BoxNest$Bounds", "bigOnes", "I", false)
  | 4 => ("BoxNest$Bounds", "leastLength", "[I", true)
  | 5 => ("BoxNest$Bounds", "leastWidth", "[I", true)
  | _ => ("BoxNest$Bounds", "apart", "[I", true)
def am_t1 : Nat → FieldType := fun k => match k with
  | 0 => .boolean
  | 1 => .int
  | 2 => .int
  | 3 => .int
  | 4 => .array .int
  | 5 => .array .int
  | _ => .array .int
def am_F2 : u_T := fun k => match k with
  | 0 => ("BoxNest$Box", "length", "I", false)
  | 1 => ("BoxNest$Box", "width", "I", false)
  | 2 => ("BoxNest$Box", "height", "I", false)
  | 3 => ("BoxNest$Box", "weight", "I", false)
  | 4 => ("BoxNest$Box", "bears", "I", false)
  | 5 => ("BoxNest$Box", "drop", "I", false)
  | 6 => ("BoxNest$Box", "turns", "Z", false)
  | 7 => ("BoxNest$Box", "worth", "I", false)
  | 8 => ("BoxNest$Box", "x", "I", false)
  | 9 => ("BoxNest$Box", "y", "I", false)
  | 10 => ("BoxNest$Box", "z", "I", false)
  | 11 => ("BoxNest$Box", "endX", "I", false)
  | 12 => ("BoxNest$Box", "endY", "I", false)
  | 13 => ("BoxNest$Box", "top", "I", false)
  | _ => ("BoxNest$Box", "turned", "Z", false)
def am_t2 : Nat → FieldType := fun k => match k with
  | 0 => .int
  | 1 => .int
  | 2 => .int
  | 3 => .int
  | 4 => .int
  | 5 => .int
  | 6 => .boolean
  | 7 => .int
  | 8 => .int
  | 9 => .int
  | 10 => .int
  | 11 => .int
  | 12 => .int
  | 13 => .int
  | _ => .boolean
def am_F3 : u_T := fun k => match k with
  | 0 => ("BoxNest$Cutter", "worths", "[I", true)
  | 1 => ("BoxNest$Cutter", "pattern", "[I", true)
  | 2 => ("BoxNest$Cutter", "known", "I", false)
  | 3 => ("BoxNest$Cutter", "latest", "I", false)
  | _ => ("BoxNest$Cutter", "pieces", "I", false)
def am_t3 : Nat → FieldType := fun k => match k with
  | 0 => .array .int
  | 1 => .array .int
  | 2 => .int
  | 3 => .int
  | _ => .int
def am_F4 : u_T := fun k => match k with
  | 0 => ("BoxNest$Edges", "place", "[I", true)
  | 1 => ("BoxNest$Edges", "straight", "[I", true)
  | 2 => ("BoxNest$Edges", "turned", "[I", true)
  | _ => ("BoxNest$Edges", "size", "I", false)
def am_t4 : Nat → FieldType := fun k => match k with
  | 0 => .array .int
  | 1 => .array .int
  | 2 => .array .int
  | _ => .int
def am_F5 : u_T := fun k => match k with
  | 0 => ("BoxNest$Hold", "truck", "LBoxNest$Truck;", true)
  | 1 => ("BoxNest$Hold", "boxes", "[LBoxNest$Box;", true)
  | 2 => ("BoxNest$Hold", "told", "I", false)
  | 3 => ("BoxNest$Hold", "in", "I", false)
  | 4 => ("BoxNest$Hold", "loads", "[I", true)
  | 5 => ("BoxNest$Hold", "areas", "[I", true)
  | 6 => ("BoxNest$Hold", "alongX", "LBoxNest$Edges;", true)
  | 7 => ("BoxNest$Hold", "alongY", "LBoxNest$Edges;", true)
  | 8 => ("BoxNest$Hold", "alongZ", "LBoxNest$Edges;", true)
  | 9 => ("BoxNest$Hold", "commonX", "I", false)
  | 10 => ("BoxNest$Hold", "commonY", "I", false)
  | 11 => ("BoxNest$Hold", "commonZ", "I", false)
  | _ => ("BoxNest$Hold", "allBorne", "Z", false)
def am_t5 : Nat → FieldType := fun k => match k with
  | 0 => .object "BoxNest$Truck"
  | 1 => .array (.object "BoxNest$Box")
  | 2 => .int
  | 3 => .int
  | 4 => .array .int
  | 5 => .array .int
  | 6 => .object "BoxNest$Edges"
  | 7 => .object "BoxNest$Edges"
  | 8 => .object "BoxNest$Edges"
  | 9 => .int
  | 10 => .int
  | 11 => .int
  | _ => .boolean
def am_F6 : u_T := fun k => match k with
  | 0 => ("BoxNest$Orders", "row", "[I", true)
  | 1 => ("BoxNest$Orders", "bestRow", "[I", true)
  | 2 => ("BoxNest$Orders", "bestSize", "I", false)
  | 3 => ("BoxNest$Orders", "bestPlaced", "I", false)
  | _ => ("BoxNest$Orders", "bestReach", "I", false)
def am_t6 : Nat → FieldType := fun k => match k with
  | 0 => .array .int
  | 1 => .array .int
  | 2 => .int
  | 3 => .int
  | _ => .int
def am_F7 : u_T := fun k => match k with
  | 0 => ("BoxNest$Truck", "length", "I", false)
  | 1 => ("BoxNest$Truck", "width", "I", false)
  | 2 => ("BoxNest$Truck", "height", "I", false)
  | 3 => ("BoxNest$Truck", "share", "I", false)
  | 4 => ("BoxNest$Truck", "first", "I", false)
  | 5 => ("BoxNest$Truck", "second", "I", false)
  | 6 => ("BoxNest$Truck", "frontLimit", "I", false)
  | 7 => ("BoxNest$Truck", "rearLimit", "I", false)
  | _ => ("BoxNest$Truck", "sideLimit", "I", false)
def am_t7 : Nat → FieldType := fun k => match k with
  | 0 => .int
  | 1 => .int
  | 2 => .int
  | 3 => .int
  | 4 => .int
  | 5 => .int
  | 6 => .int
  | 7 => .int
  | _ => .int
def am_F8 : u_T := fun k => match k with
  | 0 => ("BoxNest", "hold", "LBoxNest$Hold;", true)
  | 1 => ("BoxNest", "orders", "LBoxNest$Orders;", true)
  | 2 => ("BoxNest", "balance", "LBoxNest$Balance;", true)
  | 3 => ("BoxNest", "bounds", "LBoxNest$Bounds;", true)
  | _ => ("BoxNest", "cutter", "LBoxNest$Cutter;", false)
def am_t8 : Nat → FieldType := fun k => match k with
  | 0 => .object "BoxNest$Hold"
  | 1 => .object "BoxNest$Orders"
  | 2 => .object "BoxNest$Balance"
  | 3 => .object "BoxNest$Bounds"
  | _ => .object "BoxNest$Cutter"
def am_F9 : u_T := fun k => match k with
  | 0 => ("BoxNestModel", "boxes", "I", false)
  | 1 => ("BoxNestModel", "length", "[I", true)
  | 2 => ("BoxNestModel", "width", "[I", true)
  | 3 => ("BoxNestModel", "height", "[I", true)
  | 4 => ("BoxNestModel", "weight", "[I", true)
  | 5 => ("BoxNestModel", "bears", "[I", true)
  | 6 => ("BoxNestModel", "drop", "[I", true)
  | 7 => ("BoxNestModel", "turns", "[Z", true)
  | 8 => ("BoxNestModel", "value", "[I", true)
  | 9 => ("BoxNestModel", "isIn", "[Z", true)
  | 10 => ("BoxNestModel", "px", "[I", true)
  | 11 => ("BoxNestModel", "py", "[I", true)
  | 12 => ("BoxNestModel", "pz", "[I", true)
  | 13 => ("BoxNestModel", "turned", "[Z", true)
  | 14 => ("BoxNestModel", "truckLength", "I", false)
  | 15 => ("BoxNestModel", "truckWidth", "I", false)
  | 16 => ("BoxNestModel", "truckHeight", "I", false)
  | 17 => ("BoxNestModel", "shares", "I", false)
  | 18 => ("BoxNestModel", "firstAxle", "I", false)
  | 19 => ("BoxNestModel", "secondAxle", "I", false)
  | 20 => ("BoxNestModel", "frontLimit", "I", false)
  | 21 => ("BoxNestModel", "rearLimit", "I", false)
  | 22 => ("BoxNestModel", "sides", "I", false)
  | 23 => ("BoxNestModel", "load", "[I", true)
  | 24 => ("BoxNestModel", "bestOrder", "I", false)
  | 25 => ("BoxNestModel", "bestIn", "I", false)
  | 26 => ("BoxNestModel", "bestEnd", "I", false)
  | 27 => ("BoxNestModel", "most", "[I", true)
  | 28 => ("BoxNestModel", "pieces", "I", false)
  | 29 => ("BoxNestModel", "pieceBox", "[I", true)
  | 30 => ("BoxNestModel", "pieceX", "[I", true)
  | 31 => ("BoxNestModel", "pieceY", "[I", true)
  | 32 => ("BoxNestModel", "pieceZ", "[I", true)
  | 33 => ("BoxNestModel", "pieceTurned", "[Z", true)
  | 34 => ("BoxNestModel", "apart", "[I", true)
  | 35 => ("BoxNestModel", "bigMost", "I", false)
  | 36 => ("BoxNestModel", "bigSet", "I", false)
  | 37 => ("BoxNestModel", "toldVolumes", "I", false)
  | 38 => ("BoxNestModel", "toldBig", "I", false)
  | _ => ("BoxNestModel", "toldSet", "I", false)
def am_t9 : Nat → FieldType := fun k => match k with
  | 0 => .int
  | 1 => .array .int
  | 2 => .array .int
  | 3 => .array .int
  | 4 => .array .int
  | 5 => .array .int
  | 6 => .array .int
  | 7 => .array .boolean
  | 8 => .array .int
  | 9 => .array .boolean
  | 10 => .array .int
  | 11 => .array .int
  | 12 => .array .int
  | 13 => .array .boolean
  | 14 => .int
  | 15 => .int
  | 16 => .int
  | 17 => .int
  | 18 => .int
  | 19 => .int
  | 20 => .int
  | 21 => .int
  | 22 => .int
  | 23 => .array .int
  | 24 => .int
  | 25 => .int
  | 26 => .int
  | 27 => .array .int
  | 28 => .int
  | 29 => .array .int
  | 30 => .array .int
  | 31 => .array .int
  | 32 => .array .int
  | 33 => .array .boolean
  | 34 => .array .int
  | 35 => .int
  | 36 => .int
  | 37 => .int
  | 38 => .int
  | _ => .int
def am_cls : List vw_C := [("BoxNest$Balance", am_F0, 4), ("BoxNest$Bounds", am_F1, 7), ("BoxNest$Box", am_F2, 15), ("BoxNest$Cutter", am_F3, 5), ("BoxNest$Edges", am_F4, 4), ("BoxNest$Hold", am_F5, 13), ("BoxNest$Orders", am_F6, 5), ("BoxNest$Truck", am_F7, 9), ("BoxNest", am_F8, 5), ("BoxNestModel", am_F9, 40)]
def am_F : Nat → u_T := fun ci => match ci with
  | 0 => am_F0
  | 1 => am_F1
  | 2 => am_F2
  | 3 => am_F3
  | 4 => am_F4
  | 5 => am_F5
  | 6 => am_F6
  | 7 => am_F7
  | 8 => am_F8
  | _ => am_F9
def am_fty : Nat → Nat → FieldType := fun ci => match ci with
  | 0 => am_t0
  | 1 => am_t1
  | 2 => am_t2
  | 3 => am_t3
  | 4 => am_t4
  | 5 => am_t5
  | 6 => am_t6
  | 7 => am_t7
  | 8 => am_t8
  | _ => am_t9
def am_N : Nat → Nat := fun ci => match ci with
  | 0 => 4
  | 1 => 7
  | 2 => 15
  | 3 => 5
  | 4 => 4
  | 5 => 13
  | 6 => 5
  | 7 => 9
  | 8 => 5
  | _ => 40
theorem am_u0 : u_ws "BoxNest$Balance" am_F0 4 = ([339, 341, 343, 345] : List Nat).filterMap (fun i => lw_tbl[i]?) := by decide +kernel
theorem am_ty0 : ∀ k, k < 4 → parseFieldDescriptor (am_F0 k).2.2.1 = some (am_t0 k) := by decide +kernel
theorem am_nm0 : ∀ a, a < 4 → ∀ b, b < 4 → a ≠ b → (am_F0 a).2.1 ≠ (am_F0 b).2.1 := by decide +kernel
theorem am_in0 : lw_tbl[329]? = some (Cond.instantiable "BoxNest$Balance" 4) ∧ lw_tbl[62]? = some (Cond.initialized "BoxNest$Balance") := by decide +kernel
theorem am_u1 : u_ws "BoxNest$Bounds" am_F1 7 = ([365, 367, 369, 371, 373, 375, 377] : List Nat).filterMap (fun i => lw_tbl[i]?) := by decide +kernel
theorem am_ty1 : ∀ k, k < 7 → parseFieldDescriptor (am_F1 k).2.2.1 = some (am_t1 k) := by decide +kernel
theorem am_nm1 : ∀ a, a < 7 → ∀ b, b < 7 → a ≠ b → (am_F1 a).2.1 ≠ (am_F1 b).2.1 := by decide +kernel
theorem am_in1 : lw_tbl[349]? = some (Cond.instantiable "BoxNest$Bounds" 7) ∧ lw_tbl[63]? = some (Cond.initialized "BoxNest$Bounds") := by decide +kernel
theorem am_u2 : u_ws "BoxNest$Box" am_F2 15 = ([220, 222, 224, 226, 228, 230, 232, 234, 236, 238, 240, 242, 244, 246, 248] : List Nat).filterMap (fun i => lw_tbl[i]?) := by decide +kernel
theorem am_ty2 : ∀ k, k < 15 → parseFieldDescriptor (am_F2 k).2.2.1 = some (am_t2 k) := by decide +kernel
theorem am_nm2 : ∀ a, a < 15 → ∀ b, b < 15 → a ≠ b → (am_F2 a).2.1 ≠ (am_F2 b).2.1 := by decide +kernel
theorem am_in2 : lw_tbl[166]? = some (Cond.instantiable "BoxNest$Box" 15) ∧ lw_tbl[60]? = some (Cond.initialized "BoxNest$Box") := by decide +kernel
theorem am_u3 : u_ws "BoxNest$Cutter" am_F3 5 = ([665, 667, 669, 671, 673] : List Nat).filterMap (fun i => lw_tbl[i]?) := by decide +kernel
theorem am_ty3 : ∀ k, k < 5 → parseFieldDescriptor (am_F3 k).2.2.1 = some (am_t3 k) := by decide +kernel
theorem am_nm3 : ∀ a, a < 5 → ∀ b, b < 5 → a ≠ b → (am_F3 a).2.1 ≠ (am_F3 b).2.1 := by decide +kernel
theorem am_in3 : lw_tbl[655]? = some (Cond.instantiable "BoxNest$Cutter" 5) ∧ lw_tbl[68]? = some (Cond.initialized "BoxNest$Cutter") := by decide +kernel
theorem am_u4 : u_ws "BoxNest$Edges" am_F4 4 = ([156, 158, 160, 162] : List Nat).filterMap (fun i => lw_tbl[i]?) := by decide +kernel
theorem am_ty4 : ∀ k, k < 4 → parseFieldDescriptor (am_F4 k).2.2.1 = some (am_t4 k) := by decide +kernel
theorem am_nm4 : ∀ a, a < 4 → ∀ b, b < 4 → a ≠ b → (am_F4 a).2.1 ≠ (am_F4 b).2.1 := by decide +kernel
theorem am_in4 : lw_tbl[143]? = some (Cond.instantiable "BoxNest$Edges" 4) ∧ lw_tbl[59]? = some (Cond.initialized "BoxNest$Edges") := by decide +kernel
theorem am_u5 : u_ws "BoxNest$Hold" am_F5 13 = ([276, 278, 280, 282, 284, 286, 288, 290, 292, 294, 296, 298, 300] : List Nat).filterMap (fun i => lw_tbl[i]?) := by decide +kernel
theorem am_ty5 : ∀ k, k < 13 → parseFieldDescriptor (am_F5 k).2.2.1 = some (am_t5 k) := by decide +kernel
theorem am_nm5 : ∀ a, a < 13 → ∀ b, b < 13 → a ≠ b → (am_F5 a).2.1 ≠ (am_F5 b).2.1 := by decide +kernel
theorem am_in5 : lw_tbl[78]? = some (Cond.instantiable "BoxNest$Hold" 13) ∧ lw_tbl[57]? = some (Cond.initialized "BoxNest$Hold") := by decide +kernel
theorem am_u6 : u_ws "BoxNest$Orders" am_F6 5 = ([317, 319, 321, 323, 325] : List Nat).filterMap (fun i => lw_tbl[i]?) := by decide +kernel
theorem am_ty6 : ∀ k, k < 5 → parseFieldDescriptor (am_F6 k).2.2.1 = some (am_t6 k) := by decide +kernel
theorem am_nm6 : ∀ a, a < 5 → ∀ b, b < 5 → a ≠ b → (am_F6 a).2.1 ≠ (am_F6 b).2.1 := by decide +kernel
theorem am_in6 : lw_tbl[304]? = some (Cond.instantiable "BoxNest$Orders" 5) ∧ lw_tbl[61]? = some (Cond.initialized "BoxNest$Orders") := by decide +kernel
theorem am_u7 : u_ws "BoxNest$Truck" am_F7 9 = ([121, 123, 125, 127, 129, 131, 133, 135, 137] : List Nat).filterMap (fun i => lw_tbl[i]?) := by decide +kernel
theorem am_ty7 : ∀ k, k < 9 → parseFieldDescriptor (am_F7 k).2.2.1 = some (am_t7 k) := by decide +kernel
theorem am_nm7 : ∀ a, a < 9 → ∀ b, b < 9 → a ≠ b → (am_F7 a).2.1 ≠ (am_F7 b).2.1 := by decide +kernel
theorem am_in7 : lw_tbl[84]? = some (Cond.instantiable "BoxNest$Truck" 9) ∧ lw_tbl[58]? = some (Cond.initialized "BoxNest$Truck") := by decide +kernel
theorem am_u8 : u_ws "BoxNest" am_F8 5 = ([385, 387, 389, 391, 393] : List Nat).filterMap (fun i => lw_tbl[i]?) := by decide +kernel
theorem am_ty8 : ∀ k, k < 5 → parseFieldDescriptor (am_F8 k).2.2.1 = some (am_t8 k) := by decide +kernel
theorem am_nm8 : ∀ a, a < 5 → ∀ b, b < 5 → a ≠ b → (am_F8 a).2.1 ≠ (am_F8 b).2.1 := by decide +kernel
theorem am_in8 : lw_tbl[70]? = some (Cond.instantiable "BoxNest" 5) ∧ lw_tbl[56]? = some (Cond.initialized "BoxNest") := by decide +kernel
theorem am_u9 : u_ws "BoxNestModel" am_F9 40 = ([827, 829, 831, 833, 835, 837, 839, 841, 843, 845, 847, 849, 851, 853, 855, 857, 859, 861, 863, 865, 867, 869, 871, 873, 875, 877, 879, 881, 883, 885, 887, 889, 891, 893, 895, 897, 899, 901, 903, 905] : List Nat).filterMap (fun i => lw_tbl[i]?) := by decide +kernel
theorem am_ty9 : ∀ k, k < 40 → parseFieldDescriptor (am_F9 k).2.2.1 = some (am_t9 k) := by decide +kernel
theorem am_nm9 : ∀ a, a < 40 → ∀ b, b < 40 → a ≠ b → (am_F9 a).2.1 ≠ (am_F9 b).2.1 := by decide +kernel
theorem am_in9 : lw_tbl[781]? = some (Cond.instantiable "BoxNestModel" 40) ∧ lw_tbl[64]? = some (Cond.initialized "BoxNestModel") := by decide +kernel
theorem am_mem {ws : List Cond} {ps : List Nat} (h : ws = ps.filterMap (fun i => lw_tbl[i]?)) : ∀ w ∈ ws, w ∈ lw_tbl := by
  intro w hw
  rw [h] at hw
  obtain ⟨i, -, hi⟩ := List.mem_filterMap.mp hw
  exact List.mem_of_getElem? hi
/-- what is known of a class of the table -/
def am_okC (ci : Nat) (q : vw_C) : Prop := q = (am_cn ci, am_F ci, am_N ci) ∧ (∀ w ∈ u_ws q.1 q.2.1 q.2.2, w ∈ lw_tbl) ∧ (∀ k, k < q.2.2 → parseFieldDescriptor (q.2.1 k).2.2.1 = some (am_fty ci k)) ∧ (∀ a, a < q.2.2 → ∀ b, b < q.2.2 → a ≠ b → (q.2.1 a).2.1 ≠ (q.2.1 b).2.1) ∧ Cond.instantiable q.1 q.2.2 ∈ lw_tbl ∧ Cond.initialized q.1 ∈ lw_tbl
theorem am_clsOk : ∀ (ci : Nat) (q : vw_C), am_cls[ci]? = some q → am_okC ci q
  | 0, q, h => by cases h; exact ⟨rfl, am_mem am_u0, am_ty0, am_nm0, List.mem_of_getElem? am_in0.1, List.mem_of_getElem? am_in0.2⟩
  | 1, q, h => by cases h; exact ⟨rfl, am_mem am_u1, am_ty1, am_nm1, List.mem_of_getElem? am_in1.1, List.mem_of_getElem? am_in1.2⟩
  | 2, q, h => by cases h; exact ⟨rfl, am_mem am_u2, am_ty2, am_nm2, List.mem_of_getElem? am_in2.1, List.mem_of_getElem? am_in2.2⟩
  | 3, q, h => by cases h; exact ⟨rfl, am_mem am_u3, am_ty3, am_nm3, List.mem_of_getElem? am_in3.1, List.mem_of_getElem? am_in3.2⟩
  | 4, q, h => by cases h; exact ⟨rfl, am_mem am_u4, am_ty4, am_nm4, List.mem_of_getElem? am_in4.1, List.mem_of_getElem? am_in4.2⟩
  | 5, q, h => by cases h; exact ⟨rfl, am_mem am_u5, am_ty5, am_nm5, List.mem_of_getElem? am_in5.1, List.mem_of_getElem? am_in5.2⟩
  | 6, q, h => by cases h; exact ⟨rfl, am_mem am_u6, am_ty6, am_nm6, List.mem_of_getElem? am_in6.1, List.mem_of_getElem? am_in6.2⟩
  | 7, q, h => by cases h; exact ⟨rfl, am_mem am_u7, am_ty7, am_nm7, List.mem_of_getElem? am_in7.1, List.mem_of_getElem? am_in7.2⟩
  | 8, q, h => by cases h; exact ⟨rfl, am_mem am_u8, am_ty8, am_nm8, List.mem_of_getElem? am_in8.1, List.mem_of_getElem? am_in8.2⟩
  | 9, q, h => by cases h; exact ⟨rfl, am_mem am_u9, am_ty9, am_nm9, List.mem_of_getElem? am_in9.1, List.mem_of_getElem? am_in9.2⟩
  | n + 10, q, h => by cases h
/-- a method: class number, name, code, locals, what it answers, arguments (with the object), static, constructor -/
abbrev am_M : Type := Nat × MethodName × ByteArray × Nat × Option FieldType × Nat × Bool × Bool
abbrev M_B_new : Nat := 0
abbrev M_Hold_new : Nat := 1
abbrev M_Truck_new : Nat := 2
abbrev M_Edges_new : Nat := 3
abbrev M_Box_new : Nat := 4
abbrev M_Orders_new : Nat := 5
abbrev M_Balance_new : Nat := 6
abbrev M_Bounds_new : Nat := 7
abbrev M_B_box : Nat := 8
abbrev M_B_within : Nat := 9
abbrev M_Cutter_forget : Nat := 10
abbrev M_B_truck : Nat := 11
abbrev M_B_share : Nat := 12
abbrev M_B_axles : Nat := 13
abbrev M_B_side : Nat := 14
abbrev M_B_wrong : Nat := 15
abbrev M_B_refusal : Nat := 16
abbrev M_Hold_knows : Nat := 17
abbrev M_Hold_has : Nat := 18
abbrev M_Hold_stand : Nat := 19
abbrev M_Box_moveTo : Nat := 20
abbrev M_Hold_commonInX : Nat := 21
abbrev M_Hold_commonInY : Nat := 22
abbrev M_Hold_commonInZ : Nat := 23
abbrev M_Hold_faults : Nat := 24
abbrev M_Hold_isInside : Nat := 25
abbrev M_Hold_isHeld : Nat := 26
abbrev M_Box_areaOn : Nat := 27
abbrev M_Hold_bearAll : Nat := 28
abbrev M_Arrays_fill : Nat := 29
abbrev M_Hold_giveLoad : Nat := 30
abbrev M_Hold_isInWay : Nat := 31
abbrev M_B_place : Nat := 32
abbrev M_Hold_putIn : Nat := 33
abbrev M_B_set : Nat := 34
abbrev M_Hold_setAtCorner : Nat := 35
abbrev M_Hold_listCorners : Nat := 36
abbrev M_Edges_list : Nat := 37
abbrev M_Hold_listCommon : Nat := 38
abbrev M_Hold_wall : Nat := 39
abbrev M_Hold_isFree : Nat := 40
abbrev M_Hold_touches : Nat := 41
abbrev M_B_take : Nat := 42
abbrev M_Hold_carries : Nat := 43
abbrev M_Hold_putOut : Nat := 44
abbrev M_B_clear : Nat := 45
abbrev M_Integer_bitCount : Nat := 46
abbrev M_B_best : Nat := 47
abbrev M_B_isSet : Nat := 48
abbrev M_Orders_begin : Nat := 49
abbrev M_B_tryOrders : Nat := 50
abbrev M_Hold_reach : Nat := 51
abbrev M_Orders_cannotWin : Nat := 52
abbrev M_Orders_keep : Nat := 53
abbrev M_B_setBest : Nat := 54
abbrev M_B_about : Nat := 55
abbrev M_Hold_loadOf : Nat := 56
abbrev M_Hold_supportsOf : Nat := 57
abbrev M_B_at : Nat := 58
abbrev M_Box_fills : Nat := 59
abbrev M_B_axle : Nat := 60
abbrev M_Balance_sum : Nat := 61
abbrev M_Balance_front : Nat := 62
abbrev M_Balance_rear : Nat := 63
abbrev M_Math_abs : Nat := 64
abbrev M_B_commonDivisor : Nat := 65
abbrev M_B_over : Nat := 66
abbrev M_B_overAt : Nat := 67
abbrev M_Balance_overBits : Nat := 68
abbrev M_B_fit : Nat := 69
abbrev M_B_cut : Nat := 70
abbrev M_Cutter_new : Nat := 71
abbrev M_Cutter_mostWorth : Nat := 72
abbrev M_Cutter_blockOf : Nat := 73
abbrev M_Cutter_greaterOf : Nat := 74
abbrev M_Math_max : Nat := 75
abbrev M_Cutter_fillWorths : Nat := 76
abbrev M_Cutter_offer : Nat := 77
abbrev M_Cutter_worthCut : Nat := 78
abbrev M_Cutter_aheadOf : Nat := 79
abbrev M_B_piece : Nat := 80
abbrev M_Cutter_tell : Nat := 81
abbrev M_Cutter_layOut : Nat := 82
abbrev M_Cutter_layPiece : Nat := 83
abbrev M_Cutter_firstCut : Nat := 84
abbrev M_B_trucks : Nat := 85
abbrev M_Hold_fitsEmpty : Nat := 86
abbrev M_Bounds_judge : Nat := 87
abbrev M_Box_volume : Nat := 88
abbrev M_Bounds_measure : Nat := 89
abbrev M_Math_min : Nat := 90
abbrev M_Bounds_findApart : Nat := 91
abbrev M_Bounds_areApart : Nat := 92
abbrev M_Bounds_findBig : Nat := 93
abbrev M_B_shown : Nat := 94
abbrev M_B_count : Nat := 95
abbrev M_Hold_weightIn : Nat := 96
abbrev M_Hold_cellsFilled : Nat := 97
abbrev M_R_new : Nat := 98
abbrev M_R_box : Nat := 99
abbrev M_R_in : Nat := 100
abbrev M_R_truck : Nat := 101
abbrev M_R_placed : Nat := 102
abbrev M_R_share : Nat := 103
abbrev M_R_axles : Nat := 104
abbrev M_R_side : Nat := 105
abbrev M_R_wrong : Nat := 106
abbrev M_R_asked : Nat := 107
abbrev M_R_isBox : Nat := 108
abbrev M_R_wrongAt : Nat := 109
abbrev M_R_longOf : Nat := 110
abbrev M_R_wideOf : Nat := 111
abbrev M_R_area : Nat := 112
abbrev M_R_common : Nat := 113
abbrev M_R_stands : Nat := 114
abbrev M_R_topOf : Nat := 115
abbrev M_R_isInWay : Nat := 116
abbrev M_R_makeLoads : Nat := 117
abbrev M_R_place : Nat := 118
abbrev M_R_set : Nat := 119
abbrev M_R_sets : Nat := 120
abbrev M_R_nextEnd : Nat := 121
abbrev M_R_take : Nat := 122
abbrev M_R_clear : Nat := 123
abbrev M_R_best : Nat := 124
abbrev M_R_isSet : Nat := 125
abbrev M_R_orders : Nat := 126
abbrev M_R_lists : Nat := 127
abbrev M_R_farthest : Nat := 128
abbrev M_R_unset : Nat := 129
abbrev M_R_about : Nat := 130
abbrev M_R_at : Nat := 131
abbrev M_R_axle : Nat := 132
abbrev M_R_axleOf : Nat := 133
abbrev M_R_isLeft : Nat := 134
abbrev M_R_weights : Nat := 135
abbrev M_R_over : Nat := 136
abbrev M_R_overAt : Nat := 137
abbrev M_R_fit : Nat := 138
abbrev M_R_cut : Nat := 139
abbrev M_R_makeMost : Nat := 140
abbrev M_R_isPiece : Nat := 141
abbrev M_R_block : Nat := 142
abbrev M_R_greater : Nat := 143
abbrev M_R_pattern : Nat := 144
abbrev M_R_piece : Nat := 145
abbrev M_R_trucks : Nat := 146
abbrev M_R_fitsSo : Nat := 147
abbrev M_R_isApart : Nat := 148
abbrev M_R_bigs : Nat := 149
abbrev M_R_shown : Nat := 150
abbrev M_R_count : Nat := 151
abbrev M_L_law : Nat := 152
def am_m0 : am_M := (8, ⟨"BoxNest", "<init>", "()V"⟩, prog_1_method_1_code, 1, none, 1, false, true)
def am_m1 : am_M := (5, ⟨"BoxNest$Hold", "<init>", "()V"⟩, prog_7_method_1_code, 2, none, 1, false, true)
def am_m2 : am_M := (7, ⟨"BoxNest$Truck", "<init>", "()V"⟩, prog_9_method_1_code, 1, none, 1, false, true)
def am_m3 : am_M := (4, ⟨"BoxNest$Edges", "<init>", "()V"⟩, prog_6_method_1_code, 1, none, 1, false, true)
def am_m4 : am_M := (2, ⟨"BoxNest$Box", "<init>", "()V"⟩, prog_4_method_1_code, 1, none, 1, false, true)
def am_m5 : am_M := (6, ⟨"BoxNest$Orders", "<init>", "()V"⟩, prog_8_method_1_code, 1, none, 1, false, true)
def am_m6 : am_M := (0, ⟨"BoxNest$Balance", "<init>", "()V"⟩, prog_2_method_1_code, 1, none, 1, false, true)
def am_m7 : am_M := (1, ⟨"BoxNest$Bounds", "<init>", "()V"⟩, prog_3_method_1_code, 1, none, 1, false, true)
def am_m8 : am_M := (8, ⟨"BoxNest", "box", "(IIIIIIZI)I"⟩, prog_1_method_2_code, 10, (some .int), 9, false, false)
def am_m9 : am_M := (8, ⟨"BoxNest", "within", "(III)Z"⟩, prog_1_method_23_code, 3, (some .boolean), 3, true, false)
def am_m10 : am_M := (3, ⟨"BoxNest$Cutter", "forget", "()V"⟩, prog_5_method_2_code, 1, none, 1, false, false)
def am_m11 : am_M := (8, ⟨"BoxNest", "truck", "(III)I"⟩, prog_1_method_3_code, 4, (some .int), 4, false, false)
def am_m12 : am_M := (8, ⟨"BoxNest", "share", "(I)I"⟩, prog_1_method_4_code, 3, (some .int), 2, false, false)
def am_m13 : am_M := (8, ⟨"BoxNest", "axles", "(IIII)I"⟩, prog_1_method_5_code, 5, (some .int), 5, false, false)
def am_m14 : am_M := (8, ⟨"BoxNest", "side", "(I)I"⟩, prog_1_method_6_code, 3, (some .int), 2, false, false)
def am_m15 : am_M := (8, ⟨"BoxNest", "wrong", "(IIIIZ)I"⟩, prog_1_method_7_code, 7, (some .int), 6, false, false)
def am_m16 : am_M := (8, ⟨"BoxNest", "refusal", "(IIIIZ)I"⟩, prog_1_method_25_code, 6, (some .int), 6, false, false)
def am_m17 : am_M := (5, ⟨"BoxNest$Hold", "knows", "(I)Z"⟩, prog_7_method_2_code, 2, (some .boolean), 2, false, false)
def am_m18 : am_M := (5, ⟨"BoxNest$Hold", "has", "(I)Z"⟩, prog_7_method_3_code, 2, (some .boolean), 2, false, false)
def am_m19 : am_M := (5, ⟨"BoxNest$Hold", "stand", "(IIIIZ)V"⟩, prog_7_method_13_code, 7, none, 6, false, false)
def am_m20 : am_M := (2, ⟨"BoxNest$Box", "moveTo", "(IIIZ)V"⟩, prog_4_method_2_code, 5, none, 5, false, false)
def am_m21 : am_M := (5, ⟨"BoxNest$Hold", "commonInX", "(II)I"⟩, prog_7_method_15_code, 5, (some .int), 3, false, false)
def am_m22 : am_M := (5, ⟨"BoxNest$Hold", "commonInY", "(II)I"⟩, prog_7_method_16_code, 5, (some .int), 3, false, false)
def am_m23 : am_M := (5, ⟨"BoxNest$Hold", "commonInZ", "(II)I"⟩, prog_7_method_17_code, 5, (some .int), 3, false, false)
def am_m24 : am_M := (5, ⟨"BoxNest$Hold", "faults", "(I)I"⟩, prog_7_method_14_code, 4, (some .int), 2, false, false)
def am_m25 : am_M := (5, ⟨"BoxNest$Hold", "isInside", "(LBoxNest$Box;)Z"⟩, prog_7_method_18_code, 2, (some .boolean), 2, false, false)
def am_m26 : am_M := (5, ⟨"BoxNest$Hold", "isHeld", "(LBoxNest$Box;)Z"⟩, prog_7_method_19_code, 5, (some .boolean), 2, false, false)
def am_m27 : am_M := (2, ⟨"BoxNest$Box", "areaOn", "(LBoxNest$Box;)I"⟩, prog_4_method_4_code, 4, (some .int), 2, false, false)
def am_m28 : am_M := (5, ⟨"BoxNest$Hold", "bearAll", "(I)Z"⟩, prog_7_method_21_code, 5, (some .boolean), 2, false, false)
def am_m29 : am_M := (13, ⟨"java/util/Arrays", "fill", "([II)V"⟩, prog_14_method_103_code, 4, none, 2, true, false)
def am_m30 : am_M := (5, ⟨"BoxNest$Hold", "giveLoad", "(II)V"⟩, prog_7_method_22_code, 9, none, 3, false, false)
def am_m31 : am_M := (5, ⟨"BoxNest$Hold", "isInWay", "(LBoxNest$Box;)Z"⟩, prog_7_method_20_code, 8, (some .boolean), 2, false, false)
def am_m32 : am_M := (8, ⟨"BoxNest", "place", "(IIIIZ)I"⟩, prog_1_method_8_code, 7, (some .int), 6, false, false)
def am_m33 : am_M := (5, ⟨"BoxNest$Hold", "putIn", "(I)V"⟩, prog_7_method_4_code, 2, none, 2, false, false)
def am_m34 : am_M := (8, ⟨"BoxNest", "set", "(I)I"⟩, prog_1_method_9_code, 2, (some .int), 2, false, false)
def am_m35 : am_M := (5, ⟨"BoxNest$Hold", "setAtCorner", "(I)Z"⟩, prog_7_method_23_code, 8, (some .boolean), 2, false, false)
def am_m36 : am_M := (5, ⟨"BoxNest$Hold", "listCorners", "(LBoxNest$Box;)V"⟩, prog_7_method_24_code, 9, none, 2, false, false)
def am_m37 : am_M := (4, ⟨"BoxNest$Edges", "list", "(J)V"⟩, prog_6_method_2_code, 4, none, 2, false, false)
def am_m38 : am_M := (5, ⟨"BoxNest$Hold", "listCommon", "(LBoxNest$Box;)V"⟩, prog_7_method_25_code, 4, none, 2, false, false)
def am_m39 : am_M := (5, ⟨"BoxNest$Hold", "wall", "(II)I"⟩, prog_7_method_26_code, 2, (some .int), 2, true, false)
def am_m40 : am_M := (5, ⟨"BoxNest$Hold", "isFree", "(IIIIZ)Z"⟩, prog_7_method_27_code, 7, (some .boolean), 6, false, false)
def am_m41 : am_M := (5, ⟨"BoxNest$Hold", "touches", "(LBoxNest$Box;)Z"⟩, prog_7_method_28_code, 4, (some .boolean), 2, false, false)
def am_m42 : am_M := (8, ⟨"BoxNest", "take", "(I)I"⟩, prog_1_method_10_code, 2, (some .int), 2, false, false)
def am_m43 : am_M := (5, ⟨"BoxNest$Hold", "carries", "(I)Z"⟩, prog_7_method_9_code, 3, (some .boolean), 2, false, false)
def am_m44 : am_M := (5, ⟨"BoxNest$Hold", "putOut", "(I)V"⟩, prog_7_method_5_code, 2, none, 2, false, false)
def am_m45 : am_M := (8, ⟨"BoxNest", "clear", "()I"⟩, prog_1_method_11_code, 2, (some .int), 1, false, false)
def am_m46 : am_M := (11, ⟨"java/lang/Integer", "bitCount", "(I)I"⟩, prog_12_method_49_code, 1, (some .int), 1, true, false)
def am_m47 : am_M := (8, ⟨"BoxNest", "best", "(I)I"⟩, prog_1_method_12_code, 2, (some .int), 2, false, false)
def am_m48 : am_M := (8, ⟨"BoxNest", "isSet", "(I)Z"⟩, prog_1_method_24_code, 2, (some .boolean), 2, false, false)
def am_m49 : am_M := (6, ⟨"BoxNest$Orders", "begin", "()V"⟩, prog_8_method_2_code, 1, none, 1, false, false)
def am_m50 : am_M := (8, ⟨"BoxNest", "tryOrders", "(IIII)V"⟩, prog_1_method_26_code, 8, none, 5, false, false)
def am_m51 : am_M := (5, ⟨"BoxNest$Hold", "reach", "()I"⟩, prog_7_method_7_code, 3, (some .int), 1, false, false)
def am_m52 : am_M := (6, ⟨"BoxNest$Orders", "cannotWin", "(II)Z"⟩, prog_8_method_3_code, 3, (some .boolean), 3, false, false)
def am_m53 : am_M := (6, ⟨"BoxNest$Orders", "keep", "(III)V"⟩, prog_8_method_4_code, 5, none, 4, false, false)
def am_m54 : am_M := (8, ⟨"BoxNest", "setBest", "()I"⟩, prog_1_method_27_code, 3, (some .int), 1, false, false)
def am_m55 : am_M := (8, ⟨"BoxNest", "about", "(II)I"⟩, prog_1_method_13_code, 5, (some .int), 3, false, false)
def am_m56 : am_M := (5, ⟨"BoxNest$Hold", "loadOf", "(I)I"⟩, prog_7_method_11_code, 2, (some .int), 2, false, false)
def am_m57 : am_M := (5, ⟨"BoxNest$Hold", "supportsOf", "(I)I"⟩, prog_7_method_10_code, 4, (some .int), 2, false, false)
def am_m58 : am_M := (8, ⟨"BoxNest", "at", "(III)I"⟩, prog_1_method_14_code, 5, (some .int), 4, false, false)
def am_m59 : am_M := (2, ⟨"BoxNest$Box", "fills", "(III)Z"⟩, prog_4_method_3_code, 4, (some .boolean), 4, false, false)
def am_m60 : am_M := (8, ⟨"BoxNest", "axle", "(III)I"⟩, prog_1_method_15_code, 6, (some .int), 4, false, false)
def am_m61 : am_M := (0, ⟨"BoxNest$Balance", "sum", "(LBoxNest$Hold;I)V"⟩, prog_2_method_2_code, 6, none, 3, false, false)
def am_m62 : am_M := (0, ⟨"BoxNest$Balance", "front", "()I"⟩, prog_2_method_3_code, 1, (some .int), 1, false, false)
def am_m63 : am_M := (0, ⟨"BoxNest$Balance", "rear", "()I"⟩, prog_2_method_4_code, 1, (some .int), 1, false, false)
def am_m64 : am_M := (12, ⟨"java/lang/Math", "abs", "(I)I"⟩, prog_13_method_59_code, 1, (some .int), 1, true, false)
def am_m65 : am_M := (8, ⟨"BoxNest", "commonDivisor", "(II)I"⟩, prog_1_method_29_code, 6, (some .int), 2, true, false)
def am_m66 : am_M := (8, ⟨"BoxNest", "over", "(I)I"⟩, prog_1_method_16_code, 2, (some .int), 2, false, false)
def am_m67 : am_M := (8, ⟨"BoxNest", "overAt", "(I)I"⟩, prog_1_method_28_code, 2, (some .int), 2, false, false)
def am_m68 : am_M := (0, ⟨"BoxNest$Balance", "overBits", "(LBoxNest$Truck;)I"⟩, prog_2_method_5_code, 4, (some .int), 2, false, false)
def am_m69 : am_M := (8, ⟨"BoxNest", "fit", "()I"⟩, prog_1_method_17_code, 2, (some .int), 1, false, false)
def am_m70 : am_M := (8, ⟨"BoxNest", "cut", "(III)I"⟩, prog_1_method_18_code, 4, (some .int), 4, false, false)
def am_m71 : am_M := (3, ⟨"BoxNest$Cutter", "<init>", "()V"⟩, prog_5_method_1_code, 1, none, 1, false, true)
def am_m72 : am_M := (3, ⟨"BoxNest$Cutter", "mostWorth", "(LBoxNest$Hold;III)I"⟩, prog_5_method_3_code, 6, (some .int), 5, false, false)
def am_m73 : am_M := (3, ⟨"BoxNest$Cutter", "blockOf", "(III)I"⟩, prog_5_method_5_code, 3, (some .int), 3, true, false)
def am_m74 : am_M := (3, ⟨"BoxNest$Cutter", "greaterOf", "(II)I"⟩, prog_5_method_6_code, 5, (some .int), 2, true, false)
def am_m75 : am_M := (12, ⟨"java/lang/Math", "max", "(II)I"⟩, prog_13_method_65_code, 2, (some .int), 2, true, false)
def am_m76 : am_M := (3, ⟨"BoxNest$Cutter", "fillWorths", "(LBoxNest$Hold;I)V"⟩, prog_5_method_7_code, 7, none, 3, false, false)
def am_m77 : am_M := (3, ⟨"BoxNest$Cutter", "offer", "(II)V"⟩, prog_5_method_8_code, 3, none, 3, false, false)
def am_m78 : am_M := (3, ⟨"BoxNest$Cutter", "worthCut", "(I)I"⟩, prog_5_method_9_code, 7, (some .int), 2, false, false)
def am_m79 : am_M := (3, ⟨"BoxNest$Cutter", "aheadOf", "(III)I"⟩, prog_5_method_10_code, 3, (some .int), 3, true, false)
def am_m80 : am_M := (8, ⟨"BoxNest", "piece", "(II)I"⟩, prog_1_method_19_code, 3, (some .int), 3, false, false)
def am_m81 : am_M := (3, ⟨"BoxNest$Cutter", "tell", "(LBoxNest$Hold;II)I"⟩, prog_5_method_4_code, 5, (some .int), 4, false, false)
def am_m82 : am_M := (3, ⟨"BoxNest$Cutter", "layOut", "(LBoxNest$Hold;III)V"⟩, prog_5_method_11_code, 11, none, 5, false, false)
def am_m83 : am_M := (3, ⟨"BoxNest$Cutter", "layPiece", "(LBoxNest$Hold;II)Z"⟩, prog_5_method_12_code, 7, (some .boolean), 4, false, false)
def am_m84 : am_M := (3, ⟨"BoxNest$Cutter", "firstCut", "(I)I"⟩, prog_5_method_13_code, 5, (some .int), 2, false, false)
def am_m85 : am_M := (8, ⟨"BoxNest", "trucks", "(I)I"⟩, prog_1_method_20_code, 3, (some .int), 2, false, false)
def am_m86 : am_M := (5, ⟨"BoxNest$Hold", "fitsEmpty", "(IZ)Z"⟩, prog_7_method_12_code, 6, (some .boolean), 3, false, false)
def am_m87 : am_M := (1, ⟨"BoxNest$Bounds", "judge", "(LBoxNest$Hold;I)V"⟩, prog_3_method_2_code, 6, none, 3, false, false)
def am_m88 : am_M := (2, ⟨"BoxNest$Box", "volume", "()I"⟩, prog_4_method_5_code, 1, (some .int), 1, false, false)
def am_m89 : am_M := (1, ⟨"BoxNest$Bounds", "measure", "(LBoxNest$Hold;I)V"⟩, prog_3_method_3_code, 6, none, 3, false, false)
def am_m90 : am_M := (12, ⟨"java/lang/Math", "min", "(II)I"⟩, prog_13_method_69_code, 2, (some .int), 2, true, false)
def am_m91 : am_M := (1, ⟨"BoxNest$Bounds", "findApart", "(LBoxNest$Hold;I)V"⟩, prog_3_method_4_code, 5, none, 3, false, false)
def am_m92 : am_M := (1, ⟨"BoxNest$Bounds", "areApart", "(LBoxNest$Hold;II)Z"⟩, prog_3_method_5_code, 5, (some .boolean), 4, false, false)
def am_m93 : am_M := (1, ⟨"BoxNest$Bounds", "findBig", "(III)V"⟩, prog_3_method_6_code, 6, none, 4, false, false)
def am_m94 : am_M := (8, ⟨"BoxNest", "shown", "(I)I"⟩, prog_1_method_21_code, 2, (some .int), 2, false, false)
def am_m95 : am_M := (8, ⟨"BoxNest", "count", "(I)I"⟩, prog_1_method_22_code, 3, (some .int), 2, false, false)
def am_m96 : am_M := (5, ⟨"BoxNest$Hold", "weightIn", "()I"⟩, prog_7_method_6_code, 3, (some .int), 1, false, false)
def am_m97 : am_M := (5, ⟨"BoxNest$Hold", "cellsFilled", "()I"⟩, prog_7_method_8_code, 3, (some .int), 1, false, false)
def am_m98 : am_M := (9, ⟨"BoxNestModel", "<init>", "()V"⟩, prog_11_method_1_code, 1, none, 1, false, true)
def am_m99 : am_M := (9, ⟨"BoxNestModel", "box", "(IIIIIIZI)I"⟩, prog_11_method_3_code, 9, (some .int), 9, false, false)
def am_m100 : am_M := (9, ⟨"BoxNestModel", "in", "(III)Z"⟩, prog_11_method_2_code, 3, (some .boolean), 3, true, false)
def am_m101 : am_M := (9, ⟨"BoxNestModel", "truck", "(III)I"⟩, prog_11_method_5_code, 4, (some .int), 4, false, false)
def am_m102 : am_M := (9, ⟨"BoxNestModel", "placed", "()I"⟩, prog_11_method_4_code, 3, (some .int), 1, false, false)
def am_m103 : am_M := (9, ⟨"BoxNestModel", "share", "(I)I"⟩, prog_11_method_6_code, 3, (some .int), 2, false, false)
def am_m104 : am_M := (9, ⟨"BoxNestModel", "axles", "(IIII)I"⟩, prog_11_method_7_code, 5, (some .int), 5, false, false)
def am_m105 : am_M := (9, ⟨"BoxNestModel", "side", "(I)I"⟩, prog_11_method_8_code, 3, (some .int), 2, false, false)
def am_m106 : am_M := (9, ⟨"BoxNestModel", "wrong", "(IIIIZ)I"⟩, prog_11_method_20_code, 7, (some .int), 6, false, false)
def am_m107 : am_M := (9, ⟨"BoxNestModel", "asked", "(IIIIZ)I"⟩, prog_11_method_19_code, 6, (some .int), 6, false, false)
def am_m108 : am_M := (9, ⟨"BoxNestModel", "isBox", "(I)Z"⟩, prog_11_method_9_code, 2, (some .boolean), 2, false, false)
def am_m109 : am_M := (9, ⟨"BoxNestModel", "wrongAt", "(IIIIZ)I"⟩, prog_11_method_18_code, 10, (some .int), 6, false, false)
def am_m110 : am_M := (9, ⟨"BoxNestModel", "longOf", "(I)I"⟩, prog_11_method_10_code, 2, (some .int), 2, false, false)
def am_m111 : am_M := (9, ⟨"BoxNestModel", "wideOf", "(I)I"⟩, prog_11_method_11_code, 2, (some .int), 2, false, false)
def am_m112 : am_M := (9, ⟨"BoxNestModel", "area", "(II)I"⟩, prog_11_method_14_code, 3, (some .int), 3, false, false)
def am_m113 : am_M := (9, ⟨"BoxNestModel", "common", "(IIII)I"⟩, prog_11_method_13_code, 6, (some .int), 4, true, false)
def am_m114 : am_M := (9, ⟨"BoxNestModel", "stands", "(II)I"⟩, prog_11_method_15_code, 3, (some .int), 3, false, false)
def am_m115 : am_M := (9, ⟨"BoxNestModel", "topOf", "(I)I"⟩, prog_11_method_12_code, 2, (some .int), 2, false, false)
def am_m116 : am_M := (9, ⟨"BoxNestModel", "isInWay", "(II)Z"⟩, prog_11_method_17_code, 7, (some .boolean), 3, false, false)
def am_m117 : am_M := (9, ⟨"BoxNestModel", "makeLoads", "()V"⟩, prog_11_method_16_code, 8, none, 1, false, false)
def am_m118 : am_M := (9, ⟨"BoxNestModel", "place", "(IIIIZ)I"⟩, prog_11_method_21_code, 7, (some .int), 6, false, false)
def am_m119 : am_M := (9, ⟨"BoxNestModel", "set", "(I)I"⟩, prog_11_method_24_code, 2, (some .int), 2, false, false)
def am_m120 : am_M := (9, ⟨"BoxNestModel", "sets", "(I)Z"⟩, prog_11_method_23_code, 6, (some .boolean), 2, false, false)
def am_m121 : am_M := (9, ⟨"BoxNestModel", "nextEnd", "(II)I"⟩, prog_11_method_22_code, 6, (some .int), 3, false, false)
def am_m122 : am_M := (9, ⟨"BoxNestModel", "take", "(I)I"⟩, prog_11_method_25_code, 3, (some .int), 2, false, false)
def am_m123 : am_M := (9, ⟨"BoxNestModel", "clear", "()I"⟩, prog_11_method_26_code, 3, (some .int), 1, false, false)
def am_m124 : am_M := (9, ⟨"BoxNestModel", "best", "(I)I"⟩, prog_11_method_32_code, 4, (some .int), 2, false, false)
def am_m125 : am_M := (9, ⟨"BoxNestModel", "isSet", "(I)Z"⟩, prog_11_method_28_code, 2, (some .boolean), 2, false, false)
def am_m126 : am_M := (9, ⟨"BoxNestModel", "orders", "(IIII)V"⟩, prog_11_method_31_code, 7, none, 5, false, false)
def am_m127 : am_M := (9, ⟨"BoxNestModel", "lists", "(II)I"⟩, prog_11_method_29_code, 5, (some .int), 3, false, false)
def am_m128 : am_M := (9, ⟨"BoxNestModel", "farthest", "()I"⟩, prog_11_method_27_code, 3, (some .int), 1, false, false)
def am_m129 : am_M := (9, ⟨"BoxNestModel", "unset", "(I)V"⟩, prog_11_method_30_code, 3, none, 2, false, false)
def am_m130 : am_M := (9, ⟨"BoxNestModel", "about", "(II)I"⟩, prog_11_method_33_code, 5, (some .int), 3, false, false)
def am_m131 : am_M := (9, ⟨"BoxNestModel", "at", "(III)I"⟩, prog_11_method_34_code, 6, (some .int), 4, false, false)
def am_m132 : am_M := (9, ⟨"BoxNestModel", "axle", "(III)I"⟩, prog_11_method_38_code, 9, (some .int), 4, false, false)
def am_m133 : am_M := (9, ⟨"BoxNestModel", "axleOf", "(II)I"⟩, prog_11_method_37_code, 5, (some .int), 3, false, false)
def am_m134 : am_M := (9, ⟨"BoxNestModel", "isLeft", "(II)Z"⟩, prog_11_method_35_code, 3, (some .boolean), 3, false, false)
def am_m135 : am_M := (9, ⟨"BoxNestModel", "weights", "(I)I"⟩, prog_11_method_36_code, 4, (some .int), 2, false, false)
def am_m136 : am_M := (9, ⟨"BoxNestModel", "over", "(I)I"⟩, prog_11_method_40_code, 2, (some .int), 2, false, false)
def am_m137 : am_M := (9, ⟨"BoxNestModel", "overAt", "(I)I"⟩, prog_11_method_39_code, 9, (some .int), 2, false, false)
def am_m138 : am_M := (9, ⟨"BoxNestModel", "fit", "()I"⟩, prog_11_method_41_code, 2, (some .int), 1, false, false)
def am_m139 : am_M := (9, ⟨"BoxNestModel", "cut", "(III)I"⟩, prog_11_method_47_code, 4, (some .int), 4, false, false)
def am_m140 : am_M := (9, ⟨"BoxNestModel", "makeMost", "(III)V"⟩, prog_11_method_44_code, 9, none, 4, false, false)
def am_m141 : am_M := (9, ⟨"BoxNestModel", "isPiece", "(IIIIZ)Z"⟩, prog_11_method_43_code, 6, (some .boolean), 6, false, false)
def am_m142 : am_M := (9, ⟨"BoxNestModel", "block", "(III)I"⟩, prog_11_method_42_code, 3, (some .int), 3, true, false)
def am_m143 : am_M := (9, ⟨"BoxNestModel", "greater", "(II)I"⟩, prog_11_method_45_code, 2, (some .int), 2, true, false)
def am_m144 : am_M := (9, ⟨"BoxNestModel", "pattern", "(IIIIII)V"⟩, prog_11_method_46_code, 10, none, 7, false, false)
def am_m145 : am_M := (9, ⟨"BoxNestModel", "piece", "(II)I"⟩, prog_11_method_48_code, 3, (some .int), 3, false, false)
def am_m146 : am_M := (9, ⟨"BoxNestModel", "trucks", "(I)I"⟩, prog_11_method_52_code, 5, (some .int), 2, false, false)
def am_m147 : am_M := (9, ⟨"BoxNestModel", "fitsSo", "(IZ)Z"⟩, prog_11_method_49_code, 5, (some .boolean), 3, false, false)
def am_m148 : am_M := (9, ⟨"BoxNestModel", "isApart", "(II)Z"⟩, prog_11_method_50_code, 7, (some .boolean), 3, false, false)
def am_m149 : am_M := (9, ⟨"BoxNestModel", "bigs", "(IIII)V"⟩, prog_11_method_51_code, 7, none, 5, false, false)
def am_m150 : am_M := (9, ⟨"BoxNestModel", "shown", "(I)I"⟩, prog_11_method_53_code, 2, (some .int), 2, false, false)
def am_m151 : am_M := (9, ⟨"BoxNestModel", "count", "(I)I"⟩, prog_11_method_54_code, 4, (some .int), 2, false, false)
def am_m152 : am_M := (10, ⟨"BoxNestLaw", "law", "([I)Z"⟩, code, 4, (some .boolean), 1, true, false)
def am_ms : List am_M := [am_m0, am_m1, am_m2, am_m3, am_m4, am_m5, am_m6, am_m7, am_m8, am_m9, am_m10, am_m11, am_m12, am_m13, am_m14, am_m15, am_m16, am_m17, am_m18, am_m19, am_m20, am_m21, am_m22, am_m23, am_m24, am_m25, am_m26, am_m27, am_m28, am_m29, am_m30, am_m31, am_m32, am_m33, am_m34, am_m35, am_m36, am_m37, am_m38, am_m39, am_m40, am_m41, am_m42, am_m43, am_m44, am_m45, am_m46, am_m47, am_m48, am_m49, am_m50, am_m51, am_m52, am_m53, am_m54, am_m55, am_m56, am_m57, am_m58, am_m59, am_m60, am_m61, am_m62, am_m63, am_m64, am_m65, am_m66, am_m67, am_m68, am_m69, am_m70, am_m71, am_m72, am_m73, am_m74, am_m75, am_m76, am_m77, am_m78, am_m79, am_m80, am_m81, am_m82, am_m83, am_m84, am_m85, am_m86, am_m87, am_m88, am_m89, am_m90, am_m91, am_m92, am_m93, am_m94, am_m95, am_m96, am_m97, am_m98, am_m99, am_m100, am_m101, am_m102, am_m103, am_m104, am_m105, am_m106, am_m107, am_m108, am_m109, am_m110, am_m111, am_m112, am_m113, am_m114, am_m115, am_m116, am_m117, am_m118, am_m119, am_m120, am_m121, am_m122, am_m123, am_m124, am_m125, am_m126, am_m127, am_m128, am_m129, am_m130, am_m131, am_m132, am_m133, am_m134, am_m135, am_m136, am_m137, am_m138, am_m139, am_m140, am_m141, am_m142, am_m143, am_m144, am_m145, am_m146, am_m147, am_m148, am_m149, am_m150, am_m151, am_m152]
def am_y (mi : Nat) : MethodName := match am_ms[mi]? with | some q => q.2.1 | none => ⟨"", "", ""⟩
def am_FW : List (Nat × Nat × Nat × Nat) := [(7, 7, 7, 0), (1, 27, 7, 0), (8, 92, 7, 0), (5, 87, 7, 0), (7, 13, 7, 1), (1, 33, 7, 1), (8, 95, 7, 1), (0, 78, 7, 1), (5, 88, 7, 1), (7, 16, 7, 2), (1, 36, 7, 2), (8, 96, 7, 2), (5, 76, 7, 2), (7, 19, 7, 3), (8, 97, 7, 3), (5, 137, 7, 3), (7, 22, 7, 4), (0, 30, 7, 4), (8, 101, 7, 4), (7, 25, 7, 5), (0, 25, 7, 5), (8, 104, 7, 5), (7, 29, 7, 6), (0, 69, 7, 6), (8, 107, 7, 6), (7, 32, 7, 7), (0, 75, 7, 7), (8, 110, 7, 7), (7, 35, 7, 8), (0, 87, 7, 8), (8, 113, 7, 8), (4, 9, 4, 0), (5, 166, 4, 0), (4, 15, 4, 1), (5, 169, 4, 1), (4, 18, 4, 2), (5, 190, 4, 2), (4, 21, 4, 3), (5, 163, 4, 3), (2, 26, 2, 0), (8, 53, 2, 0), (1, 80, 2, 0), (3, 64, 2, 0), (5, 84, 2, 0), (2, 23, 2, 1), (8, 58, 2, 1), (1, 81, 2, 1), (3, 69, 2, 1), (5, 81, 2, 1), (2, 35, 2, 2), (8, 61, 2, 2), (1, 92, 2, 2), (3, 72, 2, 2), (5, 73, 2, 2), (0, 52, 2, 3), (8, 64, 2, 3), (5, 56, 2, 3), (8, 67, 2, 4), (5, 149, 2, 4), (0, 47, 2, 5), (8, 70, 2, 5), (5, 140, 2, 5), (8, 73, 2, 6), (3, 82, 2, 6), (5, 77, 2, 6), (8, 77, 2, 7), (3, 75, 2, 7), (2, 7, 2, 8), (0, 53, 2, 8), (5, 93, 2, 8), (8, 167, 2, 8), (2, 13, 2, 9), (0, 59, 2, 9), (5, 103, 2, 9), (8, 170, 2, 9), (2, 16, 2, 10), (5, 115, 2, 10), (8, 173, 2, 10), (2, 29, 2, 11), (0, 56, 2, 11), (5, 59, 2, 11), (2, 32, 2, 12), (0, 62, 2, 12), (5, 106, 2, 12), (2, 38, 2, 13), (5, 118, 2, 13), (2, 19, 2, 14), (8, 176, 2, 14), (5, 12, 5, 0), (0, 7, 5, 0), (1, 21, 5, 0), (8, 88, 5, 0), (5, 20, 5, 1), (0, 39, 5, 1), (1, 42, 5, 1), (8, 49, 5, 1), (3, 60, 5, 1), (5, 45, 5, 2), (1, 39, 5, 2), (0, 36, 5, 2), (8, 45, 5, 2), (3, 55, 5, 2), (5, 49, 5, 3), (8, 85, 5, 3), (5, 24, 5, 4), (5, 28, 5, 5), (5, 34, 5, 6), (5, 38, 5, 7), (5, 41, 5, 8), (5, 100, 5, 9), (5, 112, 5, 10), (5, 124, 5, 11), (5, 156, 5, 12), (6, 9, 6, 0), (8, 262, 6, 0), (6, 15, 6, 1), (8, 269, 6, 1), (6, 18, 6, 2), (8, 266, 6, 2), (6, 22, 6, 3), (6, 25, 6, 4), (0, 13, 0, 0), (0, 19, 0, 1), (0, 22, 0, 2), (0, 33, 0, 3), (8, 204, 0, 3), (1, 56, 1, 0), (8, 239, 1, 0), (1, 60, 1, 1), (8, 230, 1, 1), (1, 63, 1, 2), (8, 233, 1, 2), (1, 66, 1, 3), (8, 242, 1, 3), (1, 9, 1, 4), (1, 15, 1, 5), (1, 18, 1, 6), (8, 10, 8, 0), (8, 19, 8, 1), (8, 26, 8, 2), (8, 33, 8, 3), (8, 37, 8, 4), (3, 11, 3, 0), (3, 15, 3, 1), (3, 18, 3, 2), (3, 22, 3, 3), (3, 25, 3, 4), (9, 119, 9, 0), (9, 7, 9, 1), (9, 13, 9, 2), (9, 16, 9, 3), (9, 19, 9, 4), (9, 22, 9, 5), (9, 25, 9, 6), (9, 28, 9, 7), (9, 32, 9, 8), (9, 35, 9, 9), (9, 38, 9, 10), (9, 41, 9, 11), (9, 44, 9, 12), (9, 47, 9, 13), (9, 50, 9, 14), (9, 54, 9, 15), (9, 57, 9, 16), (9, 60, 9, 17), (9, 63, 9, 18), (9, 66, 9, 19), (9, 70, 9, 20), (9, 73, 9, 21), (9, 76, 9, 22), (9, 79, 9, 23), (9, 191, 9, 24), (9, 185, 9, 25), (9, 188, 9, 26), (9, 82, 9, 27), (9, 85, 9, 28), (9, 88, 9, 29), (9, 91, 9, 30), (9, 94, 9, 31), (9, 97, 9, 32), (9, 100, 9, 33), (9, 103, 9, 34), (9, 235, 9, 35), (9, 238, 9, 36), (9, 106, 9, 37), (9, 109, 9, 38), (9, 112, 9, 39)]
theorem am_FWe : am_FW.map (fun q => Cond.fieldLink (am_cn q.1) q.2.1 (am_F q.2.2.1 q.2.2.2).1 (am_F q.2.2.1 q.2.2.2).2.1 (am_F q.2.2.1 q.2.2.2).2.2.1) = ([90, 91, 92, 93, 94, 95, 96, 97, 98, 99, 100, 101, 102, 103, 104, 105, 106, 107, 108, 109, 110, 111, 112, 113, 114, 115, 116, 117, 118, 119, 120, 148, 149, 150, 151, 152, 153, 154, 155, 171, 172, 173, 174, 175, 176, 177, 178, 179, 180, 181, 182, 183, 184, 185, 186, 187, 188, 189, 190, 191, 192, 193, 194, 195, 196, 197, 198, 199, 200, 201, 202, 203, 204, 205, 206, 207, 208, 209, 210, 211, 212, 213, 214, 215, 216, 217, 218, 219, 251, 252, 253, 254, 255, 256, 257, 258, 259, 260, 261, 262, 263, 264, 265, 266, 267, 268, 269, 270, 271, 272, 273, 274, 275, 309, 310, 311, 312, 313, 314, 315, 316, 334, 335, 336, 337, 338, 354, 355, 356, 357, 358, 359, 360, 361, 362, 363, 364, 380, 381, 382, 383, 384, 660, 661, 662, 663, 664, 787, 788, 789, 790, 791, 792, 793, 794, 795, 796, 797, 798, 799, 800, 801, 802, 803, 804, 805, 806, 807, 808, 809, 810, 811, 812, 813, 814, 815, 816, 817, 818, 819, 820, 821, 822, 823, 824, 825, 826] : List Nat).filterMap (fun i => lw_tbl[i]?) := by decide +kernel
def am_MW : List (Nat × Nat × Nat) := [(10, 9, 0), (8, 9, 1), (10, 13, 8), (8, 41, 9), (8, 80, 10), (10, 18, 11), (10, 23, 12), (10, 28, 13), (10, 33, 14), (10, 37, 15), (8, 116, 16), (8, 132, 17), (8, 136, 18), (8, 120, 19), (5, 89, 20), (5, 96, 21), (5, 52, 18), (5, 109, 22), (5, 121, 23), (8, 124, 24), (5, 127, 25), (5, 131, 26), (5, 66, 27), (5, 70, 28), (5, 143, 29), (5, 152, 30), (5, 134, 31), (10, 42, 32), (8, 128, 33), (10, 46, 34), (8, 139, 35), (5, 159, 36), (5, 180, 37), (5, 184, 38), (5, 187, 39), (5, 172, 40), (5, 194, 41), (5, 176, 33), (10, 50, 42), (8, 142, 43), (8, 145, 44), (10, 54, 45), (8, 148, 46), (10, 59, 47), (8, 153, 48), (8, 156, 49), (8, 159, 50), (8, 248, 51), (8, 254, 52), (8, 258, 53), (8, 163, 54), (10, 63, 55), (8, 179, 56), (8, 182, 57), (10, 68, 58), (8, 185, 59), (10, 72, 60), (8, 189, 61), (0, 43, 18), (8, 193, 62), (8, 196, 63), (8, 199, 64), (8, 207, 65), (10, 76, 66), (8, 211, 67), (8, 272, 68), (0, 65, 62), (0, 72, 63), (0, 81, 64), (10, 80, 69), (10, 84, 70), (8, 215, 72), (3, 28, 73), (3, 32, 74), (3, 44, 75), (3, 36, 76), (3, 49, 29), (3, 78, 77), (3, 86, 78), (3, 90, 79), (10, 88, 80), (8, 219, 81), (3, 40, 82), (3, 93, 83), (3, 97, 84), (10, 92, 85), (8, 223, 86), (8, 227, 87), (1, 46, 88), (1, 52, 89), (1, 76, 86), (1, 82, 90), (1, 69, 91), (1, 88, 92), (1, 72, 93), (1, 93, 46), (8, 236, 75), (10, 96, 94), (10, 100, 95), (8, 245, 96), (8, 251, 97), (5, 62, 88), (10, 12, 98), (10, 17, 99), (9, 115, 100), (10, 22, 101), (9, 122, 102), (10, 27, 103), (10, 32, 104), (10, 36, 105), (10, 41, 106), (9, 158, 107), (9, 154, 108), (9, 162, 109), (9, 126, 110), (9, 134, 111), (9, 140, 112), (9, 130, 113), (9, 144, 114), (9, 137, 115), (9, 147, 116), (9, 151, 117), (10, 45, 118), (10, 49, 119), (9, 168, 120), (9, 165, 121), (10, 53, 122), (10, 58, 123), (10, 62, 124), (9, 194, 125), (9, 171, 126), (9, 175, 127), (9, 178, 128), (9, 181, 129), (10, 67, 130), (10, 71, 131), (10, 75, 132), (9, 204, 133), (9, 197, 134), (9, 200, 135), (10, 79, 136), (9, 209, 137), (10, 83, 138), (10, 87, 139), (9, 227, 140), (9, 212, 141), (9, 216, 142), (9, 220, 143), (9, 223, 144), (10, 91, 145), (10, 95, 146), (9, 231, 147), (9, 244, 148), (9, 241, 149), (10, 99, 150), (10, 103, 151)]
theorem am_MWe : am_MW.map (fun q => Cond.methodLink (am_cn q.1) q.2.1 (am_y q.2.2)) = ([71, 79, 396, 400, 403, 407, 411, 415, 420, 424, 428, 432, 436, 440, 444, 448, 452, 453, 457, 461, 465, 469, 473, 477, 481, 484, 488, 492, 496, 500, 504, 508, 512, 516, 520, 524, 528, 532, 533, 537, 541, 545, 549, 555, 559, 563, 567, 571, 575, 579, 583, 587, 591, 595, 599, 603, 607, 612, 616, 617, 621, 625, 628, 631, 635, 639, 643, 644, 645, 646, 650, 676, 680, 683, 686, 689, 693, 694, 698, 702, 705, 709, 713, 717, 721, 725, 729, 733, 737, 741, 745, 746, 749, 753, 757, 761, 762, 763, 767, 771, 775, 779, 782, 909, 913, 916, 920, 924, 928, 932, 936, 940, 944, 948, 952, 956, 960, 964, 967, 971, 975, 979, 983, 987, 991, 995, 999, 1003, 1007, 1011, 1015, 1019, 1023, 1027, 1031, 1035, 1039, 1044, 1048, 1052, 1056, 1060, 1065, 1069, 1073, 1077, 1081, 1084, 1087, 1091, 1095, 1099, 1103, 1107, 1111, 1115] : List Nat).filterMap (fun i => lw_tbl[i]?) := by decide +kernel
def am_MN : List (Nat × Nat × Nat) := [(5, 11, 2), (5, 33, 3), (5, 44, 4), (8, 18, 5), (8, 25, 6), (8, 32, 7), (8, 214, 71)]
theorem am_MNe : am_MN.map (fun q => Cond.methodLinkNest (am_cn q.1) q.2.1 (am_y q.2.2) "BoxNest") = ([85, 144, 167, 305, 330, 350, 656] : List Nat).filterMap (fun i => lw_tbl[i]?) := by decide +kernel
def am_OW : List (Nat × Nat) := [(8, 1), (5, 3), (7, 1), (4, 3), (2, 1), (6, 3), (0, 1), (1, 3), (3, 3), (9, 1)]
theorem am_OWe : am_OW.map (fun q => Cond.methodLink (am_cn q.1) q.2 objectInit) = ([74, 82, 88, 147, 170, 308, 333, 353, 659, 785] : List Nat).filterMap (fun i => lw_tbl[i]?) := by decide +kernel
def am_CW : List (Nat × Nat × Nat) := [(10, 7, 8), (8, 7, 5), (5, 9, 7), (5, 18, 2), (5, 31, 4), (8, 16, 6), (8, 23, 0), (8, 30, 1), (8, 81, 3), (10, 10, 9)]
theorem am_CWe : am_CW.map (fun q => Cond.classLink (am_cn q.1) q.2.1 (am_cn q.2.2)) = ([69, 77, 83, 140, 142, 303, 328, 348, 654, 780] : List Nat).filterMap (fun i => lw_tbl[i]?) := by decide +kernel
def am_KW : List (Nat × Nat × Int32) := [(7, 28, 100000), (8, 100, 100000), (5, 193, 1073741824), (11, 265, 1431655765), (11, 266, 858993459), (11, 267, 252645135), (8, 188, -2000000000), (9, 69, 100000), (9, 203, -2000000000)]
theorem am_KWe : am_KW.map (fun q => Cond.constant (am_cn q.1) q.2.1 q.2.2) = ([89, 419, 523, 552, 553, 554, 611, 786, 1043] : List Nat).filterMap (fun i => lw_tbl[i]?) := by decide +kernel
def am_LW : List (Nat × Nat × Nat) := [(9, 207, 100)]
theorem am_LWe : am_LW.map (fun q => Cond.constantLong (am_cn q.1) q.2.1 (Int64.ofNat q.2.2)) = ([1064] : List Nat).filterMap (fun i => lw_tbl[i]?) := by decide +kernel
theorem am_oi : lw_tbl[75]? = some (Cond.instanceMethod objectInit) := by decide +kernel
theorem am_oc : lw_tbl[76]? = some (Cond.code objectInit ⟨#[0xb1]⟩ 1 none) := by decide +kernel
theorem am_ac_int : lw_tbl[165]? = some (Cond.arrayClass .int) := by decide +kernel
theorem am_ac_boolean : lw_tbl[908]? = some (Cond.arrayClass .boolean) := by decide +kernel
theorem am_ao : lw_tbl[141]? = some (Cond.arrayOver (.object "BoxNest$Box")) := by decide +kernel
def am_tb : List Cond := lw_tbl.filter goodWord
theorem am_tb_in {w : Cond} (h : w ∈ lw_tbl) (hg : goodWord w = true) : w ∈ am_tb := List.mem_filter.mpr ⟨h, hg⟩
theorem am_tb_lw {w : Cond} (h : w ∈ am_tb) : w ∈ lw_tbl := (List.mem_filter.mp h).1
theorem am_tb_good {w : Cond} (h : w ∈ am_tb) : goodWord w = true := (List.mem_filter.mp h).2
theorem am_math_max : am_y 75 = Lib.Math.max.name ∧ lw_tbl[687]? = some (Cond.static Lib.Math.max.name) ∧ lw_tbl[67]? = some (Cond.initialized "java/lang/Math") ∧ lw_tbl[688]? = some (Cond.code Lib.Math.max.name Lib.Math.max.code 2 (some .int)) := by decide +kernel
theorem am_math_min : am_y 90 = Lib.Math.min.name ∧ lw_tbl[747]? = some (Cond.static Lib.Math.min.name) ∧ lw_tbl[67]? = some (Cond.initialized "java/lang/Math") ∧ lw_tbl[748]? = some (Cond.code Lib.Math.min.name Lib.Math.min.code 2 (some .int)) := by decide +kernel
theorem am_math_abs : am_y 64 = Lib.Math.abs.name ∧ lw_tbl[626]? = some (Cond.static Lib.Math.abs.name) ∧ lw_tbl[67]? = some (Cond.initialized "java/lang/Math") ∧ lw_tbl[627]? = some (Cond.code Lib.Math.abs.name Lib.Math.abs.code 1 (some .int)) := by decide +kernel
/-- what is known of a method that is called -/
def am_okM (q : am_M) : Prop := am_cn q.1 = q.2.1.cls ∧ (q.2.1.cls ≠ "java/lang/invoke/MethodHandle" ∧ q.2.1.cls ≠ "java/lang/invoke/VarHandle") ∧ plainName q.2.1.cls = true ∧ Cond.code q.2.1 q.2.2.1 q.2.2.2.1 q.2.2.2.2.1 ∈ lw_tbl ∧ Cond.initialized q.2.1.cls ∈ lw_tbl ∧
  (parseMethodDescriptor q.2.1.desc).map (fun d => d.parameters.length) = some (if q.2.2.2.2.2.2.1 = true then q.2.2.2.2.2.1 else q.2.2.2.2.2.1 - 1) ∧ q.2.2.2.1 ≤ 40 ∧ (q.2.2.2.2.2.2.1 = true → Cond.static q.2.1 ∈ lw_tbl) ∧ (q.2.2.2.2.2.2.1 = false → Cond.instanceMethod q.2.1 ∈ lw_tbl) ∧ (q.2.2.2.2.2.2.1 = false → q.2.2.2.2.2.2.2 = false → Cond.selects q.2.1.cls q.2.1 q.2.1 ∈ lw_tbl) ∧ (q.2.2.2.2.2.2.2 = true → q.2.1.name = "<init>" ∧ q.2.2.2.2.1 = none) ∧ (q.2.2.2.2.2.2.1 = false → 1 ≤ q.2.2.2.2.2.1)
