/-! the classes whose objects the memory holds: 0 Draw, 1 Echo, 2 Lines, 3 Paths, 4 Reader, 5 Stand, 6 Told, 7 Wall, 8 DeafWall, 9 DeafWallModel -/
def nR0 : String := "DeafWall$Draw"
def nT0 : u_T := fun k => match k with
  | _ => ("DeafWall$Draw", "x", "I", false)
def nY0 : Nat → FieldType := fun k => match k with
  | _ => .int
theorem nN0 : ∀ a, a < 1 → ∀ b, b < 1 → a ≠ b → (nT0 a).2.1 ≠ (nT0 b).2.1 := by decide +kernel
theorem nK0 : ∀ k, k < 1 → parseFieldDescriptor (nT0 k).2.2.1 = some (nY0 k) := by decide +kernel
theorem nW0 : ∀ w ∈ u_ws nR0 nT0 1, w ∈ lw_tbl := by
  intro w hw
  rw [show u_ws nR0 nT0 1 = ([814] : List Nat).filterMap (fun i => lw_tbl[i]?) by decide +kernel] at hw
  obtain ⟨i, -, hi⟩ := List.mem_filterMap.mp hw
  exact List.mem_of_getElem? hi
def nR1 : String := "DeafWall$Echo"
def nT1 : u_T := fun k => match k with
  | 0 => ("DeafWall$Echo", "force", "[[I", true)
  | _ => ("DeafWall$Echo", "dead", "[I", true)
def nY1 : Nat → FieldType := fun k => match k with
  | 0 => (.array (.array .int))
  | _ => (.array .int)
theorem nN1 : ∀ a, a < 2 → ∀ b, b < 2 → a ≠ b → (nT1 a).2.1 ≠ (nT1 b).2.1 := by decide +kernel
theorem nK1 : ∀ k, k < 2 → parseFieldDescriptor (nT1 k).2.2.1 = some (nY1 k) := by decide +kernel
theorem nW1 : ∀ w ∈ u_ws nR1 nT1 2, w ∈ lw_tbl := by
  intro w hw
  rw [show u_ws nR1 nT1 2 = ([378, 380] : List Nat).filterMap (fun i => lw_tbl[i]?) by decide +kernel] at hw
  obtain ⟨i, -, hi⟩ := List.mem_filterMap.mp hw
  exact List.mem_of_getElem? hi
def nR2 : String := "DeafWall$Lines"
def nT2 : u_T := fun k => match k with
  | 0 => ("DeafWall$Lines", "size", "I", false)
  | 1 => ("DeafWall$Lines", "kind", "[I", true)
  | 2 => ("DeafWall$Lines", "first", "[I", true)
  | _ => ("DeafWall$Lines", "second", "[I", true)
def nY2 : Nat → FieldType := fun k => match k with
  | 0 => .int
  | 1 => (.array .int)
  | 2 => (.array .int)
  | _ => (.array .int)
theorem nN2 : ∀ a, a < 4 → ∀ b, b < 4 → a ≠ b → (nT2 a).2.1 ≠ (nT2 b).2.1 := by decide +kernel
theorem nK2 : ∀ k, k < 4 → parseFieldDescriptor (nT2 k).2.2.1 = some (nY2 k) := by decide +kernel
theorem nW2 : ∀ w ∈ u_ws nR2 nT2 4, w ∈ lw_tbl := by
  intro w hw
  rw [show u_ws nR2 nT2 4 = ([491, 493, 495, 497] : List Nat).filterMap (fun i => lw_tbl[i]?) by decide +kernel] at hw
  obtain ⟨i, -, hi⟩ := List.mem_filterMap.mp hw
  exact List.mem_of_getElem? hi
def nR3 : String := "DeafWall$Paths"
def nT3 : u_T := fun k => match k with
  | _ => ("DeafWall$Paths", "losses", "[[I", true)
def nY3 : Nat → FieldType := fun k => match k with
  | _ => (.array (.array .int))
theorem nN3 : ∀ a, a < 1 → ∀ b, b < 1 → a ≠ b → (nT3 a).2.1 ≠ (nT3 b).2.1 := by decide +kernel
theorem nK3 : ∀ k, k < 1 → parseFieldDescriptor (nT3 k).2.2.1 = some (nY3 k) := by decide +kernel
theorem nW3 : ∀ w ∈ u_ws nR3 nT3 1, w ∈ lw_tbl := by
  intro w hw
  rw [show u_ws nR3 nT3 1 = ([391] : List Nat).filterMap (fun i => lw_tbl[i]?) by decide +kernel] at hw
  obtain ⟨i, -, hi⟩ := List.mem_filterMap.mp hw
  exact List.mem_of_getElem? hi
def nR4 : String := "DeafWall$Reader"
def nT4 : u_T := fun k => match k with
  | 0 => ("DeafWall$Reader", "wall", "LDeafWall$Wall;", false)
  | 1 => ("DeafWall$Reader", "lines", "LDeafWall$Lines;", false)
  | 2 => ("DeafWall$Reader", "fault", "I", false)
  | 3 => ("DeafWall$Reader", "faultPlace", "I", false)
  | 4 => ("DeafWall$Reader", "tape", "[B", false)
  | 5 => ("DeafWall$Reader", "length", "I", false)
  | 6 => ("DeafWall$Reader", "sort", "I", false)
  | 7 => ("DeafWall$Reader", "token", "I", false)
  | 8 => ("DeafWall$Reader", "place", "I", false)
  | 9 => ("DeafWall$Reader", "behind", "I", false)
  | 10 => ("DeafWall$Reader", "number", "I", false)
  | 11 => ("DeafWall$Reader", "toldFeelers", "I", false)
  | 12 => ("DeafWall$Reader", "toldTales", "I", false)
  | 13 => ("DeafWall$Reader", "toldLines", "I", false)
  | _ => ("DeafWall$Reader", "farthestCell", "I", false)
def nY4 : Nat → FieldType := fun k => match k with
  | 0 => (.object "DeafWall$Wall")
  | 1 => (.object "DeafWall$Lines")
  | 2 => .int
  | 3 => .int
  | 4 => (.array .byte)
  | 5 => .int
  | 6 => .int
  | 7 => .int
  | 8 => .int
  | 9 => .int
  | 10 => .int
  | 11 => .int
  | 12 => .int
  | 13 => .int
  | _ => .int
theorem nN4 : ∀ a, a < 15 → ∀ b, b < 15 → a ≠ b → (nT4 a).2.1 ≠ (nT4 b).2.1 := by decide +kernel
theorem nK4 : ∀ k, k < 15 → parseFieldDescriptor (nT4 k).2.2.1 = some (nY4 k) := by decide +kernel
theorem nW4 : ∀ w ∈ u_ws nR4 nT4 15, w ∈ lw_tbl := by
  intro w hw
  rw [show u_ws nR4 nT4 15 = ([215, 217, 219, 221, 223, 225, 227, 229, 231, 233, 235, 237, 239, 241, 243] : List Nat).filterMap (fun i => lw_tbl[i]?) by decide +kernel] at hw
  obtain ⟨i, -, hi⟩ := List.mem_filterMap.mp hw
  exact List.mem_of_getElem? hi
def nR5 : String := "DeafWall$Stand"
def nT5 : u_T := fun k => match k with
  | 0 => ("DeafWall$Stand", "wall", "LDeafWall$Wall;", false)
  | 1 => ("DeafWall$Stand", "beats", "I", false)
  | 2 => ("DeafWall$Stand", "hushed", "I", false)
  | 3 => ("DeafWall$Stand", "force", "[I", false)
  | 4 => ("DeafWall$Stand", "ahead", "[I", false)
  | 5 => ("DeafWall$Stand", "dead", "[I", true)
  | 6 => ("DeafWall$Stand", "cell", "[I", true)
  | 7 => ("DeafWall$Stand", "felt", "[I", true)
  | 8 => ("DeafWall$Stand", "toldTales", "[I", true)
  | 9 => ("DeafWall$Stand", "marks", "[I", true)
  | 10 => ("DeafWall$Stand", "mostFelt", "I", false)
  | 11 => ("DeafWall$Stand", "firstFelt", "I", false)
  | 12 => ("DeafWall$Stand", "busiest", "I", false)
  | 13 => ("DeafWall$Stand", "pushed", "I", false)
  | 14 => ("DeafWall$Stand", "silent", "I", false)
  | _ => ("DeafWall$Stand", "strolls", "I", false)
def nY5 : Nat → FieldType := fun k => match k with
  | 0 => (.object "DeafWall$Wall")
  | 1 => .int
  | 2 => .int
  | 3 => (.array .int)
  | 4 => (.array .int)
  | 5 => (.array .int)
  | 6 => (.array .int)
  | 7 => (.array .int)
  | 8 => (.array .int)
  | 9 => (.array .int)
  | 10 => .int
  | 11 => .int
  | 12 => .int
  | 13 => .int
  | 14 => .int
  | _ => .int
theorem nN5 : ∀ a, a < 16 → ∀ b, b < 16 → a ≠ b → (nT5 a).2.1 ≠ (nT5 b).2.1 := by decide +kernel
theorem nK5 : ∀ k, k < 16 → parseFieldDescriptor (nT5 k).2.2.1 = some (nY5 k) := by decide +kernel
theorem nW5 : ∀ w ∈ u_ws nR5 nT5 16, w ∈ lw_tbl := by
  intro w hw
  rw [show u_ws nR5 nT5 16 = ([335, 337, 339, 341, 343, 345, 347, 349, 351, 353, 355, 357, 359, 361, 363, 365] : List Nat).filterMap (fun i => lw_tbl[i]?) by decide +kernel] at hw
  obtain ⟨i, -, hi⟩ := List.mem_filterMap.mp hw
  exact List.mem_of_getElem? hi
def nR6 : String := "DeafWall$Told"
def nT6 : u_T := fun k => match k with
  | 0 => ("DeafWall$Told", "tape", "[B", true)
  | 1 => ("DeafWall$Told", "length", "I", false)
  | 2 => ("DeafWall$Told", "fault", "I", false)
  | 3 => ("DeafWall$Told", "place", "I", false)
  | 4 => ("DeafWall$Told", "counts", "[I", true)
  | 5 => ("DeafWall$Told", "walls", "[LDeafWall$Wall;", true)
  | 6 => ("DeafWall$Told", "days", "[LDeafWall$Lines;", true)
  | _ => ("DeafWall$Told", "logs", "[LDeafWall$Lines;", true)
def nY6 : Nat → FieldType := fun k => match k with
  | 0 => (.array .byte)
  | 1 => .int
  | 2 => .int
  | 3 => .int
  | 4 => (.array .int)
  | 5 => (.array (.object "DeafWall$Wall"))
  | 6 => (.array (.object "DeafWall$Lines"))
  | _ => (.array (.object "DeafWall$Lines"))
theorem nN6 : ∀ a, a < 8 → ∀ b, b < 8 → a ≠ b → (nT6 a).2.1 ≠ (nT6 b).2.1 := by decide +kernel
theorem nK6 : ∀ k, k < 8 → parseFieldDescriptor (nT6 k).2.2.1 = some (nY6 k) := by decide +kernel
theorem nW6 : ∀ w ∈ u_ws nR6 nT6 8, w ∈ lw_tbl := by
  intro w hw
  rw [show u_ws nR6 nT6 8 = ([170, 172, 174, 176, 178, 180, 182, 184] : List Nat).filterMap (fun i => lw_tbl[i]?) by decide +kernel] at hw
  obtain ⟨i, -, hi⟩ := List.mem_filterMap.mp hw
  exact List.mem_of_getElem? hi
def nR7 : String := "DeafWall$Wall"
def nT7 : u_T := fun k => match k with
  | 0 => ("DeafWall$Wall", "columns", "I", false)
  | 1 => ("DeafWall$Wall", "rows", "I", false)
  | 2 => ("DeafWall$Wall", "source", "I", false)
  | 3 => ("DeafWall$Wall", "dead", "[I", true)
  | 4 => ("DeafWall$Wall", "feelers", "I", false)
  | 5 => ("DeafWall$Wall", "feelerCell", "[I", true)
  | 6 => ("DeafWall$Wall", "tender", "[I", true)
  | 7 => ("DeafWall$Wall", "tales", "I", false)
  | 8 => ("DeafWall$Wall", "taleLength", "[I", true)
  | _ => ("DeafWall$Wall", "taleMarks", "[I", true)
def nY7 : Nat → FieldType := fun k => match k with
  | 0 => .int
  | 1 => .int
  | 2 => .int
  | 3 => (.array .int)
  | 4 => .int
  | 5 => (.array .int)
  | 6 => (.array .int)
  | 7 => .int
  | 8 => (.array .int)
  | _ => (.array .int)
theorem nN7 : ∀ a, a < 10 → ∀ b, b < 10 → a ≠ b → (nT7 a).2.1 ≠ (nT7 b).2.1 := by decide +kernel
theorem nK7 : ∀ k, k < 10 → parseFieldDescriptor (nT7 k).2.2.1 = some (nY7 k) := by decide +kernel
theorem nW7 : ∀ w ∈ u_ws nR7 nT7 10, w ∈ lw_tbl := by
  intro w hw
  rw [show u_ws nR7 nT7 10 = ([293, 295, 297, 299, 301, 303, 305, 307, 309, 311] : List Nat).filterMap (fun i => lw_tbl[i]?) by decide +kernel] at hw
  obtain ⟨i, -, hi⟩ := List.mem_filterMap.mp hw
  exact List.mem_of_getElem? hi
def nR8 : String := "DeafWall"
def nT8 : u_T := fun k => match k with
  | 0 => ("DeafWall", "told", "LDeafWall$Told;", true)
  | 1 => ("DeafWall", "images", "[LDeafWall$Told;", true)
  | 2 => ("DeafWall", "reader", "LDeafWall$Reader;", true)
  | 3 => ("DeafWall", "stand", "LDeafWall$Stand;", true)
  | 4 => ("DeafWall", "echo", "LDeafWall$Echo;", true)
  | 5 => ("DeafWall", "paths", "LDeafWall$Paths;", true)
  | 6 => ("DeafWall", "heard", "[I", true)
  | 7 => ("DeafWall", "fitting", "[I", true)
  | 8 => ("DeafWall", "tally", "[I", true)
  | 9 => ("DeafWall", "worst", "[I", true)
  | 10 => ("DeafWall", "games", "[I", true)
  | 11 => ("DeafWall", "heardByOne", "[I", true)
  | 12 => ("DeafWall", "heardByOther", "[I", true)
  | 13 => ("DeafWall", "strengths", "[J", true)
  | 14 => ("DeafWall", "waysByLength", "[J", true)
  | _ => ("DeafWall", "shortest", "[I", true)
def nY8 : Nat → FieldType := fun k => match k with
  | 0 => (.object "DeafWall$Told")
  | 1 => (.array (.object "DeafWall$Told"))
  | 2 => (.object "DeafWall$Reader")
  | 3 => (.object "DeafWall$Stand")
  | 4 => (.object "DeafWall$Echo")
  | 5 => (.object "DeafWall$Paths")
  | 6 => (.array .int)
  | 7 => (.array .int)
  | 8 => (.array .int)
  | 9 => (.array .int)
  | 10 => (.array .int)
  | 11 => (.array .int)
  | 12 => (.array .int)
  | 13 => (.array .long)
  | 14 => (.array .long)
  | _ => (.array .int)
theorem nN8 : ∀ a, a < 16 → ∀ b, b < 16 → a ≠ b → (nT8 a).2.1 ≠ (nT8 b).2.1 := by decide +kernel
theorem nK8 : ∀ k, k < 16 → parseFieldDescriptor (nT8 k).2.2.1 = some (nY8 k) := by decide +kernel
theorem nW8 : ∀ w ∈ u_ws nR8 nT8 16, w ∈ lw_tbl := by
  intro w hw
  rw [show u_ws nR8 nT8 16 = ([410, 412, 414, 416, 418, 420, 422, 424, 426, 428, 430, 432, 434, 436, 438, 440] : List Nat).filterMap (fun i => lw_tbl[i]?) by decide +kernel] at hw
  obtain ⟨i, -, hi⟩ := List.mem_filterMap.mp hw
  exact List.mem_of_getElem? hi
def nR9 : String := "DeafWallModel"
def nT9 : u_T := fun k => match k with
  | 0 => ("DeafWallModel", "all", "[I", true)
  | 1 => ("DeafWallModel", "has", "[Z", true)
  | 2 => ("DeafWallModel", "size", "I", false)
  | 3 => ("DeafWallModel", "next", "I", false)
  | 4 => ("DeafWallModel", "where", "I", false)
  | 5 => ("DeafWallModel", "token", "I", false)
  | 6 => ("DeafWallModel", "number", "I", false)
  | 7 => ("DeafWallModel", "word", "I", false)
  | 8 => ("DeafWallModel", "wrong", "Z", false)
  | 9 => ("DeafWallModel", "farCell", "I", false)
  | 10 => ("DeafWallModel", "read", "[I", true)
  | 11 => ("DeafWallModel", "w0", "I", false)
  | 12 => ("DeafWallModel", "columns", "I", false)
  | 13 => ("DeafWallModel", "cells", "I", false)
  | 14 => ("DeafWallModel", "source", "I", false)
  | 15 => ("DeafWallModel", "feelers", "I", false)
  | 16 => ("DeafWallModel", "tales", "I", false)
  | 17 => ("DeafWallModel", "beats", "I", false)
  | 18 => ("DeafWallModel", "hushed", "I", false)
  | 19 => ("DeafWallModel", "done", "I", false)
  | 20 => ("DeafWallModel", "strolls", "I", false)
  | 21 => ("DeafWallModel", "pushed", "I", false)
  | 22 => ("DeafWallModel", "forces", "I", false)
  | 23 => ("DeafWallModel", "dead", "[I", true)
  | 24 => ("DeafWallModel", "force", "[I", true)
  | 25 => ("DeafWallModel", "ahead", "[I", true)
  | 26 => ("DeafWallModel", "sits", "[I", true)
  | 27 => ("DeafWallModel", "marks", "[I", true)
  | 28 => ("DeafWallModel", "felt", "[I", true)
  | 29 => ("DeafWallModel", "told", "[I", true)
  | 30 => ("DeafWallModel", "feels", "[I", true)
  | 31 => ("DeafWallModel", "rowWorth", "[I", true)
  | 32 => ("DeafWallModel", "weaker", "[J", true)
  | 33 => ("DeafWallModel", "rowLong", "[I", true)
  | 34 => ("DeafWallModel", "waysOf", "[J", true)
  | 35 => ("DeafWallModel", "lost", "[I", true)
  | 36 => ("DeafWallModel", "d0", "I", false)
  | 37 => ("DeafWallModel", "l0", "I", false)
  | 38 => ("DeafWallModel", "fitMany", "I", false)
  | 39 => ("DeafWallModel", "fitAll", "I", false)
  | 40 => ("DeafWallModel", "fitAny", "I", false)
  | 41 => ("DeafWallModel", "fitFew", "I", false)
  | 42 => ("DeafWallModel", "fitMost", "I", false)
  | 43 => ("DeafWallModel", "fitFeels", "[I", true)
  | 44 => ("DeafWallModel", "fitPush", "[I", true)
  | _ => ("DeafWallModel", "x0", "I", false)
def nY9 : Nat → FieldType := fun k => match k with
  | 0 => (.array .int)
  | 1 => (.array .boolean)
  | 2 => .int
  | 3 => .int
  | 4 => .int
  | 5 => .int
  | 6 => .int
  | 7 => .int
  | 8 => .boolean
  | 9 => .int
  | 10 => (.array .int)
  | 11 => .int
  | 12 => .int
  | 13 => .int
  | 14 => .int
  | 15 => .int
  | 16 => .int
  | 17 => .int
  | 18 => .int
  | 19 => .int
  | 20 => .int
  | 21 => .int
  | 22 => .int
  | 23 => (.array .int)
  | 24 => (.array .int)
  | 25 => (.array .int)
  | 26 => (.array .int)
  | 27 => (.array .int)
  | 28 => (.array .int)
  | 29 => (.array .int)
  | 30 => (.array .int)
  | 31 => (.array .int)
  | 32 => (.array .long)
  | 33 => (.array .int)
  | 34 => (.array .long)
  | 35 => (.array .int)
  | 36 => .int
  | 37 => .int
  | 38 => .int
  | 39 => .int
  | 40 => .int
  | 41 => .int
  | 42 => .int
  | 43 => (.array .int)
  | 44 => (.array .int)
  | _ => .int
theorem nN9 : ∀ a, a < 46 → ∀ b, b < 46 → a ≠ b → (nT9 a).2.1 ≠ (nT9 b).2.1 := by decide +kernel
theorem nK9 : ∀ k, k < 46 → parseFieldDescriptor (nT9 k).2.2.1 = some (nY9 k) := by decide +kernel
theorem nW9 : ∀ w ∈ u_ws nR9 nT9 46, w ∈ lw_tbl := by
  intro w hw
  rw [show u_ws nR9 nT9 46 = ([1181, 1183, 1185, 1187, 1189, 1191, 1193, 1195, 1197, 1199, 1201, 1203, 1205, 1207, 1209, 1211, 1213, 1215, 1217, 1219, 1221, 1223, 1225, 1227, 1229, 1231, 1233, 1235, 1237, 1239, 1241, 1243, 1245, 1247, 1249, 1251, 1253, 1255, 1257, 1259, 1261, 1263, 1265, 1267, 1269, 1271] : List Nat).filterMap (fun i => lw_tbl[i]?) by decide +kernel] at hw
  obtain ⟨i, -, hi⟩ := List.mem_filterMap.mp hw
  exact List.mem_of_getElem? hi
abbrev cls : List vw_C := [(nR0, nT0, 1), (nR1, nT1, 2), (nR2, nT2, 4), (nR3, nT3, 1), (nR4, nT4, 15), (nR5, nT5, 16), (nR6, nT6, 8), (nR7, nT7, 10), (nR8, nT8, 16), (nR9, nT9, 46)]
