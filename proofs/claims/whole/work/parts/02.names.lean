/-! names of the classes, fields and methods; rows that decode each instruction; words of the tables by their places. Written by wip/gen/names.py -/
def R_BT : String := "BookTrees"
def F_BT : u_T := fun k => match k with
  | 0 => ("BookTrees", "power", "LBookTrees$Power;", true)
  | 1 => ("BookTrees", "roll", "LBookTrees$Roll;", true)
  | 2 => ("BookTrees", "draft", "LBookTrees$Draft;", true)
  | 3 => ("BookTrees", "shelf", "LBookTrees$Shelf;", true)
  | _ => ("BookTrees", "pages", "LBookTrees$Pages;", true)
def t_BT : Nat → FieldType := fun k => match k with
  | 0 => .object "BookTrees$Power"
  | 1 => .object "BookTrees$Roll"
  | 2 => .object "BookTrees$Draft"
  | 3 => .object "BookTrees$Shelf"
  | _ => .object "BookTrees$Pages"
theorem nm_BT : ∀ a, a < 5 → ∀ b, b < 5 → a ≠ b → (F_BT a).2.1 ≠ (F_BT b).2.1 := by decide +kernel
theorem to_BT : ∀ k, k < 5 → parseFieldDescriptor (F_BT k).2.2.1 = some (t_BT k) := by decide +kernel
theorem ly_BT_0 : u_lay R_BT F_BT 0 ∈ lw_g := gw (List.mem_of_getElem? (i := 192) (by decide +kernel)) rfl
theorem ly_BT_1 : u_lay R_BT F_BT 1 ∈ lw_g := gw (List.mem_of_getElem? (i := 194) (by decide +kernel)) rfl
theorem ly_BT_2 : u_lay R_BT F_BT 2 ∈ lw_g := gw (List.mem_of_getElem? (i := 196) (by decide +kernel)) rfl
theorem ly_BT_3 : u_lay R_BT F_BT 3 ∈ lw_g := gw (List.mem_of_getElem? (i := 198) (by decide +kernel)) rfl
theorem ly_BT_4 : u_lay R_BT F_BT 4 ∈ lw_g := gw (List.mem_of_getElem? (i := 200) (by decide +kernel)) rfl
theorem in_BT : ∀ w ∈ u_ws R_BT F_BT 5, w ∈ lw_g := by
  intro w hw
  obtain ⟨k, hk, rfl⟩ := List.mem_map.mp hw
  have hk := List.mem_range.mp hk
  match k, hk with
  | 0, _ => exact ly_BT_0
  | 1, _ => exact ly_BT_1
  | 2, _ => exact ly_BT_2
  | 3, _ => exact ly_BT_3
  | 4, _ => exact ly_BT_4
  | k + 5, hk => exact absurd hk (by omega)
def R_PW : String := "BookTrees$Power"
def F_PW : u_T := fun k => match k with
  | 0 => ("BookTrees$Power", "failed", "Z", false)
  | 1 => ("BookTrees$Power", "bytesLeft", "I", false)
  | _ => ("BookTrees$Power", "written", "I", false)
def t_PW : Nat → FieldType := fun k => match k with
  | 0 => .boolean
  | 1 => .int
  | _ => .int
theorem nm_PW : ∀ a, a < 3 → ∀ b, b < 3 → a ≠ b → (F_PW a).2.1 ≠ (F_PW b).2.1 := by decide +kernel
theorem to_PW : ∀ k, k < 3 → parseFieldDescriptor (F_PW k).2.2.1 = some (t_PW k) := by decide +kernel
theorem ly_PW_0 : u_lay R_PW F_PW 0 ∈ lw_g := gw (List.mem_of_getElem? (i := 86) (by decide +kernel)) rfl
theorem ly_PW_1 : u_lay R_PW F_PW 1 ∈ lw_g := gw (List.mem_of_getElem? (i := 88) (by decide +kernel)) rfl
theorem ly_PW_2 : u_lay R_PW F_PW 2 ∈ lw_g := gw (List.mem_of_getElem? (i := 90) (by decide +kernel)) rfl
theorem in_PW : ∀ w ∈ u_ws R_PW F_PW 3, w ∈ lw_g := by
  intro w hw
  obtain ⟨k, hk, rfl⟩ := List.mem_map.mp hw
  have hk := List.mem_range.mp hk
  match k, hk with
  | 0, _ => exact ly_PW_0
  | 1, _ => exact ly_PW_1
  | 2, _ => exact ly_PW_2
  | k + 3, hk => exact absurd hk (by omega)
def R_RL : String := "BookTrees$Roll"
def F_RL : u_T := fun k => match k with
  | 0 => ("BookTrees$Roll", "power", "LBookTrees$Power;", true)
  | 1 => ("BookTrees$Roll", "slots", "I", true)
  | 2 => ("BookTrees$Roll", "bytes", "[B", true)
  | 3 => ("BookTrees$Roll", "torn", "[Z", true)
  | 4 => ("BookTrees$Roll", "sheet", "[B", true)
  | 5 => ("BookTrees$Roll", "start", "I", false)
  | _ => ("BookTrees$Roll", "end", "I", false)
def t_RL : Nat → FieldType := fun k => match k with
  | 0 => .object "BookTrees$Power"
  | 1 => .int
  | 2 => .array .byte
  | 3 => .array .boolean
  | 4 => .array .byte
  | 5 => .int
  | _ => .int
theorem nm_RL : ∀ a, a < 7 → ∀ b, b < 7 → a ≠ b → (F_RL a).2.1 ≠ (F_RL b).2.1 := by decide +kernel
theorem to_RL : ∀ k, k < 7 → parseFieldDescriptor (F_RL k).2.2.1 = some (t_RL k) := by decide +kernel
theorem ly_RL_0 : u_lay R_RL F_RL 0 ∈ lw_g := gw (List.mem_of_getElem? (i := 112) (by decide +kernel)) rfl
theorem ly_RL_1 : u_lay R_RL F_RL 1 ∈ lw_g := gw (List.mem_of_getElem? (i := 114) (by decide +kernel)) rfl
theorem ly_RL_2 : u_lay R_RL F_RL 2 ∈ lw_g := gw (List.mem_of_getElem? (i := 116) (by decide +kernel)) rfl
theorem ly_RL_3 : u_lay R_RL F_RL 3 ∈ lw_g := gw (List.mem_of_getElem? (i := 118) (by decide +kernel)) rfl
theorem ly_RL_4 : u_lay R_RL F_RL 4 ∈ lw_g := gw (List.mem_of_getElem? (i := 120) (by decide +kernel)) rfl
theorem ly_RL_5 : u_lay R_RL F_RL 5 ∈ lw_g := gw (List.mem_of_getElem? (i := 122) (by decide +kernel)) rfl
theorem ly_RL_6 : u_lay R_RL F_RL 6 ∈ lw_g := gw (List.mem_of_getElem? (i := 124) (by decide +kernel)) rfl
theorem in_RL : ∀ w ∈ u_ws R_RL F_RL 7, w ∈ lw_g := by
  intro w hw
  obtain ⟨k, hk, rfl⟩ := List.mem_map.mp hw
  have hk := List.mem_range.mp hk
  match k, hk with
  | 0, _ => exact ly_RL_0
  | 1, _ => exact ly_RL_1
  | 2, _ => exact ly_RL_2
  | 3, _ => exact ly_RL_3
  | 4, _ => exact ly_RL_4
  | 5, _ => exact ly_RL_5
  | 6, _ => exact ly_RL_6
  | k + 7, hk => exact absurd hk (by omega)
def R_DR : String := "BookTrees$Draft"
def F_DR : u_T := fun k => match k with
  | 0 => ("BookTrees$Draft", "changes", "[I", true)
  | 1 => ("BookTrees$Draft", "values", "[I", true)
  | _ => ("BookTrees$Draft", "size", "I", false)
def t_DR : Nat → FieldType := fun k => match k with
  | 0 => .array .int
  | 1 => .array .int
  | _ => .int
theorem nm_DR : ∀ a, a < 3 → ∀ b, b < 3 → a ≠ b → (F_DR a).2.1 ≠ (F_DR b).2.1 := by decide +kernel
theorem to_DR : ∀ k, k < 3 → parseFieldDescriptor (F_DR k).2.2.1 = some (t_DR k) := by decide +kernel
theorem ly_DR_0 : u_lay R_DR F_DR 0 ∈ lw_g := gw (List.mem_of_getElem? (i := 138) (by decide +kernel)) rfl
theorem ly_DR_1 : u_lay R_DR F_DR 1 ∈ lw_g := gw (List.mem_of_getElem? (i := 140) (by decide +kernel)) rfl
theorem ly_DR_2 : u_lay R_DR F_DR 2 ∈ lw_g := gw (List.mem_of_getElem? (i := 142) (by decide +kernel)) rfl
theorem in_DR : ∀ w ∈ u_ws R_DR F_DR 3, w ∈ lw_g := by
  intro w hw
  obtain ⟨k, hk, rfl⟩ := List.mem_map.mp hw
  have hk := List.mem_range.mp hk
  match k, hk with
  | 0, _ => exact ly_DR_0
  | 1, _ => exact ly_DR_1
  | 2, _ => exact ly_DR_2
  | k + 3, hk => exact absurd hk (by omega)
def R_SH : String := "BookTrees$Shelf"
def F_SH : u_T := fun k => match k with
  | 0 => ("BookTrees$Shelf", "versions", "[I", true)
  | 1 => ("BookTrees$Shelf", "roots", "[I", true)
  | _ => ("BookTrees$Shelf", "size", "I", false)
def t_SH : Nat → FieldType := fun k => match k with
  | 0 => .array .int
  | 1 => .array .int
  | _ => .int
theorem nm_SH : ∀ a, a < 3 → ∀ b, b < 3 → a ≠ b → (F_SH a).2.1 ≠ (F_SH b).2.1 := by decide +kernel
theorem to_SH : ∀ k, k < 3 → parseFieldDescriptor (F_SH k).2.2.1 = some (t_SH k) := by decide +kernel
theorem ly_SH_0 : u_lay R_SH F_SH 0 ∈ lw_g := gw (List.mem_of_getElem? (i := 155) (by decide +kernel)) rfl
theorem ly_SH_1 : u_lay R_SH F_SH 1 ∈ lw_g := gw (List.mem_of_getElem? (i := 157) (by decide +kernel)) rfl
theorem ly_SH_2 : u_lay R_SH F_SH 2 ∈ lw_g := gw (List.mem_of_getElem? (i := 159) (by decide +kernel)) rfl
theorem in_SH : ∀ w ∈ u_ws R_SH F_SH 3, w ∈ lw_g := by
  intro w hw
  obtain ⟨k, hk, rfl⟩ := List.mem_map.mp hw
  have hk := List.mem_range.mp hk
  match k, hk with
  | 0, _ => exact ly_SH_0
  | 1, _ => exact ly_SH_1
  | 2, _ => exact ly_SH_2
  | k + 3, hk => exact absurd hk (by omega)
def R_PG : String := "BookTrees$Pages"
def F_PG : u_T := fun k => match k with
  | 0 => ("BookTrees$Pages", "marked", "[Z", true)
  | 1 => ("BookTrees$Pages", "bits", "[I", true)
  | 2 => ("BookTrees$Pages", "entries", "[I", true)
  | 3 => ("BookTrees$Pages", "blocks", "[I", true)
  | 4 => ("BookTrees$Pages", "rootEntries", "[I", true)
  | _ => ("BookTrees$Pages", "rowCount", "I", false)
def t_PG : Nat → FieldType := fun k => match k with
  | 0 => .array .boolean
  | 1 => .array .int
  | 2 => .array .int
  | 3 => .array .int
  | 4 => .array .int
  | _ => .int
theorem nm_PG : ∀ a, a < 6 → ∀ b, b < 6 → a ≠ b → (F_PG a).2.1 ≠ (F_PG b).2.1 := by decide +kernel
theorem to_PG : ∀ k, k < 6 → parseFieldDescriptor (F_PG k).2.2.1 = some (t_PG k) := by decide +kernel
theorem ly_PG_0 : u_lay R_PG F_PG 0 ∈ lw_g := gw (List.mem_of_getElem? (i := 174) (by decide +kernel)) rfl
theorem ly_PG_1 : u_lay R_PG F_PG 1 ∈ lw_g := gw (List.mem_of_getElem? (i := 176) (by decide +kernel)) rfl
theorem ly_PG_2 : u_lay R_PG F_PG 2 ∈ lw_g := gw (List.mem_of_getElem? (i := 178) (by decide +kernel)) rfl
theorem ly_PG_3 : u_lay R_PG F_PG 3 ∈ lw_g := gw (List.mem_of_getElem? (i := 180) (by decide +kernel)) rfl
theorem ly_PG_4 : u_lay R_PG F_PG 4 ∈ lw_g := gw (List.mem_of_getElem? (i := 182) (by decide +kernel)) rfl
theorem ly_PG_5 : u_lay R_PG F_PG 5 ∈ lw_g := gw (List.mem_of_getElem? (i := 184) (by decide +kernel)) rfl
theorem in_PG : ∀ w ∈ u_ws R_PG F_PG 6, w ∈ lw_g := by
  intro w hw
  obtain ⟨k, hk, rfl⟩ := List.mem_map.mp hw
  have hk := List.mem_range.mp hk
  match k, hk with
  | 0, _ => exact ly_PG_0
  | 1, _ => exact ly_PG_1
  | 2, _ => exact ly_PG_2
  | 3, _ => exact ly_PG_3
  | 4, _ => exact ly_PG_4
  | 5, _ => exact ly_PG_5
  | k + 6, hk => exact absurd hk (by omega)
def R_MO : String := "BookTreesModel"
def F_MO : u_T := fun k => match k with
  | 0 => ("BookTreesModel", "refusal", "I", false)
  | 1 => ("BookTreesModel", "slots", "I", true)
  | 2 => ("BookTreesModel", "roll", "[I", true)
  | 3 => ("BookTreesModel", "isTorn", "[Z", true)
  | 4 => ("BookTreesModel", "start", "I", false)
  | 5 => ("BookTreesModel", "end", "I", false)
  | 6 => ("BookTreesModel", "newest", "I", false)
  | 7 => ("BookTreesModel", "isDown", "Z", false)
  | 8 => ("BookTreesModel", "power", "I", false)
  | 9 => ("BookTreesModel", "written", "I", false)
  | 10 => ("BookTreesModel", "roots", "I", false)
  | 11 => ("BookTreesModel", "versions", "[I", true)
  | 12 => ("BookTreesModel", "rootBlocks", "[I", true)
  | 13 => ("BookTreesModel", "draft", "I", false)
  | 14 => ("BookTreesModel", "changes", "[I", true)
  | 15 => ("BookTreesModel", "values", "[I", true)
  | 16 => ("BookTreesModel", "isChanged", "[Z", true)
  | 17 => ("BookTreesModel", "leafBits", "[I", true)
  | 18 => ("BookTreesModel", "rows", "[I", true)
  | 19 => ("BookTreesModel", "nodeBits", "[I", true)
  | 20 => ("BookTreesModel", "leafBlocks", "[I", true)
  | 21 => ("BookTreesModel", "topBits", "I", false)
  | 22 => ("BookTreesModel", "nodeBlocks", "[I", true)
  | 23 => ("BookTreesModel", "rowCount", "I", false)
  | 24 => ("BookTreesModel", "made", "[I", true)
  | _ => ("BookTreesModel", "next", "I", false)
def t_MO : Nat → FieldType := fun k => match k with
  | 0 => .int
  | 1 => .int
  | 2 => .array .int
  | 3 => .array .boolean
  | 4 => .int
  | 5 => .int
  | 6 => .int
  | 7 => .boolean
  | 8 => .int
  | 9 => .int
  | 10 => .int
  | 11 => .array .int
  | 12 => .array .int
  | 13 => .int
  | 14 => .array .int
  | 15 => .array .int
  | 16 => .array .boolean
  | 17 => .array .int
  | 18 => .array .int
  | 19 => .array .int
  | 20 => .array .int
  | 21 => .int
  | 22 => .array .int
  | 23 => .int
  | 24 => .array .int
  | _ => .int
theorem nm_MO : ∀ a, a < 26 → ∀ b, b < 26 → a ≠ b → (F_MO a).2.1 ≠ (F_MO b).2.1 := by decide +kernel
theorem to_MO : ∀ k, k < 26 → parseFieldDescriptor (F_MO k).2.2.1 = some (t_MO k) := by decide +kernel
theorem ly_MO_0 : u_lay R_MO F_MO 0 ∈ lw_g := gw (List.mem_of_getElem? (i := 739) (by decide +kernel)) rfl
theorem ly_MO_1 : u_lay R_MO F_MO 1 ∈ lw_g := gw (List.mem_of_getElem? (i := 741) (by decide +kernel)) rfl
theorem ly_MO_2 : u_lay R_MO F_MO 2 ∈ lw_g := gw (List.mem_of_getElem? (i := 743) (by decide +kernel)) rfl
theorem ly_MO_3 : u_lay R_MO F_MO 3 ∈ lw_g := gw (List.mem_of_getElem? (i := 745) (by decide +kernel)) rfl
theorem ly_MO_4 : u_lay R_MO F_MO 4 ∈ lw_g := gw (List.mem_of_getElem? (i := 747) (by decide +kernel)) rfl
theorem ly_MO_5 : u_lay R_MO F_MO 5 ∈ lw_g := gw (List.mem_of_getElem? (i := 749) (by decide +kernel)) rfl
theorem ly_MO_6 : u_lay R_MO F_MO 6 ∈ lw_g := gw (List.mem_of_getElem? (i := 751) (by decide +kernel)) rfl
theorem ly_MO_7 : u_lay R_MO F_MO 7 ∈ lw_g := gw (List.mem_of_getElem? (i := 753) (by decide +kernel)) rfl
theorem ly_MO_8 : u_lay R_MO F_MO 8 ∈ lw_g := gw (List.mem_of_getElem? (i := 755) (by decide +kernel)) rfl
theorem ly_MO_9 : u_lay R_MO F_MO 9 ∈ lw_g := gw (List.mem_of_getElem? (i := 757) (by decide +kernel)) rfl
theorem ly_MO_10 : u_lay R_MO F_MO 10 ∈ lw_g := gw (List.mem_of_getElem? (i := 759) (by decide +kernel)) rfl
theorem ly_MO_11 : u_lay R_MO F_MO 11 ∈ lw_g := gw (List.mem_of_getElem? (i := 761) (by decide +kernel)) rfl
theorem ly_MO_12 : u_lay R_MO F_MO 12 ∈ lw_g := gw (List.mem_of_getElem? (i := 763) (by decide +kernel)) rfl
theorem ly_MO_13 : u_lay R_MO F_MO 13 ∈ lw_g := gw (List.mem_of_getElem? (i := 765) (by decide +kernel)) rfl
theorem ly_MO_14 : u_lay R_MO F_MO 14 ∈ lw_g := gw (List.mem_of_getElem? (i := 767) (by decide +kernel)) rfl
theorem ly_MO_15 : u_lay R_MO F_MO 15 ∈ lw_g := gw (List.mem_of_getElem? (i := 769) (by decide +kernel)) rfl
theorem ly_MO_16 : u_lay R_MO F_MO 16 ∈ lw_g := gw (List.mem_of_getElem? (i := 771) (by decide +kernel)) rfl
theorem ly_MO_17 : u_lay R_MO F_MO 17 ∈ lw_g := gw (List.mem_of_getElem? (i := 773) (by decide +kernel)) rfl
theorem ly_MO_18 : u_lay R_MO F_MO 18 ∈ lw_g := gw (List.mem_of_getElem? (i := 775) (by decide +kernel)) rfl
theorem ly_MO_19 : u_lay R_MO F_MO 19 ∈ lw_g := gw (List.mem_of_getElem? (i := 777) (by decide +kernel)) rfl
theorem ly_MO_20 : u_lay R_MO F_MO 20 ∈ lw_g := gw (List.mem_of_getElem? (i := 779) (by decide +kernel)) rfl
theorem ly_MO_21 : u_lay R_MO F_MO 21 ∈ lw_g := gw (List.mem_of_getElem? (i := 781) (by decide +kernel)) rfl
theorem ly_MO_22 : u_lay R_MO F_MO 22 ∈ lw_g := gw (List.mem_of_getElem? (i := 783) (by decide +kernel)) rfl
theorem ly_MO_23 : u_lay R_MO F_MO 23 ∈ lw_g := gw (List.mem_of_getElem? (i := 785) (by decide +kernel)) rfl
theorem ly_MO_24 : u_lay R_MO F_MO 24 ∈ lw_g := gw (List.mem_of_getElem? (i := 787) (by decide +kernel)) rfl
theorem ly_MO_25 : u_lay R_MO F_MO 25 ∈ lw_g := gw (List.mem_of_getElem? (i := 789) (by decide +kernel)) rfl
theorem in_MO : ∀ w ∈ u_ws R_MO F_MO 26, w ∈ lw_g := by
  intro w hw
  obtain ⟨k, hk, rfl⟩ := List.mem_map.mp hw
  have hk := List.mem_range.mp hk
  match k, hk with
  | 0, _ => exact ly_MO_0
  | 1, _ => exact ly_MO_1
  | 2, _ => exact ly_MO_2
  | 3, _ => exact ly_MO_3
  | 4, _ => exact ly_MO_4
  | 5, _ => exact ly_MO_5
  | 6, _ => exact ly_MO_6
  | 7, _ => exact ly_MO_7
  | 8, _ => exact ly_MO_8
  | 9, _ => exact ly_MO_9
  | 10, _ => exact ly_MO_10
  | 11, _ => exact ly_MO_11
  | 12, _ => exact ly_MO_12
  | 13, _ => exact ly_MO_13
  | 14, _ => exact ly_MO_14
  | 15, _ => exact ly_MO_15
  | 16, _ => exact ly_MO_16
  | 17, _ => exact ly_MO_17
  | 18, _ => exact ly_MO_18
  | 19, _ => exact ly_MO_19
  | 20, _ => exact ly_MO_20
  | 21, _ => exact ly_MO_21
  | 22, _ => exact ly_MO_22
  | 23, _ => exact ly_MO_23
  | 24, _ => exact ly_MO_24
  | 25, _ => exact ly_MO_25
  | k + 26, hk => exact absurd hk (by omega)
def R_LA : String := "BookTreesLaw"
abbrev classes : List vw_C := [(R_BT, F_BT, 5), (R_PW, F_PW, 3), (R_RL, F_RL, 7), (R_DR, F_DR, 3), (R_SH, F_SH, 3), (R_PG, F_PG, 6), (R_MO, F_MO, 26)]
theorem ini_BT : Cond.initialized "BookTrees" ∈ lw_g := gw (List.mem_of_getElem? (i := 55) (by decide +kernel)) rfl
theorem ini_PW : Cond.initialized "BookTrees$Power" ∈ lw_g := gw (List.mem_of_getElem? (i := 56) (by decide +kernel)) rfl
theorem ini_RL : Cond.initialized "BookTrees$Roll" ∈ lw_g := gw (List.mem_of_getElem? (i := 57) (by decide +kernel)) rfl
theorem ini_DR : Cond.initialized "BookTrees$Draft" ∈ lw_g := gw (List.mem_of_getElem? (i := 59) (by decide +kernel)) rfl
theorem ini_SH : Cond.initialized "BookTrees$Shelf" ∈ lw_g := gw (List.mem_of_getElem? (i := 60) (by decide +kernel)) rfl
theorem ini_PG : Cond.initialized "BookTrees$Pages" ∈ lw_g := gw (List.mem_of_getElem? (i := 61) (by decide +kernel)) rfl
theorem ini_MO : Cond.initialized "BookTreesModel" ∈ lw_g := gw (List.mem_of_getElem? (i := 62) (by decide +kernel)) rfl
theorem ini_JM : Cond.initialized "java/lang/Math" ∈ lw_g := gw (List.mem_of_getElem? (i := 58) (by decide +kernel)) rfl
theorem ini_LA : Cond.initialized "BookTreesLaw" ∈ lw_g := gw (List.mem_of_getElem? (i := 54) (by decide +kernel)) rfl
theorem ac_int : Cond.arrayClass .int ∈ lw_g := gw (List.mem_of_getElem? (i := 145) (by decide +kernel)) rfl
theorem ac_boolean : Cond.arrayClass .boolean ∈ lw_g := gw (List.mem_of_getElem? (i := 128) (by decide +kernel)) rfl
theorem ac_byte : Cond.arrayClass .byte ∈ lw_g := gw (List.mem_of_getElem? (i := 127) (by decide +kernel)) rfl
theorem ac_long : Cond.arrayClass .long ∈ lw_g := gw (List.mem_of_getElem? (i := 1008) (by decide +kernel)) rfl
theorem kc_LA_8 : Cond.classLink "BookTreesLaw" (8 : Nat) "BookTrees" ∈ lw_g := gw (List.mem_of_getElem? (i := 69) (by decide +kernel)) rfl
theorem km_LA_71 : Cond.methodLink "BookTreesLaw" (71 : Nat) ({ cls := "BookTrees", name := "<init>", desc := "(I)V" } : MethodName) ∈ lw_g := gw (List.mem_of_getElem? (i := 71) (by decide +kernel)) rfl
theorem km_BT_1 : Cond.methodLink "BookTrees" (1 : Nat) ({ cls := "java/lang/Object", name := "<init>", desc := "()V" } : MethodName) ∈ lw_g := gw (List.mem_of_getElem? (i := 74) (by decide +kernel)) rfl
theorem kc_BT_7 : Cond.classLink "BookTrees" (7 : Nat) "BookTrees$Power" ∈ lw_g := gw (List.mem_of_getElem? (i := 77) (by decide +kernel)) rfl
theorem km_BT_9 : Cond.methodLink "BookTrees" (9 : Nat) ({ cls := "BookTrees$Power", name := "<init>", desc := "()V" } : MethodName) ∈ lw_g := gw (List.mem_of_getElem? (i := 79) (by decide +kernel)) rfl
theorem km_PW_3 : Cond.methodLink "BookTrees$Power" (3 : Nat) ({ cls := "java/lang/Object", name := "<init>", desc := "()V" } : MethodName) ∈ lw_g := gw (List.mem_of_getElem? (i := 82) (by decide +kernel)) rfl
theorem kf_PW_15 : Cond.fieldLink "BookTrees$Power" (15 : Nat) "BookTrees$Power" "failed" "Z" ∈ lw_g := gw (List.mem_of_getElem? (i := 83) (by decide +kernel)) rfl
theorem kf_PW_9 : Cond.fieldLink "BookTrees$Power" (9 : Nat) "BookTrees$Power" "bytesLeft" "I" ∈ lw_g := gw (List.mem_of_getElem? (i := 84) (by decide +kernel)) rfl
theorem kf_PW_19 : Cond.fieldLink "BookTrees$Power" (19 : Nat) "BookTrees$Power" "written" "I" ∈ lw_g := gw (List.mem_of_getElem? (i := 85) (by decide +kernel)) rfl
theorem kc_BT_16 : Cond.classLink "BookTrees" (16 : Nat) "BookTrees$Roll" ∈ lw_g := gw (List.mem_of_getElem? (i := 93) (by decide +kernel)) rfl
theorem km_BT_18 : Cond.methodLink "BookTrees" (18 : Nat) ({ cls := "BookTrees$Roll", name := "<init>", desc := "(ILBookTrees$Power;)V" } : MethodName) ∈ lw_g := gw (List.mem_of_getElem? (i := 95) (by decide +kernel)) rfl
theorem km_RL_3 : Cond.methodLink "BookTrees$Roll" (3 : Nat) ({ cls := "java/lang/Object", name := "<init>", desc := "()V" } : MethodName) ∈ lw_g := gw (List.mem_of_getElem? (i := 98) (by decide +kernel)) rfl
theorem km_RL_19 : Cond.methodLink "BookTrees$Roll" (19 : Nat) ({ cls := "java/lang/Math", name := "min", desc := "(II)I" } : MethodName) ∈ lw_g := gw (List.mem_of_getElem? (i := 99) (by decide +kernel)) rfl
theorem km_RL_25 : Cond.methodLink "BookTrees$Roll" (25 : Nat) ({ cls := "java/lang/Math", name := "max", desc := "(II)I" } : MethodName) ∈ lw_g := gw (List.mem_of_getElem? (i := 102) (by decide +kernel)) rfl
theorem kf_RL_15 : Cond.fieldLink "BookTrees$Roll" (15 : Nat) "BookTrees$Roll" "power" "LBookTrees$Power;" ∈ lw_g := gw (List.mem_of_getElem? (i := 105) (by decide +kernel)) rfl
theorem kf_RL_28 : Cond.fieldLink "BookTrees$Roll" (28 : Nat) "BookTrees$Roll" "slots" "I" ∈ lw_g := gw (List.mem_of_getElem? (i := 106) (by decide +kernel)) rfl
theorem kf_RL_32 : Cond.fieldLink "BookTrees$Roll" (32 : Nat) "BookTrees$Roll" "bytes" "[B" ∈ lw_g := gw (List.mem_of_getElem? (i := 107) (by decide +kernel)) rfl
theorem kf_RL_35 : Cond.fieldLink "BookTrees$Roll" (35 : Nat) "BookTrees$Roll" "torn" "[Z" ∈ lw_g := gw (List.mem_of_getElem? (i := 108) (by decide +kernel)) rfl
theorem kf_RL_11 : Cond.fieldLink "BookTrees$Roll" (11 : Nat) "BookTrees$Roll" "sheet" "[B" ∈ lw_g := gw (List.mem_of_getElem? (i := 109) (by decide +kernel)) rfl
theorem kf_RL_39 : Cond.fieldLink "BookTrees$Roll" (39 : Nat) "BookTrees$Roll" "start" "I" ∈ lw_g := gw (List.mem_of_getElem? (i := 110) (by decide +kernel)) rfl
theorem kf_RL_42 : Cond.fieldLink "BookTrees$Roll" (42 : Nat) "BookTrees$Roll" "end" "I" ∈ lw_g := gw (List.mem_of_getElem? (i := 111) (by decide +kernel)) rfl
theorem kc_BT_25 : Cond.classLink "BookTrees" (25 : Nat) "BookTrees$Draft" ∈ lw_g := gw (List.mem_of_getElem? (i := 129) (by decide +kernel)) rfl
theorem kn_BT_27 : Cond.methodLinkNest "BookTrees" (27 : Nat) ({ cls := "BookTrees$Draft", name := "<init>", desc := "()V" } : MethodName) "BookTrees" ∈ lw_tbl := List.mem_of_getElem? (i := 131) (by decide +kernel)
theorem km_DR_3 : Cond.methodLink "BookTrees$Draft" (3 : Nat) ({ cls := "java/lang/Object", name := "<init>", desc := "()V" } : MethodName) ∈ lw_g := gw (List.mem_of_getElem? (i := 134) (by decide +kernel)) rfl
theorem kf_DR_9 : Cond.fieldLink "BookTrees$Draft" (9 : Nat) "BookTrees$Draft" "changes" "[I" ∈ lw_g := gw (List.mem_of_getElem? (i := 135) (by decide +kernel)) rfl
theorem kf_DR_15 : Cond.fieldLink "BookTrees$Draft" (15 : Nat) "BookTrees$Draft" "values" "[I" ∈ lw_g := gw (List.mem_of_getElem? (i := 136) (by decide +kernel)) rfl
theorem kf_DR_18 : Cond.fieldLink "BookTrees$Draft" (18 : Nat) "BookTrees$Draft" "size" "I" ∈ lw_g := gw (List.mem_of_getElem? (i := 137) (by decide +kernel)) rfl
theorem kc_BT_32 : Cond.classLink "BookTrees" (32 : Nat) "BookTrees$Shelf" ∈ lw_g := gw (List.mem_of_getElem? (i := 146) (by decide +kernel)) rfl
theorem kn_BT_34 : Cond.methodLinkNest "BookTrees" (34 : Nat) ({ cls := "BookTrees$Shelf", name := "<init>", desc := "()V" } : MethodName) "BookTrees" ∈ lw_tbl := List.mem_of_getElem? (i := 148) (by decide +kernel)
theorem km_SH_3 : Cond.methodLink "BookTrees$Shelf" (3 : Nat) ({ cls := "java/lang/Object", name := "<init>", desc := "()V" } : MethodName) ∈ lw_g := gw (List.mem_of_getElem? (i := 151) (by decide +kernel)) rfl
theorem kf_SH_11 : Cond.fieldLink "BookTrees$Shelf" (11 : Nat) "BookTrees$Shelf" "versions" "[I" ∈ lw_g := gw (List.mem_of_getElem? (i := 152) (by decide +kernel)) rfl
theorem kf_SH_17 : Cond.fieldLink "BookTrees$Shelf" (17 : Nat) "BookTrees$Shelf" "roots" "[I" ∈ lw_g := gw (List.mem_of_getElem? (i := 153) (by decide +kernel)) rfl
theorem kf_SH_20 : Cond.fieldLink "BookTrees$Shelf" (20 : Nat) "BookTrees$Shelf" "size" "I" ∈ lw_g := gw (List.mem_of_getElem? (i := 154) (by decide +kernel)) rfl
theorem kc_BT_39 : Cond.classLink "BookTrees" (39 : Nat) "BookTrees$Pages" ∈ lw_g := gw (List.mem_of_getElem? (i := 162) (by decide +kernel)) rfl
theorem kn_BT_41 : Cond.methodLinkNest "BookTrees" (41 : Nat) ({ cls := "BookTrees$Pages", name := "<init>", desc := "()V" } : MethodName) "BookTrees" ∈ lw_tbl := List.mem_of_getElem? (i := 164) (by decide +kernel)
theorem km_PG_3 : Cond.methodLink "BookTrees$Pages" (3 : Nat) ({ cls := "java/lang/Object", name := "<init>", desc := "()V" } : MethodName) ∈ lw_g := gw (List.mem_of_getElem? (i := 167) (by decide +kernel)) rfl
theorem kf_PG_11 : Cond.fieldLink "BookTrees$Pages" (11 : Nat) "BookTrees$Pages" "marked" "[Z" ∈ lw_g := gw (List.mem_of_getElem? (i := 168) (by decide +kernel)) rfl
theorem kf_PG_15 : Cond.fieldLink "BookTrees$Pages" (15 : Nat) "BookTrees$Pages" "bits" "[I" ∈ lw_g := gw (List.mem_of_getElem? (i := 169) (by decide +kernel)) rfl
theorem kf_PG_19 : Cond.fieldLink "BookTrees$Pages" (19 : Nat) "BookTrees$Pages" "entries" "[I" ∈ lw_g := gw (List.mem_of_getElem? (i := 170) (by decide +kernel)) rfl
theorem kf_PG_22 : Cond.fieldLink "BookTrees$Pages" (22 : Nat) "BookTrees$Pages" "blocks" "[I" ∈ lw_g := gw (List.mem_of_getElem? (i := 171) (by decide +kernel)) rfl
theorem kf_PG_25 : Cond.fieldLink "BookTrees$Pages" (25 : Nat) "BookTrees$Pages" "rootEntries" "[I" ∈ lw_g := gw (List.mem_of_getElem? (i := 172) (by decide +kernel)) rfl
theorem kf_PG_28 : Cond.fieldLink "BookTrees$Pages" (28 : Nat) "BookTrees$Pages" "rowCount" "I" ∈ lw_g := gw (List.mem_of_getElem? (i := 173) (by decide +kernel)) rfl
theorem kf_BT_10 : Cond.fieldLink "BookTrees" (10 : Nat) "BookTrees" "power" "LBookTrees$Power;" ∈ lw_g := gw (List.mem_of_getElem? (i := 187) (by decide +kernel)) rfl
theorem kf_BT_21 : Cond.fieldLink "BookTrees" (21 : Nat) "BookTrees" "roll" "LBookTrees$Roll;" ∈ lw_g := gw (List.mem_of_getElem? (i := 188) (by decide +kernel)) rfl
theorem kf_BT_28 : Cond.fieldLink "BookTrees" (28 : Nat) "BookTrees" "draft" "LBookTrees$Draft;" ∈ lw_g := gw (List.mem_of_getElem? (i := 189) (by decide +kernel)) rfl
theorem kf_BT_35 : Cond.fieldLink "BookTrees" (35 : Nat) "BookTrees" "shelf" "LBookTrees$Shelf;" ∈ lw_g := gw (List.mem_of_getElem? (i := 190) (by decide +kernel)) rfl
theorem kf_BT_42 : Cond.fieldLink "BookTrees" (42 : Nat) "BookTrees" "pages" "LBookTrees$Pages;" ∈ lw_g := gw (List.mem_of_getElem? (i := 191) (by decide +kernel)) rfl
theorem km_LA_116 : Cond.methodLink "BookTreesLaw" (116 : Nat) ({ cls := "BookTrees", name := "reopen", desc := "()I" } : MethodName) ∈ lw_g := gw (List.mem_of_getElem? (i := 203) (by decide +kernel)) rfl
theorem km_BT_141 : Cond.methodLink "BookTrees" (141 : Nat) ({ cls := "BookTrees$Power", name := "restore", desc := "()V" } : MethodName) ∈ lw_g := gw (List.mem_of_getElem? (i := 207) (by decide +kernel)) rfl
theorem km_BT_69 : Cond.methodLink "BookTrees" (69 : Nat) ({ cls := "BookTrees$Draft", name := "clear", desc := "()V" } : MethodName) ∈ lw_g := gw (List.mem_of_getElem? (i := 211) (by decide +kernel)) rfl
theorem km_BT_144 : Cond.methodLink "BookTrees" (144 : Nat) ({ cls := "BookTrees$Shelf", name := "clear", desc := "()V" } : MethodName) ∈ lw_g := gw (List.mem_of_getElem? (i := 215) (by decide +kernel)) rfl
theorem km_BT_145 : Cond.methodLink "BookTrees" (145 : Nat) ({ cls := "BookTrees$Roll", name := "newestRootSlot", desc := "()I" } : MethodName) ∈ lw_g := gw (List.mem_of_getElem? (i := 219) (by decide +kernel)) rfl
theorem km_RL_80 : Cond.methodLink "BookTrees$Roll" (80 : Nat) ({ cls := "BookTrees$Roll", name := "isWholeRoot", desc := "(I)Z" } : MethodName) ∈ lw_g := gw (List.mem_of_getElem? (i := 223) (by decide +kernel)) rfl
theorem km_RL_45 : Cond.methodLink "BookTrees$Roll" (45 : Nat) ({ cls := "BookTrees$Roll", name := "offsetOf", desc := "(I)I" } : MethodName) ∈ lw_g := gw (List.mem_of_getElem? (i := 227) (by decide +kernel)) rfl
theorem km_RL_113 : Cond.methodLink "BookTrees$Roll" (113 : Nat) ({ cls := "java/lang/Math", name := "floorMod", desc := "(II)I" } : MethodName) ∈ lw_g := gw (List.mem_of_getElem? (i := 231) (by decide +kernel)) rfl
theorem km_RL_70 : Cond.methodLink "BookTrees$Roll" (70 : Nat) ({ cls := "BookTrees$Roll", name := "numberOf", desc := "(I)I" } : MethodName) ∈ lw_g := gw (List.mem_of_getElem? (i := 234) (by decide +kernel)) rfl
theorem km_RL_56 : Cond.methodLink "BookTrees$Roll" (56 : Nat) ({ cls := "BookTrees$Roll", name := "intAt", desc := "([BI)I" } : MethodName) ∈ lw_g := gw (List.mem_of_getElem? (i := 238) (by decide +kernel)) rfl
theorem km_RL_73 : Cond.methodLink "BookTrees$Roll" (73 : Nat) ({ cls := "BookTrees$Roll", name := "versionOf", desc := "(I)I" } : MethodName) ∈ lw_g := gw (List.mem_of_getElem? (i := 241) (by decide +kernel)) rfl
theorem km_RL_76 : Cond.methodLink "BookTrees$Roll" (76 : Nat) ({ cls := "BookTrees$Roll", name := "entryOf", desc := "(II)I" } : MethodName) ∈ lw_g := gw (List.mem_of_getElem? (i := 245) (by decide +kernel)) rfl
theorem km_RL_49 : Cond.methodLink "BookTrees$Roll" (49 : Nat) ({ cls := "BookTrees$Roll", name := "byteOf", desc := "(II)I" } : MethodName) ∈ lw_g := gw (List.mem_of_getElem? (i := 249) (by decide +kernel)) rfl
theorem kk_RL_79 : Cond.constant "BookTrees$Roll" (79 : Nat) (1000000 : Int32) ∈ lw_g := gw (List.mem_of_getElem? (i := 253) (by decide +kernel)) rfl
theorem km_RL_67 : Cond.methodLink "BookTrees$Roll" (67 : Nat) ({ cls := "BookTrees$Roll", name := "isSumRight", desc := "(I)Z" } : MethodName) ∈ lw_g := gw (List.mem_of_getElem? (i := 254) (by decide +kernel)) rfl
theorem km_RL_109 : Cond.methodLink "BookTrees$Roll" (109 : Nat) ({ cls := "BookTrees$Roll", name := "sumOf", desc := "([BI)J" } : MethodName) ∈ lw_g := gw (List.mem_of_getElem? (i := 258) (by decide +kernel)) rfl
theorem kl_RL_116 : Cond.constantLong "BookTrees$Roll" (116 : Nat) (-4417276706812531889 : Int64) ∈ lw_g := gw (List.mem_of_getElem? (i := 261) (by decide +kernel)) rfl
theorem km_RL_83 : Cond.methodLink "BookTrees$Roll" (83 : Nat) ({ cls := "BookTrees$Roll", name := "isNewer", desc := "(II)Z" } : MethodName) ∈ lw_g := gw (List.mem_of_getElem? (i := 262) (by decide +kernel)) rfl
theorem km_BT_148 : Cond.methodLink "BookTrees" (148 : Nat) ({ cls := "BookTrees$Roll", name := "use", desc := "(II)V" } : MethodName) ∈ lw_g := gw (List.mem_of_getElem? (i := 266) (by decide +kernel)) rfl
theorem km_BT_91 : Cond.methodLink "BookTrees" (91 : Nat) ({ cls := "BookTrees$Shelf", name := "newest", desc := "()I" } : MethodName) ∈ lw_g := gw (List.mem_of_getElem? (i := 270) (by decide +kernel)) rfl
theorem km_BT_130 : Cond.methodLink "BookTrees" (130 : Nat) ({ cls := "BookTrees$Roll", name := "entryOf", desc := "(II)I" } : MethodName) ∈ lw_g := gw (List.mem_of_getElem? (i := 274) (by decide +kernel)) rfl
theorem km_BT_151 : Cond.methodLink "BookTrees" (151 : Nat) ({ cls := "BookTrees$Roll", name := "numberOf", desc := "(I)I" } : MethodName) ∈ lw_g := gw (List.mem_of_getElem? (i := 275) (by decide +kernel)) rfl
theorem km_BT_154 : Cond.methodLink "BookTrees" (154 : Nat) ({ cls := "BookTrees$Roll", name := "slots", desc := "()I" } : MethodName) ∈ lw_g := gw (List.mem_of_getElem? (i := 276) (by decide +kernel)) rfl
theorem km_BT_157 : Cond.methodLink "BookTrees" (157 : Nat) ({ cls := "BookTrees$Roll", name := "isWholeRoot", desc := "(I)Z" } : MethodName) ∈ lw_g := gw (List.mem_of_getElem? (i := 280) (by decide +kernel)) rfl
theorem km_BT_160 : Cond.methodLink "BookTrees" (160 : Nat) ({ cls := "BookTrees$Roll", name := "isUsed", desc := "(I)Z" } : MethodName) ∈ lw_g := gw (List.mem_of_getElem? (i := 281) (by decide +kernel)) rfl
theorem km_BT_163 : Cond.methodLink "BookTrees" (163 : Nat) ({ cls := "BookTrees$Roll", name := "versionOf", desc := "(I)I" } : MethodName) ∈ lw_g := gw (List.mem_of_getElem? (i := 285) (by decide +kernel)) rfl
theorem km_BT_166 : Cond.methodLink "BookTrees" (166 : Nat) ({ cls := "BookTrees$Shelf", name := "add", desc := "(II)V" } : MethodName) ∈ lw_g := gw (List.mem_of_getElem? (i := 286) (by decide +kernel)) rfl
theorem km_SH_24 : Cond.methodLink "BookTrees$Shelf" (24 : Nat) ({ cls := "java/lang/Math", name := "max", desc := "(II)I" } : MethodName) ∈ lw_g := gw (List.mem_of_getElem? (i := 290) (by decide +kernel)) rfl
theorem km_SH_30 : Cond.methodLink "BookTrees$Shelf" (30 : Nat) ({ cls := "BookTrees$Shelf", name := "insert", desc := "(III)V" } : MethodName) ∈ lw_g := gw (List.mem_of_getElem? (i := 291) (by decide +kernel)) rfl
theorem km_LA_120 : Cond.methodLink "BookTreesLaw" (120 : Nat) ({ cls := "BookTrees", name := "isDown", desc := "()Z" } : MethodName) ∈ lw_g := gw (List.mem_of_getElem? (i := 295) (by decide +kernel)) rfl
theorem km_BT_169 : Cond.methodLink "BookTrees" (169 : Nat) ({ cls := "BookTrees$Power", name := "hasFailed", desc := "()Z" } : MethodName) ∈ lw_g := gw (List.mem_of_getElem? (i := 299) (by decide +kernel)) rfl
theorem km_LA_65 : Cond.methodLink "BookTreesLaw" (65 : Nat) ({ cls := "BookTreesLaw", name := "cell", desc := "([II)I" } : MethodName) ∈ lw_g := gw (List.mem_of_getElem? (i := 303) (by decide +kernel)) rfl
theorem km_LA_76 : Cond.methodLink "BookTreesLaw" (76 : Nat) ({ cls := "BookTreesLaw", name := "put", desc := "(LBookTrees;II[J)I" } : MethodName) ∈ lw_g := gw (List.mem_of_getElem? (i := 306) (by decide +kernel)) rfl
theorem kc_LA_13 : Cond.classLink "BookTreesLaw" (13 : Nat) "java/lang/IllegalArgumentException" ∈ lw_g := gw (List.mem_of_getElem? (i := 309) (by decide +kernel)) rfl
theorem kc_LA_15 : Cond.classLink "BookTreesLaw" (15 : Nat) "java/lang/IllegalStateException" ∈ lw_g := gw (List.mem_of_getElem? (i := 310) (by decide +kernel)) rfl
theorem km_LA_7 : Cond.methodLink "BookTreesLaw" (7 : Nat) ({ cls := "BookTrees", name := "put", desc := "(II)I" } : MethodName) ∈ lw_g := gw (List.mem_of_getElem? (i := 311) (by decide +kernel)) rfl
theorem km_BT_46 : Cond.methodLink "BookTrees" (46 : Nat) ({ cls := "BookTrees", name := "isKey", desc := "(I)Z" } : MethodName) ∈ lw_g := gw (List.mem_of_getElem? (i := 315) (by decide +kernel)) rfl
theorem km_BT_50 : Cond.methodLink "BookTrees" (50 : Nat) ({ cls := "BookTrees", name := "requireArgument", desc := "(Z)V" } : MethodName) ∈ lw_g := gw (List.mem_of_getElem? (i := 319) (by decide +kernel)) rfl
theorem kc_BT_195 : Cond.classLink "BookTrees" (195 : Nat) "java/lang/IllegalArgumentException" ∈ lw_g := gw (List.mem_of_getElem? (i := 323) (by decide +kernel)) rfl
theorem km_BT_199 : Cond.methodLink "BookTrees" (199 : Nat) ({ cls := "java/lang/IllegalArgumentException", name := "<init>", desc := "(Ljava/lang/String;)V" } : MethodName) ∈ lw_g := gw (List.mem_of_getElem? (i := 364) (by decide +kernel)) rfl
theorem km_BT_54 : Cond.methodLink "BookTrees" (54 : Nat) ({ cls := "BookTrees", name := "requirePower", desc := "()V" } : MethodName) ∈ lw_g := gw (List.mem_of_getElem? (i := 389) (by decide +kernel)) rfl
theorem kc_BT_202 : Cond.classLink "BookTrees" (202 : Nat) "java/lang/IllegalStateException" ∈ lw_g := gw (List.mem_of_getElem? (i := 393) (by decide +kernel)) rfl
theorem km_BT_206 : Cond.methodLink "BookTrees" (206 : Nat) ({ cls := "java/lang/IllegalStateException", name := "<init>", desc := "(Ljava/lang/String;)V" } : MethodName) ∈ lw_g := gw (List.mem_of_getElem? (i := 403) (by decide +kernel)) rfl
theorem km_BT_57 : Cond.methodLink "BookTrees" (57 : Nat) ({ cls := "BookTrees$Draft", name := "setValue", desc := "(II)V" } : MethodName) ∈ lw_g := gw (List.mem_of_getElem? (i := 409) (by decide +kernel)) rfl
theorem km_DR_22 : Cond.methodLink "BookTrees$Draft" (22 : Nat) ({ cls := "BookTrees$Draft", name := "note", desc := "(II)V" } : MethodName) ∈ lw_g := gw (List.mem_of_getElem? (i := 413) (by decide +kernel)) rfl
theorem km_DR_26 : Cond.methodLink "BookTrees$Draft" (26 : Nat) ({ cls := "BookTrees$Draft", name := "has", desc := "(I)Z" } : MethodName) ∈ lw_g := gw (List.mem_of_getElem? (i := 417) (by decide +kernel)) rfl
theorem km_BT_61 : Cond.methodLink "BookTrees" (61 : Nat) ({ cls := "BookTrees$Draft", name := "size", desc := "()I" } : MethodName) ∈ lw_g := gw (List.mem_of_getElem? (i := 421) (by decide +kernel)) rfl
theorem km_LA_83 : Cond.methodLink "BookTreesLaw" (83 : Nat) ({ cls := "BookTreesLaw", name := "drop", desc := "(LBookTrees;I[J)I" } : MethodName) ∈ lw_g := gw (List.mem_of_getElem? (i := 425) (by decide +kernel)) rfl
theorem km_LA_17 : Cond.methodLink "BookTreesLaw" (17 : Nat) ({ cls := "BookTrees", name := "drop", desc := "(I)I" } : MethodName) ∈ lw_g := gw (List.mem_of_getElem? (i := 428) (by decide +kernel)) rfl
theorem km_BT_65 : Cond.methodLink "BookTrees" (65 : Nat) ({ cls := "BookTrees$Draft", name := "setDropped", desc := "(I)V" } : MethodName) ∈ lw_g := gw (List.mem_of_getElem? (i := 432) (by decide +kernel)) rfl
theorem km_LA_87 : Cond.methodLink "BookTreesLaw" (87 : Nat) ({ cls := "BookTreesLaw", name := "undo", desc := "(LBookTrees;[J)I" } : MethodName) ∈ lw_g := gw (List.mem_of_getElem? (i := 436) (by decide +kernel)) rfl
theorem km_LA_21 : Cond.methodLink "BookTreesLaw" (21 : Nat) ({ cls := "BookTrees", name := "undo", desc := "()I" } : MethodName) ∈ lw_g := gw (List.mem_of_getElem? (i := 439) (by decide +kernel)) rfl
theorem km_LA_91 : Cond.methodLink "BookTreesLaw" (91 : Nat) ({ cls := "BookTreesLaw", name := "get", desc := "(LBookTrees;I[J)I" } : MethodName) ∈ lw_g := gw (List.mem_of_getElem? (i := 443) (by decide +kernel)) rfl
theorem km_LA_25 : Cond.methodLink "BookTreesLaw" (25 : Nat) ({ cls := "BookTrees", name := "get", desc := "(I)J" } : MethodName) ∈ lw_g := gw (List.mem_of_getElem? (i := 446) (by decide +kernel)) rfl
theorem km_BT_72 : Cond.methodLink "BookTrees" (72 : Nat) ({ cls := "BookTrees$Draft", name := "isDropped", desc := "(I)Z" } : MethodName) ∈ lw_g := gw (List.mem_of_getElem? (i := 450) (by decide +kernel)) rfl
theorem kl_BT_75 : Cond.constantLong "BookTrees" (75 : Nat) (1000000000000 : Int64) ∈ lw_g := gw (List.mem_of_getElem? (i := 454) (by decide +kernel)) rfl
theorem km_BT_77 : Cond.methodLink "BookTrees" (77 : Nat) ({ cls := "BookTrees$Draft", name := "has", desc := "(I)Z" } : MethodName) ∈ lw_g := gw (List.mem_of_getElem? (i := 455) (by decide +kernel)) rfl
theorem km_BT_80 : Cond.methodLink "BookTrees" (80 : Nat) ({ cls := "BookTrees$Draft", name := "valueOf", desc := "(I)I" } : MethodName) ∈ lw_g := gw (List.mem_of_getElem? (i := 456) (by decide +kernel)) rfl
theorem km_BT_84 : Cond.methodLink "BookTrees" (84 : Nat) ({ cls := "BookTrees$Shelf", name := "newestRoot", desc := "()I" } : MethodName) ∈ lw_g := gw (List.mem_of_getElem? (i := 460) (by decide +kernel)) rfl
theorem km_BT_87 : Cond.methodLink "BookTrees" (87 : Nat) ({ cls := "BookTrees", name := "rowOf", desc := "(II)J" } : MethodName) ∈ lw_g := gw (List.mem_of_getElem? (i := 464) (by decide +kernel)) rfl
theorem km_BT_119 : Cond.methodLink "BookTrees" (119 : Nat) ({ cls := "BookTrees", name := "leafBlock", desc := "(II)I" } : MethodName) ∈ lw_g := gw (List.mem_of_getElem? (i := 468) (by decide +kernel)) rfl
theorem km_BT_126 : Cond.methodLink "BookTrees" (126 : Nat) ({ cls := "BookTrees$Roll", name := "isBad", desc := "(II)Z" } : MethodName) ∈ lw_g := gw (List.mem_of_getElem? (i := 472) (by decide +kernel)) rfl
theorem km_RL_60 : Cond.methodLink "BookTrees$Roll" (60 : Nat) ({ cls := "BookTrees$Roll", name := "isUsed", desc := "(I)Z" } : MethodName) ∈ lw_g := gw (List.mem_of_getElem? (i := 476) (by decide +kernel)) rfl
theorem km_RL_64 : Cond.methodLink "BookTrees$Roll" (64 : Nat) ({ cls := "BookTrees$Roll", name := "isSound", desc := "(I)Z" } : MethodName) ∈ lw_g := gw (List.mem_of_getElem? (i := 477) (by decide +kernel)) rfl
theorem km_BT_212 : Cond.methodLink "BookTrees" (212 : Nat) ({ cls := "BookTrees", name := "childBlock", desc := "(III)I" } : MethodName) ∈ lw_g := gw (List.mem_of_getElem? (i := 481) (by decide +kernel)) rfl
theorem km_BT_209 : Cond.methodLink "BookTrees" (209 : Nat) ({ cls := "BookTrees$Roll", name := "hasBit", desc := "(II)Z" } : MethodName) ∈ lw_g := gw (List.mem_of_getElem? (i := 485) (by decide +kernel)) rfl
theorem kl_BT_207 : Cond.constantLong "BookTrees" (207 : Nat) (1000000000001 : Int64) ∈ lw_g := gw (List.mem_of_getElem? (i := 489) (by decide +kernel)) rfl
theorem km_LA_94 : Cond.methodLink "BookTreesLaw" (94 : Nat) ({ cls := "BookTreesLaw", name := "commit", desc := "(LBookTrees;[J)I" } : MethodName) ∈ lw_g := gw (List.mem_of_getElem? (i := 490) (by decide +kernel)) rfl
theorem km_LA_29 : Cond.methodLink "BookTreesLaw" (29 : Nat) ({ cls := "BookTrees", name := "commit", desc := "()I" } : MethodName) ∈ lw_g := gw (List.mem_of_getElem? (i := 493) (by decide +kernel)) rfl
theorem km_BT_94 : Cond.methodLink "BookTrees" (94 : Nat) ({ cls := "BookTrees$Pages", name := "clear", desc := "()V" } : MethodName) ∈ lw_g := gw (List.mem_of_getElem? (i := 497) (by decide +kernel)) rfl
theorem km_BT_95 : Cond.methodLink "BookTrees" (95 : Nat) ({ cls := "BookTrees$Pages", name := "markKeysOf", desc := "(LBookTrees$Draft;)V" } : MethodName) ∈ lw_g := gw (List.mem_of_getElem? (i := 501) (by decide +kernel)) rfl
theorem km_PG_32 : Cond.methodLink "BookTrees$Pages" (32 : Nat) ({ cls := "BookTrees$Draft", name := "has", desc := "(I)Z" } : MethodName) ∈ lw_g := gw (List.mem_of_getElem? (i := 505) (by decide +kernel)) rfl
theorem km_PG_38 : Cond.methodLink "BookTrees$Pages" (38 : Nat) ({ cls := "BookTrees$Pages", name := "parentOf", desc := "(I)I" } : MethodName) ∈ lw_g := gw (List.mem_of_getElem? (i := 506) (by decide +kernel)) rfl
theorem km_BT_99 : Cond.methodLink "BookTrees" (99 : Nat) ({ cls := "BookTrees$Pages", name := "readTree", desc := "(LBookTrees$Roll;I)Z" } : MethodName) ∈ lw_g := gw (List.mem_of_getElem? (i := 509) (by decide +kernel)) rfl
theorem km_PG_42 : Cond.methodLink "BookTrees$Pages" (42 : Nat) ({ cls := "BookTrees$Roll", name := "isBad", desc := "(II)Z" } : MethodName) ∈ lw_g := gw (List.mem_of_getElem? (i := 513) (by decide +kernel)) rfl
theorem km_PG_48 : Cond.methodLink "BookTrees$Pages" (48 : Nat) ({ cls := "BookTrees$Roll", name := "entryOf", desc := "(II)I" } : MethodName) ∈ lw_g := gw (List.mem_of_getElem? (i := 514) (by decide +kernel)) rfl
theorem km_PG_52 : Cond.methodLink "BookTrees$Pages" (52 : Nat) ({ cls := "BookTrees$Roll", name := "hasBit", desc := "(II)Z" } : MethodName) ∈ lw_g := gw (List.mem_of_getElem? (i := 515) (by decide +kernel)) rfl
theorem km_PG_55 : Cond.methodLink "BookTrees$Pages" (55 : Nat) ({ cls := "BookTrees$Pages", name := "readPage", desc := "(LBookTrees$Roll;II)Z" } : MethodName) ∈ lw_g := gw (List.mem_of_getElem? (i := 516) (by decide +kernel)) rfl
theorem km_PG_78 : Cond.methodLink "BookTrees$Pages" (78 : Nat) ({ cls := "BookTrees$Pages", name := "kindOf", desc := "(I)I" } : MethodName) ∈ lw_g := gw (List.mem_of_getElem? (i := 520) (by decide +kernel)) rfl
theorem km_PG_74 : Cond.methodLink "BookTrees$Pages" (74 : Nat) ({ cls := "BookTrees$Pages", name := "setEntry", desc := "(IIZI)V" } : MethodName) ∈ lw_g := gw (List.mem_of_getElem? (i := 523) (by decide +kernel)) rfl
theorem km_PG_59 : Cond.methodLink "BookTrees$Pages" (59 : Nat) ({ cls := "BookTrees$Pages", name := "isInParent", desc := "(I)Z" } : MethodName) ∈ lw_g := gw (List.mem_of_getElem? (i := 527) (by decide +kernel)) rfl
theorem km_PG_65 : Cond.methodLink "BookTrees$Pages" (65 : Nat) ({ cls := "BookTrees$Pages", name := "bitOf", desc := "(II)I" } : MethodName) ∈ lw_g := gw (List.mem_of_getElem? (i := 531) (by decide +kernel)) rfl
theorem km_PG_62 : Cond.methodLink "BookTrees$Pages" (62 : Nat) ({ cls := "BookTrees$Pages", name := "placeInParent", desc := "(I)I" } : MethodName) ∈ lw_g := gw (List.mem_of_getElem? (i := 535) (by decide +kernel)) rfl
theorem km_BT_103 : Cond.methodLink "BookTrees" (103 : Nat) ({ cls := "BookTrees$Pages", name := "change", desc := "(LBookTrees$Draft;)V" } : MethodName) ∈ lw_g := gw (List.mem_of_getElem? (i := 538) (by decide +kernel)) rfl
theorem km_PG_68 : Cond.methodLink "BookTrees$Pages" (68 : Nat) ({ cls := "BookTrees$Draft", name := "isDropped", desc := "(I)Z" } : MethodName) ∈ lw_g := gw (List.mem_of_getElem? (i := 542) (by decide +kernel)) rfl
theorem km_PG_71 : Cond.methodLink "BookTrees$Pages" (71 : Nat) ({ cls := "BookTrees$Draft", name := "valueOf", desc := "(I)I" } : MethodName) ∈ lw_g := gw (List.mem_of_getElem? (i := 543) (by decide +kernel)) rfl
theorem km_BT_106 : Cond.methodLink "BookTrees" (106 : Nat) ({ cls := "BookTrees", name := "appendVersion", desc := "(Z)I" } : MethodName) ∈ lw_g := gw (List.mem_of_getElem? (i := 544) (by decide +kernel)) rfl
theorem km_BT_186 : Cond.methodLink "BookTrees" (186 : Nat) ({ cls := "BookTrees$Roll", name := "end", desc := "()I" } : MethodName) ∈ lw_g := gw (List.mem_of_getElem? (i := 548) (by decide +kernel)) rfl
theorem km_BT_216 : Cond.methodLink "BookTrees" (216 : Nat) ({ cls := "BookTrees$Pages", name := "place", desc := "(I)I" } : MethodName) ∈ lw_g := gw (List.mem_of_getElem? (i := 552) (by decide +kernel)) rfl
theorem km_BT_219 : Cond.methodLink "BookTrees" (219 : Nat) ({ cls := "BookTrees$Roll", name := "hasRoom", desc := "(I)Z" } : MethodName) ∈ lw_g := gw (List.mem_of_getElem? (i := 556) (by decide +kernel)) rfl
theorem km_BT_183 : Cond.methodLink "BookTrees" (183 : Nat) ({ cls := "BookTrees$Roll", name := "start", desc := "()I" } : MethodName) ∈ lw_g := gw (List.mem_of_getElem? (i := 560) (by decide +kernel)) rfl
theorem km_BT_222 : Cond.methodLink "BookTrees" (222 : Nat) ({ cls := "BookTrees$Pages", name := "writeTree", desc := "(LBookTrees$Roll;I)Z" } : MethodName) ∈ lw_g := gw (List.mem_of_getElem? (i := 564) (by decide +kernel)) rfl
theorem km_PG_81 : Cond.methodLink "BookTrees$Pages" (81 : Nat) ({ cls := "BookTrees$Roll", name := "write", desc := "(IIII[II)Z" } : MethodName) ∈ lw_g := gw (List.mem_of_getElem? (i := 568) (by decide +kernel)) rfl
theorem km_RL_86 : Cond.methodLink "BookTrees$Roll" (86 : Nat) ({ cls := "BookTrees$Roll", name := "makeUp", desc := "(IIII[II)V" } : MethodName) ∈ lw_g := gw (List.mem_of_getElem? (i := 572) (by decide +kernel)) rfl
theorem km_RL_105 : Cond.methodLink "BookTrees$Roll" (105 : Nat) ({ cls := "BookTrees$Roll", name := "setInt", desc := "(II)V" } : MethodName) ∈ lw_g := gw (List.mem_of_getElem? (i := 576) (by decide +kernel)) rfl
theorem km_RL_90 : Cond.methodLink "BookTrees$Roll" (90 : Nat) ({ cls := "BookTrees$Power", name := "spend", desc := "(I)I" } : MethodName) ∈ lw_g := gw (List.mem_of_getElem? (i := 580) (by decide +kernel)) rfl
theorem km_PW_22 : Cond.methodLink "BookTrees$Power" (22 : Nat) ({ cls := "java/lang/Math", name := "min", desc := "(II)I" } : MethodName) ∈ lw_g := gw (List.mem_of_getElem? (i := 584) (by decide +kernel)) rfl
theorem km_RL_95 : Cond.methodLink "BookTrees$Roll" (95 : Nat) ({ cls := "java/lang/System", name := "arraycopy", desc := "(Ljava/lang/Object;ILjava/lang/Object;II)V" } : MethodName) ∈ lw_g := gw (List.mem_of_getElem? (i := 585) (by decide +kernel)) rfl
theorem km_RL_101 : Cond.methodLink "BookTrees$Roll" (101 : Nat) ({ cls := "BookTrees$Power", name := "hasFailed", desc := "()Z" } : MethodName) ∈ lw_g := gw (List.mem_of_getElem? (i := 588) (by decide +kernel)) rfl
theorem km_BT_225 : Cond.methodLink "BookTrees" (225 : Nat) ({ cls := "BookTrees$Pages", name := "writeRoot", desc := "(LBookTrees$Roll;III)Z" } : MethodName) ∈ lw_g := gw (List.mem_of_getElem? (i := 589) (by decide +kernel)) rfl
theorem km_LA_97 : Cond.methodLink "BookTreesLaw" (97 : Nat) ({ cls := "BookTreesLaw", name := "copy", desc := "(LBookTrees;[J)I" } : MethodName) ∈ lw_g := gw (List.mem_of_getElem? (i := 593) (by decide +kernel)) rfl
theorem km_LA_32 : Cond.methodLink "BookTreesLaw" (32 : Nat) ({ cls := "BookTrees", name := "copy", desc := "()I" } : MethodName) ∈ lw_g := gw (List.mem_of_getElem? (i := 596) (by decide +kernel)) rfl
theorem km_BT_110 : Cond.methodLink "BookTrees" (110 : Nat) ({ cls := "BookTrees$Pages", name := "markAll", desc := "()V" } : MethodName) ∈ lw_g := gw (List.mem_of_getElem? (i := 600) (by decide +kernel)) rfl
theorem km_LA_100 : Cond.methodLink "BookTreesLaw" (100 : Nat) ({ cls := "BookTreesLaw", name := "find", desc := "(LBookTrees;II[J)I" } : MethodName) ∈ lw_g := gw (List.mem_of_getElem? (i := 604) (by decide +kernel)) rfl
theorem km_LA_35 : Cond.methodLink "BookTreesLaw" (35 : Nat) ({ cls := "BookTrees", name := "find", desc := "(II)J" } : MethodName) ∈ lw_g := gw (List.mem_of_getElem? (i := 607) (by decide +kernel)) rfl
theorem km_BT_113 : Cond.methodLink "BookTrees" (113 : Nat) ({ cls := "BookTrees", name := "isKept", desc := "(I)Z" } : MethodName) ∈ lw_g := gw (List.mem_of_getElem? (i := 611) (by decide +kernel)) rfl
theorem km_BT_116 : Cond.methodLink "BookTrees" (116 : Nat) ({ cls := "BookTrees$Shelf", name := "rootOf", desc := "(I)I" } : MethodName) ∈ lw_g := gw (List.mem_of_getElem? (i := 615) (by decide +kernel)) rfl
theorem km_LA_103 : Cond.methodLink "BookTreesLaw" (103 : Nat) ({ cls := "BookTreesLaw", name := "next", desc := "(LBookTrees;II[J)I" } : MethodName) ∈ lw_g := gw (List.mem_of_getElem? (i := 619) (by decide +kernel)) rfl
theorem km_LA_39 : Cond.methodLink "BookTreesLaw" (39 : Nat) ({ cls := "BookTrees", name := "next", desc := "(II)I" } : MethodName) ∈ lw_g := gw (List.mem_of_getElem? (i := 622) (by decide +kernel)) rfl
theorem km_BT_123 : Cond.methodLink "BookTrees" (123 : Nat) ({ cls := "BookTrees$Roll", name := "lowestBit", desc := "(II)I" } : MethodName) ∈ lw_g := gw (List.mem_of_getElem? (i := 626) (by decide +kernel)) rfl
theorem km_RL_52 : Cond.methodLink "BookTrees$Roll" (52 : Nat) ({ cls := "BookTrees$Roll", name := "hasBit", desc := "(II)Z" } : MethodName) ∈ lw_g := gw (List.mem_of_getElem? (i := 630) (by decide +kernel)) rfl
theorem km_LA_106 : Cond.methodLink "BookTreesLaw" (106 : Nat) ({ cls := "BookTreesLaw", name := "rows", desc := "(LBookTrees;I[J)I" } : MethodName) ∈ lw_g := gw (List.mem_of_getElem? (i := 631) (by decide +kernel)) rfl
theorem km_LA_42 : Cond.methodLink "BookTreesLaw" (42 : Nat) ({ cls := "BookTrees", name := "rows", desc := "(I)I" } : MethodName) ∈ lw_g := gw (List.mem_of_getElem? (i := 634) (by decide +kernel)) rfl
theorem km_LA_109 : Cond.methodLink "BookTreesLaw" (109 : Nat) ({ cls := "BookTreesLaw", name := "kept", desc := "(LBookTrees;I[J)I" } : MethodName) ∈ lw_g := gw (List.mem_of_getElem? (i := 638) (by decide +kernel)) rfl
theorem km_LA_45 : Cond.methodLink "BookTreesLaw" (45 : Nat) ({ cls := "BookTrees", name := "kept", desc := "(I)I" } : MethodName) ∈ lw_g := gw (List.mem_of_getElem? (i := 641) (by decide +kernel)) rfl
theorem km_BT_133 : Cond.methodLink "BookTrees" (133 : Nat) ({ cls := "BookTrees$Shelf", name := "size", desc := "()I" } : MethodName) ∈ lw_g := gw (List.mem_of_getElem? (i := 645) (by decide +kernel)) rfl
theorem km_BT_134 : Cond.methodLink "BookTrees" (134 : Nat) ({ cls := "BookTrees$Shelf", name := "versionFromNewest", desc := "(I)I" } : MethodName) ∈ lw_g := gw (List.mem_of_getElem? (i := 649) (by decide +kernel)) rfl
theorem km_LA_112 : Cond.methodLink "BookTreesLaw" (112 : Nat) ({ cls := "BookTreesLaw", name := "crash", desc := "(LBookTrees;I)I" } : MethodName) ∈ lw_g := gw (List.mem_of_getElem? (i := 653) (by decide +kernel)) rfl
theorem km_LA_48 : Cond.methodLink "BookTreesLaw" (48 : Nat) ({ cls := "BookTrees", name := "crash", desc := "(I)V" } : MethodName) ∈ lw_g := gw (List.mem_of_getElem? (i := 656) (by decide +kernel)) rfl
theorem kk_BT_137 : Cond.constant "BookTrees" (137 : Nat) (100000 : Int32) ∈ lw_g := gw (List.mem_of_getElem? (i := 660) (by decide +kernel)) rfl
theorem km_BT_138 : Cond.methodLink "BookTrees" (138 : Nat) ({ cls := "BookTrees$Power", name := "failAfter", desc := "(I)V" } : MethodName) ∈ lw_g := gw (List.mem_of_getElem? (i := 661) (by decide +kernel)) rfl
theorem km_LA_125 : Cond.methodLink "BookTreesLaw" (125 : Nat) ({ cls := "BookTreesLaw", name := "byteAt", desc := "(LBookTrees;II[J)I" } : MethodName) ∈ lw_g := gw (List.mem_of_getElem? (i := 665) (by decide +kernel)) rfl
theorem km_LA_52 : Cond.methodLink "BookTreesLaw" (52 : Nat) ({ cls := "BookTrees", name := "byteAt", desc := "(II)I" } : MethodName) ∈ lw_g := gw (List.mem_of_getElem? (i := 668) (by decide +kernel)) rfl
theorem km_BT_173 : Cond.methodLink "BookTrees" (173 : Nat) ({ cls := "BookTrees", name := "isByteIndex", desc := "(I)Z" } : MethodName) ∈ lw_g := gw (List.mem_of_getElem? (i := 672) (by decide +kernel)) rfl
theorem km_BT_176 : Cond.methodLink "BookTrees" (176 : Nat) ({ cls := "BookTrees$Roll", name := "byteOf", desc := "(II)I" } : MethodName) ∈ lw_g := gw (List.mem_of_getElem? (i := 676) (by decide +kernel)) rfl
theorem km_LA_128 : Cond.methodLink "BookTreesLaw" (128 : Nat) ({ cls := "BookTreesLaw", name := "poke", desc := "(LBookTrees;III[J)I" } : MethodName) ∈ lw_g := gw (List.mem_of_getElem? (i := 677) (by decide +kernel)) rfl
theorem km_LA_55 : Cond.methodLink "BookTreesLaw" (55 : Nat) ({ cls := "BookTrees", name := "poke", desc := "(III)I" } : MethodName) ∈ lw_g := gw (List.mem_of_getElem? (i := 680) (by decide +kernel)) rfl
theorem km_BT_179 : Cond.methodLink "BookTrees" (179 : Nat) ({ cls := "BookTrees$Roll", name := "alter", desc := "(III)V" } : MethodName) ∈ lw_g := gw (List.mem_of_getElem? (i := 684) (by decide +kernel)) rfl
theorem km_LA_132 : Cond.methodLink "BookTreesLaw" (132 : Nat) ({ cls := "BookTreesLaw", name := "badAt", desc := "(LBookTrees;I[J)I" } : MethodName) ∈ lw_g := gw (List.mem_of_getElem? (i := 688) (by decide +kernel)) rfl
theorem km_LA_59 : Cond.methodLink "BookTreesLaw" (59 : Nat) ({ cls := "BookTrees", name := "badAt", desc := "(I)I" } : MethodName) ∈ lw_g := gw (List.mem_of_getElem? (i := 691) (by decide +kernel)) rfl
theorem km_BT_189 : Cond.methodLink "BookTrees" (189 : Nat) ({ cls := "BookTrees$Roll", name := "isSound", desc := "(I)Z" } : MethodName) ∈ lw_g := gw (List.mem_of_getElem? (i := 695) (by decide +kernel)) rfl
theorem km_LA_135 : Cond.methodLink "BookTreesLaw" (135 : Nat) ({ cls := "BookTreesLaw", name := "told", desc := "(LBookTrees;I[J)I" } : MethodName) ∈ lw_g := gw (List.mem_of_getElem? (i := 696) (by decide +kernel)) rfl
theorem km_LA_62 : Cond.methodLink "BookTreesLaw" (62 : Nat) ({ cls := "BookTrees", name := "told", desc := "(I)I" } : MethodName) ∈ lw_g := gw (List.mem_of_getElem? (i := 699) (by decide +kernel)) rfl
theorem km_BT_192 : Cond.methodLink "BookTrees" (192 : Nat) ({ cls := "BookTrees$Power", name := "written", desc := "()I" } : MethodName) ∈ lw_g := gw (List.mem_of_getElem? (i := 703) (by decide +kernel)) rfl
theorem kc_LA_73 : Cond.classLink "BookTreesLaw" (73 : Nat) "BookTreesModel" ∈ lw_g := gw (List.mem_of_getElem? (i := 707) (by decide +kernel)) rfl
theorem km_LA_75 : Cond.methodLink "BookTreesLaw" (75 : Nat) ({ cls := "BookTreesModel", name := "<init>", desc := "(I)V" } : MethodName) ∈ lw_g := gw (List.mem_of_getElem? (i := 709) (by decide +kernel)) rfl
theorem km_MO_1 : Cond.methodLink "BookTreesModel" (1 : Nat) ({ cls := "java/lang/Object", name := "<init>", desc := "()V" } : MethodName) ∈ lw_g := gw (List.mem_of_getElem? (i := 712) (by decide +kernel)) rfl
theorem kf_MO_57 : Cond.fieldLink "BookTreesModel" (57 : Nat) "BookTreesModel" "refusal" "I" ∈ lw_g := gw (List.mem_of_getElem? (i := 713) (by decide +kernel)) rfl
theorem kf_MO_54 : Cond.fieldLink "BookTreesModel" (54 : Nat) "BookTreesModel" "slots" "I" ∈ lw_g := gw (List.mem_of_getElem? (i := 714) (by decide +kernel)) rfl
theorem kf_MO_7 : Cond.fieldLink "BookTreesModel" (7 : Nat) "BookTreesModel" "roll" "[I" ∈ lw_g := gw (List.mem_of_getElem? (i := 715) (by decide +kernel)) rfl
theorem kf_MO_13 : Cond.fieldLink "BookTreesModel" (13 : Nat) "BookTreesModel" "isTorn" "[Z" ∈ lw_g := gw (List.mem_of_getElem? (i := 716) (by decide +kernel)) rfl
theorem kf_MO_64 : Cond.fieldLink "BookTreesModel" (64 : Nat) "BookTreesModel" "start" "I" ∈ lw_g := gw (List.mem_of_getElem? (i := 717) (by decide +kernel)) rfl
theorem kf_MO_67 : Cond.fieldLink "BookTreesModel" (67 : Nat) "BookTreesModel" "end" "I" ∈ lw_g := gw (List.mem_of_getElem? (i := 718) (by decide +kernel)) rfl
theorem kf_MO_137 : Cond.fieldLink "BookTreesModel" (137 : Nat) "BookTreesModel" "newest" "I" ∈ lw_g := gw (List.mem_of_getElem? (i := 719) (by decide +kernel)) rfl
theorem kf_MO_60 : Cond.fieldLink "BookTreesModel" (60 : Nat) "BookTreesModel" "isDown" "Z" ∈ lw_g := gw (List.mem_of_getElem? (i := 720) (by decide +kernel)) rfl
theorem kf_MO_17 : Cond.fieldLink "BookTreesModel" (17 : Nat) "BookTreesModel" "power" "I" ∈ lw_g := gw (List.mem_of_getElem? (i := 721) (by decide +kernel)) rfl
theorem kf_MO_147 : Cond.fieldLink "BookTreesModel" (147 : Nat) "BookTreesModel" "written" "I" ∈ lw_g := gw (List.mem_of_getElem? (i := 722) (by decide +kernel)) rfl
theorem kf_MO_116 : Cond.fieldLink "BookTreesModel" (116 : Nat) "BookTreesModel" "roots" "I" ∈ lw_g := gw (List.mem_of_getElem? (i := 723) (by decide +kernel)) rfl
theorem kf_MO_21 : Cond.fieldLink "BookTreesModel" (21 : Nat) "BookTreesModel" "versions" "[I" ∈ lw_g := gw (List.mem_of_getElem? (i := 724) (by decide +kernel)) rfl
theorem kf_MO_24 : Cond.fieldLink "BookTreesModel" (24 : Nat) "BookTreesModel" "rootBlocks" "[I" ∈ lw_g := gw (List.mem_of_getElem? (i := 725) (by decide +kernel)) rfl
theorem kf_MO_95 : Cond.fieldLink "BookTreesModel" (95 : Nat) "BookTreesModel" "draft" "I" ∈ lw_g := gw (List.mem_of_getElem? (i := 726) (by decide +kernel)) rfl
theorem kf_MO_27 : Cond.fieldLink "BookTreesModel" (27 : Nat) "BookTreesModel" "changes" "[I" ∈ lw_g := gw (List.mem_of_getElem? (i := 727) (by decide +kernel)) rfl
theorem kf_MO_30 : Cond.fieldLink "BookTreesModel" (30 : Nat) "BookTreesModel" "values" "[I" ∈ lw_g := gw (List.mem_of_getElem? (i := 728) (by decide +kernel)) rfl
theorem kf_MO_33 : Cond.fieldLink "BookTreesModel" (33 : Nat) "BookTreesModel" "isChanged" "[Z" ∈ lw_g := gw (List.mem_of_getElem? (i := 729) (by decide +kernel)) rfl
theorem kf_MO_36 : Cond.fieldLink "BookTreesModel" (36 : Nat) "BookTreesModel" "leafBits" "[I" ∈ lw_g := gw (List.mem_of_getElem? (i := 730) (by decide +kernel)) rfl
theorem kf_MO_39 : Cond.fieldLink "BookTreesModel" (39 : Nat) "BookTreesModel" "rows" "[I" ∈ lw_g := gw (List.mem_of_getElem? (i := 731) (by decide +kernel)) rfl
theorem kf_MO_42 : Cond.fieldLink "BookTreesModel" (42 : Nat) "BookTreesModel" "nodeBits" "[I" ∈ lw_g := gw (List.mem_of_getElem? (i := 732) (by decide +kernel)) rfl
theorem kf_MO_45 : Cond.fieldLink "BookTreesModel" (45 : Nat) "BookTreesModel" "leafBlocks" "[I" ∈ lw_g := gw (List.mem_of_getElem? (i := 733) (by decide +kernel)) rfl
theorem kf_MO_160 : Cond.fieldLink "BookTreesModel" (160 : Nat) "BookTreesModel" "topBits" "I" ∈ lw_g := gw (List.mem_of_getElem? (i := 734) (by decide +kernel)) rfl
theorem kf_MO_48 : Cond.fieldLink "BookTreesModel" (48 : Nat) "BookTreesModel" "nodeBlocks" "[I" ∈ lw_g := gw (List.mem_of_getElem? (i := 735) (by decide +kernel)) rfl
theorem kf_MO_166 : Cond.fieldLink "BookTreesModel" (166 : Nat) "BookTreesModel" "rowCount" "I" ∈ lw_g := gw (List.mem_of_getElem? (i := 736) (by decide +kernel)) rfl
theorem kf_MO_51 : Cond.fieldLink "BookTreesModel" (51 : Nat) "BookTreesModel" "made" "[I" ∈ lw_g := gw (List.mem_of_getElem? (i := 737) (by decide +kernel)) rfl
theorem kf_MO_154 : Cond.fieldLink "BookTreesModel" (154 : Nat) "BookTreesModel" "next" "I" ∈ lw_g := gw (List.mem_of_getElem? (i := 738) (by decide +kernel)) rfl
theorem km_LA_80 : Cond.methodLink "BookTreesLaw" (80 : Nat) ({ cls := "BookTreesModel", name := "thrown", desc := "()I" } : MethodName) ∈ lw_g := gw (List.mem_of_getElem? (i := 792) (by decide +kernel)) rfl
theorem km_LA_79 : Cond.methodLink "BookTreesLaw" (79 : Nat) ({ cls := "BookTreesModel", name := "put", desc := "(II)I" } : MethodName) ∈ lw_g := gw (List.mem_of_getElem? (i := 796) (by decide +kernel)) rfl
theorem km_MO_98 : Cond.methodLink "BookTreesModel" (98 : Nat) ({ cls := "BookTreesModel", name := "isKey", desc := "(I)Z" } : MethodName) ∈ lw_g := gw (List.mem_of_getElem? (i := 800) (by decide +kernel)) rfl
theorem km_MO_101 : Cond.methodLink "BookTreesModel" (101 : Nat) ({ cls := "BookTreesModel", name := "goes", desc := "(Z)Z" } : MethodName) ∈ lw_g := gw (List.mem_of_getElem? (i := 803) (by decide +kernel)) rfl
theorem km_MO_105 : Cond.methodLink "BookTreesModel" (105 : Nat) ({ cls := "BookTreesModel", name := "change", desc := "(III)V" } : MethodName) ∈ lw_g := gw (List.mem_of_getElem? (i := 807) (by decide +kernel)) rfl
theorem km_LA_86 : Cond.methodLink "BookTreesLaw" (86 : Nat) ({ cls := "BookTreesModel", name := "drop", desc := "(I)I" } : MethodName) ∈ lw_g := gw (List.mem_of_getElem? (i := 811) (by decide +kernel)) rfl
theorem km_LA_90 : Cond.methodLink "BookTreesLaw" (90 : Nat) ({ cls := "BookTreesModel", name := "undo", desc := "()I" } : MethodName) ∈ lw_g := gw (List.mem_of_getElem? (i := 815) (by decide +kernel)) rfl
theorem km_MO_109 : Cond.methodLink "BookTreesModel" (109 : Nat) ({ cls := "BookTreesModel", name := "isUp", desc := "()Z" } : MethodName) ∈ lw_g := gw (List.mem_of_getElem? (i := 819) (by decide +kernel)) rfl
theorem km_MO_113 : Cond.methodLink "BookTreesModel" (113 : Nat) ({ cls := "BookTreesModel", name := "clear", desc := "()V" } : MethodName) ∈ lw_g := gw (List.mem_of_getElem? (i := 823) (by decide +kernel)) rfl
theorem km_LA_93 : Cond.methodLink "BookTreesLaw" (93 : Nat) ({ cls := "BookTreesModel", name := "get", desc := "(I)J" } : MethodName) ∈ lw_g := gw (List.mem_of_getElem? (i := 827) (by decide +kernel)) rfl
theorem kl_MO_122 : Cond.constantLong "BookTreesModel" (122 : Nat) (1000000000000 : Int64) ∈ lw_g := gw (List.mem_of_getElem? (i := 831) (by decide +kernel)) rfl
theorem km_MO_140 : Cond.methodLink "BookTreesModel" (140 : Nat) ({ cls := "BookTreesModel", name := "look", desc := "(II)J" } : MethodName) ∈ lw_g := gw (List.mem_of_getElem? (i := 832) (by decide +kernel)) rfl
theorem km_MO_119 : Cond.methodLink "BookTreesModel" (119 : Nat) ({ cls := "BookTreesModel", name := "rootOf", desc := "(I)I" } : MethodName) ∈ lw_g := gw (List.mem_of_getElem? (i := 836) (by decide +kernel)) rfl
theorem km_MO_124 : Cond.methodLink "BookTreesModel" (124 : Nat) ({ cls := "BookTreesModel", name := "isBad", desc := "(II)Z" } : MethodName) ∈ lw_g := gw (List.mem_of_getElem? (i := 840) (by decide +kernel)) rfl
theorem km_MO_78 : Cond.methodLink "BookTreesModel" (78 : Nat) ({ cls := "BookTreesModel", name := "isUsed", desc := "(I)Z" } : MethodName) ∈ lw_g := gw (List.mem_of_getElem? (i := 844) (by decide +kernel)) rfl
theorem km_MO_82 : Cond.methodLink "BookTreesModel" (82 : Nat) ({ cls := "BookTreesModel", name := "placeOf", desc := "(I)I" } : MethodName) ∈ lw_g := gw (List.mem_of_getElem? (i := 848) (by decide +kernel)) rfl
theorem km_MO_86 : Cond.methodLink "BookTreesModel" (86 : Nat) ({ cls := "BookTreesModel", name := "hasSum", desc := "(I)Z" } : MethodName) ∈ lw_g := gw (List.mem_of_getElem? (i := 852) (by decide +kernel)) rfl
theorem km_MO_72 : Cond.methodLink "BookTreesModel" (72 : Nat) ({ cls := "BookTreesModel", name := "mixed", desc := "(JI)J" } : MethodName) ∈ lw_g := gw (List.mem_of_getElem? (i := 856) (by decide +kernel)) rfl
theorem kl_MO_70 : Cond.constantLong "BookTreesModel" (70 : Nat) (-4417276706812531889 : Int64) ∈ lw_g := gw (List.mem_of_getElem? (i := 859) (by decide +kernel)) rfl
theorem kl_MO_76 : Cond.constantLong "BookTreesModel" (76 : Nat) (255 : Int64) ∈ lw_g := gw (List.mem_of_getElem? (i := 860) (by decide +kernel)) rfl
theorem km_MO_89 : Cond.methodLink "BookTreesModel" (89 : Nat) ({ cls := "BookTreesModel", name := "number", desc := "(I)I" } : MethodName) ∈ lw_g := gw (List.mem_of_getElem? (i := 861) (by decide +kernel)) rfl
theorem kl_MO_128 : Cond.constantLong "BookTreesModel" (128 : Nat) (1000000000001 : Int64) ∈ lw_g := gw (List.mem_of_getElem? (i := 865) (by decide +kernel)) rfl
theorem km_MO_92 : Cond.methodLink "BookTreesModel" (92 : Nat) ({ cls := "BookTreesModel", name := "bitsOf", desc := "(I)I" } : MethodName) ∈ lw_g := gw (List.mem_of_getElem? (i := 866) (by decide +kernel)) rfl
theorem km_MO_130 : Cond.methodLink "BookTreesModel" (130 : Nat) ({ cls := "BookTreesModel", name := "entryOf", desc := "(II)I" } : MethodName) ∈ lw_g := gw (List.mem_of_getElem? (i := 870) (by decide +kernel)) rfl
theorem km_MO_134 : Cond.methodLink "BookTreesModel" (134 : Nat) ({ cls := "BookTreesModel", name := "hasEntry", desc := "(II)Z" } : MethodName) ∈ lw_g := gw (List.mem_of_getElem? (i := 874) (by decide +kernel)) rfl
theorem km_LA_102 : Cond.methodLink "BookTreesLaw" (102 : Nat) ({ cls := "BookTreesModel", name := "find", desc := "(II)J" } : MethodName) ∈ lw_g := gw (List.mem_of_getElem? (i := 878) (by decide +kernel)) rfl
theorem km_MO_144 : Cond.methodLink "BookTreesModel" (144 : Nat) ({ cls := "BookTreesModel", name := "isKept", desc := "(I)Z" } : MethodName) ∈ lw_g := gw (List.mem_of_getElem? (i := 882) (by decide +kernel)) rfl
theorem km_LA_105 : Cond.methodLink "BookTreesLaw" (105 : Nat) ({ cls := "BookTreesModel", name := "next", desc := "(II)I" } : MethodName) ∈ lw_g := gw (List.mem_of_getElem? (i := 886) (by decide +kernel)) rfl
theorem km_LA_108 : Cond.methodLink "BookTreesLaw" (108 : Nat) ({ cls := "BookTreesModel", name := "rows", desc := "(I)I" } : MethodName) ∈ lw_g := gw (List.mem_of_getElem? (i := 890) (by decide +kernel)) rfl
theorem km_LA_111 : Cond.methodLink "BookTreesLaw" (111 : Nat) ({ cls := "BookTreesModel", name := "kept", desc := "(I)I" } : MethodName) ∈ lw_g := gw (List.mem_of_getElem? (i := 894) (by decide +kernel)) rfl
theorem km_LA_96 : Cond.methodLink "BookTreesLaw" (96 : Nat) ({ cls := "BookTreesModel", name := "commit", desc := "()I" } : MethodName) ∈ lw_g := gw (List.mem_of_getElem? (i := 898) (by decide +kernel)) rfl
theorem km_MO_196 : Cond.methodLink "BookTreesModel" (196 : Nat) ({ cls := "BookTreesModel", name := "readAll", desc := "()Z" } : MethodName) ∈ lw_g := gw (List.mem_of_getElem? (i := 902) (by decide +kernel)) rfl
theorem km_MO_169 : Cond.methodLink "BookTreesModel" (169 : Nat) ({ cls := "BookTreesModel", name := "readTop", desc := "()Z" } : MethodName) ∈ lw_g := gw (List.mem_of_getElem? (i := 906) (by decide +kernel)) rfl
theorem km_MO_172 : Cond.methodLink "BookTreesModel" (172 : Nat) ({ cls := "BookTreesModel", name := "isNodeChanged", desc := "(I)Z" } : MethodName) ∈ lw_g := gw (List.mem_of_getElem? (i := 910) (by decide +kernel)) rfl
theorem km_MO_175 : Cond.methodLink "BookTreesModel" (175 : Nat) ({ cls := "BookTreesModel", name := "readNode", desc := "(I)Z" } : MethodName) ∈ lw_g := gw (List.mem_of_getElem? (i := 914) (by decide +kernel)) rfl
theorem km_MO_163 : Cond.methodLink "BookTreesModel" (163 : Nat) ({ cls := "BookTreesModel", name := "readLeaf", desc := "(II)Z" } : MethodName) ∈ lw_g := gw (List.mem_of_getElem? (i := 918) (by decide +kernel)) rfl
theorem km_MO_199 : Cond.methodLink "BookTreesModel" (199 : Nat) ({ cls := "BookTreesModel", name := "applyDraft", desc := "()V" } : MethodName) ∈ lw_g := gw (List.mem_of_getElem? (i := 922) (by decide +kernel)) rfl
theorem km_MO_202 : Cond.methodLink "BookTreesModel" (202 : Nat) ({ cls := "BookTreesModel", name := "settle", desc := "()I" } : MethodName) ∈ lw_g := gw (List.mem_of_getElem? (i := 926) (by decide +kernel)) rfl
theorem km_MO_206 : Cond.methodLink "BookTreesModel" (206 : Nat) ({ cls := "BookTreesModel", name := "writeAll", desc := "(I)I" } : MethodName) ∈ lw_g := gw (List.mem_of_getElem? (i := 930) (by decide +kernel)) rfl
theorem km_MO_184 : Cond.methodLink "BookTreesModel" (184 : Nat) ({ cls := "BookTreesModel", name := "writeLeaf", desc := "(I)Z" } : MethodName) ∈ lw_g := gw (List.mem_of_getElem? (i := 934) (by decide +kernel)) rfl
theorem km_MO_178 : Cond.methodLink "BookTreesModel" (178 : Nat) ({ cls := "BookTreesModel", name := "begin", desc := "(II)V" } : MethodName) ∈ lw_g := gw (List.mem_of_getElem? (i := 938) (by decide +kernel)) rfl
theorem km_MO_150 : Cond.methodLink "BookTreesModel" (150 : Nat) ({ cls := "BookTreesModel", name := "putNumber", desc := "(II)V" } : MethodName) ∈ lw_g := gw (List.mem_of_getElem? (i := 942) (by decide +kernel)) rfl
theorem km_MO_181 : Cond.methodLink "BookTreesModel" (181 : Nat) ({ cls := "BookTreesModel", name := "finish", desc := "()Z" } : MethodName) ∈ lw_g := gw (List.mem_of_getElem? (i := 946) (by decide +kernel)) rfl
theorem km_MO_157 : Cond.methodLink "BookTreesModel" (157 : Nat) ({ cls := "BookTreesModel", name := "write", desc := "(II)Z" } : MethodName) ∈ lw_g := gw (List.mem_of_getElem? (i := 950) (by decide +kernel)) rfl
theorem km_MO_187 : Cond.methodLink "BookTreesModel" (187 : Nat) ({ cls := "BookTreesModel", name := "writeNode", desc := "(I)Z" } : MethodName) ∈ lw_g := gw (List.mem_of_getElem? (i := 954) (by decide +kernel)) rfl
theorem km_MO_190 : Cond.methodLink "BookTreesModel" (190 : Nat) ({ cls := "BookTreesModel", name := "writeTop", desc := "()Z" } : MethodName) ∈ lw_g := gw (List.mem_of_getElem? (i := 958) (by decide +kernel)) rfl
theorem km_MO_193 : Cond.methodLink "BookTreesModel" (193 : Nat) ({ cls := "BookTreesModel", name := "writeRoot", desc := "(I)Z" } : MethodName) ∈ lw_g := gw (List.mem_of_getElem? (i := 962) (by decide +kernel)) rfl
theorem km_LA_99 : Cond.methodLink "BookTreesLaw" (99 : Nat) ({ cls := "BookTreesModel", name := "copy", desc := "()I" } : MethodName) ∈ lw_g := gw (List.mem_of_getElem? (i := 966) (by decide +kernel)) rfl
theorem km_LA_115 : Cond.methodLink "BookTreesLaw" (115 : Nat) ({ cls := "BookTreesModel", name := "crash", desc := "(I)V" } : MethodName) ∈ lw_g := gw (List.mem_of_getElem? (i := 970) (by decide +kernel)) rfl
theorem kk_MO_209 : Cond.constant "BookTreesModel" (209 : Nat) (100000 : Int32) ∈ lw_g := gw (List.mem_of_getElem? (i := 974) (by decide +kernel)) rfl
theorem km_LA_119 : Cond.methodLink "BookTreesLaw" (119 : Nat) ({ cls := "BookTreesModel", name := "reopen", desc := "()I" } : MethodName) ∈ lw_g := gw (List.mem_of_getElem? (i := 975) (by decide +kernel)) rfl
theorem km_MO_211 : Cond.methodLink "BookTreesModel" (211 : Nat) ({ cls := "BookTreesModel", name := "isWhole", desc := "(I)Z" } : MethodName) ∈ lw_g := gw (List.mem_of_getElem? (i := 979) (by decide +kernel)) rfl
theorem kk_MO_210 : Cond.constant "BookTreesModel" (210 : Nat) (1000000 : Int32) ∈ lw_g := gw (List.mem_of_getElem? (i := 983) (by decide +kernel)) rfl
theorem km_MO_214 : Cond.methodLink "BookTreesModel" (214 : Nat) ({ cls := "BookTreesModel", name := "keep", desc := "(II)V" } : MethodName) ∈ lw_g := gw (List.mem_of_getElem? (i := 984) (by decide +kernel)) rfl
theorem km_LA_124 : Cond.methodLink "BookTreesLaw" (124 : Nat) ({ cls := "BookTreesModel", name := "isDown", desc := "()Z" } : MethodName) ∈ lw_g := gw (List.mem_of_getElem? (i := 988) (by decide +kernel)) rfl
theorem km_LA_127 : Cond.methodLink "BookTreesLaw" (127 : Nat) ({ cls := "BookTreesModel", name := "byteAt", desc := "(II)I" } : MethodName) ∈ lw_g := gw (List.mem_of_getElem? (i := 992) (by decide +kernel)) rfl
theorem km_LA_131 : Cond.methodLink "BookTreesLaw" (131 : Nat) ({ cls := "BookTreesModel", name := "poke", desc := "(III)I" } : MethodName) ∈ lw_g := gw (List.mem_of_getElem? (i := 996) (by decide +kernel)) rfl
theorem km_LA_134 : Cond.methodLink "BookTreesLaw" (134 : Nat) ({ cls := "BookTreesModel", name := "badAt", desc := "(I)I" } : MethodName) ∈ lw_g := gw (List.mem_of_getElem? (i := 1000) (by decide +kernel)) rfl
theorem km_LA_137 : Cond.methodLink "BookTreesLaw" (137 : Nat) ({ cls := "BookTreesModel", name := "told", desc := "(I)I" } : MethodName) ∈ lw_g := gw (List.mem_of_getElem? (i := 1004) (by decide +kernel)) rfl
def y_BT_init : MethodName := ⟨"BookTrees", "<init>", "(I)V"⟩
abbrev b_BT_init : ByteArray := prog_1_method_1_code
theorem kd_BT_init : Cond.code y_BT_init b_BT_init 2 none ∈ lw_g := gw (List.mem_of_getElem? (i := 73) (by decide +kernel)) rfl
theorem ki_BT_init : Cond.instanceMethod y_BT_init ∈ lw_g := gw (List.mem_of_getElem? (i := 72) (by decide +kernel)) rfl
def y_BT_put : MethodName := ⟨"BookTrees", "put", "(II)I"⟩
abbrev b_BT_put : ByteArray := prog_1_method_2_code
theorem kd_BT_put : Cond.code y_BT_put b_BT_put 3 (some .int) ∈ lw_g := gw (List.mem_of_getElem? (i := 314) (by decide +kernel)) rfl
theorem ki_BT_put : Cond.instanceMethod y_BT_put ∈ lw_g := gw (List.mem_of_getElem? (i := 312) (by decide +kernel)) rfl
theorem ks_BT_put : Cond.selects "BookTrees" y_BT_put y_BT_put ∈ lw_g := gw (List.mem_of_getElem? (i := 313) (by decide +kernel)) rfl
def y_BT_drop : MethodName := ⟨"BookTrees", "drop", "(I)I"⟩
abbrev b_BT_drop : ByteArray := prog_1_method_3_code
theorem kd_BT_drop : Cond.code y_BT_drop b_BT_drop 2 (some .int) ∈ lw_g := gw (List.mem_of_getElem? (i := 431) (by decide +kernel)) rfl
theorem ki_BT_drop : Cond.instanceMethod y_BT_drop ∈ lw_g := gw (List.mem_of_getElem? (i := 429) (by decide +kernel)) rfl
theorem ks_BT_drop : Cond.selects "BookTrees" y_BT_drop y_BT_drop ∈ lw_g := gw (List.mem_of_getElem? (i := 430) (by decide +kernel)) rfl
def y_BT_undo : MethodName := ⟨"BookTrees", "undo", "()I"⟩
abbrev b_BT_undo : ByteArray := prog_1_method_4_code
theorem kd_BT_undo : Cond.code y_BT_undo b_BT_undo 2 (some .int) ∈ lw_g := gw (List.mem_of_getElem? (i := 442) (by decide +kernel)) rfl
theorem ki_BT_undo : Cond.instanceMethod y_BT_undo ∈ lw_g := gw (List.mem_of_getElem? (i := 440) (by decide +kernel)) rfl
theorem ks_BT_undo : Cond.selects "BookTrees" y_BT_undo y_BT_undo ∈ lw_g := gw (List.mem_of_getElem? (i := 441) (by decide +kernel)) rfl
def y_BT_get : MethodName := ⟨"BookTrees", "get", "(I)J"⟩
abbrev b_BT_get : ByteArray := prog_1_method_5_code
theorem kd_BT_get : Cond.code y_BT_get b_BT_get 2 (some .long) ∈ lw_g := gw (List.mem_of_getElem? (i := 449) (by decide +kernel)) rfl
theorem ki_BT_get : Cond.instanceMethod y_BT_get ∈ lw_g := gw (List.mem_of_getElem? (i := 447) (by decide +kernel)) rfl
theorem ks_BT_get : Cond.selects "BookTrees" y_BT_get y_BT_get ∈ lw_g := gw (List.mem_of_getElem? (i := 448) (by decide +kernel)) rfl
def y_BT_commit : MethodName := ⟨"BookTrees", "commit", "()I"⟩
abbrev b_BT_commit : ByteArray := prog_1_method_6_code
theorem kd_BT_commit : Cond.code y_BT_commit b_BT_commit 2 (some .int) ∈ lw_g := gw (List.mem_of_getElem? (i := 496) (by decide +kernel)) rfl
theorem ki_BT_commit : Cond.instanceMethod y_BT_commit ∈ lw_g := gw (List.mem_of_getElem? (i := 494) (by decide +kernel)) rfl
theorem ks_BT_commit : Cond.selects "BookTrees" y_BT_commit y_BT_commit ∈ lw_g := gw (List.mem_of_getElem? (i := 495) (by decide +kernel)) rfl
def y_BT_copy : MethodName := ⟨"BookTrees", "copy", "()I"⟩
abbrev b_BT_copy : ByteArray := prog_1_method_7_code
theorem kd_BT_copy : Cond.code y_BT_copy b_BT_copy 1 (some .int) ∈ lw_g := gw (List.mem_of_getElem? (i := 599) (by decide +kernel)) rfl
theorem ki_BT_copy : Cond.instanceMethod y_BT_copy ∈ lw_g := gw (List.mem_of_getElem? (i := 597) (by decide +kernel)) rfl
theorem ks_BT_copy : Cond.selects "BookTrees" y_BT_copy y_BT_copy ∈ lw_g := gw (List.mem_of_getElem? (i := 598) (by decide +kernel)) rfl
def y_BT_find : MethodName := ⟨"BookTrees", "find", "(II)J"⟩
abbrev b_BT_find : ByteArray := prog_1_method_8_code
theorem kd_BT_find : Cond.code y_BT_find b_BT_find 3 (some .long) ∈ lw_g := gw (List.mem_of_getElem? (i := 610) (by decide +kernel)) rfl
theorem ki_BT_find : Cond.instanceMethod y_BT_find ∈ lw_g := gw (List.mem_of_getElem? (i := 608) (by decide +kernel)) rfl
theorem ks_BT_find : Cond.selects "BookTrees" y_BT_find y_BT_find ∈ lw_g := gw (List.mem_of_getElem? (i := 609) (by decide +kernel)) rfl
def y_BT_next : MethodName := ⟨"BookTrees", "next", "(II)I"⟩
abbrev b_BT_next : ByteArray := prog_1_method_9_code
theorem kd_BT_next : Cond.code y_BT_next b_BT_next 8 (some .int) ∈ lw_g := gw (List.mem_of_getElem? (i := 625) (by decide +kernel)) rfl
theorem ki_BT_next : Cond.instanceMethod y_BT_next ∈ lw_g := gw (List.mem_of_getElem? (i := 623) (by decide +kernel)) rfl
theorem ks_BT_next : Cond.selects "BookTrees" y_BT_next y_BT_next ∈ lw_g := gw (List.mem_of_getElem? (i := 624) (by decide +kernel)) rfl
def y_BT_rows : MethodName := ⟨"BookTrees", "rows", "(I)I"⟩
abbrev b_BT_rows : ByteArray := prog_1_method_10_code
theorem kd_BT_rows : Cond.code y_BT_rows b_BT_rows 3 (some .int) ∈ lw_g := gw (List.mem_of_getElem? (i := 637) (by decide +kernel)) rfl
theorem ki_BT_rows : Cond.instanceMethod y_BT_rows ∈ lw_g := gw (List.mem_of_getElem? (i := 635) (by decide +kernel)) rfl
theorem ks_BT_rows : Cond.selects "BookTrees" y_BT_rows y_BT_rows ∈ lw_g := gw (List.mem_of_getElem? (i := 636) (by decide +kernel)) rfl
def y_BT_kept : MethodName := ⟨"BookTrees", "kept", "(I)I"⟩
abbrev b_BT_kept : ByteArray := prog_1_method_11_code
theorem kd_BT_kept : Cond.code y_BT_kept b_BT_kept 2 (some .int) ∈ lw_g := gw (List.mem_of_getElem? (i := 644) (by decide +kernel)) rfl
theorem ki_BT_kept : Cond.instanceMethod y_BT_kept ∈ lw_g := gw (List.mem_of_getElem? (i := 642) (by decide +kernel)) rfl
theorem ks_BT_kept : Cond.selects "BookTrees" y_BT_kept y_BT_kept ∈ lw_g := gw (List.mem_of_getElem? (i := 643) (by decide +kernel)) rfl
def y_BT_crash : MethodName := ⟨"BookTrees", "crash", "(I)V"⟩
abbrev b_BT_crash : ByteArray := prog_1_method_12_code
theorem kd_BT_crash : Cond.code y_BT_crash b_BT_crash 2 none ∈ lw_g := gw (List.mem_of_getElem? (i := 659) (by decide +kernel)) rfl
theorem ki_BT_crash : Cond.instanceMethod y_BT_crash ∈ lw_g := gw (List.mem_of_getElem? (i := 657) (by decide +kernel)) rfl
theorem ks_BT_crash : Cond.selects "BookTrees" y_BT_crash y_BT_crash ∈ lw_g := gw (List.mem_of_getElem? (i := 658) (by decide +kernel)) rfl
def y_BT_reopen : MethodName := ⟨"BookTrees", "reopen", "()I"⟩
abbrev b_BT_reopen : ByteArray := prog_1_method_13_code
theorem kd_BT_reopen : Cond.code y_BT_reopen b_BT_reopen 3 (some .int) ∈ lw_g := gw (List.mem_of_getElem? (i := 206) (by decide +kernel)) rfl
theorem ki_BT_reopen : Cond.instanceMethod y_BT_reopen ∈ lw_g := gw (List.mem_of_getElem? (i := 204) (by decide +kernel)) rfl
theorem ks_BT_reopen : Cond.selects "BookTrees" y_BT_reopen y_BT_reopen ∈ lw_g := gw (List.mem_of_getElem? (i := 205) (by decide +kernel)) rfl
def y_BT_isDown : MethodName := ⟨"BookTrees", "isDown", "()Z"⟩
abbrev b_BT_isDown : ByteArray := prog_1_method_14_code
theorem kd_BT_isDown : Cond.code y_BT_isDown b_BT_isDown 1 (some .boolean) ∈ lw_g := gw (List.mem_of_getElem? (i := 298) (by decide +kernel)) rfl
theorem ki_BT_isDown : Cond.instanceMethod y_BT_isDown ∈ lw_g := gw (List.mem_of_getElem? (i := 296) (by decide +kernel)) rfl
theorem ks_BT_isDown : Cond.selects "BookTrees" y_BT_isDown y_BT_isDown ∈ lw_g := gw (List.mem_of_getElem? (i := 297) (by decide +kernel)) rfl
def y_BT_byteAt : MethodName := ⟨"BookTrees", "byteAt", "(II)I"⟩
abbrev b_BT_byteAt : ByteArray := prog_1_method_15_code
theorem kd_BT_byteAt : Cond.code y_BT_byteAt b_BT_byteAt 3 (some .int) ∈ lw_g := gw (List.mem_of_getElem? (i := 671) (by decide +kernel)) rfl
theorem ki_BT_byteAt : Cond.instanceMethod y_BT_byteAt ∈ lw_g := gw (List.mem_of_getElem? (i := 669) (by decide +kernel)) rfl
theorem ks_BT_byteAt : Cond.selects "BookTrees" y_BT_byteAt y_BT_byteAt ∈ lw_g := gw (List.mem_of_getElem? (i := 670) (by decide +kernel)) rfl
def y_BT_poke : MethodName := ⟨"BookTrees", "poke", "(III)I"⟩
abbrev b_BT_poke : ByteArray := prog_1_method_16_code
theorem kd_BT_poke : Cond.code y_BT_poke b_BT_poke 4 (some .int) ∈ lw_g := gw (List.mem_of_getElem? (i := 683) (by decide +kernel)) rfl
theorem ki_BT_poke : Cond.instanceMethod y_BT_poke ∈ lw_g := gw (List.mem_of_getElem? (i := 681) (by decide +kernel)) rfl
theorem ks_BT_poke : Cond.selects "BookTrees" y_BT_poke y_BT_poke ∈ lw_g := gw (List.mem_of_getElem? (i := 682) (by decide +kernel)) rfl
def y_BT_badAt : MethodName := ⟨"BookTrees", "badAt", "(I)I"⟩
abbrev b_BT_badAt : ByteArray := prog_1_method_17_code
theorem kd_BT_badAt : Cond.code y_BT_badAt b_BT_badAt 4 (some .int) ∈ lw_g := gw (List.mem_of_getElem? (i := 694) (by decide +kernel)) rfl
theorem ki_BT_badAt : Cond.instanceMethod y_BT_badAt ∈ lw_g := gw (List.mem_of_getElem? (i := 692) (by decide +kernel)) rfl
theorem ks_BT_badAt : Cond.selects "BookTrees" y_BT_badAt y_BT_badAt ∈ lw_g := gw (List.mem_of_getElem? (i := 693) (by decide +kernel)) rfl
def y_BT_told : MethodName := ⟨"BookTrees", "told", "(I)I"⟩
abbrev b_BT_told : ByteArray := prog_1_method_18_code
theorem kd_BT_told : Cond.code y_BT_told b_BT_told 2 (some .int) ∈ lw_g := gw (List.mem_of_getElem? (i := 702) (by decide +kernel)) rfl
theorem ki_BT_told : Cond.instanceMethod y_BT_told ∈ lw_g := gw (List.mem_of_getElem? (i := 700) (by decide +kernel)) rfl
theorem ks_BT_told : Cond.selects "BookTrees" y_BT_told y_BT_told ∈ lw_g := gw (List.mem_of_getElem? (i := 701) (by decide +kernel)) rfl
def y_BT_requireArgument : MethodName := ⟨"BookTrees", "requireArgument", "(Z)V"⟩
abbrev b_BT_requireArgument : ByteArray := prog_1_method_19_code
theorem kd_BT_requireArgument : Cond.code y_BT_requireArgument b_BT_requireArgument 2 none ∈ lw_g := gw (List.mem_of_getElem? (i := 322) (by decide +kernel)) rfl
theorem ki_BT_requireArgument : Cond.instanceMethod y_BT_requireArgument ∈ lw_g := gw (List.mem_of_getElem? (i := 321) (by decide +kernel)) rfl
theorem ks_BT_requireArgument : Cond.selects "BookTrees" y_BT_requireArgument y_BT_requireArgument ∈ lw_g := gw (List.mem_of_getElem? (i := 5) (by decide +kernel)) rfl
def y_BT_requirePower : MethodName := ⟨"BookTrees", "requirePower", "()V"⟩
abbrev b_BT_requirePower : ByteArray := prog_1_method_20_code
theorem kd_BT_requirePower : Cond.code y_BT_requirePower b_BT_requirePower 1 none ∈ lw_g := gw (List.mem_of_getElem? (i := 392) (by decide +kernel)) rfl
theorem ki_BT_requirePower : Cond.instanceMethod y_BT_requirePower ∈ lw_g := gw (List.mem_of_getElem? (i := 391) (by decide +kernel)) rfl
theorem ks_BT_requirePower : Cond.selects "BookTrees" y_BT_requirePower y_BT_requirePower ∈ lw_g := gw (List.mem_of_getElem? (i := 7) (by decide +kernel)) rfl
def y_BT_isKey : MethodName := ⟨"BookTrees", "isKey", "(I)Z"⟩
abbrev b_BT_isKey : ByteArray := prog_1_method_21_code
theorem kd_BT_isKey : Cond.code y_BT_isKey b_BT_isKey 2 (some .boolean) ∈ lw_g := gw (List.mem_of_getElem? (i := 318) (by decide +kernel)) rfl
theorem ki_BT_isKey : Cond.instanceMethod y_BT_isKey ∈ lw_g := gw (List.mem_of_getElem? (i := 317) (by decide +kernel)) rfl
theorem ks_BT_isKey : Cond.selects "BookTrees" y_BT_isKey y_BT_isKey ∈ lw_g := gw (List.mem_of_getElem? (i := 4) (by decide +kernel)) rfl
def y_BT_isByteIndex : MethodName := ⟨"BookTrees", "isByteIndex", "(I)Z"⟩
abbrev b_BT_isByteIndex : ByteArray := prog_1_method_22_code
theorem kd_BT_isByteIndex : Cond.code y_BT_isByteIndex b_BT_isByteIndex 2 (some .boolean) ∈ lw_g := gw (List.mem_of_getElem? (i := 675) (by decide +kernel)) rfl
theorem ki_BT_isByteIndex : Cond.instanceMethod y_BT_isByteIndex ∈ lw_g := gw (List.mem_of_getElem? (i := 674) (by decide +kernel)) rfl
theorem ks_BT_isByteIndex : Cond.selects "BookTrees" y_BT_isByteIndex y_BT_isByteIndex ∈ lw_g := gw (List.mem_of_getElem? (i := 20) (by decide +kernel)) rfl
def y_BT_isKept : MethodName := ⟨"BookTrees", "isKept", "(I)Z"⟩
abbrev b_BT_isKept : ByteArray := prog_1_method_23_code
theorem kd_BT_isKept : Cond.code y_BT_isKept b_BT_isKept 2 (some .boolean) ∈ lw_g := gw (List.mem_of_getElem? (i := 614) (by decide +kernel)) rfl
theorem ki_BT_isKept : Cond.instanceMethod y_BT_isKept ∈ lw_g := gw (List.mem_of_getElem? (i := 613) (by decide +kernel)) rfl
theorem ks_BT_isKept : Cond.selects "BookTrees" y_BT_isKept y_BT_isKept ∈ lw_g := gw (List.mem_of_getElem? (i := 19) (by decide +kernel)) rfl
def y_BT_rowOf : MethodName := ⟨"BookTrees", "rowOf", "(II)J"⟩
abbrev b_BT_rowOf : ByteArray := prog_1_method_24_code
theorem kd_BT_rowOf : Cond.code y_BT_rowOf b_BT_rowOf 4 (some .long) ∈ lw_g := gw (List.mem_of_getElem? (i := 467) (by decide +kernel)) rfl
theorem ki_BT_rowOf : Cond.instanceMethod y_BT_rowOf ∈ lw_g := gw (List.mem_of_getElem? (i := 466) (by decide +kernel)) rfl
theorem ks_BT_rowOf : Cond.selects "BookTrees" y_BT_rowOf y_BT_rowOf ∈ lw_g := gw (List.mem_of_getElem? (i := 9) (by decide +kernel)) rfl
def y_BT_leafBlock : MethodName := ⟨"BookTrees", "leafBlock", "(II)I"⟩
abbrev b_BT_leafBlock : ByteArray := prog_1_method_25_code
theorem kd_BT_leafBlock : Cond.code y_BT_leafBlock b_BT_leafBlock 5 (some .int) ∈ lw_g := gw (List.mem_of_getElem? (i := 471) (by decide +kernel)) rfl
theorem ki_BT_leafBlock : Cond.instanceMethod y_BT_leafBlock ∈ lw_g := gw (List.mem_of_getElem? (i := 470) (by decide +kernel)) rfl
theorem ks_BT_leafBlock : Cond.selects "BookTrees" y_BT_leafBlock y_BT_leafBlock ∈ lw_g := gw (List.mem_of_getElem? (i := 10) (by decide +kernel)) rfl
def y_BT_childBlock : MethodName := ⟨"BookTrees", "childBlock", "(III)I"⟩
abbrev b_BT_childBlock : ByteArray := prog_1_method_26_code
theorem kd_BT_childBlock : Cond.code y_BT_childBlock b_BT_childBlock 5 (some .int) ∈ lw_g := gw (List.mem_of_getElem? (i := 484) (by decide +kernel)) rfl
theorem ki_BT_childBlock : Cond.instanceMethod y_BT_childBlock ∈ lw_g := gw (List.mem_of_getElem? (i := 483) (by decide +kernel)) rfl
theorem ks_BT_childBlock : Cond.selects "BookTrees" y_BT_childBlock y_BT_childBlock ∈ lw_g := gw (List.mem_of_getElem? (i := 11) (by decide +kernel)) rfl
def y_BT_appendVersion : MethodName := ⟨"BookTrees", "appendVersion", "(Z)I"⟩
abbrev b_BT_appendVersion : ByteArray := prog_1_method_27_code
theorem kd_BT_appendVersion : Cond.code y_BT_appendVersion b_BT_appendVersion 6 (some .int) ∈ lw_g := gw (List.mem_of_getElem? (i := 547) (by decide +kernel)) rfl
theorem ki_BT_appendVersion : Cond.instanceMethod y_BT_appendVersion ∈ lw_g := gw (List.mem_of_getElem? (i := 546) (by decide +kernel)) rfl
theorem ks_BT_appendVersion : Cond.selects "BookTrees" y_BT_appendVersion y_BT_appendVersion ∈ lw_g := gw (List.mem_of_getElem? (i := 16) (by decide +kernel)) rfl
def y_MO_init : MethodName := ⟨"BookTreesModel", "<init>", "(I)V"⟩
abbrev b_MO_init : ByteArray := prog_8_method_1_code
theorem kd_MO_init : Cond.code y_MO_init b_MO_init 2 none ∈ lw_g := gw (List.mem_of_getElem? (i := 711) (by decide +kernel)) rfl
theorem ki_MO_init : Cond.instanceMethod y_MO_init ∈ lw_g := gw (List.mem_of_getElem? (i := 710) (by decide +kernel)) rfl
def y_MO_thrown : MethodName := ⟨"BookTreesModel", "thrown", "()I"⟩
abbrev b_MO_thrown : ByteArray := prog_8_method_2_code
theorem kd_MO_thrown : Cond.code y_MO_thrown b_MO_thrown 1 (some .int) ∈ lw_g := gw (List.mem_of_getElem? (i := 795) (by decide +kernel)) rfl
theorem ki_MO_thrown : Cond.instanceMethod y_MO_thrown ∈ lw_g := gw (List.mem_of_getElem? (i := 793) (by decide +kernel)) rfl
theorem ks_MO_thrown : Cond.selects "BookTreesModel" y_MO_thrown y_MO_thrown ∈ lw_g := gw (List.mem_of_getElem? (i := 794) (by decide +kernel)) rfl
def y_MO_goes : MethodName := ⟨"BookTreesModel", "goes", "(Z)Z"⟩
abbrev b_MO_goes : ByteArray := prog_8_method_3_code
theorem kd_MO_goes : Cond.code y_MO_goes b_MO_goes 2 (some .boolean) ∈ lw_g := gw (List.mem_of_getElem? (i := 806) (by decide +kernel)) rfl
theorem ki_MO_goes : Cond.instanceMethod y_MO_goes ∈ lw_g := gw (List.mem_of_getElem? (i := 805) (by decide +kernel)) rfl
theorem ks_MO_goes : Cond.selects "BookTreesModel" y_MO_goes y_MO_goes ∈ lw_g := gw (List.mem_of_getElem? (i := 21) (by decide +kernel)) rfl
def y_MO_isUp : MethodName := ⟨"BookTreesModel", "isUp", "()Z"⟩
abbrev b_MO_isUp : ByteArray := prog_8_method_4_code
theorem kd_MO_isUp : Cond.code y_MO_isUp b_MO_isUp 1 (some .boolean) ∈ lw_g := gw (List.mem_of_getElem? (i := 822) (by decide +kernel)) rfl
theorem ki_MO_isUp : Cond.instanceMethod y_MO_isUp ∈ lw_g := gw (List.mem_of_getElem? (i := 821) (by decide +kernel)) rfl
theorem ks_MO_isUp : Cond.selects "BookTreesModel" y_MO_isUp y_MO_isUp ∈ lw_g := gw (List.mem_of_getElem? (i := 23) (by decide +kernel)) rfl
def y_MO_isKey : MethodName := ⟨"BookTreesModel", "isKey", "(I)Z"⟩
abbrev b_MO_isKey : ByteArray := prog_8_method_5_code
theorem kd_MO_isKey : Cond.code y_MO_isKey b_MO_isKey 1 (some .boolean) ∈ lw_g := gw (List.mem_of_getElem? (i := 802) (by decide +kernel)) rfl
theorem kt_MO_isKey : Cond.static y_MO_isKey ∈ lw_g := gw (List.mem_of_getElem? (i := 801) (by decide +kernel)) rfl
def y_MO_placeOf : MethodName := ⟨"BookTreesModel", "placeOf", "(I)I"⟩
abbrev b_MO_placeOf : ByteArray := prog_8_method_6_code
theorem kd_MO_placeOf : Cond.code y_MO_placeOf b_MO_placeOf 2 (some .int) ∈ lw_g := gw (List.mem_of_getElem? (i := 851) (by decide +kernel)) rfl
theorem ki_MO_placeOf : Cond.instanceMethod y_MO_placeOf ∈ lw_g := gw (List.mem_of_getElem? (i := 850) (by decide +kernel)) rfl
theorem ks_MO_placeOf : Cond.selects "BookTreesModel" y_MO_placeOf y_MO_placeOf ∈ lw_g := gw (List.mem_of_getElem? (i := 29) (by decide +kernel)) rfl
def y_MO_isUsed : MethodName := ⟨"BookTreesModel", "isUsed", "(I)Z"⟩
abbrev b_MO_isUsed : ByteArray := prog_8_method_7_code
theorem kd_MO_isUsed : Cond.code y_MO_isUsed b_MO_isUsed 2 (some .boolean) ∈ lw_g := gw (List.mem_of_getElem? (i := 847) (by decide +kernel)) rfl
theorem ki_MO_isUsed : Cond.instanceMethod y_MO_isUsed ∈ lw_g := gw (List.mem_of_getElem? (i := 846) (by decide +kernel)) rfl
theorem ks_MO_isUsed : Cond.selects "BookTreesModel" y_MO_isUsed y_MO_isUsed ∈ lw_g := gw (List.mem_of_getElem? (i := 28) (by decide +kernel)) rfl
def y_MO_number : MethodName := ⟨"BookTreesModel", "number", "(I)I"⟩
abbrev b_MO_number : ByteArray := prog_8_method_8_code
theorem kd_MO_number : Cond.code y_MO_number b_MO_number 2 (some .int) ∈ lw_g := gw (List.mem_of_getElem? (i := 864) (by decide +kernel)) rfl
theorem ki_MO_number : Cond.instanceMethod y_MO_number ∈ lw_g := gw (List.mem_of_getElem? (i := 863) (by decide +kernel)) rfl
theorem ks_MO_number : Cond.selects "BookTreesModel" y_MO_number y_MO_number ∈ lw_g := gw (List.mem_of_getElem? (i := 31) (by decide +kernel)) rfl
def y_MO_mixed : MethodName := ⟨"BookTreesModel", "mixed", "(JI)J"⟩
abbrev b_MO_mixed : ByteArray := prog_8_method_9_code
theorem kd_MO_mixed : Cond.code y_MO_mixed b_MO_mixed 5 (some .long) ∈ lw_g := gw (List.mem_of_getElem? (i := 858) (by decide +kernel)) rfl
theorem kt_MO_mixed : Cond.static y_MO_mixed ∈ lw_g := gw (List.mem_of_getElem? (i := 857) (by decide +kernel)) rfl
def y_MO_hasSum : MethodName := ⟨"BookTreesModel", "hasSum", "(I)Z"⟩
abbrev b_MO_hasSum : ByteArray := prog_8_method_10_code
theorem kd_MO_hasSum : Cond.code y_MO_hasSum b_MO_hasSum 6 (some .boolean) ∈ lw_g := gw (List.mem_of_getElem? (i := 855) (by decide +kernel)) rfl
theorem ki_MO_hasSum : Cond.instanceMethod y_MO_hasSum ∈ lw_g := gw (List.mem_of_getElem? (i := 854) (by decide +kernel)) rfl
theorem ks_MO_hasSum : Cond.selects "BookTreesModel" y_MO_hasSum y_MO_hasSum ∈ lw_g := gw (List.mem_of_getElem? (i := 30) (by decide +kernel)) rfl
def y_MO_isBad : MethodName := ⟨"BookTreesModel", "isBad", "(II)Z"⟩
abbrev b_MO_isBad : ByteArray := prog_8_method_11_code
theorem kd_MO_isBad : Cond.code y_MO_isBad b_MO_isBad 4 (some .boolean) ∈ lw_g := gw (List.mem_of_getElem? (i := 843) (by decide +kernel)) rfl
theorem ki_MO_isBad : Cond.instanceMethod y_MO_isBad ∈ lw_g := gw (List.mem_of_getElem? (i := 842) (by decide +kernel)) rfl
theorem ks_MO_isBad : Cond.selects "BookTreesModel" y_MO_isBad y_MO_isBad ∈ lw_g := gw (List.mem_of_getElem? (i := 27) (by decide +kernel)) rfl
def y_MO_bitsOf : MethodName := ⟨"BookTreesModel", "bitsOf", "(I)I"⟩
abbrev b_MO_bitsOf : ByteArray := prog_8_method_12_code
theorem kd_MO_bitsOf : Cond.code y_MO_bitsOf b_MO_bitsOf 2 (some .int) ∈ lw_g := gw (List.mem_of_getElem? (i := 869) (by decide +kernel)) rfl
theorem ki_MO_bitsOf : Cond.instanceMethod y_MO_bitsOf ∈ lw_g := gw (List.mem_of_getElem? (i := 868) (by decide +kernel)) rfl
theorem ks_MO_bitsOf : Cond.selects "BookTreesModel" y_MO_bitsOf y_MO_bitsOf ∈ lw_g := gw (List.mem_of_getElem? (i := 32) (by decide +kernel)) rfl
def y_MO_entryOf : MethodName := ⟨"BookTreesModel", "entryOf", "(II)I"⟩
abbrev b_MO_entryOf : ByteArray := prog_8_method_13_code
theorem kd_MO_entryOf : Cond.code y_MO_entryOf b_MO_entryOf 3 (some .int) ∈ lw_g := gw (List.mem_of_getElem? (i := 873) (by decide +kernel)) rfl
theorem ki_MO_entryOf : Cond.instanceMethod y_MO_entryOf ∈ lw_g := gw (List.mem_of_getElem? (i := 872) (by decide +kernel)) rfl
theorem ks_MO_entryOf : Cond.selects "BookTreesModel" y_MO_entryOf y_MO_entryOf ∈ lw_g := gw (List.mem_of_getElem? (i := 33) (by decide +kernel)) rfl
def y_MO_hasEntry : MethodName := ⟨"BookTreesModel", "hasEntry", "(II)Z"⟩
abbrev b_MO_hasEntry : ByteArray := prog_8_method_14_code
theorem kd_MO_hasEntry : Cond.code y_MO_hasEntry b_MO_hasEntry 3 (some .boolean) ∈ lw_g := gw (List.mem_of_getElem? (i := 877) (by decide +kernel)) rfl
theorem ki_MO_hasEntry : Cond.instanceMethod y_MO_hasEntry ∈ lw_g := gw (List.mem_of_getElem? (i := 876) (by decide +kernel)) rfl
theorem ks_MO_hasEntry : Cond.selects "BookTreesModel" y_MO_hasEntry y_MO_hasEntry ∈ lw_g := gw (List.mem_of_getElem? (i := 34) (by decide +kernel)) rfl
def y_MO_change : MethodName := ⟨"BookTreesModel", "change", "(III)V"⟩
abbrev b_MO_change : ByteArray := prog_8_method_15_code
theorem kd_MO_change : Cond.code y_MO_change b_MO_change 4 none ∈ lw_g := gw (List.mem_of_getElem? (i := 810) (by decide +kernel)) rfl
theorem ki_MO_change : Cond.instanceMethod y_MO_change ∈ lw_g := gw (List.mem_of_getElem? (i := 809) (by decide +kernel)) rfl
theorem ks_MO_change : Cond.selects "BookTreesModel" y_MO_change y_MO_change ∈ lw_g := gw (List.mem_of_getElem? (i := 22) (by decide +kernel)) rfl
def y_MO_put : MethodName := ⟨"BookTreesModel", "put", "(II)I"⟩
abbrev b_MO_put : ByteArray := prog_8_method_16_code
theorem kd_MO_put : Cond.code y_MO_put b_MO_put 3 (some .int) ∈ lw_g := gw (List.mem_of_getElem? (i := 799) (by decide +kernel)) rfl
theorem ki_MO_put : Cond.instanceMethod y_MO_put ∈ lw_g := gw (List.mem_of_getElem? (i := 797) (by decide +kernel)) rfl
theorem ks_MO_put : Cond.selects "BookTreesModel" y_MO_put y_MO_put ∈ lw_g := gw (List.mem_of_getElem? (i := 798) (by decide +kernel)) rfl
def y_MO_drop : MethodName := ⟨"BookTreesModel", "drop", "(I)I"⟩
abbrev b_MO_drop : ByteArray := prog_8_method_17_code
theorem kd_MO_drop : Cond.code y_MO_drop b_MO_drop 2 (some .int) ∈ lw_g := gw (List.mem_of_getElem? (i := 814) (by decide +kernel)) rfl
theorem ki_MO_drop : Cond.instanceMethod y_MO_drop ∈ lw_g := gw (List.mem_of_getElem? (i := 812) (by decide +kernel)) rfl
theorem ks_MO_drop : Cond.selects "BookTreesModel" y_MO_drop y_MO_drop ∈ lw_g := gw (List.mem_of_getElem? (i := 813) (by decide +kernel)) rfl
def y_MO_clear : MethodName := ⟨"BookTreesModel", "clear", "()V"⟩
abbrev b_MO_clear : ByteArray := prog_8_method_18_code
theorem kd_MO_clear : Cond.code y_MO_clear b_MO_clear 2 none ∈ lw_g := gw (List.mem_of_getElem? (i := 826) (by decide +kernel)) rfl
theorem ki_MO_clear : Cond.instanceMethod y_MO_clear ∈ lw_g := gw (List.mem_of_getElem? (i := 825) (by decide +kernel)) rfl
theorem ks_MO_clear : Cond.selects "BookTreesModel" y_MO_clear y_MO_clear ∈ lw_g := gw (List.mem_of_getElem? (i := 24) (by decide +kernel)) rfl
def y_MO_undo : MethodName := ⟨"BookTreesModel", "undo", "()I"⟩
abbrev b_MO_undo : ByteArray := prog_8_method_19_code
theorem kd_MO_undo : Cond.code y_MO_undo b_MO_undo 2 (some .int) ∈ lw_g := gw (List.mem_of_getElem? (i := 818) (by decide +kernel)) rfl
theorem ki_MO_undo : Cond.instanceMethod y_MO_undo ∈ lw_g := gw (List.mem_of_getElem? (i := 816) (by decide +kernel)) rfl
theorem ks_MO_undo : Cond.selects "BookTreesModel" y_MO_undo y_MO_undo ∈ lw_g := gw (List.mem_of_getElem? (i := 817) (by decide +kernel)) rfl
def y_MO_rootOf : MethodName := ⟨"BookTreesModel", "rootOf", "(I)I"⟩
abbrev b_MO_rootOf : ByteArray := prog_8_method_20_code
theorem kd_MO_rootOf : Cond.code y_MO_rootOf b_MO_rootOf 4 (some .int) ∈ lw_g := gw (List.mem_of_getElem? (i := 839) (by decide +kernel)) rfl
theorem ki_MO_rootOf : Cond.instanceMethod y_MO_rootOf ∈ lw_g := gw (List.mem_of_getElem? (i := 838) (by decide +kernel)) rfl
theorem ks_MO_rootOf : Cond.selects "BookTreesModel" y_MO_rootOf y_MO_rootOf ∈ lw_g := gw (List.mem_of_getElem? (i := 26) (by decide +kernel)) rfl
def y_MO_isKept : MethodName := ⟨"BookTreesModel", "isKept", "(I)Z"⟩
abbrev b_MO_isKept : ByteArray := prog_8_method_21_code
theorem kd_MO_isKept : Cond.code y_MO_isKept b_MO_isKept 2 (some .boolean) ∈ lw_g := gw (List.mem_of_getElem? (i := 885) (by decide +kernel)) rfl
theorem ki_MO_isKept : Cond.instanceMethod y_MO_isKept ∈ lw_g := gw (List.mem_of_getElem? (i := 884) (by decide +kernel)) rfl
theorem ks_MO_isKept : Cond.selects "BookTreesModel" y_MO_isKept y_MO_isKept ∈ lw_g := gw (List.mem_of_getElem? (i := 35) (by decide +kernel)) rfl
def y_MO_look : MethodName := ⟨"BookTreesModel", "look", "(II)J"⟩
abbrev b_MO_look : ByteArray := prog_8_method_22_code
theorem kd_MO_look : Cond.code y_MO_look b_MO_look 6 (some .long) ∈ lw_g := gw (List.mem_of_getElem? (i := 835) (by decide +kernel)) rfl
theorem ki_MO_look : Cond.instanceMethod y_MO_look ∈ lw_g := gw (List.mem_of_getElem? (i := 834) (by decide +kernel)) rfl
theorem ks_MO_look : Cond.selects "BookTreesModel" y_MO_look y_MO_look ∈ lw_g := gw (List.mem_of_getElem? (i := 25) (by decide +kernel)) rfl
def y_MO_get : MethodName := ⟨"BookTreesModel", "get", "(I)J"⟩
abbrev b_MO_get : ByteArray := prog_8_method_23_code
theorem kd_MO_get : Cond.code y_MO_get b_MO_get 2 (some .long) ∈ lw_g := gw (List.mem_of_getElem? (i := 830) (by decide +kernel)) rfl
theorem ki_MO_get : Cond.instanceMethod y_MO_get ∈ lw_g := gw (List.mem_of_getElem? (i := 828) (by decide +kernel)) rfl
theorem ks_MO_get : Cond.selects "BookTreesModel" y_MO_get y_MO_get ∈ lw_g := gw (List.mem_of_getElem? (i := 829) (by decide +kernel)) rfl
def y_MO_find : MethodName := ⟨"BookTreesModel", "find", "(II)J"⟩
abbrev b_MO_find : ByteArray := prog_8_method_24_code
theorem kd_MO_find : Cond.code y_MO_find b_MO_find 3 (some .long) ∈ lw_g := gw (List.mem_of_getElem? (i := 881) (by decide +kernel)) rfl
theorem ki_MO_find : Cond.instanceMethod y_MO_find ∈ lw_g := gw (List.mem_of_getElem? (i := 879) (by decide +kernel)) rfl
theorem ks_MO_find : Cond.selects "BookTreesModel" y_MO_find y_MO_find ∈ lw_g := gw (List.mem_of_getElem? (i := 880) (by decide +kernel)) rfl
def y_MO_next : MethodName := ⟨"BookTreesModel", "next", "(II)I"⟩
abbrev b_MO_next : ByteArray := prog_8_method_25_code
theorem kd_MO_next : Cond.code y_MO_next b_MO_next 6 (some .int) ∈ lw_g := gw (List.mem_of_getElem? (i := 889) (by decide +kernel)) rfl
theorem ki_MO_next : Cond.instanceMethod y_MO_next ∈ lw_g := gw (List.mem_of_getElem? (i := 887) (by decide +kernel)) rfl
theorem ks_MO_next : Cond.selects "BookTreesModel" y_MO_next y_MO_next ∈ lw_g := gw (List.mem_of_getElem? (i := 888) (by decide +kernel)) rfl
def y_MO_rows : MethodName := ⟨"BookTreesModel", "rows", "(I)I"⟩
abbrev b_MO_rows : ByteArray := prog_8_method_26_code
theorem kd_MO_rows : Cond.code y_MO_rows b_MO_rows 3 (some .int) ∈ lw_g := gw (List.mem_of_getElem? (i := 893) (by decide +kernel)) rfl
theorem ki_MO_rows : Cond.instanceMethod y_MO_rows ∈ lw_g := gw (List.mem_of_getElem? (i := 891) (by decide +kernel)) rfl
theorem ks_MO_rows : Cond.selects "BookTreesModel" y_MO_rows y_MO_rows ∈ lw_g := gw (List.mem_of_getElem? (i := 892) (by decide +kernel)) rfl
def y_MO_kept : MethodName := ⟨"BookTreesModel", "kept", "(I)I"⟩
abbrev b_MO_kept : ByteArray := prog_8_method_27_code
theorem kd_MO_kept : Cond.code y_MO_kept b_MO_kept 2 (some .int) ∈ lw_g := gw (List.mem_of_getElem? (i := 897) (by decide +kernel)) rfl
theorem ki_MO_kept : Cond.instanceMethod y_MO_kept ∈ lw_g := gw (List.mem_of_getElem? (i := 895) (by decide +kernel)) rfl
theorem ks_MO_kept : Cond.selects "BookTreesModel" y_MO_kept y_MO_kept ∈ lw_g := gw (List.mem_of_getElem? (i := 896) (by decide +kernel)) rfl
def y_MO_write : MethodName := ⟨"BookTreesModel", "write", "(II)Z"⟩
abbrev b_MO_write : ByteArray := prog_8_method_28_code
theorem kd_MO_write : Cond.code y_MO_write b_MO_write 3 (some .boolean) ∈ lw_g := gw (List.mem_of_getElem? (i := 953) (by decide +kernel)) rfl
theorem ki_MO_write : Cond.instanceMethod y_MO_write ∈ lw_g := gw (List.mem_of_getElem? (i := 952) (by decide +kernel)) rfl
theorem ks_MO_write : Cond.selects "BookTreesModel" y_MO_write y_MO_write ∈ lw_g := gw (List.mem_of_getElem? (i := 48) (by decide +kernel)) rfl
def y_MO_begin : MethodName := ⟨"BookTreesModel", "begin", "(II)V"⟩
abbrev b_MO_begin : ByteArray := prog_8_method_29_code
theorem kd_MO_begin : Cond.code y_MO_begin b_MO_begin 4 none ∈ lw_g := gw (List.mem_of_getElem? (i := 941) (by decide +kernel)) rfl
theorem ki_MO_begin : Cond.instanceMethod y_MO_begin ∈ lw_g := gw (List.mem_of_getElem? (i := 940) (by decide +kernel)) rfl
theorem ks_MO_begin : Cond.selects "BookTreesModel" y_MO_begin y_MO_begin ∈ lw_g := gw (List.mem_of_getElem? (i := 45) (by decide +kernel)) rfl
def y_MO_putNumber : MethodName := ⟨"BookTreesModel", "putNumber", "(II)V"⟩
abbrev b_MO_putNumber : ByteArray := prog_8_method_30_code
theorem kd_MO_putNumber : Cond.code y_MO_putNumber b_MO_putNumber 4 none ∈ lw_g := gw (List.mem_of_getElem? (i := 945) (by decide +kernel)) rfl
theorem ki_MO_putNumber : Cond.instanceMethod y_MO_putNumber ∈ lw_g := gw (List.mem_of_getElem? (i := 944) (by decide +kernel)) rfl
theorem ks_MO_putNumber : Cond.selects "BookTreesModel" y_MO_putNumber y_MO_putNumber ∈ lw_g := gw (List.mem_of_getElem? (i := 46) (by decide +kernel)) rfl
def y_MO_finish : MethodName := ⟨"BookTreesModel", "finish", "()Z"⟩
abbrev b_MO_finish : ByteArray := prog_8_method_31_code
theorem kd_MO_finish : Cond.code y_MO_finish b_MO_finish 6 (some .boolean) ∈ lw_g := gw (List.mem_of_getElem? (i := 949) (by decide +kernel)) rfl
theorem ki_MO_finish : Cond.instanceMethod y_MO_finish ∈ lw_g := gw (List.mem_of_getElem? (i := 948) (by decide +kernel)) rfl
theorem ks_MO_finish : Cond.selects "BookTreesModel" y_MO_finish y_MO_finish ∈ lw_g := gw (List.mem_of_getElem? (i := 47) (by decide +kernel)) rfl
def y_MO_readLeaf : MethodName := ⟨"BookTreesModel", "readLeaf", "(II)Z"⟩
abbrev b_MO_readLeaf : ByteArray := prog_8_method_32_code
theorem kd_MO_readLeaf : Cond.code y_MO_readLeaf b_MO_readLeaf 4 (some .boolean) ∈ lw_g := gw (List.mem_of_getElem? (i := 921) (by decide +kernel)) rfl
theorem ki_MO_readLeaf : Cond.instanceMethod y_MO_readLeaf ∈ lw_g := gw (List.mem_of_getElem? (i := 920) (by decide +kernel)) rfl
theorem ks_MO_readLeaf : Cond.selects "BookTreesModel" y_MO_readLeaf y_MO_readLeaf ∈ lw_g := gw (List.mem_of_getElem? (i := 40) (by decide +kernel)) rfl
def y_MO_readNode : MethodName := ⟨"BookTreesModel", "readNode", "(I)Z"⟩
abbrev b_MO_readNode : ByteArray := prog_8_method_33_code
theorem kd_MO_readNode : Cond.code y_MO_readNode b_MO_readNode 7 (some .boolean) ∈ lw_g := gw (List.mem_of_getElem? (i := 917) (by decide +kernel)) rfl
theorem ki_MO_readNode : Cond.instanceMethod y_MO_readNode ∈ lw_g := gw (List.mem_of_getElem? (i := 916) (by decide +kernel)) rfl
theorem ks_MO_readNode : Cond.selects "BookTreesModel" y_MO_readNode y_MO_readNode ∈ lw_g := gw (List.mem_of_getElem? (i := 39) (by decide +kernel)) rfl
def y_MO_isNodeChanged : MethodName := ⟨"BookTreesModel", "isNodeChanged", "(I)Z"⟩
abbrev b_MO_isNodeChanged : ByteArray := prog_8_method_34_code
theorem kd_MO_isNodeChanged : Cond.code y_MO_isNodeChanged b_MO_isNodeChanged 4 (some .boolean) ∈ lw_g := gw (List.mem_of_getElem? (i := 913) (by decide +kernel)) rfl
theorem ki_MO_isNodeChanged : Cond.instanceMethod y_MO_isNodeChanged ∈ lw_g := gw (List.mem_of_getElem? (i := 912) (by decide +kernel)) rfl
theorem ks_MO_isNodeChanged : Cond.selects "BookTreesModel" y_MO_isNodeChanged y_MO_isNodeChanged ∈ lw_g := gw (List.mem_of_getElem? (i := 38) (by decide +kernel)) rfl
def y_MO_readTop : MethodName := ⟨"BookTreesModel", "readTop", "()Z"⟩
abbrev b_MO_readTop : ByteArray := prog_8_method_35_code
theorem kd_MO_readTop : Cond.code y_MO_readTop b_MO_readTop 4 (some .boolean) ∈ lw_g := gw (List.mem_of_getElem? (i := 909) (by decide +kernel)) rfl
theorem ki_MO_readTop : Cond.instanceMethod y_MO_readTop ∈ lw_g := gw (List.mem_of_getElem? (i := 908) (by decide +kernel)) rfl
theorem ks_MO_readTop : Cond.selects "BookTreesModel" y_MO_readTop y_MO_readTop ∈ lw_g := gw (List.mem_of_getElem? (i := 37) (by decide +kernel)) rfl
def y_MO_readAll : MethodName := ⟨"BookTreesModel", "readAll", "()Z"⟩
abbrev b_MO_readAll : ByteArray := prog_8_method_36_code
theorem kd_MO_readAll : Cond.code y_MO_readAll b_MO_readAll 3 (some .boolean) ∈ lw_g := gw (List.mem_of_getElem? (i := 905) (by decide +kernel)) rfl
theorem ki_MO_readAll : Cond.instanceMethod y_MO_readAll ∈ lw_g := gw (List.mem_of_getElem? (i := 904) (by decide +kernel)) rfl
theorem ks_MO_readAll : Cond.selects "BookTreesModel" y_MO_readAll y_MO_readAll ∈ lw_g := gw (List.mem_of_getElem? (i := 36) (by decide +kernel)) rfl
def y_MO_applyDraft : MethodName := ⟨"BookTreesModel", "applyDraft", "()V"⟩
abbrev b_MO_applyDraft : ByteArray := prog_8_method_37_code
theorem kd_MO_applyDraft : Cond.code y_MO_applyDraft b_MO_applyDraft 5 none ∈ lw_g := gw (List.mem_of_getElem? (i := 925) (by decide +kernel)) rfl
theorem ki_MO_applyDraft : Cond.instanceMethod y_MO_applyDraft ∈ lw_g := gw (List.mem_of_getElem? (i := 924) (by decide +kernel)) rfl
theorem ks_MO_applyDraft : Cond.selects "BookTreesModel" y_MO_applyDraft y_MO_applyDraft ∈ lw_g := gw (List.mem_of_getElem? (i := 41) (by decide +kernel)) rfl
def y_MO_settle : MethodName := ⟨"BookTreesModel", "settle", "()I"⟩
abbrev b_MO_settle : ByteArray := prog_8_method_38_code
theorem kd_MO_settle : Cond.code y_MO_settle b_MO_settle 5 (some .int) ∈ lw_g := gw (List.mem_of_getElem? (i := 929) (by decide +kernel)) rfl
theorem ki_MO_settle : Cond.instanceMethod y_MO_settle ∈ lw_g := gw (List.mem_of_getElem? (i := 928) (by decide +kernel)) rfl
theorem ks_MO_settle : Cond.selects "BookTreesModel" y_MO_settle y_MO_settle ∈ lw_g := gw (List.mem_of_getElem? (i := 42) (by decide +kernel)) rfl
def y_MO_writeLeaf : MethodName := ⟨"BookTreesModel", "writeLeaf", "(I)Z"⟩
abbrev b_MO_writeLeaf : ByteArray := prog_8_method_39_code
theorem kd_MO_writeLeaf : Cond.code y_MO_writeLeaf b_MO_writeLeaf 3 (some .boolean) ∈ lw_g := gw (List.mem_of_getElem? (i := 937) (by decide +kernel)) rfl
theorem ki_MO_writeLeaf : Cond.instanceMethod y_MO_writeLeaf ∈ lw_g := gw (List.mem_of_getElem? (i := 936) (by decide +kernel)) rfl
theorem ks_MO_writeLeaf : Cond.selects "BookTreesModel" y_MO_writeLeaf y_MO_writeLeaf ∈ lw_g := gw (List.mem_of_getElem? (i := 44) (by decide +kernel)) rfl
def y_MO_writeNode : MethodName := ⟨"BookTreesModel", "writeNode", "(I)Z"⟩
abbrev b_MO_writeNode : ByteArray := prog_8_method_40_code
theorem kd_MO_writeNode : Cond.code y_MO_writeNode b_MO_writeNode 3 (some .boolean) ∈ lw_g := gw (List.mem_of_getElem? (i := 957) (by decide +kernel)) rfl
theorem ki_MO_writeNode : Cond.instanceMethod y_MO_writeNode ∈ lw_g := gw (List.mem_of_getElem? (i := 956) (by decide +kernel)) rfl
theorem ks_MO_writeNode : Cond.selects "BookTreesModel" y_MO_writeNode y_MO_writeNode ∈ lw_g := gw (List.mem_of_getElem? (i := 49) (by decide +kernel)) rfl
def y_MO_writeTop : MethodName := ⟨"BookTreesModel", "writeTop", "()Z"⟩
abbrev b_MO_writeTop : ByteArray := prog_8_method_41_code
theorem kd_MO_writeTop : Cond.code y_MO_writeTop b_MO_writeTop 2 (some .boolean) ∈ lw_g := gw (List.mem_of_getElem? (i := 961) (by decide +kernel)) rfl
theorem ki_MO_writeTop : Cond.instanceMethod y_MO_writeTop ∈ lw_g := gw (List.mem_of_getElem? (i := 960) (by decide +kernel)) rfl
theorem ks_MO_writeTop : Cond.selects "BookTreesModel" y_MO_writeTop y_MO_writeTop ∈ lw_g := gw (List.mem_of_getElem? (i := 50) (by decide +kernel)) rfl
def y_MO_writeRoot : MethodName := ⟨"BookTreesModel", "writeRoot", "(I)Z"⟩
abbrev b_MO_writeRoot : ByteArray := prog_8_method_42_code
theorem kd_MO_writeRoot : Cond.code y_MO_writeRoot b_MO_writeRoot 3 (some .boolean) ∈ lw_g := gw (List.mem_of_getElem? (i := 965) (by decide +kernel)) rfl
theorem ki_MO_writeRoot : Cond.instanceMethod y_MO_writeRoot ∈ lw_g := gw (List.mem_of_getElem? (i := 964) (by decide +kernel)) rfl
theorem ks_MO_writeRoot : Cond.selects "BookTreesModel" y_MO_writeRoot y_MO_writeRoot ∈ lw_g := gw (List.mem_of_getElem? (i := 51) (by decide +kernel)) rfl
def y_MO_writeAll : MethodName := ⟨"BookTreesModel", "writeAll", "(I)I"⟩
abbrev b_MO_writeAll : ByteArray := prog_8_method_43_code
theorem kd_MO_writeAll : Cond.code y_MO_writeAll b_MO_writeAll 5 (some .int) ∈ lw_g := gw (List.mem_of_getElem? (i := 933) (by decide +kernel)) rfl
theorem ki_MO_writeAll : Cond.instanceMethod y_MO_writeAll ∈ lw_g := gw (List.mem_of_getElem? (i := 932) (by decide +kernel)) rfl
theorem ks_MO_writeAll : Cond.selects "BookTreesModel" y_MO_writeAll y_MO_writeAll ∈ lw_g := gw (List.mem_of_getElem? (i := 43) (by decide +kernel)) rfl
def y_MO_commit : MethodName := ⟨"BookTreesModel", "commit", "()I"⟩
abbrev b_MO_commit : ByteArray := prog_8_method_44_code
theorem kd_MO_commit : Cond.code y_MO_commit b_MO_commit 2 (some .int) ∈ lw_g := gw (List.mem_of_getElem? (i := 901) (by decide +kernel)) rfl
theorem ki_MO_commit : Cond.instanceMethod y_MO_commit ∈ lw_g := gw (List.mem_of_getElem? (i := 899) (by decide +kernel)) rfl
theorem ks_MO_commit : Cond.selects "BookTreesModel" y_MO_commit y_MO_commit ∈ lw_g := gw (List.mem_of_getElem? (i := 900) (by decide +kernel)) rfl
def y_MO_copy : MethodName := ⟨"BookTreesModel", "copy", "()I"⟩
abbrev b_MO_copy : ByteArray := prog_8_method_45_code
theorem kd_MO_copy : Cond.code y_MO_copy b_MO_copy 2 (some .int) ∈ lw_g := gw (List.mem_of_getElem? (i := 969) (by decide +kernel)) rfl
theorem ki_MO_copy : Cond.instanceMethod y_MO_copy ∈ lw_g := gw (List.mem_of_getElem? (i := 967) (by decide +kernel)) rfl
theorem ks_MO_copy : Cond.selects "BookTreesModel" y_MO_copy y_MO_copy ∈ lw_g := gw (List.mem_of_getElem? (i := 968) (by decide +kernel)) rfl
def y_MO_crash : MethodName := ⟨"BookTreesModel", "crash", "(I)V"⟩
abbrev b_MO_crash : ByteArray := prog_8_method_46_code
theorem kd_MO_crash : Cond.code y_MO_crash b_MO_crash 2 none ∈ lw_g := gw (List.mem_of_getElem? (i := 973) (by decide +kernel)) rfl
theorem ki_MO_crash : Cond.instanceMethod y_MO_crash ∈ lw_g := gw (List.mem_of_getElem? (i := 971) (by decide +kernel)) rfl
theorem ks_MO_crash : Cond.selects "BookTreesModel" y_MO_crash y_MO_crash ∈ lw_g := gw (List.mem_of_getElem? (i := 972) (by decide +kernel)) rfl
def y_MO_isWhole : MethodName := ⟨"BookTreesModel", "isWhole", "(I)Z"⟩
abbrev b_MO_isWhole : ByteArray := prog_8_method_47_code
theorem kd_MO_isWhole : Cond.code y_MO_isWhole b_MO_isWhole 6 (some .boolean) ∈ lw_g := gw (List.mem_of_getElem? (i := 982) (by decide +kernel)) rfl
theorem ki_MO_isWhole : Cond.instanceMethod y_MO_isWhole ∈ lw_g := gw (List.mem_of_getElem? (i := 981) (by decide +kernel)) rfl
theorem ks_MO_isWhole : Cond.selects "BookTreesModel" y_MO_isWhole y_MO_isWhole ∈ lw_g := gw (List.mem_of_getElem? (i := 52) (by decide +kernel)) rfl
def y_MO_keep : MethodName := ⟨"BookTreesModel", "keep", "(II)V"⟩
abbrev b_MO_keep : ByteArray := prog_8_method_48_code
theorem kd_MO_keep : Cond.code y_MO_keep b_MO_keep 5 none ∈ lw_g := gw (List.mem_of_getElem? (i := 987) (by decide +kernel)) rfl
theorem ki_MO_keep : Cond.instanceMethod y_MO_keep ∈ lw_g := gw (List.mem_of_getElem? (i := 986) (by decide +kernel)) rfl
theorem ks_MO_keep : Cond.selects "BookTreesModel" y_MO_keep y_MO_keep ∈ lw_g := gw (List.mem_of_getElem? (i := 53) (by decide +kernel)) rfl
def y_MO_reopen : MethodName := ⟨"BookTreesModel", "reopen", "()I"⟩
abbrev b_MO_reopen : ByteArray := prog_8_method_49_code
theorem kd_MO_reopen : Cond.code y_MO_reopen b_MO_reopen 3 (some .int) ∈ lw_g := gw (List.mem_of_getElem? (i := 978) (by decide +kernel)) rfl
theorem ki_MO_reopen : Cond.instanceMethod y_MO_reopen ∈ lw_g := gw (List.mem_of_getElem? (i := 976) (by decide +kernel)) rfl
theorem ks_MO_reopen : Cond.selects "BookTreesModel" y_MO_reopen y_MO_reopen ∈ lw_g := gw (List.mem_of_getElem? (i := 977) (by decide +kernel)) rfl
def y_MO_isDown : MethodName := ⟨"BookTreesModel", "isDown", "()Z"⟩
abbrev b_MO_isDown : ByteArray := prog_8_method_50_code
theorem kd_MO_isDown : Cond.code y_MO_isDown b_MO_isDown 1 (some .boolean) ∈ lw_g := gw (List.mem_of_getElem? (i := 991) (by decide +kernel)) rfl
theorem ki_MO_isDown : Cond.instanceMethod y_MO_isDown ∈ lw_g := gw (List.mem_of_getElem? (i := 989) (by decide +kernel)) rfl
theorem ks_MO_isDown : Cond.selects "BookTreesModel" y_MO_isDown y_MO_isDown ∈ lw_g := gw (List.mem_of_getElem? (i := 990) (by decide +kernel)) rfl
def y_MO_byteAt : MethodName := ⟨"BookTreesModel", "byteAt", "(II)I"⟩
abbrev b_MO_byteAt : ByteArray := prog_8_method_51_code
theorem kd_MO_byteAt : Cond.code y_MO_byteAt b_MO_byteAt 3 (some .int) ∈ lw_g := gw (List.mem_of_getElem? (i := 995) (by decide +kernel)) rfl
theorem ki_MO_byteAt : Cond.instanceMethod y_MO_byteAt ∈ lw_g := gw (List.mem_of_getElem? (i := 993) (by decide +kernel)) rfl
theorem ks_MO_byteAt : Cond.selects "BookTreesModel" y_MO_byteAt y_MO_byteAt ∈ lw_g := gw (List.mem_of_getElem? (i := 994) (by decide +kernel)) rfl
def y_MO_poke : MethodName := ⟨"BookTreesModel", "poke", "(III)I"⟩
abbrev b_MO_poke : ByteArray := prog_8_method_52_code
theorem kd_MO_poke : Cond.code y_MO_poke b_MO_poke 5 (some .int) ∈ lw_g := gw (List.mem_of_getElem? (i := 999) (by decide +kernel)) rfl
theorem ki_MO_poke : Cond.instanceMethod y_MO_poke ∈ lw_g := gw (List.mem_of_getElem? (i := 997) (by decide +kernel)) rfl
theorem ks_MO_poke : Cond.selects "BookTreesModel" y_MO_poke y_MO_poke ∈ lw_g := gw (List.mem_of_getElem? (i := 998) (by decide +kernel)) rfl
def y_MO_badAt : MethodName := ⟨"BookTreesModel", "badAt", "(I)I"⟩
abbrev b_MO_badAt : ByteArray := prog_8_method_53_code
theorem kd_MO_badAt : Cond.code y_MO_badAt b_MO_badAt 5 (some .int) ∈ lw_g := gw (List.mem_of_getElem? (i := 1003) (by decide +kernel)) rfl
theorem ki_MO_badAt : Cond.instanceMethod y_MO_badAt ∈ lw_g := gw (List.mem_of_getElem? (i := 1001) (by decide +kernel)) rfl
theorem ks_MO_badAt : Cond.selects "BookTreesModel" y_MO_badAt y_MO_badAt ∈ lw_g := gw (List.mem_of_getElem? (i := 1002) (by decide +kernel)) rfl
def y_MO_told : MethodName := ⟨"BookTreesModel", "told", "(I)I"⟩
abbrev b_MO_told : ByteArray := prog_8_method_54_code
theorem kd_MO_told : Cond.code y_MO_told b_MO_told 2 (some .int) ∈ lw_g := gw (List.mem_of_getElem? (i := 1007) (by decide +kernel)) rfl
theorem ki_MO_told : Cond.instanceMethod y_MO_told ∈ lw_g := gw (List.mem_of_getElem? (i := 1005) (by decide +kernel)) rfl
theorem ks_MO_told : Cond.selects "BookTreesModel" y_MO_told y_MO_told ∈ lw_g := gw (List.mem_of_getElem? (i := 1006) (by decide +kernel)) rfl
def y_DR_init : MethodName := ⟨"BookTrees$Draft", "<init>", "()V"⟩
abbrev b_DR_init : ByteArray := prog_2_method_1_code
theorem kd_DR_init : Cond.code y_DR_init b_DR_init 1 none ∈ lw_g := gw (List.mem_of_getElem? (i := 133) (by decide +kernel)) rfl
theorem ki_DR_init : Cond.instanceMethod y_DR_init ∈ lw_g := gw (List.mem_of_getElem? (i := 132) (by decide +kernel)) rfl
def y_DR_size : MethodName := ⟨"BookTrees$Draft", "size", "()I"⟩
abbrev b_DR_size : ByteArray := prog_2_method_2_code
theorem kd_DR_size : Cond.code y_DR_size b_DR_size 1 (some .int) ∈ lw_g := gw (List.mem_of_getElem? (i := 424) (by decide +kernel)) rfl
theorem ki_DR_size : Cond.instanceMethod y_DR_size ∈ lw_g := gw (List.mem_of_getElem? (i := 422) (by decide +kernel)) rfl
theorem ks_DR_size : Cond.selects "BookTrees$Draft" y_DR_size y_DR_size ∈ lw_g := gw (List.mem_of_getElem? (i := 423) (by decide +kernel)) rfl
def y_DR_has : MethodName := ⟨"BookTrees$Draft", "has", "(I)Z"⟩
abbrev b_DR_has : ByteArray := prog_2_method_3_code
theorem kd_DR_has : Cond.code y_DR_has b_DR_has 2 (some .boolean) ∈ lw_g := gw (List.mem_of_getElem? (i := 420) (by decide +kernel)) rfl
theorem ki_DR_has : Cond.instanceMethod y_DR_has ∈ lw_g := gw (List.mem_of_getElem? (i := 418) (by decide +kernel)) rfl
theorem ks_DR_has : Cond.selects "BookTrees$Draft" y_DR_has y_DR_has ∈ lw_g := gw (List.mem_of_getElem? (i := 419) (by decide +kernel)) rfl
def y_DR_isDropped : MethodName := ⟨"BookTrees$Draft", "isDropped", "(I)Z"⟩
abbrev b_DR_isDropped : ByteArray := prog_2_method_4_code
theorem kd_DR_isDropped : Cond.code y_DR_isDropped b_DR_isDropped 2 (some .boolean) ∈ lw_g := gw (List.mem_of_getElem? (i := 453) (by decide +kernel)) rfl
theorem ki_DR_isDropped : Cond.instanceMethod y_DR_isDropped ∈ lw_g := gw (List.mem_of_getElem? (i := 451) (by decide +kernel)) rfl
theorem ks_DR_isDropped : Cond.selects "BookTrees$Draft" y_DR_isDropped y_DR_isDropped ∈ lw_g := gw (List.mem_of_getElem? (i := 452) (by decide +kernel)) rfl
def y_DR_valueOf : MethodName := ⟨"BookTrees$Draft", "valueOf", "(I)I"⟩
abbrev b_DR_valueOf : ByteArray := prog_2_method_5_code
theorem kd_DR_valueOf : Cond.code y_DR_valueOf b_DR_valueOf 2 (some .int) ∈ lw_g := gw (List.mem_of_getElem? (i := 459) (by decide +kernel)) rfl
theorem ki_DR_valueOf : Cond.instanceMethod y_DR_valueOf ∈ lw_g := gw (List.mem_of_getElem? (i := 457) (by decide +kernel)) rfl
theorem ks_DR_valueOf : Cond.selects "BookTrees$Draft" y_DR_valueOf y_DR_valueOf ∈ lw_g := gw (List.mem_of_getElem? (i := 458) (by decide +kernel)) rfl
def y_DR_setValue : MethodName := ⟨"BookTrees$Draft", "setValue", "(II)V"⟩
abbrev b_DR_setValue : ByteArray := prog_2_method_6_code
theorem kd_DR_setValue : Cond.code y_DR_setValue b_DR_setValue 3 none ∈ lw_g := gw (List.mem_of_getElem? (i := 412) (by decide +kernel)) rfl
theorem ki_DR_setValue : Cond.instanceMethod y_DR_setValue ∈ lw_g := gw (List.mem_of_getElem? (i := 410) (by decide +kernel)) rfl
theorem ks_DR_setValue : Cond.selects "BookTrees$Draft" y_DR_setValue y_DR_setValue ∈ lw_g := gw (List.mem_of_getElem? (i := 411) (by decide +kernel)) rfl
def y_DR_setDropped : MethodName := ⟨"BookTrees$Draft", "setDropped", "(I)V"⟩
abbrev b_DR_setDropped : ByteArray := prog_2_method_7_code
theorem kd_DR_setDropped : Cond.code y_DR_setDropped b_DR_setDropped 2 none ∈ lw_g := gw (List.mem_of_getElem? (i := 435) (by decide +kernel)) rfl
theorem ki_DR_setDropped : Cond.instanceMethod y_DR_setDropped ∈ lw_g := gw (List.mem_of_getElem? (i := 433) (by decide +kernel)) rfl
theorem ks_DR_setDropped : Cond.selects "BookTrees$Draft" y_DR_setDropped y_DR_setDropped ∈ lw_g := gw (List.mem_of_getElem? (i := 434) (by decide +kernel)) rfl
def y_DR_clear : MethodName := ⟨"BookTrees$Draft", "clear", "()V"⟩
abbrev b_DR_clear : ByteArray := prog_2_method_8_code
theorem kd_DR_clear : Cond.code y_DR_clear b_DR_clear 2 none ∈ lw_g := gw (List.mem_of_getElem? (i := 214) (by decide +kernel)) rfl
theorem ki_DR_clear : Cond.instanceMethod y_DR_clear ∈ lw_g := gw (List.mem_of_getElem? (i := 212) (by decide +kernel)) rfl
theorem ks_DR_clear : Cond.selects "BookTrees$Draft" y_DR_clear y_DR_clear ∈ lw_g := gw (List.mem_of_getElem? (i := 213) (by decide +kernel)) rfl
def y_DR_note : MethodName := ⟨"BookTrees$Draft", "note", "(II)V"⟩
abbrev b_DR_note : ByteArray := prog_2_method_9_code
theorem kd_DR_note : Cond.code y_DR_note b_DR_note 3 none ∈ lw_g := gw (List.mem_of_getElem? (i := 416) (by decide +kernel)) rfl
theorem ki_DR_note : Cond.instanceMethod y_DR_note ∈ lw_g := gw (List.mem_of_getElem? (i := 415) (by decide +kernel)) rfl
theorem ks_DR_note : Cond.selects "BookTrees$Draft" y_DR_note y_DR_note ∈ lw_g := gw (List.mem_of_getElem? (i := 8) (by decide +kernel)) rfl
def y_PG_init : MethodName := ⟨"BookTrees$Pages", "<init>", "()V"⟩
abbrev b_PG_init : ByteArray := prog_3_method_1_code
theorem kd_PG_init : Cond.code y_PG_init b_PG_init 1 none ∈ lw_g := gw (List.mem_of_getElem? (i := 166) (by decide +kernel)) rfl
theorem ki_PG_init : Cond.instanceMethod y_PG_init ∈ lw_g := gw (List.mem_of_getElem? (i := 165) (by decide +kernel)) rfl
def y_PG_clear : MethodName := ⟨"BookTrees$Pages", "clear", "()V"⟩
abbrev b_PG_clear : ByteArray := prog_3_method_2_code
theorem kd_PG_clear : Cond.code y_PG_clear b_PG_clear 2 none ∈ lw_g := gw (List.mem_of_getElem? (i := 500) (by decide +kernel)) rfl
theorem ki_PG_clear : Cond.instanceMethod y_PG_clear ∈ lw_g := gw (List.mem_of_getElem? (i := 498) (by decide +kernel)) rfl
theorem ks_PG_clear : Cond.selects "BookTrees$Pages" y_PG_clear y_PG_clear ∈ lw_g := gw (List.mem_of_getElem? (i := 499) (by decide +kernel)) rfl
def y_PG_markAll : MethodName := ⟨"BookTrees$Pages", "markAll", "()V"⟩
abbrev b_PG_markAll : ByteArray := prog_3_method_3_code
theorem kd_PG_markAll : Cond.code y_PG_markAll b_PG_markAll 2 none ∈ lw_g := gw (List.mem_of_getElem? (i := 603) (by decide +kernel)) rfl
theorem ki_PG_markAll : Cond.instanceMethod y_PG_markAll ∈ lw_g := gw (List.mem_of_getElem? (i := 601) (by decide +kernel)) rfl
theorem ks_PG_markAll : Cond.selects "BookTrees$Pages" y_PG_markAll y_PG_markAll ∈ lw_g := gw (List.mem_of_getElem? (i := 602) (by decide +kernel)) rfl
def y_PG_markKeysOf : MethodName := ⟨"BookTrees$Pages", "markKeysOf", "(LBookTrees$Draft;)V"⟩
abbrev b_PG_markKeysOf : ByteArray := prog_3_method_4_code
theorem kd_PG_markKeysOf : Cond.code y_PG_markKeysOf b_PG_markKeysOf 4 none ∈ lw_g := gw (List.mem_of_getElem? (i := 504) (by decide +kernel)) rfl
theorem ki_PG_markKeysOf : Cond.instanceMethod y_PG_markKeysOf ∈ lw_g := gw (List.mem_of_getElem? (i := 502) (by decide +kernel)) rfl
theorem ks_PG_markKeysOf : Cond.selects "BookTrees$Pages" y_PG_markKeysOf y_PG_markKeysOf ∈ lw_g := gw (List.mem_of_getElem? (i := 503) (by decide +kernel)) rfl
def y_PG_readTree : MethodName := ⟨"BookTrees$Pages", "readTree", "(LBookTrees$Roll;I)Z"⟩
abbrev b_PG_readTree : ByteArray := prog_3_method_5_code
theorem kd_PG_readTree : Cond.code y_PG_readTree b_PG_readTree 4 (some .boolean) ∈ lw_g := gw (List.mem_of_getElem? (i := 512) (by decide +kernel)) rfl
theorem ki_PG_readTree : Cond.instanceMethod y_PG_readTree ∈ lw_g := gw (List.mem_of_getElem? (i := 510) (by decide +kernel)) rfl
theorem ks_PG_readTree : Cond.selects "BookTrees$Pages" y_PG_readTree y_PG_readTree ∈ lw_g := gw (List.mem_of_getElem? (i := 511) (by decide +kernel)) rfl
def y_PG_change : MethodName := ⟨"BookTrees$Pages", "change", "(LBookTrees$Draft;)V"⟩
abbrev b_PG_change : ByteArray := prog_3_method_6_code
theorem kd_PG_change : Cond.code y_PG_change b_PG_change 5 none ∈ lw_g := gw (List.mem_of_getElem? (i := 541) (by decide +kernel)) rfl
theorem ki_PG_change : Cond.instanceMethod y_PG_change ∈ lw_g := gw (List.mem_of_getElem? (i := 539) (by decide +kernel)) rfl
theorem ks_PG_change : Cond.selects "BookTrees$Pages" y_PG_change y_PG_change ∈ lw_g := gw (List.mem_of_getElem? (i := 540) (by decide +kernel)) rfl
def y_PG_place : MethodName := ⟨"BookTrees$Pages", "place", "(I)I"⟩
abbrev b_PG_place : ByteArray := prog_3_method_7_code
theorem kd_PG_place : Cond.code y_PG_place b_PG_place 5 (some .int) ∈ lw_g := gw (List.mem_of_getElem? (i := 555) (by decide +kernel)) rfl
theorem ki_PG_place : Cond.instanceMethod y_PG_place ∈ lw_g := gw (List.mem_of_getElem? (i := 553) (by decide +kernel)) rfl
theorem ks_PG_place : Cond.selects "BookTrees$Pages" y_PG_place y_PG_place ∈ lw_g := gw (List.mem_of_getElem? (i := 554) (by decide +kernel)) rfl
def y_PG_writeTree : MethodName := ⟨"BookTrees$Pages", "writeTree", "(LBookTrees$Roll;I)Z"⟩
abbrev b_PG_writeTree : ByteArray := prog_3_method_8_code
theorem kd_PG_writeTree : Cond.code y_PG_writeTree b_PG_writeTree 4 (some .boolean) ∈ lw_g := gw (List.mem_of_getElem? (i := 567) (by decide +kernel)) rfl
theorem ki_PG_writeTree : Cond.instanceMethod y_PG_writeTree ∈ lw_g := gw (List.mem_of_getElem? (i := 565) (by decide +kernel)) rfl
theorem ks_PG_writeTree : Cond.selects "BookTrees$Pages" y_PG_writeTree y_PG_writeTree ∈ lw_g := gw (List.mem_of_getElem? (i := 566) (by decide +kernel)) rfl
def y_PG_writeRoot : MethodName := ⟨"BookTrees$Pages", "writeRoot", "(LBookTrees$Roll;III)Z"⟩
abbrev b_PG_writeRoot : ByteArray := prog_3_method_9_code
theorem kd_PG_writeRoot : Cond.code y_PG_writeRoot b_PG_writeRoot 5 (some .boolean) ∈ lw_g := gw (List.mem_of_getElem? (i := 592) (by decide +kernel)) rfl
theorem ki_PG_writeRoot : Cond.instanceMethod y_PG_writeRoot ∈ lw_g := gw (List.mem_of_getElem? (i := 590) (by decide +kernel)) rfl
theorem ks_PG_writeRoot : Cond.selects "BookTrees$Pages" y_PG_writeRoot y_PG_writeRoot ∈ lw_g := gw (List.mem_of_getElem? (i := 591) (by decide +kernel)) rfl
def y_PG_readPage : MethodName := ⟨"BookTrees$Pages", "readPage", "(LBookTrees$Roll;II)Z"⟩
abbrev b_PG_readPage : ByteArray := prog_3_method_10_code
theorem kd_PG_readPage : Cond.code y_PG_readPage b_PG_readPage 5 (some .boolean) ∈ lw_g := gw (List.mem_of_getElem? (i := 519) (by decide +kernel)) rfl
theorem ki_PG_readPage : Cond.instanceMethod y_PG_readPage ∈ lw_g := gw (List.mem_of_getElem? (i := 518) (by decide +kernel)) rfl
theorem ks_PG_readPage : Cond.selects "BookTrees$Pages" y_PG_readPage y_PG_readPage ∈ lw_g := gw (List.mem_of_getElem? (i := 12) (by decide +kernel)) rfl
def y_PG_setEntry : MethodName := ⟨"BookTrees$Pages", "setEntry", "(IIZI)V"⟩
abbrev b_PG_setEntry : ByteArray := prog_3_method_11_code
theorem kd_PG_setEntry : Cond.code y_PG_setEntry b_PG_setEntry 6 none ∈ lw_g := gw (List.mem_of_getElem? (i := 526) (by decide +kernel)) rfl
theorem ki_PG_setEntry : Cond.instanceMethod y_PG_setEntry ∈ lw_g := gw (List.mem_of_getElem? (i := 525) (by decide +kernel)) rfl
theorem ks_PG_setEntry : Cond.selects "BookTrees$Pages" y_PG_setEntry y_PG_setEntry ∈ lw_g := gw (List.mem_of_getElem? (i := 13) (by decide +kernel)) rfl
def y_PG_bitOf : MethodName := ⟨"BookTrees$Pages", "bitOf", "(II)I"⟩
abbrev b_PG_bitOf : ByteArray := prog_3_method_12_code
theorem kd_PG_bitOf : Cond.code y_PG_bitOf b_PG_bitOf 3 (some .int) ∈ lw_g := gw (List.mem_of_getElem? (i := 534) (by decide +kernel)) rfl
theorem ki_PG_bitOf : Cond.instanceMethod y_PG_bitOf ∈ lw_g := gw (List.mem_of_getElem? (i := 533) (by decide +kernel)) rfl
theorem ks_PG_bitOf : Cond.selects "BookTrees$Pages" y_PG_bitOf y_PG_bitOf ∈ lw_g := gw (List.mem_of_getElem? (i := 15) (by decide +kernel)) rfl
def y_PG_isInParent : MethodName := ⟨"BookTrees$Pages", "isInParent", "(I)Z"⟩
abbrev b_PG_isInParent : ByteArray := prog_3_method_13_code
theorem kd_PG_isInParent : Cond.code y_PG_isInParent b_PG_isInParent 2 (some .boolean) ∈ lw_g := gw (List.mem_of_getElem? (i := 530) (by decide +kernel)) rfl
theorem ki_PG_isInParent : Cond.instanceMethod y_PG_isInParent ∈ lw_g := gw (List.mem_of_getElem? (i := 529) (by decide +kernel)) rfl
theorem ks_PG_isInParent : Cond.selects "BookTrees$Pages" y_PG_isInParent y_PG_isInParent ∈ lw_g := gw (List.mem_of_getElem? (i := 14) (by decide +kernel)) rfl
def y_PG_parentOf : MethodName := ⟨"BookTrees$Pages", "parentOf", "(I)I"⟩
abbrev b_PG_parentOf : ByteArray := prog_3_method_14_code
theorem kd_PG_parentOf : Cond.code y_PG_parentOf b_PG_parentOf 1 (some .int) ∈ lw_g := gw (List.mem_of_getElem? (i := 508) (by decide +kernel)) rfl
theorem kt_PG_parentOf : Cond.static y_PG_parentOf ∈ lw_g := gw (List.mem_of_getElem? (i := 507) (by decide +kernel)) rfl
def y_PG_placeInParent : MethodName := ⟨"BookTrees$Pages", "placeInParent", "(I)I"⟩
abbrev b_PG_placeInParent : ByteArray := prog_3_method_15_code
theorem kd_PG_placeInParent : Cond.code y_PG_placeInParent b_PG_placeInParent 1 (some .int) ∈ lw_g := gw (List.mem_of_getElem? (i := 537) (by decide +kernel)) rfl
theorem kt_PG_placeInParent : Cond.static y_PG_placeInParent ∈ lw_g := gw (List.mem_of_getElem? (i := 536) (by decide +kernel)) rfl
def y_PG_kindOf : MethodName := ⟨"BookTrees$Pages", "kindOf", "(I)I"⟩
abbrev b_PG_kindOf : ByteArray := prog_3_method_16_code
theorem kd_PG_kindOf : Cond.code y_PG_kindOf b_PG_kindOf 1 (some .int) ∈ lw_g := gw (List.mem_of_getElem? (i := 522) (by decide +kernel)) rfl
theorem kt_PG_kindOf : Cond.static y_PG_kindOf ∈ lw_g := gw (List.mem_of_getElem? (i := 521) (by decide +kernel)) rfl
def y_PW_init : MethodName := ⟨"BookTrees$Power", "<init>", "()V"⟩
abbrev b_PW_init : ByteArray := prog_4_method_1_code
theorem kd_PW_init : Cond.code y_PW_init b_PW_init 1 none ∈ lw_g := gw (List.mem_of_getElem? (i := 81) (by decide +kernel)) rfl
theorem ki_PW_init : Cond.instanceMethod y_PW_init ∈ lw_g := gw (List.mem_of_getElem? (i := 80) (by decide +kernel)) rfl
def y_PW_hasFailed : MethodName := ⟨"BookTrees$Power", "hasFailed", "()Z"⟩
abbrev b_PW_hasFailed : ByteArray := prog_4_method_2_code
theorem kd_PW_hasFailed : Cond.code y_PW_hasFailed b_PW_hasFailed 1 (some .boolean) ∈ lw_g := gw (List.mem_of_getElem? (i := 302) (by decide +kernel)) rfl
theorem ki_PW_hasFailed : Cond.instanceMethod y_PW_hasFailed ∈ lw_g := gw (List.mem_of_getElem? (i := 300) (by decide +kernel)) rfl
theorem ks_PW_hasFailed : Cond.selects "BookTrees$Power" y_PW_hasFailed y_PW_hasFailed ∈ lw_g := gw (List.mem_of_getElem? (i := 301) (by decide +kernel)) rfl
def y_PW_written : MethodName := ⟨"BookTrees$Power", "written", "()I"⟩
abbrev b_PW_written : ByteArray := prog_4_method_3_code
theorem kd_PW_written : Cond.code y_PW_written b_PW_written 1 (some .int) ∈ lw_g := gw (List.mem_of_getElem? (i := 706) (by decide +kernel)) rfl
theorem ki_PW_written : Cond.instanceMethod y_PW_written ∈ lw_g := gw (List.mem_of_getElem? (i := 704) (by decide +kernel)) rfl
theorem ks_PW_written : Cond.selects "BookTrees$Power" y_PW_written y_PW_written ∈ lw_g := gw (List.mem_of_getElem? (i := 705) (by decide +kernel)) rfl
def y_PW_failAfter : MethodName := ⟨"BookTrees$Power", "failAfter", "(I)V"⟩
abbrev b_PW_failAfter : ByteArray := prog_4_method_4_code
theorem kd_PW_failAfter : Cond.code y_PW_failAfter b_PW_failAfter 2 none ∈ lw_g := gw (List.mem_of_getElem? (i := 664) (by decide +kernel)) rfl
theorem ki_PW_failAfter : Cond.instanceMethod y_PW_failAfter ∈ lw_g := gw (List.mem_of_getElem? (i := 662) (by decide +kernel)) rfl
theorem ks_PW_failAfter : Cond.selects "BookTrees$Power" y_PW_failAfter y_PW_failAfter ∈ lw_g := gw (List.mem_of_getElem? (i := 663) (by decide +kernel)) rfl
def y_PW_restore : MethodName := ⟨"BookTrees$Power", "restore", "()V"⟩
abbrev b_PW_restore : ByteArray := prog_4_method_5_code
theorem kd_PW_restore : Cond.code y_PW_restore b_PW_restore 1 none ∈ lw_g := gw (List.mem_of_getElem? (i := 210) (by decide +kernel)) rfl
theorem ki_PW_restore : Cond.instanceMethod y_PW_restore ∈ lw_g := gw (List.mem_of_getElem? (i := 208) (by decide +kernel)) rfl
theorem ks_PW_restore : Cond.selects "BookTrees$Power" y_PW_restore y_PW_restore ∈ lw_g := gw (List.mem_of_getElem? (i := 209) (by decide +kernel)) rfl
def y_PW_spend : MethodName := ⟨"BookTrees$Power", "spend", "(I)I"⟩
abbrev b_PW_spend : ByteArray := prog_4_method_6_code
theorem kd_PW_spend : Cond.code y_PW_spend b_PW_spend 3 (some .int) ∈ lw_g := gw (List.mem_of_getElem? (i := 583) (by decide +kernel)) rfl
theorem ki_PW_spend : Cond.instanceMethod y_PW_spend ∈ lw_g := gw (List.mem_of_getElem? (i := 581) (by decide +kernel)) rfl
theorem ks_PW_spend : Cond.selects "BookTrees$Power" y_PW_spend y_PW_spend ∈ lw_g := gw (List.mem_of_getElem? (i := 582) (by decide +kernel)) rfl
def y_RL_init : MethodName := ⟨"BookTrees$Roll", "<init>", "(ILBookTrees$Power;)V"⟩
abbrev b_RL_init : ByteArray := prog_5_method_1_code
theorem kd_RL_init : Cond.code y_RL_init b_RL_init 3 none ∈ lw_g := gw (List.mem_of_getElem? (i := 97) (by decide +kernel)) rfl
theorem ki_RL_init : Cond.instanceMethod y_RL_init ∈ lw_g := gw (List.mem_of_getElem? (i := 96) (by decide +kernel)) rfl
def y_RL_slots : MethodName := ⟨"BookTrees$Roll", "slots", "()I"⟩
abbrev b_RL_slots : ByteArray := prog_5_method_2_code
theorem kd_RL_slots : Cond.code y_RL_slots b_RL_slots 1 (some .int) ∈ lw_g := gw (List.mem_of_getElem? (i := 279) (by decide +kernel)) rfl
theorem ki_RL_slots : Cond.instanceMethod y_RL_slots ∈ lw_g := gw (List.mem_of_getElem? (i := 277) (by decide +kernel)) rfl
theorem ks_RL_slots : Cond.selects "BookTrees$Roll" y_RL_slots y_RL_slots ∈ lw_g := gw (List.mem_of_getElem? (i := 278) (by decide +kernel)) rfl
def y_RL_start : MethodName := ⟨"BookTrees$Roll", "start", "()I"⟩
abbrev b_RL_start : ByteArray := prog_5_method_3_code
theorem kd_RL_start : Cond.code y_RL_start b_RL_start 1 (some .int) ∈ lw_g := gw (List.mem_of_getElem? (i := 563) (by decide +kernel)) rfl
theorem ki_RL_start : Cond.instanceMethod y_RL_start ∈ lw_g := gw (List.mem_of_getElem? (i := 561) (by decide +kernel)) rfl
theorem ks_RL_start : Cond.selects "BookTrees$Roll" y_RL_start y_RL_start ∈ lw_g := gw (List.mem_of_getElem? (i := 562) (by decide +kernel)) rfl
def y_RL_end : MethodName := ⟨"BookTrees$Roll", "end", "()I"⟩
abbrev b_RL_end : ByteArray := prog_5_method_4_code
theorem kd_RL_end : Cond.code y_RL_end b_RL_end 1 (some .int) ∈ lw_g := gw (List.mem_of_getElem? (i := 551) (by decide +kernel)) rfl
theorem ki_RL_end : Cond.instanceMethod y_RL_end ∈ lw_g := gw (List.mem_of_getElem? (i := 549) (by decide +kernel)) rfl
theorem ks_RL_end : Cond.selects "BookTrees$Roll" y_RL_end y_RL_end ∈ lw_g := gw (List.mem_of_getElem? (i := 550) (by decide +kernel)) rfl
def y_RL_use : MethodName := ⟨"BookTrees$Roll", "use", "(II)V"⟩
abbrev b_RL_use : ByteArray := prog_5_method_5_code
theorem kd_RL_use : Cond.code y_RL_use b_RL_use 3 none ∈ lw_g := gw (List.mem_of_getElem? (i := 269) (by decide +kernel)) rfl
theorem ki_RL_use : Cond.instanceMethod y_RL_use ∈ lw_g := gw (List.mem_of_getElem? (i := 267) (by decide +kernel)) rfl
theorem ks_RL_use : Cond.selects "BookTrees$Roll" y_RL_use y_RL_use ∈ lw_g := gw (List.mem_of_getElem? (i := 268) (by decide +kernel)) rfl
def y_RL_isUsed : MethodName := ⟨"BookTrees$Roll", "isUsed", "(I)Z"⟩
abbrev b_RL_isUsed : ByteArray := prog_5_method_6_code
theorem kd_RL_isUsed : Cond.code y_RL_isUsed b_RL_isUsed 2 (some .boolean) ∈ lw_g := gw (List.mem_of_getElem? (i := 284) (by decide +kernel)) rfl
theorem ki_RL_isUsed : Cond.instanceMethod y_RL_isUsed ∈ lw_g := gw (List.mem_of_getElem? (i := 282) (by decide +kernel)) rfl
theorem ks_RL_isUsed : Cond.selects "BookTrees$Roll" y_RL_isUsed y_RL_isUsed ∈ lw_g := gw (List.mem_of_getElem? (i := 283) (by decide +kernel)) rfl
def y_RL_hasRoom : MethodName := ⟨"BookTrees$Roll", "hasRoom", "(I)Z"⟩
abbrev b_RL_hasRoom : ByteArray := prog_5_method_7_code
theorem kd_RL_hasRoom : Cond.code y_RL_hasRoom b_RL_hasRoom 2 (some .boolean) ∈ lw_g := gw (List.mem_of_getElem? (i := 559) (by decide +kernel)) rfl
theorem ki_RL_hasRoom : Cond.instanceMethod y_RL_hasRoom ∈ lw_g := gw (List.mem_of_getElem? (i := 557) (by decide +kernel)) rfl
theorem ks_RL_hasRoom : Cond.selects "BookTrees$Roll" y_RL_hasRoom y_RL_hasRoom ∈ lw_g := gw (List.mem_of_getElem? (i := 558) (by decide +kernel)) rfl
def y_RL_byteOf : MethodName := ⟨"BookTrees$Roll", "byteOf", "(II)I"⟩
abbrev b_RL_byteOf : ByteArray := prog_5_method_8_code
theorem kd_RL_byteOf : Cond.code y_RL_byteOf b_RL_byteOf 3 (some .int) ∈ lw_g := gw (List.mem_of_getElem? (i := 252) (by decide +kernel)) rfl
theorem ki_RL_byteOf : Cond.instanceMethod y_RL_byteOf ∈ lw_g := gw (List.mem_of_getElem? (i := 250) (by decide +kernel)) rfl
theorem ks_RL_byteOf : Cond.selects "BookTrees$Roll" y_RL_byteOf y_RL_byteOf ∈ lw_g := gw (List.mem_of_getElem? (i := 251) (by decide +kernel)) rfl
def y_RL_alter : MethodName := ⟨"BookTrees$Roll", "alter", "(III)V"⟩
abbrev b_RL_alter : ByteArray := prog_5_method_9_code
theorem kd_RL_alter : Cond.code y_RL_alter b_RL_alter 5 none ∈ lw_g := gw (List.mem_of_getElem? (i := 687) (by decide +kernel)) rfl
theorem ki_RL_alter : Cond.instanceMethod y_RL_alter ∈ lw_g := gw (List.mem_of_getElem? (i := 685) (by decide +kernel)) rfl
theorem ks_RL_alter : Cond.selects "BookTrees$Roll" y_RL_alter y_RL_alter ∈ lw_g := gw (List.mem_of_getElem? (i := 686) (by decide +kernel)) rfl
def y_RL_hasBit : MethodName := ⟨"BookTrees$Roll", "hasBit", "(II)Z"⟩
abbrev b_RL_hasBit : ByteArray := prog_5_method_10_code
theorem kd_RL_hasBit : Cond.code y_RL_hasBit b_RL_hasBit 3 (some .boolean) ∈ lw_g := gw (List.mem_of_getElem? (i := 488) (by decide +kernel)) rfl
theorem ki_RL_hasBit : Cond.instanceMethod y_RL_hasBit ∈ lw_g := gw (List.mem_of_getElem? (i := 486) (by decide +kernel)) rfl
theorem ks_RL_hasBit : Cond.selects "BookTrees$Roll" y_RL_hasBit y_RL_hasBit ∈ lw_g := gw (List.mem_of_getElem? (i := 487) (by decide +kernel)) rfl
def y_RL_lowestBit : MethodName := ⟨"BookTrees$Roll", "lowestBit", "(II)I"⟩
abbrev b_RL_lowestBit : ByteArray := prog_5_method_11_code
theorem kd_RL_lowestBit : Cond.code y_RL_lowestBit b_RL_lowestBit 4 (some .int) ∈ lw_g := gw (List.mem_of_getElem? (i := 629) (by decide +kernel)) rfl
theorem ki_RL_lowestBit : Cond.instanceMethod y_RL_lowestBit ∈ lw_g := gw (List.mem_of_getElem? (i := 627) (by decide +kernel)) rfl
theorem ks_RL_lowestBit : Cond.selects "BookTrees$Roll" y_RL_lowestBit y_RL_lowestBit ∈ lw_g := gw (List.mem_of_getElem? (i := 628) (by decide +kernel)) rfl
def y_RL_versionOf : MethodName := ⟨"BookTrees$Roll", "versionOf", "(I)I"⟩
abbrev b_RL_versionOf : ByteArray := prog_5_method_12_code
theorem kd_RL_versionOf : Cond.code y_RL_versionOf b_RL_versionOf 2 (some .int) ∈ lw_g := gw (List.mem_of_getElem? (i := 244) (by decide +kernel)) rfl
theorem ki_RL_versionOf : Cond.instanceMethod y_RL_versionOf ∈ lw_g := gw (List.mem_of_getElem? (i := 242) (by decide +kernel)) rfl
theorem ks_RL_versionOf : Cond.selects "BookTrees$Roll" y_RL_versionOf y_RL_versionOf ∈ lw_g := gw (List.mem_of_getElem? (i := 243) (by decide +kernel)) rfl
def y_RL_entryOf : MethodName := ⟨"BookTrees$Roll", "entryOf", "(II)I"⟩
abbrev b_RL_entryOf : ByteArray := prog_5_method_13_code
theorem kd_RL_entryOf : Cond.code y_RL_entryOf b_RL_entryOf 3 (some .int) ∈ lw_g := gw (List.mem_of_getElem? (i := 248) (by decide +kernel)) rfl
theorem ki_RL_entryOf : Cond.instanceMethod y_RL_entryOf ∈ lw_g := gw (List.mem_of_getElem? (i := 246) (by decide +kernel)) rfl
theorem ks_RL_entryOf : Cond.selects "BookTrees$Roll" y_RL_entryOf y_RL_entryOf ∈ lw_g := gw (List.mem_of_getElem? (i := 247) (by decide +kernel)) rfl
def y_RL_numberOf : MethodName := ⟨"BookTrees$Roll", "numberOf", "(I)I"⟩
abbrev b_RL_numberOf : ByteArray := prog_5_method_14_code
theorem kd_RL_numberOf : Cond.code y_RL_numberOf b_RL_numberOf 2 (some .int) ∈ lw_g := gw (List.mem_of_getElem? (i := 237) (by decide +kernel)) rfl
theorem ki_RL_numberOf : Cond.instanceMethod y_RL_numberOf ∈ lw_g := gw (List.mem_of_getElem? (i := 235) (by decide +kernel)) rfl
theorem ks_RL_numberOf : Cond.selects "BookTrees$Roll" y_RL_numberOf y_RL_numberOf ∈ lw_g := gw (List.mem_of_getElem? (i := 236) (by decide +kernel)) rfl
def y_RL_isBad : MethodName := ⟨"BookTrees$Roll", "isBad", "(II)Z"⟩
abbrev b_RL_isBad : ByteArray := prog_5_method_15_code
theorem kd_RL_isBad : Cond.code y_RL_isBad b_RL_isBad 3 (some .boolean) ∈ lw_g := gw (List.mem_of_getElem? (i := 475) (by decide +kernel)) rfl
theorem ki_RL_isBad : Cond.instanceMethod y_RL_isBad ∈ lw_g := gw (List.mem_of_getElem? (i := 473) (by decide +kernel)) rfl
theorem ks_RL_isBad : Cond.selects "BookTrees$Roll" y_RL_isBad y_RL_isBad ∈ lw_g := gw (List.mem_of_getElem? (i := 474) (by decide +kernel)) rfl
def y_RL_isSound : MethodName := ⟨"BookTrees$Roll", "isSound", "(I)Z"⟩
abbrev b_RL_isSound : ByteArray := prog_5_method_16_code
theorem kd_RL_isSound : Cond.code y_RL_isSound b_RL_isSound 3 (some .boolean) ∈ lw_g := gw (List.mem_of_getElem? (i := 480) (by decide +kernel)) rfl
theorem ki_RL_isSound : Cond.instanceMethod y_RL_isSound ∈ lw_g := gw (List.mem_of_getElem? (i := 478) (by decide +kernel)) rfl
theorem ks_RL_isSound : Cond.selects "BookTrees$Roll" y_RL_isSound y_RL_isSound ∈ lw_g := gw (List.mem_of_getElem? (i := 479) (by decide +kernel)) rfl
def y_RL_isWholeRoot : MethodName := ⟨"BookTrees$Roll", "isWholeRoot", "(I)Z"⟩
abbrev b_RL_isWholeRoot : ByteArray := prog_5_method_17_code
theorem kd_RL_isWholeRoot : Cond.code y_RL_isWholeRoot b_RL_isWholeRoot 6 (some .boolean) ∈ lw_g := gw (List.mem_of_getElem? (i := 226) (by decide +kernel)) rfl
theorem ki_RL_isWholeRoot : Cond.instanceMethod y_RL_isWholeRoot ∈ lw_g := gw (List.mem_of_getElem? (i := 224) (by decide +kernel)) rfl
theorem ks_RL_isWholeRoot : Cond.selects "BookTrees$Roll" y_RL_isWholeRoot y_RL_isWholeRoot ∈ lw_g := gw (List.mem_of_getElem? (i := 225) (by decide +kernel)) rfl
def y_RL_newestRootSlot : MethodName := ⟨"BookTrees$Roll", "newestRootSlot", "()I"⟩
abbrev b_RL_newestRootSlot : ByteArray := prog_5_method_18_code
theorem kd_RL_newestRootSlot : Cond.code y_RL_newestRootSlot b_RL_newestRootSlot 3 (some .int) ∈ lw_g := gw (List.mem_of_getElem? (i := 222) (by decide +kernel)) rfl
theorem ki_RL_newestRootSlot : Cond.instanceMethod y_RL_newestRootSlot ∈ lw_g := gw (List.mem_of_getElem? (i := 220) (by decide +kernel)) rfl
theorem ks_RL_newestRootSlot : Cond.selects "BookTrees$Roll" y_RL_newestRootSlot y_RL_newestRootSlot ∈ lw_g := gw (List.mem_of_getElem? (i := 221) (by decide +kernel)) rfl
def y_RL_write : MethodName := ⟨"BookTrees$Roll", "write", "(IIII[II)Z"⟩
abbrev b_RL_write : ByteArray := prog_5_method_19_code
theorem kd_RL_write : Cond.code y_RL_write b_RL_write 9 (some .boolean) ∈ lw_g := gw (List.mem_of_getElem? (i := 571) (by decide +kernel)) rfl
theorem ki_RL_write : Cond.instanceMethod y_RL_write ∈ lw_g := gw (List.mem_of_getElem? (i := 569) (by decide +kernel)) rfl
theorem ks_RL_write : Cond.selects "BookTrees$Roll" y_RL_write y_RL_write ∈ lw_g := gw (List.mem_of_getElem? (i := 570) (by decide +kernel)) rfl
def y_RL_makeUp : MethodName := ⟨"BookTrees$Roll", "makeUp", "(IIII[II)V"⟩
abbrev b_RL_makeUp : ByteArray := prog_5_method_20_code
theorem kd_RL_makeUp : Cond.code y_RL_makeUp b_RL_makeUp 9 none ∈ lw_g := gw (List.mem_of_getElem? (i := 575) (by decide +kernel)) rfl
theorem ki_RL_makeUp : Cond.instanceMethod y_RL_makeUp ∈ lw_g := gw (List.mem_of_getElem? (i := 574) (by decide +kernel)) rfl
theorem ks_RL_makeUp : Cond.selects "BookTrees$Roll" y_RL_makeUp y_RL_makeUp ∈ lw_g := gw (List.mem_of_getElem? (i := 17) (by decide +kernel)) rfl
def y_RL_isNewer : MethodName := ⟨"BookTrees$Roll", "isNewer", "(II)Z"⟩
abbrev b_RL_isNewer : ByteArray := prog_5_method_21_code
theorem kd_RL_isNewer : Cond.code y_RL_isNewer b_RL_isNewer 5 (some .boolean) ∈ lw_g := gw (List.mem_of_getElem? (i := 265) (by decide +kernel)) rfl
theorem ki_RL_isNewer : Cond.instanceMethod y_RL_isNewer ∈ lw_g := gw (List.mem_of_getElem? (i := 264) (by decide +kernel)) rfl
theorem ks_RL_isNewer : Cond.selects "BookTrees$Roll" y_RL_isNewer y_RL_isNewer ∈ lw_g := gw (List.mem_of_getElem? (i := 2) (by decide +kernel)) rfl
def y_RL_isSumRight : MethodName := ⟨"BookTrees$Roll", "isSumRight", "(I)Z"⟩
abbrev b_RL_isSumRight : ByteArray := prog_5_method_22_code
theorem kd_RL_isSumRight : Cond.code y_RL_isSumRight b_RL_isSumRight 4 (some .boolean) ∈ lw_g := gw (List.mem_of_getElem? (i := 257) (by decide +kernel)) rfl
theorem ki_RL_isSumRight : Cond.instanceMethod y_RL_isSumRight ∈ lw_g := gw (List.mem_of_getElem? (i := 256) (by decide +kernel)) rfl
theorem ks_RL_isSumRight : Cond.selects "BookTrees$Roll" y_RL_isSumRight y_RL_isSumRight ∈ lw_g := gw (List.mem_of_getElem? (i := 1) (by decide +kernel)) rfl
def y_RL_offsetOf : MethodName := ⟨"BookTrees$Roll", "offsetOf", "(I)I"⟩
abbrev b_RL_offsetOf : ByteArray := prog_5_method_23_code
theorem kd_RL_offsetOf : Cond.code y_RL_offsetOf b_RL_offsetOf 2 (some .int) ∈ lw_g := gw (List.mem_of_getElem? (i := 230) (by decide +kernel)) rfl
theorem ki_RL_offsetOf : Cond.instanceMethod y_RL_offsetOf ∈ lw_g := gw (List.mem_of_getElem? (i := 229) (by decide +kernel)) rfl
theorem ks_RL_offsetOf : Cond.selects "BookTrees$Roll" y_RL_offsetOf y_RL_offsetOf ∈ lw_g := gw (List.mem_of_getElem? (i := 0) (by decide +kernel)) rfl
def y_RL_setInt : MethodName := ⟨"BookTrees$Roll", "setInt", "(II)V"⟩
abbrev b_RL_setInt : ByteArray := prog_5_method_24_code
theorem kd_RL_setInt : Cond.code y_RL_setInt b_RL_setInt 3 none ∈ lw_g := gw (List.mem_of_getElem? (i := 579) (by decide +kernel)) rfl
theorem ki_RL_setInt : Cond.instanceMethod y_RL_setInt ∈ lw_g := gw (List.mem_of_getElem? (i := 578) (by decide +kernel)) rfl
theorem ks_RL_setInt : Cond.selects "BookTrees$Roll" y_RL_setInt y_RL_setInt ∈ lw_g := gw (List.mem_of_getElem? (i := 18) (by decide +kernel)) rfl
def y_RL_intAt : MethodName := ⟨"BookTrees$Roll", "intAt", "([BI)I"⟩
abbrev b_RL_intAt : ByteArray := prog_5_method_25_code
theorem kd_RL_intAt : Cond.code y_RL_intAt b_RL_intAt 2 (some .int) ∈ lw_g := gw (List.mem_of_getElem? (i := 240) (by decide +kernel)) rfl
theorem kt_RL_intAt : Cond.static y_RL_intAt ∈ lw_g := gw (List.mem_of_getElem? (i := 239) (by decide +kernel)) rfl
def y_RL_sumOf : MethodName := ⟨"BookTrees$Roll", "sumOf", "([BI)J"⟩
abbrev b_RL_sumOf : ByteArray := prog_5_method_26_code
theorem kd_RL_sumOf : Cond.code y_RL_sumOf b_RL_sumOf 7 (some .long) ∈ lw_g := gw (List.mem_of_getElem? (i := 260) (by decide +kernel)) rfl
theorem kt_RL_sumOf : Cond.static y_RL_sumOf ∈ lw_g := gw (List.mem_of_getElem? (i := 259) (by decide +kernel)) rfl
def y_SH_init : MethodName := ⟨"BookTrees$Shelf", "<init>", "()V"⟩
abbrev b_SH_init : ByteArray := prog_6_method_1_code
theorem kd_SH_init : Cond.code y_SH_init b_SH_init 1 none ∈ lw_g := gw (List.mem_of_getElem? (i := 150) (by decide +kernel)) rfl
theorem ki_SH_init : Cond.instanceMethod y_SH_init ∈ lw_g := gw (List.mem_of_getElem? (i := 149) (by decide +kernel)) rfl
def y_SH_size : MethodName := ⟨"BookTrees$Shelf", "size", "()I"⟩
abbrev b_SH_size : ByteArray := prog_6_method_2_code
theorem kd_SH_size : Cond.code y_SH_size b_SH_size 1 (some .int) ∈ lw_g := gw (List.mem_of_getElem? (i := 648) (by decide +kernel)) rfl
theorem ki_SH_size : Cond.instanceMethod y_SH_size ∈ lw_g := gw (List.mem_of_getElem? (i := 646) (by decide +kernel)) rfl
theorem ks_SH_size : Cond.selects "BookTrees$Shelf" y_SH_size y_SH_size ∈ lw_g := gw (List.mem_of_getElem? (i := 647) (by decide +kernel)) rfl
def y_SH_newest : MethodName := ⟨"BookTrees$Shelf", "newest", "()I"⟩
abbrev b_SH_newest : ByteArray := prog_6_method_3_code
theorem kd_SH_newest : Cond.code y_SH_newest b_SH_newest 1 (some .int) ∈ lw_g := gw (List.mem_of_getElem? (i := 273) (by decide +kernel)) rfl
theorem ki_SH_newest : Cond.instanceMethod y_SH_newest ∈ lw_g := gw (List.mem_of_getElem? (i := 271) (by decide +kernel)) rfl
theorem ks_SH_newest : Cond.selects "BookTrees$Shelf" y_SH_newest y_SH_newest ∈ lw_g := gw (List.mem_of_getElem? (i := 272) (by decide +kernel)) rfl
def y_SH_newestRoot : MethodName := ⟨"BookTrees$Shelf", "newestRoot", "()I"⟩
abbrev b_SH_newestRoot : ByteArray := prog_6_method_4_code
theorem kd_SH_newestRoot : Cond.code y_SH_newestRoot b_SH_newestRoot 1 (some .int) ∈ lw_g := gw (List.mem_of_getElem? (i := 463) (by decide +kernel)) rfl
theorem ki_SH_newestRoot : Cond.instanceMethod y_SH_newestRoot ∈ lw_g := gw (List.mem_of_getElem? (i := 461) (by decide +kernel)) rfl
theorem ks_SH_newestRoot : Cond.selects "BookTrees$Shelf" y_SH_newestRoot y_SH_newestRoot ∈ lw_g := gw (List.mem_of_getElem? (i := 462) (by decide +kernel)) rfl
def y_SH_versionFromNewest : MethodName := ⟨"BookTrees$Shelf", "versionFromNewest", "(I)I"⟩
abbrev b_SH_versionFromNewest : ByteArray := prog_6_method_5_code
theorem kd_SH_versionFromNewest : Cond.code y_SH_versionFromNewest b_SH_versionFromNewest 2 (some .int) ∈ lw_g := gw (List.mem_of_getElem? (i := 652) (by decide +kernel)) rfl
theorem ki_SH_versionFromNewest : Cond.instanceMethod y_SH_versionFromNewest ∈ lw_g := gw (List.mem_of_getElem? (i := 650) (by decide +kernel)) rfl
theorem ks_SH_versionFromNewest : Cond.selects "BookTrees$Shelf" y_SH_versionFromNewest y_SH_versionFromNewest ∈ lw_g := gw (List.mem_of_getElem? (i := 651) (by decide +kernel)) rfl
def y_SH_rootOf : MethodName := ⟨"BookTrees$Shelf", "rootOf", "(I)I"⟩
abbrev b_SH_rootOf : ByteArray := prog_6_method_6_code
theorem kd_SH_rootOf : Cond.code y_SH_rootOf b_SH_rootOf 3 (some .int) ∈ lw_g := gw (List.mem_of_getElem? (i := 618) (by decide +kernel)) rfl
theorem ki_SH_rootOf : Cond.instanceMethod y_SH_rootOf ∈ lw_g := gw (List.mem_of_getElem? (i := 616) (by decide +kernel)) rfl
theorem ks_SH_rootOf : Cond.selects "BookTrees$Shelf" y_SH_rootOf y_SH_rootOf ∈ lw_g := gw (List.mem_of_getElem? (i := 617) (by decide +kernel)) rfl
def y_SH_clear : MethodName := ⟨"BookTrees$Shelf", "clear", "()V"⟩
abbrev b_SH_clear : ByteArray := prog_6_method_7_code
theorem kd_SH_clear : Cond.code y_SH_clear b_SH_clear 1 none ∈ lw_g := gw (List.mem_of_getElem? (i := 218) (by decide +kernel)) rfl
theorem ki_SH_clear : Cond.instanceMethod y_SH_clear ∈ lw_g := gw (List.mem_of_getElem? (i := 216) (by decide +kernel)) rfl
theorem ks_SH_clear : Cond.selects "BookTrees$Shelf" y_SH_clear y_SH_clear ∈ lw_g := gw (List.mem_of_getElem? (i := 217) (by decide +kernel)) rfl
def y_SH_add : MethodName := ⟨"BookTrees$Shelf", "add", "(II)V"⟩
abbrev b_SH_add : ByteArray := prog_6_method_8_code
theorem kd_SH_add : Cond.code y_SH_add b_SH_add 4 none ∈ lw_g := gw (List.mem_of_getElem? (i := 289) (by decide +kernel)) rfl
theorem ki_SH_add : Cond.instanceMethod y_SH_add ∈ lw_g := gw (List.mem_of_getElem? (i := 287) (by decide +kernel)) rfl
theorem ks_SH_add : Cond.selects "BookTrees$Shelf" y_SH_add y_SH_add ∈ lw_g := gw (List.mem_of_getElem? (i := 288) (by decide +kernel)) rfl
def y_SH_insert : MethodName := ⟨"BookTrees$Shelf", "insert", "(III)V"⟩
abbrev b_SH_insert : ByteArray := prog_6_method_9_code
theorem kd_SH_insert : Cond.code y_SH_insert b_SH_insert 5 none ∈ lw_g := gw (List.mem_of_getElem? (i := 294) (by decide +kernel)) rfl
theorem ki_SH_insert : Cond.instanceMethod y_SH_insert ∈ lw_g := gw (List.mem_of_getElem? (i := 293) (by decide +kernel)) rfl
theorem ks_SH_insert : Cond.selects "BookTrees$Shelf" y_SH_insert y_SH_insert ∈ lw_g := gw (List.mem_of_getElem? (i := 3) (by decide +kernel)) rfl
def y_LA_cell : MethodName := ⟨"BookTreesLaw", "cell", "([II)I"⟩
abbrev b_LA_cell : ByteArray := method_2_code
theorem kd_LA_cell : Cond.code y_LA_cell b_LA_cell 2 (some .int) ∈ lw_g := gw (List.mem_of_getElem? (i := 305) (by decide +kernel)) rfl
theorem kt_LA_cell : Cond.static y_LA_cell ∈ lw_g := gw (List.mem_of_getElem? (i := 304) (by decide +kernel)) rfl
def y_LA_put : MethodName := ⟨"BookTreesLaw", "put", "(LBookTrees;II[J)I"⟩
abbrev b_LA_put : ByteArray := method_3_code
theorem kt_LA_put : Cond.static y_LA_put ∈ lw_g := gw (List.mem_of_getElem? (i := 307) (by decide +kernel)) rfl
def y_LA_drop : MethodName := ⟨"BookTreesLaw", "drop", "(LBookTrees;I[J)I"⟩
abbrev b_LA_drop : ByteArray := method_4_code
theorem kt_LA_drop : Cond.static y_LA_drop ∈ lw_g := gw (List.mem_of_getElem? (i := 426) (by decide +kernel)) rfl
def y_LA_undo : MethodName := ⟨"BookTreesLaw", "undo", "(LBookTrees;[J)I"⟩
abbrev b_LA_undo : ByteArray := method_5_code
theorem kt_LA_undo : Cond.static y_LA_undo ∈ lw_g := gw (List.mem_of_getElem? (i := 437) (by decide +kernel)) rfl
def y_LA_get : MethodName := ⟨"BookTreesLaw", "get", "(LBookTrees;I[J)I"⟩
abbrev b_LA_get : ByteArray := method_6_code
theorem kt_LA_get : Cond.static y_LA_get ∈ lw_g := gw (List.mem_of_getElem? (i := 444) (by decide +kernel)) rfl
def y_LA_commit : MethodName := ⟨"BookTreesLaw", "commit", "(LBookTrees;[J)I"⟩
abbrev b_LA_commit : ByteArray := method_7_code
theorem kt_LA_commit : Cond.static y_LA_commit ∈ lw_g := gw (List.mem_of_getElem? (i := 491) (by decide +kernel)) rfl
def y_LA_copy : MethodName := ⟨"BookTreesLaw", "copy", "(LBookTrees;[J)I"⟩
abbrev b_LA_copy : ByteArray := method_8_code
theorem kt_LA_copy : Cond.static y_LA_copy ∈ lw_g := gw (List.mem_of_getElem? (i := 594) (by decide +kernel)) rfl
def y_LA_find : MethodName := ⟨"BookTreesLaw", "find", "(LBookTrees;II[J)I"⟩
abbrev b_LA_find : ByteArray := method_9_code
theorem kt_LA_find : Cond.static y_LA_find ∈ lw_g := gw (List.mem_of_getElem? (i := 605) (by decide +kernel)) rfl
def y_LA_next : MethodName := ⟨"BookTreesLaw", "next", "(LBookTrees;II[J)I"⟩
abbrev b_LA_next : ByteArray := method_10_code
theorem kt_LA_next : Cond.static y_LA_next ∈ lw_g := gw (List.mem_of_getElem? (i := 620) (by decide +kernel)) rfl
def y_LA_rows : MethodName := ⟨"BookTreesLaw", "rows", "(LBookTrees;I[J)I"⟩
abbrev b_LA_rows : ByteArray := method_11_code
theorem kt_LA_rows : Cond.static y_LA_rows ∈ lw_g := gw (List.mem_of_getElem? (i := 632) (by decide +kernel)) rfl
def y_LA_kept : MethodName := ⟨"BookTreesLaw", "kept", "(LBookTrees;I[J)I"⟩
abbrev b_LA_kept : ByteArray := method_12_code
theorem kt_LA_kept : Cond.static y_LA_kept ∈ lw_g := gw (List.mem_of_getElem? (i := 639) (by decide +kernel)) rfl
def y_LA_crash : MethodName := ⟨"BookTreesLaw", "crash", "(LBookTrees;I)I"⟩
abbrev b_LA_crash : ByteArray := method_13_code
theorem kt_LA_crash : Cond.static y_LA_crash ∈ lw_g := gw (List.mem_of_getElem? (i := 654) (by decide +kernel)) rfl
def y_LA_byteAt : MethodName := ⟨"BookTreesLaw", "byteAt", "(LBookTrees;II[J)I"⟩
abbrev b_LA_byteAt : ByteArray := method_14_code
theorem kt_LA_byteAt : Cond.static y_LA_byteAt ∈ lw_g := gw (List.mem_of_getElem? (i := 666) (by decide +kernel)) rfl
def y_LA_poke : MethodName := ⟨"BookTreesLaw", "poke", "(LBookTrees;III[J)I"⟩
abbrev b_LA_poke : ByteArray := method_15_code
theorem kt_LA_poke : Cond.static y_LA_poke ∈ lw_g := gw (List.mem_of_getElem? (i := 678) (by decide +kernel)) rfl
def y_LA_badAt : MethodName := ⟨"BookTreesLaw", "badAt", "(LBookTrees;I[J)I"⟩
abbrev b_LA_badAt : ByteArray := method_16_code
theorem kt_LA_badAt : Cond.static y_LA_badAt ∈ lw_g := gw (List.mem_of_getElem? (i := 689) (by decide +kernel)) rfl
def y_LA_told : MethodName := ⟨"BookTreesLaw", "told", "(LBookTrees;I[J)I"⟩
abbrev b_LA_told : ByteArray := method_17_code
theorem kt_LA_told : Cond.static y_LA_told ∈ lw_g := gw (List.mem_of_getElem? (i := 697) (by decide +kernel)) rfl
def y_LA_law : MethodName := ⟨"BookTreesLaw", "law", "([I)Z"⟩
abbrev b_LA_law : ByteArray := code
