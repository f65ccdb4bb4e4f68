def R_PR : String := "PortraitRank"
def R_PM : String := "PortraitRankModel"
def R_Hall : String := "PortraitRank$Hall"
def R_Hand : String := "PortraitRank$Hand"
def R_Scene : String := "PortraitRank$Scene"
def R_Seen : String := "PortraitRank$Seen"
def R_Shelf : String := "PortraitRank$Shelf"
def R_Text : String := "PortraitRank$Text"
def R_Law : String := "PortraitRankLaw"
def R_Int : String := "java/lang/Integer"
def R_Math : String := "java/lang/Math"
def R_Sys : String := "java/lang/System"
def R_Arr : String := "java/util/Arrays"
def R_Obj : String := "java/lang/Object"
def F_Hall : u_T := fun k => match k with
  | 0 => ("PortraitRank$Hall", "layers", "[I", true)
  | 1 => ("PortraitRank$Hall", "kinds", "[I", true)
  | 2 => ("PortraitRank$Hall", "patiences", "[I", true)
  | 3 => ("PortraitRank$Hall", "wanted", "[I", true)
  | _ => ("PortraitRank$Hall", "count", "I", false)
def t_Hall : Nat → FieldType := fun k => match k with
  | 0 => .array .int
  | 1 => .array .int
  | 2 => .array .int
  | 3 => .array .int
  | _ => .int
theorem n_Hall : ∀ a, a < 5 → ∀ b, b < 5 → a ≠ b → (F_Hall a).2.1 ≠ (F_Hall b).2.1 := by decide +kernel
theorem t_Hall_ok : ∀ k, k < 5 → parseFieldDescriptor (F_Hall k).2.2.1 = some (t_Hall k) := by decide +kernel
theorem i_Hall : ∀ w ∈ u_ws R_Hall F_Hall 5, w ∈ gt := by
  intro w hw
  obtain ⟨k, hk, rfl⟩ := List.mem_map.mp hw
  have hk := List.mem_range.mp hk
  rcases (show k = 0 ∨ k = 1 ∨ k = 2 ∨ k = 3 ∨ k = 4 by omega) with rfl | rfl | rfl | rfl | rfl
  · exact gt_in 78 (by decide +kernel) (by decide +kernel)
  · exact gt_in 80 (by decide +kernel) (by decide +kernel)
  · exact gt_in 82 (by decide +kernel) (by decide +kernel)
  · exact gt_in 84 (by decide +kernel) (by decide +kernel)
  · exact gt_in 86 (by decide +kernel) (by decide +kernel)
def F_Hand : u_T := fun k => match k with
  | _ => ("PortraitRank$Hand", "shown", "[I", true)
def t_Hand : Nat → FieldType := fun k => match k with
  | _ => .array .int
theorem n_Hand : ∀ a, a < 1 → ∀ b, b < 1 → a ≠ b → (F_Hand a).2.1 ≠ (F_Hand b).2.1 := by decide +kernel
theorem t_Hand_ok : ∀ k, k < 1 → parseFieldDescriptor (F_Hand k).2.2.1 = some (t_Hand k) := by decide +kernel
theorem i_Hand : ∀ w ∈ u_ws R_Hand F_Hand 1, w ∈ gt := by
  intro w hw
  obtain ⟨k, hk, rfl⟩ := List.mem_map.mp hw
  have hk := List.mem_range.mp hk
  rcases (show k = 0 by omega) with rfl
  · exact gt_in 119 (by decide +kernel) (by decide +kernel)
def F_Scene : u_T := fun k => match k with
  | 0 => ("PortraitRank$Scene", "off", "[I", true)
  | 1 => ("PortraitRank$Scene", "waited", "[I", true)
  | _ => ("PortraitRank$Scene", "nights", "I", false)
def t_Scene : Nat → FieldType := fun k => match k with
  | 0 => .array .int
  | 1 => .array .int
  | _ => .int
theorem n_Scene : ∀ a, a < 3 → ∀ b, b < 3 → a ≠ b → (F_Scene a).2.1 ≠ (F_Scene b).2.1 := by decide +kernel
theorem t_Scene_ok : ∀ k, k < 3 → parseFieldDescriptor (F_Scene k).2.2.1 = some (t_Scene k) := by decide +kernel
theorem i_Scene : ∀ w ∈ u_ws R_Scene F_Scene 3, w ∈ gt := by
  intro w hw
  obtain ⟨k, hk, rfl⟩ := List.mem_map.mp hw
  have hk := List.mem_range.mp hk
  rcases (show k = 0 ∨ k = 1 ∨ k = 2 by omega) with rfl | rfl | rfl
  · exact gt_in 105 (by decide +kernel) (by decide +kernel)
  · exact gt_in 107 (by decide +kernel) (by decide +kernel)
  · exact gt_in 109 (by decide +kernel) (by decide +kernel)
def F_Seen : u_T := fun k => match k with
  | 0 => ("PortraitRank$Seen", "rows", "[I", true)
  | _ => ("PortraitRank$Seen", "count", "I", false)
def t_Seen : Nat → FieldType := fun k => match k with
  | 0 => .array .int
  | _ => .int
theorem n_Seen : ∀ a, a < 2 → ∀ b, b < 2 → a ≠ b → (F_Seen a).2.1 ≠ (F_Seen b).2.1 := by decide +kernel
theorem t_Seen_ok : ∀ k, k < 2 → parseFieldDescriptor (F_Seen k).2.2.1 = some (t_Seen k) := by decide +kernel
theorem i_Seen : ∀ w ∈ u_ws R_Seen F_Seen 2, w ∈ gt := by
  intro w hw
  obtain ⟨k, hk, rfl⟩ := List.mem_map.mp hw
  have hk := List.mem_range.mp hk
  rcases (show k = 0 ∨ k = 1 by omega) with rfl | rfl
  · exact gt_in 147 (by decide +kernel) (by decide +kernel)
  · exact gt_in 149 (by decide +kernel) (by decide +kernel)
def F_Shelf : u_T := fun k => match k with
  | 0 => ("PortraitRank$Shelf", "places", "I", true)
  | _ => ("PortraitRank$Shelf", "cells", "[I", true)
def t_Shelf : Nat → FieldType := fun k => match k with
  | 0 => .int
  | _ => .array .int
theorem n_Shelf : ∀ a, a < 2 → ∀ b, b < 2 → a ≠ b → (F_Shelf a).2.1 ≠ (F_Shelf b).2.1 := by decide +kernel
theorem t_Shelf_ok : ∀ k, k < 2 → parseFieldDescriptor (F_Shelf k).2.2.1 = some (t_Shelf k) := by decide +kernel
theorem i_Shelf : ∀ w ∈ u_ws R_Shelf F_Shelf 2, w ∈ gt := by
  intro w hw
  obtain ⟨k, hk, rfl⟩ := List.mem_map.mp hw
  have hk := List.mem_range.mp hk
  rcases (show k = 0 ∨ k = 1 by omega) with rfl | rfl
  · exact gt_in 133 (by decide +kernel) (by decide +kernel)
  · exact gt_in 135 (by decide +kernel) (by decide +kernel)
def F_Text : u_T := fun k => match k with
  | 0 => ("PortraitRank$Text", "letters", "[I", true)
  | _ => ("PortraitRank$Text", "length", "I", false)
def t_Text : Nat → FieldType := fun k => match k with
  | 0 => .array .int
  | _ => .int
theorem n_Text : ∀ a, a < 2 → ∀ b, b < 2 → a ≠ b → (F_Text a).2.1 ≠ (F_Text b).2.1 := by decide +kernel
theorem t_Text_ok : ∀ k, k < 2 → parseFieldDescriptor (F_Text k).2.2.1 = some (t_Text k) := by decide +kernel
theorem i_Text : ∀ w ∈ u_ws R_Text F_Text 2, w ∈ gt := by
  intro w hw
  obtain ⟨k, hk, rfl⟩ := List.mem_map.mp hw
  have hk := List.mem_range.mp hk
  rcases (show k = 0 ∨ k = 1 by omega) with rfl | rfl
  · exact gt_in 59 (by decide +kernel) (by decide +kernel)
  · exact gt_in 61 (by decide +kernel) (by decide +kernel)
def F_PR : u_T := fun k => match k with
  | 0 => ("PortraitRank", "text", "LPortraitRank$Text;", true)
  | 1 => ("PortraitRank", "hall", "LPortraitRank$Hall;", true)
  | 2 => ("PortraitRank", "now", "LPortraitRank$Scene;", true)
  | 3 => ("PortraitRank", "trial", "LPortraitRank$Scene;", true)
  | 4 => ("PortraitRank", "hand", "LPortraitRank$Hand;", true)
  | 5 => ("PortraitRank", "acts", "LPortraitRank$Shelf;", true)
  | 6 => ("PortraitRank", "slots", "LPortraitRank$Shelf;", true)
  | 7 => ("PortraitRank", "seen", "LPortraitRank$Seen;", true)
  | 8 => ("PortraitRank", "actCount", "I", false)
  | 9 => ("PortraitRank", "slotsKept", "I", false)
  | _ => ("PortraitRank", "seed", "J", false)
def t_PR : Nat → FieldType := fun k => match k with
  | 0 => .object "PortraitRank$Text"
  | 1 => .object "PortraitRank$Hall"
  | 2 => .object "PortraitRank$Scene"
  | 3 => .object "PortraitRank$Scene"
  | 4 => .object "PortraitRank$Hand"
  | 5 => .object "PortraitRank$Shelf"
  | 6 => .object "PortraitRank$Shelf"
  | 7 => .object "PortraitRank$Seen"
  | 8 => .int
  | 9 => .int
  | _ => .long
theorem n_PR : ∀ a, a < 11 → ∀ b, b < 11 → a ≠ b → (F_PR a).2.1 ≠ (F_PR b).2.1 := by decide +kernel
theorem t_PR_ok : ∀ k, k < 11 → parseFieldDescriptor (F_PR k).2.2.1 = some (t_PR k) := by decide +kernel
theorem i_PR : ∀ w ∈ u_ws R_PR F_PR 11, w ∈ gt := by
  intro w hw
  obtain ⟨k, hk, rfl⟩ := List.mem_map.mp hw
  have hk := List.mem_range.mp hk
  rcases (show k = 0 ∨ k = 1 ∨ k = 2 ∨ k = 3 ∨ k = 4 ∨ k = 5 ∨ k = 6 ∨ k = 7 ∨ k = 8 ∨ k = 9 ∨ k = 10 by omega) with rfl | rfl | rfl | rfl | rfl | rfl | rfl | rfl | rfl | rfl | rfl
  · exact gt_in 163 (by decide +kernel) (by decide +kernel)
  · exact gt_in 165 (by decide +kernel) (by decide +kernel)
  · exact gt_in 167 (by decide +kernel) (by decide +kernel)
  · exact gt_in 169 (by decide +kernel) (by decide +kernel)
  · exact gt_in 171 (by decide +kernel) (by decide +kernel)
  · exact gt_in 173 (by decide +kernel) (by decide +kernel)
  · exact gt_in 175 (by decide +kernel) (by decide +kernel)
  · exact gt_in 177 (by decide +kernel) (by decide +kernel)
  · exact gt_in 179 (by decide +kernel) (by decide +kernel)
  · exact gt_in 181 (by decide +kernel) (by decide +kernel)
  · exact gt_in 183 (by decide +kernel) (by decide +kernel)
def F_PM : u_T := fun k => match k with
  | 0 => ("PortraitRankModel", "thrown", "I", false)
  | 1 => ("PortraitRankModel", "text", "[I", true)
  | 2 => ("PortraitRankModel", "textSize", "I", false)
  | 3 => ("PortraitRankModel", "place", "I", false)
  | 4 => ("PortraitRankModel", "layer", "[I", true)
  | 5 => ("PortraitRankModel", "cabmen", "I", false)
  | 6 => ("PortraitRankModel", "cabman", "[I", true)
  | 7 => ("PortraitRankModel", "readLayer", "[I", true)
  | 8 => ("PortraitRankModel", "readCabmen", "I", false)
  | 9 => ("PortraitRankModel", "readCabman", "[I", true)
  | 10 => ("PortraitRankModel", "page", "[I", true)
  | 11 => ("PortraitRankModel", "trial", "[I", true)
  | 12 => ("PortraitRankModel", "book", "[I", true)
  | 13 => ("PortraitRankModel", "acts", "I", false)
  | 14 => ("PortraitRankModel", "kept", "[I", true)
  | 15 => ("PortraitRankModel", "isKept", "[Z", true)
  | 16 => ("PortraitRankModel", "seen", "I", false)
  | 17 => ("PortraitRankModel", "seenCabman", "[I", true)
  | 18 => ("PortraitRankModel", "seenFinger", "[I", true)
  | 19 => ("PortraitRankModel", "seenOff", "[I", true)
  | 20 => ("PortraitRankModel", "seenCame", "[I", true)
  | 21 => ("PortraitRankModel", "seed", "J", false)
  | 22 => ("PortraitRankModel", "bestCleaning", "I", false)
  | 23 => ("PortraitRankModel", "bestLayers", "I", false)
  | 24 => ("PortraitRankModel", "bestMany", "I", false)
  | 25 => ("PortraitRankModel", "underMany", "I", false)
  | 26 => ("PortraitRankModel", "underLeast", "I", false)
  | 27 => ("PortraitRankModel", "restMany", "I", false)
  | 28 => ("PortraitRankModel", "restFirst", "I", false)
  | 29 => ("PortraitRankModel", "value", "[I", true)
  | _ => ("PortraitRankModel", "shows", "[I", true)
def t_PM : Nat → FieldType := fun k => match k with
  | 0 => .int
  | 1 => .array .int
  | 2 => .int
  | 3 => .int
  | 4 => .array .int
  | 5 => .int
  | 6 => .array .int
  | 7 => .array .int
  | 8 => .int
  | 9 => .array .int
  | 10 => .array .int
  | 11 => .array .int
  | 12 => .array .int
  | 13 => .int
  | 14 => .array .int
  | 15 => .array .boolean
  | 16 => .int
  | 17 => .array .int
  | 18 => .array .int
  | 19 => .array .int
  | 20 => .array .int
  | 21 => .long
  | 22 => .int
  | 23 => .int
  | 24 => .int
  | 25 => .int
  | 26 => .int
  | 27 => .int
  | 28 => .int
  | 29 => .array .int
  | _ => .array .int
theorem n_PM : ∀ a, a < 31 → ∀ b, b < 31 → a ≠ b → (F_PM a).2.1 ≠ (F_PM b).2.1 := by decide +kernel
theorem t_PM_ok : ∀ k, k < 31 → parseFieldDescriptor (F_PM k).2.2.1 = some (t_PM k) := by decide +kernel
theorem i_PM : ∀ w ∈ u_ws R_PM F_PM 31, w ∈ gt := by
  intro w hw
  obtain ⟨k, hk, rfl⟩ := List.mem_map.mp hw
  have hk := List.mem_range.mp hk
  rcases (show k = 0 ∨ k = 1 ∨ k = 2 ∨ k = 3 ∨ k = 4 ∨ k = 5 ∨ k = 6 ∨ k = 7 ∨ k = 8 ∨ k = 9 ∨ k = 10 ∨ k = 11 ∨ k = 12 ∨ k = 13 ∨ k = 14 ∨ k = 15 ∨ k = 16 ∨ k = 17 ∨ k = 18 ∨ k = 19 ∨ k = 20 ∨ k = 21 ∨ k = 22 ∨ k = 23 ∨ k = 24 ∨ k = 25 ∨ k = 26 ∨ k = 27 ∨ k = 28 ∨ k = 29 ∨ k = 30 by omega) with rfl | rfl | rfl | rfl | rfl | rfl | rfl | rfl | rfl | rfl | rfl | rfl | rfl | rfl | rfl | rfl | rfl | rfl | rfl | rfl | rfl | rfl | rfl | rfl | rfl | rfl | rfl | rfl | rfl | rfl | rfl
  · exact gt_in 570 (by decide +kernel) (by decide +kernel)
  · exact gt_in 572 (by decide +kernel) (by decide +kernel)
  · exact gt_in 574 (by decide +kernel) (by decide +kernel)
  · exact gt_in 576 (by decide +kernel) (by decide +kernel)
  · exact gt_in 578 (by decide +kernel) (by decide +kernel)
  · exact gt_in 580 (by decide +kernel) (by decide +kernel)
  · exact gt_in 582 (by decide +kernel) (by decide +kernel)
  · exact gt_in 584 (by decide +kernel) (by decide +kernel)
  · exact gt_in 586 (by decide +kernel) (by decide +kernel)
  · exact gt_in 588 (by decide +kernel) (by decide +kernel)
  · exact gt_in 590 (by decide +kernel) (by decide +kernel)
  · exact gt_in 592 (by decide +kernel) (by decide +kernel)
  · exact gt_in 594 (by decide +kernel) (by decide +kernel)
  · exact gt_in 596 (by decide +kernel) (by decide +kernel)
  · exact gt_in 598 (by decide +kernel) (by decide +kernel)
  · exact gt_in 600 (by decide +kernel) (by decide +kernel)
  · exact gt_in 602 (by decide +kernel) (by decide +kernel)
  · exact gt_in 604 (by decide +kernel) (by decide +kernel)
  · exact gt_in 606 (by decide +kernel) (by decide +kernel)
  · exact gt_in 608 (by decide +kernel) (by decide +kernel)
  · exact gt_in 610 (by decide +kernel) (by decide +kernel)
  · exact gt_in 612 (by decide +kernel) (by decide +kernel)
  · exact gt_in 614 (by decide +kernel) (by decide +kernel)
  · exact gt_in 616 (by decide +kernel) (by decide +kernel)
  · exact gt_in 618 (by decide +kernel) (by decide +kernel)
  · exact gt_in 620 (by decide +kernel) (by decide +kernel)
  · exact gt_in 622 (by decide +kernel) (by decide +kernel)
  · exact gt_in 624 (by decide +kernel) (by decide +kernel)
  · exact gt_in 626 (by decide +kernel) (by decide +kernel)
  · exact gt_in 628 (by decide +kernel) (by decide +kernel)
  · exact gt_in 630 (by decide +kernel) (by decide +kernel)
abbrev classes : List vw_C := [(R_Hall, F_Hall, 5), (R_Hand, F_Hand, 1), (R_Scene, F_Scene, 3), (R_Seen, F_Seen, 2), (R_Shelf, F_Shelf, 2), (R_Text, F_Text, 2), (R_PR, F_PR, 11), (R_PM, F_PM, 31)]
abbrev b_PR_init : ByteArray := prog_1_method_1_code
def y_PR_init : MethodName := ⟨R_PR, "<init>", "()V"⟩
abbrev b_PR_about : ByteArray := prog_1_method_6_code
def y_PR_about : MethodName := ⟨R_PR, "about", "(I)I"⟩
abbrev b_PR_again : ByteArray := prog_1_method_30_code
def y_PR_again : MethodName := ⟨R_PR, "again", "(I)I"⟩
abbrev b_PR_asCleaning : ByteArray := prog_1_method_38_code
def y_PR_asCleaning : MethodName := ⟨R_PR, "asCleaning", "(I)I"⟩
abbrev b_PR_attempt : ByteArray := prog_1_method_43_code
def y_PR_attempt : MethodName := ⟨R_PR, "attempt", "(LPortraitRank$Scene;II)Z"⟩
abbrev b_PR_best : ByteArray := prog_1_method_15_code
def y_PR_best : MethodName := ⟨R_PR, "best", "(I)I"⟩
abbrev b_PR_cabman : ByteArray := prog_1_method_8_code
def y_PR_cabman : MethodName := ⟨R_PR, "cabman", "(II)I"⟩
abbrev b_PR_call : ByteArray := prog_1_method_14_code
def y_PR_call : MethodName := ⟨R_PR, "call", "(I)I"⟩
abbrev b_PR_clean : ByteArray := prog_1_method_10_code
def y_PR_clean : MethodName := ⟨R_PR, "clean", "(I)I"⟩
abbrev b_PR_doingAt : ByteArray := prog_1_method_42_code
def y_PR_doingAt : MethodName := ⟨R_PR, "doingAt", "(III)I"⟩
abbrev b_PR_fault : ByteArray := prog_1_method_4_code
def y_PR_fault : MethodName := ⟨R_PR, "fault", "()I"⟩
abbrev b_PR_finger : ByteArray := prog_1_method_7_code
def y_PR_finger : MethodName := ⟨R_PR, "finger", "(II)I"⟩
abbrev b_PR_fraction : ByteArray := prog_1_method_50_code
def y_PR_fraction : MethodName := ⟨R_PR, "fraction", "(IIZ)I"⟩
abbrev b_PR_gain : ByteArray := prog_1_method_49_code
def y_PR_gain : MethodName := ⟨R_PR, "gain", "(III)I"⟩
abbrev b_PR_givesUp : ByteArray := prog_1_method_18_code
def y_PR_givesUp : MethodName := ⟨R_PR, "givesUp", "(I)I"⟩
abbrev b_PR_hailedBy : ByteArray := prog_1_method_37_code
def y_PR_hailedBy : MethodName := ⟨R_PR, "hailedBy", "(I)I"⟩
abbrev b_PR_hailedIn : ByteArray := prog_1_method_35_code
def y_PR_hailedIn : MethodName := ⟨R_PR, "hailedIn", "(LPortraitRank$Scene;)I"⟩
abbrev b_PR_hailedWhenCome : ByteArray := prog_1_method_44_code
def y_PR_hailedWhenCome : MethodName := ⟨R_PR, "hailedWhenCome", "(I)I"⟩
abbrev b_PR_hall : ByteArray := prog_1_method_5_code
def y_PR_hall : MethodName := ⟨R_PR, "hall", "()I"⟩
abbrev b_PR_isAsSeen : ByteArray := prog_1_method_46_code
def y_PR_isAsSeen : MethodName := ⟨R_PR, "isAsSeen", "(II)Z"⟩
abbrev b_PR_isBestWait : ByteArray := prog_1_method_48_code
def y_PR_isBestWait : MethodName := ⟨R_PR, "isBestWait", "(III)Z"⟩
abbrev b_PR_isFinger : ByteArray := prog_1_method_31_code
def y_PR_isFinger : MethodName := ⟨R_PR, "isFinger", "(I)Z"⟩
abbrev b_PR_isOneOfTwo : ByteArray := prog_1_method_32_code
def y_PR_isOneOfTwo : MethodName := ⟨R_PR, "isOneOfTwo", "(I)Z"⟩
abbrev b_PR_judge : ByteArray := prog_1_method_20_code
def y_PR_judge : MethodName := ⟨R_PR, "judge", "(II)I"⟩
abbrev b_PR_keep : ByteArray := prog_1_method_29_code
def y_PR_keep : MethodName := ⟨R_PR, "keep", "(I)I"⟩
abbrev b_PR_layerOfRow : ByteArray := prog_1_method_47_code
def y_PR_layerOfRow : MethodName := ⟨R_PR, "layerOfRow", "(II)I"⟩
abbrev b_PR_layersOf : ByteArray := prog_1_method_39_code
def y_PR_layersOf : MethodName := ⟨R_PR, "layersOf", "(I)I"⟩
abbrev b_PR_leastCleaning : ByteArray := prog_1_method_40_code
def y_PR_leastCleaning : MethodName := ⟨R_PR, "leastCleaning", "(II)I"⟩
abbrev b_PR_longest : ByteArray := prog_1_method_19_code
def y_PR_longest : MethodName := ⟨R_PR, "longest", "(I)I"⟩
abbrev b_PR_night : ByteArray := prog_1_method_9_code
def y_PR_night : MethodName := ⟨R_PR, "night", "()I"⟩
abbrev b_PR_ordersBehind : ByteArray := prog_1_method_45_code
def y_PR_ordersBehind : MethodName := ⟨R_PR, "ordersBehind", "(I)I"⟩
abbrev b_PR_paint : ByteArray := prog_1_method_11_code
def y_PR_paint : MethodName := ⟨R_PR, "paint", "(I)I"⟩
abbrev b_PR_pass : ByteArray := prog_1_method_36_code
def y_PR_pass : MethodName := ⟨R_PR, "pass", "(LPortraitRank$Scene;)V"⟩
abbrev b_PR_peace : ByteArray := prog_1_method_17_code
def y_PR_peace : MethodName := ⟨R_PR, "peace", "(I)I"⟩
abbrev b_PR_remember : ByteArray := prog_1_method_34_code
def y_PR_remember : MethodName := ⟨R_PR, "remember", "()V"⟩
abbrev b_PR_rests : ByteArray := prog_1_method_25_code
def y_PR_rests : MethodName := ⟨R_PR, "rests", "(III)I"⟩
abbrev b_PR_see : ByteArray := prog_1_method_22_code
def y_PR_see : MethodName := ⟨R_PR, "see", "(IIII)I"⟩
abbrev b_PR_seed : ByteArray := prog_1_method_27_code
def y_PR_seed : MethodName := ⟨R_PR, "seed", "(J)J"⟩
abbrev b_PR_send : ByteArray := prog_1_method_12_code
def y_PR_send : MethodName := ⟨R_PR, "send", "()I"⟩
abbrev b_PR_share : ByteArray := prog_1_method_21_code
def y_PR_share : MethodName := ⟨R_PR, "share", "(IZ)I"⟩
abbrev b_PR_shown : ByteArray := prog_1_method_33_code
def y_PR_shown : MethodName := ⟨R_PR, "shown", "(I)I"⟩
abbrev b_PR_strokes : ByteArray := prog_1_method_16_code
def y_PR_strokes : MethodName := ⟨R_PR, "strokes", "(II)I"⟩
abbrev b_PR_tellCleaning : ByteArray := prog_1_method_41_code
def y_PR_tellCleaning : MethodName := ⟨R_PR, "tellCleaning", "(II)I"⟩
abbrev b_PR_under : ByteArray := prog_1_method_24_code
def y_PR_under : MethodName := ⟨R_PR, "under", "(II)I"⟩
abbrev b_PR_undo : ByteArray := prog_1_method_13_code
def y_PR_undo : MethodName := ⟨R_PR, "undo", "()I"⟩
abbrev b_PR_unsee : ByteArray := prog_1_method_23_code
def y_PR_unsee : MethodName := ⟨R_PR, "unsee", "()I"⟩
abbrev b_PR_wet : ByteArray := prog_1_method_26_code
def y_PR_wet : MethodName := ⟨R_PR, "wet", "(IIZ)I"⟩
abbrev b_PR_wipe : ByteArray := prog_1_method_3_code
def y_PR_wipe : MethodName := ⟨R_PR, "wipe", "()I"⟩
abbrev b_PR_write : ByteArray := prog_1_method_2_code
def y_PR_write : MethodName := ⟨R_PR, "write", "(I)I"⟩
abbrev b_PR_years : ByteArray := prog_1_method_28_code
def y_PR_years : MethodName := ⟨R_PR, "years", "(I)I"⟩
abbrev b_Hall_init : ByteArray := prog_2_method_1_code
def y_Hall_init : MethodName := ⟨R_Hall, "<init>", "()V"⟩
abbrev b_Hall_has : ByteArray := prog_2_method_3_code
def y_Hall_has : MethodName := ⟨R_Hall, "has", "(I)Z"⟩
abbrev b_Hall_kind : ByteArray := prog_2_method_5_code
def y_Hall_kind : MethodName := ⟨R_Hall, "kind", "(I)I"⟩
abbrev b_Hall_layer : ByteArray := prog_2_method_4_code
def y_Hall_layer : MethodName := ⟨R_Hall, "layer", "(II)I"⟩
abbrev b_Hall_patience : ByteArray := prog_2_method_6_code
def y_Hall_patience : MethodName := ⟨R_Hall, "patience", "(I)I"⟩
abbrev b_Hall_read : ByteArray := prog_2_method_2_code
def y_Hall_read : MethodName := ⟨R_Hall, "read", "(LPortraitRank$Text;)V"⟩
abbrev b_Hall_wanted : ByteArray := prog_2_method_7_code
def y_Hall_wanted : MethodName := ⟨R_Hall, "wanted", "(II)I"⟩
abbrev b_Hand_init : ByteArray := prog_3_method_1_code
def y_Hand_init : MethodName := ⟨R_Hand, "<init>", "()V"⟩
abbrev b_Hand_hailed : ByteArray := prog_3_method_4_code
def y_Hand_hailed : MethodName := ⟨R_Hand, "hailed", "(LPortraitRank$Hall;)I"⟩
abbrev b_Hand_hails : ByteArray := prog_3_method_5_code
def y_Hand_hails : MethodName := ⟨R_Hand, "hails", "(LPortraitRank$Hall;I)Z"⟩
abbrev b_Hand_show : ByteArray := prog_3_method_2_code
def y_Hand_show : MethodName := ⟨R_Hand, "show", "(II)V"⟩
abbrev b_Hand_showAll : ByteArray := prog_3_method_3_code
def y_Hand_showAll : MethodName := ⟨R_Hand, "showAll", "(LPortraitRank$Hall;LPortraitRank$Scene;)V"⟩
abbrev b_Scene_init : ByteArray := prog_4_method_1_code
def y_Scene_init : MethodName := ⟨R_Scene, "<init>", "()V"⟩
abbrev b_Scene_canPutOn : ByteArray := prog_4_method_7_code
def y_Scene_canPutOn : MethodName := ⟨R_Scene, "canPutOn", "(I)Z"⟩
abbrev b_Scene_canTakeOff : ByteArray := prog_4_method_5_code
def y_Scene_canTakeOff : MethodName := ⟨R_Scene, "canTakeOff", "(I)Z"⟩
abbrev b_Scene_copy : ByteArray := prog_4_method_3_code
def y_Scene_copy : MethodName := ⟨R_Scene, "copy", "(LPortraitRank$Scene;)V"⟩
abbrev b_Scene_empty : ByteArray := prog_4_method_2_code
def y_Scene_empty : MethodName := ⟨R_Scene, "empty", "()V"⟩
abbrev b_Scene_first : ByteArray := prog_4_method_11_code
def y_Scene_first : MethodName := ⟨R_Scene, "first", "()I"⟩
abbrev b_Scene_firstOf : ByteArray := prog_4_method_12_code
def y_Scene_firstOf : MethodName := ⟨R_Scene, "firstOf", "(I)I"⟩
abbrev b_Scene_letGo : ByteArray := prog_4_method_14_code
def y_Scene_letGo : MethodName := ⟨R_Scene, "letGo", "(I)Z"⟩
abbrev b_Scene_off : ByteArray := prog_4_method_4_code
def y_Scene_off : MethodName := ⟨R_Scene, "off", "(I)I"⟩
abbrev b_Scene_pass : ByteArray := prog_4_method_15_code
def y_Scene_pass : MethodName := ⟨R_Scene, "pass", "(LPortraitRank$Hall;I)V"⟩
abbrev b_Scene_putOn : ByteArray := prog_4_method_8_code
def y_Scene_putOn : MethodName := ⟨R_Scene, "putOn", "(I)Z"⟩
abbrev b_Scene_rank : ByteArray := prog_4_method_13_code
def y_Scene_rank : MethodName := ⟨R_Scene, "rank", "()I"⟩
abbrev b_Scene_takeOff : ByteArray := prog_4_method_6_code
def y_Scene_takeOff : MethodName := ⟨R_Scene, "takeOff", "(I)Z"⟩
abbrev b_Scene_waited : ByteArray := prog_4_method_9_code
def y_Scene_waited : MethodName := ⟨R_Scene, "waited", "(I)I"⟩
abbrev b_Scene_waiting : ByteArray := prog_4_method_10_code
def y_Scene_waiting : MethodName := ⟨R_Scene, "waiting", "()I"⟩
abbrev b_Seen_init : ByteArray := prog_5_method_1_code
def y_Seen_init : MethodName := ⟨R_Seen, "<init>", "()V"⟩
abbrev b_Seen_add : ByteArray := prog_5_method_2_code
def y_Seen_add : MethodName := ⟨R_Seen, "add", "(IIII)Z"⟩
abbrev b_Seen_at : ByteArray := prog_5_method_3_code
def y_Seen_at : MethodName := ⟨R_Seen, "at", "(II)I"⟩
abbrev b_Shelf_init : ByteArray := prog_6_method_1_code
def y_Shelf_init : MethodName := ⟨R_Shelf, "<init>", "(I)V"⟩
abbrev b_Shelf_forgetFirst : ByteArray := prog_6_method_4_code
def y_Shelf_forgetFirst : MethodName := ⟨R_Shelf, "forgetFirst", "()V"⟩
abbrev b_Shelf_put : ByteArray := prog_6_method_2_code
def y_Shelf_put : MethodName := ⟨R_Shelf, "put", "(ILPortraitRank$Scene;)V"⟩
abbrev b_Shelf_take : ByteArray := prog_6_method_3_code
def y_Shelf_take : MethodName := ⟨R_Shelf, "take", "(ILPortraitRank$Scene;)V"⟩
abbrev b_Text_init : ByteArray := prog_7_method_1_code
def y_Text_init : MethodName := ⟨R_Text, "<init>", "()V"⟩
abbrev b_Text_append : ByteArray := prog_7_method_2_code
def y_Text_append : MethodName := ⟨R_Text, "append", "(I)Z"⟩
abbrev b_Text_figure : ByteArray := prog_7_method_3_code
def y_Text_figure : MethodName := ⟨R_Text, "figure", "(I)I"⟩
abbrev b_Text_firstFault : ByteArray := prog_7_method_4_code
def y_Text_firstFault : MethodName := ⟨R_Text, "firstFault", "()I"⟩
abbrev b_Text_fits : ByteArray := prog_7_method_5_code
def y_Text_fits : MethodName := ⟨R_Text, "fits", "(II)Z"⟩
abbrev b_PM_init : ByteArray := prog_9_method_1_code
def y_PM_init : MethodName := ⟨R_PM, "<init>", "()V"⟩
abbrev b_PM_about : ByteArray := prog_9_method_20_code
def y_PM_about : MethodName := ⟨R_PM, "about", "(I)I"⟩
abbrev b_PM_again : ByteArray := prog_9_method_61_code
def y_PM_again : MethodName := ⟨R_PM, "again", "(I)I"⟩
abbrev b_PM_begin : ByteArray := prog_9_method_31_code
def y_PM_begin : MethodName := ⟨R_PM, "begin", "()V"⟩
abbrev b_PM_best : ByteArray := prog_9_method_38_code
def y_PM_best : MethodName := ⟨R_PM, "best", "(I)I"⟩
abbrev b_PM_cabman : ByteArray := prog_9_method_22_code
def y_PM_cabman : MethodName := ⟨R_PM, "cabman", "(II)I"⟩
abbrev b_PM_call : ByteArray := prog_9_method_34_code
def y_PM_call : MethodName := ⟨R_PM, "call", "(I)I"⟩
abbrev b_PM_calledOf : ByteArray := prog_9_method_18_code
def y_PM_calledOf : MethodName := ⟨R_PM, "calledOf", "(I)I"⟩
abbrev b_PM_clean : ByteArray := prog_9_method_27_code
def y_PM_clean : MethodName := ⟨R_PM, "clean", "(I)I"⟩
abbrev b_PM_divisor : ByteArray := prog_9_method_47_code
def y_PM_divisor : MethodName := ⟨R_PM, "divisor", "(II)I"⟩
abbrev b_PM_does : ByteArray := prog_9_method_44_code
def y_PM_does : MethodName := ⟨R_PM, "does", "(I)Z"⟩
abbrev b_PM_fault : ByteArray := prog_9_method_14_code
def y_PM_fault : MethodName := ⟨R_PM, "fault", "()I"⟩
abbrev b_PM_figure : ByteArray := prog_9_method_10_code
def y_PM_figure : MethodName := ⟨R_PM, "figure", "(II)I"⟩
abbrev b_PM_figuresOf : ByteArray := prog_9_method_35_code
def y_PM_figuresOf : MethodName := ⟨R_PM, "figuresOf", "(I)I"⟩
abbrev b_PM_findBest : ByteArray := prog_9_method_37_code
def y_PM_findBest : MethodName := ⟨R_PM, "findBest", "()V"⟩
abbrev b_PM_findRests : ByteArray := prog_9_method_55_code
def y_PM_findRests : MethodName := ⟨R_PM, "findRests", "(II)V"⟩
abbrev b_PM_findStrokes : ByteArray := prog_9_method_39_code
def y_PM_findStrokes : MethodName := ⟨R_PM, "findStrokes", "(I)V"⟩
abbrev b_PM_findUnder : ByteArray := prog_9_method_52_code
def y_PM_findUnder : MethodName := ⟨R_PM, "findUnder", "(I)V"⟩
abbrev b_PM_finger : ByteArray := prog_9_method_21_code
def y_PM_finger : MethodName := ⟨R_PM, "finger", "(II)I"⟩
abbrev b_PM_fraction : ByteArray := prog_9_method_48_code
def y_PM_fraction : MethodName := ⟨R_PM, "fraction", "(IIZ)I"⟩
abbrev b_PM_gainOf : ByteArray := prog_9_method_54_code
def y_PM_gainOf : MethodName := ⟨R_PM, "gainOf", "(III)I"⟩
abbrev b_PM_givesUp : ByteArray := prog_9_method_42_code
def y_PM_givesUp : MethodName := ⟨R_PM, "givesUp", "(I)I"⟩
abbrev b_PM_goAway : ByteArray := prog_9_method_24_code
def y_PM_goAway : MethodName := ⟨R_PM, "goAway", "([II)V"⟩
abbrev b_PM_goNight : ByteArray := prog_9_method_25_code
def y_PM_goNight : MethodName := ⟨R_PM, "goNight", "([I)V"⟩
abbrev b_PM_hall : ByteArray := prog_9_method_15_code
def y_PM_hall : MethodName := ⟨R_PM, "hall", "()I"⟩
abbrev b_PM_has : ByteArray := prog_9_method_4_code
def y_PM_has : MethodName := ⟨R_PM, "has", "(II)Z"⟩
abbrev b_PM_in : ByteArray := prog_9_method_3_code
def y_PM_in : MethodName := ⟨R_PM, "in", "(JJJ)Z"⟩
abbrev b_PM_isCalled : ByteArray := prog_9_method_17_code
def y_PM_isCalled : MethodName := ⟨R_PM, "isCalled", "(II)Z"⟩
abbrev b_PM_judge : ByteArray := prog_9_method_45_code
def y_PM_judge : MethodName := ⟨R_PM, "judge", "(II)I"⟩
abbrev b_PM_keep : ByteArray := prog_9_method_60_code
def y_PM_keep : MethodName := ⟨R_PM, "keep", "(I)I"⟩
abbrev b_PM_layCleaning : ByteArray := prog_9_method_33_code
def y_PM_layCleaning : MethodName := ⟨R_PM, "layCleaning", "(I)Z"⟩
abbrev b_PM_layShown : ByteArray := prog_9_method_16_code
def y_PM_layShown : MethodName := ⟨R_PM, "layShown", "([I)V"⟩
abbrev b_PM_layersOf : ByteArray := prog_9_method_36_code
def y_PM_layersOf : MethodName := ⟨R_PM, "layersOf", "(I)I"⟩
abbrev b_PM_longest : ByteArray := prog_9_method_43_code
def y_PM_longest : MethodName := ⟨R_PM, "longest", "(I)I"⟩
abbrev b_PM_many : ByteArray := prog_9_method_5_code
def y_PM_many : MethodName := ⟨R_PM, "many", "(I)I"⟩
abbrev b_PM_night : ByteArray := prog_9_method_26_code
def y_PM_night : MethodName := ⟨R_PM, "night", "()I"⟩
abbrev b_PM_noCabman : ByteArray := prog_9_method_6_code
def y_PM_noCabman : MethodName := ⟨R_PM, "noCabman", "(I)Z"⟩
abbrev b_PM_noFinger : ByteArray := prog_9_method_7_code
def y_PM_noFinger : MethodName := ⟨R_PM, "noFinger", "(I)Z"⟩
abbrev b_PM_note : ByteArray := prog_9_method_23_code
def y_PM_note : MethodName := ⟨R_PM, "note", "()V"⟩
abbrev b_PM_paint : ByteArray := prog_9_method_28_code
def y_PM_paint : MethodName := ⟨R_PM, "paint", "(I)I"⟩
abbrev b_PM_peace : ByteArray := prog_9_method_41_code
def y_PM_peace : MethodName := ⟨R_PM, "peace", "(I)I"⟩
abbrev b_PM_power : ByteArray := prog_9_method_32_code
def y_PM_power : MethodName := ⟨R_PM, "power", "(II)I"⟩
abbrev b_PM_readHall : ByteArray := prog_9_method_13_code
def y_PM_readHall : MethodName := ⟨R_PM, "readHall", "()I"⟩
abbrev b_PM_readLayers : ByteArray := prog_9_method_11_code
def y_PM_readLayers : MethodName := ⟨R_PM, "readLayers", "()Z"⟩
abbrev b_PM_readOne : ByteArray := prog_9_method_12_code
def y_PM_readOne : MethodName := ⟨R_PM, "readOne", "()Z"⟩
abbrev b_PM_rests : ByteArray := prog_9_method_56_code
def y_PM_rests : MethodName := ⟨R_PM, "rests", "(III)I"⟩
abbrev b_PM_see : ByteArray := prog_9_method_50_code
def y_PM_see : MethodName := ⟨R_PM, "see", "(IIII)I"⟩
abbrev b_PM_seed : ByteArray := prog_9_method_58_code
def y_PM_seed : MethodName := ⟨R_PM, "seed", "(J)J"⟩
abbrev b_PM_send : ByteArray := prog_9_method_29_code
def y_PM_send : MethodName := ⟨R_PM, "send", "()I"⟩
abbrev b_PM_share : ByteArray := prog_9_method_49_code
def y_PM_share : MethodName := ⟨R_PM, "share", "(IZ)I"⟩
abbrev b_PM_strokes : ByteArray := prog_9_method_40_code
def y_PM_strokes : MethodName := ⟨R_PM, "strokes", "(II)I"⟩
abbrev b_PM_under : ByteArray := prog_9_method_53_code
def y_PM_under : MethodName := ⟨R_PM, "under", "(II)I"⟩
abbrev b_PM_undo : ByteArray := prog_9_method_30_code
def y_PM_undo : MethodName := ⟨R_PM, "undo", "()I"⟩
abbrev b_PM_unsee : ByteArray := prog_9_method_51_code
def y_PM_unsee : MethodName := ⟨R_PM, "unsee", "()I"⟩
abbrev b_PM_waitsOf : ByteArray := prog_9_method_19_code
def y_PM_waitsOf : MethodName := ⟨R_PM, "waitsOf", "([I)I"⟩
abbrev b_PM_ways : ByteArray := prog_9_method_46_code
def y_PM_ways : MethodName := ⟨R_PM, "ways", "(I)I"⟩
abbrev b_PM_wet : ByteArray := prog_9_method_57_code
def y_PM_wet : MethodName := ⟨R_PM, "wet", "(IIZ)I"⟩
abbrev b_PM_wipe : ByteArray := prog_9_method_9_code
def y_PM_wipe : MethodName := ⟨R_PM, "wipe", "()I"⟩
abbrev b_PM_write : ByteArray := prog_9_method_8_code
def y_PM_write : MethodName := ⟨R_PM, "write", "(I)I"⟩
abbrev b_PM_years : ByteArray := prog_9_method_59_code
def y_PM_years : MethodName := ⟨R_PM, "years", "(I)I"⟩
abbrev b_Int_bitCount : ByteArray := prog_10_method_49_code
def y_Int_bitCount : MethodName := ⟨R_Int, "bitCount", "(I)I"⟩
abbrev b_Math_max : ByteArray := prog_11_method_65_code
def y_Math_max : MethodName := ⟨R_Math, "max", "(II)I"⟩
abbrev b_Math_min : ByteArray := prog_11_method_69_code
def y_Math_min : MethodName := ⟨R_Math, "min", "(II)I"⟩
abbrev b_Arr_fill : ByteArray := prog_13_method_103_code
def y_Arr_fill : MethodName := ⟨R_Arr, "fill", "([II)V"⟩
