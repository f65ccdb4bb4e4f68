section
-- ===== PART A: goes FIRST, ahead of the names: the tables' words, and 'selects' of the private methods out of them =====
/-- a private method of a class that the tables say can be made, by its rows of tables_1 -/
def lw_okq (q : MethodName × Nat) : Prop := (q.1.cls ≠ "java/lang/invoke/MethodHandle" ∧ q.1.cls ≠ "java/lang/invoke/VarHandle") ∧ Cond.instantiable q.1.cls q.2 ∈ tables_1 ∧ Cond.privateMethod q.1 ∈ tables_1 ∧ Cond.instanceMethod q.1 ∈ tables_1
theorem lw_p0 : lw_okq (⟨"PortraitRank$Scene", "firstOf", "(I)I"⟩, 3) := ⟨⟨by decide +kernel, by decide +kernel⟩, List.mem_of_getElem? (i := 62) (by decide +kernel), List.mem_of_getElem? (i := 214) (by decide +kernel), List.mem_of_getElem? (i := 215) (by decide +kernel)⟩
theorem lw_p1 : lw_okq (⟨"PortraitRank", "hailedIn", "(LPortraitRank$Scene;)I"⟩, 11) := ⟨⟨by decide +kernel, by decide +kernel⟩, List.mem_of_getElem? (i := 14) (by decide +kernel), List.mem_of_getElem? (i := 222) (by decide +kernel), List.mem_of_getElem? (i := 223) (by decide +kernel)⟩
theorem lw_p2 : lw_okq (⟨"PortraitRank", "shown", "(I)I"⟩, 11) := ⟨⟨by decide +kernel, by decide +kernel⟩, List.mem_of_getElem? (i := 14) (by decide +kernel), List.mem_of_getElem? (i := 265) (by decide +kernel), List.mem_of_getElem? (i := 266) (by decide +kernel)⟩
theorem lw_p3 : lw_okq (⟨"PortraitRank", "remember", "()V"⟩, 11) := ⟨⟨by decide +kernel, by decide +kernel⟩, List.mem_of_getElem? (i := 14) (by decide +kernel), List.mem_of_getElem? (i := 288) (by decide +kernel), List.mem_of_getElem? (i := 289) (by decide +kernel)⟩
theorem lw_p4 : lw_okq (⟨"PortraitRank", "pass", "(LPortraitRank$Scene;)V"⟩, 11) := ⟨⟨by decide +kernel, by decide +kernel⟩, List.mem_of_getElem? (i := 14) (by decide +kernel), List.mem_of_getElem? (i := 303) (by decide +kernel), List.mem_of_getElem? (i := 304) (by decide +kernel)⟩
theorem lw_p5 : lw_okq (⟨"PortraitRank", "hailedBy", "(I)I"⟩, 11) := ⟨⟨by decide +kernel, by decide +kernel⟩, List.mem_of_getElem? (i := 14) (by decide +kernel), List.mem_of_getElem? (i := 369) (by decide +kernel), List.mem_of_getElem? (i := 370) (by decide +kernel)⟩
theorem lw_p6 : lw_okq (⟨"PortraitRank", "leastCleaning", "(II)I"⟩, 11) := ⟨⟨by decide +kernel, by decide +kernel⟩, List.mem_of_getElem? (i := 14) (by decide +kernel), List.mem_of_getElem? (i := 395) (by decide +kernel), List.mem_of_getElem? (i := 396) (by decide +kernel)⟩
theorem lw_p7 : lw_okq (⟨"PortraitRank", "attempt", "(LPortraitRank$Scene;II)Z"⟩, 11) := ⟨⟨by decide +kernel, by decide +kernel⟩, List.mem_of_getElem? (i := 14) (by decide +kernel), List.mem_of_getElem? (i := 427) (by decide +kernel), List.mem_of_getElem? (i := 428) (by decide +kernel)⟩
theorem lw_p8 : lw_okq (⟨"PortraitRank", "hailedWhenCome", "(I)I"⟩, 11) := ⟨⟨by decide +kernel, by decide +kernel⟩, List.mem_of_getElem? (i := 14) (by decide +kernel), List.mem_of_getElem? (i := 435) (by decide +kernel), List.mem_of_getElem? (i := 436) (by decide +kernel)⟩
theorem lw_p9 : lw_okq (⟨"PortraitRank", "isAsSeen", "(II)Z"⟩, 11) := ⟨⟨by decide +kernel, by decide +kernel⟩, List.mem_of_getElem? (i := 14) (by decide +kernel), List.mem_of_getElem? (i := 461) (by decide +kernel), List.mem_of_getElem? (i := 462) (by decide +kernel)⟩
theorem lw_p10 : lw_okq (⟨"PortraitRankModel", "readHall", "()I"⟩, 31) := ⟨⟨by decide +kernel, by decide +kernel⟩, List.mem_of_getElem? (i := 506) (by decide +kernel), List.mem_of_getElem? (i := 623) (by decide +kernel), List.mem_of_getElem? (i := 624) (by decide +kernel)⟩
theorem lw_p11 : lw_okq (⟨"PortraitRankModel", "readLayers", "()Z"⟩, 31) := ⟨⟨by decide +kernel, by decide +kernel⟩, List.mem_of_getElem? (i := 506) (by decide +kernel), List.mem_of_getElem? (i := 627) (by decide +kernel), List.mem_of_getElem? (i := 628) (by decide +kernel)⟩
theorem lw_p12 : lw_okq (⟨"PortraitRankModel", "figure", "(II)I"⟩, 31) := ⟨⟨by decide +kernel, by decide +kernel⟩, List.mem_of_getElem? (i := 506) (by decide +kernel), List.mem_of_getElem? (i := 631) (by decide +kernel), List.mem_of_getElem? (i := 632) (by decide +kernel)⟩
theorem lw_p13 : lw_okq (⟨"PortraitRankModel", "readOne", "()Z"⟩, 31) := ⟨⟨by decide +kernel, by decide +kernel⟩, List.mem_of_getElem? (i := 506) (by decide +kernel), List.mem_of_getElem? (i := 635) (by decide +kernel), List.mem_of_getElem? (i := 636) (by decide +kernel)⟩
theorem lw_p14 : lw_okq (⟨"PortraitRankModel", "layShown", "([I)V"⟩, 31) := ⟨⟨by decide +kernel, by decide +kernel⟩, List.mem_of_getElem? (i := 506) (by decide +kernel), List.mem_of_getElem? (i := 649) (by decide +kernel), List.mem_of_getElem? (i := 650) (by decide +kernel)⟩
theorem lw_p15 : lw_okq (⟨"PortraitRankModel", "calledOf", "(I)I"⟩, 31) := ⟨⟨by decide +kernel, by decide +kernel⟩, List.mem_of_getElem? (i := 506) (by decide +kernel), List.mem_of_getElem? (i := 656) (by decide +kernel), List.mem_of_getElem? (i := 657) (by decide +kernel)⟩
def lw_privs_1 : List (MethodName × Nat) := [(⟨"PortraitRank$Scene", "firstOf", "(I)I"⟩, 3), (⟨"PortraitRank", "hailedIn", "(LPortraitRank$Scene;)I"⟩, 11), (⟨"PortraitRank", "shown", "(I)I"⟩, 11), (⟨"PortraitRank", "remember", "()V"⟩, 11), (⟨"PortraitRank", "pass", "(LPortraitRank$Scene;)V"⟩, 11), (⟨"PortraitRank", "hailedBy", "(I)I"⟩, 11), (⟨"PortraitRank", "leastCleaning", "(II)I"⟩, 11), (⟨"PortraitRank", "attempt", "(LPortraitRank$Scene;II)Z"⟩, 11), (⟨"PortraitRank", "hailedWhenCome", "(I)I"⟩, 11), (⟨"PortraitRank", "isAsSeen", "(II)Z"⟩, 11), (⟨"PortraitRankModel", "readHall", "()I"⟩, 31), (⟨"PortraitRankModel", "readLayers", "()Z"⟩, 31), (⟨"PortraitRankModel", "figure", "(II)I"⟩, 31), (⟨"PortraitRankModel", "readOne", "()Z"⟩, 31), (⟨"PortraitRankModel", "layShown", "([I)V"⟩, 31), (⟨"PortraitRankModel", "calledOf", "(I)I"⟩, 31)]
theorem lw_r1 : ∀ q ∈ lw_privs_1, lw_okq q := List.forall_mem_cons.mpr ⟨lw_p0, List.forall_mem_cons.mpr ⟨lw_p1, List.forall_mem_cons.mpr ⟨lw_p2, List.forall_mem_cons.mpr ⟨lw_p3, List.forall_mem_cons.mpr ⟨lw_p4, List.forall_mem_cons.mpr ⟨lw_p5, List.forall_mem_cons.mpr ⟨lw_p6, List.forall_mem_cons.mpr ⟨lw_p7, List.forall_mem_cons.mpr ⟨lw_p8, List.forall_mem_cons.mpr ⟨lw_p9, List.forall_mem_cons.mpr ⟨lw_p10, List.forall_mem_cons.mpr ⟨lw_p11, List.forall_mem_cons.mpr ⟨lw_p12, List.forall_mem_cons.mpr ⟨lw_p13, List.forall_mem_cons.mpr ⟨lw_p14, List.forall_mem_cons.mpr ⟨lw_p15, fun _ h => absurd h List.not_mem_nil⟩⟩⟩⟩⟩⟩⟩⟩⟩⟩⟩⟩⟩⟩⟩⟩
theorem lw_p16 : lw_okq (⟨"PortraitRankModel", "isCalled", "(II)Z"⟩, 31) := ⟨⟨by decide +kernel, by decide +kernel⟩, List.mem_of_getElem? (i := 506) (by decide +kernel), List.mem_of_getElem? (i := 660) (by decide +kernel), List.mem_of_getElem? (i := 661) (by decide +kernel)⟩
theorem lw_p17 : lw_okq (⟨"PortraitRankModel", "noCabman", "(I)Z"⟩, 31) := ⟨⟨by decide +kernel, by decide +kernel⟩, List.mem_of_getElem? (i := 506) (by decide +kernel), List.mem_of_getElem? (i := 680) (by decide +kernel), List.mem_of_getElem? (i := 681) (by decide +kernel)⟩
theorem lw_p18 : lw_okq (⟨"PortraitRankModel", "note", "()V"⟩, 31) := ⟨⟨by decide +kernel, by decide +kernel⟩, List.mem_of_getElem? (i := 506) (by decide +kernel), List.mem_of_getElem? (i := 689) (by decide +kernel), List.mem_of_getElem? (i := 690) (by decide +kernel)⟩
theorem lw_p19 : lw_okq (⟨"PortraitRankModel", "goNight", "([I)V"⟩, 31) := ⟨⟨by decide +kernel, by decide +kernel⟩, List.mem_of_getElem? (i := 506) (by decide +kernel), List.mem_of_getElem? (i := 693) (by decide +kernel), List.mem_of_getElem? (i := 694) (by decide +kernel)⟩
theorem lw_p20 : lw_okq (⟨"PortraitRankModel", "layCleaning", "(I)Z"⟩, 31) := ⟨⟨by decide +kernel, by decide +kernel⟩, List.mem_of_getElem? (i := 506) (by decide +kernel), List.mem_of_getElem? (i := 720) (by decide +kernel), List.mem_of_getElem? (i := 721) (by decide +kernel)⟩
theorem lw_p21 : lw_okq (⟨"PortraitRankModel", "findBest", "()V"⟩, 31) := ⟨⟨by decide +kernel, by decide +kernel⟩, List.mem_of_getElem? (i := 506) (by decide +kernel), List.mem_of_getElem? (i := 732) (by decide +kernel), List.mem_of_getElem? (i := 733) (by decide +kernel)⟩
theorem lw_p22 : lw_okq (⟨"PortraitRankModel", "findStrokes", "(I)V"⟩, 31) := ⟨⟨by decide +kernel, by decide +kernel⟩, List.mem_of_getElem? (i := 506) (by decide +kernel), List.mem_of_getElem? (i := 749) (by decide +kernel), List.mem_of_getElem? (i := 750) (by decide +kernel)⟩
theorem lw_p23 : lw_okq (⟨"PortraitRankModel", "begin", "()V"⟩, 31) := ⟨⟨by decide +kernel, by decide +kernel⟩, List.mem_of_getElem? (i := 506) (by decide +kernel), List.mem_of_getElem? (i := 761) (by decide +kernel), List.mem_of_getElem? (i := 762) (by decide +kernel)⟩
theorem lw_p24 : lw_okq (⟨"PortraitRankModel", "does", "(I)Z"⟩, 31) := ⟨⟨by decide +kernel, by decide +kernel⟩, List.mem_of_getElem? (i := 506) (by decide +kernel), List.mem_of_getElem? (i := 775) (by decide +kernel), List.mem_of_getElem? (i := 776) (by decide +kernel)⟩
theorem lw_p25 : lw_okq (⟨"PortraitRankModel", "findUnder", "(I)V"⟩, 31) := ⟨⟨by decide +kernel, by decide +kernel⟩, List.mem_of_getElem? (i := 506) (by decide +kernel), List.mem_of_getElem? (i := 804) (by decide +kernel), List.mem_of_getElem? (i := 805) (by decide +kernel)⟩
theorem lw_p26 : lw_okq (⟨"PortraitRankModel", "findRests", "(II)V"⟩, 31) := ⟨⟨by decide +kernel, by decide +kernel⟩, List.mem_of_getElem? (i := 506) (by decide +kernel), List.mem_of_getElem? (i := 812) (by decide +kernel), List.mem_of_getElem? (i := 813) (by decide +kernel)⟩
theorem lw_p27 : lw_okq (⟨"PortraitRankModel", "gainOf", "(III)I"⟩, 31) := ⟨⟨by decide +kernel, by decide +kernel⟩, List.mem_of_getElem? (i := 506) (by decide +kernel), List.mem_of_getElem? (i := 816) (by decide +kernel), List.mem_of_getElem? (i := 817) (by decide +kernel)⟩
def lw_privs_2 : List (MethodName × Nat) := [(⟨"PortraitRankModel", "isCalled", "(II)Z"⟩, 31), (⟨"PortraitRankModel", "noCabman", "(I)Z"⟩, 31), (⟨"PortraitRankModel", "note", "()V"⟩, 31), (⟨"PortraitRankModel", "goNight", "([I)V"⟩, 31), (⟨"PortraitRankModel", "layCleaning", "(I)Z"⟩, 31), (⟨"PortraitRankModel", "findBest", "()V"⟩, 31), (⟨"PortraitRankModel", "findStrokes", "(I)V"⟩, 31), (⟨"PortraitRankModel", "begin", "()V"⟩, 31), (⟨"PortraitRankModel", "does", "(I)Z"⟩, 31), (⟨"PortraitRankModel", "findUnder", "(I)V"⟩, 31), (⟨"PortraitRankModel", "findRests", "(II)V"⟩, 31), (⟨"PortraitRankModel", "gainOf", "(III)I"⟩, 31)]
theorem lw_r2 : ∀ q ∈ lw_privs_2, lw_okq q := List.forall_mem_cons.mpr ⟨lw_p16, List.forall_mem_cons.mpr ⟨lw_p17, List.forall_mem_cons.mpr ⟨lw_p18, List.forall_mem_cons.mpr ⟨lw_p19, List.forall_mem_cons.mpr ⟨lw_p20, List.forall_mem_cons.mpr ⟨lw_p21, List.forall_mem_cons.mpr ⟨lw_p22, List.forall_mem_cons.mpr ⟨lw_p23, List.forall_mem_cons.mpr ⟨lw_p24, List.forall_mem_cons.mpr ⟨lw_p25, List.forall_mem_cons.mpr ⟨lw_p26, List.forall_mem_cons.mpr ⟨lw_p27, fun _ h => absurd h List.not_mem_nil⟩⟩⟩⟩⟩⟩⟩⟩⟩⟩⟩⟩
def lw_privs : List (MethodName × Nat) := lw_privs_1 ++ (lw_privs_2)
def lw_tbl : List Cond := k2_sels lw_privs ++ tables_1
theorem lw_privs_ok : ∀ q ∈ lw_privs, lw_okq q := by
  show ∀ q ∈ lw_privs_1 ++ (lw_privs_2), lw_okq q
  exact List.forall_mem_append.mpr ⟨lw_r1, lw_r2⟩
/-- the words that every method's contract carries -/
def gt : List Cond := lw_tbl.filter goodWord
theorem gt_in {w : Cond} (i : Nat) (h : lw_tbl[i]? = some w) (hg : goodWord w = true) : w ∈ gt := List.mem_filter.mpr ⟨List.mem_of_getElem? h, hg⟩
theorem gt_lw {w : Cond} (h : w ∈ gt) : w ∈ lw_tbl := (List.mem_filter.mp h).1
theorem gt_good {w : Cond} (h : w ∈ gt) : (w.onTables && w.keeps) = true ∨ ∃ ty, w = .arrayClass ty := good_of_word (List.mem_filter.mp h).2
def nw_is : Cond → Bool
  | .fieldLinkNest .. => true
  | .methodLinkNest .. => true
  | _ => false
def nwl : List Cond := lw_tbl.filter nw_is
theorem nw_in {w : Cond} (i : Nat) (h : lw_tbl[i]? = some w) (hg : nw_is w = true) : w ∈ nwl := List.mem_filter.mpr ⟨List.mem_of_getElem? h, hg⟩
/-- the nest mates' words, at a state -/
def NW (U : State) : Prop := ∀ w ∈ nwl, va_Nw w U
theorem NW.warm {s U : State} (hW : s.WarmedH U.vm) (h : NW s) : NW U := by
  intro w hw
  have h1 := h w hw
  have h2 := (List.mem_filter.mp hw).2
  cases w <;> first | exact va_Nw.warmF hW h1 | exact va_Nw.warmM hW h1 | exact absurd h2 (by simp [nw_is])
end
section
def R_PR : String := "PortraitRank"
def R_PM : String := "PortraitRankModel"
def R_Hall : String := "PortraitRank$Hall"
def R_Hand : String := "PortraitRank$Hand"
def R_Scene : String := "PortraitRank$Scene"
def R_Seen : String := "PortraitRank$Seen"
def R_Shelf : String := "PortraitRank$Shelf"
def R_Text : String := "PortraitRank$Text"
def R_Law : String := "PortraitRankLaw"
def R_Int : String := "java/lang/Integer"
def R_Math : String := "java/lang/Math"
def R_Sys : String := "java/lang/System"
def R_Arr : String := "java/util/Arrays"
def R_Obj : String := "java/lang/Object"
def F_Hall : u_T := fun k => match k with
  | 0 => ("PortraitRank$Hall", "layers", "[I", true)
  | 1 => ("PortraitRank$Hall", "kinds", "[I", true)
  | 2 => ("PortraitRank$Hall", "patiences", "[I", true)
  | 3 => ("PortraitRank$Hall", "wanted", "[I", true)
  | _ => ("PortraitRank$Hall", "count", "I", false)
def t_Hall : Nat → FieldType := fun k => match k with
  | 0 => .array .int
  | 1 => .array .int
  | 2 => .array .int
  | 3 => .array .int
  | _ => .int
theorem n_Hall : ∀ a, a < 5 → ∀ b, b < 5 → a ≠ b → (F_Hall a).2.1 ≠ (F_Hall b).2.1 := by decide +kernel
theorem t_Hall_ok : ∀ k, k < 5 → parseFieldDescriptor (F_Hall k).2.2.1 = some (t_Hall k) := by decide +kernel
theorem i_Hall : ∀ w ∈ u_ws R_Hall F_Hall 5, w ∈ gt := by
  intro w hw
  obtain ⟨k, hk, rfl⟩ := List.mem_map.mp hw
  have hk := List.mem_range.mp hk
  rcases (show k = 0 ∨ k = 1 ∨ k = 2 ∨ k = 3 ∨ k = 4 by omega) with rfl | rfl | rfl | rfl | rfl
  · exact gt_in 78 (by decide +kernel) (by decide +kernel)
  · exact gt_in 80 (by decide +kernel) (by decide +kernel)
  · exact gt_in 82 (by decide +kernel) (by decide +kernel)
  · exact gt_in 84 (by decide +kernel) (by decide +kernel)
  · exact gt_in 86 (by decide +kernel) (by decide +kernel)
def F_Hand : u_T := fun k => match k with
  | _ => ("PortraitRank$Hand", "shown", "[I", true)
def t_Hand : Nat → FieldType := fun k => match k with
  | _ => .array .int
theorem n_Hand : ∀ a, a < 1 → ∀ b, b < 1 → a ≠ b → (F_Hand a).2.1 ≠ (F_Hand b).2.1 := by decide +kernel
theorem t_Hand_ok : ∀ k, k < 1 → parseFieldDescriptor (F_Hand k).2.2.1 = some (t_Hand k) := by decide +kernel
theorem i_Hand : ∀ w ∈ u_ws R_Hand F_Hand 1, w ∈ gt := by
  intro w hw
  obtain ⟨k, hk, rfl⟩ := List.mem_map.mp hw
  have hk := List.mem_range.mp hk
  rcases (show k = 0 by omega) with rfl
  · exact gt_in 119 (by decide +kernel) (by decide +kernel)
def F_Scene : u_T := fun k => match k with
  | 0 => ("PortraitRank$Scene", "off", "[I", true)
  | 1 => ("PortraitRank$Scene", "waited", "[I", true)
  | _ => ("PortraitRank$Scene", "nights", "I", false)
def t_Scene : Nat → FieldType := fun k => match k with
  | 0 => .array .int
  | 1 => .array .int
  | _ => .int
theorem n_Scene : ∀ a, a < 3 → ∀ b, b < 3 → a ≠ b → (F_Scene a).2.1 ≠ (F_Scene b).2.1 := by decide +kernel
theorem t_Scene_ok : ∀ k, k < 3 → parseFieldDescriptor (F_Scene k).2.2.1 = some (t_Scene k) := by decide +kernel
theorem i_Scene : ∀ w ∈ u_ws R_Scene F_Scene 3, w ∈ gt := by
  intro w hw
  obtain ⟨k, hk, rfl⟩ := List.mem_map.mp hw
  have hk := List.mem_range.mp hk
  rcases (show k = 0 ∨ k = 1 ∨ k = 2 by omega) with rfl | rfl | rfl
  · exact gt_in 105 (by decide +kernel) (by decide +kernel)
  · exact gt_in 107 (by decide +kernel) (by decide +kernel)
  · exact gt_in 109 (by decide +kernel) (by decide +kernel)
def F_Seen : u_T := fun k => match k with
  | 0 => ("PortraitRank$Seen", "rows", "[I", true)
  | _ => ("PortraitRank$Seen", "count", "I", false)
def t_Seen : Nat → FieldType := fun k => match k with
  | 0 => .array .int
  | _ => .int
theorem n_Seen : ∀ a, a < 2 → ∀ b, b < 2 → a ≠ b → (F_Seen a).2.1 ≠ (F_Seen b).2.1 := by decide +kernel
theorem t_Seen_ok : ∀ k, k < 2 → parseFieldDescriptor (F_Seen k).2.2.1 = some (t_Seen k) := by decide +kernel
theorem i_Seen : ∀ w ∈ u_ws R_Seen F_Seen 2, w ∈ gt := by
  intro w hw
  obtain ⟨k, hk, rfl⟩ := List.mem_map.mp hw
  have hk := List.mem_range.mp hk
  rcases (show k = 0 ∨ k = 1 by omega) with rfl | rfl
  · exact gt_in 147 (by decide +kernel) (by decide +kernel)
  · exact gt_in 149 (by decide +kernel) (by decide +kernel)
def F_Shelf : u_T := fun k => match k with
  | 0 => ("PortraitRank$Shelf", "places", "I", true)
  | _ => ("PortraitRank$Shelf", "cells", "[I", true)
def t_Shelf : Nat → FieldType := fun k => match k with
  | 0 => .int
  | _ => .array .int
theorem n_Shelf : ∀ a, a < 2 → ∀ b, b < 2 → a ≠ b → (F_Shelf a).2.1 ≠ (F_Shelf b).2.1 := by decide +kernel
theorem t_Shelf_ok : ∀ k, k < 2 → parseFieldDescriptor (F_Shelf k).2.2.1 = some (t_Shelf k) := by decide +kernel
theorem i_Shelf : ∀ w ∈ u_ws R_Shelf F_Shelf 2, w ∈ gt := by
  intro w hw
  obtain ⟨k, hk, rfl⟩ := List.mem_map.mp hw
  have hk := List.mem_range.mp hk
  rcases (show k = 0 ∨ k = 1 by omega) with rfl | rfl
  · exact gt_in 133 (by decide +kernel) (by decide +kernel)
  · exact gt_in 135 (by decide +kernel) (by decide +kernel)
def F_Text : u_T := fun k => match k with
  | 0 => ("PortraitRank$Text", "letters", "[I", true)
  | _ => ("PortraitRank$Text", "length", "I", false)
def t_Text : Nat → FieldType := fun k => match k with
  | 0 => .array .int
  | _ => .int
theorem n_Text : ∀ a, a < 2 → ∀ b, b < 2 → a ≠ b → (F_Text a).2.1 ≠ (F_Text b).2.1 := by decide +kernel
theorem t_Text_ok : ∀ k, k < 2 → parseFieldDescriptor (F_Text k).2.2.1 = some (t_Text k) := by decide +kernel
theorem i_Text : ∀ w ∈ u_ws R_Text F_Text 2, w ∈ gt := by
  intro w hw
  obtain ⟨k, hk, rfl⟩ := List.mem_map.mp hw
  have hk := List.mem_range.mp hk
  rcases (show k = 0 ∨ k = 1 by omega) with rfl | rfl
  · exact gt_in 59 (by decide +kernel) (by decide +kernel)
  · exact gt_in 61 (by decide +kernel) (by decide +kernel)
def F_PR : u_T := fun k => match k with
  | 0 => ("PortraitRank", "text", "LPortraitRank$Text;", true)
  | 1 => ("PortraitRank", "hall", "LPortraitRank$Hall;", true)
  | 2 => ("PortraitRank", "now", "LPortraitRank$Scene;", true)
  | 3 => ("PortraitRank", "trial", "LPortraitRank$Scene;", true)
  | 4 => ("PortraitRank", "hand", "LPortraitRank$Hand;", true)
  | 5 => ("PortraitRank", "acts", "LPortraitRank$Shelf;", true)
  | 6 => ("PortraitRank", "slots", "LPortraitRank$Shelf;", true)
  | 7 => ("PortraitRank", "seen", "LPortraitRank$Seen;", true)
  | 8 => ("PortraitRank", "actCount", "I", false)
  | 9 => ("PortraitRank", "slotsKept", "I", false)
  | _ => ("PortraitRank", "seed", "J", false)
def t_PR : Nat → FieldType := fun k => match k with
  | 0 => .object "PortraitRank$Text"
  | 1 => .object "PortraitRank$Hall"
  | 2 => .object "PortraitRank$Scene"
  | 3 => .object "PortraitRank$Scene"
  | 4 => .object "PortraitRank$Hand"
  | 5 => .object "PortraitRank$Shelf"
  | 6 => .object "PortraitRank$Shelf"
  | 7 => .object "PortraitRank$Seen"
  | 8 => .int
  | 9 => .int
  | _ => .long
theorem n_PR : ∀ a, a < 11 → ∀ b, b < 11 → a ≠ b → (F_PR a).2.1 ≠ (F_PR b).2.1 := by decide +kernel
theorem t_PR_ok : ∀ k, k < 11 → parseFieldDescriptor (F_PR k).2.2.1 = some (t_PR k) := by decide +kernel
theorem i_PR : ∀ w ∈ u_ws R_PR F_PR 11, w ∈ gt := by
  intro w hw
  obtain ⟨k, hk, rfl⟩ := List.mem_map.mp hw
  have hk := List.mem_range.mp hk
  rcases (show k = 0 ∨ k = 1 ∨ k = 2 ∨ k = 3 ∨ k = 4 ∨ k = 5 ∨ k = 6 ∨ k = 7 ∨ k = 8 ∨ k = 9 ∨ k = 10 by omega) with rfl | rfl | rfl | rfl | rfl | rfl | rfl | rfl | rfl | rfl | rfl
  · exact gt_in 163 (by decide +kernel) (by decide +kernel)
  · exact gt_in 165 (by decide +kernel) (by decide +kernel)
  · exact gt_in 167 (by decide +kernel) (by decide +kernel)
  · exact gt_in 169 (by decide +kernel) (by decide +kernel)
  · exact gt_in 171 (by decide +kernel) (by decide +kernel)
  · exact gt_in 173 (by decide +kernel) (by decide +kernel)
  · exact gt_in 175 (by decide +kernel) (by decide +kernel)
  · exact gt_in 177 (by decide +kernel) (by decide +kernel)
  · exact gt_in 179 (by decide +kernel) (by decide +kernel)
  · exact gt_in 181 (by decide +kernel) (by decide +kernel)
  · exact gt_in 183 (by decide +kernel) (by decide +kernel)
def F_PM : u_T := fun k => match k with
  | 0 => ("PortraitRankModel", "thrown", "I", false)
  | 1 => ("PortraitRankModel", "text", "[I", true)
  | 2 => ("PortraitRankModel", "textSize", "I", false)
  | 3 => ("PortraitRankModel", "place", "I", false)
  | 4 => ("PortraitRankModel", "layer", "[I", true)
  | 5 => ("PortraitRankModel", "cabmen", "I", false)
  | 6 => ("PortraitRankModel", "cabman", "[I", true)
  | 7 => ("PortraitRankModel", "readLayer", "[I", true)
  | 8 => ("PortraitRankModel", "readCabmen", "I", false)
  | 9 => ("PortraitRankModel", "readCabman", "[I", true)
  | 10 => ("PortraitRankModel", "page", "[I", true)
  | 11 => ("PortraitRankModel", "trial", "[I", true)
  | 12 => ("PortraitRankModel", "book", "[I", true)
  | 13 => ("PortraitRankModel", "acts", "I", false)
  | 14 => ("PortraitRankModel", "kept", "[I", true)
  | 15 => ("PortraitRankModel", "isKept", "[Z", true)
  | 16 => ("PortraitRankModel", "seen", "I", false)
  | 17 => ("PortraitRankModel", "seenCabman", "[I", true)
  | 18 => ("PortraitRankModel", "seenFinger", "[I", true)
  | 19 => ("PortraitRankModel", "seenOff", "[I", true)
  | 20 => ("PortraitRankModel", "seenCame", "[I", true)
  | 21 => ("PortraitRankModel", "seed", "J", false)
  | 22 => ("PortraitRankModel", "bestCleaning", "I", false)
  | 23 => ("PortraitRankModel", "bestLayers", "I", false)
  | 24 => ("PortraitRankModel", "bestMany", "I", false)
  | 25 => ("PortraitRankModel", "underMany", "I", false)
  | 26 => ("PortraitRankModel", "underLeast", "I", false)
  | 27 => ("PortraitRankModel", "restMany", "I", false)
  | 28 => ("PortraitRankModel", "restFirst", "I", false)
  | 29 => ("PortraitRankModel", "value", "[I", true)
  | _ => ("PortraitRankModel", "shows", "[I", true)
def t_PM : Nat → FieldType := fun k => match k with
  | 0 => .int
  | 1 => .array .int
  | 2 => .int
  | 3 => .int
  | 4 => .array .int
  | 5 => .int
  | 6 => .array .int
  | 7 => .array .int
  | 8 => .int
  | 9 => .array .int
  | 10 => .array .int
  | 11 => .array .int
  | 12 => .array .int
  | 13 => .int
  | 14 => .array .int
  | 15 => .array .boolean
  | 16 => .int
  | 17 => .array .int
  | 18 => .array .int
  | 19 => .array .int
  | 20 => .array .int
  | 21 => .long
  | 22 => .int
  | 23 => .int
  | 24 => .int
  | 25 => .int
  | 26 => .int
  | 27 => .int
  | 28 => .int
  | 29 => .array .int
  | _ => .array .int
theorem n_PM : ∀ a, a < 31 → ∀ b, b < 31 → a ≠ b → (F_PM a).2.1 ≠ (F_PM b).2.1 := by decide +kernel
theorem t_PM_ok : ∀ k, k < 31 → parseFieldDescriptor (F_PM k).2.2.1 = some (t_PM k) := by decide +kernel
theorem i_PM : ∀ w ∈ u_ws R_PM F_PM 31, w ∈ gt := by
  intro w hw
  obtain ⟨k, hk, rfl⟩ := List.mem_map.mp hw
  have hk := List.mem_range.mp hk
  rcases (show k = 0 ∨ k = 1 ∨ k = 2 ∨ k = 3 ∨ k = 4 ∨ k = 5 ∨ k = 6 ∨ k = 7 ∨ k = 8 ∨ k = 9 ∨ k = 10 ∨ k = 11 ∨ k = 12 ∨ k = 13 ∨ k = 14 ∨ k = 15 ∨ k = 16 ∨ k = 17 ∨ k = 18 ∨ k = 19 ∨ k = 20 ∨ k = 21 ∨ k = 22 ∨ k = 23 ∨ k = 24 ∨ k = 25 ∨ k = 26 ∨ k = 27 ∨ k = 28 ∨ k = 29 ∨ k = 30 by omega) with rfl | rfl | rfl | rfl | rfl | rfl | rfl | rfl | rfl | rfl | rfl | rfl | rfl | rfl | rfl | rfl | rfl | rfl | rfl | rfl | rfl | rfl | rfl | rfl | rfl | rfl | rfl | rfl | rfl | rfl | rfl
  · exact gt_in 570 (by decide +kernel) (by decide +kernel)
  · exact gt_in 572 (by decide +kernel) (by decide +kernel)
  · exact gt_in 574 (by decide +kernel) (by decide +kernel)
  · exact gt_in 576 (by decide +kernel) (by decide +kernel)
  · exact gt_in 578 (by decide +kernel) (by decide +kernel)
  · exact gt_in 580 (by decide +kernel) (by decide +kernel)
  · exact gt_in 582 (by decide +kernel) (by decide +kernel)
  · exact gt_in 584 (by decide +kernel) (by decide +kernel)
  · exact gt_in 586 (by decide +kernel) (by decide +kernel)
  · exact gt_in 588 (by decide +kernel) (by decide +kernel)
  · exact gt_in 590 (by decide +kernel) (by decide +kernel)
  · exact gt_in 592 (by decide +kernel) (by decide +kernel)
  · exact gt_in 594 (by decide +kernel) (by decide +kernel)
  · exact gt_in 596 (by decide +kernel) (by decide +kernel)
  · exact gt_in 598 (by decide +kernel) (by decide +kernel)
  · exact gt_in 600 (by decide +kernel) (by decide +kernel)
  · exact gt_in 602 (by decide +kernel) (by decide +kernel)
  · exact gt_in 604 (by decide +kernel) (by decide +kernel)
  · exact gt_in 606 (by decide +kernel) (by decide +kernel)
  · exact gt_in 608 (by decide +kernel) (by decide +kernel)
  · exact gt_in 610 (by decide +kernel) (by decide +kernel)
  · exact gt_in 612 (by decide +kernel) (by decide +kernel)
  · exact gt_in 614 (by decide +kernel) (by decide +kernel)
  · exact gt_in 616 (by decide +kernel) (by decide +kernel)
  · exact gt_in 618 (by decide +kernel) (by decide +kernel)
  · exact gt_in 620 (by decide +kernel) (by decide +kernel)
  · exact gt_in 622 (by decide +kernel) (by decide +kernel)
  · exact gt_in 624 (by decide +kernel) (by decide +kernel)
  · exact gt_in 626 (by decide +kernel) (by decide +kernel)
  · exact gt_in 628 (by decide +kernel) (by decide +kernel)
  · exact gt_in 630 (by decide +kernel) (by decide +kernel)
abbrev classes : List vw_C := [(R_Hall, F_Hall, 5), (R_Hand, F_Hand, 1), (R_Scene, F_Scene, 3), (R_Seen, F_Seen, 2), (R_Shelf, F_Shelf, 2), (R_Text, F_Text, 2), (R_PR, F_PR, 11), (R_PM, F_PM, 31)]
abbrev b_PR_init : ByteArray := prog_1_method_1_code
def y_PR_init : MethodName := ⟨R_PR, "<init>", "()V"⟩
abbrev b_PR_about : ByteArray := prog_1_method_6_code
def y_PR_about : MethodName := ⟨R_PR, "about", "(I)I"⟩
abbrev b_PR_again : ByteArray := prog_1_method_30_code
def y_PR_again : MethodName := ⟨R_PR, "again", "(I)I"⟩
abbrev b_PR_asCleaning : ByteArray := prog_1_method_38_code
def y_PR_asCleaning : MethodName := ⟨R_PR, "asCleaning", "(I)I"⟩
abbrev b_PR_attempt : ByteArray := prog_1_method_43_code
def y_PR_attempt : MethodName := ⟨R_PR, "attempt", "(LPortraitRank$Scene;II)Z"⟩
abbrev b_PR_best : ByteArray := prog_1_method_15_code
def y_PR_best : MethodName := ⟨R_PR, "best", "(I)I"⟩
abbrev b_PR_cabman : ByteArray := prog_1_method_8_code
def y_PR_cabman : MethodName := ⟨R_PR, "cabman", "(II)I"⟩
abbrev b_PR_call : ByteArray := prog_1_method_14_code
def y_PR_call : MethodName := ⟨R_PR, "call", "(I)I"⟩
abbrev b_PR_clean : ByteArray := prog_1_method_10_code
def y_PR_clean : MethodName := ⟨R_PR, "clean", "(I)I"⟩
abbrev b_PR_doingAt : ByteArray := prog_1_method_42_code
def y_PR_doingAt : MethodName := ⟨R_PR, "doingAt", "(III)I"⟩
abbrev b_PR_fault : ByteArray := prog_1_method_4_code
def y_PR_fault : MethodName := ⟨R_PR, "fault", "()I"⟩
abbrev b_PR_finger : ByteArray := prog_1_method_7_code
def y_PR_finger : MethodName := ⟨R_PR, "finger", "(II)I"⟩
abbrev b_PR_fraction : ByteArray := prog_1_method_50_code
def y_PR_fraction : MethodName := ⟨R_PR, "fraction", "(IIZ)I"⟩
abbrev b_PR_gain : ByteArray := prog_1_method_49_code
def y_PR_gain : MethodName := ⟨R_PR, "gain", "(III)I"⟩
abbrev b_PR_givesUp : ByteArray := prog_1_method_18_code
def y_PR_givesUp : MethodName := ⟨R_PR, "givesUp", "(I)I"⟩
abbrev b_PR_hailedBy : ByteArray := prog_1_method_37_code
def y_PR_hailedBy : MethodName := ⟨R_PR, "hailedBy", "(I)I"⟩
abbrev b_PR_hailedIn : ByteArray := prog_1_method_35_code
def y_PR_hailedIn : MethodName := ⟨R_PR, "hailedIn", "(LPortraitRank$Scene;)I"⟩
abbrev b_PR_hailedWhenCome : ByteArray := prog_1_method_44_code
def y_PR_hailedWhenCome : MethodName := ⟨R_PR, "hailedWhenCome", "(I)I"⟩
abbrev b_PR_hall : ByteArray := prog_1_method_5_code
def y_PR_hall : MethodName := ⟨R_PR, "hall", "()I"⟩
abbrev b_PR_isAsSeen : ByteArray := prog_1_method_46_code
def y_PR_isAsSeen : MethodName := ⟨R_PR, "isAsSeen", "(II)Z"⟩
abbrev b_PR_isBestWait : ByteArray := prog_1_method_48_code
def y_PR_isBestWait : MethodName := ⟨R_PR, "isBestWait", "(III)Z"⟩
abbrev b_PR_isFinger : ByteArray := prog_1_method_31_code
def y_PR_isFinger : MethodName := ⟨R_PR, "isFinger", "(I)Z"⟩
abbrev b_PR_isOneOfTwo : ByteArray := prog_1_method_32_code
def y_PR_isOneOfTwo : MethodName := ⟨R_PR, "isOneOfTwo", "(I)Z"⟩
abbrev b_PR_judge : ByteArray := prog_1_method_20_code
def y_PR_judge : MethodName := ⟨R_PR, "judge", "(II)I"⟩
abbrev b_PR_keep : ByteArray := prog_1_method_29_code
def y_PR_keep : MethodName := ⟨R_PR, "keep", "(I)I"⟩
abbrev b_PR_layerOfRow : ByteArray := prog_1_method_47_code
def y_PR_layerOfRow : MethodName := ⟨R_PR, "layerOfRow", "(II)I"⟩
abbrev b_PR_layersOf : ByteArray := prog_1_method_39_code
def y_PR_layersOf : MethodName := ⟨R_PR, "layersOf", "(I)I"⟩
abbrev b_PR_leastCleaning : ByteArray := prog_1_method_40_code
def y_PR_leastCleaning : MethodName := ⟨R_PR, "leastCleaning", "(II)I"⟩
abbrev b_PR_longest : ByteArray := prog_1_method_19_code
def y_PR_longest : MethodName := ⟨R_PR, "longest", "(I)I"⟩
abbrev b_PR_night : ByteArray := prog_1_method_9_code
def y_PR_night : MethodName := ⟨R_PR, "night", "()I"⟩
abbrev b_PR_ordersBehind : ByteArray := prog_1_method_45_code
def y_PR_ordersBehind : MethodName := ⟨R_PR, "ordersBehind", "(I)I"⟩
abbrev b_PR_paint : ByteArray := prog_1_method_11_code
def y_PR_paint : MethodName := ⟨R_PR, "paint", "(I)I"⟩
abbrev b_PR_pass : ByteArray := prog_1_method_36_code
def y_PR_pass : MethodName := ⟨R_PR, "pass", "(LPortraitRank$Scene;)V"⟩
abbrev b_PR_peace : ByteArray := prog_1_method_17_code
def y_PR_peace : MethodName := ⟨R_PR, "peace", "(I)I"⟩
abbrev b_PR_remember : ByteArray := prog_1_method_34_code
def y_PR_remember : MethodName := ⟨R_PR, "remember", "()V"⟩
abbrev b_PR_rests : ByteArray := prog_1_method_25_code
def y_PR_rests : MethodName := ⟨R_PR, "rests", "(III)I"⟩
abbrev b_PR_see : ByteArray := prog_1_method_22_code
def y_PR_see : MethodName := ⟨R_PR, "see", "(IIII)I"⟩
abbrev b_PR_seed : ByteArray := prog_1_method_27_code
def y_PR_seed : MethodName := ⟨R_PR, "seed", "(J)J"⟩
abbrev b_PR_send : ByteArray := prog_1_method_12_code
def y_PR_send : MethodName := ⟨R_PR, "send", "()I"⟩
abbrev b_PR_share : ByteArray := prog_1_method_21_code
def y_PR_share : MethodName := ⟨R_PR, "share", "(IZ)I"⟩
abbrev b_PR_shown : ByteArray := prog_1_method_33_code
def y_PR_shown : MethodName := ⟨R_PR, "shown", "(I)I"⟩
abbrev b_PR_strokes : ByteArray := prog_1_method_16_code
def y_PR_strokes : MethodName := ⟨R_PR, "strokes", "(II)I"⟩
abbrev b_PR_tellCleaning : ByteArray := prog_1_method_41_code
def y_PR_tellCleaning : MethodName := ⟨R_PR, "tellCleaning", "(II)I"⟩
abbrev b_PR_under : ByteArray := prog_1_method_24_code
def y_PR_under : MethodName := ⟨R_PR, "under", "(II)I"⟩
abbrev b_PR_undo : ByteArray := prog_1_method_13_code
def y_PR_undo : MethodName := ⟨R_PR, "undo", "()I"⟩
abbrev b_PR_unsee : ByteArray := prog_1_method_23_code
def y_PR_unsee : MethodName := ⟨R_PR, "unsee", "()I"⟩
abbrev b_PR_wet : ByteArray := prog_1_method_26_code
def y_PR_wet : MethodName := ⟨R_PR, "wet", "(IIZ)I"⟩
abbrev b_PR_wipe : ByteArray := prog_1_method_3_code
def y_PR_wipe : MethodName := ⟨R_PR, "wipe", "()I"⟩
abbrev b_PR_write : ByteArray := prog_1_method_2_code
def y_PR_write : MethodName := ⟨R_PR, "write", "(I)I"⟩
abbrev b_PR_years : ByteArray := prog_1_method_28_code
def y_PR_years : MethodName := ⟨R_PR, "years", "(I)I"⟩
abbrev b_Hall_init : ByteArray := prog_2_method_1_code
def y_Hall_init : MethodName := ⟨R_Hall, "<init>", "()V"⟩
abbrev b_Hall_has : ByteArray := prog_2_method_3_code
def y_Hall_has : MethodName := ⟨R_Hall, "has", "(I)Z"⟩
abbrev b_Hall_kind : ByteArray := prog_2_method_5_code
def y_Hall_kind : MethodName := ⟨R_Hall, "kind", "(I)I"⟩
abbrev b_Hall_layer : ByteArray := prog_2_method_4_code
def y_Hall_layer : MethodName := ⟨R_Hall, "layer", "(II)I"⟩
abbrev b_Hall_patience : ByteArray := prog_2_method_6_code
def y_Hall_patience : MethodName := ⟨R_Hall, "patience", "(I)I"⟩
abbrev b_Hall_read : ByteArray := prog_2_method_2_code
def y_Hall_read : MethodName := ⟨R_Hall, "read", "(LPortraitRank$Text;)V"⟩
abbrev b_Hall_wanted : ByteArray := prog_2_method_7_code
def y_Hall_wanted : MethodName := ⟨R_Hall, "wanted", "(II)I"⟩
abbrev b_Hand_init : ByteArray := prog_3_method_1_code
def y_Hand_init : MethodName := ⟨R_Hand, "<init>", "()V"⟩
abbrev b_Hand_hailed : ByteArray := prog_3_method_4_code
def y_Hand_hailed : MethodName := ⟨R_Hand, "hailed", "(LPortraitRank$Hall;)I"⟩
abbrev b_Hand_hails : ByteArray := prog_3_method_5_code
def y_Hand_hails : MethodName := ⟨R_Hand, "hails", "(LPortraitRank$Hall;I)Z"⟩
abbrev b_Hand_show : ByteArray := prog_3_method_2_code
def y_Hand_show : MethodName := ⟨R_Hand, "show", "(II)V"⟩
abbrev b_Hand_showAll : ByteArray := prog_3_method_3_code
def y_Hand_showAll : MethodName := ⟨R_Hand, "showAll", "(LPortraitRank$Hall;LPortraitRank$Scene;)V"⟩
abbrev b_Scene_init : ByteArray := prog_4_method_1_code
def y_Scene_init : MethodName := ⟨R_Scene, "<init>", "()V"⟩
abbrev b_Scene_canPutOn : ByteArray := prog_4_method_7_code
def y_Scene_canPutOn : MethodName := ⟨R_Scene, "canPutOn", "(I)Z"⟩
abbrev b_Scene_canTakeOff : ByteArray := prog_4_method_5_code
def y_Scene_canTakeOff : MethodName := ⟨R_Scene, "canTakeOff", "(I)Z"⟩
abbrev b_Scene_copy : ByteArray := prog_4_method_3_code
def y_Scene_copy : MethodName := ⟨R_Scene, "copy", "(LPortraitRank$Scene;)V"⟩
abbrev b_Scene_empty : ByteArray := prog_4_method_2_code
def y_Scene_empty : MethodName := ⟨R_Scene, "empty", "()V"⟩
abbrev b_Scene_first : ByteArray := prog_4_method_11_code
def y_Scene_first : MethodName := ⟨R_Scene, "first", "()I"⟩
abbrev b_Scene_firstOf : ByteArray := prog_4_method_12_code
def y_Scene_firstOf : MethodName := ⟨R_Scene, "firstOf", "(I)I"⟩
abbrev b_Scene_letGo : ByteArray := prog_4_method_14_code
def y_Scene_letGo : MethodName := ⟨R_Scene, "letGo", "(I)Z"⟩
abbrev b_Scene_off : ByteArray := prog_4_method_4_code
def y_Scene_off : MethodName := ⟨R_Scene, "off", "(I)I"⟩
abbrev b_Scene_pass : ByteArray := prog_4_method_15_code
def y_Scene_pass : MethodName := ⟨R_Scene, "pass", "(LPortraitRank$Hall;I)V"⟩
abbrev b_Scene_putOn : ByteArray := prog_4_method_8_code
def y_Scene_putOn : MethodName := ⟨R_Scene, "putOn", "(I)Z"⟩
abbrev b_Scene_rank : ByteArray := prog_4_method_13_code
def y_Scene_rank : MethodName := ⟨R_Scene, "rank", "()I"⟩
abbrev b_Scene_takeOff : ByteArray := prog_4_method_6_code
def y_Scene_takeOff : MethodName := ⟨R_Scene, "takeOff", "(I)Z"⟩
abbrev b_Scene_waited : ByteArray := prog_4_method_9_code
def y_Scene_waited : MethodName := ⟨R_Scene, "waited", "(I)I"⟩
abbrev b_Scene_waiting : ByteArray := prog_4_method_10_code
def y_Scene_waiting : MethodName := ⟨R_Scene, "waiting", "()I"⟩
abbrev b_Seen_init : ByteArray := prog_5_method_1_code
def y_Seen_init : MethodName := ⟨R_Seen, "<init>", "()V"⟩
abbrev b_Seen_add : ByteArray := prog_5_method_2_code
def y_Seen_add : MethodName := ⟨R_Seen, "add", "(IIII)Z"⟩
abbrev b_Seen_at : ByteArray := prog_5_method_3_code
def y_Seen_at : MethodName := ⟨R_Seen, "at", "(II)I"⟩
abbrev b_Shelf_init : ByteArray := prog_6_method_1_code
def y_Shelf_init : MethodName := ⟨R_Shelf, "<init>", "(I)V"⟩
abbrev b_Shelf_forgetFirst : ByteArray := prog_6_method_4_code
def y_Shelf_forgetFirst : MethodName := ⟨R_Shelf, "forgetFirst", "()V"⟩
abbrev b_Shelf_put : ByteArray := prog_6_method_2_code
def y_Shelf_put : MethodName := ⟨R_Shelf, "put", "(ILPortraitRank$Scene;)V"⟩
abbrev b_Shelf_take : ByteArray := prog_6_method_3_code
def y_Shelf_take : MethodName := ⟨R_Shelf, "take", "(ILPortraitRank$Scene;)V"⟩
abbrev b_Text_init : ByteArray := prog_7_method_1_code
def y_Text_init : MethodName := ⟨R_Text, "<init>", "()V"⟩
abbrev b_Text_append : ByteArray := prog_7_method_2_code
def y_Text_append : MethodName := ⟨R_Text, "append", "(I)Z"⟩
abbrev b_Text_figure : ByteArray := prog_7_method_3_code
def y_Text_figure : MethodName := ⟨R_Text, "figure", "(I)I"⟩
abbrev b_Text_firstFault : ByteArray := prog_7_method_4_code
def y_Text_firstFault : MethodName := ⟨R_Text, "firstFault", "()I"⟩
abbrev b_Text_fits : ByteArray := prog_7_method_5_code
def y_Text_fits : MethodName := ⟨R_Text, "fits", "(II)Z"⟩
abbrev b_PM_init : ByteArray := prog_9_method_1_code
def y_PM_init : MethodName := ⟨R_PM, "<init>", "()V"⟩
abbrev b_PM_about : ByteArray := prog_9_method_20_code
def y_PM_about : MethodName := ⟨R_PM, "about", "(I)I"⟩
abbrev b_PM_again : ByteArray := prog_9_method_61_code
def y_PM_again : MethodName := ⟨R_PM, "again", "(I)I"⟩
abbrev b_PM_begin : ByteArray := prog_9_method_31_code
def y_PM_begin : MethodName := ⟨R_PM, "begin", "()V"⟩
abbrev b_PM_best : ByteArray := prog_9_method_38_code
def y_PM_best : MethodName := ⟨R_PM, "best", "(I)I"⟩
abbrev b_PM_cabman : ByteArray := prog_9_method_22_code
def y_PM_cabman : MethodName := ⟨R_PM, "cabman", "(II)I"⟩
abbrev b_PM_call : ByteArray := prog_9_method_34_code
def y_PM_call : MethodName := ⟨R_PM, "call", "(I)I"⟩
abbrev b_PM_calledOf : ByteArray := prog_9_method_18_code
def y_PM_calledOf : MethodName := ⟨R_PM, "calledOf", "(I)I"⟩
abbrev b_PM_clean : ByteArray := prog_9_method_27_code
def y_PM_clean : MethodName := ⟨R_PM, "clean", "(I)I"⟩
abbrev b_PM_divisor : ByteArray := prog_9_method_47_code
def y_PM_divisor : MethodName := ⟨R_PM, "divisor", "(II)I"⟩
abbrev b_PM_does : ByteArray := prog_9_method_44_code
def y_PM_does : MethodName := ⟨R_PM, "does", "(I)Z"⟩
abbrev b_PM_fault : ByteArray := prog_9_method_14_code
def y_PM_fault : MethodName := ⟨R_PM, "fault", "()I"⟩
abbrev b_PM_figure : ByteArray := prog_9_method_10_code
def y_PM_figure : MethodName := ⟨R_PM, "figure", "(II)I"⟩
abbrev b_PM_figuresOf : ByteArray := prog_9_method_35_code
def y_PM_figuresOf : MethodName := ⟨R_PM, "figuresOf", "(I)I"⟩
abbrev b_PM_findBest : ByteArray := prog_9_method_37_code
def y_PM_findBest : MethodName := ⟨R_PM, "findBest", "()V"⟩
abbrev b_PM_findRests : ByteArray := prog_9_method_55_code
def y_PM_findRests : MethodName := ⟨R_PM, "findRests", "(II)V"⟩
abbrev b_PM_findStrokes : ByteArray := prog_9_method_39_code
def y_PM_findStrokes : MethodName := ⟨R_PM, "findStrokes", "(I)V"⟩
abbrev b_PM_findUnder : ByteArray := prog_9_method_52_code
def y_PM_findUnder : MethodName := ⟨R_PM, "findUnder", "(I)V"⟩
abbrev b_PM_finger : ByteArray := prog_9_method_21_code
def y_PM_finger : MethodName := ⟨R_PM, "finger", "(II)I"⟩
abbrev b_PM_fraction : ByteArray := prog_9_method_48_code
def y_PM_fraction : MethodName := ⟨R_PM, "fraction", "(IIZ)I"⟩
abbrev b_PM_gainOf : ByteArray := prog_9_method_54_code
def y_PM_gainOf : MethodName := ⟨R_PM, "gainOf", "(III)I"⟩
abbrev b_PM_givesUp : ByteArray := prog_9_method_42_code
def y_PM_givesUp : MethodName := ⟨R_PM, "givesUp", "(I)I"⟩
abbrev b_PM_goAway : ByteArray := prog_9_method_24_code
def y_PM_goAway : MethodName := ⟨R_PM, "goAway", "([II)V"⟩
abbrev b_PM_goNight : ByteArray := prog_9_method_25_code
def y_PM_goNight : MethodName := ⟨R_PM, "goNight", "([I)V"⟩
abbrev b_PM_hall : ByteArray := prog_9_method_15_code
def y_PM_hall : MethodName := ⟨R_PM, "hall", "()I"⟩
abbrev b_PM_has : ByteArray := prog_9_method_4_code
def y_PM_has : MethodName := ⟨R_PM, "has", "(II)Z"⟩
abbrev b_PM_in : ByteArray := prog_9_method_3_code
def y_PM_in : MethodName := ⟨R_PM, "in", "(JJJ)Z"⟩
abbrev b_PM_isCalled : ByteArray := prog_9_method_17_code
def y_PM_isCalled : MethodName := ⟨R_PM, "isCalled", "(II)Z"⟩
abbrev b_PM_judge : ByteArray := prog_9_method_45_code
def y_PM_judge : MethodName := ⟨R_PM, "judge", "(II)I"⟩
abbrev b_PM_keep : ByteArray := prog_9_method_60_code
def y_PM_keep : MethodName := ⟨R_PM, "keep", "(I)I"⟩
abbrev b_PM_layCleaning : ByteArray := prog_9_method_33_code
def y_PM_layCleaning : MethodName := ⟨R_PM, "layCleaning", "(I)Z"⟩
abbrev b_PM_layShown : ByteArray := prog_9_method_16_code
def y_PM_layShown : MethodName := ⟨R_PM, "layShown", "([I)V"⟩
abbrev b_PM_layersOf : ByteArray := prog_9_method_36_code
def y_PM_layersOf : MethodName := ⟨R_PM, "layersOf", "(I)I"⟩
abbrev b_PM_longest : ByteArray := prog_9_method_43_code
def y_PM_longest : MethodName := ⟨R_PM, "longest", "(I)I"⟩
abbrev b_PM_many : ByteArray := prog_9_method_5_code
def y_PM_many : MethodName := ⟨R_PM, "many", "(I)I"⟩
abbrev b_PM_night : ByteArray := prog_9_method_26_code
def y_PM_night : MethodName := ⟨R_PM, "night", "()I"⟩
abbrev b_PM_noCabman : ByteArray := prog_9_method_6_code
def y_PM_noCabman : MethodName := ⟨R_PM, "noCabman", "(I)Z"⟩
abbrev b_PM_noFinger : ByteArray := prog_9_method_7_code
def y_PM_noFinger : MethodName := ⟨R_PM, "noFinger", "(I)Z"⟩
abbrev b_PM_note : ByteArray := prog_9_method_23_code
def y_PM_note : MethodName := ⟨R_PM, "note", "()V"⟩
abbrev b_PM_paint : ByteArray := prog_9_method_28_code
def y_PM_paint : MethodName := ⟨R_PM, "paint", "(I)I"⟩
abbrev b_PM_peace : ByteArray := prog_9_method_41_code
def y_PM_peace : MethodName := ⟨R_PM, "peace", "(I)I"⟩
abbrev b_PM_power : ByteArray := prog_9_method_32_code
def y_PM_power : MethodName := ⟨R_PM, "power", "(II)I"⟩
abbrev b_PM_readHall : ByteArray := prog_9_method_13_code
def y_PM_readHall : MethodName := ⟨R_PM, "readHall", "()I"⟩
abbrev b_PM_readLayers : ByteArray := prog_9_method_11_code
def y_PM_readLayers : MethodName := ⟨R_PM, "readLayers", "()Z"⟩
abbrev b_PM_readOne : ByteArray := prog_9_method_12_code
def y_PM_readOne : MethodName := ⟨R_PM, "readOne", "()Z"⟩
abbrev b_PM_rests : ByteArray := prog_9_method_56_code
def y_PM_rests : MethodName := ⟨R_PM, "rests", "(III)I"⟩
abbrev b_PM_see : ByteArray := prog_9_method_50_code
def y_PM_see : MethodName := ⟨R_PM, "see", "(IIII)I"⟩
abbrev b_PM_seed : ByteArray := prog_9_method_58_code
def y_PM_seed : MethodName := ⟨R_PM, "seed", "(J)J"⟩
abbrev b_PM_send : ByteArray := prog_9_method_29_code
def y_PM_send : MethodName := ⟨R_PM, "send", "()I"⟩
abbrev b_PM_share : ByteArray := prog_9_method_49_code
def y_PM_share : MethodName := ⟨R_PM, "share", "(IZ)I"⟩
abbrev b_PM_strokes : ByteArray := prog_9_method_40_code
def y_PM_strokes : MethodName := ⟨R_PM, "strokes", "(II)I"⟩
abbrev b_PM_under : ByteArray := prog_9_method_53_code
def y_PM_under : MethodName := ⟨R_PM, "under", "(II)I"⟩
abbrev b_PM_undo : ByteArray := prog_9_method_30_code
def y_PM_undo : MethodName := ⟨R_PM, "undo", "()I"⟩
abbrev b_PM_unsee : ByteArray := prog_9_method_51_code
def y_PM_unsee : MethodName := ⟨R_PM, "unsee", "()I"⟩
abbrev b_PM_waitsOf : ByteArray := prog_9_method_19_code
def y_PM_waitsOf : MethodName := ⟨R_PM, "waitsOf", "([I)I"⟩
abbrev b_PM_ways : ByteArray := prog_9_method_46_code
def y_PM_ways : MethodName := ⟨R_PM, "ways", "(I)I"⟩
abbrev b_PM_wet : ByteArray := prog_9_method_57_code
def y_PM_wet : MethodName := ⟨R_PM, "wet", "(IIZ)I"⟩
abbrev b_PM_wipe : ByteArray := prog_9_method_9_code
def y_PM_wipe : MethodName := ⟨R_PM, "wipe", "()I"⟩
abbrev b_PM_write : ByteArray := prog_9_method_8_code
def y_PM_write : MethodName := ⟨R_PM, "write", "(I)I"⟩
abbrev b_PM_years : ByteArray := prog_9_method_59_code
def y_PM_years : MethodName := ⟨R_PM, "years", "(I)I"⟩
abbrev b_Int_bitCount : ByteArray := prog_10_method_49_code
def y_Int_bitCount : MethodName := ⟨R_Int, "bitCount", "(I)I"⟩
abbrev b_Math_max : ByteArray := prog_11_method_65_code
def y_Math_max : MethodName := ⟨R_Math, "max", "(II)I"⟩
abbrev b_Math_min : ByteArray := prog_11_method_69_code
def y_Math_min : MethodName := ⟨R_Math, "min", "(II)I"⟩
abbrev b_Arr_fill : ByteArray := prog_13_method_103_code
def y_Arr_fill : MethodName := ⟨R_Arr, "fill", "([II)V"⟩
end
section
theorem g0 : (.initialized R_Law : Cond) ∈ gt := gt_in 28 (by decide +kernel) (by decide +kernel)
theorem g1 : (.initialized R_PR : Cond) ∈ gt := gt_in 29 (by decide +kernel) (by decide +kernel)
theorem g2 : (.initialized R_Text : Cond) ∈ gt := gt_in 30 (by decide +kernel) (by decide +kernel)
theorem g3 : (.initialized R_Hall : Cond) ∈ gt := gt_in 31 (by decide +kernel) (by decide +kernel)
theorem g4 : (.initialized R_Scene : Cond) ∈ gt := gt_in 32 (by decide +kernel) (by decide +kernel)
theorem g5 : (.initialized R_Arr : Cond) ∈ gt := gt_in 33 (by decide +kernel) (by decide +kernel)
theorem g6 : (.initialized R_Hand : Cond) ∈ gt := gt_in 34 (by decide +kernel) (by decide +kernel)
theorem g7 : (.initialized R_Shelf : Cond) ∈ gt := gt_in 35 (by decide +kernel) (by decide +kernel)
theorem g8 : (.initialized R_Math : Cond) ∈ gt := gt_in 36 (by decide +kernel) (by decide +kernel)
theorem g9 : (.initialized R_Seen : Cond) ∈ gt := gt_in 37 (by decide +kernel) (by decide +kernel)
theorem g10 : (.initialized R_PM : Cond) ∈ gt := gt_in 38 (by decide +kernel) (by decide +kernel)
theorem g11 : (.initialized R_Sys : Cond) ∈ gt := gt_in 39 (by decide +kernel) (by decide +kernel)
theorem g12 : (.initialized R_Int : Cond) ∈ gt := gt_in 40 (by decide +kernel) (by decide +kernel)
theorem g13 : (.classLink R_Law 7 R_PR : Cond) ∈ gt := gt_in 41 (by decide +kernel) (by decide +kernel)
theorem g14 : (.instantiable R_PR 11 : Cond) ∈ gt := gt_in 42 (by decide +kernel) (by decide +kernel)
theorem g15 : (.methodLink R_Law 9 y_PR_init : Cond) ∈ gt := gt_in 43 (by decide +kernel) (by decide +kernel)
theorem g16 : (.instanceMethod y_PR_init : Cond) ∈ gt := gt_in 44 (by decide +kernel) (by decide +kernel)
set_option maxRecDepth 100000 in
theorem g17 : (.code y_PR_init b_PR_init 1 none : Cond) ∈ gt := gt_in 45 rfl (by decide +kernel)
theorem g18 : (.methodLink R_PR 3 objectInit : Cond) ∈ gt := gt_in 46 (by decide +kernel) (by decide +kernel)
theorem g19 : (.instanceMethod objectInit : Cond) ∈ gt := gt_in 47 (by decide +kernel) (by decide +kernel)
set_option maxRecDepth 100000 in
theorem g20 : (.code objectInit ⟨#[0xb1]⟩ 1 none : Cond) ∈ gt := gt_in 48 rfl (by decide +kernel)
theorem g21 : (.classLink R_PR 9 R_Text : Cond) ∈ gt := gt_in 49 (by decide +kernel) (by decide +kernel)
theorem g22 : (.instantiable R_Text 2 : Cond) ∈ gt := gt_in 50 (by decide +kernel) (by decide +kernel)
theorem g23 : (.methodLinkNest R_PR 11 y_Text_init R_PR : Cond) ∈ nwl := nw_in 51 (by decide +kernel) rfl
theorem g24 : (.instanceMethod y_Text_init : Cond) ∈ gt := gt_in 52 (by decide +kernel) (by decide +kernel)
set_option maxRecDepth 100000 in
theorem g25 : (.code y_Text_init b_Text_init 1 none : Cond) ∈ gt := gt_in 53 rfl (by decide +kernel)
theorem g26 : (.methodLink R_Text 3 objectInit : Cond) ∈ gt := gt_in 54 (by decide +kernel) (by decide +kernel)
theorem g27 : (.fieldLink R_Text 9 R_Text "letters" "[I" : Cond) ∈ gt := gt_in 55 (by decide +kernel) (by decide +kernel)
theorem g28 : (.fieldLink R_Text 15 R_Text "length" "I" : Cond) ∈ gt := gt_in 56 (by decide +kernel) (by decide +kernel)
theorem g29 : (.fieldLinkNest R_PR 74 R_Text "length" "I" R_PR : Cond) ∈ nwl := nw_in 57 (by decide +kernel) rfl
theorem g30 : (.fieldLinkNest R_Hall 34 R_Text "length" "I" R_PR : Cond) ∈ nwl := nw_in 58 (by decide +kernel) rfl
theorem g36 : (.arrayClass .int : Cond) ∈ gt := gt_in 64 (by decide +kernel) (by decide +kernel)
theorem g37 : (.classLink R_PR 16 R_Hall : Cond) ∈ gt := gt_in 65 (by decide +kernel) (by decide +kernel)
theorem g38 : (.instantiable R_Hall 5 : Cond) ∈ gt := gt_in 66 (by decide +kernel) (by decide +kernel)
theorem g39 : (.methodLinkNest R_PR 18 y_Hall_init R_PR : Cond) ∈ nwl := nw_in 67 (by decide +kernel) rfl
theorem g40 : (.instanceMethod y_Hall_init : Cond) ∈ gt := gt_in 68 (by decide +kernel) (by decide +kernel)
set_option maxRecDepth 100000 in
theorem g41 : (.code y_Hall_init b_Hall_init 1 none : Cond) ∈ gt := gt_in 69 rfl (by decide +kernel)
theorem g42 : (.methodLink R_Hall 3 objectInit : Cond) ∈ gt := gt_in 70 (by decide +kernel) (by decide +kernel)
theorem g43 : (.fieldLink R_Hall 9 R_Hall "layers" "[I" : Cond) ∈ gt := gt_in 71 (by decide +kernel) (by decide +kernel)
theorem g44 : (.fieldLink R_Hall 15 R_Hall "kinds" "[I" : Cond) ∈ gt := gt_in 72 (by decide +kernel) (by decide +kernel)
theorem g45 : (.fieldLink R_Hall 18 R_Hall "patiences" "[I" : Cond) ∈ gt := gt_in 73 (by decide +kernel) (by decide +kernel)
theorem g46 : (.fieldLink R_Hall 21 R_Hall "wanted" "[I" : Cond) ∈ gt := gt_in 74 (by decide +kernel) (by decide +kernel)
theorem g47 : (.fieldLink R_Hall 24 R_Hall "count" "I" : Cond) ∈ gt := gt_in 75 (by decide +kernel) (by decide +kernel)
theorem g48 : (.fieldLinkNest R_Hand 31 R_Hall "count" "I" R_PR : Cond) ∈ nwl := nw_in 76 (by decide +kernel) rfl
theorem g49 : (.fieldLinkNest R_PR 88 R_Hall "count" "I" R_PR : Cond) ∈ nwl := nw_in 77 (by decide +kernel) rfl
theorem g61 : (.classLink R_PR 23 R_Scene : Cond) ∈ gt := gt_in 89 (by decide +kernel) (by decide +kernel)
theorem g62 : (.instantiable R_Scene 3 : Cond) ∈ gt := gt_in 90 (by decide +kernel) (by decide +kernel)
theorem g63 : (.methodLink R_PR 25 y_Scene_init : Cond) ∈ gt := gt_in 91 (by decide +kernel) (by decide +kernel)
theorem g64 : (.instanceMethod y_Scene_init : Cond) ∈ gt := gt_in 92 (by decide +kernel) (by decide +kernel)
set_option maxRecDepth 100000 in
theorem g65 : (.code y_Scene_init b_Scene_init 1 none : Cond) ∈ gt := gt_in 93 rfl (by decide +kernel)
theorem g66 : (.methodLink R_Scene 3 objectInit : Cond) ∈ gt := gt_in 94 (by decide +kernel) (by decide +kernel)
theorem g67 : (.methodLink R_Scene 22 y_Arr_fill : Cond) ∈ gt := gt_in 95 (by decide +kernel) (by decide +kernel)
theorem g68 : (.static y_Arr_fill : Cond) ∈ gt := gt_in 96 (by decide +kernel) (by decide +kernel)
set_option maxRecDepth 100000 in
theorem g69 : (.code y_Arr_fill b_Arr_fill 4 none : Cond) ∈ gt := gt_in 97 rfl (by decide +kernel)
theorem g70 : (.fieldLink R_Scene 9 R_Scene "off" "[I" : Cond) ∈ gt := gt_in 98 (by decide +kernel) (by decide +kernel)
theorem g71 : (.fieldLinkNest R_Shelf 27 R_Scene "off" "[I" R_PR : Cond) ∈ nwl := nw_in 99 (by decide +kernel) rfl
theorem g72 : (.fieldLink R_Scene 15 R_Scene "waited" "[I" : Cond) ∈ gt := gt_in 100 (by decide +kernel) (by decide +kernel)
theorem g73 : (.fieldLinkNest R_Shelf 36 R_Scene "waited" "[I" R_PR : Cond) ∈ nwl := nw_in 101 (by decide +kernel) rfl
theorem g74 : (.fieldLink R_Scene 18 R_Scene "nights" "I" : Cond) ∈ gt := gt_in 102 (by decide +kernel) (by decide +kernel)
theorem g75 : (.fieldLinkNest R_Shelf 39 R_Scene "nights" "I" R_PR : Cond) ∈ nwl := nw_in 103 (by decide +kernel) rfl
theorem g76 : (.fieldLinkNest R_PR 101 R_Scene "nights" "I" R_PR : Cond) ∈ nwl := nw_in 104 (by decide +kernel) rfl
theorem g84 : (.classLink R_PR 33 R_Hand : Cond) ∈ gt := gt_in 112 (by decide +kernel) (by decide +kernel)
theorem g85 : (.instantiable R_Hand 1 : Cond) ∈ gt := gt_in 113 (by decide +kernel) (by decide +kernel)
theorem g86 : (.methodLinkNest R_PR 35 y_Hand_init R_PR : Cond) ∈ nwl := nw_in 114 (by decide +kernel) rfl
theorem g87 : (.instanceMethod y_Hand_init : Cond) ∈ gt := gt_in 115 (by decide +kernel) (by decide +kernel)
set_option maxRecDepth 100000 in
theorem g88 : (.code y_Hand_init b_Hand_init 1 none : Cond) ∈ gt := gt_in 116 rfl (by decide +kernel)
theorem g89 : (.methodLink R_Hand 3 objectInit : Cond) ∈ gt := gt_in 117 (by decide +kernel) (by decide +kernel)
theorem g90 : (.fieldLink R_Hand 9 R_Hand "shown" "[I" : Cond) ∈ gt := gt_in 118 (by decide +kernel) (by decide +kernel)
theorem g94 : (.classLink R_PR 40 R_Shelf : Cond) ∈ gt := gt_in 122 (by decide +kernel) (by decide +kernel)
theorem g95 : (.instantiable R_Shelf 2 : Cond) ∈ gt := gt_in 123 (by decide +kernel) (by decide +kernel)
theorem g96 : (.methodLink R_PR 42 y_Shelf_init : Cond) ∈ gt := gt_in 124 (by decide +kernel) (by decide +kernel)
theorem g97 : (.instanceMethod y_Shelf_init : Cond) ∈ gt := gt_in 125 (by decide +kernel) (by decide +kernel)
set_option maxRecDepth 100000 in
theorem g98 : (.code y_Shelf_init b_Shelf_init 2 none : Cond) ∈ gt := gt_in 126 rfl (by decide +kernel)
theorem g99 : (.methodLink R_Shelf 3 objectInit : Cond) ∈ gt := gt_in 127 (by decide +kernel) (by decide +kernel)
theorem g100 : (.methodLink R_Shelf 9 y_Math_max : Cond) ∈ gt := gt_in 128 (by decide +kernel) (by decide +kernel)
theorem g101 : (.static y_Math_max : Cond) ∈ gt := gt_in 129 (by decide +kernel) (by decide +kernel)
set_option maxRecDepth 100000 in
theorem g102 : (.code y_Math_max b_Math_max 2 (some .int) : Cond) ∈ gt := gt_in 130 rfl (by decide +kernel)
theorem g103 : (.fieldLink R_Shelf 15 R_Shelf "places" "I" : Cond) ∈ gt := gt_in 131 (by decide +kernel) (by decide +kernel)
theorem g104 : (.fieldLink R_Shelf 23 R_Shelf "cells" "[I" : Cond) ∈ gt := gt_in 132 (by decide +kernel) (by decide +kernel)
theorem g110 : (.classLink R_PR 52 R_Seen : Cond) ∈ gt := gt_in 138 (by decide +kernel) (by decide +kernel)
theorem g111 : (.instantiable R_Seen 2 : Cond) ∈ gt := gt_in 139 (by decide +kernel) (by decide +kernel)
theorem g112 : (.methodLinkNest R_PR 54 y_Seen_init R_PR : Cond) ∈ nwl := nw_in 140 (by decide +kernel) rfl
theorem g113 : (.instanceMethod y_Seen_init : Cond) ∈ gt := gt_in 141 (by decide +kernel) (by decide +kernel)
set_option maxRecDepth 100000 in
theorem g114 : (.code y_Seen_init b_Seen_init 1 none : Cond) ∈ gt := gt_in 142 rfl (by decide +kernel)
theorem g115 : (.methodLink R_Seen 3 objectInit : Cond) ∈ gt := gt_in 143 (by decide +kernel) (by decide +kernel)
theorem g116 : (.fieldLink R_Seen 11 R_Seen "rows" "[I" : Cond) ∈ gt := gt_in 144 (by decide +kernel) (by decide +kernel)
theorem g117 : (.fieldLink R_Seen 15 R_Seen "count" "I" : Cond) ∈ gt := gt_in 145 (by decide +kernel) (by decide +kernel)
theorem g118 : (.fieldLinkNest R_PR 104 R_Seen "count" "I" R_PR : Cond) ∈ nwl := nw_in 146 (by decide +kernel) rfl
theorem g124 : (.fieldLink R_PR 12 R_PR "text" "LPortraitRank$Text;" : Cond) ∈ gt := gt_in 152 (by decide +kernel) (by decide +kernel)
theorem g125 : (.fieldLink R_PR 19 R_PR "hall" "LPortraitRank$Hall;" : Cond) ∈ gt := gt_in 153 (by decide +kernel) (by decide +kernel)
theorem g126 : (.fieldLink R_PR 26 R_PR "now" "LPortraitRank$Scene;" : Cond) ∈ gt := gt_in 154 (by decide +kernel) (by decide +kernel)
theorem g127 : (.fieldLink R_PR 30 R_PR "trial" "LPortraitRank$Scene;" : Cond) ∈ gt := gt_in 155 (by decide +kernel) (by decide +kernel)
theorem g128 : (.fieldLink R_PR 36 R_PR "hand" "LPortraitRank$Hand;" : Cond) ∈ gt := gt_in 156 (by decide +kernel) (by decide +kernel)
theorem g129 : (.fieldLink R_PR 45 R_PR "acts" "LPortraitRank$Shelf;" : Cond) ∈ gt := gt_in 157 (by decide +kernel) (by decide +kernel)
theorem g130 : (.fieldLink R_PR 49 R_PR "slots" "LPortraitRank$Shelf;" : Cond) ∈ gt := gt_in 158 (by decide +kernel) (by decide +kernel)
theorem g131 : (.fieldLink R_PR 55 R_PR "seen" "LPortraitRank$Seen;" : Cond) ∈ gt := gt_in 159 (by decide +kernel) (by decide +kernel)
theorem g132 : (.fieldLink R_PR 59 R_PR "actCount" "I" : Cond) ∈ gt := gt_in 160 (by decide +kernel) (by decide +kernel)
theorem g133 : (.fieldLink R_PR 63 R_PR "slotsKept" "I" : Cond) ∈ gt := gt_in 161 (by decide +kernel) (by decide +kernel)
theorem g134 : (.fieldLink R_PR 66 R_PR "seed" "J" : Cond) ∈ gt := gt_in 162 (by decide +kernel) (by decide +kernel)
theorem g158 : (.methodLink R_Law 13 y_PR_write : Cond) ∈ gt := gt_in 186 (by decide +kernel) (by decide +kernel)
theorem g159 : (.instanceMethod y_PR_write : Cond) ∈ gt := gt_in 187 (by decide +kernel) (by decide +kernel)
theorem g160 : (.selects R_PR y_PR_write y_PR_write : Cond) ∈ gt := gt_in 188 (by decide +kernel) (by decide +kernel)
set_option maxRecDepth 100000 in
theorem g161 : (.code y_PR_write b_PR_write 2 (some .int) : Cond) ∈ gt := gt_in 189 rfl (by decide +kernel)
theorem g162 : (.methodLink R_PR 70 y_Text_append : Cond) ∈ gt := gt_in 190 (by decide +kernel) (by decide +kernel)
theorem g163 : (.instanceMethod y_Text_append : Cond) ∈ gt := gt_in 191 (by decide +kernel) (by decide +kernel)
theorem g164 : (.selects R_Text y_Text_append y_Text_append : Cond) ∈ gt := gt_in 192 (by decide +kernel) (by decide +kernel)
set_option maxRecDepth 100000 in
theorem g165 : (.code y_Text_append b_Text_append 2 (some .boolean) : Cond) ∈ gt := gt_in 193 rfl (by decide +kernel)
theorem g166 : (.methodLink R_Law 18 y_PR_wipe : Cond) ∈ gt := gt_in 194 (by decide +kernel) (by decide +kernel)
theorem g167 : (.instanceMethod y_PR_wipe : Cond) ∈ gt := gt_in 195 (by decide +kernel) (by decide +kernel)
theorem g168 : (.selects R_PR y_PR_wipe y_PR_wipe : Cond) ∈ gt := gt_in 196 (by decide +kernel) (by decide +kernel)
set_option maxRecDepth 100000 in
theorem g169 : (.code y_PR_wipe b_PR_wipe 2 (some .int) : Cond) ∈ gt := gt_in 197 rfl (by decide +kernel)
theorem g170 : (.methodLink R_Law 23 y_PR_fault : Cond) ∈ gt := gt_in 198 (by decide +kernel) (by decide +kernel)
theorem g171 : (.instanceMethod y_PR_fault : Cond) ∈ gt := gt_in 199 (by decide +kernel) (by decide +kernel)
theorem g172 : (.selects R_PR y_PR_fault y_PR_fault : Cond) ∈ gt := gt_in 200 (by decide +kernel) (by decide +kernel)
set_option maxRecDepth 100000 in
theorem g173 : (.code y_PR_fault b_PR_fault 1 (some .int) : Cond) ∈ gt := gt_in 201 rfl (by decide +kernel)
theorem g174 : (.methodLink R_PR 77 y_Text_firstFault : Cond) ∈ gt := gt_in 202 (by decide +kernel) (by decide +kernel)
theorem g175 : (.instanceMethod y_Text_firstFault : Cond) ∈ gt := gt_in 203 (by decide +kernel) (by decide +kernel)
theorem g176 : (.selects R_Text y_Text_firstFault y_Text_firstFault : Cond) ∈ gt := gt_in 204 (by decide +kernel) (by decide +kernel)
set_option maxRecDepth 100000 in
theorem g177 : (.code y_Text_firstFault b_Text_firstFault 2 (some .int) : Cond) ∈ gt := gt_in 205 rfl (by decide +kernel)
theorem g178 : (.methodLink R_Text 19 y_Text_fits : Cond) ∈ gt := gt_in 206 (by decide +kernel) (by decide +kernel)
theorem g179 : (.static y_Text_fits : Cond) ∈ gt := gt_in 207 (by decide +kernel) (by decide +kernel)
set_option maxRecDepth 100000 in
theorem g180 : (.code y_Text_fits b_Text_fits 2 (some .boolean) : Cond) ∈ gt := gt_in 208 rfl (by decide +kernel)
theorem g181 : (.methodLink R_Law 27 y_PR_hall : Cond) ∈ gt := gt_in 209 (by decide +kernel) (by decide +kernel)
theorem g182 : (.instanceMethod y_PR_hall : Cond) ∈ gt := gt_in 210 (by decide +kernel) (by decide +kernel)
theorem g183 : (.selects R_PR y_PR_hall y_PR_hall : Cond) ∈ gt := gt_in 211 (by decide +kernel) (by decide +kernel)
set_option maxRecDepth 100000 in
theorem g184 : (.code y_PR_hall b_PR_hall 1 (some .int) : Cond) ∈ gt := gt_in 212 rfl (by decide +kernel)
theorem g185 : (.methodLink R_PR 81 y_Hall_read : Cond) ∈ gt := gt_in 213 (by decide +kernel) (by decide +kernel)
theorem g186 : (.instanceMethod y_Hall_read : Cond) ∈ gt := gt_in 214 (by decide +kernel) (by decide +kernel)
theorem g187 : (.selects R_Hall y_Hall_read y_Hall_read : Cond) ∈ gt := gt_in 215 (by decide +kernel) (by decide +kernel)
set_option maxRecDepth 100000 in
theorem g188 : (.code y_Hall_read b_Hall_read 5 none : Cond) ∈ gt := gt_in 216 rfl (by decide +kernel)
theorem g189 : (.methodLink R_Hall 28 y_Text_figure : Cond) ∈ gt := gt_in 217 (by decide +kernel) (by decide +kernel)
theorem g190 : (.instanceMethod y_Text_figure : Cond) ∈ gt := gt_in 218 (by decide +kernel) (by decide +kernel)
theorem g191 : (.selects R_Text y_Text_figure y_Text_figure : Cond) ∈ gt := gt_in 219 (by decide +kernel) (by decide +kernel)
set_option maxRecDepth 100000 in
theorem g192 : (.code y_Text_figure b_Text_figure 2 (some .int) : Cond) ∈ gt := gt_in 220 rfl (by decide +kernel)
theorem g193 : (.methodLink R_Hall 37 y_Math_min : Cond) ∈ gt := gt_in 221 (by decide +kernel) (by decide +kernel)
theorem g194 : (.static y_Math_min : Cond) ∈ gt := gt_in 222 (by decide +kernel) (by decide +kernel)
set_option maxRecDepth 100000 in
theorem g195 : (.code y_Math_min b_Math_min 2 (some .int) : Cond) ∈ gt := gt_in 223 rfl (by decide +kernel)
theorem g196 : (.methodLink R_PR 85 y_Scene_empty : Cond) ∈ gt := gt_in 224 (by decide +kernel) (by decide +kernel)
theorem g197 : (.instanceMethod y_Scene_empty : Cond) ∈ gt := gt_in 225 (by decide +kernel) (by decide +kernel)
theorem g198 : (.selects R_Scene y_Scene_empty y_Scene_empty : Cond) ∈ gt := gt_in 226 (by decide +kernel) (by decide +kernel)
set_option maxRecDepth 100000 in
theorem g199 : (.code y_Scene_empty b_Scene_empty 1 none : Cond) ∈ gt := gt_in 227 rfl (by decide +kernel)
theorem g200 : (.methodLink R_Law 31 y_PR_about : Cond) ∈ gt := gt_in 228 (by decide +kernel) (by decide +kernel)
theorem g201 : (.instanceMethod y_PR_about : Cond) ∈ gt := gt_in 229 (by decide +kernel) (by decide +kernel)
theorem g202 : (.selects R_PR y_PR_about y_PR_about : Cond) ∈ gt := gt_in 230 (by decide +kernel) (by decide +kernel)
set_option maxRecDepth 100000 in
theorem g203 : (.code y_PR_about b_PR_about 2 (some .int) : Cond) ∈ gt := gt_in 231 rfl (by decide +kernel)
theorem g204 : (.methodLink R_PR 91 y_Scene_waiting : Cond) ∈ gt := gt_in 232 (by decide +kernel) (by decide +kernel)
theorem g205 : (.instanceMethod y_Scene_waiting : Cond) ∈ gt := gt_in 233 (by decide +kernel) (by decide +kernel)
theorem g206 : (.selects R_Scene y_Scene_waiting y_Scene_waiting : Cond) ∈ gt := gt_in 234 (by decide +kernel) (by decide +kernel)
set_option maxRecDepth 100000 in
theorem g207 : (.code y_Scene_waiting b_Scene_waiting 3 (some .int) : Cond) ∈ gt := gt_in 235 rfl (by decide +kernel)
theorem g208 : (.methodLink R_PR 94 y_Scene_rank : Cond) ∈ gt := gt_in 236 (by decide +kernel) (by decide +kernel)
theorem g209 : (.instanceMethod y_Scene_rank : Cond) ∈ gt := gt_in 237 (by decide +kernel) (by decide +kernel)
theorem g210 : (.selects R_Scene y_Scene_rank y_Scene_rank : Cond) ∈ gt := gt_in 238 (by decide +kernel) (by decide +kernel)
set_option maxRecDepth 100000 in
theorem g211 : (.code y_Scene_rank b_Scene_rank 5 (some .int) : Cond) ∈ gt := gt_in 239 rfl (by decide +kernel)
theorem g212 : (.methodLink R_Scene 44 y_Scene_waiting : Cond) ∈ gt := gt_in 240 (by decide +kernel) (by decide +kernel)
theorem g213 : (.methodLink R_Scene 48 y_Scene_firstOf : Cond) ∈ gt := gt_in 241 (by decide +kernel) (by decide +kernel)
theorem g215 : (.instanceMethod y_Scene_firstOf : Cond) ∈ gt := gt_in 243 (by decide +kernel) (by decide +kernel)
set_option maxRecDepth 100000 in
theorem g216 : (.code y_Scene_firstOf b_Scene_firstOf 5 (some .int) : Cond) ∈ gt := gt_in 244 rfl (by decide +kernel)
theorem g217 : (.methodLink R_Scene 52 y_Scene_waited : Cond) ∈ gt := gt_in 245 (by decide +kernel) (by decide +kernel)
theorem g218 : (.instanceMethod y_Scene_waited : Cond) ∈ gt := gt_in 246 (by decide +kernel) (by decide +kernel)
theorem g219 : (.selects R_Scene y_Scene_waited y_Scene_waited : Cond) ∈ gt := gt_in 247 (by decide +kernel) (by decide +kernel)
set_option maxRecDepth 100000 in
theorem g220 : (.code y_Scene_waited b_Scene_waited 2 (some .int) : Cond) ∈ gt := gt_in 248 rfl (by decide +kernel)
theorem g221 : (.methodLink R_PR 97 y_PR_hailedIn : Cond) ∈ gt := gt_in 249 (by decide +kernel) (by decide +kernel)
theorem g223 : (.instanceMethod y_PR_hailedIn : Cond) ∈ gt := gt_in 251 (by decide +kernel) (by decide +kernel)
set_option maxRecDepth 100000 in
theorem g224 : (.code y_PR_hailedIn b_PR_hailedIn 2 (some .int) : Cond) ∈ gt := gt_in 252 rfl (by decide +kernel)
theorem g225 : (.methodLink R_PR 236 y_Hand_showAll : Cond) ∈ gt := gt_in 253 (by decide +kernel) (by decide +kernel)
theorem g226 : (.instanceMethod y_Hand_showAll : Cond) ∈ gt := gt_in 254 (by decide +kernel) (by decide +kernel)
theorem g227 : (.selects R_Hand y_Hand_showAll y_Hand_showAll : Cond) ∈ gt := gt_in 255 (by decide +kernel) (by decide +kernel)
set_option maxRecDepth 100000 in
theorem g228 : (.code y_Hand_showAll b_Hand_showAll 4 none : Cond) ∈ gt := gt_in 256 rfl (by decide +kernel)
theorem g229 : (.methodLink R_Hand 19 y_Scene_off : Cond) ∈ gt := gt_in 257 (by decide +kernel) (by decide +kernel)
theorem g230 : (.instanceMethod y_Scene_off : Cond) ∈ gt := gt_in 258 (by decide +kernel) (by decide +kernel)
theorem g231 : (.selects R_Scene y_Scene_off y_Scene_off : Cond) ∈ gt := gt_in 259 (by decide +kernel) (by decide +kernel)
set_option maxRecDepth 100000 in
theorem g232 : (.code y_Scene_off b_Scene_off 2 (some .int) : Cond) ∈ gt := gt_in 260 rfl (by decide +kernel)
theorem g233 : (.methodLinkNest R_Scene 34 y_PR_isFinger R_PR : Cond) ∈ nwl := nw_in 261 (by decide +kernel) rfl
theorem g234 : (.static y_PR_isFinger : Cond) ∈ gt := gt_in 262 (by decide +kernel) (by decide +kernel)
set_option maxRecDepth 100000 in
theorem g235 : (.code y_PR_isFinger b_PR_isFinger 1 (some .boolean) : Cond) ∈ gt := gt_in 263 rfl (by decide +kernel)
theorem g236 : (.methodLink R_Hand 25 y_Hall_layer : Cond) ∈ gt := gt_in 264 (by decide +kernel) (by decide +kernel)
theorem g237 : (.instanceMethod y_Hall_layer : Cond) ∈ gt := gt_in 265 (by decide +kernel) (by decide +kernel)
theorem g238 : (.selects R_Hall y_Hall_layer y_Hall_layer : Cond) ∈ gt := gt_in 266 (by decide +kernel) (by decide +kernel)
set_option maxRecDepth 100000 in
theorem g239 : (.code y_Hall_layer b_Hall_layer 3 (some .int) : Cond) ∈ gt := gt_in 267 rfl (by decide +kernel)
theorem g240 : (.methodLinkNest R_Hall 43 y_PR_isFinger R_PR : Cond) ∈ nwl := nw_in 268 (by decide +kernel) rfl
theorem g241 : (.methodLink R_PR 240 y_Hand_hailed : Cond) ∈ gt := gt_in 269 (by decide +kernel) (by decide +kernel)
theorem g242 : (.instanceMethod y_Hand_hailed : Cond) ∈ gt := gt_in 270 (by decide +kernel) (by decide +kernel)
theorem g243 : (.selects R_Hand y_Hand_hailed y_Hand_hailed : Cond) ∈ gt := gt_in 271 (by decide +kernel) (by decide +kernel)
set_option maxRecDepth 100000 in
theorem g244 : (.code y_Hand_hailed b_Hand_hailed 4 (some .int) : Cond) ∈ gt := gt_in 272 rfl (by decide +kernel)
theorem g245 : (.methodLink R_Hand 35 y_Hand_hails : Cond) ∈ gt := gt_in 273 (by decide +kernel) (by decide +kernel)
theorem g246 : (.instanceMethod y_Hand_hails : Cond) ∈ gt := gt_in 274 (by decide +kernel) (by decide +kernel)
theorem g247 : (.selects R_Hand y_Hand_hails y_Hand_hails : Cond) ∈ gt := gt_in 275 (by decide +kernel) (by decide +kernel)
set_option maxRecDepth 100000 in
theorem g248 : (.code y_Hand_hails b_Hand_hails 8 (some .boolean) : Cond) ∈ gt := gt_in 276 rfl (by decide +kernel)
theorem g249 : (.methodLink R_Hand 39 y_Hall_kind : Cond) ∈ gt := gt_in 277 (by decide +kernel) (by decide +kernel)
theorem g250 : (.instanceMethod y_Hall_kind : Cond) ∈ gt := gt_in 278 (by decide +kernel) (by decide +kernel)
theorem g251 : (.selects R_Hall y_Hall_kind y_Hall_kind : Cond) ∈ gt := gt_in 279 (by decide +kernel) (by decide +kernel)
set_option maxRecDepth 100000 in
theorem g252 : (.code y_Hall_kind b_Hall_kind 2 (some .int) : Cond) ∈ gt := gt_in 280 rfl (by decide +kernel)
theorem g253 : (.methodLink R_Hand 42 y_Hall_wanted : Cond) ∈ gt := gt_in 281 (by decide +kernel) (by decide +kernel)
theorem g254 : (.instanceMethod y_Hall_wanted : Cond) ∈ gt := gt_in 282 (by decide +kernel) (by decide +kernel)
theorem g255 : (.selects R_Hall y_Hall_wanted y_Hall_wanted : Cond) ∈ gt := gt_in 283 (by decide +kernel) (by decide +kernel)
set_option maxRecDepth 100000 in
theorem g256 : (.code y_Hall_wanted b_Hall_wanted 4 (some .int) : Cond) ∈ gt := gt_in 284 rfl (by decide +kernel)
theorem g257 : (.methodLink R_Law 35 y_PR_finger : Cond) ∈ gt := gt_in 285 (by decide +kernel) (by decide +kernel)
theorem g258 : (.instanceMethod y_PR_finger : Cond) ∈ gt := gt_in 286 (by decide +kernel) (by decide +kernel)
theorem g259 : (.selects R_PR y_PR_finger y_PR_finger : Cond) ∈ gt := gt_in 287 (by decide +kernel) (by decide +kernel)
set_option maxRecDepth 100000 in
theorem g260 : (.code y_PR_finger b_PR_finger 3 (some .int) : Cond) ∈ gt := gt_in 288 rfl (by decide +kernel)
theorem g261 : (.methodLink R_PR 105 y_PR_isFinger : Cond) ∈ gt := gt_in 289 (by decide +kernel) (by decide +kernel)
theorem g262 : (.methodLink R_PR 108 y_Hall_layer : Cond) ∈ gt := gt_in 290 (by decide +kernel) (by decide +kernel)
theorem g263 : (.methodLink R_PR 112 y_Scene_off : Cond) ∈ gt := gt_in 291 (by decide +kernel) (by decide +kernel)
theorem g264 : (.methodLink R_PR 116 y_PR_shown : Cond) ∈ gt := gt_in 292 (by decide +kernel) (by decide +kernel)
theorem g266 : (.instanceMethod y_PR_shown : Cond) ∈ gt := gt_in 294 (by decide +kernel) (by decide +kernel)
set_option maxRecDepth 100000 in
theorem g267 : (.code y_PR_shown b_PR_shown 2 (some .int) : Cond) ∈ gt := gt_in 295 rfl (by decide +kernel)
theorem g268 : (.methodLink R_Law 40 y_PR_cabman : Cond) ∈ gt := gt_in 296 (by decide +kernel) (by decide +kernel)
theorem g269 : (.instanceMethod y_PR_cabman : Cond) ∈ gt := gt_in 297 (by decide +kernel) (by decide +kernel)
theorem g270 : (.selects R_PR y_PR_cabman y_PR_cabman : Cond) ∈ gt := gt_in 298 (by decide +kernel) (by decide +kernel)
set_option maxRecDepth 100000 in
theorem g271 : (.code y_PR_cabman b_PR_cabman 3 (some .int) : Cond) ∈ gt := gt_in 299 rfl (by decide +kernel)
theorem g272 : (.methodLink R_PR 119 y_Hall_has : Cond) ∈ gt := gt_in 300 (by decide +kernel) (by decide +kernel)
theorem g273 : (.instanceMethod y_Hall_has : Cond) ∈ gt := gt_in 301 (by decide +kernel) (by decide +kernel)
theorem g274 : (.selects R_Hall y_Hall_has y_Hall_has : Cond) ∈ gt := gt_in 302 (by decide +kernel) (by decide +kernel)
set_option maxRecDepth 100000 in
theorem g275 : (.code y_Hall_has b_Hall_has 2 (some .boolean) : Cond) ∈ gt := gt_in 303 rfl (by decide +kernel)
theorem g276 : (.methodLink R_PR 122 y_Hall_kind : Cond) ∈ gt := gt_in 304 (by decide +kernel) (by decide +kernel)
theorem g277 : (.methodLink R_PR 125 y_Hall_patience : Cond) ∈ gt := gt_in 305 (by decide +kernel) (by decide +kernel)
theorem g278 : (.instanceMethod y_Hall_patience : Cond) ∈ gt := gt_in 306 (by decide +kernel) (by decide +kernel)
theorem g279 : (.selects R_Hall y_Hall_patience y_Hall_patience : Cond) ∈ gt := gt_in 307 (by decide +kernel) (by decide +kernel)
set_option maxRecDepth 100000 in
theorem g280 : (.code y_Hall_patience b_Hall_patience 2 (some .int) : Cond) ∈ gt := gt_in 308 rfl (by decide +kernel)
theorem g281 : (.methodLink R_PR 128 y_Hall_wanted : Cond) ∈ gt := gt_in 309 (by decide +kernel) (by decide +kernel)
theorem g282 : (.methodLink R_PR 131 y_Scene_waited : Cond) ∈ gt := gt_in 310 (by decide +kernel) (by decide +kernel)
theorem g283 : (.methodLink R_Law 44 y_PR_night : Cond) ∈ gt := gt_in 311 (by decide +kernel) (by decide +kernel)
theorem g284 : (.instanceMethod y_PR_night : Cond) ∈ gt := gt_in 312 (by decide +kernel) (by decide +kernel)
theorem g285 : (.selects R_PR y_PR_night y_PR_night : Cond) ∈ gt := gt_in 313 (by decide +kernel) (by decide +kernel)
set_option maxRecDepth 100000 in
theorem g286 : (.code y_PR_night b_PR_night 1 (some .int) : Cond) ∈ gt := gt_in 314 rfl (by decide +kernel)
theorem g287 : (.methodLink R_PR 134 y_PR_remember : Cond) ∈ gt := gt_in 315 (by decide +kernel) (by decide +kernel)
theorem g289 : (.instanceMethod y_PR_remember : Cond) ∈ gt := gt_in 317 (by decide +kernel) (by decide +kernel)
set_option maxRecDepth 100000 in
theorem g290 : (.code y_PR_remember b_PR_remember 1 none : Cond) ∈ gt := gt_in 318 rfl (by decide +kernel)
theorem g291 : (.methodLink R_PR 233 y_Shelf_forgetFirst : Cond) ∈ gt := gt_in 319 (by decide +kernel) (by decide +kernel)
theorem g292 : (.instanceMethod y_Shelf_forgetFirst : Cond) ∈ gt := gt_in 320 (by decide +kernel) (by decide +kernel)
theorem g293 : (.selects R_Shelf y_Shelf_forgetFirst y_Shelf_forgetFirst : Cond) ∈ gt := gt_in 321 (by decide +kernel) (by decide +kernel)
set_option maxRecDepth 100000 in
theorem g294 : (.code y_Shelf_forgetFirst b_Shelf_forgetFirst 1 none : Cond) ∈ gt := gt_in 322 rfl (by decide +kernel)
theorem g295 : (.methodLink R_Shelf 30 arraycopyName : Cond) ∈ gt := gt_in 323 (by decide +kernel) (by decide +kernel)
theorem g296 : (.static arraycopyName : Cond) ∈ gt := gt_in 324 (by decide +kernel) (by decide +kernel)
theorem g297 : (.native arraycopyName : Cond) ∈ gt := gt_in 325 (by decide +kernel) (by decide +kernel)
theorem g298 : (.methodLink R_PR 230 y_Shelf_put : Cond) ∈ gt := gt_in 326 (by decide +kernel) (by decide +kernel)
theorem g299 : (.instanceMethod y_Shelf_put : Cond) ∈ gt := gt_in 327 (by decide +kernel) (by decide +kernel)
theorem g300 : (.selects R_Shelf y_Shelf_put y_Shelf_put : Cond) ∈ gt := gt_in 328 (by decide +kernel) (by decide +kernel)
set_option maxRecDepth 100000 in
theorem g301 : (.code y_Shelf_put b_Shelf_put 4 none : Cond) ∈ gt := gt_in 329 rfl (by decide +kernel)
theorem g302 : (.methodLink R_PR 137 y_PR_pass : Cond) ∈ gt := gt_in 330 (by decide +kernel) (by decide +kernel)
theorem g304 : (.instanceMethod y_PR_pass : Cond) ∈ gt := gt_in 332 (by decide +kernel) (by decide +kernel)
set_option maxRecDepth 100000 in
theorem g305 : (.code y_PR_pass b_PR_pass 2 none : Cond) ∈ gt := gt_in 333 rfl (by decide +kernel)
theorem g306 : (.methodLink R_PR 244 y_Scene_pass : Cond) ∈ gt := gt_in 334 (by decide +kernel) (by decide +kernel)
theorem g307 : (.instanceMethod y_Scene_pass : Cond) ∈ gt := gt_in 335 (by decide +kernel) (by decide +kernel)
theorem g308 : (.selects R_Scene y_Scene_pass y_Scene_pass : Cond) ∈ gt := gt_in 336 (by decide +kernel) (by decide +kernel)
set_option maxRecDepth 100000 in
theorem g309 : (.code y_Scene_pass b_Scene_pass 6 none : Cond) ∈ gt := gt_in 337 rfl (by decide +kernel)
theorem g310 : (.methodLink R_Scene 54 y_Hall_kind : Cond) ∈ gt := gt_in 338 (by decide +kernel) (by decide +kernel)
theorem g311 : (.methodLink R_Scene 59 y_Hall_patience : Cond) ∈ gt := gt_in 339 (by decide +kernel) (by decide +kernel)
theorem g312 : (.methodLink R_PR 141 y_Int_bitCount : Cond) ∈ gt := gt_in 340 (by decide +kernel) (by decide +kernel)
theorem g313 : (.static y_Int_bitCount : Cond) ∈ gt := gt_in 341 (by decide +kernel) (by decide +kernel)
set_option maxRecDepth 100000 in
theorem g314 : (.code y_Int_bitCount b_Int_bitCount 1 (some .int) : Cond) ∈ gt := gt_in 342 rfl (by decide +kernel)
theorem g315 : (.constant R_Int 265 (1431655765) : Cond) ∈ gt := gt_in 343 (by decide +kernel) (by decide +kernel)
theorem g316 : (.constant R_Int 266 (858993459) : Cond) ∈ gt := gt_in 344 (by decide +kernel) (by decide +kernel)
theorem g317 : (.constant R_Int 267 (252645135) : Cond) ∈ gt := gt_in 345 (by decide +kernel) (by decide +kernel)
theorem g318 : (.methodLink R_Law 48 y_PR_clean : Cond) ∈ gt := gt_in 346 (by decide +kernel) (by decide +kernel)
theorem g319 : (.instanceMethod y_PR_clean : Cond) ∈ gt := gt_in 347 (by decide +kernel) (by decide +kernel)
theorem g320 : (.selects R_PR y_PR_clean y_PR_clean : Cond) ∈ gt := gt_in 348 (by decide +kernel) (by decide +kernel)
set_option maxRecDepth 100000 in
theorem g321 : (.code y_PR_clean b_PR_clean 2 (some .int) : Cond) ∈ gt := gt_in 349 rfl (by decide +kernel)
theorem g322 : (.methodLink R_PR 146 y_Scene_canTakeOff : Cond) ∈ gt := gt_in 350 (by decide +kernel) (by decide +kernel)
theorem g323 : (.instanceMethod y_Scene_canTakeOff : Cond) ∈ gt := gt_in 351 (by decide +kernel) (by decide +kernel)
theorem g324 : (.selects R_Scene y_Scene_canTakeOff y_Scene_canTakeOff : Cond) ∈ gt := gt_in 352 (by decide +kernel) (by decide +kernel)
set_option maxRecDepth 100000 in
theorem g325 : (.code y_Scene_canTakeOff b_Scene_canTakeOff 2 (some .boolean) : Cond) ∈ gt := gt_in 353 rfl (by decide +kernel)
theorem g326 : (.methodLink R_PR 149 y_Scene_takeOff : Cond) ∈ gt := gt_in 354 (by decide +kernel) (by decide +kernel)
theorem g327 : (.instanceMethod y_Scene_takeOff : Cond) ∈ gt := gt_in 355 (by decide +kernel) (by decide +kernel)
theorem g328 : (.selects R_Scene y_Scene_takeOff y_Scene_takeOff : Cond) ∈ gt := gt_in 356 (by decide +kernel) (by decide +kernel)
set_option maxRecDepth 100000 in
theorem g329 : (.code y_Scene_takeOff b_Scene_takeOff 3 (some .boolean) : Cond) ∈ gt := gt_in 357 rfl (by decide +kernel)
theorem g330 : (.methodLink R_Scene 38 y_Scene_canTakeOff : Cond) ∈ gt := gt_in 358 (by decide +kernel) (by decide +kernel)
theorem g331 : (.methodLink R_Law 52 y_PR_paint : Cond) ∈ gt := gt_in 359 (by decide +kernel) (by decide +kernel)
theorem g332 : (.instanceMethod y_PR_paint : Cond) ∈ gt := gt_in 360 (by decide +kernel) (by decide +kernel)
theorem g333 : (.selects R_PR y_PR_paint y_PR_paint : Cond) ∈ gt := gt_in 361 (by decide +kernel) (by decide +kernel)
set_option maxRecDepth 100000 in
theorem g334 : (.code y_PR_paint b_PR_paint 2 (some .int) : Cond) ∈ gt := gt_in 362 rfl (by decide +kernel)
theorem g335 : (.methodLink R_PR 152 y_Scene_canPutOn : Cond) ∈ gt := gt_in 363 (by decide +kernel) (by decide +kernel)
theorem g336 : (.instanceMethod y_Scene_canPutOn : Cond) ∈ gt := gt_in 364 (by decide +kernel) (by decide +kernel)
theorem g337 : (.selects R_Scene y_Scene_canPutOn y_Scene_canPutOn : Cond) ∈ gt := gt_in 365 (by decide +kernel) (by decide +kernel)
set_option maxRecDepth 100000 in
theorem g338 : (.code y_Scene_canPutOn b_Scene_canPutOn 2 (some .boolean) : Cond) ∈ gt := gt_in 366 rfl (by decide +kernel)
theorem g339 : (.methodLink R_PR 155 y_Scene_putOn : Cond) ∈ gt := gt_in 367 (by decide +kernel) (by decide +kernel)
theorem g340 : (.instanceMethod y_Scene_putOn : Cond) ∈ gt := gt_in 368 (by decide +kernel) (by decide +kernel)
theorem g341 : (.selects R_Scene y_Scene_putOn y_Scene_putOn : Cond) ∈ gt := gt_in 369 (by decide +kernel) (by decide +kernel)
set_option maxRecDepth 100000 in
theorem g342 : (.code y_Scene_putOn b_Scene_putOn 3 (some .boolean) : Cond) ∈ gt := gt_in 370 rfl (by decide +kernel)
theorem g343 : (.methodLink R_Scene 41 y_Scene_canPutOn : Cond) ∈ gt := gt_in 371 (by decide +kernel) (by decide +kernel)
theorem g344 : (.methodLink R_Law 56 y_PR_send : Cond) ∈ gt := gt_in 372 (by decide +kernel) (by decide +kernel)
theorem g345 : (.instanceMethod y_PR_send : Cond) ∈ gt := gt_in 373 (by decide +kernel) (by decide +kernel)
theorem g346 : (.selects R_PR y_PR_send y_PR_send : Cond) ∈ gt := gt_in 374 (by decide +kernel) (by decide +kernel)
set_option maxRecDepth 100000 in
theorem g347 : (.code y_PR_send b_PR_send 2 (some .int) : Cond) ∈ gt := gt_in 375 rfl (by decide +kernel)
theorem g348 : (.methodLink R_PR 158 y_Scene_first : Cond) ∈ gt := gt_in 376 (by decide +kernel) (by decide +kernel)
theorem g349 : (.instanceMethod y_Scene_first : Cond) ∈ gt := gt_in 377 (by decide +kernel) (by decide +kernel)
theorem g350 : (.selects R_Scene y_Scene_first y_Scene_first : Cond) ∈ gt := gt_in 378 (by decide +kernel) (by decide +kernel)
set_option maxRecDepth 100000 in
theorem g351 : (.code y_Scene_first b_Scene_first 1 (some .int) : Cond) ∈ gt := gt_in 379 rfl (by decide +kernel)
theorem g352 : (.methodLink R_PR 161 y_Scene_letGo : Cond) ∈ gt := gt_in 380 (by decide +kernel) (by decide +kernel)
theorem g353 : (.instanceMethod y_Scene_letGo : Cond) ∈ gt := gt_in 381 (by decide +kernel) (by decide +kernel)
theorem g354 : (.selects R_Scene y_Scene_letGo y_Scene_letGo : Cond) ∈ gt := gt_in 382 (by decide +kernel) (by decide +kernel)
set_option maxRecDepth 100000 in
theorem g355 : (.code y_Scene_letGo b_Scene_letGo 3 (some .boolean) : Cond) ∈ gt := gt_in 383 rfl (by decide +kernel)
theorem g356 : (.methodLink R_Law 60 y_PR_undo : Cond) ∈ gt := gt_in 384 (by decide +kernel) (by decide +kernel)
theorem g357 : (.instanceMethod y_PR_undo : Cond) ∈ gt := gt_in 385 (by decide +kernel) (by decide +kernel)
theorem g358 : (.selects R_PR y_PR_undo y_PR_undo : Cond) ∈ gt := gt_in 386 (by decide +kernel) (by decide +kernel)
set_option maxRecDepth 100000 in
theorem g359 : (.code y_PR_undo b_PR_undo 1 (some .int) : Cond) ∈ gt := gt_in 387 rfl (by decide +kernel)
theorem g360 : (.methodLink R_PR 164 y_Shelf_take : Cond) ∈ gt := gt_in 388 (by decide +kernel) (by decide +kernel)
theorem g361 : (.instanceMethod y_Shelf_take : Cond) ∈ gt := gt_in 389 (by decide +kernel) (by decide +kernel)
theorem g362 : (.selects R_Shelf y_Shelf_take y_Shelf_take : Cond) ∈ gt := gt_in 390 (by decide +kernel) (by decide +kernel)
set_option maxRecDepth 100000 in
theorem g363 : (.code y_Shelf_take b_Shelf_take 4 none : Cond) ∈ gt := gt_in 391 rfl (by decide +kernel)
theorem g364 : (.methodLink R_Law 64 y_PR_call : Cond) ∈ gt := gt_in 392 (by decide +kernel) (by decide +kernel)
theorem g365 : (.instanceMethod y_PR_call : Cond) ∈ gt := gt_in 393 (by decide +kernel) (by decide +kernel)
theorem g366 : (.selects R_PR y_PR_call y_PR_call : Cond) ∈ gt := gt_in 394 (by decide +kernel) (by decide +kernel)
set_option maxRecDepth 100000 in
theorem g367 : (.code y_PR_call b_PR_call 2 (some .int) : Cond) ∈ gt := gt_in 395 rfl (by decide +kernel)
theorem g368 : (.methodLink R_PR 168 y_PR_hailedBy : Cond) ∈ gt := gt_in 396 (by decide +kernel) (by decide +kernel)
theorem g370 : (.instanceMethod y_PR_hailedBy : Cond) ∈ gt := gt_in 398 (by decide +kernel) (by decide +kernel)
set_option maxRecDepth 100000 in
theorem g371 : (.code y_PR_hailedBy b_PR_hailedBy 5 (some .int) : Cond) ∈ gt := gt_in 399 rfl (by decide +kernel)
theorem g372 : (.methodLink R_PR 247 y_Hand_show : Cond) ∈ gt := gt_in 400 (by decide +kernel) (by decide +kernel)
theorem g373 : (.instanceMethod y_Hand_show : Cond) ∈ gt := gt_in 401 (by decide +kernel) (by decide +kernel)
theorem g374 : (.selects R_Hand y_Hand_show y_Hand_show : Cond) ∈ gt := gt_in 402 (by decide +kernel) (by decide +kernel)
set_option maxRecDepth 100000 in
theorem g375 : (.code y_Hand_show b_Hand_show 3 none : Cond) ∈ gt := gt_in 403 rfl (by decide +kernel)
theorem g376 : (.methodLinkNest R_Hand 15 y_PR_isFinger R_PR : Cond) ∈ nwl := nw_in 404 (by decide +kernel) rfl
theorem g377 : (.methodLink R_Law 68 y_PR_best : Cond) ∈ gt := gt_in 405 (by decide +kernel) (by decide +kernel)
theorem g378 : (.instanceMethod y_PR_best : Cond) ∈ gt := gt_in 406 (by decide +kernel) (by decide +kernel)
theorem g379 : (.selects R_PR y_PR_best y_PR_best : Cond) ∈ gt := gt_in 407 (by decide +kernel) (by decide +kernel)
set_option maxRecDepth 100000 in
theorem g380 : (.code y_PR_best b_PR_best 8 (some .int) : Cond) ∈ gt := gt_in 408 rfl (by decide +kernel)
theorem g381 : (.methodLink R_PR 171 y_PR_isOneOfTwo : Cond) ∈ gt := gt_in 409 (by decide +kernel) (by decide +kernel)
theorem g382 : (.static y_PR_isOneOfTwo : Cond) ∈ gt := gt_in 410 (by decide +kernel) (by decide +kernel)
set_option maxRecDepth 100000 in
theorem g383 : (.code y_PR_isOneOfTwo b_PR_isOneOfTwo 1 (some .boolean) : Cond) ∈ gt := gt_in 411 rfl (by decide +kernel)
theorem g384 : (.methodLink R_PR 174 y_PR_asCleaning : Cond) ∈ gt := gt_in 412 (by decide +kernel) (by decide +kernel)
theorem g385 : (.static y_PR_asCleaning : Cond) ∈ gt := gt_in 413 (by decide +kernel) (by decide +kernel)
set_option maxRecDepth 100000 in
theorem g386 : (.code y_PR_asCleaning b_PR_asCleaning 1 (some .int) : Cond) ∈ gt := gt_in 414 rfl (by decide +kernel)
theorem g387 : (.methodLink R_PR 177 y_PR_layersOf : Cond) ∈ gt := gt_in 415 (by decide +kernel) (by decide +kernel)
theorem g388 : (.static y_PR_layersOf : Cond) ∈ gt := gt_in 416 (by decide +kernel) (by decide +kernel)
set_option maxRecDepth 100000 in
theorem g389 : (.code y_PR_layersOf b_PR_layersOf 1 (some .int) : Cond) ∈ gt := gt_in 417 rfl (by decide +kernel)
theorem g390 : (.methodLink R_Law 72 y_PR_strokes : Cond) ∈ gt := gt_in 418 (by decide +kernel) (by decide +kernel)
theorem g391 : (.instanceMethod y_PR_strokes : Cond) ∈ gt := gt_in 419 (by decide +kernel) (by decide +kernel)
theorem g392 : (.selects R_PR y_PR_strokes y_PR_strokes : Cond) ∈ gt := gt_in 420 (by decide +kernel) (by decide +kernel)
set_option maxRecDepth 100000 in
theorem g393 : (.code y_PR_strokes b_PR_strokes 3 (some .int) : Cond) ∈ gt := gt_in 421 rfl (by decide +kernel)
theorem g394 : (.methodLink R_PR 180 y_PR_leastCleaning : Cond) ∈ gt := gt_in 422 (by decide +kernel) (by decide +kernel)
theorem g396 : (.instanceMethod y_PR_leastCleaning : Cond) ∈ gt := gt_in 424 (by decide +kernel) (by decide +kernel)
set_option maxRecDepth 100000 in
theorem g397 : (.code y_PR_leastCleaning b_PR_leastCleaning 7 (some .int) : Cond) ∈ gt := gt_in 425 rfl (by decide +kernel)
theorem g398 : (.methodLink R_PR 183 y_PR_tellCleaning : Cond) ∈ gt := gt_in 426 (by decide +kernel) (by decide +kernel)
theorem g399 : (.static y_PR_tellCleaning : Cond) ∈ gt := gt_in 427 (by decide +kernel) (by decide +kernel)
set_option maxRecDepth 100000 in
theorem g400 : (.code y_PR_tellCleaning b_PR_tellCleaning 2 (some .int) : Cond) ∈ gt := gt_in 428 rfl (by decide +kernel)
theorem g401 : (.methodLink R_Law 76 y_PR_peace : Cond) ∈ gt := gt_in 429 (by decide +kernel) (by decide +kernel)
theorem g402 : (.instanceMethod y_PR_peace : Cond) ∈ gt := gt_in 430 (by decide +kernel) (by decide +kernel)
theorem g403 : (.selects R_PR y_PR_peace y_PR_peace : Cond) ∈ gt := gt_in 431 (by decide +kernel) (by decide +kernel)
set_option maxRecDepth 100000 in
theorem g404 : (.code y_PR_peace b_PR_peace 2 (some .int) : Cond) ∈ gt := gt_in 432 rfl (by decide +kernel)
theorem g405 : (.methodLink R_Law 80 y_PR_givesUp : Cond) ∈ gt := gt_in 433 (by decide +kernel) (by decide +kernel)
theorem g406 : (.instanceMethod y_PR_givesUp : Cond) ∈ gt := gt_in 434 (by decide +kernel) (by decide +kernel)
theorem g407 : (.selects R_PR y_PR_givesUp y_PR_givesUp : Cond) ∈ gt := gt_in 435 (by decide +kernel) (by decide +kernel)
set_option maxRecDepth 100000 in
theorem g408 : (.code y_PR_givesUp b_PR_givesUp 3 (some .int) : Cond) ∈ gt := gt_in 436 rfl (by decide +kernel)
theorem g409 : (.methodLink R_PR 186 y_Scene_copy : Cond) ∈ gt := gt_in 437 (by decide +kernel) (by decide +kernel)
theorem g410 : (.instanceMethod y_Scene_copy : Cond) ∈ gt := gt_in 438 (by decide +kernel) (by decide +kernel)
theorem g411 : (.selects R_Scene y_Scene_copy y_Scene_copy : Cond) ∈ gt := gt_in 439 (by decide +kernel) (by decide +kernel)
set_option maxRecDepth 100000 in
theorem g412 : (.code y_Scene_copy b_Scene_copy 2 none : Cond) ∈ gt := gt_in 440 rfl (by decide +kernel)
theorem g413 : (.methodLink R_Scene 28 arraycopyName : Cond) ∈ gt := gt_in 441 (by decide +kernel) (by decide +kernel)
theorem g414 : (.methodLink R_Law 84 y_PR_longest : Cond) ∈ gt := gt_in 442 (by decide +kernel) (by decide +kernel)
theorem g415 : (.instanceMethod y_PR_longest : Cond) ∈ gt := gt_in 443 (by decide +kernel) (by decide +kernel)
theorem g416 : (.selects R_PR y_PR_longest y_PR_longest : Cond) ∈ gt := gt_in 444 (by decide +kernel) (by decide +kernel)
set_option maxRecDepth 100000 in
theorem g417 : (.code y_PR_longest b_PR_longest 4 (some .int) : Cond) ∈ gt := gt_in 445 rfl (by decide +kernel)
theorem g418 : (.methodLink R_PR 189 y_Math_max : Cond) ∈ gt := gt_in 446 (by decide +kernel) (by decide +kernel)
theorem g419 : (.methodLink R_Law 88 y_PR_judge : Cond) ∈ gt := gt_in 447 (by decide +kernel) (by decide +kernel)
theorem g420 : (.instanceMethod y_PR_judge : Cond) ∈ gt := gt_in 448 (by decide +kernel) (by decide +kernel)
theorem g421 : (.selects R_PR y_PR_judge y_PR_judge : Cond) ∈ gt := gt_in 449 (by decide +kernel) (by decide +kernel)
set_option maxRecDepth 100000 in
theorem g422 : (.code y_PR_judge b_PR_judge 5 (some .int) : Cond) ∈ gt := gt_in 450 rfl (by decide +kernel)
theorem g423 : (.methodLink R_PR 194 y_PR_doingAt : Cond) ∈ gt := gt_in 451 (by decide +kernel) (by decide +kernel)
theorem g424 : (.static y_PR_doingAt : Cond) ∈ gt := gt_in 452 (by decide +kernel) (by decide +kernel)
set_option maxRecDepth 100000 in
theorem g425 : (.code y_PR_doingAt b_PR_doingAt 5 (some .int) : Cond) ∈ gt := gt_in 453 rfl (by decide +kernel)
theorem g426 : (.methodLink R_PR 198 y_PR_attempt : Cond) ∈ gt := gt_in 454 (by decide +kernel) (by decide +kernel)
theorem g428 : (.instanceMethod y_PR_attempt : Cond) ∈ gt := gt_in 456 (by decide +kernel) (by decide +kernel)
set_option maxRecDepth 100000 in
theorem g429 : (.code y_PR_attempt b_PR_attempt 4 (some .boolean) : Cond) ∈ gt := gt_in 457 rfl (by decide +kernel)
theorem g430 : (.methodLink R_Law 92 y_PR_share : Cond) ∈ gt := gt_in 458 (by decide +kernel) (by decide +kernel)
theorem g431 : (.instanceMethod y_PR_share : Cond) ∈ gt := gt_in 459 (by decide +kernel) (by decide +kernel)
theorem g432 : (.selects R_PR y_PR_share y_PR_share : Cond) ∈ gt := gt_in 460 (by decide +kernel) (by decide +kernel)
set_option maxRecDepth 100000 in
theorem g433 : (.code y_PR_share b_PR_share 6 (some .int) : Cond) ∈ gt := gt_in 461 rfl (by decide +kernel)
theorem g434 : (.methodLink R_PR 202 y_PR_hailedWhenCome : Cond) ∈ gt := gt_in 462 (by decide +kernel) (by decide +kernel)
theorem g436 : (.instanceMethod y_PR_hailedWhenCome : Cond) ∈ gt := gt_in 464 (by decide +kernel) (by decide +kernel)
set_option maxRecDepth 100000 in
theorem g437 : (.code y_PR_hailedWhenCome b_PR_hailedWhenCome 3 (some .int) : Cond) ∈ gt := gt_in 465 rfl (by decide +kernel)
theorem g438 : (.methodLink R_PR 205 y_PR_ordersBehind : Cond) ∈ gt := gt_in 466 (by decide +kernel) (by decide +kernel)
theorem g439 : (.static y_PR_ordersBehind : Cond) ∈ gt := gt_in 467 (by decide +kernel) (by decide +kernel)
set_option maxRecDepth 100000 in
theorem g440 : (.code y_PR_ordersBehind b_PR_ordersBehind 1 (some .int) : Cond) ∈ gt := gt_in 468 rfl (by decide +kernel)
theorem g441 : (.methodLink R_PR 208 y_PR_fraction : Cond) ∈ gt := gt_in 469 (by decide +kernel) (by decide +kernel)
theorem g442 : (.static y_PR_fraction : Cond) ∈ gt := gt_in 470 (by decide +kernel) (by decide +kernel)
set_option maxRecDepth 100000 in
theorem g443 : (.code y_PR_fraction b_PR_fraction 7 (some .int) : Cond) ∈ gt := gt_in 471 rfl (by decide +kernel)
theorem g444 : (.methodLink R_Law 97 y_PR_see : Cond) ∈ gt := gt_in 472 (by decide +kernel) (by decide +kernel)
theorem g445 : (.instanceMethod y_PR_see : Cond) ∈ gt := gt_in 473 (by decide +kernel) (by decide +kernel)
theorem g446 : (.selects R_PR y_PR_see y_PR_see : Cond) ∈ gt := gt_in 474 (by decide +kernel) (by decide +kernel)
set_option maxRecDepth 100000 in
theorem g447 : (.code y_PR_see b_PR_see 5 (some .int) : Cond) ∈ gt := gt_in 475 rfl (by decide +kernel)
theorem g448 : (.methodLink R_PR 212 y_Seen_add : Cond) ∈ gt := gt_in 476 (by decide +kernel) (by decide +kernel)
theorem g449 : (.instanceMethod y_Seen_add : Cond) ∈ gt := gt_in 477 (by decide +kernel) (by decide +kernel)
theorem g450 : (.selects R_Seen y_Seen_add y_Seen_add : Cond) ∈ gt := gt_in 478 (by decide +kernel) (by decide +kernel)
set_option maxRecDepth 100000 in
theorem g451 : (.code y_Seen_add b_Seen_add 6 (some .boolean) : Cond) ∈ gt := gt_in 479 rfl (by decide +kernel)
theorem g452 : (.methodLink R_Law 102 y_PR_unsee : Cond) ∈ gt := gt_in 480 (by decide +kernel) (by decide +kernel)
theorem g453 : (.instanceMethod y_PR_unsee : Cond) ∈ gt := gt_in 481 (by decide +kernel) (by decide +kernel)
theorem g454 : (.selects R_PR y_PR_unsee y_PR_unsee : Cond) ∈ gt := gt_in 482 (by decide +kernel) (by decide +kernel)
set_option maxRecDepth 100000 in
theorem g455 : (.code y_PR_unsee b_PR_unsee 2 (some .int) : Cond) ∈ gt := gt_in 483 rfl (by decide +kernel)
theorem g456 : (.methodLink R_Law 106 y_PR_under : Cond) ∈ gt := gt_in 484 (by decide +kernel) (by decide +kernel)
theorem g457 : (.instanceMethod y_PR_under : Cond) ∈ gt := gt_in 485 (by decide +kernel) (by decide +kernel)
theorem g458 : (.selects R_PR y_PR_under y_PR_under : Cond) ∈ gt := gt_in 486 (by decide +kernel) (by decide +kernel)
set_option maxRecDepth 100000 in
theorem g459 : (.code y_PR_under b_PR_under 6 (some .int) : Cond) ∈ gt := gt_in 487 rfl (by decide +kernel)
theorem g460 : (.methodLink R_PR 216 y_PR_isAsSeen : Cond) ∈ gt := gt_in 488 (by decide +kernel) (by decide +kernel)
theorem g462 : (.instanceMethod y_PR_isAsSeen : Cond) ∈ gt := gt_in 490 (by decide +kernel) (by decide +kernel)
set_option maxRecDepth 100000 in
theorem g463 : (.code y_PR_isAsSeen b_PR_isAsSeen 5 (some .boolean) : Cond) ∈ gt := gt_in 491 rfl (by decide +kernel)
theorem g464 : (.methodLink R_PR 251 y_Seen_at : Cond) ∈ gt := gt_in 492 (by decide +kernel) (by decide +kernel)
theorem g465 : (.instanceMethod y_Seen_at : Cond) ∈ gt := gt_in 493 (by decide +kernel) (by decide +kernel)
theorem g466 : (.selects R_Seen y_Seen_at y_Seen_at : Cond) ∈ gt := gt_in 494 (by decide +kernel) (by decide +kernel)
set_option maxRecDepth 100000 in
theorem g467 : (.code y_Seen_at b_Seen_at 4 (some .int) : Cond) ∈ gt := gt_in 495 rfl (by decide +kernel)
theorem g468 : (.methodLink R_PR 254 y_PR_layerOfRow : Cond) ∈ gt := gt_in 496 (by decide +kernel) (by decide +kernel)
theorem g469 : (.static y_PR_layerOfRow : Cond) ∈ gt := gt_in 497 (by decide +kernel) (by decide +kernel)
set_option maxRecDepth 100000 in
theorem g470 : (.code y_PR_layerOfRow b_PR_layerOfRow 2 (some .int) : Cond) ∈ gt := gt_in 498 rfl (by decide +kernel)
theorem g471 : (.methodLink R_PR 257 y_Hand_hails : Cond) ∈ gt := gt_in 499 (by decide +kernel) (by decide +kernel)
theorem g472 : (.methodLink R_Law 110 y_PR_rests : Cond) ∈ gt := gt_in 500 (by decide +kernel) (by decide +kernel)
theorem g473 : (.instanceMethod y_PR_rests : Cond) ∈ gt := gt_in 501 (by decide +kernel) (by decide +kernel)
theorem g474 : (.selects R_PR y_PR_rests y_PR_rests : Cond) ∈ gt := gt_in 502 (by decide +kernel) (by decide +kernel)
set_option maxRecDepth 100000 in
theorem g475 : (.code y_PR_rests b_PR_rests 8 (some .int) : Cond) ∈ gt := gt_in 503 rfl (by decide +kernel)
theorem g476 : (.methodLink R_PR 220 y_PR_isBestWait : Cond) ∈ gt := gt_in 504 (by decide +kernel) (by decide +kernel)
theorem g477 : (.static y_PR_isBestWait : Cond) ∈ gt := gt_in 505 (by decide +kernel) (by decide +kernel)
set_option maxRecDepth 100000 in
theorem g478 : (.code y_PR_isBestWait b_PR_isBestWait 4 (some .boolean) : Cond) ∈ gt := gt_in 506 rfl (by decide +kernel)
theorem g479 : (.methodLink R_PR 261 y_PR_gain : Cond) ∈ gt := gt_in 507 (by decide +kernel) (by decide +kernel)
theorem g480 : (.static y_PR_gain : Cond) ∈ gt := gt_in 508 (by decide +kernel) (by decide +kernel)
set_option maxRecDepth 100000 in
theorem g481 : (.code y_PR_gain b_PR_gain 4 (some .int) : Cond) ∈ gt := gt_in 509 rfl (by decide +kernel)
theorem g482 : (.methodLink R_Law 115 y_PR_wet : Cond) ∈ gt := gt_in 510 (by decide +kernel) (by decide +kernel)
theorem g483 : (.instanceMethod y_PR_wet : Cond) ∈ gt := gt_in 511 (by decide +kernel) (by decide +kernel)
theorem g484 : (.selects R_PR y_PR_wet y_PR_wet : Cond) ∈ gt := gt_in 512 (by decide +kernel) (by decide +kernel)
set_option maxRecDepth 100000 in
theorem g485 : (.code y_PR_wet b_PR_wet 10 (some .int) : Cond) ∈ gt := gt_in 513 rfl (by decide +kernel)
theorem g486 : (.methodLink R_Law 122 y_PR_seed : Cond) ∈ gt := gt_in 514 (by decide +kernel) (by decide +kernel)
theorem g487 : (.instanceMethod y_PR_seed : Cond) ∈ gt := gt_in 515 (by decide +kernel) (by decide +kernel)
theorem g488 : (.selects R_PR y_PR_seed y_PR_seed : Cond) ∈ gt := gt_in 516 (by decide +kernel) (by decide +kernel)
set_option maxRecDepth 100000 in
theorem g489 : (.code y_PR_seed b_PR_seed 5 (some .long) : Cond) ∈ gt := gt_in 517 rfl (by decide +kernel)
theorem g490 : (.methodLink R_Law 127 y_PR_years : Cond) ∈ gt := gt_in 518 (by decide +kernel) (by decide +kernel)
theorem g491 : (.instanceMethod y_PR_years : Cond) ∈ gt := gt_in 519 (by decide +kernel) (by decide +kernel)
theorem g492 : (.selects R_PR y_PR_years y_PR_years : Cond) ∈ gt := gt_in 520 (by decide +kernel) (by decide +kernel)
set_option maxRecDepth 100000 in
theorem g493 : (.code y_PR_years b_PR_years 6 (some .int) : Cond) ∈ gt := gt_in 521 rfl (by decide +kernel)
theorem g494 : (.constantLong R_PR 224 (6364136223846793005) : Cond) ∈ gt := gt_in 522 (by decide +kernel) (by decide +kernel)
theorem g495 : (.constantLong R_PR 226 (1442695040888963407) : Cond) ∈ gt := gt_in 523 (by decide +kernel) (by decide +kernel)
theorem g496 : (.constantLong R_PR 228 (12) : Cond) ∈ gt := gt_in 524 (by decide +kernel) (by decide +kernel)
theorem g497 : (.methodLink R_Law 131 y_PR_keep : Cond) ∈ gt := gt_in 525 (by decide +kernel) (by decide +kernel)
theorem g498 : (.instanceMethod y_PR_keep : Cond) ∈ gt := gt_in 526 (by decide +kernel) (by decide +kernel)
theorem g499 : (.selects R_PR y_PR_keep y_PR_keep : Cond) ∈ gt := gt_in 527 (by decide +kernel) (by decide +kernel)
set_option maxRecDepth 100000 in
theorem g500 : (.code y_PR_keep b_PR_keep 2 (some .int) : Cond) ∈ gt := gt_in 528 rfl (by decide +kernel)
theorem g501 : (.methodLink R_Law 135 y_PR_again : Cond) ∈ gt := gt_in 529 (by decide +kernel) (by decide +kernel)
theorem g502 : (.instanceMethod y_PR_again : Cond) ∈ gt := gt_in 530 (by decide +kernel) (by decide +kernel)
theorem g503 : (.selects R_PR y_PR_again y_PR_again : Cond) ∈ gt := gt_in 531 (by decide +kernel) (by decide +kernel)
set_option maxRecDepth 100000 in
theorem g504 : (.code y_PR_again b_PR_again 2 (some .int) : Cond) ∈ gt := gt_in 532 rfl (by decide +kernel)
theorem g505 : (.classLink R_Law 10 R_PM : Cond) ∈ gt := gt_in 533 (by decide +kernel) (by decide +kernel)
theorem g506 : (.instantiable R_PM 31 : Cond) ∈ gt := gt_in 534 (by decide +kernel) (by decide +kernel)
theorem g507 : (.methodLink R_Law 12 y_PM_init : Cond) ∈ gt := gt_in 535 (by decide +kernel) (by decide +kernel)
theorem g508 : (.instanceMethod y_PM_init : Cond) ∈ gt := gt_in 536 (by decide +kernel) (by decide +kernel)
set_option maxRecDepth 100000 in
theorem g509 : (.code y_PM_init b_PM_init 2 none : Cond) ∈ gt := gt_in 537 rfl (by decide +kernel)
theorem g510 : (.methodLink R_PM 1 objectInit : Cond) ∈ gt := gt_in 538 (by decide +kernel) (by decide +kernel)
theorem g511 : (.fieldLink R_PM 59 R_PM "thrown" "I" : Cond) ∈ gt := gt_in 539 (by decide +kernel) (by decide +kernel)
theorem g512 : (.fieldLink R_PM 7 R_PM "text" "[I" : Cond) ∈ gt := gt_in 540 (by decide +kernel) (by decide +kernel)
theorem g513 : (.fieldLink R_PM 74 R_PM "textSize" "I" : Cond) ∈ gt := gt_in 541 (by decide +kernel) (by decide +kernel)
theorem g514 : (.fieldLink R_PM 77 R_PM "place" "I" : Cond) ∈ gt := gt_in 542 (by decide +kernel) (by decide +kernel)
theorem g515 : (.fieldLink R_PM 13 R_PM "layer" "[I" : Cond) ∈ gt := gt_in 543 (by decide +kernel) (by decide +kernel)
theorem g516 : (.fieldLink R_PM 63 R_PM "cabmen" "I" : Cond) ∈ gt := gt_in 544 (by decide +kernel) (by decide +kernel)
theorem g517 : (.fieldLink R_PM 16 R_PM "cabman" "[I" : Cond) ∈ gt := gt_in 545 (by decide +kernel) (by decide +kernel)
theorem g518 : (.fieldLink R_PM 19 R_PM "readLayer" "[I" : Cond) ∈ gt := gt_in 546 (by decide +kernel) (by decide +kernel)
theorem g519 : (.fieldLink R_PM 84 R_PM "readCabmen" "I" : Cond) ∈ gt := gt_in 547 (by decide +kernel) (by decide +kernel)
theorem g520 : (.fieldLink R_PM 22 R_PM "readCabman" "[I" : Cond) ∈ gt := gt_in 548 (by decide +kernel) (by decide +kernel)
theorem g521 : (.fieldLink R_PM 25 R_PM "page" "[I" : Cond) ∈ gt := gt_in 549 (by decide +kernel) (by decide +kernel)
theorem g522 : (.fieldLink R_PM 28 R_PM "trial" "[I" : Cond) ∈ gt := gt_in 550 (by decide +kernel) (by decide +kernel)
theorem g523 : (.fieldLink R_PM 31 R_PM "book" "[I" : Cond) ∈ gt := gt_in 551 (by decide +kernel) (by decide +kernel)
theorem g524 : (.fieldLink R_PM 102 R_PM "acts" "I" : Cond) ∈ gt := gt_in 552 (by decide +kernel) (by decide +kernel)
theorem g525 : (.fieldLink R_PM 34 R_PM "kept" "[I" : Cond) ∈ gt := gt_in 553 (by decide +kernel) (by decide +kernel)
theorem g526 : (.fieldLink R_PM 37 R_PM "isKept" "[Z" : Cond) ∈ gt := gt_in 554 (by decide +kernel) (by decide +kernel)
theorem g527 : (.fieldLink R_PM 124 R_PM "seen" "I" : Cond) ∈ gt := gt_in 555 (by decide +kernel) (by decide +kernel)
theorem g528 : (.fieldLink R_PM 41 R_PM "seenCabman" "[I" : Cond) ∈ gt := gt_in 556 (by decide +kernel) (by decide +kernel)
theorem g529 : (.fieldLink R_PM 44 R_PM "seenFinger" "[I" : Cond) ∈ gt := gt_in 557 (by decide +kernel) (by decide +kernel)
theorem g530 : (.fieldLink R_PM 47 R_PM "seenOff" "[I" : Cond) ∈ gt := gt_in 558 (by decide +kernel) (by decide +kernel)
theorem g531 : (.fieldLink R_PM 50 R_PM "seenCame" "[I" : Cond) ∈ gt := gt_in 559 (by decide +kernel) (by decide +kernel)
theorem g532 : (.fieldLink R_PM 224 R_PM "seed" "J" : Cond) ∈ gt := gt_in 560 (by decide +kernel) (by decide +kernel)
theorem g533 : (.fieldLink R_PM 171 R_PM "bestCleaning" "I" : Cond) ∈ gt := gt_in 561 (by decide +kernel) (by decide +kernel)
theorem g534 : (.fieldLink R_PM 168 R_PM "bestLayers" "I" : Cond) ∈ gt := gt_in 562 (by decide +kernel) (by decide +kernel)
theorem g535 : (.fieldLink R_PM 156 R_PM "bestMany" "I" : Cond) ∈ gt := gt_in 563 (by decide +kernel) (by decide +kernel)
theorem g536 : (.fieldLink R_PM 201 R_PM "underMany" "I" : Cond) ∈ gt := gt_in 564 (by decide +kernel) (by decide +kernel)
theorem g537 : (.fieldLink R_PM 204 R_PM "underLeast" "I" : Cond) ∈ gt := gt_in 565 (by decide +kernel) (by decide +kernel)
theorem g538 : (.fieldLink R_PM 210 R_PM "restMany" "I" : Cond) ∈ gt := gt_in 566 (by decide +kernel) (by decide +kernel)
theorem g539 : (.fieldLink R_PM 213 R_PM "restFirst" "I" : Cond) ∈ gt := gt_in 567 (by decide +kernel) (by decide +kernel)
theorem g540 : (.fieldLink R_PM 53 R_PM "value" "[I" : Cond) ∈ gt := gt_in 568 (by decide +kernel) (by decide +kernel)
theorem g541 : (.fieldLink R_PM 56 R_PM "shows" "[I" : Cond) ∈ gt := gt_in 569 (by decide +kernel) (by decide +kernel)
theorem g605 : (.arrayClass .boolean : Cond) ∈ gt := gt_in 633 (by decide +kernel) (by decide +kernel)
theorem g606 : (.methodLink R_Law 17 y_PM_write : Cond) ∈ gt := gt_in 634 (by decide +kernel) (by decide +kernel)
theorem g607 : (.instanceMethod y_PM_write : Cond) ∈ gt := gt_in 635 (by decide +kernel) (by decide +kernel)
theorem g608 : (.selects R_PM y_PM_write y_PM_write : Cond) ∈ gt := gt_in 636 (by decide +kernel) (by decide +kernel)
set_option maxRecDepth 100000 in
theorem g609 : (.code y_PM_write b_PM_write 2 (some .int) : Cond) ∈ gt := gt_in 637 rfl (by decide +kernel)
theorem g610 : (.constantLong R_PM 72 (255) : Cond) ∈ gt := gt_in 638 (by decide +kernel) (by decide +kernel)
theorem g611 : (.methodLink R_PM 66 y_PM_in : Cond) ∈ gt := gt_in 639 (by decide +kernel) (by decide +kernel)
theorem g612 : (.static y_PM_in : Cond) ∈ gt := gt_in 640 (by decide +kernel) (by decide +kernel)
set_option maxRecDepth 100000 in
theorem g613 : (.code y_PM_in b_PM_in 6 (some .boolean) : Cond) ∈ gt := gt_in 641 rfl (by decide +kernel)
theorem g614 : (.methodLink R_Law 22 y_PM_wipe : Cond) ∈ gt := gt_in 642 (by decide +kernel) (by decide +kernel)
theorem g615 : (.instanceMethod y_PM_wipe : Cond) ∈ gt := gt_in 643 (by decide +kernel) (by decide +kernel)
theorem g616 : (.selects R_PM y_PM_wipe y_PM_wipe : Cond) ∈ gt := gt_in 644 (by decide +kernel) (by decide +kernel)
set_option maxRecDepth 100000 in
theorem g617 : (.code y_PM_wipe b_PM_wipe 2 (some .int) : Cond) ∈ gt := gt_in 645 rfl (by decide +kernel)
theorem g618 : (.methodLink R_Law 26 y_PM_fault : Cond) ∈ gt := gt_in 646 (by decide +kernel) (by decide +kernel)
theorem g619 : (.instanceMethod y_PM_fault : Cond) ∈ gt := gt_in 647 (by decide +kernel) (by decide +kernel)
theorem g620 : (.selects R_PM y_PM_fault y_PM_fault : Cond) ∈ gt := gt_in 648 (by decide +kernel) (by decide +kernel)
set_option maxRecDepth 100000 in
theorem g621 : (.code y_PM_fault b_PM_fault 1 (some .int) : Cond) ∈ gt := gt_in 649 rfl (by decide +kernel)
theorem g622 : (.methodLink R_PM 94 y_PM_readHall : Cond) ∈ gt := gt_in 650 (by decide +kernel) (by decide +kernel)
theorem g624 : (.instanceMethod y_PM_readHall : Cond) ∈ gt := gt_in 652 (by decide +kernel) (by decide +kernel)
set_option maxRecDepth 100000 in
theorem g625 : (.code y_PM_readHall b_PM_readHall 1 (some .int) : Cond) ∈ gt := gt_in 653 rfl (by decide +kernel)
theorem g626 : (.methodLink R_PM 87 y_PM_readLayers : Cond) ∈ gt := gt_in 654 (by decide +kernel) (by decide +kernel)
theorem g628 : (.instanceMethod y_PM_readLayers : Cond) ∈ gt := gt_in 656 (by decide +kernel) (by decide +kernel)
set_option maxRecDepth 100000 in
theorem g629 : (.code y_PM_readLayers b_PM_readLayers 3 (some .boolean) : Cond) ∈ gt := gt_in 657 rfl (by decide +kernel)
theorem g630 : (.methodLink R_PM 80 y_PM_figure : Cond) ∈ gt := gt_in 658 (by decide +kernel) (by decide +kernel)
theorem g632 : (.instanceMethod y_PM_figure : Cond) ∈ gt := gt_in 660 (by decide +kernel) (by decide +kernel)
set_option maxRecDepth 100000 in
theorem g633 : (.code y_PM_figure b_PM_figure 3 (some .int) : Cond) ∈ gt := gt_in 661 rfl (by decide +kernel)
theorem g634 : (.methodLink R_PM 91 y_PM_readOne : Cond) ∈ gt := gt_in 662 (by decide +kernel) (by decide +kernel)
theorem g636 : (.instanceMethod y_PM_readOne : Cond) ∈ gt := gt_in 664 (by decide +kernel) (by decide +kernel)
set_option maxRecDepth 100000 in
theorem g637 : (.code y_PM_readOne b_PM_readOne 3 (some .boolean) : Cond) ∈ gt := gt_in 665 rfl (by decide +kernel)
theorem g638 : (.methodLink R_Law 30 y_PM_hall : Cond) ∈ gt := gt_in 666 (by decide +kernel) (by decide +kernel)
theorem g639 : (.instanceMethod y_PM_hall : Cond) ∈ gt := gt_in 667 (by decide +kernel) (by decide +kernel)
theorem g640 : (.selects R_PM y_PM_hall y_PM_hall : Cond) ∈ gt := gt_in 668 (by decide +kernel) (by decide +kernel)
set_option maxRecDepth 100000 in
theorem g641 : (.code y_PM_hall b_PM_hall 2 (some .int) : Cond) ∈ gt := gt_in 669 rfl (by decide +kernel)
theorem g642 : (.constantLong R_PM 98 (10) : Cond) ∈ gt := gt_in 670 (by decide +kernel) (by decide +kernel)
theorem g643 : (.constantLong R_PM 100 (14) : Cond) ∈ gt := gt_in 671 (by decide +kernel) (by decide +kernel)
theorem g644 : (.methodLink R_Law 34 y_PM_about : Cond) ∈ gt := gt_in 672 (by decide +kernel) (by decide +kernel)
theorem g645 : (.instanceMethod y_PM_about : Cond) ∈ gt := gt_in 673 (by decide +kernel) (by decide +kernel)
theorem g646 : (.selects R_PM y_PM_about y_PM_about : Cond) ∈ gt := gt_in 674 (by decide +kernel) (by decide +kernel)
set_option maxRecDepth 100000 in
theorem g647 : (.code y_PM_about b_PM_about 4 (some .int) : Cond) ∈ gt := gt_in 675 rfl (by decide +kernel)
theorem g648 : (.methodLink R_PM 112 y_PM_layShown : Cond) ∈ gt := gt_in 676 (by decide +kernel) (by decide +kernel)
theorem g650 : (.instanceMethod y_PM_layShown : Cond) ∈ gt := gt_in 678 (by decide +kernel) (by decide +kernel)
set_option maxRecDepth 100000 in
theorem g651 : (.code y_PM_layShown b_PM_layShown 3 none : Cond) ∈ gt := gt_in 679 rfl (by decide +kernel)
theorem g652 : (.methodLink R_PM 116 y_PM_waitsOf : Cond) ∈ gt := gt_in 680 (by decide +kernel) (by decide +kernel)
theorem g653 : (.static y_PM_waitsOf : Cond) ∈ gt := gt_in 681 (by decide +kernel) (by decide +kernel)
set_option maxRecDepth 100000 in
theorem g654 : (.code y_PM_waitsOf b_PM_waitsOf 3 (some .int) : Cond) ∈ gt := gt_in 682 rfl (by decide +kernel)
theorem g655 : (.methodLink R_PM 120 y_PM_calledOf : Cond) ∈ gt := gt_in 683 (by decide +kernel) (by decide +kernel)
theorem g657 : (.instanceMethod y_PM_calledOf : Cond) ∈ gt := gt_in 685 (by decide +kernel) (by decide +kernel)
set_option maxRecDepth 100000 in
theorem g658 : (.code y_PM_calledOf b_PM_calledOf 4 (some .int) : Cond) ∈ gt := gt_in 686 rfl (by decide +kernel)
theorem g659 : (.methodLink R_PM 109 y_PM_isCalled : Cond) ∈ gt := gt_in 687 (by decide +kernel) (by decide +kernel)
theorem g661 : (.instanceMethod y_PM_isCalled : Cond) ∈ gt := gt_in 689 (by decide +kernel) (by decide +kernel)
set_option maxRecDepth 100000 in
theorem g662 : (.code y_PM_isCalled b_PM_isCalled 7 (some .boolean) : Cond) ∈ gt := gt_in 690 rfl (by decide +kernel)
theorem g663 : (.methodLink R_PM 105 y_PM_has : Cond) ∈ gt := gt_in 691 (by decide +kernel) (by decide +kernel)
theorem g664 : (.static y_PM_has : Cond) ∈ gt := gt_in 692 (by decide +kernel) (by decide +kernel)
set_option maxRecDepth 100000 in
theorem g665 : (.code y_PM_has b_PM_has 2 (some .boolean) : Cond) ∈ gt := gt_in 693 rfl (by decide +kernel)
theorem g666 : (.methodLink R_Law 39 y_PM_finger : Cond) ∈ gt := gt_in 694 (by decide +kernel) (by decide +kernel)
theorem g667 : (.instanceMethod y_PM_finger : Cond) ∈ gt := gt_in 695 (by decide +kernel) (by decide +kernel)
theorem g668 : (.selects R_PM y_PM_finger y_PM_finger : Cond) ∈ gt := gt_in 696 (by decide +kernel) (by decide +kernel)
set_option maxRecDepth 100000 in
theorem g669 : (.code y_PM_finger b_PM_finger 3 (some .int) : Cond) ∈ gt := gt_in 697 rfl (by decide +kernel)
theorem g670 : (.methodLink R_PM 127 y_PM_noFinger : Cond) ∈ gt := gt_in 698 (by decide +kernel) (by decide +kernel)
theorem g671 : (.static y_PM_noFinger : Cond) ∈ gt := gt_in 699 (by decide +kernel) (by decide +kernel)
set_option maxRecDepth 100000 in
theorem g672 : (.code y_PM_noFinger b_PM_noFinger 1 (some .boolean) : Cond) ∈ gt := gt_in 700 rfl (by decide +kernel)
theorem g673 : (.constantLong R_PM 70 (3) : Cond) ∈ gt := gt_in 701 (by decide +kernel) (by decide +kernel)
theorem g674 : (.constantLong R_PM 131 (2) : Cond) ∈ gt := gt_in 702 (by decide +kernel) (by decide +kernel)
theorem g675 : (.methodLink R_Law 43 y_PM_cabman : Cond) ∈ gt := gt_in 703 (by decide +kernel) (by decide +kernel)
theorem g676 : (.instanceMethod y_PM_cabman : Cond) ∈ gt := gt_in 704 (by decide +kernel) (by decide +kernel)
theorem g677 : (.selects R_PM y_PM_cabman y_PM_cabman : Cond) ∈ gt := gt_in 705 (by decide +kernel) (by decide +kernel)
set_option maxRecDepth 100000 in
theorem g678 : (.code y_PM_cabman b_PM_cabman 3 (some .int) : Cond) ∈ gt := gt_in 706 rfl (by decide +kernel)
theorem g679 : (.methodLink R_PM 133 y_PM_noCabman : Cond) ∈ gt := gt_in 707 (by decide +kernel) (by decide +kernel)
theorem g681 : (.instanceMethod y_PM_noCabman : Cond) ∈ gt := gt_in 709 (by decide +kernel) (by decide +kernel)
set_option maxRecDepth 100000 in
theorem g682 : (.code y_PM_noCabman b_PM_noCabman 2 (some .boolean) : Cond) ∈ gt := gt_in 710 rfl (by decide +kernel)
theorem g683 : (.constantLong R_PM 136 (5) : Cond) ∈ gt := gt_in 711 (by decide +kernel) (by decide +kernel)
theorem g684 : (.methodLink R_Law 47 y_PM_night : Cond) ∈ gt := gt_in 712 (by decide +kernel) (by decide +kernel)
theorem g685 : (.instanceMethod y_PM_night : Cond) ∈ gt := gt_in 713 (by decide +kernel) (by decide +kernel)
theorem g686 : (.selects R_PM y_PM_night y_PM_night : Cond) ∈ gt := gt_in 714 (by decide +kernel) (by decide +kernel)
set_option maxRecDepth 100000 in
theorem g687 : (.code y_PM_night b_PM_night 1 (some .int) : Cond) ∈ gt := gt_in 715 rfl (by decide +kernel)
theorem g688 : (.methodLink R_PM 142 y_PM_note : Cond) ∈ gt := gt_in 716 (by decide +kernel) (by decide +kernel)
theorem g690 : (.instanceMethod y_PM_note : Cond) ∈ gt := gt_in 718 (by decide +kernel) (by decide +kernel)
set_option maxRecDepth 100000 in
theorem g691 : (.code y_PM_note b_PM_note 2 none : Cond) ∈ gt := gt_in 719 rfl (by decide +kernel)
theorem g692 : (.methodLink R_PM 145 y_PM_goNight : Cond) ∈ gt := gt_in 720 (by decide +kernel) (by decide +kernel)
theorem g694 : (.instanceMethod y_PM_goNight : Cond) ∈ gt := gt_in 722 (by decide +kernel) (by decide +kernel)
set_option maxRecDepth 100000 in
theorem g695 : (.code y_PM_goNight b_PM_goNight 6 none : Cond) ∈ gt := gt_in 723 rfl (by decide +kernel)
theorem g696 : (.methodLink R_PM 138 y_PM_goAway : Cond) ∈ gt := gt_in 724 (by decide +kernel) (by decide +kernel)
theorem g697 : (.static y_PM_goAway : Cond) ∈ gt := gt_in 725 (by decide +kernel) (by decide +kernel)
set_option maxRecDepth 100000 in
theorem g698 : (.code y_PM_goAway b_PM_goAway 4 none : Cond) ∈ gt := gt_in 726 rfl (by decide +kernel)
theorem g699 : (.methodLink R_Law 51 y_PM_clean : Cond) ∈ gt := gt_in 727 (by decide +kernel) (by decide +kernel)
theorem g700 : (.instanceMethod y_PM_clean : Cond) ∈ gt := gt_in 728 (by decide +kernel) (by decide +kernel)
theorem g701 : (.selects R_PM y_PM_clean y_PM_clean : Cond) ∈ gt := gt_in 729 (by decide +kernel) (by decide +kernel)
set_option maxRecDepth 100000 in
theorem g702 : (.code y_PM_clean b_PM_clean 2 (some .int) : Cond) ∈ gt := gt_in 730 rfl (by decide +kernel)
theorem g703 : (.methodLink R_Law 55 y_PM_paint : Cond) ∈ gt := gt_in 731 (by decide +kernel) (by decide +kernel)
theorem g704 : (.instanceMethod y_PM_paint : Cond) ∈ gt := gt_in 732 (by decide +kernel) (by decide +kernel)
theorem g705 : (.selects R_PM y_PM_paint y_PM_paint : Cond) ∈ gt := gt_in 733 (by decide +kernel) (by decide +kernel)
set_option maxRecDepth 100000 in
theorem g706 : (.code y_PM_paint b_PM_paint 2 (some .int) : Cond) ∈ gt := gt_in 734 rfl (by decide +kernel)
theorem g707 : (.methodLink R_Law 59 y_PM_send : Cond) ∈ gt := gt_in 735 (by decide +kernel) (by decide +kernel)
theorem g708 : (.instanceMethod y_PM_send : Cond) ∈ gt := gt_in 736 (by decide +kernel) (by decide +kernel)
theorem g709 : (.selects R_PM y_PM_send y_PM_send : Cond) ∈ gt := gt_in 737 (by decide +kernel) (by decide +kernel)
set_option maxRecDepth 100000 in
theorem g710 : (.code y_PM_send b_PM_send 2 (some .int) : Cond) ∈ gt := gt_in 738 rfl (by decide +kernel)
theorem g711 : (.methodLink R_Law 63 y_PM_undo : Cond) ∈ gt := gt_in 739 (by decide +kernel) (by decide +kernel)
theorem g712 : (.instanceMethod y_PM_undo : Cond) ∈ gt := gt_in 740 (by decide +kernel) (by decide +kernel)
theorem g713 : (.selects R_PM y_PM_undo y_PM_undo : Cond) ∈ gt := gt_in 741 (by decide +kernel) (by decide +kernel)
set_option maxRecDepth 100000 in
theorem g714 : (.code y_PM_undo b_PM_undo 2 (some .int) : Cond) ∈ gt := gt_in 742 rfl (by decide +kernel)
theorem g715 : (.methodLink R_Law 67 y_PM_call : Cond) ∈ gt := gt_in 743 (by decide +kernel) (by decide +kernel)
theorem g716 : (.instanceMethod y_PM_call : Cond) ∈ gt := gt_in 744 (by decide +kernel) (by decide +kernel)
theorem g717 : (.selects R_PM y_PM_call y_PM_call : Cond) ∈ gt := gt_in 745 (by decide +kernel) (by decide +kernel)
set_option maxRecDepth 100000 in
theorem g718 : (.code y_PM_call b_PM_call 2 (some .int) : Cond) ∈ gt := gt_in 746 rfl (by decide +kernel)
theorem g719 : (.methodLink R_PM 153 y_PM_layCleaning : Cond) ∈ gt := gt_in 747 (by decide +kernel) (by decide +kernel)
theorem g721 : (.instanceMethod y_PM_layCleaning : Cond) ∈ gt := gt_in 749 (by decide +kernel) (by decide +kernel)
set_option maxRecDepth 100000 in
theorem g722 : (.code y_PM_layCleaning b_PM_layCleaning 5 (some .boolean) : Cond) ∈ gt := gt_in 750 rfl (by decide +kernel)
theorem g723 : (.constantLong R_PM 148 (2222) : Cond) ∈ gt := gt_in 751 (by decide +kernel) (by decide +kernel)
theorem g724 : (.methodLink R_PM 150 y_PM_power : Cond) ∈ gt := gt_in 752 (by decide +kernel) (by decide +kernel)
theorem g725 : (.static y_PM_power : Cond) ∈ gt := gt_in 753 (by decide +kernel) (by decide +kernel)
set_option maxRecDepth 100000 in
theorem g726 : (.code y_PM_power b_PM_power 4 (some .int) : Cond) ∈ gt := gt_in 754 rfl (by decide +kernel)
theorem g727 : (.methodLink R_Law 71 y_PM_best : Cond) ∈ gt := gt_in 755 (by decide +kernel) (by decide +kernel)
theorem g728 : (.instanceMethod y_PM_best : Cond) ∈ gt := gt_in 756 (by decide +kernel) (by decide +kernel)
theorem g729 : (.selects R_PM y_PM_best y_PM_best : Cond) ∈ gt := gt_in 757 (by decide +kernel) (by decide +kernel)
set_option maxRecDepth 100000 in
theorem g730 : (.code y_PM_best b_PM_best 2 (some .int) : Cond) ∈ gt := gt_in 758 rfl (by decide +kernel)
theorem g731 : (.methodLink R_PM 174 y_PM_findBest : Cond) ∈ gt := gt_in 759 (by decide +kernel) (by decide +kernel)
theorem g733 : (.instanceMethod y_PM_findBest : Cond) ∈ gt := gt_in 761 (by decide +kernel) (by decide +kernel)
set_option maxRecDepth 100000 in
theorem g734 : (.code y_PM_findBest b_PM_findBest 3 none : Cond) ∈ gt := gt_in 762 rfl (by decide +kernel)
theorem g735 : (.methodLink R_PM 159 y_PM_figuresOf : Cond) ∈ gt := gt_in 763 (by decide +kernel) (by decide +kernel)
theorem g736 : (.static y_PM_figuresOf : Cond) ∈ gt := gt_in 764 (by decide +kernel) (by decide +kernel)
set_option maxRecDepth 100000 in
theorem g737 : (.code y_PM_figuresOf b_PM_figuresOf 1 (some .int) : Cond) ∈ gt := gt_in 765 rfl (by decide +kernel)
theorem g738 : (.methodLink R_PM 162 y_PM_many : Cond) ∈ gt := gt_in 766 (by decide +kernel) (by decide +kernel)
theorem g739 : (.static y_PM_many : Cond) ∈ gt := gt_in 767 (by decide +kernel) (by decide +kernel)
set_option maxRecDepth 100000 in
theorem g740 : (.code y_PM_many b_PM_many 3 (some .int) : Cond) ∈ gt := gt_in 768 rfl (by decide +kernel)
theorem g741 : (.methodLink R_PM 165 y_PM_layersOf : Cond) ∈ gt := gt_in 769 (by decide +kernel) (by decide +kernel)
theorem g742 : (.static y_PM_layersOf : Cond) ∈ gt := gt_in 770 (by decide +kernel) (by decide +kernel)
set_option maxRecDepth 100000 in
theorem g743 : (.code y_PM_layersOf b_PM_layersOf 1 (some .int) : Cond) ∈ gt := gt_in 771 rfl (by decide +kernel)
theorem g744 : (.methodLink R_Law 75 y_PM_strokes : Cond) ∈ gt := gt_in 772 (by decide +kernel) (by decide +kernel)
theorem g745 : (.instanceMethod y_PM_strokes : Cond) ∈ gt := gt_in 773 (by decide +kernel) (by decide +kernel)
theorem g746 : (.selects R_PM y_PM_strokes y_PM_strokes : Cond) ∈ gt := gt_in 774 (by decide +kernel) (by decide +kernel)
set_option maxRecDepth 100000 in
theorem g747 : (.code y_PM_strokes b_PM_strokes 3 (some .int) : Cond) ∈ gt := gt_in 775 rfl (by decide +kernel)
theorem g748 : (.methodLink R_PM 177 y_PM_findStrokes : Cond) ∈ gt := gt_in 776 (by decide +kernel) (by decide +kernel)
theorem g750 : (.instanceMethod y_PM_findStrokes : Cond) ∈ gt := gt_in 778 (by decide +kernel) (by decide +kernel)
set_option maxRecDepth 100000 in
theorem g751 : (.code y_PM_findStrokes b_PM_findStrokes 4 none : Cond) ∈ gt := gt_in 779 rfl (by decide +kernel)
theorem g752 : (.methodLink R_Law 79 y_PM_peace : Cond) ∈ gt := gt_in 780 (by decide +kernel) (by decide +kernel)
theorem g753 : (.instanceMethod y_PM_peace : Cond) ∈ gt := gt_in 781 (by decide +kernel) (by decide +kernel)
theorem g754 : (.selects R_PM y_PM_peace y_PM_peace : Cond) ∈ gt := gt_in 782 (by decide +kernel) (by decide +kernel)
set_option maxRecDepth 100000 in
theorem g755 : (.code y_PM_peace b_PM_peace 2 (some .int) : Cond) ∈ gt := gt_in 783 rfl (by decide +kernel)
theorem g756 : (.methodLink R_Law 83 y_PM_givesUp : Cond) ∈ gt := gt_in 784 (by decide +kernel) (by decide +kernel)
theorem g757 : (.instanceMethod y_PM_givesUp : Cond) ∈ gt := gt_in 785 (by decide +kernel) (by decide +kernel)
theorem g758 : (.selects R_PM y_PM_givesUp y_PM_givesUp : Cond) ∈ gt := gt_in 786 (by decide +kernel) (by decide +kernel)
set_option maxRecDepth 100000 in
theorem g759 : (.code y_PM_givesUp b_PM_givesUp 3 (some .int) : Cond) ∈ gt := gt_in 787 rfl (by decide +kernel)
theorem g760 : (.methodLink R_PM 181 y_PM_begin : Cond) ∈ gt := gt_in 788 (by decide +kernel) (by decide +kernel)
theorem g762 : (.instanceMethod y_PM_begin : Cond) ∈ gt := gt_in 790 (by decide +kernel) (by decide +kernel)
set_option maxRecDepth 100000 in
theorem g763 : (.code y_PM_begin b_PM_begin 2 none : Cond) ∈ gt := gt_in 791 rfl (by decide +kernel)
theorem g764 : (.methodLink R_Law 87 y_PM_longest : Cond) ∈ gt := gt_in 792 (by decide +kernel) (by decide +kernel)
theorem g765 : (.instanceMethod y_PM_longest : Cond) ∈ gt := gt_in 793 (by decide +kernel) (by decide +kernel)
theorem g766 : (.selects R_PM y_PM_longest y_PM_longest : Cond) ∈ gt := gt_in 794 (by decide +kernel) (by decide +kernel)
set_option maxRecDepth 100000 in
theorem g767 : (.code y_PM_longest b_PM_longest 4 (some .int) : Cond) ∈ gt := gt_in 795 rfl (by decide +kernel)
theorem g768 : (.constantLong R_PM 184 (30) : Cond) ∈ gt := gt_in 796 (by decide +kernel) (by decide +kernel)
theorem g769 : (.methodLink R_Law 91 y_PM_judge : Cond) ∈ gt := gt_in 797 (by decide +kernel) (by decide +kernel)
theorem g770 : (.instanceMethod y_PM_judge : Cond) ∈ gt := gt_in 798 (by decide +kernel) (by decide +kernel)
theorem g771 : (.selects R_PM y_PM_judge y_PM_judge : Cond) ∈ gt := gt_in 799 (by decide +kernel) (by decide +kernel)
set_option maxRecDepth 100000 in
theorem g772 : (.code y_PM_judge b_PM_judge 4 (some .int) : Cond) ∈ gt := gt_in 800 rfl (by decide +kernel)
theorem g773 : (.constantLong R_PM 186 (4) : Cond) ∈ gt := gt_in 801 (by decide +kernel) (by decide +kernel)
theorem g774 : (.methodLink R_PM 188 y_PM_does : Cond) ∈ gt := gt_in 802 (by decide +kernel) (by decide +kernel)
theorem g776 : (.instanceMethod y_PM_does : Cond) ∈ gt := gt_in 804 (by decide +kernel) (by decide +kernel)
set_option maxRecDepth 100000 in
theorem g777 : (.code y_PM_does b_PM_does 4 (some .boolean) : Cond) ∈ gt := gt_in 805 rfl (by decide +kernel)
theorem g778 : (.methodLink R_Law 96 y_PM_share : Cond) ∈ gt := gt_in 806 (by decide +kernel) (by decide +kernel)
theorem g779 : (.instanceMethod y_PM_share : Cond) ∈ gt := gt_in 807 (by decide +kernel) (by decide +kernel)
theorem g780 : (.selects R_PM y_PM_share y_PM_share : Cond) ∈ gt := gt_in 808 (by decide +kernel) (by decide +kernel)
set_option maxRecDepth 100000 in
theorem g781 : (.code y_PM_share b_PM_share 6 (some .int) : Cond) ∈ gt := gt_in 809 rfl (by decide +kernel)
theorem g782 : (.methodLink R_PM 194 y_PM_ways : Cond) ∈ gt := gt_in 810 (by decide +kernel) (by decide +kernel)
theorem g783 : (.static y_PM_ways : Cond) ∈ gt := gt_in 811 (by decide +kernel) (by decide +kernel)
set_option maxRecDepth 100000 in
theorem g784 : (.code y_PM_ways b_PM_ways 3 (some .int) : Cond) ∈ gt := gt_in 812 rfl (by decide +kernel)
theorem g785 : (.methodLink R_PM 197 y_PM_fraction : Cond) ∈ gt := gt_in 813 (by decide +kernel) (by decide +kernel)
theorem g786 : (.static y_PM_fraction : Cond) ∈ gt := gt_in 814 (by decide +kernel) (by decide +kernel)
set_option maxRecDepth 100000 in
theorem g787 : (.code y_PM_fraction b_PM_fraction 4 (some .int) : Cond) ∈ gt := gt_in 815 rfl (by decide +kernel)
theorem g788 : (.methodLink R_PM 191 y_PM_divisor : Cond) ∈ gt := gt_in 816 (by decide +kernel) (by decide +kernel)
theorem g789 : (.static y_PM_divisor : Cond) ∈ gt := gt_in 817 (by decide +kernel) (by decide +kernel)
set_option maxRecDepth 100000 in
theorem g790 : (.code y_PM_divisor b_PM_divisor 5 (some .int) : Cond) ∈ gt := gt_in 818 rfl (by decide +kernel)
theorem g791 : (.methodLink R_Law 101 y_PM_see : Cond) ∈ gt := gt_in 819 (by decide +kernel) (by decide +kernel)
theorem g792 : (.instanceMethod y_PM_see : Cond) ∈ gt := gt_in 820 (by decide +kernel) (by decide +kernel)
theorem g793 : (.selects R_PM y_PM_see y_PM_see : Cond) ∈ gt := gt_in 821 (by decide +kernel) (by decide +kernel)
set_option maxRecDepth 100000 in
theorem g794 : (.code y_PM_see b_PM_see 5 (some .int) : Cond) ∈ gt := gt_in 822 rfl (by decide +kernel)
theorem g795 : (.methodLink R_Law 105 y_PM_unsee : Cond) ∈ gt := gt_in 823 (by decide +kernel) (by decide +kernel)
theorem g796 : (.instanceMethod y_PM_unsee : Cond) ∈ gt := gt_in 824 (by decide +kernel) (by decide +kernel)
theorem g797 : (.selects R_PM y_PM_unsee y_PM_unsee : Cond) ∈ gt := gt_in 825 (by decide +kernel) (by decide +kernel)
set_option maxRecDepth 100000 in
theorem g798 : (.code y_PM_unsee b_PM_unsee 2 (some .int) : Cond) ∈ gt := gt_in 826 rfl (by decide +kernel)
theorem g799 : (.methodLink R_Law 109 y_PM_under : Cond) ∈ gt := gt_in 827 (by decide +kernel) (by decide +kernel)
theorem g800 : (.instanceMethod y_PM_under : Cond) ∈ gt := gt_in 828 (by decide +kernel) (by decide +kernel)
theorem g801 : (.selects R_PM y_PM_under y_PM_under : Cond) ∈ gt := gt_in 829 (by decide +kernel) (by decide +kernel)
set_option maxRecDepth 100000 in
theorem g802 : (.code y_PM_under b_PM_under 3 (some .int) : Cond) ∈ gt := gt_in 830 rfl (by decide +kernel)
theorem g803 : (.methodLink R_PM 207 y_PM_findUnder : Cond) ∈ gt := gt_in 831 (by decide +kernel) (by decide +kernel)
theorem g805 : (.instanceMethod y_PM_findUnder : Cond) ∈ gt := gt_in 833 (by decide +kernel) (by decide +kernel)
set_option maxRecDepth 100000 in
theorem g806 : (.code y_PM_findUnder b_PM_findUnder 6 none : Cond) ∈ gt := gt_in 834 rfl (by decide +kernel)
theorem g807 : (.methodLink R_Law 114 y_PM_rests : Cond) ∈ gt := gt_in 835 (by decide +kernel) (by decide +kernel)
theorem g808 : (.instanceMethod y_PM_rests : Cond) ∈ gt := gt_in 836 (by decide +kernel) (by decide +kernel)
theorem g809 : (.selects R_PM y_PM_rests y_PM_rests : Cond) ∈ gt := gt_in 837 (by decide +kernel) (by decide +kernel)
set_option maxRecDepth 100000 in
theorem g810 : (.code y_PM_rests b_PM_rests 4 (some .int) : Cond) ∈ gt := gt_in 838 rfl (by decide +kernel)
theorem g811 : (.methodLink R_PM 220 y_PM_findRests : Cond) ∈ gt := gt_in 839 (by decide +kernel) (by decide +kernel)
theorem g813 : (.instanceMethod y_PM_findRests : Cond) ∈ gt := gt_in 841 (by decide +kernel) (by decide +kernel)
set_option maxRecDepth 100000 in
theorem g814 : (.code y_PM_findRests b_PM_findRests 7 none : Cond) ∈ gt := gt_in 842 rfl (by decide +kernel)
theorem g815 : (.methodLink R_PM 216 y_PM_gainOf : Cond) ∈ gt := gt_in 843 (by decide +kernel) (by decide +kernel)
theorem g817 : (.instanceMethod y_PM_gainOf : Cond) ∈ gt := gt_in 845 (by decide +kernel) (by decide +kernel)
set_option maxRecDepth 100000 in
theorem g818 : (.code y_PM_gainOf b_PM_gainOf 4 (some .int) : Cond) ∈ gt := gt_in 846 rfl (by decide +kernel)
theorem g819 : (.methodLink R_Law 119 y_PM_wet : Cond) ∈ gt := gt_in 847 (by decide +kernel) (by decide +kernel)
theorem g820 : (.instanceMethod y_PM_wet : Cond) ∈ gt := gt_in 848 (by decide +kernel) (by decide +kernel)
theorem g821 : (.selects R_PM y_PM_wet y_PM_wet : Cond) ∈ gt := gt_in 849 (by decide +kernel) (by decide +kernel)
set_option maxRecDepth 100000 in
theorem g822 : (.code y_PM_wet b_PM_wet 8 (some .int) : Cond) ∈ gt := gt_in 850 rfl (by decide +kernel)
theorem g823 : (.methodLink R_Law 126 y_PM_seed : Cond) ∈ gt := gt_in 851 (by decide +kernel) (by decide +kernel)
theorem g824 : (.instanceMethod y_PM_seed : Cond) ∈ gt := gt_in 852 (by decide +kernel) (by decide +kernel)
theorem g825 : (.selects R_PM y_PM_seed y_PM_seed : Cond) ∈ gt := gt_in 853 (by decide +kernel) (by decide +kernel)
set_option maxRecDepth 100000 in
theorem g826 : (.code y_PM_seed b_PM_seed 5 (some .long) : Cond) ∈ gt := gt_in 854 rfl (by decide +kernel)
theorem g827 : (.methodLink R_Law 130 y_PM_years : Cond) ∈ gt := gt_in 855 (by decide +kernel) (by decide +kernel)
theorem g828 : (.instanceMethod y_PM_years : Cond) ∈ gt := gt_in 856 (by decide +kernel) (by decide +kernel)
theorem g829 : (.selects R_PM y_PM_years y_PM_years : Cond) ∈ gt := gt_in 857 (by decide +kernel) (by decide +kernel)
set_option maxRecDepth 100000 in
theorem g830 : (.code y_PM_years b_PM_years 5 (some .int) : Cond) ∈ gt := gt_in 858 rfl (by decide +kernel)
theorem g831 : (.constantLong R_PM 228 (6364136223846793005) : Cond) ∈ gt := gt_in 859 (by decide +kernel) (by decide +kernel)
theorem g832 : (.constantLong R_PM 230 (1442695040888963407) : Cond) ∈ gt := gt_in 860 (by decide +kernel) (by decide +kernel)
theorem g833 : (.constantLong R_PM 232 (12) : Cond) ∈ gt := gt_in 861 (by decide +kernel) (by decide +kernel)
theorem g834 : (.methodLink R_Law 134 y_PM_keep : Cond) ∈ gt := gt_in 862 (by decide +kernel) (by decide +kernel)
theorem g835 : (.instanceMethod y_PM_keep : Cond) ∈ gt := gt_in 863 (by decide +kernel) (by decide +kernel)
theorem g836 : (.selects R_PM y_PM_keep y_PM_keep : Cond) ∈ gt := gt_in 864 (by decide +kernel) (by decide +kernel)
set_option maxRecDepth 100000 in
theorem g837 : (.code y_PM_keep b_PM_keep 3 (some .int) : Cond) ∈ gt := gt_in 865 rfl (by decide +kernel)
theorem g838 : (.methodLink R_Law 138 y_PM_again : Cond) ∈ gt := gt_in 866 (by decide +kernel) (by decide +kernel)
theorem g839 : (.instanceMethod y_PM_again : Cond) ∈ gt := gt_in 867 (by decide +kernel) (by decide +kernel)
theorem g840 : (.selects R_PM y_PM_again y_PM_again : Cond) ∈ gt := gt_in 868 (by decide +kernel) (by decide +kernel)
set_option maxRecDepth 100000 in
theorem g841 : (.code y_PM_again b_PM_again 3 (some .int) : Cond) ∈ gt := gt_in 869 rfl (by decide +kernel)
theorem g842 : (.constantLong R_Law 120 (4294967295) : Cond) ∈ gt := gt_in 870 (by decide +kernel) (by decide +kernel)
theorem gs0 : (.selects R_Scene y_Scene_firstOf y_Scene_firstOf : Cond) ∈ gt := gt_in 0 (by decide +kernel) (by decide +kernel)
theorem gs1 : (.selects R_PR y_PR_hailedIn y_PR_hailedIn : Cond) ∈ gt := gt_in 1 (by decide +kernel) (by decide +kernel)
theorem gs2 : (.selects R_PR y_PR_shown y_PR_shown : Cond) ∈ gt := gt_in 2 (by decide +kernel) (by decide +kernel)
theorem gs3 : (.selects R_PR y_PR_remember y_PR_remember : Cond) ∈ gt := gt_in 3 (by decide +kernel) (by decide +kernel)
theorem gs4 : (.selects R_PR y_PR_pass y_PR_pass : Cond) ∈ gt := gt_in 4 (by decide +kernel) (by decide +kernel)
theorem gs5 : (.selects R_PR y_PR_hailedBy y_PR_hailedBy : Cond) ∈ gt := gt_in 5 (by decide +kernel) (by decide +kernel)
theorem gs6 : (.selects R_PR y_PR_leastCleaning y_PR_leastCleaning : Cond) ∈ gt := gt_in 6 (by decide +kernel) (by decide +kernel)
theorem gs7 : (.selects R_PR y_PR_attempt y_PR_attempt : Cond) ∈ gt := gt_in 7 (by decide +kernel) (by decide +kernel)
theorem gs8 : (.selects R_PR y_PR_hailedWhenCome y_PR_hailedWhenCome : Cond) ∈ gt := gt_in 8 (by decide +kernel) (by decide +kernel)
theorem gs9 : (.selects R_PR y_PR_isAsSeen y_PR_isAsSeen : Cond) ∈ gt := gt_in 9 (by decide +kernel) (by decide +kernel)
theorem gs10 : (.selects R_PM y_PM_readHall y_PM_readHall : Cond) ∈ gt := gt_in 10 (by decide +kernel) (by decide +kernel)
theorem gs11 : (.selects R_PM y_PM_readLayers y_PM_readLayers : Cond) ∈ gt := gt_in 11 (by decide +kernel) (by decide +kernel)
theorem gs12 : (.selects R_PM y_PM_figure y_PM_figure : Cond) ∈ gt := gt_in 12 (by decide +kernel) (by decide +kernel)
theorem gs13 : (.selects R_PM y_PM_readOne y_PM_readOne : Cond) ∈ gt := gt_in 13 (by decide +kernel) (by decide +kernel)
theorem gs14 : (.selects R_PM y_PM_layShown y_PM_layShown : Cond) ∈ gt := gt_in 14 (by decide +kernel) (by decide +kernel)
theorem gs15 : (.selects R_PM y_PM_calledOf y_PM_calledOf : Cond) ∈ gt := gt_in 15 (by decide +kernel) (by decide +kernel)
theorem gs16 : (.selects R_PM y_PM_isCalled y_PM_isCalled : Cond) ∈ gt := gt_in 16 (by decide +kernel) (by decide +kernel)
theorem gs17 : (.selects R_PM y_PM_noCabman y_PM_noCabman : Cond) ∈ gt := gt_in 17 (by decide +kernel) (by decide +kernel)
theorem gs18 : (.selects R_PM y_PM_note y_PM_note : Cond) ∈ gt := gt_in 18 (by decide +kernel) (by decide +kernel)
theorem gs19 : (.selects R_PM y_PM_goNight y_PM_goNight : Cond) ∈ gt := gt_in 19 (by decide +kernel) (by decide +kernel)
theorem gs20 : (.selects R_PM y_PM_layCleaning y_PM_layCleaning : Cond) ∈ gt := gt_in 20 (by decide +kernel) (by decide +kernel)
theorem gs21 : (.selects R_PM y_PM_findBest y_PM_findBest : Cond) ∈ gt := gt_in 21 (by decide +kernel) (by decide +kernel)
theorem gs22 : (.selects R_PM y_PM_findStrokes y_PM_findStrokes : Cond) ∈ gt := gt_in 22 (by decide +kernel) (by decide +kernel)
theorem gs23 : (.selects R_PM y_PM_begin y_PM_begin : Cond) ∈ gt := gt_in 23 (by decide +kernel) (by decide +kernel)
theorem gs24 : (.selects R_PM y_PM_does y_PM_does : Cond) ∈ gt := gt_in 24 (by decide +kernel) (by decide +kernel)
theorem gs25 : (.selects R_PM y_PM_findUnder y_PM_findUnder : Cond) ∈ gt := gt_in 25 (by decide +kernel) (by decide +kernel)
theorem gs26 : (.selects R_PM y_PM_findRests y_PM_findRests : Cond) ∈ gt := gt_in 26 (by decide +kernel) (by decide +kernel)
theorem gs27 : (.selects R_PM y_PM_gainOf y_PM_gainOf : Cond) ∈ gt := gt_in 27 (by decide +kernel) (by decide +kernel)
end
section
/-! The frame: what a method knows of the machine, a contract by worlds before and after, calls. -/
def KK (D : va_G) (cI cZ : ClassId) (U : State) : Prop := va_K D classes [(cI, .int), (cZ, .boolean)] U ∧ NW U
theorem KK.warm {D : va_G} {cI cZ : ClassId} {s U : State} (hW : s.WarmedH U.vm) (h : KK D cI cZ s) : KK D cI cZ U := ⟨va_K.moved hW.alike h.1, NW.warm hW h.2⟩
def Cx (p : Program) (s : State) (m : MethodId) (args : Array Value) (meth : Method) (c : Code) (cc : ByteArray) (nL : Nat) (own : String) (D : va_G) (cI cZ : ClassId) : Prop :=
  p.tables.exec = Jvm.exec ∧ c.code = cc ∧ c.maxLocals = nL ∧ s.vm.findClass own = some m.cls ∧ (∀ w ∈ gt, w.before args s = true) ∧ meth.locks = false ∧ KK D cI cZ s
abbrev rm_ (fr lo : Nat) : Room := { frames := fr, cells := 0, slots := 0, locals := lo }
/-- a contract: from the world w0 (and any beside it) the method comes to w1 and answers r0 -/
def CtI (l : Launch) (y : MethodName) (cc : ByteArray) (maxL : Nat) (ret : Option FieldType) (lev : Nat) (D : va_G) (cI cZ : ClassId) (av : List Value) (w0 : va_W) (r0 : Int32) (w1 : va_W) : Prop :=
  ∀ sz : Nat, Met l y (.code y cc maxL ret :: gt) (rm_ lev (40 * lev)) (va_Pc av (fun U => U.heap.size = sz ∧ va_P D classes w0 U.heap ∧ KK D cI cZ U ∧ va_D (fun _ => True) w0)) (va_Qi (S := Unit) (fun r _ => r = r0) (fun _ t => va_P D classes w1 t.heap ∧ va_D (va_A w0 sz) w1) (va_A w0 sz)) 0 0 (va_A w0 sz)
def CtL (l : Launch) (y : MethodName) (cc : ByteArray) (maxL : Nat) (ret : Option FieldType) (lev : Nat) (D : va_G) (cI cZ : ClassId) (av : List Value) (w0 : va_W) (r0 : Int64) (w1 : va_W) : Prop :=
  ∀ sz : Nat, Met l y (.code y cc maxL ret :: gt) (rm_ lev (40 * lev)) (va_Pc av (fun U => U.heap.size = sz ∧ va_P D classes w0 U.heap ∧ KK D cI cZ U ∧ va_D (fun _ => True) w0)) (va_Ql (S := Unit) (fun r _ => r = r0) (fun _ t => va_P D classes w1 t.heap ∧ va_D (va_A w0 sz) w1) (va_A w0 sz)) 0 0 (va_A w0 sz)
def CtV (l : Launch) (y : MethodName) (cc : ByteArray) (maxL : Nat) (ret : Option FieldType) (lev : Nat) (D : va_G) (cI cZ : ClassId) (av : List Value) (w0 : va_W) (w1 : va_W) : Prop :=
  ∀ sz : Nat, Met l y (.code y cc maxL ret :: gt) (rm_ lev (40 * lev)) (va_Pc av (fun U => U.heap.size = sz ∧ va_P D classes w0 U.heap ∧ KK D cI cZ U ∧ va_D (fun _ => True) w0)) (va_Qv (S := Unit) (fun _ => True) (fun _ t => va_P D classes w1 t.heap ∧ va_D (va_A w0 sz) w1) (va_A w0 sz)) 0 0 (va_A w0 sz)
section MK
variable {l : Launch} {y : MethodName} {cc : ByteArray} {maxL : Nat} {lev : Nat} {D : va_G} {cI cZ : ClassId} {av : List Value} {w0 w1 : va_W}
theorem CtI_mk {ret : FieldType} {r0 : Int32} (hy : plainName y.cls = true) (hlen : (lg_sl av).length ≤ maxL) (hret : narrow ret (.int r0) = .int r0)
    (body : ∀ (p : Program) (e : Env) (s : State) (m : MethodId) (below : List Frame) (meth : Method) (c : Code) (A : Nat → Prop) (Q : State → Prop), Cx p s m av.toArray meth c cc maxL y.cls D cI cZ → (∀ q, s.heap.size ≤ q → A q) → va_P D classes w0 s.heap → va_D A w0 →
      (∀ (v : Int32) (w : va_W) (H : Heap) (locs : List Loc) (ls : Array Slot) (pc : Nat), v = r0 → w = w1 → va_P D classes w H → va_D A w → va_S A s.heap H locs → decode cc pc = .ok (.ireturn, 1) → W p l e (rm_ lev (40 * lev)) s m av.toArray below meth c H locs 0 0 Q (F0 m pc ls [.int v])) →
      ∀ ls : Array Slot, lv_has ls maxL (lv_args 0 av) → W p l e (rm_ lev (40 * lev)) s m av.toArray below meth c s.heap [] 0 0 Q (F0 m 0 ls [])) : CtI l y cc maxL (some ret) lev D cI cZ av w0 r0 w1 := by
  intro sz
  refine Met.ofW (cc := cc) (maxL := maxL) (ret := some ret) hy rfl ?_
  intro p e s m args below meth c s₁ B hml hv
  obtain ⟨rfl, hsz, hP, hK, hD0⟩ := hv
  subst hsz
  have hts := atoms_spec (ws := .code y cc maxL (some ret) :: gt) B.pre
  rw [lg_entry_eq]
  refine body p e s m below meth c (va_A w0 s.heap.size) _ ⟨B.exec, B.bytes, hml, findClass_of_methodNamed B.named, fun w hw => hts w (List.mem_cons_of_mem _ hw), B.notSynchronized, hK⟩ (fun q h => Or.inr h) hP hD0.self ?_ _ (lv_entry av hlen)
  intro v w H locs ls pc hv hw hP hD hS hd
  subst hv; subst hw
  exact W.zret B.exec B.bytes B.returns hret (fun t ht hW => ⟨⟨v, (), rfl, rfl, by rw [ht]; exact hP, hD⟩, hS.F ht⟩) hS.2.2 hd B.notSynchronized
theorem CtL_mk {r0 : Int64} (hy : plainName y.cls = true) (hlen : (lg_sl av).length ≤ maxL)
    (body : ∀ (p : Program) (e : Env) (s : State) (m : MethodId) (below : List Frame) (meth : Method) (c : Code) (A : Nat → Prop) (Q : State → Prop), Cx p s m av.toArray meth c cc maxL y.cls D cI cZ → (∀ q, s.heap.size ≤ q → A q) → va_P D classes w0 s.heap → va_D A w0 →
      (∀ (v : Int64) (w : va_W) (H : Heap) (locs : List Loc) (ls : Array Slot) (pc : Nat), v = r0 → w = w1 → va_P D classes w H → va_D A w → va_S A s.heap H locs → decode cc pc = .ok (.lreturn, 1) → W p l e (rm_ lev (40 * lev)) s m av.toArray below meth c H locs 0 0 Q (F0 m pc ls [.long v])) →
      ∀ ls : Array Slot, lv_has ls maxL (lv_args 0 av) → W p l e (rm_ lev (40 * lev)) s m av.toArray below meth c s.heap [] 0 0 Q (F0 m 0 ls [])) : CtL l y cc maxL (some .long) lev D cI cZ av w0 r0 w1 := by
  intro sz
  refine Met.ofW (cc := cc) (maxL := maxL) (ret := some .long) hy rfl ?_
  intro p e s m args below meth c s₁ B hml hv
  obtain ⟨rfl, hsz, hP, hK, hD0⟩ := hv
  subst hsz
  have hts := atoms_spec (ws := .code y cc maxL (some .long) :: gt) B.pre
  rw [lg_entry_eq]
  refine body p e s m below meth c (va_A w0 s.heap.size) _ ⟨B.exec, B.bytes, hml, findClass_of_methodNamed B.named, fun w hw => hts w (List.mem_cons_of_mem _ hw), B.notSynchronized, hK⟩ (fun q h => Or.inr h) hP hD0.self ?_ _ (lv_entry av hlen)
  intro v w H locs ls pc hv hw hP hD hS hd
  subst hv; subst hw
  exact W.lret B.exec B.bytes B.returns (fun t ht hW => ⟨⟨v, (), rfl, rfl, by rw [ht]; exact hP, hD⟩, hS.F ht⟩) hS.2.2 hd B.notSynchronized
theorem CtV_mk (hy : plainName y.cls = true) (hlen : (lg_sl av).length ≤ maxL)
    (body : ∀ (p : Program) (e : Env) (s : State) (m : MethodId) (below : List Frame) (meth : Method) (c : Code) (A : Nat → Prop) (Q : State → Prop), Cx p s m av.toArray meth c cc maxL y.cls D cI cZ → (∀ q, s.heap.size ≤ q → A q) → va_P D classes w0 s.heap → va_D A w0 →
      (∀ (w : va_W) (H : Heap) (locs : List Loc) (ls : Array Slot) (pc : Nat), w = w1 → va_P D classes w H → va_D A w → va_S A s.heap H locs → decode cc pc = .ok (.return_, 1) → W p l e (rm_ lev (40 * lev)) s m av.toArray below meth c H locs 0 0 Q (F0 m pc ls [])) →
      ∀ ls : Array Slot, lv_has ls maxL (lv_args 0 av) → W p l e (rm_ lev (40 * lev)) s m av.toArray below meth c s.heap [] 0 0 Q (F0 m 0 ls [])) : CtV l y cc maxL none lev D cI cZ av w0 w1 := by
  intro sz
  refine Met.ofW (cc := cc) (maxL := maxL) (ret := none) hy rfl ?_
  intro p e s m args below meth c s₁ B hml hv
  obtain ⟨rfl, hsz, hP, hK, hD0⟩ := hv
  subst hsz
  have hts := atoms_spec (ws := .code y cc maxL none :: gt) B.pre
  rw [lg_entry_eq]
  refine body p e s m below meth c (va_A w0 s.heap.size) _ ⟨B.exec, B.bytes, hml, findClass_of_methodNamed B.named, fun w hw => hts w (List.mem_cons_of_mem _ hw), B.notSynchronized, hK⟩ (fun q h => Or.inr h) hP hD0.self ?_ _ (lv_entry av hlen)
  intro w H locs ls pc hw hP hD hS hd
  subst hw
  exact W.vret B.exec B.bytes B.returns (fun t ht hW => ⟨⟨(), rfl, trivial, by rw [ht]; exact hP, hD⟩, hS.F ht⟩) hS.2.2 hd B.notSynchronized
end MK
/-- what a call of own's entry idx needs of the tables -/
def CwB (own : String) (idx : Nat) (y : MethodName) (cc : ByteArray) (maxL : Nat) (ret : Option FieldType) (n : Nat) : Prop :=
  (Cond.methodLink own idx y ∈ gt) ∧ (Cond.initialized y.cls ∈ gt) ∧ (Cond.code y cc maxL ret ∈ gt) ∧ (y.cls ≠ "java/lang/invoke/MethodHandle" ∧ y.cls ≠ "java/lang/invoke/VarHandle" ∧ (parseMethodDescriptor y.desc).map (fun d => d.parameters.length) = some n)
def CwV (own : String) (idx : Nat) (y : MethodName) (cc : ByteArray) (maxL : Nat) (ret : Option FieldType) (n : Nat) : Prop :=
  CwB own idx y cc maxL ret n ∧ (Cond.instanceMethod y ∈ gt) ∧ (Cond.selects y.cls y y ∈ gt)
def CwS (own : String) (idx : Nat) (y : MethodName) (cc : ByteArray) (maxL : Nat) (ret : Option FieldType) (n : Nat) : Prop :=
  CwB own idx y cc maxL ret n ∧ (Cond.static y ∈ gt)
def CwSN (own : String) (idx : Nat) (y : MethodName) (cc : ByteArray) (maxL : Nat) (ret : Option FieldType) (n : Nat) : Prop :=
  (Cond.methodLinkNest own idx y R_PR ∈ nwl) ∧ (Cond.initialized y.cls ∈ gt) ∧ (Cond.code y cc maxL ret ∈ gt) ∧ (y.cls ≠ "java/lang/invoke/MethodHandle" ∧ y.cls ≠ "java/lang/invoke/VarHandle" ∧ (parseMethodDescriptor y.desc).map (fun d => d.parameters.length) = some n) ∧ (Cond.static y ∈ gt)
section CALLS
variable {p : Program} {l : Launch} {e : Env} {R : Room} {s : State} {m : MethodId} {args : Array Value} {below : List Frame} {meth : Method} {c : Code} {H : Heap} {locs : List Loc} {cells slots : Nat} {Q : State → Prop}
variable {cc : ByteArray} {nL : Nat} {own : String} {D : va_G} {cI cZ : ClassId} {pc : Nat} {ls : Array Slot} {A : Nat → Prop} {ws : va_W} {y : MethodName} {ccy : ByteArray} {maxLy : Nat} {ret : Option FieldType} {n idx lev : Nat}
theorem gt_pay (hts : ∀ w ∈ gt, w.before args s = true) (hc : Cond.code y ccy maxLy ret ∈ gt) : ∀ w ∈ (Cond.code y ccy maxLy ret :: gt), ∀ (a' : Array Value) (U : State), s.WarmedH U.vm → w.before a' U = true := by
  intro w hw a' U hW
  rcases List.mem_cons.mp hw with rfl | hw
  · exact word_at hW (gt_good hc) (hts _ hc)
  · exact word_at hW (gt_good hw) (hts _ hw)
theorem CwB.to (h : CwB own idx y ccy maxLy ret n) (hts : ∀ w ∈ gt, w.before args s = true) (hR : lev + 1 ≤ R.frames ∧ 8 + (maxLy + 11) + 40 * lev ≤ R.locals) : CallB R s args own idx y ccy maxLy ret (.code y ccy maxLy ret :: gt) (rm_ lev (40 * lev)) 0 0 n := by
  obtain ⟨h1, h2, h3, h4, h5, h6⟩ := h
  refine ⟨rfl, rfl, hR.1, hR.2, gt_pay hts h3, List.mem_cons_self, hts _ h3, hts _ h2, ⟨h4, h5⟩, fun sig h => ?_, hts _ h1⟩
  rw [h] at h6
  exact (Option.some.inj h6).symm
theorem CwSN.to (h : CwSN own idx y ccy maxLy ret n) (hts : ∀ w ∈ gt, w.before args s = true) (hN : NW s) (hR : lev + 1 ≤ R.frames ∧ 8 + (maxLy + 11) + 40 * lev ≤ R.locals) : va_CN R s args own idx y R_PR ccy maxLy ret (.code y ccy maxLy ret :: gt) (rm_ lev (40 * lev)) 0 0 n ∧ (Cond.static y).before args s = true ∧ True := by
  obtain ⟨h1, h2, h3, ⟨h4, h5, h6⟩, h7⟩ := h
  refine ⟨⟨⟨rfl, rfl, hR.1, hR.2, gt_pay hts h3, List.mem_cons_self⟩, hts _ h3, hts _ h2, ⟨h4, h5⟩, fun sig h => ?_, va_Nw.use rfl (hN _ h1)⟩, hts _ h7, trivial⟩
  rw [h] at h6
  exact (Option.some.inj h6).symm
theorem blind_ {av : List Value} {sz : Nat} {w0 : va_W} : FrameBlind (va_Pc av (fun U => U.heap.size = sz ∧ va_P D classes w0 U.heap ∧ KK D cI cZ U ∧ va_D (fun _ => True) w0)) := by
  intro a U g mk q
  obtain ⟨q0, q1, qP, qK, qD⟩ := q
  exact ⟨q0, q1, qP, ⟨va_K.moved (u := U) (U := U.calling g mk a) (Vm.Alike.refl U.vm) qK.1, fun w hw => va_Nw.same (u := U) (U := U.calling g mk a) (by
    have h2 := (List.mem_filter.mp hw).2
    cases w <;> first | rfl | exact absurd h2 (by simp [nw_is])) rfl (qK.2 w hw)⟩, qD⟩
theorem fm_of {α β : Type} {f : α → Option β} {l : List α} {w : List β} (h : l.map f = w.map some) : l.filterMap f = w := by
  have h1 : (l.map f).filterMap id = (w.map some).filterMap id := by rw [h]
  rw [List.filterMap_map, List.filterMap_map] at h1
  simpa using h1
/-- the callee's cells out of the caller's, the rest, and the new world in its order -/
def Cut (ws wc wr w1 wn : va_W) (isC isR isP : List Nat) : Prop :=
  isC.map (fun i => ws[i]?) = wc.map some ∧ isR.map (fun i => ws[i]?) = wr.map some ∧ va_nd isR = true ∧ (∀ i ∈ isR, i ∉ isC) ∧ va_nd isP = true ∧ isP.map (fun i => (wr ++ w1)[i]?) = wn.map some
variable {wc wr w1 wn : va_W} {isC isR isP : List Nat} {st0 rest : List Value} {av : Array Value}
theorem cut_join (hP : va_P D classes ws H) (hD : va_D A ws) (hS : va_S A s.heap H locs) (hA : ∀ q, s.heap.size ≤ q → A q) (ct : Cut ws wc wr w1 wn isC isR isP) : (∀ q, va_A wc H.size q → A q) ∧ (∀ H1 : Heap, (∀ q : Nat, q < H.size → ¬ va_A wc H.size q → H1[q]? = H[q]?) → va_P D classes w1 H1 → va_D (va_A wc H.size) w1 → va_P D classes wn H1 ∧ va_D A wn) := by
  obtain ⟨h1, h2, h3, h4, h5, h6⟩ := ct
  have hF := va_free (wc := wc) hD hS hA isC h1
  refine ⟨hF, fun H1 hk hP1 hD1 => ?_⟩
  obtain ⟨hP2, hD2⟩ := va_join hP hD isC isR h1 h2 h3 h4 hk hF hP1 hD1
  exact ⟨hP2.sub isP (fm_of h6), hD2.sub isP h5 h6⟩
theorem go_i {r0 : Int32} (hP : va_P D classes ws H) (hD : va_D A ws) (hS : va_S A s.heap H locs) (hA : ∀ q, s.heap.size ≤ q → A q) (ct : Cut ws wc wr w1 wn isC isR isP)
    (hr : va_Run p l e R s m args below meth c H locs cells slots 0 0 (F0 m pc ls st0) rest (va_Qi (S := Unit) (fun r _ => r = r0) (fun _ t => va_P D classes w1 t.heap ∧ va_D (va_A wc H.size) w1) (va_A wc H.size) av) (va_A wc H.size))
    (kk : ∀ (H1 : Heap) (locs1 : List Loc), va_P D classes wn H1 → va_D A wn → va_S A s.heap H1 locs1 → W p l e R s m args below meth c H1 locs1 cells slots Q (F0 m (pc + 3) ls (.int r0 :: rest))) : W p l e R s m args below meth c H locs cells slots Q (F0 m pc ls st0) := by
  obtain ⟨hF, hj⟩ := cut_join hP hD hS hA ct
  refine va_calli hr hS (fun q _ h => hF q h) hF (fun r u t H1 locs1 ht hvm hw hB hz hk hS1 => ?_)
  obtain ⟨hP1, hD1⟩ := hB
  rw [ht] at hP1
  obtain ⟨hP2, hD2⟩ := hj H1 hk hP1 hD1
  subst hw
  exact kk H1 locs1 hP2 hD2 hS1
theorem go_l {r0 : Int64} (hP : va_P D classes ws H) (hD : va_D A ws) (hS : va_S A s.heap H locs) (hA : ∀ q, s.heap.size ≤ q → A q) (ct : Cut ws wc wr w1 wn isC isR isP)
    (hr : va_Run p l e R s m args below meth c H locs cells slots 0 0 (F0 m pc ls st0) rest (va_Ql (S := Unit) (fun r _ => r = r0) (fun _ t => va_P D classes w1 t.heap ∧ va_D (va_A wc H.size) w1) (va_A wc H.size) av) (va_A wc H.size))
    (kk : ∀ (H1 : Heap) (locs1 : List Loc), va_P D classes wn H1 → va_D A wn → va_S A s.heap H1 locs1 → W p l e R s m args below meth c H1 locs1 cells slots Q (F0 m (pc + 3) ls (.long r0 :: rest))) : W p l e R s m args below meth c H locs cells slots Q (F0 m pc ls st0) := by
  obtain ⟨hF, hj⟩ := cut_join hP hD hS hA ct
  refine va_calll hr hS (fun q _ h => hF q h) hF (fun r u t H1 locs1 ht hvm hw hB hz hk hS1 => ?_)
  obtain ⟨hP1, hD1⟩ := hB
  rw [ht] at hP1
  obtain ⟨hP2, hD2⟩ := hj H1 hk hP1 hD1
  subst hw
  exact kk H1 locs1 hP2 hD2 hS1
theorem go_v (hP : va_P D classes ws H) (hD : va_D A ws) (hS : va_S A s.heap H locs) (hA : ∀ q, s.heap.size ≤ q → A q) (ct : Cut ws wc wr w1 wn isC isR isP)
    (hr : va_Run p l e R s m args below meth c H locs cells slots 0 0 (F0 m pc ls st0) rest (va_Qv (S := Unit) (fun _ => True) (fun _ t => va_P D classes w1 t.heap ∧ va_D (va_A wc H.size) w1) (va_A wc H.size) av) (va_A wc H.size))
    (kk : ∀ (H1 : Heap) (locs1 : List Loc), va_P D classes wn H1 → va_D A wn → va_S A s.heap H1 locs1 → W p l e R s m args below meth c H1 locs1 cells slots Q (F0 m (pc + 3) ls rest)) : W p l e R s m args below meth c H locs cells slots Q (F0 m pc ls st0) := by
  obtain ⟨hF, hj⟩ := cut_join hP hD hS hA ct
  refine va_callv hr hS (fun q _ h => hF q h) hF (fun u t H1 locs1 ht hvm hw hB hz hk hS1 => ?_)
  obtain ⟨hP1, hD1⟩ := hB
  rw [ht] at hP1
  obtain ⟨hP2, hD2⟩ := hj H1 hk hP1 hD1
  exact kk H1 locs1 hP2 hD2 hS1
/-- the premises of a call's start, out of the cut -/
theorem pre_ (hC : Cx p s m args meth c cc nL own D cI cZ) (hP : va_P D classes ws H) (hD : va_D A ws) (ct : Cut ws wc wr w1 wn isC isR isP) (hnd : va_nd isC = true) (As : List Value) : ∀ U : State, U.heap = H → s.WarmedH U.vm → va_Pc As (fun U => U.heap.size = H.size ∧ va_P D classes wc U.heap ∧ KK D cI cZ U ∧ va_D (fun _ => True) wc) As.toArray U := by
  intro U hU hW
  obtain ⟨h1, -⟩ := ct
  exact ⟨rfl, by rw [hU], by rw [hU]; exact hP.sub isC (fm_of h1), KK.warm hW hC.2.2.2.2.2.2, (hD.sub isC hnd h1).weaken (fun _ _ _ _ => trivial)⟩
variable {b : Addr} {As : List Value}
theorem recv_ {ci q0 : Nat} {fs : List Value} {q : vw_C} (hC : Cx p s m args meth c cc nL own D cI cZ) (hP : va_P D classes ws H) (hq : ws[q0]? = some (b, .inr (ci, fs))) (hcl : classes[ci]? = some q) (hy : y.cls = q.1) : ∃ cellB : Cell, H[b]? = some cellB ∧ cellB.vm.isStatics = false ∧ s.vm.findClass y.cls = some cellB.cls := by
  rw [hy]
  exact va_recv hC.2.2.2.2.2.2.1 hP hcl hq
/-- a call of an object's method that answers an int -/
theorem cVi {r0 : Int32} (hM : CtI l y ccy maxLy ret lev D cI cZ (.ref b :: As) wc r0 w1) (hC : Cx p s m args meth c cc nL own D cI cZ) (hA : ∀ q, s.heap.size ≤ q → A q) (hP : va_P D classes ws H) (hD : va_D A ws) (hS : va_S A s.heap H locs) (hls : ls.size = nL) (hW : CwV own idx y ccy maxLy ret n) {ci : Nat} {fs : List Value} {q : vw_C} (q0 : Nat) (hq : ws[q0]? = some (b, .inr (ci, fs))) (hcl : classes[ci]? = some q) (hy : y.cls = q.1)
    (hR : lev + 1 ≤ R.frames ∧ 8 + (maxLy + 11) + 40 * lev ≤ R.locals) (hn : As.length = n) (hst : st0 = As.reverse ++ .ref b :: rest) (hcat : (rest.map fun v => v.category).sum ≤ 8) (hdg : decode cc pc = .ok (.invokevirtual idx, 3)) (hf : cells ≤ R.cells ∧ slots ≤ R.slots) (isC isR isP : List Nat) (hnd : va_nd isC = true) (ct : Cut ws wc wr w1 wn isC isR isP)
    (kk : ∀ (H1 : Heap) (locs1 : List Loc), va_P D classes wn H1 → va_D A wn → va_S A s.heap H1 locs1 → W p l e R s m args below meth c H1 locs1 cells slots Q (F0 m (pc + 3) ls (.int r0 :: rest))) : W p l e R s m args below meth c H locs cells slots Q (F0 m pc ls st0) :=
  go_i hP hD hS hA ct (va_runV (As := As) (rest := rest) (C := y.cls) ⟨hC.1, hC.2.1, hC.2.2.1, hC.2.2.2.1, hC.2.2.2.2.1⟩ (hM H.size) ⟨hW.1.to hC.2.2.2.2.1 hR, hC.2.2.2.2.1 _ hW.2.1, hC.2.2.2.2.1 _ hW.2.2⟩ ⟨blind_, recv_ hC hP hq hcl hy, pre_ hC hP hD ct hnd _⟩ rfl hn hls hst (lv_room hcat) hdg hf) kk
theorem cVl {r0 : Int64} (hM : CtL l y ccy maxLy ret lev D cI cZ (.ref b :: As) wc r0 w1) (hC : Cx p s m args meth c cc nL own D cI cZ) (hA : ∀ q, s.heap.size ≤ q → A q) (hP : va_P D classes ws H) (hD : va_D A ws) (hS : va_S A s.heap H locs) (hls : ls.size = nL) (hW : CwV own idx y ccy maxLy ret n) {ci : Nat} {fs : List Value} {q : vw_C} (q0 : Nat) (hq : ws[q0]? = some (b, .inr (ci, fs))) (hcl : classes[ci]? = some q) (hy : y.cls = q.1)
    (hR : lev + 1 ≤ R.frames ∧ 8 + (maxLy + 11) + 40 * lev ≤ R.locals) (hn : As.length = n) (hst : st0 = As.reverse ++ .ref b :: rest) (hcat : (rest.map fun v => v.category).sum ≤ 8) (hdg : decode cc pc = .ok (.invokevirtual idx, 3)) (hf : cells ≤ R.cells ∧ slots ≤ R.slots) (isC isR isP : List Nat) (hnd : va_nd isC = true) (ct : Cut ws wc wr w1 wn isC isR isP)
    (kk : ∀ (H1 : Heap) (locs1 : List Loc), va_P D classes wn H1 → va_D A wn → va_S A s.heap H1 locs1 → W p l e R s m args below meth c H1 locs1 cells slots Q (F0 m (pc + 3) ls (.long r0 :: rest))) : W p l e R s m args below meth c H locs cells slots Q (F0 m pc ls st0) :=
  go_l hP hD hS hA ct (va_runV (As := As) (rest := rest) (C := y.cls) ⟨hC.1, hC.2.1, hC.2.2.1, hC.2.2.2.1, hC.2.2.2.2.1⟩ (hM H.size) ⟨hW.1.to hC.2.2.2.2.1 hR, hC.2.2.2.2.1 _ hW.2.1, hC.2.2.2.2.1 _ hW.2.2⟩ ⟨blind_, recv_ hC hP hq hcl hy, pre_ hC hP hD ct hnd _⟩ rfl hn hls hst (lv_room hcat) hdg hf) kk
theorem cVv (hM : CtV l y ccy maxLy ret lev D cI cZ (.ref b :: As) wc w1) (hC : Cx p s m args meth c cc nL own D cI cZ) (hA : ∀ q, s.heap.size ≤ q → A q) (hP : va_P D classes ws H) (hD : va_D A ws) (hS : va_S A s.heap H locs) (hls : ls.size = nL) (hW : CwV own idx y ccy maxLy ret n) {ci : Nat} {fs : List Value} {q : vw_C} (q0 : Nat) (hq : ws[q0]? = some (b, .inr (ci, fs))) (hcl : classes[ci]? = some q) (hy : y.cls = q.1)
    (hR : lev + 1 ≤ R.frames ∧ 8 + (maxLy + 11) + 40 * lev ≤ R.locals) (hn : As.length = n) (hst : st0 = As.reverse ++ .ref b :: rest) (hcat : (rest.map fun v => v.category).sum ≤ 8) (hdg : decode cc pc = .ok (.invokevirtual idx, 3)) (hf : cells ≤ R.cells ∧ slots ≤ R.slots) (isC isR isP : List Nat) (hnd : va_nd isC = true) (ct : Cut ws wc wr w1 wn isC isR isP)
    (kk : ∀ (H1 : Heap) (locs1 : List Loc), va_P D classes wn H1 → va_D A wn → va_S A s.heap H1 locs1 → W p l e R s m args below meth c H1 locs1 cells slots Q (F0 m (pc + 3) ls rest)) : W p l e R s m args below meth c H locs cells slots Q (F0 m pc ls st0) :=
  go_v hP hD hS hA ct (va_runV (As := As) (rest := rest) (C := y.cls) ⟨hC.1, hC.2.1, hC.2.2.1, hC.2.2.2.1, hC.2.2.2.2.1⟩ (hM H.size) ⟨hW.1.to hC.2.2.2.2.1 hR, hC.2.2.2.2.1 _ hW.2.1, hC.2.2.2.2.1 _ hW.2.2⟩ ⟨blind_, recv_ hC hP hq hcl hy, pre_ hC hP hD ct hnd _⟩ rfl hn hls hst (lv_room hcat) hdg hf) kk
theorem cSi {r0 : Int32} (hM : CtI l y ccy maxLy ret lev D cI cZ As wc r0 w1) (hC : Cx p s m args meth c cc nL own D cI cZ) (hA : ∀ q, s.heap.size ≤ q → A q) (hP : va_P D classes ws H) (hD : va_D A ws) (hS : va_S A s.heap H locs) (hls : ls.size = nL) (hW : CwS own idx y ccy maxLy ret n)
    (hR : lev + 1 ≤ R.frames ∧ 8 + (maxLy + 11) + 40 * lev ≤ R.locals) (hn : As.length = n) (hst : st0 = As.reverse ++ rest) (hcat : (rest.map fun v => v.category).sum ≤ 8) (hdg : decode cc pc = .ok (.invokestatic idx, 3)) (hf : cells ≤ R.cells ∧ slots ≤ R.slots) (isC isR isP : List Nat) (hnd : va_nd isC = true) (ct : Cut ws wc wr w1 wn isC isR isP)
    (kk : ∀ (H1 : Heap) (locs1 : List Loc), va_P D classes wn H1 → va_D A wn → va_S A s.heap H1 locs1 → W p l e R s m args below meth c H1 locs1 cells slots Q (F0 m (pc + 3) ls (.int r0 :: rest))) : W p l e R s m args below meth c H locs cells slots Q (F0 m pc ls st0) :=
  go_i hP hD hS hA ct (va_runS (As := As) (rest := rest) ⟨hC.1, hC.2.1, hC.2.2.1, hC.2.2.2.1, hC.2.2.2.2.1⟩ (hM H.size) ⟨hW.1.to hC.2.2.2.2.1 hR, hC.2.2.2.2.1 _ hW.2⟩ ⟨blind_, pre_ hC hP hD ct hnd _⟩ rfl hn hls hst (lv_room hcat) hdg hf) kk
theorem cSv (hM : CtV l y ccy maxLy ret lev D cI cZ As wc w1) (hC : Cx p s m args meth c cc nL own D cI cZ) (hA : ∀ q, s.heap.size ≤ q → A q) (hP : va_P D classes ws H) (hD : va_D A ws) (hS : va_S A s.heap H locs) (hls : ls.size = nL) (hW : CwS own idx y ccy maxLy ret n)
    (hR : lev + 1 ≤ R.frames ∧ 8 + (maxLy + 11) + 40 * lev ≤ R.locals) (hn : As.length = n) (hst : st0 = As.reverse ++ rest) (hcat : (rest.map fun v => v.category).sum ≤ 8) (hdg : decode cc pc = .ok (.invokestatic idx, 3)) (hf : cells ≤ R.cells ∧ slots ≤ R.slots) (isC isR isP : List Nat) (hnd : va_nd isC = true) (ct : Cut ws wc wr w1 wn isC isR isP)
    (kk : ∀ (H1 : Heap) (locs1 : List Loc), va_P D classes wn H1 → va_D A wn → va_S A s.heap H1 locs1 → W p l e R s m args below meth c H1 locs1 cells slots Q (F0 m (pc + 3) ls rest)) : W p l e R s m args below meth c H locs cells slots Q (F0 m pc ls st0) :=
  go_v hP hD hS hA ct (va_runS (As := As) (rest := rest) ⟨hC.1, hC.2.1, hC.2.2.1, hC.2.2.2.1, hC.2.2.2.2.1⟩ (hM H.size) ⟨hW.1.to hC.2.2.2.2.1 hR, hC.2.2.2.2.1 _ hW.2⟩ ⟨blind_, pre_ hC hP hD ct hnd _⟩ rfl hn hls hst (lv_room hcat) hdg hf) kk
theorem cNi {r0 : Int32} (hM : CtI l y ccy maxLy ret lev D cI cZ As wc r0 w1) (hC : Cx p s m args meth c cc nL own D cI cZ) (hA : ∀ q, s.heap.size ≤ q → A q) (hP : va_P D classes ws H) (hD : va_D A ws) (hS : va_S A s.heap H locs) (hls : ls.size = nL) (hW : CwSN own idx y ccy maxLy ret n)
    (hR : lev + 1 ≤ R.frames ∧ 8 + (maxLy + 11) + 40 * lev ≤ R.locals) (hn : As.length = n) (hst : st0 = As.reverse ++ rest) (hcat : (rest.map fun v => v.category).sum ≤ 8) (hdg : decode cc pc = .ok (.invokestatic idx, 3)) (hf : cells ≤ R.cells ∧ slots ≤ R.slots) (isC isR isP : List Nat) (hnd : va_nd isC = true) (ct : Cut ws wc wr w1 wn isC isR isP)
    (kk : ∀ (H1 : Heap) (locs1 : List Loc), va_P D classes wn H1 → va_D A wn → va_S A s.heap H1 locs1 → W p l e R s m args below meth c H1 locs1 cells slots Q (F0 m (pc + 3) ls (.int r0 :: rest))) : W p l e R s m args below meth c H locs cells slots Q (F0 m pc ls st0) :=
  go_i hP hD hS hA ct (va_runSN (As := As) (rest := rest) ⟨hC.1, hC.2.1, hC.2.2.1, hC.2.2.2.1, hC.2.2.2.2.1⟩ (hM H.size) (hW.to hC.2.2.2.2.1 hC.2.2.2.2.2.2.2 hR) ⟨blind_, pre_ hC hP hD ct hnd _⟩ rfl hn hls hst (lv_room hcat) hdg hf) kk
end CALLS
/-! reading and writing rows, partial functions -/
def inb (i : Int32) (n : Nat) : Bool := !(decide (i < 0) || decide (n ≤ i.toNatClampNeg))
theorem inb_in {i : Int32} {n : Nat} (h : inb i n = true) : vp_in i n := by
  intro h1
  simp [inb] at h
  rcases h1 with h1 | h1
  · exact absurd h1 (Int32.not_lt.mpr h.1)
  · omega
def rd (f : Nat → Int32) (n : Nat) (i : Int32) : Option Int32 := if inb i n = true then some (f i.toNatClampNeg) else none
def wr (f : Nat → Int32) (n : Nat) (i x : Int32) : Option (Nat → Int32) := if inb i n = true then some (upd f i.toNatClampNeg x) else none
def cpy (f g : Nat → Int32) (n0 n1 : Nat) (sp dp k : Int32) : Option (Nat → Int32) :=
  if (¬ sp < 0 ∧ ¬ dp < 0 ∧ ¬ k < 0) ∧ sp.toNatClampNeg + k.toNatClampNeg ≤ n0 ∧ dp.toNatClampNeg + k.toNatClampNeg ≤ n1 then some (va_cpy f g sp.toNatClampNeg dp.toNatClampNeg k.toNatClampNeg) else none
theorem rd_s {f : Nat → Int32} {n : Nat} {i v : Int32} (h : rd f n i = some v) : vp_in i n ∧ f i.toNatClampNeg = v := by
  unfold rd at h
  split at h
  · exact ⟨inb_in (by assumption), Option.some.inj h⟩
  · cases h
theorem wr_s {f g : Nat → Int32} {n : Nat} {i x : Int32} (h : wr f n i x = some g) : vp_in i n ∧ upd f i.toNatClampNeg x = g := by
  unfold wr at h
  split at h
  · exact ⟨inb_in (by assumption), Option.some.inj h⟩
  · cases h
theorem o_bind {α β : Type} {o : Option α} {k : α → Option β} {x : β} (h : o.bind k = some x) : ∃ v, o = some v ∧ k v = some x := by
  cases o with
  | none => cases h
  | some v => exact ⟨v, rfl, h⟩
theorem o_pos {α : Type} {c : Prop} [Decidable c] {a b x : α} (h : c) (hf : ite c a b = x) : a = x := by rw [if_pos h] at hf; exact hf
theorem o_neg {α : Type} {c : Prop} [Decidable c] {a b x : α} (h : ¬ c) (hf : ite c a b = x) : b = x := by rw [if_neg h] at hf; exact hf
theorem o_ite {α : Type} {c : Prop} [Decidable c] {a : Option α} {x : α} (hf : ite c a none = some x) : c ∧ a = some x := by
  by_cases h : c
  · exact ⟨h, o_pos h hf⟩
  · exact absurd (o_neg h hf) (fun h => nomatch h)
theorem o_itn {α : Type} {c : Prop} [Decidable c] {a : Option α} {x : α} (hf : ite c none a = some x) : ¬ c ∧ a = some x := by
  by_cases h : c
  · exact absurd (o_pos h hf) (fun h => nomatch h)
  · exact ⟨h, o_neg h hf⟩
section ROWS
variable {p : Program} {l : Launch} {e : Env} {R : Room} {s : State} {m : MethodId} {args : Array Value} {below : List Frame} {meth : Method} {c : Code} {H : Heap} {locs : List Loc} {cells slots : Nat} {Q : State → Prop}
variable {cc : ByteArray} {nL : Nat} {own : String} {D : va_G} {cI cZ : ClassId} {pc : Nat} {ls : Array Slot} {rest : List Value} {A : Nat → Prop} {ws : va_W} {a : Nat}
theorem r_iald (hC : Cx p s m args meth c cc nL own D cI cZ) (hP : va_P D classes ws H) (q0 : Nat) {n : Nat} {f : Nat → Int32} (ha : ws[q0]? = some (a, .inl (cI, n, .inl f))) {i v : Int32} (h : rd f n i = some v) (hdg : decode cc pc = .ok (.iaload, 1))
    (kk : W p l e R s m args below meth c H locs cells slots Q (F0 m (pc + 1) ls (.int v :: rest))) : W p l e R s m args below meth c H locs cells slots Q (F0 m pc ls (.int i :: .ref a :: rest)) := by
  obtain ⟨h1, rfl⟩ := rd_s h
  exact va_iald hC.1 hC.2.1 hC.2.2.2.2.2.2.1 hP q0 0 ha rfl h1 hdg kk
theorem r_zald (hC : Cx p s m args meth c cc nL own D cI cZ) (hP : va_P D classes ws H) (q0 : Nat) {n : Nat} {f : Nat → Int32} (ha : ws[q0]? = some (a, .inl (cZ, n, .inl f))) {i v : Int32} (h : rd f n i = some v) (hdg : decode cc pc = .ok (.baload, 1))
    (kk : W p l e R s m args below meth c H locs cells slots Q (F0 m (pc + 1) ls (.int v :: rest))) : W p l e R s m args below meth c H locs cells slots Q (F0 m pc ls (.int i :: .ref a :: rest)) := by
  obtain ⟨h1, rfl⟩ := rd_s h
  exact va_zald hC.1 hC.2.1 hC.2.2.2.2.2.2.1 hP q0 1 ha rfl h1 hdg kk
theorem r_iast (hC : Cx p s m args meth c cc nL own D cI cZ) (hP : va_P D classes ws H) (hD : va_D A ws) (hS : va_S A s.heap H locs) (q0 : Nat) {n : Nat} {f g : Nat → Int32} (ha : ws[q0]? = some (a, .inl (cI, n, .inl f))) {i x : Int32} (h : wr f n i x = some g) (hdg : decode cc pc = .ok (.iastore, 1))
    (kk : ∀ (H1 : Heap) (locs1 : List Loc), va_P D classes (ws.set q0 (a, .inl (cI, n, .inl g))) H1 → va_D A (ws.set q0 (a, .inl (cI, n, .inl g))) → va_S A s.heap H1 locs1 → W p l e R s m args below meth c H1 locs1 cells slots Q (F0 m (pc + 1) ls rest)) : W p l e R s m args below meth c H locs cells slots Q (F0 m pc ls (.int x :: .int i :: .ref a :: rest)) := by
  obtain ⟨h1, rfl⟩ := wr_s h
  exact va_iast hC.1 hC.2.1 hC.2.2.2.2.2.2.1 hP hD hS q0 0 ha rfl h1 hdg kk
theorem r_zast (hC : Cx p s m args meth c cc nL own D cI cZ) (hP : va_P D classes ws H) (hD : va_D A ws) (hS : va_S A s.heap H locs) (q0 : Nat) {n : Nat} {f g : Nat → Int32} (ha : ws[q0]? = some (a, .inl (cZ, n, .inl f))) {i x : Int32} (hx : vp_nar .boolean x = x) (h : wr f n i x = some g) (hdg : decode cc pc = .ok (.bastore, 1))
    (kk : ∀ (H1 : Heap) (locs1 : List Loc), va_P D classes (ws.set q0 (a, .inl (cZ, n, .inl g))) H1 → va_D A (ws.set q0 (a, .inl (cZ, n, .inl g))) → va_S A s.heap H1 locs1 → W p l e R s m args below meth c H1 locs1 cells slots Q (F0 m (pc + 1) ls rest)) : W p l e R s m args below meth c H locs cells slots Q (F0 m pc ls (.int x :: .int i :: .ref a :: rest)) := by
  obtain ⟨h1, rfl⟩ := wr_s h
  refine va_zast hC.1 hC.2.1 hC.2.2.2.2.2.2.1 hP hD hS q0 1 ha rfl h1 hdg ?_
  rw [hx]
  exact kk
theorem r_alen (hC : Cx p s m args meth c cc nL own D cI cZ) (hP : va_P D classes ws H) (q0 : Nat) {n : Nat} {f : Nat → Int32} (ha : ws[q0]? = some (a, .inl (cI, n, .inl f))) (hdg : decode cc pc = .ok (.arraylength, 1))
    (kk : W p l e R s m args below meth c H locs cells slots Q (F0 m (pc + 1) ls (.int (Int32.ofNat n) :: rest))) : W p l e R s m args below meth c H locs cells slots Q (F0 m pc ls (.ref a :: rest)) :=
  va_alen hC.1 hC.2.1 hC.2.2.2.2.2.2.1 hP q0 0 ha rfl rfl hdg kk
theorem r_copy (hC : Cx p s m args meth c cc nL own D cI cZ) (hP : va_P D classes ws H) (hD : va_D A ws) (hS : va_S A s.heap H locs) (hls : ls.size = nL) {index : Nat} (hlink : Cond.methodLink own index arraycopyName ∈ gt) (hnat : Cond.native arraycopyName ∈ gt) (hstat : Cond.static arraycopyName ∈ gt) (hini : Cond.initialized "java/lang/System" ∈ gt) (q0 q1 : Nat) {a0 n0 n1 : Nat} {f g h : Nat → Int32} (ha0 : ws[q0]? = some (a0, .inl (cI, n0, .inl f))) (ha1 : ws[q1]? = some (a, .inl (cI, n1, .inl g))) {sp dp k : Int32} (hc : cpy f g n0 n1 sp dp k = some h)
    (hframes : 1 ≤ R.frames) (hlocals : (rest.map fun v => v.category).sum + (nativeFrameWords "java/lang/System" "arraycopy" 5 + 11) ≤ R.locals) (hdg : decode cc pc = .ok (.invokestatic index, 3))
    (kk : ∀ (H1 : Heap) (locs1 : List Loc), va_P D classes (ws.set q1 (a, .inl (cI, n1, .inl h))) H1 → va_D A (ws.set q1 (a, .inl (cI, n1, .inl h))) → va_S A s.heap H1 locs1 → W p l e R s m args below meth c H1 locs1 cells slots Q (F0 m (pc + 3) ls rest)) : W p l e R s m args below meth c H locs cells slots Q (F0 m pc ls (.int k :: .int dp :: .ref a :: .int sp :: .ref a0 :: rest)) := by
  unfold cpy at hc
  obtain ⟨⟨⟨h1, h2, h3⟩, h4, h5⟩, hc⟩ := o_ite hc
  cases hc
  exact va_copyi hC.1 hC.2.1 (hC.2.2.1.trans hls.symm) hC.2.2.2.1 (hC.2.2.2.2.1 _ hlink) (hC.2.2.2.2.1 _ hnat) (hC.2.2.2.2.1 _ hstat) (hC.2.2.2.2.1 _ hini) hC.2.2.2.2.2.2.1 hP hD hS q0 q1 0 0 ha0 ha1 rfl rfl rfl h1 h2 h3 h4 h5 (fun i _ => rfl) hframes hlocals hdg kk
end ROWS
end
