set_option maxHeartbeats 4000000 in
set_option maxRecDepth 100000 in
theorem c_PR_keep (l : Launch) (D : va_G) (cI cZ : ClassId) (a_p0 a_now a_now_off a_now_waited a_slots a_slots_cells z_text z_hall z_trial z_hand z_acts z_seen : Nat) (i1 : Int32) (v_actCount : Int32) (v_slotsKept : Int32) (v_seed : Int64) (v_now_nights : Int32) (v_now_off : Nat → Int32) (v_now_waited : Nat → Int32) (v_slots_places : Int32) (v_slots_cells : Nat → Int32) (res : Int32 × Int32 × (Nat → Int32)) (hf : f_PR_keep i1 v_now_nights v_now_off v_now_waited v_slots_places v_slotsKept v_slots_cells = some res) : CtI l y_PR_keep b_PR_keep 2 (some .int) 2 D cI cZ [.ref a_p0, .int i1] (cs_PR_keep cI cZ a_p0 a_now a_now_off a_now_waited a_slots a_slots_cells z_text z_hall z_trial z_hand z_acts z_seen v_actCount v_slotsKept v_seed v_now_nights v_now_off v_now_waited v_slots_places v_slots_cells) res.1 (cs_PR_keep cI cZ a_p0 a_now a_now_off a_now_waited a_slots a_slots_cells z_text z_hall z_trial z_hand z_acts z_seen v_actCount res.2.1 v_seed v_now_nights v_now_off v_now_waited v_slots_places res.2.2) := by
  refine CtI_mk (by decide) (Nat.le_of_ble_eq_true rfl) ?_
  intro p e s m args below meth c A Q hC hA hP hD RET ls hl
  have hC : Cx p s m args meth c b_PR_keep 2 R_PR D cI cZ := hC
  have hl : lv_has ls 2 [(0, .ref a_p0), (1, .int i1)] := hl
  obtain ⟨hx, hb, hml, hown, hts, hlk, hKK⟩ := id hC
  have hS : va_S A s.heap s.heap [] := va_S.rf
  have B_9 : ∀  (v_slotsKept : Int32) (v_slots_cells : Nat → Int32) (H : Heap) (locs : List Loc) (ls : Array Slot), va_P D classes (cs_PR_keep cI cZ a_p0 a_now a_now_off a_now_waited a_slots a_slots_cells z_text z_hall z_trial z_hand z_acts z_seen v_actCount v_slotsKept v_seed v_now_nights v_now_off v_now_waited v_slots_places v_slots_cells) H → va_D A (cs_PR_keep cI cZ a_p0 a_now a_now_off a_now_waited a_slots a_slots_cells z_text z_hall z_trial z_hand z_acts z_seen v_actCount v_slotsKept v_seed v_now_nights v_now_off v_now_waited v_slots_places v_slots_cells) → va_S A s.heap H locs → lv_has ls 2 [] → f_PR_keep_9  v_now_nights v_now_off v_now_waited v_slots_places v_slotsKept v_slots_cells = some res → W p l e (rm_ 2 (40 * 2)) s m args below meth c H locs 0 0 Q (F0 m 9 ls []) := by
    intro  v_slotsKept v_slots_cells H locs ls hP hD hS hl hf
    unfold f_PR_keep_9 at hf
    refine lv_iconst (v := (-1)) hx hb d_PR_keep_9 (by decide) ?_
    have hr := Option.some.inj hf
    exact RET _ _ _ _ _ _ rfl (congrArg (fun r : Int32 × Int32 × (Nat → Int32) => r.1) hr) (congrArg (fun r : Int32 × Int32 × (Nat → Int32) => (cs_PR_keep cI cZ a_p0 a_now a_now_off a_now_waited a_slots a_slots_cells z_text z_hall z_trial z_hand z_acts z_seen v_actCount r.2.1 v_seed v_now_nights v_now_off v_now_waited v_slots_places r.2.2)) hr) hP hD hS d_PR_keep_10
  unfold f_PR_keep at hf
  have E : ∀ (H : Heap) (locs : List Loc), va_P D classes (cs_PR_keep cI cZ a_p0 a_now a_now_off a_now_waited a_slots a_slots_cells z_text z_hall z_trial z_hand z_acts z_seen v_actCount v_slotsKept v_seed v_now_nights v_now_off v_now_waited v_slots_places v_slots_cells) H → va_S A s.heap H locs → W p l e (rm_ 2 (40 * 2)) s m args below meth c H locs 0 0 Q (F0 m 0 ls []) := by
    intro H locs hP hS
    refine lv_iload_n hx hb d_PR_keep_0 rfl (lv_at hl 1 rfl) ?_
    refine lv_if_lt (tgt := 9) hx hb d_PR_keep_1 (by decide) (fun c1 => ?_) (fun c1 => ?_)
    · have hf := o_pos c1 hf
      exact B_9 v_slotsKept v_slots_cells _ _ _ hP hD hS (lv_sub hl [] rfl) hf
    · have hf := o_neg c1 hf
      refine lv_iload_n hx hb d_PR_keep_4 rfl (lv_at hl 1 rfl) ?_
      refine lv_iconst (v := 2) hx hb d_PR_keep_5 (by decide) ?_
      refine lv_icmp_lt (tgt := 11) hx hb d_PR_keep_6 (by decide) (fun c2 => ?_) (fun c2 => ?_)
      · have hf := o_pos c2 hf
        refine lv_aload_n hx hb d_PR_keep_11 rfl (lv_at hl 0 rfl) ?_
        refine gf_PR_49 hC hP 0 rfl rfl d_PR_keep_12 ?_
        refine lv_iload_n hx hb d_PR_keep_15 rfl (lv_at hl 1 rfl) ?_
        refine lv_aload_n hx hb d_PR_keep_16 rfl (lv_at hl 0 rfl) ?_
        refine gf_PR_26 hC hP 0 rfl rfl d_PR_keep_17 ?_
        obtain ⟨r3, h4, hf⟩ := o_bind hf
        refine cVv (rest := []) (wr := [(a_p0, .inr (6, [.ref z_text, .ref z_hall, .ref a_now, .ref z_trial, .ref z_hand, .ref z_acts, .ref a_slots, .ref z_seen, .int v_actCount, .int v_slotsKept, .long v_seed]))]) (wn := (cs_PR_keep cI cZ a_p0 a_now a_now_off a_now_waited a_slots a_slots_cells z_text z_hall z_trial z_hand z_acts z_seen v_actCount v_slotsKept v_seed v_now_nights v_now_off v_now_waited v_slots_places r3)) (c_Shelf_put l D cI cZ a_slots a_slots_cells a_now a_now_off a_now_waited 20 i1 v_slots_places v_slots_cells v_now_nights v_now_off v_now_waited r3 h4) hC hA hP hD hS hl.1 cw_PR_230 4 rfl rfl rfl ⟨Nat.le_of_ble_eq_true rfl, Nat.le_of_ble_eq_true rfl⟩ rfl rfl (Nat.le_of_ble_eq_true rfl) d_PR_keep_20 ⟨Nat.zero_le _, Nat.zero_le _⟩ [4, 5, 1, 2, 3] [0] [0, 3, 4, 5, 1, 2] (by decide) (Cut_mk rfl rfl (by decide) (by decide) (by decide) rfl) (fun H locs hP hD hS => ?_)
        refine lv_aload_n hx hb d_PR_keep_23 rfl (lv_at hl 0 rfl) ?_
        refine lv_dup hx hb d_PR_keep_24 rfl ?_
        refine gf_PR_63 hC hP 0 rfl rfl d_PR_keep_25 ?_
        refine lv_iconst (v := 1) hx hb d_PR_keep_28 (by decide) ?_
        refine lv_iload_n hx hb d_PR_keep_29 rfl (lv_at hl 1 rfl) ?_
        refine lv_ishl hx hb d_PR_keep_30 ?_
        refine lv_ior hx hb d_PR_keep_31 ?_
        refine pf_PR_63 hC hP hD hS 0 rfl (Nat.le_of_ble_eq_true rfl) d_PR_keep_32 (fun H locs hP hD hS => ?_)
        have hP : va_P D classes (cs_PR_keep cI cZ a_p0 a_now a_now_off a_now_waited a_slots a_slots_cells z_text z_hall z_trial z_hand z_acts z_seen v_actCount (v_slotsKept ||| (slI 1 i1)) v_seed v_now_nights v_now_off v_now_waited v_slots_places r3) H := hP
        have hD : va_D A (cs_PR_keep cI cZ a_p0 a_now a_now_off a_now_waited a_slots a_slots_cells z_text z_hall z_trial z_hand z_acts z_seen v_actCount (v_slotsKept ||| (slI 1 i1)) v_seed v_now_nights v_now_off v_now_waited v_slots_places r3) := hD
        refine lv_aload_n hx hb d_PR_keep_35 rfl (lv_at hl 0 rfl) ?_
        refine gf_PR_26 hC hP 0 rfl rfl d_PR_keep_36 ?_
        refine gf_PR_101 hC hP 1 rfl rfl d_PR_keep_39 ?_
        have hr := Option.some.inj hf
        exact RET _ _ _ _ _ _ rfl (congrArg (fun r : Int32 × Int32 × (Nat → Int32) => r.1) hr) (congrArg (fun r : Int32 × Int32 × (Nat → Int32) => (cs_PR_keep cI cZ a_p0 a_now a_now_off a_now_waited a_slots a_slots_cells z_text z_hall z_trial z_hand z_acts z_seen v_actCount r.2.1 v_seed v_now_nights v_now_off v_now_waited v_slots_places r.2.2)) hr) hP hD hS d_PR_keep_42
      · have hf := o_neg c2 hf
        exact B_9 v_slotsKept v_slots_cells _ _ _ hP hD hS (lv_sub hl [] rfl) hf
  exact E _ _ hP hS
set_option maxHeartbeats 4000000 in
set_option maxRecDepth 100000 in
theorem c_PR_again (l : Launch) (D : va_G) (cI cZ : ClassId) (a_p0 a_now a_now_off a_now_waited a_slots a_slots_cells z_text z_hall z_trial z_hand z_acts z_seen : Nat) (i1 : Int32) (v_actCount : Int32) (v_slotsKept : Int32) (v_seed : Int64) (v_now_nights : Int32) (v_now_off : Nat → Int32) (v_now_waited : Nat → Int32) (v_slots_places : Int32) (v_slots_cells : Nat → Int32) (res : Int32 × Int32 × Int32 × (Nat → Int32) × (Nat → Int32)) (hf : f_PR_again i1 v_slotsKept v_slots_places v_slots_cells v_actCount v_now_nights v_now_off v_now_waited = some res) : CtI l y_PR_again b_PR_again 2 (some .int) 2 D cI cZ [.ref a_p0, .int i1] (cs_PR_again cI cZ a_p0 a_now a_now_off a_now_waited a_slots a_slots_cells z_text z_hall z_trial z_hand z_acts z_seen v_actCount v_slotsKept v_seed v_now_nights v_now_off v_now_waited v_slots_places v_slots_cells) res.1 (cs_PR_again cI cZ a_p0 a_now a_now_off a_now_waited a_slots a_slots_cells z_text z_hall z_trial z_hand z_acts z_seen res.2.1 v_slotsKept v_seed res.2.2.1 res.2.2.2.1 res.2.2.2.2 v_slots_places v_slots_cells) := by
  refine CtI_mk (by decide) (Nat.le_of_ble_eq_true rfl) ?_
  intro p e s m args below meth c A Q hC hA hP hD RET ls hl
  have hC : Cx p s m args meth c b_PR_again 2 R_PR D cI cZ := hC
  have hl : lv_has ls 2 [(0, .ref a_p0), (1, .int i1)] := hl
  obtain ⟨hx, hb, hml, hown, hts, hlk, hKK⟩ := id hC
  have hS : va_S A s.heap s.heap [] := va_S.rf
  have B_9 : ∀  (v_actCount : Int32) (v_now_nights : Int32) (v_now_off : Nat → Int32) (v_now_waited : Nat → Int32) (H : Heap) (locs : List Loc) (ls : Array Slot), va_P D classes (cs_PR_again cI cZ a_p0 a_now a_now_off a_now_waited a_slots a_slots_cells z_text z_hall z_trial z_hand z_acts z_seen v_actCount v_slotsKept v_seed v_now_nights v_now_off v_now_waited v_slots_places v_slots_cells) H → va_D A (cs_PR_again cI cZ a_p0 a_now a_now_off a_now_waited a_slots a_slots_cells z_text z_hall z_trial z_hand z_acts z_seen v_actCount v_slotsKept v_seed v_now_nights v_now_off v_now_waited v_slots_places v_slots_cells) → va_S A s.heap H locs → lv_has ls 2 [] → f_PR_again_9  v_slotsKept v_slots_places v_slots_cells v_actCount v_now_nights v_now_off v_now_waited = some res → W p l e (rm_ 2 (40 * 2)) s m args below meth c H locs 0 0 Q (F0 m 9 ls []) := by
    intro  v_actCount v_now_nights v_now_off v_now_waited H locs ls hP hD hS hl hf
    unfold f_PR_again_9 at hf
    refine lv_iconst (v := (-1)) hx hb d_PR_again_9 (by decide) ?_
    have hr := Option.some.inj hf
    exact RET _ _ _ _ _ _ rfl (congrArg (fun r : Int32 × Int32 × Int32 × (Nat → Int32) × (Nat → Int32) => r.1) hr) (congrArg (fun r : Int32 × Int32 × Int32 × (Nat → Int32) × (Nat → Int32) => (cs_PR_again cI cZ a_p0 a_now a_now_off a_now_waited a_slots a_slots_cells z_text z_hall z_trial z_hand z_acts z_seen r.2.1 v_slotsKept v_seed r.2.2.1 r.2.2.2.1 r.2.2.2.2 v_slots_places v_slots_cells)) hr) hP hD hS d_PR_again_10
  unfold f_PR_again at hf
  have E : ∀ (H : Heap) (locs : List Loc), va_P D classes (cs_PR_again cI cZ a_p0 a_now a_now_off a_now_waited a_slots a_slots_cells z_text z_hall z_trial z_hand z_acts z_seen v_actCount v_slotsKept v_seed v_now_nights v_now_off v_now_waited v_slots_places v_slots_cells) H → va_S A s.heap H locs → W p l e (rm_ 2 (40 * 2)) s m args below meth c H locs 0 0 Q (F0 m 0 ls []) := by
    intro H locs hP hS
    refine lv_iload_n hx hb d_PR_again_0 rfl (lv_at hl 1 rfl) ?_
    refine lv_if_lt (tgt := 9) hx hb d_PR_again_1 (by decide) (fun c1 => ?_) (fun c1 => ?_)
    · have hf := o_pos c1 hf
      exact B_9 v_actCount v_now_nights v_now_off v_now_waited _ _ _ hP hD hS (lv_sub hl [] rfl) hf
    · have hf := o_neg c1 hf
      refine lv_iload_n hx hb d_PR_again_4 rfl (lv_at hl 1 rfl) ?_
      refine lv_iconst (v := 2) hx hb d_PR_again_5 (by decide) ?_
      refine lv_icmp_lt (tgt := 11) hx hb d_PR_again_6 (by decide) (fun c2 => ?_) (fun c2 => ?_)
      · have hf := o_pos c2 hf
        refine lv_aload_n hx hb d_PR_again_11 rfl (lv_at hl 0 rfl) ?_
        refine gf_PR_63 hC hP 0 rfl rfl d_PR_again_12 ?_
        refine lv_iload_n hx hb d_PR_again_15 rfl (lv_at hl 1 rfl) ?_
        refine lv_ishr hx hb d_PR_again_16 ?_
        refine lv_iconst (v := 1) hx hb d_PR_again_17 (by decide) ?_
        refine lv_iand hx hb d_PR_again_18 ?_
        refine lv_if_ne (tgt := 25) hx hb d_PR_again_19 (by decide) (fun c3 => ?_) (fun c3 => ?_)
        · have hf := o_neg c3 hf
          refine lv_aload_n hx hb d_PR_again_25 rfl (lv_at hl 0 rfl) ?_
          refine gf_PR_49 hC hP 0 rfl rfl d_PR_again_26 ?_
          refine lv_iload_n hx hb d_PR_again_29 rfl (lv_at hl 1 rfl) ?_
          refine lv_aload_n hx hb d_PR_again_30 rfl (lv_at hl 0 rfl) ?_
          refine gf_PR_26 hC hP 0 rfl rfl d_PR_again_31 ?_
          obtain ⟨r4, h5, hf⟩ := o_bind hf
          refine cVv (rest := []) (wr := [(a_p0, .inr (6, [.ref z_text, .ref z_hall, .ref a_now, .ref z_trial, .ref z_hand, .ref z_acts, .ref a_slots, .ref z_seen, .int v_actCount, .int v_slotsKept, .long v_seed]))]) (wn := (cs_PR_again cI cZ a_p0 a_now a_now_off a_now_waited a_slots a_slots_cells z_text z_hall z_trial z_hand z_acts z_seen v_actCount v_slotsKept v_seed r4.1 r4.2.1 r4.2.2 v_slots_places v_slots_cells)) (c_Shelf_take l D cI cZ a_slots a_slots_cells a_now a_now_off a_now_waited 20 i1 v_slots_places v_slots_cells v_now_nights v_now_off v_now_waited r4 h5) hC hA hP hD hS hl.1 cw_PR_164 4 rfl rfl rfl ⟨Nat.le_of_ble_eq_true rfl, Nat.le_of_ble_eq_true rfl⟩ rfl rfl (Nat.le_of_ble_eq_true rfl) d_PR_again_34 ⟨Nat.zero_le _, Nat.zero_le _⟩ [4, 5, 1, 2, 3] [0] [0, 3, 4, 5, 1, 2] (by decide) (Cut_mk rfl rfl (by decide) (by decide) (by decide) rfl) (fun H locs hP hD hS => ?_)
          refine lv_aload_n hx hb d_PR_again_37 rfl (lv_at hl 0 rfl) ?_
          refine lv_iconst (v := 0) hx hb d_PR_again_38 (by decide) ?_
          refine pf_PR_59 hC hP hD hS 0 rfl (Nat.le_of_ble_eq_true rfl) d_PR_again_39 (fun H locs hP hD hS => ?_)
          have hP : va_P D classes (cs_PR_again cI cZ a_p0 a_now a_now_off a_now_waited a_slots a_slots_cells z_text z_hall z_trial z_hand z_acts z_seen 0 v_slotsKept v_seed r4.1 r4.2.1 r4.2.2 v_slots_places v_slots_cells) H := hP
          have hD : va_D A (cs_PR_again cI cZ a_p0 a_now a_now_off a_now_waited a_slots a_slots_cells z_text z_hall z_trial z_hand z_acts z_seen 0 v_slotsKept v_seed r4.1 r4.2.1 r4.2.2 v_slots_places v_slots_cells) := hD
          refine lv_aload_n hx hb d_PR_again_42 rfl (lv_at hl 0 rfl) ?_
          refine gf_PR_26 hC hP 0 rfl rfl d_PR_again_43 ?_
          refine gf_PR_101 hC hP 1 rfl rfl d_PR_again_46 ?_
          have hr := Option.some.inj hf
          exact RET _ _ _ _ _ _ rfl (congrArg (fun r : Int32 × Int32 × Int32 × (Nat → Int32) × (Nat → Int32) => r.1) hr) (congrArg (fun r : Int32 × Int32 × Int32 × (Nat → Int32) × (Nat → Int32) => (cs_PR_again cI cZ a_p0 a_now a_now_off a_now_waited a_slots a_slots_cells z_text z_hall z_trial z_hand z_acts z_seen r.2.1 v_slotsKept v_seed r.2.2.1 r.2.2.2.1 r.2.2.2.2 v_slots_places v_slots_cells)) hr) hP hD hS d_PR_again_49
        · have hf := o_pos c3 hf
          refine lv_bipush (v := (-3)) hx hb d_PR_again_22 (by decide) ?_
          have hr := Option.some.inj hf
          exact RET _ _ _ _ _ _ rfl (congrArg (fun r : Int32 × Int32 × Int32 × (Nat → Int32) × (Nat → Int32) => r.1) hr) (congrArg (fun r : Int32 × Int32 × Int32 × (Nat → Int32) × (Nat → Int32) => (cs_PR_again cI cZ a_p0 a_now a_now_off a_now_waited a_slots a_slots_cells z_text z_hall z_trial z_hand z_acts z_seen r.2.1 v_slotsKept v_seed r.2.2.1 r.2.2.2.1 r.2.2.2.2 v_slots_places v_slots_cells)) hr) hP hD hS d_PR_again_24
      · have hf := o_neg c2 hf
        exact B_9 v_actCount v_now_nights v_now_off v_now_waited _ _ _ hP hD hS (lv_sub hl [] rfl) hf
  exact E _ _ hP hS
